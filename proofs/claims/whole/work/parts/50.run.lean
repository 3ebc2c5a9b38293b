/-! run -/
section
variable {u : SX} {v : SY} {he fr wu wa ou lg dn cl sy tc lc us st og an : Int32} {re : Int64} {rd co cc ca hp np gx fm fp ce cd lk of fl gy mk hi lo sk : Nat → Int32}
variable {H : Nat → Nat} {R : Nat → Prop} {K : Nat → Nat → Nat} {p : Nat → Nat} {l : List Nat}
theorem step_both (hs : zR_s u v) (hb : zR_b u H R K) {s : SX} {t : SY} {k : Int32} (h : zS u v H R K s t k) : zN u v H R K s t k := by
  obtain ⟨p, l, D, m, i, he, wu, dn, cl, sy, tc, lc, us, og, rd, co, cc, ca, hp, np, gx, fm, fp, ce, cd, lk, of, fl, gy, mk, hi, lo, sk, rfl, rfl, hc, hh, hF⟩ := h
  have o24 := (zS_top hs hb hc hF).2.2.2.2.2.2.2.2.1
  have cs : ((zw_op (gX_ops u) (24 * m + i)) = 0 ∨ (zw_op (gX_ops u) (24 * m + i)) = 1) ∨ (zw_op (gX_ops u) (24 * m + i)) = 2 ∨ (zw_op (gX_ops u) (24 * m + i)) = 3 ∨ ((zw_op (gX_ops u) (24 * m + i)) = 4 ∨ (zw_op (gX_ops u) (24 * m + i)) = 5 ∨ (zw_op (gX_ops u) (24 * m + i)) = 6 ∨ (zw_op (gX_ops u) (24 * m + i)) = 7) ∨ (zw_op (gX_ops u) (24 * m + i)) = 8 ∨ ((zw_op (gX_ops u) (24 * m + i)) = 9 ∨ (zw_op (gX_ops u) (24 * m + i)) = 10) ∨ (zw_op (gX_ops u) (24 * m + i)) = 11 ∨ (zw_op (gX_ops u) (24 * m + i)) = 12 ∨ (zw_op (gX_ops u) (24 * m + i)) = 13 ∨ (zw_op (gX_ops u) (24 * m + i)) = 14 ∨ (zw_op (gX_ops u) (24 * m + i)) = 15 ∨ (zw_op (gX_ops u) (24 * m + i)) = 16 ∨ (zw_op (gX_ops u) (24 * m + i)) = 17 ∨ (zw_op (gX_ops u) (24 * m + i)) = 18 ∨ (zw_op (gX_ops u) (24 * m + i)) = 19 ∨ (zw_op (gX_ops u) (24 * m + i)) = 20 ∨ (zw_op (gX_ops u) (24 * m + i)) = 21 ∨ (zw_op (gX_ops u) (24 * m + i)) = 22 ∨ (zw_op (gX_ops u) (24 * m + i)) = 23 := by omega
  rcases cs with w | w | w | w | w | w | w | w | w | w | w | w | w | w | w | w | w | w | w
  · exact op_0 hs hb hc hh hF w
  · exact op_2 hs hb hc hh hF w
  · exact op_3 hs hb hc hh hF w
  · exact op_4 hs hb hc hh hF w
  · exact op_8 hs hb hc hh hF w
  · exact op_9 hs hb hc hh hF w
  · exact op_11 hs hb hc hh hF w
  · exact op_12 hs hb hc hh hF w
  · exact op_13 hs hb hc hh hF w
  · exact op_14 hs hb hc hh hF w
  · exact op_15 hs hb hc hh hF w
  · exact op_16 hs hb hc hh hF w
  · exact op_17 hs hb hc hh hF w
  · exact op_18 hs hb hc hh hF w
  · exact op_19 hs hb hc hh hF w
  · exact op_20 hs hb hc hh hF w
  · exact op_21 hs hb hc hh hF w
  · exact op_22 hs hb hc hh hF w
  · exact op_23 hs hb hc hh hF w
/-- the relation behind a run -/
theorem run_rel (hs : zR_s u v) (hb : zR_b u H R K) (ef : gX_faultPlace u = gY_fault v) (hc : zR_c1 (gX_ops u) (gX_operands u) (gX_lengths u) co cc ca cd lk H R) (hh : zR_h1 (gX_superOf u) (gX_fieldCount u) (gX_refFields u) of fl hp gx gy he us p l) {k : Nat} {fr' : Int32} : i_Rel k (rX he fr wu (-1) ou re og dn cl sy tc lc rd co cc ca hp np gx fm fp ce u) (rY us fr' wu dn og an cl sy tc lc re rd cd lk of fl gy mk fm fp hi lo sk v) := by
  refine ⟨H, R, K, p, l, ?_, ?_, ?_, ?_, ⟨rfl, rfl, rfl, rfl, rfl, rfl, rfl, rfl, rfl⟩, rfl, ?_, rfl, rfl⟩
  · unfold zR_s
    rw [rX_superOf, rX_ownMethods, rX_initialisers, rX_ops, rX_operands, rX_lengths, rX_catchFrom, rX_catchTo, rX_catchGoal, rX_refMaps, rX_frameWords, rX_fieldCount, rX_refFields, rY_up, rY_slots, rY_first, rY_ops, rY_args, rY_length, rY_from, rY_to, rY_goal, rY_maps, rY_words, rY_ints, rY_references]
    exact hs
  · unfold zR_b
    rw [rX_superOf, rX_fieldCount, rX_refFields, rX_ops, rX_operands, rX_lengths, rX_catchFrom, rX_catchTo, rX_catchGoal, rX_refMaps, rX_bodyHeights, rX_frameWords]
    exact hb
  · unfold zR_c
    rw [rX_ops, rX_operands, rX_lengths, rX_codeOps, rX_codeCells, rX_codeArgs, rY_coded, rY_linked]
    exact hc
  · unfold zR_h
    rw [rX_superOf, rX_fieldCount, rX_refFields, rX_heap, rX_globals, rX_heapEnd, rY_of, rY_fields, rY_globals, rY_used]
    exact hh
  · rw [rX_faultPlace, rY_fault]; exact ef
theorem run_end (hs : zR_s u v) (hb : zR_b u H R K) (ef : gX_faultPlace u = gY_fault v) {s : SX} {t : SY} {k : Nat} {x : Int32} (h : zE u v H R s t x) :
  ∃ r s' t', r ≠ 2 ∧ gX_outcome s = r ∧ gY_answer t = r ∧ s' = sX_done x s ∧ (∀ post : Int32 → SY → Prop, post r t' → kY_run_135 post t) ∧ i_Rel k s' t' := by
  obtain ⟨p, l, an, he, fr, wu, lg, dn, cl, sy, tc, lc, us, og, re, rd, co, cc, ca, hp, np, gx, fm, fp, ce, cd, lk, of, fl, gy, mk, hi, lo, sk, rfl, rfl, hc, hh, h⟩ := h
  rcases h with ⟨rfl, el⟩ | ⟨rfl, el⟩
  · refine ⟨0, _, (rY us 0 wu x (-1) 0 cl sy tc lc re rd cd lk of fl gy mk fm fp hi lo sk v), by decide, rX_outcome .., rY_answer .., rfl, fun post hpp => uY_run_135 ?_, ?_⟩
    · rw [rY_answer]
      refine br_f (by decide) ?_
      rw [rY__depth_origin]; exact hpp
    · rw [rX__done, el]
      exact run_rel hs hb ef hc hh
  · refine ⟨1, _, (rY us 0 wu x og 1 cl sy tc lc re rd cd lk of fl gy mk fm fp hi lo sk v), by decide, rX_outcome .., rY_answer .., rfl, fun post hpp => uY_run_135 ?_, ?_⟩
    · rw [rY_answer]
      refine br_t rfl ?_
      rw [rY__depth]; exact hpp
    · rw [rX__done, el]
      exact run_rel hs hb ef hc hh
theorem run_loop (hs : zR_s u v) (hb : zR_b u H R K) (ef : gX_faultPlace u = gY_fault v) {k : Nat} : ∀ (d x : Nat) (s : SX) (t : SY), x + d = 1000 → (zS u v H R K s t (nI x) ∨ zE u v H R s t (nI x)) → ∃ r s' t', (∀ post : Int32 → SX → Prop, post r s' → kX_run_67 post (d + 1) (nI x) s) ∧ (∀ post : Int32 → SY → Prop, post r t' → kY_run_110 post (d + 1) t) ∧ i_Rel k s' t' := by
  intro d
  induction d with
  | zero =>
    intro x s t h I
    have x1000 : (1000 : Int32) ≤ nI x := nI_le (a := 1000) (by omega) (by omega)
    rcases I with I | I
    · obtain ⟨p, l, D, m, i, he, wu, dn, cl, sy, tc, lc, us, og, rd, co, cc, ca, hp, np, gx, fm, fp, ce, cd, lk, of, fl, gy, mk, hi, lo, sk, rfl, rfl, hc, hh, hF⟩ := I
      refine ⟨2, (rX he (nI (D + 1)) wu (-1) 2 10000000000 (-1) (nI x) cl sy tc lc rd co cc ca hp np gx fm fp ce u), (rY us 0 wu (nI x) (-1) 2 cl sy tc lc 10000000000 rd cd lk of fl gy mk fm fp hi lo sk v), fun post hpp => uX_run_67 (br_t x1000 ?_), fun post hpp => uY_run_110 ?_, run_rel hs hb ef hc hh⟩
      · rw [rX_outcome, rX__done]; exact hpp
      · rw [rY_answer, rY_steps]
        refine br_t rfl (br_t x1000 (uY_run_135 ?_))
        rw [rY_answer]
        refine br_f (by decide) ?_
        rw [rY__depth_origin]; exact hpp
    · obtain ⟨r, s', t', r2, eX, eY, es, hY, hR⟩ := run_end (k := k) hs hb ef I
      refine ⟨r, s', t', fun post hpp => uX_run_67 (br_t x1000 ?_), fun post hpp => uY_run_110 (br_f (by rw [eY]; exact r2) (hY post hpp)), hR⟩
      rw [eX, ← es]; exact hpp
  | succ d ih =>
    intro x s t h I
    have n1000 : ¬ (1000 : Int32) ≤ nI x := nI_ge (b := 1000) (by omega) (by decide)
    rcases I with I | I
    · obtain ⟨s1, t1, wX, wY, I1⟩ := step_both hs hb I
      obtain ⟨p, l, D, m, i, he, wu, dn, cl, sy, tc, lc, us, og, rd, co, cc, ca, hp, np, gx, fm, fp, ce, cd, lk, of, fl, gy, mk, hi, lo, sk, rfl, rfl, hc, hh, hF⟩ := I
      rw [nI_1] at I1
      obtain ⟨r, s', t', hX, hY, hR⟩ := ih (x + 1) s1 t1 (by omega) I1
      refine ⟨r, s', t', fun post hpp => uX_run_67 (br_f n1000 (br_t (rX_outcome ..) ?_)), fun post hpp => uY_run_110 ?_, hR⟩
      · exact wX (fun u1 => ∀ x5, x5 = nI x + 1 → kX_run_67 post (d + 1) x5 u1) (nm_r (nI_1 x) (hX post hpp))
      · rw [rY_answer, rY_steps]
        exact br_t rfl (br_f n1000 (wY _ (hY post hpp)))
    · obtain ⟨r, s', t', r2, eX, eY, es, hY, hR⟩ := run_end (k := k) hs hb ef I
      refine ⟨r, s', t', fun post hpp => uX_run_67 (br_f n1000 (br_f (by rw [eX]; exact r2) ?_)), fun post hpp => uY_run_110 (br_f (by rw [eY]; exact r2) (hY post hpp)), hR⟩
      rw [eX, ← es]; exact hpp
/-- what the method takes -/
theorem run_args {m : Nat} (hm : m < 8) {g h : Nat} (hg : ∀ g, g < 4 → zl_ref p l (gy g) (gx g)) (g4 : g < 4) (h4 : h < 4) {x : Int32} : ∀ e, e < 6 → zl_val p l (zy_in m e) (upd (upd lo 0 (if m < 2 then x else gy g)) 1 (if m = 7 then gy h else x) e) (upd (upd ce 0 (if bt (nI (zt_tr m)) 0 then gx g else x)) 1 (if bt (nI (zt_tr m)) 1 then gx h else x) e) := by
  intro e he
  by_cases w : zt_takes m ≤ e
  · have z : zy_in m e = 4 := by unfold zy_in; rw [if_pos w]
    rw [z]
    exact ⟨fun q => absurd q (by decide), fun q => absurd q (by decide)⟩
  · have t2 : zt_takes m ≤ 2 := zt_takes2 m
    have rg := hg g g4
    have rh := hg h h4
    have e01 : e = 0 ∨ e = 1 := by omega
    rcases e01 with rfl | rfl
    · rw [pk_un (by decide), pk_us, pk_un (by decide), pk_us]
      clear t2
      revert w
      revert m
      apply zo_8 <;> intro w <;> first | exact absurd (show (0 : Nat) ≤ 0 from Nat.le_refl _) w | exact ⟨fun _ => rfl, fun q => absurd q (by decide)⟩ | exact ⟨fun q => absurd q (by decide), fun _ => rg⟩
    · rw [pk_us, pk_us]
      clear t2
      revert w
      revert m
      apply zo_8 <;> intro w <;> first | exact absurd (by decide) w | exact ⟨fun _ => rfl, fun q => absurd q (by decide)⟩ | exact ⟨fun q => absurd q (by decide), fun _ => rh⟩
/-- X takes it -/
theorem x_take {post : SX → Prop} {m g h : Nat} (hm : m < 8) (g4 : g < 4) (h4 : h < 4) {x : Int32} (hq : post (rX he fr wu (nI m) ou re lg dn cl sy tc lc rd co cc ca hp np gx fm fp (upd (upd ce 0 (if bt (nI (zt_tr m)) 0 then gx g else x)) 1 (if bt (nI (zt_tr m)) 1 then gx h else x)) u)) : wpX_takeFromOutside post (rX he fr wu wa ou re lg dn cl sy tc lc rd co cc ca hp np gx fm fp ce u) (nI m) (nI g) (nI h) x := by
  refine upX_takeFromOutside (xt_tr hm ?_)
  have bits : (nI (zt_tr m) &&& 1 = 0 ↔ ¬ bt (nI (zt_tr m)) 0 = true) ∧ (nI (zt_tr m) &&& 2 = 0 ↔ ¬ bt (nI (zt_tr m)) 1 = true) := by
    clear hq
    revert m
    apply zo_8 <;> decide
  have k29 : ∀ z0 : Int32, post (rX he fr wu (nI m) ou re lg dn cl sy tc lc rd co cc ca hp np gx fm fp (upd (upd ce 0 z0) 1 (if bt (nI (zt_tr m)) 1 then gx h else x)) u) → kX_takeFromOutside_29 post (nI m) (nI h) x (nI (zt_tr m)) z0 0 (rX he fr wu wa ou re lg dn cl sy tc lc rd co cc ca hp np gx fm fp ce u) := by
    intro z0 hz
    refine uX_takeFromOutside_29 ⟨vp_in_iff.mpr (by decide), ?_⟩
    rw [rX_cells, rX_globals, nI_clamp (n := h) (by omega), show (0 : Int32).toNatClampNeg = 0 from rfl]
    refine nm_e (br_c (fun w => nm_e ?_) (fun w => ⟨vp_in_nI h4 (by decide), nm_e ?_⟩))
    · rw [if_neg (bits.2.mp w)] at hz
      rw [rX__wanted_cells]; exact hz
    · rw [if_pos (Classical.byContradiction (fun z => w (bits.2.mpr z)))] at hz
      rw [rX__wanted_cells]; exact hz
  rw [rX_globals, nI_clamp (n := g) (by omega)]
  refine br_c (fun w => k29 _ ?_) (fun w => ⟨vp_in_nI g4 (by decide), k29 _ ?_⟩)
  · rw [if_neg (bits.1.mp w)] at hq; exact hq
  · rw [if_pos (Classical.byContradiction (fun z => w (bits.1.mpr z)))] at hq; exact hq
end
