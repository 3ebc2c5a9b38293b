/-! GIVE -/
section
variable {u : SX} {v : SY} {he fr wu wa ou lg dn cl sy tc lc us st og an : Int32} {re : Int64} {rd co cc ca hp np gx fm fp ce cd lk of fl gy mk hi lo sk : Nat → Int32}
variable {H : Nat → Nat} {R : Nat → Prop} {K : Nat → Nat → Nat} {p : Nat → Nat} {l : List Nat}
theorem zF_ret (hb : zR_b u H R K) {D m i n : Nat} (hf : zF_f u R cd fm fp D m i) (h3 : zF_v p l (K (24 * m + i)) ((H (24 * m + i)) - (zw_P (gX_ops u) (gX_operands u) (24 * m + i))) D lo sk ce) (hlow : ∀ j, j < D → zF_l u H R K p l cd fm fp ce hi lo sk j) (hw : zF_w (gX_frameWords u) fm (D + 1) ≤ 120) (hn : n ≤ 24)
  (go : zw_go (gX_refFields u) (gX_ops u) (gX_operands u) H R K m n (24 * m + i) (i + 1)) (hQ : zw_Q (gX_ops u) (24 * m + i) = 1) (o2 : (zw_op (gX_ops u) (24 * m + i)) ≠ 2) (o3 : (zw_op (gX_ops u) (24 * m + i)) ≠ 3) (o20 : (zw_op (gX_ops u) (24 * m + i)) ≠ 20) (hP : (zw_P (gX_ops u) (gX_operands u) (24 * m + i)) ≤ (H (24 * m + i))) {y x : Int32} (hv : zl_val p l (zk_pk (gX_refFields u) (zw_op (gX_ops u) (24 * m + i)) (gX_operands u (24 * m + i))) y x) :
  zF u H R K p l (nI (zF_w (gX_frameWords u) fm (D + 1))) cd fm (upd fp D (nI (i + 1))) (upd ce (12 * D + (6 + (H (24 * m + i)) - (zw_P (gX_ops u) (gX_operands u) (24 * m + i)))) x) (upd hi D (nI ((H (24 * m + i)) - (zw_P (gX_ops u) (gX_operands u) (24 * m + i)) + 1))) lo (upd sk (6 * D + ((H (24 * m + i)) - (zw_P (gX_ops u) (gX_operands u) (24 * m + i)))) y) D m (i + 1) := by
  obtain ⟨f1, f2, f3, f4, f5, f6, f7⟩ := hf
  obtain ⟨g1, g2, g3, g4⟩ := go
  rw [hQ] at g3
  refine ⟨⟨f1, by omega, f3, pk_us, f5, g2, f7⟩, by rw [pk_us, g3], ?_, ?_, rfl, hw⟩
  · intro e he
    have v : zl_val p l (zw_bh (gX_refFields u) (zw_op (gX_ops u) (24 * m + i)) (gX_operands u (24 * m + i)) (K (24 * m + i)) (6 + (H (24 * m + i)) - (zw_P (gX_ops u) (gX_operands u) (24 * m + i))) e) (zF_y lo (upd sk (6 * D + ((H (24 * m + i)) - (zw_P (gX_ops u) (gX_operands u) (24 * m + i)))) y) D e) (upd ce (12 * D + (6 + (H (24 * m + i)) - (zw_P (gX_ops u) (gX_operands u) (24 * m + i)))) x (12 * D + e)) := by
      rw [g3] at he
      unfold zw_bh
      rw [if_neg o3, if_neg o2, if_neg o20]
      by_cases q : e = 6 + (H (24 * m + i)) - (zw_P (gX_ops u) (gX_operands u) (24 * m + i))
      · rw [if_pos q, q, pk_us]
        have : zF_y lo (upd sk (6 * D + ((H (24 * m + i)) - (zw_P (gX_ops u) (gX_operands u) (24 * m + i)))) y) D (6 + (H (24 * m + i)) - (zw_P (gX_ops u) (gX_operands u) (24 * m + i))) = y := by
          unfold zF_y
          rw [if_neg (by omega), show 6 * D + (6 + (H (24 * m + i)) - (zw_P (gX_ops u) (gX_operands u) (24 * m + i)) - 6) = 6 * D + ((H (24 * m + i)) - (zw_P (gX_ops u) (gX_operands u) (24 * m + i))) by omega, pk_us]
        rw [this]; exact hv
      · rw [if_neg q, pk_un (by omega)]
        have : zF_y lo (upd sk (6 * D + ((H (24 * m + i)) - (zw_P (gX_ops u) (gX_operands u) (24 * m + i)))) y) D e = zF_y lo sk D e := by
          unfold zF_y
          split
          · rfl
          · rw [pk_un (by omega)]
        rw [this]; exact h3 e (by omega)
    refine ⟨fun w => ?_, fun w => ?_⟩
    · exact v.1 ((g4 e he (Or.inl w)).trans w)
    · exact v.2 ((g4 e he (Or.inr w)).trans w)
  · intro j hj
    refine zF_lk (hlow j hj) rfl rfl (pk_un (by omega)) (pk_un (by omega)) (fun _ _ w => w) (fun m i q => zF_H6 hb q) (fun k e he w => ?_)
    rw [zF_yk (D := D) (fun _ _ => rfl) (fun q hq => pk_un (by omega)) hj he, pk_un (by omega)]
    exact w
theorem op_18 (hs : zR_s u v) (hb : zR_b u H R K) (hc : zR_c1 (gX_ops u) (gX_operands u) (gX_lengths u) co cc ca cd lk H R) (hh : zR_h1 (gX_superOf u) (gX_fieldCount u) (gX_refFields u) of fl hp gx gy he us p l) {D m i : Nat} (hF : zF u H R K p l wu cd fm fp ce hi lo sk D m i) (eo : (zw_op (gX_ops u) (24 * m + i)) = 18) : zN u v H R K (rX he (nI (D + 1)) wu (-1) 2 10000000000 (-1) dn cl sy tc lc rd co cc ca hp np gx fm fp ce u) (rY us (nI (D + 1)) wu st og 2 cl sy tc lc 10000000000 rd cd lk of fl gy mk fm fp hi lo sk v) st := by
  obtain ⟨hD, hm, hi2, e1, e2, ⟨n, hn, hin, el, at_⟩, xc, yo, o24, ya⟩ := zS_top hs hb hc hF
  obtain ⟨a1, a2, a3, a4, a5, a6, a7, a8, a9, a10, a11, a12, a13⟩ := at_
  have hhi := hF.2.1
  have hvv := hF.2.2.1
  have eP : (zw_P (gX_ops u) (gX_operands u) (24 * m + i)) = 1 := by unfold zw_P; rw [eo]; rfl
  have a3' := a3
  rw [eP] at a3'
  obtain ⟨h, eh⟩ : ∃ h, (H (24 * m + i)) = h + 1 := ⟨(H (24 * m + i)) - 1, by omega⟩
  have end0 : zy_nd (gX_refFields u) m (zw_op (gX_ops u) (24 * m + i)) (gX_operands u (24 * m + i)) 0 = if 4 ≤ m ∧ m ≤ 6 then 2 else 1 := by
    rw [eo]; unfold zy_nd
    rw [if_neg (by decide), if_neg (by decide), if_neg (by decide), if_pos rfl]
  have k0 := a7 0 (by omega) (by rw [end0]; split <;> decide)
  rw [end0] at k0
  have v0 : zl_val p l (if 4 ≤ m ∧ m ≤ 6 then 2 else 1) (sk (6 * D + h)) (ce (12 * D + (6 + h))) := by
    have := hvv (5 + (H (24 * m + i)) - 0) (by omega)
    rw [k0] at this
    unfold zF_y at this
    rw [if_neg (show ¬ 5 + (H (24 * m + i)) - 0 < 6 by omega)] at this
    rw [show 6 * D + h = 6 * D + (5 + (H (24 * m + i)) - 0 - 6) by omega, show 12 * D + (6 + h) = 12 * D + (5 + (H (24 * m + i)) - 0) by omega]
    exact this
  have hhi2 : hi D = nI (h + 1) := by rw [hhi, eh]
  have x0 := zx_ce xc (by omega)
  have eb : 6 + (H (24 * m + i)) - (zw_P (gX_ops u) (gX_operands u) (24 * m + i)) = 6 + h := by rw [eP, eh]; omega
  rw [eb, eo] at x0
  obtain ⟨_, _, _, _, _, w, w9, w15, ew⟩ := zF_at hb hF.1
  obtain ⟨hf, _, _, hlow, ewu, hw120⟩ := id hF
  have eFW := hs.1.2.2.2.2.2.2.2.2.2
  subst ewu
  have xw : ∀ (post : SX → Prop), (fun u1 => (((gX_frames u1) = 0 → (wpX_endWith (fun u2 => (post u2)) u1 (nI m) (ce (12 * D + (6 + h))))) ∧ (¬ (gX_frames u1) = 0 → (wpX_codePlace (fun r_45 => (vp_in r_45 192 ∧ (((((gX_codeOps u1) r_45.toNatClampNeg) = 12 → (post u1)) ∧ (¬ ((gX_codeOps u1) r_45.toNatClampNeg) = 12 → (vp_in r_45 192 ∧ (vp_in ((((gX_frames u1) - 1) * 12) + ((gX_codeCells u1) r_45.toNatClampNeg)) 168 ∧ ∀ a_cells_90, a_cells_90 = upd (gX_cells u1) ((((gX_frames u1) - 1) * 12) + ((gX_codeCells u1) r_45.toNatClampNeg)).toNatClampNeg (ce (12 * D + (6 + h))) → (wpX_advance (fun u3 => (post u3)) (sX_cells a_cells_90 u1))))))))) u1)))) (rX he (nI D) (nI (zF_w (gX_frameWords u) fm D)) (-1) 2 10000000000 (-1) dn cl sy tc lc rd co cc ca hp np gx fm fp ce u) → wpX_step post (rX he (nI (D + 1)) (nI (zF_w (gX_frameWords u) fm (D + 1))) (-1) 2 10000000000 (-1) dn cl sy tc lc rd co cc ca hp np gx fm fp ce u) := by
    intro post hq
    refine xd_18 hD hm hi2 (by omega) e1 e2 x0.1 x0.2.1 x0.2.2 (upX_giveBack ?_)
    rw [rX_frames, zn_D1, rX_frameMethod, nI_clamp (n := D) (by omega), e1]
    exact ⟨vp_in_nI (by omega) (by decide), nm_e (xr_leave hD hm e1 ew w15 hq)⟩
  have yw : ∀ (post : SY → Prop), (fun u1 => ((((gY_depth u1) = 0 → (wpY_gives (fun r_96 => (((r_96 = 2 → (∀ a_globals_99, a_globals_99 = upd (gY_globals u1) 3 (sk (6 * D + h)) → (vp_in (sk (6 * D + h)) 49 ∧ (∀ f_result_101 : Int64 , f_result_101 = (((gY_of u1) (sk (6 * D + h)).toNatClampNeg) - 1).toInt64 → (post (sY_answer_result_globals 0 f_result_101 a_globals_99 u1)))))) ∧ (¬ r_96 = 2 → (post (sY_answer_result 0 (sk (6 * D + h)).toInt64 u1)))))) (nI m))) ∧ (¬ (gY_depth u1) = 0 → (∀ x3_46, x3_46 = (gY_depth u1) - 1 → (vp_in x3_46 14 ∧ (vp_in x3_46 14 ∧ (vp_in ((24 * ((gY_method u1) x3_46.toNatClampNeg)) + ((gY_at u1) x3_46.toNatClampNeg)) 216 ∧ (((((gY_ops u1) ((24 * ((gY_method u1) x3_46.toNatClampNeg)) + ((gY_at u1) x3_46.toNatClampNeg)).toNatClampNeg) = 12 → (post u1)) ∧ (¬ ((gY_ops u1) ((24 * ((gY_method u1) x3_46.toNatClampNeg)) + ((gY_at u1) x3_46.toNatClampNeg)).toNatClampNeg) = 12 → (wpY_push (fun u2 => (vp_in x3_46 14 ∧ (vp_in x3_46 14 ∧ ∀ a_at_95, a_at_95 = upd (gY_at u2) x3_46.toNatClampNeg (((gY_at u2) x3_46.toNatClampNeg) + 1) → (post (sY_at a_at_95 u2))))) u1 (sk (6 * D + h)))))))))))))) (rY us (nI D) (nI (zF_w (gX_frameWords u) fm D)) (st + 1) og 2 cl sy tc lc 10000000000 rd cd lk of fl gy mk fm fp (upd hi D (nI h)) lo sk v) → wpY_step post (rY us (nI (D + 1)) (nI (zF_w (gX_frameWords u) fm (D + 1))) st og 2 cl sy tc lc 10000000000 rd cd lk of fl gy mk fm fp hi lo sk v) := by
    intro post hq
    refine yd_18 hD hm hi2 e1 e2 (by rw [yo, eo]; rfl) ya (yr_pop hD (by omega) hhi2 (br_t rfl (upY_leave ?_)))
    rw [rY_depth, zn_D1, rY_method, nI_clamp (n := D) (by omega), e1]
    exact ⟨vp_in_nI (by omega) (by decide), nm_e (yr_drop hD hm e1 eFW ew w15 hq)⟩
  cases D with
  | zero =>
    by_cases g : 4 ≤ m ∧ m ≤ 6
    · rw [if_pos g] at v0
      have r0 := v0.2 rfl
      have hh' : zR_h1 (gX_superOf u) (gX_fieldCount u) (gX_refFields u) of fl hp (upd gx 3 (ce (12 * 0 + (6 + h)))) (upd gy 3 (sk (6 * 0 + h))) he us p l := by
        obtain ⟨z1, z2, z3, z8⟩ := hh
        refine ⟨z1, z2, z3, fun g2 hg2 => ?_⟩
        by_cases e : g2 = 3
        · rw [e, pk_us, pk_us]; exact r0
        · rw [pk_un e, pk_un e]; exact z8 g2 hg2
      have vy : vp_in (sk (6 * 0 + h)) 49 := by
        rcases zl_refc hh r0 with ⟨q1, _⟩ | ⟨o, c, n', ol, ey, ex, o1, o2, _⟩
        · rw [q1]; exact vp_in_iff.mpr (by decide)
        · rw [ey]; exact vp_in_nI (by omega) (by decide)
      refine ⟨(rX he (nI 0) (nI (zF_w (gX_frameWords u) fm 0)) (-1) 0 ((of (sk (6 * 0 + h)).toNatClampNeg - 1).toInt64) (-1) dn cl sy tc lc rd co cc ca hp np (upd gx 3 (ce (12 * 0 + (6 + h)))) fm fp ce u), (rY us (nI 0) (nI (zF_w (gX_frameWords u) fm 0)) (st + 1) og 0 cl sy tc lc ((of (sk (6 * 0 + h)).toNatClampNeg - 1).toInt64) rd cd lk of fl (upd gy 3 (sk (6 * 0 + h))) mk fm fp (upd hi 0 (nI h)) lo sk v), zX_done (fun post hpp => xw post ?_) rfl, fun post hpp => yw post ?_, Or.inr ⟨p, l, 0, he, nI 0, _, -1, dn, cl, sy, tc, lc, us, og, _, rd, co, cc, ca, hp, np, _, fm, fp, ce, cd, lk, of, fl, _, mk, _, lo, sk, rfl, rfl, hc, hh', Or.inl ⟨rfl, rfl⟩⟩⟩
      · refine br_t rfl (upX_endWith (xt_gr hm (zp_br (fun w => absurd g w) (fun _ => nm_e ?_))))
        rw [rX_globals, rX__outcome_lastResult_globals]
        refine x_classOf hh' r0 ?_
        rw [rX__outcome_lastResult_globals]; exact hpp
      · refine br_t rfl (yt_gives hm ?_)
        rw [if_pos g, rY_globals, rY_of]
        refine br_t rfl (nm_e ⟨vy, fun f ef => ?_⟩)
        rw [ef, rY__answer_result_globals]; exact hpp
    · rw [if_neg g] at v0
      have r0 := v0.1 rfl
      refine ⟨(rX he (nI 0) (nI (zF_w (gX_frameWords u) fm 0)) (-1) 0 ((ce (12 * 0 + (6 + h))).toInt64) (-1) dn cl sy tc lc rd co cc ca hp np gx fm fp ce u), (rY us (nI 0) (nI (zF_w (gX_frameWords u) fm 0)) (st + 1) og 0 cl sy tc lc ((ce (12 * 0 + (6 + h))).toInt64) rd cd lk of fl gy mk fm fp (upd hi 0 (nI h)) lo sk v), zX_done (fun post hpp => xw post ?_) rfl, fun post hpp => yw post ?_, Or.inr ⟨p, l, 0, he, nI 0, _, -1, dn, cl, sy, tc, lc, us, og, _, rd, co, cc, ca, hp, np, _, fm, fp, ce, cd, lk, of, fl, _, mk, _, lo, sk, rfl, rfl, hc, hh, Or.inl ⟨rfl, rfl⟩⟩⟩
      · refine br_t rfl (upX_endWith (xt_gr hm (zp_br (fun _ => ?_) (fun w => absurd w g))))
        rw [rX__outcome_lastResult]; exact hpp
      · refine br_t rfl (yt_gives hm ?_)
        rw [if_neg g]
        refine br_f (by decide) ?_
        rw [rY__answer_result, r0]; exact hpp
  | succ D =>
    obtain ⟨m', i', hf', hh2, hv', hop', hpk'⟩ := hlow D (by omega)
    obtain ⟨n', hn', hin', el', at', _⟩ := zF_at hb hf'
    obtain ⟨f1, f2, f3, f4, f5, f6, f7⟩ := id hf'
    have xc' := ((hc.1 m' f1).2.2.2 i' f2).2 f7 f6
    have fe : fm (D + 1) = nI m := e1
    have hw' : zF_w (gX_frameWords u) fm (D + 1) ≤ 120 := by
      have : zF_w (gX_frameWords u) fm (D + 1 + 1) = zF_w (gX_frameWords u) fm (D + 1) + _ := rfl
      omega
    have yo' : gY_ops v (24 * m' + i') = nI (zw_op (gX_ops u) (24 * m' + i')) := by
      rw [← hs.1.2.2.2.1]; exact (zi_of at'.1).2.1
    have e24 : (24 : Int32) * nI m' + nI i' = nI (24 * m' + i') := by rw [show (24 : Int32) = nI 24 from rfl, pk_mul, nI_add]
    have c24 : (nI (24 * m' + i')).toNatClampNeg = 24 * m' + i' := nI_clamp (by omega)
    have low' : ∀ (hi' : Nat → Int32), (∀ j, j < D + 1 → hi' j = hi j) → ∀ j, j < D → zF_l u H R K p l cd fm fp ce hi' lo sk j := fun hi' e j hj => zF_lk (hlow j (by omega)) rfl rfl rfl (e j (by omega)) (fun _ _ w => w) (fun m i q => zF_H6 hb q) (fun _ _ _ w => w)
    have hi0 : ∀ j, j < D + 1 → upd hi (D + 1) (nI h) j = hi j := fun j hj => pk_un (by omega)
    by_cases o12 : zw_op (gX_ops u) (24 * m' + i') = 12
    · have eP' : zw_P (gX_ops u) (gX_operands u) (24 * m' + i') = 0 := by unfold zw_P; rw [o12]; rfl
      rw [eP'] at hh2 hv'
      have hz : zF u H R K p l (nI (zF_w (gX_frameWords u) fm (D + 1))) cd fm fp ce (upd hi (D + 1) (nI h)) lo sk D m' i' := by
        exact ⟨hf', by rw [hi0 D (by omega)]; exact hh2, hv', low' _ hi0, rfl, hw'⟩
      refine ⟨_, _, zX_done (fun post hpp => xw post ?_) rfl, fun post hpp => yw post ?_, Or.inl ⟨p, l, D, m', i', he, _, dn, cl, sy, tc, lc, us, og, rd, co, cc, ca, hp, np, gx, fm, fp, ce, cd, lk, of, fl, gy, mk, _, lo, sk, rfl, rfl, hc, hh, hz⟩⟩
      · refine br_f (nI_ne0 (by omega) (by omega)) (xr_cp (by omega) f3 f4 ⟨vp_in_nI (by omega) (by decide), ?_⟩)
        rw [rX_codeOps, c24]
        have x1 := (zx_ce xc' (by omega)).1
        rw [o12] at x1
        exact br_t x1 hpp
      · refine br_f (nI_ne0 (by omega) (by omega)) ?_
        rw [rY_depth, zn_D1, rY_method, rY_at, rY_ops]
        refine nm_e ⟨vp_in_nI (by omega) (by decide), vp_in_nI (by omega) (by decide), ?_⟩
        rw [nI_clamp (n := D) (by omega), f3, f4, e24, c24, yo', o12]
        exact ⟨vp_in_nI (by omega) (by decide), br_t rfl hpp⟩
    · have go' := at'.2.2.2.2.2.2.2.2.2.1 (by
        unfold zt_fall
        rcases hop' with w | w | w
        · exact absurd w o12
        · rw [w]; decide
        · rw [w]; decide)
      have hQ' : zw_Q (gX_ops u) (24 * m' + i') = 1 := by
        unfold zw_Q
        rcases hop' with w | w | w
        · exact absurd w o12
        · rw [w]; rfl
        · rw [w]; rfl
      have a3'' := at'.2.2.1
      have a4'' := at'.2.2.2.1
      rw [hQ'] at a4''
      have hz := zF_ret (hi := upd hi (D + 1) (nI h)) hb hf' hv' (low' _ hi0) hw' hn' go' hQ' (by omega) (by omega) (by omega) a3'' (y := sk (6 * (D + 1) + h)) (x := ce (12 * (D + 1) + (6 + h))) (by rw [hpk' o12 m hm fe]; exact v0)
      -- X's cell
      have xcell : cc (24 * m' + i') = nI (6 + H (24 * m' + i') - zw_P (gX_ops u) (gX_operands u) (24 * m' + i')) ∧ co (24 * m' + i') ≠ 12 := by
        rcases hop' with w | w | w
        · exact absurd w o12
        · have z := zx_c16 xc' w
          refine ⟨z.2.1, fun q => ?_⟩
          rw [q] at z
          exact absurd z.1 (by decide)
        · have z := zx_ce xc' (by omega)
          refine ⟨z.2.1, fun q => ?_⟩
          rw [q, w] at z
          exact absurd z.1 (by decide)
      have a2'' := at'.2.1
      have ecell : nI D * 12 + nI (6 + H (24 * m' + i') - zw_P (gX_ops u) (gX_operands u) (24 * m' + i')) = nI (12 * D + (6 + H (24 * m' + i') - zw_P (gX_ops u) (gX_operands u) (24 * m' + i'))) := by rw [show (12 : Int32) = nI 12 from rfl, pk_mul, nI_add, Nat.mul_comm]
      refine ⟨_, _, zX_done (fun post hpp => xw post ?_) rfl, fun post hpp => yw post ?_, Or.inl ⟨p, l, D, m', i' + 1, he, _, dn, cl, sy, tc, lc, us, og, rd, co, cc, ca, hp, np, gx, fm, _, _, cd, lk, of, fl, gy, mk, _, lo, _, rfl, rfl, hc, hh, hz⟩⟩
      · refine br_f (nI_ne0 (by omega) (by omega)) (xr_cp (by omega) f3 f4 ⟨vp_in_nI (by omega) (by decide), ?_⟩)
        rw [rX_codeOps, rX_codeCells, rX_frames, rX_cells, c24, zn_D1, xcell.1, ecell, nI_clamp (n := 12 * D + (6 + H (24 * m' + i') - zw_P (gX_ops u) (gX_operands u) (24 * m' + i'))) (by omega)]
        refine br_f xcell.2 ⟨vp_in_nI (by omega) (by decide), vp_in_nI (by omega) (by decide), nm_e ?_⟩
        rw [rX__cells]
        exact xr_adv (by omega) f4 hpp
      · refine br_f (nI_ne0 (by omega) (by omega)) ?_
        rw [rY_depth, zn_D1, rY_method, rY_at, rY_ops]
        refine nm_e ⟨vp_in_nI (by omega) (by decide), vp_in_nI (by omega) (by decide), ?_⟩
        rw [nI_clamp (n := D) (by omega), f3, f4, e24, c24, yo']
        refine ⟨vp_in_nI (by omega) (by decide), br_f (fun q => o12 ((nI_eq (b := 12) (by omega) (by decide)).mp q)) (yr_push (by omega) (by omega) ((hi0 D (by omega)).trans hh2) ⟨vp_in_nI (by omega) (by decide), vp_in_nI (by omega) (by decide), nm_e ?_⟩)⟩
        rw [rY_at, f4, nI_1, rY__at]; exact hpp
end
