/-! something is thrown -/
section
variable {u : SX} {v : SY} {he fr wu wa ou lg dn cl sy tc lc us st og an : Int32} {re : Int64} {rd co cc ca hp np gx fm fp ce cd lk of fl gy mk hi lo sk : Nat → Int32}
variable {H : Nat → Nat} {R : Nat → Prop} {K : Nat → Nat → Nat} {p : Nat → Nat} {l : List Nat}
/-- frames as raise needs them: of the top one the LOCALS alone -/
def zG (u : SX) (H : Nat → Nat) (R : Nat → Prop) (K : Nat → Nat → Nat) (p : Nat → Nat) (l : List Nat) (cd fm fp ce hi lo sk : Nat → Int32) (D m i : Nat) : Prop :=
  zF_f u R cd fm fp D m i ∧ (∀ e, e < 6 → zl_val p l (K (24 * m + i) e) (lo (6 * D + e)) (ce (12 * D + e))) ∧ (∀ j, j < D → zF_l u H R K p l cd fm fp ce hi lo sk j) ∧ zF_w (gX_frameWords u) fm (D + 1) ≤ 120
theorem zF_G {D m i : Nat} (hb : zR_b u H R K) (h : zF u H R K p l wu cd fm fp ce hi lo sk D m i) {hi' : Nat → Int32} (e : ∀ j, j < D → hi' j = hi j) : zG u H R K p l cd fm fp ce hi' lo sk D m i := by
  obtain ⟨h1, h2, h3, h4, h5, h6⟩ := h
  refine ⟨h1, fun e he => ?_, fun j hj => zF_lk (h4 j hj) rfl rfl rfl (e j hj) (fun _ _ w => w) (fun m i q => zF_H6 hb q) (fun _ _ _ w => w), h6⟩
  have := h3 e (by omega)
  unfold zF_y at this
  rw [if_pos he] at this
  exact this
theorem zG_D (hb : zR_b u H R K) {D m i : Nat} (h : zG u H R K p l cd fm fp ce hi lo sk D m i) : D ≤ 12 := by
  obtain ⟨h1, _, h4, h6⟩ := h
  have := zF_w9 (fm := fm) (cd := cd) (fp := fp) hb (D + 1) (fun j hj => by
    by_cases e : j = D
    · subst e; exact ⟨m, i, h1⟩
    · obtain ⟨m', i', q, _⟩ := h4 j (by omega)
      exact ⟨m', i', q⟩)
  omega
theorem xr_leave {post : SX → Prop} {j m w : Nat} (hj : j ≤ 12) (hm : m < 8) (e1 : fm j = nI m) (e2 : gX_frameWords u m = nI w) (hw : w ≤ 15) (h : post (rX he (nI j) (nI (zF_w (gX_frameWords u) fm j)) wa ou re lg dn cl sy tc lc rd co cc ca hp np gx fm fp ce u)) : wpX_leave post (rX he (nI (j + 1)) (nI (zF_w (gX_frameWords u) fm (j + 1))) wa ou re lg dn cl sy tc lc rd co cc ca hp np gx fm fp ce u) := by
  have es : zF_w (gX_frameWords u) fm (j + 1) = zF_w (gX_frameWords u) fm j + w := by
    show zF_w (gX_frameWords u) fm j + _ = _
    rw [e1, nI_clamp (by omega), e2, nI_clamp (by omega)]
  refine upX_leave (nm_r (zn_D1 j) ⟨vp_in_nI (by omega) (by decide), ?_⟩)
  rw [rX_frameMethod, rX_frameWordsUsed, rX_frameWords, nI_clamp (n := j) (by omega), e1, nI_clamp (by omega), e2, es, pk_sub (by omega), Nat.add_sub_cancel]
  refine ⟨vp_in_nI hm (by decide), nm_e ?_⟩
  rw [rX__frames_frameWordsUsed]; exact h
theorem yr_drop {post : SY → Prop} {j m w : Nat} (hj : j ≤ 12) (hm : m < 8) (e1 : fm j = nI m) {FW : Nat → Int32} (eF : FW = gY_words v) (e2 : FW m = nI w) (hw : w ≤ 15) (h : post (rY us (nI j) (nI (zF_w FW fm j)) st og an cl sy tc lc re rd cd lk of fl gy mk fm fp hi lo sk v)) : wpY_drop post (rY us (nI (j + 1)) (nI (zF_w FW fm (j + 1))) st og an cl sy tc lc re rd cd lk of fl gy mk fm fp hi lo sk v) := by
  subst eF
  have es : zF_w (gY_words v) fm (j + 1) = zF_w (gY_words v) fm j + w := by
    show zF_w (gY_words v) fm j + _ = _
    rw [e1, nI_clamp (by omega), e2, nI_clamp (by omega)]
  refine upY_drop (nm_r (zn_D1 j) ⟨vp_in_nI (by omega) (by decide), ?_⟩)
  rw [rY_method, rY_room, rY_words, nI_clamp (n := j) (by omega), e1, nI_clamp (by omega), e2, es, pk_sub (by omega), Nat.add_sub_cancel]
  refine ⟨vp_in_nI hm (by decide), nm_e ?_⟩
  rw [rY__depth_room]; exact h
theorem zR_caught (hs : zR_s u v) {m : Nat} (hm : m < 8) {q : Int32} (w : zh_cg (gX_catchFrom u) (gX_catchTo u) m q) : gX_catchGoal u m = gY_goal v m := by
  obtain ⟨_, _, _, _, rows, go⟩ := hs
  have h1 := Int32.not_lt.mp w.1
  have h2 := Int32.not_le.mp w.2
  exact (go m (by omega) (Int32.lt_of_le_of_lt h1 h2)).1
theorem raise_loop (hs : zR_s u v) (hb : zR_b u H R K) (hc : zR_c1 (gX_ops u) (gX_operands u) (gX_lengths u) co cc ca cd lk H R) (hh : zR_h1 (gX_superOf u) (gX_fieldCount u) (gX_refFields u) of fl hp gx gy he us p l) {x : Int32} : ∀ D m i, zG u H R K p l cd fm fp ce hi lo sk D m i →
  ∃ s' t', (∀ post : SX → Prop, post s' → kX_raise_34 post x og (D + 2) (nI D) (rX he (nI (D + 1)) (nI (zF_w (gX_frameWords u) fm (D + 1))) (-1) 2 10000000000 (-1) dn cl sy tc lc rd co cc ca hp np gx fm fp ce u)) ∧ (∀ post : SY → Prop, post t' → kY_raise_30 post x (D + 2) (rY us (nI (D + 1)) (nI (zF_w (gX_frameWords u) fm (D + 1))) st og 2 cl sy tc lc 10000000000 rd cd lk of fl gy mk fm fp hi lo sk v)) ∧ gX_wanted s' = -1 ∧ (zS u v H R K s' t' st ∨ zE u v H R s' t' st) := by
  intro D
  induction D with
  | zero =>
    intro m i hG
    have hD := zG_D hb hG
    obtain ⟨n, hn, hin, el, at_, w, w1, w2, ew⟩ := zF_at hb hG.1
    obtain ⟨hf, hv, hl, hw⟩ := id hG
    obtain ⟨f1, f2, f3, f4, f5, f6, f7⟩ := id hf
    have eFW := hs.1.2.2.2.2.2.2.2.2.2
    have ewY : gY_words v m = nI w := by rw [← eFW]; exact ew
    by_cases cgt : zh_cg (gX_catchFrom u) (gX_catchTo u) m (nI i)
    · obtain ⟨g, g1, g2, g3, g4, g5, g6⟩ := at_.2.2.2.2.2.2.2.2.2.2.1 cgt
      have eG := zR_caught hs f1 cgt
      have hz : zF u H R K p l (nI (zF_w (gX_frameWords u) fm 1)) cd fm (upd fp 0 (nI g)) (upd ce 6 x) (upd hi 0 1) lo (upd sk 0 x) 0 m g := by
        refine ⟨⟨f1, by omega, f3, pk_us, f5, g3, f7⟩, by rw [pk_us, g4]; rfl, ?_, fun j hj => absurd hj (by omega), rfl, hw⟩
        intro e he
        rw [g4] at he
        by_cases q : e = 6
        · subst q
          unfold zF_y
          rw [if_neg (by decide), pk_us, pk_us]
          exact ⟨fun _ => rfl, fun w => absurd w g5⟩
        · have v0 := hv e (by omega)
          unfold zF_y
          rw [if_pos (by omega), pk_un (by omega)]
          refine ⟨fun w => v0.1 ?_, fun w => v0.2 ?_⟩
          · rw [g6 e (by omega) (Or.inl w)]; exact w
          · rw [g6 e (by omega) (Or.inr w)]; exact w
      refine ⟨(rX he (nI 1) (nI (zF_w (gX_frameWords u) fm 1)) (-1) 2 10000000000 (-1) dn cl sy tc lc rd co cc ca hp np gx fm (upd fp 0 (nI g)) (upd ce 6 x) u), (rY us (nI 1) (nI (zF_w (gX_frameWords u) fm 1)) st og 2 cl sy tc lc 10000000000 rd cd lk of fl gy mk fm (upd fp 0 (nI g)) (upd hi 0 1) lo (upd sk 0 x) v), ?_, ?_, rfl, Or.inl ⟨p, l, 0, m, g, he, _, dn, cl, sy, tc, lc, us, og, rd, co, cc, ca, hp, np, gx, fm, _, _, cd, lk, of, fl, gy, mk, _, lo, _, rfl, rfl, hc, hh, hz⟩⟩
      · intro post hp
        refine uX_raise_34 (br_f (by decide) ⟨vp_in_nI (by decide) (by decide), nm_e ⟨vp_in_nI (by decide) (by decide), ?_⟩⟩)
        rw [rX_frameMethod, rX_framePlace, rX_cells, rX_catchGoal, show (nI 0).toNatClampNeg = 0 from rfl, f3, f4]
        refine x_isCaught (by omega) (zp_br (fun q => absurd cgt q) (fun _ => ⟨vp_in_iff.mpr (by decide), nm_e ⟨vp_in_nI (by omega) (by decide), vp_in_nI (by decide) (by decide), nm_e ?_⟩⟩))
        rw [show (nI 0 * 12 + 6).toNatClampNeg = 6 from rfl, nI_clamp (n := m) (by omega), g2, rX__framePlace_cells]
        exact hp
      · intro post hp
        rw [eFW] at hp ⊢
        refine uY_raise_30 ?_
        rw [rY_depth, rY_method, rY_at, rY_from, rY_to, rY_high, rY_stack, rY_goal]
        refine br_f (by decide) (nm_r (zn_D1 0) ⟨vp_in_nI (by decide) (by decide), ?_⟩)
        rw [show (nI 0).toNatClampNeg = 0 from rfl, f3, f4, ← hs.1.2.2.2.2.2.2.1, ← hs.1.2.2.2.2.2.2.2.1]
        refine nm_e ⟨vp_in_nI (by decide) (by decide), vp_in_nI (by omega) (by decide), ?_⟩
        rw [nI_clamp (n := m) (by omega)]
        refine br_f cgt.1 ⟨vp_in_nI (by decide) (by decide), vp_in_nI (by omega) (by decide), br_f cgt.2 ⟨vp_in_nI (by decide) (by decide), nm_e ⟨vp_in_iff.mpr (by decide), nm_e ⟨vp_in_nI (by omega) (by decide), vp_in_nI (by decide) (by decide), nm_e ?_⟩⟩⟩⟩
        rw [← eG, g2, show ((6 : Int32) * nI 0).toNatClampNeg = 0 from rfl, rY__at_high_stack]
        exact hp
    · refine ⟨(rX he (nI 0) (nI (zF_w (gX_frameWords u) fm 0)) (-1) 1 (x.toInt64) og dn cl sy tc lc rd co cc ca hp np gx fm fp ce u), (rY us (nI 0) (nI (zF_w (gX_frameWords u) fm 0)) st og 1 cl sy tc lc (x.toInt64) rd cd lk of fl gy mk fm fp hi lo sk v), ?_, ?_, rfl, Or.inr ⟨p, l, 1, he, nI 0, _, og, dn, cl, sy, tc, lc, us, og, x.toInt64, rd, co, cc, ca, hp, np, gx, fm, fp, ce, cd, lk, of, fl, gy, mk, hi, lo, sk, rfl, rfl, hc, hh, Or.inr ⟨rfl, rfl⟩⟩⟩
      · intro post hp
        refine uX_raise_34 (br_f (by decide) ⟨vp_in_nI (by decide) (by decide), nm_e ⟨vp_in_nI (by decide) (by decide), ?_⟩⟩)
        rw [rX_frameMethod, rX_framePlace, show (nI 0).toNatClampNeg = 0 from rfl, f3, f4]
        refine x_isCaught (by omega) (zp_br (fun _ => xr_leave (by decide) f1 f3 ew w2 (nm_r (show nI 0 + (-1) = -1 from rfl) (uX_raise_34 (br_t (by decide) ?_)))) (fun q => absurd q cgt))
        rw [rX__outcome_lastResult_lastOrigin]; exact hp
      · intro post hp
        rw [eFW] at hp ⊢
        have ex : kY_raise_30 post x 1 (rY us (nI 0) (nI (zF_w (gY_words v) fm 0)) st og 2 cl sy tc lc 10000000000 rd cd lk of fl gy mk fm fp hi lo sk v) := by
          refine uY_raise_30 ?_
          rw [rY_depth]
          refine br_t (by decide) ?_
          rw [rY__answer_result]; exact hp
        have dr : kY_raise_111 post (kY_raise_30 post x 1) x (rY us (nI 1) (nI (zF_w (gY_words v) fm 1)) st og 2 cl sy tc lc 10000000000 rd cd lk of fl gy mk fm fp hi lo sk v) := uY_raise_111 (yr_drop (by decide) f1 f3 rfl ewY w2 ex)
        refine uY_raise_30 ?_
        rw [rY_depth, rY_method, rY_at, rY_from, rY_to]
        refine br_f (by decide) (nm_r (zn_D1 0) ⟨vp_in_nI (by decide) (by decide), ?_⟩)
        rw [show (nI 0).toNatClampNeg = 0 from rfl, f3, f4, ← hs.1.2.2.2.2.2.2.1, ← hs.1.2.2.2.2.2.2.2.1]
        refine nm_e ⟨vp_in_nI (by decide) (by decide), vp_in_nI (by omega) (by decide), ?_⟩
        rw [nI_clamp (n := m) (by omega)]
        refine br_c (fun _ => dr) (fun q1 => ⟨vp_in_nI (by decide) (by decide), vp_in_nI (by omega) (by decide), br_c (fun _ => dr) (fun q2 => absurd ⟨q1, q2⟩ cgt)⟩)
  | succ D ih =>
    intro m i hG
    have hD := zG_D hb hG
    obtain ⟨n, hn, hin, el, at_, w, w1, w2, ew⟩ := zF_at hb hG.1
    obtain ⟨hf, hv, hl, hw⟩ := id hG
    obtain ⟨f1, f2, f3, f4, f5, f6, f7⟩ := id hf
    have eFW := hs.1.2.2.2.2.2.2.2.2.2
    have ewY : gY_words v m = nI w := by rw [← eFW]; exact ew
    have vD : vp_in (nI (D + 1)) 14 := vp_in_nI (by omega) (by decide)
    have cD : (nI (D + 1)).toNatClampNeg = D + 1 := nI_clamp (by omega)
    have e12 : nI (D + 1) * 12 + 6 = nI (12 * (D + 1) + 6) := by rw [show (12 : Int32) = nI 12 from rfl, show (6 : Int32) = nI 6 from rfl, pk_mul, nI_add, Nat.mul_comm]
    have e6 : (6 : Int32) * nI (D + 1) = nI (6 * (D + 1)) := by rw [show (6 : Int32) = nI 6 from rfl, pk_mul]
    by_cases cgt : zh_cg (gX_catchFrom u) (gX_catchTo u) m (nI i)
    · obtain ⟨g, g1, g2, g3, g4, g5, g6⟩ := at_.2.2.2.2.2.2.2.2.2.2.1 cgt
      have eG := zR_caught hs f1 cgt
      have hz : zF u H R K p l (nI (zF_w (gX_frameWords u) fm (D + 1 + 1))) cd fm (upd fp (D + 1) (nI g)) (upd ce (12 * (D + 1) + 6) x) (upd hi (D + 1) 1) lo (upd sk (6 * (D + 1)) x) (D + 1) m g := by
        refine ⟨⟨f1, by omega, f3, pk_us, f5, g3, f7⟩, by rw [pk_us, g4]; rfl, ?_, fun j hj => ?_, rfl, hw⟩
        · intro e he
          rw [g4] at he
          by_cases q : e = 6
          · subst q
            unfold zF_y
            rw [if_neg (by decide), show 6 * (D + 1) + (6 - 6) = 6 * (D + 1) from rfl, pk_us, pk_us]
            exact ⟨fun _ => rfl, fun w => absurd w g5⟩
          · have v0 := hv e (by omega)
            unfold zF_y
            rw [if_pos (by omega), pk_un (by omega)]
            refine ⟨fun w => v0.1 ?_, fun w => v0.2 ?_⟩
            · rw [g6 e (by omega) (Or.inl w)]; exact w
            · rw [g6 e (by omega) (Or.inr w)]; exact w
        · refine zF_lk (hl j hj) rfl rfl (pk_un (by omega)) (pk_un (by omega)) (fun _ _ w => w) (fun m i q => zF_H6 hb q) (fun k e he w => ?_)
          rw [zF_yk (D := D + 1) (fun _ _ => rfl) (fun q hq => pk_un (by omega)) hj he, pk_un (by omega)]
          exact w
      refine ⟨(rX he (nI (D + 1 + 1)) (nI (zF_w (gX_frameWords u) fm (D + 1 + 1))) (-1) 2 10000000000 (-1) dn cl sy tc lc rd co cc ca hp np gx fm (upd fp (D + 1) (nI g)) (upd ce (12 * (D + 1) + 6) x) u), (rY us (nI (D + 1 + 1)) (nI (zF_w (gX_frameWords u) fm (D + 1 + 1))) st og 2 cl sy tc lc 10000000000 rd cd lk of fl gy mk fm (upd fp (D + 1) (nI g)) (upd hi (D + 1) 1) lo (upd sk (6 * (D + 1)) x) v), ?_, ?_, rfl, Or.inl ⟨p, l, D + 1, m, g, he, _, dn, cl, sy, tc, lc, us, og, rd, co, cc, ca, hp, np, gx, fm, _, _, cd, lk, of, fl, gy, mk, _, lo, _, rfl, rfl, hc, hh, hz⟩⟩
      · intro post hp
        refine uX_raise_34 (br_f (nI_pos (by omega)) ⟨vD, nm_e ⟨vD, ?_⟩⟩)
        rw [rX_frameMethod, rX_framePlace, rX_cells, rX_catchGoal, cD, f3, f4, e12]
        refine x_isCaught (by omega) (zp_br (fun q => absurd cgt q) (fun _ => ⟨vp_in_nI (by omega) (by decide), nm_e ⟨vp_in_nI (by omega) (by decide), vD, nm_e ?_⟩⟩))
        rw [nI_clamp (n := 12 * (D + 1) + 6) (by omega), nI_clamp (n := m) (by omega), g2, rX__framePlace_cells]
        exact hp
      · intro post hp
        rw [eFW] at hp ⊢
        refine uY_raise_30 ?_
        rw [rY_depth, rY_method, rY_at, rY_from, rY_to, rY_high, rY_stack, rY_goal]
        refine br_f (nI_nle (by omega) (by omega)) (nm_r (zn_D1 (D + 1)) ⟨vD, ?_⟩)
        rw [cD, f3, f4, ← hs.1.2.2.2.2.2.2.1, ← hs.1.2.2.2.2.2.2.2.1, e6]
        refine nm_e ⟨vD, vp_in_nI (by omega) (by decide), ?_⟩
        rw [nI_clamp (n := m) (by omega)]
        refine br_f cgt.1 ⟨vD, vp_in_nI (by omega) (by decide), br_f cgt.2 ⟨vD, nm_e ⟨vp_in_nI (by omega) (by decide), nm_e ⟨vp_in_nI (by omega) (by decide), vD, nm_e ?_⟩⟩⟩⟩
        rw [← eG, g2, nI_clamp (n := 6 * (D + 1)) (by omega), rY__at_high_stack]
        exact hp
    · -- the frame ends
      obtain ⟨m', i', hf', hhi', hv', hop', _⟩ := hl D (by omega)
      have hG' : zG u H R K p l cd fm fp ce hi lo sk D m' i' := by
        refine ⟨hf', fun e he => ?_, fun j hj => hl j (by omega), ?_⟩
        · have := hv' e (by omega)
          unfold zF_y at this
          rw [if_pos he] at this
          exact this
        · have : zF_w (gX_frameWords u) fm (D + 1 + 1) = zF_w (gX_frameWords u) fm (D + 1) + _ := rfl
          omega
      obtain ⟨s', t', hX, hY, hwn, hr⟩ := ih m' i' hG'
      refine ⟨s', t', ?_, ?_, hwn, hr⟩
      · intro post hp
        refine uX_raise_34 (br_f (nI_pos (by omega)) ⟨vD, nm_e ⟨vD, ?_⟩⟩)
        rw [rX_frameMethod, rX_framePlace, cD, f3, f4]
        refine x_isCaught (by omega) (zp_br (fun _ => xr_leave (by omega) f1 f3 ew w2 (nm_r (pk_m1 D) (hX post hp))) (fun q => absurd q cgt))
      · intro post hp
        have hY' := hY post hp
        rw [eFW] at hY' ⊢
        have dr : kY_raise_111 post (kY_raise_30 post x (D + 2)) x (rY us (nI (D + 1 + 1)) (nI (zF_w (gY_words v) fm (D + 1 + 1))) st og 2 cl sy tc lc 10000000000 rd cd lk of fl gy mk fm fp hi lo sk v) := uY_raise_111 (yr_drop (by omega) f1 f3 rfl ewY w2 hY')
        refine uY_raise_30 ?_
        rw [rY_depth, rY_method, rY_at, rY_from, rY_to]
        refine br_f (nI_nle (by omega) (by omega)) (nm_r (zn_D1 (D + 1)) ⟨vD, ?_⟩)
        rw [cD, f3, f4, ← hs.1.2.2.2.2.2.2.1, ← hs.1.2.2.2.2.2.2.2.1]
        refine nm_e ⟨vD, vp_in_nI (by omega) (by decide), ?_⟩
        rw [nI_clamp (n := m) (by omega)]
        refine br_c (fun _ => dr) (fun q1 => ⟨vD, vp_in_nI (by omega) (by decide), br_c (fun _ => dr) (fun q2 => absurd ⟨q1, q2⟩ cgt)⟩)
/-- X throws, Y throws -/
theorem raise_both (hs : zR_s u v) (hb : zR_b u H R K) (hc : zR_c1 (gX_ops u) (gX_operands u) (gX_lengths u) co cc ca cd lk H R) (hh : zR_h1 (gX_superOf u) (gX_fieldCount u) (gX_refFields u) of fl hp gx gy he us p l) {x : Int32} {D m i : Nat} (hG : zG u H R K p l cd fm fp ce hi lo sk D m i) (ew : wu = nI (zF_w (gX_frameWords u) fm (D + 1))) :
  ∃ s' t', (∀ post : SX → Prop, post s' → wpX_raise post (rX he (nI (D + 1)) wu (-1) 2 10000000000 (-1) dn cl sy tc lc rd co cc ca hp np gx fm fp ce u) x) ∧ (∀ post : SY → Prop, post t' → wpY_raise post (rY us (nI (D + 1)) wu st og 2 cl sy tc lc 10000000000 rd cd lk of fl gy mk fm fp hi lo sk v) x) ∧ gX_wanted s' = -1 ∧ (zS u v H R K s' t' st ∨ zE u v H R s' t' st) := by
  have hD := zG_D hb hG
  obtain ⟨f1, f2, f3, f4, f5, f6, f7⟩ := id hG.1
  subst ew
  obtain ⟨s', t', hX, hY, hw, hr⟩ := raise_loop (x := x) (og := nI (32 * m + i)) (dn := dn) (cl := cl) (sy := sy) (tc := tc) (lc := lc) (np := np) (rd := rd) (mk := mk) (st := st) hs hb hc hh D m i hG
  refine ⟨s', t', ?_, ?_, hw, hr⟩
  · intro post hp
    have vD : vp_in (nI D) 14 := vp_in_nI (by omega) (by decide)
    refine upX_raise ?_
    rw [rX_frames, rX_frameMethod, rX_framePlace, zn_D1, nI_clamp (by omega), f3, f4]
    refine ⟨vD, vD, nm_r (show nI m * 32 + nI i = nI (32 * m + i) by rw [show (32 : Int32) = nI 32 from rfl, pk_mul, nI_add, Nat.mul_comm]) (nm_e ⟨D + 2, hX post hp⟩)⟩
  · intro post hp
    have vD : vp_in (nI D) 14 := vp_in_nI (by omega) (by decide)
    refine upY_raise ?_
    rw [rY_depth, rY_method, rY_at, zn_D1, nI_clamp (by omega), f3, f4]
    refine ⟨vD, vD, nm_r (show (32 : Int32) * nI m + nI i = nI (32 * m + i) by rw [show (32 : Int32) = nI 32 from rfl, pk_mul, nI_add]) ⟨D + 2, ?_⟩⟩
    rw [rY__origin]
    exact hY post hp
end
