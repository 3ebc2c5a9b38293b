/-! IS, GET, PUT -/
section
variable {u : SX} {v : SY} {he fr wu wa ou lg dn cl sy tc lc us st og an : Int32} {re : Int64} {rd co cc ca hp np gx fm fp ce cd lk of fl gy mk hi lo sk : Nat → Int32}
variable {H : Nat → Nat} {R : Nat → Prop} {K : Nat → Nat → Nat} {p : Nat → Nat} {l : List Nat}
theorem op_15 (hs : zR_s u v) (hb : zR_b u H R K) (hc : zR_c1 (gX_ops u) (gX_operands u) (gX_lengths u) co cc ca cd lk H R) (hh : zR_h1 (gX_superOf u) (gX_fieldCount u) (gX_refFields u) of fl hp gx gy he us p l) {D m i : Nat} (hF : zF u H R K p l wu cd fm fp ce hi lo sk D m i) (eo : (zw_op (gX_ops u) (24 * m + i)) = 15) : zN u v H R K (rX he (nI (D + 1)) wu (-1) 2 10000000000 (-1) dn cl sy tc lc rd co cc ca hp np gx fm fp ce u) (rY us (nI (D + 1)) wu st og 2 cl sy tc lc 10000000000 rd cd lk of fl gy mk fm fp hi lo sk v) st := by
  obtain ⟨hD, hm, hi2, e1, e2, ⟨n, hn, hin, el, at_⟩, xc, yo, o24, ya⟩ := zS_top hs hb hc hF
  obtain ⟨a1, a2, a3, a4, a5, a6, a7, a8, a9, a10, a11, a12, a13⟩ := at_
  have hhi := hF.2.1
  have hvv := hF.2.2.1
  have eP : (zw_P (gX_ops u) (gX_operands u) (24 * m + i)) = 1 := by unfold zw_P; rw [eo]; rfl
  have eQ : zw_Q (gX_ops u) (24 * m + i) = 1 := by unfold zw_Q; rw [eo]; rfl
  have go := a10 (by rw [eo]; unfold zt_fall; decide)
  have a3' := a3
  rw [eP] at a3'
  obtain ⟨h, eh⟩ : ∃ h, (H (24 * m + i)) = h + 1 := ⟨(H (24 * m + i)) - 1, by omega⟩
  have k1 := a7 0 (by omega) (by rw [eo]; exact (show (2 : Nat) ≠ 0 by decide))
  have k1 : K (24 * m + i) (5 + (H (24 * m + i)) - 0) = 2 := by rw [k1, eo]; rfl
  have v1 : zl_ref p l (sk (6 * D + h)) (ce (12 * D + (6 + h))) := by
    have := (hvv (5 + (H (24 * m + i)) - 0) (by omega)).2 k1
    unfold zF_y at this
    rw [if_neg (by omega)] at this
    rw [show 6 * D + h = 6 * D + (5 + (H (24 * m + i)) - 0 - 6) by omega, show 12 * D + (6 + h) = 12 * D + (5 + (H (24 * m + i)) - 0) by omega]
    exact this
  have hhi2 : hi D = nI (h + 1) := by rw [hhi, eh]
  have x0 := zx_ce xc (by omega)
  have eb : 6 + (H (24 * m + i)) - (zw_P (gX_ops u) (gX_operands u) (24 * m + i)) = 6 + h := by rw [eP, eh]; omega
  have eb2 : (H (24 * m + i)) - (zw_P (gX_ops u) (gX_operands u) (24 * m + i)) = h := by rw [eP, eh]; omega
  rw [eb, eo] at x0
  have hS : ∀ z : Int32, _ := fun z => zS_push (v := v) (wu := wu) (dn := dn) (cl := cl) (sy := sy) (tc := tc) (lc := lc) (np := np) (rd := rd) (mk := mk) (og' := og) (k := st + 1) (hi' := upd (upd hi D (nI h)) D (nI (h + 1))) (y := z) (x := z) hb hc hh hF hn go eQ (by omega) (by omega) (by omega) a3 (by rw [eo]; exact ⟨fun _ => rfl, fun w => absurd (show (1 : Nat) = 2 from w) (by decide)⟩) (by rw [eb2]; exact pk_us) (fun j hj => by rw [pk_un (by omega), pk_un (by omega)])
  rw [eb, eb2] at hS
  have ci := a12 (Or.inr eo)
  have dcl := zR_cls hs
  -- X and Y find the same answer z
  have xw : ∀ (post : SX → Prop) (z : Int32), ((ce (12 * D + (6 + h)) = 0 ∧ z = 0) ∨ (¬ ce (12 * D + (6 + h)) = 0 ∧ vp_in (ce (12 * D + (6 + h))) 49 ∧ zc_dp (gX_superOf u) 4 (hp (ce (12 * D + (6 + h))).toNatClampNeg) ∧ z = zp (zc_bl (gX_superOf u) (gX_operands u (24 * m + i)) 4 (hp (ce (12 * D + (6 + h))).toNatClampNeg)))) → post (rX he (nI (D + 1)) wu (-1) 2 10000000000 (-1) dn cl sy tc lc rd co cc ca hp np gx fm (upd fp D (nI (i + 1))) (upd ce (12 * D + (6 + h)) z) u) → wpX_step post (rX he (nI (D + 1)) wu (-1) 2 10000000000 (-1) dn cl sy tc lc rd co cc ca hp np gx fm fp ce u) := by
    intro post z hz hpp
    refine xd_15 hD hm hi2 (by omega) e1 e2 x0.1 x0.2.1 x0.2.2 (upX_compare ⟨vp_in_nI (by omega) (by decide), nm_e (br_f (by decide) ?_)⟩)
    rw [rX_cells, rX_heap, nI_clamp (n := 12 * D + (6 + h)) (by omega)]
    rcases hz with ⟨w, rfl⟩ | ⟨w, vv, dp, rfl⟩
    · exact br_t w (uX_compare_59 (uX_compare_60 (br_t rfl (x_cmp77 hD (by omega) e2 hpp))))
    · refine br_f w ⟨vv, x_isBelow dp (zp_br (fun q => ?_) (fun q => ?_))⟩
      · rw [rX_superOf] at q; rw [zp_f q] at hpp
        exact uX_compare_59 (uX_compare_60 (br_t rfl (x_cmp77 hD (by omega) e2 hpp)))
      · rw [rX_superOf] at q; rw [zp_t q] at hpp
        exact uX_compare_60 (br_f (by decide) (x_cmp77 hD (by omega) e2 hpp))
  have yw : ∀ (post : SY → Prop) (z : Int32), ((sk (6 * D + h) = 0 ∧ z = 0) ∨ (¬ sk (6 * D + h) ≤ 0 ∧ vp_in (sk (6 * D + h)) 49 ∧ zc_dp (gY_up v) 4 (of (sk (6 * D + h)).toNatClampNeg - 1) ∧ z = zp (zc_bl (gY_up v) (gX_operands u (24 * m + i)) 4 (of (sk (6 * D + h)).toNatClampNeg - 1)))) → post (rY us (nI (D + 1)) wu (st + 1) og 2 cl sy tc lc 10000000000 rd cd lk of fl gy mk fm (upd fp D (nI (i + 1))) (upd (upd hi D (nI h)) D (nI (h + 1))) lo (upd sk (6 * D + h) z) v) → wpY_step post (rY us (nI (D + 1)) wu st og 2 cl sy tc lc 10000000000 rd cd lk of fl gy mk fm fp hi lo sk v) := by
    intro post z hz hpp
    refine yd_15 hD hm hi2 e1 e2 (by rw [yo, eo]; rfl) ya (yp1 (o := 15) (by decide) (fun w => absurd w (by decide)) rfl (yr_pop hD (by omega) hhi2 (uY_plain_17 ?_)))
    have fin : ((sk (6 * D + h) ≤ 0 → kY_plain_233 (fun u1 => post u1) (rY us (nI (D + 1)) wu (st + 1) og 2 cl sy tc lc 10000000000 rd cd lk of fl gy mk fm (upd fp D (nI (i + 1))) (upd hi D (nI h)) lo sk v)) ∧ (¬ sk (6 * D + h) ≤ 0 → (vp_in (sk (6 * D + h)) 49 ∧ wpY_isBelow (fun r_200 => (((r_200 = 0 → (kY_plain_233 (fun u1 => post u1) (rY us (nI (D + 1)) wu (st + 1) og 2 cl sy tc lc 10000000000 rd cd lk of fl gy mk fm (upd fp D (nI (i + 1))) (upd hi D (nI h)) lo sk v))) ∧ (¬ r_200 = 0 → (kY_plain_234 (fun u1 => post u1) 1 (rY us (nI (D + 1)) wu (st + 1) og 2 cl sy tc lc 10000000000 rd cd lk of fl gy mk fm (upd fp D (nI (i + 1))) (upd hi D (nI h)) lo sk v)))))) (rY us (nI (D + 1)) wu (st + 1) og 2 cl sy tc lc 10000000000 rd cd lk of fl gy mk fm (upd fp D (nI (i + 1))) (upd hi D (nI h)) lo sk v) (of (sk (6 * D + h)).toNatClampNeg - 1) (gX_operands u (24 * m + i))))) := by
      rcases hz with ⟨w, rfl⟩ | ⟨w, vv, dp, rfl⟩
      · exact br_t (by rw [w]; decide) (uY_plain_233 (uY_plain_234 (br_t rfl (uY_plain_247 (yr_push hD (by omega) pk_us hpp)))))
      · refine br_f w ⟨vv, y_isBelow (u := (rY us (nI (D + 1)) wu (st + 1) og 2 cl sy tc lc 10000000000 rd cd lk of fl gy mk fm (upd fp D (nI (i + 1))) (upd hi D (nI h)) lo sk v)) dp (zp_br (fun q => ?_) (fun q => ?_))⟩
        · rw [rY_up] at q; rw [zp_f q] at hpp
          exact uY_plain_233 (uY_plain_234 (br_t rfl (uY_plain_247 (yr_push hD (by omega) pk_us hpp))))
        · rw [rY_up] at q; rw [zp_t q] at hpp
          exact uY_plain_234 (br_f (by decide) (uY_plain_247 (yr_push hD (by omega) pk_us hpp)))
    rw [rY_of]
    repeat (first | exact fin | refine br_t (by decide) ?_ | refine br_f (by decide) ?_)
  rcases zl_refc hh v1 with ⟨q1, q2⟩ | ⟨o, c, n', ol, ey, ex, o1, o2, p1, p2, c4, cu, eof, ehp, efc, n16, _⟩
  · exact ⟨_, _, zX_done (fun post hp => xw post 0 (Or.inl ⟨q2, rfl⟩) hp) rfl, fun post hp => yw post 0 (Or.inl ⟨q1, rfl⟩) hp, Or.inl (hS 0)⟩
  · have cx : hp (ce (12 * D + (6 + h))).toNatClampNeg = nI c := by rw [ex, nI_clamp (by omega)]; exact ehp
    have cy : of (sk (6 * D + h)).toNatClampNeg - 1 = nI c := by rw [ey, nI_clamp (by omega), eof, nI_pred]
    have cuY : gY_up v c ≠ -2 := by rw [← hs.1.1]; exact cu
    have dpY := dcl.1.2 c c4 cuY
    have dpX : zc_dp (gX_superOf u) 4 (nI c) := by rw [hs.1.1]; exact dpY
    refine ⟨_, _, zX_done (fun post hpp => xw post (zp (zc_bl (gX_superOf u) (gX_operands u (24 * m + i)) 4 (nI c))) (Or.inr ⟨by rw [ex]; exact nI_ne0 (by omega) (by omega), by rw [ex]; exact vp_in_nI (by omega) (by decide), by rw [cx]; exact dpX, by rw [cx]⟩) hpp) rfl, fun post hpp => yw post (zp (zc_bl (gX_superOf u) (gX_operands u (24 * m + i)) 4 (nI c))) (Or.inr ⟨by rw [ey]; exact nI_nle (by omega) (by omega), by rw [ey]; exact vp_in_nI (by omega) (by decide), by rw [cy]; exact dpY, by rw [cy, hs.1.1]⟩) hpp, Or.inl (hS _)⟩
/-- is it an object of the class, on X's side -/
theorem x_refuses {post : Int32 → SX → Prop} {s : SX} {x : Int32} {over : Int32} (h0 : x = 0 → wpX_raise (fun u1 => post 1 u1) s 2) (h1 : ¬ x = 0 → vp_in x 49 ∧ zc_dp (gX_superOf s) 4 (gX_heap s x.toNatClampNeg) ∧ (¬ zc_bl (gX_superOf s) over 4 (gX_heap s x.toNatClampNeg) → wpX_raise (fun u2 => post 1 u2) s 3) ∧ (zc_bl (gX_superOf s) over 4 (gX_heap s x.toNatClampNeg) → post 0 s)) : wpX_refusesField post s x over := by
  refine upX_refusesField (br_c h0 (fun w => ?_))
  obtain ⟨k1, k2, k3, k4⟩ := h1 w
  exact ⟨k1, x_isBelow k2 (zp_br k3 k4)⟩
theorem op_13 (hs : zR_s u v) (hb : zR_b u H R K) (hc : zR_c1 (gX_ops u) (gX_operands u) (gX_lengths u) co cc ca cd lk H R) (hh : zR_h1 (gX_superOf u) (gX_fieldCount u) (gX_refFields u) of fl hp gx gy he us p l) {D m i : Nat} (hF : zF u H R K p l wu cd fm fp ce hi lo sk D m i) (eo : (zw_op (gX_ops u) (24 * m + i)) = 13) : zN u v H R K (rX he (nI (D + 1)) wu (-1) 2 10000000000 (-1) dn cl sy tc lc rd co cc ca hp np gx fm fp ce u) (rY us (nI (D + 1)) wu st og 2 cl sy tc lc 10000000000 rd cd lk of fl gy mk fm fp hi lo sk v) st := by
  obtain ⟨hD, hm, hi2, e1, e2, ⟨n, hn, hin, el, at_⟩, xc, yo, o24, ya⟩ := zS_top hs hb hc hF
  obtain ⟨a1, a2, a3, a4, a5, a6, a7, a8, a9, a10, a11, a12, a13⟩ := at_
  have hhi := hF.2.1
  have hvv := hF.2.2.1
  have eP : (zw_P (gX_ops u) (gX_operands u) (24 * m + i)) = 1 := by unfold zw_P; rw [eo]; rfl
  have eQ : zw_Q (gX_ops u) (24 * m + i) = 1 := by unfold zw_Q; rw [eo]; rfl
  have go := a10 (by rw [eo]; unfold zt_fall; decide)
  have a3' := a3
  rw [eP] at a3'
  obtain ⟨h, eh⟩ : ∃ h, (H (24 * m + i)) = h + 1 := ⟨(H (24 * m + i)) - 1, by omega⟩
  have k1 := a7 0 (by omega) (by rw [eo]; exact (show (2 : Nat) ≠ 0 by decide))
  have k1 : K (24 * m + i) (5 + (H (24 * m + i)) - 0) = 2 := by rw [k1, eo]; rfl
  have v1 : zl_ref p l (sk (6 * D + h)) (ce (12 * D + (6 + h))) := by
    have := (hvv (5 + (H (24 * m + i)) - 0) (by omega)).2 k1
    unfold zF_y at this
    rw [if_neg (by omega)] at this
    rw [show 6 * D + h = 6 * D + (5 + (H (24 * m + i)) - 0 - 6) by omega, show 12 * D + (6 + h) = 12 * D + (5 + (H (24 * m + i)) - 0) by omega]
    exact this
  have hhi2 : hi D = nI (h + 1) := by rw [hhi, eh]
  have x0 := zx_ce xc (by omega)
  have eb : 6 + (H (24 * m + i)) - (zw_P (gX_ops u) (gX_operands u) (24 * m + i)) = 6 + h := by rw [eP, eh]; omega
  have eb2 : (H (24 * m + i)) - (zw_P (gX_ops u) (gX_operands u) (24 * m + i)) = h := by rw [eP, eh]; omega
  rw [eb, eo] at x0
  obtain ⟨j, hj, ej, cju, nf, enf, hfn, hn16⟩ := a13 (Or.inl eo)
  have dcl := zR_cls hs
  have epk : zk_pk (gX_refFields u) (zw_op (gX_ops u) (24 * m + i)) (gX_operands u (24 * m + i)) = if bt (gX_refFields u (j / 16)) (j % 16) then 2 else 1 := by
    rw [eo, ej]; unfold zk_pk; rw [if_pos rfl, nI_clamp (by omega)]
  rw [ej] at x0 ya
  have cc12 : (nI (12 * D + (6 + h))).toNatClampNeg = 12 * D + (6 + h) := nI_clamp (by omega)
  have rs : ∀ x : Int32, _ := fun x => raise_both (x := x) (st := st + 1) (og := og) (dn := dn) (cl := cl) (sy := sy) (tc := tc) (lc := lc) (np := np) (rd := rd) (mk := mk) hs hb hc hh (zF_G (hi' := upd hi D (nI h)) hb hF (fun j hj => pk_un (by omega))) hF.2.2.2.2.1
  rcases zl_refc hh v1 with ⟨q1, q2⟩ | ⟨o, c, n', ol, ey, ex, o1, o2, p1, p2, c4, cu, eof, ehp, efc, n16, fv⟩
  · obtain ⟨s', t', hX, hY, hw, hr⟩ := rs 2
    refine ⟨s', t', zX_done (fun post hp => ?_) hw, fun post hp => ?_, hr⟩
    · refine xd_13 hD hm hi2 (by omega) e1 e2 x0.1 x0.2.1 x0.2.2 (upX_getField ⟨vp_in_nI (by omega) (by decide), nm_e ⟨zn_16, ?_⟩⟩)
      rw [rX_cells, cc12]
      exact x_refuses (fun _ => hX _ (br_f (by decide) hp)) (fun w => absurd q2 w)
    · refine yd_13 hD hm hi2 e1 e2 (by rw [yo, eo]; rfl) ya (upY_field (br_f (by decide) (uY_field_14 (yr_pop hD (by omega) hhi2 ?_))))
      exact br_t q1 (uY_field_46 (br_t q1 (uY_field_57 (hY post hp))))
  · have cuY : gY_up v c ≠ -2 := by rw [← hs.1.1]; exact cu
    have dpY := dcl.1.2 c c4 cuY
    have dpX : zc_dp (gX_superOf u) 4 (nI c) := by rw [hs.1.1]; exact dpY
    have cx : hp (ce (12 * D + (6 + h))).toNatClampNeg = nI c := by rw [ex, nI_clamp (by omega)]; exact ehp
    have cy : of (sk (6 * D + h)).toNatClampNeg - 1 = nI c := by rw [ey, nI_clamp (by omega), eof, nI_pred]
    have nx : ¬ ce (12 * D + (6 + h)) = 0 := by rw [ex]; exact nI_ne0 (by omega) (by omega)
    have ny : ¬ sk (6 * D + h) = 0 := by rw [ey]; exact nI_ne0 (by omega) (by omega)
    have vx : vp_in (ce (12 * D + (6 + h))) 49 := by rw [ex]; exact vp_in_nI (by omega) (by decide)
    have vy : vp_in (sk (6 * D + h)) 49 := by rw [ey]; exact vp_in_nI (by omega) (by decide)
    by_cases bl : zc_bl (gX_superOf u) (nI (j / 16)) 4 (nI c)
    · have blY : zc_bl (gY_up v) (nI (j / 16)) 4 (nI c) := by rw [← hs.1.1]; exact bl
      obtain ⟨c', n2, c4', ec', efc', n16', nle, brf⟩ := zc_pre hs.2.1.2 (by omega) enf hn16 4 _ dpX bl
      have := (nI_eq (a := c) (b := c') (by omega) (by omega)).mp ec'
      subst this
      have : n2 = n' := by
        rw [efc] at efc'
        exact ((nI_eq (by omega) (by omega)).mp efc').symm
      subst this
      have fv' := fv (j % 16) (by omega)
      rw [brf (j % 16) hfn] at fv'
      have hS := zS_push (v := v) (wu := wu) (dn := dn) (cl := cl) (sy := sy) (tc := tc) (lc := lc) (np := np) (rd := rd) (mk := mk) (og' := og) (k := st + 1) (hi' := upd (upd hi D (nI h)) D (nI (h + 1))) (y := fl (16 * o + j % 16)) (x := hp (p o + 1 + j % 16)) hb hc hh hF hn go eQ (by omega) (by omega) (by omega) a3 (by rw [epk]; exact fv') (by rw [eb2]; exact pk_us) (fun j hj => by rw [pk_un (by omega), pk_un (by omega)])
      rw [eb, eb2] at hS
      refine ⟨_, _, zX_done (fun post hpp => ?_) rfl, fun post hpp => ?_, Or.inl hS⟩
      · refine xd_13 hD hm hi2 (by omega) e1 e2 x0.1 x0.2.1 x0.2.2 (upX_getField ⟨vp_in_nI (by omega) (by decide), nm_e ⟨zn_16, ?_⟩⟩)
        rw [rX_cells, cc12, (zn_d16 hj).2, (zn_d16 hj).1]
        refine x_refuses (fun w => absurd w nx) (fun _ => ⟨vx, by rw [rX_heap, cx]; exact dpX, fun w => absurd ?_ w, fun _ => br_t rfl ⟨zn_16, ?_⟩⟩)
        · rw [rX_heap, cx]; exact bl
        · rw [rX_cells, rX_heap, ex, nI_1, nI_add, nI_clamp (n := p o + 1 + j % 16) (by omega)]
          refine ⟨vp_in_nI (by omega) (by decide), vp_in_nI (by omega) (by decide), nm_e ?_⟩
          rw [rX__cells]
          exact xr_adv hD e2 hpp
      · have e16 : (16 : Int32) * sk (6 * D + h) + nI (j % 16) = nI (16 * o + j % 16) := by
          rw [ey, show (16 : Int32) = nI 16 from rfl, pk_mul, nI_add]
        refine yd_13 hD hm hi2 e1 e2 (by rw [yo, eo]; rfl) ya (upY_field (br_f (by decide) (uY_field_14 (yr_pop hD (by omega) hhi2 ?_))))
        rw [(zn_d16 hj).2, (zn_d16 hj).1, e16, rY_of, rY_fields, cy, nI_clamp (n := 16 * o + j % 16) (by omega)]
        refine br_f ny ⟨vy, zn_16, y_isBelow (u := (rY us (nI (D + 1)) wu (st + 1) og 2 cl sy tc lc 10000000000 rd cd lk of fl gy mk fm fp (upd hi D (nI h)) lo sk v)) dpY (zp_br (fun q => absurd blY q) (fun _ => br_t rfl ⟨zn_16, vp_in_nI (by omega) (by decide), yr_push hD (by omega) pk_us (uY_field_105 ?_)⟩))⟩
        rw [rY_depth, zn_D1, rY_at, nI_clamp (by omega), e2, nI_1]
        refine ⟨vp_in_nI (by omega) (by decide), vp_in_nI (by omega) (by decide), nm_e ?_⟩
        rw [rY__at]; exact hpp
    · have blY : ¬ zc_bl (gY_up v) (nI (j / 16)) 4 (nI c) := by rw [← hs.1.1]; exact bl
      obtain ⟨s', t', hX, hY, hw, hr⟩ := rs 3
      refine ⟨s', t', zX_done (fun post hp => ?_) hw, fun post hp => ?_, hr⟩
      · refine xd_13 hD hm hi2 (by omega) e1 e2 x0.1 x0.2.1 x0.2.2 (upX_getField ⟨vp_in_nI (by omega) (by decide), nm_e ⟨zn_16, ?_⟩⟩)
        rw [rX_cells, cc12, (zn_d16 hj).1]
        refine x_refuses (fun w => absurd w nx) (fun _ => ⟨vx, by rw [rX_heap, cx]; exact dpX, fun _ => hX _ (br_f (by decide) hp), fun w => absurd ?_ bl⟩)
        rw [rX_heap, cx] at w; exact w
      · refine yd_13 hD hm hi2 e1 e2 (by rw [yo, eo]; rfl) ya (upY_field (br_f (by decide) (uY_field_14 (yr_pop hD (by omega) hhi2 ?_))))
        rw [(zn_d16 hj).1, rY_of, cy]
        exact br_f ny ⟨vy, zn_16, y_isBelow (u := (rY us (nI (D + 1)) wu (st + 1) og 2 cl sy tc lc 10000000000 rd cd lk of fl gy mk fm fp (upd hi D (nI h)) lo sk v)) dpY (zp_br (fun _ => uY_field_46 (br_f ny (uY_field_57 (hY post hp)))) (fun q => absurd q blY))⟩
theorem op_14 (hs : zR_s u v) (hb : zR_b u H R K) (hc : zR_c1 (gX_ops u) (gX_operands u) (gX_lengths u) co cc ca cd lk H R) (hh : zR_h1 (gX_superOf u) (gX_fieldCount u) (gX_refFields u) of fl hp gx gy he us p l) {D m i : Nat} (hF : zF u H R K p l wu cd fm fp ce hi lo sk D m i) (eo : (zw_op (gX_ops u) (24 * m + i)) = 14) : zN u v H R K (rX he (nI (D + 1)) wu (-1) 2 10000000000 (-1) dn cl sy tc lc rd co cc ca hp np gx fm fp ce u) (rY us (nI (D + 1)) wu st og 2 cl sy tc lc 10000000000 rd cd lk of fl gy mk fm fp hi lo sk v) st := by
  obtain ⟨hD, hm, hi2, e1, e2, ⟨n, hn, hin, el, at_⟩, xc, yo, o24, ya⟩ := zS_top hs hb hc hF
  obtain ⟨a1, a2, a3, a4, a5, a6, a7, a8, a9, a10, a11, a12, a13⟩ := at_
  have hhi := hF.2.1
  have hvv := hF.2.2.1
  have eP : (zw_P (gX_ops u) (gX_operands u) (24 * m + i)) = 2 := by unfold zw_P; rw [eo]; rfl
  have eQ : zw_Q (gX_ops u) (24 * m + i) = 0 := by unfold zw_Q; rw [eo]; rfl
  have go := a10 (by rw [eo]; unfold zt_fall; decide)
  have a3' := a3
  rw [eP] at a3'
  obtain ⟨h, eh⟩ : ∃ h, (H (24 * m + i)) = h + 2 := ⟨(H (24 * m + i)) - 2, by omega⟩
  obtain ⟨j, hj, ej, cju, nf, enf, hfn, hn16⟩ := a13 (Or.inr eo)
  have k1 := a7 1 (by omega) (by rw [eo]; exact (show (2 : Nat) ≠ 0 by decide))
  have k1 : K (24 * m + i) (5 + (H (24 * m + i)) - 1) = 2 := by rw [k1, eo]; rfl
  have v1 : zl_ref p l (sk (6 * D + h)) (ce (12 * D + (6 + h))) := by
    have := (hvv (5 + (H (24 * m + i)) - 1) (by omega)).2 k1
    unfold zF_y at this
    rw [if_neg (by omega)] at this
    rw [show 6 * D + h = 6 * D + (5 + (H (24 * m + i)) - 1 - 6) by omega, show 12 * D + (6 + h) = 12 * D + (5 + (H (24 * m + i)) - 1) by omega]
    exact this
  have end0 : zy_nd (gX_refFields u) m (zw_op (gX_ops u) (24 * m + i)) (gX_operands u (24 * m + i)) 0 = if bt (gX_refFields u (j / 16)) (j % 16) then 2 else 1 := by
    rw [eo, ej]; unfold zy_nd; rw [if_pos rfl, if_pos rfl, nI_clamp (by omega)]
  have k0 := a7 0 (by omega) (by rw [end0]; split <;> decide)
  rw [end0] at k0
  have v0 : zl_val p l (if bt (gX_refFields u (j / 16)) (j % 16) then 2 else 1) (sk (6 * D + (h + 1))) (ce (12 * D + (6 + h) + 1)) := by
    have := hvv (5 + (H (24 * m + i)) - 0) (by omega)
    rw [k0] at this
    unfold zF_y at this
    rw [if_neg (show ¬ 5 + (H (24 * m + i)) - 0 < 6 by omega)] at this
    rw [show 6 * D + (h + 1) = 6 * D + (5 + (H (24 * m + i)) - 0 - 6) by omega, show 12 * D + (6 + h) + 1 = 12 * D + (5 + (H (24 * m + i)) - 0) by omega]
    exact this
  have hhi2 : hi D = nI (h + 1 + 1) := by rw [hhi, eh]
  have x0 := zx_ce xc (by omega)
  have eb : 6 + (H (24 * m + i)) - (zw_P (gX_ops u) (gX_operands u) (24 * m + i)) = 6 + h := by rw [eP, eh]; omega
  have eb2 : (H (24 * m + i)) - (zw_P (gX_ops u) (gX_operands u) (24 * m + i)) = h := by rw [eP, eh]; omega
  rw [eb, eo] at x0
  have dcl := zR_cls hs
  rw [ej] at x0 ya
  have cc12 : (nI (12 * D + (6 + h))).toNatClampNeg = 12 * D + (6 + h) := nI_clamp (by omega)
  have rs : ∀ x : Int32, _ := fun x => raise_both (x := x) (st := st + 1) (og := og) (dn := dn) (cl := cl) (sy := sy) (tc := tc) (lc := lc) (np := np) (rd := rd) (mk := mk) hs hb hc hh (zF_G (hi' := upd (upd hi D (nI (h + 1))) D (nI h)) hb hF (fun j hj => by rw [pk_un (by omega), pk_un (by omega)])) hF.2.2.2.2.1
  rcases zl_refc hh v1 with ⟨q1, q2⟩ | ⟨o, c, n', ol, ey, ex, o1, o2, p1, p2, c4, cu, eof, ehp, efc, n16, fv⟩
  · obtain ⟨s', t', hX, hY, hw, hr⟩ := rs 2
    refine ⟨s', t', zX_done (fun post hp => ?_) hw, fun post hp => ?_, hr⟩
    · refine xd_14 hD hm hi2 (by omega) e1 e2 x0.1 x0.2.1 x0.2.2 (upX_putField ⟨vp_in_nI (by omega) (by decide), nm_e ⟨zn_16, ?_⟩⟩)
      rw [rX_cells, cc12]
      exact x_refuses (fun _ => hX _ (br_f (by decide) hp)) (fun w => absurd q2 w)
    · refine yd_14 hD hm hi2 e1 e2 (by rw [yo, eo]; rfl) ya (upY_field (br_t rfl (yr_pop hD (by omega) hhi2 (uY_field_14 (yr_pop hD (by omega) pk_us ?_)))))
      exact br_t q1 (uY_field_46 (br_t q1 (uY_field_57 (hY post hp))))
  · have cuY : gY_up v c ≠ -2 := by rw [← hs.1.1]; exact cu
    have dpY := dcl.1.2 c c4 cuY
    have dpX : zc_dp (gX_superOf u) 4 (nI c) := by rw [hs.1.1]; exact dpY
    have cx : hp (ce (12 * D + (6 + h))).toNatClampNeg = nI c := by rw [ex, nI_clamp (by omega)]; exact ehp
    have cy : of (sk (6 * D + h)).toNatClampNeg - 1 = nI c := by rw [ey, nI_clamp (by omega), eof, nI_pred]
    have nx : ¬ ce (12 * D + (6 + h)) = 0 := by rw [ex]; exact nI_ne0 (by omega) (by omega)
    have ny : ¬ sk (6 * D + h) = 0 := by rw [ey]; exact nI_ne0 (by omega) (by omega)
    have vx : vp_in (ce (12 * D + (6 + h))) 49 := by rw [ex]; exact vp_in_nI (by omega) (by decide)
    have vy : vp_in (sk (6 * D + h)) 49 := by rw [ey]; exact vp_in_nI (by omega) (by decide)
    by_cases bl : zc_bl (gX_superOf u) (nI (j / 16)) 4 (nI c)
    · have blY : zc_bl (gY_up v) (nI (j / 16)) 4 (nI c) := by rw [← hs.1.1]; exact bl
      obtain ⟨c', n2, c4', ec', efc', n16', nle, brf⟩ := zc_pre hs.2.1.2 (by omega) enf hn16 4 _ dpX bl
      have := (nI_eq (a := c) (b := c') (by omega) (by omega)).mp ec'
      subst this
      have : n2 = n' := by
        rw [efc] at efc'
        exact ((nI_eq (by omega) (by omega)).mp efc').symm
      subst this
      rw [← brf (j % 16) hfn] at v0
      have hh' := zl_put hh ol eof c4 efc n16 (by omega) v0
      have hS := zS_pop (v := v) (wu := wu) (dn := dn) (cl := cl) (sy := sy) (tc := tc) (lc := lc) (np := np) (rd := rd) (mk := mk) (og' := og) (k := st + 1) (hi' := upd (upd hi D (nI (h + 1))) D (nI h)) hb hc hh' hF hn go eQ (by omega) (by omega) (by omega) a3 (by rw [eb2]; exact pk_us) (fun j hj => by rw [pk_un (by omega), pk_un (by omega)])
      refine ⟨_, _, zX_done (fun post hpp => ?_) rfl, fun post hpp => ?_, Or.inl hS⟩
      · refine xd_14 hD hm hi2 (by omega) e1 e2 x0.1 x0.2.1 x0.2.2 (upX_putField ⟨vp_in_nI (by omega) (by decide), nm_e ⟨zn_16, ?_⟩⟩)
        rw [rX_cells, cc12, (zn_d16 hj).2, (zn_d16 hj).1]
        refine x_refuses (fun w => absurd w nx) (fun _ => ⟨vx, by rw [rX_heap, cx]; exact dpX, fun w => absurd ?_ w, fun _ => br_t rfl ⟨zn_16, ?_⟩⟩)
        · rw [rX_heap, cx]; exact bl
        · rw [rX_cells, rX_heap, ex, nI_1, nI_1, nI_add, nI_clamp (n := p o + 1 + j % 16) (by omega), nI_clamp (n := 12 * D + (6 + h) + 1) (by omega)]
          refine ⟨vp_in_nI (by omega) (by decide), vp_in_nI (by omega) (by decide), nm_e ?_⟩
          rw [rX__heap]
          exact xr_adv hD e2 hpp
      · have e16 : (16 : Int32) * sk (6 * D + h) + nI (j % 16) = nI (16 * o + j % 16) := by
          rw [ey, show (16 : Int32) = nI 16 from rfl, pk_mul, nI_add]
        refine yd_14 hD hm hi2 e1 e2 (by rw [yo, eo]; rfl) ya (upY_field (br_t rfl (yr_pop hD (by omega) hhi2 (uY_field_14 (yr_pop hD (by omega) pk_us ?_)))))
        rw [(zn_d16 hj).2, (zn_d16 hj).1, e16, rY_of, rY_fields, cy, nI_clamp (n := 16 * o + j % 16) (by omega)]
        refine br_f ny ⟨vy, zn_16, y_isBelow (u := (rY us (nI (D + 1)) wu (st + 1) og 2 cl sy tc lc 10000000000 rd cd lk of fl gy mk fm fp (upd (upd hi D (nI (h + 1))) D (nI h)) lo sk v)) dpY (zp_br (fun q => absurd blY q) (fun _ => br_f (by decide) ⟨zn_16, vp_in_nI (by omega) (by decide), nm_e (uY_field_105 ?_)⟩))⟩
        rw [rY__fields, rY_depth, zn_D1, rY_at, nI_clamp (by omega), e2, nI_1]
        refine ⟨vp_in_nI (by omega) (by decide), vp_in_nI (by omega) (by decide), nm_e ?_⟩
        rw [rY__at]; exact hpp
    · have blY : ¬ zc_bl (gY_up v) (nI (j / 16)) 4 (nI c) := by rw [← hs.1.1]; exact bl
      obtain ⟨s', t', hX, hY, hw, hr⟩ := rs 3
      refine ⟨s', t', zX_done (fun post hp => ?_) hw, fun post hp => ?_, hr⟩
      · refine xd_14 hD hm hi2 (by omega) e1 e2 x0.1 x0.2.1 x0.2.2 (upX_putField ⟨vp_in_nI (by omega) (by decide), nm_e ⟨zn_16, ?_⟩⟩)
        rw [rX_cells, cc12, (zn_d16 hj).1]
        refine x_refuses (fun w => absurd w nx) (fun _ => ⟨vx, by rw [rX_heap, cx]; exact dpX, fun _ => hX _ (br_f (by decide) hp), fun w => absurd ?_ bl⟩)
        rw [rX_heap, cx] at w; exact w
      · refine yd_14 hD hm hi2 e1 e2 (by rw [yo, eo]; rfl) ya (upY_field (br_t rfl (yr_pop hD (by omega) hhi2 (uY_field_14 (yr_pop hD (by omega) pk_us ?_)))))
        rw [(zn_d16 hj).1, rY_of, cy]
        exact br_f ny ⟨vy, zn_16, y_isBelow (u := (rY us (nI (D + 1)) wu (st + 1) og 2 cl sy tc lc 10000000000 rd cd lk of fl gy mk fm fp (upd (upd hi D (nI (h + 1))) D (nI h)) lo sk v)) dpY (zp_br (fun _ => uY_field_46 (br_f ny (uY_field_57 (hY post hp)))) (fun q => absurd q blY))⟩
end
