/-! ADD, SUB, DIV, LESS, SAME, IS, THROW -/
section
variable {u : SX} {v : SY} {he fr wu wa ou lg dn cl sy tc lc us st og an : Int32} {re : Int64} {rd co cc ca hp np gx fm fp ce cd lk of fl gy mk hi lo sk : Nat → Int32}
variable {H : Nat → Nat} {R : Nat → Prop} {K : Nat → Nat → Nat} {p : Nat → Nat} {l : List Nat}
theorem xa_115 {post : SX → Prop} {D i c : Nat} {z : Int32} (hD : D ≤ 12) (hc : c < 168) (e : fp D = nI i) (h : post (rX he (nI (D + 1)) wu wa ou re lg dn cl sy tc lc rd co cc ca hp np gx fm (upd fp D (nI (i + 1))) (upd ce c z) u)) : kX_calculate_115 post z (nI c) (rX he (nI (D + 1)) wu wa ou re lg dn cl sy tc lc rd co cc ca hp np gx fm fp ce u) := by
  refine uX_calculate_115 ⟨vp_in_nI hc (by decide), nm_e (uX_calculate_116 ?_)⟩
  rw [nI_clamp (by omega), rX_cells, rX__cells]
  exact xr_adv hD e h
theorem xa_in {post : SX → Prop} {D i c : Nat} {z : Int32} (hD : D ≤ 12) (hc : c < 168) (e : fp D = nI i) (h : post (rX he (nI (D + 1)) wu wa ou re lg dn cl sy tc lc rd co cc ca hp np gx fm (upd fp D (nI (i + 1))) (upd ce c z) u)) : vp_in (nI c) 168 ∧ ∀ a_cells : Nat → Int32, a_cells = upd (gX_cells (rX he (nI (D + 1)) wu wa ou re lg dn cl sy tc lc rd co cc ca hp np gx fm fp ce u)) (nI c).toNatClampNeg z → kX_calculate_116 post (sX_cells a_cells (rX he (nI (D + 1)) wu wa ou re lg dn cl sy tc lc rd co cc ca hp np gx fm fp ce u)) := by
  refine ⟨vp_in_nI hc (by decide), nm_e (uX_calculate_116 ?_)⟩
  rw [nI_clamp (by omega), rX_cells, rX__cells]
  exact xr_adv hD e h
/-- what ADD, SUB, DIV, LESS give -/
def zv_c (o : Nat) (x y : Int32) : Int32 := if o = 4 then x + y else if o = 5 then x - y else if o = 6 then x / y else if y ≤ x then 0 else 1
theorem x_calc {post : SX → Prop} {D i c o : Nat} (hD : D ≤ 12) (hc : c + 1 < 168) (e : fp D = nI i) (ho : o = 4 ∨ o = 5 ∨ o = 6 ∨ o = 7) (hz : ¬ (o = 6 ∧ ce (c + 1) = 0)) (h : post (rX he (nI (D + 1)) wu wa ou re lg dn cl sy tc lc rd co cc ca hp np gx fm (upd fp D (nI (i + 1))) (upd ce c (zv_c o (ce c) (ce (c + 1)))) u)) : wpX_calculate post (rX he (nI (D + 1)) wu wa ou re lg dn cl sy tc lc rd co cc ca hp np gx fm fp ce u) (nI o) (nI c) := by
  refine upX_calculate ⟨vp_in_nI (by omega) (by decide), nm_e ?_⟩
  rw [nI_1, rX_cells, nI_clamp (by omega)]
  refine ⟨vp_in_nI hc (by decide), nm_e ?_⟩
  rw [nI_clamp (by omega)]
  unfold zv_c at h
  have k34 : kX_calculate_34 post (nI o) (nI c) (ce c) (ce (c + 1)) (rX he (nI (D + 1)) wu wa ou re lg dn cl sy tc lc rd co cc ca hp np gx fm fp ce u) := by
    rcases ho with rfl | rfl | rfl | rfl
    · rw [if_pos rfl] at h
      exact uX_calculate_34 (br_f (by decide) (br_f (by decide) (br_t rfl (xa_in hD (by omega) e h))))
    · rw [if_neg (by decide), if_pos rfl] at h
      exact uX_calculate_34 (br_f (by decide) (br_f (by decide) (br_f (by decide) (br_t rfl (xa_in hD (by omega) e h)))))
    · rw [if_neg (by decide), if_neg (by decide), if_pos rfl] at h
      exact uX_calculate_34 (br_f (by decide) (br_f (by decide) (br_f (by decide) (br_f (by decide) (br_t rfl ⟨fun w => hz ⟨rfl, w⟩, xa_in hD (by omega) e h⟩)))))
    · rw [if_neg (by decide), if_neg (by decide), if_neg (by decide)] at h
      refine uX_calculate_34 (br_f (by decide) (br_t (by decide) (br_c (fun w => ?_) (fun w => ?_))))
      · rw [if_pos w] at h; exact xa_115 hD (by omega) e h
      · rw [if_neg w] at h; exact xa_115 hD (by omega) e h
  refine br_c (fun w => br_c (fun w2 => ?_) (fun _ => k34)) (fun _ => k34)
  refine absurd ⟨?_, w2⟩ hz
  exact (nI_eq (b := 6) (by omega) (by decide)).mp w
/-- Y pops two and pushes one -/
theorem y_90 {post : SY → Prop} {D i h : Nat} {z : Int32} (hD : D ≤ 12) (hh : h < 6) (e : fp D = nI i) (eh : hi D = nI h) (hp : post (rY us (nI (D + 1)) wu st og an cl sy tc lc re rd cd lk of fl gy mk fm (upd fp D (nI (i + 1))) (upd hi D (nI (h + 1))) lo (upd sk (6 * D + h) z) v)) : kY_calculate_90 post z (rY us (nI (D + 1)) wu st og an cl sy tc lc re rd cd lk of fl gy mk fm fp hi lo sk v) := by
  refine uY_calculate_90 (yr_push hD hh eh ?_)
  have vD : vp_in (nI D) 14 := vp_in_nI (by omega) (by decide)
  rw [rY_depth, rY_at, zn_D1, nI_clamp (by omega), e, nI_1]
  refine ⟨vD, vD, nm_e ?_⟩
  rw [rY__at]; exact hp
theorem y_pop2 {post : SY → Prop} {D h : Nat} {o : Int32} (hD : D ≤ 12) (hh : h + 2 ≤ 6) (eh : hi D = nI (h + 2))
  (hp : (o = 6 → ((sk (6 * D + (h + 1)) = 0 → wpY_raise (fun u3 => post u3) (rY us (nI (D + 1)) wu st og an cl sy tc lc re rd cd lk of fl gy mk fm fp (upd (upd hi D (nI (h + 1))) D (nI h)) lo sk v) 1) ∧ (¬ sk (6 * D + (h + 1)) = 0 → kY_calculate_26 post o (sk (6 * D + (h + 1))) (sk (6 * D + h)) (rY us (nI (D + 1)) wu st og an cl sy tc lc re rd cd lk of fl gy mk fm fp (upd (upd hi D (nI (h + 1))) D (nI h)) lo sk v)))) ∧ (¬ o = 6 → kY_calculate_26 post o (sk (6 * D + (h + 1))) (sk (6 * D + h)) (rY us (nI (D + 1)) wu st og an cl sy tc lc re rd cd lk of fl gy mk fm fp (upd (upd hi D (nI (h + 1))) D (nI h)) lo sk v))) : wpY_calculate post (rY us (nI (D + 1)) wu st og an cl sy tc lc re rd cd lk of fl gy mk fm fp hi lo sk v) o :=
  upY_calculate (yr_pop hD (by omega) eh (yr_pop hD (by omega) pk_us hp))
theorem op_4 (hs : zR_s u v) (hb : zR_b u H R K) (hc : zR_c1 (gX_ops u) (gX_operands u) (gX_lengths u) co cc ca cd lk H R) (hh : zR_h1 (gX_superOf u) (gX_fieldCount u) (gX_refFields u) of fl hp gx gy he us p l) {D m i : Nat} (hF : zF u H R K p l wu cd fm fp ce hi lo sk D m i) (eo : (zw_op (gX_ops u) (24 * m + i)) = 4 ∨ (zw_op (gX_ops u) (24 * m + i)) = 5 ∨ (zw_op (gX_ops u) (24 * m + i)) = 6 ∨ (zw_op (gX_ops u) (24 * m + i)) = 7) : zN u v H R K (rX he (nI (D + 1)) wu (-1) 2 10000000000 (-1) dn cl sy tc lc rd co cc ca hp np gx fm fp ce u) (rY us (nI (D + 1)) wu st og 2 cl sy tc lc 10000000000 rd cd lk of fl gy mk fm fp hi lo sk v) st := by
  obtain ⟨hD, hm, hi2, e1, e2, ⟨n, hn, hin, el, at_⟩, xc, yo, o24, ya⟩ := zS_top hs hb hc hF
  obtain ⟨a1, a2, a3, a4, a5, a6, a7, a8, a9, a10, a11, a12, a13⟩ := at_
  have hhi := hF.2.1
  have hvv := hF.2.2.1
  have eP : (zw_P (gX_ops u) (gX_operands u) (24 * m + i)) = 2 := by unfold zw_P; rcases eo with eo | eo | eo | eo <;> rw [eo] <;> rfl
  have eQ : zw_Q (gX_ops u) (24 * m + i) = 1 := by unfold zw_Q; rcases eo with eo | eo | eo | eo <;> rw [eo] <;> rfl
  have go := a10 (by rcases eo with eo | eo | eo | eo <;> rw [eo] <;> unfold zt_fall <;> decide)
  have pk1 : zk_pk (gX_refFields u) (zw_op (gX_ops u) (24 * m + i)) (gX_operands u (24 * m + i)) = 1 := by rcases eo with eo | eo | eo | eo <;> rw [eo] <;> rfl
  have nd : ∀ j, zy_nd (gX_refFields u) m (zw_op (gX_ops u) (24 * m + i)) (gX_operands u (24 * m + i)) j = 1 := fun j => by rcases eo with eo | eo | eo | eo <;> rw [eo] <;> rfl
  have a3' := a3
  have a4' := a4
  rw [eP] at a3'
  rw [eP, eQ] at a4'
  obtain ⟨h, eh⟩ : ∃ h, (H (24 * m + i)) = h + 2 := ⟨(H (24 * m + i)) - 2, by omega⟩
  have v1 : sk (6 * D + (h + 1)) = ce (12 * D + (6 + h) + 1) := by
    have k1 := a7 0 (by omega) (by rw [nd]; decide)
    rw [nd] at k1
    have := (hvv (5 + (H (24 * m + i)) - 0) (by omega)).1 k1
    unfold zF_y at this
    rw [if_neg (by omega)] at this
    rw [show 6 * D + (h + 1) = 6 * D + (5 + (H (24 * m + i)) - 0 - 6) by omega, show 12 * D + (6 + h) + 1 = 12 * D + (5 + (H (24 * m + i)) - 0) by omega]
    exact this
  have v2 : sk (6 * D + h) = ce (12 * D + (6 + h)) := by
    have k1 := a7 1 (by omega) (by rw [nd]; decide)
    rw [nd] at k1
    have := (hvv (5 + (H (24 * m + i)) - 1) (by omega)).1 k1
    unfold zF_y at this
    rw [if_neg (by omega)] at this
    rw [show 6 * D + h = 6 * D + (5 + (H (24 * m + i)) - 1 - 6) by omega, show 12 * D + (6 + h) = 12 * D + (5 + (H (24 * m + i)) - 1) by omega]
    exact this
  have hhi2 : hi D = nI (h + 2) := by rw [hhi, eh]
  have x0 := zx_ce xc (by omega)
  have eb : 6 + (H (24 * m + i)) - (zw_P (gX_ops u) (gX_operands u) (24 * m + i)) = 6 + h := by rw [eP, eh]; omega
  have eb2 : (H (24 * m + i)) - (zw_P (gX_ops u) (gX_operands u) (24 * m + i)) = h := by rw [eP, eh]; omega
  rw [eb] at x0
  have xd : ∀ post : SX → Prop, wpX_calculate (fun u1 => post u1) (rX he (nI (D + 1)) wu (-1) 2 10000000000 (-1) dn cl sy tc lc rd co cc ca hp np gx fm fp ce u) (nI (zw_op (gX_ops u) (24 * m + i))) (nI (12 * D + (6 + h))) → wpX_step post (rX he (nI (D + 1)) wu (-1) 2 10000000000 (-1) dn cl sy tc lc rd co cc ca hp np gx fm fp ce u) := by
    intro post hp
    rcases eo with eo | eo | eo | eo
    · rw [eo] at hp x0; exact xd_4 hD hm hi2 (by omega) e1 e2 x0.1 x0.2.1 x0.2.2 hp
    · rw [eo] at hp x0; exact xd_5 hD hm hi2 (by omega) e1 e2 x0.1 x0.2.1 x0.2.2 hp
    · rw [eo] at hp x0; exact xd_6 hD hm hi2 (by omega) e1 e2 x0.1 x0.2.1 x0.2.2 hp
    · rw [eo] at hp x0; exact xd_7 hD hm hi2 (by omega) e1 e2 x0.1 x0.2.1 x0.2.2 hp
  have yd : ∀ post : SY → Prop, wpY_calculate (fun u1 => post u1) (rY us (nI (D + 1)) wu (st + 1) og 2 cl sy tc lc 10000000000 rd cd lk of fl gy mk fm fp hi lo sk v) (nI (zw_op (gX_ops u) (24 * m + i))) → wpY_step post (rY us (nI (D + 1)) wu st og 2 cl sy tc lc 10000000000 rd cd lk of fl gy mk fm fp hi lo sk v) := by
    intro post hp
    rcases eo with eo | eo | eo | eo
    · rw [eo] at hp; exact yd_4 hD hm hi2 e1 e2 (by rw [yo, eo]; rfl) ya hp
    · rw [eo] at hp; exact yd_5 hD hm hi2 e1 e2 (by rw [yo, eo]; rfl) ya hp
    · rw [eo] at hp; exact yd_6 hD hm hi2 e1 e2 (by rw [yo, eo]; rfl) ya hp
    · rw [eo] at hp; exact yd_7 hD hm hi2 e1 e2 (by rw [yo, eo]; rfl) ya hp
  by_cases z : (zw_op (gX_ops u) (24 * m + i)) = 6 ∧ ce (12 * D + (6 + h) + 1) = 0
  · obtain ⟨s', t', hX, hY, hw, hr⟩ := raise_both (x := 1) (st := st + 1) (og := og) (dn := dn) (cl := cl) (sy := sy) (tc := tc) (lc := lc) (np := np) (rd := rd) (mk := mk) hs hb hc hh (zF_G (hi' := upd (upd hi D (nI (h + 1))) D (nI h)) hb hF (fun j hj => by rw [pk_un (by omega), pk_un (by omega)])) hF.2.2.2.2.1
    refine ⟨s', t', zX_done (fun post hp => xd post ?_) hw, fun post hp => yd post ?_, hr⟩
    · refine upX_calculate ⟨vp_in_nI (by omega) (by decide), nm_e ?_⟩
      rw [nI_1, rX_cells, nI_clamp (n := 12 * D + (6 + h)) (by omega)]
      refine ⟨vp_in_nI (by omega) (by decide), nm_e ?_⟩
      rw [nI_clamp (by omega), z.1]
      exact br_t rfl (br_t z.2 (hX post hp))
    · refine y_pop2 hD (by omega) hhi2 ?_
      rw [v1, z.1]
      exact br_t rfl (br_t z.2 (hY post hp))
  · have hv : zl_val p l (zk_pk (gX_refFields u) (zw_op (gX_ops u) (24 * m + i)) (gX_operands u (24 * m + i))) (zv_c (zw_op (gX_ops u) (24 * m + i)) (ce (12 * D + (6 + h))) (ce (12 * D + (6 + h) + 1))) (zv_c (zw_op (gX_ops u) (24 * m + i)) (ce (12 * D + (6 + h))) (ce (12 * D + (6 + h) + 1))) := by
      rw [pk1]; exact ⟨fun _ => rfl, fun w => absurd w (by decide)⟩
    have hS := zS_push (v := v) (wu := wu) (dn := dn) (cl := cl) (sy := sy) (tc := tc) (lc := lc) (np := np) (rd := rd) (mk := mk) (og' := og) (k := st + 1) (hi' := upd (upd (upd hi D (nI (h + 1))) D (nI h)) D (nI (h + 1))) hb hc hh hF hn go eQ (by omega) (by omega) (by omega) a3 hv (by rw [eb2]; exact pk_us) (fun j hj => by rw [pk_un (by omega), pk_un (by omega), pk_un (by omega)])
    rw [eb, eb2] at hS
    refine ⟨_, _, zX_done (fun post hp => xd post (x_calc hD (by omega) e2 eo z hp)) rfl, fun post hp => yd post ?_, Or.inl hS⟩
    have k26 : kY_calculate_26 post (nI (zw_op (gX_ops u) (24 * m + i))) (sk (6 * D + (h + 1))) (sk (6 * D + h)) (rY us (nI (D + 1)) wu (st + 1) og 2 cl sy tc lc 10000000000 rd cd lk of fl gy mk fm fp (upd (upd hi D (nI (h + 1))) D (nI h)) lo sk v) := by
      rw [v1, v2]
      unfold zv_c at hp
      rcases eo with eo | eo | eo | eo
      · rw [eo, if_pos rfl] at hp
        rw [eo]
        exact uY_calculate_26 (br_t rfl (y_90 hD (by omega) e2 pk_us hp))
      · rw [eo, if_neg (by decide), if_pos rfl] at hp
        rw [eo]
        exact uY_calculate_26 (br_f (by decide) (br_t rfl (y_90 hD (by omega) e2 pk_us hp)))
      · rw [eo, if_neg (by decide), if_neg (by decide), if_pos rfl] at hp
        have z2 : ¬ ce (12 * D + (6 + h) + 1) = 0 := fun w => z ⟨eo, w⟩
        rw [eo]
        exact uY_calculate_26 (br_f (by decide) (br_f (by decide) (br_t rfl ⟨z2, y_90 hD (by omega) e2 pk_us hp⟩)))
      · rw [eo, if_neg (by decide), if_neg (by decide), if_neg (by decide)] at hp
        rw [eo]
        refine uY_calculate_26 (br_f (by decide) (br_f (by decide) (br_f (by decide) (br_t rfl (br_c (fun w => ?_) (fun w => ?_))))))
        · rw [if_pos w] at hp; exact y_90 hD (by omega) e2 pk_us hp
        · rw [if_neg w] at hp; exact y_90 hD (by omega) e2 pk_us hp
    refine y_pop2 hD (by omega) hhi2 (br_c (fun w => br_c (fun w2 => ?_) (fun _ => k26)) (fun _ => k26))
    rw [v1] at w2
    exact absurd ⟨(nI_eq (b := 6) (by omega) (by decide)).mp w, w2⟩ z
theorem x_cmp77 {post : SX → Prop} {D i c : Nat} {z : Int32} (hD : D ≤ 12) (hc : c < 168) (e : fp D = nI i) (h : post (rX he (nI (D + 1)) wu wa ou re lg dn cl sy tc lc rd co cc ca hp np gx fm (upd fp D (nI (i + 1))) (upd ce c z) u)) : kX_compare_77 post z (nI c) (rX he (nI (D + 1)) wu wa ou re lg dn cl sy tc lc rd co cc ca hp np gx fm fp ce u) := by
  refine uX_compare_77 ⟨vp_in_nI hc (by decide), nm_e ?_⟩
  rw [nI_clamp (by omega), rX_cells, rX__cells]
  exact xr_adv hD e h
theorem op_11 (hs : zR_s u v) (hb : zR_b u H R K) (hc : zR_c1 (gX_ops u) (gX_operands u) (gX_lengths u) co cc ca cd lk H R) (hh : zR_h1 (gX_superOf u) (gX_fieldCount u) (gX_refFields u) of fl hp gx gy he us p l) {D m i : Nat} (hF : zF u H R K p l wu cd fm fp ce hi lo sk D m i) (eo : (zw_op (gX_ops u) (24 * m + i)) = 11) : zN u v H R K (rX he (nI (D + 1)) wu (-1) 2 10000000000 (-1) dn cl sy tc lc rd co cc ca hp np gx fm fp ce u) (rY us (nI (D + 1)) wu st og 2 cl sy tc lc 10000000000 rd cd lk of fl gy mk fm fp hi lo sk v) st := by
  obtain ⟨hD, hm, hi2, e1, e2, ⟨n, hn, hin, el, at_⟩, xc, yo, o24, ya⟩ := zS_top hs hb hc hF
  obtain ⟨a1, a2, a3, a4, a5, a6, a7, a8, a9, a10, a11, a12, a13⟩ := at_
  have hhi := hF.2.1
  have hvv := hF.2.2.1
  have eP : (zw_P (gX_ops u) (gX_operands u) (24 * m + i)) = 2 := by unfold zw_P; rw [eo]; rfl
  have eQ : zw_Q (gX_ops u) (24 * m + i) = 1 := by unfold zw_Q; rw [eo]; rfl
  have go := a10 (by rw [eo]; unfold zt_fall; decide)
  have nd : ∀ j, zy_nd (gX_refFields u) m (zw_op (gX_ops u) (24 * m + i)) (gX_operands u (24 * m + i)) j = 2 := fun j => by rw [eo]; rfl
  have a3' := a3
  have a4' := a4
  rw [eP] at a3'
  rw [eP, eQ] at a4'
  obtain ⟨h, eh⟩ : ∃ h, (H (24 * m + i)) = h + 2 := ⟨(H (24 * m + i)) - 2, by omega⟩
  have v1 : zl_ref p l (sk (6 * D + (h + 1))) (ce (12 * D + (6 + h) + 1)) := by
    have k1 := a7 0 (by omega) (by rw [nd]; decide)
    rw [nd] at k1
    have := (hvv (5 + (H (24 * m + i)) - 0) (by omega)).2 k1
    unfold zF_y at this
    rw [if_neg (by omega)] at this
    rw [show 6 * D + (h + 1) = 6 * D + (5 + (H (24 * m + i)) - 0 - 6) by omega, show 12 * D + (6 + h) + 1 = 12 * D + (5 + (H (24 * m + i)) - 0) by omega]
    exact this
  have v2 : zl_ref p l (sk (6 * D + h)) (ce (12 * D + (6 + h))) := by
    have k1 := a7 1 (by omega) (by rw [nd]; decide)
    rw [nd] at k1
    have := (hvv (5 + (H (24 * m + i)) - 1) (by omega)).2 k1
    unfold zF_y at this
    rw [if_neg (by omega)] at this
    rw [show 6 * D + h = 6 * D + (5 + (H (24 * m + i)) - 1 - 6) by omega, show 12 * D + (6 + h) = 12 * D + (5 + (H (24 * m + i)) - 1) by omega]
    exact this
  have sm := zl_same hh v2 v1
  have hhi2 : hi D = nI (h + 2) := by rw [hhi, eh]
  have x0 := zx_ce xc (by omega)
  have eb : 6 + (H (24 * m + i)) - (zw_P (gX_ops u) (gX_operands u) (24 * m + i)) = 6 + h := by rw [eP, eh]; omega
  have eb2 : (H (24 * m + i)) - (zw_P (gX_ops u) (gX_operands u) (24 * m + i)) = h := by rw [eP, eh]; omega
  rw [eb, eo] at x0
  have hS : ∀ z : Int32, _ := fun z => zS_push (v := v) (wu := wu) (dn := dn) (cl := cl) (sy := sy) (tc := tc) (lc := lc) (np := np) (rd := rd) (mk := mk) (og' := og) (k := st + 1) (hi' := upd (upd (upd hi D (nI (h + 1))) D (nI h)) D (nI (h + 1))) (y := z) (x := z) hb hc hh hF hn go eQ (by omega) (by omega) (by omega) a3 (by rw [eo]; exact ⟨fun _ => rfl, fun w => absurd (show (1 : Nat) = 2 from w) (by decide)⟩) (by rw [eb2]; exact pk_us) (fun j hj => by rw [pk_un (by omega), pk_un (by omega), pk_un (by omega)])
  rw [eb, eb2] at hS
  have xw : ∀ (post : SX → Prop) (z : Int32), (ce (12 * D + (6 + h)) = ce (12 * D + (6 + h) + 1) → z = 1) → (¬ ce (12 * D + (6 + h)) = ce (12 * D + (6 + h) + 1) → z = 0) → post (rX he (nI (D + 1)) wu (-1) 2 10000000000 (-1) dn cl sy tc lc rd co cc ca hp np gx fm (upd fp D (nI (i + 1))) (upd ce (12 * D + (6 + h)) z) u) → wpX_step post (rX he (nI (D + 1)) wu (-1) 2 10000000000 (-1) dn cl sy tc lc rd co cc ca hp np gx fm fp ce u) := by
    intro post z z1 z0 hp
    refine xd_11 hD hm hi2 (by omega) e1 e2 x0.1 x0.2.1 x0.2.2 (upX_compare ⟨vp_in_nI (by omega) (by decide), nm_e (br_t rfl ?_)⟩)
    rw [nI_1, rX_cells, nI_clamp (n := 12 * D + (6 + h)) (by omega), nI_clamp (by omega)]
    refine ⟨vp_in_nI (by omega) (by decide), br_c (fun w => ?_) (fun w => ?_)⟩
    · rw [z1 w] at hp
      exact uX_compare_60 (br_f (by decide) (x_cmp77 hD (by omega) e2 hp))
    · rw [z0 w] at hp
      exact uX_compare_60 (br_t rfl (x_cmp77 hD (by omega) e2 hp))
  have yw : ∀ (post : SY → Prop) (z : Int32), (sk (6 * D + h) = sk (6 * D + (h + 1)) → z = 1) → (¬ sk (6 * D + h) = sk (6 * D + (h + 1)) → z = 0) → post (rY us (nI (D + 1)) wu (st + 1) og 2 cl sy tc lc 10000000000 rd cd lk of fl gy mk fm (upd fp D (nI (i + 1))) (upd (upd (upd hi D (nI (h + 1))) D (nI h)) D (nI (h + 1))) lo (upd sk (6 * D + h) z) v) → wpY_step post (rY us (nI (D + 1)) wu st og 2 cl sy tc lc 10000000000 rd cd lk of fl gy mk fm fp hi lo sk v) := by
    intro post z z1 z0 hp
    refine yd_11 hD hm hi2 e1 e2 (by rw [yo, eo]; rfl) ya (y_pop2 hD (by omega) hhi2 (br_f (by decide) (uY_calculate_26 (br_f (by decide) (br_f (by decide) (br_f (by decide) (br_f (by decide) (br_c (fun w => ?_) (fun w => ?_)))))))))
    · rw [z1 w] at hp; exact y_90 hD (by omega) e2 pk_us hp
    · rw [z0 w] at hp; exact y_90 hD (by omega) e2 pk_us hp
  by_cases q : ce (12 * D + (6 + h)) = ce (12 * D + (6 + h) + 1)
  · have q' := sm.mp q
    exact ⟨_, _, zX_done (fun post hp => xw post 1 (fun _ => rfl) (fun w => absurd q w) hp) rfl, fun post hp => yw post 1 (fun _ => rfl) (fun w => absurd q' w) hp, Or.inl (hS 1)⟩
  · have q' : ¬ sk (6 * D + h) = sk (6 * D + (h + 1)) := fun w => q (sm.mpr w)
    exact ⟨_, _, zX_done (fun post hp => xw post 0 (fun w => absurd w q) (fun _ => rfl) hp) rfl, fun post hp => yw post 0 (fun w => absurd w q') (fun _ => rfl) hp, Or.inl (hS 0)⟩
theorem op_19 (hs : zR_s u v) (hb : zR_b u H R K) (hc : zR_c1 (gX_ops u) (gX_operands u) (gX_lengths u) co cc ca cd lk H R) (hh : zR_h1 (gX_superOf u) (gX_fieldCount u) (gX_refFields u) of fl hp gx gy he us p l) {D m i : Nat} (hF : zF u H R K p l wu cd fm fp ce hi lo sk D m i) (eo : (zw_op (gX_ops u) (24 * m + i)) = 19) : zN u v H R K (rX he (nI (D + 1)) wu (-1) 2 10000000000 (-1) dn cl sy tc lc rd co cc ca hp np gx fm fp ce u) (rY us (nI (D + 1)) wu st og 2 cl sy tc lc 10000000000 rd cd lk of fl gy mk fm fp hi lo sk v) st := by
  obtain ⟨hD, hm, hi2, e1, e2, ⟨n, hn, hin, el, at_⟩, xc, yo, o24, ya⟩ := zS_top hs hb hc hF
  obtain ⟨a1, a2, a3, a4, a5, a6, a7, a8, a9, a10, a11, a12, a13⟩ := at_
  have hhi := hF.2.1
  have hvv := hF.2.2.1
  have eP : (zw_P (gX_ops u) (gX_operands u) (24 * m + i)) = 1 := by unfold zw_P; rw [eo]; rfl
  rw [eP] at a3
  have k1 := a7 0 (by omega) (by rw [eo]; exact (show (1 : Nat) ≠ 0 by decide))
  have k1 : K (24 * m + i) (5 + (H (24 * m + i)) - 0) = 1 := by rw [k1, eo]; rfl
  have v1 : sk (6 * D + ((H (24 * m + i)) - 1)) = ce (12 * D + (6 + (H (24 * m + i)) - 1)) := by
    have := (hvv (5 + (H (24 * m + i)) - 0) (by omega)).1 k1
    unfold zF_y at this
    rw [if_neg (by omega)] at this
    rw [show 6 * D + ((H (24 * m + i)) - 1) = 6 * D + (5 + (H (24 * m + i)) - 0 - 6) by omega, show 12 * D + (6 + (H (24 * m + i)) - 1) = 12 * D + (5 + (H (24 * m + i)) - 0) by omega]
    exact this
  have x0 := zx_ce xc (by omega)
  rw [eP, eo] at x0
  have hhi' : hi D = nI ((H (24 * m + i)) - 1 + 1) := by rw [hhi]; exact congrArg nI (by omega)
  obtain ⟨s', t', hX, hY, hw, hr⟩ := raise_both (x := ce (12 * D + (6 + (H (24 * m + i)) - 1))) (st := st + 1) (og := og) (dn := dn) (cl := cl) (sy := sy) (tc := tc) (lc := lc) (np := np) (rd := rd) (mk := mk) hs hb hc hh (zF_G (hi' := upd hi D (nI ((H (24 * m + i)) - 1))) hb hF (fun j hj => pk_un (by omega))) hF.2.2.2.2.1
  refine ⟨s', t', zX_done (fun post hp => xd_19 hD hm hi2 (by omega) e1 e2 x0.1 x0.2.1 x0.2.2 (hX post hp)) hw, fun post hp => yd_19 hD hm hi2 e1 e2 (by rw [yo, eo]; rfl) ya (yr_pop hD (by omega) hhi' (br_f (by decide) ?_)), hr⟩
  rw [v1]
  exact hY post hp
end
