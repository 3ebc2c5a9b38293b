section
variable {u : SX} {v : SY} {he fr wu wa ou lg dn cl sy tc lc us st og an : Int32} {re : Int64} {rd co cc ca hp np gx fm fp ce cd lk of fl gy mk hi lo sk : Nat → Int32}
variable {H : Nat → Nat} {R : Nat → Prop} {K : Nat → Nat → Nat} {p : Nat → Nat} {l : List Nat}
theorem zl_lnk {O A L CO CC CA cd lk : Nat → Int32} (h : zR_c1 O A L CO CC CA cd lk H R) {m i : Nat} (hm : m < 8) (hi2 : i < 24) (c1 : cd m = 1) (r : R (24 * m + i)) (e16 : zw_op O (24 * m + i) = 16) {q : Nat} (hq : q < 8) (ea : A (24 * m + i) = nI q) (hl : L q ≠ 0) (h16 : CO (24 * m + i) = 16) : zR_c1 O A L (upd CO (24 * m + i) 28) CC CA cd (upd lk (24 * m + i) 1) H R := by
  obtain ⟨h1, h2, h3⟩ := h
  refine ⟨fun m' hm' => ?_, fun k hk => ?_, fun k hk w => ?_⟩
  · obtain ⟨q1, q2, q3, q4⟩ := h1 m' hm'
    refine ⟨q1, ?_, q3, fun i' hi' => ⟨fun w => ?_, fun w r' => ?_⟩⟩
    · by_cases e : 24 * m' = 24 * m + i
      · have em : m' = m := by omega
        have ei : i = 0 := by omega
        subst em; subst ei
        rw [show 24 * m' + 0 = 24 * m' from rfl, pk_us, c1]
        exact ⟨fun w => absurd w (by decide), fun w => absurd w (by decide)⟩
      · rw [pk_un e]; exact q2
    · by_cases e : 24 * m' + i' = 24 * m + i
      · have em : m' = m := by omega
        have ei : i' = i := by omega
        subst em; subst ei
        rw [c1] at w
        exact absurd w (fun w => w.elim (by decide) (fun w => w r))
      · rw [pk_un e]; exact (q4 i' hi').1 w
    · by_cases e : 24 * m' + i' = 24 * m + i
      · have em : m' = m := by omega
        have ei : i' = i := by omega
        subst em; subst ei
        rw [pk_us]
        obtain ⟨z1, z2⟩ := zx_c16 ((q4 i' hi').2 w r') e16
        exact Or.inr (Or.inr (Or.inr (Or.inr (Or.inr (Or.inr (Or.inr (Or.inl ⟨e16, Or.inr rfl, z2⟩)))))))
      · rw [pk_un e]; exact (q4 i' hi').2 w r'
  · by_cases e : k = 24 * m + i
    · subst e; rw [pk_us, pk_us]; exact ⟨Or.inr rfl, fun _ => rfl, fun _ => rfl⟩
    · rw [pk_un e, pk_un e]; exact h2 k hk
  · by_cases e : k = 24 * m + i
    · subst e
      obtain ⟨z1, z2⟩ := zx_c16 (((h1 m hm).2.2.2 i hi2).2 c1 r) e16
      exact ⟨q, hq, z2.2.trans ea, hl⟩
    · rw [pk_un e] at w; exact h3 k hk w
theorem op_16 (hs : zR_s u v) (hb : zR_b u H R K) (hc : zR_c1 (gX_ops u) (gX_operands u) (gX_lengths u) co cc ca cd lk H R) (hh : zR_h1 (gX_superOf u) (gX_fieldCount u) (gX_refFields u) of fl hp gx gy he us p l) {D m i : Nat} (hF : zF u H R K p l wu cd fm fp ce hi lo sk D m i) (eo : (zw_op (gX_ops u) (24 * m + i)) = 16) : zN u v H R K (rX he (nI (D + 1)) wu (-1) 2 10000000000 (-1) dn cl sy tc lc rd co cc ca hp np gx fm fp ce u) (rY us (nI (D + 1)) wu st og 2 cl sy tc lc 10000000000 rd cd lk of fl gy mk fm fp hi lo sk v) st := by
  obtain ⟨hD, hm, hi2, e1, e2, ⟨n, hn, hin, el, at_⟩, xc, yo, o24, ya⟩ := zS_top hs hb hc hF
  obtain ⟨a1, a2, a3, a4, a5, a6, a7, a8, a9, a10, a11, a12, a13⟩ := at_
  have hhi := hF.2.1
  have hvv := hF.2.2.1
  obtain ⟨q, hq, eq⟩ := zi_fj (zi_of a1).2.2 (show zi_lim (gX_ops u (24 * m + i)).toNatClampNeg = 8 by rw [show (gX_ops u (24 * m + i)).toNatClampNeg = 16 from eo]; rfl) (by decide)
  have x0 := zx_c16 xc eo
  have eP : zt_takes q = (zw_P (gX_ops u) (gX_operands u) (24 * m + i)) := by unfold zw_P zt_pops; rw [eo, if_pos rfl, eq, nI_clamp (by omega)]
  have T2 := zt_takes2 q
  rw [eP] at T2
  rw [eq] at x0 ya
  have lens := zR_len hs
  have eLen : gY_length v q = gX_lengths u q := by rw [hs.1.2.2.2.2.2.1]
  have rdd := hF.1
  obtain ⟨f1, f2, f3, f4, f5, f6, f7⟩ := hF.1
  have hk0 : 24 * m + i < 192 := by omega
  obtain ⟨l01, l28⟩ := hc.2.1 (24 * m + i) hk0
  have hg : zk_pk (gX_refFields u) (zw_op (gX_ops u) (24 * m + i)) (gX_operands u (24 * m + i)) = if 4 ≤ q ∧ q ≤ 6 then 2 else 1 := by rw [eo, eq]; unfold zk_pk; rw [if_neg (by decide), if_pos rfl, nI_clamp (by omega)]
  have hkk : ∀ e, e < (zw_P (gX_ops u) (gX_operands u) (24 * m + i)) → K (24 * m + i) (6 + (H (24 * m + i)) - (zw_P (gX_ops u) (gX_operands u) (24 * m + i)) + e) = zy_in q e := by
    intro e he
    have nd : zy_nd (gX_refFields u) m (zw_op (gX_ops u) (24 * m + i)) (gX_operands u (24 * m + i)) ((zw_P (gX_ops u) (gX_operands u) (24 * m + i)) - 1 - e) = zy_in q e := by
      rw [eo, eq]; unfold zy_nd zy_in
      rw [if_neg (by decide), if_pos rfl, nI_clamp (by omega)]
      rw [← eP] at he ⊢
      unfold zt_takes at he ⊢
      have hq8 : q = 0 ∨ q = 1 ∨ q = 2 ∨ q = 3 ∨ q = 4 ∨ q = 5 ∨ q = 6 ∨ q = 7 := by omega
      rcases hq8 with rfl | rfl | rfl | rfl | rfl | rfl | rfl | rfl <;> simp at he ⊢
      all_goals (have he2 : e = 0 ∨ e = 1 := by omega); (rcases he2 with rfl | rfl <;> first | exact absurd he (by decide) | simp)
    have nz : zy_in q e ≠ 0 := by unfold zy_in; repeat' split
                                  all_goals decide
    have := a7 ((zw_P (gX_ops u) (gX_operands u) (24 * m + i)) - 1 - e) (by omega) (by rw [nd]; exact nz)
    rw [nd, show 5 + (H (24 * m + i)) - ((zw_P (gX_ops u) (gX_operands u) (24 * m + i)) - 1 - e) = 6 + (H (24 * m + i)) - (zw_P (gX_ops u) (gX_operands u) (24 * m + i)) + e by omega] at this
    exact this
  by_cases z : gX_lengths u q = 0
  · -- no body
    have c16 : co (24 * m + i) = 16 := by
      rcases x0.1 with w | w
      · exact w
      · obtain ⟨q', hq', eq', hl'⟩ := hc.2.2 _ hk0 w
        rw [x0.2.2] at eq'
        have := (nI_eq (by omega) (by omega)).mp eq'
        subst this
        exact absurd z hl'
    obtain ⟨s', t', hX, hY, hw, hr⟩ := raise_both (x := 4) (st := st + 1) (og := og) (dn := dn) (cl := cl) (sy := sy) (tc := tc) (lc := lc) (np := np) (rd := rd) (mk := mk) hs hb hc hh (zF_G (hi' := hi) hb hF (fun j hj => rfl)) hF.2.2.2.2.1
    refine ⟨s', t', zX_done (fun post hpp => xd_16 hD hm hi2 (by omega) e1 e2 c16 x0.2.1 x0.2.2 (upX_callMethod (x_hasBody (u := (rX he (nI (D + 1)) wu (-1) 2 10000000000 (-1) dn cl sy tc lc rd co cc ca hp np gx fm fp ce u)) lens.1 ?_))) hw, fun post hpp => yd_16 hD hm hi2 e1 e2 (by rw [yo, eo]; rfl) ya (upY_link ⟨vp_in_nI (by omega) (by decide), ?_⟩), hr⟩
    · refine zp_br (fun _ => hX _ hpp) (fun w => ?_)
      obtain ⟨q', hq', eq', hl'⟩ := w
      have := (nI_eq (by omega) (by omega)).mp eq'
      subst this
      exact absurd z hl'
    · rw [rY_length, nI_clamp (by omega), eLen]
      exact br_t z (hY _ hpp)
  · by_cases w28 : co (24 * m + i) = 28
    · have l1 : lk (24 * m + i) = 1 := l28.mpr w28
      obtain ⟨s', t', hX, hY, hr⟩ := call_both (st := st + 1) (og := og) (dn := dn) (cl := cl) (sy := sy) (tc := tc) (lc := lc) (np := np) (rd := rd) (mk := mk) hs hb hc hh hF hq z eP (Or.inl eo) hg hkk
      refine ⟨s', t', fun post hpp => xd_28 hD hm hi2 (by omega) e1 e2 w28 x0.2.1 x0.2.2 (hX post hpp), fun post hpp => yd_16 hD hm hi2 e1 e2 (by rw [yo, eo]; rfl) ya (upY_link ⟨vp_in_nI (by omega) (by decide), ?_⟩), hr⟩
      rw [rY_length, rY_linked, nI_clamp (n := q) (by omega), nI_clamp (n := 24 * m + i) (by omega), eLen]
      refine br_f z ⟨vp_in_nI hk0 (by decide), br_f (by rw [l1]; decide) (uY_link_34 ⟨vp_in_nI hk0 (by decide), nm_e ?_⟩)⟩
      rw [rY_linked, nI_clamp (by omega), show vp_nar .boolean 1 = 1 from rfl, zu_self l1.symm, rY__linked]
      exact hY post hpp
    · have c16 : co (24 * m + i) = 16 := x0.1.resolve_right w28
      have l0 : lk (24 * m + i) = 0 := l01.resolve_right (fun w => w28 (l28.mp w))
      have hc' := zl_lnk hc hm hi2 f7 f6 eo hq eq z c16
      obtain ⟨s', t', hX, hY, hr⟩ := call_both (st := st + 1) (og := og) (dn := dn) (cl := cl) (sy := sy) (tc := tc) (lc := lc + 1) (np := np) (rd := rd) (mk := mk) hs hb hc' hh hF hq z eP (Or.inl eo) hg hkk
      refine ⟨s', t', fun post hpp => xd_16 hD hm hi2 (by omega) e1 e2 c16 x0.2.1 x0.2.2 (upX_callMethod (x_hasBody (u := (rX he (nI (D + 1)) wu (-1) 2 10000000000 (-1) dn cl sy tc lc rd co cc ca hp np gx fm fp ce u)) lens.1 ?_)), fun post hpp => yd_16 hD hm hi2 e1 e2 (by rw [yo, eo]; rfl) ya (upY_link ⟨vp_in_nI (by omega) (by decide), ?_⟩), hr⟩
      · refine zp_br (fun w => absurd ⟨q, hq, rfl, z⟩ w) (fun _ => ⟨vp_in_nI hk0 (by decide), nm_e (nm_e ?_)⟩)
        rw [rX_codeOps, rX_linkedCount, nI_clamp (by omega), rX__linkedCount_codeOps]
        exact hX post hpp
      · rw [rY_length, rY_linked, rY_links, nI_clamp (n := q) (by omega), nI_clamp (n := 24 * m + i) (by omega), eLen]
        refine br_f z ⟨vp_in_nI hk0 (by decide), br_t l0 (nm_e (uY_link_34 ⟨vp_in_nI hk0 (by decide), nm_e ?_⟩))⟩
        rw [rY__links, rY_linked, nI_clamp (by omega), show vp_nar .boolean 1 = 1 from rfl, rY__linked]
        exact hY post hpp
/-- Y's way up the classes to a method -/
theorem y_send49 {post : SY → Prop} {T : SY} {s : Nat} (hs4 : s < 4) (own : zq_own (gY_slots T)) : ∀ d k, zc_dp (gY_up T) d k → kY_send_84 post (zc_mf (gY_up T) (gY_slots T) s d k) T → kY_send_49 post (nI s) (d + 1) (-1) k T := by
  intro d
  induction d with
  | zero =>
    intro k hd h
    have hd : k = -1 := hd
    subst hd
    exact uY_send_49 (br_t (by decide) h)
  | succ d ih =>
    intro k hd h
    rcases hd with rfl | ⟨c, hc, rfl, h2, h3⟩
    · exact uY_send_49 (br_t (by decide) h)
    · have nc : ¬ nI c = -1 := zn_m1 _ (by omega)
      unfold zc_mf at h
      rw [if_neg nc, nI_clamp (by omega)] at h
      refine uY_send_49 (br_f (nI_pos (by omega)) (br_f (by decide) ?_))
      rw [show (4 : Int32) = nI 4 from rfl, pk_mul, nI_add, nI_clamp (n := 4 * c + s) (by omega), nI_clamp (n := c) (by omega)]
      refine ⟨vp_in_nI (by omega) (by decide), nm_e ⟨vp_in_nI hc (by decide), nm_e ?_⟩⟩
      by_cases z : gY_slots T (4 * c + s) = -1
      · rw [if_pos z] at h
        rw [z]; exact ih _ h3 h
      · rw [if_neg z] at h
        obtain ⟨q, eq, hq⟩ := (own c hc s hs4).resolve_left z
        rw [eq] at h ⊢
        refine uY_send_49 (br_c (fun _ => h) (fun _ => br_t (nI_pos' (by omega)) h))
theorem zc_mfo {up sl : Nat → Int32} {s : Nat} (hs4 : s < 4) (own : zq_own sl) : ∀ d k, zc_dp up d k → zc_mf up sl s d k = -1 ∨ ∃ m, zc_mf up sl s d k = nI m ∧ ((s < 2 ∧ (m = 2 ∨ m = 3)) ∨ (2 ≤ s ∧ (m = 4 ∨ m = 5))) := by
  intro d
  induction d with
  | zero => intro k _; exact Or.inl rfl
  | succ d ih =>
    intro k hd
    rcases hd with rfl | ⟨c, hc, rfl, h2, h3⟩
    · exact Or.inl rfl
    · unfold zc_mf
      rw [if_neg (zn_m1 _ (by omega)), nI_clamp (by omega)]
      by_cases z : sl (4 * c + s) = -1
      · rw [if_pos z]; exact ih _ h3
      · rw [if_neg z]; exact own c hc s hs4
theorem op_17 (hs : zR_s u v) (hb : zR_b u H R K) (hc : zR_c1 (gX_ops u) (gX_operands u) (gX_lengths u) co cc ca cd lk H R) (hh : zR_h1 (gX_superOf u) (gX_fieldCount u) (gX_refFields u) of fl hp gx gy he us p l) {D m i : Nat} (hF : zF u H R K p l wu cd fm fp ce hi lo sk D m i) (eo : (zw_op (gX_ops u) (24 * m + i)) = 17) : zN u v H R K (rX he (nI (D + 1)) wu (-1) 2 10000000000 (-1) dn cl sy tc lc rd co cc ca hp np gx fm fp ce u) (rY us (nI (D + 1)) wu st og 2 cl sy tc lc 10000000000 rd cd lk of fl gy mk fm fp hi lo sk v) st := by
  obtain ⟨hD, hm, hi2, e1, e2, ⟨n, hn, hin, el, at_⟩, xc, yo, o24, ya⟩ := zS_top hs hb hc hF
  obtain ⟨a1, a2, a3, a4, a5, a6, a7, a8, a9, a10, a11, a12, a13⟩ := at_
  have hhi := hF.2.1
  have hvv := hF.2.2.1
  have eP : (zw_P (gX_ops u) (gX_operands u) (24 * m + i)) = 2 := by unfold zw_P; rw [eo]; rfl
  have a3' := a3
  rw [eP] at a3'
  obtain ⟨s, hs4, es⟩ := zi_fj (zi_of a1).2.2 (show zi_lim (gX_ops u (24 * m + i)).toNatClampNeg = 4 by rw [show (gX_ops u (24 * m + i)).toNatClampNeg = 17 from eo]; rfl) (by decide)
  obtain ⟨h, eh⟩ : ∃ h, (H (24 * m + i)) = h + 2 := ⟨(H (24 * m + i)) - 2, by omega⟩
  have k1 : K (24 * m + i) (5 + (H (24 * m + i)) - 1) = 2 := by rw [a7 1 (by omega) (by rw [eo]; exact (show (2 : Nat) ≠ 0 by decide)), eo]; rfl
  have k0 : K (24 * m + i) (5 + (H (24 * m + i)) - 0) = 1 := by rw [a7 0 (by omega) (by rw [eo]; exact (show (1 : Nat) ≠ 0 by decide)), eo]; rfl
  have v1 : zl_ref p l (sk (6 * D + h)) (ce (12 * D + (6 + h))) := by
    have := (hvv (5 + (H (24 * m + i)) - 1) (by omega)).2 k1
    unfold zF_y at this
    rw [if_neg (by omega)] at this
    rw [show 6 * D + h = 6 * D + (5 + (H (24 * m + i)) - 1 - 6) by omega, show 12 * D + (6 + h) = 12 * D + (5 + (H (24 * m + i)) - 1) by omega]
    exact this
  have x0 := zx_ce xc (by omega)
  have eb : 6 + (H (24 * m + i)) - (zw_P (gX_ops u) (gX_operands u) (24 * m + i)) = 6 + h := by rw [eP, eh]; omega
  rw [eb, eo] at x0
  rw [es] at x0 ya
  have dcl := zR_cls hs
  have lens := zR_len hs
  have cc12 : (nI (12 * D + (6 + h))).toNatClampNeg = 12 * D + (6 + h) := nI_clamp (by omega)
  have ehi : (6 : Int32) * nI D + nI (H (24 * m + i)) - 2 = nI (6 * D + h) := by
    rw [eh, show (6 : Int32) = nI 6 from rfl, pk_mul, nI_add, show (2 : Int32) = nI 2 from rfl, pk_sub (by omega)]
    exact congrArg nI (by omega)
  have rs : ∀ x : Int32, _ := fun x => raise_both (x := x) (st := st + 1) (og := og) (dn := dn) (cl := cl) (sy := sy) (tc := tc) (lc := lc) (np := np) (rd := rd) (mk := mk) hs hb hc hh (zF_G (hi' := hi) hb hF (fun j hj => rfl)) hF.2.2.2.2.1
  rcases zl_refc hh v1 with ⟨q1, q2⟩ | ⟨o, c, n', ol, ey, ex, o1, o2, p1, p2, c4, cu, eof, ehp, efc, n16, fv⟩
  · obtain ⟨s', t', hX, hY, hw, hr⟩ := rs 2
    refine ⟨s', t', zX_done (fun post hpp => ?_) hw, fun post hpp => ?_, hr⟩
    · refine xd_17 hD hm hi2 (by omega) e1 e2 x0.1 x0.2.1 x0.2.2 (upX_sendToObject ⟨vp_in_nI (by omega) (by decide), nm_e ?_⟩)
      rw [rX_cells, cc12]
      exact br_t q2 (hX _ hpp)
    · refine yd_17 hD hm hi2 e1 e2 (by rw [yo, eo]; rfl) ya (upY_send ?_)
      rw [rY_depth, zn_D1, rY_high, rY_stack]
      refine nm_e ⟨vp_in_nI (by omega) (by decide), ?_⟩
      rw [nI_clamp (n := D) (by omega), hhi, ehi, nI_clamp (n := 6 * D + h) (by omega)]
      exact ⟨vp_in_nI (by omega) (by decide), nm_e (br_t q1 (hY _ hpp))⟩
  · have cuY : gY_up v c ≠ -2 := by rw [← hs.1.1]; exact cu
    have dpY := dcl.1.2 c c4 cuY
    have dpX : zc_dp (gX_superOf u) 4 (nI c) := by rw [hs.1.1]; exact dpY
    have cx : hp (ce (12 * D + (6 + h))).toNatClampNeg = nI c := by rw [ex, nI_clamp (by omega)]; exact ehp
    have cy : of (sk (6 * D + h)).toNatClampNeg - 1 = nI c := by rw [ey, nI_clamp (by omega), eof, nI_pred]
    have nx : ¬ ce (12 * D + (6 + h)) = 0 := by rw [ex]; exact nI_ne0 (by omega) (by omega)
    have ny : ¬ sk (6 * D + h) = 0 := by rw [ey]; exact nI_ne0 (by omega) (by omega)
    have vx : vp_in (ce (12 * D + (6 + h))) 49 := by rw [ex]; exact vp_in_nI (by omega) (by decide)
    have vy : vp_in (sk (6 * D + h)) 49 := by rw [ey]; exact vp_in_nI (by omega) (by decide)
    have own := hs.2.2.1
    have ownY : zq_own (gY_slots v) := by rw [← hs.1.2.1]; exact own
    have mfe : zc_mf (gX_superOf u) (gX_ownMethods u) s 4 (nI c) = zc_mf (gY_up v) (gY_slots v) s 4 (nI c) := by rw [hs.1.1, hs.1.2.1]
    have xw : ∀ (post : SX → Prop), wpX_hasBody (fun r_46 => (((r_46 = 0 → (wpX_raise (fun u2 => (post u2)) (rX he (nI (D + 1)) wu (-1) 2 10000000000 (-1) dn cl sy tc lc rd co cc ca hp np gx fm fp ce u) 4)) ∧ (¬ r_46 = 0 → (wpX_handOver (fun u3 => (post u3)) (rX he (nI (D + 1)) wu (-1) 2 10000000000 (-1) dn cl sy tc lc rd co cc ca hp np gx fm fp ce u) (nI (12 * D + (6 + h))) (zc_mf (gX_superOf u) (gX_ownMethods u) s 4 (nI c))))))) (rX he (nI (D + 1)) wu (-1) 2 10000000000 (-1) dn cl sy tc lc rd co cc ca hp np gx fm fp ce u) (zc_mf (gX_superOf u) (gX_ownMethods u) s 4 (nI c)) → wpX_step post (rX he (nI (D + 1)) wu (-1) 2 10000000000 (-1) dn cl sy tc lc rd co cc ca hp np gx fm fp ce u) := by
      intro post hq
      refine xd_17 hD hm hi2 (by omega) e1 e2 x0.1 x0.2.1 x0.2.2 (upX_sendToObject ⟨vp_in_nI (by omega) (by decide), nm_e ?_⟩)
      rw [rX_cells, rX_heap, cc12, cx]
      exact br_f nx ⟨vx, x_methodFor (u := (rX he (nI (D + 1)) wu (-1) 2 10000000000 (-1) dn cl sy tc lc rd co cc ca hp np gx fm fp ce u)) hs4 dpX hq⟩
    have yw : ∀ (post : SY → Prop), kY_send_84 (fun u1 => post u1) (zc_mf (gX_superOf u) (gX_ownMethods u) s 4 (nI c)) (rY us (nI (D + 1)) wu (st + 1) og 2 cl sy tc lc 10000000000 rd cd lk of fl gy mk fm fp hi lo sk v) → wpY_step post (rY us (nI (D + 1)) wu st og 2 cl sy tc lc 10000000000 rd cd lk of fl gy mk fm fp hi lo sk v) := by
      intro post hq
      refine yd_17 hD hm hi2 e1 e2 (by rw [yo, eo]; rfl) ya (upY_send ?_)
      rw [rY_depth, zn_D1, rY_high, rY_stack, rY_of]
      refine nm_e ⟨vp_in_nI (by omega) (by decide), ?_⟩
      rw [nI_clamp (n := D) (by omega), hhi, ehi, nI_clamp (n := 6 * D + h) (by omega)]
      refine ⟨vp_in_nI (by omega) (by decide), nm_e (br_f ny ⟨vy, nm_e ?_⟩)⟩
      rw [cy]
      rw [mfe] at hq
      exact ⟨_, y_send49 (T := (rY us (nI (D + 1)) wu (st + 1) og 2 cl sy tc lc 10000000000 rd cd lk of fl gy mk fm fp hi lo sk v)) hs4 ownY 4 _ dpY hq⟩
    rcases zc_mfo hs4 own 4 (nI c) dpX with em | ⟨q, em, hq⟩
    · rw [em] at xw yw
      obtain ⟨s', t', hX, hY, hw, hr⟩ := rs 4
      refine ⟨s', t', zX_done (fun post hpp => xw post (x_hasBody (u := (rX he (nI (D + 1)) wu (-1) 2 10000000000 (-1) dn cl sy tc lc rd co cc ca hp np gx fm fp ce u)) lens.1 (zp_br (fun _ => hX _ hpp) (fun w => ?_)))) hw, fun post hpp => yw post (uY_send_84 (br_t (by decide) (uY_send_99 (hY _ hpp)))), hr⟩
      obtain ⟨q', hq', eq', hl'⟩ := w
      exact absurd eq'.symm (zn_m1 _ (by omega))
    · rw [em] at xw yw
      have hq8 : q < 8 := by omega
      have eLen : gY_length v q = gX_lengths u q := by rw [hs.1.2.2.2.2.2.1]
      by_cases z : gX_lengths u q = 0
      · obtain ⟨s', t', hX, hY, hw, hr⟩ := rs 4
        refine ⟨s', t', zX_done (fun post hpp => xw post (x_hasBody (u := (rX he (nI (D + 1)) wu (-1) 2 10000000000 (-1) dn cl sy tc lc rd co cc ca hp np gx fm fp ce u)) lens.1 (zp_br (fun _ => hX _ hpp) (fun w => ?_)))) hw, fun post hpp => yw post (uY_send_84 (br_f (nI_pos (by omega)) ⟨vp_in_nI (by omega) (by decide), ?_⟩)), hr⟩
        · obtain ⟨q', hq', eq', hl'⟩ := w
          have := (nI_eq (by omega) (by omega)).mp eq'
          subst this
          exact absurd z hl'
        · rw [rY_length, nI_clamp (by omega), eLen]
          exact br_t z (uY_send_99 (hY _ hpp))
      · have eT : zt_takes q = (zw_P (gX_ops u) (gX_operands u) (24 * m + i)) := by
          rw [eP]
          rcases hq with ⟨_, rfl | rfl⟩ | ⟨_, rfl | rfl⟩ <;> rfl
        have hg : zk_pk (gX_refFields u) (zw_op (gX_ops u) (24 * m + i)) (gX_operands u (24 * m + i)) = if 4 ≤ q ∧ q ≤ 6 then 2 else 1 := by
          rw [eo, es]; unfold zk_pk
          rw [if_neg (by decide), if_neg (by decide), if_pos rfl, nI_clamp (by omega)]
          rcases hq with ⟨w, rfl | rfl⟩ | ⟨w, rfl | rfl⟩
          · rw [if_pos w]; rfl
          · rw [if_pos w]; rfl
          · rw [if_neg (by omega)]; rfl
          · rw [if_neg (by omega)]; rfl
        have hkk : ∀ e, e < (zw_P (gX_ops u) (gX_operands u) (24 * m + i)) → K (24 * m + i) (6 + (H (24 * m + i)) - (zw_P (gX_ops u) (gX_operands u) (24 * m + i)) + e) = zy_in q e := by
          intro e he
          rw [eP] at he ⊢
          have he2 : e = 0 ∨ e = 1 := by omega
          rcases he2 with rfl | rfl
          · rw [show 6 + (H (24 * m + i)) - 2 + 0 = 5 + (H (24 * m + i)) - 1 by omega, k1]
            rcases hq with ⟨_, rfl | rfl⟩ | ⟨_, rfl | rfl⟩ <;> rfl
          · rw [show 6 + (H (24 * m + i)) - 2 + 1 = 5 + (H (24 * m + i)) - 0 by omega, k0]
            rcases hq with ⟨_, rfl | rfl⟩ | ⟨_, rfl | rfl⟩ <;> rfl
        obtain ⟨s', t', hX, hY, hr⟩ := call_both (st := st + 1) (og := og) (dn := dn) (cl := cl) (sy := sy) (tc := tc) (lc := lc) (np := np) (rd := rd) (mk := mk) hs hb hc hh hF hq8 z eT (Or.inr eo) hg hkk
        rw [eb] at hX
        refine ⟨s', t', fun post hpp => xw _ (x_hasBody (u := (rX he (nI (D + 1)) wu (-1) 2 10000000000 (-1) dn cl sy tc lc rd co cc ca hp np gx fm fp ce u)) lens.1 (zp_br (fun w => absurd ⟨q, hq8, rfl, z⟩ w) (fun _ => hX post hpp))), fun post hpp => yw post (uY_send_84 (br_f (nI_pos (by omega)) ⟨vp_in_nI (by omega) (by decide), ?_⟩)), hr⟩
        rw [rY_length, nI_clamp (by omega), eLen]
        exact br_f z (hY post hpp)
end
