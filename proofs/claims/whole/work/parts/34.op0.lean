/-! INT, NULL, LOAD, STORE, DUP, POP, FETCH, KEEP, GOTO, ZERO, NONE -/
section
variable {u : SX} {v : SY} {he fr wu wa ou lg dn cl sy tc lc us st og an : Int32} {re : Int64} {rd co cc ca hp np gx fm fp ce cd lk of fl gy mk hi lo sk : Nat → Int32}
variable {H : Nat → Nat} {R : Nat → Prop} {K : Nat → Nat → Nat} {p : Nat → Nat} {l : List Nat}
theorem yp0 {post : SY → Prop} {T : SY} {x : Int32} {o : Nat} {a : Int32} (ho : o < 24) (ha : o = 16 → ∃ m, m < 8 ∧ a = nI m) (e : zt_pops o a = 0) (h : kY_plain_17 post x (nI o) a 0 T) : wpY_plain post T x (nI o) a :=
  upY_plain (yt_pops ho ha (by rw [e]; exact br_f (by decide) h))
theorem yp1 {post : SY → Prop} {T : SY} {x : Int32} {o : Nat} {a : Int32} (ho : o < 24) (ha : o = 16 → ∃ m, m < 8 ∧ a = nI m) (e : zt_pops o a = 1) (h : wpY_pop (fun r u1 => kY_plain_17 post x (nI o) a r u1) T) : wpY_plain post T x (nI o) a :=
  upY_plain (yt_pops ho ha (by rw [e]; exact br_t rfl h))
theorem op_0 (hs : zR_s u v) (hb : zR_b u H R K) (hc : zR_c1 (gX_ops u) (gX_operands u) (gX_lengths u) co cc ca cd lk H R) (hh : zR_h1 (gX_superOf u) (gX_fieldCount u) (gX_refFields u) of fl hp gx gy he us p l) {D m i : Nat} (hF : zF u H R K p l wu cd fm fp ce hi lo sk D m i) (eo : (zw_op (gX_ops u) (24 * m + i)) = 0 ∨ (zw_op (gX_ops u) (24 * m + i)) = 1) : zN u v H R K (rX he (nI (D + 1)) wu (-1) 2 10000000000 (-1) dn cl sy tc lc rd co cc ca hp np gx fm fp ce u) (rY us (nI (D + 1)) wu st og 2 cl sy tc lc 10000000000 rd cd lk of fl gy mk fm fp hi lo sk v) st := by
  obtain ⟨hD, hm, hi2, e1, e2, ⟨n, hn, hin, el, at_⟩, xc, yo, o24, ya⟩ := zS_top hs hb hc hF
  obtain ⟨a1, a2, a3, a4, a5, a6, a7, a8, a9, a10, a11, a12, a13⟩ := at_
  have hhi := hF.2.1
  have hvv := hF.2.2.1
  have eP : (zw_P (gX_ops u) (gX_operands u) (24 * m + i)) = 0 := by unfold zw_P; rcases eo with eo | eo <;> rw [eo] <;> rfl
  have eQ : zw_Q (gX_ops u) (24 * m + i) = 1 := by unfold zw_Q; rcases eo with eo | eo <;> rw [eo] <;> rfl
  have go := a10 (by rcases eo with eo | eo <;> rw [eo] <;> unfold zt_fall <;> decide)
  rw [eP, eQ] at a4
  have hS : ∀ y x, zl_val p l (zk_pk (gX_refFields u) (zw_op (gX_ops u) (24 * m + i)) (gX_operands u (24 * m + i))) y x → zS u v H R K (rX he (nI (D + 1)) wu (-1) 2 10000000000 (-1) dn cl sy tc lc rd co cc ca hp np gx fm (upd fp D (nI (i + 1))) (upd ce (12 * D + (6 + (H (24 * m + i)) - (zw_P (gX_ops u) (gX_operands u) (24 * m + i)))) x) u) (rY us (nI (D + 1)) wu (st + 1) og 2 cl sy tc lc 10000000000 rd cd lk of fl gy mk fm (upd fp D (nI (i + 1))) (upd hi D (nI ((H (24 * m + i)) + 1))) lo (upd sk (6 * D + ((H (24 * m + i)) - (zw_P (gX_ops u) (gX_operands u) (24 * m + i)))) y) v) (st + 1) := fun y x hv => zS_push hb hc hh hF hn go eQ (by omega) (by omega) (by omega) a3 hv (by rw [eP]; exact pk_us) (fun j hj => pk_un (by omega))
  rcases eo with eo | eo
  · have x0 := zx_c0 xc eo
    refine ⟨_, _, ?_, ?_, Or.inl (hS (gX_operands u (24 * m + i)) (gX_operands u (24 * m + i)) ?_)⟩
    · exact zX_done (fun post hp => xd_24 hD hm hi2 (by omega) e1 e2 x0.1 x0.2.1 x0.2.2 (xm_24 hD (by omega) e2 hp)) rfl
    · intro post hp
      refine yd_0 hD hm hi2 e1 e2 (by rw [yo, eo]; rfl) ya (yp0 (o := 0) (by decide) (fun w => absurd w (by decide)) rfl (uY_plain_17 (br_f (by decide) (br_f (by decide) (br_t rfl (yr_push hD (by omega) hhi ?_))))))
      rw [eP] at hp; exact hp
    · rw [eo]; exact ⟨fun _ => rfl, fun w => absurd (show (1 : Nat) = 2 from w) (by decide)⟩
  · have x0 := zx_c1 xc eo
    refine ⟨_, _, ?_, ?_, Or.inl (hS 0 0 ?_)⟩
    · exact zX_done (fun post hp => xd_24 hD hm hi2 (by omega) e1 e2 x0.1 x0.2.1 x0.2.2 (xm_24 hD (by omega) e2 hp)) rfl
    · intro post hp
      refine yd_1 hD hm hi2 e1 e2 (by rw [yo, eo]; rfl) ya (yp0 (o := 1) (by decide) (fun w => absurd w (by decide)) rfl (uY_plain_17 (br_f (by decide) (br_f (by decide) (br_f (by decide) (br_t rfl (yr_push hD (by omega) hhi ?_)))))))
      rw [eP] at hp; exact hp
    · rw [eo]; exact ⟨fun w => absurd (show (2 : Nat) = 1 from w) (by decide), fun _ => ⟨0, Or.inl rfl, rfl, by rw [hh.2.1]; rfl⟩⟩
theorem op_2 (hs : zR_s u v) (hb : zR_b u H R K) (hc : zR_c1 (gX_ops u) (gX_operands u) (gX_lengths u) co cc ca cd lk H R) (hh : zR_h1 (gX_superOf u) (gX_fieldCount u) (gX_refFields u) of fl hp gx gy he us p l) {D m i : Nat} (hF : zF u H R K p l wu cd fm fp ce hi lo sk D m i) (eo : (zw_op (gX_ops u) (24 * m + i)) = 2) : zN u v H R K (rX he (nI (D + 1)) wu (-1) 2 10000000000 (-1) dn cl sy tc lc rd co cc ca hp np gx fm fp ce u) (rY us (nI (D + 1)) wu st og 2 cl sy tc lc 10000000000 rd cd lk of fl gy mk fm fp hi lo sk v) st := by
  obtain ⟨hD, hm, hi2, e1, e2, ⟨n, hn, hin, el, at_⟩, xc, yo, o24, ya⟩ := zS_top hs hb hc hF
  obtain ⟨a1, a2, a3, a4, a5, a6, a7, a8, a9, a10, a11, a12, a13⟩ := at_
  have hhi := hF.2.1
  have hvv := hF.2.2.1
  have eP : (zw_P (gX_ops u) (gX_operands u) (24 * m + i)) = 0 := by unfold zw_P; rw [eo]; rfl
  have eQ : zw_Q (gX_ops u) (24 * m + i) = 1 := by unfold zw_Q; rw [eo]; rfl
  have go := a10 (by rw [eo]; unfold zt_fall; decide)
  have g3 := go.2.2.1
  rw [eP, eQ] at a4 g3
  obtain ⟨j, hj, ej⟩ := zi_fj (zi_of a1).2.2 (show zi_lim (gX_ops u (24 * m + i)).toNatClampNeg = 6 by rw [show (gX_ops u (24 * m + i)).toNatClampNeg = 2 from eo]; rfl) (by decide)
  have x0 := zx_c2 xc eo
  rw [ej] at x0 ya
  rw [eP] at x0
  have hz : zF u H R K p l wu cd fm (upd fp D (nI (i + 1))) (upd ce (12 * D + (6 + (H (24 * m + i)))) (ce (12 * D + j))) (upd hi D (nI ((H (24 * m + i)) + 1))) lo (upd sk (6 * D + (H (24 * m + i))) (lo (6 * D + j))) D m (i + 1) := by
    refine zF_step hb hF hn go pk_us (fun j hj => pk_un (by omega)) (by rw [pk_us, g3]; try exact congrArg nI (by omega)) (fun j hj => pk_un (by omega)) (fun _ _ w => w) ?_ ?_
    · intro j hj k e he w
      rw [zF_yk (D := D) (fun _ _ => rfl) (fun q hq => pk_un (by omega)) hj he, pk_un (by omega)]
      exact w
    · intro e he
      unfold zw_bh
      rw [eo, if_neg (by decide), if_pos rfl, eP, ej, nI_clamp (by omega)]
      by_cases q : e = 6 + (H (24 * m + i)) - 0
      · rw [if_pos q, show 12 * D + e = 12 * D + (6 + (H (24 * m + i))) by omega, pk_us]
        have : zF_y lo (upd sk (6 * D + (H (24 * m + i))) (lo (6 * D + j))) D e = zF_y lo sk D j := by
          unfold zF_y
          rw [if_neg (by omega), if_pos (by omega), show 6 * D + (e - 6) = 6 * D + (H (24 * m + i)) by omega, pk_us]
        rw [this]; exact hvv j (by omega)
      · rw [if_neg q, pk_un (by omega)]
        have : zF_y lo (upd sk (6 * D + (H (24 * m + i))) (lo (6 * D + j))) D e = zF_y lo sk D e := by
          unfold zF_y
          split
          · rfl
          · rw [pk_un (by omega)]
        rw [this]; exact hvv e (by omega)
  have hS : zS u v H R K (rX he (nI (D + 1)) wu (-1) 2 10000000000 (-1) dn cl sy tc lc rd co cc ca hp np gx fm (upd fp D (nI (i + 1))) (upd ce (12 * D + (6 + (H (24 * m + i)))) (ce (12 * D + j))) u) (rY us (nI (D + 1)) wu (st + 1) og 2 cl sy tc lc 10000000000 rd cd lk of fl gy mk fm (upd fp D (nI (i + 1))) (upd hi D (nI ((H (24 * m + i)) + 1))) lo (upd sk (6 * D + (H (24 * m + i))) (lo (6 * D + j))) v) (st + 1) := ⟨p, l, D, m, i + 1, he, wu, dn, cl, sy, tc, lc, us, og, rd, co, cc, ca, hp, np, gx, fm, _, _, cd, lk, of, fl, gy, mk, _, lo, _, rfl, rfl, hc, hh, hz⟩
  refine ⟨_, _, ?_, ?_, Or.inl hS⟩
  · exact zX_done (fun post hp => xd_25 hD hm hi2 (by omega) e1 e2 x0.1 x0.2.1 x0.2.2 (xm_25 hD (by omega) (by omega) e2 hp)) rfl
  · intro post hp
    have e6 : (6 : Int32) * nI D + nI j = nI (6 * D + j) := by rw [show (6 : Int32) = nI 6 from rfl, pk_mul, nI_add]
    refine yd_2 hD hm hi2 e1 e2 (by rw [yo, eo]; rfl) ya (yp0 (o := 2) (by decide) (fun w => absurd w (by decide)) rfl (uY_plain_17 ?_))
    rw [rY_locals, e6, nI_clamp (n := 6 * D + j) (by omega)]
    refine br_f (by decide) (br_f (by decide) (br_f (by decide) (br_f (by decide) (br_t rfl ⟨vp_in_nI (by omega) (by decide), yr_push hD (by omega) hhi hp⟩))))
theorem op_3 (hs : zR_s u v) (hb : zR_b u H R K) (hc : zR_c1 (gX_ops u) (gX_operands u) (gX_lengths u) co cc ca cd lk H R) (hh : zR_h1 (gX_superOf u) (gX_fieldCount u) (gX_refFields u) of fl hp gx gy he us p l) {D m i : Nat} (hF : zF u H R K p l wu cd fm fp ce hi lo sk D m i) (eo : (zw_op (gX_ops u) (24 * m + i)) = 3) : zN u v H R K (rX he (nI (D + 1)) wu (-1) 2 10000000000 (-1) dn cl sy tc lc rd co cc ca hp np gx fm fp ce u) (rY us (nI (D + 1)) wu st og 2 cl sy tc lc 10000000000 rd cd lk of fl gy mk fm fp hi lo sk v) st := by
  obtain ⟨hD, hm, hi2, e1, e2, ⟨n, hn, hin, el, at_⟩, xc, yo, o24, ya⟩ := zS_top hs hb hc hF
  obtain ⟨a1, a2, a3, a4, a5, a6, a7, a8, a9, a10, a11, a12, a13⟩ := at_
  have hhi := hF.2.1
  have hvv := hF.2.2.1
  have eP : (zw_P (gX_ops u) (gX_operands u) (24 * m + i)) = 1 := by unfold zw_P; rw [eo]; rfl
  have eQ : zw_Q (gX_ops u) (24 * m + i) = 0 := by unfold zw_Q; rw [eo]; rfl
  have go := a10 (by rw [eo]; unfold zt_fall; decide)
  have g3 := go.2.2.1
  rw [eP, eQ] at a4 g3
  rw [eP] at a3
  obtain ⟨j, hj, ej⟩ := zi_fj (zi_of a1).2.2 (show zi_lim (gX_ops u (24 * m + i)).toNatClampNeg = 6 by rw [show (gX_ops u (24 * m + i)).toNatClampNeg = 3 from eo]; rfl) (by decide)
  have x0 := zx_c3 xc eo
  rw [ej] at x0 ya
  rw [eP] at x0
  have hz : zF u H R K p l wu cd fm (upd fp D (nI (i + 1))) (upd ce (12 * D + j) (ce (12 * D + (6 + (H (24 * m + i)) - 1)))) (upd hi D (nI ((H (24 * m + i)) - 1))) (upd lo (6 * D + j) (sk (6 * D + ((H (24 * m + i)) - 1)))) sk D m (i + 1) := by
    refine zF_step hb hF hn go pk_us (fun j hj => pk_un (by omega)) (by rw [pk_us, g3]; try exact congrArg nI (by omega)) (fun j hj => pk_un (by omega)) (fun _ _ w => w) ?_ ?_
    · intro j hj k e he w
      rw [zF_yk (D := D) (fun q hq => pk_un (by omega)) (fun _ _ => rfl) hj he, pk_un (by omega)]
      exact w
    · intro e he
      unfold zw_bh
      rw [eo, if_pos rfl, eP, ej, nI_clamp (by omega)]
      by_cases q : e = j
      · rw [if_pos q, q, pk_us]
        have : zF_y (upd lo (6 * D + j) (sk (6 * D + ((H (24 * m + i)) - 1)))) sk D j = zF_y lo sk D (6 + (H (24 * m + i)) - 1) := by
          unfold zF_y
          rw [if_pos (by omega), if_neg (by omega), pk_us, show 6 + (H (24 * m + i)) - 1 - 6 = (H (24 * m + i)) - 1 by omega]
        rw [this]; exact hvv _ (by omega)
      · rw [if_neg q, pk_un (by omega)]
        have : zF_y (upd lo (6 * D + j) (sk (6 * D + ((H (24 * m + i)) - 1)))) sk D e = zF_y lo sk D e := by
          unfold zF_y
          split
          · rw [pk_un (by omega)]
          · rfl
        rw [this]; exact hvv e (by omega)
  have hS : zS u v H R K (rX he (nI (D + 1)) wu (-1) 2 10000000000 (-1) dn cl sy tc lc rd co cc ca hp np gx fm (upd fp D (nI (i + 1))) (upd ce (12 * D + j) (ce (12 * D + (6 + (H (24 * m + i)) - 1)))) u) (rY us (nI (D + 1)) wu (st + 1) og 2 cl sy tc lc 10000000000 rd cd lk of fl gy mk fm (upd fp D (nI (i + 1))) (upd hi D (nI ((H (24 * m + i)) - 1))) (upd lo (6 * D + j) (sk (6 * D + ((H (24 * m + i)) - 1)))) sk v) (st + 1) := ⟨p, l, D, m, i + 1, he, wu, dn, cl, sy, tc, lc, us, og, rd, co, cc, ca, hp, np, gx, fm, _, _, cd, lk, of, fl, gy, mk, _, _, sk, rfl, rfl, hc, hh, hz⟩
  refine ⟨_, _, ?_, ?_, Or.inl hS⟩
  · exact zX_done (fun post hp => xd_25 hD hm hi2 (by omega) e1 e2 x0.1 x0.2.1 x0.2.2 (xm_25 hD (by omega) (by omega) e2 hp)) rfl
  · intro post hp
    have e6 : (6 : Int32) * nI D + nI j = nI (6 * D + j) := by rw [show (6 : Int32) = nI 6 from rfl, pk_mul, nI_add]
    have hhi' : hi D = nI ((H (24 * m + i)) - 1 + 1) := by rw [hhi]; exact congrArg nI (by omega)
    refine yd_3 hD hm hi2 e1 e2 (by rw [yo, eo]; rfl) ya (yp1 (o := 3) (by decide) (fun w => absurd w (by decide)) rfl (yr_pop hD (by omega) hhi' (uY_plain_17 ?_)))
    rw [rY_locals, e6, nI_clamp (n := 6 * D + j) (by omega)]
    refine br_f (by decide) (br_f (by decide) (br_f (by decide) (br_f (by decide) (br_f (by decide) (br_t rfl ⟨vp_in_nI (by omega) (by decide), nm_e ?_⟩)))))
    rw [rY__locals]; exact hp
theorem op_20 (hs : zR_s u v) (hb : zR_b u H R K) (hc : zR_c1 (gX_ops u) (gX_operands u) (gX_lengths u) co cc ca cd lk H R) (hh : zR_h1 (gX_superOf u) (gX_fieldCount u) (gX_refFields u) of fl hp gx gy he us p l) {D m i : Nat} (hF : zF u H R K p l wu cd fm fp ce hi lo sk D m i) (eo : (zw_op (gX_ops u) (24 * m + i)) = 20) : zN u v H R K (rX he (nI (D + 1)) wu (-1) 2 10000000000 (-1) dn cl sy tc lc rd co cc ca hp np gx fm fp ce u) (rY us (nI (D + 1)) wu st og 2 cl sy tc lc 10000000000 rd cd lk of fl gy mk fm fp hi lo sk v) st := by
  obtain ⟨hD, hm, hi2, e1, e2, ⟨n, hn, hin, el, at_⟩, xc, yo, o24, ya⟩ := zS_top hs hb hc hF
  obtain ⟨a1, a2, a3, a4, a5, a6, a7, a8, a9, a10, a11, a12, a13⟩ := at_
  have hhi := hF.2.1
  have hvv := hF.2.2.1
  have eP : (zw_P (gX_ops u) (gX_operands u) (24 * m + i)) = 1 := by unfold zw_P; rw [eo]; rfl
  have eQ : zw_Q (gX_ops u) (24 * m + i) = 2 := by unfold zw_Q; rw [eo]; rfl
  have go := a10 (by rw [eo]; unfold zt_fall; decide)
  have g3 := go.2.2.1
  rw [eP, eQ] at a4 g3
  rw [eP] at a3
  have x0 := zx_c20 xc eo
  rw [eP] at x0
  have hz : zF u H R K p l wu cd fm (upd fp D (nI (i + 1))) (upd ce (12 * D + (6 + (H (24 * m + i)) - 1 + 1)) (ce (12 * D + (6 + (H (24 * m + i)) - 1)))) (upd (upd (upd hi D (nI ((H (24 * m + i)) - 1))) D (nI ((H (24 * m + i)) - 1 + 1))) D (nI ((H (24 * m + i)) - 1 + 1 + 1))) lo (upd (upd sk (6 * D + ((H (24 * m + i)) - 1)) (sk (6 * D + ((H (24 * m + i)) - 1)))) (6 * D + ((H (24 * m + i)) - 1 + 1)) (sk (6 * D + ((H (24 * m + i)) - 1)))) D m (i + 1) := by
    refine zF_step hb hF hn go pk_us (fun j hj => pk_un (by omega)) (by rw [pk_us, g3]; try exact congrArg nI (by omega)) (fun j hj => by rw [pk_un (by omega), pk_un (by omega), pk_un (by omega)]) (fun _ _ w => w) ?_ ?_
    · intro j hj k e he w
      rw [zF_yk (D := D) (fun _ _ => rfl) (fun q hq => by rw [pk_un (by omega), pk_un (by omega)]) hj he, pk_un (by omega)]
      exact w
    · intro e he
      unfold zw_bh
      rw [eo, if_neg (by decide), if_neg (by decide), if_pos rfl, eP]
      have self : upd sk (6 * D + ((H (24 * m + i)) - 1)) (sk (6 * D + ((H (24 * m + i)) - 1))) = sk := zu_self rfl
      rw [self]
      by_cases q : e = 6 + (H (24 * m + i)) - 1 + 1
      · rw [if_pos (Or.inr q), q, pk_us]
        have : zF_y lo (upd sk (6 * D + ((H (24 * m + i)) - 1 + 1)) (sk (6 * D + ((H (24 * m + i)) - 1)))) D (6 + (H (24 * m + i)) - 1 + 1) = zF_y lo sk D (6 + (H (24 * m + i)) - 1) := by
          unfold zF_y
          rw [if_neg (by omega), if_neg (by omega), show 6 * D + (6 + (H (24 * m + i)) - 1 + 1 - 6) = 6 * D + ((H (24 * m + i)) - 1 + 1) by omega, pk_us, show 6 + (H (24 * m + i)) - 1 - 6 = (H (24 * m + i)) - 1 by omega]
        rw [this]; exact hvv _ (by omega)
      · rw [pk_un (by omega)]
        have : zF_y lo (upd sk (6 * D + ((H (24 * m + i)) - 1 + 1)) (sk (6 * D + ((H (24 * m + i)) - 1)))) D e = zF_y lo sk D e := by
          unfold zF_y
          split
          · rfl
          · rw [pk_un (by omega)]
        rw [this]
        by_cases q2 : e = 6 + (H (24 * m + i)) - 1
        · rw [if_pos (Or.inl q2), q2]; exact hvv _ (by omega)
        · rw [if_neg (by omega)]; exact hvv e (by omega)
  have hS : zS u v H R K (rX he (nI (D + 1)) wu (-1) 2 10000000000 (-1) dn cl sy tc lc rd co cc ca hp np gx fm (upd fp D (nI (i + 1))) (upd ce (12 * D + (6 + (H (24 * m + i)) - 1 + 1)) (ce (12 * D + (6 + (H (24 * m + i)) - 1)))) u) (rY us (nI (D + 1)) wu (st + 1) og 2 cl sy tc lc 10000000000 rd cd lk of fl gy mk fm (upd fp D (nI (i + 1))) (upd (upd (upd hi D (nI ((H (24 * m + i)) - 1))) D (nI ((H (24 * m + i)) - 1 + 1))) D (nI ((H (24 * m + i)) - 1 + 1 + 1))) lo (upd (upd sk (6 * D + ((H (24 * m + i)) - 1)) (sk (6 * D + ((H (24 * m + i)) - 1)))) (6 * D + ((H (24 * m + i)) - 1 + 1)) (sk (6 * D + ((H (24 * m + i)) - 1)))) v) (st + 1) := ⟨p, l, D, m, i + 1, he, wu, dn, cl, sy, tc, lc, us, og, rd, co, cc, ca, hp, np, gx, fm, _, _, cd, lk, of, fl, gy, mk, _, lo, _, rfl, rfl, hc, hh, hz⟩
  refine ⟨_, _, ?_, ?_, Or.inl hS⟩
  · exact zX_done (fun post hp => xd_25 hD hm hi2 (by omega) e1 e2 x0.1 x0.2.1 x0.2.2 (xm_25 hD (by omega) (by omega) e2 hp)) rfl
  · intro post hp
    have hhi' : hi D = nI ((H (24 * m + i)) - 1 + 1) := by rw [hhi]; exact congrArg nI (by omega)
    refine yd_20 hD hm hi2 e1 e2 (by rw [yo, eo]; rfl) ya (yp1 (o := 20) (by decide) (fun w => absurd w (by decide)) rfl (yr_pop hD (by omega) hhi' (uY_plain_17 ?_)))
    repeat (first | refine br_t (by decide) ?_ | refine br_f (by decide) ?_)
    exact yr_push hD (by omega) pk_us (yr_push hD (by omega) pk_us hp)
theorem op_21 (hs : zR_s u v) (hb : zR_b u H R K) (hc : zR_c1 (gX_ops u) (gX_operands u) (gX_lengths u) co cc ca cd lk H R) (hh : zR_h1 (gX_superOf u) (gX_fieldCount u) (gX_refFields u) of fl hp gx gy he us p l) {D m i : Nat} (hF : zF u H R K p l wu cd fm fp ce hi lo sk D m i) (eo : (zw_op (gX_ops u) (24 * m + i)) = 21) : zN u v H R K (rX he (nI (D + 1)) wu (-1) 2 10000000000 (-1) dn cl sy tc lc rd co cc ca hp np gx fm fp ce u) (rY us (nI (D + 1)) wu st og 2 cl sy tc lc 10000000000 rd cd lk of fl gy mk fm fp hi lo sk v) st := by
  obtain ⟨hD, hm, hi2, e1, e2, ⟨n, hn, hin, el, at_⟩, xc, yo, o24, ya⟩ := zS_top hs hb hc hF
  obtain ⟨a1, a2, a3, a4, a5, a6, a7, a8, a9, a10, a11, a12, a13⟩ := at_
  have hhi := hF.2.1
  have hvv := hF.2.2.1
  have eP : (zw_P (gX_ops u) (gX_operands u) (24 * m + i)) = 1 := by unfold zw_P; rw [eo]; rfl
  have eQ : zw_Q (gX_ops u) (24 * m + i) = 0 := by unfold zw_Q; rw [eo]; rfl
  have go := a10 (by rw [eo]; unfold zt_fall; decide)
  have x0 := zx_c21 xc eo
  have hS : zS u v H R K (rX he (nI (D + 1)) wu (-1) 2 10000000000 (-1) dn cl sy tc lc rd co cc ca hp np gx fm (upd fp D (nI (i + 1))) ce u) (rY us (nI (D + 1)) wu (st + 1) og 2 cl sy tc lc 10000000000 rd cd lk of fl gy mk fm (upd fp D (nI (i + 1))) (upd hi D (nI ((H (24 * m + i)) - 1))) lo sk v) (st + 1) := zS_pop hb hc hh hF hn go eQ (by omega) (by omega) (by omega) a3 (by rw [eP]; exact pk_us) (fun j hj => pk_un (by omega))
  rw [eP] at a3 x0
  refine ⟨_, _, ?_, ?_, Or.inl hS⟩
  · exact zX_done (fun post hp => xd_26 hD hm hi2 (by omega) e1 e2 x0.1 x0.2.1 x0.2.2 (xm_26 hD e2 hp)) rfl
  · intro post hp
    have hhi' : hi D = nI ((H (24 * m + i)) - 1 + 1) := by rw [hhi]; exact congrArg nI (by omega)
    refine yd_21 hD hm hi2 e1 e2 (by rw [yo, eo]; rfl) ya (yp1 (o := 21) (by decide) (fun w => absurd w (by decide)) rfl (yr_pop hD (by omega) hhi' (uY_plain_17 ?_)))
    repeat (first | exact hp | refine br_t (by decide) ?_ | refine br_f (by decide) ?_)
theorem op_22 (hs : zR_s u v) (hb : zR_b u H R K) (hc : zR_c1 (gX_ops u) (gX_operands u) (gX_lengths u) co cc ca cd lk H R) (hh : zR_h1 (gX_superOf u) (gX_fieldCount u) (gX_refFields u) of fl hp gx gy he us p l) {D m i : Nat} (hF : zF u H R K p l wu cd fm fp ce hi lo sk D m i) (eo : (zw_op (gX_ops u) (24 * m + i)) = 22) : zN u v H R K (rX he (nI (D + 1)) wu (-1) 2 10000000000 (-1) dn cl sy tc lc rd co cc ca hp np gx fm fp ce u) (rY us (nI (D + 1)) wu st og 2 cl sy tc lc 10000000000 rd cd lk of fl gy mk fm fp hi lo sk v) st := by
  obtain ⟨hD, hm, hi2, e1, e2, ⟨n, hn, hin, el, at_⟩, xc, yo, o24, ya⟩ := zS_top hs hb hc hF
  obtain ⟨a1, a2, a3, a4, a5, a6, a7, a8, a9, a10, a11, a12, a13⟩ := at_
  have hhi := hF.2.1
  have hvv := hF.2.2.1
  have eP : (zw_P (gX_ops u) (gX_operands u) (24 * m + i)) = 0 := by unfold zw_P; rw [eo]; rfl
  have eQ : zw_Q (gX_ops u) (24 * m + i) = 1 := by unfold zw_Q; rw [eo]; rfl
  have go := a10 (by rw [eo]; unfold zt_fall; decide)
  rw [eP, eQ] at a4
  obtain ⟨g, hg, eg⟩ := zi_fj (zi_of a1).2.2 (show zi_lim (gX_ops u (24 * m + i)).toNatClampNeg = 4 by rw [show (gX_ops u (24 * m + i)).toNatClampNeg = 22 from eo]; rfl) (by decide)
  have x0 := zx_ce xc (by omega)
  rw [eo] at x0
  have hv : zl_val p l (zk_pk (gX_refFields u) (zw_op (gX_ops u) (24 * m + i)) (gX_operands u (24 * m + i))) (gy g) (gx g) := by
    rw [eo]; exact ⟨fun w => absurd (show (2 : Nat) = 1 from w) (by decide), fun _ => hh.2.2.2 g hg⟩
  have hS : zS u v H R K (rX he (nI (D + 1)) wu (-1) 2 10000000000 (-1) dn cl sy tc lc rd co cc ca hp np gx fm (upd fp D (nI (i + 1))) (upd ce (12 * D + (6 + (H (24 * m + i)) - (zw_P (gX_ops u) (gX_operands u) (24 * m + i)))) (gx g)) u) (rY us (nI (D + 1)) wu (st + 1) og 2 cl sy tc lc 10000000000 rd cd lk of fl gy mk fm (upd fp D (nI (i + 1))) (upd hi D (nI ((H (24 * m + i)) + 1))) lo (upd sk (6 * D + ((H (24 * m + i)) - (zw_P (gX_ops u) (gX_operands u) (24 * m + i)))) (gy g)) v) (st + 1) := zS_push hb hc hh hF hn go eQ (by omega) (by omega) (by omega) a3 hv (by rw [eP]; exact pk_us) (fun j hj => pk_un (by omega))
  rw [eg] at x0 ya
  refine ⟨_, _, ?_, ?_, Or.inl hS⟩
  · exact zX_done (fun post hp => xd_22 hD hm hi2 (by omega) e1 e2 x0.1 x0.2.1 x0.2.2 (xm_22 hD (by omega) hg e2 hp)) rfl
  · intro post hp
    refine yd_22 hD hm hi2 e1 e2 (by rw [yo, eo]; rfl) ya (yp0 (o := 22) (by decide) (fun w => absurd w (by decide)) rfl (uY_plain_17 ?_))
    rw [rY_globals, nI_clamp (n := g) (by omega)]
    rw [eP] at hp
    repeat (first | exact ⟨vp_in_nI hg (by decide), yr_push hD (by omega) hhi hp⟩ | refine br_t (by decide) ?_ | refine br_f (by decide) ?_)
theorem op_23 (hs : zR_s u v) (hb : zR_b u H R K) (hc : zR_c1 (gX_ops u) (gX_operands u) (gX_lengths u) co cc ca cd lk H R) (hh : zR_h1 (gX_superOf u) (gX_fieldCount u) (gX_refFields u) of fl hp gx gy he us p l) {D m i : Nat} (hF : zF u H R K p l wu cd fm fp ce hi lo sk D m i) (eo : (zw_op (gX_ops u) (24 * m + i)) = 23) : zN u v H R K (rX he (nI (D + 1)) wu (-1) 2 10000000000 (-1) dn cl sy tc lc rd co cc ca hp np gx fm fp ce u) (rY us (nI (D + 1)) wu st og 2 cl sy tc lc 10000000000 rd cd lk of fl gy mk fm fp hi lo sk v) st := by
  obtain ⟨hD, hm, hi2, e1, e2, ⟨n, hn, hin, el, at_⟩, xc, yo, o24, ya⟩ := zS_top hs hb hc hF
  obtain ⟨a1, a2, a3, a4, a5, a6, a7, a8, a9, a10, a11, a12, a13⟩ := at_
  have hhi := hF.2.1
  have hvv := hF.2.2.1
  have eP : (zw_P (gX_ops u) (gX_operands u) (24 * m + i)) = 1 := by unfold zw_P; rw [eo]; rfl
  have eQ : zw_Q (gX_ops u) (24 * m + i) = 0 := by unfold zw_Q; rw [eo]; rfl
  have go := a10 (by rw [eo]; unfold zt_fall; decide)
  obtain ⟨g, hg, eg⟩ := zi_fj (zi_of a1).2.2 (show zi_lim (gX_ops u (24 * m + i)).toNatClampNeg = 4 by rw [show (gX_ops u (24 * m + i)).toNatClampNeg = 23 from eo]; rfl) (by decide)
  have x0 := zx_ce xc (by omega)
  rw [eo] at x0
  have a3' := a3
  rw [eP] at a3' x0
  have kv := a7 0 (by omega) (by rw [eo]; exact (show (2 : Nat) ≠ 0 by decide))
  have kv : K (24 * m + i) (5 + (H (24 * m + i)) - 0) = 2 := by rw [kv, eo]; rfl
  have rr := (hvv (5 + (H (24 * m + i)) - 0) (by omega)).2 kv
  have yv : zF_y lo sk D (5 + (H (24 * m + i)) - 0) = sk (6 * D + ((H (24 * m + i)) - 1)) := by
    unfold zF_y; rw [if_neg (by omega), show 5 + (H (24 * m + i)) - 0 - 6 = (H (24 * m + i)) - 1 by omega]
  rw [yv, show 12 * D + (5 + (H (24 * m + i)) - 0) = 12 * D + (6 + (H (24 * m + i)) - 1) by omega] at rr
  have hh' : zR_h1 (gX_superOf u) (gX_fieldCount u) (gX_refFields u) of fl hp (upd gx g (ce (12 * D + (6 + (H (24 * m + i)) - 1)))) (upd gy g (sk (6 * D + ((H (24 * m + i)) - 1)))) he us p l := by
    obtain ⟨z1, z2, z3, z8⟩ := hh
    refine ⟨z1, z2, z3, fun g2 hg2 => ?_⟩
    by_cases e : g2 = g
    · rw [e, pk_us, pk_us]; exact rr
    · rw [pk_un e, pk_un e]; exact z8 g2 hg2
  have hS : zS u v H R K (rX he (nI (D + 1)) wu (-1) 2 10000000000 (-1) dn cl sy tc lc rd co cc ca hp np (upd gx g (ce (12 * D + (6 + (H (24 * m + i)) - 1)))) fm (upd fp D (nI (i + 1))) ce u) (rY us (nI (D + 1)) wu (st + 1) og 2 cl sy tc lc 10000000000 rd cd lk of fl (upd gy g (sk (6 * D + ((H (24 * m + i)) - 1)))) mk fm (upd fp D (nI (i + 1))) (upd hi D (nI ((H (24 * m + i)) - 1))) lo sk v) (st + 1) := zS_pop hb hc hh' hF hn go eQ (by omega) (by omega) (by omega) a3 (by rw [eP]; exact pk_us) (fun j hj => pk_un (by omega))
  rw [eg] at x0 ya
  refine ⟨_, _, ?_, ?_, Or.inl hS⟩
  · exact zX_done (fun post hp => xd_23 hD hm hi2 (by omega) e1 e2 x0.1 x0.2.1 x0.2.2 (xm_23 hD (by omega) hg e2 hp)) rfl
  · intro post hp
    have hhi' : hi D = nI ((H (24 * m + i)) - 1 + 1) := by rw [hhi]; exact congrArg nI (by omega)
    refine yd_23 hD hm hi2 e1 e2 (by rw [yo, eo]; rfl) ya (yp1 (o := 23) (by decide) (fun w => absurd w (by decide)) rfl (yr_pop hD (by omega) hhi' (uY_plain_17 ?_)))
    rw [rY_globals, nI_clamp (n := g) (by omega)]
    repeat (first | refine br_t (by decide) ?_ | refine br_f (by decide) ?_)
    refine ⟨vp_in_nI hg (by decide), nm_e ?_⟩
    rw [rY__globals]; exact hp
theorem op_8 (hs : zR_s u v) (hb : zR_b u H R K) (hc : zR_c1 (gX_ops u) (gX_operands u) (gX_lengths u) co cc ca cd lk H R) (hh : zR_h1 (gX_superOf u) (gX_fieldCount u) (gX_refFields u) of fl hp gx gy he us p l) {D m i : Nat} (hF : zF u H R K p l wu cd fm fp ce hi lo sk D m i) (eo : (zw_op (gX_ops u) (24 * m + i)) = 8) : zN u v H R K (rX he (nI (D + 1)) wu (-1) 2 10000000000 (-1) dn cl sy tc lc rd co cc ca hp np gx fm fp ce u) (rY us (nI (D + 1)) wu st og 2 cl sy tc lc 10000000000 rd cd lk of fl gy mk fm fp hi lo sk v) st := by
  obtain ⟨hD, hm, hi2, e1, e2, ⟨n, hn, hin, el, at_⟩, xc, yo, o24, ya⟩ := zS_top hs hb hc hF
  obtain ⟨a1, a2, a3, a4, a5, a6, a7, a8, a9, a10, a11, a12, a13⟩ := at_
  have hhi := hF.2.1
  have hvv := hF.2.2.1
  have eP : (zw_P (gX_ops u) (gX_operands u) (24 * m + i)) = 0 := by unfold zw_P; rw [eo]; rfl
  have eQ : zw_Q (gX_ops u) (24 * m + i) = 0 := by unfold zw_Q; rw [eo]; rfl
  have go := a9 (by rw [eo]; unfold zt_jump; decide)
  obtain ⟨t, ht, et⟩ := zi_fj (zi_of a1).2.2 (show zi_lim (gX_ops u (24 * m + i)).toNatClampNeg = 24 by rw [show (gX_ops u (24 * m + i)).toNatClampNeg = 8 from eo]; rfl) (by decide)
  rw [et, nI_clamp (by omega)] at go
  have x0 := zx_ce xc (by omega)
  rw [eo] at x0
  have hS : zS u v H R K (rX he (nI (D + 1)) wu (-1) 2 10000000000 (-1) dn cl sy tc lc rd co cc ca hp np gx fm (upd fp D (nI t)) ce u) (rY us (nI (D + 1)) wu (st + 1) og 2 cl sy tc lc 10000000000 rd cd lk of fl gy mk fm (upd fp D (nI t)) hi lo sk v) (st + 1) := zS_pop hb hc hh hF hn go eQ (by omega) (by omega) (by omega) a3 (by rw [eP]; exact hhi) (fun j hj => rfl)
  rw [et] at x0 ya
  refine ⟨_, _, ?_, ?_, Or.inl hS⟩
  · exact zX_done (fun post hp => xd_8 hD hm hi2 (by rw [eP]; omega) e1 e2 x0.1 x0.2.1 x0.2.2 (xr_goto hD hp)) rfl
  · intro post hp
    refine yd_8 hD hm hi2 e1 e2 (by rw [yo, eo]; rfl) ya (yp0 (o := 8) (by decide) (fun w => absurd w (by decide)) rfl (uY_plain_17 ?_))
    rw [rY_at, nI_clamp (n := D) (by omega)]
    repeat (first | refine br_t (by decide) ?_ | refine br_f (by decide) ?_)
    refine ⟨vp_in_nI (by omega) (by decide), nm_e ?_⟩
    rw [rY__at, zu_uu]; exact hp
theorem op_9 (hs : zR_s u v) (hb : zR_b u H R K) (hc : zR_c1 (gX_ops u) (gX_operands u) (gX_lengths u) co cc ca cd lk H R) (hh : zR_h1 (gX_superOf u) (gX_fieldCount u) (gX_refFields u) of fl hp gx gy he us p l) {D m i : Nat} (hF : zF u H R K p l wu cd fm fp ce hi lo sk D m i) (eo : (zw_op (gX_ops u) (24 * m + i)) = 9 ∨ (zw_op (gX_ops u) (24 * m + i)) = 10) : zN u v H R K (rX he (nI (D + 1)) wu (-1) 2 10000000000 (-1) dn cl sy tc lc rd co cc ca hp np gx fm fp ce u) (rY us (nI (D + 1)) wu st og 2 cl sy tc lc 10000000000 rd cd lk of fl gy mk fm fp hi lo sk v) st := by
  obtain ⟨hD, hm, hi2, e1, e2, ⟨n, hn, hin, el, at_⟩, xc, yo, o24, ya⟩ := zS_top hs hb hc hF
  obtain ⟨a1, a2, a3, a4, a5, a6, a7, a8, a9, a10, a11, a12, a13⟩ := at_
  have hhi := hF.2.1
  have hvv := hF.2.2.1
  have eP : (zw_P (gX_ops u) (gX_operands u) (24 * m + i)) = 1 := by unfold zw_P; rcases eo with eo | eo <;> rw [eo] <;> rfl
  have eQ : zw_Q (gX_ops u) (24 * m + i) = 0 := by unfold zw_Q; rcases eo with eo | eo <;> rw [eo] <;> rfl
  have go := a9 (by rcases eo with eo | eo <;> rw [eo] <;> unfold zt_jump <;> decide)
  have go2 := a10 (by rcases eo with eo | eo <;> rw [eo] <;> unfold zt_fall <;> decide)
  obtain ⟨t, ht, et⟩ := zi_fj (zi_of a1).2.2 (show zi_lim (gX_ops u (24 * m + i)).toNatClampNeg = 24 by rcases eo with eo | eo; rw [show (gX_ops u (24 * m + i)).toNatClampNeg = 9 from eo]; rfl; rw [show (gX_ops u (24 * m + i)).toNatClampNeg = 10 from eo]; rfl) (by decide)
  rw [et, nI_clamp (by omega)] at go
  have x0 := zx_c9 xc eo
  have a3' := a3
  rw [eP] at a3' x0
  -- X's and Y's value are zero together
  have zz : ce (12 * D + (6 + (H (24 * m + i)) - 1)) = 0 ↔ sk (6 * D + ((H (24 * m + i)) - 1)) = 0 := by
    have yv : zF_y lo sk D (5 + (H (24 * m + i)) - 0) = sk (6 * D + ((H (24 * m + i)) - 1)) := by
      unfold zF_y; rw [if_neg (by omega), show 5 + (H (24 * m + i)) - 0 - 6 = (H (24 * m + i)) - 1 by omega]
    have v0 := hvv (5 + (H (24 * m + i)) - 0) (by omega)
    rw [yv, show 12 * D + (5 + (H (24 * m + i)) - 0) = 12 * D + (6 + (H (24 * m + i)) - 1) by omega] at v0
    have kv := a7 0 (by omega) (by rcases eo with eo | eo; rw [eo]; exact (show (1 : Nat) ≠ 0 by decide); rw [eo]; exact (show (2 : Nat) ≠ 0 by decide))
    rcases eo with eo | eo
    · rw [v0.1 (by rw [kv, eo]; rfl)]
    · rcases zl_refc hh (v0.2 (by rw [kv, eo]; rfl)) with ⟨q1, q2⟩ | ⟨o, c, n', h1, h2, h3, h4, h5, h6, h7, _⟩
      · rw [q1, q2]
      · rw [h2, h3]
        exact ⟨fun w => absurd w (nI_ne0 (by omega) (by omega)), fun w => absurd w (nI_ne0 (by omega) (by omega))⟩
  have hhi' : hi D = nI ((H (24 * m + i)) - 1 + 1) := by rw [hhi]; exact congrArg nI (by omega)
  have e12 : (nI (12 * D + (6 + (H (24 * m + i)) - 1))).toNatClampNeg = 12 * D + (6 + (H (24 * m + i)) - 1) := nI_clamp (by omega)
  rw [et] at x0 ya
  have yw : ∀ post : SY → Prop, kY_plain_192 post (nI D) (nI t) (sk (6 * D + ((H (24 * m + i)) - 1))) (rY us (nI (D + 1)) wu (st + 1) og 2 cl sy tc lc 10000000000 rd cd lk of fl gy mk fm (upd fp D (nI (i + 1))) (upd hi D (nI ((H (24 * m + i)) - 1))) lo sk v) → wpY_step post (rY us (nI (D + 1)) wu st og 2 cl sy tc lc 10000000000 rd cd lk of fl gy mk fm fp hi lo sk v) := by
    intro post hp
    rcases eo with eo | eo
    · refine yd_9 hD hm hi2 e1 e2 (by rw [yo, eo]; rfl) ya (yp1 (o := 9) (by decide) (fun w => absurd w (by decide)) rfl (yr_pop hD (by omega) hhi' (uY_plain_17 ?_)))
      repeat (first | exact hp | refine br_t (by decide) ?_ | refine br_f (by decide) ?_)
    · refine yd_10 hD hm hi2 e1 e2 (by rw [yo, eo]; rfl) ya (yp1 (o := 10) (by decide) (fun w => absurd w (by decide)) rfl (yr_pop hD (by omega) hhi' (uY_plain_17 ?_)))
      repeat (first | exact hp | refine br_t (by decide) ?_ | refine br_f (by decide) ?_)
  by_cases z : ce (12 * D + (6 + (H (24 * m + i)) - 1)) = 0
  · have hS : zS u v H R K (rX he (nI (D + 1)) wu (-1) 2 10000000000 (-1) dn cl sy tc lc rd co cc ca hp np gx fm (upd fp D (nI t)) ce u) (rY us (nI (D + 1)) wu (st + 1) og 2 cl sy tc lc 10000000000 rd cd lk of fl gy mk fm (upd fp D (nI t)) (upd hi D (nI ((H (24 * m + i)) - 1))) lo sk v) (st + 1) := zS_pop hb hc hh hF hn go eQ (by omega) (by omega) (by omega) a3 (by rw [eP]; exact pk_us) (fun j hj => pk_un (by omega))
    refine ⟨_, _, ?_, ?_, Or.inl hS⟩
    · refine zX_done (fun post hp => xd_27 hD hm hi2 (by omega) e1 e2 x0.1 x0.2.1 x0.2.2 (upX_branch ⟨vp_in_nI (by omega) (by decide), ?_⟩)) rfl
      rw [rX_cells, e12]
      exact br_t z (xr_goto hD hp)
    · intro post hp
      refine yw post (uY_plain_192 (br_t (zz.mp z) ⟨vp_in_nI (by omega) (by decide), nm_e ?_⟩))
      rw [rY_at, nI_clamp (by omega), rY__at, zu_uu]; exact hp
  · have hS : zS u v H R K (rX he (nI (D + 1)) wu (-1) 2 10000000000 (-1) dn cl sy tc lc rd co cc ca hp np gx fm (upd fp D (nI (i + 1))) ce u) (rY us (nI (D + 1)) wu (st + 1) og 2 cl sy tc lc 10000000000 rd cd lk of fl gy mk fm (upd fp D (nI (i + 1))) (upd hi D (nI ((H (24 * m + i)) - 1))) lo sk v) (st + 1) := zS_pop hb hc hh hF hn go2 eQ (by omega) (by omega) (by omega) a3 (by rw [eP]; exact pk_us) (fun j hj => pk_un (by omega))
    refine ⟨_, _, ?_, ?_, Or.inl hS⟩
    · refine zX_done (fun post hp => xd_27 hD hm hi2 (by omega) e1 e2 x0.1 x0.2.1 x0.2.2 (upX_branch ⟨vp_in_nI (by omega) (by decide), ?_⟩)) rfl
      rw [rX_cells, e12]
      exact br_f z (xr_adv hD e2 hp)
    · intro post hp
      exact yw post (uY_plain_192 (br_f (fun w => z (zz.mpr w)) hp))
end
