/-! the owed statement for run -/
section
variable {u : SX} {v : SY} {he fr wu wa ou lg dn cl sy tc lc us st og an : Int32} {re : Int64} {rd co cc ca hp np gx fm fp ce cd lk of fl gy mk hi lo sk : Nat → Int32}
variable {H : Nat → Nat} {R : Nat → Prop} {K : Nat → Nat → Nat} {p : Nat → Nat} {l : List Nat}
theorem run_body (hs : zR_s u v) (hb : zR_b u H R K) (ef : gX_faultPlace u = gY_fault v) (hc : zR_c1 (gX_ops u) (gX_operands u) (gX_lengths u) co cc ca cd lk H R) (hh : zR_h1 (gX_superOf u) (gX_fieldCount u) (gX_refFields u) of fl hp gx gy he us p l) {k m g h : Nat} (m8 : m < 8) (hl : gX_lengths u m ≠ 0) (g4 : g < 4) (h4 : h < 4) {x : Int32} :
  ∃ r s' t', (∀ post : Int32 → SX → Prop, post r s' → wpX_takeFromOutside (fun u1 => (wpX_enterWanted (fun u2 => (∃ n67 : Nat , kX_run_67 post n67 0 u2)) u1)) (rX he 0 0 wa 2 10000000000 (-1) dn cl sy tc lc rd co cc ca hp np gx fm fp ce u) (nI m) (nI g) (nI h) x) ∧
    (∀ post : Int32 → SY → Prop, post r t' → wpY_enter (fun r_48 u1 => (vp_in (nI g) 4 ∧ (∀ x5_91 : Int32 , x5_91 = (gY_globals u1) (nI g).toNatClampNeg → (((2 ≤ nI m → (kY_run_86 post (nI m) (nI h) x x5_91 0 u1)) ∧ (¬ 2 ≤ nI m → (kY_run_86 post (nI m) (nI h) x x 0 u1))))))) (rY us 0 0 0 og 2 cl sy tc lc 10000000000 rd cd lk of fl gy mk fm fp hi lo sk v) (nI m)) ∧ i_Rel k s' t' := by
  obtain ⟨n, n0, n24, el, r0, h0, kin, ⟨w, w9, w15, hw⟩, _⟩ := hb m m8 hl
  obtain ⟨tc', co', cc', ca', cd', hc', c1, cm, eX, eY⟩ := enter_both (re := 10000000000) (he := he) (wu := 0) (ou := 2) (lg := -1) (dn := dn) (cl := cl) (sy := sy) (tc := tc) (lc := lc) (us := us) (st := 0) (og := og) (an := 2) (rd := rd) (hp := hp) (np := np) (gx := gx) (fm := fm) (fp := fp) (ce := upd (upd ce 0 (if bt (nI (zt_tr m)) 0 then gx g else x)) 1 (if bt (nI (zt_tr m)) 1 then gx h else x)) (of := of) (fl := fl) (gy := gy) (mk := mk) (hi := hi) (lo := lo) (sk := sk) (D := 0) hs hb hc (by omega) m8 hl
  have args := run_args (x := x) (lo := lo) (ce := ce) m8 hh.2.2.2 g4 h4
  have ew : (0 : Int32) + gX_frameWords u m = nI w := by rw [hw, Int32.zero_add]
  have le : nI w ≤ 120 := nI_le (b := 120) (by omega) (by decide)
  have es : zF_w (gX_frameWords u) (upd fm 0 (nI m)) (0 + 1) = w := by
    show 0 + (gX_frameWords u (upd fm 0 (nI m) 0).toNatClampNeg).toNatClampNeg = w
    rw [pk_us, nI_clamp (by omega), hw, nI_clamp (by omega)]; omega
  have hz : zF u H R K p l (nI w) cd' (upd fm 0 (nI m)) (upd fp 0 0) (upd (upd ce 0 (if bt (nI (zt_tr m)) 0 then gx g else x)) 1 (if bt (nI (zt_tr m)) 1 then gx h else x)) (upd hi 0 0) (upd (upd lo 0 (if m < 2 then x else gy g)) 1 (if m = 7 then gy h else x)) sk 0 m 0 := by
    refine ⟨⟨m8, by omega, pk_us, pk_us, hl, r0, c1⟩, ?_, fun e he => ?_, fun j hj => absurd hj (by omega), by rw [es], by rw [es]; omega⟩
    · rw [pk_us]
      show (0 : Int32) = nI (H (24 * m))
      rw [h0]; rfl
    · have he : e < 6 := by
        have : H (24 * m + 0) = 0 := h0
        omega
      have a := args e he
      have y0 : zF_y (upd (upd lo 0 (if m < 2 then x else gy g)) 1 (if m = 7 then gy h else x)) sk 0 e = upd (upd lo 0 (if m < 2 then x else gy g)) 1 (if m = 7 then gy h else x) e := by
        unfold zF_y
        rw [if_pos he, show 6 * 0 + e = e by omega]
      rw [y0, show 12 * 0 + e = e by omega]
      refine ⟨fun w => a.1 ?_, fun w => a.2 ?_⟩
      · rw [← kin e he (Or.inl w)]; exact w
      · rw [← kin e he (Or.inr w)]; exact w
  obtain ⟨r, s', t', hX, hY, hR⟩ := run_loop (k := k) hs hb ef 1000 0 _ _ rfl (Or.inl ⟨p, l, 0, m, 0, he, nI w, dn, cl, sy, tc', lc, us, og, rd, co', cc', ca', hp, np, gx, _, _, _, cd', lk, of, fl, gy, mk, _, _, sk, rfl, rfl, hc', hh, hz⟩)
  have vm : vp_in (nI m) 8 := vp_in_nI m8 (by decide)
  have cm' : (nI m).toNatClampNeg = m := nI_clamp (by omega)
  refine ⟨r, s', t', fun post hpp => x_take m8 g4 h4 (eX _ (uX_enterWanted_23 ⟨vm, ?_⟩)), fun post hpp => eY _ ?_, hR⟩
  · rw [rX_frameWordsUsed, rX_frameWords, rX_frames, rX_frameMethod, rX_framePlace, cm', show (nI 0).toNatClampNeg = 0 from rfl, nI_1, ew]
    have v0 : vp_in (nI 0) 14 := vp_in_nI (by decide) (by decide)
    refine br_t le ⟨vm, nm_e ⟨v0, nm_e ⟨v0, nm_e (nm_e ⟨1001, ?_⟩)⟩⟩⟩
    rw [rX__frames_frameWordsUsed_frameMethod_framePlace]
    exact hX post hpp
  · rw [ew]
    refine br_t le ⟨vp_in_nI g4 (by decide), nm_e ?_⟩
    have k86 : ∀ z0 : Int32, z0 = (if m < 2 then x else gy g) → kY_run_86 post (nI m) (nI h) x z0 0 (rY us (nI (0 + 1)) (nI w) 0 og 2 cl sy tc' lc 10000000000 rd cd' lk of fl gy mk (upd fm 0 (nI m)) (upd fp 0 0) (upd hi 0 0) lo sk v) := by
      intro z0 ez
      subst ez
      refine uY_run_86 ⟨vp_in_iff.mpr (by decide), ?_⟩
      rw [rY_locals, rY_globals, nI_clamp (n := h) (by omega), show (0 : Int32).toNatClampNeg = 0 from rfl]
      refine nm_e ?_
      have hY' := hY post hpp
      by_cases w7 : m = 7
      · refine br_t (by rw [w7]; rfl) ⟨vp_in_nI h4 (by decide), nm_e ⟨1001, ?_⟩⟩
        rw [rY__locals]
        rw [if_pos w7] at hY'
        exact hY'
      · refine br_f (fun z => w7 ((nI_eq (b := 7) (by omega) (by decide)).mp z)) (nm_e ⟨1001, ?_⟩)
        rw [rY__locals]
        rw [if_neg w7] at hY'
        exact hY'
    rw [rY_globals, nI_clamp (n := g) (by omega)]
    by_cases w2 : m < 2
    · exact br_f (nI_ge (b := 2) w2 (by decide)) (k86 _ (by rw [if_pos w2]))
    · exact br_t (nI_le (a := 2) (by omega) (by omega)) (k86 _ (by rw [if_neg w2]))
end
theorem i_vc_run {k : Nat} {u : SX} {v : SY} (I : i_Rel k u v) (hk : k + 5 ≤ 2560) (v1 : Int32) (v2 : Int32) (v3 : Int32) (v4 : Int32) : wpX_run (fun r u' => wpY_run (fun r' v' => r' = r ∧ i_Rel (k + 5) u' v') v v1 v2 v3 v4) u v1 v2 v3 v4 := by
  obtain ⟨H, R, K, p, l, hs, hb, hc, hh, hn, ht⟩ := id I
  have lens := zR_len hs
  have eL : gY_length v = gX_lengths u := hs.1.2.2.2.2.2.1.symm
  by_cases b1 : zr_bd (gX_lengths u) v1
  · by_cases b2 : zg_is v2
    · by_cases b3 : zg_is v3
      · obtain ⟨m, m8, e1, hl⟩ := id b1
        obtain ⟨g, g4, e2⟩ := id b2
        obtain ⟨h, h4, e3⟩ := id b3
        subst e1 e2 e3
        obtain ⟨n1, n2, n3, n4, n5, n6, n7, n8, n9⟩ := hn
        obtain ⟨r, s', t', hX, hY, hR⟩ := run_body (k := k + 5) (wa := gX_wanted u) (dn := gX_done u) (cl := gX_collections u) (sy := gX_stayed u) (tc := gX_turnedCount u) (lc := gX_linkedCount u) (og := gY_origin v) (rd := gX_ready u) (np := gX_newPlaces u) (fm := gX_frameMethod u) (fp := gX_framePlace u) (ce := gX_cells u) (mk := gY_marked v) (hi := gY_high v) (lo := gY_locals v) (sk := gY_stack v) hs hb ht.2.1 hc hh m8 hl g4 h4 (x := v4)
        refine upX_run (x_hasBody lens.1 ?_)
        rw [zp_t b1]
        refine br_f (by decide) (x_isGlobal ?_)
        rw [zp_t b2]
        refine br_f (by decide) (x_isGlobal ?_)
        rw [zp_t b3]
        refine br_f (by decide) ?_
        refine hX _ (upY_run (y_isBody lens.2 ?_))
        rw [eL, zp_t b1]
        refine br_f (by decide) (y_inG ?_)
        rw [zp_t b2]
        refine br_f (by decide) (y_inG ?_)
        rw [zp_t b3]
        refine br_f (by decide) ?_
        have hY' := hY (fun r' v' => r' = r ∧ i_Rel (k + 5) s' v') ⟨rfl, hR⟩
        rw [n1, n2, n3, n5, n6, n7, n8] at hY'
        exact hY'
      · refine upX_run (x_hasBody lens.1 ?_)
        rw [zp_t b1]
        refine br_f (by decide) (x_isGlobal ?_)
        rw [zp_t b2]
        refine br_f (by decide) (x_isGlobal ?_)
        rw [zp_f b3]
        refine br_t rfl (upY_run (y_isBody lens.2 ?_))
        rw [eL, zp_t b1]
        refine br_f (by decide) (y_inG ?_)
        rw [zp_t b2]
        refine br_f (by decide) (y_inG ?_)
        rw [zp_f b3]
        exact br_t rfl ⟨rfl, I⟩
    · refine upX_run (x_hasBody lens.1 ?_)
      rw [zp_t b1]
      refine br_f (by decide) (x_isGlobal ?_)
      rw [zp_f b2]
      refine br_t rfl (upY_run (y_isBody lens.2 ?_))
      rw [eL, zp_t b1]
      refine br_f (by decide) (y_inG ?_)
      rw [zp_f b2]
      exact br_t rfl ⟨rfl, I⟩
  · refine upX_run (x_hasBody lens.1 ?_)
    rw [zp_f b1]
    refine br_t rfl (upY_run (y_isBody lens.2 ?_))
    rw [eL, zp_f b1]
    exact br_t rfl ⟨rfl, I⟩
