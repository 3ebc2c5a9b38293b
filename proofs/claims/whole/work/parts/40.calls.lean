/-! CALL, SEND, GIVE -/
section
variable {u : SX} {v : SY} {he fr wu wa ou lg dn cl sy tc lc us st og an : Int32} {re : Int64} {rd co cc ca hp np gx fm fp ce cd lk of fl gy mk hi lo sk : Nat → Int32}
variable {H : Nat → Nat} {R : Nat → Prop} {K : Nat → Nat → Nat} {p : Nat → Nat} {l : List Nat}
/-- a frame more -/
theorem zF_call (hb : zR_b u H R K) {D m i m' w : Nat} (hF : zF u H R K p l wu cd fm fp ce hi lo sk D m i) (hm' : m' < 8) (hl' : gX_lengths u m' ≠ 0) (hw : gX_frameWords u m' = nI w) (w15 : w ≤ 15) (hop : (zw_op (gX_ops u) (24 * m + i)) = 12 ∨ (zw_op (gX_ops u) (24 * m + i)) = 16 ∨ (zw_op (gX_ops u) (24 * m + i)) = 17) (hg : (zw_op (gX_ops u) (24 * m + i)) ≠ 12 → zk_pk (gX_refFields u) (zw_op (gX_ops u) (24 * m + i)) (gX_operands u (24 * m + i)) = if 4 ≤ m' ∧ m' ≤ 6 then 2 else 1)
  (room : zF_w (gX_frameWords u) fm (D + 1) + w ≤ 120) {cd' hi' lo' ce' : Nat → Int32} (c1 : cd' m' = 1) (cm : ∀ q, q < 8 → cd q = 1 → cd' q = 1) (h1 : hi' D = nI ((H (24 * m + i)) - (zw_P (gX_ops u) (gX_operands u) (24 * m + i)))) (h2 : hi' (D + 1) = 0) (h3 : ∀ j, j < D → hi' j = hi j) (k1 : ∀ k, k < 6 * (D + 1) → lo' k = lo k) (k2 : ∀ k, k < 12 * (D + 1) → ce' k = ce k)
  (args : ∀ e, e < zt_takes m' → zl_val p l (zy_in m' e) (lo' (6 * (D + 1) + e)) (ce' (12 * (D + 1) + e))) :
  zF u H R K p l (nI (zF_w (gX_frameWords u) fm (D + 1) + w)) cd' (upd fm (D + 1) (nI m')) (upd fp (D + 1) 0) ce' hi' lo' sk (D + 1) m' 0 := by
  obtain ⟨⟨f1, f2, f3, f4, f5, f6, f7⟩, g2, g3, g4, g5, g6⟩ := id hF
  obtain ⟨n, n0, n24, el, r0, h0, kin, _⟩ := hb m' hm' hl'
  have hH := zF_H6 hb hF.1
  have es : zF_w (gX_frameWords u) (upd fm (D + 1) (nI m')) (D + 1 + 1) = zF_w (gX_frameWords u) fm (D + 1) + w := by
    show zF_w _ _ (D + 1) + _ = _
    rw [pk_us, nI_clamp (by omega), hw, nI_clamp (by omega), zF_wc (fm := fm) (D + 1) (fun j hj => pk_un (by omega))]
  have low : ∀ j, j < D + 1 → ∀ k e, e < 12 → zl_val p l k (zF_y lo sk j e) (ce (12 * j + e)) → zl_val p l k (zF_y lo' sk j e) (ce' (12 * j + e)) := by
    intro j hj k e he w
    rw [zF_yk (D := D + 1) k1 (fun _ _ => rfl) hj he, k2 _ (by omega)]
    exact w
  refine ⟨⟨hm', by omega, pk_us, pk_us, hl', r0, c1⟩, by rw [h2]; show (0 : Int32) = nI (H (24 * m')); rw [h0]; rfl, ?_, ?_, by rw [es], by rw [es]; exact room⟩
  · intro e he
    have he : e < 6 := by
      have : H (24 * m' + 0) = 0 := h0
      omega
    unfold zF_y
    rw [if_pos he]
    have fin : ∀ k, K (24 * m' + 0) e = k → (k = 1 ∨ k = 2) → zl_val p l k (lo' (6 * (D + 1) + e)) (ce' (12 * (D + 1) + e)) := by
      intro k ek hk
      have := kin e he (by rw [← ek] at hk; exact hk)
      have et : e < zt_takes m' := by
        apply Classical.byContradiction
        intro q
        have z : zy_in m' e = 4 := by unfold zy_in; rw [if_pos (by omega)]
        have ek : K (24 * m') e = k := ek
        omega
      have := args e et
      rw [← kin e he (by rw [← ek] at hk; exact hk)] at this
      have ek : K (24 * m') e = k := ek
      rw [ek] at this
      exact this
    exact ⟨fun w => (fin 1 w (Or.inl rfl)).1 rfl, fun w => (fin 2 w (Or.inr rfl)).2 rfl⟩
  · intro j hj
    by_cases e : j = D
    · subst e
      refine ⟨m, i, ⟨f1, f2, (pk_un (by omega)).trans f3, (pk_un (by omega)).trans f4, f5, f6, cm m f1 f7⟩, h1, fun e he => low _ (by omega) _ e (by omega) (g3 e (by omega)), hop, fun ne q hq eq => ?_⟩
      rw [pk_us] at eq
      have := (nI_eq (by omega) (by omega)).mp eq
      subst this
      exact hg ne
    · exact zF_lk (g4 j (by omega)) (pk_un (by omega)) (pk_un (by omega)) (pk_un (by omega)) (h3 j (by omega)) cm (fun m i q => zF_H6 hb q) (low j (by omega))
theorem zF_Gx (hb : zR_b u H R K) {D m i : Nat} (hF : zF u H R K p l wu cd fm fp ce hi lo sk D m i) {cd' ce' hi' : Nat → Int32} (cm : ∀ q, q < 8 → cd q = 1 → cd' q = 1) (k2 : ∀ k, k < 12 * (D + 1) → ce' k = ce k) (h3 : ∀ j, j < D → hi' j = hi j) : zG u H R K p l cd' fm fp ce' hi' lo sk D m i := by
  obtain ⟨⟨f1, f2, f3, f4, f5, f6, f7⟩, g2, g3, g4, g5, g6⟩ := id hF
  refine ⟨⟨f1, f2, f3, f4, f5, f6, cm m f1 f7⟩, fun e he => ?_, fun j hj => zF_lk (g4 j hj) rfl rfl rfl (h3 j hj) cm (fun m i q => zF_H6 hb q) (fun k e he w => ?_), g6⟩
  · have := g3 e (by omega)
    unfold zF_y at this
    rw [if_pos he] at this
    rw [k2 _ (by omega)]
    exact this
  · rw [k2 _ (by omega)]; exact w
/-- T values copied from g, from c on, to b -/
def zO (f g : Nat → Int32) (b c T k : Nat) : Int32 := if b ≤ k ∧ k < b + T then g (c + (k - b)) else f k
theorem zO_s {f g : Nat → Int32} {b c i : Nat} : upd (zO f g b c i) (b + i) (g (c + i)) = zO f g b c (i + 1) := by
  funext k
  unfold upd zO
  by_cases e : k = b + i
  · rw [if_pos e, if_pos (by omega), e, show c + (b + i - b) = c + i by omega]
  · rw [if_neg e]
    by_cases q : b ≤ k ∧ k < b + i
    · rw [if_pos q, if_pos (by omega)]
    · rw [if_neg q, if_neg (by omega)]
theorem zO_0 {f g : Nat → Int32} {b c : Nat} : zO f g b c 0 = f := by funext k; unfold zO; rw [if_neg (by omega)]
theorem zO_l {f g : Nat → Int32} {b c T k : Nat} (h : k < b) : zO f g b c T k = f k := by unfold zO; rw [if_neg (by omega)]
theorem zO_n {f g : Nat → Int32} {b c T e : Nat} (h : e < T) : zO f g b c T (b + e) = g (c + e) := by unfold zO; rw [if_pos (by omega), show b + e - b = e by omega]
theorem x_hand {post : SX → Prop} {D c T : Nat} {mm : Int32} (hD : D ≤ 12) (hT : T ≤ 2) (hc2 : c + T ≤ 12 * (D + 1)) (hq : post (rX he (nI (D + 1)) wu mm ou re lg dn cl sy tc lc rd co cc ca hp np gx fm fp (zO ce ce (12 * (D + 1)) c T) u)) :
  ∀ d i, i + d = T → kX_handOver_8 post (nI c) mm (nI T) (d + 1) (nI i) (rX he (nI (D + 1)) wu wa ou re lg dn cl sy tc lc rd co cc ca hp np gx fm fp (zO ce ce (12 * (D + 1)) c i) u) := by
  intro d
  induction d with
  | zero =>
    intro i hi
    have : i = T := by omega
    subst this
    refine uX_handOver_8 (br_t (nI_le (by omega) (by omega)) ?_)
    rw [rX__wanted]; exact hq
  | succ d ih =>
    intro i hi
    have e12 : nI (D + 1) * 12 + nI i = nI (12 * (D + 1) + i) := by rw [show (12 : Int32) = nI 12 from rfl, pk_mul, nI_add, Nat.mul_comm]
    refine uX_handOver_8 (br_f (nI_ge (by omega) (by omega)) ?_)
    rw [rX_frames, rX_cells, e12, nI_add, nI_1, nI_clamp (n := 12 * (D + 1) + i) (by omega), nI_clamp (n := c + i) (by omega)]
    refine ⟨vp_in_nI (by omega) (by decide), vp_in_nI (by omega) (by decide), nm_e (nm_e ?_)⟩
    rw [rX__cells, zO_l (k := c + i) (by omega), zO_s]
    exact ih (i + 1) (by omega)
theorem y_hand {post : SY → Prop} {D h T : Nat} (hD : D ≤ 12) (hT : h + T ≤ 6) (eh : hi D = nI h) (hq : post (rY us fr wu st og an cl sy tc lc re rd cd lk of fl gy mk fm fp hi (zO lo sk (6 * (D + 1)) (6 * D + h) T) sk v)) :
  ∀ d i, i + d = T → kY_call_43 post (nI D) (nI T) (d + 1) (nI i) (rY us fr wu st og an cl sy tc lc re rd cd lk of fl gy mk fm fp hi (zO lo sk (6 * (D + 1)) (6 * D + h) i) sk v) := by
  intro d
  induction d with
  | zero =>
    intro i hi2
    have : i = T := by omega
    subst this
    exact uY_call_43 (br_t (nI_le (by omega) (by omega)) hq)
  | succ d ih =>
    intro i hi2
    have e6 : (6 : Int32) * nI D + 6 + nI i = nI (6 * (D + 1) + i) := by rw [show (6 : Int32) = nI 6 from rfl, pk_mul, nI_add, nI_add]; exact congrArg nI (by omega)
    have e6' : (6 : Int32) * nI D + nI h + nI i = nI (6 * D + h + i) := by rw [show (6 : Int32) = nI 6 from rfl, pk_mul, nI_add, nI_add]
    refine uY_call_43 (br_f (nI_ge (by omega) (by omega)) ⟨vp_in_nI (by omega) (by decide), ?_⟩)
    rw [rY_high, rY_locals, rY_stack, nI_clamp (n := D) (by omega), eh, e6, e6', nI_1, nI_clamp (n := 6 * (D + 1) + i) (by omega), nI_clamp (n := 6 * D + h + i) (by omega)]
    refine ⟨vp_in_nI (by omega) (by decide), vp_in_nI (by omega) (by decide), nm_e (nm_e ?_)⟩
    rw [rY__locals, zO_s]
    exact ih (i + 1) (by omega)
theorem zt_takes2 (m : Nat) : zt_takes m ≤ 2 := by unfold zt_takes; split; decide; split <;> decide
/-- both call m' -/
theorem call_both (hs : zR_s u v) (hb : zR_b u H R K) (hc : zR_c1 (gX_ops u) (gX_operands u) (gX_lengths u) co cc ca cd lk H R) (hh : zR_h1 (gX_superOf u) (gX_fieldCount u) (gX_refFields u) of fl hp gx gy he us p l) {D m i : Nat} (hF : zF u H R K p l wu cd fm fp ce hi lo sk D m i) {m' : Nat} (hm' : m' < 8) (hl' : gX_lengths u m' ≠ 0) (eT : zt_takes m' = (zw_P (gX_ops u) (gX_operands u) (24 * m + i))) (hop : (zw_op (gX_ops u) (24 * m + i)) = 16 ∨ (zw_op (gX_ops u) (24 * m + i)) = 17) (hg : zk_pk (gX_refFields u) (zw_op (gX_ops u) (24 * m + i)) (gX_operands u (24 * m + i)) = if 4 ≤ m' ∧ m' ≤ 6 then 2 else 1)
  (hk : ∀ e, e < (zw_P (gX_ops u) (gX_operands u) (24 * m + i)) → K (24 * m + i) (6 + (H (24 * m + i)) - (zw_P (gX_ops u) (gX_operands u) (24 * m + i)) + e) = zy_in m' e) :
  ∃ s' t', (∀ post : SX → Prop, post s' → wpX_handOver (fun u1 => ((gX_wanted u1 = -1 → post u1) ∧ (¬ gX_wanted u1 = -1 → wpX_enterWanted (fun u2 => post u2) u1))) (rX he (nI (D + 1)) wu (-1) 2 10000000000 (-1) dn cl sy tc lc rd co cc ca hp np gx fm fp ce u) (nI (12 * D + (6 + (H (24 * m + i)) - (zw_P (gX_ops u) (gX_operands u) (24 * m + i))))) (nI m')) ∧ (∀ post : SY → Prop, post t' → wpY_call post (rY us (nI (D + 1)) wu st og 2 cl sy tc lc 10000000000 rd cd lk of fl gy mk fm fp hi lo sk v) (nI m')) ∧ (zS u v H R K s' t' st ∨ zE u v H R s' t' st) := by
  obtain ⟨hD, hm, hi2, e1, e2, ⟨n, hn, hin, el, at_⟩, xc, yo, o24, ya⟩ := zS_top hs hb hc hF
  obtain ⟨a1, a2, a3, a4, a5, a6, a7, a8, a9, a10, a11, a12, a13⟩ := at_
  have hhi := hF.2.1
  have hvv := hF.2.2.1
  have T2 := zt_takes2 m'
  rw [eT] at T2
  obtain ⟨n', n0, n24, el', r0, h0, kin, ⟨w, w9, w15, hw⟩, _⟩ := hb m' hm' hl'
  obtain ⟨tc', co', cc', ca', cd', hc', c1, cm, eX, eY⟩ := enter_both (re := 10000000000) (he := he) (wu := wu) (ou := 2) (lg := -1) (dn := dn) (cl := cl) (sy := sy) (tc := tc) (lc := lc) (us := us) (st := st) (og := og) (an := 2) (rd := rd) (hp := hp) (np := np) (gx := gx) (fm := fm) (fp := fp) (ce := zO ce ce (12 * (D + 1)) (12 * D + (6 + (H (24 * m + i)) - (zw_P (gX_ops u) (gX_operands u) (24 * m + i)))) (zw_P (gX_ops u) (gX_operands u) (24 * m + i))) (of := of) (fl := fl) (gy := gy) (mk := mk) (hi := hi) (lo := lo) (sk := sk) (D := D + 1) hs hb hc (by omega) hm' hl'
  have vm : vp_in (nI m') 8 := vp_in_nI hm' (by decide)
  have cm' : (nI m').toNatClampNeg = m' := nI_clamp (by omega)
  have vD : vp_in (nI (D + 1)) 14 := vp_in_nI (by omega) (by decide)
  have cD : (nI (D + 1)).toNatClampNeg = D + 1 := nI_clamp (by omega)
  have ew := hF.2.2.2.2.1
  have room120 := hF.2.2.2.2.2
  have ewu : wu + gX_frameWords u m' = nI (zF_w (gX_frameWords u) fm (D + 1) + w) := by rw [ew, hw, nI_add]
  have kv : ∀ e, e < (zw_P (gX_ops u) (gX_operands u) (24 * m + i)) → zl_val p l (zy_in m' e) (sk (6 * D + ((H (24 * m + i)) - (zw_P (gX_ops u) (gX_operands u) (24 * m + i))) + e)) (ce (12 * D + (6 + (H (24 * m + i)) - (zw_P (gX_ops u) (gX_operands u) (24 * m + i))) + e)) := by
    intro e he
    have := hvv (6 + (H (24 * m + i)) - (zw_P (gX_ops u) (gX_operands u) (24 * m + i)) + e) (by omega)
    rw [hk e he] at this
    unfold zF_y at this
    rw [if_neg (by omega), show 6 * D + (6 + (H (24 * m + i)) - (zw_P (gX_ops u) (gX_operands u) (24 * m + i)) + e - 6) = 6 * D + ((H (24 * m + i)) - (zw_P (gX_ops u) (gX_operands u) (24 * m + i))) + e by omega, show 12 * D + (6 + (H (24 * m + i)) - (zw_P (gX_ops u) (gX_operands u) (24 * m + i)) + e) = 12 * D + (6 + (H (24 * m + i)) - (zw_P (gX_ops u) (gX_operands u) (24 * m + i))) + e by omega] at this
    exact this
  have xw : ∀ (post : SX → Prop), kX_enterWanted_23 (fun u2 => post u2) (nI m') (rX he (nI (D + 1)) wu (-1) 2 10000000000 (-1) dn cl sy tc' lc rd co' cc' ca' hp np gx fm fp (zO ce ce (12 * (D + 1)) (12 * D + (6 + (H (24 * m + i)) - (zw_P (gX_ops u) (gX_operands u) (24 * m + i)))) (zw_P (gX_ops u) (gX_operands u) (24 * m + i))) u) → wpX_handOver (fun u1 => ((gX_wanted u1 = -1 → post u1) ∧ (¬ gX_wanted u1 = -1 → wpX_enterWanted (fun u2 => post u2) u1))) (rX he (nI (D + 1)) wu (-1) 2 10000000000 (-1) dn cl sy tc lc rd co cc ca hp np gx fm fp ce u) (nI (12 * D + (6 + (H (24 * m + i)) - (zw_P (gX_ops u) (gX_operands u) (24 * m + i))))) (nI m') := by
    intro post hq
    have q := x_hand (ce := ce) (u := u) (he := he) (wu := wu) (wa := -1) (ou := 2) (lg := -1) (dn := dn) (cl := cl) (sy := sy) (tc := tc) (lc := lc) (re := 10000000000) (rd := rd) (co := co) (cc := cc) (ca := ca) (hp := hp) (np := np) (gx := gx) (fm := fm) (fp := fp) (post := (fun u1 => ((gX_wanted u1 = -1 → post u1) ∧ (¬ gX_wanted u1 = -1 → wpX_enterWanted (fun u2 => post u2) u1)))) (D := D) (c := 12 * D + (6 + (H (24 * m + i)) - (zw_P (gX_ops u) (gX_operands u) (24 * m + i)))) (T := (zw_P (gX_ops u) (gX_operands u) (24 * m + i))) (mm := nI m') hD T2 (by omega) (by
      rw [rX_wanted]
      exact br_f (zn_m1 _ (by omega)) (eX _ hq)) (zw_P (gX_ops u) (gX_operands u) (24 * m + i)) 0 (by omega)
    rw [zO_0] at q
    exact upX_handOver (xt_takes hm' (by rw [eT]; exact ⟨_, q⟩))
  by_cases room : zF_w (gX_frameWords u) fm (D + 1) + w ≤ 120
  · have le : nI (zF_w (gX_frameWords u) fm (D + 1) + w) ≤ 120 := nI_le (b := 120) room (by decide)
    have hi' : ∀ j, j < D → upd (upd hi (D + 1) 0) D (nI ((H (24 * m + i)) - (zw_P (gX_ops u) (gX_operands u) (24 * m + i)))) j = hi j := fun j hj => by rw [pk_un (by omega), pk_un (by omega)]
    have hz := zF_call (lo' := zO lo sk (6 * (D + 1)) (6 * D + ((H (24 * m + i)) - (zw_P (gX_ops u) (gX_operands u) (24 * m + i)))) (zw_P (gX_ops u) (gX_operands u) (24 * m + i))) (ce' := zO ce ce (12 * (D + 1)) (12 * D + (6 + (H (24 * m + i)) - (zw_P (gX_ops u) (gX_operands u) (24 * m + i)))) (zw_P (gX_ops u) (gX_operands u) (24 * m + i))) (hi' := upd (upd hi (D + 1) 0) D (nI ((H (24 * m + i)) - (zw_P (gX_ops u) (gX_operands u) (24 * m + i))))) hb hF hm' hl' hw w15 (by omega) (fun _ => hg) room c1 cm pk_us (by rw [pk_un (by omega), pk_us]) hi' (fun k hk => zO_l hk) (fun k hk => zO_l hk) (by
      intro e he
      rw [eT] at he
      rw [zO_n he, zO_n he]; exact kv e he)
    refine ⟨_, _, fun post hq => xw post ?_, fun post hq => ?_, Or.inl ⟨p, l, D + 1, m', 0, he, _, dn, cl, sy, tc', lc, us, og, rd, co', cc', ca', hp, np, gx, _, _, _, cd', lk, of, fl, gy, mk, _, _, sk, rfl, rfl, hc', hh, hz⟩⟩
    · refine uX_enterWanted_23 ⟨vm, ?_⟩
      rw [rX_frameWordsUsed, rX_frameWords, rX_frames, rX_frameMethod, rX_framePlace, cm', cD, nI_1, ewu]
      refine br_t le ⟨vm, nm_e ⟨vD, nm_e ⟨vD, nm_e (nm_e ?_)⟩⟩⟩
      rw [rX__frames_frameWordsUsed_frameMethod_framePlace]; exact hq
    · refine upY_call ?_
      rw [rY_depth, zn_D1]
      refine nm_e (eY _ ?_)
      rw [ewu]
      refine br_t le (br_f (by decide) (yt_takes hm' ⟨vp_in_nI (by omega) (by decide), vp_in_nI (by omega) (by decide), nm_e ?_⟩))
      rw [rY_high, nI_clamp (n := D) (by omega), pk_un (by omega), hhi, eT, pk_sub a3, rY__high]
      have q := y_hand (T := (zw_P (gX_ops u) (gX_operands u) (24 * m + i))) (h := (H (24 * m + i)) - (zw_P (gX_ops u) (gX_operands u) (24 * m + i))) (D := D) (hi := upd (upd hi (D + 1) 0) D (nI ((H (24 * m + i)) - (zw_P (gX_ops u) (gX_operands u) (24 * m + i))))) hD (by omega) pk_us hq (zw_P (gX_ops u) (gX_operands u) (24 * m + i)) 0 (by omega)
      rw [zO_0] at q
      exact ⟨_, q⟩
  · have nle : ¬ nI (zF_w (gX_frameWords u) fm (D + 1) + w) ≤ 120 := nI_ge (b := zF_w (gX_frameWords u) fm (D + 1) + w) (a := 120) (by omega) (by omega)
    obtain ⟨s', t', hX, hY, hwn, hr⟩ := raise_both (x := 5) (st := st) (og := og) (dn := dn) (cl := cl) (sy := sy) (tc := tc') (lc := lc) (np := np) (rd := rd) (mk := mk) hs hb hc' hh (zF_Gx (ce' := zO ce ce (12 * (D + 1)) (12 * D + (6 + (H (24 * m + i)) - (zw_P (gX_ops u) (gX_operands u) (24 * m + i)))) (zw_P (gX_ops u) (gX_operands u) (24 * m + i))) (hi' := hi) hb hF cm (fun k hk => zO_l hk) (fun j hj => rfl)) ew
    refine ⟨s', t', fun post hq => xw post ?_, fun post hq => ?_, hr⟩
    · refine uX_enterWanted_23 ⟨vm, ?_⟩
      rw [rX_frameWordsUsed, rX_frameWords, cm', ewu]
      exact br_f nle (hX _ hq)
    · refine upY_call ?_
      rw [rY_depth, zn_D1]
      refine nm_e (eY _ ?_)
      rw [ewu]
      exact br_f nle (br_t rfl (hY _ hq))
end
