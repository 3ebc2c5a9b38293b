/-! both sides collect -/
def za_z (f : Nat → Int32) (k i : Nat) : Int32 := if i < k then 0 else f i
theorem za_z00 {f : Nat → Int32} : za_z f 0 = f := by
  funext i; unfold za_z; rw [if_neg (by omega)]
theorem za_zz {f : Nat → Int32} {k : Nat} : upd (za_z f k) k 0 = za_z f (k + 1) := by
  funext i
  by_cases e : i = k
  · subst e; rw [pk_us]; unfold za_z; rw [if_pos (by omega)]
  · rw [pk_un e]; unfold za_z
    by_cases q : i < k
    · rw [if_pos q, if_pos (by omega)]
    · rw [if_neg q, if_neg (by omega)]
section
variable {u : SX} {v : SY} {he fr wu wa ou lg dn cl sy tc lc us st og an : Int32} {re : Int64} {rd co cc ca hp np gx fm fp ce cd lk of fl gy mk hi lo sk : Nat → Int32}
variable {H : Nat → Nat} {R : Nat → Prop} {K : Nat → Nat → Nat} {p : Nat → Nat} {l : List Nat}
theorem xg_12 {post : SX → Prop} (hpp : wpX_markRoots (fun u1 => (wpX_markFields (fun u2 => (wpX_choosePlaces (fun u3 => (wpX_moveRoots (fun u4 => (wpX_moveObjects (fun u5 => (post u5)) u4)) u3)) u2)) u1)) (rX he fr wu wa ou re lg dn cl sy tc lc rd co cc ca hp (za_z np 49) gx fm fp ce u)) : ∀ d k, k + d = 49 → kX_collect_12 post (d + 1) (nI k) (rX he fr wu wa ou re lg dn cl sy tc lc rd co cc ca hp (za_z np k) gx fm fp ce u) := by
  intro d
  induction d with
  | zero =>
    intro k h
    have : k = 49 := by omega
    subst this
    exact uX_collect_12 (br_t (by decide) hpp)
  | succ d ih =>
    intro k h
    refine uX_collect_12 (br_f (nI_ge (b := 49) (by omega) (by decide)) ⟨vp_in_nI (by omega) (by decide), ?_⟩)
    rw [rX_newPlaces, nI_clamp (n := k) (by omega), za_zz]
    refine nm_e (nm_r (nI_1 k) ?_)
    rw [rX__newPlaces]; exact ih (k + 1) (by omega)
theorem x_collect {e0 : Nat} (hm : za_H (gX_superOf u) (gX_fieldCount u) (gX_refFields u) of fl hp p l e0) {D : Nat} (hD : D ≤ 12) (hfr : zq_F fm fp D) {Rt : Nat → Prop} (hRt : ∀ o, Rt o → o ∈ l) (e1 : 1 ≤ e0) (hg : ∀ g, g < 4 → ∃ o, (o = 0 ∨ (o ∈ l ∧ Rt o)) ∧ gx g = nI (p o)) (hq : ∀ k, k < 12 * (D + 1) → zq_b (gX_refMaps u) cc fm fp k = true → ∃ o, (o = 0 ∨ (o ∈ l ∧ Rt o)) ∧ ce k = nI (p o))
  (cov : ∀ o, Rt o → (∃ g, g < 4 ∧ gx g = nI (p o)) ∨ ∃ k, k < 12 * (D + 1) ∧ zq_b (gX_refMaps u) cc fm fp k = true ∧ ce k = nI (p o)) {b : Nat → Bool} (hb : ∀ o, b o = true ↔ za_R Rt (za_E (gX_fieldCount u) (gX_refFields u) of fl) o) :
  ∃ np' hp', np' 0 = 0 ∧ (∀ o, o ∈ l → np' (p o) = if b o then nI (za_pl b (zl_sz (gX_fieldCount u) of) l 1 o) else 0) ∧ (∀ o, o ∈ l → b o = true → za_mo (gX_fieldCount u) (gX_refFields u) of hp np' hp' p (za_pl b (zl_sz (gX_fieldCount u) of) l 1) o) ∧
    ∀ post : SX → Prop, post (rX (nI (1 + za_s (zl_sz (gX_fieldCount u) of) (l.filter b))) (nI (D + 1)) wu wa ou re lg dn (cl + 1) (sy + nI (l.filter b).length) tc lc rd co cc ca hp' np' (za_mv np' gx (fun _ => true) 4) fm fp (za_mv np' ce (zq_b (gX_refMaps u) cc fm fp) (12 * (D + 1))) u) → wpX_collect post (rX (nI e0) (nI (D + 1)) wu wa ou re lg dn cl sy tc lc rd co cc ca hp np gx fm fp ce u) := by
  have up : ∀ o, (o = 0 ∨ (o ∈ l ∧ Rt o)) → (o = 0 ∨ (o ∈ l ∧ za_R Rt (za_E (gX_fieldCount u) (gX_refFields u) of fl) o)) := fun o w => w.elim Or.inl (fun w => Or.inr ⟨w.1, za_R0 w.2⟩)
  have pv : ∀ o, (o = 0 ∨ (o ∈ l ∧ Rt o)) → vp_in (nI (p o)) 49 := fun o w => by
    rcases w with rfl | w
    · rw [hm.2.1]; exact vp_in_iff.mpr (by decide)
    · exact vp_in_nI (by have := (za_p1 hm w.1).2.2.2; omega) (by decide)
  have nd := hm.1.1
  have S0 : zx_S (za_R Rt (za_E (gX_fieldCount u) (gX_refFields u) of fl)) p l (za_z np 49) := fun o ol w => by
    have := (za_p1 hm ol).2.2.2
    unfold za_z at w
    rw [if_pos (by omega)] at w
    exact absurd rfl w
  obtain ⟨np1, S1, g1, q1, w1⟩ := xg_roots (he := nI e0) (wu := wu) (wa := wa) (ou := ou) (lg := lg) (dn := dn) (cl := cl + 1) (sy := sy) (tc := tc) (lc := lc) (re := re) (rd := rd) (co := co) (cc := cc) (ca := ca) (hp := hp) (np := za_z np 49) (gx := gx) (fm := fm) (fp := fp) (ce := ce) hm hD hfr (fun g h => by
    obtain ⟨o, a, b⟩ := hg g h
    exact ⟨o, up o a, b⟩) (fun k h z => by
    obtain ⟨o, a, b⟩ := hq k h z
    exact ⟨o, up o a, b⟩) S0
  have rm : ∀ o, Rt o → np1 (p o) ≠ 0 := fun o ro => by
    have pp := (za_p1 hm (hRt o ro)).2.2.2
    rcases cov o ro with ⟨g, h, e⟩ | ⟨k, h, z, e⟩
    · have := g1 g h
      rw [e, nI_clamp (by omega)] at this
      exact this
    · have := q1 k h z
      rw [e, nI_clamp (by omega)] at this
      exact this
  obtain ⟨np2, S2, cm, w2⟩ := xg_all (fr := nI (D + 1)) (wu := wu) (wa := wa) (ou := ou) (lg := lg) (dn := dn) (cl := cl + 1) (sy := sy) (tc := tc) (lc := lc) (re := re) (rd := rd) (co := co) (cc := cc) (ca := ca) (hp := hp) (np := np1) (gx := gx) (fm := fm) (fp := fp) (ce := ce) hm hRt e1 S1 rm
  obtain ⟨np3, _, k3, w3⟩ := xg_6 (fr := nI (D + 1)) (wu := wu) (wa := wa) (ou := ou) (lg := lg) (dn := dn) (cl := cl + 1) (tc := tc) (lc := lc) (re := re) (rd := rd) (co := co) (cc := cc) (ca := ca) (hp := hp) (gx := gx) (fm := fm) (fp := fp) (ce := ce) hm (b := b) (P := za_pl b (zl_sz (gX_fieldCount u) of) l 1) l 1 0 1 np2 sy hm.2.2.2 (fun _ z => z) (by omega) (fun o ol => ⟨fun z => (hb o).mpr (S2 o ol z), fun z => cm o ((hb o).mp z)⟩) (za_atp _ _ nd)
  have hN : ∀ o, o ∈ l → upd np3 0 0 (p o) = if b o then nI (za_pl b (zl_sz (gX_fieldCount u) of) l 1 o) else 0 := fun o ol => by
    have := (za_p1 hm ol).2.2.1
    rw [pk_un (by omega)]; exact k3 o ol
  obtain ⟨hp', _, k4, w4⟩ := xo_6 (fr := nI (D + 1)) (wu := wu) (wa := wa) (ou := ou) (lg := lg) (dn := dn) (cl := cl + 1) (sy := sy + nI (l.filter b).length) (tc := tc) (lc := lc) (re := re) (rd := rd) (co := co) (cc := cc) (ca := ca) (np := upd np3 0 0) (gx := za_mv (upd np3 0 0) gx (fun _ => true) 4) (fm := fm) (fp := fp) (ce := za_mv (upd np3 0 0) ce (zq_b (gX_refMaps u) cc fm fp) (12 * (D + 1))) (hp := hp) hm hN l 1 0 1 hp hm.2.2.2 (fun _ z => z) (by omega) (by omega) (by omega) (fun _ _ => rfl) (za_atp _ _ nd)
  refine ⟨upd np3 0 0, hp', pk_us, hN, k4, fun post hpp => upX_collect ?_⟩
  rw [rX_collections]
  refine nm_e ⟨50, ?_⟩
  rw [rX__collections]
  have c := xg_12 (post := post) (he := nI e0) (fr := nI (D + 1)) (wu := wu) (wa := wa) (ou := ou) (lg := lg) (dn := dn) (cl := cl + 1) (sy := sy) (tc := tc) (lc := lc) (re := re) (rd := rd) (co := co) (cc := cc) (ca := ca) (hp := hp) (np := np) (gx := gx) (fm := fm) (fp := fp) (ce := ce) (w1 _ (w2 _ (upX_choosePlaces ⟨_, w3 _ (xh_roots hD hfr (fun g h => by
    obtain ⟨o, a, b⟩ := hg g h
    rw [b]; exact pv o a) (fun k h z => by
    obtain ⟨o, a, b⟩ := hq k h z
    rw [b]; exact pv o a) (upX_moveObjects ⟨_, w4 _ hpp⟩))⟩))) 49 0 rfl
  rw [za_z00] at c
  exact c
theorem y_collect (hs : zR_s u v) {e0 : Nat} (hm : za_H (gX_superOf u) (gX_fieldCount u) (gX_refFields u) of fl hp p l e0) {D : Nat} (hD : D ≤ 12) {qb : Nat → Bool} (hfr : ∀ j, j < D + 1 → ∃ m i h, m < 8 ∧ i < 24 ∧ h ≤ 6 ∧ fm j = nI m ∧ fp j = nI i ∧ hi j = nI h ∧ ∀ e, e < 12 → (qb (12 * j + e) = true ↔ bt (gY_maps v (24 * m + i)) e = true ∧ e < 6 + h))
  {Rt : Nat → Prop} (hRt : ∀ o, Rt o → o ∈ l) (hg : ∀ g, g < 4 → ∃ o, gy g = nI o ∧ o ≤ 48 ∧ (1 ≤ o → Rt o)) (hq : ∀ j e, j < D + 1 → e < 12 → qb (12 * j + e) = true → ∃ o, zF_y lo sk j e = nI o ∧ o ≤ 48 ∧ (1 ≤ o → Rt o))
  (cov : ∀ o, Rt o → (∃ g, g < 4 ∧ gy g = nI o) ∨ ∃ j e, j < D + 1 ∧ e < 12 ∧ qb (12 * j + e) = true ∧ zF_y lo sk j e = nI o) {b : Nat → Bool} (hb : ∀ o, b o = true ↔ za_R Rt (za_E (gX_fieldCount u) (gX_refFields u) of fl) o) :
  ∃ mk', (∀ o, 1 ≤ o → o ≤ 48 → (b o = true ↔ mk' o ≠ 0)) ∧ ∀ post : SY → Prop, post (rY (nI (zs (fun i => if b (i + 1) then zl_sz (gX_fieldCount u) of (i + 1) else 0) 48)) (nI (D + 1)) wu st og an (cl + 1) (sy + nI (zs (fun i => if b (i + 1) then 1 else 0) 48)) tc lc re rd cd lk (zj_o of mk' 49) fl gy mk' fm fp hi lo sk v) → wpY_collect post (rY us (nI (D + 1)) wu st og an cl sy tc lc re rd cd lk of fl gy mk fm fp hi lo sk v) := by
  obtain ⟨mk0, z0, w0⟩ := yj_2 (us := us) (fr := nI (D + 1)) (wu := wu) (st := st) (og := og) (an := an) (cl := cl) (sy := sy) (tc := tc) (lc := lc) (re := re) (rd := rd) (cd := cd) (lk := lk) (of := of) (fl := fl) (gy := gy) (fm := fm) (fp := fp) (hi := hi) (lo := lo) (sk := sk) (v := v) 48 1 mk rfl (fun o a b => by omega)
  have S0 : zj_S (za_R Rt (za_E (gX_fieldCount u) (gX_refFields u) of fl)) mk0 := fun o a b w => absurd (z0 o a b) w
  obtain ⟨mk1, S1, l1, m1, w1⟩ := yj_23 (us := us) (fr := nI (D + 1)) (wu := wu) (st := st) (og := og) (an := an) (cl := cl) (sy := sy) (tc := tc) (lc := lc) (re := re) (rd := rd) (cd := cd) (lk := lk) (of := of) (fl := fl) (gy := gy) (fm := fm) (fp := fp) (hi := hi) (lo := lo) (sk := sk) (v := v) (Rr := za_R Rt (za_E (gX_fieldCount u) (gX_refFields u) of fl)) (fun g h => by
    obtain ⟨o, a, b, c⟩ := hg g h
    exact ⟨o, a, b, fun z => za_R0 (c z)⟩) 4 0 mk0 rfl S0
  obtain ⟨mk2, S2, l2, m2, w2⟩ := yj_46 (us := us) (wu := wu) (st := st) (og := og) (an := an) (cl := cl) (sy := sy) (tc := tc) (lc := lc) (re := re) (rd := rd) (cd := cd) (lk := lk) (of := of) (fl := fl) (gy := gy) (fm := fm) (fp := fp) (hi := hi) (lo := lo) (sk := sk) (Rr := za_R Rt (za_E (gX_fieldCount u) (gX_refFields u) of fl)) hD hfr (fun j e h1 h2 h3 => by
    obtain ⟨o, a, b, c⟩ := hq j e h1 h2 h3
    exact ⟨o, a, b, fun z => za_R0 (c z)⟩) (12 * (D + 1)) 0 mk1 (by omega) S1
  have rm : ∀ o, Rt o → mk2 o ≠ 0 := fun o ro => by
    have oo := za_p1 hm (hRt o ro)
    rcases cov o ro with ⟨g, h, e⟩ | ⟨j, e, h1, h2, h3, h4⟩
    · exact l2 _ (m1 g o (by omega) h e oo.1 oo.2.1)
    · exact m2 j e o (by omega) h1 h2 h3 h4 oo.1 oo.2.1
  have I0 : (∀ o, za_R Rt (za_E (gX_fieldCount u) (gX_refFields u) of fl) o → mk2 o ≠ 0) ∨ 0 + 1 ≤ za_c (fun o => mk2 o ≠ 0) := by
    by_cases w : ∃ o, 1 ≤ o ∧ o ≤ 48 ∧ mk2 o ≠ 0
    · obtain ⟨o, a, b, c⟩ := w
      exact Or.inr (za_c1 (M := fun o => mk2 o ≠ 0) a b c)
    · refine Or.inl (fun o ro => ?_)
      have : False := ro (fun _ => False) (fun a ra => w ⟨a, (za_p1 hm (hRt a ra)).1, (za_p1 hm (hRt a ra)).2.1, rm a ra⟩) (fun a b z _ => z)
      exact this.elim
  obtain ⟨mk3, S3, cm, w3⟩ := yj_161 (us := us) (fr := nI (D + 1)) (wu := wu) (st := st) (og := og) (an := an) (cl := cl) (sy := sy) (tc := tc) (lc := lc) (re := re) (rd := rd) (cd := cd) (lk := lk) (of := of) (fl := fl) (gy := gy) (fm := fm) (fp := fp) (hi := hi) (lo := lo) (sk := sk) hs hm hRt 48 0 mk2 rfl S2 rm I0
  have hb' : ∀ o, 1 ≤ o → o ≤ 48 → (b o = true ↔ mk3 o ≠ 0) := fun o a c => ⟨fun z => cm o ((hb o).mp z), fun z => (hb o).mpr (S3 o a c z)⟩
  refine ⟨mk3, hb', fun post hpp => upY_collect ⟨49, w0 post ⟨5, w1 post ⟨12 * (D + 1) + 1, w2 post ⟨49, w3 post ⟨49, ?_⟩⟩⟩⟩⟩⟩
  have i := yj_218 (fr := nI (D + 1)) (wu := wu) (st := st) (og := og) (an := an) (cl := cl + 1) (sy := sy) (tc := tc) (lc := lc) (re := re) (rd := rd) (cd := cd) (lk := lk) (of := of) (fl := fl) (gy := gy) (mk := mk3) (fm := fm) (fp := fp) (hi := hi) (lo := lo) (sk := sk) hs hm hb' (fun o z => za_Rl hm hRt ((hb o).mp z)) hpp 48 0 rfl
  have ez : sy + nI (zs (fun i => if b (i + 1) then 1 else 0) 0) = sy := by
    rw [show nI (zs (fun i => if b (i + 1) then 1 else 0) 0) = 0 from rfl]; exact Int32.add_zero sy
  rw [zj_o1, ez, show nI (zs (fun i => if b (i + 1) then zl_sz (gX_fieldCount u) of (i + 1) else 0) 0) = 0 from rfl] at i
  exact i
/-- what a frame's roots are -/
theorem zj_bits (hs : zR_s u v) (hb : zR_b u H R K) (hc : zR_c1 (gX_ops u) (gX_operands u) (gX_lengths u) co cc ca cd lk H R) {j m i : Nat} (hf : zF_f u R cd fm fp j m i) (hop : (zw_op (gX_ops u) (24 * m + i)) = 12 ∨ (zw_op (gX_ops u) (24 * m + i)) = 16 ∨ (zw_op (gX_ops u) (24 * m + i)) = 17) {e : Nat} (he12 : e < 12) :
  (zq_b (gX_refMaps u) cc fm fp (12 * j + e) = true ↔ e < 6 + ((H (24 * m + i)) - (zw_P (gX_ops u) (gX_operands u) (24 * m + i))) ∧ K (24 * m + i) e = 2) ∧ (zq_b (gX_refMaps u) cc fm fp (12 * j + e) = true ↔ bt (gY_maps v (24 * m + i)) e = true ∧ e < 6 + ((H (24 * m + i)) - (zw_P (gX_ops u) (gX_operands u) (24 * m + i)))) := by
  obtain ⟨n, hn, hin, el, at_, _⟩ := zF_at hb hf
  obtain ⟨f1, f2, f3, f4, f5, f6, f7⟩ := id hf
  have xc := ((hc.1 m f1).2.2.2 i f2).2 f7 f6
  have ecc : cc (24 * m + i) = nI (6 + (H (24 * m + i)) - (zw_P (gX_ops u) (gX_operands u) (24 * m + i))) := by
    rcases hop with w | w | w
    · exact (zx_ce xc (by omega)).2.1
    · exact (zx_c16 xc w).2.1
    · exact (zx_ce xc (by omega)).2.1
  have a2 := at_.2.1
  have a3 := at_.2.2.1
  have a6 := at_.2.2.2.2.2.1 e (by omega)
  have eM : gY_maps v = gX_refMaps u := hs.1.2.2.2.2.2.2.2.2.1.symm
  have key : zq_b (gX_refMaps u) cc fm fp (12 * j + e) = true ↔ bt (gX_refMaps u (24 * m + i)) e = true ∧ e < 6 + (H (24 * m + i)) - (zw_P (gX_ops u) (gX_operands u) (24 * m + i)) := by
    rw [zq_be he12]
    unfold zq_r
    rw [f3, f4, nI_clamp (n := m) (by omega), nI_clamp (n := i) (by omega), ecc, b_and, zk_low (6 + (H (24 * m + i)) - (zw_P (gX_ops u) (gX_operands u) (24 * m + i))) (by omega) e (by omega), Bool.and_eq_true, decide_eq_true_iff]
  rw [eM]
  refine ⟨?_, ?_⟩
  · rw [key, a6]
    constructor
    · rintro ⟨⟨_, b⟩, c⟩; exact ⟨by omega, b⟩
    · rintro ⟨a, b⟩; exact ⟨⟨by omega, b⟩, by omega⟩
  · rw [key]
    constructor
    · rintro ⟨b, c⟩; exact ⟨b, by omega⟩
    · rintro ⟨b, c⟩; exact ⟨b, by omega⟩
/-- both sides collect: related again -/
def zj_Rt (l : List Nat) (gy lo sk : Nat → Int32) (qb : Nat → Bool) (D o : Nat) : Prop := o ∈ l ∧ ((∃ g, g < 4 ∧ gy g = nI o) ∨ ∃ j e, j < D + 1 ∧ e < 12 ∧ qb (12 * j + e) = true ∧ zF_y lo sk j e = nI o)
theorem collect_both (hs : zR_s u v) (hb : zR_b u H R K) (hc : zR_c1 (gX_ops u) (gX_operands u) (gX_lengths u) co cc ca cd lk H R) (hh : zR_h1 (gX_superOf u) (gX_fieldCount u) (gX_refFields u) of fl hp gx gy he us p l) {D m i : Nat} (hF : zF u H R K p l wu cd fm fp ce hi lo sk D m i) (eo : (zw_op (gX_ops u) (24 * m + i)) = 12) : ∃ (p' : Nat → Nat) (l' : List Nat) (e' : Nat) (sy' : Int32) (hp' np' gx' ce' of' mk' : Nat → Int32),
  (∀ post : SX → Prop, post (rX (nI e') (nI (D + 1)) wu (-1) 2 10000000000 (-1) dn (cl + 1) sy' tc lc rd co cc ca hp' np' gx' fm fp ce' u) → wpX_collect post (rX he (nI (D + 1)) wu (-1) 2 10000000000 (-1) dn cl sy tc lc rd co cc ca hp np gx fm fp ce u)) ∧ (∀ post : SY → Prop, post (rY (nI (e' - 1)) (nI (D + 1)) wu st og 2 (cl + 1) sy' tc lc 10000000000 rd cd lk of' fl gy mk' fm fp hi lo sk v) → wpY_collect post (rY us (nI (D + 1)) wu st og 2 cl sy tc lc 10000000000 rd cd lk of fl gy mk fm fp hi lo sk v)) ∧
  zR_h1 (gX_superOf u) (gX_fieldCount u) (gX_refFields u) of' fl hp' gx' gy (nI e') (nI (e' - 1)) p' l' ∧ zF u H R K p' l' wu cd fm fp ce' hi lo sk D m i := by
  obtain ⟨hD, hm, hi2, e1, e2, ⟨n, hn, hin, el, at_⟩, xc, yo, o24, ya⟩ := zS_top hs hb hc hF
  obtain ⟨a1, a2, a3, a4, a5, a6, a7, a8, a9, a10, a11, a12, a13⟩ := at_
  have hhi := hF.2.1
  have hvv := hF.2.2.1
  have eP : (zw_P (gX_ops u) (gX_operands u) (24 * m + i)) = 0 := by unfold zw_P; rw [eo]; rfl
  obtain ⟨zset, p0, ⟨e0, he1, he49, hee, hus, lay⟩, hgl⟩ := id hh
  have hm' : za_H (gX_superOf u) (gX_fieldCount u) (gX_refFields u) of fl hp p l e0 := ⟨zset, p0, he49, lay⟩
  -- every frame
  have fr0 : ∀ j, j < D + 1 → ∃ m i, zF_f u R cd fm fp j m i ∧ hi j = nI ((H (24 * m + i)) - (zw_P (gX_ops u) (gX_operands u) (24 * m + i))) ∧ zF_v p l (K (24 * m + i)) ((H (24 * m + i)) - (zw_P (gX_ops u) (gX_operands u) (24 * m + i))) j lo sk ce ∧ ((zw_op (gX_ops u) (24 * m + i)) = 12 ∨ (zw_op (gX_ops u) (24 * m + i)) = 16 ∨ (zw_op (gX_ops u) (24 * m + i)) = 17) := by
    intro j hj
    by_cases e : j = D
    · subst e
      refine ⟨m, i, hF.1, ?_, ?_, Or.inl eo⟩
      · rw [eP]; exact hhi
      · rw [eP]; exact hvv
    · obtain ⟨m', i', q1, q2, q3, q4, _⟩ := hF.2.2.2.1 j (by omega)
      exact ⟨m', i', q1, q2, q3, q4⟩
  have hfrX : zq_F fm fp D := fun j hj => by
    obtain ⟨m', i', q1, _⟩ := fr0 j hj
    exact ⟨m', i', q1.1, q1.2.1, q1.2.2.1, q1.2.2.2.1⟩
  have hfrY : ∀ j, j < D + 1 → ∃ m i h, m < 8 ∧ i < 24 ∧ h ≤ 6 ∧ fm j = nI m ∧ fp j = nI i ∧ hi j = nI h ∧ ∀ e, e < 12 → (zq_b (gX_refMaps u) cc fm fp (12 * j + e) = true ↔ bt (gY_maps v (24 * m + i)) e = true ∧ e < 6 + h) := fun j hj => by
    obtain ⟨m', i', q1, q2, q3, q4⟩ := fr0 j hj
    have := zF_H6 hb q1
    exact ⟨m', i', _, q1.1, q1.2.1, by omega, q1.2.2.1, q1.2.2.2.1, q2, fun e he => (zj_bits hs hb hc q1 q4 he).2⟩
  have rts : ∀ j e, j < D + 1 → e < 12 → zq_b (gX_refMaps u) cc fm fp (12 * j + e) = true → zl_ref p l (zF_y lo sk j e) (ce (12 * j + e)) := fun j e hj he w => by
    obtain ⟨m', i', q1, q2, q3, q4⟩ := fr0 j hj
    obtain ⟨w1, w2⟩ := (zj_bits hs hb hc q1 q4 he).1.mp w
    exact (q3 e w1).2 w2
  -- the roots
  have hRt : ∀ o, zj_Rt l gy lo sk (zq_b (gX_refMaps u) cc fm fp) D o → o ∈ l := fun o w => w.1
  have fnd : ∀ y x, zl_ref p l y x → (∀ o, o ∈ l → y = nI o → zj_Rt l gy lo sk (zq_b (gX_refMaps u) cc fm fp) D o) → (∃ o, (o = 0 ∨ (o ∈ l ∧ zj_Rt l gy lo sk (zq_b (gX_refMaps u) cc fm fp) D o)) ∧ x = nI (p o)) ∧ ∃ o, y = nI o ∧ o ≤ 48 ∧ (1 ≤ o → zj_Rt l gy lo sk (zq_b (gX_refMaps u) cc fm fp) D o) := by
    intro y x r h
    obtain ⟨o, ho, o48, p48, ey, ex⟩ := za_fld hm' r
    rcases ho with z | ol
    · exact ⟨⟨o, Or.inl z, ex⟩, o, ey, o48, fun q => by omega⟩
    · exact ⟨⟨o, Or.inr ⟨ol, h o ol ey⟩, ex⟩, o, ey, o48, fun _ => h o ol ey⟩
  have same : ∀ y x o, zl_ref p l y x → o ∈ l → y = nI o → x = nI (p o) := by
    intro y x o r ol ey
    obtain ⟨o', ho, o48, p48, ey', ex⟩ := za_fld hm' r
    have := za_p1 hm' ol
    have := (nI_eq (by omega) (by omega)).mp (ey.symm.trans ey')
    rw [this]; exact ex
  have G : ∀ g, g < 4 → _ := fun g hg => fnd (gy g) (gx g) (hgl g hg) (fun o ol ey => ⟨ol, Or.inl ⟨g, hg, ey⟩⟩)
  have Q : ∀ j e, j < D + 1 → e < 12 → zq_b (gX_refMaps u) cc fm fp (12 * j + e) = true → _ := fun j e hj he w => fnd (zF_y lo sk j e) (ce (12 * j + e)) (rts j e hj he w) (fun o ol ey => ⟨ol, Or.inr ⟨j, e, hj, he, w, ey⟩⟩)
  obtain ⟨b, hbR⟩ : ∃ b : Nat → Bool, ∀ o, b o = true ↔ za_R (zj_Rt l gy lo sk (zq_b (gX_refMaps u) cc fm fp) D) (za_E (gX_fieldCount u) (gX_refFields u) of fl) o := ⟨fun o => @decide (za_R (zj_Rt l gy lo sk (zq_b (gX_refMaps u) cc fm fp) D) (za_E (gX_fieldCount u) (gX_refFields u) of fl) o) (Classical.propDecidable _), fun o => @decide_eq_true_iff _ (Classical.propDecidable _)⟩
  have bl : ∀ o, b o = true → o ∈ l := fun o z => za_Rl hm' hRt ((hbR o).mp z)
  obtain ⟨np', hp', N0, hN, hM, hX⟩ := x_collect (wu := wu) (wa := -1) (ou := 2) (lg := -1) (dn := dn) (cl := cl) (sy := sy) (tc := tc) (lc := lc) (re := 10000000000) (rd := rd) (co := co) (cc := cc) (ca := ca) (hp := hp) (np := np) (gx := gx) (fm := fm) (fp := fp) (ce := ce) hm' hD hfrX hRt he1 (fun g hg => (G g hg).1) (fun k hk w => by
    have hd : k = 12 * (k / 12) + k % 12 := by omega
    rw [hd] at w ⊢
    exact (Q (k / 12) (k % 12) (by omega) (Nat.mod_lt _ (by decide)) w).1) (fun o ro => by
    rcases ro.2 with ⟨g, hg, e⟩ | ⟨j, e, hj, he, w, ey⟩
    · exact Or.inl ⟨g, hg, same _ _ o (hgl g hg) ro.1 e⟩
    · exact Or.inr ⟨12 * j + e, by omega, w, same _ _ o (rts j e hj he w) ro.1 ey⟩) hbR
  obtain ⟨mk', hbm, hY⟩ := y_collect (us := us) (wu := wu) (st := st) (og := og) (an := 2) (cl := cl) (sy := sy) (tc := tc) (lc := lc) (re := 10000000000) (rd := rd) (cd := cd) (lk := lk) (of := of) (fl := fl) (gy := gy) (mk := mk) (fm := fm) (fp := fp) (hi := hi) (lo := lo) (sk := sk) hs hm' hD hfrY hRt (fun g hg => (G g hg).2) (fun j e hj he w => (Q j e hj he w).2) (fun o ro => ro.2) hbR
  -- sums
  have inF : ∀ i, (i + 1 ∈ l.filter b) ↔ b (i + 1) = true := fun i => ⟨fun z => (List.mem_filter.mp z).2, fun z => List.mem_filter.mpr ⟨bl _ z, z⟩⟩
  have ndF : (l.filter b).Nodup := zset.1.filter b
  have in48 : ∀ o, o ∈ l.filter b → 1 ≤ o ∧ o ≤ 48 := fun o z => by
    have := za_p1 hm' (List.mem_filter.mp z).1
    exact ⟨this.1, this.2.1⟩
  have sum1 : zs (fun i => if b (i + 1) then zl_sz (gX_fieldCount u) of (i + 1) else 0) 48 = za_s (zl_sz (gX_fieldCount u) of) (l.filter b) := by
    rw [za_sum _ ndF in48]
    refine zs_eq 48 (fun i _ => ?_)
    by_cases z : b (i + 1) = true
    · rw [if_pos z, if_pos ((inF i).mpr z)]
    · rw [if_neg z, if_neg (fun q => z ((inF i).mp q))]
  have sum2 : zs (fun i => if b (i + 1) then 1 else 0) 48 = (l.filter b).length := by
    rw [← za_sl (b := b), za_sum _ ndF in48]
    refine zs_eq 48 (fun i _ => ?_)
    by_cases z : b (i + 1) = true
    · rw [if_pos z, if_pos ((inF i).mpr z)]
    · rw [if_neg z, if_neg (fun q => z ((inF i).mp q))]
  have e49 : 1 + za_s (zl_sz (gX_fieldCount u) of) (l.filter b) ≤ 49 := by
    have q1 := za_end _ _ _ lay
    have q2 := za_sle (f := zl_sz (gX_fieldCount u) of) (b := b) l
    omega
  have z0l : 0 ∉ l := fun z => by
    have := (za_p1 hm' z).1
    omega
  have P0 : za_pl b (zl_sz (gX_fieldCount u) of) l 1 0 = 0 := za_pl0 l 1 z0l
  have hNb : ∀ o, o ∈ l → b o = true → np' (p o) = nI (za_pl b (zl_sz (gX_fieldCount u) of) l 1 o) := fun o ol z => by rw [hN o ol, if_pos z]
  have of' : ∀ o, o ∈ l → b o = true → zj_o of mk' 49 o = of o := fun o ol z => by
    have q := za_p1 hm' ol
    unfold zj_o
    rw [if_neg (fun w => (hbm o q.1 q.2.1).mp z w.2.2)]
  have clo : ∀ o o', o ∈ l → b o = true → za_E (gX_fieldCount u) (gX_refFields u) of fl o o' → b o' = true := fun o o' _ z hE => (hbR o').mpr (za_Rs ((hbR o).mp z) hE)
  have lay' := za_lay hm' P0 N0 hNb of' clo l 1 (fun _ z => z) hM (za_atp l 1 zset.1)
  have ref' : ∀ y x, zl_ref p l y x → (∀ o, o ∈ l → y = nI o → zj_Rt l gy lo sk (zq_b (gX_refMaps u) cc fm fp) D o) → zl_ref (za_pl b (zl_sz (gX_fieldCount u) of) l 1) (l.filter b) y (np' x.toNatClampNeg) := by
    intro y x r h
    refine za_ref hm' P0 N0 hNb r (fun o q1 q2 ey => (hbR o).mpr (za_R0 (h o ?_ ey)))
    obtain ⟨o', ho, o48, p48, ey', ex⟩ := za_fld hm' r
    have := (nI_eq (by omega) (by omega)).mp (ey.symm.trans ey')
    rw [this]
    exact ho.resolve_left (by omega)
  refine ⟨za_pl b (zl_sz (gX_fieldCount u) of) l 1, l.filter b, 1 + za_s (zl_sz (gX_fieldCount u) of) (l.filter b), sy + nI (l.filter b).length, hp', np', za_mv np' gx (fun _ => true) 4, za_mv np' ce (zq_b (gX_refMaps u) cc fm fp) (12 * (D + 1)), zj_o of mk' 49, mk', fun post hpp => ?_, fun post hpp => ?_, ⟨⟨ndF, ?_, fun o => ?_⟩, P0, ⟨1 + za_s (zl_sz (gX_fieldCount u) of) (l.filter b), by omega, e49, rfl, rfl, lay'⟩, fun g hg => ?_⟩, ?_⟩
  · rw [hee]; exact hX post hpp
  · rw [show 1 + za_s (zl_sz (gX_fieldCount u) of) (l.filter b) - 1 = za_s (zl_sz (gX_fieldCount u) of) (l.filter b) by omega, ← sum1, ← sum2] at hpp
    exact hY post hpp
  · unfold zj_o; rw [if_neg (by omega)]; exact zset.2.1
  · constructor
    · intro z
      obtain ⟨ol, bo⟩ := List.mem_filter.mp z
      have q := (zset.2.2 o).mp ol
      rw [of' o ol bo]; exact q
    · rintro ⟨q1, q2, q3⟩
      by_cases w : mk' o = 0
      · unfold zj_o at q3
        rw [if_pos ⟨q1, by omega, w⟩] at q3
        exact absurd rfl q3
      · have bo := (hbm o q1 q2).mpr w
        exact List.mem_filter.mpr ⟨bl o bo, bo⟩
  · have : za_mv np' gx (fun _ => true) 4 g = np' (gx g).toNatClampNeg := by unfold za_mv; rw [if_pos ⟨hg, rfl⟩]
    rw [this]
    exact ref' _ _ (hgl g hg) (fun o ol ey => ⟨ol, Or.inl ⟨g, hg, ey⟩⟩)
  · -- the frames
    have mv : ∀ j e m' i', j < D + 1 → e < 12 → zF_f u R cd fm fp j m' i' → (zw_op (gX_ops u) (24 * m' + i') = 12 ∨ zw_op (gX_ops u) (24 * m' + i') = 16 ∨ zw_op (gX_ops u) (24 * m' + i') = 17) → e < 6 + (H (24 * m' + i') - zw_P (gX_ops u) (gX_operands u) (24 * m' + i')) → zl_val p l (K (24 * m' + i') e) (zF_y lo sk j e) (ce (12 * j + e)) → zl_val (za_pl b (zl_sz (gX_fieldCount u) of) l 1) (l.filter b) (K (24 * m' + i') e) (zF_y lo sk j e) (za_mv np' ce (zq_b (gX_refMaps u) cc fm fp) (12 * (D + 1)) (12 * j + e)) := by
      intro j e m' i' hj he q1 q4 hlt hv
      have bits := (zj_bits hs hb hc q1 q4 he).1
      by_cases w : zq_b (gX_refMaps u) cc fm fp (12 * j + e) = true
      · have e1 : za_mv np' ce (zq_b (gX_refMaps u) cc fm fp) (12 * (D + 1)) (12 * j + e) = np' (ce (12 * j + e)).toNatClampNeg := by unfold za_mv; rw [if_pos ⟨by omega, w⟩]
        have k2 := (bits.mp w).2
        rw [e1]
        refine ⟨fun z => absurd (k2.symm.trans z) (by decide), fun _ => ?_⟩
        exact ref' _ _ (hv.2 k2) (fun o ol ey => ⟨ol, Or.inr ⟨j, e, hj, he, w, ey⟩⟩)
      · have e1 : za_mv np' ce (zq_b (gX_refMaps u) cc fm fp) (12 * (D + 1)) (12 * j + e) = ce (12 * j + e) := by unfold za_mv; rw [if_neg (fun z => w z.2)]
        rw [e1]
        exact ⟨hv.1, fun z => absurd (bits.mpr ⟨hlt, z⟩) w⟩
    obtain ⟨h1, h2, h3, h4, h5, h6⟩ := id hF
    refine ⟨h1, h2, fun e he => ?_, fun j hj => ?_, h5, h6⟩
    · exact mv D e m i (by omega) (by omega) h1 (Or.inl eo) (by omega) (h3 e he)
    · obtain ⟨m', i', q1, q2, q3, q4, q5⟩ := h4 j hj
      have := zF_H6 hb q1
      exact ⟨m', i', q1, q2, fun e he => mv j e m' i' (by omega) (by omega) q1 q4 he (q3 e he), q4, q5⟩
end
