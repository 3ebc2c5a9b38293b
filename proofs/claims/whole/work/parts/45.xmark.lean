/-! X marks -/
def zx_S (Rr : Nat → Prop) (p : Nat → Nat) (l : List Nat) (np : Nat → Int32) : Prop := ∀ o, o ∈ l → np (p o) ≠ 0 → Rr o
def zx_M (p : Nat → Nat) (l : List Nat) (np : Nat → Int32) (o : Nat) : Prop := o ∈ l ∧ np (p o) ≠ 0
def za_le (np np' : Nat → Int32) : Prop := ∀ a, np a ≠ 0 → np' a ≠ 0
theorem za_ler (np : Nat → Int32) : za_le np np := fun _ h => h
theorem za_let {a b c : Nat → Int32} (h : za_le a b) (h' : za_le b c) : za_le a c := fun i w => h' i (h i w)
theorem zx_Mle {p : Nat → Nat} {l : List Nat} {np np' : Nat → Int32} (h : za_le np np') : za_c (zx_M p l np) ≤ za_c (zx_M p l np') := za_cle (fun _ w => ⟨w.1, h _ w.2⟩)
theorem zx_mk {up fc rf of fl hp : Nat → Int32} {p : Nat → Nat} {l : List Nat} {e : Nat} (h : za_H up fc rf of fl hp p l e) {Rr : Nat → Prop} {np : Nat → Int32} {o : Nat} (S : zx_S Rr p l np) (ho : o = 0 ∨ (o ∈ l ∧ Rr o)) : zx_S Rr p l (upd np (p o) 1) ∧ za_le np (upd np (p o) 1) ∧ upd np (p o) 1 (p o) ≠ 0 := by
  refine ⟨fun o' ol' w => ?_, fun a w => ?_, by rw [pk_us]; decide⟩
  · by_cases q : p o' = p o
    · rcases ho with rfl | ⟨ol, r⟩
      · rw [h.2.1] at q
        have := (za_p1 h ol').2.2.1
        omega
      · rw [za_inj h ol' ol q]; exact r
    · rw [pk_un q] at w; exact S o' ol' w
  · by_cases q : a = p o
    · rw [q, pk_us]; decide
    · rw [pk_un q]; exact w
/-- the roots of frame j, as bits -/
def zq_r (RM cc fm fp : Nat → Int32) (j : Nat) : Int32 := RM (24 * (fm j).toNatClampNeg + (fp j).toNatClampNeg) &&& (((1 : Int32) <<< ((cc (24 * (fm j).toNatClampNeg + (fp j).toNatClampNeg)) &&& 31)) - 1)
def zq_b (RM cc fm fp : Nat → Int32) (k : Nat) : Bool := bt (zq_r RM cc fm fp (k / 12)) (k % 12)
theorem zq_be {RM cc fm fp : Nat → Int32} {j e : Nat} (he : e < 12) : zq_b RM cc fm fp (12 * j + e) = bt (zq_r RM cc fm fp j) e := by
  unfold zq_b
  rw [show (12 * j + e) / 12 = j by omega, show (12 * j + e) % 12 = e by omega]
def zq_F (fm fp : Nat → Int32) (D : Nat) : Prop := ∀ j, j < D + 1 → ∃ m i, m < 8 ∧ i < 24 ∧ fm j = nI m ∧ fp j = nI i
theorem zq_12 (j e : Nat) : nI j * 12 + nI e = nI (12 * j + e) := by rw [show (12 : Int32) = nI 12 from rfl, pk_mul, nI_add, Nat.mul_comm]
section
variable {u : SX} {v : SY} {he fr wu wa ou lg dn cl sy tc lc us st og an : Int32} {re : Int64} {rd co cc ca hp np gx fm fp ce cd lk of fl gy mk hi lo sk : Nat → Int32}
variable {H : Nat → Nat} {R : Nat → Prop} {K : Nat → Nat → Nat} {p : Nat → Nat} {l : List Nat}
theorem x_roots {post : Int32 → Prop} {j m i : Nat} (hj : j ≤ 13) (hm : m < 8) (hi2 : i < 24) (e1 : fm j = nI m) (e2 : fp j = nI i) (h : post (zq_r (gX_refMaps u) cc fm fp j)) : wpX_rootsOf post (rX he fr wu wa ou re lg dn cl sy tc lc rd co cc ca hp np gx fm fp ce u) (nI j) := by
  have vj : vp_in (nI j) 14 := vp_in_nI (by omega) (by decide)
  have v : vp_in (nI (24 * m + i)) 192 := vp_in_nI (by omega) (by decide)
  refine upX_rootsOf ⟨vj, vj, ?_⟩
  rw [rX_frameMethod, rX_framePlace, rX_refMaps, rX_codeCells, nI_clamp (n := j) (by omega), e1, e2, show nI m * 24 + nI i = nI (24 * m + i) by rw [show (24 : Int32) = nI 24 from rfl, pk_mul, nI_add, Nat.mul_comm]]
  refine nm_e ⟨v, v, ?_⟩
  rw [nI_clamp (n := 24 * m + i) (by omega)]
  unfold zq_r at h
  rw [e1, e2, nI_clamp (n := m) (by omega), nI_clamp (n := i) (by omega)] at h
  exact h
theorem x_words {post : Int32 → Prop} {q c n : Nat} (q49 : q < 49) (c4 : c < 4) (eh : hp q = nI c) (ef : gX_fieldCount u c = nI n) (h : post (nI (1 + n))) : wpX_objectWords post (rX he fr wu wa ou re lg dn cl sy tc lc rd co cc ca hp np gx fm fp ce u) (nI q) := by
  refine upX_objectWords ⟨vp_in_nI q49 (by decide), ?_⟩
  rw [rX_heap, rX_fieldCount, nI_clamp (n := q) (by omega), eh, nI_clamp (n := c) (by omega), ef, show (1 : Int32) = nI 1 from rfl, nI_add]
  exact ⟨vp_in_nI c4 (by decide), h⟩
theorem xg_43 {e0 : Nat} (hm : za_H (gX_superOf u) (gX_fieldCount u) (gX_refFields u) of fl hp p l e0) {Rr : Nat → Prop} {D j : Nat} (hD : D ≤ 12) (hj : j < D + 1) (hq : ∀ k, k < 12 * (D + 1) → zq_b (gX_refMaps u) cc fm fp k = true → ∃ o, (o = 0 ∨ (o ∈ l ∧ Rr o)) ∧ ce k = nI (p o)) :
  ∀ (d e : Nat) (np : Nat → Int32), e + d = 12 → zx_S Rr p l np → ∃ np', zx_S Rr p l np' ∧ za_le np np' ∧ (∀ k, 12 * j + e ≤ k → k < 12 * (j + 1) → zq_b (gX_refMaps u) cc fm fp k = true → np' (ce k).toNatClampNeg ≠ 0) ∧ ∀ (post : SX → Prop) (J : Int32 → SX → Prop), J (nI (j + 1)) (rX he fr wu wa ou re lg dn cl sy tc lc rd co cc ca hp np' gx fm fp ce u) → kX_markRoots_43 post J (nI j) (zq_r (gX_refMaps u) cc fm fp j) (d + 1) (nI e) (rX he fr wu wa ou re lg dn cl sy tc lc rd co cc ca hp np gx fm fp ce u) := by
  intro d
  induction d with
  | zero =>
    intro e np h S
    refine ⟨np, S, za_ler np, fun k a b => by omega, fun post J hJ => uX_markRoots_43 (br_t ?_ (nm_r (nI_1 j) hJ))⟩
    exact nI_le (a := 12) (b := e) (by omega) (by omega)
  | succ d ih =>
    intro e np h S
    have e12 : e < 12 := by omega
    have n12 : ¬ (12 : Int32) ≤ nI e := nI_ge (b := 12) (by omega) (by decide)
    have eb := zq_be (RM := gX_refMaps u) (cc := cc) (fm := fm) (fp := fp) (j := j) e12
    by_cases w : zq_b (gX_refMaps u) cc fm fp (12 * j + e) = true
    · obtain ⟨o, ho, ec⟩ := hq (12 * j + e) (by omega) w
      have p48 : p o ≤ 48 := by
        rcases ho with rfl | ⟨ol, _⟩
        · rw [hm.2.1]; omega
        · exact (za_p1 hm ol).2.2.2
      obtain ⟨S1, l1, m1⟩ := zx_mk hm S ho
      obtain ⟨np', S2, l2, m2, hw⟩ := ih (e + 1) _ (by omega) S1
      refine ⟨np', S2, za_let l1 l2, fun k a b c => ?_, fun post J hJ => uX_markRoots_43 (br_f n12 (br_f ?_ ?_))⟩
      · by_cases q : k = 12 * j + e
        · rw [q, ec, nI_clamp (by omega)]; exact l2 _ m1
        · exact m2 k (by omega) b c
      · intro z
        have z1 := (zb_bit _ (j := e) (by omega)).mp z
        rw [← eb, w] at z1
        exact absurd z1 (by decide)
      · rw [rX_cells, rX_newPlaces, zq_12, nI_clamp (n := 12 * j + e) (by omega), ec, nI_clamp (n := p o) (by omega)]
        refine ⟨vp_in_nI (by omega) (by decide), vp_in_nI (by omega) (by decide), nm_e (nm_r (nI_1 e) ?_)⟩
        rw [rX__newPlaces]
        exact hw post J hJ
    · obtain ⟨np', S2, l2, m2, hw⟩ := ih (e + 1) np (by omega) S
      refine ⟨np', S2, l2, fun k a b c => ?_, fun post J hJ => uX_markRoots_43 (br_f n12 (br_t ?_ (nm_r (nI_1 e) (hw post J hJ))))⟩
      · by_cases q : k = 12 * j + e
        · rw [q] at c; exact absurd c w
        · exact m2 k (by omega) b c
      · refine (zb_bit _ (by omega)).mpr ?_
        rw [← eb]; exact Bool.eq_false_iff.mpr w
theorem xg_27 {e0 : Nat} (hm : za_H (gX_superOf u) (gX_fieldCount u) (gX_refFields u) of fl hp p l e0) {Rr : Nat → Prop} {D : Nat} (hD : D ≤ 12) (hfr : zq_F fm fp D) (hq : ∀ k, k < 12 * (D + 1) → zq_b (gX_refMaps u) cc fm fp k = true → ∃ o, (o = 0 ∨ (o ∈ l ∧ Rr o)) ∧ ce k = nI (p o)) :
  ∀ (d j : Nat) (np : Nat → Int32), j + d = D + 1 → zx_S Rr p l np → ∃ np', zx_S Rr p l np' ∧ za_le np np' ∧ (∀ k, 12 * j ≤ k → k < 12 * (D + 1) → zq_b (gX_refMaps u) cc fm fp k = true → np' (ce k).toNatClampNeg ≠ 0) ∧ ∀ post : SX → Prop, post (rX he (nI (D + 1)) wu wa ou re lg dn cl sy tc lc rd co cc ca hp np' gx fm fp ce u) → kX_markRoots_27 post (d + 1) (nI j) (rX he (nI (D + 1)) wu wa ou re lg dn cl sy tc lc rd co cc ca hp np gx fm fp ce u) := by
  intro d
  induction d with
  | zero =>
    intro j np h S
    refine ⟨np, S, za_ler np, fun k a b => by omega, fun post hpp => uX_markRoots_27 (br_t ?_ hpp)⟩
    rw [rX_frames]; exact nI_le (by omega) (by omega)
  | succ d ih =>
    intro j np h S
    obtain ⟨m, i, m8, i24, e1, e2⟩ := hfr j (by omega)
    obtain ⟨np1, S1, l1, m1, w1⟩ := xg_43 (he := he) (fr := nI (D + 1)) (wu := wu) (wa := wa) (ou := ou) (lg := lg) (dn := dn) (cl := cl) (sy := sy) (tc := tc) (lc := lc) (re := re) (rd := rd) (co := co) (cc := cc) (ca := ca) (hp := hp) (gx := gx) (fm := fm) (fp := fp) (ce := ce) hm hD (show j < D + 1 by omega) hq 12 0 np rfl S
    obtain ⟨np', S2, l2, m2, w2⟩ := ih (j + 1) np1 (by omega) S1
    refine ⟨np', S2, za_let l1 l2, fun k a b c => ?_, fun post hpp => uX_markRoots_27 (br_f ?_ (x_roots (by omega) m8 i24 e1 e2 ⟨13, w1 post _ (w2 post hpp)⟩))⟩
    · by_cases q : k < 12 * (j + 1)
      · exact l2 _ (m1 k (by omega) q c)
      · exact m2 k (by omega) b c
    · rw [rX_frames]; exact nI_ge (by omega) (by omega)
theorem xg_2 {e0 : Nat} (hm : za_H (gX_superOf u) (gX_fieldCount u) (gX_refFields u) of fl hp p l e0) {Rr : Nat → Prop} (hg : ∀ g, g < 4 → ∃ o, (o = 0 ∨ (o ∈ l ∧ Rr o)) ∧ gx g = nI (p o)) :
  ∀ (d g : Nat) (np : Nat → Int32), g + d = 4 → zx_S Rr p l np → ∃ np', zx_S Rr p l np' ∧ za_le np np' ∧ (∀ g', g ≤ g' → g' < 4 → np' (gx g').toNatClampNeg ≠ 0) ∧ ∀ post : SX → Prop, (∃ n, kX_markRoots_27 post n 0 (rX he fr wu wa ou re lg dn cl sy tc lc rd co cc ca hp np' gx fm fp ce u)) → kX_markRoots_2 post (d + 1) (nI g) (rX he fr wu wa ou re lg dn cl sy tc lc rd co cc ca hp np gx fm fp ce u) := by
  intro d
  induction d with
  | zero =>
    intro g np h S
    refine ⟨np, S, za_ler np, fun k a b => by omega, fun post hpp => uX_markRoots_2 (br_t ?_ hpp)⟩
    exact nI_le (a := 4) (b := g) (by omega) (by omega)
  | succ d ih =>
    intro g np h S
    obtain ⟨o, ho, ec⟩ := hg g (by omega)
    have p48 : p o ≤ 48 := by
      rcases ho with rfl | ⟨ol, _⟩
      · rw [hm.2.1]; omega
      · exact (za_p1 hm ol).2.2.2
    obtain ⟨S1, l1, m1⟩ := zx_mk hm S ho
    obtain ⟨np', S2, l2, m2, hw⟩ := ih (g + 1) _ (by omega) S1
    refine ⟨np', S2, za_let l1 l2, fun k a b => ?_, fun post hpp => uX_markRoots_2 (br_f (nI_ge (b := 4) (by omega) (by decide)) ?_)⟩
    · by_cases q : k = g
      · rw [q, ec, nI_clamp (by omega)]; exact l2 _ m1
      · exact m2 k (by omega) b
    · rw [rX_globals, rX_newPlaces, nI_clamp (n := g) (by omega), ec, nI_clamp (n := p o) (by omega)]
      refine ⟨vp_in_nI (by omega) (by decide), vp_in_nI (by omega) (by decide), nm_e (nm_r (nI_1 g) ?_)⟩
      rw [rX__newPlaces]
      exact hw post hpp
/-- X marks the roots -/
theorem xg_roots {e0 : Nat} (hm : za_H (gX_superOf u) (gX_fieldCount u) (gX_refFields u) of fl hp p l e0) {Rr : Nat → Prop} {D : Nat} (hD : D ≤ 12) (hfr : zq_F fm fp D) (hg : ∀ g, g < 4 → ∃ o, (o = 0 ∨ (o ∈ l ∧ Rr o)) ∧ gx g = nI (p o)) (hq : ∀ k, k < 12 * (D + 1) → zq_b (gX_refMaps u) cc fm fp k = true → ∃ o, (o = 0 ∨ (o ∈ l ∧ Rr o)) ∧ ce k = nI (p o)) (S : zx_S Rr p l np) :
  ∃ np', zx_S Rr p l np' ∧ (∀ g, g < 4 → np' (gx g).toNatClampNeg ≠ 0) ∧ (∀ k, k < 12 * (D + 1) → zq_b (gX_refMaps u) cc fm fp k = true → np' (ce k).toNatClampNeg ≠ 0) ∧ ∀ post : SX → Prop, post (rX he (nI (D + 1)) wu wa ou re lg dn cl sy tc lc rd co cc ca hp np' gx fm fp ce u) → wpX_markRoots post (rX he (nI (D + 1)) wu wa ou re lg dn cl sy tc lc rd co cc ca hp np gx fm fp ce u) := by
  obtain ⟨np1, S1, l1, m1, w1⟩ := xg_2 (he := he) (fr := nI (D + 1)) (wu := wu) (wa := wa) (ou := ou) (lg := lg) (dn := dn) (cl := cl) (sy := sy) (tc := tc) (lc := lc) (re := re) (rd := rd) (co := co) (cc := cc) (ca := ca) (hp := hp) (gx := gx) (fm := fm) (fp := fp) (ce := ce) hm hg 4 0 np rfl S
  obtain ⟨np2, S2, l2, m2, w2⟩ := xg_27 (he := he) (wu := wu) (wa := wa) (ou := ou) (lg := lg) (dn := dn) (cl := cl) (sy := sy) (tc := tc) (lc := lc) (re := re) (rd := rd) (co := co) (cc := cc) (ca := ca) (hp := hp) (gx := gx) (fm := fm) (fp := fp) (ce := ce) hm hD hfr hq (D + 1) 0 np1 (by omega) S1
  exact ⟨np2, S2, fun g hg4 => l2 _ (m1 g (by omega) hg4), fun k a b => m2 k (by omega) a b, fun post hpp => upX_markRoots ⟨5, w1 post ⟨D + 2, w2 post hpp⟩⟩⟩
theorem xg_17 {e0 : Nat} (hm : za_H (gX_superOf u) (gX_fieldCount u) (gX_refFields u) of fl hp p l e0) {Rr : Nat → Prop} (cR : ∀ a b, a ∈ l → Rr a → za_E (gX_fieldCount u) (gX_refFields u) of fl a b → Rr b) {o c : Nat} (ol : o ∈ l) (ro : Rr o) (c4 : c < 4) (eh : hp (p o) = nI c) (ec : (of o).toNatClampNeg - 1 = c) (ef : gX_fieldCount u c = nI (za_n (gX_fieldCount u) of o)) :
  ∀ (d f : Nat) (np : Nat → Int32) (ch : Prop), f + d = za_n (gX_fieldCount u) of o → zx_S Rr p l np → ∃ (np' : Nat → Int32) (ch' : Prop), zx_S Rr p l np' ∧ za_le np np' ∧ (∀ f' o', f ≤ f' → f' < za_n (gX_fieldCount u) of o → bt (gX_refFields u c) f' = true → fl (16 * o + f') = nI o' → 1 ≤ o' → o' ≤ 48 → np' (p o') ≠ 0) ∧ (¬ ch' → np' = np ∧ ¬ ch) ∧ (ch' → ch ∨ za_c (zx_M p l np) < za_c (zx_M p l np')) ∧
    ∀ post : Int32 → SX → Prop, post (zp ch') (rX he fr wu wa ou re lg dn cl sy tc lc rd co cc ca hp np' gx fm fp ce u) → kX_markFieldsOf_17 post (nI (p o)) (gX_refFields u c) (d + 1) (zp ch) (nI f) (rX he fr wu wa ou re lg dn cl sy tc lc rd co cc ca hp np gx fm fp ce u) := by
  obtain ⟨c', _, _, _, eh', _, n16, ec', o1, o48, p1, pe, hv⟩ := za_get hm ol
  have : c' = c := ec'.symm.trans ec
  subst this
  have e49 := hm.2.2.1
  have vo : vp_in (nI (p o)) 49 := vp_in_nI (by omega) (by decide)
  have vc : vp_in (nI c') 4 := vp_in_nI c4 (by decide)
  intro d
  induction d with
  | zero =>
    intro f np ch h S
    refine ⟨np, ch, S, za_ler np, fun f' o' a b => by omega, fun w => ⟨rfl, w⟩, fun w => Or.inl w, fun post hpp => uX_markFieldsOf_17 ⟨vo, ?_⟩⟩
    rw [rX_heap, rX_fieldCount, nI_clamp (n := p o) (by omega), eh, nI_clamp (n := c') (by omega), ef]
    exact ⟨vc, br_t (nI_le (by omega) (by omega)) ⟨zp_n _, hpp⟩⟩
  | succ d ih =>
    intro f np ch h S
    have st : ∀ (np : Nat → Int32) (x2 : Int32) (post : Int32 → SX → Prop), (((gX_refFields u c' >>> (nI f &&& 31)) &&& 1 = 0 → kX_markFieldsOf_17 post (nI (p o)) (gX_refFields u c') (d + 1) x2 (nI (f + 1)) (rX he fr wu wa ou re lg dn cl sy tc lc rd co cc ca hp np gx fm fp ce u)) ∧ (¬ (gX_refFields u c' >>> (nI f &&& 31)) &&& 1 = 0 → ((hp (p o + 1 + f) = 0 → kX_markFieldsOf_17 post (nI (p o)) (gX_refFields u c') (d + 1) x2 (nI (f + 1)) (rX he fr wu wa ou re lg dn cl sy tc lc rd co cc ca hp np gx fm fp ce u)) ∧ (¬ hp (p o + 1 + f) = 0 → (vp_in (hp (p o + 1 + f)) 49 ∧ ((np (hp (p o + 1 + f)).toNatClampNeg = 0 → kX_markFieldsOf_17 post (nI (p o)) (gX_refFields u c') (d + 1) 1 (nI (f + 1)) (rX he fr wu wa ou re lg dn cl sy tc lc rd co cc ca hp (upd np (hp (p o + 1 + f)).toNatClampNeg 1) gx fm fp ce u)) ∧ (¬ np (hp (p o + 1 + f)).toNatClampNeg = 0 → kX_markFieldsOf_17 post (nI (p o)) (gX_refFields u c') (d + 1) x2 (nI (f + 1)) (rX he fr wu wa ou re lg dn cl sy tc lc rd co cc ca hp np gx fm fp ce u)))))))) → kX_markFieldsOf_17 post (nI (p o)) (gX_refFields u c') (d + 1 + 1) x2 (nI f) (rX he fr wu wa ou re lg dn cl sy tc lc rd co cc ca hp np gx fm fp ce u) := by
      intro np x2 post hh
      refine uX_markFieldsOf_17 ⟨vo, ?_⟩
      rw [rX_heap, rX_fieldCount, rX_newPlaces, nI_clamp (n := p o) (by omega), eh, nI_clamp (n := c') (by omega), ef, show nI (p o) + 1 + nI f = nI (p o + 1 + f) by rw [nI_1, nI_add], nI_clamp (n := p o + 1 + f) (by omega)]
      refine ⟨vc, br_f (nI_ge (by omega) (by omega)) ⟨vp_in_nI (by omega) (by decide), nm_e (br_c (fun w => nm_r (nI_1 f) (hh.1 w)) (fun w => br_c (fun w2 => nm_r (nI_1 f) ((hh.2 w).1 w2)) (fun w2 => ?_)))⟩⟩
      obtain ⟨v1, h1, h2⟩ := (hh.2 w).2 w2
      refine ⟨v1, br_c (fun w3 => ⟨v1, nm_e (nm_r (nI_1 f) ?_)⟩) (fun w3 => nm_r (nI_1 f) (h2 w3))⟩
      rw [rX__newPlaces]; exact h1 w3
    have vf := hv f (by omega)
    -- nothing new
    have skip : (∀ o', bt (gX_refFields u c') f = true → fl (16 * o + f) = nI o' → 1 ≤ o' → o' ≤ 48 → np (p o') ≠ 0) → (∀ (post : Int32 → SX → Prop), kX_markFieldsOf_17 post (nI (p o)) (gX_refFields u c') (d + 1) (zp ch) (nI (f + 1)) (rX he fr wu wa ou re lg dn cl sy tc lc rd co cc ca hp np gx fm fp ce u) → kX_markFieldsOf_17 post (nI (p o)) (gX_refFields u c') (d + 1 + 1) (zp ch) (nI f) (rX he fr wu wa ou re lg dn cl sy tc lc rd co cc ca hp np gx fm fp ce u)) → ∃ (np' : Nat → Int32) (ch' : Prop), zx_S Rr p l np' ∧ za_le np np' ∧ (∀ f' o', f ≤ f' → f' < za_n (gX_fieldCount u) of o → bt (gX_refFields u c') f' = true → fl (16 * o + f') = nI o' → 1 ≤ o' → o' ≤ 48 → np' (p o') ≠ 0) ∧ (¬ ch' → np' = np ∧ ¬ ch) ∧ (ch' → ch ∨ za_c (zx_M p l np) < za_c (zx_M p l np')) ∧
        ∀ post : Int32 → SX → Prop, post (zp ch') (rX he fr wu wa ou re lg dn cl sy tc lc rd co cc ca hp np' gx fm fp ce u) → kX_markFieldsOf_17 post (nI (p o)) (gX_refFields u c') (d + 1 + 1) (zp ch) (nI f) (rX he fr wu wa ou re lg dn cl sy tc lc rd co cc ca hp np gx fm fp ce u) := by
      intro hf hk
      obtain ⟨np', ch', S2, l2, m2, c1, c2, hw⟩ := ih (f + 1) np ch (by omega) S
      refine ⟨np', ch', S2, l2, fun f' o' a b c d e g => ?_, c1, c2, fun post hpp => hk post (hw post hpp)⟩
      by_cases q : f' = f
      · rw [q] at c d; exact l2 _ (hf o' c d e g)
      · exact m2 f' o' (by omega) b c d e g
    by_cases bf : bt (gX_refFields u c') f = true
    · rw [if_pos bf] at vf
      have nz : ¬ (gX_refFields u c' >>> (nI f &&& 31)) &&& 1 = 0 := fun z => by
        have := (zb_bit _ (j := f) (by omega)).mp z
        rw [bf] at this; exact absurd this (by decide)
      obtain ⟨o', ho', o48', p48', ey, ex⟩ := za_fld hm (vf.2 rfl)
      have same : ∀ o2, fl (16 * o + f) = nI o2 → o2 ≤ 48 → o2 = o' := fun o2 w w2 => (nI_eq (by omega) (by omega)).mp (w.symm.trans ey)
      rcases ho' with z0 | ol'
      · refine skip (fun o2 _ w w1 w2 => ?_) (fun post hk => st np _ post (br_f nz (br_t ?_ hk)))
        · have := same o2 w w2; omega
        · rw [ex, z0, hm.2.1]; rfl
      · have q1 := za_p1 hm ol'
        have cp : (hp (p o + 1 + f)).toNatClampNeg = p o' := by rw [ex]; exact nI_clamp (by omega)
        have n0 : ¬ hp (p o + 1 + f) = 0 := by rw [ex]; exact nI_ne0 (by omega) (by omega)
        have vv : vp_in (hp (p o + 1 + f)) 49 := by rw [ex]; exact vp_in_nI (by omega) (by decide)
        by_cases w : np (p o') = 0
        · have ro' : Rr o' := cR o o' ol ro ⟨q1.1, q1.2.1, f, by omega, by rw [ec']; exact bf, ey⟩
          obtain ⟨S1, l1, m1⟩ := zx_mk hm S (Or.inr ⟨ol', ro'⟩)
          obtain ⟨np', ch', S2, l2, m2, c1, c2, hw⟩ := ih (f + 1) _ True (by omega) S1
          have lt : za_c (zx_M p l np) < za_c (zx_M p l np') := za_clt (fun a z => ⟨z.1, l2 _ (l1 _ z.2)⟩) q1.1 q1.2.1 (fun z => z.2 w) ⟨ol', l2 _ m1⟩
          refine ⟨np', ch', S2, za_let l1 l2, fun f' o2 a b c d e g => ?_, fun z => absurd trivial (c1 z).2, fun _ => Or.inr lt, fun post hpp => st np _ post (br_f nz (br_f n0 ⟨vv, br_t (by rw [cp]; exact w) ?_⟩))⟩
          · by_cases q : f' = f
            · rw [q] at d
              rw [same o2 d g]; exact l2 _ m1
            · exact m2 f' o2 (by omega) b c d e g
          · have hw' := hw post hpp
            rw [zp_t trivial] at hw'
            rw [cp]; exact hw'
        · refine skip (fun o2 _ w1 w2 w3 => ?_) (fun post hk => st np _ post (br_f nz (br_f n0 ⟨vv, br_f (by rw [cp]; exact w) hk⟩)))
          rw [same o2 w1 w3]; exact w
    · exact skip (fun o2 z => absurd z bf) (fun post hk => st np _ post (br_t ((zb_bit _ (by omega)).mpr (Bool.eq_false_iff.mpr bf)) hk))
theorem xg_21 {e0 : Nat} (hm : za_H (gX_superOf u) (gX_fieldCount u) (gX_refFields u) of fl hp p l e0) {Rr : Nat → Prop} (cR : ∀ a b, a ∈ l → Rr a → za_E (gX_fieldCount u) (gX_refFields u) of fl a b → Rr b) :
  ∀ (t : List Nat) (q i : Nat) (np : Nat → Int32) (ch : Prop), zl_lay (gX_superOf u) (gX_fieldCount u) (gX_refFields u) of fl hp p l t q e0 → (∀ o, o ∈ t → o ∈ l) → i < q → zx_S Rr p l np → ∃ (np' : Nat → Int32) (ch' : Prop), zx_S Rr p l np' ∧ za_le np np' ∧ (∀ o, o ∈ t → np (p o) ≠ 0 → ∀ o', za_E (gX_fieldCount u) (gX_refFields u) of fl o o' → np' (p o') ≠ 0) ∧ (¬ ch' → np' = np ∧ ¬ ch) ∧ (ch' → ch ∨ za_c (zx_M p l np) < za_c (zx_M p l np')) ∧
    ∀ (post : SX → Prop) (J4 : Int32 → Int32 → SX → Prop) (x2 : Int32), J4 (zp ch') (x2 + 1) (rX (nI e0) fr wu wa ou re lg dn cl sy tc lc rd co cc ca hp np' gx fm fp ce u) → kX_markFields_21 post J4 x2 (t.length + 1) (zp ch) (nI q) (nI i) (rX (nI e0) fr wu wa ou re lg dn cl sy tc lc rd co cc ca hp np gx fm fp ce u) := by
  have e49 := hm.2.2.1
  intro t
  induction t with
  | nil =>
    intro q i np ch lay hl hi2 S
    have lay : q = e0 := lay
    refine ⟨np, ch, S, za_ler np, fun o ho => absurd ho (by simp), fun w => ⟨rfl, w⟩, fun w => Or.inl w, fun post J4 x2 hJ => uX_markFields_21 (br_c (fun _ => nm_e hJ) (fun _ => br_t ?_ (nm_e hJ)))⟩
    rw [rX_heapEnd, lay]; exact nI_le (by omega) (by omega)
  | cons o t ih =>
    rintro q i np ch ⟨hob, ht⟩ hl hi2 S
    have ol := hl o List.mem_cons_self
    obtain ⟨c, c4, cu, eo, eh, ef, n16, ec, o1, o48, p1, pe, hv⟩ := za_get hm ol
    have hq : p o = q := by
      obtain ⟨c, n, _, _, _, _, _, _, h7, _⟩ := hob
      exact h7
    subst hq
    have hl' : ∀ a, a ∈ t → a ∈ l := fun a ha => hl a (List.mem_cons_of_mem _ ha)
    have n48 : ¬ (48 : Int32) ≤ nI i := nI_ge (b := 48) (by omega) (by decide)
    have ne : ¬ nI e0 ≤ nI (p o) := nI_ge (by omega) (by omega)
    have vo : vp_in (nI (p o)) 49 := vp_in_nI (by omega) (by decide)
    have sz : zl_sz (gX_fieldCount u) of o = 1 + za_n (gX_fieldCount u) of o := rfl
    have esz : nI (p o) + nI (1 + za_n (gX_fieldCount u) of o) = nI (p o + zl_sz (gX_fieldCount u) of o) := by rw [nI_add, sz]
    -- behind the object
    have nx : ∀ (post : SX → Prop) (J4 : Int32 → Int32 → SX → Prop) (x1 x2 : Int32) (np : Nat → Int32), kX_markFields_21 post J4 x2 (t.length + 1) x1 (nI (p o + zl_sz (gX_fieldCount u) of o)) (nI (i + 1)) (rX (nI e0) fr wu wa ou re lg dn cl sy tc lc rd co cc ca hp np gx fm fp ce u) → kX_markFields_55 post J4 (kX_markFields_21 post J4 x2 (t.length + 1)) x1 x2 (nI (p o)) (nI i) (rX (nI e0) fr wu wa ou re lg dn cl sy tc lc rd co cc ca hp np gx fm fp ce u) := fun post J4 x1 x2 np hk => uX_markFields_55 (x_words (by omega) c4 eh ef (nm_r esz (nm_r (nI_1 i) hk)))
    by_cases w : np (p o) = 0
    · obtain ⟨np', ch', S2, l2, m2, c1, c2, hw⟩ := ih _ (i + 1) np ch ht hl' (by omega) S
      refine ⟨np', ch', S2, l2, fun a ha wa b hE => ?_, c1, c2, fun post J4 x2 hJ => uX_markFields_21 (br_f n48 (br_f ?_ ⟨vo, br_t ?_ (nx post J4 _ x2 np (hw post J4 x2 hJ))⟩))⟩
      · rcases List.mem_cons.mp ha with rfl | ha
        · exact absurd w wa
        · exact m2 a ha wa b hE
      · rw [rX_heapEnd]; exact ne
      · rw [rX_newPlaces, nI_clamp (by omega)]; exact w
    · have ro := S o ol w
      obtain ⟨np1, ch1, S1, l1, m1, d1, d2, w1⟩ := xg_17 (he := nI e0) (fr := fr) (wu := wu) (wa := wa) (ou := ou) (lg := lg) (dn := dn) (cl := cl) (sy := sy) (tc := tc) (lc := lc) (re := re) (rd := rd) (co := co) (cc := cc) (ca := ca) (hp := hp) (gx := gx) (fm := fm) (fp := fp) (ce := ce) hm cR ol ro c4 eh ec ef (za_n (gX_fieldCount u) of o) 0 np False (by omega) S
      obtain ⟨np', ch', S2, l2, m2, c1, c2, hw⟩ := ih _ (i + 1) np1 (ch ∨ ch1) ht hl' (by omega) S1
      refine ⟨np', ch', S2, za_let l1 l2, fun a ha wa b hE => ?_, fun z => ?_, fun z => ?_, fun post J4 x2 hJ => uX_markFields_21 (br_f n48 (br_f ?_ ⟨vo, br_f ?_ (upX_markFieldsOf ⟨vo, ?_⟩)⟩))⟩
      · rcases List.mem_cons.mp ha with rfl | ha
        · obtain ⟨b1, b48, f, hf, hb2, ef2⟩ := hE
          rw [ec] at hb2
          exact l2 _ (m1 f b (by omega) hf hb2 ef2 b1 b48)
        · exact m2 a ha (l1 _ wa) b hE
      · obtain ⟨z1, z2⟩ := c1 z
        obtain ⟨z3, _⟩ := d1 (fun q => z2 (Or.inr q))
        exact ⟨z1.trans z3, fun q => z2 (Or.inl q)⟩
      · have le1 := zx_Mle (p := p) (l := l) l1
        have le2 := zx_Mle (p := p) (l := l) l2
        rcases c2 z with (q | q) | q
        · exact Or.inl q
        · rcases d2 q with q | q
          · exact q.elim
          · exact Or.inr (by omega)
        · exact Or.inr (by omega)
      · rw [rX_heapEnd]; exact ne
      · rw [rX_newPlaces, nI_clamp (by omega)]; exact w
      · rw [rX_heap, rX_refFields, nI_clamp (n := p o) (by omega), eh, nI_clamp (n := c) (by omega)]
        have hk := hw post J4 x2 hJ
        have w1' := w1 (fun r_52 u1 => (((r_52 = 0 → (kX_markFields_55 post J4 (kX_markFields_21 post J4 x2 (t.length + 1)) (zp ch) x2 (nI (p o)) (nI i) u1)) ∧ (¬ r_52 = 0 → (kX_markFields_55 post J4 (kX_markFields_21 post J4 x2 (t.length + 1)) 1 x2 (nI (p o)) (nI i) u1))))) (zp_br (fun q => nx post J4 _ x2 np1 (by rw [zp_c (show (ch ∨ ch1) ↔ ch from ⟨fun z => z.resolve_right q, Or.inl⟩)] at hk; exact hk)) (fun q => nx post J4 _ x2 np1 (by rw [zp_t (Or.inr q)] at hk; exact hk)))
        rw [zp_f (fun z => z)] at w1'
        exact ⟨vp_in_nI c4 (by decide), nm_e ⟨_, w1'⟩⟩
theorem xg_4 {e0 : Nat} (hm : za_H (gX_superOf u) (gX_fieldCount u) (gX_refFields u) of fl hp p l e0) {Rt : Nat → Prop} (hRt : ∀ o, Rt o → o ∈ l) (he1 : 1 ≤ e0) :
  ∀ (d k : Nat) (np : Nat → Int32) (ch : Prop), k + d = 49 → zx_S (za_R Rt (za_E (gX_fieldCount u) (gX_refFields u) of fl)) p l np → (∀ o, Rt o → np (p o) ≠ 0) → ((¬ ch ∧ ∀ o, za_R Rt (za_E (gX_fieldCount u) (gX_refFields u) of fl) o → np (p o) ≠ 0) ∨ (ch ∧ k ≤ za_c (zx_M p l np))) →
    ∃ np', zx_S (za_R Rt (za_E (gX_fieldCount u) (gX_refFields u) of fl)) p l np' ∧ (∀ o, za_R Rt (za_E (gX_fieldCount u) (gX_refFields u) of fl) o → np' (p o) ≠ 0) ∧ ∀ post : SX → Prop, post (rX (nI e0) fr wu wa ou re lg dn cl sy tc lc rd co cc ca hp np' gx fm fp ce u) → kX_markFields_4 post (d + 1) (zp ch) (nI k) (rX (nI e0) fr wu wa ou re lg dn cl sy tc lc rd co cc ca hp np gx fm fp ce u) := by
  intro d
  induction d with
  | zero =>
    intro k np ch h S rm I
    rcases I with ⟨n, cm⟩ | ⟨_, n⟩
    · exact ⟨np, S, cm, fun post hpp => uX_markFields_4 (br_t (nI_lt (a := 48) (b := k) (by omega) (by omega)) hpp)⟩
    · have := za_c48 (zx_M p l np); omega
  | succ d ih =>
    intro k np ch h S rm I
    have n48 : ¬ (48 : Int32) < nI k := nI_nlt (a := 48) (b := k) (by omega) (by decide)
    rcases I with ⟨n, cm⟩ | ⟨n, le⟩
    · refine ⟨np, S, cm, fun post hpp => uX_markFields_4 (br_f n48 (br_t ?_ hpp))⟩
      rw [zp_f n]
    · obtain ⟨np1, ch1, S1, l1, m1, c1, c2, w1⟩ := xg_21 (fr := fr) (wu := wu) (wa := wa) (ou := ou) (lg := lg) (dn := dn) (cl := cl) (sy := sy) (tc := tc) (lc := lc) (re := re) (rd := rd) (co := co) (cc := cc) (ca := ca) (hp := hp) (gx := gx) (fm := fm) (fp := fp) (ce := ce) hm (fun a b _ ra hE => za_Rs ra hE) l 1 0 np False hm.2.2.2 (fun _ z => z) (by omega) S
      have I1 : (¬ ch1 ∧ ∀ o, za_R Rt (za_E (gX_fieldCount u) (gX_refFields u) of fl) o → np1 (p o) ≠ 0) ∨ (ch1 ∧ k + 1 ≤ za_c (zx_M p l np1)) := by
        by_cases q : ch1
        · rcases c2 q with z | z
          · exact z.elim
          · exact Or.inr ⟨q, by omega⟩
        · refine Or.inl ⟨q, fun o ro => ?_⟩
          have e1 := (c1 q).1
          have := ro (fun a => a ∈ l ∧ np1 (p a) ≠ 0) (fun a ra => ⟨hRt a ra, l1 _ (rm a ra)⟩) (fun a b ha hE => ⟨za_Rl hm (Rt := fun x => x = a) (fun x hx => by have hx : x = a := hx; rw [hx]; exact ha.1) (za_Rs (za_R0 (show a = a from rfl)) hE), m1 a ha.1 (by have z := ha.2; rw [e1] at z; exact z) b hE⟩)
          exact this.2
      obtain ⟨np', S2, cm, hw⟩ := ih (k + 1) np1 ch1 (by omega) S1 (fun o ro => l1 _ (rm o ro)) I1
      refine ⟨np', S2, cm, fun post hpp => uX_markFields_4 (br_f n48 (br_f ?_ ⟨l.length + 1, ?_⟩))⟩
      · rw [zp_t n]; decide
      · have w1' := w1 post (kX_markFields_4 post (d + 1)) (nI k) (by rw [nI_1]; exact hw post hpp)
        rw [zp_f (fun z => z)] at w1'
        exact w1'
/-- X marks all that is reached -/
theorem xg_all {e0 : Nat} (hm : za_H (gX_superOf u) (gX_fieldCount u) (gX_refFields u) of fl hp p l e0) {Rt : Nat → Prop} (hRt : ∀ o, Rt o → o ∈ l) (he1 : 1 ≤ e0) (S : zx_S (za_R Rt (za_E (gX_fieldCount u) (gX_refFields u) of fl)) p l np) (rm : ∀ o, Rt o → np (p o) ≠ 0) :
  ∃ np', zx_S (za_R Rt (za_E (gX_fieldCount u) (gX_refFields u) of fl)) p l np' ∧ (∀ o, za_R Rt (za_E (gX_fieldCount u) (gX_refFields u) of fl) o → np' (p o) ≠ 0) ∧ ∀ post : SX → Prop, post (rX (nI e0) fr wu wa ou re lg dn cl sy tc lc rd co cc ca hp np' gx fm fp ce u) → wpX_markFields post (rX (nI e0) fr wu wa ou re lg dn cl sy tc lc rd co cc ca hp np gx fm fp ce u) := by
  obtain ⟨np', S2, cm, hw⟩ := xg_4 (fr := fr) (wu := wu) (wa := wa) (ou := ou) (lg := lg) (dn := dn) (cl := cl) (sy := sy) (tc := tc) (lc := lc) (re := re) (rd := rd) (co := co) (cc := cc) (ca := ca) (hp := hp) (gx := gx) (fm := fm) (fp := fp) (ce := ce) hm hRt he1 49 0 np True rfl S rm (Or.inr ⟨trivial, Nat.zero_le _⟩)
  refine ⟨np', S2, cm, fun post hpp => upX_markFields ⟨50, ?_⟩⟩
  have := hw post hpp
  rw [zp_t trivial] at this
  exact this
end
