/-! X gives places, and moves -/
def za_mv (np f : Nat → Int32) (b : Nat → Bool) (k i : Nat) : Int32 := if i < k ∧ b i = true then np (f i).toNatClampNeg else f i
theorem za_mv0 {np f : Nat → Int32} {b : Nat → Bool} : za_mv np f b 0 = f := by
  funext i; unfold za_mv; rw [if_neg (by omega)]
theorem za_mvk {np f : Nat → Int32} {b : Nat → Bool} {k : Nat} : za_mv np f b k k = f k := by
  unfold za_mv; rw [if_neg (by omega)]
theorem za_mvs {np f : Nat → Int32} {b : Nat → Bool} {k : Nat} (h : b k = true) : upd (za_mv np f b k) k (np (f k).toNatClampNeg) = za_mv np f b (k + 1) := by
  funext i
  by_cases e : i = k
  · subst e
    rw [pk_us]; unfold za_mv; rw [if_pos ⟨by omega, h⟩]
  · rw [pk_un e]; unfold za_mv
    by_cases q : i < k ∧ b i = true
    · rw [if_pos q, if_pos ⟨by omega, q.2⟩]
    · rw [if_neg q, if_neg (fun z => q ⟨by omega, z.2⟩)]
theorem za_mvn {np f : Nat → Int32} {b : Nat → Bool} {k : Nat} (h : ¬ b k = true) : za_mv np f b k = za_mv np f b (k + 1) := by
  funext i
  unfold za_mv
  by_cases q : i < k ∧ b i = true
  · rw [if_pos q, if_pos ⟨by omega, q.2⟩]
  · rw [if_neg q, if_neg (fun z => ?_)]
    by_cases e : i = k
    · subst e; exact h z.2
    · exact q ⟨by omega, z.2⟩
section
variable {u : SX} {v : SY} {he fr wu wa ou lg dn cl sy tc lc us st og an : Int32} {re : Int64} {rd co cc ca hp np gx fm fp ce cd lk of fl gy mk hi lo sk : Nat → Int32}
variable {H : Nat → Nat} {R : Nat → Prop} {K : Nat → Nat → Nat} {p : Nat → Nat} {l : List Nat}
theorem xg_6 {e0 : Nat} (hm : za_H (gX_superOf u) (gX_fieldCount u) (gX_refFields u) of fl hp p l e0) {b : Nat → Bool} {P : Nat → Nat} :
  ∀ (t : List Nat) (q i r : Nat) (np : Nat → Int32) (sy : Int32), zl_lay (gX_superOf u) (gX_fieldCount u) (gX_refFields u) of fl hp p l t q e0 → (∀ o, o ∈ t → o ∈ l) → i < q → (∀ o, o ∈ t → (np (p o) ≠ 0 ↔ b o = true)) → za_at b (zl_sz (gX_fieldCount u) of) P t r →
  ∃ np', (∀ a, a < q → np' a = np a) ∧ (∀ o, o ∈ t → np' (p o) = if b o then nI (P o) else 0) ∧ ∀ post : SX → Prop, post (rX (nI e0) fr wu wa ou re lg dn cl (sy + nI (t.filter b).length) tc lc rd co cc ca hp (upd np' 0 0) gx fm fp ce u) → kX_choosePlaces_6 post (t.length + 1) (nI r) (nI q) (nI i) (rX (nI e0) fr wu wa ou re lg dn cl sy tc lc rd co cc ca hp np gx fm fp ce u) := by
  have e49 := hm.2.2.1
  intro t
  induction t with
  | nil =>
    intro q i r np sy lay hl hi2 hn ha
    have lay : q = e0 := lay
    have z0 : sy + nI ([] : List Nat).length = sy := by rw [show ([] : List Nat).length = 0 from rfl, nI_0]; exact Int32.add_zero sy
    refine ⟨np, fun _ _ => rfl, fun o ho => absurd ho (by simp), fun post hpp => ?_⟩
    rw [show List.filter b [] = [] from rfl, z0] at hpp
    have fin : ∀ a : Nat → Int32, a = upd (gX_newPlaces (rX (nI e0) fr wu wa ou re lg dn cl sy tc lc rd co cc ca hp np gx fm fp ce u)) 0 0 → post (sX_newPlaces a (rX (nI e0) fr wu wa ou re lg dn cl sy tc lc rd co cc ca hp np gx fm fp ce u)) := by
      rw [rX_newPlaces]
      refine nm_e ?_
      rw [rX__newPlaces]; exact hpp
    refine uX_choosePlaces_6 (br_c (fun _ => fin) (fun _ => br_t ?_ fin))
    rw [rX_heapEnd, lay]; exact nI_le (by omega) (by omega)
  | cons o t ih =>
    rintro q i r np sy ⟨hob, ht⟩ hl hi2 hn ha
    have ol := hl o List.mem_cons_self
    obtain ⟨c, c4, cu, eo, eh, ef, n16, ec, o1, o48, p1, pe, hv⟩ := za_get hm ol
    have hq : p o = q := by
      obtain ⟨c, n, _, _, _, _, _, _, h7, _⟩ := hob
      exact h7
    subst hq
    have hl' : ∀ a, a ∈ t → a ∈ l := fun a ha => hl a (List.mem_cons_of_mem _ ha)
    have n48 : ¬ (48 : Int32) ≤ nI i := nI_ge (b := 48) (by omega) (by decide)
    have ne : ¬ nI e0 ≤ nI (p o) := nI_ge (by omega) (by omega)
    have vo : vp_in (nI (p o)) 49 := vp_in_nI (by omega) (by decide)
    have sz : zl_sz (gX_fieldCount u) of o = 1 + za_n (gX_fieldCount u) of o := rfl
    have esz : nI (p o) + nI (1 + za_n (gX_fieldCount u) of o) = nI (p o + zl_sz (gX_fieldCount u) of o) := by rw [nI_add, sz]
    have far : ∀ a, a ∈ t → p o < p a := fun a ha => by
      have := ((zl_find _ _ _ ht).2 a ha).2.1
      omega
    have hP : P o = r := ha.1
    by_cases w : b o = true
    · have ha2 := ha.2
      rw [if_pos w] at ha2
      obtain ⟨np', k1, k2, hw⟩ := ih _ (i + 1) _ (upd np (p o) (nI r)) (sy + 1) ht hl' (by omega) (fun a haa => by rw [pk_un (by have := far a haa; omega)]; exact hn a (List.mem_cons_of_mem _ haa)) ha2
      refine ⟨np', fun a haa => ?_, fun a haa => ?_, fun post hpp => uX_choosePlaces_6 (br_f n48 (br_f ?_ (x_words (by omega) c4 eh ef ⟨vo, br_f ?_ ⟨vo, ?_⟩⟩)))⟩
      · rw [k1 a (by omega), pk_un (by omega)]
      · rcases List.mem_cons.mp haa with q | haa
        · rw [q, if_pos w, k1 _ (by omega), pk_us, hP]
        · exact k2 a haa
      · rw [rX_heapEnd]; exact ne
      · rw [rX_newPlaces, nI_clamp (by omega)]; exact (hn o List.mem_cons_self).mpr w
      · rw [rX_newPlaces, rX_stayed, nI_clamp (n := p o) (by omega)]
        refine nm_e (nm_r (show nI r + nI (1 + za_n (gX_fieldCount u) of o) = nI (r + zl_sz (gX_fieldCount u) of o) by rw [nI_add, sz]) (nm_e (nm_r esz (nm_r (nI_1 i) ?_))))
        rw [rX__stayed_newPlaces]
        refine hw post ?_
        have el : sy + 1 + nI (t.filter b).length = sy + nI ((o :: t).filter b).length := by
          rw [List.filter_cons_of_pos w, show (o :: t.filter b).length = (t.filter b).length + 1 from rfl, ← nI_1, Int32.add_assoc, Int32.add_comm 1]
        rw [el]; exact hpp
    · have ha2 := ha.2
      rw [if_neg w] at ha2
      have z : np (p o) = 0 := Classical.byContradiction (fun z => w ((hn o List.mem_cons_self).mp z))
      obtain ⟨np', k1, k2, hw⟩ := ih _ (i + 1) _ np sy ht hl' (by omega) (fun a haa => hn a (List.mem_cons_of_mem _ haa)) ha2
      refine ⟨np', fun a haa => k1 a (by omega), fun a haa => ?_, fun post hpp => uX_choosePlaces_6 (br_f n48 (br_f ?_ (x_words (by omega) c4 eh ef ⟨vo, br_t ?_ (nm_r esz (nm_r (nI_1 i) (hw post ?_)))⟩)))⟩
      · rcases List.mem_cons.mp haa with q | haa
        · rw [q, if_neg w, k1 _ (by omega), z]
        · exact k2 a haa
      · rw [rX_heapEnd]; exact ne
      · rw [rX_newPlaces, nI_clamp (by omega)]; exact z
      · rw [List.filter_cons_of_neg w] at hpp; exact hpp
theorem xh_48 {D j : Nat} (hD : D ≤ 12) (hj : j < D + 1) (hq : ∀ k, k < 12 * (D + 1) → zq_b (gX_refMaps u) cc fm fp k = true → vp_in (ce k) 49) {post : SX → Prop} {J : Int32 → SX → Prop} :
  ∀ d e, e + d = 12 → J (nI (j + 1)) (rX he fr wu wa ou re lg dn cl sy tc lc rd co cc ca hp np gx fm fp (za_mv np ce (zq_b (gX_refMaps u) cc fm fp) (12 * (j + 1))) u) → kX_moveRoots_48 post J (nI j) (zq_r (gX_refMaps u) cc fm fp j) (d + 1) (nI e) (rX he fr wu wa ou re lg dn cl sy tc lc rd co cc ca hp np gx fm fp (za_mv np ce (zq_b (gX_refMaps u) cc fm fp) (12 * j + e)) u) := by
  intro d
  induction d with
  | zero =>
    intro e h hJ
    have : 12 * j + e = 12 * (j + 1) := by omega
    rw [this]
    exact uX_moveRoots_48 (br_t (nI_le (a := 12) (b := e) (by omega) (by omega)) (nm_r (nI_1 j) hJ))
  | succ d ih =>
    intro e h hJ
    have e12 : e < 12 := by omega
    have n12 : ¬ (12 : Int32) ≤ nI e := nI_ge (b := 12) (by omega) (by decide)
    have eb := zq_be (RM := gX_refMaps u) (cc := cc) (fm := fm) (fp := fp) (j := j) e12
    have i1 := ih (e + 1) (by omega) hJ
    rw [← Nat.add_assoc] at i1
    by_cases w : zq_b (gX_refMaps u) cc fm fp (12 * j + e) = true
    · have vv := hq (12 * j + e) (by omega) w
      have vk : vp_in (nI (12 * j + e)) 168 := vp_in_nI (by omega) (by decide)
      refine uX_moveRoots_48 (br_f n12 (nm_r (zq_12 j e) (br_f ?_ ?_)))
      · intro z
        have z1 := (zb_bit _ (j := e) (by omega)).mp z
        rw [← eb, w] at z1
        exact absurd z1 (by decide)
      · rw [rX_cells, rX_newPlaces, nI_clamp (n := 12 * j + e) (by omega), za_mvk, za_mvs w]
        refine ⟨vk, vv, vk, nm_e (nm_r (nI_1 e) ?_)⟩
        rw [rX__cells]; exact i1
    · rw [← za_mvn w] at i1
      refine uX_moveRoots_48 (br_f n12 (nm_e (br_t ?_ (nm_r (nI_1 e) i1))))
      refine (zb_bit _ (by omega)).mpr ?_
      rw [← eb]; exact Bool.eq_false_iff.mpr w
theorem xh_32 {D : Nat} (hD : D ≤ 12) (hfr : zq_F fm fp D) (hq : ∀ k, k < 12 * (D + 1) → zq_b (gX_refMaps u) cc fm fp k = true → vp_in (ce k) 49) {post : SX → Prop} (hpp : post (rX he (nI (D + 1)) wu wa ou re lg dn cl sy tc lc rd co cc ca hp np gx fm fp (za_mv np ce (zq_b (gX_refMaps u) cc fm fp) (12 * (D + 1))) u)) :
  ∀ d j, j + d = D + 1 → kX_moveRoots_32 post (d + 1) (nI j) (rX he (nI (D + 1)) wu wa ou re lg dn cl sy tc lc rd co cc ca hp np gx fm fp (za_mv np ce (zq_b (gX_refMaps u) cc fm fp) (12 * j)) u) := by
  intro d
  induction d with
  | zero =>
    intro j h
    have : j = D + 1 := by omega
    subst this
    refine uX_moveRoots_32 (br_t ?_ hpp)
    rw [rX_frames]; exact nI_le (by omega) (by omega)
  | succ d ih =>
    intro j h
    obtain ⟨m, i, m8, i24, e1, e2⟩ := hfr j (by omega)
    refine uX_moveRoots_32 (br_f ?_ (x_roots (by omega) m8 i24 e1 e2 ⟨13, xh_48 hD (by omega) hq 12 0 rfl (ih (j + 1) (by omega))⟩))
    rw [rX_frames]; exact nI_ge (by omega) (by omega)
theorem xh_2 {post : SX → Prop} (hg : ∀ g, g < 4 → vp_in (gx g) 49) (hpp : ∃ n, kX_moveRoots_32 post n 0 (rX he fr wu wa ou re lg dn cl sy tc lc rd co cc ca hp np (za_mv np gx (fun _ => true) 4) fm fp ce u)) :
  ∀ d g, g + d = 4 → kX_moveRoots_2 post (d + 1) (nI g) (rX he fr wu wa ou re lg dn cl sy tc lc rd co cc ca hp np (za_mv np gx (fun _ => true) g) fm fp ce u) := by
  intro d
  induction d with
  | zero =>
    intro g h
    have : g = 4 := by omega
    subst this
    exact uX_moveRoots_2 (br_t (by decide) hpp)
  | succ d ih =>
    intro g h
    have vg : vp_in (nI g) 4 := vp_in_nI (by omega) (by decide)
    refine uX_moveRoots_2 (br_f (nI_ge (b := 4) (by omega) (by decide)) ?_)
    rw [rX_globals, rX_newPlaces, nI_clamp (n := g) (by omega), za_mvk, za_mvs rfl]
    refine ⟨vg, hg g (by omega), vg, nm_e (nm_r (nI_1 g) ?_)⟩
    rw [rX__globals]; exact ih (g + 1) (by omega)
/-- X moves the roots -/
theorem xh_roots {D : Nat} (hD : D ≤ 12) (hfr : zq_F fm fp D) (hg : ∀ g, g < 4 → vp_in (gx g) 49) (hq : ∀ k, k < 12 * (D + 1) → zq_b (gX_refMaps u) cc fm fp k = true → vp_in (ce k) 49) {post : SX → Prop} (hpp : post (rX he (nI (D + 1)) wu wa ou re lg dn cl sy tc lc rd co cc ca hp np (za_mv np gx (fun _ => true) 4) fm fp (za_mv np ce (zq_b (gX_refMaps u) cc fm fp) (12 * (D + 1))) u)) : wpX_moveRoots post (rX he (nI (D + 1)) wu wa ou re lg dn cl sy tc lc rd co cc ca hp np gx fm fp ce u) := by
  have i1 := xh_32 hD hfr hq hpp (D + 1) 0 (by omega)
  rw [Nat.mul_zero, za_mv0] at i1
  have i2 := xh_2 hg ⟨_, i1⟩ 4 0 rfl
  rw [za_mv0] at i2
  exact upX_moveRoots ⟨_, i2⟩
theorem xo_28 {q r n : Nat} {R4 : Int32} (rq : r ≤ q) (q49 : q + 1 + n ≤ 49) (n16 : n ≤ 16) (hv : ∀ j, j < n → bt R4 j = true → vp_in (hp (q + 1 + j)) 49) :
  ∀ (d f : Nat) (hq : Nat → Int32), f + d = n → (∀ j, f ≤ j → j < n → hq (q + 1 + j) = hp (q + 1 + j)) → ∃ hq', (∀ a, a < r + 1 + f → hq' a = hq a) ∧ (∀ a, r + 1 + n ≤ a → hq' a = hq a) ∧ (∀ j, f ≤ j → j < n → hq' (r + 1 + j) = if bt R4 j then np (hp (q + 1 + j)).toNatClampNeg else hp (q + 1 + j)) ∧ ∀ post : SX → Prop, post (rX he fr wu wa ou re lg dn cl sy tc lc rd co cc ca hq' np gx fm fp ce u) → kX_moveObject_28 post (nI q) (nI r) (nI (1 + n)) R4 (d + 1) (nI f) (rX he fr wu wa ou re lg dn cl sy tc lc rd co cc ca hq np gx fm fp ce u) := by
  have e1 : nI (1 + n) - 1 = nI n := by rw [Nat.add_comm]; exact nI_pred n
  intro d
  induction d with
  | zero =>
    intro f hq h _
    refine ⟨hq, fun _ _ => rfl, fun _ _ => rfl, fun j a b => by omega, fun post hpp => uX_moveObject_28 (br_t ?_ hpp)⟩
    rw [e1]; exact nI_le (by omega) (by omega)
  | succ d ih =>
    intro f hq h same
    have sf := same f (by omega) (by omega)
    have same' : ∀ x j, f + 1 ≤ j → j < n → upd hq (r + 1 + f) x (q + 1 + j) = hp (q + 1 + j) := fun x j a b => by rw [pk_un (by omega)]; exact same j (by omega) b
    have st : ∀ (post : SX → Prop), ((bt R4 f = false → kX_moveObject_28 post (nI q) (nI r) (nI (1 + n)) R4 (d + 1) (nI (f + 1)) (rX he fr wu wa ou re lg dn cl sy tc lc rd co cc ca (upd hq (r + 1 + f) (hp (q + 1 + f))) np gx fm fp ce u)) ∧ (bt R4 f = true → kX_moveObject_28 post (nI q) (nI r) (nI (1 + n)) R4 (d + 1) (nI (f + 1)) (rX he fr wu wa ou re lg dn cl sy tc lc rd co cc ca (upd hq (r + 1 + f) (np (hp (q + 1 + f)).toNatClampNeg)) np gx fm fp ce u))) → kX_moveObject_28 post (nI q) (nI r) (nI (1 + n)) R4 (d + 1 + 1) (nI f) (rX he fr wu wa ou re lg dn cl sy tc lc rd co cc ca hq np gx fm fp ce u) := by
      intro post hh
      refine uX_moveObject_28 ?_
      rw [e1, rX_heap, rX_newPlaces, show nI q + 1 + nI f = nI (q + 1 + f) by rw [nI_1, nI_add], show nI r + 1 + nI f = nI (r + 1 + f) by rw [nI_1, nI_add], nI_clamp (n := q + 1 + f) (by omega), nI_clamp (n := r + 1 + f) (by omega), sf]
      have vr : vp_in (nI (r + 1 + f)) 49 := vp_in_nI (by omega) (by decide)
      refine br_f (nI_ge (by omega) (by omega)) ⟨vp_in_nI (by omega) (by decide), nm_e ?_⟩
      by_cases w : bt R4 f = true
      · refine br_f (fun z => ?_) ⟨hv f (by omega) w, vr, nm_e (nm_r (nI_1 f) ?_)⟩
        · have := (zb_bit _ (j := f) (by omega)).mp z
          rw [w] at this; exact absurd this (by decide)
        · rw [rX__heap]; exact hh.2 w
      · have w := Bool.eq_false_iff.mpr w
        refine br_t ((zb_bit _ (by omega)).mpr w) ⟨vr, nm_e (nm_r (nI_1 f) ?_)⟩
        rw [rX__heap]; exact hh.1 w
    by_cases w : bt R4 f = true
    · obtain ⟨hq', k1, k2, k3, hw⟩ := ih (f + 1) _ (by omega) (same' (np (hp (q + 1 + f)).toNatClampNeg))
      refine ⟨hq', fun a z => ?_, fun a z => ?_, fun j a b => ?_, fun post hpp => st post ⟨fun z => absurd (w.symm.trans z) (by decide), fun _ => hw post hpp⟩⟩
      · rw [k1 a (by omega), pk_un (by omega)]
      · rw [k2 a z, pk_un (by omega)]
      · by_cases e : j = f
        · rw [e, k1 _ (by omega), pk_us, if_pos w]
        · exact k3 j (by omega) b
    · obtain ⟨hq', k1, k2, k3, hw⟩ := ih (f + 1) _ (by omega) (same' (hp (q + 1 + f)))
      refine ⟨hq', fun a z => ?_, fun a z => ?_, fun j a b => ?_, fun post hpp => st post ⟨fun _ => hw post hpp, fun z => absurd z w⟩⟩
      · rw [k1 a (by omega), pk_un (by omega)]
      · rw [k2 a z, pk_un (by omega)]
      · by_cases e : j = f
        · rw [e, k1 _ (by omega), pk_us, if_neg w]
        · exact k3 j (by omega) b
theorem xo_obj {q r n c : Nat} (rq : r ≤ q) (q49 : q + 1 + n ≤ 49) (n16 : n ≤ 16) (c4 : c < 4) (eh : hp q = nI c) (hv : ∀ j, j < n → bt (gX_refFields u c) j = true → vp_in (hp (q + 1 + j)) 49) {hq : Nat → Int32} (same : ∀ a, q ≤ a → hq a = hp a) :
  ∃ hq', (∀ a, a < r → hq' a = hq a) ∧ (∀ a, r + 1 + n ≤ a → hq' a = hq a) ∧ hq' r = nI c ∧ (∀ j, j < n → hq' (r + 1 + j) = if bt (gX_refFields u c) j then np (hp (q + 1 + j)).toNatClampNeg else hp (q + 1 + j)) ∧ ∀ post : SX → Prop, post (rX he fr wu wa ou re lg dn cl sy tc lc rd co cc ca hq' np gx fm fp ce u) → wpX_moveObject post (rX he fr wu wa ou re lg dn cl sy tc lc rd co cc ca hq np gx fm fp ce u) (nI q) (nI r) (nI (1 + n)) := by
  have sq : hq q = nI c := by rw [same q (by omega)]; exact eh
  obtain ⟨hq', k1, k2, k3, hw⟩ := xo_28 (he := he) (fr := fr) (wu := wu) (wa := wa) (ou := ou) (lg := lg) (dn := dn) (cl := cl) (sy := sy) (tc := tc) (lc := lc) (re := re) (rd := rd) (co := co) (cc := cc) (ca := ca) (np := np) (gx := gx) (fm := fm) (fp := fp) (ce := ce) (hp := hp) rq q49 n16 hv n 0 (upd hq r (nI c)) (by omega) (fun j _ _ => by rw [pk_un (by omega)]; exact same _ (by omega))
  refine ⟨hq', fun a z => ?_, fun a z => ?_, ?_, fun j z => k3 j (by omega) z, fun post hpp => upX_moveObject ?_⟩
  · rw [k1 a (by omega), pk_un (by omega)]
  · rw [k2 a z, pk_un (by omega)]
  · rw [k1 r (by omega), pk_us]
  · rw [rX_heap, rX_refFields, nI_clamp (n := q) (by omega), nI_clamp (n := r) (by omega), sq, nI_clamp (n := c) (by omega)]
    have vq : vp_in (nI q) 49 := vp_in_nI (by omega) (by decide)
    refine ⟨vq, vp_in_nI c4 (by decide), nm_e ⟨vq, vp_in_nI (by omega) (by decide), nm_e ⟨n + 1, ?_⟩⟩⟩
    rw [rX__heap]; exact hw post hpp
theorem xo_6 {e0 : Nat} (hm : za_H (gX_superOf u) (gX_fieldCount u) (gX_refFields u) of fl hp p l e0) {b : Nat → Bool} {P : Nat → Nat} (hN : ∀ o, o ∈ l → np (p o) = if b o then nI (P o) else 0) :
  ∀ (t : List Nat) (q i r : Nat) (hq : Nat → Int32), zl_lay (gX_superOf u) (gX_fieldCount u) (gX_refFields u) of fl hp p l t q e0 → (∀ o, o ∈ t → o ∈ l) → i < q → 1 ≤ r → r ≤ q → (∀ a, q ≤ a → hq a = hp a) → za_at b (zl_sz (gX_fieldCount u) of) P t r →
  ∃ hq', (∀ a, a < r → hq' a = hq a) ∧ (∀ o, o ∈ t → b o = true → za_mo (gX_fieldCount u) (gX_refFields u) of hp np hq' p P o) ∧ ∀ post : SX → Prop, post (rX (nI (r + za_s (zl_sz (gX_fieldCount u) of) (t.filter b))) fr wu wa ou re lg dn cl sy tc lc rd co cc ca hq' np gx fm fp ce u) → kX_moveObjects_6 post (t.length + 1) (nI r) (nI q) (nI i) (rX (nI e0) fr wu wa ou re lg dn cl sy tc lc rd co cc ca hq np gx fm fp ce u) := by
  have e49 := hm.2.2.1
  intro t
  induction t with
  | nil =>
    intro q i r hq lay hl hi2 r1 rq same ha
    have lay : q = e0 := lay
    refine ⟨hq, fun _ _ => rfl, fun o ho => absurd ho (by simp), fun post hpp => ?_⟩
    have fin : post (sX_heapEnd (nI r) (rX (nI e0) fr wu wa ou re lg dn cl sy tc lc rd co cc ca hq np gx fm fp ce u)) := by
      rw [rX__heapEnd]; exact hpp
    refine uX_moveObjects_6 (br_c (fun _ => fin) (fun _ => br_t ?_ fin))
    rw [rX_heapEnd, lay]; exact nI_le (by omega) (by omega)
  | cons o t ih =>
    rintro q i r hq ⟨hob, ht⟩ hl hi2 r1 rq same ha
    have ol := hl o List.mem_cons_self
    obtain ⟨c, c4, cu, eo, eh, ef, n16, ec, o1, o48, p1, pe, hv⟩ := za_get hm ol
    have hq0 : p o = q := by
      obtain ⟨c, n, _, _, _, _, _, _, h7, _⟩ := hob
      exact h7
    subst hq0
    have hl' : ∀ a, a ∈ t → a ∈ l := fun a ha => hl a (List.mem_cons_of_mem _ ha)
    have n48 : ¬ (48 : Int32) ≤ nI i := nI_ge (b := 48) (by omega) (by decide)
    have ne : ¬ nI e0 ≤ nI (p o) := nI_ge (by omega) (by omega)
    have vo : vp_in (nI (p o)) 49 := vp_in_nI (by omega) (by decide)
    have sz : zl_sz (gX_fieldCount u) of o = 1 + za_n (gX_fieldCount u) of o := rfl
    have esz : nI (p o) + nI (1 + za_n (gX_fieldCount u) of o) = nI (p o + zl_sz (gX_fieldCount u) of o) := by rw [nI_add, sz]
    have hP : P o = r := ha.1
    have ehq : hq (p o) = nI c := by rw [same _ (by omega)]; exact eh
    have en := hN o ol
    have ha2 := ha.2
    by_cases w : b o = true
    · rw [if_pos w] at ha2 en
      rw [hP] at en
      obtain ⟨h1, k1, k2, k3, k4, w1⟩ := xo_obj (he := nI e0) (fr := fr) (wu := wu) (wa := wa) (ou := ou) (lg := lg) (dn := dn) (cl := cl) (sy := sy) (tc := tc) (lc := lc) (re := re) (rd := rd) (co := co) (cc := cc) (ca := ca) (np := np) (gx := gx) (fm := fm) (fp := fp) (ce := ce) (hp := hp) rq (show p o + 1 + za_n (gX_fieldCount u) of o ≤ 49 by omega) n16 c4 eh (fun j hj bj => by
        have v := hv j hj
        rw [if_pos bj] at v
        obtain ⟨o', _, _, p48, _, ex⟩ := za_fld hm (v.2 rfl)
        rw [ex]; exact vp_in_nI (by omega) (by decide)) same
      obtain ⟨hq', j1, j2, w2⟩ := ih _ (i + 1) _ h1 ht hl' (by omega) (show 1 ≤ r + zl_sz (gX_fieldCount u) of o by omega) (by omega) (fun a z => by rw [k2 a (by omega)]; exact same a (by omega)) ha2
      refine ⟨hq', fun a z => ?_, fun a haa wa => ?_, fun post hpp => uX_moveObjects_6 (br_f n48 (br_f ?_ (x_words (hp := hq) (by omega) c4 ehq ef ⟨vo, br_f ?_ ⟨vo, ?_⟩⟩)))⟩
      · rw [j1 a (by omega), k1 a z]
      · rcases List.mem_cons.mp haa with q | haa
        · subst q
          refine ⟨?_, fun j hj => ?_⟩
          · rw [hP, j1 _ (by omega), k3, eh]
          · rw [hP, j1 _ (by omega), k4 j hj, ec]
        · exact j2 a haa wa
      · rw [rX_heapEnd]; exact ne
      · rw [rX_newPlaces, nI_clamp (n := p o) (by omega), en]; exact nI_ne0 (by omega) (by omega)
      · rw [rX_newPlaces, nI_clamp (n := p o) (by omega), en]
        refine w1 _ ⟨vo, ?_⟩
        rw [rX_newPlaces, en]
        refine nm_r (show nI r + nI (1 + za_n (gX_fieldCount u) of o) = nI (r + zl_sz (gX_fieldCount u) of o) by rw [nI_add, sz]) (nm_r esz (nm_r (nI_1 i) (w2 post ?_)))
        rw [List.filter_cons_of_pos w, show za_s (zl_sz (gX_fieldCount u) of) (o :: t.filter b) = zl_sz (gX_fieldCount u) of o + za_s (zl_sz (gX_fieldCount u) of) (t.filter b) from rfl, ← Nat.add_assoc] at hpp
        exact hpp
    · rw [if_neg w] at ha2 en
      obtain ⟨hq', j1, j2, w2⟩ := ih _ (i + 1) r hq ht hl' (by omega) r1 (by omega) (fun a z => same a (by omega)) ha2
      refine ⟨hq', j1, fun a haa wa => ?_, fun post hpp => uX_moveObjects_6 (br_f n48 (br_f ?_ (x_words (hp := hq) (by omega) c4 ehq ef ⟨vo, br_t ?_ (nm_r esz (nm_r (nI_1 i) (w2 post ?_)))⟩)))⟩
      · rcases List.mem_cons.mp haa with q | haa
        · rw [q] at wa; exact absurd wa w
        · exact j2 a haa wa
      · rw [rX_heapEnd]; exact ne
      · rw [rX_newPlaces, nI_clamp (by omega)]; exact en
      · rw [List.filter_cons_of_neg w] at hpp; exact hpp
end
