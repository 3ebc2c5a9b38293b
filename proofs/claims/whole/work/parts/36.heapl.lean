/-! objects: where they are, what a class below has -/
theorem zl_szob {up fc rf of fl hp : Nat → Int32} {p : Nat → Nat} {l : List Nat} {o q c n : Nat} (h3 : of o = nI (c + 1)) (h1 : c < 4) (h5 : fc c = nI n) (h6 : n ≤ 16) : zl_sz fc of o = 1 + n := by
  unfold zl_sz
  rw [h3, nI_clamp (by omega), show c + 1 - 1 = c by omega, h5, nI_clamp (by omega)]
theorem zl_inj {up fc rf of fl hp : Nat → Int32} {p : Nat → Nat} {l : List Nat} : ∀ t q e, zl_lay up fc rf of fl hp p l t q e → ∀ o o', o ∈ t → o' ∈ t → p o = p o' → o = o' := by
  intro t
  induction t with
  | nil => intro q e _ o o' h; exact absurd h (by simp)
  | cons a t ih =>
    rintro q e ⟨hob, ht⟩ o o' h h' hp
    have pa : p a = q := by
      obtain ⟨c, n, _, _, _, _, _, _, h7, _⟩ := hob
      exact h7
    have fnd := (zl_find _ _ _ ht).2
    have sz1 : 1 ≤ zl_sz fc of a := by unfold zl_sz; omega
    rcases List.mem_cons.mp h with g1 | g <;> rcases List.mem_cons.mp h' with g2 | g'
    · rw [g1, g2]
    · rw [g1] at hp; have := (fnd o' g').2.1; omega
    · rw [g2] at hp; have := (fnd o g).2.1; omega
    · exact ih _ _ ht o o' g g' hp
theorem zl_same {up fc rf of fl hp gx gy : Nat → Int32} {he us : Int32} {p : Nat → Nat} {l : List Nat} (h : zR_h1 up fc rf of fl hp gx gy he us p l) {y x y' x' : Int32} (r : zl_ref p l y x) (r' : zl_ref p l y' x') : x = x' ↔ y = y' := by
  obtain ⟨s, p0, ⟨e, h1, h2, h3, h4, lay⟩, _⟩ := id h
  have q1 := zl_refc h r
  have q2 := zl_refc h r'
  rcases q1 with ⟨rfl, rfl⟩ | ⟨o, c, n, ol, rfl, rfl, o1, o2, k1, k2, _⟩ <;> rcases q2 with ⟨rfl, rfl⟩ | ⟨o', c', n', ol', rfl, rfl, o1', o2', k1', k2', _⟩
  · exact ⟨fun _ => rfl, fun _ => rfl⟩
  · exact ⟨fun w => absurd w.symm (nI_ne0 (by omega) (by omega)), fun w => absurd w.symm (nI_ne0 (by omega) (by omega))⟩
  · exact ⟨fun w => absurd w (nI_ne0 (by omega) (by omega)), fun w => absurd w (nI_ne0 (by omega) (by omega))⟩
  · constructor
    · intro w
      have := zl_inj _ _ _ lay o o' ol ol' ((nI_eq (by omega) (by omega)).mp w)
      rw [this]
    · intro w
      have := (nI_eq (by omega) (by omega)).mp w
      rw [this]
/-- fields of a class are the first fields of one below -/
theorem zc_pre {up ints refs fc rf : Nat → Int32} (hr : ∀ c, c < 4 → up c ≠ -2 → zc_row up ints refs fc rf c) {cu n : Nat} (hcu : cu < 4) (ecu : fc cu = nI n) (hn : n ≤ 16) : ∀ d k, zc_dp up d k → zc_bl up (nI cu) d k → ∃ c n', c < 4 ∧ k = nI c ∧ fc c = nI n' ∧ n' ≤ 16 ∧ n ≤ n' ∧ ∀ j, j < n → bt (rf c) j = bt (rf cu) j := by
  intro d
  induction d with
  | zero => intro k _ h; exact h.elim
  | succ d ih =>
    intro k hd h
    rcases hd with rfl | ⟨c, hc, rfl, h2, h3⟩
    · exact absurd rfl h.1
    · obtain ⟨ab, i, r, hi, hr', hab, ei, er, ea, ef, eb⟩ := hr c hc h2
      rcases h.2 with e | h
      · have := (nI_eq (by omega) (by omega)).mp e
        subst this
        exact ⟨c, n, hc, rfl, ecu, hn, Nat.le_refl _, fun _ _ => rfl⟩
      · rw [nI_clamp (by omega)] at h
        obtain ⟨c', n', hc', e', ef', hn', le, hb⟩ := ih _ h3 h
        rw [e', zc_atc hc', ef'] at ea
        have := (nI_eq (by omega) (by omega)).mp ea
        subst this
        refine ⟨c, n' + i + r, hc, rfl, ef, by omega, by omega, fun j hj => ?_⟩
        rw [eb j (by omega), e', zc_atc hc', hb j hj]
        have : ¬ (n' + i ≤ j ∧ j < n' + i + r) := by omega
        simp [this]
/-- a field is written -/
theorem zl_putl {up fc rf of fl hp : Nat → Int32} {p : Nat → Nat} {l : List Nat} {o f c n : Nat} {y x : Int32} (ho : of o = nI (c + 1)) (hc4 : c < 4) (hfc : fc c = nI n) (hn : n ≤ 16) (hf : f < n) (hv : zl_val p l (if bt (rf c) f then 2 else 1) y x) :
  ∀ t q e, (∀ o', o' ∈ t → o' = o ∨ p o' + zl_sz fc of o' ≤ p o ∨ p o + zl_sz fc of o ≤ p o') → zl_lay up fc rf of fl hp p l t q e → zl_lay up fc rf of (upd fl (16 * o + f) y) (upd hp (p o + 1 + f) x) p l t q e := by
  intro t
  induction t with
  | nil => intro q e _ h; exact h
  | cons a t ih =>
    rintro q e dis ⟨⟨c', n', k1, k2, k3, k4, k5, k6, k7, k8⟩, ht⟩
    refine ⟨?_, ih _ _ (fun o' h => dis o' (List.mem_cons_of_mem _ h)) ht⟩
    have szo : zl_sz fc of o = 1 + n := zl_szob (up := up) (rf := rf) (fl := fl) (hp := hp) (p := p) (l := l) (q := 0) ho hc4 hfc hn
    have sza : zl_sz fc of a = 1 + n' := zl_szob (up := up) (rf := rf) (fl := fl) (hp := hp) (p := p) (l := l) (q := 0) k3 k1 k5 k6
    have d := dis a List.mem_cons_self
    by_cases e : a = o
    · subst e
      have : c' = c := by
        rw [ho] at k3
        have := (nI_eq (by omega) (by omega)).mp k3
        omega
      subst this
      have : n' = n := by
        rw [hfc] at k5
        exact ((nI_eq (by omega) (by omega)).mp k5).symm
      subst this
      refine ⟨c', n', k1, k2, k3, by rw [pk_un (by omega)]; exact k4, k5, k6, k7, fun j hj => ?_⟩
      by_cases ej : j = f
      · subst ej
        rw [pk_us, ← k7, pk_us]; exact hv
      · rw [pk_un (by omega), pk_un (by omega)]; exact k8 j hj
    · refine ⟨c', n', k1, k2, k3, by rw [pk_un (by omega)]; exact k4, k5, k6, k7, fun j hj => ?_⟩
      rw [pk_un (by omega), pk_un (by omega)]; exact k8 j hj
theorem zl_dis {up fc rf of fl hp : Nat → Int32} {p : Nat → Nat} {l : List Nat} : ∀ t q e, zl_lay up fc rf of fl hp p l t q e → ∀ o o', o ∈ t → o' ∈ t → o' = o ∨ p o' + zl_sz fc of o' ≤ p o ∨ p o + zl_sz fc of o ≤ p o' := by
  intro t
  induction t with
  | nil => intro q e _ o o' h; exact absurd h (by simp)
  | cons a t ih =>
    rintro q e ⟨hob, ht⟩ o o' h h'
    have pa : p a = q := by
      obtain ⟨c, n, _, _, _, _, _, _, h7, _⟩ := hob
      exact h7
    have fnd := (zl_find _ _ _ ht).2
    rcases List.mem_cons.mp h with g1 | g <;> rcases List.mem_cons.mp h' with g2 | g'
    · exact Or.inl (by rw [g1, g2])
    · have := (fnd o' g').2.1; rw [g1]; exact Or.inr (Or.inr (by omega))
    · have := (fnd o g).2.1; rw [g2]; exact Or.inr (Or.inl (by omega))
    · exact ih _ _ ht o o' g g'
theorem zl_put {up fc rf of fl hp gx gy : Nat → Int32} {he us : Int32} {p : Nat → Nat} {l : List Nat} (h : zR_h1 up fc rf of fl hp gx gy he us p l) {o f c n : Nat} {y x : Int32} (ol : o ∈ l) (ho : of o = nI (c + 1)) (hc4 : c < 4) (hfc : fc c = nI n) (hn : n ≤ 16) (hf : f < n) (hv : zl_val p l (if bt (rf c) f then 2 else 1) y x) :
  zR_h1 up fc rf of (upd fl (16 * o + f) y) (upd hp (p o + 1 + f) x) gx gy he us p l := by
  obtain ⟨s, p0, ⟨e, h1, h2, h3, h4, lay⟩, g⟩ := h
  exact ⟨s, p0, ⟨e, h1, h2, h3, h4, zl_putl ho hc4 hfc hn hf hv _ _ _ (fun o' h' => zl_dis _ _ _ lay o o' ol h') lay⟩, g⟩
