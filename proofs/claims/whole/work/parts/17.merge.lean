/-! both sides' heights and kinds are the same -/
theorem zb_127 : ∀ e, e < 32 → bt 127 e = decide (e < 7) := by decide
theorem zb_small7 {x : Int32} (h : ∀ e, 7 ≤ e → e < 32 → bt x e = false) : ∃ k, k < 128 ∧ x = nI k := by
  refine ⟨x.toBitVec.toNat % 2 ^ 7, Nat.mod_lt _ (by decide), ?_⟩
  rw [← pk_and x (m := 127) 7 (by decide)]
  apply b_ext
  intro i hi
  rw [b_and, zb_127 i hi]
  by_cases w : i < 7
  · simp [w]
  · rw [h i (by omega) hi]; rfl
theorem zh_one1 : ∀ k, k < 128 → k ≠ 0 → nI k &&& (nI k - 1) = 0 → nI k = nI (2 ^ zh_ht (nI k)) := by decide +kernel
theorem zh_one2 : ∀ h, h < 7 → zh_ht (nI (2 ^ h)) = h ∧ ∀ j, j < 32 → (bt (nI (2 ^ h)) j = true ↔ j = h) := by decide +kernel
theorem zh_htle (x : Int32) : zh_ht x < 7 := by have := zh_ht6 x; omega
theorem zh_Eeq {O A F T G G' : Nat → Int32} {n : Nat} (h : ∀ p, zh_cg F T 8 p → G 8 = G' 8) : zh_E O A F T G n = zh_E O A F T G' n := by
  funext i h1 j k
  apply propext
  unfold zh_E
  constructor
  · rintro ⟨hj, w | ⟨w1, w2, w3⟩⟩
    · exact ⟨hj, Or.inl w⟩
    · exact ⟨hj, Or.inr ⟨w1, by rw [← h _ w1]; exact w2, w3⟩⟩
  · rintro ⟨hj, w | ⟨w1, w2, w3⟩⟩
    · exact ⟨hj, Or.inl w⟩
    · exact ⟨hj, Or.inr ⟨w1, by rw [h _ w1]; exact w2, w3⟩⟩
theorem zh_Feq {E : Nat → Nat → Nat → Nat → Prop} {n : Nat} {a a' : Nat → Int32} (h : zh_F E n a) (h' : zh_F E n a') {i : Nat} (hi : i < n) : a i = a' i := by
  apply b_ext
  intro e he
  have := (h i hi e he).trans (h' i hi e he).symm
  cases w : bt (a i) e <;> cases w' : bt (a' i) e
  · rfl
  · rw [w, w'] at this; exact absurd (this.mpr rfl) (by decide)
  · rw [w, w'] at this; exact absurd (this.mp rfl) (by decide)
  · rfl
theorem zh_Fs {E : Nat → Nat → Nat → Nat → Prop} {n : Nat} {a : Nat → Int32} (h : zh_F E n a) {i : Nat} (hi : i < n) : ∃ k, k < 128 ∧ a i = nI k := by
  refine zb_small7 (fun e h1 h2 => ?_)
  cases w : bt (a i) e
  · rfl
  · have := ((h i hi e h2).mp w).1; omega
theorem zf_heq {E : Nat → Nat → Nat → Nat → Prop} {O A : Nat → Int32} {n : Nat} {a a' : Nat → Int32} (h : zh_F E n a) (h' : zh_F E n a') {i : Nat} (hi : i < n) : zf_hX O A n a i ↔ zf_hY O A n a' i := by
  have e := zh_Feq h h' hi
  obtain ⟨k, hk, ek⟩ := zh_Fs h hi
  unfold zf_hX zf_hY
  rw [← e]
  by_cases z : a i = 0
  · simp [z]
  · by_cases s : a i &&& (a i - 1) = 0
    · have k0 : k ≠ 0 := fun w => z (by rw [ek, w]; rfl)
      have p := zh_one1 k hk k0 (by rw [← ek]; exact s)
      rw [← ek] at p
      have q := zh_one2 (zh_ht (a i)) (zh_htle _)
      rw [← p] at q
      constructor
      · rintro ⟨_, w | w | w⟩
        · exact absurd s w
        · exact ⟨z, Or.inr (Or.inl ⟨w.1, by omega⟩)⟩
        · exact ⟨z, Or.inr (Or.inr ⟨zh_ht (a i), zh_htle _, (q.2 _ (by have := zh_htle (a i); omega)).mpr rfl, w⟩)⟩
      · rintro ⟨_, w | w | ⟨h1, h7, b, w⟩⟩
        · exact absurd s w
        · exact ⟨z, Or.inr (Or.inl ⟨w.1, by omega⟩)⟩
        · have := (q.2 h1 (by omega)).mp b
          subst this
          exact ⟨z, Or.inr (Or.inr w)⟩
    · exact ⟨fun _ => ⟨z, Or.inl s⟩, fun _ => ⟨z, Or.inl s⟩⟩
/-- a height alone, where no fault of the second kind is -/
theorem zh_single {E : Nat → Nat → Nat → Nat → Prop} {O A : Nat → Int32} {n : Nat} {a : Nat → Int32} (h : zh_F E n a) {i : Nat} (hi : i < n) (z : a i ≠ 0) (nf : ¬ zf_hX O A n a i) : a i = nI (2 ^ zh_ht (a i)) ∧ (zt_fall (zh_op O i) → i + 1 < n) ∧ zh_P O A i ≤ zh_ht (a i) ∧ zh_ht (a i) - zh_P O A i + zh_Q O i ≤ 6 := by
  obtain ⟨k, hk, ek⟩ := zh_Fs h hi
  have s : a i &&& (a i - 1) = 0 := by
    by_cases s : a i &&& (a i - 1) = 0
    · exact s
    · exact absurd ⟨z, Or.inl s⟩ nf
  have k0 : k ≠ 0 := fun w => z (by rw [ek, w]; rfl)
  have p := zh_one1 k hk k0 (by rw [← ek]; exact s)
  rw [← ek] at p
  refine ⟨p, fun w => ?_, ?_⟩
  · by_cases q : i + 1 = n
    · exact absurd ⟨z, Or.inr (Or.inl ⟨w, q⟩)⟩ nf
    · omega
  · by_cases q : zh_P O A i ≤ zh_ht (a i) ∧ zh_ht (a i) - zh_P O A i + zh_Q O i ≤ 6
    · exact q
    · exact absurd ⟨z, Or.inr (Or.inr q)⟩ nf
/-- the next instruction's height -/
theorem zh_next {O A F T G a : Nat → Int32} {n i h j k : Nat} (hF : zh_F (zh_E O A F T G n) n a) (hs : ∀ i, i < n → a i ≠ 0 → a i = nI (2 ^ zh_ht (a i))) (hi : i < n) (r : zh_R (zh_E O A F T G n) n i h) (e : zh_E O A F T G n i h j k) : a j ≠ 0 ∧ zh_ht (a j) = k ∧ zh_R (zh_E O A F T G n) n j k := by
  have h7 := zh_E7 e
  have r' := zh_Rs hi r e
  have b := (hF j h7.1 k (by omega)).mpr ⟨h7.2, r'⟩
  have z : a j ≠ 0 := fun w => by rw [w, b_0] at b; exact absurd b (by decide)
  have q := zh_one2 (zh_ht (a j)) (zh_htle _)
  rw [← hs j h7.1 z] at q
  exact ⟨z, ((q.2 k (by omega)).mp b).symm, r'⟩
theorem zh_reached {O A F T G a : Nat → Int32} {n i : Nat} (hF : zh_F (zh_E O A F T G n) n a) (hs : ∀ i, i < n → a i ≠ 0 → a i = nI (2 ^ zh_ht (a i))) (hi : i < n) (z : a i ≠ 0) : zh_R (zh_E O A F T G n) n i (zh_ht (a i)) := by
  have q := zh_one2 (zh_ht (a i)) (zh_htle _)
  rw [← hs i hi z] at q
  exact ((hF i hi _ (by have := zh_htle (a i); omega)).mp ((q.2 _ (by have := zh_htle (a i); omega)).mpr rfl)).2
theorem zh_first {O A F T G a : Nat → Int32} {n : Nat} (hn : 0 < n) (hF : zh_F (zh_E O A F T G n) n a) (hs : ∀ i, i < n → a i ≠ 0 → a i = nI (2 ^ zh_ht (a i))) : a 0 ≠ 0 ∧ zh_ht (a 0) = 0 := by
  have b := (hF 0 hn 0 (by decide)).mpr ⟨by decide, zh_R0⟩
  have z : a 0 ≠ 0 := fun w => by rw [w, b_0] at b; exact absurd b (by decide)
  have q := zh_one2 (zh_ht (a 0)) (zh_htle _)
  rw [← hs 0 hn z] at q
  exact ⟨z, ((q.2 0 (by omega)).mp b).symm⟩
theorem zk_par {f : Nat → Prop} {g : Nat → Nat → Prop} {cc : Prop} {pk o a b c e : Nat} (v : zk_v f cc o a b e) (w : zy_v g pk o a b c e) : (∃ s, ((s = e ∧ e < b) ∨ (s = b ∧ (o = 3 ∨ o = 20)) ∨ (s = a ∧ o = 2)) ∧ f s ∧ g c s) ∨ (cc ∧ pk = c + 1) := by
  rcases v with ⟨v1, v⟩ | ⟨v1, v⟩ | ⟨v1, v⟩ | ⟨v1, v2, v3, v⟩
  · rcases w with ⟨w1, w⟩ | ⟨w1, w⟩ | ⟨w1, w⟩ | ⟨w1, w2, w3, w⟩
    · rcases v with ⟨v2, v⟩ | ⟨v2, v3, v⟩ <;> rcases w with ⟨w2, w⟩ | ⟨w2, w⟩
      · exact Or.inl ⟨b, Or.inr (Or.inl ⟨rfl, Or.inl v1⟩), v, w⟩
      · exact absurd v2 w2
      · exact absurd w2 v2
      · exact Or.inl ⟨e, Or.inl ⟨rfl, v3⟩, v, w⟩
    · omega
    · omega
    · exact absurd v1 w1
  · rcases w with ⟨w1, w⟩ | ⟨w1, w⟩ | ⟨w1, w⟩ | ⟨w1, w2, w3, w⟩
    · omega
    · rcases v with ⟨v2, v⟩ | ⟨v2, v⟩ <;> rcases w with ⟨w2, w⟩ | ⟨w2, w⟩
      · omega
      · exact Or.inl ⟨e, Or.inl ⟨rfl, v2⟩, v, w⟩
      · exact Or.inl ⟨a, Or.inr (Or.inr ⟨rfl, v1⟩), v, w⟩
      · exact absurd v2 w2
    · omega
    · exact absurd v1 w2
  · rcases w with ⟨w1, w⟩ | ⟨w1, w⟩ | ⟨w1, w⟩ | ⟨w1, w2, w3, w⟩
    · omega
    · omega
    · rcases v with ⟨v2, v⟩ | ⟨v2, v⟩ <;> rcases w with ⟨w2, w⟩ | ⟨w2, w⟩
      · omega
      · exact Or.inl ⟨e, Or.inl ⟨rfl, v2⟩, v, w⟩
      · exact Or.inl ⟨b, Or.inr (Or.inl ⟨rfl, Or.inr v1⟩), v, w⟩
      · exact absurd v2 w2
    · exact absurd v1 w3
  · rcases w with ⟨w1, w⟩ | ⟨w1, w⟩ | ⟨w1, w⟩ | ⟨w1, w2, w3, w⟩
    · exact absurd w1 v1
    · exact absurd w1 v2
    · exact absurd w1 v3
    · rcases v with ⟨v4, v⟩ | ⟨v4, v⟩ <;> rcases w with ⟨w4, w⟩ | ⟨w4, w⟩
      · omega
      · exact Or.inl ⟨e, Or.inl ⟨rfl, v4⟩, v, w⟩
      · exact Or.inr ⟨v, w⟩
      · exact absurd v4 w4
theorem zk_pkne {rf : Nat → Int32} {o : Nat} {a : Int32} (ho : o < 24) (hp : zt_push o ≠ 0) (h2 : o ≠ 2) (h20 : o ≠ 20) : zk_pk rf o a ≠ 0 := by
  unfold zk_pk
  by_cases z13 : o = 13
  · rw [if_pos z13]; split <;> decide
  · rw [if_neg z13]
    by_cases z16 : o = 16
    · rw [if_pos z16]; split <;> decide
    · rw [if_neg z16]
      by_cases z17 : o = 17
      · rw [if_pos z17]; split <;> decide
      · rw [if_neg z17]
        have : ∀ o, o < 24 → [1, 2, 0, 0, 1, 1, 1, 1, 0, 0, 0, 1, 2, 0, 0, 1, 0, 0, 0, 0, 0, 0, 2, 0].getD o 0 = 0 → zt_push o = 0 ∨ o = 2 ∨ o = 20 ∨ o = 13 ∨ o = 16 ∨ o = 17 := by decide
        intro w
        rcases this o ho w with k | k | k | k | k | k
        · exact hp k
        · exact h2 k
        · exact h20 k
        · exact z13 k
        · exact z16 k
        · exact z17 k
theorem zk_pk0 {rf : Nat → Int32} {o : Nat} {a : Int32} (ho : o < 24) (hp : zt_push o = 0) : zk_pk rf o a = 0 := by
  have : ∀ o, o < 24 → zt_push o = 0 → o ≠ 13 ∧ o ≠ 16 ∧ o ≠ 17 ∧ [1, 2, 0, 0, 1, 1, 1, 1, 0, 0, 0, 1, 2, 0, 0, 1, 0, 0, 0, 0, 0, 0, 2, 0].getD o 0 = 0 := by decide
  obtain ⟨h1, h2, h3, h4⟩ := this o ho hp
  unfold zk_pk
  rw [if_neg h1, if_neg h2, if_neg h3, h4]
/-- P, Q and operand, where it matters -/
theorem zk_facts {O A : Nat → Int32} {i : Nat} (ho : zi_ok (O (192 + i)) (A (192 + i))) : zh_op O i < 24 ∧ (zh_op O i = 3 → zh_P O A i = 1 ∧ zh_Q O i = 0 ∧ (A (192 + i)).toNatClampNeg < 6) ∧ (zh_op O i = 2 → zh_P O A i = 0 ∧ zh_Q O i = 1 ∧ (A (192 + i)).toNatClampNeg < 6) ∧ (zh_op O i = 20 → zh_P O A i = 1 ∧ zh_Q O i = 2) ∧ (zh_op O i ≠ 20 → zh_Q O i ≤ 1) := by
  obtain ⟨o24, eo, fo⟩ := zi_of ho
  have eop : zh_op O i = (O (192 + i)).toNatClampNeg := rfl
  rw [← eop] at o24 eo fo
  refine ⟨o24, fun w => ?_, fun w => ?_, fun w => ?_, fun w => ?_⟩
  · obtain ⟨j, hj, ej⟩ := zi_fj fo (show zi_lim (zh_op O i) = 6 by rw [w]; rfl) (by decide)
    unfold zh_P zh_Q
    rw [w, ej, nI_clamp (by omega)]
    exact ⟨rfl, rfl, hj⟩
  · obtain ⟨j, hj, ej⟩ := zi_fj fo (show zi_lim (zh_op O i) = 6 by rw [w]; rfl) (by decide)
    unfold zh_P zh_Q
    rw [w, ej, nI_clamp (by omega)]
    exact ⟨rfl, rfl, hj⟩
  · unfold zh_P zh_Q
    rw [w]; exact ⟨rfl, rfl⟩
  · unfold zh_Q
    have : ∀ o, o < 24 → o ≠ 20 → zt_push o ≤ 1 := by decide
    exact this _ o24 w
theorem zy_inb1 : ∀ m, m < 8 → ∀ e, e < 6 → bt (nI (zy_in m e)) 1 = false → bt (nI (zy_in m e)) 2 = false → bt (nI (zt_ti m)) e = true := by decide +kernel
theorem zy_inb2 : ∀ m, m < 8 → ∀ e, e < 6 → bt (nI (zy_in m e)) 0 = false → bt (nI (zy_in m e)) 2 = false → bt (nI (zt_tr m)) e = true := by decide +kernel
theorem zy_inb3 : ∀ m, m < 8 → ∀ e, e < 6 → bt (nI (zy_in m e)) 0 = true → bt (nI (zt_tr m)) e = false := by decide +kernel
theorem zy_inb4 : ∀ m, m < 8 → ∀ e, e < 6 → bt (nI (zy_in m e)) 1 = true → bt (nI (zt_ti m)) e = false := by decide +kernel
theorem zy_inb5 : ∀ m, m < 8 → ∀ e, e < 6 → bt (nI (zy_in m e)) 2 = true → bt (nI (zt_ti m)) e = false ∧ bt (nI (zt_tr m)) e = false := by decide +kernel
theorem zy_inb6 : ∀ m, m < 8 → ∀ e, e < 6 → bt (nI (zy_in m e)) 0 = true ∨ bt (nI (zy_in m e)) 1 = true ∨ bt (nI (zy_in m e)) 2 = true := by decide +kernel
theorem zy_inb (m : Nat) (hm : m < 8) (e : Nat) (he : e < 6) : (bt (nI (zy_in m e)) 1 = false → bt (nI (zy_in m e)) 2 = false → bt (nI (zt_ti m)) e = true) ∧ (bt (nI (zy_in m e)) 0 = false → bt (nI (zy_in m e)) 2 = false → bt (nI (zt_tr m)) e = true) ∧ (bt (nI (zy_in m e)) 0 = true → bt (nI (zt_tr m)) e = false) ∧ (bt (nI (zy_in m e)) 1 = true → bt (nI (zt_ti m)) e = false) ∧ (bt (nI (zy_in m e)) 2 = true → bt (nI (zt_ti m)) e = false ∧ bt (nI (zt_tr m)) e = false) ∧ (bt (nI (zy_in m e)) 0 = true ∨ bt (nI (zy_in m e)) 1 = true ∨ bt (nI (zy_in m e)) 2 = true) :=
  ⟨zy_inb1 m hm e he, zy_inb2 m hm e he, zy_inb3 m hm e he, zy_inb4 m hm e he, zy_inb5 m hm e he, zy_inb6 m hm e he⟩
theorem zt_trhi : ∀ m, m < 8 → ∀ e, e < 12 → 6 ≤ e → bt (nI (zt_tr m)) e = false := by decide
theorem zb_f {b : Bool} (h : ¬ b = true) : b = false := by cases b; rfl; exact absurd rfl h
/-- the kinds of both sides say the same -/
theorem zk_merge {rf O A F T G a xi xr K : Nat → Int32} {n m : Nat} (hm : m < 8) (env : zk_env O A F T G a n) (hF : zh_F (zh_E O A F T G n) n a) (hs : ∀ i, i < n → a i ≠ 0 → a i = nI (2 ^ zh_ht (a i)))
  (f1 : zk_FX rf O A F T G a n m 1 xi) (f2 : zk_FX rf O A F T G a n m 2 xr) (fy : zy_F rf O A F T G a n m K) {i : Nat} (hi : i < n) (h0 : a i ≠ 0) :
  (∀ e, e < 6 + zh_ht (a i) → (bt (xi i) e = true ↔ K (12 * i + e) = 1) ∧ (bt (xr i) e = true ↔ K (12 * i + e) = 2)) ∧ (∀ e, 6 + zh_ht (a i) ≤ e → e < 32 → bt (xr i) e = false) := by
  obtain ⟨hn, hn0, ho, hg, hj, hf, hP⟩ := id env
  have H6 := zh_ht6
  -- where instruction i leads
  have nxt : ∀ i, i < n → a i ≠ 0 → ∀ t, t < n → zk_t O A i t → a t ≠ 0 ∧ zh_ht (a t) = zh_ht (a i) - zh_P O A i + zh_Q O i := by
    intro i hi h0 t ht w
    have p := hP i hi h0
    have := zh_next hF hs hi (zh_reached hF hs hi h0) (j := t) (k := zh_ht (a i) - zh_P O A i + zh_Q O i) ⟨ht, Or.inl ⟨p.1, p.2, rfl, w⟩⟩
    exact ⟨this.1, this.2.1⟩
  have nxc : ∀ i, i < n → a i ≠ 0 → zh_cg F T 8 (nI i) → ∀ g, g < n → G 8 = nI g → a g ≠ 0 ∧ zh_ht (a g) = 1 := by
    intro i hi h0 w g hg eg
    have := zh_next hF hs hi (zh_reached hF hs hi h0) (j := g) (k := 1) ⟨hg, Or.inr ⟨w, eg, rfl⟩⟩
    exact ⟨this.1, this.2.1⟩
  have fst := zh_first hn0 hF hs
  have kc := fy.1
  -- A: below X
  have A1 : ∀ k q, (k = 1 ∧ q = 1) ∨ (k = 2 ∧ q = 0) → zk_C rf O A F T G a n m k (fun i e => i < n ∧ a i ≠ 0 ∧ e < 6 + zh_ht (a i) ∧ bt (K (12 * i + e)) q = false ∧ bt (K (12 * i + e)) 2 = false) := by
    intro k q hkq
    refine ⟨?_, ?_⟩
    · rintro e he ⟨_, _, h6, b1, b2⟩
      have h6 : e < 6 := by omega
      have tb := zy_inb m hm e h6
      have nb : ∀ c, c < 3 → bt (K (12 * 0 + e)) c = false → bt (nI (zy_in m e)) c = false := fun c hc b => zb_f (fun w => by have := kc.1 e h6 c hc w; unfold zy_bits at this; rw [b] at this; exact absurd this (by decide))
      rcases hkq with ⟨rfl, rfl⟩ | ⟨rfl, rfl⟩
      · exact tb.1 (nb 1 (by decide) b1) (nb 2 (by decide) b2)
      · exact tb.2.1 (nb 0 (by decide) b1) (nb 2 (by decide) b2)
    · intro i hi h0
      have cl := kc.2 i hi h0
      have fa := zk_facts (ho i hi)
      have pi := hP i hi h0
      have hb : zk_b O A a i = 6 + zh_ht (a i) - zh_P O A i := rfl
      constructor
      · rintro t ht w e he ⟨_, _, h6, b1, b2⟩
        have nt := nxt i hi h0 t ht w
        have no : ∀ c, c < 3 → bt (K (12 * t + e)) c = false → ¬ zy_v (fun c e => zy_bits K c i e) (zk_pk rf (zh_op O i) (A (192 + i))) (zh_op O i) (A (192 + i)).toNatClampNeg (zk_b O A a i) c e := fun c hc b w2 => by
          have := cl.1 t ht w e (by omega) c hc w2
          unfold zy_bits at this; rw [b] at this; exact absurd this (by decide)
        have q3 : q < 3 := by omega
        have n1 := no q q3 b1
        have n2 := no 2 (by decide) b2
        unfold zy_bits at n1 n2
        have src : ∀ s, s < 6 + zh_ht (a i) → ¬ bt (K (12 * i + s)) q = true → ¬ bt (K (12 * i + s)) 2 = true → i < n ∧ a i ≠ 0 ∧ s < 6 + zh_ht (a i) ∧ bt (K (12 * i + s)) q = false ∧ bt (K (12 * i + s)) 2 = false := fun s h1 h2 h3 => ⟨hi, h0, h1, zb_f h2, zb_f h3⟩
        by_cases o3 : zh_op O i = 3
        · obtain ⟨p1, p2, p3⟩ := fa.2.1 o3
          refine Or.inl ⟨o3, ?_⟩
          by_cases ea : e = (A (192 + i)).toNatClampNeg
          · exact Or.inl ⟨ea, src _ (by omega) (fun b => n1 (Or.inl ⟨o3, Or.inl ⟨ea, b⟩⟩)) (fun b => n2 (Or.inl ⟨o3, Or.inl ⟨ea, b⟩⟩))⟩
          · exact Or.inr ⟨ea, by omega, src _ (by omega) (fun b => n1 (Or.inl ⟨o3, Or.inr ⟨ea, b⟩⟩)) (fun b => n2 (Or.inl ⟨o3, Or.inr ⟨ea, b⟩⟩))⟩
        · by_cases o2 : zh_op O i = 2
          · obtain ⟨p1, p2, p3⟩ := fa.2.2.1 o2
            refine Or.inr (Or.inl ⟨o2, ?_⟩)
            by_cases ea : e = zk_b O A a i
            · exact Or.inr ⟨ea, src _ (by omega) (fun b => n1 (Or.inr (Or.inl ⟨o2, Or.inl ⟨ea, b⟩⟩))) (fun b => n2 (Or.inr (Or.inl ⟨o2, Or.inl ⟨ea, b⟩⟩)))⟩
            · exact Or.inl ⟨by omega, src _ (by omega) (fun b => n1 (Or.inr (Or.inl ⟨o2, Or.inr ⟨ea, b⟩⟩))) (fun b => n2 (Or.inr (Or.inl ⟨o2, Or.inr ⟨ea, b⟩⟩)))⟩
          · by_cases o20 : zh_op O i = 20
            · obtain ⟨p1, p2⟩ := fa.2.2.2.1 o20
              refine Or.inr (Or.inr (Or.inl ⟨o20, ?_⟩))
              by_cases ea : e = zk_b O A a i ∨ e = zk_b O A a i + 1
              · exact Or.inr ⟨ea, src _ (by omega) (fun b => n1 (Or.inr (Or.inr (Or.inl ⟨o20, Or.inl ⟨ea, b⟩⟩)))) (fun b => n2 (Or.inr (Or.inr (Or.inl ⟨o20, Or.inl ⟨ea, b⟩⟩))))⟩
              · exact Or.inl ⟨by omega, src _ (by omega) (fun b => n1 (Or.inr (Or.inr (Or.inl ⟨o20, Or.inr ⟨ea, b⟩⟩)))) (fun b => n2 (Or.inr (Or.inr (Or.inl ⟨o20, Or.inr ⟨ea, b⟩⟩))))⟩
            · have q1 := fa.2.2.2.2 o20
              refine Or.inr (Or.inr (Or.inr ⟨o3, o2, o20, ?_⟩))
              by_cases ea : e = zk_b O A a i
              · refine Or.inr ⟨ea, ?_⟩
                have w1 : ¬ zk_pk rf (zh_op O i) (A (192 + i)) = q + 1 := fun b => n1 (Or.inr (Or.inr (Or.inr ⟨o3, o2, o20, Or.inl ⟨ea, b⟩⟩)))
                have w3 := zk_pk2 rf (zh_op O i) (A (192 + i)) fa.1
                have w0 : zk_pk rf (zh_op O i) (A (192 + i)) ≠ 0 := zk_pkne fa.1 (by have : zh_Q O i = zt_push (zh_op O i) := rfl; omega) o2 o20
                omega
              · exact Or.inl ⟨by omega, src _ (by omega) (fun b => n1 (Or.inr (Or.inr (Or.inr ⟨o3, o2, o20, Or.inr ⟨ea, b⟩⟩)))) (fun b => n2 (Or.inr (Or.inr (Or.inr ⟨o3, o2, o20, Or.inr ⟨ea, b⟩⟩))))⟩
      · rintro w g hg2 eg e he ⟨_, _, h6, b1, b2⟩
        have ng := nxc i hi h0 w g hg2 eg
        have cg := cl.2 w g hg2 eg
        by_cases e6 : e = 6
        · subst e6
          rcases hkq with ⟨rfl, rfl⟩ | ⟨rfl, rfl⟩
          · exact Or.inr ⟨rfl, rfl⟩
          · have := cg.2
            unfold zy_bits at this
            rw [b1] at this; exact absurd this (by decide)
        · refine Or.inl ⟨by omega, hi, h0, by omega, zb_f (fun b => ?_), zb_f (fun b => ?_)⟩
          · have := cg.1 e (by omega) q (by omega) b
            unfold zy_bits at this; rw [b1] at this; exact absurd this (by decide)
          · have := cg.1 e (by omega) 2 (by decide) b
            unfold zy_bits at this; rw [b2] at this; exact absurd this (by decide)
  -- B: above Y
  have B1 : zy_C rf O A F T G a n m (fun c i e => a i ≠ 0 → e < 6 + zh_ht (a i) → (c = 0 → bt (xr i) e = false) ∧ (c = 1 → bt (xi i) e = false) ∧ (c = 2 → bt (xi i) e = false ∧ bt (xr i) e = false)) := by
    refine ⟨?_, ?_⟩
    · intro e he c hc b _ _
      have tb := zy_inb m hm e he
      have nx : ∀ k (x : Nat → Int32), zk_C rf O A F T G a n m k (fun i e => bt (x i) e = true) → bt (nI (if k = 1 then zt_ti m else zt_tr m)) e = false → bt (x 0) e = false := fun k x cx q => zb_f (fun w => by have := cx.1 e (by omega) w; rw [q] at this; exact absurd this (by decide))
      refine ⟨fun z => ?_, fun z => ?_, fun z => ?_⟩ <;> subst z
      · exact nx 2 xr f2.1 (tb.2.2.1 b)
      · exact nx 1 xi f1.1 (tb.2.2.2.1 b)
      · exact ⟨nx 1 xi f1.1 (tb.2.2.2.2.1 b).1, nx 2 xr f2.1 (tb.2.2.2.2.1 b).2⟩
    · intro i hi h0
      have fa := zk_facts (ho i hi)
      have pi := hP i hi h0
      have hb : zk_b O A a i = 6 + zh_ht (a i) - zh_P O A i := rfl
      constructor
      · intro t ht w e he c hc v _ h6
        -- one side
        have one : ∀ k (x : Nat → Int32), zk_C rf O A F T G a n m k (fun i e => bt (x i) e = true) → (∀ s, s < 6 + zh_ht (a i) → (a i ≠ 0 → s < 6 + zh_ht (a i) → (c = 0 → bt (xr i) s = false) ∧ (c = 1 → bt (xi i) s = false) ∧ (c = 2 → bt (xi i) s = false ∧ bt (xr i) s = false)) → bt (x i) s = false) → k ≠ c + 1 → bt (x t) e = false := by
          intro k x cx hx kc
          refine zb_f (fun b => ?_)
          have v2 := (cx.2 i hi h0).1 t ht w e (by omega) b
          rcases zk_par v2 v with ⟨s, hs, p1, p2⟩ | ⟨p1, p2⟩
          · have s6 : s < 6 + zh_ht (a i) := by
              rcases hs with hs | ⟨hs, o | o⟩ | ⟨hs, o⟩
              · omega
              · have := (fa.2.1 o).1; omega
              · have := (fa.2.2.2.1 o).1; omega
              · have := (fa.2.2.1 o).2.2; omega
            rw [hx s s6 p2] at p1; exact absurd p1 (by decide)
          · omega
        refine ⟨fun z => ?_, fun z => ?_, fun z => ?_⟩ <;> subst z
        · exact one 2 xr f2.1 (fun s s6 p => (p h0 s6).1 rfl) (by decide)
        · exact one 1 xi f1.1 (fun s s6 p => (p h0 s6).2.1 rfl) (by decide)
        · exact ⟨one 1 xi f1.1 (fun s s6 p => ((p h0 s6).2.2 rfl).1) (by decide), one 2 xr f2.1 (fun s s6 p => ((p h0 s6).2.2 rfl).2) (by decide)⟩
      · intro w g hg2 eg
        refine ⟨fun e he c hc v _ _ => ?_, fun _ _ => ⟨fun _ => zb_f (fun b => ?_), fun z => absurd z (by decide), fun z => absurd z (by decide)⟩⟩
        · have one : ∀ k (x : Nat → Int32), zk_C rf O A F T G a n m k (fun i e => bt (x i) e = true) → bt (x i) e = false → bt (x g) e = false := by
            intro k x cx hx
            refine zb_f (fun b => ?_)
            rcases (cx.2 i hi h0).2 w g hg2 eg e (by omega) b with ⟨_, q⟩ | ⟨_, q⟩
            · rw [hx] at q; exact absurd q (by decide)
            · omega
          have v := v h0 (by omega)
          refine ⟨fun z => ?_, fun z => ?_, fun z => ?_⟩
          · exact one 2 xr f2.1 (v.1 z)
          · exact one 1 xi f1.1 (v.2.1 z)
          · exact ⟨one 1 xi f1.1 (v.2.2 z).1, one 2 xr f2.1 (v.2.2 z).2⟩
        · rcases (f2.1.2 i hi h0).2 w g hg2 eg 6 (by decide) b with ⟨q, _⟩ | ⟨q, _⟩
          · omega
          · exact absurd q (by decide)
  -- C: something is known of every entry
  have C1 : ∀ i h, zh_R (zh_E O A F T G n) n i h → i < n → ∀ e, e < 6 + h → ∃ c, c < 3 ∧ bt (K (12 * i + e)) c = true := by
    intro i h r
    have := r (fun i h => zh_R (zh_E O A F T G n) n i h ∧ (i < n → ∀ e, e < 6 + h → ∃ c, c < 3 ∧ bt (K (12 * i + e)) c = true)) ⟨⟨zh_R0, fun _ e he => ?_⟩, ?_⟩
    · exact this.2
    · have tb := (zy_inb m hm e (by omega)).2.2.2.2.2
      rcases tb with b | b | b
      · exact ⟨0, by decide, kc.1 e (by omega) 0 (by decide) b⟩
      · exact ⟨1, by decide, kc.1 e (by omega) 1 (by decide) b⟩
      · exact ⟨2, by decide, kc.1 e (by omega) 2 (by decide) b⟩
    · rintro i h j k hi ⟨r, q⟩ ed
      refine ⟨zh_Rs hi r ed, fun hj2 e he => ?_⟩
      -- i is reached with h alone
      have b := (hF i hi h ?_).mpr ⟨?_, r⟩
      · have z : a i ≠ 0 := fun w => by rw [w, b_0] at b; exact absurd b (by decide)
        have qq := zh_one2 (zh_ht (a i)) (zh_htle _)
        rw [← hs i hi z] at qq
        have hh : h = zh_ht (a i) := by
          by_cases w : h < 32
          · exact (qq.2 h w).mp b
          · rw [b_big (by omega)] at b; exact absurd b (by decide)
        subst hh
        have fa := zk_facts (ho i hi)
        have pi := hP i hi z
        have cl := kc.2 i hi z
        have hb : zk_b O A a i = 6 + zh_ht (a i) - zh_P O A i := rfl
        obtain ⟨hj3, ⟨w1, w2, w3, w4⟩ | ⟨w1, w2, w3⟩⟩ := ed
        · have wt : zk_t O A i j := w4
          have give : ∀ c, c < 3 → zy_v (fun c e => zy_bits K c i e) (zk_pk rf (zh_op O i) (A (192 + i))) (zh_op O i) (A (192 + i)).toNatClampNeg (zk_b O A a i) c e → ∃ c, c < 3 ∧ bt (K (12 * j + e)) c = true := fun c hc v => ⟨c, hc, cl.1 j hj3 wt e (by omega) c hc v⟩
          by_cases o3 : zh_op O i = 3
          · obtain ⟨p1, p2, p3⟩ := fa.2.1 o3
            by_cases ea : e = (A (192 + i)).toNatClampNeg
            · obtain ⟨c, hc, b⟩ := q hi (zk_b O A a i) (by omega)
              exact give c hc (Or.inl ⟨o3, Or.inl ⟨ea, b⟩⟩)
            · obtain ⟨c, hc, b⟩ := q hi e (by omega)
              exact give c hc (Or.inl ⟨o3, Or.inr ⟨ea, b⟩⟩)
          · by_cases o2 : zh_op O i = 2
            · obtain ⟨p1, p2, p3⟩ := fa.2.2.1 o2
              by_cases ea : e = zk_b O A a i
              · obtain ⟨c, hc, b⟩ := q hi (A (192 + i)).toNatClampNeg (by omega)
                exact give c hc (Or.inr (Or.inl ⟨o2, Or.inl ⟨ea, b⟩⟩))
              · obtain ⟨c, hc, b⟩ := q hi e (by omega)
                exact give c hc (Or.inr (Or.inl ⟨o2, Or.inr ⟨ea, b⟩⟩))
            · by_cases o20 : zh_op O i = 20
              · obtain ⟨p1, p2⟩ := fa.2.2.2.1 o20
                by_cases ea : e = zk_b O A a i ∨ e = zk_b O A a i + 1
                · obtain ⟨c, hc, b⟩ := q hi (zk_b O A a i) (by omega)
                  exact give c hc (Or.inr (Or.inr (Or.inl ⟨o20, Or.inl ⟨ea, b⟩⟩)))
                · obtain ⟨c, hc, b⟩ := q hi e (by omega)
                  exact give c hc (Or.inr (Or.inr (Or.inl ⟨o20, Or.inr ⟨ea, b⟩⟩)))
              · have q1 := fa.2.2.2.2 o20
                by_cases ea : e = zk_b O A a i
                · have w3' := zk_pk2 rf (zh_op O i) (A (192 + i)) fa.1
                  have w0 : zk_pk rf (zh_op O i) (A (192 + i)) ≠ 0 := zk_pkne fa.1 (by have : zh_Q O i = zt_push (zh_op O i) := rfl; omega) o2 o20
                  exact give (zk_pk rf (zh_op O i) (A (192 + i)) - 1) (by omega) (Or.inr (Or.inr (Or.inr ⟨o3, o2, o20, Or.inl ⟨ea, by omega⟩⟩)))
                · obtain ⟨c, hc, b⟩ := q hi e (by omega)
                  exact give c hc (Or.inr (Or.inr (Or.inr ⟨o3, o2, o20, Or.inr ⟨ea, b⟩⟩)))
        · have cg := cl.2 w1 j hj3 w2
          by_cases e6 : e = 6
          · subst e6; exact ⟨0, by decide, cg.2⟩
          · obtain ⟨c, hc, b⟩ := q hi e (by omega)
            exact ⟨c, hc, cg.1 e (by omega) c hc b⟩
      · have := r (fun _ h => h < 7) ⟨by decide, fun i h j k _ _ e => (zh_E7 e).2⟩
        have this : h < 7 := this
        omega
      · exact r (fun _ h => h < 7) ⟨by decide, fun i h j k _ _ e => (zh_E7 e).2⟩
  -- D: nothing above the height
  have D1 : ∀ i h, zh_R (zh_E O A F T G n) n i h → i < n → ∀ e, 6 + h ≤ e → e < 12 → bt (xr i) e = false := by
    intro i h r
    have := r (fun i h => zh_R (zh_E O A F T G n) n i h ∧ (i < n → ∀ e, 6 + h ≤ e → e < 12 → bt (xr i) e = false)) ⟨⟨zh_R0, fun _ e h1 h2 => zb_f (fun b => ?_)⟩, ?_⟩
    · exact this.2
    · have := f2.1.1 e h2 b
      rw [if_neg (by decide), zt_trhi m hm e h2 (by omega)] at this
      exact absurd this (by decide)
    · rintro i h j k hi ⟨r, q⟩ ed
      refine ⟨zh_Rs hi r ed, fun hj2 e h1 h2 => zb_f (fun bb => ?_)⟩
      have h7 : h < 7 := r (fun _ h => h < 7) ⟨by decide, fun i h j k _ _ e => (zh_E7 e).2⟩
      have b := (hF i hi h (by omega)).mpr ⟨h7, r⟩
      have z : a i ≠ 0 := fun w => by rw [w, b_0] at b; exact absurd b (by decide)
      have qq := zh_one2 (zh_ht (a i)) (zh_htle _)
      rw [← hs i hi z] at qq
      have hh : h = zh_ht (a i) := (qq.2 h (by omega)).mp b
      subst hh
      have fa := zk_facts (ho i hi)
      have pi := hP i hi z
      have hb : zk_b O A a i = 6 + zh_ht (a i) - zh_P O A i := rfl
      have cl := f2.1.2 i hi z
      obtain ⟨hj3, ⟨w1, w2, w3, w4⟩ | ⟨w1, w2, w3⟩⟩ := ed
      · rcases cl.1 j hj3 w4 e h2 bb with ⟨o, v⟩ | ⟨o, v⟩ | ⟨o, v⟩ | ⟨o1, o2, o3, v⟩
        · have := fa.2.1 o; omega
        · have := fa.2.2.1 o; omega
        · have := fa.2.2.2.1 o; omega
        · rcases v with v | ⟨v1, v2⟩
          · omega
          · by_cases qz : zh_Q O i = 0
            · rw [zk_pk0 fa.1 qz] at v2; exact absurd v2 (by decide)
            · omega
      · rcases cl.2 w1 j hj3 w2 e h2 bb with ⟨v, _⟩ | ⟨v, _⟩
        · omega
        · exact absurd v (by decide)
  have r := zh_reached hF hs hi h0
  have small : ∀ e, e < 12 → ∀ c, 3 ≤ c → c < 32 → bt (K (12 * i + e)) c = false := fun e he c h1 h2 => fy.2.2 i hi e he c h1 h2
  have h6 := zh_ht6 (a i)
  refine ⟨fun e he => ?_, fun e h1 h2 => ?_⟩
  · have up1 := f1.2.1 _ (A1 1 1 (Or.inl ⟨rfl, rfl⟩)) i hi e (by omega)
    have up2 := f2.2.1 _ (A1 2 0 (Or.inr ⟨rfl, rfl⟩)) i hi e (by omega)
    have lo := fun c hc b => fy.2.1 _ B1 i hi e (by omega) c hc b h0 he
    obtain ⟨c0, hc0, bc0⟩ := C1 i _ r hi e he
    have val : ∀ (k q : Nat), (q = 0 ∧ k = 1) ∨ (q = 1 ∧ k = 2) → (∀ c, c < 3 → c ≠ q → bt (K (12 * i + e)) c = false) → K (12 * i + e) = nI k := by
      intro k q hkq hz
      have hq : bt (K (12 * i + e)) q = true := by
        by_cases w : c0 = q
        · rw [← w]; exact bc0
        · rw [hz c0 hc0 w] at bc0; exact absurd bc0 (by decide)
      apply b_ext
      intro c hc
      rw [show bt (nI k) c = decide (c = q) by
        rcases hkq with ⟨rfl, rfl⟩ | ⟨rfl, rfl⟩
        · exact zb_1 c hc
        · have : ∀ c, c < 32 → bt (nI 2) c = decide (c = 1) := by decide
          exact this c hc]
      by_cases w : c = q
      · subst w; simp [hq]
      · simp [w]
        by_cases w3 : c < 3
        · exact hz c w3 w
        · exact small e (by omega) c (by omega) hc
    constructor
    · constructor
      · intro b
        refine val 1 0 (Or.inl ⟨rfl, rfl⟩) (fun c hc w => zb_f (fun q => ?_))
        have l := lo c hc q
        have : c = 1 ∨ c = 2 := by omega
        rcases this with rfl | rfl
        · rw [l.2.1 rfl] at b; exact absurd b (by decide)
        · rw [(l.2.2 rfl).1] at b; exact absurd b (by decide)
      · intro b
        exact up1 ⟨hi, h0, he, by rw [b]; decide, by rw [b]; decide⟩
    · constructor
      · intro b
        refine val 2 1 (Or.inr ⟨rfl, rfl⟩) (fun c hc w => zb_f (fun q => ?_))
        have l := lo c hc q
        have : c = 0 ∨ c = 2 := by omega
        rcases this with rfl | rfl
        · rw [l.1 rfl] at b; exact absurd b (by decide)
        · rw [(l.2.2 rfl).2] at b; exact absurd b (by decide)
      · intro b
        exact up2 ⟨hi, h0, he, by rw [b]; decide, by rw [b]; decide⟩
  · by_cases w : e < 12
    · exact D1 i _ r hi e h1 w
    · exact f2.2.2 i hi e (by omega) h2
