/-! sums, measures, and the pure part of the heights -/
def zs (f : Nat → Nat) : Nat → Nat
  | 0 => 0
  | n + 1 => zs f n + f n
theorem zs_le {f g : Nat → Nat} : ∀ n, (∀ i, i < n → f i ≤ g i) → zs f n ≤ zs g n := by
  intro n
  induction n with
  | zero => intro _; exact Nat.le_refl _
  | succ n ih =>
    intro h
    have h1 := ih (fun i hi => h i (by omega))
    have h2 := h n (by omega)
    show zs f n + f n ≤ zs g n + g n
    omega
theorem zs_lt {f g : Nat → Nat} : ∀ n, (∀ i, i < n → f i ≤ g i) → (∃ i, i < n ∧ f i < g i) → zs f n < zs g n := by
  intro n
  induction n with
  | zero => rintro _ ⟨i, hi, _⟩; omega
  | succ n ih =>
    rintro h ⟨i, hi, hl⟩
    have h2 := h n (by omega)
    show zs f n + f n < zs g n + g n
    by_cases z : i = n
    · subst z
      have h1 := zs_le (f := f) (g := g) i (fun i hi => h i (by omega))
      omega
    · have h1 := ih (fun i hi => h i (by omega)) ⟨i, by omega, hl⟩
      omega
theorem zs_ub {f : Nat → Nat} {c : Nat} : ∀ n, (∀ i, i < n → f i ≤ c) → zs f n ≤ n * c := by
  intro n
  induction n with
  | zero => intro _; exact Nat.zero_le _
  | succ n ih =>
    intro h
    have h1 := ih (fun i hi => h i (by omega))
    have h2 := h n (by omega)
    show zs f n + f n ≤ (n + 1) * c
    rw [Nat.succ_mul]
    omega
theorem zs_eq {f g : Nat → Nat} : ∀ n, (∀ i, i < n → f i = g i) → zs f n = zs g n := by
  intro n
  induction n with
  | zero => intro _; rfl
  | succ n ih =>
    intro h
    have h1 := ih (fun i hi => h i (by omega))
    have h2 := h n (by omega)
    show zs f n + f n = zs g n + g n
    omega
def zs_b (b : Bool) : Nat := if b then 1 else 0
theorem zs_b1 (b : Bool) : zs_b b ≤ 1 := by cases b <;> decide
/-- how many of the lowest B bits of the first N words are set -/
def zs_m (B N : Nat) (a : Nat → Int32) : Nat := zs (fun t => zs (fun h => zs_b (bt (a t) h)) B) N
theorem zs_mub (B N : Nat) (a : Nat → Int32) : zs_m B N a ≤ N * B := by
  refine zs_ub N (fun i _ => ?_)
  have := zs_ub (f := fun h => zs_b (bt (a i) h)) (c := 1) B (fun _ _ => zs_b1 _)
  omega
theorem zs_bm {p q : Bool} (h : p = true → q = true) : zs_b p ≤ zs_b q := by
  cases p
  · exact Nat.zero_le _
  · rw [h rfl]; exact Nat.le_refl _
theorem zs_mle {B N : Nat} {a b : Nat → Int32} (h : ∀ t, t < N → ∀ j, j < B → bt (a t) j = true → bt (b t) j = true) : zs_m B N a ≤ zs_m B N b :=
  zs_le N (fun t ht => zs_le B (fun j hj => zs_bm (h t ht j hj)))
theorem zs_mlt {B N : Nat} {a b : Nat → Int32} (h : ∀ t, t < N → ∀ j, j < B → bt (a t) j = true → bt (b t) j = true) {t j : Nat} (ht : t < N) (hj : j < B) (h1 : bt (a t) j = false) (h2 : bt (b t) j = true) : zs_m B N a < zs_m B N b := by
  refine zs_lt N (fun t ht => zs_le B (fun j hj => zs_bm (h t ht j hj))) ⟨t, ht, zs_lt B (fun j hj => zs_bm (h t ht j hj)) ⟨j, hj, ?_⟩⟩
  rw [h1, h2]; decide
/-- words that differ differ in a bit -/
theorem zb_ne {x y : Int32} (h : x ≠ y) : ∃ i, i < 32 ∧ bt x i ≠ bt y i := by
  by_cases z : ∃ i, i < 32 ∧ bt x i ≠ bt y i
  · exact z
  · refine absurd (b_ext (fun i hi => ?_)) h
    by_cases w : bt x i = bt y i
    · exact w
    · exact absurd ⟨i, hi, w⟩ z
theorem zu_self {f : Nat → Int32} {k : Nat} {x : Int32} (h : x = f k) : upd f k x = f := by
  funext j
  unfold upd
  split
  · rename_i e; rw [e, h]
  · rfl
/-! the draft's instructions -/
def zh_op (O : Nat → Int32) (i : Nat) : Nat := (O (192 + i)).toNatClampNeg
def zh_P (O A : Nat → Int32) (i : Nat) : Nat := zt_pops (zh_op O i) (A (192 + i))
def zh_Q (O : Nat → Int32) (i : Nat) : Nat := zt_push (zh_op O i)
def zh_cg (F T : Nat → Int32) (r : Nat) (p : Int32) : Prop := ¬ p < F r ∧ ¬ T r ≤ p
/-- instruction i, with height h, leads to j with height k -/
def zh_E (O A F T G : Nat → Int32) (n i h j k : Nat) : Prop :=
  j < n ∧ ((zh_P O A i ≤ h ∧ h - zh_P O A i + zh_Q O i ≤ 6 ∧ k = h - zh_P O A i + zh_Q O i ∧ ((zt_jump (zh_op O i) ∧ A (192 + i) = nI j) ∨ (zt_fall (zh_op O i) ∧ j = i + 1))) ∨ (zh_cg F T 8 (nI i) ∧ G 8 = nI j ∧ k = 1))
def zh_C (E : Nat → Nat → Nat → Nat → Prop) (n : Nat) (S : Nat → Nat → Prop) : Prop := S 0 0 ∧ ∀ i h j k, i < n → S i h → E i h j k → S j k
/-- the least closed set -/
def zh_R (E : Nat → Nat → Nat → Nat → Prop) (n i h : Nat) : Prop := ∀ S, zh_C E n S → S i h
theorem zh_R0 {E : Nat → Nat → Nat → Nat → Prop} {n : Nat} : zh_R E n 0 0 := fun _ h => h.1
theorem zh_Rs {E : Nat → Nat → Nat → Nat → Prop} {n i h j k : Nat} (hi : i < n) (r : zh_R E n i h) (e : E i h j k) : zh_R E n j k := fun S c => c.2 i h j k hi (r S c) e
def zh_S (E : Nat → Nat → Nat → Nat → Prop) (n : Nat) (a : Nat → Int32) : Prop := ∀ i, i < n → ∀ h, h < 32 → bt (a i) h = true → h < 7 ∧ zh_R E n i h
def zh_K (E : Nat → Nat → Nat → Nat → Prop) (a : Nat → Int32) (i : Nat) : Prop := ∀ h, h < 7 → bt (a i) h = true → ∀ j k, E i h j k → bt (a j) k = true
def zh_F (E : Nat → Nat → Nat → Nat → Prop) (n : Nat) (a : Nat → Int32) : Prop := ∀ i, i < n → ∀ h, h < 32 → (bt (a i) h = true ↔ h < 7 ∧ zh_R E n i h)
theorem zh_fin {E : Nat → Nat → Nat → Nat → Prop} {n : Nat} {a : Nat → Int32} (hn : 0 < n) (hE : ∀ i h j k, E i h j k → j < n ∧ k < 7) (hS : zh_S E n a) (h0 : bt (a 0) 0 = true) (hK : ∀ i, i < n → zh_K E a i) : zh_F E n a := by
  intro i hi h hh
  constructor
  · exact hS i hi h hh
  · rintro ⟨_, r⟩
    have c : zh_C E n (fun i h => i < n ∧ h < 7 ∧ bt (a i) h = true) := by
      refine ⟨⟨hn, by decide, h0⟩, ?_⟩
      rintro i h j k hi ⟨_, h7, b⟩ e
      exact ⟨(hE _ _ _ _ e).1, (hE _ _ _ _ e).2, hK i hi h h7 b j k e⟩
    exact (r _ c).2.2
theorem zh_E7 {O A F T G : Nat → Int32} {n i h j k : Nat} (e : zh_E O A F T G n i h j k) : j < n ∧ k < 7 := by
  obtain ⟨hj, ⟨_, _, e, _⟩ | ⟨_, _, e⟩⟩ := e
  · exact ⟨hj, by omega⟩
  · exact ⟨hj, by omega⟩
/-! adding heights to one place -/
def zh_ad (n : Nat) (a : Nat → Int32) (t : Nat) (x : Int32) : Nat → Int32 := if t < n then upd a t (a t ||| x) else a
def zh_ch (n : Nat) (a : Nat → Int32) (t : Nat) (x : Int32) : Prop := t < n ∧ a t ||| x ≠ a t
theorem zh_adm {n : Nat} {a : Nat → Int32} {t : Nat} {x : Int32} {i h : Nat} (b : bt (a i) h = true) : bt (zh_ad n a t x i) h = true := by
  unfold zh_ad
  split
  · by_cases z : i = t
    · subst z; rw [pk_us, b_or, b]; rfl
    · rw [pk_un z]; exact b
  · exact b
theorem zh_adx {n : Nat} {a : Nat → Int32} {t : Nat} {x : Int32} {h : Nat} (ht : t < n) (b : bt x h = true) : bt (zh_ad n a t x t) h = true := by
  unfold zh_ad
  rw [if_pos ht, pk_us, b_or, b, Bool.or_true]
theorem zh_adS {E : Nat → Nat → Nat → Nat → Prop} {n : Nat} {a : Nat → Int32} {t : Nat} {x : Int32} (hS : zh_S E n a) (hx : t < n → ∀ h, h < 32 → bt x h = true → h < 7 ∧ zh_R E n t h) : zh_S E n (zh_ad n a t x) := by
  intro i hi h hh b
  unfold zh_ad at b
  split at b
  · rename_i ht
    by_cases z : i = t
    · subst z
      rw [pk_us, b_or] at b
      rcases Bool.or_eq_true_iff.mp b with b | b
      · exact hS i hi h hh b
      · exact hx ht h hh b
    · rw [pk_un z] at b
      exact hS i hi h hh b
  · exact hS i hi h hh b
theorem zh_adn {n : Nat} {a : Nat → Int32} {t : Nat} {x : Int32} (h : ¬ zh_ch n a t x) : zh_ad n a t x = a := by
  unfold zh_ad
  split
  · rename_i ht
    refine zu_self ?_
    by_cases z : a t ||| x = a t
    · exact z
    · exact absurd ⟨ht, z⟩ h
  · rfl
theorem zh_adl {E : Nat → Nat → Nat → Nat → Prop} {n : Nat} {a : Nat → Int32} {t : Nat} {x : Int32} (hn : n ≤ 24) (hS : zh_S E n (zh_ad n a t x)) (h : zh_ch n a t x) : zs_m 7 24 a < zs_m 7 24 (zh_ad n a t x) := by
  obtain ⟨ht, hne⟩ := h
  obtain ⟨i, hi, hd⟩ := zb_ne hne
  have e : zh_ad n a t x t = a t ||| x := by unfold zh_ad; rw [if_pos ht, pk_us]
  have b2 : bt (a t) i = false := by
    rw [b_or] at hd
    cases z : bt (a t) i
    · rfl
    · rw [z] at hd; exact absurd rfl hd
  have b1 : bt (a t ||| x) i = true := by
    cases z : bt (a t ||| x) i
    · rw [z, b2] at hd; exact absurd rfl hd
    · rfl
  have h7 := (hS t ht i hi (by rw [e]; exact b1)).1
  exact zs_mlt (fun t _ j _ b => zh_adm b) (t := t) (j := i) (by omega) h7 b2 (by rw [e]; exact b1)
theorem zh_adle {n : Nat} {a : Nat → Int32} {t : Nat} {x : Int32} : zs_m 7 24 a ≤ zs_m 7 24 (zh_ad n a t x) := zs_mle (fun _ _ _ _ b => zh_adm b)
/-- what one instruction's spreading does -/
def zh_sp (E : Nat → Nat → Nat → Nat → Prop) (n i : Nat) (a b : Nat → Int32) (c : Prop) : Prop :=
  zh_S E n b ∧ (∀ t h, bt (a t) h = true → bt (b t) h = true) ∧ (c → zs_m 7 24 a < zs_m 7 24 b) ∧ (¬ c → b = a ∧ zh_K E a i)
/-- three additions, in any order of the flags -/
theorem zh_three {E : Nat → Nat → Nat → Nat → Prop} {n i : Nat} (hn : n ≤ 24) {a : Nat → Int32} (hS : zh_S E n a) {p1 p2 p3 : Prop} {t1 t2 t3 : Nat} {x1 x2 x3 : Int32}
  (s1 : p1 → t1 < n → ∀ h, h < 32 → bt x1 h = true → h < 7 ∧ zh_R E n t1 h) (s2 : p2 → t2 < n → ∀ h, h < 32 → bt x2 h = true → h < 7 ∧ zh_R E n t2 h) (s3 : p3 → t3 < n → ∀ h, h < 32 → bt x3 h = true → h < 7 ∧ zh_R E n t3 h)
  (hE : ∀ h, h < 7 → bt (a i) h = true → ∀ j k, E i h j k → j < n ∧ ((p1 ∧ j = t1 ∧ bt x1 k = true) ∨ (p2 ∧ j = t2 ∧ bt x2 k = true) ∨ (p3 ∧ j = t3 ∧ bt x3 k = true)))
  {a1 a2 a3 : Nat → Int32} {c1 c2 c3 : Prop} (e1 : (p1 ∧ a1 = zh_ad n a t1 x1 ∧ (c1 ↔ zh_ch n a t1 x1)) ∨ (¬ p1 ∧ a1 = a ∧ ¬ c1)) (e2 : (p2 ∧ a2 = zh_ad n a1 t2 x2 ∧ (c2 ↔ zh_ch n a1 t2 x2)) ∨ (¬ p2 ∧ a2 = a1 ∧ ¬ c2)) (e3 : (p3 ∧ a3 = zh_ad n a2 t3 x3 ∧ (c3 ↔ zh_ch n a2 t3 x3)) ∨ (¬ p3 ∧ a3 = a2 ∧ ¬ c3)) : zh_sp E n i a a3 (c1 ∨ c2 ∨ c3) := by
  have one : ∀ (p : Prop) (t : Nat) (x : Int32) (a b : Nat → Int32) (c : Prop), zh_S E n a → (p → t < n → ∀ h, h < 32 → bt x h = true → h < 7 ∧ zh_R E n t h) → ((p ∧ b = zh_ad n a t x ∧ (c ↔ zh_ch n a t x)) ∨ (¬ p ∧ b = a ∧ ¬ c)) → zh_S E n b ∧ (∀ t h, bt (a t) h = true → bt (b t) h = true) ∧ (c → zs_m 7 24 a < zs_m 7 24 b) ∧ zs_m 7 24 a ≤ zs_m 7 24 b ∧ (¬ c → b = a ∧ (p → t < n → ∀ h, bt x h = true → bt (a t) h = true)) := by
    intro p t x a b c hS s e
    rcases e with ⟨hp, rfl, hc⟩ | ⟨hp, rfl, hc⟩
    · have hS' := zh_adS (a := a) (x := x) hS (s hp)
      refine ⟨hS', fun t h b => zh_adm b, fun z => zh_adl hn hS' (hc.mp z), zh_adle, fun z => ?_⟩
      have e := zh_adn (fun w => z (hc.mpr w))
      refine ⟨e, fun _ ht h b => ?_⟩
      have := zh_adx (a := a) ht b
      rwa [e] at this
    · exact ⟨hS, fun t h b => b, fun z => absurd z hc, Nat.le_refl _, fun _ => ⟨rfl, fun z => absurd z hp⟩⟩
  obtain ⟨S1, m1, l1, g1, k1⟩ := one p1 t1 x1 a a1 c1 hS s1 e1
  obtain ⟨S2, m2, l2, g2, k2⟩ := one p2 t2 x2 a1 a2 c2 S1 s2 e2
  obtain ⟨S3, m3, l3, g3, k3⟩ := one p3 t3 x3 a2 a3 c3 S2 s3 e3
  refine ⟨S3, fun t h b => m3 _ _ (m2 _ _ (m1 _ _ b)), ?_, ?_⟩
  · rintro (z | z | z)
    · have := l1 z; omega
    · have := l2 z; omega
    · have := l3 z; omega
  · intro z
    obtain ⟨r1, q1⟩ := k1 (fun w => z (Or.inl w))
    obtain ⟨r2, q2⟩ := k2 (fun w => z (Or.inr (Or.inl w)))
    obtain ⟨r3, q3⟩ := k3 (fun w => z (Or.inr (Or.inr w)))
    subst r1 r2 r3
    refine ⟨rfl, ?_⟩
    intro h h7 b j k e
    obtain ⟨hj, w⟩ := hE h h7 b j k e
    rcases w with ⟨p, rfl, w⟩ | ⟨p, rfl, w⟩ | ⟨p, rfl, w⟩
    · exact q1 p hj _ w
    · exact q2 p hj _ w
    · exact q3 p hj _ w
