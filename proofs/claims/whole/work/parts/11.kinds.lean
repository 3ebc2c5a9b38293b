/-! kinds: the pure part -/
/-- what an entry is behind an instruction: o op, a operand, b the first cell popped or pushed -/
def zk_v (f : Nat → Prop) (c : Prop) (o a b e : Nat) : Prop :=
  (o = 3 ∧ ((e = a ∧ f b) ∨ (e ≠ a ∧ e < b ∧ f e))) ∨ (o = 2 ∧ ((e < b ∧ f e) ∨ (e = b ∧ f a))) ∨ (o = 20 ∧ ((e < b ∧ f e) ∨ ((e = b ∨ e = b + 1) ∧ f b))) ∨ (o ≠ 3 ∧ o ≠ 2 ∧ o ≠ 20 ∧ ((e < b ∧ f e) ∨ (e = b ∧ c)))
theorem zk_vm {f g : Nat → Prop} {c : Prop} {o a b e : Nat} (ha : o = 2 → a < 12) (hb : b < 12 ∨ (o ≠ 3 ∧ o ≠ 20)) (h : ∀ e, e < 12 → f e → g e) (he : e < 12) (v : zk_v f c o a b e) : zk_v g c o a b e := by
  rcases v with ⟨h1, v⟩ | ⟨h1, v⟩ | ⟨h1, v⟩ | ⟨h1, h2, h3, v⟩
  · have hb : b < 12 := hb.elim id (fun k => absurd h1 k.1)
    refine Or.inl ⟨h1, ?_⟩
    rcases v with ⟨h2, v⟩ | ⟨h2, h3, v⟩
    · exact Or.inl ⟨h2, h _ hb v⟩
    · exact Or.inr ⟨h2, h3, h _ he v⟩
  · refine Or.inr (Or.inl ⟨h1, ?_⟩)
    rcases v with ⟨h2, v⟩ | ⟨h2, v⟩
    · exact Or.inl ⟨h2, h _ he v⟩
    · exact Or.inr ⟨h2, h _ (ha h1) v⟩
  · have hb : b < 12 := hb.elim id (fun k => absurd h1 k.2)
    refine Or.inr (Or.inr (Or.inl ⟨h1, ?_⟩))
    rcases v with ⟨h2, v⟩ | ⟨h2, v⟩
    · exact Or.inl ⟨h2, h _ he v⟩
    · exact Or.inr ⟨h2, h _ hb v⟩
  · refine Or.inr (Or.inr (Or.inr ⟨h1, h2, h3, ?_⟩))
    rcases v with ⟨h2, v⟩ | ⟨h2, v⟩
    · exact Or.inl ⟨h2, h _ he v⟩
    · exact Or.inr ⟨h2, v⟩
def zk_pk (rf : Nat → Int32) (o : Nat) (a : Int32) : Nat := if o = 13 then (if bt (rf (a.toNatClampNeg / 16)) (a.toNatClampNeg % 16) then 2 else 1) else if o = 16 then (if 4 ≤ a.toNatClampNeg ∧ a.toNatClampNeg ≤ 6 then 2 else 1) else if o = 17 then (if a.toNatClampNeg < 2 then 1 else 2) else [1, 2, 0, 0, 1, 1, 1, 1, 0, 0, 0, 1, 2, 0, 0, 1, 0, 0, 0, 0, 0, 0, 2, 0].getD o 0
def zk_b (O A a : Nat → Int32) (i : Nat) : Nat := 6 + zh_ht (a i) - zh_P O A i
def zk_t (O A : Nat → Int32) (i t : Nat) : Prop := (zt_jump (zh_op O i) ∧ A (192 + i) = nI t) ∨ (zt_fall (zh_op O i) ∧ t = i + 1)
def zk_cl (rf O A F T G a : Nat → Int32) (n k : Nat) (P : Nat → Nat → Prop) (i : Nat) : Prop :=
  (∀ t, t < n → zk_t O A i t → ∀ e, e < 12 → P t e → zk_v (P i) (zk_pk rf (zh_op O i) (A (192 + i)) = k) (zh_op O i) (A (192 + i)).toNatClampNeg (zk_b O A a i) e) ∧
  (zh_cg F T 8 (nI i) → ∀ g, g < n → G 8 = nI g → ∀ e, e < 12 → P g e → (e < 6 ∧ P i e) ∨ (k = 1 ∧ e = 6))
def zk_C (rf O A F T G a : Nat → Int32) (n m k : Nat) (P : Nat → Nat → Prop) : Prop :=
  (∀ e, e < 12 → P 0 e → bt (nI (if k = 1 then zt_ti m else zt_tr m)) e = true) ∧ ∀ i, i < n → a i ≠ 0 → zk_cl rf O A F T G a n k P i
/-- every closed set lies below x -/
def zk_up (C : (Nat → Nat → Prop) → Prop) (n : Nat) (x : Nat → Int32) : Prop := (∀ P, C P → ∀ i, i < n → ∀ e, e < 12 → P i e → bt (x i) e = true) ∧ ∀ i, i < n → ∀ e, 12 ≤ e → e < 32 → bt (x i) e = false
def zk_an (x : Nat → Int32) (t : Nat) (y : Int32) : Nat → Int32 := upd x t (x t &&& y)
theorem zk_anle {x : Nat → Int32} {t : Nat} {y : Int32} {i e : Nat} (h : bt (zk_an x t y i) e = true) : bt (x i) e = true := by
  unfold zk_an at h
  by_cases z : i = t
  · subst z; rw [pk_us, b_and] at h; exact (Bool.and_eq_true_iff.mp h).1
  · rw [pk_un z] at h; exact h
theorem zk_any {x : Nat → Int32} {t : Nat} {y : Int32} {e : Nat} (h : bt (zk_an x t y t) e = true) : bt y e = true := by
  unfold zk_an at h
  rw [pk_us, b_and] at h; exact (Bool.and_eq_true_iff.mp h).2
theorem zk_anup {C : (Nat → Nat → Prop) → Prop} {n : Nat} {x : Nat → Int32} {t : Nat} {y : Int32} (h : zk_up C n x) (hy : ∀ P, C P → ∀ e, e < 12 → P t e → bt y e = true) : zk_up C n (zk_an x t y) := by
  constructor
  · intro P hP i hi e he p
    have b := h.1 P hP i hi e he p
    unfold zk_an
    by_cases z : i = t
    · subst z; rw [pk_us, b_and, b, hy P hP e he p]; rfl
    · rw [pk_un z]; exact b
  · intro i hi e h1 h2
    cases z : bt (zk_an x t y i) e
    · rfl
    · have := zk_anle z
      rw [h.2 i hi e h1 h2] at this
      exact absurd this (by decide)
theorem zk_ansame {x : Nat → Int32} {t : Nat} {y : Int32} (h : x t &&& y = x t) : zk_an x t y = x := zu_self h
theorem zk_anlt {C : (Nat → Nat → Prop) → Prop} {n : Nat} (hn : n ≤ 24) {x : Nat → Int32} {t : Nat} (ht : t < n) {y : Int32} (h : zk_up C n x) (hne : x t &&& y ≠ x t) : zs_m 12 24 (zk_an x t y) < zs_m 12 24 x := by
  obtain ⟨i, hi, hd⟩ := zb_ne hne
  have e : zk_an x t y t = x t &&& y := pk_us
  have b2 : bt (x t) i = true := by
    rw [b_and] at hd
    cases z : bt (x t) i
    · rw [z] at hd; exact absurd rfl hd
    · rfl
  have b1 : bt (x t &&& y) i = false := by
    cases z : bt (x t &&& y) i
    · rfl
    · rw [z, b2] at hd; exact absurd rfl hd
  have h12 : i < 12 := by
    by_cases z : i < 12
    · exact z
    · rw [h.2 t ht i (by omega) hi] at b2; exact absurd b2 (by decide)
  exact zs_mlt (fun t _ j _ b => zk_anle b) (t := t) (j := i) (by omega) h12 (by rw [e]; exact b1) b2
def zk_one (n : Nat) (p : Prop) (t : Nat) (y z : Int32) (xi xr xi' xr' : Nat → Int32) (c : Prop) : Prop :=
  (p ∧ t < n ∧ xi' = zk_an xi t y ∧ xr' = zk_an xr t z ∧ (c ↔ (xi t &&& y ≠ xi t ∨ xr t &&& z ≠ xr t))) ∨ (¬ p ∧ xi' = xi ∧ xr' = xr ∧ ¬ c)
theorem zk_oneS {C1 C2 : (Nat → Nat → Prop) → Prop} {n : Nat} (hn : n ≤ 24) {p : Prop} {t : Nat} {y z : Int32} {xi xr xi' xr' : Nat → Int32} {c : Prop} (h : zk_one n p t y z xi xr xi' xr' c) (u1 : zk_up C1 n xi) (u2 : zk_up C2 n xr)
  (s1 : p → ∀ P, C1 P → ∀ e, e < 12 → P t e → bt y e = true) (s2 : p → ∀ P, C2 P → ∀ e, e < 12 → P t e → bt z e = true) :
  zk_up C1 n xi' ∧ zk_up C2 n xr' ∧ (c → zs_m 12 24 xi' + zs_m 12 24 xr' < zs_m 12 24 xi + zs_m 12 24 xr) ∧ zs_m 12 24 xi' + zs_m 12 24 xr' ≤ zs_m 12 24 xi + zs_m 12 24 xr ∧ (¬ c → xi' = xi ∧ xr' = xr ∧ (p → (∀ e, bt (xi t) e = true → bt y e = true) ∧ (∀ e, bt (xr t) e = true → bt z e = true))) ∧ (∀ t e, bt (xi' t) e = true → bt (xi t) e = true) ∧ (∀ t e, bt (xr' t) e = true → bt (xr t) e = true) := by
  rcases h with ⟨hp, ht, rfl, rfl, hc⟩ | ⟨hp, rfl, rfl, hc⟩
  · have g1 : zs_m 12 24 (zk_an xi t y) ≤ zs_m 12 24 xi := zs_mle (fun _ _ _ _ b => zk_anle b)
    have g2 : zs_m 12 24 (zk_an xr t z) ≤ zs_m 12 24 xr := zs_mle (fun _ _ _ _ b => zk_anle b)
    refine ⟨zk_anup u1 (s1 hp), zk_anup u2 (s2 hp), fun w => ?_, by omega, fun w => ?_, fun t e b => zk_anle b, fun t e b => zk_anle b⟩
    · rcases hc.mp w with w | w
      · have := zk_anlt hn ht u1 w; omega
      · have := zk_anlt hn ht u2 w; omega
    · have w1 : xi t &&& y = xi t := by
        by_cases k : xi t &&& y = xi t
        · exact k
        · exact absurd (hc.mpr (Or.inl k)) w
      have w2 : xr t &&& z = xr t := by
        by_cases k : xr t &&& z = xr t
        · exact k
        · exact absurd (hc.mpr (Or.inr k)) w
      refine ⟨zk_ansame w1, zk_ansame w2, fun _ => ⟨fun e b => ?_, fun e b => ?_⟩⟩
      · rw [← zk_ansame w1] at b; exact zk_any b
      · rw [← zk_ansame w2] at b; exact zk_any b
  · exact ⟨u1, u2, fun w => absurd w hc, Nat.le_refl _, fun _ => ⟨rfl, rfl, fun w => absurd w hp⟩, fun _ _ b => b, fun _ _ b => b⟩
/-- what one instruction's spreading does to the kinds -/
def zk_sp (C1 C2 : (Nat → Nat → Prop) → Prop) (L1 L2 : (Nat → Nat → Prop) → Prop) (n : Nat) (xi xr xi' xr' : Nat → Int32) (c : Prop) : Prop :=
  zk_up C1 n xi' ∧ zk_up C2 n xr' ∧ (c → zs_m 12 24 xi' + zs_m 12 24 xr' < zs_m 12 24 xi + zs_m 12 24 xr) ∧ zs_m 12 24 xi' + zs_m 12 24 xr' ≤ zs_m 12 24 xi + zs_m 12 24 xr ∧ (¬ c → xi' = xi ∧ xr' = xr ∧ L1 (fun i e => bt (xi i) e = true) ∧ L2 (fun i e => bt (xr i) e = true)) ∧ (∀ t e, bt (xi' t) e = true → bt (xi t) e = true) ∧ (∀ t e, bt (xr' t) e = true → bt (xr t) e = true)
theorem zk_63 : ∀ e, e < 32 → bt 63 e = decide (e < 6) := by decide
theorem zk_64 : ∀ e, e < 32 → bt 64 e = decide (e = 6) := by decide
theorem zk_three {rf O A F T G a : Nat → Int32} {n m i g : Nat} (hn : n ≤ 24) (hi : i < n) (h0 : a i ≠ 0) {xi xr : Nat → Int32}
  (u1 : zk_up (zk_C rf O A F T G a n m 1) n xi) (u2 : zk_up (zk_C rf O A F T G a n m 2) n xr) {y z : Int32}
  (hy : ∀ e, e < 12 → (bt y e = true ↔ zk_v (fun e => bt (xi i) e = true) (zk_pk rf (zh_op O i) (A (192 + i)) = 1) (zh_op O i) (A (192 + i)).toNatClampNeg (zk_b O A a i) e))
  (hz : ∀ e, e < 12 → (bt z e = true ↔ zk_v (fun e => bt (xr i) e = true) (zk_pk rf (zh_op O i) (A (192 + i)) = 2) (zh_op O i) (A (192 + i)).toNatClampNeg (zk_b O A a i) e))
  (ha : zh_op O i = 2 → (A (192 + i)).toNatClampNeg < 12) (hb : zk_b O A a i < 12 ∨ (zh_op O i ≠ 3 ∧ zh_op O i ≠ 20)) (hg : zh_cg F T 8 (nI i) → G 8 = nI g) (hj : zt_jump (zh_op O i) → A (192 + i) = nI (A (192 + i)).toNatClampNeg ∧ (A (192 + i)).toNatClampNeg < 2 ^ 31) (hg2 : g < 2 ^ 31)
  {i1 r1 i2 r2 i3 r3 : Nat → Int32} {c1 c2 c3 : Prop} (e1 : zk_one n (zt_jump (zh_op O i)) (A (192 + i)).toNatClampNeg y z xi xr i1 r1 c1) (e2 : zk_one n (zt_fall (zh_op O i)) (i + 1) y z i1 r1 i2 r2 c2) (e3 : zk_one n (zh_cg F T 8 (nI i)) g ((i2 i &&& 63) ||| 64) (r2 i &&& 63) i2 r2 i3 r3 c3) :
  zk_sp (zk_C rf O A F T G a n m 1) (zk_C rf O A F T G a n m 2) (fun P => zk_cl rf O A F T G a n 1 P i) (fun P => zk_cl rf O A F T G a n 2 P i) n xi xr i3 r3 (c1 ∨ c2 ∨ c3) := by
  have tj : zt_jump (zh_op O i) → zk_t O A i (A (192 + i)).toNatClampNeg := fun w => Or.inl ⟨w, (hj w).1⟩
  have tf : zt_fall (zh_op O i) → zk_t O A i (i + 1) := fun w => Or.inr ⟨w, rfl⟩
  have fy : ∀ t, t < n → zk_t O A i t → ∀ P, zk_C rf O A F T G a n m 1 P → ∀ e, e < 12 → P t e → bt y e = true := by
    intro t ht w P hP e he p
    exact (hy e he).mpr (zk_vm ha hb (fun e he q => u1.1 P hP i hi e he q) he ((hP.2 i hi h0).1 t ht w e he p))
  have fz : ∀ t, t < n → zk_t O A i t → ∀ P, zk_C rf O A F T G a n m 2 P → ∀ e, e < 12 → P t e → bt z e = true := by
    intro t ht w P hP e he p
    exact (hz e he).mpr (zk_vm ha hb (fun e he q => u2.1 P hP i hi e he q) he ((hP.2 i hi h0).1 t ht w e he p))
  have tn1 : zt_jump (zh_op O i) → (A (192 + i)).toNatClampNeg < n := by
    intro w; rcases e1 with e | e
    · exact e.2.1
    · exact absurd w e.1
  have tn2 : zt_fall (zh_op O i) → i + 1 < n := by
    intro w; rcases e2 with e | e
    · exact e.2.1
    · exact absurd w e.1
  have tn3 : zh_cg F T 8 (nI i) → g < n := by
    intro w; rcases e3 with e | e
    · exact e.2.1
    · exact absurd w e.1
  obtain ⟨a1, b1, l1, g1, k1, m1, o1⟩ := zk_oneS hn e1 u1 u2 (fun w => fy _ (tn1 w) (tj w)) (fun w => fz _ (tn1 w) (tj w))
  obtain ⟨a2, b2, l2, g2, k2, m2, o2⟩ := zk_oneS hn e2 a1 b1 (fun w => fy _ (tn2 w) (tf w)) (fun w => fz _ (tn2 w) (tf w))
  obtain ⟨a3, b3, l3, g3, k3, m3, o3⟩ := zk_oneS hn e3 a2 b2 (fun w P hP e he p => by
      rw [b_or, b_and, zk_63 e (by omega), zk_64 e (by omega)]
      rcases (hP.2 i hi h0).2 w g (tn3 w) (hg w) e he p with ⟨h6, q⟩ | ⟨_, h6⟩
      · rw [a2.1 P hP i hi e he q]; simp [h6]
      · simp [h6]) (fun w P hP e he p => by
      rw [b_and, zk_63 e (by omega)]
      rcases (hP.2 i hi h0).2 w g (tn3 w) (hg w) e he p with ⟨h6, q⟩ | ⟨h6, _⟩
      · rw [b2.1 P hP i hi e he q]; simp [h6]
      · exact absurd h6 (by decide))
  refine ⟨a3, b3, ?_, by omega, ?_, fun t e b => m1 t e (m2 t e (m3 t e b)), fun t e b => o1 t e (o2 t e (o3 t e b))⟩
  · rintro (w | w | w)
    · have := l1 w; omega
    · have := l2 w; omega
    · have := l3 w; omega
  · intro w
    obtain ⟨p1, q1, f1⟩ := k1 (fun k => w (Or.inl k))
    obtain ⟨p2, q2, f2⟩ := k2 (fun k => w (Or.inr (Or.inl k)))
    obtain ⟨p3, q3, f3⟩ := k3 (fun k => w (Or.inr (Or.inr k)))
    subst p1 q1 p2 q2 p3 q3
    refine ⟨rfl, rfl, ⟨?_, ?_⟩, ⟨?_, ?_⟩⟩
    · intro t ht w e he p
      refine (hy e he).mp ?_
      rcases w with ⟨w, q⟩ | ⟨w, rfl⟩
      · have : (A (192 + i)).toNatClampNeg = t := by rw [q, nI_clamp (by omega)]
        exact (f1 w).1 e (by rw [this]; exact p)
      · exact (f2 w).1 e p
    · intro w t ht q e he p
      have eg : g = t := (nI_eq hg2 (by omega)).mp ((hg w).symm.trans q)
      subst eg
      have := (f3 w).1 e p
      rw [b_or, b_and, zk_63 e (by omega), zk_64 e (by omega)] at this
      by_cases h6 : e = 6
      · exact Or.inr ⟨rfl, h6⟩
      · simp [h6] at this; exact Or.inl ⟨this.2, this.1⟩
    · intro t ht w e he p
      refine (hz e he).mp ?_
      rcases w with ⟨w, q⟩ | ⟨w, rfl⟩
      · have : (A (192 + i)).toNatClampNeg = t := by rw [q, nI_clamp (by omega)]
        exact (f1 w).2 e (by rw [this]; exact p)
      · exact (f2 w).2 e p
    · intro w t ht q e he p
      have eg : g = t := (nI_eq hg2 (by omega)).mp ((hg w).symm.trans q)
      subst eg
      have := (f3 w).2 e p
      rw [b_and, zk_63 e (by omega)] at this
      simp at this; exact Or.inl ⟨this.2, this.1⟩
/-! bits of what lies behind -/
theorem zk_low : ∀ b, b < 13 → ∀ e, e < 32 → bt (((1 : Int32) <<< (nI b &&& 31)) - 1) e = decide (e < b) := by decide +kernel
theorem zk_bit01 (x : Int32) {j : Nat} (hj : j < 32) : (x >>> (nI j &&& 31)) &&& 1 = if bt x j then 1 else 0 := by
  cases z : bt x j
  · exact (zb_bit x hj).mpr z
  · exact (zb_bit1 x hj).mpr z
theorem zk_sh1 (q : Bool) {b : Nat} (hb : b < 32) {e : Nat} (he : e < 32) : bt ((if q then (1 : Int32) else 0) <<< (nI b &&& 31)) e = (q && decide (e = b)) := by
  cases q
  · rw [b_shl b hb _ he]; simp [b_0]
  · simp [zb_tp b hb e he]
theorem zk_sh3 (q : Bool) {b : Nat} (hb : b < 32) {e : Nat} (he : e < 32) : bt (((if q then (1 : Int32) else 0) * 3) <<< (nI b &&& 31)) e = (q && decide (e = b ∨ e = b + 1)) := by
  have b3 : ∀ i, i < 32 → bt 3 i = decide (i = 0 ∨ i = 1) := by decide
  cases q
  · rw [b_shl b hb _ he]; simp [b_0]
  · simp only [if_true, Int32.one_mul, Bool.true_and]
    rw [b_shl b hb _ he, b3 _ (by omega)]
    by_cases h1 : e = b
    · subst h1; simp
    · by_cases h2 : e = b + 1
      · subst h2; simp
      · by_cases h3 : b ≤ e
        · have : ¬ e - b = 0 := by omega
          have : ¬ e - b = 1 := by omega
          simp [*]
        · simp [*]
