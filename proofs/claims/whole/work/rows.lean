section
/-! pure rows to paste: stores, nI and lN arithmetic, masks, shifts, narrowing, branches by naturals (pk_le, pk_lt, pk_eq), loops (lp1 .. lp16: the measure of the state; rp1 ..: recursion), negatives. Take what you need -/
theorem pk_us {f : Nat → Int32} {k : Nat} {x : Int32} : upd f k x k = x := if_pos rfl
theorem pk_un {f : Nat → Int32} {k j : Nat} {x : Int32} (h : j ≠ k) : upd f k x j = f j := if_neg h
theorem pk_uLs {f : Nat → Int64} {k : Nat} {x : Int64} : vp_updL f k x k = x := if_pos rfl
theorem pk_uLn {f : Nat → Int64} {k j : Nat} {x : Int64} (h : j ≠ k) : vp_updL f k x j = f j := if_neg h
theorem pk_sub {a b : Nat} (h : b ≤ a) : nI a - nI b = nI (a - b) := by
  obtain ⟨c, rfl⟩ : ∃ c, a = c + b := ⟨a - b, by omega⟩
  rw [← nI_add, Int32.add_sub_cancel, Nat.add_sub_cancel]
theorem pk_m1 (n : Nat) : nI (n + 1) + (-1) = nI n := by
  rw [← nI_1, Int32.add_assoc, show (1 : Int32) + (-1) = 0 from rfl, Int32.add_zero]
theorem pk_mul (a b : Nat) : nI a * nI b = nI (a * b) := (Int32.ofNat_mul a b).symm
theorem pk_div {a d : Nat} (ha : a < 2 ^ 31) (h0 : 0 < d) (hd : d < 2 ^ 31) : nI a / nI d = nI (a / d) := by
  apply Int32.toInt_inj.mp
  rw [lg_idiv_nonneg (by rw [nI_toInt ha]; omega) (by rw [nI_toInt hd]; omega), nI_toInt ha, nI_toInt hd, nI_toInt (Nat.lt_of_le_of_lt (Nat.div_le_self a d) ha)]
  first | rfl | exact (Int.natCast_ediv _ _).symm
theorem pk_rem {a d : Nat} (ha : a < 2 ^ 31) (h0 : 0 < d) (hd : d < 2 ^ 31) : nI a - nI a / nI d * nI d = nI (a % d) := by
  rw [pk_div ha h0 hd, pk_mul, pk_sub (Nat.div_mul_le_self a d)]
  exact congrArg nI (by have := Nat.div_add_mod' a d; omega)
theorem pk_sub_toInt {a b : Nat} (ha : a < 2 ^ 30) (hb : b < 2 ^ 30) : (nI a - nI b).toInt = (a : Int) - b := by
  rw [Int32.toInt_sub, nI_toInt (by omega), nI_toInt (by omega)]
  exact Int.bmod_eq_of_le (by omega) (by omega)
theorem pk_sneg {a b : Nat} (hb : b < 2 ^ 30) (h : a < b) : nI a - nI b < 0 := by
  rw [Int32.lt_iff_toInt_lt, pk_sub_toInt (by omega) hb, show (0 : Int32).toInt = 0 from by decide]
  omega
theorem pk_ix (x : Int32) {n : Nat} (hn : n < 2 ^ 31) : x < 0 ∨ nI n ≤ x ∨ ∃ j : Nat, j < n ∧ x = nI j := by
  by_cases h : x < 0
  · exact Or.inl h
  · obtain ⟨j, hj, rfl⟩ := nI_of h
    by_cases h2 : j < n
    · exact Or.inr (Or.inr ⟨j, h2, rfl⟩)
    · exact Or.inr (Or.inl (nI_le (by omega) hj))
theorem pk_le {x y : Int32} {A B : Prop} (a b : Nat) (f : a ≤ b → A) (g : b < a → B) (hx : x = nI a := by rfl) (hy : y = nI b := by rfl) (ha : a < 2 ^ 31 := by omega) (hb : b < 2 ^ 31 := by omega) : (x ≤ y → A) ∧ (¬ x ≤ y → B) := by
  subst hx hy
  rw [nI_leI ha hb]
  exact ⟨f, fun z => g (by omega)⟩
theorem pk_lt {x y : Int32} {A B : Prop} (a b : Nat) (f : a < b → A) (g : b ≤ a → B) (hx : x = nI a := by rfl) (hy : y = nI b := by rfl) (ha : a < 2 ^ 31 := by omega) (hb : b < 2 ^ 31 := by omega) : (x < y → A) ∧ (¬ x < y → B) := by
  subst hx hy
  rw [nI_ltI ha hb]
  exact ⟨f, fun z => g (by omega)⟩
theorem pk_eq {x y : Int32} {A B : Prop} (a b : Nat) (f : a = b → A) (g : a ≠ b → B) (hx : x = nI a := by rfl) (hy : y = nI b := by rfl) (ha : a < 2 ^ 31 := by omega) (hb : b < 2 ^ 31 := by omega) : (x = y → A) ∧ (¬ x = y → B) := by
  subst hx hy
  rw [nI_eq ha hb]
  exact ⟨f, g⟩
theorem pk_in {x : Int32} (n N : Nat) (h : n < N) (hx : x = nI n := by rfl) (hN : N < 2 ^ 31 := by omega) : vp_in x N := by
  subst hx
  exact vp_in_nI h hN
theorem pk_cl {x : Int32} (n : Nat) (hx : x = nI n := by rfl) (h : n < 2 ^ 31 := by omega) : x.toNatClampNeg = n := by
  subst hx
  exact nI_clamp h
theorem pk_tn {n : Nat} (h : n < 2 ^ 32) : (nI n).toBitVec.toNat = n := Nat.mod_eq_of_lt h
theorem pk_and (x : Int32) {m : Int32} (k : Nat) (hm : m.toBitVec.toNat = 2 ^ k - 1) : x &&& m = nI (x.toBitVec.toNat % 2 ^ k) := by
  apply Int32.toBitVec_inj.mp
  apply BitVec.eq_of_toNat_eq
  rw [Int32.toBitVec_and, BitVec.toNat_and, hm, Nat.and_two_pow_sub_one_eq_mod]
  show _ = (BitVec.ofNat 32 _).toNat
  rw [BitVec.toNat_ofNat]
  exact (Nat.mod_eq_of_lt (Nat.lt_of_le_of_lt (Nat.mod_le _ _) x.toBitVec.isLt)).symm
theorem pk_andN {n : Nat} (h : n < 2 ^ 32) {m : Int32} (k : Nat) (hm : m.toBitVec.toNat = 2 ^ k - 1) : nI n &&& m = nI (n % 2 ^ k) := by
  rw [pk_and _ k hm, pk_tn h]
theorem pk_andE (x : Int32) {m : Int32} (k : Nat) (hm : m.toBitVec.toNat = 2 ^ k - 1) : ∃ j : Nat, j < 2 ^ k ∧ x &&& m = nI j := ⟨_, Nat.mod_lt _ (Nat.two_pow_pos k), pk_and x k hm⟩
theorem pk_andIn (x : Int32) {m : Int32} (k : Nat) (hm : m.toBitVec.toNat = 2 ^ k - 1) (hk : k ≤ 30) : vp_in (x &&& m) (2 ^ k) := by
  obtain ⟨j, hj, e⟩ := pk_andE x k hm
  rw [e]
  exact vp_in_nI hj (Nat.lt_of_le_of_lt (Nat.pow_le_pow_right (by decide) hk) (by decide))
theorem pk_shl (a s : Int32) (k : Nat) (hs : (s.toBitVec.smod 32).toNat = k) : (a <<< s).toBitVec.toNat = a.toBitVec.toNat * 2 ^ k % 2 ^ 32 := by
  show (a.toBitVec <<< (s.toBitVec.smod 32).toNat).toNat = _
  rw [hs, BitVec.toNat_shiftLeft, Nat.shiftLeft_eq]
theorem pk_shlN {n : Nat} (s : Int32) (k : Nat) (hs : (s.toBitVec.smod 32).toNat = k) (h : n * 2 ^ k < 2 ^ 32) : nI n <<< s = nI (n * 2 ^ k) := by
  apply Int32.toBitVec_inj.mp
  apply BitVec.eq_of_toNat_eq
  have hn : n < 2 ^ 32 := Nat.lt_of_le_of_lt (Nat.le_mul_of_pos_right n (Nat.two_pow_pos k)) h
  rw [pk_shl _ _ k hs, pk_tn hn, pk_tn h, Nat.mod_eq_of_lt h]
theorem pk_shr (a s : Int32) (k : Nat) (hs : (s.toBitVec.smod 32).toNat = k) : (a >>> s).toInt = a.toInt >>> k := by
  show (a.toBitVec.sshiftRight (s.toBitVec.smod 32).toNat).toInt = _
  rw [hs, BitVec.toInt_sshiftRight]
  rfl
theorem pk_shrN {n : Nat} (h : n < 2 ^ 31) (s : Int32) (k : Nat) (hs : (s.toBitVec.smod 32).toNat = k) : nI n >>> s = nI (n / 2 ^ k) := by
  apply Int32.toInt_inj.mp
  have h2 : n / 2 ^ k ≤ n := Nat.div_le_self _ _
  rw [pk_shr _ _ k hs, nI_toInt h, nI_toInt (by omega), Int.shiftRight_eq_div_pow]
  rfl
theorem pk_ushr (x s : Int32) (k : Nat) (hs : ((s.toUInt32 &&& Int32.toUInt32 31).toBitVec % 32).toNat = k) : (x.toUInt32 >>> (s.toUInt32 &&& Int32.toUInt32 31)).toInt32.toBitVec.toNat = x.toBitVec.toNat / 2 ^ k := by
  have e : (x.toUInt32 >>> (s.toUInt32 &&& Int32.toUInt32 31)).toInt32.toBitVec = x.toBitVec >>> k := by
    rw [← hs]
    exact UInt32.toBitVec_shiftRight _ _
  rw [e, BitVec.toNat_ushiftRight, Nat.shiftRight_eq_div_pow]
theorem pk_ushrN {n : Nat} (hn : n < 2 ^ 32) (s : Int32) (k : Nat) (hs : ((s.toUInt32 &&& Int32.toUInt32 31).toBitVec % 32).toNat = k) : ((nI n).toUInt32 >>> (s.toUInt32 &&& Int32.toUInt32 31)).toInt32 = nI (n / 2 ^ k) := by
  apply Int32.toBitVec_inj.mp
  apply BitVec.eq_of_toNat_eq
  rw [pk_ushr _ s k hs, pk_tn hn, pk_tn (Nat.lt_of_le_of_lt (Nat.div_le_self _ _) hn)]
theorem pk_nb (z : Int32) : narrow .byte (.int z.toInt8.toInt32) = .int z.toInt8.toInt32 := congrArg Value.int (by simp)
theorem pk_ns (z : Int32) : narrow .short (.int z.toInt16.toInt32) = .int z.toInt16.toInt32 := congrArg Value.int (by simp)
theorem pk_fb (r : Int32) : fits .byte (.int r.toInt8.toInt32) = true := by
  have ⟨a, b⟩ := lg_i2b_range r
  have h1 : (-128 : Int32).toInt = -128 := by decide
  have h2 : (127 : Int32).toInt = 127 := by decide
  simp only [fits, Bool.and_eq_true, decide_eq_true_eq, Int32.le_iff_toInt_le, h1, h2]
  omega
theorem pk_fs (r : Int32) : fits .short (.int r.toInt16.toInt32) = true := by
  have ⟨a, b⟩ := lg_i2s_range r
  have h1 : (-32768 : Int32).toInt = -32768 := by decide
  have h2 : (32767 : Int32).toInt = 32767 := by decide
  simp only [fits, Bool.and_eq_true, decide_eq_true_eq, Int32.le_iff_toInt_le, h1, h2]
  omega
theorem pk_charN {q : Nat} (hq : q < 65536) : narrow .char (.int (nI q)) = .int (nI q) ∧ fits .char (.int (nI q)) = true := by
  constructor
  · have e : (nI q).toUInt32.toUInt16.toUInt32.toInt32 = nI q := by
      apply Int32.toBitVec_inj.mp
      apply BitVec.eq_of_toNat_eq
      show (nI q).toUInt32.toUInt16.toUInt32.toNat = q % 2 ^ 32
      rw [UInt16.toNat_toUInt32, UInt32.toNat_toUInt16, show (nI q).toUInt32.toNat = q % 2 ^ 32 from rfl]
      omega
    exact congrArg Value.int e
  · have a : (0 : Int32) ≤ nI q := nI_pos' (by omega)
    have b : nI q ≤ 65535 := nI_le (b := 65535) (by omega) (by decide)
    show (decide ((0 : Int32) ≤ nI q) && decide (nI q ≤ 65535)) = true
    rw [decide_eq_true a, decide_eq_true b]
    rfl
theorem pk_char (x : Int32) : (x.toUInt32 % 65536).toInt32 = nI (x.toBitVec.toNat % 65536) := by
  apply Int32.toBitVec_inj.mp
  apply BitVec.eq_of_toNat_eq
  rw [pk_tn (by omega)]
  show (x.toUInt32 % 65536).toNat = _
  rw [UInt32.toNat_mod]
  rfl
theorem pk_nc (x : Int32) : narrow .char (.int (x.toUInt32 % 65536).toInt32) = .int (x.toUInt32 % 65536).toInt32 := by
  rw [pk_char]
  exact (pk_charN (Nat.mod_lt _ (by decide))).1
theorem pk_fc (x : Int32) : fits .char (.int (x.toUInt32 % 65536).toInt32) = true := by
  rw [pk_char]
  exact (pk_charN (Nat.mod_lt _ (by decide))).2
theorem pk_vb (z : Int32) : vp_nar .byte z.toInt8.toInt32 = z.toInt8.toInt32 := by rw [vp_nar_byte]; simp
theorem pk_vs (z : Int32) : vp_nar .short z.toInt16.toInt32 = z.toInt16.toInt32 := by rw [vp_nar_short]; simp
theorem pk_vc (z : Int32) : vp_nar .char (z.toUInt32 % 65536).toInt32 = (z.toUInt32 % 65536).toInt32 := Value.int.inj (pk_nc z)
theorem pk_lT {n : Nat} (h : n < 2 ^ 63) : (lN n).toInt = (n : Int) := lg_ofNat_toInt h
theorem pk_lLT {a b : Nat} (ha : a < 2 ^ 63) (hb : b < 2 ^ 63) : lN a < lN b ↔ a < b := by
  rw [Int64.lt_iff_toInt_lt, pk_lT ha, pk_lT hb]; omega
theorem pk_lLE {a b : Nat} (ha : a < 2 ^ 63) (hb : b < 2 ^ 63) : lN a ≤ lN b ↔ a ≤ b := by
  rw [Int64.le_iff_toInt_le, pk_lT ha, pk_lT hb]; omega
theorem pk_lEQ {a b : Nat} (ha : a < 2 ^ 63) (hb : b < 2 ^ 63) : lN a = lN b ↔ a = b := by
  rw [← Int64.toInt_inj, pk_lT ha, pk_lT hb]; omega
theorem pk_lOf {x : Int64} (h : ¬ x < 0) : ∃ k : Nat, k < 2 ^ 63 ∧ x = lN k := by
  rw [Int64.lt_iff_toInt_lt] at h
  have h0 : (0 : Int64).toInt = 0 := by decide
  have hx := Int64.toInt_lt x
  refine ⟨x.toInt.toNat, by omega, Int64.toInt_inj.mp ?_⟩
  rw [pk_lT (by omega)]
  omega
theorem pk_lDiv {a b : Nat} (ha : a < 2 ^ 63) (h0 : 0 < b) (hb : b < 2 ^ 63) : lN a / lN b = lN (a / b) := by
  apply Int64.toInt_inj.mp
  rw [lg_ldiv_nonneg (by rw [pk_lT ha]; omega) (by rw [pk_lT hb]; omega), pk_lT ha, pk_lT hb, pk_lT (Nat.lt_of_le_of_lt (Nat.div_le_self a b) ha)]
  rfl
theorem pk_lRem {a b : Nat} (ha : a < 2 ^ 63) (h0 : 0 < b) (hb : b < 2 ^ 63) : lN a - lN a / lN b * lN b = lN (a % b) := by
  rw [pk_lDiv ha h0 hb, lN_mul, lN_sub (Nat.div_mul_le_self a b)]
  exact congrArg lN (by have := Nat.div_add_mod' a b; omega)
theorem pk_loop {σ : Type} (W : Nat → Nat → σ → Prop) (I : Nat → σ → Prop) (e i0 : Nat) (s : σ) (hi : i0 ≤ e) (h0 : I i0 s) (hx : ∀ n s, I e s → W (n + 1) e s)
    (hs : ∀ n i s, i < e → I i s → (∀ s', I (i + 1) s' → W n (i + 1) s') → W (n + 1) i s) : ∃ n, W n i0 s :=
  ⟨e + 1, loop_i W I e hx hs (e + 1) i0 s hi (by omega) h0⟩
theorem pk_loopD {σ : Type} (W : Nat → Nat → σ → Prop) (I : Nat → σ → Prop) (hx : ∀ n s, I 0 s → W (n + 1) 0 s)
    (hs : ∀ n i s, I (i + 1) s → (∀ s', I i s' → W n i s') → W (n + 1) (i + 1) s) : ∀ (e : Nat) (s : σ), I e s → W (e + 1) e s := by
  intro e
  induction e with
  | zero => exact fun s h => hx 0 s h
  | succ e ih => exact fun s h => hs (e + 1) e s h (fun s' h' => ih s' h')
theorem lp1 {A1 : Type} (W : Nat → A1 → Prop) (I : A1 → Prop) (μ : A1 → Nat) (hs : ∀ (n : Nat) (a1 : A1), I a1 → (∀ (b1 : A1), I b1 → μ b1 < μ a1 → W n b1) → W (n + 1) a1) (a1 : A1) (h : I a1) : ∃ n, W n a1 :=
  loop_m (σ := A1) (fun n s => W n s) (fun s => I s) (fun s => μ s) (fun n s hI hk => hs n s hI (fun b1 h9 hm => hk b1 h9 hm)) a1 h
theorem lp2 {A1 A2 : Type} (W : Nat → A1 → A2 → Prop) (I : A1 → A2 → Prop) (μ : A1 → A2 → Nat) (hs : ∀ (n : Nat) (a1 : A1) (a2 : A2), I a1 a2 → (∀ (b1 : A1) (b2 : A2), I b1 b2 → μ b1 b2 < μ a1 a2 → W n b1 b2) → W (n + 1) a1 a2) (a1 : A1) (a2 : A2) (h : I a1 a2) : ∃ n, W n a1 a2 :=
  loop_m (σ := A1 × A2) (fun n s => W n s.1 s.2) (fun s => I s.1 s.2) (fun s => μ s.1 s.2) (fun n s hI hk => hs n s.1 s.2 hI (fun b1 b2 h9 hm => hk (b1, b2) h9 hm)) (a1, a2) h
theorem lp3 {A1 A2 A3 : Type} (W : Nat → A1 → A2 → A3 → Prop) (I : A1 → A2 → A3 → Prop) (μ : A1 → A2 → A3 → Nat) (hs : ∀ (n : Nat) (a1 : A1) (a2 : A2) (a3 : A3), I a1 a2 a3 → (∀ (b1 : A1) (b2 : A2) (b3 : A3), I b1 b2 b3 → μ b1 b2 b3 < μ a1 a2 a3 → W n b1 b2 b3) → W (n + 1) a1 a2 a3) (a1 : A1) (a2 : A2) (a3 : A3) (h : I a1 a2 a3) : ∃ n, W n a1 a2 a3 :=
  loop_m (σ := A1 × A2 × A3) (fun n s => W n s.1 s.2.1 s.2.2) (fun s => I s.1 s.2.1 s.2.2) (fun s => μ s.1 s.2.1 s.2.2) (fun n s hI hk => hs n s.1 s.2.1 s.2.2 hI (fun b1 b2 b3 h9 hm => hk (b1, b2, b3) h9 hm)) (a1, a2, a3) h
theorem lp4 {A1 A2 A3 A4 : Type} (W : Nat → A1 → A2 → A3 → A4 → Prop) (I : A1 → A2 → A3 → A4 → Prop) (μ : A1 → A2 → A3 → A4 → Nat) (hs : ∀ (n : Nat) (a1 : A1) (a2 : A2) (a3 : A3) (a4 : A4), I a1 a2 a3 a4 → (∀ (b1 : A1) (b2 : A2) (b3 : A3) (b4 : A4), I b1 b2 b3 b4 → μ b1 b2 b3 b4 < μ a1 a2 a3 a4 → W n b1 b2 b3 b4) → W (n + 1) a1 a2 a3 a4) (a1 : A1) (a2 : A2) (a3 : A3) (a4 : A4) (h : I a1 a2 a3 a4) : ∃ n, W n a1 a2 a3 a4 :=
  loop_m (σ := A1 × A2 × A3 × A4) (fun n s => W n s.1 s.2.1 s.2.2.1 s.2.2.2) (fun s => I s.1 s.2.1 s.2.2.1 s.2.2.2) (fun s => μ s.1 s.2.1 s.2.2.1 s.2.2.2) (fun n s hI hk => hs n s.1 s.2.1 s.2.2.1 s.2.2.2 hI (fun b1 b2 b3 b4 h9 hm => hk (b1, b2, b3, b4) h9 hm)) (a1, a2, a3, a4) h
theorem lp5 {A1 A2 A3 A4 A5 : Type} (W : Nat → A1 → A2 → A3 → A4 → A5 → Prop) (I : A1 → A2 → A3 → A4 → A5 → Prop) (μ : A1 → A2 → A3 → A4 → A5 → Nat) (hs : ∀ (n : Nat) (a1 : A1) (a2 : A2) (a3 : A3) (a4 : A4) (a5 : A5), I a1 a2 a3 a4 a5 → (∀ (b1 : A1) (b2 : A2) (b3 : A3) (b4 : A4) (b5 : A5), I b1 b2 b3 b4 b5 → μ b1 b2 b3 b4 b5 < μ a1 a2 a3 a4 a5 → W n b1 b2 b3 b4 b5) → W (n + 1) a1 a2 a3 a4 a5) (a1 : A1) (a2 : A2) (a3 : A3) (a4 : A4) (a5 : A5) (h : I a1 a2 a3 a4 a5) : ∃ n, W n a1 a2 a3 a4 a5 :=
  loop_m (σ := A1 × A2 × A3 × A4 × A5) (fun n s => W n s.1 s.2.1 s.2.2.1 s.2.2.2.1 s.2.2.2.2) (fun s => I s.1 s.2.1 s.2.2.1 s.2.2.2.1 s.2.2.2.2) (fun s => μ s.1 s.2.1 s.2.2.1 s.2.2.2.1 s.2.2.2.2) (fun n s hI hk => hs n s.1 s.2.1 s.2.2.1 s.2.2.2.1 s.2.2.2.2 hI (fun b1 b2 b3 b4 b5 h9 hm => hk (b1, b2, b3, b4, b5) h9 hm)) (a1, a2, a3, a4, a5) h
theorem lp6 {A1 A2 A3 A4 A5 A6 : Type} (W : Nat → A1 → A2 → A3 → A4 → A5 → A6 → Prop) (I : A1 → A2 → A3 → A4 → A5 → A6 → Prop) (μ : A1 → A2 → A3 → A4 → A5 → A6 → Nat) (hs : ∀ (n : Nat) (a1 : A1) (a2 : A2) (a3 : A3) (a4 : A4) (a5 : A5) (a6 : A6), I a1 a2 a3 a4 a5 a6 → (∀ (b1 : A1) (b2 : A2) (b3 : A3) (b4 : A4) (b5 : A5) (b6 : A6), I b1 b2 b3 b4 b5 b6 → μ b1 b2 b3 b4 b5 b6 < μ a1 a2 a3 a4 a5 a6 → W n b1 b2 b3 b4 b5 b6) → W (n + 1) a1 a2 a3 a4 a5 a6) (a1 : A1) (a2 : A2) (a3 : A3) (a4 : A4) (a5 : A5) (a6 : A6) (h : I a1 a2 a3 a4 a5 a6) : ∃ n, W n a1 a2 a3 a4 a5 a6 :=
  loop_m (σ := A1 × A2 × A3 × A4 × A5 × A6) (fun n s => W n s.1 s.2.1 s.2.2.1 s.2.2.2.1 s.2.2.2.2.1 s.2.2.2.2.2) (fun s => I s.1 s.2.1 s.2.2.1 s.2.2.2.1 s.2.2.2.2.1 s.2.2.2.2.2) (fun s => μ s.1 s.2.1 s.2.2.1 s.2.2.2.1 s.2.2.2.2.1 s.2.2.2.2.2) (fun n s hI hk => hs n s.1 s.2.1 s.2.2.1 s.2.2.2.1 s.2.2.2.2.1 s.2.2.2.2.2 hI (fun b1 b2 b3 b4 b5 b6 h9 hm => hk (b1, b2, b3, b4, b5, b6) h9 hm)) (a1, a2, a3, a4, a5, a6) h
theorem lp7 {A1 A2 A3 A4 A5 A6 A7 : Type} (W : Nat → A1 → A2 → A3 → A4 → A5 → A6 → A7 → Prop) (I : A1 → A2 → A3 → A4 → A5 → A6 → A7 → Prop) (μ : A1 → A2 → A3 → A4 → A5 → A6 → A7 → Nat) (hs : ∀ (n : Nat) (a1 : A1) (a2 : A2) (a3 : A3) (a4 : A4) (a5 : A5) (a6 : A6) (a7 : A7), I a1 a2 a3 a4 a5 a6 a7 → (∀ (b1 : A1) (b2 : A2) (b3 : A3) (b4 : A4) (b5 : A5) (b6 : A6) (b7 : A7), I b1 b2 b3 b4 b5 b6 b7 → μ b1 b2 b3 b4 b5 b6 b7 < μ a1 a2 a3 a4 a5 a6 a7 → W n b1 b2 b3 b4 b5 b6 b7) → W (n + 1) a1 a2 a3 a4 a5 a6 a7) (a1 : A1) (a2 : A2) (a3 : A3) (a4 : A4) (a5 : A5) (a6 : A6) (a7 : A7) (h : I a1 a2 a3 a4 a5 a6 a7) : ∃ n, W n a1 a2 a3 a4 a5 a6 a7 :=
  loop_m (σ := A1 × A2 × A3 × A4 × A5 × A6 × A7) (fun n s => W n s.1 s.2.1 s.2.2.1 s.2.2.2.1 s.2.2.2.2.1 s.2.2.2.2.2.1 s.2.2.2.2.2.2) (fun s => I s.1 s.2.1 s.2.2.1 s.2.2.2.1 s.2.2.2.2.1 s.2.2.2.2.2.1 s.2.2.2.2.2.2) (fun s => μ s.1 s.2.1 s.2.2.1 s.2.2.2.1 s.2.2.2.2.1 s.2.2.2.2.2.1 s.2.2.2.2.2.2) (fun n s hI hk => hs n s.1 s.2.1 s.2.2.1 s.2.2.2.1 s.2.2.2.2.1 s.2.2.2.2.2.1 s.2.2.2.2.2.2 hI (fun b1 b2 b3 b4 b5 b6 b7 h9 hm => hk (b1, b2, b3, b4, b5, b6, b7) h9 hm)) (a1, a2, a3, a4, a5, a6, a7) h
theorem lp8 {A1 A2 A3 A4 A5 A6 A7 A8 : Type} (W : Nat → A1 → A2 → A3 → A4 → A5 → A6 → A7 → A8 → Prop) (I : A1 → A2 → A3 → A4 → A5 → A6 → A7 → A8 → Prop) (μ : A1 → A2 → A3 → A4 → A5 → A6 → A7 → A8 → Nat) (hs : ∀ (n : Nat) (a1 : A1) (a2 : A2) (a3 : A3) (a4 : A4) (a5 : A5) (a6 : A6) (a7 : A7) (a8 : A8), I a1 a2 a3 a4 a5 a6 a7 a8 → (∀ (b1 : A1) (b2 : A2) (b3 : A3) (b4 : A4) (b5 : A5) (b6 : A6) (b7 : A7) (b8 : A8), I b1 b2 b3 b4 b5 b6 b7 b8 → μ b1 b2 b3 b4 b5 b6 b7 b8 < μ a1 a2 a3 a4 a5 a6 a7 a8 → W n b1 b2 b3 b4 b5 b6 b7 b8) → W (n + 1) a1 a2 a3 a4 a5 a6 a7 a8) (a1 : A1) (a2 : A2) (a3 : A3) (a4 : A4) (a5 : A5) (a6 : A6) (a7 : A7) (a8 : A8) (h : I a1 a2 a3 a4 a5 a6 a7 a8) : ∃ n, W n a1 a2 a3 a4 a5 a6 a7 a8 :=
  loop_m (σ := A1 × A2 × A3 × A4 × A5 × A6 × A7 × A8) (fun n s => W n s.1 s.2.1 s.2.2.1 s.2.2.2.1 s.2.2.2.2.1 s.2.2.2.2.2.1 s.2.2.2.2.2.2.1 s.2.2.2.2.2.2.2) (fun s => I s.1 s.2.1 s.2.2.1 s.2.2.2.1 s.2.2.2.2.1 s.2.2.2.2.2.1 s.2.2.2.2.2.2.1 s.2.2.2.2.2.2.2) (fun s => μ s.1 s.2.1 s.2.2.1 s.2.2.2.1 s.2.2.2.2.1 s.2.2.2.2.2.1 s.2.2.2.2.2.2.1 s.2.2.2.2.2.2.2) (fun n s hI hk => hs n s.1 s.2.1 s.2.2.1 s.2.2.2.1 s.2.2.2.2.1 s.2.2.2.2.2.1 s.2.2.2.2.2.2.1 s.2.2.2.2.2.2.2 hI (fun b1 b2 b3 b4 b5 b6 b7 b8 h9 hm => hk (b1, b2, b3, b4, b5, b6, b7, b8) h9 hm)) (a1, a2, a3, a4, a5, a6, a7, a8) h
theorem lp9 {A1 A2 A3 A4 A5 A6 A7 A8 A9 : Type} (W : Nat → A1 → A2 → A3 → A4 → A5 → A6 → A7 → A8 → A9 → Prop) (I : A1 → A2 → A3 → A4 → A5 → A6 → A7 → A8 → A9 → Prop) (μ : A1 → A2 → A3 → A4 → A5 → A6 → A7 → A8 → A9 → Nat) (hs : ∀ (n : Nat) (a1 : A1) (a2 : A2) (a3 : A3) (a4 : A4) (a5 : A5) (a6 : A6) (a7 : A7) (a8 : A8) (a9 : A9), I a1 a2 a3 a4 a5 a6 a7 a8 a9 → (∀ (b1 : A1) (b2 : A2) (b3 : A3) (b4 : A4) (b5 : A5) (b6 : A6) (b7 : A7) (b8 : A8) (b9 : A9), I b1 b2 b3 b4 b5 b6 b7 b8 b9 → μ b1 b2 b3 b4 b5 b6 b7 b8 b9 < μ a1 a2 a3 a4 a5 a6 a7 a8 a9 → W n b1 b2 b3 b4 b5 b6 b7 b8 b9) → W (n + 1) a1 a2 a3 a4 a5 a6 a7 a8 a9) (a1 : A1) (a2 : A2) (a3 : A3) (a4 : A4) (a5 : A5) (a6 : A6) (a7 : A7) (a8 : A8) (a9 : A9) (h : I a1 a2 a3 a4 a5 a6 a7 a8 a9) : ∃ n, W n a1 a2 a3 a4 a5 a6 a7 a8 a9 :=
  loop_m (σ := A1 × A2 × A3 × A4 × A5 × A6 × A7 × A8 × A9) (fun n s => W n s.1 s.2.1 s.2.2.1 s.2.2.2.1 s.2.2.2.2.1 s.2.2.2.2.2.1 s.2.2.2.2.2.2.1 s.2.2.2.2.2.2.2.1 s.2.2.2.2.2.2.2.2) (fun s => I s.1 s.2.1 s.2.2.1 s.2.2.2.1 s.2.2.2.2.1 s.2.2.2.2.2.1 s.2.2.2.2.2.2.1 s.2.2.2.2.2.2.2.1 s.2.2.2.2.2.2.2.2) (fun s => μ s.1 s.2.1 s.2.2.1 s.2.2.2.1 s.2.2.2.2.1 s.2.2.2.2.2.1 s.2.2.2.2.2.2.1 s.2.2.2.2.2.2.2.1 s.2.2.2.2.2.2.2.2) (fun n s hI hk => hs n s.1 s.2.1 s.2.2.1 s.2.2.2.1 s.2.2.2.2.1 s.2.2.2.2.2.1 s.2.2.2.2.2.2.1 s.2.2.2.2.2.2.2.1 s.2.2.2.2.2.2.2.2 hI (fun b1 b2 b3 b4 b5 b6 b7 b8 b9 h9 hm => hk (b1, b2, b3, b4, b5, b6, b7, b8, b9) h9 hm)) (a1, a2, a3, a4, a5, a6, a7, a8, a9) h
theorem lp10 {A1 A2 A3 A4 A5 A6 A7 A8 A9 A10 : Type} (W : Nat → A1 → A2 → A3 → A4 → A5 → A6 → A7 → A8 → A9 → A10 → Prop) (I : A1 → A2 → A3 → A4 → A5 → A6 → A7 → A8 → A9 → A10 → Prop) (μ : A1 → A2 → A3 → A4 → A5 → A6 → A7 → A8 → A9 → A10 → Nat) (hs : ∀ (n : Nat) (a1 : A1) (a2 : A2) (a3 : A3) (a4 : A4) (a5 : A5) (a6 : A6) (a7 : A7) (a8 : A8) (a9 : A9) (a10 : A10), I a1 a2 a3 a4 a5 a6 a7 a8 a9 a10 → (∀ (b1 : A1) (b2 : A2) (b3 : A3) (b4 : A4) (b5 : A5) (b6 : A6) (b7 : A7) (b8 : A8) (b9 : A9) (b10 : A10), I b1 b2 b3 b4 b5 b6 b7 b8 b9 b10 → μ b1 b2 b3 b4 b5 b6 b7 b8 b9 b10 < μ a1 a2 a3 a4 a5 a6 a7 a8 a9 a10 → W n b1 b2 b3 b4 b5 b6 b7 b8 b9 b10) → W (n + 1) a1 a2 a3 a4 a5 a6 a7 a8 a9 a10) (a1 : A1) (a2 : A2) (a3 : A3) (a4 : A4) (a5 : A5) (a6 : A6) (a7 : A7) (a8 : A8) (a9 : A9) (a10 : A10) (h : I a1 a2 a3 a4 a5 a6 a7 a8 a9 a10) : ∃ n, W n a1 a2 a3 a4 a5 a6 a7 a8 a9 a10 :=
  loop_m (σ := A1 × A2 × A3 × A4 × A5 × A6 × A7 × A8 × A9 × A10) (fun n s => W n s.1 s.2.1 s.2.2.1 s.2.2.2.1 s.2.2.2.2.1 s.2.2.2.2.2.1 s.2.2.2.2.2.2.1 s.2.2.2.2.2.2.2.1 s.2.2.2.2.2.2.2.2.1 s.2.2.2.2.2.2.2.2.2) (fun s => I s.1 s.2.1 s.2.2.1 s.2.2.2.1 s.2.2.2.2.1 s.2.2.2.2.2.1 s.2.2.2.2.2.2.1 s.2.2.2.2.2.2.2.1 s.2.2.2.2.2.2.2.2.1 s.2.2.2.2.2.2.2.2.2) (fun s => μ s.1 s.2.1 s.2.2.1 s.2.2.2.1 s.2.2.2.2.1 s.2.2.2.2.2.1 s.2.2.2.2.2.2.1 s.2.2.2.2.2.2.2.1 s.2.2.2.2.2.2.2.2.1 s.2.2.2.2.2.2.2.2.2) (fun n s hI hk => hs n s.1 s.2.1 s.2.2.1 s.2.2.2.1 s.2.2.2.2.1 s.2.2.2.2.2.1 s.2.2.2.2.2.2.1 s.2.2.2.2.2.2.2.1 s.2.2.2.2.2.2.2.2.1 s.2.2.2.2.2.2.2.2.2 hI (fun b1 b2 b3 b4 b5 b6 b7 b8 b9 b10 h9 hm => hk (b1, b2, b3, b4, b5, b6, b7, b8, b9, b10) h9 hm)) (a1, a2, a3, a4, a5, a6, a7, a8, a9, a10) h
theorem lp11 {A1 A2 A3 A4 A5 A6 A7 A8 A9 A10 A11 : Type} (W : Nat → A1 → A2 → A3 → A4 → A5 → A6 → A7 → A8 → A9 → A10 → A11 → Prop) (I : A1 → A2 → A3 → A4 → A5 → A6 → A7 → A8 → A9 → A10 → A11 → Prop) (μ : A1 → A2 → A3 → A4 → A5 → A6 → A7 → A8 → A9 → A10 → A11 → Nat) (hs : ∀ (n : Nat) (a1 : A1) (a2 : A2) (a3 : A3) (a4 : A4) (a5 : A5) (a6 : A6) (a7 : A7) (a8 : A8) (a9 : A9) (a10 : A10) (a11 : A11), I a1 a2 a3 a4 a5 a6 a7 a8 a9 a10 a11 → (∀ (b1 : A1) (b2 : A2) (b3 : A3) (b4 : A4) (b5 : A5) (b6 : A6) (b7 : A7) (b8 : A8) (b9 : A9) (b10 : A10) (b11 : A11), I b1 b2 b3 b4 b5 b6 b7 b8 b9 b10 b11 → μ b1 b2 b3 b4 b5 b6 b7 b8 b9 b10 b11 < μ a1 a2 a3 a4 a5 a6 a7 a8 a9 a10 a11 → W n b1 b2 b3 b4 b5 b6 b7 b8 b9 b10 b11) → W (n + 1) a1 a2 a3 a4 a5 a6 a7 a8 a9 a10 a11) (a1 : A1) (a2 : A2) (a3 : A3) (a4 : A4) (a5 : A5) (a6 : A6) (a7 : A7) (a8 : A8) (a9 : A9) (a10 : A10) (a11 : A11) (h : I a1 a2 a3 a4 a5 a6 a7 a8 a9 a10 a11) : ∃ n, W n a1 a2 a3 a4 a5 a6 a7 a8 a9 a10 a11 :=
  loop_m (σ := A1 × A2 × A3 × A4 × A5 × A6 × A7 × A8 × A9 × A10 × A11) (fun n s => W n s.1 s.2.1 s.2.2.1 s.2.2.2.1 s.2.2.2.2.1 s.2.2.2.2.2.1 s.2.2.2.2.2.2.1 s.2.2.2.2.2.2.2.1 s.2.2.2.2.2.2.2.2.1 s.2.2.2.2.2.2.2.2.2.1 s.2.2.2.2.2.2.2.2.2.2) (fun s => I s.1 s.2.1 s.2.2.1 s.2.2.2.1 s.2.2.2.2.1 s.2.2.2.2.2.1 s.2.2.2.2.2.2.1 s.2.2.2.2.2.2.2.1 s.2.2.2.2.2.2.2.2.1 s.2.2.2.2.2.2.2.2.2.1 s.2.2.2.2.2.2.2.2.2.2) (fun s => μ s.1 s.2.1 s.2.2.1 s.2.2.2.1 s.2.2.2.2.1 s.2.2.2.2.2.1 s.2.2.2.2.2.2.1 s.2.2.2.2.2.2.2.1 s.2.2.2.2.2.2.2.2.1 s.2.2.2.2.2.2.2.2.2.1 s.2.2.2.2.2.2.2.2.2.2) (fun n s hI hk => hs n s.1 s.2.1 s.2.2.1 s.2.2.2.1 s.2.2.2.2.1 s.2.2.2.2.2.1 s.2.2.2.2.2.2.1 s.2.2.2.2.2.2.2.1 s.2.2.2.2.2.2.2.2.1 s.2.2.2.2.2.2.2.2.2.1 s.2.2.2.2.2.2.2.2.2.2 hI (fun b1 b2 b3 b4 b5 b6 b7 b8 b9 b10 b11 h9 hm => hk (b1, b2, b3, b4, b5, b6, b7, b8, b9, b10, b11) h9 hm)) (a1, a2, a3, a4, a5, a6, a7, a8, a9, a10, a11) h
theorem lp12 {A1 A2 A3 A4 A5 A6 A7 A8 A9 A10 A11 A12 : Type} (W : Nat → A1 → A2 → A3 → A4 → A5 → A6 → A7 → A8 → A9 → A10 → A11 → A12 → Prop) (I : A1 → A2 → A3 → A4 → A5 → A6 → A7 → A8 → A9 → A10 → A11 → A12 → Prop) (μ : A1 → A2 → A3 → A4 → A5 → A6 → A7 → A8 → A9 → A10 → A11 → A12 → Nat) (hs : ∀ (n : Nat) (a1 : A1) (a2 : A2) (a3 : A3) (a4 : A4) (a5 : A5) (a6 : A6) (a7 : A7) (a8 : A8) (a9 : A9) (a10 : A10) (a11 : A11) (a12 : A12), I a1 a2 a3 a4 a5 a6 a7 a8 a9 a10 a11 a12 → (∀ (b1 : A1) (b2 : A2) (b3 : A3) (b4 : A4) (b5 : A5) (b6 : A6) (b7 : A7) (b8 : A8) (b9 : A9) (b10 : A10) (b11 : A11) (b12 : A12), I b1 b2 b3 b4 b5 b6 b7 b8 b9 b10 b11 b12 → μ b1 b2 b3 b4 b5 b6 b7 b8 b9 b10 b11 b12 < μ a1 a2 a3 a4 a5 a6 a7 a8 a9 a10 a11 a12 → W n b1 b2 b3 b4 b5 b6 b7 b8 b9 b10 b11 b12) → W (n + 1) a1 a2 a3 a4 a5 a6 a7 a8 a9 a10 a11 a12) (a1 : A1) (a2 : A2) (a3 : A3) (a4 : A4) (a5 : A5) (a6 : A6) (a7 : A7) (a8 : A8) (a9 : A9) (a10 : A10) (a11 : A11) (a12 : A12) (h : I a1 a2 a3 a4 a5 a6 a7 a8 a9 a10 a11 a12) : ∃ n, W n a1 a2 a3 a4 a5 a6 a7 a8 a9 a10 a11 a12 :=
  loop_m (σ := A1 × A2 × A3 × A4 × A5 × A6 × A7 × A8 × A9 × A10 × A11 × A12) (fun n s => W n s.1 s.2.1 s.2.2.1 s.2.2.2.1 s.2.2.2.2.1 s.2.2.2.2.2.1 s.2.2.2.2.2.2.1 s.2.2.2.2.2.2.2.1 s.2.2.2.2.2.2.2.2.1 s.2.2.2.2.2.2.2.2.2.1 s.2.2.2.2.2.2.2.2.2.2.1 s.2.2.2.2.2.2.2.2.2.2.2) (fun s => I s.1 s.2.1 s.2.2.1 s.2.2.2.1 s.2.2.2.2.1 s.2.2.2.2.2.1 s.2.2.2.2.2.2.1 s.2.2.2.2.2.2.2.1 s.2.2.2.2.2.2.2.2.1 s.2.2.2.2.2.2.2.2.2.1 s.2.2.2.2.2.2.2.2.2.2.1 s.2.2.2.2.2.2.2.2.2.2.2) (fun s => μ s.1 s.2.1 s.2.2.1 s.2.2.2.1 s.2.2.2.2.1 s.2.2.2.2.2.1 s.2.2.2.2.2.2.1 s.2.2.2.2.2.2.2.1 s.2.2.2.2.2.2.2.2.1 s.2.2.2.2.2.2.2.2.2.1 s.2.2.2.2.2.2.2.2.2.2.1 s.2.2.2.2.2.2.2.2.2.2.2) (fun n s hI hk => hs n s.1 s.2.1 s.2.2.1 s.2.2.2.1 s.2.2.2.2.1 s.2.2.2.2.2.1 s.2.2.2.2.2.2.1 s.2.2.2.2.2.2.2.1 s.2.2.2.2.2.2.2.2.1 s.2.2.2.2.2.2.2.2.2.1 s.2.2.2.2.2.2.2.2.2.2.1 s.2.2.2.2.2.2.2.2.2.2.2 hI (fun b1 b2 b3 b4 b5 b6 b7 b8 b9 b10 b11 b12 h9 hm => hk (b1, b2, b3, b4, b5, b6, b7, b8, b9, b10, b11, b12) h9 hm)) (a1, a2, a3, a4, a5, a6, a7, a8, a9, a10, a11, a12) h
theorem lp13 {A1 A2 A3 A4 A5 A6 A7 A8 A9 A10 A11 A12 A13 : Type} (W : Nat → A1 → A2 → A3 → A4 → A5 → A6 → A7 → A8 → A9 → A10 → A11 → A12 → A13 → Prop) (I : A1 → A2 → A3 → A4 → A5 → A6 → A7 → A8 → A9 → A10 → A11 → A12 → A13 → Prop) (μ : A1 → A2 → A3 → A4 → A5 → A6 → A7 → A8 → A9 → A10 → A11 → A12 → A13 → Nat) (hs : ∀ (n : Nat) (a1 : A1) (a2 : A2) (a3 : A3) (a4 : A4) (a5 : A5) (a6 : A6) (a7 : A7) (a8 : A8) (a9 : A9) (a10 : A10) (a11 : A11) (a12 : A12) (a13 : A13), I a1 a2 a3 a4 a5 a6 a7 a8 a9 a10 a11 a12 a13 → (∀ (b1 : A1) (b2 : A2) (b3 : A3) (b4 : A4) (b5 : A5) (b6 : A6) (b7 : A7) (b8 : A8) (b9 : A9) (b10 : A10) (b11 : A11) (b12 : A12) (b13 : A13), I b1 b2 b3 b4 b5 b6 b7 b8 b9 b10 b11 b12 b13 → μ b1 b2 b3 b4 b5 b6 b7 b8 b9 b10 b11 b12 b13 < μ a1 a2 a3 a4 a5 a6 a7 a8 a9 a10 a11 a12 a13 → W n b1 b2 b3 b4 b5 b6 b7 b8 b9 b10 b11 b12 b13) → W (n + 1) a1 a2 a3 a4 a5 a6 a7 a8 a9 a10 a11 a12 a13) (a1 : A1) (a2 : A2) (a3 : A3) (a4 : A4) (a5 : A5) (a6 : A6) (a7 : A7) (a8 : A8) (a9 : A9) (a10 : A10) (a11 : A11) (a12 : A12) (a13 : A13) (h : I a1 a2 a3 a4 a5 a6 a7 a8 a9 a10 a11 a12 a13) : ∃ n, W n a1 a2 a3 a4 a5 a6 a7 a8 a9 a10 a11 a12 a13 :=
  loop_m (σ := A1 × A2 × A3 × A4 × A5 × A6 × A7 × A8 × A9 × A10 × A11 × A12 × A13) (fun n s => W n s.1 s.2.1 s.2.2.1 s.2.2.2.1 s.2.2.2.2.1 s.2.2.2.2.2.1 s.2.2.2.2.2.2.1 s.2.2.2.2.2.2.2.1 s.2.2.2.2.2.2.2.2.1 s.2.2.2.2.2.2.2.2.2.1 s.2.2.2.2.2.2.2.2.2.2.1 s.2.2.2.2.2.2.2.2.2.2.2.1 s.2.2.2.2.2.2.2.2.2.2.2.2) (fun s => I s.1 s.2.1 s.2.2.1 s.2.2.2.1 s.2.2.2.2.1 s.2.2.2.2.2.1 s.2.2.2.2.2.2.1 s.2.2.2.2.2.2.2.1 s.2.2.2.2.2.2.2.2.1 s.2.2.2.2.2.2.2.2.2.1 s.2.2.2.2.2.2.2.2.2.2.1 s.2.2.2.2.2.2.2.2.2.2.2.1 s.2.2.2.2.2.2.2.2.2.2.2.2) (fun s => μ s.1 s.2.1 s.2.2.1 s.2.2.2.1 s.2.2.2.2.1 s.2.2.2.2.2.1 s.2.2.2.2.2.2.1 s.2.2.2.2.2.2.2.1 s.2.2.2.2.2.2.2.2.1 s.2.2.2.2.2.2.2.2.2.1 s.2.2.2.2.2.2.2.2.2.2.1 s.2.2.2.2.2.2.2.2.2.2.2.1 s.2.2.2.2.2.2.2.2.2.2.2.2) (fun n s hI hk => hs n s.1 s.2.1 s.2.2.1 s.2.2.2.1 s.2.2.2.2.1 s.2.2.2.2.2.1 s.2.2.2.2.2.2.1 s.2.2.2.2.2.2.2.1 s.2.2.2.2.2.2.2.2.1 s.2.2.2.2.2.2.2.2.2.1 s.2.2.2.2.2.2.2.2.2.2.1 s.2.2.2.2.2.2.2.2.2.2.2.1 s.2.2.2.2.2.2.2.2.2.2.2.2 hI (fun b1 b2 b3 b4 b5 b6 b7 b8 b9 b10 b11 b12 b13 h9 hm => hk (b1, b2, b3, b4, b5, b6, b7, b8, b9, b10, b11, b12, b13) h9 hm)) (a1, a2, a3, a4, a5, a6, a7, a8, a9, a10, a11, a12, a13) h
theorem lp14 {A1 A2 A3 A4 A5 A6 A7 A8 A9 A10 A11 A12 A13 A14 : Type} (W : Nat → A1 → A2 → A3 → A4 → A5 → A6 → A7 → A8 → A9 → A10 → A11 → A12 → A13 → A14 → Prop) (I : A1 → A2 → A3 → A4 → A5 → A6 → A7 → A8 → A9 → A10 → A11 → A12 → A13 → A14 → Prop) (μ : A1 → A2 → A3 → A4 → A5 → A6 → A7 → A8 → A9 → A10 → A11 → A12 → A13 → A14 → Nat) (hs : ∀ (n : Nat) (a1 : A1) (a2 : A2) (a3 : A3) (a4 : A4) (a5 : A5) (a6 : A6) (a7 : A7) (a8 : A8) (a9 : A9) (a10 : A10) (a11 : A11) (a12 : A12) (a13 : A13) (a14 : A14), I a1 a2 a3 a4 a5 a6 a7 a8 a9 a10 a11 a12 a13 a14 → (∀ (b1 : A1) (b2 : A2) (b3 : A3) (b4 : A4) (b5 : A5) (b6 : A6) (b7 : A7) (b8 : A8) (b9 : A9) (b10 : A10) (b11 : A11) (b12 : A12) (b13 : A13) (b14 : A14), I b1 b2 b3 b4 b5 b6 b7 b8 b9 b10 b11 b12 b13 b14 → μ b1 b2 b3 b4 b5 b6 b7 b8 b9 b10 b11 b12 b13 b14 < μ a1 a2 a3 a4 a5 a6 a7 a8 a9 a10 a11 a12 a13 a14 → W n b1 b2 b3 b4 b5 b6 b7 b8 b9 b10 b11 b12 b13 b14) → W (n + 1) a1 a2 a3 a4 a5 a6 a7 a8 a9 a10 a11 a12 a13 a14) (a1 : A1) (a2 : A2) (a3 : A3) (a4 : A4) (a5 : A5) (a6 : A6) (a7 : A7) (a8 : A8) (a9 : A9) (a10 : A10) (a11 : A11) (a12 : A12) (a13 : A13) (a14 : A14) (h : I a1 a2 a3 a4 a5 a6 a7 a8 a9 a10 a11 a12 a13 a14) : ∃ n, W n a1 a2 a3 a4 a5 a6 a7 a8 a9 a10 a11 a12 a13 a14 :=
  loop_m (σ := A1 × A2 × A3 × A4 × A5 × A6 × A7 × A8 × A9 × A10 × A11 × A12 × A13 × A14) (fun n s => W n s.1 s.2.1 s.2.2.1 s.2.2.2.1 s.2.2.2.2.1 s.2.2.2.2.2.1 s.2.2.2.2.2.2.1 s.2.2.2.2.2.2.2.1 s.2.2.2.2.2.2.2.2.1 s.2.2.2.2.2.2.2.2.2.1 s.2.2.2.2.2.2.2.2.2.2.1 s.2.2.2.2.2.2.2.2.2.2.2.1 s.2.2.2.2.2.2.2.2.2.2.2.2.1 s.2.2.2.2.2.2.2.2.2.2.2.2.2) (fun s => I s.1 s.2.1 s.2.2.1 s.2.2.2.1 s.2.2.2.2.1 s.2.2.2.2.2.1 s.2.2.2.2.2.2.1 s.2.2.2.2.2.2.2.1 s.2.2.2.2.2.2.2.2.1 s.2.2.2.2.2.2.2.2.2.1 s.2.2.2.2.2.2.2.2.2.2.1 s.2.2.2.2.2.2.2.2.2.2.2.1 s.2.2.2.2.2.2.2.2.2.2.2.2.1 s.2.2.2.2.2.2.2.2.2.2.2.2.2) (fun s => μ s.1 s.2.1 s.2.2.1 s.2.2.2.1 s.2.2.2.2.1 s.2.2.2.2.2.1 s.2.2.2.2.2.2.1 s.2.2.2.2.2.2.2.1 s.2.2.2.2.2.2.2.2.1 s.2.2.2.2.2.2.2.2.2.1 s.2.2.2.2.2.2.2.2.2.2.1 s.2.2.2.2.2.2.2.2.2.2.2.1 s.2.2.2.2.2.2.2.2.2.2.2.2.1 s.2.2.2.2.2.2.2.2.2.2.2.2.2) (fun n s hI hk => hs n s.1 s.2.1 s.2.2.1 s.2.2.2.1 s.2.2.2.2.1 s.2.2.2.2.2.1 s.2.2.2.2.2.2.1 s.2.2.2.2.2.2.2.1 s.2.2.2.2.2.2.2.2.1 s.2.2.2.2.2.2.2.2.2.1 s.2.2.2.2.2.2.2.2.2.2.1 s.2.2.2.2.2.2.2.2.2.2.2.1 s.2.2.2.2.2.2.2.2.2.2.2.2.1 s.2.2.2.2.2.2.2.2.2.2.2.2.2 hI (fun b1 b2 b3 b4 b5 b6 b7 b8 b9 b10 b11 b12 b13 b14 h9 hm => hk (b1, b2, b3, b4, b5, b6, b7, b8, b9, b10, b11, b12, b13, b14) h9 hm)) (a1, a2, a3, a4, a5, a6, a7, a8, a9, a10, a11, a12, a13, a14) h
theorem lp15 {A1 A2 A3 A4 A5 A6 A7 A8 A9 A10 A11 A12 A13 A14 A15 : Type} (W : Nat → A1 → A2 → A3 → A4 → A5 → A6 → A7 → A8 → A9 → A10 → A11 → A12 → A13 → A14 → A15 → Prop) (I : A1 → A2 → A3 → A4 → A5 → A6 → A7 → A8 → A9 → A10 → A11 → A12 → A13 → A14 → A15 → Prop) (μ : A1 → A2 → A3 → A4 → A5 → A6 → A7 → A8 → A9 → A10 → A11 → A12 → A13 → A14 → A15 → Nat) (hs : ∀ (n : Nat) (a1 : A1) (a2 : A2) (a3 : A3) (a4 : A4) (a5 : A5) (a6 : A6) (a7 : A7) (a8 : A8) (a9 : A9) (a10 : A10) (a11 : A11) (a12 : A12) (a13 : A13) (a14 : A14) (a15 : A15), I a1 a2 a3 a4 a5 a6 a7 a8 a9 a10 a11 a12 a13 a14 a15 → (∀ (b1 : A1) (b2 : A2) (b3 : A3) (b4 : A4) (b5 : A5) (b6 : A6) (b7 : A7) (b8 : A8) (b9 : A9) (b10 : A10) (b11 : A11) (b12 : A12) (b13 : A13) (b14 : A14) (b15 : A15), I b1 b2 b3 b4 b5 b6 b7 b8 b9 b10 b11 b12 b13 b14 b15 → μ b1 b2 b3 b4 b5 b6 b7 b8 b9 b10 b11 b12 b13 b14 b15 < μ a1 a2 a3 a4 a5 a6 a7 a8 a9 a10 a11 a12 a13 a14 a15 → W n b1 b2 b3 b4 b5 b6 b7 b8 b9 b10 b11 b12 b13 b14 b15) → W (n + 1) a1 a2 a3 a4 a5 a6 a7 a8 a9 a10 a11 a12 a13 a14 a15) (a1 : A1) (a2 : A2) (a3 : A3) (a4 : A4) (a5 : A5) (a6 : A6) (a7 : A7) (a8 : A8) (a9 : A9) (a10 : A10) (a11 : A11) (a12 : A12) (a13 : A13) (a14 : A14) (a15 : A15) (h : I a1 a2 a3 a4 a5 a6 a7 a8 a9 a10 a11 a12 a13 a14 a15) : ∃ n, W n a1 a2 a3 a4 a5 a6 a7 a8 a9 a10 a11 a12 a13 a14 a15 :=
  loop_m (σ := A1 × A2 × A3 × A4 × A5 × A6 × A7 × A8 × A9 × A10 × A11 × A12 × A13 × A14 × A15) (fun n s => W n s.1 s.2.1 s.2.2.1 s.2.2.2.1 s.2.2.2.2.1 s.2.2.2.2.2.1 s.2.2.2.2.2.2.1 s.2.2.2.2.2.2.2.1 s.2.2.2.2.2.2.2.2.1 s.2.2.2.2.2.2.2.2.2.1 s.2.2.2.2.2.2.2.2.2.2.1 s.2.2.2.2.2.2.2.2.2.2.2.1 s.2.2.2.2.2.2.2.2.2.2.2.2.1 s.2.2.2.2.2.2.2.2.2.2.2.2.2.1 s.2.2.2.2.2.2.2.2.2.2.2.2.2.2) (fun s => I s.1 s.2.1 s.2.2.1 s.2.2.2.1 s.2.2.2.2.1 s.2.2.2.2.2.1 s.2.2.2.2.2.2.1 s.2.2.2.2.2.2.2.1 s.2.2.2.2.2.2.2.2.1 s.2.2.2.2.2.2.2.2.2.1 s.2.2.2.2.2.2.2.2.2.2.1 s.2.2.2.2.2.2.2.2.2.2.2.1 s.2.2.2.2.2.2.2.2.2.2.2.2.1 s.2.2.2.2.2.2.2.2.2.2.2.2.2.1 s.2.2.2.2.2.2.2.2.2.2.2.2.2.2) (fun s => μ s.1 s.2.1 s.2.2.1 s.2.2.2.1 s.2.2.2.2.1 s.2.2.2.2.2.1 s.2.2.2.2.2.2.1 s.2.2.2.2.2.2.2.1 s.2.2.2.2.2.2.2.2.1 s.2.2.2.2.2.2.2.2.2.1 s.2.2.2.2.2.2.2.2.2.2.1 s.2.2.2.2.2.2.2.2.2.2.2.1 s.2.2.2.2.2.2.2.2.2.2.2.2.1 s.2.2.2.2.2.2.2.2.2.2.2.2.2.1 s.2.2.2.2.2.2.2.2.2.2.2.2.2.2) (fun n s hI hk => hs n s.1 s.2.1 s.2.2.1 s.2.2.2.1 s.2.2.2.2.1 s.2.2.2.2.2.1 s.2.2.2.2.2.2.1 s.2.2.2.2.2.2.2.1 s.2.2.2.2.2.2.2.2.1 s.2.2.2.2.2.2.2.2.2.1 s.2.2.2.2.2.2.2.2.2.2.1 s.2.2.2.2.2.2.2.2.2.2.2.1 s.2.2.2.2.2.2.2.2.2.2.2.2.1 s.2.2.2.2.2.2.2.2.2.2.2.2.2.1 s.2.2.2.2.2.2.2.2.2.2.2.2.2.2 hI (fun b1 b2 b3 b4 b5 b6 b7 b8 b9 b10 b11 b12 b13 b14 b15 h9 hm => hk (b1, b2, b3, b4, b5, b6, b7, b8, b9, b10, b11, b12, b13, b14, b15) h9 hm)) (a1, a2, a3, a4, a5, a6, a7, a8, a9, a10, a11, a12, a13, a14, a15) h
theorem lp16 {A1 A2 A3 A4 A5 A6 A7 A8 A9 A10 A11 A12 A13 A14 A15 A16 : Type} (W : Nat → A1 → A2 → A3 → A4 → A5 → A6 → A7 → A8 → A9 → A10 → A11 → A12 → A13 → A14 → A15 → A16 → Prop) (I : A1 → A2 → A3 → A4 → A5 → A6 → A7 → A8 → A9 → A10 → A11 → A12 → A13 → A14 → A15 → A16 → Prop) (μ : A1 → A2 → A3 → A4 → A5 → A6 → A7 → A8 → A9 → A10 → A11 → A12 → A13 → A14 → A15 → A16 → Nat) (hs : ∀ (n : Nat) (a1 : A1) (a2 : A2) (a3 : A3) (a4 : A4) (a5 : A5) (a6 : A6) (a7 : A7) (a8 : A8) (a9 : A9) (a10 : A10) (a11 : A11) (a12 : A12) (a13 : A13) (a14 : A14) (a15 : A15) (a16 : A16), I a1 a2 a3 a4 a5 a6 a7 a8 a9 a10 a11 a12 a13 a14 a15 a16 → (∀ (b1 : A1) (b2 : A2) (b3 : A3) (b4 : A4) (b5 : A5) (b6 : A6) (b7 : A7) (b8 : A8) (b9 : A9) (b10 : A10) (b11 : A11) (b12 : A12) (b13 : A13) (b14 : A14) (b15 : A15) (b16 : A16), I b1 b2 b3 b4 b5 b6 b7 b8 b9 b10 b11 b12 b13 b14 b15 b16 → μ b1 b2 b3 b4 b5 b6 b7 b8 b9 b10 b11 b12 b13 b14 b15 b16 < μ a1 a2 a3 a4 a5 a6 a7 a8 a9 a10 a11 a12 a13 a14 a15 a16 → W n b1 b2 b3 b4 b5 b6 b7 b8 b9 b10 b11 b12 b13 b14 b15 b16) → W (n + 1) a1 a2 a3 a4 a5 a6 a7 a8 a9 a10 a11 a12 a13 a14 a15 a16) (a1 : A1) (a2 : A2) (a3 : A3) (a4 : A4) (a5 : A5) (a6 : A6) (a7 : A7) (a8 : A8) (a9 : A9) (a10 : A10) (a11 : A11) (a12 : A12) (a13 : A13) (a14 : A14) (a15 : A15) (a16 : A16) (h : I a1 a2 a3 a4 a5 a6 a7 a8 a9 a10 a11 a12 a13 a14 a15 a16) : ∃ n, W n a1 a2 a3 a4 a5 a6 a7 a8 a9 a10 a11 a12 a13 a14 a15 a16 :=
  loop_m (σ := A1 × A2 × A3 × A4 × A5 × A6 × A7 × A8 × A9 × A10 × A11 × A12 × A13 × A14 × A15 × A16) (fun n s => W n s.1 s.2.1 s.2.2.1 s.2.2.2.1 s.2.2.2.2.1 s.2.2.2.2.2.1 s.2.2.2.2.2.2.1 s.2.2.2.2.2.2.2.1 s.2.2.2.2.2.2.2.2.1 s.2.2.2.2.2.2.2.2.2.1 s.2.2.2.2.2.2.2.2.2.2.1 s.2.2.2.2.2.2.2.2.2.2.2.1 s.2.2.2.2.2.2.2.2.2.2.2.2.1 s.2.2.2.2.2.2.2.2.2.2.2.2.2.1 s.2.2.2.2.2.2.2.2.2.2.2.2.2.2.1 s.2.2.2.2.2.2.2.2.2.2.2.2.2.2.2) (fun s => I s.1 s.2.1 s.2.2.1 s.2.2.2.1 s.2.2.2.2.1 s.2.2.2.2.2.1 s.2.2.2.2.2.2.1 s.2.2.2.2.2.2.2.1 s.2.2.2.2.2.2.2.2.1 s.2.2.2.2.2.2.2.2.2.1 s.2.2.2.2.2.2.2.2.2.2.1 s.2.2.2.2.2.2.2.2.2.2.2.1 s.2.2.2.2.2.2.2.2.2.2.2.2.1 s.2.2.2.2.2.2.2.2.2.2.2.2.2.1 s.2.2.2.2.2.2.2.2.2.2.2.2.2.2.1 s.2.2.2.2.2.2.2.2.2.2.2.2.2.2.2) (fun s => μ s.1 s.2.1 s.2.2.1 s.2.2.2.1 s.2.2.2.2.1 s.2.2.2.2.2.1 s.2.2.2.2.2.2.1 s.2.2.2.2.2.2.2.1 s.2.2.2.2.2.2.2.2.1 s.2.2.2.2.2.2.2.2.2.1 s.2.2.2.2.2.2.2.2.2.2.1 s.2.2.2.2.2.2.2.2.2.2.2.1 s.2.2.2.2.2.2.2.2.2.2.2.2.1 s.2.2.2.2.2.2.2.2.2.2.2.2.2.1 s.2.2.2.2.2.2.2.2.2.2.2.2.2.2.1 s.2.2.2.2.2.2.2.2.2.2.2.2.2.2.2) (fun n s hI hk => hs n s.1 s.2.1 s.2.2.1 s.2.2.2.1 s.2.2.2.2.1 s.2.2.2.2.2.1 s.2.2.2.2.2.2.1 s.2.2.2.2.2.2.2.1 s.2.2.2.2.2.2.2.2.1 s.2.2.2.2.2.2.2.2.2.1 s.2.2.2.2.2.2.2.2.2.2.1 s.2.2.2.2.2.2.2.2.2.2.2.1 s.2.2.2.2.2.2.2.2.2.2.2.2.1 s.2.2.2.2.2.2.2.2.2.2.2.2.2.1 s.2.2.2.2.2.2.2.2.2.2.2.2.2.2.1 s.2.2.2.2.2.2.2.2.2.2.2.2.2.2.2 hI (fun b1 b2 b3 b4 b5 b6 b7 b8 b9 b10 b11 b12 b13 b14 b15 b16 h9 hm => hk (b1, b2, b3, b4, b5, b6, b7, b8, b9, b10, b11, b12, b13, b14, b15, b16) h9 hm)) (a1, a2, a3, a4, a5, a6, a7, a8, a9, a10, a11, a12, a13, a14, a15, a16) h
theorem pk_least (P : Nat → Prop) (h : ∃ k, P k) : ∃ k, P k ∧ ∀ j, j < k → ¬ P j := by
  obtain ⟨k, hk⟩ := h
  induction k using Nat.strongRecOn with
  | ind k ih =>
    by_cases e : ∃ j, j < k ∧ P j
    · obtain ⟨j, hj, pj⟩ := e
      exact ih j hj pj
    · exact ⟨k, hk, fun j hj pj => e ⟨j, hj, pj⟩⟩
theorem rp1 {ρ A1 : Type} (W : Nat → (ρ → Prop) → A1 → Prop) (ok : A1 → Prop) (μ : A1 → Nat) (val : A1 → ρ)
    (hs : ∀ (d : Nat) (post : ρ → Prop) (a1 : A1), ok a1 → post (val a1) → (∀ (post' : ρ → Prop) (b1 : A1), ok b1 → μ b1 < μ a1 → post' (val b1) → W d post' b1) → W (d + 1) post a1) :
    ∀ (d : Nat) (post : ρ → Prop) (a1 : A1), ok a1 → μ a1 < d → post (val a1) → W d post a1 := by
  intro d
  induction d with
  | zero => intro post a1 _ h; omega
  | succ d ih =>
    intro post a1 ho hm hp
    exact hs d post a1 ho hp (fun post' b1 ho' hm' hp' => ih post' b1 ho' (by omega) hp')
theorem rp2 {ρ A1 A2 : Type} (W : Nat → (ρ → Prop) → A1 → A2 → Prop) (ok : A1 → A2 → Prop) (μ : A1 → A2 → Nat) (val : A1 → A2 → ρ)
    (hs : ∀ (d : Nat) (post : ρ → Prop) (a1 : A1) (a2 : A2), ok a1 a2 → post (val a1 a2) → (∀ (post' : ρ → Prop) (b1 : A1) (b2 : A2), ok b1 b2 → μ b1 b2 < μ a1 a2 → post' (val b1 b2) → W d post' b1 b2) → W (d + 1) post a1 a2) :
    ∀ (d : Nat) (post : ρ → Prop) (a1 : A1) (a2 : A2), ok a1 a2 → μ a1 a2 < d → post (val a1 a2) → W d post a1 a2 := by
  intro d
  induction d with
  | zero => intro post a1 a2 _ h; omega
  | succ d ih =>
    intro post a1 a2 ho hm hp
    exact hs d post a1 a2 ho hp (fun post' b1 b2 ho' hm' hp' => ih post' b1 b2 ho' (by omega) hp')
theorem rp3 {ρ A1 A2 A3 : Type} (W : Nat → (ρ → Prop) → A1 → A2 → A3 → Prop) (ok : A1 → A2 → A3 → Prop) (μ : A1 → A2 → A3 → Nat) (val : A1 → A2 → A3 → ρ)
    (hs : ∀ (d : Nat) (post : ρ → Prop) (a1 : A1) (a2 : A2) (a3 : A3), ok a1 a2 a3 → post (val a1 a2 a3) → (∀ (post' : ρ → Prop) (b1 : A1) (b2 : A2) (b3 : A3), ok b1 b2 b3 → μ b1 b2 b3 < μ a1 a2 a3 → post' (val b1 b2 b3) → W d post' b1 b2 b3) → W (d + 1) post a1 a2 a3) :
    ∀ (d : Nat) (post : ρ → Prop) (a1 : A1) (a2 : A2) (a3 : A3), ok a1 a2 a3 → μ a1 a2 a3 < d → post (val a1 a2 a3) → W d post a1 a2 a3 := by
  intro d
  induction d with
  | zero => intro post a1 a2 a3 _ h; omega
  | succ d ih =>
    intro post a1 a2 a3 ho hm hp
    exact hs d post a1 a2 a3 ho hp (fun post' b1 b2 b3 ho' hm' hp' => ih post' b1 b2 b3 ho' (by omega) hp')
theorem rp4 {ρ A1 A2 A3 A4 : Type} (W : Nat → (ρ → Prop) → A1 → A2 → A3 → A4 → Prop) (ok : A1 → A2 → A3 → A4 → Prop) (μ : A1 → A2 → A3 → A4 → Nat) (val : A1 → A2 → A3 → A4 → ρ)
    (hs : ∀ (d : Nat) (post : ρ → Prop) (a1 : A1) (a2 : A2) (a3 : A3) (a4 : A4), ok a1 a2 a3 a4 → post (val a1 a2 a3 a4) → (∀ (post' : ρ → Prop) (b1 : A1) (b2 : A2) (b3 : A3) (b4 : A4), ok b1 b2 b3 b4 → μ b1 b2 b3 b4 < μ a1 a2 a3 a4 → post' (val b1 b2 b3 b4) → W d post' b1 b2 b3 b4) → W (d + 1) post a1 a2 a3 a4) :
    ∀ (d : Nat) (post : ρ → Prop) (a1 : A1) (a2 : A2) (a3 : A3) (a4 : A4), ok a1 a2 a3 a4 → μ a1 a2 a3 a4 < d → post (val a1 a2 a3 a4) → W d post a1 a2 a3 a4 := by
  intro d
  induction d with
  | zero => intro post a1 a2 a3 a4 _ h; omega
  | succ d ih =>
    intro post a1 a2 a3 a4 ho hm hp
    exact hs d post a1 a2 a3 a4 ho hp (fun post' b1 b2 b3 b4 ho' hm' hp' => ih post' b1 b2 b3 b4 ho' (by omega) hp')
theorem rp5 {ρ A1 A2 A3 A4 A5 : Type} (W : Nat → (ρ → Prop) → A1 → A2 → A3 → A4 → A5 → Prop) (ok : A1 → A2 → A3 → A4 → A5 → Prop) (μ : A1 → A2 → A3 → A4 → A5 → Nat) (val : A1 → A2 → A3 → A4 → A5 → ρ)
    (hs : ∀ (d : Nat) (post : ρ → Prop) (a1 : A1) (a2 : A2) (a3 : A3) (a4 : A4) (a5 : A5), ok a1 a2 a3 a4 a5 → post (val a1 a2 a3 a4 a5) → (∀ (post' : ρ → Prop) (b1 : A1) (b2 : A2) (b3 : A3) (b4 : A4) (b5 : A5), ok b1 b2 b3 b4 b5 → μ b1 b2 b3 b4 b5 < μ a1 a2 a3 a4 a5 → post' (val b1 b2 b3 b4 b5) → W d post' b1 b2 b3 b4 b5) → W (d + 1) post a1 a2 a3 a4 a5) :
    ∀ (d : Nat) (post : ρ → Prop) (a1 : A1) (a2 : A2) (a3 : A3) (a4 : A4) (a5 : A5), ok a1 a2 a3 a4 a5 → μ a1 a2 a3 a4 a5 < d → post (val a1 a2 a3 a4 a5) → W d post a1 a2 a3 a4 a5 := by
  intro d
  induction d with
  | zero => intro post a1 a2 a3 a4 a5 _ h; omega
  | succ d ih =>
    intro post a1 a2 a3 a4 a5 ho hm hp
    exact hs d post a1 a2 a3 a4 a5 ho hp (fun post' b1 b2 b3 b4 b5 ho' hm' hp' => ih post' b1 b2 b3 b4 b5 ho' (by omega) hp')
theorem rp6 {ρ A1 A2 A3 A4 A5 A6 : Type} (W : Nat → (ρ → Prop) → A1 → A2 → A3 → A4 → A5 → A6 → Prop) (ok : A1 → A2 → A3 → A4 → A5 → A6 → Prop) (μ : A1 → A2 → A3 → A4 → A5 → A6 → Nat) (val : A1 → A2 → A3 → A4 → A5 → A6 → ρ)
    (hs : ∀ (d : Nat) (post : ρ → Prop) (a1 : A1) (a2 : A2) (a3 : A3) (a4 : A4) (a5 : A5) (a6 : A6), ok a1 a2 a3 a4 a5 a6 → post (val a1 a2 a3 a4 a5 a6) → (∀ (post' : ρ → Prop) (b1 : A1) (b2 : A2) (b3 : A3) (b4 : A4) (b5 : A5) (b6 : A6), ok b1 b2 b3 b4 b5 b6 → μ b1 b2 b3 b4 b5 b6 < μ a1 a2 a3 a4 a5 a6 → post' (val b1 b2 b3 b4 b5 b6) → W d post' b1 b2 b3 b4 b5 b6) → W (d + 1) post a1 a2 a3 a4 a5 a6) :
    ∀ (d : Nat) (post : ρ → Prop) (a1 : A1) (a2 : A2) (a3 : A3) (a4 : A4) (a5 : A5) (a6 : A6), ok a1 a2 a3 a4 a5 a6 → μ a1 a2 a3 a4 a5 a6 < d → post (val a1 a2 a3 a4 a5 a6) → W d post a1 a2 a3 a4 a5 a6 := by
  intro d
  induction d with
  | zero => intro post a1 a2 a3 a4 a5 a6 _ h; omega
  | succ d ih =>
    intro post a1 a2 a3 a4 a5 a6 ho hm hp
    exact hs d post a1 a2 a3 a4 a5 a6 ho hp (fun post' b1 b2 b3 b4 b5 b6 ho' hm' hp' => ih post' b1 b2 b3 b4 b5 b6 ho' (by omega) hp')
theorem rec_p {σ ρ : Type} (W : Nat → (ρ → Prop) → σ → Prop) (ok : σ → Prop) (μ : σ → Nat) (val : σ → ρ)
    (hs : ∀ d s post, ok s → post (val s) → (∀ s' post', ok s' → μ s' < μ s → post' (val s') → W d post' s') → W (d + 1) post s) :
    ∀ d s post, ok s → μ s < d → post (val s) → W d post s := by
  intro d
  induction d with
  | zero => intro s post _ h; omega
  | succ d ih =>
    intro s post ho hm hp
    exact hs d s post ho hp (fun s' post' ho' hm' hp' => ih s' post' ho' (by omega) hp')
theorem rec_q {σ ρ : Type} (W : Nat → (ρ → Prop) → σ → Prop) (ok : σ → Prop) (μ : σ → Nat) (Q : σ → ρ → Prop)
    (hs : ∀ d s post, ok s → (∀ r, Q s r → post r) → (∀ s' post', ok s' → μ s' < μ s → (∀ r, Q s' r → post' r) → W d post' s') → W (d + 1) post s) :
    ∀ d s post, ok s → μ s < d → (∀ r, Q s r → post r) → W d post s := by
  intro d
  induction d with
  | zero => intro s post _ h; omega
  | succ d ih =>
    intro s post ho hm hp
    exact hs d s post ho hp (fun s' post' ho' hm' hp' => ih s' post' ho' (by omega) hp')
def bx_sum (f : Nat → Int32) : Nat → Int32
  | 0 => 0
  | n + 1 => bx_sum f n + f n
theorem ek_u {A : Prop} {B : Nat → Prop} {k N : Nat} (hk : k < N) (h : B k) : (some k = none → A) ∧ (∀ y : Nat, some k = some y → (y < N ∧ B y)) :=
  ⟨fun z => absurd z (Option.some_ne_none k), fun _ e => (by cases e; exact ⟨hk, h⟩)⟩
theorem ek_nu {A : Prop} {B : Nat → Prop} (h : A) : ((none : Option Nat) = none → A) ∧ (∀ y : Nat, (none : Option Nat) = some y → B y) :=
  ⟨fun _ => h, fun _ e => (by cases e)⟩
theorem ek_if {c d A B : Prop} (e : c ↔ d) (f : d → A) (g : ¬ d → B) : (c → A) ∧ (¬ c → B) :=
  ⟨fun z => f (e.mp z), fun z => g (fun y => z (e.mpr y))⟩
theorem ek_v {α : Sort _} {P : α → Prop} {a b : α} (e : a = b) (h : P b) : P a := e ▸ h
theorem co_some {x : Option Nat} {A : Prop} {B : Nat → Prop} (i : Nat) (h : B i) (hx : x = some i := by rfl) : (x = none → A) ∧ (∀ y : Nat, x = some y → B y) := by
  subst hx
  exact ⟨fun e => (nomatch e), fun y e => Option.some.inj e ▸ h⟩
theorem co_none {x : Option Nat} {A : Prop} {B : Nat → Prop} (h : A) (hx : x = none := by rfl) : (x = none → A) ∧ (∀ y : Nat, x = some y → B y) := by
  subst hx
  exact ⟨fun _ => h, fun y e => (nomatch e)⟩
theorem co_any {x : Option Nat} {A : Prop} {B : Nat → Prop} (hn : x = none → A) (hs : ∀ i : Nat, x = some i → B i) : (x = none → A) ∧ (∀ y : Nat, x = some y → B y) := ⟨hn, hs⟩
theorem co_2 {P : Nat → Prop} (h0 : P 0) (h1 : P 1) {i : Nat} (hi : i < 2) : P i :=
  match i, hi with
  | 0, _ => h0
  | 1, _ => h1
theorem co_3 {P : Nat → Prop} (h0 : P 0) (h1 : P 1) (h2 : P 2) {i : Nat} (hi : i < 3) : P i :=
  match i, hi with
  | 0, _ => h0
  | 1, _ => h1
  | 2, _ => h2
theorem co_4 {P : Nat → Prop} (h0 : P 0) (h1 : P 1) (h2 : P 2) (h3 : P 3) {i : Nat} (hi : i < 4) : P i :=
  match i, hi with
  | 0, _ => h0
  | 1, _ => h1
  | 2, _ => h2
  | 3, _ => h3
theorem co_dec {N : Nat} {P : Nat → Prop} [DecidablePred P] (h : (List.range N).all (fun i => decide (P i)) = true) {i : Nat} (hi : i < N) : P i := by
  have := List.all_eq_true.mp h i (List.mem_range.mpr hi)
  exact of_decide_eq_true this
theorem co_tab {α : Type} {l : List α} {d : α} {P : α → Prop} (h : ∀ a, a ∈ l → P a) {i : Nat} (hi : i < l.length) : P (l.getD i d) := by
  rw [List.getD_eq_getElem?_getD, List.getElem?_eq_getElem hi]
  exact h _ (List.getElem_mem hi)
theorem pk_mu {x : Int32} {L : Nat} (h0 : ¬ x < 0) (h : ¬ nI L ≤ x) (hL : L < 2 ^ 31) : ∃ j : Nat, j < L ∧ x = nI j ∧ x + 1 = nI (j + 1) ∧ x.toNatClampNeg = j ∧ L - (x + 1).toNatClampNeg < L - x.toNatClampNeg := by
  obtain ⟨j, hj, rfl⟩ := nI_of h0
  have hl : j < L := Nat.not_le.mp fun q => h (nI_le q hj)
  refine ⟨j, hl, rfl, nI_1 j, nI_clamp hj, ?_⟩
  rw [nI_1, nI_clamp (by omega), nI_clamp hj]
  omega
theorem op_s {α : Type} {r : Option α} {A : Prop} {B : α → Prop} {y : α} (h : r = some y) (b : B y) : (r = none → A) ∧ ∀ z, r = some z → B z :=
  ⟨fun e => (by rw [h] at e; cases e), fun z e => (by rw [h] at e; cases e; exact b)⟩
def l_holds {α : Type} (a : Nat → Option Nat) (LP : List Nat) (p : Nat → α) (c : Nat) (b : Nat → α) : Prop :=
  ∀ j, j < c → ∃ y, a j = some y ∧ y ∈ LP ∧ p y = b j
theorem l_holds_0 {α : Type} {a : Nat → Option Nat} {LP : List Nat} {p b : Nat → α} : l_holds a LP p 0 b := fun j h => absurd h (Nat.not_lt_zero j)
theorem l_in_new (LP : List Nat) (q : Nat) : q ∈ LP ++ [q] := List.mem_append.mpr (Or.inr (List.mem_singleton.mpr rfl))
def l_sum (b : Nat → Int32) : Nat → Int32
  | 0 => 0
  | k + 1 => l_sum b k + b k
theorem sb_shr0 (x : Int32) : x >>> ((0 : Int32) &&& 31) = x := by
  rw [show ((0 : Int32) &&& 31) = 0 by decide]
  simp
theorem sb_shl0 (x : Int32) : x <<< ((0 : Int32) &&& 31) = x := by
  rw [show ((0 : Int32) &&& 31) = 0 by decide]
  simp
theorem sb_cl0 : (0 : Int32).toNatClampNeg = 0 := by decide
theorem sb_m1 {p : Nat} (h : 0 < p) : nI p + (-1) = nI (p - 1) := by
  obtain ⟨q, rfl⟩ : ∃ q, p = q + 1 := ⟨p - 1, by omega⟩
  exact pk_m1 q
def sb_b (c : Nat) : Int32 := (nI c).toInt8.toInt32
theorem sb_byte : ∀ c, c < 256 → sb_b c &&& 255 = nI c ∧ ((nI c).toUInt32 % 65536).toInt32 = nI c ∧ nI c ≤ 255 := by decide +kernel
def sb_Fit (a : Nat → Int32) : Prop := ∀ j, fits .byte (.int (a j)) = true
def sb_Lat (t : Nat → Nat) (n : Nat) (a : Nat → Int32) : Prop := ∀ j, j < n → t j < 256 ∧ a j = sb_b (t j)
theorem sb_fitB (c : Nat) : fits .byte (.int (sb_b c)) = true := pk_fb _
theorem sb_fit0 : sb_Fit (fun _ => 0) := fun _ => by
  show fits .byte (.int 0) = true
  decide
theorem sb_fitU {a : Nat → Int32} {k : Nat} {x : Int32} (h : sb_Fit a) (hx : fits .byte (.int x) = true) : sb_Fit (upd a k x) := by
  intro j
  by_cases e : j = k
  · subst e
    rw [pk_us]
    exact hx
  · rw [pk_un e]
    exact h j
def sb_cat (t : Nat → Nat) (n : Nat) (s : Nat → Nat) : Nat → Nat := fun j => if j < n then t j else s (j - n)
theorem sb_cat_lo {t s : Nat → Nat} {n j : Nat} (h : j < n) : sb_cat t n s j = t j := if_pos h
theorem sb_cat_hi {t s : Nat → Nat} {n j : Nat} : sb_cat t n s (n + j) = s j := by
  show (if n + j < n then t (n + j) else s (n + j - n)) = s j
  rw [if_neg (by omega), Nat.add_sub_cancel_left]
theorem sb_latPut {t s : Nat → Nat} {n w : Nat} {a a' : Nat → Int32} (h : sb_Lat t n a) (hk : ∀ j, j < n → a' j = a j) (hs : ∀ i, i < w → s i < 256 ∧ a' (n + i) = sb_b (s i)) : sb_Lat (sb_cat t n s) (n + w) a' := by
  intro j hj
  by_cases e : j < n
  · rw [sb_cat_lo e, hk j e]
    exact h j e
  · obtain ⟨i, rfl⟩ : ∃ i, j = n + i := ⟨j - n, by omega⟩
    rw [sb_cat_hi]
    exact hs i (by omega)
theorem sb_latKeep {t : Nat → Nat} {n : Nat} {a a' : Nat → Int32} (h : sb_Lat t n a) (hk : ∀ j, j < n → a' j = a j) : sb_Lat t n a' := fun j hj => by
  rw [hk j hj]
  exact h j hj
def sb_cap (q m : Nat) : Nat := if q ≤ m then m else if 2 * m + 2 < q then q else 2 * m + 2
def sb_Room (q m mc ms : Nat) : Prop := q ≤ m ∨ (1 ≤ mc ∧ sb_cap q m ≤ ms ∧ sb_cap q m ≤ 65536)
theorem sb_cap_ge (q m : Nat) : q ≤ sb_cap q m := by
  unfold sb_cap
  split
  · omega
  · split <;> omega
theorem sb_cap_gem (q m : Nat) : m ≤ sb_cap q m := by
  unfold sb_cap
  split
  · omega
  · split <;> omega
theorem sb_cap_le {q m mc ms : Nat} (hm : m ≤ 65536) (hr : sb_Room q m mc ms) : sb_cap q m ≤ 65536 := by
  rcases hr with h | h
  · rw [sb_cap, if_pos h]
    exact hm
  · exact h.2.2
theorem sb_at {P : Int32 → Prop} {x y : Int32} (e : x = y) (h : P y) : P x := e ▸ h
def sb_dg (w : Nat) : Nat := if w < 10 then 1 else if w < 100 then 2 else if w < 1000 then 3 else if w < 10000 then 4 else if w < 100000 then 5 else if w < 1000000 then 6 else if w < 10000000 then 7 else if w < 100000000 then 8 else if w < 1000000000 then 9 else 10
def sb_dec (v : Nat) : Nat → Nat := fun i => 48 + v / 10 ^ (sb_dg v - 1 - i) % 10
theorem sb_dg_in (w : Nat) : 1 ≤ sb_dg w ∧ sb_dg w ≤ 10 := by
  unfold sb_dg
  constructor <;> (repeat' split) <;> omega
theorem sb_dg100 {w : Nat} (h : 100 ≤ w) (hw : w < 2 ^ 31) : sb_dg w = sb_dg (w / 100) + 2 := by
  rw [sb_dg, sb_dg, if_neg (show ¬ w < 10 by omega), if_neg (show ¬ w < 100 by omega)]
  by_cases h3 : w < 1000
  · rw [if_pos h3, if_pos (show w / 100 < 10 by omega)]
  rw [if_neg h3, if_neg (show ¬ w / 100 < 10 by omega)]
  by_cases h4 : w < 10000
  · rw [if_pos h4, if_pos (show w / 100 < 100 by omega)]
  rw [if_neg h4, if_neg (show ¬ w / 100 < 100 by omega)]
  by_cases h5 : w < 100000
  · rw [if_pos h5, if_pos (show w / 100 < 1000 by omega)]
  rw [if_neg h5, if_neg (show ¬ w / 100 < 1000 by omega)]
  by_cases h6 : w < 1000000
  · rw [if_pos h6, if_pos (show w / 100 < 10000 by omega)]
  rw [if_neg h6, if_neg (show ¬ w / 100 < 10000 by omega)]
  by_cases h7 : w < 10000000
  · rw [if_pos h7, if_pos (show w / 100 < 100000 by omega)]
  rw [if_neg h7, if_neg (show ¬ w / 100 < 100000 by omega)]
  by_cases h8 : w < 100000000
  · rw [if_pos h8, if_pos (show w / 100 < 1000000 by omega)]
  rw [if_neg h8, if_neg (show ¬ w / 100 < 1000000 by omega)]
  by_cases h9 : w < 1000000000
  · rw [if_pos h9, if_pos (show w / 100 < 10000000 by omega)]
  rw [if_neg h9, if_neg (show ¬ w / 100 < 10000000 by omega)]
  rw [if_pos (show w / 100 < 100000000 by omega)]
theorem sb_negT {w : Nat} (h : w < 2 ^ 31) : (-nI w).toInt = -(w : Int) := by
  rw [Int32.toInt_neg, nI_toInt h]
  exact Int.bmod_eq_of_le (by omega) (by omega)
theorem sb_nle {a b : Nat} (ha : a < 2 ^ 31) (hb : b < 2 ^ 31) : -nI a ≤ -nI b ↔ b ≤ a := by
  rw [Int32.le_iff_toInt_le, sb_negT ha, sb_negT hb]
  omega
theorem sb_nlt {a b : Nat} (ha : a < 2 ^ 31) (hb : b < 2 ^ 31) : -nI a < -nI b ↔ b < a := by
  rw [Int32.lt_iff_toInt_lt, sb_negT ha, sb_negT hb]
  omega
theorem sb_cmp {A B : Prop} {x : Int32} (v c : Nat) (f : c ≤ v → A) (g : v < c → B) (hv : v < 2 ^ 31) (hx : x = -nI c := by rfl) (hc : c < 2 ^ 31 := by omega) : (-nI v ≤ x → A) ∧ (¬ -nI v ≤ x → B) := by
  subst hx
  rw [sb_nle hv hc]
  exact ⟨f, fun z => g (by omega)⟩
theorem sb_ndiv {w : Nat} (hw : w < 2 ^ 31) : (-nI w) / 100 = -nI (w / 100) := by
  apply Int32.toInt_inj.mp
  have h100 : (100 : Int32).toInt = 100 := by decide
  rw [Int32.toInt_div, sb_negT hw, h100, sb_negT (by omega), Int.neg_tdiv, Int.tdiv_eq_ediv_of_nonneg (by omega), Int.bmod_eq_of_le (by omega) (by omega)]
  omega
theorem sb_nrem {w : Nat} (hw : w < 2 ^ 31) : (-nI (w / 100)) * 100 - (-nI w) = nI (w % 100) := by
  have h := pk_rem (a := w) (d := 100) hw (by decide) (by decide)
  rw [pk_div hw (by decide) (by decide)] at h
  rw [← h]
  show (-nI (w / 100)) * nI 100 - (-nI w) = nI w - nI (w / 100) * nI 100
  rw [Int32.neg_mul, Int32.sub_neg, Int32.add_comm, ← Int32.sub_eq_add_neg]
/-! rows on bits, shifts and unsigned numbers, to paste: each family out of a closed proof of our own, whole with what it rests on; each by itself clean at Lean in its own claim (generation 39, form 5). Take a family whole -/
/-! ===== Int32 by its bits: bt x i ===== -/
def bt (x : Int32) (i : Nat) : Bool := x.toBitVec.getLsbD i
theorem b_ext {x y : Int32} (h : ∀ i, i < 32 → bt x i = bt y i) : x = y := Int32.toBitVec_inj.mp (BitVec.eq_of_getLsbD_eq (fun i hi => h i hi))
theorem b_or (x y : Int32) (i : Nat) : bt (x ||| y) i = (bt x i || bt y i) := by unfold bt; rw [Int32.toBitVec_or, BitVec.getLsbD_or]
theorem b_and (x y : Int32) (i : Nat) : bt (x &&& y) i = (bt x i && bt y i) := by unfold bt; rw [Int32.toBitVec_and, BitVec.getLsbD_and]
theorem b_xor (x y : Int32) (i : Nat) : bt (x ^^^ y) i = (bt x i ^^ bt y i) := by unfold bt; rw [Int32.toBitVec_xor, BitVec.getLsbD_xor]
theorem b_big {x : Int32} {i : Nat} (h : 32 ≤ i) : bt x i = false := BitVec.getLsbD_of_ge _ _ h
theorem b_255 (i : Nat) : bt 255 i = decide (i < 8) := by
  rcases Nat.lt_or_ge i 32 with h | h
  · exact (by decide +kernel : ∀ i, i < 32 → bt 255 i = decide (i < 8)) i h
  · rw [b_big h, decide_eq_false (by omega)]
theorem b_65535 (i : Nat) : bt 65535 i = decide (i < 16) := by
  rcases Nat.lt_or_ge i 32 with h | h
  · exact (by decide +kernel : ∀ i, i < 32 → bt 65535 i = decide (i < 16)) i h
  · rw [b_big h, decide_eq_false (by omega)]
theorem b_m1 : ∀ i, i < 32 → bt (-1) i = true := by decide +kernel
theorem b_0 (i : Nat) : bt 0 i = false := BitVec.getLsbD_zero
theorem s_l : ∀ n, n < 32 → ((nI n &&& 31).toBitVec.smod 32).toNat = n := by decide +kernel
theorem s_u : ∀ n, n < 32 → (((nI n).toUInt32 &&& Int32.toUInt32 31).toBitVec % 32).toNat = n := by decide +kernel
theorem b_shl (n : Nat) (hn : n < 32) (x : Int32) {i : Nat} (hi : i < 32) : bt (x <<< (nI n &&& 31)) i = (decide (n ≤ i) && bt x (i - n)) := by
  unfold bt
  rw [Int32.toBitVec_shiftLeft]
  show (x.toBitVec <<< ((nI n &&& 31).toBitVec.smod 32).toNat).getLsbD i = _
  rw [s_l n hn, BitVec.getLsbD_shiftLeft]
  rcases Nat.lt_or_ge i n with h | h
  · simp [h, Nat.not_le.mpr h]
  · simp [hi, h, Nat.not_lt.mpr h]
theorem b_ushr (n : Nat) (hn : n < 32) (x : Int32) (i : Nat) : bt ((x.toUInt32 >>> ((nI n).toUInt32 &&& Int32.toUInt32 31)).toInt32) i = bt x (n + i) := by
  show (x.toUInt32 >>> ((nI n).toUInt32 &&& Int32.toUInt32 31)).toBitVec.getLsbD i = x.toUInt32.toBitVec.getLsbD (n + i)
  rw [UInt32.toBitVec_shiftRight]
  show (x.toUInt32.toBitVec >>> (((nI n).toUInt32 &&& Int32.toUInt32 31).toBitVec % 32).toNat).getLsbD i = _
  rw [s_u n hn, BitVec.getLsbD_ushiftRight]
theorem b_sshr (n : Nat) (hn : n < 32) (x : Int32) {i : Nat} (hi : i < 32) : bt (x >>> (nI n &&& 31)) i = if n + i < 32 then bt x (n + i) else bt x 31 := by
  unfold bt
  rw [Int32.toBitVec_shiftRight]
  show (x.toBitVec.sshiftRight ((nI n &&& 31).toBitVec.smod 32).toNat).getLsbD i = _
  rw [s_l n hn, BitVec.getLsbD_sshiftRight, BitVec.msb_eq_getLsbD_last]
  simp [hi]
theorem b_shl8 (x : Int32) {i : Nat} (hi : i < 32) : bt (x <<< ((8 : Int32) &&& 31)) i = (decide (8 ≤ i) && bt x (i - 8)) := b_shl 8 (by omega) x hi
theorem b_shl16 (x : Int32) {i : Nat} (hi : i < 32) : bt (x <<< ((16 : Int32) &&& 31)) i = (decide (16 ≤ i) && bt x (i - 16)) := b_shl 16 (by omega) x hi
theorem b_shl24 (x : Int32) {i : Nat} (hi : i < 32) : bt (x <<< ((24 : Int32) &&& 31)) i = (decide (24 ≤ i) && bt x (i - 24)) := b_shl 24 (by omega) x hi
theorem b_sshr8 (x : Int32) {i : Nat} (hi : i < 32) : bt (x >>> ((8 : Int32) &&& 31)) i = if 8 + i < 32 then bt x (8 + i) else bt x 31 := b_sshr 8 (by omega) x hi
/-! ===== nI under and, xor, >>>, one bit, 65535 ===== -/
theorem nx_and (a b : Nat) : nI a &&& nI b = nI (a &&& b) := by
  apply Int32.toBitVec_inj.1
  show BitVec.ofNat 32 a &&& BitVec.ofNat 32 b = BitVec.ofNat 32 (a &&& b)
  apply BitVec.eq_of_getLsbD_eq
  intro i hi
  simp [hi]
theorem nx_xor (a b : Nat) : nI a ^^^ nI b = nI (a ^^^ b) := by
  apply Int32.toBitVec_inj.1
  show BitVec.ofNat 32 a ^^^ BitVec.ofNat 32 b = BitVec.ofNat 32 (a ^^^ b)
  apply BitVec.eq_of_getLsbD_eq
  intro i hi
  simp [hi]
theorem nx_cnt : ∀ j : Fin 32, (UInt32.ofNat j.val &&& Int32.toUInt32 31).toNat % 32 = j.val := by decide +kernel
theorem nx_ush {k j : Nat} (hk : k < 65536) (hj : j < 32) : ((nI k).toUInt32 >>> ((nI j).toUInt32 &&& Int32.toUInt32 31)).toInt32 = nI (k >>> j) := by
  have hs : k >>> j ≤ k := by
    rw [Nat.shiftRight_eq_div_pow]
    exact Nat.div_le_self _ _
  have e2 : UInt32.ofNat k >>> (UInt32.ofNat j &&& Int32.toUInt32 31) = UInt32.ofNat (k >>> j) := by
    apply UInt32.toNat_inj.1
    have h1 : (UInt32.ofNat k).toNat = k := Nat.mod_eq_of_lt (by omega)
    have h2 : (UInt32.ofNat (k >>> j)).toNat = k >>> j := Nat.mod_eq_of_lt (by omega)
    rw [UInt32.toNat_shiftRight, nx_cnt ⟨j, hj⟩, h1, h2]
  show (UInt32.ofNat k >>> (UInt32.ofNat j &&& Int32.toUInt32 31)).toInt32 = _
  rw [e2]
  rfl
theorem nx_bit {k j : Nat} (hk : k < 65536) (hj : j < 16) : (((nI k).toUInt32 >>> ((nI j).toUInt32 &&& Int32.toUInt32 31)).toInt32 &&& 1) = 0 ↔ k.testBit j = false := by
  rw [nx_ush hk (by omega)]
  show nI (k >>> j) &&& nI 1 = 0 ↔ _
  rw [nx_and, Nat.and_one_is_mod, ← nI_0, nI_eq (by omega) (by omega), Nat.testBit_eq_decide_div_mod_eq, Nat.shiftRight_eq_div_pow, decide_eq_false_iff_not]
  generalize k / 2 ^ j = z
  omega
theorem nx_mod (k : Nat) : nI k &&& 65535 = nI (k % 65536) := by
  show nI k &&& nI 65535 = _
  rw [nx_and, show (65535 : Nat) = 2 ^ 16 - 1 from rfl, Nat.and_two_pow_sub_one_eq_mod]
theorem nx_m16 {k : Nat} (h : k < 65536) : nI k &&& 65535 = nI k := by rw [nx_mod, Nat.mod_eq_of_lt h]
theorem nx_mask (x : Int32) : ∃ k, k < 65536 ∧ x &&& 65535 = nI k := by
  have e : x = nI x.toBitVec.toNat := by
    apply Int32.toBitVec_inj.1
    show x.toBitVec = BitVec.ofNat 32 x.toBitVec.toNat
    simp
  refine ⟨x.toBitVec.toNat % 65536, Nat.mod_lt _ (by omega), ?_⟩
  rw [← nx_mod, ← e]
/-! ===== Int32 as a set of bits: test, set ===== -/
def nf_M (m : Int32) : Nat := 4294967296 - m.toBitVec.toNat
theorem nf_sh : ∀ l, l < 32 → ((1 : Int32) <<< (nI l &&& 31)).toBitVec = BitVec.twoPow 32 l := by decide +kernel
theorem nf_sl : ∀ l, l < 32 → (((nI l).toUInt32 &&& Int32.toUInt32 31).toBitVec % 32).toNat = l := by decide +kernel
theorem nf_tp : ∀ l, l < 32 → BitVec.twoPow 32 l ≠ 0#32 := by decide +kernel
theorem nf_bit (m : Int32) (l : Nat) (hl : l < 32) : ((m.toUInt32 >>> ((nI l).toUInt32 &&& Int32.toUInt32 31)).toInt32 &&& 1) = 0 ↔ (m &&& ((1 : Int32) <<< (nI l &&& 31))) = 0 := by
  have e : ((m.toUInt32 >>> ((nI l).toUInt32 &&& Int32.toUInt32 31)).toInt32).toBitVec = m.toBitVec >>> l := by
    show m.toBitVec >>> (((nI l).toUInt32 &&& Int32.toUInt32 31).toBitVec % 32) = m.toBitVec >>> l
    rw [BitVec.ushiftRight_eq', nf_sl l hl]
  rw [← Int32.toBitVec_inj, ← Int32.toBitVec_inj, Int32.toBitVec_and, Int32.toBitVec_and, nf_sh l hl, e, BitVec.and_twoPow]
  show (m.toBitVec >>> l &&& 1#32) = 0#32 ↔ _ = 0#32
  rw [BitVec.and_one_eq_setWidth_ofBool_getLsbD, BitVec.getLsbD_ushiftRight, Nat.add_zero]
  cases hb : m.toBitVec.getLsbD l
  · exact ⟨fun _ => by simp, fun _ => by decide⟩
  · exact ⟨fun z => absurd z (by decide), fun z => absurd ((if_pos rfl).symm.trans z) (nf_tp l hl)⟩
theorem nf_gr (m k : Int32) (h : m &&& k = 0) (hk : k ≠ 0) : nf_M (m ||| k) < nf_M m := by
  have hm := m.toBitVec.isLt
  have hm' := (m ||| k).toBitVec.isLt
  have h1 : m.toBitVec.toNat ≤ (m ||| k).toBitVec.toNat := by
    rw [Int32.toBitVec_or, BitVec.toNat_or]
    exact Nat.left_le_or
  have h2 : m.toBitVec.toNat ≠ (m ||| k).toBitVec.toNat := by
    intro e
    have e2 : m = m ||| k := Int32.toBitVec_inj.mp (BitVec.eq_of_toNat_eq e)
    apply hk
    apply Int32.toBitVec_inj.mp
    show k.toBitVec = 0#32
    apply BitVec.eq_of_getLsbD_eq
    intro i hi
    have a : m.toBitVec.getLsbD i = (m.toBitVec.getLsbD i || k.toBitVec.getLsbD i) := by rw [← BitVec.getLsbD_or, ← Int32.toBitVec_or, ← e2]
    have b : (m.toBitVec.getLsbD i && k.toBitVec.getLsbD i) = false := by
      rw [← BitVec.getLsbD_and, ← Int32.toBitVec_and, h]
      exact BitVec.getLsbD_zero
    rw [BitVec.getLsbD_zero]
    revert a b
    cases m.toBitVec.getLsbD i <;> cases k.toBitVec.getLsbD i <;> simp
  unfold nf_M
  omega
/-! ===== a byte read unsigned ===== -/
theorem bp_b (x : Int32) : x.toInt8.toInt32 &&& 255 = x &&& 255 := by
  apply Int32.toBitVec_inj.mp
  rw [Int32.toBitVec_and, Int32.toBitVec_and, Int8.toBitVec_toInt32, Int32.toBitVec_toInt8]
  apply BitVec.eq_of_getLsbD_eq
  intro i hi
  rw [BitVec.getLsbD_and, BitVec.getLsbD_and]
  have hm : ∀ i < 32, 8 ≤ i → (255 : Int32).toBitVec.getLsbD i = false := by decide
  rcases Nat.lt_or_ge i 8 with z | z
  · rw [BitVec.getLsbD_signExtend, BitVec.getLsbD_signExtend, if_pos z, if_pos hi]
    simp only [z, hi, decide_true, Bool.true_and]
  · rw [hm i hi z]; simp
/-! ===== the char cast and 65535 ===== -/
theorem em_w (v : Int32) : ∃ w : Nat, w < 65536 ∧ (v.toUInt32 % 65536).toInt32 = nI w ∧ v &&& 65535 = nI w := by
  have hr := lw_u16_r v
  have h0 : (0 : Int32).toInt = 0 := by decide
  obtain ⟨w, h1, h2⟩ := nI_of (x := lw_u16 v) (by rw [Int32.lt_iff_toInt_lt]; omega)
  have h3 : (v.toUInt32 % 65536).toInt32 = nI w := h2
  rw [h2, nI_toInt h1] at hr
  exact ⟨w, by omega, h3, by rw [← lg_i2c_mask, ← lg_i2c_nf, h3]⟩
/-! ===== Int64 as a set of bits: test, set, clear ===== -/
theorem ts_nf {x : Bool} (h : ¬ x = false) : x = true := by cases x <;> first | rfl | exact absurd rfl h
theorem ts_nt {x : Bool} (h : ¬ x = true) : x = false := by cases x <;> first | rfl | exact absurd rfl h
theorem ts_bit {w : Int64} {s : UInt64} {j : Nat} (hj : j < 64) (hs : s.toNat = j) : ((w.toUInt64 >>> s).toInt64 &&& 1) = 0 ↔ w.toBitVec.getLsbD j = false := by
  have e : (w.toUInt64 >>> s).toInt64.toBitVec = w.toBitVec >>> j := by
    apply BitVec.eq_of_toNat_eq
    show (w.toUInt64 >>> s).toNat = _
    rw [UInt64.toNat_shiftRight, hs, Nat.mod_eq_of_lt hj, BitVec.toNat_ushiftRight]
    rfl
  rw [← Int64.toBitVec_inj, Int64.toBitVec_and, e]
  show w.toBitVec >>> j &&& 1#64 = 0#64 ↔ _
  constructor
  · intro h
    have t := congrArg (fun x => x.getLsbD 0) h
    simpa using t
  · intro h
    apply BitVec.eq_of_getLsbD_eq
    intro i hi
    cases i with
    | zero => simp [h]
    | succ i => simp
theorem ts_or {w m : Int64} {j : Nat} (hj : j < 64) (hm : m.toBitVec = BitVec.twoPow 64 j) : (w ||| m) = w ↔ w.toBitVec.getLsbD j = true := by
  rw [← Int64.toBitVec_inj, Int64.toBitVec_or, hm]
  constructor
  · intro h
    have t := congrArg (fun x => x.getLsbD j) h
    simp only [BitVec.getLsbD_or, BitVec.getLsbD_twoPow] at t
    simpa [hj] using t.symm
  · intro h
    apply BitVec.eq_of_getLsbD_eq
    intro i hi
    rw [BitVec.getLsbD_or, BitVec.getLsbD_twoPow]
    by_cases e : j = i
    · subst e; rw [h, Bool.true_or]
    · simp [e]
theorem ts_and {w m : Int64} {j : Nat} (hj : j < 64) (hm : m.toBitVec = BitVec.twoPow 64 j) : (w &&& (m ^^^ (-1))) = w ↔ w.toBitVec.getLsbD j = false := by
  have ha : (-1 : Int64).toBitVec = BitVec.allOnes 64 := by decide
  rw [← Int64.toBitVec_inj, Int64.toBitVec_and, Int64.toBitVec_xor, hm, ha]
  constructor
  · intro h
    have t := congrArg (fun x => x.getLsbD j) h
    simp only [BitVec.getLsbD_and, BitVec.getLsbD_xor, BitVec.getLsbD_twoPow, BitVec.getLsbD_allOnes] at t
    simpa [hj] using t.symm
  · intro h
    apply BitVec.eq_of_getLsbD_eq
    intro i hi
    rw [BitVec.getLsbD_and, BitVec.getLsbD_xor, BitVec.getLsbD_twoPow, BitVec.getLsbD_allOnes]
    by_cases e : j = i
    · subst e; rw [h, Bool.false_and]
    · simp [e, hi]
/-! ===== lN n to 2^64: shifts, and, or, masks, one bit ===== -/
theorem wb_tb (n : Nat) : (lN n).toBitVec = BitVec.ofNat 64 n := rfl
theorem wb_inj {a b : Int64} (h : a.toBitVec = b.toBitVec) : a = b := Int64.toBitVec_inj.mp h
theorem wb_tn {n : Nat} (h : n < 2 ^ 64) : (lN n).toBitVec.toNat = n := by rw [wb_tb, BitVec.toNat_ofNat, Nat.mod_eq_of_lt h]
theorem wb_of (x : Int64) : ∃ n, n < 2 ^ 64 ∧ x = lN n := ⟨x.toBitVec.toNat, x.toBitVec.isLt, wb_inj (by rw [wb_tb]; simp)⟩
theorem wb_of32 (x : Int32) : ∃ n, n < 2 ^ 32 ∧ x = nI n := ⟨x.toBitVec.toNat, x.toBitVec.isLt, Int32.toBitVec_inj.mp (by show _ = BitVec.ofNat 32 _; simp)⟩
theorem wb_c : ∀ k, k < 64 → ((nI k).toInt64 &&& 63) = lN k := by decide +kernel
theorem wb_cu : ∀ k, k < 64 → ((nI k).toInt64.toUInt64 &&& Int64.toUInt64 63) = UInt64.ofNat k := by decide +kernel
theorem wb_sm : ∀ k, k < 64 → (BitVec.ofNat 64 k).smod 64 = BitVec.ofNat 64 k := by decide +kernel
theorem wb_pw {a b : Nat} (h : a ≤ b) : 2 ^ b = 2 ^ a * 2 ^ (b - a) := by rw [← Nat.pow_add]; congr 1; omega
theorem wb_lt2 {a b : Nat} (h : a < b) : 2 ^ a < 2 ^ b := Nat.pow_lt_pow_right (by decide) h
theorem wb_mod (n : Nat) : lN n = lN (n % 2 ^ 64) := wb_inj (by rw [wb_tb, wb_tb]; apply BitVec.eq_of_toNat_eq; rw [BitVec.toNat_ofNat, BitVec.toNat_ofNat, Nat.mod_mod])
theorem wb_shr {n k : Nat} (hn : n < 2 ^ 64) (hk : k < 64) : ((lN n).toUInt64 >>> ((nI k).toInt64.toUInt64 &&& Int64.toUInt64 63)).toInt64 = lN (n / 2 ^ k) := by
  rw [wb_cu k hk]
  apply wb_inj
  apply BitVec.eq_of_toNat_eq
  show ((lN n).toUInt64 >>> UInt64.ofNat k).toNat = (BitVec.ofNat 64 _).toNat
  have h1 : (UInt64.ofNat k).toNat = k := by
    show (BitVec.ofNat 64 k).toNat = k
    rw [BitVec.toNat_ofNat, Nat.mod_eq_of_lt (by omega)]
  have h2 : (lN n).toUInt64.toNat = n := wb_tn hn
  rw [UInt64.toNat_shiftRight, h1, h2, Nat.mod_eq_of_lt hk, Nat.shiftRight_eq_div_pow, BitVec.toNat_ofNat, Nat.mod_eq_of_lt (Nat.lt_of_le_of_lt (Nat.div_le_self _ _) hn)]
theorem wb_shl (n : Nat) {k : Nat} (hk : k < 64) : lN n <<< ((nI k).toInt64 &&& 63) = lN (n * 2 ^ k) := by
  rw [wb_c k hk]
  apply wb_inj
  rw [Int64.toBitVec_shiftLeft, wb_tb, wb_tb, wb_tb, wb_sm k hk]
  apply BitVec.eq_of_toNat_eq
  rw [BitVec.shiftLeft_eq', BitVec.toNat_shiftLeft, BitVec.toNat_ofNat, BitVec.toNat_ofNat, BitVec.toNat_ofNat, Nat.mod_eq_of_lt (show k < 2 ^ 64 by omega), Nat.shiftLeft_eq, Nat.mul_mod, Nat.mod_mod, ← Nat.mul_mod]
theorem wb_and {a b : Nat} (ha : a < 2 ^ 64) (hb : b < 2 ^ 64) : lN a &&& lN b = lN (a &&& b) := by
  apply wb_inj
  rw [Int64.toBitVec_and, wb_tb, wb_tb, wb_tb]
  apply BitVec.eq_of_toNat_eq
  rw [BitVec.toNat_and, BitVec.toNat_ofNat, BitVec.toNat_ofNat, BitVec.toNat_ofNat, Nat.mod_eq_of_lt ha, Nat.mod_eq_of_lt hb, Nat.mod_eq_of_lt (Nat.and_lt_two_pow _ hb)]
theorem wb_or {a b : Nat} (ha : a < 2 ^ 64) (hb : b < 2 ^ 64) : lN a ||| lN b = lN (a ||| b) := by
  apply wb_inj
  rw [Int64.toBitVec_or, wb_tb, wb_tb, wb_tb]
  apply BitVec.eq_of_toNat_eq
  rw [BitVec.toNat_or, BitVec.toNat_ofNat, BitVec.toNat_ofNat, BitVec.toNat_ofNat, Nat.mod_eq_of_lt ha, Nat.mod_eq_of_lt hb, Nat.mod_eq_of_lt (Nat.or_lt_two_pow ha hb)]
theorem wb_mask {n k : Nat} (hn : n < 2 ^ 64) (hk : k < 64) : lN n &&& lN (2 ^ k - 1) = lN (n % 2 ^ k) := by
  rw [wb_and hn (by have := wb_lt2 hk; omega), Nat.and_two_pow_sub_one_eq_mod]
theorem wb_a1 {n : Nat} (hn : n < 2 ^ 64) : lN n &&& 1 = lN (n % 2) := wb_mask (k := 1) hn (by decide)
theorem wb_bit {n k : Nat} (hn : n < 2 ^ 64) (hk : k < 64) : ((lN n).toUInt64 >>> ((nI k).toInt64.toUInt64 &&& Int64.toUInt64 63)).toInt64 &&& 1 = lN (n / 2 ^ k % 2) := by
  rw [wb_shr hn hk, wb_a1 (Nat.lt_of_le_of_lt (Nat.div_le_self _ _) hn)]
theorem wb_xor {q k : Nat} (hk : k < 63) (h : 2 ^ k ≤ q) (h2 : q < 2 ^ (k + 1)) : lN q ^^^ lN (2 ^ k) = lN (q - 2 ^ k) := by
  obtain ⟨r, rfl⟩ : ∃ r, q = 2 ^ k + r := ⟨q - 2 ^ k, by omega⟩
  have hr : r < 2 ^ k := by rw [Nat.pow_succ] at h2; omega
  have hx : (2 ^ k + r) ^^^ 2 ^ k = r := by
    apply Nat.eq_of_testBit_eq
    intro i
    rw [Nat.testBit_xor, Nat.testBit_two_pow]
    rcases Nat.lt_trichotomy i k with h | h | h
    · rw [Nat.testBit_two_pow_add_gt h]
      simp [show ¬ k = i by omega]
    · subst h
      rw [Nat.testBit_two_pow_add_eq]
      simp
    · have a1 : 2 ^ (k + 1) ≤ 2 ^ i := Nat.pow_le_pow_right (by decide) h
      rw [Nat.testBit_lt_two_pow (show 2 ^ k + r < 2 ^ i by omega), Nat.testBit_lt_two_pow (show r < 2 ^ i by omega)]
      simp [show ¬ k = i by omega]
  have b1 := wb_lt2 (show k + 1 < 64 by omega)
  have b2 := wb_lt2 (show k < 64 by omega)
  apply wb_inj
  rw [Int64.toBitVec_xor, wb_tb, wb_tb, wb_tb]
  apply BitVec.eq_of_toNat_eq
  rw [BitVec.toNat_xor, BitVec.toNat_ofNat, BitVec.toNat_ofNat, BitVec.toNat_ofNat, Nat.mod_eq_of_lt (by omega : 2 ^ k + r < 2 ^ 64), Nat.mod_eq_of_lt b2, hx, Nat.add_sub_cancel_left, Nat.mod_eq_of_lt (by omega)]
/-! ===== lN: masks, 'or' of parts that don't overlap is a sum ===== -/
theorem u_tn {n : Nat} (h : n < 2 ^ 64) : (UInt64.ofNat n).toNat = n := Nat.mod_eq_of_lt h
theorem g_and {a b c : Nat} (ha : a < 2 ^ 64) (hb : b < 2 ^ 64) (hc : a &&& b = c) : lN a &&& lN b = lN c := by
  subst hc
  have h : UInt64.ofNat a &&& UInt64.ofNat b = UInt64.ofNat (a &&& b) := UInt64.toNat_inj.mp (by rw [UInt64.toNat_and, u_tn ha, u_tn hb, u_tn (Nat.and_lt_two_pow a hb)])
  have h2 := congrArg UInt64.toInt64 h
  exact h2
theorem g_and1 {a : Nat} (ha : a < 2 ^ 64) : lN a &&& 1 = lN (a % 2) := g_and (b := 1) ha (by decide) (Nat.and_two_pow_sub_one_eq_mod a 1)
theorem g_mask {a s p : Nat} (hp : 2 ^ s = p) (hs : s < 64) (ha : a < 2 ^ 64) : lN a &&& lN (p - 1) = lN (a % p) := by
  subst hp
  have := Nat.pow_lt_pow_right (show 1 < 2 by decide) hs
  exact g_and ha (by omega) (Nat.and_two_pow_sub_one_eq_mod a s)
theorem g_or {k p a b : Nat} (hp : 2 ^ k = p) (ha : a < p) (h : b * p + a < 2 ^ 64) : lN (b * p) ||| lN a = lN (b * p + a) := by
  subst hp
  have h1 : b * 2 ^ k ||| a = b * 2 ^ k + a := by rw [← Nat.shiftLeft_eq, Nat.shiftLeft_add_eq_or_of_lt ha]
  have h3 : UInt64.ofNat (b * 2 ^ k) ||| UInt64.ofNat a = UInt64.ofNat (b * 2 ^ k + a) := UInt64.toNat_inj.mp (by rw [UInt64.toNat_or, u_tn (by omega), u_tn (by omega), u_tn h, h1])
  have h2 := congrArg UInt64.toInt64 h3
  exact h2
theorem g_or' {k p a b : Nat} (hp : 2 ^ k = p) (ha : a < p) (h : a + b * p < 2 ^ 64) : lN a ||| lN (b * p) = lN (a + b * p) := by
  rw [Int64.or_comm, g_or hp ha (by omega), Nat.add_comm]
theorem g_ushr {a k p : Nat} {y : UInt64} (hy : y = UInt64.ofNat k) (hk : k < 64) (hp : 2 ^ k = p) (ha : a < 2 ^ 64) : ((lN a).toUInt64 >>> y).toInt64 = lN (a / p) := by
  subst hy hp
  have h : UInt64.ofNat a >>> UInt64.ofNat k = UInt64.ofNat (a / 2 ^ k) := UInt64.toNat_inj.mp (by rw [UInt64.toNat_shiftRight, u_tn ha, u_tn (by omega), u_tn (Nat.lt_of_le_of_lt (Nat.div_le_self _ _) ha), Nat.mod_eq_of_lt hk, Nat.shiftRight_eq_div_pow])
  have h2 := congrArg UInt64.toInt64 h
  exact h2
theorem g_shl {a k p : Nat} {y : Int64} (hy : y.toBitVec.smod 64 = BitVec.ofNat 64 k) (hk : k < 64) (hp : 2 ^ k = p) (ha : a < 2 ^ 64) : lN a <<< y = lN (a * p) := by
  subst hp
  apply Int64.toBitVec_inj.mp
  rw [Int64.toBitVec_shiftLeft, hy]
  apply BitVec.eq_of_toNat_eq
  have hb : (lN a).toBitVec.toNat = a := Nat.mod_eq_of_lt ha
  have hk' : (BitVec.ofNat 64 k).toNat = k := Nat.mod_eq_of_lt (by omega)
  have h : ((lN a).toBitVec <<< BitVec.ofNat 64 k).toNat = (a * 2 ^ k) % 2 ^ 64 := by simp only [BitVec.shiftLeft_eq', BitVec.toNat_shiftLeft, hb, hk', Nat.shiftLeft_eq]
  exact h
/-! ===== lN to 2^62 under >> and >>> ===== -/
theorem pf_lI {a : Nat} (h : a < 2 ^ 63) : (lN a).toInt = (a : Int) := lg_ofNat_toInt h
theorem pf_shr {a d : Nat} {D : Int64} (hD : (D.toBitVec.smod 64).toNat = d) (h : a < 2 ^ 62) : lN a >>> D = lN (a / 2 ^ d) := by
  have hd : a / 2 ^ d ≤ a := Nat.div_le_self _ _
  apply Int64.toInt_inj.mp
  have e : (lN a >>> D).toInt = (lN a).toInt >>> d := by
    rw [← hD]
    exact BitVec.toInt_sshiftRight ..
  rw [e, Int.shiftRight_eq_div_pow, pf_lI (by omega), pf_lI (by omega)]
  rfl
theorem pf_ushr {a d : Nat} {D : UInt64} (hD : D.toNat % 64 = d) (h : a < 2 ^ 62) : ((lN a).toUInt64 >>> D).toInt64 = lN (a / 2 ^ d) := by
  have hd : a / 2 ^ d ≤ a := Nat.div_le_self _ _
  have e : (lN a).toUInt64 >>> D = UInt64.ofNat (a / 2 ^ d) := UInt64.toNat_inj.mp (by
    rw [UInt64.toNat_shiftRight, hD, Nat.shiftRight_eq_div_pow, UInt64.toNat_ofNat']
    show (UInt64.ofNat a).toNat / 2 ^ d = _
    rw [UInt64.toNat_ofNat', Nat.mod_eq_of_lt (by omega), Nat.mod_eq_of_lt (by omega)])
  rw [e]
  rfl
theorem pf_andw (x : Int64) : ∃ m, m < 2 ^ 32 ∧ x &&& 4294967295 = lN m := ⟨x.toBitVec.toNat % 2 ^ 32, Nat.mod_lt _ (by decide), Int64.toBitVec_inj.mp (BitVec.eq_of_toNat_eq (by
  show (x.toBitVec &&& 4294967295#64).toNat = (BitVec.ofNat 64 (x.toBitVec.toNat % 2 ^ 32)).toNat
  rw [BitVec.toNat_and, show (4294967295#64).toNat = 2 ^ 32 - 1 from by decide, Nat.and_two_pow_sub_one_eq_mod, BitVec.toNat_ofNat]
  omega))⟩
/-! ===== Int64 as an unsigned number: uN x ===== -/
def uN (x : Int64) : Nat := x.toUInt64.toNat
theorem uN_lt (x : Int64) : uN x < 18446744073709551616 := x.toUInt64.toNat_lt
theorem uN_inj {x y : Int64} (h : uN x = uN y) : x = y := congrArg UInt64.toInt64 (UInt64.toNat_inj.mp h)
theorem uN_add (x y : Int64) : uN (x + y) = (uN x + uN y) % 18446744073709551616 := by
  show (x.toUInt64 + y.toUInt64).toNat = _
  exact UInt64.toNat_add _ _
theorem uN_mul (x y : Int64) : uN (x * y) = (uN x * uN y) % 18446744073709551616 := by
  show (x.toUInt64 * y.toUInt64).toNat = _
  exact UInt64.toNat_mul _ _
theorem uN_shl (x : Int64) : uN (x <<< ((1 : Int32).toInt64 &&& 63)) = (2 * uN x) % 18446744073709551616 := by
  have h : (((1 : Int32).toInt64 &&& 63).toBitVec.smod 64).toNat = 1 := by decide
  show (x.toBitVec <<< (((1 : Int32).toInt64 &&& 63).toBitVec.smod 64).toNat).toNat = _
  rw [h, BitVec.toNat_shiftLeft, Nat.shiftLeft_eq, Nat.mul_comm]
  rfl
theorem uN_shr (x : Int64) (s : UInt64) : uN (x.toUInt64 >>> s).toInt64 = uN x / 2 ^ (s.toNat % 64) := by
  show (x.toUInt64 >>> s).toNat = _
  rw [UInt64.toNat_shiftRight, Nat.shiftRight_eq_div_pow]
  rfl
theorem uN_s32 (x : Int64) : uN (x.toUInt64 >>> ((32 : Int32).toInt64.toUInt64 &&& Int64.toUInt64 63)).toInt64 = uN x / 4294967296 := by
  have h : ((32 : Int32).toInt64.toUInt64 &&& Int64.toUInt64 63).toNat % 64 = 32 := by decide
  rw [uN_shr, h]
theorem uN_s63 (x : Int64) : uN (x.toUInt64 >>> ((63 : Int32).toInt64.toUInt64 &&& Int64.toUInt64 63)).toInt64 = uN x / 9223372036854775808 := by
  have h : ((63 : Int32).toInt64.toUInt64 &&& Int64.toUInt64 63).toNat % 64 = 63 := by decide
  rw [uN_shr, h]
theorem uN_lo (x : Int64) : uN (x &&& 4294967295) = uN x % 4294967296 := by
  show (x.toUInt64 &&& Int64.toUInt64 4294967295).toNat = _
  rw [UInt64.toNat_and]
  exact Nat.and_two_pow_sub_one_eq_mod _ 32
theorem uN_bit (x : Int64) : (x &&& 1) = 0 ↔ uN x % 2 = 0 := by
  have h : uN (x &&& 1) = uN x % 2 := by
    show (x.toUInt64 &&& Int64.toUInt64 1).toNat = _
    rw [UInt64.toNat_and]
    exact Nat.and_two_pow_sub_one_eq_mod _ 1
  rw [← h]
  exact ⟨fun z => by rw [z]; rfl, fun z => uN_inj (z.trans rfl)⟩
theorem uN_or {x y : Int64} (hy : uN y < 2) : uN ((x <<< ((1 : Int32).toInt64 &&& 63)) ||| y) = (2 * uN x) % 18446744073709551616 + uN y := by
  have h1 : uN ((x <<< ((1 : Int32).toInt64 &&& 63)) ||| y) = uN (x <<< ((1 : Int32).toInt64 &&& 63)) ||| uN y := UInt64.toNat_or _ _
  have h2 : (2 * uN x) % 18446744073709551616 = 2 ^ 1 * (uN x % 9223372036854775808) := by omega
  rw [h1, uN_shl, h2]
  exact (Nat.two_pow_add_eq_or_of_lt (i := 1) hy _).symm
theorem nat_xor {a : Nat} (h : a < 18446744073709551616) : a ^^^ 2 ^ 63 = (a + 9223372036854775808) % 18446744073709551616 := by
  have h1 : (a ^^^ 2 ^ 63) % 2 ^ 63 = a % 2 ^ 63 := by rw [Nat.xor_mod_two_pow, Nat.mod_self, Nat.xor_zero]
  have h2 : (a ^^^ 2 ^ 63) / 2 ^ 63 = (a / 2 ^ 63) ^^^ 1 := by rw [Nat.xor_div_two_pow, Nat.div_self (Nat.two_pow_pos 63)]
  have h3 : a / 2 ^ 63 = 0 ∨ a / 2 ^ 63 = 1 := by omega
  generalize a ^^^ 2 ^ 63 = t at h1 h2
  rcases h3 with h3 | h3
  · rw [h3] at h2
    have h2 : t / 2 ^ 63 = 1 := h2
    omega
  · rw [h3] at h2
    have h2 : t / 2 ^ 63 = 0 := h2
    omega
theorem uN_xor (x : Int64) : uN (x ^^^ (-9223372036854775808)) = (uN x + 9223372036854775808) % 18446744073709551616 := by
  rw [← nat_xor (uN_lt x)]
  exact UInt64.toNat_xor _ _
theorem uN_int (x : Int64) : x.toInt = if 2 * uN x < 18446744073709551616 then (uN x : Int) else (uN x : Int) - 18446744073709551616 := BitVec.toInt_eq_toNat_cond _
theorem uN_le (x y : Int64) : (x ^^^ (-9223372036854775808)) ≤ (y ^^^ (-9223372036854775808)) ↔ uN x ≤ uN y := by
  have hx := uN_lt x
  have hy := uN_lt y
  rw [Int64.le_iff_toInt_le, uN_int, uN_int, uN_xor, uN_xor]
  omega
theorem uN_sk (x : Int64) {k : Nat} (hk : k < 64) : uN (x.toUInt64 >>> ((nI k).toInt64.toUInt64 &&& Int64.toUInt64 63)).toInt64 = uN x / 2 ^ k := by
  have h : ((nI k).toInt64.toUInt64 &&& Int64.toUInt64 63).toNat % 64 = k := by
    rw [nI_l (by omega), UInt64.toNat_and]
    have e : (lN k).toUInt64.toNat = k % 2 ^ 64 := rfl
    have e2 : (Int64.toUInt64 63).toNat = 2 ^ 6 - 1 := by decide
    rw [e, e2, Nat.and_two_pow_sub_one_eq_mod]
    omega
  rw [uN_shr, h]
/-! ===== unsigned comparison by xor with the least ===== -/
theorem lN_bv (n : Nat) : (lN n).toBitVec = BitVec.ofNat 64 n := rfl
theorem lN_nat {n : Nat} (h : n < 2 ^ 64) : (lN n).toBitVec.toNat = n := by rw [lN_bv, BitVec.toNat_ofNat]; exact Nat.mod_eq_of_lt h
theorem lN_xor (a b : Nat) : lN a ^^^ lN b = lN (a ^^^ b) := by
  apply Int64.toBitVec_inj.mp; rw [Int64.toBitVec_xor, lN_bv, lN_bv, lN_bv]; apply BitVec.eq_of_getLsbD_eq; intro i hi; simp [BitVec.getLsbD_ofNat, Nat.testBit_xor, hi]
theorem lN_ti {m : Nat} (h : m < 2 ^ 64) : (lN m).toInt = if m < 2 ^ 63 then (m : Int) else (m : Int) - 2 ^ 64 := by
  have c := BitVec.toInt_eq_toNat_cond (lN m).toBitVec
  rw [lN_nat h] at c
  show (lN m).toBitVec.toInt = _
  rw [c]
  split <;> split <;> omega
theorem xor63 {x : Nat} (h : x < 2 ^ 63) : x ^^^ 2 ^ 63 = 2 ^ 63 + x := by
  apply Nat.eq_of_testBit_eq
  intro i
  rw [Nat.testBit_xor, Nat.testBit_two_pow]
  rcases Nat.lt_trichotomy i 63 with z | z | z
  · rw [Nat.testBit_two_pow_add_gt z, decide_eq_false (by omega)]; simp
  · subst z; rw [Nat.testBit_two_pow_add_eq]; simp
  · have hp : 2 ^ 64 ≤ 2 ^ i := Nat.pow_le_pow_right (by decide) z
    rw [Nat.testBit_lt_two_pow (show x < 2 ^ i by omega), Nat.testBit_lt_two_pow (show 2 ^ 63 + x < 2 ^ i by omega), decide_eq_false (by omega)]; rfl
theorem xorS {a : Nat} (h : a < 2 ^ 64) : (lN a ^^^ (-9223372036854775808)).toInt = (a : Int) - 2 ^ 63 := by
  rw [show (-9223372036854775808 : Int64) = lN (2 ^ 63) from by decide +kernel, lN_xor]
  rcases Nat.lt_or_ge a (2 ^ 63) with z | z
  · rw [xor63 z, lN_ti (by omega), if_neg (by omega)]; omega
  · obtain ⟨x, rfl⟩ : ∃ x, a = 2 ^ 63 + x := ⟨a - 2 ^ 63, by omega⟩
    rw [← xor63 (by omega), Nat.xor_assoc, Nat.xor_self, Nat.xor_zero, lN_ti (by omega), if_pos (by omega), xor63 (by omega)]; omega
theorem ultL {a b : Nat} (ha : a < 2 ^ 64) (hb : b < 2 ^ 64) : ((lN b ^^^ (-9223372036854775808)) ≤ (lN a ^^^ (-9223372036854775808))) ↔ b ≤ a := by
  rw [Int64.le_iff_toInt_le, xorS ha, xorS hb]; omega
/-! ===== Int64 masks of n low bits ===== -/
theorem cr_bits (W U M : BitVec 64) : ((W &&& U) &&& (U &&& (M ^^^ BitVec.allOnes 64))) = 0#64 ↔ (W &&& U) &&& M = W &&& U := by
  constructor
  · intro h
    apply BitVec.eq_of_getLsbD_eq
    intro i hi
    have e := congrArg (fun x => BitVec.getLsbD x i) h
    simp only [BitVec.getLsbD_and, BitVec.getLsbD_xor, BitVec.getLsbD_allOnes, BitVec.getLsbD_zero, hi, decide_true] at e ⊢
    revert e
    cases W.getLsbD i <;> cases U.getLsbD i <;> cases M.getLsbD i <;> decide
  · intro h
    apply BitVec.eq_of_getLsbD_eq
    intro i hi
    have e := congrArg (fun x => BitVec.getLsbD x i) h
    simp only [BitVec.getLsbD_and, BitVec.getLsbD_xor, BitVec.getLsbD_allOnes, BitVec.getLsbD_zero, hi, decide_true] at e ⊢
    revert e
    cases W.getLsbD i <;> cases U.getLsbD i <;> cases M.getLsbD i <;> decide
theorem cr_mask (w U m : Int64) (n : Nat) (hm : m.toBitVec.toNat = 2 ^ n - 1) : ((w &&& U) &&& (U &&& (m ^^^ (-1)))) = 0 ↔ (w &&& U).toBitVec.toNat < 2 ^ n := by
  have e0 : (-1 : Int64).toBitVec = BitVec.allOnes 64 := by decide
  have z0 : (0 : Int64).toBitVec = 0#64 := by decide
  rw [← Int64.toBitVec_inj, z0, Int64.toBitVec_and, Int64.toBitVec_and, Int64.toBitVec_and, Int64.toBitVec_xor, e0, cr_bits]
  generalize w.toBitVec &&& U.toBitVec = T
  rw [← BitVec.toNat_inj, BitVec.toNat_and, hm, Nat.and_two_pow_sub_one_eq_mod]
  constructor
  · intro h
    have t := Nat.mod_lt T.toNat (Nat.two_pow_pos n)
    rw [h] at t
    exact t
  · exact Nat.mod_eq_of_lt
theorem cr_shr (t : Int64) (x : UInt64) (n : Nat) (hx : x.toNat % 64 = n) : (t.toUInt64 >>> x).toInt64 = 0 ↔ t.toBitVec.toNat < 2 ^ n := by
  rw [← Int64.toBitVec_inj, ← BitVec.toNat_inj]
  show (t.toUInt64 >>> x).toNat = 0 ↔ t.toUInt64.toNat < 2 ^ n
  rw [UInt64.toNat_shiftRight, hx, Nat.shiftRight_eq_div_pow]
  constructor
  · intro h
    have d : t.toUInt64.toNat / 2 ^ n < 1 := by
      rw [h]
      decide
    have e := (Nat.div_lt_iff_lt_mul (Nat.two_pow_pos n)).mp d
    rw [Nat.one_mul] at e
    exact e
  · exact Nat.div_eq_of_lt
theorem cr_amt (s : Int64) : ∃ n, n < 64 ∧ s &&& 63 = lN n ∧ (s.toUInt64 &&& Int64.toUInt64 63).toNat % 64 = n := by
  have e : (s.toUInt64 &&& Int64.toUInt64 63).toNat = s.toUInt64.toNat % 2 ^ 6 := by
    rw [UInt64.toNat_and, show (Int64.toUInt64 63).toNat = 2 ^ 6 - 1 from by decide, Nat.and_two_pow_sub_one_eq_mod]
  refine ⟨s.toUInt64.toNat % 2 ^ 6, by omega, ?_, by omega⟩
  rw [← Int64.toBitVec_inj, ← BitVec.toNat_inj]
  show (s.toUInt64 &&& Int64.toUInt64 63).toNat = (BitVec.ofNat 64 (s.toUInt64.toNat % 2 ^ 6)).toNat
  rw [e, BitVec.toNat_ofNat]
  omega
end
section
def gX_faultPlace (u : SX) : Int32 := u.1
def gX_heapEnd (u : SX) : Int32 := u.2.1
def gX_frames (u : SX) : Int32 := u.2.2.1
def gX_frameWordsUsed (u : SX) : Int32 := u.2.2.2.1
def gX_wanted (u : SX) : Int32 := u.2.2.2.2.1
def gX_outcome (u : SX) : Int32 := u.2.2.2.2.2.1
def gX_lastResult (u : SX) : Int64 := u.2.2.2.2.2.2.1
def gX_lastOrigin (u : SX) : Int32 := u.2.2.2.2.2.2.2.1
def gX_done (u : SX) : Int32 := u.2.2.2.2.2.2.2.2.1
def gX_collections (u : SX) : Int32 := u.2.2.2.2.2.2.2.2.2.1
def gX_stayed (u : SX) : Int32 := u.2.2.2.2.2.2.2.2.2.2.1
def gX_turnedCount (u : SX) : Int32 := u.2.2.2.2.2.2.2.2.2.2.2.1
def gX_linkedCount (u : SX) : Int32 := u.2.2.2.2.2.2.2.2.2.2.2.2.1
def gX_superOf (u : SX) : Nat → Int32 := u.2.2.2.2.2.2.2.2.2.2.2.2.2.1
def gX_fieldCount (u : SX) : Nat → Int32 := u.2.2.2.2.2.2.2.2.2.2.2.2.2.2.1
def gX_refFields (u : SX) : Nat → Int32 := u.2.2.2.2.2.2.2.2.2.2.2.2.2.2.2.1
def gX_ownMethods (u : SX) : Nat → Int32 := u.2.2.2.2.2.2.2.2.2.2.2.2.2.2.2.2.1
def gX_initialisers (u : SX) : Nat → Int32 := u.2.2.2.2.2.2.2.2.2.2.2.2.2.2.2.2.2.1
def gX_ready (u : SX) : Nat → Int32 := u.2.2.2.2.2.2.2.2.2.2.2.2.2.2.2.2.2.2.1
def gX_ops (u : SX) : Nat → Int32 := u.2.2.2.2.2.2.2.2.2.2.2.2.2.2.2.2.2.2.2.1
def gX_operands (u : SX) : Nat → Int32 := u.2.2.2.2.2.2.2.2.2.2.2.2.2.2.2.2.2.2.2.2.1
def gX_lengths (u : SX) : Nat → Int32 := u.2.2.2.2.2.2.2.2.2.2.2.2.2.2.2.2.2.2.2.2.2.1
def gX_catchFrom (u : SX) : Nat → Int32 := u.2.2.2.2.2.2.2.2.2.2.2.2.2.2.2.2.2.2.2.2.2.2.1
def gX_catchTo (u : SX) : Nat → Int32 := u.2.2.2.2.2.2.2.2.2.2.2.2.2.2.2.2.2.2.2.2.2.2.2.1
def gX_catchGoal (u : SX) : Nat → Int32 := u.2.2.2.2.2.2.2.2.2.2.2.2.2.2.2.2.2.2.2.2.2.2.2.2.1
def gX_refMaps (u : SX) : Nat → Int32 := u.2.2.2.2.2.2.2.2.2.2.2.2.2.2.2.2.2.2.2.2.2.2.2.2.2.1
def gX_bodyHeights (u : SX) : Nat → Int32 := u.2.2.2.2.2.2.2.2.2.2.2.2.2.2.2.2.2.2.2.2.2.2.2.2.2.2.1
def gX_frameWords (u : SX) : Nat → Int32 := u.2.2.2.2.2.2.2.2.2.2.2.2.2.2.2.2.2.2.2.2.2.2.2.2.2.2.2.1
def gX_codeOps (u : SX) : Nat → Int32 := u.2.2.2.2.2.2.2.2.2.2.2.2.2.2.2.2.2.2.2.2.2.2.2.2.2.2.2.2.1
def gX_codeCells (u : SX) : Nat → Int32 := u.2.2.2.2.2.2.2.2.2.2.2.2.2.2.2.2.2.2.2.2.2.2.2.2.2.2.2.2.2.1
def gX_codeArgs (u : SX) : Nat → Int32 := u.2.2.2.2.2.2.2.2.2.2.2.2.2.2.2.2.2.2.2.2.2.2.2.2.2.2.2.2.2.2.1
def gX_heights (u : SX) : Nat → Int32 := u.2.2.2.2.2.2.2.2.2.2.2.2.2.2.2.2.2.2.2.2.2.2.2.2.2.2.2.2.2.2.2.1
def gX_intKinds (u : SX) : Nat → Int32 := u.2.2.2.2.2.2.2.2.2.2.2.2.2.2.2.2.2.2.2.2.2.2.2.2.2.2.2.2.2.2.2.2.1
def gX_refKinds (u : SX) : Nat → Int32 := u.2.2.2.2.2.2.2.2.2.2.2.2.2.2.2.2.2.2.2.2.2.2.2.2.2.2.2.2.2.2.2.2.2.1
def gX_heap (u : SX) : Nat → Int32 := u.2.2.2.2.2.2.2.2.2.2.2.2.2.2.2.2.2.2.2.2.2.2.2.2.2.2.2.2.2.2.2.2.2.2.1
def gX_newPlaces (u : SX) : Nat → Int32 := u.2.2.2.2.2.2.2.2.2.2.2.2.2.2.2.2.2.2.2.2.2.2.2.2.2.2.2.2.2.2.2.2.2.2.2.1
def gX_globals (u : SX) : Nat → Int32 := u.2.2.2.2.2.2.2.2.2.2.2.2.2.2.2.2.2.2.2.2.2.2.2.2.2.2.2.2.2.2.2.2.2.2.2.2.1
def gX_frameMethod (u : SX) : Nat → Int32 := u.2.2.2.2.2.2.2.2.2.2.2.2.2.2.2.2.2.2.2.2.2.2.2.2.2.2.2.2.2.2.2.2.2.2.2.2.2.1
def gX_framePlace (u : SX) : Nat → Int32 := u.2.2.2.2.2.2.2.2.2.2.2.2.2.2.2.2.2.2.2.2.2.2.2.2.2.2.2.2.2.2.2.2.2.2.2.2.2.2.1
def gX_cells (u : SX) : Nat → Int32 := u.2.2.2.2.2.2.2.2.2.2.2.2.2.2.2.2.2.2.2.2.2.2.2.2.2.2.2.2.2.2.2.2.2.2.2.2.2.2.2
def sX_faultPlace (w : Int32) (u : SX) : SX := (w, gX_heapEnd u, gX_frames u, gX_frameWordsUsed u, gX_wanted u, gX_outcome u, gX_lastResult u, gX_lastOrigin u, gX_done u, gX_collections u, gX_stayed u, gX_turnedCount u, gX_linkedCount u, gX_superOf u, gX_fieldCount u, gX_refFields u, gX_ownMethods u, gX_initialisers u, gX_ready u, gX_ops u, gX_operands u, gX_lengths u, gX_catchFrom u, gX_catchTo u, gX_catchGoal u, gX_refMaps u, gX_bodyHeights u, gX_frameWords u, gX_codeOps u, gX_codeCells u, gX_codeArgs u, gX_heights u, gX_intKinds u, gX_refKinds u, gX_heap u, gX_newPlaces u, gX_globals u, gX_frameMethod u, gX_framePlace u, gX_cells u)
def sX_heapEnd (w : Int32) (u : SX) : SX := (gX_faultPlace u, w, gX_frames u, gX_frameWordsUsed u, gX_wanted u, gX_outcome u, gX_lastResult u, gX_lastOrigin u, gX_done u, gX_collections u, gX_stayed u, gX_turnedCount u, gX_linkedCount u, gX_superOf u, gX_fieldCount u, gX_refFields u, gX_ownMethods u, gX_initialisers u, gX_ready u, gX_ops u, gX_operands u, gX_lengths u, gX_catchFrom u, gX_catchTo u, gX_catchGoal u, gX_refMaps u, gX_bodyHeights u, gX_frameWords u, gX_codeOps u, gX_codeCells u, gX_codeArgs u, gX_heights u, gX_intKinds u, gX_refKinds u, gX_heap u, gX_newPlaces u, gX_globals u, gX_frameMethod u, gX_framePlace u, gX_cells u)
def sX_frames (w : Int32) (u : SX) : SX := (gX_faultPlace u, gX_heapEnd u, w, gX_frameWordsUsed u, gX_wanted u, gX_outcome u, gX_lastResult u, gX_lastOrigin u, gX_done u, gX_collections u, gX_stayed u, gX_turnedCount u, gX_linkedCount u, gX_superOf u, gX_fieldCount u, gX_refFields u, gX_ownMethods u, gX_initialisers u, gX_ready u, gX_ops u, gX_operands u, gX_lengths u, gX_catchFrom u, gX_catchTo u, gX_catchGoal u, gX_refMaps u, gX_bodyHeights u, gX_frameWords u, gX_codeOps u, gX_codeCells u, gX_codeArgs u, gX_heights u, gX_intKinds u, gX_refKinds u, gX_heap u, gX_newPlaces u, gX_globals u, gX_frameMethod u, gX_framePlace u, gX_cells u)
def sX_frameWordsUsed (w : Int32) (u : SX) : SX := (gX_faultPlace u, gX_heapEnd u, gX_frames u, w, gX_wanted u, gX_outcome u, gX_lastResult u, gX_lastOrigin u, gX_done u, gX_collections u, gX_stayed u, gX_turnedCount u, gX_linkedCount u, gX_superOf u, gX_fieldCount u, gX_refFields u, gX_ownMethods u, gX_initialisers u, gX_ready u, gX_ops u, gX_operands u, gX_lengths u, gX_catchFrom u, gX_catchTo u, gX_catchGoal u, gX_refMaps u, gX_bodyHeights u, gX_frameWords u, gX_codeOps u, gX_codeCells u, gX_codeArgs u, gX_heights u, gX_intKinds u, gX_refKinds u, gX_heap u, gX_newPlaces u, gX_globals u, gX_frameMethod u, gX_framePlace u, gX_cells u)
def sX_wanted (w : Int32) (u : SX) : SX := (gX_faultPlace u, gX_heapEnd u, gX_frames u, gX_frameWordsUsed u, w, gX_outcome u, gX_lastResult u, gX_lastOrigin u, gX_done u, gX_collections u, gX_stayed u, gX_turnedCount u, gX_linkedCount u, gX_superOf u, gX_fieldCount u, gX_refFields u, gX_ownMethods u, gX_initialisers u, gX_ready u, gX_ops u, gX_operands u, gX_lengths u, gX_catchFrom u, gX_catchTo u, gX_catchGoal u, gX_refMaps u, gX_bodyHeights u, gX_frameWords u, gX_codeOps u, gX_codeCells u, gX_codeArgs u, gX_heights u, gX_intKinds u, gX_refKinds u, gX_heap u, gX_newPlaces u, gX_globals u, gX_frameMethod u, gX_framePlace u, gX_cells u)
def sX_outcome (w : Int32) (u : SX) : SX := (gX_faultPlace u, gX_heapEnd u, gX_frames u, gX_frameWordsUsed u, gX_wanted u, w, gX_lastResult u, gX_lastOrigin u, gX_done u, gX_collections u, gX_stayed u, gX_turnedCount u, gX_linkedCount u, gX_superOf u, gX_fieldCount u, gX_refFields u, gX_ownMethods u, gX_initialisers u, gX_ready u, gX_ops u, gX_operands u, gX_lengths u, gX_catchFrom u, gX_catchTo u, gX_catchGoal u, gX_refMaps u, gX_bodyHeights u, gX_frameWords u, gX_codeOps u, gX_codeCells u, gX_codeArgs u, gX_heights u, gX_intKinds u, gX_refKinds u, gX_heap u, gX_newPlaces u, gX_globals u, gX_frameMethod u, gX_framePlace u, gX_cells u)
def sX_lastResult (w : Int64) (u : SX) : SX := (gX_faultPlace u, gX_heapEnd u, gX_frames u, gX_frameWordsUsed u, gX_wanted u, gX_outcome u, w, gX_lastOrigin u, gX_done u, gX_collections u, gX_stayed u, gX_turnedCount u, gX_linkedCount u, gX_superOf u, gX_fieldCount u, gX_refFields u, gX_ownMethods u, gX_initialisers u, gX_ready u, gX_ops u, gX_operands u, gX_lengths u, gX_catchFrom u, gX_catchTo u, gX_catchGoal u, gX_refMaps u, gX_bodyHeights u, gX_frameWords u, gX_codeOps u, gX_codeCells u, gX_codeArgs u, gX_heights u, gX_intKinds u, gX_refKinds u, gX_heap u, gX_newPlaces u, gX_globals u, gX_frameMethod u, gX_framePlace u, gX_cells u)
def sX_lastOrigin (w : Int32) (u : SX) : SX := (gX_faultPlace u, gX_heapEnd u, gX_frames u, gX_frameWordsUsed u, gX_wanted u, gX_outcome u, gX_lastResult u, w, gX_done u, gX_collections u, gX_stayed u, gX_turnedCount u, gX_linkedCount u, gX_superOf u, gX_fieldCount u, gX_refFields u, gX_ownMethods u, gX_initialisers u, gX_ready u, gX_ops u, gX_operands u, gX_lengths u, gX_catchFrom u, gX_catchTo u, gX_catchGoal u, gX_refMaps u, gX_bodyHeights u, gX_frameWords u, gX_codeOps u, gX_codeCells u, gX_codeArgs u, gX_heights u, gX_intKinds u, gX_refKinds u, gX_heap u, gX_newPlaces u, gX_globals u, gX_frameMethod u, gX_framePlace u, gX_cells u)
def sX_done (w : Int32) (u : SX) : SX := (gX_faultPlace u, gX_heapEnd u, gX_frames u, gX_frameWordsUsed u, gX_wanted u, gX_outcome u, gX_lastResult u, gX_lastOrigin u, w, gX_collections u, gX_stayed u, gX_turnedCount u, gX_linkedCount u, gX_superOf u, gX_fieldCount u, gX_refFields u, gX_ownMethods u, gX_initialisers u, gX_ready u, gX_ops u, gX_operands u, gX_lengths u, gX_catchFrom u, gX_catchTo u, gX_catchGoal u, gX_refMaps u, gX_bodyHeights u, gX_frameWords u, gX_codeOps u, gX_codeCells u, gX_codeArgs u, gX_heights u, gX_intKinds u, gX_refKinds u, gX_heap u, gX_newPlaces u, gX_globals u, gX_frameMethod u, gX_framePlace u, gX_cells u)
def sX_collections (w : Int32) (u : SX) : SX := (gX_faultPlace u, gX_heapEnd u, gX_frames u, gX_frameWordsUsed u, gX_wanted u, gX_outcome u, gX_lastResult u, gX_lastOrigin u, gX_done u, w, gX_stayed u, gX_turnedCount u, gX_linkedCount u, gX_superOf u, gX_fieldCount u, gX_refFields u, gX_ownMethods u, gX_initialisers u, gX_ready u, gX_ops u, gX_operands u, gX_lengths u, gX_catchFrom u, gX_catchTo u, gX_catchGoal u, gX_refMaps u, gX_bodyHeights u, gX_frameWords u, gX_codeOps u, gX_codeCells u, gX_codeArgs u, gX_heights u, gX_intKinds u, gX_refKinds u, gX_heap u, gX_newPlaces u, gX_globals u, gX_frameMethod u, gX_framePlace u, gX_cells u)
def sX_stayed (w : Int32) (u : SX) : SX := (gX_faultPlace u, gX_heapEnd u, gX_frames u, gX_frameWordsUsed u, gX_wanted u, gX_outcome u, gX_lastResult u, gX_lastOrigin u, gX_done u, gX_collections u, w, gX_turnedCount u, gX_linkedCount u, gX_superOf u, gX_fieldCount u, gX_refFields u, gX_ownMethods u, gX_initialisers u, gX_ready u, gX_ops u, gX_operands u, gX_lengths u, gX_catchFrom u, gX_catchTo u, gX_catchGoal u, gX_refMaps u, gX_bodyHeights u, gX_frameWords u, gX_codeOps u, gX_codeCells u, gX_codeArgs u, gX_heights u, gX_intKinds u, gX_refKinds u, gX_heap u, gX_newPlaces u, gX_globals u, gX_frameMethod u, gX_framePlace u, gX_cells u)
def sX_turnedCount (w : Int32) (u : SX) : SX := (gX_faultPlace u, gX_heapEnd u, gX_frames u, gX_frameWordsUsed u, gX_wanted u, gX_outcome u, gX_lastResult u, gX_lastOrigin u, gX_done u, gX_collections u, gX_stayed u, w, gX_linkedCount u, gX_superOf u, gX_fieldCount u, gX_refFields u, gX_ownMethods u, gX_initialisers u, gX_ready u, gX_ops u, gX_operands u, gX_lengths u, gX_catchFrom u, gX_catchTo u, gX_catchGoal u, gX_refMaps u, gX_bodyHeights u, gX_frameWords u, gX_codeOps u, gX_codeCells u, gX_codeArgs u, gX_heights u, gX_intKinds u, gX_refKinds u, gX_heap u, gX_newPlaces u, gX_globals u, gX_frameMethod u, gX_framePlace u, gX_cells u)
def sX_linkedCount (w : Int32) (u : SX) : SX := (gX_faultPlace u, gX_heapEnd u, gX_frames u, gX_frameWordsUsed u, gX_wanted u, gX_outcome u, gX_lastResult u, gX_lastOrigin u, gX_done u, gX_collections u, gX_stayed u, gX_turnedCount u, w, gX_superOf u, gX_fieldCount u, gX_refFields u, gX_ownMethods u, gX_initialisers u, gX_ready u, gX_ops u, gX_operands u, gX_lengths u, gX_catchFrom u, gX_catchTo u, gX_catchGoal u, gX_refMaps u, gX_bodyHeights u, gX_frameWords u, gX_codeOps u, gX_codeCells u, gX_codeArgs u, gX_heights u, gX_intKinds u, gX_refKinds u, gX_heap u, gX_newPlaces u, gX_globals u, gX_frameMethod u, gX_framePlace u, gX_cells u)
def sX_superOf (w : Nat → Int32) (u : SX) : SX := (gX_faultPlace u, gX_heapEnd u, gX_frames u, gX_frameWordsUsed u, gX_wanted u, gX_outcome u, gX_lastResult u, gX_lastOrigin u, gX_done u, gX_collections u, gX_stayed u, gX_turnedCount u, gX_linkedCount u, w, gX_fieldCount u, gX_refFields u, gX_ownMethods u, gX_initialisers u, gX_ready u, gX_ops u, gX_operands u, gX_lengths u, gX_catchFrom u, gX_catchTo u, gX_catchGoal u, gX_refMaps u, gX_bodyHeights u, gX_frameWords u, gX_codeOps u, gX_codeCells u, gX_codeArgs u, gX_heights u, gX_intKinds u, gX_refKinds u, gX_heap u, gX_newPlaces u, gX_globals u, gX_frameMethod u, gX_framePlace u, gX_cells u)
def sX_fieldCount (w : Nat → Int32) (u : SX) : SX := (gX_faultPlace u, gX_heapEnd u, gX_frames u, gX_frameWordsUsed u, gX_wanted u, gX_outcome u, gX_lastResult u, gX_lastOrigin u, gX_done u, gX_collections u, gX_stayed u, gX_turnedCount u, gX_linkedCount u, gX_superOf u, w, gX_refFields u, gX_ownMethods u, gX_initialisers u, gX_ready u, gX_ops u, gX_operands u, gX_lengths u, gX_catchFrom u, gX_catchTo u, gX_catchGoal u, gX_refMaps u, gX_bodyHeights u, gX_frameWords u, gX_codeOps u, gX_codeCells u, gX_codeArgs u, gX_heights u, gX_intKinds u, gX_refKinds u, gX_heap u, gX_newPlaces u, gX_globals u, gX_frameMethod u, gX_framePlace u, gX_cells u)
def sX_refFields (w : Nat → Int32) (u : SX) : SX := (gX_faultPlace u, gX_heapEnd u, gX_frames u, gX_frameWordsUsed u, gX_wanted u, gX_outcome u, gX_lastResult u, gX_lastOrigin u, gX_done u, gX_collections u, gX_stayed u, gX_turnedCount u, gX_linkedCount u, gX_superOf u, gX_fieldCount u, w, gX_ownMethods u, gX_initialisers u, gX_ready u, gX_ops u, gX_operands u, gX_lengths u, gX_catchFrom u, gX_catchTo u, gX_catchGoal u, gX_refMaps u, gX_bodyHeights u, gX_frameWords u, gX_codeOps u, gX_codeCells u, gX_codeArgs u, gX_heights u, gX_intKinds u, gX_refKinds u, gX_heap u, gX_newPlaces u, gX_globals u, gX_frameMethod u, gX_framePlace u, gX_cells u)
def sX_ownMethods (w : Nat → Int32) (u : SX) : SX := (gX_faultPlace u, gX_heapEnd u, gX_frames u, gX_frameWordsUsed u, gX_wanted u, gX_outcome u, gX_lastResult u, gX_lastOrigin u, gX_done u, gX_collections u, gX_stayed u, gX_turnedCount u, gX_linkedCount u, gX_superOf u, gX_fieldCount u, gX_refFields u, w, gX_initialisers u, gX_ready u, gX_ops u, gX_operands u, gX_lengths u, gX_catchFrom u, gX_catchTo u, gX_catchGoal u, gX_refMaps u, gX_bodyHeights u, gX_frameWords u, gX_codeOps u, gX_codeCells u, gX_codeArgs u, gX_heights u, gX_intKinds u, gX_refKinds u, gX_heap u, gX_newPlaces u, gX_globals u, gX_frameMethod u, gX_framePlace u, gX_cells u)
def sX_initialisers (w : Nat → Int32) (u : SX) : SX := (gX_faultPlace u, gX_heapEnd u, gX_frames u, gX_frameWordsUsed u, gX_wanted u, gX_outcome u, gX_lastResult u, gX_lastOrigin u, gX_done u, gX_collections u, gX_stayed u, gX_turnedCount u, gX_linkedCount u, gX_superOf u, gX_fieldCount u, gX_refFields u, gX_ownMethods u, w, gX_ready u, gX_ops u, gX_operands u, gX_lengths u, gX_catchFrom u, gX_catchTo u, gX_catchGoal u, gX_refMaps u, gX_bodyHeights u, gX_frameWords u, gX_codeOps u, gX_codeCells u, gX_codeArgs u, gX_heights u, gX_intKinds u, gX_refKinds u, gX_heap u, gX_newPlaces u, gX_globals u, gX_frameMethod u, gX_framePlace u, gX_cells u)
def sX_ready (w : Nat → Int32) (u : SX) : SX := (gX_faultPlace u, gX_heapEnd u, gX_frames u, gX_frameWordsUsed u, gX_wanted u, gX_outcome u, gX_lastResult u, gX_lastOrigin u, gX_done u, gX_collections u, gX_stayed u, gX_turnedCount u, gX_linkedCount u, gX_superOf u, gX_fieldCount u, gX_refFields u, gX_ownMethods u, gX_initialisers u, w, gX_ops u, gX_operands u, gX_lengths u, gX_catchFrom u, gX_catchTo u, gX_catchGoal u, gX_refMaps u, gX_bodyHeights u, gX_frameWords u, gX_codeOps u, gX_codeCells u, gX_codeArgs u, gX_heights u, gX_intKinds u, gX_refKinds u, gX_heap u, gX_newPlaces u, gX_globals u, gX_frameMethod u, gX_framePlace u, gX_cells u)
def sX_ops (w : Nat → Int32) (u : SX) : SX := (gX_faultPlace u, gX_heapEnd u, gX_frames u, gX_frameWordsUsed u, gX_wanted u, gX_outcome u, gX_lastResult u, gX_lastOrigin u, gX_done u, gX_collections u, gX_stayed u, gX_turnedCount u, gX_linkedCount u, gX_superOf u, gX_fieldCount u, gX_refFields u, gX_ownMethods u, gX_initialisers u, gX_ready u, w, gX_operands u, gX_lengths u, gX_catchFrom u, gX_catchTo u, gX_catchGoal u, gX_refMaps u, gX_bodyHeights u, gX_frameWords u, gX_codeOps u, gX_codeCells u, gX_codeArgs u, gX_heights u, gX_intKinds u, gX_refKinds u, gX_heap u, gX_newPlaces u, gX_globals u, gX_frameMethod u, gX_framePlace u, gX_cells u)
def sX_operands (w : Nat → Int32) (u : SX) : SX := (gX_faultPlace u, gX_heapEnd u, gX_frames u, gX_frameWordsUsed u, gX_wanted u, gX_outcome u, gX_lastResult u, gX_lastOrigin u, gX_done u, gX_collections u, gX_stayed u, gX_turnedCount u, gX_linkedCount u, gX_superOf u, gX_fieldCount u, gX_refFields u, gX_ownMethods u, gX_initialisers u, gX_ready u, gX_ops u, w, gX_lengths u, gX_catchFrom u, gX_catchTo u, gX_catchGoal u, gX_refMaps u, gX_bodyHeights u, gX_frameWords u, gX_codeOps u, gX_codeCells u, gX_codeArgs u, gX_heights u, gX_intKinds u, gX_refKinds u, gX_heap u, gX_newPlaces u, gX_globals u, gX_frameMethod u, gX_framePlace u, gX_cells u)
def sX_lengths (w : Nat → Int32) (u : SX) : SX := (gX_faultPlace u, gX_heapEnd u, gX_frames u, gX_frameWordsUsed u, gX_wanted u, gX_outcome u, gX_lastResult u, gX_lastOrigin u, gX_done u, gX_collections u, gX_stayed u, gX_turnedCount u, gX_linkedCount u, gX_superOf u, gX_fieldCount u, gX_refFields u, gX_ownMethods u, gX_initialisers u, gX_ready u, gX_ops u, gX_operands u, w, gX_catchFrom u, gX_catchTo u, gX_catchGoal u, gX_refMaps u, gX_bodyHeights u, gX_frameWords u, gX_codeOps u, gX_codeCells u, gX_codeArgs u, gX_heights u, gX_intKinds u, gX_refKinds u, gX_heap u, gX_newPlaces u, gX_globals u, gX_frameMethod u, gX_framePlace u, gX_cells u)
def sX_catchFrom (w : Nat → Int32) (u : SX) : SX := (gX_faultPlace u, gX_heapEnd u, gX_frames u, gX_frameWordsUsed u, gX_wanted u, gX_outcome u, gX_lastResult u, gX_lastOrigin u, gX_done u, gX_collections u, gX_stayed u, gX_turnedCount u, gX_linkedCount u, gX_superOf u, gX_fieldCount u, gX_refFields u, gX_ownMethods u, gX_initialisers u, gX_ready u, gX_ops u, gX_operands u, gX_lengths u, w, gX_catchTo u, gX_catchGoal u, gX_refMaps u, gX_bodyHeights u, gX_frameWords u, gX_codeOps u, gX_codeCells u, gX_codeArgs u, gX_heights u, gX_intKinds u, gX_refKinds u, gX_heap u, gX_newPlaces u, gX_globals u, gX_frameMethod u, gX_framePlace u, gX_cells u)
def sX_catchTo (w : Nat → Int32) (u : SX) : SX := (gX_faultPlace u, gX_heapEnd u, gX_frames u, gX_frameWordsUsed u, gX_wanted u, gX_outcome u, gX_lastResult u, gX_lastOrigin u, gX_done u, gX_collections u, gX_stayed u, gX_turnedCount u, gX_linkedCount u, gX_superOf u, gX_fieldCount u, gX_refFields u, gX_ownMethods u, gX_initialisers u, gX_ready u, gX_ops u, gX_operands u, gX_lengths u, gX_catchFrom u, w, gX_catchGoal u, gX_refMaps u, gX_bodyHeights u, gX_frameWords u, gX_codeOps u, gX_codeCells u, gX_codeArgs u, gX_heights u, gX_intKinds u, gX_refKinds u, gX_heap u, gX_newPlaces u, gX_globals u, gX_frameMethod u, gX_framePlace u, gX_cells u)
def sX_catchGoal (w : Nat → Int32) (u : SX) : SX := (gX_faultPlace u, gX_heapEnd u, gX_frames u, gX_frameWordsUsed u, gX_wanted u, gX_outcome u, gX_lastResult u, gX_lastOrigin u, gX_done u, gX_collections u, gX_stayed u, gX_turnedCount u, gX_linkedCount u, gX_superOf u, gX_fieldCount u, gX_refFields u, gX_ownMethods u, gX_initialisers u, gX_ready u, gX_ops u, gX_operands u, gX_lengths u, gX_catchFrom u, gX_catchTo u, w, gX_refMaps u, gX_bodyHeights u, gX_frameWords u, gX_codeOps u, gX_codeCells u, gX_codeArgs u, gX_heights u, gX_intKinds u, gX_refKinds u, gX_heap u, gX_newPlaces u, gX_globals u, gX_frameMethod u, gX_framePlace u, gX_cells u)
def sX_refMaps (w : Nat → Int32) (u : SX) : SX := (gX_faultPlace u, gX_heapEnd u, gX_frames u, gX_frameWordsUsed u, gX_wanted u, gX_outcome u, gX_lastResult u, gX_lastOrigin u, gX_done u, gX_collections u, gX_stayed u, gX_turnedCount u, gX_linkedCount u, gX_superOf u, gX_fieldCount u, gX_refFields u, gX_ownMethods u, gX_initialisers u, gX_ready u, gX_ops u, gX_operands u, gX_lengths u, gX_catchFrom u, gX_catchTo u, gX_catchGoal u, w, gX_bodyHeights u, gX_frameWords u, gX_codeOps u, gX_codeCells u, gX_codeArgs u, gX_heights u, gX_intKinds u, gX_refKinds u, gX_heap u, gX_newPlaces u, gX_globals u, gX_frameMethod u, gX_framePlace u, gX_cells u)
def sX_bodyHeights (w : Nat → Int32) (u : SX) : SX := (gX_faultPlace u, gX_heapEnd u, gX_frames u, gX_frameWordsUsed u, gX_wanted u, gX_outcome u, gX_lastResult u, gX_lastOrigin u, gX_done u, gX_collections u, gX_stayed u, gX_turnedCount u, gX_linkedCount u, gX_superOf u, gX_fieldCount u, gX_refFields u, gX_ownMethods u, gX_initialisers u, gX_ready u, gX_ops u, gX_operands u, gX_lengths u, gX_catchFrom u, gX_catchTo u, gX_catchGoal u, gX_refMaps u, w, gX_frameWords u, gX_codeOps u, gX_codeCells u, gX_codeArgs u, gX_heights u, gX_intKinds u, gX_refKinds u, gX_heap u, gX_newPlaces u, gX_globals u, gX_frameMethod u, gX_framePlace u, gX_cells u)
def sX_frameWords (w : Nat → Int32) (u : SX) : SX := (gX_faultPlace u, gX_heapEnd u, gX_frames u, gX_frameWordsUsed u, gX_wanted u, gX_outcome u, gX_lastResult u, gX_lastOrigin u, gX_done u, gX_collections u, gX_stayed u, gX_turnedCount u, gX_linkedCount u, gX_superOf u, gX_fieldCount u, gX_refFields u, gX_ownMethods u, gX_initialisers u, gX_ready u, gX_ops u, gX_operands u, gX_lengths u, gX_catchFrom u, gX_catchTo u, gX_catchGoal u, gX_refMaps u, gX_bodyHeights u, w, gX_codeOps u, gX_codeCells u, gX_codeArgs u, gX_heights u, gX_intKinds u, gX_refKinds u, gX_heap u, gX_newPlaces u, gX_globals u, gX_frameMethod u, gX_framePlace u, gX_cells u)
def sX_codeOps (w : Nat → Int32) (u : SX) : SX := (gX_faultPlace u, gX_heapEnd u, gX_frames u, gX_frameWordsUsed u, gX_wanted u, gX_outcome u, gX_lastResult u, gX_lastOrigin u, gX_done u, gX_collections u, gX_stayed u, gX_turnedCount u, gX_linkedCount u, gX_superOf u, gX_fieldCount u, gX_refFields u, gX_ownMethods u, gX_initialisers u, gX_ready u, gX_ops u, gX_operands u, gX_lengths u, gX_catchFrom u, gX_catchTo u, gX_catchGoal u, gX_refMaps u, gX_bodyHeights u, gX_frameWords u, w, gX_codeCells u, gX_codeArgs u, gX_heights u, gX_intKinds u, gX_refKinds u, gX_heap u, gX_newPlaces u, gX_globals u, gX_frameMethod u, gX_framePlace u, gX_cells u)
def sX_codeCells (w : Nat → Int32) (u : SX) : SX := (gX_faultPlace u, gX_heapEnd u, gX_frames u, gX_frameWordsUsed u, gX_wanted u, gX_outcome u, gX_lastResult u, gX_lastOrigin u, gX_done u, gX_collections u, gX_stayed u, gX_turnedCount u, gX_linkedCount u, gX_superOf u, gX_fieldCount u, gX_refFields u, gX_ownMethods u, gX_initialisers u, gX_ready u, gX_ops u, gX_operands u, gX_lengths u, gX_catchFrom u, gX_catchTo u, gX_catchGoal u, gX_refMaps u, gX_bodyHeights u, gX_frameWords u, gX_codeOps u, w, gX_codeArgs u, gX_heights u, gX_intKinds u, gX_refKinds u, gX_heap u, gX_newPlaces u, gX_globals u, gX_frameMethod u, gX_framePlace u, gX_cells u)
def sX_codeArgs (w : Nat → Int32) (u : SX) : SX := (gX_faultPlace u, gX_heapEnd u, gX_frames u, gX_frameWordsUsed u, gX_wanted u, gX_outcome u, gX_lastResult u, gX_lastOrigin u, gX_done u, gX_collections u, gX_stayed u, gX_turnedCount u, gX_linkedCount u, gX_superOf u, gX_fieldCount u, gX_refFields u, gX_ownMethods u, gX_initialisers u, gX_ready u, gX_ops u, gX_operands u, gX_lengths u, gX_catchFrom u, gX_catchTo u, gX_catchGoal u, gX_refMaps u, gX_bodyHeights u, gX_frameWords u, gX_codeOps u, gX_codeCells u, w, gX_heights u, gX_intKinds u, gX_refKinds u, gX_heap u, gX_newPlaces u, gX_globals u, gX_frameMethod u, gX_framePlace u, gX_cells u)
def sX_heights (w : Nat → Int32) (u : SX) : SX := (gX_faultPlace u, gX_heapEnd u, gX_frames u, gX_frameWordsUsed u, gX_wanted u, gX_outcome u, gX_lastResult u, gX_lastOrigin u, gX_done u, gX_collections u, gX_stayed u, gX_turnedCount u, gX_linkedCount u, gX_superOf u, gX_fieldCount u, gX_refFields u, gX_ownMethods u, gX_initialisers u, gX_ready u, gX_ops u, gX_operands u, gX_lengths u, gX_catchFrom u, gX_catchTo u, gX_catchGoal u, gX_refMaps u, gX_bodyHeights u, gX_frameWords u, gX_codeOps u, gX_codeCells u, gX_codeArgs u, w, gX_intKinds u, gX_refKinds u, gX_heap u, gX_newPlaces u, gX_globals u, gX_frameMethod u, gX_framePlace u, gX_cells u)
def sX_intKinds (w : Nat → Int32) (u : SX) : SX := (gX_faultPlace u, gX_heapEnd u, gX_frames u, gX_frameWordsUsed u, gX_wanted u, gX_outcome u, gX_lastResult u, gX_lastOrigin u, gX_done u, gX_collections u, gX_stayed u, gX_turnedCount u, gX_linkedCount u, gX_superOf u, gX_fieldCount u, gX_refFields u, gX_ownMethods u, gX_initialisers u, gX_ready u, gX_ops u, gX_operands u, gX_lengths u, gX_catchFrom u, gX_catchTo u, gX_catchGoal u, gX_refMaps u, gX_bodyHeights u, gX_frameWords u, gX_codeOps u, gX_codeCells u, gX_codeArgs u, gX_heights u, w, gX_refKinds u, gX_heap u, gX_newPlaces u, gX_globals u, gX_frameMethod u, gX_framePlace u, gX_cells u)
def sX_refKinds (w : Nat → Int32) (u : SX) : SX := (gX_faultPlace u, gX_heapEnd u, gX_frames u, gX_frameWordsUsed u, gX_wanted u, gX_outcome u, gX_lastResult u, gX_lastOrigin u, gX_done u, gX_collections u, gX_stayed u, gX_turnedCount u, gX_linkedCount u, gX_superOf u, gX_fieldCount u, gX_refFields u, gX_ownMethods u, gX_initialisers u, gX_ready u, gX_ops u, gX_operands u, gX_lengths u, gX_catchFrom u, gX_catchTo u, gX_catchGoal u, gX_refMaps u, gX_bodyHeights u, gX_frameWords u, gX_codeOps u, gX_codeCells u, gX_codeArgs u, gX_heights u, gX_intKinds u, w, gX_heap u, gX_newPlaces u, gX_globals u, gX_frameMethod u, gX_framePlace u, gX_cells u)
def sX_heap (w : Nat → Int32) (u : SX) : SX := (gX_faultPlace u, gX_heapEnd u, gX_frames u, gX_frameWordsUsed u, gX_wanted u, gX_outcome u, gX_lastResult u, gX_lastOrigin u, gX_done u, gX_collections u, gX_stayed u, gX_turnedCount u, gX_linkedCount u, gX_superOf u, gX_fieldCount u, gX_refFields u, gX_ownMethods u, gX_initialisers u, gX_ready u, gX_ops u, gX_operands u, gX_lengths u, gX_catchFrom u, gX_catchTo u, gX_catchGoal u, gX_refMaps u, gX_bodyHeights u, gX_frameWords u, gX_codeOps u, gX_codeCells u, gX_codeArgs u, gX_heights u, gX_intKinds u, gX_refKinds u, w, gX_newPlaces u, gX_globals u, gX_frameMethod u, gX_framePlace u, gX_cells u)
def sX_newPlaces (w : Nat → Int32) (u : SX) : SX := (gX_faultPlace u, gX_heapEnd u, gX_frames u, gX_frameWordsUsed u, gX_wanted u, gX_outcome u, gX_lastResult u, gX_lastOrigin u, gX_done u, gX_collections u, gX_stayed u, gX_turnedCount u, gX_linkedCount u, gX_superOf u, gX_fieldCount u, gX_refFields u, gX_ownMethods u, gX_initialisers u, gX_ready u, gX_ops u, gX_operands u, gX_lengths u, gX_catchFrom u, gX_catchTo u, gX_catchGoal u, gX_refMaps u, gX_bodyHeights u, gX_frameWords u, gX_codeOps u, gX_codeCells u, gX_codeArgs u, gX_heights u, gX_intKinds u, gX_refKinds u, gX_heap u, w, gX_globals u, gX_frameMethod u, gX_framePlace u, gX_cells u)
def sX_globals (w : Nat → Int32) (u : SX) : SX := (gX_faultPlace u, gX_heapEnd u, gX_frames u, gX_frameWordsUsed u, gX_wanted u, gX_outcome u, gX_lastResult u, gX_lastOrigin u, gX_done u, gX_collections u, gX_stayed u, gX_turnedCount u, gX_linkedCount u, gX_superOf u, gX_fieldCount u, gX_refFields u, gX_ownMethods u, gX_initialisers u, gX_ready u, gX_ops u, gX_operands u, gX_lengths u, gX_catchFrom u, gX_catchTo u, gX_catchGoal u, gX_refMaps u, gX_bodyHeights u, gX_frameWords u, gX_codeOps u, gX_codeCells u, gX_codeArgs u, gX_heights u, gX_intKinds u, gX_refKinds u, gX_heap u, gX_newPlaces u, w, gX_frameMethod u, gX_framePlace u, gX_cells u)
def sX_frameMethod (w : Nat → Int32) (u : SX) : SX := (gX_faultPlace u, gX_heapEnd u, gX_frames u, gX_frameWordsUsed u, gX_wanted u, gX_outcome u, gX_lastResult u, gX_lastOrigin u, gX_done u, gX_collections u, gX_stayed u, gX_turnedCount u, gX_linkedCount u, gX_superOf u, gX_fieldCount u, gX_refFields u, gX_ownMethods u, gX_initialisers u, gX_ready u, gX_ops u, gX_operands u, gX_lengths u, gX_catchFrom u, gX_catchTo u, gX_catchGoal u, gX_refMaps u, gX_bodyHeights u, gX_frameWords u, gX_codeOps u, gX_codeCells u, gX_codeArgs u, gX_heights u, gX_intKinds u, gX_refKinds u, gX_heap u, gX_newPlaces u, gX_globals u, w, gX_framePlace u, gX_cells u)
def sX_framePlace (w : Nat → Int32) (u : SX) : SX := (gX_faultPlace u, gX_heapEnd u, gX_frames u, gX_frameWordsUsed u, gX_wanted u, gX_outcome u, gX_lastResult u, gX_lastOrigin u, gX_done u, gX_collections u, gX_stayed u, gX_turnedCount u, gX_linkedCount u, gX_superOf u, gX_fieldCount u, gX_refFields u, gX_ownMethods u, gX_initialisers u, gX_ready u, gX_ops u, gX_operands u, gX_lengths u, gX_catchFrom u, gX_catchTo u, gX_catchGoal u, gX_refMaps u, gX_bodyHeights u, gX_frameWords u, gX_codeOps u, gX_codeCells u, gX_codeArgs u, gX_heights u, gX_intKinds u, gX_refKinds u, gX_heap u, gX_newPlaces u, gX_globals u, gX_frameMethod u, w, gX_cells u)
def sX_cells (w : Nat → Int32) (u : SX) : SX := (gX_faultPlace u, gX_heapEnd u, gX_frames u, gX_frameWordsUsed u, gX_wanted u, gX_outcome u, gX_lastResult u, gX_lastOrigin u, gX_done u, gX_collections u, gX_stayed u, gX_turnedCount u, gX_linkedCount u, gX_superOf u, gX_fieldCount u, gX_refFields u, gX_ownMethods u, gX_initialisers u, gX_ready u, gX_ops u, gX_operands u, gX_lengths u, gX_catchFrom u, gX_catchTo u, gX_catchGoal u, gX_refMaps u, gX_bodyHeights u, gX_frameWords u, gX_codeOps u, gX_codeCells u, gX_codeArgs u, gX_heights u, gX_intKinds u, gX_refKinds u, gX_heap u, gX_newPlaces u, gX_globals u, gX_frameMethod u, gX_framePlace u, w)
def gY_fault (u : SY) : Int32 := u.1
def gY_height (u : SY) : Int32 := u.2.1
def gY_used (u : SY) : Int32 := u.2.2.1
def gY_depth (u : SY) : Int32 := u.2.2.2.1
def gY_room (u : SY) : Int32 := u.2.2.2.2.1
def gY_steps (u : SY) : Int32 := u.2.2.2.2.2.1
def gY_origin (u : SY) : Int32 := u.2.2.2.2.2.2.1
def gY_answer (u : SY) : Int32 := u.2.2.2.2.2.2.2.1
def gY_collections (u : SY) : Int32 := u.2.2.2.2.2.2.2.2.1
def gY_stayed (u : SY) : Int32 := u.2.2.2.2.2.2.2.2.2.1
def gY_codes (u : SY) : Int32 := u.2.2.2.2.2.2.2.2.2.2.1
def gY_links (u : SY) : Int32 := u.2.2.2.2.2.2.2.2.2.2.2.1
def gY_result (u : SY) : Int64 := u.2.2.2.2.2.2.2.2.2.2.2.2.1
def gY_up (u : SY) : Nat → Int32 := u.2.2.2.2.2.2.2.2.2.2.2.2.2.1
def gY_ints (u : SY) : Nat → Int32 := u.2.2.2.2.2.2.2.2.2.2.2.2.2.2.1
def gY_references (u : SY) : Nat → Int32 := u.2.2.2.2.2.2.2.2.2.2.2.2.2.2.2.1
def gY_slots (u : SY) : Nat → Int32 := u.2.2.2.2.2.2.2.2.2.2.2.2.2.2.2.2.1
def gY_first (u : SY) : Nat → Int32 := u.2.2.2.2.2.2.2.2.2.2.2.2.2.2.2.2.2.1
def gY_ready (u : SY) : Nat → Int32 := u.2.2.2.2.2.2.2.2.2.2.2.2.2.2.2.2.2.2.1
def gY_ops (u : SY) : Nat → Int32 := u.2.2.2.2.2.2.2.2.2.2.2.2.2.2.2.2.2.2.2.1
def gY_args (u : SY) : Nat → Int32 := u.2.2.2.2.2.2.2.2.2.2.2.2.2.2.2.2.2.2.2.2.1
def gY_length (u : SY) : Nat → Int32 := u.2.2.2.2.2.2.2.2.2.2.2.2.2.2.2.2.2.2.2.2.2.1
def gY_from (u : SY) : Nat → Int32 := u.2.2.2.2.2.2.2.2.2.2.2.2.2.2.2.2.2.2.2.2.2.2.1
def gY_to (u : SY) : Nat → Int32 := u.2.2.2.2.2.2.2.2.2.2.2.2.2.2.2.2.2.2.2.2.2.2.2.1
def gY_goal (u : SY) : Nat → Int32 := u.2.2.2.2.2.2.2.2.2.2.2.2.2.2.2.2.2.2.2.2.2.2.2.2.1
def gY_words (u : SY) : Nat → Int32 := u.2.2.2.2.2.2.2.2.2.2.2.2.2.2.2.2.2.2.2.2.2.2.2.2.2.1
def gY_maps (u : SY) : Nat → Int32 := u.2.2.2.2.2.2.2.2.2.2.2.2.2.2.2.2.2.2.2.2.2.2.2.2.2.2.1
def gY_coded (u : SY) : Nat → Int32 := u.2.2.2.2.2.2.2.2.2.2.2.2.2.2.2.2.2.2.2.2.2.2.2.2.2.2.2.1
def gY_linked (u : SY) : Nat → Int32 := u.2.2.2.2.2.2.2.2.2.2.2.2.2.2.2.2.2.2.2.2.2.2.2.2.2.2.2.2.1
def gY_heights (u : SY) : Nat → Int32 := u.2.2.2.2.2.2.2.2.2.2.2.2.2.2.2.2.2.2.2.2.2.2.2.2.2.2.2.2.2.1
def gY_kinds (u : SY) : Nat → Int32 := u.2.2.2.2.2.2.2.2.2.2.2.2.2.2.2.2.2.2.2.2.2.2.2.2.2.2.2.2.2.2.1
def gY_behind (u : SY) : Nat → Int32 := u.2.2.2.2.2.2.2.2.2.2.2.2.2.2.2.2.2.2.2.2.2.2.2.2.2.2.2.2.2.2.2.1
def gY_of (u : SY) : Nat → Int32 := u.2.2.2.2.2.2.2.2.2.2.2.2.2.2.2.2.2.2.2.2.2.2.2.2.2.2.2.2.2.2.2.2.1
def gY_fields (u : SY) : Nat → Int32 := u.2.2.2.2.2.2.2.2.2.2.2.2.2.2.2.2.2.2.2.2.2.2.2.2.2.2.2.2.2.2.2.2.2.1
def gY_globals (u : SY) : Nat → Int32 := u.2.2.2.2.2.2.2.2.2.2.2.2.2.2.2.2.2.2.2.2.2.2.2.2.2.2.2.2.2.2.2.2.2.2.1
def gY_marked (u : SY) : Nat → Int32 := u.2.2.2.2.2.2.2.2.2.2.2.2.2.2.2.2.2.2.2.2.2.2.2.2.2.2.2.2.2.2.2.2.2.2.2.1
def gY_method (u : SY) : Nat → Int32 := u.2.2.2.2.2.2.2.2.2.2.2.2.2.2.2.2.2.2.2.2.2.2.2.2.2.2.2.2.2.2.2.2.2.2.2.2.1
def gY_at (u : SY) : Nat → Int32 := u.2.2.2.2.2.2.2.2.2.2.2.2.2.2.2.2.2.2.2.2.2.2.2.2.2.2.2.2.2.2.2.2.2.2.2.2.2.1
def gY_high (u : SY) : Nat → Int32 := u.2.2.2.2.2.2.2.2.2.2.2.2.2.2.2.2.2.2.2.2.2.2.2.2.2.2.2.2.2.2.2.2.2.2.2.2.2.2.1
def gY_locals (u : SY) : Nat → Int32 := u.2.2.2.2.2.2.2.2.2.2.2.2.2.2.2.2.2.2.2.2.2.2.2.2.2.2.2.2.2.2.2.2.2.2.2.2.2.2.2.1
def gY_stack (u : SY) : Nat → Int32 := u.2.2.2.2.2.2.2.2.2.2.2.2.2.2.2.2.2.2.2.2.2.2.2.2.2.2.2.2.2.2.2.2.2.2.2.2.2.2.2.2
def sY_fault (w : Int32) (u : SY) : SY := (w, gY_height u, gY_used u, gY_depth u, gY_room u, gY_steps u, gY_origin u, gY_answer u, gY_collections u, gY_stayed u, gY_codes u, gY_links u, gY_result u, gY_up u, gY_ints u, gY_references u, gY_slots u, gY_first u, gY_ready u, gY_ops u, gY_args u, gY_length u, gY_from u, gY_to u, gY_goal u, gY_words u, gY_maps u, gY_coded u, gY_linked u, gY_heights u, gY_kinds u, gY_behind u, gY_of u, gY_fields u, gY_globals u, gY_marked u, gY_method u, gY_at u, gY_high u, gY_locals u, gY_stack u)
def sY_height (w : Int32) (u : SY) : SY := (gY_fault u, w, gY_used u, gY_depth u, gY_room u, gY_steps u, gY_origin u, gY_answer u, gY_collections u, gY_stayed u, gY_codes u, gY_links u, gY_result u, gY_up u, gY_ints u, gY_references u, gY_slots u, gY_first u, gY_ready u, gY_ops u, gY_args u, gY_length u, gY_from u, gY_to u, gY_goal u, gY_words u, gY_maps u, gY_coded u, gY_linked u, gY_heights u, gY_kinds u, gY_behind u, gY_of u, gY_fields u, gY_globals u, gY_marked u, gY_method u, gY_at u, gY_high u, gY_locals u, gY_stack u)
def sY_used (w : Int32) (u : SY) : SY := (gY_fault u, gY_height u, w, gY_depth u, gY_room u, gY_steps u, gY_origin u, gY_answer u, gY_collections u, gY_stayed u, gY_codes u, gY_links u, gY_result u, gY_up u, gY_ints u, gY_references u, gY_slots u, gY_first u, gY_ready u, gY_ops u, gY_args u, gY_length u, gY_from u, gY_to u, gY_goal u, gY_words u, gY_maps u, gY_coded u, gY_linked u, gY_heights u, gY_kinds u, gY_behind u, gY_of u, gY_fields u, gY_globals u, gY_marked u, gY_method u, gY_at u, gY_high u, gY_locals u, gY_stack u)
def sY_depth (w : Int32) (u : SY) : SY := (gY_fault u, gY_height u, gY_used u, w, gY_room u, gY_steps u, gY_origin u, gY_answer u, gY_collections u, gY_stayed u, gY_codes u, gY_links u, gY_result u, gY_up u, gY_ints u, gY_references u, gY_slots u, gY_first u, gY_ready u, gY_ops u, gY_args u, gY_length u, gY_from u, gY_to u, gY_goal u, gY_words u, gY_maps u, gY_coded u, gY_linked u, gY_heights u, gY_kinds u, gY_behind u, gY_of u, gY_fields u, gY_globals u, gY_marked u, gY_method u, gY_at u, gY_high u, gY_locals u, gY_stack u)
def sY_room (w : Int32) (u : SY) : SY := (gY_fault u, gY_height u, gY_used u, gY_depth u, w, gY_steps u, gY_origin u, gY_answer u, gY_collections u, gY_stayed u, gY_codes u, gY_links u, gY_result u, gY_up u, gY_ints u, gY_references u, gY_slots u, gY_first u, gY_ready u, gY_ops u, gY_args u, gY_length u, gY_from u, gY_to u, gY_goal u, gY_words u, gY_maps u, gY_coded u, gY_linked u, gY_heights u, gY_kinds u, gY_behind u, gY_of u, gY_fields u, gY_globals u, gY_marked u, gY_method u, gY_at u, gY_high u, gY_locals u, gY_stack u)
def sY_steps (w : Int32) (u : SY) : SY := (gY_fault u, gY_height u, gY_used u, gY_depth u, gY_room u, w, gY_origin u, gY_answer u, gY_collections u, gY_stayed u, gY_codes u, gY_links u, gY_result u, gY_up u, gY_ints u, gY_references u, gY_slots u, gY_first u, gY_ready u, gY_ops u, gY_args u, gY_length u, gY_from u, gY_to u, gY_goal u, gY_words u, gY_maps u, gY_coded u, gY_linked u, gY_heights u, gY_kinds u, gY_behind u, gY_of u, gY_fields u, gY_globals u, gY_marked u, gY_method u, gY_at u, gY_high u, gY_locals u, gY_stack u)
def sY_origin (w : Int32) (u : SY) : SY := (gY_fault u, gY_height u, gY_used u, gY_depth u, gY_room u, gY_steps u, w, gY_answer u, gY_collections u, gY_stayed u, gY_codes u, gY_links u, gY_result u, gY_up u, gY_ints u, gY_references u, gY_slots u, gY_first u, gY_ready u, gY_ops u, gY_args u, gY_length u, gY_from u, gY_to u, gY_goal u, gY_words u, gY_maps u, gY_coded u, gY_linked u, gY_heights u, gY_kinds u, gY_behind u, gY_of u, gY_fields u, gY_globals u, gY_marked u, gY_method u, gY_at u, gY_high u, gY_locals u, gY_stack u)
def sY_answer (w : Int32) (u : SY) : SY := (gY_fault u, gY_height u, gY_used u, gY_depth u, gY_room u, gY_steps u, gY_origin u, w, gY_collections u, gY_stayed u, gY_codes u, gY_links u, gY_result u, gY_up u, gY_ints u, gY_references u, gY_slots u, gY_first u, gY_ready u, gY_ops u, gY_args u, gY_length u, gY_from u, gY_to u, gY_goal u, gY_words u, gY_maps u, gY_coded u, gY_linked u, gY_heights u, gY_kinds u, gY_behind u, gY_of u, gY_fields u, gY_globals u, gY_marked u, gY_method u, gY_at u, gY_high u, gY_locals u, gY_stack u)
def sY_collections (w : Int32) (u : SY) : SY := (gY_fault u, gY_height u, gY_used u, gY_depth u, gY_room u, gY_steps u, gY_origin u, gY_answer u, w, gY_stayed u, gY_codes u, gY_links u, gY_result u, gY_up u, gY_ints u, gY_references u, gY_slots u, gY_first u, gY_ready u, gY_ops u, gY_args u, gY_length u, gY_from u, gY_to u, gY_goal u, gY_words u, gY_maps u, gY_coded u, gY_linked u, gY_heights u, gY_kinds u, gY_behind u, gY_of u, gY_fields u, gY_globals u, gY_marked u, gY_method u, gY_at u, gY_high u, gY_locals u, gY_stack u)
def sY_stayed (w : Int32) (u : SY) : SY := (gY_fault u, gY_height u, gY_used u, gY_depth u, gY_room u, gY_steps u, gY_origin u, gY_answer u, gY_collections u, w, gY_codes u, gY_links u, gY_result u, gY_up u, gY_ints u, gY_references u, gY_slots u, gY_first u, gY_ready u, gY_ops u, gY_args u, gY_length u, gY_from u, gY_to u, gY_goal u, gY_words u, gY_maps u, gY_coded u, gY_linked u, gY_heights u, gY_kinds u, gY_behind u, gY_of u, gY_fields u, gY_globals u, gY_marked u, gY_method u, gY_at u, gY_high u, gY_locals u, gY_stack u)
def sY_codes (w : Int32) (u : SY) : SY := (gY_fault u, gY_height u, gY_used u, gY_depth u, gY_room u, gY_steps u, gY_origin u, gY_answer u, gY_collections u, gY_stayed u, w, gY_links u, gY_result u, gY_up u, gY_ints u, gY_references u, gY_slots u, gY_first u, gY_ready u, gY_ops u, gY_args u, gY_length u, gY_from u, gY_to u, gY_goal u, gY_words u, gY_maps u, gY_coded u, gY_linked u, gY_heights u, gY_kinds u, gY_behind u, gY_of u, gY_fields u, gY_globals u, gY_marked u, gY_method u, gY_at u, gY_high u, gY_locals u, gY_stack u)
def sY_links (w : Int32) (u : SY) : SY := (gY_fault u, gY_height u, gY_used u, gY_depth u, gY_room u, gY_steps u, gY_origin u, gY_answer u, gY_collections u, gY_stayed u, gY_codes u, w, gY_result u, gY_up u, gY_ints u, gY_references u, gY_slots u, gY_first u, gY_ready u, gY_ops u, gY_args u, gY_length u, gY_from u, gY_to u, gY_goal u, gY_words u, gY_maps u, gY_coded u, gY_linked u, gY_heights u, gY_kinds u, gY_behind u, gY_of u, gY_fields u, gY_globals u, gY_marked u, gY_method u, gY_at u, gY_high u, gY_locals u, gY_stack u)
def sY_result (w : Int64) (u : SY) : SY := (gY_fault u, gY_height u, gY_used u, gY_depth u, gY_room u, gY_steps u, gY_origin u, gY_answer u, gY_collections u, gY_stayed u, gY_codes u, gY_links u, w, gY_up u, gY_ints u, gY_references u, gY_slots u, gY_first u, gY_ready u, gY_ops u, gY_args u, gY_length u, gY_from u, gY_to u, gY_goal u, gY_words u, gY_maps u, gY_coded u, gY_linked u, gY_heights u, gY_kinds u, gY_behind u, gY_of u, gY_fields u, gY_globals u, gY_marked u, gY_method u, gY_at u, gY_high u, gY_locals u, gY_stack u)
def sY_up (w : Nat → Int32) (u : SY) : SY := (gY_fault u, gY_height u, gY_used u, gY_depth u, gY_room u, gY_steps u, gY_origin u, gY_answer u, gY_collections u, gY_stayed u, gY_codes u, gY_links u, gY_result u, w, gY_ints u, gY_references u, gY_slots u, gY_first u, gY_ready u, gY_ops u, gY_args u, gY_length u, gY_from u, gY_to u, gY_goal u, gY_words u, gY_maps u, gY_coded u, gY_linked u, gY_heights u, gY_kinds u, gY_behind u, gY_of u, gY_fields u, gY_globals u, gY_marked u, gY_method u, gY_at u, gY_high u, gY_locals u, gY_stack u)
def sY_ints (w : Nat → Int32) (u : SY) : SY := (gY_fault u, gY_height u, gY_used u, gY_depth u, gY_room u, gY_steps u, gY_origin u, gY_answer u, gY_collections u, gY_stayed u, gY_codes u, gY_links u, gY_result u, gY_up u, w, gY_references u, gY_slots u, gY_first u, gY_ready u, gY_ops u, gY_args u, gY_length u, gY_from u, gY_to u, gY_goal u, gY_words u, gY_maps u, gY_coded u, gY_linked u, gY_heights u, gY_kinds u, gY_behind u, gY_of u, gY_fields u, gY_globals u, gY_marked u, gY_method u, gY_at u, gY_high u, gY_locals u, gY_stack u)
def sY_references (w : Nat → Int32) (u : SY) : SY := (gY_fault u, gY_height u, gY_used u, gY_depth u, gY_room u, gY_steps u, gY_origin u, gY_answer u, gY_collections u, gY_stayed u, gY_codes u, gY_links u, gY_result u, gY_up u, gY_ints u, w, gY_slots u, gY_first u, gY_ready u, gY_ops u, gY_args u, gY_length u, gY_from u, gY_to u, gY_goal u, gY_words u, gY_maps u, gY_coded u, gY_linked u, gY_heights u, gY_kinds u, gY_behind u, gY_of u, gY_fields u, gY_globals u, gY_marked u, gY_method u, gY_at u, gY_high u, gY_locals u, gY_stack u)
def sY_slots (w : Nat → Int32) (u : SY) : SY := (gY_fault u, gY_height u, gY_used u, gY_depth u, gY_room u, gY_steps u, gY_origin u, gY_answer u, gY_collections u, gY_stayed u, gY_codes u, gY_links u, gY_result u, gY_up u, gY_ints u, gY_references u, w, gY_first u, gY_ready u, gY_ops u, gY_args u, gY_length u, gY_from u, gY_to u, gY_goal u, gY_words u, gY_maps u, gY_coded u, gY_linked u, gY_heights u, gY_kinds u, gY_behind u, gY_of u, gY_fields u, gY_globals u, gY_marked u, gY_method u, gY_at u, gY_high u, gY_locals u, gY_stack u)
def sY_first (w : Nat → Int32) (u : SY) : SY := (gY_fault u, gY_height u, gY_used u, gY_depth u, gY_room u, gY_steps u, gY_origin u, gY_answer u, gY_collections u, gY_stayed u, gY_codes u, gY_links u, gY_result u, gY_up u, gY_ints u, gY_references u, gY_slots u, w, gY_ready u, gY_ops u, gY_args u, gY_length u, gY_from u, gY_to u, gY_goal u, gY_words u, gY_maps u, gY_coded u, gY_linked u, gY_heights u, gY_kinds u, gY_behind u, gY_of u, gY_fields u, gY_globals u, gY_marked u, gY_method u, gY_at u, gY_high u, gY_locals u, gY_stack u)
def sY_ready (w : Nat → Int32) (u : SY) : SY := (gY_fault u, gY_height u, gY_used u, gY_depth u, gY_room u, gY_steps u, gY_origin u, gY_answer u, gY_collections u, gY_stayed u, gY_codes u, gY_links u, gY_result u, gY_up u, gY_ints u, gY_references u, gY_slots u, gY_first u, w, gY_ops u, gY_args u, gY_length u, gY_from u, gY_to u, gY_goal u, gY_words u, gY_maps u, gY_coded u, gY_linked u, gY_heights u, gY_kinds u, gY_behind u, gY_of u, gY_fields u, gY_globals u, gY_marked u, gY_method u, gY_at u, gY_high u, gY_locals u, gY_stack u)
def sY_ops (w : Nat → Int32) (u : SY) : SY := (gY_fault u, gY_height u, gY_used u, gY_depth u, gY_room u, gY_steps u, gY_origin u, gY_answer u, gY_collections u, gY_stayed u, gY_codes u, gY_links u, gY_result u, gY_up u, gY_ints u, gY_references u, gY_slots u, gY_first u, gY_ready u, w, gY_args u, gY_length u, gY_from u, gY_to u, gY_goal u, gY_words u, gY_maps u, gY_coded u, gY_linked u, gY_heights u, gY_kinds u, gY_behind u, gY_of u, gY_fields u, gY_globals u, gY_marked u, gY_method u, gY_at u, gY_high u, gY_locals u, gY_stack u)
def sY_args (w : Nat → Int32) (u : SY) : SY := (gY_fault u, gY_height u, gY_used u, gY_depth u, gY_room u, gY_steps u, gY_origin u, gY_answer u, gY_collections u, gY_stayed u, gY_codes u, gY_links u, gY_result u, gY_up u, gY_ints u, gY_references u, gY_slots u, gY_first u, gY_ready u, gY_ops u, w, gY_length u, gY_from u, gY_to u, gY_goal u, gY_words u, gY_maps u, gY_coded u, gY_linked u, gY_heights u, gY_kinds u, gY_behind u, gY_of u, gY_fields u, gY_globals u, gY_marked u, gY_method u, gY_at u, gY_high u, gY_locals u, gY_stack u)
def sY_length (w : Nat → Int32) (u : SY) : SY := (gY_fault u, gY_height u, gY_used u, gY_depth u, gY_room u, gY_steps u, gY_origin u, gY_answer u, gY_collections u, gY_stayed u, gY_codes u, gY_links u, gY_result u, gY_up u, gY_ints u, gY_references u, gY_slots u, gY_first u, gY_ready u, gY_ops u, gY_args u, w, gY_from u, gY_to u, gY_goal u, gY_words u, gY_maps u, gY_coded u, gY_linked u, gY_heights u, gY_kinds u, gY_behind u, gY_of u, gY_fields u, gY_globals u, gY_marked u, gY_method u, gY_at u, gY_high u, gY_locals u, gY_stack u)
def sY_from (w : Nat → Int32) (u : SY) : SY := (gY_fault u, gY_height u, gY_used u, gY_depth u, gY_room u, gY_steps u, gY_origin u, gY_answer u, gY_collections u, gY_stayed u, gY_codes u, gY_links u, gY_result u, gY_up u, gY_ints u, gY_references u, gY_slots u, gY_first u, gY_ready u, gY_ops u, gY_args u, gY_length u, w, gY_to u, gY_goal u, gY_words u, gY_maps u, gY_coded u, gY_linked u, gY_heights u, gY_kinds u, gY_behind u, gY_of u, gY_fields u, gY_globals u, gY_marked u, gY_method u, gY_at u, gY_high u, gY_locals u, gY_stack u)
def sY_to (w : Nat → Int32) (u : SY) : SY := (gY_fault u, gY_height u, gY_used u, gY_depth u, gY_room u, gY_steps u, gY_origin u, gY_answer u, gY_collections u, gY_stayed u, gY_codes u, gY_links u, gY_result u, gY_up u, gY_ints u, gY_references u, gY_slots u, gY_first u, gY_ready u, gY_ops u, gY_args u, gY_length u, gY_from u, w, gY_goal u, gY_words u, gY_maps u, gY_coded u, gY_linked u, gY_heights u, gY_kinds u, gY_behind u, gY_of u, gY_fields u, gY_globals u, gY_marked u, gY_method u, gY_at u, gY_high u, gY_locals u, gY_stack u)
def sY_goal (w : Nat → Int32) (u : SY) : SY := (gY_fault u, gY_height u, gY_used u, gY_depth u, gY_room u, gY_steps u, gY_origin u, gY_answer u, gY_collections u, gY_stayed u, gY_codes u, gY_links u, gY_result u, gY_up u, gY_ints u, gY_references u, gY_slots u, gY_first u, gY_ready u, gY_ops u, gY_args u, gY_length u, gY_from u, gY_to u, w, gY_words u, gY_maps u, gY_coded u, gY_linked u, gY_heights u, gY_kinds u, gY_behind u, gY_of u, gY_fields u, gY_globals u, gY_marked u, gY_method u, gY_at u, gY_high u, gY_locals u, gY_stack u)
def sY_words (w : Nat → Int32) (u : SY) : SY := (gY_fault u, gY_height u, gY_used u, gY_depth u, gY_room u, gY_steps u, gY_origin u, gY_answer u, gY_collections u, gY_stayed u, gY_codes u, gY_links u, gY_result u, gY_up u, gY_ints u, gY_references u, gY_slots u, gY_first u, gY_ready u, gY_ops u, gY_args u, gY_length u, gY_from u, gY_to u, gY_goal u, w, gY_maps u, gY_coded u, gY_linked u, gY_heights u, gY_kinds u, gY_behind u, gY_of u, gY_fields u, gY_globals u, gY_marked u, gY_method u, gY_at u, gY_high u, gY_locals u, gY_stack u)
def sY_maps (w : Nat → Int32) (u : SY) : SY := (gY_fault u, gY_height u, gY_used u, gY_depth u, gY_room u, gY_steps u, gY_origin u, gY_answer u, gY_collections u, gY_stayed u, gY_codes u, gY_links u, gY_result u, gY_up u, gY_ints u, gY_references u, gY_slots u, gY_first u, gY_ready u, gY_ops u, gY_args u, gY_length u, gY_from u, gY_to u, gY_goal u, gY_words u, w, gY_coded u, gY_linked u, gY_heights u, gY_kinds u, gY_behind u, gY_of u, gY_fields u, gY_globals u, gY_marked u, gY_method u, gY_at u, gY_high u, gY_locals u, gY_stack u)
def sY_coded (w : Nat → Int32) (u : SY) : SY := (gY_fault u, gY_height u, gY_used u, gY_depth u, gY_room u, gY_steps u, gY_origin u, gY_answer u, gY_collections u, gY_stayed u, gY_codes u, gY_links u, gY_result u, gY_up u, gY_ints u, gY_references u, gY_slots u, gY_first u, gY_ready u, gY_ops u, gY_args u, gY_length u, gY_from u, gY_to u, gY_goal u, gY_words u, gY_maps u, w, gY_linked u, gY_heights u, gY_kinds u, gY_behind u, gY_of u, gY_fields u, gY_globals u, gY_marked u, gY_method u, gY_at u, gY_high u, gY_locals u, gY_stack u)
def sY_linked (w : Nat → Int32) (u : SY) : SY := (gY_fault u, gY_height u, gY_used u, gY_depth u, gY_room u, gY_steps u, gY_origin u, gY_answer u, gY_collections u, gY_stayed u, gY_codes u, gY_links u, gY_result u, gY_up u, gY_ints u, gY_references u, gY_slots u, gY_first u, gY_ready u, gY_ops u, gY_args u, gY_length u, gY_from u, gY_to u, gY_goal u, gY_words u, gY_maps u, gY_coded u, w, gY_heights u, gY_kinds u, gY_behind u, gY_of u, gY_fields u, gY_globals u, gY_marked u, gY_method u, gY_at u, gY_high u, gY_locals u, gY_stack u)
def sY_heights (w : Nat → Int32) (u : SY) : SY := (gY_fault u, gY_height u, gY_used u, gY_depth u, gY_room u, gY_steps u, gY_origin u, gY_answer u, gY_collections u, gY_stayed u, gY_codes u, gY_links u, gY_result u, gY_up u, gY_ints u, gY_references u, gY_slots u, gY_first u, gY_ready u, gY_ops u, gY_args u, gY_length u, gY_from u, gY_to u, gY_goal u, gY_words u, gY_maps u, gY_coded u, gY_linked u, w, gY_kinds u, gY_behind u, gY_of u, gY_fields u, gY_globals u, gY_marked u, gY_method u, gY_at u, gY_high u, gY_locals u, gY_stack u)
def sY_kinds (w : Nat → Int32) (u : SY) : SY := (gY_fault u, gY_height u, gY_used u, gY_depth u, gY_room u, gY_steps u, gY_origin u, gY_answer u, gY_collections u, gY_stayed u, gY_codes u, gY_links u, gY_result u, gY_up u, gY_ints u, gY_references u, gY_slots u, gY_first u, gY_ready u, gY_ops u, gY_args u, gY_length u, gY_from u, gY_to u, gY_goal u, gY_words u, gY_maps u, gY_coded u, gY_linked u, gY_heights u, w, gY_behind u, gY_of u, gY_fields u, gY_globals u, gY_marked u, gY_method u, gY_at u, gY_high u, gY_locals u, gY_stack u)
def sY_behind (w : Nat → Int32) (u : SY) : SY := (gY_fault u, gY_height u, gY_used u, gY_depth u, gY_room u, gY_steps u, gY_origin u, gY_answer u, gY_collections u, gY_stayed u, gY_codes u, gY_links u, gY_result u, gY_up u, gY_ints u, gY_references u, gY_slots u, gY_first u, gY_ready u, gY_ops u, gY_args u, gY_length u, gY_from u, gY_to u, gY_goal u, gY_words u, gY_maps u, gY_coded u, gY_linked u, gY_heights u, gY_kinds u, w, gY_of u, gY_fields u, gY_globals u, gY_marked u, gY_method u, gY_at u, gY_high u, gY_locals u, gY_stack u)
def sY_of (w : Nat → Int32) (u : SY) : SY := (gY_fault u, gY_height u, gY_used u, gY_depth u, gY_room u, gY_steps u, gY_origin u, gY_answer u, gY_collections u, gY_stayed u, gY_codes u, gY_links u, gY_result u, gY_up u, gY_ints u, gY_references u, gY_slots u, gY_first u, gY_ready u, gY_ops u, gY_args u, gY_length u, gY_from u, gY_to u, gY_goal u, gY_words u, gY_maps u, gY_coded u, gY_linked u, gY_heights u, gY_kinds u, gY_behind u, w, gY_fields u, gY_globals u, gY_marked u, gY_method u, gY_at u, gY_high u, gY_locals u, gY_stack u)
def sY_fields (w : Nat → Int32) (u : SY) : SY := (gY_fault u, gY_height u, gY_used u, gY_depth u, gY_room u, gY_steps u, gY_origin u, gY_answer u, gY_collections u, gY_stayed u, gY_codes u, gY_links u, gY_result u, gY_up u, gY_ints u, gY_references u, gY_slots u, gY_first u, gY_ready u, gY_ops u, gY_args u, gY_length u, gY_from u, gY_to u, gY_goal u, gY_words u, gY_maps u, gY_coded u, gY_linked u, gY_heights u, gY_kinds u, gY_behind u, gY_of u, w, gY_globals u, gY_marked u, gY_method u, gY_at u, gY_high u, gY_locals u, gY_stack u)
def sY_globals (w : Nat → Int32) (u : SY) : SY := (gY_fault u, gY_height u, gY_used u, gY_depth u, gY_room u, gY_steps u, gY_origin u, gY_answer u, gY_collections u, gY_stayed u, gY_codes u, gY_links u, gY_result u, gY_up u, gY_ints u, gY_references u, gY_slots u, gY_first u, gY_ready u, gY_ops u, gY_args u, gY_length u, gY_from u, gY_to u, gY_goal u, gY_words u, gY_maps u, gY_coded u, gY_linked u, gY_heights u, gY_kinds u, gY_behind u, gY_of u, gY_fields u, w, gY_marked u, gY_method u, gY_at u, gY_high u, gY_locals u, gY_stack u)
def sY_marked (w : Nat → Int32) (u : SY) : SY := (gY_fault u, gY_height u, gY_used u, gY_depth u, gY_room u, gY_steps u, gY_origin u, gY_answer u, gY_collections u, gY_stayed u, gY_codes u, gY_links u, gY_result u, gY_up u, gY_ints u, gY_references u, gY_slots u, gY_first u, gY_ready u, gY_ops u, gY_args u, gY_length u, gY_from u, gY_to u, gY_goal u, gY_words u, gY_maps u, gY_coded u, gY_linked u, gY_heights u, gY_kinds u, gY_behind u, gY_of u, gY_fields u, gY_globals u, w, gY_method u, gY_at u, gY_high u, gY_locals u, gY_stack u)
def sY_method (w : Nat → Int32) (u : SY) : SY := (gY_fault u, gY_height u, gY_used u, gY_depth u, gY_room u, gY_steps u, gY_origin u, gY_answer u, gY_collections u, gY_stayed u, gY_codes u, gY_links u, gY_result u, gY_up u, gY_ints u, gY_references u, gY_slots u, gY_first u, gY_ready u, gY_ops u, gY_args u, gY_length u, gY_from u, gY_to u, gY_goal u, gY_words u, gY_maps u, gY_coded u, gY_linked u, gY_heights u, gY_kinds u, gY_behind u, gY_of u, gY_fields u, gY_globals u, gY_marked u, w, gY_at u, gY_high u, gY_locals u, gY_stack u)
def sY_at (w : Nat → Int32) (u : SY) : SY := (gY_fault u, gY_height u, gY_used u, gY_depth u, gY_room u, gY_steps u, gY_origin u, gY_answer u, gY_collections u, gY_stayed u, gY_codes u, gY_links u, gY_result u, gY_up u, gY_ints u, gY_references u, gY_slots u, gY_first u, gY_ready u, gY_ops u, gY_args u, gY_length u, gY_from u, gY_to u, gY_goal u, gY_words u, gY_maps u, gY_coded u, gY_linked u, gY_heights u, gY_kinds u, gY_behind u, gY_of u, gY_fields u, gY_globals u, gY_marked u, gY_method u, w, gY_high u, gY_locals u, gY_stack u)
def sY_high (w : Nat → Int32) (u : SY) : SY := (gY_fault u, gY_height u, gY_used u, gY_depth u, gY_room u, gY_steps u, gY_origin u, gY_answer u, gY_collections u, gY_stayed u, gY_codes u, gY_links u, gY_result u, gY_up u, gY_ints u, gY_references u, gY_slots u, gY_first u, gY_ready u, gY_ops u, gY_args u, gY_length u, gY_from u, gY_to u, gY_goal u, gY_words u, gY_maps u, gY_coded u, gY_linked u, gY_heights u, gY_kinds u, gY_behind u, gY_of u, gY_fields u, gY_globals u, gY_marked u, gY_method u, gY_at u, w, gY_locals u, gY_stack u)
def sY_locals (w : Nat → Int32) (u : SY) : SY := (gY_fault u, gY_height u, gY_used u, gY_depth u, gY_room u, gY_steps u, gY_origin u, gY_answer u, gY_collections u, gY_stayed u, gY_codes u, gY_links u, gY_result u, gY_up u, gY_ints u, gY_references u, gY_slots u, gY_first u, gY_ready u, gY_ops u, gY_args u, gY_length u, gY_from u, gY_to u, gY_goal u, gY_words u, gY_maps u, gY_coded u, gY_linked u, gY_heights u, gY_kinds u, gY_behind u, gY_of u, gY_fields u, gY_globals u, gY_marked u, gY_method u, gY_at u, gY_high u, w, gY_stack u)
def sY_stack (w : Nat → Int32) (u : SY) : SY := (gY_fault u, gY_height u, gY_used u, gY_depth u, gY_room u, gY_steps u, gY_origin u, gY_answer u, gY_collections u, gY_stayed u, gY_codes u, gY_links u, gY_result u, gY_up u, gY_ints u, gY_references u, gY_slots u, gY_first u, gY_ready u, gY_ops u, gY_args u, gY_length u, gY_from u, gY_to u, gY_goal u, gY_words u, gY_maps u, gY_coded u, gY_linked u, gY_heights u, gY_kinds u, gY_behind u, gY_of u, gY_fields u, gY_globals u, gY_marked u, gY_method u, gY_at u, gY_high u, gY_locals u, w)
def sX_heapEnd_cells (w0 : Int32) (w1 : Nat → Int32) (u : SX) : SX := (gX_faultPlace u, w0, gX_frames u, gX_frameWordsUsed u, gX_wanted u, gX_outcome u, gX_lastResult u, gX_lastOrigin u, gX_done u, gX_collections u, gX_stayed u, gX_turnedCount u, gX_linkedCount u, gX_superOf u, gX_fieldCount u, gX_refFields u, gX_ownMethods u, gX_initialisers u, gX_ready u, gX_ops u, gX_operands u, gX_lengths u, gX_catchFrom u, gX_catchTo u, gX_catchGoal u, gX_refMaps u, gX_bodyHeights u, gX_frameWords u, gX_codeOps u, gX_codeCells u, gX_codeArgs u, gX_heights u, gX_intKinds u, gX_refKinds u, gX_heap u, gX_newPlaces u, gX_globals u, gX_frameMethod u, gX_framePlace u, w1)
def sX_frames_frameWordsUsed (w0 : Int32) (w1 : Int32) (u : SX) : SX := (gX_faultPlace u, gX_heapEnd u, w0, w1, gX_wanted u, gX_outcome u, gX_lastResult u, gX_lastOrigin u, gX_done u, gX_collections u, gX_stayed u, gX_turnedCount u, gX_linkedCount u, gX_superOf u, gX_fieldCount u, gX_refFields u, gX_ownMethods u, gX_initialisers u, gX_ready u, gX_ops u, gX_operands u, gX_lengths u, gX_catchFrom u, gX_catchTo u, gX_catchGoal u, gX_refMaps u, gX_bodyHeights u, gX_frameWords u, gX_codeOps u, gX_codeCells u, gX_codeArgs u, gX_heights u, gX_intKinds u, gX_refKinds u, gX_heap u, gX_newPlaces u, gX_globals u, gX_frameMethod u, gX_framePlace u, gX_cells u)
def sX_frames_frameWordsUsed_outcome_lastResult_lastOrigin (w0 : Int32) (w1 : Int32) (w2 : Int32) (w3 : Int64) (w4 : Int32) (u : SX) : SX := (gX_faultPlace u, gX_heapEnd u, w0, w1, gX_wanted u, w2, w3, w4, gX_done u, gX_collections u, gX_stayed u, gX_turnedCount u, gX_linkedCount u, gX_superOf u, gX_fieldCount u, gX_refFields u, gX_ownMethods u, gX_initialisers u, gX_ready u, gX_ops u, gX_operands u, gX_lengths u, gX_catchFrom u, gX_catchTo u, gX_catchGoal u, gX_refMaps u, gX_bodyHeights u, gX_frameWords u, gX_codeOps u, gX_codeCells u, gX_codeArgs u, gX_heights u, gX_intKinds u, gX_refKinds u, gX_heap u, gX_newPlaces u, gX_globals u, gX_frameMethod u, gX_framePlace u, gX_cells u)
def sX_frames_frameWordsUsed_frameMethod_framePlace (w0 : Int32) (w1 : Int32) (w2 : Nat → Int32) (w3 : Nat → Int32) (u : SX) : SX := (gX_faultPlace u, gX_heapEnd u, w0, w1, gX_wanted u, gX_outcome u, gX_lastResult u, gX_lastOrigin u, gX_done u, gX_collections u, gX_stayed u, gX_turnedCount u, gX_linkedCount u, gX_superOf u, gX_fieldCount u, gX_refFields u, gX_ownMethods u, gX_initialisers u, gX_ready u, gX_ops u, gX_operands u, gX_lengths u, gX_catchFrom u, gX_catchTo u, gX_catchGoal u, gX_refMaps u, gX_bodyHeights u, gX_frameWords u, gX_codeOps u, gX_codeCells u, gX_codeArgs u, gX_heights u, gX_intKinds u, gX_refKinds u, gX_heap u, gX_newPlaces u, gX_globals u, w2, w3, gX_cells u)
def sX_wanted_cells (w0 : Int32) (w1 : Nat → Int32) (u : SX) : SX := (gX_faultPlace u, gX_heapEnd u, gX_frames u, gX_frameWordsUsed u, w0, gX_outcome u, gX_lastResult u, gX_lastOrigin u, gX_done u, gX_collections u, gX_stayed u, gX_turnedCount u, gX_linkedCount u, gX_superOf u, gX_fieldCount u, gX_refFields u, gX_ownMethods u, gX_initialisers u, gX_ready u, gX_ops u, gX_operands u, gX_lengths u, gX_catchFrom u, gX_catchTo u, gX_catchGoal u, gX_refMaps u, gX_bodyHeights u, gX_frameWords u, gX_codeOps u, gX_codeCells u, gX_codeArgs u, gX_heights u, gX_intKinds u, gX_refKinds u, gX_heap u, gX_newPlaces u, gX_globals u, gX_frameMethod u, gX_framePlace u, w1)
def sX_outcome_lastResult (w0 : Int32) (w1 : Int64) (u : SX) : SX := (gX_faultPlace u, gX_heapEnd u, gX_frames u, gX_frameWordsUsed u, gX_wanted u, w0, w1, gX_lastOrigin u, gX_done u, gX_collections u, gX_stayed u, gX_turnedCount u, gX_linkedCount u, gX_superOf u, gX_fieldCount u, gX_refFields u, gX_ownMethods u, gX_initialisers u, gX_ready u, gX_ops u, gX_operands u, gX_lengths u, gX_catchFrom u, gX_catchTo u, gX_catchGoal u, gX_refMaps u, gX_bodyHeights u, gX_frameWords u, gX_codeOps u, gX_codeCells u, gX_codeArgs u, gX_heights u, gX_intKinds u, gX_refKinds u, gX_heap u, gX_newPlaces u, gX_globals u, gX_frameMethod u, gX_framePlace u, gX_cells u)
def sX_outcome_lastResult_lastOrigin (w0 : Int32) (w1 : Int64) (w2 : Int32) (u : SX) : SX := (gX_faultPlace u, gX_heapEnd u, gX_frames u, gX_frameWordsUsed u, gX_wanted u, w0, w1, w2, gX_done u, gX_collections u, gX_stayed u, gX_turnedCount u, gX_linkedCount u, gX_superOf u, gX_fieldCount u, gX_refFields u, gX_ownMethods u, gX_initialisers u, gX_ready u, gX_ops u, gX_operands u, gX_lengths u, gX_catchFrom u, gX_catchTo u, gX_catchGoal u, gX_refMaps u, gX_bodyHeights u, gX_frameWords u, gX_codeOps u, gX_codeCells u, gX_codeArgs u, gX_heights u, gX_intKinds u, gX_refKinds u, gX_heap u, gX_newPlaces u, gX_globals u, gX_frameMethod u, gX_framePlace u, gX_cells u)
def sX_outcome_lastResult_globals (w0 : Int32) (w1 : Int64) (w2 : Nat → Int32) (u : SX) : SX := (gX_faultPlace u, gX_heapEnd u, gX_frames u, gX_frameWordsUsed u, gX_wanted u, w0, w1, gX_lastOrigin u, gX_done u, gX_collections u, gX_stayed u, gX_turnedCount u, gX_linkedCount u, gX_superOf u, gX_fieldCount u, gX_refFields u, gX_ownMethods u, gX_initialisers u, gX_ready u, gX_ops u, gX_operands u, gX_lengths u, gX_catchFrom u, gX_catchTo u, gX_catchGoal u, gX_refMaps u, gX_bodyHeights u, gX_frameWords u, gX_codeOps u, gX_codeCells u, gX_codeArgs u, gX_heights u, gX_intKinds u, gX_refKinds u, gX_heap u, gX_newPlaces u, w2, gX_frameMethod u, gX_framePlace u, gX_cells u)
def sX_stayed_newPlaces (w0 : Int32) (w1 : Nat → Int32) (u : SX) : SX := (gX_faultPlace u, gX_heapEnd u, gX_frames u, gX_frameWordsUsed u, gX_wanted u, gX_outcome u, gX_lastResult u, gX_lastOrigin u, gX_done u, gX_collections u, w0, gX_turnedCount u, gX_linkedCount u, gX_superOf u, gX_fieldCount u, gX_refFields u, gX_ownMethods u, gX_initialisers u, gX_ready u, gX_ops u, gX_operands u, gX_lengths u, gX_catchFrom u, gX_catchTo u, gX_catchGoal u, gX_refMaps u, gX_bodyHeights u, gX_frameWords u, gX_codeOps u, gX_codeCells u, gX_codeArgs u, gX_heights u, gX_intKinds u, gX_refKinds u, gX_heap u, w1, gX_globals u, gX_frameMethod u, gX_framePlace u, gX_cells u)
def sX_linkedCount_codeOps (w0 : Int32) (w1 : Nat → Int32) (u : SX) : SX := (gX_faultPlace u, gX_heapEnd u, gX_frames u, gX_frameWordsUsed u, gX_wanted u, gX_outcome u, gX_lastResult u, gX_lastOrigin u, gX_done u, gX_collections u, gX_stayed u, gX_turnedCount u, w0, gX_superOf u, gX_fieldCount u, gX_refFields u, gX_ownMethods u, gX_initialisers u, gX_ready u, gX_ops u, gX_operands u, gX_lengths u, gX_catchFrom u, gX_catchTo u, gX_catchGoal u, gX_refMaps u, gX_bodyHeights u, gX_frameWords u, w1, gX_codeCells u, gX_codeArgs u, gX_heights u, gX_intKinds u, gX_refKinds u, gX_heap u, gX_newPlaces u, gX_globals u, gX_frameMethod u, gX_framePlace u, gX_cells u)
def sX_superOf_fieldCount_refFields (w0 : Nat → Int32) (w1 : Nat → Int32) (w2 : Nat → Int32) (u : SX) : SX := (gX_faultPlace u, gX_heapEnd u, gX_frames u, gX_frameWordsUsed u, gX_wanted u, gX_outcome u, gX_lastResult u, gX_lastOrigin u, gX_done u, gX_collections u, gX_stayed u, gX_turnedCount u, gX_linkedCount u, w0, w1, w2, gX_ownMethods u, gX_initialisers u, gX_ready u, gX_ops u, gX_operands u, gX_lengths u, gX_catchFrom u, gX_catchTo u, gX_catchGoal u, gX_refMaps u, gX_bodyHeights u, gX_frameWords u, gX_codeOps u, gX_codeCells u, gX_codeArgs u, gX_heights u, gX_intKinds u, gX_refKinds u, gX_heap u, gX_newPlaces u, gX_globals u, gX_frameMethod u, gX_framePlace u, gX_cells u)
def sX_superOf_initialisers (w0 : Nat → Int32) (w1 : Nat → Int32) (u : SX) : SX := (gX_faultPlace u, gX_heapEnd u, gX_frames u, gX_frameWordsUsed u, gX_wanted u, gX_outcome u, gX_lastResult u, gX_lastOrigin u, gX_done u, gX_collections u, gX_stayed u, gX_turnedCount u, gX_linkedCount u, w0, gX_fieldCount u, gX_refFields u, gX_ownMethods u, w1, gX_ready u, gX_ops u, gX_operands u, gX_lengths u, gX_catchFrom u, gX_catchTo u, gX_catchGoal u, gX_refMaps u, gX_bodyHeights u, gX_frameWords u, gX_codeOps u, gX_codeCells u, gX_codeArgs u, gX_heights u, gX_intKinds u, gX_refKinds u, gX_heap u, gX_newPlaces u, gX_globals u, gX_frameMethod u, gX_framePlace u, gX_cells u)
def sX_ops_operands (w0 : Nat → Int32) (w1 : Nat → Int32) (u : SX) : SX := (gX_faultPlace u, gX_heapEnd u, gX_frames u, gX_frameWordsUsed u, gX_wanted u, gX_outcome u, gX_lastResult u, gX_lastOrigin u, gX_done u, gX_collections u, gX_stayed u, gX_turnedCount u, gX_linkedCount u, gX_superOf u, gX_fieldCount u, gX_refFields u, gX_ownMethods u, gX_initialisers u, gX_ready u, w0, w1, gX_lengths u, gX_catchFrom u, gX_catchTo u, gX_catchGoal u, gX_refMaps u, gX_bodyHeights u, gX_frameWords u, gX_codeOps u, gX_codeCells u, gX_codeArgs u, gX_heights u, gX_intKinds u, gX_refKinds u, gX_heap u, gX_newPlaces u, gX_globals u, gX_frameMethod u, gX_framePlace u, gX_cells u)
def sX_ops_operands_lengths (w0 : Nat → Int32) (w1 : Nat → Int32) (w2 : Nat → Int32) (u : SX) : SX := (gX_faultPlace u, gX_heapEnd u, gX_frames u, gX_frameWordsUsed u, gX_wanted u, gX_outcome u, gX_lastResult u, gX_lastOrigin u, gX_done u, gX_collections u, gX_stayed u, gX_turnedCount u, gX_linkedCount u, gX_superOf u, gX_fieldCount u, gX_refFields u, gX_ownMethods u, gX_initialisers u, gX_ready u, w0, w1, w2, gX_catchFrom u, gX_catchTo u, gX_catchGoal u, gX_refMaps u, gX_bodyHeights u, gX_frameWords u, gX_codeOps u, gX_codeCells u, gX_codeArgs u, gX_heights u, gX_intKinds u, gX_refKinds u, gX_heap u, gX_newPlaces u, gX_globals u, gX_frameMethod u, gX_framePlace u, gX_cells u)
def sX_lengths_catchFrom_catchTo_catchGoal (w0 : Nat → Int32) (w1 : Nat → Int32) (w2 : Nat → Int32) (w3 : Nat → Int32) (u : SX) : SX := (gX_faultPlace u, gX_heapEnd u, gX_frames u, gX_frameWordsUsed u, gX_wanted u, gX_outcome u, gX_lastResult u, gX_lastOrigin u, gX_done u, gX_collections u, gX_stayed u, gX_turnedCount u, gX_linkedCount u, gX_superOf u, gX_fieldCount u, gX_refFields u, gX_ownMethods u, gX_initialisers u, gX_ready u, gX_ops u, gX_operands u, w0, w1, w2, w3, gX_refMaps u, gX_bodyHeights u, gX_frameWords u, gX_codeOps u, gX_codeCells u, gX_codeArgs u, gX_heights u, gX_intKinds u, gX_refKinds u, gX_heap u, gX_newPlaces u, gX_globals u, gX_frameMethod u, gX_framePlace u, gX_cells u)
def sX_lengths_catchFrom_catchTo_catchGoal_frameWords (w0 : Nat → Int32) (w1 : Nat → Int32) (w2 : Nat → Int32) (w3 : Nat → Int32) (w4 : Nat → Int32) (u : SX) : SX := (gX_faultPlace u, gX_heapEnd u, gX_frames u, gX_frameWordsUsed u, gX_wanted u, gX_outcome u, gX_lastResult u, gX_lastOrigin u, gX_done u, gX_collections u, gX_stayed u, gX_turnedCount u, gX_linkedCount u, gX_superOf u, gX_fieldCount u, gX_refFields u, gX_ownMethods u, gX_initialisers u, gX_ready u, gX_ops u, gX_operands u, w0, w1, w2, w3, gX_refMaps u, gX_bodyHeights u, w4, gX_codeOps u, gX_codeCells u, gX_codeArgs u, gX_heights u, gX_intKinds u, gX_refKinds u, gX_heap u, gX_newPlaces u, gX_globals u, gX_frameMethod u, gX_framePlace u, gX_cells u)
def sX_catchFrom_catchTo_catchGoal (w0 : Nat → Int32) (w1 : Nat → Int32) (w2 : Nat → Int32) (u : SX) : SX := (gX_faultPlace u, gX_heapEnd u, gX_frames u, gX_frameWordsUsed u, gX_wanted u, gX_outcome u, gX_lastResult u, gX_lastOrigin u, gX_done u, gX_collections u, gX_stayed u, gX_turnedCount u, gX_linkedCount u, gX_superOf u, gX_fieldCount u, gX_refFields u, gX_ownMethods u, gX_initialisers u, gX_ready u, gX_ops u, gX_operands u, gX_lengths u, w0, w1, w2, gX_refMaps u, gX_bodyHeights u, gX_frameWords u, gX_codeOps u, gX_codeCells u, gX_codeArgs u, gX_heights u, gX_intKinds u, gX_refKinds u, gX_heap u, gX_newPlaces u, gX_globals u, gX_frameMethod u, gX_framePlace u, gX_cells u)
def sX_refMaps_bodyHeights (w0 : Nat → Int32) (w1 : Nat → Int32) (u : SX) : SX := (gX_faultPlace u, gX_heapEnd u, gX_frames u, gX_frameWordsUsed u, gX_wanted u, gX_outcome u, gX_lastResult u, gX_lastOrigin u, gX_done u, gX_collections u, gX_stayed u, gX_turnedCount u, gX_linkedCount u, gX_superOf u, gX_fieldCount u, gX_refFields u, gX_ownMethods u, gX_initialisers u, gX_ready u, gX_ops u, gX_operands u, gX_lengths u, gX_catchFrom u, gX_catchTo u, gX_catchGoal u, w0, w1, gX_frameWords u, gX_codeOps u, gX_codeCells u, gX_codeArgs u, gX_heights u, gX_intKinds u, gX_refKinds u, gX_heap u, gX_newPlaces u, gX_globals u, gX_frameMethod u, gX_framePlace u, gX_cells u)
def sX_codeOps_codeCells_codeArgs (w0 : Nat → Int32) (w1 : Nat → Int32) (w2 : Nat → Int32) (u : SX) : SX := (gX_faultPlace u, gX_heapEnd u, gX_frames u, gX_frameWordsUsed u, gX_wanted u, gX_outcome u, gX_lastResult u, gX_lastOrigin u, gX_done u, gX_collections u, gX_stayed u, gX_turnedCount u, gX_linkedCount u, gX_superOf u, gX_fieldCount u, gX_refFields u, gX_ownMethods u, gX_initialisers u, gX_ready u, gX_ops u, gX_operands u, gX_lengths u, gX_catchFrom u, gX_catchTo u, gX_catchGoal u, gX_refMaps u, gX_bodyHeights u, gX_frameWords u, w0, w1, w2, gX_heights u, gX_intKinds u, gX_refKinds u, gX_heap u, gX_newPlaces u, gX_globals u, gX_frameMethod u, gX_framePlace u, gX_cells u)
def sX_intKinds_refKinds (w0 : Nat → Int32) (w1 : Nat → Int32) (u : SX) : SX := (gX_faultPlace u, gX_heapEnd u, gX_frames u, gX_frameWordsUsed u, gX_wanted u, gX_outcome u, gX_lastResult u, gX_lastOrigin u, gX_done u, gX_collections u, gX_stayed u, gX_turnedCount u, gX_linkedCount u, gX_superOf u, gX_fieldCount u, gX_refFields u, gX_ownMethods u, gX_initialisers u, gX_ready u, gX_ops u, gX_operands u, gX_lengths u, gX_catchFrom u, gX_catchTo u, gX_catchGoal u, gX_refMaps u, gX_bodyHeights u, gX_frameWords u, gX_codeOps u, gX_codeCells u, gX_codeArgs u, gX_heights u, w0, w1, gX_heap u, gX_newPlaces u, gX_globals u, gX_frameMethod u, gX_framePlace u, gX_cells u)
def sX_framePlace_cells (w0 : Nat → Int32) (w1 : Nat → Int32) (u : SX) : SX := (gX_faultPlace u, gX_heapEnd u, gX_frames u, gX_frameWordsUsed u, gX_wanted u, gX_outcome u, gX_lastResult u, gX_lastOrigin u, gX_done u, gX_collections u, gX_stayed u, gX_turnedCount u, gX_linkedCount u, gX_superOf u, gX_fieldCount u, gX_refFields u, gX_ownMethods u, gX_initialisers u, gX_ready u, gX_ops u, gX_operands u, gX_lengths u, gX_catchFrom u, gX_catchTo u, gX_catchGoal u, gX_refMaps u, gX_bodyHeights u, gX_frameWords u, gX_codeOps u, gX_codeCells u, gX_codeArgs u, gX_heights u, gX_intKinds u, gX_refKinds u, gX_heap u, gX_newPlaces u, gX_globals u, gX_frameMethod u, w0, w1)
def sY_height_behind (w0 : Int32) (w1 : Nat → Int32) (u : SY) : SY := (gY_fault u, w0, gY_used u, gY_depth u, gY_room u, gY_steps u, gY_origin u, gY_answer u, gY_collections u, gY_stayed u, gY_codes u, gY_links u, gY_result u, gY_up u, gY_ints u, gY_references u, gY_slots u, gY_first u, gY_ready u, gY_ops u, gY_args u, gY_length u, gY_from u, gY_to u, gY_goal u, gY_words u, gY_maps u, gY_coded u, gY_linked u, gY_heights u, gY_kinds u, w1, gY_of u, gY_fields u, gY_globals u, gY_marked u, gY_method u, gY_at u, gY_high u, gY_locals u, gY_stack u)
def sY_used_collections (w0 : Int32) (w1 : Int32) (u : SY) : SY := (gY_fault u, gY_height u, w0, gY_depth u, gY_room u, gY_steps u, gY_origin u, gY_answer u, w1, gY_stayed u, gY_codes u, gY_links u, gY_result u, gY_up u, gY_ints u, gY_references u, gY_slots u, gY_first u, gY_ready u, gY_ops u, gY_args u, gY_length u, gY_from u, gY_to u, gY_goal u, gY_words u, gY_maps u, gY_coded u, gY_linked u, gY_heights u, gY_kinds u, gY_behind u, gY_of u, gY_fields u, gY_globals u, gY_marked u, gY_method u, gY_at u, gY_high u, gY_locals u, gY_stack u)
def sY_used_stayed (w0 : Int32) (w1 : Int32) (u : SY) : SY := (gY_fault u, gY_height u, w0, gY_depth u, gY_room u, gY_steps u, gY_origin u, gY_answer u, gY_collections u, w1, gY_codes u, gY_links u, gY_result u, gY_up u, gY_ints u, gY_references u, gY_slots u, gY_first u, gY_ready u, gY_ops u, gY_args u, gY_length u, gY_from u, gY_to u, gY_goal u, gY_words u, gY_maps u, gY_coded u, gY_linked u, gY_heights u, gY_kinds u, gY_behind u, gY_of u, gY_fields u, gY_globals u, gY_marked u, gY_method u, gY_at u, gY_high u, gY_locals u, gY_stack u)
def sY_used_of (w0 : Int32) (w1 : Nat → Int32) (u : SY) : SY := (gY_fault u, gY_height u, w0, gY_depth u, gY_room u, gY_steps u, gY_origin u, gY_answer u, gY_collections u, gY_stayed u, gY_codes u, gY_links u, gY_result u, gY_up u, gY_ints u, gY_references u, gY_slots u, gY_first u, gY_ready u, gY_ops u, gY_args u, gY_length u, gY_from u, gY_to u, gY_goal u, gY_words u, gY_maps u, gY_coded u, gY_linked u, gY_heights u, gY_kinds u, gY_behind u, w1, gY_fields u, gY_globals u, gY_marked u, gY_method u, gY_at u, gY_high u, gY_locals u, gY_stack u)
def sY_depth_room (w0 : Int32) (w1 : Int32) (u : SY) : SY := (gY_fault u, gY_height u, gY_used u, w0, w1, gY_steps u, gY_origin u, gY_answer u, gY_collections u, gY_stayed u, gY_codes u, gY_links u, gY_result u, gY_up u, gY_ints u, gY_references u, gY_slots u, gY_first u, gY_ready u, gY_ops u, gY_args u, gY_length u, gY_from u, gY_to u, gY_goal u, gY_words u, gY_maps u, gY_coded u, gY_linked u, gY_heights u, gY_kinds u, gY_behind u, gY_of u, gY_fields u, gY_globals u, gY_marked u, gY_method u, gY_at u, gY_high u, gY_locals u, gY_stack u)
def sY_depth_room_steps_answer_result (w0 : Int32) (w1 : Int32) (w2 : Int32) (w3 : Int32) (w4 : Int64) (u : SY) : SY := (gY_fault u, gY_height u, gY_used u, w0, w1, w2, gY_origin u, w3, gY_collections u, gY_stayed u, gY_codes u, gY_links u, w4, gY_up u, gY_ints u, gY_references u, gY_slots u, gY_first u, gY_ready u, gY_ops u, gY_args u, gY_length u, gY_from u, gY_to u, gY_goal u, gY_words u, gY_maps u, gY_coded u, gY_linked u, gY_heights u, gY_kinds u, gY_behind u, gY_of u, gY_fields u, gY_globals u, gY_marked u, gY_method u, gY_at u, gY_high u, gY_locals u, gY_stack u)
def sY_depth_room_coded_method_at_high (w0 : Int32) (w1 : Int32) (w2 : Nat → Int32) (w3 : Nat → Int32) (w4 : Nat → Int32) (w5 : Nat → Int32) (u : SY) : SY := (gY_fault u, gY_height u, gY_used u, w0, w1, gY_steps u, gY_origin u, gY_answer u, gY_collections u, gY_stayed u, gY_codes u, gY_links u, gY_result u, gY_up u, gY_ints u, gY_references u, gY_slots u, gY_first u, gY_ready u, gY_ops u, gY_args u, gY_length u, gY_from u, gY_to u, gY_goal u, gY_words u, gY_maps u, w2, gY_linked u, gY_heights u, gY_kinds u, gY_behind u, gY_of u, gY_fields u, gY_globals u, gY_marked u, w3, w4, w5, gY_locals u, gY_stack u)
def sY_depth_origin (w0 : Int32) (w1 : Int32) (u : SY) : SY := (gY_fault u, gY_height u, gY_used u, w0, gY_room u, gY_steps u, w1, gY_answer u, gY_collections u, gY_stayed u, gY_codes u, gY_links u, gY_result u, gY_up u, gY_ints u, gY_references u, gY_slots u, gY_first u, gY_ready u, gY_ops u, gY_args u, gY_length u, gY_from u, gY_to u, gY_goal u, gY_words u, gY_maps u, gY_coded u, gY_linked u, gY_heights u, gY_kinds u, gY_behind u, gY_of u, gY_fields u, gY_globals u, gY_marked u, gY_method u, gY_at u, gY_high u, gY_locals u, gY_stack u)
def sY_answer_result (w0 : Int32) (w1 : Int64) (u : SY) : SY := (gY_fault u, gY_height u, gY_used u, gY_depth u, gY_room u, gY_steps u, gY_origin u, w0, gY_collections u, gY_stayed u, gY_codes u, gY_links u, w1, gY_up u, gY_ints u, gY_references u, gY_slots u, gY_first u, gY_ready u, gY_ops u, gY_args u, gY_length u, gY_from u, gY_to u, gY_goal u, gY_words u, gY_maps u, gY_coded u, gY_linked u, gY_heights u, gY_kinds u, gY_behind u, gY_of u, gY_fields u, gY_globals u, gY_marked u, gY_method u, gY_at u, gY_high u, gY_locals u, gY_stack u)
def sY_answer_result_globals (w0 : Int32) (w1 : Int64) (w2 : Nat → Int32) (u : SY) : SY := (gY_fault u, gY_height u, gY_used u, gY_depth u, gY_room u, gY_steps u, gY_origin u, w0, gY_collections u, gY_stayed u, gY_codes u, gY_links u, w1, gY_up u, gY_ints u, gY_references u, gY_slots u, gY_first u, gY_ready u, gY_ops u, gY_args u, gY_length u, gY_from u, gY_to u, gY_goal u, gY_words u, gY_maps u, gY_coded u, gY_linked u, gY_heights u, gY_kinds u, gY_behind u, gY_of u, gY_fields u, w2, gY_marked u, gY_method u, gY_at u, gY_high u, gY_locals u, gY_stack u)
def sY_up_ints_references (w0 : Nat → Int32) (w1 : Nat → Int32) (w2 : Nat → Int32) (u : SY) : SY := (gY_fault u, gY_height u, gY_used u, gY_depth u, gY_room u, gY_steps u, gY_origin u, gY_answer u, gY_collections u, gY_stayed u, gY_codes u, gY_links u, gY_result u, w0, w1, w2, gY_slots u, gY_first u, gY_ready u, gY_ops u, gY_args u, gY_length u, gY_from u, gY_to u, gY_goal u, gY_words u, gY_maps u, gY_coded u, gY_linked u, gY_heights u, gY_kinds u, gY_behind u, gY_of u, gY_fields u, gY_globals u, gY_marked u, gY_method u, gY_at u, gY_high u, gY_locals u, gY_stack u)
def sY_up_first (w0 : Nat → Int32) (w1 : Nat → Int32) (u : SY) : SY := (gY_fault u, gY_height u, gY_used u, gY_depth u, gY_room u, gY_steps u, gY_origin u, gY_answer u, gY_collections u, gY_stayed u, gY_codes u, gY_links u, gY_result u, w0, gY_ints u, gY_references u, gY_slots u, w1, gY_ready u, gY_ops u, gY_args u, gY_length u, gY_from u, gY_to u, gY_goal u, gY_words u, gY_maps u, gY_coded u, gY_linked u, gY_heights u, gY_kinds u, gY_behind u, gY_of u, gY_fields u, gY_globals u, gY_marked u, gY_method u, gY_at u, gY_high u, gY_locals u, gY_stack u)
def sY_ops_args_length (w0 : Nat → Int32) (w1 : Nat → Int32) (w2 : Nat → Int32) (u : SY) : SY := (gY_fault u, gY_height u, gY_used u, gY_depth u, gY_room u, gY_steps u, gY_origin u, gY_answer u, gY_collections u, gY_stayed u, gY_codes u, gY_links u, gY_result u, gY_up u, gY_ints u, gY_references u, gY_slots u, gY_first u, gY_ready u, w0, w1, w2, gY_from u, gY_to u, gY_goal u, gY_words u, gY_maps u, gY_coded u, gY_linked u, gY_heights u, gY_kinds u, gY_behind u, gY_of u, gY_fields u, gY_globals u, gY_marked u, gY_method u, gY_at u, gY_high u, gY_locals u, gY_stack u)
def sY_ops_args_maps (w0 : Nat → Int32) (w1 : Nat → Int32) (w2 : Nat → Int32) (u : SY) : SY := (gY_fault u, gY_height u, gY_used u, gY_depth u, gY_room u, gY_steps u, gY_origin u, gY_answer u, gY_collections u, gY_stayed u, gY_codes u, gY_links u, gY_result u, gY_up u, gY_ints u, gY_references u, gY_slots u, gY_first u, gY_ready u, w0, w1, gY_length u, gY_from u, gY_to u, gY_goal u, gY_words u, w2, gY_coded u, gY_linked u, gY_heights u, gY_kinds u, gY_behind u, gY_of u, gY_fields u, gY_globals u, gY_marked u, gY_method u, gY_at u, gY_high u, gY_locals u, gY_stack u)
def sY_length_from_to (w0 : Nat → Int32) (w1 : Nat → Int32) (w2 : Nat → Int32) (u : SY) : SY := (gY_fault u, gY_height u, gY_used u, gY_depth u, gY_room u, gY_steps u, gY_origin u, gY_answer u, gY_collections u, gY_stayed u, gY_codes u, gY_links u, gY_result u, gY_up u, gY_ints u, gY_references u, gY_slots u, gY_first u, gY_ready u, gY_ops u, gY_args u, w0, w1, w2, gY_goal u, gY_words u, gY_maps u, gY_coded u, gY_linked u, gY_heights u, gY_kinds u, gY_behind u, gY_of u, gY_fields u, gY_globals u, gY_marked u, gY_method u, gY_at u, gY_high u, gY_locals u, gY_stack u)
def sY_length_from_to_goal_words_coded (w0 : Nat → Int32) (w1 : Nat → Int32) (w2 : Nat → Int32) (w3 : Nat → Int32) (w4 : Nat → Int32) (w5 : Nat → Int32) (u : SY) : SY := (gY_fault u, gY_height u, gY_used u, gY_depth u, gY_room u, gY_steps u, gY_origin u, gY_answer u, gY_collections u, gY_stayed u, gY_codes u, gY_links u, gY_result u, gY_up u, gY_ints u, gY_references u, gY_slots u, gY_first u, gY_ready u, gY_ops u, gY_args u, w0, w1, w2, w3, w4, gY_maps u, w5, gY_linked u, gY_heights u, gY_kinds u, gY_behind u, gY_of u, gY_fields u, gY_globals u, gY_marked u, gY_method u, gY_at u, gY_high u, gY_locals u, gY_stack u)
def sY_from_to_goal (w0 : Nat → Int32) (w1 : Nat → Int32) (w2 : Nat → Int32) (u : SY) : SY := (gY_fault u, gY_height u, gY_used u, gY_depth u, gY_room u, gY_steps u, gY_origin u, gY_answer u, gY_collections u, gY_stayed u, gY_codes u, gY_links u, gY_result u, gY_up u, gY_ints u, gY_references u, gY_slots u, gY_first u, gY_ready u, gY_ops u, gY_args u, gY_length u, w0, w1, w2, gY_words u, gY_maps u, gY_coded u, gY_linked u, gY_heights u, gY_kinds u, gY_behind u, gY_of u, gY_fields u, gY_globals u, gY_marked u, gY_method u, gY_at u, gY_high u, gY_locals u, gY_stack u)
def sY_at_high_stack (w0 : Nat → Int32) (w1 : Nat → Int32) (w2 : Nat → Int32) (u : SY) : SY := (gY_fault u, gY_height u, gY_used u, gY_depth u, gY_room u, gY_steps u, gY_origin u, gY_answer u, gY_collections u, gY_stayed u, gY_codes u, gY_links u, gY_result u, gY_up u, gY_ints u, gY_references u, gY_slots u, gY_first u, gY_ready u, gY_ops u, gY_args u, gY_length u, gY_from u, gY_to u, gY_goal u, gY_words u, gY_maps u, gY_coded u, gY_linked u, gY_heights u, gY_kinds u, gY_behind u, gY_of u, gY_fields u, gY_globals u, gY_marked u, gY_method u, w0, w1, gY_locals u, w2)
def sY_high_stack (w0 : Nat → Int32) (w1 : Nat → Int32) (u : SY) : SY := (gY_fault u, gY_height u, gY_used u, gY_depth u, gY_room u, gY_steps u, gY_origin u, gY_answer u, gY_collections u, gY_stayed u, gY_codes u, gY_links u, gY_result u, gY_up u, gY_ints u, gY_references u, gY_slots u, gY_first u, gY_ready u, gY_ops u, gY_args u, gY_length u, gY_from u, gY_to u, gY_goal u, gY_words u, gY_maps u, gY_coded u, gY_linked u, gY_heights u, gY_kinds u, gY_behind u, gY_of u, gY_fields u, gY_globals u, gY_marked u, gY_method u, gY_at u, w0, gY_locals u, w1)
end
section
def kX_init_319 (post : SX → Prop) (n : Nat) (x1 : Int32) (u : SX) : Prop := wX_init_319 post (gX_faultPlace u) (gX_heapEnd u) (gX_frames u) (gX_frameWordsUsed u) (gX_wanted u) (gX_outcome u) (gX_lastResult u) (gX_lastOrigin u) (gX_done u) (gX_collections u) (gX_stayed u) (gX_turnedCount u) (gX_linkedCount u) n x1 (gX_superOf u) (gX_fieldCount u) (gX_refFields u) (gX_ownMethods u) (gX_initialisers u) (gX_ready u) (gX_ops u) (gX_operands u) (gX_lengths u) (gX_catchFrom u) (gX_catchTo u) (gX_catchGoal u) (gX_refMaps u) (gX_bodyHeights u) (gX_frameWords u) (gX_codeOps u) (gX_codeCells u) (gX_codeArgs u) (gX_heights u) (gX_intKinds u) (gX_refKinds u) (gX_heap u) (gX_newPlaces u) (gX_globals u) (gX_frameMethod u) (gX_framePlace u) (gX_cells u)
theorem uX_init_319 {post : SX → Prop} {n : Nat} {x1 : Int32} {u : SX} (h : ((16 ≤ x1 → (post u)) ∧ (¬ 16 ≤ x1 → (vp_in x1 16 ∧ ∀ a_ownMethods_4 : Nat → Int32 , a_ownMethods_4 = upd (gX_ownMethods u) x1.toNatClampNeg (- 1) → (∀ x1_5 : Int32 , x1_5 = x1 + 1 → (kX_init_319 post n x1_5 (sX_ownMethods a_ownMethods_4 u))))))) : kX_init_319 post (n + 1) x1 u := h
def kX_init_291 (post : SX → Prop) (n : Nat) (x1 : Int32) (u : SX) : Prop := wX_init_291 post (gX_faultPlace u) (gX_heapEnd u) (gX_frames u) (gX_frameWordsUsed u) (gX_wanted u) (gX_outcome u) (gX_lastResult u) (gX_lastOrigin u) (gX_done u) (gX_collections u) (gX_stayed u) (gX_turnedCount u) (gX_linkedCount u) n x1 (gX_superOf u) (gX_fieldCount u) (gX_refFields u) (gX_ownMethods u) (gX_initialisers u) (gX_ready u) (gX_ops u) (gX_operands u) (gX_lengths u) (gX_catchFrom u) (gX_catchTo u) (gX_catchGoal u) (gX_refMaps u) (gX_bodyHeights u) (gX_frameWords u) (gX_codeOps u) (gX_codeCells u) (gX_codeArgs u) (gX_heights u) (gX_intKinds u) (gX_refKinds u) (gX_heap u) (gX_newPlaces u) (gX_globals u) (gX_frameMethod u) (gX_framePlace u) (gX_cells u)
theorem uX_init_291 {post : SX → Prop} {n : Nat} {x1 : Int32} {u : SX} (h : ((4 ≤ x1 → (∃ n319 : Nat , kX_init_319 post n319 0 u)) ∧ (¬ 4 ≤ x1 → (vp_in x1 4 ∧ ∀ a_superOf_7 : Nat → Int32 , a_superOf_7 = upd (gX_superOf u) x1.toNatClampNeg (- 2) → (vp_in x1 4 ∧ ∀ a_initialisers_9 : Nat → Int32 , a_initialisers_9 = upd (gX_initialisers u) x1.toNatClampNeg (- 1) → (∀ x1_10 : Int32 , x1_10 = x1 + 1 → (kX_init_291 post n x1_10 (sX_superOf_initialisers a_superOf_7 a_initialisers_9 u)))))))) : kX_init_291 post (n + 1) x1 u := h
theorem upX_isClass {post : Int32 → Prop} {u : SX} {p0 : Int32} (h : ((p0 < 0 → (post 0)) ∧ (¬ p0 < 0 → (((4 ≤ p0 → (post 0)) ∧ (¬ 4 ≤ p0 → (vp_in p0 4 ∧ (((((gX_superOf u) p0.toNatClampNeg) = (- 2) → (post 0)) ∧ (¬ ((gX_superOf u) p0.toNatClampNeg) = (- 2) → (post 1))))))))))) : wpX_isClass post u p0 := h
def kX_cls_88 (post : Int32 → SX → Prop) (x1 : Int32) (x2 : Int32) (x3 : Int32) (x4 : Int32) (x5 : Int32) (z0 : Int32)  (u : SX) : Prop := wX_cls_88 post x1 x2 x3 x4 x5 z0 (gX_faultPlace u) (gX_heapEnd u) (gX_frames u) (gX_frameWordsUsed u) (gX_wanted u) (gX_outcome u) (gX_lastResult u) (gX_lastOrigin u) (gX_done u) (gX_collections u) (gX_stayed u) (gX_turnedCount u) (gX_linkedCount u) (gX_superOf u) (gX_fieldCount u) (gX_refFields u) (gX_ownMethods u) (gX_initialisers u) (gX_ready u) (gX_ops u) (gX_operands u) (gX_lengths u) (gX_catchFrom u) (gX_catchTo u) (gX_catchGoal u) (gX_refMaps u) (gX_bodyHeights u) (gX_frameWords u) (gX_codeOps u) (gX_codeCells u) (gX_codeArgs u) (gX_heights u) (gX_intKinds u) (gX_refKinds u) (gX_heap u) (gX_newPlaces u) (gX_globals u) (gX_frameMethod u) (gX_framePlace u) (gX_cells u)
theorem uX_cls_88 {post : Int32 → SX → Prop} {x1 : Int32} {x2 : Int32} {x3 : Int32} {x4 : Int32} {x5 : Int32} {z0 : Int32}  {u : SX} (h : vp_in x1 4 ∧ ∀ a_superOf_55 : Nat → Int32 , a_superOf_55 = upd (gX_superOf u) x1.toNatClampNeg x2 → (vp_in x1 4 ∧ ∀ a_fieldCount_57 : Nat → Int32 , a_fieldCount_57 = upd (gX_fieldCount u) x1.toNatClampNeg ((x5 + x3) + x4) → (vp_in x1 4 ∧ ∀ a_refFields_59 : Nat → Int32 , a_refFields_59 = upd (gX_refFields u) x1.toNatClampNeg (z0 ||| ((((1 : Int32) <<< (x4 &&& 31)) - 1) <<< ((x5 + x3) &&& 31))) → (post 1 (sX_superOf_fieldCount_refFields a_superOf_55 a_fieldCount_57 a_refFields_59 u))))) : kX_cls_88 post x1 x2 x3 x4 x5 z0 u := h
def kX_cls_71 (post : Int32 → SX → Prop) (x1 : Int32) (x2 : Int32) (x3 : Int32) (x4 : Int32) (z0 : Int32)  (u : SX) : Prop := wX_cls_71 post x1 x2 x3 x4 z0 (gX_faultPlace u) (gX_heapEnd u) (gX_frames u) (gX_frameWordsUsed u) (gX_wanted u) (gX_outcome u) (gX_lastResult u) (gX_lastOrigin u) (gX_done u) (gX_collections u) (gX_stayed u) (gX_turnedCount u) (gX_linkedCount u) (gX_superOf u) (gX_fieldCount u) (gX_refFields u) (gX_ownMethods u) (gX_initialisers u) (gX_ready u) (gX_ops u) (gX_operands u) (gX_lengths u) (gX_catchFrom u) (gX_catchTo u) (gX_catchGoal u) (gX_refMaps u) (gX_bodyHeights u) (gX_frameWords u) (gX_codeOps u) (gX_codeCells u) (gX_codeArgs u) (gX_heights u) (gX_intKinds u) (gX_refKinds u) (gX_heap u) (gX_newPlaces u) (gX_globals u) (gX_frameMethod u) (gX_framePlace u) (gX_cells u)
theorem uX_cls_71 {post : Int32 → SX → Prop} {x1 : Int32} {x2 : Int32} {x3 : Int32} {x4 : Int32} {z0 : Int32}  {u : SX} (h : ((x2 = (- 1) → (kX_cls_88 post x1 x2 x3 x4 z0 0 u)) ∧ (¬ x2 = (- 1) → (vp_in x2 4 ∧ (kX_cls_88 post x1 x2 x3 x4 z0 ((gX_refFields u) x2.toNatClampNeg) u))))) : kX_cls_71 post x1 x2 x3 x4 z0 u := h
def kX_cls_34 (post : Int32 → SX → Prop) (x1 : Int32) (x2 : Int32) (x3 : Int32) (x4 : Int32)  (u : SX) : Prop := wX_cls_34 post x1 x2 x3 x4 (gX_faultPlace u) (gX_heapEnd u) (gX_frames u) (gX_frameWordsUsed u) (gX_wanted u) (gX_outcome u) (gX_lastResult u) (gX_lastOrigin u) (gX_done u) (gX_collections u) (gX_stayed u) (gX_turnedCount u) (gX_linkedCount u) (gX_superOf u) (gX_fieldCount u) (gX_refFields u) (gX_ownMethods u) (gX_initialisers u) (gX_ready u) (gX_ops u) (gX_operands u) (gX_lengths u) (gX_catchFrom u) (gX_catchTo u) (gX_catchGoal u) (gX_refMaps u) (gX_bodyHeights u) (gX_frameWords u) (gX_codeOps u) (gX_codeCells u) (gX_codeArgs u) (gX_heights u) (gX_intKinds u) (gX_refKinds u) (gX_heap u) (gX_newPlaces u) (gX_globals u) (gX_frameMethod u) (gX_framePlace u) (gX_cells u)
theorem uX_cls_34 {post : Int32 → SX → Prop} {x1 : Int32} {x2 : Int32} {x3 : Int32} {x4 : Int32}  {u : SX} (h : ((x3 < 0 → (post 0 u)) ∧ (¬ x3 < 0 → (((2 < x3 → (post 0 u)) ∧ (¬ 2 < x3 → (((x4 < 0 → (post 0 u)) ∧ (¬ x4 < 0 → (((x4 ≤ 2 → (((x2 = (- 1) → (kX_cls_71 post x1 x2 x3 x4 0 u)) ∧ (¬ x2 = (- 1) → (vp_in x2 4 ∧ (kX_cls_71 post x1 x2 x3 x4 ((gX_fieldCount u) x2.toNatClampNeg) u)))))) ∧ (¬ x4 ≤ 2 → (post 0 u))))))))))))) : kX_cls_34 post x1 x2 x3 x4 u := h
theorem upX_cls {post : Int32 → SX → Prop} {u : SX} {p0 : Int32} {p1 : Int32} {p2 : Int32} {p3 : Int32} (h : ((p0 < 0 → (post 0 u)) ∧ (¬ p0 < 0 → (((4 ≤ p0 → (post 0 u)) ∧ (¬ 4 ≤ p0 → (wpX_isClass (fun r_3 => (((r_3 = 0 → (((p1 = (- 1) → (kX_cls_34 post p0 p1 p2 p3 u)) ∧ (¬ p1 = (- 1) → (wpX_isClass (fun r_60 => (((r_60 = 0 → (post 0 u)) ∧ (¬ r_60 = 0 → (kX_cls_34 post p0 p1 p2 p3 u))))) u p1))))) ∧ (¬ r_3 = 0 → (post 0 u))))) u p0))))))) : wpX_cls post u p0 p1 p2 p3 := h
def kX_slot_52 (post : Int32 → SX → Prop) (x1 : Int32) (x2 : Int32) (x3 : Int32)  (u : SX) : Prop := wX_slot_52 post x1 x2 x3 (gX_faultPlace u) (gX_heapEnd u) (gX_frames u) (gX_frameWordsUsed u) (gX_wanted u) (gX_outcome u) (gX_lastResult u) (gX_lastOrigin u) (gX_done u) (gX_collections u) (gX_stayed u) (gX_turnedCount u) (gX_linkedCount u) (gX_superOf u) (gX_fieldCount u) (gX_refFields u) (gX_ownMethods u) (gX_initialisers u) (gX_ready u) (gX_ops u) (gX_operands u) (gX_lengths u) (gX_catchFrom u) (gX_catchTo u) (gX_catchGoal u) (gX_refMaps u) (gX_bodyHeights u) (gX_frameWords u) (gX_codeOps u) (gX_codeCells u) (gX_codeArgs u) (gX_heights u) (gX_intKinds u) (gX_refKinds u) (gX_heap u) (gX_newPlaces u) (gX_globals u) (gX_frameMethod u) (gX_framePlace u) (gX_cells u)
theorem uX_slot_52 {post : Int32 → SX → Prop} {x1 : Int32} {x2 : Int32} {x3 : Int32}  {u : SX} (h : vp_in ((x1 * 4) + x2) 16 ∧ ∀ a_ownMethods_48 : Nat → Int32 , a_ownMethods_48 = upd (gX_ownMethods u) ((x1 * 4) + x2).toNatClampNeg x3 → (post 1 (sX_ownMethods a_ownMethods_48 u))) : kX_slot_52 post x1 x2 x3 u := h
def kX_slot_29 (post : Int32 → SX → Prop) (x1 : Int32) (x2 : Int32) (x3 : Int32) (z0 : Int32)  (u : SX) : Prop := wX_slot_29 post x1 x2 x3 z0 (gX_faultPlace u) (gX_heapEnd u) (gX_frames u) (gX_frameWordsUsed u) (gX_wanted u) (gX_outcome u) (gX_lastResult u) (gX_lastOrigin u) (gX_done u) (gX_collections u) (gX_stayed u) (gX_turnedCount u) (gX_linkedCount u) (gX_superOf u) (gX_fieldCount u) (gX_refFields u) (gX_ownMethods u) (gX_initialisers u) (gX_ready u) (gX_ops u) (gX_operands u) (gX_lengths u) (gX_catchFrom u) (gX_catchTo u) (gX_catchGoal u) (gX_refMaps u) (gX_bodyHeights u) (gX_frameWords u) (gX_codeOps u) (gX_codeCells u) (gX_codeArgs u) (gX_heights u) (gX_intKinds u) (gX_refKinds u) (gX_heap u) (gX_newPlaces u) (gX_globals u) (gX_frameMethod u) (gX_framePlace u) (gX_cells u)
theorem uX_slot_29 {post : Int32 → SX → Prop} {x1 : Int32} {x2 : Int32} {x3 : Int32} {z0 : Int32}  {u : SX} (h : ((x3 = (- 1) → (kX_slot_52 post x1 x2 x3 u)) ∧ (¬ x3 = (- 1) → (((x3 = z0 → (kX_slot_52 post x1 x2 x3 u)) ∧ (¬ x3 = z0 → (((x3 = (z0 + 1) → (kX_slot_52 post x1 x2 x3 u)) ∧ (¬ x3 = (z0 + 1) → (post 0 u)))))))))) : kX_slot_29 post x1 x2 x3 z0 u := h
theorem upX_slot {post : Int32 → SX → Prop} {u : SX} {p0 : Int32} {p1 : Int32} {p2 : Int32} (h : wpX_isClass (fun r_1 => (((r_1 = 0 → (post 0 u)) ∧ (¬ r_1 = 0 → (((p1 < 0 → (post 0 u)) ∧ (¬ p1 < 0 → (((p1 < 4 → (((2 ≤ p1 → (kX_slot_29 post p0 p1 p2 4 u)) ∧ (¬ 2 ≤ p1 → (kX_slot_29 post p0 p1 p2 2 u))))) ∧ (¬ p1 < 4 → (post 0 u))))))))))) u p0) : wpX_slot post u p0 p1 p2 := h
theorem upX_initialiser {post : Int32 → SX → Prop} {u : SX} {p0 : Int32} {p1 : Int32} (h : wpX_isClass (fun r_1 => (((r_1 = 0 → (post 0 u)) ∧ (¬ r_1 = 0 → (((p1 < (- 1) → (post 0 u)) ∧ (¬ p1 < (- 1) → (((p1 ≤ 1 → (vp_in p0 4 ∧ ∀ a_initialisers_46 : Nat → Int32 , a_initialisers_46 = upd (gX_initialisers u) p0.toNatClampNeg p1 → (post 1 (sX_initialisers a_initialisers_46 u)))) ∧ (¬ p1 ≤ 1 → (post 0 u))))))))))) u p0) : wpX_initialiser post u p0 p1 := h
theorem upX_isField {post : Int32 → Prop} {u : SX} {p0 : Int32} {p1 : Int32} (h : wpX_isClass (fun r_1 => (((r_1 = 0 → (post 0)) ∧ (¬ r_1 = 0 → (((p1 < 0 → (post 0)) ∧ (¬ p1 < 0 → (vp_in p0 4 ∧ (((((gX_fieldCount u) p0.toNatClampNeg) ≤ p1 → (post 0)) ∧ (¬ ((gX_fieldCount u) p0.toNatClampNeg) ≤ p1 → (post 1)))))))))))) u p0) : wpX_isField post u p0 p1 := h
theorem upX_isRefField {post : Int32 → Prop} {u : SX} {p0 : Int32} {p1 : Int32} (h : vp_in p0 4 ∧ (((((((gX_refFields u) p0.toNatClampNeg) >>> (p1 &&& 31)) &&& 1) = 0 → (post 0)) ∧ (¬ ((((gX_refFields u) p0.toNatClampNeg) >>> (p1 &&& 31)) &&& 1) = 0 → (post 1))))) : wpX_isRefField post u p0 p1 := h
def kX_isBelow_5 (post : Int32 → Prop) (x2 : Int32) (n : Nat) (x3 : Int32) (x4 : Int32) (u : SX) : Prop := wX_isBelow_5 post x2 (gX_faultPlace u) (gX_heapEnd u) (gX_frames u) (gX_frameWordsUsed u) (gX_wanted u) (gX_outcome u) (gX_lastResult u) (gX_lastOrigin u) (gX_done u) (gX_collections u) (gX_stayed u) (gX_turnedCount u) (gX_linkedCount u) (gX_superOf u) (gX_fieldCount u) (gX_refFields u) (gX_ownMethods u) (gX_initialisers u) (gX_ready u) (gX_ops u) (gX_operands u) (gX_lengths u) (gX_catchFrom u) (gX_catchTo u) (gX_catchGoal u) (gX_refMaps u) (gX_bodyHeights u) (gX_frameWords u) (gX_codeOps u) (gX_codeCells u) (gX_codeArgs u) (gX_heights u) (gX_intKinds u) (gX_refKinds u) (gX_heap u) (gX_newPlaces u) (gX_globals u) (gX_frameMethod u) (gX_framePlace u) (gX_cells u) n x3 x4
theorem uX_isBelow_5 {post : Int32 → Prop} {x2 : Int32} {n : Nat} {x3 : Int32} {x4 : Int32} {u : SX} (h : ((4 ≤ x4 → (post 0)) ∧ (¬ 4 ≤ x4 → (((x3 = (- 1) → (post 0)) ∧ (¬ x3 = (- 1) → (((x3 = x2 → (post 1)) ∧ (¬ x3 = x2 → (vp_in x3 4 ∧ (∀ x3_5 : Int32 , x3_5 = (gX_superOf u) x3.toNatClampNeg → (∀ x4_6 : Int32 , x4_6 = x4 + 1 → (kX_isBelow_5 post x2 n x3_5 x4_6 u))))))))))))) : kX_isBelow_5 post x2 (n + 1) x3 x4 u := h
theorem upX_isBelow {post : Int32 → Prop} {u : SX} {p0 : Int32} {p1 : Int32} (h : ∃ n5 : Nat , kX_isBelow_5 post p1 n5 p0 0 u) : wpX_isBelow post u p0 p1 := h
def kX_classAbove_5 (post : Int32 → Prop) (x2 : Int32) (n : Nat) (x3 : Int32) (x4 : Int32) (u : SX) : Prop := wX_classAbove_5 post x2 (gX_faultPlace u) (gX_heapEnd u) (gX_frames u) (gX_frameWordsUsed u) (gX_wanted u) (gX_outcome u) (gX_lastResult u) (gX_lastOrigin u) (gX_done u) (gX_collections u) (gX_stayed u) (gX_turnedCount u) (gX_linkedCount u) (gX_superOf u) (gX_fieldCount u) (gX_refFields u) (gX_ownMethods u) (gX_initialisers u) (gX_ready u) (gX_ops u) (gX_operands u) (gX_lengths u) (gX_catchFrom u) (gX_catchTo u) (gX_catchGoal u) (gX_refMaps u) (gX_bodyHeights u) (gX_frameWords u) (gX_codeOps u) (gX_codeCells u) (gX_codeArgs u) (gX_heights u) (gX_intKinds u) (gX_refKinds u) (gX_heap u) (gX_newPlaces u) (gX_globals u) (gX_frameMethod u) (gX_framePlace u) (gX_cells u) n x3 x4
theorem uX_classAbove_5 {post : Int32 → Prop} {x2 : Int32} {n : Nat} {x3 : Int32} {x4 : Int32} {u : SX} (h : ((x2 ≤ x4 → (post x3)) ∧ (¬ x2 ≤ x4 → (((x3 = (- 1) → (post x3)) ∧ (¬ x3 = (- 1) → (vp_in x3 4 ∧ (∀ x3_4 : Int32 , x3_4 = (gX_superOf u) x3.toNatClampNeg → (∀ x4_5 : Int32 , x4_5 = x4 + 1 → (kX_classAbove_5 post x2 n x3_4 x4_5 u)))))))))) : kX_classAbove_5 post x2 (n + 1) x3 x4 u := h
theorem upX_classAbove {post : Int32 → Prop} {u : SX} {p0 : Int32} {p1 : Int32} (h : ∃ n5 : Nat , kX_classAbove_5 post p1 n5 p0 0 u) : wpX_classAbove post u p0 p1 := h
def kX_methodFor_5 (post : Int32 → Prop) (x2 : Int32) (n : Nat) (x3 : Int32) (x4 : Int32) (u : SX) : Prop := wX_methodFor_5 post x2 (gX_faultPlace u) (gX_heapEnd u) (gX_frames u) (gX_frameWordsUsed u) (gX_wanted u) (gX_outcome u) (gX_lastResult u) (gX_lastOrigin u) (gX_done u) (gX_collections u) (gX_stayed u) (gX_turnedCount u) (gX_linkedCount u) (gX_superOf u) (gX_fieldCount u) (gX_refFields u) (gX_ownMethods u) (gX_initialisers u) (gX_ready u) (gX_ops u) (gX_operands u) (gX_lengths u) (gX_catchFrom u) (gX_catchTo u) (gX_catchGoal u) (gX_refMaps u) (gX_bodyHeights u) (gX_frameWords u) (gX_codeOps u) (gX_codeCells u) (gX_codeArgs u) (gX_heights u) (gX_intKinds u) (gX_refKinds u) (gX_heap u) (gX_newPlaces u) (gX_globals u) (gX_frameMethod u) (gX_framePlace u) (gX_cells u) n x3 x4
theorem uX_methodFor_5 {post : Int32 → Prop} {x2 : Int32} {n : Nat} {x3 : Int32} {x4 : Int32} {u : SX} (h : ((4 ≤ x4 → (post (- 1))) ∧ (¬ 4 ≤ x4 → (((x3 = (- 1) → (post (- 1))) ∧ (¬ x3 = (- 1) → (vp_in ((x3 * 4) + x2) 16 ∧ (∀ x5_4 : Int32 , x5_4 = (gX_ownMethods u) ((x3 * 4) + x2).toNatClampNeg → (((x5_4 = (- 1) → (vp_in x3 4 ∧ (∀ x3_7 : Int32 , x3_7 = (gX_superOf u) x3.toNatClampNeg → (∀ x4_8 : Int32 , x4_8 = x4 + 1 → (kX_methodFor_5 post x2 n x3_7 x4_8 u))))) ∧ (¬ x5_4 = (- 1) → (post x5_4)))))))))))) : kX_methodFor_5 post x2 (n + 1) x3 x4 u := h
theorem upX_methodFor {post : Int32 → Prop} {u : SX} {p0 : Int32} {p1 : Int32} (h : ∃ n5 : Nat , kX_methodFor_5 post p1 n5 p0 0 u) : wpX_methodFor post u p0 p1 := h
theorem upX_hasBody {post : Int32 → Prop} {u : SX} {p0 : Int32} (h : ((p0 < 0 → (post 0)) ∧ (¬ p0 < 0 → (((8 ≤ p0 → (post 0)) ∧ (¬ 8 ≤ p0 → (vp_in p0 9 ∧ (((((gX_lengths u) p0.toNatClampNeg) ≤ 0 → (post 0)) ∧ (¬ ((gX_lengths u) p0.toNatClampNeg) ≤ 0 → (post 1))))))))))) : wpX_hasBody post u p0 := h
def kX_code_44 (post : Int32 → SX → Prop) (x1 : Int32) (x2 : Int32)  (u : SX) : Prop := wX_code_44 post x1 x2 (gX_faultPlace u) (gX_heapEnd u) (gX_frames u) (gX_frameWordsUsed u) (gX_wanted u) (gX_outcome u) (gX_lastResult u) (gX_lastOrigin u) (gX_done u) (gX_collections u) (gX_stayed u) (gX_turnedCount u) (gX_linkedCount u) (gX_superOf u) (gX_fieldCount u) (gX_refFields u) (gX_ownMethods u) (gX_initialisers u) (gX_ready u) (gX_ops u) (gX_operands u) (gX_lengths u) (gX_catchFrom u) (gX_catchTo u) (gX_catchGoal u) (gX_refMaps u) (gX_bodyHeights u) (gX_frameWords u) (gX_codeOps u) (gX_codeCells u) (gX_codeArgs u) (gX_heights u) (gX_intKinds u) (gX_refKinds u) (gX_heap u) (gX_newPlaces u) (gX_globals u) (gX_frameMethod u) (gX_framePlace u) (gX_cells u)
theorem uX_code_44 {post : Int32 → SX → Prop} {x1 : Int32} {x2 : Int32}  {u : SX} (h : ∀ x4_6 : Int32 , x4_6 = 192 + ((gX_lengths u) 8) → (vp_in x4_6 216 ∧ ∀ a_ops_8 : Nat → Int32 , a_ops_8 = upd (gX_ops u) x4_6.toNatClampNeg x1 → (vp_in x4_6 216 ∧ ∀ a_operands_10 : Nat → Int32 , a_operands_10 = upd (gX_operands u) x4_6.toNatClampNeg x2 → (∀ a_lengths_12 : Nat → Int32 , a_lengths_12 = upd (gX_lengths u) 8 (((gX_lengths u) 8) + 1) → (post (a_lengths_12 8) (sX_ops_operands_lengths a_ops_8 a_operands_10 a_lengths_12 u)))))) : kX_code_44 post x1 x2 u := h
theorem upX_code {post : Int32 → SX → Prop} {u : SX} {p0 : Int32} {p1 : Int32} (h : ((p0 < 0 → (post (- 1) u)) ∧ (¬ p0 < 0 → (((24 ≤ p0 → (post (- 1) u)) ∧ (¬ 24 ≤ p0 → (((((gX_lengths u) 8) < 24 → (wpX_mostOperand (fun r_4 => (((r_4 < 0 → (kX_code_44 post p0 p1 u)) ∧ (¬ r_4 < 0 → (((p1 < 0 → (post (- 1) u)) ∧ (¬ p1 < 0 → (((p1 ≤ r_4 → (kX_code_44 post p0 p1 u)) ∧ (¬ p1 ≤ r_4 → (post (- 1) u))))))))))) p0)) ∧ (¬ ((gX_lengths u) 8) < 24 → (post (- 1) u)))))))))) : wpX_code post u p0 p1 := h
theorem upX_catcher {post : Int32 → SX → Prop} {u : SX} {p0 : Int32} {p1 : Int32} {p2 : Int32} (h : ((p0 < 0 → (post 0 u)) ∧ (¬ p0 < 0 → (((24 < p1 → (post 0 u)) ∧ (¬ 24 < p1 → (((p1 < p0 → (post 0 u)) ∧ (¬ p1 < p0 → (((p2 < 0 → (post 0 u)) ∧ (¬ p2 < 0 → (((p2 ≤ 24 → (∀ a_catchFrom_7 : Nat → Int32 , a_catchFrom_7 = upd (gX_catchFrom u) 8 p0 → (∀ a_catchTo_9 : Nat → Int32 , a_catchTo_9 = upd (gX_catchTo u) 8 p1 → (∀ a_catchGoal_11 : Nat → Int32 , a_catchGoal_11 = upd (gX_catchGoal u) 8 p2 → (post 1 (sX_catchFrom_catchTo_catchGoal a_catchFrom_7 a_catchTo_9 a_catchGoal_11 u)))))) ∧ (¬ p2 ≤ 24 → (post 0 u)))))))))))))))) : wpX_catcher post u p0 p1 p2 := h
def kX_namesMissing_48 (post : Int32 → Prop) (x2 : Int32)  (u : SX) : Prop := wX_namesMissing_48 post x2 (gX_faultPlace u) (gX_heapEnd u) (gX_frames u) (gX_frameWordsUsed u) (gX_wanted u) (gX_outcome u) (gX_lastResult u) (gX_lastOrigin u) (gX_done u) (gX_collections u) (gX_stayed u) (gX_turnedCount u) (gX_linkedCount u) (gX_superOf u) (gX_fieldCount u) (gX_refFields u) (gX_ownMethods u) (gX_initialisers u) (gX_ready u) (gX_ops u) (gX_operands u) (gX_lengths u) (gX_catchFrom u) (gX_catchTo u) (gX_catchGoal u) (gX_refMaps u) (gX_bodyHeights u) (gX_frameWords u) (gX_codeOps u) (gX_codeCells u) (gX_codeArgs u) (gX_heights u) (gX_intKinds u) (gX_refKinds u) (gX_heap u) (gX_newPlaces u) (gX_globals u) (gX_frameMethod u) (gX_framePlace u) (gX_cells u)
theorem uX_namesMissing_48 {post : Int32 → Prop} {x2 : Int32}  {u : SX} (h : ((x2 < ((gX_lengths u) 8) → (post 0)) ∧ (¬ x2 < ((gX_lengths u) 8) → (post 1)))) : kX_namesMissing_48 post x2 u := h
def kX_namesMissing_65 (post : Int32 → Prop) (x2 : Int32)  (u : SX) : Prop := wX_namesMissing_65 post x2 (gX_faultPlace u) (gX_heapEnd u) (gX_frames u) (gX_frameWordsUsed u) (gX_wanted u) (gX_outcome u) (gX_lastResult u) (gX_lastOrigin u) (gX_done u) (gX_collections u) (gX_stayed u) (gX_turnedCount u) (gX_linkedCount u) (gX_superOf u) (gX_fieldCount u) (gX_refFields u) (gX_ownMethods u) (gX_initialisers u) (gX_ready u) (gX_ops u) (gX_operands u) (gX_lengths u) (gX_catchFrom u) (gX_catchTo u) (gX_catchGoal u) (gX_refMaps u) (gX_bodyHeights u) (gX_frameWords u) (gX_codeOps u) (gX_codeCells u) (gX_codeArgs u) (gX_heights u) (gX_intKinds u) (gX_refKinds u) (gX_heap u) (gX_newPlaces u) (gX_globals u) (gX_frameMethod u) (gX_framePlace u) (gX_cells u)
theorem uX_namesMissing_65 {post : Int32 → Prop} {x2 : Int32}  {u : SX} (h : wpX_isClass (fun r_9 => (((r_9 = 0 → (post 1)) ∧ (¬ r_9 = 0 → (post 0))))) u x2) : kX_namesMissing_65 post x2 u := h
def kX_namesMissing_79 (post : Int32 → Prop) (x2 : Int32)  (u : SX) : Prop := wX_namesMissing_79 post x2 (gX_faultPlace u) (gX_heapEnd u) (gX_frames u) (gX_frameWordsUsed u) (gX_wanted u) (gX_outcome u) (gX_lastResult u) (gX_lastOrigin u) (gX_done u) (gX_collections u) (gX_stayed u) (gX_turnedCount u) (gX_linkedCount u) (gX_superOf u) (gX_fieldCount u) (gX_refFields u) (gX_ownMethods u) (gX_initialisers u) (gX_ready u) (gX_ops u) (gX_operands u) (gX_lengths u) (gX_catchFrom u) (gX_catchTo u) (gX_catchGoal u) (gX_refMaps u) (gX_bodyHeights u) (gX_frameWords u) (gX_codeOps u) (gX_codeCells u) (gX_codeArgs u) (gX_heights u) (gX_intKinds u) (gX_refKinds u) (gX_heap u) (gX_newPlaces u) (gX_globals u) (gX_frameMethod u) (gX_framePlace u) (gX_cells u)
theorem uX_namesMissing_79 {post : Int32 → Prop} {x2 : Int32}  {u : SX} (h : ¬ (16 : Int32) = 0 ∧ (¬ (16 : Int32) = 0 ∧ (wpX_isField (fun r_54 => (((r_54 = 0 → (post 1)) ∧ (¬ r_54 = 0 → (post 0))))) u (x2 / 16) (x2 - x2 / 16 * 16)))) : kX_namesMissing_79 post x2 u := h
theorem upX_namesMissing {post : Int32 → Prop} {u : SX} {p0 : Int32} {p1 : Int32} (h : ((p0 < 8 → (post 0)) ∧ (¬ p0 < 8 → (((15 < p0 → (post 0)) ∧ (¬ 15 < p0 → (((p0 = 8 → (kX_namesMissing_48 post p1 u)) ∧ (¬ p0 = 8 → (((p0 = 9 → (kX_namesMissing_48 post p1 u)) ∧ (¬ p0 = 9 → (((p0 = 10 → (kX_namesMissing_48 post p1 u)) ∧ (¬ p0 = 10 → (((p0 = 11 → (post 0)) ∧ (¬ p0 = 11 → (((p0 = 12 → (kX_namesMissing_65 post p1 u)) ∧ (¬ p0 = 12 → (((p0 = 13 → (kX_namesMissing_79 post p1 u)) ∧ (¬ p0 = 13 → (((p0 = 14 → (kX_namesMissing_79 post p1 u)) ∧ (¬ p0 = 14 → (((p0 = 15 → (kX_namesMissing_65 post p1 u)) ∧ (¬ p0 = 15 → (True))))))))))))))))))))))))))))))) : wpX_namesMissing post u p0 p1 := h
def kX_missingFault_72 (post : Int32 → Prop) (x1 : Int32) (z0 : Int32)  (u : SX) : Prop := wX_missingFault_72 post x1 z0 (gX_faultPlace u) (gX_heapEnd u) (gX_frames u) (gX_frameWordsUsed u) (gX_wanted u) (gX_outcome u) (gX_lastResult u) (gX_lastOrigin u) (gX_done u) (gX_collections u) (gX_stayed u) (gX_turnedCount u) (gX_linkedCount u) (gX_superOf u) (gX_fieldCount u) (gX_refFields u) (gX_ownMethods u) (gX_initialisers u) (gX_ready u) (gX_ops u) (gX_operands u) (gX_lengths u) (gX_catchFrom u) (gX_catchTo u) (gX_catchGoal u) (gX_refMaps u) (gX_bodyHeights u) (gX_frameWords u) (gX_codeOps u) (gX_codeCells u) (gX_codeArgs u) (gX_heights u) (gX_intKinds u) (gX_refKinds u) (gX_heap u) (gX_newPlaces u) (gX_globals u) (gX_frameMethod u) (gX_framePlace u) (gX_cells u)
theorem uX_missingFault_72 {post : Int32 → Prop} {x1 : Int32} {z0 : Int32}  {u : SX} (h : ((z0 = 0 → (post (- 1))) ∧ (¬ z0 = 0 → (((x1 < ((gX_catchTo u) 8) → (post 24)) ∧ (¬ x1 < ((gX_catchTo u) 8) → (((((gX_catchGoal u) 8) < x1 → (post (- 1))) ∧ (¬ ((gX_catchGoal u) 8) < x1 → (post 24)))))))))) : kX_missingFault_72 post x1 z0 u := h
def kX_missingFault_10 (post : Int32 → Prop) (x1 : Int32) (n : Nat) (x2 : Int32) (u : SX) : Prop := wX_missingFault_10 post x1 (gX_faultPlace u) (gX_heapEnd u) (gX_frames u) (gX_frameWordsUsed u) (gX_wanted u) (gX_outcome u) (gX_lastResult u) (gX_lastOrigin u) (gX_done u) (gX_collections u) (gX_stayed u) (gX_turnedCount u) (gX_linkedCount u) (gX_superOf u) (gX_fieldCount u) (gX_refFields u) (gX_ownMethods u) (gX_initialisers u) (gX_ready u) (gX_ops u) (gX_operands u) (gX_lengths u) (gX_catchFrom u) (gX_catchTo u) (gX_catchGoal u) (gX_refMaps u) (gX_bodyHeights u) (gX_frameWords u) (gX_codeOps u) (gX_codeCells u) (gX_codeArgs u) (gX_heights u) (gX_intKinds u) (gX_refKinds u) (gX_heap u) (gX_newPlaces u) (gX_globals u) (gX_frameMethod u) (gX_framePlace u) (gX_cells u) n x2
theorem uX_missingFault_10 {post : Int32 → Prop} {x1 : Int32} {n : Nat} {x2 : Int32} {u : SX} (h : ((x1 ≤ x2 → (((((gX_catchTo u) 8) ≤ ((gX_catchFrom u) 8) → (kX_missingFault_72 post x1 0 u)) ∧ (¬ ((gX_catchTo u) 8) ≤ ((gX_catchFrom u) 8) → (kX_missingFault_72 post x1 1 u))))) ∧ (¬ x1 ≤ x2 → (vp_in (192 + x2) 216 ∧ (vp_in (192 + x2) 216 ∧ (wpX_namesMissing (fun r_9 => (((r_9 = 0 → (∀ x2_51 : Int32 , x2_51 = x2 + 1 → (kX_missingFault_10 post x1 n x2_51 u))) ∧ (¬ r_9 = 0 → (post x2))))) u ((gX_ops u) (192 + x2).toNatClampNeg) ((gX_operands u) (192 + x2).toNatClampNeg))))))) : kX_missingFault_10 post x1 (n + 1) x2 u := h
theorem upX_missingFault {post : Int32 → Prop} {u : SX} (h : ∀ x1_1 : Int32 , x1_1 = (gX_lengths u) 8 → (∃ n10 : Nat , kX_missingFault_10 post x1_1 n10 0 u)) : wpX_missingFault post u := h
theorem upX_addHeights {post : Int32 → SX → Prop} {u : SX} {p0 : Int32} {p1 : Int32} (h : ((p0 < ((gX_lengths u) 8) → (vp_in p0 24 ∧ (∀ x3_3 : Int32 , x3_3 = (gX_heights u) p0.toNatClampNeg → (vp_in p0 24 ∧ ∀ a_heights_5 : Nat → Int32 , a_heights_5 = upd (gX_heights u) p0.toNatClampNeg (x3_3 ||| p1) → (vp_in p0 24 ∧ ((((a_heights_5 p0.toNatClampNeg) = x3_3 → (post 0 (sX_heights a_heights_5 u))) ∧ (¬ (a_heights_5 p0.toNatClampNeg) = x3_3 → (post 1 (sX_heights a_heights_5 u)))))))))) ∧ (¬ p0 < ((gX_lengths u) 8) → (post 0 u)))) : wpX_addHeights post u p0 p1 := h
theorem upX_isCaught {post : Int32 → Prop} {u : SX} {p0 : Int32} {p1 : Int32} (h : vp_in p0 9 ∧ (((p1 < ((gX_catchFrom u) p0.toNatClampNeg) → (post 0)) ∧ (¬ p1 < ((gX_catchFrom u) p0.toNatClampNeg) → (vp_in p0 9 ∧ (((((gX_catchTo u) p0.toNatClampNeg) ≤ p1 → (post 0)) ∧ (¬ ((gX_catchTo u) p0.toNatClampNeg) ≤ p1 → (post 1))))))))) : wpX_isCaught post u p0 p1 := h
def kX_spreadHeights_102 (post : Int32 → SX → Prop) (x1 : Int32) (x7 : Int32)  (u : SX) : Prop := wX_spreadHeights_102 post x1 x7 (gX_faultPlace u) (gX_heapEnd u) (gX_frames u) (gX_frameWordsUsed u) (gX_wanted u) (gX_outcome u) (gX_lastResult u) (gX_lastOrigin u) (gX_done u) (gX_collections u) (gX_stayed u) (gX_turnedCount u) (gX_linkedCount u) (gX_superOf u) (gX_fieldCount u) (gX_refFields u) (gX_ownMethods u) (gX_initialisers u) (gX_ready u) (gX_ops u) (gX_operands u) (gX_lengths u) (gX_catchFrom u) (gX_catchTo u) (gX_catchGoal u) (gX_refMaps u) (gX_bodyHeights u) (gX_frameWords u) (gX_codeOps u) (gX_codeCells u) (gX_codeArgs u) (gX_heights u) (gX_intKinds u) (gX_refKinds u) (gX_heap u) (gX_newPlaces u) (gX_globals u) (gX_frameMethod u) (gX_framePlace u) (gX_cells u)
theorem uX_spreadHeights_102 {post : Int32 → SX → Prop} {x1 : Int32} {x7 : Int32}  {u : SX} (h : wpX_isCaught (fun r_15 => (((r_15 = 0 → (narrow .boolean (.int x7) = .int x7 ∧ (post x7 u))) ∧ (¬ r_15 = 0 → (wpX_addHeights (fun r_58 u1 => (((r_58 = 0 → (narrow .boolean (.int x7) = .int x7 ∧ (post x7 u1))) ∧ (¬ r_58 = 0 → (post 1 u1))))) u ((gX_catchGoal u) 8) 2))))) u 8 x1) : kX_spreadHeights_102 post x1 x7 u := h
def kX_spreadHeights_80 (post : Int32 → SX → Prop) (x1 : Int32) (x2 : Int32) (x6 : Int32) (x7 : Int32)  (u : SX) : Prop := wX_spreadHeights_80 post x1 x2 x6 x7 (gX_faultPlace u) (gX_heapEnd u) (gX_frames u) (gX_frameWordsUsed u) (gX_wanted u) (gX_outcome u) (gX_lastResult u) (gX_lastOrigin u) (gX_done u) (gX_collections u) (gX_stayed u) (gX_turnedCount u) (gX_linkedCount u) (gX_superOf u) (gX_fieldCount u) (gX_refFields u) (gX_ownMethods u) (gX_initialisers u) (gX_ready u) (gX_ops u) (gX_operands u) (gX_lengths u) (gX_catchFrom u) (gX_catchTo u) (gX_catchGoal u) (gX_refMaps u) (gX_bodyHeights u) (gX_frameWords u) (gX_codeOps u) (gX_codeCells u) (gX_codeArgs u) (gX_heights u) (gX_intKinds u) (gX_refKinds u) (gX_heap u) (gX_newPlaces u) (gX_globals u) (gX_frameMethod u) (gX_framePlace u) (gX_cells u)
theorem uX_spreadHeights_80 {post : Int32 → SX → Prop} {x1 : Int32} {x2 : Int32} {x6 : Int32} {x7 : Int32}  {u : SX} (h : wpX_goesOn (fun r_13 => (((r_13 = 0 → (kX_spreadHeights_102 post x1 x7 u)) ∧ (¬ r_13 = 0 → (wpX_addHeights (fun r_101 u1 => (((r_101 = 0 → (kX_spreadHeights_102 post x1 x7 u1)) ∧ (¬ r_101 = 0 → (kX_spreadHeights_102 post x1 1 u1))))) u (x1 + 1) x6))))) x2) : kX_spreadHeights_80 post x1 x2 x6 x7 u := h
theorem upX_spreadHeights {post : Int32 → SX → Prop} {u : SX} {p0 : Int32} (h : vp_in p0 24 ∧ (((((gX_heights u) p0.toNatClampNeg) = 0 → (post 0 u)) ∧ (¬ ((gX_heights u) p0.toNatClampNeg) = 0 → (vp_in (192 + p0) 216 ∧ (∀ x2_4 : Int32 , x2_4 = (gX_ops u) (192 + p0).toNatClampNeg → (vp_in (192 + p0) 216 ∧ (∀ x3_6 : Int32 , x3_6 = (gX_operands u) (192 + p0).toNatClampNeg → (wpX_pops (fun r_7 => (wpX_pushes (fun r_8 => (vp_in p0 24 ∧ (wpX_heightsBehind (fun r_10 => (wpX_jumps (fun r_11 => (((r_11 = 0 → (kX_spreadHeights_80 post p0 x2_4 r_10 0 u)) ∧ (¬ r_11 = 0 → (wpX_addHeights (fun r_143 u1 => (kX_spreadHeights_80 post p0 x2_4 r_10 r_143 u1)) u x3_6 r_10))))) x2_4)) ((gX_heights u) p0.toNatClampNeg) r_7 r_8))) x2_4)) x2_4 x3_6))))))))) : wpX_spreadHeights post u p0 := h
def kX_reachHeights_47 (post : SX → Prop) (J32 : Int32 → Int32 → SX → Prop) (x2 : Int32) (n : Nat) (x1 : Int32) (x3 : Int32) (u : SX) : Prop := wX_reachHeights_47 post (fun x1 x2 f_faultPlace f_heapEnd f_frames f_frameWordsUsed f_wanted f_outcome f_lastResult f_lastOrigin f_done f_collections f_stayed f_turnedCount f_linkedCount a_superOf a_fieldCount a_refFields a_ownMethods a_initialisers a_ready a_ops a_operands a_lengths a_catchFrom a_catchTo a_catchGoal a_refMaps a_bodyHeights a_frameWords a_codeOps a_codeCells a_codeArgs a_heights a_intKinds a_refKinds a_heap a_newPlaces a_globals a_frameMethod a_framePlace a_cells => J32 x1 x2 (f_faultPlace, f_heapEnd, f_frames, f_frameWordsUsed, f_wanted, f_outcome, f_lastResult, f_lastOrigin, f_done, f_collections, f_stayed, f_turnedCount, f_linkedCount, a_superOf, a_fieldCount, a_refFields, a_ownMethods, a_initialisers, a_ready, a_ops, a_operands, a_lengths, a_catchFrom, a_catchTo, a_catchGoal, a_refMaps, a_bodyHeights, a_frameWords, a_codeOps, a_codeCells, a_codeArgs, a_heights, a_intKinds, a_refKinds, a_heap, a_newPlaces, a_globals, a_frameMethod, a_framePlace, a_cells)) x2 n x1 x3 (gX_faultPlace u) (gX_heapEnd u) (gX_frames u) (gX_frameWordsUsed u) (gX_wanted u) (gX_outcome u) (gX_lastResult u) (gX_lastOrigin u) (gX_done u) (gX_collections u) (gX_stayed u) (gX_turnedCount u) (gX_linkedCount u) (gX_superOf u) (gX_fieldCount u) (gX_refFields u) (gX_ownMethods u) (gX_initialisers u) (gX_ready u) (gX_ops u) (gX_operands u) (gX_lengths u) (gX_catchFrom u) (gX_catchTo u) (gX_catchGoal u) (gX_refMaps u) (gX_bodyHeights u) (gX_frameWords u) (gX_codeOps u) (gX_codeCells u) (gX_codeArgs u) (gX_heights u) (gX_intKinds u) (gX_refKinds u) (gX_heap u) (gX_newPlaces u) (gX_globals u) (gX_frameMethod u) (gX_framePlace u) (gX_cells u)
theorem uX_reachHeights_47 {post : SX → Prop} {J32 : Int32 → Int32 → SX → Prop} {x2 : Int32} {n : Nat} {x1 : Int32} {x3 : Int32} {u : SX} (h : ((((gX_lengths u) 8) ≤ x3 → (∀ x2_7 : Int32 , x2_7 = x2 + 1 → (J32 x1 x2_7 u))) ∧ (¬ ((gX_lengths u) 8) ≤ x3 → (wpX_spreadHeights (fun r_8 u1 => (((r_8 = 0 → (∀ x3_50 : Int32 , x3_50 = x3 + 1 → (kX_reachHeights_47 post J32 x2 n x1 x3_50 u1))) ∧ (¬ r_8 = 0 → (∀ x3_51 : Int32 , x3_51 = x3 + 1 → (kX_reachHeights_47 post J32 x2 n 1 x3_51 u1)))))) u x3)))) : kX_reachHeights_47 post J32 x2 (n + 1) x1 x3 u := h
def kX_reachHeights_32 (post : SX → Prop) (n : Nat) (x1 : Int32) (x2 : Int32) (u : SX) : Prop := wX_reachHeights_32 post n x1 x2 (gX_faultPlace u) (gX_heapEnd u) (gX_frames u) (gX_frameWordsUsed u) (gX_wanted u) (gX_outcome u) (gX_lastResult u) (gX_lastOrigin u) (gX_done u) (gX_collections u) (gX_stayed u) (gX_turnedCount u) (gX_linkedCount u) (gX_superOf u) (gX_fieldCount u) (gX_refFields u) (gX_ownMethods u) (gX_initialisers u) (gX_ready u) (gX_ops u) (gX_operands u) (gX_lengths u) (gX_catchFrom u) (gX_catchTo u) (gX_catchGoal u) (gX_refMaps u) (gX_bodyHeights u) (gX_frameWords u) (gX_codeOps u) (gX_codeCells u) (gX_codeArgs u) (gX_heights u) (gX_intKinds u) (gX_refKinds u) (gX_heap u) (gX_newPlaces u) (gX_globals u) (gX_frameMethod u) (gX_framePlace u) (gX_cells u)
theorem uX_reachHeights_32 {post : SX → Prop} {n : Nat} {x1 : Int32} {x2 : Int32} {u : SX} (h : ((1000 ≤ x2 → (post u)) ∧ (¬ 1000 ≤ x2 → (((x1 = 0 → (post u)) ∧ (¬ x1 = 0 → (∃ n47 : Nat , kX_reachHeights_47 post (kX_reachHeights_32 post n) x2 n47 0 0 u))))))) : kX_reachHeights_32 post (n + 1) x1 x2 u := h
def kX_reachHeights_2 (post : SX → Prop) (n : Nat) (x1 : Int32) (u : SX) : Prop := wX_reachHeights_2 post (gX_faultPlace u) (gX_heapEnd u) (gX_frames u) (gX_frameWordsUsed u) (gX_wanted u) (gX_outcome u) (gX_lastResult u) (gX_lastOrigin u) (gX_done u) (gX_collections u) (gX_stayed u) (gX_turnedCount u) (gX_linkedCount u) n x1 (gX_superOf u) (gX_fieldCount u) (gX_refFields u) (gX_ownMethods u) (gX_initialisers u) (gX_ready u) (gX_ops u) (gX_operands u) (gX_lengths u) (gX_catchFrom u) (gX_catchTo u) (gX_catchGoal u) (gX_refMaps u) (gX_bodyHeights u) (gX_frameWords u) (gX_codeOps u) (gX_codeCells u) (gX_codeArgs u) (gX_heights u) (gX_intKinds u) (gX_refKinds u) (gX_heap u) (gX_newPlaces u) (gX_globals u) (gX_frameMethod u) (gX_framePlace u) (gX_cells u)
theorem uX_reachHeights_2 {post : SX → Prop} {n : Nat} {x1 : Int32} {u : SX} (h : ((24 ≤ x1 → (∀ a_heights_3 : Nat → Int32 , a_heights_3 = upd (gX_heights u) 0 1 → (∃ n32 : Nat , kX_reachHeights_32 post n32 1 0 (sX_heights a_heights_3 u)))) ∧ (¬ 24 ≤ x1 → (vp_in x1 24 ∧ ∀ a_heights_53 : Nat → Int32 , a_heights_53 = upd (gX_heights u) x1.toNatClampNeg 0 → (∀ x1_54 : Int32 , x1_54 = x1 + 1 → (kX_reachHeights_2 post n x1_54 (sX_heights a_heights_53 u))))))) : kX_reachHeights_2 post (n + 1) x1 u := h
theorem upX_reachHeights {post : SX → Prop} {u : SX} (h : ∃ n2 : Nat , kX_reachHeights_2 post n2 0 u) : wpX_reachHeights post u := h
def kX_heightAt_2 (post : Int32 → Prop) (x1 : Int32) (n : Nat) (x2 : Int32) (u : SX) : Prop := wX_heightAt_2 post x1 (gX_faultPlace u) (gX_heapEnd u) (gX_frames u) (gX_frameWordsUsed u) (gX_wanted u) (gX_outcome u) (gX_lastResult u) (gX_lastOrigin u) (gX_done u) (gX_collections u) (gX_stayed u) (gX_turnedCount u) (gX_linkedCount u) (gX_superOf u) (gX_fieldCount u) (gX_refFields u) (gX_ownMethods u) (gX_initialisers u) (gX_ready u) (gX_ops u) (gX_operands u) (gX_lengths u) (gX_catchFrom u) (gX_catchTo u) (gX_catchGoal u) (gX_refMaps u) (gX_bodyHeights u) (gX_frameWords u) (gX_codeOps u) (gX_codeCells u) (gX_codeArgs u) (gX_heights u) (gX_intKinds u) (gX_refKinds u) (gX_heap u) (gX_newPlaces u) (gX_globals u) (gX_frameMethod u) (gX_framePlace u) (gX_cells u) n x2
theorem uX_heightAt_2 {post : Int32 → Prop} {x1 : Int32} {n : Nat} {x2 : Int32} {u : SX} (h : ((6 ≤ x2 → (post x2)) ∧ (¬ 6 ≤ x2 → (vp_in x1 24 ∧ (((((((gX_heights u) x1.toNatClampNeg) >>> (x2 &&& 31)) &&& 1) = 0 → (∀ x2_4 : Int32 , x2_4 = x2 + 1 → (kX_heightAt_2 post x1 n x2_4 u))) ∧ (¬ ((((gX_heights u) x1.toNatClampNeg) >>> (x2 &&& 31)) &&& 1) = 0 → (post x2)))))))) : kX_heightAt_2 post x1 (n + 1) x2 u := h
theorem upX_heightAt {post : Int32 → Prop} {u : SX} {p0 : Int32} (h : ∃ n2 : Nat , kX_heightAt_2 post p0 n2 0 u) : wpX_heightAt post u p0 := h
def kX_hasHeightFault_89 (post : Int32 → Prop) (x3 : Int32) (x4 : Int32) (x5 : Int32) (x6 : Int32) (z0 : Int32)  (u : SX) : Prop := wX_hasHeightFault_89 post x3 x4 x5 x6 z0 (gX_faultPlace u) (gX_heapEnd u) (gX_frames u) (gX_frameWordsUsed u) (gX_wanted u) (gX_outcome u) (gX_lastResult u) (gX_lastOrigin u) (gX_done u) (gX_collections u) (gX_stayed u) (gX_turnedCount u) (gX_linkedCount u) (gX_superOf u) (gX_fieldCount u) (gX_refFields u) (gX_ownMethods u) (gX_initialisers u) (gX_ready u) (gX_ops u) (gX_operands u) (gX_lengths u) (gX_catchFrom u) (gX_catchTo u) (gX_catchGoal u) (gX_refMaps u) (gX_bodyHeights u) (gX_frameWords u) (gX_codeOps u) (gX_codeCells u) (gX_codeArgs u) (gX_heights u) (gX_intKinds u) (gX_refKinds u) (gX_heap u) (gX_newPlaces u) (gX_globals u) (gX_frameMethod u) (gX_framePlace u) (gX_cells u)
theorem uX_hasHeightFault_89 {post : Int32 → Prop} {x3 : Int32} {x4 : Int32} {x5 : Int32} {x6 : Int32} {z0 : Int32}  {u : SX} (h : ((x6 = 0 → (((z0 = 0 → (wpX_fits (fun r_54 => (((r_54 = 0 → (post 1)) ∧ (¬ r_54 = 0 → (post 0))))) x5 x3 x4)) ∧ (¬ z0 = 0 → (post 1))))) ∧ (¬ x6 = 0 → (post 1)))) : kX_hasHeightFault_89 post x3 x4 x5 x6 z0 u := h
def kX_hasHeightFault_88 (post : Int32 → Prop) (x3 : Int32) (x4 : Int32) (x5 : Int32) (x6 : Int32)  (u : SX) : Prop := wX_hasHeightFault_88 post x3 x4 x5 x6 (gX_faultPlace u) (gX_heapEnd u) (gX_frames u) (gX_frameWordsUsed u) (gX_wanted u) (gX_outcome u) (gX_lastResult u) (gX_lastOrigin u) (gX_done u) (gX_collections u) (gX_stayed u) (gX_turnedCount u) (gX_linkedCount u) (gX_superOf u) (gX_fieldCount u) (gX_refFields u) (gX_ownMethods u) (gX_initialisers u) (gX_ready u) (gX_ops u) (gX_operands u) (gX_lengths u) (gX_catchFrom u) (gX_catchTo u) (gX_catchGoal u) (gX_refMaps u) (gX_bodyHeights u) (gX_frameWords u) (gX_codeOps u) (gX_codeCells u) (gX_codeArgs u) (gX_heights u) (gX_intKinds u) (gX_refKinds u) (gX_heap u) (gX_newPlaces u) (gX_globals u) (gX_frameMethod u) (gX_framePlace u) (gX_cells u)
theorem uX_hasHeightFault_88 {post : Int32 → Prop} {x3 : Int32} {x4 : Int32} {x5 : Int32} {x6 : Int32}  {u : SX} (h : kX_hasHeightFault_89 post x3 x4 x5 x6 0 u) : kX_hasHeightFault_88 post x3 x4 x5 x6 u := h
def kX_hasHeightFault_62 (post : Int32 → Prop) (x1 : Int32) (x2 : Int32) (x3 : Int32) (x4 : Int32) (x5 : Int32) (z0 : Int32)  (u : SX) : Prop := wX_hasHeightFault_62 post x1 x2 x3 x4 x5 z0 (gX_faultPlace u) (gX_heapEnd u) (gX_frames u) (gX_frameWordsUsed u) (gX_wanted u) (gX_outcome u) (gX_lastResult u) (gX_lastOrigin u) (gX_done u) (gX_collections u) (gX_stayed u) (gX_turnedCount u) (gX_linkedCount u) (gX_superOf u) (gX_fieldCount u) (gX_refFields u) (gX_ownMethods u) (gX_initialisers u) (gX_ready u) (gX_ops u) (gX_operands u) (gX_lengths u) (gX_catchFrom u) (gX_catchTo u) (gX_catchGoal u) (gX_refMaps u) (gX_bodyHeights u) (gX_frameWords u) (gX_codeOps u) (gX_codeCells u) (gX_codeArgs u) (gX_heights u) (gX_intKinds u) (gX_refKinds u) (gX_heap u) (gX_newPlaces u) (gX_globals u) (gX_frameMethod u) (gX_framePlace u) (gX_cells u)
theorem uX_hasHeightFault_62 {post : Int32 → Prop} {x1 : Int32} {x2 : Int32} {x3 : Int32} {x4 : Int32} {x5 : Int32} {z0 : Int32}  {u : SX} (h : wpX_goesOn (fun r_50 => (((r_50 = 0 → (kX_hasHeightFault_88 post x3 x4 x5 z0 u)) ∧ (¬ r_50 = 0 → ((((x1 + 1) = ((gX_lengths u) 8) → (kX_hasHeightFault_89 post x3 x4 x5 z0 1 u)) ∧ (¬ (x1 + 1) = ((gX_lengths u) 8) → (kX_hasHeightFault_88 post x3 x4 x5 z0 u)))))))) x2) : kX_hasHeightFault_62 post x1 x2 x3 x4 x5 z0 u := h
theorem upX_hasHeightFault {post : Int32 → Prop} {u : SX} {p0 : Int32} (h : vp_in (192 + p0) 216 ∧ (∀ x2_2 : Int32 , x2_2 = (gX_ops u) (192 + p0).toNatClampNeg → (vp_in (192 + p0) 216 ∧ (wpX_pops (fun r_4 => (wpX_pushes (fun r_5 => (wpX_heightAt (fun r_6 => (vp_in p0 24 ∧ (vp_in p0 24 ∧ ((((((gX_heights u) p0.toNatClampNeg) &&& (((gX_heights u) p0.toNatClampNeg) - 1)) = 0 → (kX_hasHeightFault_62 post p0 x2_2 r_4 r_5 r_6 0 u)) ∧ (¬ (((gX_heights u) p0.toNatClampNeg) &&& (((gX_heights u) p0.toNatClampNeg) - 1)) = 0 → (kX_hasHeightFault_62 post p0 x2_2 r_4 r_5 r_6 1 u))))))) u p0)) x2_2)) x2_2 ((gX_operands u) (192 + p0).toNatClampNeg))))) : wpX_hasHeightFault post u p0 := h
def kX_heightFault_2 (post : Int32 → Prop) (n : Nat) (x1 : Int32) (u : SX) : Prop := wX_heightFault_2 post (gX_faultPlace u) (gX_heapEnd u) (gX_frames u) (gX_frameWordsUsed u) (gX_wanted u) (gX_outcome u) (gX_lastResult u) (gX_lastOrigin u) (gX_done u) (gX_collections u) (gX_stayed u) (gX_turnedCount u) (gX_linkedCount u) (gX_superOf u) (gX_fieldCount u) (gX_refFields u) (gX_ownMethods u) (gX_initialisers u) (gX_ready u) (gX_ops u) (gX_operands u) (gX_lengths u) (gX_catchFrom u) (gX_catchTo u) (gX_catchGoal u) (gX_refMaps u) (gX_bodyHeights u) (gX_frameWords u) (gX_codeOps u) (gX_codeCells u) (gX_codeArgs u) (gX_heights u) (gX_intKinds u) (gX_refKinds u) (gX_heap u) (gX_newPlaces u) (gX_globals u) (gX_frameMethod u) (gX_framePlace u) (gX_cells u) n x1
theorem uX_heightFault_2 {post : Int32 → Prop} {n : Nat} {x1 : Int32} {u : SX} (h : ((((gX_lengths u) 8) ≤ x1 → (post (- 1))) ∧ (¬ ((gX_lengths u) 8) ≤ x1 → (vp_in x1 24 ∧ (((((gX_heights u) x1.toNatClampNeg) = 0 → (∀ x1_4 : Int32 , x1_4 = x1 + 1 → (kX_heightFault_2 post n x1_4 u))) ∧ (¬ ((gX_heights u) x1.toNatClampNeg) = 0 → (wpX_hasHeightFault (fun r_5 => (((r_5 = 0 → (∀ x1_47 : Int32 , x1_47 = x1 + 1 → (kX_heightFault_2 post n x1_47 u))) ∧ (¬ r_5 = 0 → (post x1))))) u x1)))))))) : kX_heightFault_2 post (n + 1) x1 u := h
theorem upX_heightFault {post : Int32 → Prop} {u : SX} (h : ∃ n2 : Nat , kX_heightFault_2 post n2 0 u) : wpX_heightFault post u := h
theorem upX_pushedKind {post : Int32 → Prop} {u : SX} {p0 : Int32} {p1 : Int32} (h : ((p0 < 0 → (post 0)) ∧ (¬ p0 < 0 → (((22 < p0 → (post 0)) ∧ (¬ 22 < p0 → (((p0 = 0 → (post 1)) ∧ (¬ p0 = 0 → (((p0 = 1 → (post 2)) ∧ (¬ p0 = 1 → (((p0 = 2 → (post 0)) ∧ (¬ p0 = 2 → (((p0 = 3 → (post 0)) ∧ (¬ p0 = 3 → (((p0 = 4 → (post 1)) ∧ (¬ p0 = 4 → (((p0 = 5 → (post 1)) ∧ (¬ p0 = 5 → (((p0 = 6 → (post 1)) ∧ (¬ p0 = 6 → (((p0 = 7 → (post 1)) ∧ (¬ p0 = 7 → (((p0 = 8 → (post 0)) ∧ (¬ p0 = 8 → (((p0 = 9 → (post 0)) ∧ (¬ p0 = 9 → (((p0 = 10 → (post 0)) ∧ (¬ p0 = 10 → (((p0 = 11 → (post 1)) ∧ (¬ p0 = 11 → (((p0 = 12 → (post 2)) ∧ (¬ p0 = 12 → (((p0 = 13 → (¬ (16 : Int32) = 0 ∧ (¬ (16 : Int32) = 0 ∧ (wpX_isRefField (fun r_19 => (((r_19 = 0 → (post 1)) ∧ (¬ r_19 = 0 → (post 2))))) u (p1 / 16) (p1 - p1 / 16 * 16))))) ∧ (¬ p0 = 13 → (((p0 = 14 → (post 0)) ∧ (¬ p0 = 14 → (((p0 = 15 → (post 1)) ∧ (¬ p0 = 15 → (((p0 = 16 → (wpX_givesRef (fun r_64 => (((r_64 = 0 → (post 1)) ∧ (¬ r_64 = 0 → (post 2))))) p1)) ∧ (¬ p0 = 16 → (((p0 = 17 → (((2 ≤ p1 → (post 2)) ∧ (¬ 2 ≤ p1 → (post 1))))) ∧ (¬ p0 = 17 → (((p0 = 18 → (post 0)) ∧ (¬ p0 = 18 → (((p0 = 19 → (post 0)) ∧ (¬ p0 = 19 → (((p0 = 20 → (post 0)) ∧ (¬ p0 = 20 → (((p0 = 21 → (post 0)) ∧ (¬ p0 = 21 → (((p0 = 22 → (post 2)) ∧ (¬ p0 = 22 → (True)))))))))))))))))))))))))))))))))))))))))))))))))))))))))))))))))))))))))))) : wpX_pushedKind post u p0 p1 := h
theorem upX_kindsBehind {post : Int32 → Prop} {u : SX} {p0 : Int32} {p1 : Int32} {p2 : Int32} (h : vp_in (192 + p0) 216 ∧ (∀ x4_2 : Int32 , x4_2 = (gX_ops u) (192 + p0).toNatClampNeg → (vp_in (192 + p0) 216 ∧ (∀ x5_4 : Int32 , x5_4 = (gX_operands u) (192 + p0).toNatClampNeg → (wpX_heightAt (fun r_5 => (wpX_pops (fun r_46 => (∀ x6_47 : Int32 , x6_47 = (6 + r_5) - r_46 → (∀ x7_48 : Int32 , x7_48 = p1 &&& (((1 : Int32) <<< (x6_47 &&& 31)) - 1) → (∀ x8_49 : Int32 , x8_49 = (p1 >>> (x6_47 &&& 31)) &&& 1 → (((x4_2 = 3 → (post ((x7_48 &&& (((1 : Int32) <<< (x5_4 &&& 31)) ^^^ (- 1))) ||| (x8_49 <<< (x5_4 &&& 31))))) ∧ (¬ x4_2 = 3 → (((x4_2 = 2 → (post (x7_48 ||| (((p1 >>> (x5_4 &&& 31)) &&& 1) <<< (x6_47 &&& 31))))) ∧ (¬ x4_2 = 2 → (((x4_2 = 20 → (post (x7_48 ||| ((x8_49 * 3) <<< (x6_47 &&& 31))))) ∧ (¬ x4_2 = 20 → (wpX_pushedKind (fun r_53 => (((r_53 = p2 → (post (x7_48 ||| ((1 : Int32) <<< (x6_47 &&& 31))))) ∧ (¬ r_53 = p2 → (post x7_48))))) u x4_2 x5_4)))))))))))))) x4_2 x5_4)) u p0))))) : wpX_kindsBehind post u p0 p1 p2 := h
theorem upX_meet {post : Int32 → SX → Prop} {u : SX} {p0 : Int32} {p1 : Int32} {p2 : Int32} (h : ((p0 < ((gX_lengths u) 8) → (vp_in p0 24 ∧ (∀ x4_3 : Int32 , x4_3 = (gX_intKinds u) p0.toNatClampNeg → (vp_in p0 24 ∧ (∀ x5_5 : Int32 , x5_5 = (gX_refKinds u) p0.toNatClampNeg → (vp_in p0 24 ∧ ∀ a_intKinds_7 : Nat → Int32 , a_intKinds_7 = upd (gX_intKinds u) p0.toNatClampNeg (x4_3 &&& p1) → (vp_in p0 24 ∧ ∀ a_refKinds_9 : Nat → Int32 , a_refKinds_9 = upd (gX_refKinds u) p0.toNatClampNeg (x5_5 &&& p2) → (vp_in p0 24 ∧ ((((a_intKinds_7 p0.toNatClampNeg) = x4_3 → (vp_in p0 24 ∧ ((((a_refKinds_9 p0.toNatClampNeg) = x5_5 → (post 0 (sX_intKinds_refKinds a_intKinds_7 a_refKinds_9 u))) ∧ (¬ (a_refKinds_9 p0.toNatClampNeg) = x5_5 → (post 1 (sX_intKinds_refKinds a_intKinds_7 a_refKinds_9 u))))))) ∧ (¬ (a_intKinds_7 p0.toNatClampNeg) = x4_3 → (post 1 (sX_intKinds_refKinds a_intKinds_7 a_refKinds_9 u))))))))))))) ∧ (¬ p0 < ((gX_lengths u) 8) → (post 0 u)))) : wpX_meet post u p0 p1 p2 := h
def kX_spreadKinds_90 (post : Int32 → SX → Prop) (x1 : Int32) (x5 : Int32)  (u : SX) : Prop := wX_spreadKinds_90 post x1 x5 (gX_faultPlace u) (gX_heapEnd u) (gX_frames u) (gX_frameWordsUsed u) (gX_wanted u) (gX_outcome u) (gX_lastResult u) (gX_lastOrigin u) (gX_done u) (gX_collections u) (gX_stayed u) (gX_turnedCount u) (gX_linkedCount u) (gX_superOf u) (gX_fieldCount u) (gX_refFields u) (gX_ownMethods u) (gX_initialisers u) (gX_ready u) (gX_ops u) (gX_operands u) (gX_lengths u) (gX_catchFrom u) (gX_catchTo u) (gX_catchGoal u) (gX_refMaps u) (gX_bodyHeights u) (gX_frameWords u) (gX_codeOps u) (gX_codeCells u) (gX_codeArgs u) (gX_heights u) (gX_intKinds u) (gX_refKinds u) (gX_heap u) (gX_newPlaces u) (gX_globals u) (gX_frameMethod u) (gX_framePlace u) (gX_cells u)
theorem uX_spreadKinds_90 {post : Int32 → SX → Prop} {x1 : Int32} {x5 : Int32}  {u : SX} (h : wpX_isCaught (fun r_91 => (((r_91 = 0 → (narrow .boolean (.int x5) = .int x5 ∧ (post x5 u))) ∧ (¬ r_91 = 0 → (vp_in x1 24 ∧ (∀ x6_135 : Int32 , x6_135 = (((gX_intKinds u) x1.toNatClampNeg) &&& 63) ||| 64 → (vp_in x1 24 ∧ (wpX_meet (fun r_137 u1 => (((r_137 = 0 → (narrow .boolean (.int x5) = .int x5 ∧ (post x5 u1))) ∧ (¬ r_137 = 0 → (post 1 u1))))) u ((gX_catchGoal u) 8) x6_135 (((gX_refKinds u) x1.toNatClampNeg) &&& 63))))))))) u 8 x1) : kX_spreadKinds_90 post x1 x5 u := h
def kX_spreadKinds_67 (post : Int32 → SX → Prop) (x1 : Int32) (x2 : Int32) (x3 : Int32) (x4 : Int32) (x5 : Int32)  (u : SX) : Prop := wX_spreadKinds_67 post x1 x2 x3 x4 x5 (gX_faultPlace u) (gX_heapEnd u) (gX_frames u) (gX_frameWordsUsed u) (gX_wanted u) (gX_outcome u) (gX_lastResult u) (gX_lastOrigin u) (gX_done u) (gX_collections u) (gX_stayed u) (gX_turnedCount u) (gX_linkedCount u) (gX_superOf u) (gX_fieldCount u) (gX_refFields u) (gX_ownMethods u) (gX_initialisers u) (gX_ready u) (gX_ops u) (gX_operands u) (gX_lengths u) (gX_catchFrom u) (gX_catchTo u) (gX_catchGoal u) (gX_refMaps u) (gX_bodyHeights u) (gX_frameWords u) (gX_codeOps u) (gX_codeCells u) (gX_codeArgs u) (gX_heights u) (gX_intKinds u) (gX_refKinds u) (gX_heap u) (gX_newPlaces u) (gX_globals u) (gX_frameMethod u) (gX_framePlace u) (gX_cells u)
theorem uX_spreadKinds_67 {post : Int32 → SX → Prop} {x1 : Int32} {x2 : Int32} {x3 : Int32} {x4 : Int32} {x5 : Int32}  {u : SX} (h : wpX_goesOn (fun r_89 => (((r_89 = 0 → (kX_spreadKinds_90 post x1 x5 u)) ∧ (¬ r_89 = 0 → (wpX_meet (fun r_180 u1 => (((r_180 = 0 → (kX_spreadKinds_90 post x1 x5 u1)) ∧ (¬ r_180 = 0 → (kX_spreadKinds_90 post x1 1 u1))))) u (x1 + 1) x3 x4))))) x2) : kX_spreadKinds_67 post x1 x2 x3 x4 x5 u := h
theorem upX_spreadKinds {post : Int32 → SX → Prop} {u : SX} {p0 : Int32} (h : vp_in (192 + p0) 216 ∧ (∀ x2_2 : Int32 , x2_2 = (gX_ops u) (192 + p0).toNatClampNeg → (vp_in p0 24 ∧ (wpX_kindsBehind (fun r_4 => (vp_in p0 24 ∧ (wpX_kindsBehind (fun r_46 => (wpX_jumps (fun r_87 => (((r_87 = 0 → (kX_spreadKinds_67 post p0 x2_2 r_4 r_46 0 u)) ∧ (¬ r_87 = 0 → (vp_in (192 + p0) 216 ∧ (wpX_meet (fun r_223 u1 => (kX_spreadKinds_67 post p0 x2_2 r_4 r_46 r_223 u1)) u ((gX_operands u) (192 + p0).toNatClampNeg) r_4 r_46)))))) x2_2)) u p0 ((gX_refKinds u) p0.toNatClampNeg) 2))) u p0 ((gX_intKinds u) p0.toNatClampNeg) 1)))) : wpX_spreadKinds post u p0 := h
def kX_reachKinds_72 (post : SX → Prop) (J56 : Int32 → Int32 → SX → Prop) (x3 : Int32) (n : Nat) (x2 : Int32) (x4 : Int32) (u : SX) : Prop := wX_reachKinds_72 post (fun x2 x3 f_faultPlace f_heapEnd f_frames f_frameWordsUsed f_wanted f_outcome f_lastResult f_lastOrigin f_done f_collections f_stayed f_turnedCount f_linkedCount a_superOf a_fieldCount a_refFields a_ownMethods a_initialisers a_ready a_ops a_operands a_lengths a_catchFrom a_catchTo a_catchGoal a_refMaps a_bodyHeights a_frameWords a_codeOps a_codeCells a_codeArgs a_heights a_intKinds a_refKinds a_heap a_newPlaces a_globals a_frameMethod a_framePlace a_cells => J56 x2 x3 (f_faultPlace, f_heapEnd, f_frames, f_frameWordsUsed, f_wanted, f_outcome, f_lastResult, f_lastOrigin, f_done, f_collections, f_stayed, f_turnedCount, f_linkedCount, a_superOf, a_fieldCount, a_refFields, a_ownMethods, a_initialisers, a_ready, a_ops, a_operands, a_lengths, a_catchFrom, a_catchTo, a_catchGoal, a_refMaps, a_bodyHeights, a_frameWords, a_codeOps, a_codeCells, a_codeArgs, a_heights, a_intKinds, a_refKinds, a_heap, a_newPlaces, a_globals, a_frameMethod, a_framePlace, a_cells)) x3 n x2 x4 (gX_faultPlace u) (gX_heapEnd u) (gX_frames u) (gX_frameWordsUsed u) (gX_wanted u) (gX_outcome u) (gX_lastResult u) (gX_lastOrigin u) (gX_done u) (gX_collections u) (gX_stayed u) (gX_turnedCount u) (gX_linkedCount u) (gX_superOf u) (gX_fieldCount u) (gX_refFields u) (gX_ownMethods u) (gX_initialisers u) (gX_ready u) (gX_ops u) (gX_operands u) (gX_lengths u) (gX_catchFrom u) (gX_catchTo u) (gX_catchGoal u) (gX_refMaps u) (gX_bodyHeights u) (gX_frameWords u) (gX_codeOps u) (gX_codeCells u) (gX_codeArgs u) (gX_heights u) (gX_intKinds u) (gX_refKinds u) (gX_heap u) (gX_newPlaces u) (gX_globals u) (gX_frameMethod u) (gX_framePlace u) (gX_cells u)
theorem uX_reachKinds_72 {post : SX → Prop} {J56 : Int32 → Int32 → SX → Prop} {x3 : Int32} {n : Nat} {x2 : Int32} {x4 : Int32} {u : SX} (h : ((((gX_lengths u) 8) ≤ x4 → (∀ x3_11 : Int32 , x3_11 = x3 + 1 → (J56 x2 x3_11 u))) ∧ (¬ ((gX_lengths u) 8) ≤ x4 → (vp_in x4 24 ∧ (((((gX_heights u) x4.toNatClampNeg) = 0 → (∀ x4_14 : Int32 , x4_14 = x4 + 1 → (kX_reachKinds_72 post J56 x3 n x2 x4_14 u))) ∧ (¬ ((gX_heights u) x4.toNatClampNeg) = 0 → (wpX_spreadKinds (fun r_15 u1 => (((r_15 = 0 → (∀ x4_57 : Int32 , x4_57 = x4 + 1 → (kX_reachKinds_72 post J56 x3 n x2 x4_57 u1))) ∧ (¬ r_15 = 0 → (∀ x4_58 : Int32 , x4_58 = x4 + 1 → (kX_reachKinds_72 post J56 x3 n 1 x4_58 u1)))))) u x4)))))))) : kX_reachKinds_72 post J56 x3 (n + 1) x2 x4 u := h
def kX_reachKinds_56 (post : SX → Prop) (n : Nat) (x2 : Int32) (x3 : Int32) (u : SX) : Prop := wX_reachKinds_56 post n x2 x3 (gX_faultPlace u) (gX_heapEnd u) (gX_frames u) (gX_frameWordsUsed u) (gX_wanted u) (gX_outcome u) (gX_lastResult u) (gX_lastOrigin u) (gX_done u) (gX_collections u) (gX_stayed u) (gX_turnedCount u) (gX_linkedCount u) (gX_superOf u) (gX_fieldCount u) (gX_refFields u) (gX_ownMethods u) (gX_initialisers u) (gX_ready u) (gX_ops u) (gX_operands u) (gX_lengths u) (gX_catchFrom u) (gX_catchTo u) (gX_catchGoal u) (gX_refMaps u) (gX_bodyHeights u) (gX_frameWords u) (gX_codeOps u) (gX_codeCells u) (gX_codeArgs u) (gX_heights u) (gX_intKinds u) (gX_refKinds u) (gX_heap u) (gX_newPlaces u) (gX_globals u) (gX_frameMethod u) (gX_framePlace u) (gX_cells u)
theorem uX_reachKinds_56 {post : SX → Prop} {n : Nat} {x2 : Int32} {x3 : Int32} {u : SX} (h : ((1000 ≤ x3 → (post u)) ∧ (¬ 1000 ≤ x3 → (((x2 = 0 → (post u)) ∧ (¬ x2 = 0 → (∃ n72 : Nat , kX_reachKinds_72 post (kX_reachKinds_56 post n) x3 n72 0 0 u))))))) : kX_reachKinds_56 post (n + 1) x2 x3 u := h
def kX_reachKinds_2 (post : SX → Prop) (x1 : Int32) (n : Nat) (x2 : Int32) (u : SX) : Prop := wX_reachKinds_2 post x1 (gX_faultPlace u) (gX_heapEnd u) (gX_frames u) (gX_frameWordsUsed u) (gX_wanted u) (gX_outcome u) (gX_lastResult u) (gX_lastOrigin u) (gX_done u) (gX_collections u) (gX_stayed u) (gX_turnedCount u) (gX_linkedCount u) n x2 (gX_superOf u) (gX_fieldCount u) (gX_refFields u) (gX_ownMethods u) (gX_initialisers u) (gX_ready u) (gX_ops u) (gX_operands u) (gX_lengths u) (gX_catchFrom u) (gX_catchTo u) (gX_catchGoal u) (gX_refMaps u) (gX_bodyHeights u) (gX_frameWords u) (gX_codeOps u) (gX_codeCells u) (gX_codeArgs u) (gX_heights u) (gX_intKinds u) (gX_refKinds u) (gX_heap u) (gX_newPlaces u) (gX_globals u) (gX_frameMethod u) (gX_framePlace u) (gX_cells u)
theorem uX_reachKinds_2 {post : SX → Prop} {x1 : Int32} {n : Nat} {x2 : Int32} {u : SX} (h : ((24 ≤ x2 → (wpX_takesInts (fun r_2 => (∀ a_intKinds_4 : Nat → Int32 , a_intKinds_4 = upd (gX_intKinds u) 0 r_2 → (wpX_takesRefs (fun r_5 => (∀ a_refKinds_7 : Nat → Int32 , a_refKinds_7 = upd (gX_refKinds u) 0 r_5 → (∃ n56 : Nat , kX_reachKinds_56 post n56 1 0 (sX_intKinds_refKinds a_intKinds_4 a_refKinds_7 u)))) x1))) x1)) ∧ (¬ 24 ≤ x2 → (vp_in x2 24 ∧ ∀ a_intKinds_60 : Nat → Int32 , a_intKinds_60 = upd (gX_intKinds u) x2.toNatClampNeg 4095 → (vp_in x2 24 ∧ ∀ a_refKinds_62 : Nat → Int32 , a_refKinds_62 = upd (gX_refKinds u) x2.toNatClampNeg 4095 → (∀ x2_63 : Int32 , x2_63 = x2 + 1 → (kX_reachKinds_2 post x1 n x2_63 (sX_intKinds_refKinds a_intKinds_60 a_refKinds_62 u)))))))) : kX_reachKinds_2 post x1 (n + 1) x2 u := h
theorem upX_reachKinds {post : SX → Prop} {u : SX} {p0 : Int32} (h : ∃ n2 : Nat , kX_reachKinds_2 post p0 n2 0 u) : wpX_reachKinds post u p0 := h
theorem upX_neededInts {post : Int32 → Prop} {u : SX} {p0 : Int32} {p1 : Int32} {p2 : Int32} (h : ((p0 < 4 → (post 0)) ∧ (¬ p0 < 4 → (((19 < p0 → (post 0)) ∧ (¬ 19 < p0 → (((p0 = 4 → (post 3)) ∧ (¬ p0 = 4 → (((p0 = 5 → (post 3)) ∧ (¬ p0 = 5 → (((p0 = 6 → (post 3)) ∧ (¬ p0 = 6 → (((p0 = 7 → (post 3)) ∧ (¬ p0 = 7 → (((p0 = 8 → (post 0)) ∧ (¬ p0 = 8 → (((p0 = 9 → (post 1)) ∧ (¬ p0 = 9 → (((p0 = 10 → (post 0)) ∧ (¬ p0 = 10 → (((p0 = 11 → (post 0)) ∧ (¬ p0 = 11 → (((p0 = 12 → (post 0)) ∧ (¬ p0 = 12 → (((p0 = 13 → (post 0)) ∧ (¬ p0 = 13 → (((p0 = 14 → (¬ (16 : Int32) = 0 ∧ (¬ (16 : Int32) = 0 ∧ (wpX_isRefField (fun r_16 => (((r_16 = 0 → (post 2)) ∧ (¬ r_16 = 0 → (post 0))))) u (p1 / 16) (p1 - p1 / 16 * 16))))) ∧ (¬ p0 = 14 → (((p0 = 15 → (post 0)) ∧ (¬ p0 = 15 → (((p0 = 16 → (wpX_takesInts (fun r_60 => (post r_60)) p1)) ∧ (¬ p0 = 16 → (((p0 = 17 → (post 2)) ∧ (¬ p0 = 17 → (((p0 = 18 → (wpX_givesRef (fun r_63 => (((r_63 = 0 → (post 1)) ∧ (¬ r_63 = 0 → (post 0))))) p2)) ∧ (¬ p0 = 18 → (((p0 = 19 → (post 1)) ∧ (¬ p0 = 19 → (True))))))))))))))))))))))))))))))))))))))))))))))))))))))) : wpX_neededInts post u p0 p1 p2 := h
theorem upX_neededRefs {post : Int32 → Prop} {u : SX} {p0 : Int32} {p1 : Int32} {p2 : Int32} (h : ((p0 < 10 → (post 0)) ∧ (¬ p0 < 10 → (((23 < p0 → (post 0)) ∧ (¬ 23 < p0 → (((p0 = 10 → (post 1)) ∧ (¬ p0 = 10 → (((p0 = 11 → (post 3)) ∧ (¬ p0 = 11 → (((p0 = 12 → (post 0)) ∧ (¬ p0 = 12 → (((p0 = 13 → (post 1)) ∧ (¬ p0 = 13 → (((p0 = 14 → (¬ (16 : Int32) = 0 ∧ (¬ (16 : Int32) = 0 ∧ (wpX_isRefField (fun r_10 => (((r_10 = 0 → (post 1)) ∧ (¬ r_10 = 0 → (post 3))))) u (p1 / 16) (p1 - p1 / 16 * 16))))) ∧ (¬ p0 = 14 → (((p0 = 15 → (post 1)) ∧ (¬ p0 = 15 → (((p0 = 16 → (wpX_takesRefs (fun r_54 => (post r_54)) p1)) ∧ (¬ p0 = 16 → (((p0 = 17 → (post 1)) ∧ (¬ p0 = 17 → (((p0 = 18 → (wpX_givesRef (fun r_57 => (((r_57 = 0 → (post 0)) ∧ (¬ r_57 = 0 → (post 1))))) p2)) ∧ (¬ p0 = 18 → (((p0 = 19 → (post 0)) ∧ (¬ p0 = 19 → (((p0 = 20 → (post 0)) ∧ (¬ p0 = 20 → (((p0 = 21 → (post 0)) ∧ (¬ p0 = 21 → (((p0 = 22 → (post 0)) ∧ (¬ p0 = 22 → (((p0 = 23 → (post 1)) ∧ (¬ p0 = 23 → (True))))))))))))))))))))))))))))))))))))))))))))))))) : wpX_neededRefs post u p0 p1 p2 := h
def kX_kindFault_2 (post : Int32 → Prop) (x1 : Int32) (n : Nat) (x2 : Int32) (u : SX) : Prop := wX_kindFault_2 post x1 (gX_faultPlace u) (gX_heapEnd u) (gX_frames u) (gX_frameWordsUsed u) (gX_wanted u) (gX_outcome u) (gX_lastResult u) (gX_lastOrigin u) (gX_done u) (gX_collections u) (gX_stayed u) (gX_turnedCount u) (gX_linkedCount u) (gX_superOf u) (gX_fieldCount u) (gX_refFields u) (gX_ownMethods u) (gX_initialisers u) (gX_ready u) (gX_ops u) (gX_operands u) (gX_lengths u) (gX_catchFrom u) (gX_catchTo u) (gX_catchGoal u) (gX_refMaps u) (gX_bodyHeights u) (gX_frameWords u) (gX_codeOps u) (gX_codeCells u) (gX_codeArgs u) (gX_heights u) (gX_intKinds u) (gX_refKinds u) (gX_heap u) (gX_newPlaces u) (gX_globals u) (gX_frameMethod u) (gX_framePlace u) (gX_cells u) n x2
theorem uX_kindFault_2 {post : Int32 → Prop} {x1 : Int32} {n : Nat} {x2 : Int32} {u : SX} (h : ((((gX_lengths u) 8) ≤ x2 → (post (- 1))) ∧ (¬ ((gX_lengths u) 8) ≤ x2 → (vp_in x2 24 ∧ (((((gX_heights u) x2.toNatClampNeg) = 0 → (∀ x2_145 : Int32 , x2_145 = x2 + 1 → (kX_kindFault_2 post x1 n x2_145 u))) ∧ (¬ ((gX_heights u) x2.toNatClampNeg) = 0 → (vp_in (192 + x2) 216 ∧ (∀ x3_5 : Int32 , x3_5 = (gX_ops u) (192 + x2).toNatClampNeg → (vp_in (192 + x2) 216 ∧ (∀ x4_7 : Int32 , x4_7 = (gX_operands u) (192 + x2).toNatClampNeg → (wpX_heightAt (fun r_8 => (wpX_pops (fun r_49 => (∀ x5_50 : Int32 , x5_50 = (6 + r_8) - r_49 → (wpX_neededInts (fun r_51 => (∀ x6_92 : Int32 , x6_92 = r_51 <<< (x5_50 &&& 31) → (wpX_neededRefs (fun r_93 => (∀ x7_134 : Int32 , x7_134 = r_93 <<< (x5_50 &&& 31) → (vp_in x2 24 ∧ ((((((gX_intKinds u) x2.toNatClampNeg) &&& x6_92) = x6_92 → (vp_in x2 24 ∧ ((((((gX_refKinds u) x2.toNatClampNeg) &&& x7_134) = x7_134 → (((x3_5 = 2 → (vp_in x2 24 ∧ (vp_in x2 24 ∧ ((((((((gX_intKinds u) x2.toNatClampNeg) ||| ((gX_refKinds u) x2.toNatClampNeg)) >>> (x4_7 &&& 31)) &&& 1) = 0 → (post x2)) ∧ (¬ (((((gX_intKinds u) x2.toNatClampNeg) ||| ((gX_refKinds u) x2.toNatClampNeg)) >>> (x4_7 &&& 31)) &&& 1) = 0 → (∀ x2_144 : Int32 , x2_144 = x2 + 1 → (kX_kindFault_2 post x1 n x2_144 u)))))))) ∧ (¬ x3_5 = 2 → (∀ x2_140 : Int32 , x2_140 = x2 + 1 → (kX_kindFault_2 post x1 n x2_140 u)))))) ∧ (¬ (((gX_refKinds u) x2.toNatClampNeg) &&& x7_134) = x7_134 → (post x2)))))) ∧ (¬ (((gX_intKinds u) x2.toNatClampNeg) &&& x6_92) = x6_92 → (post x2))))))) u x3_5 x4_7 x1))) u x3_5 x4_7 x1))) x3_5 x4_7)) u x2)))))))))))) : kX_kindFault_2 post x1 (n + 1) x2 u := h
theorem upX_kindFault {post : Int32 → Prop} {u : SX} {p0 : Int32} (h : ∃ n2 : Nat , kX_kindFault_2 post p0 n2 0 u) : wpX_kindFault post u p0 := h
def kX_greatestHeight_33 (post : Int32 → Prop) (J4 : Int32 → Int32 → Prop) (x1 : Int32) (x2 : Int32) (z0 : Int32)  (u : SX) : Prop := wX_greatestHeight_33 post J4 x1 x2 z0 (gX_faultPlace u) (gX_heapEnd u) (gX_frames u) (gX_frameWordsUsed u) (gX_wanted u) (gX_outcome u) (gX_lastResult u) (gX_lastOrigin u) (gX_done u) (gX_collections u) (gX_stayed u) (gX_turnedCount u) (gX_linkedCount u) (gX_superOf u) (gX_fieldCount u) (gX_refFields u) (gX_ownMethods u) (gX_initialisers u) (gX_ready u) (gX_ops u) (gX_operands u) (gX_lengths u) (gX_catchFrom u) (gX_catchTo u) (gX_catchGoal u) (gX_refMaps u) (gX_bodyHeights u) (gX_frameWords u) (gX_codeOps u) (gX_codeCells u) (gX_codeArgs u) (gX_heights u) (gX_intKinds u) (gX_refKinds u) (gX_heap u) (gX_newPlaces u) (gX_globals u) (gX_frameMethod u) (gX_framePlace u) (gX_cells u)
theorem uX_greatestHeight_33 {post : Int32 → Prop} {J4 : Int32 → Int32 → Prop} {x1 : Int32} {x2 : Int32} {z0 : Int32}  {u : SX} (h : ((z0 ≤ x1 → (∀ x2_46 : Int32 , x2_46 = x2 + 1 → (J4 x1 x2_46))) ∧ (¬ z0 ≤ x1 → (∀ x2_47 : Int32 , x2_47 = x2 + 1 → (J4 z0 x2_47))))) : kX_greatestHeight_33 post J4 x1 x2 z0 u := h
def kX_greatestHeight_4 (post : Int32 → Prop) (n : Nat) (x1 : Int32) (x2 : Int32) (u : SX) : Prop := wX_greatestHeight_4 post (gX_faultPlace u) (gX_heapEnd u) (gX_frames u) (gX_frameWordsUsed u) (gX_wanted u) (gX_outcome u) (gX_lastResult u) (gX_lastOrigin u) (gX_done u) (gX_collections u) (gX_stayed u) (gX_turnedCount u) (gX_linkedCount u) (gX_superOf u) (gX_fieldCount u) (gX_refFields u) (gX_ownMethods u) (gX_initialisers u) (gX_ready u) (gX_ops u) (gX_operands u) (gX_lengths u) (gX_catchFrom u) (gX_catchTo u) (gX_catchGoal u) (gX_refMaps u) (gX_bodyHeights u) (gX_frameWords u) (gX_codeOps u) (gX_codeCells u) (gX_codeArgs u) (gX_heights u) (gX_intKinds u) (gX_refKinds u) (gX_heap u) (gX_newPlaces u) (gX_globals u) (gX_frameMethod u) (gX_framePlace u) (gX_cells u) n x1 x2
theorem uX_greatestHeight_4 {post : Int32 → Prop} {n : Nat} {x1 : Int32} {x2 : Int32} {u : SX} (h : ((((gX_lengths u) 8) ≤ x2 → (post x1)) ∧ (¬ ((gX_lengths u) 8) ≤ x2 → (vp_in x2 24 ∧ (((((gX_heights u) x2.toNatClampNeg) = 0 → (kX_greatestHeight_33 post ((fun x1 x2 => kX_greatestHeight_4 post n x1 x2 u)) x1 x2 0 u)) ∧ (¬ ((gX_heights u) x2.toNatClampNeg) = 0 → (wpX_heightAt (fun r_4 => (kX_greatestHeight_33 post ((fun x1 x2 => kX_greatestHeight_4 post n x1 x2 u)) x1 x2 r_4 u)) u x2)))))))) : kX_greatestHeight_4 post (n + 1) x1 x2 u := h
theorem upX_greatestHeight {post : Int32 → Prop} {u : SX} (h : ∃ n4 : Nat , kX_greatestHeight_4 post n4 0 0 u) : wpX_greatestHeight post u := h
def kX_takeDraft_86 (post : SX → Prop) (J10 : Int32 → SX → Prop) (x1 : Int32) (x2 : Int32) (x3 : Int32) (z0 : Int32) (z1 : Int32)  (u : SX) : Prop := wX_takeDraft_86 post (fun x3 a_superOf a_fieldCount a_refFields a_ownMethods a_initialisers a_ready a_ops a_operands a_lengths a_catchFrom a_catchTo a_catchGoal a_refMaps a_bodyHeights a_frameWords a_codeOps a_codeCells a_codeArgs a_heights a_intKinds a_refKinds a_heap a_newPlaces a_globals a_frameMethod a_framePlace a_cells => J10 x3 ((gX_faultPlace u), (gX_heapEnd u), (gX_frames u), (gX_frameWordsUsed u), (gX_wanted u), (gX_outcome u), (gX_lastResult u), (gX_lastOrigin u), (gX_done u), (gX_collections u), (gX_stayed u), (gX_turnedCount u), (gX_linkedCount u), a_superOf, a_fieldCount, a_refFields, a_ownMethods, a_initialisers, a_ready, a_ops, a_operands, a_lengths, a_catchFrom, a_catchTo, a_catchGoal, a_refMaps, a_bodyHeights, a_frameWords, a_codeOps, a_codeCells, a_codeArgs, a_heights, a_intKinds, a_refKinds, a_heap, a_newPlaces, a_globals, a_frameMethod, a_framePlace, a_cells)) x1 x2 x3 z0 z1 (gX_faultPlace u) (gX_heapEnd u) (gX_frames u) (gX_frameWordsUsed u) (gX_wanted u) (gX_outcome u) (gX_lastResult u) (gX_lastOrigin u) (gX_done u) (gX_collections u) (gX_stayed u) (gX_turnedCount u) (gX_linkedCount u) (gX_superOf u) (gX_fieldCount u) (gX_refFields u) (gX_ownMethods u) (gX_initialisers u) (gX_ready u) (gX_ops u) (gX_operands u) (gX_lengths u) (gX_catchFrom u) (gX_catchTo u) (gX_catchGoal u) (gX_refMaps u) (gX_bodyHeights u) (gX_frameWords u) (gX_codeOps u) (gX_codeCells u) (gX_codeArgs u) (gX_heights u) (gX_intKinds u) (gX_refKinds u) (gX_heap u) (gX_newPlaces u) (gX_globals u) (gX_frameMethod u) (gX_framePlace u) (gX_cells u)
theorem uX_takeDraft_86 {post : SX → Prop} {J10 : Int32 → SX → Prop} {x1 : Int32} {x2 : Int32} {x3 : Int32} {z0 : Int32} {z1 : Int32}  {u : SX} (h : vp_in z1 192 ∧ ∀ a_refMaps_64 : Nat → Int32 , a_refMaps_64 = upd (gX_refMaps u) z1.toNatClampNeg z0 → (wpX_heightAt (fun r_65 => (vp_in ((x1 * 24) + x3) 192 ∧ ∀ a_bodyHeights_107 : Nat → Int32 , a_bodyHeights_107 = upd (gX_bodyHeights u) ((x1 * 24) + x3).toNatClampNeg r_65 → (∀ x3_108 : Int32 , x3_108 = x3 + 1 → (J10 x3_108 (sX_refMaps_bodyHeights a_refMaps_64 a_bodyHeights_107 u))))) (sX_refMaps a_refMaps_64 u) x3)) : kX_takeDraft_86 post J10 x1 x2 x3 z0 z1 u := h
def kX_takeDraft_10 (post : SX → Prop) (x1 : Int32) (x2 : Int32) (n : Nat) (x3 : Int32) (u : SX) : Prop := wX_takeDraft_10 post x1 x2 (gX_faultPlace u) (gX_heapEnd u) (gX_frames u) (gX_frameWordsUsed u) (gX_wanted u) (gX_outcome u) (gX_lastResult u) (gX_lastOrigin u) (gX_done u) (gX_collections u) (gX_stayed u) (gX_turnedCount u) (gX_linkedCount u) n x3 (gX_superOf u) (gX_fieldCount u) (gX_refFields u) (gX_ownMethods u) (gX_initialisers u) (gX_ready u) (gX_ops u) (gX_operands u) (gX_lengths u) (gX_catchFrom u) (gX_catchTo u) (gX_catchGoal u) (gX_refMaps u) (gX_bodyHeights u) (gX_frameWords u) (gX_codeOps u) (gX_codeCells u) (gX_codeArgs u) (gX_heights u) (gX_intKinds u) (gX_refKinds u) (gX_heap u) (gX_newPlaces u) (gX_globals u) (gX_frameMethod u) (gX_framePlace u) (gX_cells u)
theorem uX_takeDraft_10 {post : SX → Prop} {x1 : Int32} {x2 : Int32} {n : Nat} {x3 : Int32} {u : SX} (h : ((x2 ≤ x3 → (vp_in x1 9 ∧ ∀ a_lengths_4 : Nat → Int32 , a_lengths_4 = upd (gX_lengths u) x1.toNatClampNeg x2 → (vp_in x1 9 ∧ ∀ a_catchFrom_6 : Nat → Int32 , a_catchFrom_6 = upd (gX_catchFrom u) x1.toNatClampNeg ((gX_catchFrom u) 8) → (vp_in x1 9 ∧ ∀ a_catchTo_8 : Nat → Int32 , a_catchTo_8 = upd (gX_catchTo u) x1.toNatClampNeg ((gX_catchTo u) 8) → (vp_in x1 9 ∧ ∀ a_catchGoal_10 : Nat → Int32 , a_catchGoal_10 = upd (gX_catchGoal u) x1.toNatClampNeg ((gX_catchGoal u) 8) → (wpX_greatestHeight (fun r_11 => (vp_in x1 8 ∧ ∀ a_frameWords_53 : Nat → Int32 , a_frameWords_53 = upd (gX_frameWords u) x1.toNatClampNeg (9 + r_11) → (post (sX_lengths_catchFrom_catchTo_catchGoal_frameWords a_lengths_4 a_catchFrom_6 a_catchTo_8 a_catchGoal_10 a_frameWords_53 u)))) (sX_lengths_catchFrom_catchTo_catchGoal a_lengths_4 a_catchFrom_6 a_catchTo_8 a_catchGoal_10 u))))))) ∧ (¬ x2 ≤ x3 → (vp_in (192 + x3) 216 ∧ (vp_in ((x1 * 24) + x3) 216 ∧ ∀ a_ops_56 : Nat → Int32 , a_ops_56 = upd (gX_ops u) ((x1 * 24) + x3).toNatClampNeg ((gX_ops u) (192 + x3).toNatClampNeg) → (vp_in (192 + x3) 216 ∧ (vp_in ((x1 * 24) + x3) 216 ∧ ∀ a_operands_59 : Nat → Int32 , a_operands_59 = upd (gX_operands u) ((x1 * 24) + x3).toNatClampNeg ((gX_operands u) (192 + x3).toNatClampNeg) → (vp_in x3 24 ∧ (((((gX_heights u) x3.toNatClampNeg) = 0 → (kX_takeDraft_86 post (kX_takeDraft_10 post x1 x2 n) x1 x2 x3 (- 1) ((x1 * 24) + x3) (sX_ops_operands a_ops_56 a_operands_59 u))) ∧ (¬ ((gX_heights u) x3.toNatClampNeg) = 0 → (vp_in x3 24 ∧ (kX_takeDraft_86 post (kX_takeDraft_10 post x1 x2 n) x1 x2 x3 ((gX_refKinds u) x3.toNatClampNeg) ((x1 * 24) + x3) (sX_ops_operands a_ops_56 a_operands_59 u)))))))))))))) : kX_takeDraft_10 post x1 x2 (n + 1) x3 u := h
theorem upX_takeDraft {post : SX → Prop} {u : SX} {p0 : Int32} (h : ∀ x2_1 : Int32 , x2_1 = (gX_lengths u) 8 → (∃ n10 : Nat , kX_takeDraft_10 post p0 x2_1 n10 0 u)) : wpX_takeDraft post u p0 := h
def kX_dropCode_2 (post : SX → Prop) (x1 : Int32) (n : Nat) (x2 : Int32) (u : SX) : Prop := wX_dropCode_2 post x1 (gX_faultPlace u) (gX_heapEnd u) (gX_frames u) (gX_frameWordsUsed u) (gX_wanted u) (gX_outcome u) (gX_lastResult u) (gX_lastOrigin u) (gX_done u) (gX_collections u) (gX_stayed u) (gX_turnedCount u) (gX_linkedCount u) n x2 (gX_superOf u) (gX_fieldCount u) (gX_refFields u) (gX_ownMethods u) (gX_initialisers u) (gX_ready u) (gX_ops u) (gX_operands u) (gX_lengths u) (gX_catchFrom u) (gX_catchTo u) (gX_catchGoal u) (gX_refMaps u) (gX_bodyHeights u) (gX_frameWords u) (gX_codeOps u) (gX_codeCells u) (gX_codeArgs u) (gX_heights u) (gX_intKinds u) (gX_refKinds u) (gX_heap u) (gX_newPlaces u) (gX_globals u) (gX_frameMethod u) (gX_framePlace u) (gX_cells u)
theorem uX_dropCode_2 {post : SX → Prop} {x1 : Int32} {n : Nat} {x2 : Int32} {u : SX} (h : ((24 ≤ x2 → (post u)) ∧ (¬ 24 ≤ x2 → (vp_in ((x1 * 24) + x2) 192 ∧ ∀ a_codeOps_3 : Nat → Int32 , a_codeOps_3 = upd (gX_codeOps u) ((x1 * 24) + x2).toNatClampNeg 0 → (∀ x2_4 : Int32 , x2_4 = x2 + 1 → (kX_dropCode_2 post x1 n x2_4 (sX_codeOps a_codeOps_3 u))))))) : kX_dropCode_2 post x1 (n + 1) x2 u := h
theorem upX_dropCode {post : SX → Prop} {u : SX} {p0 : Int32} (h : ∃ n2 : Nat , kX_dropCode_2 post p0 n2 0 u) : wpX_dropCode post u p0 := h
def kX_unlinkCallsOf_2 (post : SX → Prop) (x1 : Int32) (n : Nat) (x2 : Int32) (u : SX) : Prop := wX_unlinkCallsOf_2 post x1 (gX_faultPlace u) (gX_heapEnd u) (gX_frames u) (gX_frameWordsUsed u) (gX_wanted u) (gX_outcome u) (gX_lastResult u) (gX_lastOrigin u) (gX_done u) (gX_collections u) (gX_stayed u) (gX_turnedCount u) (gX_linkedCount u) n x2 (gX_superOf u) (gX_fieldCount u) (gX_refFields u) (gX_ownMethods u) (gX_initialisers u) (gX_ready u) (gX_ops u) (gX_operands u) (gX_lengths u) (gX_catchFrom u) (gX_catchTo u) (gX_catchGoal u) (gX_refMaps u) (gX_bodyHeights u) (gX_frameWords u) (gX_codeOps u) (gX_codeCells u) (gX_codeArgs u) (gX_heights u) (gX_intKinds u) (gX_refKinds u) (gX_heap u) (gX_newPlaces u) (gX_globals u) (gX_frameMethod u) (gX_framePlace u) (gX_cells u)
theorem uX_unlinkCallsOf_2 {post : SX → Prop} {x1 : Int32} {n : Nat} {x2 : Int32} {u : SX} (h : ((192 ≤ x2 → (post u)) ∧ (¬ 192 ≤ x2 → (vp_in x2 192 ∧ (((((gX_codeOps u) x2.toNatClampNeg) = 28 → (vp_in x2 192 ∧ (((((gX_codeArgs u) x2.toNatClampNeg) = x1 → (vp_in x2 192 ∧ ∀ a_codeOps_9 : Nat → Int32 , a_codeOps_9 = upd (gX_codeOps u) x2.toNatClampNeg 16 → (∀ x2_10 : Int32 , x2_10 = x2 + 1 → (kX_unlinkCallsOf_2 post x1 n x2_10 (sX_codeOps a_codeOps_9 u))))) ∧ (¬ ((gX_codeArgs u) x2.toNatClampNeg) = x1 → (∀ x2_7 : Int32 , x2_7 = x2 + 1 → (kX_unlinkCallsOf_2 post x1 n x2_7 u))))))) ∧ (¬ ((gX_codeOps u) x2.toNatClampNeg) = 28 → (∀ x2_4 : Int32 , x2_4 = x2 + 1 → (kX_unlinkCallsOf_2 post x1 n x2_4 u))))))))) : kX_unlinkCallsOf_2 post x1 (n + 1) x2 u := h
theorem upX_unlinkCallsOf {post : SX → Prop} {u : SX} {p0 : Int32} (h : ∃ n2 : Nat , kX_unlinkCallsOf_2 post p0 n2 0 u) : wpX_unlinkCallsOf post u p0 := h
theorem upX_emptyDraft {post : SX → Prop} {u : SX} (h : ∀ a_lengths_2 : Nat → Int32 , a_lengths_2 = upd (gX_lengths u) 8 0 → (∀ a_catchFrom_4 : Nat → Int32 , a_catchFrom_4 = upd (gX_catchFrom u) 8 0 → (∀ a_catchTo_6 : Nat → Int32 , a_catchTo_6 = upd (gX_catchTo u) 8 0 → (∀ a_catchGoal_8 : Nat → Int32 , a_catchGoal_8 = upd (gX_catchGoal u) 8 0 → (post (sX_lengths_catchFrom_catchTo_catchGoal a_lengths_2 a_catchFrom_4 a_catchTo_6 a_catchGoal_8 u)))))) : wpX_emptyDraft post u := h
theorem upX_make {post : Int32 → SX → Prop} {u : SX} {p0 : Int32} (h : ((p0 < 0 → (post (- 1) (sX_faultPlace (- 1) u))) ∧ (¬ p0 < 0 → (((8 ≤ p0 → (post (- 1) (sX_faultPlace (- 1) u))) ∧ (¬ 8 ≤ p0 → (((((gX_lengths u) 8) = 0 → (post (- 1) (sX_faultPlace (- 1) u))) ∧ (¬ ((gX_lengths u) 8) = 0 → (wpX_missingFault (fun r_4 => (((r_4 = (- 1) → (wpX_reachHeights (fun u1 => (wpX_heightFault (fun r_87 => (((r_87 = (- 1) → (wpX_reachKinds (fun u2 => (wpX_kindFault (fun r_170 => (((r_170 = (- 1) → (wpX_takeDraft (fun u3 => (wpX_dropCode (fun u4 => (wpX_unlinkCallsOf (fun u5 => (wpX_emptyDraft (fun u6 => (post 0 u6)) u5)) u4 p0)) u3 p0)) (sX_faultPlace r_170 u2) p0)) ∧ (¬ r_170 = (- 1) → (post (- 1) (sX_faultPlace r_170 u2)))))) u2 p0)) (sX_faultPlace r_87 u1) p0)) ∧ (¬ r_87 = (- 1) → (post (- 1) (sX_faultPlace r_87 u1)))))) u1)) (sX_faultPlace r_4 u))) ∧ (¬ r_4 = (- 1) → (post (- 1) (sX_faultPlace r_4 u)))))) (sX_faultPlace (- 1) u))))))))))) : wpX_make post u p0 := h
theorem upX_place {post : Int32 → Prop} {u : SX} (h : post (gX_faultPlace u)) : wpX_place post u := h
theorem upX_wipe {post : Int32 → SX → Prop} {u : SX} (h : ∀ x1_1 : Int32 , x1_1 = (gX_lengths u) 8 → (wpX_emptyDraft (fun u1 => (post x1_1 u1)) u)) : wpX_wipe post u := h
theorem upX_body {post : Int32 → Prop} {u : SX} {p0 : Int32} {p1 : Int32} (h : wpX_hasBody (fun r_1 => (((r_1 = 0 → (post (- 1))) ∧ (¬ r_1 = 0 → (((p1 = 0 → (vp_in p0 9 ∧ (post ((gX_lengths u) p0.toNatClampNeg)))) ∧ (¬ p1 = 0 → (((p1 = 1 → (vp_in p0 8 ∧ (post ((gX_frameWords u) p0.toNatClampNeg)))) ∧ (¬ p1 = 1 → (post (- 1)))))))))))) u p0) : wpX_body post u p0 p1 := h
theorem upX_map {post : Int32 → Prop} {u : SX} {p0 : Int32} {p1 : Int32} (h : wpX_hasBody (fun r_1 => (((r_1 = 0 → (post (- 1))) ∧ (¬ r_1 = 0 → (((p1 < 0 → (post (- 1))) ∧ (¬ p1 < 0 → (vp_in p0 9 ∧ (((p1 < ((gX_lengths u) p0.toNatClampNeg) → (vp_in ((p0 * 24) + p1) 192 ∧ (post ((gX_refMaps u) ((p0 * 24) + p1).toNatClampNeg)))) ∧ (¬ p1 < ((gX_lengths u) p0.toNatClampNeg) → (post (- 1))))))))))))) u p0) : wpX_map post u p0 p1 := h
theorem upX_isCode {post : Int32 → Prop} {u : SX} {p0 : Int32} (h : vp_in (p0 * 24) 192 ∧ (((((gX_codeOps u) (p0 * 24).toNatClampNeg) = 0 → (post 0)) ∧ (¬ ((gX_codeOps u) (p0 * 24).toNatClampNeg) = 0 → (post 1))))) : wpX_isCode post u p0 := h
theorem upX_writeCode {post : SX → Prop} {u : SX} {p0 : Int32} {p1 : Int32} {p2 : Int32} {p3 : Int32} (h : vp_in p0 192 ∧ ∀ a_codeOps_2 : Nat → Int32 , a_codeOps_2 = upd (gX_codeOps u) p0.toNatClampNeg p1 → (vp_in p0 192 ∧ ∀ a_codeCells_4 : Nat → Int32 , a_codeCells_4 = upd (gX_codeCells u) p0.toNatClampNeg p2 → (vp_in p0 192 ∧ ∀ a_codeArgs_6 : Nat → Int32 , a_codeArgs_6 = upd (gX_codeArgs u) p0.toNatClampNeg p3 → (post (sX_codeOps_codeCells_codeArgs a_codeOps_2 a_codeCells_4 a_codeArgs_6 u))))) : wpX_writeCode post u p0 p1 p2 p3 := h
def kX_turnInstruction_214 (post : SX → Prop) (x1 : Int32) (x2 : Int32) (x3 : Int32) (x4 : Int32)  (u : SX) : Prop := wX_turnInstruction_214 post x1 x2 x3 x4 (gX_faultPlace u) (gX_heapEnd u) (gX_frames u) (gX_frameWordsUsed u) (gX_wanted u) (gX_outcome u) (gX_lastResult u) (gX_lastOrigin u) (gX_done u) (gX_collections u) (gX_stayed u) (gX_turnedCount u) (gX_linkedCount u) (gX_superOf u) (gX_fieldCount u) (gX_refFields u) (gX_ownMethods u) (gX_initialisers u) (gX_ready u) (gX_ops u) (gX_operands u) (gX_lengths u) (gX_catchFrom u) (gX_catchTo u) (gX_catchGoal u) (gX_refMaps u) (gX_bodyHeights u) (gX_frameWords u) (gX_codeOps u) (gX_codeCells u) (gX_codeArgs u) (gX_heights u) (gX_intKinds u) (gX_refKinds u) (gX_heap u) (gX_newPlaces u) (gX_globals u) (gX_frameMethod u) (gX_framePlace u) (gX_cells u)
theorem uX_turnInstruction_214 {post : SX → Prop} {x1 : Int32} {x2 : Int32} {x3 : Int32} {x4 : Int32}  {u : SX} (h : wpX_writeCode (fun u1 => (post u1)) u x1 x2 x4 x3) : kX_turnInstruction_214 post x1 x2 x3 x4 u := h
def kX_turnInstruction_201 (post : SX → Prop) (x1 : Int32) (x3 : Int32) (x4 : Int32)  (u : SX) : Prop := wX_turnInstruction_201 post x1 x3 x4 (gX_faultPlace u) (gX_heapEnd u) (gX_frames u) (gX_frameWordsUsed u) (gX_wanted u) (gX_outcome u) (gX_lastResult u) (gX_lastOrigin u) (gX_done u) (gX_collections u) (gX_stayed u) (gX_turnedCount u) (gX_linkedCount u) (gX_superOf u) (gX_fieldCount u) (gX_refFields u) (gX_ownMethods u) (gX_initialisers u) (gX_ready u) (gX_ops u) (gX_operands u) (gX_lengths u) (gX_catchFrom u) (gX_catchTo u) (gX_catchGoal u) (gX_refMaps u) (gX_bodyHeights u) (gX_frameWords u) (gX_codeOps u) (gX_codeCells u) (gX_codeArgs u) (gX_heights u) (gX_intKinds u) (gX_refKinds u) (gX_heap u) (gX_newPlaces u) (gX_globals u) (gX_frameMethod u) (gX_framePlace u) (gX_cells u)
theorem uX_turnInstruction_201 {post : SX → Prop} {x1 : Int32} {x3 : Int32} {x4 : Int32}  {u : SX} (h : wpX_writeCode (fun u1 => (post u1)) u x1 27 x4 x3) : kX_turnInstruction_201 post x1 x3 x4 u := h
theorem upX_turnInstruction {post : SX → Prop} {u : SX} {p0 : Int32} {p1 : Int32} {p2 : Int32} (h : vp_in p0 192 ∧ (wpX_pops (fun r_2 => (∀ x4_3 : Int32 , x4_3 = (6 + ((gX_bodyHeights u) p0.toNatClampNeg)) - r_2 → (((p1 < 0 → (kX_turnInstruction_214 post p0 p1 p2 x4_3 u)) ∧ (¬ p1 < 0 → (((21 < p1 → (kX_turnInstruction_214 post p0 p1 p2 x4_3 u)) ∧ (¬ 21 < p1 → (((p1 = 0 → (wpX_writeCode (fun u1 => (post u1)) u p0 24 x4_3 p2)) ∧ (¬ p1 = 0 → (((p1 = 1 → (wpX_writeCode (fun u2 => (post u2)) u p0 24 x4_3 0)) ∧ (¬ p1 = 1 → (((p1 = 2 → (wpX_writeCode (fun u3 => (post u3)) u p0 25 x4_3 p2)) ∧ (¬ p1 = 2 → (((p1 = 3 → (wpX_writeCode (fun u4 => (post u4)) u p0 25 p2 x4_3)) ∧ (¬ p1 = 3 → (((p1 = 4 → (kX_turnInstruction_214 post p0 p1 p2 x4_3 u)) ∧ (¬ p1 = 4 → (((p1 = 5 → (kX_turnInstruction_214 post p0 p1 p2 x4_3 u)) ∧ (¬ p1 = 5 → (((p1 = 6 → (kX_turnInstruction_214 post p0 p1 p2 x4_3 u)) ∧ (¬ p1 = 6 → (((p1 = 7 → (kX_turnInstruction_214 post p0 p1 p2 x4_3 u)) ∧ (¬ p1 = 7 → (((p1 = 8 → (kX_turnInstruction_214 post p0 p1 p2 x4_3 u)) ∧ (¬ p1 = 8 → (((p1 = 9 → (kX_turnInstruction_201 post p0 p2 x4_3 u)) ∧ (¬ p1 = 9 → (((p1 = 10 → (kX_turnInstruction_201 post p0 p2 x4_3 u)) ∧ (¬ p1 = 10 → (((p1 = 11 → (kX_turnInstruction_214 post p0 p1 p2 x4_3 u)) ∧ (¬ p1 = 11 → (((p1 = 12 → (kX_turnInstruction_214 post p0 p1 p2 x4_3 u)) ∧ (¬ p1 = 12 → (((p1 = 13 → (kX_turnInstruction_214 post p0 p1 p2 x4_3 u)) ∧ (¬ p1 = 13 → (((p1 = 14 → (kX_turnInstruction_214 post p0 p1 p2 x4_3 u)) ∧ (¬ p1 = 14 → (((p1 = 15 → (kX_turnInstruction_214 post p0 p1 p2 x4_3 u)) ∧ (¬ p1 = 15 → (((p1 = 16 → (kX_turnInstruction_214 post p0 p1 p2 x4_3 u)) ∧ (¬ p1 = 16 → (((p1 = 17 → (kX_turnInstruction_214 post p0 p1 p2 x4_3 u)) ∧ (¬ p1 = 17 → (((p1 = 18 → (kX_turnInstruction_214 post p0 p1 p2 x4_3 u)) ∧ (¬ p1 = 18 → (((p1 = 19 → (kX_turnInstruction_214 post p0 p1 p2 x4_3 u)) ∧ (¬ p1 = 19 → (((p1 = 20 → (wpX_writeCode (fun u5 => (post u5)) u p0 25 (x4_3 + 1) x4_3)) ∧ (¬ p1 = 20 → (((p1 = 21 → (wpX_writeCode (fun u6 => (post u6)) u p0 26 x4_3 0)) ∧ (¬ p1 = 21 → (True))))))))))))))))))))))))))))))))))))))))))))))))))))))))))))))))))))))))))) p1 p2)) : wpX_turnInstruction post u p0 p1 p2 := h
def kX_turnIntoCode_17 (post : SX → Prop) (x1 : Int32) (x2 : Int32) (n : Nat) (x3 : Int32) (u : SX) : Prop := wX_turnIntoCode_17 post x1 x2 n x3 (gX_faultPlace u) (gX_heapEnd u) (gX_frames u) (gX_frameWordsUsed u) (gX_wanted u) (gX_outcome u) (gX_lastResult u) (gX_lastOrigin u) (gX_done u) (gX_collections u) (gX_stayed u) (gX_turnedCount u) (gX_linkedCount u) (gX_superOf u) (gX_fieldCount u) (gX_refFields u) (gX_ownMethods u) (gX_initialisers u) (gX_ready u) (gX_ops u) (gX_operands u) (gX_lengths u) (gX_catchFrom u) (gX_catchTo u) (gX_catchGoal u) (gX_refMaps u) (gX_bodyHeights u) (gX_frameWords u) (gX_codeOps u) (gX_codeCells u) (gX_codeArgs u) (gX_heights u) (gX_intKinds u) (gX_refKinds u) (gX_heap u) (gX_newPlaces u) (gX_globals u) (gX_frameMethod u) (gX_framePlace u) (gX_cells u)
theorem uX_turnIntoCode_17 {post : SX → Prop} {x1 : Int32} {x2 : Int32} {n : Nat} {x3 : Int32} {u : SX} (h : vp_in x1 9 ∧ ((((x2 + ((gX_lengths u) x1.toNatClampNeg)) ≤ x3 → (post u)) ∧ (¬ (x2 + ((gX_lengths u) x1.toNatClampNeg)) ≤ x3 → (vp_in x3 192 ∧ (((((gX_refMaps u) x3.toNatClampNeg) = (- 1) → (∀ x3_7 : Int32 , x3_7 = x3 + 1 → (kX_turnIntoCode_17 post x1 x2 n x3_7 u))) ∧ (¬ ((gX_refMaps u) x3.toNatClampNeg) = (- 1) → (vp_in x3 216 ∧ (vp_in x3 216 ∧ (wpX_turnInstruction (fun u1 => (∀ x3_51 : Int32 , x3_51 = x3 + 1 → (kX_turnIntoCode_17 post x1 x2 n x3_51 u1))) u x3 ((gX_ops u) x3.toNatClampNeg) ((gX_operands u) x3.toNatClampNeg)))))))))))) : kX_turnIntoCode_17 post x1 x2 (n + 1) x3 u := h
theorem upX_turnIntoCode {post : SX → Prop} {u : SX} {p0 : Int32} (h : ∀ f_turnedCount_1 : Int32 , f_turnedCount_1 = (gX_turnedCount u) + 1 → (∀ x2_2 : Int32 , x2_2 = p0 * 24 → (∃ n17 : Nat , kX_turnIntoCode_17 post p0 x2_2 n17 x2_2 (sX_turnedCount f_turnedCount_1 u)))) : wpX_turnIntoCode post u p0 := h
def kX_takeFromOutside_29 (post : SX → Prop) (x1 : Int32) (x3 : Int32) (x4 : Int32) (x5 : Int32) (z0 : Int32) (z1 : Int32)  (u : SX) : Prop := wX_takeFromOutside_29 post x1 x3 x4 x5 z0 z1 (gX_faultPlace u) (gX_heapEnd u) (gX_frames u) (gX_frameWordsUsed u) (gX_wanted u) (gX_outcome u) (gX_lastResult u) (gX_lastOrigin u) (gX_done u) (gX_collections u) (gX_stayed u) (gX_turnedCount u) (gX_linkedCount u) (gX_superOf u) (gX_fieldCount u) (gX_refFields u) (gX_ownMethods u) (gX_initialisers u) (gX_ready u) (gX_ops u) (gX_operands u) (gX_lengths u) (gX_catchFrom u) (gX_catchTo u) (gX_catchGoal u) (gX_refMaps u) (gX_bodyHeights u) (gX_frameWords u) (gX_codeOps u) (gX_codeCells u) (gX_codeArgs u) (gX_heights u) (gX_intKinds u) (gX_refKinds u) (gX_heap u) (gX_newPlaces u) (gX_globals u) (gX_frameMethod u) (gX_framePlace u) (gX_cells u)
theorem uX_takeFromOutside_29 {post : SX → Prop} {x1 : Int32} {x3 : Int32} {x4 : Int32} {x5 : Int32} {z0 : Int32} {z1 : Int32}  {u : SX} (h : vp_in z1 168 ∧ ∀ a_cells_4 : Nat → Int32 , a_cells_4 = upd (gX_cells u) z1.toNatClampNeg z0 → ((((x5 &&& 2) = 0 → (∀ a_cells_7 : Nat → Int32 , a_cells_7 = upd a_cells_4 1 x4 → (post (sX_wanted_cells x1 a_cells_7 u)))) ∧ (¬ (x5 &&& 2) = 0 → (vp_in x3 4 ∧ (∀ a_cells_10 : Nat → Int32 , a_cells_10 = upd a_cells_4 1 ((gX_globals u) x3.toNatClampNeg) → (post (sX_wanted_cells x1 a_cells_10 u)))))))) : kX_takeFromOutside_29 post x1 x3 x4 x5 z0 z1 u := h
theorem upX_takeFromOutside {post : SX → Prop} {u : SX} {p0 : Int32} {p1 : Int32} {p2 : Int32} {p3 : Int32} (h : wpX_takesRefs (fun r_1 => ((((r_1 &&& 1) = 0 → (kX_takeFromOutside_29 post p0 p2 p3 r_1 p3 0 u)) ∧ (¬ (r_1 &&& 1) = 0 → (vp_in p1 4 ∧ (kX_takeFromOutside_29 post p0 p2 p3 r_1 ((gX_globals u) p1.toNatClampNeg) 0 u)))))) p0) : wpX_takeFromOutside post u p0 p1 p2 p3 := h
theorem upX_leave {post : SX → Prop} {u : SX} (h : ∀ f_frames_1 : Int32 , f_frames_1 = (gX_frames u) - 1 → (vp_in f_frames_1 14 ∧ (vp_in ((gX_frameMethod u) f_frames_1.toNatClampNeg) 8 ∧ (∀ f_frameWordsUsed_4 : Int32 , f_frameWordsUsed_4 = (gX_frameWordsUsed u) - ((gX_frameWords u) ((gX_frameMethod u) f_frames_1.toNatClampNeg).toNatClampNeg) → (post (sX_frames_frameWordsUsed f_frames_1 f_frameWordsUsed_4 u)))))) : wpX_leave post u := h
def kX_raise_34 (post : SX → Prop) (x1 : Int32) (x2 : Int32) (n : Nat) (x3 : Int32) (u : SX) : Prop := wX_raise_34 post x1 x2 n x3 (gX_faultPlace u) (gX_heapEnd u) (gX_frames u) (gX_frameWordsUsed u) (gX_wanted u) (gX_outcome u) (gX_lastResult u) (gX_lastOrigin u) (gX_done u) (gX_collections u) (gX_stayed u) (gX_turnedCount u) (gX_linkedCount u) (gX_superOf u) (gX_fieldCount u) (gX_refFields u) (gX_ownMethods u) (gX_initialisers u) (gX_ready u) (gX_ops u) (gX_operands u) (gX_lengths u) (gX_catchFrom u) (gX_catchTo u) (gX_catchGoal u) (gX_refMaps u) (gX_bodyHeights u) (gX_frameWords u) (gX_codeOps u) (gX_codeCells u) (gX_codeArgs u) (gX_heights u) (gX_intKinds u) (gX_refKinds u) (gX_heap u) (gX_newPlaces u) (gX_globals u) (gX_frameMethod u) (gX_framePlace u) (gX_cells u)
theorem uX_raise_34 {post : SX → Prop} {x1 : Int32} {x2 : Int32} {n : Nat} {x3 : Int32} {u : SX} (h : ((x3 < 0 → (post (sX_outcome_lastResult_lastOrigin 1 x1.toInt64 x2 u))) ∧ (¬ x3 < 0 → (vp_in x3 14 ∧ (∀ x4_7 : Int32 , x4_7 = (gX_frameMethod u) x3.toNatClampNeg → (vp_in x3 14 ∧ (wpX_isCaught (fun r_9 => (((r_9 = 0 → (wpX_leave (fun u1 => (∀ x3_92 : Int32 , x3_92 = x3 + (- 1) → (kX_raise_34 post x1 x2 n x3_92 u1))) u)) ∧ (¬ r_9 = 0 → (vp_in ((x3 * 12) + 6) 168 ∧ ∀ a_cells_94 : Nat → Int32 , a_cells_94 = upd (gX_cells u) ((x3 * 12) + 6).toNatClampNeg x1 → (vp_in x4_7 9 ∧ (vp_in x3 14 ∧ ∀ a_framePlace_97 : Nat → Int32 , a_framePlace_97 = upd (gX_framePlace u) x3.toNatClampNeg ((gX_catchGoal u) x4_7.toNatClampNeg) → (post (sX_framePlace_cells a_framePlace_97 a_cells_94 u))))))))) u x4_7 ((gX_framePlace u) x3.toNatClampNeg)))))))) : kX_raise_34 post x1 x2 (n + 1) x3 u := h
theorem upX_raise {post : SX → Prop} {u : SX} {p0 : Int32} (h : vp_in ((gX_frames u) - 1) 14 ∧ (vp_in ((gX_frames u) - 1) 14 ∧ (∀ x2_3 : Int32 , x2_3 = (((gX_frameMethod u) ((gX_frames u) - 1).toNatClampNeg) * 32) + ((gX_framePlace u) ((gX_frames u) - 1).toNatClampNeg) → (∀ x3_4 : Int32 , x3_4 = (gX_frames u) - 1 → (∃ n34 : Nat , kX_raise_34 post p0 x2_3 n34 x3_4 u))))) : wpX_raise post u p0 := h
def kX_enterWanted_23 (post : SX → Prop) (x1 : Int32)  (u : SX) : Prop := wX_enterWanted_23 post x1 (gX_faultPlace u) (gX_heapEnd u) (gX_frames u) (gX_frameWordsUsed u) (gX_wanted u) (gX_outcome u) (gX_lastResult u) (gX_lastOrigin u) (gX_done u) (gX_collections u) (gX_stayed u) (gX_turnedCount u) (gX_linkedCount u) (gX_superOf u) (gX_fieldCount u) (gX_refFields u) (gX_ownMethods u) (gX_initialisers u) (gX_ready u) (gX_ops u) (gX_operands u) (gX_lengths u) (gX_catchFrom u) (gX_catchTo u) (gX_catchGoal u) (gX_refMaps u) (gX_bodyHeights u) (gX_frameWords u) (gX_codeOps u) (gX_codeCells u) (gX_codeArgs u) (gX_heights u) (gX_intKinds u) (gX_refKinds u) (gX_heap u) (gX_newPlaces u) (gX_globals u) (gX_frameMethod u) (gX_framePlace u) (gX_cells u)
theorem uX_enterWanted_23 {post : SX → Prop} {x1 : Int32}  {u : SX} (h : vp_in x1 8 ∧ (((((gX_frameWordsUsed u) + ((gX_frameWords u) x1.toNatClampNeg)) ≤ 120 → (vp_in x1 8 ∧ (∀ f_frameWordsUsed_46 : Int32 , f_frameWordsUsed_46 = (gX_frameWordsUsed u) + ((gX_frameWords u) x1.toNatClampNeg) → (vp_in (gX_frames u) 14 ∧ ∀ a_frameMethod_48 : Nat → Int32 , a_frameMethod_48 = upd (gX_frameMethod u) (gX_frames u).toNatClampNeg x1 → (vp_in (gX_frames u) 14 ∧ ∀ a_framePlace_50 : Nat → Int32 , a_framePlace_50 = upd (gX_framePlace u) (gX_frames u).toNatClampNeg 0 → (∀ f_frames_51 : Int32 , f_frames_51 = (gX_frames u) + 1 → (post (sX_frames_frameWordsUsed_frameMethod_framePlace f_frames_51 f_frameWordsUsed_46 a_frameMethod_48 a_framePlace_50 u)))))))) ∧ (¬ ((gX_frameWordsUsed u) + ((gX_frameWords u) x1.toNatClampNeg)) ≤ 120 → (wpX_raise (fun u1 => (post u1)) u 5))))) : kX_enterWanted_23 post x1 u := h
theorem upX_enterWanted {post : SX → Prop} {u : SX} (h : wpX_isCode (fun r_1 => (((r_1 = 0 → (wpX_turnIntoCode (fun u1 => (kX_enterWanted_23 post (gX_wanted u) u1)) (sX_wanted (- 1) u) (gX_wanted u))) ∧ (¬ r_1 = 0 → (kX_enterWanted_23 post (gX_wanted u) (sX_wanted (- 1) u)))))) (sX_wanted (- 1) u) (gX_wanted u)) : wpX_enterWanted post u := h
theorem upX_codePlace {post : Int32 → Prop} {u : SX} (h : vp_in ((gX_frames u) - 1) 14 ∧ (vp_in ((gX_frames u) - 1) 14 ∧ (post ((((gX_frameMethod u) ((gX_frames u) - 1).toNatClampNeg) * 24) + ((gX_framePlace u) ((gX_frames u) - 1).toNatClampNeg))))) : wpX_codePlace post u := h
theorem upX_advance {post : SX → Prop} {u : SX} (h : vp_in ((gX_frames u) - 1) 14 ∧ (vp_in ((gX_frames u) - 1) 14 ∧ ∀ a_framePlace_3 : Nat → Int32 , a_framePlace_3 = upd (gX_framePlace u) ((gX_frames u) - 1).toNatClampNeg (((gX_framePlace u) ((gX_frames u) - 1).toNatClampNeg) + 1) → (post (sX_framePlace a_framePlace_3 u)))) : wpX_advance post u := h
def kX_calculate_116 (post : SX → Prop)  (u : SX) : Prop := wX_calculate_116 post (gX_faultPlace u) (gX_heapEnd u) (gX_frames u) (gX_frameWordsUsed u) (gX_wanted u) (gX_outcome u) (gX_lastResult u) (gX_lastOrigin u) (gX_done u) (gX_collections u) (gX_stayed u) (gX_turnedCount u) (gX_linkedCount u) (gX_superOf u) (gX_fieldCount u) (gX_refFields u) (gX_ownMethods u) (gX_initialisers u) (gX_ready u) (gX_ops u) (gX_operands u) (gX_lengths u) (gX_catchFrom u) (gX_catchTo u) (gX_catchGoal u) (gX_refMaps u) (gX_bodyHeights u) (gX_frameWords u) (gX_codeOps u) (gX_codeCells u) (gX_codeArgs u) (gX_heights u) (gX_intKinds u) (gX_refKinds u) (gX_heap u) (gX_newPlaces u) (gX_globals u) (gX_frameMethod u) (gX_framePlace u) (gX_cells u)
theorem uX_calculate_116 {post : SX → Prop}  {u : SX} (h : wpX_advance (fun u1 => (post u1)) u) : kX_calculate_116 post u := h
def kX_calculate_115 (post : SX → Prop) (z0 : Int32) (z1 : Int32)  (u : SX) : Prop := wX_calculate_115 post z0 z1 (gX_faultPlace u) (gX_heapEnd u) (gX_frames u) (gX_frameWordsUsed u) (gX_wanted u) (gX_outcome u) (gX_lastResult u) (gX_lastOrigin u) (gX_done u) (gX_collections u) (gX_stayed u) (gX_turnedCount u) (gX_linkedCount u) (gX_superOf u) (gX_fieldCount u) (gX_refFields u) (gX_ownMethods u) (gX_initialisers u) (gX_ready u) (gX_ops u) (gX_operands u) (gX_lengths u) (gX_catchFrom u) (gX_catchTo u) (gX_catchGoal u) (gX_refMaps u) (gX_bodyHeights u) (gX_frameWords u) (gX_codeOps u) (gX_codeCells u) (gX_codeArgs u) (gX_heights u) (gX_intKinds u) (gX_refKinds u) (gX_heap u) (gX_newPlaces u) (gX_globals u) (gX_frameMethod u) (gX_framePlace u) (gX_cells u)
theorem uX_calculate_115 {post : SX → Prop} {z0 : Int32} {z1 : Int32}  {u : SX} (h : vp_in z1 168 ∧ ∀ a_cells_10 : Nat → Int32 , a_cells_10 = upd (gX_cells u) z1.toNatClampNeg z0 → (kX_calculate_116 post (sX_cells a_cells_10 u))) : kX_calculate_115 post z0 z1 u := h
def kX_calculate_34 (post : SX → Prop) (x1 : Int32) (x2 : Int32) (x3 : Int32) (x4 : Int32)  (u : SX) : Prop := wX_calculate_34 post x1 x2 x3 x4 (gX_faultPlace u) (gX_heapEnd u) (gX_frames u) (gX_frameWordsUsed u) (gX_wanted u) (gX_outcome u) (gX_lastResult u) (gX_lastOrigin u) (gX_done u) (gX_collections u) (gX_stayed u) (gX_turnedCount u) (gX_linkedCount u) (gX_superOf u) (gX_fieldCount u) (gX_refFields u) (gX_ownMethods u) (gX_initialisers u) (gX_ready u) (gX_ops u) (gX_operands u) (gX_lengths u) (gX_catchFrom u) (gX_catchTo u) (gX_catchGoal u) (gX_refMaps u) (gX_bodyHeights u) (gX_frameWords u) (gX_codeOps u) (gX_codeCells u) (gX_codeArgs u) (gX_heights u) (gX_intKinds u) (gX_refKinds u) (gX_heap u) (gX_newPlaces u) (gX_globals u) (gX_frameMethod u) (gX_framePlace u) (gX_cells u)
theorem uX_calculate_34 {post : SX → Prop} {x1 : Int32} {x2 : Int32} {x3 : Int32} {x4 : Int32}  {u : SX} (h : ((x1 < 4 → (((x4 ≤ x3 → (kX_calculate_115 post 0 x2 u)) ∧ (¬ x4 ≤ x3 → (kX_calculate_115 post 1 x2 u))))) ∧ (¬ x1 < 4 → (((6 < x1 → (((x4 ≤ x3 → (kX_calculate_115 post 0 x2 u)) ∧ (¬ x4 ≤ x3 → (kX_calculate_115 post 1 x2 u))))) ∧ (¬ 6 < x1 → (((x1 = 4 → (vp_in x2 168 ∧ ∀ a_cells_55 : Nat → Int32 , a_cells_55 = upd (gX_cells u) x2.toNatClampNeg (x3 + x4) → (kX_calculate_116 post (sX_cells a_cells_55 u)))) ∧ (¬ x1 = 4 → (((x1 = 5 → (vp_in x2 168 ∧ ∀ a_cells_58 : Nat → Int32 , a_cells_58 = upd (gX_cells u) x2.toNatClampNeg (x3 - x4) → (kX_calculate_116 post (sX_cells a_cells_58 u)))) ∧ (¬ x1 = 5 → (((x1 = 6 → (¬ x4 = 0 ∧ (vp_in x2 168 ∧ ∀ a_cells_62 : Nat → Int32 , a_cells_62 = upd (gX_cells u) x2.toNatClampNeg (x3 / x4) → (kX_calculate_116 post (sX_cells a_cells_62 u))))) ∧ (¬ x1 = 6 → (True)))))))))))))))) : kX_calculate_34 post x1 x2 x3 x4 u := h
theorem upX_calculate {post : SX → Prop} {u : SX} {p0 : Int32} {p1 : Int32} (h : vp_in p1 168 ∧ (∀ x3_2 : Int32 , x3_2 = (gX_cells u) p1.toNatClampNeg → (vp_in (p1 + 1) 168 ∧ (∀ x4_4 : Int32 , x4_4 = (gX_cells u) (p1 + 1).toNatClampNeg → (((p0 = 6 → (((x4_4 = 0 → (wpX_raise (fun u1 => (post u1)) u 1)) ∧ (¬ x4_4 = 0 → (kX_calculate_34 post p0 p1 x3_2 x4_4 u))))) ∧ (¬ p0 = 6 → (kX_calculate_34 post p0 p1 x3_2 x4_4 u)))))))) : wpX_calculate post u p0 p1 := h
theorem upX_goTo {post : SX → Prop} {u : SX} {p0 : Int32} (h : vp_in ((gX_frames u) - 1) 14 ∧ ∀ a_framePlace_2 : Nat → Int32 , a_framePlace_2 = upd (gX_framePlace u) ((gX_frames u) - 1).toNatClampNeg p0 → (post (sX_framePlace a_framePlace_2 u))) : wpX_goTo post u p0 := h
theorem upX_branch {post : SX → Prop} {u : SX} {p0 : Int32} {p1 : Int32} (h : vp_in p0 168 ∧ (((((gX_cells u) p0.toNatClampNeg) = 0 → (wpX_goTo (fun u1 => (post u1)) u p1)) ∧ (¬ ((gX_cells u) p0.toNatClampNeg) = 0 → (wpX_advance (fun u2 => (post u2)) u))))) : wpX_branch post u p0 p1 := h
def kX_readyUntilInitialiser_2 (post : Int32 → SX → Prop) (x1 : Int32) (n : Nat) (x2 : Int32) (u : SX) : Prop := wX_readyUntilInitialiser_2 post x1 (gX_faultPlace u) (gX_heapEnd u) (gX_frames u) (gX_frameWordsUsed u) (gX_wanted u) (gX_outcome u) (gX_lastResult u) (gX_lastOrigin u) (gX_done u) (gX_collections u) (gX_stayed u) (gX_turnedCount u) (gX_linkedCount u) n x2 (gX_superOf u) (gX_fieldCount u) (gX_refFields u) (gX_ownMethods u) (gX_initialisers u) (gX_ready u) (gX_ops u) (gX_operands u) (gX_lengths u) (gX_catchFrom u) (gX_catchTo u) (gX_catchGoal u) (gX_refMaps u) (gX_bodyHeights u) (gX_frameWords u) (gX_codeOps u) (gX_codeCells u) (gX_codeArgs u) (gX_heights u) (gX_intKinds u) (gX_refKinds u) (gX_heap u) (gX_newPlaces u) (gX_globals u) (gX_frameMethod u) (gX_framePlace u) (gX_cells u)
theorem uX_readyUntilInitialiser_2 {post : Int32 → SX → Prop} {x1 : Int32} {n : Nat} {x2 : Int32} {u : SX} (h : ((x2 < 0 → (post (- 1) u)) ∧ (¬ x2 < 0 → (wpX_classAbove (fun r_2 => (((r_2 = (- 1) → (∀ x2_44 : Int32 , x2_44 = x2 + (- 1) → (kX_readyUntilInitialiser_2 post x1 n x2_44 u))) ∧ (¬ r_2 = (- 1) → (vp_in r_2 4 ∧ (((((gX_ready u) r_2.toNatClampNeg) = 0 → (vp_in r_2 4 ∧ ∀ a_ready_48 : Nat → Int32 , a_ready_48 = upd (gX_ready u) r_2.toNatClampNeg (vp_nar .boolean 1) → (vp_in r_2 4 ∧ (wpX_hasBody (fun r_50 => (((r_50 = 0 → (∀ x2_92 : Int32 , x2_92 = x2 + (- 1) → (kX_readyUntilInitialiser_2 post x1 n x2_92 (sX_ready a_ready_48 u)))) ∧ (¬ r_50 = 0 → (post r_2 (sX_ready a_ready_48 u)))))) (sX_ready a_ready_48 u) ((gX_initialisers u) r_2.toNatClampNeg))))) ∧ (¬ ((gX_ready u) r_2.toNatClampNeg) = 0 → (∀ x2_93 : Int32 , x2_93 = x2 + (- 1) → (kX_readyUntilInitialiser_2 post x1 n x2_93 u)))))))))) u x1 x2)))) : kX_readyUntilInitialiser_2 post x1 (n + 1) x2 u := h
theorem upX_readyUntilInitialiser {post : Int32 → SX → Prop} {u : SX} {p0 : Int32} (h : ∃ n2 : Nat , kX_readyUntilInitialiser_2 post p0 n2 3 u) : wpX_readyUntilInitialiser post u p0 := h
theorem upX_initialise {post : SX → Prop} {u : SX} {p0 : Int32} (h : vp_in ((gX_frames u) * 12) 168 ∧ ∀ a_cells_2 : Nat → Int32 , a_cells_2 = upd (gX_cells u) ((gX_frames u) * 12).toNatClampNeg p0 → (vp_in p0 4 ∧ (∀ f_wanted_4 : Int32 , f_wanted_4 = (gX_initialisers u) p0.toNatClampNeg → (post (sX_wanted_cells f_wanted_4 a_cells_2 u))))) : wpX_initialise post u p0 := h
theorem upX_hasRoom {post : Int32 → Prop} {u : SX} {p0 : Int32} (h : ((48 < (((gX_heapEnd u) - 1) + p0) → (post 0)) ∧ (¬ 48 < (((gX_heapEnd u) - 1) + p0) → (post 1)))) : wpX_hasRoom post u p0 := h
theorem upX_rootsOf {post : Int32 → Prop} {u : SX} {p0 : Int32} (h : vp_in p0 14 ∧ (vp_in p0 14 ∧ (∀ x2_3 : Int32 , x2_3 = (((gX_frameMethod u) p0.toNatClampNeg) * 24) + ((gX_framePlace u) p0.toNatClampNeg) → (vp_in x2_3 192 ∧ (vp_in x2_3 192 ∧ (post (((gX_refMaps u) x2_3.toNatClampNeg) &&& (((1 : Int32) <<< (((gX_codeCells u) x2_3.toNatClampNeg) &&& 31)) - 1)))))))) : wpX_rootsOf post u p0 := h
def kX_markRoots_43 (post : SX → Prop) (J27 : Int32 → SX → Prop) (x1 : Int32) (x2 : Int32) (n : Nat) (x3 : Int32) (u : SX) : Prop := wX_markRoots_43 post (fun x1 a_superOf a_fieldCount a_refFields a_ownMethods a_initialisers a_ready a_ops a_operands a_lengths a_catchFrom a_catchTo a_catchGoal a_refMaps a_bodyHeights a_frameWords a_codeOps a_codeCells a_codeArgs a_heights a_intKinds a_refKinds a_heap a_newPlaces a_globals a_frameMethod a_framePlace a_cells => J27 x1 ((gX_faultPlace u), (gX_heapEnd u), (gX_frames u), (gX_frameWordsUsed u), (gX_wanted u), (gX_outcome u), (gX_lastResult u), (gX_lastOrigin u), (gX_done u), (gX_collections u), (gX_stayed u), (gX_turnedCount u), (gX_linkedCount u), a_superOf, a_fieldCount, a_refFields, a_ownMethods, a_initialisers, a_ready, a_ops, a_operands, a_lengths, a_catchFrom, a_catchTo, a_catchGoal, a_refMaps, a_bodyHeights, a_frameWords, a_codeOps, a_codeCells, a_codeArgs, a_heights, a_intKinds, a_refKinds, a_heap, a_newPlaces, a_globals, a_frameMethod, a_framePlace, a_cells)) x1 x2 (gX_faultPlace u) (gX_heapEnd u) (gX_frames u) (gX_frameWordsUsed u) (gX_wanted u) (gX_outcome u) (gX_lastResult u) (gX_lastOrigin u) (gX_done u) (gX_collections u) (gX_stayed u) (gX_turnedCount u) (gX_linkedCount u) n x3 (gX_superOf u) (gX_fieldCount u) (gX_refFields u) (gX_ownMethods u) (gX_initialisers u) (gX_ready u) (gX_ops u) (gX_operands u) (gX_lengths u) (gX_catchFrom u) (gX_catchTo u) (gX_catchGoal u) (gX_refMaps u) (gX_bodyHeights u) (gX_frameWords u) (gX_codeOps u) (gX_codeCells u) (gX_codeArgs u) (gX_heights u) (gX_intKinds u) (gX_refKinds u) (gX_heap u) (gX_newPlaces u) (gX_globals u) (gX_frameMethod u) (gX_framePlace u) (gX_cells u)
theorem uX_markRoots_43 {post : SX → Prop} {J27 : Int32 → SX → Prop} {x1 : Int32} {x2 : Int32} {n : Nat} {x3 : Int32} {u : SX} (h : ((12 ≤ x3 → (∀ x1_45 : Int32 , x1_45 = x1 + 1 → (J27 x1_45 u))) ∧ (¬ 12 ≤ x3 → (((((x2 >>> (x3 &&& 31)) &&& 1) = 0 → (∀ x3_47 : Int32 , x3_47 = x3 + 1 → (kX_markRoots_43 post J27 x1 x2 n x3_47 u))) ∧ (¬ ((x2 >>> (x3 &&& 31)) &&& 1) = 0 → (vp_in ((x1 * 12) + x3) 168 ∧ (vp_in ((gX_cells u) ((x1 * 12) + x3).toNatClampNeg) 49 ∧ ∀ a_newPlaces_50 : Nat → Int32 , a_newPlaces_50 = upd (gX_newPlaces u) ((gX_cells u) ((x1 * 12) + x3).toNatClampNeg).toNatClampNeg 1 → (∀ x3_51 : Int32 , x3_51 = x3 + 1 → (kX_markRoots_43 post J27 x1 x2 n x3_51 (sX_newPlaces a_newPlaces_50 u))))))))))) : kX_markRoots_43 post J27 x1 x2 (n + 1) x3 u := h
def kX_markRoots_27 (post : SX → Prop) (n : Nat) (x1 : Int32) (u : SX) : Prop := wX_markRoots_27 post (gX_faultPlace u) (gX_heapEnd u) (gX_frames u) (gX_frameWordsUsed u) (gX_wanted u) (gX_outcome u) (gX_lastResult u) (gX_lastOrigin u) (gX_done u) (gX_collections u) (gX_stayed u) (gX_turnedCount u) (gX_linkedCount u) n x1 (gX_superOf u) (gX_fieldCount u) (gX_refFields u) (gX_ownMethods u) (gX_initialisers u) (gX_ready u) (gX_ops u) (gX_operands u) (gX_lengths u) (gX_catchFrom u) (gX_catchTo u) (gX_catchGoal u) (gX_refMaps u) (gX_bodyHeights u) (gX_frameWords u) (gX_codeOps u) (gX_codeCells u) (gX_codeArgs u) (gX_heights u) (gX_intKinds u) (gX_refKinds u) (gX_heap u) (gX_newPlaces u) (gX_globals u) (gX_frameMethod u) (gX_framePlace u) (gX_cells u)
theorem uX_markRoots_27 {post : SX → Prop} {n : Nat} {x1 : Int32} {u : SX} (h : (((gX_frames u) ≤ x1 → (post u)) ∧ (¬ (gX_frames u) ≤ x1 → (wpX_rootsOf (fun r_3 => (∃ n43 : Nat , kX_markRoots_43 post (kX_markRoots_27 post n) x1 r_3 n43 0 u)) u x1)))) : kX_markRoots_27 post (n + 1) x1 u := h
def kX_markRoots_2 (post : SX → Prop) (n : Nat) (x1 : Int32) (u : SX) : Prop := wX_markRoots_2 post (gX_faultPlace u) (gX_heapEnd u) (gX_frames u) (gX_frameWordsUsed u) (gX_wanted u) (gX_outcome u) (gX_lastResult u) (gX_lastOrigin u) (gX_done u) (gX_collections u) (gX_stayed u) (gX_turnedCount u) (gX_linkedCount u) n x1 (gX_superOf u) (gX_fieldCount u) (gX_refFields u) (gX_ownMethods u) (gX_initialisers u) (gX_ready u) (gX_ops u) (gX_operands u) (gX_lengths u) (gX_catchFrom u) (gX_catchTo u) (gX_catchGoal u) (gX_refMaps u) (gX_bodyHeights u) (gX_frameWords u) (gX_codeOps u) (gX_codeCells u) (gX_codeArgs u) (gX_heights u) (gX_intKinds u) (gX_refKinds u) (gX_heap u) (gX_newPlaces u) (gX_globals u) (gX_frameMethod u) (gX_framePlace u) (gX_cells u)
theorem uX_markRoots_2 {post : SX → Prop} {n : Nat} {x1 : Int32} {u : SX} (h : ((4 ≤ x1 → (∃ n27 : Nat , kX_markRoots_27 post n27 0 u)) ∧ (¬ 4 ≤ x1 → (vp_in x1 4 ∧ (vp_in ((gX_globals u) x1.toNatClampNeg) 49 ∧ ∀ a_newPlaces_54 : Nat → Int32 , a_newPlaces_54 = upd (gX_newPlaces u) ((gX_globals u) x1.toNatClampNeg).toNatClampNeg 1 → (∀ x1_55 : Int32 , x1_55 = x1 + 1 → (kX_markRoots_2 post n x1_55 (sX_newPlaces a_newPlaces_54 u)))))))) : kX_markRoots_2 post (n + 1) x1 u := h
theorem upX_markRoots {post : SX → Prop} {u : SX} (h : ∃ n2 : Nat , kX_markRoots_2 post n2 0 u) : wpX_markRoots post u := h
def kX_markFieldsOf_17 (post : Int32 → SX → Prop) (x1 : Int32) (x3 : Int32) (n : Nat) (x2 : Int32) (x4 : Int32) (u : SX) : Prop := wX_markFieldsOf_17 post x1 x3 (gX_faultPlace u) (gX_heapEnd u) (gX_frames u) (gX_frameWordsUsed u) (gX_wanted u) (gX_outcome u) (gX_lastResult u) (gX_lastOrigin u) (gX_done u) (gX_collections u) (gX_stayed u) (gX_turnedCount u) (gX_linkedCount u) n x2 x4 (gX_superOf u) (gX_fieldCount u) (gX_refFields u) (gX_ownMethods u) (gX_initialisers u) (gX_ready u) (gX_ops u) (gX_operands u) (gX_lengths u) (gX_catchFrom u) (gX_catchTo u) (gX_catchGoal u) (gX_refMaps u) (gX_bodyHeights u) (gX_frameWords u) (gX_codeOps u) (gX_codeCells u) (gX_codeArgs u) (gX_heights u) (gX_intKinds u) (gX_refKinds u) (gX_heap u) (gX_newPlaces u) (gX_globals u) (gX_frameMethod u) (gX_framePlace u) (gX_cells u)
theorem uX_markFieldsOf_17 {post : Int32 → SX → Prop} {x1 : Int32} {x3 : Int32} {n : Nat} {x2 : Int32} {x4 : Int32} {u : SX} (h : vp_in x1 49 ∧ (vp_in ((gX_heap u) x1.toNatClampNeg) 4 ∧ (((((gX_fieldCount u) ((gX_heap u) x1.toNatClampNeg).toNatClampNeg) ≤ x4 → (narrow .boolean (.int x2) = .int x2 ∧ (post x2 u))) ∧ (¬ ((gX_fieldCount u) ((gX_heap u) x1.toNatClampNeg).toNatClampNeg) ≤ x4 → (vp_in ((x1 + 1) + x4) 49 ∧ (∀ x5_9 : Int32 , x5_9 = (gX_heap u) ((x1 + 1) + x4).toNatClampNeg → (((((x3 >>> (x4 &&& 31)) &&& 1) = 0 → (∀ x4_11 : Int32 , x4_11 = x4 + 1 → (kX_markFieldsOf_17 post x1 x3 n x2 x4_11 u))) ∧ (¬ ((x3 >>> (x4 &&& 31)) &&& 1) = 0 → (((x5_9 = 0 → (∀ x4_13 : Int32 , x4_13 = x4 + 1 → (kX_markFieldsOf_17 post x1 x3 n x2 x4_13 u))) ∧ (¬ x5_9 = 0 → (vp_in x5_9 49 ∧ (((((gX_newPlaces u) x5_9.toNatClampNeg) = 0 → (vp_in x5_9 49 ∧ ∀ a_newPlaces_17 : Nat → Int32 , a_newPlaces_17 = upd (gX_newPlaces u) x5_9.toNatClampNeg 1 → (∀ x4_18 : Int32 , x4_18 = x4 + 1 → (kX_markFieldsOf_17 post x1 x3 n 1 x4_18 (sX_newPlaces a_newPlaces_17 u))))) ∧ (¬ ((gX_newPlaces u) x5_9.toNatClampNeg) = 0 → (∀ x4_19 : Int32 , x4_19 = x4 + 1 → (kX_markFieldsOf_17 post x1 x3 n x2 x4_19 u))))))))))))))))))) : kX_markFieldsOf_17 post x1 x3 (n + 1) x2 x4 u := h
theorem upX_markFieldsOf {post : Int32 → SX → Prop} {u : SX} {p0 : Int32} (h : vp_in p0 49 ∧ (vp_in ((gX_heap u) p0.toNatClampNeg) 4 ∧ (∀ x3_3 : Int32 , x3_3 = (gX_refFields u) ((gX_heap u) p0.toNatClampNeg).toNatClampNeg → (∃ n17 : Nat , kX_markFieldsOf_17 post p0 x3_3 n17 0 0 u)))) : wpX_markFieldsOf post u p0 := h
theorem upX_objectWords {post : Int32 → Prop} {u : SX} {p0 : Int32} (h : vp_in p0 49 ∧ (vp_in ((gX_heap u) p0.toNatClampNeg) 4 ∧ (post (1 + ((gX_fieldCount u) ((gX_heap u) p0.toNatClampNeg).toNatClampNeg))))) : wpX_objectWords post u p0 := h
def kX_markFields_55 (post : SX → Prop) (J4 : Int32 → Int32 → SX → Prop) (J21 : Int32 → Int32 → Int32 → SX → Prop) (x1 : Int32) (x2 : Int32) (x3 : Int32) (x4 : Int32)  (u : SX) : Prop := wX_markFields_55 post (fun x1 x2 f_faultPlace f_heapEnd f_frames f_frameWordsUsed f_wanted f_outcome f_lastResult f_lastOrigin f_done f_collections f_stayed f_turnedCount f_linkedCount a_superOf a_fieldCount a_refFields a_ownMethods a_initialisers a_ready a_ops a_operands a_lengths a_catchFrom a_catchTo a_catchGoal a_refMaps a_bodyHeights a_frameWords a_codeOps a_codeCells a_codeArgs a_heights a_intKinds a_refKinds a_heap a_newPlaces a_globals a_frameMethod a_framePlace a_cells => J4 x1 x2 (f_faultPlace, f_heapEnd, f_frames, f_frameWordsUsed, f_wanted, f_outcome, f_lastResult, f_lastOrigin, f_done, f_collections, f_stayed, f_turnedCount, f_linkedCount, a_superOf, a_fieldCount, a_refFields, a_ownMethods, a_initialisers, a_ready, a_ops, a_operands, a_lengths, a_catchFrom, a_catchTo, a_catchGoal, a_refMaps, a_bodyHeights, a_frameWords, a_codeOps, a_codeCells, a_codeArgs, a_heights, a_intKinds, a_refKinds, a_heap, a_newPlaces, a_globals, a_frameMethod, a_framePlace, a_cells)) (fun x1 x3 x4 f_faultPlace f_heapEnd f_frames f_frameWordsUsed f_wanted f_outcome f_lastResult f_lastOrigin f_done f_collections f_stayed f_turnedCount f_linkedCount a_superOf a_fieldCount a_refFields a_ownMethods a_initialisers a_ready a_ops a_operands a_lengths a_catchFrom a_catchTo a_catchGoal a_refMaps a_bodyHeights a_frameWords a_codeOps a_codeCells a_codeArgs a_heights a_intKinds a_refKinds a_heap a_newPlaces a_globals a_frameMethod a_framePlace a_cells => J21 x1 x3 x4 (f_faultPlace, f_heapEnd, f_frames, f_frameWordsUsed, f_wanted, f_outcome, f_lastResult, f_lastOrigin, f_done, f_collections, f_stayed, f_turnedCount, f_linkedCount, a_superOf, a_fieldCount, a_refFields, a_ownMethods, a_initialisers, a_ready, a_ops, a_operands, a_lengths, a_catchFrom, a_catchTo, a_catchGoal, a_refMaps, a_bodyHeights, a_frameWords, a_codeOps, a_codeCells, a_codeArgs, a_heights, a_intKinds, a_refKinds, a_heap, a_newPlaces, a_globals, a_frameMethod, a_framePlace, a_cells)) x1 x2 x3 x4 (gX_faultPlace u) (gX_heapEnd u) (gX_frames u) (gX_frameWordsUsed u) (gX_wanted u) (gX_outcome u) (gX_lastResult u) (gX_lastOrigin u) (gX_done u) (gX_collections u) (gX_stayed u) (gX_turnedCount u) (gX_linkedCount u) (gX_superOf u) (gX_fieldCount u) (gX_refFields u) (gX_ownMethods u) (gX_initialisers u) (gX_ready u) (gX_ops u) (gX_operands u) (gX_lengths u) (gX_catchFrom u) (gX_catchTo u) (gX_catchGoal u) (gX_refMaps u) (gX_bodyHeights u) (gX_frameWords u) (gX_codeOps u) (gX_codeCells u) (gX_codeArgs u) (gX_heights u) (gX_intKinds u) (gX_refKinds u) (gX_heap u) (gX_newPlaces u) (gX_globals u) (gX_frameMethod u) (gX_framePlace u) (gX_cells u)
theorem uX_markFields_55 {post : SX → Prop} {J4 : Int32 → Int32 → SX → Prop} {J21 : Int32 → Int32 → Int32 → SX → Prop} {x1 : Int32} {x2 : Int32} {x3 : Int32} {x4 : Int32}  {u : SX} (h : wpX_objectWords (fun r_9 => (∀ x3_50 : Int32 , x3_50 = x3 + r_9 → (∀ x4_51 : Int32 , x4_51 = x4 + 1 → (J21 x1 x3_50 x4_51 u)))) u x3) : kX_markFields_55 post J4 J21 x1 x2 x3 x4 u := h
def kX_markFields_21 (post : SX → Prop) (J4 : Int32 → Int32 → SX → Prop) (x2 : Int32) (n : Nat) (x1 : Int32) (x3 : Int32) (x4 : Int32) (u : SX) : Prop := wX_markFields_21 post (fun x1 x2 f_faultPlace f_heapEnd f_frames f_frameWordsUsed f_wanted f_outcome f_lastResult f_lastOrigin f_done f_collections f_stayed f_turnedCount f_linkedCount a_superOf a_fieldCount a_refFields a_ownMethods a_initialisers a_ready a_ops a_operands a_lengths a_catchFrom a_catchTo a_catchGoal a_refMaps a_bodyHeights a_frameWords a_codeOps a_codeCells a_codeArgs a_heights a_intKinds a_refKinds a_heap a_newPlaces a_globals a_frameMethod a_framePlace a_cells => J4 x1 x2 (f_faultPlace, f_heapEnd, f_frames, f_frameWordsUsed, f_wanted, f_outcome, f_lastResult, f_lastOrigin, f_done, f_collections, f_stayed, f_turnedCount, f_linkedCount, a_superOf, a_fieldCount, a_refFields, a_ownMethods, a_initialisers, a_ready, a_ops, a_operands, a_lengths, a_catchFrom, a_catchTo, a_catchGoal, a_refMaps, a_bodyHeights, a_frameWords, a_codeOps, a_codeCells, a_codeArgs, a_heights, a_intKinds, a_refKinds, a_heap, a_newPlaces, a_globals, a_frameMethod, a_framePlace, a_cells)) x2 n x1 x3 x4 (gX_faultPlace u) (gX_heapEnd u) (gX_frames u) (gX_frameWordsUsed u) (gX_wanted u) (gX_outcome u) (gX_lastResult u) (gX_lastOrigin u) (gX_done u) (gX_collections u) (gX_stayed u) (gX_turnedCount u) (gX_linkedCount u) (gX_superOf u) (gX_fieldCount u) (gX_refFields u) (gX_ownMethods u) (gX_initialisers u) (gX_ready u) (gX_ops u) (gX_operands u) (gX_lengths u) (gX_catchFrom u) (gX_catchTo u) (gX_catchGoal u) (gX_refMaps u) (gX_bodyHeights u) (gX_frameWords u) (gX_codeOps u) (gX_codeCells u) (gX_codeArgs u) (gX_heights u) (gX_intKinds u) (gX_refKinds u) (gX_heap u) (gX_newPlaces u) (gX_globals u) (gX_frameMethod u) (gX_framePlace u) (gX_cells u)
theorem uX_markFields_21 {post : SX → Prop} {J4 : Int32 → Int32 → SX → Prop} {x2 : Int32} {n : Nat} {x1 : Int32} {x3 : Int32} {x4 : Int32} {u : SX} (h : ((48 ≤ x4 → (∀ x2_4 : Int32 , x2_4 = x2 + 1 → (J4 x1 x2_4 u))) ∧ (¬ 48 ≤ x4 → ((((gX_heapEnd u) ≤ x3 → (∀ x2_6 : Int32 , x2_6 = x2 + 1 → (J4 x1 x2_6 u))) ∧ (¬ (gX_heapEnd u) ≤ x3 → (vp_in x3 49 ∧ (((((gX_newPlaces u) x3.toNatClampNeg) = 0 → (kX_markFields_55 post J4 (kX_markFields_21 post J4 x2 n) x1 x2 x3 x4 u)) ∧ (¬ ((gX_newPlaces u) x3.toNatClampNeg) = 0 → (wpX_markFieldsOf (fun r_52 u1 => (((r_52 = 0 → (kX_markFields_55 post J4 (kX_markFields_21 post J4 x2 n) x1 x2 x3 x4 u1)) ∧ (¬ r_52 = 0 → (kX_markFields_55 post J4 (kX_markFields_21 post J4 x2 n) 1 x2 x3 x4 u1))))) u x3))))))))))) : kX_markFields_21 post J4 x2 (n + 1) x1 x3 x4 u := h
def kX_markFields_4 (post : SX → Prop) (n : Nat) (x1 : Int32) (x2 : Int32) (u : SX) : Prop := wX_markFields_4 post n x1 x2 (gX_faultPlace u) (gX_heapEnd u) (gX_frames u) (gX_frameWordsUsed u) (gX_wanted u) (gX_outcome u) (gX_lastResult u) (gX_lastOrigin u) (gX_done u) (gX_collections u) (gX_stayed u) (gX_turnedCount u) (gX_linkedCount u) (gX_superOf u) (gX_fieldCount u) (gX_refFields u) (gX_ownMethods u) (gX_initialisers u) (gX_ready u) (gX_ops u) (gX_operands u) (gX_lengths u) (gX_catchFrom u) (gX_catchTo u) (gX_catchGoal u) (gX_refMaps u) (gX_bodyHeights u) (gX_frameWords u) (gX_codeOps u) (gX_codeCells u) (gX_codeArgs u) (gX_heights u) (gX_intKinds u) (gX_refKinds u) (gX_heap u) (gX_newPlaces u) (gX_globals u) (gX_frameMethod u) (gX_framePlace u) (gX_cells u)
theorem uX_markFields_4 {post : SX → Prop} {n : Nat} {x1 : Int32} {x2 : Int32} {u : SX} (h : ((48 < x2 → (post u)) ∧ (¬ 48 < x2 → (((x1 = 0 → (post u)) ∧ (¬ x1 = 0 → (∃ n21 : Nat , kX_markFields_21 post (kX_markFields_4 post n) x2 n21 0 1 0 u))))))) : kX_markFields_4 post (n + 1) x1 x2 u := h
theorem upX_markFields {post : SX → Prop} {u : SX} (h : ∃ n4 : Nat , kX_markFields_4 post n4 1 0 u) : wpX_markFields post u := h
def kX_choosePlaces_6 (post : SX → Prop) (n : Nat) (x1 : Int32) (x2 : Int32) (x3 : Int32) (u : SX) : Prop := wX_choosePlaces_6 post (gX_faultPlace u) (gX_heapEnd u) (gX_frames u) (gX_frameWordsUsed u) (gX_wanted u) (gX_outcome u) (gX_lastResult u) (gX_lastOrigin u) (gX_done u) (gX_collections u) (gX_turnedCount u) (gX_linkedCount u) n x1 x2 x3 (gX_stayed u) (gX_superOf u) (gX_fieldCount u) (gX_refFields u) (gX_ownMethods u) (gX_initialisers u) (gX_ready u) (gX_ops u) (gX_operands u) (gX_lengths u) (gX_catchFrom u) (gX_catchTo u) (gX_catchGoal u) (gX_refMaps u) (gX_bodyHeights u) (gX_frameWords u) (gX_codeOps u) (gX_codeCells u) (gX_codeArgs u) (gX_heights u) (gX_intKinds u) (gX_refKinds u) (gX_heap u) (gX_newPlaces u) (gX_globals u) (gX_frameMethod u) (gX_framePlace u) (gX_cells u)
theorem uX_choosePlaces_6 {post : SX → Prop} {n : Nat} {x1 : Int32} {x2 : Int32} {x3 : Int32} {u : SX} (h : ((48 ≤ x3 → (∀ a_newPlaces_3 : Nat → Int32 , a_newPlaces_3 = upd (gX_newPlaces u) 0 0 → (post (sX_newPlaces a_newPlaces_3 u)))) ∧ (¬ 48 ≤ x3 → ((((gX_heapEnd u) ≤ x2 → (∀ a_newPlaces_6 : Nat → Int32 , a_newPlaces_6 = upd (gX_newPlaces u) 0 0 → (post (sX_newPlaces a_newPlaces_6 u)))) ∧ (¬ (gX_heapEnd u) ≤ x2 → (wpX_objectWords (fun r_7 => (vp_in x2 49 ∧ (((((gX_newPlaces u) x2.toNatClampNeg) = 0 → (∀ x2_50 : Int32 , x2_50 = x2 + r_7 → (∀ x3_51 : Int32 , x3_51 = x3 + 1 → (kX_choosePlaces_6 post n x1 x2_50 x3_51 u)))) ∧ (¬ ((gX_newPlaces u) x2.toNatClampNeg) = 0 → (vp_in x2 49 ∧ ∀ a_newPlaces_53 : Nat → Int32 , a_newPlaces_53 = upd (gX_newPlaces u) x2.toNatClampNeg x1 → (∀ x1_54 : Int32 , x1_54 = x1 + r_7 → (∀ f_stayed_55 : Int32 , f_stayed_55 = (gX_stayed u) + 1 → (∀ x2_56 : Int32 , x2_56 = x2 + r_7 → (∀ x3_57 : Int32 , x3_57 = x3 + 1 → (kX_choosePlaces_6 post n x1_54 x2_56 x3_57 (sX_stayed_newPlaces f_stayed_55 a_newPlaces_53 u)))))))))))) u x2))))))) : kX_choosePlaces_6 post (n + 1) x1 x2 x3 u := h
theorem upX_choosePlaces {post : SX → Prop} {u : SX} (h : ∃ n6 : Nat , kX_choosePlaces_6 post n6 1 1 0 u) : wpX_choosePlaces post u := h
def kX_moveRoots_48 (post : SX → Prop) (J32 : Int32 → SX → Prop) (x1 : Int32) (x2 : Int32) (n : Nat) (x3 : Int32) (u : SX) : Prop := wX_moveRoots_48 post (fun x1 a_superOf a_fieldCount a_refFields a_ownMethods a_initialisers a_ready a_ops a_operands a_lengths a_catchFrom a_catchTo a_catchGoal a_refMaps a_bodyHeights a_frameWords a_codeOps a_codeCells a_codeArgs a_heights a_intKinds a_refKinds a_heap a_newPlaces a_globals a_frameMethod a_framePlace a_cells => J32 x1 ((gX_faultPlace u), (gX_heapEnd u), (gX_frames u), (gX_frameWordsUsed u), (gX_wanted u), (gX_outcome u), (gX_lastResult u), (gX_lastOrigin u), (gX_done u), (gX_collections u), (gX_stayed u), (gX_turnedCount u), (gX_linkedCount u), a_superOf, a_fieldCount, a_refFields, a_ownMethods, a_initialisers, a_ready, a_ops, a_operands, a_lengths, a_catchFrom, a_catchTo, a_catchGoal, a_refMaps, a_bodyHeights, a_frameWords, a_codeOps, a_codeCells, a_codeArgs, a_heights, a_intKinds, a_refKinds, a_heap, a_newPlaces, a_globals, a_frameMethod, a_framePlace, a_cells)) x1 x2 (gX_faultPlace u) (gX_heapEnd u) (gX_frames u) (gX_frameWordsUsed u) (gX_wanted u) (gX_outcome u) (gX_lastResult u) (gX_lastOrigin u) (gX_done u) (gX_collections u) (gX_stayed u) (gX_turnedCount u) (gX_linkedCount u) n x3 (gX_superOf u) (gX_fieldCount u) (gX_refFields u) (gX_ownMethods u) (gX_initialisers u) (gX_ready u) (gX_ops u) (gX_operands u) (gX_lengths u) (gX_catchFrom u) (gX_catchTo u) (gX_catchGoal u) (gX_refMaps u) (gX_bodyHeights u) (gX_frameWords u) (gX_codeOps u) (gX_codeCells u) (gX_codeArgs u) (gX_heights u) (gX_intKinds u) (gX_refKinds u) (gX_heap u) (gX_newPlaces u) (gX_globals u) (gX_frameMethod u) (gX_framePlace u) (gX_cells u)
theorem uX_moveRoots_48 {post : SX → Prop} {J32 : Int32 → SX → Prop} {x1 : Int32} {x2 : Int32} {n : Nat} {x3 : Int32} {u : SX} (h : ((12 ≤ x3 → (∀ x1_45 : Int32 , x1_45 = x1 + 1 → (J32 x1_45 u))) ∧ (¬ 12 ≤ x3 → (∀ x4_46 : Int32 , x4_46 = (x1 * 12) + x3 → (((((x2 >>> (x3 &&& 31)) &&& 1) = 0 → (∀ x3_48 : Int32 , x3_48 = x3 + 1 → (kX_moveRoots_48 post J32 x1 x2 n x3_48 u))) ∧ (¬ ((x2 >>> (x3 &&& 31)) &&& 1) = 0 → (vp_in x4_46 168 ∧ (vp_in ((gX_cells u) x4_46.toNatClampNeg) 49 ∧ (vp_in x4_46 168 ∧ ∀ a_cells_52 : Nat → Int32 , a_cells_52 = upd (gX_cells u) x4_46.toNatClampNeg ((gX_newPlaces u) ((gX_cells u) x4_46.toNatClampNeg).toNatClampNeg) → (∀ x3_53 : Int32 , x3_53 = x3 + 1 → (kX_moveRoots_48 post J32 x1 x2 n x3_53 (sX_cells a_cells_52 u))))))))))))) : kX_moveRoots_48 post J32 x1 x2 (n + 1) x3 u := h
def kX_moveRoots_32 (post : SX → Prop) (n : Nat) (x1 : Int32) (u : SX) : Prop := wX_moveRoots_32 post (gX_faultPlace u) (gX_heapEnd u) (gX_frames u) (gX_frameWordsUsed u) (gX_wanted u) (gX_outcome u) (gX_lastResult u) (gX_lastOrigin u) (gX_done u) (gX_collections u) (gX_stayed u) (gX_turnedCount u) (gX_linkedCount u) n x1 (gX_superOf u) (gX_fieldCount u) (gX_refFields u) (gX_ownMethods u) (gX_initialisers u) (gX_ready u) (gX_ops u) (gX_operands u) (gX_lengths u) (gX_catchFrom u) (gX_catchTo u) (gX_catchGoal u) (gX_refMaps u) (gX_bodyHeights u) (gX_frameWords u) (gX_codeOps u) (gX_codeCells u) (gX_codeArgs u) (gX_heights u) (gX_intKinds u) (gX_refKinds u) (gX_heap u) (gX_newPlaces u) (gX_globals u) (gX_frameMethod u) (gX_framePlace u) (gX_cells u)
theorem uX_moveRoots_32 {post : SX → Prop} {n : Nat} {x1 : Int32} {u : SX} (h : (((gX_frames u) ≤ x1 → (post u)) ∧ (¬ (gX_frames u) ≤ x1 → (wpX_rootsOf (fun r_3 => (∃ n48 : Nat , kX_moveRoots_48 post (kX_moveRoots_32 post n) x1 r_3 n48 0 u)) u x1)))) : kX_moveRoots_32 post (n + 1) x1 u := h
def kX_moveRoots_2 (post : SX → Prop) (n : Nat) (x1 : Int32) (u : SX) : Prop := wX_moveRoots_2 post (gX_faultPlace u) (gX_heapEnd u) (gX_frames u) (gX_frameWordsUsed u) (gX_wanted u) (gX_outcome u) (gX_lastResult u) (gX_lastOrigin u) (gX_done u) (gX_collections u) (gX_stayed u) (gX_turnedCount u) (gX_linkedCount u) n x1 (gX_superOf u) (gX_fieldCount u) (gX_refFields u) (gX_ownMethods u) (gX_initialisers u) (gX_ready u) (gX_ops u) (gX_operands u) (gX_lengths u) (gX_catchFrom u) (gX_catchTo u) (gX_catchGoal u) (gX_refMaps u) (gX_bodyHeights u) (gX_frameWords u) (gX_codeOps u) (gX_codeCells u) (gX_codeArgs u) (gX_heights u) (gX_intKinds u) (gX_refKinds u) (gX_heap u) (gX_newPlaces u) (gX_globals u) (gX_frameMethod u) (gX_framePlace u) (gX_cells u)
theorem uX_moveRoots_2 {post : SX → Prop} {n : Nat} {x1 : Int32} {u : SX} (h : ((4 ≤ x1 → (∃ n32 : Nat , kX_moveRoots_32 post n32 0 u)) ∧ (¬ 4 ≤ x1 → (vp_in x1 4 ∧ (vp_in ((gX_globals u) x1.toNatClampNeg) 49 ∧ (vp_in x1 4 ∧ ∀ a_globals_57 : Nat → Int32 , a_globals_57 = upd (gX_globals u) x1.toNatClampNeg ((gX_newPlaces u) ((gX_globals u) x1.toNatClampNeg).toNatClampNeg) → (∀ x1_58 : Int32 , x1_58 = x1 + 1 → (kX_moveRoots_2 post n x1_58 (sX_globals a_globals_57 u))))))))) : kX_moveRoots_2 post (n + 1) x1 u := h
theorem upX_moveRoots {post : SX → Prop} {u : SX} (h : ∃ n2 : Nat , kX_moveRoots_2 post n2 0 u) : wpX_moveRoots post u := h
def kX_moveObject_28 (post : SX → Prop) (x1 : Int32) (x2 : Int32) (x3 : Int32) (x4 : Int32) (n : Nat) (x5 : Int32) (u : SX) : Prop := wX_moveObject_28 post x1 x2 x3 x4 (gX_faultPlace u) (gX_heapEnd u) (gX_frames u) (gX_frameWordsUsed u) (gX_wanted u) (gX_outcome u) (gX_lastResult u) (gX_lastOrigin u) (gX_done u) (gX_collections u) (gX_stayed u) (gX_turnedCount u) (gX_linkedCount u) n x5 (gX_superOf u) (gX_fieldCount u) (gX_refFields u) (gX_ownMethods u) (gX_initialisers u) (gX_ready u) (gX_ops u) (gX_operands u) (gX_lengths u) (gX_catchFrom u) (gX_catchTo u) (gX_catchGoal u) (gX_refMaps u) (gX_bodyHeights u) (gX_frameWords u) (gX_codeOps u) (gX_codeCells u) (gX_codeArgs u) (gX_heights u) (gX_intKinds u) (gX_refKinds u) (gX_heap u) (gX_newPlaces u) (gX_globals u) (gX_frameMethod u) (gX_framePlace u) (gX_cells u)
theorem uX_moveObject_28 {post : SX → Prop} {x1 : Int32} {x2 : Int32} {x3 : Int32} {x4 : Int32} {n : Nat} {x5 : Int32} {u : SX} (h : (((x3 - 1) ≤ x5 → (post u)) ∧ (¬ (x3 - 1) ≤ x5 → (vp_in ((x1 + 1) + x5) 49 ∧ (∀ x6_9 : Int32 , x6_9 = (gX_heap u) ((x1 + 1) + x5).toNatClampNeg → (((((x4 >>> (x5 &&& 31)) &&& 1) = 0 → (vp_in ((x2 + 1) + x5) 49 ∧ ∀ a_heap_12 : Nat → Int32 , a_heap_12 = upd (gX_heap u) ((x2 + 1) + x5).toNatClampNeg x6_9 → (∀ x5_13 : Int32 , x5_13 = x5 + 1 → (kX_moveObject_28 post x1 x2 x3 x4 n x5_13 (sX_heap a_heap_12 u))))) ∧ (¬ ((x4 >>> (x5 &&& 31)) &&& 1) = 0 → (vp_in x6_9 49 ∧ (vp_in ((x2 + 1) + x5) 49 ∧ ∀ a_heap_16 : Nat → Int32 , a_heap_16 = upd (gX_heap u) ((x2 + 1) + x5).toNatClampNeg ((gX_newPlaces u) x6_9.toNatClampNeg) → (∀ x5_17 : Int32 , x5_17 = x5 + 1 → (kX_moveObject_28 post x1 x2 x3 x4 n x5_17 (sX_heap a_heap_16 u))))))))))))) : kX_moveObject_28 post x1 x2 x3 x4 (n + 1) x5 u := h
theorem upX_moveObject {post : SX → Prop} {u : SX} {p0 : Int32} {p1 : Int32} {p2 : Int32} (h : vp_in p0 49 ∧ (vp_in ((gX_heap u) p0.toNatClampNeg) 4 ∧ (∀ x4_3 : Int32 , x4_3 = (gX_refFields u) ((gX_heap u) p0.toNatClampNeg).toNatClampNeg → (vp_in p0 49 ∧ (vp_in p1 49 ∧ ∀ a_heap_6 : Nat → Int32 , a_heap_6 = upd (gX_heap u) p1.toNatClampNeg ((gX_heap u) p0.toNatClampNeg) → (∃ n28 : Nat , kX_moveObject_28 post p0 p1 p2 x4_3 n28 0 (sX_heap a_heap_6 u))))))) : wpX_moveObject post u p0 p1 p2 := h
def kX_moveObjects_6 (post : SX → Prop) (n : Nat) (x1 : Int32) (x2 : Int32) (x3 : Int32) (u : SX) : Prop := wX_moveObjects_6 post n x1 x2 x3 (gX_faultPlace u) (gX_heapEnd u) (gX_frames u) (gX_frameWordsUsed u) (gX_wanted u) (gX_outcome u) (gX_lastResult u) (gX_lastOrigin u) (gX_done u) (gX_collections u) (gX_stayed u) (gX_turnedCount u) (gX_linkedCount u) (gX_superOf u) (gX_fieldCount u) (gX_refFields u) (gX_ownMethods u) (gX_initialisers u) (gX_ready u) (gX_ops u) (gX_operands u) (gX_lengths u) (gX_catchFrom u) (gX_catchTo u) (gX_catchGoal u) (gX_refMaps u) (gX_bodyHeights u) (gX_frameWords u) (gX_codeOps u) (gX_codeCells u) (gX_codeArgs u) (gX_heights u) (gX_intKinds u) (gX_refKinds u) (gX_heap u) (gX_newPlaces u) (gX_globals u) (gX_frameMethod u) (gX_framePlace u) (gX_cells u)
theorem uX_moveObjects_6 {post : SX → Prop} {n : Nat} {x1 : Int32} {x2 : Int32} {x3 : Int32} {u : SX} (h : ((48 ≤ x3 → (post (sX_heapEnd x1 u))) ∧ (¬ 48 ≤ x3 → ((((gX_heapEnd u) ≤ x2 → (post (sX_heapEnd x1 u))) ∧ (¬ (gX_heapEnd u) ≤ x2 → (wpX_objectWords (fun r_3 => (vp_in x2 49 ∧ (((((gX_newPlaces u) x2.toNatClampNeg) = 0 → (∀ x2_46 : Int32 , x2_46 = x2 + r_3 → (∀ x3_47 : Int32 , x3_47 = x3 + 1 → (kX_moveObjects_6 post n x1 x2_46 x3_47 u)))) ∧ (¬ ((gX_newPlaces u) x2.toNatClampNeg) = 0 → (vp_in x2 49 ∧ (wpX_moveObject (fun u1 => (vp_in x2 49 ∧ (∀ x1_91 : Int32 , x1_91 = ((gX_newPlaces u1) x2.toNatClampNeg) + r_3 → (∀ x2_92 : Int32 , x2_92 = x2 + r_3 → (∀ x3_93 : Int32 , x3_93 = x3 + 1 → (kX_moveObjects_6 post n x1_91 x2_92 x3_93 u1)))))) u x2 ((gX_newPlaces u) x2.toNatClampNeg) r_3))))))) u x2))))))) : kX_moveObjects_6 post (n + 1) x1 x2 x3 u := h
theorem upX_moveObjects {post : SX → Prop} {u : SX} (h : ∃ n6 : Nat , kX_moveObjects_6 post n6 1 1 0 u) : wpX_moveObjects post u := h
def kX_collect_12 (post : SX → Prop) (n : Nat) (x1 : Int32) (u : SX) : Prop := wX_collect_12 post (gX_faultPlace u) (gX_heapEnd u) (gX_frames u) (gX_frameWordsUsed u) (gX_wanted u) (gX_outcome u) (gX_lastResult u) (gX_lastOrigin u) (gX_done u) (gX_collections u) (gX_stayed u) (gX_turnedCount u) (gX_linkedCount u) n x1 (gX_superOf u) (gX_fieldCount u) (gX_refFields u) (gX_ownMethods u) (gX_initialisers u) (gX_ready u) (gX_ops u) (gX_operands u) (gX_lengths u) (gX_catchFrom u) (gX_catchTo u) (gX_catchGoal u) (gX_refMaps u) (gX_bodyHeights u) (gX_frameWords u) (gX_codeOps u) (gX_codeCells u) (gX_codeArgs u) (gX_heights u) (gX_intKinds u) (gX_refKinds u) (gX_heap u) (gX_newPlaces u) (gX_globals u) (gX_frameMethod u) (gX_framePlace u) (gX_cells u)
theorem uX_collect_12 {post : SX → Prop} {n : Nat} {x1 : Int32} {u : SX} (h : ((49 ≤ x1 → (wpX_markRoots (fun u1 => (wpX_markFields (fun u2 => (wpX_choosePlaces (fun u3 => (wpX_moveRoots (fun u4 => (wpX_moveObjects (fun u5 => (post u5)) u4)) u3)) u2)) u1)) u)) ∧ (¬ 49 ≤ x1 → (vp_in x1 49 ∧ ∀ a_newPlaces_209 : Nat → Int32 , a_newPlaces_209 = upd (gX_newPlaces u) x1.toNatClampNeg 0 → (∀ x1_210 : Int32 , x1_210 = x1 + 1 → (kX_collect_12 post n x1_210 (sX_newPlaces a_newPlaces_209 u))))))) : kX_collect_12 post (n + 1) x1 u := h
theorem upX_collect {post : SX → Prop} {u : SX} (h : ∀ f_collections_1 : Int32 , f_collections_1 = (gX_collections u) + 1 → (∃ n12 : Nat , kX_collect_12 post n12 0 (sX_collections f_collections_1 u))) : wpX_collect post u := h
def kX_makeObject_69 (post : SX → Prop) (x1 : Int32) (x4 : Int32) (n : Nat) (x5 : Int32) (u : SX) : Prop := wX_makeObject_69 post x1 x4 (gX_faultPlace u) (gX_heapEnd u) (gX_frames u) (gX_frameWordsUsed u) (gX_wanted u) (gX_outcome u) (gX_lastResult u) (gX_lastOrigin u) (gX_done u) (gX_collections u) (gX_stayed u) (gX_turnedCount u) (gX_linkedCount u) n x5 (gX_superOf u) (gX_fieldCount u) (gX_refFields u) (gX_ownMethods u) (gX_initialisers u) (gX_ready u) (gX_ops u) (gX_operands u) (gX_lengths u) (gX_catchFrom u) (gX_catchTo u) (gX_catchGoal u) (gX_refMaps u) (gX_bodyHeights u) (gX_frameWords u) (gX_codeOps u) (gX_codeCells u) (gX_codeArgs u) (gX_heights u) (gX_intKinds u) (gX_refKinds u) (gX_heap u) (gX_newPlaces u) (gX_globals u) (gX_frameMethod u) (gX_framePlace u) (gX_cells u)
theorem uX_makeObject_69 {post : SX → Prop} {x1 : Int32} {x4 : Int32} {n : Nat} {x5 : Int32} {u : SX} (h : ((x4 ≤ x5 → (vp_in x1 168 ∧ ∀ a_cells_133 : Nat → Int32 , a_cells_133 = upd (gX_cells u) x1.toNatClampNeg (gX_heapEnd u) → (∀ f_heapEnd_134 : Int32 , f_heapEnd_134 = (gX_heapEnd u) + x4 → (wpX_advance (fun u1 => (post u1)) (sX_heapEnd_cells f_heapEnd_134 a_cells_133 u))))) ∧ (¬ x4 ≤ x5 → (vp_in ((gX_heapEnd u) + x5) 49 ∧ ∀ a_heap_177 : Nat → Int32 , a_heap_177 = upd (gX_heap u) ((gX_heapEnd u) + x5).toNatClampNeg 0 → (∀ x5_178 : Int32 , x5_178 = x5 + 1 → (kX_makeObject_69 post x1 x4 n x5_178 (sX_heap a_heap_177 u))))))) : kX_makeObject_69 post x1 x4 (n + 1) x5 u := h
def kX_makeObject_40 (post : SX → Prop) (x1 : Int32) (x2 : Int32) (x4 : Int32)  (u : SX) : Prop := wX_makeObject_40 post x1 x2 x4 (gX_faultPlace u) (gX_heapEnd u) (gX_frames u) (gX_frameWordsUsed u) (gX_wanted u) (gX_outcome u) (gX_lastResult u) (gX_lastOrigin u) (gX_done u) (gX_collections u) (gX_stayed u) (gX_turnedCount u) (gX_linkedCount u) (gX_superOf u) (gX_fieldCount u) (gX_refFields u) (gX_ownMethods u) (gX_initialisers u) (gX_ready u) (gX_ops u) (gX_operands u) (gX_lengths u) (gX_catchFrom u) (gX_catchTo u) (gX_catchGoal u) (gX_refMaps u) (gX_bodyHeights u) (gX_frameWords u) (gX_codeOps u) (gX_codeCells u) (gX_codeArgs u) (gX_heights u) (gX_intKinds u) (gX_refKinds u) (gX_heap u) (gX_newPlaces u) (gX_globals u) (gX_frameMethod u) (gX_framePlace u) (gX_cells u)
theorem uX_makeObject_40 {post : SX → Prop} {x1 : Int32} {x2 : Int32} {x4 : Int32}  {u : SX} (h : wpX_hasRoom (fun r_87 => (((r_87 = 0 → (wpX_raise (fun u1 => (post u1)) u 6)) ∧ (¬ r_87 = 0 → (vp_in (gX_heapEnd u) 49 ∧ ∀ a_heap_130 : Nat → Int32 , a_heap_130 = upd (gX_heap u) (gX_heapEnd u).toNatClampNeg x2 → (∃ n69 : Nat , kX_makeObject_69 post x1 x4 n69 1 (sX_heap a_heap_130 u))))))) u x4) : kX_makeObject_40 post x1 x2 x4 u := h
theorem upX_makeObject {post : SX → Prop} {u : SX} {p0 : Int32} {p1 : Int32} (h : wpX_readyUntilInitialiser (fun r_1 u1 => (((r_1 = (- 1) → (vp_in p1 4 ∧ (∀ x4_44 : Int32 , x4_44 = 1 + ((gX_fieldCount u1) p1.toNatClampNeg) → (wpX_hasRoom (fun r_45 => (((r_45 = 0 → (wpX_collect (fun u2 => (kX_makeObject_40 post p0 p1 x4_44 u2)) u1)) ∧ (¬ r_45 = 0 → (kX_makeObject_40 post p0 p1 x4_44 u1))))) u1 x4_44)))) ∧ (¬ r_1 = (- 1) → (wpX_initialise (fun u3 => (post u3)) u1 r_1))))) u p1) : wpX_makeObject post u p0 p1 := h
theorem upX_refusesField {post : Int32 → SX → Prop} {u : SX} {p0 : Int32} {p1 : Int32} (h : ((p0 = 0 → (wpX_raise (fun u1 => (post 1 u1)) u 2)) ∧ (¬ p0 = 0 → (vp_in p0 49 ∧ (wpX_isBelow (fun r_3 => (((r_3 = 0 → (wpX_raise (fun u2 => (post 1 u2)) u 3)) ∧ (¬ r_3 = 0 → (post 0 u))))) u ((gX_heap u) p0.toNatClampNeg) p1))))) : wpX_refusesField post u p0 p1 := h
theorem upX_getField {post : SX → Prop} {u : SX} {p0 : Int32} {p1 : Int32} (h : vp_in p0 168 ∧ (∀ x3_2 : Int32 , x3_2 = (gX_cells u) p0.toNatClampNeg → (¬ (16 : Int32) = 0 ∧ (wpX_refusesField (fun r_4 u1 => (((r_4 = 0 → (¬ (16 : Int32) = 0 ∧ (vp_in ((x3_2 + 1) + (p1 - p1 / 16 * 16)) 49 ∧ (vp_in p0 168 ∧ ∀ a_cells_49 : Nat → Int32 , a_cells_49 = upd (gX_cells u1) p0.toNatClampNeg ((gX_heap u1) ((x3_2 + 1) + (p1 - p1 / 16 * 16)).toNatClampNeg) → (wpX_advance (fun u2 => (post u2)) (sX_cells a_cells_49 u1)))))) ∧ (¬ r_4 = 0 → (post u1))))) u x3_2 (p1 / 16))))) : wpX_getField post u p0 p1 := h
theorem upX_putField {post : SX → Prop} {u : SX} {p0 : Int32} {p1 : Int32} (h : vp_in p0 168 ∧ (∀ x3_2 : Int32 , x3_2 = (gX_cells u) p0.toNatClampNeg → (¬ (16 : Int32) = 0 ∧ (wpX_refusesField (fun r_4 u1 => (((r_4 = 0 → (¬ (16 : Int32) = 0 ∧ (vp_in (p0 + 1) 168 ∧ (vp_in ((x3_2 + 1) + (p1 - p1 / 16 * 16)) 49 ∧ ∀ a_heap_49 : Nat → Int32 , a_heap_49 = upd (gX_heap u1) ((x3_2 + 1) + (p1 - p1 / 16 * 16)).toNatClampNeg ((gX_cells u1) (p0 + 1).toNatClampNeg) → (wpX_advance (fun u2 => (post u2)) (sX_heap a_heap_49 u1)))))) ∧ (¬ r_4 = 0 → (post u1))))) u x3_2 (p1 / 16))))) : wpX_putField post u p0 p1 := h
def kX_handOver_8 (post : SX → Prop) (x1 : Int32) (x2 : Int32) (x3 : Int32) (n : Nat) (x4 : Int32) (u : SX) : Prop := wX_handOver_8 post x1 x2 x3 (gX_faultPlace u) (gX_heapEnd u) (gX_frames u) (gX_frameWordsUsed u) (gX_wanted u) (gX_outcome u) (gX_lastResult u) (gX_lastOrigin u) (gX_done u) (gX_collections u) (gX_stayed u) (gX_turnedCount u) (gX_linkedCount u) n x4 (gX_superOf u) (gX_fieldCount u) (gX_refFields u) (gX_ownMethods u) (gX_initialisers u) (gX_ready u) (gX_ops u) (gX_operands u) (gX_lengths u) (gX_catchFrom u) (gX_catchTo u) (gX_catchGoal u) (gX_refMaps u) (gX_bodyHeights u) (gX_frameWords u) (gX_codeOps u) (gX_codeCells u) (gX_codeArgs u) (gX_heights u) (gX_intKinds u) (gX_refKinds u) (gX_heap u) (gX_newPlaces u) (gX_globals u) (gX_frameMethod u) (gX_framePlace u) (gX_cells u)
theorem uX_handOver_8 {post : SX → Prop} {x1 : Int32} {x2 : Int32} {x3 : Int32} {n : Nat} {x4 : Int32} {u : SX} (h : ((x3 ≤ x4 → (post (sX_wanted x2 u))) ∧ (¬ x3 ≤ x4 → (vp_in (x1 + x4) 168 ∧ (vp_in (((gX_frames u) * 12) + x4) 168 ∧ ∀ a_cells_5 : Nat → Int32 , a_cells_5 = upd (gX_cells u) (((gX_frames u) * 12) + x4).toNatClampNeg ((gX_cells u) (x1 + x4).toNatClampNeg) → (∀ x4_6 : Int32 , x4_6 = x4 + 1 → (kX_handOver_8 post x1 x2 x3 n x4_6 (sX_cells a_cells_5 u)))))))) : kX_handOver_8 post x1 x2 x3 (n + 1) x4 u := h
theorem upX_handOver {post : SX → Prop} {u : SX} {p0 : Int32} {p1 : Int32} (h : wpX_takes (fun r_1 => (∃ n8 : Nat , kX_handOver_8 post p0 p1 r_1 n8 0 u)) p1) : wpX_handOver post u p0 p1 := h
theorem upX_callMethod {post : SX → Prop} {u : SX} {p0 : Int32} {p1 : Int32} {p2 : Int32} (h : wpX_hasBody (fun r_1 => (((r_1 = 0 → (wpX_raise (fun u1 => (post u1)) u 4)) ∧ (¬ r_1 = 0 → (vp_in p0 192 ∧ ∀ a_codeOps_44 : Nat → Int32 , a_codeOps_44 = upd (gX_codeOps u) p0.toNatClampNeg 28 → (∀ f_linkedCount_45 : Int32 , f_linkedCount_45 = (gX_linkedCount u) + 1 → (wpX_handOver (fun u2 => (post u2)) (sX_linkedCount_codeOps f_linkedCount_45 a_codeOps_44 u) p1 p2))))))) u p2) : wpX_callMethod post u p0 p1 p2 := h
theorem upX_sendToObject {post : SX → Prop} {u : SX} {p0 : Int32} {p1 : Int32} (h : vp_in p0 168 ∧ (∀ x3_2 : Int32 , x3_2 = (gX_cells u) p0.toNatClampNeg → (((x3_2 = 0 → (wpX_raise (fun u1 => (post u1)) u 2)) ∧ (¬ x3_2 = 0 → (vp_in x3_2 49 ∧ (wpX_methodFor (fun r_5 => (wpX_hasBody (fun r_46 => (((r_46 = 0 → (wpX_raise (fun u2 => (post u2)) u 4)) ∧ (¬ r_46 = 0 → (wpX_handOver (fun u3 => (post u3)) u p0 r_5))))) u r_5)) u ((gX_heap u) x3_2.toNatClampNeg) p1))))))) : wpX_sendToObject post u p0 p1 := h
theorem upX_classOf {post : Int32 → Prop} {u : SX} {p0 : Int32} (h : ((p0 = 0 → (post (- 1))) ∧ (¬ p0 = 0 → (vp_in p0 49 ∧ (post ((gX_heap u) p0.toNatClampNeg)))))) : wpX_classOf post u p0 := h
theorem upX_endWith {post : SX → Prop} {u : SX} {p0 : Int32} {p1 : Int32} (h : wpX_givesRef (fun r_1 => (((r_1 = 0 → (post (sX_outcome_lastResult 0 p1.toInt64 u))) ∧ (¬ r_1 = 0 → (∀ a_globals_4 : Nat → Int32 , a_globals_4 = upd (gX_globals u) 3 p1 → (wpX_classOf (fun r_5 => (post (sX_outcome_lastResult_globals 0 r_5.toInt64 a_globals_4 u))) (sX_outcome_lastResult_globals 0 p1.toInt64 a_globals_4 u) p1)))))) p0) : wpX_endWith post u p0 p1 := h
theorem upX_giveBack {post : SX → Prop} {u : SX} {p0 : Int32} (h : vp_in ((gX_frames u) - 1) 14 ∧ (∀ x2_2 : Int32 , x2_2 = (gX_frameMethod u) ((gX_frames u) - 1).toNatClampNeg → (wpX_leave (fun u1 => ((((gX_frames u1) = 0 → (wpX_endWith (fun u2 => (post u2)) u1 x2_2 p0)) ∧ (¬ (gX_frames u1) = 0 → (wpX_codePlace (fun r_45 => (vp_in r_45 192 ∧ (((((gX_codeOps u1) r_45.toNatClampNeg) = 12 → (post u1)) ∧ (¬ ((gX_codeOps u1) r_45.toNatClampNeg) = 12 → (vp_in r_45 192 ∧ (vp_in ((((gX_frames u1) - 1) * 12) + ((gX_codeCells u1) r_45.toNatClampNeg)) 168 ∧ ∀ a_cells_90 : Nat → Int32 , a_cells_90 = upd (gX_cells u1) ((((gX_frames u1) - 1) * 12) + ((gX_codeCells u1) r_45.toNatClampNeg)).toNatClampNeg p0 → (wpX_advance (fun u3 => (post u3)) (sX_cells a_cells_90 u1))))))))) u1))))) u))) : wpX_giveBack post u p0 := h
def kX_compare_77 (post : SX → Prop) (z0 : Int32) (z1 : Int32)  (u : SX) : Prop := wX_compare_77 post z0 z1 (gX_faultPlace u) (gX_heapEnd u) (gX_frames u) (gX_frameWordsUsed u) (gX_wanted u) (gX_outcome u) (gX_lastResult u) (gX_lastOrigin u) (gX_done u) (gX_collections u) (gX_stayed u) (gX_turnedCount u) (gX_linkedCount u) (gX_superOf u) (gX_fieldCount u) (gX_refFields u) (gX_ownMethods u) (gX_initialisers u) (gX_ready u) (gX_ops u) (gX_operands u) (gX_lengths u) (gX_catchFrom u) (gX_catchTo u) (gX_catchGoal u) (gX_refMaps u) (gX_bodyHeights u) (gX_frameWords u) (gX_codeOps u) (gX_codeCells u) (gX_codeArgs u) (gX_heights u) (gX_intKinds u) (gX_refKinds u) (gX_heap u) (gX_newPlaces u) (gX_globals u) (gX_frameMethod u) (gX_framePlace u) (gX_cells u)
theorem uX_compare_77 {post : SX → Prop} {z0 : Int32} {z1 : Int32}  {u : SX} (h : vp_in z1 168 ∧ ∀ a_cells_7 : Nat → Int32 , a_cells_7 = upd (gX_cells u) z1.toNatClampNeg z0 → (wpX_advance (fun u1 => (post u1)) (sX_cells a_cells_7 u))) : kX_compare_77 post z0 z1 u := h
def kX_compare_60 (post : SX → Prop) (x2 : Int32) (z0 : Int32)  (u : SX) : Prop := wX_compare_60 post x2 z0 (gX_faultPlace u) (gX_heapEnd u) (gX_frames u) (gX_frameWordsUsed u) (gX_wanted u) (gX_outcome u) (gX_lastResult u) (gX_lastOrigin u) (gX_done u) (gX_collections u) (gX_stayed u) (gX_turnedCount u) (gX_linkedCount u) (gX_superOf u) (gX_fieldCount u) (gX_refFields u) (gX_ownMethods u) (gX_initialisers u) (gX_ready u) (gX_ops u) (gX_operands u) (gX_lengths u) (gX_catchFrom u) (gX_catchTo u) (gX_catchGoal u) (gX_refMaps u) (gX_bodyHeights u) (gX_frameWords u) (gX_codeOps u) (gX_codeCells u) (gX_codeArgs u) (gX_heights u) (gX_intKinds u) (gX_refKinds u) (gX_heap u) (gX_newPlaces u) (gX_globals u) (gX_frameMethod u) (gX_framePlace u) (gX_cells u)
theorem uX_compare_60 {post : SX → Prop} {x2 : Int32} {z0 : Int32}  {u : SX} (h : ((z0 = 0 → (kX_compare_77 post 0 x2 u)) ∧ (¬ z0 = 0 → (kX_compare_77 post 1 x2 u)))) : kX_compare_60 post x2 z0 u := h
def kX_compare_59 (post : SX → Prop) (x2 : Int32)  (u : SX) : Prop := wX_compare_59 post x2 (gX_faultPlace u) (gX_heapEnd u) (gX_frames u) (gX_frameWordsUsed u) (gX_wanted u) (gX_outcome u) (gX_lastResult u) (gX_lastOrigin u) (gX_done u) (gX_collections u) (gX_stayed u) (gX_turnedCount u) (gX_linkedCount u) (gX_superOf u) (gX_fieldCount u) (gX_refFields u) (gX_ownMethods u) (gX_initialisers u) (gX_ready u) (gX_ops u) (gX_operands u) (gX_lengths u) (gX_catchFrom u) (gX_catchTo u) (gX_catchGoal u) (gX_refMaps u) (gX_bodyHeights u) (gX_frameWords u) (gX_codeOps u) (gX_codeCells u) (gX_codeArgs u) (gX_heights u) (gX_intKinds u) (gX_refKinds u) (gX_heap u) (gX_newPlaces u) (gX_globals u) (gX_frameMethod u) (gX_framePlace u) (gX_cells u)
theorem uX_compare_59 {post : SX → Prop} {x2 : Int32}  {u : SX} (h : kX_compare_60 post x2 0 u) : kX_compare_59 post x2 u := h
theorem upX_compare {post : SX → Prop} {u : SX} {p0 : Int32} {p1 : Int32} {p2 : Int32} (h : vp_in p1 168 ∧ (∀ x4_2 : Int32 , x4_2 = (gX_cells u) p1.toNatClampNeg → (((p0 = 11 → (vp_in (p1 + 1) 168 ∧ (((x4_2 = ((gX_cells u) (p1 + 1).toNatClampNeg) → (kX_compare_60 post p1 1 u)) ∧ (¬ x4_2 = ((gX_cells u) (p1 + 1).toNatClampNeg) → (kX_compare_60 post p1 0 u)))))) ∧ (¬ p0 = 11 → (((x4_2 = 0 → (kX_compare_59 post p1 u)) ∧ (¬ x4_2 = 0 → (vp_in x4_2 49 ∧ (wpX_isBelow (fun r_50 => (((r_50 = 0 → (kX_compare_59 post p1 u)) ∧ (¬ r_50 = 0 → (kX_compare_60 post p1 1 u))))) u ((gX_heap u) x4_2.toNatClampNeg) p2)))))))))) : wpX_compare post u p0 p1 p2 := h
def kX_moveValue_97 (post : SX → Prop)  (u : SX) : Prop := wX_moveValue_97 post (gX_faultPlace u) (gX_heapEnd u) (gX_frames u) (gX_frameWordsUsed u) (gX_wanted u) (gX_outcome u) (gX_lastResult u) (gX_lastOrigin u) (gX_done u) (gX_collections u) (gX_stayed u) (gX_turnedCount u) (gX_linkedCount u) (gX_superOf u) (gX_fieldCount u) (gX_refFields u) (gX_ownMethods u) (gX_initialisers u) (gX_ready u) (gX_ops u) (gX_operands u) (gX_lengths u) (gX_catchFrom u) (gX_catchTo u) (gX_catchGoal u) (gX_refMaps u) (gX_bodyHeights u) (gX_frameWords u) (gX_codeOps u) (gX_codeCells u) (gX_codeArgs u) (gX_heights u) (gX_intKinds u) (gX_refKinds u) (gX_heap u) (gX_newPlaces u) (gX_globals u) (gX_frameMethod u) (gX_framePlace u) (gX_cells u)
theorem uX_moveValue_97 {post : SX → Prop}  {u : SX} (h : wpX_advance (fun u1 => (post u1)) u) : kX_moveValue_97 post u := h
theorem upX_moveValue {post : SX → Prop} {u : SX} {p0 : Int32} {p1 : Int32} {p2 : Int32} (h : ((p0 < 22 → (kX_moveValue_97 post u)) ∧ (¬ p0 < 22 → (((25 < p0 → (kX_moveValue_97 post u)) ∧ (¬ 25 < p0 → (((p0 = 22 → (vp_in p2 4 ∧ (vp_in p1 168 ∧ ∀ a_cells_47 : Nat → Int32 , a_cells_47 = upd (gX_cells u) p1.toNatClampNeg ((gX_globals u) p2.toNatClampNeg) → (kX_moveValue_97 post (sX_cells a_cells_47 u))))) ∧ (¬ p0 = 22 → (((p0 = 23 → (vp_in p1 168 ∧ (vp_in p2 4 ∧ ∀ a_globals_51 : Nat → Int32 , a_globals_51 = upd (gX_globals u) p2.toNatClampNeg ((gX_cells u) p1.toNatClampNeg) → (kX_moveValue_97 post (sX_globals a_globals_51 u))))) ∧ (¬ p0 = 23 → (((p0 = 24 → (vp_in p1 168 ∧ ∀ a_cells_54 : Nat → Int32 , a_cells_54 = upd (gX_cells u) p1.toNatClampNeg p2 → (kX_moveValue_97 post (sX_cells a_cells_54 u)))) ∧ (¬ p0 = 24 → (((p0 = 25 → (vp_in ((((gX_frames u) - 1) * 12) + p2) 168 ∧ (vp_in p1 168 ∧ ∀ a_cells_58 : Nat → Int32 , a_cells_58 = upd (gX_cells u) p1.toNatClampNeg ((gX_cells u) ((((gX_frames u) - 1) * 12) + p2).toNatClampNeg) → (kX_moveValue_97 post (sX_cells a_cells_58 u))))) ∧ (¬ p0 = 25 → (True))))))))))))))))))) : wpX_moveValue post u p0 p1 p2 := h
def kX_step_278 (post : SX → Prop) (x2 : Int32) (x3 : Int32) (x4 : Int32)  (u : SX) : Prop := wX_step_278 post x2 x3 x4 (gX_faultPlace u) (gX_heapEnd u) (gX_frames u) (gX_frameWordsUsed u) (gX_wanted u) (gX_outcome u) (gX_lastResult u) (gX_lastOrigin u) (gX_done u) (gX_collections u) (gX_stayed u) (gX_turnedCount u) (gX_linkedCount u) (gX_superOf u) (gX_fieldCount u) (gX_refFields u) (gX_ownMethods u) (gX_initialisers u) (gX_ready u) (gX_ops u) (gX_operands u) (gX_lengths u) (gX_catchFrom u) (gX_catchTo u) (gX_catchGoal u) (gX_refMaps u) (gX_bodyHeights u) (gX_frameWords u) (gX_codeOps u) (gX_codeCells u) (gX_codeArgs u) (gX_heights u) (gX_intKinds u) (gX_refKinds u) (gX_heap u) (gX_newPlaces u) (gX_globals u) (gX_frameMethod u) (gX_framePlace u) (gX_cells u)
theorem uX_step_278 {post : SX → Prop} {x2 : Int32} {x3 : Int32} {x4 : Int32}  {u : SX} (h : wpX_moveValue (fun u1 => (post u1)) u x3 x2 x4) : kX_step_278 post x2 x3 x4 u := h
def kX_step_152 (post : SX → Prop) (x2 : Int32) (x3 : Int32)  (u : SX) : Prop := wX_step_152 post x2 x3 (gX_faultPlace u) (gX_heapEnd u) (gX_frames u) (gX_frameWordsUsed u) (gX_wanted u) (gX_outcome u) (gX_lastResult u) (gX_lastOrigin u) (gX_done u) (gX_collections u) (gX_stayed u) (gX_turnedCount u) (gX_linkedCount u) (gX_superOf u) (gX_fieldCount u) (gX_refFields u) (gX_ownMethods u) (gX_initialisers u) (gX_ready u) (gX_ops u) (gX_operands u) (gX_lengths u) (gX_catchFrom u) (gX_catchTo u) (gX_catchGoal u) (gX_refMaps u) (gX_bodyHeights u) (gX_frameWords u) (gX_codeOps u) (gX_codeCells u) (gX_codeArgs u) (gX_heights u) (gX_intKinds u) (gX_refKinds u) (gX_heap u) (gX_newPlaces u) (gX_globals u) (gX_frameMethod u) (gX_framePlace u) (gX_cells u)
theorem uX_step_152 {post : SX → Prop} {x2 : Int32} {x3 : Int32}  {u : SX} (h : wpX_calculate (fun u1 => (post u1)) u x3 x2) : kX_step_152 post x2 x3 u := h
def kX_step_267 (post : SX → Prop) (x2 : Int32) (x3 : Int32) (x4 : Int32)  (u : SX) : Prop := wX_step_267 post x2 x3 x4 (gX_faultPlace u) (gX_heapEnd u) (gX_frames u) (gX_frameWordsUsed u) (gX_wanted u) (gX_outcome u) (gX_lastResult u) (gX_lastOrigin u) (gX_done u) (gX_collections u) (gX_stayed u) (gX_turnedCount u) (gX_linkedCount u) (gX_superOf u) (gX_fieldCount u) (gX_refFields u) (gX_ownMethods u) (gX_initialisers u) (gX_ready u) (gX_ops u) (gX_operands u) (gX_lengths u) (gX_catchFrom u) (gX_catchTo u) (gX_catchGoal u) (gX_refMaps u) (gX_bodyHeights u) (gX_frameWords u) (gX_codeOps u) (gX_codeCells u) (gX_codeArgs u) (gX_heights u) (gX_intKinds u) (gX_refKinds u) (gX_heap u) (gX_newPlaces u) (gX_globals u) (gX_frameMethod u) (gX_framePlace u) (gX_cells u)
theorem uX_step_267 {post : SX → Prop} {x2 : Int32} {x3 : Int32} {x4 : Int32}  {u : SX} (h : wpX_compare (fun u1 => (post u1)) u x3 x2 x4) : kX_step_267 post x2 x3 x4 u := h
theorem upX_step {post : SX → Prop} {u : SX} (h : wpX_codePlace (fun r_1 => (vp_in r_1 192 ∧ (∀ x2_43 : Int32 , x2_43 = (((gX_frames u) - 1) * 12) + ((gX_codeCells u) r_1.toNatClampNeg) → (vp_in r_1 192 ∧ (∀ x3_45 : Int32 , x3_45 = (gX_codeOps u) r_1.toNatClampNeg → (vp_in r_1 192 ∧ (∀ x4_47 : Int32 , x4_47 = (gX_codeArgs u) r_1.toNatClampNeg → (((x3_45 < 4 → (kX_step_278 post x2_43 x3_45 x4_47 u)) ∧ (¬ x3_45 < 4 → (((28 < x3_45 → (kX_step_278 post x2_43 x3_45 x4_47 u)) ∧ (¬ 28 < x3_45 → (((x3_45 = 4 → (kX_step_152 post x2_43 x3_45 u)) ∧ (¬ x3_45 = 4 → (((x3_45 = 5 → (kX_step_152 post x2_43 x3_45 u)) ∧ (¬ x3_45 = 5 → (((x3_45 = 6 → (kX_step_152 post x2_43 x3_45 u)) ∧ (¬ x3_45 = 6 → (((x3_45 = 7 → (kX_step_152 post x2_43 x3_45 u)) ∧ (¬ x3_45 = 7 → (((x3_45 = 8 → (wpX_goTo (fun u1 => (post u1)) u x4_47)) ∧ (¬ x3_45 = 8 → (((x3_45 = 9 → (kX_step_278 post x2_43 x3_45 x4_47 u)) ∧ (¬ x3_45 = 9 → (((x3_45 = 10 → (kX_step_278 post x2_43 x3_45 x4_47 u)) ∧ (¬ x3_45 = 10 → (((x3_45 = 11 → (kX_step_267 post x2_43 x3_45 x4_47 u)) ∧ (¬ x3_45 = 11 → (((x3_45 = 12 → (wpX_makeObject (fun u2 => (post u2)) u x2_43 x4_47)) ∧ (¬ x3_45 = 12 → (((x3_45 = 13 → (wpX_getField (fun u3 => (post u3)) u x2_43 x4_47)) ∧ (¬ x3_45 = 13 → (((x3_45 = 14 → (wpX_putField (fun u4 => (post u4)) u x2_43 x4_47)) ∧ (¬ x3_45 = 14 → (((x3_45 = 15 → (kX_step_267 post x2_43 x3_45 x4_47 u)) ∧ (¬ x3_45 = 15 → (((x3_45 = 16 → (wpX_callMethod (fun u5 => (post u5)) u r_1 x2_43 x4_47)) ∧ (¬ x3_45 = 16 → (((x3_45 = 17 → (wpX_sendToObject (fun u6 => (post u6)) u x2_43 x4_47)) ∧ (¬ x3_45 = 17 → (((x3_45 = 18 → (vp_in x2_43 168 ∧ (wpX_giveBack (fun u7 => (post u7)) u ((gX_cells u) x2_43.toNatClampNeg)))) ∧ (¬ x3_45 = 18 → (((x3_45 = 19 → (vp_in x2_43 168 ∧ (wpX_raise (fun u8 => (post u8)) u ((gX_cells u) x2_43.toNatClampNeg)))) ∧ (¬ x3_45 = 19 → (((x3_45 = 20 → (kX_step_278 post x2_43 x3_45 x4_47 u)) ∧ (¬ x3_45 = 20 → (((x3_45 = 21 → (kX_step_278 post x2_43 x3_45 x4_47 u)) ∧ (¬ x3_45 = 21 → (((x3_45 = 22 → (kX_step_278 post x2_43 x3_45 x4_47 u)) ∧ (¬ x3_45 = 22 → (((x3_45 = 23 → (kX_step_278 post x2_43 x3_45 x4_47 u)) ∧ (¬ x3_45 = 23 → (((x3_45 = 24 → (kX_step_278 post x2_43 x3_45 x4_47 u)) ∧ (¬ x3_45 = 24 → (((x3_45 = 25 → (kX_step_278 post x2_43 x3_45 x4_47 u)) ∧ (¬ x3_45 = 25 → (((x3_45 = 26 → (kX_step_278 post x2_43 x3_45 x4_47 u)) ∧ (¬ x3_45 = 26 → (((x3_45 = 27 → (wpX_branch (fun u9 => (post u9)) u x2_43 x4_47)) ∧ (¬ x3_45 = 27 → (((x3_45 = 28 → (wpX_handOver (fun u10 => (post u10)) u x2_43 x4_47)) ∧ (¬ x3_45 = 28 → (True))))))))))))))))))))))))))))))))))))))))))))))))))))))))))))))))))))))))))))))))))))))))) u) : wpX_step post u := h
def kX_run_67 (post : Int32 → SX → Prop) (n : Nat) (x5 : Int32) (u : SX) : Prop := wX_run_67 post n x5 (gX_faultPlace u) (gX_heapEnd u) (gX_frames u) (gX_frameWordsUsed u) (gX_wanted u) (gX_outcome u) (gX_lastResult u) (gX_lastOrigin u) (gX_done u) (gX_collections u) (gX_stayed u) (gX_turnedCount u) (gX_linkedCount u) (gX_superOf u) (gX_fieldCount u) (gX_refFields u) (gX_ownMethods u) (gX_initialisers u) (gX_ready u) (gX_ops u) (gX_operands u) (gX_lengths u) (gX_catchFrom u) (gX_catchTo u) (gX_catchGoal u) (gX_refMaps u) (gX_bodyHeights u) (gX_frameWords u) (gX_codeOps u) (gX_codeCells u) (gX_codeArgs u) (gX_heights u) (gX_intKinds u) (gX_refKinds u) (gX_heap u) (gX_newPlaces u) (gX_globals u) (gX_frameMethod u) (gX_framePlace u) (gX_cells u)
theorem uX_run_67 {post : Int32 → SX → Prop} {n : Nat} {x5 : Int32} {u : SX} (h : ((1000 ≤ x5 → (post (gX_outcome u) (sX_done x5 u))) ∧ (¬ 1000 ≤ x5 → ((((gX_outcome u) = 2 → (wpX_step (fun u1 => ((((gX_wanted u1) = (- 1) → (∀ x5_173 : Int32 , x5_173 = x5 + 1 → (kX_run_67 post n x5_173 u1))) ∧ (¬ (gX_wanted u1) = (- 1) → (wpX_enterWanted (fun u2 => (∀ x5_215 : Int32 , x5_215 = x5 + 1 → (kX_run_67 post n x5_215 u2))) u1))))) u)) ∧ (¬ (gX_outcome u) = 2 → (post (gX_outcome u) (sX_done x5 u)))))))) : kX_run_67 post (n + 1) x5 u := h
theorem upX_run {post : Int32 → SX → Prop} {u : SX} {p0 : Int32} {p1 : Int32} {p2 : Int32} {p3 : Int32} (h : wpX_hasBody (fun r_1 => (((r_1 = 0 → (post (- 1) u)) ∧ (¬ r_1 = 0 → (wpX_isGlobal (fun r_43 => (((r_43 = 0 → (post (- 1) u)) ∧ (¬ r_43 = 0 → (wpX_isGlobal (fun r_45 => (((r_45 = 0 → (post (- 1) u)) ∧ (¬ r_45 = 0 → (wpX_takeFromOutside (fun u1 => (wpX_enterWanted (fun u2 => (∃ n67 : Nat , kX_run_67 post n67 0 u2)) u1)) (sX_frames_frameWordsUsed_outcome_lastResult_lastOrigin 0 0 2 10000000000 (- 1) u) p0 p1 p2 p3))))) p2))))) p1))))) u p0) : wpX_run post u p0 p1 p2 p3 := h
theorem upX_result {post : Int64 → Prop} {u : SX} (h : post (gX_lastResult u)) : wpX_result post u := h
theorem upX_origin {post : Int32 → Prop} {u : SX} (h : post (gX_lastOrigin u)) : wpX_origin post u := h
theorem upX_look {post : Int64 → Prop} {u : SX} {p0 : Int32} {p1 : Int32} (h : wpX_isGlobal (fun r_1 => (((r_1 = 0 → (post 10000000000)) ∧ (¬ r_1 = 0 → (vp_in p0 4 ∧ (((((gX_globals u) p0.toNatClampNeg) = 0 → (post 10000000000)) ∧ (¬ ((gX_globals u) p0.toNatClampNeg) = 0 → (vp_in p0 4 ∧ (∀ x3_6 : Int32 , x3_6 = (gX_globals u) p0.toNatClampNeg → (((p1 = 0 → (vp_in x3_6 49 ∧ (post (((gX_heap u) x3_6.toNatClampNeg).toInt64)))) ∧ (¬ p1 = 0 → (((p1 < 0 → (post 10000000000)) ∧ (¬ p1 < 0 → (vp_in x3_6 49 ∧ (vp_in ((gX_heap u) x3_6.toNatClampNeg) 4 ∧ (((p1 ≤ ((gX_fieldCount u) ((gX_heap u) x3_6.toNatClampNeg).toNatClampNeg) → (vp_in (x3_6 + p1) 49 ∧ (∀ x4_13 : Int32 , x4_13 = (gX_heap u) (x3_6 + p1).toNatClampNeg → (vp_in x3_6 49 ∧ (wpX_isRefField (fun r_15 => (((r_15 = 0 → (post x4_13.toInt64)) ∧ (¬ r_15 = 0 → (wpX_classOf (fun r_57 => (post r_57.toInt64)) u x4_13))))) u ((gX_heap u) x3_6.toNatClampNeg) (p1 - 1)))))) ∧ (¬ p1 ≤ ((gX_fieldCount u) ((gX_heap u) x3_6.toNatClampNeg).toNatClampNeg) → (post 10000000000)))))))))))))))))))))) p0) : wpX_look post u p0 p1 := h
theorem upX_go {post : Int32 → SX → Prop} {u : SX} {p0 : Int32} {p1 : Int32} (h : wpX_isGlobal (fun r_1 => (((r_1 = 0 → (post 0 u)) ∧ (¬ r_1 = 0 → (vp_in p0 4 ∧ (((((gX_globals u) p0.toNatClampNeg) = 0 → (post 0 u)) ∧ (¬ ((gX_globals u) p0.toNatClampNeg) = 0 → (vp_in p0 4 ∧ (∀ x3_6 : Int32 , x3_6 = (gX_globals u) p0.toNatClampNeg → (vp_in x3_6 49 ∧ (wpX_isField (fun r_8 => (((r_8 = 0 → (post 0 u)) ∧ (¬ r_8 = 0 → (vp_in x3_6 49 ∧ (wpX_isRefField (fun r_51 => (((r_51 = 0 → (post 0 u)) ∧ (¬ r_51 = 0 → (vp_in ((x3_6 + 1) + p1) 49 ∧ (vp_in p0 4 ∧ ∀ a_globals_95 : Nat → Int32 , a_globals_95 = upd (gX_globals u) p0.toNatClampNeg ((gX_heap u) ((x3_6 + 1) + p1).toNatClampNeg) → (post 1 (sX_globals a_globals_95 u)))))))) u ((gX_heap u) x3_6.toNatClampNeg) p1)))))) u ((gX_heap u) x3_6.toNatClampNeg) p1)))))))))))) p0) : wpX_go post u p0 p1 := h
def kX_set_23 (post : Int32 → SX → Prop) (x1 : Int32) (x2 : Int32)  (u : SX) : Prop := wX_set_23 post x1 x2 (gX_faultPlace u) (gX_heapEnd u) (gX_frames u) (gX_frameWordsUsed u) (gX_wanted u) (gX_outcome u) (gX_lastResult u) (gX_lastOrigin u) (gX_done u) (gX_collections u) (gX_stayed u) (gX_turnedCount u) (gX_linkedCount u) (gX_superOf u) (gX_fieldCount u) (gX_refFields u) (gX_ownMethods u) (gX_initialisers u) (gX_ready u) (gX_ops u) (gX_operands u) (gX_lengths u) (gX_catchFrom u) (gX_catchTo u) (gX_catchGoal u) (gX_refMaps u) (gX_bodyHeights u) (gX_frameWords u) (gX_codeOps u) (gX_codeCells u) (gX_codeArgs u) (gX_heights u) (gX_intKinds u) (gX_refKinds u) (gX_heap u) (gX_newPlaces u) (gX_globals u) (gX_frameMethod u) (gX_framePlace u) (gX_cells u)
theorem uX_set_23 {post : Int32 → SX → Prop} {x1 : Int32} {x2 : Int32}  {u : SX} (h : ((x2 = (- 1) → (vp_in x1 4 ∧ ∀ a_globals_9 : Nat → Int32 , a_globals_9 = upd (gX_globals u) x1.toNatClampNeg 0 → (post 1 (sX_globals a_globals_9 u)))) ∧ (¬ x2 = (- 1) → (vp_in x2 4 ∧ (vp_in x1 4 ∧ ∀ a_globals_7 : Nat → Int32 , a_globals_7 = upd (gX_globals u) x1.toNatClampNeg ((gX_globals u) x2.toNatClampNeg) → (post 1 (sX_globals a_globals_7 u))))))) : kX_set_23 post x1 x2 u := h
theorem upX_set {post : Int32 → SX → Prop} {u : SX} {p0 : Int32} {p1 : Int32} (h : wpX_isGlobal (fun r_1 => (((r_1 = 0 → (post 0 u)) ∧ (¬ r_1 = 0 → (((p1 = (- 1) → (kX_set_23 post p0 p1 u)) ∧ (¬ p1 = (- 1) → (wpX_isGlobal (fun r_10 => (((r_10 = 0 → (post 0 u)) ∧ (¬ r_10 = 0 → (kX_set_23 post p0 p1 u))))) p1)))))))) p0) : wpX_set post u p0 p1 := h
def kX_readySum_4 (post : Int32 → Prop) (n : Nat) (x1 : Int32) (x2 : Int32) (u : SX) : Prop := wX_readySum_4 post (gX_faultPlace u) (gX_heapEnd u) (gX_frames u) (gX_frameWordsUsed u) (gX_wanted u) (gX_outcome u) (gX_lastResult u) (gX_lastOrigin u) (gX_done u) (gX_collections u) (gX_stayed u) (gX_turnedCount u) (gX_linkedCount u) (gX_superOf u) (gX_fieldCount u) (gX_refFields u) (gX_ownMethods u) (gX_initialisers u) (gX_ready u) (gX_ops u) (gX_operands u) (gX_lengths u) (gX_catchFrom u) (gX_catchTo u) (gX_catchGoal u) (gX_refMaps u) (gX_bodyHeights u) (gX_frameWords u) (gX_codeOps u) (gX_codeCells u) (gX_codeArgs u) (gX_heights u) (gX_intKinds u) (gX_refKinds u) (gX_heap u) (gX_newPlaces u) (gX_globals u) (gX_frameMethod u) (gX_framePlace u) (gX_cells u) n x1 x2
theorem uX_readySum_4 {post : Int32 → Prop} {n : Nat} {x1 : Int32} {x2 : Int32} {u : SX} (h : ((4 ≤ x2 → (post x1)) ∧ (¬ 4 ≤ x2 → (vp_in x2 4 ∧ (((((gX_ready u) x2.toNatClampNeg) = 0 → (∀ x2_4 : Int32 , x2_4 = x2 + 1 → (kX_readySum_4 post n x1 x2_4 u))) ∧ (¬ ((gX_ready u) x2.toNatClampNeg) = 0 → (∀ x1_5 : Int32 , x1_5 = x1 ||| ((1 : Int32) <<< (x2 &&& 31)) → (∀ x2_6 : Int32 , x2_6 = x2 + 1 → (kX_readySum_4 post n x1_5 x2_6 u)))))))))) : kX_readySum_4 post (n + 1) x1 x2 u := h
theorem upX_readySum {post : Int32 → Prop} {u : SX} (h : ∃ n4 : Nat , kX_readySum_4 post n4 0 0 u) : wpX_readySum post u := h
theorem upX_count {post : Int32 → Prop} {u : SX} {p0 : Int32} (h : ((p0 < 0 → (post (- 1))) ∧ (¬ p0 < 0 → (((6 < p0 → (post (- 1))) ∧ (¬ 6 < p0 → (((p0 = 0 → (post (gX_done u))) ∧ (¬ p0 = 0 → (((p0 = 1 → (post (gX_collections u))) ∧ (¬ p0 = 1 → (((p0 = 2 → (post (gX_stayed u))) ∧ (¬ p0 = 2 → (((p0 = 3 → (post ((gX_heapEnd u) - 1))) ∧ (¬ p0 = 3 → (((p0 = 4 → (post (gX_turnedCount u))) ∧ (¬ p0 = 4 → (((p0 = 5 → (post (gX_linkedCount u))) ∧ (¬ p0 = 5 → (((p0 = 6 → (wpX_readySum (fun r_10 => (post r_10)) u)) ∧ (¬ p0 = 6 → (True)))))))))))))))))))))))))))) : wpX_count post u p0 := h
end
section
def kY_init_275 (post : SY → Prop) (n : Nat) (x1 : Int32) (u : SY) : Prop := wY_init_275 post (gY_fault u) (gY_height u) (gY_used u) (gY_depth u) (gY_room u) (gY_steps u) (gY_origin u) (gY_answer u) (gY_collections u) (gY_stayed u) (gY_codes u) (gY_links u) (gY_result u) n x1 (gY_up u) (gY_ints u) (gY_references u) (gY_slots u) (gY_first u) (gY_ready u) (gY_ops u) (gY_args u) (gY_length u) (gY_from u) (gY_to u) (gY_goal u) (gY_words u) (gY_maps u) (gY_coded u) (gY_linked u) (gY_heights u) (gY_kinds u) (gY_behind u) (gY_of u) (gY_fields u) (gY_globals u) (gY_marked u) (gY_method u) (gY_at u) (gY_high u) (gY_locals u) (gY_stack u)
theorem uY_init_275 {post : SY → Prop} {n : Nat} {x1 : Int32} {u : SY} (h : ((16 ≤ x1 → (post u)) ∧ (¬ 16 ≤ x1 → (vp_in x1 16 ∧ ∀ a_slots_4 : Nat → Int32 , a_slots_4 = upd (gY_slots u) x1.toNatClampNeg (- 1) → (∀ x1_5 : Int32 , x1_5 = x1 + 1 → (kY_init_275 post n x1_5 (sY_slots a_slots_4 u))))))) : kY_init_275 post (n + 1) x1 u := h
def kY_init_247 (post : SY → Prop) (n : Nat) (x1 : Int32) (u : SY) : Prop := wY_init_247 post (gY_fault u) (gY_height u) (gY_used u) (gY_depth u) (gY_room u) (gY_steps u) (gY_origin u) (gY_answer u) (gY_collections u) (gY_stayed u) (gY_codes u) (gY_links u) (gY_result u) n x1 (gY_up u) (gY_ints u) (gY_references u) (gY_slots u) (gY_first u) (gY_ready u) (gY_ops u) (gY_args u) (gY_length u) (gY_from u) (gY_to u) (gY_goal u) (gY_words u) (gY_maps u) (gY_coded u) (gY_linked u) (gY_heights u) (gY_kinds u) (gY_behind u) (gY_of u) (gY_fields u) (gY_globals u) (gY_marked u) (gY_method u) (gY_at u) (gY_high u) (gY_locals u) (gY_stack u)
theorem uY_init_247 {post : SY → Prop} {n : Nat} {x1 : Int32} {u : SY} (h : ((4 ≤ x1 → (∃ n275 : Nat , kY_init_275 post n275 0 u)) ∧ (¬ 4 ≤ x1 → (vp_in x1 4 ∧ ∀ a_up_7 : Nat → Int32 , a_up_7 = upd (gY_up u) x1.toNatClampNeg (- 2) → (vp_in x1 4 ∧ ∀ a_first_9 : Nat → Int32 , a_first_9 = upd (gY_first u) x1.toNatClampNeg (- 1) → (∀ x1_10 : Int32 , x1_10 = x1 + 1 → (kY_init_247 post n x1_10 (sY_up_first a_up_7 a_first_9 u)))))))) : kY_init_247 post (n + 1) x1 u := h
theorem upY_isClass {post : Int32 → Prop} {u : SY} {p0 : Int32} (h : wpY_in (fun r_1 => (((r_1 = 0 → (post 0)) ∧ (¬ r_1 = 0 → (vp_in p0 4 ∧ (((((gY_up u) p0.toNatClampNeg) ≤ (- 2) → (post 0)) ∧ (¬ ((gY_up u) p0.toNatClampNeg) ≤ (- 2) → (post 1))))))))) p0 0 3) : wpY_isClass post u p0 := h
def kY_cls_30 (post : Int32 → SY → Prop) (x1 : Int32) (x2 : Int32) (x3 : Int32) (x4 : Int32)  (u : SY) : Prop := wY_cls_30 post x1 x2 x3 x4 (gY_fault u) (gY_height u) (gY_used u) (gY_depth u) (gY_room u) (gY_steps u) (gY_origin u) (gY_answer u) (gY_collections u) (gY_stayed u) (gY_codes u) (gY_links u) (gY_result u) (gY_up u) (gY_ints u) (gY_references u) (gY_slots u) (gY_first u) (gY_ready u) (gY_ops u) (gY_args u) (gY_length u) (gY_from u) (gY_to u) (gY_goal u) (gY_words u) (gY_maps u) (gY_coded u) (gY_linked u) (gY_heights u) (gY_kinds u) (gY_behind u) (gY_of u) (gY_fields u) (gY_globals u) (gY_marked u) (gY_method u) (gY_at u) (gY_high u) (gY_locals u) (gY_stack u)
theorem uY_cls_30 {post : Int32 → SY → Prop} {x1 : Int32} {x2 : Int32} {x3 : Int32} {x4 : Int32}  {u : SY} (h : wpY_in (fun r_47 => (((r_47 = 0 → (post 0 u)) ∧ (¬ r_47 = 0 → (wpY_in (fun r_49 => (((r_49 = 0 → (post 0 u)) ∧ (¬ r_49 = 0 → (vp_in x1 4 ∧ ∀ a_up_52 : Nat → Int32 , a_up_52 = upd (gY_up u) x1.toNatClampNeg x2 → (vp_in x1 4 ∧ ∀ a_ints_54 : Nat → Int32 , a_ints_54 = upd (gY_ints u) x1.toNatClampNeg x3 → (vp_in x1 4 ∧ ∀ a_references_56 : Nat → Int32 , a_references_56 = upd (gY_references u) x1.toNatClampNeg x4 → (post 1 (sY_up_ints_references a_up_52 a_ints_54 a_references_56 u))))))))) x4 0 2))))) x3 0 2) : kY_cls_30 post x1 x2 x3 x4 u := h
theorem upY_cls {post : Int32 → SY → Prop} {u : SY} {p0 : Int32} {p1 : Int32} {p2 : Int32} {p3 : Int32} (h : wpY_in (fun r_1 => (((r_1 = 0 → (post 0 u)) ∧ (¬ r_1 = 0 → (wpY_isClass (fun r_3 => (((r_3 = 0 → (((p1 = (- 1) → (kY_cls_30 post p0 p1 p2 p3 u)) ∧ (¬ p1 = (- 1) → (wpY_isClass (fun r_57 => (((r_57 = 0 → (post 0 u)) ∧ (¬ r_57 = 0 → (kY_cls_30 post p0 p1 p2 p3 u))))) u p1))))) ∧ (¬ r_3 = 0 → (post 0 u))))) u p0))))) p0 0 3) : wpY_cls post u p0 p1 p2 p3 := h
def kY_slot_51 (post : Int32 → SY → Prop) (x1 : Int32) (x2 : Int32) (x3 : Int32)  (u : SY) : Prop := wY_slot_51 post x1 x2 x3 (gY_fault u) (gY_height u) (gY_used u) (gY_depth u) (gY_room u) (gY_steps u) (gY_origin u) (gY_answer u) (gY_collections u) (gY_stayed u) (gY_codes u) (gY_links u) (gY_result u) (gY_up u) (gY_ints u) (gY_references u) (gY_slots u) (gY_first u) (gY_ready u) (gY_ops u) (gY_args u) (gY_length u) (gY_from u) (gY_to u) (gY_goal u) (gY_words u) (gY_maps u) (gY_coded u) (gY_linked u) (gY_heights u) (gY_kinds u) (gY_behind u) (gY_of u) (gY_fields u) (gY_globals u) (gY_marked u) (gY_method u) (gY_at u) (gY_high u) (gY_locals u) (gY_stack u)
theorem uY_slot_51 {post : Int32 → SY → Prop} {x1 : Int32} {x2 : Int32} {x3 : Int32}  {u : SY} (h : vp_in ((4 * x1) + x2) 16 ∧ ∀ a_slots_48 : Nat → Int32 , a_slots_48 = upd (gY_slots u) ((4 * x1) + x2).toNatClampNeg x3 → (post 1 (sY_slots a_slots_48 u))) : kY_slot_51 post x1 x2 x3 u := h
def kY_slot_43 (post : Int32 → SY → Prop) (x1 : Int32) (x2 : Int32) (x3 : Int32) (z0 : Int32) (z1 : Int32) (z2 : Int32)  (u : SY) : Prop := wY_slot_43 post x1 x2 x3 z0 z1 z2 (gY_fault u) (gY_height u) (gY_used u) (gY_depth u) (gY_room u) (gY_steps u) (gY_origin u) (gY_answer u) (gY_collections u) (gY_stayed u) (gY_codes u) (gY_links u) (gY_result u) (gY_up u) (gY_ints u) (gY_references u) (gY_slots u) (gY_first u) (gY_ready u) (gY_ops u) (gY_args u) (gY_length u) (gY_from u) (gY_to u) (gY_goal u) (gY_words u) (gY_maps u) (gY_coded u) (gY_linked u) (gY_heights u) (gY_kinds u) (gY_behind u) (gY_of u) (gY_fields u) (gY_globals u) (gY_marked u) (gY_method u) (gY_at u) (gY_high u) (gY_locals u) (gY_stack u)
theorem uY_slot_43 {post : Int32 → SY → Prop} {x1 : Int32} {x2 : Int32} {x3 : Int32} {z0 : Int32} {z1 : Int32} {z2 : Int32}  {u : SY} (h : wpY_in (fun r_51 => (((r_51 = 0 → (post 0 u)) ∧ (¬ r_51 = 0 → (kY_slot_51 post x1 x2 x3 u))))) z2 z1 z0) : kY_slot_43 post x1 x2 x3 z0 z1 z2 u := h
def kY_slot_33 (post : Int32 → SY → Prop) (x1 : Int32) (x2 : Int32) (x3 : Int32) (z0 : Int32) (z1 : Int32)  (u : SY) : Prop := wY_slot_33 post x1 x2 x3 z0 z1 (gY_fault u) (gY_height u) (gY_used u) (gY_depth u) (gY_room u) (gY_steps u) (gY_origin u) (gY_answer u) (gY_collections u) (gY_stayed u) (gY_codes u) (gY_links u) (gY_result u) (gY_up u) (gY_ints u) (gY_references u) (gY_slots u) (gY_first u) (gY_ready u) (gY_ops u) (gY_args u) (gY_length u) (gY_from u) (gY_to u) (gY_goal u) (gY_words u) (gY_maps u) (gY_coded u) (gY_linked u) (gY_heights u) (gY_kinds u) (gY_behind u) (gY_of u) (gY_fields u) (gY_globals u) (gY_marked u) (gY_method u) (gY_at u) (gY_high u) (gY_locals u) (gY_stack u)
theorem uY_slot_33 {post : Int32 → SY → Prop} {x1 : Int32} {x2 : Int32} {x3 : Int32} {z0 : Int32} {z1 : Int32}  {u : SY} (h : ((2 ≤ x2 → (kY_slot_43 post x1 x2 x3 5 z0 z1 u)) ∧ (¬ 2 ≤ x2 → (kY_slot_43 post x1 x2 x3 3 z0 z1 u)))) : kY_slot_33 post x1 x2 x3 z0 z1 u := h
theorem upY_slot {post : Int32 → SY → Prop} {u : SY} {p0 : Int32} {p1 : Int32} {p2 : Int32} (h : wpY_isClass (fun r_1 => (((r_1 = 0 → (post 0 u)) ∧ (¬ r_1 = 0 → (wpY_in (fun r_44 => (((r_44 = 0 → (post 0 u)) ∧ (¬ r_44 = 0 → (((p2 = (- 1) → (kY_slot_51 post p0 p1 p2 u)) ∧ (¬ p2 = (- 1) → (((2 ≤ p1 → (kY_slot_33 post p0 p1 p2 4 p2 u)) ∧ (¬ 2 ≤ p1 → (kY_slot_33 post p0 p1 p2 2 p2 u))))))))))) p1 0 3))))) u p0) : wpY_slot post u p0 p1 p2 := h
theorem upY_initialiser {post : Int32 → SY → Prop} {u : SY} {p0 : Int32} {p1 : Int32} (h : wpY_isClass (fun r_1 => (((r_1 = 0 → (post 0 u)) ∧ (¬ r_1 = 0 → (wpY_in (fun r_44 => (((r_44 = 0 → (post 0 u)) ∧ (¬ r_44 = 0 → (vp_in p0 4 ∧ ∀ a_first_47 : Nat → Int32 , a_first_47 = upd (gY_first u) p0.toNatClampNeg p1 → (post 1 (sY_first a_first_47 u))))))) p1 (- 1) 1))))) u p0) : wpY_initialiser post u p0 p1 := h
def kY_total_4 (post : Int32 → Prop) (n : Nat) (x2 : Int32) (x3 : Int32) (u : SY) : Prop := wY_total_4 post (gY_fault u) (gY_height u) (gY_used u) (gY_depth u) (gY_room u) (gY_steps u) (gY_origin u) (gY_answer u) (gY_collections u) (gY_stayed u) (gY_codes u) (gY_links u) (gY_result u) (gY_up u) (gY_ints u) (gY_references u) (gY_slots u) (gY_first u) (gY_ready u) (gY_ops u) (gY_args u) (gY_length u) (gY_from u) (gY_to u) (gY_goal u) (gY_words u) (gY_maps u) (gY_coded u) (gY_linked u) (gY_heights u) (gY_kinds u) (gY_behind u) (gY_of u) (gY_fields u) (gY_globals u) (gY_marked u) (gY_method u) (gY_at u) (gY_high u) (gY_locals u) (gY_stack u) n x2 x3
theorem uY_total_4 {post : Int32 → Prop} {n : Nat} {x2 : Int32} {x3 : Int32} {u : SY} (h : ((x3 < 0 → (post x2)) ∧ (¬ x3 < 0 → (vp_in x3 4 ∧ (vp_in x3 4 ∧ (∀ x2_4 : Int32 , x2_4 = x2 + (((gY_ints u) x3.toNatClampNeg) + ((gY_references u) x3.toNatClampNeg)) → (vp_in x3 4 ∧ (∀ x3_6 : Int32 , x3_6 = (gY_up u) x3.toNatClampNeg → (kY_total_4 post n x2_4 x3_6 u))))))))) : kY_total_4 post (n + 1) x2 x3 u := h
theorem upY_total {post : Int32 → Prop} {u : SY} {p0 : Int32} (h : ∃ n4 : Nat , kY_total_4 post n4 0 p0 u) : wpY_total post u p0 := h
def kY_kindOf_23 (post : Int32 → Prop) (x2 : Int32) (n : Nat) (x3 : Int32) (x4 : Int32) (u : SY) : Prop := wY_kindOf_23 post x2 (gY_fault u) (gY_height u) (gY_used u) (gY_depth u) (gY_room u) (gY_steps u) (gY_origin u) (gY_answer u) (gY_collections u) (gY_stayed u) (gY_codes u) (gY_links u) (gY_result u) (gY_up u) (gY_ints u) (gY_references u) (gY_slots u) (gY_first u) (gY_ready u) (gY_ops u) (gY_args u) (gY_length u) (gY_from u) (gY_to u) (gY_goal u) (gY_words u) (gY_maps u) (gY_coded u) (gY_linked u) (gY_heights u) (gY_kinds u) (gY_behind u) (gY_of u) (gY_fields u) (gY_globals u) (gY_marked u) (gY_method u) (gY_at u) (gY_high u) (gY_locals u) (gY_stack u) n x3 x4
theorem uY_kindOf_23 {post : Int32 → Prop} {x2 : Int32} {n : Nat} {x3 : Int32} {x4 : Int32} {u : SY} (h : ((x4 ≤ x2 → (vp_in x3 4 ∧ (((((gY_ints u) x3.toNatClampNeg) ≤ (x2 - x4) → (post 2)) ∧ (¬ ((gY_ints u) x3.toNatClampNeg) ≤ (x2 - x4) → (post 1)))))) ∧ (¬ x4 ≤ x2 → (vp_in x3 4 ∧ (∀ x3_50 : Int32 , x3_50 = (gY_up u) x3.toNatClampNeg → (wpY_total (fun r_51 => (vp_in x3_50 4 ∧ (vp_in x3_50 4 ∧ (∀ x4_95 : Int32 , x4_95 = (r_51 - ((gY_ints u) x3_50.toNatClampNeg)) - ((gY_references u) x3_50.toNatClampNeg) → (kY_kindOf_23 post x2 n x3_50 x4_95 u))))) u x3_50)))))) : kY_kindOf_23 post x2 (n + 1) x3 x4 u := h
theorem upY_kindOf {post : Int32 → Prop} {u : SY} {p0 : Int32} {p1 : Int32} (h : wpY_total (fun r_1 => (vp_in p0 4 ∧ (vp_in p0 4 ∧ (∀ x4_45 : Int32 , x4_45 = (r_1 - ((gY_ints u) p0.toNatClampNeg)) - ((gY_references u) p0.toNatClampNeg) → (∃ n23 : Nat , kY_kindOf_23 post p1 n23 p0 x4_45 u))))) u p0) : wpY_kindOf post u p0 p1 := h
def kY_isBelow_2 (post : Int32 → Prop) (x2 : Int32) (n : Nat) (x3 : Int32) (u : SY) : Prop := wY_isBelow_2 post x2 (gY_fault u) (gY_height u) (gY_used u) (gY_depth u) (gY_room u) (gY_steps u) (gY_origin u) (gY_answer u) (gY_collections u) (gY_stayed u) (gY_codes u) (gY_links u) (gY_result u) (gY_up u) (gY_ints u) (gY_references u) (gY_slots u) (gY_first u) (gY_ready u) (gY_ops u) (gY_args u) (gY_length u) (gY_from u) (gY_to u) (gY_goal u) (gY_words u) (gY_maps u) (gY_coded u) (gY_linked u) (gY_heights u) (gY_kinds u) (gY_behind u) (gY_of u) (gY_fields u) (gY_globals u) (gY_marked u) (gY_method u) (gY_at u) (gY_high u) (gY_locals u) (gY_stack u) n x3
theorem uY_isBelow_2 {post : Int32 → Prop} {x2 : Int32} {n : Nat} {x3 : Int32} {u : SY} (h : ((x3 < 0 → (post 0)) ∧ (¬ x3 < 0 → (((x3 = x2 → (post 1)) ∧ (¬ x3 = x2 → (vp_in x3 4 ∧ (∀ x3_4 : Int32 , x3_4 = (gY_up u) x3.toNatClampNeg → (kY_isBelow_2 post x2 n x3_4 u))))))))) : kY_isBelow_2 post x2 (n + 1) x3 u := h
theorem upY_isBelow {post : Int32 → Prop} {u : SY} {p0 : Int32} {p1 : Int32} (h : ∃ n2 : Nat , kY_isBelow_2 post p1 n2 p0 u) : wpY_isBelow post u p0 p1 := h
theorem upY_needs {post : Int32 → Prop} {u : SY} {p0 : Int32} {p1 : Int32} {p2 : Int32} {p3 : Int32} (h : ((p0 < 3 → (post 1)) ∧ (¬ p0 < 3 → (((23 < p0 → (post 1)) ∧ (¬ 23 < p0 → (((p0 = 3 → (post 0)) ∧ (¬ p0 = 3 → (((p0 = 4 → (post 1)) ∧ (¬ p0 = 4 → (((p0 = 5 → (post 1)) ∧ (¬ p0 = 5 → (((p0 = 6 → (post 1)) ∧ (¬ p0 = 6 → (((p0 = 7 → (post 1)) ∧ (¬ p0 = 7 → (((p0 = 8 → (post 1)) ∧ (¬ p0 = 8 → (((p0 = 9 → (post 1)) ∧ (¬ p0 = 9 → (((p0 = 10 → (post 2)) ∧ (¬ p0 = 10 → (((p0 = 11 → (post 2)) ∧ (¬ p0 = 11 → (((p0 = 12 → (post 1)) ∧ (¬ p0 = 12 → (((p0 = 13 → (post 2)) ∧ (¬ p0 = 13 → (((p0 = 14 → (((p3 = 0 → (¬ (16 : Int32) = 0 ∧ (¬ (16 : Int32) = 0 ∧ (wpY_kindOf (fun r_18 => (post r_18)) u (p1 / 16) (p1 - p1 / 16 * 16))))) ∧ (¬ p3 = 0 → (post 2))))) ∧ (¬ p0 = 14 → (((p0 = 15 → (post 2)) ∧ (¬ p0 = 15 → (((p0 = 16 → (((p1 = 7 → (post 2)) ∧ (¬ p1 = 7 → (((p3 = 1 → (post 2)) ∧ (¬ p3 = 1 → (post 1)))))))) ∧ (¬ p0 = 16 → (((p0 = 17 → (((p3 = 1 → (post 2)) ∧ (¬ p3 = 1 → (post 1))))) ∧ (¬ p0 = 17 → (((p0 = 18 → (wpY_gives (fun r_67 => (post r_67)) p2)) ∧ (¬ p0 = 18 → (((p0 = 19 → (post 1)) ∧ (¬ p0 = 19 → (((p0 = 20 → (post 0)) ∧ (¬ p0 = 20 → (((p0 = 21 → (post 0)) ∧ (¬ p0 = 21 → (((p0 = 22 → (post 1)) ∧ (¬ p0 = 22 → (((p0 = 23 → (post 2)) ∧ (¬ p0 = 23 → (True)))))))))))))))))))))))))))))))))))))))))))))))))))))))))))))))))))))) : wpY_needs post u p0 p1 p2 p3 := h
theorem upY_pushed {post : Int32 → Prop} {u : SY} {p0 : Int32} {p1 : Int32} {p2 : Int32} (h : ((p0 < 1 → (post 1)) ∧ (¬ p0 < 1 → (((22 < p0 → (post 1)) ∧ (¬ 22 < p0 → (((p0 = 1 → (post 2)) ∧ (¬ p0 = 1 → (((p0 = 2 → (vp_in ((12 * p2) + p1) 288 ∧ (post ((gY_kinds u) ((12 * p2) + p1).toNatClampNeg)))) ∧ (¬ p0 = 2 → (((p0 = 3 → (post 1)) ∧ (¬ p0 = 3 → (((p0 = 4 → (post 1)) ∧ (¬ p0 = 4 → (((p0 = 5 → (post 1)) ∧ (¬ p0 = 5 → (((p0 = 6 → (post 1)) ∧ (¬ p0 = 6 → (((p0 = 7 → (post 1)) ∧ (¬ p0 = 7 → (((p0 = 8 → (post 1)) ∧ (¬ p0 = 8 → (((p0 = 9 → (post 1)) ∧ (¬ p0 = 9 → (((p0 = 10 → (post 1)) ∧ (¬ p0 = 10 → (((p0 = 11 → (post 1)) ∧ (¬ p0 = 11 → (((p0 = 12 → (post 2)) ∧ (¬ p0 = 12 → (((p0 = 13 → (¬ (16 : Int32) = 0 ∧ (¬ (16 : Int32) = 0 ∧ (wpY_kindOf (fun r_19 => (post r_19)) u (p1 / 16) (p1 - p1 / 16 * 16))))) ∧ (¬ p0 = 13 → (((p0 = 14 → (post 1)) ∧ (¬ p0 = 14 → (((p0 = 15 → (post 1)) ∧ (¬ p0 = 15 → (((p0 = 16 → (wpY_gives (fun r_64 => (post r_64)) p1)) ∧ (¬ p0 = 16 → (((p0 = 17 → (((2 ≤ p1 → (post 2)) ∧ (¬ 2 ≤ p1 → (post 1))))) ∧ (¬ p0 = 17 → (((p0 = 18 → (post 1)) ∧ (¬ p0 = 18 → (((p0 = 19 → (post 1)) ∧ (¬ p0 = 19 → (((p0 = 20 → (post 1)) ∧ (¬ p0 = 20 → (((p0 = 21 → (post 1)) ∧ (¬ p0 = 21 → (((p0 = 22 → (post 2)) ∧ (¬ p0 = 22 → (True))))))))))))))))))))))))))))))))))))))))))))))))))))))))))))))))))))))))) : wpY_pushed post u p0 p1 p2 := h
theorem upY_code {post : Int32 → SY → Prop} {u : SY} {p0 : Int32} {p1 : Int32} (h : wpY_in (fun r_1 => (((r_1 = 0 → (post (- 1) u)) ∧ (¬ r_1 = 0 → (wpY_fits (fun r_3 => (((r_3 = 0 → (post (- 1) u)) ∧ (¬ r_3 = 0 → (((((gY_length u) 8) = 24 → (post (- 1) u)) ∧ (¬ ((gY_length u) 8) = 24 → (vp_in (192 + ((gY_length u) 8)) 216 ∧ ∀ a_ops_7 : Nat → Int32 , a_ops_7 = upd (gY_ops u) (192 + ((gY_length u) 8)).toNatClampNeg p0 → (vp_in (192 + ((gY_length u) 8)) 216 ∧ ∀ a_args_9 : Nat → Int32 , a_args_9 = upd (gY_args u) (192 + ((gY_length u) 8)).toNatClampNeg p1 → (∀ a_length_11 : Nat → Int32 , a_length_11 = upd (gY_length u) 8 (((gY_length u) 8) + 1) → (post (((gY_length u) 8) + 1) (sY_ops_args_length a_ops_7 a_args_9 a_length_11 u)))))))))))) p0 p1))))) p0 0 23) : wpY_code post u p0 p1 := h
theorem upY_catcher {post : Int32 → SY → Prop} {u : SY} {p0 : Int32} {p1 : Int32} {p2 : Int32} (h : wpY_in (fun r_1 => (((r_1 = 0 → (post 0 u)) ∧ (¬ r_1 = 0 → (wpY_in (fun r_3 => (((r_3 = 0 → (post 0 u)) ∧ (¬ r_3 = 0 → (wpY_in (fun r_5 => (((r_5 = 0 → (post 0 u)) ∧ (¬ r_5 = 0 → (∀ a_from_8 : Nat → Int32 , a_from_8 = upd (gY_from u) 8 p0 → (∀ a_to_10 : Nat → Int32 , a_to_10 = upd (gY_to u) 8 p1 → (∀ a_goal_12 : Nat → Int32 , a_goal_12 = upd (gY_goal u) 8 p2 → (post 1 (sY_from_to_goal a_from_8 a_to_10 a_goal_12 u))))))))) p2 0 24))))) p1 p0 24))))) p0 0 24) : wpY_catcher post u p0 p1 p2 := h
theorem upY_wipe {post : Int32 → SY → Prop} {u : SY} (h : ∀ x1_1 : Int32 , x1_1 = (gY_length u) 8 → (∀ a_length_3 : Nat → Int32 , a_length_3 = upd (gY_length u) 8 0 → (∀ a_from_5 : Nat → Int32 , a_from_5 = upd (gY_from u) 8 0 → (∀ a_to_7 : Nat → Int32 , a_to_7 = upd (gY_to u) 8 0 → (post x1_1 (sY_length_from_to a_length_3 a_from_5 a_to_7 u)))))) : wpY_wipe post u := h
theorem upY_isCaught {post : Int32 → Prop} {u : SY} {p0 : Int32} (h : ((p0 < ((gY_from u) 8) → (post 0)) ∧ (¬ p0 < ((gY_from u) 8) → (((((gY_to u) 8) ≤ p0 → (post 0)) ∧ (¬ ((gY_to u) 8) ≤ p0 → (post 1))))))) : wpY_isCaught post u p0 := h
def kY_strange_86 (post : Int32 → Prop) (J10 : Int32 → Prop) (x1 : Int32) (x2 : Int32) (x4 : Int32)  (u : SY) : Prop := wY_strange_86 post J10 x1 x2 x4 (gY_fault u) (gY_height u) (gY_used u) (gY_depth u) (gY_room u) (gY_steps u) (gY_origin u) (gY_answer u) (gY_collections u) (gY_stayed u) (gY_codes u) (gY_links u) (gY_result u) (gY_up u) (gY_ints u) (gY_references u) (gY_slots u) (gY_first u) (gY_ready u) (gY_ops u) (gY_args u) (gY_length u) (gY_from u) (gY_to u) (gY_goal u) (gY_words u) (gY_maps u) (gY_coded u) (gY_linked u) (gY_heights u) (gY_kinds u) (gY_behind u) (gY_of u) (gY_fields u) (gY_globals u) (gY_marked u) (gY_method u) (gY_at u) (gY_high u) (gY_locals u) (gY_stack u)
theorem uY_strange_86 {post : Int32 → Prop} {J10 : Int32 → Prop} {x1 : Int32} {x2 : Int32} {x4 : Int32}  {u : SY} (h : ¬ (16 : Int32) = 0 ∧ (wpY_isClass (fun r_58 => (((r_58 = 0 → (post x2)) ∧ (¬ r_58 = 0 → (¬ (16 : Int32) = 0 ∧ (¬ (16 : Int32) = 0 ∧ (wpY_total (fun r_103 => ((((x4 - x4 / 16 * 16) < r_103 → (∀ x2_146 : Int32 , x2_146 = x2 + 1 → (J10 x2_146))) ∧ (¬ (x4 - x4 / 16 * 16) < r_103 → (post x2))))) u (x4 / 16)))))))) u (x4 / 16))) : kY_strange_86 post J10 x1 x2 x4 u := h
def kY_strange_74 (post : Int32 → Prop) (J10 : Int32 → Prop) (x1 : Int32) (x2 : Int32) (x3 : Int32) (x4 : Int32)  (u : SY) : Prop := wY_strange_74 post J10 x1 x2 x3 x4 (gY_fault u) (gY_height u) (gY_used u) (gY_depth u) (gY_room u) (gY_steps u) (gY_origin u) (gY_answer u) (gY_collections u) (gY_stayed u) (gY_codes u) (gY_links u) (gY_result u) (gY_up u) (gY_ints u) (gY_references u) (gY_slots u) (gY_first u) (gY_ready u) (gY_ops u) (gY_args u) (gY_length u) (gY_from u) (gY_to u) (gY_goal u) (gY_words u) (gY_maps u) (gY_coded u) (gY_linked u) (gY_heights u) (gY_kinds u) (gY_behind u) (gY_of u) (gY_fields u) (gY_globals u) (gY_marked u) (gY_method u) (gY_at u) (gY_high u) (gY_locals u) (gY_stack u)
theorem uY_strange_74 {post : Int32 → Prop} {J10 : Int32 → Prop} {x1 : Int32} {x2 : Int32} {x3 : Int32} {x4 : Int32}  {u : SY} (h : ((x3 = 13 → (kY_strange_86 post J10 x1 x2 x4 u)) ∧ (¬ x3 = 13 → (((x3 = 14 → (kY_strange_86 post J10 x1 x2 x4 u)) ∧ (¬ x3 = 14 → (∀ x2_148 : Int32 , x2_148 = x2 + 1 → (J10 x2_148)))))))) : kY_strange_74 post J10 x1 x2 x3 x4 u := h
def kY_strange_63 (post : Int32 → Prop) (J10 : Int32 → Prop) (x1 : Int32) (x2 : Int32) (x3 : Int32) (x4 : Int32)  (u : SY) : Prop := wY_strange_63 post J10 x1 x2 x3 x4 (gY_fault u) (gY_height u) (gY_used u) (gY_depth u) (gY_room u) (gY_steps u) (gY_origin u) (gY_answer u) (gY_collections u) (gY_stayed u) (gY_codes u) (gY_links u) (gY_result u) (gY_up u) (gY_ints u) (gY_references u) (gY_slots u) (gY_first u) (gY_ready u) (gY_ops u) (gY_args u) (gY_length u) (gY_from u) (gY_to u) (gY_goal u) (gY_words u) (gY_maps u) (gY_coded u) (gY_linked u) (gY_heights u) (gY_kinds u) (gY_behind u) (gY_of u) (gY_fields u) (gY_globals u) (gY_marked u) (gY_method u) (gY_at u) (gY_high u) (gY_locals u) (gY_stack u)
theorem uY_strange_63 {post : Int32 → Prop} {J10 : Int32 → Prop} {x1 : Int32} {x2 : Int32} {x3 : Int32} {x4 : Int32}  {u : SY} (h : wpY_isClass (fun r_13 => (((r_13 = 0 → (post x2)) ∧ (¬ r_13 = 0 → (kY_strange_74 post J10 x1 x2 x3 x4 u))))) u x4) : kY_strange_63 post J10 x1 x2 x3 x4 u := h
def kY_strange_51 (post : Int32 → Prop) (J10 : Int32 → Prop) (x1 : Int32) (x2 : Int32) (x3 : Int32) (x4 : Int32)  (u : SY) : Prop := wY_strange_51 post J10 x1 x2 x3 x4 (gY_fault u) (gY_height u) (gY_used u) (gY_depth u) (gY_room u) (gY_steps u) (gY_origin u) (gY_answer u) (gY_collections u) (gY_stayed u) (gY_codes u) (gY_links u) (gY_result u) (gY_up u) (gY_ints u) (gY_references u) (gY_slots u) (gY_first u) (gY_ready u) (gY_ops u) (gY_args u) (gY_length u) (gY_from u) (gY_to u) (gY_goal u) (gY_words u) (gY_maps u) (gY_coded u) (gY_linked u) (gY_heights u) (gY_kinds u) (gY_behind u) (gY_of u) (gY_fields u) (gY_globals u) (gY_marked u) (gY_method u) (gY_at u) (gY_high u) (gY_locals u) (gY_stack u)
theorem uY_strange_51 {post : Int32 → Prop} {J10 : Int32 → Prop} {x1 : Int32} {x2 : Int32} {x3 : Int32} {x4 : Int32}  {u : SY} (h : ((x3 = 12 → (kY_strange_63 post J10 x1 x2 x3 x4 u)) ∧ (¬ x3 = 12 → (((x3 = 15 → (kY_strange_63 post J10 x1 x2 x3 x4 u)) ∧ (¬ x3 = 15 → (kY_strange_74 post J10 x1 x2 x3 x4 u))))))) : kY_strange_51 post J10 x1 x2 x3 x4 u := h
def kY_strange_10 (post : Int32 → Prop) (x1 : Int32) (n : Nat) (x2 : Int32) (u : SY) : Prop := wY_strange_10 post x1 (gY_fault u) (gY_height u) (gY_used u) (gY_depth u) (gY_room u) (gY_steps u) (gY_origin u) (gY_answer u) (gY_collections u) (gY_stayed u) (gY_codes u) (gY_links u) (gY_result u) (gY_up u) (gY_ints u) (gY_references u) (gY_slots u) (gY_first u) (gY_ready u) (gY_ops u) (gY_args u) (gY_length u) (gY_from u) (gY_to u) (gY_goal u) (gY_words u) (gY_maps u) (gY_coded u) (gY_linked u) (gY_heights u) (gY_kinds u) (gY_behind u) (gY_of u) (gY_fields u) (gY_globals u) (gY_marked u) (gY_method u) (gY_at u) (gY_high u) (gY_locals u) (gY_stack u) n x2
theorem uY_strange_10 {post : Int32 → Prop} {x1 : Int32} {n : Nat} {x2 : Int32} {u : SY} (h : ((x1 ≤ x2 → (((((gY_to u) 8) ≤ ((gY_from u) 8) → (post (- 1))) ∧ (¬ ((gY_to u) 8) ≤ ((gY_from u) 8) → (((x1 < ((gY_to u) 8) → (post 24)) ∧ (¬ x1 < ((gY_to u) 8) → (((((gY_goal u) 8) < x1 → (post (- 1))) ∧ (¬ ((gY_goal u) 8) < x1 → (post 24))))))))))) ∧ (¬ x1 ≤ x2 → (vp_in (192 + x2) 216 ∧ (∀ x3_7 : Int32 , x3_7 = (gY_ops u) (192 + x2).toNatClampNeg → (vp_in (192 + x2) 216 ∧ (∀ x4_9 : Int32 , x4_9 = (gY_args u) (192 + x2).toNatClampNeg → (wpY_jumps (fun r_10 => (((r_10 = 0 → (kY_strange_51 post ((fun x2 => kY_strange_10 post x1 n x2 u)) x1 x2 x3_7 x4_9 u)) ∧ (¬ r_10 = 0 → (((x1 ≤ x4_9 → (post x2)) ∧ (¬ x1 ≤ x4_9 → (kY_strange_51 post ((fun x2 => kY_strange_10 post x1 n x2 u)) x1 x2 x3_7 x4_9 u)))))))) x3_7)))))))) : kY_strange_10 post x1 (n + 1) x2 u := h
theorem upY_strange {post : Int32 → Prop} {u : SY} (h : ∀ x1_1 : Int32 , x1_1 = (gY_length u) 8 → (∃ n10 : Nat , kY_strange_10 post x1_1 n10 0 u)) : wpY_strange post u := h
theorem upY_can {post : Int32 → Prop} {u : SY} {p0 : Int32} {p1 : Int32} (h : vp_in (192 + p0) 216 ∧ (vp_in (192 + p0) 216 ∧ (wpY_pops (fun r_3 => (vp_in (192 + p0) 216 ∧ (wpY_pushes (fun r_5 => (((p1 < r_3 → (post 0)) ∧ (¬ p1 < r_3 → (((6 < ((p1 - r_3) + r_5) → (post 0)) ∧ (¬ 6 < ((p1 - r_3) + r_5) → (post 1)))))))) ((gY_ops u) (192 + p0).toNatClampNeg)))) ((gY_ops u) (192 + p0).toNatClampNeg) ((gY_args u) (192 + p0).toNatClampNeg)))) : wpY_can post u p0 p1 := h
theorem upY_reach {post : Int32 → SY → Prop} {u : SY} {p0 : Int32} {p1 : Int32} (h : ((((gY_length u) 8) ≤ p0 → (post 0 u)) ∧ (¬ ((gY_length u) 8) ≤ p0 → (vp_in p0 24 ∧ (vp_in p0 24 ∧ ((((((gY_heights u) p0.toNatClampNeg) ||| p1) = ((gY_heights u) p0.toNatClampNeg) → (post 0 u)) ∧ (¬ (((gY_heights u) p0.toNatClampNeg) ||| p1) = ((gY_heights u) p0.toNatClampNeg) → (vp_in p0 24 ∧ (vp_in p0 24 ∧ ∀ a_heights_7 : Nat → Int32 , a_heights_7 = upd (gY_heights u) p0.toNatClampNeg (((gY_heights u) p0.toNatClampNeg) ||| p1) → (post 1 (sY_heights a_heights_7 u)))))))))))) : wpY_reach post u p0 p1 := h
def kY_leads_158 (post : Int32 → SY → Prop) (x1 : Int32) (x2 : Int32) (x4 : Int32) (x5 : Int32)  (u : SY) : Prop := wY_leads_158 post x1 x2 x4 x5 (gY_fault u) (gY_height u) (gY_used u) (gY_depth u) (gY_room u) (gY_steps u) (gY_origin u) (gY_answer u) (gY_collections u) (gY_stayed u) (gY_codes u) (gY_links u) (gY_result u) (gY_up u) (gY_ints u) (gY_references u) (gY_slots u) (gY_first u) (gY_ready u) (gY_ops u) (gY_args u) (gY_length u) (gY_from u) (gY_to u) (gY_goal u) (gY_words u) (gY_maps u) (gY_coded u) (gY_linked u) (gY_heights u) (gY_kinds u) (gY_behind u) (gY_of u) (gY_fields u) (gY_globals u) (gY_marked u) (gY_method u) (gY_at u) (gY_high u) (gY_locals u) (gY_stack u)
theorem uY_leads_158 {post : Int32 → SY → Prop} {x1 : Int32} {x2 : Int32} {x4 : Int32} {x5 : Int32}  {u : SY} (h : wpY_falls (fun r_12 => (((r_12 = 0 → (narrow .boolean (.int x5) = .int x5 ∧ (post x5 u))) ∧ (¬ r_12 = 0 → (((x4 = 0 → (narrow .boolean (.int x5) = .int x5 ∧ (post x5 u))) ∧ (¬ x4 = 0 → (wpY_reach (fun r_17 u1 => (∀ x5_59 : Int32 , x5_59 = x5 ||| r_17 → (narrow .boolean (.int x5_59) = .int x5_59 ∧ (post x5_59 u1)))) u (x1 + 1) x4)))))))) x2) : kY_leads_158 post x1 x2 x4 x5 u := h
def kY_leads_123 (post : Int32 → SY → Prop) (x1 : Int32) (x2 : Int32) (x4 : Int32) (z0 : Int32)  (u : SY) : Prop := wY_leads_123 post x1 x2 x4 z0 (gY_fault u) (gY_height u) (gY_used u) (gY_depth u) (gY_room u) (gY_steps u) (gY_origin u) (gY_answer u) (gY_collections u) (gY_stayed u) (gY_codes u) (gY_links u) (gY_result u) (gY_up u) (gY_ints u) (gY_references u) (gY_slots u) (gY_first u) (gY_ready u) (gY_ops u) (gY_args u) (gY_length u) (gY_from u) (gY_to u) (gY_goal u) (gY_words u) (gY_maps u) (gY_coded u) (gY_linked u) (gY_heights u) (gY_kinds u) (gY_behind u) (gY_of u) (gY_fields u) (gY_globals u) (gY_marked u) (gY_method u) (gY_at u) (gY_high u) (gY_locals u) (gY_stack u)
theorem uY_leads_123 {post : Int32 → SY → Prop} {x1 : Int32} {x2 : Int32} {x4 : Int32} {z0 : Int32}  {u : SY} (h : wpY_jumps (fun r_10 => (((r_10 = 0 → (kY_leads_158 post x1 x2 x4 z0 u)) ∧ (¬ r_10 = 0 → (((x4 = 0 → (kY_leads_158 post x1 x2 x4 z0 u)) ∧ (¬ x4 = 0 → (vp_in (192 + x1) 216 ∧ (wpY_reach (fun r_63 u1 => (∀ x5_105 : Int32 , x5_105 = z0 ||| r_63 → (kY_leads_158 post x1 x2 x4 x5_105 u1))) u ((gY_args u) (192 + x1).toNatClampNeg) x4))))))))) x2) : kY_leads_123 post x1 x2 x4 z0 u := h
def kY_leads_122 (post : Int32 → SY → Prop) (x1 : Int32) (x2 : Int32) (x4 : Int32)  (u : SY) : Prop := wY_leads_122 post x1 x2 x4 (gY_fault u) (gY_height u) (gY_used u) (gY_depth u) (gY_room u) (gY_steps u) (gY_origin u) (gY_answer u) (gY_collections u) (gY_stayed u) (gY_codes u) (gY_links u) (gY_result u) (gY_up u) (gY_ints u) (gY_references u) (gY_slots u) (gY_first u) (gY_ready u) (gY_ops u) (gY_args u) (gY_length u) (gY_from u) (gY_to u) (gY_goal u) (gY_words u) (gY_maps u) (gY_coded u) (gY_linked u) (gY_heights u) (gY_kinds u) (gY_behind u) (gY_of u) (gY_fields u) (gY_globals u) (gY_marked u) (gY_method u) (gY_at u) (gY_high u) (gY_locals u) (gY_stack u)
theorem uY_leads_122 {post : Int32 → SY → Prop} {x1 : Int32} {x2 : Int32} {x4 : Int32}  {u : SY} (h : kY_leads_123 post x1 x2 x4 0 u) : kY_leads_122 post x1 x2 x4 u := h
def kY_leads_37 (post : Int32 → SY → Prop) (x1 : Int32) (x2 : Int32) (x3 : Int32) (n : Nat) (x4 : Int32) (x5 : Int32) (u : SY) : Prop := wY_leads_37 post x1 x2 x3 (gY_fault u) (gY_height u) (gY_used u) (gY_depth u) (gY_room u) (gY_steps u) (gY_origin u) (gY_answer u) (gY_collections u) (gY_stayed u) (gY_codes u) (gY_links u) (gY_result u) (gY_up u) (gY_ints u) (gY_references u) (gY_slots u) (gY_first u) (gY_ready u) (gY_ops u) (gY_args u) (gY_length u) (gY_from u) (gY_to u) (gY_goal u) (gY_words u) (gY_maps u) (gY_coded u) (gY_linked u) (gY_heights u) (gY_kinds u) (gY_behind u) (gY_of u) (gY_fields u) (gY_globals u) (gY_marked u) (gY_method u) (gY_at u) (gY_high u) (gY_locals u) (gY_stack u) n x4 x5
theorem uY_leads_37 {post : Int32 → SY → Prop} {x1 : Int32} {x2 : Int32} {x3 : Int32} {n : Nat} {x4 : Int32} {x5 : Int32} {u : SY} (h : ((6 < x5 → (vp_in x1 24 ∧ (((((gY_heights u) x1.toNatClampNeg) = 0 → (kY_leads_122 post x1 x2 x4 u)) ∧ (¬ ((gY_heights u) x1.toNatClampNeg) = 0 → (wpY_isCaught (fun r_106 => (((r_106 = 0 → (kY_leads_122 post x1 x2 x4 u)) ∧ (¬ r_106 = 0 → (wpY_reach (fun r_149 u1 => (((r_149 = 0 → (kY_leads_122 post x1 x2 x4 u1)) ∧ (¬ r_149 = 0 → (kY_leads_123 post x1 x2 x4 1 u1))))) u ((gY_goal u) 8) 2))))) u x1)))))) ∧ (¬ 6 < x5 → (vp_in x1 24 ∧ (((((((gY_heights u) x1.toNatClampNeg) >>> (x5 &&& 31)) &&& 1) = 1 → (wpY_can (fun r_195 => (((r_195 = 0 → (∀ x5_238 : Int32 , x5_238 = x5 + 1 → (kY_leads_37 post x1 x2 x3 n x4 x5_238 u))) ∧ (¬ r_195 = 0 → (∀ x4_239 : Int32 , x4_239 = x4 ||| ((1 : Int32) <<< ((x5 + x3) &&& 31)) → (∀ x5_240 : Int32 , x5_240 = x5 + 1 → (kY_leads_37 post x1 x2 x3 n x4_239 x5_240 u))))))) u x1 x5)) ∧ (¬ ((((gY_heights u) x1.toNatClampNeg) >>> (x5 &&& 31)) &&& 1) = 1 → (∀ x5_194 : Int32 , x5_194 = x5 + 1 → (kY_leads_37 post x1 x2 x3 n x4 x5_194 u))))))))) : kY_leads_37 post x1 x2 x3 (n + 1) x4 x5 u := h
theorem upY_leads {post : Int32 → SY → Prop} {u : SY} {p0 : Int32} (h : vp_in (192 + p0) 216 ∧ (∀ x2_2 : Int32 , x2_2 = (gY_ops u) (192 + p0).toNatClampNeg → (wpY_pushes (fun r_3 => (vp_in (192 + p0) 216 ∧ (wpY_pops (fun r_5 => (∀ x3_6 : Int32 , x3_6 = r_3 - r_5 → (∃ n37 : Nat , kY_leads_37 post p0 x2_2 x3_6 n37 0 0 u))) x2_2 ((gY_args u) (192 + p0).toNatClampNeg)))) x2_2))) : wpY_leads post u p0 := h
def kY_uneven_133 (post : Int32 → SY → Prop) (J69 : Int32 → Prop) (x1 : Int32) (x3 : Int32) (x4 : Int32) (n : Nat) (x5 : Int32) (x6 : Int32) (u : SY) : Prop := wY_uneven_133 post J69 x1 x3 x4 (gY_fault u) (gY_height u) (gY_used u) (gY_depth u) (gY_room u) (gY_steps u) (gY_origin u) (gY_answer u) (gY_collections u) (gY_stayed u) (gY_codes u) (gY_links u) (gY_result u) (gY_up u) (gY_ints u) (gY_references u) (gY_slots u) (gY_first u) (gY_ready u) (gY_ops u) (gY_args u) (gY_length u) (gY_from u) (gY_to u) (gY_goal u) (gY_words u) (gY_maps u) (gY_coded u) (gY_linked u) (gY_heights u) (gY_kinds u) (gY_behind u) (gY_of u) (gY_fields u) (gY_globals u) (gY_marked u) (gY_method u) (gY_at u) (gY_high u) (gY_locals u) (gY_stack u) n x5 x6
theorem uY_uneven_133 {post : Int32 → SY → Prop} {J69 : Int32 → Prop} {x1 : Int32} {x3 : Int32} {x4 : Int32} {n : Nat} {x5 : Int32} {x6 : Int32} {u : SY} (h : ((6 < x6 → (((x5 = 0 → (post x3 u)) ∧ (¬ x5 = 0 → (∀ x3_13 : Int32 , x3_13 = x3 + 1 → (J69 x3_13)))))) ∧ (¬ 6 < x6 → (((((x4 >>> (x6 &&& 31)) &&& 1) = 1 → (wpY_can (fun r_16 => (((r_16 = 0 → (∀ x6_60 : Int32 , x6_60 = x6 + 1 → (kY_uneven_133 post J69 x1 x3 x4 n 0 x6_60 u))) ∧ (¬ r_16 = 0 → (∀ x6_59 : Int32 , x6_59 = x6 + 1 → (kY_uneven_133 post J69 x1 x3 x4 n x5 x6_59 u)))))) u x3 x6)) ∧ (¬ ((x4 >>> (x6 &&& 31)) &&& 1) = 1 → (∀ x6_15 : Int32 , x6_15 = x6 + 1 → (kY_uneven_133 post J69 x1 x3 x4 n x5 x6_15 u)))))))) : kY_uneven_133 post J69 x1 x3 x4 (n + 1) x5 x6 u := h
def kY_uneven_69 (post : Int32 → SY → Prop) (x1 : Int32) (n : Nat) (x3 : Int32) (u : SY) : Prop := wY_uneven_69 post x1 (gY_fault u) (gY_height u) (gY_used u) (gY_depth u) (gY_room u) (gY_steps u) (gY_origin u) (gY_answer u) (gY_collections u) (gY_stayed u) (gY_codes u) (gY_links u) (gY_result u) (gY_up u) (gY_ints u) (gY_references u) (gY_slots u) (gY_first u) (gY_ready u) (gY_ops u) (gY_args u) (gY_length u) (gY_from u) (gY_to u) (gY_goal u) (gY_words u) (gY_maps u) (gY_coded u) (gY_linked u) (gY_heights u) (gY_kinds u) (gY_behind u) (gY_of u) (gY_fields u) (gY_globals u) (gY_marked u) (gY_method u) (gY_at u) (gY_high u) (gY_locals u) (gY_stack u) n x3
theorem uY_uneven_69 {post : Int32 → SY → Prop} {x1 : Int32} {n : Nat} {x3 : Int32} {u : SY} (h : ((x1 ≤ x3 → (post (- 1) u)) ∧ (¬ x1 ≤ x3 → (vp_in x3 24 ∧ (∀ x4_8 : Int32 , x4_8 = (gY_heights u) x3.toNatClampNeg → (((x4_8 = 0 → (∀ x3_65 : Int32 , x3_65 = x3 + 1 → (kY_uneven_69 post x1 n x3_65 u))) ∧ (¬ x4_8 = 0 → ((((x4_8 &&& (x4_8 - 1)) = 0 → (vp_in (192 + x3) 216 ∧ (wpY_falls (fun r_62 => (((r_62 = 0 → (∃ n133 : Nat , kY_uneven_133 post ((fun x3 => kY_uneven_69 post x1 n x3 u)) x1 x3 x4_8 n133 1 0 u)) ∧ (¬ r_62 = 0 → (((x1 ≤ (x3 + 1) → (∃ n133 : Nat , kY_uneven_133 post ((fun x3 => kY_uneven_69 post x1 n x3 u)) x1 x3 x4_8 n133 0 0 u)) ∧ (¬ x1 ≤ (x3 + 1) → (∃ n133 : Nat , kY_uneven_133 post ((fun x3 => kY_uneven_69 post x1 n x3 u)) x1 x3 x4_8 n133 1 0 u)))))))) ((gY_ops u) (192 + x3).toNatClampNeg)))) ∧ (¬ (x4_8 &&& (x4_8 - 1)) = 0 → (∃ n133 : Nat , kY_uneven_133 post ((fun x3 => kY_uneven_69 post x1 n x3 u)) x1 x3 x4_8 n133 0 0 u)))))))))))) : kY_uneven_69 post x1 (n + 1) x3 u := h
def kY_uneven_45 (post : Int32 → SY → Prop) (J37 : Int32 → SY → Prop) (x1 : Int32) (n : Nat) (x2 : Int32) (x3 : Int32) (u : SY) : Prop := wY_uneven_45 post (fun x2 f_fault f_height f_used f_depth f_room f_steps f_origin f_answer f_collections f_stayed f_codes f_links f_result a_up a_ints a_references a_slots a_first a_ready a_ops a_args a_length a_from a_to a_goal a_words a_maps a_coded a_linked a_heights a_kinds a_behind a_of a_fields a_globals a_marked a_method a_at a_high a_locals a_stack => J37 x2 (f_fault, f_height, f_used, f_depth, f_room, f_steps, f_origin, f_answer, f_collections, f_stayed, f_codes, f_links, f_result, a_up, a_ints, a_references, a_slots, a_first, a_ready, a_ops, a_args, a_length, a_from, a_to, a_goal, a_words, a_maps, a_coded, a_linked, a_heights, a_kinds, a_behind, a_of, a_fields, a_globals, a_marked, a_method, a_at, a_high, a_locals, a_stack)) x1 n x2 x3 (gY_fault u) (gY_height u) (gY_used u) (gY_depth u) (gY_room u) (gY_steps u) (gY_origin u) (gY_answer u) (gY_collections u) (gY_stayed u) (gY_codes u) (gY_links u) (gY_result u) (gY_up u) (gY_ints u) (gY_references u) (gY_slots u) (gY_first u) (gY_ready u) (gY_ops u) (gY_args u) (gY_length u) (gY_from u) (gY_to u) (gY_goal u) (gY_words u) (gY_maps u) (gY_coded u) (gY_linked u) (gY_heights u) (gY_kinds u) (gY_behind u) (gY_of u) (gY_fields u) (gY_globals u) (gY_marked u) (gY_method u) (gY_at u) (gY_high u) (gY_locals u) (gY_stack u)
theorem uY_uneven_45 {post : Int32 → SY → Prop} {J37 : Int32 → SY → Prop} {x1 : Int32} {n : Nat} {x2 : Int32} {x3 : Int32} {u : SY} (h : ((x1 ≤ x3 → (J37 x2 u)) ∧ (¬ x1 ≤ x3 → (wpY_leads (fun r_67 u1 => (∀ x2_109 : Int32 , x2_109 = x2 ||| r_67 → (∀ x3_110 : Int32 , x3_110 = x3 + 1 → (kY_uneven_45 post J37 x1 n x2_109 x3_110 u1)))) u x3)))) : kY_uneven_45 post J37 x1 (n + 1) x2 x3 u := h
def kY_uneven_37 (post : Int32 → SY → Prop) (x1 : Int32) (n : Nat) (x2 : Int32) (u : SY) : Prop := wY_uneven_37 post x1 n x2 (gY_fault u) (gY_height u) (gY_used u) (gY_depth u) (gY_room u) (gY_steps u) (gY_origin u) (gY_answer u) (gY_collections u) (gY_stayed u) (gY_codes u) (gY_links u) (gY_result u) (gY_up u) (gY_ints u) (gY_references u) (gY_slots u) (gY_first u) (gY_ready u) (gY_ops u) (gY_args u) (gY_length u) (gY_from u) (gY_to u) (gY_goal u) (gY_words u) (gY_maps u) (gY_coded u) (gY_linked u) (gY_heights u) (gY_kinds u) (gY_behind u) (gY_of u) (gY_fields u) (gY_globals u) (gY_marked u) (gY_method u) (gY_at u) (gY_high u) (gY_locals u) (gY_stack u)
theorem uY_uneven_37 {post : Int32 → SY → Prop} {x1 : Int32} {n : Nat} {x2 : Int32} {u : SY} (h : ((x2 = 0 → (∃ n69 : Nat , kY_uneven_69 post x1 n69 0 u)) ∧ (¬ x2 = 0 → (∃ n45 : Nat , kY_uneven_45 post (kY_uneven_37 post x1 n) x1 n45 0 0 u)))) : kY_uneven_37 post x1 (n + 1) x2 u := h
def kY_uneven_10 (post : Int32 → SY → Prop) (x1 : Int32) (n : Nat) (x2 : Int32) (u : SY) : Prop := wY_uneven_10 post x1 (gY_fault u) (gY_height u) (gY_used u) (gY_depth u) (gY_room u) (gY_steps u) (gY_origin u) (gY_answer u) (gY_collections u) (gY_stayed u) (gY_codes u) (gY_links u) (gY_result u) n x2 (gY_up u) (gY_ints u) (gY_references u) (gY_slots u) (gY_first u) (gY_ready u) (gY_ops u) (gY_args u) (gY_length u) (gY_from u) (gY_to u) (gY_goal u) (gY_words u) (gY_maps u) (gY_coded u) (gY_linked u) (gY_heights u) (gY_kinds u) (gY_behind u) (gY_of u) (gY_fields u) (gY_globals u) (gY_marked u) (gY_method u) (gY_at u) (gY_high u) (gY_locals u) (gY_stack u)
theorem uY_uneven_10 {post : Int32 → SY → Prop} {x1 : Int32} {n : Nat} {x2 : Int32} {u : SY} (h : ((x1 ≤ x2 → (∀ a_heights_4 : Nat → Int32 , a_heights_4 = upd (gY_heights u) 0 1 → (∃ n37 : Nat , kY_uneven_37 post x1 n37 1 (sY_heights a_heights_4 u)))) ∧ (¬ x1 ≤ x2 → (vp_in x2 24 ∧ ∀ a_heights_112 : Nat → Int32 , a_heights_112 = upd (gY_heights u) x2.toNatClampNeg 0 → (∀ x2_113 : Int32 , x2_113 = x2 + 1 → (kY_uneven_10 post x1 n x2_113 (sY_heights a_heights_112 u))))))) : kY_uneven_10 post x1 (n + 1) x2 u := h
theorem upY_uneven {post : Int32 → SY → Prop} {u : SY} (h : ∀ x1_1 : Int32 , x1_1 = (gY_length u) 8 → (∃ n10 : Nat , kY_uneven_10 post x1_1 n10 0 u)) : wpY_uneven post u := h
def kY_heightAt_2 (post : Int32 → Prop) (x1 : Int32) (n : Nat) (x2 : Int32) (u : SY) : Prop := wY_heightAt_2 post x1 (gY_fault u) (gY_height u) (gY_used u) (gY_depth u) (gY_room u) (gY_steps u) (gY_origin u) (gY_answer u) (gY_collections u) (gY_stayed u) (gY_codes u) (gY_links u) (gY_result u) (gY_up u) (gY_ints u) (gY_references u) (gY_slots u) (gY_first u) (gY_ready u) (gY_ops u) (gY_args u) (gY_length u) (gY_from u) (gY_to u) (gY_goal u) (gY_words u) (gY_maps u) (gY_coded u) (gY_linked u) (gY_heights u) (gY_kinds u) (gY_behind u) (gY_of u) (gY_fields u) (gY_globals u) (gY_marked u) (gY_method u) (gY_at u) (gY_high u) (gY_locals u) (gY_stack u) n x2
theorem uY_heightAt_2 {post : Int32 → Prop} {x1 : Int32} {n : Nat} {x2 : Int32} {u : SY} (h : vp_in x1 24 ∧ ((((((gY_heights u) x1.toNatClampNeg) >>> (x2 &&& 31)) = 1 → (post x2)) ∧ (¬ (((gY_heights u) x1.toNatClampNeg) >>> (x2 &&& 31)) = 1 → (∀ x2_3 : Int32 , x2_3 = x2 + 1 → (kY_heightAt_2 post x1 n x2_3 u)))))) : kY_heightAt_2 post x1 (n + 1) x2 u := h
theorem upY_heightAt {post : Int32 → Prop} {u : SY} {p0 : Int32} (h : ∃ n2 : Nat , kY_heightAt_2 post p0 n2 0 u) : wpY_heightAt post u p0 := h
def kY_does_140 (post : SY → Prop) (x2 : Int32) (x5 : Int32) (n : Nat) (x6 : Int32) (u : SY) : Prop := wY_does_140 post x2 x5 (gY_fault u) (gY_used u) (gY_depth u) (gY_room u) (gY_steps u) (gY_origin u) (gY_answer u) (gY_collections u) (gY_stayed u) (gY_codes u) (gY_links u) (gY_result u) n x6 (gY_height u) (gY_up u) (gY_ints u) (gY_references u) (gY_slots u) (gY_first u) (gY_ready u) (gY_ops u) (gY_args u) (gY_length u) (gY_from u) (gY_to u) (gY_goal u) (gY_words u) (gY_maps u) (gY_coded u) (gY_linked u) (gY_heights u) (gY_kinds u) (gY_behind u) (gY_of u) (gY_fields u) (gY_globals u) (gY_marked u) (gY_method u) (gY_at u) (gY_high u) (gY_locals u) (gY_stack u)
theorem uY_does_140 {post : SY → Prop} {x2 : Int32} {x5 : Int32} {n : Nat} {x6 : Int32} {u : SY} (h : wpY_pushes (fun r_98 => (((r_98 ≤ x6 → (post u)) ∧ (¬ r_98 ≤ x6 → (∀ f_height_100 : Int32 , f_height_100 = (gY_height u) + 1 → (vp_in (6 + (gY_height u)) 12 ∧ ∀ a_behind_102 : Nat → Int32 , a_behind_102 = upd (gY_behind u) (6 + (gY_height u)).toNatClampNeg x5 → (∀ x6_103 : Int32 , x6_103 = x6 + 1 → (kY_does_140 post x2 x5 n x6_103 (sY_height_behind f_height_100 a_behind_102 u))))))))) x2) : kY_does_140 post x2 x5 (n + 1) x6 u := h
def kY_does_106 (post : SY → Prop) (x1 : Int32) (x2 : Int32) (x3 : Int32) (x4 : Int32)  (u : SY) : Prop := wY_does_106 post x1 x2 x3 x4 (gY_fault u) (gY_height u) (gY_used u) (gY_depth u) (gY_room u) (gY_steps u) (gY_origin u) (gY_answer u) (gY_collections u) (gY_stayed u) (gY_codes u) (gY_links u) (gY_result u) (gY_up u) (gY_ints u) (gY_references u) (gY_slots u) (gY_first u) (gY_ready u) (gY_ops u) (gY_args u) (gY_length u) (gY_from u) (gY_to u) (gY_goal u) (gY_words u) (gY_maps u) (gY_coded u) (gY_linked u) (gY_heights u) (gY_kinds u) (gY_behind u) (gY_of u) (gY_fields u) (gY_globals u) (gY_marked u) (gY_method u) (gY_at u) (gY_high u) (gY_locals u) (gY_stack u)
theorem uY_does_106 {post : SY → Prop} {x1 : Int32} {x2 : Int32} {x3 : Int32} {x4 : Int32}  {u : SY} (h : wpY_pushes (fun r_53 => (((r_53 = 0 → (∃ n140 : Nat , kY_does_140 post x2 0 n140 0 u)) ∧ (¬ r_53 = 0 → (((x2 = 20 → (∃ n140 : Nat , kY_does_140 post x2 x4 n140 0 u)) ∧ (¬ x2 = 20 → (wpY_pushed (fun r_56 => (∃ n140 : Nat , kY_does_140 post x2 r_56 n140 0 u)) u x2 x3 x1)))))))) x2) : kY_does_106 post x1 x2 x3 x4 u := h
def kY_does_34 (post : SY → Prop) (x1 : Int32) (x2 : Int32) (x3 : Int32) (n : Nat) (x4 : Int32) (u : SY) : Prop := wY_does_34 post x1 x2 x3 (gY_fault u) (gY_height u) (gY_used u) (gY_depth u) (gY_room u) (gY_steps u) (gY_origin u) (gY_answer u) (gY_collections u) (gY_stayed u) (gY_codes u) (gY_links u) (gY_result u) n x4 (gY_up u) (gY_ints u) (gY_references u) (gY_slots u) (gY_first u) (gY_ready u) (gY_ops u) (gY_args u) (gY_length u) (gY_from u) (gY_to u) (gY_goal u) (gY_words u) (gY_maps u) (gY_coded u) (gY_linked u) (gY_heights u) (gY_kinds u) (gY_behind u) (gY_of u) (gY_fields u) (gY_globals u) (gY_marked u) (gY_method u) (gY_at u) (gY_high u) (gY_locals u) (gY_stack u)
theorem uY_does_34 {post : SY → Prop} {x1 : Int32} {x2 : Int32} {x3 : Int32} {n : Nat} {x4 : Int32} {u : SY} (h : ((12 ≤ x4 → (vp_in (5 + (gY_height u)) 12 ∧ (∀ x4_49 : Int32 , x4_49 = (gY_behind u) (5 + (gY_height u)).toNatClampNeg → (wpY_pops (fun r_50 => (∀ f_height_51 : Int32 , f_height_51 = (gY_height u) - r_50 → (((x2 = 3 → (vp_in x3 12 ∧ ∀ a_behind_105 : Nat → Int32 , a_behind_105 = upd (gY_behind u) x3.toNatClampNeg x4_49 → (kY_does_106 post x1 x2 x3 x4_49 (sY_height_behind f_height_51 a_behind_105 u)))) ∧ (¬ x2 = 3 → (kY_does_106 post x1 x2 x3 x4_49 (sY_height f_height_51 u))))))) x2 x3)))) ∧ (¬ 12 ≤ x4 → (vp_in ((12 * x1) + x4) 288 ∧ (vp_in x4 12 ∧ ∀ a_behind_108 : Nat → Int32 , a_behind_108 = upd (gY_behind u) x4.toNatClampNeg ((gY_kinds u) ((12 * x1) + x4).toNatClampNeg) → (∀ x4_109 : Int32 , x4_109 = x4 + 1 → (kY_does_34 post x1 x2 x3 n x4_109 (sY_behind a_behind_108 u)))))))) : kY_does_34 post x1 x2 x3 (n + 1) x4 u := h
theorem upY_does {post : SY → Prop} {u : SY} {p0 : Int32} (h : vp_in (192 + p0) 216 ∧ (∀ x2_2 : Int32 , x2_2 = (gY_ops u) (192 + p0).toNatClampNeg → (vp_in (192 + p0) 216 ∧ (∀ x3_4 : Int32 , x3_4 = (gY_args u) (192 + p0).toNatClampNeg → (wpY_heightAt (fun r_5 => (∃ n34 : Nat , kY_does_34 post p0 x2_2 x3_4 n34 0 (sY_height r_5 u))) u p0))))) : wpY_does post u p0 := h
def kY_meet_57 (post : Int32 → SY → Prop) (J4 : Int32 → Int32 → SY → Prop) (x1 : Int32) (x3 : Int32) (x4 : Int32) (z0 : Int32) (z1 : Int32)  (u : SY) : Prop := wY_meet_57 post (fun x2 x3 a_up a_ints a_references a_slots a_first a_ready a_ops a_args a_length a_from a_to a_goal a_words a_maps a_coded a_linked a_heights a_kinds a_behind a_of a_fields a_globals a_marked a_method a_at a_high a_locals a_stack => J4 x2 x3 ((gY_fault u), (gY_height u), (gY_used u), (gY_depth u), (gY_room u), (gY_steps u), (gY_origin u), (gY_answer u), (gY_collections u), (gY_stayed u), (gY_codes u), (gY_links u), (gY_result u), a_up, a_ints, a_references, a_slots, a_first, a_ready, a_ops, a_args, a_length, a_from, a_to, a_goal, a_words, a_maps, a_coded, a_linked, a_heights, a_kinds, a_behind, a_of, a_fields, a_globals, a_marked, a_method, a_at, a_high, a_locals, a_stack)) x1 x3 x4 z0 z1 (gY_fault u) (gY_height u) (gY_used u) (gY_depth u) (gY_room u) (gY_steps u) (gY_origin u) (gY_answer u) (gY_collections u) (gY_stayed u) (gY_codes u) (gY_links u) (gY_result u) (gY_up u) (gY_ints u) (gY_references u) (gY_slots u) (gY_first u) (gY_ready u) (gY_ops u) (gY_args u) (gY_length u) (gY_from u) (gY_to u) (gY_goal u) (gY_words u) (gY_maps u) (gY_coded u) (gY_linked u) (gY_heights u) (gY_kinds u) (gY_behind u) (gY_of u) (gY_fields u) (gY_globals u) (gY_marked u) (gY_method u) (gY_at u) (gY_high u) (gY_locals u) (gY_stack u)
theorem uY_meet_57 {post : Int32 → SY → Prop} {J4 : Int32 → Int32 → SY → Prop} {x1 : Int32} {x3 : Int32} {x4 : Int32} {z0 : Int32} {z1 : Int32}  {u : SY} (h : ∀ x2_8 : Int32 , x2_8 = z1 ||| z0 → (vp_in ((12 * x1) + x3) 288 ∧ ∀ a_kinds_10 : Nat → Int32 , a_kinds_10 = upd (gY_kinds u) ((12 * x1) + x3).toNatClampNeg x4 → (∀ x3_11 : Int32 , x3_11 = x3 + 1 → (J4 x2_8 x3_11 (sY_kinds a_kinds_10 u))))) : kY_meet_57 post J4 x1 x3 x4 z0 z1 u := h
def kY_meet_4 (post : Int32 → SY → Prop) (x1 : Int32) (n : Nat) (x2 : Int32) (x3 : Int32) (u : SY) : Prop := wY_meet_4 post x1 (gY_fault u) (gY_height u) (gY_used u) (gY_depth u) (gY_room u) (gY_steps u) (gY_origin u) (gY_answer u) (gY_collections u) (gY_stayed u) (gY_codes u) (gY_links u) (gY_result u) n x2 x3 (gY_up u) (gY_ints u) (gY_references u) (gY_slots u) (gY_first u) (gY_ready u) (gY_ops u) (gY_args u) (gY_length u) (gY_from u) (gY_to u) (gY_goal u) (gY_words u) (gY_maps u) (gY_coded u) (gY_linked u) (gY_heights u) (gY_kinds u) (gY_behind u) (gY_of u) (gY_fields u) (gY_globals u) (gY_marked u) (gY_method u) (gY_at u) (gY_high u) (gY_locals u) (gY_stack u)
theorem uY_meet_4 {post : Int32 → SY → Prop} {x1 : Int32} {n : Nat} {x2 : Int32} {x3 : Int32} {u : SY} (h : (((6 + (gY_height u)) ≤ x3 → (narrow .boolean (.int x2) = .int x2 ∧ (post x2 u))) ∧ (¬ (6 + (gY_height u)) ≤ x3 → (vp_in ((12 * x1) + x3) 288 ∧ (vp_in x3 12 ∧ (∀ x4_5 : Int32 , x4_5 = ((gY_kinds u) ((12 * x1) + x3).toNatClampNeg) ||| ((gY_behind u) x3.toNatClampNeg) → (vp_in ((12 * x1) + x3) 288 ∧ (((x4_5 = ((gY_kinds u) ((12 * x1) + x3).toNatClampNeg) → (kY_meet_57 post (kY_meet_4 post x1 n) x1 x3 x4_5 0 x2 u)) ∧ (¬ x4_5 = ((gY_kinds u) ((12 * x1) + x3).toNatClampNeg) → (kY_meet_57 post (kY_meet_4 post x1 n) x1 x3 x4_5 1 x2 u))))))))))) : kY_meet_4 post x1 (n + 1) x2 x3 u := h
theorem upY_meet {post : Int32 → SY → Prop} {u : SY} {p0 : Int32} (h : ∃ n4 : Nat , kY_meet_4 post p0 n4 0 0 u) : wpY_meet post u p0 := h
def kY_passes_70 (post : Int32 → SY → Prop) (x1 : Int32) (x3 : Int32) (n : Nat) (x4 : Int32) (u : SY) : Prop := wY_passes_70 post x1 x3 (gY_fault u) (gY_height u) (gY_used u) (gY_depth u) (gY_room u) (gY_steps u) (gY_origin u) (gY_answer u) (gY_collections u) (gY_stayed u) (gY_codes u) (gY_links u) (gY_result u) n x4 (gY_up u) (gY_ints u) (gY_references u) (gY_slots u) (gY_first u) (gY_ready u) (gY_ops u) (gY_args u) (gY_length u) (gY_from u) (gY_to u) (gY_goal u) (gY_words u) (gY_maps u) (gY_coded u) (gY_linked u) (gY_heights u) (gY_kinds u) (gY_behind u) (gY_of u) (gY_fields u) (gY_globals u) (gY_marked u) (gY_method u) (gY_at u) (gY_high u) (gY_locals u) (gY_stack u)
theorem uY_passes_70 {post : Int32 → SY → Prop} {x1 : Int32} {x3 : Int32} {n : Nat} {x4 : Int32} {u : SY} (h : ((6 ≤ x4 → (∀ a_behind_94 : Nat → Int32 , a_behind_94 = upd (gY_behind u) 6 1 → (wpY_meet (fun r_95 u1 => (narrow .boolean (.int (x3 ||| r_95)) = .int (x3 ||| r_95) ∧ (post (x3 ||| r_95) u1))) (sY_height_behind 1 a_behind_94 u) ((gY_goal u) 8)))) ∧ (¬ 6 ≤ x4 → (vp_in ((12 * x1) + x4) 288 ∧ (vp_in x4 12 ∧ ∀ a_behind_140 : Nat → Int32 , a_behind_140 = upd (gY_behind u) x4.toNatClampNeg ((gY_kinds u) ((12 * x1) + x4).toNatClampNeg) → (∀ x4_141 : Int32 , x4_141 = x4 + 1 → (kY_passes_70 post x1 x3 n x4_141 (sY_behind a_behind_140 u)))))))) : kY_passes_70 post x1 x3 (n + 1) x4 u := h
def kY_passes_57 (post : Int32 → SY → Prop) (x1 : Int32) (x3 : Int32)  (u : SY) : Prop := wY_passes_57 post x1 x3 (gY_fault u) (gY_height u) (gY_used u) (gY_depth u) (gY_room u) (gY_steps u) (gY_origin u) (gY_answer u) (gY_collections u) (gY_stayed u) (gY_codes u) (gY_links u) (gY_result u) (gY_up u) (gY_ints u) (gY_references u) (gY_slots u) (gY_first u) (gY_ready u) (gY_ops u) (gY_args u) (gY_length u) (gY_from u) (gY_to u) (gY_goal u) (gY_words u) (gY_maps u) (gY_coded u) (gY_linked u) (gY_heights u) (gY_kinds u) (gY_behind u) (gY_of u) (gY_fields u) (gY_globals u) (gY_marked u) (gY_method u) (gY_at u) (gY_high u) (gY_locals u) (gY_stack u)
theorem uY_passes_57 {post : Int32 → SY → Prop} {x1 : Int32} {x3 : Int32}  {u : SY} (h : wpY_isCaught (fun r_49 => (((r_49 = 0 → (narrow .boolean (.int x3) = .int x3 ∧ (post x3 u))) ∧ (¬ r_49 = 0 → (∃ n70 : Nat , kY_passes_70 post x1 x3 n70 0 u))))) u x1) : kY_passes_57 post x1 x3 u := h
def kY_passes_40 (post : Int32 → SY → Prop) (x1 : Int32) (x2 : Int32) (x3 : Int32)  (u : SY) : Prop := wY_passes_40 post x1 x2 x3 (gY_fault u) (gY_height u) (gY_used u) (gY_depth u) (gY_room u) (gY_steps u) (gY_origin u) (gY_answer u) (gY_collections u) (gY_stayed u) (gY_codes u) (gY_links u) (gY_result u) (gY_up u) (gY_ints u) (gY_references u) (gY_slots u) (gY_first u) (gY_ready u) (gY_ops u) (gY_args u) (gY_length u) (gY_from u) (gY_to u) (gY_goal u) (gY_words u) (gY_maps u) (gY_coded u) (gY_linked u) (gY_heights u) (gY_kinds u) (gY_behind u) (gY_of u) (gY_fields u) (gY_globals u) (gY_marked u) (gY_method u) (gY_at u) (gY_high u) (gY_locals u) (gY_stack u)
theorem uY_passes_40 {post : Int32 → SY → Prop} {x1 : Int32} {x2 : Int32} {x3 : Int32}  {u : SY} (h : wpY_falls (fun r_47 => (((r_47 = 0 → (kY_passes_57 post x1 x3 u)) ∧ (¬ r_47 = 0 → (wpY_meet (fun r_143 u1 => (∀ x3_185 : Int32 , x3_185 = x3 ||| r_143 → (kY_passes_57 post x1 x3_185 u1))) u (x1 + 1)))))) x2) : kY_passes_40 post x1 x2 x3 u := h
theorem upY_passes {post : Int32 → SY → Prop} {u : SY} {p0 : Int32} (h : vp_in (192 + p0) 216 ∧ (∀ x2_2 : Int32 , x2_2 = (gY_ops u) (192 + p0).toNatClampNeg → (wpY_does (fun u1 => (wpY_jumps (fun r_45 => (((r_45 = 0 → (kY_passes_40 post p0 x2_2 0 u1)) ∧ (¬ r_45 = 0 → (vp_in (192 + p0) 216 ∧ (wpY_meet (fun r_187 u2 => (kY_passes_40 post p0 x2_2 r_187 u2)) u1 ((gY_args u1) (192 + p0).toNatClampNeg))))))) x2_2)) u p0))) : wpY_passes post u p0 := h
def kY_isMixed_72 (post : Int32 → Prop) (x1 : Int32) (x2 : Int32) (x3 : Int32) (x4 : Int32) (x5 : Int32) (n : Nat) (x6 : Int32) (u : SY) : Prop := wY_isMixed_72 post x1 x2 x3 x4 x5 (gY_fault u) (gY_height u) (gY_used u) (gY_depth u) (gY_room u) (gY_steps u) (gY_origin u) (gY_answer u) (gY_collections u) (gY_stayed u) (gY_codes u) (gY_links u) (gY_result u) (gY_up u) (gY_ints u) (gY_references u) (gY_slots u) (gY_first u) (gY_ready u) (gY_ops u) (gY_args u) (gY_length u) (gY_from u) (gY_to u) (gY_goal u) (gY_words u) (gY_maps u) (gY_coded u) (gY_linked u) (gY_heights u) (gY_kinds u) (gY_behind u) (gY_of u) (gY_fields u) (gY_globals u) (gY_marked u) (gY_method u) (gY_at u) (gY_high u) (gY_locals u) (gY_stack u) n x6
theorem uY_isMixed_72 {post : Int32 → Prop} {x1 : Int32} {x2 : Int32} {x3 : Int32} {x4 : Int32} {x5 : Int32} {n : Nat} {x6 : Int32} {u : SY} (h : wpY_pops (fun r_48 => (((r_48 ≤ x6 → (post 0)) ∧ (¬ r_48 ≤ x6 → (wpY_needs (fun r_50 => (((r_50 = 0 → (∀ x6_93 : Int32 , x6_93 = x6 + 1 → (kY_isMixed_72 post x1 x2 x3 x4 x5 n x6_93 u))) ∧ (¬ r_50 = 0 → (vp_in ((((12 * x1) + 5) + x5) - x6) 288 ∧ (((((gY_kinds u) ((((12 * x1) + 5) + x5) - x6).toNatClampNeg) = r_50 → (∀ x6_96 : Int32 , x6_96 = x6 + 1 → (kY_isMixed_72 post x1 x2 x3 x4 x5 n x6_96 u))) ∧ (¬ ((gY_kinds u) ((((12 * x1) + 5) + x5) - x6).toNatClampNeg) = r_50 → (post 1))))))))) u x3 x4 x2 x6))))) x3 x4) : kY_isMixed_72 post x1 x2 x3 x4 x5 (n + 1) x6 u := h
theorem upY_isMixed {post : Int32 → Prop} {u : SY} {p0 : Int32} {p1 : Int32} (h : vp_in (192 + p0) 216 ∧ (∀ x3_2 : Int32 , x3_2 = (gY_ops u) (192 + p0).toNatClampNeg → (vp_in (192 + p0) 216 ∧ (∀ x4_4 : Int32 , x4_4 = (gY_args u) (192 + p0).toNatClampNeg → (wpY_heightAt (fun r_5 => (((x3_2 = 2 → (vp_in ((12 * p0) + x4_4) 288 ∧ (((((gY_kinds u) ((12 * p0) + x4_4).toNatClampNeg) = 1 → (∃ n72 : Nat , kY_isMixed_72 post p0 p1 x3_2 x4_4 r_5 n72 0 u)) ∧ (¬ ((gY_kinds u) ((12 * p0) + x4_4).toNatClampNeg) = 1 → (vp_in ((12 * p0) + x4_4) 288 ∧ (((((gY_kinds u) ((12 * p0) + x4_4).toNatClampNeg) = 2 → (∃ n72 : Nat , kY_isMixed_72 post p0 p1 x3_2 x4_4 r_5 n72 0 u)) ∧ (¬ ((gY_kinds u) ((12 * p0) + x4_4).toNatClampNeg) = 2 → (post 1)))))))))) ∧ (¬ x3_2 = 2 → (∃ n72 : Nat , kY_isMixed_72 post p0 p1 x3_2 x4_4 r_5 n72 0 u))))) u p0))))) : wpY_isMixed post u p0 p1 := h
def kY_mixed_132 (post : Int32 → SY → Prop) (x1 : Int32) (x2 : Int32) (n : Nat) (x4 : Int32) (u : SY) : Prop := wY_mixed_132 post x1 x2 (gY_fault u) (gY_height u) (gY_used u) (gY_depth u) (gY_room u) (gY_steps u) (gY_origin u) (gY_answer u) (gY_collections u) (gY_stayed u) (gY_codes u) (gY_links u) (gY_result u) (gY_up u) (gY_ints u) (gY_references u) (gY_slots u) (gY_first u) (gY_ready u) (gY_ops u) (gY_args u) (gY_length u) (gY_from u) (gY_to u) (gY_goal u) (gY_words u) (gY_maps u) (gY_coded u) (gY_linked u) (gY_heights u) (gY_kinds u) (gY_behind u) (gY_of u) (gY_fields u) (gY_globals u) (gY_marked u) (gY_method u) (gY_at u) (gY_high u) (gY_locals u) (gY_stack u) n x4
theorem uY_mixed_132 {post : Int32 → SY → Prop} {x1 : Int32} {x2 : Int32} {n : Nat} {x4 : Int32} {u : SY} (h : ((x2 ≤ x4 → (post (- 1) u)) ∧ (¬ x2 ≤ x4 → (vp_in x4 24 ∧ (((((gY_heights u) x4.toNatClampNeg) = 0 → (∀ x4_8 : Int32 , x4_8 = x4 + 1 → (kY_mixed_132 post x1 x2 n x4_8 u))) ∧ (¬ ((gY_heights u) x4.toNatClampNeg) = 0 → (wpY_isMixed (fun r_9 => (((r_9 = 0 → (∀ x4_52 : Int32 , x4_52 = x4 + 1 → (kY_mixed_132 post x1 x2 n x4_52 u))) ∧ (¬ r_9 = 0 → (post x4 u))))) u x4 x1)))))))) : kY_mixed_132 post x1 x2 (n + 1) x4 u := h
def kY_mixed_95 (post : Int32 → SY → Prop) (J86 : Int32 → SY → Prop) (x1 : Int32) (x2 : Int32) (n : Nat) (x3 : Int32) (x4 : Int32) (u : SY) : Prop := wY_mixed_95 post (fun x3 f_fault f_height f_used f_depth f_room f_steps f_origin f_answer f_collections f_stayed f_codes f_links f_result a_up a_ints a_references a_slots a_first a_ready a_ops a_args a_length a_from a_to a_goal a_words a_maps a_coded a_linked a_heights a_kinds a_behind a_of a_fields a_globals a_marked a_method a_at a_high a_locals a_stack => J86 x3 (f_fault, f_height, f_used, f_depth, f_room, f_steps, f_origin, f_answer, f_collections, f_stayed, f_codes, f_links, f_result, a_up, a_ints, a_references, a_slots, a_first, a_ready, a_ops, a_args, a_length, a_from, a_to, a_goal, a_words, a_maps, a_coded, a_linked, a_heights, a_kinds, a_behind, a_of, a_fields, a_globals, a_marked, a_method, a_at, a_high, a_locals, a_stack)) x1 x2 n x3 x4 (gY_fault u) (gY_height u) (gY_used u) (gY_depth u) (gY_room u) (gY_steps u) (gY_origin u) (gY_answer u) (gY_collections u) (gY_stayed u) (gY_codes u) (gY_links u) (gY_result u) (gY_up u) (gY_ints u) (gY_references u) (gY_slots u) (gY_first u) (gY_ready u) (gY_ops u) (gY_args u) (gY_length u) (gY_from u) (gY_to u) (gY_goal u) (gY_words u) (gY_maps u) (gY_coded u) (gY_linked u) (gY_heights u) (gY_kinds u) (gY_behind u) (gY_of u) (gY_fields u) (gY_globals u) (gY_marked u) (gY_method u) (gY_at u) (gY_high u) (gY_locals u) (gY_stack u)
theorem uY_mixed_95 {post : Int32 → SY → Prop} {J86 : Int32 → SY → Prop} {x1 : Int32} {x2 : Int32} {n : Nat} {x3 : Int32} {x4 : Int32} {u : SY} (h : ((x2 ≤ x4 → (J86 x3 u)) ∧ (¬ x2 ≤ x4 → (vp_in x4 24 ∧ (((((gY_heights u) x4.toNatClampNeg) = 0 → (∀ x4_56 : Int32 , x4_56 = x4 + 1 → (kY_mixed_95 post J86 x1 x2 n x3 x4_56 u))) ∧ (¬ ((gY_heights u) x4.toNatClampNeg) = 0 → (wpY_passes (fun r_57 u1 => (∀ x3_99 : Int32 , x3_99 = x3 ||| r_57 → (∀ x4_100 : Int32 , x4_100 = x4 + 1 → (kY_mixed_95 post J86 x1 x2 n x3_99 x4_100 u1)))) u x4)))))))) : kY_mixed_95 post J86 x1 x2 (n + 1) x3 x4 u := h
def kY_mixed_86 (post : Int32 → SY → Prop) (x1 : Int32) (x2 : Int32) (n : Nat) (x3 : Int32) (u : SY) : Prop := wY_mixed_86 post x1 x2 n x3 (gY_fault u) (gY_height u) (gY_used u) (gY_depth u) (gY_room u) (gY_steps u) (gY_origin u) (gY_answer u) (gY_collections u) (gY_stayed u) (gY_codes u) (gY_links u) (gY_result u) (gY_up u) (gY_ints u) (gY_references u) (gY_slots u) (gY_first u) (gY_ready u) (gY_ops u) (gY_args u) (gY_length u) (gY_from u) (gY_to u) (gY_goal u) (gY_words u) (gY_maps u) (gY_coded u) (gY_linked u) (gY_heights u) (gY_kinds u) (gY_behind u) (gY_of u) (gY_fields u) (gY_globals u) (gY_marked u) (gY_method u) (gY_at u) (gY_high u) (gY_locals u) (gY_stack u)
theorem uY_mixed_86 {post : Int32 → SY → Prop} {x1 : Int32} {x2 : Int32} {n : Nat} {x3 : Int32} {u : SY} (h : ((x3 = 0 → (∃ n132 : Nat , kY_mixed_132 post x1 x2 n132 0 u)) ∧ (¬ x3 = 0 → (∃ n95 : Nat , kY_mixed_95 post (kY_mixed_86 post x1 x2 n) x1 x2 n95 0 0 u)))) : kY_mixed_86 post x1 x2 (n + 1) x3 u := h
def kY_mixed_33 (post : Int32 → SY → Prop) (x1 : Int32) (x2 : Int32) (n : Nat) (x3 : Int32) (u : SY) : Prop := wY_mixed_33 post x1 x2 (gY_fault u) (gY_height u) (gY_used u) (gY_depth u) (gY_room u) (gY_steps u) (gY_origin u) (gY_answer u) (gY_collections u) (gY_stayed u) (gY_codes u) (gY_links u) (gY_result u) n x3 (gY_up u) (gY_ints u) (gY_references u) (gY_slots u) (gY_first u) (gY_ready u) (gY_ops u) (gY_args u) (gY_length u) (gY_from u) (gY_to u) (gY_goal u) (gY_words u) (gY_maps u) (gY_coded u) (gY_linked u) (gY_heights u) (gY_kinds u) (gY_behind u) (gY_of u) (gY_fields u) (gY_globals u) (gY_marked u) (gY_method u) (gY_at u) (gY_high u) (gY_locals u) (gY_stack u)
theorem uY_mixed_33 {post : Int32 → SY → Prop} {x1 : Int32} {x2 : Int32} {n : Nat} {x3 : Int32} {u : SY} (h : ((6 ≤ x3 → (∃ n86 : Nat , kY_mixed_86 post x1 x2 n86 1 u)) ∧ (¬ 6 ≤ x3 → (wpY_takes (fun r_101 => (((x3 < r_101 → (((x1 < 2 → (vp_in x3 288 ∧ ∀ a_kinds_105 : Nat → Int32 , a_kinds_105 = upd (gY_kinds u) x3.toNatClampNeg 1 → (∀ x3_106 : Int32 , x3_106 = x3 + 1 → (kY_mixed_33 post x1 x2 n x3_106 (sY_kinds a_kinds_105 u))))) ∧ (¬ x1 < 2 → (((6 ≤ x1 → (vp_in x3 288 ∧ ∀ a_kinds_109 : Nat → Int32 , a_kinds_109 = upd (gY_kinds u) x3.toNatClampNeg 2 → (∀ x3_110 : Int32 , x3_110 = x3 + 1 → (kY_mixed_33 post x1 x2 n x3_110 (sY_kinds a_kinds_109 u))))) ∧ (¬ 6 ≤ x1 → (((x3 = 1 → (vp_in x3 288 ∧ ∀ a_kinds_116 : Nat → Int32 , a_kinds_116 = upd (gY_kinds u) x3.toNatClampNeg 1 → (∀ x3_117 : Int32 , x3_117 = x3 + 1 → (kY_mixed_33 post x1 x2 n x3_117 (sY_kinds a_kinds_116 u))))) ∧ (¬ x3 = 1 → (vp_in x3 288 ∧ ∀ a_kinds_113 : Nat → Int32 , a_kinds_113 = upd (gY_kinds u) x3.toNatClampNeg 2 → (∀ x3_114 : Int32 , x3_114 = x3 + 1 → (kY_mixed_33 post x1 x2 n x3_114 (sY_kinds a_kinds_113 u)))))))))))))) ∧ (¬ x3 < r_101 → (vp_in x3 288 ∧ ∀ a_kinds_119 : Nat → Int32 , a_kinds_119 = upd (gY_kinds u) x3.toNatClampNeg 4 → (∀ x3_120 : Int32 , x3_120 = x3 + 1 → (kY_mixed_33 post x1 x2 n x3_120 (sY_kinds a_kinds_119 u)))))))) x1)))) : kY_mixed_33 post x1 x2 (n + 1) x3 u := h
def kY_mixed_10 (post : Int32 → SY → Prop) (x1 : Int32) (x2 : Int32) (n : Nat) (x3 : Int32) (u : SY) : Prop := wY_mixed_10 post x1 x2 (gY_fault u) (gY_height u) (gY_used u) (gY_depth u) (gY_room u) (gY_steps u) (gY_origin u) (gY_answer u) (gY_collections u) (gY_stayed u) (gY_codes u) (gY_links u) (gY_result u) n x3 (gY_up u) (gY_ints u) (gY_references u) (gY_slots u) (gY_first u) (gY_ready u) (gY_ops u) (gY_args u) (gY_length u) (gY_from u) (gY_to u) (gY_goal u) (gY_words u) (gY_maps u) (gY_coded u) (gY_linked u) (gY_heights u) (gY_kinds u) (gY_behind u) (gY_of u) (gY_fields u) (gY_globals u) (gY_marked u) (gY_method u) (gY_at u) (gY_high u) (gY_locals u) (gY_stack u)
theorem uY_mixed_10 {post : Int32 → SY → Prop} {x1 : Int32} {x2 : Int32} {n : Nat} {x3 : Int32} {u : SY} (h : (((12 * x2) ≤ x3 → (∃ n33 : Nat , kY_mixed_33 post x1 x2 n33 0 u)) ∧ (¬ (12 * x2) ≤ x3 → (vp_in x3 288 ∧ ∀ a_kinds_122 : Nat → Int32 , a_kinds_122 = upd (gY_kinds u) x3.toNatClampNeg 0 → (∀ x3_123 : Int32 , x3_123 = x3 + 1 → (kY_mixed_10 post x1 x2 n x3_123 (sY_kinds a_kinds_122 u))))))) : kY_mixed_10 post x1 x2 (n + 1) x3 u := h
theorem upY_mixed {post : Int32 → SY → Prop} {u : SY} {p0 : Int32} (h : ∀ x2_1 : Int32 , x2_1 = (gY_length u) 8 → (∃ n10 : Nat , kY_mixed_10 post p0 x2_1 n10 0 u)) : wpY_mixed post u p0 := h
def kY_take_271 (post : SY → Prop) (x1 : Int32) (n : Nat) (x2 : Int32) (u : SY) : Prop := wY_take_271 post x1 (gY_fault u) (gY_height u) (gY_used u) (gY_depth u) (gY_room u) (gY_steps u) (gY_origin u) (gY_answer u) (gY_collections u) (gY_stayed u) (gY_codes u) (gY_links u) (gY_result u) n x2 (gY_up u) (gY_ints u) (gY_references u) (gY_slots u) (gY_first u) (gY_ready u) (gY_ops u) (gY_args u) (gY_length u) (gY_from u) (gY_to u) (gY_goal u) (gY_words u) (gY_maps u) (gY_coded u) (gY_linked u) (gY_heights u) (gY_kinds u) (gY_behind u) (gY_of u) (gY_fields u) (gY_globals u) (gY_marked u) (gY_method u) (gY_at u) (gY_high u) (gY_locals u) (gY_stack u)
theorem uY_take_271 {post : SY → Prop} {x1 : Int32} {n : Nat} {x2 : Int32} {u : SY} (h : ((192 ≤ x2 → (post u)) ∧ (¬ 192 ≤ x2 → (¬ (24 : Int32) = 0 ∧ ((((x2 / 24) = x1 → (vp_in x2 192 ∧ ∀ a_linked_19 : Nat → Int32 , a_linked_19 = upd (gY_linked u) x2.toNatClampNeg (vp_nar .boolean 0) → (∀ x2_20 : Int32 , x2_20 = x2 + 1 → (kY_take_271 post x1 n x2_20 (sY_linked a_linked_19 u))))) ∧ (¬ (x2 / 24) = x1 → (vp_in x2 216 ∧ (((((gY_ops u) x2.toNatClampNeg) = 16 → (vp_in x2 216 ∧ (((((gY_args u) x2.toNatClampNeg) = x1 → (vp_in x2 192 ∧ ∀ a_linked_28 : Nat → Int32 , a_linked_28 = upd (gY_linked u) x2.toNatClampNeg (vp_nar .boolean 0) → (∀ x2_29 : Int32 , x2_29 = x2 + 1 → (kY_take_271 post x1 n x2_29 (sY_linked a_linked_28 u))))) ∧ (¬ ((gY_args u) x2.toNatClampNeg) = x1 → (∀ x2_26 : Int32 , x2_26 = x2 + 1 → (kY_take_271 post x1 n x2_26 u))))))) ∧ (¬ ((gY_ops u) x2.toNatClampNeg) = 16 → (∀ x2_23 : Int32 , x2_23 = x2 + 1 → (kY_take_271 post x1 n x2_23 u))))))))))))) : kY_take_271 post x1 (n + 1) x2 u := h
def kY_take_214 (post : SY → Prop) (J69 : Int32 → SY → Prop) (x1 : Int32) (x2 : Int32) (x3 : Int32) (n : Nat) (x5 : Int32) (u : SY) : Prop := wY_take_214 post (fun x2 f_fault f_height f_used f_depth f_room f_steps f_origin f_answer f_collections f_stayed f_codes f_links f_result a_up a_ints a_references a_slots a_first a_ready a_ops a_args a_length a_from a_to a_goal a_words a_maps a_coded a_linked a_heights a_kinds a_behind a_of a_fields a_globals a_marked a_method a_at a_high a_locals a_stack => J69 x2 (f_fault, f_height, f_used, f_depth, f_room, f_steps, f_origin, f_answer, f_collections, f_stayed, f_codes, f_links, f_result, a_up, a_ints, a_references, a_slots, a_first, a_ready, a_ops, a_args, a_length, a_from, a_to, a_goal, a_words, a_maps, a_coded, a_linked, a_heights, a_kinds, a_behind, a_of, a_fields, a_globals, a_marked, a_method, a_at, a_high, a_locals, a_stack)) x1 x2 x3 (gY_fault u) (gY_height u) (gY_used u) (gY_depth u) (gY_room u) (gY_steps u) (gY_origin u) (gY_answer u) (gY_collections u) (gY_stayed u) (gY_codes u) (gY_links u) (gY_result u) n x5 (gY_up u) (gY_ints u) (gY_references u) (gY_slots u) (gY_first u) (gY_ready u) (gY_ops u) (gY_args u) (gY_length u) (gY_from u) (gY_to u) (gY_goal u) (gY_words u) (gY_maps u) (gY_coded u) (gY_linked u) (gY_heights u) (gY_kinds u) (gY_behind u) (gY_of u) (gY_fields u) (gY_globals u) (gY_marked u) (gY_method u) (gY_at u) (gY_high u) (gY_locals u) (gY_stack u)
theorem uY_take_214 {post : SY → Prop} {J69 : Int32 → SY → Prop} {x1 : Int32} {x2 : Int32} {x3 : Int32} {n : Nat} {x5 : Int32} {u : SY} (h : (((6 + x3) ≤ x5 → (∀ x2_130 : Int32 , x2_130 = x2 + 1 → (J69 x2_130 u))) ∧ (¬ (6 + x3) ≤ x5 → (vp_in ((12 * x2) + x5) 288 ∧ (((((gY_kinds u) ((12 * x2) + x5).toNatClampNeg) = 2 → (vp_in ((24 * x1) + x2) 192 ∧ (vp_in ((24 * x1) + x2) 192 ∧ ∀ a_maps_136 : Nat → Int32 , a_maps_136 = upd (gY_maps u) ((24 * x1) + x2).toNatClampNeg (((gY_maps u) ((24 * x1) + x2).toNatClampNeg) ||| ((1 : Int32) <<< (x5 &&& 31))) → (∀ x5_137 : Int32 , x5_137 = x5 + 1 → (kY_take_214 post J69 x1 x2 x3 n x5_137 (sY_maps a_maps_136 u)))))) ∧ (¬ ((gY_kinds u) ((12 * x2) + x5).toNatClampNeg) = 2 → (∀ x5_133 : Int32 , x5_133 = x5 + 1 → (kY_take_214 post J69 x1 x2 x3 n x5_133 u))))))))) : kY_take_214 post J69 x1 x2 x3 (n + 1) x5 u := h
def kY_take_199 (post : SY → Prop) (J69 : Int32 → SY → Prop) (x1 : Int32) (x2 : Int32) (x3 : Int32)  (u : SY) : Prop := wY_take_199 post (fun x2 f_fault f_height f_used f_depth f_room f_steps f_origin f_answer f_collections f_stayed f_codes f_links f_result a_up a_ints a_references a_slots a_first a_ready a_ops a_args a_length a_from a_to a_goal a_words a_maps a_coded a_linked a_heights a_kinds a_behind a_of a_fields a_globals a_marked a_method a_at a_high a_locals a_stack => J69 x2 (f_fault, f_height, f_used, f_depth, f_room, f_steps, f_origin, f_answer, f_collections, f_stayed, f_codes, f_links, f_result, a_up, a_ints, a_references, a_slots, a_first, a_ready, a_ops, a_args, a_length, a_from, a_to, a_goal, a_words, a_maps, a_coded, a_linked, a_heights, a_kinds, a_behind, a_of, a_fields, a_globals, a_marked, a_method, a_at, a_high, a_locals, a_stack)) x1 x2 x3 (gY_fault u) (gY_height u) (gY_used u) (gY_depth u) (gY_room u) (gY_steps u) (gY_origin u) (gY_answer u) (gY_collections u) (gY_stayed u) (gY_codes u) (gY_links u) (gY_result u) (gY_up u) (gY_ints u) (gY_references u) (gY_slots u) (gY_first u) (gY_ready u) (gY_ops u) (gY_args u) (gY_length u) (gY_from u) (gY_to u) (gY_goal u) (gY_words u) (gY_maps u) (gY_coded u) (gY_linked u) (gY_heights u) (gY_kinds u) (gY_behind u) (gY_of u) (gY_fields u) (gY_globals u) (gY_marked u) (gY_method u) (gY_at u) (gY_high u) (gY_locals u) (gY_stack u)
theorem uY_take_199 {post : SY → Prop} {J69 : Int32 → SY → Prop} {x1 : Int32} {x2 : Int32} {x3 : Int32}  {u : SY} (h : vp_in ((24 * x1) + x2) 192 ∧ ∀ a_maps_128 : Nat → Int32 , a_maps_128 = upd (gY_maps u) ((24 * x1) + x2).toNatClampNeg 0 → (∃ n214 : Nat , kY_take_214 post J69 x1 x2 x3 n214 0 (sY_maps a_maps_128 u))) : kY_take_199 post J69 x1 x2 x3 u := h
def kY_take_172 (post : SY → Prop) (J69 : Int32 → SY → Prop) (x1 : Int32) (x2 : Int32) (x3 : Int32) (z0 : Int32)  (u : SY) : Prop := wY_take_172 post (fun x2 f_fault f_height f_used f_depth f_room f_steps f_origin f_answer f_collections f_stayed f_codes f_links f_result a_up a_ints a_references a_slots a_first a_ready a_ops a_args a_length a_from a_to a_goal a_words a_maps a_coded a_linked a_heights a_kinds a_behind a_of a_fields a_globals a_marked a_method a_at a_high a_locals a_stack => J69 x2 (f_fault, f_height, f_used, f_depth, f_room, f_steps, f_origin, f_answer, f_collections, f_stayed, f_codes, f_links, f_result, a_up, a_ints, a_references, a_slots, a_first, a_ready, a_ops, a_args, a_length, a_from, a_to, a_goal, a_words, a_maps, a_coded, a_linked, a_heights, a_kinds, a_behind, a_of, a_fields, a_globals, a_marked, a_method, a_at, a_high, a_locals, a_stack)) x1 x2 x3 z0 (gY_fault u) (gY_height u) (gY_used u) (gY_depth u) (gY_room u) (gY_steps u) (gY_origin u) (gY_answer u) (gY_collections u) (gY_stayed u) (gY_codes u) (gY_links u) (gY_result u) (gY_up u) (gY_ints u) (gY_references u) (gY_slots u) (gY_first u) (gY_ready u) (gY_ops u) (gY_args u) (gY_length u) (gY_from u) (gY_to u) (gY_goal u) (gY_words u) (gY_maps u) (gY_coded u) (gY_linked u) (gY_heights u) (gY_kinds u) (gY_behind u) (gY_of u) (gY_fields u) (gY_globals u) (gY_marked u) (gY_method u) (gY_at u) (gY_high u) (gY_locals u) (gY_stack u)
theorem uY_take_172 {post : SY → Prop} {J69 : Int32 → SY → Prop} {x1 : Int32} {x2 : Int32} {x3 : Int32} {z0 : Int32}  {u : SY} (h : vp_in x1 8 ∧ ((((9 + z0) ≤ ((gY_words u) x1.toNatClampNeg) → (kY_take_199 post J69 x1 x2 x3 u)) ∧ (¬ (9 + z0) ≤ ((gY_words u) x1.toNatClampNeg) → (vp_in x1 8 ∧ ∀ a_words_139 : Nat → Int32 , a_words_139 = upd (gY_words u) x1.toNatClampNeg (9 + z0) → (kY_take_199 post J69 x1 x2 x3 (sY_words a_words_139 u))))))) : kY_take_172 post J69 x1 x2 x3 z0 u := h
def kY_take_69 (post : SY → Prop) (x1 : Int32) (n : Nat) (x2 : Int32) (u : SY) : Prop := wY_take_69 post x1 n x2 (gY_fault u) (gY_height u) (gY_used u) (gY_depth u) (gY_room u) (gY_steps u) (gY_origin u) (gY_answer u) (gY_collections u) (gY_stayed u) (gY_codes u) (gY_links u) (gY_result u) (gY_up u) (gY_ints u) (gY_references u) (gY_slots u) (gY_first u) (gY_ready u) (gY_ops u) (gY_args u) (gY_length u) (gY_from u) (gY_to u) (gY_goal u) (gY_words u) (gY_maps u) (gY_coded u) (gY_linked u) (gY_heights u) (gY_kinds u) (gY_behind u) (gY_of u) (gY_fields u) (gY_globals u) (gY_marked u) (gY_method u) (gY_at u) (gY_high u) (gY_locals u) (gY_stack u)
theorem uY_take_69 {post : SY → Prop} {x1 : Int32} {n : Nat} {x2 : Int32} {u : SY} (h : vp_in x1 9 ∧ (((((gY_length u) x1.toNatClampNeg) ≤ x2 → (∃ n271 : Nat , kY_take_271 post x1 n271 0 u)) ∧ (¬ ((gY_length u) x1.toNatClampNeg) ≤ x2 → (vp_in (192 + x2) 216 ∧ (vp_in ((24 * x1) + x2) 216 ∧ ∀ a_ops_32 : Nat → Int32 , a_ops_32 = upd (gY_ops u) ((24 * x1) + x2).toNatClampNeg ((gY_ops u) (192 + x2).toNatClampNeg) → (vp_in (192 + x2) 216 ∧ (vp_in ((24 * x1) + x2) 216 ∧ ∀ a_args_35 : Nat → Int32 , a_args_35 = upd (gY_args u) ((24 * x1) + x2).toNatClampNeg ((gY_args u) (192 + x2).toNatClampNeg) → (vp_in ((24 * x1) + x2) 192 ∧ ∀ a_maps_37 : Nat → Int32 , a_maps_37 = upd (gY_maps u) ((24 * x1) + x2).toNatClampNeg (- 1) → (vp_in x2 24 ∧ (((((gY_heights u) x2.toNatClampNeg) = 0 → (∀ x2_140 : Int32 , x2_140 = x2 + 1 → (kY_take_69 post x1 n x2_140 (sY_ops_args_maps a_ops_32 a_args_35 a_maps_37 u)))) ∧ (¬ ((gY_heights u) x2.toNatClampNeg) = 0 → (wpY_heightAt (fun r_40 => (wpY_does (fun u1 => (((r_40 ≤ (gY_height u1) → (kY_take_172 post (kY_take_69 post x1 n) x1 x2 r_40 (gY_height u1) u1)) ∧ (¬ r_40 ≤ (gY_height u1) → (kY_take_172 post (kY_take_69 post x1 n) x1 x2 r_40 r_40 u1))))) (sY_ops_args_maps a_ops_32 a_args_35 a_maps_37 u) x2)) (sY_ops_args_maps a_ops_32 a_args_35 a_maps_37 u) x2)))))))))))))) : kY_take_69 post x1 (n + 1) x2 u := h
theorem upY_take {post : SY → Prop} {u : SY} {p0 : Int32} (h : vp_in p0 9 ∧ ∀ a_length_2 : Nat → Int32 , a_length_2 = upd (gY_length u) p0.toNatClampNeg ((gY_length u) 8) → (vp_in p0 9 ∧ ∀ a_from_4 : Nat → Int32 , a_from_4 = upd (gY_from u) p0.toNatClampNeg ((gY_from u) 8) → (vp_in p0 9 ∧ ∀ a_to_6 : Nat → Int32 , a_to_6 = upd (gY_to u) p0.toNatClampNeg ((gY_to u) 8) → (vp_in p0 9 ∧ ∀ a_goal_8 : Nat → Int32 , a_goal_8 = upd (gY_goal u) p0.toNatClampNeg ((gY_goal u) 8) → (vp_in p0 8 ∧ ∀ a_words_10 : Nat → Int32 , a_words_10 = upd (gY_words u) p0.toNatClampNeg 9 → (vp_in p0 8 ∧ ∀ a_coded_12 : Nat → Int32 , a_coded_12 = upd (gY_coded u) p0.toNatClampNeg (vp_nar .boolean 0) → (∃ n69 : Nat , kY_take_69 post p0 n69 0 (sY_length_from_to_goal_words_coded a_length_2 a_from_4 a_to_6 a_goal_8 a_words_10 a_coded_12 u)))))))) : wpY_take post u p0 := h
def kY_make_66 (post : Int32 → SY → Prop) (x1 : Int32)  (u : SY) : Prop := wY_make_66 post x1 (gY_fault u) (gY_height u) (gY_used u) (gY_depth u) (gY_room u) (gY_steps u) (gY_origin u) (gY_answer u) (gY_collections u) (gY_stayed u) (gY_codes u) (gY_links u) (gY_result u) (gY_up u) (gY_ints u) (gY_references u) (gY_slots u) (gY_first u) (gY_ready u) (gY_ops u) (gY_args u) (gY_length u) (gY_from u) (gY_to u) (gY_goal u) (gY_words u) (gY_maps u) (gY_coded u) (gY_linked u) (gY_heights u) (gY_kinds u) (gY_behind u) (gY_of u) (gY_fields u) (gY_globals u) (gY_marked u) (gY_method u) (gY_at u) (gY_high u) (gY_locals u) (gY_stack u)
theorem uY_make_66 {post : Int32 → SY → Prop} {x1 : Int32}  {u : SY} (h : (((gY_fault u) < 0 → (wpY_take (fun u1 => (wpY_wipe (fun r_91 u2 => (post 0 u2)) u1)) u x1)) ∧ (¬ (gY_fault u) < 0 → (post (- 1) u)))) : kY_make_66 post x1 u := h
def kY_make_50 (post : Int32 → SY → Prop) (x1 : Int32)  (u : SY) : Prop := wY_make_50 post x1 (gY_fault u) (gY_height u) (gY_used u) (gY_depth u) (gY_room u) (gY_steps u) (gY_origin u) (gY_answer u) (gY_collections u) (gY_stayed u) (gY_codes u) (gY_links u) (gY_result u) (gY_up u) (gY_ints u) (gY_references u) (gY_slots u) (gY_first u) (gY_ready u) (gY_ops u) (gY_args u) (gY_length u) (gY_from u) (gY_to u) (gY_goal u) (gY_words u) (gY_maps u) (gY_coded u) (gY_linked u) (gY_heights u) (gY_kinds u) (gY_behind u) (gY_of u) (gY_fields u) (gY_globals u) (gY_marked u) (gY_method u) (gY_at u) (gY_high u) (gY_locals u) (gY_stack u)
theorem uY_make_50 {post : Int32 → SY → Prop} {x1 : Int32}  {u : SY} (h : ((0 ≤ (gY_fault u) → (kY_make_66 post x1 u)) ∧ (¬ 0 ≤ (gY_fault u) → (wpY_mixed (fun r_133 u1 => (kY_make_66 post x1 (sY_fault r_133 u1))) u x1)))) : kY_make_50 post x1 u := h
theorem upY_make {post : Int32 → SY → Prop} {u : SY} {p0 : Int32} (h : wpY_in (fun r_1 => (((r_1 = 0 → (post (- 1) (sY_fault (- 1) u))) ∧ (¬ r_1 = 0 → (((((gY_length u) 8) = 0 → (post (- 1) (sY_fault (- 1) u))) ∧ (¬ ((gY_length u) 8) = 0 → (wpY_strange (fun r_4 => (((0 ≤ r_4 → (kY_make_50 post p0 (sY_fault r_4 u))) ∧ (¬ 0 ≤ r_4 → (wpY_uneven (fun r_175 u1 => (kY_make_50 post p0 (sY_fault r_175 u1))) (sY_fault r_4 u)))))) (sY_fault (- 1) u))))))))) p0 0 7) : wpY_make post u p0 := h
theorem upY_place {post : Int32 → Prop} {u : SY} (h : post (gY_fault u)) : wpY_place post u := h
theorem upY_isBody {post : Int32 → Prop} {u : SY} {p0 : Int32} (h : wpY_in (fun r_1 => (((r_1 = 0 → (post 0)) ∧ (¬ r_1 = 0 → (vp_in p0 9 ∧ (((((gY_length u) p0.toNatClampNeg) ≤ 0 → (post 0)) ∧ (¬ ((gY_length u) p0.toNatClampNeg) ≤ 0 → (post 1))))))))) p0 0 7) : wpY_isBody post u p0 := h
theorem upY_body {post : Int32 → Prop} {u : SY} {p0 : Int32} {p1 : Int32} (h : wpY_isBody (fun r_1 => (((r_1 = 0 → (post (- 1))) ∧ (¬ r_1 = 0 → (wpY_in (fun r_44 => (((r_44 = 0 → (post (- 1))) ∧ (¬ r_44 = 0 → (((p1 = 0 → (vp_in p0 9 ∧ (post ((gY_length u) p0.toNatClampNeg)))) ∧ (¬ p1 = 0 → (vp_in p0 8 ∧ (post ((gY_words u) p0.toNatClampNeg)))))))))) p1 0 1))))) u p0) : wpY_body post u p0 p1 := h
theorem upY_map {post : Int32 → Prop} {u : SY} {p0 : Int32} {p1 : Int32} (h : wpY_isBody (fun r_1 => (((r_1 = 0 → (post (- 1))) ∧ (¬ r_1 = 0 → (vp_in p0 9 ∧ (wpY_in (fun r_45 => (((r_45 = 0 → (post (- 1))) ∧ (¬ r_45 = 0 → (vp_in ((24 * p0) + p1) 192 ∧ (post ((gY_maps u) ((24 * p0) + p1).toNatClampNeg))))))) p1 0 (((gY_length u) p0.toNatClampNeg) - 1))))))) u p0) : wpY_map post u p0 p1 := h
theorem upY_mark {post : SY → Prop} {u : SY} {p0 : Int32} (h : ((p0 ≤ 0 → (post u)) ∧ (¬ p0 ≤ 0 → (vp_in p0 49 ∧ ∀ a_marked_3 : Nat → Int32 , a_marked_3 = upd (gY_marked u) p0.toNatClampNeg (vp_nar .boolean 1) → (post (sY_marked a_marked_3 u)))))) : wpY_mark post u p0 := h
def kY_spread_18 (post : SY → Prop) (x1 : Int32) (x2 : Int32) (x3 : Int32) (n : Nat) (x4 : Int32) (u : SY) : Prop := wY_spread_18 post x1 x2 x3 n x4 (gY_fault u) (gY_height u) (gY_used u) (gY_depth u) (gY_room u) (gY_steps u) (gY_origin u) (gY_answer u) (gY_collections u) (gY_stayed u) (gY_codes u) (gY_links u) (gY_result u) (gY_up u) (gY_ints u) (gY_references u) (gY_slots u) (gY_first u) (gY_ready u) (gY_ops u) (gY_args u) (gY_length u) (gY_from u) (gY_to u) (gY_goal u) (gY_words u) (gY_maps u) (gY_coded u) (gY_linked u) (gY_heights u) (gY_kinds u) (gY_behind u) (gY_of u) (gY_fields u) (gY_globals u) (gY_marked u) (gY_method u) (gY_at u) (gY_high u) (gY_locals u) (gY_stack u)
theorem uY_spread_18 {post : SY → Prop} {x1 : Int32} {x2 : Int32} {x3 : Int32} {n : Nat} {x4 : Int32} {u : SY} (h : ((x3 ≤ x4 → (post u)) ∧ (¬ x3 ≤ x4 → (wpY_kindOf (fun r_46 => (((r_46 = 2 → (vp_in ((16 * x1) + x4) 784 ∧ (wpY_mark (fun u1 => (∀ x4_133 : Int32 , x4_133 = x4 + 1 → (kY_spread_18 post x1 x2 x3 n x4_133 u1))) u ((gY_fields u) ((16 * x1) + x4).toNatClampNeg)))) ∧ (¬ r_46 = 2 → (∀ x4_89 : Int32 , x4_89 = x4 + 1 → (kY_spread_18 post x1 x2 x3 n x4_89 u)))))) u x2 x4)))) : kY_spread_18 post x1 x2 x3 (n + 1) x4 u := h
theorem upY_spread {post : SY → Prop} {u : SY} {p0 : Int32} (h : vp_in p0 49 ∧ (∀ x2_2 : Int32 , x2_2 = ((gY_of u) p0.toNatClampNeg) - 1 → (wpY_total (fun r_3 => (∃ n18 : Nat , kY_spread_18 post p0 x2_2 r_3 n18 0 u)) u x2_2))) : wpY_spread post u p0 := h
def kY_collect_240 (post : SY → Prop) (J218 : Int32 → SY → Prop) (x1 : Int32)  (u : SY) : Prop := wY_collect_240 post (fun x1 f_used f_stayed a_up a_ints a_references a_slots a_first a_ready a_ops a_args a_length a_from a_to a_goal a_words a_maps a_coded a_linked a_heights a_kinds a_behind a_of a_fields a_globals a_marked a_method a_at a_high a_locals a_stack => J218 x1 ((gY_fault u), (gY_height u), f_used, (gY_depth u), (gY_room u), (gY_steps u), (gY_origin u), (gY_answer u), (gY_collections u), f_stayed, (gY_codes u), (gY_links u), (gY_result u), a_up, a_ints, a_references, a_slots, a_first, a_ready, a_ops, a_args, a_length, a_from, a_to, a_goal, a_words, a_maps, a_coded, a_linked, a_heights, a_kinds, a_behind, a_of, a_fields, a_globals, a_marked, a_method, a_at, a_high, a_locals, a_stack)) x1 (gY_fault u) (gY_height u) (gY_used u) (gY_depth u) (gY_room u) (gY_steps u) (gY_origin u) (gY_answer u) (gY_collections u) (gY_stayed u) (gY_codes u) (gY_links u) (gY_result u) (gY_up u) (gY_ints u) (gY_references u) (gY_slots u) (gY_first u) (gY_ready u) (gY_ops u) (gY_args u) (gY_length u) (gY_from u) (gY_to u) (gY_goal u) (gY_words u) (gY_maps u) (gY_coded u) (gY_linked u) (gY_heights u) (gY_kinds u) (gY_behind u) (gY_of u) (gY_fields u) (gY_globals u) (gY_marked u) (gY_method u) (gY_at u) (gY_high u) (gY_locals u) (gY_stack u)
theorem uY_collect_240 {post : SY → Prop} {J218 : Int32 → SY → Prop} {x1 : Int32}  {u : SY} (h : vp_in x1 49 ∧ (((((gY_of u) x1.toNatClampNeg) = 0 → (∀ x1_57 : Int32 , x1_57 = x1 + 1 → (J218 x1_57 u))) ∧ (¬ ((gY_of u) x1.toNatClampNeg) = 0 → (∀ f_stayed_11 : Int32 , f_stayed_11 = (gY_stayed u) + 1 → (vp_in x1 49 ∧ (wpY_total (fun r_13 => (∀ f_used_55 : Int32 , f_used_55 = (gY_used u) + (1 + r_13) → (∀ x1_56 : Int32 , x1_56 = x1 + 1 → (J218 x1_56 (sY_used_stayed f_used_55 f_stayed_11 u))))) (sY_stayed f_stayed_11 u) (((gY_of u) x1.toNatClampNeg) - 1)))))))) : kY_collect_240 post J218 x1 u := h
def kY_collect_218 (post : SY → Prop) (n : Nat) (x1 : Int32) (u : SY) : Prop := wY_collect_218 post (gY_fault u) (gY_height u) (gY_depth u) (gY_room u) (gY_steps u) (gY_origin u) (gY_answer u) (gY_collections u) (gY_codes u) (gY_links u) (gY_result u) n x1 (gY_used u) (gY_stayed u) (gY_up u) (gY_ints u) (gY_references u) (gY_slots u) (gY_first u) (gY_ready u) (gY_ops u) (gY_args u) (gY_length u) (gY_from u) (gY_to u) (gY_goal u) (gY_words u) (gY_maps u) (gY_coded u) (gY_linked u) (gY_heights u) (gY_kinds u) (gY_behind u) (gY_of u) (gY_fields u) (gY_globals u) (gY_marked u) (gY_method u) (gY_at u) (gY_high u) (gY_locals u) (gY_stack u)
theorem uY_collect_218 {post : SY → Prop} {n : Nat} {x1 : Int32} {u : SY} (h : ((49 ≤ x1 → (post u)) ∧ (¬ 49 ≤ x1 → (vp_in x1 49 ∧ (((((gY_marked u) x1.toNatClampNeg) = 0 → (vp_in x1 49 ∧ ∀ a_of_59 : Nat → Int32 , a_of_59 = upd (gY_of u) x1.toNatClampNeg 0 → (kY_collect_240 post (kY_collect_218 post n) x1 (sY_of a_of_59 u)))) ∧ (¬ ((gY_marked u) x1.toNatClampNeg) = 0 → (kY_collect_240 post (kY_collect_218 post n) x1 u)))))))) : kY_collect_218 post (n + 1) x1 u := h
def kY_collect_169 (post : SY → Prop) (J161 : Int32 → SY → Prop) (x1 : Int32) (n : Nat) (x2 : Int32) (u : SY) : Prop := wY_collect_169 post (fun x1 f_fault f_height f_used f_depth f_room f_steps f_origin f_answer f_collections f_stayed f_codes f_links f_result a_up a_ints a_references a_slots a_first a_ready a_ops a_args a_length a_from a_to a_goal a_words a_maps a_coded a_linked a_heights a_kinds a_behind a_of a_fields a_globals a_marked a_method a_at a_high a_locals a_stack => J161 x1 (f_fault, f_height, f_used, f_depth, f_room, f_steps, f_origin, f_answer, f_collections, f_stayed, f_codes, f_links, f_result, a_up, a_ints, a_references, a_slots, a_first, a_ready, a_ops, a_args, a_length, a_from, a_to, a_goal, a_words, a_maps, a_coded, a_linked, a_heights, a_kinds, a_behind, a_of, a_fields, a_globals, a_marked, a_method, a_at, a_high, a_locals, a_stack)) x1 n x2 (gY_fault u) (gY_height u) (gY_used u) (gY_depth u) (gY_room u) (gY_steps u) (gY_origin u) (gY_answer u) (gY_collections u) (gY_stayed u) (gY_codes u) (gY_links u) (gY_result u) (gY_up u) (gY_ints u) (gY_references u) (gY_slots u) (gY_first u) (gY_ready u) (gY_ops u) (gY_args u) (gY_length u) (gY_from u) (gY_to u) (gY_goal u) (gY_words u) (gY_maps u) (gY_coded u) (gY_linked u) (gY_heights u) (gY_kinds u) (gY_behind u) (gY_of u) (gY_fields u) (gY_globals u) (gY_marked u) (gY_method u) (gY_at u) (gY_high u) (gY_locals u) (gY_stack u)
theorem uY_collect_169 {post : SY → Prop} {J161 : Int32 → SY → Prop} {x1 : Int32} {n : Nat} {x2 : Int32} {u : SY} (h : ((49 ≤ x2 → (∀ x1_61 : Int32 , x1_61 = x1 + 1 → (J161 x1_61 u))) ∧ (¬ 49 ≤ x2 → (vp_in x2 49 ∧ (((((gY_marked u) x2.toNatClampNeg) = 0 → (∀ x2_64 : Int32 , x2_64 = x2 + 1 → (kY_collect_169 post J161 x1 n x2_64 u))) ∧ (¬ ((gY_marked u) x2.toNatClampNeg) = 0 → (wpY_spread (fun u1 => (∀ x2_107 : Int32 , x2_107 = x2 + 1 → (kY_collect_169 post J161 x1 n x2_107 u1))) u x2)))))))) : kY_collect_169 post J161 x1 (n + 1) x2 u := h
def kY_collect_161 (post : SY → Prop) (n : Nat) (x1 : Int32) (u : SY) : Prop := wY_collect_161 post n x1 (gY_fault u) (gY_height u) (gY_used u) (gY_depth u) (gY_room u) (gY_steps u) (gY_origin u) (gY_answer u) (gY_collections u) (gY_stayed u) (gY_codes u) (gY_links u) (gY_result u) (gY_up u) (gY_ints u) (gY_references u) (gY_slots u) (gY_first u) (gY_ready u) (gY_ops u) (gY_args u) (gY_length u) (gY_from u) (gY_to u) (gY_goal u) (gY_words u) (gY_maps u) (gY_coded u) (gY_linked u) (gY_heights u) (gY_kinds u) (gY_behind u) (gY_of u) (gY_fields u) (gY_globals u) (gY_marked u) (gY_method u) (gY_at u) (gY_high u) (gY_locals u) (gY_stack u)
theorem uY_collect_161 {post : SY → Prop} {n : Nat} {x1 : Int32} {u : SY} (h : ((48 ≤ x1 → (∀ f_collections_5 : Int32 , f_collections_5 = (gY_collections u) + 1 → (∃ n218 : Nat , kY_collect_218 post n218 1 (sY_used_collections 0 f_collections_5 u)))) ∧ (¬ 48 ≤ x1 → (∃ n169 : Nat , kY_collect_169 post (kY_collect_161 post n) x1 n169 1 u)))) : kY_collect_161 post (n + 1) x1 u := h
def kY_collect_46 (post : SY → Prop) (n : Nat) (x1 : Int32) (u : SY) : Prop := wY_collect_46 post n x1 (gY_fault u) (gY_height u) (gY_used u) (gY_depth u) (gY_room u) (gY_steps u) (gY_origin u) (gY_answer u) (gY_collections u) (gY_stayed u) (gY_codes u) (gY_links u) (gY_result u) (gY_up u) (gY_ints u) (gY_references u) (gY_slots u) (gY_first u) (gY_ready u) (gY_ops u) (gY_args u) (gY_length u) (gY_from u) (gY_to u) (gY_goal u) (gY_words u) (gY_maps u) (gY_coded u) (gY_linked u) (gY_heights u) (gY_kinds u) (gY_behind u) (gY_of u) (gY_fields u) (gY_globals u) (gY_marked u) (gY_method u) (gY_at u) (gY_high u) (gY_locals u) (gY_stack u)
theorem uY_collect_46 {post : SY → Prop} {n : Nat} {x1 : Int32} {u : SY} (h : (((12 * (gY_depth u)) ≤ x1 → (∃ n161 : Nat , kY_collect_161 post n161 0 u)) ∧ (¬ (12 * (gY_depth u)) ≤ x1 → (¬ (12 : Int32) = 0 ∧ (∀ x2_109 : Int32 , x2_109 = x1 / 12 → (¬ (12 : Int32) = 0 ∧ (∀ x3_111 : Int32 , x3_111 = x1 - x1 / 12 * 12 → (vp_in x2_109 14 ∧ (vp_in x2_109 14 ∧ (vp_in ((24 * ((gY_method u) x2_109.toNatClampNeg)) + ((gY_at u) x2_109.toNatClampNeg)) 192 ∧ (((((((gY_maps u) ((24 * ((gY_method u) x2_109.toNatClampNeg)) + ((gY_at u) x2_109.toNatClampNeg)).toNatClampNeg) >>> (x3_111 &&& 31)) &&& 1) = 0 → (∀ x1_208 : Int32 , x1_208 = x1 + 1 → (kY_collect_46 post n x1_208 u))) ∧ (¬ ((((gY_maps u) ((24 * ((gY_method u) x2_109.toNatClampNeg)) + ((gY_at u) x2_109.toNatClampNeg)).toNatClampNeg) >>> (x3_111 &&& 31)) &&& 1) = 0 → (((6 ≤ x3_111 → (vp_in x2_109 14 ∧ (((((gY_high u) x2_109.toNatClampNeg) ≤ (x3_111 - 6) → (∀ x1_119 : Int32 , x1_119 = x1 + 1 → (kY_collect_46 post n x1_119 u))) ∧ (¬ ((gY_high u) x2_109.toNatClampNeg) ≤ (x3_111 - 6) → (vp_in (((6 * x2_109) + x3_111) - 6) 84 ∧ (wpY_mark (fun u1 => (∀ x1_163 : Int32 , x1_163 = x1 + 1 → (kY_collect_46 post n x1_163 u1))) u ((gY_stack u) (((6 * x2_109) + x3_111) - 6).toNatClampNeg)))))))) ∧ (¬ 6 ≤ x3_111 → (vp_in ((6 * x2_109) + x3_111) 84 ∧ (wpY_mark (fun u2 => (∀ x1_207 : Int32 , x1_207 = x1 + 1 → (kY_collect_46 post n x1_207 u2))) u ((gY_locals u) ((6 * x2_109) + x3_111).toNatClampNeg))))))))))))))))))) : kY_collect_46 post (n + 1) x1 u := h
def kY_collect_23 (post : SY → Prop) (n : Nat) (x1 : Int32) (u : SY) : Prop := wY_collect_23 post n x1 (gY_fault u) (gY_height u) (gY_used u) (gY_depth u) (gY_room u) (gY_steps u) (gY_origin u) (gY_answer u) (gY_collections u) (gY_stayed u) (gY_codes u) (gY_links u) (gY_result u) (gY_up u) (gY_ints u) (gY_references u) (gY_slots u) (gY_first u) (gY_ready u) (gY_ops u) (gY_args u) (gY_length u) (gY_from u) (gY_to u) (gY_goal u) (gY_words u) (gY_maps u) (gY_coded u) (gY_linked u) (gY_heights u) (gY_kinds u) (gY_behind u) (gY_of u) (gY_fields u) (gY_globals u) (gY_marked u) (gY_method u) (gY_at u) (gY_high u) (gY_locals u) (gY_stack u)
theorem uY_collect_23 {post : SY → Prop} {n : Nat} {x1 : Int32} {u : SY} (h : ((4 ≤ x1 → (∃ n46 : Nat , kY_collect_46 post n46 0 u)) ∧ (¬ 4 ≤ x1 → (vp_in x1 4 ∧ (wpY_mark (fun u1 => (∀ x1_252 : Int32 , x1_252 = x1 + 1 → (kY_collect_23 post n x1_252 u1))) u ((gY_globals u) x1.toNatClampNeg)))))) : kY_collect_23 post (n + 1) x1 u := h
def kY_collect_2 (post : SY → Prop) (n : Nat) (x1 : Int32) (u : SY) : Prop := wY_collect_2 post (gY_fault u) (gY_height u) (gY_used u) (gY_depth u) (gY_room u) (gY_steps u) (gY_origin u) (gY_answer u) (gY_collections u) (gY_stayed u) (gY_codes u) (gY_links u) (gY_result u) n x1 (gY_up u) (gY_ints u) (gY_references u) (gY_slots u) (gY_first u) (gY_ready u) (gY_ops u) (gY_args u) (gY_length u) (gY_from u) (gY_to u) (gY_goal u) (gY_words u) (gY_maps u) (gY_coded u) (gY_linked u) (gY_heights u) (gY_kinds u) (gY_behind u) (gY_of u) (gY_fields u) (gY_globals u) (gY_marked u) (gY_method u) (gY_at u) (gY_high u) (gY_locals u) (gY_stack u)
theorem uY_collect_2 {post : SY → Prop} {n : Nat} {x1 : Int32} {u : SY} (h : ((49 ≤ x1 → (∃ n23 : Nat , kY_collect_23 post n23 0 u)) ∧ (¬ 49 ≤ x1 → (vp_in x1 49 ∧ ∀ a_marked_254 : Nat → Int32 , a_marked_254 = upd (gY_marked u) x1.toNatClampNeg (vp_nar .boolean 0) → (∀ x1_255 : Int32 , x1_255 = x1 + 1 → (kY_collect_2 post n x1_255 (sY_marked a_marked_254 u))))))) : kY_collect_2 post (n + 1) x1 u := h
theorem upY_collect {post : SY → Prop} {u : SY} (h : ∃ n2 : Nat , kY_collect_2 post n2 1 u) : wpY_collect post u := h
def kY_create_75 (post : Int32 → SY → Prop) (x3 : Int32) (n : Nat) (x4 : Int32) (u : SY) : Prop := wY_create_75 post x3 (gY_fault u) (gY_height u) (gY_used u) (gY_depth u) (gY_room u) (gY_steps u) (gY_origin u) (gY_answer u) (gY_collections u) (gY_stayed u) (gY_codes u) (gY_links u) (gY_result u) n x4 (gY_up u) (gY_ints u) (gY_references u) (gY_slots u) (gY_first u) (gY_ready u) (gY_ops u) (gY_args u) (gY_length u) (gY_from u) (gY_to u) (gY_goal u) (gY_words u) (gY_maps u) (gY_coded u) (gY_linked u) (gY_heights u) (gY_kinds u) (gY_behind u) (gY_of u) (gY_fields u) (gY_globals u) (gY_marked u) (gY_method u) (gY_at u) (gY_high u) (gY_locals u) (gY_stack u)
theorem uY_create_75 {post : Int32 → SY → Prop} {x3 : Int32} {n : Nat} {x4 : Int32} {u : SY} (h : ((16 ≤ x4 → (post x3 u)) ∧ (¬ 16 ≤ x4 → (vp_in ((16 * x3) + x4) 784 ∧ ∀ a_fields_53 : Nat → Int32 , a_fields_53 = upd (gY_fields u) ((16 * x3) + x4).toNatClampNeg 0 → (∀ x4_54 : Int32 , x4_54 = x4 + 1 → (kY_create_75 post x3 n x4_54 (sY_fields a_fields_53 u))))))) : kY_create_75 post x3 (n + 1) x4 u := h
def kY_create_38 (post : Int32 → SY → Prop) (x1 : Int32) (x2 : Int32) (n : Nat) (x3 : Int32) (u : SY) : Prop := wY_create_38 post x1 x2 (gY_fault u) (gY_height u) (gY_used u) (gY_depth u) (gY_room u) (gY_steps u) (gY_origin u) (gY_answer u) (gY_collections u) (gY_stayed u) (gY_codes u) (gY_links u) (gY_result u) (gY_up u) (gY_ints u) (gY_references u) (gY_slots u) (gY_first u) (gY_ready u) (gY_ops u) (gY_args u) (gY_length u) (gY_from u) (gY_to u) (gY_goal u) (gY_words u) (gY_maps u) (gY_coded u) (gY_linked u) (gY_heights u) (gY_kinds u) (gY_behind u) (gY_of u) (gY_fields u) (gY_globals u) (gY_marked u) (gY_method u) (gY_at u) (gY_high u) (gY_locals u) (gY_stack u) n x3
theorem uY_create_38 {post : Int32 → SY → Prop} {x1 : Int32} {x2 : Int32} {n : Nat} {x3 : Int32} {u : SY} (h : vp_in x3 49 ∧ (((((gY_of u) x3.toNatClampNeg) ≤ 0 → (vp_in x3 49 ∧ ∀ a_of_49 : Nat → Int32 , a_of_49 = upd (gY_of u) x3.toNatClampNeg (x1 + 1) → (∀ f_used_50 : Int32 , f_used_50 = (gY_used u) + x2 → (∃ n75 : Nat , kY_create_75 post x3 n75 0 (sY_used_of f_used_50 a_of_49 u))))) ∧ (¬ ((gY_of u) x3.toNatClampNeg) ≤ 0 → (∀ x3_55 : Int32 , x3_55 = x3 + 1 → (kY_create_38 post x1 x2 n x3_55 u)))))) : kY_create_38 post x1 x2 (n + 1) x3 u := h
def kY_create_23 (post : Int32 → SY → Prop) (x1 : Int32) (x2 : Int32)  (u : SY) : Prop := wY_create_23 post x1 x2 (gY_fault u) (gY_height u) (gY_used u) (gY_depth u) (gY_room u) (gY_steps u) (gY_origin u) (gY_answer u) (gY_collections u) (gY_stayed u) (gY_codes u) (gY_links u) (gY_result u) (gY_up u) (gY_ints u) (gY_references u) (gY_slots u) (gY_first u) (gY_ready u) (gY_ops u) (gY_args u) (gY_length u) (gY_from u) (gY_to u) (gY_goal u) (gY_words u) (gY_maps u) (gY_coded u) (gY_linked u) (gY_heights u) (gY_kinds u) (gY_behind u) (gY_of u) (gY_fields u) (gY_globals u) (gY_marked u) (gY_method u) (gY_at u) (gY_high u) (gY_locals u) (gY_stack u)
theorem uY_create_23 {post : Int32 → SY → Prop} {x1 : Int32} {x2 : Int32}  {u : SY} (h : ((((gY_used u) + x2) ≤ 48 → (∃ n38 : Nat , kY_create_38 post x1 x2 n38 1 u)) ∧ (¬ ((gY_used u) + x2) ≤ 48 → (post 0 u)))) : kY_create_23 post x1 x2 u := h
theorem upY_create {post : Int32 → SY → Prop} {u : SY} {p0 : Int32} (h : wpY_total (fun r_1 => (∀ x2_43 : Int32 , x2_43 = 1 + r_1 → (((((gY_used u) + x2_43) ≤ 48 → (kY_create_23 post p0 x2_43 u)) ∧ (¬ ((gY_used u) + x2_43) ≤ 48 → (wpY_collect (fun u1 => (kY_create_23 post p0 x2_43 u1)) u)))))) u p0) : wpY_create post u p0 := h
def kY_enter_19 (post : Int32 → SY → Prop) (x1 : Int32)  (u : SY) : Prop := wY_enter_19 post x1 (gY_fault u) (gY_height u) (gY_used u) (gY_depth u) (gY_room u) (gY_steps u) (gY_origin u) (gY_answer u) (gY_collections u) (gY_stayed u) (gY_codes u) (gY_links u) (gY_result u) (gY_up u) (gY_ints u) (gY_references u) (gY_slots u) (gY_first u) (gY_ready u) (gY_ops u) (gY_args u) (gY_length u) (gY_from u) (gY_to u) (gY_goal u) (gY_words u) (gY_maps u) (gY_coded u) (gY_linked u) (gY_heights u) (gY_kinds u) (gY_behind u) (gY_of u) (gY_fields u) (gY_globals u) (gY_marked u) (gY_method u) (gY_at u) (gY_high u) (gY_locals u) (gY_stack u)
theorem uY_enter_19 {post : Int32 → SY → Prop} {x1 : Int32}  {u : SY} (h : vp_in x1 8 ∧ ∀ a_coded_4 : Nat → Int32 , a_coded_4 = upd (gY_coded u) x1.toNatClampNeg (vp_nar .boolean 1) → (vp_in x1 8 ∧ (((((gY_room u) + ((gY_words u) x1.toNatClampNeg)) ≤ 120 → (vp_in x1 8 ∧ (∀ f_room_8 : Int32 , f_room_8 = (gY_room u) + ((gY_words u) x1.toNatClampNeg) → (vp_in (gY_depth u) 14 ∧ ∀ a_method_10 : Nat → Int32 , a_method_10 = upd (gY_method u) (gY_depth u).toNatClampNeg x1 → (vp_in (gY_depth u) 14 ∧ ∀ a_at_12 : Nat → Int32 , a_at_12 = upd (gY_at u) (gY_depth u).toNatClampNeg 0 → (vp_in (gY_depth u) 14 ∧ ∀ a_high_14 : Nat → Int32 , a_high_14 = upd (gY_high u) (gY_depth u).toNatClampNeg 0 → (∀ f_depth_15 : Int32 , f_depth_15 = (gY_depth u) + 1 → (post 1 (sY_depth_room_coded_method_at_high f_depth_15 f_room_8 a_coded_4 a_method_10 a_at_12 a_high_14 u))))))))) ∧ (¬ ((gY_room u) + ((gY_words u) x1.toNatClampNeg)) ≤ 120 → (post 0 (sY_coded a_coded_4 u))))))) : kY_enter_19 post x1 u := h
theorem upY_enter {post : Int32 → SY → Prop} {u : SY} {p0 : Int32} (h : vp_in p0 8 ∧ (((((gY_coded u) p0.toNatClampNeg) = 0 → (∀ f_codes_16 : Int32 , f_codes_16 = (gY_codes u) + 1 → (kY_enter_19 post p0 (sY_codes f_codes_16 u)))) ∧ (¬ ((gY_coded u) p0.toNatClampNeg) = 0 → (kY_enter_19 post p0 u))))) : wpY_enter post u p0 := h
theorem upY_drop {post : SY → Prop} {u : SY} (h : ∀ f_depth_1 : Int32 , f_depth_1 = (gY_depth u) - 1 → (vp_in f_depth_1 14 ∧ (vp_in ((gY_method u) f_depth_1.toNatClampNeg) 8 ∧ (∀ f_room_4 : Int32 , f_room_4 = (gY_room u) - ((gY_words u) ((gY_method u) f_depth_1.toNatClampNeg).toNatClampNeg) → (post (sY_depth_room f_depth_1 f_room_4 u)))))) : wpY_drop post u := h
def kY_raise_111 (post : SY → Prop) (J30 : SY → Prop) (x1 : Int32)  (u : SY) : Prop := wY_raise_111 post (fun f_fault f_height f_used f_depth f_room f_steps f_origin f_answer f_collections f_stayed f_codes f_links f_result a_up a_ints a_references a_slots a_first a_ready a_ops a_args a_length a_from a_to a_goal a_words a_maps a_coded a_linked a_heights a_kinds a_behind a_of a_fields a_globals a_marked a_method a_at a_high a_locals a_stack => J30 (f_fault, f_height, f_used, f_depth, f_room, f_steps, f_origin, f_answer, f_collections, f_stayed, f_codes, f_links, f_result, a_up, a_ints, a_references, a_slots, a_first, a_ready, a_ops, a_args, a_length, a_from, a_to, a_goal, a_words, a_maps, a_coded, a_linked, a_heights, a_kinds, a_behind, a_of, a_fields, a_globals, a_marked, a_method, a_at, a_high, a_locals, a_stack)) x1 (gY_fault u) (gY_height u) (gY_used u) (gY_depth u) (gY_room u) (gY_steps u) (gY_origin u) (gY_answer u) (gY_collections u) (gY_stayed u) (gY_codes u) (gY_links u) (gY_result u) (gY_up u) (gY_ints u) (gY_references u) (gY_slots u) (gY_first u) (gY_ready u) (gY_ops u) (gY_args u) (gY_length u) (gY_from u) (gY_to u) (gY_goal u) (gY_words u) (gY_maps u) (gY_coded u) (gY_linked u) (gY_heights u) (gY_kinds u) (gY_behind u) (gY_of u) (gY_fields u) (gY_globals u) (gY_marked u) (gY_method u) (gY_at u) (gY_high u) (gY_locals u) (gY_stack u)
theorem uY_raise_111 {post : SY → Prop} {J30 : SY → Prop} {x1 : Int32}  {u : SY} (h : wpY_drop (fun u1 => (J30 u1)) u) : kY_raise_111 post J30 x1 u := h
def kY_raise_30 (post : SY → Prop) (x1 : Int32) (n : Nat)  (u : SY) : Prop := wY_raise_30 post x1 n (gY_fault u) (gY_height u) (gY_used u) (gY_depth u) (gY_room u) (gY_steps u) (gY_origin u) (gY_answer u) (gY_collections u) (gY_stayed u) (gY_codes u) (gY_links u) (gY_result u) (gY_up u) (gY_ints u) (gY_references u) (gY_slots u) (gY_first u) (gY_ready u) (gY_ops u) (gY_args u) (gY_length u) (gY_from u) (gY_to u) (gY_goal u) (gY_words u) (gY_maps u) (gY_coded u) (gY_linked u) (gY_heights u) (gY_kinds u) (gY_behind u) (gY_of u) (gY_fields u) (gY_globals u) (gY_marked u) (gY_method u) (gY_at u) (gY_high u) (gY_locals u) (gY_stack u)
theorem uY_raise_30 {post : SY → Prop} {x1 : Int32} {n : Nat}  {u : SY} (h : (((gY_depth u) ≤ 0 → (post (sY_answer_result 1 x1.toInt64 u))) ∧ (¬ (gY_depth u) ≤ 0 → (∀ x2_5 : Int32 , x2_5 = (gY_depth u) - 1 → (vp_in x2_5 14 ∧ (∀ x3_7 : Int32 , x3_7 = (gY_method u) x2_5.toNatClampNeg → (vp_in x2_5 14 ∧ (vp_in x3_7 9 ∧ (((((gY_at u) x2_5.toNatClampNeg) < ((gY_from u) x3_7.toNatClampNeg) → (kY_raise_111 post (kY_raise_30 post x1 n) x1 u)) ∧ (¬ ((gY_at u) x2_5.toNatClampNeg) < ((gY_from u) x3_7.toNatClampNeg) → (vp_in x2_5 14 ∧ (vp_in x3_7 9 ∧ (((((gY_to u) x3_7.toNatClampNeg) ≤ ((gY_at u) x2_5.toNatClampNeg) → (kY_raise_111 post (kY_raise_30 post x1 n) x1 u)) ∧ (¬ ((gY_to u) x3_7.toNatClampNeg) ≤ ((gY_at u) x2_5.toNatClampNeg) → (vp_in x2_5 14 ∧ ∀ a_high_57 : Nat → Int32 , a_high_57 = upd (gY_high u) x2_5.toNatClampNeg 1 → (vp_in (6 * x2_5) 84 ∧ ∀ a_stack_59 : Nat → Int32 , a_stack_59 = upd (gY_stack u) (6 * x2_5).toNatClampNeg x1 → (vp_in x3_7 9 ∧ (vp_in x2_5 14 ∧ ∀ a_at_62 : Nat → Int32 , a_at_62 = upd (gY_at u) x2_5.toNatClampNeg ((gY_goal u) x3_7.toNatClampNeg) → (post (sY_at_high_stack a_at_62 a_high_57 a_stack_59 u)))))))))))))))))))))) : kY_raise_30 post x1 (n + 1) u := h
theorem upY_raise {post : SY → Prop} {u : SY} {p0 : Int32} (h : vp_in ((gY_depth u) - 1) 14 ∧ (vp_in ((gY_depth u) - 1) 14 ∧ (∀ f_origin_3 : Int32 , f_origin_3 = (32 * ((gY_method u) ((gY_depth u) - 1).toNatClampNeg)) + ((gY_at u) ((gY_depth u) - 1).toNatClampNeg) → (∃ n30 : Nat , kY_raise_30 post p0 n30 (sY_origin f_origin_3 u))))) : wpY_raise post u p0 := h
def kY_call_43 (post : SY → Prop) (x2 : Int32) (x4 : Int32) (n : Nat) (x5 : Int32) (u : SY) : Prop := wY_call_43 post x2 x4 (gY_fault u) (gY_height u) (gY_used u) (gY_depth u) (gY_room u) (gY_steps u) (gY_origin u) (gY_answer u) (gY_collections u) (gY_stayed u) (gY_codes u) (gY_links u) (gY_result u) n x5 (gY_up u) (gY_ints u) (gY_references u) (gY_slots u) (gY_first u) (gY_ready u) (gY_ops u) (gY_args u) (gY_length u) (gY_from u) (gY_to u) (gY_goal u) (gY_words u) (gY_maps u) (gY_coded u) (gY_linked u) (gY_heights u) (gY_kinds u) (gY_behind u) (gY_of u) (gY_fields u) (gY_globals u) (gY_marked u) (gY_method u) (gY_at u) (gY_high u) (gY_locals u) (gY_stack u)
theorem uY_call_43 {post : SY → Prop} {x2 : Int32} {x4 : Int32} {n : Nat} {x5 : Int32} {u : SY} (h : ((x4 ≤ x5 → (post u)) ∧ (¬ x4 ≤ x5 → (vp_in x2 14 ∧ (vp_in (((6 * x2) + ((gY_high u) x2.toNatClampNeg)) + x5) 84 ∧ (vp_in (((6 * x2) + 6) + x5) 84 ∧ ∀ a_locals_53 : Nat → Int32 , a_locals_53 = upd (gY_locals u) (((6 * x2) + 6) + x5).toNatClampNeg ((gY_stack u) (((6 * x2) + ((gY_high u) x2.toNatClampNeg)) + x5).toNatClampNeg) → (∀ x5_54 : Int32 , x5_54 = x5 + 1 → (kY_call_43 post x2 x4 n x5_54 (sY_locals a_locals_53 u))))))))) : kY_call_43 post x2 x4 (n + 1) x5 u := h
theorem upY_call {post : SY → Prop} {u : SY} {p0 : Int32} (h : ∀ x2_1 : Int32 , x2_1 = (gY_depth u) - 1 → (wpY_enter (fun r_2 u1 => (((r_2 = 0 → (wpY_raise (fun u2 => (post u2)) u1 5)) ∧ (¬ r_2 = 0 → (wpY_takes (fun r_45 => (vp_in x2_1 14 ∧ (vp_in x2_1 14 ∧ ∀ a_high_48 : Nat → Int32 , a_high_48 = upd (gY_high u1) x2_1.toNatClampNeg (((gY_high u1) x2_1.toNatClampNeg) - r_45) → (∃ n43 : Nat , kY_call_43 post x2_1 r_45 n43 0 (sY_high a_high_48 u1))))) p0))))) u p0)) : wpY_call post u p0 := h
theorem upY_push {post : SY → Prop} {u : SY} {p0 : Int32} (h : ∀ x2_1 : Int32 , x2_1 = (gY_depth u) - 1 → (vp_in x2_1 14 ∧ (vp_in x2_1 14 ∧ ∀ a_high_4 : Nat → Int32 , a_high_4 = upd (gY_high u) x2_1.toNatClampNeg (((gY_high u) x2_1.toNatClampNeg) + 1) → (vp_in ((6 * x2_1) + ((gY_high u) x2_1.toNatClampNeg)) 84 ∧ ∀ a_stack_6 : Nat → Int32 , a_stack_6 = upd (gY_stack u) ((6 * x2_1) + ((gY_high u) x2_1.toNatClampNeg)).toNatClampNeg p0 → (post (sY_high_stack a_high_4 a_stack_6 u)))))) : wpY_push post u p0 := h
theorem upY_pop {post : Int32 → SY → Prop} {u : SY} (h : ∀ x1_1 : Int32 , x1_1 = (gY_depth u) - 1 → (vp_in x1_1 14 ∧ (vp_in x1_1 14 ∧ ∀ a_high_4 : Nat → Int32 , a_high_4 = upd (gY_high u) x1_1.toNatClampNeg (((gY_high u) x1_1.toNatClampNeg) - 1) → (vp_in ((6 * x1_1) + (((gY_high u) x1_1.toNatClampNeg) - 1)) 84 ∧ (post ((gY_stack u) ((6 * x1_1) + (((gY_high u) x1_1.toNatClampNeg) - 1)).toNatClampNeg) (sY_high a_high_4 u)))))) : wpY_pop post u := h
theorem upY_leave {post : SY → Prop} {u : SY} {p0 : Int32} (h : vp_in ((gY_depth u) - 1) 14 ∧ (∀ x2_2 : Int32 , x2_2 = (gY_method u) ((gY_depth u) - 1).toNatClampNeg → (wpY_drop (fun u1 => ((((gY_depth u1) = 0 → (wpY_gives (fun r_96 => (((r_96 = 2 → (∀ a_globals_99 : Nat → Int32 , a_globals_99 = upd (gY_globals u1) 3 p0 → (vp_in p0 49 ∧ (∀ f_result_101 : Int64 , f_result_101 = (((gY_of u1) p0.toNatClampNeg) - 1).toInt64 → (post (sY_answer_result_globals 0 f_result_101 a_globals_99 u1)))))) ∧ (¬ r_96 = 2 → (post (sY_answer_result 0 p0.toInt64 u1)))))) x2_2)) ∧ (¬ (gY_depth u1) = 0 → (∀ x3_46 : Int32 , x3_46 = (gY_depth u1) - 1 → (vp_in x3_46 14 ∧ (vp_in x3_46 14 ∧ (vp_in ((24 * ((gY_method u1) x3_46.toNatClampNeg)) + ((gY_at u1) x3_46.toNatClampNeg)) 216 ∧ (((((gY_ops u1) ((24 * ((gY_method u1) x3_46.toNatClampNeg)) + ((gY_at u1) x3_46.toNatClampNeg)).toNatClampNeg) = 12 → (post u1)) ∧ (¬ ((gY_ops u1) ((24 * ((gY_method u1) x3_46.toNatClampNeg)) + ((gY_at u1) x3_46.toNatClampNeg)).toNatClampNeg) = 12 → (wpY_push (fun u2 => (vp_in x3_46 14 ∧ (vp_in x3_46 14 ∧ ∀ a_at_95 : Nat → Int32 , a_at_95 = upd (gY_at u2) x3_46.toNatClampNeg (((gY_at u2) x3_46.toNatClampNeg) + 1) → (post (sY_at a_at_95 u2))))) u1 p0)))))))))))) u))) : wpY_leave post u p0 := h
def kY_isReady_10 (post : Int32 → SY → Prop) (J2 : Int32 → SY → Prop) (x1 : Int32) (n : Nat) (x2 : Int32) (x3 : Int32) (u : SY) : Prop := wY_isReady_10 post (fun x2 a_up a_ints a_references a_slots a_first a_ready a_ops a_args a_length a_from a_to a_goal a_words a_maps a_coded a_linked a_heights a_kinds a_behind a_of a_fields a_globals a_marked a_method a_at a_high a_locals a_stack => J2 x2 ((gY_fault u), (gY_height u), (gY_used u), (gY_depth u), (gY_room u), (gY_steps u), (gY_origin u), (gY_answer u), (gY_collections u), (gY_stayed u), (gY_codes u), (gY_links u), (gY_result u), a_up, a_ints, a_references, a_slots, a_first, a_ready, a_ops, a_args, a_length, a_from, a_to, a_goal, a_words, a_maps, a_coded, a_linked, a_heights, a_kinds, a_behind, a_of, a_fields, a_globals, a_marked, a_method, a_at, a_high, a_locals, a_stack)) x1 (gY_fault u) (gY_height u) (gY_used u) (gY_depth u) (gY_room u) (gY_steps u) (gY_origin u) (gY_answer u) (gY_collections u) (gY_stayed u) (gY_codes u) (gY_links u) (gY_result u) (gY_up u) (gY_ints u) (gY_references u) (gY_slots u) (gY_first u) (gY_ready u) (gY_ops u) (gY_args u) (gY_length u) (gY_from u) (gY_to u) (gY_goal u) (gY_words u) (gY_maps u) (gY_coded u) (gY_linked u) (gY_heights u) (gY_kinds u) (gY_behind u) (gY_of u) (gY_fields u) (gY_globals u) (gY_marked u) (gY_method u) (gY_at u) (gY_high u) (gY_locals u) (gY_stack u) n x2 x3
theorem uY_isReady_10 {post : Int32 → SY → Prop} {J2 : Int32 → SY → Prop} {x1 : Int32} {n : Nat} {x2 : Int32} {x3 : Int32} {u : SY} (h : ((x3 < 0 → (((0 ≤ x2 → (vp_in x2 4 ∧ ∀ a_ready_5 : Nat → Int32 , a_ready_5 = upd (gY_ready u) x2.toNatClampNeg (vp_nar .boolean 1) → (vp_in x2 4 ∧ (((((gY_first u) x2.toNatClampNeg) < 0 → (J2 x2 (sY_ready a_ready_5 u))) ∧ (¬ ((gY_first u) x2.toNatClampNeg) < 0 → (vp_in x2 4 ∧ (vp_in ((gY_first u) x2.toNatClampNeg) 9 ∧ (((((gY_length u) ((gY_first u) x2.toNatClampNeg).toNatClampNeg) = 0 → (J2 x2 (sY_ready a_ready_5 u))) ∧ (¬ ((gY_length u) ((gY_first u) x2.toNatClampNeg).toNatClampNeg) = 0 → (vp_in x2 4 ∧ (wpY_enter (fun r_12 u1 => (((r_12 = 0 → (wpY_raise (fun u2 => (post 0 u2)) u1 5)) ∧ (¬ r_12 = 0 → (vp_in ((6 * (gY_depth u1)) - 6) 84 ∧ ∀ a_locals_98 : Nat → Int32 , a_locals_98 = upd (gY_locals u1) ((6 * (gY_depth u1)) - 6).toNatClampNeg x2 → (post 0 (sY_locals a_locals_98 u1))))))) (sY_ready a_ready_5 u) ((gY_first u) x2.toNatClampNeg)))))))))))))) ∧ (¬ 0 ≤ x2 → (J2 x2 u))))) ∧ (¬ x3 < 0 → (vp_in x3 4 ∧ (((((gY_ready u) x3.toNatClampNeg) = 0 → (vp_in x3 4 ∧ (∀ x3_104 : Int32 , x3_104 = (gY_up u) x3.toNatClampNeg → (kY_isReady_10 post J2 x1 n x3 x3_104 u)))) ∧ (¬ ((gY_ready u) x3.toNatClampNeg) = 0 → (vp_in x3 4 ∧ (∀ x3_102 : Int32 , x3_102 = (gY_up u) x3.toNatClampNeg → (kY_isReady_10 post J2 x1 n x2 x3_102 u)))))))))) : kY_isReady_10 post J2 x1 (n + 1) x2 x3 u := h
def kY_isReady_2 (post : Int32 → SY → Prop) (x1 : Int32) (n : Nat) (x2 : Int32) (u : SY) : Prop := wY_isReady_2 post x1 (gY_fault u) (gY_height u) (gY_used u) (gY_depth u) (gY_room u) (gY_steps u) (gY_origin u) (gY_answer u) (gY_collections u) (gY_stayed u) (gY_codes u) (gY_links u) (gY_result u) n x2 (gY_up u) (gY_ints u) (gY_references u) (gY_slots u) (gY_first u) (gY_ready u) (gY_ops u) (gY_args u) (gY_length u) (gY_from u) (gY_to u) (gY_goal u) (gY_words u) (gY_maps u) (gY_coded u) (gY_linked u) (gY_heights u) (gY_kinds u) (gY_behind u) (gY_of u) (gY_fields u) (gY_globals u) (gY_marked u) (gY_method u) (gY_at u) (gY_high u) (gY_locals u) (gY_stack u)
theorem uY_isReady_2 {post : Int32 → SY → Prop} {x1 : Int32} {n : Nat} {x2 : Int32} {u : SY} (h : ((x2 < 0 → (post 1 u)) ∧ (¬ x2 < 0 → (∃ n10 : Nat , kY_isReady_10 post (kY_isReady_2 post x1 n) x1 n10 (- 1) x1 u)))) : kY_isReady_2 post x1 (n + 1) x2 u := h
theorem upY_isReady {post : Int32 → SY → Prop} {u : SY} {p0 : Int32} (h : ∃ n2 : Nat , kY_isReady_2 post p0 n2 0 u) : wpY_isReady post u p0 := h
theorem upY_create1 {post : SY → Prop} {u : SY} {p0 : Int32} (h : wpY_isReady (fun r_1 u1 => (((r_1 = 0 → (post u1)) ∧ (¬ r_1 = 0 → (wpY_create (fun r_44 u2 => (((r_44 = 0 → (wpY_raise (fun u3 => (post u3)) u2 6)) ∧ (¬ r_44 = 0 → (wpY_push (fun u4 => (vp_in ((gY_depth u4) - 1) 14 ∧ (vp_in ((gY_depth u4) - 1) 14 ∧ ∀ a_at_131 : Nat → Int32 , a_at_131 = upd (gY_at u4) ((gY_depth u4) - 1).toNatClampNeg (((gY_at u4) ((gY_depth u4) - 1).toNatClampNeg) + 1) → (post (sY_at a_at_131 u4))))) u2 r_44))))) u1 p0))))) u p0) : wpY_create1 post u p0 := h
def kY_link_34 (post : SY → Prop) (x1 : Int32) (x2 : Int32)  (u : SY) : Prop := wY_link_34 post x1 x2 (gY_fault u) (gY_height u) (gY_used u) (gY_depth u) (gY_room u) (gY_steps u) (gY_origin u) (gY_answer u) (gY_collections u) (gY_stayed u) (gY_codes u) (gY_links u) (gY_result u) (gY_up u) (gY_ints u) (gY_references u) (gY_slots u) (gY_first u) (gY_ready u) (gY_ops u) (gY_args u) (gY_length u) (gY_from u) (gY_to u) (gY_goal u) (gY_words u) (gY_maps u) (gY_coded u) (gY_linked u) (gY_heights u) (gY_kinds u) (gY_behind u) (gY_of u) (gY_fields u) (gY_globals u) (gY_marked u) (gY_method u) (gY_at u) (gY_high u) (gY_locals u) (gY_stack u)
theorem uY_link_34 {post : SY → Prop} {x1 : Int32} {x2 : Int32}  {u : SY} (h : vp_in x1 192 ∧ ∀ a_linked_6 : Nat → Int32 , a_linked_6 = upd (gY_linked u) x1.toNatClampNeg (vp_nar .boolean 1) → (wpY_call (fun u1 => (post u1)) (sY_linked a_linked_6 u) x2)) : kY_link_34 post x1 x2 u := h
theorem upY_link {post : SY → Prop} {u : SY} {p0 : Int32} {p1 : Int32} (h : vp_in p1 9 ∧ (((((gY_length u) p1.toNatClampNeg) = 0 → (wpY_raise (fun u1 => (post u1)) u 4)) ∧ (¬ ((gY_length u) p1.toNatClampNeg) = 0 → (vp_in p0 192 ∧ (((((gY_linked u) p0.toNatClampNeg) = 0 → (∀ f_links_49 : Int32 , f_links_49 = (gY_links u) + 1 → (kY_link_34 post p0 p1 (sY_links f_links_49 u)))) ∧ (¬ ((gY_linked u) p0.toNatClampNeg) = 0 → (kY_link_34 post p0 p1 u))))))))) : wpY_link post u p0 p1 := h
def kY_send_99 (post : SY → Prop)  (u : SY) : Prop := wY_send_99 post (gY_fault u) (gY_height u) (gY_used u) (gY_depth u) (gY_room u) (gY_steps u) (gY_origin u) (gY_answer u) (gY_collections u) (gY_stayed u) (gY_codes u) (gY_links u) (gY_result u) (gY_up u) (gY_ints u) (gY_references u) (gY_slots u) (gY_first u) (gY_ready u) (gY_ops u) (gY_args u) (gY_length u) (gY_from u) (gY_to u) (gY_goal u) (gY_words u) (gY_maps u) (gY_coded u) (gY_linked u) (gY_heights u) (gY_kinds u) (gY_behind u) (gY_of u) (gY_fields u) (gY_globals u) (gY_marked u) (gY_method u) (gY_at u) (gY_high u) (gY_locals u) (gY_stack u)
theorem uY_send_99 {post : SY → Prop}  {u : SY} (h : wpY_raise (fun u1 => (post u1)) u 4) : kY_send_99 post u := h
def kY_send_84 (post : SY → Prop) (x4 : Int32)  (u : SY) : Prop := wY_send_84 post x4 (gY_fault u) (gY_height u) (gY_used u) (gY_depth u) (gY_room u) (gY_steps u) (gY_origin u) (gY_answer u) (gY_collections u) (gY_stayed u) (gY_codes u) (gY_links u) (gY_result u) (gY_up u) (gY_ints u) (gY_references u) (gY_slots u) (gY_first u) (gY_ready u) (gY_ops u) (gY_args u) (gY_length u) (gY_from u) (gY_to u) (gY_goal u) (gY_words u) (gY_maps u) (gY_coded u) (gY_linked u) (gY_heights u) (gY_kinds u) (gY_behind u) (gY_of u) (gY_fields u) (gY_globals u) (gY_marked u) (gY_method u) (gY_at u) (gY_high u) (gY_locals u) (gY_stack u)
theorem uY_send_84 {post : SY → Prop} {x4 : Int32}  {u : SY} (h : ((x4 < 0 → (kY_send_99 post u)) ∧ (¬ x4 < 0 → (vp_in x4 9 ∧ (((((gY_length u) x4.toNatClampNeg) = 0 → (kY_send_99 post u)) ∧ (¬ ((gY_length u) x4.toNatClampNeg) = 0 → (wpY_call (fun u1 => (post u1)) u x4)))))))) : kY_send_84 post x4 u := h
def kY_send_49 (post : SY → Prop) (x1 : Int32) (n : Nat) (x4 : Int32) (x5 : Int32) (u : SY) : Prop := wY_send_49 post x1 (gY_fault u) (gY_height u) (gY_used u) (gY_depth u) (gY_room u) (gY_steps u) (gY_origin u) (gY_answer u) (gY_collections u) (gY_stayed u) (gY_codes u) (gY_links u) (gY_result u) (gY_up u) (gY_ints u) (gY_references u) (gY_slots u) (gY_first u) (gY_ready u) (gY_ops u) (gY_args u) (gY_length u) (gY_from u) (gY_to u) (gY_goal u) (gY_words u) (gY_maps u) (gY_coded u) (gY_linked u) (gY_heights u) (gY_kinds u) (gY_behind u) (gY_of u) (gY_fields u) (gY_globals u) (gY_marked u) (gY_method u) (gY_at u) (gY_high u) (gY_locals u) (gY_stack u) n x4 x5
theorem uY_send_49 {post : SY → Prop} {x1 : Int32} {n : Nat} {x4 : Int32} {x5 : Int32} {u : SY} (h : ((x5 < 0 → (kY_send_84 post x4 u)) ∧ (¬ x5 < 0 → (((0 ≤ x4 → (kY_send_84 post x4 u)) ∧ (¬ 0 ≤ x4 → (vp_in ((4 * x5) + x1) 16 ∧ (∀ x4_98 : Int32 , x4_98 = (gY_slots u) ((4 * x5) + x1).toNatClampNeg → (vp_in x5 4 ∧ (∀ x5_100 : Int32 , x5_100 = (gY_up u) x5.toNatClampNeg → (kY_send_49 post x1 n x4_98 x5_100 u))))))))))) : kY_send_49 post x1 (n + 1) x4 x5 u := h
theorem upY_send {post : SY → Prop} {u : SY} {p0 : Int32} (h : ∀ x2_1 : Int32 , x2_1 = (gY_depth u) - 1 → (vp_in x2_1 14 ∧ (vp_in (((6 * x2_1) + ((gY_high u) x2_1.toNatClampNeg)) - 2) 84 ∧ (∀ x3_4 : Int32 , x3_4 = (gY_stack u) (((6 * x2_1) + ((gY_high u) x2_1.toNatClampNeg)) - 2).toNatClampNeg → (((x3_4 = 0 → (wpY_raise (fun u1 => (post u1)) u 2)) ∧ (¬ x3_4 = 0 → (vp_in x3_4 49 ∧ (∀ x5_7 : Int32 , x5_7 = ((gY_of u) x3_4.toNatClampNeg) - 1 → (∃ n49 : Nat , kY_send_49 post p0 n49 (- 1) x5_7 u)))))))))) : wpY_send post u p0 := h
def kY_field_57 (post : SY → Prop) (z0 : Int32)  (u : SY) : Prop := wY_field_57 post z0 (gY_fault u) (gY_height u) (gY_used u) (gY_depth u) (gY_room u) (gY_steps u) (gY_origin u) (gY_answer u) (gY_collections u) (gY_stayed u) (gY_codes u) (gY_links u) (gY_result u) (gY_up u) (gY_ints u) (gY_references u) (gY_slots u) (gY_first u) (gY_ready u) (gY_ops u) (gY_args u) (gY_length u) (gY_from u) (gY_to u) (gY_goal u) (gY_words u) (gY_maps u) (gY_coded u) (gY_linked u) (gY_heights u) (gY_kinds u) (gY_behind u) (gY_of u) (gY_fields u) (gY_globals u) (gY_marked u) (gY_method u) (gY_at u) (gY_high u) (gY_locals u) (gY_stack u)
theorem uY_field_57 {post : SY → Prop} {z0 : Int32}  {u : SY} (h : wpY_raise (fun u1 => (post u1)) u z0) : kY_field_57 post z0 u := h
def kY_field_46 (post : SY → Prop) (x4 : Int32)  (u : SY) : Prop := wY_field_46 post x4 (gY_fault u) (gY_height u) (gY_used u) (gY_depth u) (gY_room u) (gY_steps u) (gY_origin u) (gY_answer u) (gY_collections u) (gY_stayed u) (gY_codes u) (gY_links u) (gY_result u) (gY_up u) (gY_ints u) (gY_references u) (gY_slots u) (gY_first u) (gY_ready u) (gY_ops u) (gY_args u) (gY_length u) (gY_from u) (gY_to u) (gY_goal u) (gY_words u) (gY_maps u) (gY_coded u) (gY_linked u) (gY_heights u) (gY_kinds u) (gY_behind u) (gY_of u) (gY_fields u) (gY_globals u) (gY_marked u) (gY_method u) (gY_at u) (gY_high u) (gY_locals u) (gY_stack u)
theorem uY_field_46 {post : SY → Prop} {x4 : Int32}  {u : SY} (h : ((x4 = 0 → (kY_field_57 post 2 u)) ∧ (¬ x4 = 0 → (kY_field_57 post 3 u)))) : kY_field_46 post x4 u := h
def kY_field_105 (post : SY → Prop)  (u : SY) : Prop := wY_field_105 post (gY_fault u) (gY_height u) (gY_used u) (gY_depth u) (gY_room u) (gY_steps u) (gY_origin u) (gY_answer u) (gY_collections u) (gY_stayed u) (gY_codes u) (gY_links u) (gY_result u) (gY_up u) (gY_ints u) (gY_references u) (gY_slots u) (gY_first u) (gY_ready u) (gY_ops u) (gY_args u) (gY_length u) (gY_from u) (gY_to u) (gY_goal u) (gY_words u) (gY_maps u) (gY_coded u) (gY_linked u) (gY_heights u) (gY_kinds u) (gY_behind u) (gY_of u) (gY_fields u) (gY_globals u) (gY_marked u) (gY_method u) (gY_at u) (gY_high u) (gY_locals u) (gY_stack u)
theorem uY_field_105 {post : SY → Prop}  {u : SY} (h : vp_in ((gY_depth u) - 1) 14 ∧ (vp_in ((gY_depth u) - 1) 14 ∧ ∀ a_at_139 : Nat → Int32 , a_at_139 = upd (gY_at u) ((gY_depth u) - 1).toNatClampNeg (((gY_at u) ((gY_depth u) - 1).toNatClampNeg) + 1) → (post (sY_at a_at_139 u)))) : kY_field_105 post u := h
def kY_field_14 (post : SY → Prop) (x1 : Int32) (x2 : Int32) (z0 : Int32)  (u : SY) : Prop := wY_field_14 post x1 x2 z0 (gY_fault u) (gY_height u) (gY_used u) (gY_depth u) (gY_room u) (gY_steps u) (gY_origin u) (gY_answer u) (gY_collections u) (gY_stayed u) (gY_codes u) (gY_links u) (gY_result u) (gY_up u) (gY_ints u) (gY_references u) (gY_slots u) (gY_first u) (gY_ready u) (gY_ops u) (gY_args u) (gY_length u) (gY_from u) (gY_to u) (gY_goal u) (gY_words u) (gY_maps u) (gY_coded u) (gY_linked u) (gY_heights u) (gY_kinds u) (gY_behind u) (gY_of u) (gY_fields u) (gY_globals u) (gY_marked u) (gY_method u) (gY_at u) (gY_high u) (gY_locals u) (gY_stack u)
theorem uY_field_14 {post : SY → Prop} {x1 : Int32} {x2 : Int32} {z0 : Int32}  {u : SY} (h : wpY_pop (fun r_2 u1 => (((r_2 = 0 → (kY_field_46 post r_2 u1)) ∧ (¬ r_2 = 0 → (vp_in r_2 49 ∧ (¬ (16 : Int32) = 0 ∧ (wpY_isBelow (fun r_90 => (((r_90 = 0 → (kY_field_46 post r_2 u1)) ∧ (¬ r_90 = 0 → (((x1 = 13 → (¬ (16 : Int32) = 0 ∧ (vp_in ((16 * r_2) + (x2 - x2 / 16 * 16)) 784 ∧ (wpY_push (fun u2 => (kY_field_105 post u2)) u1 ((gY_fields u1) ((16 * r_2) + (x2 - x2 / 16 * 16)).toNatClampNeg))))) ∧ (¬ x1 = 13 → (¬ (16 : Int32) = 0 ∧ (vp_in ((16 * r_2) + (x2 - x2 / 16 * 16)) 784 ∧ ∀ a_fields_136 : Nat → Int32 , a_fields_136 = upd (gY_fields u1) ((16 * r_2) + (x2 - x2 / 16 * 16)).toNatClampNeg z0 → (kY_field_105 post (sY_fields a_fields_136 u1))))))))))) u1 (((gY_of u1) r_2.toNatClampNeg) - 1) (x2 / 16)))))))) u) : kY_field_14 post x1 x2 z0 u := h
theorem upY_field {post : SY → Prop} {u : SY} {p0 : Int32} {p1 : Int32} (h : ((p0 = 14 → (wpY_pop (fun r_184 u1 => (kY_field_14 post p0 p1 r_184 u1)) u)) ∧ (¬ p0 = 14 → (kY_field_14 post p0 p1 0 u)))) : wpY_field post u p0 p1 := h
def kY_calculate_90 (post : SY → Prop) (z0 : Int32)  (u : SY) : Prop := wY_calculate_90 post z0 (gY_fault u) (gY_height u) (gY_used u) (gY_depth u) (gY_room u) (gY_steps u) (gY_origin u) (gY_answer u) (gY_collections u) (gY_stayed u) (gY_codes u) (gY_links u) (gY_result u) (gY_up u) (gY_ints u) (gY_references u) (gY_slots u) (gY_first u) (gY_ready u) (gY_ops u) (gY_args u) (gY_length u) (gY_from u) (gY_to u) (gY_goal u) (gY_words u) (gY_maps u) (gY_coded u) (gY_linked u) (gY_heights u) (gY_kinds u) (gY_behind u) (gY_of u) (gY_fields u) (gY_globals u) (gY_marked u) (gY_method u) (gY_at u) (gY_high u) (gY_locals u) (gY_stack u)
theorem uY_calculate_90 {post : SY → Prop} {z0 : Int32}  {u : SY} (h : wpY_push (fun u1 => (vp_in ((gY_depth u1) - 1) 14 ∧ (vp_in ((gY_depth u1) - 1) 14 ∧ ∀ a_at_135 : Nat → Int32 , a_at_135 = upd (gY_at u1) ((gY_depth u1) - 1).toNatClampNeg (((gY_at u1) ((gY_depth u1) - 1).toNatClampNeg) + 1) → (post (sY_at a_at_135 u1))))) u z0) : kY_calculate_90 post z0 u := h
def kY_calculate_26 (post : SY → Prop) (x1 : Int32) (x2 : Int32) (x3 : Int32)  (u : SY) : Prop := wY_calculate_26 post x1 x2 x3 (gY_fault u) (gY_height u) (gY_used u) (gY_depth u) (gY_room u) (gY_steps u) (gY_origin u) (gY_answer u) (gY_collections u) (gY_stayed u) (gY_codes u) (gY_links u) (gY_result u) (gY_up u) (gY_ints u) (gY_references u) (gY_slots u) (gY_first u) (gY_ready u) (gY_ops u) (gY_args u) (gY_length u) (gY_from u) (gY_to u) (gY_goal u) (gY_words u) (gY_maps u) (gY_coded u) (gY_linked u) (gY_heights u) (gY_kinds u) (gY_behind u) (gY_of u) (gY_fields u) (gY_globals u) (gY_marked u) (gY_method u) (gY_at u) (gY_high u) (gY_locals u) (gY_stack u)
theorem uY_calculate_26 {post : SY → Prop} {x1 : Int32} {x2 : Int32} {x3 : Int32}  {u : SY} (h : ((x1 = 4 → (kY_calculate_90 post (x3 + x2) u)) ∧ (¬ x1 = 4 → (((x1 = 5 → (kY_calculate_90 post (x3 - x2) u)) ∧ (¬ x1 = 5 → (((x1 = 6 → (¬ x2 = 0 ∧ (kY_calculate_90 post (x3 / x2) u))) ∧ (¬ x1 = 6 → (((x1 = 7 → (((x2 ≤ x3 → (kY_calculate_90 post 0 u)) ∧ (¬ x2 ≤ x3 → (kY_calculate_90 post 1 u))))) ∧ (¬ x1 = 7 → (((x3 = x2 → (kY_calculate_90 post 1 u)) ∧ (¬ x3 = x2 → (kY_calculate_90 post 0 u)))))))))))))))) : kY_calculate_26 post x1 x2 x3 u := h
theorem upY_calculate {post : SY → Prop} {u : SY} {p0 : Int32} (h : wpY_pop (fun r_1 u1 => (wpY_pop (fun r_43 u2 => (((p0 = 6 → (((r_1 = 0 → (wpY_raise (fun u3 => (post u3)) u2 1)) ∧ (¬ r_1 = 0 → (kY_calculate_26 post p0 r_1 r_43 u2))))) ∧ (¬ p0 = 6 → (kY_calculate_26 post p0 r_1 r_43 u2))))) u1)) u) : wpY_calculate post u p0 := h
def kY_plain_192 (post : SY → Prop) (x1 : Int32) (x3 : Int32) (x4 : Int32)  (u : SY) : Prop := wY_plain_192 post x1 x3 x4 (gY_fault u) (gY_height u) (gY_used u) (gY_depth u) (gY_room u) (gY_steps u) (gY_origin u) (gY_answer u) (gY_collections u) (gY_stayed u) (gY_codes u) (gY_links u) (gY_result u) (gY_up u) (gY_ints u) (gY_references u) (gY_slots u) (gY_first u) (gY_ready u) (gY_ops u) (gY_args u) (gY_length u) (gY_from u) (gY_to u) (gY_goal u) (gY_words u) (gY_maps u) (gY_coded u) (gY_linked u) (gY_heights u) (gY_kinds u) (gY_behind u) (gY_of u) (gY_fields u) (gY_globals u) (gY_marked u) (gY_method u) (gY_at u) (gY_high u) (gY_locals u) (gY_stack u)
theorem uY_plain_192 {post : SY → Prop} {x1 : Int32} {x3 : Int32} {x4 : Int32}  {u : SY} (h : ((x4 = 0 → (vp_in x1 14 ∧ ∀ a_at_148 : Nat → Int32 , a_at_148 = upd (gY_at u) x1.toNatClampNeg x3 → (post (sY_at a_at_148 u)))) ∧ (¬ x4 = 0 → (post u)))) : kY_plain_192 post x1 x3 x4 u := h
def kY_plain_247 (post : SY → Prop) (z0 : Int32)  (u : SY) : Prop := wY_plain_247 post z0 (gY_fault u) (gY_height u) (gY_used u) (gY_depth u) (gY_room u) (gY_steps u) (gY_origin u) (gY_answer u) (gY_collections u) (gY_stayed u) (gY_codes u) (gY_links u) (gY_result u) (gY_up u) (gY_ints u) (gY_references u) (gY_slots u) (gY_first u) (gY_ready u) (gY_ops u) (gY_args u) (gY_length u) (gY_from u) (gY_to u) (gY_goal u) (gY_words u) (gY_maps u) (gY_coded u) (gY_linked u) (gY_heights u) (gY_kinds u) (gY_behind u) (gY_of u) (gY_fields u) (gY_globals u) (gY_marked u) (gY_method u) (gY_at u) (gY_high u) (gY_locals u) (gY_stack u)
theorem uY_plain_247 {post : SY → Prop} {z0 : Int32}  {u : SY} (h : wpY_push (fun u1 => (post u1)) u z0) : kY_plain_247 post z0 u := h
def kY_plain_234 (post : SY → Prop) (z0 : Int32)  (u : SY) : Prop := wY_plain_234 post z0 (gY_fault u) (gY_height u) (gY_used u) (gY_depth u) (gY_room u) (gY_steps u) (gY_origin u) (gY_answer u) (gY_collections u) (gY_stayed u) (gY_codes u) (gY_links u) (gY_result u) (gY_up u) (gY_ints u) (gY_references u) (gY_slots u) (gY_first u) (gY_ready u) (gY_ops u) (gY_args u) (gY_length u) (gY_from u) (gY_to u) (gY_goal u) (gY_words u) (gY_maps u) (gY_coded u) (gY_linked u) (gY_heights u) (gY_kinds u) (gY_behind u) (gY_of u) (gY_fields u) (gY_globals u) (gY_marked u) (gY_method u) (gY_at u) (gY_high u) (gY_locals u) (gY_stack u)
theorem uY_plain_234 {post : SY → Prop} {z0 : Int32}  {u : SY} (h : ((z0 = 0 → (kY_plain_247 post 0 u)) ∧ (¬ z0 = 0 → (kY_plain_247 post 1 u)))) : kY_plain_234 post z0 u := h
def kY_plain_233 (post : SY → Prop)  (u : SY) : Prop := wY_plain_233 post (gY_fault u) (gY_height u) (gY_used u) (gY_depth u) (gY_room u) (gY_steps u) (gY_origin u) (gY_answer u) (gY_collections u) (gY_stayed u) (gY_codes u) (gY_links u) (gY_result u) (gY_up u) (gY_ints u) (gY_references u) (gY_slots u) (gY_first u) (gY_ready u) (gY_ops u) (gY_args u) (gY_length u) (gY_from u) (gY_to u) (gY_goal u) (gY_words u) (gY_maps u) (gY_coded u) (gY_linked u) (gY_heights u) (gY_kinds u) (gY_behind u) (gY_of u) (gY_fields u) (gY_globals u) (gY_marked u) (gY_method u) (gY_at u) (gY_high u) (gY_locals u) (gY_stack u)
theorem uY_plain_233 {post : SY → Prop}  {u : SY} (h : kY_plain_234 post 0 u) : kY_plain_233 post u := h
def kY_plain_17 (post : SY → Prop) (x1 : Int32) (x2 : Int32) (x3 : Int32) (z0 : Int32)  (u : SY) : Prop := wY_plain_17 post x1 x2 x3 z0 (gY_fault u) (gY_height u) (gY_used u) (gY_depth u) (gY_room u) (gY_steps u) (gY_origin u) (gY_answer u) (gY_collections u) (gY_stayed u) (gY_codes u) (gY_links u) (gY_result u) (gY_up u) (gY_ints u) (gY_references u) (gY_slots u) (gY_first u) (gY_ready u) (gY_ops u) (gY_args u) (gY_length u) (gY_from u) (gY_to u) (gY_goal u) (gY_words u) (gY_maps u) (gY_coded u) (gY_linked u) (gY_heights u) (gY_kinds u) (gY_behind u) (gY_of u) (gY_fields u) (gY_globals u) (gY_marked u) (gY_method u) (gY_at u) (gY_high u) (gY_locals u) (gY_stack u)
theorem uY_plain_17 {post : SY → Prop} {x1 : Int32} {x2 : Int32} {x3 : Int32} {z0 : Int32}  {u : SY} (h : ((x2 < 0 → (post u)) ∧ (¬ x2 < 0 → (((23 < x2 → (post u)) ∧ (¬ 23 < x2 → (((x2 = 0 → (wpY_push (fun u1 => (post u1)) u x3)) ∧ (¬ x2 = 0 → (((x2 = 1 → (wpY_push (fun u2 => (post u2)) u 0)) ∧ (¬ x2 = 1 → (((x2 = 2 → (vp_in ((6 * x1) + x3) 84 ∧ (wpY_push (fun u3 => (post u3)) u ((gY_locals u) ((6 * x1) + x3).toNatClampNeg)))) ∧ (¬ x2 = 2 → (((x2 = 3 → (vp_in ((6 * x1) + x3) 84 ∧ ∀ a_locals_137 : Nat → Int32 , a_locals_137 = upd (gY_locals u) ((6 * x1) + x3).toNatClampNeg z0 → (post (sY_locals a_locals_137 u)))) ∧ (¬ x2 = 3 → (((x2 = 4 → (post u)) ∧ (¬ x2 = 4 → (((x2 = 5 → (post u)) ∧ (¬ x2 = 5 → (((x2 = 6 → (post u)) ∧ (¬ x2 = 6 → (((x2 = 7 → (post u)) ∧ (¬ x2 = 7 → (((x2 = 8 → (vp_in x1 14 ∧ ∀ a_at_144 : Nat → Int32 , a_at_144 = upd (gY_at u) x1.toNatClampNeg x3 → (post (sY_at a_at_144 u)))) ∧ (¬ x2 = 8 → (((x2 = 9 → (kY_plain_192 post x1 x3 z0 u)) ∧ (¬ x2 = 9 → (((x2 = 10 → (kY_plain_192 post x1 x3 z0 u)) ∧ (¬ x2 = 10 → (((x2 = 11 → (post u)) ∧ (¬ x2 = 11 → (((x2 = 12 → (post u)) ∧ (¬ x2 = 12 → (((x2 = 13 → (post u)) ∧ (¬ x2 = 13 → (((x2 = 14 → (post u)) ∧ (¬ x2 = 14 → (((x2 = 15 → (((z0 ≤ 0 → (kY_plain_233 post u)) ∧ (¬ z0 ≤ 0 → (vp_in z0 49 ∧ (wpY_isBelow (fun r_200 => (((r_200 = 0 → (kY_plain_233 post u)) ∧ (¬ r_200 = 0 → (kY_plain_234 post 1 u))))) u (((gY_of u) z0.toNatClampNeg) - 1) x3)))))) ∧ (¬ x2 = 15 → (((x2 = 16 → (post u)) ∧ (¬ x2 = 16 → (((x2 = 17 → (post u)) ∧ (¬ x2 = 17 → (((x2 = 18 → (post u)) ∧ (¬ x2 = 18 → (((x2 = 19 → (post u)) ∧ (¬ x2 = 19 → (((x2 = 20 → (wpY_push (fun u4 => (wpY_push (fun u5 => (post u5)) u4 z0)) u z0)) ∧ (¬ x2 = 20 → (((x2 = 21 → (post u)) ∧ (¬ x2 = 21 → (((x2 = 22 → (vp_in x3 4 ∧ (wpY_push (fun u6 => (post u6)) u ((gY_globals u) x3.toNatClampNeg)))) ∧ (¬ x2 = 22 → (((x2 = 23 → (vp_in x3 4 ∧ ∀ a_globals_379 : Nat → Int32 , a_globals_379 = upd (gY_globals u) x3.toNatClampNeg z0 → (post (sY_globals a_globals_379 u)))) ∧ (¬ x2 = 23 → (True))))))))))))))))))))))))))))))))))))))))))))))))))))))))))))))))))))))))))))))) : kY_plain_17 post x1 x2 x3 z0 u := h
theorem upY_plain {post : SY → Prop} {u : SY} {p0 : Int32} {p1 : Int32} {p2 : Int32} (h : wpY_pops (fun r_1 => (((r_1 = 1 → (wpY_pop (fun r_380 u1 => (kY_plain_17 post p0 p1 p2 r_380 u1)) u)) ∧ (¬ r_1 = 1 → (kY_plain_17 post p0 p1 p2 0 u))))) p1 p2) : wpY_plain post u p0 p1 p2 := h
def kY_step_101 (post : SY → Prop) (x3 : Int32) (x4 : Int32)  (u : SY) : Prop := wY_step_101 post x3 x4 (gY_fault u) (gY_height u) (gY_used u) (gY_depth u) (gY_room u) (gY_steps u) (gY_origin u) (gY_answer u) (gY_collections u) (gY_stayed u) (gY_codes u) (gY_links u) (gY_result u) (gY_up u) (gY_ints u) (gY_references u) (gY_slots u) (gY_first u) (gY_ready u) (gY_ops u) (gY_args u) (gY_length u) (gY_from u) (gY_to u) (gY_goal u) (gY_words u) (gY_maps u) (gY_coded u) (gY_linked u) (gY_heights u) (gY_kinds u) (gY_behind u) (gY_of u) (gY_fields u) (gY_globals u) (gY_marked u) (gY_method u) (gY_at u) (gY_high u) (gY_locals u) (gY_stack u)
theorem uY_step_101 {post : SY → Prop} {x3 : Int32} {x4 : Int32}  {u : SY} (h : wpY_field (fun u1 => (post u1)) u x3 x4) : kY_step_101 post x3 x4 u := h
def kY_step_154 (post : SY → Prop) (x3 : Int32)  (u : SY) : Prop := wY_step_154 post x3 (gY_fault u) (gY_height u) (gY_used u) (gY_depth u) (gY_room u) (gY_steps u) (gY_origin u) (gY_answer u) (gY_collections u) (gY_stayed u) (gY_codes u) (gY_links u) (gY_result u) (gY_up u) (gY_ints u) (gY_references u) (gY_slots u) (gY_first u) (gY_ready u) (gY_ops u) (gY_args u) (gY_length u) (gY_from u) (gY_to u) (gY_goal u) (gY_words u) (gY_maps u) (gY_coded u) (gY_linked u) (gY_heights u) (gY_kinds u) (gY_behind u) (gY_of u) (gY_fields u) (gY_globals u) (gY_marked u) (gY_method u) (gY_at u) (gY_high u) (gY_locals u) (gY_stack u)
theorem uY_step_154 {post : SY → Prop} {x3 : Int32}  {u : SY} (h : wpY_pop (fun r_60 u1 => (((x3 = 18 → (wpY_leave (fun u2 => (post u2)) u1 r_60)) ∧ (¬ x3 = 18 → (wpY_raise (fun u3 => (post u3)) u1 r_60))))) u) : kY_step_154 post x3 u := h
def kY_step_66 (post : SY → Prop) (x3 : Int32)  (u : SY) : Prop := wY_step_66 post x3 (gY_fault u) (gY_height u) (gY_used u) (gY_depth u) (gY_room u) (gY_steps u) (gY_origin u) (gY_answer u) (gY_collections u) (gY_stayed u) (gY_codes u) (gY_links u) (gY_result u) (gY_up u) (gY_ints u) (gY_references u) (gY_slots u) (gY_first u) (gY_ready u) (gY_ops u) (gY_args u) (gY_length u) (gY_from u) (gY_to u) (gY_goal u) (gY_words u) (gY_maps u) (gY_coded u) (gY_linked u) (gY_heights u) (gY_kinds u) (gY_behind u) (gY_of u) (gY_fields u) (gY_globals u) (gY_marked u) (gY_method u) (gY_at u) (gY_high u) (gY_locals u) (gY_stack u)
theorem uY_step_66 {post : SY → Prop} {x3 : Int32}  {u : SY} (h : wpY_calculate (fun u1 => (post u1)) u x3) : kY_step_66 post x3 u := h
def kY_step_60 (post : SY → Prop) (x1 : Int32) (x2 : Int32) (x3 : Int32) (x4 : Int32)  (u : SY) : Prop := wY_step_60 post x1 x2 x3 x4 (gY_fault u) (gY_height u) (gY_used u) (gY_depth u) (gY_room u) (gY_steps u) (gY_origin u) (gY_answer u) (gY_collections u) (gY_stayed u) (gY_codes u) (gY_links u) (gY_result u) (gY_up u) (gY_ints u) (gY_references u) (gY_slots u) (gY_first u) (gY_ready u) (gY_ops u) (gY_args u) (gY_length u) (gY_from u) (gY_to u) (gY_goal u) (gY_words u) (gY_maps u) (gY_coded u) (gY_linked u) (gY_heights u) (gY_kinds u) (gY_behind u) (gY_of u) (gY_fields u) (gY_globals u) (gY_marked u) (gY_method u) (gY_at u) (gY_high u) (gY_locals u) (gY_stack u)
theorem uY_step_60 {post : SY → Prop} {x1 : Int32} {x2 : Int32} {x3 : Int32} {x4 : Int32}  {u : SY} (h : ((x3 = 11 → (kY_step_66 post x3 u)) ∧ (¬ x3 = 11 → (((x3 = 12 → (wpY_create1 (fun u1 => (post u1)) u x4)) ∧ (¬ x3 = 12 → (((x3 = 13 → (kY_step_101 post x3 x4 u)) ∧ (¬ x3 = 13 → (((x3 = 14 → (kY_step_101 post x3 x4 u)) ∧ (¬ x3 = 14 → (((x3 = 16 → (wpY_link (fun u2 => (post u2)) u x2 x4)) ∧ (¬ x3 = 16 → (((x3 = 17 → (wpY_send (fun u3 => (post u3)) u x4)) ∧ (¬ x3 = 17 → (((x3 = 18 → (kY_step_154 post x3 u)) ∧ (¬ x3 = 18 → (((x3 = 19 → (kY_step_154 post x3 u)) ∧ (¬ x3 = 19 → (vp_in x1 14 ∧ (vp_in x1 14 ∧ ∀ a_at_190 : Nat → Int32 , a_at_190 = upd (gY_at u) x1.toNatClampNeg (((gY_at u) x1.toNatClampNeg) + 1) → (wpY_plain (fun u4 => (post u4)) (sY_at a_at_190 u) x1 x3 x4))))))))))))))))))))))))))) : kY_step_60 post x1 x2 x3 x4 u := h
theorem upY_step {post : SY → Prop} {u : SY} (h : ∀ x1_1 : Int32 , x1_1 = (gY_depth u) - 1 → (vp_in x1_1 14 ∧ (vp_in x1_1 14 ∧ (∀ x2_4 : Int32 , x2_4 = (24 * ((gY_method u) x1_1.toNatClampNeg)) + ((gY_at u) x1_1.toNatClampNeg) → (vp_in x2_4 216 ∧ (∀ x3_6 : Int32 , x3_6 = (gY_ops u) x2_4.toNatClampNeg → (vp_in x2_4 216 ∧ (∀ x4_8 : Int32 , x4_8 = (gY_args u) x2_4.toNatClampNeg → (∀ f_steps_9 : Int32 , f_steps_9 = (gY_steps u) + 1 → (((8 ≤ x3_6 → (kY_step_60 post x1_1 x2_4 x3_6 x4_8 (sY_steps f_steps_9 u))) ∧ (¬ 8 ≤ x3_6 → (((3 < x3_6 → (kY_step_66 post x3_6 (sY_steps f_steps_9 u))) ∧ (¬ 3 < x3_6 → (kY_step_60 post x1_1 x2_4 x3_6 x4_8 (sY_steps f_steps_9 u))))))))))))))))) : wpY_step post u := h
def kY_run_135 (post : Int32 → SY → Prop)  (u : SY) : Prop := wY_run_135 post (gY_fault u) (gY_height u) (gY_used u) (gY_depth u) (gY_room u) (gY_steps u) (gY_origin u) (gY_answer u) (gY_collections u) (gY_stayed u) (gY_codes u) (gY_links u) (gY_result u) (gY_up u) (gY_ints u) (gY_references u) (gY_slots u) (gY_first u) (gY_ready u) (gY_ops u) (gY_args u) (gY_length u) (gY_from u) (gY_to u) (gY_goal u) (gY_words u) (gY_maps u) (gY_coded u) (gY_linked u) (gY_heights u) (gY_kinds u) (gY_behind u) (gY_of u) (gY_fields u) (gY_globals u) (gY_marked u) (gY_method u) (gY_at u) (gY_high u) (gY_locals u) (gY_stack u)
theorem uY_run_135 {post : Int32 → SY → Prop}  {u : SY} (h : (((gY_answer u) = 1 → (post (gY_answer u) (sY_depth 0 u))) ∧ (¬ (gY_answer u) = 1 → (post (gY_answer u) (sY_depth_origin 0 (- 1) u))))) : kY_run_135 post u := h
def kY_run_110 (post : Int32 → SY → Prop) (n : Nat)  (u : SY) : Prop := wY_run_110 post n (gY_fault u) (gY_height u) (gY_used u) (gY_depth u) (gY_room u) (gY_steps u) (gY_origin u) (gY_answer u) (gY_collections u) (gY_stayed u) (gY_codes u) (gY_links u) (gY_result u) (gY_up u) (gY_ints u) (gY_references u) (gY_slots u) (gY_first u) (gY_ready u) (gY_ops u) (gY_args u) (gY_length u) (gY_from u) (gY_to u) (gY_goal u) (gY_words u) (gY_maps u) (gY_coded u) (gY_linked u) (gY_heights u) (gY_kinds u) (gY_behind u) (gY_of u) (gY_fields u) (gY_globals u) (gY_marked u) (gY_method u) (gY_at u) (gY_high u) (gY_locals u) (gY_stack u)
theorem uY_run_110 {post : Int32 → SY → Prop} {n : Nat}  {u : SY} (h : (((gY_answer u) = 2 → (((1000 ≤ (gY_steps u) → (kY_run_135 post u)) ∧ (¬ 1000 ≤ (gY_steps u) → (wpY_step (fun u1 => (kY_run_110 post n u1)) u))))) ∧ (¬ (gY_answer u) = 2 → (kY_run_135 post u)))) : kY_run_110 post (n + 1) u := h
def kY_run_86 (post : Int32 → SY → Prop) (x1 : Int32) (x3 : Int32) (x4 : Int32) (z0 : Int32) (z1 : Int32)  (u : SY) : Prop := wY_run_86 post x1 x3 x4 z0 z1 (gY_fault u) (gY_height u) (gY_used u) (gY_depth u) (gY_room u) (gY_steps u) (gY_origin u) (gY_answer u) (gY_collections u) (gY_stayed u) (gY_codes u) (gY_links u) (gY_result u) (gY_up u) (gY_ints u) (gY_references u) (gY_slots u) (gY_first u) (gY_ready u) (gY_ops u) (gY_args u) (gY_length u) (gY_from u) (gY_to u) (gY_goal u) (gY_words u) (gY_maps u) (gY_coded u) (gY_linked u) (gY_heights u) (gY_kinds u) (gY_behind u) (gY_of u) (gY_fields u) (gY_globals u) (gY_marked u) (gY_method u) (gY_at u) (gY_high u) (gY_locals u) (gY_stack u)
theorem uY_run_86 {post : Int32 → SY → Prop} {x1 : Int32} {x3 : Int32} {x4 : Int32} {z0 : Int32} {z1 : Int32}  {u : SY} (h : vp_in z1 84 ∧ ∀ a_locals_94 : Nat → Int32 , a_locals_94 = upd (gY_locals u) z1.toNatClampNeg z0 → (((x1 = 7 → (vp_in x3 4 ∧ (∀ a_locals_145 : Nat → Int32 , a_locals_145 = upd a_locals_94 1 ((gY_globals u) x3.toNatClampNeg) → (∃ n110 : Nat , kY_run_110 post n110 (sY_locals a_locals_145 u))))) ∧ (¬ x1 = 7 → (∀ a_locals_97 : Nat → Int32 , a_locals_97 = upd a_locals_94 1 x4 → (∃ n110 : Nat , kY_run_110 post n110 (sY_locals a_locals_97 u))))))) : kY_run_86 post x1 x3 x4 z0 z1 u := h
theorem upY_run {post : Int32 → SY → Prop} {u : SY} {p0 : Int32} {p1 : Int32} {p2 : Int32} {p3 : Int32} (h : wpY_isBody (fun r_1 => (((r_1 = 0 → (post (- 1) u)) ∧ (¬ r_1 = 0 → (wpY_in (fun r_44 => (((r_44 = 0 → (post (- 1) u)) ∧ (¬ r_44 = 0 → (wpY_in (fun r_46 => (((r_46 = 0 → (post (- 1) u)) ∧ (¬ r_46 = 0 → (wpY_enter (fun r_48 u1 => (vp_in p1 4 ∧ (∀ x5_91 : Int32 , x5_91 = (gY_globals u1) p1.toNatClampNeg → (((2 ≤ p0 → (kY_run_86 post p0 p2 p3 x5_91 0 u1)) ∧ (¬ 2 ≤ p0 → (kY_run_86 post p0 p2 p3 p3 0 u1))))))) (sY_depth_room_steps_answer_result 0 0 0 2 10000000000 u) p0))))) p2 0 3))))) p1 0 3))))) u p0) : wpY_run post u p0 p1 p2 p3 := h
theorem upY_result {post : Int64 → Prop} {u : SY} (h : post (gY_result u)) : wpY_result post u := h
theorem upY_origin {post : Int32 → Prop} {u : SY} (h : post (gY_origin u)) : wpY_origin post u := h
theorem upY_isObject {post : Int32 → Prop} {u : SY} {p0 : Int32} (h : wpY_in (fun r_1 => (((r_1 = 0 → (post 0)) ∧ (¬ r_1 = 0 → (vp_in p0 4 ∧ (((((gY_globals u) p0.toNatClampNeg) ≤ 0 → (post 0)) ∧ (¬ ((gY_globals u) p0.toNatClampNeg) ≤ 0 → (post 1))))))))) p0 0 3) : wpY_isObject post u p0 := h
theorem upY_look {post : Int64 → Prop} {u : SY} {p0 : Int32} {p1 : Int32} (h : wpY_isObject (fun r_1 => (((r_1 = 0 → (post 10000000000)) ∧ (¬ r_1 = 0 → (vp_in p0 4 ∧ (∀ x3_45 : Int32 , x3_45 = (gY_globals u) p0.toNatClampNeg → (vp_in x3_45 49 ∧ (∀ x4_47 : Int32 , x4_47 = ((gY_of u) x3_45.toNatClampNeg) - 1 → (wpY_total (fun r_48 => (wpY_in (fun r_90 => (((r_90 = 0 → (post 10000000000)) ∧ (¬ r_90 = 0 → (((p1 = 0 → (post x4_47.toInt64)) ∧ (¬ p1 = 0 → (vp_in (((16 * x3_45) + p1) - 1) 784 ∧ (∀ x6_94 : Int32 , x6_94 = (gY_fields u) (((16 * x3_45) + p1) - 1).toNatClampNeg → (wpY_kindOf (fun r_95 => (((r_95 = 1 → (post x6_94.toInt64)) ∧ (¬ r_95 = 1 → (vp_in x6_94 49 ∧ (post ((((gY_of u) x6_94.toNatClampNeg) - 1).toInt64))))))) u x4_47 (p1 - 1))))))))))) p1 0 r_48)) u x4_47))))))))) u p0) : wpY_look post u p0 p1 := h
theorem upY_go {post : Int32 → SY → Prop} {u : SY} {p0 : Int32} {p1 : Int32} (h : wpY_isObject (fun r_1 => (((r_1 = 0 → (post 0 u)) ∧ (¬ r_1 = 0 → (vp_in p0 4 ∧ (∀ x3_45 : Int32 , x3_45 = (gY_globals u) p0.toNatClampNeg → (vp_in x3_45 49 ∧ (wpY_total (fun r_47 => (wpY_in (fun r_89 => (((r_89 = 0 → (post 0 u)) ∧ (¬ r_89 = 0 → (vp_in x3_45 49 ∧ (wpY_kindOf (fun r_92 => (((r_92 = 1 → (post 0 u)) ∧ (¬ r_92 = 1 → (vp_in ((16 * x3_45) + p1) 784 ∧ (vp_in p0 4 ∧ ∀ a_globals_137 : Nat → Int32 , a_globals_137 = upd (gY_globals u) p0.toNatClampNeg ((gY_fields u) ((16 * x3_45) + p1).toNatClampNeg) → (post 1 (sY_globals a_globals_137 u)))))))) u (((gY_of u) x3_45.toNatClampNeg) - 1) p1)))))) p1 0 (r_47 - 1))) u (((gY_of u) x3_45.toNatClampNeg) - 1))))))))) u p0) : wpY_go post u p0 p1 := h
theorem upY_set {post : Int32 → SY → Prop} {u : SY} {p0 : Int32} {p1 : Int32} (h : wpY_in (fun r_1 => (((r_1 = 0 → (post 0 u)) ∧ (¬ r_1 = 0 → (wpY_in (fun r_3 => (((r_3 = 0 → (post 0 u)) ∧ (¬ r_3 = 0 → (((0 ≤ p1 → (vp_in p1 4 ∧ (vp_in p0 4 ∧ ∀ a_globals_8 : Nat → Int32 , a_globals_8 = upd (gY_globals u) p0.toNatClampNeg ((gY_globals u) p1.toNatClampNeg) → (post 1 (sY_globals a_globals_8 u))))) ∧ (¬ 0 ≤ p1 → (vp_in p0 4 ∧ ∀ a_globals_10 : Nat → Int32 , a_globals_10 = upd (gY_globals u) p0.toNatClampNeg 0 → (post 1 (sY_globals a_globals_10 u)))))))))) p1 (- 1) 3))))) p0 0 3) : wpY_set post u p0 p1 := h
def kY_count_78 (post : Int32 → Prop) (n : Nat) (x2 : Int32) (x3 : Int32) (u : SY) : Prop := wY_count_78 post (gY_fault u) (gY_height u) (gY_used u) (gY_depth u) (gY_room u) (gY_steps u) (gY_origin u) (gY_answer u) (gY_collections u) (gY_stayed u) (gY_codes u) (gY_links u) (gY_result u) (gY_up u) (gY_ints u) (gY_references u) (gY_slots u) (gY_first u) (gY_ready u) (gY_ops u) (gY_args u) (gY_length u) (gY_from u) (gY_to u) (gY_goal u) (gY_words u) (gY_maps u) (gY_coded u) (gY_linked u) (gY_heights u) (gY_kinds u) (gY_behind u) (gY_of u) (gY_fields u) (gY_globals u) (gY_marked u) (gY_method u) (gY_at u) (gY_high u) (gY_locals u) (gY_stack u) n x2 x3
theorem uY_count_78 {post : Int32 → Prop} {n : Nat} {x2 : Int32} {x3 : Int32} {u : SY} (h : ((4 ≤ x3 → (post x2)) ∧ (¬ 4 ≤ x3 → (vp_in x3 4 ∧ (((((gY_ready u) x3.toNatClampNeg) = 0 → (∀ x3_13 : Int32 , x3_13 = x3 + 1 → (kY_count_78 post n x2 x3_13 u))) ∧ (¬ ((gY_ready u) x3.toNatClampNeg) = 0 → (∀ x2_14 : Int32 , x2_14 = x2 ||| ((1 : Int32) <<< (x3 &&& 31)) → (∀ x3_15 : Int32 , x3_15 = x3 + 1 → (kY_count_78 post n x2_14 x3_15 u)))))))))) : kY_count_78 post (n + 1) x2 x3 u := h
theorem upY_count {post : Int32 → Prop} {u : SY} {p0 : Int32} (h : ((p0 < 0 → (post (- 1))) ∧ (¬ p0 < 0 → (((6 < p0 → (post (- 1))) ∧ (¬ 6 < p0 → (((p0 = 0 → (post (gY_steps u))) ∧ (¬ p0 = 0 → (((p0 = 1 → (post (gY_collections u))) ∧ (¬ p0 = 1 → (((p0 = 2 → (post (gY_stayed u))) ∧ (¬ p0 = 2 → (((p0 = 3 → (post (gY_used u))) ∧ (¬ p0 = 3 → (((p0 = 4 → (post (gY_codes u))) ∧ (¬ p0 = 4 → (((p0 = 5 → (post (gY_links u))) ∧ (¬ p0 = 5 → (((p0 = 6 → (∃ n78 : Nat , kY_count_78 post n78 0 0 u)) ∧ (¬ p0 = 6 → (True)))))))))))))))))))))))))))) : wpY_count post u p0 := h
end
section
/-! small values: truth as an int, ranges, bits, the tables of the instructions -/
def sY_height_kinds_behind (w0 : Int32) (w1 : Nat → Int32) (w2 : Nat → Int32) (u : SY) : SY := (gY_fault u, w0, gY_used u, gY_depth u, gY_room u, gY_steps u, gY_origin u, gY_answer u, gY_collections u, gY_stayed u, gY_codes u, gY_links u, gY_result u, gY_up u, gY_ints u, gY_references u, gY_slots u, gY_first u, gY_ready u, gY_ops u, gY_args u, gY_length u, gY_from u, gY_to u, gY_goal u, gY_words u, gY_maps u, gY_coded u, gY_linked u, gY_heights u, w1, w2, gY_of u, gY_fields u, gY_globals u, gY_marked u, gY_method u, gY_at u, gY_high u, gY_locals u, gY_stack u)
noncomputable def zp (p : Prop) : Int32 := @ite Int32 p (Classical.propDecidable p) 1 0
theorem zp_t {p : Prop} (h : p) : zp p = 1 := if_pos h
theorem zp_f {p : Prop} (h : ¬ p) : zp p = 0 := if_neg h
theorem zp_c {p q : Prop} (h : p ↔ q) : zp p = zp q := by rw [propext h]
theorem zp_01 (p : Prop) : zp p = 0 ∨ zp p = 1 := by
  by_cases h : p
  · exact Or.inr (zp_t h)
  · exact Or.inl (zp_f h)
theorem zp_n (p : Prop) : narrow .boolean (.int (zp p)) = .int (zp p) := by
  rcases zp_01 p with h | h <;> rw [h] <;> rfl
theorem zp_br {p A B : Prop} (f : ¬ p → A) (g : p → B) : (zp p = 0 → A) ∧ (¬ zp p = 0 → B) := by
  by_cases h : p
  · rw [zp_t h]; exact ⟨fun z => absurd z (by decide), fun _ => g h⟩
  · rw [zp_f h]; exact ⟨fun _ => f h, fun z => absurd rfl z⟩
theorem zp_br1 {p A B : Prop} (f : ¬ p → A) (g : p → B) : (zp p = 1 → B) ∧ (¬ zp p = 1 → A) := by
  by_cases h : p
  · rw [zp_t h]; exact ⟨fun _ => g h, fun z => absurd rfl z⟩
  · rw [zp_f h]; exact ⟨fun z => absurd z (by decide), fun _ => f h⟩
theorem zp_or (p q : Prop) : zp p ||| zp q = zp (p ∨ q) := by
  by_cases h : p
  · rw [zp_t h, zp_t (Or.inl h)]
    rcases zp_01 q with e | e <;> rw [e] <;> decide
  · by_cases k : q
    · rw [zp_f h, zp_t k, zp_t (Or.inr k)]; decide
    · rw [zp_f h, zp_f k, zp_f (fun z => z.elim h k)]; decide
theorem zp_0 : (0 : Int32) = zp False := (zp_f (fun h => h)).symm
theorem zp_1 : (1 : Int32) = zp True := (zp_t trivial).symm
theorem zp_post {c : Prop} {p : Prop} {post : Int32 → Prop} (h : post (zp p)) (f : c → ¬ p) (g : ¬ c → p) : (c → post 0) ∧ (¬ c → post 1) := by
  constructor
  · intro z; rw [← zp_f (f z)]; exact h
  · intro z; rw [← zp_t (g z)]; exact h
/-- a branch by a fact that is equivalent -/
theorem br_i {c d A B : Prop} (e : c ↔ d) (f : d → A) (g : ¬ d → B) : (c → A) ∧ (¬ c → B) := ⟨fun z => f (e.mp z), fun z => g (fun w => z (e.mpr w))⟩
theorem zn_cl (n : Nat) (h : n < 2 ^ 31) : (nI n).toNatClampNeg = n := nI_clamp h
theorem zn_m1 (n : Nat) (h : n < 2 ^ 31) : ¬ nI n = -1 := by
  intro z
  have := congrArg Int32.toInt z
  rw [nI_toInt h] at this
  have e : (-1 : Int32).toInt = -1 := by decide
  omega
theorem zn_m2 (n : Nat) (h : n < 2 ^ 31) : ¬ nI n = -2 := by
  intro z
  have := congrArg Int32.toInt z
  rw [nI_toInt h] at this
  have e : (-2 : Int32).toInt = -2 := by decide
  omega
theorem zn_le2 (n : Nat) (h : n < 2 ^ 31) : ¬ nI n ≤ -2 := by
  intro z
  rw [Int32.le_iff_toInt_le, nI_toInt h] at z
  have e : (-2 : Int32).toInt = -2 := by decide
  omega
/-! bits -/
theorem zb_1 : ∀ i, i < 32 → bt 1 i = decide (i = 0) := by decide
theorem zb_a1 (y : Int32) : y &&& 1 = 0 ↔ bt y 0 = false := by
  constructor
  · intro h
    have e := b_and y 1 0
    rw [h, b_0, zb_1 0 (by decide)] at e
    simpa using e.symm
  · intro h
    apply b_ext
    intro i hi
    rw [b_and, b_0, zb_1 i hi]
    by_cases z : i = 0
    · subst z; rw [h]; rfl
    · simp [z]
theorem zb_a1' (y : Int32) : y &&& 1 = 1 ↔ bt y 0 = true := by
  constructor
  · intro h
    have e := b_and y 1 0
    rw [h, zb_1 0 (by decide)] at e
    simpa using e.symm
  · intro h
    apply b_ext
    intro i hi
    rw [b_and, zb_1 i hi]
    by_cases z : i = 0
    · subst z; rw [h]; rfl
    · simp [z]
theorem zb_bit (x : Int32) {j : Nat} (hj : j < 32) : (x >>> (nI j &&& 31)) &&& 1 = 0 ↔ bt x j = false := by
  rw [zb_a1, b_sshr j hj x (by decide), if_pos (by omega)]
  rfl
theorem zb_bit1 (x : Int32) {j : Nat} (hj : j < 32) : (x >>> (nI j &&& 31)) &&& 1 = 1 ↔ bt x j = true := by
  rw [zb_a1', b_sshr j hj x (by decide), if_pos (by omega)]
  rfl
theorem zb_tp (j : Nat) (hj : j < 32) (i : Nat) (hi : i < 32) : bt ((1 : Int32) <<< (nI j &&& 31)) i = decide (i = j) := by
  rw [b_shl j hj 1 hi, zb_1 _ (by omega)]
  by_cases h : i = j
  · subst h; simp
  · by_cases k : j ≤ i
    · have : ¬ i - j = 0 := by omega
      simp [h, this]
    · simp [h, k]
/-! twenty-four cases -/
theorem zo_24 {P : Nat → Prop} (h0 : P 0) (h1 : P 1) (h2 : P 2) (h3 : P 3) (h4 : P 4) (h5 : P 5) (h6 : P 6) (h7 : P 7) (h8 : P 8) (h9 : P 9) (h10 : P 10) (h11 : P 11) (h12 : P 12) (h13 : P 13) (h14 : P 14) (h15 : P 15) (h16 : P 16) (h17 : P 17) (h18 : P 18) (h19 : P 19) (h20 : P 20) (h21 : P 21) (h22 : P 22) (h23 : P 23) : ∀ o, o < 24 → P o := by
  intro o ho
  match o, ho with
  | 0, _ => exact h0
  | 1, _ => exact h1
  | 2, _ => exact h2
  | 3, _ => exact h3
  | 4, _ => exact h4
  | 5, _ => exact h5
  | 6, _ => exact h6
  | 7, _ => exact h7
  | 8, _ => exact h8
  | 9, _ => exact h9
  | 10, _ => exact h10
  | 11, _ => exact h11
  | 12, _ => exact h12
  | 13, _ => exact h13
  | 14, _ => exact h14
  | 15, _ => exact h15
  | 16, _ => exact h16
  | 17, _ => exact h17
  | 18, _ => exact h18
  | 19, _ => exact h19
  | 20, _ => exact h20
  | 21, _ => exact h21
  | 22, _ => exact h22
  | 23, _ => exact h23
  | n + 24, h => exact absurd h (by omega)
theorem zo_8 {P : Nat → Prop} (h0 : P 0) (h1 : P 1) (h2 : P 2) (h3 : P 3) (h4 : P 4) (h5 : P 5) (h6 : P 6) (h7 : P 7) : ∀ o, o < 8 → P o := by
  intro o ho
  match o, ho with
  | 0, _ => exact h0
  | 1, _ => exact h1
  | 2, _ => exact h2
  | 3, _ => exact h3
  | 4, _ => exact h4
  | 5, _ => exact h5
  | 6, _ => exact h6
  | 7, _ => exact h7
  | n + 8, h => exact absurd h (by omega)
/-! the tables: what is popped and pushed, what jumps and what goes on -/
def zt_takes (m : Nat) : Nat := if m < 2 then 1 else if m = 6 then 0 else 2
def zt_pops (o : Nat) (a : Int32) : Nat := if o = 16 then zt_takes a.toNatClampNeg else [0, 0, 0, 1, 2, 2, 2, 2, 0, 1, 1, 2, 0, 1, 2, 1, 0, 2, 1, 1, 1, 1, 0, 1].getD o 1
def zt_push (o : Nat) : Nat := [1, 1, 1, 0, 1, 1, 1, 1, 0, 0, 0, 1, 1, 1, 0, 1, 1, 1, 0, 0, 2, 0, 1, 0].getD o 1
def zt_jump (o : Nat) : Prop := o = 8 ∨ o = 9 ∨ o = 10
def zt_fall (o : Nat) : Prop := o ≠ 8 ∧ o ≠ 18 ∧ o ≠ 19
/-- bits of what a method takes: ints, references -/
def zt_ti (m : Nat) : Nat := if m < 2 then 1 else if m < 6 then 2 else 0
def zt_tr (m : Nat) : Nat := if m < 2 then 0 else if m = 6 then 0 else if m = 7 then 3 else 1
def zt_gr (m : Nat) : Prop := 4 ≤ m ∧ m ≤ 6
theorem zt_pops2 (o : Nat) (a : Int32) : zt_pops o a ≤ 2 := by
  unfold zt_pops zt_takes
  by_cases h : o < 24
  · revert o
    apply zo_24 <;> intros <;> simp <;> (repeat' split) <;> omega
  · have : ¬ o = 16 := by omega
    rw [if_neg this, List.getD_eq_getElem?_getD, List.getElem?_eq_none (by simp; omega)]
    decide
theorem xt_takes {post : Int32 → Prop} {m : Nat} (hm : m < 8) (h : post (nI (zt_takes m))) : wpX_takes post (nI m) := by
  revert h; revert m
  apply zo_8 <;> intro h <;> repeat (first | exact h | refine br_t (by decide) ?_ | refine br_f (by decide) ?_)
theorem yt_takes {post : Int32 → Prop} {m : Nat} (hm : m < 8) (h : post (nI (zt_takes m))) : wpY_takes post (nI m) := by
  revert h; revert m
  apply zo_8 <;> intro h <;> repeat (first | exact h | refine br_t (by decide) ?_ | refine br_f (by decide) ?_)
theorem xt_ti {post : Int32 → Prop} {m : Nat} (hm : m < 8) (h : post (nI (zt_ti m))) : wpX_takesInts post (nI m) := by
  revert h; revert m
  apply zo_8 <;> intro h <;> repeat (first | exact h | refine br_t (by decide) ?_ | refine br_f (by decide) ?_)
theorem xt_tr {post : Int32 → Prop} {m : Nat} (hm : m < 8) (h : post (nI (zt_tr m))) : wpX_takesRefs post (nI m) := by
  revert h; revert m
  apply zo_8 <;> intro h <;> repeat (first | exact h | refine br_t (by decide) ?_ | refine br_f (by decide) ?_)
theorem xt_gr {post : Int32 → Prop} {m : Nat} (hm : m < 8) (h : post (zp (zt_gr m))) : wpX_givesRef post (nI m) := by
  revert h; revert m
  apply zo_8 <;> intro h <;> first | rw [zp_t (by unfold zt_gr; decide)] at h | rw [zp_f (by unfold zt_gr; decide)] at h
  all_goals repeat (first | exact h | refine br_t (by decide) ?_ | refine br_f (by decide) ?_)
theorem yt_in {post : Int32 → Prop} {x a b : Int32} (h : post (zp (a ≤ x ∧ x ≤ b))) : wpY_in post x a b := by
  refine br_c (fun z => ?_) (fun z => br_c (fun w => ?_) (fun w => ?_))
  · rw [zp_f (fun q => absurd q.1 (Int32.not_le.mpr z))] at h; exact h
  · rw [zp_f (fun q => absurd q.2 (Int32.not_le.mpr w))] at h; exact h
  · rw [zp_t ⟨Int32.not_lt.mp z, Int32.not_lt.mp w⟩] at h; exact h
theorem yt_gives {post : Int32 → Prop} {m : Nat} (hm : m < 8) (h : post (if 4 ≤ m ∧ m ≤ 6 then 2 else 1)) : wpY_gives post (nI m) := by
  refine yt_in (zp_br (fun z => ?_) (fun z => ?_))
  · rw [if_neg (fun w => z ⟨nI_le w.1 (by omega), nI_le (b := 6) w.2 (by decide)⟩)] at h; exact h
  · have h1 := (nI_leI (a := 4) (b := m) (by decide) (by omega)).mp z.1
    have h2 := (nI_leI (a := m) (b := 6) (by omega) (by decide)).mp z.2
    rw [if_pos ⟨h1, h2⟩] at h; exact h
theorem xt_pops {post : Int32 → Prop} {o : Nat} {a : Int32} (ho : o < 24) (ha : o = 16 → ∃ m, m < 8 ∧ a = nI m) (h : post (nI (zt_pops o a))) : wpX_pops post (nI o) a := by
  by_cases z : o = 16
  · subst z
    obtain ⟨m, hm, rfl⟩ := ha rfl
    rw [show zt_pops 16 (nI m) = zt_takes m by unfold zt_pops; rw [if_pos rfl, nI_clamp (by omega)]] at h
    have k : wpX_takes post (nI m) := xt_takes hm h
    repeat (first | exact k | refine br_t (by decide) ?_ | refine br_f (by decide) ?_)
  · unfold zt_pops at h
    rw [if_neg z] at h
    clear ha
    revert z h; revert o
    apply zo_24 <;> intro h z <;> first | exact absurd rfl z | (repeat (first | exact h | refine br_t (by decide) ?_ | refine br_f (by decide) ?_))
theorem yt_pops {post : Int32 → Prop} {o : Nat} {a : Int32} (ho : o < 24) (ha : o = 16 → ∃ m, m < 8 ∧ a = nI m) (h : post (nI (zt_pops o a))) : wpY_pops post (nI o) a := by
  by_cases z : o = 16
  · subst z
    obtain ⟨m, hm, rfl⟩ := ha rfl
    rw [show zt_pops 16 (nI m) = zt_takes m by unfold zt_pops; rw [if_pos rfl, nI_clamp (by omega)]] at h
    have k : wpY_takes post (nI m) := yt_takes hm h
    repeat (first | exact k | refine br_t (by decide) ?_ | refine br_f (by decide) ?_)
  · unfold zt_pops at h
    rw [if_neg z] at h
    clear ha
    revert z h; revert o
    apply zo_24 <;> intro h z <;> first | exact absurd rfl z | (repeat (first | exact h | refine br_t (by decide) ?_ | refine br_f (by decide) ?_))
theorem xt_push {post : Int32 → Prop} {o : Nat} (ho : o < 24) (h : post (nI (zt_push o))) : wpX_pushes post (nI o) := by
  revert h; revert o
  apply zo_24 <;> intro h <;> repeat (first | exact h | refine br_t (by decide) ?_ | refine br_f (by decide) ?_)
theorem yt_push {post : Int32 → Prop} {o : Nat} (ho : o < 24) (h : post (nI (zt_push o))) : wpY_pushes post (nI o) := by
  revert h; revert o
  apply zo_24 <;> intro h <;> repeat (first | exact h | refine br_t (by decide) ?_ | refine br_f (by decide) ?_)
theorem xt_jump {post : Int32 → Prop} {o : Nat} (ho : o < 24) (h : post (zp (zt_jump o))) : wpX_jumps post (nI o) := by
  revert h; revert o
  apply zo_24 <;> intro h <;> first | rw [zp_t (by unfold zt_jump; decide)] at h | rw [zp_f (by unfold zt_jump; decide)] at h
  all_goals repeat (first | exact h | refine br_t (by decide) ?_ | refine br_f (by decide) ?_)
theorem xt_fall {post : Int32 → Prop} {o : Nat} (ho : o < 24) (h : post (zp (zt_fall o))) : wpX_goesOn post (nI o) := by
  revert h; revert o
  apply zo_24 <;> intro h <;> first | rw [zp_t (by unfold zt_fall; decide)] at h | rw [zp_f (by unfold zt_fall; decide)] at h
  all_goals repeat (first | exact h | refine br_t (by decide) ?_ | refine br_f (by decide) ?_)
theorem yt_fall {post : Int32 → Prop} {o : Nat} (ho : o < 24) (h : post (zp (zt_fall o))) : wpY_falls post (nI o) := by
  revert h; revert o
  apply zo_24 <;> intro h <;> first | rw [zp_t (by unfold zt_fall; decide)] at h | rw [zp_f (by unfold zt_fall; decide)] at h
  all_goals repeat (first | exact h | refine br_t (by decide) ?_ | refine br_f (by decide) ?_)
theorem yt_jump {post : Int32 → Prop} {o : Nat} (ho : o < 24) (h : post (zp (zt_jump o))) : wpY_jumps post (nI o) := by
  refine yt_in ⟨zp_n _, ?_⟩
  have e : ((8 : Int32) ≤ nI o ∧ nI o ≤ 10) ↔ zt_jump o := by
    have h1 := nI_leI (a := 8) (b := o) (by decide) (by omega)
    have h2 := nI_leI (a := o) (b := 10) (by omega) (by decide)
    constructor
    · intro z
      have := h1.mp z.1
      have := h2.mp z.2
      unfold zt_jump
      omega
    · intro z
      unfold zt_jump at z
      exact ⟨h1.mpr (by omega), h2.mpr (by omega)⟩
  rw [zp_c e]
  exact h
end
section
/-! classes: chains of SUPERs, fields -/
def zc_is (up : Nat → Int32) (p : Int32) : Prop := ∃ c, c < 4 ∧ p = nI c ∧ up c ≠ -2
/-- from k on upwards at most n classes, all of them there -/
def zc_dp (up : Nat → Int32) : Nat → Int32 → Prop
  | 0, k => k = -1
  | n + 1, k => k = -1 ∨ ∃ c, c < 4 ∧ k = nI c ∧ up c ≠ -2 ∧ zc_dp up n (up c)
def zc_cn (up : Nat → Int32) : Nat := (if up 0 = -2 then 0 else 1) + (if up 1 = -2 then 0 else 1) + (if up 2 = -2 then 0 else 1) + (if up 3 = -2 then 0 else 1)
def zc_at (f : Nat → Int32) (k : Int32) : Int32 := if k = -1 then 0 else f k.toNatClampNeg
/-- one class' own fields, over its SUPER's -/
def zc_row (up ints refs fc rf : Nat → Int32) (c : Nat) : Prop :=
  ∃ ab i r, i ≤ 2 ∧ r ≤ 2 ∧ ab ≤ 12 ∧ ints c = nI i ∧ refs c = nI r ∧ zc_at fc (up c) = nI ab ∧ fc c = nI (ab + i + r) ∧ ∀ j, j < 32 → bt (rf c) j = (bt (zc_at rf (up c)) j || decide (ab + i ≤ j ∧ j < ab + i + r))
def zc_OK (up ints refs fc rf : Nat → Int32) : Prop :=
  (∀ c, c < 4 → up c ≠ -2 → zc_dp up (zc_cn up) (nI c)) ∧ (∀ c, c < 4 → up c ≠ -2 → zc_row up ints refs fc rf c)
theorem zc_mono {up : Nat → Int32} : ∀ n k, zc_dp up n k → zc_dp up (n + 1) k := by
  intro n
  induction n with
  | zero => intro k h; exact Or.inl h
  | succ n ih =>
    intro k h
    rcases h with h | ⟨c, hc, e, h2, h3⟩
    · exact Or.inl h
    · exact Or.inr ⟨c, hc, e, h2, ih _ h3⟩
theorem zc_le {up : Nat → Int32} {n m : Nat} {k : Int32} (h : n ≤ m) (d : zc_dp up n k) : zc_dp up m k := by
  induction m with
  | zero =>
    have : n = 0 := by omega
    subst this; exact d
  | succ m ih =>
    by_cases z : n = m + 1
    · subst z; exact d
    · exact zc_mono _ _ (ih (by omega))
theorem zc_cn4 (up : Nat → Int32) : zc_cn up ≤ 4 := by
  unfold zc_cn
  repeat' split
  all_goals omega
theorem zc_d4 {up ints refs fc rf : Nat → Int32} (h : zc_OK up ints refs fc rf) {p : Int32} (i : zc_is up p) : zc_dp up 4 p := by
  obtain ⟨c, hc, rfl, h2⟩ := i
  exact zc_le (zc_cn4 up) (h.1 c hc h2)
theorem zc_dis {up : Nat → Int32} {n : Nat} {k : Int32} (h : zc_dp up n k) : k = -1 ∨ zc_is up k := by
  cases n with
  | zero => exact Or.inl h
  | succ n =>
    rcases h with h | ⟨c, hc, e, h2, _⟩
    · exact Or.inl h
    · exact Or.inr ⟨c, hc, e, h2⟩
theorem zc_up {up ints refs fc rf : Nat → Int32} (h : zc_OK up ints refs fc rf) {c : Nat} (hc : c < 4) : up c = -2 ∨ up c = -1 ∨ zc_is up (up c) := by
  by_cases z : up c = -2
  · exact Or.inl z
  · have d := zc_le (zc_cn4 up) (h.1 c hc z)
    rcases d with d | ⟨e, he, ee, h2, h3⟩
    · exact absurd d (zn_m1 _ (by omega))
    · have : c = e := (nI_eq (by omega) (by omega)).mp ee
      subst this
      exact Or.inr (zc_dis h3)
theorem zc_m1neg : (-1 : Int32) < 0 := by decide
/-- X's and Y's question whether there is a class -/
theorem x_isClass {post : Int32 → Prop} {u : SX} {p : Int32} (h : post (zp (zc_is (gX_superOf u) p))) : wpX_isClass post u p := by
  rcases pk_ix p (n := 4) (by decide) with z | z | ⟨c, hc, rfl⟩
  · rw [zp_f (fun ⟨c, hc, e, _⟩ => by rw [e] at z; exact nI_pos (by omega) z)] at h
    exact upX_isClass (br_t z h)
  · rw [zp_f (fun ⟨c, hc, e, _⟩ => by rw [e] at z; exact nI_ge hc (by decide) z)] at h
    have z0 : ¬ p < 0 := fun w => by
      have := Int32.lt_of_le_of_lt z w
      exact nI_pos (n := 4) (by decide) this
    exact upX_isClass (br_f z0 (br_t z h))
  · refine upX_isClass (br_f (nI_pos (by omega)) (br_f (nI_ge (b := 4) hc (by decide)) ⟨vp_in_nI hc (by decide), ?_⟩))
    rw [nI_clamp (by omega)]
    refine zp_post h ?_ ?_
    · rintro z ⟨c', hc', e, h2⟩
      have := (nI_eq (by omega) (by omega)).mp e
      subst this
      exact h2 z
    · intro z
      exact ⟨c, hc, rfl, z⟩
theorem y_isClass {post : Int32 → Prop} {u : SY} {p : Int32} (hu : ∀ c, c < 4 → gY_up u c = -2 ∨ gY_up u c = -1 ∨ zc_is (gY_up u) (gY_up u c)) (h : post (zp (zc_is (gY_up u) p))) : wpY_isClass post u p := by
  refine upY_isClass (yt_in (zp_br (fun z => ?_) (fun z => ?_)))
  · rw [zp_f (fun ⟨c, hc, e, _⟩ => z (by rw [e]; exact ⟨nI_pos' (by omega), nI_le (b := 3) (by omega) (by decide)⟩))] at h
    exact h
  · obtain ⟨c, hc, rfl⟩ := nI_of2 (n := 3) (M := 3) (by decide) (Int32.not_lt.mpr z.1) z.2
    refine ⟨vp_in_nI (by omega) (by decide), ?_⟩
    rw [nI_clamp (by omega)]
    refine zp_post h ?_ ?_
    · rintro z ⟨c', hc', e, h2⟩
      have := (nI_eq (by omega) (by omega)).mp e
      subst this
      rcases hu c (by omega) with w | w | ⟨d, hd, w, _⟩
      · exact h2 w
      · rw [w] at z; exact absurd z (by decide)
      · rw [w] at z; exact zn_le2 d (by omega) z
    · intro z
      exact ⟨c, by omega, rfl, fun w => z (by rw [w]; decide)⟩
/-! is k below (or is) another -/
def zc_bl (up : Nat → Int32) (over : Int32) : Nat → Int32 → Prop
  | 0, _ => False
  | n + 1, k => k ≠ -1 ∧ (k = over ∨ zc_bl up over n (up k.toNatClampNeg))
theorem x_isBelow5 {post : Int32 → Prop} {u : SX} {over : Int32} : ∀ d i k, i + d = 4 → zc_dp (gX_superOf u) d k → post (zp (zc_bl (gX_superOf u) over d k)) → kX_isBelow_5 post over (d + 1) k (nI i) u := by
  intro d
  induction d with
  | zero =>
    intro i k hi hd h
    have : i = 4 := by omega
    subst this
    rw [zp_f (show ¬ zc_bl (gX_superOf u) over 0 k from fun z => z)] at h
    exact uX_isBelow_5 (br_t (by decide) h)
  | succ d ih =>
    intro i k hi hd h
    refine uX_isBelow_5 (br_f (nI_ge (b := 4) (by omega) (by decide)) ?_)
    rcases hd with rfl | ⟨c, hc, rfl, h2, h3⟩
    · rw [zp_f (fun z => z.1 rfl)] at h
      exact br_t rfl h
    · refine br_f (zn_m1 _ (by omega)) (br_c (fun z => ?_) (fun z => ?_))
      · rw [zp_t ⟨zn_m1 _ (by omega), Or.inl z⟩] at h
        exact h
      · refine ⟨vp_in_nI hc (by decide), nm_e (nm_e ?_)⟩
        rw [nI_clamp (by omega), nI_1]
        refine ih (i + 1) _ (by omega) h3 ?_
        have e : zc_bl (gX_superOf u) over (d + 1) (nI c) ↔ zc_bl (gX_superOf u) over d (gX_superOf u c) := by
          constructor
          · rintro ⟨_, w | w⟩
            · exact absurd w z
            · rwa [nI_clamp (by omega)] at w
          · intro w
            refine ⟨zn_m1 _ (by omega), Or.inr ?_⟩
            rwa [nI_clamp (by omega)]
        rw [zp_c e] at h
        exact h
theorem x_isBelow {post : Int32 → Prop} {u : SX} {k over : Int32} (hd : zc_dp (gX_superOf u) 4 k) (h : post (zp (zc_bl (gX_superOf u) over 4 k))) : wpX_isBelow post u k over :=
  upX_isBelow ⟨5, x_isBelow5 4 0 k rfl hd h⟩
theorem y_isBelow2 {post : Int32 → Prop} {u : SY} {over : Int32} : ∀ d k, zc_dp (gY_up u) d k → post (zp (zc_bl (gY_up u) over d k)) → kY_isBelow_2 post over (d + 1) k u := by
  intro d
  induction d with
  | zero =>
    intro k hd h
    rw [zp_f (show ¬ zc_bl (gY_up u) over 0 k from fun z => z)] at h
    have hd : k = -1 := hd
    subst hd
    exact uY_isBelow_2 (br_t (by decide) h)
  | succ d ih =>
    intro k hd h
    rcases hd with rfl | ⟨c, hc, rfl, h2, h3⟩
    · rw [zp_f (fun z => z.1 rfl)] at h
      exact uY_isBelow_2 (br_t (by decide) h)
    · refine uY_isBelow_2 (br_f (nI_pos (by omega)) (br_c (fun z => ?_) (fun z => ?_)))
      · rw [zp_t ⟨zn_m1 _ (by omega), Or.inl z⟩] at h
        exact h
      · refine ⟨vp_in_nI hc (by decide), nm_e ?_⟩
        rw [nI_clamp (by omega)]
        refine ih _ h3 ?_
        have e : zc_bl (gY_up u) over (d + 1) (nI c) ↔ zc_bl (gY_up u) over d (gY_up u c) := by
          constructor
          · rintro ⟨_, w | w⟩
            · exact absurd w z
            · rwa [nI_clamp (by omega)] at w
          · intro w
            refine ⟨zn_m1 _ (by omega), Or.inr ?_⟩
            rwa [nI_clamp (by omega)]
        rw [zp_c e] at h
        exact h
theorem y_isBelow {post : Int32 → Prop} {u : SY} {k over : Int32} (hd : zc_dp (gY_up u) 4 k) (h : post (zp (zc_bl (gY_up u) over 4 k))) : wpY_isBelow post u k over :=
  upY_isBelow ⟨5, y_isBelow2 4 k hd h⟩
/-! the method for a slot -/
def zc_mf (up sl : Nat → Int32) (s : Nat) : Nat → Int32 → Int32
  | 0, _ => -1
  | n + 1, k => if k = -1 then -1 else if sl (4 * k.toNatClampNeg + s) = -1 then zc_mf up sl s n (up k.toNatClampNeg) else sl (4 * k.toNatClampNeg + s)
theorem x_methodFor5 {post : Int32 → Prop} {u : SX} {s : Nat} (hs : s < 4) : ∀ d i k, i + d = 4 → zc_dp (gX_superOf u) d k → post (zc_mf (gX_superOf u) (gX_ownMethods u) s d k) → kX_methodFor_5 post (nI s) (d + 1) k (nI i) u := by
  intro d
  induction d with
  | zero =>
    intro i k hi hd h
    have : i = 4 := by omega
    subst this
    exact uX_methodFor_5 (br_t (by decide) h)
  | succ d ih =>
    intro i k hi hd h
    refine uX_methodFor_5 (br_f (nI_ge (b := 4) (by omega) (by decide)) ?_)
    rcases hd with rfl | ⟨c, hc, rfl, h2, h3⟩
    · exact br_t rfl h
    · have n1 := zn_m1 c (by omega)
      have ix : nI c * 4 + nI s = nI (4 * c + s) := by
        rw [show (4 : Int32) = nI 4 from rfl, pk_mul, nI_add, Nat.mul_comm]
      refine br_f n1 ⟨?_, nm_e ?_⟩
      · rw [ix]; exact vp_in_nI (by omega) (by decide)
      · rw [ix, nI_clamp (by omega)]
        have e : zc_mf (gX_superOf u) (gX_ownMethods u) s (d + 1) (nI c) = if gX_ownMethods u (4 * c + s) = -1 then zc_mf (gX_superOf u) (gX_ownMethods u) s d (gX_superOf u c) else gX_ownMethods u (4 * c + s) := by
          show (if nI c = -1 then -1 else _) = _
          rw [if_neg n1, nI_clamp (by omega)]
        rw [e] at h
        refine br_c (fun z => ?_) (fun z => ?_)
        · rw [if_pos z] at h
          refine ⟨vp_in_nI hc (by decide), nm_e (nm_e ?_)⟩
          rw [nI_clamp (by omega), nI_1]
          exact ih (i + 1) _ (by omega) h3 h
        · rw [if_neg z] at h
          exact h
theorem x_methodFor {post : Int32 → Prop} {u : SX} {s : Nat} (hs : s < 4) {k : Int32} (hd : zc_dp (gX_superOf u) 4 k) (h : post (zc_mf (gX_superOf u) (gX_ownMethods u) s 4 k)) : wpX_methodFor post u k (nI s) :=
  upX_methodFor ⟨5, x_methodFor5 hs 4 0 k rfl hd h⟩
/-! totals and kinds -/
theorem zc_atc {f : Nat → Int32} {c : Nat} (hc : c < 4) : zc_at f (nI c) = f c := by
  unfold zc_at
  rw [if_neg (zn_m1 c (by omega)), nI_clamp (by omega)]
theorem zc_am1 {f : Nat → Int32} : zc_at f (-1) = 0 := if_pos rfl
theorem y_total4 {post : Int32 → Prop} {u : SY} {fc rf : Nat → Int32} (hr : ∀ c, c < 4 → gY_up u c ≠ -2 → zc_row (gY_up u) (gY_ints u) (gY_references u) fc rf c) : ∀ d acc k, zc_dp (gY_up u) d k → post (acc + zc_at fc k) → kY_total_4 post (d + 1) acc k u := by
  intro d
  induction d with
  | zero =>
    intro acc k hd h
    have hd : k = -1 := hd
    subst hd
    rw [zc_am1, Int32.add_zero] at h
    exact uY_total_4 (br_t (by decide) h)
  | succ d ih =>
    intro acc k hd h
    rcases hd with rfl | ⟨c, hc, rfl, h2, h3⟩
    · rw [zc_am1, Int32.add_zero] at h
      exact uY_total_4 (br_t (by decide) h)
    · have hi : vp_in (nI c) 4 := vp_in_nI hc (by decide)
      refine uY_total_4 (br_f (nI_pos (by omega)) ⟨hi, hi, nm_e ⟨hi, nm_e ?_⟩⟩)
      rw [nI_clamp (by omega)]
      refine ih _ _ h3 ?_
      obtain ⟨ab, i, r, _, _, _, ei, er, ea, ef, _⟩ := hr c hc h2
      rw [zc_atc hc, ef] at h
      rw [ei, er, ea, Int32.add_assoc, nI_add, nI_add, show i + r + ab = ab + i + r by omega]
      exact h
theorem y_total {post : Int32 → Prop} {u : SY} {fc rf : Nat → Int32} (hr : ∀ c, c < 4 → gY_up u c ≠ -2 → zc_row (gY_up u) (gY_ints u) (gY_references u) fc rf c) {k : Int32} (hd : zc_dp (gY_up u) 4 k) (h : post (zc_at fc k)) : wpY_total post u k :=
  upY_total ⟨5, y_total4 hr 4 0 k hd (by rw [Int32.zero_add]; exact h)⟩
/-- beyond the fields no bit is set -/
theorem zc_hi {up ints refs fc rf : Nat → Int32} (hr : ∀ c, c < 4 → up c ≠ -2 → zc_row up ints refs fc rf c) : ∀ d k, zc_dp up d k → ∃ f, f ≤ 16 ∧ zc_at fc k = nI f ∧ ∀ j, f ≤ j → j < 32 → bt (zc_at rf k) j = false := by
  intro d
  induction d with
  | zero =>
    intro k hd
    have hd : k = -1 := hd
    subst hd
    exact ⟨0, by omega, zc_am1, fun j _ _ => by rw [zc_am1, b_0]⟩
  | succ d ih =>
    intro k hd
    rcases hd with rfl | ⟨c, hc, rfl, h2, h3⟩
    · exact ⟨0, by omega, zc_am1, fun j _ _ => by rw [zc_am1, b_0]⟩
    · obtain ⟨f, hf, e, hb⟩ := ih _ h3
      obtain ⟨ab, i, r, hi, hr', hab, ei, er, ea, ef, eb⟩ := hr c hc h2
      rw [ea] at e
      have := (nI_eq (by omega) (by omega)).mp e
      subst this
      refine ⟨ab + i + r, by omega, by rw [zc_atc hc, ef], fun j hj hj2 => ?_⟩
      rw [zc_atc hc, eb j hj2, hb j (by omega) hj2]
      have : ¬ (ab + i ≤ j ∧ j < ab + i + r) := by omega
      simp [this]
theorem y_kindOf23 {post : Int32 → Prop} {u : SY} {fc rf : Nat → Int32} (hr : ∀ c, c < 4 → gY_up u c ≠ -2 → zc_row (gY_up u) (gY_ints u) (gY_references u) fc rf c) {f : Nat} (hf : f < 16) : ∀ d k c, d + 1 ≤ 4 → c < 4 → k = nI c → gY_up u c ≠ -2 → zc_dp (gY_up u) d (gY_up u c) → (∃ n, fc c = nI n ∧ f < n ∧ n < 2 ^ 31) → post (if bt (rf c) f then 2 else 1) → kY_kindOf_23 post (nI f) (d + 1) k (zc_at fc (gY_up u c)) u := by
  intro d
  induction d with
  | zero =>
    intro k c _ hc ek h2 hd hn h
    subst ek
    have hi : vp_in (nI c) 4 := vp_in_nI hc (by decide)
    obtain ⟨ab, i, r, hi2, hr2, hab, ei, er, ea, ef, eb⟩ := hr c hc h2
    have hd : gY_up u c = -1 := hd
    obtain ⟨n, en, hfn, hn⟩ := hn
    rw [ef] at en
    have := (nI_eq (by omega) hn).mp en
    rw [hd, zc_am1] at ea ⊢
    have a0 : 0 = ab := (nI_eq (by decide) (by omega)).mp ea
    subst a0
    refine uY_kindOf_23 (br_t (nI_pos' (by omega)) ⟨hi, ?_⟩)
    rw [nI_clamp (by omega), ei, Int32.sub_zero]
    have e2 := eb f (by omega)
    rw [hd, zc_am1, b_0] at e2
    refine br_i (nI_leI (by omega) (by omega)) (fun z => ?_) (fun z => ?_)
    · have : 0 + i ≤ f ∧ f < 0 + i + r := by omega
      rw [decide_eq_true this, Bool.false_or] at e2
      rw [e2] at h; exact h
    · have : ¬ (0 + i ≤ f ∧ f < 0 + i + r) := by omega
      rw [decide_eq_false this, Bool.false_or] at e2
      rw [e2] at h; exact h
  | succ d ih =>
    intro k c hd4 hc ek h2 hd hn h
    subst ek
    have hi : vp_in (nI c) 4 := vp_in_nI hc (by decide)
    obtain ⟨ab, i, r, hi2, hr2, hab, ei, er, ea, ef, eb⟩ := hr c hc h2
    obtain ⟨n, en, hfn, hn⟩ := hn
    rw [ef] at en
    have e1 := (nI_eq (by omega) hn).mp en
    obtain ⟨g, hg, eg, hgb⟩ := zc_hi hr _ _ hd
    rw [ea] at eg
    have := (nI_eq (by omega) (by omega)).mp eg
    subst this
    have e2 := eb f (by omega)
    by_cases z : ab ≤ f
    · rw [ea]
      refine uY_kindOf_23 (br_t (nI_le z (by omega)) ⟨hi, ?_⟩)
      rw [nI_clamp (by omega), ei, pk_sub z]
      rw [hgb f z (by omega)] at e2
      refine br_i (nI_leI (by omega) (by omega)) (fun z => ?_) (fun z => ?_)
      · have : ab + i ≤ f ∧ f < ab + i + r := by omega
        simp [this] at e2
        rw [e2] at h; exact h
      · have : ¬ (ab + i ≤ f ∧ f < ab + i + r) := by omega
        simp [this] at e2
        rw [e2] at h; exact h
    · rw [show zc_at fc (gY_up u c) = nI ab from ea]
      refine uY_kindOf_23 (br_f (nI_ge (by omega) (by omega)) ⟨hi, nm_e ?_⟩)
      rw [nI_clamp (by omega)]
      have hd' := hd
      rcases hd with hd | ⟨c', hc', e', h2', h3'⟩
      · rw [hd, zc_am1] at ea
        have : 0 = ab := (nI_eq (by decide) (by omega)).mp ea
        omega
      · refine y_total hr (zc_le (by omega) hd') ?_
        rw [e', zc_atc hc']
        have hi' : vp_in (nI c') 4 := vp_in_nI hc' (by decide)
        obtain ⟨ab', i', r', hi2', hr2', hab', ei', er', ea', ef', eb'⟩ := hr c' hc' h2'
        rw [e', zc_atc hc', ef'] at ea
        have e3 := (nI_eq (by omega) (by omega)).mp ea
        refine ⟨hi', hi', nm_r (e' := zc_at fc (gY_up u c')) ?_ ?_⟩
        · rw [nI_clamp (by omega), ef', ei', er', pk_sub (by omega), pk_sub (by omega), ea']
          exact congrArg nI (by omega)
        · refine ih _ c' (by omega) hc' rfl h2' h3' ⟨_, ef', by omega, by omega⟩ ?_
          have : ¬ (ab + i ≤ f ∧ f < ab + i + r) := by omega
          rw [e', zc_atc hc'] at e2
          simp [this] at e2
          rw [e2] at h; exact h
theorem y_kindOf {post : Int32 → Prop} {u : SY} {fc rf : Nat → Int32} (hr : ∀ c, c < 4 → gY_up u c ≠ -2 → zc_row (gY_up u) (gY_ints u) (gY_references u) fc rf c) {f c n : Nat} (hc : c < 4) (h2 : gY_up u c ≠ -2) (hd : zc_dp (gY_up u) 4 (nI c)) (ef : fc c = nI n) (hf : f < n) (hn : n ≤ 16) (h : post (if bt (rf c) f then 2 else 1)) : wpY_kindOf post u (nI c) (nI f) := by
  refine upY_kindOf (y_total hr hd ?_)
  rw [zc_atc hc]
  have hi : vp_in (nI c) 4 := vp_in_nI hc (by decide)
  obtain ⟨ab, i, r, hi2, hr2, hab, ei, er, ea, ef', eb⟩ := hr c hc h2
  have hd3 : zc_dp (gY_up u) 3 (gY_up u c) := by
    rcases hd with hd | ⟨c', hc', e', h2', h3'⟩
    · exact absurd hd (zn_m1 _ (by omega))
    · have := (nI_eq (by omega) (by omega)).mp e'
      subst this; exact h3'
  refine ⟨hi, hi, nm_r (e' := zc_at fc (gY_up u c)) ?_ ⟨4, y_kindOf23 hr (by omega) 3 _ c (by omega) hc rfl h2 hd3 ⟨n, ef, hf, by omega⟩ h⟩⟩
  rw [nI_clamp (by omega), ef', ei, er, pk_sub (by omega), pk_sub (by omega), ea]
  exact congrArg nI (by omega)
theorem x_isField {post : Int32 → Prop} {u : SX} {p q : Int32} (h : post (zp (zc_is (gX_superOf u) p ∧ ¬ q < 0 ∧ q < zc_at (gX_fieldCount u) p))) : wpX_isField post u p q := by
  refine upX_isField (x_isClass (zp_br (fun z => ?_) (fun z => ?_)))
  · rw [zp_f (fun w => z w.1)] at h; exact h
  · obtain ⟨c, hc, rfl, h2⟩ := id z
    refine br_c (fun w => ?_) (fun w => ⟨vp_in_nI hc (by decide), ?_⟩)
    · rw [zp_f (fun k => k.2.1 w)] at h; exact h
    · rw [nI_clamp (by omega)]
      rw [zc_atc hc] at h
      exact zp_post h (fun k j => absurd j.2.2 (Int32.not_lt.mpr k)) (fun k => ⟨z, w, Int32.not_le.mp k⟩)
theorem x_isRefField {post : Int32 → Prop} {u : SX} {c f : Nat} (hc : c < 4) (hf : f < 32) (h : post (zp (bt (gX_refFields u c) f = true))) : wpX_isRefField post u (nI c) (nI f) := by
  refine upX_isRefField ⟨vp_in_nI hc (by decide), ?_⟩
  rw [nI_clamp (by omega)]
  exact zp_post h (fun z => by rw [zb_bit _ hf] at z; rw [z]; decide) (fun z => by rw [zb_bit _ hf] at z; simpa using z)
end
section
/-! instructions and rows of the draft and of bodies -/
def zi_lim (k : Nat) : Nat := [0, 0, 6, 6, 0, 0, 0, 0, 24, 24, 24, 0, 4, 64, 64, 4, 8, 4, 0, 0, 0, 0, 4, 4].getD k 0
def zi_fit (k : Nat) (a : Int32) : Prop := zi_lim k = 0 ∨ ∃ j, j < zi_lim k ∧ a = nI j
def zi_ok (o a : Int32) : Prop := ∃ k, k < 24 ∧ o = nI k ∧ zi_fit k a
theorem zi_of {o a : Int32} (h : zi_ok o a) : o.toNatClampNeg < 24 ∧ o = nI o.toNatClampNeg ∧ zi_fit o.toNatClampNeg a := by
  obtain ⟨k, hk, rfl, hf⟩ := h
  rw [nI_clamp (by omega)]
  exact ⟨hk, rfl, hf⟩
theorem zi_fj {k : Nat} {a : Int32} (h : zi_fit k a) {L : Nat} (e : zi_lim k = L) (h0 : 0 < L) : ∃ j, j < L ∧ a = nI j := by
  rcases h with h | h
  · omega
  · rw [e] at h; exact h
theorem zi_call {k : Nat} {a : Int32} (h : zi_fit k a) : k = 16 → ∃ m, m < 8 ∧ a = nI m := fun e => by
  subst e; exact zi_fj h rfl (by decide)
theorem xi_most {post : Int32 → Prop} {k : Nat} (hk : k < 24) (h : post (if zi_lim k = 0 then -1 else nI (zi_lim k - 1))) : wpX_mostOperand post (nI k) := by
  revert h; revert k
  apply zo_24 <;> intro h <;> repeat (first | exact h | refine br_t (by decide) ?_ | refine br_f (by decide) ?_)
theorem yi_in {post : Int32 → Prop} {a b : Int32} {L : Nat} (hL : L < 100) (hb : b = nI L) (h : post (zp (∃ j, j < L + 1 ∧ a = nI j))) : wpY_in (fun r => narrow .boolean (.int r) = .int r ∧ post r) a 0 b := by
  refine yt_in ⟨zp_n _, ?_⟩
  have e : ((0 : Int32) ≤ a ∧ a ≤ b) ↔ ∃ j, j < L + 1 ∧ a = nI j := by
    constructor
    · intro z
      subst hb
      obtain ⟨j, hj, e⟩ := nI_of2 (n := L) (nI_toInt (by omega)) (Int32.not_lt.mpr z.1) z.2
      exact ⟨j, by omega, e⟩
    · rintro ⟨j, hj, rfl⟩
      subst hb
      exact ⟨nI_pos' (by omega), nI_le (by omega) (by omega)⟩
  rw [zp_c e]
  exact h
theorem yi_fits {post : Int32 → Prop} {k : Nat} {a : Int32} (hk : k < 24) (h : post (zp (zi_fit k a))) : wpY_fits post (nI k) a := by
  have h1 : zi_lim k = 0 → post 1 := fun z => by
    rw [zp_t (show zi_fit k a from Or.inl z)] at h; exact h
  have h2 : ∀ L, zi_lim k = L + 1 → post (zp (∃ j, j < L + 1 ∧ a = nI j)) := fun L z => by
    have e : zi_fit k a ↔ ∃ j, j < L + 1 ∧ a = nI j := by
      unfold zi_fit
      rw [z]
      constructor
      · rintro (q | q)
        · omega
        · exact q
      · intro q; exact Or.inr q
    rw [zp_c e] at h; exact h
  clear h
  revert h1 h2; revert k
  apply zo_24 <;> intro h1 h2 <;> repeat (first | exact h1 rfl | exact yi_in (L := 5) (by decide) rfl (h2 5 rfl) | exact yi_in (L := 23) (by decide) rfl (h2 23 rfl) | exact yi_in (L := 3) (by decide) rfl (h2 3 rfl) | exact yi_in (L := 63) (by decide) rfl (h2 63 rfl) | exact yi_in (L := 7) (by decide) rfl (h2 7 rfl) | refine br_t (by decide) ?_ | refine br_f (by decide) ?_)
/-- rows 0..7: bodies, row 8: the draft -/
def zr_OK (O A L F T : Nat → Int32) : Prop :=
  (∀ r, r < 9 → ∃ l, l ≤ 24 ∧ L r = nI l ∧ ∀ j, j < l → zi_ok (O (24 * r + j)) (A (24 * r + j))) ∧
  (∀ r, r < 9 → ∃ f t, f ≤ t ∧ t ≤ 24 ∧ F r = nI f ∧ T r = nI t)
def zr_go (F T G G' : Nat → Int32) : Prop := ∀ r, r < 9 → F r < T r → G r = G' r ∧ ∃ g, g ≤ 24 ∧ G r = nI g
def zr_bd (L : Nat → Int32) (p : Int32) : Prop := ∃ m, m < 8 ∧ p = nI m ∧ L m ≠ 0
theorem x_hasBody {post : Int32 → Prop} {u : SX} {p : Int32} (hL : ∀ r, r < 9 → ∃ l, l ≤ 24 ∧ gX_lengths u r = nI l) (h : post (zp (zr_bd (gX_lengths u) p))) : wpX_hasBody post u p := by
  rcases pk_ix p (n := 8) (by decide) with z | z | ⟨c, hc, rfl⟩
  · rw [zp_f (fun ⟨c, hc, e, _⟩ => by rw [e] at z; exact nI_pos (by omega) z)] at h
    exact upX_hasBody (br_t z h)
  · rw [zp_f (fun ⟨c, hc, e, _⟩ => by rw [e] at z; exact nI_ge hc (by decide) z)] at h
    have z0 : ¬ p < 0 := fun w => by
      have := Int32.lt_of_le_of_lt z w
      exact nI_pos (n := 8) (by decide) this
    exact upX_hasBody (br_f z0 (br_t z h))
  · refine upX_hasBody (br_f (nI_pos (by omega)) (br_f (nI_ge (b := 8) hc (by decide)) ⟨vp_in_nI (by omega) (by decide), ?_⟩))
    rw [nI_clamp (by omega)]
    obtain ⟨l, hl, el⟩ := hL c (by omega)
    refine zp_post h ?_ ?_
    · rintro z ⟨c', hc', e, h2⟩
      have := (nI_eq (by omega) (by omega)).mp e
      subst this
      rw [el] at z h2
      have := (nI_leI (a := l) (b := 0) (by omega) (by decide)).mp z
      have : l = 0 := by omega
      subst this
      exact h2 rfl
    · intro z
      exact ⟨c, hc, rfl, fun w => z (by rw [w]; decide)⟩
theorem y_isBody {post : Int32 → Prop} {u : SY} {p : Int32} (hL : ∀ r, r < 9 → ∃ l, l ≤ 24 ∧ gY_length u r = nI l) (h : post (zp (zr_bd (gY_length u) p))) : wpY_isBody post u p := by
  refine upY_isBody (yt_in (zp_br (fun z => ?_) (fun z => ?_)))
  · rw [zp_f (fun ⟨c, hc, e, _⟩ => z (by rw [e]; exact ⟨nI_pos' (by omega), nI_le (b := 7) (by omega) (by decide)⟩))] at h
    exact h
  · obtain ⟨c, hc, rfl⟩ := nI_of2 (n := 7) (M := 7) (by decide) (Int32.not_lt.mpr z.1) z.2
    refine ⟨vp_in_nI (by omega) (by decide), ?_⟩
    rw [nI_clamp (by omega)]
    obtain ⟨l, hl, el⟩ := hL c (by omega)
    refine zp_post h ?_ ?_
    · rintro z ⟨c', hc', e, h2⟩
      have := (nI_eq (by omega) (by omega)).mp e
      subst this
      rw [el] at z h2
      have := (nI_leI (a := l) (b := 0) (by omega) (by decide)).mp z
      have : l = 0 := by omega
      subst this
      exact h2 rfl
    · intro z
      exact ⟨c, by omega, rfl, fun w => z (by rw [w]; decide)⟩
def zg_is (p : Int32) : Prop := ∃ g, g < 4 ∧ p = nI g
theorem x_isGlobal {post : Int32 → Prop} {p : Int32} (h : post (zp (zg_is p))) : wpX_isGlobal post p := by
  rcases pk_ix p (n := 4) (by decide) with z | z | ⟨c, hc, rfl⟩
  · rw [zp_f (fun ⟨c, hc, e⟩ => by rw [e] at z; exact nI_pos (by omega) z)] at h
    exact br_t z h
  · rw [zp_f (fun ⟨c, hc, e⟩ => by rw [e] at z; exact nI_ge hc (by decide) z)] at h
    have z0 : ¬ p < 0 := fun w => by
      have := Int32.lt_of_le_of_lt z w
      exact nI_pos (n := 4) (by decide) this
    exact br_f z0 (br_t z h)
  · rw [zp_t ⟨c, hc, rfl⟩] at h
    exact br_f (nI_pos (by omega)) (br_f (nI_ge (b := 4) hc (by decide)) h)
theorem zg_in {p : Int32} : ((0 : Int32) ≤ p ∧ p ≤ 3) ↔ zg_is p := by
  constructor
  · intro z
    obtain ⟨c, hc, e⟩ := nI_of2 (n := 3) (M := 3) (by decide) (Int32.not_lt.mpr z.1) z.2
    exact ⟨c, by omega, e⟩
  · rintro ⟨c, hc, rfl⟩
    exact ⟨nI_pos' (by omega), nI_le (b := 3) (by omega) (by decide)⟩
theorem y_inG {post : Int32 → Prop} {p : Int32} (h : post (zp (zg_is p))) : wpY_in post p 0 3 := by
  refine yt_in ?_
  rw [zp_c zg_in]
  exact h
end
section
/-! sums, measures, and the pure part of the heights -/
def zs (f : Nat → Nat) : Nat → Nat
  | 0 => 0
  | n + 1 => zs f n + f n
theorem zs_le {f g : Nat → Nat} : ∀ n, (∀ i, i < n → f i ≤ g i) → zs f n ≤ zs g n := by
  intro n
  induction n with
  | zero => intro _; exact Nat.le_refl _
  | succ n ih =>
    intro h
    have h1 := ih (fun i hi => h i (by omega))
    have h2 := h n (by omega)
    show zs f n + f n ≤ zs g n + g n
    omega
theorem zs_lt {f g : Nat → Nat} : ∀ n, (∀ i, i < n → f i ≤ g i) → (∃ i, i < n ∧ f i < g i) → zs f n < zs g n := by
  intro n
  induction n with
  | zero => rintro _ ⟨i, hi, _⟩; omega
  | succ n ih =>
    rintro h ⟨i, hi, hl⟩
    have h2 := h n (by omega)
    show zs f n + f n < zs g n + g n
    by_cases z : i = n
    · subst z
      have h1 := zs_le (f := f) (g := g) i (fun i hi => h i (by omega))
      omega
    · have h1 := ih (fun i hi => h i (by omega)) ⟨i, by omega, hl⟩
      omega
theorem zs_ub {f : Nat → Nat} {c : Nat} : ∀ n, (∀ i, i < n → f i ≤ c) → zs f n ≤ n * c := by
  intro n
  induction n with
  | zero => intro _; exact Nat.zero_le _
  | succ n ih =>
    intro h
    have h1 := ih (fun i hi => h i (by omega))
    have h2 := h n (by omega)
    show zs f n + f n ≤ (n + 1) * c
    rw [Nat.succ_mul]
    omega
theorem zs_eq {f g : Nat → Nat} : ∀ n, (∀ i, i < n → f i = g i) → zs f n = zs g n := by
  intro n
  induction n with
  | zero => intro _; rfl
  | succ n ih =>
    intro h
    have h1 := ih (fun i hi => h i (by omega))
    have h2 := h n (by omega)
    show zs f n + f n = zs g n + g n
    omega
def zs_b (b : Bool) : Nat := if b then 1 else 0
theorem zs_b1 (b : Bool) : zs_b b ≤ 1 := by cases b <;> decide
/-- how many of the lowest B bits of the first N words are set -/
def zs_m (B N : Nat) (a : Nat → Int32) : Nat := zs (fun t => zs (fun h => zs_b (bt (a t) h)) B) N
theorem zs_mub (B N : Nat) (a : Nat → Int32) : zs_m B N a ≤ N * B := by
  refine zs_ub N (fun i _ => ?_)
  have := zs_ub (f := fun h => zs_b (bt (a i) h)) (c := 1) B (fun _ _ => zs_b1 _)
  omega
theorem zs_bm {p q : Bool} (h : p = true → q = true) : zs_b p ≤ zs_b q := by
  cases p
  · exact Nat.zero_le _
  · rw [h rfl]; exact Nat.le_refl _
theorem zs_mle {B N : Nat} {a b : Nat → Int32} (h : ∀ t, t < N → ∀ j, j < B → bt (a t) j = true → bt (b t) j = true) : zs_m B N a ≤ zs_m B N b :=
  zs_le N (fun t ht => zs_le B (fun j hj => zs_bm (h t ht j hj)))
theorem zs_mlt {B N : Nat} {a b : Nat → Int32} (h : ∀ t, t < N → ∀ j, j < B → bt (a t) j = true → bt (b t) j = true) {t j : Nat} (ht : t < N) (hj : j < B) (h1 : bt (a t) j = false) (h2 : bt (b t) j = true) : zs_m B N a < zs_m B N b := by
  refine zs_lt N (fun t ht => zs_le B (fun j hj => zs_bm (h t ht j hj))) ⟨t, ht, zs_lt B (fun j hj => zs_bm (h t ht j hj)) ⟨j, hj, ?_⟩⟩
  rw [h1, h2]; decide
/-- words that differ differ in a bit -/
theorem zb_ne {x y : Int32} (h : x ≠ y) : ∃ i, i < 32 ∧ bt x i ≠ bt y i := by
  by_cases z : ∃ i, i < 32 ∧ bt x i ≠ bt y i
  · exact z
  · refine absurd (b_ext (fun i hi => ?_)) h
    by_cases w : bt x i = bt y i
    · exact w
    · exact absurd ⟨i, hi, w⟩ z
theorem zu_self {f : Nat → Int32} {k : Nat} {x : Int32} (h : x = f k) : upd f k x = f := by
  funext j
  unfold upd
  split
  · rename_i e; rw [e, h]
  · rfl
/-! the draft's instructions -/
def zh_op (O : Nat → Int32) (i : Nat) : Nat := (O (192 + i)).toNatClampNeg
def zh_P (O A : Nat → Int32) (i : Nat) : Nat := zt_pops (zh_op O i) (A (192 + i))
def zh_Q (O : Nat → Int32) (i : Nat) : Nat := zt_push (zh_op O i)
def zh_cg (F T : Nat → Int32) (r : Nat) (p : Int32) : Prop := ¬ p < F r ∧ ¬ T r ≤ p
/-- instruction i, with height h, leads to j with height k -/
def zh_E (O A F T G : Nat → Int32) (n i h j k : Nat) : Prop :=
  j < n ∧ ((zh_P O A i ≤ h ∧ h - zh_P O A i + zh_Q O i ≤ 6 ∧ k = h - zh_P O A i + zh_Q O i ∧ ((zt_jump (zh_op O i) ∧ A (192 + i) = nI j) ∨ (zt_fall (zh_op O i) ∧ j = i + 1))) ∨ (zh_cg F T 8 (nI i) ∧ G 8 = nI j ∧ k = 1))
def zh_C (E : Nat → Nat → Nat → Nat → Prop) (n : Nat) (S : Nat → Nat → Prop) : Prop := S 0 0 ∧ ∀ i h j k, i < n → S i h → E i h j k → S j k
/-- the least closed set -/
def zh_R (E : Nat → Nat → Nat → Nat → Prop) (n i h : Nat) : Prop := ∀ S, zh_C E n S → S i h
theorem zh_R0 {E : Nat → Nat → Nat → Nat → Prop} {n : Nat} : zh_R E n 0 0 := fun _ h => h.1
theorem zh_Rs {E : Nat → Nat → Nat → Nat → Prop} {n i h j k : Nat} (hi : i < n) (r : zh_R E n i h) (e : E i h j k) : zh_R E n j k := fun S c => c.2 i h j k hi (r S c) e
def zh_S (E : Nat → Nat → Nat → Nat → Prop) (n : Nat) (a : Nat → Int32) : Prop := ∀ i, i < n → ∀ h, h < 32 → bt (a i) h = true → h < 7 ∧ zh_R E n i h
def zh_K (E : Nat → Nat → Nat → Nat → Prop) (a : Nat → Int32) (i : Nat) : Prop := ∀ h, h < 7 → bt (a i) h = true → ∀ j k, E i h j k → bt (a j) k = true
def zh_F (E : Nat → Nat → Nat → Nat → Prop) (n : Nat) (a : Nat → Int32) : Prop := ∀ i, i < n → ∀ h, h < 32 → (bt (a i) h = true ↔ h < 7 ∧ zh_R E n i h)
theorem zh_fin {E : Nat → Nat → Nat → Nat → Prop} {n : Nat} {a : Nat → Int32} (hn : 0 < n) (hE : ∀ i h j k, E i h j k → j < n ∧ k < 7) (hS : zh_S E n a) (h0 : bt (a 0) 0 = true) (hK : ∀ i, i < n → zh_K E a i) : zh_F E n a := by
  intro i hi h hh
  constructor
  · exact hS i hi h hh
  · rintro ⟨_, r⟩
    have c : zh_C E n (fun i h => i < n ∧ h < 7 ∧ bt (a i) h = true) := by
      refine ⟨⟨hn, by decide, h0⟩, ?_⟩
      rintro i h j k hi ⟨_, h7, b⟩ e
      exact ⟨(hE _ _ _ _ e).1, (hE _ _ _ _ e).2, hK i hi h h7 b j k e⟩
    exact (r _ c).2.2
theorem zh_E7 {O A F T G : Nat → Int32} {n i h j k : Nat} (e : zh_E O A F T G n i h j k) : j < n ∧ k < 7 := by
  obtain ⟨hj, ⟨_, _, e, _⟩ | ⟨_, _, e⟩⟩ := e
  · exact ⟨hj, by omega⟩
  · exact ⟨hj, by omega⟩
/-! adding heights to one place -/
def zh_ad (n : Nat) (a : Nat → Int32) (t : Nat) (x : Int32) : Nat → Int32 := if t < n then upd a t (a t ||| x) else a
def zh_ch (n : Nat) (a : Nat → Int32) (t : Nat) (x : Int32) : Prop := t < n ∧ a t ||| x ≠ a t
theorem zh_adm {n : Nat} {a : Nat → Int32} {t : Nat} {x : Int32} {i h : Nat} (b : bt (a i) h = true) : bt (zh_ad n a t x i) h = true := by
  unfold zh_ad
  split
  · by_cases z : i = t
    · subst z; rw [pk_us, b_or, b]; rfl
    · rw [pk_un z]; exact b
  · exact b
theorem zh_adx {n : Nat} {a : Nat → Int32} {t : Nat} {x : Int32} {h : Nat} (ht : t < n) (b : bt x h = true) : bt (zh_ad n a t x t) h = true := by
  unfold zh_ad
  rw [if_pos ht, pk_us, b_or, b, Bool.or_true]
theorem zh_adS {E : Nat → Nat → Nat → Nat → Prop} {n : Nat} {a : Nat → Int32} {t : Nat} {x : Int32} (hS : zh_S E n a) (hx : t < n → ∀ h, h < 32 → bt x h = true → h < 7 ∧ zh_R E n t h) : zh_S E n (zh_ad n a t x) := by
  intro i hi h hh b
  unfold zh_ad at b
  split at b
  · rename_i ht
    by_cases z : i = t
    · subst z
      rw [pk_us, b_or] at b
      rcases Bool.or_eq_true_iff.mp b with b | b
      · exact hS i hi h hh b
      · exact hx ht h hh b
    · rw [pk_un z] at b
      exact hS i hi h hh b
  · exact hS i hi h hh b
theorem zh_adn {n : Nat} {a : Nat → Int32} {t : Nat} {x : Int32} (h : ¬ zh_ch n a t x) : zh_ad n a t x = a := by
  unfold zh_ad
  split
  · rename_i ht
    refine zu_self ?_
    by_cases z : a t ||| x = a t
    · exact z
    · exact absurd ⟨ht, z⟩ h
  · rfl
theorem zh_adl {E : Nat → Nat → Nat → Nat → Prop} {n : Nat} {a : Nat → Int32} {t : Nat} {x : Int32} (hn : n ≤ 24) (hS : zh_S E n (zh_ad n a t x)) (h : zh_ch n a t x) : zs_m 7 24 a < zs_m 7 24 (zh_ad n a t x) := by
  obtain ⟨ht, hne⟩ := h
  obtain ⟨i, hi, hd⟩ := zb_ne hne
  have e : zh_ad n a t x t = a t ||| x := by unfold zh_ad; rw [if_pos ht, pk_us]
  have b2 : bt (a t) i = false := by
    rw [b_or] at hd
    cases z : bt (a t) i
    · rfl
    · rw [z] at hd; exact absurd rfl hd
  have b1 : bt (a t ||| x) i = true := by
    cases z : bt (a t ||| x) i
    · rw [z, b2] at hd; exact absurd rfl hd
    · rfl
  have h7 := (hS t ht i hi (by rw [e]; exact b1)).1
  exact zs_mlt (fun t _ j _ b => zh_adm b) (t := t) (j := i) (by omega) h7 b2 (by rw [e]; exact b1)
theorem zh_adle {n : Nat} {a : Nat → Int32} {t : Nat} {x : Int32} : zs_m 7 24 a ≤ zs_m 7 24 (zh_ad n a t x) := zs_mle (fun _ _ _ _ b => zh_adm b)
/-- what one instruction's spreading does -/
def zh_sp (E : Nat → Nat → Nat → Nat → Prop) (n i : Nat) (a b : Nat → Int32) (c : Prop) : Prop :=
  zh_S E n b ∧ (∀ t h, bt (a t) h = true → bt (b t) h = true) ∧ (c → zs_m 7 24 a < zs_m 7 24 b) ∧ (¬ c → b = a ∧ zh_K E a i)
/-- three additions, in any order of the flags -/
theorem zh_three {E : Nat → Nat → Nat → Nat → Prop} {n i : Nat} (hn : n ≤ 24) {a : Nat → Int32} (hS : zh_S E n a) {p1 p2 p3 : Prop} {t1 t2 t3 : Nat} {x1 x2 x3 : Int32}
  (s1 : p1 → t1 < n → ∀ h, h < 32 → bt x1 h = true → h < 7 ∧ zh_R E n t1 h) (s2 : p2 → t2 < n → ∀ h, h < 32 → bt x2 h = true → h < 7 ∧ zh_R E n t2 h) (s3 : p3 → t3 < n → ∀ h, h < 32 → bt x3 h = true → h < 7 ∧ zh_R E n t3 h)
  (hE : ∀ h, h < 7 → bt (a i) h = true → ∀ j k, E i h j k → j < n ∧ ((p1 ∧ j = t1 ∧ bt x1 k = true) ∨ (p2 ∧ j = t2 ∧ bt x2 k = true) ∨ (p3 ∧ j = t3 ∧ bt x3 k = true)))
  {a1 a2 a3 : Nat → Int32} {c1 c2 c3 : Prop} (e1 : (p1 ∧ a1 = zh_ad n a t1 x1 ∧ (c1 ↔ zh_ch n a t1 x1)) ∨ (¬ p1 ∧ a1 = a ∧ ¬ c1)) (e2 : (p2 ∧ a2 = zh_ad n a1 t2 x2 ∧ (c2 ↔ zh_ch n a1 t2 x2)) ∨ (¬ p2 ∧ a2 = a1 ∧ ¬ c2)) (e3 : (p3 ∧ a3 = zh_ad n a2 t3 x3 ∧ (c3 ↔ zh_ch n a2 t3 x3)) ∨ (¬ p3 ∧ a3 = a2 ∧ ¬ c3)) : zh_sp E n i a a3 (c1 ∨ c2 ∨ c3) := by
  have one : ∀ (p : Prop) (t : Nat) (x : Int32) (a b : Nat → Int32) (c : Prop), zh_S E n a → (p → t < n → ∀ h, h < 32 → bt x h = true → h < 7 ∧ zh_R E n t h) → ((p ∧ b = zh_ad n a t x ∧ (c ↔ zh_ch n a t x)) ∨ (¬ p ∧ b = a ∧ ¬ c)) → zh_S E n b ∧ (∀ t h, bt (a t) h = true → bt (b t) h = true) ∧ (c → zs_m 7 24 a < zs_m 7 24 b) ∧ zs_m 7 24 a ≤ zs_m 7 24 b ∧ (¬ c → b = a ∧ (p → t < n → ∀ h, bt x h = true → bt (a t) h = true)) := by
    intro p t x a b c hS s e
    rcases e with ⟨hp, rfl, hc⟩ | ⟨hp, rfl, hc⟩
    · have hS' := zh_adS (a := a) (x := x) hS (s hp)
      refine ⟨hS', fun t h b => zh_adm b, fun z => zh_adl hn hS' (hc.mp z), zh_adle, fun z => ?_⟩
      have e := zh_adn (fun w => z (hc.mpr w))
      refine ⟨e, fun _ ht h b => ?_⟩
      have := zh_adx (a := a) ht b
      rwa [e] at this
    · exact ⟨hS, fun t h b => b, fun z => absurd z hc, Nat.le_refl _, fun _ => ⟨rfl, fun z => absurd z hp⟩⟩
  obtain ⟨S1, m1, l1, g1, k1⟩ := one p1 t1 x1 a a1 c1 hS s1 e1
  obtain ⟨S2, m2, l2, g2, k2⟩ := one p2 t2 x2 a1 a2 c2 S1 s2 e2
  obtain ⟨S3, m3, l3, g3, k3⟩ := one p3 t3 x3 a2 a3 c3 S2 s3 e3
  refine ⟨S3, fun t h b => m3 _ _ (m2 _ _ (m1 _ _ b)), ?_, ?_⟩
  · rintro (z | z | z)
    · have := l1 z; omega
    · have := l2 z; omega
    · have := l3 z; omega
  · intro z
    obtain ⟨r1, q1⟩ := k1 (fun w => z (Or.inl w))
    obtain ⟨r2, q2⟩ := k2 (fun w => z (Or.inr (Or.inl w)))
    obtain ⟨r3, q3⟩ := k3 (fun w => z (Or.inr (Or.inr w)))
    subst r1 r2 r3
    refine ⟨rfl, ?_⟩
    intro h h7 b j k e
    obtain ⟨hj, w⟩ := hE h h7 b j k e
    rcases w with ⟨p, rfl, w⟩ | ⟨p, rfl, w⟩ | ⟨p, rfl, w⟩
    · exact q1 p hj _ w
    · exact q2 p hj _ w
    · exact q3 p hj _ w
end
section
/-! X's heights -/
theorem sX_hh (a b : Nat → Int32) (u : SX) : sX_heights a (sX_heights b u) = sX_heights a u := rfl
theorem sX_gh (a : Nat → Int32) (u : SX) : gX_heights (sX_heights a u) = a := rfl
theorem sY_hh (a b : Nat → Int32) (u : SY) : sY_heights a (sY_heights b u) = sY_heights a u := rfl
theorem sY_gh (a : Nat → Int32) (u : SY) : gY_heights (sY_heights a u) = a := rfl
theorem x_fits {post : Int32 → Prop} {i P Q : Nat} (hi : i < 100) (hP : P < 100) (hQ : Q < 100) (h : post (zp (P ≤ i ∧ i - P + Q ≤ 6))) : wpX_fits post (nI i) (nI P) (nI Q) := by
  refine br_i (nI_ltI (by omega) (by omega)) (fun z => ?_) (fun z => ?_)
  · rw [zp_f (fun w => by omega)] at h; exact h
  · rw [pk_sub (by omega), nI_add]
    refine br_i (nI_ltI (a := 6) (by decide) (by omega)) (fun w => ?_) (fun w => ?_)
    · rw [zp_f (fun k => by omega)] at h; exact h
    · rw [zp_t ⟨by omega, by omega⟩] at h; exact h
/-- what the heights in x become -/
def zh_bv (x : Int32) (P Q m : Nat) (y : Int32) : Prop := ∀ k, k < 32 → (bt y k = true ↔ ∃ h, h < m ∧ bt x h = true ∧ P ≤ h ∧ h - P + Q ≤ 6 ∧ k = h - P + Q)
theorem zh_bv0 {x : Int32} {P Q : Nat} : zh_bv x P Q 0 0 := by
  intro k hk
  rw [b_0]
  constructor
  · intro z; exact absurd z (by decide)
  · rintro ⟨h, hh, _⟩; omega
theorem zh_bvs0 {x : Int32} {P Q m : Nat} {y : Int32} (h : zh_bv x P Q m y) (z : ¬ (bt x m = true ∧ P ≤ m ∧ m - P + Q ≤ 6)) : zh_bv x P Q (m + 1) y := by
  intro k hk
  rw [h k hk]
  constructor
  · rintro ⟨j, hj, w⟩; exact ⟨j, by omega, w⟩
  · rintro ⟨j, hj, w1, w2, w3, w4⟩
    by_cases e : j = m
    · subst e; exact absurd ⟨w1, w2, w3⟩ z
    · exact ⟨j, by omega, w1, w2, w3, w4⟩
theorem zh_bvs1 {x : Int32} {P Q m : Nat} {y : Int32} (h : zh_bv x P Q m y) (z : bt x m = true ∧ P ≤ m ∧ m - P + Q ≤ 6) : zh_bv x P Q (m + 1) (y ||| ((1 : Int32) <<< (nI (m - P + Q) &&& 31))) := by
  intro k hk
  rw [b_or, zb_tp _ (by omega) _ hk, Bool.or_eq_true_iff, h k hk, decide_eq_true_iff]
  constructor
  · rintro (⟨j, hj, w⟩ | rfl)
    · exact ⟨j, by omega, w⟩
    · exact ⟨m, by omega, z.1, z.2.1, z.2.2, rfl⟩
  · rintro ⟨j, hj, w1, w2, w3, w4⟩
    by_cases e : j = m
    · subst e; exact Or.inr w4
    · exact Or.inl ⟨j, by omega, w1, w2, w3, w4⟩
theorem x_behind5 {post : Int32 → Prop} {x : Int32} {P Q : Nat} (hP : P < 100) (hQ : Q < 100) (h : ∀ y, zh_bv x P Q 7 y → post y) : ∀ d i acc, i + d = 7 → zh_bv x P Q i acc → wX_heightsBehind_5 post x (nI P) (nI Q) (d + 1) acc (nI i) := by
  intro d
  induction d with
  | zero =>
    intro i acc hi hb
    have : i = 7 := by omega
    subst this
    exact br_t (by decide) (h acc hb)
  | succ d ih =>
    intro i acc hi hb
    refine br_f (nI_nlt (a := 6) (b := i) (by omega) (by decide)) ?_
    refine br_i (zb_bit x (j := i) (by omega)) (fun z => ?_) (fun z => ?_)
    · refine nm_r (nI_1 i) (ih (i + 1) acc (by omega) (zh_bvs0 hb (fun w => ?_)))
      rw [w.1] at z; exact absurd z (by decide)
    · have z : bt x i = true := by simpa using z
      refine x_fits (by omega) hP hQ (zp_br (fun w => ?_) (fun w => ?_))
      · exact nm_r (nI_1 i) (ih (i + 1) acc (by omega) (zh_bvs0 hb (fun k => w k.2)))
      · refine nm_e (nm_r (nI_1 i) ?_)
        rw [pk_sub w.1, nI_add]
        exact ih (i + 1) _ (by omega) (zh_bvs1 hb ⟨z, w⟩)
theorem x_behind {post : Int32 → Prop} {x : Int32} {P Q : Nat} (hP : P < 100) (hQ : Q < 100) (h : ∀ y, zh_bv x P Q 7 y → post y) : wpX_heightsBehind post x (nI P) (nI Q) :=
  ⟨8, x_behind5 hP hQ h 7 0 0 rfl zh_bv0⟩
theorem x_addH {post : Int32 → SX → Prop} {u : SX} {n t : Nat} {x : Int32} (hn : n ≤ 24) (en : gX_lengths u 8 = nI n) (ht : t ≤ 24) (h : post (zp (zh_ch n (gX_heights u) t x)) (sX_heights (zh_ad n (gX_heights u) t x) u)) : wpX_addHeights post u (nI t) x := by
  refine upX_addHeights ?_
  rw [en]
  refine br_i (nI_ltI (by omega) (by omega)) (fun z => ?_) (fun z => ?_)
  · have hi : vp_in (nI t) 24 := vp_in_nI (by omega) (by decide)
    refine ⟨hi, nm_e ⟨hi, nm_e ⟨hi, ?_⟩⟩⟩
    rw [nI_clamp (by omega), pk_us]
    unfold zh_ad zh_ch at h
    rw [if_pos z] at h
    by_cases w : gX_heights u t ||| x = gX_heights u t
    · rw [zp_f (fun k => k.2 w)] at h
      exact br_t w h
    · rw [zp_t ⟨z, w⟩] at h
      exact br_f w h
  · unfold zh_ad zh_ch at h
    rw [if_neg z, zp_f (fun k => z k.1)] at h
    exact h
theorem x_isCaught {post : Int32 → Prop} {u : SX} {r : Nat} {p : Int32} (hr : r < 9) (h : post (zp (zh_cg (gX_catchFrom u) (gX_catchTo u) r p))) : wpX_isCaught post u (nI r) p := by
  have hi : vp_in (nI r) 9 := vp_in_nI hr (by decide)
  refine upX_isCaught ⟨hi, ?_⟩
  rw [nI_clamp (by omega)]
  refine br_c (fun z => ?_) (fun z => ⟨hi, br_c (fun w => ?_) (fun w => ?_)⟩)
  · rw [zp_f (fun k => k.1 z)] at h; exact h
  · rw [zp_f (fun k => k.2 w)] at h; exact h
  · rw [zp_t ⟨z, w⟩] at h; exact h
/-- the third addition, at the CATCHER -/
theorem x_sp102 {post : Int32 → SX → Prop} {u : SX} {n i : Nat} {c : Prop} (hn : n ≤ 24) (en : gX_lengths u 8 = nI n) (hg : zh_cg (gX_catchFrom u) (gX_catchTo u) 8 (nI i) → ∃ g, g ≤ 24 ∧ gX_catchGoal u 8 = nI g)
  (h : ∀ (b : Nat → Int32) (c3 : Prop), ((zh_cg (gX_catchFrom u) (gX_catchTo u) 8 (nI i) ∧ b = zh_ad n (gX_heights u) (gX_catchGoal u 8).toNatClampNeg 2 ∧ (c3 ↔ zh_ch n (gX_heights u) (gX_catchGoal u 8).toNatClampNeg 2)) ∨ (¬ zh_cg (gX_catchFrom u) (gX_catchTo u) 8 (nI i) ∧ b = gX_heights u ∧ ¬ c3)) → post (zp (c ∨ c3)) (sX_heights b u)) : kX_spreadHeights_102 post (nI i) (zp c) u := by
  refine uX_spreadHeights_102 (x_isCaught (r := 8) (by decide) (zp_br (fun z => ⟨zp_n _, ?_⟩) (fun z => ?_)))
  · have := h (gX_heights u) False (Or.inr ⟨z, rfl, fun w => w⟩)
    rw [zp_c (show (c ∨ False) ↔ c by simp)] at this
    exact this
  · obtain ⟨g, hg2, eg⟩ := hg z
    have hb := fun c3 hc => h _ c3 (Or.inl ⟨z, rfl, hc⟩)
    rw [eg, nI_clamp (by omega)] at hb
    rw [eg]
    refine x_addH hn en hg2 (zp_br (fun w => ⟨zp_n _, ?_⟩) (fun w => ?_))
    · have := hb _ Iff.rfl
      rw [zp_c (show (c ∨ _) ↔ c from ⟨fun k => k.elim id (fun k => absurd k w), Or.inl⟩)] at this
      exact this
    · have := hb _ Iff.rfl
      rw [zp_t (Or.inr w)] at this
      exact this
theorem x_spread {post : Int32 → SX → Prop} {u : SX} {n i : Nat} (hn : n ≤ 24) (hi : i < n) (en : gX_lengths u 8 = nI n) (ho : zi_ok (gX_ops u (192 + i)) (gX_operands u (192 + i))) (hg : zh_cg (gX_catchFrom u) (gX_catchTo u) 8 (nI i) → ∃ g, g ≤ 24 ∧ gX_catchGoal u 8 = nI g)
  {E : Nat → Nat → Nat → Nat → Prop} (eE : E = zh_E (gX_ops u) (gX_operands u) (gX_catchFrom u) (gX_catchTo u) (gX_catchGoal u) n) (hS : zh_S E n (gX_heights u))
  (h : ∀ (b : Nat → Int32) (c : Prop), zh_sp E n i (gX_heights u) b c → post (zp c) (sX_heights b u)) : wpX_spreadHeights post u (nI i) := by
  have v24 : vp_in (nI i) 24 := vp_in_nI (by omega) (by decide)
  refine upX_spreadHeights ⟨v24, ?_⟩
  rw [nI_clamp (by omega)]
  refine br_c (fun z => ?_) (fun z => ?_)
  · have := h (gX_heights u) False ⟨hS, fun _ _ b => b, fun k => k.elim, fun _ => ⟨rfl, fun h _ b => by rw [z, b_0] at b; exact absurd b (by decide)⟩⟩
    rw [zp_f (fun k => k)] at this
    exact this
  · have e192 : (192 : Int32) + nI i = nI (192 + i) := by rw [show (192 : Int32) = nI 192 from rfl, nI_add]
    have v216 : vp_in (192 + nI i) 216 := by rw [e192]; exact vp_in_nI (by omega) (by decide)
    refine ⟨v216, nm_e ⟨v216, nm_e ?_⟩⟩
    rw [e192, nI_clamp (by omega)]
    obtain ⟨o24, eo, fo⟩ := zi_of ho
    have eop : zh_op (gX_ops u) i = (gX_ops u (192 + i)).toNatClampNeg := rfl
    rw [← eop] at o24 eo fo
    rw [eo]
    have P2 := zt_pops2 (zh_op (gX_ops u) i) (gX_operands u (192 + i))
    have Q2 : zt_push (zh_op (gX_ops u) i) < 100 := by
      have : ∀ o, o < 24 → zt_push o < 100 := by decide
      exact this _ o24
    refine xt_pops o24 (zi_call fo) (xt_push o24 ⟨v24, x_behind (by omega) Q2 (fun y hy => xt_jump o24 ?_)⟩)
    -- the bits of y are sound wherever i leads
    have sy : ∀ j k, j < n → ((zt_jump (zh_op (gX_ops u) i) ∧ gX_operands u (192 + i) = nI j) ∨ (zt_fall (zh_op (gX_ops u) i) ∧ j = i + 1)) → k < 32 → bt y k = true → k < 7 ∧ zh_R E n j k := by
      intro j k hj w hk b
      obtain ⟨h, h7, b1, b2, b3, rfl⟩ := (hy k hk).mp b
      refine ⟨by omega, zh_Rs hi (hS i hi h (by omega) b1).2 ?_⟩
      rw [eE]
      exact ⟨hj, Or.inl ⟨b2, b3, rfl, w⟩⟩
    have jt : zt_jump (zh_op (gX_ops u) i) → ∃ t, t ≤ 24 ∧ gX_operands u (192 + i) = nI t := by
      intro w
      have : zi_lim (zh_op (gX_ops u) i) = 24 := by
        rcases w with w | w | w <;> rw [w] <;> rfl
      obtain ⟨j, hj, e⟩ := zi_fj fo this (by decide)
      exact ⟨j, by omega, e⟩
    have key : ∀ (a1 a2 a3 : Nat → Int32) (c1 c2 c3 : Prop),
        ((zt_jump (zh_op (gX_ops u) i) ∧ a1 = zh_ad n (gX_heights u) (gX_operands u (192 + i)).toNatClampNeg y ∧ (c1 ↔ zh_ch n (gX_heights u) (gX_operands u (192 + i)).toNatClampNeg y)) ∨ (¬ zt_jump (zh_op (gX_ops u) i) ∧ a1 = gX_heights u ∧ ¬ c1)) →
        ((zt_fall (zh_op (gX_ops u) i) ∧ a2 = zh_ad n a1 (i + 1) y ∧ (c2 ↔ zh_ch n a1 (i + 1) y)) ∨ (¬ zt_fall (zh_op (gX_ops u) i) ∧ a2 = a1 ∧ ¬ c2)) →
        ((zh_cg (gX_catchFrom u) (gX_catchTo u) 8 (nI i) ∧ a3 = zh_ad n a2 (gX_catchGoal u 8).toNatClampNeg 2 ∧ (c3 ↔ zh_ch n a2 (gX_catchGoal u 8).toNatClampNeg 2)) ∨ (¬ zh_cg (gX_catchFrom u) (gX_catchTo u) 8 (nI i) ∧ a3 = a2 ∧ ¬ c3)) → zh_sp E n i (gX_heights u) a3 (c1 ∨ c2 ∨ c3) := by
      intro a1 a2 a3 c1 c2 c3 e1 e2 e3
      refine zh_three hn hS ?_ ?_ ?_ ?_ e1 e2 e3
      · intro w ht k hk b
        obtain ⟨t, ht2, et⟩ := jt w
        rw [et, nI_clamp (by omega)] at ht ⊢
        exact sy t k ht (Or.inl ⟨w, et⟩) hk b
      · intro w ht k hk b
        exact sy (i + 1) k ht (Or.inr ⟨w, rfl⟩) hk b
      · intro w ht k hk b
        obtain ⟨g, hg2, eg⟩ := hg w
        have k1 : k = 1 := by
          have : ∀ k, k < 32 → bt 2 k = true → k = 1 := by decide
          exact this k hk b
        subst k1
        obtain ⟨q, hq, bq⟩ := zb_ne z
        rw [b_0] at bq
        have bq : bt (gX_heights u i) q = true := by simpa using bq
        refine ⟨by decide, zh_Rs hi (hS i hi q hq bq).2 ?_⟩
        rw [eE]
        rw [eg, nI_clamp (by omega)] at ht ⊢
        exact ⟨ht, Or.inr ⟨w, eg, rfl⟩⟩
      · intro h h7 b j k e
        rw [eE] at e
        obtain ⟨hj, ⟨q1, q2, q3, ⟨q4, q5⟩ | ⟨q4, q5⟩⟩ | ⟨q1, q2, q3⟩⟩ := e
        · refine ⟨hj, Or.inl ⟨q4, by rw [q5, nI_clamp (by omega)], ?_⟩⟩
          have k7 : k < 32 := by omega
          exact (hy k k7).mpr ⟨h, h7, b, q1, q2, q3⟩
        · have k7 : k < 32 := by omega
          exact ⟨hj, Or.inr (Or.inl ⟨q4, q5, (hy k k7).mpr ⟨h, h7, b, q1, q2, q3⟩⟩)⟩
        · subst q3
          exact ⟨hj, Or.inr (Or.inr ⟨q1, by rw [q2, nI_clamp (by omega)], by decide⟩)⟩
    -- the second and third addition
    have next : ∀ (a1 : Nat → Int32) (c1 : Prop), ((zt_jump (zh_op (gX_ops u) i) ∧ a1 = zh_ad n (gX_heights u) (gX_operands u (192 + i)).toNatClampNeg y ∧ (c1 ↔ zh_ch n (gX_heights u) (gX_operands u (192 + i)).toNatClampNeg y)) ∨ (¬ zt_jump (zh_op (gX_ops u) i) ∧ a1 = gX_heights u ∧ ¬ c1)) → kX_spreadHeights_80 post (nI i) (nI (zh_op (gX_ops u) i)) y (zp c1) (sX_heights a1 u) := by
      intro a1 c1 e1
      refine uX_spreadHeights_80 (xt_fall o24 (zp_br (fun w => ?_) (fun w => ?_)))
      · refine x_sp102 (u := sX_heights a1 u) hn en hg (fun b c3 e3 => ?_)
        rw [sX_hh]
        have := h b _ (key a1 a1 b c1 False c3 e1 (Or.inr ⟨w, rfl, fun k => k⟩) e3)
        rw [zp_c (show (c1 ∨ False ∨ c3) ↔ (c1 ∨ c3) by simp)] at this
        exact this
      · rw [nI_1]
        refine x_addH (u := sX_heights a1 u) hn en (by omega) ?_
        rw [sX_hh, sX_gh]
        have fin : ∀ (c2 : Prop), (c2 ↔ zh_ch n a1 (i + 1) y) → kX_spreadHeights_102 post (nI i) (zp (c1 ∨ c2)) (sX_heights (zh_ad n a1 (i + 1) y) u) := by
          intro c2 hc2
          refine x_sp102 (u := sX_heights (zh_ad n a1 (i + 1) y) u) hn en hg (fun b c3 e3 => ?_)
          rw [sX_hh]
          have := h b _ (key a1 _ b c1 c2 c3 e1 (Or.inl ⟨w, rfl, hc2⟩) e3)
          rw [zp_c (show (c1 ∨ c2 ∨ c3) ↔ ((c1 ∨ c2) ∨ c3) from or_assoc.symm)] at this
          exact this
        have fin2 := fin _ Iff.rfl
        refine zp_br (fun q => ?_) (fun q => ?_)
        · rw [zp_c (show (c1 ∨ zh_ch n a1 (i + 1) y) ↔ c1 from ⟨fun k => k.elim id (fun k => absurd k q), Or.inl⟩)] at fin2
          exact fin2
        · rw [zp_t (Or.inr q)] at fin2
          exact fin2
    refine zp_br (fun w => ?_) (fun w => ?_)
    · have := next (gX_heights u) False (Or.inr ⟨w, rfl, fun k => k⟩)
      rw [zp_f (fun k => k)] at this
      exact this
    · obtain ⟨t, ht, et⟩ := jt w
      have q := fun c1 hc => next _ c1 (Or.inl ⟨w, rfl, hc⟩)
      rw [et, nI_clamp (by omega)] at q
      rw [et]
      exact x_addH hn en ht (q _ Iff.rfl)
theorem x_reach47 {post : SX → Prop} {J : Int32 → Int32 → SX → Prop} {u : SX} {n : Nat} {x2 : Int32} (hn : n ≤ 24) (en : gX_lengths u 8 = nI n) (ho : ∀ i, i < n → zi_ok (gX_ops u (192 + i)) (gX_operands u (192 + i))) (hg : ∀ i, zh_cg (gX_catchFrom u) (gX_catchTo u) 8 (nI i) → ∃ g, g ≤ 24 ∧ gX_catchGoal u 8 = nI g)
  {E : Nat → Nat → Nat → Nat → Prop} (eE : E = zh_E (gX_ops u) (gX_operands u) (gX_catchFrom u) (gX_catchTo u) (gX_catchGoal u) n) {a0 : Nat → Int32}
  (hJ : ∀ (a : Nat → Int32) (c : Prop), zh_S E n a → (∀ t h, bt (a0 t) h = true → bt (a t) h = true) → (c → zs_m 7 24 a0 < zs_m 7 24 a) → (¬ c → ∀ i, i < n → zh_K E a i) → J (zp c) (x2 + 1) (sX_heights a u)) :
  ∀ d i a c, i + d = n → zh_S E n a → (∀ t h, bt (a0 t) h = true → bt (a t) h = true) → (c → zs_m 7 24 a0 < zs_m 7 24 a) → (¬ c → a = a0 ∧ ∀ k, k < i → zh_K E a0 k) → kX_reachHeights_47 post J x2 (d + 1) (zp c) (nI i) (sX_heights a u) := by
  intro d
  induction d with
  | zero =>
    intro i a c hi hS hm hc hk
    have : i = n := by omega
    subst this
    refine uX_reachHeights_47 (br_t ?_ (nm_e (hJ a c hS hm hc (fun z => ?_))))
    · show gX_lengths u 8 ≤ nI i
      rw [en]; exact Int32.le_refl _
    · obtain ⟨rfl, k⟩ := hk z
      exact k
  | succ d ih =>
    intro i a c hi hS hm hc hk
    refine uX_reachHeights_47 (br_f ?_ ?_)
    · show ¬ gX_lengths u 8 ≤ nI i
      rw [en]; exact nI_ge (by omega) (by omega)
    · refine x_spread (u := sX_heights a u) hn (by omega) en (ho i (by omega)) (hg i) eE hS (fun b c' sp => ?_)
      rw [sX_hh]
      obtain ⟨Sb, mb, lb, kb⟩ := sp
      have hm' : ∀ t h, bt (a0 t) h = true → bt (b t) h = true := fun t h w => mb t h (hm t h w)
      refine zp_br (fun z => ?_) (fun z => ?_)
      · obtain ⟨rfl, kk⟩ := kb z
        refine nm_r (nI_1 i) (ih (i + 1) b c (by omega) Sb hm' hc (fun w => ?_))
        obtain ⟨rfl, k⟩ := hk w
        refine ⟨rfl, fun j hj => ?_⟩
        by_cases e : j = i
        · subst e; exact kk
        · exact k j (by omega)
      · have := ih (i + 1) b True (by omega) Sb hm' (fun _ => Nat.lt_of_le_of_lt (zs_mle (fun t _ j _ w => hm t j w)) (lb z)) (fun w => absurd trivial w)
        rw [zp_t trivial] at this
        exact nm_r (nI_1 i) this
theorem x_reach32 {post : SX → Prop} {u : SX} {n : Nat} (hn0 : 0 < n) (hn : n ≤ 24) (en : gX_lengths u 8 = nI n) (ho : ∀ i, i < n → zi_ok (gX_ops u (192 + i)) (gX_operands u (192 + i))) (hg : ∀ i, zh_cg (gX_catchFrom u) (gX_catchTo u) 8 (nI i) → ∃ g, g ≤ 24 ∧ gX_catchGoal u 8 = nI g)
  {E : Nat → Nat → Nat → Nat → Prop} (eE : E = zh_E (gX_ops u) (gX_operands u) (gX_catchFrom u) (gX_catchTo u) (gX_catchGoal u) n) (h : ∀ a, zh_F E n a → post (sX_heights a u)) :
  ∀ d p a c, p + d = 1000 → zh_S E n a → bt (a 0) 0 = true → (c → p ≤ zs_m 7 24 a) → (¬ c → ∀ i, i < n → zh_K E a i) → kX_reachHeights_32 post (d + 1) (zp c) (nI p) (sX_heights a u) := by
  have hE : ∀ i h j k, E i h j k → j < n ∧ k < 7 := by
    intro i h j k e; rw [eE] at e; exact zh_E7 e
  intro d
  induction d with
  | zero =>
    intro p a c hp hS h0 hc hk
    have : p = 1000 := by omega
    subst this
    have nc : ¬ c := fun z => by
      have := hc z
      have := zs_mub 7 24 a
      omega
    exact uX_reachHeights_32 (br_t (by decide) (h a (zh_fin hn0 hE hS h0 (hk nc))))
  | succ d ih =>
    intro p a c hp hS h0 hc hk
    refine uX_reachHeights_32 (br_f (nI_ge (b := 1000) (by omega) (by decide)) (zp_br (fun z => ?_) (fun z => ?_)))
    · exact h a (zh_fin hn0 hE hS h0 (hk z))
    · have q := x_reach47 (post := post) (J := kX_reachHeights_32 post (d + 1)) (x2 := nI p) (u := u) hn en ho hg eE (a0 := a) ?_ n 0 a False (by omega) hS (fun _ _ b => b) (fun k => k.elim) (fun _ => ⟨rfl, fun k hk => absurd hk (by omega)⟩)
      · rw [zp_f (fun k => k)] at q
        exact ⟨_, q⟩
      · intro a' c' S' m' l' k'
        rw [nI_1]
        refine ih (p + 1) a' c' (by omega) S' (m' 0 0 h0) (fun w => ?_) k'
        have := l' w
        have := hc z
        omega
theorem x_reachHeights {post : SX → Prop} {u : SX} {n : Nat} (hn0 : 0 < n) (hn : n ≤ 24) (en : gX_lengths u 8 = nI n) (ho : ∀ i, i < n → zi_ok (gX_ops u (192 + i)) (gX_operands u (192 + i))) (hg : ∀ i, zh_cg (gX_catchFrom u) (gX_catchTo u) 8 (nI i) → ∃ g, g ≤ 24 ∧ gX_catchGoal u 8 = nI g)
  {E : Nat → Nat → Nat → Nat → Prop} (eE : E = zh_E (gX_ops u) (gX_operands u) (gX_catchFrom u) (gX_catchTo u) (gX_catchGoal u) n) (h : ∀ a, zh_F E n a → post (sX_heights a u)) : wpX_reachHeights post u := by
  have z : ∀ d i a, i + d = 24 → (∀ t, t < i → a t = 0) → kX_reachHeights_2 post (d + 1) (nI i) (sX_heights a u) := by
    intro d
    induction d with
    | zero =>
      intro i a hi ha
      have : i = 24 := by omega
      subst this
      refine uX_reachHeights_2 (br_t (by decide) (nm_e ⟨1001, ?_⟩))
      have q := x_reach32 (post := post) (u := u) hn0 hn en ho hg eE h 1000 0 (upd a 0 1) True (by omega) ?_ ?_ (fun _ => Nat.zero_le _) (fun k => absurd trivial k)
      · rw [zp_t trivial] at q
        exact q
      · intro i hi k hk b
        by_cases e : i = 0
        · subst e
          rw [pk_us, zb_1 k hk] at b
          have : k = 0 := by simpa using b
          subst this
          exact ⟨by decide, zh_R0⟩
        · rw [pk_un e, ha i (by omega), b_0] at b
          exact absurd b (by decide)
      · rw [pk_us]; decide
    | succ d ih =>
      intro i a hi ha
      refine uX_reachHeights_2 (br_f (nI_ge (b := 24) (by omega) (by decide)) ⟨vp_in_nI (by omega) (by decide), nm_e (nm_r (nI_1 i) ?_)⟩)
      rw [nI_clamp (by omega)]
      refine ih (i + 1) (upd a i 0) (by omega) (fun t ht => ?_)
      by_cases e : t = i
      · subst e; exact pk_us
      · rw [pk_un e]; exact ha t (by omega)
  exact upX_reachHeights ⟨25, z 24 0 (gX_heights u) rfl (fun t ht => absurd ht (by omega))⟩
/-! the first instruction with a fault -/
noncomputable def zf (bad : Nat → Prop) : Nat → Nat → Int32
  | 0, _ => -1
  | d + 1, i => @ite Int32 (bad i) (Classical.propDecidable (bad i)) (nI i) (zf bad d (i + 1))
theorem zf_t {bad : Nat → Prop} {d i : Nat} (h : bad i) : zf bad (d + 1) i = nI i := if_pos h
theorem zf_f {bad : Nat → Prop} {d i : Nat} (h : ¬ bad i) : zf bad (d + 1) i = zf bad d (i + 1) := if_neg h
theorem zf_c {bad bad' : Nat → Prop} : ∀ d i, (∀ j, i ≤ j → j < i + d → (bad j ↔ bad' j)) → zf bad d i = zf bad' d i := by
  intro d
  induction d with
  | zero => intro i _; rfl
  | succ d ih =>
    intro i h
    have e := ih (i + 1) (fun j h1 h2 => h j (by omega) (by omega))
    by_cases z : bad i
    · rw [zf_t z, zf_t ((h i (by omega) (by omega)).mp z)]
    · rw [zf_f z, zf_f (fun w => z ((h i (by omega) (by omega)).mpr w)), e]
theorem zf_m {bad : Nat → Prop} : ∀ d i, i + d < 2 ^ 31 → (zf bad d i = -1 ∧ (∀ j, i ≤ j → j < i + d → ¬ bad j)) ∨ (∃ j, i ≤ j ∧ j < i + d ∧ zf bad d i = nI j) := by
  intro d
  induction d with
  | zero => intro i _; exact Or.inl ⟨rfl, fun j h1 h2 => absurd h2 (by omega)⟩
  | succ d ih =>
    intro i hi
    by_cases z : bad i
    · exact Or.inr ⟨i, by omega, by omega, zf_t z⟩
    · rw [zf_f z]
      rcases ih (i + 1) (by omega) with ⟨e, w⟩ | ⟨j, h1, h2, e⟩
      · refine Or.inl ⟨e, fun j h1 h2 => ?_⟩
        by_cases k : j = i
        · subst k; exact z
        · exact w j (by omega) (by omega)
      · exact Or.inr ⟨j, by omega, by omega, e⟩
/-- the height: the lowest bit of the first six, or 6 -/
def zh_ht (x : Int32) : Nat := if bt x 0 then 0 else if bt x 1 then 1 else if bt x 2 then 2 else if bt x 3 then 3 else if bt x 4 then 4 else if bt x 5 then 5 else 6
theorem zh_ht6 (x : Int32) : zh_ht x ≤ 6 := by
  unfold zh_ht
  repeat' split
  all_goals omega
theorem x_heightAt {post : Int32 → Prop} {u : SX} {i : Nat} (hi : i < 24) (h : post (nI (zh_ht (gX_heights u i)))) : wpX_heightAt post u (nI i) := by
  have st : ∀ (n k : Nat), k < 6 → (bt (gX_heights u i) k = true → post (nI k)) → (bt (gX_heights u i) k = false → kX_heightAt_2 post (nI i) n (nI (k + 1)) u) → kX_heightAt_2 post (nI i) (n + 1) (nI k) u := by
    intro n k hk p q
    refine uX_heightAt_2 (br_f (nI_ge (b := 6) hk (by decide)) ⟨vp_in_nI hi (by decide), ?_⟩)
    rw [nI_clamp (by omega)]
    refine br_i (zb_bit _ (j := k) (by omega)) (fun z => ?_) (fun z => ?_)
    · exact nm_r (nI_1 k) (q z)
    · exact p (by simpa using z)
  unfold zh_ht at h
  refine upX_heightAt ⟨7, st 6 0 (by decide) (fun z => ?_) (fun z => ?_)⟩
  · rw [if_pos z] at h; exact h
  rw [z] at h; simp only [Bool.false_eq_true, if_false] at h
  refine st 5 1 (by decide) (fun z => ?_) (fun z => ?_)
  · rw [if_pos z] at h; exact h
  rw [z] at h; simp only [Bool.false_eq_true, if_false] at h
  refine st 4 2 (by decide) (fun z => ?_) (fun z => ?_)
  · rw [if_pos z] at h; exact h
  rw [z] at h; simp only [Bool.false_eq_true, if_false] at h
  refine st 3 3 (by decide) (fun z => ?_) (fun z => ?_)
  · rw [if_pos z] at h; exact h
  rw [z] at h; simp only [Bool.false_eq_true, if_false] at h
  refine st 2 4 (by decide) (fun z => ?_) (fun z => ?_)
  · rw [if_pos z] at h; exact h
  rw [z] at h; simp only [Bool.false_eq_true, if_false] at h
  refine st 1 5 (by decide) (fun z => ?_) (fun z => ?_)
  · rw [if_pos z] at h; exact h
  rw [z] at h; simp only [Bool.false_eq_true, if_false] at h
  exact uX_heightAt_2 (br_t (by decide) h)
def zf_hX (O A : Nat → Int32) (n : Nat) (a : Nat → Int32) (i : Nat) : Prop :=
  a i ≠ 0 ∧ (a i &&& (a i - 1) ≠ 0 ∨ (zt_fall (zh_op O i) ∧ i + 1 = n) ∨ ¬ (zh_P O A i ≤ zh_ht (a i) ∧ zh_ht (a i) - zh_P O A i + zh_Q O i ≤ 6))
theorem x_hasHF {post : Int32 → Prop} {u : SX} {n i : Nat} (hn : n ≤ 24) (hi : i < n) (en : gX_lengths u 8 = nI n) (ho : zi_ok (gX_ops u (192 + i)) (gX_operands u (192 + i))) (h0 : gX_heights u i ≠ 0)
  (h : post (zp (zf_hX (gX_ops u) (gX_operands u) n (gX_heights u) i))) : wpX_hasHeightFault post u (nI i) := by
  have e192 : (192 : Int32) + nI i = nI (192 + i) := by rw [show (192 : Int32) = nI 192 from rfl, nI_add]
  have v216 : vp_in (192 + nI i) 216 := by rw [e192]; exact vp_in_nI (by omega) (by decide)
  have v24 : vp_in (nI i) 24 := vp_in_nI (by omega) (by decide)
  refine upX_hasHeightFault ⟨v216, nm_e ⟨v216, ?_⟩⟩
  rw [e192, nI_clamp (n := 192 + i) (by omega)]
  obtain ⟨o24, eo, fo⟩ := zi_of ho
  have eop : zh_op (gX_ops u) i = (gX_ops u (192 + i)).toNatClampNeg := rfl
  rw [← eop] at o24 eo fo
  rw [eo]
  have P2 := zt_pops2 (zh_op (gX_ops u) i) (gX_operands u (192 + i))
  have Q2 : zt_push (zh_op (gX_ops u) i) < 100 := by
    have : ∀ o, o < 24 → zt_push o < 100 := by decide
    exact this _ o24
  have H6 := zh_ht6 (gX_heights u i)
  refine xt_pops o24 (zi_call fo) (xt_push o24 (x_heightAt (by omega) ⟨v24, v24, ?_⟩))
  rw [nI_clamp (by omega)]
  have q89 : ∀ s l : Prop, (s ↔ gX_heights u i &&& (gX_heights u i - 1) ≠ 0) → (l ↔ (zt_fall (zh_op (gX_ops u) i) ∧ i + 1 = n)) → kX_hasHeightFault_89 post (nI (zt_pops (zh_op (gX_ops u) i) (gX_operands u (192 + i)))) (nI (zt_push (zh_op (gX_ops u) i))) (nI (zh_ht (gX_heights u i))) (zp s) (zp l) u := by
    intro s l hs hl
    refine uX_hasHeightFault_89 (zp_br (fun z => zp_br (fun w => ?_) (fun w => ?_)) (fun z => ?_))
    · refine x_fits (by omega) (by omega) Q2 (zp_br (fun k => ?_) (fun k => ?_))
      · rw [zp_t ⟨h0, Or.inr (Or.inr k)⟩] at h; exact h
      · rw [zp_f (fun j => ?_)] at h
        · exact h
        · rcases j.2 with j | j | j
          · exact z (hs.mpr j)
          · exact w (hl.mpr j)
          · exact j k
    · rw [zp_t ⟨h0, Or.inr (Or.inl (hl.mp w))⟩] at h; exact h
    · rw [zp_t ⟨h0, Or.inl (hs.mp z)⟩] at h; exact h
  have q62 : ∀ s : Prop, (s ↔ gX_heights u i &&& (gX_heights u i - 1) ≠ 0) → kX_hasHeightFault_62 post (nI i) (nI (zh_op (gX_ops u) i)) (nI (zt_pops (zh_op (gX_ops u) i) (gX_operands u (192 + i)))) (nI (zt_push (zh_op (gX_ops u) i))) (nI (zh_ht (gX_heights u i))) (zp s) u := by
    intro s hs
    refine uX_hasHeightFault_62 (xt_fall o24 (zp_br (fun z => ?_) (fun z => ?_)))
    · have := q89 s False hs ⟨fun k => k.elim, fun k => z k.1⟩
      rw [zp_f (fun k => k)] at this
      exact uX_hasHeightFault_88 this
    · rw [nI_1, en]
      refine br_i (nI_eq (by omega) (by omega)) (fun w => ?_) (fun w => ?_)
      · have := q89 s True hs ⟨fun _ => ⟨z, w⟩, fun _ => trivial⟩
        rw [zp_t trivial] at this
        exact this
      · have := q89 s False hs ⟨fun k => k.elim, fun k => w k.2⟩
        rw [zp_f (fun k => k)] at this
        exact uX_hasHeightFault_88 this
  refine br_c (fun z => ?_) (fun z => ?_)
  · have := q62 False ⟨fun k => k.elim, fun k => k z⟩
    rw [zp_f (fun k => k)] at this
    exact this
  · have := q62 True ⟨fun _ => z, fun _ => trivial⟩
    rw [zp_t trivial] at this
    exact this
theorem x_heightFault {post : Int32 → Prop} {u : SX} {n : Nat} (hn : n ≤ 24) (en : gX_lengths u 8 = nI n) (ho : ∀ i, i < n → zi_ok (gX_ops u (192 + i)) (gX_operands u (192 + i)))
  (h : post (zf (zf_hX (gX_ops u) (gX_operands u) n (gX_heights u)) n 0)) : wpX_heightFault post u := by
  have z : ∀ d i, i + d = n → post (zf (zf_hX (gX_ops u) (gX_operands u) n (gX_heights u)) d i) → kX_heightFault_2 post (d + 1) (nI i) u := by
    intro d
    induction d with
    | zero =>
      intro i hi hp
      have : i = n := by omega
      subst this
      refine uX_heightFault_2 (br_t ?_ hp)
      rw [en]; exact Int32.le_refl _
    | succ d ih =>
      intro i hi hp
      refine uX_heightFault_2 (br_f ?_ ⟨vp_in_nI (by omega) (by decide), ?_⟩)
      · rw [en]; exact nI_ge (by omega) (by omega)
      · rw [nI_clamp (by omega)]
        refine br_c (fun z => ?_) (fun z => ?_)
        · rw [zf_f (fun w => w.1 z)] at hp
          exact nm_r (nI_1 i) (ih (i + 1) (by omega) hp)
        · refine x_hasHF hn (by omega) en (ho i (by omega)) z (zp_br (fun w => ?_) (fun w => ?_))
          · rw [zf_f w] at hp
            exact nm_r (nI_1 i) (ih (i + 1) (by omega) hp)
          · rw [zf_t w] at hp
            exact hp
  exact upX_heightFault ⟨n + 1, z n 0 (by omega) h⟩
end
section
/-! Y's heights -/
theorem zn_by {h P Q : Nat} (hp : P ≤ h) : nI h + (nI Q - nI P) = nI (h - P + Q) := by
  have e1 : nI h = nI (h - P) + nI P := by rw [nI_add]; exact congrArg nI (by omega)
  have e2 : nI (h - P + Q) = nI (h - P) + nI Q := (nI_add _ _).symm
  rw [e1, e2]
  generalize nI (h - P) = a
  generalize nI P = p
  generalize nI Q = q
  grind
theorem sY_hself (u : SY) : sY_heights (gY_heights u) u = u := rfl
theorem sX_hself (u : SX) : sX_heights (gX_heights u) u = u := rfl
theorem y_can {post : Int32 → Prop} {u : SY} {i h : Nat} (hi : i < 24) (hh : h < 100) (ho : zi_ok (gY_ops u (192 + i)) (gY_args u (192 + i))) (hp : post (zp (zh_P (gY_ops u) (gY_args u) i ≤ h ∧ h - zh_P (gY_ops u) (gY_args u) i + zh_Q (gY_ops u) i ≤ 6))) : wpY_can post u (nI i) (nI h) := by
  have e192 : (192 : Int32) + nI i = nI (192 + i) := by rw [show (192 : Int32) = nI 192 from rfl, nI_add]
  have v216 : vp_in (192 + nI i) 216 := by rw [e192]; exact vp_in_nI (by omega) (by decide)
  refine upY_can ⟨v216, v216, ?_⟩
  rw [e192, nI_clamp (by omega)]
  obtain ⟨o24, eo, fo⟩ := zi_of ho
  have eop : zh_op (gY_ops u) i = (gY_ops u (192 + i)).toNatClampNeg := rfl
  rw [← eop] at o24 eo fo
  rw [eo]
  have P2 := zt_pops2 (zh_op (gY_ops u) i) (gY_args u (192 + i))
  have Q2 : zt_push (zh_op (gY_ops u) i) < 100 := by
    have : ∀ o, o < 24 → zt_push o < 100 := by decide
    exact this _ o24
  refine yt_pops o24 (zi_call fo) ⟨?_, yt_push o24 ?_⟩
  · rw [← e192]; exact v216
  unfold zh_P zh_Q at hp
  refine br_i (nI_ltI (by omega) (by omega)) (fun z => ?_) (fun z => ?_)
  · rw [zp_f (fun w => by omega)] at hp; exact hp
  · rw [pk_sub (by omega), nI_add]
    refine br_i (nI_ltI (a := 6) (by decide) (by omega)) (fun w => ?_) (fun w => ?_)
    · rw [zp_f (fun k => by omega)] at hp; exact hp
    · rw [zp_t ⟨by omega, by omega⟩] at hp; exact hp
theorem y_reachH {post : Int32 → SY → Prop} {u : SY} {n t : Nat} {x : Int32} (hn : n ≤ 24) (en : gY_length u 8 = nI n) (ht : t ≤ 24) (h : post (zp (zh_ch n (gY_heights u) t x)) (sY_heights (zh_ad n (gY_heights u) t x) u)) : wpY_reach post u (nI t) x := by
  refine upY_reach ?_
  rw [en]
  refine br_i (nI_leI (by omega) (by omega)) (fun z => ?_) (fun z => ?_)
  · unfold zh_ad zh_ch at h
    rw [if_neg (by omega), zp_f (fun k => by omega)] at h
    exact h
  · have hi : vp_in (nI t) 24 := vp_in_nI (by omega) (by decide)
    refine ⟨hi, hi, ?_⟩
    rw [nI_clamp (by omega)]
    refine br_c (fun w => ?_) (fun w => ⟨hi, hi, nm_e ?_⟩)
    · rw [zh_adn (fun k => k.2 w), zp_f (fun k => k.2 w)] at h
      exact h
    · unfold zh_ad zh_ch at h
      rw [if_pos (by omega), zp_t ⟨by omega, w⟩] at h
      exact h
theorem y_isCaught {post : Int32 → Prop} {u : SY} {p : Int32} (h : post (zp (zh_cg (gY_from u) (gY_to u) 8 p))) : wpY_isCaught post u p := by
  refine upY_isCaught (br_c (fun z => ?_) (fun z => br_c (fun w => ?_) (fun w => ?_)))
  · rw [zp_f (fun k => k.1 z)] at h; exact h
  · rw [zp_f (fun k => k.2 w)] at h; exact h
  · rw [zp_t ⟨z, w⟩] at h; exact h
theorem y_leads {post : Int32 → SY → Prop} {u : SY} {n i : Nat} (hn : n ≤ 24) (hi : i < n) (en : gY_length u 8 = nI n) (ho : zi_ok (gY_ops u (192 + i)) (gY_args u (192 + i))) (hg : zh_cg (gY_from u) (gY_to u) 8 (nI i) → ∃ g, g ≤ 24 ∧ gY_goal u 8 = nI g)
  {E : Nat → Nat → Nat → Nat → Prop} (eE : E = zh_E (gY_ops u) (gY_args u) (gY_from u) (gY_to u) (gY_goal u) n) (hS : zh_S E n (gY_heights u))
  (h : ∀ (b : Nat → Int32) (c : Prop), zh_sp E n i (gY_heights u) b c → post (zp c) (sY_heights b u)) : wpY_leads post u (nI i) := by
  have v24 : vp_in (nI i) 24 := vp_in_nI (by omega) (by decide)
  have e192 : (192 : Int32) + nI i = nI (192 + i) := by rw [show (192 : Int32) = nI 192 from rfl, nI_add]
  have v216 : vp_in (192 + nI i) 216 := by rw [e192]; exact vp_in_nI (by omega) (by decide)
  refine upY_leads ⟨v216, nm_e ?_⟩
  rw [e192, nI_clamp (by omega)]
  obtain ⟨o24, eo, fo⟩ := zi_of ho
  have eop : zh_op (gY_ops u) i = (gY_ops u (192 + i)).toNatClampNeg := rfl
  rw [← eop] at o24 eo fo
  rw [eo]
  have P2 := zt_pops2 (zh_op (gY_ops u) i) (gY_args u (192 + i))
  have Q2 : zt_push (zh_op (gY_ops u) i) < 100 := by
    have : ∀ o, o < 24 → zt_push o < 100 := by decide
    exact this _ o24
  refine yt_push o24 ⟨by rw [← e192]; exact v216, yt_pops o24 (zi_call fo) (nm_e ⟨8, ?_⟩)⟩
  -- the loop over heights
  have lp : ∀ d k acc, k + d = 7 → zh_bv (gY_heights u i) (zh_P (gY_ops u) (gY_args u) i) (zh_Q (gY_ops u) i) k acc → kY_leads_37 post (nI i) (nI (zh_op (gY_ops u) i)) (nI (zt_push (zh_op (gY_ops u) i)) - nI (zt_pops (zh_op (gY_ops u) i) (gY_args u (192 + i)))) (d + 1) acc (nI k) u := by
    intro d
    induction d with
    | zero =>
      intro k y hk hy
      have : k = 7 := by omega
      subst this
      refine uY_leads_37 (br_t (by decide) ⟨v24, ?_⟩)
      rw [nI_clamp (by omega)]
      have sy : ∀ j k, j < n → ((zt_jump (zh_op (gY_ops u) i) ∧ gY_args u (192 + i) = nI j) ∨ (zt_fall (zh_op (gY_ops u) i) ∧ j = i + 1)) → k < 32 → bt y k = true → k < 7 ∧ zh_R E n j k := by
        intro j k hj w hk b
        obtain ⟨h, h7, b1, b2, b3, rfl⟩ := (hy k hk).mp b
        refine ⟨by omega, zh_Rs hi (hS i hi h (by omega) b1).2 ?_⟩
        rw [eE]
        exact ⟨hj, Or.inl ⟨b2, b3, rfl, w⟩⟩
      have jt : zt_jump (zh_op (gY_ops u) i) → ∃ t, t ≤ 24 ∧ gY_args u (192 + i) = nI t := by
        intro w
        have : zi_lim (zh_op (gY_ops u) i) = 24 := by
          rcases w with w | w | w <;> rw [w] <;> rfl
        obtain ⟨j, hj, e⟩ := zi_fj fo this (by decide)
        exact ⟨j, by omega, e⟩
      have key : ∀ (a1 a2 a3 : Nat → Int32) (c1 c2 c3 : Prop),
          (((gY_heights u i ≠ 0 ∧ zh_cg (gY_from u) (gY_to u) 8 (nI i)) ∧ a1 = zh_ad n (gY_heights u) (gY_goal u 8).toNatClampNeg 2 ∧ (c1 ↔ zh_ch n (gY_heights u) (gY_goal u 8).toNatClampNeg 2)) ∨ (¬ (gY_heights u i ≠ 0 ∧ zh_cg (gY_from u) (gY_to u) 8 (nI i)) ∧ a1 = gY_heights u ∧ ¬ c1)) →
          (((zt_jump (zh_op (gY_ops u) i) ∧ y ≠ 0) ∧ a2 = zh_ad n a1 (gY_args u (192 + i)).toNatClampNeg y ∧ (c2 ↔ zh_ch n a1 (gY_args u (192 + i)).toNatClampNeg y)) ∨ (¬ (zt_jump (zh_op (gY_ops u) i) ∧ y ≠ 0) ∧ a2 = a1 ∧ ¬ c2)) →
          (((zt_fall (zh_op (gY_ops u) i) ∧ y ≠ 0) ∧ a3 = zh_ad n a2 (i + 1) y ∧ (c3 ↔ zh_ch n a2 (i + 1) y)) ∨ (¬ (zt_fall (zh_op (gY_ops u) i) ∧ y ≠ 0) ∧ a3 = a2 ∧ ¬ c3)) → zh_sp E n i (gY_heights u) a3 (c1 ∨ c2 ∨ c3) := by
        intro a1 a2 a3 c1 c2 c3 e1 e2 e3
        refine zh_three hn hS ?_ ?_ ?_ ?_ e1 e2 e3
        · rintro ⟨z, w⟩ ht k hk b
          obtain ⟨g, hg2, eg⟩ := hg w
          have k1 : k = 1 := by
            have : ∀ k, k < 32 → bt 2 k = true → k = 1 := by decide
            exact this k hk b
          subst k1
          obtain ⟨q, hq, bq⟩ := zb_ne z
          rw [b_0] at bq
          have bq : bt (gY_heights u i) q = true := by simpa using bq
          refine ⟨by decide, zh_Rs hi (hS i hi q hq bq).2 ?_⟩
          rw [eE]
          rw [eg, nI_clamp (by omega)] at ht ⊢
          exact ⟨ht, Or.inr ⟨w, eg, rfl⟩⟩
        · rintro ⟨w, _⟩ ht k hk b
          obtain ⟨t, ht2, et⟩ := jt w
          rw [et, nI_clamp (by omega)] at ht ⊢
          exact sy t k ht (Or.inl ⟨w, et⟩) hk b
        · rintro ⟨w, _⟩ ht k hk b
          exact sy (i + 1) k ht (Or.inr ⟨w, rfl⟩) hk b
        · intro h h7 b j k e
          rw [eE] at e
          have ny : ∀ k, bt y k = true → y ≠ 0 := by
            intro k b e; rw [e, b_0] at b; exact absurd b (by decide)
          obtain ⟨hj, ⟨q1, q2, q3, ⟨q4, q5⟩ | ⟨q4, q5⟩⟩ | ⟨q1, q2, q3⟩⟩ := e
          · have k7 : k < 32 := by omega
            have bk := (hy k k7).mpr ⟨h, h7, b, q1, q2, q3⟩
            exact ⟨hj, Or.inr (Or.inl ⟨⟨q4, ny k bk⟩, by rw [q5, nI_clamp (by omega)], bk⟩)⟩
          · have k7 : k < 32 := by omega
            have bk := (hy k k7).mpr ⟨h, h7, b, q1, q2, q3⟩
            exact ⟨hj, Or.inr (Or.inr ⟨⟨q4, ny k bk⟩, q5, bk⟩)⟩
          · subst q3
            refine ⟨hj, Or.inl ⟨⟨fun e => ?_, q1⟩, by rw [q2, nI_clamp (by omega)], by decide⟩⟩
            rw [e, b_0] at b; exact absurd b (by decide)
      -- the third addition
      have third : ∀ (a1 a2 : Nat → Int32) (c1 c2 : Prop), (((gY_heights u i ≠ 0 ∧ zh_cg (gY_from u) (gY_to u) 8 (nI i)) ∧ a1 = zh_ad n (gY_heights u) (gY_goal u 8).toNatClampNeg 2 ∧ (c1 ↔ zh_ch n (gY_heights u) (gY_goal u 8).toNatClampNeg 2)) ∨ (¬ (gY_heights u i ≠ 0 ∧ zh_cg (gY_from u) (gY_to u) 8 (nI i)) ∧ a1 = gY_heights u ∧ ¬ c1)) →
          (((zt_jump (zh_op (gY_ops u) i) ∧ y ≠ 0) ∧ a2 = zh_ad n a1 (gY_args u (192 + i)).toNatClampNeg y ∧ (c2 ↔ zh_ch n a1 (gY_args u (192 + i)).toNatClampNeg y)) ∨ (¬ (zt_jump (zh_op (gY_ops u) i) ∧ y ≠ 0) ∧ a2 = a1 ∧ ¬ c2)) → kY_leads_158 post (nI i) (nI (zh_op (gY_ops u) i)) y (zp (c1 ∨ c2)) (sY_heights a2 u) := by
        intro a1 a2 c1 c2 e1 e2
        have no : ¬ (zt_fall (zh_op (gY_ops u) i) ∧ y ≠ 0) → post (zp (c1 ∨ c2)) (sY_heights a2 u) := by
          intro w
          have := h a2 _ (key a1 a2 a2 c1 c2 False e1 e2 (Or.inr ⟨w, rfl, fun k => k⟩))
          rw [zp_c (show (c1 ∨ c2 ∨ False) ↔ (c1 ∨ c2) by simp)] at this
          exact this
        refine uY_leads_158 (yt_fall o24 (zp_br (fun w => ⟨zp_n _, no (fun k => w k.1)⟩) (fun w => br_c (fun q => ⟨zp_n _, no (fun k => k.2 q)⟩) (fun q => ?_))))
        rw [nI_1]
        refine y_reachH (u := sY_heights a2 u) hn en (by omega) (nm_r (zp_or _ _) ⟨zp_n _, ?_⟩)
        rw [sY_hh, sY_gh]
        have := h _ _ (key a1 a2 _ c1 c2 _ e1 e2 (Or.inl ⟨⟨w, q⟩, rfl, Iff.rfl⟩))
        rw [zp_c (show (c1 ∨ c2 ∨ zh_ch n a2 (i + 1) y) ↔ ((c1 ∨ c2) ∨ zh_ch n a2 (i + 1) y) from or_assoc.symm)] at this
        exact this
      have second : ∀ (a1 : Nat → Int32) (c1 : Prop), (((gY_heights u i ≠ 0 ∧ zh_cg (gY_from u) (gY_to u) 8 (nI i)) ∧ a1 = zh_ad n (gY_heights u) (gY_goal u 8).toNatClampNeg 2 ∧ (c1 ↔ zh_ch n (gY_heights u) (gY_goal u 8).toNatClampNeg 2)) ∨ (¬ (gY_heights u i ≠ 0 ∧ zh_cg (gY_from u) (gY_to u) 8 (nI i)) ∧ a1 = gY_heights u ∧ ¬ c1)) → kY_leads_123 post (nI i) (nI (zh_op (gY_ops u) i)) y (zp c1) (sY_heights a1 u) := by
        intro a1 c1 e1
        have no : ¬ (zt_jump (zh_op (gY_ops u) i) ∧ y ≠ 0) → kY_leads_158 post (nI i) (nI (zh_op (gY_ops u) i)) y (zp c1) (sY_heights a1 u) := by
          intro w
          have := third a1 a1 c1 False e1 (Or.inr ⟨w, rfl, fun k => k⟩)
          rw [zp_c (show (c1 ∨ False) ↔ c1 by simp)] at this
          exact this
        refine uY_leads_123 (yt_jump o24 (zp_br (fun w => no (fun k => w k.1)) (fun w => br_c (fun q => no (fun k => k.2 q)) (fun q => ⟨v216, ?_⟩))))
        show wpY_reach _ _ (gY_args u (192 + nI i).toNatClampNeg) _
        rw [e192, nI_clamp (by omega)]
        obtain ⟨t, ht, et⟩ := jt w
        have q2 := fun c2 hc => third a1 _ c1 c2 e1 (Or.inl ⟨⟨w, q⟩, rfl, hc⟩)
        rw [et, nI_clamp (by omega)] at q2
        rw [et]
        refine y_reachH (u := sY_heights a1 u) hn en ht (nm_r (zp_or _ _) ?_)
        rw [sY_hh, sY_gh]
        exact q2 _ Iff.rfl
      have none1 : ¬ (gY_heights u i ≠ 0 ∧ zh_cg (gY_from u) (gY_to u) 8 (nI i)) → kY_leads_122 post (nI i) (nI (zh_op (gY_ops u) i)) y u := by
        intro w
        have := second (gY_heights u) False (Or.inr ⟨w, rfl, fun k => k⟩)
        rw [zp_f (fun k => k)] at this
        exact uY_leads_122 this
      refine br_c (fun z => none1 (fun k => k.1 z)) (fun z => y_isCaught (zp_br (fun w => none1 (fun k => w k.2)) (fun w => ?_)))
      obtain ⟨g, hg2, eg⟩ := hg w
      have q1 := fun c1 hc => second _ c1 (Or.inl ⟨⟨z, w⟩, rfl, hc⟩)
      rw [eg, nI_clamp (by omega)] at q1
      rw [eg]
      refine y_reachH hn en hg2 (zp_br (fun q => ?_) (fun q => ?_))
      · have := q1 _ Iff.rfl
        rw [zp_f q] at this
        exact uY_leads_122 this
      · have := q1 _ Iff.rfl
        rw [zp_t q] at this
        exact this
    | succ d ih =>
      intro k y hk hy
      refine uY_leads_37 (br_f (nI_nlt (a := 6) (b := k) (by omega) (by decide)) ⟨v24, ?_⟩)
      rw [nI_clamp (by omega)]
      refine br_i (zb_bit1 _ (j := k) (by omega)) (fun z => ?_) (fun z => ?_)
      · refine y_can (by omega) (by omega) ho (zp_br (fun w => ?_) (fun w => ?_))
        · exact nm_r (nI_1 k) (ih (k + 1) y (by omega) (zh_bvs0 hy (fun q => w q.2)))
        · refine nm_e (nm_r (nI_1 k) ?_)
          have e3 := zn_by (Q := zt_push (zh_op (gY_ops u) i)) w.1
          have e4 : zh_P (gY_ops u) (gY_args u) i = zt_pops (zh_op (gY_ops u) i) (gY_args u (192 + i)) := rfl
          rw [e4] at e3
          rw [e3]
          exact ih (k + 1) _ (by omega) (zh_bvs1 hy ⟨z, w⟩)
      · exact nm_r (nI_1 k) (ih (k + 1) y (by omega) (zh_bvs0 hy (fun q => z q.1)))
  exact lp 7 0 0 rfl zh_bv0
/-! the loop until nothing changes, and the fault -/
def zf_hY (O A : Nat → Int32) (n : Nat) (a : Nat → Int32) (i : Nat) : Prop :=
  a i ≠ 0 ∧ (a i &&& (a i - 1) ≠ 0 ∨ (zt_fall (zh_op O i) ∧ n ≤ i + 1) ∨ ∃ h, h < 7 ∧ bt (a i) h = true ∧ ¬ (zh_P O A i ≤ h ∧ h - zh_P O A i + zh_Q O i ≤ 6))
theorem y_un133 {post : Int32 → SY → Prop} {J : Int32 → Prop} {u : SY} {n i : Nat} (hi : i < 24) (ho : zi_ok (gY_ops u (192 + i)) (gY_args u (192 + i))) {x : Int32} {q : Prop}
  (h1 : (q ∧ ∀ h, h < 7 → bt x h = true → (zh_P (gY_ops u) (gY_args u) i ≤ h ∧ h - zh_P (gY_ops u) (gY_args u) i + zh_Q (gY_ops u) i ≤ 6)) → J (nI (i + 1))) (h2 : ¬ (q ∧ ∀ h, h < 7 → bt x h = true → (zh_P (gY_ops u) (gY_args u) i ≤ h ∧ h - zh_P (gY_ops u) (gY_args u) i + zh_Q (gY_ops u) i ≤ 6)) → post (nI i) u) :
  ∀ d k c, k + d = 7 → (c ↔ (q ∧ ∀ h, h < k → bt x h = true → (zh_P (gY_ops u) (gY_args u) i ≤ h ∧ h - zh_P (gY_ops u) (gY_args u) i + zh_Q (gY_ops u) i ≤ 6))) → kY_uneven_133 post J (nI n) (nI i) x (d + 1) (zp c) (nI k) u := by
  intro d
  induction d with
  | zero =>
    intro k c hk hc
    have : k = 7 := by omega
    subst this
    refine uY_uneven_133 (br_t (by decide) (zp_br (fun z => h2 (fun w => z (hc.mpr w))) (fun z => ?_)))
    exact nm_r (nI_1 i) (h1 (hc.mp z))
  | succ d ih =>
    intro k c hk hc
    refine uY_uneven_133 (br_f (nI_nlt (a := 6) (b := k) (by omega) (by decide)) ?_)
    refine br_i (zb_bit1 _ (j := k) (by omega)) (fun z => ?_) (fun z => ?_)
    · refine y_can hi (by omega) ho (zp_br (fun w => ?_) (fun w => ?_))
      · have := ih (k + 1) False (by omega) ⟨fun e => e.elim, fun e => w (e.2 k (by omega) z)⟩
        rw [zp_f (fun e => e)] at this
        exact nm_r (nI_1 k) this
      · refine nm_r (nI_1 k) (ih (k + 1) c (by omega) ?_)
        rw [hc]
        constructor
        · rintro ⟨e1, e2⟩
          refine ⟨e1, fun h hh b => ?_⟩
          by_cases e : h = k
          · subst e; exact w
          · exact e2 h (by omega) b
        · rintro ⟨e1, e2⟩
          exact ⟨e1, fun h hh b => e2 h (by omega) b⟩
    · refine nm_r (nI_1 k) (ih (k + 1) c (by omega) ?_)
      rw [hc]
      constructor
      · rintro ⟨e1, e2⟩
        refine ⟨e1, fun h hh b => ?_⟩
        by_cases e : h = k
        · subst e; exact absurd b z
        · exact e2 h (by omega) b
      · rintro ⟨e1, e2⟩
        exact ⟨e1, fun h hh b => e2 h (by omega) b⟩
theorem y_un69 {post : Int32 → SY → Prop} {u : SY} {n : Nat} (hn : n ≤ 24) (ho : ∀ i, i < n → zi_ok (gY_ops u (192 + i)) (gY_args u (192 + i))) :
  ∀ d i, i + d = n → post (zf (zf_hY (gY_ops u) (gY_args u) n (gY_heights u)) d i) u → kY_uneven_69 post (nI n) (d + 1) (nI i) u := by
  intro d
  induction d with
  | zero =>
    intro i hi hp
    have : i = n := by omega
    subst this
    exact uY_uneven_69 (br_t (Int32.le_refl _) hp)
  | succ d ih =>
    intro i hi hp
    have e192 : (192 : Int32) + nI i = nI (192 + i) := by rw [show (192 : Int32) = nI 192 from rfl, nI_add]
    have v216 : vp_in (192 + nI i) 216 := by rw [e192]; exact vp_in_nI (by omega) (by decide)
    refine uY_uneven_69 (br_f (nI_ge (by omega) (by omega)) ⟨vp_in_nI (by omega) (by decide), nm_e ?_⟩)
    rw [nI_clamp (by omega)]
    obtain ⟨o24, eo, fo⟩ := zi_of (ho i (by omega))
    have eop : zh_op (gY_ops u) i = (gY_ops u (192 + i)).toNatClampNeg := rfl
    rw [← eop] at o24 eo fo
    refine br_c (fun z => ?_) (fun z => ?_)
    · rw [zf_f (fun w => w.1 z)] at hp
      exact nm_r (nI_1 i) (ih (i + 1) (by omega) hp)
    · have go : ∀ q : Prop, (q ↔ (gY_heights u i &&& (gY_heights u i - 1) = 0 ∧ ¬ (zt_fall (zh_op (gY_ops u) i) ∧ n ≤ i + 1))) → kY_uneven_133 post (fun x3 => kY_uneven_69 post (nI n) (d + 1) x3 u) (nI n) (nI i) (gY_heights u i) 8 (zp q) 0 u := by
        intro q hq
        refine y_un133 (q := q) (by omega) (ho i (by omega)) (fun w => ?_) (fun w => ?_) 7 0 q rfl ⟨fun e => ⟨e, fun h hh => absurd hh (by omega)⟩, fun e => e.1⟩
        · have w1 := hq.mp w.1
          rw [zf_f (fun k => ?_)] at hp
          · exact ih (i + 1) (by omega) hp
          · rcases k.2 with k | k | ⟨h, h7, b, k⟩
            · exact k w1.1
            · exact w1.2 k
            · exact k (w.2 h h7 b)
        · rw [zf_t ?_] at hp
          · exact hp
          · refine ⟨z, ?_⟩
            by_cases k1 : gY_heights u i &&& (gY_heights u i - 1) = 0
            · by_cases k2 : zt_fall (zh_op (gY_ops u) i) ∧ n ≤ i + 1
              · exact Or.inr (Or.inl k2)
              · refine Or.inr (Or.inr ?_)
                by_cases k3 : ∃ h, h < 7 ∧ bt (gY_heights u i) h = true ∧ ¬ (zh_P (gY_ops u) (gY_args u) i ≤ h ∧ h - zh_P (gY_ops u) (gY_args u) i + zh_Q (gY_ops u) i ≤ 6)
                · exact k3
                · refine absurd ⟨hq.mpr ⟨k1, k2⟩, fun h h7 b => ?_⟩ w
                  by_cases k4 : zh_P (gY_ops u) (gY_args u) i ≤ h ∧ h - zh_P (gY_ops u) (gY_args u) i + zh_Q (gY_ops u) i ≤ 6
                  · exact k4
                  · exact absurd ⟨h, h7, b, k4⟩ k3
            · exact Or.inl k1
      have go1 : (gY_heights u i &&& (gY_heights u i - 1) = 0 ∧ ¬ (zt_fall (zh_op (gY_ops u) i) ∧ n ≤ i + 1)) → kY_uneven_133 post (fun x3 => kY_uneven_69 post (nI n) (d + 1) x3 u) (nI n) (nI i) (gY_heights u i) 8 1 0 u := by
        intro k
        have := go True ⟨fun _ => k, fun _ => trivial⟩
        rw [zp_t trivial] at this
        exact this
      have go0 : ¬ (gY_heights u i &&& (gY_heights u i - 1) = 0 ∧ ¬ (zt_fall (zh_op (gY_ops u) i) ∧ n ≤ i + 1)) → kY_uneven_133 post (fun x3 => kY_uneven_69 post (nI n) (d + 1) x3 u) (nI n) (nI i) (gY_heights u i) 8 0 0 u := by
        intro k
        have := go False ⟨fun e => e.elim, fun e => k e⟩
        rw [zp_f (fun e => e)] at this
        exact this
      refine br_c (fun w => ⟨v216, ?_⟩) (fun w => ⟨8, go0 (fun k => w k.1)⟩)
      rw [e192, nI_clamp (by omega), eo]
      refine yt_fall o24 (zp_br (fun k => ⟨8, go1 ⟨w, fun j => k j.1⟩⟩) (fun k => ?_))
      rw [nI_1]
      exact br_i (nI_leI (by omega) (by omega)) (fun j => ⟨8, go0 (fun e => e.2 ⟨k, j⟩)⟩) (fun j => ⟨8, go1 ⟨w, fun e => j e.2⟩⟩)
theorem y_un45 {post : Int32 → SY → Prop} {J : Int32 → SY → Prop} {u : SY} {n : Nat} (hn : n ≤ 24) (en : gY_length u 8 = nI n) (ho : ∀ i, i < n → zi_ok (gY_ops u (192 + i)) (gY_args u (192 + i))) (hg : ∀ i, zh_cg (gY_from u) (gY_to u) 8 (nI i) → ∃ g, g ≤ 24 ∧ gY_goal u 8 = nI g)
  {E : Nat → Nat → Nat → Nat → Prop} (eE : E = zh_E (gY_ops u) (gY_args u) (gY_from u) (gY_to u) (gY_goal u) n) {a0 : Nat → Int32}
  (hJ : ∀ (a : Nat → Int32) (c : Prop), zh_S E n a → (∀ t h, bt (a0 t) h = true → bt (a t) h = true) → (c → zs_m 7 24 a0 < zs_m 7 24 a) → (¬ c → ∀ i, i < n → zh_K E a i) → J (zp c) (sY_heights a u)) :
  ∀ d i a c, i + d = n → zh_S E n a → (∀ t h, bt (a0 t) h = true → bt (a t) h = true) → (c → zs_m 7 24 a0 < zs_m 7 24 a) → (¬ c → a = a0 ∧ ∀ k, k < i → zh_K E a0 k) → kY_uneven_45 post J (nI n) (d + 1) (zp c) (nI i) (sY_heights a u) := by
  intro d
  induction d with
  | zero =>
    intro i a c hi hS hm hc hk
    have : i = n := by omega
    subst this
    refine uY_uneven_45 (br_t (Int32.le_refl _) (hJ a c hS hm hc (fun z => ?_)))
    obtain ⟨rfl, k⟩ := hk z
    exact k
  | succ d ih =>
    intro i a c hi hS hm hc hk
    refine uY_uneven_45 (br_f (nI_ge (by omega) (by omega)) ?_)
    refine y_leads (u := sY_heights a u) hn (by omega) en (ho i (by omega)) (hg i) eE hS (fun b c' sp => nm_r (zp_or _ _) (nm_r (nI_1 i) ?_))
    rw [sY_hh]
    obtain ⟨Sb, mb, lb, kb⟩ := sp
    have hm' : ∀ t h, bt (a0 t) h = true → bt (b t) h = true := fun t h w => mb t h (hm t h w)
    refine ih (i + 1) b (c ∨ c') (by omega) Sb hm' (fun z => ?_) (fun z => ?_)
    · by_cases w : c'
      · exact Nat.lt_of_le_of_lt (zs_mle (fun t _ j _ w => hm t j w)) (lb w)
      · obtain ⟨rfl, _⟩ := kb w
        exact hc (z.elim id (fun k => absurd k w))
    · obtain ⟨rfl, kk⟩ := kb (fun w => z (Or.inr w))
      obtain ⟨rfl, k⟩ := hk (fun w => z (Or.inl w))
      refine ⟨rfl, fun j hj => ?_⟩
      by_cases e : j = i
      · subst e; exact kk
      · exact k j (by omega)
theorem y_uneven {post : Int32 → SY → Prop} {u : SY} {n : Nat} (hn0 : 0 < n) (hn : n ≤ 24) (en : gY_length u 8 = nI n) (ho : ∀ i, i < n → zi_ok (gY_ops u (192 + i)) (gY_args u (192 + i))) (hg : ∀ i, zh_cg (gY_from u) (gY_to u) 8 (nI i) → ∃ g, g ≤ 24 ∧ gY_goal u 8 = nI g)
  {E : Nat → Nat → Nat → Nat → Prop} (eE : E = zh_E (gY_ops u) (gY_args u) (gY_from u) (gY_to u) (gY_goal u) n) (h : ∀ a, zh_F E n a → post (zf (zf_hY (gY_ops u) (gY_args u) n a) n 0) (sY_heights a u)) : wpY_uneven post u := by
  have hE : ∀ i h j k, E i h j k → j < n ∧ k < 7 := by
    intro i h j k e; rw [eE] at e; exact zh_E7 e
  have l37 : ∀ d a c, 168 - zs_m 7 24 a < d + 1 → zh_S E n a → bt (a 0) 0 = true → (¬ c → ∀ i, i < n → zh_K E a i) → kY_uneven_37 post (nI n) (d + 2) (zp c) (sY_heights a u) := by
    intro d
    induction d with
    | zero =>
      intro a c hd hS h0 hk
      refine uY_uneven_37 (zp_br (fun z => ⟨_, y_un69 (u := sY_heights a u) hn ho n 0 (by omega) (h a (zh_fin hn0 hE hS h0 (hk z)))⟩) (fun z => ?_))
      have q := y_un45 (post := post) (J := kY_uneven_37 post (nI n) 1) (u := u) hn en ho hg eE (a0 := a) ?_ n 0 a False (by omega) hS (fun _ _ b => b) (fun k => k.elim) (fun _ => ⟨rfl, fun k hk => absurd hk (by omega)⟩)
      · rw [zp_f (fun k => k)] at q
        exact ⟨_, q⟩
      · intro a' c' S' m' l' k'
        have nc : ¬ c' := fun w => by
          have := l' w
          have := zs_mub 7 24 a'
          omega
        refine uY_uneven_37 (zp_br (fun z => ⟨_, y_un69 (u := sY_heights a' u) hn ho n 0 (by omega) (h a' (zh_fin hn0 hE S' (m' 0 0 h0) (k' z)))⟩) (fun z => absurd z nc))
    | succ d ih =>
      intro a c hd hS h0 hk
      refine uY_uneven_37 (zp_br (fun z => ⟨_, y_un69 (u := sY_heights a u) hn ho n 0 (by omega) (h a (zh_fin hn0 hE hS h0 (hk z)))⟩) (fun z => ?_))
      have q := y_un45 (post := post) (J := kY_uneven_37 post (nI n) (d + 2)) (u := u) hn en ho hg eE (a0 := a) ?_ n 0 a False (by omega) hS (fun _ _ b => b) (fun k => k.elim) (fun _ => ⟨rfl, fun k hk => absurd hk (by omega)⟩)
      · rw [zp_f (fun k => k)] at q
        exact ⟨_, q⟩
      · intro a' c' S' m' l' k'
        by_cases w : c'
        · refine ih a' c' ?_ S' (m' 0 0 h0) k'
          have := l' w
          have := zs_mub 7 24 a'
          omega
        · exact uY_uneven_37 (zp_br (fun z => ⟨_, y_un69 (u := sY_heights a' u) hn ho n 0 (by omega) (h a' (zh_fin hn0 hE S' (m' 0 0 h0) (k' z)))⟩) (fun z => absurd z w))
  have z : ∀ d i a, i + d = n → (∀ t, t < i → a t = 0) → kY_uneven_10 post (nI n) (d + 1) (nI i) (sY_heights a u) := by
    intro d
    induction d with
    | zero =>
      intro i a hi ha
      have : i = n := by omega
      subst this
      refine uY_uneven_10 (br_t (Int32.le_refl _) (nm_e ⟨170, ?_⟩))
      have q := l37 168 (upd a 0 1) True (by omega) ?_ ?_ (fun k => absurd trivial k)
      · rw [zp_t trivial] at q
        exact q
      · intro i hi k hk b
        by_cases e : i = 0
        · subst e
          rw [pk_us, zb_1 k hk] at b
          have : k = 0 := by simpa using b
          subst this
          exact ⟨by decide, zh_R0⟩
        · rw [pk_un e, ha i (by omega), b_0] at b
          exact absurd b (by decide)
      · rw [pk_us]; decide
    | succ d ih =>
      intro i a hi ha
      refine uY_uneven_10 (br_f (nI_ge (by omega) (by omega)) ⟨vp_in_nI (by omega) (by decide), nm_e (nm_r (nI_1 i) ?_)⟩)
      rw [nI_clamp (by omega)]
      refine ih (i + 1) (upd a i 0) (by omega) (fun t ht => ?_)
      by_cases e : t = i
      · subst e; exact pk_us
      · rw [pk_un e]; exact ha t (by omega)
  refine upY_uneven (nm_r en ⟨n + 1, z n 0 (gY_heights u) (by omega) (fun t ht => absurd ht (by omega))⟩)
end
section
/-! kinds: the pure part -/
/-- what an entry is behind an instruction: o op, a operand, b the first cell popped or pushed -/
def zk_v (f : Nat → Prop) (c : Prop) (o a b e : Nat) : Prop :=
  (o = 3 ∧ ((e = a ∧ f b) ∨ (e ≠ a ∧ e < b ∧ f e))) ∨ (o = 2 ∧ ((e < b ∧ f e) ∨ (e = b ∧ f a))) ∨ (o = 20 ∧ ((e < b ∧ f e) ∨ ((e = b ∨ e = b + 1) ∧ f b))) ∨ (o ≠ 3 ∧ o ≠ 2 ∧ o ≠ 20 ∧ ((e < b ∧ f e) ∨ (e = b ∧ c)))
theorem zk_vm {f g : Nat → Prop} {c : Prop} {o a b e : Nat} (ha : o = 2 → a < 12) (hb : b < 12 ∨ (o ≠ 3 ∧ o ≠ 20)) (h : ∀ e, e < 12 → f e → g e) (he : e < 12) (v : zk_v f c o a b e) : zk_v g c o a b e := by
  rcases v with ⟨h1, v⟩ | ⟨h1, v⟩ | ⟨h1, v⟩ | ⟨h1, h2, h3, v⟩
  · have hb : b < 12 := hb.elim id (fun k => absurd h1 k.1)
    refine Or.inl ⟨h1, ?_⟩
    rcases v with ⟨h2, v⟩ | ⟨h2, h3, v⟩
    · exact Or.inl ⟨h2, h _ hb v⟩
    · exact Or.inr ⟨h2, h3, h _ he v⟩
  · refine Or.inr (Or.inl ⟨h1, ?_⟩)
    rcases v with ⟨h2, v⟩ | ⟨h2, v⟩
    · exact Or.inl ⟨h2, h _ he v⟩
    · exact Or.inr ⟨h2, h _ (ha h1) v⟩
  · have hb : b < 12 := hb.elim id (fun k => absurd h1 k.2)
    refine Or.inr (Or.inr (Or.inl ⟨h1, ?_⟩))
    rcases v with ⟨h2, v⟩ | ⟨h2, v⟩
    · exact Or.inl ⟨h2, h _ he v⟩
    · exact Or.inr ⟨h2, h _ hb v⟩
  · refine Or.inr (Or.inr (Or.inr ⟨h1, h2, h3, ?_⟩))
    rcases v with ⟨h2, v⟩ | ⟨h2, v⟩
    · exact Or.inl ⟨h2, h _ he v⟩
    · exact Or.inr ⟨h2, v⟩
def zk_pk (rf : Nat → Int32) (o : Nat) (a : Int32) : Nat := if o = 13 then (if bt (rf (a.toNatClampNeg / 16)) (a.toNatClampNeg % 16) then 2 else 1) else if o = 16 then (if 4 ≤ a.toNatClampNeg ∧ a.toNatClampNeg ≤ 6 then 2 else 1) else if o = 17 then (if a.toNatClampNeg < 2 then 1 else 2) else [1, 2, 0, 0, 1, 1, 1, 1, 0, 0, 0, 1, 2, 0, 0, 1, 0, 0, 0, 0, 0, 0, 2, 0].getD o 0
def zk_b (O A a : Nat → Int32) (i : Nat) : Nat := 6 + zh_ht (a i) - zh_P O A i
def zk_t (O A : Nat → Int32) (i t : Nat) : Prop := (zt_jump (zh_op O i) ∧ A (192 + i) = nI t) ∨ (zt_fall (zh_op O i) ∧ t = i + 1)
def zk_cl (rf O A F T G a : Nat → Int32) (n k : Nat) (P : Nat → Nat → Prop) (i : Nat) : Prop :=
  (∀ t, t < n → zk_t O A i t → ∀ e, e < 12 → P t e → zk_v (P i) (zk_pk rf (zh_op O i) (A (192 + i)) = k) (zh_op O i) (A (192 + i)).toNatClampNeg (zk_b O A a i) e) ∧
  (zh_cg F T 8 (nI i) → ∀ g, g < n → G 8 = nI g → ∀ e, e < 12 → P g e → (e < 6 ∧ P i e) ∨ (k = 1 ∧ e = 6))
def zk_C (rf O A F T G a : Nat → Int32) (n m k : Nat) (P : Nat → Nat → Prop) : Prop :=
  (∀ e, e < 12 → P 0 e → bt (nI (if k = 1 then zt_ti m else zt_tr m)) e = true) ∧ ∀ i, i < n → a i ≠ 0 → zk_cl rf O A F T G a n k P i
/-- every closed set lies below x -/
def zk_up (C : (Nat → Nat → Prop) → Prop) (n : Nat) (x : Nat → Int32) : Prop := (∀ P, C P → ∀ i, i < n → ∀ e, e < 12 → P i e → bt (x i) e = true) ∧ ∀ i, i < n → ∀ e, 12 ≤ e → e < 32 → bt (x i) e = false
def zk_an (x : Nat → Int32) (t : Nat) (y : Int32) : Nat → Int32 := upd x t (x t &&& y)
theorem zk_anle {x : Nat → Int32} {t : Nat} {y : Int32} {i e : Nat} (h : bt (zk_an x t y i) e = true) : bt (x i) e = true := by
  unfold zk_an at h
  by_cases z : i = t
  · subst z; rw [pk_us, b_and] at h; exact (Bool.and_eq_true_iff.mp h).1
  · rw [pk_un z] at h; exact h
theorem zk_any {x : Nat → Int32} {t : Nat} {y : Int32} {e : Nat} (h : bt (zk_an x t y t) e = true) : bt y e = true := by
  unfold zk_an at h
  rw [pk_us, b_and] at h; exact (Bool.and_eq_true_iff.mp h).2
theorem zk_anup {C : (Nat → Nat → Prop) → Prop} {n : Nat} {x : Nat → Int32} {t : Nat} {y : Int32} (h : zk_up C n x) (hy : ∀ P, C P → ∀ e, e < 12 → P t e → bt y e = true) : zk_up C n (zk_an x t y) := by
  constructor
  · intro P hP i hi e he p
    have b := h.1 P hP i hi e he p
    unfold zk_an
    by_cases z : i = t
    · subst z; rw [pk_us, b_and, b, hy P hP e he p]; rfl
    · rw [pk_un z]; exact b
  · intro i hi e h1 h2
    cases z : bt (zk_an x t y i) e
    · rfl
    · have := zk_anle z
      rw [h.2 i hi e h1 h2] at this
      exact absurd this (by decide)
theorem zk_ansame {x : Nat → Int32} {t : Nat} {y : Int32} (h : x t &&& y = x t) : zk_an x t y = x := zu_self h
theorem zk_anlt {C : (Nat → Nat → Prop) → Prop} {n : Nat} (hn : n ≤ 24) {x : Nat → Int32} {t : Nat} (ht : t < n) {y : Int32} (h : zk_up C n x) (hne : x t &&& y ≠ x t) : zs_m 12 24 (zk_an x t y) < zs_m 12 24 x := by
  obtain ⟨i, hi, hd⟩ := zb_ne hne
  have e : zk_an x t y t = x t &&& y := pk_us
  have b2 : bt (x t) i = true := by
    rw [b_and] at hd
    cases z : bt (x t) i
    · rw [z] at hd; exact absurd rfl hd
    · rfl
  have b1 : bt (x t &&& y) i = false := by
    cases z : bt (x t &&& y) i
    · rfl
    · rw [z, b2] at hd; exact absurd rfl hd
  have h12 : i < 12 := by
    by_cases z : i < 12
    · exact z
    · rw [h.2 t ht i (by omega) hi] at b2; exact absurd b2 (by decide)
  exact zs_mlt (fun t _ j _ b => zk_anle b) (t := t) (j := i) (by omega) h12 (by rw [e]; exact b1) b2
def zk_one (n : Nat) (p : Prop) (t : Nat) (y z : Int32) (xi xr xi' xr' : Nat → Int32) (c : Prop) : Prop :=
  (p ∧ t < n ∧ xi' = zk_an xi t y ∧ xr' = zk_an xr t z ∧ (c ↔ (xi t &&& y ≠ xi t ∨ xr t &&& z ≠ xr t))) ∨ (¬ p ∧ xi' = xi ∧ xr' = xr ∧ ¬ c)
theorem zk_oneS {C1 C2 : (Nat → Nat → Prop) → Prop} {n : Nat} (hn : n ≤ 24) {p : Prop} {t : Nat} {y z : Int32} {xi xr xi' xr' : Nat → Int32} {c : Prop} (h : zk_one n p t y z xi xr xi' xr' c) (u1 : zk_up C1 n xi) (u2 : zk_up C2 n xr)
  (s1 : p → ∀ P, C1 P → ∀ e, e < 12 → P t e → bt y e = true) (s2 : p → ∀ P, C2 P → ∀ e, e < 12 → P t e → bt z e = true) :
  zk_up C1 n xi' ∧ zk_up C2 n xr' ∧ (c → zs_m 12 24 xi' + zs_m 12 24 xr' < zs_m 12 24 xi + zs_m 12 24 xr) ∧ zs_m 12 24 xi' + zs_m 12 24 xr' ≤ zs_m 12 24 xi + zs_m 12 24 xr ∧ (¬ c → xi' = xi ∧ xr' = xr ∧ (p → (∀ e, bt (xi t) e = true → bt y e = true) ∧ (∀ e, bt (xr t) e = true → bt z e = true))) ∧ (∀ t e, bt (xi' t) e = true → bt (xi t) e = true) ∧ (∀ t e, bt (xr' t) e = true → bt (xr t) e = true) := by
  rcases h with ⟨hp, ht, rfl, rfl, hc⟩ | ⟨hp, rfl, rfl, hc⟩
  · have g1 : zs_m 12 24 (zk_an xi t y) ≤ zs_m 12 24 xi := zs_mle (fun _ _ _ _ b => zk_anle b)
    have g2 : zs_m 12 24 (zk_an xr t z) ≤ zs_m 12 24 xr := zs_mle (fun _ _ _ _ b => zk_anle b)
    refine ⟨zk_anup u1 (s1 hp), zk_anup u2 (s2 hp), fun w => ?_, by omega, fun w => ?_, fun t e b => zk_anle b, fun t e b => zk_anle b⟩
    · rcases hc.mp w with w | w
      · have := zk_anlt hn ht u1 w; omega
      · have := zk_anlt hn ht u2 w; omega
    · have w1 : xi t &&& y = xi t := by
        by_cases k : xi t &&& y = xi t
        · exact k
        · exact absurd (hc.mpr (Or.inl k)) w
      have w2 : xr t &&& z = xr t := by
        by_cases k : xr t &&& z = xr t
        · exact k
        · exact absurd (hc.mpr (Or.inr k)) w
      refine ⟨zk_ansame w1, zk_ansame w2, fun _ => ⟨fun e b => ?_, fun e b => ?_⟩⟩
      · rw [← zk_ansame w1] at b; exact zk_any b
      · rw [← zk_ansame w2] at b; exact zk_any b
  · exact ⟨u1, u2, fun w => absurd w hc, Nat.le_refl _, fun _ => ⟨rfl, rfl, fun w => absurd w hp⟩, fun _ _ b => b, fun _ _ b => b⟩
/-- what one instruction's spreading does to the kinds -/
def zk_sp (C1 C2 : (Nat → Nat → Prop) → Prop) (L1 L2 : (Nat → Nat → Prop) → Prop) (n : Nat) (xi xr xi' xr' : Nat → Int32) (c : Prop) : Prop :=
  zk_up C1 n xi' ∧ zk_up C2 n xr' ∧ (c → zs_m 12 24 xi' + zs_m 12 24 xr' < zs_m 12 24 xi + zs_m 12 24 xr) ∧ zs_m 12 24 xi' + zs_m 12 24 xr' ≤ zs_m 12 24 xi + zs_m 12 24 xr ∧ (¬ c → xi' = xi ∧ xr' = xr ∧ L1 (fun i e => bt (xi i) e = true) ∧ L2 (fun i e => bt (xr i) e = true)) ∧ (∀ t e, bt (xi' t) e = true → bt (xi t) e = true) ∧ (∀ t e, bt (xr' t) e = true → bt (xr t) e = true)
theorem zk_63 : ∀ e, e < 32 → bt 63 e = decide (e < 6) := by decide
theorem zk_64 : ∀ e, e < 32 → bt 64 e = decide (e = 6) := by decide
theorem zk_three {rf O A F T G a : Nat → Int32} {n m i g : Nat} (hn : n ≤ 24) (hi : i < n) (h0 : a i ≠ 0) {xi xr : Nat → Int32}
  (u1 : zk_up (zk_C rf O A F T G a n m 1) n xi) (u2 : zk_up (zk_C rf O A F T G a n m 2) n xr) {y z : Int32}
  (hy : ∀ e, e < 12 → (bt y e = true ↔ zk_v (fun e => bt (xi i) e = true) (zk_pk rf (zh_op O i) (A (192 + i)) = 1) (zh_op O i) (A (192 + i)).toNatClampNeg (zk_b O A a i) e))
  (hz : ∀ e, e < 12 → (bt z e = true ↔ zk_v (fun e => bt (xr i) e = true) (zk_pk rf (zh_op O i) (A (192 + i)) = 2) (zh_op O i) (A (192 + i)).toNatClampNeg (zk_b O A a i) e))
  (ha : zh_op O i = 2 → (A (192 + i)).toNatClampNeg < 12) (hb : zk_b O A a i < 12 ∨ (zh_op O i ≠ 3 ∧ zh_op O i ≠ 20)) (hg : zh_cg F T 8 (nI i) → G 8 = nI g) (hj : zt_jump (zh_op O i) → A (192 + i) = nI (A (192 + i)).toNatClampNeg ∧ (A (192 + i)).toNatClampNeg < 2 ^ 31) (hg2 : g < 2 ^ 31)
  {i1 r1 i2 r2 i3 r3 : Nat → Int32} {c1 c2 c3 : Prop} (e1 : zk_one n (zt_jump (zh_op O i)) (A (192 + i)).toNatClampNeg y z xi xr i1 r1 c1) (e2 : zk_one n (zt_fall (zh_op O i)) (i + 1) y z i1 r1 i2 r2 c2) (e3 : zk_one n (zh_cg F T 8 (nI i)) g ((i2 i &&& 63) ||| 64) (r2 i &&& 63) i2 r2 i3 r3 c3) :
  zk_sp (zk_C rf O A F T G a n m 1) (zk_C rf O A F T G a n m 2) (fun P => zk_cl rf O A F T G a n 1 P i) (fun P => zk_cl rf O A F T G a n 2 P i) n xi xr i3 r3 (c1 ∨ c2 ∨ c3) := by
  have tj : zt_jump (zh_op O i) → zk_t O A i (A (192 + i)).toNatClampNeg := fun w => Or.inl ⟨w, (hj w).1⟩
  have tf : zt_fall (zh_op O i) → zk_t O A i (i + 1) := fun w => Or.inr ⟨w, rfl⟩
  have fy : ∀ t, t < n → zk_t O A i t → ∀ P, zk_C rf O A F T G a n m 1 P → ∀ e, e < 12 → P t e → bt y e = true := by
    intro t ht w P hP e he p
    exact (hy e he).mpr (zk_vm ha hb (fun e he q => u1.1 P hP i hi e he q) he ((hP.2 i hi h0).1 t ht w e he p))
  have fz : ∀ t, t < n → zk_t O A i t → ∀ P, zk_C rf O A F T G a n m 2 P → ∀ e, e < 12 → P t e → bt z e = true := by
    intro t ht w P hP e he p
    exact (hz e he).mpr (zk_vm ha hb (fun e he q => u2.1 P hP i hi e he q) he ((hP.2 i hi h0).1 t ht w e he p))
  have tn1 : zt_jump (zh_op O i) → (A (192 + i)).toNatClampNeg < n := by
    intro w; rcases e1 with e | e
    · exact e.2.1
    · exact absurd w e.1
  have tn2 : zt_fall (zh_op O i) → i + 1 < n := by
    intro w; rcases e2 with e | e
    · exact e.2.1
    · exact absurd w e.1
  have tn3 : zh_cg F T 8 (nI i) → g < n := by
    intro w; rcases e3 with e | e
    · exact e.2.1
    · exact absurd w e.1
  obtain ⟨a1, b1, l1, g1, k1, m1, o1⟩ := zk_oneS hn e1 u1 u2 (fun w => fy _ (tn1 w) (tj w)) (fun w => fz _ (tn1 w) (tj w))
  obtain ⟨a2, b2, l2, g2, k2, m2, o2⟩ := zk_oneS hn e2 a1 b1 (fun w => fy _ (tn2 w) (tf w)) (fun w => fz _ (tn2 w) (tf w))
  obtain ⟨a3, b3, l3, g3, k3, m3, o3⟩ := zk_oneS hn e3 a2 b2 (fun w P hP e he p => by
      rw [b_or, b_and, zk_63 e (by omega), zk_64 e (by omega)]
      rcases (hP.2 i hi h0).2 w g (tn3 w) (hg w) e he p with ⟨h6, q⟩ | ⟨_, h6⟩
      · rw [a2.1 P hP i hi e he q]; simp [h6]
      · simp [h6]) (fun w P hP e he p => by
      rw [b_and, zk_63 e (by omega)]
      rcases (hP.2 i hi h0).2 w g (tn3 w) (hg w) e he p with ⟨h6, q⟩ | ⟨h6, _⟩
      · rw [b2.1 P hP i hi e he q]; simp [h6]
      · exact absurd h6 (by decide))
  refine ⟨a3, b3, ?_, by omega, ?_, fun t e b => m1 t e (m2 t e (m3 t e b)), fun t e b => o1 t e (o2 t e (o3 t e b))⟩
  · rintro (w | w | w)
    · have := l1 w; omega
    · have := l2 w; omega
    · have := l3 w; omega
  · intro w
    obtain ⟨p1, q1, f1⟩ := k1 (fun k => w (Or.inl k))
    obtain ⟨p2, q2, f2⟩ := k2 (fun k => w (Or.inr (Or.inl k)))
    obtain ⟨p3, q3, f3⟩ := k3 (fun k => w (Or.inr (Or.inr k)))
    subst p1 q1 p2 q2 p3 q3
    refine ⟨rfl, rfl, ⟨?_, ?_⟩, ⟨?_, ?_⟩⟩
    · intro t ht w e he p
      refine (hy e he).mp ?_
      rcases w with ⟨w, q⟩ | ⟨w, rfl⟩
      · have : (A (192 + i)).toNatClampNeg = t := by rw [q, nI_clamp (by omega)]
        exact (f1 w).1 e (by rw [this]; exact p)
      · exact (f2 w).1 e p
    · intro w t ht q e he p
      have eg : g = t := (nI_eq hg2 (by omega)).mp ((hg w).symm.trans q)
      subst eg
      have := (f3 w).1 e p
      rw [b_or, b_and, zk_63 e (by omega), zk_64 e (by omega)] at this
      by_cases h6 : e = 6
      · exact Or.inr ⟨rfl, h6⟩
      · simp [h6] at this; exact Or.inl ⟨this.2, this.1⟩
    · intro t ht w e he p
      refine (hz e he).mp ?_
      rcases w with ⟨w, q⟩ | ⟨w, rfl⟩
      · have : (A (192 + i)).toNatClampNeg = t := by rw [q, nI_clamp (by omega)]
        exact (f1 w).2 e (by rw [this]; exact p)
      · exact (f2 w).2 e p
    · intro w t ht q e he p
      have eg : g = t := (nI_eq hg2 (by omega)).mp ((hg w).symm.trans q)
      subst eg
      have := (f3 w).2 e p
      rw [b_and, zk_63 e (by omega)] at this
      simp at this; exact Or.inl ⟨this.2, this.1⟩
/-! bits of what lies behind -/
theorem zk_low : ∀ b, b < 13 → ∀ e, e < 32 → bt (((1 : Int32) <<< (nI b &&& 31)) - 1) e = decide (e < b) := by decide +kernel
theorem zk_bit01 (x : Int32) {j : Nat} (hj : j < 32) : (x >>> (nI j &&& 31)) &&& 1 = if bt x j then 1 else 0 := by
  cases z : bt x j
  · exact (zb_bit x hj).mpr z
  · exact (zb_bit1 x hj).mpr z
theorem zk_sh1 (q : Bool) {b : Nat} (hb : b < 32) {e : Nat} (he : e < 32) : bt ((if q then (1 : Int32) else 0) <<< (nI b &&& 31)) e = (q && decide (e = b)) := by
  cases q
  · rw [b_shl b hb _ he]; simp [b_0]
  · simp [zb_tp b hb e he]
theorem zk_sh3 (q : Bool) {b : Nat} (hb : b < 32) {e : Nat} (he : e < 32) : bt (((if q then (1 : Int32) else 0) * 3) <<< (nI b &&& 31)) e = (q && decide (e = b ∨ e = b + 1)) := by
  have b3 : ∀ i, i < 32 → bt 3 i = decide (i = 0 ∨ i = 1) := by decide
  cases q
  · rw [b_shl b hb _ he]; simp [b_0]
  · simp only [if_true, Int32.one_mul, Bool.true_and]
    rw [b_shl b hb _ he, b3 _ (by omega)]
    by_cases h1 : e = b
    · subst h1; simp
    · by_cases h2 : e = b + 1
      · subst h2; simp
      · by_cases h3 : b ≤ e
        · have : ¬ e - b = 0 := by omega
          have : ¬ e - b = 1 := by omega
          simp [*]
        · simp [*]
end
section
/-! X's kinds -/
theorem sX_kk (a b c d : Nat → Int32) (u : SX) : sX_intKinds_refKinds a b (sX_intKinds_refKinds c d u) = sX_intKinds_refKinds a b u := rfl
theorem sX_gi (a b : Nat → Int32) (u : SX) : gX_intKinds (sX_intKinds_refKinds a b u) = a := rfl
theorem sX_gr (a b : Nat → Int32) (u : SX) : gX_refKinds (sX_intKinds_refKinds a b u) = b := rfl
theorem zn_d16 {j : Nat} (hj : j < 64) : nI j / 16 = nI (j / 16) ∧ nI j - nI j / 16 * 16 = nI (j % 16) := by
  constructor
  · exact pk_div (d := 16) (by omega) (by decide) (by decide)
  · exact pk_rem (d := 16) (by omega) (by decide) (by decide)
theorem zn_16 : ¬ (16 : Int32) = 0 := by decide
theorem x_pk {post : Int32 → Prop} {u : SX} {o : Nat} {a : Int32} (ho : o < 24) (hf : zi_fit o a) (h : post (nI (zk_pk (gX_refFields u) o a))) : wpX_pushedKind post u (nI o) a := by
  refine upX_pushedKind ?_
  by_cases z13 : o = 13
  · subst z13
    obtain ⟨j, hj, rfl⟩ := zi_fj hf (show zi_lim 13 = 64 from rfl) (by decide)
    have k : wpX_isRefField (fun r => (r = 0 → post 1) ∧ (¬ r = 0 → post 2)) u (nI j / 16) (nI j - nI j / 16 * 16) := by
      rw [(zn_d16 hj).2, (zn_d16 hj).1]
      refine x_isRefField (by omega) (by omega) (zp_br (fun w => ?_) (fun w => ?_))
      · rw [show zk_pk (gX_refFields u) 13 (nI j) = 1 by unfold zk_pk; rw [if_pos rfl, nI_clamp (by omega), if_neg w]] at h
        exact h
      · rw [show zk_pk (gX_refFields u) 13 (nI j) = 2 by unfold zk_pk; rw [if_pos rfl, nI_clamp (by omega), if_pos w]] at h
        exact h
    repeat (first | exact ⟨zn_16, zn_16, k⟩ | refine br_t (by decide) ?_ | refine br_f (by decide) ?_)
  · by_cases z16 : o = 16
    · subst z16
      obtain ⟨j, hj, rfl⟩ := zi_fj hf (show zi_lim 16 = 8 from rfl) (by decide)
      have k : wpX_givesRef (fun r => (r = 0 → post 1) ∧ (¬ r = 0 → post 2)) (nI j) := by
        refine xt_gr hj (zp_br (fun w => ?_) (fun w => ?_))
        · rw [show zk_pk (gX_refFields u) 16 (nI j) = 1 by unfold zk_pk; rw [if_neg (by decide), if_pos rfl, nI_clamp (by omega), if_neg (show ¬ (4 ≤ j ∧ j ≤ 6) from w)]] at h
          exact h
        · rw [show zk_pk (gX_refFields u) 16 (nI j) = 2 by unfold zk_pk; rw [if_neg (by decide), if_pos rfl, nI_clamp (by omega), if_pos (show 4 ≤ j ∧ j ≤ 6 from w)]] at h
          exact h
      repeat (first | exact k | refine br_t (by decide) ?_ | refine br_f (by decide) ?_)
    · by_cases z17 : o = 17
      · subst z17
        obtain ⟨j, hj, rfl⟩ := zi_fj hf (show zi_lim 17 = 4 from rfl) (by decide)
        have k : ((2 : Int32) ≤ nI j → post 2) ∧ (¬ (2 : Int32) ≤ nI j → post 1) := by
          refine br_i (nI_leI (a := 2) (by decide) (by omega)) (fun w => ?_) (fun w => ?_)
          · rw [show zk_pk (gX_refFields u) 17 (nI j) = 2 by unfold zk_pk; rw [if_neg (by decide), if_neg (by decide), if_pos rfl, nI_clamp (by omega), if_neg (by omega)]] at h
            exact h
          · rw [show zk_pk (gX_refFields u) 17 (nI j) = 1 by unfold zk_pk; rw [if_neg (by decide), if_neg (by decide), if_pos rfl, nI_clamp (by omega), if_pos (by omega)]] at h
            exact h
        repeat (first | exact k | refine br_t (by decide) ?_ | refine br_f (by decide) ?_)
      · unfold zk_pk at h
        rw [if_neg z13, if_neg z16, if_neg z17] at h
        clear hf
        revert z13 z16 z17 h; revert o
        apply zo_24 <;> intro h z13 z16 z17 <;> first | exact absurd rfl z13 | exact absurd rfl z16 | exact absurd rfl z17 | (repeat (first | exact h | refine br_t (by decide) ?_ | refine br_f (by decide) ?_))
theorem x_kindsBehind {post : Int32 → Prop} {u : SX} {n i k : Nat} (hn : n ≤ 24) (hi : i < n) (ho : zi_ok (gX_ops u (192 + i)) (gX_operands u (192 + i))) (hk : k < 3) {x : Int32} (hP : zh_P (gX_ops u) (gX_operands u) i ≤ zh_ht (gX_heights u i))
  (h : ∀ y, (∀ e, e < 12 → (bt y e = true ↔ zk_v (fun e => bt x e = true) (zk_pk (gX_refFields u) (zh_op (gX_ops u) i) (gX_operands u (192 + i)) = k) (zh_op (gX_ops u) i) (gX_operands u (192 + i)).toNatClampNeg (zk_b (gX_ops u) (gX_operands u) (gX_heights u) i) e)) → post y) : wpX_kindsBehind post u (nI i) x (nI k) := by
  have e192 : (192 : Int32) + nI i = nI (192 + i) := by rw [show (192 : Int32) = nI 192 from rfl, nI_add]
  have v216 : vp_in (192 + nI i) 216 := by rw [e192]; exact vp_in_nI (by omega) (by decide)
  refine upX_kindsBehind ⟨v216, nm_e ⟨v216, nm_e (x_heightAt (by omega) ?_)⟩⟩
  rw [e192, nI_clamp (by omega)]
  obtain ⟨o24, eo, fo⟩ := zi_of ho
  have eop : zh_op (gX_ops u) i = (gX_ops u (192 + i)).toNatClampNeg := rfl
  rw [← eop] at o24 eo fo
  rw [eo]
  have H6 := zh_ht6 (gX_heights u i)
  have eP : zh_P (gX_ops u) (gX_operands u) i = zt_pops (zh_op (gX_ops u) i) (gX_operands u (192 + i)) := rfl
  have eb : (6 : Int32) + nI (zh_ht (gX_heights u i)) - nI (zt_pops (zh_op (gX_ops u) i) (gX_operands u (192 + i))) = nI (zk_b (gX_ops u) (gX_operands u) (gX_heights u) i) := by
    rw [show (6 : Int32) = nI 6 from rfl, nI_add, pk_sub (by omega)]
    rfl
  refine xt_pops o24 (zi_call fo) (nm_r eb (nm_e (nm_e ?_)))
  have hb : zk_b (gX_ops u) (gX_operands u) (gX_heights u) i < 13 := by unfold zk_b; omega
  generalize zk_b (gX_ops u) (gX_operands u) (gX_heights u) i = b at *
  rw [zk_bit01 x (by omega)]
  have kept : ∀ e, e < 12 → bt (x &&& (((1 : Int32) <<< (nI b &&& 31)) - 1)) e = (bt x e && decide (e < b)) := by
    intro e he
    rw [b_and, zk_low b hb e (by omega)]
  have lit : ∀ j, j < 24 → (nI (zh_op (gX_ops u) i) = nI j ↔ zh_op (gX_ops u) i = j) := fun j hj => nI_eq (by omega) (by omega)
  refine br_i (lit 3 (by decide)) (fun z => ?_) (fun z => ?_)
  · obtain ⟨j, hj, ej⟩ := zi_fj fo (show zi_lim (zh_op (gX_ops u) i) = 6 by rw [z]; rfl) (by decide)
    rw [ej]
    refine h _ (fun e he => ?_)
    rw [ej, nI_clamp (by omega), b_or, b_and, b_xor, kept e he, zb_tp j (by omega) e (by omega), b_m1 e (by omega), zk_sh1 _ (by omega) (by omega)]
    unfold zk_v
    by_cases w : e = j
    · simp [z, w]
    · simp [z, w]
      exact And.comm
  · refine br_i (lit 2 (by decide)) (fun w => ?_) (fun w => ?_)
    · obtain ⟨j, hj, ej⟩ := zi_fj fo (show zi_lim (zh_op (gX_ops u) i) = 6 by rw [w]; rfl) (by decide)
      rw [ej, zk_bit01 x (by omega)]
      refine h _ (fun e he => ?_)
      rw [ej, nI_clamp (by omega), b_or, kept e he, zk_sh1 _ (by omega) (by omega)]
      unfold zk_v
      simp [w]
      rw [and_comm (a := bt x e = true), and_comm (a := bt x j = true)]
    · refine br_i (lit 20 (by decide)) (fun q => ?_) (fun q => ?_)
      · refine h _ (fun e he => ?_)
        rw [b_or, kept e he, zk_sh3 _ (by omega) (by omega)]
        unfold zk_v
        simp [q]
        rw [and_comm (a := bt x e = true), and_comm (a := bt x b = true)]
      · refine x_pk o24 fo (br_i (nI_eq ?_ (by omega)) (fun p => ?_) (fun p => ?_))
        · have : zk_pk (gX_refFields u) (zh_op (gX_ops u) i) (gX_operands u (192 + i)) ≤ 2 := by
            unfold zk_pk
            repeat' split
            all_goals first | omega | skip
            have : ∀ o, o < 24 → [1, 2, 0, 0, 1, 1, 1, 1, 0, 0, 0, 1, 2, 0, 0, 1, 0, 0, 0, 0, 0, 0, 2, 0].getD o 0 ≤ 2 := by decide
            exact this _ o24
          omega
        · refine h _ (fun e he => ?_)
          rw [b_or, kept e he, zb_tp b (by omega) e (by omega)]
          unfold zk_v
          simp [z, w, q, p]
          rw [and_comm (a := bt x e = true)]
        · refine h _ (fun e he => ?_)
          rw [kept e he]
          unfold zk_v
          simp [z, w, q, p]
          exact And.comm
theorem x_meet {post : Int32 → SX → Prop} {u : SX} {n t : Nat} {y z : Int32} (hn : n ≤ 24) (en : gX_lengths u 8 = nI n) (ht : t < n) (h : post (zp (gX_intKinds u t &&& y ≠ gX_intKinds u t ∨ gX_refKinds u t &&& z ≠ gX_refKinds u t)) (sX_intKinds_refKinds (zk_an (gX_intKinds u) t y) (zk_an (gX_refKinds u) t z) u)) : wpX_meet post u (nI t) y z := by
  have hi : vp_in (nI t) 24 := vp_in_nI (by omega) (by decide)
  refine upX_meet (br_t ?_ ⟨hi, nm_e ⟨hi, nm_e ⟨hi, nm_e ⟨hi, nm_e ⟨hi, ?_⟩⟩⟩⟩⟩)
  · rw [en]; exact nI_lt ht (by omega)
  · rw [nI_clamp (by omega), pk_us, pk_us]
    refine br_c (fun w => ⟨hi, br_c (fun q => ?_) (fun q => ?_)⟩) (fun w => ?_)
    · rw [zp_f (fun k => k.elim (fun k => k w) (fun k => k q))] at h; exact h
    · rw [zp_t (Or.inr q)] at h; exact h
    · rw [zp_t (Or.inl w)] at h; exact h
theorem x_spreadK {post : Int32 → SX → Prop} {u : SX} {n m i : Nat} (hn : n ≤ 24) (hi : i < n) (en : gX_lengths u 8 = nI n) (ho : zi_ok (gX_ops u (192 + i)) (gX_operands u (192 + i))) (hg : zh_cg (gX_catchFrom u) (gX_catchTo u) 8 (nI i) → ∃ g, g < n ∧ gX_catchGoal u 8 = nI g) (hj : zt_jump (zh_op (gX_ops u) i) → ∃ t, t < n ∧ gX_operands u (192 + i) = nI t) (hf : zt_fall (zh_op (gX_ops u) i) → i + 1 < n)
  (h0 : gX_heights u i ≠ 0) (hP : zh_P (gX_ops u) (gX_operands u) i ≤ zh_ht (gX_heights u i)) {C : Nat → (Nat → Nat → Prop) → Prop} (eC : C = zk_C (gX_refFields u) (gX_ops u) (gX_operands u) (gX_catchFrom u) (gX_catchTo u) (gX_catchGoal u) (gX_heights u) n m)
  {L : Nat → (Nat → Nat → Prop) → Nat → Prop} (eL : L = zk_cl (gX_refFields u) (gX_ops u) (gX_operands u) (gX_catchFrom u) (gX_catchTo u) (gX_catchGoal u) (gX_heights u) n)
  (u1 : zk_up (C 1) n (gX_intKinds u)) (u2 : zk_up (C 2) n (gX_refKinds u))
  (h : ∀ (xi xr : Nat → Int32) (c : Prop), zk_sp (C 1) (C 2) (fun P => L 1 P i) (fun P => L 2 P i) n (gX_intKinds u) (gX_refKinds u) xi xr c → post (zp c) (sX_intKinds_refKinds xi xr u)) : wpX_spreadKinds post u (nI i) := by
  subst eC eL
  have e192 : (192 : Int32) + nI i = nI (192 + i) := by rw [show (192 : Int32) = nI 192 from rfl, nI_add]
  have v216 : vp_in (192 + nI i) 216 := by rw [e192]; exact vp_in_nI (by omega) (by decide)
  have v24 : vp_in (nI i) 24 := vp_in_nI (by omega) (by decide)
  refine upX_spreadKinds ⟨v216, nm_e ⟨v24, ?_⟩⟩
  rw [e192, nI_clamp (by omega), nI_clamp (by omega)]
  refine x_kindsBehind (k := 1) hn hi ho (by decide) hP (fun y hy => ⟨v24, x_kindsBehind (k := 2) hn hi ho (by decide) hP (fun z hz => ?_)⟩)
  obtain ⟨o24, eo, fo⟩ := zi_of ho
  have eop : zh_op (gX_ops u) i = (gX_ops u (192 + i)).toNatClampNeg := rfl
  rw [← eop] at o24 eo fo
  rw [eo]
  have gex : ∃ g, g < 2 ^ 31 ∧ (zh_cg (gX_catchFrom u) (gX_catchTo u) 8 (nI i) → g < n ∧ gX_catchGoal u 8 = nI g) := by
    by_cases w : zh_cg (gX_catchFrom u) (gX_catchTo u) 8 (nI i)
    · obtain ⟨g, h1, h2⟩ := hg w
      exact ⟨g, by omega, fun _ => ⟨h1, h2⟩⟩
    · exact ⟨0, by decide, fun k => absurd k w⟩
  obtain ⟨g, hg31, hg'⟩ := gex
  have hb : zk_b (gX_ops u) (gX_operands u) (gX_heights u) i < 12 ∨ (zh_op (gX_ops u) i ≠ 3 ∧ zh_op (gX_ops u) i ≠ 20) := by
    have H6 := zh_ht6 (gX_heights u i)
    by_cases w : zh_op (gX_ops u) i = 3
    · refine Or.inl ?_
      have : zh_P (gX_ops u) (gX_operands u) i = 1 := by unfold zh_P; rw [w]; rfl
      unfold zk_b; omega
    · by_cases w2 : zh_op (gX_ops u) i = 20
      · refine Or.inl ?_
        have : zh_P (gX_ops u) (gX_operands u) i = 1 := by unfold zh_P; rw [w2]; rfl
        unfold zk_b; omega
      · exact Or.inr ⟨w, w2⟩
  have ha : zh_op (gX_ops u) i = 2 → (gX_operands u (192 + i)).toNatClampNeg < 12 := by
    intro w
    obtain ⟨j, hj, ej⟩ := zi_fj fo (show zi_lim (zh_op (gX_ops u) i) = 6 by rw [w]; rfl) (by decide)
    rw [ej, nI_clamp (by omega)]; omega
  have hj' : zt_jump (zh_op (gX_ops u) i) → gX_operands u (192 + i) = nI (gX_operands u (192 + i)).toNatClampNeg ∧ (gX_operands u (192 + i)).toNatClampNeg < 2 ^ 31 := by
    intro w
    obtain ⟨t, ht, et⟩ := hj w
    rw [et, nI_clamp (by omega)]
    exact ⟨rfl, by omega⟩
  have key : ∀ (i1 r1 i2 r2 i3 r3 : Nat → Int32) (c1 c2 c3 : Prop), _ → _ → _ → _ := fun i1 r1 i2 r2 i3 r3 c1 c2 c3 e1 e2 e3 => zk_three (g := g) hn hi h0 u1 u2 hy hz ha hb (fun w => (hg' w).2) hj' hg31 (i1 := i1) (r1 := r1) (i2 := i2) (r2 := r2) (i3 := i3) (r3 := r3) (c1 := c1) (c2 := c2) (c3 := c3) e1 e2 e3
  -- the catcher
  have third : ∀ (i1 r1 i2 r2 : Nat → Int32) (c1 c2 : Prop), zk_one n (zt_jump (zh_op (gX_ops u) i)) (gX_operands u (192 + i)).toNatClampNeg y z (gX_intKinds u) (gX_refKinds u) i1 r1 c1 → zk_one n (zt_fall (zh_op (gX_ops u) i)) (i + 1) y z i1 r1 i2 r2 c2 → kX_spreadKinds_90 post (nI i) (zp (c1 ∨ c2)) (sX_intKinds_refKinds i2 r2 u) := by
    intro i1 r1 i2 r2 c1 c2 e1 e2
    refine uX_spreadKinds_90 (x_isCaught (r := 8) (by decide) (zp_br (fun w => ⟨zp_n _, ?_⟩) (fun w => ⟨v24, nm_e ⟨v24, ?_⟩⟩)))
    · have := h i2 r2 _ (key i1 r1 i2 r2 i2 r2 c1 c2 False e1 e2 (Or.inr ⟨w, rfl, rfl, fun k => k⟩))
      rw [zp_c (show (c1 ∨ c2 ∨ False) ↔ (c1 ∨ c2) by simp)] at this
      exact this
    · show wpX_meet _ _ (gX_catchGoal u 8) ((i2 (nI i).toNatClampNeg &&& 63) ||| 64) (r2 (nI i).toNatClampNeg &&& 63)
      have w' := hg' w
      rw [w'.2, nI_clamp (by omega)]
      refine x_meet (u := sX_intKinds_refKinds i2 r2 u) hn en w'.1 ?_
      rw [sX_kk, sX_gi, sX_gr]
      have q := h _ _ _ (key i1 r1 i2 r2 _ _ c1 c2 _ e1 e2 (Or.inl ⟨w, w'.1, rfl, rfl, Iff.rfl⟩))
      refine zp_br (fun k => ⟨zp_n _, ?_⟩) (fun k => ?_)
      · rw [zp_c (show (c1 ∨ c2 ∨ _) ↔ (c1 ∨ c2) from ⟨fun j => j.elim Or.inl (fun j => j.elim Or.inr (fun j => absurd j k)), fun j => j.elim Or.inl (fun j => Or.inr (Or.inl j))⟩)] at q
        exact q
      · rw [zp_t (Or.inr (Or.inr k))] at q
        exact q
  have second : ∀ (i1 r1 : Nat → Int32) (c1 : Prop), zk_one n (zt_jump (zh_op (gX_ops u) i)) (gX_operands u (192 + i)).toNatClampNeg y z (gX_intKinds u) (gX_refKinds u) i1 r1 c1 → kX_spreadKinds_67 post (nI i) (nI (zh_op (gX_ops u) i)) y z (zp c1) (sX_intKinds_refKinds i1 r1 u) := by
    intro i1 r1 c1 e1
    refine uX_spreadKinds_67 (xt_fall o24 (zp_br (fun w => ?_) (fun w => ?_)))
    · have := third i1 r1 i1 r1 c1 False e1 (Or.inr ⟨w, rfl, rfl, fun k => k⟩)
      rw [zp_c (show (c1 ∨ False) ↔ c1 by simp)] at this
      exact this
    · rw [nI_1]
      refine x_meet (u := sX_intKinds_refKinds i1 r1 u) hn en (hf w) ?_
      rw [sX_kk, sX_gi, sX_gr]
      have q := third i1 r1 _ _ c1 _ e1 (Or.inl ⟨w, hf w, rfl, rfl, Iff.rfl⟩)
      refine zp_br (fun k => ?_) (fun k => ?_)
      · rw [zp_c (show (c1 ∨ _) ↔ c1 from ⟨fun j => j.elim id (fun j => absurd j k), Or.inl⟩)] at q
        exact q
      · rw [zp_t (Or.inr k)] at q
        exact q
  refine xt_jump o24 (zp_br (fun w => ?_) (fun w => ⟨by rw [← e192]; exact v216, ?_⟩))
  · have := second _ _ False (Or.inr ⟨w, rfl, rfl, fun k => k⟩)
    rw [zp_f (fun k => k)] at this
    exact this
  · obtain ⟨t, ht, et⟩ := hj w
    have q := fun c1 hc => second _ _ c1 (Or.inl ⟨w, by rw [et, nI_clamp (by omega)]; exact ht, rfl, rfl, hc⟩)
    rw [et, nI_clamp (by omega)] at q
    rw [et]
    exact x_meet hn en ht (q _ Iff.rfl)
/-- the draft behind the heights, as kinds need it -/
def zk_env (O A F T G a : Nat → Int32) (n : Nat) : Prop :=
  n ≤ 24 ∧ 0 < n ∧ (∀ i, i < n → zi_ok (O (192 + i)) (A (192 + i))) ∧ (∀ i, i < n → zh_cg F T 8 (nI i) → ∃ g, g < n ∧ G 8 = nI g) ∧ (∀ i, i < n → zt_jump (zh_op O i) → ∃ t, t < n ∧ A (192 + i) = nI t) ∧
  (∀ i, i < n → a i ≠ 0 → zt_fall (zh_op O i) → i + 1 < n) ∧ (∀ i, i < n → a i ≠ 0 → zh_P O A i ≤ zh_ht (a i) ∧ zh_ht (a i) - zh_P O A i + zh_Q O i ≤ 6)
/-- what X's kinds are at the end -/
def zk_FX (rf O A F T G a : Nat → Int32) (n m k : Nat) (x : Nat → Int32) : Prop :=
  zk_C rf O A F T G a n m k (fun i e => bt (x i) e = true) ∧ zk_up (zk_C rf O A F T G a n m k) n x
theorem x_kinds72 {post : SX → Prop} {J : Int32 → Int32 → SX → Prop} {u : SX} {n m : Nat} {x3 : Int32} (en : gX_lengths u 8 = nI n) (env : zk_env (gX_ops u) (gX_operands u) (gX_catchFrom u) (gX_catchTo u) (gX_catchGoal u) (gX_heights u) n)
  {C : Nat → (Nat → Nat → Prop) → Prop} (eC : C = zk_C (gX_refFields u) (gX_ops u) (gX_operands u) (gX_catchFrom u) (gX_catchTo u) (gX_catchGoal u) (gX_heights u) n m)
  {L : Nat → (Nat → Nat → Prop) → Nat → Prop} (eL : L = zk_cl (gX_refFields u) (gX_ops u) (gX_operands u) (gX_catchFrom u) (gX_catchTo u) (gX_catchGoal u) (gX_heights u) n) {i0 r0 : Nat → Int32}
  (hJ : ∀ (xi xr : Nat → Int32) (c : Prop), zk_up (C 1) n xi → zk_up (C 2) n xr → (∀ t e, bt (xi t) e = true → bt (i0 t) e = true) → (∀ t e, bt (xr t) e = true → bt (r0 t) e = true) → (c → zs_m 12 24 xi + zs_m 12 24 xr < zs_m 12 24 i0 + zs_m 12 24 r0) → (¬ c → ∀ i, i < n → gX_heights u i ≠ 0 → L 1 (fun i e => bt (xi i) e = true) i ∧ L 2 (fun i e => bt (xr i) e = true) i) → J (zp c) (x3 + 1) (sX_intKinds_refKinds xi xr u)) :
  ∀ d i xi xr c, i + d = n → zk_up (C 1) n xi → zk_up (C 2) n xr → (∀ t e, bt (xi t) e = true → bt (i0 t) e = true) → (∀ t e, bt (xr t) e = true → bt (r0 t) e = true) → zs_m 12 24 xi + zs_m 12 24 xr ≤ zs_m 12 24 i0 + zs_m 12 24 r0 → (c → zs_m 12 24 xi + zs_m 12 24 xr < zs_m 12 24 i0 + zs_m 12 24 r0) → (¬ c → xi = i0 ∧ xr = r0 ∧ ∀ k, k < i → gX_heights u k ≠ 0 → L 1 (fun i e => bt (i0 i) e = true) k ∧ L 2 (fun i e => bt (r0 i) e = true) k) → kX_reachKinds_72 post J x3 (d + 1) (zp c) (nI i) (sX_intKinds_refKinds xi xr u) := by
  obtain ⟨hn, hn0, ho, hg, hj, hf, hP⟩ := id env
  intro d
  induction d with
  | zero =>
    intro i xi xr c hi v1 v2 m1 m2 hle hc hk
    have : i = n := by omega
    subst this
    refine uX_reachKinds_72 (br_t ?_ (nm_e (hJ xi xr c v1 v2 m1 m2 hc (fun z => ?_))))
    · show gX_lengths u 8 ≤ nI i
      rw [en]; exact Int32.le_refl _
    · obtain ⟨rfl, rfl, k⟩ := hk z
      exact k
  | succ d ih =>
    intro i xi xr c hi v1 v2 m1 m2 hle hc hk
    refine uX_reachKinds_72 (br_f ?_ ⟨vp_in_nI (by omega) (by decide), ?_⟩)
    · show ¬ gX_lengths u 8 ≤ nI i
      rw [en]; exact nI_ge (by omega) (by omega)
    · rw [nI_clamp (by omega)]
      refine br_c (fun z => ?_) (fun z => ?_)
      · refine nm_r (nI_1 i) (ih (i + 1) xi xr c (by omega) v1 v2 m1 m2 hle hc (fun w => ?_))
        obtain ⟨rfl, rfl, k⟩ := hk w
        refine ⟨rfl, rfl, fun j hj h0 => ?_⟩
        by_cases e : j = i
        · subst e; exact absurd z h0
        · exact k j (by omega) h0
      · have z : gX_heights u i ≠ 0 := z
        refine x_spreadK (u := sX_intKinds_refKinds xi xr u) (m := m) hn (by omega) en (ho i (by omega)) (hg i (by omega)) (hj i (by omega)) (hf i (by omega) z) z (hP i (by omega) z).1 eC eL v1 v2 (fun xi' xr' c' sp => ?_)
        rw [sX_kk]
        obtain ⟨w1, w2, l, g, k', n1, n2⟩ := sp
        have n1' : ∀ t e, bt (xi' t) e = true → bt (i0 t) e = true := fun t e b => m1 t e (n1 t e b)
        have n2' : ∀ t e, bt (xr' t) e = true → bt (r0 t) e = true := fun t e b => m2 t e (n2 t e b)
        have g : zs_m 12 24 xi' + zs_m 12 24 xr' ≤ zs_m 12 24 xi + zs_m 12 24 xr := g
        refine zp_br (fun q => ?_) (fun q => ?_)
        · obtain ⟨e1, e2, k1, k2⟩ := k' q
          have e1 : xi' = xi := e1
          have e2 : xr' = xr := e2
          subst e1 e2
          refine nm_r (nI_1 i) (ih (i + 1) xi' xr' c (by omega) w1 w2 n1' n2' hle hc (fun w => ?_))
          obtain ⟨rfl, rfl, k⟩ := hk w
          refine ⟨rfl, rfl, fun j hj h0 => ?_⟩
          by_cases e : j = i
          · subst e; exact ⟨k1, k2⟩
          · exact k j (by omega) h0
        · have l : zs_m 12 24 xi' + zs_m 12 24 xr' < zs_m 12 24 xi + zs_m 12 24 xr := l q
          have := ih (i + 1) xi' xr' True (by omega) w1 w2 n1' n2' (by omega) (fun _ => by omega) (fun w => absurd trivial w)
          rw [zp_t trivial] at this
          exact nm_r (nI_1 i) this
theorem x_kinds56 {post : SX → Prop} {u : SX} {n m : Nat} (en : gX_lengths u 8 = nI n) (env : zk_env (gX_ops u) (gX_operands u) (gX_catchFrom u) (gX_catchTo u) (gX_catchGoal u) (gX_heights u) n)
  {C : Nat → (Nat → Nat → Prop) → Prop} (eC : C = zk_C (gX_refFields u) (gX_ops u) (gX_operands u) (gX_catchFrom u) (gX_catchTo u) (gX_catchGoal u) (gX_heights u) n m)
  (h : ∀ xi xr, C 1 (fun i e => bt (xi i) e = true) → C 2 (fun i e => bt (xr i) e = true) → zk_up (C 1) n xi → zk_up (C 2) n xr → post (sX_intKinds_refKinds xi xr u)) :
  ∀ d p xi xr c, p + d = 1000 → zk_up (C 1) n xi → zk_up (C 2) n xr → (∀ e, e < 12 → bt (xi 0) e = true → bt (nI (zt_ti m)) e = true) → (∀ e, e < 12 → bt (xr 0) e = true → bt (nI (zt_tr m)) e = true) → (c → p + (zs_m 12 24 xi + zs_m 12 24 xr) ≤ 576) → (¬ c → ∀ i, i < n → gX_heights u i ≠ 0 → zk_cl (gX_refFields u) (gX_ops u) (gX_operands u) (gX_catchFrom u) (gX_catchTo u) (gX_catchGoal u) (gX_heights u) n 1 (fun i e => bt (xi i) e = true) i ∧ zk_cl (gX_refFields u) (gX_ops u) (gX_operands u) (gX_catchFrom u) (gX_catchTo u) (gX_catchGoal u) (gX_heights u) n 2 (fun i e => bt (xr i) e = true) i) → kX_reachKinds_56 post (d + 1) (zp c) (nI p) (sX_intKinds_refKinds xi xr u) := by
  intro d
  induction d with
  | zero =>
    intro p xi xr c hp v1 v2 b1 b2 hc hk
    have : p = 1000 := by omega
    subst this
    have nc : ¬ c := fun z => by
      have := hc z
      omega
    have k := hk nc
    refine uX_reachKinds_56 (br_t (by decide) (h xi xr ?_ ?_ v1 v2))
    · rw [eC]; exact ⟨b1, fun i hi h0 => (k i hi h0).1⟩
    · rw [eC]; exact ⟨b2, fun i hi h0 => (k i hi h0).2⟩
  | succ d ih =>
    intro p xi xr c hp v1 v2 b1 b2 hc hk
    refine uX_reachKinds_56 (br_f (nI_ge (b := 1000) (by omega) (by decide)) (zp_br (fun z => ?_) (fun z => ?_)))
    · have k := hk z
      refine h xi xr ?_ ?_ v1 v2
      · rw [eC]; exact ⟨b1, fun i hi h0 => (k i hi h0).1⟩
      · rw [eC]; exact ⟨b2, fun i hi h0 => (k i hi h0).2⟩
    · have q := x_kinds72 (post := post) (J := kX_reachKinds_56 post (d + 1)) (x3 := nI p) (u := u) (m := m) en env eC rfl (i0 := xi) (r0 := xr) ?_ n 0 xi xr False (by omega) v1 v2 (fun _ _ b => b) (fun _ _ b => b) (Nat.le_refl _) (fun k => k.elim) (fun _ => ⟨rfl, rfl, fun k hk => absurd hk (by omega)⟩)
      · rw [zp_f (fun k => k)] at q
        exact ⟨_, q⟩
      · intro xi' xr' c' w1 w2 m1 m2 l k
        rw [nI_1]
        refine ih (p + 1) xi' xr' c' (by omega) w1 w2 (fun e he b => b1 e he (m1 0 e b)) (fun e he b => b2 e he (m2 0 e b)) (fun w => ?_) k
        have := l w
        have := hc z
        omega
theorem zk_4095 : ∀ e, e < 32 → bt 4095 e = decide (e < 12) := by decide
theorem zk_small : ∀ k, k < 4 → ∀ e, e < 32 → 12 ≤ e → bt (nI k) e = false := by decide +kernel
theorem x_reachKinds {post : SX → Prop} {u : SX} {n m : Nat} (hm : m < 8) (en : gX_lengths u 8 = nI n) (env : zk_env (gX_ops u) (gX_operands u) (gX_catchFrom u) (gX_catchTo u) (gX_catchGoal u) (gX_heights u) n)
  (h : ∀ xi xr, zk_FX (gX_refFields u) (gX_ops u) (gX_operands u) (gX_catchFrom u) (gX_catchTo u) (gX_catchGoal u) (gX_heights u) n m 1 xi → zk_FX (gX_refFields u) (gX_ops u) (gX_operands u) (gX_catchFrom u) (gX_catchTo u) (gX_catchGoal u) (gX_heights u) n m 2 xr → post (sX_intKinds_refKinds xi xr u)) : wpX_reachKinds post u (nI m) := by
  have hn := env.1
  have z : ∀ d i xi xr, i + d = 24 → (∀ t, t < i → xi t = 4095 ∧ xr t = 4095) → kX_reachKinds_2 post (nI m) (d + 1) (nI i) (sX_intKinds_refKinds xi xr u) := by
    intro d
    induction d with
    | zero =>
      intro i xi xr hi ha
      have : i = 24 := by omega
      subst this
      refine uX_reachKinds_2 (br_t (by decide) (xt_ti hm (nm_e (xt_tr hm (nm_e ⟨1001, ?_⟩)))))
      have i1 : zt_ti m < 4 := by unfold zt_ti; (repeat' split) <;> omega
      have i2 : zt_tr m < 4 := by unfold zt_tr; (repeat' split) <;> omega
      have up0 : ∀ k (v : Nat) (x : Nat → Int32), v < 4 → (if k = 1 then zt_ti m else zt_tr m) = v → (∀ t, t < 24 → x t = 4095) → zk_up (zk_C (gX_refFields u) (gX_ops u) (gX_operands u) (gX_catchFrom u) (gX_catchTo u) (gX_catchGoal u) (gX_heights u) n m k) n (upd x 0 (nI v)) := by
        intro k v x hv ev hx
        constructor
        · intro P hP i hi e he p
          by_cases w : i = 0
          · subst w
            have := hP.1 e he p
            rw [ev] at this
            rw [pk_us]; exact this
          · rw [pk_un w, hx i (by omega), zk_4095 e (by omega)]
            simp [he]
        · intro i hi e h1 h2
          by_cases w : i = 0
          · subst w; rw [pk_us]; exact zk_small v hv e h2 h1
          · rw [pk_un w, hx i (by omega), zk_4095 e h2]
            have : ¬ e < 12 := by omega
            simp [this]
      have q := x_kinds56 (post := post) (u := u) (m := m) en env rfl (fun xi xr h1 h2 v1 v2 => h xi xr ⟨h1, v1⟩ ⟨h2, v2⟩) 1000 0 (upd xi 0 (nI (zt_ti m))) (upd xr 0 (nI (zt_tr m))) True (by omega) (up0 1 (zt_ti m) xi i1 rfl (fun t ht => (ha t ht).1)) (up0 2 (zt_tr m) xr i2 rfl (fun t ht => (ha t ht).2)) (fun e _ b => by rw [pk_us] at b; exact b) (fun e _ b => by rw [pk_us] at b; exact b) (fun _ => ?_) (fun k => absurd trivial k)
      · rw [zp_t trivial] at q
        exact q
      · have := zs_mub 12 24 (upd xi 0 (nI (zt_ti m)))
        have := zs_mub 12 24 (upd xr 0 (nI (zt_tr m)))
        omega
    | succ d ih =>
      intro i xi xr hi ha
      have v24 : vp_in (nI i) 24 := vp_in_nI (by omega) (by decide)
      refine uX_reachKinds_2 (br_f (nI_ge (b := 24) (by omega) (by decide)) ⟨v24, nm_e ⟨v24, nm_e (nm_r (nI_1 i) ?_)⟩⟩)
      rw [nI_clamp (by omega)]
      refine ih (i + 1) (upd xi i 4095) (upd xr i 4095) (by omega) (fun t ht => ?_)
      by_cases e : t = i
      · subst e; exact ⟨pk_us, pk_us⟩
      · rw [pk_un e, pk_un e]; exact ha t (by omega)
  exact upX_reachKinds ⟨25, z 24 0 (gX_intKinds u) (gX_refKinds u) rfl (fun t ht => absurd ht (by omega))⟩
end
section
/-! Y's kinds -/
/-- a is a field that is there -/
def zy_fd (up fc : Nat → Int32) (a : Int32) : Prop := ∃ j, j < 64 ∧ a = nI j ∧ up (j / 16) ≠ -2 ∧ ∃ n, fc (j / 16) = nI n ∧ j % 16 < n ∧ n ≤ 16
def zk_y (kin : Nat → Int32) (pk : Int32) (o a b e : Nat) : Int32 := if o = 3 then (if e = a then kin b else kin e) else if o = 2 then (if e = b then kin a else kin e) else if o = 20 then (if e = b ∨ e = b + 1 then kin b else kin e) else if e = b then pk else kin e
theorem zh_pw : ∀ H, H < 7 → ∀ h, h < 7 → h ≤ H → ((nI (2 ^ H) >>> (nI h &&& 31)) = 1 ↔ h = H) := by decide
theorem y_heightAt {post : Int32 → Prop} {u : SY} {i H : Nat} (hi : i < 24) (hH : H ≤ 6) (e : gY_heights u i = nI (2 ^ H)) (h : post (nI H)) : wpY_heightAt post u (nI i) := by
  have z : ∀ d k, k + d = H → kY_heightAt_2 post (nI i) (d + 1) (nI k) u := by
    intro d
    induction d with
    | zero =>
      intro k hk
      have : k = H := by omega
      subst this
      refine uY_heightAt_2 ⟨vp_in_nI hi (by decide), ?_⟩
      rw [nI_clamp (by omega), e]
      exact br_t ((zh_pw k (by omega) k (by omega) (Nat.le_refl _)).mpr rfl) h
    | succ d ih =>
      intro k hk
      refine uY_heightAt_2 ⟨vp_in_nI hi (by decide), ?_⟩
      rw [nI_clamp (by omega), e]
      exact br_f (fun w => by have := (zh_pw H (by omega) k (by omega) (by omega)).mp w; omega) (nm_r (nI_1 k) (ih (k + 1) (by omega)))
  exact upY_heightAt ⟨H + 1, z H 0 (by omega)⟩
theorem y_pushed {post : Int32 → Prop} {u : SY} {fc : Nat → Int32} {rf : Nat → Int32} {o i : Nat} {a : Int32} (hr : ∀ c, c < 4 → gY_up u c ≠ -2 → zc_row (gY_up u) (gY_ints u) (gY_references u) fc rf c) (hd : ∀ c, c < 4 → gY_up u c ≠ -2 → zc_dp (gY_up u) 4 (nI c)) (ho : o < 24) (hf : zi_fit o a) (hi : i < 24) (hp : zt_push o ≠ 0) (h20 : o ≠ 20)
  (hc : o = 13 → zy_fd (gY_up u) fc a)
  (h : post (if o = 2 then gY_kinds u (12 * i + a.toNatClampNeg) else nI (zk_pk rf o a))) : wpY_pushed post u (nI o) a (nI i) := by
  refine upY_pushed ?_
  by_cases z2 : o = 2
  · subst z2
    obtain ⟨j, hj, rfl⟩ := zi_fj hf (show zi_lim 2 = 6 from rfl) (by decide)
    have e : (12 : Int32) * nI i + nI j = nI (12 * i + j) := by rw [show (12 : Int32) = nI 12 from rfl, pk_mul, nI_add]
    rw [if_pos rfl, nI_clamp (by omega)] at h
    have k : vp_in (12 * nI i + nI j) 288 ∧ post (gY_kinds u (12 * nI i + nI j).toNatClampNeg) := by
      rw [e, nI_clamp (by omega)]
      exact ⟨vp_in_nI (by omega) (by decide), h⟩
    repeat (first | exact k | refine br_t (by decide) ?_ | refine br_f (by decide) ?_)
  · rw [if_neg z2] at h
    by_cases z13 : o = 13
    · subst z13
      obtain ⟨j, hj, rfl, h2, n, en, hfn, hn⟩ := hc rfl
      have k : wpY_kindOf (fun r => post r) u (nI j / 16) (nI j - nI j / 16 * 16) := by
        rw [(zn_d16 hj).2, (zn_d16 hj).1]
        refine y_kindOf hr (by omega) h2 (hd _ (by omega) h2) en hfn hn ?_
        unfold zk_pk at h
        rw [if_pos rfl, nI_clamp (by omega)] at h
        split at h
        · rename_i w; rw [if_pos w]; exact h
        · rename_i w; rw [if_neg w]; exact h
      repeat (first | exact ⟨zn_16, zn_16, k⟩ | refine br_t (by decide) ?_ | refine br_f (by decide) ?_)
    · by_cases z16 : o = 16
      · subst z16
        obtain ⟨j, hj, rfl⟩ := zi_fj hf (show zi_lim 16 = 8 from rfl) (by decide)
        have k : wpY_gives (fun r => post r) (nI j) := by
          refine yt_gives hj ?_
          unfold zk_pk at h
          rw [if_neg (by decide), if_pos rfl, nI_clamp (by omega)] at h
          split at h
          · rename_i w; rw [if_pos w]; exact h
          · rename_i w; rw [if_neg w]; exact h
        repeat (first | exact k | refine br_t (by decide) ?_ | refine br_f (by decide) ?_)
      · by_cases z17 : o = 17
        · subst z17
          obtain ⟨j, hj, rfl⟩ := zi_fj hf (show zi_lim 17 = 4 from rfl) (by decide)
          have k : ((2 : Int32) ≤ nI j → post 2) ∧ (¬ (2 : Int32) ≤ nI j → post 1) := by
            refine br_i (nI_leI (a := 2) (by decide) (by omega)) (fun w => ?_) (fun w => ?_)
            · rw [show zk_pk rf 17 (nI j) = 2 by unfold zk_pk; rw [if_neg (by decide), if_neg (by decide), if_pos rfl, nI_clamp (by omega), if_neg (by omega)]] at h
              exact h
            · rw [show zk_pk rf 17 (nI j) = 1 by unfold zk_pk; rw [if_neg (by decide), if_neg (by decide), if_pos rfl, nI_clamp (by omega), if_pos (by omega)]] at h
              exact h
          repeat (first | exact k | refine br_t (by decide) ?_ | refine br_f (by decide) ?_)
        · unfold zk_pk at h
          rw [if_neg z13, if_neg z16, if_neg z17] at h
          clear hf hc
          revert z2 z13 z16 z17 h hp h20; revert o
          apply zo_24 <;> intro hp h20 h z2 z13 z16 z17 <;> first | exact absurd rfl z2 | exact absurd rfl z13 | exact absurd rfl z16 | exact absurd rfl z17 | exact absurd rfl hp | exact absurd rfl h20 | (repeat (first | exact h | refine br_t (by decide) ?_ | refine br_f (by decide) ?_))
/-- the pushing loop -/
theorem y_does140 {post : SY → Prop} {u : SY} {o : Nat} (ho : o < 24) {x : Int32} {hb : Nat} (hq : hb + zt_push o ≤ 6) {beh : Nat → Int32}
  (h : ∀ beh', (∀ e, e < 6 + hb → beh' e = beh e) → (∀ e, 6 + hb ≤ e → e < 6 + hb + zt_push o → beh' e = x) → post (sY_height_behind (nI (hb + zt_push o)) beh' u)) : ∃ n, kY_does_140 post (nI o) x n 0 (sY_height_behind (nI hb) beh u) := by
  have hq2 : zt_push o < 100 := by omega
  have z : ∀ d k b', k + d = zt_push o → (∀ e, e < 6 + hb → b' e = beh e) → (∀ e, 6 + hb ≤ e → e < 6 + hb + k → b' e = x) → kY_does_140 post (nI o) x (d + 1) (nI k) (sY_height_behind (nI (hb + k)) b' u) := by
    intro d
    induction d with
    | zero =>
      intro k b' hk h1 h2
      have : k = zt_push o := by omega
      subst this
      exact uY_does_140 (yt_push ho (br_t (Int32.le_refl _) (h b' h1 h2)))
    | succ d ih =>
      intro k b' hk h1 h2
      refine uY_does_140 (yt_push ho (br_f (nI_ge (by omega) (by omega)) (nm_r (nI_1 (hb + k)) ⟨?_, nm_e (nm_r (nI_1 k) ?_)⟩)))
      · show vp_in (6 + nI (hb + k)) 12
        rw [show (6 : Int32) = nI 6 from rfl, nI_add]
        exact vp_in_nI (by omega) (by decide)
      · show kY_does_140 post (nI o) x (d + 1) (nI (k + 1)) (sY_height_behind (nI (hb + k + 1)) (upd b' (6 + nI (hb + k)).toNatClampNeg x) u)
        rw [show (6 : Int32) = nI 6 from rfl, nI_add, nI_clamp (by omega)]
        refine ih (k + 1) _ (by omega) (fun e he => ?_) (fun e h3 h4 => ?_)
        · rw [pk_un (by omega)]; exact h1 e he
        · by_cases w : e = 6 + (hb + k)
          · subst w; exact pk_us
          · rw [pk_un w]; exact h2 e h3 (by omega)
  exact ⟨_, z (zt_push o) 0 beh (by omega) (fun _ _ => rfl) (fun e h1 h2 => absurd h2 (by omega))⟩
/-- what Y needs to know of one instruction that is reached -/
def zy_at (O A a up fc : Nat → Int32) (i H : Nat) : Prop :=
  zi_ok (O (192 + i)) (A (192 + i)) ∧ a i = nI (2 ^ H) ∧ zh_P O A i ≤ H ∧ H - zh_P O A i + zh_Q O i ≤ 6 ∧ H ≤ 6 ∧
  (zh_op O i = 13 ∨ zh_op O i = 14 → zy_fd up fc (A (192 + i)))
theorem y_does {post : SY → Prop} {u : SY} {fc rf : Nat → Int32} {i H : Nat} (hr : ∀ c, c < 4 → gY_up u c ≠ -2 → zc_row (gY_up u) (gY_ints u) (gY_references u) fc rf c) (hd : ∀ c, c < 4 → gY_up u c ≠ -2 → zc_dp (gY_up u) 4 (nI c)) (hi : i < 24) (hat : zy_at (gY_ops u) (gY_args u) (gY_heights u) (gY_up u) fc i H)
  (h : ∀ beh, (∀ e, e < 6 + (H - zh_P (gY_ops u) (gY_args u) i + zh_Q (gY_ops u) i) → beh e = zk_y (fun e => gY_kinds u (12 * i + e)) (nI (zk_pk rf (zh_op (gY_ops u) i) (gY_args u (192 + i)))) (zh_op (gY_ops u) i) (gY_args u (192 + i)).toNatClampNeg (6 + H - zh_P (gY_ops u) (gY_args u) i) e) → post (sY_height_behind (nI (H - zh_P (gY_ops u) (gY_args u) i + zh_Q (gY_ops u) i)) beh u)) : wpY_does post u (nI i) := by
  obtain ⟨ho, eH, hP, hQ, hH, hc⟩ := hat
  have e192 : (192 : Int32) + nI i = nI (192 + i) := by rw [show (192 : Int32) = nI 192 from rfl, nI_add]
  have v216 : vp_in (192 + nI i) 216 := by rw [e192]; exact vp_in_nI (by omega) (by decide)
  refine upY_does ⟨v216, nm_e ⟨v216, nm_e (y_heightAt hi hH eH ?_)⟩⟩
  rw [e192, nI_clamp (by omega)]
  obtain ⟨o24, eo, fo⟩ := zi_of ho
  have eop : zh_op (gY_ops u) i = (gY_ops u (192 + i)).toNatClampNeg := rfl
  rw [← eop] at o24 eo fo
  rw [eo]
  have eP : zh_P (gY_ops u) (gY_args u) i = zt_pops (zh_op (gY_ops u) i) (gY_args u (192 + i)) := rfl
  have eQ : zh_Q (gY_ops u) i = zt_push (zh_op (gY_ops u) i) := rfl
  have z : ∀ d k b', k + d = 12 → (∀ e, e < k → b' e = gY_kinds u (12 * i + e)) → kY_does_34 post (nI i) (nI (zh_op (gY_ops u) i)) (gY_args u (192 + i)) (d + 1) (nI k) (sY_height_behind (nI H) b' u) := by
    intro d
    induction d with
    | zero =>
      intro k b' hk hb
      have : k = 12 := by omega
      subst this
      have e5 : (5 : Int32) + nI H = nI (5 + H) := by rw [show (5 : Int32) = nI 5 from rfl, nI_add]
      refine uY_does_34 (br_t (by decide) ⟨?_, nm_e ?_⟩)
      · show vp_in (5 + nI H) 12
        rw [e5]; exact vp_in_nI (by omega) (by decide)
      · show wpY_pops _ _ _
        refine yt_pops o24 (zi_call fo) (nm_r (pk_sub (by omega)) ?_)
        have etop : b' (5 + nI H).toNatClampNeg = gY_kinds u (12 * i + (5 + H)) := by
          rw [e5, nI_clamp (by omega)]; exact hb _ (by omega)
        -- behind the popping
        have go : ∀ b2 : Nat → Int32, (∀ e, e < 6 + (H - zh_P (gY_ops u) (gY_args u) i) → b2 e = if zh_op (gY_ops u) i = 3 ∧ e = (gY_args u (192 + i)).toNatClampNeg then gY_kinds u (12 * i + (5 + H)) else gY_kinds u (12 * i + e)) → kY_does_106 post (nI i) (nI (zh_op (gY_ops u) i)) (gY_args u (192 + i)) (gY_kinds u (12 * i + (5 + H))) (sY_height_behind (nI (H - zh_P (gY_ops u) (gY_args u) i)) b2 u) := by
          intro b2 hb2
          have fin : ∀ x : Int32, (zt_push (zh_op (gY_ops u) i) ≠ 0 → x = if zh_op (gY_ops u) i = 20 then gY_kinds u (12 * i + (5 + H)) else if zh_op (gY_ops u) i = 2 then gY_kinds u (12 * i + (gY_args u (192 + i)).toNatClampNeg) else nI (zk_pk rf (zh_op (gY_ops u) i) (gY_args u (192 + i)))) → ∃ n, kY_does_140 post (nI (zh_op (gY_ops u) i)) x n 0 (sY_height_behind (nI (H - zh_P (gY_ops u) (gY_args u) i)) b2 u) := by
            intro x hx
            refine y_does140 o24 (by omega) (fun b3 h3 h4 => h b3 (fun e he => ?_))
            by_cases q : e < 6 + (H - zh_P (gY_ops u) (gY_args u) i)
            · rw [h3 e q, hb2 e q]
              unfold zk_y
              by_cases w3 : zh_op (gY_ops u) i = 3
              · have p1 : zh_P (gY_ops u) (gY_args u) i = 1 := by rw [eP, w3]; rfl
                by_cases w4 : e = (gY_args u (192 + i)).toNatClampNeg
                · rw [if_pos ⟨w3, w4⟩, if_pos w3, if_pos w4]
                  exact congrArg _ (by omega)
                · rw [if_neg (fun w => w4 w.2), if_pos w3, if_neg w4]
              · rw [if_neg (fun w => w3 w.1), if_neg w3]
                have n1 : ¬ e = 6 + H - zh_P (gY_ops u) (gY_args u) i := by omega
                have n2 : ¬ (e = 6 + H - zh_P (gY_ops u) (gY_args u) i ∨ e = 6 + H - zh_P (gY_ops u) (gY_args u) i + 1) := by omega
                rw [if_neg n1, if_neg n2, if_neg n1]
                repeat' split
                all_goals rfl
            · have hpush : zt_push (zh_op (gY_ops u) i) ≠ 0 := by omega
              rw [h4 e (by omega) (by omega), hx hpush]
              unfold zk_y
              by_cases w3 : zh_op (gY_ops u) i = 3
              · rw [w3] at hpush; exact absurd rfl hpush
              · rw [if_neg w3]
                by_cases w20 : zh_op (gY_ops u) i = 20
                · have p1 : zh_P (gY_ops u) (gY_args u) i = 1 := by rw [eP, w20]; rfl
                  have q2 : zh_Q (gY_ops u) i = 2 := by rw [eQ, w20]; rfl
                  rw [if_pos w20, if_neg (by omega), if_pos w20, if_pos (by omega)]
                  exact congrArg _ (by omega)
                · have q1 : zh_Q (gY_ops u) i = 1 := by
                    rw [eQ]
                    have : ∀ o, o < 24 → o ≠ 20 → zt_push o ≠ 0 → zt_push o = 1 := by decide
                    exact this _ o24 w20 hpush
                  have ee : e = 6 + H - zh_P (gY_ops u) (gY_args u) i := by omega
                  rw [if_neg w20, if_pos ee, if_neg w20, if_pos ee]
          refine uY_does_106 (yt_push o24 ?_)
          refine br_i (nI_eq (a := zt_push (zh_op (gY_ops u) i)) (b := 0) (by omega) (by decide)) (fun w => ?_) (fun w => ?_)
          · exact fin 0 (fun k => absurd w k)
          · refine br_i (nI_eq (b := 20) (by omega) (by decide)) (fun w2 => ?_) (fun w2 => ?_)
            · exact fin _ (fun _ => by rw [if_pos w2])
            · refine y_pushed (u := sY_height_behind (nI (H - zh_P (gY_ops u) (gY_args u) i)) b2 u) hr hd o24 fo hi w w2 (fun k => hc (Or.inl k)) ?_
              exact fin _ (fun _ => by rw [if_neg w2]; rfl)
        refine br_i (nI_eq (b := 3) (by omega) (by decide)) (fun w => ?_) (fun w => ?_)
        · obtain ⟨j, hj, ej⟩ := zi_fj fo (show zi_lim (zh_op (gY_ops u) i) = 6 by rw [w]; rfl) (by decide)
          refine ⟨by rw [ej]; exact vp_in_nI (by omega) (by decide), nm_e ?_⟩
          show kY_does_106 post (nI i) (nI (zh_op (gY_ops u) i)) (gY_args u (192 + i)) (b' (5 + nI H).toNatClampNeg) (sY_height_behind (nI (H - zt_pops (zh_op (gY_ops u) i) (gY_args u (192 + i)))) (upd b' (gY_args u (192 + i)).toNatClampNeg (b' (5 + nI H).toNatClampNeg)) u)
          rw [etop]
          refine go _ (fun e he => ?_)
          by_cases q : e = (gY_args u (192 + i)).toNatClampNeg
          · rw [if_pos ⟨w, q⟩, q, pk_us]
          · rw [if_neg (fun k => q k.2), pk_un q]; exact hb e (by omega)
        · show kY_does_106 post (nI i) (nI (zh_op (gY_ops u) i)) (gY_args u (192 + i)) (b' (5 + nI H).toNatClampNeg) (sY_height_behind (nI (H - zt_pops (zh_op (gY_ops u) i) (gY_args u (192 + i)))) b' u)
          rw [etop]
          refine go _ (fun e he => ?_)
          rw [if_neg (fun k => w k.1)]; exact hb e (by omega)
    | succ d ih =>
      intro k b' hk hb
      have e12 : (12 : Int32) * nI i + nI k = nI (12 * i + k) := by rw [show (12 : Int32) = nI 12 from rfl, pk_mul, nI_add]
      refine uY_does_34 (br_f (nI_ge (b := 12) (by omega) (by decide)) ⟨by rw [e12]; exact vp_in_nI (by omega) (by decide), vp_in_nI (by omega) (by decide), nm_e (nm_r (nI_1 k) ?_)⟩)
      show kY_does_34 post (nI i) (nI (zh_op (gY_ops u) i)) (gY_args u (192 + i)) (d + 1) (nI (k + 1)) (sY_height_behind (nI H) (upd b' (nI k).toNatClampNeg (gY_kinds u (12 * nI i + nI k).toNatClampNeg)) u)
      rw [e12, nI_clamp (by omega), nI_clamp (by omega)]
      refine ih (k + 1) _ (by omega) (fun e he => ?_)
      by_cases w : e = k
      · subst w; exact pk_us
      · rw [pk_un w]; exact hb e (by omega)
  exact ⟨13, z 12 0 (gY_behind u) rfl (fun e he => absurd he (by omega))⟩
end
section
/-! Y's kinds: meeting, passes, the loop -/
theorem sY_kk (a b : Nat → Int32) (u : SY) : sY_kinds a (sY_kinds b u) = sY_kinds a u := rfl
theorem sY_gbk (a : Nat → Int32) (u : SY) : gY_behind (sY_kinds a u) = gY_behind u := rfl
theorem sY_gk (a : Nat → Int32) (u : SY) : gY_kinds (sY_kinds a u) = a := rfl
theorem sY_kbh (h h' : Int32) (a b a' b' : Nat → Int32) (u : SY) : sY_height_kinds_behind h a b (sY_height_kinds_behind h' a' b' u) = sY_height_kinds_behind h a b u := rfl
theorem sY_khb (h : Int32) (a b : Nat → Int32) (u : SY) : sY_kinds a (sY_height_behind h b u) = sY_height_kinds_behind h a b u := rfl
theorem sY_kkhb (h : Int32) (a a' b : Nat → Int32) (u : SY) : sY_kinds a (sY_height_kinds_behind h a' b u) = sY_height_kinds_behind h a b u := rfl
theorem sY_hbk (h h' : Int32) (a b b' : Nat → Int32) (u : SY) : sY_height_behind h b (sY_height_kinds_behind h' a b' u) = sY_height_kinds_behind h a b u := rfl
theorem sY_gk2 (h : Int32) (a b : Nat → Int32) (u : SY) : gY_kinds (sY_height_kinds_behind h a b u) = a := rfl
theorem sY_gb2 (h : Int32) (a b : Nat → Int32) (u : SY) : gY_behind (sY_height_kinds_behind h a b u) = b := rfl
theorem sY_gk3 (h : Int32) (b : Nat → Int32) (u : SY) : gY_kinds (sY_height_behind h b u) = gY_kinds u := rfl
theorem sY_gb3 (h : Int32) (b : Nat → Int32) (u : SY) : gY_behind (sY_height_behind h b u) = b := rfl
def zy_mt (K : Nat → Int32) (t w : Nat) (beh : Nat → Int32) : Nat → Int32 := fun k => if 12 * t ≤ k ∧ k < 12 * t + w then K k ||| beh (k - 12 * t) else K k
theorem zy_mt0 {K : Nat → Int32} {t : Nat} {beh : Nat → Int32} : zy_mt K t 0 beh = K := by
  funext k
  unfold zy_mt
  rw [if_neg (by omega)]
theorem zy_mts {K : Nat → Int32} {t w : Nat} {beh : Nat → Int32} : upd (zy_mt K t w beh) (12 * t + w) (K (12 * t + w) ||| beh w) = zy_mt K t (w + 1) beh := by
  funext k
  by_cases z : k = 12 * t + w
  · subst z
    rw [pk_us]
    unfold zy_mt
    rw [if_pos (by omega), show 12 * t + w - 12 * t = w by omega]
  · rw [pk_un z]
    unfold zy_mt
    by_cases h : 12 * t ≤ k ∧ k < 12 * t + w
    · rw [if_pos h, if_pos (by omega)]
    · rw [if_neg h, if_neg (by omega)]
theorem zy_mtat {K : Nat → Int32} {t w : Nat} {beh : Nat → Int32} : zy_mt K t w beh (12 * t + w) = K (12 * t + w) := by
  unfold zy_mt
  rw [if_neg (by omega)]
theorem zy_mtin {K : Nat → Int32} {t w e : Nat} {beh : Nat → Int32} (h : e < w) : zy_mt K t w beh (12 * t + e) = K (12 * t + e) ||| beh e := by
  unfold zy_mt
  rw [if_pos (by omega), show 12 * t + e - 12 * t = e by omega]
theorem y_meet {post : Int32 → SY → Prop} {u : SY} {t w : Nat} (ht : t < 24) (hw : w ≤ 6) (eh : gY_height u = nI w) (h : ∀ c : Prop, (c ↔ zy_mt (gY_kinds u) t (6 + w) (gY_behind u) ≠ gY_kinds u) → post (zp c) (sY_kinds (zy_mt (gY_kinds u) t (6 + w) (gY_behind u)) u)) : wpY_meet post u (nI t) := by
  have e6 : (6 : Int32) + nI w = nI (6 + w) := by rw [show (6 : Int32) = nI 6 from rfl, nI_add]
  have z : ∀ d k (c : Prop), k + d = 6 + w → (c ↔ zy_mt (gY_kinds u) t k (gY_behind u) ≠ gY_kinds u) → kY_meet_4 post (nI t) (d + 1) (zp c) (nI k) (sY_kinds (zy_mt (gY_kinds u) t k (gY_behind u)) u) := by
    intro d
    induction d with
    | zero =>
      intro k c hk hc
      have : k = 6 + w := by omega
      subst this
      refine uY_meet_4 (br_t ?_ ⟨zp_n _, h c hc⟩)
      show 6 + gY_height u ≤ nI (6 + w)
      rw [eh, e6]; exact Int32.le_refl _
    | succ d ih =>
      intro k c hk hc
      have e12 : (12 : Int32) * nI t + nI k = nI (12 * t + k) := by rw [show (12 : Int32) = nI 12 from rfl, pk_mul, nI_add]
      have v288 : vp_in (12 * nI t + nI k) 288 := by rw [e12]; exact vp_in_nI (by omega) (by decide)
      have nx : ∀ f : Prop, (f ↔ gY_kinds u (12 * t + k) ||| gY_behind u k ≠ gY_kinds u (12 * t + k)) → kY_meet_57 post (kY_meet_4 post (nI t) (d + 1)) (nI t) (nI k) (gY_kinds u (12 * t + k) ||| gY_behind u k) (zp f) (zp c) (sY_kinds (zy_mt (gY_kinds u) t k (gY_behind u)) u) := by
        intro f hf
        refine uY_meet_57 (nm_r (zp_or c f) ⟨v288, nm_e (nm_r (nI_1 k) ?_)⟩)
        show kY_meet_4 post (nI t) (d + 1) (zp (c ∨ f)) (nI (k + 1)) (sY_kinds (upd (zy_mt (gY_kinds u) t k (gY_behind u)) (12 * nI t + nI k).toNatClampNeg (gY_kinds u (12 * t + k) ||| gY_behind u k)) u)
        rw [e12, nI_clamp (by omega), zy_mts]
        refine ih (k + 1) (c ∨ f) (by omega) ?_
        rw [hc, hf]
        constructor
        · rintro (q | q) e
          · refine q ?_
            funext j
            have := congrFun e j
            unfold zy_mt at this ⊢
            by_cases r : 12 * t ≤ j ∧ j < 12 * t + k
            · rw [if_pos (by omega)] at this; rw [if_pos r]; exact this
            · rw [if_neg r]
          · have := congrFun e (12 * t + k)
            rw [zy_mtin (by omega)] at this
            exact q this
        · intro q
          by_cases r : gY_kinds u (12 * t + k) ||| gY_behind u k = gY_kinds u (12 * t + k)
          · refine Or.inl (fun e => q ?_)
            rw [← zy_mts, e, zu_self r]
          · exact Or.inr r
      refine uY_meet_4 (br_f ?_ ⟨v288, vp_in_nI (by omega) (by decide), nm_e ⟨v288, ?_⟩⟩)
      · show ¬ 6 + gY_height u ≤ nI k
        rw [eh, e6]; exact nI_ge (by omega) (by omega)
      · rw [e12, nI_clamp (n := 12 * t + k) (by omega), nI_clamp (n := k) (by omega), sY_gk, sY_gbk, zy_mtat]
        refine br_c (fun q => ?_) (fun q => ?_)
        · have := nx False ⟨fun k => k.elim, fun k => k q⟩
          rw [zp_f (fun k => k)] at this
          exact this
        · have := nx True ⟨fun _ => q, fun _ => trivial⟩
          rw [zp_t trivial] at this
          exact this
  have q := z (6 + w) 0 False (by omega) ⟨fun k => k.elim, fun k => k zy_mt0⟩
  rw [zp_f (fun k => k), zy_mt0] at q
  exact upY_meet ⟨_, q⟩
/-- bit c of the kind of an entry behind an instruction -/
def zy_v (f : Nat → Nat → Prop) (pk o a b c e : Nat) : Prop :=
  (o = 3 ∧ ((e = a ∧ f c b) ∨ (e ≠ a ∧ f c e))) ∨ (o = 2 ∧ ((e = b ∧ f c a) ∨ (e ≠ b ∧ f c e))) ∨ (o = 20 ∧ (((e = b ∨ e = b + 1) ∧ f c b) ∨ (¬ (e = b ∨ e = b + 1) ∧ f c e))) ∨ (o ≠ 3 ∧ o ≠ 2 ∧ o ≠ 20 ∧ ((e = b ∧ pk = c + 1) ∨ (e ≠ b ∧ f c e)))
theorem zy_vm {f g : Nat → Nat → Prop} {pk o a b c e : Nat} (ha : o = 2 → a < 12) (hb : b < 12 ∨ (o ≠ 3 ∧ o ≠ 20)) (h : ∀ e, e < 12 → f c e → g c e) (he : e < 12) (v : zy_v f pk o a b c e) : zy_v g pk o a b c e := by
  rcases v with ⟨h1, v⟩ | ⟨h1, v⟩ | ⟨h1, v⟩ | ⟨h1, h2, h3, v⟩
  · have hb : b < 12 := hb.elim id (fun k => absurd h1 k.1)
    exact Or.inl ⟨h1, v.elim (fun v => Or.inl ⟨v.1, h _ hb v.2⟩) (fun v => Or.inr ⟨v.1, h _ he v.2⟩)⟩
  · exact Or.inr (Or.inl ⟨h1, v.elim (fun v => Or.inl ⟨v.1, h _ (ha h1) v.2⟩) (fun v => Or.inr ⟨v.1, h _ he v.2⟩)⟩)
  · have hb : b < 12 := hb.elim id (fun k => absurd h1 k.2)
    exact Or.inr (Or.inr (Or.inl ⟨h1, v.elim (fun v => Or.inl ⟨v.1, h _ hb v.2⟩) (fun v => Or.inr ⟨v.1, h _ he v.2⟩)⟩))
  · exact Or.inr (Or.inr (Or.inr ⟨h1, h2, h3, v.elim (fun v => Or.inl v) (fun v => Or.inr ⟨v.1, h _ he v.2⟩)⟩))
theorem zy_pkb : ∀ pk, pk < 3 → ∀ c, c < 32 → (bt (nI pk) c = true ↔ pk = c + 1) := by decide
theorem zk_pk2 (rf : Nat → Int32) (o : Nat) (a : Int32) (ho : o < 24) : zk_pk rf o a < 3 := by
  unfold zk_pk
  repeat' split
  all_goals first | omega | skip
  have : ∀ o, o < 24 → [1, 2, 0, 0, 1, 1, 1, 1, 0, 0, 0, 1, 2, 0, 0, 1, 0, 0, 0, 0, 0, 0, 2, 0].getD o 0 < 3 := by decide
  exact this _ ho
theorem zy_yv {kin : Nat → Int32} {pk o a b c e : Nat} (hp : pk < 3) (hc : c < 32) : bt (zk_y kin (nI pk) o a b e) c = true ↔ zy_v (fun c e => bt (kin e) c = true) pk o a b c e := by
  unfold zk_y zy_v
  by_cases h3 : o = 3
  · rw [if_pos h3]
    by_cases he : e = a
    · rw [if_pos he]; simp [h3, he]
    · rw [if_neg he]; simp [h3, he]
  · rw [if_neg h3]
    by_cases h2 : o = 2
    · rw [if_pos h2]
      by_cases he : e = b
      · rw [if_pos he]; simp [h2, he]
      · rw [if_neg he]; simp [h2, he]
    · rw [if_neg h2]
      by_cases h20 : o = 20
      · rw [if_pos h20]
        by_cases he : e = b ∨ e = b + 1
        · rw [if_pos he]; simp [h20, he]
        · rw [if_neg he]
          have n1 : ¬ e = b := fun k => he (Or.inl k)
          have n2 : ¬ e = b + 1 := fun k => he (Or.inr k)
          simp [h20, n1, n2]
      · rw [if_neg h20]
        by_cases he : e = b
        · rw [if_pos he, zy_pkb pk hp c hc]; simp [h3, h2, h20, he]
        · rw [if_neg he]; simp [h3, h2, h20, he]
def zy_cl (rf O A F T G a : Nat → Int32) (n : Nat) (Z : Nat → Nat → Nat → Prop) (i : Nat) : Prop :=
  (∀ t, t < n → zk_t O A i t → ∀ e, e < zk_b O A a i + zh_Q O i → ∀ c, c < 3 → zy_v (fun c e => Z c i e) (zk_pk rf (zh_op O i) (A (192 + i))) (zh_op O i) (A (192 + i)).toNatClampNeg (zk_b O A a i) c e → Z c t e) ∧
  (zh_cg F T 8 (nI i) → ∀ g, g < n → G 8 = nI g → (∀ e, e < 6 → ∀ c, c < 3 → Z c i e → Z c g e) ∧ Z 0 g 6)
def zy_in (m e : Nat) : Nat := if zt_takes m ≤ e then 4 else if m < 2 then 1 else if 6 ≤ m then 2 else if e = 1 then 1 else 2
def zy_C (rf O A F T G a : Nat → Int32) (n m : Nat) (Z : Nat → Nat → Nat → Prop) : Prop :=
  (∀ e, e < 6 → ∀ c, c < 3 → bt (nI (zy_in m e)) c = true → Z c 0 e) ∧ ∀ i, i < n → a i ≠ 0 → zy_cl rf O A F T G a n Z i
/-- x lies below every closed set -/
def zy_lo (C : (Nat → Nat → Nat → Prop) → Prop) (n : Nat) (K : Nat → Int32) : Prop := (∀ Z, C Z → ∀ i, i < n → ∀ e, e < 12 → ∀ c, c < 3 → bt (K (12 * i + e)) c = true → Z c i e) ∧ ∀ i, i < n → ∀ e, e < 12 → ∀ c, 3 ≤ c → c < 32 → bt (K (12 * i + e)) c = false
def zy_bits (K : Nat → Int32) : Nat → Nat → Nat → Prop := fun c i e => bt (K (12 * i + e)) c = true
def zy_one (n : Nat) (p : Prop) (t w : Nat) (beh K K' : Nat → Int32) (c : Prop) : Prop := (p ∧ t < n ∧ K' = zy_mt K t w beh ∧ (c ↔ K' ≠ K)) ∨ (¬ p ∧ K' = K ∧ ¬ c)
theorem zy_mtm {K : Nat → Int32} {t w : Nat} {beh : Nat → Int32} {k c : Nat} (h : bt (K k) c = true) : bt (zy_mt K t w beh k) c = true := by
  unfold zy_mt
  split
  · rw [b_or, h]; rfl
  · exact h
theorem zy_oneS {C : (Nat → Nat → Nat → Prop) → Prop} {n : Nat} (hn : n ≤ 24) {p : Prop} {t w : Nat} (hw : w ≤ 12) {beh K K' : Nat → Int32} {c : Prop} (h : zy_one n p t w beh K K' c) (u1 : zy_lo C n K)
  (s1 : p → ∀ Z, C Z → ∀ e, e < w → ∀ c, c < 3 → bt (beh e) c = true → Z c t e) (s2 : p → ∀ e, e < w → ∀ c, 3 ≤ c → c < 32 → bt (beh e) c = false) :
  zy_lo C n K' ∧ (c → zs_m 3 288 K < zs_m 3 288 K') ∧ zs_m 3 288 K ≤ zs_m 3 288 K' ∧ (¬ c → K' = K ∧ (p → ∀ e, e < w → ∀ c, bt (beh e) c = true → bt (K (12 * t + e)) c = true)) ∧ (∀ k c, bt (K k) c = true → bt (K' k) c = true) := by
  rcases h with ⟨hp, ht, rfl, hc⟩ | ⟨hp, rfl, hc⟩
  · have lo : zy_lo C n (zy_mt K t w beh) := by
      constructor
      · intro Z hZ i hi e he c' hc' b
        unfold zy_mt at b
        split at b
        · rename_i q
          have : i = t := by omega
          subst this
          rw [show 12 * i + e - 12 * i = e by omega, b_or] at b
          rcases Bool.or_eq_true_iff.mp b with b | b
          · exact u1.1 Z hZ i hi e he c' hc' b
          · exact s1 hp Z hZ e (by omega) c' hc' b
        · exact u1.1 Z hZ i hi e he c' hc' b
      · intro i hi e he c h1 h2
        unfold zy_mt
        split
        · rename_i q
          have : i = t := by omega
          subst this
          rw [show 12 * i + e - 12 * i = e by omega, b_or, u1.2 i hi e he c h1 h2, s2 hp e (by omega) c h1 h2]; rfl
        · exact u1.2 i hi e he c h1 h2
    refine ⟨lo, fun w' => ?_, zs_mle (fun _ _ _ _ b => zy_mtm b), fun w' => ?_, fun _ _ b => zy_mtm b⟩
    · have ne := hc.mp w'
      have : ∃ k, zy_mt K t w beh k ≠ K k := by
        by_cases q : ∃ k, zy_mt K t w beh k ≠ K k
        · exact q
        · refine absurd (funext fun k => ?_) ne
          by_cases r : zy_mt K t w beh k = K k
          · exact r
          · exact absurd ⟨k, r⟩ q
      obtain ⟨k, hk⟩ := this
      have hk2 : 12 * t ≤ k ∧ k < 12 * t + w := by
        by_cases q : 12 * t ≤ k ∧ k < 12 * t + w
        · exact q
        · unfold zy_mt at hk; rw [if_neg q] at hk; exact absurd rfl hk
      obtain ⟨i, hi, hd⟩ := zb_ne hk
      have b2 : bt (K k) i = false := by
        cases q : bt (K k) i
        · rfl
        · rw [zy_mtm q, q] at hd; exact absurd rfl hd
      have b1 : bt (zy_mt K t w beh k) i = true := by
        cases q : bt (zy_mt K t w beh k) i
        · rw [q, b2] at hd; exact absurd rfl hd
        · rfl
      have h3 : i < 3 := by
        by_cases q : i < 3
        · exact q
        · have := lo.2 t ht (k - 12 * t) (by omega) i (by omega) hi
          rw [show 12 * t + (k - 12 * t) = k by omega, b1] at this
          exact absurd this (by decide)
      exact zs_mlt (fun _ _ _ _ b => zy_mtm b) (t := k) (j := i) (by omega) h3 b2 b1
    · have e : zy_mt K t w beh = K := by
        by_cases q : zy_mt K t w beh = K
        · exact q
        · exact absurd (hc.mpr q) w'
      refine ⟨e, fun _ e' he c b => ?_⟩
      have := congrFun e (12 * t + e')
      rw [zy_mtin he] at this
      rw [← this, b_or, b, Bool.or_true]
  · exact ⟨u1, fun w => absurd w hc, Nat.le_refl _, fun _ => ⟨rfl, fun w => absurd w hp⟩, fun _ _ b => b⟩
def zy_sp (C L : (Nat → Nat → Nat → Prop) → Prop) (n : Nat) (K K' : Nat → Int32) (c : Prop) : Prop :=
  zy_lo C n K' ∧ (c → zs_m 3 288 K < zs_m 3 288 K') ∧ zs_m 3 288 K ≤ zs_m 3 288 K' ∧ (¬ c → K' = K ∧ L (zy_bits K)) ∧ (∀ k c, bt (K k) c = true → bt (K' k) c = true)
theorem zy_three {rf O A F T G a : Nat → Int32} {n m i g w : Nat} (hn : n ≤ 24) (hi : i < n) (h0 : a i ≠ 0) {K : Nat → Int32} (u1 : zy_lo (zy_C rf O A F T G a n m) n K) {beh beh3 : Nat → Int32} (ho : zh_op O i < 24)
  (hw : w = zk_b O A a i + zh_Q O i) (hw12 : w ≤ 12) (hbeh : ∀ e, e < w → beh e = zk_y (fun e => K (12 * i + e)) (nI (zk_pk rf (zh_op O i) (A (192 + i)))) (zh_op O i) (A (192 + i)).toNatClampNeg (zk_b O A a i) e)
  (ha : zh_op O i = 2 → (A (192 + i)).toNatClampNeg < 12) (ha3 : zh_op O i = 3 → (A (192 + i)).toNatClampNeg < 12) (hb : zk_b O A a i < 12 ∨ (zh_op O i ≠ 3 ∧ zh_op O i ≠ 20)) (hg : zh_cg F T 8 (nI i) → G 8 = nI g) (hj : zt_jump (zh_op O i) → A (192 + i) = nI (A (192 + i)).toNatClampNeg) (hg2 : g < 2 ^ 31)
  {K1 K2 K3 : Nat → Int32} {c1 c2 c3 : Prop} (hb3 : zh_cg F T 8 (nI i) → (∀ e, e < 6 → beh3 e = K2 (12 * i + e)) ∧ beh3 6 = 1) (e1 : zy_one n (zt_jump (zh_op O i)) (A (192 + i)).toNatClampNeg w beh K K1 c1) (e2 : zy_one n (zt_fall (zh_op O i)) (i + 1) w beh K1 K2 c2) (e3 : zy_one n (zh_cg F T 8 (nI i)) g 7 beh3 K2 K3 c3) :
  zy_sp (zy_C rf O A F T G a n m) (fun Z => zy_cl rf O A F T G a n Z i) n K K3 (c1 ∨ c2 ∨ c3) := by
  have pk3 := zk_pk2 rf (zh_op O i) (A (192 + i)) ho
  have tj : zt_jump (zh_op O i) → zk_t O A i (A (192 + i)).toNatClampNeg := fun w => Or.inl ⟨w, hj w⟩
  have tf : zt_fall (zh_op O i) → zk_t O A i (i + 1) := fun w => Or.inr ⟨w, rfl⟩
  have fy : ∀ t, t < n → zk_t O A i t → ∀ Z, zy_C rf O A F T G a n m Z → ∀ e, e < w → ∀ c, c < 3 → bt (beh e) c = true → Z c t e := by
    intro t ht q Z hZ e he c hc b
    rw [hbeh e he, zy_yv pk3 (by omega)] at b
    refine (hZ.2 i hi h0).1 t ht q e (by omega) c hc (zy_vm ha hb (fun e he q => u1.1 Z hZ i hi e he c hc q) (by omega) b)
  have fz : ∀ e, e < w → ∀ c, 3 ≤ c → c < 32 → bt (beh e) c = false := by
    intro e he c h1 h2
    cases q : bt (beh e) c
    · rfl
    · rw [hbeh e he, zy_yv pk3 h2] at q
      have no : ∀ e, e < 12 → bt (K (12 * i + e)) c = true → False := fun e he b => by
        rw [u1.2 i hi e he c h1 h2] at b; exact absurd b (by decide)
      rcases q with ⟨q1, ⟨q2, q⟩ | ⟨q2, q⟩⟩ | ⟨q1, ⟨q2, q⟩ | ⟨q2, q⟩⟩ | ⟨q1, ⟨q2, q⟩ | ⟨q2, q⟩⟩ | ⟨q1, q2, q3, ⟨q4, q⟩ | ⟨q4, q⟩⟩
      · exact (no _ (hb.elim id (fun k => absurd q1 k.1)) q).elim
      · exact (no _ (by omega) q).elim
      · exact (no _ (ha q1) q).elim
      · exact (no _ (by omega) q).elim
      · exact (no _ (hb.elim id (fun k => absurd q1 k.2)) q).elim
      · exact (no _ (by omega) q).elim
      · omega
      · exact (no _ (by omega) q).elim
  have tn1 : zt_jump (zh_op O i) → (A (192 + i)).toNatClampNeg < n := by
    intro w; rcases e1 with e | e
    · exact e.2.1
    · exact absurd w e.1
  have tn2 : zt_fall (zh_op O i) → i + 1 < n := by
    intro w; rcases e2 with e | e
    · exact e.2.1
    · exact absurd w e.1
  have tn3 : zh_cg F T 8 (nI i) → g < n := by
    intro w; rcases e3 with e | e
    · exact e.2.1
    · exact absurd w e.1
  obtain ⟨a1, l1, g1, k1, m1⟩ := zy_oneS hn hw12 e1 u1 (fun q => fy _ (tn1 q) (tj q)) (fun _ => fz)
  obtain ⟨a2, l2, g2, k2, m2⟩ := zy_oneS hn hw12 e2 a1 (fun q => fy _ (tn2 q) (tf q)) (fun _ => fz)
  obtain ⟨a3, l3, g3, k3, m3⟩ := zy_oneS hn (by decide) e3 a2 (fun q Z hZ e he c hc b => by
      have q2 := (hZ.2 i hi h0).2 q g (tn3 q) (hg q)
      by_cases h6 : e = 6
      · subst h6
        rw [(hb3 q).2, zb_1 c (by omega)] at b
        have : c = 0 := by simpa using b
        subst this
        exact q2.2
      · rw [(hb3 q).1 e (by omega)] at b
        exact q2.1 e (by omega) c hc (a2.1 Z hZ i hi e (by omega) c hc b)) (fun q e he c h1 h2 => by
      by_cases h6 : e = 6
      · subst h6
        rw [(hb3 q).2, zb_1 c h2]
        have : ¬ c = 0 := by omega
        simp [this]
      · rw [(hb3 q).1 e (by omega)]
        exact a2.2 i hi e (by omega) c h1 h2)
  refine ⟨a3, ?_, by omega, ?_, fun k c b => m3 k c (m2 k c (m1 k c b))⟩
  · rintro (w | w | w)
    · have := l1 w; omega
    · have := l2 w; omega
    · have := l3 w; omega
  · intro q
    obtain ⟨p1, f1⟩ := k1 (fun k => q (Or.inl k))
    obtain ⟨p2, f2⟩ := k2 (fun k => q (Or.inr (Or.inl k)))
    obtain ⟨p3, f3⟩ := k3 (fun k => q (Or.inr (Or.inr k)))
    subst p1 p2 p3
    refine ⟨rfl, ?_, ?_⟩
    · intro t ht q e he c hc b
      have b' : bt (beh e) c = true := by
        rw [hbeh e (by omega), zy_yv pk3 (by omega)]; exact b
      rcases q with ⟨q, q2⟩ | ⟨q, rfl⟩
      · have : (A (192 + i)).toNatClampNeg = t := by rw [q2, nI_clamp (by omega)]
        have := f1 q e (by omega) c b'
        rwa [‹(A (192 + i)).toNatClampNeg = t›] at this
      · exact f2 q e (by omega) c b'
    · intro q t ht q2 
      have eg : g = t := (nI_eq hg2 (by omega)).mp ((hg q).symm.trans q2)
      subst eg
      refine ⟨fun e he c hc b => f3 q e (by omega) c (by rw [(hb3 q).1 e he]; exact b), f3 q 6 (by omega) 0 (by rw [(hb3 q).2]; decide)⟩
/-- the facts about classes that Y's walks ask for -/
def zy_cls (u : SY) (fc rf : Nat → Int32) : Prop := (∀ c, c < 4 → gY_up u c ≠ -2 → zc_row (gY_up u) (gY_ints u) (gY_references u) fc rf c) ∧ (∀ c, c < 4 → gY_up u c ≠ -2 → zc_dp (gY_up u) 4 (nI c))
/-- the draft behind the heights, as Y's kinds need it -/
def zy_env (O A F T G a up fc : Nat → Int32) (n : Nat) : Prop := zk_env O A F T G a n ∧ ∀ i, i < n → a i ≠ 0 → zy_at O A a up fc i (zh_ht (a i))
theorem y_passes {post : Int32 → SY → Prop} {u : SY} {fc rf : Nat → Int32} {n m i : Nat} (hcl : zy_cls u fc rf) (hi : i < n) (env : zy_env (gY_ops u) (gY_args u) (gY_from u) (gY_to u) (gY_goal u) (gY_heights u) (gY_up u) fc n) (h0 : gY_heights u i ≠ 0)
  {C : (Nat → Nat → Nat → Prop) → Prop} (eC : C = zy_C rf (gY_ops u) (gY_args u) (gY_from u) (gY_to u) (gY_goal u) (gY_heights u) n m) {L : (Nat → Nat → Nat → Prop) → Nat → Prop} (eL : L = zy_cl rf (gY_ops u) (gY_args u) (gY_from u) (gY_to u) (gY_goal u) (gY_heights u) n) (u1 : zy_lo C n (gY_kinds u))
  (h : ∀ (K b : Nat → Int32) (hh : Int32) (c : Prop), zy_sp C (fun Z => L Z i) n (gY_kinds u) K c → post (zp c) (sY_height_kinds_behind hh K b u)) : wpY_passes post u (nI i) := by
  subst eC eL
  obtain ⟨⟨hn, hn0, ho, hg, hj, hf, hP⟩, hat⟩ := id env
  obtain ⟨hr, hd⟩ := id hcl
  have e192 : (192 : Int32) + nI i = nI (192 + i) := by rw [show (192 : Int32) = nI 192 from rfl, nI_add]
  have v216 : vp_in (192 + nI i) 216 := by rw [e192]; exact vp_in_nI (by omega) (by decide)
  refine upY_passes ⟨v216, nm_e (y_does hr hd (by omega) (hat i hi h0) (fun beh hbeh => ?_))⟩
  rw [e192, nI_clamp (by omega)]
  obtain ⟨o24, eo, fo⟩ := zi_of (ho i hi)
  have eop : zh_op (gY_ops u) i = (gY_ops u (192 + i)).toNatClampNeg := rfl
  rw [← eop] at o24 eo fo
  rw [eo]
  have H6 := zh_ht6 (gY_heights u i)
  have hPi := hP i hi h0
  have eb : zk_b (gY_ops u) (gY_args u) (gY_heights u) i = 6 + zh_ht (gY_heights u i) - zh_P (gY_ops u) (gY_args u) i := rfl
  have ew : 6 + (zh_ht (gY_heights u i) - zh_P (gY_ops u) (gY_args u) i + zh_Q (gY_ops u) i) = zk_b (gY_ops u) (gY_args u) (gY_heights u) i + zh_Q (gY_ops u) i := by rw [eb]; omega
  have gex : ∃ g, g < 2 ^ 31 ∧ (zh_cg (gY_from u) (gY_to u) 8 (nI i) → g < n ∧ gY_goal u 8 = nI g) := by
    by_cases w : zh_cg (gY_from u) (gY_to u) 8 (nI i)
    · obtain ⟨g, h1, h2⟩ := hg i hi w
      exact ⟨g, by omega, fun _ => ⟨h1, h2⟩⟩
    · exact ⟨0, by decide, fun k => absurd k w⟩
  obtain ⟨g, hg31, hg'⟩ := gex
  have hb : zk_b (gY_ops u) (gY_args u) (gY_heights u) i < 12 ∨ (zh_op (gY_ops u) i ≠ 3 ∧ zh_op (gY_ops u) i ≠ 20) := by
    by_cases w : zh_op (gY_ops u) i = 3
    · refine Or.inl ?_
      have : zh_P (gY_ops u) (gY_args u) i = 1 := by unfold zh_P; rw [w]; rfl
      omega
    · by_cases w2 : zh_op (gY_ops u) i = 20
      · refine Or.inl ?_
        have : zh_P (gY_ops u) (gY_args u) i = 1 := by unfold zh_P; rw [w2]; rfl
        omega
      · exact Or.inr ⟨w, w2⟩
  have ha : ∀ o, o = 2 ∨ o = 3 → zh_op (gY_ops u) i = o → (gY_args u (192 + i)).toNatClampNeg < 12 := by
    intro o ho2 w
    obtain ⟨j, hj, ej⟩ := zi_fj fo (show zi_lim (zh_op (gY_ops u) i) = 6 by rw [w]; rcases ho2 with rfl | rfl <;> rfl) (by decide)
    rw [ej, nI_clamp (by omega)]; omega
  have hj' : zt_jump (zh_op (gY_ops u) i) → gY_args u (192 + i) = nI (gY_args u (192 + i)).toNatClampNeg := by
    intro w
    obtain ⟨t, ht, et⟩ := hj i hi w
    rw [et, nI_clamp (by omega)]
  rw [ew] at hbeh
  have key : ∀ (b3 K1 K2 K3 : Nat → Int32) (c1 c2 c3 : Prop), _ → _ → _ → _ → _ := fun b3 K1 K2 K3 c1 c2 c3 hb3 e1 e2 e3 => zy_three (rf := rf) (m := m) (g := g) (w := zk_b (gY_ops u) (gY_args u) (gY_heights u) i + zh_Q (gY_ops u) i) (beh := beh) (beh3 := b3) (K1 := K1) (K2 := K2) (K3 := K3) (c1 := c1) (c2 := c2) (c3 := c3) hn hi h0 u1 o24 rfl (by omega) hbeh (ha 2 (Or.inl rfl)) (ha 3 (Or.inr rfl)) hb (fun w => (hg' w).2) hj' hg31 hb3 e1 e2 e3
  -- the catcher
  have third : ∀ (K1 K2 : Nat → Int32) (c1 c2 : Prop), zy_one n (zt_jump (zh_op (gY_ops u) i)) (gY_args u (192 + i)).toNatClampNeg (zk_b (gY_ops u) (gY_args u) (gY_heights u) i + zh_Q (gY_ops u) i) beh (gY_kinds u) K1 c1 → zy_one n (zt_fall (zh_op (gY_ops u) i)) (i + 1) (zk_b (gY_ops u) (gY_args u) (gY_heights u) i + zh_Q (gY_ops u) i) beh K1 K2 c2 → ∀ hh, kY_passes_57 post (nI i) (zp (c1 ∨ c2)) (sY_height_kinds_behind hh K2 beh u) := by
    intro K1 K2 c1 c2 e1 e2 hh
    refine uY_passes_57 (y_isCaught (zp_br (fun w => ⟨zp_n _, ?_⟩) (fun w => ⟨7, ?_⟩)))
    · have := h K2 beh hh _ (key beh K1 K2 K2 c1 c2 False (fun k => absurd k w) e1 e2 (Or.inr ⟨w, rfl, fun k => k⟩))
      rw [zp_c (show (c1 ∨ c2 ∨ False) ↔ (c1 ∨ c2) by simp)] at this
      exact this
    · have w' := hg' w
      have lp : ∀ d k b, k + d = 6 → (∀ e, e < k → b e = K2 (12 * i + e)) → kY_passes_70 post (nI i) (zp (c1 ∨ c2)) (d + 1) (nI k) (sY_height_kinds_behind hh K2 b u) := by
        intro d
        induction d with
        | zero =>
          intro k b hk hb2
          have : k = 6 := by omega
          subst this
          refine uY_passes_70 (br_t (by decide) (nm_e ?_))
          show wpY_meet _ (sY_height_behind 1 (upd b 6 1) (sY_height_kinds_behind hh K2 b u)) (gY_goal u 8)
          rw [w'.2, sY_hbk]
          refine y_meet (w := 1) (by omega) (by decide) rfl (fun c3 hc3 => ?_)
          rw [sY_gk2, sY_gb2] at hc3
          rw [zp_or, sY_kkhb, sY_gk2, sY_gb2]
          refine ⟨zp_n _, ?_⟩
          have := h _ (upd b 6 1) 1 _ (key (upd b 6 1) K1 K2 _ c1 c2 c3 (fun _ => ⟨fun e he => by rw [pk_un (by omega)]; exact hb2 e he, pk_us⟩) e1 e2 (Or.inl ⟨w, w'.1, rfl, hc3⟩))
          rw [zp_c (show (c1 ∨ c2 ∨ c3) ↔ ((c1 ∨ c2) ∨ c3) from or_assoc.symm)] at this
          exact this
        | succ d ih =>
          intro k b hk hb2
          have e12 : (12 : Int32) * nI i + nI k = nI (12 * i + k) := by rw [show (12 : Int32) = nI 12 from rfl, pk_mul, nI_add]
          refine uY_passes_70 (br_f (nI_ge (b := 6) (by omega) (by decide)) ⟨by rw [e12]; exact vp_in_nI (by omega) (by decide), vp_in_nI (by omega) (by decide), nm_e (nm_r (nI_1 k) ?_)⟩)
          show kY_passes_70 post (nI i) (zp (c1 ∨ c2)) (d + 1) (nI (k + 1)) (sY_height_kinds_behind hh K2 (upd b (nI k).toNatClampNeg (K2 (12 * nI i + nI k).toNatClampNeg)) u)
          rw [e12, nI_clamp (by omega), nI_clamp (by omega)]
          refine ih (k + 1) _ (by omega) (fun e he => ?_)
          by_cases q : e = k
          · subst q; exact pk_us
          · rw [pk_un q]; exact hb2 e (by omega)
      exact lp 6 0 beh rfl (fun e he => absurd he (by omega))
  have wh : zh_ht (gY_heights u i) - zh_P (gY_ops u) (gY_args u) i + zh_Q (gY_ops u) i ≤ 6 := hPi.2
  have second : ∀ (K1 : Nat → Int32) (c1 : Prop), zy_one n (zt_jump (zh_op (gY_ops u) i)) (gY_args u (192 + i)).toNatClampNeg (zk_b (gY_ops u) (gY_args u) (gY_heights u) i + zh_Q (gY_ops u) i) beh (gY_kinds u) K1 c1 → kY_passes_40 post (nI i) (nI (zh_op (gY_ops u) i)) (zp c1) (sY_height_kinds_behind (nI (zh_ht (gY_heights u i) - zh_P (gY_ops u) (gY_args u) i + zh_Q (gY_ops u) i)) K1 beh u) := by
    intro K1 c1 e1
    refine uY_passes_40 (yt_fall o24 (zp_br (fun w => ?_) (fun w => ?_)))
    · have := third K1 K1 c1 False e1 (Or.inr ⟨w, rfl, fun k => k⟩) (nI (zh_ht (gY_heights u i) - zh_P (gY_ops u) (gY_args u) i + zh_Q (gY_ops u) i))
      rw [zp_c (show (c1 ∨ False) ↔ c1 by simp)] at this
      exact this
    · rw [nI_1]
      have fw := hf i hi h0 w
      refine y_meet (by omega) wh rfl (fun c2 hc2 => nm_r (zp_or _ _) ?_)
      rw [sY_gk2, sY_gb2] at hc2
      rw [sY_kkhb, sY_gk2, sY_gb2]
      have := third K1 _ c1 c2 e1 (Or.inl ⟨w, fw, rfl, by rw [← ew]; exact hc2⟩) (nI (zh_ht (gY_heights u i) - zh_P (gY_ops u) (gY_args u) i + zh_Q (gY_ops u) i))
      rw [← ew] at this
      exact this
  refine yt_jump o24 (zp_br (fun w => ?_) (fun w => ⟨by rw [← e192]; exact v216, ?_⟩))
  · have := second _ False (Or.inr ⟨w, rfl, fun k => k⟩)
    rw [zp_f (fun k => k)] at this
    exact this
  · obtain ⟨t, ht, et⟩ := hj i hi w
    show wpY_meet _ _ (gY_args u (192 + i))
    rw [et]
    refine y_meet (by omega) wh rfl (fun c1 hc1 => ?_)
    rw [sY_gk3, sY_gb3] at hc1
    rw [sY_khb, sY_gk3, sY_gb3]
    have q := second _ c1 (Or.inl ⟨w, by rw [et, nI_clamp (by omega)]; exact ht, rfl, by rw [et, nI_clamp (by omega), ← ew]; exact hc1⟩)
    rw [et, nI_clamp (by omega), ← ew] at q
    exact q
end
section
/-! Y's kinds: what is needed, and the whole of mixed -/
/-- the kind that is needed k below the top; 0: any -/
def zy_nd (rf : Nat → Int32) (m o : Nat) (a : Int32) (k : Nat) : Nat := if o = 14 then (if k = 0 then (if bt (rf (a.toNatClampNeg / 16)) (a.toNatClampNeg % 16) then 2 else 1) else 2) else if o = 16 then (if a.toNatClampNeg = 7 then 2 else if k = 1 then 2 else 1) else if o = 17 then (if k = 1 then 2 else 1) else if o = 18 then (if 4 ≤ m ∧ m ≤ 6 then 2 else 1) else [1, 1, 1, 0, 1, 1, 1, 1, 1, 1, 2, 2, 1, 2, 0, 2, 0, 0, 0, 1, 0, 0, 1, 2].getD o 1
theorem zy_nd3 (rf : Nat → Int32) (m o : Nat) (a : Int32) (k : Nat) (ho : o < 24) : zy_nd rf m o a k < 3 := by
  unfold zy_nd
  repeat' split
  all_goals first | omega | skip
  have : ∀ o, o < 24 → [1, 1, 1, 0, 1, 1, 1, 1, 1, 1, 2, 2, 1, 2, 0, 2, 0, 0, 0, 1, 0, 0, 1, 2].getD o 1 < 3 := by decide
  exact this _ ho
theorem y_needs {post : Int32 → Prop} {u : SY} {fc rf : Nat → Int32} {o m k : Nat} {a : Int32} (hcl : zy_cls u fc rf) (ho : o < 24) (hm : m < 8) (hk : k < 2) (hf : zi_fit o a)
  (hc : o = 14 → zy_fd (gY_up u) fc a)
  (h : post (nI (zy_nd rf m o a k))) : wpY_needs post u (nI o) a (nI m) (nI k) := by
  refine upY_needs ?_
  have k0 : nI k = 0 ↔ k = 0 := nI_eq (b := 0) (by omega) (by decide)
  have k1 : nI k = 1 ↔ k = 1 := nI_eq (b := 1) (by omega) (by decide)
  unfold zy_nd at h
  by_cases z14 : o = 14
  · subst z14
    rw [if_pos rfl] at h
    obtain ⟨j, hj, rfl, h2, n, en, hfn, hn⟩ := hc rfl
    have q : (nI k = 0 → (¬ (16 : Int32) = 0 ∧ (¬ (16 : Int32) = 0 ∧ wpY_kindOf (fun r => post r) u (nI j / 16) (nI j - nI j / 16 * 16)))) ∧ (¬ nI k = 0 → post 2) := by
      refine br_i k0 (fun w => ⟨zn_16, zn_16, ?_⟩) (fun w => ?_)
      · rw [(zn_d16 hj).2, (zn_d16 hj).1]
        refine y_kindOf hcl.1 (by omega) h2 (hcl.2 _ (by omega) h2) en hfn hn ?_
        rw [if_pos w, nI_clamp (by omega)] at h
        split at h
        · rename_i w; rw [if_pos w]; exact h
        · rename_i w; rw [if_neg w]; exact h
      · rw [if_neg w] at h; exact h
    repeat (first | exact q | refine br_t (by decide) ?_ | refine br_f (by decide) ?_)
  · rw [if_neg z14] at h
    by_cases z16 : o = 16
    · subst z16
      rw [if_pos rfl] at h
      obtain ⟨j, hj, rfl⟩ := zi_fj hf (show zi_lim 16 = 8 from rfl) (by decide)
      have q : (nI j = 7 → post 2) ∧ (¬ nI j = 7 → ((nI k = 1 → post 2) ∧ (¬ nI k = 1 → post 1))) := by
        rw [nI_clamp (by omega)] at h
        refine br_i (nI_eq (b := 7) (by omega) (by decide)) (fun w => ?_) (fun w => br_i k1 (fun w2 => ?_) (fun w2 => ?_))
        · rw [if_pos w] at h; exact h
        · rw [if_neg w, if_pos w2] at h; exact h
        · rw [if_neg w, if_neg w2] at h; exact h
      repeat (first | exact q | refine br_t (by decide) ?_ | refine br_f (by decide) ?_)
    · rw [if_neg z16] at h
      by_cases z17 : o = 17
      · subst z17
        rw [if_pos rfl] at h
        have q : (nI k = 1 → post 2) ∧ (¬ nI k = 1 → post 1) := by
          refine br_i k1 (fun w2 => ?_) (fun w2 => ?_)
          · rw [if_pos w2] at h; exact h
          · rw [if_neg w2] at h; exact h
        repeat (first | exact q | refine br_t (by decide) ?_ | refine br_f (by decide) ?_)
      · rw [if_neg z17] at h
        by_cases z18 : o = 18
        · subst z18
          rw [if_pos rfl] at h
          have q : wpY_gives (fun r => post r) (nI m) := by
            refine yt_gives hm ?_
            split at h
            · rename_i w; rw [if_pos w]; exact h
            · rename_i w; rw [if_neg w]; exact h
          repeat (first | exact q | refine br_t (by decide) ?_ | refine br_f (by decide) ?_)
        · rw [if_neg z18] at h
          clear hf hc
          revert z14 z16 z17 z18 h; revert o
          apply zo_24 <;> intro h z14 z16 z17 z18 <;> first | exact absurd rfl z14 | exact absurd rfl z16 | exact absurd rfl z17 | exact absurd rfl z18 | (repeat (first | exact h | refine br_t (by decide) ?_ | refine br_f (by decide) ?_))
/-- Y's fault of the third kind -/
def zf_kY (rf O A a K : Nat → Int32) (m i : Nat) : Prop :=
  a i ≠ 0 ∧ ((zh_op O i = 2 ∧ K (12 * i + (A (192 + i)).toNatClampNeg) ≠ 1 ∧ K (12 * i + (A (192 + i)).toNatClampNeg) ≠ 2) ∨ ∃ k, k < zh_P O A i ∧ zy_nd rf m (zh_op O i) (A (192 + i)) k ≠ 0 ∧ K (12 * i + 5 + zh_ht (a i) - k) ≠ nI (zy_nd rf m (zh_op O i) (A (192 + i)) k))
theorem y_isMixed {post : Int32 → Prop} {u : SY} {fc rf : Nat → Int32} {n m i : Nat} (hcl : zy_cls u fc rf) (hm : m < 8) (hi : i < n) (env : zy_env (gY_ops u) (gY_args u) (gY_from u) (gY_to u) (gY_goal u) (gY_heights u) (gY_up u) fc n) (h0 : gY_heights u i ≠ 0)
  (h : post (zp (zf_kY rf (gY_ops u) (gY_args u) (gY_heights u) (gY_kinds u) m i))) : wpY_isMixed post u (nI i) (nI m) := by
  obtain ⟨⟨hn, hn0, ho, hg, hj, hf, hP⟩, hat⟩ := id env
  obtain ⟨_, eH, hP1, hQ1, hH, hc⟩ := hat i hi h0
  have e192 : (192 : Int32) + nI i = nI (192 + i) := by rw [show (192 : Int32) = nI 192 from rfl, nI_add]
  have v216 : vp_in (192 + nI i) 216 := by rw [e192]; exact vp_in_nI (by omega) (by decide)
  refine upY_isMixed ⟨v216, nm_e ⟨v216, nm_e (y_heightAt (by omega) hH eH ?_)⟩⟩
  rw [e192, nI_clamp (by omega)]
  obtain ⟨o24, eo, fo⟩ := zi_of (ho i hi)
  have eop : zh_op (gY_ops u) i = (gY_ops u (192 + i)).toNatClampNeg := rfl
  rw [← eop] at o24 eo fo
  rw [eo]
  have eP : zh_P (gY_ops u) (gY_args u) i = zt_pops (zh_op (gY_ops u) i) (gY_args u (192 + i)) := rfl
  have P2 := zt_pops2 (zh_op (gY_ops u) i) (gY_args u (192 + i))
  have lp : ¬ (zh_op (gY_ops u) i = 2 ∧ gY_kinds u (12 * i + (gY_args u (192 + i)).toNatClampNeg) ≠ 1 ∧ gY_kinds u (12 * i + (gY_args u (192 + i)).toNatClampNeg) ≠ 2) → ∀ d k, k + d = zh_P (gY_ops u) (gY_args u) i → (∀ j, j < k → ¬ (zy_nd rf m (zh_op (gY_ops u) i) (gY_args u (192 + i)) j ≠ 0 ∧ gY_kinds u (12 * i + 5 + zh_ht (gY_heights u i) - j) ≠ nI (zy_nd rf m (zh_op (gY_ops u) i) (gY_args u (192 + i)) j))) → kY_isMixed_72 post (nI i) (nI m) (nI (zh_op (gY_ops u) i)) (gY_args u (192 + i)) (nI (zh_ht (gY_heights u i))) (d + 1) (nI k) u := by
    intro nl d
    induction d with
    | zero =>
      intro k hk hq
      refine uY_isMixed_72 (yt_pops o24 (zi_call fo) (br_t ?_ ?_))
      · rw [← eP, ← hk]; exact Int32.le_refl _
      · rw [zp_f (fun w => ?_)] at h
        · exact h
        · rcases w.2 with w | ⟨j, hj, w⟩
          · exact nl w
          · exact hq j (by omega) w
    | succ d ih =>
      intro k hk hq
      refine uY_isMixed_72 (yt_pops o24 (zi_call fo) (br_f (nI_ge (by omega) (by omega)) ?_))
      refine y_needs hcl o24 hm (by omega) fo (fun w => hc (Or.inr w)) ?_
      have nd3 := zy_nd3 rf m (zh_op (gY_ops u) i) (gY_args u (192 + i)) k o24
      refine br_i (nI_eq (b := 0) (by omega) (by decide)) (fun w => ?_) (fun w => ?_)
      · refine nm_r (nI_1 k) (ih (k + 1) (by omega) (fun j hj => ?_))
        by_cases e : j = k
        · subst e; exact fun q => q.1 w
        · exact hq j (by omega)
      · have e5 : (12 : Int32) * nI i + 5 + nI (zh_ht (gY_heights u i)) - nI k = nI (12 * i + 5 + zh_ht (gY_heights u i) - k) := by
          rw [show (12 : Int32) = nI 12 from rfl, show (5 : Int32) = nI 5 from rfl, pk_mul, nI_add, nI_add, pk_sub (by omega)]
        refine ⟨by rw [e5]; exact vp_in_nI (by omega) (by decide), ?_⟩
        rw [e5, nI_clamp (by omega)]
        refine br_c (fun q => ?_) (fun q => ?_)
        · refine nm_r (nI_1 k) (ih (k + 1) (by omega) (fun j hj => ?_))
          by_cases e : j = k
          · subst e; exact fun r => r.2 q
          · exact hq j (by omega)
        · rw [zp_t ⟨h0, Or.inr ⟨k, by omega, w, q⟩⟩] at h
          exact h
  refine br_i (nI_eq (b := 2) (by omega) (by decide)) (fun w => ?_) (fun w => ?_)
  · obtain ⟨j, hj, ej⟩ := zi_fj fo (show zi_lim (zh_op (gY_ops u) i) = 6 by rw [w]; rfl) (by decide)
    have e12 : (12 : Int32) * nI i + nI j = nI (12 * i + j) := by rw [show (12 : Int32) = nI 12 from rfl, pk_mul, nI_add]
    have ec : (12 * nI i + gY_args u (192 + i)).toNatClampNeg = 12 * i + (gY_args u (192 + i)).toNatClampNeg := by
      rw [ej, e12, nI_clamp (by omega), nI_clamp (by omega)]
    have v288 : vp_in (12 * nI i + gY_args u (192 + i)) 288 := by rw [ej, e12]; exact vp_in_nI (by omega) (by decide)
    refine ⟨v288, ?_⟩
    rw [ec]
    refine br_c (fun q => ⟨_, lp (fun r => r.2.1 q) _ 0 (Nat.zero_add _) (fun j hj => absurd hj (by omega))⟩) (fun q => ⟨v288, br_c (fun q2 => ⟨_, lp (fun r => r.2.2 q2) _ 0 (Nat.zero_add _) (fun j hj => absurd hj (by omega))⟩) (fun q2 => ?_)⟩)
    rw [zp_t ⟨h0, Or.inl ⟨w, q, q2⟩⟩] at h
    exact h
  · exact ⟨_, lp (fun r => w r.1) _ 0 (Nat.zero_add _) (fun j hj => absurd hj (by omega))⟩
theorem y_mixed132 {post : Int32 → SY → Prop} {u : SY} {fc rf : Nat → Int32} {n m : Nat} (hcl : zy_cls u fc rf) (hm : m < 8) (env : zy_env (gY_ops u) (gY_args u) (gY_from u) (gY_to u) (gY_goal u) (gY_heights u) (gY_up u) fc n) :
  ∀ d i, i + d = n → post (zf (zf_kY rf (gY_ops u) (gY_args u) (gY_heights u) (gY_kinds u) m) d i) u → kY_mixed_132 post (nI m) (nI n) (d + 1) (nI i) u := by
  have hn := env.1.1
  intro d
  induction d with
  | zero =>
    intro i hi hp
    have : i = n := by omega
    subst this
    exact uY_mixed_132 (br_t (Int32.le_refl _) hp)
  | succ d ih =>
    intro i hi hp
    refine uY_mixed_132 (br_f (nI_ge (by omega) (by omega)) ⟨vp_in_nI (by omega) (by decide), ?_⟩)
    rw [nI_clamp (by omega)]
    refine br_c (fun z => ?_) (fun z => y_isMixed hcl hm (by omega) env z (zp_br (fun w => ?_) (fun w => ?_)))
    · rw [zf_f (fun w => w.1 z)] at hp
      exact nm_r (nI_1 i) (ih (i + 1) (by omega) hp)
    · rw [zf_f w] at hp
      exact nm_r (nI_1 i) (ih (i + 1) (by omega) hp)
    · rw [zf_t w] at hp
      exact hp
theorem y_mixed95 {post : Int32 → SY → Prop} {J : Int32 → SY → Prop} {u : SY} {fc rf : Nat → Int32} {n m : Nat} (hcl : zy_cls u fc rf) (env : zy_env (gY_ops u) (gY_args u) (gY_from u) (gY_to u) (gY_goal u) (gY_heights u) (gY_up u) fc n)
  {C : (Nat → Nat → Nat → Prop) → Prop} (eC : C = zy_C rf (gY_ops u) (gY_args u) (gY_from u) (gY_to u) (gY_goal u) (gY_heights u) n m) {L : (Nat → Nat → Nat → Prop) → Nat → Prop} (eL : L = zy_cl rf (gY_ops u) (gY_args u) (gY_from u) (gY_to u) (gY_goal u) (gY_heights u) n) {K0 : Nat → Int32}
  (hJ : ∀ (K b : Nat → Int32) (hh : Int32) (c : Prop), zy_lo C n K → (∀ k c, bt (K0 k) c = true → bt (K k) c = true) → (c → zs_m 3 288 K0 < zs_m 3 288 K) → (¬ c → ∀ i, i < n → gY_heights u i ≠ 0 → L (zy_bits K) i) → J (zp c) (sY_height_kinds_behind hh K b u)) :
  ∀ d i K b hh c, i + d = n → zy_lo C n K → (∀ k c, bt (K0 k) c = true → bt (K k) c = true) → zs_m 3 288 K0 ≤ zs_m 3 288 K → (c → zs_m 3 288 K0 < zs_m 3 288 K) → (¬ c → K = K0 ∧ ∀ k, k < i → gY_heights u k ≠ 0 → L (zy_bits K0) k) → kY_mixed_95 post J (nI m) (nI n) (d + 1) (zp c) (nI i) (sY_height_kinds_behind hh K b u) := by
  have hn := env.1.1
  intro d
  induction d with
  | zero =>
    intro i K b hh c hi lo hm hle hc hk
    have : i = n := by omega
    subst this
    refine uY_mixed_95 (br_t (Int32.le_refl _) (hJ K b hh c lo hm hc (fun z => ?_)))
    obtain ⟨rfl, k⟩ := hk z
    exact k
  | succ d ih =>
    intro i K b hh c hi lo hm hle hc hk
    refine uY_mixed_95 (br_f (nI_ge (by omega) (by omega)) ⟨vp_in_nI (by omega) (by decide), ?_⟩)
    rw [nI_clamp (by omega)]
    refine br_c (fun z => ?_) (fun z => ?_)
    · refine nm_r (nI_1 i) (ih (i + 1) K b hh c (by omega) lo hm hle hc (fun w => ?_))
      obtain ⟨rfl, k⟩ := hk w
      refine ⟨rfl, fun j hj h0 => ?_⟩
      by_cases e : j = i
      · subst e; exact absurd z h0
      · exact k j (by omega) h0
    · have z : gY_heights u i ≠ 0 := z
      refine y_passes (u := sY_height_kinds_behind hh K b u) (m := m) hcl (by omega) env z eC eL lo (fun K' b' hh' c' sp => nm_r (zp_or _ _) (nm_r (nI_1 i) ?_))
      rw [sY_kbh]
      obtain ⟨lo', l, g, k', mo⟩ := sp
      have g : zs_m 3 288 K ≤ zs_m 3 288 K' := g
      have mo' : ∀ k c, bt (K0 k) c = true → bt (K' k) c = true := fun k c w => mo k c (hm k c w)
      refine ih (i + 1) K' b' hh' (c ∨ c') (by omega) lo' mo' (by omega) (fun w => ?_) (fun w => ?_)
      · rcases w with w | w
        · have := hc w; omega
        · have l : zs_m 3 288 K < zs_m 3 288 K' := l w
          omega
      · obtain ⟨e1, k1⟩ := k' (fun q => w (Or.inr q))
        have e1 : K' = K := e1
        subst e1
        obtain ⟨rfl, k⟩ := hk (fun q => w (Or.inl q))
        refine ⟨rfl, fun j hj h0 => ?_⟩
        by_cases e : j = i
        · subst e; exact k1
        · exact k j (by omega) h0
/-- what Y's kinds are at the end -/
def zy_F (rf O A F T G a : Nat → Int32) (n m : Nat) (K : Nat → Int32) : Prop := zy_C rf O A F T G a n m (zy_bits K) ∧ zy_lo (zy_C rf O A F T G a n m) n K
theorem y_mixed86 {post : Int32 → SY → Prop} {u : SY} {fc rf : Nat → Int32} {n m : Nat} (hcl : zy_cls u fc rf) (hm : m < 8) (env : zy_env (gY_ops u) (gY_args u) (gY_from u) (gY_to u) (gY_goal u) (gY_heights u) (gY_up u) fc n)
  {C : (Nat → Nat → Nat → Prop) → Prop} (eC : C = zy_C rf (gY_ops u) (gY_args u) (gY_from u) (gY_to u) (gY_goal u) (gY_heights u) n m)
  (h : ∀ K b hh, C (zy_bits K) → zy_lo C n K → post (zf (zf_kY rf (gY_ops u) (gY_args u) (gY_heights u) K m) n 0) (sY_height_kinds_behind hh K b u)) :
  ∀ d K b hh c, 864 - zs_m 3 288 K < d + 1 → zy_lo C n K → (∀ e, e < 6 → ∀ c, c < 3 → bt (nI (zy_in m e)) c = true → bt (K e) c = true) → (¬ c → ∀ i, i < n → gY_heights u i ≠ 0 → zy_cl rf (gY_ops u) (gY_args u) (gY_from u) (gY_to u) (gY_goal u) (gY_heights u) n (zy_bits K) i) → kY_mixed_86 post (nI m) (nI n) (d + 2) (zp c) (sY_height_kinds_behind hh K b u) := by
  have done : ∀ d K b hh (c : Prop), ¬ c → zy_lo C n K → (∀ e, e < 6 → ∀ c, c < 3 → bt (nI (zy_in m e)) c = true → bt (K e) c = true) → (∀ i, i < n → gY_heights u i ≠ 0 → zy_cl rf (gY_ops u) (gY_args u) (gY_from u) (gY_to u) (gY_goal u) (gY_heights u) n (zy_bits K) i) → kY_mixed_86 post (nI m) (nI n) (d + 1) (zp c) (sY_height_kinds_behind hh K b u) := by
    intro d K b hh c nc lo h0 hk
    refine uY_mixed_86 (zp_br (fun _ => ⟨n + 1, y_mixed132 (u := sY_height_kinds_behind hh K b u) hcl hm env n 0 (by omega) (h K b hh ?_ lo)⟩) (fun z => absurd z nc))
    rw [eC]
    refine ⟨fun e he c hc q => ?_, hk⟩
    have := h0 e he c hc q
    show bt (K (12 * 0 + e)) c = true
    rw [show 12 * 0 + e = e by omega]; exact this
  have step : ∀ d K b hh (c : Prop), c → zy_lo C n K → (∀ K' b' hh' c', zy_lo C n K' → (∀ k c, bt (K k) c = true → bt (K' k) c = true) → (c' → zs_m 3 288 K < zs_m 3 288 K') → (¬ c' → ∀ i, i < n → gY_heights u i ≠ 0 → zy_cl rf (gY_ops u) (gY_args u) (gY_from u) (gY_to u) (gY_goal u) (gY_heights u) n (zy_bits K') i) → kY_mixed_86 post (nI m) (nI n) d (zp c') (sY_height_kinds_behind hh' K' b' u)) → kY_mixed_86 post (nI m) (nI n) (d + 1) (zp c) (sY_height_kinds_behind hh K b u) := by
    intro d K b hh c hc lo nx
    refine uY_mixed_86 (zp_br (fun z => absurd hc z) (fun _ => ?_))
    have q := y_mixed95 (post := post) (J := kY_mixed_86 post (nI m) (nI n) d) (u := u) (m := m) hcl env eC rfl (K0 := K) nx n 0 K b hh False (by omega) lo (fun _ _ b => b) (Nat.le_refl _) (fun k => k.elim) (fun _ => ⟨rfl, fun k hk => absurd hk (by omega)⟩)
    rw [zp_f (fun k => k)] at q
    exact ⟨_, q⟩
  intro d
  induction d with
  | zero =>
    intro K b hh c hd lo h0 hk
    by_cases hc : c
    · refine step 1 K b hh c hc lo (fun K' b' hh' c' lo' mo l k => ?_)
      have nc : ¬ c' := fun w => by
        have := l w
        have := zs_mub 3 288 K'
        omega
      exact done 0 K' b' hh' c' nc lo' (fun e he c hc q => mo e c (h0 e he c hc q)) (k nc)
    · exact done 1 K b hh c hc lo h0 (hk hc)
  | succ d ih =>
    intro K b hh c hd lo h0 hk
    by_cases hc : c
    · refine step (d + 2) K b hh c hc lo (fun K' b' hh' c' lo' mo l k => ?_)
      by_cases nc : c'
      · refine ih K' b' hh' c' ?_ lo' (fun e he c hc q => mo e c (h0 e he c hc q)) k
        have := l nc
        have := zs_mub 3 288 K'
        omega
      · exact done (d + 1) K' b' hh' c' nc lo' (fun e he c hc q => mo e c (h0 e he c hc q)) (k nc)
    · exact done (d + 2) K b hh c hc lo h0 (hk hc)
theorem zy_in7 : ∀ m, m < 8 → ∀ e, e < 6 → zy_in m e < 8 := by decide
theorem zy_small : ∀ k, k < 8 → ∀ c, c < 32 → 3 ≤ c → bt (nI k) c = false := by decide
theorem y_mixed {post : Int32 → SY → Prop} {u : SY} {fc rf : Nat → Int32} {n m : Nat} (hcl : zy_cls u fc rf) (hm : m < 8) (en : gY_length u 8 = nI n) (env : zy_env (gY_ops u) (gY_args u) (gY_from u) (gY_to u) (gY_goal u) (gY_heights u) (gY_up u) fc n)
  (h : ∀ K b hh, zy_F rf (gY_ops u) (gY_args u) (gY_from u) (gY_to u) (gY_goal u) (gY_heights u) n m K → post (zf (zf_kY rf (gY_ops u) (gY_args u) (gY_heights u) K m) n 0) (sY_height_kinds_behind hh K b u)) : wpY_mixed post u (nI m) := by
  have hn := env.1.1
  have hn0 := env.1.2.1
  have l33 : ∀ d k K, k + d = 6 → (∀ j, j < 12 * n → j < k → K j = nI (zy_in m j)) → (∀ j, j < 12 * n → k ≤ j → K j = 0) → kY_mixed_33 post (nI m) (nI n) (d + 1) (nI k) (sY_kinds K u) := by
    intro d
    induction d with
    | zero =>
      intro k K hk h1 h2
      have : k = 6 := by omega
      subst this
      refine uY_mixed_33 (br_t (by decide) ⟨866, ?_⟩)
      have lo : zy_lo (zy_C rf (gY_ops u) (gY_args u) (gY_from u) (gY_to u) (gY_goal u) (gY_heights u) n m) n K := by
        constructor
        · intro Z hZ i hi e he c hc b
          by_cases w : 12 * i + e < 6
          · have : i = 0 := by omega
            subst this
            rw [h1 _ (by omega) w, show 12 * 0 + e = e by omega] at b
            exact hZ.1 e (by omega) c hc b
          · rw [h2 _ (by omega) (by omega), b_0] at b
            exact absurd b (by decide)
        · intro i hi e he c c1 c2
          by_cases w : 12 * i + e < 6
          · rw [h1 _ (by omega) w]
            exact zy_small _ (zy_in7 m hm _ w) c c2 c1
          · rw [h2 _ (by omega) (by omega), b_0]
      have q := y_mixed86 (post := post) (u := u) (m := m) hcl hm env rfl (fun K b hh h1 h2 => h K b hh ⟨h1, h2⟩) 864 K (gY_behind u) (gY_height u) True (by omega) lo (fun e he c hc b => by rw [h1 e (by omega) he]; exact b) (fun k => absurd trivial k)
      rw [zp_t trivial] at q
      exact q
    | succ d ih =>
      intro k K hk h1 h2
      have v288 : vp_in (nI k) 288 := vp_in_nI (by omega) (by decide)
      have go : ∀ x : Int32, x = nI (zy_in m k) → kY_mixed_33 post (nI m) (nI n) (d + 1) (nI (k + 1)) (sY_kinds (upd K (nI k).toNatClampNeg x) (sY_kinds K u)) := by
        intro x hx
        show kY_mixed_33 post (nI m) (nI n) (d + 1) (nI (k + 1)) (sY_kinds (upd K (nI k).toNatClampNeg x) u)
        rw [nI_clamp (by omega)]
        refine ih (k + 1) _ (by omega) (fun j hj hk => ?_) (fun j hj hk => ?_)
        · by_cases w : j = k
          · subst w; rw [pk_us, hx]
          · rw [pk_un w]; exact h1 j hj (by omega)
        · rw [pk_un (by omega)]; exact h2 j hj (by omega)
      have tk : zt_takes m ≤ 2 := by unfold zt_takes; (repeat' split) <;> omega
      refine uY_mixed_33 (br_f (nI_ge (b := 6) (by omega) (by decide)) (yt_takes hm ?_))
      refine br_i (nI_ltI (by omega) (by omega)) (fun w => ?_) (fun w => ?_)
      · have e1 : ¬ zt_takes m ≤ k := by omega
        refine br_i (nI_ltI (b := 2) (by omega) (by decide)) (fun w1 => ⟨v288, nm_e (nm_r (nI_1 k) (go 1 ?_))⟩) (fun w1 => ?_)
        · unfold zy_in; rw [if_neg e1, if_pos w1]; rfl
        · refine br_i (nI_leI (a := 6) (by decide) (by omega)) (fun w2 => ⟨v288, nm_e (nm_r (nI_1 k) (go 2 ?_))⟩) (fun w2 => ?_)
          · unfold zy_in; rw [if_neg e1, if_neg w1, if_pos w2]; rfl
          · refine br_i (nI_eq (b := 1) (by omega) (by decide)) (fun w3 => ⟨v288, nm_e (nm_r (nI_1 k) (go 1 ?_))⟩) (fun w3 => ⟨v288, nm_e (nm_r (nI_1 k) (go 2 ?_))⟩)
            · unfold zy_in; rw [if_neg e1, if_neg w1, if_neg w2, if_pos w3]; rfl
            · unfold zy_in; rw [if_neg e1, if_neg w1, if_neg w2, if_neg w3]; rfl
      · refine ⟨v288, nm_e (nm_r (nI_1 k) (go 4 ?_))⟩
        unfold zy_in; rw [if_pos (by omega)]; rfl
  have l10 : ∀ d k K, k + d = 12 * n → (∀ j, j < k → K j = 0) → kY_mixed_10 post (nI m) (nI n) (d + 1) (nI k) (sY_kinds K u) := by
    have e12 : (12 : Int32) * nI n = nI (12 * n) := by rw [show (12 : Int32) = nI 12 from rfl, pk_mul]
    intro d
    induction d with
    | zero =>
      intro k K hk h1
      have : k = 12 * n := by omega
      subst this
      refine uY_mixed_10 (br_t (by rw [e12]; exact Int32.le_refl _) ⟨7, l33 6 0 K rfl (fun j _ hj => absurd hj (by omega)) (fun j hj _ => h1 j hj)⟩)
    | succ d ih =>
      intro k K hk h1
      refine uY_mixed_10 (br_f (by rw [e12]; exact nI_ge (by omega) (by omega)) ⟨vp_in_nI (by omega) (by decide), nm_e (nm_r (nI_1 k) ?_)⟩)
      show kY_mixed_10 post (nI m) (nI n) (d + 1) (nI (k + 1)) (sY_kinds (upd K (nI k).toNatClampNeg 0) u)
      rw [nI_clamp (by omega)]
      refine ih (k + 1) _ (by omega) (fun j hj => ?_)
      by_cases w : j = k
      · subst w; exact pk_us
      · rw [pk_un w]; exact h1 j (by omega)
  exact upY_mixed (nm_r en ⟨_, l10 (12 * n) 0 (gY_kinds u) (by omega) (fun j hj => absurd hj (by omega))⟩)
end
section
/-! X's fault of the third kind; both sides' faults of the first kind -/
def zx_m (rf : Nat → Int32) (m o : Nat) (a : Int32) (P q : Nat) : Nat := (if 0 < P ∧ zy_nd rf m o a (P - 1) = q then 1 else 0) + (if 1 < P ∧ zy_nd rf m o a (P - 2) = q then 2 else 0)
theorem zx_m4 (rf : Nat → Int32) (m o : Nat) (a : Int32) (P q : Nat) : zx_m rf m o a P q < 4 := by
  unfold zx_m
  repeat' split
  all_goals omega
theorem zx_01 : ∀ k, k < 4 → ∀ j, j < 32 → (bt (nI k) j = true ↔ (j = 0 ∧ k % 2 = 1) ∨ (j = 1 ∧ 2 ≤ k)) := by decide
theorem zx_mb {rf : Nat → Int32} {m o : Nat} {a : Int32} {P q j : Nat} (hP : P ≤ 2) (hj : j < 32) : bt (nI (zx_m rf m o a P q)) j = true ↔ ∃ k, k < P ∧ j = P - 1 - k ∧ zy_nd rf m o a k = q := by
  rw [zx_01 _ (zx_m4 rf m o a P q) j hj]
  unfold zx_m
  constructor
  · rintro (⟨rfl, h⟩ | ⟨rfl, h⟩)
    · refine ⟨P - 1, ?_⟩
      split at h
      · rename_i w; exact ⟨by omega, by omega, w.2⟩
      · split at h <;> omega
    · refine ⟨P - 2, ?_⟩
      split at h <;> split at h
      · rename_i w; exact ⟨by omega, by omega, w.2⟩
      · omega
      · rename_i w; exact ⟨by omega, by omega, w.2⟩
      · omega
  · rintro ⟨k, hk, rfl, h⟩
    by_cases w : k = P - 1
    · subst w
      refine Or.inl ⟨by omega, ?_⟩
      rw [if_pos ⟨by omega, h⟩]
      split <;> omega
    · have : k = P - 2 := by omega
      subst this
      refine Or.inr ⟨by omega, ?_⟩
      rw [if_pos (c := 1 < P ∧ _) ⟨by omega, h⟩]
      omega
theorem x_neededInts {post : Int32 → Prop} {u : SX} {o m : Nat} {a : Int32} (ho : o < 24) (hm : m < 8) (hf : zi_fit o a) (h : post (nI (zx_m (gX_refFields u) m o a (zt_pops o a) 1))) : wpX_neededInts post u (nI o) a (nI m) := by
  refine upX_neededInts ?_
  by_cases z14 : o = 14
  · subst z14
    obtain ⟨j, hj, rfl⟩ := zi_fj hf (show zi_lim 14 = 64 from rfl) (by decide)
    have q : wpX_isRefField (fun r => (r = 0 → post 2) ∧ (¬ r = 0 → post 0)) u (nI j / 16) (nI j - nI j / 16 * 16) := by
      rw [(zn_d16 hj).2, (zn_d16 hj).1]
      have ev : zx_m (gX_refFields u) m 14 (nI j) (zt_pops 14 (nI j)) 1 = if bt (gX_refFields u (j / 16)) (j % 16) = true then 0 else 2 := by
        unfold zx_m zy_nd
        simp [show zt_pops 14 (nI j) = 2 from rfl, nI_clamp (show j < 2 ^ 31 by omega)]
        try (split <;> simp_all)
      rw [ev] at h
      refine x_isRefField (by omega) (by omega) (zp_br (fun w => ?_) (fun w => ?_))
      · rw [if_neg w] at h; exact h
      · rw [if_pos w] at h; exact h
    repeat (first | exact ⟨zn_16, zn_16, q⟩ | refine br_t (by decide) ?_ | refine br_f (by decide) ?_)
  · by_cases z16 : o = 16
    · subst z16
      obtain ⟨j, hj, rfl⟩ := zi_fj hf (show zi_lim 16 = 8 from rfl) (by decide)
      have q : wpX_takesInts (fun r => post r) (nI j) := by
        refine xt_ti hj ?_
        have ev : ∀ j, j < 8 → zx_m (gX_refFields u) m 16 (nI j) (zt_pops 16 (nI j)) 1 = zt_ti j := by
          apply zo_8 <;> rfl
        rw [ev j hj] at h; exact h
      repeat (first | exact q | refine br_t (by decide) ?_ | refine br_f (by decide) ?_)
    · by_cases z18 : o = 18
      · subst z18
        have q : wpX_givesRef (fun r => (r = 0 → post 1) ∧ (¬ r = 0 → post 0)) (nI m) := by
          have ev : zx_m (gX_refFields u) m 18 a (zt_pops 18 a) 1 = if 4 ≤ m ∧ m ≤ 6 then 0 else 1 := by
            unfold zx_m zy_nd
            simp [show zt_pops 18 a = 1 from rfl]
            try (split <;> simp_all)
          rw [ev] at h
          refine xt_gr hm (zp_br (fun w => ?_) (fun w => ?_))
          · rw [if_neg (show ¬ (4 ≤ m ∧ m ≤ 6) from w)] at h; exact h
          · rw [if_pos (show 4 ≤ m ∧ m ≤ 6 from w)] at h; exact h
        repeat (first | exact q | refine br_t (by decide) ?_ | refine br_f (by decide) ?_)
      · clear hf
        revert z14 z16 z18 h; revert o
        apply zo_24 <;> intro h z14 z16 z18 <;> first | exact absurd rfl z14 | exact absurd rfl z16 | exact absurd rfl z18 | (repeat (first | exact h | refine br_t (by decide) ?_ | refine br_f (by decide) ?_))
theorem x_neededRefs {post : Int32 → Prop} {u : SX} {o m : Nat} {a : Int32} (ho : o < 24) (hm : m < 8) (hf : zi_fit o a) (h : post (nI (zx_m (gX_refFields u) m o a (zt_pops o a) 2))) : wpX_neededRefs post u (nI o) a (nI m) := by
  refine upX_neededRefs ?_
  by_cases z14 : o = 14
  · subst z14
    obtain ⟨j, hj, rfl⟩ := zi_fj hf (show zi_lim 14 = 64 from rfl) (by decide)
    have q : wpX_isRefField (fun r => (r = 0 → post 1) ∧ (¬ r = 0 → post 3)) u (nI j / 16) (nI j - nI j / 16 * 16) := by
      rw [(zn_d16 hj).2, (zn_d16 hj).1]
      have ev : zx_m (gX_refFields u) m 14 (nI j) (zt_pops 14 (nI j)) 2 = if bt (gX_refFields u (j / 16)) (j % 16) = true then 3 else 1 := by
        unfold zx_m zy_nd
        simp [show zt_pops 14 (nI j) = 2 from rfl, nI_clamp (show j < 2 ^ 31 by omega)]
        try (split <;> simp_all)
      rw [ev] at h
      refine x_isRefField (by omega) (by omega) (zp_br (fun w => ?_) (fun w => ?_))
      · rw [if_neg w] at h; exact h
      · rw [if_pos w] at h; exact h
    repeat (first | exact ⟨zn_16, zn_16, q⟩ | refine br_t (by decide) ?_ | refine br_f (by decide) ?_)
  · by_cases z16 : o = 16
    · subst z16
      obtain ⟨j, hj, rfl⟩ := zi_fj hf (show zi_lim 16 = 8 from rfl) (by decide)
      have q : wpX_takesRefs (fun r => post r) (nI j) := by
        refine xt_tr hj ?_
        have ev : ∀ j, j < 8 → zx_m (gX_refFields u) m 16 (nI j) (zt_pops 16 (nI j)) 2 = zt_tr j := by
          apply zo_8 <;> rfl
        rw [ev j hj] at h; exact h
      repeat (first | exact q | refine br_t (by decide) ?_ | refine br_f (by decide) ?_)
    · by_cases z18 : o = 18
      · subst z18
        have q : wpX_givesRef (fun r => (r = 0 → post 0) ∧ (¬ r = 0 → post 1)) (nI m) := by
          have ev : zx_m (gX_refFields u) m 18 a (zt_pops 18 a) 2 = if 4 ≤ m ∧ m ≤ 6 then 1 else 0 := by
            unfold zx_m zy_nd
            simp [show zt_pops 18 a = 1 from rfl]
            try (split <;> simp_all)
          rw [ev] at h
          refine xt_gr hm (zp_br (fun w => ?_) (fun w => ?_))
          · rw [if_neg (show ¬ (4 ≤ m ∧ m ≤ 6) from w)] at h; exact h
          · rw [if_pos (show 4 ≤ m ∧ m ≤ 6 from w)] at h; exact h
        repeat (first | exact q | refine br_t (by decide) ?_ | refine br_f (by decide) ?_)
      · clear hf
        revert z14 z16 z18 h; revert o
        apply zo_24 <;> intro h z14 z16 z18 <;> first | exact absurd rfl z14 | exact absurd rfl z16 | exact absurd rfl z18 | (repeat (first | exact h | refine br_t (by decide) ?_ | refine br_f (by decide) ?_))
theorem zb_sub (x y : Int32) : x &&& y = y ↔ ∀ e, e < 32 → bt y e = true → bt x e = true := by
  constructor
  · intro h e he b
    rw [← h, b_and] at b
    exact (Bool.and_eq_true_iff.mp b).1
  · intro h
    apply b_ext
    intro e he
    rw [b_and]
    cases z : bt y e
    · simp
    · rw [h e he z]; rfl
/-- the needed kinds are there -/
theorem zx_have {rf : Nat → Int32} {m o : Nat} {a x : Int32} {P q b : Nat} (hP : P ≤ 2) (hb : b + P ≤ 12) : (x &&& (nI (zx_m rf m o a P q) <<< (nI b &&& 31)) = nI (zx_m rf m o a P q) <<< (nI b &&& 31)) ↔ ∀ k, k < P → zy_nd rf m o a k = q → bt x (b + (P - 1 - k)) = true := by
  rw [zb_sub]
  constructor
  · intro h k hk e
    refine h _ (by omega) ?_
    rw [b_shl b (by omega) _ (by omega), show b + (P - 1 - k) - b = P - 1 - k by omega, (zx_mb hP (by omega)).mpr ⟨k, hk, rfl, e⟩]
    simp
  · intro h e he w
    rw [b_shl b (by omega) _ he] at w
    have w1 := (Bool.and_eq_true_iff.mp w).1
    have w1 : b ≤ e := by simpa using w1
    obtain ⟨k, hk, e1, e2⟩ := (zx_mb hP (by omega)).mp (Bool.and_eq_true_iff.mp w).2
    have := h k hk e2
    rwa [show b + (P - 1 - k) = e by omega] at this
def zf_kX (rf O A a xi xr : Nat → Int32) (m i : Nat) : Prop :=
  a i ≠ 0 ∧ ((∃ k, k < zh_P O A i ∧ zy_nd rf m (zh_op O i) (A (192 + i)) k = 1 ∧ bt (xi i) (zk_b O A a i + (zh_P O A i - 1 - k)) = false) ∨ (∃ k, k < zh_P O A i ∧ zy_nd rf m (zh_op O i) (A (192 + i)) k = 2 ∧ bt (xr i) (zk_b O A a i + (zh_P O A i - 1 - k)) = false) ∨ (zh_op O i = 2 ∧ bt (xi i) (A (192 + i)).toNatClampNeg = false ∧ bt (xr i) (A (192 + i)).toNatClampNeg = false))
theorem x_kindFault {post : Int32 → Prop} {u : SX} {n m : Nat} (hm : m < 8) (en : gX_lengths u 8 = nI n) (env : zk_env (gX_ops u) (gX_operands u) (gX_catchFrom u) (gX_catchTo u) (gX_catchGoal u) (gX_heights u) n)
  (h : post (zf (zf_kX (gX_refFields u) (gX_ops u) (gX_operands u) (gX_heights u) (gX_intKinds u) (gX_refKinds u) m) n 0)) : wpX_kindFault post u (nI m) := by
  obtain ⟨hn, hn0, ho, hg, hj, hf, hP⟩ := id env
  have z : ∀ d i, i + d = n → post (zf (zf_kX (gX_refFields u) (gX_ops u) (gX_operands u) (gX_heights u) (gX_intKinds u) (gX_refKinds u) m) d i) → kX_kindFault_2 post (nI m) (d + 1) (nI i) u := by
    intro d
    induction d with
    | zero =>
      intro i hi hp
      have : i = n := by omega
      subst this
      refine uX_kindFault_2 (br_t ?_ hp)
      rw [en]; exact Int32.le_refl _
    | succ d ih =>
      intro i hi hp
      have v24 : vp_in (nI i) 24 := vp_in_nI (by omega) (by decide)
      refine uX_kindFault_2 (br_f ?_ ⟨v24, ?_⟩)
      · rw [en]; exact nI_ge (by omega) (by omega)
      · rw [nI_clamp (by omega)]
        refine br_c (fun z => ?_) (fun z => ?_)
        · rw [zf_f (fun w => w.1 z)] at hp
          exact nm_r (nI_1 i) (ih (i + 1) (by omega) hp)
        · have e192 : (192 : Int32) + nI i = nI (192 + i) := by rw [show (192 : Int32) = nI 192 from rfl, nI_add]
          have v216 : vp_in (192 + nI i) 216 := by rw [e192]; exact vp_in_nI (by omega) (by decide)
          refine ⟨v216, nm_e ⟨v216, nm_e (x_heightAt (by omega) ?_)⟩⟩
          rw [e192, nI_clamp (by omega)]
          obtain ⟨o24, eo, fo⟩ := zi_of (ho i (by omega))
          have eop : zh_op (gX_ops u) i = (gX_ops u (192 + i)).toNatClampNeg := rfl
          rw [← eop] at o24 eo fo
          rw [eo]
          have H6 := zh_ht6 (gX_heights u i)
          have hPi := hP i (by omega) z
          have eP : zh_P (gX_ops u) (gX_operands u) i = zt_pops (zh_op (gX_ops u) i) (gX_operands u (192 + i)) := rfl
          have P2 := zt_pops2 (zh_op (gX_ops u) i) (gX_operands u (192 + i))
          have eb0 : zk_b (gX_ops u) (gX_operands u) (gX_heights u) i = 6 + zh_ht (gX_heights u i) - zh_P (gX_ops u) (gX_operands u) i := rfl
          have eb : (6 : Int32) + nI (zh_ht (gX_heights u i)) - nI (zt_pops (zh_op (gX_ops u) i) (gX_operands u (192 + i))) = nI (zk_b (gX_ops u) (gX_operands u) (gX_heights u) i) := by
            rw [show (6 : Int32) = nI 6 from rfl, nI_add, pk_sub (by omega)]
            rfl
          have nx : ¬ zf_kX (gX_refFields u) (gX_ops u) (gX_operands u) (gX_heights u) (gX_intKinds u) (gX_refKinds u) m i → kX_kindFault_2 post (nI m) (d + 1) (nI (i + 1)) u := by
            intro w
            rw [zf_f w] at hp
            exact ih (i + 1) (by omega) hp
          have ys : zf_kX (gX_refFields u) (gX_ops u) (gX_operands u) (gX_heights u) (gX_intKinds u) (gX_refKinds u) m i → post (nI i) := by
            intro w
            rw [zf_t w] at hp
            exact hp
          refine xt_pops o24 (zi_call fo) (nm_r eb (x_neededInts o24 hm fo (nm_e (x_neededRefs o24 hm fo (nm_e ⟨v24, ?_⟩)))))
          have nofault : ∀ (x : Int32) (q : Nat), ¬ (∀ k, k < zh_P (gX_ops u) (gX_operands u) i → zy_nd (gX_refFields u) m (zh_op (gX_ops u) i) (gX_operands u (192 + i)) k = q → bt x (zk_b (gX_ops u) (gX_operands u) (gX_heights u) i + (zh_P (gX_ops u) (gX_operands u) i - 1 - k)) = true) → ∃ k, k < zh_P (gX_ops u) (gX_operands u) i ∧ zy_nd (gX_refFields u) m (zh_op (gX_ops u) i) (gX_operands u (192 + i)) k = q ∧ bt x (zk_b (gX_ops u) (gX_operands u) (gX_heights u) i + (zh_P (gX_ops u) (gX_operands u) i - 1 - k)) = false := by
            intro x q w
            by_cases r : ∃ k, k < zh_P (gX_ops u) (gX_operands u) i ∧ zy_nd (gX_refFields u) m (zh_op (gX_ops u) i) (gX_operands u (192 + i)) k = q ∧ bt x (zk_b (gX_ops u) (gX_operands u) (gX_heights u) i + (zh_P (gX_ops u) (gX_operands u) i - 1 - k)) = false
            · exact r
            · refine absurd (fun k hk e => ?_) w
              cases t : bt x (zk_b (gX_ops u) (gX_operands u) (gX_heights u) i + (zh_P (gX_ops u) (gX_operands u) i - 1 - k))
              · exact absurd ⟨k, hk, e, t⟩ r
              · rfl
          refine br_i (zx_have (q := 1) P2 (by omega)) (fun w1 => ⟨v24, br_i (zx_have (q := 2) P2 (by omega)) (fun w2 => ?_) (fun w2 => ?_)⟩) (fun w1 => ?_)
          · have hf : ∀ (x : Int32) (q : Nat), (∀ k, k < zh_P (gX_ops u) (gX_operands u) i → zy_nd (gX_refFields u) m (zh_op (gX_ops u) i) (gX_operands u (192 + i)) k = q → bt x (zk_b (gX_ops u) (gX_operands u) (gX_heights u) i + (zh_P (gX_ops u) (gX_operands u) i - 1 - k)) = true) → ¬ ∃ k, k < zh_P (gX_ops u) (gX_operands u) i ∧ zy_nd (gX_refFields u) m (zh_op (gX_ops u) i) (gX_operands u (192 + i)) k = q ∧ bt x (zk_b (gX_ops u) (gX_operands u) (gX_heights u) i + (zh_P (gX_ops u) (gX_operands u) i - 1 - k)) = false := by
              rintro x q w ⟨k, hk, e, b⟩
              rw [w k hk e] at b
              exact absurd b (by decide)
            refine br_i (nI_eq (b := 2) (by omega) (by decide)) (fun w3 => ⟨v24, v24, ?_⟩) (fun w3 => ?_)
            · obtain ⟨j, hj, ej⟩ := zi_fj fo (show zi_lim (zh_op (gX_ops u) i) = 6 by rw [w3]; rfl) (by decide)
              have ec : (gX_operands u (192 + i)).toNatClampNeg = j := by rw [ej, nI_clamp (by omega)]
              have bj : (gX_intKinds u i ||| gX_refKinds u i) >>> (gX_operands u (192 + i) &&& 31) &&& 1 = 0 ↔ bt (gX_intKinds u i) j = false ∧ bt (gX_refKinds u i) j = false := by
                rw [ej, zb_bit _ (by omega), b_or]
                cases bt (gX_intKinds u i) j <;> cases bt (gX_refKinds u i) j <;> simp
              refine br_i bj (fun w4 => ys ⟨z, Or.inr (Or.inr ⟨w3, by rw [ec]; exact w4.1, by rw [ec]; exact w4.2⟩)⟩) (fun w4 => nm_r (nI_1 i) (nx ?_))
              rintro ⟨_, q | q | q⟩
              · exact hf _ _ w1 q
              · exact hf _ _ w2 q
              · rw [ec] at q; exact w4 q.2
            · refine nm_r (nI_1 i) (nx ?_)
              rintro ⟨_, q | q | q⟩
              · exact hf _ _ w1 q
              · exact hf _ _ w2 q
              · exact w3 q.1
          · exact ys ⟨z, Or.inr (Or.inl (nofault _ _ w2))⟩
          · exact ys ⟨z, Or.inl (nofault _ _ w1)⟩
  exact upX_kindFault ⟨n + 1, z n 0 (by omega) h⟩
/-! faults of the first kind -/
def zm_bad (up fc O A : Nat → Int32) (n i : Nat) : Prop :=
  (zt_jump (zh_op O i) ∧ n ≤ (A (192 + i)).toNatClampNeg) ∨ ((zh_op O i = 12 ∨ zh_op O i = 15) ∧ ¬ zc_is up (A (192 + i))) ∨ ((zh_op O i = 13 ∨ zh_op O i = 14) ∧ ¬ (zc_is up (nI ((A (192 + i)).toNatClampNeg / 16)) ∧ nI ((A (192 + i)).toNatClampNeg % 16) < zc_at fc (nI ((A (192 + i)).toNatClampNeg / 16))))
noncomputable def zm_end (F T G : Nat → Int32) (n : Nat) : Int32 := @ite Int32 (¬ T 8 ≤ F 8 ∧ (nI n < T 8 ∨ ¬ G 8 < nI n)) (Classical.propDecidable _) 24 (-1)
noncomputable def zm_f (bad : Nat → Prop) (e : Int32) : Nat → Nat → Int32
  | 0, _ => e
  | d + 1, i => @ite Int32 (bad i) (Classical.propDecidable (bad i)) (nI i) (zm_f bad e d (i + 1))
theorem zm_t {bad : Nat → Prop} {e : Int32} {d i : Nat} (h : bad i) : zm_f bad e (d + 1) i = nI i := if_pos h
theorem zm_n {bad : Nat → Prop} {e : Int32} {d i : Nat} (h : ¬ bad i) : zm_f bad e (d + 1) i = zm_f bad e d (i + 1) := if_neg h
theorem zm_m {bad : Nat → Prop} {e : Int32} : ∀ d i, i + d < 2 ^ 31 → (zm_f bad e d i = e ∧ (∀ j, i ≤ j → j < i + d → ¬ bad j)) ∨ (∃ j, i ≤ j ∧ j < i + d ∧ zm_f bad e d i = nI j) := by
  intro d
  induction d with
  | zero => intro i _; exact Or.inl ⟨rfl, fun j h1 h2 => absurd h2 (by omega)⟩
  | succ d ih =>
    intro i hi
    by_cases z : bad i
    · exact Or.inr ⟨i, by omega, by omega, zm_t z⟩
    · rw [zm_n z]
      rcases ih (i + 1) (by omega) with ⟨e, w⟩ | ⟨j, h1, h2, e⟩
      · refine Or.inl ⟨e, fun j h1 h2 => ?_⟩
        by_cases k : j = i
        · subst k; exact z
        · exact w j (by omega) (by omega)
      · exact Or.inr ⟨j, by omega, by omega, e⟩
theorem x_missing {post : Int32 → Prop} {u : SX} {n i : Nat} (hn : n ≤ 24) (en : gX_lengths u 8 = nI n) (ho : zi_ok (gX_ops u (192 + i)) (gX_operands u (192 + i))) (h : post (zp (zm_bad (gX_superOf u) (gX_fieldCount u) (gX_ops u) (gX_operands u) n i))) : wpX_namesMissing post u (gX_ops u (192 + i)) (gX_operands u (192 + i)) := by
  obtain ⟨o24, eo, fo⟩ := zi_of ho
  have eop : zh_op (gX_ops u) i = (gX_ops u (192 + i)).toNatClampNeg := rfl
  rw [← eop] at o24 eo fo
  rw [eo]
  refine upX_namesMissing ?_
  have TT : zm_bad (gX_superOf u) (gX_fieldCount u) (gX_ops u) (gX_operands u) n i → post 1 := fun q => by rw [zp_t q] at h; exact h
  have q48 : zt_jump (zh_op (gX_ops u) i) → kX_namesMissing_48 post (gX_operands u (192 + i)) u := by
    intro w
    obtain ⟨j, hj, ej⟩ := zi_fj fo (show zi_lim (zh_op (gX_ops u) i) = 24 by rcases w with w | w | w <;> rw [w] <;> rfl) (by decide)
    have ec : (gX_operands u (192 + i)).toNatClampNeg = j := by rw [ej, nI_clamp (by omega)]
    refine uX_namesMissing_48 ?_
    rw [ej, en]
    refine br_i (nI_ltI (by omega) (by omega)) (fun k => ?_) (fun k => ?_)
    · rw [zp_f (fun q => ?_)] at h
      · exact h
      · rcases q with q | q | q
        · omega
        · rcases w with w | w | w <;> omega
        · rcases w with w | w | w <;> omega
    · exact TT (Or.inl ⟨w, by omega⟩)
  have q65 : (zh_op (gX_ops u) i = 12 ∨ zh_op (gX_ops u) i = 15) → kX_namesMissing_65 post (gX_operands u (192 + i)) u := by
    intro w
    refine uX_namesMissing_65 (x_isClass (zp_br (fun k => ?_) (fun k => ?_)))
    · exact TT (Or.inr (Or.inl ⟨w, k⟩))
    · rw [zp_f (fun q => ?_)] at h
      · exact h
      · unfold zm_bad zt_jump at q
        rcases q with q | q | q
        · omega
        · exact q.2 k
        · omega
  have q79 : (zh_op (gX_ops u) i = 13 ∨ zh_op (gX_ops u) i = 14) → kX_namesMissing_79 post (gX_operands u (192 + i)) u := by
    intro w
    obtain ⟨j, hj, ej⟩ := zi_fj fo (show zi_lim (zh_op (gX_ops u) i) = 64 by rcases w with w | w <;> rw [w] <;> rfl) (by decide)
    have ec : (gX_operands u (192 + i)).toNatClampNeg = j := by rw [ej, nI_clamp (by omega)]
    refine uX_namesMissing_79 ⟨zn_16, zn_16, ?_⟩
    rw [ej, (zn_d16 hj).2, (zn_d16 hj).1]
    refine x_isField (zp_br (fun k => ?_) (fun k => ?_))
    · exact TT (Or.inr (Or.inr ⟨w, fun q => k ⟨by rw [ec] at q; exact q.1, nI_pos (by omega), by rw [ec] at q; exact q.2⟩⟩))
    · rw [zp_f (fun q => ?_)] at h
      · exact h
      · unfold zm_bad zt_jump at q
        rcases q with q | q | q
        · omega
        · omega
        · exact q.2 (by rw [ec]; exact ⟨k.1, k.2.2⟩)
  have q0 : (∀ o, (o = 8 ∨ o = 9 ∨ o = 10 ∨ o = 12 ∨ o = 13 ∨ o = 14 ∨ o = 15) → zh_op (gX_ops u) i ≠ o) → post 0 := by
    intro w
    rw [zp_f (fun q => ?_)] at h
    · exact h
    · unfold zm_bad zt_jump at q
      rcases q with q | q | q
      · rcases q.1 with e | e | e
        · exact w 8 (by omega) e
        · exact w 9 (by omega) e
        · exact w 10 (by omega) e
      · rcases q.1 with e | e
        · exact w 12 (by omega) e
        · exact w 15 (by omega) e
      · rcases q.1 with e | e
        · exact w 13 (by omega) e
        · exact w 14 (by omega) e
  clear h eo TT
  generalize zh_op (gX_ops u) i = o at *
  clear fo eop
  unfold zt_jump at q48
  revert q48 q65 q79 q0; revert o
  apply zo_24 <;> intro q48 q65 q79 q0 <;> repeat (first | exact q48 (by decide) | exact q65 (by decide) | exact q79 (by decide) | exact q0 (by intro o ho; omega) | refine br_t (by decide) ?_ | refine br_f (by decide) ?_)
theorem x_missingFault {post : Int32 → Prop} {u : SX} {n : Nat} (hn : n ≤ 24) (en : gX_lengths u 8 = nI n) (ho : ∀ i, i < n → zi_ok (gX_ops u (192 + i)) (gX_operands u (192 + i)))
  (h : post (zm_f (zm_bad (gX_superOf u) (gX_fieldCount u) (gX_ops u) (gX_operands u) n) (zm_end (gX_catchFrom u) (gX_catchTo u) (gX_catchGoal u) n) n 0)) : wpX_missingFault post u := by
  have z : ∀ d i, i + d = n → post (zm_f (zm_bad (gX_superOf u) (gX_fieldCount u) (gX_ops u) (gX_operands u) n) (zm_end (gX_catchFrom u) (gX_catchTo u) (gX_catchGoal u) n) d i) → kX_missingFault_10 post (nI n) (d + 1) (nI i) u := by
    intro d
    induction d with
    | zero =>
      intro i hi hp
      have : i = n := by omega
      subst this
      have hp : post (zm_end (gX_catchFrom u) (gX_catchTo u) (gX_catchGoal u) i) := hp
      have y : (¬ gX_catchTo u 8 ≤ gX_catchFrom u 8 ∧ (nI i < gX_catchTo u 8 ∨ ¬ gX_catchGoal u 8 < nI i)) → post 24 := fun w => by
        unfold zm_end at hp; rw [if_pos w] at hp; exact hp
      have no : ¬ (¬ gX_catchTo u 8 ≤ gX_catchFrom u 8 ∧ (nI i < gX_catchTo u 8 ∨ ¬ gX_catchGoal u 8 < nI i)) → post (-1) := fun w => by
        unfold zm_end at hp; rw [if_neg w] at hp; exact hp
      refine uX_missingFault_10 (br_t (Int32.le_refl _) (br_c (fun w => ?_) (fun w => ?_)))
      · exact uX_missingFault_72 (br_t rfl (no (fun k => k.1 w)))
      · refine uX_missingFault_72 (br_f (by decide) (br_c (fun w2 => y ⟨w, Or.inl w2⟩) (fun w2 => br_c (fun w3 => no ?_) (fun w3 => y ⟨w, Or.inr w3⟩))))
        rintro ⟨_, k | k⟩
        · exact w2 k
        · exact k w3
    | succ d ih =>
      intro i hi hp
      have e192 : (192 : Int32) + nI i = nI (192 + i) := by rw [show (192 : Int32) = nI 192 from rfl, nI_add]
      have v216 : vp_in (192 + nI i) 216 := by rw [e192]; exact vp_in_nI (by omega) (by decide)
      refine uX_missingFault_10 (br_f (nI_ge (by omega) (by omega)) ⟨v216, v216, ?_⟩)
      rw [e192, nI_clamp (by omega)]
      refine x_missing hn en (ho i (by omega)) (zp_br (fun w => ?_) (fun w => ?_))
      · rw [zm_n w] at hp
        exact nm_r (nI_1 i) (ih (i + 1) (by omega) hp)
      · rw [zm_t w] at hp
        exact hp
  exact upX_missingFault (nm_r en ⟨n + 1, z n 0 (by omega) h⟩)
theorem y_strange {post : Int32 → Prop} {u : SY} {fc rf : Nat → Int32} {n : Nat} (hcl : zy_cls u fc rf) (hup : ∀ c, c < 4 → gY_up u c = -2 ∨ gY_up u c = -1 ∨ zc_is (gY_up u) (gY_up u c)) (hn : n ≤ 24) (en : gY_length u 8 = nI n) (ho : ∀ i, i < n → zi_ok (gY_ops u (192 + i)) (gY_args u (192 + i)))
  (h : post (zm_f (zm_bad (gY_up u) fc (gY_ops u) (gY_args u) n) (zm_end (gY_from u) (gY_to u) (gY_goal u) n) n 0)) : wpY_strange post u := by
  have z : ∀ d i, i + d = n → post (zm_f (zm_bad (gY_up u) fc (gY_ops u) (gY_args u) n) (zm_end (gY_from u) (gY_to u) (gY_goal u) n) d i) → kY_strange_10 post (nI n) (d + 1) (nI i) u := by
    intro d
    induction d with
    | zero =>
      intro i hi hp
      have : i = n := by omega
      subst this
      have hp : post (zm_end (gY_from u) (gY_to u) (gY_goal u) i) := hp
      have y : (¬ gY_to u 8 ≤ gY_from u 8 ∧ (nI i < gY_to u 8 ∨ ¬ gY_goal u 8 < nI i)) → post 24 := fun w => by
        unfold zm_end at hp; rw [if_pos w] at hp; exact hp
      have no : ¬ (¬ gY_to u 8 ≤ gY_from u 8 ∧ (nI i < gY_to u 8 ∨ ¬ gY_goal u 8 < nI i)) → post (-1) := fun w => by
        unfold zm_end at hp; rw [if_neg w] at hp; exact hp
      refine uY_strange_10 (br_t (Int32.le_refl _) (br_c (fun w => no (fun k => k.1 w)) (fun w => br_c (fun w2 => y ⟨w, Or.inl w2⟩) (fun w2 => br_c (fun w3 => no ?_) (fun w3 => y ⟨w, Or.inr w3⟩)))))
      rintro ⟨_, k | k⟩
      · exact w2 k
      · exact k w3
    | succ d ih =>
      intro i hi hp
      have e192 : (192 : Int32) + nI i = nI (192 + i) := by rw [show (192 : Int32) = nI 192 from rfl, nI_add]
      have v216 : vp_in (192 + nI i) 216 := by rw [e192]; exact vp_in_nI (by omega) (by decide)
      refine uY_strange_10 (br_f (nI_ge (by omega) (by omega)) ⟨v216, nm_e ⟨v216, nm_e ?_⟩⟩)
      rw [e192, nI_clamp (by omega)]
      obtain ⟨o24, eo, fo⟩ := zi_of (ho i (by omega))
      have eop : zh_op (gY_ops u) i = (gY_ops u (192 + i)).toNatClampNeg := rfl
      rw [← eop] at o24 eo fo
      rw [eo]
      have ys : zm_bad (gY_up u) fc (gY_ops u) (gY_args u) n i → post (nI i) := by
        intro w; rw [zm_t w] at hp; exact hp
      have nx : ¬ zm_bad (gY_up u) fc (gY_ops u) (gY_args u) n i → kY_strange_10 post (nI n) (d + 1) (nI (i + 1)) u := by
        intro w; rw [zm_n w] at hp; exact ih (i + 1) (by omega) hp
      have lit : ∀ j, j < 24 → (nI (zh_op (gY_ops u) i) = nI j ↔ zh_op (gY_ops u) i = j) := fun j hj => nI_eq (by omega) (by omega)
      have q86 : (zh_op (gY_ops u) i = 13 ∨ zh_op (gY_ops u) i = 14) → kY_strange_86 post (fun x2 => kY_strange_10 post (nI n) (d + 1) x2 u) (nI n) (nI i) (gY_args u (192 + i)) u := by
        intro w
        obtain ⟨j, hj, ej⟩ := zi_fj fo (show zi_lim (zh_op (gY_ops u) i) = 64 by rcases w with w | w <;> rw [w] <;> rfl) (by decide)
        have ec : (gY_args u (192 + i)).toNatClampNeg = j := by rw [ej, nI_clamp (by omega)]
        refine uY_strange_86 ⟨zn_16, ?_⟩
        rw [ej, (zn_d16 hj).2, (zn_d16 hj).1]
        refine y_isClass hup (zp_br (fun k => ys (Or.inr (Or.inr ⟨w, fun q => k (by rw [ec] at q; exact q.1)⟩))) (fun k => ⟨zn_16, zn_16, ?_⟩))
        have kd : zc_dp (gY_up u) 4 (nI (j / 16)) := by
          obtain ⟨c, hc, e, h2⟩ := id k
          rw [e]; exact hcl.2 c hc h2
        refine y_total hcl.1 kd (br_c (fun q => nm_r (nI_1 i) (nx ?_)) (fun q => ys (Or.inr (Or.inr ⟨w, fun r => q (by rw [ec] at r; exact r.2)⟩))))
        intro r
        unfold zm_bad zt_jump at r
        rcases r with r | r | r
        · omega
        · omega
        · exact r.2 (by rw [ec]; exact ⟨k, q⟩)
      have q74 : ¬ (zt_jump (zh_op (gY_ops u) i) ∧ n ≤ (gY_args u (192 + i)).toNatClampNeg) → ¬ ((zh_op (gY_ops u) i = 12 ∨ zh_op (gY_ops u) i = 15) ∧ ¬ zc_is (gY_up u) (gY_args u (192 + i))) → kY_strange_74 post (fun x2 => kY_strange_10 post (nI n) (d + 1) x2 u) (nI n) (nI i) (nI (zh_op (gY_ops u) i)) (gY_args u (192 + i)) u := by
        intro w1 w2
        refine uY_strange_74 (br_i (lit 13 (by decide)) (fun k => q86 (Or.inl k)) (fun k => br_i (lit 14 (by decide)) (fun k2 => q86 (Or.inr k2)) (fun k2 => nm_r (nI_1 i) (nx ?_))))
        rintro (r | r | r)
        · exact w1 r
        · exact w2 r
        · exact r.1.elim k k2
      have q51 : ¬ (zt_jump (zh_op (gY_ops u) i) ∧ n ≤ (gY_args u (192 + i)).toNatClampNeg) → kY_strange_51 post (fun x2 => kY_strange_10 post (nI n) (d + 1) x2 u) (nI n) (nI i) (nI (zh_op (gY_ops u) i)) (gY_args u (192 + i)) u := by
        intro w1
        have q63 : (zh_op (gY_ops u) i = 12 ∨ zh_op (gY_ops u) i = 15) → kY_strange_63 post (fun x2 => kY_strange_10 post (nI n) (d + 1) x2 u) (nI n) (nI i) (nI (zh_op (gY_ops u) i)) (gY_args u (192 + i)) u := by
          intro w
          refine uY_strange_63 (y_isClass hup (zp_br (fun k => ys (Or.inr (Or.inl ⟨w, k⟩))) (fun k => q74 w1 (fun r => r.2 k))))
        exact uY_strange_51 (br_i (lit 12 (by decide)) (fun k => q63 (Or.inl k)) (fun k => br_i (lit 15 (by decide)) (fun k2 => q63 (Or.inr k2)) (fun k2 => q74 w1 (fun r => r.1.elim k k2))))
      refine yt_jump o24 (zp_br (fun w => q51 (fun k => w k.1)) (fun w => ?_))
      obtain ⟨j, hj, ej⟩ := zi_fj fo (show zi_lim (zh_op (gY_ops u) i) = 24 by rcases w with w | w | w <;> rw [w] <;> rfl) (by decide)
      have ec : (gY_args u (192 + i)).toNatClampNeg = j := by rw [ej, nI_clamp (by omega)]
      have cj : nI n ≤ gY_args u (192 + i) ↔ n ≤ (gY_args u (192 + i)).toNatClampNeg := by
        rw [ec, ej]; exact nI_leI (by omega) (by omega)
      exact br_i cj (fun k => ys (Or.inl ⟨w, k⟩)) (fun k => q51 (fun r => k r.2))
  exact upY_strange (nm_r en ⟨n + 1, z n 0 (by omega) h⟩)
end
section
/-! both sides' heights and kinds are the same -/
theorem zb_127 : ∀ e, e < 32 → bt 127 e = decide (e < 7) := by decide
theorem zb_small7 {x : Int32} (h : ∀ e, 7 ≤ e → e < 32 → bt x e = false) : ∃ k, k < 128 ∧ x = nI k := by
  refine ⟨x.toBitVec.toNat % 2 ^ 7, Nat.mod_lt _ (by decide), ?_⟩
  rw [← pk_and x (m := 127) 7 (by decide)]
  apply b_ext
  intro i hi
  rw [b_and, zb_127 i hi]
  by_cases w : i < 7
  · simp [w]
  · rw [h i (by omega) hi]; rfl
theorem zh_one1 : ∀ k, k < 128 → k ≠ 0 → nI k &&& (nI k - 1) = 0 → nI k = nI (2 ^ zh_ht (nI k)) := by decide +kernel
theorem zh_one2 : ∀ h, h < 7 → zh_ht (nI (2 ^ h)) = h ∧ ∀ j, j < 32 → (bt (nI (2 ^ h)) j = true ↔ j = h) := by decide +kernel
theorem zh_htle (x : Int32) : zh_ht x < 7 := by have := zh_ht6 x; omega
theorem zh_Eeq {O A F T G G' : Nat → Int32} {n : Nat} (h : ∀ p, zh_cg F T 8 p → G 8 = G' 8) : zh_E O A F T G n = zh_E O A F T G' n := by
  funext i h1 j k
  apply propext
  unfold zh_E
  constructor
  · rintro ⟨hj, w | ⟨w1, w2, w3⟩⟩
    · exact ⟨hj, Or.inl w⟩
    · exact ⟨hj, Or.inr ⟨w1, by rw [← h _ w1]; exact w2, w3⟩⟩
  · rintro ⟨hj, w | ⟨w1, w2, w3⟩⟩
    · exact ⟨hj, Or.inl w⟩
    · exact ⟨hj, Or.inr ⟨w1, by rw [h _ w1]; exact w2, w3⟩⟩
theorem zh_Feq {E : Nat → Nat → Nat → Nat → Prop} {n : Nat} {a a' : Nat → Int32} (h : zh_F E n a) (h' : zh_F E n a') {i : Nat} (hi : i < n) : a i = a' i := by
  apply b_ext
  intro e he
  have := (h i hi e he).trans (h' i hi e he).symm
  cases w : bt (a i) e <;> cases w' : bt (a' i) e
  · rfl
  · rw [w, w'] at this; exact absurd (this.mpr rfl) (by decide)
  · rw [w, w'] at this; exact absurd (this.mp rfl) (by decide)
  · rfl
theorem zh_Fs {E : Nat → Nat → Nat → Nat → Prop} {n : Nat} {a : Nat → Int32} (h : zh_F E n a) {i : Nat} (hi : i < n) : ∃ k, k < 128 ∧ a i = nI k := by
  refine zb_small7 (fun e h1 h2 => ?_)
  cases w : bt (a i) e
  · rfl
  · have := ((h i hi e h2).mp w).1; omega
theorem zf_heq {E : Nat → Nat → Nat → Nat → Prop} {O A : Nat → Int32} {n : Nat} {a a' : Nat → Int32} (h : zh_F E n a) (h' : zh_F E n a') {i : Nat} (hi : i < n) : zf_hX O A n a i ↔ zf_hY O A n a' i := by
  have e := zh_Feq h h' hi
  obtain ⟨k, hk, ek⟩ := zh_Fs h hi
  unfold zf_hX zf_hY
  rw [← e]
  by_cases z : a i = 0
  · simp [z]
  · by_cases s : a i &&& (a i - 1) = 0
    · have k0 : k ≠ 0 := fun w => z (by rw [ek, w]; rfl)
      have p := zh_one1 k hk k0 (by rw [← ek]; exact s)
      rw [← ek] at p
      have q := zh_one2 (zh_ht (a i)) (zh_htle _)
      rw [← p] at q
      constructor
      · rintro ⟨_, w | w | w⟩
        · exact absurd s w
        · exact ⟨z, Or.inr (Or.inl ⟨w.1, by omega⟩)⟩
        · exact ⟨z, Or.inr (Or.inr ⟨zh_ht (a i), zh_htle _, (q.2 _ (by have := zh_htle (a i); omega)).mpr rfl, w⟩)⟩
      · rintro ⟨_, w | w | ⟨h1, h7, b, w⟩⟩
        · exact absurd s w
        · exact ⟨z, Or.inr (Or.inl ⟨w.1, by omega⟩)⟩
        · have := (q.2 h1 (by omega)).mp b
          subst this
          exact ⟨z, Or.inr (Or.inr w)⟩
    · exact ⟨fun _ => ⟨z, Or.inl s⟩, fun _ => ⟨z, Or.inl s⟩⟩
/-- a height alone, where no fault of the second kind is -/
theorem zh_single {E : Nat → Nat → Nat → Nat → Prop} {O A : Nat → Int32} {n : Nat} {a : Nat → Int32} (h : zh_F E n a) {i : Nat} (hi : i < n) (z : a i ≠ 0) (nf : ¬ zf_hX O A n a i) : a i = nI (2 ^ zh_ht (a i)) ∧ (zt_fall (zh_op O i) → i + 1 < n) ∧ zh_P O A i ≤ zh_ht (a i) ∧ zh_ht (a i) - zh_P O A i + zh_Q O i ≤ 6 := by
  obtain ⟨k, hk, ek⟩ := zh_Fs h hi
  have s : a i &&& (a i - 1) = 0 := by
    by_cases s : a i &&& (a i - 1) = 0
    · exact s
    · exact absurd ⟨z, Or.inl s⟩ nf
  have k0 : k ≠ 0 := fun w => z (by rw [ek, w]; rfl)
  have p := zh_one1 k hk k0 (by rw [← ek]; exact s)
  rw [← ek] at p
  refine ⟨p, fun w => ?_, ?_⟩
  · by_cases q : i + 1 = n
    · exact absurd ⟨z, Or.inr (Or.inl ⟨w, q⟩)⟩ nf
    · omega
  · by_cases q : zh_P O A i ≤ zh_ht (a i) ∧ zh_ht (a i) - zh_P O A i + zh_Q O i ≤ 6
    · exact q
    · exact absurd ⟨z, Or.inr (Or.inr q)⟩ nf
/-- the next instruction's height -/
theorem zh_next {O A F T G a : Nat → Int32} {n i h j k : Nat} (hF : zh_F (zh_E O A F T G n) n a) (hs : ∀ i, i < n → a i ≠ 0 → a i = nI (2 ^ zh_ht (a i))) (hi : i < n) (r : zh_R (zh_E O A F T G n) n i h) (e : zh_E O A F T G n i h j k) : a j ≠ 0 ∧ zh_ht (a j) = k ∧ zh_R (zh_E O A F T G n) n j k := by
  have h7 := zh_E7 e
  have r' := zh_Rs hi r e
  have b := (hF j h7.1 k (by omega)).mpr ⟨h7.2, r'⟩
  have z : a j ≠ 0 := fun w => by rw [w, b_0] at b; exact absurd b (by decide)
  have q := zh_one2 (zh_ht (a j)) (zh_htle _)
  rw [← hs j h7.1 z] at q
  exact ⟨z, ((q.2 k (by omega)).mp b).symm, r'⟩
theorem zh_reached {O A F T G a : Nat → Int32} {n i : Nat} (hF : zh_F (zh_E O A F T G n) n a) (hs : ∀ i, i < n → a i ≠ 0 → a i = nI (2 ^ zh_ht (a i))) (hi : i < n) (z : a i ≠ 0) : zh_R (zh_E O A F T G n) n i (zh_ht (a i)) := by
  have q := zh_one2 (zh_ht (a i)) (zh_htle _)
  rw [← hs i hi z] at q
  exact ((hF i hi _ (by have := zh_htle (a i); omega)).mp ((q.2 _ (by have := zh_htle (a i); omega)).mpr rfl)).2
theorem zh_first {O A F T G a : Nat → Int32} {n : Nat} (hn : 0 < n) (hF : zh_F (zh_E O A F T G n) n a) (hs : ∀ i, i < n → a i ≠ 0 → a i = nI (2 ^ zh_ht (a i))) : a 0 ≠ 0 ∧ zh_ht (a 0) = 0 := by
  have b := (hF 0 hn 0 (by decide)).mpr ⟨by decide, zh_R0⟩
  have z : a 0 ≠ 0 := fun w => by rw [w, b_0] at b; exact absurd b (by decide)
  have q := zh_one2 (zh_ht (a 0)) (zh_htle _)
  rw [← hs 0 hn z] at q
  exact ⟨z, ((q.2 0 (by omega)).mp b).symm⟩
theorem zk_par {f : Nat → Prop} {g : Nat → Nat → Prop} {cc : Prop} {pk o a b c e : Nat} (v : zk_v f cc o a b e) (w : zy_v g pk o a b c e) : (∃ s, ((s = e ∧ e < b) ∨ (s = b ∧ (o = 3 ∨ o = 20)) ∨ (s = a ∧ o = 2)) ∧ f s ∧ g c s) ∨ (cc ∧ pk = c + 1) := by
  rcases v with ⟨v1, v⟩ | ⟨v1, v⟩ | ⟨v1, v⟩ | ⟨v1, v2, v3, v⟩
  · rcases w with ⟨w1, w⟩ | ⟨w1, w⟩ | ⟨w1, w⟩ | ⟨w1, w2, w3, w⟩
    · rcases v with ⟨v2, v⟩ | ⟨v2, v3, v⟩ <;> rcases w with ⟨w2, w⟩ | ⟨w2, w⟩
      · exact Or.inl ⟨b, Or.inr (Or.inl ⟨rfl, Or.inl v1⟩), v, w⟩
      · exact absurd v2 w2
      · exact absurd w2 v2
      · exact Or.inl ⟨e, Or.inl ⟨rfl, v3⟩, v, w⟩
    · omega
    · omega
    · exact absurd v1 w1
  · rcases w with ⟨w1, w⟩ | ⟨w1, w⟩ | ⟨w1, w⟩ | ⟨w1, w2, w3, w⟩
    · omega
    · rcases v with ⟨v2, v⟩ | ⟨v2, v⟩ <;> rcases w with ⟨w2, w⟩ | ⟨w2, w⟩
      · omega
      · exact Or.inl ⟨e, Or.inl ⟨rfl, v2⟩, v, w⟩
      · exact Or.inl ⟨a, Or.inr (Or.inr ⟨rfl, v1⟩), v, w⟩
      · exact absurd v2 w2
    · omega
    · exact absurd v1 w2
  · rcases w with ⟨w1, w⟩ | ⟨w1, w⟩ | ⟨w1, w⟩ | ⟨w1, w2, w3, w⟩
    · omega
    · omega
    · rcases v with ⟨v2, v⟩ | ⟨v2, v⟩ <;> rcases w with ⟨w2, w⟩ | ⟨w2, w⟩
      · omega
      · exact Or.inl ⟨e, Or.inl ⟨rfl, v2⟩, v, w⟩
      · exact Or.inl ⟨b, Or.inr (Or.inl ⟨rfl, Or.inr v1⟩), v, w⟩
      · exact absurd v2 w2
    · exact absurd v1 w3
  · rcases w with ⟨w1, w⟩ | ⟨w1, w⟩ | ⟨w1, w⟩ | ⟨w1, w2, w3, w⟩
    · exact absurd w1 v1
    · exact absurd w1 v2
    · exact absurd w1 v3
    · rcases v with ⟨v4, v⟩ | ⟨v4, v⟩ <;> rcases w with ⟨w4, w⟩ | ⟨w4, w⟩
      · omega
      · exact Or.inl ⟨e, Or.inl ⟨rfl, v4⟩, v, w⟩
      · exact Or.inr ⟨v, w⟩
      · exact absurd v4 w4
theorem zk_pkne {rf : Nat → Int32} {o : Nat} {a : Int32} (ho : o < 24) (hp : zt_push o ≠ 0) (h2 : o ≠ 2) (h20 : o ≠ 20) : zk_pk rf o a ≠ 0 := by
  unfold zk_pk
  by_cases z13 : o = 13
  · rw [if_pos z13]; split <;> decide
  · rw [if_neg z13]
    by_cases z16 : o = 16
    · rw [if_pos z16]; split <;> decide
    · rw [if_neg z16]
      by_cases z17 : o = 17
      · rw [if_pos z17]; split <;> decide
      · rw [if_neg z17]
        have : ∀ o, o < 24 → [1, 2, 0, 0, 1, 1, 1, 1, 0, 0, 0, 1, 2, 0, 0, 1, 0, 0, 0, 0, 0, 0, 2, 0].getD o 0 = 0 → zt_push o = 0 ∨ o = 2 ∨ o = 20 ∨ o = 13 ∨ o = 16 ∨ o = 17 := by decide
        intro w
        rcases this o ho w with k | k | k | k | k | k
        · exact hp k
        · exact h2 k
        · exact h20 k
        · exact z13 k
        · exact z16 k
        · exact z17 k
theorem zk_pk0 {rf : Nat → Int32} {o : Nat} {a : Int32} (ho : o < 24) (hp : zt_push o = 0) : zk_pk rf o a = 0 := by
  have : ∀ o, o < 24 → zt_push o = 0 → o ≠ 13 ∧ o ≠ 16 ∧ o ≠ 17 ∧ [1, 2, 0, 0, 1, 1, 1, 1, 0, 0, 0, 1, 2, 0, 0, 1, 0, 0, 0, 0, 0, 0, 2, 0].getD o 0 = 0 := by decide
  obtain ⟨h1, h2, h3, h4⟩ := this o ho hp
  unfold zk_pk
  rw [if_neg h1, if_neg h2, if_neg h3, h4]
/-- P, Q and operand, where it matters -/
theorem zk_facts {O A : Nat → Int32} {i : Nat} (ho : zi_ok (O (192 + i)) (A (192 + i))) : zh_op O i < 24 ∧ (zh_op O i = 3 → zh_P O A i = 1 ∧ zh_Q O i = 0 ∧ (A (192 + i)).toNatClampNeg < 6) ∧ (zh_op O i = 2 → zh_P O A i = 0 ∧ zh_Q O i = 1 ∧ (A (192 + i)).toNatClampNeg < 6) ∧ (zh_op O i = 20 → zh_P O A i = 1 ∧ zh_Q O i = 2) ∧ (zh_op O i ≠ 20 → zh_Q O i ≤ 1) := by
  obtain ⟨o24, eo, fo⟩ := zi_of ho
  have eop : zh_op O i = (O (192 + i)).toNatClampNeg := rfl
  rw [← eop] at o24 eo fo
  refine ⟨o24, fun w => ?_, fun w => ?_, fun w => ?_, fun w => ?_⟩
  · obtain ⟨j, hj, ej⟩ := zi_fj fo (show zi_lim (zh_op O i) = 6 by rw [w]; rfl) (by decide)
    unfold zh_P zh_Q
    rw [w, ej, nI_clamp (by omega)]
    exact ⟨rfl, rfl, hj⟩
  · obtain ⟨j, hj, ej⟩ := zi_fj fo (show zi_lim (zh_op O i) = 6 by rw [w]; rfl) (by decide)
    unfold zh_P zh_Q
    rw [w, ej, nI_clamp (by omega)]
    exact ⟨rfl, rfl, hj⟩
  · unfold zh_P zh_Q
    rw [w]; exact ⟨rfl, rfl⟩
  · unfold zh_Q
    have : ∀ o, o < 24 → o ≠ 20 → zt_push o ≤ 1 := by decide
    exact this _ o24 w
theorem zy_inb1 : ∀ m, m < 8 → ∀ e, e < 6 → bt (nI (zy_in m e)) 1 = false → bt (nI (zy_in m e)) 2 = false → bt (nI (zt_ti m)) e = true := by decide +kernel
theorem zy_inb2 : ∀ m, m < 8 → ∀ e, e < 6 → bt (nI (zy_in m e)) 0 = false → bt (nI (zy_in m e)) 2 = false → bt (nI (zt_tr m)) e = true := by decide +kernel
theorem zy_inb3 : ∀ m, m < 8 → ∀ e, e < 6 → bt (nI (zy_in m e)) 0 = true → bt (nI (zt_tr m)) e = false := by decide +kernel
theorem zy_inb4 : ∀ m, m < 8 → ∀ e, e < 6 → bt (nI (zy_in m e)) 1 = true → bt (nI (zt_ti m)) e = false := by decide +kernel
theorem zy_inb5 : ∀ m, m < 8 → ∀ e, e < 6 → bt (nI (zy_in m e)) 2 = true → bt (nI (zt_ti m)) e = false ∧ bt (nI (zt_tr m)) e = false := by decide +kernel
theorem zy_inb6 : ∀ m, m < 8 → ∀ e, e < 6 → bt (nI (zy_in m e)) 0 = true ∨ bt (nI (zy_in m e)) 1 = true ∨ bt (nI (zy_in m e)) 2 = true := by decide +kernel
theorem zy_inb (m : Nat) (hm : m < 8) (e : Nat) (he : e < 6) : (bt (nI (zy_in m e)) 1 = false → bt (nI (zy_in m e)) 2 = false → bt (nI (zt_ti m)) e = true) ∧ (bt (nI (zy_in m e)) 0 = false → bt (nI (zy_in m e)) 2 = false → bt (nI (zt_tr m)) e = true) ∧ (bt (nI (zy_in m e)) 0 = true → bt (nI (zt_tr m)) e = false) ∧ (bt (nI (zy_in m e)) 1 = true → bt (nI (zt_ti m)) e = false) ∧ (bt (nI (zy_in m e)) 2 = true → bt (nI (zt_ti m)) e = false ∧ bt (nI (zt_tr m)) e = false) ∧ (bt (nI (zy_in m e)) 0 = true ∨ bt (nI (zy_in m e)) 1 = true ∨ bt (nI (zy_in m e)) 2 = true) :=
  ⟨zy_inb1 m hm e he, zy_inb2 m hm e he, zy_inb3 m hm e he, zy_inb4 m hm e he, zy_inb5 m hm e he, zy_inb6 m hm e he⟩
theorem zt_trhi : ∀ m, m < 8 → ∀ e, e < 12 → 6 ≤ e → bt (nI (zt_tr m)) e = false := by decide
theorem zb_f {b : Bool} (h : ¬ b = true) : b = false := by cases b; rfl; exact absurd rfl h
/-- the kinds of both sides say the same -/
theorem zk_merge {rf O A F T G a xi xr K : Nat → Int32} {n m : Nat} (hm : m < 8) (env : zk_env O A F T G a n) (hF : zh_F (zh_E O A F T G n) n a) (hs : ∀ i, i < n → a i ≠ 0 → a i = nI (2 ^ zh_ht (a i)))
  (f1 : zk_FX rf O A F T G a n m 1 xi) (f2 : zk_FX rf O A F T G a n m 2 xr) (fy : zy_F rf O A F T G a n m K) {i : Nat} (hi : i < n) (h0 : a i ≠ 0) :
  (∀ e, e < 6 + zh_ht (a i) → (bt (xi i) e = true ↔ K (12 * i + e) = 1) ∧ (bt (xr i) e = true ↔ K (12 * i + e) = 2)) ∧ (∀ e, 6 + zh_ht (a i) ≤ e → e < 32 → bt (xr i) e = false) := by
  obtain ⟨hn, hn0, ho, hg, hj, hf, hP⟩ := id env
  have H6 := zh_ht6
  -- where instruction i leads
  have nxt : ∀ i, i < n → a i ≠ 0 → ∀ t, t < n → zk_t O A i t → a t ≠ 0 ∧ zh_ht (a t) = zh_ht (a i) - zh_P O A i + zh_Q O i := by
    intro i hi h0 t ht w
    have p := hP i hi h0
    have := zh_next hF hs hi (zh_reached hF hs hi h0) (j := t) (k := zh_ht (a i) - zh_P O A i + zh_Q O i) ⟨ht, Or.inl ⟨p.1, p.2, rfl, w⟩⟩
    exact ⟨this.1, this.2.1⟩
  have nxc : ∀ i, i < n → a i ≠ 0 → zh_cg F T 8 (nI i) → ∀ g, g < n → G 8 = nI g → a g ≠ 0 ∧ zh_ht (a g) = 1 := by
    intro i hi h0 w g hg eg
    have := zh_next hF hs hi (zh_reached hF hs hi h0) (j := g) (k := 1) ⟨hg, Or.inr ⟨w, eg, rfl⟩⟩
    exact ⟨this.1, this.2.1⟩
  have fst := zh_first hn0 hF hs
  have kc := fy.1
  -- A: below X
  have A1 : ∀ k q, (k = 1 ∧ q = 1) ∨ (k = 2 ∧ q = 0) → zk_C rf O A F T G a n m k (fun i e => i < n ∧ a i ≠ 0 ∧ e < 6 + zh_ht (a i) ∧ bt (K (12 * i + e)) q = false ∧ bt (K (12 * i + e)) 2 = false) := by
    intro k q hkq
    refine ⟨?_, ?_⟩
    · rintro e he ⟨_, _, h6, b1, b2⟩
      have h6 : e < 6 := by omega
      have tb := zy_inb m hm e h6
      have nb : ∀ c, c < 3 → bt (K (12 * 0 + e)) c = false → bt (nI (zy_in m e)) c = false := fun c hc b => zb_f (fun w => by have := kc.1 e h6 c hc w; unfold zy_bits at this; rw [b] at this; exact absurd this (by decide))
      rcases hkq with ⟨rfl, rfl⟩ | ⟨rfl, rfl⟩
      · exact tb.1 (nb 1 (by decide) b1) (nb 2 (by decide) b2)
      · exact tb.2.1 (nb 0 (by decide) b1) (nb 2 (by decide) b2)
    · intro i hi h0
      have cl := kc.2 i hi h0
      have fa := zk_facts (ho i hi)
      have pi := hP i hi h0
      have hb : zk_b O A a i = 6 + zh_ht (a i) - zh_P O A i := rfl
      constructor
      · rintro t ht w e he ⟨_, _, h6, b1, b2⟩
        have nt := nxt i hi h0 t ht w
        have no : ∀ c, c < 3 → bt (K (12 * t + e)) c = false → ¬ zy_v (fun c e => zy_bits K c i e) (zk_pk rf (zh_op O i) (A (192 + i))) (zh_op O i) (A (192 + i)).toNatClampNeg (zk_b O A a i) c e := fun c hc b w2 => by
          have := cl.1 t ht w e (by omega) c hc w2
          unfold zy_bits at this; rw [b] at this; exact absurd this (by decide)
        have q3 : q < 3 := by omega
        have n1 := no q q3 b1
        have n2 := no 2 (by decide) b2
        unfold zy_bits at n1 n2
        have src : ∀ s, s < 6 + zh_ht (a i) → ¬ bt (K (12 * i + s)) q = true → ¬ bt (K (12 * i + s)) 2 = true → i < n ∧ a i ≠ 0 ∧ s < 6 + zh_ht (a i) ∧ bt (K (12 * i + s)) q = false ∧ bt (K (12 * i + s)) 2 = false := fun s h1 h2 h3 => ⟨hi, h0, h1, zb_f h2, zb_f h3⟩
        by_cases o3 : zh_op O i = 3
        · obtain ⟨p1, p2, p3⟩ := fa.2.1 o3
          refine Or.inl ⟨o3, ?_⟩
          by_cases ea : e = (A (192 + i)).toNatClampNeg
          · exact Or.inl ⟨ea, src _ (by omega) (fun b => n1 (Or.inl ⟨o3, Or.inl ⟨ea, b⟩⟩)) (fun b => n2 (Or.inl ⟨o3, Or.inl ⟨ea, b⟩⟩))⟩
          · exact Or.inr ⟨ea, by omega, src _ (by omega) (fun b => n1 (Or.inl ⟨o3, Or.inr ⟨ea, b⟩⟩)) (fun b => n2 (Or.inl ⟨o3, Or.inr ⟨ea, b⟩⟩))⟩
        · by_cases o2 : zh_op O i = 2
          · obtain ⟨p1, p2, p3⟩ := fa.2.2.1 o2
            refine Or.inr (Or.inl ⟨o2, ?_⟩)
            by_cases ea : e = zk_b O A a i
            · exact Or.inr ⟨ea, src _ (by omega) (fun b => n1 (Or.inr (Or.inl ⟨o2, Or.inl ⟨ea, b⟩⟩))) (fun b => n2 (Or.inr (Or.inl ⟨o2, Or.inl ⟨ea, b⟩⟩)))⟩
            · exact Or.inl ⟨by omega, src _ (by omega) (fun b => n1 (Or.inr (Or.inl ⟨o2, Or.inr ⟨ea, b⟩⟩))) (fun b => n2 (Or.inr (Or.inl ⟨o2, Or.inr ⟨ea, b⟩⟩)))⟩
          · by_cases o20 : zh_op O i = 20
            · obtain ⟨p1, p2⟩ := fa.2.2.2.1 o20
              refine Or.inr (Or.inr (Or.inl ⟨o20, ?_⟩))
              by_cases ea : e = zk_b O A a i ∨ e = zk_b O A a i + 1
              · exact Or.inr ⟨ea, src _ (by omega) (fun b => n1 (Or.inr (Or.inr (Or.inl ⟨o20, Or.inl ⟨ea, b⟩⟩)))) (fun b => n2 (Or.inr (Or.inr (Or.inl ⟨o20, Or.inl ⟨ea, b⟩⟩))))⟩
              · exact Or.inl ⟨by omega, src _ (by omega) (fun b => n1 (Or.inr (Or.inr (Or.inl ⟨o20, Or.inr ⟨ea, b⟩⟩)))) (fun b => n2 (Or.inr (Or.inr (Or.inl ⟨o20, Or.inr ⟨ea, b⟩⟩))))⟩
            · have q1 := fa.2.2.2.2 o20
              refine Or.inr (Or.inr (Or.inr ⟨o3, o2, o20, ?_⟩))
              by_cases ea : e = zk_b O A a i
              · refine Or.inr ⟨ea, ?_⟩
                have w1 : ¬ zk_pk rf (zh_op O i) (A (192 + i)) = q + 1 := fun b => n1 (Or.inr (Or.inr (Or.inr ⟨o3, o2, o20, Or.inl ⟨ea, b⟩⟩)))
                have w3 := zk_pk2 rf (zh_op O i) (A (192 + i)) fa.1
                have w0 : zk_pk rf (zh_op O i) (A (192 + i)) ≠ 0 := zk_pkne fa.1 (by have : zh_Q O i = zt_push (zh_op O i) := rfl; omega) o2 o20
                omega
              · exact Or.inl ⟨by omega, src _ (by omega) (fun b => n1 (Or.inr (Or.inr (Or.inr ⟨o3, o2, o20, Or.inr ⟨ea, b⟩⟩)))) (fun b => n2 (Or.inr (Or.inr (Or.inr ⟨o3, o2, o20, Or.inr ⟨ea, b⟩⟩))))⟩
      · rintro w g hg2 eg e he ⟨_, _, h6, b1, b2⟩
        have ng := nxc i hi h0 w g hg2 eg
        have cg := cl.2 w g hg2 eg
        by_cases e6 : e = 6
        · subst e6
          rcases hkq with ⟨rfl, rfl⟩ | ⟨rfl, rfl⟩
          · exact Or.inr ⟨rfl, rfl⟩
          · have := cg.2
            unfold zy_bits at this
            rw [b1] at this; exact absurd this (by decide)
        · refine Or.inl ⟨by omega, hi, h0, by omega, zb_f (fun b => ?_), zb_f (fun b => ?_)⟩
          · have := cg.1 e (by omega) q (by omega) b
            unfold zy_bits at this; rw [b1] at this; exact absurd this (by decide)
          · have := cg.1 e (by omega) 2 (by decide) b
            unfold zy_bits at this; rw [b2] at this; exact absurd this (by decide)
  -- B: above Y
  have B1 : zy_C rf O A F T G a n m (fun c i e => a i ≠ 0 → e < 6 + zh_ht (a i) → (c = 0 → bt (xr i) e = false) ∧ (c = 1 → bt (xi i) e = false) ∧ (c = 2 → bt (xi i) e = false ∧ bt (xr i) e = false)) := by
    refine ⟨?_, ?_⟩
    · intro e he c hc b _ _
      have tb := zy_inb m hm e he
      have nx : ∀ k (x : Nat → Int32), zk_C rf O A F T G a n m k (fun i e => bt (x i) e = true) → bt (nI (if k = 1 then zt_ti m else zt_tr m)) e = false → bt (x 0) e = false := fun k x cx q => zb_f (fun w => by have := cx.1 e (by omega) w; rw [q] at this; exact absurd this (by decide))
      refine ⟨fun z => ?_, fun z => ?_, fun z => ?_⟩ <;> subst z
      · exact nx 2 xr f2.1 (tb.2.2.1 b)
      · exact nx 1 xi f1.1 (tb.2.2.2.1 b)
      · exact ⟨nx 1 xi f1.1 (tb.2.2.2.2.1 b).1, nx 2 xr f2.1 (tb.2.2.2.2.1 b).2⟩
    · intro i hi h0
      have fa := zk_facts (ho i hi)
      have pi := hP i hi h0
      have hb : zk_b O A a i = 6 + zh_ht (a i) - zh_P O A i := rfl
      constructor
      · intro t ht w e he c hc v _ h6
        -- one side
        have one : ∀ k (x : Nat → Int32), zk_C rf O A F T G a n m k (fun i e => bt (x i) e = true) → (∀ s, s < 6 + zh_ht (a i) → (a i ≠ 0 → s < 6 + zh_ht (a i) → (c = 0 → bt (xr i) s = false) ∧ (c = 1 → bt (xi i) s = false) ∧ (c = 2 → bt (xi i) s = false ∧ bt (xr i) s = false)) → bt (x i) s = false) → k ≠ c + 1 → bt (x t) e = false := by
          intro k x cx hx kc
          refine zb_f (fun b => ?_)
          have v2 := (cx.2 i hi h0).1 t ht w e (by omega) b
          rcases zk_par v2 v with ⟨s, hs, p1, p2⟩ | ⟨p1, p2⟩
          · have s6 : s < 6 + zh_ht (a i) := by
              rcases hs with hs | ⟨hs, o | o⟩ | ⟨hs, o⟩
              · omega
              · have := (fa.2.1 o).1; omega
              · have := (fa.2.2.2.1 o).1; omega
              · have := (fa.2.2.1 o).2.2; omega
            rw [hx s s6 p2] at p1; exact absurd p1 (by decide)
          · omega
        refine ⟨fun z => ?_, fun z => ?_, fun z => ?_⟩ <;> subst z
        · exact one 2 xr f2.1 (fun s s6 p => (p h0 s6).1 rfl) (by decide)
        · exact one 1 xi f1.1 (fun s s6 p => (p h0 s6).2.1 rfl) (by decide)
        · exact ⟨one 1 xi f1.1 (fun s s6 p => ((p h0 s6).2.2 rfl).1) (by decide), one 2 xr f2.1 (fun s s6 p => ((p h0 s6).2.2 rfl).2) (by decide)⟩
      · intro w g hg2 eg
        refine ⟨fun e he c hc v _ _ => ?_, fun _ _ => ⟨fun _ => zb_f (fun b => ?_), fun z => absurd z (by decide), fun z => absurd z (by decide)⟩⟩
        · have one : ∀ k (x : Nat → Int32), zk_C rf O A F T G a n m k (fun i e => bt (x i) e = true) → bt (x i) e = false → bt (x g) e = false := by
            intro k x cx hx
            refine zb_f (fun b => ?_)
            rcases (cx.2 i hi h0).2 w g hg2 eg e (by omega) b with ⟨_, q⟩ | ⟨_, q⟩
            · rw [hx] at q; exact absurd q (by decide)
            · omega
          have v := v h0 (by omega)
          refine ⟨fun z => ?_, fun z => ?_, fun z => ?_⟩
          · exact one 2 xr f2.1 (v.1 z)
          · exact one 1 xi f1.1 (v.2.1 z)
          · exact ⟨one 1 xi f1.1 (v.2.2 z).1, one 2 xr f2.1 (v.2.2 z).2⟩
        · rcases (f2.1.2 i hi h0).2 w g hg2 eg 6 (by decide) b with ⟨q, _⟩ | ⟨q, _⟩
          · omega
          · exact absurd q (by decide)
  -- C: something is known of every entry
  have C1 : ∀ i h, zh_R (zh_E O A F T G n) n i h → i < n → ∀ e, e < 6 + h → ∃ c, c < 3 ∧ bt (K (12 * i + e)) c = true := by
    intro i h r
    have := r (fun i h => zh_R (zh_E O A F T G n) n i h ∧ (i < n → ∀ e, e < 6 + h → ∃ c, c < 3 ∧ bt (K (12 * i + e)) c = true)) ⟨⟨zh_R0, fun _ e he => ?_⟩, ?_⟩
    · exact this.2
    · have tb := (zy_inb m hm e (by omega)).2.2.2.2.2
      rcases tb with b | b | b
      · exact ⟨0, by decide, kc.1 e (by omega) 0 (by decide) b⟩
      · exact ⟨1, by decide, kc.1 e (by omega) 1 (by decide) b⟩
      · exact ⟨2, by decide, kc.1 e (by omega) 2 (by decide) b⟩
    · rintro i h j k hi ⟨r, q⟩ ed
      refine ⟨zh_Rs hi r ed, fun hj2 e he => ?_⟩
      -- i is reached with h alone
      have b := (hF i hi h ?_).mpr ⟨?_, r⟩
      · have z : a i ≠ 0 := fun w => by rw [w, b_0] at b; exact absurd b (by decide)
        have qq := zh_one2 (zh_ht (a i)) (zh_htle _)
        rw [← hs i hi z] at qq
        have hh : h = zh_ht (a i) := by
          by_cases w : h < 32
          · exact (qq.2 h w).mp b
          · rw [b_big (by omega)] at b; exact absurd b (by decide)
        subst hh
        have fa := zk_facts (ho i hi)
        have pi := hP i hi z
        have cl := kc.2 i hi z
        have hb : zk_b O A a i = 6 + zh_ht (a i) - zh_P O A i := rfl
        obtain ⟨hj3, ⟨w1, w2, w3, w4⟩ | ⟨w1, w2, w3⟩⟩ := ed
        · have wt : zk_t O A i j := w4
          have give : ∀ c, c < 3 → zy_v (fun c e => zy_bits K c i e) (zk_pk rf (zh_op O i) (A (192 + i))) (zh_op O i) (A (192 + i)).toNatClampNeg (zk_b O A a i) c e → ∃ c, c < 3 ∧ bt (K (12 * j + e)) c = true := fun c hc v => ⟨c, hc, cl.1 j hj3 wt e (by omega) c hc v⟩
          by_cases o3 : zh_op O i = 3
          · obtain ⟨p1, p2, p3⟩ := fa.2.1 o3
            by_cases ea : e = (A (192 + i)).toNatClampNeg
            · obtain ⟨c, hc, b⟩ := q hi (zk_b O A a i) (by omega)
              exact give c hc (Or.inl ⟨o3, Or.inl ⟨ea, b⟩⟩)
            · obtain ⟨c, hc, b⟩ := q hi e (by omega)
              exact give c hc (Or.inl ⟨o3, Or.inr ⟨ea, b⟩⟩)
          · by_cases o2 : zh_op O i = 2
            · obtain ⟨p1, p2, p3⟩ := fa.2.2.1 o2
              by_cases ea : e = zk_b O A a i
              · obtain ⟨c, hc, b⟩ := q hi (A (192 + i)).toNatClampNeg (by omega)
                exact give c hc (Or.inr (Or.inl ⟨o2, Or.inl ⟨ea, b⟩⟩))
              · obtain ⟨c, hc, b⟩ := q hi e (by omega)
                exact give c hc (Or.inr (Or.inl ⟨o2, Or.inr ⟨ea, b⟩⟩))
            · by_cases o20 : zh_op O i = 20
              · obtain ⟨p1, p2⟩ := fa.2.2.2.1 o20
                by_cases ea : e = zk_b O A a i ∨ e = zk_b O A a i + 1
                · obtain ⟨c, hc, b⟩ := q hi (zk_b O A a i) (by omega)
                  exact give c hc (Or.inr (Or.inr (Or.inl ⟨o20, Or.inl ⟨ea, b⟩⟩)))
                · obtain ⟨c, hc, b⟩ := q hi e (by omega)
                  exact give c hc (Or.inr (Or.inr (Or.inl ⟨o20, Or.inr ⟨ea, b⟩⟩)))
              · have q1 := fa.2.2.2.2 o20
                by_cases ea : e = zk_b O A a i
                · have w3' := zk_pk2 rf (zh_op O i) (A (192 + i)) fa.1
                  have w0 : zk_pk rf (zh_op O i) (A (192 + i)) ≠ 0 := zk_pkne fa.1 (by have : zh_Q O i = zt_push (zh_op O i) := rfl; omega) o2 o20
                  exact give (zk_pk rf (zh_op O i) (A (192 + i)) - 1) (by omega) (Or.inr (Or.inr (Or.inr ⟨o3, o2, o20, Or.inl ⟨ea, by omega⟩⟩)))
                · obtain ⟨c, hc, b⟩ := q hi e (by omega)
                  exact give c hc (Or.inr (Or.inr (Or.inr ⟨o3, o2, o20, Or.inr ⟨ea, b⟩⟩)))
        · have cg := cl.2 w1 j hj3 w2
          by_cases e6 : e = 6
          · subst e6; exact ⟨0, by decide, cg.2⟩
          · obtain ⟨c, hc, b⟩ := q hi e (by omega)
            exact ⟨c, hc, cg.1 e (by omega) c hc b⟩
      · have := r (fun _ h => h < 7) ⟨by decide, fun i h j k _ _ e => (zh_E7 e).2⟩
        have this : h < 7 := this
        omega
      · exact r (fun _ h => h < 7) ⟨by decide, fun i h j k _ _ e => (zh_E7 e).2⟩
  -- D: nothing above the height
  have D1 : ∀ i h, zh_R (zh_E O A F T G n) n i h → i < n → ∀ e, 6 + h ≤ e → e < 12 → bt (xr i) e = false := by
    intro i h r
    have := r (fun i h => zh_R (zh_E O A F T G n) n i h ∧ (i < n → ∀ e, 6 + h ≤ e → e < 12 → bt (xr i) e = false)) ⟨⟨zh_R0, fun _ e h1 h2 => zb_f (fun b => ?_)⟩, ?_⟩
    · exact this.2
    · have := f2.1.1 e h2 b
      rw [if_neg (by decide), zt_trhi m hm e h2 (by omega)] at this
      exact absurd this (by decide)
    · rintro i h j k hi ⟨r, q⟩ ed
      refine ⟨zh_Rs hi r ed, fun hj2 e h1 h2 => zb_f (fun bb => ?_)⟩
      have h7 : h < 7 := r (fun _ h => h < 7) ⟨by decide, fun i h j k _ _ e => (zh_E7 e).2⟩
      have b := (hF i hi h (by omega)).mpr ⟨h7, r⟩
      have z : a i ≠ 0 := fun w => by rw [w, b_0] at b; exact absurd b (by decide)
      have qq := zh_one2 (zh_ht (a i)) (zh_htle _)
      rw [← hs i hi z] at qq
      have hh : h = zh_ht (a i) := (qq.2 h (by omega)).mp b
      subst hh
      have fa := zk_facts (ho i hi)
      have pi := hP i hi z
      have hb : zk_b O A a i = 6 + zh_ht (a i) - zh_P O A i := rfl
      have cl := f2.1.2 i hi z
      obtain ⟨hj3, ⟨w1, w2, w3, w4⟩ | ⟨w1, w2, w3⟩⟩ := ed
      · rcases cl.1 j hj3 w4 e h2 bb with ⟨o, v⟩ | ⟨o, v⟩ | ⟨o, v⟩ | ⟨o1, o2, o3, v⟩
        · have := fa.2.1 o; omega
        · have := fa.2.2.1 o; omega
        · have := fa.2.2.2.1 o; omega
        · rcases v with v | ⟨v1, v2⟩
          · omega
          · by_cases qz : zh_Q O i = 0
            · rw [zk_pk0 fa.1 qz] at v2; exact absurd v2 (by decide)
            · omega
      · rcases cl.2 w1 j hj3 w2 e h2 bb with ⟨v, _⟩ | ⟨v, _⟩
        · omega
        · exact absurd v (by decide)
  have r := zh_reached hF hs hi h0
  have small : ∀ e, e < 12 → ∀ c, 3 ≤ c → c < 32 → bt (K (12 * i + e)) c = false := fun e he c h1 h2 => fy.2.2 i hi e he c h1 h2
  have h6 := zh_ht6 (a i)
  refine ⟨fun e he => ?_, fun e h1 h2 => ?_⟩
  · have up1 := f1.2.1 _ (A1 1 1 (Or.inl ⟨rfl, rfl⟩)) i hi e (by omega)
    have up2 := f2.2.1 _ (A1 2 0 (Or.inr ⟨rfl, rfl⟩)) i hi e (by omega)
    have lo := fun c hc b => fy.2.1 _ B1 i hi e (by omega) c hc b h0 he
    obtain ⟨c0, hc0, bc0⟩ := C1 i _ r hi e he
    have val : ∀ (k q : Nat), (q = 0 ∧ k = 1) ∨ (q = 1 ∧ k = 2) → (∀ c, c < 3 → c ≠ q → bt (K (12 * i + e)) c = false) → K (12 * i + e) = nI k := by
      intro k q hkq hz
      have hq : bt (K (12 * i + e)) q = true := by
        by_cases w : c0 = q
        · rw [← w]; exact bc0
        · rw [hz c0 hc0 w] at bc0; exact absurd bc0 (by decide)
      apply b_ext
      intro c hc
      rw [show bt (nI k) c = decide (c = q) by
        rcases hkq with ⟨rfl, rfl⟩ | ⟨rfl, rfl⟩
        · exact zb_1 c hc
        · have : ∀ c, c < 32 → bt (nI 2) c = decide (c = 1) := by decide
          exact this c hc]
      by_cases w : c = q
      · subst w; simp [hq]
      · simp [w]
        by_cases w3 : c < 3
        · exact hz c w3 w
        · exact small e (by omega) c (by omega) hc
    constructor
    · constructor
      · intro b
        refine val 1 0 (Or.inl ⟨rfl, rfl⟩) (fun c hc w => zb_f (fun q => ?_))
        have l := lo c hc q
        have : c = 1 ∨ c = 2 := by omega
        rcases this with rfl | rfl
        · rw [l.2.1 rfl] at b; exact absurd b (by decide)
        · rw [(l.2.2 rfl).1] at b; exact absurd b (by decide)
      · intro b
        exact up1 ⟨hi, h0, he, by rw [b]; decide, by rw [b]; decide⟩
    · constructor
      · intro b
        refine val 2 1 (Or.inr ⟨rfl, rfl⟩) (fun c hc w => zb_f (fun q => ?_))
        have l := lo c hc q
        have : c = 0 ∨ c = 2 := by omega
        rcases this with rfl | rfl
        · rw [l.1 rfl] at b; exact absurd b (by decide)
        · rw [(l.2.2 rfl).2] at b; exact absurd b (by decide)
      · intro b
        exact up2 ⟨hi, h0, he, by rw [b]; decide, by rw [b]; decide⟩
  · by_cases w : e < 12
    · exact D1 i _ r hi e h1 w
    · exact f2.2.2 i hi e (by omega) h2
end
section
/-! the states that make goes through, with all that it changes -/
def mX (w_faultPlace : Int32) (w_ops : Nat → Int32) (w_operands : Nat → Int32) (w_lengths : Nat → Int32) (w_catchFrom : Nat → Int32) (w_catchTo : Nat → Int32) (w_catchGoal : Nat → Int32) (w_refMaps : Nat → Int32) (w_bodyHeights : Nat → Int32) (w_frameWords : Nat → Int32) (w_codeOps : Nat → Int32) (w_heights : Nat → Int32) (w_intKinds : Nat → Int32) (w_refKinds : Nat → Int32) (u : SX) : SX := (w_faultPlace, gX_heapEnd u, gX_frames u, gX_frameWordsUsed u, gX_wanted u, gX_outcome u, gX_lastResult u, gX_lastOrigin u, gX_done u, gX_collections u, gX_stayed u, gX_turnedCount u, gX_linkedCount u, gX_superOf u, gX_fieldCount u, gX_refFields u, gX_ownMethods u, gX_initialisers u, gX_ready u, w_ops, w_operands, w_lengths, w_catchFrom, w_catchTo, w_catchGoal, w_refMaps, w_bodyHeights, w_frameWords, w_codeOps, gX_codeCells u, gX_codeArgs u, w_heights, w_intKinds, w_refKinds, gX_heap u, gX_newPlaces u, gX_globals u, gX_frameMethod u, gX_framePlace u, gX_cells u)
theorem mX_0 (u : SX) : u = mX (gX_faultPlace u) (gX_ops u) (gX_operands u) (gX_lengths u) (gX_catchFrom u) (gX_catchTo u) (gX_catchGoal u) (gX_refMaps u) (gX_bodyHeights u) (gX_frameWords u) (gX_codeOps u) (gX_heights u) (gX_intKinds u) (gX_refKinds u) u := rfl
theorem mX_faultPlace (w_faultPlace : Int32) (w_ops : Nat → Int32) (w_operands : Nat → Int32) (w_lengths : Nat → Int32) (w_catchFrom : Nat → Int32) (w_catchTo : Nat → Int32) (w_catchGoal : Nat → Int32) (w_refMaps : Nat → Int32) (w_bodyHeights : Nat → Int32) (w_frameWords : Nat → Int32) (w_codeOps : Nat → Int32) (w_heights : Nat → Int32) (w_intKinds : Nat → Int32) (w_refKinds : Nat → Int32) (u : SX) : gX_faultPlace (mX w_faultPlace w_ops w_operands w_lengths w_catchFrom w_catchTo w_catchGoal w_refMaps w_bodyHeights w_frameWords w_codeOps w_heights w_intKinds w_refKinds u) = w_faultPlace := rfl
theorem mX_heapEnd (w_faultPlace : Int32) (w_ops : Nat → Int32) (w_operands : Nat → Int32) (w_lengths : Nat → Int32) (w_catchFrom : Nat → Int32) (w_catchTo : Nat → Int32) (w_catchGoal : Nat → Int32) (w_refMaps : Nat → Int32) (w_bodyHeights : Nat → Int32) (w_frameWords : Nat → Int32) (w_codeOps : Nat → Int32) (w_heights : Nat → Int32) (w_intKinds : Nat → Int32) (w_refKinds : Nat → Int32) (u : SX) : gX_heapEnd (mX w_faultPlace w_ops w_operands w_lengths w_catchFrom w_catchTo w_catchGoal w_refMaps w_bodyHeights w_frameWords w_codeOps w_heights w_intKinds w_refKinds u) = gX_heapEnd u := rfl
theorem mX_frames (w_faultPlace : Int32) (w_ops : Nat → Int32) (w_operands : Nat → Int32) (w_lengths : Nat → Int32) (w_catchFrom : Nat → Int32) (w_catchTo : Nat → Int32) (w_catchGoal : Nat → Int32) (w_refMaps : Nat → Int32) (w_bodyHeights : Nat → Int32) (w_frameWords : Nat → Int32) (w_codeOps : Nat → Int32) (w_heights : Nat → Int32) (w_intKinds : Nat → Int32) (w_refKinds : Nat → Int32) (u : SX) : gX_frames (mX w_faultPlace w_ops w_operands w_lengths w_catchFrom w_catchTo w_catchGoal w_refMaps w_bodyHeights w_frameWords w_codeOps w_heights w_intKinds w_refKinds u) = gX_frames u := rfl
theorem mX_frameWordsUsed (w_faultPlace : Int32) (w_ops : Nat → Int32) (w_operands : Nat → Int32) (w_lengths : Nat → Int32) (w_catchFrom : Nat → Int32) (w_catchTo : Nat → Int32) (w_catchGoal : Nat → Int32) (w_refMaps : Nat → Int32) (w_bodyHeights : Nat → Int32) (w_frameWords : Nat → Int32) (w_codeOps : Nat → Int32) (w_heights : Nat → Int32) (w_intKinds : Nat → Int32) (w_refKinds : Nat → Int32) (u : SX) : gX_frameWordsUsed (mX w_faultPlace w_ops w_operands w_lengths w_catchFrom w_catchTo w_catchGoal w_refMaps w_bodyHeights w_frameWords w_codeOps w_heights w_intKinds w_refKinds u) = gX_frameWordsUsed u := rfl
theorem mX_wanted (w_faultPlace : Int32) (w_ops : Nat → Int32) (w_operands : Nat → Int32) (w_lengths : Nat → Int32) (w_catchFrom : Nat → Int32) (w_catchTo : Nat → Int32) (w_catchGoal : Nat → Int32) (w_refMaps : Nat → Int32) (w_bodyHeights : Nat → Int32) (w_frameWords : Nat → Int32) (w_codeOps : Nat → Int32) (w_heights : Nat → Int32) (w_intKinds : Nat → Int32) (w_refKinds : Nat → Int32) (u : SX) : gX_wanted (mX w_faultPlace w_ops w_operands w_lengths w_catchFrom w_catchTo w_catchGoal w_refMaps w_bodyHeights w_frameWords w_codeOps w_heights w_intKinds w_refKinds u) = gX_wanted u := rfl
theorem mX_outcome (w_faultPlace : Int32) (w_ops : Nat → Int32) (w_operands : Nat → Int32) (w_lengths : Nat → Int32) (w_catchFrom : Nat → Int32) (w_catchTo : Nat → Int32) (w_catchGoal : Nat → Int32) (w_refMaps : Nat → Int32) (w_bodyHeights : Nat → Int32) (w_frameWords : Nat → Int32) (w_codeOps : Nat → Int32) (w_heights : Nat → Int32) (w_intKinds : Nat → Int32) (w_refKinds : Nat → Int32) (u : SX) : gX_outcome (mX w_faultPlace w_ops w_operands w_lengths w_catchFrom w_catchTo w_catchGoal w_refMaps w_bodyHeights w_frameWords w_codeOps w_heights w_intKinds w_refKinds u) = gX_outcome u := rfl
theorem mX_lastResult (w_faultPlace : Int32) (w_ops : Nat → Int32) (w_operands : Nat → Int32) (w_lengths : Nat → Int32) (w_catchFrom : Nat → Int32) (w_catchTo : Nat → Int32) (w_catchGoal : Nat → Int32) (w_refMaps : Nat → Int32) (w_bodyHeights : Nat → Int32) (w_frameWords : Nat → Int32) (w_codeOps : Nat → Int32) (w_heights : Nat → Int32) (w_intKinds : Nat → Int32) (w_refKinds : Nat → Int32) (u : SX) : gX_lastResult (mX w_faultPlace w_ops w_operands w_lengths w_catchFrom w_catchTo w_catchGoal w_refMaps w_bodyHeights w_frameWords w_codeOps w_heights w_intKinds w_refKinds u) = gX_lastResult u := rfl
theorem mX_lastOrigin (w_faultPlace : Int32) (w_ops : Nat → Int32) (w_operands : Nat → Int32) (w_lengths : Nat → Int32) (w_catchFrom : Nat → Int32) (w_catchTo : Nat → Int32) (w_catchGoal : Nat → Int32) (w_refMaps : Nat → Int32) (w_bodyHeights : Nat → Int32) (w_frameWords : Nat → Int32) (w_codeOps : Nat → Int32) (w_heights : Nat → Int32) (w_intKinds : Nat → Int32) (w_refKinds : Nat → Int32) (u : SX) : gX_lastOrigin (mX w_faultPlace w_ops w_operands w_lengths w_catchFrom w_catchTo w_catchGoal w_refMaps w_bodyHeights w_frameWords w_codeOps w_heights w_intKinds w_refKinds u) = gX_lastOrigin u := rfl
theorem mX_done (w_faultPlace : Int32) (w_ops : Nat → Int32) (w_operands : Nat → Int32) (w_lengths : Nat → Int32) (w_catchFrom : Nat → Int32) (w_catchTo : Nat → Int32) (w_catchGoal : Nat → Int32) (w_refMaps : Nat → Int32) (w_bodyHeights : Nat → Int32) (w_frameWords : Nat → Int32) (w_codeOps : Nat → Int32) (w_heights : Nat → Int32) (w_intKinds : Nat → Int32) (w_refKinds : Nat → Int32) (u : SX) : gX_done (mX w_faultPlace w_ops w_operands w_lengths w_catchFrom w_catchTo w_catchGoal w_refMaps w_bodyHeights w_frameWords w_codeOps w_heights w_intKinds w_refKinds u) = gX_done u := rfl
theorem mX_collections (w_faultPlace : Int32) (w_ops : Nat → Int32) (w_operands : Nat → Int32) (w_lengths : Nat → Int32) (w_catchFrom : Nat → Int32) (w_catchTo : Nat → Int32) (w_catchGoal : Nat → Int32) (w_refMaps : Nat → Int32) (w_bodyHeights : Nat → Int32) (w_frameWords : Nat → Int32) (w_codeOps : Nat → Int32) (w_heights : Nat → Int32) (w_intKinds : Nat → Int32) (w_refKinds : Nat → Int32) (u : SX) : gX_collections (mX w_faultPlace w_ops w_operands w_lengths w_catchFrom w_catchTo w_catchGoal w_refMaps w_bodyHeights w_frameWords w_codeOps w_heights w_intKinds w_refKinds u) = gX_collections u := rfl
theorem mX_stayed (w_faultPlace : Int32) (w_ops : Nat → Int32) (w_operands : Nat → Int32) (w_lengths : Nat → Int32) (w_catchFrom : Nat → Int32) (w_catchTo : Nat → Int32) (w_catchGoal : Nat → Int32) (w_refMaps : Nat → Int32) (w_bodyHeights : Nat → Int32) (w_frameWords : Nat → Int32) (w_codeOps : Nat → Int32) (w_heights : Nat → Int32) (w_intKinds : Nat → Int32) (w_refKinds : Nat → Int32) (u : SX) : gX_stayed (mX w_faultPlace w_ops w_operands w_lengths w_catchFrom w_catchTo w_catchGoal w_refMaps w_bodyHeights w_frameWords w_codeOps w_heights w_intKinds w_refKinds u) = gX_stayed u := rfl
theorem mX_turnedCount (w_faultPlace : Int32) (w_ops : Nat → Int32) (w_operands : Nat → Int32) (w_lengths : Nat → Int32) (w_catchFrom : Nat → Int32) (w_catchTo : Nat → Int32) (w_catchGoal : Nat → Int32) (w_refMaps : Nat → Int32) (w_bodyHeights : Nat → Int32) (w_frameWords : Nat → Int32) (w_codeOps : Nat → Int32) (w_heights : Nat → Int32) (w_intKinds : Nat → Int32) (w_refKinds : Nat → Int32) (u : SX) : gX_turnedCount (mX w_faultPlace w_ops w_operands w_lengths w_catchFrom w_catchTo w_catchGoal w_refMaps w_bodyHeights w_frameWords w_codeOps w_heights w_intKinds w_refKinds u) = gX_turnedCount u := rfl
theorem mX_linkedCount (w_faultPlace : Int32) (w_ops : Nat → Int32) (w_operands : Nat → Int32) (w_lengths : Nat → Int32) (w_catchFrom : Nat → Int32) (w_catchTo : Nat → Int32) (w_catchGoal : Nat → Int32) (w_refMaps : Nat → Int32) (w_bodyHeights : Nat → Int32) (w_frameWords : Nat → Int32) (w_codeOps : Nat → Int32) (w_heights : Nat → Int32) (w_intKinds : Nat → Int32) (w_refKinds : Nat → Int32) (u : SX) : gX_linkedCount (mX w_faultPlace w_ops w_operands w_lengths w_catchFrom w_catchTo w_catchGoal w_refMaps w_bodyHeights w_frameWords w_codeOps w_heights w_intKinds w_refKinds u) = gX_linkedCount u := rfl
theorem mX_superOf (w_faultPlace : Int32) (w_ops : Nat → Int32) (w_operands : Nat → Int32) (w_lengths : Nat → Int32) (w_catchFrom : Nat → Int32) (w_catchTo : Nat → Int32) (w_catchGoal : Nat → Int32) (w_refMaps : Nat → Int32) (w_bodyHeights : Nat → Int32) (w_frameWords : Nat → Int32) (w_codeOps : Nat → Int32) (w_heights : Nat → Int32) (w_intKinds : Nat → Int32) (w_refKinds : Nat → Int32) (u : SX) : gX_superOf (mX w_faultPlace w_ops w_operands w_lengths w_catchFrom w_catchTo w_catchGoal w_refMaps w_bodyHeights w_frameWords w_codeOps w_heights w_intKinds w_refKinds u) = gX_superOf u := rfl
theorem mX_fieldCount (w_faultPlace : Int32) (w_ops : Nat → Int32) (w_operands : Nat → Int32) (w_lengths : Nat → Int32) (w_catchFrom : Nat → Int32) (w_catchTo : Nat → Int32) (w_catchGoal : Nat → Int32) (w_refMaps : Nat → Int32) (w_bodyHeights : Nat → Int32) (w_frameWords : Nat → Int32) (w_codeOps : Nat → Int32) (w_heights : Nat → Int32) (w_intKinds : Nat → Int32) (w_refKinds : Nat → Int32) (u : SX) : gX_fieldCount (mX w_faultPlace w_ops w_operands w_lengths w_catchFrom w_catchTo w_catchGoal w_refMaps w_bodyHeights w_frameWords w_codeOps w_heights w_intKinds w_refKinds u) = gX_fieldCount u := rfl
theorem mX_refFields (w_faultPlace : Int32) (w_ops : Nat → Int32) (w_operands : Nat → Int32) (w_lengths : Nat → Int32) (w_catchFrom : Nat → Int32) (w_catchTo : Nat → Int32) (w_catchGoal : Nat → Int32) (w_refMaps : Nat → Int32) (w_bodyHeights : Nat → Int32) (w_frameWords : Nat → Int32) (w_codeOps : Nat → Int32) (w_heights : Nat → Int32) (w_intKinds : Nat → Int32) (w_refKinds : Nat → Int32) (u : SX) : gX_refFields (mX w_faultPlace w_ops w_operands w_lengths w_catchFrom w_catchTo w_catchGoal w_refMaps w_bodyHeights w_frameWords w_codeOps w_heights w_intKinds w_refKinds u) = gX_refFields u := rfl
theorem mX_ownMethods (w_faultPlace : Int32) (w_ops : Nat → Int32) (w_operands : Nat → Int32) (w_lengths : Nat → Int32) (w_catchFrom : Nat → Int32) (w_catchTo : Nat → Int32) (w_catchGoal : Nat → Int32) (w_refMaps : Nat → Int32) (w_bodyHeights : Nat → Int32) (w_frameWords : Nat → Int32) (w_codeOps : Nat → Int32) (w_heights : Nat → Int32) (w_intKinds : Nat → Int32) (w_refKinds : Nat → Int32) (u : SX) : gX_ownMethods (mX w_faultPlace w_ops w_operands w_lengths w_catchFrom w_catchTo w_catchGoal w_refMaps w_bodyHeights w_frameWords w_codeOps w_heights w_intKinds w_refKinds u) = gX_ownMethods u := rfl
theorem mX_initialisers (w_faultPlace : Int32) (w_ops : Nat → Int32) (w_operands : Nat → Int32) (w_lengths : Nat → Int32) (w_catchFrom : Nat → Int32) (w_catchTo : Nat → Int32) (w_catchGoal : Nat → Int32) (w_refMaps : Nat → Int32) (w_bodyHeights : Nat → Int32) (w_frameWords : Nat → Int32) (w_codeOps : Nat → Int32) (w_heights : Nat → Int32) (w_intKinds : Nat → Int32) (w_refKinds : Nat → Int32) (u : SX) : gX_initialisers (mX w_faultPlace w_ops w_operands w_lengths w_catchFrom w_catchTo w_catchGoal w_refMaps w_bodyHeights w_frameWords w_codeOps w_heights w_intKinds w_refKinds u) = gX_initialisers u := rfl
theorem mX_ready (w_faultPlace : Int32) (w_ops : Nat → Int32) (w_operands : Nat → Int32) (w_lengths : Nat → Int32) (w_catchFrom : Nat → Int32) (w_catchTo : Nat → Int32) (w_catchGoal : Nat → Int32) (w_refMaps : Nat → Int32) (w_bodyHeights : Nat → Int32) (w_frameWords : Nat → Int32) (w_codeOps : Nat → Int32) (w_heights : Nat → Int32) (w_intKinds : Nat → Int32) (w_refKinds : Nat → Int32) (u : SX) : gX_ready (mX w_faultPlace w_ops w_operands w_lengths w_catchFrom w_catchTo w_catchGoal w_refMaps w_bodyHeights w_frameWords w_codeOps w_heights w_intKinds w_refKinds u) = gX_ready u := rfl
theorem mX_ops (w_faultPlace : Int32) (w_ops : Nat → Int32) (w_operands : Nat → Int32) (w_lengths : Nat → Int32) (w_catchFrom : Nat → Int32) (w_catchTo : Nat → Int32) (w_catchGoal : Nat → Int32) (w_refMaps : Nat → Int32) (w_bodyHeights : Nat → Int32) (w_frameWords : Nat → Int32) (w_codeOps : Nat → Int32) (w_heights : Nat → Int32) (w_intKinds : Nat → Int32) (w_refKinds : Nat → Int32) (u : SX) : gX_ops (mX w_faultPlace w_ops w_operands w_lengths w_catchFrom w_catchTo w_catchGoal w_refMaps w_bodyHeights w_frameWords w_codeOps w_heights w_intKinds w_refKinds u) = w_ops := rfl
theorem mX_operands (w_faultPlace : Int32) (w_ops : Nat → Int32) (w_operands : Nat → Int32) (w_lengths : Nat → Int32) (w_catchFrom : Nat → Int32) (w_catchTo : Nat → Int32) (w_catchGoal : Nat → Int32) (w_refMaps : Nat → Int32) (w_bodyHeights : Nat → Int32) (w_frameWords : Nat → Int32) (w_codeOps : Nat → Int32) (w_heights : Nat → Int32) (w_intKinds : Nat → Int32) (w_refKinds : Nat → Int32) (u : SX) : gX_operands (mX w_faultPlace w_ops w_operands w_lengths w_catchFrom w_catchTo w_catchGoal w_refMaps w_bodyHeights w_frameWords w_codeOps w_heights w_intKinds w_refKinds u) = w_operands := rfl
theorem mX_lengths (w_faultPlace : Int32) (w_ops : Nat → Int32) (w_operands : Nat → Int32) (w_lengths : Nat → Int32) (w_catchFrom : Nat → Int32) (w_catchTo : Nat → Int32) (w_catchGoal : Nat → Int32) (w_refMaps : Nat → Int32) (w_bodyHeights : Nat → Int32) (w_frameWords : Nat → Int32) (w_codeOps : Nat → Int32) (w_heights : Nat → Int32) (w_intKinds : Nat → Int32) (w_refKinds : Nat → Int32) (u : SX) : gX_lengths (mX w_faultPlace w_ops w_operands w_lengths w_catchFrom w_catchTo w_catchGoal w_refMaps w_bodyHeights w_frameWords w_codeOps w_heights w_intKinds w_refKinds u) = w_lengths := rfl
theorem mX_catchFrom (w_faultPlace : Int32) (w_ops : Nat → Int32) (w_operands : Nat → Int32) (w_lengths : Nat → Int32) (w_catchFrom : Nat → Int32) (w_catchTo : Nat → Int32) (w_catchGoal : Nat → Int32) (w_refMaps : Nat → Int32) (w_bodyHeights : Nat → Int32) (w_frameWords : Nat → Int32) (w_codeOps : Nat → Int32) (w_heights : Nat → Int32) (w_intKinds : Nat → Int32) (w_refKinds : Nat → Int32) (u : SX) : gX_catchFrom (mX w_faultPlace w_ops w_operands w_lengths w_catchFrom w_catchTo w_catchGoal w_refMaps w_bodyHeights w_frameWords w_codeOps w_heights w_intKinds w_refKinds u) = w_catchFrom := rfl
theorem mX_catchTo (w_faultPlace : Int32) (w_ops : Nat → Int32) (w_operands : Nat → Int32) (w_lengths : Nat → Int32) (w_catchFrom : Nat → Int32) (w_catchTo : Nat → Int32) (w_catchGoal : Nat → Int32) (w_refMaps : Nat → Int32) (w_bodyHeights : Nat → Int32) (w_frameWords : Nat → Int32) (w_codeOps : Nat → Int32) (w_heights : Nat → Int32) (w_intKinds : Nat → Int32) (w_refKinds : Nat → Int32) (u : SX) : gX_catchTo (mX w_faultPlace w_ops w_operands w_lengths w_catchFrom w_catchTo w_catchGoal w_refMaps w_bodyHeights w_frameWords w_codeOps w_heights w_intKinds w_refKinds u) = w_catchTo := rfl
theorem mX_catchGoal (w_faultPlace : Int32) (w_ops : Nat → Int32) (w_operands : Nat → Int32) (w_lengths : Nat → Int32) (w_catchFrom : Nat → Int32) (w_catchTo : Nat → Int32) (w_catchGoal : Nat → Int32) (w_refMaps : Nat → Int32) (w_bodyHeights : Nat → Int32) (w_frameWords : Nat → Int32) (w_codeOps : Nat → Int32) (w_heights : Nat → Int32) (w_intKinds : Nat → Int32) (w_refKinds : Nat → Int32) (u : SX) : gX_catchGoal (mX w_faultPlace w_ops w_operands w_lengths w_catchFrom w_catchTo w_catchGoal w_refMaps w_bodyHeights w_frameWords w_codeOps w_heights w_intKinds w_refKinds u) = w_catchGoal := rfl
theorem mX_refMaps (w_faultPlace : Int32) (w_ops : Nat → Int32) (w_operands : Nat → Int32) (w_lengths : Nat → Int32) (w_catchFrom : Nat → Int32) (w_catchTo : Nat → Int32) (w_catchGoal : Nat → Int32) (w_refMaps : Nat → Int32) (w_bodyHeights : Nat → Int32) (w_frameWords : Nat → Int32) (w_codeOps : Nat → Int32) (w_heights : Nat → Int32) (w_intKinds : Nat → Int32) (w_refKinds : Nat → Int32) (u : SX) : gX_refMaps (mX w_faultPlace w_ops w_operands w_lengths w_catchFrom w_catchTo w_catchGoal w_refMaps w_bodyHeights w_frameWords w_codeOps w_heights w_intKinds w_refKinds u) = w_refMaps := rfl
theorem mX_bodyHeights (w_faultPlace : Int32) (w_ops : Nat → Int32) (w_operands : Nat → Int32) (w_lengths : Nat → Int32) (w_catchFrom : Nat → Int32) (w_catchTo : Nat → Int32) (w_catchGoal : Nat → Int32) (w_refMaps : Nat → Int32) (w_bodyHeights : Nat → Int32) (w_frameWords : Nat → Int32) (w_codeOps : Nat → Int32) (w_heights : Nat → Int32) (w_intKinds : Nat → Int32) (w_refKinds : Nat → Int32) (u : SX) : gX_bodyHeights (mX w_faultPlace w_ops w_operands w_lengths w_catchFrom w_catchTo w_catchGoal w_refMaps w_bodyHeights w_frameWords w_codeOps w_heights w_intKinds w_refKinds u) = w_bodyHeights := rfl
theorem mX_frameWords (w_faultPlace : Int32) (w_ops : Nat → Int32) (w_operands : Nat → Int32) (w_lengths : Nat → Int32) (w_catchFrom : Nat → Int32) (w_catchTo : Nat → Int32) (w_catchGoal : Nat → Int32) (w_refMaps : Nat → Int32) (w_bodyHeights : Nat → Int32) (w_frameWords : Nat → Int32) (w_codeOps : Nat → Int32) (w_heights : Nat → Int32) (w_intKinds : Nat → Int32) (w_refKinds : Nat → Int32) (u : SX) : gX_frameWords (mX w_faultPlace w_ops w_operands w_lengths w_catchFrom w_catchTo w_catchGoal w_refMaps w_bodyHeights w_frameWords w_codeOps w_heights w_intKinds w_refKinds u) = w_frameWords := rfl
theorem mX_codeOps (w_faultPlace : Int32) (w_ops : Nat → Int32) (w_operands : Nat → Int32) (w_lengths : Nat → Int32) (w_catchFrom : Nat → Int32) (w_catchTo : Nat → Int32) (w_catchGoal : Nat → Int32) (w_refMaps : Nat → Int32) (w_bodyHeights : Nat → Int32) (w_frameWords : Nat → Int32) (w_codeOps : Nat → Int32) (w_heights : Nat → Int32) (w_intKinds : Nat → Int32) (w_refKinds : Nat → Int32) (u : SX) : gX_codeOps (mX w_faultPlace w_ops w_operands w_lengths w_catchFrom w_catchTo w_catchGoal w_refMaps w_bodyHeights w_frameWords w_codeOps w_heights w_intKinds w_refKinds u) = w_codeOps := rfl
theorem mX_codeCells (w_faultPlace : Int32) (w_ops : Nat → Int32) (w_operands : Nat → Int32) (w_lengths : Nat → Int32) (w_catchFrom : Nat → Int32) (w_catchTo : Nat → Int32) (w_catchGoal : Nat → Int32) (w_refMaps : Nat → Int32) (w_bodyHeights : Nat → Int32) (w_frameWords : Nat → Int32) (w_codeOps : Nat → Int32) (w_heights : Nat → Int32) (w_intKinds : Nat → Int32) (w_refKinds : Nat → Int32) (u : SX) : gX_codeCells (mX w_faultPlace w_ops w_operands w_lengths w_catchFrom w_catchTo w_catchGoal w_refMaps w_bodyHeights w_frameWords w_codeOps w_heights w_intKinds w_refKinds u) = gX_codeCells u := rfl
theorem mX_codeArgs (w_faultPlace : Int32) (w_ops : Nat → Int32) (w_operands : Nat → Int32) (w_lengths : Nat → Int32) (w_catchFrom : Nat → Int32) (w_catchTo : Nat → Int32) (w_catchGoal : Nat → Int32) (w_refMaps : Nat → Int32) (w_bodyHeights : Nat → Int32) (w_frameWords : Nat → Int32) (w_codeOps : Nat → Int32) (w_heights : Nat → Int32) (w_intKinds : Nat → Int32) (w_refKinds : Nat → Int32) (u : SX) : gX_codeArgs (mX w_faultPlace w_ops w_operands w_lengths w_catchFrom w_catchTo w_catchGoal w_refMaps w_bodyHeights w_frameWords w_codeOps w_heights w_intKinds w_refKinds u) = gX_codeArgs u := rfl
theorem mX_heights (w_faultPlace : Int32) (w_ops : Nat → Int32) (w_operands : Nat → Int32) (w_lengths : Nat → Int32) (w_catchFrom : Nat → Int32) (w_catchTo : Nat → Int32) (w_catchGoal : Nat → Int32) (w_refMaps : Nat → Int32) (w_bodyHeights : Nat → Int32) (w_frameWords : Nat → Int32) (w_codeOps : Nat → Int32) (w_heights : Nat → Int32) (w_intKinds : Nat → Int32) (w_refKinds : Nat → Int32) (u : SX) : gX_heights (mX w_faultPlace w_ops w_operands w_lengths w_catchFrom w_catchTo w_catchGoal w_refMaps w_bodyHeights w_frameWords w_codeOps w_heights w_intKinds w_refKinds u) = w_heights := rfl
theorem mX_intKinds (w_faultPlace : Int32) (w_ops : Nat → Int32) (w_operands : Nat → Int32) (w_lengths : Nat → Int32) (w_catchFrom : Nat → Int32) (w_catchTo : Nat → Int32) (w_catchGoal : Nat → Int32) (w_refMaps : Nat → Int32) (w_bodyHeights : Nat → Int32) (w_frameWords : Nat → Int32) (w_codeOps : Nat → Int32) (w_heights : Nat → Int32) (w_intKinds : Nat → Int32) (w_refKinds : Nat → Int32) (u : SX) : gX_intKinds (mX w_faultPlace w_ops w_operands w_lengths w_catchFrom w_catchTo w_catchGoal w_refMaps w_bodyHeights w_frameWords w_codeOps w_heights w_intKinds w_refKinds u) = w_intKinds := rfl
theorem mX_refKinds (w_faultPlace : Int32) (w_ops : Nat → Int32) (w_operands : Nat → Int32) (w_lengths : Nat → Int32) (w_catchFrom : Nat → Int32) (w_catchTo : Nat → Int32) (w_catchGoal : Nat → Int32) (w_refMaps : Nat → Int32) (w_bodyHeights : Nat → Int32) (w_frameWords : Nat → Int32) (w_codeOps : Nat → Int32) (w_heights : Nat → Int32) (w_intKinds : Nat → Int32) (w_refKinds : Nat → Int32) (u : SX) : gX_refKinds (mX w_faultPlace w_ops w_operands w_lengths w_catchFrom w_catchTo w_catchGoal w_refMaps w_bodyHeights w_frameWords w_codeOps w_heights w_intKinds w_refKinds u) = w_refKinds := rfl
theorem mX_heap (w_faultPlace : Int32) (w_ops : Nat → Int32) (w_operands : Nat → Int32) (w_lengths : Nat → Int32) (w_catchFrom : Nat → Int32) (w_catchTo : Nat → Int32) (w_catchGoal : Nat → Int32) (w_refMaps : Nat → Int32) (w_bodyHeights : Nat → Int32) (w_frameWords : Nat → Int32) (w_codeOps : Nat → Int32) (w_heights : Nat → Int32) (w_intKinds : Nat → Int32) (w_refKinds : Nat → Int32) (u : SX) : gX_heap (mX w_faultPlace w_ops w_operands w_lengths w_catchFrom w_catchTo w_catchGoal w_refMaps w_bodyHeights w_frameWords w_codeOps w_heights w_intKinds w_refKinds u) = gX_heap u := rfl
theorem mX_newPlaces (w_faultPlace : Int32) (w_ops : Nat → Int32) (w_operands : Nat → Int32) (w_lengths : Nat → Int32) (w_catchFrom : Nat → Int32) (w_catchTo : Nat → Int32) (w_catchGoal : Nat → Int32) (w_refMaps : Nat → Int32) (w_bodyHeights : Nat → Int32) (w_frameWords : Nat → Int32) (w_codeOps : Nat → Int32) (w_heights : Nat → Int32) (w_intKinds : Nat → Int32) (w_refKinds : Nat → Int32) (u : SX) : gX_newPlaces (mX w_faultPlace w_ops w_operands w_lengths w_catchFrom w_catchTo w_catchGoal w_refMaps w_bodyHeights w_frameWords w_codeOps w_heights w_intKinds w_refKinds u) = gX_newPlaces u := rfl
theorem mX_globals (w_faultPlace : Int32) (w_ops : Nat → Int32) (w_operands : Nat → Int32) (w_lengths : Nat → Int32) (w_catchFrom : Nat → Int32) (w_catchTo : Nat → Int32) (w_catchGoal : Nat → Int32) (w_refMaps : Nat → Int32) (w_bodyHeights : Nat → Int32) (w_frameWords : Nat → Int32) (w_codeOps : Nat → Int32) (w_heights : Nat → Int32) (w_intKinds : Nat → Int32) (w_refKinds : Nat → Int32) (u : SX) : gX_globals (mX w_faultPlace w_ops w_operands w_lengths w_catchFrom w_catchTo w_catchGoal w_refMaps w_bodyHeights w_frameWords w_codeOps w_heights w_intKinds w_refKinds u) = gX_globals u := rfl
theorem mX_frameMethod (w_faultPlace : Int32) (w_ops : Nat → Int32) (w_operands : Nat → Int32) (w_lengths : Nat → Int32) (w_catchFrom : Nat → Int32) (w_catchTo : Nat → Int32) (w_catchGoal : Nat → Int32) (w_refMaps : Nat → Int32) (w_bodyHeights : Nat → Int32) (w_frameWords : Nat → Int32) (w_codeOps : Nat → Int32) (w_heights : Nat → Int32) (w_intKinds : Nat → Int32) (w_refKinds : Nat → Int32) (u : SX) : gX_frameMethod (mX w_faultPlace w_ops w_operands w_lengths w_catchFrom w_catchTo w_catchGoal w_refMaps w_bodyHeights w_frameWords w_codeOps w_heights w_intKinds w_refKinds u) = gX_frameMethod u := rfl
theorem mX_framePlace (w_faultPlace : Int32) (w_ops : Nat → Int32) (w_operands : Nat → Int32) (w_lengths : Nat → Int32) (w_catchFrom : Nat → Int32) (w_catchTo : Nat → Int32) (w_catchGoal : Nat → Int32) (w_refMaps : Nat → Int32) (w_bodyHeights : Nat → Int32) (w_frameWords : Nat → Int32) (w_codeOps : Nat → Int32) (w_heights : Nat → Int32) (w_intKinds : Nat → Int32) (w_refKinds : Nat → Int32) (u : SX) : gX_framePlace (mX w_faultPlace w_ops w_operands w_lengths w_catchFrom w_catchTo w_catchGoal w_refMaps w_bodyHeights w_frameWords w_codeOps w_heights w_intKinds w_refKinds u) = gX_framePlace u := rfl
theorem mX_cells (w_faultPlace : Int32) (w_ops : Nat → Int32) (w_operands : Nat → Int32) (w_lengths : Nat → Int32) (w_catchFrom : Nat → Int32) (w_catchTo : Nat → Int32) (w_catchGoal : Nat → Int32) (w_refMaps : Nat → Int32) (w_bodyHeights : Nat → Int32) (w_frameWords : Nat → Int32) (w_codeOps : Nat → Int32) (w_heights : Nat → Int32) (w_intKinds : Nat → Int32) (w_refKinds : Nat → Int32) (u : SX) : gX_cells (mX w_faultPlace w_ops w_operands w_lengths w_catchFrom w_catchTo w_catchGoal w_refMaps w_bodyHeights w_frameWords w_codeOps w_heights w_intKinds w_refKinds u) = gX_cells u := rfl
theorem mX__faultPlace (w_faultPlace : Int32) (w_ops : Nat → Int32) (w_operands : Nat → Int32) (w_lengths : Nat → Int32) (w_catchFrom : Nat → Int32) (w_catchTo : Nat → Int32) (w_catchGoal : Nat → Int32) (w_refMaps : Nat → Int32) (w_bodyHeights : Nat → Int32) (w_frameWords : Nat → Int32) (w_codeOps : Nat → Int32) (w_heights : Nat → Int32) (w_intKinds : Nat → Int32) (w_refKinds : Nat → Int32) (z_faultPlace : Int32) (u : SX) : sX_faultPlace z_faultPlace (mX w_faultPlace w_ops w_operands w_lengths w_catchFrom w_catchTo w_catchGoal w_refMaps w_bodyHeights w_frameWords w_codeOps w_heights w_intKinds w_refKinds u) = mX z_faultPlace w_ops w_operands w_lengths w_catchFrom w_catchTo w_catchGoal w_refMaps w_bodyHeights w_frameWords w_codeOps w_heights w_intKinds w_refKinds u := rfl
theorem mX__heights (w_faultPlace : Int32) (w_ops : Nat → Int32) (w_operands : Nat → Int32) (w_lengths : Nat → Int32) (w_catchFrom : Nat → Int32) (w_catchTo : Nat → Int32) (w_catchGoal : Nat → Int32) (w_refMaps : Nat → Int32) (w_bodyHeights : Nat → Int32) (w_frameWords : Nat → Int32) (w_codeOps : Nat → Int32) (w_heights : Nat → Int32) (w_intKinds : Nat → Int32) (w_refKinds : Nat → Int32) (z_heights : Nat → Int32) (u : SX) : sX_heights z_heights (mX w_faultPlace w_ops w_operands w_lengths w_catchFrom w_catchTo w_catchGoal w_refMaps w_bodyHeights w_frameWords w_codeOps w_heights w_intKinds w_refKinds u) = mX w_faultPlace w_ops w_operands w_lengths w_catchFrom w_catchTo w_catchGoal w_refMaps w_bodyHeights w_frameWords w_codeOps z_heights w_intKinds w_refKinds u := rfl
theorem mX__intKinds_refKinds (w_faultPlace : Int32) (w_ops : Nat → Int32) (w_operands : Nat → Int32) (w_lengths : Nat → Int32) (w_catchFrom : Nat → Int32) (w_catchTo : Nat → Int32) (w_catchGoal : Nat → Int32) (w_refMaps : Nat → Int32) (w_bodyHeights : Nat → Int32) (w_frameWords : Nat → Int32) (w_codeOps : Nat → Int32) (w_heights : Nat → Int32) (w_intKinds : Nat → Int32) (w_refKinds : Nat → Int32) (z_intKinds : Nat → Int32) (z_refKinds : Nat → Int32) (u : SX) : sX_intKinds_refKinds z_intKinds z_refKinds (mX w_faultPlace w_ops w_operands w_lengths w_catchFrom w_catchTo w_catchGoal w_refMaps w_bodyHeights w_frameWords w_codeOps w_heights w_intKinds w_refKinds u) = mX w_faultPlace w_ops w_operands w_lengths w_catchFrom w_catchTo w_catchGoal w_refMaps w_bodyHeights w_frameWords w_codeOps w_heights z_intKinds z_refKinds u := rfl
theorem mX__ops_operands (w_faultPlace : Int32) (w_ops : Nat → Int32) (w_operands : Nat → Int32) (w_lengths : Nat → Int32) (w_catchFrom : Nat → Int32) (w_catchTo : Nat → Int32) (w_catchGoal : Nat → Int32) (w_refMaps : Nat → Int32) (w_bodyHeights : Nat → Int32) (w_frameWords : Nat → Int32) (w_codeOps : Nat → Int32) (w_heights : Nat → Int32) (w_intKinds : Nat → Int32) (w_refKinds : Nat → Int32) (z_ops : Nat → Int32) (z_operands : Nat → Int32) (u : SX) : sX_ops_operands z_ops z_operands (mX w_faultPlace w_ops w_operands w_lengths w_catchFrom w_catchTo w_catchGoal w_refMaps w_bodyHeights w_frameWords w_codeOps w_heights w_intKinds w_refKinds u) = mX w_faultPlace z_ops z_operands w_lengths w_catchFrom w_catchTo w_catchGoal w_refMaps w_bodyHeights w_frameWords w_codeOps w_heights w_intKinds w_refKinds u := rfl
theorem mX__refMaps (w_faultPlace : Int32) (w_ops : Nat → Int32) (w_operands : Nat → Int32) (w_lengths : Nat → Int32) (w_catchFrom : Nat → Int32) (w_catchTo : Nat → Int32) (w_catchGoal : Nat → Int32) (w_refMaps : Nat → Int32) (w_bodyHeights : Nat → Int32) (w_frameWords : Nat → Int32) (w_codeOps : Nat → Int32) (w_heights : Nat → Int32) (w_intKinds : Nat → Int32) (w_refKinds : Nat → Int32) (z_refMaps : Nat → Int32) (u : SX) : sX_refMaps z_refMaps (mX w_faultPlace w_ops w_operands w_lengths w_catchFrom w_catchTo w_catchGoal w_refMaps w_bodyHeights w_frameWords w_codeOps w_heights w_intKinds w_refKinds u) = mX w_faultPlace w_ops w_operands w_lengths w_catchFrom w_catchTo w_catchGoal z_refMaps w_bodyHeights w_frameWords w_codeOps w_heights w_intKinds w_refKinds u := rfl
theorem mX__refMaps_bodyHeights (w_faultPlace : Int32) (w_ops : Nat → Int32) (w_operands : Nat → Int32) (w_lengths : Nat → Int32) (w_catchFrom : Nat → Int32) (w_catchTo : Nat → Int32) (w_catchGoal : Nat → Int32) (w_refMaps : Nat → Int32) (w_bodyHeights : Nat → Int32) (w_frameWords : Nat → Int32) (w_codeOps : Nat → Int32) (w_heights : Nat → Int32) (w_intKinds : Nat → Int32) (w_refKinds : Nat → Int32) (z_refMaps : Nat → Int32) (z_bodyHeights : Nat → Int32) (u : SX) : sX_refMaps_bodyHeights z_refMaps z_bodyHeights (mX w_faultPlace w_ops w_operands w_lengths w_catchFrom w_catchTo w_catchGoal w_refMaps w_bodyHeights w_frameWords w_codeOps w_heights w_intKinds w_refKinds u) = mX w_faultPlace w_ops w_operands w_lengths w_catchFrom w_catchTo w_catchGoal z_refMaps z_bodyHeights w_frameWords w_codeOps w_heights w_intKinds w_refKinds u := rfl
theorem mX__lengths_catchFrom_catchTo_catchGoal (w_faultPlace : Int32) (w_ops : Nat → Int32) (w_operands : Nat → Int32) (w_lengths : Nat → Int32) (w_catchFrom : Nat → Int32) (w_catchTo : Nat → Int32) (w_catchGoal : Nat → Int32) (w_refMaps : Nat → Int32) (w_bodyHeights : Nat → Int32) (w_frameWords : Nat → Int32) (w_codeOps : Nat → Int32) (w_heights : Nat → Int32) (w_intKinds : Nat → Int32) (w_refKinds : Nat → Int32) (z_lengths : Nat → Int32) (z_catchFrom : Nat → Int32) (z_catchTo : Nat → Int32) (z_catchGoal : Nat → Int32) (u : SX) : sX_lengths_catchFrom_catchTo_catchGoal z_lengths z_catchFrom z_catchTo z_catchGoal (mX w_faultPlace w_ops w_operands w_lengths w_catchFrom w_catchTo w_catchGoal w_refMaps w_bodyHeights w_frameWords w_codeOps w_heights w_intKinds w_refKinds u) = mX w_faultPlace w_ops w_operands z_lengths z_catchFrom z_catchTo z_catchGoal w_refMaps w_bodyHeights w_frameWords w_codeOps w_heights w_intKinds w_refKinds u := rfl
theorem mX__lengths_catchFrom_catchTo_catchGoal_frameWords (w_faultPlace : Int32) (w_ops : Nat → Int32) (w_operands : Nat → Int32) (w_lengths : Nat → Int32) (w_catchFrom : Nat → Int32) (w_catchTo : Nat → Int32) (w_catchGoal : Nat → Int32) (w_refMaps : Nat → Int32) (w_bodyHeights : Nat → Int32) (w_frameWords : Nat → Int32) (w_codeOps : Nat → Int32) (w_heights : Nat → Int32) (w_intKinds : Nat → Int32) (w_refKinds : Nat → Int32) (z_lengths : Nat → Int32) (z_catchFrom : Nat → Int32) (z_catchTo : Nat → Int32) (z_catchGoal : Nat → Int32) (z_frameWords : Nat → Int32) (u : SX) : sX_lengths_catchFrom_catchTo_catchGoal_frameWords z_lengths z_catchFrom z_catchTo z_catchGoal z_frameWords (mX w_faultPlace w_ops w_operands w_lengths w_catchFrom w_catchTo w_catchGoal w_refMaps w_bodyHeights w_frameWords w_codeOps w_heights w_intKinds w_refKinds u) = mX w_faultPlace w_ops w_operands z_lengths z_catchFrom z_catchTo z_catchGoal w_refMaps w_bodyHeights z_frameWords w_codeOps w_heights w_intKinds w_refKinds u := rfl
theorem mX__codeOps (w_faultPlace : Int32) (w_ops : Nat → Int32) (w_operands : Nat → Int32) (w_lengths : Nat → Int32) (w_catchFrom : Nat → Int32) (w_catchTo : Nat → Int32) (w_catchGoal : Nat → Int32) (w_refMaps : Nat → Int32) (w_bodyHeights : Nat → Int32) (w_frameWords : Nat → Int32) (w_codeOps : Nat → Int32) (w_heights : Nat → Int32) (w_intKinds : Nat → Int32) (w_refKinds : Nat → Int32) (z_codeOps : Nat → Int32) (u : SX) : sX_codeOps z_codeOps (mX w_faultPlace w_ops w_operands w_lengths w_catchFrom w_catchTo w_catchGoal w_refMaps w_bodyHeights w_frameWords w_codeOps w_heights w_intKinds w_refKinds u) = mX w_faultPlace w_ops w_operands w_lengths w_catchFrom w_catchTo w_catchGoal w_refMaps w_bodyHeights w_frameWords z_codeOps w_heights w_intKinds w_refKinds u := rfl
def mY (w_fault : Int32) (w_height : Int32) (w_ops : Nat → Int32) (w_args : Nat → Int32) (w_length : Nat → Int32) (w_from : Nat → Int32) (w_to : Nat → Int32) (w_goal : Nat → Int32) (w_words : Nat → Int32) (w_maps : Nat → Int32) (w_coded : Nat → Int32) (w_linked : Nat → Int32) (w_heights : Nat → Int32) (w_kinds : Nat → Int32) (w_behind : Nat → Int32) (u : SY) : SY := (w_fault, w_height, gY_used u, gY_depth u, gY_room u, gY_steps u, gY_origin u, gY_answer u, gY_collections u, gY_stayed u, gY_codes u, gY_links u, gY_result u, gY_up u, gY_ints u, gY_references u, gY_slots u, gY_first u, gY_ready u, w_ops, w_args, w_length, w_from, w_to, w_goal, w_words, w_maps, w_coded, w_linked, w_heights, w_kinds, w_behind, gY_of u, gY_fields u, gY_globals u, gY_marked u, gY_method u, gY_at u, gY_high u, gY_locals u, gY_stack u)
theorem mY_0 (u : SY) : u = mY (gY_fault u) (gY_height u) (gY_ops u) (gY_args u) (gY_length u) (gY_from u) (gY_to u) (gY_goal u) (gY_words u) (gY_maps u) (gY_coded u) (gY_linked u) (gY_heights u) (gY_kinds u) (gY_behind u) u := rfl
theorem mY_fault (w_fault : Int32) (w_height : Int32) (w_ops : Nat → Int32) (w_args : Nat → Int32) (w_length : Nat → Int32) (w_from : Nat → Int32) (w_to : Nat → Int32) (w_goal : Nat → Int32) (w_words : Nat → Int32) (w_maps : Nat → Int32) (w_coded : Nat → Int32) (w_linked : Nat → Int32) (w_heights : Nat → Int32) (w_kinds : Nat → Int32) (w_behind : Nat → Int32) (u : SY) : gY_fault (mY w_fault w_height w_ops w_args w_length w_from w_to w_goal w_words w_maps w_coded w_linked w_heights w_kinds w_behind u) = w_fault := rfl
theorem mY_height (w_fault : Int32) (w_height : Int32) (w_ops : Nat → Int32) (w_args : Nat → Int32) (w_length : Nat → Int32) (w_from : Nat → Int32) (w_to : Nat → Int32) (w_goal : Nat → Int32) (w_words : Nat → Int32) (w_maps : Nat → Int32) (w_coded : Nat → Int32) (w_linked : Nat → Int32) (w_heights : Nat → Int32) (w_kinds : Nat → Int32) (w_behind : Nat → Int32) (u : SY) : gY_height (mY w_fault w_height w_ops w_args w_length w_from w_to w_goal w_words w_maps w_coded w_linked w_heights w_kinds w_behind u) = w_height := rfl
theorem mY_used (w_fault : Int32) (w_height : Int32) (w_ops : Nat → Int32) (w_args : Nat → Int32) (w_length : Nat → Int32) (w_from : Nat → Int32) (w_to : Nat → Int32) (w_goal : Nat → Int32) (w_words : Nat → Int32) (w_maps : Nat → Int32) (w_coded : Nat → Int32) (w_linked : Nat → Int32) (w_heights : Nat → Int32) (w_kinds : Nat → Int32) (w_behind : Nat → Int32) (u : SY) : gY_used (mY w_fault w_height w_ops w_args w_length w_from w_to w_goal w_words w_maps w_coded w_linked w_heights w_kinds w_behind u) = gY_used u := rfl
theorem mY_depth (w_fault : Int32) (w_height : Int32) (w_ops : Nat → Int32) (w_args : Nat → Int32) (w_length : Nat → Int32) (w_from : Nat → Int32) (w_to : Nat → Int32) (w_goal : Nat → Int32) (w_words : Nat → Int32) (w_maps : Nat → Int32) (w_coded : Nat → Int32) (w_linked : Nat → Int32) (w_heights : Nat → Int32) (w_kinds : Nat → Int32) (w_behind : Nat → Int32) (u : SY) : gY_depth (mY w_fault w_height w_ops w_args w_length w_from w_to w_goal w_words w_maps w_coded w_linked w_heights w_kinds w_behind u) = gY_depth u := rfl
theorem mY_room (w_fault : Int32) (w_height : Int32) (w_ops : Nat → Int32) (w_args : Nat → Int32) (w_length : Nat → Int32) (w_from : Nat → Int32) (w_to : Nat → Int32) (w_goal : Nat → Int32) (w_words : Nat → Int32) (w_maps : Nat → Int32) (w_coded : Nat → Int32) (w_linked : Nat → Int32) (w_heights : Nat → Int32) (w_kinds : Nat → Int32) (w_behind : Nat → Int32) (u : SY) : gY_room (mY w_fault w_height w_ops w_args w_length w_from w_to w_goal w_words w_maps w_coded w_linked w_heights w_kinds w_behind u) = gY_room u := rfl
theorem mY_steps (w_fault : Int32) (w_height : Int32) (w_ops : Nat → Int32) (w_args : Nat → Int32) (w_length : Nat → Int32) (w_from : Nat → Int32) (w_to : Nat → Int32) (w_goal : Nat → Int32) (w_words : Nat → Int32) (w_maps : Nat → Int32) (w_coded : Nat → Int32) (w_linked : Nat → Int32) (w_heights : Nat → Int32) (w_kinds : Nat → Int32) (w_behind : Nat → Int32) (u : SY) : gY_steps (mY w_fault w_height w_ops w_args w_length w_from w_to w_goal w_words w_maps w_coded w_linked w_heights w_kinds w_behind u) = gY_steps u := rfl
theorem mY_origin (w_fault : Int32) (w_height : Int32) (w_ops : Nat → Int32) (w_args : Nat → Int32) (w_length : Nat → Int32) (w_from : Nat → Int32) (w_to : Nat → Int32) (w_goal : Nat → Int32) (w_words : Nat → Int32) (w_maps : Nat → Int32) (w_coded : Nat → Int32) (w_linked : Nat → Int32) (w_heights : Nat → Int32) (w_kinds : Nat → Int32) (w_behind : Nat → Int32) (u : SY) : gY_origin (mY w_fault w_height w_ops w_args w_length w_from w_to w_goal w_words w_maps w_coded w_linked w_heights w_kinds w_behind u) = gY_origin u := rfl
theorem mY_answer (w_fault : Int32) (w_height : Int32) (w_ops : Nat → Int32) (w_args : Nat → Int32) (w_length : Nat → Int32) (w_from : Nat → Int32) (w_to : Nat → Int32) (w_goal : Nat → Int32) (w_words : Nat → Int32) (w_maps : Nat → Int32) (w_coded : Nat → Int32) (w_linked : Nat → Int32) (w_heights : Nat → Int32) (w_kinds : Nat → Int32) (w_behind : Nat → Int32) (u : SY) : gY_answer (mY w_fault w_height w_ops w_args w_length w_from w_to w_goal w_words w_maps w_coded w_linked w_heights w_kinds w_behind u) = gY_answer u := rfl
theorem mY_collections (w_fault : Int32) (w_height : Int32) (w_ops : Nat → Int32) (w_args : Nat → Int32) (w_length : Nat → Int32) (w_from : Nat → Int32) (w_to : Nat → Int32) (w_goal : Nat → Int32) (w_words : Nat → Int32) (w_maps : Nat → Int32) (w_coded : Nat → Int32) (w_linked : Nat → Int32) (w_heights : Nat → Int32) (w_kinds : Nat → Int32) (w_behind : Nat → Int32) (u : SY) : gY_collections (mY w_fault w_height w_ops w_args w_length w_from w_to w_goal w_words w_maps w_coded w_linked w_heights w_kinds w_behind u) = gY_collections u := rfl
theorem mY_stayed (w_fault : Int32) (w_height : Int32) (w_ops : Nat → Int32) (w_args : Nat → Int32) (w_length : Nat → Int32) (w_from : Nat → Int32) (w_to : Nat → Int32) (w_goal : Nat → Int32) (w_words : Nat → Int32) (w_maps : Nat → Int32) (w_coded : Nat → Int32) (w_linked : Nat → Int32) (w_heights : Nat → Int32) (w_kinds : Nat → Int32) (w_behind : Nat → Int32) (u : SY) : gY_stayed (mY w_fault w_height w_ops w_args w_length w_from w_to w_goal w_words w_maps w_coded w_linked w_heights w_kinds w_behind u) = gY_stayed u := rfl
theorem mY_codes (w_fault : Int32) (w_height : Int32) (w_ops : Nat → Int32) (w_args : Nat → Int32) (w_length : Nat → Int32) (w_from : Nat → Int32) (w_to : Nat → Int32) (w_goal : Nat → Int32) (w_words : Nat → Int32) (w_maps : Nat → Int32) (w_coded : Nat → Int32) (w_linked : Nat → Int32) (w_heights : Nat → Int32) (w_kinds : Nat → Int32) (w_behind : Nat → Int32) (u : SY) : gY_codes (mY w_fault w_height w_ops w_args w_length w_from w_to w_goal w_words w_maps w_coded w_linked w_heights w_kinds w_behind u) = gY_codes u := rfl
theorem mY_links (w_fault : Int32) (w_height : Int32) (w_ops : Nat → Int32) (w_args : Nat → Int32) (w_length : Nat → Int32) (w_from : Nat → Int32) (w_to : Nat → Int32) (w_goal : Nat → Int32) (w_words : Nat → Int32) (w_maps : Nat → Int32) (w_coded : Nat → Int32) (w_linked : Nat → Int32) (w_heights : Nat → Int32) (w_kinds : Nat → Int32) (w_behind : Nat → Int32) (u : SY) : gY_links (mY w_fault w_height w_ops w_args w_length w_from w_to w_goal w_words w_maps w_coded w_linked w_heights w_kinds w_behind u) = gY_links u := rfl
theorem mY_result (w_fault : Int32) (w_height : Int32) (w_ops : Nat → Int32) (w_args : Nat → Int32) (w_length : Nat → Int32) (w_from : Nat → Int32) (w_to : Nat → Int32) (w_goal : Nat → Int32) (w_words : Nat → Int32) (w_maps : Nat → Int32) (w_coded : Nat → Int32) (w_linked : Nat → Int32) (w_heights : Nat → Int32) (w_kinds : Nat → Int32) (w_behind : Nat → Int32) (u : SY) : gY_result (mY w_fault w_height w_ops w_args w_length w_from w_to w_goal w_words w_maps w_coded w_linked w_heights w_kinds w_behind u) = gY_result u := rfl
theorem mY_up (w_fault : Int32) (w_height : Int32) (w_ops : Nat → Int32) (w_args : Nat → Int32) (w_length : Nat → Int32) (w_from : Nat → Int32) (w_to : Nat → Int32) (w_goal : Nat → Int32) (w_words : Nat → Int32) (w_maps : Nat → Int32) (w_coded : Nat → Int32) (w_linked : Nat → Int32) (w_heights : Nat → Int32) (w_kinds : Nat → Int32) (w_behind : Nat → Int32) (u : SY) : gY_up (mY w_fault w_height w_ops w_args w_length w_from w_to w_goal w_words w_maps w_coded w_linked w_heights w_kinds w_behind u) = gY_up u := rfl
theorem mY_ints (w_fault : Int32) (w_height : Int32) (w_ops : Nat → Int32) (w_args : Nat → Int32) (w_length : Nat → Int32) (w_from : Nat → Int32) (w_to : Nat → Int32) (w_goal : Nat → Int32) (w_words : Nat → Int32) (w_maps : Nat → Int32) (w_coded : Nat → Int32) (w_linked : Nat → Int32) (w_heights : Nat → Int32) (w_kinds : Nat → Int32) (w_behind : Nat → Int32) (u : SY) : gY_ints (mY w_fault w_height w_ops w_args w_length w_from w_to w_goal w_words w_maps w_coded w_linked w_heights w_kinds w_behind u) = gY_ints u := rfl
theorem mY_references (w_fault : Int32) (w_height : Int32) (w_ops : Nat → Int32) (w_args : Nat → Int32) (w_length : Nat → Int32) (w_from : Nat → Int32) (w_to : Nat → Int32) (w_goal : Nat → Int32) (w_words : Nat → Int32) (w_maps : Nat → Int32) (w_coded : Nat → Int32) (w_linked : Nat → Int32) (w_heights : Nat → Int32) (w_kinds : Nat → Int32) (w_behind : Nat → Int32) (u : SY) : gY_references (mY w_fault w_height w_ops w_args w_length w_from w_to w_goal w_words w_maps w_coded w_linked w_heights w_kinds w_behind u) = gY_references u := rfl
theorem mY_slots (w_fault : Int32) (w_height : Int32) (w_ops : Nat → Int32) (w_args : Nat → Int32) (w_length : Nat → Int32) (w_from : Nat → Int32) (w_to : Nat → Int32) (w_goal : Nat → Int32) (w_words : Nat → Int32) (w_maps : Nat → Int32) (w_coded : Nat → Int32) (w_linked : Nat → Int32) (w_heights : Nat → Int32) (w_kinds : Nat → Int32) (w_behind : Nat → Int32) (u : SY) : gY_slots (mY w_fault w_height w_ops w_args w_length w_from w_to w_goal w_words w_maps w_coded w_linked w_heights w_kinds w_behind u) = gY_slots u := rfl
theorem mY_first (w_fault : Int32) (w_height : Int32) (w_ops : Nat → Int32) (w_args : Nat → Int32) (w_length : Nat → Int32) (w_from : Nat → Int32) (w_to : Nat → Int32) (w_goal : Nat → Int32) (w_words : Nat → Int32) (w_maps : Nat → Int32) (w_coded : Nat → Int32) (w_linked : Nat → Int32) (w_heights : Nat → Int32) (w_kinds : Nat → Int32) (w_behind : Nat → Int32) (u : SY) : gY_first (mY w_fault w_height w_ops w_args w_length w_from w_to w_goal w_words w_maps w_coded w_linked w_heights w_kinds w_behind u) = gY_first u := rfl
theorem mY_ready (w_fault : Int32) (w_height : Int32) (w_ops : Nat → Int32) (w_args : Nat → Int32) (w_length : Nat → Int32) (w_from : Nat → Int32) (w_to : Nat → Int32) (w_goal : Nat → Int32) (w_words : Nat → Int32) (w_maps : Nat → Int32) (w_coded : Nat → Int32) (w_linked : Nat → Int32) (w_heights : Nat → Int32) (w_kinds : Nat → Int32) (w_behind : Nat → Int32) (u : SY) : gY_ready (mY w_fault w_height w_ops w_args w_length w_from w_to w_goal w_words w_maps w_coded w_linked w_heights w_kinds w_behind u) = gY_ready u := rfl
theorem mY_ops (w_fault : Int32) (w_height : Int32) (w_ops : Nat → Int32) (w_args : Nat → Int32) (w_length : Nat → Int32) (w_from : Nat → Int32) (w_to : Nat → Int32) (w_goal : Nat → Int32) (w_words : Nat → Int32) (w_maps : Nat → Int32) (w_coded : Nat → Int32) (w_linked : Nat → Int32) (w_heights : Nat → Int32) (w_kinds : Nat → Int32) (w_behind : Nat → Int32) (u : SY) : gY_ops (mY w_fault w_height w_ops w_args w_length w_from w_to w_goal w_words w_maps w_coded w_linked w_heights w_kinds w_behind u) = w_ops := rfl
theorem mY_args (w_fault : Int32) (w_height : Int32) (w_ops : Nat → Int32) (w_args : Nat → Int32) (w_length : Nat → Int32) (w_from : Nat → Int32) (w_to : Nat → Int32) (w_goal : Nat → Int32) (w_words : Nat → Int32) (w_maps : Nat → Int32) (w_coded : Nat → Int32) (w_linked : Nat → Int32) (w_heights : Nat → Int32) (w_kinds : Nat → Int32) (w_behind : Nat → Int32) (u : SY) : gY_args (mY w_fault w_height w_ops w_args w_length w_from w_to w_goal w_words w_maps w_coded w_linked w_heights w_kinds w_behind u) = w_args := rfl
theorem mY_length (w_fault : Int32) (w_height : Int32) (w_ops : Nat → Int32) (w_args : Nat → Int32) (w_length : Nat → Int32) (w_from : Nat → Int32) (w_to : Nat → Int32) (w_goal : Nat → Int32) (w_words : Nat → Int32) (w_maps : Nat → Int32) (w_coded : Nat → Int32) (w_linked : Nat → Int32) (w_heights : Nat → Int32) (w_kinds : Nat → Int32) (w_behind : Nat → Int32) (u : SY) : gY_length (mY w_fault w_height w_ops w_args w_length w_from w_to w_goal w_words w_maps w_coded w_linked w_heights w_kinds w_behind u) = w_length := rfl
theorem mY_from (w_fault : Int32) (w_height : Int32) (w_ops : Nat → Int32) (w_args : Nat → Int32) (w_length : Nat → Int32) (w_from : Nat → Int32) (w_to : Nat → Int32) (w_goal : Nat → Int32) (w_words : Nat → Int32) (w_maps : Nat → Int32) (w_coded : Nat → Int32) (w_linked : Nat → Int32) (w_heights : Nat → Int32) (w_kinds : Nat → Int32) (w_behind : Nat → Int32) (u : SY) : gY_from (mY w_fault w_height w_ops w_args w_length w_from w_to w_goal w_words w_maps w_coded w_linked w_heights w_kinds w_behind u) = w_from := rfl
theorem mY_to (w_fault : Int32) (w_height : Int32) (w_ops : Nat → Int32) (w_args : Nat → Int32) (w_length : Nat → Int32) (w_from : Nat → Int32) (w_to : Nat → Int32) (w_goal : Nat → Int32) (w_words : Nat → Int32) (w_maps : Nat → Int32) (w_coded : Nat → Int32) (w_linked : Nat → Int32) (w_heights : Nat → Int32) (w_kinds : Nat → Int32) (w_behind : Nat → Int32) (u : SY) : gY_to (mY w_fault w_height w_ops w_args w_length w_from w_to w_goal w_words w_maps w_coded w_linked w_heights w_kinds w_behind u) = w_to := rfl
theorem mY_goal (w_fault : Int32) (w_height : Int32) (w_ops : Nat → Int32) (w_args : Nat → Int32) (w_length : Nat → Int32) (w_from : Nat → Int32) (w_to : Nat → Int32) (w_goal : Nat → Int32) (w_words : Nat → Int32) (w_maps : Nat → Int32) (w_coded : Nat → Int32) (w_linked : Nat → Int32) (w_heights : Nat → Int32) (w_kinds : Nat → Int32) (w_behind : Nat → Int32) (u : SY) : gY_goal (mY w_fault w_height w_ops w_args w_length w_from w_to w_goal w_words w_maps w_coded w_linked w_heights w_kinds w_behind u) = w_goal := rfl
theorem mY_words (w_fault : Int32) (w_height : Int32) (w_ops : Nat → Int32) (w_args : Nat → Int32) (w_length : Nat → Int32) (w_from : Nat → Int32) (w_to : Nat → Int32) (w_goal : Nat → Int32) (w_words : Nat → Int32) (w_maps : Nat → Int32) (w_coded : Nat → Int32) (w_linked : Nat → Int32) (w_heights : Nat → Int32) (w_kinds : Nat → Int32) (w_behind : Nat → Int32) (u : SY) : gY_words (mY w_fault w_height w_ops w_args w_length w_from w_to w_goal w_words w_maps w_coded w_linked w_heights w_kinds w_behind u) = w_words := rfl
theorem mY_maps (w_fault : Int32) (w_height : Int32) (w_ops : Nat → Int32) (w_args : Nat → Int32) (w_length : Nat → Int32) (w_from : Nat → Int32) (w_to : Nat → Int32) (w_goal : Nat → Int32) (w_words : Nat → Int32) (w_maps : Nat → Int32) (w_coded : Nat → Int32) (w_linked : Nat → Int32) (w_heights : Nat → Int32) (w_kinds : Nat → Int32) (w_behind : Nat → Int32) (u : SY) : gY_maps (mY w_fault w_height w_ops w_args w_length w_from w_to w_goal w_words w_maps w_coded w_linked w_heights w_kinds w_behind u) = w_maps := rfl
theorem mY_coded (w_fault : Int32) (w_height : Int32) (w_ops : Nat → Int32) (w_args : Nat → Int32) (w_length : Nat → Int32) (w_from : Nat → Int32) (w_to : Nat → Int32) (w_goal : Nat → Int32) (w_words : Nat → Int32) (w_maps : Nat → Int32) (w_coded : Nat → Int32) (w_linked : Nat → Int32) (w_heights : Nat → Int32) (w_kinds : Nat → Int32) (w_behind : Nat → Int32) (u : SY) : gY_coded (mY w_fault w_height w_ops w_args w_length w_from w_to w_goal w_words w_maps w_coded w_linked w_heights w_kinds w_behind u) = w_coded := rfl
theorem mY_linked (w_fault : Int32) (w_height : Int32) (w_ops : Nat → Int32) (w_args : Nat → Int32) (w_length : Nat → Int32) (w_from : Nat → Int32) (w_to : Nat → Int32) (w_goal : Nat → Int32) (w_words : Nat → Int32) (w_maps : Nat → Int32) (w_coded : Nat → Int32) (w_linked : Nat → Int32) (w_heights : Nat → Int32) (w_kinds : Nat → Int32) (w_behind : Nat → Int32) (u : SY) : gY_linked (mY w_fault w_height w_ops w_args w_length w_from w_to w_goal w_words w_maps w_coded w_linked w_heights w_kinds w_behind u) = w_linked := rfl
theorem mY_heights (w_fault : Int32) (w_height : Int32) (w_ops : Nat → Int32) (w_args : Nat → Int32) (w_length : Nat → Int32) (w_from : Nat → Int32) (w_to : Nat → Int32) (w_goal : Nat → Int32) (w_words : Nat → Int32) (w_maps : Nat → Int32) (w_coded : Nat → Int32) (w_linked : Nat → Int32) (w_heights : Nat → Int32) (w_kinds : Nat → Int32) (w_behind : Nat → Int32) (u : SY) : gY_heights (mY w_fault w_height w_ops w_args w_length w_from w_to w_goal w_words w_maps w_coded w_linked w_heights w_kinds w_behind u) = w_heights := rfl
theorem mY_kinds (w_fault : Int32) (w_height : Int32) (w_ops : Nat → Int32) (w_args : Nat → Int32) (w_length : Nat → Int32) (w_from : Nat → Int32) (w_to : Nat → Int32) (w_goal : Nat → Int32) (w_words : Nat → Int32) (w_maps : Nat → Int32) (w_coded : Nat → Int32) (w_linked : Nat → Int32) (w_heights : Nat → Int32) (w_kinds : Nat → Int32) (w_behind : Nat → Int32) (u : SY) : gY_kinds (mY w_fault w_height w_ops w_args w_length w_from w_to w_goal w_words w_maps w_coded w_linked w_heights w_kinds w_behind u) = w_kinds := rfl
theorem mY_behind (w_fault : Int32) (w_height : Int32) (w_ops : Nat → Int32) (w_args : Nat → Int32) (w_length : Nat → Int32) (w_from : Nat → Int32) (w_to : Nat → Int32) (w_goal : Nat → Int32) (w_words : Nat → Int32) (w_maps : Nat → Int32) (w_coded : Nat → Int32) (w_linked : Nat → Int32) (w_heights : Nat → Int32) (w_kinds : Nat → Int32) (w_behind : Nat → Int32) (u : SY) : gY_behind (mY w_fault w_height w_ops w_args w_length w_from w_to w_goal w_words w_maps w_coded w_linked w_heights w_kinds w_behind u) = w_behind := rfl
theorem mY_of (w_fault : Int32) (w_height : Int32) (w_ops : Nat → Int32) (w_args : Nat → Int32) (w_length : Nat → Int32) (w_from : Nat → Int32) (w_to : Nat → Int32) (w_goal : Nat → Int32) (w_words : Nat → Int32) (w_maps : Nat → Int32) (w_coded : Nat → Int32) (w_linked : Nat → Int32) (w_heights : Nat → Int32) (w_kinds : Nat → Int32) (w_behind : Nat → Int32) (u : SY) : gY_of (mY w_fault w_height w_ops w_args w_length w_from w_to w_goal w_words w_maps w_coded w_linked w_heights w_kinds w_behind u) = gY_of u := rfl
theorem mY_fields (w_fault : Int32) (w_height : Int32) (w_ops : Nat → Int32) (w_args : Nat → Int32) (w_length : Nat → Int32) (w_from : Nat → Int32) (w_to : Nat → Int32) (w_goal : Nat → Int32) (w_words : Nat → Int32) (w_maps : Nat → Int32) (w_coded : Nat → Int32) (w_linked : Nat → Int32) (w_heights : Nat → Int32) (w_kinds : Nat → Int32) (w_behind : Nat → Int32) (u : SY) : gY_fields (mY w_fault w_height w_ops w_args w_length w_from w_to w_goal w_words w_maps w_coded w_linked w_heights w_kinds w_behind u) = gY_fields u := rfl
theorem mY_globals (w_fault : Int32) (w_height : Int32) (w_ops : Nat → Int32) (w_args : Nat → Int32) (w_length : Nat → Int32) (w_from : Nat → Int32) (w_to : Nat → Int32) (w_goal : Nat → Int32) (w_words : Nat → Int32) (w_maps : Nat → Int32) (w_coded : Nat → Int32) (w_linked : Nat → Int32) (w_heights : Nat → Int32) (w_kinds : Nat → Int32) (w_behind : Nat → Int32) (u : SY) : gY_globals (mY w_fault w_height w_ops w_args w_length w_from w_to w_goal w_words w_maps w_coded w_linked w_heights w_kinds w_behind u) = gY_globals u := rfl
theorem mY_marked (w_fault : Int32) (w_height : Int32) (w_ops : Nat → Int32) (w_args : Nat → Int32) (w_length : Nat → Int32) (w_from : Nat → Int32) (w_to : Nat → Int32) (w_goal : Nat → Int32) (w_words : Nat → Int32) (w_maps : Nat → Int32) (w_coded : Nat → Int32) (w_linked : Nat → Int32) (w_heights : Nat → Int32) (w_kinds : Nat → Int32) (w_behind : Nat → Int32) (u : SY) : gY_marked (mY w_fault w_height w_ops w_args w_length w_from w_to w_goal w_words w_maps w_coded w_linked w_heights w_kinds w_behind u) = gY_marked u := rfl
theorem mY_method (w_fault : Int32) (w_height : Int32) (w_ops : Nat → Int32) (w_args : Nat → Int32) (w_length : Nat → Int32) (w_from : Nat → Int32) (w_to : Nat → Int32) (w_goal : Nat → Int32) (w_words : Nat → Int32) (w_maps : Nat → Int32) (w_coded : Nat → Int32) (w_linked : Nat → Int32) (w_heights : Nat → Int32) (w_kinds : Nat → Int32) (w_behind : Nat → Int32) (u : SY) : gY_method (mY w_fault w_height w_ops w_args w_length w_from w_to w_goal w_words w_maps w_coded w_linked w_heights w_kinds w_behind u) = gY_method u := rfl
theorem mY_at (w_fault : Int32) (w_height : Int32) (w_ops : Nat → Int32) (w_args : Nat → Int32) (w_length : Nat → Int32) (w_from : Nat → Int32) (w_to : Nat → Int32) (w_goal : Nat → Int32) (w_words : Nat → Int32) (w_maps : Nat → Int32) (w_coded : Nat → Int32) (w_linked : Nat → Int32) (w_heights : Nat → Int32) (w_kinds : Nat → Int32) (w_behind : Nat → Int32) (u : SY) : gY_at (mY w_fault w_height w_ops w_args w_length w_from w_to w_goal w_words w_maps w_coded w_linked w_heights w_kinds w_behind u) = gY_at u := rfl
theorem mY_high (w_fault : Int32) (w_height : Int32) (w_ops : Nat → Int32) (w_args : Nat → Int32) (w_length : Nat → Int32) (w_from : Nat → Int32) (w_to : Nat → Int32) (w_goal : Nat → Int32) (w_words : Nat → Int32) (w_maps : Nat → Int32) (w_coded : Nat → Int32) (w_linked : Nat → Int32) (w_heights : Nat → Int32) (w_kinds : Nat → Int32) (w_behind : Nat → Int32) (u : SY) : gY_high (mY w_fault w_height w_ops w_args w_length w_from w_to w_goal w_words w_maps w_coded w_linked w_heights w_kinds w_behind u) = gY_high u := rfl
theorem mY_locals (w_fault : Int32) (w_height : Int32) (w_ops : Nat → Int32) (w_args : Nat → Int32) (w_length : Nat → Int32) (w_from : Nat → Int32) (w_to : Nat → Int32) (w_goal : Nat → Int32) (w_words : Nat → Int32) (w_maps : Nat → Int32) (w_coded : Nat → Int32) (w_linked : Nat → Int32) (w_heights : Nat → Int32) (w_kinds : Nat → Int32) (w_behind : Nat → Int32) (u : SY) : gY_locals (mY w_fault w_height w_ops w_args w_length w_from w_to w_goal w_words w_maps w_coded w_linked w_heights w_kinds w_behind u) = gY_locals u := rfl
theorem mY_stack (w_fault : Int32) (w_height : Int32) (w_ops : Nat → Int32) (w_args : Nat → Int32) (w_length : Nat → Int32) (w_from : Nat → Int32) (w_to : Nat → Int32) (w_goal : Nat → Int32) (w_words : Nat → Int32) (w_maps : Nat → Int32) (w_coded : Nat → Int32) (w_linked : Nat → Int32) (w_heights : Nat → Int32) (w_kinds : Nat → Int32) (w_behind : Nat → Int32) (u : SY) : gY_stack (mY w_fault w_height w_ops w_args w_length w_from w_to w_goal w_words w_maps w_coded w_linked w_heights w_kinds w_behind u) = gY_stack u := rfl
theorem mY__fault (w_fault : Int32) (w_height : Int32) (w_ops : Nat → Int32) (w_args : Nat → Int32) (w_length : Nat → Int32) (w_from : Nat → Int32) (w_to : Nat → Int32) (w_goal : Nat → Int32) (w_words : Nat → Int32) (w_maps : Nat → Int32) (w_coded : Nat → Int32) (w_linked : Nat → Int32) (w_heights : Nat → Int32) (w_kinds : Nat → Int32) (w_behind : Nat → Int32) (z_fault : Int32) (u : SY) : sY_fault z_fault (mY w_fault w_height w_ops w_args w_length w_from w_to w_goal w_words w_maps w_coded w_linked w_heights w_kinds w_behind u) = mY z_fault w_height w_ops w_args w_length w_from w_to w_goal w_words w_maps w_coded w_linked w_heights w_kinds w_behind u := rfl
theorem mY__heights (w_fault : Int32) (w_height : Int32) (w_ops : Nat → Int32) (w_args : Nat → Int32) (w_length : Nat → Int32) (w_from : Nat → Int32) (w_to : Nat → Int32) (w_goal : Nat → Int32) (w_words : Nat → Int32) (w_maps : Nat → Int32) (w_coded : Nat → Int32) (w_linked : Nat → Int32) (w_heights : Nat → Int32) (w_kinds : Nat → Int32) (w_behind : Nat → Int32) (z_heights : Nat → Int32) (u : SY) : sY_heights z_heights (mY w_fault w_height w_ops w_args w_length w_from w_to w_goal w_words w_maps w_coded w_linked w_heights w_kinds w_behind u) = mY w_fault w_height w_ops w_args w_length w_from w_to w_goal w_words w_maps w_coded w_linked z_heights w_kinds w_behind u := rfl
theorem mY__ops_args_maps (w_fault : Int32) (w_height : Int32) (w_ops : Nat → Int32) (w_args : Nat → Int32) (w_length : Nat → Int32) (w_from : Nat → Int32) (w_to : Nat → Int32) (w_goal : Nat → Int32) (w_words : Nat → Int32) (w_maps : Nat → Int32) (w_coded : Nat → Int32) (w_linked : Nat → Int32) (w_heights : Nat → Int32) (w_kinds : Nat → Int32) (w_behind : Nat → Int32) (z_ops : Nat → Int32) (z_args : Nat → Int32) (z_maps : Nat → Int32) (u : SY) : sY_ops_args_maps z_ops z_args z_maps (mY w_fault w_height w_ops w_args w_length w_from w_to w_goal w_words w_maps w_coded w_linked w_heights w_kinds w_behind u) = mY w_fault w_height z_ops z_args w_length w_from w_to w_goal w_words z_maps w_coded w_linked w_heights w_kinds w_behind u := rfl
theorem mY__maps (w_fault : Int32) (w_height : Int32) (w_ops : Nat → Int32) (w_args : Nat → Int32) (w_length : Nat → Int32) (w_from : Nat → Int32) (w_to : Nat → Int32) (w_goal : Nat → Int32) (w_words : Nat → Int32) (w_maps : Nat → Int32) (w_coded : Nat → Int32) (w_linked : Nat → Int32) (w_heights : Nat → Int32) (w_kinds : Nat → Int32) (w_behind : Nat → Int32) (z_maps : Nat → Int32) (u : SY) : sY_maps z_maps (mY w_fault w_height w_ops w_args w_length w_from w_to w_goal w_words w_maps w_coded w_linked w_heights w_kinds w_behind u) = mY w_fault w_height w_ops w_args w_length w_from w_to w_goal w_words z_maps w_coded w_linked w_heights w_kinds w_behind u := rfl
theorem mY__words (w_fault : Int32) (w_height : Int32) (w_ops : Nat → Int32) (w_args : Nat → Int32) (w_length : Nat → Int32) (w_from : Nat → Int32) (w_to : Nat → Int32) (w_goal : Nat → Int32) (w_words : Nat → Int32) (w_maps : Nat → Int32) (w_coded : Nat → Int32) (w_linked : Nat → Int32) (w_heights : Nat → Int32) (w_kinds : Nat → Int32) (w_behind : Nat → Int32) (z_words : Nat → Int32) (u : SY) : sY_words z_words (mY w_fault w_height w_ops w_args w_length w_from w_to w_goal w_words w_maps w_coded w_linked w_heights w_kinds w_behind u) = mY w_fault w_height w_ops w_args w_length w_from w_to w_goal z_words w_maps w_coded w_linked w_heights w_kinds w_behind u := rfl
theorem mY__linked (w_fault : Int32) (w_height : Int32) (w_ops : Nat → Int32) (w_args : Nat → Int32) (w_length : Nat → Int32) (w_from : Nat → Int32) (w_to : Nat → Int32) (w_goal : Nat → Int32) (w_words : Nat → Int32) (w_maps : Nat → Int32) (w_coded : Nat → Int32) (w_linked : Nat → Int32) (w_heights : Nat → Int32) (w_kinds : Nat → Int32) (w_behind : Nat → Int32) (z_linked : Nat → Int32) (u : SY) : sY_linked z_linked (mY w_fault w_height w_ops w_args w_length w_from w_to w_goal w_words w_maps w_coded w_linked w_heights w_kinds w_behind u) = mY w_fault w_height w_ops w_args w_length w_from w_to w_goal w_words w_maps w_coded z_linked w_heights w_kinds w_behind u := rfl
theorem mY__length_from_to_goal_words_coded (w_fault : Int32) (w_height : Int32) (w_ops : Nat → Int32) (w_args : Nat → Int32) (w_length : Nat → Int32) (w_from : Nat → Int32) (w_to : Nat → Int32) (w_goal : Nat → Int32) (w_words : Nat → Int32) (w_maps : Nat → Int32) (w_coded : Nat → Int32) (w_linked : Nat → Int32) (w_heights : Nat → Int32) (w_kinds : Nat → Int32) (w_behind : Nat → Int32) (z_length : Nat → Int32) (z_from : Nat → Int32) (z_to : Nat → Int32) (z_goal : Nat → Int32) (z_words : Nat → Int32) (z_coded : Nat → Int32) (u : SY) : sY_length_from_to_goal_words_coded z_length z_from z_to z_goal z_words z_coded (mY w_fault w_height w_ops w_args w_length w_from w_to w_goal w_words w_maps w_coded w_linked w_heights w_kinds w_behind u) = mY w_fault w_height w_ops w_args z_length z_from z_to z_goal z_words w_maps z_coded w_linked w_heights w_kinds w_behind u := rfl
theorem mY__length_from_to (w_fault : Int32) (w_height : Int32) (w_ops : Nat → Int32) (w_args : Nat → Int32) (w_length : Nat → Int32) (w_from : Nat → Int32) (w_to : Nat → Int32) (w_goal : Nat → Int32) (w_words : Nat → Int32) (w_maps : Nat → Int32) (w_coded : Nat → Int32) (w_linked : Nat → Int32) (w_heights : Nat → Int32) (w_kinds : Nat → Int32) (w_behind : Nat → Int32) (z_length : Nat → Int32) (z_from : Nat → Int32) (z_to : Nat → Int32) (u : SY) : sY_length_from_to z_length z_from z_to (mY w_fault w_height w_ops w_args w_length w_from w_to w_goal w_words w_maps w_coded w_linked w_heights w_kinds w_behind u) = mY w_fault w_height w_ops w_args z_length z_from z_to w_goal w_words w_maps w_coded w_linked w_heights w_kinds w_behind u := rfl
theorem mY__height_behind (w_fault : Int32) (w_height : Int32) (w_ops : Nat → Int32) (w_args : Nat → Int32) (w_length : Nat → Int32) (w_from : Nat → Int32) (w_to : Nat → Int32) (w_goal : Nat → Int32) (w_words : Nat → Int32) (w_maps : Nat → Int32) (w_coded : Nat → Int32) (w_linked : Nat → Int32) (w_heights : Nat → Int32) (w_kinds : Nat → Int32) (w_behind : Nat → Int32) (z_height : Int32) (z_behind : Nat → Int32) (u : SY) : sY_height_behind z_height z_behind (mY w_fault w_height w_ops w_args w_length w_from w_to w_goal w_words w_maps w_coded w_linked w_heights w_kinds w_behind u) = mY w_fault z_height w_ops w_args w_length w_from w_to w_goal w_words w_maps w_coded w_linked w_heights w_kinds z_behind u := rfl
theorem mY__height_kinds_behind (w_fault : Int32) (w_height : Int32) (w_ops : Nat → Int32) (w_args : Nat → Int32) (w_length : Nat → Int32) (w_from : Nat → Int32) (w_to : Nat → Int32) (w_goal : Nat → Int32) (w_words : Nat → Int32) (w_maps : Nat → Int32) (w_coded : Nat → Int32) (w_linked : Nat → Int32) (w_heights : Nat → Int32) (w_kinds : Nat → Int32) (w_behind : Nat → Int32) (z_height : Int32) (z_kinds : Nat → Int32) (z_behind : Nat → Int32) (u : SY) : sY_height_kinds_behind z_height z_kinds z_behind (mY w_fault w_height w_ops w_args w_length w_from w_to w_goal w_words w_maps w_coded w_linked w_heights w_kinds w_behind u) = mY w_fault z_height w_ops w_args w_length w_from w_to w_goal w_words w_maps w_coded w_linked w_heights z_kinds z_behind u := rfl
end
section
/-! X takes the draft -/
def zt_cp (f R : Nat → Int32) (m n : Nat) : Nat → Int32 := fun k => if 24 * m ≤ k ∧ k < 24 * m + n then f (k - 24 * m) else R k
theorem zt_cp0 {f R : Nat → Int32} {m : Nat} : zt_cp f R m 0 = R := by
  funext k
  unfold zt_cp
  rw [if_neg (by omega)]
theorem zt_cps {f R : Nat → Int32} {m j : Nat} {x : Int32} (h : x = f j) : upd (zt_cp f R m j) (24 * m + j) x = zt_cp f R m (j + 1) := by
  funext k
  by_cases z : k = 24 * m + j
  · subst z
    rw [pk_us, h]
    unfold zt_cp
    rw [if_pos (by omega), show 24 * m + j - 24 * m = j by omega]
  · rw [pk_un z]
    unfold zt_cp
    by_cases w : 24 * m ≤ k ∧ k < 24 * m + j
    · rw [if_pos w, if_pos (by omega)]
    · rw [if_neg w, if_neg (by omega)]
theorem zt_out {f R : Nat → Int32} {m n k : Nat} (h : k < 24 * m ∨ 24 * m + n ≤ k) : zt_cp f R m n k = R k := by
  unfold zt_cp
  rw [if_neg (by omega)]
theorem zt_in {f R : Nat → Int32} {m n i : Nat} (h : i < n) : zt_cp f R m n (24 * m + i) = f i := by
  unfold zt_cp
  rw [if_pos (by omega), show 24 * m + i - 24 * m = i by omega]
def zt_gh (a : Nat → Int32) : Nat → Nat
  | 0 => 0
  | n + 1 => if (if a n = 0 then 0 else zh_ht (a n)) ≤ zt_gh a n then zt_gh a n else (if a n = 0 then 0 else zh_ht (a n))
theorem zt_gh6 (a : Nat → Int32) : ∀ n, zt_gh a n ≤ 6 := by
  intro n
  induction n with
  | zero => exact Nat.zero_le _
  | succ n ih =>
    have := zh_ht6 (a n)
    unfold zt_gh
    repeat' split
    all_goals omega
def zt_rm (a xr : Nat → Int32) (i : Nat) : Int32 := if a i = 0 then -1 else xr i
theorem x_greatest {post : Int32 → Prop} {u : SX} {n : Nat} (hn : n ≤ 24) (en : gX_lengths u 8 = nI n) (h : post (nI (zt_gh (gX_heights u) n))) : wpX_greatestHeight post u := by
  have z : ∀ d i, i + d = n → kX_greatestHeight_4 post (d + 1) (nI (zt_gh (gX_heights u) i)) (nI i) u := by
    intro d
    induction d with
    | zero =>
      intro i hi
      have : i = n := by omega
      subst this
      refine uX_greatestHeight_4 (br_t ?_ h)
      rw [en]; exact Int32.le_refl _
    | succ d ih =>
      intro i hi
      have g6 := zt_gh6 (gX_heights u) i
      have h6 := zh_ht6 (gX_heights u i)
      have st : ∀ q, q ≤ 6 → q = (if gX_heights u i = 0 then 0 else zh_ht (gX_heights u i)) → kX_greatestHeight_33 post (fun x1 x2 => kX_greatestHeight_4 post (d + 1) x1 x2 u) (nI (zt_gh (gX_heights u) i)) (nI i) (nI q) u := by
        intro q hq eq
        have e : zt_gh (gX_heights u) (i + 1) = if q ≤ zt_gh (gX_heights u) i then zt_gh (gX_heights u) i else q := by
          rw [eq]; rfl
        have nx := ih (i + 1) (by omega)
        rw [e] at nx
        refine uX_greatestHeight_33 (br_i (nI_leI (by omega) (by omega)) (fun w => nm_r (nI_1 i) ?_) (fun w => nm_r (nI_1 i) ?_))
        · rw [if_pos w] at nx; exact nx
        · rw [if_neg w] at nx; exact nx
      refine uX_greatestHeight_4 (br_f ?_ ⟨vp_in_nI (by omega) (by decide), ?_⟩)
      · rw [en]; exact nI_ge (by omega) (by omega)
      · rw [nI_clamp (by omega)]
        refine br_c (fun w => st 0 (by omega) (by rw [if_pos w])) (fun w => x_heightAt (by omega) (st _ h6 (by rw [if_neg w])))
  exact upX_greatestHeight ⟨n + 1, z n 0 (by omega)⟩
theorem x_takeDraft {post : SX → Prop} {u : SX} {fp : Int32} {O A L F T G RM BH FW CO a xi xr : Nat → Int32} {n m : Nat} (hm : m < 8) (hn : n ≤ 24) (en : L 8 = nI n)
  (h : post (mX fp (zt_cp (fun i => O (192 + i)) O m n) (zt_cp (fun i => A (192 + i)) A m n) (upd L m (nI n)) (upd F m (F 8)) (upd T m (T 8)) (upd G m (G 8)) (zt_cp (zt_rm a xr) RM m n) (zt_cp (fun i => nI (zh_ht (a i))) BH m n) (upd FW m (nI (9 + zt_gh a n))) CO a xi xr u)) : wpX_takeDraft post (mX fp O A L F T G RM BH FW CO a xi xr u) (nI m) := by
  have cm : (nI m).toNatClampNeg = m := nI_clamp (by omega)
  have z : ∀ d j, j + d = n → kX_takeDraft_10 post (nI m) (nI n) (d + 1) (nI j) (mX fp (zt_cp (fun i => O (192 + i)) O m j) (zt_cp (fun i => A (192 + i)) A m j) L F T G (zt_cp (zt_rm a xr) RM m j) (zt_cp (fun i => nI (zh_ht (a i))) BH m j) FW CO a xi xr u) := by
    intro d
    induction d with
    | zero =>
      intro j hj
      have : j = n := by omega
      subst this
      have v9 : vp_in (nI m) 9 := vp_in_nI (by omega) (by decide)
      refine uX_takeDraft_10 (br_t (Int32.le_refl _) ⟨v9, nm_e ⟨v9, nm_e ⟨v9, nm_e ⟨v9, nm_e ?_⟩⟩⟩⟩)
      rw [cm, mX_lengths, mX_catchFrom, mX_catchTo, mX_catchGoal, mX__lengths_catchFrom_catchTo_catchGoal]
      refine x_greatest (n := j) hn ?_ ⟨vp_in_nI hm (by decide), nm_e ?_⟩
      · rw [mX_lengths, pk_un (by omega)]; exact en
      · rw [mX_frameWords, mX_heights, mX__lengths_catchFrom_catchTo_catchGoal_frameWords, show (9 : Int32) = nI 9 from rfl, nI_add]
        exact h
    | succ d ih =>
      intro j hj
      have e192 : (192 : Int32) + nI j = nI (192 + j) := by rw [show (192 : Int32) = nI 192 from rfl, nI_add]
      have e24 : nI m * 24 + nI j = nI (24 * m + j) := by rw [show (24 : Int32) = nI 24 from rfl, pk_mul, nI_add, Nat.mul_comm]
      have v1 : vp_in (192 + nI j) 216 := by rw [e192]; exact vp_in_nI (by omega) (by decide)
      have v2 : vp_in (nI m * 24 + nI j) 216 := by rw [e24]; exact vp_in_nI (by omega) (by decide)
      have v3 : vp_in (nI m * 24 + nI j) 192 := by rw [e24]; exact vp_in_nI (by omega) (by decide)
      have v4 : vp_in (nI j) 24 := vp_in_nI (by omega) (by decide)
      refine uX_takeDraft_10 (br_f (nI_ge (by omega) (by omega)) ⟨v1, v2, nm_e ⟨v1, v2, nm_e ⟨v4, ?_⟩⟩⟩)
      have c1 : (192 + nI j).toNatClampNeg = 192 + j := by rw [e192, nI_clamp (by omega)]
      have c2 : (nI m * 24 + nI j).toNatClampNeg = 24 * m + j := by rw [e24, nI_clamp (by omega)]
      have c3 : (nI j).toNatClampNeg = j := nI_clamp (by omega)
      have o1 : zt_cp (fun i => O (192 + i)) O m j (192 + j) = O (192 + j) := zt_out (by omega)
      have o2 : zt_cp (fun i => A (192 + i)) A m j (192 + j) = A (192 + j) := zt_out (by omega)
      rw [c1, c2, c3, mX_ops, mX_operands, mX_heights, mX_refKinds, mX__ops_operands, o1, o2, zt_cps (f := fun i => O (192 + i)) (x := O (192 + j)) rfl, zt_cps (f := fun i => A (192 + i)) (x := A (192 + j)) rfl]
      have st : ∀ q, q = zt_rm a xr j → kX_takeDraft_86 post (kX_takeDraft_10 post (nI m) (nI n) (d + 1)) (nI m) (nI n) (nI j) q (nI m * 24 + nI j) (mX fp (zt_cp (fun i => O (192 + i)) O m (j + 1)) (zt_cp (fun i => A (192 + i)) A m (j + 1)) L F T G (zt_cp (zt_rm a xr) RM m j) (zt_cp (fun i => nI (zh_ht (a i))) BH m j) FW CO a xi xr u) := by
        intro q eq
        refine uX_takeDraft_86 ⟨v3, nm_e ?_⟩
        rw [c2, mX_refMaps, mX__refMaps]
        refine x_heightAt (by omega) ⟨v3, nm_e (nm_r (nI_1 j) ?_)⟩
        rw [mX_bodyHeights, mX_heights, mX__refMaps_bodyHeights, zt_cps eq, zt_cps (f := fun i => nI (zh_ht (a i))) (x := nI (zh_ht (a j))) rfl]
        exact ih (j + 1) (by omega)
      exact br_c (fun w => st (-1) (by unfold zt_rm; rw [if_pos w])) (fun w => ⟨v4, st (xr j) (by unfold zt_rm; rw [if_neg w])⟩)
  have q := z n 0 (by omega)
  rw [zt_cp0, zt_cp0, zt_cp0, zt_cp0] at q
  exact upX_takeDraft (nm_r (by rw [mX_lengths]; exact en) ⟨_, q⟩)
theorem x_dropCode {post : SX → Prop} {u : SX} {fp : Int32} {O A L F T G RM BH FW CO a xi xr : Nat → Int32} {m : Nat} (hm : m < 8) (h : post (mX fp O A L F T G RM BH FW (zt_cp (fun _ => 0) CO m 24) a xi xr u)) : wpX_dropCode post (mX fp O A L F T G RM BH FW CO a xi xr u) (nI m) := by
  have z : ∀ d j, j + d = 24 → kX_dropCode_2 post (nI m) (d + 1) (nI j) (mX fp O A L F T G RM BH FW (zt_cp (fun _ => 0) CO m j) a xi xr u) := by
    intro d
    induction d with
    | zero =>
      intro j hj
      have : j = 24 := by omega
      subst this
      exact uX_dropCode_2 (br_t (by decide) h)
    | succ d ih =>
      intro j hj
      have e24 : nI m * 24 + nI j = nI (24 * m + j) := by rw [show (24 : Int32) = nI 24 from rfl, pk_mul, nI_add, Nat.mul_comm]
      refine uX_dropCode_2 (br_f (nI_ge (b := 24) (by omega) (by decide)) ⟨by rw [e24]; exact vp_in_nI (by omega) (by decide), nm_e (nm_r (nI_1 j) ?_)⟩)
      rw [e24, nI_clamp (by omega), mX_codeOps, mX__codeOps, zt_cps rfl]
      exact ih (j + 1) (by omega)
  have q := z 24 0 rfl
  rw [zt_cp0] at q
  exact upX_dropCode ⟨_, q⟩
/-- CALLs of m are linked no more -/
def zt_ul (CO CA : Nat → Int32) (x : Int32) (n : Nat) : Nat → Int32 := fun k => if k < n ∧ CO k = 28 ∧ CA k = x then 16 else CO k
theorem x_unlink {post : SX → Prop} {u : SX} {fp : Int32} {O A L F T G RM BH FW CO a xi xr : Nat → Int32} {x : Int32} (h : post (mX fp O A L F T G RM BH FW (zt_ul CO (gX_codeArgs u) x 192) a xi xr u)) : wpX_unlinkCallsOf post (mX fp O A L F T G RM BH FW CO a xi xr u) x := by
  have at_ : ∀ j, zt_ul CO (gX_codeArgs u) x j j = CO j := fun j => by unfold zt_ul; rw [if_neg (by omega)]
  have nx : ∀ j, ¬ (CO j = 28 ∧ gX_codeArgs u j = x) → zt_ul CO (gX_codeArgs u) x j = zt_ul CO (gX_codeArgs u) x (j + 1) := by
    intro j w
    funext k
    unfold zt_ul
    by_cases e : k = j
    · subst e; rw [if_neg (by omega), if_neg (fun q => w q.2)]
    · by_cases q : k < j ∧ CO k = 28 ∧ gX_codeArgs u k = x
      · rw [if_pos q, if_pos ⟨by omega, q.2⟩]
      · rw [if_neg q, if_neg (fun r => q ⟨by omega, r.2⟩)]
  have ns : ∀ j, (CO j = 28 ∧ gX_codeArgs u j = x) → upd (zt_ul CO (gX_codeArgs u) x j) j 16 = zt_ul CO (gX_codeArgs u) x (j + 1) := by
    intro j w
    funext k
    by_cases e : k = j
    · subst e; rw [pk_us]; unfold zt_ul; rw [if_pos ⟨by omega, w⟩]
    · rw [pk_un e]
      unfold zt_ul
      by_cases q : k < j ∧ CO k = 28 ∧ gX_codeArgs u k = x
      · rw [if_pos q, if_pos ⟨by omega, q.2⟩]
      · rw [if_neg q, if_neg (fun r => q ⟨by omega, r.2⟩)]
  have z : ∀ d j, j + d = 192 → kX_unlinkCallsOf_2 post x (d + 1) (nI j) (mX fp O A L F T G RM BH FW (zt_ul CO (gX_codeArgs u) x j) a xi xr u) := by
    intro d
    induction d with
    | zero =>
      intro j hj
      have : j = 192 := by omega
      subst this
      exact uX_unlinkCallsOf_2 (br_t (by decide) h)
    | succ d ih =>
      intro j hj
      have v : vp_in (nI j) 192 := vp_in_nI (by omega) (by decide)
      have i1 := ih (j + 1) (by omega)
      refine uX_unlinkCallsOf_2 (br_f (nI_ge (b := 192) (by omega) (by decide)) ⟨v, ?_⟩)
      rw [nI_clamp (by omega), mX_codeOps, mX_codeArgs, at_]
      refine br_c (fun w => ⟨v, br_c (fun w2 => ⟨v, nm_e (nm_r (nI_1 j) ?_)⟩) (fun w2 => nm_r (nI_1 j) ?_)⟩) (fun w => nm_r (nI_1 j) ?_)
      · rw [mX__codeOps, ns j ⟨w, w2⟩]; exact i1
      · rw [nx j (fun q => w2 q.2)]; exact i1
      · rw [nx j (fun q => w q.1)]; exact i1
  have q := z 192 0 rfl
  rw [show zt_ul CO (gX_codeArgs u) x 0 = CO by funext k; unfold zt_ul; rw [if_neg (by omega)]] at q
  exact upX_unlinkCallsOf ⟨_, q⟩
theorem x_emptyDraft {post : SX → Prop} {u : SX} {fp : Int32} {O A L F T G RM BH FW CO a xi xr : Nat → Int32} (h : post (mX fp O A (upd L 8 0) (upd F 8 0) (upd T 8 0) (upd G 8 0) RM BH FW CO a xi xr u)) : wpX_emptyDraft post (mX fp O A L F T G RM BH FW CO a xi xr u) := by
  refine upX_emptyDraft (nm_e (nm_e (nm_e (nm_e ?_))))
  rw [mX_lengths, mX_catchFrom, mX_catchTo, mX_catchGoal, mX__lengths_catchFrom_catchTo_catchGoal]
  exact h
end
section
/-! Y takes the draft -/
/-- the map of references, from Y's kinds -/
def zt_mk (K : Nat → Int32) (i : Nat) : Nat → Int32
  | 0 => 0
  | w + 1 => if K (12 * i + w) = 2 then zt_mk K i w ||| ((1 : Int32) <<< (nI w &&& 31)) else zt_mk K i w
theorem zt_mkb {K : Nat → Int32} {i : Nat} : ∀ w, w ≤ 12 → ∀ e, e < 32 → (bt (zt_mk K i w) e = true ↔ e < w ∧ K (12 * i + e) = 2) := by
  intro w
  induction w with
  | zero =>
    intro _ e _
    show bt 0 e = true ↔ _
    rw [b_0]
    constructor
    · intro h; exact absurd h (by decide)
    · intro h; omega
  | succ w ih =>
    intro hw e he
    have i1 := ih (by omega) e he
    unfold zt_mk
    by_cases z : K (12 * i + w) = 2
    · rw [if_pos z, b_or, zb_tp w (by omega) e he, Bool.or_eq_true_iff, i1, decide_eq_true_iff]
      constructor
      · rintro (q | rfl)
        · exact ⟨by omega, q.2⟩
        · exact ⟨by omega, z⟩
      · rintro ⟨q1, q2⟩
        by_cases k : e = w
        · exact Or.inr k
        · exact Or.inl ⟨by omega, q2⟩
    · rw [if_neg z, i1]
      constructor
      · intro q; exact ⟨by omega, q.2⟩
      · rintro ⟨q1, q2⟩
        by_cases k : e = w
        · subst k; exact absurd q2 z
        · exact ⟨by omega, q2⟩
/-- Y's map of one instruction -/
def zt_rmY (a K : Nat → Int32) (i : Nat) : Int32 := if a i = 0 then -1 else zt_mk K i (6 + zh_ht (a i))
/-- the greatest height before or behind -/
def zt_gy (O A a : Nat → Int32) : Nat → Nat
  | 0 => 0
  | n + 1 => if a n = 0 then zt_gy O A a n else if max (zh_ht (a n)) (zh_ht (a n) - zh_P O A n + zh_Q O n) ≤ zt_gy O A a n then zt_gy O A a n else max (zh_ht (a n)) (zh_ht (a n) - zh_P O A n + zh_Q O n)
theorem zy_atc {O A O' A' a up fc : Nat → Int32} {i H : Nat} (e1 : O' (192 + i) = O (192 + i)) (e2 : A' (192 + i) = A (192 + i)) (h : zy_at O A a up fc i H) : zy_at O' A' a up fc i H := by
  unfold zy_at zh_P zh_Q zh_op at *
  rw [e1, e2]; exact h
theorem zh_opc {O O' : Nat → Int32} {i : Nat} (e : O' (192 + i) = O (192 + i)) : zh_op O' i = zh_op O i := by unfold zh_op; rw [e]
theorem zh_Pc {O A O' A' : Nat → Int32} {i : Nat} (e1 : O' (192 + i) = O (192 + i)) (e2 : A' (192 + i) = A (192 + i)) : zh_P O' A' i = zh_P O A i := by unfold zh_P; rw [zh_opc e1, e2]
theorem zh_Qc {O O' : Nat → Int32} {i : Nat} (e : O' (192 + i) = O (192 + i)) : zh_Q O' i = zh_Q O i := by unfold zh_Q; rw [zh_opc e]
theorem zv_b0 : vp_nar .boolean 0 = 0 := by decide
theorem zv_b1 : vp_nar .boolean 1 = 1 := by decide
/-- CALLs of m, and m's own, are linked no more -/
def zt_ulY (O A lk : Nat → Int32) (m n : Nat) : Nat → Int32 := fun k => if k < n ∧ (k / 24 = m ∨ (O k = 16 ∧ A k = nI m)) then 0 else lk k
theorem y_take271 {post : SY → Prop} {u : SY} {fp hh : Int32} {O A L F T G W M cd lk a K b : Nat → Int32} {m : Nat} (hm : m < 8) (h : post (mY fp hh O A L F T G W M cd (zt_ulY O A lk m 192) a K b u)) :
  ∃ n, kY_take_271 post (nI m) n 0 (mY fp hh O A L F T G W M cd lk a K b u) := by
  have at_ : ∀ j, zt_ulY O A lk m j j = lk j := fun j => by unfold zt_ulY; rw [if_neg (by omega)]
  have nx : ∀ j, ¬ (j / 24 = m ∨ (O j = 16 ∧ A j = nI m)) → zt_ulY O A lk m j = zt_ulY O A lk m (j + 1) := by
    intro j w
    funext k
    unfold zt_ulY
    by_cases e : k = j
    · subst e; rw [if_neg (by omega), if_neg (fun q => w q.2)]
    · by_cases q : k < j ∧ (k / 24 = m ∨ (O k = 16 ∧ A k = nI m))
      · rw [if_pos q, if_pos ⟨by omega, q.2⟩]
      · rw [if_neg q, if_neg (fun r => q ⟨by omega, r.2⟩)]
  have ns : ∀ j, (j / 24 = m ∨ (O j = 16 ∧ A j = nI m)) → upd (zt_ulY O A lk m j) j 0 = zt_ulY O A lk m (j + 1) := by
    intro j w
    funext k
    by_cases e : k = j
    · subst e; rw [pk_us]; unfold zt_ulY; rw [if_pos ⟨by omega, w⟩]
    · rw [pk_un e]
      unfold zt_ulY
      by_cases q : k < j ∧ (k / 24 = m ∨ (O k = 16 ∧ A k = nI m))
      · rw [if_pos q, if_pos ⟨by omega, q.2⟩]
      · rw [if_neg q, if_neg (fun r => q ⟨by omega, r.2⟩)]
  have z : ∀ d j, j + d = 192 → kY_take_271 post (nI m) (d + 1) (nI j) (mY fp hh O A L F T G W M cd (zt_ulY O A lk m j) a K b u) := by
    intro d
    induction d with
    | zero =>
      intro j hj
      have : j = 192 := by omega
      subst this
      exact uY_take_271 (br_t (by decide) h)
    | succ d ih =>
      intro j hj
      have v : vp_in (nI j) 192 := vp_in_nI (by omega) (by decide)
      have v2 : vp_in (nI j) 216 := vp_in_nI (by omega) (by decide)
      have i1 := ih (j + 1) (by omega)
      have ed : nI j / 24 = nI (j / 24) := pk_div (d := 24) (by omega) (by decide) (by decide)
      refine uY_take_271 (br_f (nI_ge (b := 192) (by omega) (by decide)) ⟨by decide, ?_⟩)
      rw [ed, nI_clamp (by omega), mY_linked, mY_ops, mY_args, zv_b0]
      refine br_i (nI_eq (by omega) (by omega)) (fun w => ⟨v, nm_e (nm_r (nI_1 j) ?_)⟩) (fun w => ⟨v2, br_c (fun w2 => ⟨v2, br_c (fun w3 => ⟨v, nm_e (nm_r (nI_1 j) ?_)⟩) (fun w3 => nm_r (nI_1 j) ?_)⟩) (fun w2 => nm_r (nI_1 j) ?_)⟩)
      · rw [mY__linked, ns j (Or.inl w)]; exact i1
      · rw [mY__linked, ns j (Or.inr ⟨w2, w3⟩)]; exact i1
      · rw [nx j (fun q => q.elim w (fun r => w3 r.2))]; exact i1
      · rw [nx j (fun q => q.elim w (fun r => w2 r.1))]; exact i1
  have q := z 192 0 rfl
  rw [show zt_ulY O A lk m 0 = lk by funext k; unfold zt_ulY; rw [if_neg (by omega)]] at q
  exact ⟨_, q⟩
theorem y_take214 {post : SY → Prop} {J : Int32 → SY → Prop} {u : SY} {fp hh : Int32} {O A L F T G W M cd lk a K b : Nat → Int32} {m i H : Nat} (hm : m < 8) (hi : i < 24) (hH : H ≤ 6)
  (h : J (nI (i + 1)) (mY fp hh O A L F T G W (upd M (24 * m + i) (zt_mk K i (6 + H))) cd lk a K b u)) : kY_take_199 post J (nI m) (nI i) (nI H) (mY fp hh O A L F T G W M cd lk a K b u) := by
  have e24 : (24 : Int32) * nI m + nI i = nI (24 * m + i) := by rw [show (24 : Int32) = nI 24 from rfl, pk_mul, nI_add]
  have v24 : vp_in (24 * nI m + nI i) 192 := by rw [e24]; exact vp_in_nI (by omega) (by decide)
  have c24 : (24 * nI m + nI i).toNatClampNeg = 24 * m + i := by rw [e24, nI_clamp (by omega)]
  have e6 : (6 : Int32) + nI H = nI (6 + H) := by rw [show (6 : Int32) = nI 6 from rfl, nI_add]
  have z : ∀ d j, j + d = 6 + H → kY_take_214 post J (nI m) (nI i) (nI H) (d + 1) (nI j) (mY fp hh O A L F T G W (upd M (24 * m + i) (zt_mk K i j)) cd lk a K b u) := by
    intro d
    induction d with
    | zero =>
      intro j hj
      have : j = 6 + H := by omega
      subst this
      refine uY_take_214 (br_t ?_ (nm_r (nI_1 i) h))
      rw [e6]; exact Int32.le_refl _
    | succ d ih =>
      intro j hj
      have e12 : (12 : Int32) * nI i + nI j = nI (12 * i + j) := by rw [show (12 : Int32) = nI 12 from rfl, pk_mul, nI_add]
      have i1 := ih (j + 1) (by omega)
      refine uY_take_214 (br_f ?_ ⟨by rw [e12]; exact vp_in_nI (by omega) (by decide), ?_⟩)
      · rw [e6]; exact nI_ge (by omega) (by omega)
      · rw [e12, nI_clamp (n := 12 * i + j) (by omega), mY_kinds, mY_maps]
        refine br_c (fun w => ⟨v24, v24, nm_e (nm_r (nI_1 j) ?_)⟩) (fun w => nm_r (nI_1 j) ?_)
        · rw [c24, mY__maps, pk_us]
          have e : zt_mk K i (j + 1) = zt_mk K i j ||| ((1 : Int32) <<< (nI j &&& 31)) := by
            show (if _ then _ else _) = _
            rw [if_pos w]
          rw [e] at i1
          rw [show upd (upd M (24 * m + i) (zt_mk K i j)) (24 * m + i) (zt_mk K i j ||| ((1 : Int32) <<< (nI j &&& 31))) = upd M (24 * m + i) (zt_mk K i j ||| ((1 : Int32) <<< (nI j &&& 31))) by
            funext k; unfold upd; split <;> rfl]
          exact i1
        · have e : zt_mk K i (j + 1) = zt_mk K i j := by
            show (if _ then _ else _) = _
            rw [if_neg w]
          rw [e] at i1
          exact i1
  refine uY_take_199 ⟨v24, nm_e ⟨6 + H + 1, ?_⟩⟩
  rw [c24, mY_maps, mY__maps]
  exact z (6 + H) 0 (by omega)
theorem y_take {post : SY → Prop} {u : SY} {fp hh : Int32} {fc rf : Nat → Int32} {O A L F T G W M cd lk a K b : Nat → Int32} {n m : Nat} (hm : m < 8) (hn : n ≤ 24) (en : L 8 = nI n)
  (hr : ∀ c, c < 4 → gY_up u c ≠ -2 → zc_row (gY_up u) (gY_ints u) (gY_references u) fc rf c) (hd : ∀ c, c < 4 → gY_up u c ≠ -2 → zc_dp (gY_up u) 4 (nI c)) (hat : ∀ i, i < n → a i ≠ 0 → zy_at O A a (gY_up u) fc i (zh_ht (a i)))
  (h : ∀ hh' b', post (mY fp hh' (zt_cp (fun i => O (192 + i)) O m n) (zt_cp (fun i => A (192 + i)) A m n) (upd L m (nI n)) (upd F m (F 8)) (upd T m (T 8)) (upd G m (G 8)) (upd W m (nI (9 + zt_gy O A a n))) (zt_cp (zt_rmY a K) M m n) (upd cd m 0) (zt_ulY (zt_cp (fun i => O (192 + i)) O m n) (zt_cp (fun i => A (192 + i)) A m n) lk m 192) a K b' u)) : wpY_take post (mY fp hh O A L F T G W M cd lk a K b u) (nI m) := by
  have cm : (nI m).toNatClampNeg = m := nI_clamp (by omega)
  have v9 : vp_in (nI m) 9 := vp_in_nI (by omega) (by decide)
  have v8 : vp_in (nI m) 8 := vp_in_nI (by omega) (by decide)
  have upup : ∀ (x y : Int32), upd (upd W m x) m y = upd W m y := fun x y => by funext k; unfold upd; split <;> rfl
  have z : ∀ d j hh' b', j + d = n → kY_take_69 post (nI m) (d + 1) (nI j) (mY fp hh' (zt_cp (fun i => O (192 + i)) O m j) (zt_cp (fun i => A (192 + i)) A m j) (upd L m (nI n)) (upd F m (F 8)) (upd T m (T 8)) (upd G m (G 8)) (upd W m (nI (9 + zt_gy O A a j))) (zt_cp (zt_rmY a K) M m j) (upd cd m 0) lk a K b' u) := by
    intro d
    induction d with
    | zero =>
      intro j hh' b' hj
      have : j = n := by omega
      subst this
      refine uY_take_69 ⟨v9, ?_⟩
      rw [cm, mY_length, pk_us]
      exact br_t (Int32.le_refl _) (y_take271 hm (h hh' b'))
    | succ d ih =>
      intro j hh' b' hj
      have e192 : (192 : Int32) + nI j = nI (192 + j) := by rw [show (192 : Int32) = nI 192 from rfl, nI_add]
      have e24 : (24 : Int32) * nI m + nI j = nI (24 * m + j) := by rw [show (24 : Int32) = nI 24 from rfl, pk_mul, nI_add]
      have v1 : vp_in (192 + nI j) 216 := by rw [e192]; exact vp_in_nI (by omega) (by decide)
      have v2 : vp_in (24 * nI m + nI j) 216 := by rw [e24]; exact vp_in_nI (by omega) (by decide)
      have v3 : vp_in (24 * nI m + nI j) 192 := by rw [e24]; exact vp_in_nI (by omega) (by decide)
      have v4 : vp_in (nI j) 24 := vp_in_nI (by omega) (by decide)
      have c1 : (192 + nI j).toNatClampNeg = 192 + j := by rw [e192, nI_clamp (by omega)]
      have c2 : (24 * nI m + nI j).toNatClampNeg = 24 * m + j := by rw [e24, nI_clamp (by omega)]
      have c3 : (nI j).toNatClampNeg = j := nI_clamp (by omega)
      have o1 : zt_cp (fun i => O (192 + i)) O m j (192 + j) = O (192 + j) := zt_out (by omega)
      have o2 : zt_cp (fun i => A (192 + i)) A m j (192 + j) = A (192 + j) := zt_out (by omega)
      have p1 : zt_cp (fun i => O (192 + i)) O m (j + 1) (192 + j) = O (192 + j) := zt_out (by omega)
      have p2 : zt_cp (fun i => A (192 + i)) A m (j + 1) (192 + j) = A (192 + j) := zt_out (by omega)
      refine uY_take_69 ⟨v9, ?_⟩
      rw [cm, mY_length, pk_us]
      refine br_f (nI_ge (by omega) (by omega)) ⟨v1, v2, nm_e ⟨v1, v2, nm_e ⟨v3, nm_e ⟨v4, ?_⟩⟩⟩⟩
      rw [c1, c2, c3, mY_ops, mY_args, mY_maps, mY_heights, mY__ops_args_maps, o1, o2, zt_cps (f := fun i => O (192 + i)) (x := O (192 + j)) rfl, zt_cps (f := fun i => A (192 + i)) (x := A (192 + j)) rfl]
      refine br_c (fun w => nm_r (nI_1 j) ?_) (fun w => ?_)
      · have i1 := ih (j + 1) hh' b' (by omega)
        rw [zt_cps (by unfold zt_rmY; rw [if_pos w])]
        rw [show zt_gy O A a (j + 1) = zt_gy O A a j by show (if _ then _ else _) = _; rw [if_pos w]] at i1
        exact i1
      · have ha := hat j (by omega) w
        obtain ⟨ho, eH, hP, hQ, hH, hc⟩ := id ha
        refine y_heightAt (H := zh_ht (a j)) (by omega) hH eH (y_does (fc := fc) (rf := rf) hr hd (by omega) (H := zh_ht (a j)) (zy_atc p1 p2 ha) (fun beh _ => ?_))
        rw [mY__height_behind]
        have eQ : zh_P (zt_cp (fun i => O (192 + i)) O m (j + 1)) (zt_cp (fun i => A (192 + i)) A m (j + 1)) j = zh_P O A j := zh_Pc p1 p2
        have eQ2 : zh_Q (zt_cp (fun i => O (192 + i)) O m (j + 1)) j = zh_Q O j := zh_Qc p1
        show ((nI (zh_ht (a j)) ≤ nI (zh_ht (a j) - zh_P (zt_cp (fun i => O (192 + i)) O m (j + 1)) (zt_cp (fun i => A (192 + i)) A m (j + 1)) j + zh_Q (zt_cp (fun i => O (192 + i)) O m (j + 1)) j)) → _) ∧ _
        rw [mY_ops, mY_args, mY_height, eQ, eQ2]
        -- both cases: the greater one
        have go : ∀ q, q = max (zh_ht (a j)) (zh_ht (a j) - zh_P O A j + zh_Q O j) → ∀ h2 : Int32, kY_take_172 post (kY_take_69 post (nI m) (d + 1)) (nI m) (nI j) (nI (zh_ht (a j))) (nI q) (mY fp h2 (zt_cp (fun i => O (192 + i)) O m (j + 1)) (zt_cp (fun i => A (192 + i)) A m (j + 1)) (upd L m (nI n)) (upd F m (F 8)) (upd T m (T 8)) (upd G m (G 8)) (upd W m (nI (9 + zt_gy O A a j))) (upd (zt_cp (zt_rmY a K) M m j) (24 * m + j) (-1)) (upd cd m 0) lk a K beh u) := by
          intro q eq h2
          have q6 : q ≤ 6 := by omega
          have g6 : zt_gy O A a j < 100 := by
            have : ∀ k, zt_gy O A a k ≤ 6 + 0 ∨ True := fun _ => Or.inr trivial
            clear this
            have : ∀ k, k ≤ n → zt_gy O A a k ≤ 6 := by
              intro k
              induction k with
              | zero => intro _; exact Nat.zero_le _
              | succ k ih2 =>
                intro hk
                have i2 := ih2 (by omega)
                by_cases w : a k = 0
                · rw [show zt_gy O A a (k + 1) = zt_gy O A a k by show (if _ then _ else _) = _; rw [if_pos w]]; exact i2
                · obtain ⟨_, _, r1, r2, r3, _⟩ := hat k (by omega) w
                  show (if _ then _ else _) ≤ 6
                  rw [if_neg w]
                  split <;> omega
            have := this j (by omega)
            omega
          have fin : ∀ g, g = zt_gy O A a (j + 1) → kY_take_199 post (kY_take_69 post (nI m) (d + 1)) (nI m) (nI j) (nI (zh_ht (a j))) (mY fp h2 (zt_cp (fun i => O (192 + i)) O m (j + 1)) (zt_cp (fun i => A (192 + i)) A m (j + 1)) (upd L m (nI n)) (upd F m (F 8)) (upd T m (T 8)) (upd G m (G 8)) (upd W m (nI (9 + g))) (upd (zt_cp (zt_rmY a K) M m j) (24 * m + j) (-1)) (upd cd m 0) lk a K beh u) := by
            intro g eg
            subst eg
            refine y_take214 hm (by omega) hH ?_
            rw [show upd (upd (zt_cp (zt_rmY a K) M m j) (24 * m + j) (-1)) (24 * m + j) (zt_mk K j (6 + zh_ht (a j))) = zt_cp (zt_rmY a K) M m (j + 1) by
              rw [← zt_cps (x := zt_mk K j (6 + zh_ht (a j))) (by unfold zt_rmY; rw [if_neg w])]
              funext k; unfold upd; split <;> rfl]
            exact ih (j + 1) h2 beh (by omega)
          have eg : zt_gy O A a (j + 1) = if q ≤ zt_gy O A a j then zt_gy O A a j else q := by
            rw [eq]
            show (if _ then _ else _) = _
            rw [if_neg w]
          refine uY_take_172 ⟨v8, ?_⟩
          rw [cm, mY_words, pk_us, show (9 : Int32) = nI 9 from rfl, nI_add]
          refine br_i (nI_leI (by omega) (by omega)) (fun w2 => fin _ (by rw [eg, if_pos (by omega)])) (fun w2 => ⟨v8, nm_e ?_⟩)
          rw [mY__words, upup]
          exact fin q (by rw [eg, if_neg (by omega)])
        refine br_i (nI_leI (by omega) (by omega)) (fun w2 => go _ (by omega) _) (fun w2 => go _ (by omega) _)
  refine upY_take ⟨v9, nm_e ⟨v9, nm_e ⟨v9, nm_e ⟨v9, nm_e ⟨v8, nm_e ⟨v8, nm_e ⟨n + 1, ?_⟩⟩⟩⟩⟩⟩⟩
  rw [cm, mY_length, mY_from, mY_to, mY_goal, mY_words, mY_coded, zv_b0, mY__length_from_to_goal_words_coded, en]
  have q := z n 0 hh b (by omega)
  rw [zt_cp0, zt_cp0, zt_cp0] at q
  exact q
end
section
/-! the relation -/
def zw_op (O : Nat → Int32) (k : Nat) : Nat := (O k).toNatClampNeg
def zw_P (O A : Nat → Int32) (k : Nat) : Nat := zt_pops (zw_op O k) (A k)
def zw_Q (O : Nat → Int32) (k : Nat) : Nat := zt_push (zw_op O k)
/-- kinds behind an instruction: b is the lowest cell popped or pushed -/
def zw_bh (rf : Nat → Int32) (o : Nat) (a : Int32) (K : Nat → Nat) (b e : Nat) : Nat := if o = 3 then (if e = a.toNatClampNeg then K b else K e) else if o = 2 then (if e = b then K a.toNatClampNeg else K e) else if o = 20 then (if e = b ∨ e = b + 1 then K b else K e) else if e = b then zk_pk rf o a else K e
/-- where an instruction leads: the height and the kinds there -/
def zw_go (rf O A : Nat → Int32) (H : Nat → Nat) (R : Nat → Prop) (K : Nat → Nat → Nat) (m n k t : Nat) : Prop :=
  t < n ∧ R (24 * m + t) ∧ H (24 * m + t) = H k - zw_P O A k + zw_Q O k ∧ ∀ e, e < 6 + H (24 * m + t) → (K (24 * m + t) e = 1 ∨ K (24 * m + t) e = 2) → zw_bh rf (zw_op O k) (A k) (K k) (6 + H k - zw_P O A k) e = K (24 * m + t) e
def zw_ca (F T G : Nat → Int32) (H : Nat → Nat) (R : Nat → Prop) (K : Nat → Nat → Nat) (m n i : Nat) : Prop :=
  zh_cg F T m (nI i) → ∃ g, g < n ∧ G m = nI g ∧ R (24 * m + g) ∧ H (24 * m + g) = 1 ∧ K (24 * m + g) 6 ≠ 2 ∧ ∀ e, e < 6 → (K (24 * m + g) e = 1 ∨ K (24 * m + g) e = 2) → K (24 * m + i) e = K (24 * m + g) e
/-- what looking through has found of one instruction that is reached -/
def zw_at (up fc rf O A F T G RM BH : Nat → Int32) (H : Nat → Nat) (R : Nat → Prop) (K : Nat → Nat → Nat) (m n i : Nat) : Prop :=
  zi_ok (O (24 * m + i)) (A (24 * m + i)) ∧ H (24 * m + i) ≤ 6 ∧ zw_P O A (24 * m + i) ≤ H (24 * m + i) ∧ H (24 * m + i) - zw_P O A (24 * m + i) + zw_Q O (24 * m + i) ≤ 6 ∧ BH (24 * m + i) = nI (H (24 * m + i)) ∧
  (∀ e, e < 32 → (bt (RM (24 * m + i)) e = true ↔ e < 6 + H (24 * m + i) ∧ K (24 * m + i) e = 2)) ∧
  (∀ j, j < zw_P O A (24 * m + i) → zy_nd rf m (zw_op O (24 * m + i)) (A (24 * m + i)) j ≠ 0 → K (24 * m + i) (5 + H (24 * m + i) - j) = zy_nd rf m (zw_op O (24 * m + i)) (A (24 * m + i)) j) ∧
  (zw_op O (24 * m + i) = 2 → K (24 * m + i) (A (24 * m + i)).toNatClampNeg = 1 ∨ K (24 * m + i) (A (24 * m + i)).toNatClampNeg = 2) ∧
  (zt_jump (zw_op O (24 * m + i)) → zw_go rf O A H R K m n (24 * m + i) (A (24 * m + i)).toNatClampNeg) ∧ (zt_fall (zw_op O (24 * m + i)) → zw_go rf O A H R K m n (24 * m + i) (i + 1)) ∧ zw_ca F T G H R K m n i ∧
  (zw_op O (24 * m + i) = 12 ∨ zw_op O (24 * m + i) = 15 → zc_is up (A (24 * m + i))) ∧ (zw_op O (24 * m + i) = 13 ∨ zw_op O (24 * m + i) = 14 → zy_fd up fc (A (24 * m + i)))
/-- a body -/
def zw_OK (up fc rf O A L F T G RM BH FW : Nat → Int32) (H : Nat → Nat) (R : Nat → Prop) (K : Nat → Nat → Nat) (m : Nat) : Prop :=
  ∃ n, 0 < n ∧ n ≤ 24 ∧ L m = nI n ∧ R (24 * m) ∧ H (24 * m) = 0 ∧ (∀ e, e < 6 → (K (24 * m) e = 1 ∨ K (24 * m) e = 2) → K (24 * m) e = zy_in m e) ∧ (∃ w, 9 ≤ w ∧ w ≤ 15 ∧ FW m = nI w) ∧
  (∀ i, i < 24 → R (24 * m + i) → i < n) ∧ (∀ i, i < n → ¬ R (24 * m + i) → RM (24 * m + i) = -1) ∧ ∀ i, i < n → R (24 * m + i) → zw_at up fc rf O A F T G RM BH H R K m n i
def zq_own (sl : Nat → Int32) : Prop := ∀ c, c < 4 → ∀ s, s < 4 → sl (4 * c + s) = -1 ∨ ∃ m, sl (4 * c + s) = nI m ∧ ((s < 2 ∧ (m = 2 ∨ m = 3)) ∨ (2 ≤ s ∧ (m = 4 ∨ m = 5)))
def zq_ini (f : Nat → Int32) : Prop := ∀ c, c < 4 → f c = -1 ∨ f c = nI 0 ∨ f c = nI 1
/-- what is fixed while a run goes on -/
def zR_s (u : SX) (v : SY) : Prop :=
  (gX_superOf u = gY_up v ∧ gX_ownMethods u = gY_slots v ∧ gX_initialisers u = gY_first v ∧ gX_ops u = gY_ops v ∧ gX_operands u = gY_args v ∧ gX_lengths u = gY_length v ∧ gX_catchFrom u = gY_from v ∧ gX_catchTo u = gY_to v ∧ gX_refMaps u = gY_maps v ∧ gX_frameWords u = gY_words v) ∧
  zc_OK (gX_superOf u) (gY_ints v) (gY_references v) (gX_fieldCount u) (gX_refFields u) ∧ zq_own (gX_ownMethods u) ∧ zq_ini (gX_initialisers u) ∧ zr_OK (gX_ops u) (gX_operands u) (gX_lengths u) (gX_catchFrom u) (gX_catchTo u) ∧ zr_go (gX_catchFrom u) (gX_catchTo u) (gX_catchGoal u) (gY_goal v)
def zR_b (u : SX) (H : Nat → Nat) (R : Nat → Prop) (K : Nat → Nat → Nat) : Prop := ∀ m, m < 8 → gX_lengths u m ≠ 0 → zw_OK (gX_superOf u) (gX_fieldCount u) (gX_refFields u) (gX_ops u) (gX_operands u) (gX_lengths u) (gX_catchFrom u) (gX_catchTo u) (gX_catchGoal u) (gX_refMaps u) (gX_bodyHeights u) (gX_frameWords u) H R K m
/-- code of one instruction: lo is the lowest cell -/
def zx_co (o : Nat) (a : Int32) (lo : Nat) (co cc ca : Int32) : Prop :=
  (o = 0 ∧ co = 24 ∧ cc = nI lo ∧ ca = a) ∨ (o = 1 ∧ co = 24 ∧ cc = nI lo ∧ ca = 0) ∨ (o = 2 ∧ co = 25 ∧ cc = nI lo ∧ ca = a) ∨ (o = 3 ∧ co = 25 ∧ cc = a ∧ ca = nI lo) ∨ (o = 20 ∧ co = 25 ∧ cc = nI (lo + 1) ∧ ca = nI lo) ∨ (o = 21 ∧ co = 26 ∧ cc = nI lo ∧ ca = 0) ∨ ((o = 9 ∨ o = 10) ∧ co = 27 ∧ cc = nI lo ∧ ca = a) ∨ (o = 16 ∧ (co = 16 ∨ co = 28) ∧ cc = nI lo ∧ ca = a) ∨ (o ≠ 0 ∧ o ≠ 1 ∧ o ≠ 2 ∧ o ≠ 3 ∧ o ≠ 20 ∧ o ≠ 21 ∧ o ≠ 9 ∧ o ≠ 10 ∧ o ≠ 16 ∧ co = nI o ∧ cc = nI lo ∧ ca = a)
def zR_c1 (O A L CO CC CA cd lk : Nat → Int32) (H : Nat → Nat) (R : Nat → Prop) : Prop :=
  (∀ m, m < 8 → (cd m = 0 ∨ cd m = 1) ∧ (cd m = 0 ↔ CO (24 * m) = 0) ∧ (cd m = 1 → L m ≠ 0) ∧ ∀ i, i < 24 → ((cd m = 0 ∨ ¬ R (24 * m + i)) → CO (24 * m + i) = 0) ∧ (cd m = 1 → R (24 * m + i) → zx_co (zw_op O (24 * m + i)) (A (24 * m + i)) (6 + H (24 * m + i) - zw_P O A (24 * m + i)) (CO (24 * m + i)) (CC (24 * m + i)) (CA (24 * m + i)))) ∧
  (∀ k, k < 192 → (lk k = 0 ∨ lk k = 1) ∧ (lk k = 1 ↔ CO k = 28))
def zR_c (u : SX) (v : SY) (H : Nat → Nat) (R : Nat → Prop) : Prop := zR_c1 (gX_ops u) (gX_operands u) (gX_lengths u) (gX_codeOps u) (gX_codeCells u) (gX_codeArgs u) (gY_coded v) (gY_linked v) H R
/-- references: p says where X has Y's objects, l is Y's objects in X's order -/
def zl_ref (p : Nat → Nat) (l : List Nat) (y x : Int32) : Prop := ∃ o, (o = 0 ∨ o ∈ l) ∧ y = nI o ∧ x = nI (p o)
def zl_val (p : Nat → Nat) (l : List Nat) (k : Nat) (y x : Int32) : Prop := (k = 1 → y = x) ∧ (k = 2 → zl_ref p l y x)
/-- one object: o on Y's side, at q on X's -/
def zl_ob (up fc rf of fl hp : Nat → Int32) (p : Nat → Nat) (l : List Nat) (o q : Nat) : Prop :=
  ∃ c n, c < 4 ∧ up c ≠ -2 ∧ of o = nI (c + 1) ∧ hp q = nI c ∧ fc c = nI n ∧ n ≤ 16 ∧ p o = q ∧ ∀ j, j < n → zl_val p l (if bt (rf c) j then 2 else 1) (fl (16 * o + j)) (hp (q + 1 + j))
def zl_sz (fc of : Nat → Int32) (o : Nat) : Nat := 1 + (fc ((of o).toNatClampNeg - 1)).toNatClampNeg
/-- objects laid one behind another, from q on up to e -/
def zl_lay (up fc rf of fl hp : Nat → Int32) (p : Nat → Nat) (l : List Nat) : List Nat → Nat → Nat → Prop
  | [], q, e => q = e
  | o :: t, q, e => zl_ob up fc rf of fl hp p l o q ∧ zl_lay up fc rf of fl hp p l t (q + zl_sz fc of o) e
def zl_set (of : Nat → Int32) (l : List Nat) : Prop := l.Nodup ∧ of 0 = 0 ∧ ∀ o, o ∈ l ↔ 1 ≤ o ∧ o ≤ 48 ∧ of o ≠ 0
def zR_h1 (up fc rf of fl hp gx gy : Nat → Int32) (he us : Int32) (p : Nat → Nat) (l : List Nat) : Prop :=
  zl_set of l ∧ p 0 = 0 ∧ (∃ e, 1 ≤ e ∧ e ≤ 49 ∧ he = nI e ∧ us = nI (e - 1) ∧ zl_lay up fc rf of fl hp p l l 1 e) ∧ ∀ g, g < 4 → zl_ref p l (gy g) (gx g)
def zR_h (u : SX) (v : SY) (p : Nat → Nat) (l : List Nat) : Prop := zR_h1 (gX_superOf u) (gX_fieldCount u) (gX_refFields u) (gY_of v) (gY_fields v) (gX_heap u) (gX_globals u) (gY_globals v) (gX_heapEnd u) (gY_used v) p l
/-- counts, and what both sides keep alike also while a run goes on -/
def zR_n (u : SX) (v : SY) : Prop := gX_ready u = gY_ready v ∧ gX_frameMethod u = gY_method v ∧ gX_framePlace u = gY_at v ∧ gX_frameWordsUsed u = gY_room v ∧ gX_collections u = gY_collections v ∧ gX_stayed u = gY_stayed v ∧ gX_turnedCount u = gY_codes v ∧ gX_linkedCount u = gY_links v ∧ gX_lastResult u = gY_result v
def zR_t (u : SX) (v : SY) : Prop := gX_wanted u = -1 ∧ gX_faultPlace u = gY_fault v ∧ gX_lastOrigin u = gY_origin v ∧ gX_done u = gY_steps v
/-- the relation at the head of a turn -/
def i_Rel (k : Nat) (u : SX) (v : SY) : Prop := ∃ (H : Nat → Nat) (R : Nat → Prop) (K : Nat → Nat → Nat) (p : Nat → Nat) (l : List Nat), zR_s u v ∧ zR_b u H R K ∧ zR_c u v H R ∧ zR_h u v p l ∧ zR_n u v ∧ zR_t u v
theorem i_up {k : Nat} {u : SX} {v : SY} (h : i_Rel k u v) : i_Rel (k + 5) u v := h
end
section
/-! the draft as a body -/
/-- all that looking through has found: X's and Y's arrays behind it -/
def zd_ok (up fc rf O A F T G a xi xr K : Nat → Int32) (n m : Nat) : Prop :=
  m < 8 ∧ zk_env O A F T G a n ∧ zh_F (zh_E O A F T G n) n a ∧ (∀ i, i < n → a i ≠ 0 → a i = nI (2 ^ zh_ht (a i))) ∧ zk_FX rf O A F T G a n m 1 xi ∧ zk_FX rf O A F T G a n m 2 xr ∧ zy_F rf O A F T G a n m K ∧
  (∀ i, i < n → ¬ zf_kY rf O A a K m i) ∧ (∀ i, i < n → ¬ zm_bad up fc O A n i)
/-- kinds as plain numbers -/
def zd_k (K : Nat → Int32) (i e : Nat) : Nat := if K (12 * i + e) = 1 then 1 else if K (12 * i + e) = 2 then 2 else 0
theorem zd_k1 {K : Nat → Int32} {i e : Nat} : zd_k K i e = 1 ↔ K (12 * i + e) = 1 := by
  unfold zd_k
  constructor
  · intro h
    split at h
    · assumption
    · split at h <;> omega
  · intro h; rw [if_pos h]
theorem zd_k2 {K : Nat → Int32} {i e : Nat} : zd_k K i e = 2 ↔ K (12 * i + e) = 2 := by
  unfold zd_k
  constructor
  · intro h
    split at h
    · omega
    · split at h
      · assumption
      · omega
  · intro h; rw [if_neg (by rw [h]; decide), if_pos h]
theorem zd_vbh {f : Nat → Prop} {rf : Nat → Int32} {K : Nat → Nat} {q o b e : Nat} {a : Int32} (h : ∀ s, (s < b ∨ (s = b ∧ (o = 3 ∨ o = 20)) ∨ (s = a.toNatClampNeg ∧ o = 2)) → f s → K s = q) (ha : o = 3 → a.toNatClampNeg < b) (v : zk_v f (zk_pk rf o a = q) o a.toNatClampNeg b e) : zw_bh rf o a K b e = q := by
  unfold zw_bh
  rcases v with ⟨v1, v⟩ | ⟨v1, v⟩ | ⟨v1, v⟩ | ⟨v1, v2, v3, v⟩
  · rw [if_pos v1]
    rcases v with ⟨v2, v⟩ | ⟨v2, v3, v⟩
    · rw [if_pos v2]; exact h _ (Or.inr (Or.inl ⟨rfl, Or.inl v1⟩)) v
    · rw [if_neg v2]; exact h _ (Or.inl v3) v
  · rw [if_neg (by omega), if_pos v1]
    rcases v with ⟨v2, v⟩ | ⟨v2, v⟩
    · rw [if_neg (by omega)]; exact h _ (Or.inl v2) v
    · rw [if_pos v2]; exact h _ (Or.inr (Or.inr ⟨rfl, v1⟩)) v
  · rw [if_neg (by omega), if_neg (by omega), if_pos v1]
    rcases v with ⟨v2, v⟩ | ⟨v2, v⟩
    · rw [if_neg (by omega)]; exact h _ (Or.inl v2) v
    · rw [if_pos v2]; exact h _ (Or.inr (Or.inl ⟨rfl, Or.inr v1⟩)) v
  · rw [if_neg v1, if_neg v2, if_neg v3]
    rcases v with ⟨v4, v⟩ | ⟨v4, v⟩
    · rw [if_neg (by omega)]; exact h _ (Or.inl v4) v
    · rw [if_pos v4]; exact v
theorem zy_in12 : ∀ m, m < 8 → ∀ e, e < 6 → (bt (nI (zt_ti m)) e = true → zy_in m e = 1) ∧ (bt (nI (zt_tr m)) e = true → zy_in m e = 2) := by decide
theorem zw_new {up fc rf O A F T G a xi xr K : Nat → Int32} {n m : Nat} (hd : zd_ok up fc rf O A F T G a xi xr K n m) (hfc : ∀ p, zc_is up p → ∃ w, w ≤ 16 ∧ zc_at fc p = nI w)
  {O' A' L' F' T' G' RM' BH' FW' : Nat → Int32} {H : Nat → Nat} {R : Nat → Prop} {k : Nat → Nat → Nat} {w : Nat}
  (eO : ∀ i, i < n → O' (24 * m + i) = O (192 + i)) (eA : ∀ i, i < n → A' (24 * m + i) = A (192 + i)) (eL : L' m = nI n) (eF : F' m = F 8) (eT : T' m = T 8) (eG : G' m = G 8) (eR : ∀ i, i < n → RM' (24 * m + i) = zt_rm a xr i) (eB : ∀ i, i < n → BH' (24 * m + i) = nI (zh_ht (a i))) (eW : FW' m = nI w) (hw : 9 ≤ w ∧ w ≤ 15)
  (gH : ∀ i, i < 24 → H (24 * m + i) = zh_ht (a i)) (gR : ∀ i, i < 24 → (R (24 * m + i) ↔ i < n ∧ a i ≠ 0)) (gK : ∀ i, i < 24 → k (24 * m + i) = zd_k K i) :
  zw_OK up fc rf O' A' L' F' T' G' RM' BH' FW' H R k m := by
  obtain ⟨hm, env, hF, hs, f1, f2, fy, nk, nm⟩ := hd
  obtain ⟨hn, hn0, ho, hg, hj, hf, hP⟩ := id env
  have mg := fun i hi h0 => zk_merge hm env hF hs f1 f2 fy (i := i) hi h0
  have fst := zh_first hn0 hF hs
  have h12 : zh_ht (a 0) = 0 := fst.2
  have m0 := mg 0 hn0 fst.1
  have z0 : (24 * m : Nat) = 24 * m + 0 := rfl
  refine ⟨n, hn0, hn, eL, (gR 0 (by omega)).mpr ⟨hn0, fst.1⟩, (gH 0 (by omega)).trans h12, ?_, ⟨w, hw.1, hw.2, eW⟩, fun i hi r => ((gR i hi).mp r).1, ?_, ?_⟩
  · intro e he q
    rw [z0, gK 0 (by omega)] at q ⊢
    have t := zy_in12 m hm e he
    have me := m0.1 e (by omega)
    rcases q with q | q
    · rw [q]
      have b := me.1.mpr (zd_k1.mp q)
      exact (t.1 (f1.1.1 e (by omega) b)).symm
    · rw [q]
      have b := me.2.mpr (zd_k2.mp q)
      exact (t.2 (f2.1.1 e (by omega) b)).symm
  · intro i hi r
    rw [eR i hi]
    unfold zt_rm
    by_cases q : a i = 0
    · rw [if_pos q]
    · exact absurd ((gR i (by omega)).mpr ⟨hi, q⟩) r
  · intro i hi r
    have h0 := ((gR i (by omega)).mp r).2
    have oo := ho i hi
    have fa := zk_facts oo
    have p := hP i hi h0
    have me := mg i hi h0
    have H6 := zh_ht6 (a i)
    have eop : zw_op O' (24 * m + i) = zh_op O i := by unfold zw_op zh_op; rw [eO i hi]
    have eP : zw_P O' A' (24 * m + i) = zh_P O A i := by unfold zw_P zh_P; rw [eop, eA i hi]
    have eQ : zw_Q O' (24 * m + i) = zh_Q O i := by unfold zw_Q zh_Q; rw [eop]
    have hb : zk_b O A a i = 6 + zh_ht (a i) - zh_P O A i := rfl
    have P2 : zh_P O A i ≤ 2 := zt_pops2 _ _
    unfold zw_at zw_ca
    rw [eop, eP, eQ, eO i hi, eA i hi, gH i (by omega), gK i (by omega), eB i hi, eR i hi, eG]
    -- the kinds where i leads
    have lead : ∀ t, t < n → zk_t O A i t → zw_go rf O' A' H R k m n (24 * m + i) t := by
      intro t ht w
      have nx := zh_next hF hs hi (zh_reached hF hs hi h0) (j := t) (k := zh_ht (a i) - zh_P O A i + zh_Q O i) ⟨ht, Or.inl ⟨p.1, p.2, rfl, w⟩⟩
      unfold zw_go
      rw [eop, eP, eQ, eA i hi, gH i (by omega), gK i (by omega), gH t (by omega), gK t (by omega)]
      have mt := mg t ht nx.1
      refine ⟨ht, (gR t (by omega)).mpr ⟨ht, nx.1⟩, nx.2.1, fun e he q => ?_⟩
      have src : ∀ s, (s < 6 + zh_ht (a i) - zh_P O A i ∨ (s = 6 + zh_ht (a i) - zh_P O A i ∧ (zh_op O i = 3 ∨ zh_op O i = 20)) ∨ (s = (A (192 + i)).toNatClampNeg ∧ zh_op O i = 2)) → s < 6 + zh_ht (a i) := by
        rintro s (h | ⟨h, h2 | h2⟩ | ⟨h, h2⟩)
        · omega
        · have := (fa.2.1 h2).1; omega
        · have := (fa.2.2.2.1 h2).1; omega
        · have := (fa.2.2.1 h2).2.2; omega
      have e12 : e < 12 := by have := zh_ht6 (a t); omega
      have ha3 : zh_op O i = 3 → (A (192 + i)).toNatClampNeg < 6 + zh_ht (a i) - zh_P O A i := by
        intro h; have := fa.2.1 h; omega
      rcases q with q | q
      · rw [q]
        have b := (mt.1 e he).1.mpr (zd_k1.mp q)
        exact zd_vbh (fun s h fs => zd_k1.mpr ((me.1 s (src s h)).1.mp fs)) ha3 ((f1.1.2 i hi h0).1 t ht w e e12 b)
      · rw [q]
        have b := (mt.1 e he).2.mpr (zd_k2.mp q)
        exact zd_vbh (fun s h fs => zd_k2.mpr ((me.1 s (src s h)).2.mp fs)) ha3 ((f2.1.2 i hi h0).1 t ht w e e12 b)
    refine ⟨oo, H6, p.1, p.2, rfl, ?_, ?_, ?_, ?_, ?_, ?_, ?_, ?_⟩
    · intro e he
      unfold zt_rm
      rw [if_neg h0]
      constructor
      · intro b
        by_cases q : e < 6 + zh_ht (a i)
        · exact ⟨q, zd_k2.mpr ((me.1 e q).2.mp b)⟩
        · rw [me.2 e (by omega) he] at b; exact absurd b (by decide)
      · rintro ⟨q1, q2⟩
        exact (me.1 e q1).2.mpr (zd_k2.mp q2)
    · intro j hj2 nd
      have nd3 := zy_nd3 rf m (zh_op O i) (A (192 + i)) j fa.1
      have : K (12 * i + 5 + zh_ht (a i) - j) = nI (zy_nd rf m (zh_op O i) (A (192 + i)) j) := by
        by_cases q : K (12 * i + 5 + zh_ht (a i) - j) = nI (zy_nd rf m (zh_op O i) (A (192 + i)) j)
        · exact q
        · exact absurd ⟨h0, Or.inr ⟨j, hj2, nd, q⟩⟩ (nk i hi)
      rw [show 12 * i + 5 + zh_ht (a i) - j = 12 * i + (5 + zh_ht (a i) - j) by omega] at this
      have c : zy_nd rf m (zh_op O i) (A (192 + i)) j = 1 ∨ zy_nd rf m (zh_op O i) (A (192 + i)) j = 2 := by omega
      rcases c with c | c
      · rw [c] at this ⊢; exact zd_k1.mpr this
      · rw [c] at this ⊢; exact zd_k2.mpr this
    · intro o2
      by_cases q1 : K (12 * i + (A (192 + i)).toNatClampNeg) = 1
      · exact Or.inl (zd_k1.mpr q1)
      · by_cases q2 : K (12 * i + (A (192 + i)).toNatClampNeg) = 2
        · exact Or.inr (zd_k2.mpr q2)
        · exact absurd ⟨h0, Or.inl ⟨o2, q1, q2⟩⟩ (nk i hi)
    · intro w
      obtain ⟨t, ht, et⟩ := hj i hi w
      rw [et, nI_clamp (by omega)]
      exact lead t ht (Or.inl ⟨w, et⟩)
    · intro w
      exact lead (i + 1) (hf i hi h0 w) (Or.inr ⟨w, rfl⟩)
    · intro w
      have w : zh_cg F T 8 (nI i) := by
        unfold zh_cg at w ⊢; rw [eF, eT] at w; exact w
      obtain ⟨g, hg2, eg⟩ := hg i hi w
      have nx := zh_next hF hs hi (zh_reached hF hs hi h0) (j := g) (k := 1) ⟨hg2, Or.inr ⟨w, eg, rfl⟩⟩
      have mt := mg g hg2 nx.1
      refine ⟨g, hg2, eg, (gR g (by omega)).mpr ⟨hg2, nx.1⟩, (gH g (by omega)).trans nx.2.1, ?_, ?_⟩
      · rw [gK g (by omega)]
        intro q
        have b := (mt.1 6 (by omega)).2.mpr (zd_k2.mp q)
        rcases (f2.1.2 i hi h0).2 w g hg2 eg 6 (by decide) b with ⟨q, _⟩ | ⟨q, _⟩
        · omega
        · exact absurd q (by decide)
      · intro e he q
        rw [gK g (by omega)] at q ⊢
        rcases q with q | q
        · rw [q]
          have b := (mt.1 e (by omega)).1.mpr (zd_k1.mp q)
          rcases (f1.1.2 i hi h0).2 w g hg2 eg e (by omega) b with ⟨_, b2⟩ | ⟨_, b2⟩
          · exact zd_k1.mpr ((me.1 e (by omega)).1.mp b2)
          · omega
        · rw [q]
          have b := (mt.1 e (by omega)).2.mpr (zd_k2.mp q)
          rcases (f2.1.2 i hi h0).2 w g hg2 eg e (by omega) b with ⟨_, b2⟩ | ⟨_, b2⟩
          · exact zd_k2.mpr ((me.1 e (by omega)).2.mp b2)
          · omega
    · intro w
      by_cases q : zc_is up (A (192 + i))
      · exact q
      · exact absurd (Or.inr (Or.inl ⟨w, q⟩)) (nm i hi)
    · intro w
      by_cases q : zc_is up (nI ((A (192 + i)).toNatClampNeg / 16)) ∧ nI ((A (192 + i)).toNatClampNeg % 16) < zc_at fc (nI ((A (192 + i)).toNatClampNeg / 16))
      · obtain ⟨o24, eo, fo⟩ := zi_of oo
        have ep : zh_op O i = (O (192 + i)).toNatClampNeg := rfl
        rw [← ep] at o24 eo fo
        obtain ⟨j, hj2, ej⟩ := zi_fj fo (show zi_lim (zh_op O i) = 64 by rcases w with w | w <;> rw [w] <;> rfl) (by decide)
        have ec : (A (192 + i)).toNatClampNeg = j := by rw [ej, nI_clamp (by omega)]
        rw [ec] at q
        obtain ⟨x, hx, ex⟩ := hfc _ q.1
        rw [ex] at q
        have lt := (nI_ltI (by omega) (by omega)).mp q.2
        rw [zc_atc (by omega)] at ex
        obtain ⟨c, hc, e2, u2⟩ := q.1
        have : j / 16 = c := (nI_eq (by omega) (by omega)).mp e2
        rw [this] at ex
        exact ⟨j, hj2, ej, by rw [this]; exact u2, x, by rw [this]; exact ex, by omega, hx⟩
      · exact absurd (Or.inr (Or.inr ⟨w, q⟩)) (nm i hi)
/-- other bodies stay -/
theorem zw_keep {up fc rf O A L F T G RM BH FW O' A' L' F' T' G' RM' BH' FW' : Nat → Int32} {H H' : Nat → Nat} {R R' : Nat → Prop} {K K' : Nat → Nat → Nat} {m : Nat} (h : zw_OK up fc rf O A L F T G RM BH FW H R K m)
  (eO : ∀ i, i < 24 → O' (24 * m + i) = O (24 * m + i)) (eA : ∀ i, i < 24 → A' (24 * m + i) = A (24 * m + i)) (eL : L' m = L m) (eF : F' m = F m) (eT : T' m = T m) (eG : G' m = G m) (eR : ∀ i, i < 24 → RM' (24 * m + i) = RM (24 * m + i)) (eB : ∀ i, i < 24 → BH' (24 * m + i) = BH (24 * m + i)) (eW : FW' m = FW m)
  (gH : ∀ i, i < 24 → H' (24 * m + i) = H (24 * m + i)) (gR : ∀ i, i < 24 → (R' (24 * m + i) ↔ R (24 * m + i))) (gK : ∀ i, i < 24 → K' (24 * m + i) = K (24 * m + i)) : zw_OK up fc rf O' A' L' F' T' G' RM' BH' FW' H' R' K' m := by
  obtain ⟨n, hn0, hn, e1, r0, h0, k0, w, r1, r2, at_⟩ := h
  have z0 : (24 * m : Nat) = 24 * m + 0 := rfl
  refine ⟨n, hn0, hn, eL.trans e1, (gR 0 (by omega)).mpr r0, (gH 0 (by omega)).trans h0, ?_, by rw [eW]; exact w, fun i hi r => r1 i hi ((gR i hi).mp r), fun i hi r => (eR i (by omega)).trans (r2 i hi (fun q => r ((gR i (by omega)).mpr q))), ?_⟩
  · rw [z0, gK 0 (by omega)]; exact k0
  · intro i hi r
    have r' := (gR i (by omega)).mp r
    obtain ⟨a1, a2, a3, a4, a5, a6, a7, a8, a9, a10, a11, a12, a13⟩ := at_ i hi r'
    have eop : zw_op O' (24 * m + i) = zw_op O (24 * m + i) := by unfold zw_op; rw [eO i (by omega)]
    have eP : zw_P O' A' (24 * m + i) = zw_P O A (24 * m + i) := by unfold zw_P; rw [eop, eA i (by omega)]
    have eQ : zw_Q O' (24 * m + i) = zw_Q O (24 * m + i) := by unfold zw_Q; rw [eop]
    have go : ∀ t, zw_go rf O A H R K m n (24 * m + i) t → zw_go rf O' A' H' R' K' m n (24 * m + i) t := by
      intro t g
      have ht : t < n := g.1
      unfold zw_go at g ⊢
      rw [eop, eP, eQ, eA i (by omega), gH i (by omega), gK i (by omega), gH t (by omega), gK t (by omega)]
      exact ⟨g.1, (gR t (by omega)).mpr g.2.1, g.2.2⟩
    unfold zw_at
    rw [eop, eP, eQ, eO i (by omega), eA i (by omega), gH i (by omega), gK i (by omega), eB i (by omega), eR i (by omega)]
    refine ⟨a1, a2, a3, a4, a5, a6, a7, a8, fun w => go _ (a9 w), fun w => go _ (a10 w), ?_, a12, a13⟩
    intro w
    obtain ⟨g, b1, b2, b3, b4, b5, b6⟩ := a11 (by unfold zh_cg at w ⊢; rw [eF, eT] at w; exact w)
    refine ⟨g, b1, eG.trans b2, (gR g (by omega)).mpr b3, (gH g (by omega)).trans b4, ?_, ?_⟩
    · rw [gK g (by omega)]; exact b5
    · rw [gK g (by omega), gK i (by omega)]; exact b6
/-- the greatest height is the same either way -/
theorem zt_ghle {a : Nat → Int32} {B : Nat} : ∀ n, (zt_gh a n ≤ B ↔ ∀ i, i < n → a i ≠ 0 → zh_ht (a i) ≤ B) := by
  intro n
  induction n with
  | zero => exact ⟨fun _ i hi => absurd hi (by omega), fun _ => Nat.zero_le _⟩
  | succ n ih =>
    have e : zt_gh a (n + 1) = if (if a n = 0 then 0 else zh_ht (a n)) ≤ zt_gh a n then zt_gh a n else (if a n = 0 then 0 else zh_ht (a n)) := rfl
    generalize hq : (if a n = 0 then 0 else zh_ht (a n)) = q at e
    have b1 : zt_gh a (n + 1) ≤ B ↔ zt_gh a n ≤ B ∧ q ≤ B := by
      rw [e]
      split <;> omega
    rw [b1, ih]
    constructor
    · rintro ⟨h1, h2⟩ i hi z
      by_cases w : i = n
      · subst w
        rw [if_neg z] at hq
        omega
      · exact h1 i (by omega) z
    · intro h
      refine ⟨fun i hi z => h i (by omega) z, ?_⟩
      by_cases z : a n = 0
      · rw [if_pos z] at hq; omega
      · rw [if_neg z] at hq
        have := h n (by omega) z
        omega
theorem zt_gyle {O A a : Nat → Int32} {B : Nat} : ∀ n, (zt_gy O A a n ≤ B ↔ ∀ i, i < n → a i ≠ 0 → zh_ht (a i) ≤ B ∧ zh_ht (a i) - zh_P O A i + zh_Q O i ≤ B) := by
  intro n
  induction n with
  | zero => exact ⟨fun _ i hi => absurd hi (by omega), fun _ => Nat.zero_le _⟩
  | succ n ih =>
    have e : zt_gy O A a (n + 1) = if a n = 0 then zt_gy O A a n else if max (zh_ht (a n)) (zh_ht (a n) - zh_P O A n + zh_Q O n) ≤ zt_gy O A a n then zt_gy O A a n else max (zh_ht (a n)) (zh_ht (a n) - zh_P O A n + zh_Q O n) := rfl
    constructor
    · intro h i hi z
      rw [e] at h
      by_cases q : i = n
      · subst q
        rw [if_neg z] at h
        split at h <;> omega
      · refine ih.mp ?_ i (by omega) z
        split at h
        · exact h
        · split at h <;> omega
    · intro h
      have i1 := ih.mpr (fun i hi z => h i (by omega) z)
      rw [e]
      split
      · exact i1
      · rename_i z
        have := h n (by omega) z
        split <;> omega
theorem zt_geq {O A F T G a : Nat → Int32} {n : Nat} (env : zk_env O A F T G a n) (hF : zh_F (zh_E O A F T G n) n a) (hs : ∀ i, i < n → a i ≠ 0 → a i = nI (2 ^ zh_ht (a i))) : zt_gh a n = zt_gy O A a n := by
  obtain ⟨hn, hn0, ho, hg, hj, hf, hP⟩ := id env
  refine Nat.le_antisymm ?_ ?_
  · exact (zt_ghle n).mpr (fun i hi z => ((zt_gyle n).mp (Nat.le_refl _) i hi z).1)
  · refine (zt_gyle n).mpr (fun i hi z => ?_)
    have g := (zt_ghle n).mp (Nat.le_refl (zt_gh a n))
    have p := hP i hi z
    refine ⟨g i hi z, ?_⟩
    have gi := g i hi z
    have fa := zk_facts (ho i hi)
    have lead : ∀ t, t < n → zk_t O A i t → zh_ht (a i) - zh_P O A i + zh_Q O i ≤ zt_gh a n := by
      intro t ht w
      have nx := zh_next hF hs hi (zh_reached hF hs hi z) (j := t) (k := zh_ht (a i) - zh_P O A i + zh_Q O i) ⟨ht, Or.inl ⟨p.1, p.2, rfl, w⟩⟩
      have := g t ht nx.1
      omega
    by_cases w1 : zt_fall (zh_op O i)
    · exact lead (i + 1) (hf i hi z w1) (Or.inr ⟨w1, rfl⟩)
    · by_cases w2 : zt_jump (zh_op O i)
      · obtain ⟨t, ht, et⟩ := hj i hi w2
        exact lead t ht (Or.inl ⟨w2, et⟩)
      · have q0 : zh_Q O i = 0 := by
          have : ∀ o, o < 24 → zt_push o = 0 ∨ (o ≠ 8 ∧ o ≠ 18 ∧ o ≠ 19) := by decide
          rcases this _ fa.1 with q | q
          · exact q
          · exact absurd q w1
        omega
end
section
/-! make, on each side: four ways to end -/
theorem sX_fpm (x : Int32) (u : SX) : sX_faultPlace x u = (mX x (gX_ops u) (gX_operands u) (gX_lengths u) (gX_catchFrom u) (gX_catchTo u) (gX_catchGoal u) (gX_refMaps u) (gX_bodyHeights u) (gX_frameWords u) (gX_codeOps u) (gX_heights u) (gX_intKinds u) (gX_refKinds u) u) := rfl
theorem sY_fpm (x : Int32) (v : SY) : sY_fault x v = (mY x (gY_height v) (gY_ops v) (gY_args v) (gY_length v) (gY_from v) (gY_to v) (gY_goal v) (gY_words v) (gY_maps v) (gY_coded v) (gY_linked v) (gY_heights v) (gY_kinds v) (gY_behind v) v) := rfl
theorem zf_keq {rf O A F T G a xi xr K : Nat → Int32} {n m : Nat} (hm : m < 8) (env : zk_env O A F T G a n) (hF : zh_F (zh_E O A F T G n) n a) (hs : ∀ i, i < n → a i ≠ 0 → a i = nI (2 ^ zh_ht (a i)))
  (f1 : zk_FX rf O A F T G a n m 1 xi) (f2 : zk_FX rf O A F T G a n m 2 xr) (fy : zy_F rf O A F T G a n m K) {i : Nat} (hi : i < n) : zf_kX rf O A a xi xr m i ↔ zf_kY rf O A a K m i := by
  obtain ⟨hn, hn0, ho, hg, hj, hf, hP⟩ := id env
  by_cases h0 : a i = 0
  · exact ⟨fun w => absurd h0 w.1, fun w => absurd h0 w.1⟩
  have mg := zk_merge hm env hF hs f1 f2 fy hi h0
  have p := hP i hi h0
  have fa := zk_facts (ho i hi)
  have hb : zk_b O A a i = 6 + zh_ht (a i) - zh_P O A i := rfl
  have ix : ∀ k, k < zh_P O A i → zk_b O A a i + (zh_P O A i - 1 - k) = 5 + zh_ht (a i) - k := by intro k hk; omega
  have iy : ∀ k, k < zh_P O A i → 12 * i + 5 + zh_ht (a i) - k = 12 * i + (5 + zh_ht (a i) - k) := by intro k hk; omega
  unfold zf_kX zf_kY
  constructor
  · rintro ⟨_, ⟨k, hk, nd, b⟩ | ⟨k, hk, nd, b⟩ | ⟨o2, b1, b2⟩⟩
    · refine ⟨h0, Or.inr ⟨k, hk, by omega, ?_⟩⟩
      rw [nd, iy k hk]
      rw [ix k hk] at b
      intro w
      rw [(mg.1 _ (by omega)).1.mpr w] at b
      exact absurd b (by decide)
    · refine ⟨h0, Or.inr ⟨k, hk, by omega, ?_⟩⟩
      rw [nd, iy k hk]
      rw [ix k hk] at b
      intro w
      rw [(mg.1 _ (by omega)).2.mpr w] at b
      exact absurd b (by decide)
    · have a6 := (fa.2.2.1 o2).2.2
      refine ⟨h0, Or.inl ⟨o2, fun w => ?_, fun w => ?_⟩⟩
      · rw [(mg.1 _ (by omega)).1.mpr w] at b1; exact absurd b1 (by decide)
      · rw [(mg.1 _ (by omega)).2.mpr w] at b2; exact absurd b2 (by decide)
  · rintro ⟨_, ⟨o2, b1, b2⟩ | ⟨k, hk, nd, b⟩⟩
    · have a6 := (fa.2.2.1 o2).2.2
      exact ⟨h0, Or.inr (Or.inr ⟨o2, zb_f (fun w => b1 ((mg.1 _ (by omega)).1.mp w)), zb_f (fun w => b2 ((mg.1 _ (by omega)).2.mp w))⟩)⟩
    · have nd3 := zy_nd3 rf m (zh_op O i) (A (192 + i)) k fa.1
      have c : zy_nd rf m (zh_op O i) (A (192 + i)) k = 1 ∨ zy_nd rf m (zh_op O i) (A (192 + i)) k = 2 := by omega
      rw [iy k hk] at b
      rcases c with c | c
      · rw [c] at b
        refine ⟨h0, Or.inl ⟨k, hk, c, ?_⟩⟩
        rw [ix k hk]
        exact zb_f (fun w => b ((mg.1 _ (by omega)).1.mp w))
      · rw [c] at b
        refine ⟨h0, Or.inr (Or.inl ⟨k, hk, c, ?_⟩)⟩
        rw [ix k hk]
        exact zb_f (fun w => b ((mg.1 _ (by omega)).2.mp w))
/-- no fault of the first and second kind: what kinds need -/
theorem zk_mkenv {up fc O A F T G a : Nat → Int32} {n : Nat} (hn : n ≤ 24) (hn0 : 0 < n) (ho : ∀ i, i < n → zi_ok (O (192 + i)) (A (192 + i))) (hF : zh_F (zh_E O A F T G n) n a) (hgo : ∀ p, zh_cg F T 8 p → ¬ T 8 ≤ F 8 ∧ ∃ g, g ≤ 24 ∧ G 8 = nI g)
  (nm : ∀ i, i < n → ¬ zm_bad up fc O A n i) (ne : zm_end F T G n = -1) (nh : ∀ i, i < n → ¬ zf_hX O A n a i) : zk_env O A F T G a n ∧ ∀ i, i < n → a i ≠ 0 → a i = nI (2 ^ zh_ht (a i)) := by
  have ns : ∀ i, i < n → a i ≠ 0 → _ := fun i hi h0 => zh_single hF hi h0 (nh i hi)
  refine ⟨⟨hn, hn0, ho, ?_, ?_, fun i hi h0 => (ns i hi h0).2.1, fun i hi h0 => (ns i hi h0).2.2⟩, fun i hi h0 => (ns i hi h0).1⟩
  · intro i hi w
    obtain ⟨w1, g, hg, eg⟩ := hgo _ w
    have : ¬ (¬ T 8 ≤ F 8 ∧ (nI n < T 8 ∨ ¬ G 8 < nI n)) := by
      intro q
      unfold zm_end at ne
      rw [if_pos q] at ne
      exact absurd ne (by decide)
    have lt : G 8 < nI n := by
      by_cases q : G 8 < nI n
      · exact q
      · exact absurd ⟨w1, Or.inr q⟩ this
    rw [eg] at lt
    exact ⟨g, (nI_ltI (by omega) (by omega)).mp lt, eg⟩
  · intro i hi w
    obtain ⟨o24, eo, fo⟩ := zi_of (ho i hi)
    have ep : zh_op O i = (O (192 + i)).toNatClampNeg := rfl
    rw [← ep] at o24 eo fo
    obtain ⟨j, hj, ej⟩ := zi_fj fo (show zi_lim (zh_op O i) = 24 by rcases w with w | w | w <;> rw [w] <;> rfl) (by decide)
    refine ⟨j, ?_, ej⟩
    by_cases q : j < n
    · exact q
    · refine absurd (Or.inl ⟨w, ?_⟩) (nm i hi)
      rw [ej, nI_clamp (by omega)]; omega
theorem zm_24 {F T G : Nat → Int32} {n : Nat} : zm_end F T G n = -1 ∨ zm_end F T G n = 24 := by
  by_cases w : (¬ T 8 ≤ F 8 ∧ (nI n < T 8 ∨ ¬ G 8 < nI n))
  · exact Or.inr (if_pos w)
  · exact Or.inl (if_neg w)
theorem zm_pos {bad : Nat → Prop} {F T G : Nat → Int32} {n : Nat} (hn : n ≤ 24) (h : zm_f bad (zm_end F T G n) n 0 ≠ -1) : (0 : Int32) ≤ zm_f bad (zm_end F T G n) n 0 := by
  rcases zm_m (bad := bad) (e := zm_end F T G n) n 0 (by omega) with ⟨e, _⟩ | ⟨j, _, h2, e⟩
  · rw [e] at h ⊢
    rcases zm_24 (F := F) (T := T) (G := G) (n := n) with q | q
    · exact absurd q h
    · rw [q]; decide
  · rw [e]; exact nI_pos' (by omega)
theorem zf_pos {bad : Nat → Prop} {n : Nat} (hn : n ≤ 24) (h : zf bad n 0 ≠ -1) : (0 : Int32) ≤ zf bad n 0 := by
  rcases zf_m (bad := bad) n 0 (by omega) with ⟨e, _⟩ | ⟨j, _, h2, e⟩
  · exact absurd e h
  · rw [e]; exact nI_pos' (by omega)
theorem zf_all {bad : Nat → Prop} {n : Nat} (hn : n ≤ 24) (h : zf bad n 0 = -1) : ∀ i, i < n → ¬ bad i := by
  rcases zf_m (bad := bad) n 0 (by omega) with ⟨_, w⟩ | ⟨j, _, h2, e⟩
  · exact fun i hi => w i (by omega) (by omega)
  · rw [e] at h; exact absurd h (zn_m1 _ (by omega))
theorem zm_all {bad : Nat → Prop} {F T G : Nat → Int32} {n : Nat} (hn : n ≤ 24) (h : zm_f bad (zm_end F T G n) n 0 = -1) : zm_end F T G n = -1 ∧ ∀ i, i < n → ¬ bad i := by
  rcases zm_m (bad := bad) (e := zm_end F T G n) n 0 (by omega) with ⟨e, w⟩ | ⟨j, _, h2, e⟩
  · exact ⟨e.symm.trans h, fun i hi => w i (by omega) (by omega)⟩
  · rw [e] at h; exact absurd h (zn_m1 _ (by omega))
theorem x_make {post : Int32 → SX → Prop} {u : SX} {n m : Nat} (hm : m < 8) (hn0 : 0 < n) (hn : n ≤ 24) (en : gX_lengths u 8 = nI n) (ho : ∀ i, i < n → zi_ok (gX_ops u (192 + i)) (gX_operands u (192 + i)))
  (hgo : ∀ p, zh_cg (gX_catchFrom u) (gX_catchTo u) 8 p → ¬ gX_catchTo u 8 ≤ gX_catchFrom u 8 ∧ ∃ g, g ≤ 24 ∧ gX_catchGoal u 8 = nI g)
  (pA : ∀ w, w = zm_f (zm_bad (gX_superOf u) (gX_fieldCount u) (gX_ops u) (gX_operands u) n) (zm_end (gX_catchFrom u) (gX_catchTo u) (gX_catchGoal u) n) n 0 → w ≠ -1 → post (-1) (mX w (gX_ops u) (gX_operands u) (gX_lengths u) (gX_catchFrom u) (gX_catchTo u) (gX_catchGoal u) (gX_refMaps u) (gX_bodyHeights u) (gX_frameWords u) (gX_codeOps u) (gX_heights u) (gX_intKinds u) (gX_refKinds u) u))
  (pB : zm_f (zm_bad (gX_superOf u) (gX_fieldCount u) (gX_ops u) (gX_operands u) n) (zm_end (gX_catchFrom u) (gX_catchTo u) (gX_catchGoal u) n) n 0 = -1 → ∀ a, zh_F (zh_E (gX_ops u) (gX_operands u) (gX_catchFrom u) (gX_catchTo u) (gX_catchGoal u) n) n a → ∀ w, w = zf (zf_hX (gX_ops u) (gX_operands u) n a) n 0 → w ≠ -1 → post (-1) (mX w (gX_ops u) (gX_operands u) (gX_lengths u) (gX_catchFrom u) (gX_catchTo u) (gX_catchGoal u) (gX_refMaps u) (gX_bodyHeights u) (gX_frameWords u) (gX_codeOps u) a (gX_intKinds u) (gX_refKinds u) u))
  (pC : zm_f (zm_bad (gX_superOf u) (gX_fieldCount u) (gX_ops u) (gX_operands u) n) (zm_end (gX_catchFrom u) (gX_catchTo u) (gX_catchGoal u) n) n 0 = -1 → ∀ a xi xr, zh_F (zh_E (gX_ops u) (gX_operands u) (gX_catchFrom u) (gX_catchTo u) (gX_catchGoal u) n) n a → zf (zf_hX (gX_ops u) (gX_operands u) n a) n 0 = -1 → zk_env (gX_ops u) (gX_operands u) (gX_catchFrom u) (gX_catchTo u) (gX_catchGoal u) a n → (∀ i, i < n → a i ≠ 0 → a i = nI (2 ^ zh_ht (a i))) → zk_FX (gX_refFields u) (gX_ops u) (gX_operands u) (gX_catchFrom u) (gX_catchTo u) (gX_catchGoal u) a n m 1 xi → zk_FX (gX_refFields u) (gX_ops u) (gX_operands u) (gX_catchFrom u) (gX_catchTo u) (gX_catchGoal u) a n m 2 xr → ∀ w, w = zf (zf_kX (gX_refFields u) (gX_ops u) (gX_operands u) a xi xr m) n 0 → (w ≠ -1 → post (-1) (mX w (gX_ops u) (gX_operands u) (gX_lengths u) (gX_catchFrom u) (gX_catchTo u) (gX_catchGoal u) (gX_refMaps u) (gX_bodyHeights u) (gX_frameWords u) (gX_codeOps u) a xi xr u)) ∧ (w = -1 → post 0 (mX w (zt_cp (fun i => gX_ops u (192 + i)) (gX_ops u) m n) (zt_cp (fun i => gX_operands u (192 + i)) (gX_operands u) m n) (upd (upd (gX_lengths u) m (nI n)) 8 0) (upd (upd (gX_catchFrom u) m (gX_catchFrom u 8)) 8 0) (upd (upd (gX_catchTo u) m (gX_catchTo u 8)) 8 0) (upd (upd (gX_catchGoal u) m (gX_catchGoal u 8)) 8 0) (zt_cp (zt_rm a xr) (gX_refMaps u) m n) (zt_cp (fun i => nI (zh_ht (a i))) (gX_bodyHeights u) m n) (upd (gX_frameWords u) m (nI (9 + zt_gh a n))) (zt_ul (zt_cp (fun _ => 0) (gX_codeOps u) m 24) (gX_codeArgs u) (nI m) 192) a xi xr u))) : wpX_make post u (nI m) := by
  have nl : ¬ gX_lengths u 8 = 0 := by rw [en]; exact nI_ne0 hn0 (by omega)
  refine upX_make (br_f (nI_pos (by omega)) (br_f (nI_ge (b := 8) hm (by decide)) (br_f nl ?_)))
  rw [sX_fpm]
  refine x_missingFault (u := (mX (-1) (gX_ops u) (gX_operands u) (gX_lengths u) (gX_catchFrom u) (gX_catchTo u) (gX_catchGoal u) (gX_refMaps u) (gX_bodyHeights u) (gX_frameWords u) (gX_codeOps u) (gX_heights u) (gX_intKinds u) (gX_refKinds u) u)) hn en ho ?_
  refine br_c (fun w1 => ?_) (fun w1 => ?_)
  · have w1 : zm_f (zm_bad (gX_superOf u) (gX_fieldCount u) (gX_ops u) (gX_operands u) n) (zm_end (gX_catchFrom u) (gX_catchTo u) (gX_catchGoal u) n) n 0 = -1 := w1
    have w1' := zm_all hn w1
    rw [mX_superOf, mX_fieldCount, mX_ops, mX_operands, mX_catchFrom, mX_catchTo, mX_catchGoal, w1, sX_fpm]
    refine x_reachHeights (u := (mX (-1) (gX_ops u) (gX_operands u) (gX_lengths u) (gX_catchFrom u) (gX_catchTo u) (gX_catchGoal u) (gX_refMaps u) (gX_bodyHeights u) (gX_frameWords u) (gX_codeOps u) (gX_heights u) (gX_intKinds u) (gX_refKinds u) u)) hn0 hn en ho (fun i q => (hgo _ q).2) rfl (fun a ha => ?_)
    have ha : zh_F (zh_E (gX_ops u) (gX_operands u) (gX_catchFrom u) (gX_catchTo u) (gX_catchGoal u) n) n a := ha
    rw [mX__heights]
    refine x_heightFault (u := (mX (-1) (gX_ops u) (gX_operands u) (gX_lengths u) (gX_catchFrom u) (gX_catchTo u) (gX_catchGoal u) (gX_refMaps u) (gX_bodyHeights u) (gX_frameWords u) (gX_codeOps u) a (gX_intKinds u) (gX_refKinds u) u)) hn en ho ?_
    rw [mX_ops, mX_operands, mX_heights, mX__faultPlace]
    refine br_c (fun w2 => ?_) (fun w2 => pB w1 a ha _ rfl w2)
    obtain ⟨env, hs⟩ := zk_mkenv hn hn0 ho ha hgo w1'.2 w1'.1 (zf_all hn w2)
    rw [w2]
    refine x_reachKinds (u := (mX (-1) (gX_ops u) (gX_operands u) (gX_lengths u) (gX_catchFrom u) (gX_catchTo u) (gX_catchGoal u) (gX_refMaps u) (gX_bodyHeights u) (gX_frameWords u) (gX_codeOps u) a (gX_intKinds u) (gX_refKinds u) u)) hm en env (fun xi xr h1 h2 => ?_)
    rw [mX__intKinds_refKinds]
    refine x_kindFault (u := (mX (-1) (gX_ops u) (gX_operands u) (gX_lengths u) (gX_catchFrom u) (gX_catchTo u) (gX_catchGoal u) (gX_refMaps u) (gX_bodyHeights u) (gX_frameWords u) (gX_codeOps u) a xi xr u)) hm en env ?_
    rw [mX_refFields, mX_ops, mX_operands, mX_heights, mX_intKinds, mX_refKinds, mX__faultPlace]
    obtain ⟨c1, c2⟩ := pC w1 a xi xr ha w2 env hs h1 h2 _ rfl
    refine br_c (fun w3 => ?_) (fun w3 => c1 w3)
    refine x_takeDraft hm hn en (x_dropCode hm (x_unlink (x_emptyDraft ?_)))
    exact c2 w3
  · rw [mX_superOf, mX_fieldCount, mX_ops, mX_operands, mX_catchFrom, mX_catchTo, mX_catchGoal, sX_fpm]
    exact pA _ rfl w1
theorem y_make {post : Int32 → SY → Prop} {v : SY} {fc rf : Nat → Int32} {n m : Nat} (hcl : zy_cls v fc rf) (hup : ∀ c, c < 4 → gY_up v c = -2 ∨ gY_up v c = -1 ∨ zc_is (gY_up v) (gY_up v c)) (hfc : ∀ p, zc_is (gY_up v) p → ∃ w, w ≤ 16 ∧ zc_at fc p = nI w)
  (hm : m < 8) (hn0 : 0 < n) (hn : n ≤ 24) (en : gY_length v 8 = nI n) (ho : ∀ i, i < n → zi_ok (gY_ops v (192 + i)) (gY_args v (192 + i)))
  (hgo : ∀ p, zh_cg (gY_from v) (gY_to v) 8 p → ¬ gY_to v 8 ≤ gY_from v 8 ∧ ∃ g, g ≤ 24 ∧ gY_goal v 8 = nI g)
  (pA : ∀ w, w = zm_f (zm_bad (gY_up v) fc (gY_ops v) (gY_args v) n) (zm_end (gY_from v) (gY_to v) (gY_goal v) n) n 0 → w ≠ -1 → post (-1) (mY w (gY_height v) (gY_ops v) (gY_args v) (gY_length v) (gY_from v) (gY_to v) (gY_goal v) (gY_words v) (gY_maps v) (gY_coded v) (gY_linked v) (gY_heights v) (gY_kinds v) (gY_behind v) v))
  (pB : zm_f (zm_bad (gY_up v) fc (gY_ops v) (gY_args v) n) (zm_end (gY_from v) (gY_to v) (gY_goal v) n) n 0 = -1 → ∀ a, zh_F (zh_E (gY_ops v) (gY_args v) (gY_from v) (gY_to v) (gY_goal v) n) n a → ∀ w, w = zf (zf_hX (gY_ops v) (gY_args v) n a) n 0 → w ≠ -1 → post (-1) (mY w (gY_height v) (gY_ops v) (gY_args v) (gY_length v) (gY_from v) (gY_to v) (gY_goal v) (gY_words v) (gY_maps v) (gY_coded v) (gY_linked v) a (gY_kinds v) (gY_behind v) v))
  (pC : zm_f (zm_bad (gY_up v) fc (gY_ops v) (gY_args v) n) (zm_end (gY_from v) (gY_to v) (gY_goal v) n) n 0 = -1 → ∀ a K b hh, zh_F (zh_E (gY_ops v) (gY_args v) (gY_from v) (gY_to v) (gY_goal v) n) n a → zf (zf_hX (gY_ops v) (gY_args v) n a) n 0 = -1 → zy_F rf (gY_ops v) (gY_args v) (gY_from v) (gY_to v) (gY_goal v) a n m K → ∀ w, w = zf (zf_kY rf (gY_ops v) (gY_args v) a K m) n 0 → (w ≠ -1 → post (-1) (mY w hh (gY_ops v) (gY_args v) (gY_length v) (gY_from v) (gY_to v) (gY_goal v) (gY_words v) (gY_maps v) (gY_coded v) (gY_linked v) a K b v)) ∧ (w = -1 → ∀ hh' b', post 0 (mY w hh' (zt_cp (fun i => gY_ops v (192 + i)) (gY_ops v) m n) (zt_cp (fun i => gY_args v (192 + i)) (gY_args v) m n) (upd (upd (gY_length v) m (nI n)) 8 0) (upd (upd (gY_from v) m (gY_from v 8)) 8 0) (upd (upd (gY_to v) m (gY_to v 8)) 8 0) (upd (gY_goal v) m (gY_goal v 8)) (upd (gY_words v) m (nI (9 + zt_gy (gY_ops v) (gY_args v) a n))) (zt_cp (zt_rmY a K) (gY_maps v) m n) (upd (gY_coded v) m 0) (zt_ulY (zt_cp (fun i => gY_ops v (192 + i)) (gY_ops v) m n) (zt_cp (fun i => gY_args v (192 + i)) (gY_args v) m n) (gY_linked v) m 192) a K b' v))) : wpY_make post v (nI m) := by
  have nl : ¬ gY_length v 8 = 0 := by rw [en]; exact nI_ne0 hn0 (by omega)
  have r07 : (0 : Int32) ≤ nI m ∧ nI m ≤ 7 := ⟨nI_pos' (by omega), nI_le (b := 7) (by omega) (by decide)⟩
  refine upY_make (yt_in (zp_br (fun z => absurd r07 z) (fun _ => br_f nl ?_)))
  rw [sY_fpm]
  refine y_strange (u := (mY (-1) (gY_height v) (gY_ops v) (gY_args v) (gY_length v) (gY_from v) (gY_to v) (gY_goal v) (gY_words v) (gY_maps v) (gY_coded v) (gY_linked v) (gY_heights v) (gY_kinds v) (gY_behind v) v)) (fc := fc) (rf := rf) hcl hup hn en ho ?_
  rw [mY_up, mY_ops, mY_args, mY_from, mY_to, mY_goal, sY_fpm]
  -- the end where a fault is there
  have m66 : ∀ (s : SY) (w : Int32), w ≠ -1 → (0 : Int32) ≤ w → gY_fault s = w → post (-1) s → kY_make_50 post (nI m) s := by
    intro s w _ h0 e hp
    refine uY_make_50 (br_t (by rw [e]; exact h0) (uY_make_66 (br_f ?_ hp)))
    rw [e]; exact Int32.not_lt.mpr h0
  by_cases w1 : zm_f (zm_bad (gY_up v) fc (gY_ops v) (gY_args v) n) (zm_end (gY_from v) (gY_to v) (gY_goal v) n) n 0 = -1
  · have w1' := zm_all hn w1
    rw [w1]
    refine br_f (by decide) (y_uneven (u := (mY (-1) (gY_height v) (gY_ops v) (gY_args v) (gY_length v) (gY_from v) (gY_to v) (gY_goal v) (gY_words v) (gY_maps v) (gY_coded v) (gY_linked v) (gY_heights v) (gY_kinds v) (gY_behind v) v)) hn0 hn en ho (fun i q => (hgo _ q).2) rfl (fun a ha => ?_))
    have ha : zh_F (zh_E (gY_ops v) (gY_args v) (gY_from v) (gY_to v) (gY_goal v) n) n a := ha
    rw [mY_ops, mY_args, mY__heights, mY__fault]
    have e2 : zf (zf_hY (gY_ops v) (gY_args v) n a) n 0 = zf (zf_hX (gY_ops v) (gY_args v) n a) n 0 := zf_c n 0 (fun j _ hj => (zf_heq ha ha (by omega)).symm)
    rw [e2]
    by_cases w2 : zf (zf_hX (gY_ops v) (gY_args v) n a) n 0 = -1
    · obtain ⟨env, hs⟩ := zk_mkenv hn hn0 ho ha hgo w1'.2 w1'.1 (zf_all hn w2)
      have hat : ∀ i, i < n → a i ≠ 0 → zy_at (gY_ops v) (gY_args v) a (gY_up v) fc i (zh_ht (a i)) := by
        intro i hi h0
        have p := env.2.2.2.2.2.2 i hi h0
        refine ⟨ho i hi, hs i hi h0, p.1, p.2, zh_ht6 _, fun w => ?_⟩
        by_cases q : zc_is (gY_up v) (nI ((gY_args v (192 + i)).toNatClampNeg / 16)) ∧ nI ((gY_args v (192 + i)).toNatClampNeg % 16) < zc_at fc (nI ((gY_args v (192 + i)).toNatClampNeg / 16))
        · obtain ⟨o24, eo, fo⟩ := zi_of (ho i hi)
          have ep : zh_op (gY_ops v) i = (gY_ops v (192 + i)).toNatClampNeg := rfl
          rw [← ep] at o24 eo fo
          obtain ⟨j, hj2, ej⟩ := zi_fj fo (show zi_lim (zh_op (gY_ops v) i) = 64 by rcases w with w | w <;> rw [w] <;> rfl) (by decide)
          have ec : (gY_args v (192 + i)).toNatClampNeg = j := by rw [ej, nI_clamp (by omega)]
          rw [ec] at q
          obtain ⟨x, hx, ex⟩ := hfc _ q.1
          rw [ex] at q
          have lt := (nI_ltI (by omega) (by omega)).mp q.2
          rw [zc_atc (by omega)] at ex
          obtain ⟨c, hc, e2, u2⟩ := q.1
          have : j / 16 = c := (nI_eq (by omega) (by omega)).mp e2
          rw [this] at ex
          exact ⟨j, hj2, ej, by rw [this]; exact u2, x, by rw [this]; exact ex, by omega, hx⟩
        · exact absurd (Or.inr (Or.inr ⟨w, q⟩)) (w1'.2 i hi)
      rw [w2]
      refine uY_make_50 (br_f (by rw [mY_fault]; decide) (y_mixed (u := (mY (-1) (gY_height v) (gY_ops v) (gY_args v) (gY_length v) (gY_from v) (gY_to v) (gY_goal v) (gY_words v) (gY_maps v) (gY_coded v) (gY_linked v) a (gY_kinds v) (gY_behind v) v)) (fc := fc) (rf := rf) hcl hm en ⟨env, hat⟩ (fun K b hh hK => ?_)))
      have hK : zy_F rf (gY_ops v) (gY_args v) (gY_from v) (gY_to v) (gY_goal v) a n m K := hK
      rw [mY_ops, mY_args, mY_heights, mY__height_kinds_behind, mY__fault]
      obtain ⟨c1, c2⟩ := pC w1 a K b hh ha w2 hK _ rfl
      by_cases w3 : zf (zf_kY rf (gY_ops v) (gY_args v) a K m) n 0 = -1
      · refine uY_make_66 (br_t (by rw [mY_fault, w3]; decide) (y_take (fc := fc) (rf := rf) hm hn en hcl.1 hcl.2 hat (fun hh' b' => upY_wipe (nm_e (nm_e (nm_e (nm_e ?_)))))))
        rw [mY_length, mY_from, mY_to, mY__length_from_to]
        exact c2 w3 hh' b'
      · refine uY_make_66 (br_f ?_ (c1 w3))
        rw [mY_fault]; exact Int32.not_lt.mpr (zf_pos hn w3)
    · exact m66 _ _ w2 (zf_pos hn w2) rfl (pB w1 a ha _ rfl w2)
  · exact br_t (zm_pos hn w1) (m66 _ _ w1 (zm_pos hn w1) rfl (pA _ rfl w1))
end
section
/-! make: both sides together -/
theorem zR_cls {u : SX} {v : SY} (h : zR_s u v) : zy_cls v (gX_fieldCount u) (gX_refFields u) ∧ (∀ c, c < 4 → gY_up v c = -2 ∨ gY_up v c = -1 ∨ zc_is (gY_up v) (gY_up v c)) ∧ (∀ p, zc_is (gY_up v) p → ∃ w, w ≤ 16 ∧ zc_at (gX_fieldCount u) p = nI w) := by
  obtain ⟨⟨e1, _⟩, ok, _⟩ := h
  rw [e1] at ok
  refine ⟨⟨ok.2, fun c hc h2 => zc_le (zc_cn4 _) (ok.1 c hc h2)⟩, fun c hc => zc_up ok hc, fun p hp => ?_⟩
  obtain ⟨f, hf, ef, _⟩ := zc_hi ok.2 4 p (zc_d4 ok hp)
  exact ⟨f, hf, ef⟩
theorem zR_draft {u : SX} {v : SY} (h : zR_s u v) : ∃ n, n ≤ 24 ∧ gX_lengths u 8 = nI n ∧ (∀ i, i < n → zi_ok (gX_ops u (192 + i)) (gX_operands u (192 + i))) ∧ (∀ p, zh_cg (gX_catchFrom u) (gX_catchTo u) 8 p → ¬ gX_catchTo u 8 ≤ gX_catchFrom u 8 ∧ gX_catchGoal u 8 = gY_goal v 8 ∧ ∃ g, g ≤ 24 ∧ gX_catchGoal u 8 = nI g) := by
  obtain ⟨_, _, _, _, rows, go⟩ := h
  obtain ⟨l, hl, el, ho⟩ := rows.1 8 (by decide)
  refine ⟨l, hl, el, fun i hi => ho i hi, fun p w => ?_⟩
  obtain ⟨f, t, hft, ht, ef, et⟩ := rows.2 8 (by decide)
  have lt : gX_catchFrom u 8 < gX_catchTo u 8 := by
    have h1 := Int32.not_lt.mp w.1
    have h2 := Int32.not_le.mp w.2
    exact Int32.lt_of_le_of_lt h1 h2
  have g := go 8 (by decide) lt
  exact ⟨Int32.not_le.mpr lt, g.1, g.2⟩
theorem zt_cpc {f f' R : Nat → Int32} {m n : Nat} (h : ∀ i, i < n → f i = f' i) : zt_cp f R m n = zt_cp f' R m n := by
  funext k
  unfold zt_cp
  by_cases w : 24 * m ≤ k ∧ k < 24 * m + n
  · rw [if_pos w, if_pos w]; exact h _ (by omega)
  · rw [if_neg w, if_neg w]
/-- code and links behind a new body of m -/
theorem zR_cnew {O A L CO CC CA cd lk O' A' L' : Nat → Int32} {H H' : Nat → Nat} {R R' : Nat → Prop} {m : Nat} (hm : m < 8) (h : zR_c1 O A L CO CC CA cd lk H R) (hok : ∀ q, q < 8 → ∀ i, i < 24 → R (24 * q + i) → L q ≠ 0 → zi_ok (O (24 * q + i)) (A (24 * q + i)))
  (eO : ∀ k, k < 192 → k / 24 ≠ m → O' k = O k) (eA : ∀ k, k < 192 → k / 24 ≠ m → A' k = A k) (eL : ∀ q, q < 8 → q ≠ m → L' q = L q)
  (gH : ∀ k, k < 192 → k / 24 ≠ m → H' k = H k) (gR : ∀ k, k < 192 → k / 24 ≠ m → (R' k ↔ R k)) :
  zR_c1 O' A' L' (zt_ul (zt_cp (fun _ => 0) CO m 24) CA (nI m) 192) CC CA (upd cd m 0) (zt_ulY O' A' lk m 192) H' R' := by
  obtain ⟨h1, h2⟩ := h
  have dv : ∀ q i, i < 24 → (24 * q + i) / 24 = q := fun q i hi => by omega
  have own : ∀ i, i < 24 → zt_ul (zt_cp (fun _ => 0) CO m 24) CA (nI m) 192 (24 * m + i) = 0 := by
    intro i hi
    unfold zt_ul
    rw [zt_in hi, if_neg (fun w => absurd w.2.1 (by decide))]
  have oth : ∀ k, k < 192 → k / 24 ≠ m → zt_ul (zt_cp (fun _ => 0) CO m 24) CA (nI m) 192 k = if CO k = 28 ∧ CA k = nI m then 16 else CO k := by
    intro k hk w
    unfold zt_ul
    rw [zt_out (by omega)]
    by_cases q : CO k = 28 ∧ CA k = nI m
    · rw [if_pos ⟨hk, q⟩, if_pos q]
    · rw [if_neg (fun r => q r.2), if_neg q]
  -- a linked CALL is one
  have lnk : ∀ k, k < 192 → CO k = 28 → O k = 16 ∧ CA k = A k := by
    intro k hk w
    have hq : k / 24 < 8 := by omega
    obtain ⟨c1, c2, c3, c4⟩ := h1 (k / 24) hq
    have ek : 24 * (k / 24) + k % 24 = k := by omega
    have c5 := c4 (k % 24) (by omega)
    rw [ek] at c5
    have d1 : cd (k / 24) = 1 := by
      rcases c1 with c | c
      · rw [c5.1 (Or.inl c)] at w; exact absurd w (by decide)
      · exact c
    have r : R k := by
      by_cases r : R k
      · exact r
      · rw [c5.1 (Or.inr r)] at w; exact absurd w (by decide)
    have hz := hok (k / 24) hq (k % 24) (by omega) (by rw [ek]; exact r) (c3 d1)
    rw [ek] at hz
    obtain ⟨o24, eo, _⟩ := zi_of hz
    have eo : O k = nI (zw_op O k) := eo
    have o24 : zw_op O k < 24 := o24
    have x := c5.2 d1 r
    unfold zx_co at x
    rw [w] at x
    rcases x with x | x | x | x | x | x | x | x | x
    · exact absurd x.2.1 (by decide)
    · exact absurd x.2.1 (by decide)
    · exact absurd x.2.1 (by decide)
    · exact absurd x.2.1 (by decide)
    · exact absurd x.2.1 (by decide)
    · exact absurd x.2.1 (by decide)
    · exact absurd x.2.1 (by decide)
    · rw [x.1] at eo; exact ⟨eo, x.2.2.2⟩
    · have := x.2.2.2.2.2.2.2.2.2.1
      have : (28 : Nat) = zw_op O k := (nI_eq (by decide) (by omega)).mp this
      omega
  refine ⟨fun q hq => ?_, fun k hk => ?_⟩
  · by_cases e : q = m
    · subst e
      rw [pk_us]
      refine ⟨Or.inl rfl, ⟨fun _ => ?_, fun _ => rfl⟩, fun w => absurd w (by decide), fun i hi => ⟨fun _ => own i hi, fun w => absurd w (by decide)⟩⟩
      have := own 0 (by decide)
      exact this
    · obtain ⟨c1, c2, c3, c4⟩ := h1 q hq
      rw [pk_un e]
      have z0 := oth (24 * q) (by omega) (by omega)
      refine ⟨c1, ?_, fun w => by rw [eL q hq e]; exact c3 w, fun i hi => ?_⟩
      · rw [c2, z0]
        constructor
        · intro w; rw [if_neg (fun r => by rw [w] at r; exact absurd r.1 (by decide))]; exact w
        · intro w
          split at w
          · exact absurd w (by decide)
          · exact w
      · have hk : 24 * q + i < 192 := by omega
        have hd : (24 * q + i) / 24 ≠ m := by omega
        have zi := oth _ hk hd
        have c5 := c4 i hi
        refine ⟨fun w => ?_, fun w r => ?_⟩
        · have : CO (24 * q + i) = 0 := c5.1 (w.elim Or.inl (fun w => Or.inr (fun r => w ((gR _ hk hd).mpr r))))
          rw [zi, this, if_neg (fun r => absurd r.1 (by decide))]
        · have x := c5.2 w ((gR _ hk hd).mp r)
          have eop : zw_op O' (24 * q + i) = zw_op O (24 * q + i) := by unfold zw_op; rw [eO _ hk hd]
          have eP : zw_P O' A' (24 * q + i) = zw_P O A (24 * q + i) := by unfold zw_P; rw [eop, eA _ hk hd]
          rw [eop, eP, eA _ hk hd, gH _ hk hd, zi]
          by_cases l : CO (24 * q + i) = 28 ∧ CA (24 * q + i) = nI m
          · rw [if_pos l]
            unfold zx_co at x ⊢
            have hz := hok q hq i hi ((gR _ hk hd).mp r) (c3 w)
            obtain ⟨o24, _, _⟩ := zi_of hz
            have o24 : zw_op O (24 * q + i) < 24 := o24
            rw [l.1] at x
            rcases x with x | x | x | x | x | x | x | x | x
            · exact absurd x.2.1 (by decide)
            · exact absurd x.2.1 (by decide)
            · exact absurd x.2.1 (by decide)
            · exact absurd x.2.1 (by decide)
            · exact absurd x.2.1 (by decide)
            · exact absurd x.2.1 (by decide)
            · exact absurd x.2.1 (by decide)
            · exact Or.inr (Or.inr (Or.inr (Or.inr (Or.inr (Or.inr (Or.inr (Or.inl ⟨x.1, Or.inl rfl, x.2.2⟩)))))))
            · have := x.2.2.2.2.2.2.2.2.2.1
              have : (28 : Nat) = zw_op O (24 * q + i) := (nI_eq (by decide) (by omega)).mp this
              omega
          · rw [if_neg l]; exact x
  · obtain ⟨l1, l2⟩ := h2 k hk
    by_cases e : k / 24 = m
    · have ek : k = 24 * m + k % 24 := by omega
      have z : zt_ul (zt_cp (fun _ => 0) CO m 24) CA (nI m) 192 k = 0 := by rw [ek]; exact own _ (by omega)
      have y : zt_ulY O' A' lk m 192 k = 0 := by unfold zt_ulY; rw [if_pos ⟨hk, Or.inl e⟩]
      rw [z, y]
      exact ⟨Or.inl rfl, fun w => absurd w (by decide), fun w => absurd w (by decide)⟩
    · rw [oth k hk e]
      unfold zt_ulY
      rw [eO k hk e, eA k hk e]
      by_cases c : CO k = 28
      · obtain ⟨o1, o2⟩ := lnk k hk c
        by_cases q : A k = nI m
        · rw [if_pos ⟨hk, Or.inr ⟨o1, q⟩⟩, if_pos ⟨c, o2.trans q⟩]
          exact ⟨Or.inl rfl, fun w => absurd w (by decide), fun w => absurd w (by decide)⟩
        · rw [if_neg (fun r => r.2.elim e (fun r => q r.2)), if_neg (fun r => q (o2.symm.trans r.2))]
          exact ⟨l1, l2⟩
      · rw [if_neg (show ¬ (CO k = 28 ∧ CA k = nI m) from fun r => c r.1)]
        have l0 : lk k = 0 := l1.elim id (fun w => absurd (l2.mp w) c)
        split
        · exact ⟨Or.inl rfl, fun w => absurd w (by decide), fun w => absurd w c⟩
        · exact ⟨l1, l2⟩
theorem zi_rows {u : SX} {H : Nat → Nat} {R : Nat → Prop} {K : Nat → Nat → Nat} (hb : zR_b u H R K) : ∀ q, q < 8 → ∀ i, i < 24 → R (24 * q + i) → gX_lengths u q ≠ 0 → zi_ok (gX_ops u (24 * q + i)) (gX_operands u (24 * q + i)) := by
  intro q hq i hi r hl
  obtain ⟨n, _, _, _, _, _, _, _, r1, _, at_⟩ := hb q hq hl
  exact (at_ i (r1 i hi r) r).1
theorem i_vc_make {k : Nat} {u : SX} {v : SY} (I : i_Rel k u v) (hk : k + 5 ≤ 2560) (v1 : Int32) : wpX_make (fun r u' => wpY_make (fun r' v' => r' = r ∧ i_Rel (k + 5) u' v') v v1) u v1 := by
  obtain ⟨H, R, K, p, l, hs, hb, hc, hh, hn, ht⟩ := I
  have fl : ∀ (w : Int32) (a xi xr a' K' b' : Nat → Int32) (h' : Int32), i_Rel (k + 5) (mX w (gX_ops u) (gX_operands u) (gX_lengths u) (gX_catchFrom u) (gX_catchTo u) (gX_catchGoal u) (gX_refMaps u) (gX_bodyHeights u) (gX_frameWords u) (gX_codeOps u) a xi xr u) (mY w h' (gY_ops v) (gY_args v) (gY_length v) (gY_from v) (gY_to v) (gY_goal v) (gY_words v) (gY_maps v) (gY_coded v) (gY_linked v) a' K' b' v) := by
    intro w a xi xr a' K' b' h'
    exact ⟨H, R, K, p, l, hs, hb, hc, hh, hn, ⟨ht.1, rfl, ht.2.2⟩⟩
  have bad : (¬ ∃ m, m < 8 ∧ v1 = nI m) ∨ gX_lengths u 8 = 0 → wpY_make (fun r' v' => r' = -1 ∧ i_Rel (k + 5) (sX_faultPlace (-1) u) v') v v1 := by
    intro w
    have f1 := fl (-1) (gX_heights u) (gX_intKinds u) (gX_refKinds u) (gY_heights v) (gY_kinds v) (gY_behind v) (gY_height v)
    refine upY_make (yt_in (zp_br (fun _ => ⟨rfl, f1⟩) (fun z => ?_)))
    obtain ⟨c, hc2, e⟩ := nI_of2 (n := 7) (M := 7) (by decide) (Int32.not_lt.mpr z.1) z.2
    refine br_t ?_ ⟨rfl, f1⟩
    rcases w with w | w
    · exact absurd ⟨c, by omega, e⟩ w
    · rw [← hs.1.2.2.2.2.2.1]; exact w
  rcases pk_ix v1 (n := 8) (by decide) with z | z | ⟨m, hm, rfl⟩
  · refine upX_make (br_t z (bad (Or.inl ?_)))
    rintro ⟨m, hm, rfl⟩
    exact nI_pos (by omega) z
  · have z0 : ¬ v1 < 0 := fun w => by
      have := Int32.lt_of_le_of_lt z w
      exact nI_pos (n := 8) (by decide) this
    refine upX_make (br_f z0 (br_t z (bad (Or.inl ?_))))
    rintro ⟨m, hm, rfl⟩
    exact nI_ge hm (by decide) z
  · obtain ⟨n, hn24, en, ho, hgo⟩ := zR_draft hs
    by_cases h0 : n = 0
    · subst h0
      exact upX_make (br_f (nI_pos (by omega)) (br_f (nI_ge (b := 8) hm (by decide)) (br_t en (bad (Or.inr en)))))
    · have hn0 : 0 < n := by omega
      obtain ⟨hcl, hup, hfc⟩ := zR_cls hs
      obtain ⟨⟨e1, e2, e3, e4, e5, e6, e7, e8, e9, e10⟩, ok, own, ini, rows, go⟩ := id hs
      have hgoY : ∀ p, zh_cg (gY_from v) (gY_to v) 8 p → ¬ gY_to v 8 ≤ gY_from v 8 ∧ ∃ g, g ≤ 24 ∧ gY_goal v 8 = nI g := by
        intro p w
        rw [← e7, ← e8] at w ⊢
        obtain ⟨q1, q2, q3⟩ := hgo p w
        rw [← q2]; exact ⟨q1, q3⟩
      have eE : zh_E (gY_ops v) (gY_args v) (gY_from v) (gY_to v) (gY_goal v) n = zh_E (gX_ops u) (gX_operands u) (gX_catchFrom u) (gX_catchTo u) (gX_catchGoal u) n := by
        rw [← e4, ← e5, ← e7, ← e8]
        exact zh_Eeq (fun p w => (hgo p w).2.1.symm)
      have eM : zm_f (zm_bad (gY_up v) (gX_fieldCount u) (gY_ops v) (gY_args v) n) (zm_end (gY_from v) (gY_to v) (gY_goal v) n) n 0 = zm_f (zm_bad (gX_superOf u) (gX_fieldCount u) (gX_ops u) (gX_operands u) n) (zm_end (gX_catchFrom u) (gX_catchTo u) (gX_catchGoal u) n) n 0 := by
        rw [← e1, ← e4, ← e5, ← e7, ← e8]
        have : zm_end (gX_catchFrom u) (gX_catchTo u) (gY_goal v) n = zm_end (gX_catchFrom u) (gX_catchTo u) (gX_catchGoal u) n := by
          have q : (¬ gX_catchTo u 8 ≤ gX_catchFrom u 8 ∧ (nI n < gX_catchTo u 8 ∨ ¬ gY_goal v 8 < nI n)) ↔ (¬ gX_catchTo u 8 ≤ gX_catchFrom u 8 ∧ (nI n < gX_catchTo u 8 ∨ ¬ gX_catchGoal u 8 < nI n)) := by
            refine and_congr_right (fun w => ?_)
            rw [(go 8 (by decide) (Int32.not_le.mp w)).1]
          unfold zm_end
          by_cases r : (¬ gX_catchTo u 8 ≤ gX_catchFrom u 8 ∧ (nI n < gX_catchTo u 8 ∨ ¬ gY_goal v 8 < nI n))
          · rw [if_pos r, if_pos (q.mp r)]
          · rw [if_neg r, if_neg (fun w => r (q.mpr w))]
        rw [this]
      have enY : gY_length v 8 = nI n := by rw [← e6]; exact en
      have hoY : ∀ i, i < n → zi_ok (gY_ops v (192 + i)) (gY_args v (192 + i)) := by rw [← e4, ← e5]; exact ho
      refine x_make hm hn0 hn24 en ho (fun p w => ⟨(hgo p w).1, (hgo p w).2.2⟩) ?_ ?_ ?_
      · intro w ew nw
        refine y_make hcl hup hfc hm hn0 hn24 enY hoY hgoY ?_ ?_ ?_
        · intro w' ew' _
          rw [eM, ← ew] at ew'
          subst ew'
          exact ⟨rfl, fl w' (gX_heights u) (gX_intKinds u) (gX_refKinds u) (gY_heights v) (gY_kinds v) (gY_behind v) (gY_height v)⟩
        · intro q; rw [eM, ← ew] at q; exact absurd q nw
        · intro q; rw [eM, ← ew] at q; exact absurd q nw
      · intro q1 a ha w ew nw
        refine y_make hcl hup hfc hm hn0 hn24 enY hoY hgoY ?_ ?_ ?_
        · intro w' ew' nw'; rw [eM, q1] at ew'; exact absurd ew' nw'
        · intro _ a' ha' w' ew' _
          rw [eE] at ha'
          have : w' = w := by
            rw [ew, ew', ← e4, ← e5]
            exact zf_c n 0 (fun j _ hj => (zf_heq ha' ha' (by omega)).trans (zf_heq ha ha' (by omega)).symm)
          subst this
          exact ⟨rfl, fl w' a (gX_intKinds u) (gX_refKinds u) a' (gY_kinds v) (gY_behind v) (gY_height v)⟩
        · intro _ a' K' b' hh' ha' q2
          rw [eE] at ha'
          have : zf (zf_hX (gY_ops v) (gY_args v) n a') n 0 = w := by
            rw [ew, ← e4, ← e5]
            exact zf_c n 0 (fun j _ hj => (zf_heq ha' ha' (by omega)).trans (zf_heq ha ha' (by omega)).symm)
          rw [this] at q2; exact absurd q2 nw
      · intro q1 a xi xr ha q2 env hsg f1 f2 w ew
        have aeq : ∀ a', zh_F (zh_E (gX_ops u) (gX_operands u) (gX_catchFrom u) (gX_catchTo u) (gX_catchGoal u) n) n a' → zf (zf_hX (gY_ops v) (gY_args v) n a') n 0 = -1 := by
          intro a' ha'
          rw [← q2, ← e4, ← e5]
          exact zf_c n 0 (fun j _ hj => (zf_heq ha' ha' (by omega)).trans (zf_heq ha ha' (by omega)).symm)
        -- Y's kinds over Y's heights are kinds over X's
        have yk : ∀ a' K', zh_F (zh_E (gX_ops u) (gX_operands u) (gX_catchFrom u) (gX_catchTo u) (gX_catchGoal u) n) n a' → zy_F (gX_refFields u) (gY_ops v) (gY_args v) (gY_from v) (gY_to v) (gY_goal v) a' n m K' → zy_F (gX_refFields u) (gX_ops u) (gX_operands u) (gX_catchFrom u) (gX_catchTo u) (gX_catchGoal u) a n m K' := by
          intro a' K' ha' hK
          rw [← e4, ← e5, ← e7, ← e8] at hK
          have ea : ∀ i, i < n → a' i = a i := fun i hi => zh_Feq ha' ha hi
          have cl : ∀ Z i, i < n → (zy_cl (gX_refFields u) (gX_ops u) (gX_operands u) (gX_catchFrom u) (gX_catchTo u) (gY_goal v) a' n Z i ↔ zy_cl (gX_refFields u) (gX_ops u) (gX_operands u) (gX_catchFrom u) (gX_catchTo u) (gX_catchGoal u) a n Z i) := by
            intro Z i hi
            unfold zy_cl zk_b
            rw [ea i hi]
            refine and_congr_right (fun _ => ?_)
            constructor
            · intro h w; rw [(hgo _ w).2.1]; exact h w
            · intro h w; rw [← (hgo _ w).2.1]; exact h w
          have C : zy_C (gX_refFields u) (gX_ops u) (gX_operands u) (gX_catchFrom u) (gX_catchTo u) (gY_goal v) a' n m = zy_C (gX_refFields u) (gX_ops u) (gX_operands u) (gX_catchFrom u) (gX_catchTo u) (gX_catchGoal u) a n m := by
            funext Z
            apply propext
            unfold zy_C
            refine and_congr_right (fun _ => ?_)
            constructor
            · intro h i hi h0; exact (cl Z i hi).mp (h i hi (by rw [ea i hi]; exact h0))
            · intro h i hi h0; exact (cl Z i hi).mpr (h i hi (by rw [← ea i hi]; exact h0))
          unfold zy_F at hK ⊢
          rw [C] at hK; exact hK
        have weq : ∀ a' K', zh_F (zh_E (gX_ops u) (gX_operands u) (gX_catchFrom u) (gX_catchTo u) (gX_catchGoal u) n) n a' → zy_F (gX_refFields u) (gX_ops u) (gX_operands u) (gX_catchFrom u) (gX_catchTo u) (gX_catchGoal u) a n m K' → zf (zf_kY (gX_refFields u) (gY_ops v) (gY_args v) a' K' m) n 0 = w := by
          intro a' K' ha' hK
          rw [ew, ← e4, ← e5]
          refine zf_c n 0 (fun j _ hj => ?_)
          rw [zf_keq hm env ha hsg f1 f2 hK (by omega)]
          unfold zf_kY
          rw [zh_Feq ha' ha (show j < n by omega)]
        refine ⟨fun nw => ?_, fun ew1 => ?_⟩
        · refine y_make hcl hup hfc hm hn0 hn24 enY hoY hgoY ?_ ?_ ?_
          · intro w' ew' nw'; rw [eM, q1] at ew'; exact absurd ew' nw'
          · intro _ a' ha' w' ew' nw'
            rw [eE] at ha'
            rw [aeq a' ha'] at ew'; exact absurd ew' nw'
          · intro _ a' K' b' hh' ha' _ hK w' ew'
            rw [eE] at ha'
            rw [weq a' K' ha' (yk a' K' ha' hK)] at ew'
            subst ew'
            exact ⟨fun _ => ⟨rfl, fl w' a xi xr a' K' b' hh'⟩, fun q => absurd q nw⟩
        · refine y_make hcl hup hfc hm hn0 hn24 enY hoY hgoY ?_ ?_ ?_
          · intro w' ew' nw'; rw [eM, q1] at ew'; exact absurd ew' nw'
          · intro _ a' ha' w' ew' nw'
            rw [eE] at ha'
            rw [aeq a' ha'] at ew'; exact absurd ew' nw'
          · intro _ a' K' b' hh' ha' _ hK w' ew'
            rw [eE] at ha'
            have hK' := yk a' K' ha' hK
            rw [weq a' K' ha' hK'] at ew'
            subst ew'
            refine ⟨fun q => absurd ew1 q, fun _ hh2 b2 => ⟨rfl, ?_⟩⟩
            have ea : ∀ i, i < n → a' i = a i := fun i hi => zh_Feq ha' ha hi
            have nk := zf_all hn24 (weq a' K' ha' hK' ▸ ew1)
            have dok : zd_ok (gX_superOf u) (gX_fieldCount u) (gX_refFields u) (gX_ops u) (gX_operands u) (gX_catchFrom u) (gX_catchTo u) (gX_catchGoal u) a xi xr K' n m := by
              refine ⟨hm, env, ha, hsg, f1, f2, hK', ?_, (zm_all hn24 q1).2⟩
              intro i hi
              have := nk i hi
              unfold zf_kY at this
              rw [ea i hi, ← e4, ← e5] at this
              exact this
            -- the new ghosts
            have m8 : ∀ (f : Nat → Int32) (x y : Int32) (q : Nat), q < 8 → upd (upd f m x) 8 y q = if q = m then x else f q := by
              intro f x y q hq
              rw [pk_un (by omega)]
              unfold upd
              rfl
            have g16 := zt_gh6 a n
            refine ⟨fun k => if k / 24 = m then zh_ht (a (k % 24)) else H k, fun k => if k / 24 = m then (k % 24 < n ∧ a (k % 24) ≠ 0) else R k, fun k => if k / 24 = m then zd_k K' (k % 24) else K k, p, l, ?_, ?_, ?_, hh, hn, ⟨ht.1, rfl, ht.2.2⟩⟩
            · -- what is fixed
              refine ⟨⟨e1, e2, e3, ?_, ?_, ?_, ?_, ?_, ?_, ?_⟩, ok, own, ini, ⟨?_, ?_⟩, ?_⟩
              · show zt_cp (fun i => gX_ops u (192 + i)) (gX_ops u) m n = zt_cp (fun i => gY_ops v (192 + i)) (gY_ops v) m n
                rw [e4]
              · show zt_cp (fun i => gX_operands u (192 + i)) (gX_operands u) m n = zt_cp (fun i => gY_args v (192 + i)) (gY_args v) m n
                rw [e5]
              · show upd (upd (gX_lengths u) m (nI n)) 8 0 = upd (upd (gY_length v) m (nI n)) 8 0
                rw [e6]
              · show upd (upd (gX_catchFrom u) m (gX_catchFrom u 8)) 8 0 = upd (upd (gY_from v) m (gY_from v 8)) 8 0
                rw [e7]
              · show upd (upd (gX_catchTo u) m (gX_catchTo u 8)) 8 0 = upd (upd (gY_to v) m (gY_to v 8)) 8 0
                rw [e8]
              · show zt_cp (zt_rm a xr) (gX_refMaps u) m n = zt_cp (zt_rmY a' K') (gY_maps v) m n
                rw [e9]
                refine zt_cpc (fun i hi => ?_)
                unfold zt_rm zt_rmY
                rw [ea i hi]
                by_cases z : a i = 0
                · rw [if_pos z, if_pos z]
                · rw [if_neg z, if_neg z]
                  have mg := zk_merge hm env ha hsg f1 f2 hK' hi z
                  have h6 := zh_ht6 (a i)
                  apply b_ext
                  intro e he
                  have mb := zt_mkb (K := K') (i := i) (6 + zh_ht (a i)) (by omega) e he
                  have xb : bt (xr i) e = true ↔ e < 6 + zh_ht (a i) ∧ K' (12 * i + e) = 2 := by
                    constructor
                    · intro b
                      by_cases q : e < 6 + zh_ht (a i)
                      · exact ⟨q, (mg.1 e q).2.mp b⟩
                      · rw [mg.2 e (by omega) he] at b; exact absurd b (by decide)
                    · intro q; exact (mg.1 e q.1).2.mpr q.2
                  cases w1 : bt (xr i) e <;> cases w2 : bt (zt_mk K' i (6 + zh_ht (a i))) e
                  · rfl
                  · rw [w1] at xb; exact absurd (xb.mpr (mb.mp w2)) (by decide)
                  · rw [w2] at mb; exact absurd (mb.mpr (xb.mp w1)) (by decide)
                  · rfl
              · show upd (gX_frameWords u) m (nI (9 + zt_gh a n)) = upd (gY_words v) m (nI (9 + zt_gy (gY_ops v) (gY_args v) a' n))
                rw [e10, zt_geq env ha hsg, ← e4, ← e5]
                have : ∀ j, j ≤ n → zt_gy (gX_ops u) (gX_operands u) a j = zt_gy (gX_ops u) (gX_operands u) a' j := by
                  intro j
                  induction j with
                  | zero => intro _; rfl
                  | succ j ih =>
                    intro hj
                    unfold zt_gy
                    rw [ea j (by omega), ih (by omega)]
                rw [this n (Nat.le_refl _)]
              · -- rows
                intro r hr
                by_cases r8 : r = 8
                · subst r8
                  exact ⟨0, by decide, by rw [mX_lengths]; exact pk_us, fun j hj => absurd hj (by omega)⟩
                · have rl : r < 8 := by omega
                  by_cases e : r = m
                  · subst e
                    refine ⟨n, hn24, by show upd (upd (gX_lengths u) r (nI n)) 8 0 r = nI n; rw [m8 _ _ _ _ hm, if_pos rfl], fun j hj => ?_⟩
                    show zi_ok (zt_cp (fun i => gX_ops u (192 + i)) (gX_ops u) r n (24 * r + j)) (zt_cp (fun i => gX_operands u (192 + i)) (gX_operands u) r n (24 * r + j))
                    rw [zt_in hj, zt_in hj]; exact ho j hj
                  · obtain ⟨l2, hl2, el2, ho2⟩ := rows.1 r hr
                    refine ⟨l2, hl2, by show upd (upd (gX_lengths u) m (nI n)) 8 0 r = nI l2; rw [m8 _ _ _ _ rl, if_neg e]; exact el2, fun j hj => ?_⟩
                    show zi_ok (zt_cp (fun i => gX_ops u (192 + i)) (gX_ops u) m n (24 * r + j)) (zt_cp (fun i => gX_operands u (192 + i)) (gX_operands u) m n (24 * r + j))
                    rw [zt_out (by omega), zt_out (by omega)]; exact ho2 j hj
              · intro r hr
                by_cases r8 : r = 8
                · subst r8
                  exact ⟨0, 0, by decide, by decide, by rw [mX_catchFrom]; exact pk_us, by rw [mX_catchTo]; exact pk_us⟩
                · have rl : r < 8 := by omega
                  show ∃ f t, f ≤ t ∧ t ≤ 24 ∧ upd (upd (gX_catchFrom u) m (gX_catchFrom u 8)) 8 0 r = nI f ∧ upd (upd (gX_catchTo u) m (gX_catchTo u 8)) 8 0 r = nI t
                  rw [m8 _ _ _ _ rl, m8 _ _ _ _ rl]
                  by_cases e : r = m
                  · rw [if_pos e, if_pos e]; exact rows.2 8 (by decide)
                  · rw [if_neg e, if_neg e]; exact rows.2 r hr
              · intro r hr
                show upd (upd (gX_catchFrom u) m (gX_catchFrom u 8)) 8 0 r < upd (upd (gX_catchTo u) m (gX_catchTo u 8)) 8 0 r → upd (upd (gX_catchGoal u) m (gX_catchGoal u 8)) 8 0 r = upd (gY_goal v) m (gY_goal v 8) r ∧ _
                by_cases r8 : r = 8
                · subst r8
                  rw [pk_us, pk_us]
                  intro w; exact absurd w (by decide)
                · have rl : r < 8 := by omega
                  show _ → _ ∧ ∃ g, g ≤ 24 ∧ upd (upd (gX_catchGoal u) m (gX_catchGoal u 8)) 8 0 r = nI g
                  rw [m8 _ _ _ _ rl, m8 _ _ _ _ rl, m8 _ _ _ _ rl]
                  by_cases e : r = m
                  · rw [if_pos e, if_pos e, if_pos e, e, pk_us]; exact go 8 (by decide)
                  · rw [if_neg e, if_neg e, if_neg e, pk_un e]; exact go r hr
            · -- bodies
              intro q hq hl
              have hl : upd (upd (gX_lengths u) m (nI n)) 8 0 q ≠ 0 := hl
              have dv : ∀ i, i < 24 → (24 * q + i) / 24 = q ∧ (24 * q + i) % 24 = i := fun i hi => by omega
              rw [mX_superOf, mX_fieldCount, mX_refFields, mX_ops, mX_operands, mX_lengths, mX_catchFrom, mX_catchTo, mX_catchGoal, mX_refMaps, mX_bodyHeights, mX_frameWords]
              by_cases e : q = m
              · subst e
                refine zw_new (w := 9 + zt_gh a n) dok (fun p hp => by rw [e1] at hp; exact hfc p hp) (fun i hi => zt_in hi) (fun i hi => zt_in hi) ?_ ?_ ?_ ?_ (fun i hi => zt_in hi) (fun i hi => zt_in hi) pk_us (by omega) (fun i hi => ?_) (fun i hi => ?_) (fun i hi => ?_)
                · show upd (upd (gX_lengths u) q (nI n)) 8 0 q = nI n
                  rw [m8 _ _ _ _ hq, if_pos rfl]
                · show upd (upd (gX_catchFrom u) q (gX_catchFrom u 8)) 8 0 q = _
                  rw [m8 _ _ _ _ hq, if_pos rfl]
                · show upd (upd (gX_catchTo u) q (gX_catchTo u 8)) 8 0 q = _
                  rw [m8 _ _ _ _ hq, if_pos rfl]
                · show upd (upd (gX_catchGoal u) q (gX_catchGoal u 8)) 8 0 q = _
                  rw [m8 _ _ _ _ hq, if_pos rfl]
                · show (if (24 * q + i) / 24 = q then zh_ht (a ((24 * q + i) % 24)) else _) = _
                  rw [if_pos (dv i hi).1, (dv i hi).2]
                · show (if (24 * q + i) / 24 = q then ((24 * q + i) % 24 < n ∧ a ((24 * q + i) % 24) ≠ 0) else _) ↔ _
                  rw [if_pos (dv i hi).1, (dv i hi).2]
                · show (if (24 * q + i) / 24 = q then zd_k K' ((24 * q + i) % 24) else _) = _
                  rw [if_pos (dv i hi).1, (dv i hi).2]
              · rw [m8 _ _ _ _ hq, if_neg e] at hl
                refine zw_keep (hb q hq hl) (fun i hi => zt_out (by omega)) (fun i hi => zt_out (by omega)) ?_ ?_ ?_ ?_ (fun i hi => zt_out (by omega)) (fun i hi => zt_out (by omega)) (pk_un e) (fun i hi => ?_) (fun i hi => ?_) (fun i hi => ?_)
                · show upd (upd (gX_lengths u) m (nI n)) 8 0 q = _
                  rw [m8 _ _ _ _ hq, if_neg e]
                · show upd (upd (gX_catchFrom u) m (gX_catchFrom u 8)) 8 0 q = _
                  rw [m8 _ _ _ _ hq, if_neg e]
                · show upd (upd (gX_catchTo u) m (gX_catchTo u 8)) 8 0 q = _
                  rw [m8 _ _ _ _ hq, if_neg e]
                · show upd (upd (gX_catchGoal u) m (gX_catchGoal u 8)) 8 0 q = _
                  rw [m8 _ _ _ _ hq, if_neg e]
                · show (if (24 * q + i) / 24 = m then _ else H (24 * q + i)) = _
                  rw [if_neg (by rw [(dv i hi).1]; exact e)]
                · show (if (24 * q + i) / 24 = m then _ else R (24 * q + i)) ↔ _
                  rw [if_neg (by rw [(dv i hi).1]; exact e)]
                · show (if (24 * q + i) / 24 = m then _ else K (24 * q + i)) = _
                  rw [if_neg (by rw [(dv i hi).1]; exact e)]
            · -- code
              show zR_c1 (zt_cp (fun i => gX_ops u (192 + i)) (gX_ops u) m n) (zt_cp (fun i => gX_operands u (192 + i)) (gX_operands u) m n) (upd (upd (gX_lengths u) m (nI n)) 8 0) (zt_ul (zt_cp (fun _ => 0) (gX_codeOps u) m 24) (gX_codeArgs u) (nI m) 192) (gX_codeCells u) (gX_codeArgs u) (upd (gY_coded v) m 0) (zt_ulY (zt_cp (fun i => gY_ops v (192 + i)) (gY_ops v) m n) (zt_cp (fun i => gY_args v (192 + i)) (gY_args v) m n) (gY_linked v) m 192) _ _
              rw [← e4, ← e5]
              refine zR_cnew hm hc (zi_rows hb) (fun k hk w => zt_out (by omega)) (fun k hk w => zt_out (by omega)) (fun q hq w => by rw [m8 _ _ _ _ hq, if_neg w]) (fun k hk w => if_neg w) (fun k hk w => ?_)
              show (if k / 24 = m then _ else R k) ↔ _
              rw [if_neg w]
end
section
/-! a new class -/
theorem zc_hi4 {up ints refs fc rf : Nat → Int32} (hr : ∀ c, c < 4 → up c ≠ -2 → zc_row up ints refs fc rf c) : ∀ d k, d ≤ 4 → zc_dp up d k → ∃ f, f ≤ 4 * d ∧ zc_at fc k = nI f := by
  intro d
  induction d with
  | zero =>
    intro k d4 hd
    have hd : k = -1 := hd
    subst hd
    exact ⟨0, by omega, zc_am1⟩
  | succ d ih =>
    intro k d4 hd
    rcases hd with rfl | ⟨c, hc, rfl, h2, h3⟩
    · exact ⟨0, by omega, zc_am1⟩
    · obtain ⟨f, hf, e⟩ := ih _ (by omega) h3
      obtain ⟨ab, i, r, hi, hr', hab, ei, er, ea, ef, eb⟩ := hr c hc h2
      rw [ea] at e
      have := (nI_eq (by omega) (by omega)).mp e
      subst this
      exact ⟨ab + i + r, by omega, by rw [zc_atc hc, ef]⟩
theorem zc_dpu {up : Nat → Int32} {c0 : Nat} {x : Int32} (h0 : up c0 = -2) : ∀ n k, zc_dp up n k → zc_dp (upd up c0 x) n k := by
  intro n
  induction n with
  | zero => intro k h; exact h
  | succ n ih =>
    intro k h
    rcases h with h | ⟨c, hc, e, h2, h3⟩
    · exact Or.inl h
    · have ne : c ≠ c0 := fun w => h2 (by rw [w]; exact h0)
      refine Or.inr ⟨c, hc, e, by rw [pk_un ne]; exact h2, ?_⟩
      rw [pk_un ne]; exact ih _ h3
theorem zc_cnu {up : Nat → Int32} {c0 : Nat} {x : Int32} (hc : c0 < 4) (h0 : up c0 = -2) (hx : x ≠ -2) : zc_cn (upd up c0 x) = zc_cn up + 1 := by
  unfold zc_cn
  have : c0 = 0 ∨ c0 = 1 ∨ c0 = 2 ∨ c0 = 3 := by omega
  rcases this with rfl | rfl | rfl | rfl
  · rw [pk_us, pk_un (by decide), pk_un (by decide), pk_un (by decide), h0, if_neg hx, if_pos rfl]; try omega
  · rw [pk_us, pk_un (by decide), pk_un (by decide), pk_un (by decide), h0, if_neg hx, if_pos rfl]; try omega
  · rw [pk_us, pk_un (by decide), pk_un (by decide), pk_un (by decide), h0, if_neg hx, if_pos rfl]; try omega
  · rw [pk_us, pk_un (by decide), pk_un (by decide), pk_un (by decide), h0, if_neg hx, if_pos rfl]; try omega
theorem zc_isu {up : Nat → Int32} {c0 : Nat} {x p : Int32} (h0 : up c0 = -2) (h : zc_is up p) : zc_is (upd up c0 x) p := by
  obtain ⟨c, hc, e, h2⟩ := h
  exact ⟨c, hc, e, by rw [pk_un (fun w => h2 (by rw [w]; exact h0))]; exact h2⟩
theorem zc_atu {up f : Nat → Int32} {c0 : Nat} {y p : Int32} (h0 : up c0 = -2) (h : p = -1 ∨ zc_is up p) : zc_at (upd f c0 y) p = zc_at f p := by
  rcases h with rfl | ⟨c, hc, rfl, h2⟩
  · rw [zc_am1, zc_am1]
  · rw [zc_atc hc, zc_atc hc, pk_un (fun w => h2 (by rw [w]; exact h0))]
theorem zc_add {up ints refs fc rf : Nat → Int32} (h : zc_OK up ints refs fc rf) {c0 : Nat} (hc : c0 < 4) (h0 : up c0 = -2) {x : Int32} (hx : x = -1 ∨ zc_is up x) {i r : Nat} (hi : i ≤ 2) (hr : r ≤ 2) :
  zc_OK (upd up c0 x) (upd ints c0 (nI i)) (upd refs c0 (nI r)) (upd fc c0 (zc_at fc x + nI i + nI r)) (upd rf c0 (zc_at rf x ||| ((((1 : Int32) <<< (nI r &&& 31)) - 1) <<< ((zc_at fc x + nI i) &&& 31)))) := by
  have x2 : x ≠ -2 := by
    rcases hx with rfl | ⟨c, hc, rfl, _⟩
    · decide
    · exact zn_m2 _ (by omega)
  have cn := zc_cnu hc h0 x2
  have cn4 := zc_cn4 (upd up c0 x)
  have dx : zc_dp up (zc_cn up) x := by
    rcases hx with rfl | ⟨c, hc, rfl, h2⟩
    · cases zc_cn up with
      | zero => rfl
      | succ n => exact Or.inl rfl
    · exact h.1 c hc h2
  refine ⟨fun c hc2 h2 => ?_, fun c hc2 h2 => ?_⟩
  · rw [cn]
    by_cases e : c = c0
    · subst e
      exact Or.inr ⟨c, hc, rfl, h2, by rw [pk_us]; exact zc_dpu h0 _ _ dx⟩
    · rw [pk_un e] at h2
      exact zc_mono _ _ (zc_dpu h0 _ _ (h.1 c hc2 h2))
  · by_cases e : c = c0
    · subst e
      obtain ⟨ab, hab, ea⟩ := zc_hi4 h.2 _ _ (by omega) dx
      refine ⟨ab, i, r, hi, hr, by omega, pk_us, pk_us, ?_, ?_, fun j hj => ?_⟩
      · rw [pk_us, zc_atu h0 hx]; exact ea
      · rw [pk_us, ea, nI_add, nI_add]
      · rw [pk_us, pk_us, zc_atu h0 hx, ea, nI_add, b_or, b_shl (ab + i) (by omega) _ hj, zk_low r (by omega) _ (by omega)]
        congr 1
        by_cases w : ab + i ≤ j
        · by_cases w2 : j < ab + i + r
          · have : j - (ab + i) < r := by omega
            simp [w, w2, this]
          · have : ¬ j - (ab + i) < r := by omega
            simp [w, w2, this]
        · simp [w]
    · rw [pk_un e] at h2
      obtain ⟨ab, i', r', h1, h2', h3, e1, e2, e3, e4, e5⟩ := h.2 c hc2 h2
      have ux := (zc_up h hc2).elim (fun w => absurd w h2) id
      refine ⟨ab, i', r', h1, h2', h3, by rw [pk_un e]; exact e1, by rw [pk_un e]; exact e2, ?_, by rw [pk_un e]; exact e4, ?_⟩
      · rw [pk_un e, zc_atu h0 ux]; exact e3
      · rw [pk_un e, pk_un e, zc_atu h0 ux]; exact e5
theorem zk_pku {rf : Nat → Int32} {c0 o : Nat} {a y : Int32} (h : o = 13 → a.toNatClampNeg / 16 ≠ c0) : zk_pk (upd rf c0 y) o a = zk_pk rf o a := by
  unfold zk_pk
  by_cases e : o = 13
  · rw [if_pos e, if_pos e, pk_un (h e)]
  · rw [if_neg e, if_neg e]
theorem zy_ndu {rf : Nat → Int32} {c0 m o k : Nat} {a y : Int32} (h : o = 14 → a.toNatClampNeg / 16 ≠ c0) : zy_nd (upd rf c0 y) m o a k = zy_nd rf m o a k := by
  unfold zy_nd
  by_cases e : o = 14
  · rw [if_pos e, if_pos e, pk_un (h e)]
  · rw [if_neg e, if_neg e]
/-- bodies don't mind a new class -/
theorem zw_cls {up fc rf O A L F T G RM BH FW : Nat → Int32} {H : Nat → Nat} {R : Nat → Prop} {K : Nat → Nat → Nat} {m c0 : Nat} {x y z : Int32} (h0 : up c0 = -2) (h : zw_OK up fc rf O A L F T G RM BH FW H R K m) : zw_OK (upd up c0 x) (upd fc c0 y) (upd rf c0 z) O A L F T G RM BH FW H R K m := by
  obtain ⟨n, q1, q2, q3, q4, q5, q6, q7, q8, q9, at_⟩ := h
  refine ⟨n, q1, q2, q3, q4, q5, q6, q7, q8, q9, fun i hi r => ?_⟩
  obtain ⟨a1, a2, a3, a4, a5, a6, a7, a8, a9, a10, a11, a12, a13⟩ := at_ i hi r
  have fd : ∀ a, zy_fd up fc a → a.toNatClampNeg / 16 ≠ c0 := by
    rintro a ⟨j, hj, rfl, h2, _⟩
    rw [nI_clamp (by omega)]
    exact fun w => h2 (by rw [w]; exact h0)
  have eb : ∀ (K : Nat → Nat) b e, zw_bh (upd rf c0 z) (zw_op O (24 * m + i)) (A (24 * m + i)) K b e = zw_bh rf (zw_op O (24 * m + i)) (A (24 * m + i)) K b e := by
    intro K b e
    unfold zw_bh
    rw [zk_pku (fun w => fd _ (a13 (Or.inl w)))]
  refine ⟨a1, a2, a3, a4, a5, a6, ?_, a8, fun w => ?_, fun w => ?_, a11, fun w => zc_isu h0 (a12 w), fun w => ?_⟩
  · intro j hj
    rw [zy_ndu (fun w => fd _ (a13 (Or.inr w)))]
    exact a7 j hj
  · obtain ⟨b1, b2, b3, b4⟩ := a9 w
    refine ⟨b1, b2, b3, fun e he q => ?_⟩
    rw [eb]; exact b4 e he q
  · obtain ⟨b1, b2, b3, b4⟩ := a10 w
    refine ⟨b1, b2, b3, fun e he q => ?_⟩
    rw [eb]; exact b4 e he q
  · have ne := fd _ (a13 w)
    obtain ⟨j, hj, e, h2, k, ek, h3, h4⟩ := a13 w
    rw [e, nI_clamp (by omega)] at ne
    exact ⟨j, hj, e, by rw [pk_un ne]; exact h2, k, by rw [pk_un ne]; exact ek, h3, h4⟩
/-- nor do objects -/
theorem zl_layu {up fc rf of fl hp : Nat → Int32} {p : Nat → Nat} {l : List Nat} {c0 : Nat} {x y z : Int32} (h0 : up c0 = -2) : ∀ t q e, zl_lay up fc rf of fl hp p l t q e → zl_lay (upd up c0 x) (upd fc c0 y) (upd rf c0 z) of fl hp p l t q e := by
  intro t
  induction t with
  | nil => intro q e h; exact h
  | cons o t ih =>
    rintro q e ⟨⟨c, n, h1, h2, h3, h4, h5, h6, h7, h8⟩, ht⟩
    have ne : c ≠ c0 := fun w => h2 (by rw [w]; exact h0)
    have sz : zl_sz (upd fc c0 y) of o = zl_sz fc of o := by
      unfold zl_sz
      rw [h3, nI_clamp (by omega), show c + 1 - 1 = c by omega, pk_un ne]
    refine ⟨⟨c, n, h1, by rw [pk_un ne]; exact h2, h3, h4, by rw [pk_un ne]; exact h5, h6, h7, by rw [pk_un ne]; exact h8⟩, ?_⟩
    rw [sz]; exact ih _ _ ht
def zq_cls (up : Nat → Int32) (v1 v2 v3 v4 : Int32) : Prop := (∃ c, c < 4 ∧ v1 = nI c ∧ up c = -2) ∧ (v2 = -1 ∨ zc_is up v2) ∧ (∃ i, i ≤ 2 ∧ v3 = nI i) ∧ (∃ r, r ≤ 2 ∧ v4 = nI r)
theorem zq_02 (x : Int32) : ((0 : Int32) ≤ x ∧ x ≤ 2) ↔ ∃ i, i ≤ 2 ∧ x = nI i := by
  constructor
  · intro z
    exact nI_of2 (n := 2) (M := 2) (by decide) (Int32.not_lt.mpr z.1) z.2
  · rintro ⟨i, hi, rfl⟩
    exact ⟨nI_pos' (by omega), nI_le (b := 2) hi (by decide)⟩
theorem x_cls {post : Int32 → SX → Prop} {u : SX} {v1 v2 v3 v4 : Int32} (pf : ¬ zq_cls (gX_superOf u) v1 v2 v3 v4 → post 0 u)
  (pt : ∀ c i r, c < 4 → i ≤ 2 → r ≤ 2 → v1 = nI c → gX_superOf u c = -2 → (v2 = -1 ∨ zc_is (gX_superOf u) v2) → v3 = nI i → v4 = nI r → post 1 (sX_superOf_fieldCount_refFields (upd (gX_superOf u) c v2) (upd (gX_fieldCount u) c (zc_at (gX_fieldCount u) v2 + nI i + nI r)) (upd (gX_refFields u) c (zc_at (gX_refFields u) v2 ||| ((((1 : Int32) <<< (nI r &&& 31)) - 1) <<< ((zc_at (gX_fieldCount u) v2 + nI i) &&& 31)))) u)) : wpX_cls post u v1 v2 v3 v4 := by
  rcases pk_ix v1 (n := 4) (by decide) with z | z | ⟨c, hc, rfl⟩
  · refine upX_cls (br_t z (pf ?_))
    rintro ⟨⟨c, hc, rfl, _⟩, _⟩
    exact nI_pos (by omega) z
  · have z0 : ¬ v1 < 0 := fun w => by
      have := Int32.lt_of_le_of_lt z w
      exact nI_pos (n := 4) (by decide) this
    refine upX_cls (br_f z0 (br_t z (pf ?_)))
    rintro ⟨⟨c, hc, rfl, _⟩, _⟩
    exact nI_ge hc (by decide) z
  · refine upX_cls (br_f (nI_pos (by omega)) (br_f (nI_ge (b := 4) hc (by decide)) (x_isClass (zp_br (fun w => ?_) (fun w => pf ?_)))))
    · have h0 : gX_superOf u c = -2 := by
        by_cases q : gX_superOf u c = -2
        · exact q
        · exact absurd ⟨c, hc, rfl, q⟩ w
      have go : (v2 = -1 ∨ zc_is (gX_superOf u) v2) → kX_cls_34 post (nI c) v2 v3 v4 u := by
        intro hx
        have k88 : ∀ i r, i ≤ 2 → r ≤ 2 → v3 = nI i → v4 = nI r → kX_cls_88 post (nI c) v2 v3 v4 (zc_at (gX_fieldCount u) v2) (zc_at (gX_refFields u) v2) u := by
          intro i r hi hr e3 e4
          have v : vp_in (nI c) 4 := vp_in_nI hc (by decide)
          refine uX_cls_88 ⟨v, nm_e ⟨v, nm_e ⟨v, nm_e ?_⟩⟩⟩
          rw [nI_clamp (by omega), e3, e4]
          exact pt c i r hc hi hr rfl h0 hx e3 e4
        have k71 : ∀ i r, i ≤ 2 → r ≤ 2 → v3 = nI i → v4 = nI r → kX_cls_71 post (nI c) v2 v3 v4 (zc_at (gX_fieldCount u) v2) u := by
          intro i r hi hr e3 e4
          have q := k88 i r hi hr e3 e4
          refine uX_cls_71 (br_c (fun w => ?_) (fun w => ?_))
          · rw [show zc_at (gX_refFields u) v2 = 0 by rw [w]; exact zc_am1] at q
            exact q
          · rcases hx with hx | ⟨d, hd, rfl, _⟩
            · exact absurd hx w
            · rw [zc_atc (f := gX_refFields u) hd] at q
              refine ⟨vp_in_nI hd (by decide), ?_⟩
              rw [nI_clamp (by omega)]; exact q
        have all : (∃ i, i ≤ 2 ∧ v3 = nI i) → (∃ r, r ≤ 2 ∧ v4 = nI r) → ((v2 = -1 → kX_cls_71 post (nI c) v2 v3 v4 0 u) ∧ (¬ v2 = -1 → (vp_in v2 4 ∧ kX_cls_71 post (nI c) v2 v3 v4 (gX_fieldCount u v2.toNatClampNeg) u))) := by
          rintro ⟨i, hi, e3⟩ ⟨r, hr, e4⟩
          have q := k71 i r hi hr e3 e4
          refine br_c (fun w => ?_) (fun w => ?_)
          · rw [show zc_at (gX_fieldCount u) v2 = 0 by rw [w]; exact zc_am1] at q
            exact q
          · rcases hx with hx | ⟨d, hd, rfl, _⟩
            · exact absurd hx w
            · rw [zc_atc (f := gX_fieldCount u) hd] at q
              refine ⟨vp_in_nI hd (by decide), ?_⟩
              rw [nI_clamp (by omega)]; exact q
        refine uX_cls_34 (br_c (fun w3 => pf (fun k => ?_)) (fun w3 => br_c (fun w4 => pf (fun k => ?_)) (fun w4 => br_c (fun w5 => pf (fun k => ?_)) (fun w5 => br_c (fun w6 => ?_) (fun w6 => pf (fun k => ?_))))))
        · exact absurd w3 (Int32.not_lt.mpr ((zq_02 v3).mpr k.2.2.1).1)
        · exact absurd w4 (Int32.not_lt.mpr ((zq_02 v3).mpr k.2.2.1).2)
        · exact absurd w5 (Int32.not_lt.mpr ((zq_02 v4).mpr k.2.2.2).1)
        · exact all ((zq_02 v3).mp ⟨Int32.not_lt.mp w3, Int32.not_lt.mp w4⟩) ((zq_02 v4).mp ⟨Int32.not_lt.mp w5, w6⟩)
        · exact w6 ((zq_02 v4).mpr k.2.2.2).2
      refine br_c (fun w2 => go (Or.inl w2)) (fun w2 => x_isClass (zp_br (fun w3 => pf (fun k => ?_)) (fun w3 => go (Or.inr w3))))
      rcases k.2.1 with q | q
      · exact w2 q
      · exact w3 q
    · rintro ⟨⟨c', hc', e, h⟩, _⟩
      have := (nI_eq (by omega) (by omega)).mp e
      subst this
      obtain ⟨d, hd, e2, h2⟩ := w
      have := (nI_eq (by omega) (by omega)).mp e2
      subst this
      exact h2 h
theorem y_cls {post : Int32 → SY → Prop} {v : SY} {v1 v2 v3 v4 : Int32} (hup : ∀ c, c < 4 → gY_up v c = -2 ∨ gY_up v c = -1 ∨ zc_is (gY_up v) (gY_up v c)) (pf : ¬ zq_cls (gY_up v) v1 v2 v3 v4 → post 0 v)
  (pt : ∀ c i r, c < 4 → i ≤ 2 → r ≤ 2 → v1 = nI c → gY_up v c = -2 → (v2 = -1 ∨ zc_is (gY_up v) v2) → v3 = nI i → v4 = nI r → post 1 (sY_up_ints_references (upd (gY_up v) c v2) (upd (gY_ints v) c (nI i)) (upd (gY_references v) c (nI r)) v)) : wpY_cls post v v1 v2 v3 v4 := by
  refine upY_cls (y_inG (zp_br (fun z => pf (fun k => ?_)) (fun z => ?_)))
  · obtain ⟨⟨c, hc, e, _⟩, _⟩ := k
    exact z ⟨c, hc, e⟩
  · obtain ⟨c, hc, rfl⟩ := z
    refine y_isClass hup (zp_br (fun w => ?_) (fun w => pf (fun k => ?_)))
    · have h0 : gY_up v c = -2 := by
        by_cases q : gY_up v c = -2
        · exact q
        · exact absurd ⟨c, hc, rfl, q⟩ w
      have go : (v2 = -1 ∨ zc_is (gY_up v) v2) → kY_cls_30 post (nI c) v2 v3 v4 v := by
        intro hx
        refine uY_cls_30 (yt_in ?_)
        rw [zp_c (zq_02 v3)]
        refine zp_br (fun w3 => pf (fun k => w3 k.2.2.1)) (fun w3 => yt_in ?_)
        rw [zp_c (zq_02 v4)]
        refine zp_br (fun w4 => pf (fun k => w4 k.2.2.2)) (fun w4 => ?_)
        obtain ⟨i, hi, e3⟩ := w3
        obtain ⟨r, hr, e4⟩ := w4
        have vv : vp_in (nI c) 4 := vp_in_nI hc (by decide)
        refine ⟨vv, nm_e ⟨vv, nm_e ⟨vv, nm_e ?_⟩⟩⟩
        rw [nI_clamp (by omega), e3, e4]
        exact pt c i r hc hi hr rfl h0 hx e3 e4
      refine br_c (fun w2 => go (Or.inl w2)) (fun w2 => y_isClass hup (zp_br (fun w3 => pf (fun k => ?_)) (fun w3 => go (Or.inr w3))))
      rcases k.2.1 with q | q
      · exact w2 q
      · exact w3 q
    · obtain ⟨⟨c', hc', e, h⟩, _⟩ := k
      have := (nI_eq (by omega) (by omega)).mp e
      subst this
      obtain ⟨d, hd, e2, h2⟩ := w
      have := (nI_eq (by omega) (by omega)).mp e2
      subst this
      exact h2 h
theorem i_vc_cls {k : Nat} {u : SX} {v : SY} (I : i_Rel k u v) (hk : k + 5 ≤ 2560) (v1 : Int32) (v2 : Int32) (v3 : Int32) (v4 : Int32) : wpX_cls (fun r u' => wpY_cls (fun r' v' => r' = r ∧ i_Rel (k + 5) u' v') v v1 v2 v3 v4) u v1 v2 v3 v4 := by
  obtain ⟨H, R, K, p, l, hs, hb, hc, hh, hn, ht⟩ := id I
  obtain ⟨hcl, hup, hfc⟩ := zR_cls hs
  obtain ⟨⟨e1, e2, e3, e4, e5, e6, e7, e8, e9, e10⟩, ok, own, ini, rows, go⟩ := id hs
  refine x_cls (fun n1 => ?_) (fun c i r h1 h2 h3 q1 q2 q3 q4 q5 => ?_)
  · refine y_cls hup (fun _ => ⟨rfl, I⟩) (fun c i r h1 h2 h3 q1 q2 q3 q4 q5 => ?_)
    rw [← e1] at q2 q3
    exact absurd ⟨⟨c, h1, q1, q2⟩, q3, ⟨i, h2, q4⟩, ⟨r, h3, q5⟩⟩ n1
  · refine y_cls hup (fun n1 => ?_) (fun c' i' r' h1' h2' h3' q1' q2' q3' q4' q5' => ⟨rfl, ?_⟩)
    · rw [← e1] at n1
      exact absurd ⟨⟨c, h1, q1, q2⟩, q3, ⟨i, h2, q4⟩, ⟨r, h3, q5⟩⟩ n1
    · have := (nI_eq (by omega) (by omega)).mp (q1.symm.trans q1')
      subst this
      have := (nI_eq (by omega) (by omega)).mp (q4.symm.trans q4')
      subst this
      have := (nI_eq (by omega) (by omega)).mp (q5.symm.trans q5')
      subst this
      refine ⟨H, R, K, p, l, ⟨⟨?_, e2, e3, e4, e5, e6, e7, e8, e9, e10⟩, zc_add ok h1 q2 q3 h2 h3, own, ini, rows, go⟩, fun m hm hl => zw_cls q2 (hb m hm hl), hc, ?_, hn, ht⟩
      · show upd (gX_superOf u) c v2 = upd (gY_up v) c v2
        rw [e1]
      · obtain ⟨z1, z2, ⟨e, z3, z4, z5, z6, z7⟩, z8⟩ := hh
        exact ⟨z1, z2, ⟨e, z3, z4, z5, z6, zl_layu q2 _ _ _ z7⟩, z8⟩
end
section
/-! the smaller methods -/
theorem i_vc_place {k : Nat} {u : SX} {v : SY} (I : i_Rel k u v) (hk : k + 5 ≤ 2560) : wpX_place (fun r => wpY_place (fun r' => r' = r ∧ i_Rel (k + 5) u v) v) u := by
  obtain ⟨H, R, K, p, l, hs, hb, hc, hh, hn, ht⟩ := id I
  exact upX_place (upY_place ⟨ht.2.1.symm, I⟩)
theorem i_vc_result {k : Nat} {u : SX} {v : SY} (I : i_Rel k u v) (hk : k + 5 ≤ 2560) : wpX_result (fun r => wpY_result (fun r' => r' = r ∧ i_Rel (k + 5) u v) v) u := by
  obtain ⟨H, R, K, p, l, hs, hb, hc, hh, hn, ht⟩ := id I
  exact upX_result (upY_result ⟨hn.2.2.2.2.2.2.2.2.symm, I⟩)
theorem i_vc_origin {k : Nat} {u : SX} {v : SY} (I : i_Rel k u v) (hk : k + 5 ≤ 2560) : wpX_origin (fun r => wpY_origin (fun r' => r' = r ∧ i_Rel (k + 5) u v) v) u := by
  obtain ⟨H, R, K, p, l, hs, hb, hc, hh, hn, ht⟩ := id I
  exact upX_origin (upY_origin ⟨ht.2.2.1.symm, I⟩)
/-! slot, initialiser -/
def zq_slot (up : Nat → Int32) (v1 v2 v3 : Int32) : Prop := zc_is up v1 ∧ ∃ s, s < 4 ∧ v2 = nI s ∧ (v3 = -1 ∨ ∃ m, v3 = nI m ∧ ((s < 2 ∧ (m = 2 ∨ m = 3)) ∨ (2 ≤ s ∧ (m = 4 ∨ m = 5))))
theorem x_slot {post : Int32 → SX → Prop} {u : SX} {v1 v2 v3 : Int32} (pf : ¬ zq_slot (gX_superOf u) v1 v2 v3 → post 0 u)
  (pt : ∀ c s, c < 4 → s < 4 → v1 = nI c → v2 = nI s → zq_slot (gX_superOf u) v1 v2 v3 → post 1 (sX_ownMethods (upd (gX_ownMethods u) (4 * c + s) v3) u)) : wpX_slot post u v1 v2 v3 := by
  refine upX_slot (x_isClass (zp_br (fun w => pf (fun k => w k.1)) (fun w => ?_)))
  obtain ⟨c, hc, rfl, h2⟩ := id w
  rcases pk_ix v2 (n := 4) (by decide) with z | z | ⟨s, hs, rfl⟩
  · refine br_t z (pf ?_)
    rintro ⟨_, s, hs, rfl, _⟩
    exact nI_pos (by omega) z
  · have z0 : ¬ v2 < 0 := fun w => by
      have := Int32.lt_of_le_of_lt z w
      exact nI_pos (n := 4) (by decide) this
    refine br_f z0 (br_f (Int32.not_lt.mpr z) (pf ?_))
    rintro ⟨_, s, hs, rfl, _⟩
    exact nI_ge hs (by decide) z
  · have e : nI c * 4 + nI s = nI (4 * c + s) := by rw [show (4 : Int32) = nI 4 from rfl, pk_mul, nI_add, Nat.mul_comm]
    have ok : zq_slot (gX_superOf u) (nI c) (nI s) v3 → kX_slot_52 post (nI c) (nI s) v3 u := by
      intro q
      refine uX_slot_52 ⟨by rw [e]; exact vp_in_nI (by omega) (by decide), nm_e ?_⟩
      rw [e, nI_clamp (by omega)]
      exact pt c s hc hs rfl rfl q
    have k29 : ∀ b, (s < 2 ∧ b = 2) ∨ (2 ≤ s ∧ b = 4) → kX_slot_29 post (nI c) (nI s) v3 (nI b) u := by
      intro b hb
      refine uX_slot_29 (br_c (fun q => ok ⟨w, s, hs, rfl, Or.inl q⟩) (fun q => br_c (fun q2 => ok ⟨w, s, hs, rfl, Or.inr ⟨b, q2, by omega⟩⟩) (fun q2 => br_c (fun q3 => ok ⟨w, s, hs, rfl, Or.inr ⟨b + 1, by rw [← nI_1]; exact q3, by omega⟩⟩) (fun q3 => pf ?_))))
      rintro ⟨_, s', hs', e', k⟩
      have := (nI_eq (by omega) (by omega)).mp e'
      subst this
      rcases k with k | ⟨m, em, k⟩
      · exact q k
      · have : m = b ∨ m = b + 1 := by omega
        rcases this with rfl | rfl
        · exact q2 em
        · exact q3 (by rw [em, nI_1])
    refine br_f (nI_pos (by omega)) (br_t (nI_lt (b := 4) hs (by decide)) (br_i (nI_leI (a := 2) (by decide) (by omega)) (fun q => k29 4 (Or.inr ⟨q, rfl⟩)) (fun q => k29 2 (Or.inl ⟨by omega, rfl⟩))))
theorem y_slot {post : Int32 → SY → Prop} {v : SY} {v1 v2 v3 : Int32} (hup : ∀ c, c < 4 → gY_up v c = -2 ∨ gY_up v c = -1 ∨ zc_is (gY_up v) (gY_up v c)) (pf : ¬ zq_slot (gY_up v) v1 v2 v3 → post 0 v)
  (pt : ∀ c s, c < 4 → s < 4 → v1 = nI c → v2 = nI s → zq_slot (gY_up v) v1 v2 v3 → post 1 (sY_slots (upd (gY_slots v) (4 * c + s) v3) v)) : wpY_slot post v v1 v2 v3 := by
  refine upY_slot (y_isClass hup (zp_br (fun w => pf (fun k => w k.1)) (fun w => ?_)))
  obtain ⟨c, hc, rfl, h2⟩ := id w
  refine y_inG (zp_br (fun z => pf (fun k => ?_)) (fun z => ?_))
  · obtain ⟨_, s, hs, e, _⟩ := k
    exact z ⟨s, hs, e⟩
  · obtain ⟨s, hs, rfl⟩ := z
    have e : (4 : Int32) * nI c + nI s = nI (4 * c + s) := by rw [show (4 : Int32) = nI 4 from rfl, pk_mul, nI_add]
    have ok : zq_slot (gY_up v) (nI c) (nI s) v3 → kY_slot_51 post (nI c) (nI s) v3 v := by
      intro q
      refine uY_slot_51 ⟨by rw [e]; exact vp_in_nI (by omega) (by decide), nm_e ?_⟩
      rw [e, nI_clamp (by omega)]
      exact pt c s hc hs rfl rfl q
    have k43 : ∀ b, (s < 2 ∧ b = 2) ∨ (2 ≤ s ∧ b = 4) → ¬ v3 = -1 → kY_slot_43 post (nI c) (nI s) v3 (nI (b + 1)) (nI b) v3 v := by
      intro b hb n1
      refine uY_slot_43 (yt_in (zp_br (fun q => pf (fun k => ?_)) (fun q => ok ?_)))
      · obtain ⟨_, s', hs', e', k⟩ := k
        have := (nI_eq (by omega) (by omega)).mp e'
        subst this
        rcases k with k | ⟨m, em, k⟩
        · exact n1 k
        · refine q ?_
          rw [em]
          exact ⟨nI_le (by omega) (by omega), nI_le (by omega) (by omega)⟩
      · have h0 : ¬ v3 < 0 := fun w => by
          have := Int32.lt_of_le_of_lt q.1 w
          exact nI_pos (by omega) this
        obtain ⟨m, hm, em⟩ := nI_of2 (n := b + 1) (nI_toInt (by omega)) h0 q.2
        rw [em] at q
        have q1 := (nI_leI (by omega) (by omega)).mp q.1
        exact ⟨w, s, hs, rfl, Or.inr ⟨m, em, by omega⟩⟩
    refine br_c (fun q => ok ⟨w, s, hs, rfl, Or.inl q⟩) (fun q => br_i (nI_leI (a := 2) (by decide) (by omega)) (fun q2 => ?_) (fun q2 => ?_))
    · exact uY_slot_33 (br_t (nI_le (a := 2) q2 (by omega)) (k43 4 (Or.inr ⟨q2, rfl⟩) q))
    · exact uY_slot_33 (br_f (fun w => q2 ((nI_leI (a := 2) (by decide) (by omega)).mp w)) (k43 2 (Or.inl ⟨by omega, rfl⟩) q))
theorem i_vc_slot {k : Nat} {u : SX} {v : SY} (I : i_Rel k u v) (hk : k + 5 ≤ 2560) (v1 : Int32) (v2 : Int32) (v3 : Int32) : wpX_slot (fun r u' => wpY_slot (fun r' v' => r' = r ∧ i_Rel (k + 5) u' v') v v1 v2 v3) u v1 v2 v3 := by
  obtain ⟨H, R, K, p, l, hs, hb, hc, hh, hn, ht⟩ := id I
  obtain ⟨hcl, hup, hfc⟩ := zR_cls hs
  obtain ⟨⟨e1, e2, e3, e4, e5, e6, e7, e8, e9, e10⟩, ok, own, ini, rows, go⟩ := id hs
  refine x_slot (fun n1 => ?_) (fun c s h1 h2 q1 q2 q3 => ?_)
  · rw [e1] at n1
    exact y_slot hup (fun _ => ⟨rfl, I⟩) (fun c s h1 h2 q1 q2 q3 => absurd q3 n1)
  · rw [e1] at q3
    refine y_slot hup (fun n1 => absurd q3 n1) (fun c' s' h1' h2' q1' q2' q3' => ⟨rfl, ?_⟩)
    have := (nI_eq (by omega) (by omega)).mp (q1.symm.trans q1')
    subst this
    have := (nI_eq (by omega) (by omega)).mp (q2.symm.trans q2')
    subst this
    refine ⟨H, R, K, p, l, ⟨⟨e1, ?_, e3, e4, e5, e6, e7, e8, e9, e10⟩, ok, ?_, ini, rows, go⟩, hb, hc, hh, hn, ht⟩
    · show upd (gX_ownMethods u) (4 * c + s) v3 = upd (gY_slots v) (4 * c + s) v3
      rw [e2]
    · intro c2 hc2 s2 hs2
      show upd (gX_ownMethods u) (4 * c + s) v3 (4 * c2 + s2) = -1 ∨ ∃ m, upd (gX_ownMethods u) (4 * c + s) v3 (4 * c2 + s2) = nI m ∧ _
      by_cases e : 4 * c2 + s2 = 4 * c + s
      · have ec : s2 = s := by omega
        rw [e, pk_us, ec]
        obtain ⟨_, s', hs', e', q⟩ := q3
        have := (nI_eq (by omega) (by omega)).mp (q2.symm.trans e')
        subst this
        exact q
      · rw [pk_un e]; exact own c2 hc2 s2 hs2
def zq_init (up : Nat → Int32) (v1 v2 : Int32) : Prop := zc_is up v1 ∧ (v2 = -1 ∨ v2 = nI 0 ∨ v2 = nI 1)
theorem zq_m11 (x : Int32) : (-1 ≤ x ∧ x ≤ 1) ↔ (x = -1 ∨ x = nI 0 ∨ x = nI 1) := by
  constructor
  · intro z
    rw [Int32.le_iff_toInt_le, Int32.le_iff_toInt_le] at z
    have m1 : (-1 : Int32).toInt = -1 := by decide
    have p1 : (1 : Int32).toInt = 1 := by decide
    rw [m1, p1] at z
    have : x.toInt = -1 ∨ x.toInt = 0 ∨ x.toInt = 1 := by omega
    rcases this with h | h | h
    · exact Or.inl (Int32.toInt_inj.mp (h.trans m1.symm))
    · exact Or.inr (Or.inl (Int32.toInt_inj.mp (h.trans (by decide))))
    · exact Or.inr (Or.inr (Int32.toInt_inj.mp (h.trans (by decide))))
  · rintro (rfl | rfl | rfl) <;> decide
theorem i_vc_initialiser {k : Nat} {u : SX} {v : SY} (I : i_Rel k u v) (hk : k + 5 ≤ 2560) (v1 : Int32) (v2 : Int32) : wpX_initialiser (fun r u' => wpY_initialiser (fun r' v' => r' = r ∧ i_Rel (k + 5) u' v') v v1 v2) u v1 v2 := by
  obtain ⟨H, R, K, p, l, hs, hb, hc, hh, hn, ht⟩ := id I
  obtain ⟨hcl, hup, hfc⟩ := zR_cls hs
  obtain ⟨⟨e1, e2, e3, e4, e5, e6, e7, e8, e9, e10⟩, ok, own, ini, rows, go⟩ := id hs
  have no : ¬ zq_init (gY_up v) v1 v2 → wpY_initialiser (fun r' v' => r' = 0 ∧ i_Rel (k + 5) u v') v v1 v2 := by
    intro n1
    refine upY_initialiser (y_isClass hup (zp_br (fun _ => ⟨rfl, I⟩) (fun w => yt_in ?_)))
    rw [zp_c (zq_m11 v2)]
    exact zp_br (fun _ => ⟨rfl, I⟩) (fun w2 => absurd ⟨w, w2⟩ n1)
  refine upX_initialiser (x_isClass (zp_br (fun w => no (fun k => w (by rw [e1]; exact k.1))) (fun w => br_c (fun w2 => no (fun k => ?_)) (fun w2 => br_c (fun w3 => ?_) (fun w3 => no (fun k => ?_))))))
  · exact absurd w2 (Int32.not_lt.mpr ((zq_m11 v2).mpr k.2).1)
  · have q := (zq_m11 v2).mp ⟨Int32.not_lt.mp w2, w3⟩
    obtain ⟨c, hc4, rfl, h2⟩ := id w
    have vv : vp_in (nI c) 4 := vp_in_nI hc4 (by decide)
    refine ⟨vv, nm_e (upY_initialiser (y_isClass hup ?_))⟩
    rw [e1] at w
    refine zp_br (fun n1 => absurd w n1) (fun _ => yt_in ?_)
    rw [zp_c (zq_m11 v2)]
    refine zp_br (fun n1 => absurd q n1) (fun _ => ⟨vv, nm_e ⟨rfl, ?_⟩⟩)
    rw [nI_clamp (by omega)]
    refine ⟨H, R, K, p, l, ⟨⟨e1, e2, ?_, e4, e5, e6, e7, e8, e9, e10⟩, ok, own, ?_, rows, go⟩, hb, hc, hh, hn, ht⟩
    · show upd (gX_initialisers u) c v2 = upd (gY_first v) c v2
      rw [e3]
    · intro c2 hc2
      show upd (gX_initialisers u) c v2 c2 = -1 ∨ upd (gX_initialisers u) c v2 c2 = nI 0 ∨ upd (gX_initialisers u) c v2 c2 = nI 1
      by_cases e : c2 = c
      · rw [e, pk_us]; exact q
      · rw [pk_un e]; exact ini c2 hc2
  · exact w3 ((zq_m11 v2).mpr k.2).2
/-! code, catcher, wipe, body, map -/
theorem i_vc_code {k : Nat} {u : SX} {v : SY} (I : i_Rel k u v) (hk : k + 5 ≤ 2560) (v1 : Int32) (v2 : Int32) : wpX_code (fun r u' => wpY_code (fun r' v' => r' = r ∧ i_Rel (k + 5) u' v') v v1 v2) u v1 v2 := by
  obtain ⟨H, R, K, p, l, hs, hb, hc, hh, hn, ht⟩ := id I
  obtain ⟨⟨e1, e2, e3, e4, e5, e6, e7, e8, e9, e10⟩, ok, own, ini, rows, go⟩ := id hs
  obtain ⟨n, hn24, en, ho⟩ := rows.1 8 (by decide)
  have enY : gY_length v 8 = nI n := by rw [← e6]; exact en
  have i23 : ∀ x : Int32, ((0 : Int32) ≤ x ∧ x ≤ 23) ↔ ∃ o, o < 24 ∧ x = nI o := by
    intro x
    constructor
    · intro z
      obtain ⟨o, h1, h2⟩ := nI_of2 (n := 23) (M := 23) (by decide) (Int32.not_lt.mpr z.1) z.2
      exact ⟨o, by omega, h2⟩
    · rintro ⟨o, h1, rfl⟩
      exact ⟨nI_pos' (by omega), nI_le (b := 23) (by omega) (by decide)⟩
  have no : ¬ (∃ o, o < 24 ∧ v1 = nI o ∧ zi_fit o v2 ∧ n < 24) → wpY_code (fun r' v' => r' = -1 ∧ i_Rel (k + 5) u v') v v1 v2 := by
    intro n1
    refine upY_code (yt_in ?_)
    rw [zp_c (i23 v1)]
    refine zp_br (fun _ => ⟨rfl, I⟩) (fun w => ?_)
    obtain ⟨o, ho2, rfl⟩ := w
    refine yi_fits ho2 (zp_br (fun _ => ⟨rfl, I⟩) (fun w => ?_))
    rw [enY]
    refine br_i (nI_eq (b := 24) (by omega) (by decide)) (fun _ => ⟨rfl, I⟩) (fun w2 => absurd ⟨o, ho2, rfl, w, by omega⟩ n1)
  rcases pk_ix v1 (n := 24) (by decide) with z | z | ⟨o, ho2, rfl⟩
  · refine upX_code (br_t z (no ?_))
    rintro ⟨o, h1, rfl, _⟩
    exact nI_pos (by omega) z
  · have z0 : ¬ v1 < 0 := fun w => by
      have := Int32.lt_of_le_of_lt z w
      exact nI_pos (n := 24) (by decide) this
    refine upX_code (br_f z0 (br_t z (no ?_)))
    rintro ⟨o, h1, rfl, _⟩
    exact nI_ge h1 (by decide) z
  · refine upX_code (br_f (nI_pos (by omega)) (br_f (nI_ge (b := 24) ho2 (by decide)) ?_))
    rw [en]
    refine br_i (nI_ltI (b := 24) (by omega) (by decide)) (fun w => ?_) (fun w => no ?_)
    · have e192 : (192 : Int32) + nI n = nI (192 + n) := by rw [show (192 : Int32) = nI 192 from rfl, nI_add]
      have v216 : vp_in (nI (192 + n)) 216 := vp_in_nI (by omega) (by decide)
      have r07 : (0 : Int32) ≤ nI o ∧ nI o ≤ 23 := (i23 _).mpr ⟨o, ho2, rfl⟩
      have ok44 : zi_fit o v2 → kX_code_44 (fun r u' => wpY_code (fun r' v' => r' = r ∧ i_Rel (k + 5) u' v') v (nI o) v2) (nI o) v2 u := by
        intro fit
        refine uX_code_44 (nm_r (by rw [en, e192]) ⟨v216, nm_e ⟨v216, nm_e (nm_e ?_)⟩⟩)
        rw [en, nI_1, pk_us]
        refine upY_code (yt_in (zp_br (fun q => absurd r07 q) (fun _ => yi_fits ho2 (zp_br (fun q => absurd fit q) (fun _ => ?_)))))
        rw [enY, e192]
        refine br_f (fun q => ?_) ⟨v216, nm_e ⟨v216, nm_e (nm_e ⟨by rw [nI_1], ?_⟩)⟩⟩
        · have : n = 24 := (nI_eq (by omega) (by decide)).mp q
          omega
        · rw [nI_clamp (by omega), nI_1]
          refine ⟨H, R, K, p, l, ⟨⟨e1, e2, e3, ?_, ?_, ?_, e7, e8, e9, e10⟩, ok, own, ini, ⟨?_, rows.2⟩, go⟩, ?_, ?_, hh, hn, ht⟩
          · show upd (gX_ops u) (192 + n) (nI o) = upd (gY_ops v) (192 + n) (nI o)
            rw [e4]
          · show upd (gX_operands u) (192 + n) v2 = upd (gY_args v) (192 + n) v2
            rw [e5]
          · show upd (gX_lengths u) 8 (nI (n + 1)) = upd (gY_length v) 8 (nI (n + 1))
            rw [e6]
          · intro r hr
            show ∃ l, l ≤ 24 ∧ upd (gX_lengths u) 8 (nI (n + 1)) r = nI l ∧ ∀ j, j < l → zi_ok (upd (gX_ops u) (192 + n) (nI o) (24 * r + j)) (upd (gX_operands u) (192 + n) v2 (24 * r + j))
            by_cases r8 : r = 8
            · subst r8
              refine ⟨n + 1, by omega, pk_us, fun j hj => ?_⟩
              by_cases ej : j = n
              · subst ej
                rw [show 24 * 8 + j = 192 + j by omega, pk_us, pk_us]
                exact ⟨o, ho2, rfl, fit⟩
              · rw [pk_un (by omega), pk_un (by omega)]; exact ho j (by omega)
            · obtain ⟨l2, hl2, el2, ho3⟩ := rows.1 r hr
              refine ⟨l2, hl2, by rw [pk_un r8]; exact el2, fun j hj => ?_⟩
              rw [pk_un (by omega), pk_un (by omega)]; exact ho3 j hj
          · intro q hq hl
            have hl : upd (gX_lengths u) 8 (nI (n + 1)) q ≠ 0 := hl
            rw [pk_un (by omega)] at hl
            exact zw_keep (hb q hq hl) (fun i hi => pk_un (by omega)) (fun i hi => pk_un (by omega)) (pk_un (by omega)) rfl rfl rfl (fun _ _ => rfl) (fun _ _ => rfl) rfl (fun _ _ => rfl) (fun _ _ => Iff.rfl) (fun _ _ => rfl)
          · obtain ⟨c1, c2⟩ := hc
            refine ⟨fun m hm => ?_, c2⟩
            obtain ⟨d1, d2, d3, d4⟩ := c1 m hm
            refine ⟨d1, d2, fun w => ?_, fun i hi => ?_⟩
            · show upd (gX_lengths u) 8 (nI (n + 1)) m ≠ 0
              rw [pk_un (by omega)]; exact d3 w
            · have eop : zw_op (upd (gX_ops u) (192 + n) (nI o)) (24 * m + i) = zw_op (gX_ops u) (24 * m + i) := by unfold zw_op; rw [pk_un (by omega)]
              have ea : upd (gX_operands u) (192 + n) v2 (24 * m + i) = gX_operands u (24 * m + i) := pk_un (by omega)
              have eP : zw_P (upd (gX_ops u) (192 + n) (nI o)) (upd (gX_operands u) (192 + n) v2) (24 * m + i) = zw_P (gX_ops u) (gX_operands u) (24 * m + i) := by unfold zw_P; rw [eop, ea]
              refine ⟨(d4 i hi).1, fun w r => ?_⟩
              show zx_co (zw_op (upd (gX_ops u) (192 + n) (nI o)) (24 * m + i)) (upd (gX_operands u) (192 + n) v2 (24 * m + i)) (6 + H (24 * m + i) - zw_P (upd (gX_ops u) (192 + n) (nI o)) (upd (gX_operands u) (192 + n) v2) (24 * m + i)) _ _ _
              rw [eop, ea, eP]; exact (d4 i hi).2 w r
      refine xi_most ho2 ?_
      by_cases lim : zi_lim o = 0
      · rw [if_pos lim]
        exact br_t (by decide) (ok44 (Or.inl lim))
      · rw [if_neg lim]
        have l64 : zi_lim o ≤ 64 := by
          have : ∀ o, o < 24 → zi_lim o ≤ 64 := by decide
          exact this o ho2
        refine br_f (nI_pos (by omega)) (br_c (fun w2 => no ?_) (fun w2 => br_c (fun w3 => ok44 ?_) (fun w3 => no ?_)))
        · rintro ⟨o', h1, e, fit, _⟩
          have := (nI_eq (by omega) (by omega)).mp e
          subst this
          obtain ⟨j, hj, rfl⟩ := zi_fj fit rfl (by omega)
          exact nI_pos (by omega) w2
        · obtain ⟨j, hj, e⟩ := nI_of2 (n := zi_lim o - 1) (nI_toInt (by omega)) w2 w3
          exact Or.inr ⟨j, by omega, e⟩
        · rintro ⟨o', h1, e, fit, _⟩
          have := (nI_eq (by omega) (by omega)).mp e
          subst this
          obtain ⟨j, hj, rfl⟩ := zi_fj fit rfl (by omega)
          exact w3 (nI_le (by omega) (by omega))
    · rintro ⟨o', h1, e, fit, q⟩
      exact w q
end
section
/-! catcher, wipe, body, map, set, go, look, count, and the constructors -/
theorem zq_24 (x : Int32) : ((0 : Int32) ≤ x ∧ x ≤ 24) ↔ ∃ i, i ≤ 24 ∧ x = nI i := by
  constructor
  · intro z
    exact nI_of2 (n := 24) (M := 24) (by decide) (Int32.not_lt.mpr z.1) z.2
  · rintro ⟨i, hi, rfl⟩
    exact ⟨nI_pos' (by omega), nI_le (b := 24) hi (by decide)⟩
theorem i_vc_catcher {k : Nat} {u : SX} {v : SY} (I : i_Rel k u v) (hk : k + 5 ≤ 2560) (v1 : Int32) (v2 : Int32) (v3 : Int32) : wpX_catcher (fun r u' => wpY_catcher (fun r' v' => r' = r ∧ i_Rel (k + 5) u' v') v v1 v2 v3) u v1 v2 v3 := by
  obtain ⟨H, R, K, p, l, hs, hb, hc, hh, hn, ht⟩ := id I
  obtain ⟨⟨e1, e2, e3, e4, e5, e6, e7, e8, e9, e10⟩, ok, own, ini, rows, go⟩ := id hs
  have no : ¬ (((0 : Int32) ≤ v1 ∧ v1 ≤ 24) ∧ (v1 ≤ v2 ∧ v2 ≤ 24) ∧ ((0 : Int32) ≤ v3 ∧ v3 ≤ 24)) → wpY_catcher (fun r' v' => r' = 0 ∧ i_Rel (k + 5) u v') v v1 v2 v3 := by
    intro n1
    exact upY_catcher (yt_in (zp_br (fun _ => ⟨rfl, I⟩) (fun w1 => yt_in (zp_br (fun _ => ⟨rfl, I⟩) (fun w2 => yt_in (zp_br (fun _ => ⟨rfl, I⟩) (fun w3 => absurd ⟨w1, w2, w3⟩ n1)))))))
  refine upX_catcher (br_c (fun w => no (fun q => absurd w (Int32.not_lt.mpr q.1.1))) (fun w1 => br_c (fun w => no (fun q => absurd w (Int32.not_lt.mpr q.2.1.2))) (fun w2 => br_c (fun w => no (fun q => absurd w (Int32.not_lt.mpr q.2.1.1))) (fun w3 => br_c (fun w => no (fun q => absurd w (Int32.not_lt.mpr q.2.2.1))) (fun w4 => br_c (fun w5 => ?_) (fun w => no (fun q => w q.2.2.2)))))))
  have w1 := Int32.not_lt.mp w1
  have w2 := Int32.not_lt.mp w2
  have w3 := Int32.not_lt.mp w3
  have w4 := Int32.not_lt.mp w4
  have q1 : (0 : Int32) ≤ v1 ∧ v1 ≤ 24 := ⟨w1, Int32.le_trans w3 w2⟩
  refine nm_e (nm_e (nm_e (upY_catcher (yt_in (zp_br (fun n1 => absurd q1 n1) (fun _ => yt_in (zp_br (fun n1 => absurd ⟨w3, w2⟩ n1) (fun _ => yt_in (zp_br (fun n1 => absurd ⟨w4, w5⟩ n1) (fun _ => nm_e (nm_e (nm_e ⟨rfl, ?_⟩))))))))))))
  obtain ⟨f, hf, ef⟩ := (zq_24 v1).mp q1
  obtain ⟨t, ht2, et⟩ := (zq_24 v2).mp ⟨Int32.le_trans w1 w3, w2⟩
  obtain ⟨g, hg, eg⟩ := (zq_24 v3).mp ⟨w4, w5⟩
  refine ⟨H, R, K, p, l, ⟨⟨e1, e2, e3, e4, e5, e6, ?_, ?_, e9, e10⟩, ok, own, ini, ⟨rows.1, ?_⟩, ?_⟩, ?_, hc, hh, hn, ht⟩
  · show upd (gX_catchFrom u) 8 v1 = upd (gY_from v) 8 v1
    rw [e7]
  · show upd (gX_catchTo u) 8 v2 = upd (gY_to v) 8 v2
    rw [e8]
  · intro r hr
    show ∃ f t, f ≤ t ∧ t ≤ 24 ∧ upd (gX_catchFrom u) 8 v1 r = nI f ∧ upd (gX_catchTo u) 8 v2 r = nI t
    by_cases r8 : r = 8
    · subst r8
      rw [pk_us, pk_us]
      rw [ef, et] at w3
      exact ⟨f, t, (nI_leI (by omega) (by omega)).mp w3, ht2, ef, et⟩
    · rw [pk_un r8, pk_un r8]; exact rows.2 r hr
  · intro r hr
    show upd (gX_catchFrom u) 8 v1 r < upd (gX_catchTo u) 8 v2 r → upd (gX_catchGoal u) 8 v3 r = upd (gY_goal v) 8 v3 r ∧ ∃ g, g ≤ 24 ∧ upd (gX_catchGoal u) 8 v3 r = nI g
    by_cases r8 : r = 8
    · subst r8
      rw [pk_us, pk_us, pk_us, pk_us]
      exact fun _ => ⟨rfl, g, hg, eg⟩
    · rw [pk_un r8, pk_un r8, pk_un r8, pk_un r8]; exact go r hr
  · intro q hq hl
    exact zw_keep (hb q hq hl) (fun _ _ => rfl) (fun _ _ => rfl) rfl (pk_un (by omega)) (pk_un (by omega)) (pk_un (by omega)) (fun _ _ => rfl) (fun _ _ => rfl) rfl (fun _ _ => rfl) (fun _ _ => Iff.rfl) (fun _ _ => rfl)
theorem i_vc_wipe {k : Nat} {u : SX} {v : SY} (I : i_Rel k u v) (hk : k + 5 ≤ 2560) : wpX_wipe (fun r u' => wpY_wipe (fun r' v' => r' = r ∧ i_Rel (k + 5) u' v') v) u := by
  obtain ⟨H, R, K, p, l, hs, hb, hc, hh, hn, ht⟩ := id I
  obtain ⟨⟨e1, e2, e3, e4, e5, e6, e7, e8, e9, e10⟩, ok, own, ini, rows, go⟩ := id hs
  refine upX_wipe (nm_e (upX_emptyDraft (nm_e (nm_e (nm_e (nm_e (upY_wipe (nm_e (nm_e (nm_e (nm_e ⟨?_, ?_⟩))))))))))) 
  · rw [e6]
  · refine ⟨H, R, K, p, l, ⟨⟨e1, e2, e3, e4, e5, ?_, ?_, ?_, e9, e10⟩, ok, own, ini, ⟨?_, ?_⟩, ?_⟩, ?_, ?_, hh, hn, ht⟩
    · show upd (gX_lengths u) 8 0 = upd (gY_length v) 8 0
      rw [e6]
    · show upd (gX_catchFrom u) 8 0 = upd (gY_from v) 8 0
      rw [e7]
    · show upd (gX_catchTo u) 8 0 = upd (gY_to v) 8 0
      rw [e8]
    · intro r hr
      show ∃ l, l ≤ 24 ∧ upd (gX_lengths u) 8 0 r = nI l ∧ ∀ j, j < l → zi_ok (gX_ops u (24 * r + j)) (gX_operands u (24 * r + j))
      by_cases r8 : r = 8
      · subst r8
        exact ⟨0, by decide, pk_us, fun j hj => absurd hj (by omega)⟩
      · rw [pk_un r8]; exact rows.1 r hr
    · intro r hr
      show ∃ f t, f ≤ t ∧ t ≤ 24 ∧ upd (gX_catchFrom u) 8 0 r = nI f ∧ upd (gX_catchTo u) 8 0 r = nI t
      by_cases r8 : r = 8
      · subst r8
        exact ⟨0, 0, by decide, by decide, pk_us, pk_us⟩
      · rw [pk_un r8, pk_un r8]; exact rows.2 r hr
    · intro r hr
      show upd (gX_catchFrom u) 8 0 r < upd (gX_catchTo u) 8 0 r → upd (gX_catchGoal u) 8 0 r = gY_goal v r ∧ ∃ g, g ≤ 24 ∧ upd (gX_catchGoal u) 8 0 r = nI g
      by_cases r8 : r = 8
      · subst r8
        rw [pk_us, pk_us]
        intro w; exact absurd w (by decide)
      · rw [pk_un r8, pk_un r8, pk_un r8]; exact go r hr
    · intro q hq hl
      have hl : upd (gX_lengths u) 8 0 q ≠ 0 := hl
      rw [pk_un (by omega)] at hl
      exact zw_keep (hb q hq hl) (fun _ _ => rfl) (fun _ _ => rfl) (pk_un (by omega)) (pk_un (by omega)) (pk_un (by omega)) (pk_un (by omega)) (fun _ _ => rfl) (fun _ _ => rfl) rfl (fun _ _ => rfl) (fun _ _ => Iff.rfl) (fun _ _ => rfl)
    · obtain ⟨c1, c2⟩ := hc
      refine ⟨fun m hm => ?_, c2⟩
      obtain ⟨d1, d2, d3, d4⟩ := c1 m hm
      refine ⟨d1, d2, fun w => ?_, d4⟩
      show upd (gX_lengths u) 8 0 m ≠ 0
      rw [pk_un (by omega)]; exact d3 w
theorem zR_len {u : SX} {v : SY} (h : zR_s u v) : (∀ r, r < 9 → ∃ l, l ≤ 24 ∧ gX_lengths u r = nI l) ∧ (∀ r, r < 9 → ∃ l, l ≤ 24 ∧ gY_length v r = nI l) := by
  obtain ⟨⟨_, _, _, _, _, e6, _⟩, _, _, _, rows, _⟩ := h
  have q : ∀ r, r < 9 → ∃ l, l ≤ 24 ∧ gX_lengths u r = nI l := fun r hr => by
    obtain ⟨l, h1, h2, _⟩ := rows.1 r hr
    exact ⟨l, h1, h2⟩
  exact ⟨q, by rw [← e6]; exact q⟩
theorem i_vc_body {k : Nat} {u : SX} {v : SY} (I : i_Rel k u v) (hk : k + 5 ≤ 2560) (v1 : Int32) (v2 : Int32) : wpX_body (fun r => wpY_body (fun r' => r' = r ∧ i_Rel (k + 5) u v) v v1 v2) u v1 v2 := by
  obtain ⟨H, R, K, p, l, hs, hb, hc, hh, hn, ht⟩ := id I
  obtain ⟨⟨e1, e2, e3, e4, e5, e6, e7, e8, e9, e10⟩, ok, own, ini, rows, go⟩ := id hs
  obtain ⟨lX, lY⟩ := zR_len hs
  refine upX_body (x_hasBody lX (zp_br (fun w => ?_) (fun w => ?_)))
  · rw [e6] at w
    exact upY_body (y_isBody lY (zp_br (fun _ => ⟨rfl, I⟩) (fun w2 => absurd w2 w)))
  · have w' := w
    rw [e6] at w'
    obtain ⟨m, hm, rfl, h2⟩ := w
    have v9 : vp_in (nI m) 9 := vp_in_nI (by omega) (by decide)
    have v8 : vp_in (nI m) 8 := vp_in_nI (by omega) (by decide)
    have i01 : ∀ x : Int32, ((0 : Int32) ≤ x ∧ x ≤ 1) → x = 0 ∨ x = 1 := by
      intro x z
      obtain ⟨i, hi, rfl⟩ := nI_of2 (n := 1) (M := 1) (by decide) (Int32.not_lt.mpr z.1) z.2
      have : i = 0 ∨ i = 1 := by omega
      rcases this with rfl | rfl
      · exact Or.inl rfl
      · exact Or.inr rfl
    refine br_c (fun q => ⟨v9, ?_⟩) (fun q => br_c (fun q2 => ⟨v8, ?_⟩) (fun q2 => ?_))
    · subst q
      refine upY_body (y_isBody lY (zp_br (fun n1 => absurd w' n1) (fun _ => yt_in (zp_br (fun n1 => absurd (by decide) n1) (fun _ => br_t rfl ⟨v9, ?_, I⟩)))))
      rw [e6]
    · subst q2
      refine upY_body (y_isBody lY (zp_br (fun n1 => absurd w' n1) (fun _ => yt_in (zp_br (fun n1 => absurd (by decide) n1) (fun _ => br_f (by decide) ⟨v8, ?_, I⟩)))))
      rw [e10]
    · refine upY_body (y_isBody lY (zp_br (fun n1 => absurd w' n1) (fun _ => yt_in (zp_br (fun _ => ⟨rfl, I⟩) (fun n1 => ?_)))))
      rcases i01 v2 n1 with r | r
      · exact absurd r q
      · exact absurd r q2
theorem i_vc_map {k : Nat} {u : SX} {v : SY} (I : i_Rel k u v) (hk : k + 5 ≤ 2560) (v1 : Int32) (v2 : Int32) : wpX_map (fun r => wpY_map (fun r' => r' = r ∧ i_Rel (k + 5) u v) v v1 v2) u v1 v2 := by
  obtain ⟨H, R, K, p, l, hs, hb, hc, hh, hn, ht⟩ := id I
  obtain ⟨⟨e1, e2, e3, e4, e5, e6, e7, e8, e9, e10⟩, ok, own, ini, rows, go⟩ := id hs
  obtain ⟨lX, lY⟩ := zR_len hs
  refine upX_map (x_hasBody lX (zp_br (fun w => ?_) (fun w => ?_)))
  · rw [e6] at w
    exact upY_map (y_isBody lY (zp_br (fun _ => ⟨rfl, I⟩) (fun w2 => absurd w2 w)))
  · have w' := w
    rw [e6] at w'
    obtain ⟨m, hm, rfl, h2⟩ := w
    have v9 : vp_in (nI m) 9 := vp_in_nI (by omega) (by decide)
    obtain ⟨n, hn24, en⟩ := lX m (by omega)
    have n0 : 0 < n := by
      by_cases q : n = 0
      · rw [q] at en; exact absurd en h2
      · omega
    have enY : gY_length v m = nI n := by rw [← e6]; exact en
    have cm : (nI m).toNatClampNeg = m := nI_clamp (by omega)
    have en1 : nI n - 1 = nI (n - 1) := by rw [show (1 : Int32) = nI 1 from rfl, pk_sub (by omega)]
    have inn : ((0 : Int32) ≤ v2 ∧ v2 ≤ nI (n - 1)) ↔ ∃ i, i < n ∧ v2 = nI i := by
      constructor
      · intro z
        obtain ⟨i, hi, e⟩ := nI_of2 (n := n - 1) (nI_toInt (by omega)) (Int32.not_lt.mpr z.1) z.2
        exact ⟨i, by omega, e⟩
      · rintro ⟨i, hi, rfl⟩
        exact ⟨nI_pos' (by omega), nI_le (by omega) (by omega)⟩
    have no : ¬ (∃ i, i < n ∧ v2 = nI i) → wpY_map (fun r' => r' = -1 ∧ i_Rel (k + 5) u v) v (nI m) v2 := by
      intro n1
      refine upY_map (y_isBody lY (zp_br (fun n1 => absurd w' n1) (fun _ => ⟨v9, ?_⟩)))
      rw [cm, enY, en1]
      refine yt_in ?_
      rw [zp_c inn]
      exact zp_br (fun _ => ⟨rfl, I⟩) (fun q => absurd q n1)
    refine br_c (fun q => no ?_) (fun q => ⟨v9, ?_⟩)
    · rintro ⟨i, hi, rfl⟩
      exact nI_pos (by omega) q
    · rw [cm, en]
      refine br_c (fun q2 => ?_) (fun q2 => no ?_)
      · obtain ⟨i, hi, rfl⟩ := nI_of q
        have q3 := (nI_ltI hi (by omega)).mp q2
        have x24 : nI m * 24 + nI i = nI (24 * m + i) := by rw [show (24 : Int32) = nI 24 from rfl, pk_mul, nI_add, Nat.mul_comm]
        have y24 : (24 : Int32) * nI m + nI i = nI (24 * m + i) := by rw [show (24 : Int32) = nI 24 from rfl, pk_mul, nI_add]
        refine ⟨by rw [x24]; exact vp_in_nI (by omega) (by decide), upY_map (y_isBody lY (zp_br (fun n1 => absurd w' n1) (fun _ => ⟨v9, ?_⟩)))⟩
        rw [cm, enY, en1]
        refine yt_in ?_
        rw [zp_c inn]
        refine zp_br (fun n1 => absurd ⟨i, q3, rfl⟩ n1) (fun _ => ⟨by rw [y24]; exact vp_in_nI (by omega) (by decide), ?_, I⟩)
        rw [x24, y24, e9]
      · rintro ⟨i, hi, rfl⟩
        exact q2 (nI_lt hi (by omega))
/-! objects -/
theorem zl_find {up fc rf of fl hp : Nat → Int32} {p : Nat → Nat} {l : List Nat} : ∀ t q e, zl_lay up fc rf of fl hp p l t q e → q ≤ e ∧ ∀ o, o ∈ t → zl_ob up fc rf of fl hp p l o (p o) ∧ q ≤ p o ∧ p o + zl_sz fc of o ≤ e := by
  intro t
  induction t with
  | nil => intro q e h; exact ⟨Nat.le_of_eq h, fun o ho => absurd ho (by simp)⟩
  | cons a t ih =>
    rintro q e ⟨hob, ht⟩
    obtain ⟨h1, h2⟩ := ih _ _ ht
    have hp : p a = q := by
      obtain ⟨c, n, _, _, _, _, _, _, h7, _⟩ := hob
      exact h7
    refine ⟨by omega, fun o ho => ?_⟩
    rcases List.mem_cons.mp ho with rfl | ho
    · rw [hp]; exact ⟨hob, by omega, h1⟩
    · have := h2 o ho
      exact ⟨this.1, by omega, this.2.2⟩
theorem zl_refc {up fc rf of fl hp gx gy : Nat → Int32} {he us : Int32} {p : Nat → Nat} {l : List Nat} (h : zR_h1 up fc rf of fl hp gx gy he us p l) {y x : Int32} (r : zl_ref p l y x) : (y = 0 ∧ x = 0) ∨ ∃ o c n, o ∈ l ∧ y = nI o ∧ x = nI (p o) ∧ 1 ≤ o ∧ o ≤ 48 ∧ 1 ≤ p o ∧ p o + 1 + n ≤ 49 ∧ c < 4 ∧ up c ≠ -2 ∧ of o = nI (c + 1) ∧ hp (p o) = nI c ∧ fc c = nI n ∧ n ≤ 16 ∧ ∀ j, j < n → zl_val p l (if bt (rf c) j then 2 else 1) (fl (16 * o + j)) (hp (p o + 1 + j)) := by
  obtain ⟨s, p0, ⟨e, h1, h2, h3, h4, lay⟩, _⟩ := h
  obtain ⟨o, ho, e1, e2⟩ := r
  rcases ho with rfl | ho
  · rw [p0] at e2; exact Or.inl ⟨e1, e2⟩
  · obtain ⟨hob, q1, q2⟩ := (zl_find _ _ _ lay).2 o ho
    obtain ⟨c, n, k1, k2, k3, k4, k5, k6, k7, k8⟩ := hob
    have so := (s.2.2 o).mp ho
    have sz : zl_sz fc of o = 1 + n := by
      unfold zl_sz
      rw [k3, nI_clamp (by omega), show c + 1 - 1 = c by omega, k5, nI_clamp (by omega)]
    exact Or.inr ⟨o, c, n, ho, e1, e2, so.1, so.2.1, q1, by omega, k1, k2, k3, k4, k5, k6, k8⟩
theorem x_classOf {post : Int32 → Prop} {u : SX} {up fc rf of fl gx gy : Nat → Int32} {he us : Int32} {p : Nat → Nat} {l : List Nat} (h : zR_h1 up fc rf of fl (gX_heap u) gx gy he us p l) {y x : Int32} (r : zl_ref p l y x) (hp : post (of y.toNatClampNeg - 1)) : wpX_classOf post u x := by
  rcases zl_refc h r with ⟨rfl, rfl⟩ | ⟨o, c, n, _, rfl, rfl, o1, o2, p1, p2, c4, _, eo, eh, _⟩
  · refine upX_classOf (br_t rfl ?_)
    rw [show (0 : Int32).toNatClampNeg = 0 from rfl, h.1.2.1] at hp
    exact hp
  · refine upX_classOf (br_f (nI_ne0 (by omega) (by omega)) ⟨vp_in_nI (by omega) (by decide), ?_⟩)
    rw [nI_clamp (by omega), eh]
    rw [nI_clamp (by omega), eo, nI_pred] at hp
    exact hp
theorem i_vc_set {k : Nat} {u : SX} {v : SY} (I : i_Rel k u v) (hk : k + 5 ≤ 2560) (v1 : Int32) (v2 : Int32) : wpX_set (fun r u' => wpY_set (fun r' v' => r' = r ∧ i_Rel (k + 5) u' v') v v1 v2) u v1 v2 := by
  obtain ⟨H, R, K, p, l, hs, hb, hc, hh, hn, ht⟩ := id I
  have im : ∀ x : Int32, (-1 ≤ x ∧ x ≤ 3) ↔ (x = -1 ∨ zg_is x) := by
    intro x
    constructor
    · intro z
      by_cases q : x < 0
      · left
        rw [Int32.le_iff_toInt_le, Int32.le_iff_toInt_le] at z
        rw [Int32.lt_iff_toInt_lt] at q
        have m1 : (-1 : Int32).toInt = -1 := by decide
        have p0 : (0 : Int32).toInt = 0 := by decide
        rw [m1] at z
        rw [p0] at q
        exact Int32.toInt_inj.mp (by omega)
      · exact Or.inr (zg_in.mp ⟨Int32.not_lt.mp q, z.2⟩)
    · rintro (rfl | q)
      · decide
      · have := zg_in.mpr q
        exact ⟨Int32.le_trans (by decide) this.1, this.2⟩
  have rel : ∀ g (y x : Int32), g < 4 → zl_ref p l y x → i_Rel (k + 5) (sX_globals (upd (gX_globals u) g x) u) (sY_globals (upd (gY_globals v) g y) v) := by
    intro g y x hg r
    refine ⟨H, R, K, p, l, hs, hb, hc, ?_, hn, ht⟩
    obtain ⟨z1, z2, z3, z8⟩ := hh
    refine ⟨z1, z2, z3, fun g2 hg2 => ?_⟩
    show zl_ref p l (upd (gY_globals v) g y g2) (upd (gX_globals u) g x g2)
    by_cases e : g2 = g
    · rw [e, pk_us, pk_us]; exact r
    · rw [pk_un e, pk_un e]; exact z8 g2 hg2
  have gl := hh.2.2.2
  have p0 := hh.2.1
  refine upX_set (x_isGlobal (zp_br (fun w => ?_) (fun w => ?_)))
  · exact upY_set (y_inG (zp_br (fun _ => ⟨rfl, I⟩) (fun q => absurd q w)))
  · obtain ⟨g, hg, rfl⟩ := id w
    have vg : vp_in (nI g) 4 := vp_in_nI hg (by decide)
    have cg : (nI g).toNatClampNeg = g := nI_clamp (by omega)
    refine br_c (fun q => ?_) (fun q => x_isGlobal (zp_br (fun q2 => ?_) (fun q2 => ?_)))
    · subst q
      refine uX_set_23 (br_t rfl ⟨vg, nm_e (upY_set (y_inG (zp_br (fun n1 => absurd w n1) (fun _ => yt_in ?_))))⟩)
      rw [zp_c (im (-1))]
      refine zp_br (fun n1 => absurd (Or.inl rfl) n1) (fun _ => br_f (by decide) ⟨vg, nm_e ⟨rfl, ?_⟩⟩)
      rw [cg]
      exact rel g 0 0 hg ⟨0, Or.inl rfl, rfl, by rw [p0]; rfl⟩
    · refine upY_set (y_inG (zp_br (fun n1 => absurd w n1) (fun _ => yt_in ?_)))
      rw [zp_c (im v2)]
      exact zp_br (fun _ => ⟨rfl, I⟩) (fun n1 => n1.elim (fun r => absurd r q) (fun r => absurd r q2))
    · obtain ⟨h, hh2, rfl⟩ := id q2
      have vh : vp_in (nI h) 4 := vp_in_nI hh2 (by decide)
      have ch : (nI h).toNatClampNeg = h := nI_clamp (by omega)
      refine uX_set_23 (br_f q ⟨vh, vg, nm_e (upY_set (y_inG (zp_br (fun n1 => absurd w n1) (fun _ => yt_in ?_))))⟩)
      rw [zp_c (im (nI h))]
      refine zp_br (fun n1 => absurd (Or.inr q2) n1) (fun _ => br_t (nI_pos' (by omega)) ⟨vh, vg, nm_e ⟨rfl, ?_⟩⟩)
      rw [cg, ch]
      exact rel g _ _ hg (gl h hh2)
theorem y_isObject {post : Int32 → Prop} {v : SY} {g : Int32} (h : post (zp (zg_is g ∧ ¬ gY_globals v g.toNatClampNeg ≤ 0))) : wpY_isObject post v g := by
  refine upY_isObject (y_inG (zp_br (fun w => ?_) (fun w => ⟨?_, ?_⟩)))
  · rw [zp_f (fun k => w k.1)] at h; exact h
  · obtain ⟨c, hc, rfl⟩ := w
    exact vp_in_nI hc (by decide)
  · exact zp_post h (fun q k => k.2 q) (fun q => ⟨w, q⟩)
theorem zR_at {u : SX} {v : SY} {p : Nat → Nat} {l : List Nat} (hs : zR_s u v) (hh : zR_h u v p l) {g : Nat} (hg : g < 4) : (gY_globals v g = 0 ∧ gX_globals u g = 0) ∨ ∃ o c n, o ∈ l ∧ gY_globals v g = nI o ∧ gX_globals u g = nI (p o) ∧ 1 ≤ o ∧ o ≤ 48 ∧ 1 ≤ p o ∧ p o + 1 + n ≤ 49 ∧ c < 4 ∧ gX_superOf u c ≠ -2 ∧ gY_of v o = nI (c + 1) ∧ gX_heap u (p o) = nI c ∧ gX_fieldCount u c = nI n ∧ n ≤ 16 ∧ (∀ j, j < n → zl_val p l (if bt (gX_refFields u c) j then 2 else 1) (gY_fields v (16 * o + j)) (gX_heap u (p o + 1 + j))) ∧ zc_dp (gY_up v) 4 (nI c) := by
  rcases zl_refc hh (hh.2.2.2 g hg) with q | ⟨o, c, n, h1, h2, h3, h4, h5, h6, h7, h8, h9, h10, h11, h12, h13, h14⟩
  · exact Or.inl q
  · refine Or.inr ⟨o, c, n, h1, h2, h3, h4, h5, h6, h7, h8, h9, h10, h11, h12, h13, h14, ?_⟩
    have h9' := h9
    rw [hs.1.1] at h9'
    exact (zR_cls hs).1.2 c h8 h9'
theorem i_vc_go {k : Nat} {u : SX} {v : SY} (I : i_Rel k u v) (hk : k + 5 ≤ 2560) (v1 : Int32) (v2 : Int32) : wpX_go (fun r u' => wpY_go (fun r' v' => r' = r ∧ i_Rel (k + 5) u' v') v v1 v2) u v1 v2 := by
  obtain ⟨H, R, K, p, l, hs, hb, hc, hh, hn, ht⟩ := id I
  obtain ⟨hcl, hup, hfc⟩ := zR_cls hs
  refine upX_go (x_isGlobal (zp_br (fun w => ?_) (fun w => ?_)))
  · exact upY_go (y_isObject (zp_br (fun _ => ⟨rfl, I⟩) (fun q => absurd q.1 w)))
  · obtain ⟨g, hg, rfl⟩ := id w
    have vg : vp_in (nI g) 4 := vp_in_nI hg (by decide)
    have cg : (nI g).toNatClampNeg = g := nI_clamp (by omega)
    refine ⟨vg, ?_⟩
    rw [cg]
    rcases zR_at hs hh hg with ⟨ey, ex⟩ | ⟨o, c, n, ol, ey, ex, o1, o2, p1, p2, c4, cu, eo, eh, ef, n16, fl, dp⟩
    · refine br_t ex (upY_go (y_isObject (zp_br (fun _ => ⟨rfl, I⟩) (fun q => ?_))))
      rw [cg, ey] at q
      exact absurd (by decide) q.2
    · rw [ex]
      have xn : ¬ nI (p o) = 0 := nI_ne0 (by omega) (by omega)
      have vr : vp_in (nI (p o)) 49 := vp_in_nI (by omega) (by decide)
      have cr : (nI (p o)).toNatClampNeg = p o := nI_clamp (by omega)
      have yo : zg_is (nI g) ∧ ¬ gY_globals v (nI g).toNatClampNeg ≤ 0 := by
        rw [cg, ey]; exact ⟨w, nI_nle (by omega) (by omega)⟩
      have cuY : gY_up v c ≠ -2 := by rw [← hs.1.1]; exact cu
      have cis : zc_is (gX_superOf u) (nI c) := ⟨c, c4, rfl, cu⟩
      -- Y's walk up to the kind
      have yw : ∀ (post : Int32 → SY → Prop), (¬ (∃ f, f < n ∧ v2 = nI f) → post 0 v) → (∀ f, f < n → v2 = nI f → (bt (gX_refFields u c) f = false → post 0 v) ∧ (bt (gX_refFields u c) f = true → post 1 (sY_globals (upd (gY_globals v) g (gY_fields v (16 * o + f))) v))) → wpY_go post v (nI g) v2 := by
        intro post h1 h2
        refine upY_go (y_isObject (zp_br (fun n1 => absurd yo n1) (fun _ => ⟨vg, nm_e ?_⟩)))
        rw [cg, ey]
        have vo : vp_in (nI o) 49 := vp_in_nI (by omega) (by decide)
        refine ⟨vo, ?_⟩
        rw [nI_clamp (n := o) (by omega), eo, nI_pred]
        refine y_total hcl.1 dp ?_
        rw [zc_atc c4, ef]
        have inn : ((0 : Int32) ≤ v2 ∧ v2 ≤ nI n - 1) ↔ ∃ f, f < n ∧ v2 = nI f := by
          by_cases n0 : n = 0
          · subst n0
            constructor
            · intro z
              have := Int32.le_trans z.1 z.2
              exact absurd this (by decide)
            · rintro ⟨f, hf, _⟩; omega
          · have en1 : nI n - 1 = nI (n - 1) := by rw [show (1 : Int32) = nI 1 from rfl, pk_sub (by omega)]
            rw [en1]
            constructor
            · intro z
              obtain ⟨i, hi, e⟩ := nI_of2 (n := n - 1) (nI_toInt (by omega)) (Int32.not_lt.mpr z.1) z.2
              exact ⟨i, by omega, e⟩
            · rintro ⟨i, hi, rfl⟩
              exact ⟨nI_pos' (by omega), nI_le (by omega) (by omega)⟩
        refine yt_in ?_
        rw [zp_c inn]
        refine zp_br (fun n1 => h1 n1) (fun q => ⟨vo, ?_⟩)
        obtain ⟨f, hf, rfl⟩ := q
        have h3 := h2 f hf rfl
        refine y_kindOf hcl.1 c4 cuY dp ef hf n16 ?_
        have e16 : (16 : Int32) * nI o + nI f = nI (16 * o + f) := by rw [show (16 : Int32) = nI 16 from rfl, pk_mul, nI_add]
        cases b : bt (gX_refFields u c) f
        · exact br_t rfl (h3.1 b)
        · refine br_f (by decide) ⟨by rw [e16]; exact vp_in_nI (by omega) (by decide), vg, nm_e ?_⟩
          rw [e16, nI_clamp (by omega)]
          exact h3.2 b
      refine br_f xn ⟨vg, nm_e ⟨vr, ?_⟩⟩
      rw [cr, eh]
      refine x_isField (zp_br (fun q => yw _ (fun _ => ⟨rfl, I⟩) (fun f hf e => absurd ⟨cis, by rw [e]; exact nI_pos (by omega), by rw [e, zc_atc c4, ef]; exact nI_lt hf (by omega)⟩ q)) (fun q => ⟨vr, ?_⟩))
      obtain ⟨f, hf, rfl⟩ := nI_of q.2.1
      have lt := q.2.2
      rw [zc_atc c4, ef] at lt
      have fn := (nI_ltI hf (by omega)).mp lt
      refine x_isRefField c4 (by omega) (zp_br (fun b => ?_) (fun b => ?_))
      · refine yw _ (fun n1 => absurd ⟨f, fn, rfl⟩ n1) (fun f' hf' e => ⟨fun _ => ⟨rfl, I⟩, fun b' => ?_⟩)
        have := (nI_eq (by omega) (by omega)).mp e
        subst this
        exact absurd b' b
      · have e1 : nI (p o) + 1 + nI f = nI (p o + 1 + f) := by rw [nI_1, nI_add]
        refine ⟨by rw [e1]; exact vp_in_nI (by omega) (by decide), vg, nm_e ?_⟩
        rw [e1, nI_clamp (by omega)]
        refine yw _ (fun n1 => absurd ⟨f, fn, rfl⟩ n1) (fun f' hf' e => ⟨fun b' => ?_, fun _ => ⟨rfl, ?_⟩⟩)
        · have := (nI_eq (by omega) (by omega)).mp e
          subst this
          rw [b] at b'; exact absurd b' (by decide)
        · have := (nI_eq (by omega) (by omega)).mp e
          subst this
          have r := (fl f fn).2 (by rw [if_pos b])
          refine ⟨H, R, K, p, l, hs, hb, hc, ?_, hn, ht⟩
          obtain ⟨z1, z2, z3, z8⟩ := hh
          refine ⟨z1, z2, z3, fun g2 hg2 => ?_⟩
          show zl_ref p l (upd (gY_globals v) g _ g2) (upd (gX_globals u) g _ g2)
          by_cases e : g2 = g
          · rw [e, pk_us, pk_us]; exact r
          · rw [pk_un e, pk_un e]; exact z8 g2 hg2
theorem i_vc_look {k : Nat} {u : SX} {v : SY} (I : i_Rel k u v) (hk : k + 5 ≤ 2560) (v1 : Int32) (v2 : Int32) : wpX_look (fun r => wpY_look (fun r' => r' = r ∧ i_Rel (k + 5) u v) v v1 v2) u v1 v2 := by
  obtain ⟨H, R, K, p, l, hs, hb, hc, hh, hn, ht⟩ := id I
  obtain ⟨hcl, hup, hfc⟩ := zR_cls hs
  refine upX_look (x_isGlobal (zp_br (fun w => ?_) (fun w => ?_)))
  · exact upY_look (y_isObject (zp_br (fun _ => ⟨rfl, I⟩) (fun q => absurd q.1 w)))
  · obtain ⟨g, hg, rfl⟩ := id w
    have vg : vp_in (nI g) 4 := vp_in_nI hg (by decide)
    have cg : (nI g).toNatClampNeg = g := nI_clamp (by omega)
    refine ⟨vg, ?_⟩
    rw [cg]
    rcases zR_at hs hh hg with ⟨ey, ex⟩ | ⟨o, c, n, ol, ey, ex, o1, o2, p1, p2, c4, cu, eo, eh, ef, n16, fl, dp⟩
    · refine br_t ex (upY_look (y_isObject (zp_br (fun _ => ⟨rfl, I⟩) (fun q => ?_))))
      rw [cg, ey] at q
      exact absurd (by decide) q.2
    · rw [ex]
      have xn : ¬ nI (p o) = 0 := nI_ne0 (by omega) (by omega)
      have vr : vp_in (nI (p o)) 49 := vp_in_nI (by omega) (by decide)
      have vo : vp_in (nI o) 49 := vp_in_nI (by omega) (by decide)
      have cr : (nI (p o)).toNatClampNeg = p o := nI_clamp (by omega)
      have co : (nI o).toNatClampNeg = o := nI_clamp (by omega)
      have vc : vp_in (nI c) 4 := vp_in_nI c4 (by decide)
      have cc : (nI c).toNatClampNeg = c := nI_clamp (by omega)
      have yo : zg_is (nI g) ∧ ¬ gY_globals v (nI g).toNatClampNeg ≤ 0 := by
        rw [cg, ey]; exact ⟨w, nI_nle (by omega) (by omega)⟩
      have cuY : gY_up v c ≠ -2 := by rw [← hs.1.1]; exact cu
      have inn : ((0 : Int32) ≤ v2 ∧ v2 ≤ nI n) ↔ ∃ f, f ≤ n ∧ v2 = nI f := by
        constructor
        · intro z
          exact nI_of2 (n := n) (nI_toInt (by omega)) (Int32.not_lt.mpr z.1) z.2
        · rintro ⟨i, hi, rfl⟩
          exact ⟨nI_pos' (by omega), nI_le (by omega) (by omega)⟩
      have yw : ∀ (post : Int64 → Prop), (¬ (∃ f, f ≤ n ∧ v2 = nI f) → post 10000000000) → (v2 = 0 → post (nI c).toInt64) → (∀ f, f < n → v2 = nI (f + 1) → (bt (gX_refFields u c) f = false → post (gY_fields v (16 * o + f)).toInt64) ∧ (bt (gX_refFields u c) f = true → vp_in (gY_fields v (16 * o + f)) 49 ∧ post (gY_of v (gY_fields v (16 * o + f)).toNatClampNeg - 1).toInt64)) → wpY_look post v (nI g) v2 := by
        intro post h1 h0 h2
        refine upY_look (y_isObject (zp_br (fun n1 => absurd yo n1) (fun _ => ⟨vg, nm_e ?_⟩)))
        rw [cg, ey]
        refine ⟨vo, nm_e ?_⟩
        rw [co, eo, nI_pred]
        refine y_total hcl.1 dp ?_
        rw [zc_atc c4, ef]
        refine yt_in ?_
        rw [zp_c inn]
        refine zp_br (fun n1 => h1 n1) (fun q => br_c (fun q0 => h0 q0) (fun q0 => ?_))
        obtain ⟨f, hf, rfl⟩ := q
        have f1 : 1 ≤ f := by
          by_cases z : f = 0
          · subst z; exact absurd rfl q0
          · omega
        obtain ⟨f, rfl⟩ : ∃ f', f = f' + 1 := ⟨f - 1, by omega⟩
        have h3 := h2 f (by omega) rfl
        have e16 : (16 : Int32) * nI o + nI (f + 1) - 1 = nI (16 * o + f) := by
          rw [show (16 : Int32) = nI 16 from rfl, pk_mul, nI_add, show 16 * o + (f + 1) = (16 * o + f) + 1 by omega, nI_pred]
        refine ⟨by rw [e16]; exact vp_in_nI (by omega) (by decide), nm_e ?_⟩
        rw [e16, nI_clamp (n := 16 * o + f) (by omega), nI_pred]
        refine y_kindOf hcl.1 c4 cuY dp ef (by omega) n16 ?_
        cases b : bt (gX_refFields u c) f
        · exact br_t rfl (h3.1 b)
        · exact br_f (by decide) (h3.2 b)
      have ne10 : ∀ f, f ≤ n → v2 = nI f → ¬ ¬ (∃ f, f ≤ n ∧ v2 = nI f) := fun f h1 h2 h3 => h3 ⟨f, h1, h2⟩
      refine br_f xn ⟨vg, nm_e (br_c (fun q => ⟨vr, ?_⟩) (fun q => br_c (fun q2 => ?_) (fun q2 => ⟨vr, ?_⟩)))⟩
      · rw [cr, eh]
        subst q
        exact yw _ (fun n1 => absurd ⟨0, by omega, rfl⟩ n1) (fun _ => ⟨rfl, I⟩) (fun f hf e => absurd e.symm (nI_ne0 (by omega) (by omega)))
      · refine yw _ (fun _ => ⟨rfl, I⟩) (fun e => absurd e q) (fun f hf e => ?_)
        rw [e] at q2; exact absurd q2 (nI_pos (by omega))
      · rw [cr, eh, cc, ef]
        refine ⟨vc, br_c (fun q3 => ?_) (fun q3 => ?_)⟩
        · obtain ⟨f, hf, rfl⟩ := nI_of2 (n := n) (nI_toInt (by omega)) q2 q3
          have f1 : 1 ≤ f := by
            by_cases z : f = 0
            · subst z; exact absurd rfl q
            · omega
          obtain ⟨f, rfl⟩ : ∃ f', f = f' + 1 := ⟨f - 1, by omega⟩
          have e1 : nI (p o) + nI (f + 1) = nI (p o + 1 + f) := by rw [nI_add]; exact congrArg nI (by omega)
          refine ⟨by rw [e1]; exact vp_in_nI (by omega) (by decide), nm_e ⟨vr, ?_⟩⟩
          rw [e1, nI_clamp (n := p o + 1 + f) (by omega), nI_pred]
          have fv := fl f (by omega)
          refine x_isRefField c4 (by omega) (zp_br (fun b => ?_) (fun b => ?_))
          · refine yw _ (fun n1 => absurd ⟨f + 1, hf, rfl⟩ n1) (fun e => absurd e q) (fun f' hf' e => ?_)
            have := (nI_eq (by omega) (by omega)).mp e
            have : f = f' := by omega
            subst this
            refine ⟨fun _ => ⟨?_, I⟩, fun b' => absurd b' b⟩
            rw [fv.1 (by rw [if_neg b])]
          · have r := fv.2 (by rw [if_pos b])
            refine x_classOf hh r ?_
            refine yw _ (fun n1 => absurd ⟨f + 1, hf, rfl⟩ n1) (fun e => absurd e q) (fun f' hf' e => ?_)
            have := (nI_eq (by omega) (by omega)).mp e
            have : f = f' := by omega
            subst this
            refine ⟨fun b' => by rw [b] at b'; exact absurd b' (by decide), fun _ => ⟨?_, rfl, I⟩⟩
            rcases zl_refc hh r with ⟨e0, _⟩ | ⟨o', _, _, _, e0, _, k1, k2, _⟩
            · rw [e0]; exact vp_in_iff.mpr (by decide)
            · rw [e0]; exact vp_in_nI (by omega) (by decide)
        · refine yw _ (fun _ => ⟨rfl, I⟩) (fun e => absurd e q) (fun f hf e => ?_)
          rw [e] at q3
          exact absurd (nI_le (by omega) (by omega)) q3
/-! count -/
theorem i_vc_count {k : Nat} {u : SX} {v : SY} (I : i_Rel k u v) (hk : k + 5 ≤ 2560) (v1 : Int32) : wpX_count (fun r => wpY_count (fun r' => r' = r ∧ i_Rel (k + 5) u v) v v1) u v1 := by
  obtain ⟨H, R, K, p, l, hs, hb, hc, hh, hn, ht⟩ := id I
  obtain ⟨n1, n2, n3, n4, n5, n6, n7, n8, n9⟩ := hn
  have us : gX_heapEnd u - 1 = gY_used v := by
    obtain ⟨_, _, ⟨e, h1, h2, h3, h4, _⟩, _⟩ := hh
    rw [h3, h4, show (1 : Int32) = nI 1 from rfl, pk_sub h1]
  have rs : ∀ d i acc, i + d = 4 → kX_readySum_4 (fun r => ∃ n, kY_count_78 (fun r' => r' = r ∧ i_Rel (k + 5) u v) n acc (nI i) v) (d + 1) acc (nI i) u := by
    intro d
    induction d with
    | zero =>
      intro i acc hi
      have : i = 4 := by omega
      subst this
      exact uX_readySum_4 (br_t (by decide) ⟨1, uY_count_78 (br_t (by decide) ⟨rfl, I⟩)⟩)
    | succ d ih =>
      intro i acc hi
      have vi : vp_in (nI i) 4 := vp_in_nI (by omega) (by decide)
      have g4 : ¬ (4 : Int32) ≤ nI i := nI_ge (b := 4) (by omega) (by decide)
      have ci : (nI i).toNatClampNeg = i := nI_clamp (by omega)
      -- X's sum does not look at the post
      have mono : ∀ (d : Nat) (P Q : Int32 → Prop), (∀ r, P r → Q r) → ∀ a j, kX_readySum_4 P d a j u → kX_readySum_4 Q d a j u := by
        intro d
        induction d with
        | zero => intro P Q _ a j h; exact h
        | succ d ih2 =>
          intro P Q hPQ a j h
          refine uX_readySum_4 ⟨fun w => hPQ _ (h.1 w), fun w => ⟨(h.2 w).1, fun w2 => ?_, fun w2 => ?_⟩⟩
          · exact fun y ey => ih2 P Q hPQ _ _ ((h.2 w).2.1 w2 y ey)
          · exact fun y ey z ez => ih2 P Q hPQ _ _ ((h.2 w).2.2 w2 y ey z ez)
      refine uX_readySum_4 (br_f g4 ⟨vi, ?_⟩)
      rw [ci, n1]
      refine br_c (fun w => nm_r (nI_1 i) ?_) (fun w => nm_e (nm_r (nI_1 i) ?_))
      · refine mono _ _ _ (fun r q => ?_) _ _ (ih (i + 1) acc (by omega))
        obtain ⟨n, q⟩ := q
        refine ⟨n + 1, uY_count_78 (br_f g4 ⟨vi, ?_⟩)⟩
        rw [ci]
        exact br_t w (nm_r (nI_1 i) q)
      · refine mono _ _ _ (fun r q => ?_) _ _ (ih (i + 1) (acc ||| ((1 : Int32) <<< (nI i &&& 31))) (by omega))
        obtain ⟨n, q⟩ := q
        refine ⟨n + 1, uY_count_78 (br_f g4 ⟨vi, ?_⟩)⟩
        rw [ci]
        exact br_f w (nm_e (nm_r (nI_1 i) q))
  refine upX_count (br_c (fun w => upY_count (br_t w ⟨rfl, I⟩)) (fun w => br_c (fun w2 => upY_count (br_f w (br_t w2 ⟨rfl, I⟩))) (fun w2 => ?_)))
  refine br_c (fun q0 => upY_count (br_f w (br_f w2 (br_t q0 ⟨ht.2.2.2.symm, I⟩)))) (fun q0 => ?_)
  refine br_c (fun q1 => upY_count (br_f w (br_f w2 (br_f q0 (br_t q1 ⟨n5.symm, I⟩))))) (fun q1 => ?_)
  refine br_c (fun q2 => upY_count (br_f w (br_f w2 (br_f q0 (br_f q1 (br_t q2 ⟨n6.symm, I⟩)))))) (fun q2 => ?_)
  refine br_c (fun q3 => upY_count (br_f w (br_f w2 (br_f q0 (br_f q1 (br_f q2 (br_t q3 ⟨us.symm, I⟩))))))) (fun q3 => ?_)
  refine br_c (fun q4 => upY_count (br_f w (br_f w2 (br_f q0 (br_f q1 (br_f q2 (br_f q3 (br_t q4 ⟨n7.symm, I⟩)))))))) (fun q4 => ?_)
  refine br_c (fun q5 => upY_count (br_f w (br_f w2 (br_f q0 (br_f q1 (br_f q2 (br_f q3 (br_f q4 (br_t q5 ⟨n8.symm, I⟩))))))))) (fun q5 => ?_)
  refine br_c (fun q6 => ?_) (fun _ => trivial)
  refine upX_readySum ⟨5, ?_⟩
  have mono : ∀ (d : Nat) (P Q : Int32 → Prop), (∀ r, P r → Q r) → ∀ a j, kX_readySum_4 P d a j u → kX_readySum_4 Q d a j u := by
    intro d
    induction d with
    | zero => intro P Q _ a j h; exact h
    | succ d ih2 =>
      intro P Q hPQ a j h
      refine uX_readySum_4 ⟨fun w => hPQ _ (h.1 w), fun w => ⟨(h.2 w).1, fun w2 => ?_, fun w2 => ?_⟩⟩
      · exact fun y ey => ih2 P Q hPQ _ _ ((h.2 w).2.1 w2 y ey)
      · exact fun y ey z ez => ih2 P Q hPQ _ _ ((h.2 w).2.2 w2 y ey z ez)
  exact mono 5 _ _ (fun r q => upY_count (br_f w (br_f w2 (br_f q0 (br_f q1 (br_f q2 (br_f q3 (br_f q4 (br_f q5 (br_t q6 q)))))))))) 0 0 (rs 4 0 0 rfl)
end
section
/-! the constructors -/
def zx_i : SX := (-1, 1, 0, 0, -1, 0, 10000000000, -1, 0, 0, 0, 0, 0, fun _ => 0, fun _ => 0, fun _ => 0, fun _ => 0, fun _ => 0, fun _ => 0, fun _ => 0, fun _ => 0, fun _ => 0, fun _ => 0, fun _ => 0, fun _ => 0, fun _ => 0, fun _ => 0, fun _ => 0, fun _ => 0, fun _ => 0, fun _ => 0, fun _ => 0, fun _ => 0, fun _ => 0, fun _ => 0, fun _ => 0, fun _ => 0, fun _ => 0, fun _ => 0, fun _ => 0)
def zy_i : SY := (-1, 0, 0, 0, 0, 0, -1, 0, 0, 0, 0, 0, 10000000000, fun _ => 0, fun _ => 0, fun _ => 0, fun _ => 0, fun _ => 0, fun _ => 0, fun _ => 0, fun _ => 0, fun _ => 0, fun _ => 0, fun _ => 0, fun _ => 0, fun _ => 0, fun _ => 0, fun _ => 0, fun _ => 0, fun _ => 0, fun _ => 0, fun _ => 0, fun _ => 0, fun _ => 0, fun _ => 0, fun _ => 0, fun _ => 0, fun _ => 0, fun _ => 0, fun _ => 0, fun _ => 0)
theorem x_init {post : SX → Prop} (h : ∃ n, kX_init_291 post n 0 zx_i) : wpX_init post := h
theorem y_init {post : SY → Prop} (h : ∃ n, kY_init_247 post n 0 zy_i) : wpY_init post := h
def zi_c (x : Int32) (n : Nat) : Nat → Int32 := fun k => if k < n then x else 0
theorem zi_c0 (x : Int32) : zi_c x 0 = fun _ => 0 := by funext k; unfold zi_c; rw [if_neg (by omega)]
theorem zi_cs (x : Int32) (n : Nat) : upd (zi_c x n) n x = zi_c x (n + 1) := by
  funext k
  by_cases e : k = n
  · subst e; rw [pk_us]; unfold zi_c; rw [if_pos (by omega)]
  · rw [pk_un e]
    unfold zi_c
    by_cases q : k < n
    · rw [if_pos q, if_pos (by omega)]
    · rw [if_neg q, if_neg (by omega)]
theorem zi_ct {x : Int32} {n k : Nat} (h : k < n) : zi_c x n k = x := if_pos h
def aX (w_superOf : Nat → Int32) (w_ownMethods : Nat → Int32) (w_initialisers : Nat → Int32) (u : SX) : SX := (gX_faultPlace u, gX_heapEnd u, gX_frames u, gX_frameWordsUsed u, gX_wanted u, gX_outcome u, gX_lastResult u, gX_lastOrigin u, gX_done u, gX_collections u, gX_stayed u, gX_turnedCount u, gX_linkedCount u, w_superOf, gX_fieldCount u, gX_refFields u, w_ownMethods, w_initialisers, gX_ready u, gX_ops u, gX_operands u, gX_lengths u, gX_catchFrom u, gX_catchTo u, gX_catchGoal u, gX_refMaps u, gX_bodyHeights u, gX_frameWords u, gX_codeOps u, gX_codeCells u, gX_codeArgs u, gX_heights u, gX_intKinds u, gX_refKinds u, gX_heap u, gX_newPlaces u, gX_globals u, gX_frameMethod u, gX_framePlace u, gX_cells u)
theorem aX_faultPlace (w_superOf : Nat → Int32) (w_ownMethods : Nat → Int32) (w_initialisers : Nat → Int32) (u : SX) : gX_faultPlace (aX w_superOf w_ownMethods w_initialisers u) = gX_faultPlace u := rfl
theorem aX_heapEnd (w_superOf : Nat → Int32) (w_ownMethods : Nat → Int32) (w_initialisers : Nat → Int32) (u : SX) : gX_heapEnd (aX w_superOf w_ownMethods w_initialisers u) = gX_heapEnd u := rfl
theorem aX_frames (w_superOf : Nat → Int32) (w_ownMethods : Nat → Int32) (w_initialisers : Nat → Int32) (u : SX) : gX_frames (aX w_superOf w_ownMethods w_initialisers u) = gX_frames u := rfl
theorem aX_frameWordsUsed (w_superOf : Nat → Int32) (w_ownMethods : Nat → Int32) (w_initialisers : Nat → Int32) (u : SX) : gX_frameWordsUsed (aX w_superOf w_ownMethods w_initialisers u) = gX_frameWordsUsed u := rfl
theorem aX_wanted (w_superOf : Nat → Int32) (w_ownMethods : Nat → Int32) (w_initialisers : Nat → Int32) (u : SX) : gX_wanted (aX w_superOf w_ownMethods w_initialisers u) = gX_wanted u := rfl
theorem aX_outcome (w_superOf : Nat → Int32) (w_ownMethods : Nat → Int32) (w_initialisers : Nat → Int32) (u : SX) : gX_outcome (aX w_superOf w_ownMethods w_initialisers u) = gX_outcome u := rfl
theorem aX_lastResult (w_superOf : Nat → Int32) (w_ownMethods : Nat → Int32) (w_initialisers : Nat → Int32) (u : SX) : gX_lastResult (aX w_superOf w_ownMethods w_initialisers u) = gX_lastResult u := rfl
theorem aX_lastOrigin (w_superOf : Nat → Int32) (w_ownMethods : Nat → Int32) (w_initialisers : Nat → Int32) (u : SX) : gX_lastOrigin (aX w_superOf w_ownMethods w_initialisers u) = gX_lastOrigin u := rfl
theorem aX_done (w_superOf : Nat → Int32) (w_ownMethods : Nat → Int32) (w_initialisers : Nat → Int32) (u : SX) : gX_done (aX w_superOf w_ownMethods w_initialisers u) = gX_done u := rfl
theorem aX_collections (w_superOf : Nat → Int32) (w_ownMethods : Nat → Int32) (w_initialisers : Nat → Int32) (u : SX) : gX_collections (aX w_superOf w_ownMethods w_initialisers u) = gX_collections u := rfl
theorem aX_stayed (w_superOf : Nat → Int32) (w_ownMethods : Nat → Int32) (w_initialisers : Nat → Int32) (u : SX) : gX_stayed (aX w_superOf w_ownMethods w_initialisers u) = gX_stayed u := rfl
theorem aX_turnedCount (w_superOf : Nat → Int32) (w_ownMethods : Nat → Int32) (w_initialisers : Nat → Int32) (u : SX) : gX_turnedCount (aX w_superOf w_ownMethods w_initialisers u) = gX_turnedCount u := rfl
theorem aX_linkedCount (w_superOf : Nat → Int32) (w_ownMethods : Nat → Int32) (w_initialisers : Nat → Int32) (u : SX) : gX_linkedCount (aX w_superOf w_ownMethods w_initialisers u) = gX_linkedCount u := rfl
theorem aX_superOf (w_superOf : Nat → Int32) (w_ownMethods : Nat → Int32) (w_initialisers : Nat → Int32) (u : SX) : gX_superOf (aX w_superOf w_ownMethods w_initialisers u) = w_superOf := rfl
theorem aX_fieldCount (w_superOf : Nat → Int32) (w_ownMethods : Nat → Int32) (w_initialisers : Nat → Int32) (u : SX) : gX_fieldCount (aX w_superOf w_ownMethods w_initialisers u) = gX_fieldCount u := rfl
theorem aX_refFields (w_superOf : Nat → Int32) (w_ownMethods : Nat → Int32) (w_initialisers : Nat → Int32) (u : SX) : gX_refFields (aX w_superOf w_ownMethods w_initialisers u) = gX_refFields u := rfl
theorem aX_ownMethods (w_superOf : Nat → Int32) (w_ownMethods : Nat → Int32) (w_initialisers : Nat → Int32) (u : SX) : gX_ownMethods (aX w_superOf w_ownMethods w_initialisers u) = w_ownMethods := rfl
theorem aX_initialisers (w_superOf : Nat → Int32) (w_ownMethods : Nat → Int32) (w_initialisers : Nat → Int32) (u : SX) : gX_initialisers (aX w_superOf w_ownMethods w_initialisers u) = w_initialisers := rfl
theorem aX_ready (w_superOf : Nat → Int32) (w_ownMethods : Nat → Int32) (w_initialisers : Nat → Int32) (u : SX) : gX_ready (aX w_superOf w_ownMethods w_initialisers u) = gX_ready u := rfl
theorem aX_ops (w_superOf : Nat → Int32) (w_ownMethods : Nat → Int32) (w_initialisers : Nat → Int32) (u : SX) : gX_ops (aX w_superOf w_ownMethods w_initialisers u) = gX_ops u := rfl
theorem aX_operands (w_superOf : Nat → Int32) (w_ownMethods : Nat → Int32) (w_initialisers : Nat → Int32) (u : SX) : gX_operands (aX w_superOf w_ownMethods w_initialisers u) = gX_operands u := rfl
theorem aX_lengths (w_superOf : Nat → Int32) (w_ownMethods : Nat → Int32) (w_initialisers : Nat → Int32) (u : SX) : gX_lengths (aX w_superOf w_ownMethods w_initialisers u) = gX_lengths u := rfl
theorem aX_catchFrom (w_superOf : Nat → Int32) (w_ownMethods : Nat → Int32) (w_initialisers : Nat → Int32) (u : SX) : gX_catchFrom (aX w_superOf w_ownMethods w_initialisers u) = gX_catchFrom u := rfl
theorem aX_catchTo (w_superOf : Nat → Int32) (w_ownMethods : Nat → Int32) (w_initialisers : Nat → Int32) (u : SX) : gX_catchTo (aX w_superOf w_ownMethods w_initialisers u) = gX_catchTo u := rfl
theorem aX_catchGoal (w_superOf : Nat → Int32) (w_ownMethods : Nat → Int32) (w_initialisers : Nat → Int32) (u : SX) : gX_catchGoal (aX w_superOf w_ownMethods w_initialisers u) = gX_catchGoal u := rfl
theorem aX_refMaps (w_superOf : Nat → Int32) (w_ownMethods : Nat → Int32) (w_initialisers : Nat → Int32) (u : SX) : gX_refMaps (aX w_superOf w_ownMethods w_initialisers u) = gX_refMaps u := rfl
theorem aX_bodyHeights (w_superOf : Nat → Int32) (w_ownMethods : Nat → Int32) (w_initialisers : Nat → Int32) (u : SX) : gX_bodyHeights (aX w_superOf w_ownMethods w_initialisers u) = gX_bodyHeights u := rfl
theorem aX_frameWords (w_superOf : Nat → Int32) (w_ownMethods : Nat → Int32) (w_initialisers : Nat → Int32) (u : SX) : gX_frameWords (aX w_superOf w_ownMethods w_initialisers u) = gX_frameWords u := rfl
theorem aX_codeOps (w_superOf : Nat → Int32) (w_ownMethods : Nat → Int32) (w_initialisers : Nat → Int32) (u : SX) : gX_codeOps (aX w_superOf w_ownMethods w_initialisers u) = gX_codeOps u := rfl
theorem aX_codeCells (w_superOf : Nat → Int32) (w_ownMethods : Nat → Int32) (w_initialisers : Nat → Int32) (u : SX) : gX_codeCells (aX w_superOf w_ownMethods w_initialisers u) = gX_codeCells u := rfl
theorem aX_codeArgs (w_superOf : Nat → Int32) (w_ownMethods : Nat → Int32) (w_initialisers : Nat → Int32) (u : SX) : gX_codeArgs (aX w_superOf w_ownMethods w_initialisers u) = gX_codeArgs u := rfl
theorem aX_heights (w_superOf : Nat → Int32) (w_ownMethods : Nat → Int32) (w_initialisers : Nat → Int32) (u : SX) : gX_heights (aX w_superOf w_ownMethods w_initialisers u) = gX_heights u := rfl
theorem aX_intKinds (w_superOf : Nat → Int32) (w_ownMethods : Nat → Int32) (w_initialisers : Nat → Int32) (u : SX) : gX_intKinds (aX w_superOf w_ownMethods w_initialisers u) = gX_intKinds u := rfl
theorem aX_refKinds (w_superOf : Nat → Int32) (w_ownMethods : Nat → Int32) (w_initialisers : Nat → Int32) (u : SX) : gX_refKinds (aX w_superOf w_ownMethods w_initialisers u) = gX_refKinds u := rfl
theorem aX_heap (w_superOf : Nat → Int32) (w_ownMethods : Nat → Int32) (w_initialisers : Nat → Int32) (u : SX) : gX_heap (aX w_superOf w_ownMethods w_initialisers u) = gX_heap u := rfl
theorem aX_newPlaces (w_superOf : Nat → Int32) (w_ownMethods : Nat → Int32) (w_initialisers : Nat → Int32) (u : SX) : gX_newPlaces (aX w_superOf w_ownMethods w_initialisers u) = gX_newPlaces u := rfl
theorem aX_globals (w_superOf : Nat → Int32) (w_ownMethods : Nat → Int32) (w_initialisers : Nat → Int32) (u : SX) : gX_globals (aX w_superOf w_ownMethods w_initialisers u) = gX_globals u := rfl
theorem aX_frameMethod (w_superOf : Nat → Int32) (w_ownMethods : Nat → Int32) (w_initialisers : Nat → Int32) (u : SX) : gX_frameMethod (aX w_superOf w_ownMethods w_initialisers u) = gX_frameMethod u := rfl
theorem aX_framePlace (w_superOf : Nat → Int32) (w_ownMethods : Nat → Int32) (w_initialisers : Nat → Int32) (u : SX) : gX_framePlace (aX w_superOf w_ownMethods w_initialisers u) = gX_framePlace u := rfl
theorem aX_cells (w_superOf : Nat → Int32) (w_ownMethods : Nat → Int32) (w_initialisers : Nat → Int32) (u : SX) : gX_cells (aX w_superOf w_ownMethods w_initialisers u) = gX_cells u := rfl
def aY (w_up : Nat → Int32) (w_slots : Nat → Int32) (w_first : Nat → Int32) (u : SY) : SY := (gY_fault u, gY_height u, gY_used u, gY_depth u, gY_room u, gY_steps u, gY_origin u, gY_answer u, gY_collections u, gY_stayed u, gY_codes u, gY_links u, gY_result u, w_up, gY_ints u, gY_references u, w_slots, w_first, gY_ready u, gY_ops u, gY_args u, gY_length u, gY_from u, gY_to u, gY_goal u, gY_words u, gY_maps u, gY_coded u, gY_linked u, gY_heights u, gY_kinds u, gY_behind u, gY_of u, gY_fields u, gY_globals u, gY_marked u, gY_method u, gY_at u, gY_high u, gY_locals u, gY_stack u)
theorem aY_fault (w_up : Nat → Int32) (w_slots : Nat → Int32) (w_first : Nat → Int32) (u : SY) : gY_fault (aY w_up w_slots w_first u) = gY_fault u := rfl
theorem aY_height (w_up : Nat → Int32) (w_slots : Nat → Int32) (w_first : Nat → Int32) (u : SY) : gY_height (aY w_up w_slots w_first u) = gY_height u := rfl
theorem aY_used (w_up : Nat → Int32) (w_slots : Nat → Int32) (w_first : Nat → Int32) (u : SY) : gY_used (aY w_up w_slots w_first u) = gY_used u := rfl
theorem aY_depth (w_up : Nat → Int32) (w_slots : Nat → Int32) (w_first : Nat → Int32) (u : SY) : gY_depth (aY w_up w_slots w_first u) = gY_depth u := rfl
theorem aY_room (w_up : Nat → Int32) (w_slots : Nat → Int32) (w_first : Nat → Int32) (u : SY) : gY_room (aY w_up w_slots w_first u) = gY_room u := rfl
theorem aY_steps (w_up : Nat → Int32) (w_slots : Nat → Int32) (w_first : Nat → Int32) (u : SY) : gY_steps (aY w_up w_slots w_first u) = gY_steps u := rfl
theorem aY_origin (w_up : Nat → Int32) (w_slots : Nat → Int32) (w_first : Nat → Int32) (u : SY) : gY_origin (aY w_up w_slots w_first u) = gY_origin u := rfl
theorem aY_answer (w_up : Nat → Int32) (w_slots : Nat → Int32) (w_first : Nat → Int32) (u : SY) : gY_answer (aY w_up w_slots w_first u) = gY_answer u := rfl
theorem aY_collections (w_up : Nat → Int32) (w_slots : Nat → Int32) (w_first : Nat → Int32) (u : SY) : gY_collections (aY w_up w_slots w_first u) = gY_collections u := rfl
theorem aY_stayed (w_up : Nat → Int32) (w_slots : Nat → Int32) (w_first : Nat → Int32) (u : SY) : gY_stayed (aY w_up w_slots w_first u) = gY_stayed u := rfl
theorem aY_codes (w_up : Nat → Int32) (w_slots : Nat → Int32) (w_first : Nat → Int32) (u : SY) : gY_codes (aY w_up w_slots w_first u) = gY_codes u := rfl
theorem aY_links (w_up : Nat → Int32) (w_slots : Nat → Int32) (w_first : Nat → Int32) (u : SY) : gY_links (aY w_up w_slots w_first u) = gY_links u := rfl
theorem aY_result (w_up : Nat → Int32) (w_slots : Nat → Int32) (w_first : Nat → Int32) (u : SY) : gY_result (aY w_up w_slots w_first u) = gY_result u := rfl
theorem aY_up (w_up : Nat → Int32) (w_slots : Nat → Int32) (w_first : Nat → Int32) (u : SY) : gY_up (aY w_up w_slots w_first u) = w_up := rfl
theorem aY_ints (w_up : Nat → Int32) (w_slots : Nat → Int32) (w_first : Nat → Int32) (u : SY) : gY_ints (aY w_up w_slots w_first u) = gY_ints u := rfl
theorem aY_references (w_up : Nat → Int32) (w_slots : Nat → Int32) (w_first : Nat → Int32) (u : SY) : gY_references (aY w_up w_slots w_first u) = gY_references u := rfl
theorem aY_slots (w_up : Nat → Int32) (w_slots : Nat → Int32) (w_first : Nat → Int32) (u : SY) : gY_slots (aY w_up w_slots w_first u) = w_slots := rfl
theorem aY_first (w_up : Nat → Int32) (w_slots : Nat → Int32) (w_first : Nat → Int32) (u : SY) : gY_first (aY w_up w_slots w_first u) = w_first := rfl
theorem aY_ready (w_up : Nat → Int32) (w_slots : Nat → Int32) (w_first : Nat → Int32) (u : SY) : gY_ready (aY w_up w_slots w_first u) = gY_ready u := rfl
theorem aY_ops (w_up : Nat → Int32) (w_slots : Nat → Int32) (w_first : Nat → Int32) (u : SY) : gY_ops (aY w_up w_slots w_first u) = gY_ops u := rfl
theorem aY_args (w_up : Nat → Int32) (w_slots : Nat → Int32) (w_first : Nat → Int32) (u : SY) : gY_args (aY w_up w_slots w_first u) = gY_args u := rfl
theorem aY_length (w_up : Nat → Int32) (w_slots : Nat → Int32) (w_first : Nat → Int32) (u : SY) : gY_length (aY w_up w_slots w_first u) = gY_length u := rfl
theorem aY_from (w_up : Nat → Int32) (w_slots : Nat → Int32) (w_first : Nat → Int32) (u : SY) : gY_from (aY w_up w_slots w_first u) = gY_from u := rfl
theorem aY_to (w_up : Nat → Int32) (w_slots : Nat → Int32) (w_first : Nat → Int32) (u : SY) : gY_to (aY w_up w_slots w_first u) = gY_to u := rfl
theorem aY_goal (w_up : Nat → Int32) (w_slots : Nat → Int32) (w_first : Nat → Int32) (u : SY) : gY_goal (aY w_up w_slots w_first u) = gY_goal u := rfl
theorem aY_words (w_up : Nat → Int32) (w_slots : Nat → Int32) (w_first : Nat → Int32) (u : SY) : gY_words (aY w_up w_slots w_first u) = gY_words u := rfl
theorem aY_maps (w_up : Nat → Int32) (w_slots : Nat → Int32) (w_first : Nat → Int32) (u : SY) : gY_maps (aY w_up w_slots w_first u) = gY_maps u := rfl
theorem aY_coded (w_up : Nat → Int32) (w_slots : Nat → Int32) (w_first : Nat → Int32) (u : SY) : gY_coded (aY w_up w_slots w_first u) = gY_coded u := rfl
theorem aY_linked (w_up : Nat → Int32) (w_slots : Nat → Int32) (w_first : Nat → Int32) (u : SY) : gY_linked (aY w_up w_slots w_first u) = gY_linked u := rfl
theorem aY_heights (w_up : Nat → Int32) (w_slots : Nat → Int32) (w_first : Nat → Int32) (u : SY) : gY_heights (aY w_up w_slots w_first u) = gY_heights u := rfl
theorem aY_kinds (w_up : Nat → Int32) (w_slots : Nat → Int32) (w_first : Nat → Int32) (u : SY) : gY_kinds (aY w_up w_slots w_first u) = gY_kinds u := rfl
theorem aY_behind (w_up : Nat → Int32) (w_slots : Nat → Int32) (w_first : Nat → Int32) (u : SY) : gY_behind (aY w_up w_slots w_first u) = gY_behind u := rfl
theorem aY_of (w_up : Nat → Int32) (w_slots : Nat → Int32) (w_first : Nat → Int32) (u : SY) : gY_of (aY w_up w_slots w_first u) = gY_of u := rfl
theorem aY_fields (w_up : Nat → Int32) (w_slots : Nat → Int32) (w_first : Nat → Int32) (u : SY) : gY_fields (aY w_up w_slots w_first u) = gY_fields u := rfl
theorem aY_globals (w_up : Nat → Int32) (w_slots : Nat → Int32) (w_first : Nat → Int32) (u : SY) : gY_globals (aY w_up w_slots w_first u) = gY_globals u := rfl
theorem aY_marked (w_up : Nat → Int32) (w_slots : Nat → Int32) (w_first : Nat → Int32) (u : SY) : gY_marked (aY w_up w_slots w_first u) = gY_marked u := rfl
theorem aY_method (w_up : Nat → Int32) (w_slots : Nat → Int32) (w_first : Nat → Int32) (u : SY) : gY_method (aY w_up w_slots w_first u) = gY_method u := rfl
theorem aY_at (w_up : Nat → Int32) (w_slots : Nat → Int32) (w_first : Nat → Int32) (u : SY) : gY_at (aY w_up w_slots w_first u) = gY_at u := rfl
theorem aY_high (w_up : Nat → Int32) (w_slots : Nat → Int32) (w_first : Nat → Int32) (u : SY) : gY_high (aY w_up w_slots w_first u) = gY_high u := rfl
theorem aY_locals (w_up : Nat → Int32) (w_slots : Nat → Int32) (w_first : Nat → Int32) (u : SY) : gY_locals (aY w_up w_slots w_first u) = gY_locals u := rfl
theorem aY_stack (w_up : Nat → Int32) (w_slots : Nat → Int32) (w_first : Nat → Int32) (u : SY) : gY_stack (aY w_up w_slots w_first u) = gY_stack u := rfl
theorem aX__superOf_initialisers (w_superOf : Nat → Int32) (w_ownMethods : Nat → Int32) (w_initialisers : Nat → Int32) (z_superOf : Nat → Int32) (z_initialisers : Nat → Int32) (u : SX) : sX_superOf_initialisers z_superOf z_initialisers (aX w_superOf w_ownMethods w_initialisers u) = aX z_superOf w_ownMethods z_initialisers u := rfl
theorem aX__ownMethods (w_superOf : Nat → Int32) (w_ownMethods : Nat → Int32) (w_initialisers : Nat → Int32) (z_ownMethods : Nat → Int32) (u : SX) : sX_ownMethods z_ownMethods (aX w_superOf w_ownMethods w_initialisers u) = aX w_superOf z_ownMethods w_initialisers u := rfl
theorem aY__up_first (w_up : Nat → Int32) (w_slots : Nat → Int32) (w_first : Nat → Int32) (z_up : Nat → Int32) (z_first : Nat → Int32) (u : SY) : sY_up_first z_up z_first (aY w_up w_slots w_first u) = aY z_up w_slots z_first u := rfl
theorem aY__slots (w_up : Nat → Int32) (w_slots : Nat → Int32) (w_first : Nat → Int32) (z_slots : Nat → Int32) (u : SY) : sY_slots z_slots (aY w_up w_slots w_first u) = aY w_up z_slots w_first u := rfl
theorem x_initL {post : SX → Prop} (h : post (aX (zi_c (-2) 4) (zi_c (-1) 16) (zi_c (-1) 4) zx_i)) : wpX_init post := by
  have l2 : ∀ d j, j + d = 16 → kX_init_319 post (d + 1) (nI j) (aX (zi_c (-2) 4) (zi_c (-1) j) (zi_c (-1) 4) zx_i) := by
    intro d
    induction d with
    | zero =>
      intro j hj
      have : j = 16 := by omega
      subst this
      exact uX_init_319 (br_t (by decide) h)
    | succ d ih =>
      intro j hj
      refine uX_init_319 (br_f (nI_ge (b := 16) (by omega) (by decide)) ⟨vp_in_nI (by omega) (by decide), nm_e (nm_r (nI_1 j) ?_)⟩)
      rw [nI_clamp (by omega), aX_ownMethods, aX__ownMethods, zi_cs]
      exact ih (j + 1) (by omega)
  have l1 : ∀ d j, j + d = 4 → kX_init_291 post (d + 1) (nI j) (aX (zi_c (-2) j) (zi_c (-1) 0) (zi_c (-1) j) zx_i) := by
    intro d
    induction d with
    | zero =>
      intro j hj
      have : j = 4 := by omega
      subst this
      exact uX_init_291 (br_t (by decide) ⟨17, l2 16 0 rfl⟩)
    | succ d ih =>
      intro j hj
      have v : vp_in (nI j) 4 := vp_in_nI (by omega) (by decide)
      refine uX_init_291 (br_f (nI_ge (b := 4) (by omega) (by decide)) ⟨v, nm_e ⟨v, nm_e (nm_r (nI_1 j) ?_)⟩⟩)
      rw [nI_clamp (by omega), aX_superOf, aX_initialisers, aX__superOf_initialisers, zi_cs, zi_cs]
      exact ih (j + 1) (by omega)
  have q := l1 4 0 rfl
  rw [zi_c0, zi_c0] at q
  exact x_init ⟨5, q⟩
theorem y_initL {post : SY → Prop} (h : post (aY (zi_c (-2) 4) (zi_c (-1) 16) (zi_c (-1) 4) zy_i)) : wpY_init post := by
  have l2 : ∀ d j, j + d = 16 → kY_init_275 post (d + 1) (nI j) (aY (zi_c (-2) 4) (zi_c (-1) j) (zi_c (-1) 4) zy_i) := by
    intro d
    induction d with
    | zero =>
      intro j hj
      have : j = 16 := by omega
      subst this
      exact uY_init_275 (br_t (by decide) h)
    | succ d ih =>
      intro j hj
      refine uY_init_275 (br_f (nI_ge (b := 16) (by omega) (by decide)) ⟨vp_in_nI (by omega) (by decide), nm_e (nm_r (nI_1 j) ?_)⟩)
      rw [nI_clamp (by omega), aY_slots, aY__slots, zi_cs]
      exact ih (j + 1) (by omega)
  have l1 : ∀ d j, j + d = 4 → kY_init_247 post (d + 1) (nI j) (aY (zi_c (-2) j) (zi_c (-1) 0) (zi_c (-1) j) zy_i) := by
    intro d
    induction d with
    | zero =>
      intro j hj
      have : j = 4 := by omega
      subst this
      exact uY_init_247 (br_t (by decide) ⟨17, l2 16 0 rfl⟩)
    | succ d ih =>
      intro j hj
      have v : vp_in (nI j) 4 := vp_in_nI (by omega) (by decide)
      refine uY_init_247 (br_f (nI_ge (b := 4) (by omega) (by decide)) ⟨v, nm_e ⟨v, nm_e (nm_r (nI_1 j) ?_)⟩⟩)
      rw [nI_clamp (by omega), aY_up, aY_first, aY__up_first, zi_cs, zi_cs]
      exact ih (j + 1) (by omega)
  have q := l1 4 0 rfl
  rw [zi_c0, zi_c0] at q
  exact y_init ⟨5, q⟩
theorem i_vc0 : wpX_init (fun u => wpY_init (fun v => i_Rel 0 u v)) := by
  refine x_initL (y_initL ?_)
  refine ⟨fun _ => 0, fun _ => False, fun _ _ => 0, fun _ => 0, [], ⟨⟨rfl, rfl, rfl, rfl, rfl, rfl, rfl, rfl, rfl, rfl⟩, ⟨?_, ?_⟩, ?_, ?_, ⟨?_, ?_⟩, ?_⟩, ?_, ⟨?_, ?_⟩, ⟨⟨List.nodup_nil, rfl, ?_⟩, rfl, ⟨1, by decide, by decide, rfl, rfl, rfl⟩, ?_⟩, ⟨rfl, rfl, rfl, rfl, rfl, rfl, rfl, rfl, rfl⟩, ⟨rfl, rfl, rfl, rfl⟩⟩
  · intro c hc h
    exact absurd (zi_ct hc) h
  · intro c hc h
    exact absurd (zi_ct hc) h
  · intro c hc s hs
    exact Or.inl (zi_ct (by omega))
  · intro c hc
    exact Or.inl (zi_ct hc)
  · intro r hr
    exact ⟨0, by decide, rfl, fun j hj => absurd hj (by omega)⟩
  · intro r hr
    exact ⟨0, 0, by decide, by decide, rfl, rfl⟩
  · intro r hr h
    have h : (0 : Int32) < 0 := h
    exact absurd h (by decide)
  · intro m hm h
    exact absurd rfl h
  · intro m hm
    exact ⟨Or.inl rfl, ⟨fun _ => rfl, fun _ => rfl⟩, fun h => absurd (show (0 : Int32) = 1 from h) (by decide), fun i hi => ⟨fun _ => rfl, fun h => absurd (show (0 : Int32) = 1 from h) (by decide)⟩⟩
  · intro k hk
    exact ⟨Or.inl rfl, ⟨fun h => absurd (show (0 : Int32) = 1 from h) (by decide), fun h => absurd (show (0 : Int32) = 28 from h) (by decide)⟩⟩
  · intro o
    constructor
    · intro h; exact absurd h (by simp)
    · rintro ⟨_, _, h⟩; exact absurd rfl h
  · intro g hg
    exact ⟨0, Or.inl rfl, rfl, rfl⟩
end
