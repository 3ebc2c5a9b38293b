/-! small values: truth as an int, ranges, bits, the tables of the instructions -/
def sY_height_kinds_behind (w0 : Int32) (w1 : Nat → Int32) (w2 : Nat → Int32) (u : SY) : SY := (gY_fault u, w0, gY_used u, gY_depth u, gY_room u, gY_steps u, gY_origin u, gY_answer u, gY_collections u, gY_stayed u, gY_codes u, gY_links u, gY_result u, gY_up u, gY_ints u, gY_references u, gY_slots u, gY_first u, gY_ready u, gY_ops u, gY_args u, gY_length u, gY_from u, gY_to u, gY_goal u, gY_words u, gY_maps u, gY_coded u, gY_linked u, gY_heights u, w1, w2, gY_of u, gY_fields u, gY_globals u, gY_marked u, gY_method u, gY_at u, gY_high u, gY_locals u, gY_stack u)
noncomputable def zp (p : Prop) : Int32 := @ite Int32 p (Classical.propDecidable p) 1 0
theorem zp_t {p : Prop} (h : p) : zp p = 1 := if_pos h
theorem zp_f {p : Prop} (h : ¬ p) : zp p = 0 := if_neg h
theorem zp_c {p q : Prop} (h : p ↔ q) : zp p = zp q := by rw [propext h]
theorem zp_01 (p : Prop) : zp p = 0 ∨ zp p = 1 := by
  by_cases h : p
  · exact Or.inr (zp_t h)
  · exact Or.inl (zp_f h)
theorem zp_n (p : Prop) : narrow .boolean (.int (zp p)) = .int (zp p) := by
  rcases zp_01 p with h | h <;> rw [h] <;> rfl
theorem zp_br {p A B : Prop} (f : ¬ p → A) (g : p → B) : (zp p = 0 → A) ∧ (¬ zp p = 0 → B) := by
  by_cases h : p
  · rw [zp_t h]; exact ⟨fun z => absurd z (by decide), fun _ => g h⟩
  · rw [zp_f h]; exact ⟨fun _ => f h, fun z => absurd rfl z⟩
theorem zp_br1 {p A B : Prop} (f : ¬ p → A) (g : p → B) : (zp p = 1 → B) ∧ (¬ zp p = 1 → A) := by
  by_cases h : p
  · rw [zp_t h]; exact ⟨fun _ => g h, fun z => absurd rfl z⟩
  · rw [zp_f h]; exact ⟨fun z => absurd z (by decide), fun _ => f h⟩
theorem zp_or (p q : Prop) : zp p ||| zp q = zp (p ∨ q) := by
  by_cases h : p
  · rw [zp_t h, zp_t (Or.inl h)]
    rcases zp_01 q with e | e <;> rw [e] <;> decide
  · by_cases k : q
    · rw [zp_f h, zp_t k, zp_t (Or.inr k)]; decide
    · rw [zp_f h, zp_f k, zp_f (fun z => z.elim h k)]; decide
theorem zp_0 : (0 : Int32) = zp False := (zp_f (fun h => h)).symm
theorem zp_1 : (1 : Int32) = zp True := (zp_t trivial).symm
theorem zp_post {c : Prop} {p : Prop} {post : Int32 → Prop} (h : post (zp p)) (f : c → ¬ p) (g : ¬ c → p) : (c → post 0) ∧ (¬ c → post 1) := by
  constructor
  · intro z; rw [← zp_f (f z)]; exact h
  · intro z; rw [← zp_t (g z)]; exact h
/-- a branch by a fact that is equivalent -/
theorem br_i {c d A B : Prop} (e : c ↔ d) (f : d → A) (g : ¬ d → B) : (c → A) ∧ (¬ c → B) := ⟨fun z => f (e.mp z), fun z => g (fun w => z (e.mpr w))⟩
theorem zn_cl (n : Nat) (h : n < 2 ^ 31) : (nI n).toNatClampNeg = n := nI_clamp h
theorem zn_m1 (n : Nat) (h : n < 2 ^ 31) : ¬ nI n = -1 := by
  intro z
  have := congrArg Int32.toInt z
  rw [nI_toInt h] at this
  have e : (-1 : Int32).toInt = -1 := by decide
  omega
theorem zn_m2 (n : Nat) (h : n < 2 ^ 31) : ¬ nI n = -2 := by
  intro z
  have := congrArg Int32.toInt z
  rw [nI_toInt h] at this
  have e : (-2 : Int32).toInt = -2 := by decide
  omega
theorem zn_le2 (n : Nat) (h : n < 2 ^ 31) : ¬ nI n ≤ -2 := by
  intro z
  rw [Int32.le_iff_toInt_le, nI_toInt h] at z
  have e : (-2 : Int32).toInt = -2 := by decide
  omega
/-! bits -/
theorem zb_1 : ∀ i, i < 32 → bt 1 i = decide (i = 0) := by decide
theorem zb_a1 (y : Int32) : y &&& 1 = 0 ↔ bt y 0 = false := by
  constructor
  · intro h
    have e := b_and y 1 0
    rw [h, b_0, zb_1 0 (by decide)] at e
    simpa using e.symm
  · intro h
    apply b_ext
    intro i hi
    rw [b_and, b_0, zb_1 i hi]
    by_cases z : i = 0
    · subst z; rw [h]; rfl
    · simp [z]
theorem zb_a1' (y : Int32) : y &&& 1 = 1 ↔ bt y 0 = true := by
  constructor
  · intro h
    have e := b_and y 1 0
    rw [h, zb_1 0 (by decide)] at e
    simpa using e.symm
  · intro h
    apply b_ext
    intro i hi
    rw [b_and, zb_1 i hi]
    by_cases z : i = 0
    · subst z; rw [h]; rfl
    · simp [z]
theorem zb_bit (x : Int32) {j : Nat} (hj : j < 32) : (x >>> (nI j &&& 31)) &&& 1 = 0 ↔ bt x j = false := by
  rw [zb_a1, b_sshr j hj x (by decide), if_pos (by omega)]
  rfl
theorem zb_bit1 (x : Int32) {j : Nat} (hj : j < 32) : (x >>> (nI j &&& 31)) &&& 1 = 1 ↔ bt x j = true := by
  rw [zb_a1', b_sshr j hj x (by decide), if_pos (by omega)]
  rfl
theorem zb_tp (j : Nat) (hj : j < 32) (i : Nat) (hi : i < 32) : bt ((1 : Int32) <<< (nI j &&& 31)) i = decide (i = j) := by
  rw [b_shl j hj 1 hi, zb_1 _ (by omega)]
  by_cases h : i = j
  · subst h; simp
  · by_cases k : j ≤ i
    · have : ¬ i - j = 0 := by omega
      simp [h, this]
    · simp [h, k]
/-! twenty-four cases -/
theorem zo_24 {P : Nat → Prop} (h0 : P 0) (h1 : P 1) (h2 : P 2) (h3 : P 3) (h4 : P 4) (h5 : P 5) (h6 : P 6) (h7 : P 7) (h8 : P 8) (h9 : P 9) (h10 : P 10) (h11 : P 11) (h12 : P 12) (h13 : P 13) (h14 : P 14) (h15 : P 15) (h16 : P 16) (h17 : P 17) (h18 : P 18) (h19 : P 19) (h20 : P 20) (h21 : P 21) (h22 : P 22) (h23 : P 23) : ∀ o, o < 24 → P o := by
  intro o ho
  match o, ho with
  | 0, _ => exact h0
  | 1, _ => exact h1
  | 2, _ => exact h2
  | 3, _ => exact h3
  | 4, _ => exact h4
  | 5, _ => exact h5
  | 6, _ => exact h6
  | 7, _ => exact h7
  | 8, _ => exact h8
  | 9, _ => exact h9
  | 10, _ => exact h10
  | 11, _ => exact h11
  | 12, _ => exact h12
  | 13, _ => exact h13
  | 14, _ => exact h14
  | 15, _ => exact h15
  | 16, _ => exact h16
  | 17, _ => exact h17
  | 18, _ => exact h18
  | 19, _ => exact h19
  | 20, _ => exact h20
  | 21, _ => exact h21
  | 22, _ => exact h22
  | 23, _ => exact h23
  | n + 24, h => exact absurd h (by omega)
theorem zo_8 {P : Nat → Prop} (h0 : P 0) (h1 : P 1) (h2 : P 2) (h3 : P 3) (h4 : P 4) (h5 : P 5) (h6 : P 6) (h7 : P 7) : ∀ o, o < 8 → P o := by
  intro o ho
  match o, ho with
  | 0, _ => exact h0
  | 1, _ => exact h1
  | 2, _ => exact h2
  | 3, _ => exact h3
  | 4, _ => exact h4
  | 5, _ => exact h5
  | 6, _ => exact h6
  | 7, _ => exact h7
  | n + 8, h => exact absurd h (by omega)
/-! the tables: what is popped and pushed, what jumps and what goes on -/
def zt_takes (m : Nat) : Nat := if m < 2 then 1 else if m = 6 then 0 else 2
def zt_pops (o : Nat) (a : Int32) : Nat := if o = 16 then zt_takes a.toNatClampNeg else [0, 0, 0, 1, 2, 2, 2, 2, 0, 1, 1, 2, 0, 1, 2, 1, 0, 2, 1, 1, 1, 1, 0, 1].getD o 1
def zt_push (o : Nat) : Nat := [1, 1, 1, 0, 1, 1, 1, 1, 0, 0, 0, 1, 1, 1, 0, 1, 1, 1, 0, 0, 2, 0, 1, 0].getD o 1
def zt_jump (o : Nat) : Prop := o = 8 ∨ o = 9 ∨ o = 10
def zt_fall (o : Nat) : Prop := o ≠ 8 ∧ o ≠ 18 ∧ o ≠ 19
/-- bits of what a method takes: ints, references -/
def zt_ti (m : Nat) : Nat := if m < 2 then 1 else if m < 6 then 2 else 0
def zt_tr (m : Nat) : Nat := if m < 2 then 0 else if m = 6 then 0 else if m = 7 then 3 else 1
def zt_gr (m : Nat) : Prop := 4 ≤ m ∧ m ≤ 6
theorem zt_pops2 (o : Nat) (a : Int32) : zt_pops o a ≤ 2 := by
  unfold zt_pops zt_takes
  by_cases h : o < 24
  · revert o
    apply zo_24 <;> intros <;> simp <;> (repeat' split) <;> omega
  · have : ¬ o = 16 := by omega
    rw [if_neg this, List.getD_eq_getElem?_getD, List.getElem?_eq_none (by simp; omega)]
    decide
theorem xt_takes {post : Int32 → Prop} {m : Nat} (hm : m < 8) (h : post (nI (zt_takes m))) : wpX_takes post (nI m) := by
  revert h; revert m
  apply zo_8 <;> intro h <;> repeat (first | exact h | refine br_t (by decide) ?_ | refine br_f (by decide) ?_)
theorem yt_takes {post : Int32 → Prop} {m : Nat} (hm : m < 8) (h : post (nI (zt_takes m))) : wpY_takes post (nI m) := by
  revert h; revert m
  apply zo_8 <;> intro h <;> repeat (first | exact h | refine br_t (by decide) ?_ | refine br_f (by decide) ?_)
theorem xt_ti {post : Int32 → Prop} {m : Nat} (hm : m < 8) (h : post (nI (zt_ti m))) : wpX_takesInts post (nI m) := by
  revert h; revert m
  apply zo_8 <;> intro h <;> repeat (first | exact h | refine br_t (by decide) ?_ | refine br_f (by decide) ?_)
theorem xt_tr {post : Int32 → Prop} {m : Nat} (hm : m < 8) (h : post (nI (zt_tr m))) : wpX_takesRefs post (nI m) := by
  revert h; revert m
  apply zo_8 <;> intro h <;> repeat (first | exact h | refine br_t (by decide) ?_ | refine br_f (by decide) ?_)
theorem xt_gr {post : Int32 → Prop} {m : Nat} (hm : m < 8) (h : post (zp (zt_gr m))) : wpX_givesRef post (nI m) := by
  revert h; revert m
  apply zo_8 <;> intro h <;> first | rw [zp_t (by unfold zt_gr; decide)] at h | rw [zp_f (by unfold zt_gr; decide)] at h
  all_goals repeat (first | exact h | refine br_t (by decide) ?_ | refine br_f (by decide) ?_)
theorem yt_in {post : Int32 → Prop} {x a b : Int32} (h : post (zp (a ≤ x ∧ x ≤ b))) : wpY_in post x a b := by
  refine br_c (fun z => ?_) (fun z => br_c (fun w => ?_) (fun w => ?_))
  · rw [zp_f (fun q => absurd q.1 (Int32.not_le.mpr z))] at h; exact h
  · rw [zp_f (fun q => absurd q.2 (Int32.not_le.mpr w))] at h; exact h
  · rw [zp_t ⟨Int32.not_lt.mp z, Int32.not_lt.mp w⟩] at h; exact h
theorem yt_gives {post : Int32 → Prop} {m : Nat} (hm : m < 8) (h : post (if 4 ≤ m ∧ m ≤ 6 then 2 else 1)) : wpY_gives post (nI m) := by
  refine yt_in (zp_br (fun z => ?_) (fun z => ?_))
  · rw [if_neg (fun w => z ⟨nI_le w.1 (by omega), nI_le (b := 6) w.2 (by decide)⟩)] at h; exact h
  · have h1 := (nI_leI (a := 4) (b := m) (by decide) (by omega)).mp z.1
    have h2 := (nI_leI (a := m) (b := 6) (by omega) (by decide)).mp z.2
    rw [if_pos ⟨h1, h2⟩] at h; exact h
theorem xt_pops {post : Int32 → Prop} {o : Nat} {a : Int32} (ho : o < 24) (ha : o = 16 → ∃ m, m < 8 ∧ a = nI m) (h : post (nI (zt_pops o a))) : wpX_pops post (nI o) a := by
  by_cases z : o = 16
  · subst z
    obtain ⟨m, hm, rfl⟩ := ha rfl
    rw [show zt_pops 16 (nI m) = zt_takes m by unfold zt_pops; rw [if_pos rfl, nI_clamp (by omega)]] at h
    have k : wpX_takes post (nI m) := xt_takes hm h
    repeat (first | exact k | refine br_t (by decide) ?_ | refine br_f (by decide) ?_)
  · unfold zt_pops at h
    rw [if_neg z] at h
    clear ha
    revert z h; revert o
    apply zo_24 <;> intro h z <;> first | exact absurd rfl z | (repeat (first | exact h | refine br_t (by decide) ?_ | refine br_f (by decide) ?_))
theorem yt_pops {post : Int32 → Prop} {o : Nat} {a : Int32} (ho : o < 24) (ha : o = 16 → ∃ m, m < 8 ∧ a = nI m) (h : post (nI (zt_pops o a))) : wpY_pops post (nI o) a := by
  by_cases z : o = 16
  · subst z
    obtain ⟨m, hm, rfl⟩ := ha rfl
    rw [show zt_pops 16 (nI m) = zt_takes m by unfold zt_pops; rw [if_pos rfl, nI_clamp (by omega)]] at h
    have k : wpY_takes post (nI m) := yt_takes hm h
    repeat (first | exact k | refine br_t (by decide) ?_ | refine br_f (by decide) ?_)
  · unfold zt_pops at h
    rw [if_neg z] at h
    clear ha
    revert z h; revert o
    apply zo_24 <;> intro h z <;> first | exact absurd rfl z | (repeat (first | exact h | refine br_t (by decide) ?_ | refine br_f (by decide) ?_))
theorem xt_push {post : Int32 → Prop} {o : Nat} (ho : o < 24) (h : post (nI (zt_push o))) : wpX_pushes post (nI o) := by
  revert h; revert o
  apply zo_24 <;> intro h <;> repeat (first | exact h | refine br_t (by decide) ?_ | refine br_f (by decide) ?_)
theorem yt_push {post : Int32 → Prop} {o : Nat} (ho : o < 24) (h : post (nI (zt_push o))) : wpY_pushes post (nI o) := by
  revert h; revert o
  apply zo_24 <;> intro h <;> repeat (first | exact h | refine br_t (by decide) ?_ | refine br_f (by decide) ?_)
theorem xt_jump {post : Int32 → Prop} {o : Nat} (ho : o < 24) (h : post (zp (zt_jump o))) : wpX_jumps post (nI o) := by
  revert h; revert o
  apply zo_24 <;> intro h <;> first | rw [zp_t (by unfold zt_jump; decide)] at h | rw [zp_f (by unfold zt_jump; decide)] at h
  all_goals repeat (first | exact h | refine br_t (by decide) ?_ | refine br_f (by decide) ?_)
theorem xt_fall {post : Int32 → Prop} {o : Nat} (ho : o < 24) (h : post (zp (zt_fall o))) : wpX_goesOn post (nI o) := by
  revert h; revert o
  apply zo_24 <;> intro h <;> first | rw [zp_t (by unfold zt_fall; decide)] at h | rw [zp_f (by unfold zt_fall; decide)] at h
  all_goals repeat (first | exact h | refine br_t (by decide) ?_ | refine br_f (by decide) ?_)
theorem yt_fall {post : Int32 → Prop} {o : Nat} (ho : o < 24) (h : post (zp (zt_fall o))) : wpY_falls post (nI o) := by
  revert h; revert o
  apply zo_24 <;> intro h <;> first | rw [zp_t (by unfold zt_fall; decide)] at h | rw [zp_f (by unfold zt_fall; decide)] at h
  all_goals repeat (first | exact h | refine br_t (by decide) ?_ | refine br_f (by decide) ?_)
theorem yt_jump {post : Int32 → Prop} {o : Nat} (ho : o < 24) (h : post (zp (zt_jump o))) : wpY_jumps post (nI o) := by
  refine yt_in ⟨zp_n _, ?_⟩
  have e : ((8 : Int32) ≤ nI o ∧ nI o ≤ 10) ↔ zt_jump o := by
    have h1 := nI_leI (a := 8) (b := o) (by decide) (by omega)
    have h2 := nI_leI (a := o) (b := 10) (by omega) (by decide)
    constructor
    · intro z
      have := h1.mp z.1
      have := h2.mp z.2
      unfold zt_jump
      omega
    · intro z
      unfold zt_jump at z
      exact ⟨h1.mpr (by omega), h2.mpr (by omega)⟩
  rw [zp_c e]
  exact h
