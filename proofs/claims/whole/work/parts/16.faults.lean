/-! X's fault of the third kind; both sides' faults of the first kind -/
def zx_m (rf : Nat → Int32) (m o : Nat) (a : Int32) (P q : Nat) : Nat := (if 0 < P ∧ zy_nd rf m o a (P - 1) = q then 1 else 0) + (if 1 < P ∧ zy_nd rf m o a (P - 2) = q then 2 else 0)
theorem zx_m4 (rf : Nat → Int32) (m o : Nat) (a : Int32) (P q : Nat) : zx_m rf m o a P q < 4 := by
  unfold zx_m
  repeat' split
  all_goals omega
theorem zx_01 : ∀ k, k < 4 → ∀ j, j < 32 → (bt (nI k) j = true ↔ (j = 0 ∧ k % 2 = 1) ∨ (j = 1 ∧ 2 ≤ k)) := by decide
theorem zx_mb {rf : Nat → Int32} {m o : Nat} {a : Int32} {P q j : Nat} (hP : P ≤ 2) (hj : j < 32) : bt (nI (zx_m rf m o a P q)) j = true ↔ ∃ k, k < P ∧ j = P - 1 - k ∧ zy_nd rf m o a k = q := by
  rw [zx_01 _ (zx_m4 rf m o a P q) j hj]
  unfold zx_m
  constructor
  · rintro (⟨rfl, h⟩ | ⟨rfl, h⟩)
    · refine ⟨P - 1, ?_⟩
      split at h
      · rename_i w; exact ⟨by omega, by omega, w.2⟩
      · split at h <;> omega
    · refine ⟨P - 2, ?_⟩
      split at h <;> split at h
      · rename_i w; exact ⟨by omega, by omega, w.2⟩
      · omega
      · rename_i w; exact ⟨by omega, by omega, w.2⟩
      · omega
  · rintro ⟨k, hk, rfl, h⟩
    by_cases w : k = P - 1
    · subst w
      refine Or.inl ⟨by omega, ?_⟩
      rw [if_pos ⟨by omega, h⟩]
      split <;> omega
    · have : k = P - 2 := by omega
      subst this
      refine Or.inr ⟨by omega, ?_⟩
      rw [if_pos (c := 1 < P ∧ _) ⟨by omega, h⟩]
      omega
theorem x_neededInts {post : Int32 → Prop} {u : SX} {o m : Nat} {a : Int32} (ho : o < 24) (hm : m < 8) (hf : zi_fit o a) (h : post (nI (zx_m (gX_refFields u) m o a (zt_pops o a) 1))) : wpX_neededInts post u (nI o) a (nI m) := by
  refine upX_neededInts ?_
  by_cases z14 : o = 14
  · subst z14
    obtain ⟨j, hj, rfl⟩ := zi_fj hf (show zi_lim 14 = 64 from rfl) (by decide)
    have q : wpX_isRefField (fun r => (r = 0 → post 2) ∧ (¬ r = 0 → post 0)) u (nI j / 16) (nI j - nI j / 16 * 16) := by
      rw [(zn_d16 hj).2, (zn_d16 hj).1]
      have ev : zx_m (gX_refFields u) m 14 (nI j) (zt_pops 14 (nI j)) 1 = if bt (gX_refFields u (j / 16)) (j % 16) = true then 0 else 2 := by
        unfold zx_m zy_nd
        simp [show zt_pops 14 (nI j) = 2 from rfl, nI_clamp (show j < 2 ^ 31 by omega)]
        try (split <;> simp_all)
      rw [ev] at h
      refine x_isRefField (by omega) (by omega) (zp_br (fun w => ?_) (fun w => ?_))
      · rw [if_neg w] at h; exact h
      · rw [if_pos w] at h; exact h
    repeat (first | exact ⟨zn_16, zn_16, q⟩ | refine br_t (by decide) ?_ | refine br_f (by decide) ?_)
  · by_cases z16 : o = 16
    · subst z16
      obtain ⟨j, hj, rfl⟩ := zi_fj hf (show zi_lim 16 = 8 from rfl) (by decide)
      have q : wpX_takesInts (fun r => post r) (nI j) := by
        refine xt_ti hj ?_
        have ev : ∀ j, j < 8 → zx_m (gX_refFields u) m 16 (nI j) (zt_pops 16 (nI j)) 1 = zt_ti j := by
          apply zo_8 <;> rfl
        rw [ev j hj] at h; exact h
      repeat (first | exact q | refine br_t (by decide) ?_ | refine br_f (by decide) ?_)
    · by_cases z18 : o = 18
      · subst z18
        have q : wpX_givesRef (fun r => (r = 0 → post 1) ∧ (¬ r = 0 → post 0)) (nI m) := by
          have ev : zx_m (gX_refFields u) m 18 a (zt_pops 18 a) 1 = if 4 ≤ m ∧ m ≤ 6 then 0 else 1 := by
            unfold zx_m zy_nd
            simp [show zt_pops 18 a = 1 from rfl]
            try (split <;> simp_all)
          rw [ev] at h
          refine xt_gr hm (zp_br (fun w => ?_) (fun w => ?_))
          · rw [if_neg (show ¬ (4 ≤ m ∧ m ≤ 6) from w)] at h; exact h
          · rw [if_pos (show 4 ≤ m ∧ m ≤ 6 from w)] at h; exact h
        repeat (first | exact q | refine br_t (by decide) ?_ | refine br_f (by decide) ?_)
      · clear hf
        revert z14 z16 z18 h; revert o
        apply zo_24 <;> intro h z14 z16 z18 <;> first | exact absurd rfl z14 | exact absurd rfl z16 | exact absurd rfl z18 | (repeat (first | exact h | refine br_t (by decide) ?_ | refine br_f (by decide) ?_))
theorem x_neededRefs {post : Int32 → Prop} {u : SX} {o m : Nat} {a : Int32} (ho : o < 24) (hm : m < 8) (hf : zi_fit o a) (h : post (nI (zx_m (gX_refFields u) m o a (zt_pops o a) 2))) : wpX_neededRefs post u (nI o) a (nI m) := by
  refine upX_neededRefs ?_
  by_cases z14 : o = 14
  · subst z14
    obtain ⟨j, hj, rfl⟩ := zi_fj hf (show zi_lim 14 = 64 from rfl) (by decide)
    have q : wpX_isRefField (fun r => (r = 0 → post 1) ∧ (¬ r = 0 → post 3)) u (nI j / 16) (nI j - nI j / 16 * 16) := by
      rw [(zn_d16 hj).2, (zn_d16 hj).1]
      have ev : zx_m (gX_refFields u) m 14 (nI j) (zt_pops 14 (nI j)) 2 = if bt (gX_refFields u (j / 16)) (j % 16) = true then 3 else 1 := by
        unfold zx_m zy_nd
        simp [show zt_pops 14 (nI j) = 2 from rfl, nI_clamp (show j < 2 ^ 31 by omega)]
        try (split <;> simp_all)
      rw [ev] at h
      refine x_isRefField (by omega) (by omega) (zp_br (fun w => ?_) (fun w => ?_))
      · rw [if_neg w] at h; exact h
      · rw [if_pos w] at h; exact h
    repeat (first | exact ⟨zn_16, zn_16, q⟩ | refine br_t (by decide) ?_ | refine br_f (by decide) ?_)
  · by_cases z16 : o = 16
    · subst z16
      obtain ⟨j, hj, rfl⟩ := zi_fj hf (show zi_lim 16 = 8 from rfl) (by decide)
      have q : wpX_takesRefs (fun r => post r) (nI j) := by
        refine xt_tr hj ?_
        have ev : ∀ j, j < 8 → zx_m (gX_refFields u) m 16 (nI j) (zt_pops 16 (nI j)) 2 = zt_tr j := by
          apply zo_8 <;> rfl
        rw [ev j hj] at h; exact h
      repeat (first | exact q | refine br_t (by decide) ?_ | refine br_f (by decide) ?_)
    · by_cases z18 : o = 18
      · subst z18
        have q : wpX_givesRef (fun r => (r = 0 → post 0) ∧ (¬ r = 0 → post 1)) (nI m) := by
          have ev : zx_m (gX_refFields u) m 18 a (zt_pops 18 a) 2 = if 4 ≤ m ∧ m ≤ 6 then 1 else 0 := by
            unfold zx_m zy_nd
            simp [show zt_pops 18 a = 1 from rfl]
            try (split <;> simp_all)
          rw [ev] at h
          refine xt_gr hm (zp_br (fun w => ?_) (fun w => ?_))
          · rw [if_neg (show ¬ (4 ≤ m ∧ m ≤ 6) from w)] at h; exact h
          · rw [if_pos (show 4 ≤ m ∧ m ≤ 6 from w)] at h; exact h
        repeat (first | exact q | refine br_t (by decide) ?_ | refine br_f (by decide) ?_)
      · clear hf
        revert z14 z16 z18 h; revert o
        apply zo_24 <;> intro h z14 z16 z18 <;> first | exact absurd rfl z14 | exact absurd rfl z16 | exact absurd rfl z18 | (repeat (first | exact h | refine br_t (by decide) ?_ | refine br_f (by decide) ?_))
theorem zb_sub (x y : Int32) : x &&& y = y ↔ ∀ e, e < 32 → bt y e = true → bt x e = true := by
  constructor
  · intro h e he b
    rw [← h, b_and] at b
    exact (Bool.and_eq_true_iff.mp b).1
  · intro h
    apply b_ext
    intro e he
    rw [b_and]
    cases z : bt y e
    · simp
    · rw [h e he z]; rfl
/-- the needed kinds are there -/
theorem zx_have {rf : Nat → Int32} {m o : Nat} {a x : Int32} {P q b : Nat} (hP : P ≤ 2) (hb : b + P ≤ 12) : (x &&& (nI (zx_m rf m o a P q) <<< (nI b &&& 31)) = nI (zx_m rf m o a P q) <<< (nI b &&& 31)) ↔ ∀ k, k < P → zy_nd rf m o a k = q → bt x (b + (P - 1 - k)) = true := by
  rw [zb_sub]
  constructor
  · intro h k hk e
    refine h _ (by omega) ?_
    rw [b_shl b (by omega) _ (by omega), show b + (P - 1 - k) - b = P - 1 - k by omega, (zx_mb hP (by omega)).mpr ⟨k, hk, rfl, e⟩]
    simp
  · intro h e he w
    rw [b_shl b (by omega) _ he] at w
    have w1 := (Bool.and_eq_true_iff.mp w).1
    have w1 : b ≤ e := by simpa using w1
    obtain ⟨k, hk, e1, e2⟩ := (zx_mb hP (by omega)).mp (Bool.and_eq_true_iff.mp w).2
    have := h k hk e2
    rwa [show b + (P - 1 - k) = e by omega] at this
def zf_kX (rf O A a xi xr : Nat → Int32) (m i : Nat) : Prop :=
  a i ≠ 0 ∧ ((∃ k, k < zh_P O A i ∧ zy_nd rf m (zh_op O i) (A (192 + i)) k = 1 ∧ bt (xi i) (zk_b O A a i + (zh_P O A i - 1 - k)) = false) ∨ (∃ k, k < zh_P O A i ∧ zy_nd rf m (zh_op O i) (A (192 + i)) k = 2 ∧ bt (xr i) (zk_b O A a i + (zh_P O A i - 1 - k)) = false) ∨ (zh_op O i = 2 ∧ bt (xi i) (A (192 + i)).toNatClampNeg = false ∧ bt (xr i) (A (192 + i)).toNatClampNeg = false))
theorem x_kindFault {post : Int32 → Prop} {u : SX} {n m : Nat} (hm : m < 8) (en : gX_lengths u 8 = nI n) (env : zk_env (gX_ops u) (gX_operands u) (gX_catchFrom u) (gX_catchTo u) (gX_catchGoal u) (gX_heights u) n)
  (h : post (zf (zf_kX (gX_refFields u) (gX_ops u) (gX_operands u) (gX_heights u) (gX_intKinds u) (gX_refKinds u) m) n 0)) : wpX_kindFault post u (nI m) := by
  obtain ⟨hn, hn0, ho, hg, hj, hf, hP⟩ := id env
  have z : ∀ d i, i + d = n → post (zf (zf_kX (gX_refFields u) (gX_ops u) (gX_operands u) (gX_heights u) (gX_intKinds u) (gX_refKinds u) m) d i) → kX_kindFault_2 post (nI m) (d + 1) (nI i) u := by
    intro d
    induction d with
    | zero =>
      intro i hi hp
      have : i = n := by omega
      subst this
      refine uX_kindFault_2 (br_t ?_ hp)
      rw [en]; exact Int32.le_refl _
    | succ d ih =>
      intro i hi hp
      have v24 : vp_in (nI i) 24 := vp_in_nI (by omega) (by decide)
      refine uX_kindFault_2 (br_f ?_ ⟨v24, ?_⟩)
      · rw [en]; exact nI_ge (by omega) (by omega)
      · rw [nI_clamp (by omega)]
        refine br_c (fun z => ?_) (fun z => ?_)
        · rw [zf_f (fun w => w.1 z)] at hp
          exact nm_r (nI_1 i) (ih (i + 1) (by omega) hp)
        · have e192 : (192 : Int32) + nI i = nI (192 + i) := by rw [show (192 : Int32) = nI 192 from rfl, nI_add]
          have v216 : vp_in (192 + nI i) 216 := by rw [e192]; exact vp_in_nI (by omega) (by decide)
          refine ⟨v216, nm_e ⟨v216, nm_e (x_heightAt (by omega) ?_)⟩⟩
          rw [e192, nI_clamp (by omega)]
          obtain ⟨o24, eo, fo⟩ := zi_of (ho i (by omega))
          have eop : zh_op (gX_ops u) i = (gX_ops u (192 + i)).toNatClampNeg := rfl
          rw [← eop] at o24 eo fo
          rw [eo]
          have H6 := zh_ht6 (gX_heights u i)
          have hPi := hP i (by omega) z
          have eP : zh_P (gX_ops u) (gX_operands u) i = zt_pops (zh_op (gX_ops u) i) (gX_operands u (192 + i)) := rfl
          have P2 := zt_pops2 (zh_op (gX_ops u) i) (gX_operands u (192 + i))
          have eb0 : zk_b (gX_ops u) (gX_operands u) (gX_heights u) i = 6 + zh_ht (gX_heights u i) - zh_P (gX_ops u) (gX_operands u) i := rfl
          have eb : (6 : Int32) + nI (zh_ht (gX_heights u i)) - nI (zt_pops (zh_op (gX_ops u) i) (gX_operands u (192 + i))) = nI (zk_b (gX_ops u) (gX_operands u) (gX_heights u) i) := by
            rw [show (6 : Int32) = nI 6 from rfl, nI_add, pk_sub (by omega)]
            rfl
          have nx : ¬ zf_kX (gX_refFields u) (gX_ops u) (gX_operands u) (gX_heights u) (gX_intKinds u) (gX_refKinds u) m i → kX_kindFault_2 post (nI m) (d + 1) (nI (i + 1)) u := by
            intro w
            rw [zf_f w] at hp
            exact ih (i + 1) (by omega) hp
          have ys : zf_kX (gX_refFields u) (gX_ops u) (gX_operands u) (gX_heights u) (gX_intKinds u) (gX_refKinds u) m i → post (nI i) := by
            intro w
            rw [zf_t w] at hp
            exact hp
          refine xt_pops o24 (zi_call fo) (nm_r eb (x_neededInts o24 hm fo (nm_e (x_neededRefs o24 hm fo (nm_e ⟨v24, ?_⟩)))))
          have nofault : ∀ (x : Int32) (q : Nat), ¬ (∀ k, k < zh_P (gX_ops u) (gX_operands u) i → zy_nd (gX_refFields u) m (zh_op (gX_ops u) i) (gX_operands u (192 + i)) k = q → bt x (zk_b (gX_ops u) (gX_operands u) (gX_heights u) i + (zh_P (gX_ops u) (gX_operands u) i - 1 - k)) = true) → ∃ k, k < zh_P (gX_ops u) (gX_operands u) i ∧ zy_nd (gX_refFields u) m (zh_op (gX_ops u) i) (gX_operands u (192 + i)) k = q ∧ bt x (zk_b (gX_ops u) (gX_operands u) (gX_heights u) i + (zh_P (gX_ops u) (gX_operands u) i - 1 - k)) = false := by
            intro x q w
            by_cases r : ∃ k, k < zh_P (gX_ops u) (gX_operands u) i ∧ zy_nd (gX_refFields u) m (zh_op (gX_ops u) i) (gX_operands u (192 + i)) k = q ∧ bt x (zk_b (gX_ops u) (gX_operands u) (gX_heights u) i + (zh_P (gX_ops u) (gX_operands u) i - 1 - k)) = false
            · exact r
            · refine absurd (fun k hk e => ?_) w
              cases t : bt x (zk_b (gX_ops u) (gX_operands u) (gX_heights u) i + (zh_P (gX_ops u) (gX_operands u) i - 1 - k))
              · exact absurd ⟨k, hk, e, t⟩ r
              · rfl
          refine br_i (zx_have (q := 1) P2 (by omega)) (fun w1 => ⟨v24, br_i (zx_have (q := 2) P2 (by omega)) (fun w2 => ?_) (fun w2 => ?_)⟩) (fun w1 => ?_)
          · have hf : ∀ (x : Int32) (q : Nat), (∀ k, k < zh_P (gX_ops u) (gX_operands u) i → zy_nd (gX_refFields u) m (zh_op (gX_ops u) i) (gX_operands u (192 + i)) k = q → bt x (zk_b (gX_ops u) (gX_operands u) (gX_heights u) i + (zh_P (gX_ops u) (gX_operands u) i - 1 - k)) = true) → ¬ ∃ k, k < zh_P (gX_ops u) (gX_operands u) i ∧ zy_nd (gX_refFields u) m (zh_op (gX_ops u) i) (gX_operands u (192 + i)) k = q ∧ bt x (zk_b (gX_ops u) (gX_operands u) (gX_heights u) i + (zh_P (gX_ops u) (gX_operands u) i - 1 - k)) = false := by
              rintro x q w ⟨k, hk, e, b⟩
              rw [w k hk e] at b
              exact absurd b (by decide)
            refine br_i (nI_eq (b := 2) (by omega) (by decide)) (fun w3 => ⟨v24, v24, ?_⟩) (fun w3 => ?_)
            · obtain ⟨j, hj, ej⟩ := zi_fj fo (show zi_lim (zh_op (gX_ops u) i) = 6 by rw [w3]; rfl) (by decide)
              have ec : (gX_operands u (192 + i)).toNatClampNeg = j := by rw [ej, nI_clamp (by omega)]
              have bj : (gX_intKinds u i ||| gX_refKinds u i) >>> (gX_operands u (192 + i) &&& 31) &&& 1 = 0 ↔ bt (gX_intKinds u i) j = false ∧ bt (gX_refKinds u i) j = false := by
                rw [ej, zb_bit _ (by omega), b_or]
                cases bt (gX_intKinds u i) j <;> cases bt (gX_refKinds u i) j <;> simp
              refine br_i bj (fun w4 => ys ⟨z, Or.inr (Or.inr ⟨w3, by rw [ec]; exact w4.1, by rw [ec]; exact w4.2⟩)⟩) (fun w4 => nm_r (nI_1 i) (nx ?_))
              rintro ⟨_, q | q | q⟩
              · exact hf _ _ w1 q
              · exact hf _ _ w2 q
              · rw [ec] at q; exact w4 q.2
            · refine nm_r (nI_1 i) (nx ?_)
              rintro ⟨_, q | q | q⟩
              · exact hf _ _ w1 q
              · exact hf _ _ w2 q
              · exact w3 q.1
          · exact ys ⟨z, Or.inr (Or.inl (nofault _ _ w2))⟩
          · exact ys ⟨z, Or.inl (nofault _ _ w1)⟩
  exact upX_kindFault ⟨n + 1, z n 0 (by omega) h⟩
/-! faults of the first kind -/
def zm_bad (up fc O A : Nat → Int32) (n i : Nat) : Prop :=
  (zt_jump (zh_op O i) ∧ n ≤ (A (192 + i)).toNatClampNeg) ∨ ((zh_op O i = 12 ∨ zh_op O i = 15) ∧ ¬ zc_is up (A (192 + i))) ∨ ((zh_op O i = 13 ∨ zh_op O i = 14) ∧ ¬ (zc_is up (nI ((A (192 + i)).toNatClampNeg / 16)) ∧ nI ((A (192 + i)).toNatClampNeg % 16) < zc_at fc (nI ((A (192 + i)).toNatClampNeg / 16))))
noncomputable def zm_end (F T G : Nat → Int32) (n : Nat) : Int32 := @ite Int32 (¬ T 8 ≤ F 8 ∧ (nI n < T 8 ∨ ¬ G 8 < nI n)) (Classical.propDecidable _) 24 (-1)
noncomputable def zm_f (bad : Nat → Prop) (e : Int32) : Nat → Nat → Int32
  | 0, _ => e
  | d + 1, i => @ite Int32 (bad i) (Classical.propDecidable (bad i)) (nI i) (zm_f bad e d (i + 1))
theorem zm_t {bad : Nat → Prop} {e : Int32} {d i : Nat} (h : bad i) : zm_f bad e (d + 1) i = nI i := if_pos h
theorem zm_n {bad : Nat → Prop} {e : Int32} {d i : Nat} (h : ¬ bad i) : zm_f bad e (d + 1) i = zm_f bad e d (i + 1) := if_neg h
theorem zm_m {bad : Nat → Prop} {e : Int32} : ∀ d i, i + d < 2 ^ 31 → (zm_f bad e d i = e ∧ (∀ j, i ≤ j → j < i + d → ¬ bad j)) ∨ (∃ j, i ≤ j ∧ j < i + d ∧ zm_f bad e d i = nI j) := by
  intro d
  induction d with
  | zero => intro i _; exact Or.inl ⟨rfl, fun j h1 h2 => absurd h2 (by omega)⟩
  | succ d ih =>
    intro i hi
    by_cases z : bad i
    · exact Or.inr ⟨i, by omega, by omega, zm_t z⟩
    · rw [zm_n z]
      rcases ih (i + 1) (by omega) with ⟨e, w⟩ | ⟨j, h1, h2, e⟩
      · refine Or.inl ⟨e, fun j h1 h2 => ?_⟩
        by_cases k : j = i
        · subst k; exact z
        · exact w j (by omega) (by omega)
      · exact Or.inr ⟨j, by omega, by omega, e⟩
theorem x_missing {post : Int32 → Prop} {u : SX} {n i : Nat} (hn : n ≤ 24) (en : gX_lengths u 8 = nI n) (ho : zi_ok (gX_ops u (192 + i)) (gX_operands u (192 + i))) (h : post (zp (zm_bad (gX_superOf u) (gX_fieldCount u) (gX_ops u) (gX_operands u) n i))) : wpX_namesMissing post u (gX_ops u (192 + i)) (gX_operands u (192 + i)) := by
  obtain ⟨o24, eo, fo⟩ := zi_of ho
  have eop : zh_op (gX_ops u) i = (gX_ops u (192 + i)).toNatClampNeg := rfl
  rw [← eop] at o24 eo fo
  rw [eo]
  refine upX_namesMissing ?_
  have TT : zm_bad (gX_superOf u) (gX_fieldCount u) (gX_ops u) (gX_operands u) n i → post 1 := fun q => by rw [zp_t q] at h; exact h
  have q48 : zt_jump (zh_op (gX_ops u) i) → kX_namesMissing_48 post (gX_operands u (192 + i)) u := by
    intro w
    obtain ⟨j, hj, ej⟩ := zi_fj fo (show zi_lim (zh_op (gX_ops u) i) = 24 by rcases w with w | w | w <;> rw [w] <;> rfl) (by decide)
    have ec : (gX_operands u (192 + i)).toNatClampNeg = j := by rw [ej, nI_clamp (by omega)]
    refine uX_namesMissing_48 ?_
    rw [ej, en]
    refine br_i (nI_ltI (by omega) (by omega)) (fun k => ?_) (fun k => ?_)
    · rw [zp_f (fun q => ?_)] at h
      · exact h
      · rcases q with q | q | q
        · omega
        · rcases w with w | w | w <;> omega
        · rcases w with w | w | w <;> omega
    · exact TT (Or.inl ⟨w, by omega⟩)
  have q65 : (zh_op (gX_ops u) i = 12 ∨ zh_op (gX_ops u) i = 15) → kX_namesMissing_65 post (gX_operands u (192 + i)) u := by
    intro w
    refine uX_namesMissing_65 (x_isClass (zp_br (fun k => ?_) (fun k => ?_)))
    · exact TT (Or.inr (Or.inl ⟨w, k⟩))
    · rw [zp_f (fun q => ?_)] at h
      · exact h
      · unfold zm_bad zt_jump at q
        rcases q with q | q | q
        · omega
        · exact q.2 k
        · omega
  have q79 : (zh_op (gX_ops u) i = 13 ∨ zh_op (gX_ops u) i = 14) → kX_namesMissing_79 post (gX_operands u (192 + i)) u := by
    intro w
    obtain ⟨j, hj, ej⟩ := zi_fj fo (show zi_lim (zh_op (gX_ops u) i) = 64 by rcases w with w | w <;> rw [w] <;> rfl) (by decide)
    have ec : (gX_operands u (192 + i)).toNatClampNeg = j := by rw [ej, nI_clamp (by omega)]
    refine uX_namesMissing_79 ⟨zn_16, zn_16, ?_⟩
    rw [ej, (zn_d16 hj).2, (zn_d16 hj).1]
    refine x_isField (zp_br (fun k => ?_) (fun k => ?_))
    · exact TT (Or.inr (Or.inr ⟨w, fun q => k ⟨by rw [ec] at q; exact q.1, nI_pos (by omega), by rw [ec] at q; exact q.2⟩⟩))
    · rw [zp_f (fun q => ?_)] at h
      · exact h
      · unfold zm_bad zt_jump at q
        rcases q with q | q | q
        · omega
        · omega
        · exact q.2 (by rw [ec]; exact ⟨k.1, k.2.2⟩)
  have q0 : (∀ o, (o = 8 ∨ o = 9 ∨ o = 10 ∨ o = 12 ∨ o = 13 ∨ o = 14 ∨ o = 15) → zh_op (gX_ops u) i ≠ o) → post 0 := by
    intro w
    rw [zp_f (fun q => ?_)] at h
    · exact h
    · unfold zm_bad zt_jump at q
      rcases q with q | q | q
      · rcases q.1 with e | e | e
        · exact w 8 (by omega) e
        · exact w 9 (by omega) e
        · exact w 10 (by omega) e
      · rcases q.1 with e | e
        · exact w 12 (by omega) e
        · exact w 15 (by omega) e
      · rcases q.1 with e | e
        · exact w 13 (by omega) e
        · exact w 14 (by omega) e
  clear h eo TT
  generalize zh_op (gX_ops u) i = o at *
  clear fo eop
  unfold zt_jump at q48
  revert q48 q65 q79 q0; revert o
  apply zo_24 <;> intro q48 q65 q79 q0 <;> repeat (first | exact q48 (by decide) | exact q65 (by decide) | exact q79 (by decide) | exact q0 (by intro o ho; omega) | refine br_t (by decide) ?_ | refine br_f (by decide) ?_)
theorem x_missingFault {post : Int32 → Prop} {u : SX} {n : Nat} (hn : n ≤ 24) (en : gX_lengths u 8 = nI n) (ho : ∀ i, i < n → zi_ok (gX_ops u (192 + i)) (gX_operands u (192 + i)))
  (h : post (zm_f (zm_bad (gX_superOf u) (gX_fieldCount u) (gX_ops u) (gX_operands u) n) (zm_end (gX_catchFrom u) (gX_catchTo u) (gX_catchGoal u) n) n 0)) : wpX_missingFault post u := by
  have z : ∀ d i, i + d = n → post (zm_f (zm_bad (gX_superOf u) (gX_fieldCount u) (gX_ops u) (gX_operands u) n) (zm_end (gX_catchFrom u) (gX_catchTo u) (gX_catchGoal u) n) d i) → kX_missingFault_10 post (nI n) (d + 1) (nI i) u := by
    intro d
    induction d with
    | zero =>
      intro i hi hp
      have : i = n := by omega
      subst this
      have hp : post (zm_end (gX_catchFrom u) (gX_catchTo u) (gX_catchGoal u) i) := hp
      have y : (¬ gX_catchTo u 8 ≤ gX_catchFrom u 8 ∧ (nI i < gX_catchTo u 8 ∨ ¬ gX_catchGoal u 8 < nI i)) → post 24 := fun w => by
        unfold zm_end at hp; rw [if_pos w] at hp; exact hp
      have no : ¬ (¬ gX_catchTo u 8 ≤ gX_catchFrom u 8 ∧ (nI i < gX_catchTo u 8 ∨ ¬ gX_catchGoal u 8 < nI i)) → post (-1) := fun w => by
        unfold zm_end at hp; rw [if_neg w] at hp; exact hp
      refine uX_missingFault_10 (br_t (Int32.le_refl _) (br_c (fun w => ?_) (fun w => ?_)))
      · exact uX_missingFault_72 (br_t rfl (no (fun k => k.1 w)))
      · refine uX_missingFault_72 (br_f (by decide) (br_c (fun w2 => y ⟨w, Or.inl w2⟩) (fun w2 => br_c (fun w3 => no ?_) (fun w3 => y ⟨w, Or.inr w3⟩))))
        rintro ⟨_, k | k⟩
        · exact w2 k
        · exact k w3
    | succ d ih =>
      intro i hi hp
      have e192 : (192 : Int32) + nI i = nI (192 + i) := by rw [show (192 : Int32) = nI 192 from rfl, nI_add]
      have v216 : vp_in (192 + nI i) 216 := by rw [e192]; exact vp_in_nI (by omega) (by decide)
      refine uX_missingFault_10 (br_f (nI_ge (by omega) (by omega)) ⟨v216, v216, ?_⟩)
      rw [e192, nI_clamp (by omega)]
      refine x_missing hn en (ho i (by omega)) (zp_br (fun w => ?_) (fun w => ?_))
      · rw [zm_n w] at hp
        exact nm_r (nI_1 i) (ih (i + 1) (by omega) hp)
      · rw [zm_t w] at hp
        exact hp
  exact upX_missingFault (nm_r en ⟨n + 1, z n 0 (by omega) h⟩)
theorem y_strange {post : Int32 → Prop} {u : SY} {fc rf : Nat → Int32} {n : Nat} (hcl : zy_cls u fc rf) (hup : ∀ c, c < 4 → gY_up u c = -2 ∨ gY_up u c = -1 ∨ zc_is (gY_up u) (gY_up u c)) (hn : n ≤ 24) (en : gY_length u 8 = nI n) (ho : ∀ i, i < n → zi_ok (gY_ops u (192 + i)) (gY_args u (192 + i)))
  (h : post (zm_f (zm_bad (gY_up u) fc (gY_ops u) (gY_args u) n) (zm_end (gY_from u) (gY_to u) (gY_goal u) n) n 0)) : wpY_strange post u := by
  have z : ∀ d i, i + d = n → post (zm_f (zm_bad (gY_up u) fc (gY_ops u) (gY_args u) n) (zm_end (gY_from u) (gY_to u) (gY_goal u) n) d i) → kY_strange_10 post (nI n) (d + 1) (nI i) u := by
    intro d
    induction d with
    | zero =>
      intro i hi hp
      have : i = n := by omega
      subst this
      have hp : post (zm_end (gY_from u) (gY_to u) (gY_goal u) i) := hp
      have y : (¬ gY_to u 8 ≤ gY_from u 8 ∧ (nI i < gY_to u 8 ∨ ¬ gY_goal u 8 < nI i)) → post 24 := fun w => by
        unfold zm_end at hp; rw [if_pos w] at hp; exact hp
      have no : ¬ (¬ gY_to u 8 ≤ gY_from u 8 ∧ (nI i < gY_to u 8 ∨ ¬ gY_goal u 8 < nI i)) → post (-1) := fun w => by
        unfold zm_end at hp; rw [if_neg w] at hp; exact hp
      refine uY_strange_10 (br_t (Int32.le_refl _) (br_c (fun w => no (fun k => k.1 w)) (fun w => br_c (fun w2 => y ⟨w, Or.inl w2⟩) (fun w2 => br_c (fun w3 => no ?_) (fun w3 => y ⟨w, Or.inr w3⟩)))))
      rintro ⟨_, k | k⟩
      · exact w2 k
      · exact k w3
    | succ d ih =>
      intro i hi hp
      have e192 : (192 : Int32) + nI i = nI (192 + i) := by rw [show (192 : Int32) = nI 192 from rfl, nI_add]
      have v216 : vp_in (192 + nI i) 216 := by rw [e192]; exact vp_in_nI (by omega) (by decide)
      refine uY_strange_10 (br_f (nI_ge (by omega) (by omega)) ⟨v216, nm_e ⟨v216, nm_e ?_⟩⟩)
      rw [e192, nI_clamp (by omega)]
      obtain ⟨o24, eo, fo⟩ := zi_of (ho i (by omega))
      have eop : zh_op (gY_ops u) i = (gY_ops u (192 + i)).toNatClampNeg := rfl
      rw [← eop] at o24 eo fo
      rw [eo]
      have ys : zm_bad (gY_up u) fc (gY_ops u) (gY_args u) n i → post (nI i) := by
        intro w; rw [zm_t w] at hp; exact hp
      have nx : ¬ zm_bad (gY_up u) fc (gY_ops u) (gY_args u) n i → kY_strange_10 post (nI n) (d + 1) (nI (i + 1)) u := by
        intro w; rw [zm_n w] at hp; exact ih (i + 1) (by omega) hp
      have lit : ∀ j, j < 24 → (nI (zh_op (gY_ops u) i) = nI j ↔ zh_op (gY_ops u) i = j) := fun j hj => nI_eq (by omega) (by omega)
      have q86 : (zh_op (gY_ops u) i = 13 ∨ zh_op (gY_ops u) i = 14) → kY_strange_86 post (fun x2 => kY_strange_10 post (nI n) (d + 1) x2 u) (nI n) (nI i) (gY_args u (192 + i)) u := by
        intro w
        obtain ⟨j, hj, ej⟩ := zi_fj fo (show zi_lim (zh_op (gY_ops u) i) = 64 by rcases w with w | w <;> rw [w] <;> rfl) (by decide)
        have ec : (gY_args u (192 + i)).toNatClampNeg = j := by rw [ej, nI_clamp (by omega)]
        refine uY_strange_86 ⟨zn_16, ?_⟩
        rw [ej, (zn_d16 hj).2, (zn_d16 hj).1]
        refine y_isClass hup (zp_br (fun k => ys (Or.inr (Or.inr ⟨w, fun q => k (by rw [ec] at q; exact q.1)⟩))) (fun k => ⟨zn_16, zn_16, ?_⟩))
        have kd : zc_dp (gY_up u) 4 (nI (j / 16)) := by
          obtain ⟨c, hc, e, h2⟩ := id k
          rw [e]; exact hcl.2 c hc h2
        refine y_total hcl.1 kd (br_c (fun q => nm_r (nI_1 i) (nx ?_)) (fun q => ys (Or.inr (Or.inr ⟨w, fun r => q (by rw [ec] at r; exact r.2)⟩))))
        intro r
        unfold zm_bad zt_jump at r
        rcases r with r | r | r
        · omega
        · omega
        · exact r.2 (by rw [ec]; exact ⟨k, q⟩)
      have q74 : ¬ (zt_jump (zh_op (gY_ops u) i) ∧ n ≤ (gY_args u (192 + i)).toNatClampNeg) → ¬ ((zh_op (gY_ops u) i = 12 ∨ zh_op (gY_ops u) i = 15) ∧ ¬ zc_is (gY_up u) (gY_args u (192 + i))) → kY_strange_74 post (fun x2 => kY_strange_10 post (nI n) (d + 1) x2 u) (nI n) (nI i) (nI (zh_op (gY_ops u) i)) (gY_args u (192 + i)) u := by
        intro w1 w2
        refine uY_strange_74 (br_i (lit 13 (by decide)) (fun k => q86 (Or.inl k)) (fun k => br_i (lit 14 (by decide)) (fun k2 => q86 (Or.inr k2)) (fun k2 => nm_r (nI_1 i) (nx ?_))))
        rintro (r | r | r)
        · exact w1 r
        · exact w2 r
        · exact r.1.elim k k2
      have q51 : ¬ (zt_jump (zh_op (gY_ops u) i) ∧ n ≤ (gY_args u (192 + i)).toNatClampNeg) → kY_strange_51 post (fun x2 => kY_strange_10 post (nI n) (d + 1) x2 u) (nI n) (nI i) (nI (zh_op (gY_ops u) i)) (gY_args u (192 + i)) u := by
        intro w1
        have q63 : (zh_op (gY_ops u) i = 12 ∨ zh_op (gY_ops u) i = 15) → kY_strange_63 post (fun x2 => kY_strange_10 post (nI n) (d + 1) x2 u) (nI n) (nI i) (nI (zh_op (gY_ops u) i)) (gY_args u (192 + i)) u := by
          intro w
          refine uY_strange_63 (y_isClass hup (zp_br (fun k => ys (Or.inr (Or.inl ⟨w, k⟩))) (fun k => q74 w1 (fun r => r.2 k))))
        exact uY_strange_51 (br_i (lit 12 (by decide)) (fun k => q63 (Or.inl k)) (fun k => br_i (lit 15 (by decide)) (fun k2 => q63 (Or.inr k2)) (fun k2 => q74 w1 (fun r => r.1.elim k k2))))
      refine yt_jump o24 (zp_br (fun w => q51 (fun k => w k.1)) (fun w => ?_))
      obtain ⟨j, hj, ej⟩ := zi_fj fo (show zi_lim (zh_op (gY_ops u) i) = 24 by rcases w with w | w | w <;> rw [w] <;> rfl) (by decide)
      have ec : (gY_args u (192 + i)).toNatClampNeg = j := by rw [ej, nI_clamp (by omega)]
      have cj : nI n ≤ gY_args u (192 + i) ↔ n ≤ (gY_args u (192 + i)).toNatClampNeg := by
        rw [ec, ej]; exact nI_leI (by omega) (by omega)
      exact br_i cj (fun k => ys (Or.inl ⟨w, k⟩)) (fun k => q51 (fun r => k r.2))
  exact upY_strange (nm_r en ⟨n + 1, z n 0 (by omega) h⟩)
