/-! X's kinds -/
theorem sX_kk (a b c d : Nat → Int32) (u : SX) : sX_intKinds_refKinds a b (sX_intKinds_refKinds c d u) = sX_intKinds_refKinds a b u := rfl
theorem sX_gi (a b : Nat → Int32) (u : SX) : gX_intKinds (sX_intKinds_refKinds a b u) = a := rfl
theorem sX_gr (a b : Nat → Int32) (u : SX) : gX_refKinds (sX_intKinds_refKinds a b u) = b := rfl
theorem zn_d16 {j : Nat} (hj : j < 64) : nI j / 16 = nI (j / 16) ∧ nI j - nI j / 16 * 16 = nI (j % 16) := by
  constructor
  · exact pk_div (d := 16) (by omega) (by decide) (by decide)
  · exact pk_rem (d := 16) (by omega) (by decide) (by decide)
theorem zn_16 : ¬ (16 : Int32) = 0 := by decide
theorem x_pk {post : Int32 → Prop} {u : SX} {o : Nat} {a : Int32} (ho : o < 24) (hf : zi_fit o a) (h : post (nI (zk_pk (gX_refFields u) o a))) : wpX_pushedKind post u (nI o) a := by
  refine upX_pushedKind ?_
  by_cases z13 : o = 13
  · subst z13
    obtain ⟨j, hj, rfl⟩ := zi_fj hf (show zi_lim 13 = 64 from rfl) (by decide)
    have k : wpX_isRefField (fun r => (r = 0 → post 1) ∧ (¬ r = 0 → post 2)) u (nI j / 16) (nI j - nI j / 16 * 16) := by
      rw [(zn_d16 hj).2, (zn_d16 hj).1]
      refine x_isRefField (by omega) (by omega) (zp_br (fun w => ?_) (fun w => ?_))
      · rw [show zk_pk (gX_refFields u) 13 (nI j) = 1 by unfold zk_pk; rw [if_pos rfl, nI_clamp (by omega), if_neg w]] at h
        exact h
      · rw [show zk_pk (gX_refFields u) 13 (nI j) = 2 by unfold zk_pk; rw [if_pos rfl, nI_clamp (by omega), if_pos w]] at h
        exact h
    repeat (first | exact ⟨zn_16, zn_16, k⟩ | refine br_t (by decide) ?_ | refine br_f (by decide) ?_)
  · by_cases z16 : o = 16
    · subst z16
      obtain ⟨j, hj, rfl⟩ := zi_fj hf (show zi_lim 16 = 8 from rfl) (by decide)
      have k : wpX_givesRef (fun r => (r = 0 → post 1) ∧ (¬ r = 0 → post 2)) (nI j) := by
        refine xt_gr hj (zp_br (fun w => ?_) (fun w => ?_))
        · rw [show zk_pk (gX_refFields u) 16 (nI j) = 1 by unfold zk_pk; rw [if_neg (by decide), if_pos rfl, nI_clamp (by omega), if_neg (show ¬ (4 ≤ j ∧ j ≤ 6) from w)]] at h
          exact h
        · rw [show zk_pk (gX_refFields u) 16 (nI j) = 2 by unfold zk_pk; rw [if_neg (by decide), if_pos rfl, nI_clamp (by omega), if_pos (show 4 ≤ j ∧ j ≤ 6 from w)]] at h
          exact h
      repeat (first | exact k | refine br_t (by decide) ?_ | refine br_f (by decide) ?_)
    · by_cases z17 : o = 17
      · subst z17
        obtain ⟨j, hj, rfl⟩ := zi_fj hf (show zi_lim 17 = 4 from rfl) (by decide)
        have k : ((2 : Int32) ≤ nI j → post 2) ∧ (¬ (2 : Int32) ≤ nI j → post 1) := by
          refine br_i (nI_leI (a := 2) (by decide) (by omega)) (fun w => ?_) (fun w => ?_)
          · rw [show zk_pk (gX_refFields u) 17 (nI j) = 2 by unfold zk_pk; rw [if_neg (by decide), if_neg (by decide), if_pos rfl, nI_clamp (by omega), if_neg (by omega)]] at h
            exact h
          · rw [show zk_pk (gX_refFields u) 17 (nI j) = 1 by unfold zk_pk; rw [if_neg (by decide), if_neg (by decide), if_pos rfl, nI_clamp (by omega), if_pos (by omega)]] at h
            exact h
        repeat (first | exact k | refine br_t (by decide) ?_ | refine br_f (by decide) ?_)
      · unfold zk_pk at h
        rw [if_neg z13, if_neg z16, if_neg z17] at h
        clear hf
        revert z13 z16 z17 h; revert o
        apply zo_24 <;> intro h z13 z16 z17 <;> first | exact absurd rfl z13 | exact absurd rfl z16 | exact absurd rfl z17 | (repeat (first | exact h | refine br_t (by decide) ?_ | refine br_f (by decide) ?_))
theorem x_kindsBehind {post : Int32 → Prop} {u : SX} {n i k : Nat} (hn : n ≤ 24) (hi : i < n) (ho : zi_ok (gX_ops u (192 + i)) (gX_operands u (192 + i))) (hk : k < 3) {x : Int32} (hP : zh_P (gX_ops u) (gX_operands u) i ≤ zh_ht (gX_heights u i))
  (h : ∀ y, (∀ e, e < 12 → (bt y e = true ↔ zk_v (fun e => bt x e = true) (zk_pk (gX_refFields u) (zh_op (gX_ops u) i) (gX_operands u (192 + i)) = k) (zh_op (gX_ops u) i) (gX_operands u (192 + i)).toNatClampNeg (zk_b (gX_ops u) (gX_operands u) (gX_heights u) i) e)) → post y) : wpX_kindsBehind post u (nI i) x (nI k) := by
  have e192 : (192 : Int32) + nI i = nI (192 + i) := by rw [show (192 : Int32) = nI 192 from rfl, nI_add]
  have v216 : vp_in (192 + nI i) 216 := by rw [e192]; exact vp_in_nI (by omega) (by decide)
  refine upX_kindsBehind ⟨v216, nm_e ⟨v216, nm_e (x_heightAt (by omega) ?_)⟩⟩
  rw [e192, nI_clamp (by omega)]
  obtain ⟨o24, eo, fo⟩ := zi_of ho
  have eop : zh_op (gX_ops u) i = (gX_ops u (192 + i)).toNatClampNeg := rfl
  rw [← eop] at o24 eo fo
  rw [eo]
  have H6 := zh_ht6 (gX_heights u i)
  have eP : zh_P (gX_ops u) (gX_operands u) i = zt_pops (zh_op (gX_ops u) i) (gX_operands u (192 + i)) := rfl
  have eb : (6 : Int32) + nI (zh_ht (gX_heights u i)) - nI (zt_pops (zh_op (gX_ops u) i) (gX_operands u (192 + i))) = nI (zk_b (gX_ops u) (gX_operands u) (gX_heights u) i) := by
    rw [show (6 : Int32) = nI 6 from rfl, nI_add, pk_sub (by omega)]
    rfl
  refine xt_pops o24 (zi_call fo) (nm_r eb (nm_e (nm_e ?_)))
  have hb : zk_b (gX_ops u) (gX_operands u) (gX_heights u) i < 13 := by unfold zk_b; omega
  generalize zk_b (gX_ops u) (gX_operands u) (gX_heights u) i = b at *
  rw [zk_bit01 x (by omega)]
  have kept : ∀ e, e < 12 → bt (x &&& (((1 : Int32) <<< (nI b &&& 31)) - 1)) e = (bt x e && decide (e < b)) := by
    intro e he
    rw [b_and, zk_low b hb e (by omega)]
  have lit : ∀ j, j < 24 → (nI (zh_op (gX_ops u) i) = nI j ↔ zh_op (gX_ops u) i = j) := fun j hj => nI_eq (by omega) (by omega)
  refine br_i (lit 3 (by decide)) (fun z => ?_) (fun z => ?_)
  · obtain ⟨j, hj, ej⟩ := zi_fj fo (show zi_lim (zh_op (gX_ops u) i) = 6 by rw [z]; rfl) (by decide)
    rw [ej]
    refine h _ (fun e he => ?_)
    rw [ej, nI_clamp (by omega), b_or, b_and, b_xor, kept e he, zb_tp j (by omega) e (by omega), b_m1 e (by omega), zk_sh1 _ (by omega) (by omega)]
    unfold zk_v
    by_cases w : e = j
    · simp [z, w]
    · simp [z, w]
      exact And.comm
  · refine br_i (lit 2 (by decide)) (fun w => ?_) (fun w => ?_)
    · obtain ⟨j, hj, ej⟩ := zi_fj fo (show zi_lim (zh_op (gX_ops u) i) = 6 by rw [w]; rfl) (by decide)
      rw [ej, zk_bit01 x (by omega)]
      refine h _ (fun e he => ?_)
      rw [ej, nI_clamp (by omega), b_or, kept e he, zk_sh1 _ (by omega) (by omega)]
      unfold zk_v
      simp [w]
      rw [and_comm (a := bt x e = true), and_comm (a := bt x j = true)]
    · refine br_i (lit 20 (by decide)) (fun q => ?_) (fun q => ?_)
      · refine h _ (fun e he => ?_)
        rw [b_or, kept e he, zk_sh3 _ (by omega) (by omega)]
        unfold zk_v
        simp [q]
        rw [and_comm (a := bt x e = true), and_comm (a := bt x b = true)]
      · refine x_pk o24 fo (br_i (nI_eq ?_ (by omega)) (fun p => ?_) (fun p => ?_))
        · have : zk_pk (gX_refFields u) (zh_op (gX_ops u) i) (gX_operands u (192 + i)) ≤ 2 := by
            unfold zk_pk
            repeat' split
            all_goals first | omega | skip
            have : ∀ o, o < 24 → [1, 2, 0, 0, 1, 1, 1, 1, 0, 0, 0, 1, 2, 0, 0, 1, 0, 0, 0, 0, 0, 0, 2, 0].getD o 0 ≤ 2 := by decide
            exact this _ o24
          omega
        · refine h _ (fun e he => ?_)
          rw [b_or, kept e he, zb_tp b (by omega) e (by omega)]
          unfold zk_v
          simp [z, w, q, p]
          rw [and_comm (a := bt x e = true)]
        · refine h _ (fun e he => ?_)
          rw [kept e he]
          unfold zk_v
          simp [z, w, q, p]
          exact And.comm
theorem x_meet {post : Int32 → SX → Prop} {u : SX} {n t : Nat} {y z : Int32} (hn : n ≤ 24) (en : gX_lengths u 8 = nI n) (ht : t < n) (h : post (zp (gX_intKinds u t &&& y ≠ gX_intKinds u t ∨ gX_refKinds u t &&& z ≠ gX_refKinds u t)) (sX_intKinds_refKinds (zk_an (gX_intKinds u) t y) (zk_an (gX_refKinds u) t z) u)) : wpX_meet post u (nI t) y z := by
  have hi : vp_in (nI t) 24 := vp_in_nI (by omega) (by decide)
  refine upX_meet (br_t ?_ ⟨hi, nm_e ⟨hi, nm_e ⟨hi, nm_e ⟨hi, nm_e ⟨hi, ?_⟩⟩⟩⟩⟩)
  · rw [en]; exact nI_lt ht (by omega)
  · rw [nI_clamp (by omega), pk_us, pk_us]
    refine br_c (fun w => ⟨hi, br_c (fun q => ?_) (fun q => ?_)⟩) (fun w => ?_)
    · rw [zp_f (fun k => k.elim (fun k => k w) (fun k => k q))] at h; exact h
    · rw [zp_t (Or.inr q)] at h; exact h
    · rw [zp_t (Or.inl w)] at h; exact h
theorem x_spreadK {post : Int32 → SX → Prop} {u : SX} {n m i : Nat} (hn : n ≤ 24) (hi : i < n) (en : gX_lengths u 8 = nI n) (ho : zi_ok (gX_ops u (192 + i)) (gX_operands u (192 + i))) (hg : zh_cg (gX_catchFrom u) (gX_catchTo u) 8 (nI i) → ∃ g, g < n ∧ gX_catchGoal u 8 = nI g) (hj : zt_jump (zh_op (gX_ops u) i) → ∃ t, t < n ∧ gX_operands u (192 + i) = nI t) (hf : zt_fall (zh_op (gX_ops u) i) → i + 1 < n)
  (h0 : gX_heights u i ≠ 0) (hP : zh_P (gX_ops u) (gX_operands u) i ≤ zh_ht (gX_heights u i)) {C : Nat → (Nat → Nat → Prop) → Prop} (eC : C = zk_C (gX_refFields u) (gX_ops u) (gX_operands u) (gX_catchFrom u) (gX_catchTo u) (gX_catchGoal u) (gX_heights u) n m)
  {L : Nat → (Nat → Nat → Prop) → Nat → Prop} (eL : L = zk_cl (gX_refFields u) (gX_ops u) (gX_operands u) (gX_catchFrom u) (gX_catchTo u) (gX_catchGoal u) (gX_heights u) n)
  (u1 : zk_up (C 1) n (gX_intKinds u)) (u2 : zk_up (C 2) n (gX_refKinds u))
  (h : ∀ (xi xr : Nat → Int32) (c : Prop), zk_sp (C 1) (C 2) (fun P => L 1 P i) (fun P => L 2 P i) n (gX_intKinds u) (gX_refKinds u) xi xr c → post (zp c) (sX_intKinds_refKinds xi xr u)) : wpX_spreadKinds post u (nI i) := by
  subst eC eL
  have e192 : (192 : Int32) + nI i = nI (192 + i) := by rw [show (192 : Int32) = nI 192 from rfl, nI_add]
  have v216 : vp_in (192 + nI i) 216 := by rw [e192]; exact vp_in_nI (by omega) (by decide)
  have v24 : vp_in (nI i) 24 := vp_in_nI (by omega) (by decide)
  refine upX_spreadKinds ⟨v216, nm_e ⟨v24, ?_⟩⟩
  rw [e192, nI_clamp (by omega), nI_clamp (by omega)]
  refine x_kindsBehind (k := 1) hn hi ho (by decide) hP (fun y hy => ⟨v24, x_kindsBehind (k := 2) hn hi ho (by decide) hP (fun z hz => ?_)⟩)
  obtain ⟨o24, eo, fo⟩ := zi_of ho
  have eop : zh_op (gX_ops u) i = (gX_ops u (192 + i)).toNatClampNeg := rfl
  rw [← eop] at o24 eo fo
  rw [eo]
  have gex : ∃ g, g < 2 ^ 31 ∧ (zh_cg (gX_catchFrom u) (gX_catchTo u) 8 (nI i) → g < n ∧ gX_catchGoal u 8 = nI g) := by
    by_cases w : zh_cg (gX_catchFrom u) (gX_catchTo u) 8 (nI i)
    · obtain ⟨g, h1, h2⟩ := hg w
      exact ⟨g, by omega, fun _ => ⟨h1, h2⟩⟩
    · exact ⟨0, by decide, fun k => absurd k w⟩
  obtain ⟨g, hg31, hg'⟩ := gex
  have hb : zk_b (gX_ops u) (gX_operands u) (gX_heights u) i < 12 ∨ (zh_op (gX_ops u) i ≠ 3 ∧ zh_op (gX_ops u) i ≠ 20) := by
    have H6 := zh_ht6 (gX_heights u i)
    by_cases w : zh_op (gX_ops u) i = 3
    · refine Or.inl ?_
      have : zh_P (gX_ops u) (gX_operands u) i = 1 := by unfold zh_P; rw [w]; rfl
      unfold zk_b; omega
    · by_cases w2 : zh_op (gX_ops u) i = 20
      · refine Or.inl ?_
        have : zh_P (gX_ops u) (gX_operands u) i = 1 := by unfold zh_P; rw [w2]; rfl
        unfold zk_b; omega
      · exact Or.inr ⟨w, w2⟩
  have ha : zh_op (gX_ops u) i = 2 → (gX_operands u (192 + i)).toNatClampNeg < 12 := by
    intro w
    obtain ⟨j, hj, ej⟩ := zi_fj fo (show zi_lim (zh_op (gX_ops u) i) = 6 by rw [w]; rfl) (by decide)
    rw [ej, nI_clamp (by omega)]; omega
  have hj' : zt_jump (zh_op (gX_ops u) i) → gX_operands u (192 + i) = nI (gX_operands u (192 + i)).toNatClampNeg ∧ (gX_operands u (192 + i)).toNatClampNeg < 2 ^ 31 := by
    intro w
    obtain ⟨t, ht, et⟩ := hj w
    rw [et, nI_clamp (by omega)]
    exact ⟨rfl, by omega⟩
  have key : ∀ (i1 r1 i2 r2 i3 r3 : Nat → Int32) (c1 c2 c3 : Prop), _ → _ → _ → _ := fun i1 r1 i2 r2 i3 r3 c1 c2 c3 e1 e2 e3 => zk_three (g := g) hn hi h0 u1 u2 hy hz ha hb (fun w => (hg' w).2) hj' hg31 (i1 := i1) (r1 := r1) (i2 := i2) (r2 := r2) (i3 := i3) (r3 := r3) (c1 := c1) (c2 := c2) (c3 := c3) e1 e2 e3
  -- the catcher
  have third : ∀ (i1 r1 i2 r2 : Nat → Int32) (c1 c2 : Prop), zk_one n (zt_jump (zh_op (gX_ops u) i)) (gX_operands u (192 + i)).toNatClampNeg y z (gX_intKinds u) (gX_refKinds u) i1 r1 c1 → zk_one n (zt_fall (zh_op (gX_ops u) i)) (i + 1) y z i1 r1 i2 r2 c2 → kX_spreadKinds_90 post (nI i) (zp (c1 ∨ c2)) (sX_intKinds_refKinds i2 r2 u) := by
    intro i1 r1 i2 r2 c1 c2 e1 e2
    refine uX_spreadKinds_90 (x_isCaught (r := 8) (by decide) (zp_br (fun w => ⟨zp_n _, ?_⟩) (fun w => ⟨v24, nm_e ⟨v24, ?_⟩⟩)))
    · have := h i2 r2 _ (key i1 r1 i2 r2 i2 r2 c1 c2 False e1 e2 (Or.inr ⟨w, rfl, rfl, fun k => k⟩))
      rw [zp_c (show (c1 ∨ c2 ∨ False) ↔ (c1 ∨ c2) by simp)] at this
      exact this
    · show wpX_meet _ _ (gX_catchGoal u 8) ((i2 (nI i).toNatClampNeg &&& 63) ||| 64) (r2 (nI i).toNatClampNeg &&& 63)
      have w' := hg' w
      rw [w'.2, nI_clamp (by omega)]
      refine x_meet (u := sX_intKinds_refKinds i2 r2 u) hn en w'.1 ?_
      rw [sX_kk, sX_gi, sX_gr]
      have q := h _ _ _ (key i1 r1 i2 r2 _ _ c1 c2 _ e1 e2 (Or.inl ⟨w, w'.1, rfl, rfl, Iff.rfl⟩))
      refine zp_br (fun k => ⟨zp_n _, ?_⟩) (fun k => ?_)
      · rw [zp_c (show (c1 ∨ c2 ∨ _) ↔ (c1 ∨ c2) from ⟨fun j => j.elim Or.inl (fun j => j.elim Or.inr (fun j => absurd j k)), fun j => j.elim Or.inl (fun j => Or.inr (Or.inl j))⟩)] at q
        exact q
      · rw [zp_t (Or.inr (Or.inr k))] at q
        exact q
  have second : ∀ (i1 r1 : Nat → Int32) (c1 : Prop), zk_one n (zt_jump (zh_op (gX_ops u) i)) (gX_operands u (192 + i)).toNatClampNeg y z (gX_intKinds u) (gX_refKinds u) i1 r1 c1 → kX_spreadKinds_67 post (nI i) (nI (zh_op (gX_ops u) i)) y z (zp c1) (sX_intKinds_refKinds i1 r1 u) := by
    intro i1 r1 c1 e1
    refine uX_spreadKinds_67 (xt_fall o24 (zp_br (fun w => ?_) (fun w => ?_)))
    · have := third i1 r1 i1 r1 c1 False e1 (Or.inr ⟨w, rfl, rfl, fun k => k⟩)
      rw [zp_c (show (c1 ∨ False) ↔ c1 by simp)] at this
      exact this
    · rw [nI_1]
      refine x_meet (u := sX_intKinds_refKinds i1 r1 u) hn en (hf w) ?_
      rw [sX_kk, sX_gi, sX_gr]
      have q := third i1 r1 _ _ c1 _ e1 (Or.inl ⟨w, hf w, rfl, rfl, Iff.rfl⟩)
      refine zp_br (fun k => ?_) (fun k => ?_)
      · rw [zp_c (show (c1 ∨ _) ↔ c1 from ⟨fun j => j.elim id (fun j => absurd j k), Or.inl⟩)] at q
        exact q
      · rw [zp_t (Or.inr k)] at q
        exact q
  refine xt_jump o24 (zp_br (fun w => ?_) (fun w => ⟨by rw [← e192]; exact v216, ?_⟩))
  · have := second _ _ False (Or.inr ⟨w, rfl, rfl, fun k => k⟩)
    rw [zp_f (fun k => k)] at this
    exact this
  · obtain ⟨t, ht, et⟩ := hj w
    have q := fun c1 hc => second _ _ c1 (Or.inl ⟨w, by rw [et, nI_clamp (by omega)]; exact ht, rfl, rfl, hc⟩)
    rw [et, nI_clamp (by omega)] at q
    rw [et]
    exact x_meet hn en ht (q _ Iff.rfl)
/-- the draft behind the heights, as kinds need it -/
def zk_env (O A F T G a : Nat → Int32) (n : Nat) : Prop :=
  n ≤ 24 ∧ 0 < n ∧ (∀ i, i < n → zi_ok (O (192 + i)) (A (192 + i))) ∧ (∀ i, i < n → zh_cg F T 8 (nI i) → ∃ g, g < n ∧ G 8 = nI g) ∧ (∀ i, i < n → zt_jump (zh_op O i) → ∃ t, t < n ∧ A (192 + i) = nI t) ∧
  (∀ i, i < n → a i ≠ 0 → zt_fall (zh_op O i) → i + 1 < n) ∧ (∀ i, i < n → a i ≠ 0 → zh_P O A i ≤ zh_ht (a i) ∧ zh_ht (a i) - zh_P O A i + zh_Q O i ≤ 6)
/-- what X's kinds are at the end -/
def zk_FX (rf O A F T G a : Nat → Int32) (n m k : Nat) (x : Nat → Int32) : Prop :=
  zk_C rf O A F T G a n m k (fun i e => bt (x i) e = true) ∧ zk_up (zk_C rf O A F T G a n m k) n x
theorem x_kinds72 {post : SX → Prop} {J : Int32 → Int32 → SX → Prop} {u : SX} {n m : Nat} {x3 : Int32} (en : gX_lengths u 8 = nI n) (env : zk_env (gX_ops u) (gX_operands u) (gX_catchFrom u) (gX_catchTo u) (gX_catchGoal u) (gX_heights u) n)
  {C : Nat → (Nat → Nat → Prop) → Prop} (eC : C = zk_C (gX_refFields u) (gX_ops u) (gX_operands u) (gX_catchFrom u) (gX_catchTo u) (gX_catchGoal u) (gX_heights u) n m)
  {L : Nat → (Nat → Nat → Prop) → Nat → Prop} (eL : L = zk_cl (gX_refFields u) (gX_ops u) (gX_operands u) (gX_catchFrom u) (gX_catchTo u) (gX_catchGoal u) (gX_heights u) n) {i0 r0 : Nat → Int32}
  (hJ : ∀ (xi xr : Nat → Int32) (c : Prop), zk_up (C 1) n xi → zk_up (C 2) n xr → (∀ t e, bt (xi t) e = true → bt (i0 t) e = true) → (∀ t e, bt (xr t) e = true → bt (r0 t) e = true) → (c → zs_m 12 24 xi + zs_m 12 24 xr < zs_m 12 24 i0 + zs_m 12 24 r0) → (¬ c → ∀ i, i < n → gX_heights u i ≠ 0 → L 1 (fun i e => bt (xi i) e = true) i ∧ L 2 (fun i e => bt (xr i) e = true) i) → J (zp c) (x3 + 1) (sX_intKinds_refKinds xi xr u)) :
  ∀ d i xi xr c, i + d = n → zk_up (C 1) n xi → zk_up (C 2) n xr → (∀ t e, bt (xi t) e = true → bt (i0 t) e = true) → (∀ t e, bt (xr t) e = true → bt (r0 t) e = true) → zs_m 12 24 xi + zs_m 12 24 xr ≤ zs_m 12 24 i0 + zs_m 12 24 r0 → (c → zs_m 12 24 xi + zs_m 12 24 xr < zs_m 12 24 i0 + zs_m 12 24 r0) → (¬ c → xi = i0 ∧ xr = r0 ∧ ∀ k, k < i → gX_heights u k ≠ 0 → L 1 (fun i e => bt (i0 i) e = true) k ∧ L 2 (fun i e => bt (r0 i) e = true) k) → kX_reachKinds_72 post J x3 (d + 1) (zp c) (nI i) (sX_intKinds_refKinds xi xr u) := by
  obtain ⟨hn, hn0, ho, hg, hj, hf, hP⟩ := id env
  intro d
  induction d with
  | zero =>
    intro i xi xr c hi v1 v2 m1 m2 hle hc hk
    have : i = n := by omega
    subst this
    refine uX_reachKinds_72 (br_t ?_ (nm_e (hJ xi xr c v1 v2 m1 m2 hc (fun z => ?_))))
    · show gX_lengths u 8 ≤ nI i
      rw [en]; exact Int32.le_refl _
    · obtain ⟨rfl, rfl, k⟩ := hk z
      exact k
  | succ d ih =>
    intro i xi xr c hi v1 v2 m1 m2 hle hc hk
    refine uX_reachKinds_72 (br_f ?_ ⟨vp_in_nI (by omega) (by decide), ?_⟩)
    · show ¬ gX_lengths u 8 ≤ nI i
      rw [en]; exact nI_ge (by omega) (by omega)
    · rw [nI_clamp (by omega)]
      refine br_c (fun z => ?_) (fun z => ?_)
      · refine nm_r (nI_1 i) (ih (i + 1) xi xr c (by omega) v1 v2 m1 m2 hle hc (fun w => ?_))
        obtain ⟨rfl, rfl, k⟩ := hk w
        refine ⟨rfl, rfl, fun j hj h0 => ?_⟩
        by_cases e : j = i
        · subst e; exact absurd z h0
        · exact k j (by omega) h0
      · have z : gX_heights u i ≠ 0 := z
        refine x_spreadK (u := sX_intKinds_refKinds xi xr u) (m := m) hn (by omega) en (ho i (by omega)) (hg i (by omega)) (hj i (by omega)) (hf i (by omega) z) z (hP i (by omega) z).1 eC eL v1 v2 (fun xi' xr' c' sp => ?_)
        rw [sX_kk]
        obtain ⟨w1, w2, l, g, k', n1, n2⟩ := sp
        have n1' : ∀ t e, bt (xi' t) e = true → bt (i0 t) e = true := fun t e b => m1 t e (n1 t e b)
        have n2' : ∀ t e, bt (xr' t) e = true → bt (r0 t) e = true := fun t e b => m2 t e (n2 t e b)
        have g : zs_m 12 24 xi' + zs_m 12 24 xr' ≤ zs_m 12 24 xi + zs_m 12 24 xr := g
        refine zp_br (fun q => ?_) (fun q => ?_)
        · obtain ⟨e1, e2, k1, k2⟩ := k' q
          have e1 : xi' = xi := e1
          have e2 : xr' = xr := e2
          subst e1 e2
          refine nm_r (nI_1 i) (ih (i + 1) xi' xr' c (by omega) w1 w2 n1' n2' hle hc (fun w => ?_))
          obtain ⟨rfl, rfl, k⟩ := hk w
          refine ⟨rfl, rfl, fun j hj h0 => ?_⟩
          by_cases e : j = i
          · subst e; exact ⟨k1, k2⟩
          · exact k j (by omega) h0
        · have l : zs_m 12 24 xi' + zs_m 12 24 xr' < zs_m 12 24 xi + zs_m 12 24 xr := l q
          have := ih (i + 1) xi' xr' True (by omega) w1 w2 n1' n2' (by omega) (fun _ => by omega) (fun w => absurd trivial w)
          rw [zp_t trivial] at this
          exact nm_r (nI_1 i) this
theorem x_kinds56 {post : SX → Prop} {u : SX} {n m : Nat} (en : gX_lengths u 8 = nI n) (env : zk_env (gX_ops u) (gX_operands u) (gX_catchFrom u) (gX_catchTo u) (gX_catchGoal u) (gX_heights u) n)
  {C : Nat → (Nat → Nat → Prop) → Prop} (eC : C = zk_C (gX_refFields u) (gX_ops u) (gX_operands u) (gX_catchFrom u) (gX_catchTo u) (gX_catchGoal u) (gX_heights u) n m)
  (h : ∀ xi xr, C 1 (fun i e => bt (xi i) e = true) → C 2 (fun i e => bt (xr i) e = true) → zk_up (C 1) n xi → zk_up (C 2) n xr → post (sX_intKinds_refKinds xi xr u)) :
  ∀ d p xi xr c, p + d = 1000 → zk_up (C 1) n xi → zk_up (C 2) n xr → (∀ e, e < 12 → bt (xi 0) e = true → bt (nI (zt_ti m)) e = true) → (∀ e, e < 12 → bt (xr 0) e = true → bt (nI (zt_tr m)) e = true) → (c → p + (zs_m 12 24 xi + zs_m 12 24 xr) ≤ 576) → (¬ c → ∀ i, i < n → gX_heights u i ≠ 0 → zk_cl (gX_refFields u) (gX_ops u) (gX_operands u) (gX_catchFrom u) (gX_catchTo u) (gX_catchGoal u) (gX_heights u) n 1 (fun i e => bt (xi i) e = true) i ∧ zk_cl (gX_refFields u) (gX_ops u) (gX_operands u) (gX_catchFrom u) (gX_catchTo u) (gX_catchGoal u) (gX_heights u) n 2 (fun i e => bt (xr i) e = true) i) → kX_reachKinds_56 post (d + 1) (zp c) (nI p) (sX_intKinds_refKinds xi xr u) := by
  intro d
  induction d with
  | zero =>
    intro p xi xr c hp v1 v2 b1 b2 hc hk
    have : p = 1000 := by omega
    subst this
    have nc : ¬ c := fun z => by
      have := hc z
      omega
    have k := hk nc
    refine uX_reachKinds_56 (br_t (by decide) (h xi xr ?_ ?_ v1 v2))
    · rw [eC]; exact ⟨b1, fun i hi h0 => (k i hi h0).1⟩
    · rw [eC]; exact ⟨b2, fun i hi h0 => (k i hi h0).2⟩
  | succ d ih =>
    intro p xi xr c hp v1 v2 b1 b2 hc hk
    refine uX_reachKinds_56 (br_f (nI_ge (b := 1000) (by omega) (by decide)) (zp_br (fun z => ?_) (fun z => ?_)))
    · have k := hk z
      refine h xi xr ?_ ?_ v1 v2
      · rw [eC]; exact ⟨b1, fun i hi h0 => (k i hi h0).1⟩
      · rw [eC]; exact ⟨b2, fun i hi h0 => (k i hi h0).2⟩
    · have q := x_kinds72 (post := post) (J := kX_reachKinds_56 post (d + 1)) (x3 := nI p) (u := u) (m := m) en env eC rfl (i0 := xi) (r0 := xr) ?_ n 0 xi xr False (by omega) v1 v2 (fun _ _ b => b) (fun _ _ b => b) (Nat.le_refl _) (fun k => k.elim) (fun _ => ⟨rfl, rfl, fun k hk => absurd hk (by omega)⟩)
      · rw [zp_f (fun k => k)] at q
        exact ⟨_, q⟩
      · intro xi' xr' c' w1 w2 m1 m2 l k
        rw [nI_1]
        refine ih (p + 1) xi' xr' c' (by omega) w1 w2 (fun e he b => b1 e he (m1 0 e b)) (fun e he b => b2 e he (m2 0 e b)) (fun w => ?_) k
        have := l w
        have := hc z
        omega
theorem zk_4095 : ∀ e, e < 32 → bt 4095 e = decide (e < 12) := by decide
theorem zk_small : ∀ k, k < 4 → ∀ e, e < 32 → 12 ≤ e → bt (nI k) e = false := by decide +kernel
theorem x_reachKinds {post : SX → Prop} {u : SX} {n m : Nat} (hm : m < 8) (en : gX_lengths u 8 = nI n) (env : zk_env (gX_ops u) (gX_operands u) (gX_catchFrom u) (gX_catchTo u) (gX_catchGoal u) (gX_heights u) n)
  (h : ∀ xi xr, zk_FX (gX_refFields u) (gX_ops u) (gX_operands u) (gX_catchFrom u) (gX_catchTo u) (gX_catchGoal u) (gX_heights u) n m 1 xi → zk_FX (gX_refFields u) (gX_ops u) (gX_operands u) (gX_catchFrom u) (gX_catchTo u) (gX_catchGoal u) (gX_heights u) n m 2 xr → post (sX_intKinds_refKinds xi xr u)) : wpX_reachKinds post u (nI m) := by
  have hn := env.1
  have z : ∀ d i xi xr, i + d = 24 → (∀ t, t < i → xi t = 4095 ∧ xr t = 4095) → kX_reachKinds_2 post (nI m) (d + 1) (nI i) (sX_intKinds_refKinds xi xr u) := by
    intro d
    induction d with
    | zero =>
      intro i xi xr hi ha
      have : i = 24 := by omega
      subst this
      refine uX_reachKinds_2 (br_t (by decide) (xt_ti hm (nm_e (xt_tr hm (nm_e ⟨1001, ?_⟩)))))
      have i1 : zt_ti m < 4 := by unfold zt_ti; (repeat' split) <;> omega
      have i2 : zt_tr m < 4 := by unfold zt_tr; (repeat' split) <;> omega
      have up0 : ∀ k (v : Nat) (x : Nat → Int32), v < 4 → (if k = 1 then zt_ti m else zt_tr m) = v → (∀ t, t < 24 → x t = 4095) → zk_up (zk_C (gX_refFields u) (gX_ops u) (gX_operands u) (gX_catchFrom u) (gX_catchTo u) (gX_catchGoal u) (gX_heights u) n m k) n (upd x 0 (nI v)) := by
        intro k v x hv ev hx
        constructor
        · intro P hP i hi e he p
          by_cases w : i = 0
          · subst w
            have := hP.1 e he p
            rw [ev] at this
            rw [pk_us]; exact this
          · rw [pk_un w, hx i (by omega), zk_4095 e (by omega)]
            simp [he]
        · intro i hi e h1 h2
          by_cases w : i = 0
          · subst w; rw [pk_us]; exact zk_small v hv e h2 h1
          · rw [pk_un w, hx i (by omega), zk_4095 e h2]
            have : ¬ e < 12 := by omega
            simp [this]
      have q := x_kinds56 (post := post) (u := u) (m := m) en env rfl (fun xi xr h1 h2 v1 v2 => h xi xr ⟨h1, v1⟩ ⟨h2, v2⟩) 1000 0 (upd xi 0 (nI (zt_ti m))) (upd xr 0 (nI (zt_tr m))) True (by omega) (up0 1 (zt_ti m) xi i1 rfl (fun t ht => (ha t ht).1)) (up0 2 (zt_tr m) xr i2 rfl (fun t ht => (ha t ht).2)) (fun e _ b => by rw [pk_us] at b; exact b) (fun e _ b => by rw [pk_us] at b; exact b) (fun _ => ?_) (fun k => absurd trivial k)
      · rw [zp_t trivial] at q
        exact q
      · have := zs_mub 12 24 (upd xi 0 (nI (zt_ti m)))
        have := zs_mub 12 24 (upd xr 0 (nI (zt_tr m)))
        omega
    | succ d ih =>
      intro i xi xr hi ha
      have v24 : vp_in (nI i) 24 := vp_in_nI (by omega) (by decide)
      refine uX_reachKinds_2 (br_f (nI_ge (b := 24) (by omega) (by decide)) ⟨v24, nm_e ⟨v24, nm_e (nm_r (nI_1 i) ?_)⟩⟩)
      rw [nI_clamp (by omega)]
      refine ih (i + 1) (upd xi i 4095) (upd xr i 4095) (by omega) (fun t ht => ?_)
      by_cases e : t = i
      · subst e; exact ⟨pk_us, pk_us⟩
      · rw [pk_un e, pk_un e]; exact ha t (by omega)
  exact upX_reachKinds ⟨25, z 24 0 (gX_intKinds u) (gX_refKinds u) rfl (fun t ht => absurd ht (by omega))⟩
