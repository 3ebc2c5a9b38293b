/-! Y's kinds: what is needed, and the whole of mixed -/
/-- the kind that is needed k below the top; 0: any -/
def zy_nd (rf : Nat → Int32) (m o : Nat) (a : Int32) (k : Nat) : Nat := if o = 14 then (if k = 0 then (if bt (rf (a.toNatClampNeg / 16)) (a.toNatClampNeg % 16) then 2 else 1) else 2) else if o = 16 then (if a.toNatClampNeg = 7 then 2 else if k = 1 then 2 else 1) else if o = 17 then (if k = 1 then 2 else 1) else if o = 18 then (if 4 ≤ m ∧ m ≤ 6 then 2 else 1) else [1, 1, 1, 0, 1, 1, 1, 1, 1, 1, 2, 2, 1, 2, 0, 2, 0, 0, 0, 1, 0, 0, 1, 2].getD o 1
theorem zy_nd3 (rf : Nat → Int32) (m o : Nat) (a : Int32) (k : Nat) (ho : o < 24) : zy_nd rf m o a k < 3 := by
  unfold zy_nd
  repeat' split
  all_goals first | omega | skip
  have : ∀ o, o < 24 → [1, 1, 1, 0, 1, 1, 1, 1, 1, 1, 2, 2, 1, 2, 0, 2, 0, 0, 0, 1, 0, 0, 1, 2].getD o 1 < 3 := by decide
  exact this _ ho
theorem y_needs {post : Int32 → Prop} {u : SY} {fc rf : Nat → Int32} {o m k : Nat} {a : Int32} (hcl : zy_cls u fc rf) (ho : o < 24) (hm : m < 8) (hk : k < 2) (hf : zi_fit o a)
  (hc : o = 14 → zy_fd (gY_up u) fc a)
  (h : post (nI (zy_nd rf m o a k))) : wpY_needs post u (nI o) a (nI m) (nI k) := by
  refine upY_needs ?_
  have k0 : nI k = 0 ↔ k = 0 := nI_eq (b := 0) (by omega) (by decide)
  have k1 : nI k = 1 ↔ k = 1 := nI_eq (b := 1) (by omega) (by decide)
  unfold zy_nd at h
  by_cases z14 : o = 14
  · subst z14
    rw [if_pos rfl] at h
    obtain ⟨j, hj, rfl, h2, n, en, hfn, hn⟩ := hc rfl
    have q : (nI k = 0 → (¬ (16 : Int32) = 0 ∧ (¬ (16 : Int32) = 0 ∧ wpY_kindOf (fun r => post r) u (nI j / 16) (nI j - nI j / 16 * 16)))) ∧ (¬ nI k = 0 → post 2) := by
      refine br_i k0 (fun w => ⟨zn_16, zn_16, ?_⟩) (fun w => ?_)
      · rw [(zn_d16 hj).2, (zn_d16 hj).1]
        refine y_kindOf hcl.1 (by omega) h2 (hcl.2 _ (by omega) h2) en hfn hn ?_
        rw [if_pos w, nI_clamp (by omega)] at h
        split at h
        · rename_i w; rw [if_pos w]; exact h
        · rename_i w; rw [if_neg w]; exact h
      · rw [if_neg w] at h; exact h
    repeat (first | exact q | refine br_t (by decide) ?_ | refine br_f (by decide) ?_)
  · rw [if_neg z14] at h
    by_cases z16 : o = 16
    · subst z16
      rw [if_pos rfl] at h
      obtain ⟨j, hj, rfl⟩ := zi_fj hf (show zi_lim 16 = 8 from rfl) (by decide)
      have q : (nI j = 7 → post 2) ∧ (¬ nI j = 7 → ((nI k = 1 → post 2) ∧ (¬ nI k = 1 → post 1))) := by
        rw [nI_clamp (by omega)] at h
        refine br_i (nI_eq (b := 7) (by omega) (by decide)) (fun w => ?_) (fun w => br_i k1 (fun w2 => ?_) (fun w2 => ?_))
        · rw [if_pos w] at h; exact h
        · rw [if_neg w, if_pos w2] at h; exact h
        · rw [if_neg w, if_neg w2] at h; exact h
      repeat (first | exact q | refine br_t (by decide) ?_ | refine br_f (by decide) ?_)
    · rw [if_neg z16] at h
      by_cases z17 : o = 17
      · subst z17
        rw [if_pos rfl] at h
        have q : (nI k = 1 → post 2) ∧ (¬ nI k = 1 → post 1) := by
          refine br_i k1 (fun w2 => ?_) (fun w2 => ?_)
          · rw [if_pos w2] at h; exact h
          · rw [if_neg w2] at h; exact h
        repeat (first | exact q | refine br_t (by decide) ?_ | refine br_f (by decide) ?_)
      · rw [if_neg z17] at h
        by_cases z18 : o = 18
        · subst z18
          rw [if_pos rfl] at h
          have q : wpY_gives (fun r => post r) (nI m) := by
            refine yt_gives hm ?_
            split at h
            · rename_i w; rw [if_pos w]; exact h
            · rename_i w; rw [if_neg w]; exact h
          repeat (first | exact q | refine br_t (by decide) ?_ | refine br_f (by decide) ?_)
        · rw [if_neg z18] at h
          clear hf hc
          revert z14 z16 z17 z18 h; revert o
          apply zo_24 <;> intro h z14 z16 z17 z18 <;> first | exact absurd rfl z14 | exact absurd rfl z16 | exact absurd rfl z17 | exact absurd rfl z18 | (repeat (first | exact h | refine br_t (by decide) ?_ | refine br_f (by decide) ?_))
/-- Y's fault of the third kind -/
def zf_kY (rf O A a K : Nat → Int32) (m i : Nat) : Prop :=
  a i ≠ 0 ∧ ((zh_op O i = 2 ∧ K (12 * i + (A (192 + i)).toNatClampNeg) ≠ 1 ∧ K (12 * i + (A (192 + i)).toNatClampNeg) ≠ 2) ∨ ∃ k, k < zh_P O A i ∧ zy_nd rf m (zh_op O i) (A (192 + i)) k ≠ 0 ∧ K (12 * i + 5 + zh_ht (a i) - k) ≠ nI (zy_nd rf m (zh_op O i) (A (192 + i)) k))
theorem y_isMixed {post : Int32 → Prop} {u : SY} {fc rf : Nat → Int32} {n m i : Nat} (hcl : zy_cls u fc rf) (hm : m < 8) (hi : i < n) (env : zy_env (gY_ops u) (gY_args u) (gY_from u) (gY_to u) (gY_goal u) (gY_heights u) (gY_up u) fc n) (h0 : gY_heights u i ≠ 0)
  (h : post (zp (zf_kY rf (gY_ops u) (gY_args u) (gY_heights u) (gY_kinds u) m i))) : wpY_isMixed post u (nI i) (nI m) := by
  obtain ⟨⟨hn, hn0, ho, hg, hj, hf, hP⟩, hat⟩ := id env
  obtain ⟨_, eH, hP1, hQ1, hH, hc⟩ := hat i hi h0
  have e192 : (192 : Int32) + nI i = nI (192 + i) := by rw [show (192 : Int32) = nI 192 from rfl, nI_add]
  have v216 : vp_in (192 + nI i) 216 := by rw [e192]; exact vp_in_nI (by omega) (by decide)
  refine upY_isMixed ⟨v216, nm_e ⟨v216, nm_e (y_heightAt (by omega) hH eH ?_)⟩⟩
  rw [e192, nI_clamp (by omega)]
  obtain ⟨o24, eo, fo⟩ := zi_of (ho i hi)
  have eop : zh_op (gY_ops u) i = (gY_ops u (192 + i)).toNatClampNeg := rfl
  rw [← eop] at o24 eo fo
  rw [eo]
  have eP : zh_P (gY_ops u) (gY_args u) i = zt_pops (zh_op (gY_ops u) i) (gY_args u (192 + i)) := rfl
  have P2 := zt_pops2 (zh_op (gY_ops u) i) (gY_args u (192 + i))
  have lp : ¬ (zh_op (gY_ops u) i = 2 ∧ gY_kinds u (12 * i + (gY_args u (192 + i)).toNatClampNeg) ≠ 1 ∧ gY_kinds u (12 * i + (gY_args u (192 + i)).toNatClampNeg) ≠ 2) → ∀ d k, k + d = zh_P (gY_ops u) (gY_args u) i → (∀ j, j < k → ¬ (zy_nd rf m (zh_op (gY_ops u) i) (gY_args u (192 + i)) j ≠ 0 ∧ gY_kinds u (12 * i + 5 + zh_ht (gY_heights u i) - j) ≠ nI (zy_nd rf m (zh_op (gY_ops u) i) (gY_args u (192 + i)) j))) → kY_isMixed_72 post (nI i) (nI m) (nI (zh_op (gY_ops u) i)) (gY_args u (192 + i)) (nI (zh_ht (gY_heights u i))) (d + 1) (nI k) u := by
    intro nl d
    induction d with
    | zero =>
      intro k hk hq
      refine uY_isMixed_72 (yt_pops o24 (zi_call fo) (br_t ?_ ?_))
      · rw [← eP, ← hk]; exact Int32.le_refl _
      · rw [zp_f (fun w => ?_)] at h
        · exact h
        · rcases w.2 with w | ⟨j, hj, w⟩
          · exact nl w
          · exact hq j (by omega) w
    | succ d ih =>
      intro k hk hq
      refine uY_isMixed_72 (yt_pops o24 (zi_call fo) (br_f (nI_ge (by omega) (by omega)) ?_))
      refine y_needs hcl o24 hm (by omega) fo (fun w => hc (Or.inr w)) ?_
      have nd3 := zy_nd3 rf m (zh_op (gY_ops u) i) (gY_args u (192 + i)) k o24
      refine br_i (nI_eq (b := 0) (by omega) (by decide)) (fun w => ?_) (fun w => ?_)
      · refine nm_r (nI_1 k) (ih (k + 1) (by omega) (fun j hj => ?_))
        by_cases e : j = k
        · subst e; exact fun q => q.1 w
        · exact hq j (by omega)
      · have e5 : (12 : Int32) * nI i + 5 + nI (zh_ht (gY_heights u i)) - nI k = nI (12 * i + 5 + zh_ht (gY_heights u i) - k) := by
          rw [show (12 : Int32) = nI 12 from rfl, show (5 : Int32) = nI 5 from rfl, pk_mul, nI_add, nI_add, pk_sub (by omega)]
        refine ⟨by rw [e5]; exact vp_in_nI (by omega) (by decide), ?_⟩
        rw [e5, nI_clamp (by omega)]
        refine br_c (fun q => ?_) (fun q => ?_)
        · refine nm_r (nI_1 k) (ih (k + 1) (by omega) (fun j hj => ?_))
          by_cases e : j = k
          · subst e; exact fun r => r.2 q
          · exact hq j (by omega)
        · rw [zp_t ⟨h0, Or.inr ⟨k, by omega, w, q⟩⟩] at h
          exact h
  refine br_i (nI_eq (b := 2) (by omega) (by decide)) (fun w => ?_) (fun w => ?_)
  · obtain ⟨j, hj, ej⟩ := zi_fj fo (show zi_lim (zh_op (gY_ops u) i) = 6 by rw [w]; rfl) (by decide)
    have e12 : (12 : Int32) * nI i + nI j = nI (12 * i + j) := by rw [show (12 : Int32) = nI 12 from rfl, pk_mul, nI_add]
    have ec : (12 * nI i + gY_args u (192 + i)).toNatClampNeg = 12 * i + (gY_args u (192 + i)).toNatClampNeg := by
      rw [ej, e12, nI_clamp (by omega), nI_clamp (by omega)]
    have v288 : vp_in (12 * nI i + gY_args u (192 + i)) 288 := by rw [ej, e12]; exact vp_in_nI (by omega) (by decide)
    refine ⟨v288, ?_⟩
    rw [ec]
    refine br_c (fun q => ⟨_, lp (fun r => r.2.1 q) _ 0 (Nat.zero_add _) (fun j hj => absurd hj (by omega))⟩) (fun q => ⟨v288, br_c (fun q2 => ⟨_, lp (fun r => r.2.2 q2) _ 0 (Nat.zero_add _) (fun j hj => absurd hj (by omega))⟩) (fun q2 => ?_)⟩)
    rw [zp_t ⟨h0, Or.inl ⟨w, q, q2⟩⟩] at h
    exact h
  · exact ⟨_, lp (fun r => w r.1) _ 0 (Nat.zero_add _) (fun j hj => absurd hj (by omega))⟩
theorem y_mixed132 {post : Int32 → SY → Prop} {u : SY} {fc rf : Nat → Int32} {n m : Nat} (hcl : zy_cls u fc rf) (hm : m < 8) (env : zy_env (gY_ops u) (gY_args u) (gY_from u) (gY_to u) (gY_goal u) (gY_heights u) (gY_up u) fc n) :
  ∀ d i, i + d = n → post (zf (zf_kY rf (gY_ops u) (gY_args u) (gY_heights u) (gY_kinds u) m) d i) u → kY_mixed_132 post (nI m) (nI n) (d + 1) (nI i) u := by
  have hn := env.1.1
  intro d
  induction d with
  | zero =>
    intro i hi hp
    have : i = n := by omega
    subst this
    exact uY_mixed_132 (br_t (Int32.le_refl _) hp)
  | succ d ih =>
    intro i hi hp
    refine uY_mixed_132 (br_f (nI_ge (by omega) (by omega)) ⟨vp_in_nI (by omega) (by decide), ?_⟩)
    rw [nI_clamp (by omega)]
    refine br_c (fun z => ?_) (fun z => y_isMixed hcl hm (by omega) env z (zp_br (fun w => ?_) (fun w => ?_)))
    · rw [zf_f (fun w => w.1 z)] at hp
      exact nm_r (nI_1 i) (ih (i + 1) (by omega) hp)
    · rw [zf_f w] at hp
      exact nm_r (nI_1 i) (ih (i + 1) (by omega) hp)
    · rw [zf_t w] at hp
      exact hp
theorem y_mixed95 {post : Int32 → SY → Prop} {J : Int32 → SY → Prop} {u : SY} {fc rf : Nat → Int32} {n m : Nat} (hcl : zy_cls u fc rf) (env : zy_env (gY_ops u) (gY_args u) (gY_from u) (gY_to u) (gY_goal u) (gY_heights u) (gY_up u) fc n)
  {C : (Nat → Nat → Nat → Prop) → Prop} (eC : C = zy_C rf (gY_ops u) (gY_args u) (gY_from u) (gY_to u) (gY_goal u) (gY_heights u) n m) {L : (Nat → Nat → Nat → Prop) → Nat → Prop} (eL : L = zy_cl rf (gY_ops u) (gY_args u) (gY_from u) (gY_to u) (gY_goal u) (gY_heights u) n) {K0 : Nat → Int32}
  (hJ : ∀ (K b : Nat → Int32) (hh : Int32) (c : Prop), zy_lo C n K → (∀ k c, bt (K0 k) c = true → bt (K k) c = true) → (c → zs_m 3 288 K0 < zs_m 3 288 K) → (¬ c → ∀ i, i < n → gY_heights u i ≠ 0 → L (zy_bits K) i) → J (zp c) (sY_height_kinds_behind hh K b u)) :
  ∀ d i K b hh c, i + d = n → zy_lo C n K → (∀ k c, bt (K0 k) c = true → bt (K k) c = true) → zs_m 3 288 K0 ≤ zs_m 3 288 K → (c → zs_m 3 288 K0 < zs_m 3 288 K) → (¬ c → K = K0 ∧ ∀ k, k < i → gY_heights u k ≠ 0 → L (zy_bits K0) k) → kY_mixed_95 post J (nI m) (nI n) (d + 1) (zp c) (nI i) (sY_height_kinds_behind hh K b u) := by
  have hn := env.1.1
  intro d
  induction d with
  | zero =>
    intro i K b hh c hi lo hm hle hc hk
    have : i = n := by omega
    subst this
    refine uY_mixed_95 (br_t (Int32.le_refl _) (hJ K b hh c lo hm hc (fun z => ?_)))
    obtain ⟨rfl, k⟩ := hk z
    exact k
  | succ d ih =>
    intro i K b hh c hi lo hm hle hc hk
    refine uY_mixed_95 (br_f (nI_ge (by omega) (by omega)) ⟨vp_in_nI (by omega) (by decide), ?_⟩)
    rw [nI_clamp (by omega)]
    refine br_c (fun z => ?_) (fun z => ?_)
    · refine nm_r (nI_1 i) (ih (i + 1) K b hh c (by omega) lo hm hle hc (fun w => ?_))
      obtain ⟨rfl, k⟩ := hk w
      refine ⟨rfl, fun j hj h0 => ?_⟩
      by_cases e : j = i
      · subst e; exact absurd z h0
      · exact k j (by omega) h0
    · have z : gY_heights u i ≠ 0 := z
      refine y_passes (u := sY_height_kinds_behind hh K b u) (m := m) hcl (by omega) env z eC eL lo (fun K' b' hh' c' sp => nm_r (zp_or _ _) (nm_r (nI_1 i) ?_))
      rw [sY_kbh]
      obtain ⟨lo', l, g, k', mo⟩ := sp
      have g : zs_m 3 288 K ≤ zs_m 3 288 K' := g
      have mo' : ∀ k c, bt (K0 k) c = true → bt (K' k) c = true := fun k c w => mo k c (hm k c w)
      refine ih (i + 1) K' b' hh' (c ∨ c') (by omega) lo' mo' (by omega) (fun w => ?_) (fun w => ?_)
      · rcases w with w | w
        · have := hc w; omega
        · have l : zs_m 3 288 K < zs_m 3 288 K' := l w
          omega
      · obtain ⟨e1, k1⟩ := k' (fun q => w (Or.inr q))
        have e1 : K' = K := e1
        subst e1
        obtain ⟨rfl, k⟩ := hk (fun q => w (Or.inl q))
        refine ⟨rfl, fun j hj h0 => ?_⟩
        by_cases e : j = i
        · subst e; exact k1
        · exact k j (by omega) h0
/-- what Y's kinds are at the end -/
def zy_F (rf O A F T G a : Nat → Int32) (n m : Nat) (K : Nat → Int32) : Prop := zy_C rf O A F T G a n m (zy_bits K) ∧ zy_lo (zy_C rf O A F T G a n m) n K
theorem y_mixed86 {post : Int32 → SY → Prop} {u : SY} {fc rf : Nat → Int32} {n m : Nat} (hcl : zy_cls u fc rf) (hm : m < 8) (env : zy_env (gY_ops u) (gY_args u) (gY_from u) (gY_to u) (gY_goal u) (gY_heights u) (gY_up u) fc n)
  {C : (Nat → Nat → Nat → Prop) → Prop} (eC : C = zy_C rf (gY_ops u) (gY_args u) (gY_from u) (gY_to u) (gY_goal u) (gY_heights u) n m)
  (h : ∀ K b hh, C (zy_bits K) → zy_lo C n K → post (zf (zf_kY rf (gY_ops u) (gY_args u) (gY_heights u) K m) n 0) (sY_height_kinds_behind hh K b u)) :
  ∀ d K b hh c, 864 - zs_m 3 288 K < d + 1 → zy_lo C n K → (∀ e, e < 6 → ∀ c, c < 3 → bt (nI (zy_in m e)) c = true → bt (K e) c = true) → (¬ c → ∀ i, i < n → gY_heights u i ≠ 0 → zy_cl rf (gY_ops u) (gY_args u) (gY_from u) (gY_to u) (gY_goal u) (gY_heights u) n (zy_bits K) i) → kY_mixed_86 post (nI m) (nI n) (d + 2) (zp c) (sY_height_kinds_behind hh K b u) := by
  have done : ∀ d K b hh (c : Prop), ¬ c → zy_lo C n K → (∀ e, e < 6 → ∀ c, c < 3 → bt (nI (zy_in m e)) c = true → bt (K e) c = true) → (∀ i, i < n → gY_heights u i ≠ 0 → zy_cl rf (gY_ops u) (gY_args u) (gY_from u) (gY_to u) (gY_goal u) (gY_heights u) n (zy_bits K) i) → kY_mixed_86 post (nI m) (nI n) (d + 1) (zp c) (sY_height_kinds_behind hh K b u) := by
    intro d K b hh c nc lo h0 hk
    refine uY_mixed_86 (zp_br (fun _ => ⟨n + 1, y_mixed132 (u := sY_height_kinds_behind hh K b u) hcl hm env n 0 (by omega) (h K b hh ?_ lo)⟩) (fun z => absurd z nc))
    rw [eC]
    refine ⟨fun e he c hc q => ?_, hk⟩
    have := h0 e he c hc q
    show bt (K (12 * 0 + e)) c = true
    rw [show 12 * 0 + e = e by omega]; exact this
  have step : ∀ d K b hh (c : Prop), c → zy_lo C n K → (∀ K' b' hh' c', zy_lo C n K' → (∀ k c, bt (K k) c = true → bt (K' k) c = true) → (c' → zs_m 3 288 K < zs_m 3 288 K') → (¬ c' → ∀ i, i < n → gY_heights u i ≠ 0 → zy_cl rf (gY_ops u) (gY_args u) (gY_from u) (gY_to u) (gY_goal u) (gY_heights u) n (zy_bits K') i) → kY_mixed_86 post (nI m) (nI n) d (zp c') (sY_height_kinds_behind hh' K' b' u)) → kY_mixed_86 post (nI m) (nI n) (d + 1) (zp c) (sY_height_kinds_behind hh K b u) := by
    intro d K b hh c hc lo nx
    refine uY_mixed_86 (zp_br (fun z => absurd hc z) (fun _ => ?_))
    have q := y_mixed95 (post := post) (J := kY_mixed_86 post (nI m) (nI n) d) (u := u) (m := m) hcl env eC rfl (K0 := K) nx n 0 K b hh False (by omega) lo (fun _ _ b => b) (Nat.le_refl _) (fun k => k.elim) (fun _ => ⟨rfl, fun k hk => absurd hk (by omega)⟩)
    rw [zp_f (fun k => k)] at q
    exact ⟨_, q⟩
  intro d
  induction d with
  | zero =>
    intro K b hh c hd lo h0 hk
    by_cases hc : c
    · refine step 1 K b hh c hc lo (fun K' b' hh' c' lo' mo l k => ?_)
      have nc : ¬ c' := fun w => by
        have := l w
        have := zs_mub 3 288 K'
        omega
      exact done 0 K' b' hh' c' nc lo' (fun e he c hc q => mo e c (h0 e he c hc q)) (k nc)
    · exact done 1 K b hh c hc lo h0 (hk hc)
  | succ d ih =>
    intro K b hh c hd lo h0 hk
    by_cases hc : c
    · refine step (d + 2) K b hh c hc lo (fun K' b' hh' c' lo' mo l k => ?_)
      by_cases nc : c'
      · refine ih K' b' hh' c' ?_ lo' (fun e he c hc q => mo e c (h0 e he c hc q)) k
        have := l nc
        have := zs_mub 3 288 K'
        omega
      · exact done (d + 1) K' b' hh' c' nc lo' (fun e he c hc q => mo e c (h0 e he c hc q)) (k nc)
    · exact done (d + 2) K b hh c hc lo h0 (hk hc)
theorem zy_in7 : ∀ m, m < 8 → ∀ e, e < 6 → zy_in m e < 8 := by decide
theorem zy_small : ∀ k, k < 8 → ∀ c, c < 32 → 3 ≤ c → bt (nI k) c = false := by decide
theorem y_mixed {post : Int32 → SY → Prop} {u : SY} {fc rf : Nat → Int32} {n m : Nat} (hcl : zy_cls u fc rf) (hm : m < 8) (en : gY_length u 8 = nI n) (env : zy_env (gY_ops u) (gY_args u) (gY_from u) (gY_to u) (gY_goal u) (gY_heights u) (gY_up u) fc n)
  (h : ∀ K b hh, zy_F rf (gY_ops u) (gY_args u) (gY_from u) (gY_to u) (gY_goal u) (gY_heights u) n m K → post (zf (zf_kY rf (gY_ops u) (gY_args u) (gY_heights u) K m) n 0) (sY_height_kinds_behind hh K b u)) : wpY_mixed post u (nI m) := by
  have hn := env.1.1
  have hn0 := env.1.2.1
  have l33 : ∀ d k K, k + d = 6 → (∀ j, j < 12 * n → j < k → K j = nI (zy_in m j)) → (∀ j, j < 12 * n → k ≤ j → K j = 0) → kY_mixed_33 post (nI m) (nI n) (d + 1) (nI k) (sY_kinds K u) := by
    intro d
    induction d with
    | zero =>
      intro k K hk h1 h2
      have : k = 6 := by omega
      subst this
      refine uY_mixed_33 (br_t (by decide) ⟨866, ?_⟩)
      have lo : zy_lo (zy_C rf (gY_ops u) (gY_args u) (gY_from u) (gY_to u) (gY_goal u) (gY_heights u) n m) n K := by
        constructor
        · intro Z hZ i hi e he c hc b
          by_cases w : 12 * i + e < 6
          · have : i = 0 := by omega
            subst this
            rw [h1 _ (by omega) w, show 12 * 0 + e = e by omega] at b
            exact hZ.1 e (by omega) c hc b
          · rw [h2 _ (by omega) (by omega), b_0] at b
            exact absurd b (by decide)
        · intro i hi e he c c1 c2
          by_cases w : 12 * i + e < 6
          · rw [h1 _ (by omega) w]
            exact zy_small _ (zy_in7 m hm _ w) c c2 c1
          · rw [h2 _ (by omega) (by omega), b_0]
      have q := y_mixed86 (post := post) (u := u) (m := m) hcl hm env rfl (fun K b hh h1 h2 => h K b hh ⟨h1, h2⟩) 864 K (gY_behind u) (gY_height u) True (by omega) lo (fun e he c hc b => by rw [h1 e (by omega) he]; exact b) (fun k => absurd trivial k)
      rw [zp_t trivial] at q
      exact q
    | succ d ih =>
      intro k K hk h1 h2
      have v288 : vp_in (nI k) 288 := vp_in_nI (by omega) (by decide)
      have go : ∀ x : Int32, x = nI (zy_in m k) → kY_mixed_33 post (nI m) (nI n) (d + 1) (nI (k + 1)) (sY_kinds (upd K (nI k).toNatClampNeg x) (sY_kinds K u)) := by
        intro x hx
        show kY_mixed_33 post (nI m) (nI n) (d + 1) (nI (k + 1)) (sY_kinds (upd K (nI k).toNatClampNeg x) u)
        rw [nI_clamp (by omega)]
        refine ih (k + 1) _ (by omega) (fun j hj hk => ?_) (fun j hj hk => ?_)
        · by_cases w : j = k
          · subst w; rw [pk_us, hx]
          · rw [pk_un w]; exact h1 j hj (by omega)
        · rw [pk_un (by omega)]; exact h2 j hj (by omega)
      have tk : zt_takes m ≤ 2 := by unfold zt_takes; (repeat' split) <;> omega
      refine uY_mixed_33 (br_f (nI_ge (b := 6) (by omega) (by decide)) (yt_takes hm ?_))
      refine br_i (nI_ltI (by omega) (by omega)) (fun w => ?_) (fun w => ?_)
      · have e1 : ¬ zt_takes m ≤ k := by omega
        refine br_i (nI_ltI (b := 2) (by omega) (by decide)) (fun w1 => ⟨v288, nm_e (nm_r (nI_1 k) (go 1 ?_))⟩) (fun w1 => ?_)
        · unfold zy_in; rw [if_neg e1, if_pos w1]; rfl
        · refine br_i (nI_leI (a := 6) (by decide) (by omega)) (fun w2 => ⟨v288, nm_e (nm_r (nI_1 k) (go 2 ?_))⟩) (fun w2 => ?_)
          · unfold zy_in; rw [if_neg e1, if_neg w1, if_pos w2]; rfl
          · refine br_i (nI_eq (b := 1) (by omega) (by decide)) (fun w3 => ⟨v288, nm_e (nm_r (nI_1 k) (go 1 ?_))⟩) (fun w3 => ⟨v288, nm_e (nm_r (nI_1 k) (go 2 ?_))⟩)
            · unfold zy_in; rw [if_neg e1, if_neg w1, if_neg w2, if_pos w3]; rfl
            · unfold zy_in; rw [if_neg e1, if_neg w1, if_neg w2, if_neg w3]; rfl
      · refine ⟨v288, nm_e (nm_r (nI_1 k) (go 4 ?_))⟩
        unfold zy_in; rw [if_pos (by omega)]; rfl
  have l10 : ∀ d k K, k + d = 12 * n → (∀ j, j < k → K j = 0) → kY_mixed_10 post (nI m) (nI n) (d + 1) (nI k) (sY_kinds K u) := by
    have e12 : (12 : Int32) * nI n = nI (12 * n) := by rw [show (12 : Int32) = nI 12 from rfl, pk_mul]
    intro d
    induction d with
    | zero =>
      intro k K hk h1
      have : k = 12 * n := by omega
      subst this
      refine uY_mixed_10 (br_t (by rw [e12]; exact Int32.le_refl _) ⟨7, l33 6 0 K rfl (fun j _ hj => absurd hj (by omega)) (fun j hj _ => h1 j hj)⟩)
    | succ d ih =>
      intro k K hk h1
      refine uY_mixed_10 (br_f (by rw [e12]; exact nI_ge (by omega) (by omega)) ⟨vp_in_nI (by omega) (by decide), nm_e (nm_r (nI_1 k) ?_)⟩)
      show kY_mixed_10 post (nI m) (nI n) (d + 1) (nI (k + 1)) (sY_kinds (upd K (nI k).toNatClampNeg 0) u)
      rw [nI_clamp (by omega)]
      refine ih (k + 1) _ (by omega) (fun j hj => ?_)
      by_cases w : j = k
      · subst w; exact pk_us
      · rw [pk_un w]; exact h1 j (by omega)
  exact upY_mixed (nm_r en ⟨_, l10 (12 * n) 0 (gY_kinds u) (by omega) (fun j hj => absurd hj (by omega))⟩)
