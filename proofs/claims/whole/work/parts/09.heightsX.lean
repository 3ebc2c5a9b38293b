/-! X's heights -/
theorem sX_hh (a b : Nat → Int32) (u : SX) : sX_heights a (sX_heights b u) = sX_heights a u := rfl
theorem sX_gh (a : Nat → Int32) (u : SX) : gX_heights (sX_heights a u) = a := rfl
theorem sY_hh (a b : Nat → Int32) (u : SY) : sY_heights a (sY_heights b u) = sY_heights a u := rfl
theorem sY_gh (a : Nat → Int32) (u : SY) : gY_heights (sY_heights a u) = a := rfl
theorem x_fits {post : Int32 → Prop} {i P Q : Nat} (hi : i < 100) (hP : P < 100) (hQ : Q < 100) (h : post (zp (P ≤ i ∧ i - P + Q ≤ 6))) : wpX_fits post (nI i) (nI P) (nI Q) := by
  refine br_i (nI_ltI (by omega) (by omega)) (fun z => ?_) (fun z => ?_)
  · rw [zp_f (fun w => by omega)] at h; exact h
  · rw [pk_sub (by omega), nI_add]
    refine br_i (nI_ltI (a := 6) (by decide) (by omega)) (fun w => ?_) (fun w => ?_)
    · rw [zp_f (fun k => by omega)] at h; exact h
    · rw [zp_t ⟨by omega, by omega⟩] at h; exact h
/-- what the heights in x become -/
def zh_bv (x : Int32) (P Q m : Nat) (y : Int32) : Prop := ∀ k, k < 32 → (bt y k = true ↔ ∃ h, h < m ∧ bt x h = true ∧ P ≤ h ∧ h - P + Q ≤ 6 ∧ k = h - P + Q)
theorem zh_bv0 {x : Int32} {P Q : Nat} : zh_bv x P Q 0 0 := by
  intro k hk
  rw [b_0]
  constructor
  · intro z; exact absurd z (by decide)
  · rintro ⟨h, hh, _⟩; omega
theorem zh_bvs0 {x : Int32} {P Q m : Nat} {y : Int32} (h : zh_bv x P Q m y) (z : ¬ (bt x m = true ∧ P ≤ m ∧ m - P + Q ≤ 6)) : zh_bv x P Q (m + 1) y := by
  intro k hk
  rw [h k hk]
  constructor
  · rintro ⟨j, hj, w⟩; exact ⟨j, by omega, w⟩
  · rintro ⟨j, hj, w1, w2, w3, w4⟩
    by_cases e : j = m
    · subst e; exact absurd ⟨w1, w2, w3⟩ z
    · exact ⟨j, by omega, w1, w2, w3, w4⟩
theorem zh_bvs1 {x : Int32} {P Q m : Nat} {y : Int32} (h : zh_bv x P Q m y) (z : bt x m = true ∧ P ≤ m ∧ m - P + Q ≤ 6) : zh_bv x P Q (m + 1) (y ||| ((1 : Int32) <<< (nI (m - P + Q) &&& 31))) := by
  intro k hk
  rw [b_or, zb_tp _ (by omega) _ hk, Bool.or_eq_true_iff, h k hk, decide_eq_true_iff]
  constructor
  · rintro (⟨j, hj, w⟩ | rfl)
    · exact ⟨j, by omega, w⟩
    · exact ⟨m, by omega, z.1, z.2.1, z.2.2, rfl⟩
  · rintro ⟨j, hj, w1, w2, w3, w4⟩
    by_cases e : j = m
    · subst e; exact Or.inr w4
    · exact Or.inl ⟨j, by omega, w1, w2, w3, w4⟩
theorem x_behind5 {post : Int32 → Prop} {x : Int32} {P Q : Nat} (hP : P < 100) (hQ : Q < 100) (h : ∀ y, zh_bv x P Q 7 y → post y) : ∀ d i acc, i + d = 7 → zh_bv x P Q i acc → wX_heightsBehind_5 post x (nI P) (nI Q) (d + 1) acc (nI i) := by
  intro d
  induction d with
  | zero =>
    intro i acc hi hb
    have : i = 7 := by omega
    subst this
    exact br_t (by decide) (h acc hb)
  | succ d ih =>
    intro i acc hi hb
    refine br_f (nI_nlt (a := 6) (b := i) (by omega) (by decide)) ?_
    refine br_i (zb_bit x (j := i) (by omega)) (fun z => ?_) (fun z => ?_)
    · refine nm_r (nI_1 i) (ih (i + 1) acc (by omega) (zh_bvs0 hb (fun w => ?_)))
      rw [w.1] at z; exact absurd z (by decide)
    · have z : bt x i = true := by simpa using z
      refine x_fits (by omega) hP hQ (zp_br (fun w => ?_) (fun w => ?_))
      · exact nm_r (nI_1 i) (ih (i + 1) acc (by omega) (zh_bvs0 hb (fun k => w k.2)))
      · refine nm_e (nm_r (nI_1 i) ?_)
        rw [pk_sub w.1, nI_add]
        exact ih (i + 1) _ (by omega) (zh_bvs1 hb ⟨z, w⟩)
theorem x_behind {post : Int32 → Prop} {x : Int32} {P Q : Nat} (hP : P < 100) (hQ : Q < 100) (h : ∀ y, zh_bv x P Q 7 y → post y) : wpX_heightsBehind post x (nI P) (nI Q) :=
  ⟨8, x_behind5 hP hQ h 7 0 0 rfl zh_bv0⟩
theorem x_addH {post : Int32 → SX → Prop} {u : SX} {n t : Nat} {x : Int32} (hn : n ≤ 24) (en : gX_lengths u 8 = nI n) (ht : t ≤ 24) (h : post (zp (zh_ch n (gX_heights u) t x)) (sX_heights (zh_ad n (gX_heights u) t x) u)) : wpX_addHeights post u (nI t) x := by
  refine upX_addHeights ?_
  rw [en]
  refine br_i (nI_ltI (by omega) (by omega)) (fun z => ?_) (fun z => ?_)
  · have hi : vp_in (nI t) 24 := vp_in_nI (by omega) (by decide)
    refine ⟨hi, nm_e ⟨hi, nm_e ⟨hi, ?_⟩⟩⟩
    rw [nI_clamp (by omega), pk_us]
    unfold zh_ad zh_ch at h
    rw [if_pos z] at h
    by_cases w : gX_heights u t ||| x = gX_heights u t
    · rw [zp_f (fun k => k.2 w)] at h
      exact br_t w h
    · rw [zp_t ⟨z, w⟩] at h
      exact br_f w h
  · unfold zh_ad zh_ch at h
    rw [if_neg z, zp_f (fun k => z k.1)] at h
    exact h
theorem x_isCaught {post : Int32 → Prop} {u : SX} {r : Nat} {p : Int32} (hr : r < 9) (h : post (zp (zh_cg (gX_catchFrom u) (gX_catchTo u) r p))) : wpX_isCaught post u (nI r) p := by
  have hi : vp_in (nI r) 9 := vp_in_nI hr (by decide)
  refine upX_isCaught ⟨hi, ?_⟩
  rw [nI_clamp (by omega)]
  refine br_c (fun z => ?_) (fun z => ⟨hi, br_c (fun w => ?_) (fun w => ?_)⟩)
  · rw [zp_f (fun k => k.1 z)] at h; exact h
  · rw [zp_f (fun k => k.2 w)] at h; exact h
  · rw [zp_t ⟨z, w⟩] at h; exact h
/-- the third addition, at the CATCHER -/
theorem x_sp102 {post : Int32 → SX → Prop} {u : SX} {n i : Nat} {c : Prop} (hn : n ≤ 24) (en : gX_lengths u 8 = nI n) (hg : zh_cg (gX_catchFrom u) (gX_catchTo u) 8 (nI i) → ∃ g, g ≤ 24 ∧ gX_catchGoal u 8 = nI g)
  (h : ∀ (b : Nat → Int32) (c3 : Prop), ((zh_cg (gX_catchFrom u) (gX_catchTo u) 8 (nI i) ∧ b = zh_ad n (gX_heights u) (gX_catchGoal u 8).toNatClampNeg 2 ∧ (c3 ↔ zh_ch n (gX_heights u) (gX_catchGoal u 8).toNatClampNeg 2)) ∨ (¬ zh_cg (gX_catchFrom u) (gX_catchTo u) 8 (nI i) ∧ b = gX_heights u ∧ ¬ c3)) → post (zp (c ∨ c3)) (sX_heights b u)) : kX_spreadHeights_102 post (nI i) (zp c) u := by
  refine uX_spreadHeights_102 (x_isCaught (r := 8) (by decide) (zp_br (fun z => ⟨zp_n _, ?_⟩) (fun z => ?_)))
  · have := h (gX_heights u) False (Or.inr ⟨z, rfl, fun w => w⟩)
    rw [zp_c (show (c ∨ False) ↔ c by simp)] at this
    exact this
  · obtain ⟨g, hg2, eg⟩ := hg z
    have hb := fun c3 hc => h _ c3 (Or.inl ⟨z, rfl, hc⟩)
    rw [eg, nI_clamp (by omega)] at hb
    rw [eg]
    refine x_addH hn en hg2 (zp_br (fun w => ⟨zp_n _, ?_⟩) (fun w => ?_))
    · have := hb _ Iff.rfl
      rw [zp_c (show (c ∨ _) ↔ c from ⟨fun k => k.elim id (fun k => absurd k w), Or.inl⟩)] at this
      exact this
    · have := hb _ Iff.rfl
      rw [zp_t (Or.inr w)] at this
      exact this
theorem x_spread {post : Int32 → SX → Prop} {u : SX} {n i : Nat} (hn : n ≤ 24) (hi : i < n) (en : gX_lengths u 8 = nI n) (ho : zi_ok (gX_ops u (192 + i)) (gX_operands u (192 + i))) (hg : zh_cg (gX_catchFrom u) (gX_catchTo u) 8 (nI i) → ∃ g, g ≤ 24 ∧ gX_catchGoal u 8 = nI g)
  {E : Nat → Nat → Nat → Nat → Prop} (eE : E = zh_E (gX_ops u) (gX_operands u) (gX_catchFrom u) (gX_catchTo u) (gX_catchGoal u) n) (hS : zh_S E n (gX_heights u))
  (h : ∀ (b : Nat → Int32) (c : Prop), zh_sp E n i (gX_heights u) b c → post (zp c) (sX_heights b u)) : wpX_spreadHeights post u (nI i) := by
  have v24 : vp_in (nI i) 24 := vp_in_nI (by omega) (by decide)
  refine upX_spreadHeights ⟨v24, ?_⟩
  rw [nI_clamp (by omega)]
  refine br_c (fun z => ?_) (fun z => ?_)
  · have := h (gX_heights u) False ⟨hS, fun _ _ b => b, fun k => k.elim, fun _ => ⟨rfl, fun h _ b => by rw [z, b_0] at b; exact absurd b (by decide)⟩⟩
    rw [zp_f (fun k => k)] at this
    exact this
  · have e192 : (192 : Int32) + nI i = nI (192 + i) := by rw [show (192 : Int32) = nI 192 from rfl, nI_add]
    have v216 : vp_in (192 + nI i) 216 := by rw [e192]; exact vp_in_nI (by omega) (by decide)
    refine ⟨v216, nm_e ⟨v216, nm_e ?_⟩⟩
    rw [e192, nI_clamp (by omega)]
    obtain ⟨o24, eo, fo⟩ := zi_of ho
    have eop : zh_op (gX_ops u) i = (gX_ops u (192 + i)).toNatClampNeg := rfl
    rw [← eop] at o24 eo fo
    rw [eo]
    have P2 := zt_pops2 (zh_op (gX_ops u) i) (gX_operands u (192 + i))
    have Q2 : zt_push (zh_op (gX_ops u) i) < 100 := by
      have : ∀ o, o < 24 → zt_push o < 100 := by decide
      exact this _ o24
    refine xt_pops o24 (zi_call fo) (xt_push o24 ⟨v24, x_behind (by omega) Q2 (fun y hy => xt_jump o24 ?_)⟩)
    -- the bits of y are sound wherever i leads
    have sy : ∀ j k, j < n → ((zt_jump (zh_op (gX_ops u) i) ∧ gX_operands u (192 + i) = nI j) ∨ (zt_fall (zh_op (gX_ops u) i) ∧ j = i + 1)) → k < 32 → bt y k = true → k < 7 ∧ zh_R E n j k := by
      intro j k hj w hk b
      obtain ⟨h, h7, b1, b2, b3, rfl⟩ := (hy k hk).mp b
      refine ⟨by omega, zh_Rs hi (hS i hi h (by omega) b1).2 ?_⟩
      rw [eE]
      exact ⟨hj, Or.inl ⟨b2, b3, rfl, w⟩⟩
    have jt : zt_jump (zh_op (gX_ops u) i) → ∃ t, t ≤ 24 ∧ gX_operands u (192 + i) = nI t := by
      intro w
      have : zi_lim (zh_op (gX_ops u) i) = 24 := by
        rcases w with w | w | w <;> rw [w] <;> rfl
      obtain ⟨j, hj, e⟩ := zi_fj fo this (by decide)
      exact ⟨j, by omega, e⟩
    have key : ∀ (a1 a2 a3 : Nat → Int32) (c1 c2 c3 : Prop),
        ((zt_jump (zh_op (gX_ops u) i) ∧ a1 = zh_ad n (gX_heights u) (gX_operands u (192 + i)).toNatClampNeg y ∧ (c1 ↔ zh_ch n (gX_heights u) (gX_operands u (192 + i)).toNatClampNeg y)) ∨ (¬ zt_jump (zh_op (gX_ops u) i) ∧ a1 = gX_heights u ∧ ¬ c1)) →
        ((zt_fall (zh_op (gX_ops u) i) ∧ a2 = zh_ad n a1 (i + 1) y ∧ (c2 ↔ zh_ch n a1 (i + 1) y)) ∨ (¬ zt_fall (zh_op (gX_ops u) i) ∧ a2 = a1 ∧ ¬ c2)) →
        ((zh_cg (gX_catchFrom u) (gX_catchTo u) 8 (nI i) ∧ a3 = zh_ad n a2 (gX_catchGoal u 8).toNatClampNeg 2 ∧ (c3 ↔ zh_ch n a2 (gX_catchGoal u 8).toNatClampNeg 2)) ∨ (¬ zh_cg (gX_catchFrom u) (gX_catchTo u) 8 (nI i) ∧ a3 = a2 ∧ ¬ c3)) → zh_sp E n i (gX_heights u) a3 (c1 ∨ c2 ∨ c3) := by
      intro a1 a2 a3 c1 c2 c3 e1 e2 e3
      refine zh_three hn hS ?_ ?_ ?_ ?_ e1 e2 e3
      · intro w ht k hk b
        obtain ⟨t, ht2, et⟩ := jt w
        rw [et, nI_clamp (by omega)] at ht ⊢
        exact sy t k ht (Or.inl ⟨w, et⟩) hk b
      · intro w ht k hk b
        exact sy (i + 1) k ht (Or.inr ⟨w, rfl⟩) hk b
      · intro w ht k hk b
        obtain ⟨g, hg2, eg⟩ := hg w
        have k1 : k = 1 := by
          have : ∀ k, k < 32 → bt 2 k = true → k = 1 := by decide
          exact this k hk b
        subst k1
        obtain ⟨q, hq, bq⟩ := zb_ne z
        rw [b_0] at bq
        have bq : bt (gX_heights u i) q = true := by simpa using bq
        refine ⟨by decide, zh_Rs hi (hS i hi q hq bq).2 ?_⟩
        rw [eE]
        rw [eg, nI_clamp (by omega)] at ht ⊢
        exact ⟨ht, Or.inr ⟨w, eg, rfl⟩⟩
      · intro h h7 b j k e
        rw [eE] at e
        obtain ⟨hj, ⟨q1, q2, q3, ⟨q4, q5⟩ | ⟨q4, q5⟩⟩ | ⟨q1, q2, q3⟩⟩ := e
        · refine ⟨hj, Or.inl ⟨q4, by rw [q5, nI_clamp (by omega)], ?_⟩⟩
          have k7 : k < 32 := by omega
          exact (hy k k7).mpr ⟨h, h7, b, q1, q2, q3⟩
        · have k7 : k < 32 := by omega
          exact ⟨hj, Or.inr (Or.inl ⟨q4, q5, (hy k k7).mpr ⟨h, h7, b, q1, q2, q3⟩⟩)⟩
        · subst q3
          exact ⟨hj, Or.inr (Or.inr ⟨q1, by rw [q2, nI_clamp (by omega)], by decide⟩)⟩
    -- the second and third addition
    have next : ∀ (a1 : Nat → Int32) (c1 : Prop), ((zt_jump (zh_op (gX_ops u) i) ∧ a1 = zh_ad n (gX_heights u) (gX_operands u (192 + i)).toNatClampNeg y ∧ (c1 ↔ zh_ch n (gX_heights u) (gX_operands u (192 + i)).toNatClampNeg y)) ∨ (¬ zt_jump (zh_op (gX_ops u) i) ∧ a1 = gX_heights u ∧ ¬ c1)) → kX_spreadHeights_80 post (nI i) (nI (zh_op (gX_ops u) i)) y (zp c1) (sX_heights a1 u) := by
      intro a1 c1 e1
      refine uX_spreadHeights_80 (xt_fall o24 (zp_br (fun w => ?_) (fun w => ?_)))
      · refine x_sp102 (u := sX_heights a1 u) hn en hg (fun b c3 e3 => ?_)
        rw [sX_hh]
        have := h b _ (key a1 a1 b c1 False c3 e1 (Or.inr ⟨w, rfl, fun k => k⟩) e3)
        rw [zp_c (show (c1 ∨ False ∨ c3) ↔ (c1 ∨ c3) by simp)] at this
        exact this
      · rw [nI_1]
        refine x_addH (u := sX_heights a1 u) hn en (by omega) ?_
        rw [sX_hh, sX_gh]
        have fin : ∀ (c2 : Prop), (c2 ↔ zh_ch n a1 (i + 1) y) → kX_spreadHeights_102 post (nI i) (zp (c1 ∨ c2)) (sX_heights (zh_ad n a1 (i + 1) y) u) := by
          intro c2 hc2
          refine x_sp102 (u := sX_heights (zh_ad n a1 (i + 1) y) u) hn en hg (fun b c3 e3 => ?_)
          rw [sX_hh]
          have := h b _ (key a1 _ b c1 c2 c3 e1 (Or.inl ⟨w, rfl, hc2⟩) e3)
          rw [zp_c (show (c1 ∨ c2 ∨ c3) ↔ ((c1 ∨ c2) ∨ c3) from or_assoc.symm)] at this
          exact this
        have fin2 := fin _ Iff.rfl
        refine zp_br (fun q => ?_) (fun q => ?_)
        · rw [zp_c (show (c1 ∨ zh_ch n a1 (i + 1) y) ↔ c1 from ⟨fun k => k.elim id (fun k => absurd k q), Or.inl⟩)] at fin2
          exact fin2
        · rw [zp_t (Or.inr q)] at fin2
          exact fin2
    refine zp_br (fun w => ?_) (fun w => ?_)
    · have := next (gX_heights u) False (Or.inr ⟨w, rfl, fun k => k⟩)
      rw [zp_f (fun k => k)] at this
      exact this
    · obtain ⟨t, ht, et⟩ := jt w
      have q := fun c1 hc => next _ c1 (Or.inl ⟨w, rfl, hc⟩)
      rw [et, nI_clamp (by omega)] at q
      rw [et]
      exact x_addH hn en ht (q _ Iff.rfl)
theorem x_reach47 {post : SX → Prop} {J : Int32 → Int32 → SX → Prop} {u : SX} {n : Nat} {x2 : Int32} (hn : n ≤ 24) (en : gX_lengths u 8 = nI n) (ho : ∀ i, i < n → zi_ok (gX_ops u (192 + i)) (gX_operands u (192 + i))) (hg : ∀ i, zh_cg (gX_catchFrom u) (gX_catchTo u) 8 (nI i) → ∃ g, g ≤ 24 ∧ gX_catchGoal u 8 = nI g)
  {E : Nat → Nat → Nat → Nat → Prop} (eE : E = zh_E (gX_ops u) (gX_operands u) (gX_catchFrom u) (gX_catchTo u) (gX_catchGoal u) n) {a0 : Nat → Int32}
  (hJ : ∀ (a : Nat → Int32) (c : Prop), zh_S E n a → (∀ t h, bt (a0 t) h = true → bt (a t) h = true) → (c → zs_m 7 24 a0 < zs_m 7 24 a) → (¬ c → ∀ i, i < n → zh_K E a i) → J (zp c) (x2 + 1) (sX_heights a u)) :
  ∀ d i a c, i + d = n → zh_S E n a → (∀ t h, bt (a0 t) h = true → bt (a t) h = true) → (c → zs_m 7 24 a0 < zs_m 7 24 a) → (¬ c → a = a0 ∧ ∀ k, k < i → zh_K E a0 k) → kX_reachHeights_47 post J x2 (d + 1) (zp c) (nI i) (sX_heights a u) := by
  intro d
  induction d with
  | zero =>
    intro i a c hi hS hm hc hk
    have : i = n := by omega
    subst this
    refine uX_reachHeights_47 (br_t ?_ (nm_e (hJ a c hS hm hc (fun z => ?_))))
    · show gX_lengths u 8 ≤ nI i
      rw [en]; exact Int32.le_refl _
    · obtain ⟨rfl, k⟩ := hk z
      exact k
  | succ d ih =>
    intro i a c hi hS hm hc hk
    refine uX_reachHeights_47 (br_f ?_ ?_)
    · show ¬ gX_lengths u 8 ≤ nI i
      rw [en]; exact nI_ge (by omega) (by omega)
    · refine x_spread (u := sX_heights a u) hn (by omega) en (ho i (by omega)) (hg i) eE hS (fun b c' sp => ?_)
      rw [sX_hh]
      obtain ⟨Sb, mb, lb, kb⟩ := sp
      have hm' : ∀ t h, bt (a0 t) h = true → bt (b t) h = true := fun t h w => mb t h (hm t h w)
      refine zp_br (fun z => ?_) (fun z => ?_)
      · obtain ⟨rfl, kk⟩ := kb z
        refine nm_r (nI_1 i) (ih (i + 1) b c (by omega) Sb hm' hc (fun w => ?_))
        obtain ⟨rfl, k⟩ := hk w
        refine ⟨rfl, fun j hj => ?_⟩
        by_cases e : j = i
        · subst e; exact kk
        · exact k j (by omega)
      · have := ih (i + 1) b True (by omega) Sb hm' (fun _ => Nat.lt_of_le_of_lt (zs_mle (fun t _ j _ w => hm t j w)) (lb z)) (fun w => absurd trivial w)
        rw [zp_t trivial] at this
        exact nm_r (nI_1 i) this
theorem x_reach32 {post : SX → Prop} {u : SX} {n : Nat} (hn0 : 0 < n) (hn : n ≤ 24) (en : gX_lengths u 8 = nI n) (ho : ∀ i, i < n → zi_ok (gX_ops u (192 + i)) (gX_operands u (192 + i))) (hg : ∀ i, zh_cg (gX_catchFrom u) (gX_catchTo u) 8 (nI i) → ∃ g, g ≤ 24 ∧ gX_catchGoal u 8 = nI g)
  {E : Nat → Nat → Nat → Nat → Prop} (eE : E = zh_E (gX_ops u) (gX_operands u) (gX_catchFrom u) (gX_catchTo u) (gX_catchGoal u) n) (h : ∀ a, zh_F E n a → post (sX_heights a u)) :
  ∀ d p a c, p + d = 1000 → zh_S E n a → bt (a 0) 0 = true → (c → p ≤ zs_m 7 24 a) → (¬ c → ∀ i, i < n → zh_K E a i) → kX_reachHeights_32 post (d + 1) (zp c) (nI p) (sX_heights a u) := by
  have hE : ∀ i h j k, E i h j k → j < n ∧ k < 7 := by
    intro i h j k e; rw [eE] at e; exact zh_E7 e
  intro d
  induction d with
  | zero =>
    intro p a c hp hS h0 hc hk
    have : p = 1000 := by omega
    subst this
    have nc : ¬ c := fun z => by
      have := hc z
      have := zs_mub 7 24 a
      omega
    exact uX_reachHeights_32 (br_t (by decide) (h a (zh_fin hn0 hE hS h0 (hk nc))))
  | succ d ih =>
    intro p a c hp hS h0 hc hk
    refine uX_reachHeights_32 (br_f (nI_ge (b := 1000) (by omega) (by decide)) (zp_br (fun z => ?_) (fun z => ?_)))
    · exact h a (zh_fin hn0 hE hS h0 (hk z))
    · have q := x_reach47 (post := post) (J := kX_reachHeights_32 post (d + 1)) (x2 := nI p) (u := u) hn en ho hg eE (a0 := a) ?_ n 0 a False (by omega) hS (fun _ _ b => b) (fun k => k.elim) (fun _ => ⟨rfl, fun k hk => absurd hk (by omega)⟩)
      · rw [zp_f (fun k => k)] at q
        exact ⟨_, q⟩
      · intro a' c' S' m' l' k'
        rw [nI_1]
        refine ih (p + 1) a' c' (by omega) S' (m' 0 0 h0) (fun w => ?_) k'
        have := l' w
        have := hc z
        omega
theorem x_reachHeights {post : SX → Prop} {u : SX} {n : Nat} (hn0 : 0 < n) (hn : n ≤ 24) (en : gX_lengths u 8 = nI n) (ho : ∀ i, i < n → zi_ok (gX_ops u (192 + i)) (gX_operands u (192 + i))) (hg : ∀ i, zh_cg (gX_catchFrom u) (gX_catchTo u) 8 (nI i) → ∃ g, g ≤ 24 ∧ gX_catchGoal u 8 = nI g)
  {E : Nat → Nat → Nat → Nat → Prop} (eE : E = zh_E (gX_ops u) (gX_operands u) (gX_catchFrom u) (gX_catchTo u) (gX_catchGoal u) n) (h : ∀ a, zh_F E n a → post (sX_heights a u)) : wpX_reachHeights post u := by
  have z : ∀ d i a, i + d = 24 → (∀ t, t < i → a t = 0) → kX_reachHeights_2 post (d + 1) (nI i) (sX_heights a u) := by
    intro d
    induction d with
    | zero =>
      intro i a hi ha
      have : i = 24 := by omega
      subst this
      refine uX_reachHeights_2 (br_t (by decide) (nm_e ⟨1001, ?_⟩))
      have q := x_reach32 (post := post) (u := u) hn0 hn en ho hg eE h 1000 0 (upd a 0 1) True (by omega) ?_ ?_ (fun _ => Nat.zero_le _) (fun k => absurd trivial k)
      · rw [zp_t trivial] at q
        exact q
      · intro i hi k hk b
        by_cases e : i = 0
        · subst e
          rw [pk_us, zb_1 k hk] at b
          have : k = 0 := by simpa using b
          subst this
          exact ⟨by decide, zh_R0⟩
        · rw [pk_un e, ha i (by omega), b_0] at b
          exact absurd b (by decide)
      · rw [pk_us]; decide
    | succ d ih =>
      intro i a hi ha
      refine uX_reachHeights_2 (br_f (nI_ge (b := 24) (by omega) (by decide)) ⟨vp_in_nI (by omega) (by decide), nm_e (nm_r (nI_1 i) ?_)⟩)
      rw [nI_clamp (by omega)]
      refine ih (i + 1) (upd a i 0) (by omega) (fun t ht => ?_)
      by_cases e : t = i
      · subst e; exact pk_us
      · rw [pk_un e]; exact ha t (by omega)
  exact upX_reachHeights ⟨25, z 24 0 (gX_heights u) rfl (fun t ht => absurd ht (by omega))⟩
/-! the first instruction with a fault -/
noncomputable def zf (bad : Nat → Prop) : Nat → Nat → Int32
  | 0, _ => -1
  | d + 1, i => @ite Int32 (bad i) (Classical.propDecidable (bad i)) (nI i) (zf bad d (i + 1))
theorem zf_t {bad : Nat → Prop} {d i : Nat} (h : bad i) : zf bad (d + 1) i = nI i := if_pos h
theorem zf_f {bad : Nat → Prop} {d i : Nat} (h : ¬ bad i) : zf bad (d + 1) i = zf bad d (i + 1) := if_neg h
theorem zf_c {bad bad' : Nat → Prop} : ∀ d i, (∀ j, i ≤ j → j < i + d → (bad j ↔ bad' j)) → zf bad d i = zf bad' d i := by
  intro d
  induction d with
  | zero => intro i _; rfl
  | succ d ih =>
    intro i h
    have e := ih (i + 1) (fun j h1 h2 => h j (by omega) (by omega))
    by_cases z : bad i
    · rw [zf_t z, zf_t ((h i (by omega) (by omega)).mp z)]
    · rw [zf_f z, zf_f (fun w => z ((h i (by omega) (by omega)).mpr w)), e]
theorem zf_m {bad : Nat → Prop} : ∀ d i, i + d < 2 ^ 31 → (zf bad d i = -1 ∧ (∀ j, i ≤ j → j < i + d → ¬ bad j)) ∨ (∃ j, i ≤ j ∧ j < i + d ∧ zf bad d i = nI j) := by
  intro d
  induction d with
  | zero => intro i _; exact Or.inl ⟨rfl, fun j h1 h2 => absurd h2 (by omega)⟩
  | succ d ih =>
    intro i hi
    by_cases z : bad i
    · exact Or.inr ⟨i, by omega, by omega, zf_t z⟩
    · rw [zf_f z]
      rcases ih (i + 1) (by omega) with ⟨e, w⟩ | ⟨j, h1, h2, e⟩
      · refine Or.inl ⟨e, fun j h1 h2 => ?_⟩
        by_cases k : j = i
        · subst k; exact z
        · exact w j (by omega) (by omega)
      · exact Or.inr ⟨j, by omega, by omega, e⟩
/-- the height: the lowest bit of the first six, or 6 -/
def zh_ht (x : Int32) : Nat := if bt x 0 then 0 else if bt x 1 then 1 else if bt x 2 then 2 else if bt x 3 then 3 else if bt x 4 then 4 else if bt x 5 then 5 else 6
theorem zh_ht6 (x : Int32) : zh_ht x ≤ 6 := by
  unfold zh_ht
  repeat' split
  all_goals omega
theorem x_heightAt {post : Int32 → Prop} {u : SX} {i : Nat} (hi : i < 24) (h : post (nI (zh_ht (gX_heights u i)))) : wpX_heightAt post u (nI i) := by
  have st : ∀ (n k : Nat), k < 6 → (bt (gX_heights u i) k = true → post (nI k)) → (bt (gX_heights u i) k = false → kX_heightAt_2 post (nI i) n (nI (k + 1)) u) → kX_heightAt_2 post (nI i) (n + 1) (nI k) u := by
    intro n k hk p q
    refine uX_heightAt_2 (br_f (nI_ge (b := 6) hk (by decide)) ⟨vp_in_nI hi (by decide), ?_⟩)
    rw [nI_clamp (by omega)]
    refine br_i (zb_bit _ (j := k) (by omega)) (fun z => ?_) (fun z => ?_)
    · exact nm_r (nI_1 k) (q z)
    · exact p (by simpa using z)
  unfold zh_ht at h
  refine upX_heightAt ⟨7, st 6 0 (by decide) (fun z => ?_) (fun z => ?_)⟩
  · rw [if_pos z] at h; exact h
  rw [z] at h; simp only [Bool.false_eq_true, if_false] at h
  refine st 5 1 (by decide) (fun z => ?_) (fun z => ?_)
  · rw [if_pos z] at h; exact h
  rw [z] at h; simp only [Bool.false_eq_true, if_false] at h
  refine st 4 2 (by decide) (fun z => ?_) (fun z => ?_)
  · rw [if_pos z] at h; exact h
  rw [z] at h; simp only [Bool.false_eq_true, if_false] at h
  refine st 3 3 (by decide) (fun z => ?_) (fun z => ?_)
  · rw [if_pos z] at h; exact h
  rw [z] at h; simp only [Bool.false_eq_true, if_false] at h
  refine st 2 4 (by decide) (fun z => ?_) (fun z => ?_)
  · rw [if_pos z] at h; exact h
  rw [z] at h; simp only [Bool.false_eq_true, if_false] at h
  refine st 1 5 (by decide) (fun z => ?_) (fun z => ?_)
  · rw [if_pos z] at h; exact h
  rw [z] at h; simp only [Bool.false_eq_true, if_false] at h
  exact uX_heightAt_2 (br_t (by decide) h)
def zf_hX (O A : Nat → Int32) (n : Nat) (a : Nat → Int32) (i : Nat) : Prop :=
  a i ≠ 0 ∧ (a i &&& (a i - 1) ≠ 0 ∨ (zt_fall (zh_op O i) ∧ i + 1 = n) ∨ ¬ (zh_P O A i ≤ zh_ht (a i) ∧ zh_ht (a i) - zh_P O A i + zh_Q O i ≤ 6))
theorem x_hasHF {post : Int32 → Prop} {u : SX} {n i : Nat} (hn : n ≤ 24) (hi : i < n) (en : gX_lengths u 8 = nI n) (ho : zi_ok (gX_ops u (192 + i)) (gX_operands u (192 + i))) (h0 : gX_heights u i ≠ 0)
  (h : post (zp (zf_hX (gX_ops u) (gX_operands u) n (gX_heights u) i))) : wpX_hasHeightFault post u (nI i) := by
  have e192 : (192 : Int32) + nI i = nI (192 + i) := by rw [show (192 : Int32) = nI 192 from rfl, nI_add]
  have v216 : vp_in (192 + nI i) 216 := by rw [e192]; exact vp_in_nI (by omega) (by decide)
  have v24 : vp_in (nI i) 24 := vp_in_nI (by omega) (by decide)
  refine upX_hasHeightFault ⟨v216, nm_e ⟨v216, ?_⟩⟩
  rw [e192, nI_clamp (n := 192 + i) (by omega)]
  obtain ⟨o24, eo, fo⟩ := zi_of ho
  have eop : zh_op (gX_ops u) i = (gX_ops u (192 + i)).toNatClampNeg := rfl
  rw [← eop] at o24 eo fo
  rw [eo]
  have P2 := zt_pops2 (zh_op (gX_ops u) i) (gX_operands u (192 + i))
  have Q2 : zt_push (zh_op (gX_ops u) i) < 100 := by
    have : ∀ o, o < 24 → zt_push o < 100 := by decide
    exact this _ o24
  have H6 := zh_ht6 (gX_heights u i)
  refine xt_pops o24 (zi_call fo) (xt_push o24 (x_heightAt (by omega) ⟨v24, v24, ?_⟩))
  rw [nI_clamp (by omega)]
  have q89 : ∀ s l : Prop, (s ↔ gX_heights u i &&& (gX_heights u i - 1) ≠ 0) → (l ↔ (zt_fall (zh_op (gX_ops u) i) ∧ i + 1 = n)) → kX_hasHeightFault_89 post (nI (zt_pops (zh_op (gX_ops u) i) (gX_operands u (192 + i)))) (nI (zt_push (zh_op (gX_ops u) i))) (nI (zh_ht (gX_heights u i))) (zp s) (zp l) u := by
    intro s l hs hl
    refine uX_hasHeightFault_89 (zp_br (fun z => zp_br (fun w => ?_) (fun w => ?_)) (fun z => ?_))
    · refine x_fits (by omega) (by omega) Q2 (zp_br (fun k => ?_) (fun k => ?_))
      · rw [zp_t ⟨h0, Or.inr (Or.inr k)⟩] at h; exact h
      · rw [zp_f (fun j => ?_)] at h
        · exact h
        · rcases j.2 with j | j | j
          · exact z (hs.mpr j)
          · exact w (hl.mpr j)
          · exact j k
    · rw [zp_t ⟨h0, Or.inr (Or.inl (hl.mp w))⟩] at h; exact h
    · rw [zp_t ⟨h0, Or.inl (hs.mp z)⟩] at h; exact h
  have q62 : ∀ s : Prop, (s ↔ gX_heights u i &&& (gX_heights u i - 1) ≠ 0) → kX_hasHeightFault_62 post (nI i) (nI (zh_op (gX_ops u) i)) (nI (zt_pops (zh_op (gX_ops u) i) (gX_operands u (192 + i)))) (nI (zt_push (zh_op (gX_ops u) i))) (nI (zh_ht (gX_heights u i))) (zp s) u := by
    intro s hs
    refine uX_hasHeightFault_62 (xt_fall o24 (zp_br (fun z => ?_) (fun z => ?_)))
    · have := q89 s False hs ⟨fun k => k.elim, fun k => z k.1⟩
      rw [zp_f (fun k => k)] at this
      exact uX_hasHeightFault_88 this
    · rw [nI_1, en]
      refine br_i (nI_eq (by omega) (by omega)) (fun w => ?_) (fun w => ?_)
      · have := q89 s True hs ⟨fun _ => ⟨z, w⟩, fun _ => trivial⟩
        rw [zp_t trivial] at this
        exact this
      · have := q89 s False hs ⟨fun k => k.elim, fun k => w k.2⟩
        rw [zp_f (fun k => k)] at this
        exact uX_hasHeightFault_88 this
  refine br_c (fun z => ?_) (fun z => ?_)
  · have := q62 False ⟨fun k => k.elim, fun k => k z⟩
    rw [zp_f (fun k => k)] at this
    exact this
  · have := q62 True ⟨fun _ => z, fun _ => trivial⟩
    rw [zp_t trivial] at this
    exact this
theorem x_heightFault {post : Int32 → Prop} {u : SX} {n : Nat} (hn : n ≤ 24) (en : gX_lengths u 8 = nI n) (ho : ∀ i, i < n → zi_ok (gX_ops u (192 + i)) (gX_operands u (192 + i)))
  (h : post (zf (zf_hX (gX_ops u) (gX_operands u) n (gX_heights u)) n 0)) : wpX_heightFault post u := by
  have z : ∀ d i, i + d = n → post (zf (zf_hX (gX_ops u) (gX_operands u) n (gX_heights u)) d i) → kX_heightFault_2 post (d + 1) (nI i) u := by
    intro d
    induction d with
    | zero =>
      intro i hi hp
      have : i = n := by omega
      subst this
      refine uX_heightFault_2 (br_t ?_ hp)
      rw [en]; exact Int32.le_refl _
    | succ d ih =>
      intro i hi hp
      refine uX_heightFault_2 (br_f ?_ ⟨vp_in_nI (by omega) (by decide), ?_⟩)
      · rw [en]; exact nI_ge (by omega) (by omega)
      · rw [nI_clamp (by omega)]
        refine br_c (fun z => ?_) (fun z => ?_)
        · rw [zf_f (fun w => w.1 z)] at hp
          exact nm_r (nI_1 i) (ih (i + 1) (by omega) hp)
        · refine x_hasHF hn (by omega) en (ho i (by omega)) z (zp_br (fun w => ?_) (fun w => ?_))
          · rw [zf_f w] at hp
            exact nm_r (nI_1 i) (ih (i + 1) (by omega) hp)
          · rw [zf_t w] at hp
            exact hp
  exact upX_heightFault ⟨n + 1, z n 0 (by omega) h⟩
