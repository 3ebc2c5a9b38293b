/-! Y's heights -/
theorem zn_by {h P Q : Nat} (hp : P ≤ h) : nI h + (nI Q - nI P) = nI (h - P + Q) := by
  have e1 : nI h = nI (h - P) + nI P := by rw [nI_add]; exact congrArg nI (by omega)
  have e2 : nI (h - P + Q) = nI (h - P) + nI Q := (nI_add _ _).symm
  rw [e1, e2]
  generalize nI (h - P) = a
  generalize nI P = p
  generalize nI Q = q
  grind
theorem sY_hself (u : SY) : sY_heights (gY_heights u) u = u := rfl
theorem sX_hself (u : SX) : sX_heights (gX_heights u) u = u := rfl
theorem y_can {post : Int32 → Prop} {u : SY} {i h : Nat} (hi : i < 24) (hh : h < 100) (ho : zi_ok (gY_ops u (192 + i)) (gY_args u (192 + i))) (hp : post (zp (zh_P (gY_ops u) (gY_args u) i ≤ h ∧ h - zh_P (gY_ops u) (gY_args u) i + zh_Q (gY_ops u) i ≤ 6))) : wpY_can post u (nI i) (nI h) := by
  have e192 : (192 : Int32) + nI i = nI (192 + i) := by rw [show (192 : Int32) = nI 192 from rfl, nI_add]
  have v216 : vp_in (192 + nI i) 216 := by rw [e192]; exact vp_in_nI (by omega) (by decide)
  refine upY_can ⟨v216, v216, ?_⟩
  rw [e192, nI_clamp (by omega)]
  obtain ⟨o24, eo, fo⟩ := zi_of ho
  have eop : zh_op (gY_ops u) i = (gY_ops u (192 + i)).toNatClampNeg := rfl
  rw [← eop] at o24 eo fo
  rw [eo]
  have P2 := zt_pops2 (zh_op (gY_ops u) i) (gY_args u (192 + i))
  have Q2 : zt_push (zh_op (gY_ops u) i) < 100 := by
    have : ∀ o, o < 24 → zt_push o < 100 := by decide
    exact this _ o24
  refine yt_pops o24 (zi_call fo) ⟨?_, yt_push o24 ?_⟩
  · rw [← e192]; exact v216
  unfold zh_P zh_Q at hp
  refine br_i (nI_ltI (by omega) (by omega)) (fun z => ?_) (fun z => ?_)
  · rw [zp_f (fun w => by omega)] at hp; exact hp
  · rw [pk_sub (by omega), nI_add]
    refine br_i (nI_ltI (a := 6) (by decide) (by omega)) (fun w => ?_) (fun w => ?_)
    · rw [zp_f (fun k => by omega)] at hp; exact hp
    · rw [zp_t ⟨by omega, by omega⟩] at hp; exact hp
theorem y_reachH {post : Int32 → SY → Prop} {u : SY} {n t : Nat} {x : Int32} (hn : n ≤ 24) (en : gY_length u 8 = nI n) (ht : t ≤ 24) (h : post (zp (zh_ch n (gY_heights u) t x)) (sY_heights (zh_ad n (gY_heights u) t x) u)) : wpY_reach post u (nI t) x := by
  refine upY_reach ?_
  rw [en]
  refine br_i (nI_leI (by omega) (by omega)) (fun z => ?_) (fun z => ?_)
  · unfold zh_ad zh_ch at h
    rw [if_neg (by omega), zp_f (fun k => by omega)] at h
    exact h
  · have hi : vp_in (nI t) 24 := vp_in_nI (by omega) (by decide)
    refine ⟨hi, hi, ?_⟩
    rw [nI_clamp (by omega)]
    refine br_c (fun w => ?_) (fun w => ⟨hi, hi, nm_e ?_⟩)
    · rw [zh_adn (fun k => k.2 w), zp_f (fun k => k.2 w)] at h
      exact h
    · unfold zh_ad zh_ch at h
      rw [if_pos (by omega), zp_t ⟨by omega, w⟩] at h
      exact h
theorem y_isCaught {post : Int32 → Prop} {u : SY} {p : Int32} (h : post (zp (zh_cg (gY_from u) (gY_to u) 8 p))) : wpY_isCaught post u p := by
  refine upY_isCaught (br_c (fun z => ?_) (fun z => br_c (fun w => ?_) (fun w => ?_)))
  · rw [zp_f (fun k => k.1 z)] at h; exact h
  · rw [zp_f (fun k => k.2 w)] at h; exact h
  · rw [zp_t ⟨z, w⟩] at h; exact h
theorem y_leads {post : Int32 → SY → Prop} {u : SY} {n i : Nat} (hn : n ≤ 24) (hi : i < n) (en : gY_length u 8 = nI n) (ho : zi_ok (gY_ops u (192 + i)) (gY_args u (192 + i))) (hg : zh_cg (gY_from u) (gY_to u) 8 (nI i) → ∃ g, g ≤ 24 ∧ gY_goal u 8 = nI g)
  {E : Nat → Nat → Nat → Nat → Prop} (eE : E = zh_E (gY_ops u) (gY_args u) (gY_from u) (gY_to u) (gY_goal u) n) (hS : zh_S E n (gY_heights u))
  (h : ∀ (b : Nat → Int32) (c : Prop), zh_sp E n i (gY_heights u) b c → post (zp c) (sY_heights b u)) : wpY_leads post u (nI i) := by
  have v24 : vp_in (nI i) 24 := vp_in_nI (by omega) (by decide)
  have e192 : (192 : Int32) + nI i = nI (192 + i) := by rw [show (192 : Int32) = nI 192 from rfl, nI_add]
  have v216 : vp_in (192 + nI i) 216 := by rw [e192]; exact vp_in_nI (by omega) (by decide)
  refine upY_leads ⟨v216, nm_e ?_⟩
  rw [e192, nI_clamp (by omega)]
  obtain ⟨o24, eo, fo⟩ := zi_of ho
  have eop : zh_op (gY_ops u) i = (gY_ops u (192 + i)).toNatClampNeg := rfl
  rw [← eop] at o24 eo fo
  rw [eo]
  have P2 := zt_pops2 (zh_op (gY_ops u) i) (gY_args u (192 + i))
  have Q2 : zt_push (zh_op (gY_ops u) i) < 100 := by
    have : ∀ o, o < 24 → zt_push o < 100 := by decide
    exact this _ o24
  refine yt_push o24 ⟨by rw [← e192]; exact v216, yt_pops o24 (zi_call fo) (nm_e ⟨8, ?_⟩)⟩
  -- the loop over heights
  have lp : ∀ d k acc, k + d = 7 → zh_bv (gY_heights u i) (zh_P (gY_ops u) (gY_args u) i) (zh_Q (gY_ops u) i) k acc → kY_leads_37 post (nI i) (nI (zh_op (gY_ops u) i)) (nI (zt_push (zh_op (gY_ops u) i)) - nI (zt_pops (zh_op (gY_ops u) i) (gY_args u (192 + i)))) (d + 1) acc (nI k) u := by
    intro d
    induction d with
    | zero =>
      intro k y hk hy
      have : k = 7 := by omega
      subst this
      refine uY_leads_37 (br_t (by decide) ⟨v24, ?_⟩)
      rw [nI_clamp (by omega)]
      have sy : ∀ j k, j < n → ((zt_jump (zh_op (gY_ops u) i) ∧ gY_args u (192 + i) = nI j) ∨ (zt_fall (zh_op (gY_ops u) i) ∧ j = i + 1)) → k < 32 → bt y k = true → k < 7 ∧ zh_R E n j k := by
        intro j k hj w hk b
        obtain ⟨h, h7, b1, b2, b3, rfl⟩ := (hy k hk).mp b
        refine ⟨by omega, zh_Rs hi (hS i hi h (by omega) b1).2 ?_⟩
        rw [eE]
        exact ⟨hj, Or.inl ⟨b2, b3, rfl, w⟩⟩
      have jt : zt_jump (zh_op (gY_ops u) i) → ∃ t, t ≤ 24 ∧ gY_args u (192 + i) = nI t := by
        intro w
        have : zi_lim (zh_op (gY_ops u) i) = 24 := by
          rcases w with w | w | w <;> rw [w] <;> rfl
        obtain ⟨j, hj, e⟩ := zi_fj fo this (by decide)
        exact ⟨j, by omega, e⟩
      have key : ∀ (a1 a2 a3 : Nat → Int32) (c1 c2 c3 : Prop),
          (((gY_heights u i ≠ 0 ∧ zh_cg (gY_from u) (gY_to u) 8 (nI i)) ∧ a1 = zh_ad n (gY_heights u) (gY_goal u 8).toNatClampNeg 2 ∧ (c1 ↔ zh_ch n (gY_heights u) (gY_goal u 8).toNatClampNeg 2)) ∨ (¬ (gY_heights u i ≠ 0 ∧ zh_cg (gY_from u) (gY_to u) 8 (nI i)) ∧ a1 = gY_heights u ∧ ¬ c1)) →
          (((zt_jump (zh_op (gY_ops u) i) ∧ y ≠ 0) ∧ a2 = zh_ad n a1 (gY_args u (192 + i)).toNatClampNeg y ∧ (c2 ↔ zh_ch n a1 (gY_args u (192 + i)).toNatClampNeg y)) ∨ (¬ (zt_jump (zh_op (gY_ops u) i) ∧ y ≠ 0) ∧ a2 = a1 ∧ ¬ c2)) →
          (((zt_fall (zh_op (gY_ops u) i) ∧ y ≠ 0) ∧ a3 = zh_ad n a2 (i + 1) y ∧ (c3 ↔ zh_ch n a2 (i + 1) y)) ∨ (¬ (zt_fall (zh_op (gY_ops u) i) ∧ y ≠ 0) ∧ a3 = a2 ∧ ¬ c3)) → zh_sp E n i (gY_heights u) a3 (c1 ∨ c2 ∨ c3) := by
        intro a1 a2 a3 c1 c2 c3 e1 e2 e3
        refine zh_three hn hS ?_ ?_ ?_ ?_ e1 e2 e3
        · rintro ⟨z, w⟩ ht k hk b
          obtain ⟨g, hg2, eg⟩ := hg w
          have k1 : k = 1 := by
            have : ∀ k, k < 32 → bt 2 k = true → k = 1 := by decide
            exact this k hk b
          subst k1
          obtain ⟨q, hq, bq⟩ := zb_ne z
          rw [b_0] at bq
          have bq : bt (gY_heights u i) q = true := by simpa using bq
          refine ⟨by decide, zh_Rs hi (hS i hi q hq bq).2 ?_⟩
          rw [eE]
          rw [eg, nI_clamp (by omega)] at ht ⊢
          exact ⟨ht, Or.inr ⟨w, eg, rfl⟩⟩
        · rintro ⟨w, _⟩ ht k hk b
          obtain ⟨t, ht2, et⟩ := jt w
          rw [et, nI_clamp (by omega)] at ht ⊢
          exact sy t k ht (Or.inl ⟨w, et⟩) hk b
        · rintro ⟨w, _⟩ ht k hk b
          exact sy (i + 1) k ht (Or.inr ⟨w, rfl⟩) hk b
        · intro h h7 b j k e
          rw [eE] at e
          have ny : ∀ k, bt y k = true → y ≠ 0 := by
            intro k b e; rw [e, b_0] at b; exact absurd b (by decide)
          obtain ⟨hj, ⟨q1, q2, q3, ⟨q4, q5⟩ | ⟨q4, q5⟩⟩ | ⟨q1, q2, q3⟩⟩ := e
          · have k7 : k < 32 := by omega
            have bk := (hy k k7).mpr ⟨h, h7, b, q1, q2, q3⟩
            exact ⟨hj, Or.inr (Or.inl ⟨⟨q4, ny k bk⟩, by rw [q5, nI_clamp (by omega)], bk⟩)⟩
          · have k7 : k < 32 := by omega
            have bk := (hy k k7).mpr ⟨h, h7, b, q1, q2, q3⟩
            exact ⟨hj, Or.inr (Or.inr ⟨⟨q4, ny k bk⟩, q5, bk⟩)⟩
          · subst q3
            refine ⟨hj, Or.inl ⟨⟨fun e => ?_, q1⟩, by rw [q2, nI_clamp (by omega)], by decide⟩⟩
            rw [e, b_0] at b; exact absurd b (by decide)
      -- the third addition
      have third : ∀ (a1 a2 : Nat → Int32) (c1 c2 : Prop), (((gY_heights u i ≠ 0 ∧ zh_cg (gY_from u) (gY_to u) 8 (nI i)) ∧ a1 = zh_ad n (gY_heights u) (gY_goal u 8).toNatClampNeg 2 ∧ (c1 ↔ zh_ch n (gY_heights u) (gY_goal u 8).toNatClampNeg 2)) ∨ (¬ (gY_heights u i ≠ 0 ∧ zh_cg (gY_from u) (gY_to u) 8 (nI i)) ∧ a1 = gY_heights u ∧ ¬ c1)) →
          (((zt_jump (zh_op (gY_ops u) i) ∧ y ≠ 0) ∧ a2 = zh_ad n a1 (gY_args u (192 + i)).toNatClampNeg y ∧ (c2 ↔ zh_ch n a1 (gY_args u (192 + i)).toNatClampNeg y)) ∨ (¬ (zt_jump (zh_op (gY_ops u) i) ∧ y ≠ 0) ∧ a2 = a1 ∧ ¬ c2)) → kY_leads_158 post (nI i) (nI (zh_op (gY_ops u) i)) y (zp (c1 ∨ c2)) (sY_heights a2 u) := by
        intro a1 a2 c1 c2 e1 e2
        have no : ¬ (zt_fall (zh_op (gY_ops u) i) ∧ y ≠ 0) → post (zp (c1 ∨ c2)) (sY_heights a2 u) := by
          intro w
          have := h a2 _ (key a1 a2 a2 c1 c2 False e1 e2 (Or.inr ⟨w, rfl, fun k => k⟩))
          rw [zp_c (show (c1 ∨ c2 ∨ False) ↔ (c1 ∨ c2) by simp)] at this
          exact this
        refine uY_leads_158 (yt_fall o24 (zp_br (fun w => ⟨zp_n _, no (fun k => w k.1)⟩) (fun w => br_c (fun q => ⟨zp_n _, no (fun k => k.2 q)⟩) (fun q => ?_))))
        rw [nI_1]
        refine y_reachH (u := sY_heights a2 u) hn en (by omega) (nm_r (zp_or _ _) ⟨zp_n _, ?_⟩)
        rw [sY_hh, sY_gh]
        have := h _ _ (key a1 a2 _ c1 c2 _ e1 e2 (Or.inl ⟨⟨w, q⟩, rfl, Iff.rfl⟩))
        rw [zp_c (show (c1 ∨ c2 ∨ zh_ch n a2 (i + 1) y) ↔ ((c1 ∨ c2) ∨ zh_ch n a2 (i + 1) y) from or_assoc.symm)] at this
        exact this
      have second : ∀ (a1 : Nat → Int32) (c1 : Prop), (((gY_heights u i ≠ 0 ∧ zh_cg (gY_from u) (gY_to u) 8 (nI i)) ∧ a1 = zh_ad n (gY_heights u) (gY_goal u 8).toNatClampNeg 2 ∧ (c1 ↔ zh_ch n (gY_heights u) (gY_goal u 8).toNatClampNeg 2)) ∨ (¬ (gY_heights u i ≠ 0 ∧ zh_cg (gY_from u) (gY_to u) 8 (nI i)) ∧ a1 = gY_heights u ∧ ¬ c1)) → kY_leads_123 post (nI i) (nI (zh_op (gY_ops u) i)) y (zp c1) (sY_heights a1 u) := by
        intro a1 c1 e1
        have no : ¬ (zt_jump (zh_op (gY_ops u) i) ∧ y ≠ 0) → kY_leads_158 post (nI i) (nI (zh_op (gY_ops u) i)) y (zp c1) (sY_heights a1 u) := by
          intro w
          have := third a1 a1 c1 False e1 (Or.inr ⟨w, rfl, fun k => k⟩)
          rw [zp_c (show (c1 ∨ False) ↔ c1 by simp)] at this
          exact this
        refine uY_leads_123 (yt_jump o24 (zp_br (fun w => no (fun k => w k.1)) (fun w => br_c (fun q => no (fun k => k.2 q)) (fun q => ⟨v216, ?_⟩))))
        show wpY_reach _ _ (gY_args u (192 + nI i).toNatClampNeg) _
        rw [e192, nI_clamp (by omega)]
        obtain ⟨t, ht, et⟩ := jt w
        have q2 := fun c2 hc => third a1 _ c1 c2 e1 (Or.inl ⟨⟨w, q⟩, rfl, hc⟩)
        rw [et, nI_clamp (by omega)] at q2
        rw [et]
        refine y_reachH (u := sY_heights a1 u) hn en ht (nm_r (zp_or _ _) ?_)
        rw [sY_hh, sY_gh]
        exact q2 _ Iff.rfl
      have none1 : ¬ (gY_heights u i ≠ 0 ∧ zh_cg (gY_from u) (gY_to u) 8 (nI i)) → kY_leads_122 post (nI i) (nI (zh_op (gY_ops u) i)) y u := by
        intro w
        have := second (gY_heights u) False (Or.inr ⟨w, rfl, fun k => k⟩)
        rw [zp_f (fun k => k)] at this
        exact uY_leads_122 this
      refine br_c (fun z => none1 (fun k => k.1 z)) (fun z => y_isCaught (zp_br (fun w => none1 (fun k => w k.2)) (fun w => ?_)))
      obtain ⟨g, hg2, eg⟩ := hg w
      have q1 := fun c1 hc => second _ c1 (Or.inl ⟨⟨z, w⟩, rfl, hc⟩)
      rw [eg, nI_clamp (by omega)] at q1
      rw [eg]
      refine y_reachH hn en hg2 (zp_br (fun q => ?_) (fun q => ?_))
      · have := q1 _ Iff.rfl
        rw [zp_f q] at this
        exact uY_leads_122 this
      · have := q1 _ Iff.rfl
        rw [zp_t q] at this
        exact this
    | succ d ih =>
      intro k y hk hy
      refine uY_leads_37 (br_f (nI_nlt (a := 6) (b := k) (by omega) (by decide)) ⟨v24, ?_⟩)
      rw [nI_clamp (by omega)]
      refine br_i (zb_bit1 _ (j := k) (by omega)) (fun z => ?_) (fun z => ?_)
      · refine y_can (by omega) (by omega) ho (zp_br (fun w => ?_) (fun w => ?_))
        · exact nm_r (nI_1 k) (ih (k + 1) y (by omega) (zh_bvs0 hy (fun q => w q.2)))
        · refine nm_e (nm_r (nI_1 k) ?_)
          have e3 := zn_by (Q := zt_push (zh_op (gY_ops u) i)) w.1
          have e4 : zh_P (gY_ops u) (gY_args u) i = zt_pops (zh_op (gY_ops u) i) (gY_args u (192 + i)) := rfl
          rw [e4] at e3
          rw [e3]
          exact ih (k + 1) _ (by omega) (zh_bvs1 hy ⟨z, w⟩)
      · exact nm_r (nI_1 k) (ih (k + 1) y (by omega) (zh_bvs0 hy (fun q => z q.1)))
  exact lp 7 0 0 rfl zh_bv0
/-! the loop until nothing changes, and the fault -/
def zf_hY (O A : Nat → Int32) (n : Nat) (a : Nat → Int32) (i : Nat) : Prop :=
  a i ≠ 0 ∧ (a i &&& (a i - 1) ≠ 0 ∨ (zt_fall (zh_op O i) ∧ n ≤ i + 1) ∨ ∃ h, h < 7 ∧ bt (a i) h = true ∧ ¬ (zh_P O A i ≤ h ∧ h - zh_P O A i + zh_Q O i ≤ 6))
theorem y_un133 {post : Int32 → SY → Prop} {J : Int32 → Prop} {u : SY} {n i : Nat} (hi : i < 24) (ho : zi_ok (gY_ops u (192 + i)) (gY_args u (192 + i))) {x : Int32} {q : Prop}
  (h1 : (q ∧ ∀ h, h < 7 → bt x h = true → (zh_P (gY_ops u) (gY_args u) i ≤ h ∧ h - zh_P (gY_ops u) (gY_args u) i + zh_Q (gY_ops u) i ≤ 6)) → J (nI (i + 1))) (h2 : ¬ (q ∧ ∀ h, h < 7 → bt x h = true → (zh_P (gY_ops u) (gY_args u) i ≤ h ∧ h - zh_P (gY_ops u) (gY_args u) i + zh_Q (gY_ops u) i ≤ 6)) → post (nI i) u) :
  ∀ d k c, k + d = 7 → (c ↔ (q ∧ ∀ h, h < k → bt x h = true → (zh_P (gY_ops u) (gY_args u) i ≤ h ∧ h - zh_P (gY_ops u) (gY_args u) i + zh_Q (gY_ops u) i ≤ 6))) → kY_uneven_133 post J (nI n) (nI i) x (d + 1) (zp c) (nI k) u := by
  intro d
  induction d with
  | zero =>
    intro k c hk hc
    have : k = 7 := by omega
    subst this
    refine uY_uneven_133 (br_t (by decide) (zp_br (fun z => h2 (fun w => z (hc.mpr w))) (fun z => ?_)))
    exact nm_r (nI_1 i) (h1 (hc.mp z))
  | succ d ih =>
    intro k c hk hc
    refine uY_uneven_133 (br_f (nI_nlt (a := 6) (b := k) (by omega) (by decide)) ?_)
    refine br_i (zb_bit1 _ (j := k) (by omega)) (fun z => ?_) (fun z => ?_)
    · refine y_can hi (by omega) ho (zp_br (fun w => ?_) (fun w => ?_))
      · have := ih (k + 1) False (by omega) ⟨fun e => e.elim, fun e => w (e.2 k (by omega) z)⟩
        rw [zp_f (fun e => e)] at this
        exact nm_r (nI_1 k) this
      · refine nm_r (nI_1 k) (ih (k + 1) c (by omega) ?_)
        rw [hc]
        constructor
        · rintro ⟨e1, e2⟩
          refine ⟨e1, fun h hh b => ?_⟩
          by_cases e : h = k
          · subst e; exact w
          · exact e2 h (by omega) b
        · rintro ⟨e1, e2⟩
          exact ⟨e1, fun h hh b => e2 h (by omega) b⟩
    · refine nm_r (nI_1 k) (ih (k + 1) c (by omega) ?_)
      rw [hc]
      constructor
      · rintro ⟨e1, e2⟩
        refine ⟨e1, fun h hh b => ?_⟩
        by_cases e : h = k
        · subst e; exact absurd b z
        · exact e2 h (by omega) b
      · rintro ⟨e1, e2⟩
        exact ⟨e1, fun h hh b => e2 h (by omega) b⟩
theorem y_un69 {post : Int32 → SY → Prop} {u : SY} {n : Nat} (hn : n ≤ 24) (ho : ∀ i, i < n → zi_ok (gY_ops u (192 + i)) (gY_args u (192 + i))) :
  ∀ d i, i + d = n → post (zf (zf_hY (gY_ops u) (gY_args u) n (gY_heights u)) d i) u → kY_uneven_69 post (nI n) (d + 1) (nI i) u := by
  intro d
  induction d with
  | zero =>
    intro i hi hp
    have : i = n := by omega
    subst this
    exact uY_uneven_69 (br_t (Int32.le_refl _) hp)
  | succ d ih =>
    intro i hi hp
    have e192 : (192 : Int32) + nI i = nI (192 + i) := by rw [show (192 : Int32) = nI 192 from rfl, nI_add]
    have v216 : vp_in (192 + nI i) 216 := by rw [e192]; exact vp_in_nI (by omega) (by decide)
    refine uY_uneven_69 (br_f (nI_ge (by omega) (by omega)) ⟨vp_in_nI (by omega) (by decide), nm_e ?_⟩)
    rw [nI_clamp (by omega)]
    obtain ⟨o24, eo, fo⟩ := zi_of (ho i (by omega))
    have eop : zh_op (gY_ops u) i = (gY_ops u (192 + i)).toNatClampNeg := rfl
    rw [← eop] at o24 eo fo
    refine br_c (fun z => ?_) (fun z => ?_)
    · rw [zf_f (fun w => w.1 z)] at hp
      exact nm_r (nI_1 i) (ih (i + 1) (by omega) hp)
    · have go : ∀ q : Prop, (q ↔ (gY_heights u i &&& (gY_heights u i - 1) = 0 ∧ ¬ (zt_fall (zh_op (gY_ops u) i) ∧ n ≤ i + 1))) → kY_uneven_133 post (fun x3 => kY_uneven_69 post (nI n) (d + 1) x3 u) (nI n) (nI i) (gY_heights u i) 8 (zp q) 0 u := by
        intro q hq
        refine y_un133 (q := q) (by omega) (ho i (by omega)) (fun w => ?_) (fun w => ?_) 7 0 q rfl ⟨fun e => ⟨e, fun h hh => absurd hh (by omega)⟩, fun e => e.1⟩
        · have w1 := hq.mp w.1
          rw [zf_f (fun k => ?_)] at hp
          · exact ih (i + 1) (by omega) hp
          · rcases k.2 with k | k | ⟨h, h7, b, k⟩
            · exact k w1.1
            · exact w1.2 k
            · exact k (w.2 h h7 b)
        · rw [zf_t ?_] at hp
          · exact hp
          · refine ⟨z, ?_⟩
            by_cases k1 : gY_heights u i &&& (gY_heights u i - 1) = 0
            · by_cases k2 : zt_fall (zh_op (gY_ops u) i) ∧ n ≤ i + 1
              · exact Or.inr (Or.inl k2)
              · refine Or.inr (Or.inr ?_)
                by_cases k3 : ∃ h, h < 7 ∧ bt (gY_heights u i) h = true ∧ ¬ (zh_P (gY_ops u) (gY_args u) i ≤ h ∧ h - zh_P (gY_ops u) (gY_args u) i + zh_Q (gY_ops u) i ≤ 6)
                · exact k3
                · refine absurd ⟨hq.mpr ⟨k1, k2⟩, fun h h7 b => ?_⟩ w
                  by_cases k4 : zh_P (gY_ops u) (gY_args u) i ≤ h ∧ h - zh_P (gY_ops u) (gY_args u) i + zh_Q (gY_ops u) i ≤ 6
                  · exact k4
                  · exact absurd ⟨h, h7, b, k4⟩ k3
            · exact Or.inl k1
      have go1 : (gY_heights u i &&& (gY_heights u i - 1) = 0 ∧ ¬ (zt_fall (zh_op (gY_ops u) i) ∧ n ≤ i + 1)) → kY_uneven_133 post (fun x3 => kY_uneven_69 post (nI n) (d + 1) x3 u) (nI n) (nI i) (gY_heights u i) 8 1 0 u := by
        intro k
        have := go True ⟨fun _ => k, fun _ => trivial⟩
        rw [zp_t trivial] at this
        exact this
      have go0 : ¬ (gY_heights u i &&& (gY_heights u i - 1) = 0 ∧ ¬ (zt_fall (zh_op (gY_ops u) i) ∧ n ≤ i + 1)) → kY_uneven_133 post (fun x3 => kY_uneven_69 post (nI n) (d + 1) x3 u) (nI n) (nI i) (gY_heights u i) 8 0 0 u := by
        intro k
        have := go False ⟨fun e => e.elim, fun e => k e⟩
        rw [zp_f (fun e => e)] at this
        exact this
      refine br_c (fun w => ⟨v216, ?_⟩) (fun w => ⟨8, go0 (fun k => w k.1)⟩)
      rw [e192, nI_clamp (by omega), eo]
      refine yt_fall o24 (zp_br (fun k => ⟨8, go1 ⟨w, fun j => k j.1⟩⟩) (fun k => ?_))
      rw [nI_1]
      exact br_i (nI_leI (by omega) (by omega)) (fun j => ⟨8, go0 (fun e => e.2 ⟨k, j⟩)⟩) (fun j => ⟨8, go1 ⟨w, fun e => j e.2⟩⟩)
theorem y_un45 {post : Int32 → SY → Prop} {J : Int32 → SY → Prop} {u : SY} {n : Nat} (hn : n ≤ 24) (en : gY_length u 8 = nI n) (ho : ∀ i, i < n → zi_ok (gY_ops u (192 + i)) (gY_args u (192 + i))) (hg : ∀ i, zh_cg (gY_from u) (gY_to u) 8 (nI i) → ∃ g, g ≤ 24 ∧ gY_goal u 8 = nI g)
  {E : Nat → Nat → Nat → Nat → Prop} (eE : E = zh_E (gY_ops u) (gY_args u) (gY_from u) (gY_to u) (gY_goal u) n) {a0 : Nat → Int32}
  (hJ : ∀ (a : Nat → Int32) (c : Prop), zh_S E n a → (∀ t h, bt (a0 t) h = true → bt (a t) h = true) → (c → zs_m 7 24 a0 < zs_m 7 24 a) → (¬ c → ∀ i, i < n → zh_K E a i) → J (zp c) (sY_heights a u)) :
  ∀ d i a c, i + d = n → zh_S E n a → (∀ t h, bt (a0 t) h = true → bt (a t) h = true) → (c → zs_m 7 24 a0 < zs_m 7 24 a) → (¬ c → a = a0 ∧ ∀ k, k < i → zh_K E a0 k) → kY_uneven_45 post J (nI n) (d + 1) (zp c) (nI i) (sY_heights a u) := by
  intro d
  induction d with
  | zero =>
    intro i a c hi hS hm hc hk
    have : i = n := by omega
    subst this
    refine uY_uneven_45 (br_t (Int32.le_refl _) (hJ a c hS hm hc (fun z => ?_)))
    obtain ⟨rfl, k⟩ := hk z
    exact k
  | succ d ih =>
    intro i a c hi hS hm hc hk
    refine uY_uneven_45 (br_f (nI_ge (by omega) (by omega)) ?_)
    refine y_leads (u := sY_heights a u) hn (by omega) en (ho i (by omega)) (hg i) eE hS (fun b c' sp => nm_r (zp_or _ _) (nm_r (nI_1 i) ?_))
    rw [sY_hh]
    obtain ⟨Sb, mb, lb, kb⟩ := sp
    have hm' : ∀ t h, bt (a0 t) h = true → bt (b t) h = true := fun t h w => mb t h (hm t h w)
    refine ih (i + 1) b (c ∨ c') (by omega) Sb hm' (fun z => ?_) (fun z => ?_)
    · by_cases w : c'
      · exact Nat.lt_of_le_of_lt (zs_mle (fun t _ j _ w => hm t j w)) (lb w)
      · obtain ⟨rfl, _⟩ := kb w
        exact hc (z.elim id (fun k => absurd k w))
    · obtain ⟨rfl, kk⟩ := kb (fun w => z (Or.inr w))
      obtain ⟨rfl, k⟩ := hk (fun w => z (Or.inl w))
      refine ⟨rfl, fun j hj => ?_⟩
      by_cases e : j = i
      · subst e; exact kk
      · exact k j (by omega)
theorem y_uneven {post : Int32 → SY → Prop} {u : SY} {n : Nat} (hn0 : 0 < n) (hn : n ≤ 24) (en : gY_length u 8 = nI n) (ho : ∀ i, i < n → zi_ok (gY_ops u (192 + i)) (gY_args u (192 + i))) (hg : ∀ i, zh_cg (gY_from u) (gY_to u) 8 (nI i) → ∃ g, g ≤ 24 ∧ gY_goal u 8 = nI g)
  {E : Nat → Nat → Nat → Nat → Prop} (eE : E = zh_E (gY_ops u) (gY_args u) (gY_from u) (gY_to u) (gY_goal u) n) (h : ∀ a, zh_F E n a → post (zf (zf_hY (gY_ops u) (gY_args u) n a) n 0) (sY_heights a u)) : wpY_uneven post u := by
  have hE : ∀ i h j k, E i h j k → j < n ∧ k < 7 := by
    intro i h j k e; rw [eE] at e; exact zh_E7 e
  have l37 : ∀ d a c, 168 - zs_m 7 24 a < d + 1 → zh_S E n a → bt (a 0) 0 = true → (¬ c → ∀ i, i < n → zh_K E a i) → kY_uneven_37 post (nI n) (d + 2) (zp c) (sY_heights a u) := by
    intro d
    induction d with
    | zero =>
      intro a c hd hS h0 hk
      refine uY_uneven_37 (zp_br (fun z => ⟨_, y_un69 (u := sY_heights a u) hn ho n 0 (by omega) (h a (zh_fin hn0 hE hS h0 (hk z)))⟩) (fun z => ?_))
      have q := y_un45 (post := post) (J := kY_uneven_37 post (nI n) 1) (u := u) hn en ho hg eE (a0 := a) ?_ n 0 a False (by omega) hS (fun _ _ b => b) (fun k => k.elim) (fun _ => ⟨rfl, fun k hk => absurd hk (by omega)⟩)
      · rw [zp_f (fun k => k)] at q
        exact ⟨_, q⟩
      · intro a' c' S' m' l' k'
        have nc : ¬ c' := fun w => by
          have := l' w
          have := zs_mub 7 24 a'
          omega
        refine uY_uneven_37 (zp_br (fun z => ⟨_, y_un69 (u := sY_heights a' u) hn ho n 0 (by omega) (h a' (zh_fin hn0 hE S' (m' 0 0 h0) (k' z)))⟩) (fun z => absurd z nc))
    | succ d ih =>
      intro a c hd hS h0 hk
      refine uY_uneven_37 (zp_br (fun z => ⟨_, y_un69 (u := sY_heights a u) hn ho n 0 (by omega) (h a (zh_fin hn0 hE hS h0 (hk z)))⟩) (fun z => ?_))
      have q := y_un45 (post := post) (J := kY_uneven_37 post (nI n) (d + 2)) (u := u) hn en ho hg eE (a0 := a) ?_ n 0 a False (by omega) hS (fun _ _ b => b) (fun k => k.elim) (fun _ => ⟨rfl, fun k hk => absurd hk (by omega)⟩)
      · rw [zp_f (fun k => k)] at q
        exact ⟨_, q⟩
      · intro a' c' S' m' l' k'
        by_cases w : c'
        · refine ih a' c' ?_ S' (m' 0 0 h0) k'
          have := l' w
          have := zs_mub 7 24 a'
          omega
        · exact uY_uneven_37 (zp_br (fun z => ⟨_, y_un69 (u := sY_heights a' u) hn ho n 0 (by omega) (h a' (zh_fin hn0 hE S' (m' 0 0 h0) (k' z)))⟩) (fun z => absurd z w))
  have z : ∀ d i a, i + d = n → (∀ t, t < i → a t = 0) → kY_uneven_10 post (nI n) (d + 1) (nI i) (sY_heights a u) := by
    intro d
    induction d with
    | zero =>
      intro i a hi ha
      have : i = n := by omega
      subst this
      refine uY_uneven_10 (br_t (Int32.le_refl _) (nm_e ⟨170, ?_⟩))
      have q := l37 168 (upd a 0 1) True (by omega) ?_ ?_ (fun k => absurd trivial k)
      · rw [zp_t trivial] at q
        exact q
      · intro i hi k hk b
        by_cases e : i = 0
        · subst e
          rw [pk_us, zb_1 k hk] at b
          have : k = 0 := by simpa using b
          subst this
          exact ⟨by decide, zh_R0⟩
        · rw [pk_un e, ha i (by omega), b_0] at b
          exact absurd b (by decide)
      · rw [pk_us]; decide
    | succ d ih =>
      intro i a hi ha
      refine uY_uneven_10 (br_f (nI_ge (by omega) (by omega)) ⟨vp_in_nI (by omega) (by decide), nm_e (nm_r (nI_1 i) ?_)⟩)
      rw [nI_clamp (by omega)]
      refine ih (i + 1) (upd a i 0) (by omega) (fun t ht => ?_)
      by_cases e : t = i
      · subst e; exact pk_us
      · rw [pk_un e]; exact ha t (by omega)
  refine upY_uneven (nm_r en ⟨n + 1, z n 0 (gY_heights u) (by omega) (fun t ht => absurd ht (by omega))⟩)
