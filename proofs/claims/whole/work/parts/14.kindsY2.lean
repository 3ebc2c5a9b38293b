/-! Y's kinds: meeting, passes, the loop -/
theorem sY_kk (a b : Nat → Int32) (u : SY) : sY_kinds a (sY_kinds b u) = sY_kinds a u := rfl
theorem sY_gbk (a : Nat → Int32) (u : SY) : gY_behind (sY_kinds a u) = gY_behind u := rfl
theorem sY_gk (a : Nat → Int32) (u : SY) : gY_kinds (sY_kinds a u) = a := rfl
theorem sY_kbh (h h' : Int32) (a b a' b' : Nat → Int32) (u : SY) : sY_height_kinds_behind h a b (sY_height_kinds_behind h' a' b' u) = sY_height_kinds_behind h a b u := rfl
theorem sY_khb (h : Int32) (a b : Nat → Int32) (u : SY) : sY_kinds a (sY_height_behind h b u) = sY_height_kinds_behind h a b u := rfl
theorem sY_kkhb (h : Int32) (a a' b : Nat → Int32) (u : SY) : sY_kinds a (sY_height_kinds_behind h a' b u) = sY_height_kinds_behind h a b u := rfl
theorem sY_hbk (h h' : Int32) (a b b' : Nat → Int32) (u : SY) : sY_height_behind h b (sY_height_kinds_behind h' a b' u) = sY_height_kinds_behind h a b u := rfl
theorem sY_gk2 (h : Int32) (a b : Nat → Int32) (u : SY) : gY_kinds (sY_height_kinds_behind h a b u) = a := rfl
theorem sY_gb2 (h : Int32) (a b : Nat → Int32) (u : SY) : gY_behind (sY_height_kinds_behind h a b u) = b := rfl
theorem sY_gk3 (h : Int32) (b : Nat → Int32) (u : SY) : gY_kinds (sY_height_behind h b u) = gY_kinds u := rfl
theorem sY_gb3 (h : Int32) (b : Nat → Int32) (u : SY) : gY_behind (sY_height_behind h b u) = b := rfl
def zy_mt (K : Nat → Int32) (t w : Nat) (beh : Nat → Int32) : Nat → Int32 := fun k => if 12 * t ≤ k ∧ k < 12 * t + w then K k ||| beh (k - 12 * t) else K k
theorem zy_mt0 {K : Nat → Int32} {t : Nat} {beh : Nat → Int32} : zy_mt K t 0 beh = K := by
  funext k
  unfold zy_mt
  rw [if_neg (by omega)]
theorem zy_mts {K : Nat → Int32} {t w : Nat} {beh : Nat → Int32} : upd (zy_mt K t w beh) (12 * t + w) (K (12 * t + w) ||| beh w) = zy_mt K t (w + 1) beh := by
  funext k
  by_cases z : k = 12 * t + w
  · subst z
    rw [pk_us]
    unfold zy_mt
    rw [if_pos (by omega), show 12 * t + w - 12 * t = w by omega]
  · rw [pk_un z]
    unfold zy_mt
    by_cases h : 12 * t ≤ k ∧ k < 12 * t + w
    · rw [if_pos h, if_pos (by omega)]
    · rw [if_neg h, if_neg (by omega)]
theorem zy_mtat {K : Nat → Int32} {t w : Nat} {beh : Nat → Int32} : zy_mt K t w beh (12 * t + w) = K (12 * t + w) := by
  unfold zy_mt
  rw [if_neg (by omega)]
theorem zy_mtin {K : Nat → Int32} {t w e : Nat} {beh : Nat → Int32} (h : e < w) : zy_mt K t w beh (12 * t + e) = K (12 * t + e) ||| beh e := by
  unfold zy_mt
  rw [if_pos (by omega), show 12 * t + e - 12 * t = e by omega]
theorem y_meet {post : Int32 → SY → Prop} {u : SY} {t w : Nat} (ht : t < 24) (hw : w ≤ 6) (eh : gY_height u = nI w) (h : ∀ c : Prop, (c ↔ zy_mt (gY_kinds u) t (6 + w) (gY_behind u) ≠ gY_kinds u) → post (zp c) (sY_kinds (zy_mt (gY_kinds u) t (6 + w) (gY_behind u)) u)) : wpY_meet post u (nI t) := by
  have e6 : (6 : Int32) + nI w = nI (6 + w) := by rw [show (6 : Int32) = nI 6 from rfl, nI_add]
  have z : ∀ d k (c : Prop), k + d = 6 + w → (c ↔ zy_mt (gY_kinds u) t k (gY_behind u) ≠ gY_kinds u) → kY_meet_4 post (nI t) (d + 1) (zp c) (nI k) (sY_kinds (zy_mt (gY_kinds u) t k (gY_behind u)) u) := by
    intro d
    induction d with
    | zero =>
      intro k c hk hc
      have : k = 6 + w := by omega
      subst this
      refine uY_meet_4 (br_t ?_ ⟨zp_n _, h c hc⟩)
      show 6 + gY_height u ≤ nI (6 + w)
      rw [eh, e6]; exact Int32.le_refl _
    | succ d ih =>
      intro k c hk hc
      have e12 : (12 : Int32) * nI t + nI k = nI (12 * t + k) := by rw [show (12 : Int32) = nI 12 from rfl, pk_mul, nI_add]
      have v288 : vp_in (12 * nI t + nI k) 288 := by rw [e12]; exact vp_in_nI (by omega) (by decide)
      have nx : ∀ f : Prop, (f ↔ gY_kinds u (12 * t + k) ||| gY_behind u k ≠ gY_kinds u (12 * t + k)) → kY_meet_57 post (kY_meet_4 post (nI t) (d + 1)) (nI t) (nI k) (gY_kinds u (12 * t + k) ||| gY_behind u k) (zp f) (zp c) (sY_kinds (zy_mt (gY_kinds u) t k (gY_behind u)) u) := by
        intro f hf
        refine uY_meet_57 (nm_r (zp_or c f) ⟨v288, nm_e (nm_r (nI_1 k) ?_)⟩)
        show kY_meet_4 post (nI t) (d + 1) (zp (c ∨ f)) (nI (k + 1)) (sY_kinds (upd (zy_mt (gY_kinds u) t k (gY_behind u)) (12 * nI t + nI k).toNatClampNeg (gY_kinds u (12 * t + k) ||| gY_behind u k)) u)
        rw [e12, nI_clamp (by omega), zy_mts]
        refine ih (k + 1) (c ∨ f) (by omega) ?_
        rw [hc, hf]
        constructor
        · rintro (q | q) e
          · refine q ?_
            funext j
            have := congrFun e j
            unfold zy_mt at this ⊢
            by_cases r : 12 * t ≤ j ∧ j < 12 * t + k
            · rw [if_pos (by omega)] at this; rw [if_pos r]; exact this
            · rw [if_neg r]
          · have := congrFun e (12 * t + k)
            rw [zy_mtin (by omega)] at this
            exact q this
        · intro q
          by_cases r : gY_kinds u (12 * t + k) ||| gY_behind u k = gY_kinds u (12 * t + k)
          · refine Or.inl (fun e => q ?_)
            rw [← zy_mts, e, zu_self r]
          · exact Or.inr r
      refine uY_meet_4 (br_f ?_ ⟨v288, vp_in_nI (by omega) (by decide), nm_e ⟨v288, ?_⟩⟩)
      · show ¬ 6 + gY_height u ≤ nI k
        rw [eh, e6]; exact nI_ge (by omega) (by omega)
      · rw [e12, nI_clamp (n := 12 * t + k) (by omega), nI_clamp (n := k) (by omega), sY_gk, sY_gbk, zy_mtat]
        refine br_c (fun q => ?_) (fun q => ?_)
        · have := nx False ⟨fun k => k.elim, fun k => k q⟩
          rw [zp_f (fun k => k)] at this
          exact this
        · have := nx True ⟨fun _ => q, fun _ => trivial⟩
          rw [zp_t trivial] at this
          exact this
  have q := z (6 + w) 0 False (by omega) ⟨fun k => k.elim, fun k => k zy_mt0⟩
  rw [zp_f (fun k => k), zy_mt0] at q
  exact upY_meet ⟨_, q⟩
/-- bit c of the kind of an entry behind an instruction -/
def zy_v (f : Nat → Nat → Prop) (pk o a b c e : Nat) : Prop :=
  (o = 3 ∧ ((e = a ∧ f c b) ∨ (e ≠ a ∧ f c e))) ∨ (o = 2 ∧ ((e = b ∧ f c a) ∨ (e ≠ b ∧ f c e))) ∨ (o = 20 ∧ (((e = b ∨ e = b + 1) ∧ f c b) ∨ (¬ (e = b ∨ e = b + 1) ∧ f c e))) ∨ (o ≠ 3 ∧ o ≠ 2 ∧ o ≠ 20 ∧ ((e = b ∧ pk = c + 1) ∨ (e ≠ b ∧ f c e)))
theorem zy_vm {f g : Nat → Nat → Prop} {pk o a b c e : Nat} (ha : o = 2 → a < 12) (hb : b < 12 ∨ (o ≠ 3 ∧ o ≠ 20)) (h : ∀ e, e < 12 → f c e → g c e) (he : e < 12) (v : zy_v f pk o a b c e) : zy_v g pk o a b c e := by
  rcases v with ⟨h1, v⟩ | ⟨h1, v⟩ | ⟨h1, v⟩ | ⟨h1, h2, h3, v⟩
  · have hb : b < 12 := hb.elim id (fun k => absurd h1 k.1)
    exact Or.inl ⟨h1, v.elim (fun v => Or.inl ⟨v.1, h _ hb v.2⟩) (fun v => Or.inr ⟨v.1, h _ he v.2⟩)⟩
  · exact Or.inr (Or.inl ⟨h1, v.elim (fun v => Or.inl ⟨v.1, h _ (ha h1) v.2⟩) (fun v => Or.inr ⟨v.1, h _ he v.2⟩)⟩)
  · have hb : b < 12 := hb.elim id (fun k => absurd h1 k.2)
    exact Or.inr (Or.inr (Or.inl ⟨h1, v.elim (fun v => Or.inl ⟨v.1, h _ hb v.2⟩) (fun v => Or.inr ⟨v.1, h _ he v.2⟩)⟩))
  · exact Or.inr (Or.inr (Or.inr ⟨h1, h2, h3, v.elim (fun v => Or.inl v) (fun v => Or.inr ⟨v.1, h _ he v.2⟩)⟩))
theorem zy_pkb : ∀ pk, pk < 3 → ∀ c, c < 32 → (bt (nI pk) c = true ↔ pk = c + 1) := by decide
theorem zk_pk2 (rf : Nat → Int32) (o : Nat) (a : Int32) (ho : o < 24) : zk_pk rf o a < 3 := by
  unfold zk_pk
  repeat' split
  all_goals first | omega | skip
  have : ∀ o, o < 24 → [1, 2, 0, 0, 1, 1, 1, 1, 0, 0, 0, 1, 2, 0, 0, 1, 0, 0, 0, 0, 0, 0, 2, 0].getD o 0 < 3 := by decide
  exact this _ ho
theorem zy_yv {kin : Nat → Int32} {pk o a b c e : Nat} (hp : pk < 3) (hc : c < 32) : bt (zk_y kin (nI pk) o a b e) c = true ↔ zy_v (fun c e => bt (kin e) c = true) pk o a b c e := by
  unfold zk_y zy_v
  by_cases h3 : o = 3
  · rw [if_pos h3]
    by_cases he : e = a
    · rw [if_pos he]; simp [h3, he]
    · rw [if_neg he]; simp [h3, he]
  · rw [if_neg h3]
    by_cases h2 : o = 2
    · rw [if_pos h2]
      by_cases he : e = b
      · rw [if_pos he]; simp [h2, he]
      · rw [if_neg he]; simp [h2, he]
    · rw [if_neg h2]
      by_cases h20 : o = 20
      · rw [if_pos h20]
        by_cases he : e = b ∨ e = b + 1
        · rw [if_pos he]; simp [h20, he]
        · rw [if_neg he]
          have n1 : ¬ e = b := fun k => he (Or.inl k)
          have n2 : ¬ e = b + 1 := fun k => he (Or.inr k)
          simp [h20, n1, n2]
      · rw [if_neg h20]
        by_cases he : e = b
        · rw [if_pos he, zy_pkb pk hp c hc]; simp [h3, h2, h20, he]
        · rw [if_neg he]; simp [h3, h2, h20, he]
def zy_cl (rf O A F T G a : Nat → Int32) (n : Nat) (Z : Nat → Nat → Nat → Prop) (i : Nat) : Prop :=
  (∀ t, t < n → zk_t O A i t → ∀ e, e < zk_b O A a i + zh_Q O i → ∀ c, c < 3 → zy_v (fun c e => Z c i e) (zk_pk rf (zh_op O i) (A (192 + i))) (zh_op O i) (A (192 + i)).toNatClampNeg (zk_b O A a i) c e → Z c t e) ∧
  (zh_cg F T 8 (nI i) → ∀ g, g < n → G 8 = nI g → (∀ e, e < 6 → ∀ c, c < 3 → Z c i e → Z c g e) ∧ Z 0 g 6)
def zy_in (m e : Nat) : Nat := if zt_takes m ≤ e then 4 else if m < 2 then 1 else if 6 ≤ m then 2 else if e = 1 then 1 else 2
def zy_C (rf O A F T G a : Nat → Int32) (n m : Nat) (Z : Nat → Nat → Nat → Prop) : Prop :=
  (∀ e, e < 6 → ∀ c, c < 3 → bt (nI (zy_in m e)) c = true → Z c 0 e) ∧ ∀ i, i < n → a i ≠ 0 → zy_cl rf O A F T G a n Z i
/-- x lies below every closed set -/
def zy_lo (C : (Nat → Nat → Nat → Prop) → Prop) (n : Nat) (K : Nat → Int32) : Prop := (∀ Z, C Z → ∀ i, i < n → ∀ e, e < 12 → ∀ c, c < 3 → bt (K (12 * i + e)) c = true → Z c i e) ∧ ∀ i, i < n → ∀ e, e < 12 → ∀ c, 3 ≤ c → c < 32 → bt (K (12 * i + e)) c = false
def zy_bits (K : Nat → Int32) : Nat → Nat → Nat → Prop := fun c i e => bt (K (12 * i + e)) c = true
def zy_one (n : Nat) (p : Prop) (t w : Nat) (beh K K' : Nat → Int32) (c : Prop) : Prop := (p ∧ t < n ∧ K' = zy_mt K t w beh ∧ (c ↔ K' ≠ K)) ∨ (¬ p ∧ K' = K ∧ ¬ c)
theorem zy_mtm {K : Nat → Int32} {t w : Nat} {beh : Nat → Int32} {k c : Nat} (h : bt (K k) c = true) : bt (zy_mt K t w beh k) c = true := by
  unfold zy_mt
  split
  · rw [b_or, h]; rfl
  · exact h
theorem zy_oneS {C : (Nat → Nat → Nat → Prop) → Prop} {n : Nat} (hn : n ≤ 24) {p : Prop} {t w : Nat} (hw : w ≤ 12) {beh K K' : Nat → Int32} {c : Prop} (h : zy_one n p t w beh K K' c) (u1 : zy_lo C n K)
  (s1 : p → ∀ Z, C Z → ∀ e, e < w → ∀ c, c < 3 → bt (beh e) c = true → Z c t e) (s2 : p → ∀ e, e < w → ∀ c, 3 ≤ c → c < 32 → bt (beh e) c = false) :
  zy_lo C n K' ∧ (c → zs_m 3 288 K < zs_m 3 288 K') ∧ zs_m 3 288 K ≤ zs_m 3 288 K' ∧ (¬ c → K' = K ∧ (p → ∀ e, e < w → ∀ c, bt (beh e) c = true → bt (K (12 * t + e)) c = true)) ∧ (∀ k c, bt (K k) c = true → bt (K' k) c = true) := by
  rcases h with ⟨hp, ht, rfl, hc⟩ | ⟨hp, rfl, hc⟩
  · have lo : zy_lo C n (zy_mt K t w beh) := by
      constructor
      · intro Z hZ i hi e he c' hc' b
        unfold zy_mt at b
        split at b
        · rename_i q
          have : i = t := by omega
          subst this
          rw [show 12 * i + e - 12 * i = e by omega, b_or] at b
          rcases Bool.or_eq_true_iff.mp b with b | b
          · exact u1.1 Z hZ i hi e he c' hc' b
          · exact s1 hp Z hZ e (by omega) c' hc' b
        · exact u1.1 Z hZ i hi e he c' hc' b
      · intro i hi e he c h1 h2
        unfold zy_mt
        split
        · rename_i q
          have : i = t := by omega
          subst this
          rw [show 12 * i + e - 12 * i = e by omega, b_or, u1.2 i hi e he c h1 h2, s2 hp e (by omega) c h1 h2]; rfl
        · exact u1.2 i hi e he c h1 h2
    refine ⟨lo, fun w' => ?_, zs_mle (fun _ _ _ _ b => zy_mtm b), fun w' => ?_, fun _ _ b => zy_mtm b⟩
    · have ne := hc.mp w'
      have : ∃ k, zy_mt K t w beh k ≠ K k := by
        by_cases q : ∃ k, zy_mt K t w beh k ≠ K k
        · exact q
        · refine absurd (funext fun k => ?_) ne
          by_cases r : zy_mt K t w beh k = K k
          · exact r
          · exact absurd ⟨k, r⟩ q
      obtain ⟨k, hk⟩ := this
      have hk2 : 12 * t ≤ k ∧ k < 12 * t + w := by
        by_cases q : 12 * t ≤ k ∧ k < 12 * t + w
        · exact q
        · unfold zy_mt at hk; rw [if_neg q] at hk; exact absurd rfl hk
      obtain ⟨i, hi, hd⟩ := zb_ne hk
      have b2 : bt (K k) i = false := by
        cases q : bt (K k) i
        · rfl
        · rw [zy_mtm q, q] at hd; exact absurd rfl hd
      have b1 : bt (zy_mt K t w beh k) i = true := by
        cases q : bt (zy_mt K t w beh k) i
        · rw [q, b2] at hd; exact absurd rfl hd
        · rfl
      have h3 : i < 3 := by
        by_cases q : i < 3
        · exact q
        · have := lo.2 t ht (k - 12 * t) (by omega) i (by omega) hi
          rw [show 12 * t + (k - 12 * t) = k by omega, b1] at this
          exact absurd this (by decide)
      exact zs_mlt (fun _ _ _ _ b => zy_mtm b) (t := k) (j := i) (by omega) h3 b2 b1
    · have e : zy_mt K t w beh = K := by
        by_cases q : zy_mt K t w beh = K
        · exact q
        · exact absurd (hc.mpr q) w'
      refine ⟨e, fun _ e' he c b => ?_⟩
      have := congrFun e (12 * t + e')
      rw [zy_mtin he] at this
      rw [← this, b_or, b, Bool.or_true]
  · exact ⟨u1, fun w => absurd w hc, Nat.le_refl _, fun _ => ⟨rfl, fun w => absurd w hp⟩, fun _ _ b => b⟩
def zy_sp (C L : (Nat → Nat → Nat → Prop) → Prop) (n : Nat) (K K' : Nat → Int32) (c : Prop) : Prop :=
  zy_lo C n K' ∧ (c → zs_m 3 288 K < zs_m 3 288 K') ∧ zs_m 3 288 K ≤ zs_m 3 288 K' ∧ (¬ c → K' = K ∧ L (zy_bits K)) ∧ (∀ k c, bt (K k) c = true → bt (K' k) c = true)
theorem zy_three {rf O A F T G a : Nat → Int32} {n m i g w : Nat} (hn : n ≤ 24) (hi : i < n) (h0 : a i ≠ 0) {K : Nat → Int32} (u1 : zy_lo (zy_C rf O A F T G a n m) n K) {beh beh3 : Nat → Int32} (ho : zh_op O i < 24)
  (hw : w = zk_b O A a i + zh_Q O i) (hw12 : w ≤ 12) (hbeh : ∀ e, e < w → beh e = zk_y (fun e => K (12 * i + e)) (nI (zk_pk rf (zh_op O i) (A (192 + i)))) (zh_op O i) (A (192 + i)).toNatClampNeg (zk_b O A a i) e)
  (ha : zh_op O i = 2 → (A (192 + i)).toNatClampNeg < 12) (ha3 : zh_op O i = 3 → (A (192 + i)).toNatClampNeg < 12) (hb : zk_b O A a i < 12 ∨ (zh_op O i ≠ 3 ∧ zh_op O i ≠ 20)) (hg : zh_cg F T 8 (nI i) → G 8 = nI g) (hj : zt_jump (zh_op O i) → A (192 + i) = nI (A (192 + i)).toNatClampNeg) (hg2 : g < 2 ^ 31)
  {K1 K2 K3 : Nat → Int32} {c1 c2 c3 : Prop} (hb3 : zh_cg F T 8 (nI i) → (∀ e, e < 6 → beh3 e = K2 (12 * i + e)) ∧ beh3 6 = 1) (e1 : zy_one n (zt_jump (zh_op O i)) (A (192 + i)).toNatClampNeg w beh K K1 c1) (e2 : zy_one n (zt_fall (zh_op O i)) (i + 1) w beh K1 K2 c2) (e3 : zy_one n (zh_cg F T 8 (nI i)) g 7 beh3 K2 K3 c3) :
  zy_sp (zy_C rf O A F T G a n m) (fun Z => zy_cl rf O A F T G a n Z i) n K K3 (c1 ∨ c2 ∨ c3) := by
  have pk3 := zk_pk2 rf (zh_op O i) (A (192 + i)) ho
  have tj : zt_jump (zh_op O i) → zk_t O A i (A (192 + i)).toNatClampNeg := fun w => Or.inl ⟨w, hj w⟩
  have tf : zt_fall (zh_op O i) → zk_t O A i (i + 1) := fun w => Or.inr ⟨w, rfl⟩
  have fy : ∀ t, t < n → zk_t O A i t → ∀ Z, zy_C rf O A F T G a n m Z → ∀ e, e < w → ∀ c, c < 3 → bt (beh e) c = true → Z c t e := by
    intro t ht q Z hZ e he c hc b
    rw [hbeh e he, zy_yv pk3 (by omega)] at b
    refine (hZ.2 i hi h0).1 t ht q e (by omega) c hc (zy_vm ha hb (fun e he q => u1.1 Z hZ i hi e he c hc q) (by omega) b)
  have fz : ∀ e, e < w → ∀ c, 3 ≤ c → c < 32 → bt (beh e) c = false := by
    intro e he c h1 h2
    cases q : bt (beh e) c
    · rfl
    · rw [hbeh e he, zy_yv pk3 h2] at q
      have no : ∀ e, e < 12 → bt (K (12 * i + e)) c = true → False := fun e he b => by
        rw [u1.2 i hi e he c h1 h2] at b; exact absurd b (by decide)
      rcases q with ⟨q1, ⟨q2, q⟩ | ⟨q2, q⟩⟩ | ⟨q1, ⟨q2, q⟩ | ⟨q2, q⟩⟩ | ⟨q1, ⟨q2, q⟩ | ⟨q2, q⟩⟩ | ⟨q1, q2, q3, ⟨q4, q⟩ | ⟨q4, q⟩⟩
      · exact (no _ (hb.elim id (fun k => absurd q1 k.1)) q).elim
      · exact (no _ (by omega) q).elim
      · exact (no _ (ha q1) q).elim
      · exact (no _ (by omega) q).elim
      · exact (no _ (hb.elim id (fun k => absurd q1 k.2)) q).elim
      · exact (no _ (by omega) q).elim
      · omega
      · exact (no _ (by omega) q).elim
  have tn1 : zt_jump (zh_op O i) → (A (192 + i)).toNatClampNeg < n := by
    intro w; rcases e1 with e | e
    · exact e.2.1
    · exact absurd w e.1
  have tn2 : zt_fall (zh_op O i) → i + 1 < n := by
    intro w; rcases e2 with e | e
    · exact e.2.1
    · exact absurd w e.1
  have tn3 : zh_cg F T 8 (nI i) → g < n := by
    intro w; rcases e3 with e | e
    · exact e.2.1
    · exact absurd w e.1
  obtain ⟨a1, l1, g1, k1, m1⟩ := zy_oneS hn hw12 e1 u1 (fun q => fy _ (tn1 q) (tj q)) (fun _ => fz)
  obtain ⟨a2, l2, g2, k2, m2⟩ := zy_oneS hn hw12 e2 a1 (fun q => fy _ (tn2 q) (tf q)) (fun _ => fz)
  obtain ⟨a3, l3, g3, k3, m3⟩ := zy_oneS hn (by decide) e3 a2 (fun q Z hZ e he c hc b => by
      have q2 := (hZ.2 i hi h0).2 q g (tn3 q) (hg q)
      by_cases h6 : e = 6
      · subst h6
        rw [(hb3 q).2, zb_1 c (by omega)] at b
        have : c = 0 := by simpa using b
        subst this
        exact q2.2
      · rw [(hb3 q).1 e (by omega)] at b
        exact q2.1 e (by omega) c hc (a2.1 Z hZ i hi e (by omega) c hc b)) (fun q e he c h1 h2 => by
      by_cases h6 : e = 6
      · subst h6
        rw [(hb3 q).2, zb_1 c h2]
        have : ¬ c = 0 := by omega
        simp [this]
      · rw [(hb3 q).1 e (by omega)]
        exact a2.2 i hi e (by omega) c h1 h2)
  refine ⟨a3, ?_, by omega, ?_, fun k c b => m3 k c (m2 k c (m1 k c b))⟩
  · rintro (w | w | w)
    · have := l1 w; omega
    · have := l2 w; omega
    · have := l3 w; omega
  · intro q
    obtain ⟨p1, f1⟩ := k1 (fun k => q (Or.inl k))
    obtain ⟨p2, f2⟩ := k2 (fun k => q (Or.inr (Or.inl k)))
    obtain ⟨p3, f3⟩ := k3 (fun k => q (Or.inr (Or.inr k)))
    subst p1 p2 p3
    refine ⟨rfl, ?_, ?_⟩
    · intro t ht q e he c hc b
      have b' : bt (beh e) c = true := by
        rw [hbeh e (by omega), zy_yv pk3 (by omega)]; exact b
      rcases q with ⟨q, q2⟩ | ⟨q, rfl⟩
      · have : (A (192 + i)).toNatClampNeg = t := by rw [q2, nI_clamp (by omega)]
        have := f1 q e (by omega) c b'
        rwa [‹(A (192 + i)).toNatClampNeg = t›] at this
      · exact f2 q e (by omega) c b'
    · intro q t ht q2 
      have eg : g = t := (nI_eq hg2 (by omega)).mp ((hg q).symm.trans q2)
      subst eg
      refine ⟨fun e he c hc b => f3 q e (by omega) c (by rw [(hb3 q).1 e he]; exact b), f3 q 6 (by omega) 0 (by rw [(hb3 q).2]; decide)⟩
/-- the facts about classes that Y's walks ask for -/
def zy_cls (u : SY) (fc rf : Nat → Int32) : Prop := (∀ c, c < 4 → gY_up u c ≠ -2 → zc_row (gY_up u) (gY_ints u) (gY_references u) fc rf c) ∧ (∀ c, c < 4 → gY_up u c ≠ -2 → zc_dp (gY_up u) 4 (nI c))
/-- the draft behind the heights, as Y's kinds need it -/
def zy_env (O A F T G a up fc : Nat → Int32) (n : Nat) : Prop := zk_env O A F T G a n ∧ ∀ i, i < n → a i ≠ 0 → zy_at O A a up fc i (zh_ht (a i))
theorem y_passes {post : Int32 → SY → Prop} {u : SY} {fc rf : Nat → Int32} {n m i : Nat} (hcl : zy_cls u fc rf) (hi : i < n) (env : zy_env (gY_ops u) (gY_args u) (gY_from u) (gY_to u) (gY_goal u) (gY_heights u) (gY_up u) fc n) (h0 : gY_heights u i ≠ 0)
  {C : (Nat → Nat → Nat → Prop) → Prop} (eC : C = zy_C rf (gY_ops u) (gY_args u) (gY_from u) (gY_to u) (gY_goal u) (gY_heights u) n m) {L : (Nat → Nat → Nat → Prop) → Nat → Prop} (eL : L = zy_cl rf (gY_ops u) (gY_args u) (gY_from u) (gY_to u) (gY_goal u) (gY_heights u) n) (u1 : zy_lo C n (gY_kinds u))
  (h : ∀ (K b : Nat → Int32) (hh : Int32) (c : Prop), zy_sp C (fun Z => L Z i) n (gY_kinds u) K c → post (zp c) (sY_height_kinds_behind hh K b u)) : wpY_passes post u (nI i) := by
  subst eC eL
  obtain ⟨⟨hn, hn0, ho, hg, hj, hf, hP⟩, hat⟩ := id env
  obtain ⟨hr, hd⟩ := id hcl
  have e192 : (192 : Int32) + nI i = nI (192 + i) := by rw [show (192 : Int32) = nI 192 from rfl, nI_add]
  have v216 : vp_in (192 + nI i) 216 := by rw [e192]; exact vp_in_nI (by omega) (by decide)
  refine upY_passes ⟨v216, nm_e (y_does hr hd (by omega) (hat i hi h0) (fun beh hbeh => ?_))⟩
  rw [e192, nI_clamp (by omega)]
  obtain ⟨o24, eo, fo⟩ := zi_of (ho i hi)
  have eop : zh_op (gY_ops u) i = (gY_ops u (192 + i)).toNatClampNeg := rfl
  rw [← eop] at o24 eo fo
  rw [eo]
  have H6 := zh_ht6 (gY_heights u i)
  have hPi := hP i hi h0
  have eb : zk_b (gY_ops u) (gY_args u) (gY_heights u) i = 6 + zh_ht (gY_heights u i) - zh_P (gY_ops u) (gY_args u) i := rfl
  have ew : 6 + (zh_ht (gY_heights u i) - zh_P (gY_ops u) (gY_args u) i + zh_Q (gY_ops u) i) = zk_b (gY_ops u) (gY_args u) (gY_heights u) i + zh_Q (gY_ops u) i := by rw [eb]; omega
  have gex : ∃ g, g < 2 ^ 31 ∧ (zh_cg (gY_from u) (gY_to u) 8 (nI i) → g < n ∧ gY_goal u 8 = nI g) := by
    by_cases w : zh_cg (gY_from u) (gY_to u) 8 (nI i)
    · obtain ⟨g, h1, h2⟩ := hg i hi w
      exact ⟨g, by omega, fun _ => ⟨h1, h2⟩⟩
    · exact ⟨0, by decide, fun k => absurd k w⟩
  obtain ⟨g, hg31, hg'⟩ := gex
  have hb : zk_b (gY_ops u) (gY_args u) (gY_heights u) i < 12 ∨ (zh_op (gY_ops u) i ≠ 3 ∧ zh_op (gY_ops u) i ≠ 20) := by
    by_cases w : zh_op (gY_ops u) i = 3
    · refine Or.inl ?_
      have : zh_P (gY_ops u) (gY_args u) i = 1 := by unfold zh_P; rw [w]; rfl
      omega
    · by_cases w2 : zh_op (gY_ops u) i = 20
      · refine Or.inl ?_
        have : zh_P (gY_ops u) (gY_args u) i = 1 := by unfold zh_P; rw [w2]; rfl
        omega
      · exact Or.inr ⟨w, w2⟩
  have ha : ∀ o, o = 2 ∨ o = 3 → zh_op (gY_ops u) i = o → (gY_args u (192 + i)).toNatClampNeg < 12 := by
    intro o ho2 w
    obtain ⟨j, hj, ej⟩ := zi_fj fo (show zi_lim (zh_op (gY_ops u) i) = 6 by rw [w]; rcases ho2 with rfl | rfl <;> rfl) (by decide)
    rw [ej, nI_clamp (by omega)]; omega
  have hj' : zt_jump (zh_op (gY_ops u) i) → gY_args u (192 + i) = nI (gY_args u (192 + i)).toNatClampNeg := by
    intro w
    obtain ⟨t, ht, et⟩ := hj i hi w
    rw [et, nI_clamp (by omega)]
  rw [ew] at hbeh
  have key : ∀ (b3 K1 K2 K3 : Nat → Int32) (c1 c2 c3 : Prop), _ → _ → _ → _ → _ := fun b3 K1 K2 K3 c1 c2 c3 hb3 e1 e2 e3 => zy_three (rf := rf) (m := m) (g := g) (w := zk_b (gY_ops u) (gY_args u) (gY_heights u) i + zh_Q (gY_ops u) i) (beh := beh) (beh3 := b3) (K1 := K1) (K2 := K2) (K3 := K3) (c1 := c1) (c2 := c2) (c3 := c3) hn hi h0 u1 o24 rfl (by omega) hbeh (ha 2 (Or.inl rfl)) (ha 3 (Or.inr rfl)) hb (fun w => (hg' w).2) hj' hg31 hb3 e1 e2 e3
  -- the catcher
  have third : ∀ (K1 K2 : Nat → Int32) (c1 c2 : Prop), zy_one n (zt_jump (zh_op (gY_ops u) i)) (gY_args u (192 + i)).toNatClampNeg (zk_b (gY_ops u) (gY_args u) (gY_heights u) i + zh_Q (gY_ops u) i) beh (gY_kinds u) K1 c1 → zy_one n (zt_fall (zh_op (gY_ops u) i)) (i + 1) (zk_b (gY_ops u) (gY_args u) (gY_heights u) i + zh_Q (gY_ops u) i) beh K1 K2 c2 → ∀ hh, kY_passes_57 post (nI i) (zp (c1 ∨ c2)) (sY_height_kinds_behind hh K2 beh u) := by
    intro K1 K2 c1 c2 e1 e2 hh
    refine uY_passes_57 (y_isCaught (zp_br (fun w => ⟨zp_n _, ?_⟩) (fun w => ⟨7, ?_⟩)))
    · have := h K2 beh hh _ (key beh K1 K2 K2 c1 c2 False (fun k => absurd k w) e1 e2 (Or.inr ⟨w, rfl, fun k => k⟩))
      rw [zp_c (show (c1 ∨ c2 ∨ False) ↔ (c1 ∨ c2) by simp)] at this
      exact this
    · have w' := hg' w
      have lp : ∀ d k b, k + d = 6 → (∀ e, e < k → b e = K2 (12 * i + e)) → kY_passes_70 post (nI i) (zp (c1 ∨ c2)) (d + 1) (nI k) (sY_height_kinds_behind hh K2 b u) := by
        intro d
        induction d with
        | zero =>
          intro k b hk hb2
          have : k = 6 := by omega
          subst this
          refine uY_passes_70 (br_t (by decide) (nm_e ?_))
          show wpY_meet _ (sY_height_behind 1 (upd b 6 1) (sY_height_kinds_behind hh K2 b u)) (gY_goal u 8)
          rw [w'.2, sY_hbk]
          refine y_meet (w := 1) (by omega) (by decide) rfl (fun c3 hc3 => ?_)
          rw [sY_gk2, sY_gb2] at hc3
          rw [zp_or, sY_kkhb, sY_gk2, sY_gb2]
          refine ⟨zp_n _, ?_⟩
          have := h _ (upd b 6 1) 1 _ (key (upd b 6 1) K1 K2 _ c1 c2 c3 (fun _ => ⟨fun e he => by rw [pk_un (by omega)]; exact hb2 e he, pk_us⟩) e1 e2 (Or.inl ⟨w, w'.1, rfl, hc3⟩))
          rw [zp_c (show (c1 ∨ c2 ∨ c3) ↔ ((c1 ∨ c2) ∨ c3) from or_assoc.symm)] at this
          exact this
        | succ d ih =>
          intro k b hk hb2
          have e12 : (12 : Int32) * nI i + nI k = nI (12 * i + k) := by rw [show (12 : Int32) = nI 12 from rfl, pk_mul, nI_add]
          refine uY_passes_70 (br_f (nI_ge (b := 6) (by omega) (by decide)) ⟨by rw [e12]; exact vp_in_nI (by omega) (by decide), vp_in_nI (by omega) (by decide), nm_e (nm_r (nI_1 k) ?_)⟩)
          show kY_passes_70 post (nI i) (zp (c1 ∨ c2)) (d + 1) (nI (k + 1)) (sY_height_kinds_behind hh K2 (upd b (nI k).toNatClampNeg (K2 (12 * nI i + nI k).toNatClampNeg)) u)
          rw [e12, nI_clamp (by omega), nI_clamp (by omega)]
          refine ih (k + 1) _ (by omega) (fun e he => ?_)
          by_cases q : e = k
          · subst q; exact pk_us
          · rw [pk_un q]; exact hb2 e (by omega)
      exact lp 6 0 beh rfl (fun e he => absurd he (by omega))
  have wh : zh_ht (gY_heights u i) - zh_P (gY_ops u) (gY_args u) i + zh_Q (gY_ops u) i ≤ 6 := hPi.2
  have second : ∀ (K1 : Nat → Int32) (c1 : Prop), zy_one n (zt_jump (zh_op (gY_ops u) i)) (gY_args u (192 + i)).toNatClampNeg (zk_b (gY_ops u) (gY_args u) (gY_heights u) i + zh_Q (gY_ops u) i) beh (gY_kinds u) K1 c1 → kY_passes_40 post (nI i) (nI (zh_op (gY_ops u) i)) (zp c1) (sY_height_kinds_behind (nI (zh_ht (gY_heights u i) - zh_P (gY_ops u) (gY_args u) i + zh_Q (gY_ops u) i)) K1 beh u) := by
    intro K1 c1 e1
    refine uY_passes_40 (yt_fall o24 (zp_br (fun w => ?_) (fun w => ?_)))
    · have := third K1 K1 c1 False e1 (Or.inr ⟨w, rfl, fun k => k⟩) (nI (zh_ht (gY_heights u i) - zh_P (gY_ops u) (gY_args u) i + zh_Q (gY_ops u) i))
      rw [zp_c (show (c1 ∨ False) ↔ c1 by simp)] at this
      exact this
    · rw [nI_1]
      have fw := hf i hi h0 w
      refine y_meet (by omega) wh rfl (fun c2 hc2 => nm_r (zp_or _ _) ?_)
      rw [sY_gk2, sY_gb2] at hc2
      rw [sY_kkhb, sY_gk2, sY_gb2]
      have := third K1 _ c1 c2 e1 (Or.inl ⟨w, fw, rfl, by rw [← ew]; exact hc2⟩) (nI (zh_ht (gY_heights u i) - zh_P (gY_ops u) (gY_args u) i + zh_Q (gY_ops u) i))
      rw [← ew] at this
      exact this
  refine yt_jump o24 (zp_br (fun w => ?_) (fun w => ⟨by rw [← e192]; exact v216, ?_⟩))
  · have := second _ False (Or.inr ⟨w, rfl, fun k => k⟩)
    rw [zp_f (fun k => k)] at this
    exact this
  · obtain ⟨t, ht, et⟩ := hj i hi w
    show wpY_meet _ _ (gY_args u (192 + i))
    rw [et]
    refine y_meet (by omega) wh rfl (fun c1 hc1 => ?_)
    rw [sY_gk3, sY_gb3] at hc1
    rw [sY_khb, sY_gk3, sY_gb3]
    have q := second _ c1 (Or.inl ⟨w, by rw [et, nI_clamp (by omega)]; exact ht, rfl, by rw [et, nI_clamp (by omega), ← ew]; exact hc1⟩)
    rw [et, nI_clamp (by omega), ← ew] at q
    exact q
