/-! the draft as a body -/
/-- all that looking through has found: X's and Y's arrays behind it -/
def zd_ok (up fc rf O A F T G a xi xr K : Nat → Int32) (n m : Nat) : Prop :=
  m < 8 ∧ zk_env O A F T G a n ∧ zh_F (zh_E O A F T G n) n a ∧ (∀ i, i < n → a i ≠ 0 → a i = nI (2 ^ zh_ht (a i))) ∧ zk_FX rf O A F T G a n m 1 xi ∧ zk_FX rf O A F T G a n m 2 xr ∧ zy_F rf O A F T G a n m K ∧
  (∀ i, i < n → ¬ zf_kY rf O A a K m i) ∧ (∀ i, i < n → ¬ zm_bad up fc O A n i)
/-- kinds as plain numbers -/
def zd_k (K : Nat → Int32) (i e : Nat) : Nat := if K (12 * i + e) = 1 then 1 else if K (12 * i + e) = 2 then 2 else 0
theorem zd_k1 {K : Nat → Int32} {i e : Nat} : zd_k K i e = 1 ↔ K (12 * i + e) = 1 := by
  unfold zd_k
  constructor
  · intro h
    split at h
    · assumption
    · split at h <;> omega
  · intro h; rw [if_pos h]
theorem zd_k2 {K : Nat → Int32} {i e : Nat} : zd_k K i e = 2 ↔ K (12 * i + e) = 2 := by
  unfold zd_k
  constructor
  · intro h
    split at h
    · omega
    · split at h
      · assumption
      · omega
  · intro h; rw [if_neg (by rw [h]; decide), if_pos h]
theorem zd_vbh {f : Nat → Prop} {rf : Nat → Int32} {K : Nat → Nat} {q o b e : Nat} {a : Int32} (h : ∀ s, (s < b ∨ (s = b ∧ (o = 3 ∨ o = 20)) ∨ (s = a.toNatClampNeg ∧ o = 2)) → f s → K s = q) (ha : o = 3 → a.toNatClampNeg < b) (v : zk_v f (zk_pk rf o a = q) o a.toNatClampNeg b e) : zw_bh rf o a K b e = q := by
  unfold zw_bh
  rcases v with ⟨v1, v⟩ | ⟨v1, v⟩ | ⟨v1, v⟩ | ⟨v1, v2, v3, v⟩
  · rw [if_pos v1]
    rcases v with ⟨v2, v⟩ | ⟨v2, v3, v⟩
    · rw [if_pos v2]; exact h _ (Or.inr (Or.inl ⟨rfl, Or.inl v1⟩)) v
    · rw [if_neg v2]; exact h _ (Or.inl v3) v
  · rw [if_neg (by omega), if_pos v1]
    rcases v with ⟨v2, v⟩ | ⟨v2, v⟩
    · rw [if_neg (by omega)]; exact h _ (Or.inl v2) v
    · rw [if_pos v2]; exact h _ (Or.inr (Or.inr ⟨rfl, v1⟩)) v
  · rw [if_neg (by omega), if_neg (by omega), if_pos v1]
    rcases v with ⟨v2, v⟩ | ⟨v2, v⟩
    · rw [if_neg (by omega)]; exact h _ (Or.inl v2) v
    · rw [if_pos v2]; exact h _ (Or.inr (Or.inl ⟨rfl, Or.inr v1⟩)) v
  · rw [if_neg v1, if_neg v2, if_neg v3]
    rcases v with ⟨v4, v⟩ | ⟨v4, v⟩
    · rw [if_neg (by omega)]; exact h _ (Or.inl v4) v
    · rw [if_pos v4]; exact v
theorem zy_in12 : ∀ m, m < 8 → ∀ e, e < 6 → (bt (nI (zt_ti m)) e = true → zy_in m e = 1) ∧ (bt (nI (zt_tr m)) e = true → zy_in m e = 2) := by decide
theorem zw_new {up fc rf O A F T G a xi xr K : Nat → Int32} {n m : Nat} (hd : zd_ok up fc rf O A F T G a xi xr K n m) (hfc : ∀ p, zc_is up p → ∃ w, w ≤ 16 ∧ zc_at fc p = nI w)
  {O' A' L' F' T' G' RM' BH' FW' : Nat → Int32} {H : Nat → Nat} {R : Nat → Prop} {k : Nat → Nat → Nat} {w : Nat}
  (eO : ∀ i, i < n → O' (24 * m + i) = O (192 + i)) (eA : ∀ i, i < n → A' (24 * m + i) = A (192 + i)) (eL : L' m = nI n) (eF : F' m = F 8) (eT : T' m = T 8) (eG : G' m = G 8) (eR : ∀ i, i < n → RM' (24 * m + i) = zt_rm a xr i) (eB : ∀ i, i < n → BH' (24 * m + i) = nI (zh_ht (a i))) (eW : FW' m = nI w) (hw : 9 ≤ w ∧ w ≤ 15)
  (gH : ∀ i, i < 24 → H (24 * m + i) = zh_ht (a i)) (gR : ∀ i, i < 24 → (R (24 * m + i) ↔ i < n ∧ a i ≠ 0)) (gK : ∀ i, i < 24 → k (24 * m + i) = zd_k K i) :
  zw_OK up fc rf O' A' L' F' T' G' RM' BH' FW' H R k m := by
  obtain ⟨hm, env, hF, hs, f1, f2, fy, nk, nm⟩ := hd
  obtain ⟨hn, hn0, ho, hg, hj, hf, hP⟩ := id env
  have mg := fun i hi h0 => zk_merge hm env hF hs f1 f2 fy (i := i) hi h0
  have fst := zh_first hn0 hF hs
  have h12 : zh_ht (a 0) = 0 := fst.2
  have m0 := mg 0 hn0 fst.1
  have z0 : (24 * m : Nat) = 24 * m + 0 := rfl
  refine ⟨n, hn0, hn, eL, (gR 0 (by omega)).mpr ⟨hn0, fst.1⟩, (gH 0 (by omega)).trans h12, ?_, ⟨w, hw.1, hw.2, eW⟩, fun i hi r => ((gR i hi).mp r).1, ?_, ?_⟩
  · intro e he q
    rw [z0, gK 0 (by omega)] at q ⊢
    have t := zy_in12 m hm e he
    have me := m0.1 e (by omega)
    rcases q with q | q
    · rw [q]
      have b := me.1.mpr (zd_k1.mp q)
      exact (t.1 (f1.1.1 e (by omega) b)).symm
    · rw [q]
      have b := me.2.mpr (zd_k2.mp q)
      exact (t.2 (f2.1.1 e (by omega) b)).symm
  · intro i hi r
    rw [eR i hi]
    unfold zt_rm
    by_cases q : a i = 0
    · rw [if_pos q]
    · exact absurd ((gR i (by omega)).mpr ⟨hi, q⟩) r
  · intro i hi r
    have h0 := ((gR i (by omega)).mp r).2
    have oo := ho i hi
    have fa := zk_facts oo
    have p := hP i hi h0
    have me := mg i hi h0
    have H6 := zh_ht6 (a i)
    have eop : zw_op O' (24 * m + i) = zh_op O i := by unfold zw_op zh_op; rw [eO i hi]
    have eP : zw_P O' A' (24 * m + i) = zh_P O A i := by unfold zw_P zh_P; rw [eop, eA i hi]
    have eQ : zw_Q O' (24 * m + i) = zh_Q O i := by unfold zw_Q zh_Q; rw [eop]
    have hb : zk_b O A a i = 6 + zh_ht (a i) - zh_P O A i := rfl
    have P2 : zh_P O A i ≤ 2 := zt_pops2 _ _
    unfold zw_at zw_ca
    rw [eop, eP, eQ, eO i hi, eA i hi, gH i (by omega), gK i (by omega), eB i hi, eR i hi, eG]
    -- the kinds where i leads
    have lead : ∀ t, t < n → zk_t O A i t → zw_go rf O' A' H R k m n (24 * m + i) t := by
      intro t ht w
      have nx := zh_next hF hs hi (zh_reached hF hs hi h0) (j := t) (k := zh_ht (a i) - zh_P O A i + zh_Q O i) ⟨ht, Or.inl ⟨p.1, p.2, rfl, w⟩⟩
      unfold zw_go
      rw [eop, eP, eQ, eA i hi, gH i (by omega), gK i (by omega), gH t (by omega), gK t (by omega)]
      have mt := mg t ht nx.1
      refine ⟨ht, (gR t (by omega)).mpr ⟨ht, nx.1⟩, nx.2.1, fun e he q => ?_⟩
      have src : ∀ s, (s < 6 + zh_ht (a i) - zh_P O A i ∨ (s = 6 + zh_ht (a i) - zh_P O A i ∧ (zh_op O i = 3 ∨ zh_op O i = 20)) ∨ (s = (A (192 + i)).toNatClampNeg ∧ zh_op O i = 2)) → s < 6 + zh_ht (a i) := by
        rintro s (h | ⟨h, h2 | h2⟩ | ⟨h, h2⟩)
        · omega
        · have := (fa.2.1 h2).1; omega
        · have := (fa.2.2.2.1 h2).1; omega
        · have := (fa.2.2.1 h2).2.2; omega
      have e12 : e < 12 := by have := zh_ht6 (a t); omega
      have ha3 : zh_op O i = 3 → (A (192 + i)).toNatClampNeg < 6 + zh_ht (a i) - zh_P O A i := by
        intro h; have := fa.2.1 h; omega
      rcases q with q | q
      · rw [q]
        have b := (mt.1 e he).1.mpr (zd_k1.mp q)
        exact zd_vbh (fun s h fs => zd_k1.mpr ((me.1 s (src s h)).1.mp fs)) ha3 ((f1.1.2 i hi h0).1 t ht w e e12 b)
      · rw [q]
        have b := (mt.1 e he).2.mpr (zd_k2.mp q)
        exact zd_vbh (fun s h fs => zd_k2.mpr ((me.1 s (src s h)).2.mp fs)) ha3 ((f2.1.2 i hi h0).1 t ht w e e12 b)
    refine ⟨oo, H6, p.1, p.2, rfl, ?_, ?_, ?_, ?_, ?_, ?_, ?_, ?_⟩
    · intro e he
      unfold zt_rm
      rw [if_neg h0]
      constructor
      · intro b
        by_cases q : e < 6 + zh_ht (a i)
        · exact ⟨q, zd_k2.mpr ((me.1 e q).2.mp b)⟩
        · rw [me.2 e (by omega) he] at b; exact absurd b (by decide)
      · rintro ⟨q1, q2⟩
        exact (me.1 e q1).2.mpr (zd_k2.mp q2)
    · intro j hj2 nd
      have nd3 := zy_nd3 rf m (zh_op O i) (A (192 + i)) j fa.1
      have : K (12 * i + 5 + zh_ht (a i) - j) = nI (zy_nd rf m (zh_op O i) (A (192 + i)) j) := by
        by_cases q : K (12 * i + 5 + zh_ht (a i) - j) = nI (zy_nd rf m (zh_op O i) (A (192 + i)) j)
        · exact q
        · exact absurd ⟨h0, Or.inr ⟨j, hj2, nd, q⟩⟩ (nk i hi)
      rw [show 12 * i + 5 + zh_ht (a i) - j = 12 * i + (5 + zh_ht (a i) - j) by omega] at this
      have c : zy_nd rf m (zh_op O i) (A (192 + i)) j = 1 ∨ zy_nd rf m (zh_op O i) (A (192 + i)) j = 2 := by omega
      rcases c with c | c
      · rw [c] at this ⊢; exact zd_k1.mpr this
      · rw [c] at this ⊢; exact zd_k2.mpr this
    · intro o2
      by_cases q1 : K (12 * i + (A (192 + i)).toNatClampNeg) = 1
      · exact Or.inl (zd_k1.mpr q1)
      · by_cases q2 : K (12 * i + (A (192 + i)).toNatClampNeg) = 2
        · exact Or.inr (zd_k2.mpr q2)
        · exact absurd ⟨h0, Or.inl ⟨o2, q1, q2⟩⟩ (nk i hi)
    · intro w
      obtain ⟨t, ht, et⟩ := hj i hi w
      rw [et, nI_clamp (by omega)]
      exact lead t ht (Or.inl ⟨w, et⟩)
    · intro w
      exact lead (i + 1) (hf i hi h0 w) (Or.inr ⟨w, rfl⟩)
    · intro w
      have w : zh_cg F T 8 (nI i) := by
        unfold zh_cg at w ⊢; rw [eF, eT] at w; exact w
      obtain ⟨g, hg2, eg⟩ := hg i hi w
      have nx := zh_next hF hs hi (zh_reached hF hs hi h0) (j := g) (k := 1) ⟨hg2, Or.inr ⟨w, eg, rfl⟩⟩
      have mt := mg g hg2 nx.1
      refine ⟨g, hg2, eg, (gR g (by omega)).mpr ⟨hg2, nx.1⟩, (gH g (by omega)).trans nx.2.1, ?_, ?_⟩
      · rw [gK g (by omega)]
        intro q
        have b := (mt.1 6 (by omega)).2.mpr (zd_k2.mp q)
        rcases (f2.1.2 i hi h0).2 w g hg2 eg 6 (by decide) b with ⟨q, _⟩ | ⟨q, _⟩
        · omega
        · exact absurd q (by decide)
      · intro e he q
        rw [gK g (by omega)] at q ⊢
        rcases q with q | q
        · rw [q]
          have b := (mt.1 e (by omega)).1.mpr (zd_k1.mp q)
          rcases (f1.1.2 i hi h0).2 w g hg2 eg e (by omega) b with ⟨_, b2⟩ | ⟨_, b2⟩
          · exact zd_k1.mpr ((me.1 e (by omega)).1.mp b2)
          · omega
        · rw [q]
          have b := (mt.1 e (by omega)).2.mpr (zd_k2.mp q)
          rcases (f2.1.2 i hi h0).2 w g hg2 eg e (by omega) b with ⟨_, b2⟩ | ⟨_, b2⟩
          · exact zd_k2.mpr ((me.1 e (by omega)).2.mp b2)
          · omega
    · intro w
      by_cases q : zc_is up (A (192 + i))
      · exact q
      · exact absurd (Or.inr (Or.inl ⟨w, q⟩)) (nm i hi)
    · intro w
      by_cases q : zc_is up (nI ((A (192 + i)).toNatClampNeg / 16)) ∧ nI ((A (192 + i)).toNatClampNeg % 16) < zc_at fc (nI ((A (192 + i)).toNatClampNeg / 16))
      · obtain ⟨o24, eo, fo⟩ := zi_of oo
        have ep : zh_op O i = (O (192 + i)).toNatClampNeg := rfl
        rw [← ep] at o24 eo fo
        obtain ⟨j, hj2, ej⟩ := zi_fj fo (show zi_lim (zh_op O i) = 64 by rcases w with w | w <;> rw [w] <;> rfl) (by decide)
        have ec : (A (192 + i)).toNatClampNeg = j := by rw [ej, nI_clamp (by omega)]
        rw [ec] at q
        obtain ⟨x, hx, ex⟩ := hfc _ q.1
        rw [ex] at q
        have lt := (nI_ltI (by omega) (by omega)).mp q.2
        rw [zc_atc (by omega)] at ex
        obtain ⟨c, hc, e2, u2⟩ := q.1
        have : j / 16 = c := (nI_eq (by omega) (by omega)).mp e2
        rw [this] at ex
        exact ⟨j, hj2, ej, by rw [this]; exact u2, x, by rw [this]; exact ex, by omega, hx⟩
      · exact absurd (Or.inr (Or.inr ⟨w, q⟩)) (nm i hi)
/-- other bodies stay -/
theorem zw_keep {up fc rf O A L F T G RM BH FW O' A' L' F' T' G' RM' BH' FW' : Nat → Int32} {H H' : Nat → Nat} {R R' : Nat → Prop} {K K' : Nat → Nat → Nat} {m : Nat} (h : zw_OK up fc rf O A L F T G RM BH FW H R K m)
  (eO : ∀ i, i < 24 → O' (24 * m + i) = O (24 * m + i)) (eA : ∀ i, i < 24 → A' (24 * m + i) = A (24 * m + i)) (eL : L' m = L m) (eF : F' m = F m) (eT : T' m = T m) (eG : G' m = G m) (eR : ∀ i, i < 24 → RM' (24 * m + i) = RM (24 * m + i)) (eB : ∀ i, i < 24 → BH' (24 * m + i) = BH (24 * m + i)) (eW : FW' m = FW m)
  (gH : ∀ i, i < 24 → H' (24 * m + i) = H (24 * m + i)) (gR : ∀ i, i < 24 → (R' (24 * m + i) ↔ R (24 * m + i))) (gK : ∀ i, i < 24 → K' (24 * m + i) = K (24 * m + i)) : zw_OK up fc rf O' A' L' F' T' G' RM' BH' FW' H' R' K' m := by
  obtain ⟨n, hn0, hn, e1, r0, h0, k0, w, r1, r2, at_⟩ := h
  have z0 : (24 * m : Nat) = 24 * m + 0 := rfl
  refine ⟨n, hn0, hn, eL.trans e1, (gR 0 (by omega)).mpr r0, (gH 0 (by omega)).trans h0, ?_, by rw [eW]; exact w, fun i hi r => r1 i hi ((gR i hi).mp r), fun i hi r => (eR i (by omega)).trans (r2 i hi (fun q => r ((gR i (by omega)).mpr q))), ?_⟩
  · rw [z0, gK 0 (by omega)]; exact k0
  · intro i hi r
    have r' := (gR i (by omega)).mp r
    obtain ⟨a1, a2, a3, a4, a5, a6, a7, a8, a9, a10, a11, a12, a13⟩ := at_ i hi r'
    have eop : zw_op O' (24 * m + i) = zw_op O (24 * m + i) := by unfold zw_op; rw [eO i (by omega)]
    have eP : zw_P O' A' (24 * m + i) = zw_P O A (24 * m + i) := by unfold zw_P; rw [eop, eA i (by omega)]
    have eQ : zw_Q O' (24 * m + i) = zw_Q O (24 * m + i) := by unfold zw_Q; rw [eop]
    have go : ∀ t, zw_go rf O A H R K m n (24 * m + i) t → zw_go rf O' A' H' R' K' m n (24 * m + i) t := by
      intro t g
      have ht : t < n := g.1
      unfold zw_go at g ⊢
      rw [eop, eP, eQ, eA i (by omega), gH i (by omega), gK i (by omega), gH t (by omega), gK t (by omega)]
      exact ⟨g.1, (gR t (by omega)).mpr g.2.1, g.2.2⟩
    unfold zw_at
    rw [eop, eP, eQ, eO i (by omega), eA i (by omega), gH i (by omega), gK i (by omega), eB i (by omega), eR i (by omega)]
    refine ⟨a1, a2, a3, a4, a5, a6, a7, a8, fun w => go _ (a9 w), fun w => go _ (a10 w), ?_, a12, a13⟩
    intro w
    obtain ⟨g, b1, b2, b3, b4, b5, b6⟩ := a11 (by unfold zh_cg at w ⊢; rw [eF, eT] at w; exact w)
    refine ⟨g, b1, eG.trans b2, (gR g (by omega)).mpr b3, (gH g (by omega)).trans b4, ?_, ?_⟩
    · rw [gK g (by omega)]; exact b5
    · rw [gK g (by omega), gK i (by omega)]; exact b6
/-- the greatest height is the same either way -/
theorem zt_ghle {a : Nat → Int32} {B : Nat} : ∀ n, (zt_gh a n ≤ B ↔ ∀ i, i < n → a i ≠ 0 → zh_ht (a i) ≤ B) := by
  intro n
  induction n with
  | zero => exact ⟨fun _ i hi => absurd hi (by omega), fun _ => Nat.zero_le _⟩
  | succ n ih =>
    have e : zt_gh a (n + 1) = if (if a n = 0 then 0 else zh_ht (a n)) ≤ zt_gh a n then zt_gh a n else (if a n = 0 then 0 else zh_ht (a n)) := rfl
    generalize hq : (if a n = 0 then 0 else zh_ht (a n)) = q at e
    have b1 : zt_gh a (n + 1) ≤ B ↔ zt_gh a n ≤ B ∧ q ≤ B := by
      rw [e]
      split <;> omega
    rw [b1, ih]
    constructor
    · rintro ⟨h1, h2⟩ i hi z
      by_cases w : i = n
      · subst w
        rw [if_neg z] at hq
        omega
      · exact h1 i (by omega) z
    · intro h
      refine ⟨fun i hi z => h i (by omega) z, ?_⟩
      by_cases z : a n = 0
      · rw [if_pos z] at hq; omega
      · rw [if_neg z] at hq
        have := h n (by omega) z
        omega
theorem zt_gyle {O A a : Nat → Int32} {B : Nat} : ∀ n, (zt_gy O A a n ≤ B ↔ ∀ i, i < n → a i ≠ 0 → zh_ht (a i) ≤ B ∧ zh_ht (a i) - zh_P O A i + zh_Q O i ≤ B) := by
  intro n
  induction n with
  | zero => exact ⟨fun _ i hi => absurd hi (by omega), fun _ => Nat.zero_le _⟩
  | succ n ih =>
    have e : zt_gy O A a (n + 1) = if a n = 0 then zt_gy O A a n else if max (zh_ht (a n)) (zh_ht (a n) - zh_P O A n + zh_Q O n) ≤ zt_gy O A a n then zt_gy O A a n else max (zh_ht (a n)) (zh_ht (a n) - zh_P O A n + zh_Q O n) := rfl
    constructor
    · intro h i hi z
      rw [e] at h
      by_cases q : i = n
      · subst q
        rw [if_neg z] at h
        split at h <;> omega
      · refine ih.mp ?_ i (by omega) z
        split at h
        · exact h
        · split at h <;> omega
    · intro h
      have i1 := ih.mpr (fun i hi z => h i (by omega) z)
      rw [e]
      split
      · exact i1
      · rename_i z
        have := h n (by omega) z
        split <;> omega
theorem zt_geq {O A F T G a : Nat → Int32} {n : Nat} (env : zk_env O A F T G a n) (hF : zh_F (zh_E O A F T G n) n a) (hs : ∀ i, i < n → a i ≠ 0 → a i = nI (2 ^ zh_ht (a i))) : zt_gh a n = zt_gy O A a n := by
  obtain ⟨hn, hn0, ho, hg, hj, hf, hP⟩ := id env
  refine Nat.le_antisymm ?_ ?_
  · exact (zt_ghle n).mpr (fun i hi z => ((zt_gyle n).mp (Nat.le_refl _) i hi z).1)
  · refine (zt_gyle n).mpr (fun i hi z => ?_)
    have g := (zt_ghle n).mp (Nat.le_refl (zt_gh a n))
    have p := hP i hi z
    refine ⟨g i hi z, ?_⟩
    have gi := g i hi z
    have fa := zk_facts (ho i hi)
    have lead : ∀ t, t < n → zk_t O A i t → zh_ht (a i) - zh_P O A i + zh_Q O i ≤ zt_gh a n := by
      intro t ht w
      have nx := zh_next hF hs hi (zh_reached hF hs hi z) (j := t) (k := zh_ht (a i) - zh_P O A i + zh_Q O i) ⟨ht, Or.inl ⟨p.1, p.2, rfl, w⟩⟩
      have := g t ht nx.1
      omega
    by_cases w1 : zt_fall (zh_op O i)
    · exact lead (i + 1) (hf i hi z w1) (Or.inr ⟨w1, rfl⟩)
    · by_cases w2 : zt_jump (zh_op O i)
      · obtain ⟨t, ht, et⟩ := hj i hi w2
        exact lead t ht (Or.inl ⟨w2, et⟩)
      · have q0 : zh_Q O i = 0 := by
          have : ∀ o, o < 24 → zt_push o = 0 ∨ (o ≠ 8 ∧ o ≠ 18 ∧ o ≠ 19) := by decide
          rcases this _ fa.1 with q | q
          · exact q
          · exact absurd q w1
        omega
