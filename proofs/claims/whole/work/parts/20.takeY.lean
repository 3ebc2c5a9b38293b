/-! Y takes the draft -/
/-- the map of references, from Y's kinds -/
def zt_mk (K : Nat → Int32) (i : Nat) : Nat → Int32
  | 0 => 0
  | w + 1 => if K (12 * i + w) = 2 then zt_mk K i w ||| ((1 : Int32) <<< (nI w &&& 31)) else zt_mk K i w
theorem zt_mkb {K : Nat → Int32} {i : Nat} : ∀ w, w ≤ 12 → ∀ e, e < 32 → (bt (zt_mk K i w) e = true ↔ e < w ∧ K (12 * i + e) = 2) := by
  intro w
  induction w with
  | zero =>
    intro _ e _
    show bt 0 e = true ↔ _
    rw [b_0]
    constructor
    · intro h; exact absurd h (by decide)
    · intro h; omega
  | succ w ih =>
    intro hw e he
    have i1 := ih (by omega) e he
    unfold zt_mk
    by_cases z : K (12 * i + w) = 2
    · rw [if_pos z, b_or, zb_tp w (by omega) e he, Bool.or_eq_true_iff, i1, decide_eq_true_iff]
      constructor
      · rintro (q | rfl)
        · exact ⟨by omega, q.2⟩
        · exact ⟨by omega, z⟩
      · rintro ⟨q1, q2⟩
        by_cases k : e = w
        · exact Or.inr k
        · exact Or.inl ⟨by omega, q2⟩
    · rw [if_neg z, i1]
      constructor
      · intro q; exact ⟨by omega, q.2⟩
      · rintro ⟨q1, q2⟩
        by_cases k : e = w
        · subst k; exact absurd q2 z
        · exact ⟨by omega, q2⟩
/-- Y's map of one instruction -/
def zt_rmY (a K : Nat → Int32) (i : Nat) : Int32 := if a i = 0 then -1 else zt_mk K i (6 + zh_ht (a i))
/-- the greatest height before or behind -/
def zt_gy (O A a : Nat → Int32) : Nat → Nat
  | 0 => 0
  | n + 1 => if a n = 0 then zt_gy O A a n else if max (zh_ht (a n)) (zh_ht (a n) - zh_P O A n + zh_Q O n) ≤ zt_gy O A a n then zt_gy O A a n else max (zh_ht (a n)) (zh_ht (a n) - zh_P O A n + zh_Q O n)
theorem zy_atc {O A O' A' a up fc : Nat → Int32} {i H : Nat} (e1 : O' (192 + i) = O (192 + i)) (e2 : A' (192 + i) = A (192 + i)) (h : zy_at O A a up fc i H) : zy_at O' A' a up fc i H := by
  unfold zy_at zh_P zh_Q zh_op at *
  rw [e1, e2]; exact h
theorem zh_opc {O O' : Nat → Int32} {i : Nat} (e : O' (192 + i) = O (192 + i)) : zh_op O' i = zh_op O i := by unfold zh_op; rw [e]
theorem zh_Pc {O A O' A' : Nat → Int32} {i : Nat} (e1 : O' (192 + i) = O (192 + i)) (e2 : A' (192 + i) = A (192 + i)) : zh_P O' A' i = zh_P O A i := by unfold zh_P; rw [zh_opc e1, e2]
theorem zh_Qc {O O' : Nat → Int32} {i : Nat} (e : O' (192 + i) = O (192 + i)) : zh_Q O' i = zh_Q O i := by unfold zh_Q; rw [zh_opc e]
theorem zv_b0 : vp_nar .boolean 0 = 0 := by decide
theorem zv_b1 : vp_nar .boolean 1 = 1 := by decide
/-- CALLs of m, and m's own, are linked no more -/
def zt_ulY (O A lk : Nat → Int32) (m n : Nat) : Nat → Int32 := fun k => if k < n ∧ (k / 24 = m ∨ (O k = 16 ∧ A k = nI m)) then 0 else lk k
theorem y_take271 {post : SY → Prop} {u : SY} {fp hh : Int32} {O A L F T G W M cd lk a K b : Nat → Int32} {m : Nat} (hm : m < 8) (h : post (mY fp hh O A L F T G W M cd (zt_ulY O A lk m 192) a K b u)) :
  ∃ n, kY_take_271 post (nI m) n 0 (mY fp hh O A L F T G W M cd lk a K b u) := by
  have at_ : ∀ j, zt_ulY O A lk m j j = lk j := fun j => by unfold zt_ulY; rw [if_neg (by omega)]
  have nx : ∀ j, ¬ (j / 24 = m ∨ (O j = 16 ∧ A j = nI m)) → zt_ulY O A lk m j = zt_ulY O A lk m (j + 1) := by
    intro j w
    funext k
    unfold zt_ulY
    by_cases e : k = j
    · subst e; rw [if_neg (by omega), if_neg (fun q => w q.2)]
    · by_cases q : k < j ∧ (k / 24 = m ∨ (O k = 16 ∧ A k = nI m))
      · rw [if_pos q, if_pos ⟨by omega, q.2⟩]
      · rw [if_neg q, if_neg (fun r => q ⟨by omega, r.2⟩)]
  have ns : ∀ j, (j / 24 = m ∨ (O j = 16 ∧ A j = nI m)) → upd (zt_ulY O A lk m j) j 0 = zt_ulY O A lk m (j + 1) := by
    intro j w
    funext k
    by_cases e : k = j
    · subst e; rw [pk_us]; unfold zt_ulY; rw [if_pos ⟨by omega, w⟩]
    · rw [pk_un e]
      unfold zt_ulY
      by_cases q : k < j ∧ (k / 24 = m ∨ (O k = 16 ∧ A k = nI m))
      · rw [if_pos q, if_pos ⟨by omega, q.2⟩]
      · rw [if_neg q, if_neg (fun r => q ⟨by omega, r.2⟩)]
  have z : ∀ d j, j + d = 192 → kY_take_271 post (nI m) (d + 1) (nI j) (mY fp hh O A L F T G W M cd (zt_ulY O A lk m j) a K b u) := by
    intro d
    induction d with
    | zero =>
      intro j hj
      have : j = 192 := by omega
      subst this
      exact uY_take_271 (br_t (by decide) h)
    | succ d ih =>
      intro j hj
      have v : vp_in (nI j) 192 := vp_in_nI (by omega) (by decide)
      have v2 : vp_in (nI j) 216 := vp_in_nI (by omega) (by decide)
      have i1 := ih (j + 1) (by omega)
      have ed : nI j / 24 = nI (j / 24) := pk_div (d := 24) (by omega) (by decide) (by decide)
      refine uY_take_271 (br_f (nI_ge (b := 192) (by omega) (by decide)) ⟨by decide, ?_⟩)
      rw [ed, nI_clamp (by omega), mY_linked, mY_ops, mY_args, zv_b0]
      refine br_i (nI_eq (by omega) (by omega)) (fun w => ⟨v, nm_e (nm_r (nI_1 j) ?_)⟩) (fun w => ⟨v2, br_c (fun w2 => ⟨v2, br_c (fun w3 => ⟨v, nm_e (nm_r (nI_1 j) ?_)⟩) (fun w3 => nm_r (nI_1 j) ?_)⟩) (fun w2 => nm_r (nI_1 j) ?_)⟩)
      · rw [mY__linked, ns j (Or.inl w)]; exact i1
      · rw [mY__linked, ns j (Or.inr ⟨w2, w3⟩)]; exact i1
      · rw [nx j (fun q => q.elim w (fun r => w3 r.2))]; exact i1
      · rw [nx j (fun q => q.elim w (fun r => w2 r.1))]; exact i1
  have q := z 192 0 rfl
  rw [show zt_ulY O A lk m 0 = lk by funext k; unfold zt_ulY; rw [if_neg (by omega)]] at q
  exact ⟨_, q⟩
theorem y_take214 {post : SY → Prop} {J : Int32 → SY → Prop} {u : SY} {fp hh : Int32} {O A L F T G W M cd lk a K b : Nat → Int32} {m i H : Nat} (hm : m < 8) (hi : i < 24) (hH : H ≤ 6)
  (h : J (nI (i + 1)) (mY fp hh O A L F T G W (upd M (24 * m + i) (zt_mk K i (6 + H))) cd lk a K b u)) : kY_take_199 post J (nI m) (nI i) (nI H) (mY fp hh O A L F T G W M cd lk a K b u) := by
  have e24 : (24 : Int32) * nI m + nI i = nI (24 * m + i) := by rw [show (24 : Int32) = nI 24 from rfl, pk_mul, nI_add]
  have v24 : vp_in (24 * nI m + nI i) 192 := by rw [e24]; exact vp_in_nI (by omega) (by decide)
  have c24 : (24 * nI m + nI i).toNatClampNeg = 24 * m + i := by rw [e24, nI_clamp (by omega)]
  have e6 : (6 : Int32) + nI H = nI (6 + H) := by rw [show (6 : Int32) = nI 6 from rfl, nI_add]
  have z : ∀ d j, j + d = 6 + H → kY_take_214 post J (nI m) (nI i) (nI H) (d + 1) (nI j) (mY fp hh O A L F T G W (upd M (24 * m + i) (zt_mk K i j)) cd lk a K b u) := by
    intro d
    induction d with
    | zero =>
      intro j hj
      have : j = 6 + H := by omega
      subst this
      refine uY_take_214 (br_t ?_ (nm_r (nI_1 i) h))
      rw [e6]; exact Int32.le_refl _
    | succ d ih =>
      intro j hj
      have e12 : (12 : Int32) * nI i + nI j = nI (12 * i + j) := by rw [show (12 : Int32) = nI 12 from rfl, pk_mul, nI_add]
      have i1 := ih (j + 1) (by omega)
      refine uY_take_214 (br_f ?_ ⟨by rw [e12]; exact vp_in_nI (by omega) (by decide), ?_⟩)
      · rw [e6]; exact nI_ge (by omega) (by omega)
      · rw [e12, nI_clamp (n := 12 * i + j) (by omega), mY_kinds, mY_maps]
        refine br_c (fun w => ⟨v24, v24, nm_e (nm_r (nI_1 j) ?_)⟩) (fun w => nm_r (nI_1 j) ?_)
        · rw [c24, mY__maps, pk_us]
          have e : zt_mk K i (j + 1) = zt_mk K i j ||| ((1 : Int32) <<< (nI j &&& 31)) := by
            show (if _ then _ else _) = _
            rw [if_pos w]
          rw [e] at i1
          rw [show upd (upd M (24 * m + i) (zt_mk K i j)) (24 * m + i) (zt_mk K i j ||| ((1 : Int32) <<< (nI j &&& 31))) = upd M (24 * m + i) (zt_mk K i j ||| ((1 : Int32) <<< (nI j &&& 31))) by
            funext k; unfold upd; split <;> rfl]
          exact i1
        · have e : zt_mk K i (j + 1) = zt_mk K i j := by
            show (if _ then _ else _) = _
            rw [if_neg w]
          rw [e] at i1
          exact i1
  refine uY_take_199 ⟨v24, nm_e ⟨6 + H + 1, ?_⟩⟩
  rw [c24, mY_maps, mY__maps]
  exact z (6 + H) 0 (by omega)
theorem y_take {post : SY → Prop} {u : SY} {fp hh : Int32} {fc rf : Nat → Int32} {O A L F T G W M cd lk a K b : Nat → Int32} {n m : Nat} (hm : m < 8) (hn : n ≤ 24) (en : L 8 = nI n)
  (hr : ∀ c, c < 4 → gY_up u c ≠ -2 → zc_row (gY_up u) (gY_ints u) (gY_references u) fc rf c) (hd : ∀ c, c < 4 → gY_up u c ≠ -2 → zc_dp (gY_up u) 4 (nI c)) (hat : ∀ i, i < n → a i ≠ 0 → zy_at O A a (gY_up u) fc i (zh_ht (a i)))
  (h : ∀ hh' b', post (mY fp hh' (zt_cp (fun i => O (192 + i)) O m n) (zt_cp (fun i => A (192 + i)) A m n) (upd L m (nI n)) (upd F m (F 8)) (upd T m (T 8)) (upd G m (G 8)) (upd W m (nI (9 + zt_gy O A a n))) (zt_cp (zt_rmY a K) M m n) (upd cd m 0) (zt_ulY (zt_cp (fun i => O (192 + i)) O m n) (zt_cp (fun i => A (192 + i)) A m n) lk m 192) a K b' u)) : wpY_take post (mY fp hh O A L F T G W M cd lk a K b u) (nI m) := by
  have cm : (nI m).toNatClampNeg = m := nI_clamp (by omega)
  have v9 : vp_in (nI m) 9 := vp_in_nI (by omega) (by decide)
  have v8 : vp_in (nI m) 8 := vp_in_nI (by omega) (by decide)
  have upup : ∀ (x y : Int32), upd (upd W m x) m y = upd W m y := fun x y => by funext k; unfold upd; split <;> rfl
  have z : ∀ d j hh' b', j + d = n → kY_take_69 post (nI m) (d + 1) (nI j) (mY fp hh' (zt_cp (fun i => O (192 + i)) O m j) (zt_cp (fun i => A (192 + i)) A m j) (upd L m (nI n)) (upd F m (F 8)) (upd T m (T 8)) (upd G m (G 8)) (upd W m (nI (9 + zt_gy O A a j))) (zt_cp (zt_rmY a K) M m j) (upd cd m 0) lk a K b' u) := by
    intro d
    induction d with
    | zero =>
      intro j hh' b' hj
      have : j = n := by omega
      subst this
      refine uY_take_69 ⟨v9, ?_⟩
      rw [cm, mY_length, pk_us]
      exact br_t (Int32.le_refl _) (y_take271 hm (h hh' b'))
    | succ d ih =>
      intro j hh' b' hj
      have e192 : (192 : Int32) + nI j = nI (192 + j) := by rw [show (192 : Int32) = nI 192 from rfl, nI_add]
      have e24 : (24 : Int32) * nI m + nI j = nI (24 * m + j) := by rw [show (24 : Int32) = nI 24 from rfl, pk_mul, nI_add]
      have v1 : vp_in (192 + nI j) 216 := by rw [e192]; exact vp_in_nI (by omega) (by decide)
      have v2 : vp_in (24 * nI m + nI j) 216 := by rw [e24]; exact vp_in_nI (by omega) (by decide)
      have v3 : vp_in (24 * nI m + nI j) 192 := by rw [e24]; exact vp_in_nI (by omega) (by decide)
      have v4 : vp_in (nI j) 24 := vp_in_nI (by omega) (by decide)
      have c1 : (192 + nI j).toNatClampNeg = 192 + j := by rw [e192, nI_clamp (by omega)]
      have c2 : (24 * nI m + nI j).toNatClampNeg = 24 * m + j := by rw [e24, nI_clamp (by omega)]
      have c3 : (nI j).toNatClampNeg = j := nI_clamp (by omega)
      have o1 : zt_cp (fun i => O (192 + i)) O m j (192 + j) = O (192 + j) := zt_out (by omega)
      have o2 : zt_cp (fun i => A (192 + i)) A m j (192 + j) = A (192 + j) := zt_out (by omega)
      have p1 : zt_cp (fun i => O (192 + i)) O m (j + 1) (192 + j) = O (192 + j) := zt_out (by omega)
      have p2 : zt_cp (fun i => A (192 + i)) A m (j + 1) (192 + j) = A (192 + j) := zt_out (by omega)
      refine uY_take_69 ⟨v9, ?_⟩
      rw [cm, mY_length, pk_us]
      refine br_f (nI_ge (by omega) (by omega)) ⟨v1, v2, nm_e ⟨v1, v2, nm_e ⟨v3, nm_e ⟨v4, ?_⟩⟩⟩⟩
      rw [c1, c2, c3, mY_ops, mY_args, mY_maps, mY_heights, mY__ops_args_maps, o1, o2, zt_cps (f := fun i => O (192 + i)) (x := O (192 + j)) rfl, zt_cps (f := fun i => A (192 + i)) (x := A (192 + j)) rfl]
      refine br_c (fun w => nm_r (nI_1 j) ?_) (fun w => ?_)
      · have i1 := ih (j + 1) hh' b' (by omega)
        rw [zt_cps (by unfold zt_rmY; rw [if_pos w])]
        rw [show zt_gy O A a (j + 1) = zt_gy O A a j by show (if _ then _ else _) = _; rw [if_pos w]] at i1
        exact i1
      · have ha := hat j (by omega) w
        obtain ⟨ho, eH, hP, hQ, hH, hc⟩ := id ha
        refine y_heightAt (H := zh_ht (a j)) (by omega) hH eH (y_does (fc := fc) (rf := rf) hr hd (by omega) (H := zh_ht (a j)) (zy_atc p1 p2 ha) (fun beh _ => ?_))
        rw [mY__height_behind]
        have eQ : zh_P (zt_cp (fun i => O (192 + i)) O m (j + 1)) (zt_cp (fun i => A (192 + i)) A m (j + 1)) j = zh_P O A j := zh_Pc p1 p2
        have eQ2 : zh_Q (zt_cp (fun i => O (192 + i)) O m (j + 1)) j = zh_Q O j := zh_Qc p1
        show ((nI (zh_ht (a j)) ≤ nI (zh_ht (a j) - zh_P (zt_cp (fun i => O (192 + i)) O m (j + 1)) (zt_cp (fun i => A (192 + i)) A m (j + 1)) j + zh_Q (zt_cp (fun i => O (192 + i)) O m (j + 1)) j)) → _) ∧ _
        rw [mY_ops, mY_args, mY_height, eQ, eQ2]
        -- both cases: the greater one
        have go : ∀ q, q = max (zh_ht (a j)) (zh_ht (a j) - zh_P O A j + zh_Q O j) → ∀ h2 : Int32, kY_take_172 post (kY_take_69 post (nI m) (d + 1)) (nI m) (nI j) (nI (zh_ht (a j))) (nI q) (mY fp h2 (zt_cp (fun i => O (192 + i)) O m (j + 1)) (zt_cp (fun i => A (192 + i)) A m (j + 1)) (upd L m (nI n)) (upd F m (F 8)) (upd T m (T 8)) (upd G m (G 8)) (upd W m (nI (9 + zt_gy O A a j))) (upd (zt_cp (zt_rmY a K) M m j) (24 * m + j) (-1)) (upd cd m 0) lk a K beh u) := by
          intro q eq h2
          have q6 : q ≤ 6 := by omega
          have g6 : zt_gy O A a j < 100 := by
            have : ∀ k, zt_gy O A a k ≤ 6 + 0 ∨ True := fun _ => Or.inr trivial
            clear this
            have : ∀ k, k ≤ n → zt_gy O A a k ≤ 6 := by
              intro k
              induction k with
              | zero => intro _; exact Nat.zero_le _
              | succ k ih2 =>
                intro hk
                have i2 := ih2 (by omega)
                by_cases w : a k = 0
                · rw [show zt_gy O A a (k + 1) = zt_gy O A a k by show (if _ then _ else _) = _; rw [if_pos w]]; exact i2
                · obtain ⟨_, _, r1, r2, r3, _⟩ := hat k (by omega) w
                  show (if _ then _ else _) ≤ 6
                  rw [if_neg w]
                  split <;> omega
            have := this j (by omega)
            omega
          have fin : ∀ g, g = zt_gy O A a (j + 1) → kY_take_199 post (kY_take_69 post (nI m) (d + 1)) (nI m) (nI j) (nI (zh_ht (a j))) (mY fp h2 (zt_cp (fun i => O (192 + i)) O m (j + 1)) (zt_cp (fun i => A (192 + i)) A m (j + 1)) (upd L m (nI n)) (upd F m (F 8)) (upd T m (T 8)) (upd G m (G 8)) (upd W m (nI (9 + g))) (upd (zt_cp (zt_rmY a K) M m j) (24 * m + j) (-1)) (upd cd m 0) lk a K beh u) := by
            intro g eg
            subst eg
            refine y_take214 hm (by omega) hH ?_
            rw [show upd (upd (zt_cp (zt_rmY a K) M m j) (24 * m + j) (-1)) (24 * m + j) (zt_mk K j (6 + zh_ht (a j))) = zt_cp (zt_rmY a K) M m (j + 1) by
              rw [← zt_cps (x := zt_mk K j (6 + zh_ht (a j))) (by unfold zt_rmY; rw [if_neg w])]
              funext k; unfold upd; split <;> rfl]
            exact ih (j + 1) h2 beh (by omega)
          have eg : zt_gy O A a (j + 1) = if q ≤ zt_gy O A a j then zt_gy O A a j else q := by
            rw [eq]
            show (if _ then _ else _) = _
            rw [if_neg w]
          refine uY_take_172 ⟨v8, ?_⟩
          rw [cm, mY_words, pk_us, show (9 : Int32) = nI 9 from rfl, nI_add]
          refine br_i (nI_leI (by omega) (by omega)) (fun w2 => fin _ (by rw [eg, if_pos (by omega)])) (fun w2 => ⟨v8, nm_e ?_⟩)
          rw [mY__words, upup]
          exact fin q (by rw [eg, if_neg (by omega)])
        refine br_i (nI_leI (by omega) (by omega)) (fun w2 => go _ (by omega) _) (fun w2 => go _ (by omega) _)
  refine upY_take ⟨v9, nm_e ⟨v9, nm_e ⟨v9, nm_e ⟨v9, nm_e ⟨v8, nm_e ⟨v8, nm_e ⟨n + 1, ?_⟩⟩⟩⟩⟩⟩⟩
  rw [cm, mY_length, mY_from, mY_to, mY_goal, mY_words, mY_coded, zv_b0, mY__length_from_to_goal_words_coded, en]
  have q := z n 0 hh b (by omega)
  rw [zt_cp0, zt_cp0, zt_cp0] at q
  exact q
