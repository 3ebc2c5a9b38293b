/-! X takes the draft -/
def zt_cp (f R : Nat → Int32) (m n : Nat) : Nat → Int32 := fun k => if 24 * m ≤ k ∧ k < 24 * m + n then f (k - 24 * m) else R k
theorem zt_cp0 {f R : Nat → Int32} {m : Nat} : zt_cp f R m 0 = R := by
  funext k
  unfold zt_cp
  rw [if_neg (by omega)]
theorem zt_cps {f R : Nat → Int32} {m j : Nat} {x : Int32} (h : x = f j) : upd (zt_cp f R m j) (24 * m + j) x = zt_cp f R m (j + 1) := by
  funext k
  by_cases z : k = 24 * m + j
  · subst z
    rw [pk_us, h]
    unfold zt_cp
    rw [if_pos (by omega), show 24 * m + j - 24 * m = j by omega]
  · rw [pk_un z]
    unfold zt_cp
    by_cases w : 24 * m ≤ k ∧ k < 24 * m + j
    · rw [if_pos w, if_pos (by omega)]
    · rw [if_neg w, if_neg (by omega)]
theorem zt_out {f R : Nat → Int32} {m n k : Nat} (h : k < 24 * m ∨ 24 * m + n ≤ k) : zt_cp f R m n k = R k := by
  unfold zt_cp
  rw [if_neg (by omega)]
theorem zt_in {f R : Nat → Int32} {m n i : Nat} (h : i < n) : zt_cp f R m n (24 * m + i) = f i := by
  unfold zt_cp
  rw [if_pos (by omega), show 24 * m + i - 24 * m = i by omega]
def zt_gh (a : Nat → Int32) : Nat → Nat
  | 0 => 0
  | n + 1 => if (if a n = 0 then 0 else zh_ht (a n)) ≤ zt_gh a n then zt_gh a n else (if a n = 0 then 0 else zh_ht (a n))
theorem zt_gh6 (a : Nat → Int32) : ∀ n, zt_gh a n ≤ 6 := by
  intro n
  induction n with
  | zero => exact Nat.zero_le _
  | succ n ih =>
    have := zh_ht6 (a n)
    unfold zt_gh
    repeat' split
    all_goals omega
def zt_rm (a xr : Nat → Int32) (i : Nat) : Int32 := if a i = 0 then -1 else xr i
theorem x_greatest {post : Int32 → Prop} {u : SX} {n : Nat} (hn : n ≤ 24) (en : gX_lengths u 8 = nI n) (h : post (nI (zt_gh (gX_heights u) n))) : wpX_greatestHeight post u := by
  have z : ∀ d i, i + d = n → kX_greatestHeight_4 post (d + 1) (nI (zt_gh (gX_heights u) i)) (nI i) u := by
    intro d
    induction d with
    | zero =>
      intro i hi
      have : i = n := by omega
      subst this
      refine uX_greatestHeight_4 (br_t ?_ h)
      rw [en]; exact Int32.le_refl _
    | succ d ih =>
      intro i hi
      have g6 := zt_gh6 (gX_heights u) i
      have h6 := zh_ht6 (gX_heights u i)
      have st : ∀ q, q ≤ 6 → q = (if gX_heights u i = 0 then 0 else zh_ht (gX_heights u i)) → kX_greatestHeight_33 post (fun x1 x2 => kX_greatestHeight_4 post (d + 1) x1 x2 u) (nI (zt_gh (gX_heights u) i)) (nI i) (nI q) u := by
        intro q hq eq
        have e : zt_gh (gX_heights u) (i + 1) = if q ≤ zt_gh (gX_heights u) i then zt_gh (gX_heights u) i else q := by
          rw [eq]; rfl
        have nx := ih (i + 1) (by omega)
        rw [e] at nx
        refine uX_greatestHeight_33 (br_i (nI_leI (by omega) (by omega)) (fun w => nm_r (nI_1 i) ?_) (fun w => nm_r (nI_1 i) ?_))
        · rw [if_pos w] at nx; exact nx
        · rw [if_neg w] at nx; exact nx
      refine uX_greatestHeight_4 (br_f ?_ ⟨vp_in_nI (by omega) (by decide), ?_⟩)
      · rw [en]; exact nI_ge (by omega) (by omega)
      · rw [nI_clamp (by omega)]
        refine br_c (fun w => st 0 (by omega) (by rw [if_pos w])) (fun w => x_heightAt (by omega) (st _ h6 (by rw [if_neg w])))
  exact upX_greatestHeight ⟨n + 1, z n 0 (by omega)⟩
theorem x_takeDraft {post : SX → Prop} {u : SX} {fp : Int32} {O A L F T G RM BH FW CO a xi xr : Nat → Int32} {n m : Nat} (hm : m < 8) (hn : n ≤ 24) (en : L 8 = nI n)
  (h : post (mX fp (zt_cp (fun i => O (192 + i)) O m n) (zt_cp (fun i => A (192 + i)) A m n) (upd L m (nI n)) (upd F m (F 8)) (upd T m (T 8)) (upd G m (G 8)) (zt_cp (zt_rm a xr) RM m n) (zt_cp (fun i => nI (zh_ht (a i))) BH m n) (upd FW m (nI (9 + zt_gh a n))) CO a xi xr u)) : wpX_takeDraft post (mX fp O A L F T G RM BH FW CO a xi xr u) (nI m) := by
  have cm : (nI m).toNatClampNeg = m := nI_clamp (by omega)
  have z : ∀ d j, j + d = n → kX_takeDraft_10 post (nI m) (nI n) (d + 1) (nI j) (mX fp (zt_cp (fun i => O (192 + i)) O m j) (zt_cp (fun i => A (192 + i)) A m j) L F T G (zt_cp (zt_rm a xr) RM m j) (zt_cp (fun i => nI (zh_ht (a i))) BH m j) FW CO a xi xr u) := by
    intro d
    induction d with
    | zero =>
      intro j hj
      have : j = n := by omega
      subst this
      have v9 : vp_in (nI m) 9 := vp_in_nI (by omega) (by decide)
      refine uX_takeDraft_10 (br_t (Int32.le_refl _) ⟨v9, nm_e ⟨v9, nm_e ⟨v9, nm_e ⟨v9, nm_e ?_⟩⟩⟩⟩)
      rw [cm, mX_lengths, mX_catchFrom, mX_catchTo, mX_catchGoal, mX__lengths_catchFrom_catchTo_catchGoal]
      refine x_greatest (n := j) hn ?_ ⟨vp_in_nI hm (by decide), nm_e ?_⟩
      · rw [mX_lengths, pk_un (by omega)]; exact en
      · rw [mX_frameWords, mX_heights, mX__lengths_catchFrom_catchTo_catchGoal_frameWords, show (9 : Int32) = nI 9 from rfl, nI_add]
        exact h
    | succ d ih =>
      intro j hj
      have e192 : (192 : Int32) + nI j = nI (192 + j) := by rw [show (192 : Int32) = nI 192 from rfl, nI_add]
      have e24 : nI m * 24 + nI j = nI (24 * m + j) := by rw [show (24 : Int32) = nI 24 from rfl, pk_mul, nI_add, Nat.mul_comm]
      have v1 : vp_in (192 + nI j) 216 := by rw [e192]; exact vp_in_nI (by omega) (by decide)
      have v2 : vp_in (nI m * 24 + nI j) 216 := by rw [e24]; exact vp_in_nI (by omega) (by decide)
      have v3 : vp_in (nI m * 24 + nI j) 192 := by rw [e24]; exact vp_in_nI (by omega) (by decide)
      have v4 : vp_in (nI j) 24 := vp_in_nI (by omega) (by decide)
      refine uX_takeDraft_10 (br_f (nI_ge (by omega) (by omega)) ⟨v1, v2, nm_e ⟨v1, v2, nm_e ⟨v4, ?_⟩⟩⟩)
      have c1 : (192 + nI j).toNatClampNeg = 192 + j := by rw [e192, nI_clamp (by omega)]
      have c2 : (nI m * 24 + nI j).toNatClampNeg = 24 * m + j := by rw [e24, nI_clamp (by omega)]
      have c3 : (nI j).toNatClampNeg = j := nI_clamp (by omega)
      have o1 : zt_cp (fun i => O (192 + i)) O m j (192 + j) = O (192 + j) := zt_out (by omega)
      have o2 : zt_cp (fun i => A (192 + i)) A m j (192 + j) = A (192 + j) := zt_out (by omega)
      rw [c1, c2, c3, mX_ops, mX_operands, mX_heights, mX_refKinds, mX__ops_operands, o1, o2, zt_cps (f := fun i => O (192 + i)) (x := O (192 + j)) rfl, zt_cps (f := fun i => A (192 + i)) (x := A (192 + j)) rfl]
      have st : ∀ q, q = zt_rm a xr j → kX_takeDraft_86 post (kX_takeDraft_10 post (nI m) (nI n) (d + 1)) (nI m) (nI n) (nI j) q (nI m * 24 + nI j) (mX fp (zt_cp (fun i => O (192 + i)) O m (j + 1)) (zt_cp (fun i => A (192 + i)) A m (j + 1)) L F T G (zt_cp (zt_rm a xr) RM m j) (zt_cp (fun i => nI (zh_ht (a i))) BH m j) FW CO a xi xr u) := by
        intro q eq
        refine uX_takeDraft_86 ⟨v3, nm_e ?_⟩
        rw [c2, mX_refMaps, mX__refMaps]
        refine x_heightAt (by omega) ⟨v3, nm_e (nm_r (nI_1 j) ?_)⟩
        rw [mX_bodyHeights, mX_heights, mX__refMaps_bodyHeights, zt_cps eq, zt_cps (f := fun i => nI (zh_ht (a i))) (x := nI (zh_ht (a j))) rfl]
        exact ih (j + 1) (by omega)
      exact br_c (fun w => st (-1) (by unfold zt_rm; rw [if_pos w])) (fun w => ⟨v4, st (xr j) (by unfold zt_rm; rw [if_neg w])⟩)
  have q := z n 0 (by omega)
  rw [zt_cp0, zt_cp0, zt_cp0, zt_cp0] at q
  exact upX_takeDraft (nm_r (by rw [mX_lengths]; exact en) ⟨_, q⟩)
theorem x_dropCode {post : SX → Prop} {u : SX} {fp : Int32} {O A L F T G RM BH FW CO a xi xr : Nat → Int32} {m : Nat} (hm : m < 8) (h : post (mX fp O A L F T G RM BH FW (zt_cp (fun _ => 0) CO m 24) a xi xr u)) : wpX_dropCode post (mX fp O A L F T G RM BH FW CO a xi xr u) (nI m) := by
  have z : ∀ d j, j + d = 24 → kX_dropCode_2 post (nI m) (d + 1) (nI j) (mX fp O A L F T G RM BH FW (zt_cp (fun _ => 0) CO m j) a xi xr u) := by
    intro d
    induction d with
    | zero =>
      intro j hj
      have : j = 24 := by omega
      subst this
      exact uX_dropCode_2 (br_t (by decide) h)
    | succ d ih =>
      intro j hj
      have e24 : nI m * 24 + nI j = nI (24 * m + j) := by rw [show (24 : Int32) = nI 24 from rfl, pk_mul, nI_add, Nat.mul_comm]
      refine uX_dropCode_2 (br_f (nI_ge (b := 24) (by omega) (by decide)) ⟨by rw [e24]; exact vp_in_nI (by omega) (by decide), nm_e (nm_r (nI_1 j) ?_)⟩)
      rw [e24, nI_clamp (by omega), mX_codeOps, mX__codeOps, zt_cps rfl]
      exact ih (j + 1) (by omega)
  have q := z 24 0 rfl
  rw [zt_cp0] at q
  exact upX_dropCode ⟨_, q⟩
/-- CALLs of m are linked no more -/
def zt_ul (CO CA : Nat → Int32) (x : Int32) (n : Nat) : Nat → Int32 := fun k => if k < n ∧ CO k = 28 ∧ CA k = x then 16 else CO k
theorem x_unlink {post : SX → Prop} {u : SX} {fp : Int32} {O A L F T G RM BH FW CO a xi xr : Nat → Int32} {x : Int32} (h : post (mX fp O A L F T G RM BH FW (zt_ul CO (gX_codeArgs u) x 192) a xi xr u)) : wpX_unlinkCallsOf post (mX fp O A L F T G RM BH FW CO a xi xr u) x := by
  have at_ : ∀ j, zt_ul CO (gX_codeArgs u) x j j = CO j := fun j => by unfold zt_ul; rw [if_neg (by omega)]
  have nx : ∀ j, ¬ (CO j = 28 ∧ gX_codeArgs u j = x) → zt_ul CO (gX_codeArgs u) x j = zt_ul CO (gX_codeArgs u) x (j + 1) := by
    intro j w
    funext k
    unfold zt_ul
    by_cases e : k = j
    · subst e; rw [if_neg (by omega), if_neg (fun q => w q.2)]
    · by_cases q : k < j ∧ CO k = 28 ∧ gX_codeArgs u k = x
      · rw [if_pos q, if_pos ⟨by omega, q.2⟩]
      · rw [if_neg q, if_neg (fun r => q ⟨by omega, r.2⟩)]
  have ns : ∀ j, (CO j = 28 ∧ gX_codeArgs u j = x) → upd (zt_ul CO (gX_codeArgs u) x j) j 16 = zt_ul CO (gX_codeArgs u) x (j + 1) := by
    intro j w
    funext k
    by_cases e : k = j
    · subst e; rw [pk_us]; unfold zt_ul; rw [if_pos ⟨by omega, w⟩]
    · rw [pk_un e]
      unfold zt_ul
      by_cases q : k < j ∧ CO k = 28 ∧ gX_codeArgs u k = x
      · rw [if_pos q, if_pos ⟨by omega, q.2⟩]
      · rw [if_neg q, if_neg (fun r => q ⟨by omega, r.2⟩)]
  have z : ∀ d j, j + d = 192 → kX_unlinkCallsOf_2 post x (d + 1) (nI j) (mX fp O A L F T G RM BH FW (zt_ul CO (gX_codeArgs u) x j) a xi xr u) := by
    intro d
    induction d with
    | zero =>
      intro j hj
      have : j = 192 := by omega
      subst this
      exact uX_unlinkCallsOf_2 (br_t (by decide) h)
    | succ d ih =>
      intro j hj
      have v : vp_in (nI j) 192 := vp_in_nI (by omega) (by decide)
      have i1 := ih (j + 1) (by omega)
      refine uX_unlinkCallsOf_2 (br_f (nI_ge (b := 192) (by omega) (by decide)) ⟨v, ?_⟩)
      rw [nI_clamp (by omega), mX_codeOps, mX_codeArgs, at_]
      refine br_c (fun w => ⟨v, br_c (fun w2 => ⟨v, nm_e (nm_r (nI_1 j) ?_)⟩) (fun w2 => nm_r (nI_1 j) ?_)⟩) (fun w => nm_r (nI_1 j) ?_)
      · rw [mX__codeOps, ns j ⟨w, w2⟩]; exact i1
      · rw [nx j (fun q => w2 q.2)]; exact i1
      · rw [nx j (fun q => w q.1)]; exact i1
  have q := z 192 0 rfl
  rw [show zt_ul CO (gX_codeArgs u) x 0 = CO by funext k; unfold zt_ul; rw [if_neg (by omega)]] at q
  exact upX_unlinkCallsOf ⟨_, q⟩
theorem x_emptyDraft {post : SX → Prop} {u : SX} {fp : Int32} {O A L F T G RM BH FW CO a xi xr : Nat → Int32} (h : post (mX fp O A (upd L 8 0) (upd F 8 0) (upd T 8 0) (upd G 8 0) RM BH FW CO a xi xr u)) : wpX_emptyDraft post (mX fp O A L F T G RM BH FW CO a xi xr u) := by
  refine upX_emptyDraft (nm_e (nm_e (nm_e (nm_e ?_))))
  rw [mX_lengths, mX_catchFrom, mX_catchTo, mX_catchGoal, mX__lengths_catchFrom_catchTo_catchGoal]
  exact h
