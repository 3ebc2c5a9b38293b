/-! a method is turned into code and entered -/
def zT_op (o : Nat) : Int32 := if o = 0 ∨ o = 1 then 24 else if o = 2 ∨ o = 3 ∨ o = 20 then 25 else if o = 21 then 26 else if o = 9 ∨ o = 10 then 27 else nI o
def zT_c (o : Nat) (a : Int32) (lw : Nat) : Int32 := if o = 3 then a else if o = 20 then nI (lw + 1) else nI lw
def zT_a (o : Nat) (a : Int32) (lw : Nat) : Int32 := if o = 1 ∨ o = 21 then 0 else if o = 3 ∨ o = 20 then nI lw else a
theorem zT_ok {o : Nat} (ho : o < 24) {a : Int32} {lw : Nat} : zx_co o a lw (zT_op o) (zT_c o a lw) (zT_a o a lw) ∧ zT_op o ≠ 0 ∧ zT_op o ≠ 28 := by
  revert o
  apply zo_24 <;> exact ⟨by unfold zx_co zT_op zT_c zT_a; simp <;> exact Or.inl rfl, by decide, by decide⟩
theorem x_write {post : SX → Prop} {s : SX} {k : Nat} (hk : k < 192) {a b c : Int32} (h : post (sX_codeOps_codeCells_codeArgs (upd (gX_codeOps s) k a) (upd (gX_codeCells s) k b) (upd (gX_codeArgs s) k c) s)) : wpX_writeCode post s (nI k) a b c := by
  have vk : vp_in (nI k) 192 := vp_in_nI hk (by decide)
  refine upX_writeCode ⟨vk, nm_e ⟨vk, nm_e ⟨vk, nm_e ?_⟩⟩⟩
  rw [nI_clamp (by omega)]; exact h
theorem x_turn1 {post : SX → Prop} {s : SX} {k : Nat} (hk : k < 192) {o : Nat} (ho : o < 24) {a : Int32} (ha : o = 16 → ∃ m, m < 8 ∧ a = nI m) {h P : Nat} (eb : gX_bodyHeights s k = nI h) (eP : zt_pops o a = P) (hP : P ≤ h) (h6 : h ≤ 6)
  (hp : post (sX_codeOps_codeCells_codeArgs (upd (gX_codeOps s) k (zT_op o)) (upd (gX_codeCells s) k (zT_c o a (6 + h - P))) (upd (gX_codeArgs s) k (zT_a o a (6 + h - P))) s)) : wpX_turnInstruction post s (nI k) (nI o) a := by
  refine upX_turnInstruction ⟨vp_in_nI hk (by decide), xt_pops ho ha ?_⟩
  rw [nI_clamp (by omega), eb, eP, show (6 : Int32) = nI 6 from rfl, nI_add, pk_sub (by omega)]
  refine nm_e ?_
  clear eP ha
  generalize 6 + h - P = lw at hp ⊢
  revert hp; revert o
  apply zo_24 <;> intro hp <;> repeat (first | exact uX_turnInstruction_214 (x_write hk hp) | exact uX_turnInstruction_201 (x_write hk hp) | exact x_write hk hp | (rw [nI_1]; exact x_write hk hp) | refine br_t (by decide) ?_ | refine br_f (by decide) ?_)
section
variable {u : SX} {v : SY} {he fr wu wa ou lg dn cl sy tc lc us st og an : Int32} {re : Int64} {rd co cc ca hp np gx fm fp ce cd lk of fl gy mk hi lo sk : Nat → Int32}
variable {H : Nat → Nat} {R : Nat → Prop} {K : Nat → Nat → Nat} {p : Nat → Nat} {l : List Nat}
def zT (RM g f : Nat → Int32) (m i k : Nat) : Int32 := if 24 * m ≤ k ∧ k < 24 * m + i ∧ RM k ≠ -1 then g k else f k
theorem zT_s {RM g f : Nat → Int32} {m i : Nat} (h : RM (24 * m + i) ≠ -1) : upd (zT RM g f m i) (24 * m + i) (g (24 * m + i)) = zT RM g f m (i + 1) := by
  funext k
  unfold upd zT
  by_cases e : k = 24 * m + i
  · rw [if_pos e, if_pos (by subst e; exact ⟨by omega, by omega, h⟩), e]
  · rw [if_neg e]
    by_cases q : 24 * m ≤ k ∧ k < 24 * m + i ∧ RM k ≠ -1
    · rw [if_pos q, if_pos ⟨q.1, by omega, q.2.2⟩]
    · rw [if_neg q, if_neg (fun w => q ⟨w.1, by omega, w.2.2⟩)]
theorem zT_n {RM g f : Nat → Int32} {m i : Nat} (h : RM (24 * m + i) = -1) : zT RM g f m i = zT RM g f m (i + 1) := by
  funext k
  unfold zT
  by_cases q : 24 * m ≤ k ∧ k < 24 * m + i ∧ RM k ≠ -1
  · rw [if_pos q, if_pos ⟨q.1, by omega, q.2.2⟩]
  · rw [if_neg q, if_neg (fun w => ?_)]
    by_cases e : k = 24 * m + i
    · subst e; exact w.2.2 h
    · exact q ⟨w.1, by omega, w.2.2⟩
theorem zT_0 {RM g f : Nat → Int32} {m : Nat} : zT RM g f m 0 = f := by
  funext k; unfold zT; rw [if_neg (by omega)]
def zT_g1 (O : Nat → Int32) (k : Nat) : Int32 := zT_op (zw_op O k)
def zT_g2 (O A : Nat → Int32) (H : Nat → Nat) (k : Nat) : Int32 := zT_c (zw_op O k) (A k) (6 + H k - zw_P O A k)
def zT_g3 (O A : Nat → Int32) (H : Nat → Nat) (k : Nat) : Int32 := zT_a (zw_op O k) (A k) (6 + H k - zw_P O A k)
/-- what is reached has a map -/
theorem zw_map {up fc rf O A F T G RM BH : Nat → Int32} {m n i : Nat} (h : zw_at up fc rf O A F T G RM BH H R K m n i) : RM (24 * m + i) ≠ -1 := by
  intro e
  have h2 := h.2.1
  have := (h.2.2.2.2.2.1 31 (by omega)).mp (by rw [e]; decide)
  omega
theorem x_turn17 (hs : zR_s u v) (hb : zR_b u H R K) {post : SX → Prop} {m n : Nat} (hm : m < 8) (hn : n ≤ 24) (el : gX_lengths u m = nI n) (hR : ∀ i, i < n → ¬ R (24 * m + i) → gX_refMaps u (24 * m + i) = -1) (at_ : ∀ i, i < n → R (24 * m + i) → zw_at (gX_superOf u) (gX_fieldCount u) (gX_refFields u) (gX_ops u) (gX_operands u) (gX_catchFrom u) (gX_catchTo u) (gX_catchGoal u) (gX_refMaps u) (gX_bodyHeights u) H R K m n i)
  (hq : post (rX he fr wu wa ou re lg dn cl sy tc lc rd (zT (gX_refMaps u) (zT_g1 (gX_ops u)) co m n) (zT (gX_refMaps u) (zT_g2 (gX_ops u) (gX_operands u) H) cc m n) (zT (gX_refMaps u) (zT_g3 (gX_ops u) (gX_operands u) H) ca m n) hp np gx fm fp ce u)) :
  ∀ d i, i + d = n → kX_turnIntoCode_17 post (nI m) (nI (24 * m)) (d + 1) (nI (24 * m + i)) (rX he fr wu wa ou re lg dn cl sy tc lc rd (zT (gX_refMaps u) (zT_g1 (gX_ops u)) co m i) (zT (gX_refMaps u) (zT_g2 (gX_ops u) (gX_operands u) H) cc m i) (zT (gX_refMaps u) (zT_g3 (gX_ops u) (gX_operands u) H) ca m i) hp np gx fm fp ce u) := by
  intro d
  induction d with
  | zero =>
    intro i hi
    have : i = n := by omega
    subst this
    refine uX_turnIntoCode_17 ⟨vp_in_nI (by omega) (by decide), ?_⟩
    rw [rX_lengths, nI_clamp (by omega), el, nI_add]
    exact br_t (nI_le (by omega) (by omega)) hq
  | succ d ih =>
    intro i hi
    refine uX_turnIntoCode_17 ⟨vp_in_nI (by omega) (by decide), ?_⟩
    rw [rX_lengths, rX_refMaps, rX_ops, rX_operands, nI_clamp (n := m) (by omega), nI_clamp (n := 24 * m + i) (by omega), el, nI_add, nI_1]
    refine br_f (nI_ge (by omega) (by omega)) ⟨vp_in_nI (by omega) (by decide), br_c (fun w => nm_e ?_) (fun w => ⟨vp_in_nI (by omega) (by decide), vp_in_nI (by omega) (by decide), ?_⟩)⟩
    · rw [zT_n w, zT_n w, zT_n w]
      exact ih (i + 1) (by omega)
    · have r : R (24 * m + i) := by
        apply Classical.byContradiction
        intro q; exact w (hR i (by omega) q)
      have a0 := at_ i (by omega) r
      obtain ⟨o24, eo, fit⟩ := zi_of a0.1
      have h6 := a0.2.1
      have hP := a0.2.2.1
      have ebh := a0.2.2.2.2.1
      rw [eo]
      refine x_turn1 (h := H (24 * m + i)) (P := zw_P (gX_ops u) (gX_operands u) (24 * m + i)) (by omega) o24 (zi_call fit) (by rw [rX_bodyHeights]; exact ebh) rfl hP h6 (nm_e ?_)
      rw [rX_codeOps, rX_codeCells, rX_codeArgs, rX__codeOps_codeCells_codeArgs]
      have t1 := zT_s (g := zT_g1 (gX_ops u)) (f := co) w
      have t2 := zT_s (g := zT_g2 (gX_ops u) (gX_operands u) H) (f := cc) w
      have t3 := zT_s (g := zT_g3 (gX_ops u) (gX_operands u) H) (f := ca) w
      have i1 := ih (i + 1) (by omega)
      rw [← t1, ← t2, ← t3] at i1
      exact i1
theorem x_turn (hs : zR_s u v) (hb : zR_b u H R K) {post : SX → Prop} {m n : Nat} (hm : m < 8) (hn : n ≤ 24) (el : gX_lengths u m = nI n) (hR : ∀ i, i < n → ¬ R (24 * m + i) → gX_refMaps u (24 * m + i) = -1) (at_ : ∀ i, i < n → R (24 * m + i) → zw_at (gX_superOf u) (gX_fieldCount u) (gX_refFields u) (gX_ops u) (gX_operands u) (gX_catchFrom u) (gX_catchTo u) (gX_catchGoal u) (gX_refMaps u) (gX_bodyHeights u) H R K m n i)
  (hq : post (rX he fr wu wa ou re lg dn cl sy (tc + 1) lc rd (zT (gX_refMaps u) (zT_g1 (gX_ops u)) co m n) (zT (gX_refMaps u) (zT_g2 (gX_ops u) (gX_operands u) H) cc m n) (zT (gX_refMaps u) (zT_g3 (gX_ops u) (gX_operands u) H) ca m n) hp np gx fm fp ce u)) : wpX_turnIntoCode post (rX he fr wu wa ou re lg dn cl sy tc lc rd co cc ca hp np gx fm fp ce u) (nI m) := by
  refine upX_turnIntoCode (nm_e (nm_e ?_))
  rw [rX_turnedCount, rX__turnedCount, show (24 : Int32) = nI 24 from rfl, pk_mul, Nat.mul_comm]
  have := x_turn17 hs hb hm hn el hR at_ hq n 0 (by omega)
  rw [zT_0, zT_0, zT_0] at this
  exact ⟨_, this⟩
/-- code of a method that has just been turned -/
theorem zT_rel (hb : zR_b u H R K) (hc : zR_c1 (gX_ops u) (gX_operands u) (gX_lengths u) co cc ca cd lk H R) {m n : Nat} (hm : m < 8) (hl : gX_lengths u m ≠ 0) (c0 : cd m = 0) (hn0 : 0 < n) (hn : n ≤ 24) (r0 : R (24 * m)) (hin : ∀ i, i < 24 → R (24 * m + i) → i < n) (hR : ∀ i, i < n → ¬ R (24 * m + i) → gX_refMaps u (24 * m + i) = -1) (at_ : ∀ i, i < n → R (24 * m + i) → zw_at (gX_superOf u) (gX_fieldCount u) (gX_refFields u) (gX_ops u) (gX_operands u) (gX_catchFrom u) (gX_catchTo u) (gX_catchGoal u) (gX_refMaps u) (gX_bodyHeights u) H R K m n i) :
  zR_c1 (gX_ops u) (gX_operands u) (gX_lengths u) (zT (gX_refMaps u) (zT_g1 (gX_ops u)) co m n) (zT (gX_refMaps u) (zT_g2 (gX_ops u) (gX_operands u) H) cc m n) (zT (gX_refMaps u) (zT_g3 (gX_ops u) (gX_operands u) H) ca m n) (upd cd m 1) lk H R := by
  have old : ∀ (g f : Nat → Int32) (m' i : Nat), m' ≠ m → i < 24 → zT (gX_refMaps u) g f m n (24 * m' + i) = f (24 * m' + i) := fun g f m' i h1 h2 => by
    unfold zT; rw [if_neg (by omega)]
  have new : ∀ (g f : Nat → Int32) (i : Nat), i < n → R (24 * m + i) → zT (gX_refMaps u) g f m n (24 * m + i) = g (24 * m + i) := fun g f i h1 h2 => by
    unfold zT; rw [if_pos ⟨by omega, by omega, zw_map (at_ i h1 h2)⟩]
  have nor : ∀ (g f : Nat → Int32) (i : Nat), i < 24 → ¬ R (24 * m + i) → zT (gX_refMaps u) g f m n (24 * m + i) = f (24 * m + i) := fun g f i h1 h2 => by
    unfold zT; rw [if_neg (fun w => w.2.2 (hR i (by omega) h2))]
  have o24 : ∀ i, i < n → R (24 * m + i) → zw_op (gX_ops u) (24 * m + i) < 24 := fun i h1 h2 => (zi_of (at_ i h1 h2).1).1
  refine ⟨fun m' hm' => ?_, fun k hk => ?_, fun k hk w => ?_⟩
  rotate_left 2
  · obtain ⟨m', i, hi, ek⟩ : ∃ m' i, i < 24 ∧ k = 24 * m' + i := ⟨k / 24, k % 24, Nat.mod_lt _ (by decide), by omega⟩
    subst ek
    by_cases e : m' = m
    · subst e
      by_cases r : R (24 * m' + i)
      · rw [new _ _ i (hin i hi r) r] at w
        exact absurd w (zT_ok (a := 0) (lw := 0) (o24 i (hin i hi r) r)).2.2
      · rw [nor _ _ i hi r, ((hc.1 m' hm).2.2.2 i hi).1 (Or.inl c0)] at w
        exact absurd w (by decide)
    · rw [old _ _ m' i e hi] at w ⊢
      exact hc.2.2 _ hk w
  · by_cases e : m' = m
    · subst e
      rw [pk_us]
      have n0 := new (zT_g1 (gX_ops u)) co 0 hn0 r0
      refine ⟨Or.inr rfl, ⟨fun w => absurd w (by decide), fun w => ?_⟩, fun _ => hl, fun i hi => ⟨fun w => ?_, fun _ r => ?_⟩⟩
      · rw [show 24 * m' = 24 * m' + 0 from rfl, n0] at w
        exact absurd w (zT_ok (a := 0) (lw := 0) (o24 0 hn0 r0)).2.1
      · have w : ¬ R (24 * m' + i) := w.resolve_left (by decide)
        rw [nor _ _ i hi w]
        exact ((hc.1 m' hm).2.2.2 i hi).1 (Or.inl c0)
      · have hi2 := hin i hi r
        rw [new _ _ i hi2 r, new _ _ i hi2 r, new _ _ i hi2 r]
        exact (zT_ok (o24 i hi2 r)).1
    · have o0 := old (zT_g1 (gX_ops u)) co m' 0 e (by omega)
      rw [Nat.add_zero] at o0
      rw [pk_un e, o0]
      obtain ⟨q1, q2, q3, q4⟩ := hc.1 m' hm'
      refine ⟨q1, q2, q3, fun i hi => ?_⟩
      rw [old _ _ m' i e hi, old _ _ m' i e hi, old _ _ m' i e hi]
      exact q4 i hi
  · obtain ⟨q1, q2⟩ := hc.2.1 k hk
    refine ⟨q1, ?_⟩
    obtain ⟨m', i, hi, ek⟩ : ∃ m' i, i < 24 ∧ k = 24 * m' + i := ⟨k / 24, k % 24, Nat.mod_lt _ (by decide), by omega⟩
    subst ek
    by_cases e : m' = m
    · subst e
      have z := ((hc.1 m' hm).2.2.2 i hi).1 (Or.inl c0)
      rw [z] at q2
      have no : ¬ lk (24 * m' + i) = 1 := fun w => absurd (q2.mp w) (by decide)
      by_cases r : R (24 * m' + i)
      · rw [new _ _ i (hin i hi r) r]
        exact ⟨fun w => absurd w no, fun w => absurd w (zT_ok (a := 0) (lw := 0) (o24 i (hin i hi r) r)).2.2⟩
      · rw [nor _ _ i hi r, z]; exact q2
    · rw [old _ _ m' i e hi]; exact q2
/-- both make room for a frame -/
theorem enter_both (hs : zR_s u v) (hb : zR_b u H R K) (hc : zR_c1 (gX_ops u) (gX_operands u) (gX_lengths u) co cc ca cd lk H R) {D m : Nat} (hD : D ≤ 13) (hm : m < 8) (hl : gX_lengths u m ≠ 0) :
  ∃ tc' co' cc' ca' cd', zR_c1 (gX_ops u) (gX_operands u) (gX_lengths u) co' cc' ca' cd' lk H R ∧ cd' m = 1 ∧ (∀ q, q < 8 → cd q = 1 → cd' q = 1) ∧
  (∀ post : SX → Prop, kX_enterWanted_23 post (nI m) (rX he (nI D) wu (-1) ou re lg dn cl sy tc' lc rd co' cc' ca' hp np gx fm fp ce u) → wpX_enterWanted post (rX he (nI D) wu (nI m) ou re lg dn cl sy tc lc rd co cc ca hp np gx fm fp ce u)) ∧
  (∀ post : Int32 → SY → Prop, ((wu + gX_frameWords u m ≤ 120 → post 1 (rY us (nI (D + 1)) (wu + gX_frameWords u m) st og an cl sy tc' lc re rd cd' lk of fl gy mk (upd fm D (nI m)) (upd fp D 0) (upd hi D 0) lo sk v)) ∧ (¬ wu + gX_frameWords u m ≤ 120 → post 0 (rY us (nI D) wu st og an cl sy tc' lc re rd cd' lk of fl gy mk fm fp hi lo sk v))) → wpY_enter post (rY us (nI D) wu st og an cl sy tc lc re rd cd lk of fl gy mk fm fp hi lo sk v) (nI m)) := by
  obtain ⟨n, n0, n24, el, r0, h0, kin, fw, hin, hR, at_⟩ := hb m hm hl
  have vm : vp_in (nI m) 8 := vp_in_nI hm (by decide)
  have cm : (nI m).toNatClampNeg = m := nI_clamp (by omega)
  have vD : vp_in (nI D) 14 := vp_in_nI (by omega) (by decide)
  have cD : (nI D).toNatClampNeg = D := nI_clamp (by omega)
  have e24 : nI m * 24 = nI (24 * m) := by rw [show (24 : Int32) = nI 24 from rfl, pk_mul, Nat.mul_comm]
  have y19 : ∀ (tc' : Int32) (cd0 : Nat → Int32) (post : Int32 → SY → Prop), ((wu + gX_frameWords u m ≤ 120 → post 1 (rY us (nI (D + 1)) (wu + gX_frameWords u m) st og an cl sy tc' lc re rd (upd cd0 m 1) lk of fl gy mk (upd fm D (nI m)) (upd fp D 0) (upd hi D 0) lo sk v)) ∧ (¬ wu + gX_frameWords u m ≤ 120 → post 0 (rY us (nI D) wu st og an cl sy tc' lc re rd (upd cd0 m 1) lk of fl gy mk fm fp hi lo sk v))) → kY_enter_19 post (nI m) (rY us (nI D) wu st og an cl sy tc' lc re rd cd0 lk of fl gy mk fm fp hi lo sk v) := by
    intro tc' cd0 post hp
    refine uY_enter_19 ⟨vm, nm_e ⟨vm, ?_⟩⟩
    rw [rY_room, rY_words, rY_depth, rY_method, rY_at, rY_high, rY_coded, cm, cD, ← hs.1.2.2.2.2.2.2.2.2.2, nI_1]
    refine br_c (fun w => ⟨vm, nm_e ⟨vD, nm_e ⟨vD, nm_e ⟨vD, nm_e (nm_e ?_)⟩⟩⟩⟩) (fun w => ?_)
    · rw [rY__depth_room_coded_method_at_high]; exact hp.1 w
    · rw [rY__coded]; exact hp.2 w
  rcases (hc.1 m hm).1 with c0 | c1
  · refine ⟨tc + 1, _, _, _, upd cd m 1, zT_rel hb hc hm hl c0 n0 n24 r0 hin hR at_, pk_us, fun q hq w => ?_, fun post hp => ?_, fun post hp => ?_⟩
    · by_cases e : q = m
      · rw [e]; exact pk_us
      · rw [pk_un e]; exact w
    · refine upX_enterWanted ?_
      rw [rX_wanted, rX__wanted]
      refine upX_isCode ?_
      rw [rX_codeOps, e24, nI_clamp (by omega)]
      exact ⟨vp_in_nI (by omega) (by decide), br_t ((hc.1 m hm).2.1.mp c0) (br_t rfl (x_turn hs hb hm n24 el hR at_ hp))⟩
    · refine upY_enter ⟨vm, ?_⟩
      rw [rY_coded, rY_codes, cm]
      refine br_t c0 (nm_e ?_)
      rw [rY__codes]
      exact y19 _ _ post hp
  · have n0 : ¬ cd m = 0 := by rw [c1]; decide
    refine ⟨tc, co, cc, ca, upd cd m 1, by rw [zu_self c1.symm]; exact hc, pk_us, fun q hq w => ?_, fun post hp => ?_, fun post hp => ?_⟩
    · rw [zu_self c1.symm]; exact w
    · refine upX_enterWanted ?_
      rw [rX_wanted, rX__wanted]
      refine upX_isCode ?_
      rw [rX_codeOps, e24, nI_clamp (by omega)]
      exact ⟨vp_in_nI (by omega) (by decide), br_f (fun w => n0 ((hc.1 m hm).2.1.mpr w)) (br_f (by decide) hp)⟩
    · refine upY_enter ⟨vm, ?_⟩
      rw [rY_coded, rY_codes, cm]
      exact br_f n0 (y19 _ _ post hp)
end
