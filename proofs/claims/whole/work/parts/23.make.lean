/-! make, on each side: four ways to end -/
theorem sX_fpm (x : Int32) (u : SX) : sX_faultPlace x u = (mX x (gX_ops u) (gX_operands u) (gX_lengths u) (gX_catchFrom u) (gX_catchTo u) (gX_catchGoal u) (gX_refMaps u) (gX_bodyHeights u) (gX_frameWords u) (gX_codeOps u) (gX_heights u) (gX_intKinds u) (gX_refKinds u) u) := rfl
theorem sY_fpm (x : Int32) (v : SY) : sY_fault x v = (mY x (gY_height v) (gY_ops v) (gY_args v) (gY_length v) (gY_from v) (gY_to v) (gY_goal v) (gY_words v) (gY_maps v) (gY_coded v) (gY_linked v) (gY_heights v) (gY_kinds v) (gY_behind v) v) := rfl
theorem zf_keq {rf O A F T G a xi xr K : Nat → Int32} {n m : Nat} (hm : m < 8) (env : zk_env O A F T G a n) (hF : zh_F (zh_E O A F T G n) n a) (hs : ∀ i, i < n → a i ≠ 0 → a i = nI (2 ^ zh_ht (a i)))
  (f1 : zk_FX rf O A F T G a n m 1 xi) (f2 : zk_FX rf O A F T G a n m 2 xr) (fy : zy_F rf O A F T G a n m K) {i : Nat} (hi : i < n) : zf_kX rf O A a xi xr m i ↔ zf_kY rf O A a K m i := by
  obtain ⟨hn, hn0, ho, hg, hj, hf, hP⟩ := id env
  by_cases h0 : a i = 0
  · exact ⟨fun w => absurd h0 w.1, fun w => absurd h0 w.1⟩
  have mg := zk_merge hm env hF hs f1 f2 fy hi h0
  have p := hP i hi h0
  have fa := zk_facts (ho i hi)
  have hb : zk_b O A a i = 6 + zh_ht (a i) - zh_P O A i := rfl
  have ix : ∀ k, k < zh_P O A i → zk_b O A a i + (zh_P O A i - 1 - k) = 5 + zh_ht (a i) - k := by intro k hk; omega
  have iy : ∀ k, k < zh_P O A i → 12 * i + 5 + zh_ht (a i) - k = 12 * i + (5 + zh_ht (a i) - k) := by intro k hk; omega
  unfold zf_kX zf_kY
  constructor
  · rintro ⟨_, ⟨k, hk, nd, b⟩ | ⟨k, hk, nd, b⟩ | ⟨o2, b1, b2⟩⟩
    · refine ⟨h0, Or.inr ⟨k, hk, by omega, ?_⟩⟩
      rw [nd, iy k hk]
      rw [ix k hk] at b
      intro w
      rw [(mg.1 _ (by omega)).1.mpr w] at b
      exact absurd b (by decide)
    · refine ⟨h0, Or.inr ⟨k, hk, by omega, ?_⟩⟩
      rw [nd, iy k hk]
      rw [ix k hk] at b
      intro w
      rw [(mg.1 _ (by omega)).2.mpr w] at b
      exact absurd b (by decide)
    · have a6 := (fa.2.2.1 o2).2.2
      refine ⟨h0, Or.inl ⟨o2, fun w => ?_, fun w => ?_⟩⟩
      · rw [(mg.1 _ (by omega)).1.mpr w] at b1; exact absurd b1 (by decide)
      · rw [(mg.1 _ (by omega)).2.mpr w] at b2; exact absurd b2 (by decide)
  · rintro ⟨_, ⟨o2, b1, b2⟩ | ⟨k, hk, nd, b⟩⟩
    · have a6 := (fa.2.2.1 o2).2.2
      exact ⟨h0, Or.inr (Or.inr ⟨o2, zb_f (fun w => b1 ((mg.1 _ (by omega)).1.mp w)), zb_f (fun w => b2 ((mg.1 _ (by omega)).2.mp w))⟩)⟩
    · have nd3 := zy_nd3 rf m (zh_op O i) (A (192 + i)) k fa.1
      have c : zy_nd rf m (zh_op O i) (A (192 + i)) k = 1 ∨ zy_nd rf m (zh_op O i) (A (192 + i)) k = 2 := by omega
      rw [iy k hk] at b
      rcases c with c | c
      · rw [c] at b
        refine ⟨h0, Or.inl ⟨k, hk, c, ?_⟩⟩
        rw [ix k hk]
        exact zb_f (fun w => b ((mg.1 _ (by omega)).1.mp w))
      · rw [c] at b
        refine ⟨h0, Or.inr (Or.inl ⟨k, hk, c, ?_⟩)⟩
        rw [ix k hk]
        exact zb_f (fun w => b ((mg.1 _ (by omega)).2.mp w))
/-- no fault of the first and second kind: what kinds need -/
theorem zk_mkenv {up fc O A F T G a : Nat → Int32} {n : Nat} (hn : n ≤ 24) (hn0 : 0 < n) (ho : ∀ i, i < n → zi_ok (O (192 + i)) (A (192 + i))) (hF : zh_F (zh_E O A F T G n) n a) (hgo : ∀ p, zh_cg F T 8 p → ¬ T 8 ≤ F 8 ∧ ∃ g, g ≤ 24 ∧ G 8 = nI g)
  (nm : ∀ i, i < n → ¬ zm_bad up fc O A n i) (ne : zm_end F T G n = -1) (nh : ∀ i, i < n → ¬ zf_hX O A n a i) : zk_env O A F T G a n ∧ ∀ i, i < n → a i ≠ 0 → a i = nI (2 ^ zh_ht (a i)) := by
  have ns : ∀ i, i < n → a i ≠ 0 → _ := fun i hi h0 => zh_single hF hi h0 (nh i hi)
  refine ⟨⟨hn, hn0, ho, ?_, ?_, fun i hi h0 => (ns i hi h0).2.1, fun i hi h0 => (ns i hi h0).2.2⟩, fun i hi h0 => (ns i hi h0).1⟩
  · intro i hi w
    obtain ⟨w1, g, hg, eg⟩ := hgo _ w
    have : ¬ (¬ T 8 ≤ F 8 ∧ (nI n < T 8 ∨ ¬ G 8 < nI n)) := by
      intro q
      unfold zm_end at ne
      rw [if_pos q] at ne
      exact absurd ne (by decide)
    have lt : G 8 < nI n := by
      by_cases q : G 8 < nI n
      · exact q
      · exact absurd ⟨w1, Or.inr q⟩ this
    rw [eg] at lt
    exact ⟨g, (nI_ltI (by omega) (by omega)).mp lt, eg⟩
  · intro i hi w
    obtain ⟨o24, eo, fo⟩ := zi_of (ho i hi)
    have ep : zh_op O i = (O (192 + i)).toNatClampNeg := rfl
    rw [← ep] at o24 eo fo
    obtain ⟨j, hj, ej⟩ := zi_fj fo (show zi_lim (zh_op O i) = 24 by rcases w with w | w | w <;> rw [w] <;> rfl) (by decide)
    refine ⟨j, ?_, ej⟩
    by_cases q : j < n
    · exact q
    · refine absurd (Or.inl ⟨w, ?_⟩) (nm i hi)
      rw [ej, nI_clamp (by omega)]; omega
theorem zm_24 {F T G : Nat → Int32} {n : Nat} : zm_end F T G n = -1 ∨ zm_end F T G n = 24 := by
  by_cases w : (¬ T 8 ≤ F 8 ∧ (nI n < T 8 ∨ ¬ G 8 < nI n))
  · exact Or.inr (if_pos w)
  · exact Or.inl (if_neg w)
theorem zm_pos {bad : Nat → Prop} {F T G : Nat → Int32} {n : Nat} (hn : n ≤ 24) (h : zm_f bad (zm_end F T G n) n 0 ≠ -1) : (0 : Int32) ≤ zm_f bad (zm_end F T G n) n 0 := by
  rcases zm_m (bad := bad) (e := zm_end F T G n) n 0 (by omega) with ⟨e, _⟩ | ⟨j, _, h2, e⟩
  · rw [e] at h ⊢
    rcases zm_24 (F := F) (T := T) (G := G) (n := n) with q | q
    · exact absurd q h
    · rw [q]; decide
  · rw [e]; exact nI_pos' (by omega)
theorem zf_pos {bad : Nat → Prop} {n : Nat} (hn : n ≤ 24) (h : zf bad n 0 ≠ -1) : (0 : Int32) ≤ zf bad n 0 := by
  rcases zf_m (bad := bad) n 0 (by omega) with ⟨e, _⟩ | ⟨j, _, h2, e⟩
  · exact absurd e h
  · rw [e]; exact nI_pos' (by omega)
theorem zf_all {bad : Nat → Prop} {n : Nat} (hn : n ≤ 24) (h : zf bad n 0 = -1) : ∀ i, i < n → ¬ bad i := by
  rcases zf_m (bad := bad) n 0 (by omega) with ⟨_, w⟩ | ⟨j, _, h2, e⟩
  · exact fun i hi => w i (by omega) (by omega)
  · rw [e] at h; exact absurd h (zn_m1 _ (by omega))
theorem zm_all {bad : Nat → Prop} {F T G : Nat → Int32} {n : Nat} (hn : n ≤ 24) (h : zm_f bad (zm_end F T G n) n 0 = -1) : zm_end F T G n = -1 ∧ ∀ i, i < n → ¬ bad i := by
  rcases zm_m (bad := bad) (e := zm_end F T G n) n 0 (by omega) with ⟨e, w⟩ | ⟨j, _, h2, e⟩
  · exact ⟨e.symm.trans h, fun i hi => w i (by omega) (by omega)⟩
  · rw [e] at h; exact absurd h (zn_m1 _ (by omega))
theorem x_make {post : Int32 → SX → Prop} {u : SX} {n m : Nat} (hm : m < 8) (hn0 : 0 < n) (hn : n ≤ 24) (en : gX_lengths u 8 = nI n) (ho : ∀ i, i < n → zi_ok (gX_ops u (192 + i)) (gX_operands u (192 + i)))
  (hgo : ∀ p, zh_cg (gX_catchFrom u) (gX_catchTo u) 8 p → ¬ gX_catchTo u 8 ≤ gX_catchFrom u 8 ∧ ∃ g, g ≤ 24 ∧ gX_catchGoal u 8 = nI g)
  (pA : ∀ w, w = zm_f (zm_bad (gX_superOf u) (gX_fieldCount u) (gX_ops u) (gX_operands u) n) (zm_end (gX_catchFrom u) (gX_catchTo u) (gX_catchGoal u) n) n 0 → w ≠ -1 → post (-1) (mX w (gX_ops u) (gX_operands u) (gX_lengths u) (gX_catchFrom u) (gX_catchTo u) (gX_catchGoal u) (gX_refMaps u) (gX_bodyHeights u) (gX_frameWords u) (gX_codeOps u) (gX_heights u) (gX_intKinds u) (gX_refKinds u) u))
  (pB : zm_f (zm_bad (gX_superOf u) (gX_fieldCount u) (gX_ops u) (gX_operands u) n) (zm_end (gX_catchFrom u) (gX_catchTo u) (gX_catchGoal u) n) n 0 = -1 → ∀ a, zh_F (zh_E (gX_ops u) (gX_operands u) (gX_catchFrom u) (gX_catchTo u) (gX_catchGoal u) n) n a → ∀ w, w = zf (zf_hX (gX_ops u) (gX_operands u) n a) n 0 → w ≠ -1 → post (-1) (mX w (gX_ops u) (gX_operands u) (gX_lengths u) (gX_catchFrom u) (gX_catchTo u) (gX_catchGoal u) (gX_refMaps u) (gX_bodyHeights u) (gX_frameWords u) (gX_codeOps u) a (gX_intKinds u) (gX_refKinds u) u))
  (pC : zm_f (zm_bad (gX_superOf u) (gX_fieldCount u) (gX_ops u) (gX_operands u) n) (zm_end (gX_catchFrom u) (gX_catchTo u) (gX_catchGoal u) n) n 0 = -1 → ∀ a xi xr, zh_F (zh_E (gX_ops u) (gX_operands u) (gX_catchFrom u) (gX_catchTo u) (gX_catchGoal u) n) n a → zf (zf_hX (gX_ops u) (gX_operands u) n a) n 0 = -1 → zk_env (gX_ops u) (gX_operands u) (gX_catchFrom u) (gX_catchTo u) (gX_catchGoal u) a n → (∀ i, i < n → a i ≠ 0 → a i = nI (2 ^ zh_ht (a i))) → zk_FX (gX_refFields u) (gX_ops u) (gX_operands u) (gX_catchFrom u) (gX_catchTo u) (gX_catchGoal u) a n m 1 xi → zk_FX (gX_refFields u) (gX_ops u) (gX_operands u) (gX_catchFrom u) (gX_catchTo u) (gX_catchGoal u) a n m 2 xr → ∀ w, w = zf (zf_kX (gX_refFields u) (gX_ops u) (gX_operands u) a xi xr m) n 0 → (w ≠ -1 → post (-1) (mX w (gX_ops u) (gX_operands u) (gX_lengths u) (gX_catchFrom u) (gX_catchTo u) (gX_catchGoal u) (gX_refMaps u) (gX_bodyHeights u) (gX_frameWords u) (gX_codeOps u) a xi xr u)) ∧ (w = -1 → post 0 (mX w (zt_cp (fun i => gX_ops u (192 + i)) (gX_ops u) m n) (zt_cp (fun i => gX_operands u (192 + i)) (gX_operands u) m n) (upd (upd (gX_lengths u) m (nI n)) 8 0) (upd (upd (gX_catchFrom u) m (gX_catchFrom u 8)) 8 0) (upd (upd (gX_catchTo u) m (gX_catchTo u 8)) 8 0) (upd (upd (gX_catchGoal u) m (gX_catchGoal u 8)) 8 0) (zt_cp (zt_rm a xr) (gX_refMaps u) m n) (zt_cp (fun i => nI (zh_ht (a i))) (gX_bodyHeights u) m n) (upd (gX_frameWords u) m (nI (9 + zt_gh a n))) (zt_ul (zt_cp (fun _ => 0) (gX_codeOps u) m 24) (gX_codeArgs u) (nI m) 192) a xi xr u))) : wpX_make post u (nI m) := by
  have nl : ¬ gX_lengths u 8 = 0 := by rw [en]; exact nI_ne0 hn0 (by omega)
  refine upX_make (br_f (nI_pos (by omega)) (br_f (nI_ge (b := 8) hm (by decide)) (br_f nl ?_)))
  rw [sX_fpm]
  refine x_missingFault (u := (mX (-1) (gX_ops u) (gX_operands u) (gX_lengths u) (gX_catchFrom u) (gX_catchTo u) (gX_catchGoal u) (gX_refMaps u) (gX_bodyHeights u) (gX_frameWords u) (gX_codeOps u) (gX_heights u) (gX_intKinds u) (gX_refKinds u) u)) hn en ho ?_
  refine br_c (fun w1 => ?_) (fun w1 => ?_)
  · have w1 : zm_f (zm_bad (gX_superOf u) (gX_fieldCount u) (gX_ops u) (gX_operands u) n) (zm_end (gX_catchFrom u) (gX_catchTo u) (gX_catchGoal u) n) n 0 = -1 := w1
    have w1' := zm_all hn w1
    rw [mX_superOf, mX_fieldCount, mX_ops, mX_operands, mX_catchFrom, mX_catchTo, mX_catchGoal, w1, sX_fpm]
    refine x_reachHeights (u := (mX (-1) (gX_ops u) (gX_operands u) (gX_lengths u) (gX_catchFrom u) (gX_catchTo u) (gX_catchGoal u) (gX_refMaps u) (gX_bodyHeights u) (gX_frameWords u) (gX_codeOps u) (gX_heights u) (gX_intKinds u) (gX_refKinds u) u)) hn0 hn en ho (fun i q => (hgo _ q).2) rfl (fun a ha => ?_)
    have ha : zh_F (zh_E (gX_ops u) (gX_operands u) (gX_catchFrom u) (gX_catchTo u) (gX_catchGoal u) n) n a := ha
    rw [mX__heights]
    refine x_heightFault (u := (mX (-1) (gX_ops u) (gX_operands u) (gX_lengths u) (gX_catchFrom u) (gX_catchTo u) (gX_catchGoal u) (gX_refMaps u) (gX_bodyHeights u) (gX_frameWords u) (gX_codeOps u) a (gX_intKinds u) (gX_refKinds u) u)) hn en ho ?_
    rw [mX_ops, mX_operands, mX_heights, mX__faultPlace]
    refine br_c (fun w2 => ?_) (fun w2 => pB w1 a ha _ rfl w2)
    obtain ⟨env, hs⟩ := zk_mkenv hn hn0 ho ha hgo w1'.2 w1'.1 (zf_all hn w2)
    rw [w2]
    refine x_reachKinds (u := (mX (-1) (gX_ops u) (gX_operands u) (gX_lengths u) (gX_catchFrom u) (gX_catchTo u) (gX_catchGoal u) (gX_refMaps u) (gX_bodyHeights u) (gX_frameWords u) (gX_codeOps u) a (gX_intKinds u) (gX_refKinds u) u)) hm en env (fun xi xr h1 h2 => ?_)
    rw [mX__intKinds_refKinds]
    refine x_kindFault (u := (mX (-1) (gX_ops u) (gX_operands u) (gX_lengths u) (gX_catchFrom u) (gX_catchTo u) (gX_catchGoal u) (gX_refMaps u) (gX_bodyHeights u) (gX_frameWords u) (gX_codeOps u) a xi xr u)) hm en env ?_
    rw [mX_refFields, mX_ops, mX_operands, mX_heights, mX_intKinds, mX_refKinds, mX__faultPlace]
    obtain ⟨c1, c2⟩ := pC w1 a xi xr ha w2 env hs h1 h2 _ rfl
    refine br_c (fun w3 => ?_) (fun w3 => c1 w3)
    refine x_takeDraft hm hn en (x_dropCode hm (x_unlink (x_emptyDraft ?_)))
    exact c2 w3
  · rw [mX_superOf, mX_fieldCount, mX_ops, mX_operands, mX_catchFrom, mX_catchTo, mX_catchGoal, sX_fpm]
    exact pA _ rfl w1
theorem y_make {post : Int32 → SY → Prop} {v : SY} {fc rf : Nat → Int32} {n m : Nat} (hcl : zy_cls v fc rf) (hup : ∀ c, c < 4 → gY_up v c = -2 ∨ gY_up v c = -1 ∨ zc_is (gY_up v) (gY_up v c)) (hfc : ∀ p, zc_is (gY_up v) p → ∃ w, w ≤ 16 ∧ zc_at fc p = nI w)
  (hm : m < 8) (hn0 : 0 < n) (hn : n ≤ 24) (en : gY_length v 8 = nI n) (ho : ∀ i, i < n → zi_ok (gY_ops v (192 + i)) (gY_args v (192 + i)))
  (hgo : ∀ p, zh_cg (gY_from v) (gY_to v) 8 p → ¬ gY_to v 8 ≤ gY_from v 8 ∧ ∃ g, g ≤ 24 ∧ gY_goal v 8 = nI g)
  (pA : ∀ w, w = zm_f (zm_bad (gY_up v) fc (gY_ops v) (gY_args v) n) (zm_end (gY_from v) (gY_to v) (gY_goal v) n) n 0 → w ≠ -1 → post (-1) (mY w (gY_height v) (gY_ops v) (gY_args v) (gY_length v) (gY_from v) (gY_to v) (gY_goal v) (gY_words v) (gY_maps v) (gY_coded v) (gY_linked v) (gY_heights v) (gY_kinds v) (gY_behind v) v))
  (pB : zm_f (zm_bad (gY_up v) fc (gY_ops v) (gY_args v) n) (zm_end (gY_from v) (gY_to v) (gY_goal v) n) n 0 = -1 → ∀ a, zh_F (zh_E (gY_ops v) (gY_args v) (gY_from v) (gY_to v) (gY_goal v) n) n a → ∀ w, w = zf (zf_hX (gY_ops v) (gY_args v) n a) n 0 → w ≠ -1 → post (-1) (mY w (gY_height v) (gY_ops v) (gY_args v) (gY_length v) (gY_from v) (gY_to v) (gY_goal v) (gY_words v) (gY_maps v) (gY_coded v) (gY_linked v) a (gY_kinds v) (gY_behind v) v))
  (pC : zm_f (zm_bad (gY_up v) fc (gY_ops v) (gY_args v) n) (zm_end (gY_from v) (gY_to v) (gY_goal v) n) n 0 = -1 → ∀ a K b hh, zh_F (zh_E (gY_ops v) (gY_args v) (gY_from v) (gY_to v) (gY_goal v) n) n a → zf (zf_hX (gY_ops v) (gY_args v) n a) n 0 = -1 → zy_F rf (gY_ops v) (gY_args v) (gY_from v) (gY_to v) (gY_goal v) a n m K → ∀ w, w = zf (zf_kY rf (gY_ops v) (gY_args v) a K m) n 0 → (w ≠ -1 → post (-1) (mY w hh (gY_ops v) (gY_args v) (gY_length v) (gY_from v) (gY_to v) (gY_goal v) (gY_words v) (gY_maps v) (gY_coded v) (gY_linked v) a K b v)) ∧ (w = -1 → ∀ hh' b', post 0 (mY w hh' (zt_cp (fun i => gY_ops v (192 + i)) (gY_ops v) m n) (zt_cp (fun i => gY_args v (192 + i)) (gY_args v) m n) (upd (upd (gY_length v) m (nI n)) 8 0) (upd (upd (gY_from v) m (gY_from v 8)) 8 0) (upd (upd (gY_to v) m (gY_to v 8)) 8 0) (upd (gY_goal v) m (gY_goal v 8)) (upd (gY_words v) m (nI (9 + zt_gy (gY_ops v) (gY_args v) a n))) (zt_cp (zt_rmY a K) (gY_maps v) m n) (upd (gY_coded v) m 0) (zt_ulY (zt_cp (fun i => gY_ops v (192 + i)) (gY_ops v) m n) (zt_cp (fun i => gY_args v (192 + i)) (gY_args v) m n) (gY_linked v) m 192) a K b' v))) : wpY_make post v (nI m) := by
  have nl : ¬ gY_length v 8 = 0 := by rw [en]; exact nI_ne0 hn0 (by omega)
  have r07 : (0 : Int32) ≤ nI m ∧ nI m ≤ 7 := ⟨nI_pos' (by omega), nI_le (b := 7) (by omega) (by decide)⟩
  refine upY_make (yt_in (zp_br (fun z => absurd r07 z) (fun _ => br_f nl ?_)))
  rw [sY_fpm]
  refine y_strange (u := (mY (-1) (gY_height v) (gY_ops v) (gY_args v) (gY_length v) (gY_from v) (gY_to v) (gY_goal v) (gY_words v) (gY_maps v) (gY_coded v) (gY_linked v) (gY_heights v) (gY_kinds v) (gY_behind v) v)) (fc := fc) (rf := rf) hcl hup hn en ho ?_
  rw [mY_up, mY_ops, mY_args, mY_from, mY_to, mY_goal, sY_fpm]
  -- the end where a fault is there
  have m66 : ∀ (s : SY) (w : Int32), w ≠ -1 → (0 : Int32) ≤ w → gY_fault s = w → post (-1) s → kY_make_50 post (nI m) s := by
    intro s w _ h0 e hp
    refine uY_make_50 (br_t (by rw [e]; exact h0) (uY_make_66 (br_f ?_ hp)))
    rw [e]; exact Int32.not_lt.mpr h0
  by_cases w1 : zm_f (zm_bad (gY_up v) fc (gY_ops v) (gY_args v) n) (zm_end (gY_from v) (gY_to v) (gY_goal v) n) n 0 = -1
  · have w1' := zm_all hn w1
    rw [w1]
    refine br_f (by decide) (y_uneven (u := (mY (-1) (gY_height v) (gY_ops v) (gY_args v) (gY_length v) (gY_from v) (gY_to v) (gY_goal v) (gY_words v) (gY_maps v) (gY_coded v) (gY_linked v) (gY_heights v) (gY_kinds v) (gY_behind v) v)) hn0 hn en ho (fun i q => (hgo _ q).2) rfl (fun a ha => ?_))
    have ha : zh_F (zh_E (gY_ops v) (gY_args v) (gY_from v) (gY_to v) (gY_goal v) n) n a := ha
    rw [mY_ops, mY_args, mY__heights, mY__fault]
    have e2 : zf (zf_hY (gY_ops v) (gY_args v) n a) n 0 = zf (zf_hX (gY_ops v) (gY_args v) n a) n 0 := zf_c n 0 (fun j _ hj => (zf_heq ha ha (by omega)).symm)
    rw [e2]
    by_cases w2 : zf (zf_hX (gY_ops v) (gY_args v) n a) n 0 = -1
    · obtain ⟨env, hs⟩ := zk_mkenv hn hn0 ho ha hgo w1'.2 w1'.1 (zf_all hn w2)
      have hat : ∀ i, i < n → a i ≠ 0 → zy_at (gY_ops v) (gY_args v) a (gY_up v) fc i (zh_ht (a i)) := by
        intro i hi h0
        have p := env.2.2.2.2.2.2 i hi h0
        refine ⟨ho i hi, hs i hi h0, p.1, p.2, zh_ht6 _, fun w => ?_⟩
        by_cases q : zc_is (gY_up v) (nI ((gY_args v (192 + i)).toNatClampNeg / 16)) ∧ nI ((gY_args v (192 + i)).toNatClampNeg % 16) < zc_at fc (nI ((gY_args v (192 + i)).toNatClampNeg / 16))
        · obtain ⟨o24, eo, fo⟩ := zi_of (ho i hi)
          have ep : zh_op (gY_ops v) i = (gY_ops v (192 + i)).toNatClampNeg := rfl
          rw [← ep] at o24 eo fo
          obtain ⟨j, hj2, ej⟩ := zi_fj fo (show zi_lim (zh_op (gY_ops v) i) = 64 by rcases w with w | w <;> rw [w] <;> rfl) (by decide)
          have ec : (gY_args v (192 + i)).toNatClampNeg = j := by rw [ej, nI_clamp (by omega)]
          rw [ec] at q
          obtain ⟨x, hx, ex⟩ := hfc _ q.1
          rw [ex] at q
          have lt := (nI_ltI (by omega) (by omega)).mp q.2
          rw [zc_atc (by omega)] at ex
          obtain ⟨c, hc, e2, u2⟩ := q.1
          have : j / 16 = c := (nI_eq (by omega) (by omega)).mp e2
          rw [this] at ex
          exact ⟨j, hj2, ej, by rw [this]; exact u2, x, by rw [this]; exact ex, by omega, hx⟩
        · exact absurd (Or.inr (Or.inr ⟨w, q⟩)) (w1'.2 i hi)
      rw [w2]
      refine uY_make_50 (br_f (by rw [mY_fault]; decide) (y_mixed (u := (mY (-1) (gY_height v) (gY_ops v) (gY_args v) (gY_length v) (gY_from v) (gY_to v) (gY_goal v) (gY_words v) (gY_maps v) (gY_coded v) (gY_linked v) a (gY_kinds v) (gY_behind v) v)) (fc := fc) (rf := rf) hcl hm en ⟨env, hat⟩ (fun K b hh hK => ?_)))
      have hK : zy_F rf (gY_ops v) (gY_args v) (gY_from v) (gY_to v) (gY_goal v) a n m K := hK
      rw [mY_ops, mY_args, mY_heights, mY__height_kinds_behind, mY__fault]
      obtain ⟨c1, c2⟩ := pC w1 a K b hh ha w2 hK _ rfl
      by_cases w3 : zf (zf_kY rf (gY_ops v) (gY_args v) a K m) n 0 = -1
      · refine uY_make_66 (br_t (by rw [mY_fault, w3]; decide) (y_take (fc := fc) (rf := rf) hm hn en hcl.1 hcl.2 hat (fun hh' b' => upY_wipe (nm_e (nm_e (nm_e (nm_e ?_)))))))
        rw [mY_length, mY_from, mY_to, mY__length_from_to]
        exact c2 w3 hh' b'
      · refine uY_make_66 (br_f ?_ (c1 w3))
        rw [mY_fault]; exact Int32.not_lt.mpr (zf_pos hn w3)
    · exact m66 _ _ w2 (zf_pos hn w2) rfl (pB w1 a ha _ rfl w2)
  · exact br_t (zm_pos hn w1) (m66 _ _ w1 (zm_pos hn w1) rfl (pA _ rfl w1))
