/-! the relation -/
def zw_op (O : Nat → Int32) (k : Nat) : Nat := (O k).toNatClampNeg
def zw_P (O A : Nat → Int32) (k : Nat) : Nat := zt_pops (zw_op O k) (A k)
def zw_Q (O : Nat → Int32) (k : Nat) : Nat := zt_push (zw_op O k)
/-- kinds behind an instruction: b is the lowest cell popped or pushed -/
def zw_bh (rf : Nat → Int32) (o : Nat) (a : Int32) (K : Nat → Nat) (b e : Nat) : Nat := if o = 3 then (if e = a.toNatClampNeg then K b else K e) else if o = 2 then (if e = b then K a.toNatClampNeg else K e) else if o = 20 then (if e = b ∨ e = b + 1 then K b else K e) else if e = b then zk_pk rf o a else K e
/-- where an instruction leads: the height and the kinds there -/
def zw_go (rf O A : Nat → Int32) (H : Nat → Nat) (R : Nat → Prop) (K : Nat → Nat → Nat) (m n k t : Nat) : Prop :=
  t < n ∧ R (24 * m + t) ∧ H (24 * m + t) = H k - zw_P O A k + zw_Q O k ∧ ∀ e, e < 6 + H (24 * m + t) → (K (24 * m + t) e = 1 ∨ K (24 * m + t) e = 2) → zw_bh rf (zw_op O k) (A k) (K k) (6 + H k - zw_P O A k) e = K (24 * m + t) e
def zw_ca (F T G : Nat → Int32) (H : Nat → Nat) (R : Nat → Prop) (K : Nat → Nat → Nat) (m n i : Nat) : Prop :=
  zh_cg F T m (nI i) → ∃ g, g < n ∧ G m = nI g ∧ R (24 * m + g) ∧ H (24 * m + g) = 1 ∧ K (24 * m + g) 6 ≠ 2 ∧ ∀ e, e < 6 → (K (24 * m + g) e = 1 ∨ K (24 * m + g) e = 2) → K (24 * m + i) e = K (24 * m + g) e
/-- what looking through has found of one instruction that is reached -/
def zw_at (up fc rf O A F T G RM BH : Nat → Int32) (H : Nat → Nat) (R : Nat → Prop) (K : Nat → Nat → Nat) (m n i : Nat) : Prop :=
  zi_ok (O (24 * m + i)) (A (24 * m + i)) ∧ H (24 * m + i) ≤ 6 ∧ zw_P O A (24 * m + i) ≤ H (24 * m + i) ∧ H (24 * m + i) - zw_P O A (24 * m + i) + zw_Q O (24 * m + i) ≤ 6 ∧ BH (24 * m + i) = nI (H (24 * m + i)) ∧
  (∀ e, e < 32 → (bt (RM (24 * m + i)) e = true ↔ e < 6 + H (24 * m + i) ∧ K (24 * m + i) e = 2)) ∧
  (∀ j, j < zw_P O A (24 * m + i) → zy_nd rf m (zw_op O (24 * m + i)) (A (24 * m + i)) j ≠ 0 → K (24 * m + i) (5 + H (24 * m + i) - j) = zy_nd rf m (zw_op O (24 * m + i)) (A (24 * m + i)) j) ∧
  (zw_op O (24 * m + i) = 2 → K (24 * m + i) (A (24 * m + i)).toNatClampNeg = 1 ∨ K (24 * m + i) (A (24 * m + i)).toNatClampNeg = 2) ∧
  (zt_jump (zw_op O (24 * m + i)) → zw_go rf O A H R K m n (24 * m + i) (A (24 * m + i)).toNatClampNeg) ∧ (zt_fall (zw_op O (24 * m + i)) → zw_go rf O A H R K m n (24 * m + i) (i + 1)) ∧ zw_ca F T G H R K m n i ∧
  (zw_op O (24 * m + i) = 12 ∨ zw_op O (24 * m + i) = 15 → zc_is up (A (24 * m + i))) ∧ (zw_op O (24 * m + i) = 13 ∨ zw_op O (24 * m + i) = 14 → zy_fd up fc (A (24 * m + i)))
/-- a body -/
def zw_OK (up fc rf O A L F T G RM BH FW : Nat → Int32) (H : Nat → Nat) (R : Nat → Prop) (K : Nat → Nat → Nat) (m : Nat) : Prop :=
  ∃ n, 0 < n ∧ n ≤ 24 ∧ L m = nI n ∧ R (24 * m) ∧ H (24 * m) = 0 ∧ (∀ e, e < 6 → (K (24 * m) e = 1 ∨ K (24 * m) e = 2) → K (24 * m) e = zy_in m e) ∧ (∃ w, 9 ≤ w ∧ w ≤ 15 ∧ FW m = nI w) ∧
  (∀ i, i < 24 → R (24 * m + i) → i < n) ∧ (∀ i, i < n → ¬ R (24 * m + i) → RM (24 * m + i) = -1) ∧ ∀ i, i < n → R (24 * m + i) → zw_at up fc rf O A F T G RM BH H R K m n i
def zq_own (sl : Nat → Int32) : Prop := ∀ c, c < 4 → ∀ s, s < 4 → sl (4 * c + s) = -1 ∨ ∃ m, sl (4 * c + s) = nI m ∧ ((s < 2 ∧ (m = 2 ∨ m = 3)) ∨ (2 ≤ s ∧ (m = 4 ∨ m = 5)))
def zq_ini (f : Nat → Int32) : Prop := ∀ c, c < 4 → f c = -1 ∨ f c = nI 0 ∨ f c = nI 1
/-- what is fixed while a run goes on -/
def zR_s (u : SX) (v : SY) : Prop :=
  (gX_superOf u = gY_up v ∧ gX_ownMethods u = gY_slots v ∧ gX_initialisers u = gY_first v ∧ gX_ops u = gY_ops v ∧ gX_operands u = gY_args v ∧ gX_lengths u = gY_length v ∧ gX_catchFrom u = gY_from v ∧ gX_catchTo u = gY_to v ∧ gX_refMaps u = gY_maps v ∧ gX_frameWords u = gY_words v) ∧
  zc_OK (gX_superOf u) (gY_ints v) (gY_references v) (gX_fieldCount u) (gX_refFields u) ∧ zq_own (gX_ownMethods u) ∧ zq_ini (gX_initialisers u) ∧ zr_OK (gX_ops u) (gX_operands u) (gX_lengths u) (gX_catchFrom u) (gX_catchTo u) ∧ zr_go (gX_catchFrom u) (gX_catchTo u) (gX_catchGoal u) (gY_goal v)
def zR_b (u : SX) (H : Nat → Nat) (R : Nat → Prop) (K : Nat → Nat → Nat) : Prop := ∀ m, m < 8 → gX_lengths u m ≠ 0 → zw_OK (gX_superOf u) (gX_fieldCount u) (gX_refFields u) (gX_ops u) (gX_operands u) (gX_lengths u) (gX_catchFrom u) (gX_catchTo u) (gX_catchGoal u) (gX_refMaps u) (gX_bodyHeights u) (gX_frameWords u) H R K m
/-- code of one instruction: lo is the lowest cell -/
def zx_co (o : Nat) (a : Int32) (lo : Nat) (co cc ca : Int32) : Prop :=
  (o = 0 ∧ co = 24 ∧ cc = nI lo ∧ ca = a) ∨ (o = 1 ∧ co = 24 ∧ cc = nI lo ∧ ca = 0) ∨ (o = 2 ∧ co = 25 ∧ cc = nI lo ∧ ca = a) ∨ (o = 3 ∧ co = 25 ∧ cc = a ∧ ca = nI lo) ∨ (o = 20 ∧ co = 25 ∧ cc = nI (lo + 1) ∧ ca = nI lo) ∨ (o = 21 ∧ co = 26 ∧ cc = nI lo ∧ ca = 0) ∨ ((o = 9 ∨ o = 10) ∧ co = 27 ∧ cc = nI lo ∧ ca = a) ∨ (o = 16 ∧ (co = 16 ∨ co = 28) ∧ cc = nI lo ∧ ca = a) ∨ (o ≠ 0 ∧ o ≠ 1 ∧ o ≠ 2 ∧ o ≠ 3 ∧ o ≠ 20 ∧ o ≠ 21 ∧ o ≠ 9 ∧ o ≠ 10 ∧ o ≠ 16 ∧ co = nI o ∧ cc = nI lo ∧ ca = a)
def zR_c1 (O A L CO CC CA cd lk : Nat → Int32) (H : Nat → Nat) (R : Nat → Prop) : Prop :=
  (∀ m, m < 8 → (cd m = 0 ∨ cd m = 1) ∧ (cd m = 0 ↔ CO (24 * m) = 0) ∧ (cd m = 1 → L m ≠ 0) ∧ ∀ i, i < 24 → ((cd m = 0 ∨ ¬ R (24 * m + i)) → CO (24 * m + i) = 0) ∧ (cd m = 1 → R (24 * m + i) → zx_co (zw_op O (24 * m + i)) (A (24 * m + i)) (6 + H (24 * m + i) - zw_P O A (24 * m + i)) (CO (24 * m + i)) (CC (24 * m + i)) (CA (24 * m + i)))) ∧
  (∀ k, k < 192 → (lk k = 0 ∨ lk k = 1) ∧ (lk k = 1 ↔ CO k = 28)) ∧ (∀ k, k < 192 → CO k = 28 → ∃ q, q < 8 ∧ CA k = nI q ∧ L q ≠ 0)
def zR_c (u : SX) (v : SY) (H : Nat → Nat) (R : Nat → Prop) : Prop := zR_c1 (gX_ops u) (gX_operands u) (gX_lengths u) (gX_codeOps u) (gX_codeCells u) (gX_codeArgs u) (gY_coded v) (gY_linked v) H R
/-- references: p says where X has Y's objects, l is Y's objects in X's order -/
def zl_ref (p : Nat → Nat) (l : List Nat) (y x : Int32) : Prop := ∃ o, (o = 0 ∨ o ∈ l) ∧ y = nI o ∧ x = nI (p o)
def zl_val (p : Nat → Nat) (l : List Nat) (k : Nat) (y x : Int32) : Prop := (k = 1 → y = x) ∧ (k = 2 → zl_ref p l y x)
/-- one object: o on Y's side, at q on X's -/
def zl_ob (up fc rf of fl hp : Nat → Int32) (p : Nat → Nat) (l : List Nat) (o q : Nat) : Prop :=
  ∃ c n, c < 4 ∧ up c ≠ -2 ∧ of o = nI (c + 1) ∧ hp q = nI c ∧ fc c = nI n ∧ n ≤ 16 ∧ p o = q ∧ ∀ j, j < n → zl_val p l (if bt (rf c) j then 2 else 1) (fl (16 * o + j)) (hp (q + 1 + j))
def zl_sz (fc of : Nat → Int32) (o : Nat) : Nat := 1 + (fc ((of o).toNatClampNeg - 1)).toNatClampNeg
/-- objects laid one behind another, from q on up to e -/
def zl_lay (up fc rf of fl hp : Nat → Int32) (p : Nat → Nat) (l : List Nat) : List Nat → Nat → Nat → Prop
  | [], q, e => q = e
  | o :: t, q, e => zl_ob up fc rf of fl hp p l o q ∧ zl_lay up fc rf of fl hp p l t (q + zl_sz fc of o) e
def zl_set (of : Nat → Int32) (l : List Nat) : Prop := l.Nodup ∧ of 0 = 0 ∧ ∀ o, o ∈ l ↔ 1 ≤ o ∧ o ≤ 48 ∧ of o ≠ 0
def zR_h1 (up fc rf of fl hp gx gy : Nat → Int32) (he us : Int32) (p : Nat → Nat) (l : List Nat) : Prop :=
  zl_set of l ∧ p 0 = 0 ∧ (∃ e, 1 ≤ e ∧ e ≤ 49 ∧ he = nI e ∧ us = nI (e - 1) ∧ zl_lay up fc rf of fl hp p l l 1 e) ∧ ∀ g, g < 4 → zl_ref p l (gy g) (gx g)
def zR_h (u : SX) (v : SY) (p : Nat → Nat) (l : List Nat) : Prop := zR_h1 (gX_superOf u) (gX_fieldCount u) (gX_refFields u) (gY_of v) (gY_fields v) (gX_heap u) (gX_globals u) (gY_globals v) (gX_heapEnd u) (gY_used v) p l
/-- counts, and what both sides keep alike also while a run goes on -/
def zR_n (u : SX) (v : SY) : Prop := gX_ready u = gY_ready v ∧ gX_frameMethod u = gY_method v ∧ gX_framePlace u = gY_at v ∧ gX_frameWordsUsed u = gY_room v ∧ gX_collections u = gY_collections v ∧ gX_stayed u = gY_stayed v ∧ gX_turnedCount u = gY_codes v ∧ gX_linkedCount u = gY_links v ∧ gX_lastResult u = gY_result v
def zR_t (u : SX) (v : SY) : Prop := gX_wanted u = -1 ∧ gX_faultPlace u = gY_fault v ∧ gX_lastOrigin u = gY_origin v ∧ gX_done u = gY_steps v
/-- the relation at the head of a turn -/
def i_Rel (k : Nat) (u : SX) (v : SY) : Prop := ∃ (H : Nat → Nat) (R : Nat → Prop) (K : Nat → Nat → Nat) (p : Nat → Nat) (l : List Nat), zR_s u v ∧ zR_b u H R K ∧ zR_c u v H R ∧ zR_h u v p l ∧ zR_n u v ∧ zR_t u v
theorem i_up {k : Nat} {u : SX} {v : SY} (h : i_Rel k u v) : i_Rel (k + 5) u v := h
