/-! the constructors -/
def zx_i : SX := (-1, 1, 0, 0, -1, 0, 10000000000, -1, 0, 0, 0, 0, 0, fun _ => 0, fun _ => 0, fun _ => 0, fun _ => 0, fun _ => 0, fun _ => 0, fun _ => 0, fun _ => 0, fun _ => 0, fun _ => 0, fun _ => 0, fun _ => 0, fun _ => 0, fun _ => 0, fun _ => 0, fun _ => 0, fun _ => 0, fun _ => 0, fun _ => 0, fun _ => 0, fun _ => 0, fun _ => 0, fun _ => 0, fun _ => 0, fun _ => 0, fun _ => 0, fun _ => 0)
def zy_i : SY := (-1, 0, 0, 0, 0, 0, -1, 0, 0, 0, 0, 0, 10000000000, fun _ => 0, fun _ => 0, fun _ => 0, fun _ => 0, fun _ => 0, fun _ => 0, fun _ => 0, fun _ => 0, fun _ => 0, fun _ => 0, fun _ => 0, fun _ => 0, fun _ => 0, fun _ => 0, fun _ => 0, fun _ => 0, fun _ => 0, fun _ => 0, fun _ => 0, fun _ => 0, fun _ => 0, fun _ => 0, fun _ => 0, fun _ => 0, fun _ => 0, fun _ => 0, fun _ => 0, fun _ => 0)
theorem x_init {post : SX → Prop} (h : ∃ n, kX_init_291 post n 0 zx_i) : wpX_init post := h
theorem y_init {post : SY → Prop} (h : ∃ n, kY_init_247 post n 0 zy_i) : wpY_init post := h
def zi_c (x : Int32) (n : Nat) : Nat → Int32 := fun k => if k < n then x else 0
theorem zi_c0 (x : Int32) : zi_c x 0 = fun _ => 0 := by funext k; unfold zi_c; rw [if_neg (by omega)]
theorem zi_cs (x : Int32) (n : Nat) : upd (zi_c x n) n x = zi_c x (n + 1) := by
  funext k
  by_cases e : k = n
  · subst e; rw [pk_us]; unfold zi_c; rw [if_pos (by omega)]
  · rw [pk_un e]
    unfold zi_c
    by_cases q : k < n
    · rw [if_pos q, if_pos (by omega)]
    · rw [if_neg q, if_neg (by omega)]
theorem zi_ct {x : Int32} {n k : Nat} (h : k < n) : zi_c x n k = x := if_pos h
def aX (w_superOf : Nat → Int32) (w_ownMethods : Nat → Int32) (w_initialisers : Nat → Int32) (u : SX) : SX := (gX_faultPlace u, gX_heapEnd u, gX_frames u, gX_frameWordsUsed u, gX_wanted u, gX_outcome u, gX_lastResult u, gX_lastOrigin u, gX_done u, gX_collections u, gX_stayed u, gX_turnedCount u, gX_linkedCount u, w_superOf, gX_fieldCount u, gX_refFields u, w_ownMethods, w_initialisers, gX_ready u, gX_ops u, gX_operands u, gX_lengths u, gX_catchFrom u, gX_catchTo u, gX_catchGoal u, gX_refMaps u, gX_bodyHeights u, gX_frameWords u, gX_codeOps u, gX_codeCells u, gX_codeArgs u, gX_heights u, gX_intKinds u, gX_refKinds u, gX_heap u, gX_newPlaces u, gX_globals u, gX_frameMethod u, gX_framePlace u, gX_cells u)
theorem aX_faultPlace (w_superOf : Nat → Int32) (w_ownMethods : Nat → Int32) (w_initialisers : Nat → Int32) (u : SX) : gX_faultPlace (aX w_superOf w_ownMethods w_initialisers u) = gX_faultPlace u := rfl
theorem aX_heapEnd (w_superOf : Nat → Int32) (w_ownMethods : Nat → Int32) (w_initialisers : Nat → Int32) (u : SX) : gX_heapEnd (aX w_superOf w_ownMethods w_initialisers u) = gX_heapEnd u := rfl
theorem aX_frames (w_superOf : Nat → Int32) (w_ownMethods : Nat → Int32) (w_initialisers : Nat → Int32) (u : SX) : gX_frames (aX w_superOf w_ownMethods w_initialisers u) = gX_frames u := rfl
theorem aX_frameWordsUsed (w_superOf : Nat → Int32) (w_ownMethods : Nat → Int32) (w_initialisers : Nat → Int32) (u : SX) : gX_frameWordsUsed (aX w_superOf w_ownMethods w_initialisers u) = gX_frameWordsUsed u := rfl
theorem aX_wanted (w_superOf : Nat → Int32) (w_ownMethods : Nat → Int32) (w_initialisers : Nat → Int32) (u : SX) : gX_wanted (aX w_superOf w_ownMethods w_initialisers u) = gX_wanted u := rfl
theorem aX_outcome (w_superOf : Nat → Int32) (w_ownMethods : Nat → Int32) (w_initialisers : Nat → Int32) (u : SX) : gX_outcome (aX w_superOf w_ownMethods w_initialisers u) = gX_outcome u := rfl
theorem aX_lastResult (w_superOf : Nat → Int32) (w_ownMethods : Nat → Int32) (w_initialisers : Nat → Int32) (u : SX) : gX_lastResult (aX w_superOf w_ownMethods w_initialisers u) = gX_lastResult u := rfl
theorem aX_lastOrigin (w_superOf : Nat → Int32) (w_ownMethods : Nat → Int32) (w_initialisers : Nat → Int32) (u : SX) : gX_lastOrigin (aX w_superOf w_ownMethods w_initialisers u) = gX_lastOrigin u := rfl
theorem aX_done (w_superOf : Nat → Int32) (w_ownMethods : Nat → Int32) (w_initialisers : Nat → Int32) (u : SX) : gX_done (aX w_superOf w_ownMethods w_initialisers u) = gX_done u := rfl
theorem aX_collections (w_superOf : Nat → Int32) (w_ownMethods : Nat → Int32) (w_initialisers : Nat → Int32) (u : SX) : gX_collections (aX w_superOf w_ownMethods w_initialisers u) = gX_collections u := rfl
theorem aX_stayed (w_superOf : Nat → Int32) (w_ownMethods : Nat → Int32) (w_initialisers : Nat → Int32) (u : SX) : gX_stayed (aX w_superOf w_ownMethods w_initialisers u) = gX_stayed u := rfl
theorem aX_turnedCount (w_superOf : Nat → Int32) (w_ownMethods : Nat → Int32) (w_initialisers : Nat → Int32) (u : SX) : gX_turnedCount (aX w_superOf w_ownMethods w_initialisers u) = gX_turnedCount u := rfl
theorem aX_linkedCount (w_superOf : Nat → Int32) (w_ownMethods : Nat → Int32) (w_initialisers : Nat → Int32) (u : SX) : gX_linkedCount (aX w_superOf w_ownMethods w_initialisers u) = gX_linkedCount u := rfl
theorem aX_superOf (w_superOf : Nat → Int32) (w_ownMethods : Nat → Int32) (w_initialisers : Nat → Int32) (u : SX) : gX_superOf (aX w_superOf w_ownMethods w_initialisers u) = w_superOf := rfl
theorem aX_fieldCount (w_superOf : Nat → Int32) (w_ownMethods : Nat → Int32) (w_initialisers : Nat → Int32) (u : SX) : gX_fieldCount (aX w_superOf w_ownMethods w_initialisers u) = gX_fieldCount u := rfl
theorem aX_refFields (w_superOf : Nat → Int32) (w_ownMethods : Nat → Int32) (w_initialisers : Nat → Int32) (u : SX) : gX_refFields (aX w_superOf w_ownMethods w_initialisers u) = gX_refFields u := rfl
theorem aX_ownMethods (w_superOf : Nat → Int32) (w_ownMethods : Nat → Int32) (w_initialisers : Nat → Int32) (u : SX) : gX_ownMethods (aX w_superOf w_ownMethods w_initialisers u) = w_ownMethods := rfl
theorem aX_initialisers (w_superOf : Nat → Int32) (w_ownMethods : Nat → Int32) (w_initialisers : Nat → Int32) (u : SX) : gX_initialisers (aX w_superOf w_ownMethods w_initialisers u) = w_initialisers := rfl
theorem aX_ready (w_superOf : Nat → Int32) (w_ownMethods : Nat → Int32) (w_initialisers : Nat → Int32) (u : SX) : gX_ready (aX w_superOf w_ownMethods w_initialisers u) = gX_ready u := rfl
theorem aX_ops (w_superOf : Nat → Int32) (w_ownMethods : Nat → Int32) (w_initialisers : Nat → Int32) (u : SX) : gX_ops (aX w_superOf w_ownMethods w_initialisers u) = gX_ops u := rfl
theorem aX_operands (w_superOf : Nat → Int32) (w_ownMethods : Nat → Int32) (w_initialisers : Nat → Int32) (u : SX) : gX_operands (aX w_superOf w_ownMethods w_initialisers u) = gX_operands u := rfl
theorem aX_lengths (w_superOf : Nat → Int32) (w_ownMethods : Nat → Int32) (w_initialisers : Nat → Int32) (u : SX) : gX_lengths (aX w_superOf w_ownMethods w_initialisers u) = gX_lengths u := rfl
theorem aX_catchFrom (w_superOf : Nat → Int32) (w_ownMethods : Nat → Int32) (w_initialisers : Nat → Int32) (u : SX) : gX_catchFrom (aX w_superOf w_ownMethods w_initialisers u) = gX_catchFrom u := rfl
theorem aX_catchTo (w_superOf : Nat → Int32) (w_ownMethods : Nat → Int32) (w_initialisers : Nat → Int32) (u : SX) : gX_catchTo (aX w_superOf w_ownMethods w_initialisers u) = gX_catchTo u := rfl
theorem aX_catchGoal (w_superOf : Nat → Int32) (w_ownMethods : Nat → Int32) (w_initialisers : Nat → Int32) (u : SX) : gX_catchGoal (aX w_superOf w_ownMethods w_initialisers u) = gX_catchGoal u := rfl
theorem aX_refMaps (w_superOf : Nat → Int32) (w_ownMethods : Nat → Int32) (w_initialisers : Nat → Int32) (u : SX) : gX_refMaps (aX w_superOf w_ownMethods w_initialisers u) = gX_refMaps u := rfl
theorem aX_bodyHeights (w_superOf : Nat → Int32) (w_ownMethods : Nat → Int32) (w_initialisers : Nat → Int32) (u : SX) : gX_bodyHeights (aX w_superOf w_ownMethods w_initialisers u) = gX_bodyHeights u := rfl
theorem aX_frameWords (w_superOf : Nat → Int32) (w_ownMethods : Nat → Int32) (w_initialisers : Nat → Int32) (u : SX) : gX_frameWords (aX w_superOf w_ownMethods w_initialisers u) = gX_frameWords u := rfl
theorem aX_codeOps (w_superOf : Nat → Int32) (w_ownMethods : Nat → Int32) (w_initialisers : Nat → Int32) (u : SX) : gX_codeOps (aX w_superOf w_ownMethods w_initialisers u) = gX_codeOps u := rfl
theorem aX_codeCells (w_superOf : Nat → Int32) (w_ownMethods : Nat → Int32) (w_initialisers : Nat → Int32) (u : SX) : gX_codeCells (aX w_superOf w_ownMethods w_initialisers u) = gX_codeCells u := rfl
theorem aX_codeArgs (w_superOf : Nat → Int32) (w_ownMethods : Nat → Int32) (w_initialisers : Nat → Int32) (u : SX) : gX_codeArgs (aX w_superOf w_ownMethods w_initialisers u) = gX_codeArgs u := rfl
theorem aX_heights (w_superOf : Nat → Int32) (w_ownMethods : Nat → Int32) (w_initialisers : Nat → Int32) (u : SX) : gX_heights (aX w_superOf w_ownMethods w_initialisers u) = gX_heights u := rfl
theorem aX_intKinds (w_superOf : Nat → Int32) (w_ownMethods : Nat → Int32) (w_initialisers : Nat → Int32) (u : SX) : gX_intKinds (aX w_superOf w_ownMethods w_initialisers u) = gX_intKinds u := rfl
theorem aX_refKinds (w_superOf : Nat → Int32) (w_ownMethods : Nat → Int32) (w_initialisers : Nat → Int32) (u : SX) : gX_refKinds (aX w_superOf w_ownMethods w_initialisers u) = gX_refKinds u := rfl
theorem aX_heap (w_superOf : Nat → Int32) (w_ownMethods : Nat → Int32) (w_initialisers : Nat → Int32) (u : SX) : gX_heap (aX w_superOf w_ownMethods w_initialisers u) = gX_heap u := rfl
theorem aX_newPlaces (w_superOf : Nat → Int32) (w_ownMethods : Nat → Int32) (w_initialisers : Nat → Int32) (u : SX) : gX_newPlaces (aX w_superOf w_ownMethods w_initialisers u) = gX_newPlaces u := rfl
theorem aX_globals (w_superOf : Nat → Int32) (w_ownMethods : Nat → Int32) (w_initialisers : Nat → Int32) (u : SX) : gX_globals (aX w_superOf w_ownMethods w_initialisers u) = gX_globals u := rfl
theorem aX_frameMethod (w_superOf : Nat → Int32) (w_ownMethods : Nat → Int32) (w_initialisers : Nat → Int32) (u : SX) : gX_frameMethod (aX w_superOf w_ownMethods w_initialisers u) = gX_frameMethod u := rfl
theorem aX_framePlace (w_superOf : Nat → Int32) (w_ownMethods : Nat → Int32) (w_initialisers : Nat → Int32) (u : SX) : gX_framePlace (aX w_superOf w_ownMethods w_initialisers u) = gX_framePlace u := rfl
theorem aX_cells (w_superOf : Nat → Int32) (w_ownMethods : Nat → Int32) (w_initialisers : Nat → Int32) (u : SX) : gX_cells (aX w_superOf w_ownMethods w_initialisers u) = gX_cells u := rfl
def aY (w_up : Nat → Int32) (w_slots : Nat → Int32) (w_first : Nat → Int32) (u : SY) : SY := (gY_fault u, gY_height u, gY_used u, gY_depth u, gY_room u, gY_steps u, gY_origin u, gY_answer u, gY_collections u, gY_stayed u, gY_codes u, gY_links u, gY_result u, w_up, gY_ints u, gY_references u, w_slots, w_first, gY_ready u, gY_ops u, gY_args u, gY_length u, gY_from u, gY_to u, gY_goal u, gY_words u, gY_maps u, gY_coded u, gY_linked u, gY_heights u, gY_kinds u, gY_behind u, gY_of u, gY_fields u, gY_globals u, gY_marked u, gY_method u, gY_at u, gY_high u, gY_locals u, gY_stack u)
theorem aY_fault (w_up : Nat → Int32) (w_slots : Nat → Int32) (w_first : Nat → Int32) (u : SY) : gY_fault (aY w_up w_slots w_first u) = gY_fault u := rfl
theorem aY_height (w_up : Nat → Int32) (w_slots : Nat → Int32) (w_first : Nat → Int32) (u : SY) : gY_height (aY w_up w_slots w_first u) = gY_height u := rfl
theorem aY_used (w_up : Nat → Int32) (w_slots : Nat → Int32) (w_first : Nat → Int32) (u : SY) : gY_used (aY w_up w_slots w_first u) = gY_used u := rfl
theorem aY_depth (w_up : Nat → Int32) (w_slots : Nat → Int32) (w_first : Nat → Int32) (u : SY) : gY_depth (aY w_up w_slots w_first u) = gY_depth u := rfl
theorem aY_room (w_up : Nat → Int32) (w_slots : Nat → Int32) (w_first : Nat → Int32) (u : SY) : gY_room (aY w_up w_slots w_first u) = gY_room u := rfl
theorem aY_steps (w_up : Nat → Int32) (w_slots : Nat → Int32) (w_first : Nat → Int32) (u : SY) : gY_steps (aY w_up w_slots w_first u) = gY_steps u := rfl
theorem aY_origin (w_up : Nat → Int32) (w_slots : Nat → Int32) (w_first : Nat → Int32) (u : SY) : gY_origin (aY w_up w_slots w_first u) = gY_origin u := rfl
theorem aY_answer (w_up : Nat → Int32) (w_slots : Nat → Int32) (w_first : Nat → Int32) (u : SY) : gY_answer (aY w_up w_slots w_first u) = gY_answer u := rfl
theorem aY_collections (w_up : Nat → Int32) (w_slots : Nat → Int32) (w_first : Nat → Int32) (u : SY) : gY_collections (aY w_up w_slots w_first u) = gY_collections u := rfl
theorem aY_stayed (w_up : Nat → Int32) (w_slots : Nat → Int32) (w_first : Nat → Int32) (u : SY) : gY_stayed (aY w_up w_slots w_first u) = gY_stayed u := rfl
theorem aY_codes (w_up : Nat → Int32) (w_slots : Nat → Int32) (w_first : Nat → Int32) (u : SY) : gY_codes (aY w_up w_slots w_first u) = gY_codes u := rfl
theorem aY_links (w_up : Nat → Int32) (w_slots : Nat → Int32) (w_first : Nat → Int32) (u : SY) : gY_links (aY w_up w_slots w_first u) = gY_links u := rfl
theorem aY_result (w_up : Nat → Int32) (w_slots : Nat → Int32) (w_first : Nat → Int32) (u : SY) : gY_result (aY w_up w_slots w_first u) = gY_result u := rfl
theorem aY_up (w_up : Nat → Int32) (w_slots : Nat → Int32) (w_first : Nat → Int32) (u : SY) : gY_up (aY w_up w_slots w_first u) = w_up := rfl
theorem aY_ints (w_up : Nat → Int32) (w_slots : Nat → Int32) (w_first : Nat → Int32) (u : SY) : gY_ints (aY w_up w_slots w_first u) = gY_ints u := rfl
theorem aY_references (w_up : Nat → Int32) (w_slots : Nat → Int32) (w_first : Nat → Int32) (u : SY) : gY_references (aY w_up w_slots w_first u) = gY_references u := rfl
theorem aY_slots (w_up : Nat → Int32) (w_slots : Nat → Int32) (w_first : Nat → Int32) (u : SY) : gY_slots (aY w_up w_slots w_first u) = w_slots := rfl
theorem aY_first (w_up : Nat → Int32) (w_slots : Nat → Int32) (w_first : Nat → Int32) (u : SY) : gY_first (aY w_up w_slots w_first u) = w_first := rfl
theorem aY_ready (w_up : Nat → Int32) (w_slots : Nat → Int32) (w_first : Nat → Int32) (u : SY) : gY_ready (aY w_up w_slots w_first u) = gY_ready u := rfl
theorem aY_ops (w_up : Nat → Int32) (w_slots : Nat → Int32) (w_first : Nat → Int32) (u : SY) : gY_ops (aY w_up w_slots w_first u) = gY_ops u := rfl
theorem aY_args (w_up : Nat → Int32) (w_slots : Nat → Int32) (w_first : Nat → Int32) (u : SY) : gY_args (aY w_up w_slots w_first u) = gY_args u := rfl
theorem aY_length (w_up : Nat → Int32) (w_slots : Nat → Int32) (w_first : Nat → Int32) (u : SY) : gY_length (aY w_up w_slots w_first u) = gY_length u := rfl
theorem aY_from (w_up : Nat → Int32) (w_slots : Nat → Int32) (w_first : Nat → Int32) (u : SY) : gY_from (aY w_up w_slots w_first u) = gY_from u := rfl
theorem aY_to (w_up : Nat → Int32) (w_slots : Nat → Int32) (w_first : Nat → Int32) (u : SY) : gY_to (aY w_up w_slots w_first u) = gY_to u := rfl
theorem aY_goal (w_up : Nat → Int32) (w_slots : Nat → Int32) (w_first : Nat → Int32) (u : SY) : gY_goal (aY w_up w_slots w_first u) = gY_goal u := rfl
theorem aY_words (w_up : Nat → Int32) (w_slots : Nat → Int32) (w_first : Nat → Int32) (u : SY) : gY_words (aY w_up w_slots w_first u) = gY_words u := rfl
theorem aY_maps (w_up : Nat → Int32) (w_slots : Nat → Int32) (w_first : Nat → Int32) (u : SY) : gY_maps (aY w_up w_slots w_first u) = gY_maps u := rfl
theorem aY_coded (w_up : Nat → Int32) (w_slots : Nat → Int32) (w_first : Nat → Int32) (u : SY) : gY_coded (aY w_up w_slots w_first u) = gY_coded u := rfl
theorem aY_linked (w_up : Nat → Int32) (w_slots : Nat → Int32) (w_first : Nat → Int32) (u : SY) : gY_linked (aY w_up w_slots w_first u) = gY_linked u := rfl
theorem aY_heights (w_up : Nat → Int32) (w_slots : Nat → Int32) (w_first : Nat → Int32) (u : SY) : gY_heights (aY w_up w_slots w_first u) = gY_heights u := rfl
theorem aY_kinds (w_up : Nat → Int32) (w_slots : Nat → Int32) (w_first : Nat → Int32) (u : SY) : gY_kinds (aY w_up w_slots w_first u) = gY_kinds u := rfl
theorem aY_behind (w_up : Nat → Int32) (w_slots : Nat → Int32) (w_first : Nat → Int32) (u : SY) : gY_behind (aY w_up w_slots w_first u) = gY_behind u := rfl
theorem aY_of (w_up : Nat → Int32) (w_slots : Nat → Int32) (w_first : Nat → Int32) (u : SY) : gY_of (aY w_up w_slots w_first u) = gY_of u := rfl
theorem aY_fields (w_up : Nat → Int32) (w_slots : Nat → Int32) (w_first : Nat → Int32) (u : SY) : gY_fields (aY w_up w_slots w_first u) = gY_fields u := rfl
theorem aY_globals (w_up : Nat → Int32) (w_slots : Nat → Int32) (w_first : Nat → Int32) (u : SY) : gY_globals (aY w_up w_slots w_first u) = gY_globals u := rfl
theorem aY_marked (w_up : Nat → Int32) (w_slots : Nat → Int32) (w_first : Nat → Int32) (u : SY) : gY_marked (aY w_up w_slots w_first u) = gY_marked u := rfl
theorem aY_method (w_up : Nat → Int32) (w_slots : Nat → Int32) (w_first : Nat → Int32) (u : SY) : gY_method (aY w_up w_slots w_first u) = gY_method u := rfl
theorem aY_at (w_up : Nat → Int32) (w_slots : Nat → Int32) (w_first : Nat → Int32) (u : SY) : gY_at (aY w_up w_slots w_first u) = gY_at u := rfl
theorem aY_high (w_up : Nat → Int32) (w_slots : Nat → Int32) (w_first : Nat → Int32) (u : SY) : gY_high (aY w_up w_slots w_first u) = gY_high u := rfl
theorem aY_locals (w_up : Nat → Int32) (w_slots : Nat → Int32) (w_first : Nat → Int32) (u : SY) : gY_locals (aY w_up w_slots w_first u) = gY_locals u := rfl
theorem aY_stack (w_up : Nat → Int32) (w_slots : Nat → Int32) (w_first : Nat → Int32) (u : SY) : gY_stack (aY w_up w_slots w_first u) = gY_stack u := rfl
theorem aX__superOf_initialisers (w_superOf : Nat → Int32) (w_ownMethods : Nat → Int32) (w_initialisers : Nat → Int32) (z_superOf : Nat → Int32) (z_initialisers : Nat → Int32) (u : SX) : sX_superOf_initialisers z_superOf z_initialisers (aX w_superOf w_ownMethods w_initialisers u) = aX z_superOf w_ownMethods z_initialisers u := rfl
theorem aX__ownMethods (w_superOf : Nat → Int32) (w_ownMethods : Nat → Int32) (w_initialisers : Nat → Int32) (z_ownMethods : Nat → Int32) (u : SX) : sX_ownMethods z_ownMethods (aX w_superOf w_ownMethods w_initialisers u) = aX w_superOf z_ownMethods w_initialisers u := rfl
theorem aY__up_first (w_up : Nat → Int32) (w_slots : Nat → Int32) (w_first : Nat → Int32) (z_up : Nat → Int32) (z_first : Nat → Int32) (u : SY) : sY_up_first z_up z_first (aY w_up w_slots w_first u) = aY z_up w_slots z_first u := rfl
theorem aY__slots (w_up : Nat → Int32) (w_slots : Nat → Int32) (w_first : Nat → Int32) (z_slots : Nat → Int32) (u : SY) : sY_slots z_slots (aY w_up w_slots w_first u) = aY w_up z_slots w_first u := rfl
theorem x_initL {post : SX → Prop} (h : post (aX (zi_c (-2) 4) (zi_c (-1) 16) (zi_c (-1) 4) zx_i)) : wpX_init post := by
  have l2 : ∀ d j, j + d = 16 → kX_init_319 post (d + 1) (nI j) (aX (zi_c (-2) 4) (zi_c (-1) j) (zi_c (-1) 4) zx_i) := by
    intro d
    induction d with
    | zero =>
      intro j hj
      have : j = 16 := by omega
      subst this
      exact uX_init_319 (br_t (by decide) h)
    | succ d ih =>
      intro j hj
      refine uX_init_319 (br_f (nI_ge (b := 16) (by omega) (by decide)) ⟨vp_in_nI (by omega) (by decide), nm_e (nm_r (nI_1 j) ?_)⟩)
      rw [nI_clamp (by omega), aX_ownMethods, aX__ownMethods, zi_cs]
      exact ih (j + 1) (by omega)
  have l1 : ∀ d j, j + d = 4 → kX_init_291 post (d + 1) (nI j) (aX (zi_c (-2) j) (zi_c (-1) 0) (zi_c (-1) j) zx_i) := by
    intro d
    induction d with
    | zero =>
      intro j hj
      have : j = 4 := by omega
      subst this
      exact uX_init_291 (br_t (by decide) ⟨17, l2 16 0 rfl⟩)
    | succ d ih =>
      intro j hj
      have v : vp_in (nI j) 4 := vp_in_nI (by omega) (by decide)
      refine uX_init_291 (br_f (nI_ge (b := 4) (by omega) (by decide)) ⟨v, nm_e ⟨v, nm_e (nm_r (nI_1 j) ?_)⟩⟩)
      rw [nI_clamp (by omega), aX_superOf, aX_initialisers, aX__superOf_initialisers, zi_cs, zi_cs]
      exact ih (j + 1) (by omega)
  have q := l1 4 0 rfl
  rw [zi_c0, zi_c0] at q
  exact x_init ⟨5, q⟩
theorem y_initL {post : SY → Prop} (h : post (aY (zi_c (-2) 4) (zi_c (-1) 16) (zi_c (-1) 4) zy_i)) : wpY_init post := by
  have l2 : ∀ d j, j + d = 16 → kY_init_275 post (d + 1) (nI j) (aY (zi_c (-2) 4) (zi_c (-1) j) (zi_c (-1) 4) zy_i) := by
    intro d
    induction d with
    | zero =>
      intro j hj
      have : j = 16 := by omega
      subst this
      exact uY_init_275 (br_t (by decide) h)
    | succ d ih =>
      intro j hj
      refine uY_init_275 (br_f (nI_ge (b := 16) (by omega) (by decide)) ⟨vp_in_nI (by omega) (by decide), nm_e (nm_r (nI_1 j) ?_)⟩)
      rw [nI_clamp (by omega), aY_slots, aY__slots, zi_cs]
      exact ih (j + 1) (by omega)
  have l1 : ∀ d j, j + d = 4 → kY_init_247 post (d + 1) (nI j) (aY (zi_c (-2) j) (zi_c (-1) 0) (zi_c (-1) j) zy_i) := by
    intro d
    induction d with
    | zero =>
      intro j hj
      have : j = 4 := by omega
      subst this
      exact uY_init_247 (br_t (by decide) ⟨17, l2 16 0 rfl⟩)
    | succ d ih =>
      intro j hj
      have v : vp_in (nI j) 4 := vp_in_nI (by omega) (by decide)
      refine uY_init_247 (br_f (nI_ge (b := 4) (by omega) (by decide)) ⟨v, nm_e ⟨v, nm_e (nm_r (nI_1 j) ?_)⟩⟩)
      rw [nI_clamp (by omega), aY_up, aY_first, aY__up_first, zi_cs, zi_cs]
      exact ih (j + 1) (by omega)
  have q := l1 4 0 rfl
  rw [zi_c0, zi_c0] at q
  exact y_init ⟨5, q⟩
theorem i_vc0 : wpX_init (fun u => wpY_init (fun v => i_Rel 0 u v)) := by
  refine x_initL (y_initL ?_)
  refine ⟨fun _ => 0, fun _ => False, fun _ _ => 0, fun _ => 0, [], ⟨⟨rfl, rfl, rfl, rfl, rfl, rfl, rfl, rfl, rfl, rfl⟩, ⟨?_, ?_⟩, ?_, ?_, ⟨?_, ?_⟩, ?_⟩, ?_, ⟨?_, ?_, ?_⟩, ⟨⟨List.nodup_nil, rfl, ?_⟩, rfl, ⟨1, by decide, by decide, rfl, rfl, rfl⟩, ?_⟩, ⟨rfl, rfl, rfl, rfl, rfl, rfl, rfl, rfl, rfl⟩, ⟨rfl, rfl, rfl, rfl⟩⟩
  · intro c hc h
    exact absurd (zi_ct hc) h
  · intro c hc h
    exact absurd (zi_ct hc) h
  · intro c hc s hs
    exact Or.inl (zi_ct (by omega))
  · intro c hc
    exact Or.inl (zi_ct hc)
  · intro r hr
    exact ⟨0, by decide, rfl, fun j hj => absurd hj (by omega)⟩
  · intro r hr
    exact ⟨0, 0, by decide, by decide, rfl, rfl⟩
  · intro r hr h
    have h : (0 : Int32) < 0 := h
    exact absurd h (by decide)
  · intro m hm h
    exact absurd rfl h
  · intro m hm
    exact ⟨Or.inl rfl, ⟨fun _ => rfl, fun _ => rfl⟩, fun h => absurd (show (0 : Int32) = 1 from h) (by decide), fun i hi => ⟨fun _ => rfl, fun h => absurd (show (0 : Int32) = 1 from h) (by decide)⟩⟩
  · intro k hk
    exact ⟨Or.inl rfl, ⟨fun h => absurd (show (0 : Int32) = 1 from h) (by decide), fun h => absurd (show (0 : Int32) = 28 from h) (by decide)⟩⟩
  · intro k hk h
    exact absurd (show (0 : Int32) = 28 from h) (by decide)
  · intro o
    constructor
    · intro h; exact absurd h (by simp)
    · rintro ⟨_, _, h⟩; exact absurd rfl h
  · intro g hg
    exact ⟨0, Or.inl rfl, rfl, rfl⟩
