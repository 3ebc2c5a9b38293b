/-! instructions and rows of the draft and of bodies -/
def zi_lim (k : Nat) : Nat := [0, 0, 6, 6, 0, 0, 0, 0, 24, 24, 24, 0, 4, 64, 64, 4, 8, 4, 0, 0, 0, 0, 4, 4].getD k 0
def zi_fit (k : Nat) (a : Int32) : Prop := zi_lim k = 0 ∨ ∃ j, j < zi_lim k ∧ a = nI j
def zi_ok (o a : Int32) : Prop := ∃ k, k < 24 ∧ o = nI k ∧ zi_fit k a
theorem zi_of {o a : Int32} (h : zi_ok o a) : o.toNatClampNeg < 24 ∧ o = nI o.toNatClampNeg ∧ zi_fit o.toNatClampNeg a := by
  obtain ⟨k, hk, rfl, hf⟩ := h
  rw [nI_clamp (by omega)]
  exact ⟨hk, rfl, hf⟩
theorem zi_fj {k : Nat} {a : Int32} (h : zi_fit k a) {L : Nat} (e : zi_lim k = L) (h0 : 0 < L) : ∃ j, j < L ∧ a = nI j := by
  rcases h with h | h
  · omega
  · rw [e] at h; exact h
theorem zi_call {k : Nat} {a : Int32} (h : zi_fit k a) : k = 16 → ∃ m, m < 8 ∧ a = nI m := fun e => by
  subst e; exact zi_fj h rfl (by decide)
theorem xi_most {post : Int32 → Prop} {k : Nat} (hk : k < 24) (h : post (if zi_lim k = 0 then -1 else nI (zi_lim k - 1))) : wpX_mostOperand post (nI k) := by
  revert h; revert k
  apply zo_24 <;> intro h <;> repeat (first | exact h | refine br_t (by decide) ?_ | refine br_f (by decide) ?_)
theorem yi_in {post : Int32 → Prop} {a b : Int32} {L : Nat} (hL : L < 100) (hb : b = nI L) (h : post (zp (∃ j, j < L + 1 ∧ a = nI j))) : wpY_in (fun r => narrow .boolean (.int r) = .int r ∧ post r) a 0 b := by
  refine yt_in ⟨zp_n _, ?_⟩
  have e : ((0 : Int32) ≤ a ∧ a ≤ b) ↔ ∃ j, j < L + 1 ∧ a = nI j := by
    constructor
    · intro z
      subst hb
      obtain ⟨j, hj, e⟩ := nI_of2 (n := L) (nI_toInt (by omega)) (Int32.not_lt.mpr z.1) z.2
      exact ⟨j, by omega, e⟩
    · rintro ⟨j, hj, rfl⟩
      subst hb
      exact ⟨nI_pos' (by omega), nI_le (by omega) (by omega)⟩
  rw [zp_c e]
  exact h
theorem yi_fits {post : Int32 → Prop} {k : Nat} {a : Int32} (hk : k < 24) (h : post (zp (zi_fit k a))) : wpY_fits post (nI k) a := by
  have h1 : zi_lim k = 0 → post 1 := fun z => by
    rw [zp_t (show zi_fit k a from Or.inl z)] at h; exact h
  have h2 : ∀ L, zi_lim k = L + 1 → post (zp (∃ j, j < L + 1 ∧ a = nI j)) := fun L z => by
    have e : zi_fit k a ↔ ∃ j, j < L + 1 ∧ a = nI j := by
      unfold zi_fit
      rw [z]
      constructor
      · rintro (q | q)
        · omega
        · exact q
      · intro q; exact Or.inr q
    rw [zp_c e] at h; exact h
  clear h
  revert h1 h2; revert k
  apply zo_24 <;> intro h1 h2 <;> repeat (first | exact h1 rfl | exact yi_in (L := 5) (by decide) rfl (h2 5 rfl) | exact yi_in (L := 23) (by decide) rfl (h2 23 rfl) | exact yi_in (L := 3) (by decide) rfl (h2 3 rfl) | exact yi_in (L := 63) (by decide) rfl (h2 63 rfl) | exact yi_in (L := 7) (by decide) rfl (h2 7 rfl) | refine br_t (by decide) ?_ | refine br_f (by decide) ?_)
/-- rows 0..7: bodies, row 8: the draft -/
def zr_OK (O A L F T : Nat → Int32) : Prop :=
  (∀ r, r < 9 → ∃ l, l ≤ 24 ∧ L r = nI l ∧ ∀ j, j < l → zi_ok (O (24 * r + j)) (A (24 * r + j))) ∧
  (∀ r, r < 9 → ∃ f t, f ≤ t ∧ t ≤ 24 ∧ F r = nI f ∧ T r = nI t)
def zr_go (F T G G' : Nat → Int32) : Prop := ∀ r, r < 9 → F r < T r → G r = G' r ∧ ∃ g, g ≤ 24 ∧ G r = nI g
def zr_bd (L : Nat → Int32) (p : Int32) : Prop := ∃ m, m < 8 ∧ p = nI m ∧ L m ≠ 0
theorem x_hasBody {post : Int32 → Prop} {u : SX} {p : Int32} (hL : ∀ r, r < 9 → ∃ l, l ≤ 24 ∧ gX_lengths u r = nI l) (h : post (zp (zr_bd (gX_lengths u) p))) : wpX_hasBody post u p := by
  rcases pk_ix p (n := 8) (by decide) with z | z | ⟨c, hc, rfl⟩
  · rw [zp_f (fun ⟨c, hc, e, _⟩ => by rw [e] at z; exact nI_pos (by omega) z)] at h
    exact upX_hasBody (br_t z h)
  · rw [zp_f (fun ⟨c, hc, e, _⟩ => by rw [e] at z; exact nI_ge hc (by decide) z)] at h
    have z0 : ¬ p < 0 := fun w => by
      have := Int32.lt_of_le_of_lt z w
      exact nI_pos (n := 8) (by decide) this
    exact upX_hasBody (br_f z0 (br_t z h))
  · refine upX_hasBody (br_f (nI_pos (by omega)) (br_f (nI_ge (b := 8) hc (by decide)) ⟨vp_in_nI (by omega) (by decide), ?_⟩))
    rw [nI_clamp (by omega)]
    obtain ⟨l, hl, el⟩ := hL c (by omega)
    refine zp_post h ?_ ?_
    · rintro z ⟨c', hc', e, h2⟩
      have := (nI_eq (by omega) (by omega)).mp e
      subst this
      rw [el] at z h2
      have := (nI_leI (a := l) (b := 0) (by omega) (by decide)).mp z
      have : l = 0 := by omega
      subst this
      exact h2 rfl
    · intro z
      exact ⟨c, hc, rfl, fun w => z (by rw [w]; decide)⟩
theorem y_isBody {post : Int32 → Prop} {u : SY} {p : Int32} (hL : ∀ r, r < 9 → ∃ l, l ≤ 24 ∧ gY_length u r = nI l) (h : post (zp (zr_bd (gY_length u) p))) : wpY_isBody post u p := by
  refine upY_isBody (yt_in (zp_br (fun z => ?_) (fun z => ?_)))
  · rw [zp_f (fun ⟨c, hc, e, _⟩ => z (by rw [e]; exact ⟨nI_pos' (by omega), nI_le (b := 7) (by omega) (by decide)⟩))] at h
    exact h
  · obtain ⟨c, hc, rfl⟩ := nI_of2 (n := 7) (M := 7) (by decide) (Int32.not_lt.mpr z.1) z.2
    refine ⟨vp_in_nI (by omega) (by decide), ?_⟩
    rw [nI_clamp (by omega)]
    obtain ⟨l, hl, el⟩ := hL c (by omega)
    refine zp_post h ?_ ?_
    · rintro z ⟨c', hc', e, h2⟩
      have := (nI_eq (by omega) (by omega)).mp e
      subst this
      rw [el] at z h2
      have := (nI_leI (a := l) (b := 0) (by omega) (by decide)).mp z
      have : l = 0 := by omega
      subst this
      exact h2 rfl
    · intro z
      exact ⟨c, by omega, rfl, fun w => z (by rw [w]; decide)⟩
def zg_is (p : Int32) : Prop := ∃ g, g < 4 ∧ p = nI g
theorem x_isGlobal {post : Int32 → Prop} {p : Int32} (h : post (zp (zg_is p))) : wpX_isGlobal post p := by
  rcases pk_ix p (n := 4) (by decide) with z | z | ⟨c, hc, rfl⟩
  · rw [zp_f (fun ⟨c, hc, e⟩ => by rw [e] at z; exact nI_pos (by omega) z)] at h
    exact br_t z h
  · rw [zp_f (fun ⟨c, hc, e⟩ => by rw [e] at z; exact nI_ge hc (by decide) z)] at h
    have z0 : ¬ p < 0 := fun w => by
      have := Int32.lt_of_le_of_lt z w
      exact nI_pos (n := 4) (by decide) this
    exact br_f z0 (br_t z h)
  · rw [zp_t ⟨c, hc, rfl⟩] at h
    exact br_f (nI_pos (by omega)) (br_f (nI_ge (b := 4) hc (by decide)) h)
theorem zg_in {p : Int32} : ((0 : Int32) ≤ p ∧ p ≤ 3) ↔ zg_is p := by
  constructor
  · intro z
    obtain ⟨c, hc, e⟩ := nI_of2 (n := 3) (M := 3) (by decide) (Int32.not_lt.mpr z.1) z.2
    exact ⟨c, by omega, e⟩
  · rintro ⟨c, hc, rfl⟩
    exact ⟨nI_pos' (by omega), nI_le (b := 3) (by omega) (by decide)⟩
theorem y_inG {post : Int32 → Prop} {p : Int32} (h : post (zp (zg_is p))) : wpY_in post p 0 3 := by
  refine yt_in ?_
  rw [zp_c zg_in]
  exact h
