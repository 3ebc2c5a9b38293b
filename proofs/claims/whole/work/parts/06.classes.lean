/-! classes: chains of SUPERs, fields -/
def zc_is (up : Nat → Int32) (p : Int32) : Prop := ∃ c, c < 4 ∧ p = nI c ∧ up c ≠ -2
/-- from k on upwards at most n classes, all of them there -/
def zc_dp (up : Nat → Int32) : Nat → Int32 → Prop
  | 0, k => k = -1
  | n + 1, k => k = -1 ∨ ∃ c, c < 4 ∧ k = nI c ∧ up c ≠ -2 ∧ zc_dp up n (up c)
def zc_cn (up : Nat → Int32) : Nat := (if up 0 = -2 then 0 else 1) + (if up 1 = -2 then 0 else 1) + (if up 2 = -2 then 0 else 1) + (if up 3 = -2 then 0 else 1)
def zc_at (f : Nat → Int32) (k : Int32) : Int32 := if k = -1 then 0 else f k.toNatClampNeg
/-- one class' own fields, over its SUPER's -/
def zc_row (up ints refs fc rf : Nat → Int32) (c : Nat) : Prop :=
  ∃ ab i r, i ≤ 2 ∧ r ≤ 2 ∧ ab ≤ 12 ∧ ints c = nI i ∧ refs c = nI r ∧ zc_at fc (up c) = nI ab ∧ fc c = nI (ab + i + r) ∧ ∀ j, j < 32 → bt (rf c) j = (bt (zc_at rf (up c)) j || decide (ab + i ≤ j ∧ j < ab + i + r))
def zc_OK (up ints refs fc rf : Nat → Int32) : Prop :=
  (∀ c, c < 4 → up c ≠ -2 → zc_dp up (zc_cn up) (nI c)) ∧ (∀ c, c < 4 → up c ≠ -2 → zc_row up ints refs fc rf c)
theorem zc_mono {up : Nat → Int32} : ∀ n k, zc_dp up n k → zc_dp up (n + 1) k := by
  intro n
  induction n with
  | zero => intro k h; exact Or.inl h
  | succ n ih =>
    intro k h
    rcases h with h | ⟨c, hc, e, h2, h3⟩
    · exact Or.inl h
    · exact Or.inr ⟨c, hc, e, h2, ih _ h3⟩
theorem zc_le {up : Nat → Int32} {n m : Nat} {k : Int32} (h : n ≤ m) (d : zc_dp up n k) : zc_dp up m k := by
  induction m with
  | zero =>
    have : n = 0 := by omega
    subst this; exact d
  | succ m ih =>
    by_cases z : n = m + 1
    · subst z; exact d
    · exact zc_mono _ _ (ih (by omega))
theorem zc_cn4 (up : Nat → Int32) : zc_cn up ≤ 4 := by
  unfold zc_cn
  repeat' split
  all_goals omega
theorem zc_d4 {up ints refs fc rf : Nat → Int32} (h : zc_OK up ints refs fc rf) {p : Int32} (i : zc_is up p) : zc_dp up 4 p := by
  obtain ⟨c, hc, rfl, h2⟩ := i
  exact zc_le (zc_cn4 up) (h.1 c hc h2)
theorem zc_dis {up : Nat → Int32} {n : Nat} {k : Int32} (h : zc_dp up n k) : k = -1 ∨ zc_is up k := by
  cases n with
  | zero => exact Or.inl h
  | succ n =>
    rcases h with h | ⟨c, hc, e, h2, _⟩
    · exact Or.inl h
    · exact Or.inr ⟨c, hc, e, h2⟩
theorem zc_up {up ints refs fc rf : Nat → Int32} (h : zc_OK up ints refs fc rf) {c : Nat} (hc : c < 4) : up c = -2 ∨ up c = -1 ∨ zc_is up (up c) := by
  by_cases z : up c = -2
  · exact Or.inl z
  · have d := zc_le (zc_cn4 up) (h.1 c hc z)
    rcases d with d | ⟨e, he, ee, h2, h3⟩
    · exact absurd d (zn_m1 _ (by omega))
    · have : c = e := (nI_eq (by omega) (by omega)).mp ee
      subst this
      exact Or.inr (zc_dis h3)
theorem zc_m1neg : (-1 : Int32) < 0 := by decide
/-- X's and Y's question whether there is a class -/
theorem x_isClass {post : Int32 → Prop} {u : SX} {p : Int32} (h : post (zp (zc_is (gX_superOf u) p))) : wpX_isClass post u p := by
  rcases pk_ix p (n := 4) (by decide) with z | z | ⟨c, hc, rfl⟩
  · rw [zp_f (fun ⟨c, hc, e, _⟩ => by rw [e] at z; exact nI_pos (by omega) z)] at h
    exact upX_isClass (br_t z h)
  · rw [zp_f (fun ⟨c, hc, e, _⟩ => by rw [e] at z; exact nI_ge hc (by decide) z)] at h
    have z0 : ¬ p < 0 := fun w => by
      have := Int32.lt_of_le_of_lt z w
      exact nI_pos (n := 4) (by decide) this
    exact upX_isClass (br_f z0 (br_t z h))
  · refine upX_isClass (br_f (nI_pos (by omega)) (br_f (nI_ge (b := 4) hc (by decide)) ⟨vp_in_nI hc (by decide), ?_⟩))
    rw [nI_clamp (by omega)]
    refine zp_post h ?_ ?_
    · rintro z ⟨c', hc', e, h2⟩
      have := (nI_eq (by omega) (by omega)).mp e
      subst this
      exact h2 z
    · intro z
      exact ⟨c, hc, rfl, z⟩
theorem y_isClass {post : Int32 → Prop} {u : SY} {p : Int32} (hu : ∀ c, c < 4 → gY_up u c = -2 ∨ gY_up u c = -1 ∨ zc_is (gY_up u) (gY_up u c)) (h : post (zp (zc_is (gY_up u) p))) : wpY_isClass post u p := by
  refine upY_isClass (yt_in (zp_br (fun z => ?_) (fun z => ?_)))
  · rw [zp_f (fun ⟨c, hc, e, _⟩ => z (by rw [e]; exact ⟨nI_pos' (by omega), nI_le (b := 3) (by omega) (by decide)⟩))] at h
    exact h
  · obtain ⟨c, hc, rfl⟩ := nI_of2 (n := 3) (M := 3) (by decide) (Int32.not_lt.mpr z.1) z.2
    refine ⟨vp_in_nI (by omega) (by decide), ?_⟩
    rw [nI_clamp (by omega)]
    refine zp_post h ?_ ?_
    · rintro z ⟨c', hc', e, h2⟩
      have := (nI_eq (by omega) (by omega)).mp e
      subst this
      rcases hu c (by omega) with w | w | ⟨d, hd, w, _⟩
      · exact h2 w
      · rw [w] at z; exact absurd z (by decide)
      · rw [w] at z; exact zn_le2 d (by omega) z
    · intro z
      exact ⟨c, by omega, rfl, fun w => z (by rw [w]; decide)⟩
/-! is k below (or is) another -/
def zc_bl (up : Nat → Int32) (over : Int32) : Nat → Int32 → Prop
  | 0, _ => False
  | n + 1, k => k ≠ -1 ∧ (k = over ∨ zc_bl up over n (up k.toNatClampNeg))
theorem x_isBelow5 {post : Int32 → Prop} {u : SX} {over : Int32} : ∀ d i k, i + d = 4 → zc_dp (gX_superOf u) d k → post (zp (zc_bl (gX_superOf u) over d k)) → kX_isBelow_5 post over (d + 1) k (nI i) u := by
  intro d
  induction d with
  | zero =>
    intro i k hi hd h
    have : i = 4 := by omega
    subst this
    rw [zp_f (show ¬ zc_bl (gX_superOf u) over 0 k from fun z => z)] at h
    exact uX_isBelow_5 (br_t (by decide) h)
  | succ d ih =>
    intro i k hi hd h
    refine uX_isBelow_5 (br_f (nI_ge (b := 4) (by omega) (by decide)) ?_)
    rcases hd with rfl | ⟨c, hc, rfl, h2, h3⟩
    · rw [zp_f (fun z => z.1 rfl)] at h
      exact br_t rfl h
    · refine br_f (zn_m1 _ (by omega)) (br_c (fun z => ?_) (fun z => ?_))
      · rw [zp_t ⟨zn_m1 _ (by omega), Or.inl z⟩] at h
        exact h
      · refine ⟨vp_in_nI hc (by decide), nm_e (nm_e ?_)⟩
        rw [nI_clamp (by omega), nI_1]
        refine ih (i + 1) _ (by omega) h3 ?_
        have e : zc_bl (gX_superOf u) over (d + 1) (nI c) ↔ zc_bl (gX_superOf u) over d (gX_superOf u c) := by
          constructor
          · rintro ⟨_, w | w⟩
            · exact absurd w z
            · rwa [nI_clamp (by omega)] at w
          · intro w
            refine ⟨zn_m1 _ (by omega), Or.inr ?_⟩
            rwa [nI_clamp (by omega)]
        rw [zp_c e] at h
        exact h
theorem x_isBelow {post : Int32 → Prop} {u : SX} {k over : Int32} (hd : zc_dp (gX_superOf u) 4 k) (h : post (zp (zc_bl (gX_superOf u) over 4 k))) : wpX_isBelow post u k over :=
  upX_isBelow ⟨5, x_isBelow5 4 0 k rfl hd h⟩
theorem y_isBelow2 {post : Int32 → Prop} {u : SY} {over : Int32} : ∀ d k, zc_dp (gY_up u) d k → post (zp (zc_bl (gY_up u) over d k)) → kY_isBelow_2 post over (d + 1) k u := by
  intro d
  induction d with
  | zero =>
    intro k hd h
    rw [zp_f (show ¬ zc_bl (gY_up u) over 0 k from fun z => z)] at h
    have hd : k = -1 := hd
    subst hd
    exact uY_isBelow_2 (br_t (by decide) h)
  | succ d ih =>
    intro k hd h
    rcases hd with rfl | ⟨c, hc, rfl, h2, h3⟩
    · rw [zp_f (fun z => z.1 rfl)] at h
      exact uY_isBelow_2 (br_t (by decide) h)
    · refine uY_isBelow_2 (br_f (nI_pos (by omega)) (br_c (fun z => ?_) (fun z => ?_)))
      · rw [zp_t ⟨zn_m1 _ (by omega), Or.inl z⟩] at h
        exact h
      · refine ⟨vp_in_nI hc (by decide), nm_e ?_⟩
        rw [nI_clamp (by omega)]
        refine ih _ h3 ?_
        have e : zc_bl (gY_up u) over (d + 1) (nI c) ↔ zc_bl (gY_up u) over d (gY_up u c) := by
          constructor
          · rintro ⟨_, w | w⟩
            · exact absurd w z
            · rwa [nI_clamp (by omega)] at w
          · intro w
            refine ⟨zn_m1 _ (by omega), Or.inr ?_⟩
            rwa [nI_clamp (by omega)]
        rw [zp_c e] at h
        exact h
theorem y_isBelow {post : Int32 → Prop} {u : SY} {k over : Int32} (hd : zc_dp (gY_up u) 4 k) (h : post (zp (zc_bl (gY_up u) over 4 k))) : wpY_isBelow post u k over :=
  upY_isBelow ⟨5, y_isBelow2 4 k hd h⟩
/-! the method for a slot -/
def zc_mf (up sl : Nat → Int32) (s : Nat) : Nat → Int32 → Int32
  | 0, _ => -1
  | n + 1, k => if k = -1 then -1 else if sl (4 * k.toNatClampNeg + s) = -1 then zc_mf up sl s n (up k.toNatClampNeg) else sl (4 * k.toNatClampNeg + s)
theorem x_methodFor5 {post : Int32 → Prop} {u : SX} {s : Nat} (hs : s < 4) : ∀ d i k, i + d = 4 → zc_dp (gX_superOf u) d k → post (zc_mf (gX_superOf u) (gX_ownMethods u) s d k) → kX_methodFor_5 post (nI s) (d + 1) k (nI i) u := by
  intro d
  induction d with
  | zero =>
    intro i k hi hd h
    have : i = 4 := by omega
    subst this
    exact uX_methodFor_5 (br_t (by decide) h)
  | succ d ih =>
    intro i k hi hd h
    refine uX_methodFor_5 (br_f (nI_ge (b := 4) (by omega) (by decide)) ?_)
    rcases hd with rfl | ⟨c, hc, rfl, h2, h3⟩
    · exact br_t rfl h
    · have n1 := zn_m1 c (by omega)
      have ix : nI c * 4 + nI s = nI (4 * c + s) := by
        rw [show (4 : Int32) = nI 4 from rfl, pk_mul, nI_add, Nat.mul_comm]
      refine br_f n1 ⟨?_, nm_e ?_⟩
      · rw [ix]; exact vp_in_nI (by omega) (by decide)
      · rw [ix, nI_clamp (by omega)]
        have e : zc_mf (gX_superOf u) (gX_ownMethods u) s (d + 1) (nI c) = if gX_ownMethods u (4 * c + s) = -1 then zc_mf (gX_superOf u) (gX_ownMethods u) s d (gX_superOf u c) else gX_ownMethods u (4 * c + s) := by
          show (if nI c = -1 then -1 else _) = _
          rw [if_neg n1, nI_clamp (by omega)]
        rw [e] at h
        refine br_c (fun z => ?_) (fun z => ?_)
        · rw [if_pos z] at h
          refine ⟨vp_in_nI hc (by decide), nm_e (nm_e ?_)⟩
          rw [nI_clamp (by omega), nI_1]
          exact ih (i + 1) _ (by omega) h3 h
        · rw [if_neg z] at h
          exact h
theorem x_methodFor {post : Int32 → Prop} {u : SX} {s : Nat} (hs : s < 4) {k : Int32} (hd : zc_dp (gX_superOf u) 4 k) (h : post (zc_mf (gX_superOf u) (gX_ownMethods u) s 4 k)) : wpX_methodFor post u k (nI s) :=
  upX_methodFor ⟨5, x_methodFor5 hs 4 0 k rfl hd h⟩
/-! totals and kinds -/
theorem zc_atc {f : Nat → Int32} {c : Nat} (hc : c < 4) : zc_at f (nI c) = f c := by
  unfold zc_at
  rw [if_neg (zn_m1 c (by omega)), nI_clamp (by omega)]
theorem zc_am1 {f : Nat → Int32} : zc_at f (-1) = 0 := if_pos rfl
theorem y_total4 {post : Int32 → Prop} {u : SY} {fc rf : Nat → Int32} (hr : ∀ c, c < 4 → gY_up u c ≠ -2 → zc_row (gY_up u) (gY_ints u) (gY_references u) fc rf c) : ∀ d acc k, zc_dp (gY_up u) d k → post (acc + zc_at fc k) → kY_total_4 post (d + 1) acc k u := by
  intro d
  induction d with
  | zero =>
    intro acc k hd h
    have hd : k = -1 := hd
    subst hd
    rw [zc_am1, Int32.add_zero] at h
    exact uY_total_4 (br_t (by decide) h)
  | succ d ih =>
    intro acc k hd h
    rcases hd with rfl | ⟨c, hc, rfl, h2, h3⟩
    · rw [zc_am1, Int32.add_zero] at h
      exact uY_total_4 (br_t (by decide) h)
    · have hi : vp_in (nI c) 4 := vp_in_nI hc (by decide)
      refine uY_total_4 (br_f (nI_pos (by omega)) ⟨hi, hi, nm_e ⟨hi, nm_e ?_⟩⟩)
      rw [nI_clamp (by omega)]
      refine ih _ _ h3 ?_
      obtain ⟨ab, i, r, _, _, _, ei, er, ea, ef, _⟩ := hr c hc h2
      rw [zc_atc hc, ef] at h
      rw [ei, er, ea, Int32.add_assoc, nI_add, nI_add, show i + r + ab = ab + i + r by omega]
      exact h
theorem y_total {post : Int32 → Prop} {u : SY} {fc rf : Nat → Int32} (hr : ∀ c, c < 4 → gY_up u c ≠ -2 → zc_row (gY_up u) (gY_ints u) (gY_references u) fc rf c) {k : Int32} (hd : zc_dp (gY_up u) 4 k) (h : post (zc_at fc k)) : wpY_total post u k :=
  upY_total ⟨5, y_total4 hr 4 0 k hd (by rw [Int32.zero_add]; exact h)⟩
/-- beyond the fields no bit is set -/
theorem zc_hi {up ints refs fc rf : Nat → Int32} (hr : ∀ c, c < 4 → up c ≠ -2 → zc_row up ints refs fc rf c) : ∀ d k, zc_dp up d k → ∃ f, f ≤ 16 ∧ zc_at fc k = nI f ∧ ∀ j, f ≤ j → j < 32 → bt (zc_at rf k) j = false := by
  intro d
  induction d with
  | zero =>
    intro k hd
    have hd : k = -1 := hd
    subst hd
    exact ⟨0, by omega, zc_am1, fun j _ _ => by rw [zc_am1, b_0]⟩
  | succ d ih =>
    intro k hd
    rcases hd with rfl | ⟨c, hc, rfl, h2, h3⟩
    · exact ⟨0, by omega, zc_am1, fun j _ _ => by rw [zc_am1, b_0]⟩
    · obtain ⟨f, hf, e, hb⟩ := ih _ h3
      obtain ⟨ab, i, r, hi, hr', hab, ei, er, ea, ef, eb⟩ := hr c hc h2
      rw [ea] at e
      have := (nI_eq (by omega) (by omega)).mp e
      subst this
      refine ⟨ab + i + r, by omega, by rw [zc_atc hc, ef], fun j hj hj2 => ?_⟩
      rw [zc_atc hc, eb j hj2, hb j (by omega) hj2]
      have : ¬ (ab + i ≤ j ∧ j < ab + i + r) := by omega
      simp [this]
theorem y_kindOf23 {post : Int32 → Prop} {u : SY} {fc rf : Nat → Int32} (hr : ∀ c, c < 4 → gY_up u c ≠ -2 → zc_row (gY_up u) (gY_ints u) (gY_references u) fc rf c) {f : Nat} (hf : f < 16) : ∀ d k c, d + 1 ≤ 4 → c < 4 → k = nI c → gY_up u c ≠ -2 → zc_dp (gY_up u) d (gY_up u c) → (∃ n, fc c = nI n ∧ f < n ∧ n < 2 ^ 31) → post (if bt (rf c) f then 2 else 1) → kY_kindOf_23 post (nI f) (d + 1) k (zc_at fc (gY_up u c)) u := by
  intro d
  induction d with
  | zero =>
    intro k c _ hc ek h2 hd hn h
    subst ek
    have hi : vp_in (nI c) 4 := vp_in_nI hc (by decide)
    obtain ⟨ab, i, r, hi2, hr2, hab, ei, er, ea, ef, eb⟩ := hr c hc h2
    have hd : gY_up u c = -1 := hd
    obtain ⟨n, en, hfn, hn⟩ := hn
    rw [ef] at en
    have := (nI_eq (by omega) hn).mp en
    rw [hd, zc_am1] at ea ⊢
    have a0 : 0 = ab := (nI_eq (by decide) (by omega)).mp ea
    subst a0
    refine uY_kindOf_23 (br_t (nI_pos' (by omega)) ⟨hi, ?_⟩)
    rw [nI_clamp (by omega), ei, Int32.sub_zero]
    have e2 := eb f (by omega)
    rw [hd, zc_am1, b_0] at e2
    refine br_i (nI_leI (by omega) (by omega)) (fun z => ?_) (fun z => ?_)
    · have : 0 + i ≤ f ∧ f < 0 + i + r := by omega
      rw [decide_eq_true this, Bool.false_or] at e2
      rw [e2] at h; exact h
    · have : ¬ (0 + i ≤ f ∧ f < 0 + i + r) := by omega
      rw [decide_eq_false this, Bool.false_or] at e2
      rw [e2] at h; exact h
  | succ d ih =>
    intro k c hd4 hc ek h2 hd hn h
    subst ek
    have hi : vp_in (nI c) 4 := vp_in_nI hc (by decide)
    obtain ⟨ab, i, r, hi2, hr2, hab, ei, er, ea, ef, eb⟩ := hr c hc h2
    obtain ⟨n, en, hfn, hn⟩ := hn
    rw [ef] at en
    have e1 := (nI_eq (by omega) hn).mp en
    obtain ⟨g, hg, eg, hgb⟩ := zc_hi hr _ _ hd
    rw [ea] at eg
    have := (nI_eq (by omega) (by omega)).mp eg
    subst this
    have e2 := eb f (by omega)
    by_cases z : ab ≤ f
    · rw [ea]
      refine uY_kindOf_23 (br_t (nI_le z (by omega)) ⟨hi, ?_⟩)
      rw [nI_clamp (by omega), ei, pk_sub z]
      rw [hgb f z (by omega)] at e2
      refine br_i (nI_leI (by omega) (by omega)) (fun z => ?_) (fun z => ?_)
      · have : ab + i ≤ f ∧ f < ab + i + r := by omega
        simp [this] at e2
        rw [e2] at h; exact h
      · have : ¬ (ab + i ≤ f ∧ f < ab + i + r) := by omega
        simp [this] at e2
        rw [e2] at h; exact h
    · rw [show zc_at fc (gY_up u c) = nI ab from ea]
      refine uY_kindOf_23 (br_f (nI_ge (by omega) (by omega)) ⟨hi, nm_e ?_⟩)
      rw [nI_clamp (by omega)]
      have hd' := hd
      rcases hd with hd | ⟨c', hc', e', h2', h3'⟩
      · rw [hd, zc_am1] at ea
        have : 0 = ab := (nI_eq (by decide) (by omega)).mp ea
        omega
      · refine y_total hr (zc_le (by omega) hd') ?_
        rw [e', zc_atc hc']
        have hi' : vp_in (nI c') 4 := vp_in_nI hc' (by decide)
        obtain ⟨ab', i', r', hi2', hr2', hab', ei', er', ea', ef', eb'⟩ := hr c' hc' h2'
        rw [e', zc_atc hc', ef'] at ea
        have e3 := (nI_eq (by omega) (by omega)).mp ea
        refine ⟨hi', hi', nm_r (e' := zc_at fc (gY_up u c')) ?_ ?_⟩
        · rw [nI_clamp (by omega), ef', ei', er', pk_sub (by omega), pk_sub (by omega), ea']
          exact congrArg nI (by omega)
        · refine ih _ c' (by omega) hc' rfl h2' h3' ⟨_, ef', by omega, by omega⟩ ?_
          have : ¬ (ab + i ≤ f ∧ f < ab + i + r) := by omega
          rw [e', zc_atc hc'] at e2
          simp [this] at e2
          rw [e2] at h; exact h
theorem y_kindOf {post : Int32 → Prop} {u : SY} {fc rf : Nat → Int32} (hr : ∀ c, c < 4 → gY_up u c ≠ -2 → zc_row (gY_up u) (gY_ints u) (gY_references u) fc rf c) {f c n : Nat} (hc : c < 4) (h2 : gY_up u c ≠ -2) (hd : zc_dp (gY_up u) 4 (nI c)) (ef : fc c = nI n) (hf : f < n) (hn : n ≤ 16) (h : post (if bt (rf c) f then 2 else 1)) : wpY_kindOf post u (nI c) (nI f) := by
  refine upY_kindOf (y_total hr hd ?_)
  rw [zc_atc hc]
  have hi : vp_in (nI c) 4 := vp_in_nI hc (by decide)
  obtain ⟨ab, i, r, hi2, hr2, hab, ei, er, ea, ef', eb⟩ := hr c hc h2
  have hd3 : zc_dp (gY_up u) 3 (gY_up u c) := by
    rcases hd with hd | ⟨c', hc', e', h2', h3'⟩
    · exact absurd hd (zn_m1 _ (by omega))
    · have := (nI_eq (by omega) (by omega)).mp e'
      subst this; exact h3'
  refine ⟨hi, hi, nm_r (e' := zc_at fc (gY_up u c)) ?_ ⟨4, y_kindOf23 hr (by omega) 3 _ c (by omega) hc rfl h2 hd3 ⟨n, ef, hf, by omega⟩ h⟩⟩
  rw [nI_clamp (by omega), ef', ei, er, pk_sub (by omega), pk_sub (by omega), ea]
  exact congrArg nI (by omega)
theorem x_isField {post : Int32 → Prop} {u : SX} {p q : Int32} (h : post (zp (zc_is (gX_superOf u) p ∧ ¬ q < 0 ∧ q < zc_at (gX_fieldCount u) p))) : wpX_isField post u p q := by
  refine upX_isField (x_isClass (zp_br (fun z => ?_) (fun z => ?_)))
  · rw [zp_f (fun w => z w.1)] at h; exact h
  · obtain ⟨c, hc, rfl, h2⟩ := id z
    refine br_c (fun w => ?_) (fun w => ⟨vp_in_nI hc (by decide), ?_⟩)
    · rw [zp_f (fun k => k.2.1 w)] at h; exact h
    · rw [nI_clamp (by omega)]
      rw [zc_atc hc] at h
      exact zp_post h (fun k j => absurd j.2.2 (Int32.not_lt.mpr k)) (fun k => ⟨z, w, Int32.not_le.mp k⟩)
theorem x_isRefField {post : Int32 → Prop} {u : SX} {c f : Nat} (hc : c < 4) (hf : f < 32) (h : post (zp (bt (gX_refFields u c) f = true))) : wpX_isRefField post u (nI c) (nI f) := by
  refine upX_isRefField ⟨vp_in_nI hc (by decide), ?_⟩
  rw [nI_clamp (by omega)]
  exact zp_post h (fun z => by rw [zb_bit _ hf] at z; rw [z]; decide) (fun z => by rw [zb_bit _ hf] at z; simpa using z)
