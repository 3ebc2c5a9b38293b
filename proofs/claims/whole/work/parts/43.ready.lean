/-! classes are made ready -/
def zc_ab (up : Nat → Int32) : Nat → Int32 → Int32
  | 0, k => k
  | s + 1, k => if k = -1 then -1 else zc_ab up s (up k.toNatClampNeg)
theorem zc_ab1 {up : Nat → Int32} : ∀ s, zc_ab up s (-1) = -1 := by
  intro s
  cases s with
  | zero => rfl
  | succ s => unfold zc_ab; rw [if_pos rfl]
theorem zc_abs {up : Nat → Int32} {s c : Nat} (hc : c < 4) : zc_ab up (s + 1) (nI c) = zc_ab up s (up c) := by
  show (if nI c = -1 then -1 else zc_ab up s (up (nI c).toNatClampNeg)) = _
  rw [if_neg (zn_m1 _ (by omega)), nI_clamp (by omega)]
theorem zc_abi {up : Nat → Int32} : ∀ s n k, zc_dp up n k → zc_ab up s k = -1 ∨ zc_is up (zc_ab up s k) := by
  intro s
  induction s with
  | zero => intro n k h; exact zc_dis h
  | succ s ih =>
    intro n k h
    cases n with
    | zero =>
      have h : k = -1 := h
      rw [h, zc_ab1]; exact Or.inl rfl
    | succ n =>
      rcases h with rfl | ⟨c, hc, rfl, h2, h3⟩
      · rw [zc_ab1]; exact Or.inl rfl
      · rw [zc_abs hc]; exact ih n _ h3
theorem x_classAbove5 {post : Int32 → Prop} {u : SX} {s : Nat} (hs4 : s < 100) : ∀ d i k n, i + d = s → zc_dp (gX_superOf u) n k → post (zc_ab (gX_superOf u) d k) → kX_classAbove_5 post (nI s) (d + 1) k (nI i) u := by
  intro d
  induction d with
  | zero =>
    intro i k n hi hd h
    have : i = s := by omega
    subst this
    exact uX_classAbove_5 (br_t (nI_le (by omega) (by omega)) h)
  | succ d ih =>
    intro i k n hi hd h
    refine uX_classAbove_5 (br_f (nI_ge (by omega) (by omega)) ?_)
    by_cases e : k = -1
    · subst e
      rw [zc_ab1] at h
      exact br_t rfl h
    · cases n with
      | zero => exact absurd hd e
      | succ n =>
        rcases hd with w | ⟨c, hc, rfl, h2, h3⟩
        · exact absurd w e
        · rw [zc_abs hc] at h
          refine br_f e ⟨vp_in_nI hc (by decide), nm_e (nm_e ?_)⟩
          rw [nI_clamp (by omega), nI_1]
          exact ih (i + 1) _ n (by omega) h3 h
theorem x_classAbove {post : Int32 → Prop} {u : SX} {s : Nat} (hs4 : s < 100) {k : Int32} {n : Nat} (hd : zc_dp (gX_superOf u) n k) (h : post (zc_ab (gX_superOf u) s k)) : wpX_classAbove post u k (nI s) :=
  upX_classAbove ⟨_, x_classAbove5 hs4 s 0 k n (by omega) hd h⟩
/-- Y's way up to the class that is not ready -/
def zy_w (rd up : Nat → Int32) : Nat → Int32 → Int32 → Int32
  | 0, x, _ => x
  | d + 1, x, k => if k = -1 then x else zy_w rd up d (if rd k.toNatClampNeg = 0 then k else x) (up k.toNatClampNeg)
def zy_q (post : Int32 → SY → Prop) (J2 : Int32 → SY → Prop) (x2 : Int32) (u : SY) : Prop := (((0 ≤ x2 → (vp_in x2 4 ∧ ∀ a_ready_5, a_ready_5 = upd (gY_ready u) x2.toNatClampNeg (vp_nar .boolean 1) → (vp_in x2 4 ∧ (((((gY_first u) x2.toNatClampNeg) < 0 → (J2 x2 (sY_ready a_ready_5 u))) ∧ (¬ ((gY_first u) x2.toNatClampNeg) < 0 → (vp_in x2 4 ∧ (vp_in ((gY_first u) x2.toNatClampNeg) 9 ∧ (((((gY_length u) ((gY_first u) x2.toNatClampNeg).toNatClampNeg) = 0 → (J2 x2 (sY_ready a_ready_5 u))) ∧ (¬ ((gY_length u) ((gY_first u) x2.toNatClampNeg).toNatClampNeg) = 0 → (vp_in x2 4 ∧ (wpY_enter (fun r_12 u1 => (((r_12 = 0 → (wpY_raise (fun u2 => (post 0 u2)) u1 5)) ∧ (¬ r_12 = 0 → (vp_in ((6 * (gY_depth u1)) - 6) 84 ∧ ∀ a_locals_98, a_locals_98 = upd (gY_locals u1) ((6 * (gY_depth u1)) - 6).toNatClampNeg x2 → (post 0 (sY_locals a_locals_98 u1))))))) (sY_ready a_ready_5 u) ((gY_first u) x2.toNatClampNeg)))))))))))))) ∧ (¬ 0 ≤ x2 → (J2 x2 u))))
theorem y_walk {post : Int32 → SY → Prop} {J2 : Int32 → SY → Prop} {x1 : Int32} {T : SY} : ∀ d x2 k, zc_dp (gY_up T) d k → zy_q post J2 (zy_w (gY_ready T) (gY_up T) d x2 k) T → kY_isReady_10 post J2 x1 (d + 1) x2 k T := by
  intro d
  induction d with
  | zero =>
    intro x2 k hd h
    have hd : k = -1 := hd
    subst hd
    exact uY_isReady_10 (br_t (by decide) h)
  | succ d ih =>
    intro x2 k hd h
    rcases hd with rfl | ⟨c, hc, rfl, h2, h3⟩
    · exact uY_isReady_10 (br_t (by decide) h)
    · unfold zy_w at h
      rw [if_neg (zn_m1 _ (by omega)), nI_clamp (by omega)] at h
      have vc : vp_in (nI c) 4 := vp_in_nI hc (by decide)
      refine uY_isReady_10 (br_f (nI_pos (by omega)) ⟨vc, ?_⟩)
      rw [nI_clamp (by omega)]
      refine br_c (fun w => ⟨vc, nm_e ?_⟩) (fun w => ⟨vc, nm_e ?_⟩)
      · rw [if_pos w] at h; exact ih _ _ h3 h
      · rw [if_neg w] at h; exact ih _ _ h3 h
theorem zy_wa {rd up : Nat → Int32} : ∀ n x k, zc_dp up n k → (∀ t, t < n → zc_ab up t k = -1 ∨ rd (zc_ab up t k).toNatClampNeg ≠ 0) → zy_w rd up n x k = x := by
  intro n
  induction n with
  | zero => intro x k _ _; rfl
  | succ n ih =>
    intro x k hd h
    rcases hd with rfl | ⟨c, hc, rfl, h2, h3⟩
    · unfold zy_w; rw [if_pos rfl]
    · unfold zy_w
      have h0 := (h 0 (by omega)).resolve_left (zn_m1 _ (by omega))
      rw [show zc_ab up 0 (nI c) = nI c from rfl] at h0
      rw [if_neg (zn_m1 _ (by omega)), if_neg h0, nI_clamp (by omega)]
      refine ih _ _ h3 (fun t ht => ?_)
      have := h (t + 1) (by omega)
      rw [zc_abs hc] at this
      exact this
theorem zy_wb {rd up : Nat → Int32} : ∀ n x k d, zc_dp up n k → d < n → zc_ab up d k ≠ -1 → rd (zc_ab up d k).toNatClampNeg = 0 → (∀ t, d < t → t < n → zc_ab up t k = -1 ∨ rd (zc_ab up t k).toNatClampNeg ≠ 0) → zy_w rd up n x k = zc_ab up d k := by
  intro n
  induction n with
  | zero => intro x k d _ h; omega
  | succ n ih =>
    intro x k d hd hdn h1 h2 h3
    rcases hd with rfl | ⟨c, hc, rfl, _, h5⟩
    · rw [zc_ab1] at h1; exact absurd rfl h1
    · unfold zy_w
      rw [if_neg (zn_m1 _ (by omega)), nI_clamp (by omega)]
      have h3' : ∀ t, d < t + 1 → t < n → zc_ab up t (up c) = -1 ∨ rd (zc_ab up t (up c)).toNatClampNeg ≠ 0 := fun t a b => by
        have := h3 (t + 1) a (by omega)
        rw [zc_abs hc] at this
        exact this
      cases d with
      | zero =>
        have h2 : rd (nI c).toNatClampNeg = 0 := h2
        rw [nI_clamp (by omega)] at h2
        rw [if_pos h2]
        exact zy_wa _ _ _ h5 (fun t ht => h3' t (by omega) ht)
      | succ d =>
        rw [zc_abs hc] at h1 h2 ⊢
        exact ih _ _ d h5 (by omega) h1 h2 (fun t a b => h3' t (by omega) b)
section
variable {u : SX} {v : SY} {he fr wu wa ou lg dn cl sy tc lc us st og an : Int32} {re : Int64} {rd co cc ca hp np gx fm fp ce cd lk of fl gy mk hi lo sk : Nat → Int32}
variable {H : Nat → Nat} {R : Nat → Prop} {K : Nat → Nat → Nat} {p : Nat → Nat} {l : List Nat}
theorem ready_loop (hs : zR_s u v) {c : Nat} (dp : zc_dp (gX_superOf u) 4 (nI c)) : ∀ d, d ≤ 4 → ∀ rd : Nat → Int32, (∀ t, d ≤ t → t < 4 → zc_ab (gX_superOf u) t (nI c) = -1 ∨ rd (zc_ab (gX_superOf u) t (nI c)).toNatClampNeg ≠ 0) → ∃ rd' : Nat → Int32,
  ((∀ post : Int32 → SX → Prop, post (-1) (rX he fr wu wa ou re lg dn cl sy tc lc rd' co cc ca hp np gx fm fp ce u) → kX_readyUntilInitialiser_2 post (nI c) (d + 1) (nI d + (-1)) (rX he fr wu wa ou re lg dn cl sy tc lc rd co cc ca hp np gx fm fp ce u)) ∧ (∀ (post : Int32 → SY → Prop) (N : Nat) (x2 : Int32), d + 2 ≤ N → ¬ x2 < 0 → post 1 (rY us fr wu st og an cl sy tc lc re rd' cd lk of fl gy mk fm fp hi lo sk v) → kY_isReady_2 post (nI c) N x2 (rY us fr wu st og an cl sy tc lc re rd cd lk of fl gy mk fm fp hi lo sk v))) ∨
  (∃ k q, k < 4 ∧ gX_initialisers u k = nI q ∧ q < 2 ∧ gX_lengths u q ≠ 0 ∧ (∀ post : Int32 → SX → Prop, post (nI k) (rX he fr wu wa ou re lg dn cl sy tc lc rd' co cc ca hp np gx fm fp ce u) → kX_readyUntilInitialiser_2 post (nI c) (d + 1) (nI d + (-1)) (rX he fr wu wa ou re lg dn cl sy tc lc rd co cc ca hp np gx fm fp ce u)) ∧
    (∀ (post : Int32 → SY → Prop) (N : Nat) (x2 : Int32), d + 2 ≤ N → ¬ x2 < 0 → wpY_enter (fun r_12 u1 => (((r_12 = 0 → (wpY_raise (fun u2 => (post 0 u2)) u1 5)) ∧ (¬ r_12 = 0 → (vp_in ((6 * (gY_depth u1)) - 6) 84 ∧ ∀ a_locals_98, a_locals_98 = upd (gY_locals u1) ((6 * (gY_depth u1)) - 6).toNatClampNeg (nI k) → (post 0 (sY_locals a_locals_98 u1))))))) (rY us fr wu st og an cl sy tc lc re rd' cd lk of fl gy mk fm fp hi lo sk v) (nI q) → kY_isReady_2 post (nI c) N x2 (rY us fr wu st og an cl sy tc lc re rd cd lk of fl gy mk fm fp hi lo sk v))) := by
  have lens := zR_len hs
  have dpY : zc_dp (gY_up v) 4 (nI c) := by rw [← hs.1.1]; exact dp
  have eY := hs.1.1
  have eini := hs.1.2.2.1
  intro d
  induction d with
  | zero =>
    intro _ rd hr
    refine ⟨rd, Or.inl ⟨fun post hq => uX_readyUntilInitialiser_2 (br_t (by decide) hq), fun post N x2 hN hx hq => ?_⟩⟩
    obtain ⟨N', rfl⟩ : ∃ N', N = N' + 1 + 1 := ⟨N - 2, by omega⟩
    refine uY_isReady_2 (br_f hx ⟨_, y_walk 4 (-1) (nI c) (by rw [rY_up]; exact dpY) ?_⟩)
    rw [rY_ready, rY_up, ← eY, zy_wa 4 _ _ dp (fun t ht => hr t (by omega) ht)]
    exact br_f (by decide) (uY_isReady_2 (br_t (by decide) hq))
  | succ d ih =>
    intro hd rd hr
    have hab := zc_abi d 4 (nI c) dp
    have fine : (zc_ab (gX_superOf u) d (nI c) = -1 ∨ rd (zc_ab (gX_superOf u) d (nI c)).toNatClampNeg ≠ 0) ∨ ∃ k, k < 4 ∧ zc_ab (gX_superOf u) d (nI c) = nI k ∧ rd k = 0 := by
      rcases hab with w | ⟨k, hk, ek, _⟩
      · exact Or.inl (Or.inl w)
      · by_cases z : rd k = 0
        · exact Or.inr ⟨k, hk, ek, z⟩
        · refine Or.inl (Or.inr ?_)
          rw [ek, nI_clamp (by omega)]; exact z
    rcases fine with fine | ⟨k, hk, ek, rk⟩
    · have hr' : ∀ t, d ≤ t → t < 4 → zc_ab (gX_superOf u) t (nI c) = -1 ∨ rd (zc_ab (gX_superOf u) t (nI c)).toNatClampNeg ≠ 0 := fun t a b => by
        by_cases e : t = d
        · rw [e]; exact fine
        · exact hr t (by omega) b
      have xs : ∀ (post : Int32 → SX → Prop), kX_readyUntilInitialiser_2 post (nI c) (d + 1) (nI d + (-1)) (rX he fr wu wa ou re lg dn cl sy tc lc rd co cc ca hp np gx fm fp ce u) → kX_readyUntilInitialiser_2 post (nI c) (d + 1 + 1) (nI (d + 1) + (-1)) (rX he fr wu wa ou re lg dn cl sy tc lc rd co cc ca hp np gx fm fp ce u) := by
        intro post hq
        rw [pk_m1]
        refine uX_readyUntilInitialiser_2 (br_f (nI_pos (by omega)) (x_classAbove (n := 4) (by omega) (by rw [rX_superOf]; exact dp) ?_))
        rw [rX_superOf, rX_ready]
        refine br_c (fun w => nm_e hq) (fun w => ?_)
        have f2 := fine.resolve_left w
        obtain ⟨k, hk, ek, _⟩ := hab.resolve_left w
        exact ⟨by rw [ek]; exact vp_in_nI hk (by decide), br_f f2 (nm_e hq)⟩
      obtain ⟨rd', h⟩ := ih (by omega) rd hr'
      rcases h with ⟨hX, hY⟩ | ⟨k, q, hk, eq, hq, hl, hX, hY⟩
      · exact ⟨rd', Or.inl ⟨fun post hq => xs post (hX post hq), fun post N x2 hN hx hq => hY post N x2 (by omega) hx hq⟩⟩
      · exact ⟨rd', Or.inr ⟨k, q, hk, eq, hq, hl, fun post hq => xs post (hX post hq), fun post N x2 hN hx hq => hY post N x2 (by omega) hx hq⟩⟩
    · have vk : vp_in (nI k) 4 := vp_in_nI hk (by decide)
      have ck : (nI k).toNatClampNeg = k := nI_clamp (by omega)
      have nk : ¬ zc_ab (gX_superOf u) d (nI c) = -1 := by rw [ek]; exact zn_m1 _ (by omega)
      have eini' : gY_first v k = gX_initialisers u k := by rw [eini]
      have eLen : ∀ q, gY_length v q = gX_lengths u q := fun q => by rw [hs.1.2.2.2.2.2.1]
      have hr' : ∀ t, d ≤ t → t < 4 → zc_ab (gX_superOf u) t (nI c) = -1 ∨ upd rd k 1 (zc_ab (gX_superOf u) t (nI c)).toNatClampNeg ≠ 0 := fun t a b => by
        by_cases e : (zc_ab (gX_superOf u) t (nI c)).toNatClampNeg = k
        · rw [e, pk_us]; exact Or.inr (by decide)
        · rw [pk_un e]
          by_cases e2 : t = d
          · subst e2; rw [ek, ck] at e; exact absurd rfl e
          · exact hr t (by omega) b
      have xs : ∀ (post : Int32 → SX → Prop), ((¬ zr_bd (gX_lengths u) (gX_initialisers u k) → kX_readyUntilInitialiser_2 post (nI c) (d + 1) (nI d + (-1)) (rX he fr wu wa ou re lg dn cl sy tc lc (upd rd k 1) co cc ca hp np gx fm fp ce u)) ∧ (zr_bd (gX_lengths u) (gX_initialisers u k) → post (nI k) (rX he fr wu wa ou re lg dn cl sy tc lc (upd rd k 1) co cc ca hp np gx fm fp ce u))) → kX_readyUntilInitialiser_2 post (nI c) (d + 1 + 1) (nI (d + 1) + (-1)) (rX he fr wu wa ou re lg dn cl sy tc lc rd co cc ca hp np gx fm fp ce u) := by
        intro post hq
        rw [pk_m1]
        refine uX_readyUntilInitialiser_2 (br_f (nI_pos (by omega)) (x_classAbove (n := 4) (by omega) (by rw [rX_superOf]; exact dp) ?_))
        rw [rX_superOf, rX_ready, rX_initialisers, ek, ck]
        refine br_f (zn_m1 _ (by omega)) ⟨vk, br_t rk ⟨vk, nm_e ⟨vk, ?_⟩⟩⟩
        rw [show vp_nar .boolean 1 = 1 from rfl, rX__ready]
        exact x_hasBody (u := (rX he fr wu wa ou re lg dn cl sy tc lc (upd rd k 1) co cc ca hp np gx fm fp ce u)) lens.1 (zp_br (fun w => nm_e (hq.1 w)) (fun w => hq.2 w))
      have ys : ∀ (post : Int32 → SY → Prop) (N : Nat) (x2 : Int32), d + 1 + 2 ≤ N → ¬ x2 < 0 → ((¬ zr_bd (gX_lengths u) (gX_initialisers u k) → ∀ N' x2', d + 2 ≤ N' → ¬ x2' < 0 → kY_isReady_2 post (nI c) N' x2' (rY us fr wu st og an cl sy tc lc re (upd rd k 1) cd lk of fl gy mk fm fp hi lo sk v)) ∧ (zr_bd (gX_lengths u) (gX_initialisers u k) → wpY_enter (fun r_12 u1 => (((r_12 = 0 → (wpY_raise (fun u2 => (post 0 u2)) u1 5)) ∧ (¬ r_12 = 0 → (vp_in ((6 * (gY_depth u1)) - 6) 84 ∧ ∀ a_locals_98, a_locals_98 = upd (gY_locals u1) ((6 * (gY_depth u1)) - 6).toNatClampNeg (nI k) → (post 0 (sY_locals a_locals_98 u1))))))) (rY us fr wu st og an cl sy tc lc re (upd rd k 1) cd lk of fl gy mk fm fp hi lo sk v) (gX_initialisers u k))) → kY_isReady_2 post (nI c) N x2 (rY us fr wu st og an cl sy tc lc re rd cd lk of fl gy mk fm fp hi lo sk v) := by
        intro post N x2 hN hx hq
        obtain ⟨N', rfl⟩ : ∃ N', N = N' + 1 := ⟨N - 1, by omega⟩
        refine uY_isReady_2 (br_f hx ⟨_, y_walk 4 (-1) (nI c) (by rw [rY_up]; exact dpY) ?_⟩)
        rw [rY_ready, rY_up, ← eY, zy_wb 4 _ _ d dp (by omega) nk (by rw [ek, ck]; exact rk) (fun t a b => hr t (by omega) b), ek]
        unfold zy_q
        rw [rY_ready, rY_first, rY_length, ck, eini']
        refine br_t (nI_pos' (by omega)) ⟨vk, nm_e ⟨vk, ?_⟩⟩
        rw [show vp_nar .boolean 1 = 1 from rfl, rY__ready]
        rcases hs.2.2.2.1 k hk with w | w
        · have nb : ¬ zr_bd (gX_lengths u) (gX_initialisers u k) := fun ⟨q, _, e, _⟩ => zn_m1 q (by omega) (e.symm.trans w)
          exact br_t (by rw [w]; decide) (hq.1 nb _ _ (by omega) (nI_pos (by omega)))
        · obtain ⟨q, hq2, eq⟩ : ∃ q, q < 2 ∧ gX_initialisers u k = nI q := w.elim (fun w => ⟨0, by omega, w⟩) (fun w => ⟨1, by omega, w⟩)
          rw [eq] at hq ⊢
          rw [nI_clamp (n := q) (by omega), eLen]
          refine br_f (nI_pos (by omega)) ⟨vk, vp_in_nI (by omega) (by decide), br_c (fun w => ?_) (fun w => ⟨vk, ?_⟩)⟩
          · refine hq.1 (fun ⟨q', h1, h2, h3⟩ => ?_) _ _ (by omega) (nI_pos (by omega))
            have := (nI_eq (by omega) (by omega)).mp h2
            subst this
            exact h3 w
          · exact hq.2 ⟨q, by omega, rfl, w⟩
      by_cases bd : zr_bd (gX_lengths u) (gX_initialisers u k)
      · obtain ⟨q, hq8, eq, hl⟩ := id bd
        have hq2 : q < 2 := by
          rcases hs.2.2.2.1 k hk with w | w | w <;> rw [w] at eq
          · exact absurd eq.symm (zn_m1 _ (by omega))
          · have := (nI_eq (by omega) (by omega)).mp eq; omega
          · have := (nI_eq (by omega) (by omega)).mp eq; omega
        refine ⟨upd rd k 1, Or.inr ⟨k, q, hk, eq, hq2, hl, fun post hq => xs post ⟨fun w => absurd bd w, fun _ => hq⟩, fun post N x2 hN hx hq => ys post N x2 hN hx ⟨fun w => absurd bd w, fun _ => ?_⟩⟩⟩
        rw [eq]; exact hq
      · obtain ⟨rd', h⟩ := ih (by omega) (upd rd k 1) hr'
        rcases h with ⟨hX, hY⟩ | ⟨k2, q, hk2, eq, hq, hl, hX, hY⟩
        · exact ⟨rd', Or.inl ⟨fun post hq => xs post ⟨fun _ => hX post hq, fun w => absurd w bd⟩, fun post N x2 hN hx hq => ys post N x2 hN hx ⟨fun _ N' x2' h1 h2 => hY post N' x2' h1 h2 hq, fun w => absurd w bd⟩⟩⟩
        · exact ⟨rd', Or.inr ⟨k2, q, hk2, eq, hq, hl, fun post hq => xs post ⟨fun _ => hX post hq, fun w => absurd w bd⟩, fun post N x2 hN hx hq => ys post N x2 hN hx ⟨fun _ N' x2' h1 h2 => hY post N' x2' h1 h2 hq, fun w => absurd w bd⟩⟩⟩
/-- classes that a NEW needs, made ready on both sides -/
theorem ready_both (hs : zR_s u v) {c : Nat} (dp : zc_dp (gX_superOf u) 4 (nI c)) : ∃ rd' : Nat → Int32,
  ((∀ post : Int32 → SX → Prop, post (-1) (rX he fr wu wa ou re lg dn cl sy tc lc rd' co cc ca hp np gx fm fp ce u) → wpX_readyUntilInitialiser post (rX he fr wu wa ou re lg dn cl sy tc lc rd co cc ca hp np gx fm fp ce u) (nI c)) ∧ (∀ post : Int32 → SY → Prop, post 1 (rY us fr wu st og an cl sy tc lc re rd' cd lk of fl gy mk fm fp hi lo sk v) → wpY_isReady post (rY us fr wu st og an cl sy tc lc re rd cd lk of fl gy mk fm fp hi lo sk v) (nI c))) ∨
  (∃ k q, k < 4 ∧ gX_initialisers u k = nI q ∧ q < 2 ∧ gX_lengths u q ≠ 0 ∧ (∀ post : Int32 → SX → Prop, post (nI k) (rX he fr wu wa ou re lg dn cl sy tc lc rd' co cc ca hp np gx fm fp ce u) → wpX_readyUntilInitialiser post (rX he fr wu wa ou re lg dn cl sy tc lc rd co cc ca hp np gx fm fp ce u) (nI c)) ∧
    (∀ post : Int32 → SY → Prop, wpY_enter (fun r_12 u1 => (((r_12 = 0 → (wpY_raise (fun u2 => (post 0 u2)) u1 5)) ∧ (¬ r_12 = 0 → (vp_in ((6 * (gY_depth u1)) - 6) 84 ∧ ∀ a_locals_98, a_locals_98 = upd (gY_locals u1) ((6 * (gY_depth u1)) - 6).toNatClampNeg (nI k) → (post 0 (sY_locals a_locals_98 u1))))))) (rY us fr wu st og an cl sy tc lc re rd' cd lk of fl gy mk fm fp hi lo sk v) (nI q) → wpY_isReady post (rY us fr wu st og an cl sy tc lc re rd cd lk of fl gy mk fm fp hi lo sk v) (nI c))) := by
  obtain ⟨rd', h⟩ := ready_loop (he := he) (fr := fr) (wu := wu) (wa := wa) (ou := ou) (lg := lg) (dn := dn) (cl := cl) (sy := sy) (tc := tc) (lc := lc) (us := us) (st := st) (og := og) (an := an) (re := re) (co := co) (cc := cc) (ca := ca) (hp := hp) (np := np) (gx := gx) (fm := fm) (fp := fp) (ce := ce) (cd := cd) (lk := lk) (of := of) (fl := fl) (gy := gy) (mk := mk) (hi := hi) (lo := lo) (sk := sk) hs dp 4 (by decide) rd (fun t a b => absurd a (by omega))
  refine ⟨rd', ?_⟩
  rcases h with ⟨hX, hY⟩ | ⟨k, q, hk, eq, hq, hl, hX, hY⟩
  · exact Or.inl ⟨fun post hq => upX_readyUntilInitialiser ⟨_, hX post hq⟩, fun post hq => upY_isReady ⟨6, hY post 6 0 (by decide) (by decide) hq⟩⟩
  · exact Or.inr ⟨k, q, hk, eq, hq, hl, fun post hq => upX_readyUntilInitialiser ⟨_, hX post hq⟩, fun post hq => upY_isReady ⟨6, hY post 6 0 (by decide) (by decide) hq⟩⟩
/-- both begin an initialiser -/
theorem init_both (hs : zR_s u v) (hb : zR_b u H R K) (hc : zR_c1 (gX_ops u) (gX_operands u) (gX_lengths u) co cc ca cd lk H R) (hh : zR_h1 (gX_superOf u) (gX_fieldCount u) (gX_refFields u) of fl hp gx gy he us p l) {D m i : Nat} (hF : zF u H R K p l wu cd fm fp ce hi lo sk D m i) (eo : (zw_op (gX_ops u) (24 * m + i)) = 12) {k q : Nat} (hk4 : k < 4) (ek : gX_initialisers u k = nI q) (hq : q < 2) (hl' : gX_lengths u q ≠ 0) :
  ∃ s' t', (∀ post : SX → Prop, post s' → wpX_initialise (fun u1 => ((gX_wanted u1 = -1 → post u1) ∧ (¬ gX_wanted u1 = -1 → wpX_enterWanted (fun u2 => post u2) u1))) (rX he (nI (D + 1)) wu (-1) 2 10000000000 (-1) dn cl sy tc lc rd co cc ca hp np gx fm fp ce u) (nI k)) ∧
    (∀ post : Int32 → SY → Prop, post 0 t' → wpY_enter (fun r_12 u1 => (((r_12 = 0 → (wpY_raise (fun u2 => (post 0 u2)) u1 5)) ∧ (¬ r_12 = 0 → (vp_in ((6 * (gY_depth u1)) - 6) 84 ∧ ∀ a_locals_98, a_locals_98 = upd (gY_locals u1) ((6 * (gY_depth u1)) - 6).toNatClampNeg (nI k) → (post 0 (sY_locals a_locals_98 u1))))))) (rY us (nI (D + 1)) wu st og 2 cl sy tc lc 10000000000 rd cd lk of fl gy mk fm fp hi lo sk v) (nI q)) ∧ (zS u v H R K s' t' st ∨ zE u v H R s' t' st) := by
  obtain ⟨hD, hm, hi2, e1, e2, ⟨n, hn, hin, el, at_⟩, xc, yo, o24, ya⟩ := zS_top hs hb hc hF
  obtain ⟨a1, a2, a3, a4, a5, a6, a7, a8, a9, a10, a11, a12, a13⟩ := at_
  have hhi := hF.2.1
  have hvv := hF.2.2.1
  have eP : (zw_P (gX_ops u) (gX_operands u) (24 * m + i)) = 0 := by unfold zw_P; rw [eo]; rfl
  have hm' : q < 8 := by omega
  obtain ⟨n', n0, n24, el', r0, h0, kin, ⟨w, w9, w15, hw⟩, _⟩ := hb q hm' hl'
  obtain ⟨tc', co', cc', ca', cd', hc', c1, cm, eX, eY⟩ := enter_both (re := 10000000000) (he := he) (wu := wu) (ou := 2) (lg := -1) (dn := dn) (cl := cl) (sy := sy) (tc := tc) (lc := lc) (us := us) (st := st) (og := og) (an := 2) (rd := rd) (hp := hp) (np := np) (gx := gx) (fm := fm) (fp := fp) (ce := upd ce (12 * (D + 1)) (nI k)) (of := of) (fl := fl) (gy := gy) (mk := mk) (hi := hi) (lo := lo) (sk := sk) (D := D + 1) hs hb hc (by omega) hm' hl'
  have vm : vp_in (nI q) 8 := vp_in_nI hm' (by decide)
  have cm' : (nI q).toNatClampNeg = q := nI_clamp (by omega)
  have vD : vp_in (nI (D + 1)) 14 := vp_in_nI (by omega) (by decide)
  have cD : (nI (D + 1)).toNatClampNeg = D + 1 := nI_clamp (by omega)
  have ew := hF.2.2.2.2.1
  have room120 := hF.2.2.2.2.2
  have ewu : wu + gX_frameWords u q = nI (zF_w (gX_frameWords u) fm (D + 1) + w) := by rw [ew, hw, nI_add]
  have e12 : nI (D + 1) * 12 = nI (12 * (D + 1)) := by rw [show (12 : Int32) = nI 12 from rfl, pk_mul, Nat.mul_comm]
  have e6 : (6 : Int32) * nI (D + 1 + 1) - 6 = nI (6 * (D + 1)) := by
    rw [show (6 : Int32) = nI 6 from rfl, pk_mul, pk_sub (by omega)]
    exact congrArg nI (by omega)
  have xw : ∀ (post : SX → Prop), kX_enterWanted_23 (fun u2 => post u2) (nI q) (rX he (nI (D + 1)) wu (-1) 2 10000000000 (-1) dn cl sy tc' lc rd co' cc' ca' hp np gx fm fp (upd ce (12 * (D + 1)) (nI k)) u) → wpX_initialise (fun u1 => ((gX_wanted u1 = -1 → post u1) ∧ (¬ gX_wanted u1 = -1 → wpX_enterWanted (fun u2 => post u2) u1))) (rX he (nI (D + 1)) wu (-1) 2 10000000000 (-1) dn cl sy tc lc rd co cc ca hp np gx fm fp ce u) (nI k) := by
    intro post hqq
    refine upX_initialise ?_
    rw [rX_frames, rX_cells, rX_initialisers, e12, nI_clamp (n := 12 * (D + 1)) (by omega), nI_clamp (n := k) (by omega), ek]
    refine ⟨vp_in_nI (by omega) (by decide), nm_e ⟨vp_in_nI hk4 (by decide), nm_e ?_⟩⟩
    rw [rX__wanted_cells, rX_wanted]
    exact br_f (zn_m1 _ (by omega)) (eX _ hqq)
  have tk : zt_takes q = 1 := by unfold zt_takes; rw [if_pos hq]
  by_cases room : zF_w (gX_frameWords u) fm (D + 1) + w ≤ 120
  · have le : nI (zF_w (gX_frameWords u) fm (D + 1) + w) ≤ 120 := nI_le (b := 120) room (by decide)
    have hz := zF_call (lo' := upd lo (6 * (D + 1)) (nI k)) (ce' := upd ce (12 * (D + 1)) (nI k)) (hi' := upd hi (D + 1) 0) hb hF hm' hl' hw w15 (Or.inl eo) (fun w => absurd eo w) room c1 cm (by rw [pk_un (by omega), hhi, eP]; rfl) pk_us (fun j hj => pk_un (by omega)) (fun k hk => pk_un (by omega)) (fun k hk => pk_un (by omega)) (by
      intro e he
      rw [tk] at he
      have : e = 0 := by omega
      subst this
      have z : zy_in q 0 = 1 := by unfold zy_in; rw [tk, if_neg (by decide), if_pos hq]
      rw [z]
      show zl_val p l 1 (upd lo (6 * (D + 1)) (nI k) (6 * (D + 1))) (upd ce (12 * (D + 1)) (nI k) (12 * (D + 1)))
      rw [pk_us, pk_us]
      exact ⟨fun _ => rfl, fun w => absurd w (by decide)⟩)
    refine ⟨_, _, fun post hqq => xw post ?_, fun post hqq => eY _ ?_, Or.inl ⟨p, l, D + 1, q, 0, he, _, dn, cl, sy, tc', lc, us, og, rd, co', cc', ca', hp, np, gx, _, _, _, cd', lk, of, fl, gy, mk, _, _, sk, rfl, rfl, hc', hh, hz⟩⟩
    · refine uX_enterWanted_23 ⟨vm, ?_⟩
      rw [rX_frameWordsUsed, rX_frameWords, rX_frames, rX_frameMethod, rX_framePlace, cm', cD, nI_1, ewu]
      refine br_t le ⟨vm, nm_e ⟨vD, nm_e ⟨vD, nm_e (nm_e ?_)⟩⟩⟩
      rw [rX__frames_frameWordsUsed_frameMethod_framePlace]; exact hqq
    · rw [ewu]
      refine br_t le (br_f (by decide) ?_)
      rw [rY_depth, e6, rY_locals, nI_clamp (n := 6 * (D + 1)) (by omega)]
      refine ⟨vp_in_nI (by omega) (by decide), nm_e ?_⟩
      rw [rY__locals]; exact hqq
  · have nle : ¬ nI (zF_w (gX_frameWords u) fm (D + 1) + w) ≤ 120 := nI_ge (b := zF_w (gX_frameWords u) fm (D + 1) + w) (a := 120) (by omega) (by omega)
    obtain ⟨s', t', hX, hY, hwn, hr⟩ := raise_both (x := 5) (st := st) (og := og) (dn := dn) (cl := cl) (sy := sy) (tc := tc') (lc := lc) (np := np) (rd := rd) (mk := mk) hs hb hc' hh (zF_Gx (ce' := upd ce (12 * (D + 1)) (nI k)) (hi' := hi) hb hF cm (fun k hk => pk_un (by omega)) (fun j hj => rfl)) ew
    refine ⟨s', t', fun post hqq => xw post ?_, fun post hqq => eY _ ?_, hr⟩
    · refine uX_enterWanted_23 ⟨vm, ?_⟩
      rw [rX_frameWordsUsed, rX_frameWords, cm', ewu]
      exact br_f nle (hX _ hqq)
    · rw [ewu]
      exact br_f nle (br_t rfl (hY _ hqq))
end
