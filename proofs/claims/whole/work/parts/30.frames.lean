/-! running states: frames -/
section
variable {u : SX} {v : SY} {he fr wu wa ou lg dn cl sy tc lc us st og an : Int32} {re : Int64} {rd co cc ca hp np gx fm fp ce cd lk of fl gy mk hi lo sk : Nat → Int32}
variable {H : Nat → Nat} {R : Nat → Prop} {K : Nat → Nat → Nat} {p : Nat → Nat} {l : List Nat}
/-- Y's entry e of frame j -/
def zF_y (lo sk : Nat → Int32) (j e : Nat) : Int32 := if e < 6 then lo (6 * j + e) else sk (6 * j + (e - 6))
def zF_v (p : Nat → Nat) (l : List Nat) (K : Nat → Nat) (h j : Nat) (lo sk ce : Nat → Int32) : Prop := ∀ e, e < 6 + h → zl_val p l (K e) (zF_y lo sk j e) (ce (12 * j + e))
def zF_f (u : SX) (R : Nat → Prop) (cd fm fp : Nat → Int32) (j m i : Nat) : Prop := m < 8 ∧ i < 24 ∧ fm j = nI m ∧ fp j = nI i ∧ gX_lengths u m ≠ 0 ∧ R (24 * m + i) ∧ cd m = 1
/-- a frame that has called -/
def zF_l (u : SX) (H : Nat → Nat) (R : Nat → Prop) (K : Nat → Nat → Nat) (p : Nat → Nat) (l : List Nat) (cd fm fp ce hi lo sk : Nat → Int32) (j : Nat) : Prop :=
  ∃ m i, zF_f u R cd fm fp j m i ∧ hi j = nI (H (24 * m + i) - zw_P (gX_ops u) (gX_operands u) (24 * m + i)) ∧ zF_v p l (K (24 * m + i)) (H (24 * m + i) - zw_P (gX_ops u) (gX_operands u) (24 * m + i)) j lo sk ce ∧ (zw_op (gX_ops u) (24 * m + i) = 12 ∨ zw_op (gX_ops u) (24 * m + i) = 16 ∨ zw_op (gX_ops u) (24 * m + i) = 17) ∧
  (zw_op (gX_ops u) (24 * m + i) ≠ 12 → ∀ q, q < 8 → fm (j + 1) = nI q → zk_pk (gX_refFields u) (zw_op (gX_ops u) (24 * m + i)) (gX_operands u (24 * m + i)) = if 4 ≤ q ∧ q ≤ 6 then 2 else 1)
def zF_w (FW fm : Nat → Int32) : Nat → Nat
  | 0 => 0
  | n + 1 => zF_w FW fm n + (FW (fm n).toNatClampNeg).toNatClampNeg
/-- the frames of a running state: the top one is D, at instruction i of m -/
def zF (u : SX) (H : Nat → Nat) (R : Nat → Prop) (K : Nat → Nat → Nat) (p : Nat → Nat) (l : List Nat) (wu : Int32) (cd fm fp ce hi lo sk : Nat → Int32) (D m i : Nat) : Prop :=
  zF_f u R cd fm fp D m i ∧ hi D = nI (H (24 * m + i)) ∧ zF_v p l (K (24 * m + i)) (H (24 * m + i)) D lo sk ce ∧ (∀ j, j < D → zF_l u H R K p l cd fm fp ce hi lo sk j) ∧ wu = nI (zF_w (gX_frameWords u) fm (D + 1)) ∧ zF_w (gX_frameWords u) fm (D + 1) ≤ 120
theorem zF_at (hb : zR_b u H R K) {j m i : Nat} (h : zF_f u R cd fm fp j m i) : ∃ n, n ≤ 24 ∧ i < n ∧ gX_lengths u m = nI n ∧ zw_at (gX_superOf u) (gX_fieldCount u) (gX_refFields u) (gX_ops u) (gX_operands u) (gX_catchFrom u) (gX_catchTo u) (gX_catchGoal u) (gX_refMaps u) (gX_bodyHeights u) H R K m n i ∧ ∃ w, 9 ≤ w ∧ w ≤ 15 ∧ gX_frameWords u m = nI w := by
  obtain ⟨hm, hi, _, _, hl, r, _⟩ := h
  obtain ⟨n, q1, q2, q3, q4, q5, q6, q7, q8, q9, at_⟩ := hb m hm hl
  have hin := q8 i hi r
  exact ⟨n, q2, hin, q3, at_ i hin r, q7⟩
theorem zF_w9 (hb : zR_b u H R K) : ∀ n, (∀ j, j < n → ∃ m i, zF_f u R cd fm fp j m i) → 9 * n ≤ zF_w (gX_frameWords u) fm n := by
  intro n
  induction n with
  | zero => intro _; exact Nat.zero_le _
  | succ n ih =>
    intro h
    have i1 := ih (fun j hj => h j (by omega))
    obtain ⟨m, i, hf⟩ := h n (by omega)
    obtain ⟨_, _, _, _, _, w, h1, h2, e⟩ := zF_at hb hf
    show 9 * (n + 1) ≤ zF_w _ _ n + (gX_frameWords u (fm n).toNatClampNeg).toNatClampNeg
    rw [hf.2.2.1, nI_clamp (by have := hf.1; omega), e, nI_clamp (by omega)]
    omega
theorem zF_D (hb : zR_b u H R K) {D m i : Nat} (h : zF u H R K p l wu cd fm fp ce hi lo sk D m i) : D ≤ 12 := by
  obtain ⟨h1, _, _, h4, _, h6⟩ := h
  have := zF_w9 (fm := fm) (cd := cd) (fp := fp) hb (D + 1) (fun j hj => by
    by_cases e : j = D
    · subst e; exact ⟨m, i, h1⟩
    · obtain ⟨m', i', q, _⟩ := h4 j (by omega)
      exact ⟨m', i', q⟩)
  omega
theorem zF_wc {FW fm' : Nat → Int32} : ∀ n, (∀ j, j < n → fm' j = fm j) → zF_w FW fm' n = zF_w FW fm n := by
  intro n
  induction n with
  | zero => intro _; rfl
  | succ n ih =>
    intro h
    show zF_w FW fm' n + _ = zF_w FW fm n + _
    rw [ih (fun j hj => h j (by omega)), h n (by omega)]
/-- a frame below stays, where what it holds stays -/
theorem zF_lk {cd' fm' fp' ce' hi' lo' sk' : Nat → Int32} {p' : Nat → Nat} {l' : List Nat} {j : Nat} (h : zF_l u H R K p l cd fm fp ce hi lo sk j) (e1 : fm' j = fm j) (e2 : fm' (j + 1) = fm (j + 1)) (e3 : fp' j = fp j) (e4 : hi' j = hi j) (e5 : ∀ m, m < 8 → cd m = 1 → cd' m = 1)
  (hH : ∀ m i, zF_f u R cd fm fp j m i → H (24 * m + i) ≤ 6) (e6 : ∀ k e, e < 12 → zl_val p l k (zF_y lo sk j e) (ce (12 * j + e)) → zl_val p' l' k (zF_y lo' sk' j e) (ce' (12 * j + e))) : zF_l u H R K p' l' cd' fm' fp' ce' hi' lo' sk' j := by
  obtain ⟨m, i, hf, h2, h3, h4, h5⟩ := h
  have h6 := hH m i hf
  obtain ⟨f1, f2, f3, f4, f5, f6, f7⟩ := hf
  refine ⟨m, i, ⟨f1, f2, e1.trans f3, e3.trans f4, f5, f6, e5 m f1 f7⟩, e4.trans h2, fun e he => e6 _ e (by omega) (h3 e he), h4, fun w q hq eq => h5 w q hq ?_⟩
  rw [← e2]; exact eq
theorem zF_H6 (hb : zR_b u H R K) {j m i : Nat} (h : zF_f u R cd fm fp j m i) : H (24 * m + i) ≤ 6 := by
  obtain ⟨n, _, _, _, at_, _⟩ := zF_at hb h
  exact at_.2.1
/-- going on in the same frame -/
theorem zF_step (hb : zR_b u H R K) {D m i n t : Nat} (h : zF u H R K p l wu cd fm fp ce hi lo sk D m i) (hn : n ≤ 24) (go : zw_go (gX_refFields u) (gX_ops u) (gX_operands u) H R K m n (24 * m + i) t) {p' : Nat → Nat} {l' : List Nat} {cd' fp' ce' hi' lo' sk' : Nat → Int32}
  (a1 : fp' D = nI t) (a2 : ∀ j, j < D → fp' j = fp j) (a3 : hi' D = nI (H (24 * m + t))) (a4 : ∀ j, j < D → hi' j = hi j) (a5 : ∀ m, m < 8 → cd m = 1 → cd' m = 1)
  (a6 : ∀ j, j < D → ∀ k e, e < 12 → zl_val p l k (zF_y lo sk j e) (ce (12 * j + e)) → zl_val p' l' k (zF_y lo' sk' j e) (ce' (12 * j + e)))
  (a7 : ∀ e, e < 6 + H (24 * m + t) → zl_val p' l' (zw_bh (gX_refFields u) (zw_op (gX_ops u) (24 * m + i)) (gX_operands u (24 * m + i)) (K (24 * m + i)) (6 + H (24 * m + i) - zw_P (gX_ops u) (gX_operands u) (24 * m + i)) e) (zF_y lo' sk' D e) (ce' (12 * D + e))) :
  zF u H R K p' l' wu cd' fm fp' ce' hi' lo' sk' D m t := by
  obtain ⟨⟨f1, f2, f3, f4, f5, f6, f7⟩, h2, h3, h4, h5, h6⟩ := h
  obtain ⟨g1, g2, g3, g4⟩ := go
  refine ⟨⟨f1, by omega, f3, a1, f5, g2, a5 m f1 f7⟩, a3, ?_, ?_, h5, h6⟩
  · intro e he
    have v := a7 e he
    refine ⟨fun w => ?_, fun w => ?_⟩
    · have := g4 e he (Or.inl w)
      exact v.1 (this.trans w)
    · have := g4 e he (Or.inr w)
      exact v.2 (this.trans w)
  · intro j hj
    exact zF_lk (h4 j hj) rfl rfl (a2 j hj) (a4 j hj) a5 (fun m i q => zF_H6 hb q) (a6 j hj)
theorem zF_yk {lo' sk' : Nat → Int32} {D j e : Nat} (h1 : ∀ k, k < 6 * D → lo' k = lo k) (h2 : ∀ k, k < 6 * D → sk' k = sk k) (hj : j < D) (he : e < 12) : zF_y lo' sk' j e = zF_y lo sk j e := by
  unfold zF_y
  split
  · exact h1 _ (by omega)
  · exact h2 _ (by omega)
/-- one value is pushed, in place of what is popped -/
theorem zF_push (hb : zR_b u H R K) {D m i n t : Nat} (h : zF u H R K p l wu cd fm fp ce hi lo sk D m i) (hn : n ≤ 24) (go : zw_go (gX_refFields u) (gX_ops u) (gX_operands u) H R K m n (24 * m + i) t) (hQ : zw_Q (gX_ops u) (24 * m + i) = 1) (o2 : zw_op (gX_ops u) (24 * m + i) ≠ 2) (o3 : zw_op (gX_ops u) (24 * m + i) ≠ 3) (o20 : zw_op (gX_ops u) (24 * m + i) ≠ 20)
  (hP : zw_P (gX_ops u) (gX_operands u) (24 * m + i) ≤ H (24 * m + i)) {hi' fp' : Nat → Int32} {y x : Int32} (hv : zl_val p l (zk_pk (gX_refFields u) (zw_op (gX_ops u) (24 * m + i)) (gX_operands u (24 * m + i))) y x)
  (a1 : fp' D = nI t) (a2 : ∀ j, j < D → fp' j = fp j) (a3 : hi' D = nI (H (24 * m + i) - zw_P (gX_ops u) (gX_operands u) (24 * m + i) + 1)) (a4 : ∀ j, j < D → hi' j = hi j) :
  zF u H R K p l wu cd fm fp' (upd ce (12 * D + (6 + H (24 * m + i) - zw_P (gX_ops u) (gX_operands u) (24 * m + i))) x) hi' lo (upd sk (6 * D + (H (24 * m + i) - zw_P (gX_ops u) (gX_operands u) (24 * m + i))) y) D m t := by
  have g3 := go.2.2.1
  have hv0 := h.2.2.1
  refine zF_step hb h hn go a1 a2 (by rw [a3, g3, hQ]) a4 (fun _ _ w => w) ?_ ?_
  · intro j hj k e he w
    rw [zF_yk (D := D) (fun _ _ => rfl) (fun q hq => pk_un (by omega)) hj he, pk_un (by omega)]
    exact w
  · intro e he
    rw [g3, hQ] at he
    unfold zw_bh
    rw [if_neg o3, if_neg o2, if_neg o20]
    by_cases q : e = 6 + H (24 * m + i) - zw_P (gX_ops u) (gX_operands u) (24 * m + i)
    · rw [if_pos q, q, pk_us]
      have : zF_y lo (upd sk (6 * D + (H (24 * m + i) - zw_P (gX_ops u) (gX_operands u) (24 * m + i))) y) D (6 + H (24 * m + i) - zw_P (gX_ops u) (gX_operands u) (24 * m + i)) = y := by
        unfold zF_y
        rw [if_neg (by omega), show 6 * D + (6 + H (24 * m + i) - zw_P (gX_ops u) (gX_operands u) (24 * m + i) - 6) = 6 * D + (H (24 * m + i) - zw_P (gX_ops u) (gX_operands u) (24 * m + i)) by omega, pk_us]
      rw [this]; exact hv
    · rw [if_neg q, pk_un (by omega)]
      have : zF_y lo (upd sk (6 * D + (H (24 * m + i) - zw_P (gX_ops u) (gX_operands u) (24 * m + i))) y) D e = zF_y lo sk D e := by
        unfold zF_y
        split
        · rfl
        · rw [pk_un (by omega)]
      rw [this]; exact hv0 e (by omega)
/-- nothing is pushed, nothing stored -/
theorem zF_pop (hb : zR_b u H R K) {D m i n t : Nat} (h : zF u H R K p l wu cd fm fp ce hi lo sk D m i) (hn : n ≤ 24) (go : zw_go (gX_refFields u) (gX_ops u) (gX_operands u) H R K m n (24 * m + i) t) (hQ : zw_Q (gX_ops u) (24 * m + i) = 0) (o2 : zw_op (gX_ops u) (24 * m + i) ≠ 2) (o3 : zw_op (gX_ops u) (24 * m + i) ≠ 3) (o20 : zw_op (gX_ops u) (24 * m + i) ≠ 20)
  (hP : zw_P (gX_ops u) (gX_operands u) (24 * m + i) ≤ H (24 * m + i)) {hi' fp' : Nat → Int32}
  (a1 : fp' D = nI t) (a2 : ∀ j, j < D → fp' j = fp j) (a3 : hi' D = nI (H (24 * m + i) - zw_P (gX_ops u) (gX_operands u) (24 * m + i))) (a4 : ∀ j, j < D → hi' j = hi j) :
  zF u H R K p l wu cd fm fp' ce hi' lo sk D m t := by
  have g3 := go.2.2.1
  have hv0 := h.2.2.1
  refine zF_step hb h hn go a1 a2 (by rw [a3, g3, hQ]; rfl) a4 (fun _ _ w => w) (fun j hj k e he w => w) ?_
  intro e he
  rw [g3, hQ] at he
  unfold zw_bh
  rw [if_neg o3, if_neg o2, if_neg o20, if_neg (by omega)]
  exact hv0 e (by omega)
/-! small steps of both sides -/
theorem zn_D1 (D : Nat) : nI (D + 1) - 1 = nI D := nI_pred D
theorem xr_adv {post : SX → Prop} {D i : Nat} (hD : D ≤ 12) (e : fp D = nI i) (h : post (rX he (nI (D + 1)) wu wa ou re lg dn cl sy tc lc rd co cc ca hp np gx fm (upd fp D (nI (i + 1))) ce u)) : wpX_advance post (rX he (nI (D + 1)) wu wa ou re lg dn cl sy tc lc rd co cc ca hp np gx fm fp ce u) := by
  have vD : vp_in (nI D) 14 := vp_in_nI (by omega) (by decide)
  refine upX_advance ?_
  rw [rX_frames, rX_framePlace, zn_D1, nI_clamp (by omega), e, nI_1]
  refine ⟨vD, vD, nm_e ?_⟩
  rw [rX__framePlace]; exact h
theorem xr_goto {post : SX → Prop} {D : Nat} {a : Int32} (hD : D ≤ 12) (h : post (rX he (nI (D + 1)) wu wa ou re lg dn cl sy tc lc rd co cc ca hp np gx fm (upd fp D a) ce u)) : wpX_goTo post (rX he (nI (D + 1)) wu wa ou re lg dn cl sy tc lc rd co cc ca hp np gx fm fp ce u) a := by
  have vD : vp_in (nI D) 14 := vp_in_nI (by omega) (by decide)
  refine upX_goTo ?_
  rw [rX_frames, rX_framePlace, zn_D1, nI_clamp (by omega)]
  refine ⟨vD, nm_e ?_⟩
  rw [rX__framePlace]; exact h
theorem xr_cp {post : Int32 → Prop} {D m i : Nat} (hD : D ≤ 12) (e1 : fm D = nI m) (e2 : fp D = nI i) (h : post (nI (24 * m + i))) : wpX_codePlace post (rX he (nI (D + 1)) wu wa ou re lg dn cl sy tc lc rd co cc ca hp np gx fm fp ce u) := by
  have vD : vp_in (nI D) 14 := vp_in_nI (by omega) (by decide)
  refine upX_codePlace ?_
  rw [rX_frames, rX_framePlace, rX_frameMethod, zn_D1, nI_clamp (by omega), e1, e2, show (24 : Int32) = nI 24 from rfl, pk_mul, nI_add, Nat.mul_comm]
  exact ⟨vD, vD, h⟩
theorem yr_pop {post : Int32 → SY → Prop} {D h : Nat} (hD : D ≤ 12) (hh : h < 6) (e : hi D = nI (h + 1)) (hp : post (sk (6 * D + h)) (rY us (nI (D + 1)) wu st og an cl sy tc lc re rd cd lk of fl gy mk fm fp (upd hi D (nI h)) lo sk v)) : wpY_pop post (rY us (nI (D + 1)) wu st og an cl sy tc lc re rd cd lk of fl gy mk fm fp hi lo sk v) := by
  have vD : vp_in (nI D) 14 := vp_in_nI (by omega) (by decide)
  refine upY_pop (nm_r (zn_D1 D) ?_)
  rw [rY_high, rY_stack, nI_clamp (by omega), e, zn_D1, show (6 : Int32) = nI 6 from rfl, pk_mul, nI_add, nI_clamp (by omega)]
  refine ⟨vD, vD, nm_e ⟨vp_in_nI (by omega) (by decide), ?_⟩⟩
  rw [rY__high]; exact hp
theorem yr_push {post : SY → Prop} {D h : Nat} {x : Int32} (hD : D ≤ 12) (hh : h < 6) (e : hi D = nI h) (hp : post (rY us (nI (D + 1)) wu st og an cl sy tc lc re rd cd lk of fl gy mk fm fp (upd hi D (nI (h + 1))) lo (upd sk (6 * D + h) x) v)) : wpY_push post (rY us (nI (D + 1)) wu st og an cl sy tc lc re rd cd lk of fl gy mk fm fp hi lo sk v) x := by
  have vD : vp_in (nI D) 14 := vp_in_nI (by omega) (by decide)
  refine upY_push (nm_r (zn_D1 D) ?_)
  rw [rY_high, rY_stack, nI_clamp (by omega), e, nI_1, show (6 : Int32) = nI 6 from rfl, pk_mul, nI_add, nI_clamp (by omega)]
  refine ⟨vD, vD, nm_e ⟨vp_in_nI (by omega) (by decide), nm_e ?_⟩⟩
  rw [rY__high_stack]; exact hp
theorem zu_uu {f : Nat → Int32} {k : Nat} {x y : Int32} : upd (upd f k x) k y = upd f k y := by
  funext j; unfold upd; split <;> rfl
end
