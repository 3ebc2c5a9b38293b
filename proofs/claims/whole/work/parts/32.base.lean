/-! one step: operations within a frame -/
section
variable {u : SX} {v : SY} {he fr wu wa ou lg dn cl sy tc lc us st og an : Int32} {re : Int64} {rd co cc ca hp np gx fm fp ce cd lk of fl gy mk hi lo sk : Nat → Int32}
variable {H : Nat → Nat} {R : Nat → Prop} {K : Nat → Nat → Nat} {p : Nat → Nat} {l : List Nat}
def zX_I (post : SX → Prop) (s : SX) : Prop := wpX_step (fun u1 => ((gX_wanted u1 = -1 → post u1) ∧ (¬ gX_wanted u1 = -1 → wpX_enterWanted (fun u2 => post u2) u1))) s
def zX_W (s s' : SX) : Prop := ∀ post : SX → Prop, post s' → zX_I post s
def zY_W (t t' : SY) : Prop := ∀ post : SY → Prop, post t' → wpY_step post t
/-- both run on -/
def zS (u : SX) (v : SY) (H : Nat → Nat) (R : Nat → Prop) (K : Nat → Nat → Nat) (s : SX) (t : SY) (k : Int32) : Prop :=
  ∃ (p : Nat → Nat) (l : List Nat) (D m i : Nat) (he wu dn cl sy tc lc us og : Int32) (rd co cc ca hp np gx fm fp ce cd lk of fl gy mk hi lo sk : Nat → Int32), s = (rX he (nI (D + 1)) wu (-1) 2 10000000000 (-1) dn cl sy tc lc rd co cc ca hp np gx fm fp ce u) ∧ t = (rY us (nI (D + 1)) wu k og 2 cl sy tc lc 10000000000 rd cd lk of fl gy mk fm fp hi lo sk v) ∧
  zR_c1 (gX_ops u) (gX_operands u) (gX_lengths u) co cc ca cd lk H R ∧ zR_h1 (gX_superOf u) (gX_fieldCount u) (gX_refFields u) of fl hp gx gy he us p l ∧ zF u H R K p l wu cd fm fp ce hi lo sk D m i
/-- both have ended -/
def zE (u : SX) (v : SY) (H : Nat → Nat) (R : Nat → Prop) (s : SX) (t : SY) (k : Int32) : Prop :=
  ∃ (p : Nat → Nat) (l : List Nat) (an he fr wu lg dn cl sy tc lc us og : Int32) (re : Int64) (rd co cc ca hp np gx fm fp ce cd lk of fl gy mk hi lo sk : Nat → Int32), s = (rX he fr wu (-1) an re lg dn cl sy tc lc rd co cc ca hp np gx fm fp ce u) ∧ t = (rY us fr wu k og an cl sy tc lc re rd cd lk of fl gy mk fm fp hi lo sk v) ∧
  zR_c1 (gX_ops u) (gX_operands u) (gX_lengths u) co cc ca cd lk H R ∧ zR_h1 (gX_superOf u) (gX_fieldCount u) (gX_refFields u) of fl hp gx gy he us p l ∧ ((an = 0 ∧ lg = -1) ∨ (an = 1 ∧ lg = og))
def zN (u : SX) (v : SY) (H : Nat → Nat) (R : Nat → Prop) (K : Nat → Nat → Nat) (s : SX) (t : SY) (k : Int32) : Prop := ∃ s' t', zX_W s s' ∧ zY_W t t' ∧ (zS u v H R K s' t' (k + 1) ∨ zE u v H R s' t' (k + 1))
/-- what is known of the instruction where the top frame is -/
theorem zS_top (hs : zR_s u v) (hb : zR_b u H R K) (hc : zR_c1 (gX_ops u) (gX_operands u) (gX_lengths u) co cc ca cd lk H R) {D m i : Nat} (hF : zF u H R K p l wu cd fm fp ce hi lo sk D m i) :
  D ≤ 12 ∧ m < 8 ∧ i < 24 ∧ fm D = nI m ∧ fp D = nI i ∧ (∃ n, n ≤ 24 ∧ i < n ∧ gX_lengths u m = nI n ∧ zw_at (gX_superOf u) (gX_fieldCount u) (gX_refFields u) (gX_ops u) (gX_operands u) (gX_catchFrom u) (gX_catchTo u) (gX_catchGoal u) (gX_refMaps u) (gX_bodyHeights u) H R K m n i) ∧
  zx_co (zw_op (gX_ops u) (24 * m + i)) (gX_operands u (24 * m + i)) (6 + H (24 * m + i) - zw_P (gX_ops u) (gX_operands u) (24 * m + i)) (co (24 * m + i)) (cc (24 * m + i)) (ca (24 * m + i)) ∧ gY_ops v (24 * m + i) = nI (zw_op (gX_ops u) (24 * m + i)) ∧ zw_op (gX_ops u) (24 * m + i) < 24 ∧ gY_args v (24 * m + i) = gX_operands u (24 * m + i) := by
  have hD := zF_D hb hF
  obtain ⟨n, h1, h2, h3, at_, _⟩ := zF_at hb hF.1
  obtain ⟨f1, f2, f3, f4, f5, f6, f7⟩ := hF.1
  obtain ⟨o24, eo, _⟩ := zi_of at_.1
  refine ⟨hD, f1, f2, f3, f4, ⟨n, h1, h2, h3, at_⟩, ((hc.1 m f1).2.2.2 i f2).2 f7 f6, ?_, o24, by rw [← hs.1.2.2.2.2.1]⟩
  rw [← hs.1.2.2.2.1]; exact eo
/-! X moves values -/
theorem xm_97 {post : SX → Prop} {D i : Nat} (hD : D ≤ 12) (e : fp D = nI i) (h : post (rX he (nI (D + 1)) wu wa ou re lg dn cl sy tc lc rd co cc ca hp np gx fm (upd fp D (nI (i + 1))) ce u)) : kX_moveValue_97 post (rX he (nI (D + 1)) wu wa ou re lg dn cl sy tc lc rd co cc ca hp np gx fm fp ce u) := uX_moveValue_97 (xr_adv hD e h)
theorem xm_24 {post : SX → Prop} {D i c : Nat} {a : Int32} (hD : D ≤ 12) (hc : c < 168) (e : fp D = nI i) (h : post (rX he (nI (D + 1)) wu wa ou re lg dn cl sy tc lc rd co cc ca hp np gx fm (upd fp D (nI (i + 1))) (upd ce c a) u)) : wpX_moveValue post (rX he (nI (D + 1)) wu wa ou re lg dn cl sy tc lc rd co cc ca hp np gx fm fp ce u) 24 (nI c) a := by
  refine upX_moveValue (br_f (by decide) (br_f (by decide) (br_f (by decide) (br_f (by decide) (br_t rfl ⟨vp_in_nI hc (by decide), nm_e ?_⟩)))))
  rw [nI_clamp (by omega), rX_cells, rX__cells]
  exact xm_97 hD e h
theorem xm_25 {post : SX → Prop} {D i c b : Nat} (hD : D ≤ 12) (hc : c < 168) (hb2 : b < 12) (e : fp D = nI i) (h : post (rX he (nI (D + 1)) wu wa ou re lg dn cl sy tc lc rd co cc ca hp np gx fm (upd fp D (nI (i + 1))) (upd ce c (ce (12 * D + b))) u)) : wpX_moveValue post (rX he (nI (D + 1)) wu wa ou re lg dn cl sy tc lc rd co cc ca hp np gx fm fp ce u) 25 (nI c) (nI b) := by
  have e12 : nI D * 12 + nI b = nI (12 * D + b) := by rw [show (12 : Int32) = nI 12 from rfl, pk_mul, nI_add, Nat.mul_comm]
  refine upX_moveValue ?_
  rw [rX_frames, zn_D1, e12]
  refine br_f (by decide) (br_f (by decide) (br_f (by decide) (br_f (by decide) (br_f (by decide) (br_t rfl ⟨vp_in_nI (by omega) (by decide), vp_in_nI hc (by decide), nm_e ?_⟩)))))
  rw [nI_clamp (by omega), nI_clamp (by omega), rX_cells, rX__cells]
  exact xm_97 hD e h
theorem xm_26 {post : SX → Prop} {D i : Nat} {c a : Int32} (hD : D ≤ 12) (e : fp D = nI i) (h : post (rX he (nI (D + 1)) wu wa ou re lg dn cl sy tc lc rd co cc ca hp np gx fm (upd fp D (nI (i + 1))) ce u)) : wpX_moveValue post (rX he (nI (D + 1)) wu wa ou re lg dn cl sy tc lc rd co cc ca hp np gx fm fp ce u) 26 c a :=
  upX_moveValue (br_f (by decide) (br_t (by decide) (xm_97 hD e h)))
theorem xm_22 {post : SX → Prop} {D i c g : Nat} (hD : D ≤ 12) (hc : c < 168) (hg : g < 4) (e : fp D = nI i) (h : post (rX he (nI (D + 1)) wu wa ou re lg dn cl sy tc lc rd co cc ca hp np gx fm (upd fp D (nI (i + 1))) (upd ce c (gx g)) u)) : wpX_moveValue post (rX he (nI (D + 1)) wu wa ou re lg dn cl sy tc lc rd co cc ca hp np gx fm fp ce u) 22 (nI c) (nI g) := by
  refine upX_moveValue (br_f (by decide) (br_f (by decide) (br_t rfl ⟨vp_in_nI hg (by decide), vp_in_nI hc (by decide), nm_e ?_⟩)))
  rw [nI_clamp (by omega), nI_clamp (by omega), rX_cells, rX_globals, rX__cells]
  exact xm_97 hD e h
theorem xm_23 {post : SX → Prop} {D i c g : Nat} (hD : D ≤ 12) (hc : c < 168) (hg : g < 4) (e : fp D = nI i) (h : post (rX he (nI (D + 1)) wu wa ou re lg dn cl sy tc lc rd co cc ca hp np (upd gx g (ce c)) fm (upd fp D (nI (i + 1))) ce u)) : wpX_moveValue post (rX he (nI (D + 1)) wu wa ou re lg dn cl sy tc lc rd co cc ca hp np gx fm fp ce u) 23 (nI c) (nI g) := by
  refine upX_moveValue (br_f (by decide) (br_f (by decide) (br_f (by decide) (br_t rfl ⟨vp_in_nI hc (by decide), vp_in_nI hg (by decide), nm_e ?_⟩))))
  rw [nI_clamp (by omega), nI_clamp (by omega), rX_cells, rX_globals, rX__globals]
  exact xm_97 hD e h
/-- X has moved one value, and is at the next instruction -/
theorem zX_done {s s' : SX} (h : ∀ post : SX → Prop, post s' → wpX_step post s) (hw : gX_wanted s' = -1) : zX_W s s' := fun post hp => h _ (br_t hw hp)
/-- op with one value pushed: both sides' ends put together -/
theorem zS_push (hb : zR_b u H R K) (hc : zR_c1 (gX_ops u) (gX_operands u) (gX_lengths u) co cc ca cd lk H R) (hh : zR_h1 (gX_superOf u) (gX_fieldCount u) (gX_refFields u) of fl hp gx gy he us p l) {D m i n : Nat} (hF : zF u H R K p l wu cd fm fp ce hi lo sk D m i) (hn : n ≤ 24)
  (go : zw_go (gX_refFields u) (gX_ops u) (gX_operands u) H R K m n (24 * m + i) (i + 1)) (hQ : zw_Q (gX_ops u) (24 * m + i) = 1) (o2 : zw_op (gX_ops u) (24 * m + i) ≠ 2) (o3 : zw_op (gX_ops u) (24 * m + i) ≠ 3) (o20 : zw_op (gX_ops u) (24 * m + i) ≠ 20)
  (hP : zw_P (gX_ops u) (gX_operands u) (24 * m + i) ≤ H (24 * m + i)) {y x : Int32} (hv : zl_val p l (zk_pk (gX_refFields u) (zw_op (gX_ops u) (24 * m + i)) (gX_operands u (24 * m + i))) y x) {hi' : Nat → Int32}
  (a3 : hi' D = nI (H (24 * m + i) - zw_P (gX_ops u) (gX_operands u) (24 * m + i) + 1)) (a4 : ∀ j, j < D → hi' j = hi j) {k : Int32} {og' : Int32} :
  zS u v H R K (rX he (nI (D + 1)) wu (-1) 2 10000000000 (-1) dn cl sy tc lc rd co cc ca hp np gx fm (upd fp D (nI (i + 1))) (upd ce (12 * D + (6 + H (24 * m + i) - zw_P (gX_ops u) (gX_operands u) (24 * m + i))) x) u) (rY us (nI (D + 1)) wu k og' 2 cl sy tc lc 10000000000 rd cd lk of fl gy mk fm (upd fp D (nI (i + 1))) hi' lo (upd sk (6 * D + (H (24 * m + i) - zw_P (gX_ops u) (gX_operands u) (24 * m + i))) y) v) k := by
  exact ⟨p, l, D, m, i + 1, he, wu, dn, cl, sy, tc, lc, us, og', rd, co, cc, ca, hp, np, gx, fm, upd fp D (nI (i + 1)), _, cd, lk, of, fl, gy, mk, hi', lo, _, rfl, rfl, hc, hh, zF_push hb hF hn go hQ o2 o3 o20 hP hv pk_us (fun j hj => pk_un (by omega)) a3 a4⟩
/-- the same, nothing pushed -/
theorem zS_pop (hb : zR_b u H R K) (hc : zR_c1 (gX_ops u) (gX_operands u) (gX_lengths u) co cc ca cd lk H R) {gx' gy' : Nat → Int32} (hh : zR_h1 (gX_superOf u) (gX_fieldCount u) (gX_refFields u) of fl hp gx' gy' he us p l) {D m i n t : Nat} (hF : zF u H R K p l wu cd fm fp ce hi lo sk D m i) (hn : n ≤ 24)
  (go : zw_go (gX_refFields u) (gX_ops u) (gX_operands u) H R K m n (24 * m + i) t) (hQ : zw_Q (gX_ops u) (24 * m + i) = 0) (o2 : zw_op (gX_ops u) (24 * m + i) ≠ 2) (o3 : zw_op (gX_ops u) (24 * m + i) ≠ 3) (o20 : zw_op (gX_ops u) (24 * m + i) ≠ 20)
  (hP : zw_P (gX_ops u) (gX_operands u) (24 * m + i) ≤ H (24 * m + i)) {hi' : Nat → Int32}
  (a3 : hi' D = nI (H (24 * m + i) - zw_P (gX_ops u) (gX_operands u) (24 * m + i))) (a4 : ∀ j, j < D → hi' j = hi j) {k : Int32} {og' : Int32} :
  zS u v H R K (rX he (nI (D + 1)) wu (-1) 2 10000000000 (-1) dn cl sy tc lc rd co cc ca hp np gx' fm (upd fp D (nI t)) ce u) (rY us (nI (D + 1)) wu k og' 2 cl sy tc lc 10000000000 rd cd lk of fl gy' mk fm (upd fp D (nI t)) hi' lo sk v) k := by
  exact ⟨p, l, D, m, t, he, wu, dn, cl, sy, tc, lc, us, og', rd, co, cc, ca, hp, np, gx', fm, upd fp D (nI t), ce, cd, lk, of, fl, gy', mk, hi', lo, sk, rfl, rfl, hc, hh, zF_pop hb hF hn go hQ o2 o3 o20 hP pk_us (fun j hj => pk_un (by omega)) a3 a4⟩
end
