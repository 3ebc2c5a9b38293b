/-! NEW -/
theorem zn_val {p : Nat → Nat} {l : List Nat} {o e0 : Nat} (ol : o ∉ l) (o1 : 1 ≤ o) {k : Nat} {y x : Int32} (h : zl_val p l k y x) : zl_val (fun a => if a = o then e0 else p a) (l ++ [o]) k y x := by
  refine ⟨h.1, fun w => ?_⟩
  obtain ⟨a, ha, ey, ex⟩ := h.2 w
  have ne : a ≠ o := by
    intro z
    rcases ha with q | q
    · omega
    · exact ol (z ▸ q)
  refine ⟨a, ha.elim Or.inl (fun q => Or.inr (List.mem_append.mpr (Or.inl q))), ey, ?_⟩
  show x = nI (if a = o then e0 else p a)
  rw [if_neg ne]; exact ex
theorem zn_lay {up fc rf of fl hp fl' hp' : Nat → Int32} {p : Nat → Nat} {l : List Nat} {o e0 : Nat} {x : Int32} (ol : o ∉ l) (o1 : 1 ≤ o) (kf : ∀ k, k < 16 * o ∨ 16 * o + 16 ≤ k → fl' k = fl k) (kh : ∀ a, a < e0 → hp' a = hp a) :
  ∀ t q, (∀ a, a ∈ t → a ∈ l) → zl_lay up fc rf of fl hp p l t q e0 → zl_lay up fc rf (upd of o x) fl' hp' (fun a => if a = o then e0 else p a) (l ++ [o]) t q e0 := by
  intro t
  induction t with
  | nil => intro q _ h; exact h
  | cons a t ih =>
    rintro q hl ⟨hob, ht⟩
    have al := hl a List.mem_cons_self
    have ne : a ≠ o := fun z => ol (z ▸ al)
    have sz : zl_sz fc (upd of o x) a = zl_sz fc of a := by unfold zl_sz; rw [pk_un ne]
    obtain ⟨c, n, k1, k2, k3, k4, k5, k6, k7, k8⟩ := hob
    have szn : zl_sz fc of a = 1 + n := by
      unfold zl_sz
      rw [k3, nI_clamp (by omega), show c + 1 - 1 = c by omega, k5, nI_clamp (by omega)]
    have le := (zl_find _ _ _ ht).1
    refine ⟨⟨c, n, k1, k2, by rw [pk_un ne]; exact k3, by rw [kh q (by omega)]; exact k4, k5, k6, ?_, fun j hj => ?_⟩, ?_⟩
    · show (if a = o then e0 else p a) = q
      rw [if_neg ne]; exact k7
    · rw [kf _ (by omega), kh _ (by omega)]
      exact zn_val ol o1 (k8 j hj)
    · rw [sz]; exact ih _ (fun b hb => hl b (List.mem_cons_of_mem _ hb)) ht
theorem zn_snoc {up fc rf of fl hp : Nat → Int32} {p : Nat → Nat} {l : List Nat} {o e : Nat} (hob : zl_ob up fc rf of fl hp p l o e) : ∀ t q, zl_lay up fc rf of fl hp p l t q e → zl_lay up fc rf of fl hp p l (t ++ [o]) q (e + zl_sz fc of o) := by
  intro t
  induction t with
  | nil =>
    intro q h
    have h : q = e := h
    subst h
    exact ⟨hob, rfl⟩
  | cons a t ih =>
    intro q h
    exact ⟨h.1, ih _ h.2⟩
/-- a new object is laid behind the others -/
theorem zn_new {up fc rf of fl hp gx gy fl' hp' : Nat → Int32} {p : Nat → Nat} {l : List Nat} {e0 o c n : Nat} (zset : zl_set of l) (p0 : p 0 = 0) (he1 : 1 ≤ e0) (lay : zl_lay up fc rf of fl hp p l l 1 e0) (hgl : ∀ g, g < 4 → zl_ref p l (gy g) (gx g)) (o1 : 1 ≤ o) (o48 : o ≤ 48) (eo : of o = 0) (c4 : c < 4) (cu : up c ≠ -2) (ef : fc c = nI n) (n16 : n ≤ 16) (room : e0 + n ≤ 48)
  (kf : ∀ k, k < 16 * o ∨ 16 * o + 16 ≤ k → fl' k = fl k) (kf0 : ∀ j, j < 16 → fl' (16 * o + j) = 0) (kh : ∀ a, a < e0 → hp' a = hp a) (kc : hp' e0 = nI c) (kh0 : ∀ j, j < n → hp' (e0 + 1 + j) = 0) :
  zR_h1 up fc rf (upd of o (nI (c + 1))) fl' hp' gx gy (nI (e0 + (1 + n))) (nI (e0 + n)) (fun a => if a = o then e0 else p a) (l ++ [o]) := by
  have ol : o ∉ l := fun z => ((zset.2.2 o).mp z).2.2 eo
  have szo : zl_sz fc (upd of o (nI (c + 1))) o = 1 + n := by
    unfold zl_sz
    rw [pk_us, nI_clamp (by omega), show c + 1 - 1 = c by omega, ef, nI_clamp (by omega)]
  have l1 := zn_lay (x := nI (c + 1)) ol o1 kf kh l 1 (fun _ z => z) lay
  have hob : zl_ob up fc rf (upd of o (nI (c + 1))) fl' hp' (fun a => if a = o then e0 else p a) (l ++ [o]) o e0 := by
    refine ⟨c, n, c4, cu, pk_us, kc, ef, n16, if_pos rfl, fun j hj => ?_⟩
    rw [kf0 j (by omega), kh0 j hj]
    refine ⟨fun _ => rfl, fun _ => ⟨0, Or.inl rfl, rfl, ?_⟩⟩
    show (0 : Int32) = nI (if 0 = o then e0 else p 0)
    rw [if_neg (by omega), p0]; rfl
  have l2 := zn_snoc hob l 1 l1
  rw [szo] at l2
  refine ⟨⟨?_, ?_, fun a => ?_⟩, ?_, ⟨e0 + (1 + n), by omega, by omega, rfl, congrArg nI (by omega), l2⟩, fun g hg => ?_⟩
  · refine List.nodup_append.mpr ⟨zset.1, by simp, fun a ha b hb => ?_⟩
    rw [List.mem_singleton.mp hb]
    exact fun z => ol (z ▸ ha)
  · rw [pk_un (by omega)]; exact zset.2.1
  · by_cases z : a = o
    · subst z
      rw [pk_us]
      exact ⟨fun _ => ⟨o1, o48, nI_ne0 (by omega) (by omega)⟩, fun _ => List.mem_append.mpr (Or.inr (List.mem_singleton.mpr rfl))⟩
    · rw [pk_un z, List.mem_append, List.mem_singleton, zset.2.2 a]
      exact ⟨fun w => w.resolve_right z, fun w => Or.inl w⟩
  · show (if 0 = o then e0 else p 0) = 0
    rw [if_neg (by omega)]; exact p0
  · have := zn_val (k := 2) (e0 := e0) ol o1 (⟨fun z => absurd z (by decide), fun _ => hgl g hg⟩ : zl_val p l 2 (gy g) (gx g))
    exact this.2 rfl
/-- there is a number for it -/
theorem zn_free {up fc rf of fl hp : Nat → Int32} {p : Nat → Nat} {l : List Nat} {e0 : Nat} (zset : zl_set of l) (lay : zl_lay up fc rf of fl hp p l l 1 e0) (room : e0 ≤ 48) : ∃ o, 1 ≤ o ∧ o ≤ 48 ∧ of o = 0 := by
  apply Classical.byContradiction
  intro z
  have all : ∀ o, 1 ≤ o → o ≤ 48 → o ∈ l := fun o a b => (zset.2.2 o).mpr ⟨a, b, fun w => z ⟨o, a, b, w⟩⟩
  have q1 := za_end _ _ _ lay
  have q2 := za_len (fc := fc) (of := of) l
  have q3 := za_sum (f := fun _ => 1) l zset.1 (fun o ho => ⟨((zset.2.2 o).mp ho).1, ((zset.2.2 o).mp ho).2.1⟩)
  have q4 : zs (fun i => if (i + 1) ∈ l then 1 else 0) 48 = zs (fun _ => 1) 48 := zs_eq 48 (fun i hi => by rw [if_pos (all (i + 1) (by omega) (by omega))])
  have q5 : zs (fun _ => 1) 48 = 48 := by decide
  rw [za_sl (b := fun _ => true)] at q3
  omega
section
variable {u : SX} {v : SY} {he fr wu wa ou lg dn cl sy tc lc us st og an : Int32} {re : Int64} {rd co cc ca hp np gx fm fp ce cd lk of fl gy mk hi lo sk : Nat → Int32}
variable {H : Nat → Nat} {R : Nat → Prop} {K : Nat → Nat → Nat} {p : Nat → Nat} {l : List Nat}
theorem xn_69 {D e0 n cell i : Nat} (hD : D ≤ 12) (room : e0 + n ≤ 48) (hcell : cell < 168) (ep : fp D = nI i) :
  ∀ (d f : Nat) (hq : Nat → Int32), f + d = 1 + n → 1 ≤ f → ∃ hq', (∀ a, a < e0 + f → hq' a = hq a) ∧ (∀ a, e0 + f ≤ a → a < e0 + 1 + n → hq' a = 0) ∧ ∀ post : SX → Prop, post (rX (nI (e0 + (1 + n))) (nI (D + 1)) wu wa ou re lg dn cl sy tc lc rd co cc ca hq' np gx fm (upd fp D (nI (i + 1))) (upd ce cell (nI e0)) u) → kX_makeObject_69 post (nI cell) (nI (1 + n)) (d + 1) (nI f) (rX (nI e0) (nI (D + 1)) wu wa ou re lg dn cl sy tc lc rd co cc ca hq np gx fm fp ce u) := by
  intro d
  induction d with
  | zero =>
    intro f hq h f1
    refine ⟨hq, fun _ _ => rfl, fun a b c => by omega, fun post hpp => uX_makeObject_69 (br_t (nI_le (by omega) (by omega)) ⟨vp_in_nI hcell (by decide), ?_⟩)⟩
    rw [rX_cells, rX_heapEnd, nI_clamp (n := cell) (by omega), nI_add]
    refine nm_e (nm_e ?_)
    rw [rX__heapEnd_cells]
    exact xr_adv hD ep hpp
  | succ d ih =>
    intro f hq h f1
    obtain ⟨hq', k1, k2, hw⟩ := ih (f + 1) (upd hq (e0 + f) 0) (by omega) (by omega)
    refine ⟨hq', fun a z => ?_, fun a z1 z2 => ?_, fun post hpp => uX_makeObject_69 (br_f (nI_ge (by omega) (by omega)) ?_)⟩
    · rw [k1 a (by omega), pk_un (by omega)]
    · by_cases e : a = e0 + f
      · rw [e, k1 _ (by omega), pk_us]
      · exact k2 a (by omega) z2
    · rw [rX_heapEnd, rX_heap, nI_add, nI_clamp (n := e0 + f) (by omega)]
      refine ⟨vp_in_nI (by omega) (by decide), nm_e (nm_r (nI_1 f) ?_)⟩
      rw [rX__heap]; exact hw post hpp
theorem x_room {post : Int32 → Prop} {e0 n : Nat} (h1 : 1 ≤ e0) (h49 : e0 ≤ 49) (hn : n ≤ 16) (h0 : 48 < e0 + n → post 0) (h2 : e0 + n ≤ 48 → post 1) : wpX_hasRoom post (rX (nI e0) fr wu wa ou re lg dn cl sy tc lc rd co cc ca hp np gx fm fp ce u) (nI (1 + n)) := by
  refine upX_hasRoom ?_
  rw [rX_heapEnd, show (1 : Int32) = nI 1 from rfl, pk_sub h1, nI_add, show e0 - 1 + (1 + n) = e0 + n by omega]
  by_cases w : 48 < e0 + n
  · exact br_t (nI_lt (a := 48) w (by omega)) (h0 w)
  · exact br_f (nI_nlt (b := e0 + n) (a := 48) (by omega) (by decide)) (h2 (by omega))
theorem x_new {D e0 n c cell i : Nat} (hD : D ≤ 12) (he1 : 1 ≤ e0) (n16 : n ≤ 16) (room : e0 + n ≤ 48) (hcell : cell < 168) (ep : fp D = nI i) :
  ∃ hp', (∀ a, a < e0 → hp' a = hp a) ∧ hp' e0 = nI c ∧ (∀ j, j < n → hp' (e0 + 1 + j) = 0) ∧ ∀ post : SX → Prop, post (rX (nI (e0 + (1 + n))) (nI (D + 1)) wu wa ou re lg dn cl sy tc lc rd co cc ca hp' np gx fm (upd fp D (nI (i + 1))) (upd ce cell (nI e0)) u) → kX_makeObject_40 post (nI cell) (nI c) (nI (1 + n)) (rX (nI e0) (nI (D + 1)) wu wa ou re lg dn cl sy tc lc rd co cc ca hp np gx fm fp ce u) := by
  obtain ⟨hq', k1, k2, hw⟩ := xn_69 (wu := wu) (wa := wa) (ou := ou) (lg := lg) (dn := dn) (cl := cl) (sy := sy) (tc := tc) (lc := lc) (re := re) (rd := rd) (co := co) (cc := cc) (ca := ca) (np := np) (gx := gx) (fm := fm) (fp := fp) (ce := ce) (u := u) hD room hcell ep n 1 (upd hp e0 (nI c)) (by omega) (by omega)
  refine ⟨hq', fun a z => ?_, ?_, fun j hj => k2 _ (by omega) (by omega), fun post hpp => uX_makeObject_40 (x_room he1 (by omega) n16 (fun z => by omega) (fun _ => br_f (by decide) ?_))⟩
  · rw [k1 a (by omega), pk_un (by omega)]
  · rw [k1 e0 (by omega), pk_us]
  · rw [rX_heapEnd, rX_heap, nI_clamp (n := e0) (by omega)]
    refine ⟨vp_in_nI (by omega) (by decide), nm_e ⟨n + 1, ?_⟩⟩
    rw [rX__heap]; exact hw post hpp
theorem yn_75 {o : Nat} (o48 : o ≤ 48) : ∀ (d f : Nat) (fl : Nat → Int32), f + d = 16 → ∃ fl', (∀ k, k < 16 * o + f ∨ 16 * o + 16 ≤ k → fl' k = fl k) ∧ (∀ j, f ≤ j → j < 16 → fl' (16 * o + j) = 0) ∧ ∀ post : Int32 → SY → Prop, post (nI o) (rY us fr wu st og an cl sy tc lc re rd cd lk of fl' gy mk fm fp hi lo sk v) → kY_create_75 post (nI o) (d + 1) (nI f) (rY us fr wu st og an cl sy tc lc re rd cd lk of fl gy mk fm fp hi lo sk v) := by
  intro d
  induction d with
  | zero =>
    intro f fl h
    exact ⟨fl, fun _ _ => rfl, fun j a b => by omega, fun post hpp => uY_create_75 (br_t (nI_le (a := 16) (b := f) (by omega) (by omega)) hpp)⟩
  | succ d ih =>
    intro f fl h
    obtain ⟨fl', k1, k2, hw⟩ := ih (f + 1) (upd fl (16 * o + f) 0) (by omega)
    refine ⟨fl', fun k z => ?_, fun j a b => ?_, fun post hpp => uY_create_75 (br_f (nI_ge (b := 16) (by omega) (by decide)) ?_)⟩
    · rw [k1 k (by omega), pk_un (by omega)]
    · by_cases e : j = f
      · rw [e, k1 _ (by omega), pk_us]
      · exact k2 j (by omega) b
    · rw [rY_fields, show (16 : Int32) * nI o + nI f = nI (16 * o + f) by rw [show (16 : Int32) = nI 16 from rfl, pk_mul, nI_add], nI_clamp (n := 16 * o + f) (by omega)]
      refine ⟨vp_in_nI (by omega) (by decide), nm_e (nm_r (nI_1 f) ?_)⟩
      rw [rY__fields]; exact hw post hpp
theorem yn_38 {c n e0 : Nat} (he1 : 1 ≤ e0) (hof : ∀ o, 1 ≤ o → o ≤ 48 → of o = 0 ∨ ∃ c, c < 4 ∧ of o = nI (c + 1)) : ∀ d x, x + d = 48 → 1 ≤ x → (∃ o, x ≤ o ∧ o ≤ 48 ∧ of o = 0) → ∃ o fl', 1 ≤ o ∧ o ≤ 48 ∧ of o = 0 ∧ (∀ k, k < 16 * o ∨ 16 * o + 16 ≤ k → fl' k = fl k) ∧ (∀ j, j < 16 → fl' (16 * o + j) = 0) ∧
    ∀ post : Int32 → SY → Prop, post (nI o) (rY (nI (e0 + n)) fr wu st og an cl sy tc lc re rd cd lk (upd of o (nI (c + 1))) fl' gy mk fm fp hi lo sk v) → kY_create_38 post (nI c) (nI (1 + n)) (d + 1) (nI x) (rY (nI (e0 - 1)) fr wu st og an cl sy tc lc re rd cd lk of fl gy mk fm fp hi lo sk v) := by
  intro d
  have hit : ∀ x, 1 ≤ x → x ≤ 48 → of x = 0 → ∀ d, ∃ o fl', 1 ≤ o ∧ o ≤ 48 ∧ of o = 0 ∧ (∀ k, k < 16 * o ∨ 16 * o + 16 ≤ k → fl' k = fl k) ∧ (∀ j, j < 16 → fl' (16 * o + j) = 0) ∧
    ∀ post : Int32 → SY → Prop, post (nI o) (rY (nI (e0 + n)) fr wu st og an cl sy tc lc re rd cd lk (upd of o (nI (c + 1))) fl' gy mk fm fp hi lo sk v) → kY_create_38 post (nI c) (nI (1 + n)) (d + 1) (nI x) (rY (nI (e0 - 1)) fr wu st og an cl sy tc lc re rd cd lk of fl gy mk fm fp hi lo sk v) := by
    intro x x1 x48 z d
    obtain ⟨fl', k1, k2, hw⟩ := yn_75 (us := nI (e0 + n)) (fr := fr) (wu := wu) (st := st) (og := og) (an := an) (cl := cl) (sy := sy) (tc := tc) (lc := lc) (re := re) (rd := rd) (cd := cd) (lk := lk) (of := upd of x (nI (c + 1))) (gy := gy) (mk := mk) (fm := fm) (fp := fp) (hi := hi) (lo := lo) (sk := sk) (v := v) x48 16 0 fl rfl
    refine ⟨x, fl', x1, x48, z, fun k w => k1 k (by omega), fun j w => k2 j (by omega) w, fun post hpp => uY_create_38 ⟨vp_in_nI (by omega) (by decide), ?_⟩⟩
    rw [rY_of, rY_used, nI_clamp (n := x) (by omega), z, nI_1, nI_add, show e0 - 1 + (1 + n) = e0 + n by omega]
    refine br_t (by decide) ⟨vp_in_nI (by omega) (by decide), nm_e (nm_e ⟨17, ?_⟩)⟩
    rw [rY__used_of]; exact hw post hpp
  induction d with
  | zero =>
    rintro x h x1 ⟨o, a, b, z⟩
    have : o = x := by omega
    subst this
    exact hit o x1 b z 0
  | succ d ih =>
    rintro x h x1 ⟨o, a, b, z⟩
    by_cases w : of x = 0
    · exact hit x x1 (by omega) w (d + 1)
    · have ne : o ≠ x := fun q => w (q ▸ z)
      obtain ⟨c', c4, ec⟩ := (hof x x1 (by omega)).resolve_left w
      obtain ⟨o', fl', k1, k2, k3, k4, k5, hw⟩ := ih (x + 1) (by omega) (by omega) ⟨o, by omega, b, z⟩
      refine ⟨o', fl', k1, k2, k3, k4, k5, fun post hpp => uY_create_38 ⟨vp_in_nI (by omega) (by decide), ?_⟩⟩
      rw [rY_of, nI_clamp (n := x) (by omega), ec]
      exact br_f (nI_nle (by omega) (by omega)) (nm_r (nI_1 x) (hw post hpp))
/-- both look for room once more, and make the object or throw -/
theorem new_both (hs : zR_s u v) (hb : zR_b u H R K) (hc : zR_c1 (gX_ops u) (gX_operands u) (gX_lengths u) co cc ca cd lk H R) (hh : zR_h1 (gX_superOf u) (gX_fieldCount u) (gX_refFields u) of fl hp gx gy he us p l) {D m i : Nat} (hF : zF u H R K p l wu cd fm fp ce hi lo sk D m i) (eo : (zw_op (gX_ops u) (24 * m + i)) = 12) {c nf : Nat} (c4 : c < 4) (cu : gX_superOf u c ≠ -2) (ef : gX_fieldCount u c = nI nf) (n16 : nf ≤ 16) :
  ∃ s' t', (∀ post : SX → Prop, post s' → kX_makeObject_40 post (nI (12 * D + (6 + (H (24 * m + i))))) (nI c) (nI (1 + nf)) (rX he (nI (D + 1)) wu (-1) 2 10000000000 (-1) dn cl sy tc lc rd co cc ca hp np gx fm fp ce u)) ∧
    (∀ post : SY → Prop, post t' → kY_create_23 (fun r_44 u2 => (((r_44 = 0 → (wpY_raise (fun u3 => (post u3)) u2 6)) ∧ (¬ r_44 = 0 → (wpY_push (fun u4 => (vp_in ((gY_depth u4) - 1) 14 ∧ (vp_in ((gY_depth u4) - 1) 14 ∧ ∀ a_at_131 : Nat → Int32 , a_at_131 = upd (gY_at u4) ((gY_depth u4) - 1).toNatClampNeg (((gY_at u4) ((gY_depth u4) - 1).toNatClampNeg) + 1) → (post (sY_at a_at_131 u4))))) u2 r_44))))) (nI c) (nI (1 + nf)) (rY us (nI (D + 1)) wu st og 2 cl sy tc lc 10000000000 rd cd lk of fl gy mk fm fp hi lo sk v)) ∧ gX_wanted s' = -1 ∧ (zS u v H R K s' t' st ∨ zE u v H R s' t' st) := by
  obtain ⟨hD, hm, hi2, e1, e2, ⟨n, hn, hin, el, at_⟩, xc, yo, o24, ya⟩ := zS_top hs hb hc hF
  obtain ⟨a1, a2, a3, a4, a5, a6, a7, a8, a9, a10, a11, a12, a13⟩ := at_
  have hhi := hF.2.1
  have hvv := hF.2.2.1
  have eP : (zw_P (gX_ops u) (gX_operands u) (24 * m + i)) = 0 := by unfold zw_P; rw [eo]; rfl
  have eQ : zw_Q (gX_ops u) (24 * m + i) = 1 := by unfold zw_Q; rw [eo]; rfl
  have go := a10 (by rw [eo]; unfold zt_fall; decide)
  rw [eP, eQ] at a4
  obtain ⟨zset, p0, ⟨e0, he1, he49, hee, hus, lay⟩, hgl⟩ := id hh
  subst hee hus
  by_cases room : e0 + nf ≤ 48
  · obtain ⟨hp', kh, kc, kh0, wX⟩ := x_new (wu := wu) (wa := -1) (ou := 2) (lg := -1) (dn := dn) (cl := cl) (sy := sy) (tc := tc) (lc := lc) (re := 10000000000) (rd := rd) (co := co) (cc := cc) (ca := ca) (hp := hp) (np := np) (gx := gx) (fm := fm) (fp := fp) (ce := ce) (u := u) (c := c) (cell := 12 * D + (6 + (H (24 * m + i)))) hD he1 n16 room (by omega) e2
    have hof : ∀ o, 1 ≤ o → o ≤ 48 → of o = 0 ∨ ∃ c, c < 4 ∧ of o = nI (c + 1) := fun o a b => by
      by_cases z : of o = 0
      · exact Or.inl z
      · obtain ⟨c', q1, _, q2, _⟩ := za_get ⟨zset, p0, he49, lay⟩ ((zset.2.2 o).mpr ⟨a, b, z⟩)
        exact Or.inr ⟨c', q1, q2⟩
    obtain ⟨of1, g1, g2, g3⟩ := zn_free zset lay (by omega)
    obtain ⟨o, fl', o1, o48, oz, kf, kf0, wY⟩ := yn_38 (fr := nI (D + 1)) (wu := wu) (st := st) (og := og) (an := 2) (cl := cl) (sy := sy) (tc := tc) (lc := lc) (re := 10000000000) (rd := rd) (cd := cd) (lk := lk) (of := of) (fl := fl) (gy := gy) (mk := mk) (fm := fm) (fp := fp) (hi := hi) (lo := lo) (sk := sk) (v := v) (c := c) (n := nf) he1 hof 47 1 rfl (by omega) ⟨of1, g1, g2, g3⟩
    have ol : o ∉ l := fun z => ((zset.2.2 o).mp z).2.2 oz
    have hh' := zn_new zset p0 he1 lay hgl o1 o48 oz c4 cu ef n16 room kf kf0 kh kc kh0
    have hF' : zF u H R K (fun a => if a = o then e0 else p a) (l ++ [o]) wu cd fm fp ce hi lo sk D m i := by
      obtain ⟨h1, h2, h3, h4, h5, h6⟩ := id hF
      exact ⟨h1, h2, fun e he => zn_val ol o1 (h3 e he), fun j hj => zF_lk (h4 j hj) rfl rfl rfl rfl (fun _ _ w => w) (fun m i q => zF_H6 hb q) (fun k e he w => zn_val ol o1 w), h5, h6⟩
    have hS := zS_push (v := v) (dn := dn) (cl := cl) (sy := sy) (tc := tc) (lc := lc) (np := np) (rd := rd) (mk := mk) (og' := og) (k := st) (hi' := upd hi D (nI ((H (24 * m + i)) + 1))) (y := nI o) (x := nI e0) hb hc hh' hF' hn go eQ (by omega) (by omega) (by omega) a3 (by
      rw [eo]
      refine ⟨fun w => absurd (show (2 : Nat) = 1 from w) (by decide), fun _ => ⟨o, Or.inr (List.mem_append.mpr (Or.inr (List.mem_singleton.mpr rfl))), rfl, ?_⟩⟩
      show nI e0 = nI (if o = o then e0 else p o)
      rw [if_pos rfl]) (by rw [eP]; exact pk_us) (fun j hj => pk_un (by omega))
    rw [eP] at hS
    refine ⟨_, _, fun post hpp => wX post ?_, fun post hpp => uY_create_23 ?_, ?_, Or.inl hS⟩
    · exact hpp
    · rw [rY_used, nI_add, show e0 - 1 + (1 + nf) = e0 + nf by omega]
      refine br_t (nI_le (b := 48) room (by decide)) ⟨48, wY _ (br_f (nI_ne0 (by omega) (by omega)) (yr_push hD (by omega) hhi ?_))⟩
      have vD : vp_in (nI D) 14 := vp_in_nI (by omega) (by decide)
      rw [rY_depth, rY_at, zn_D1, nI_clamp (n := D) (by omega), e2, nI_1]
      refine ⟨vD, vD, nm_e ?_⟩
      rw [rY__at]; exact hpp
    · rfl
  · obtain ⟨s', t', hX, hY, hwn, hr⟩ := raise_both (x := 6) (st := st) (og := og) (dn := dn) (cl := cl) (sy := sy) (tc := tc) (lc := lc) (np := np) (rd := rd) (mk := mk) hs hb hc hh (zF_G hb hF (hi' := hi) (fun j hj => rfl)) hF.2.2.2.2.1
    refine ⟨s', t', fun post hpp => uX_makeObject_40 (x_room he1 he49 n16 (fun _ => br_t rfl (hX _ hpp)) (fun z => absurd z room)), fun post hpp => uY_create_23 ?_, hwn, hr⟩
    rw [rY_used, nI_add, show e0 - 1 + (1 + nf) = e0 + nf by omega]
    exact br_f (nI_ge (a := 48) (by omega) (by omega)) (br_t rfl (hY _ hpp))
theorem op_12 (hs : zR_s u v) (hb : zR_b u H R K) (hc : zR_c1 (gX_ops u) (gX_operands u) (gX_lengths u) co cc ca cd lk H R) (hh : zR_h1 (gX_superOf u) (gX_fieldCount u) (gX_refFields u) of fl hp gx gy he us p l) {D m i : Nat} (hF : zF u H R K p l wu cd fm fp ce hi lo sk D m i) (eo : (zw_op (gX_ops u) (24 * m + i)) = 12) : zN u v H R K (rX he (nI (D + 1)) wu (-1) 2 10000000000 (-1) dn cl sy tc lc rd co cc ca hp np gx fm fp ce u) (rY us (nI (D + 1)) wu st og 2 cl sy tc lc 10000000000 rd cd lk of fl gy mk fm fp hi lo sk v) st := by
  obtain ⟨hD, hm, hi2, e1, e2, ⟨n, hn, hin, el, at_⟩, xc, yo, o24, ya⟩ := zS_top hs hb hc hF
  obtain ⟨a1, a2, a3, a4, a5, a6, a7, a8, a9, a10, a11, a12, a13⟩ := at_
  have hhi := hF.2.1
  have hvv := hF.2.2.1
  have eP : (zw_P (gX_ops u) (gX_operands u) (24 * m + i)) = 0 := by unfold zw_P; rw [eo]; rfl
  have x0 := zx_ce xc (by omega)
  rw [eP, eo, Nat.sub_zero] at x0
  have isA := a12 (Or.inl eo)
  obtain ⟨c, c4, eA, cu⟩ := id isA
  have dp : zc_dp (gX_superOf u) 4 (nI c) := by
    have := zc_d4 hs.2.1 isA
    rw [eA] at this; exact this
  obtain ⟨n, n16, efc⟩ : ∃ n, n ≤ 16 ∧ gX_fieldCount u c = nI n := by
    obtain ⟨w, h1, h2⟩ := (zR_cls hs).2.2 (gX_operands u (24 * m + i)) (by rw [← hs.1.1]; exact isA)
    rw [eA, zc_atc c4] at h2
    exact ⟨w, h1, h2⟩
  rw [eA] at x0 ya
  obtain ⟨rd', h⟩ := ready_both (us := us) (st := st + 1) (og := og) (an := 2) (cd := cd) (lk := lk) (of := of) (fl := fl) (gy := gy) (mk := mk) (hi := hi) (lo := lo) (sk := sk) (he := he) (fr := nI (D + 1)) (wu := wu) (wa := -1) (ou := 2) (lg := -1) (dn := dn) (cl := cl) (sy := sy) (tc := tc) (lc := lc) (re := 10000000000) (rd := rd) (co := co) (cc := cc) (ca := ca) (hp := hp) (np := np) (gx := gx) (fm := fm) (fp := fp) (ce := ce) hs dp
  rcases h with ⟨hX, hY⟩ | ⟨k, q, k4, ek, q2, hl', hX, hY⟩
  · -- ready
    obtain ⟨zset, p0, ⟨e0, he1, he49, hee, hus, lay⟩, hgl⟩ := id hh
    have xs : ∀ (post : SX → Prop), ((48 < e0 + n → wpX_collect (fun u2 => kX_makeObject_40 post (nI (12 * D + (6 + (H (24 * m + i))))) (nI c) (nI (1 + n)) u2) (rX he (nI (D + 1)) wu (-1) 2 10000000000 (-1) dn cl sy tc lc rd' co cc ca hp np gx fm fp ce u)) ∧ (e0 + n ≤ 48 → kX_makeObject_40 post (nI (12 * D + (6 + (H (24 * m + i))))) (nI c) (nI (1 + n)) (rX he (nI (D + 1)) wu (-1) 2 10000000000 (-1) dn cl sy tc lc rd' co cc ca hp np gx fm fp ce u))) → wpX_step post (rX he (nI (D + 1)) wu (-1) 2 10000000000 (-1) dn cl sy tc lc rd co cc ca hp np gx fm fp ce u) := by
      intro post hq
      refine xd_12 hD hm hi2 (by omega) e1 e2 x0.1 x0.2.1 x0.2.2 (upX_makeObject (hX _ (br_t rfl ⟨vp_in_nI c4 (by decide), ?_⟩)))
      rw [rX_fieldCount, nI_clamp (n := c) (by omega), efc]
      refine nm_r (show (1 : Int32) + nI n = nI (1 + n) by rw [show (1 : Int32) = nI 1 from rfl, nI_add]) ?_
      rw [hee] at hq ⊢
      exact x_room he1 he49 n16 (fun z => br_t rfl (hq.1 z)) (fun z => br_f (by decide) (hq.2 z))
    have ys : ∀ (post : SY → Prop), ((48 < e0 + n → wpY_collect (fun u1 => kY_create_23 (fun r_44 u2 => (((r_44 = 0 → (wpY_raise (fun u3 => (post u3)) u2 6)) ∧ (¬ r_44 = 0 → (wpY_push (fun u4 => (vp_in ((gY_depth u4) - 1) 14 ∧ (vp_in ((gY_depth u4) - 1) 14 ∧ ∀ a_at_131 : Nat → Int32 , a_at_131 = upd (gY_at u4) ((gY_depth u4) - 1).toNatClampNeg (((gY_at u4) ((gY_depth u4) - 1).toNatClampNeg) + 1) → (post (sY_at a_at_131 u4))))) u2 r_44))))) (nI c) (nI (1 + n)) u1) (rY us (nI (D + 1)) wu (st + 1) og 2 cl sy tc lc 10000000000 rd' cd lk of fl gy mk fm fp hi lo sk v)) ∧
        (e0 + n ≤ 48 → kY_create_23 (fun r_44 u2 => (((r_44 = 0 → (wpY_raise (fun u3 => (post u3)) u2 6)) ∧ (¬ r_44 = 0 → (wpY_push (fun u4 => (vp_in ((gY_depth u4) - 1) 14 ∧ (vp_in ((gY_depth u4) - 1) 14 ∧ ∀ a_at_131 : Nat → Int32 , a_at_131 = upd (gY_at u4) ((gY_depth u4) - 1).toNatClampNeg (((gY_at u4) ((gY_depth u4) - 1).toNatClampNeg) + 1) → (post (sY_at a_at_131 u4))))) u2 r_44))))) (nI c) (nI (1 + n)) (rY us (nI (D + 1)) wu (st + 1) og 2 cl sy tc lc 10000000000 rd' cd lk of fl gy mk fm fp hi lo sk v))) → wpY_step post (rY us (nI (D + 1)) wu st og 2 cl sy tc lc 10000000000 rd cd lk of fl gy mk fm fp hi lo sk v) := by
      intro post hq
      refine yd_12 hD hm hi2 e1 e2 (by rw [yo, eo]; rfl) ya (upY_create1 (hY _ (br_f (by decide) (upY_create (yj_tot hs c4 cu efc (nm_r (show (1 : Int32) + nI n = nI (1 + n) by rw [show (1 : Int32) = nI 1 from rfl, nI_add]) ?_))))))
      rw [rY_used]
      rw [hus] at hq ⊢
      rw [nI_add, show e0 - 1 + (1 + n) = e0 + n by omega]
      by_cases z : e0 + n ≤ 48
      · exact br_t (nI_le (b := 48) z (by decide)) (hq.2 z)
      · exact br_f (nI_ge (a := 48) (by omega) (by omega)) (hq.1 (by omega))
    by_cases room : e0 + n ≤ 48
    · obtain ⟨s', t', wX, wY, hwn, hr⟩ := new_both (st := st + 1) (og := og) (dn := dn) (cl := cl) (sy := sy) (tc := tc) (lc := lc) (np := np) (rd := rd') (mk := mk) hs hb hc hh hF eo c4 cu efc n16
      exact ⟨s', t', zX_done (fun post hpp => xs post ⟨fun z => by omega, fun _ => wX post hpp⟩) hwn, fun post hpp => ys post ⟨fun z => by omega, fun _ => wY post hpp⟩, hr⟩
    · obtain ⟨p', l', e', sy', hp', np', gx', ce', of', mk', cX, cY, hh', hF'⟩ := collect_both (st := st + 1) (og := og) (dn := dn) (cl := cl) (sy := sy) (tc := tc) (lc := lc) (np := np) (rd := rd') (mk := mk) hs hb hc hh hF eo
      obtain ⟨s', t', wX, wY, hwn, hr⟩ := new_both (st := st + 1) (og := og) (dn := dn) (cl := cl + 1) (sy := sy') (tc := tc) (lc := lc) (np := np') (rd := rd') (mk := mk') hs hb hc hh' hF' eo c4 cu efc n16
      exact ⟨s', t', zX_done (fun post hpp => xs post ⟨fun _ => cX _ (wX post hpp), fun z => absurd z room⟩) hwn, fun post hpp => ys post ⟨fun _ => cY _ (wY post hpp), fun z => absurd z room⟩, hr⟩
  · -- an initialiser
    obtain ⟨s', t', wX, wY, hr⟩ := init_both (st := st + 1) (og := og) (dn := dn) (cl := cl) (sy := sy) (tc := tc) (lc := lc) (np := np) (rd := rd') (mk := mk) hs hb hc hh hF eo k4 ek q2 hl'
    refine ⟨s', t', fun post hpp => ?_, fun post hpp => ?_, hr⟩
    · exact xd_12 hD hm hi2 (by omega) e1 e2 x0.1 x0.2.1 x0.2.2 (upX_makeObject (hX _ (br_f (zn_m1 _ (by omega)) (wX post hpp))))
    · exact yd_12 hD hm hi2 e1 e2 (by rw [yo, eo]; rfl) ya (upY_create1 (hY _ (wY (fun r_1 u1 => (((r_1 = 0 → (post u1)) ∧ (¬ r_1 = 0 → (wpY_create (fun r_44 u2 => (((r_44 = 0 → (wpY_raise (fun u3 => (post u3)) u2 6)) ∧ (¬ r_44 = 0 → (wpY_push (fun u4 => (vp_in ((gY_depth u4) - 1) 14 ∧ (vp_in ((gY_depth u4) - 1) 14 ∧ ∀ a_at_131 : Nat → Int32 , a_at_131 = upd (gY_at u4) ((gY_depth u4) - 1).toNatClampNeg (((gY_at u4) ((gY_depth u4) - 1).toNatClampNeg) + 1) → (post (sY_at a_at_131 u4))))) u2 r_44))))) u1 (nI c)))))) (br_t rfl hpp))))
end
