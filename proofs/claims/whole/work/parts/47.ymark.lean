/-! Y marks and sweeps -/
def zj_S (Rr : Nat → Prop) (mk : Nat → Int32) : Prop := ∀ o, 1 ≤ o → o ≤ 48 → mk o ≠ 0 → Rr o
section
variable {u : SX} {v : SY} {he fr wu wa ou lg dn cl sy tc lc us st og an : Int32} {re : Int64} {rd co cc ca hp np gx fm fp ce cd lk of fl gy mk hi lo sk : Nat → Int32}
variable {H : Nat → Nat} {R : Nat → Prop} {K : Nat → Nat → Nat} {p : Nat → Nat} {l : List Nat}
theorem yj_tot (hs : zR_s u v) {post : Int32 → Prop} {c n : Nat} (c4 : c < 4) (cu : gX_superOf u c ≠ -2) (ef : gX_fieldCount u c = nI n) (h : post (nI n)) : wpY_total post (rY us fr wu st og an cl sy tc lc re rd cd lk of fl gy mk fm fp hi lo sk v) (nI c) := by
  obtain ⟨⟨k1, k2⟩, _, _⟩ := zR_cls hs
  have cu' : gY_up v c ≠ -2 := by rw [← hs.1.1]; exact cu
  refine y_total (u := (rY us fr wu st og an cl sy tc lc re rd cd lk of fl gy mk fm fp hi lo sk v)) (fc := gX_fieldCount u) (rf := gX_refFields u) ?_ ?_ ?_
  · rw [rY_up, rY_ints, rY_references]; exact k1
  · rw [rY_up]; exact k2 c c4 cu'
  · rw [zc_atc c4, ef]; exact h
theorem yj_kind (hs : zR_s u v) {post : Int32 → Prop} {c n f : Nat} (c4 : c < 4) (cu : gX_superOf u c ≠ -2) (ef : gX_fieldCount u c = nI n) (hf : f < n) (hn : n ≤ 16) (h : post (if bt (gX_refFields u c) f then 2 else 1)) : wpY_kindOf post (rY us fr wu st og an cl sy tc lc re rd cd lk of fl gy mk fm fp hi lo sk v) (nI c) (nI f) := by
  obtain ⟨⟨k1, k2⟩, _, _⟩ := zR_cls hs
  have cu' : gY_up v c ≠ -2 := by rw [← hs.1.1]; exact cu
  refine y_kindOf (u := (rY us fr wu st og an cl sy tc lc re rd cd lk of fl gy mk fm fp hi lo sk v)) (fc := gX_fieldCount u) (rf := gX_refFields u) ?_ c4 ?_ ?_ ef hf hn h
  · rw [rY_up, rY_ints, rY_references]; exact k1
  · rw [rY_up]; exact cu'
  · rw [rY_up]; exact k2 c c4 cu'
theorem yj_mark {o : Nat} (o48 : o ≤ 48) {Rr : Nat → Prop} (S : zj_S Rr mk) (r : 1 ≤ o → Rr o) : ∃ mk', zj_S Rr mk' ∧ za_le mk mk' ∧ (1 ≤ o → mk' o ≠ 0) ∧ ∀ post : SY → Prop, post (rY us fr wu st og an cl sy tc lc re rd cd lk of fl gy mk' fm fp hi lo sk v) → wpY_mark post (rY us fr wu st og an cl sy tc lc re rd cd lk of fl gy mk fm fp hi lo sk v) (nI o) := by
  by_cases z : o = 0
  · subst z
    exact ⟨mk, S, za_ler mk, fun w => by omega, fun post hpp => upY_mark (br_t (by decide) hpp)⟩
  · refine ⟨upd mk o 1, fun a a1 a2 w => ?_, fun a w => ?_, fun _ => by rw [pk_us]; decide, fun post hpp => upY_mark (br_f (nI_nle (by omega) (by omega)) ⟨vp_in_nI (by omega) (by decide), ?_⟩)⟩
    · by_cases q : a = o
      · rw [q]; exact r (by omega)
      · rw [pk_un q] at w; exact S a a1 a2 w
    · by_cases q : a = o
      · rw [q, pk_us]; decide
      · rw [pk_un q]; exact w
    · rw [rY_marked, nI_clamp (by omega), show vp_nar .boolean 1 = 1 from rfl]
      refine nm_e ?_
      rw [rY__marked]; exact hpp
theorem yj_2 : ∀ (d k : Nat) (mk : Nat → Int32), k + d = 49 → (∀ o, 1 ≤ o → o < k → mk o = 0) → ∃ mk', (∀ o, 1 ≤ o → o ≤ 48 → mk' o = 0) ∧ ∀ post : SY → Prop, (∃ n, kY_collect_23 post n 0 (rY us fr wu st og an cl sy tc lc re rd cd lk of fl gy mk' fm fp hi lo sk v)) → kY_collect_2 post (d + 1) (nI k) (rY us fr wu st og an cl sy tc lc re rd cd lk of fl gy mk fm fp hi lo sk v) := by
  intro d
  induction d with
  | zero =>
    intro k mk h z
    exact ⟨mk, fun o a b => z o a (by omega), fun post hpp => uY_collect_2 (br_t (nI_le (a := 49) (b := k) (by omega) (by omega)) hpp)⟩
  | succ d ih =>
    intro k mk h z
    obtain ⟨mk', z', hw⟩ := ih (k + 1) (upd mk k 0) (by omega) (fun o a b => by
      by_cases q : o = k
      · rw [q, pk_us]
      · rw [pk_un q]; exact z o a (by omega))
    refine ⟨mk', z', fun post hpp => uY_collect_2 (br_f (nI_ge (b := 49) (by omega) (by decide)) ⟨vp_in_nI (by omega) (by decide), ?_⟩)⟩
    rw [rY_marked, nI_clamp (n := k) (by omega), show vp_nar .boolean 0 = 0 from rfl]
    refine nm_e (nm_r (nI_1 k) ?_)
    rw [rY__marked]; exact hw post hpp
theorem yj_23 {Rr : Nat → Prop} (hg : ∀ g, g < 4 → ∃ o, gy g = nI o ∧ o ≤ 48 ∧ (1 ≤ o → Rr o)) : ∀ (d g : Nat) (mk : Nat → Int32), g + d = 4 → zj_S Rr mk → ∃ mk', zj_S Rr mk' ∧ za_le mk mk' ∧ (∀ g' o, g ≤ g' → g' < 4 → gy g' = nI o → 1 ≤ o → o ≤ 48 → mk' o ≠ 0) ∧ ∀ post : SY → Prop, (∃ n, kY_collect_46 post n 0 (rY us fr wu st og an cl sy tc lc re rd cd lk of fl gy mk' fm fp hi lo sk v)) → kY_collect_23 post (d + 1) (nI g) (rY us fr wu st og an cl sy tc lc re rd cd lk of fl gy mk fm fp hi lo sk v) := by
  intro d
  induction d with
  | zero =>
    intro g mk h S
    exact ⟨mk, S, za_ler mk, fun g' o a b => by omega, fun post hpp => uY_collect_23 (br_t (nI_le (a := 4) (b := g) (by omega) (by omega)) hpp)⟩
  | succ d ih =>
    intro g mk h S
    obtain ⟨o, eg, o48, ro⟩ := hg g (by omega)
    obtain ⟨mk1, S1, l1, m1, w1⟩ := yj_mark (us := us) (fr := fr) (wu := wu) (st := st) (og := og) (an := an) (cl := cl) (sy := sy) (tc := tc) (lc := lc) (re := re) (rd := rd) (cd := cd) (lk := lk) (of := of) (fl := fl) (gy := gy) (mk := mk) (fm := fm) (fp := fp) (hi := hi) (lo := lo) (sk := sk) (v := v) o48 S ro
    obtain ⟨mk', S2, l2, m2, hw⟩ := ih (g + 1) mk1 (by omega) S1
    refine ⟨mk', S2, za_let l1 l2, fun g' o' a b c d e => ?_, fun post hpp => uY_collect_23 (br_f (nI_ge (b := 4) (by omega) (by decide)) ⟨vp_in_nI (by omega) (by decide), ?_⟩)⟩
    · by_cases q : g' = g
      · rw [q, eg] at c
        have := (nI_eq (by omega) (by omega)).mp c
        subst this
        exact l2 _ (m1 d)
      · exact m2 g' o' (by omega) b c d e
    · rw [rY_globals, nI_clamp (n := g) (by omega), eg]
      exact w1 _ (nm_r (nI_1 g) (hw post hpp))
theorem yj_46 {Rr : Nat → Prop} {D : Nat} (hD : D ≤ 12) {qb : Nat → Bool} (hfr : ∀ j, j < D + 1 → ∃ m i h, m < 8 ∧ i < 24 ∧ h ≤ 6 ∧ fm j = nI m ∧ fp j = nI i ∧ hi j = nI h ∧ ∀ e, e < 12 → (qb (12 * j + e) = true ↔ bt (gY_maps v (24 * m + i)) e = true ∧ e < 6 + h))
  (hq : ∀ j e, j < D + 1 → e < 12 → qb (12 * j + e) = true → ∃ o, zF_y lo sk j e = nI o ∧ o ≤ 48 ∧ (1 ≤ o → Rr o)) :
  ∀ (d k : Nat) (mk : Nat → Int32), k + d = 12 * (D + 1) → zj_S Rr mk → ∃ mk', zj_S Rr mk' ∧ za_le mk mk' ∧ (∀ j e o, k ≤ 12 * j + e → j < D + 1 → e < 12 → qb (12 * j + e) = true → zF_y lo sk j e = nI o → 1 ≤ o → o ≤ 48 → mk' o ≠ 0) ∧ ∀ post : SY → Prop, (∃ n, kY_collect_161 post n 0 (rY us (nI (D + 1)) wu st og an cl sy tc lc re rd cd lk of fl gy mk' fm fp hi lo sk v)) → kY_collect_46 post (d + 1) (nI k) (rY us (nI (D + 1)) wu st og an cl sy tc lc re rd cd lk of fl gy mk fm fp hi lo sk v) := by
  have e12 : (12 : Int32) * nI (D + 1) = nI (12 * (D + 1)) := by rw [show (12 : Int32) = nI 12 from rfl, pk_mul]
  intro d
  induction d with
  | zero =>
    intro k mk h S
    refine ⟨mk, S, za_ler mk, fun j e o a b c => by omega, fun post hpp => uY_collect_46 (br_t ?_ hpp)⟩
    rw [rY_depth, e12]; exact nI_le (by omega) (by omega)
  | succ d ih =>
    intro k mk h S
    obtain ⟨j, e, ek, he12⟩ : ∃ j e, k = 12 * j + e ∧ e < 12 := ⟨k / 12, k % 12, by omega, Nat.mod_lt _ (by decide)⟩
    have hj : j < D + 1 := by omega
    obtain ⟨m, i, hh, m8, i24, h6, e1, e2, e3, hbit⟩ := hfr j hj
    have hb := hbit e he12
    have vj : vp_in (nI j) 14 := vp_in_nI (by omega) (by decide)
    have ediv : nI k / 12 = nI j := by
      rw [show (12 : Int32) = nI 12 from rfl, pk_div (by omega) (by omega) (by omega)]
      exact congrArg nI (by omega)
    have erem : nI k - nI k / 12 * 12 = nI e := by
      rw [show (12 : Int32) = nI 12 from rfl, pk_rem (by omega) (by omega) (by omega)]
      exact congrArg nI (by omega)
    have e24 : (24 : Int32) * nI m + nI i = nI (24 * m + i) := by rw [show (24 : Int32) = nI 24 from rfl, pk_mul, nI_add]
    have e6 : (6 : Int32) * nI j + nI e = nI (6 * j + e) := by rw [show (6 : Int32) = nI 6 from rfl, pk_mul, nI_add]
    have stp : ∀ (post : SY → Prop) (mk mk1 : Nat → Int32) (y : Int32), y = zF_y lo sk j e → (¬ qb (12 * j + e) = true → kY_collect_46 post (d + 1) (nI (k + 1)) (rY us (nI (D + 1)) wu st og an cl sy tc lc re rd cd lk of fl gy mk fm fp hi lo sk v)) → (qb (12 * j + e) = true → (∀ P : SY → Prop, P (rY us (nI (D + 1)) wu st og an cl sy tc lc re rd cd lk of fl gy mk1 fm fp hi lo sk v) → wpY_mark P (rY us (nI (D + 1)) wu st og an cl sy tc lc re rd cd lk of fl gy mk fm fp hi lo sk v) y) ∧ kY_collect_46 post (d + 1) (nI (k + 1)) (rY us (nI (D + 1)) wu st og an cl sy tc lc re rd cd lk of fl gy mk1 fm fp hi lo sk v)) → kY_collect_46 post (d + 1 + 1) (nI k) (rY us (nI (D + 1)) wu st og an cl sy tc lc re rd cd lk of fl gy mk fm fp hi lo sk v) := by
      intro post mk mk1 y ey h1 h2
      refine uY_collect_46 ?_
      rw [rY_depth, rY_method, rY_at, rY_maps, rY_high, rY_stack, rY_locals, e12]
      refine br_f (nI_ge (by omega) (by omega)) ⟨by decide, nm_r ediv ⟨by decide, nm_r erem ⟨vj, vj, ?_⟩⟩⟩
      rw [nI_clamp (n := j) (by omega), e1, e2, e3, e24, nI_clamp (n := 24 * m + i) (by omega)]
      refine ⟨vp_in_nI (by omega) (by decide), ?_⟩
      by_cases w : bt (gY_maps v (24 * m + i)) e = true
      · refine br_f (fun z => ?_) ?_
        · have := (zb_bit _ (j := e) (by omega)).mp z
          rw [w] at this; exact absurd this (by decide)
        · by_cases w6 : 6 ≤ e
          · have e6' : (6 : Int32) * nI j + nI e - 6 = nI (6 * j + (e - 6)) := by
              rw [e6, show (6 : Int32) = nI 6 from rfl, pk_sub (by omega)]
              exact congrArg nI (by omega)
            have ee6 : nI e - 6 = nI (e - 6) := by rw [show (6 : Int32) = nI 6 from rfl, pk_sub (by omega)]
            have ey' : y = sk (6 * j + (e - 6)) := by rw [ey]; unfold zF_y; rw [if_neg (by omega)]
            refine br_t (nI_le (a := 6) (b := e) w6 (by omega)) ⟨vj, ?_⟩
            rw [ee6, e6', nI_clamp (n := 6 * j + (e - 6)) (by omega), ← ey']
            by_cases wh : e < 6 + hh
            · obtain ⟨g1, g2⟩ := h2 (hb.mpr ⟨w, wh⟩)
              exact br_f (nI_ge (by omega) (by omega)) ⟨vp_in_nI (by omega) (by decide), g1 _ (nm_r (nI_1 k) g2)⟩
            · exact br_t (nI_le (by omega) (by omega)) (nm_r (nI_1 k) (h1 (fun z => wh (hb.mp z).2)))
          · have ey' : y = lo (6 * j + e) := by rw [ey]; unfold zF_y; rw [if_pos (by omega)]
            obtain ⟨g1, g2⟩ := h2 (hb.mpr ⟨w, by omega⟩)
            refine br_f (nI_ge (b := 6) (by omega) (by decide)) ?_
            rw [e6, nI_clamp (n := 6 * j + e) (by omega), ← ey']
            exact ⟨vp_in_nI (by omega) (by decide), g1 _ (nm_r (nI_1 k) g2)⟩
      · exact br_t ((zb_bit _ (by omega)).mpr (Bool.eq_false_iff.mpr w)) (nm_r (nI_1 k) (h1 (fun z => w (hb.mp z).1)))
    by_cases w : qb (12 * j + e) = true
    · obtain ⟨o, ey, o48, ro⟩ := hq j e hj he12 w
      obtain ⟨mk1, S1, l1, m1, w1⟩ := yj_mark (us := us) (fr := nI (D + 1)) (wu := wu) (st := st) (og := og) (an := an) (cl := cl) (sy := sy) (tc := tc) (lc := lc) (re := re) (rd := rd) (cd := cd) (lk := lk) (of := of) (fl := fl) (gy := gy) (mk := mk) (fm := fm) (fp := fp) (hi := hi) (lo := lo) (sk := sk) (v := v) o48 S ro
      obtain ⟨mk', S2, l2, m2, hw⟩ := ih (k + 1) mk1 (by omega) S1
      refine ⟨mk', S2, za_let l1 l2, fun j' e' o' a b c d f g i => ?_, fun post hpp => stp post mk mk1 (nI o) ey.symm (fun z => absurd w z) (fun _ => ⟨w1, hw post hpp⟩)⟩
      by_cases q : 12 * j' + e' = k
      · have qj : j' = j := by omega
        have qe : e' = e := by omega
        rw [qj, qe, ey] at f
        have := (nI_eq (by omega) (by omega)).mp f
        subst this
        exact l2 _ (m1 g)
      · exact m2 j' e' o' (by omega) b c d f g i
    · obtain ⟨mk', S2, l2, m2, hw⟩ := ih (k + 1) mk (by omega) S
      refine ⟨mk', S2, l2, fun j' e' o' a b c d f g i => ?_, fun post hpp => stp post mk mk _ rfl (fun _ => hw post hpp) (fun z => absurd z w)⟩
      by_cases q : 12 * j' + e' = k
      · have qj : j' = j := by omega
        have qe : e' = e := by omega
        rw [qj, qe] at d
        exact absurd d w
      · exact m2 j' e' o' (by omega) b c d f g i
theorem yj_18 (hs : zR_s u v) {e0 : Nat} (hm : za_H (gX_superOf u) (gX_fieldCount u) (gX_refFields u) of fl hp p l e0) {Rr : Nat → Prop} (cR : ∀ a b, a ∈ l → Rr a → za_E (gX_fieldCount u) (gX_refFields u) of fl a b → Rr b) {o c : Nat} (ol : o ∈ l) (ro : Rr o) (c4 : c < 4) (cu : gX_superOf u c ≠ -2) (ec : (of o).toNatClampNeg - 1 = c) (ef : gX_fieldCount u c = nI (za_n (gX_fieldCount u) of o)) :
  ∀ (d f : Nat) (mk : Nat → Int32), f + d = za_n (gX_fieldCount u) of o → zj_S Rr mk → ∃ mk', zj_S Rr mk' ∧ za_le mk mk' ∧ (∀ f' o', f ≤ f' → f' < za_n (gX_fieldCount u) of o → bt (gX_refFields u c) f' = true → fl (16 * o + f') = nI o' → 1 ≤ o' → o' ≤ 48 → mk' o' ≠ 0) ∧ ∀ post : SY → Prop, post (rY us fr wu st og an cl sy tc lc re rd cd lk of fl gy mk' fm fp hi lo sk v) → kY_spread_18 post (nI o) (nI c) (nI (za_n (gX_fieldCount u) of o)) (d + 1) (nI f) (rY us fr wu st og an cl sy tc lc re rd cd lk of fl gy mk fm fp hi lo sk v) := by
  obtain ⟨c', _, _, _, _, _, n16, ec', o1, o48, p1, pe, hv⟩ := za_get hm ol
  have : c' = c := ec'.symm.trans ec
  subst this
  intro d
  induction d with
  | zero =>
    intro f mk h S
    exact ⟨mk, S, za_ler mk, fun f' o' a b => by omega, fun post hpp => uY_spread_18 (br_t (nI_le (by omega) (by omega)) hpp)⟩
  | succ d ih =>
    intro f mk h S
    have vf := hv f (by omega)
    have nle : ¬ nI (za_n (gX_fieldCount u) of o) ≤ nI f := nI_ge (by omega) (by omega)
    have e16 : (16 : Int32) * nI o + nI f = nI (16 * o + f) := by rw [show (16 : Int32) = nI 16 from rfl, pk_mul, nI_add]
    by_cases bf : bt (gX_refFields u c') f = true
    · rw [if_pos bf] at vf
      obtain ⟨o', ho', o48', p48', ey, ex⟩ := za_fld hm (vf.2 rfl)
      obtain ⟨mk1, S1, l1, m1, w1⟩ := yj_mark (us := us) (fr := fr) (wu := wu) (st := st) (og := og) (an := an) (cl := cl) (sy := sy) (tc := tc) (lc := lc) (re := re) (rd := rd) (cd := cd) (lk := lk) (of := of) (fl := fl) (gy := gy) (mk := mk) (fm := fm) (fp := fp) (hi := hi) (lo := lo) (sk := sk) (v := v) o48' S (fun z => cR o o' ol ro ⟨z, o48', f, by omega, by rw [ec']; exact bf, ey⟩)
      obtain ⟨mk', S2, l2, m2, hw⟩ := ih (f + 1) mk1 (by omega) S1
      refine ⟨mk', S2, za_let l1 l2, fun f' o2 a b c d e g => ?_, fun post hpp => uY_spread_18 (br_f nle (yj_kind hs c4 cu ef (by omega) n16 ?_))⟩
      · by_cases q : f' = f
        · rw [q, ey] at d
          have := (nI_eq (by omega) (by omega)).mp d
          subst this
          exact l2 _ (m1 e)
        · exact m2 f' o2 (by omega) b c d e g
      · rw [if_pos bf, rY_fields, e16, nI_clamp (n := 16 * o + f) (by omega), ey]
        exact br_t rfl ⟨vp_in_nI (by omega) (by decide), w1 _ (nm_r (nI_1 f) (hw post hpp))⟩
    · obtain ⟨mk', S2, l2, m2, hw⟩ := ih (f + 1) mk (by omega) S
      refine ⟨mk', S2, l2, fun f' o2 a b c d e g => ?_, fun post hpp => uY_spread_18 (br_f nle (yj_kind hs c4 cu ef (by omega) n16 ?_))⟩
      · by_cases q : f' = f
        · rw [q] at c; exact absurd c bf
        · exact m2 f' o2 (by omega) b c d e g
      · rw [if_neg bf]
        exact br_f (by decide) (nm_r (nI_1 f) (hw post hpp))
theorem yj_169 (hs : zR_s u v) {e0 : Nat} (hm : za_H (gX_superOf u) (gX_fieldCount u) (gX_refFields u) of fl hp p l e0) {Rr : Nat → Prop} (Rl : ∀ o, Rr o → o ∈ l) (cR : ∀ a b, a ∈ l → Rr a → za_E (gX_fieldCount u) (gX_refFields u) of fl a b → Rr b) :
  ∀ (d x : Nat) (mk : Nat → Int32), x + d = 49 → 1 ≤ x → zj_S Rr mk → ∃ mk', zj_S Rr mk' ∧ za_le mk mk' ∧ (∀ o, x ≤ o → o ≤ 48 → mk o ≠ 0 → ∀ o', za_E (gX_fieldCount u) (gX_refFields u) of fl o o' → mk' o' ≠ 0) ∧ ∀ (post : SY → Prop) (J : Int32 → SY → Prop) (x1 : Int32), J (x1 + 1) (rY us fr wu st og an cl sy tc lc re rd cd lk of fl gy mk' fm fp hi lo sk v) → kY_collect_169 post J x1 (d + 1) (nI x) (rY us fr wu st og an cl sy tc lc re rd cd lk of fl gy mk fm fp hi lo sk v) := by
  intro d
  induction d with
  | zero =>
    intro x mk h x1 S
    exact ⟨mk, S, za_ler mk, fun o a b => by omega, fun post J x1 hJ => uY_collect_169 (br_t (nI_le (a := 49) (b := x) (by omega) (by omega)) (nm_e hJ))⟩
  | succ d ih =>
    intro x mk h x1 S
    have nle : ¬ (49 : Int32) ≤ nI x := nI_ge (b := 49) (by omega) (by decide)
    have vx : vp_in (nI x) 49 := vp_in_nI (by omega) (by decide)
    by_cases w : mk x = 0
    · obtain ⟨mk', S2, l2, m2, hw⟩ := ih (x + 1) mk (by omega) (by omega) S
      refine ⟨mk', S2, l2, fun o a b c o' hE => ?_, fun post J x1 hJ => uY_collect_169 (br_f nle ⟨vx, br_t ?_ (nm_r (nI_1 x) (hw post J x1 hJ))⟩)⟩
      · by_cases q : o = x
        · rw [q] at c; exact absurd w c
        · exact m2 o (by omega) b c o' hE
      · rw [rY_marked, nI_clamp (by omega)]; exact w
    · have rx := S x x1 (by omega) w
      have xl := Rl x rx
      obtain ⟨c, c4, cu, eo, eh, ef, n16, ec, o1, o48, p1, pe, hv⟩ := za_get hm xl
      obtain ⟨mk1, S1, l1, m1, w1⟩ := yj_18 (us := us) (fr := fr) (wu := wu) (st := st) (og := og) (an := an) (cl := cl) (sy := sy) (tc := tc) (lc := lc) (re := re) (rd := rd) (cd := cd) (lk := lk) (of := of) (fl := fl) (gy := gy) (fm := fm) (fp := fp) (hi := hi) (lo := lo) (sk := sk) hs hm cR xl rx c4 cu ec ef (za_n (gX_fieldCount u) of x) 0 mk (by omega) S
      obtain ⟨mk', S2, l2, m2, hw⟩ := ih (x + 1) mk1 (by omega) (by omega) S1
      refine ⟨mk', S2, za_let l1 l2, fun o a b c o' hE => ?_, fun post J x1 hJ => uY_collect_169 (br_f nle ⟨vx, br_f ?_ (upY_spread ⟨vx, ?_⟩)⟩)⟩
      · by_cases q : o = x
        · rw [q] at hE
          obtain ⟨b1, b48, f, hf, hb2, ef2⟩ := hE
          rw [ec] at hb2
          exact l2 _ (m1 f o' (by omega) hf hb2 ef2 b1 b48)
        · exact m2 o (by omega) b (l1 _ c) o' hE
      · rw [rY_marked, nI_clamp (by omega)]; exact w
      · rw [rY_of, nI_clamp (n := x) (by omega), eo, nI_pred]
        exact nm_e (yj_tot hs c4 cu ef ⟨_, w1 _ (nm_r (nI_1 x) (hw post J x1 hJ))⟩)
theorem yj_161 (hs : zR_s u v) {e0 : Nat} (hm : za_H (gX_superOf u) (gX_fieldCount u) (gX_refFields u) of fl hp p l e0) {Rt : Nat → Prop} (hRt : ∀ o, Rt o → o ∈ l) :
  ∀ (d k : Nat) (mk : Nat → Int32), k + d = 48 → zj_S (za_R Rt (za_E (gX_fieldCount u) (gX_refFields u) of fl)) mk → (∀ o, Rt o → mk o ≠ 0) → ((∀ o, za_R Rt (za_E (gX_fieldCount u) (gX_refFields u) of fl) o → mk o ≠ 0) ∨ k + 1 ≤ za_c (fun o => mk o ≠ 0)) →
    ∃ mk', zj_S (za_R Rt (za_E (gX_fieldCount u) (gX_refFields u) of fl)) mk' ∧ (∀ o, za_R Rt (za_E (gX_fieldCount u) (gX_refFields u) of fl) o → mk' o ≠ 0) ∧ ∀ post : SY → Prop, (∃ n, kY_collect_218 post n 1 (rY 0 fr wu st og an (cl + 1) sy tc lc re rd cd lk of fl gy mk' fm fp hi lo sk v)) → kY_collect_161 post (d + 1) (nI k) (rY us fr wu st og an cl sy tc lc re rd cd lk of fl gy mk fm fp hi lo sk v) := by
  intro d
  induction d with
  | zero =>
    intro k mk h S rm I
    refine ⟨mk, S, ?_, fun post hpp => uY_collect_161 (br_t (nI_le (a := 48) (b := k) (by omega) (by omega)) ?_)⟩
    · rcases I with I | I
      · exact I
      · have := za_c48 (fun o => mk o ≠ 0); omega
    · rw [rY_collections]
      refine nm_e ?_
      rw [rY__used_collections]; exact hpp
  | succ d ih =>
    intro k mk h S rm I
    obtain ⟨mk1, S1, l1, m1, w1⟩ := yj_169 (us := us) (fr := fr) (wu := wu) (st := st) (og := og) (an := an) (cl := cl) (sy := sy) (tc := tc) (lc := lc) (re := re) (rd := rd) (cd := cd) (lk := lk) (of := of) (fl := fl) (gy := gy) (fm := fm) (fp := fp) (hi := hi) (lo := lo) (sk := sk) hs hm (fun o ro => za_Rl hm hRt ro) (fun a b _ ra hE => za_Rs ra hE) 48 1 mk rfl (by omega) S
    have I1 : (∀ o, za_R Rt (za_E (gX_fieldCount u) (gX_refFields u) of fl) o → mk1 o ≠ 0) ∨ k + 1 + 1 ≤ za_c (fun o => mk1 o ≠ 0) := by
      rcases I with I | I
      · exact Or.inl (fun o ro => l1 _ (I o ro))
      · by_cases cl : ∀ o o', 1 ≤ o → o ≤ 48 → mk o ≠ 0 → za_E (gX_fieldCount u) (gX_refFields u) of fl o o' → mk o' ≠ 0
        · refine Or.inl (fun o ro => l1 _ ?_)
          exact (ro (fun a => 1 ≤ a ∧ a ≤ 48 ∧ mk a ≠ 0) (fun a ra => ⟨(za_p1 hm (hRt a ra)).1, (za_p1 hm (hRt a ra)).2.1, rm a ra⟩) (fun a b ha hE => ⟨hE.1, hE.2.1, cl a b ha.1 ha.2.1 ha.2.2 hE⟩)).2.2
        · have : ∃ o o', 1 ≤ o ∧ o ≤ 48 ∧ mk o ≠ 0 ∧ za_E (gX_fieldCount u) (gX_refFields u) of fl o o' ∧ mk o' = 0 := Classical.byContradiction (fun z => cl (fun o o' a b c d => Classical.byContradiction (fun w => z ⟨o, o', a, b, c, d, Classical.byContradiction w⟩)))
          obtain ⟨o, o', a1, a2, a3, hE, z⟩ := this
          have lt := za_clt (M := fun o => mk o ≠ 0) (M' := fun o => mk1 o ≠ 0) (fun a w => l1 a w) hE.1 hE.2.1 (fun w => w z) (m1 o a1 a2 a3 o' hE)
          exact Or.inr (by omega)
    obtain ⟨mk', S2, cm, hw⟩ := ih (k + 1) mk1 (by omega) S1 (fun o ro => l1 _ (rm o ro)) I1
    refine ⟨mk', S2, cm, fun post hpp => uY_collect_161 (br_f (nI_ge (b := 48) (by omega) (by decide)) ⟨49, w1 post _ (nI k) ?_⟩)⟩
    rw [nI_1]; exact hw post hpp
def zj_o (of mk : Nat → Int32) (x o : Nat) : Int32 := if 1 ≤ o ∧ o < x ∧ mk o = 0 then 0 else of o
theorem zj_o1 {of mk : Nat → Int32} : zj_o of mk 1 = of := by
  funext o; unfold zj_o; rw [if_neg (by omega)]
theorem zj_os {of mk : Nat → Int32} {x : Nat} (h1 : 1 ≤ x) (h : mk x = 0) : upd (zj_o of mk x) x 0 = zj_o of mk (x + 1) := by
  funext o
  by_cases e : o = x
  · subst e; rw [pk_us]; unfold zj_o; rw [if_pos ⟨h1, by omega, h⟩]
  · rw [pk_un e]; unfold zj_o
    by_cases q : 1 ≤ o ∧ o < x ∧ mk o = 0
    · rw [if_pos q, if_pos ⟨q.1, by omega, q.2.2⟩]
    · rw [if_neg q, if_neg (fun z => q ⟨z.1, by omega, z.2.2⟩)]
theorem zj_on {of mk : Nat → Int32} {x : Nat} (h : mk x ≠ 0) : zj_o of mk x = zj_o of mk (x + 1) := by
  funext o
  unfold zj_o
  by_cases q : 1 ≤ o ∧ o < x ∧ mk o = 0
  · rw [if_pos q, if_pos ⟨q.1, by omega, q.2.2⟩]
  · rw [if_neg q, if_neg (fun z => ?_)]
    by_cases e : o = x
    · subst e; exact h z.2.2
    · exact q ⟨z.1, by omega, z.2.2⟩
theorem yj_218 (hs : zR_s u v) {e0 : Nat} (hm : za_H (gX_superOf u) (gX_fieldCount u) (gX_refFields u) of fl hp p l e0) {b : Nat → Bool} (hb : ∀ o, 1 ≤ o → o ≤ 48 → (b o = true ↔ mk o ≠ 0)) (bl : ∀ o, b o = true → o ∈ l) {post : SY → Prop}
  (hpp : post (rY (nI (zs (fun i => if b (i + 1) then zl_sz (gX_fieldCount u) of (i + 1) else 0) 48)) fr wu st og an cl (sy + nI (zs (fun i => if b (i + 1) then 1 else 0) 48)) tc lc re rd cd lk (zj_o of mk 49) fl gy mk fm fp hi lo sk v)) :
  ∀ d y, y + d = 48 → kY_collect_218 post (d + 1) (nI (y + 1)) (rY (nI (zs (fun i => if b (i + 1) then zl_sz (gX_fieldCount u) of (i + 1) else 0) y)) fr wu st og an cl (sy + nI (zs (fun i => if b (i + 1) then 1 else 0) y)) tc lc re rd cd lk (zj_o of mk (y + 1)) fl gy mk fm fp hi lo sk v) := by
  intro d
  induction d with
  | zero =>
    intro y h
    have : y = 48 := by omega
    subst this
    exact uY_collect_218 (br_t (by decide) hpp)
  | succ d ih =>
    intro y h
    have nle : ¬ (49 : Int32) ≤ nI (y + 1) := nI_ge (b := 49) (by omega) (by decide)
    have vx : vp_in (nI (y + 1)) 49 := vp_in_nI (by omega) (by decide)
    have cx : (nI (y + 1)).toNatClampNeg = y + 1 := nI_clamp (by omega)
    have hby := hb (y + 1) (by omega) (by omega)
    have i1 := ih (y + 1) (by omega)
    have z1 : zs (fun i => if b (i + 1) then zl_sz (gX_fieldCount u) of (i + 1) else 0) (y + 1) = zs (fun i => if b (i + 1) then zl_sz (gX_fieldCount u) of (i + 1) else 0) y + (if b (y + 1) then zl_sz (gX_fieldCount u) of (y + 1) else 0) := rfl
    have z2 : zs (fun i => if b (i + 1) then 1 else 0) (y + 1) = zs (fun i => if b (i + 1) then 1 else 0) y + (if b (y + 1) then 1 else 0) := rfl
    rw [z1, z2] at i1
    refine uY_collect_218 (br_f nle ⟨vx, ?_⟩)
    rw [rY_marked, cx, rY_of]
    refine br_c (fun w => ⟨vx, nm_e ?_⟩) (fun w => ?_)
    · have nb : ¬ b (y + 1) = true := fun z => hby.mp z w
      rw [if_neg nb, if_neg nb, Nat.add_zero, Nat.add_zero] at i1
      rw [zj_os (by omega) w, rY__of]
      refine uY_collect_240 ⟨vx, ?_⟩
      rw [rY_of, cx]
      refine br_t ?_ (nm_r (nI_1 (y + 1)) i1)
      unfold zj_o; rw [if_pos ⟨by omega, by omega, w⟩]
    · have bt' := hby.mpr w
      obtain ⟨c, c4, cu, eo, eh, ef, n16, ec, o1, o48, p1, pe, hv⟩ := za_get hm (bl _ bt')
      rw [if_pos bt', if_pos bt', ← zj_on w] at i1
      have eo' : zj_o of mk (y + 1) (y + 1) = nI (c + 1) := by unfold zj_o; rw [if_neg (by omega)]; exact eo
      refine uY_collect_240 ⟨vx, ?_⟩
      rw [rY_of, rY_stayed, rY_used, cx, eo', nI_pred]
      refine br_f (nI_ne0 (by omega) (by omega)) (nm_e ⟨vx, ?_⟩)
      have es : sy + nI (zs (fun i => if b (i + 1) then 1 else 0) y) + 1 = sy + nI (zs (fun i => if b (i + 1) then 1 else 0) y + 1) := by rw [Int32.add_assoc, nI_1]
      have eU : nI (zs (fun i => if b (i + 1) then zl_sz (gX_fieldCount u) of (i + 1) else 0) y) + (1 + nI (za_n (gX_fieldCount u) of (y + 1))) = nI (zs (fun i => if b (i + 1) then zl_sz (gX_fieldCount u) of (i + 1) else 0) y + zl_sz (gX_fieldCount u) of (y + 1)) := by
        rw [show (1 : Int32) = nI 1 from rfl, nI_add, nI_add]; rfl
      rw [rY__stayed]
      refine yj_tot hs c4 cu ef (nm_r eU (nm_r (nI_1 (y + 1)) ?_))
      rw [rY__used_stayed, es]
      exact i1
end
