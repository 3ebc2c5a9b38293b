/-! catcher, wipe, body, map, set, go, look, count, and the constructors -/
theorem zq_24 (x : Int32) : ((0 : Int32) ≤ x ∧ x ≤ 24) ↔ ∃ i, i ≤ 24 ∧ x = nI i := by
  constructor
  · intro z
    exact nI_of2 (n := 24) (M := 24) (by decide) (Int32.not_lt.mpr z.1) z.2
  · rintro ⟨i, hi, rfl⟩
    exact ⟨nI_pos' (by omega), nI_le (b := 24) hi (by decide)⟩
theorem i_vc_catcher {k : Nat} {u : SX} {v : SY} (I : i_Rel k u v) (hk : k + 5 ≤ 2560) (v1 : Int32) (v2 : Int32) (v3 : Int32) : wpX_catcher (fun r u' => wpY_catcher (fun r' v' => r' = r ∧ i_Rel (k + 5) u' v') v v1 v2 v3) u v1 v2 v3 := by
  obtain ⟨H, R, K, p, l, hs, hb, hc, hh, hn, ht⟩ := id I
  obtain ⟨⟨e1, e2, e3, e4, e5, e6, e7, e8, e9, e10⟩, ok, own, ini, rows, go⟩ := id hs
  have no : ¬ (((0 : Int32) ≤ v1 ∧ v1 ≤ 24) ∧ (v1 ≤ v2 ∧ v2 ≤ 24) ∧ ((0 : Int32) ≤ v3 ∧ v3 ≤ 24)) → wpY_catcher (fun r' v' => r' = 0 ∧ i_Rel (k + 5) u v') v v1 v2 v3 := by
    intro n1
    exact upY_catcher (yt_in (zp_br (fun _ => ⟨rfl, I⟩) (fun w1 => yt_in (zp_br (fun _ => ⟨rfl, I⟩) (fun w2 => yt_in (zp_br (fun _ => ⟨rfl, I⟩) (fun w3 => absurd ⟨w1, w2, w3⟩ n1)))))))
  refine upX_catcher (br_c (fun w => no (fun q => absurd w (Int32.not_lt.mpr q.1.1))) (fun w1 => br_c (fun w => no (fun q => absurd w (Int32.not_lt.mpr q.2.1.2))) (fun w2 => br_c (fun w => no (fun q => absurd w (Int32.not_lt.mpr q.2.1.1))) (fun w3 => br_c (fun w => no (fun q => absurd w (Int32.not_lt.mpr q.2.2.1))) (fun w4 => br_c (fun w5 => ?_) (fun w => no (fun q => w q.2.2.2)))))))
  have w1 := Int32.not_lt.mp w1
  have w2 := Int32.not_lt.mp w2
  have w3 := Int32.not_lt.mp w3
  have w4 := Int32.not_lt.mp w4
  have q1 : (0 : Int32) ≤ v1 ∧ v1 ≤ 24 := ⟨w1, Int32.le_trans w3 w2⟩
  refine nm_e (nm_e (nm_e (upY_catcher (yt_in (zp_br (fun n1 => absurd q1 n1) (fun _ => yt_in (zp_br (fun n1 => absurd ⟨w3, w2⟩ n1) (fun _ => yt_in (zp_br (fun n1 => absurd ⟨w4, w5⟩ n1) (fun _ => nm_e (nm_e (nm_e ⟨rfl, ?_⟩))))))))))))
  obtain ⟨f, hf, ef⟩ := (zq_24 v1).mp q1
  obtain ⟨t, ht2, et⟩ := (zq_24 v2).mp ⟨Int32.le_trans w1 w3, w2⟩
  obtain ⟨g, hg, eg⟩ := (zq_24 v3).mp ⟨w4, w5⟩
  refine ⟨H, R, K, p, l, ⟨⟨e1, e2, e3, e4, e5, e6, ?_, ?_, e9, e10⟩, ok, own, ini, ⟨rows.1, ?_⟩, ?_⟩, ?_, hc, hh, hn, ht⟩
  · show upd (gX_catchFrom u) 8 v1 = upd (gY_from v) 8 v1
    rw [e7]
  · show upd (gX_catchTo u) 8 v2 = upd (gY_to v) 8 v2
    rw [e8]
  · intro r hr
    show ∃ f t, f ≤ t ∧ t ≤ 24 ∧ upd (gX_catchFrom u) 8 v1 r = nI f ∧ upd (gX_catchTo u) 8 v2 r = nI t
    by_cases r8 : r = 8
    · subst r8
      rw [pk_us, pk_us]
      rw [ef, et] at w3
      exact ⟨f, t, (nI_leI (by omega) (by omega)).mp w3, ht2, ef, et⟩
    · rw [pk_un r8, pk_un r8]; exact rows.2 r hr
  · intro r hr
    show upd (gX_catchFrom u) 8 v1 r < upd (gX_catchTo u) 8 v2 r → upd (gX_catchGoal u) 8 v3 r = upd (gY_goal v) 8 v3 r ∧ ∃ g, g ≤ 24 ∧ upd (gX_catchGoal u) 8 v3 r = nI g
    by_cases r8 : r = 8
    · subst r8
      rw [pk_us, pk_us, pk_us, pk_us]
      exact fun _ => ⟨rfl, g, hg, eg⟩
    · rw [pk_un r8, pk_un r8, pk_un r8, pk_un r8]; exact go r hr
  · intro q hq hl
    exact zw_keep (hb q hq hl) (fun _ _ => rfl) (fun _ _ => rfl) rfl (pk_un (by omega)) (pk_un (by omega)) (pk_un (by omega)) (fun _ _ => rfl) (fun _ _ => rfl) rfl (fun _ _ => rfl) (fun _ _ => Iff.rfl) (fun _ _ => rfl)
theorem i_vc_wipe {k : Nat} {u : SX} {v : SY} (I : i_Rel k u v) (hk : k + 5 ≤ 2560) : wpX_wipe (fun r u' => wpY_wipe (fun r' v' => r' = r ∧ i_Rel (k + 5) u' v') v) u := by
  obtain ⟨H, R, K, p, l, hs, hb, hc, hh, hn, ht⟩ := id I
  obtain ⟨⟨e1, e2, e3, e4, e5, e6, e7, e8, e9, e10⟩, ok, own, ini, rows, go⟩ := id hs
  refine upX_wipe (nm_e (upX_emptyDraft (nm_e (nm_e (nm_e (nm_e (upY_wipe (nm_e (nm_e (nm_e (nm_e ⟨?_, ?_⟩))))))))))) 
  · rw [e6]
  · refine ⟨H, R, K, p, l, ⟨⟨e1, e2, e3, e4, e5, ?_, ?_, ?_, e9, e10⟩, ok, own, ini, ⟨?_, ?_⟩, ?_⟩, ?_, ?_, hh, hn, ht⟩
    · show upd (gX_lengths u) 8 0 = upd (gY_length v) 8 0
      rw [e6]
    · show upd (gX_catchFrom u) 8 0 = upd (gY_from v) 8 0
      rw [e7]
    · show upd (gX_catchTo u) 8 0 = upd (gY_to v) 8 0
      rw [e8]
    · intro r hr
      show ∃ l, l ≤ 24 ∧ upd (gX_lengths u) 8 0 r = nI l ∧ ∀ j, j < l → zi_ok (gX_ops u (24 * r + j)) (gX_operands u (24 * r + j))
      by_cases r8 : r = 8
      · subst r8
        exact ⟨0, by decide, pk_us, fun j hj => absurd hj (by omega)⟩
      · rw [pk_un r8]; exact rows.1 r hr
    · intro r hr
      show ∃ f t, f ≤ t ∧ t ≤ 24 ∧ upd (gX_catchFrom u) 8 0 r = nI f ∧ upd (gX_catchTo u) 8 0 r = nI t
      by_cases r8 : r = 8
      · subst r8
        exact ⟨0, 0, by decide, by decide, pk_us, pk_us⟩
      · rw [pk_un r8, pk_un r8]; exact rows.2 r hr
    · intro r hr
      show upd (gX_catchFrom u) 8 0 r < upd (gX_catchTo u) 8 0 r → upd (gX_catchGoal u) 8 0 r = gY_goal v r ∧ ∃ g, g ≤ 24 ∧ upd (gX_catchGoal u) 8 0 r = nI g
      by_cases r8 : r = 8
      · subst r8
        rw [pk_us, pk_us]
        intro w; exact absurd w (by decide)
      · rw [pk_un r8, pk_un r8, pk_un r8]; exact go r hr
    · intro q hq hl
      have hl : upd (gX_lengths u) 8 0 q ≠ 0 := hl
      rw [pk_un (by omega)] at hl
      exact zw_keep (hb q hq hl) (fun _ _ => rfl) (fun _ _ => rfl) (pk_un (by omega)) (pk_un (by omega)) (pk_un (by omega)) (pk_un (by omega)) (fun _ _ => rfl) (fun _ _ => rfl) rfl (fun _ _ => rfl) (fun _ _ => Iff.rfl) (fun _ _ => rfl)
    · obtain ⟨c1, c2, c3⟩ := hc
      refine ⟨fun m hm => ?_, c2, fun k hk w => by
        obtain ⟨q, q1, q2, q3⟩ := c3 k hk w
        refine ⟨q, q1, q2, ?_⟩
        show upd _ 8 _ q ≠ 0
        rw [pk_un (by omega)]; exact q3⟩
      obtain ⟨d1, d2, d3, d4⟩ := c1 m hm
      refine ⟨d1, d2, fun w => ?_, d4⟩
      show upd (gX_lengths u) 8 0 m ≠ 0
      rw [pk_un (by omega)]; exact d3 w
theorem zR_len {u : SX} {v : SY} (h : zR_s u v) : (∀ r, r < 9 → ∃ l, l ≤ 24 ∧ gX_lengths u r = nI l) ∧ (∀ r, r < 9 → ∃ l, l ≤ 24 ∧ gY_length v r = nI l) := by
  obtain ⟨⟨_, _, _, _, _, e6, _⟩, _, _, _, rows, _⟩ := h
  have q : ∀ r, r < 9 → ∃ l, l ≤ 24 ∧ gX_lengths u r = nI l := fun r hr => by
    obtain ⟨l, h1, h2, _⟩ := rows.1 r hr
    exact ⟨l, h1, h2⟩
  exact ⟨q, by rw [← e6]; exact q⟩
theorem i_vc_body {k : Nat} {u : SX} {v : SY} (I : i_Rel k u v) (hk : k + 5 ≤ 2560) (v1 : Int32) (v2 : Int32) : wpX_body (fun r => wpY_body (fun r' => r' = r ∧ i_Rel (k + 5) u v) v v1 v2) u v1 v2 := by
  obtain ⟨H, R, K, p, l, hs, hb, hc, hh, hn, ht⟩ := id I
  obtain ⟨⟨e1, e2, e3, e4, e5, e6, e7, e8, e9, e10⟩, ok, own, ini, rows, go⟩ := id hs
  obtain ⟨lX, lY⟩ := zR_len hs
  refine upX_body (x_hasBody lX (zp_br (fun w => ?_) (fun w => ?_)))
  · rw [e6] at w
    exact upY_body (y_isBody lY (zp_br (fun _ => ⟨rfl, I⟩) (fun w2 => absurd w2 w)))
  · have w' := w
    rw [e6] at w'
    obtain ⟨m, hm, rfl, h2⟩ := w
    have v9 : vp_in (nI m) 9 := vp_in_nI (by omega) (by decide)
    have v8 : vp_in (nI m) 8 := vp_in_nI (by omega) (by decide)
    have i01 : ∀ x : Int32, ((0 : Int32) ≤ x ∧ x ≤ 1) → x = 0 ∨ x = 1 := by
      intro x z
      obtain ⟨i, hi, rfl⟩ := nI_of2 (n := 1) (M := 1) (by decide) (Int32.not_lt.mpr z.1) z.2
      have : i = 0 ∨ i = 1 := by omega
      rcases this with rfl | rfl
      · exact Or.inl rfl
      · exact Or.inr rfl
    refine br_c (fun q => ⟨v9, ?_⟩) (fun q => br_c (fun q2 => ⟨v8, ?_⟩) (fun q2 => ?_))
    · subst q
      refine upY_body (y_isBody lY (zp_br (fun n1 => absurd w' n1) (fun _ => yt_in (zp_br (fun n1 => absurd (by decide) n1) (fun _ => br_t rfl ⟨v9, ?_, I⟩)))))
      rw [e6]
    · subst q2
      refine upY_body (y_isBody lY (zp_br (fun n1 => absurd w' n1) (fun _ => yt_in (zp_br (fun n1 => absurd (by decide) n1) (fun _ => br_f (by decide) ⟨v8, ?_, I⟩)))))
      rw [e10]
    · refine upY_body (y_isBody lY (zp_br (fun n1 => absurd w' n1) (fun _ => yt_in (zp_br (fun _ => ⟨rfl, I⟩) (fun n1 => ?_)))))
      rcases i01 v2 n1 with r | r
      · exact absurd r q
      · exact absurd r q2
theorem i_vc_map {k : Nat} {u : SX} {v : SY} (I : i_Rel k u v) (hk : k + 5 ≤ 2560) (v1 : Int32) (v2 : Int32) : wpX_map (fun r => wpY_map (fun r' => r' = r ∧ i_Rel (k + 5) u v) v v1 v2) u v1 v2 := by
  obtain ⟨H, R, K, p, l, hs, hb, hc, hh, hn, ht⟩ := id I
  obtain ⟨⟨e1, e2, e3, e4, e5, e6, e7, e8, e9, e10⟩, ok, own, ini, rows, go⟩ := id hs
  obtain ⟨lX, lY⟩ := zR_len hs
  refine upX_map (x_hasBody lX (zp_br (fun w => ?_) (fun w => ?_)))
  · rw [e6] at w
    exact upY_map (y_isBody lY (zp_br (fun _ => ⟨rfl, I⟩) (fun w2 => absurd w2 w)))
  · have w' := w
    rw [e6] at w'
    obtain ⟨m, hm, rfl, h2⟩ := w
    have v9 : vp_in (nI m) 9 := vp_in_nI (by omega) (by decide)
    obtain ⟨n, hn24, en⟩ := lX m (by omega)
    have n0 : 0 < n := by
      by_cases q : n = 0
      · rw [q] at en; exact absurd en h2
      · omega
    have enY : gY_length v m = nI n := by rw [← e6]; exact en
    have cm : (nI m).toNatClampNeg = m := nI_clamp (by omega)
    have en1 : nI n - 1 = nI (n - 1) := by rw [show (1 : Int32) = nI 1 from rfl, pk_sub (by omega)]
    have inn : ((0 : Int32) ≤ v2 ∧ v2 ≤ nI (n - 1)) ↔ ∃ i, i < n ∧ v2 = nI i := by
      constructor
      · intro z
        obtain ⟨i, hi, e⟩ := nI_of2 (n := n - 1) (nI_toInt (by omega)) (Int32.not_lt.mpr z.1) z.2
        exact ⟨i, by omega, e⟩
      · rintro ⟨i, hi, rfl⟩
        exact ⟨nI_pos' (by omega), nI_le (by omega) (by omega)⟩
    have no : ¬ (∃ i, i < n ∧ v2 = nI i) → wpY_map (fun r' => r' = -1 ∧ i_Rel (k + 5) u v) v (nI m) v2 := by
      intro n1
      refine upY_map (y_isBody lY (zp_br (fun n1 => absurd w' n1) (fun _ => ⟨v9, ?_⟩)))
      rw [cm, enY, en1]
      refine yt_in ?_
      rw [zp_c inn]
      exact zp_br (fun _ => ⟨rfl, I⟩) (fun q => absurd q n1)
    refine br_c (fun q => no ?_) (fun q => ⟨v9, ?_⟩)
    · rintro ⟨i, hi, rfl⟩
      exact nI_pos (by omega) q
    · rw [cm, en]
      refine br_c (fun q2 => ?_) (fun q2 => no ?_)
      · obtain ⟨i, hi, rfl⟩ := nI_of q
        have q3 := (nI_ltI hi (by omega)).mp q2
        have x24 : nI m * 24 + nI i = nI (24 * m + i) := by rw [show (24 : Int32) = nI 24 from rfl, pk_mul, nI_add, Nat.mul_comm]
        have y24 : (24 : Int32) * nI m + nI i = nI (24 * m + i) := by rw [show (24 : Int32) = nI 24 from rfl, pk_mul, nI_add]
        refine ⟨by rw [x24]; exact vp_in_nI (by omega) (by decide), upY_map (y_isBody lY (zp_br (fun n1 => absurd w' n1) (fun _ => ⟨v9, ?_⟩)))⟩
        rw [cm, enY, en1]
        refine yt_in ?_
        rw [zp_c inn]
        refine zp_br (fun n1 => absurd ⟨i, q3, rfl⟩ n1) (fun _ => ⟨by rw [y24]; exact vp_in_nI (by omega) (by decide), ?_, I⟩)
        rw [x24, y24, e9]
      · rintro ⟨i, hi, rfl⟩
        exact q2 (nI_lt hi (by omega))
/-! objects -/
theorem zl_find {up fc rf of fl hp : Nat → Int32} {p : Nat → Nat} {l : List Nat} : ∀ t q e, zl_lay up fc rf of fl hp p l t q e → q ≤ e ∧ ∀ o, o ∈ t → zl_ob up fc rf of fl hp p l o (p o) ∧ q ≤ p o ∧ p o + zl_sz fc of o ≤ e := by
  intro t
  induction t with
  | nil => intro q e h; exact ⟨Nat.le_of_eq h, fun o ho => absurd ho (by simp)⟩
  | cons a t ih =>
    rintro q e ⟨hob, ht⟩
    obtain ⟨h1, h2⟩ := ih _ _ ht
    have hp : p a = q := by
      obtain ⟨c, n, _, _, _, _, _, _, h7, _⟩ := hob
      exact h7
    refine ⟨by omega, fun o ho => ?_⟩
    rcases List.mem_cons.mp ho with rfl | ho
    · rw [hp]; exact ⟨hob, by omega, h1⟩
    · have := h2 o ho
      exact ⟨this.1, by omega, this.2.2⟩
theorem zl_refc {up fc rf of fl hp gx gy : Nat → Int32} {he us : Int32} {p : Nat → Nat} {l : List Nat} (h : zR_h1 up fc rf of fl hp gx gy he us p l) {y x : Int32} (r : zl_ref p l y x) : (y = 0 ∧ x = 0) ∨ ∃ o c n, o ∈ l ∧ y = nI o ∧ x = nI (p o) ∧ 1 ≤ o ∧ o ≤ 48 ∧ 1 ≤ p o ∧ p o + 1 + n ≤ 49 ∧ c < 4 ∧ up c ≠ -2 ∧ of o = nI (c + 1) ∧ hp (p o) = nI c ∧ fc c = nI n ∧ n ≤ 16 ∧ ∀ j, j < n → zl_val p l (if bt (rf c) j then 2 else 1) (fl (16 * o + j)) (hp (p o + 1 + j)) := by
  obtain ⟨s, p0, ⟨e, h1, h2, h3, h4, lay⟩, _⟩ := h
  obtain ⟨o, ho, e1, e2⟩ := r
  rcases ho with rfl | ho
  · rw [p0] at e2; exact Or.inl ⟨e1, e2⟩
  · obtain ⟨hob, q1, q2⟩ := (zl_find _ _ _ lay).2 o ho
    obtain ⟨c, n, k1, k2, k3, k4, k5, k6, k7, k8⟩ := hob
    have so := (s.2.2 o).mp ho
    have sz : zl_sz fc of o = 1 + n := by
      unfold zl_sz
      rw [k3, nI_clamp (by omega), show c + 1 - 1 = c by omega, k5, nI_clamp (by omega)]
    exact Or.inr ⟨o, c, n, ho, e1, e2, so.1, so.2.1, q1, by omega, k1, k2, k3, k4, k5, k6, k8⟩
theorem x_classOf {post : Int32 → Prop} {u : SX} {up fc rf of fl gx gy : Nat → Int32} {he us : Int32} {p : Nat → Nat} {l : List Nat} (h : zR_h1 up fc rf of fl (gX_heap u) gx gy he us p l) {y x : Int32} (r : zl_ref p l y x) (hp : post (of y.toNatClampNeg - 1)) : wpX_classOf post u x := by
  rcases zl_refc h r with ⟨rfl, rfl⟩ | ⟨o, c, n, _, rfl, rfl, o1, o2, p1, p2, c4, _, eo, eh, _⟩
  · refine upX_classOf (br_t rfl ?_)
    rw [show (0 : Int32).toNatClampNeg = 0 from rfl, h.1.2.1] at hp
    exact hp
  · refine upX_classOf (br_f (nI_ne0 (by omega) (by omega)) ⟨vp_in_nI (by omega) (by decide), ?_⟩)
    rw [nI_clamp (by omega), eh]
    rw [nI_clamp (by omega), eo, nI_pred] at hp
    exact hp
theorem i_vc_set {k : Nat} {u : SX} {v : SY} (I : i_Rel k u v) (hk : k + 5 ≤ 2560) (v1 : Int32) (v2 : Int32) : wpX_set (fun r u' => wpY_set (fun r' v' => r' = r ∧ i_Rel (k + 5) u' v') v v1 v2) u v1 v2 := by
  obtain ⟨H, R, K, p, l, hs, hb, hc, hh, hn, ht⟩ := id I
  have im : ∀ x : Int32, (-1 ≤ x ∧ x ≤ 3) ↔ (x = -1 ∨ zg_is x) := by
    intro x
    constructor
    · intro z
      by_cases q : x < 0
      · left
        rw [Int32.le_iff_toInt_le, Int32.le_iff_toInt_le] at z
        rw [Int32.lt_iff_toInt_lt] at q
        have m1 : (-1 : Int32).toInt = -1 := by decide
        have p0 : (0 : Int32).toInt = 0 := by decide
        rw [m1] at z
        rw [p0] at q
        exact Int32.toInt_inj.mp (by omega)
      · exact Or.inr (zg_in.mp ⟨Int32.not_lt.mp q, z.2⟩)
    · rintro (rfl | q)
      · decide
      · have := zg_in.mpr q
        exact ⟨Int32.le_trans (by decide) this.1, this.2⟩
  have rel : ∀ g (y x : Int32), g < 4 → zl_ref p l y x → i_Rel (k + 5) (sX_globals (upd (gX_globals u) g x) u) (sY_globals (upd (gY_globals v) g y) v) := by
    intro g y x hg r
    refine ⟨H, R, K, p, l, hs, hb, hc, ?_, hn, ht⟩
    obtain ⟨z1, z2, z3, z8⟩ := hh
    refine ⟨z1, z2, z3, fun g2 hg2 => ?_⟩
    show zl_ref p l (upd (gY_globals v) g y g2) (upd (gX_globals u) g x g2)
    by_cases e : g2 = g
    · rw [e, pk_us, pk_us]; exact r
    · rw [pk_un e, pk_un e]; exact z8 g2 hg2
  have gl := hh.2.2.2
  have p0 := hh.2.1
  refine upX_set (x_isGlobal (zp_br (fun w => ?_) (fun w => ?_)))
  · exact upY_set (y_inG (zp_br (fun _ => ⟨rfl, I⟩) (fun q => absurd q w)))
  · obtain ⟨g, hg, rfl⟩ := id w
    have vg : vp_in (nI g) 4 := vp_in_nI hg (by decide)
    have cg : (nI g).toNatClampNeg = g := nI_clamp (by omega)
    refine br_c (fun q => ?_) (fun q => x_isGlobal (zp_br (fun q2 => ?_) (fun q2 => ?_)))
    · subst q
      refine uX_set_23 (br_t rfl ⟨vg, nm_e (upY_set (y_inG (zp_br (fun n1 => absurd w n1) (fun _ => yt_in ?_))))⟩)
      rw [zp_c (im (-1))]
      refine zp_br (fun n1 => absurd (Or.inl rfl) n1) (fun _ => br_f (by decide) ⟨vg, nm_e ⟨rfl, ?_⟩⟩)
      rw [cg]
      exact rel g 0 0 hg ⟨0, Or.inl rfl, rfl, by rw [p0]; rfl⟩
    · refine upY_set (y_inG (zp_br (fun n1 => absurd w n1) (fun _ => yt_in ?_)))
      rw [zp_c (im v2)]
      exact zp_br (fun _ => ⟨rfl, I⟩) (fun n1 => n1.elim (fun r => absurd r q) (fun r => absurd r q2))
    · obtain ⟨h, hh2, rfl⟩ := id q2
      have vh : vp_in (nI h) 4 := vp_in_nI hh2 (by decide)
      have ch : (nI h).toNatClampNeg = h := nI_clamp (by omega)
      refine uX_set_23 (br_f q ⟨vh, vg, nm_e (upY_set (y_inG (zp_br (fun n1 => absurd w n1) (fun _ => yt_in ?_))))⟩)
      rw [zp_c (im (nI h))]
      refine zp_br (fun n1 => absurd (Or.inr q2) n1) (fun _ => br_t (nI_pos' (by omega)) ⟨vh, vg, nm_e ⟨rfl, ?_⟩⟩)
      rw [cg, ch]
      exact rel g _ _ hg (gl h hh2)
theorem y_isObject {post : Int32 → Prop} {v : SY} {g : Int32} (h : post (zp (zg_is g ∧ ¬ gY_globals v g.toNatClampNeg ≤ 0))) : wpY_isObject post v g := by
  refine upY_isObject (y_inG (zp_br (fun w => ?_) (fun w => ⟨?_, ?_⟩)))
  · rw [zp_f (fun k => w k.1)] at h; exact h
  · obtain ⟨c, hc, rfl⟩ := w
    exact vp_in_nI hc (by decide)
  · exact zp_post h (fun q k => k.2 q) (fun q => ⟨w, q⟩)
theorem zR_at {u : SX} {v : SY} {p : Nat → Nat} {l : List Nat} (hs : zR_s u v) (hh : zR_h u v p l) {g : Nat} (hg : g < 4) : (gY_globals v g = 0 ∧ gX_globals u g = 0) ∨ ∃ o c n, o ∈ l ∧ gY_globals v g = nI o ∧ gX_globals u g = nI (p o) ∧ 1 ≤ o ∧ o ≤ 48 ∧ 1 ≤ p o ∧ p o + 1 + n ≤ 49 ∧ c < 4 ∧ gX_superOf u c ≠ -2 ∧ gY_of v o = nI (c + 1) ∧ gX_heap u (p o) = nI c ∧ gX_fieldCount u c = nI n ∧ n ≤ 16 ∧ (∀ j, j < n → zl_val p l (if bt (gX_refFields u c) j then 2 else 1) (gY_fields v (16 * o + j)) (gX_heap u (p o + 1 + j))) ∧ zc_dp (gY_up v) 4 (nI c) := by
  rcases zl_refc hh (hh.2.2.2 g hg) with q | ⟨o, c, n, h1, h2, h3, h4, h5, h6, h7, h8, h9, h10, h11, h12, h13, h14⟩
  · exact Or.inl q
  · refine Or.inr ⟨o, c, n, h1, h2, h3, h4, h5, h6, h7, h8, h9, h10, h11, h12, h13, h14, ?_⟩
    have h9' := h9
    rw [hs.1.1] at h9'
    exact (zR_cls hs).1.2 c h8 h9'
theorem i_vc_go {k : Nat} {u : SX} {v : SY} (I : i_Rel k u v) (hk : k + 5 ≤ 2560) (v1 : Int32) (v2 : Int32) : wpX_go (fun r u' => wpY_go (fun r' v' => r' = r ∧ i_Rel (k + 5) u' v') v v1 v2) u v1 v2 := by
  obtain ⟨H, R, K, p, l, hs, hb, hc, hh, hn, ht⟩ := id I
  obtain ⟨hcl, hup, hfc⟩ := zR_cls hs
  refine upX_go (x_isGlobal (zp_br (fun w => ?_) (fun w => ?_)))
  · exact upY_go (y_isObject (zp_br (fun _ => ⟨rfl, I⟩) (fun q => absurd q.1 w)))
  · obtain ⟨g, hg, rfl⟩ := id w
    have vg : vp_in (nI g) 4 := vp_in_nI hg (by decide)
    have cg : (nI g).toNatClampNeg = g := nI_clamp (by omega)
    refine ⟨vg, ?_⟩
    rw [cg]
    rcases zR_at hs hh hg with ⟨ey, ex⟩ | ⟨o, c, n, ol, ey, ex, o1, o2, p1, p2, c4, cu, eo, eh, ef, n16, fl, dp⟩
    · refine br_t ex (upY_go (y_isObject (zp_br (fun _ => ⟨rfl, I⟩) (fun q => ?_))))
      rw [cg, ey] at q
      exact absurd (by decide) q.2
    · rw [ex]
      have xn : ¬ nI (p o) = 0 := nI_ne0 (by omega) (by omega)
      have vr : vp_in (nI (p o)) 49 := vp_in_nI (by omega) (by decide)
      have cr : (nI (p o)).toNatClampNeg = p o := nI_clamp (by omega)
      have yo : zg_is (nI g) ∧ ¬ gY_globals v (nI g).toNatClampNeg ≤ 0 := by
        rw [cg, ey]; exact ⟨w, nI_nle (by omega) (by omega)⟩
      have cuY : gY_up v c ≠ -2 := by rw [← hs.1.1]; exact cu
      have cis : zc_is (gX_superOf u) (nI c) := ⟨c, c4, rfl, cu⟩
      -- Y's walk up to the kind
      have yw : ∀ (post : Int32 → SY → Prop), (¬ (∃ f, f < n ∧ v2 = nI f) → post 0 v) → (∀ f, f < n → v2 = nI f → (bt (gX_refFields u c) f = false → post 0 v) ∧ (bt (gX_refFields u c) f = true → post 1 (sY_globals (upd (gY_globals v) g (gY_fields v (16 * o + f))) v))) → wpY_go post v (nI g) v2 := by
        intro post h1 h2
        refine upY_go (y_isObject (zp_br (fun n1 => absurd yo n1) (fun _ => ⟨vg, nm_e ?_⟩)))
        rw [cg, ey]
        have vo : vp_in (nI o) 49 := vp_in_nI (by omega) (by decide)
        refine ⟨vo, ?_⟩
        rw [nI_clamp (n := o) (by omega), eo, nI_pred]
        refine y_total hcl.1 dp ?_
        rw [zc_atc c4, ef]
        have inn : ((0 : Int32) ≤ v2 ∧ v2 ≤ nI n - 1) ↔ ∃ f, f < n ∧ v2 = nI f := by
          by_cases n0 : n = 0
          · subst n0
            constructor
            · intro z
              have := Int32.le_trans z.1 z.2
              exact absurd this (by decide)
            · rintro ⟨f, hf, _⟩; omega
          · have en1 : nI n - 1 = nI (n - 1) := by rw [show (1 : Int32) = nI 1 from rfl, pk_sub (by omega)]
            rw [en1]
            constructor
            · intro z
              obtain ⟨i, hi, e⟩ := nI_of2 (n := n - 1) (nI_toInt (by omega)) (Int32.not_lt.mpr z.1) z.2
              exact ⟨i, by omega, e⟩
            · rintro ⟨i, hi, rfl⟩
              exact ⟨nI_pos' (by omega), nI_le (by omega) (by omega)⟩
        refine yt_in ?_
        rw [zp_c inn]
        refine zp_br (fun n1 => h1 n1) (fun q => ⟨vo, ?_⟩)
        obtain ⟨f, hf, rfl⟩ := q
        have h3 := h2 f hf rfl
        refine y_kindOf hcl.1 c4 cuY dp ef hf n16 ?_
        have e16 : (16 : Int32) * nI o + nI f = nI (16 * o + f) := by rw [show (16 : Int32) = nI 16 from rfl, pk_mul, nI_add]
        cases b : bt (gX_refFields u c) f
        · exact br_t rfl (h3.1 b)
        · refine br_f (by decide) ⟨by rw [e16]; exact vp_in_nI (by omega) (by decide), vg, nm_e ?_⟩
          rw [e16, nI_clamp (by omega)]
          exact h3.2 b
      refine br_f xn ⟨vg, nm_e ⟨vr, ?_⟩⟩
      rw [cr, eh]
      refine x_isField (zp_br (fun q => yw _ (fun _ => ⟨rfl, I⟩) (fun f hf e => absurd ⟨cis, by rw [e]; exact nI_pos (by omega), by rw [e, zc_atc c4, ef]; exact nI_lt hf (by omega)⟩ q)) (fun q => ⟨vr, ?_⟩))
      obtain ⟨f, hf, rfl⟩ := nI_of q.2.1
      have lt := q.2.2
      rw [zc_atc c4, ef] at lt
      have fn := (nI_ltI hf (by omega)).mp lt
      refine x_isRefField c4 (by omega) (zp_br (fun b => ?_) (fun b => ?_))
      · refine yw _ (fun n1 => absurd ⟨f, fn, rfl⟩ n1) (fun f' hf' e => ⟨fun _ => ⟨rfl, I⟩, fun b' => ?_⟩)
        have := (nI_eq (by omega) (by omega)).mp e
        subst this
        exact absurd b' b
      · have e1 : nI (p o) + 1 + nI f = nI (p o + 1 + f) := by rw [nI_1, nI_add]
        refine ⟨by rw [e1]; exact vp_in_nI (by omega) (by decide), vg, nm_e ?_⟩
        rw [e1, nI_clamp (by omega)]
        refine yw _ (fun n1 => absurd ⟨f, fn, rfl⟩ n1) (fun f' hf' e => ⟨fun b' => ?_, fun _ => ⟨rfl, ?_⟩⟩)
        · have := (nI_eq (by omega) (by omega)).mp e
          subst this
          rw [b] at b'; exact absurd b' (by decide)
        · have := (nI_eq (by omega) (by omega)).mp e
          subst this
          have r := (fl f fn).2 (by rw [if_pos b])
          refine ⟨H, R, K, p, l, hs, hb, hc, ?_, hn, ht⟩
          obtain ⟨z1, z2, z3, z8⟩ := hh
          refine ⟨z1, z2, z3, fun g2 hg2 => ?_⟩
          show zl_ref p l (upd (gY_globals v) g _ g2) (upd (gX_globals u) g _ g2)
          by_cases e : g2 = g
          · rw [e, pk_us, pk_us]; exact r
          · rw [pk_un e, pk_un e]; exact z8 g2 hg2
theorem i_vc_look {k : Nat} {u : SX} {v : SY} (I : i_Rel k u v) (hk : k + 5 ≤ 2560) (v1 : Int32) (v2 : Int32) : wpX_look (fun r => wpY_look (fun r' => r' = r ∧ i_Rel (k + 5) u v) v v1 v2) u v1 v2 := by
  obtain ⟨H, R, K, p, l, hs, hb, hc, hh, hn, ht⟩ := id I
  obtain ⟨hcl, hup, hfc⟩ := zR_cls hs
  refine upX_look (x_isGlobal (zp_br (fun w => ?_) (fun w => ?_)))
  · exact upY_look (y_isObject (zp_br (fun _ => ⟨rfl, I⟩) (fun q => absurd q.1 w)))
  · obtain ⟨g, hg, rfl⟩ := id w
    have vg : vp_in (nI g) 4 := vp_in_nI hg (by decide)
    have cg : (nI g).toNatClampNeg = g := nI_clamp (by omega)
    refine ⟨vg, ?_⟩
    rw [cg]
    rcases zR_at hs hh hg with ⟨ey, ex⟩ | ⟨o, c, n, ol, ey, ex, o1, o2, p1, p2, c4, cu, eo, eh, ef, n16, fl, dp⟩
    · refine br_t ex (upY_look (y_isObject (zp_br (fun _ => ⟨rfl, I⟩) (fun q => ?_))))
      rw [cg, ey] at q
      exact absurd (by decide) q.2
    · rw [ex]
      have xn : ¬ nI (p o) = 0 := nI_ne0 (by omega) (by omega)
      have vr : vp_in (nI (p o)) 49 := vp_in_nI (by omega) (by decide)
      have vo : vp_in (nI o) 49 := vp_in_nI (by omega) (by decide)
      have cr : (nI (p o)).toNatClampNeg = p o := nI_clamp (by omega)
      have co : (nI o).toNatClampNeg = o := nI_clamp (by omega)
      have vc : vp_in (nI c) 4 := vp_in_nI c4 (by decide)
      have cc : (nI c).toNatClampNeg = c := nI_clamp (by omega)
      have yo : zg_is (nI g) ∧ ¬ gY_globals v (nI g).toNatClampNeg ≤ 0 := by
        rw [cg, ey]; exact ⟨w, nI_nle (by omega) (by omega)⟩
      have cuY : gY_up v c ≠ -2 := by rw [← hs.1.1]; exact cu
      have inn : ((0 : Int32) ≤ v2 ∧ v2 ≤ nI n) ↔ ∃ f, f ≤ n ∧ v2 = nI f := by
        constructor
        · intro z
          exact nI_of2 (n := n) (nI_toInt (by omega)) (Int32.not_lt.mpr z.1) z.2
        · rintro ⟨i, hi, rfl⟩
          exact ⟨nI_pos' (by omega), nI_le (by omega) (by omega)⟩
      have yw : ∀ (post : Int64 → Prop), (¬ (∃ f, f ≤ n ∧ v2 = nI f) → post 10000000000) → (v2 = 0 → post (nI c).toInt64) → (∀ f, f < n → v2 = nI (f + 1) → (bt (gX_refFields u c) f = false → post (gY_fields v (16 * o + f)).toInt64) ∧ (bt (gX_refFields u c) f = true → vp_in (gY_fields v (16 * o + f)) 49 ∧ post (gY_of v (gY_fields v (16 * o + f)).toNatClampNeg - 1).toInt64)) → wpY_look post v (nI g) v2 := by
        intro post h1 h0 h2
        refine upY_look (y_isObject (zp_br (fun n1 => absurd yo n1) (fun _ => ⟨vg, nm_e ?_⟩)))
        rw [cg, ey]
        refine ⟨vo, nm_e ?_⟩
        rw [co, eo, nI_pred]
        refine y_total hcl.1 dp ?_
        rw [zc_atc c4, ef]
        refine yt_in ?_
        rw [zp_c inn]
        refine zp_br (fun n1 => h1 n1) (fun q => br_c (fun q0 => h0 q0) (fun q0 => ?_))
        obtain ⟨f, hf, rfl⟩ := q
        have f1 : 1 ≤ f := by
          by_cases z : f = 0
          · subst z; exact absurd rfl q0
          · omega
        obtain ⟨f, rfl⟩ : ∃ f', f = f' + 1 := ⟨f - 1, by omega⟩
        have h3 := h2 f (by omega) rfl
        have e16 : (16 : Int32) * nI o + nI (f + 1) - 1 = nI (16 * o + f) := by
          rw [show (16 : Int32) = nI 16 from rfl, pk_mul, nI_add, show 16 * o + (f + 1) = (16 * o + f) + 1 by omega, nI_pred]
        refine ⟨by rw [e16]; exact vp_in_nI (by omega) (by decide), nm_e ?_⟩
        rw [e16, nI_clamp (n := 16 * o + f) (by omega), nI_pred]
        refine y_kindOf hcl.1 c4 cuY dp ef (by omega) n16 ?_
        cases b : bt (gX_refFields u c) f
        · exact br_t rfl (h3.1 b)
        · exact br_f (by decide) (h3.2 b)
      have ne10 : ∀ f, f ≤ n → v2 = nI f → ¬ ¬ (∃ f, f ≤ n ∧ v2 = nI f) := fun f h1 h2 h3 => h3 ⟨f, h1, h2⟩
      refine br_f xn ⟨vg, nm_e (br_c (fun q => ⟨vr, ?_⟩) (fun q => br_c (fun q2 => ?_) (fun q2 => ⟨vr, ?_⟩)))⟩
      · rw [cr, eh]
        subst q
        exact yw _ (fun n1 => absurd ⟨0, by omega, rfl⟩ n1) (fun _ => ⟨rfl, I⟩) (fun f hf e => absurd e.symm (nI_ne0 (by omega) (by omega)))
      · refine yw _ (fun _ => ⟨rfl, I⟩) (fun e => absurd e q) (fun f hf e => ?_)
        rw [e] at q2; exact absurd q2 (nI_pos (by omega))
      · rw [cr, eh, cc, ef]
        refine ⟨vc, br_c (fun q3 => ?_) (fun q3 => ?_)⟩
        · obtain ⟨f, hf, rfl⟩ := nI_of2 (n := n) (nI_toInt (by omega)) q2 q3
          have f1 : 1 ≤ f := by
            by_cases z : f = 0
            · subst z; exact absurd rfl q
            · omega
          obtain ⟨f, rfl⟩ : ∃ f', f = f' + 1 := ⟨f - 1, by omega⟩
          have e1 : nI (p o) + nI (f + 1) = nI (p o + 1 + f) := by rw [nI_add]; exact congrArg nI (by omega)
          refine ⟨by rw [e1]; exact vp_in_nI (by omega) (by decide), nm_e ⟨vr, ?_⟩⟩
          rw [e1, nI_clamp (n := p o + 1 + f) (by omega), nI_pred]
          have fv := fl f (by omega)
          refine x_isRefField c4 (by omega) (zp_br (fun b => ?_) (fun b => ?_))
          · refine yw _ (fun n1 => absurd ⟨f + 1, hf, rfl⟩ n1) (fun e => absurd e q) (fun f' hf' e => ?_)
            have := (nI_eq (by omega) (by omega)).mp e
            have : f = f' := by omega
            subst this
            refine ⟨fun _ => ⟨?_, I⟩, fun b' => absurd b' b⟩
            rw [fv.1 (by rw [if_neg b])]
          · have r := fv.2 (by rw [if_pos b])
            refine x_classOf hh r ?_
            refine yw _ (fun n1 => absurd ⟨f + 1, hf, rfl⟩ n1) (fun e => absurd e q) (fun f' hf' e => ?_)
            have := (nI_eq (by omega) (by omega)).mp e
            have : f = f' := by omega
            subst this
            refine ⟨fun b' => by rw [b] at b'; exact absurd b' (by decide), fun _ => ⟨?_, rfl, I⟩⟩
            rcases zl_refc hh r with ⟨e0, _⟩ | ⟨o', _, _, _, e0, _, k1, k2, _⟩
            · rw [e0]; exact vp_in_iff.mpr (by decide)
            · rw [e0]; exact vp_in_nI (by omega) (by decide)
        · refine yw _ (fun _ => ⟨rfl, I⟩) (fun e => absurd e q) (fun f hf e => ?_)
          rw [e] at q3
          exact absurd (nI_le (by omega) (by omega)) q3
/-! count -/
theorem i_vc_count {k : Nat} {u : SX} {v : SY} (I : i_Rel k u v) (hk : k + 5 ≤ 2560) (v1 : Int32) : wpX_count (fun r => wpY_count (fun r' => r' = r ∧ i_Rel (k + 5) u v) v v1) u v1 := by
  obtain ⟨H, R, K, p, l, hs, hb, hc, hh, hn, ht⟩ := id I
  obtain ⟨n1, n2, n3, n4, n5, n6, n7, n8, n9⟩ := hn
  have us : gX_heapEnd u - 1 = gY_used v := by
    obtain ⟨_, _, ⟨e, h1, h2, h3, h4, _⟩, _⟩ := hh
    rw [h3, h4, show (1 : Int32) = nI 1 from rfl, pk_sub h1]
  have rs : ∀ d i acc, i + d = 4 → kX_readySum_4 (fun r => ∃ n, kY_count_78 (fun r' => r' = r ∧ i_Rel (k + 5) u v) n acc (nI i) v) (d + 1) acc (nI i) u := by
    intro d
    induction d with
    | zero =>
      intro i acc hi
      have : i = 4 := by omega
      subst this
      exact uX_readySum_4 (br_t (by decide) ⟨1, uY_count_78 (br_t (by decide) ⟨rfl, I⟩)⟩)
    | succ d ih =>
      intro i acc hi
      have vi : vp_in (nI i) 4 := vp_in_nI (by omega) (by decide)
      have g4 : ¬ (4 : Int32) ≤ nI i := nI_ge (b := 4) (by omega) (by decide)
      have ci : (nI i).toNatClampNeg = i := nI_clamp (by omega)
      -- X's sum does not look at the post
      have mono : ∀ (d : Nat) (P Q : Int32 → Prop), (∀ r, P r → Q r) → ∀ a j, kX_readySum_4 P d a j u → kX_readySum_4 Q d a j u := by
        intro d
        induction d with
        | zero => intro P Q _ a j h; exact h
        | succ d ih2 =>
          intro P Q hPQ a j h
          refine uX_readySum_4 ⟨fun w => hPQ _ (h.1 w), fun w => ⟨(h.2 w).1, fun w2 => ?_, fun w2 => ?_⟩⟩
          · exact fun y ey => ih2 P Q hPQ _ _ ((h.2 w).2.1 w2 y ey)
          · exact fun y ey z ez => ih2 P Q hPQ _ _ ((h.2 w).2.2 w2 y ey z ez)
      refine uX_readySum_4 (br_f g4 ⟨vi, ?_⟩)
      rw [ci, n1]
      refine br_c (fun w => nm_r (nI_1 i) ?_) (fun w => nm_e (nm_r (nI_1 i) ?_))
      · refine mono _ _ _ (fun r q => ?_) _ _ (ih (i + 1) acc (by omega))
        obtain ⟨n, q⟩ := q
        refine ⟨n + 1, uY_count_78 (br_f g4 ⟨vi, ?_⟩)⟩
        rw [ci]
        exact br_t w (nm_r (nI_1 i) q)
      · refine mono _ _ _ (fun r q => ?_) _ _ (ih (i + 1) (acc ||| ((1 : Int32) <<< (nI i &&& 31))) (by omega))
        obtain ⟨n, q⟩ := q
        refine ⟨n + 1, uY_count_78 (br_f g4 ⟨vi, ?_⟩)⟩
        rw [ci]
        exact br_f w (nm_e (nm_r (nI_1 i) q))
  refine upX_count (br_c (fun w => upY_count (br_t w ⟨rfl, I⟩)) (fun w => br_c (fun w2 => upY_count (br_f w (br_t w2 ⟨rfl, I⟩))) (fun w2 => ?_)))
  refine br_c (fun q0 => upY_count (br_f w (br_f w2 (br_t q0 ⟨ht.2.2.2.symm, I⟩)))) (fun q0 => ?_)
  refine br_c (fun q1 => upY_count (br_f w (br_f w2 (br_f q0 (br_t q1 ⟨n5.symm, I⟩))))) (fun q1 => ?_)
  refine br_c (fun q2 => upY_count (br_f w (br_f w2 (br_f q0 (br_f q1 (br_t q2 ⟨n6.symm, I⟩)))))) (fun q2 => ?_)
  refine br_c (fun q3 => upY_count (br_f w (br_f w2 (br_f q0 (br_f q1 (br_f q2 (br_t q3 ⟨us.symm, I⟩))))))) (fun q3 => ?_)
  refine br_c (fun q4 => upY_count (br_f w (br_f w2 (br_f q0 (br_f q1 (br_f q2 (br_f q3 (br_t q4 ⟨n7.symm, I⟩)))))))) (fun q4 => ?_)
  refine br_c (fun q5 => upY_count (br_f w (br_f w2 (br_f q0 (br_f q1 (br_f q2 (br_f q3 (br_f q4 (br_t q5 ⟨n8.symm, I⟩))))))))) (fun q5 => ?_)
  refine br_c (fun q6 => ?_) (fun _ => trivial)
  refine upX_readySum ⟨5, ?_⟩
  have mono : ∀ (d : Nat) (P Q : Int32 → Prop), (∀ r, P r → Q r) → ∀ a j, kX_readySum_4 P d a j u → kX_readySum_4 Q d a j u := by
    intro d
    induction d with
    | zero => intro P Q _ a j h; exact h
    | succ d ih2 =>
      intro P Q hPQ a j h
      refine uX_readySum_4 ⟨fun w => hPQ _ (h.1 w), fun w => ⟨(h.2 w).1, fun w2 => ?_, fun w2 => ?_⟩⟩
      · exact fun y ey => ih2 P Q hPQ _ _ ((h.2 w).2.1 w2 y ey)
      · exact fun y ey z ez => ih2 P Q hPQ _ _ ((h.2 w).2.2 w2 y ey z ez)
  exact mono 5 _ _ (fun r q => upY_count (br_f w (br_f w2 (br_f q0 (br_f q1 (br_f q2 (br_f q3 (br_f q4 (br_f q5 (br_t q6 q)))))))))) 0 0 (rs 4 0 0 rfl)
