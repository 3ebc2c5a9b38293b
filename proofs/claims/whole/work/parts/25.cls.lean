/-! a new class -/
theorem zc_hi4 {up ints refs fc rf : Nat → Int32} (hr : ∀ c, c < 4 → up c ≠ -2 → zc_row up ints refs fc rf c) : ∀ d k, d ≤ 4 → zc_dp up d k → ∃ f, f ≤ 4 * d ∧ zc_at fc k = nI f := by
  intro d
  induction d with
  | zero =>
    intro k d4 hd
    have hd : k = -1 := hd
    subst hd
    exact ⟨0, by omega, zc_am1⟩
  | succ d ih =>
    intro k d4 hd
    rcases hd with rfl | ⟨c, hc, rfl, h2, h3⟩
    · exact ⟨0, by omega, zc_am1⟩
    · obtain ⟨f, hf, e⟩ := ih _ (by omega) h3
      obtain ⟨ab, i, r, hi, hr', hab, ei, er, ea, ef, eb⟩ := hr c hc h2
      rw [ea] at e
      have := (nI_eq (by omega) (by omega)).mp e
      subst this
      exact ⟨ab + i + r, by omega, by rw [zc_atc hc, ef]⟩
theorem zc_dpu {up : Nat → Int32} {c0 : Nat} {x : Int32} (h0 : up c0 = -2) : ∀ n k, zc_dp up n k → zc_dp (upd up c0 x) n k := by
  intro n
  induction n with
  | zero => intro k h; exact h
  | succ n ih =>
    intro k h
    rcases h with h | ⟨c, hc, e, h2, h3⟩
    · exact Or.inl h
    · have ne : c ≠ c0 := fun w => h2 (by rw [w]; exact h0)
      refine Or.inr ⟨c, hc, e, by rw [pk_un ne]; exact h2, ?_⟩
      rw [pk_un ne]; exact ih _ h3
theorem zc_cnu {up : Nat → Int32} {c0 : Nat} {x : Int32} (hc : c0 < 4) (h0 : up c0 = -2) (hx : x ≠ -2) : zc_cn (upd up c0 x) = zc_cn up + 1 := by
  unfold zc_cn
  have : c0 = 0 ∨ c0 = 1 ∨ c0 = 2 ∨ c0 = 3 := by omega
  rcases this with rfl | rfl | rfl | rfl
  · rw [pk_us, pk_un (by decide), pk_un (by decide), pk_un (by decide), h0, if_neg hx, if_pos rfl]; try omega
  · rw [pk_us, pk_un (by decide), pk_un (by decide), pk_un (by decide), h0, if_neg hx, if_pos rfl]; try omega
  · rw [pk_us, pk_un (by decide), pk_un (by decide), pk_un (by decide), h0, if_neg hx, if_pos rfl]; try omega
  · rw [pk_us, pk_un (by decide), pk_un (by decide), pk_un (by decide), h0, if_neg hx, if_pos rfl]; try omega
theorem zc_isu {up : Nat → Int32} {c0 : Nat} {x p : Int32} (h0 : up c0 = -2) (h : zc_is up p) : zc_is (upd up c0 x) p := by
  obtain ⟨c, hc, e, h2⟩ := h
  exact ⟨c, hc, e, by rw [pk_un (fun w => h2 (by rw [w]; exact h0))]; exact h2⟩
theorem zc_atu {up f : Nat → Int32} {c0 : Nat} {y p : Int32} (h0 : up c0 = -2) (h : p = -1 ∨ zc_is up p) : zc_at (upd f c0 y) p = zc_at f p := by
  rcases h with rfl | ⟨c, hc, rfl, h2⟩
  · rw [zc_am1, zc_am1]
  · rw [zc_atc hc, zc_atc hc, pk_un (fun w => h2 (by rw [w]; exact h0))]
theorem zc_add {up ints refs fc rf : Nat → Int32} (h : zc_OK up ints refs fc rf) {c0 : Nat} (hc : c0 < 4) (h0 : up c0 = -2) {x : Int32} (hx : x = -1 ∨ zc_is up x) {i r : Nat} (hi : i ≤ 2) (hr : r ≤ 2) :
  zc_OK (upd up c0 x) (upd ints c0 (nI i)) (upd refs c0 (nI r)) (upd fc c0 (zc_at fc x + nI i + nI r)) (upd rf c0 (zc_at rf x ||| ((((1 : Int32) <<< (nI r &&& 31)) - 1) <<< ((zc_at fc x + nI i) &&& 31)))) := by
  have x2 : x ≠ -2 := by
    rcases hx with rfl | ⟨c, hc, rfl, _⟩
    · decide
    · exact zn_m2 _ (by omega)
  have cn := zc_cnu hc h0 x2
  have cn4 := zc_cn4 (upd up c0 x)
  have dx : zc_dp up (zc_cn up) x := by
    rcases hx with rfl | ⟨c, hc, rfl, h2⟩
    · cases zc_cn up with
      | zero => rfl
      | succ n => exact Or.inl rfl
    · exact h.1 c hc h2
  refine ⟨fun c hc2 h2 => ?_, fun c hc2 h2 => ?_⟩
  · rw [cn]
    by_cases e : c = c0
    · subst e
      exact Or.inr ⟨c, hc, rfl, h2, by rw [pk_us]; exact zc_dpu h0 _ _ dx⟩
    · rw [pk_un e] at h2
      exact zc_mono _ _ (zc_dpu h0 _ _ (h.1 c hc2 h2))
  · by_cases e : c = c0
    · subst e
      obtain ⟨ab, hab, ea⟩ := zc_hi4 h.2 _ _ (by omega) dx
      refine ⟨ab, i, r, hi, hr, by omega, pk_us, pk_us, ?_, ?_, fun j hj => ?_⟩
      · rw [pk_us, zc_atu h0 hx]; exact ea
      · rw [pk_us, ea, nI_add, nI_add]
      · rw [pk_us, pk_us, zc_atu h0 hx, ea, nI_add, b_or, b_shl (ab + i) (by omega) _ hj, zk_low r (by omega) _ (by omega)]
        congr 1
        by_cases w : ab + i ≤ j
        · by_cases w2 : j < ab + i + r
          · have : j - (ab + i) < r := by omega
            simp [w, w2, this]
          · have : ¬ j - (ab + i) < r := by omega
            simp [w, w2, this]
        · simp [w]
    · rw [pk_un e] at h2
      obtain ⟨ab, i', r', h1, h2', h3, e1, e2, e3, e4, e5⟩ := h.2 c hc2 h2
      have ux := (zc_up h hc2).elim (fun w => absurd w h2) id
      refine ⟨ab, i', r', h1, h2', h3, by rw [pk_un e]; exact e1, by rw [pk_un e]; exact e2, ?_, by rw [pk_un e]; exact e4, ?_⟩
      · rw [pk_un e, zc_atu h0 ux]; exact e3
      · rw [pk_un e, pk_un e, zc_atu h0 ux]; exact e5
theorem zk_pku {rf : Nat → Int32} {c0 o : Nat} {a y : Int32} (h : o = 13 → a.toNatClampNeg / 16 ≠ c0) : zk_pk (upd rf c0 y) o a = zk_pk rf o a := by
  unfold zk_pk
  by_cases e : o = 13
  · rw [if_pos e, if_pos e, pk_un (h e)]
  · rw [if_neg e, if_neg e]
theorem zy_ndu {rf : Nat → Int32} {c0 m o k : Nat} {a y : Int32} (h : o = 14 → a.toNatClampNeg / 16 ≠ c0) : zy_nd (upd rf c0 y) m o a k = zy_nd rf m o a k := by
  unfold zy_nd
  by_cases e : o = 14
  · rw [if_pos e, if_pos e, pk_un (h e)]
  · rw [if_neg e, if_neg e]
/-- bodies don't mind a new class -/
theorem zw_cls {up fc rf O A L F T G RM BH FW : Nat → Int32} {H : Nat → Nat} {R : Nat → Prop} {K : Nat → Nat → Nat} {m c0 : Nat} {x y z : Int32} (h0 : up c0 = -2) (h : zw_OK up fc rf O A L F T G RM BH FW H R K m) : zw_OK (upd up c0 x) (upd fc c0 y) (upd rf c0 z) O A L F T G RM BH FW H R K m := by
  obtain ⟨n, q1, q2, q3, q4, q5, q6, q7, q8, q9, at_⟩ := h
  refine ⟨n, q1, q2, q3, q4, q5, q6, q7, q8, q9, fun i hi r => ?_⟩
  obtain ⟨a1, a2, a3, a4, a5, a6, a7, a8, a9, a10, a11, a12, a13⟩ := at_ i hi r
  have fd : ∀ a, zy_fd up fc a → a.toNatClampNeg / 16 ≠ c0 := by
    rintro a ⟨j, hj, rfl, h2, _⟩
    rw [nI_clamp (by omega)]
    exact fun w => h2 (by rw [w]; exact h0)
  have eb : ∀ (K : Nat → Nat) b e, zw_bh (upd rf c0 z) (zw_op O (24 * m + i)) (A (24 * m + i)) K b e = zw_bh rf (zw_op O (24 * m + i)) (A (24 * m + i)) K b e := by
    intro K b e
    unfold zw_bh
    rw [zk_pku (fun w => fd _ (a13 (Or.inl w)))]
  refine ⟨a1, a2, a3, a4, a5, a6, ?_, a8, fun w => ?_, fun w => ?_, a11, fun w => zc_isu h0 (a12 w), fun w => ?_⟩
  · intro j hj
    rw [zy_ndu (fun w => fd _ (a13 (Or.inr w)))]
    exact a7 j hj
  · obtain ⟨b1, b2, b3, b4⟩ := a9 w
    refine ⟨b1, b2, b3, fun e he q => ?_⟩
    rw [eb]; exact b4 e he q
  · obtain ⟨b1, b2, b3, b4⟩ := a10 w
    refine ⟨b1, b2, b3, fun e he q => ?_⟩
    rw [eb]; exact b4 e he q
  · have ne := fd _ (a13 w)
    obtain ⟨j, hj, e, h2, k, ek, h3, h4⟩ := a13 w
    rw [e, nI_clamp (by omega)] at ne
    exact ⟨j, hj, e, by rw [pk_un ne]; exact h2, k, by rw [pk_un ne]; exact ek, h3, h4⟩
/-- nor do objects -/
theorem zl_layu {up fc rf of fl hp : Nat → Int32} {p : Nat → Nat} {l : List Nat} {c0 : Nat} {x y z : Int32} (h0 : up c0 = -2) : ∀ t q e, zl_lay up fc rf of fl hp p l t q e → zl_lay (upd up c0 x) (upd fc c0 y) (upd rf c0 z) of fl hp p l t q e := by
  intro t
  induction t with
  | nil => intro q e h; exact h
  | cons o t ih =>
    rintro q e ⟨⟨c, n, h1, h2, h3, h4, h5, h6, h7, h8⟩, ht⟩
    have ne : c ≠ c0 := fun w => h2 (by rw [w]; exact h0)
    have sz : zl_sz (upd fc c0 y) of o = zl_sz fc of o := by
      unfold zl_sz
      rw [h3, nI_clamp (by omega), show c + 1 - 1 = c by omega, pk_un ne]
    refine ⟨⟨c, n, h1, by rw [pk_un ne]; exact h2, h3, h4, by rw [pk_un ne]; exact h5, h6, h7, by rw [pk_un ne]; exact h8⟩, ?_⟩
    rw [sz]; exact ih _ _ ht
def zq_cls (up : Nat → Int32) (v1 v2 v3 v4 : Int32) : Prop := (∃ c, c < 4 ∧ v1 = nI c ∧ up c = -2) ∧ (v2 = -1 ∨ zc_is up v2) ∧ (∃ i, i ≤ 2 ∧ v3 = nI i) ∧ (∃ r, r ≤ 2 ∧ v4 = nI r)
theorem zq_02 (x : Int32) : ((0 : Int32) ≤ x ∧ x ≤ 2) ↔ ∃ i, i ≤ 2 ∧ x = nI i := by
  constructor
  · intro z
    exact nI_of2 (n := 2) (M := 2) (by decide) (Int32.not_lt.mpr z.1) z.2
  · rintro ⟨i, hi, rfl⟩
    exact ⟨nI_pos' (by omega), nI_le (b := 2) hi (by decide)⟩
theorem x_cls {post : Int32 → SX → Prop} {u : SX} {v1 v2 v3 v4 : Int32} (pf : ¬ zq_cls (gX_superOf u) v1 v2 v3 v4 → post 0 u)
  (pt : ∀ c i r, c < 4 → i ≤ 2 → r ≤ 2 → v1 = nI c → gX_superOf u c = -2 → (v2 = -1 ∨ zc_is (gX_superOf u) v2) → v3 = nI i → v4 = nI r → post 1 (sX_superOf_fieldCount_refFields (upd (gX_superOf u) c v2) (upd (gX_fieldCount u) c (zc_at (gX_fieldCount u) v2 + nI i + nI r)) (upd (gX_refFields u) c (zc_at (gX_refFields u) v2 ||| ((((1 : Int32) <<< (nI r &&& 31)) - 1) <<< ((zc_at (gX_fieldCount u) v2 + nI i) &&& 31)))) u)) : wpX_cls post u v1 v2 v3 v4 := by
  rcases pk_ix v1 (n := 4) (by decide) with z | z | ⟨c, hc, rfl⟩
  · refine upX_cls (br_t z (pf ?_))
    rintro ⟨⟨c, hc, rfl, _⟩, _⟩
    exact nI_pos (by omega) z
  · have z0 : ¬ v1 < 0 := fun w => by
      have := Int32.lt_of_le_of_lt z w
      exact nI_pos (n := 4) (by decide) this
    refine upX_cls (br_f z0 (br_t z (pf ?_)))
    rintro ⟨⟨c, hc, rfl, _⟩, _⟩
    exact nI_ge hc (by decide) z
  · refine upX_cls (br_f (nI_pos (by omega)) (br_f (nI_ge (b := 4) hc (by decide)) (x_isClass (zp_br (fun w => ?_) (fun w => pf ?_)))))
    · have h0 : gX_superOf u c = -2 := by
        by_cases q : gX_superOf u c = -2
        · exact q
        · exact absurd ⟨c, hc, rfl, q⟩ w
      have go : (v2 = -1 ∨ zc_is (gX_superOf u) v2) → kX_cls_34 post (nI c) v2 v3 v4 u := by
        intro hx
        have k88 : ∀ i r, i ≤ 2 → r ≤ 2 → v3 = nI i → v4 = nI r → kX_cls_88 post (nI c) v2 v3 v4 (zc_at (gX_fieldCount u) v2) (zc_at (gX_refFields u) v2) u := by
          intro i r hi hr e3 e4
          have v : vp_in (nI c) 4 := vp_in_nI hc (by decide)
          refine uX_cls_88 ⟨v, nm_e ⟨v, nm_e ⟨v, nm_e ?_⟩⟩⟩
          rw [nI_clamp (by omega), e3, e4]
          exact pt c i r hc hi hr rfl h0 hx e3 e4
        have k71 : ∀ i r, i ≤ 2 → r ≤ 2 → v3 = nI i → v4 = nI r → kX_cls_71 post (nI c) v2 v3 v4 (zc_at (gX_fieldCount u) v2) u := by
          intro i r hi hr e3 e4
          have q := k88 i r hi hr e3 e4
          refine uX_cls_71 (br_c (fun w => ?_) (fun w => ?_))
          · rw [show zc_at (gX_refFields u) v2 = 0 by rw [w]; exact zc_am1] at q
            exact q
          · rcases hx with hx | ⟨d, hd, rfl, _⟩
            · exact absurd hx w
            · rw [zc_atc (f := gX_refFields u) hd] at q
              refine ⟨vp_in_nI hd (by decide), ?_⟩
              rw [nI_clamp (by omega)]; exact q
        have all : (∃ i, i ≤ 2 ∧ v3 = nI i) → (∃ r, r ≤ 2 ∧ v4 = nI r) → ((v2 = -1 → kX_cls_71 post (nI c) v2 v3 v4 0 u) ∧ (¬ v2 = -1 → (vp_in v2 4 ∧ kX_cls_71 post (nI c) v2 v3 v4 (gX_fieldCount u v2.toNatClampNeg) u))) := by
          rintro ⟨i, hi, e3⟩ ⟨r, hr, e4⟩
          have q := k71 i r hi hr e3 e4
          refine br_c (fun w => ?_) (fun w => ?_)
          · rw [show zc_at (gX_fieldCount u) v2 = 0 by rw [w]; exact zc_am1] at q
            exact q
          · rcases hx with hx | ⟨d, hd, rfl, _⟩
            · exact absurd hx w
            · rw [zc_atc (f := gX_fieldCount u) hd] at q
              refine ⟨vp_in_nI hd (by decide), ?_⟩
              rw [nI_clamp (by omega)]; exact q
        refine uX_cls_34 (br_c (fun w3 => pf (fun k => ?_)) (fun w3 => br_c (fun w4 => pf (fun k => ?_)) (fun w4 => br_c (fun w5 => pf (fun k => ?_)) (fun w5 => br_c (fun w6 => ?_) (fun w6 => pf (fun k => ?_))))))
        · exact absurd w3 (Int32.not_lt.mpr ((zq_02 v3).mpr k.2.2.1).1)
        · exact absurd w4 (Int32.not_lt.mpr ((zq_02 v3).mpr k.2.2.1).2)
        · exact absurd w5 (Int32.not_lt.mpr ((zq_02 v4).mpr k.2.2.2).1)
        · exact all ((zq_02 v3).mp ⟨Int32.not_lt.mp w3, Int32.not_lt.mp w4⟩) ((zq_02 v4).mp ⟨Int32.not_lt.mp w5, w6⟩)
        · exact w6 ((zq_02 v4).mpr k.2.2.2).2
      refine br_c (fun w2 => go (Or.inl w2)) (fun w2 => x_isClass (zp_br (fun w3 => pf (fun k => ?_)) (fun w3 => go (Or.inr w3))))
      rcases k.2.1 with q | q
      · exact w2 q
      · exact w3 q
    · rintro ⟨⟨c', hc', e, h⟩, _⟩
      have := (nI_eq (by omega) (by omega)).mp e
      subst this
      obtain ⟨d, hd, e2, h2⟩ := w
      have := (nI_eq (by omega) (by omega)).mp e2
      subst this
      exact h2 h
theorem y_cls {post : Int32 → SY → Prop} {v : SY} {v1 v2 v3 v4 : Int32} (hup : ∀ c, c < 4 → gY_up v c = -2 ∨ gY_up v c = -1 ∨ zc_is (gY_up v) (gY_up v c)) (pf : ¬ zq_cls (gY_up v) v1 v2 v3 v4 → post 0 v)
  (pt : ∀ c i r, c < 4 → i ≤ 2 → r ≤ 2 → v1 = nI c → gY_up v c = -2 → (v2 = -1 ∨ zc_is (gY_up v) v2) → v3 = nI i → v4 = nI r → post 1 (sY_up_ints_references (upd (gY_up v) c v2) (upd (gY_ints v) c (nI i)) (upd (gY_references v) c (nI r)) v)) : wpY_cls post v v1 v2 v3 v4 := by
  refine upY_cls (y_inG (zp_br (fun z => pf (fun k => ?_)) (fun z => ?_)))
  · obtain ⟨⟨c, hc, e, _⟩, _⟩ := k
    exact z ⟨c, hc, e⟩
  · obtain ⟨c, hc, rfl⟩ := z
    refine y_isClass hup (zp_br (fun w => ?_) (fun w => pf (fun k => ?_)))
    · have h0 : gY_up v c = -2 := by
        by_cases q : gY_up v c = -2
        · exact q
        · exact absurd ⟨c, hc, rfl, q⟩ w
      have go : (v2 = -1 ∨ zc_is (gY_up v) v2) → kY_cls_30 post (nI c) v2 v3 v4 v := by
        intro hx
        refine uY_cls_30 (yt_in ?_)
        rw [zp_c (zq_02 v3)]
        refine zp_br (fun w3 => pf (fun k => w3 k.2.2.1)) (fun w3 => yt_in ?_)
        rw [zp_c (zq_02 v4)]
        refine zp_br (fun w4 => pf (fun k => w4 k.2.2.2)) (fun w4 => ?_)
        obtain ⟨i, hi, e3⟩ := w3
        obtain ⟨r, hr, e4⟩ := w4
        have vv : vp_in (nI c) 4 := vp_in_nI hc (by decide)
        refine ⟨vv, nm_e ⟨vv, nm_e ⟨vv, nm_e ?_⟩⟩⟩
        rw [nI_clamp (by omega), e3, e4]
        exact pt c i r hc hi hr rfl h0 hx e3 e4
      refine br_c (fun w2 => go (Or.inl w2)) (fun w2 => y_isClass hup (zp_br (fun w3 => pf (fun k => ?_)) (fun w3 => go (Or.inr w3))))
      rcases k.2.1 with q | q
      · exact w2 q
      · exact w3 q
    · obtain ⟨⟨c', hc', e, h⟩, _⟩ := k
      have := (nI_eq (by omega) (by omega)).mp e
      subst this
      obtain ⟨d, hd, e2, h2⟩ := w
      have := (nI_eq (by omega) (by omega)).mp e2
      subst this
      exact h2 h
theorem i_vc_cls {k : Nat} {u : SX} {v : SY} (I : i_Rel k u v) (hk : k + 5 ≤ 2560) (v1 : Int32) (v2 : Int32) (v3 : Int32) (v4 : Int32) : wpX_cls (fun r u' => wpY_cls (fun r' v' => r' = r ∧ i_Rel (k + 5) u' v') v v1 v2 v3 v4) u v1 v2 v3 v4 := by
  obtain ⟨H, R, K, p, l, hs, hb, hc, hh, hn, ht⟩ := id I
  obtain ⟨hcl, hup, hfc⟩ := zR_cls hs
  obtain ⟨⟨e1, e2, e3, e4, e5, e6, e7, e8, e9, e10⟩, ok, own, ini, rows, go⟩ := id hs
  refine x_cls (fun n1 => ?_) (fun c i r h1 h2 h3 q1 q2 q3 q4 q5 => ?_)
  · refine y_cls hup (fun _ => ⟨rfl, I⟩) (fun c i r h1 h2 h3 q1 q2 q3 q4 q5 => ?_)
    rw [← e1] at q2 q3
    exact absurd ⟨⟨c, h1, q1, q2⟩, q3, ⟨i, h2, q4⟩, ⟨r, h3, q5⟩⟩ n1
  · refine y_cls hup (fun n1 => ?_) (fun c' i' r' h1' h2' h3' q1' q2' q3' q4' q5' => ⟨rfl, ?_⟩)
    · rw [← e1] at n1
      exact absurd ⟨⟨c, h1, q1, q2⟩, q3, ⟨i, h2, q4⟩, ⟨r, h3, q5⟩⟩ n1
    · have := (nI_eq (by omega) (by omega)).mp (q1.symm.trans q1')
      subst this
      have := (nI_eq (by omega) (by omega)).mp (q4.symm.trans q4')
      subst this
      have := (nI_eq (by omega) (by omega)).mp (q5.symm.trans q5')
      subst this
      refine ⟨H, R, K, p, l, ⟨⟨?_, e2, e3, e4, e5, e6, e7, e8, e9, e10⟩, zc_add ok h1 q2 q3 h2 h3, own, ini, rows, go⟩, fun m hm hl => zw_cls q2 (hb m hm hl), hc, ?_, hn, ht⟩
      · show upd (gX_superOf u) c v2 = upd (gY_up v) c v2
        rw [e1]
      · obtain ⟨z1, z2, ⟨e, z3, z4, z5, z6, z7⟩, z8⟩ := hh
        exact ⟨z1, z2, ⟨e, z3, z4, z5, z6, zl_layu q2 _ _ _ z7⟩, z8⟩
