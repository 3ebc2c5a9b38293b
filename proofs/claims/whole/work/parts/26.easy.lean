/-! the smaller methods -/
theorem i_vc_place {k : Nat} {u : SX} {v : SY} (I : i_Rel k u v) (hk : k + 5 ≤ 2560) : wpX_place (fun r => wpY_place (fun r' => r' = r ∧ i_Rel (k + 5) u v) v) u := by
  obtain ⟨H, R, K, p, l, hs, hb, hc, hh, hn, ht⟩ := id I
  exact upX_place (upY_place ⟨ht.2.1.symm, I⟩)
theorem i_vc_result {k : Nat} {u : SX} {v : SY} (I : i_Rel k u v) (hk : k + 5 ≤ 2560) : wpX_result (fun r => wpY_result (fun r' => r' = r ∧ i_Rel (k + 5) u v) v) u := by
  obtain ⟨H, R, K, p, l, hs, hb, hc, hh, hn, ht⟩ := id I
  exact upX_result (upY_result ⟨hn.2.2.2.2.2.2.2.2.symm, I⟩)
theorem i_vc_origin {k : Nat} {u : SX} {v : SY} (I : i_Rel k u v) (hk : k + 5 ≤ 2560) : wpX_origin (fun r => wpY_origin (fun r' => r' = r ∧ i_Rel (k + 5) u v) v) u := by
  obtain ⟨H, R, K, p, l, hs, hb, hc, hh, hn, ht⟩ := id I
  exact upX_origin (upY_origin ⟨ht.2.2.1.symm, I⟩)
/-! slot, initialiser -/
def zq_slot (up : Nat → Int32) (v1 v2 v3 : Int32) : Prop := zc_is up v1 ∧ ∃ s, s < 4 ∧ v2 = nI s ∧ (v3 = -1 ∨ ∃ m, v3 = nI m ∧ ((s < 2 ∧ (m = 2 ∨ m = 3)) ∨ (2 ≤ s ∧ (m = 4 ∨ m = 5))))
theorem x_slot {post : Int32 → SX → Prop} {u : SX} {v1 v2 v3 : Int32} (pf : ¬ zq_slot (gX_superOf u) v1 v2 v3 → post 0 u)
  (pt : ∀ c s, c < 4 → s < 4 → v1 = nI c → v2 = nI s → zq_slot (gX_superOf u) v1 v2 v3 → post 1 (sX_ownMethods (upd (gX_ownMethods u) (4 * c + s) v3) u)) : wpX_slot post u v1 v2 v3 := by
  refine upX_slot (x_isClass (zp_br (fun w => pf (fun k => w k.1)) (fun w => ?_)))
  obtain ⟨c, hc, rfl, h2⟩ := id w
  rcases pk_ix v2 (n := 4) (by decide) with z | z | ⟨s, hs, rfl⟩
  · refine br_t z (pf ?_)
    rintro ⟨_, s, hs, rfl, _⟩
    exact nI_pos (by omega) z
  · have z0 : ¬ v2 < 0 := fun w => by
      have := Int32.lt_of_le_of_lt z w
      exact nI_pos (n := 4) (by decide) this
    refine br_f z0 (br_f (Int32.not_lt.mpr z) (pf ?_))
    rintro ⟨_, s, hs, rfl, _⟩
    exact nI_ge hs (by decide) z
  · have e : nI c * 4 + nI s = nI (4 * c + s) := by rw [show (4 : Int32) = nI 4 from rfl, pk_mul, nI_add, Nat.mul_comm]
    have ok : zq_slot (gX_superOf u) (nI c) (nI s) v3 → kX_slot_52 post (nI c) (nI s) v3 u := by
      intro q
      refine uX_slot_52 ⟨by rw [e]; exact vp_in_nI (by omega) (by decide), nm_e ?_⟩
      rw [e, nI_clamp (by omega)]
      exact pt c s hc hs rfl rfl q
    have k29 : ∀ b, (s < 2 ∧ b = 2) ∨ (2 ≤ s ∧ b = 4) → kX_slot_29 post (nI c) (nI s) v3 (nI b) u := by
      intro b hb
      refine uX_slot_29 (br_c (fun q => ok ⟨w, s, hs, rfl, Or.inl q⟩) (fun q => br_c (fun q2 => ok ⟨w, s, hs, rfl, Or.inr ⟨b, q2, by omega⟩⟩) (fun q2 => br_c (fun q3 => ok ⟨w, s, hs, rfl, Or.inr ⟨b + 1, by rw [← nI_1]; exact q3, by omega⟩⟩) (fun q3 => pf ?_))))
      rintro ⟨_, s', hs', e', k⟩
      have := (nI_eq (by omega) (by omega)).mp e'
      subst this
      rcases k with k | ⟨m, em, k⟩
      · exact q k
      · have : m = b ∨ m = b + 1 := by omega
        rcases this with rfl | rfl
        · exact q2 em
        · exact q3 (by rw [em, nI_1])
    refine br_f (nI_pos (by omega)) (br_t (nI_lt (b := 4) hs (by decide)) (br_i (nI_leI (a := 2) (by decide) (by omega)) (fun q => k29 4 (Or.inr ⟨q, rfl⟩)) (fun q => k29 2 (Or.inl ⟨by omega, rfl⟩))))
theorem y_slot {post : Int32 → SY → Prop} {v : SY} {v1 v2 v3 : Int32} (hup : ∀ c, c < 4 → gY_up v c = -2 ∨ gY_up v c = -1 ∨ zc_is (gY_up v) (gY_up v c)) (pf : ¬ zq_slot (gY_up v) v1 v2 v3 → post 0 v)
  (pt : ∀ c s, c < 4 → s < 4 → v1 = nI c → v2 = nI s → zq_slot (gY_up v) v1 v2 v3 → post 1 (sY_slots (upd (gY_slots v) (4 * c + s) v3) v)) : wpY_slot post v v1 v2 v3 := by
  refine upY_slot (y_isClass hup (zp_br (fun w => pf (fun k => w k.1)) (fun w => ?_)))
  obtain ⟨c, hc, rfl, h2⟩ := id w
  refine y_inG (zp_br (fun z => pf (fun k => ?_)) (fun z => ?_))
  · obtain ⟨_, s, hs, e, _⟩ := k
    exact z ⟨s, hs, e⟩
  · obtain ⟨s, hs, rfl⟩ := z
    have e : (4 : Int32) * nI c + nI s = nI (4 * c + s) := by rw [show (4 : Int32) = nI 4 from rfl, pk_mul, nI_add]
    have ok : zq_slot (gY_up v) (nI c) (nI s) v3 → kY_slot_51 post (nI c) (nI s) v3 v := by
      intro q
      refine uY_slot_51 ⟨by rw [e]; exact vp_in_nI (by omega) (by decide), nm_e ?_⟩
      rw [e, nI_clamp (by omega)]
      exact pt c s hc hs rfl rfl q
    have k43 : ∀ b, (s < 2 ∧ b = 2) ∨ (2 ≤ s ∧ b = 4) → ¬ v3 = -1 → kY_slot_43 post (nI c) (nI s) v3 (nI (b + 1)) (nI b) v3 v := by
      intro b hb n1
      refine uY_slot_43 (yt_in (zp_br (fun q => pf (fun k => ?_)) (fun q => ok ?_)))
      · obtain ⟨_, s', hs', e', k⟩ := k
        have := (nI_eq (by omega) (by omega)).mp e'
        subst this
        rcases k with k | ⟨m, em, k⟩
        · exact n1 k
        · refine q ?_
          rw [em]
          exact ⟨nI_le (by omega) (by omega), nI_le (by omega) (by omega)⟩
      · have h0 : ¬ v3 < 0 := fun w => by
          have := Int32.lt_of_le_of_lt q.1 w
          exact nI_pos (by omega) this
        obtain ⟨m, hm, em⟩ := nI_of2 (n := b + 1) (nI_toInt (by omega)) h0 q.2
        rw [em] at q
        have q1 := (nI_leI (by omega) (by omega)).mp q.1
        exact ⟨w, s, hs, rfl, Or.inr ⟨m, em, by omega⟩⟩
    refine br_c (fun q => ok ⟨w, s, hs, rfl, Or.inl q⟩) (fun q => br_i (nI_leI (a := 2) (by decide) (by omega)) (fun q2 => ?_) (fun q2 => ?_))
    · exact uY_slot_33 (br_t (nI_le (a := 2) q2 (by omega)) (k43 4 (Or.inr ⟨q2, rfl⟩) q))
    · exact uY_slot_33 (br_f (fun w => q2 ((nI_leI (a := 2) (by decide) (by omega)).mp w)) (k43 2 (Or.inl ⟨by omega, rfl⟩) q))
theorem i_vc_slot {k : Nat} {u : SX} {v : SY} (I : i_Rel k u v) (hk : k + 5 ≤ 2560) (v1 : Int32) (v2 : Int32) (v3 : Int32) : wpX_slot (fun r u' => wpY_slot (fun r' v' => r' = r ∧ i_Rel (k + 5) u' v') v v1 v2 v3) u v1 v2 v3 := by
  obtain ⟨H, R, K, p, l, hs, hb, hc, hh, hn, ht⟩ := id I
  obtain ⟨hcl, hup, hfc⟩ := zR_cls hs
  obtain ⟨⟨e1, e2, e3, e4, e5, e6, e7, e8, e9, e10⟩, ok, own, ini, rows, go⟩ := id hs
  refine x_slot (fun n1 => ?_) (fun c s h1 h2 q1 q2 q3 => ?_)
  · rw [e1] at n1
    exact y_slot hup (fun _ => ⟨rfl, I⟩) (fun c s h1 h2 q1 q2 q3 => absurd q3 n1)
  · rw [e1] at q3
    refine y_slot hup (fun n1 => absurd q3 n1) (fun c' s' h1' h2' q1' q2' q3' => ⟨rfl, ?_⟩)
    have := (nI_eq (by omega) (by omega)).mp (q1.symm.trans q1')
    subst this
    have := (nI_eq (by omega) (by omega)).mp (q2.symm.trans q2')
    subst this
    refine ⟨H, R, K, p, l, ⟨⟨e1, ?_, e3, e4, e5, e6, e7, e8, e9, e10⟩, ok, ?_, ini, rows, go⟩, hb, hc, hh, hn, ht⟩
    · show upd (gX_ownMethods u) (4 * c + s) v3 = upd (gY_slots v) (4 * c + s) v3
      rw [e2]
    · intro c2 hc2 s2 hs2
      show upd (gX_ownMethods u) (4 * c + s) v3 (4 * c2 + s2) = -1 ∨ ∃ m, upd (gX_ownMethods u) (4 * c + s) v3 (4 * c2 + s2) = nI m ∧ _
      by_cases e : 4 * c2 + s2 = 4 * c + s
      · have ec : s2 = s := by omega
        rw [e, pk_us, ec]
        obtain ⟨_, s', hs', e', q⟩ := q3
        have := (nI_eq (by omega) (by omega)).mp (q2.symm.trans e')
        subst this
        exact q
      · rw [pk_un e]; exact own c2 hc2 s2 hs2
def zq_init (up : Nat → Int32) (v1 v2 : Int32) : Prop := zc_is up v1 ∧ (v2 = -1 ∨ v2 = nI 0 ∨ v2 = nI 1)
theorem zq_m11 (x : Int32) : (-1 ≤ x ∧ x ≤ 1) ↔ (x = -1 ∨ x = nI 0 ∨ x = nI 1) := by
  constructor
  · intro z
    rw [Int32.le_iff_toInt_le, Int32.le_iff_toInt_le] at z
    have m1 : (-1 : Int32).toInt = -1 := by decide
    have p1 : (1 : Int32).toInt = 1 := by decide
    rw [m1, p1] at z
    have : x.toInt = -1 ∨ x.toInt = 0 ∨ x.toInt = 1 := by omega
    rcases this with h | h | h
    · exact Or.inl (Int32.toInt_inj.mp (h.trans m1.symm))
    · exact Or.inr (Or.inl (Int32.toInt_inj.mp (h.trans (by decide))))
    · exact Or.inr (Or.inr (Int32.toInt_inj.mp (h.trans (by decide))))
  · rintro (rfl | rfl | rfl) <;> decide
theorem i_vc_initialiser {k : Nat} {u : SX} {v : SY} (I : i_Rel k u v) (hk : k + 5 ≤ 2560) (v1 : Int32) (v2 : Int32) : wpX_initialiser (fun r u' => wpY_initialiser (fun r' v' => r' = r ∧ i_Rel (k + 5) u' v') v v1 v2) u v1 v2 := by
  obtain ⟨H, R, K, p, l, hs, hb, hc, hh, hn, ht⟩ := id I
  obtain ⟨hcl, hup, hfc⟩ := zR_cls hs
  obtain ⟨⟨e1, e2, e3, e4, e5, e6, e7, e8, e9, e10⟩, ok, own, ini, rows, go⟩ := id hs
  have no : ¬ zq_init (gY_up v) v1 v2 → wpY_initialiser (fun r' v' => r' = 0 ∧ i_Rel (k + 5) u v') v v1 v2 := by
    intro n1
    refine upY_initialiser (y_isClass hup (zp_br (fun _ => ⟨rfl, I⟩) (fun w => yt_in ?_)))
    rw [zp_c (zq_m11 v2)]
    exact zp_br (fun _ => ⟨rfl, I⟩) (fun w2 => absurd ⟨w, w2⟩ n1)
  refine upX_initialiser (x_isClass (zp_br (fun w => no (fun k => w (by rw [e1]; exact k.1))) (fun w => br_c (fun w2 => no (fun k => ?_)) (fun w2 => br_c (fun w3 => ?_) (fun w3 => no (fun k => ?_))))))
  · exact absurd w2 (Int32.not_lt.mpr ((zq_m11 v2).mpr k.2).1)
  · have q := (zq_m11 v2).mp ⟨Int32.not_lt.mp w2, w3⟩
    obtain ⟨c, hc4, rfl, h2⟩ := id w
    have vv : vp_in (nI c) 4 := vp_in_nI hc4 (by decide)
    refine ⟨vv, nm_e (upY_initialiser (y_isClass hup ?_))⟩
    rw [e1] at w
    refine zp_br (fun n1 => absurd w n1) (fun _ => yt_in ?_)
    rw [zp_c (zq_m11 v2)]
    refine zp_br (fun n1 => absurd q n1) (fun _ => ⟨vv, nm_e ⟨rfl, ?_⟩⟩)
    rw [nI_clamp (by omega)]
    refine ⟨H, R, K, p, l, ⟨⟨e1, e2, ?_, e4, e5, e6, e7, e8, e9, e10⟩, ok, own, ?_, rows, go⟩, hb, hc, hh, hn, ht⟩
    · show upd (gX_initialisers u) c v2 = upd (gY_first v) c v2
      rw [e3]
    · intro c2 hc2
      show upd (gX_initialisers u) c v2 c2 = -1 ∨ upd (gX_initialisers u) c v2 c2 = nI 0 ∨ upd (gX_initialisers u) c v2 c2 = nI 1
      by_cases e : c2 = c
      · rw [e, pk_us]; exact q
      · rw [pk_un e]; exact ini c2 hc2
  · exact w3 ((zq_m11 v2).mpr k.2).2
/-! code, catcher, wipe, body, map -/
theorem i_vc_code {k : Nat} {u : SX} {v : SY} (I : i_Rel k u v) (hk : k + 5 ≤ 2560) (v1 : Int32) (v2 : Int32) : wpX_code (fun r u' => wpY_code (fun r' v' => r' = r ∧ i_Rel (k + 5) u' v') v v1 v2) u v1 v2 := by
  obtain ⟨H, R, K, p, l, hs, hb, hc, hh, hn, ht⟩ := id I
  obtain ⟨⟨e1, e2, e3, e4, e5, e6, e7, e8, e9, e10⟩, ok, own, ini, rows, go⟩ := id hs
  obtain ⟨n, hn24, en, ho⟩ := rows.1 8 (by decide)
  have enY : gY_length v 8 = nI n := by rw [← e6]; exact en
  have i23 : ∀ x : Int32, ((0 : Int32) ≤ x ∧ x ≤ 23) ↔ ∃ o, o < 24 ∧ x = nI o := by
    intro x
    constructor
    · intro z
      obtain ⟨o, h1, h2⟩ := nI_of2 (n := 23) (M := 23) (by decide) (Int32.not_lt.mpr z.1) z.2
      exact ⟨o, by omega, h2⟩
    · rintro ⟨o, h1, rfl⟩
      exact ⟨nI_pos' (by omega), nI_le (b := 23) (by omega) (by decide)⟩
  have no : ¬ (∃ o, o < 24 ∧ v1 = nI o ∧ zi_fit o v2 ∧ n < 24) → wpY_code (fun r' v' => r' = -1 ∧ i_Rel (k + 5) u v') v v1 v2 := by
    intro n1
    refine upY_code (yt_in ?_)
    rw [zp_c (i23 v1)]
    refine zp_br (fun _ => ⟨rfl, I⟩) (fun w => ?_)
    obtain ⟨o, ho2, rfl⟩ := w
    refine yi_fits ho2 (zp_br (fun _ => ⟨rfl, I⟩) (fun w => ?_))
    rw [enY]
    refine br_i (nI_eq (b := 24) (by omega) (by decide)) (fun _ => ⟨rfl, I⟩) (fun w2 => absurd ⟨o, ho2, rfl, w, by omega⟩ n1)
  rcases pk_ix v1 (n := 24) (by decide) with z | z | ⟨o, ho2, rfl⟩
  · refine upX_code (br_t z (no ?_))
    rintro ⟨o, h1, rfl, _⟩
    exact nI_pos (by omega) z
  · have z0 : ¬ v1 < 0 := fun w => by
      have := Int32.lt_of_le_of_lt z w
      exact nI_pos (n := 24) (by decide) this
    refine upX_code (br_f z0 (br_t z (no ?_)))
    rintro ⟨o, h1, rfl, _⟩
    exact nI_ge h1 (by decide) z
  · refine upX_code (br_f (nI_pos (by omega)) (br_f (nI_ge (b := 24) ho2 (by decide)) ?_))
    rw [en]
    refine br_i (nI_ltI (b := 24) (by omega) (by decide)) (fun w => ?_) (fun w => no ?_)
    · have e192 : (192 : Int32) + nI n = nI (192 + n) := by rw [show (192 : Int32) = nI 192 from rfl, nI_add]
      have v216 : vp_in (nI (192 + n)) 216 := vp_in_nI (by omega) (by decide)
      have r07 : (0 : Int32) ≤ nI o ∧ nI o ≤ 23 := (i23 _).mpr ⟨o, ho2, rfl⟩
      have ok44 : zi_fit o v2 → kX_code_44 (fun r u' => wpY_code (fun r' v' => r' = r ∧ i_Rel (k + 5) u' v') v (nI o) v2) (nI o) v2 u := by
        intro fit
        refine uX_code_44 (nm_r (by rw [en, e192]) ⟨v216, nm_e ⟨v216, nm_e (nm_e ?_)⟩⟩)
        rw [en, nI_1, pk_us]
        refine upY_code (yt_in (zp_br (fun q => absurd r07 q) (fun _ => yi_fits ho2 (zp_br (fun q => absurd fit q) (fun _ => ?_)))))
        rw [enY, e192]
        refine br_f (fun q => ?_) ⟨v216, nm_e ⟨v216, nm_e (nm_e ⟨by rw [nI_1], ?_⟩)⟩⟩
        · have : n = 24 := (nI_eq (by omega) (by decide)).mp q
          omega
        · rw [nI_clamp (by omega), nI_1]
          refine ⟨H, R, K, p, l, ⟨⟨e1, e2, e3, ?_, ?_, ?_, e7, e8, e9, e10⟩, ok, own, ini, ⟨?_, rows.2⟩, go⟩, ?_, ?_, hh, hn, ht⟩
          · show upd (gX_ops u) (192 + n) (nI o) = upd (gY_ops v) (192 + n) (nI o)
            rw [e4]
          · show upd (gX_operands u) (192 + n) v2 = upd (gY_args v) (192 + n) v2
            rw [e5]
          · show upd (gX_lengths u) 8 (nI (n + 1)) = upd (gY_length v) 8 (nI (n + 1))
            rw [e6]
          · intro r hr
            show ∃ l, l ≤ 24 ∧ upd (gX_lengths u) 8 (nI (n + 1)) r = nI l ∧ ∀ j, j < l → zi_ok (upd (gX_ops u) (192 + n) (nI o) (24 * r + j)) (upd (gX_operands u) (192 + n) v2 (24 * r + j))
            by_cases r8 : r = 8
            · subst r8
              refine ⟨n + 1, by omega, pk_us, fun j hj => ?_⟩
              by_cases ej : j = n
              · subst ej
                rw [show 24 * 8 + j = 192 + j by omega, pk_us, pk_us]
                exact ⟨o, ho2, rfl, fit⟩
              · rw [pk_un (by omega), pk_un (by omega)]; exact ho j (by omega)
            · obtain ⟨l2, hl2, el2, ho3⟩ := rows.1 r hr
              refine ⟨l2, hl2, by rw [pk_un r8]; exact el2, fun j hj => ?_⟩
              rw [pk_un (by omega), pk_un (by omega)]; exact ho3 j hj
          · intro q hq hl
            have hl : upd (gX_lengths u) 8 (nI (n + 1)) q ≠ 0 := hl
            rw [pk_un (by omega)] at hl
            exact zw_keep (hb q hq hl) (fun i hi => pk_un (by omega)) (fun i hi => pk_un (by omega)) (pk_un (by omega)) rfl rfl rfl (fun _ _ => rfl) (fun _ _ => rfl) rfl (fun _ _ => rfl) (fun _ _ => Iff.rfl) (fun _ _ => rfl)
          · obtain ⟨c1, c2, c3⟩ := hc
            refine ⟨fun m hm => ?_, c2, fun k hk w => by
              obtain ⟨q, q1, q2, q3⟩ := c3 k hk w
              refine ⟨q, q1, q2, ?_⟩
              show upd _ 8 _ q ≠ 0
              rw [pk_un (by omega)]; exact q3⟩
            obtain ⟨d1, d2, d3, d4⟩ := c1 m hm
            refine ⟨d1, d2, fun w => ?_, fun i hi => ?_⟩
            · show upd (gX_lengths u) 8 (nI (n + 1)) m ≠ 0
              rw [pk_un (by omega)]; exact d3 w
            · have eop : zw_op (upd (gX_ops u) (192 + n) (nI o)) (24 * m + i) = zw_op (gX_ops u) (24 * m + i) := by unfold zw_op; rw [pk_un (by omega)]
              have ea : upd (gX_operands u) (192 + n) v2 (24 * m + i) = gX_operands u (24 * m + i) := pk_un (by omega)
              have eP : zw_P (upd (gX_ops u) (192 + n) (nI o)) (upd (gX_operands u) (192 + n) v2) (24 * m + i) = zw_P (gX_ops u) (gX_operands u) (24 * m + i) := by unfold zw_P; rw [eop, ea]
              refine ⟨(d4 i hi).1, fun w r => ?_⟩
              show zx_co (zw_op (upd (gX_ops u) (192 + n) (nI o)) (24 * m + i)) (upd (gX_operands u) (192 + n) v2 (24 * m + i)) (6 + H (24 * m + i) - zw_P (upd (gX_ops u) (192 + n) (nI o)) (upd (gX_operands u) (192 + n) v2) (24 * m + i)) _ _ _
              rw [eop, ea, eP]; exact (d4 i hi).2 w r
      refine xi_most ho2 ?_
      by_cases lim : zi_lim o = 0
      · rw [if_pos lim]
        exact br_t (by decide) (ok44 (Or.inl lim))
      · rw [if_neg lim]
        have l64 : zi_lim o ≤ 64 := by
          have : ∀ o, o < 24 → zi_lim o ≤ 64 := by decide
          exact this o ho2
        refine br_f (nI_pos (by omega)) (br_c (fun w2 => no ?_) (fun w2 => br_c (fun w3 => ok44 ?_) (fun w3 => no ?_)))
        · rintro ⟨o', h1, e, fit, _⟩
          have := (nI_eq (by omega) (by omega)).mp e
          subst this
          obtain ⟨j, hj, rfl⟩ := zi_fj fit rfl (by omega)
          exact nI_pos (by omega) w2
        · obtain ⟨j, hj, e⟩ := nI_of2 (n := zi_lim o - 1) (nI_toInt (by omega)) w2 w3
          exact Or.inr ⟨j, by omega, e⟩
        · rintro ⟨o', h1, e, fit, _⟩
          have := (nI_eq (by omega) (by omega)).mp e
          subst this
          obtain ⟨j, hj, rfl⟩ := zi_fj fit rfl (by omega)
          exact w3 (nI_le (by omega) (by omega))
    · rintro ⟨o', h1, e, fit, q⟩
      exact w q
