/-! make: both sides together -/
theorem zR_cls {u : SX} {v : SY} (h : zR_s u v) : zy_cls v (gX_fieldCount u) (gX_refFields u) ∧ (∀ c, c < 4 → gY_up v c = -2 ∨ gY_up v c = -1 ∨ zc_is (gY_up v) (gY_up v c)) ∧ (∀ p, zc_is (gY_up v) p → ∃ w, w ≤ 16 ∧ zc_at (gX_fieldCount u) p = nI w) := by
  obtain ⟨⟨e1, _⟩, ok, _⟩ := h
  rw [e1] at ok
  refine ⟨⟨ok.2, fun c hc h2 => zc_le (zc_cn4 _) (ok.1 c hc h2)⟩, fun c hc => zc_up ok hc, fun p hp => ?_⟩
  obtain ⟨f, hf, ef, _⟩ := zc_hi ok.2 4 p (zc_d4 ok hp)
  exact ⟨f, hf, ef⟩
theorem zR_draft {u : SX} {v : SY} (h : zR_s u v) : ∃ n, n ≤ 24 ∧ gX_lengths u 8 = nI n ∧ (∀ i, i < n → zi_ok (gX_ops u (192 + i)) (gX_operands u (192 + i))) ∧ (∀ p, zh_cg (gX_catchFrom u) (gX_catchTo u) 8 p → ¬ gX_catchTo u 8 ≤ gX_catchFrom u 8 ∧ gX_catchGoal u 8 = gY_goal v 8 ∧ ∃ g, g ≤ 24 ∧ gX_catchGoal u 8 = nI g) := by
  obtain ⟨_, _, _, _, rows, go⟩ := h
  obtain ⟨l, hl, el, ho⟩ := rows.1 8 (by decide)
  refine ⟨l, hl, el, fun i hi => ho i hi, fun p w => ?_⟩
  obtain ⟨f, t, hft, ht, ef, et⟩ := rows.2 8 (by decide)
  have lt : gX_catchFrom u 8 < gX_catchTo u 8 := by
    have h1 := Int32.not_lt.mp w.1
    have h2 := Int32.not_le.mp w.2
    exact Int32.lt_of_le_of_lt h1 h2
  have g := go 8 (by decide) lt
  exact ⟨Int32.not_le.mpr lt, g.1, g.2⟩
theorem zt_cpc {f f' R : Nat → Int32} {m n : Nat} (h : ∀ i, i < n → f i = f' i) : zt_cp f R m n = zt_cp f' R m n := by
  funext k
  unfold zt_cp
  by_cases w : 24 * m ≤ k ∧ k < 24 * m + n
  · rw [if_pos w, if_pos w]; exact h _ (by omega)
  · rw [if_neg w, if_neg w]
/-- code and links behind a new body of m -/
theorem zR_cnew {O A L CO CC CA cd lk O' A' L' : Nat → Int32} {H H' : Nat → Nat} {R R' : Nat → Prop} {m : Nat} (hm : m < 8) (h : zR_c1 O A L CO CC CA cd lk H R) (hok : ∀ q, q < 8 → ∀ i, i < 24 → R (24 * q + i) → L q ≠ 0 → zi_ok (O (24 * q + i)) (A (24 * q + i)))
  (eO : ∀ k, k < 192 → k / 24 ≠ m → O' k = O k) (eA : ∀ k, k < 192 → k / 24 ≠ m → A' k = A k) (eL : ∀ q, q < 8 → q ≠ m → L' q = L q)
  (gH : ∀ k, k < 192 → k / 24 ≠ m → H' k = H k) (gR : ∀ k, k < 192 → k / 24 ≠ m → (R' k ↔ R k)) :
  zR_c1 O' A' L' (zt_ul (zt_cp (fun _ => 0) CO m 24) CA (nI m) 192) CC CA (upd cd m 0) (zt_ulY O' A' lk m 192) H' R' := by
  obtain ⟨h1, h2, h3⟩ := h
  have dv : ∀ q i, i < 24 → (24 * q + i) / 24 = q := fun q i hi => by omega
  have own : ∀ i, i < 24 → zt_ul (zt_cp (fun _ => 0) CO m 24) CA (nI m) 192 (24 * m + i) = 0 := by
    intro i hi
    unfold zt_ul
    rw [zt_in hi, if_neg (fun w => absurd w.2.1 (by decide))]
  have oth : ∀ k, k < 192 → k / 24 ≠ m → zt_ul (zt_cp (fun _ => 0) CO m 24) CA (nI m) 192 k = if CO k = 28 ∧ CA k = nI m then 16 else CO k := by
    intro k hk w
    unfold zt_ul
    rw [zt_out (by omega)]
    by_cases q : CO k = 28 ∧ CA k = nI m
    · rw [if_pos ⟨hk, q⟩, if_pos q]
    · rw [if_neg (fun r => q r.2), if_neg q]
  -- a linked CALL is one
  have lnk : ∀ k, k < 192 → CO k = 28 → O k = 16 ∧ CA k = A k := by
    intro k hk w
    have hq : k / 24 < 8 := by omega
    obtain ⟨c1, c2, c3, c4⟩ := h1 (k / 24) hq
    have ek : 24 * (k / 24) + k % 24 = k := by omega
    have c5 := c4 (k % 24) (by omega)
    rw [ek] at c5
    have d1 : cd (k / 24) = 1 := by
      rcases c1 with c | c
      · rw [c5.1 (Or.inl c)] at w; exact absurd w (by decide)
      · exact c
    have r : R k := by
      by_cases r : R k
      · exact r
      · rw [c5.1 (Or.inr r)] at w; exact absurd w (by decide)
    have hz := hok (k / 24) hq (k % 24) (by omega) (by rw [ek]; exact r) (c3 d1)
    rw [ek] at hz
    obtain ⟨o24, eo, _⟩ := zi_of hz
    have eo : O k = nI (zw_op O k) := eo
    have o24 : zw_op O k < 24 := o24
    have x := c5.2 d1 r
    unfold zx_co at x
    rw [w] at x
    rcases x with x | x | x | x | x | x | x | x | x
    · exact absurd x.2.1 (by decide)
    · exact absurd x.2.1 (by decide)
    · exact absurd x.2.1 (by decide)
    · exact absurd x.2.1 (by decide)
    · exact absurd x.2.1 (by decide)
    · exact absurd x.2.1 (by decide)
    · exact absurd x.2.1 (by decide)
    · rw [x.1] at eo; exact ⟨eo, x.2.2.2⟩
    · have := x.2.2.2.2.2.2.2.2.2.1
      have : (28 : Nat) = zw_op O k := (nI_eq (by decide) (by omega)).mp this
      omega
  refine ⟨fun q hq => ?_, fun k hk => ?_, fun k hk w => ?_⟩
  rotate_left 2
  · by_cases e : k / 24 = m
    · have ek : k = 24 * m + k % 24 := by omega
      have z : zt_ul (zt_cp (fun _ => 0) CO m 24) CA (nI m) 192 k = 0 := by rw [ek]; exact own _ (by omega)
      rw [z] at w; exact absurd w (by decide)
    · rw [oth k hk e] at w
      by_cases l : CO k = 28 ∧ CA k = nI m
      · rw [if_pos l] at w; exact absurd w (by decide)
      · rw [if_neg l] at w
        obtain ⟨q, q1, q2, q3⟩ := h3 k hk w
        refine ⟨q, q1, q2, ?_⟩
        rw [eL q q1 (fun z => l ⟨w, by rw [q2, z]⟩)]; exact q3
  · by_cases e : q = m
    · subst e
      rw [pk_us]
      refine ⟨Or.inl rfl, ⟨fun _ => ?_, fun _ => rfl⟩, fun w => absurd w (by decide), fun i hi => ⟨fun _ => own i hi, fun w => absurd w (by decide)⟩⟩
      have := own 0 (by decide)
      exact this
    · obtain ⟨c1, c2, c3, c4⟩ := h1 q hq
      rw [pk_un e]
      have z0 := oth (24 * q) (by omega) (by omega)
      refine ⟨c1, ?_, fun w => by rw [eL q hq e]; exact c3 w, fun i hi => ?_⟩
      · rw [c2, z0]
        constructor
        · intro w; rw [if_neg (fun r => by rw [w] at r; exact absurd r.1 (by decide))]; exact w
        · intro w
          split at w
          · exact absurd w (by decide)
          · exact w
      · have hk : 24 * q + i < 192 := by omega
        have hd : (24 * q + i) / 24 ≠ m := by omega
        have zi := oth _ hk hd
        have c5 := c4 i hi
        refine ⟨fun w => ?_, fun w r => ?_⟩
        · have : CO (24 * q + i) = 0 := c5.1 (w.elim Or.inl (fun w => Or.inr (fun r => w ((gR _ hk hd).mpr r))))
          rw [zi, this, if_neg (fun r => absurd r.1 (by decide))]
        · have x := c5.2 w ((gR _ hk hd).mp r)
          have eop : zw_op O' (24 * q + i) = zw_op O (24 * q + i) := by unfold zw_op; rw [eO _ hk hd]
          have eP : zw_P O' A' (24 * q + i) = zw_P O A (24 * q + i) := by unfold zw_P; rw [eop, eA _ hk hd]
          rw [eop, eP, eA _ hk hd, gH _ hk hd, zi]
          by_cases l : CO (24 * q + i) = 28 ∧ CA (24 * q + i) = nI m
          · rw [if_pos l]
            unfold zx_co at x ⊢
            have hz := hok q hq i hi ((gR _ hk hd).mp r) (c3 w)
            obtain ⟨o24, _, _⟩ := zi_of hz
            have o24 : zw_op O (24 * q + i) < 24 := o24
            rw [l.1] at x
            rcases x with x | x | x | x | x | x | x | x | x
            · exact absurd x.2.1 (by decide)
            · exact absurd x.2.1 (by decide)
            · exact absurd x.2.1 (by decide)
            · exact absurd x.2.1 (by decide)
            · exact absurd x.2.1 (by decide)
            · exact absurd x.2.1 (by decide)
            · exact absurd x.2.1 (by decide)
            · exact Or.inr (Or.inr (Or.inr (Or.inr (Or.inr (Or.inr (Or.inr (Or.inl ⟨x.1, Or.inl rfl, x.2.2⟩)))))))
            · have := x.2.2.2.2.2.2.2.2.2.1
              have : (28 : Nat) = zw_op O (24 * q + i) := (nI_eq (by decide) (by omega)).mp this
              omega
          · rw [if_neg l]; exact x
  · obtain ⟨l1, l2⟩ := h2 k hk
    by_cases e : k / 24 = m
    · have ek : k = 24 * m + k % 24 := by omega
      have z : zt_ul (zt_cp (fun _ => 0) CO m 24) CA (nI m) 192 k = 0 := by rw [ek]; exact own _ (by omega)
      have y : zt_ulY O' A' lk m 192 k = 0 := by unfold zt_ulY; rw [if_pos ⟨hk, Or.inl e⟩]
      rw [z, y]
      exact ⟨Or.inl rfl, fun w => absurd w (by decide), fun w => absurd w (by decide)⟩
    · rw [oth k hk e]
      unfold zt_ulY
      rw [eO k hk e, eA k hk e]
      by_cases c : CO k = 28
      · obtain ⟨o1, o2⟩ := lnk k hk c
        by_cases q : A k = nI m
        · rw [if_pos ⟨hk, Or.inr ⟨o1, q⟩⟩, if_pos ⟨c, o2.trans q⟩]
          exact ⟨Or.inl rfl, fun w => absurd w (by decide), fun w => absurd w (by decide)⟩
        · rw [if_neg (fun r => r.2.elim e (fun r => q r.2)), if_neg (fun r => q (o2.symm.trans r.2))]
          exact ⟨l1, l2⟩
      · rw [if_neg (show ¬ (CO k = 28 ∧ CA k = nI m) from fun r => c r.1)]
        have l0 : lk k = 0 := l1.elim id (fun w => absurd (l2.mp w) c)
        split
        · exact ⟨Or.inl rfl, fun w => absurd w (by decide), fun w => absurd w c⟩
        · exact ⟨l1, l2⟩
theorem zi_rows {u : SX} {H : Nat → Nat} {R : Nat → Prop} {K : Nat → Nat → Nat} (hb : zR_b u H R K) : ∀ q, q < 8 → ∀ i, i < 24 → R (24 * q + i) → gX_lengths u q ≠ 0 → zi_ok (gX_ops u (24 * q + i)) (gX_operands u (24 * q + i)) := by
  intro q hq i hi r hl
  obtain ⟨n, _, _, _, _, _, _, _, r1, _, at_⟩ := hb q hq hl
  exact (at_ i (r1 i hi r) r).1
theorem i_vc_make {k : Nat} {u : SX} {v : SY} (I : i_Rel k u v) (hk : k + 5 ≤ 2560) (v1 : Int32) : wpX_make (fun r u' => wpY_make (fun r' v' => r' = r ∧ i_Rel (k + 5) u' v') v v1) u v1 := by
  obtain ⟨H, R, K, p, l, hs, hb, hc, hh, hn, ht⟩ := I
  have fl : ∀ (w : Int32) (a xi xr a' K' b' : Nat → Int32) (h' : Int32), i_Rel (k + 5) (mX w (gX_ops u) (gX_operands u) (gX_lengths u) (gX_catchFrom u) (gX_catchTo u) (gX_catchGoal u) (gX_refMaps u) (gX_bodyHeights u) (gX_frameWords u) (gX_codeOps u) a xi xr u) (mY w h' (gY_ops v) (gY_args v) (gY_length v) (gY_from v) (gY_to v) (gY_goal v) (gY_words v) (gY_maps v) (gY_coded v) (gY_linked v) a' K' b' v) := by
    intro w a xi xr a' K' b' h'
    exact ⟨H, R, K, p, l, hs, hb, hc, hh, hn, ⟨ht.1, rfl, ht.2.2⟩⟩
  have bad : (¬ ∃ m, m < 8 ∧ v1 = nI m) ∨ gX_lengths u 8 = 0 → wpY_make (fun r' v' => r' = -1 ∧ i_Rel (k + 5) (sX_faultPlace (-1) u) v') v v1 := by
    intro w
    have f1 := fl (-1) (gX_heights u) (gX_intKinds u) (gX_refKinds u) (gY_heights v) (gY_kinds v) (gY_behind v) (gY_height v)
    refine upY_make (yt_in (zp_br (fun _ => ⟨rfl, f1⟩) (fun z => ?_)))
    obtain ⟨c, hc2, e⟩ := nI_of2 (n := 7) (M := 7) (by decide) (Int32.not_lt.mpr z.1) z.2
    refine br_t ?_ ⟨rfl, f1⟩
    rcases w with w | w
    · exact absurd ⟨c, by omega, e⟩ w
    · rw [← hs.1.2.2.2.2.2.1]; exact w
  rcases pk_ix v1 (n := 8) (by decide) with z | z | ⟨m, hm, rfl⟩
  · refine upX_make (br_t z (bad (Or.inl ?_)))
    rintro ⟨m, hm, rfl⟩
    exact nI_pos (by omega) z
  · have z0 : ¬ v1 < 0 := fun w => by
      have := Int32.lt_of_le_of_lt z w
      exact nI_pos (n := 8) (by decide) this
    refine upX_make (br_f z0 (br_t z (bad (Or.inl ?_))))
    rintro ⟨m, hm, rfl⟩
    exact nI_ge hm (by decide) z
  · obtain ⟨n, hn24, en, ho, hgo⟩ := zR_draft hs
    by_cases h0 : n = 0
    · subst h0
      exact upX_make (br_f (nI_pos (by omega)) (br_f (nI_ge (b := 8) hm (by decide)) (br_t en (bad (Or.inr en)))))
    · have hn0 : 0 < n := by omega
      obtain ⟨hcl, hup, hfc⟩ := zR_cls hs
      obtain ⟨⟨e1, e2, e3, e4, e5, e6, e7, e8, e9, e10⟩, ok, own, ini, rows, go⟩ := id hs
      have hgoY : ∀ p, zh_cg (gY_from v) (gY_to v) 8 p → ¬ gY_to v 8 ≤ gY_from v 8 ∧ ∃ g, g ≤ 24 ∧ gY_goal v 8 = nI g := by
        intro p w
        rw [← e7, ← e8] at w ⊢
        obtain ⟨q1, q2, q3⟩ := hgo p w
        rw [← q2]; exact ⟨q1, q3⟩
      have eE : zh_E (gY_ops v) (gY_args v) (gY_from v) (gY_to v) (gY_goal v) n = zh_E (gX_ops u) (gX_operands u) (gX_catchFrom u) (gX_catchTo u) (gX_catchGoal u) n := by
        rw [← e4, ← e5, ← e7, ← e8]
        exact zh_Eeq (fun p w => (hgo p w).2.1.symm)
      have eM : zm_f (zm_bad (gY_up v) (gX_fieldCount u) (gY_ops v) (gY_args v) n) (zm_end (gY_from v) (gY_to v) (gY_goal v) n) n 0 = zm_f (zm_bad (gX_superOf u) (gX_fieldCount u) (gX_ops u) (gX_operands u) n) (zm_end (gX_catchFrom u) (gX_catchTo u) (gX_catchGoal u) n) n 0 := by
        rw [← e1, ← e4, ← e5, ← e7, ← e8]
        have : zm_end (gX_catchFrom u) (gX_catchTo u) (gY_goal v) n = zm_end (gX_catchFrom u) (gX_catchTo u) (gX_catchGoal u) n := by
          have q : (¬ gX_catchTo u 8 ≤ gX_catchFrom u 8 ∧ (nI n < gX_catchTo u 8 ∨ ¬ gY_goal v 8 < nI n)) ↔ (¬ gX_catchTo u 8 ≤ gX_catchFrom u 8 ∧ (nI n < gX_catchTo u 8 ∨ ¬ gX_catchGoal u 8 < nI n)) := by
            refine and_congr_right (fun w => ?_)
            rw [(go 8 (by decide) (Int32.not_le.mp w)).1]
          unfold zm_end
          by_cases r : (¬ gX_catchTo u 8 ≤ gX_catchFrom u 8 ∧ (nI n < gX_catchTo u 8 ∨ ¬ gY_goal v 8 < nI n))
          · rw [if_pos r, if_pos (q.mp r)]
          · rw [if_neg r, if_neg (fun w => r (q.mpr w))]
        rw [this]
      have enY : gY_length v 8 = nI n := by rw [← e6]; exact en
      have hoY : ∀ i, i < n → zi_ok (gY_ops v (192 + i)) (gY_args v (192 + i)) := by rw [← e4, ← e5]; exact ho
      refine x_make hm hn0 hn24 en ho (fun p w => ⟨(hgo p w).1, (hgo p w).2.2⟩) ?_ ?_ ?_
      · intro w ew nw
        refine y_make hcl hup hfc hm hn0 hn24 enY hoY hgoY ?_ ?_ ?_
        · intro w' ew' _
          rw [eM, ← ew] at ew'
          subst ew'
          exact ⟨rfl, fl w' (gX_heights u) (gX_intKinds u) (gX_refKinds u) (gY_heights v) (gY_kinds v) (gY_behind v) (gY_height v)⟩
        · intro q; rw [eM, ← ew] at q; exact absurd q nw
        · intro q; rw [eM, ← ew] at q; exact absurd q nw
      · intro q1 a ha w ew nw
        refine y_make hcl hup hfc hm hn0 hn24 enY hoY hgoY ?_ ?_ ?_
        · intro w' ew' nw'; rw [eM, q1] at ew'; exact absurd ew' nw'
        · intro _ a' ha' w' ew' _
          rw [eE] at ha'
          have : w' = w := by
            rw [ew, ew', ← e4, ← e5]
            exact zf_c n 0 (fun j _ hj => (zf_heq ha' ha' (by omega)).trans (zf_heq ha ha' (by omega)).symm)
          subst this
          exact ⟨rfl, fl w' a (gX_intKinds u) (gX_refKinds u) a' (gY_kinds v) (gY_behind v) (gY_height v)⟩
        · intro _ a' K' b' hh' ha' q2
          rw [eE] at ha'
          have : zf (zf_hX (gY_ops v) (gY_args v) n a') n 0 = w := by
            rw [ew, ← e4, ← e5]
            exact zf_c n 0 (fun j _ hj => (zf_heq ha' ha' (by omega)).trans (zf_heq ha ha' (by omega)).symm)
          rw [this] at q2; exact absurd q2 nw
      · intro q1 a xi xr ha q2 env hsg f1 f2 w ew
        have aeq : ∀ a', zh_F (zh_E (gX_ops u) (gX_operands u) (gX_catchFrom u) (gX_catchTo u) (gX_catchGoal u) n) n a' → zf (zf_hX (gY_ops v) (gY_args v) n a') n 0 = -1 := by
          intro a' ha'
          rw [← q2, ← e4, ← e5]
          exact zf_c n 0 (fun j _ hj => (zf_heq ha' ha' (by omega)).trans (zf_heq ha ha' (by omega)).symm)
        -- Y's kinds over Y's heights are kinds over X's
        have yk : ∀ a' K', zh_F (zh_E (gX_ops u) (gX_operands u) (gX_catchFrom u) (gX_catchTo u) (gX_catchGoal u) n) n a' → zy_F (gX_refFields u) (gY_ops v) (gY_args v) (gY_from v) (gY_to v) (gY_goal v) a' n m K' → zy_F (gX_refFields u) (gX_ops u) (gX_operands u) (gX_catchFrom u) (gX_catchTo u) (gX_catchGoal u) a n m K' := by
          intro a' K' ha' hK
          rw [← e4, ← e5, ← e7, ← e8] at hK
          have ea : ∀ i, i < n → a' i = a i := fun i hi => zh_Feq ha' ha hi
          have cl : ∀ Z i, i < n → (zy_cl (gX_refFields u) (gX_ops u) (gX_operands u) (gX_catchFrom u) (gX_catchTo u) (gY_goal v) a' n Z i ↔ zy_cl (gX_refFields u) (gX_ops u) (gX_operands u) (gX_catchFrom u) (gX_catchTo u) (gX_catchGoal u) a n Z i) := by
            intro Z i hi
            unfold zy_cl zk_b
            rw [ea i hi]
            refine and_congr_right (fun _ => ?_)
            constructor
            · intro h w; rw [(hgo _ w).2.1]; exact h w
            · intro h w; rw [← (hgo _ w).2.1]; exact h w
          have C : zy_C (gX_refFields u) (gX_ops u) (gX_operands u) (gX_catchFrom u) (gX_catchTo u) (gY_goal v) a' n m = zy_C (gX_refFields u) (gX_ops u) (gX_operands u) (gX_catchFrom u) (gX_catchTo u) (gX_catchGoal u) a n m := by
            funext Z
            apply propext
            unfold zy_C
            refine and_congr_right (fun _ => ?_)
            constructor
            · intro h i hi h0; exact (cl Z i hi).mp (h i hi (by rw [ea i hi]; exact h0))
            · intro h i hi h0; exact (cl Z i hi).mpr (h i hi (by rw [← ea i hi]; exact h0))
          unfold zy_F at hK ⊢
          rw [C] at hK; exact hK
        have weq : ∀ a' K', zh_F (zh_E (gX_ops u) (gX_operands u) (gX_catchFrom u) (gX_catchTo u) (gX_catchGoal u) n) n a' → zy_F (gX_refFields u) (gX_ops u) (gX_operands u) (gX_catchFrom u) (gX_catchTo u) (gX_catchGoal u) a n m K' → zf (zf_kY (gX_refFields u) (gY_ops v) (gY_args v) a' K' m) n 0 = w := by
          intro a' K' ha' hK
          rw [ew, ← e4, ← e5]
          refine zf_c n 0 (fun j _ hj => ?_)
          rw [zf_keq hm env ha hsg f1 f2 hK (by omega)]
          unfold zf_kY
          rw [zh_Feq ha' ha (show j < n by omega)]
        refine ⟨fun nw => ?_, fun ew1 => ?_⟩
        · refine y_make hcl hup hfc hm hn0 hn24 enY hoY hgoY ?_ ?_ ?_
          · intro w' ew' nw'; rw [eM, q1] at ew'; exact absurd ew' nw'
          · intro _ a' ha' w' ew' nw'
            rw [eE] at ha'
            rw [aeq a' ha'] at ew'; exact absurd ew' nw'
          · intro _ a' K' b' hh' ha' _ hK w' ew'
            rw [eE] at ha'
            rw [weq a' K' ha' (yk a' K' ha' hK)] at ew'
            subst ew'
            exact ⟨fun _ => ⟨rfl, fl w' a xi xr a' K' b' hh'⟩, fun q => absurd q nw⟩
        · refine y_make hcl hup hfc hm hn0 hn24 enY hoY hgoY ?_ ?_ ?_
          · intro w' ew' nw'; rw [eM, q1] at ew'; exact absurd ew' nw'
          · intro _ a' ha' w' ew' nw'
            rw [eE] at ha'
            rw [aeq a' ha'] at ew'; exact absurd ew' nw'
          · intro _ a' K' b' hh' ha' _ hK w' ew'
            rw [eE] at ha'
            have hK' := yk a' K' ha' hK
            rw [weq a' K' ha' hK'] at ew'
            subst ew'
            refine ⟨fun q => absurd ew1 q, fun _ hh2 b2 => ⟨rfl, ?_⟩⟩
            have ea : ∀ i, i < n → a' i = a i := fun i hi => zh_Feq ha' ha hi
            have nk := zf_all hn24 (weq a' K' ha' hK' ▸ ew1)
            have dok : zd_ok (gX_superOf u) (gX_fieldCount u) (gX_refFields u) (gX_ops u) (gX_operands u) (gX_catchFrom u) (gX_catchTo u) (gX_catchGoal u) a xi xr K' n m := by
              refine ⟨hm, env, ha, hsg, f1, f2, hK', ?_, (zm_all hn24 q1).2⟩
              intro i hi
              have := nk i hi
              unfold zf_kY at this
              rw [ea i hi, ← e4, ← e5] at this
              exact this
            -- the new ghosts
            have m8 : ∀ (f : Nat → Int32) (x y : Int32) (q : Nat), q < 8 → upd (upd f m x) 8 y q = if q = m then x else f q := by
              intro f x y q hq
              rw [pk_un (by omega)]
              unfold upd
              rfl
            have g16 := zt_gh6 a n
            refine ⟨fun k => if k / 24 = m then zh_ht (a (k % 24)) else H k, fun k => if k / 24 = m then (k % 24 < n ∧ a (k % 24) ≠ 0) else R k, fun k => if k / 24 = m then zd_k K' (k % 24) else K k, p, l, ?_, ?_, ?_, hh, hn, ⟨ht.1, rfl, ht.2.2⟩⟩
            · -- what is fixed
              refine ⟨⟨e1, e2, e3, ?_, ?_, ?_, ?_, ?_, ?_, ?_⟩, ok, own, ini, ⟨?_, ?_⟩, ?_⟩
              · show zt_cp (fun i => gX_ops u (192 + i)) (gX_ops u) m n = zt_cp (fun i => gY_ops v (192 + i)) (gY_ops v) m n
                rw [e4]
              · show zt_cp (fun i => gX_operands u (192 + i)) (gX_operands u) m n = zt_cp (fun i => gY_args v (192 + i)) (gY_args v) m n
                rw [e5]
              · show upd (upd (gX_lengths u) m (nI n)) 8 0 = upd (upd (gY_length v) m (nI n)) 8 0
                rw [e6]
              · show upd (upd (gX_catchFrom u) m (gX_catchFrom u 8)) 8 0 = upd (upd (gY_from v) m (gY_from v 8)) 8 0
                rw [e7]
              · show upd (upd (gX_catchTo u) m (gX_catchTo u 8)) 8 0 = upd (upd (gY_to v) m (gY_to v 8)) 8 0
                rw [e8]
              · show zt_cp (zt_rm a xr) (gX_refMaps u) m n = zt_cp (zt_rmY a' K') (gY_maps v) m n
                rw [e9]
                refine zt_cpc (fun i hi => ?_)
                unfold zt_rm zt_rmY
                rw [ea i hi]
                by_cases z : a i = 0
                · rw [if_pos z, if_pos z]
                · rw [if_neg z, if_neg z]
                  have mg := zk_merge hm env ha hsg f1 f2 hK' hi z
                  have h6 := zh_ht6 (a i)
                  apply b_ext
                  intro e he
                  have mb := zt_mkb (K := K') (i := i) (6 + zh_ht (a i)) (by omega) e he
                  have xb : bt (xr i) e = true ↔ e < 6 + zh_ht (a i) ∧ K' (12 * i + e) = 2 := by
                    constructor
                    · intro b
                      by_cases q : e < 6 + zh_ht (a i)
                      · exact ⟨q, (mg.1 e q).2.mp b⟩
                      · rw [mg.2 e (by omega) he] at b; exact absurd b (by decide)
                    · intro q; exact (mg.1 e q.1).2.mpr q.2
                  cases w1 : bt (xr i) e <;> cases w2 : bt (zt_mk K' i (6 + zh_ht (a i))) e
                  · rfl
                  · rw [w1] at xb; exact absurd (xb.mpr (mb.mp w2)) (by decide)
                  · rw [w2] at mb; exact absurd (mb.mpr (xb.mp w1)) (by decide)
                  · rfl
              · show upd (gX_frameWords u) m (nI (9 + zt_gh a n)) = upd (gY_words v) m (nI (9 + zt_gy (gY_ops v) (gY_args v) a' n))
                rw [e10, zt_geq env ha hsg, ← e4, ← e5]
                have : ∀ j, j ≤ n → zt_gy (gX_ops u) (gX_operands u) a j = zt_gy (gX_ops u) (gX_operands u) a' j := by
                  intro j
                  induction j with
                  | zero => intro _; rfl
                  | succ j ih =>
                    intro hj
                    unfold zt_gy
                    rw [ea j (by omega), ih (by omega)]
                rw [this n (Nat.le_refl _)]
              · -- rows
                intro r hr
                by_cases r8 : r = 8
                · subst r8
                  exact ⟨0, by decide, by rw [mX_lengths]; exact pk_us, fun j hj => absurd hj (by omega)⟩
                · have rl : r < 8 := by omega
                  by_cases e : r = m
                  · subst e
                    refine ⟨n, hn24, by show upd (upd (gX_lengths u) r (nI n)) 8 0 r = nI n; rw [m8 _ _ _ _ hm, if_pos rfl], fun j hj => ?_⟩
                    show zi_ok (zt_cp (fun i => gX_ops u (192 + i)) (gX_ops u) r n (24 * r + j)) (zt_cp (fun i => gX_operands u (192 + i)) (gX_operands u) r n (24 * r + j))
                    rw [zt_in hj, zt_in hj]; exact ho j hj
                  · obtain ⟨l2, hl2, el2, ho2⟩ := rows.1 r hr
                    refine ⟨l2, hl2, by show upd (upd (gX_lengths u) m (nI n)) 8 0 r = nI l2; rw [m8 _ _ _ _ rl, if_neg e]; exact el2, fun j hj => ?_⟩
                    show zi_ok (zt_cp (fun i => gX_ops u (192 + i)) (gX_ops u) m n (24 * r + j)) (zt_cp (fun i => gX_operands u (192 + i)) (gX_operands u) m n (24 * r + j))
                    rw [zt_out (by omega), zt_out (by omega)]; exact ho2 j hj
              · intro r hr
                by_cases r8 : r = 8
                · subst r8
                  exact ⟨0, 0, by decide, by decide, by rw [mX_catchFrom]; exact pk_us, by rw [mX_catchTo]; exact pk_us⟩
                · have rl : r < 8 := by omega
                  show ∃ f t, f ≤ t ∧ t ≤ 24 ∧ upd (upd (gX_catchFrom u) m (gX_catchFrom u 8)) 8 0 r = nI f ∧ upd (upd (gX_catchTo u) m (gX_catchTo u 8)) 8 0 r = nI t
                  rw [m8 _ _ _ _ rl, m8 _ _ _ _ rl]
                  by_cases e : r = m
                  · rw [if_pos e, if_pos e]; exact rows.2 8 (by decide)
                  · rw [if_neg e, if_neg e]; exact rows.2 r hr
              · intro r hr
                show upd (upd (gX_catchFrom u) m (gX_catchFrom u 8)) 8 0 r < upd (upd (gX_catchTo u) m (gX_catchTo u 8)) 8 0 r → upd (upd (gX_catchGoal u) m (gX_catchGoal u 8)) 8 0 r = upd (gY_goal v) m (gY_goal v 8) r ∧ _
                by_cases r8 : r = 8
                · subst r8
                  rw [pk_us, pk_us]
                  intro w; exact absurd w (by decide)
                · have rl : r < 8 := by omega
                  show _ → _ ∧ ∃ g, g ≤ 24 ∧ upd (upd (gX_catchGoal u) m (gX_catchGoal u 8)) 8 0 r = nI g
                  rw [m8 _ _ _ _ rl, m8 _ _ _ _ rl, m8 _ _ _ _ rl]
                  by_cases e : r = m
                  · rw [if_pos e, if_pos e, if_pos e, e, pk_us]; exact go 8 (by decide)
                  · rw [if_neg e, if_neg e, if_neg e, pk_un e]; exact go r hr
            · -- bodies
              intro q hq hl
              have hl : upd (upd (gX_lengths u) m (nI n)) 8 0 q ≠ 0 := hl
              have dv : ∀ i, i < 24 → (24 * q + i) / 24 = q ∧ (24 * q + i) % 24 = i := fun i hi => by omega
              rw [mX_superOf, mX_fieldCount, mX_refFields, mX_ops, mX_operands, mX_lengths, mX_catchFrom, mX_catchTo, mX_catchGoal, mX_refMaps, mX_bodyHeights, mX_frameWords]
              by_cases e : q = m
              · subst e
                refine zw_new (w := 9 + zt_gh a n) dok (fun p hp => by rw [e1] at hp; exact hfc p hp) (fun i hi => zt_in hi) (fun i hi => zt_in hi) ?_ ?_ ?_ ?_ (fun i hi => zt_in hi) (fun i hi => zt_in hi) pk_us (by omega) (fun i hi => ?_) (fun i hi => ?_) (fun i hi => ?_)
                · show upd (upd (gX_lengths u) q (nI n)) 8 0 q = nI n
                  rw [m8 _ _ _ _ hq, if_pos rfl]
                · show upd (upd (gX_catchFrom u) q (gX_catchFrom u 8)) 8 0 q = _
                  rw [m8 _ _ _ _ hq, if_pos rfl]
                · show upd (upd (gX_catchTo u) q (gX_catchTo u 8)) 8 0 q = _
                  rw [m8 _ _ _ _ hq, if_pos rfl]
                · show upd (upd (gX_catchGoal u) q (gX_catchGoal u 8)) 8 0 q = _
                  rw [m8 _ _ _ _ hq, if_pos rfl]
                · show (if (24 * q + i) / 24 = q then zh_ht (a ((24 * q + i) % 24)) else _) = _
                  rw [if_pos (dv i hi).1, (dv i hi).2]
                · show (if (24 * q + i) / 24 = q then ((24 * q + i) % 24 < n ∧ a ((24 * q + i) % 24) ≠ 0) else _) ↔ _
                  rw [if_pos (dv i hi).1, (dv i hi).2]
                · show (if (24 * q + i) / 24 = q then zd_k K' ((24 * q + i) % 24) else _) = _
                  rw [if_pos (dv i hi).1, (dv i hi).2]
              · rw [m8 _ _ _ _ hq, if_neg e] at hl
                refine zw_keep (hb q hq hl) (fun i hi => zt_out (by omega)) (fun i hi => zt_out (by omega)) ?_ ?_ ?_ ?_ (fun i hi => zt_out (by omega)) (fun i hi => zt_out (by omega)) (pk_un e) (fun i hi => ?_) (fun i hi => ?_) (fun i hi => ?_)
                · show upd (upd (gX_lengths u) m (nI n)) 8 0 q = _
                  rw [m8 _ _ _ _ hq, if_neg e]
                · show upd (upd (gX_catchFrom u) m (gX_catchFrom u 8)) 8 0 q = _
                  rw [m8 _ _ _ _ hq, if_neg e]
                · show upd (upd (gX_catchTo u) m (gX_catchTo u 8)) 8 0 q = _
                  rw [m8 _ _ _ _ hq, if_neg e]
                · show upd (upd (gX_catchGoal u) m (gX_catchGoal u 8)) 8 0 q = _
                  rw [m8 _ _ _ _ hq, if_neg e]
                · show (if (24 * q + i) / 24 = m then _ else H (24 * q + i)) = _
                  rw [if_neg (by rw [(dv i hi).1]; exact e)]
                · show (if (24 * q + i) / 24 = m then _ else R (24 * q + i)) ↔ _
                  rw [if_neg (by rw [(dv i hi).1]; exact e)]
                · show (if (24 * q + i) / 24 = m then _ else K (24 * q + i)) = _
                  rw [if_neg (by rw [(dv i hi).1]; exact e)]
            · -- code
              show zR_c1 (zt_cp (fun i => gX_ops u (192 + i)) (gX_ops u) m n) (zt_cp (fun i => gX_operands u (192 + i)) (gX_operands u) m n) (upd (upd (gX_lengths u) m (nI n)) 8 0) (zt_ul (zt_cp (fun _ => 0) (gX_codeOps u) m 24) (gX_codeArgs u) (nI m) 192) (gX_codeCells u) (gX_codeArgs u) (upd (gY_coded v) m 0) (zt_ulY (zt_cp (fun i => gY_ops v (192 + i)) (gY_ops v) m n) (zt_cp (fun i => gY_args v (192 + i)) (gY_args v) m n) (gY_linked v) m 192) _ _
              rw [← e4, ← e5]
              refine zR_cnew hm hc (zi_rows hb) (fun k hk w => zt_out (by omega)) (fun k hk w => zt_out (by omega)) (fun q hq w => by rw [m8 _ _ _ _ hq, if_neg w]) (fun k hk w => if_neg w) (fun k hk w => ?_)
              show (if k / 24 = m then _ else R k) ↔ _
              rw [if_neg w]
