/-! Y's kinds -/
/-- a is a field that is there -/
def zy_fd (up fc : Nat → Int32) (a : Int32) : Prop := ∃ j, j < 64 ∧ a = nI j ∧ up (j / 16) ≠ -2 ∧ ∃ n, fc (j / 16) = nI n ∧ j % 16 < n ∧ n ≤ 16
def zk_y (kin : Nat → Int32) (pk : Int32) (o a b e : Nat) : Int32 := if o = 3 then (if e = a then kin b else kin e) else if o = 2 then (if e = b then kin a else kin e) else if o = 20 then (if e = b ∨ e = b + 1 then kin b else kin e) else if e = b then pk else kin e
theorem zh_pw : ∀ H, H < 7 → ∀ h, h < 7 → h ≤ H → ((nI (2 ^ H) >>> (nI h &&& 31)) = 1 ↔ h = H) := by decide
theorem y_heightAt {post : Int32 → Prop} {u : SY} {i H : Nat} (hi : i < 24) (hH : H ≤ 6) (e : gY_heights u i = nI (2 ^ H)) (h : post (nI H)) : wpY_heightAt post u (nI i) := by
  have z : ∀ d k, k + d = H → kY_heightAt_2 post (nI i) (d + 1) (nI k) u := by
    intro d
    induction d with
    | zero =>
      intro k hk
      have : k = H := by omega
      subst this
      refine uY_heightAt_2 ⟨vp_in_nI hi (by decide), ?_⟩
      rw [nI_clamp (by omega), e]
      exact br_t ((zh_pw k (by omega) k (by omega) (Nat.le_refl _)).mpr rfl) h
    | succ d ih =>
      intro k hk
      refine uY_heightAt_2 ⟨vp_in_nI hi (by decide), ?_⟩
      rw [nI_clamp (by omega), e]
      exact br_f (fun w => by have := (zh_pw H (by omega) k (by omega) (by omega)).mp w; omega) (nm_r (nI_1 k) (ih (k + 1) (by omega)))
  exact upY_heightAt ⟨H + 1, z H 0 (by omega)⟩
theorem y_pushed {post : Int32 → Prop} {u : SY} {fc : Nat → Int32} {rf : Nat → Int32} {o i : Nat} {a : Int32} (hr : ∀ c, c < 4 → gY_up u c ≠ -2 → zc_row (gY_up u) (gY_ints u) (gY_references u) fc rf c) (hd : ∀ c, c < 4 → gY_up u c ≠ -2 → zc_dp (gY_up u) 4 (nI c)) (ho : o < 24) (hf : zi_fit o a) (hi : i < 24) (hp : zt_push o ≠ 0) (h20 : o ≠ 20)
  (hc : o = 13 → zy_fd (gY_up u) fc a)
  (h : post (if o = 2 then gY_kinds u (12 * i + a.toNatClampNeg) else nI (zk_pk rf o a))) : wpY_pushed post u (nI o) a (nI i) := by
  refine upY_pushed ?_
  by_cases z2 : o = 2
  · subst z2
    obtain ⟨j, hj, rfl⟩ := zi_fj hf (show zi_lim 2 = 6 from rfl) (by decide)
    have e : (12 : Int32) * nI i + nI j = nI (12 * i + j) := by rw [show (12 : Int32) = nI 12 from rfl, pk_mul, nI_add]
    rw [if_pos rfl, nI_clamp (by omega)] at h
    have k : vp_in (12 * nI i + nI j) 288 ∧ post (gY_kinds u (12 * nI i + nI j).toNatClampNeg) := by
      rw [e, nI_clamp (by omega)]
      exact ⟨vp_in_nI (by omega) (by decide), h⟩
    repeat (first | exact k | refine br_t (by decide) ?_ | refine br_f (by decide) ?_)
  · rw [if_neg z2] at h
    by_cases z13 : o = 13
    · subst z13
      obtain ⟨j, hj, rfl, h2, n, en, hfn, hn⟩ := hc rfl
      have k : wpY_kindOf (fun r => post r) u (nI j / 16) (nI j - nI j / 16 * 16) := by
        rw [(zn_d16 hj).2, (zn_d16 hj).1]
        refine y_kindOf hr (by omega) h2 (hd _ (by omega) h2) en hfn hn ?_
        unfold zk_pk at h
        rw [if_pos rfl, nI_clamp (by omega)] at h
        split at h
        · rename_i w; rw [if_pos w]; exact h
        · rename_i w; rw [if_neg w]; exact h
      repeat (first | exact ⟨zn_16, zn_16, k⟩ | refine br_t (by decide) ?_ | refine br_f (by decide) ?_)
    · by_cases z16 : o = 16
      · subst z16
        obtain ⟨j, hj, rfl⟩ := zi_fj hf (show zi_lim 16 = 8 from rfl) (by decide)
        have k : wpY_gives (fun r => post r) (nI j) := by
          refine yt_gives hj ?_
          unfold zk_pk at h
          rw [if_neg (by decide), if_pos rfl, nI_clamp (by omega)] at h
          split at h
          · rename_i w; rw [if_pos w]; exact h
          · rename_i w; rw [if_neg w]; exact h
        repeat (first | exact k | refine br_t (by decide) ?_ | refine br_f (by decide) ?_)
      · by_cases z17 : o = 17
        · subst z17
          obtain ⟨j, hj, rfl⟩ := zi_fj hf (show zi_lim 17 = 4 from rfl) (by decide)
          have k : ((2 : Int32) ≤ nI j → post 2) ∧ (¬ (2 : Int32) ≤ nI j → post 1) := by
            refine br_i (nI_leI (a := 2) (by decide) (by omega)) (fun w => ?_) (fun w => ?_)
            · rw [show zk_pk rf 17 (nI j) = 2 by unfold zk_pk; rw [if_neg (by decide), if_neg (by decide), if_pos rfl, nI_clamp (by omega), if_neg (by omega)]] at h
              exact h
            · rw [show zk_pk rf 17 (nI j) = 1 by unfold zk_pk; rw [if_neg (by decide), if_neg (by decide), if_pos rfl, nI_clamp (by omega), if_pos (by omega)]] at h
              exact h
          repeat (first | exact k | refine br_t (by decide) ?_ | refine br_f (by decide) ?_)
        · unfold zk_pk at h
          rw [if_neg z13, if_neg z16, if_neg z17] at h
          clear hf hc
          revert z2 z13 z16 z17 h hp h20; revert o
          apply zo_24 <;> intro hp h20 h z2 z13 z16 z17 <;> first | exact absurd rfl z2 | exact absurd rfl z13 | exact absurd rfl z16 | exact absurd rfl z17 | exact absurd rfl hp | exact absurd rfl h20 | (repeat (first | exact h | refine br_t (by decide) ?_ | refine br_f (by decide) ?_))
/-- the pushing loop -/
theorem y_does140 {post : SY → Prop} {u : SY} {o : Nat} (ho : o < 24) {x : Int32} {hb : Nat} (hq : hb + zt_push o ≤ 6) {beh : Nat → Int32}
  (h : ∀ beh', (∀ e, e < 6 + hb → beh' e = beh e) → (∀ e, 6 + hb ≤ e → e < 6 + hb + zt_push o → beh' e = x) → post (sY_height_behind (nI (hb + zt_push o)) beh' u)) : ∃ n, kY_does_140 post (nI o) x n 0 (sY_height_behind (nI hb) beh u) := by
  have hq2 : zt_push o < 100 := by omega
  have z : ∀ d k b', k + d = zt_push o → (∀ e, e < 6 + hb → b' e = beh e) → (∀ e, 6 + hb ≤ e → e < 6 + hb + k → b' e = x) → kY_does_140 post (nI o) x (d + 1) (nI k) (sY_height_behind (nI (hb + k)) b' u) := by
    intro d
    induction d with
    | zero =>
      intro k b' hk h1 h2
      have : k = zt_push o := by omega
      subst this
      exact uY_does_140 (yt_push ho (br_t (Int32.le_refl _) (h b' h1 h2)))
    | succ d ih =>
      intro k b' hk h1 h2
      refine uY_does_140 (yt_push ho (br_f (nI_ge (by omega) (by omega)) (nm_r (nI_1 (hb + k)) ⟨?_, nm_e (nm_r (nI_1 k) ?_)⟩)))
      · show vp_in (6 + nI (hb + k)) 12
        rw [show (6 : Int32) = nI 6 from rfl, nI_add]
        exact vp_in_nI (by omega) (by decide)
      · show kY_does_140 post (nI o) x (d + 1) (nI (k + 1)) (sY_height_behind (nI (hb + k + 1)) (upd b' (6 + nI (hb + k)).toNatClampNeg x) u)
        rw [show (6 : Int32) = nI 6 from rfl, nI_add, nI_clamp (by omega)]
        refine ih (k + 1) _ (by omega) (fun e he => ?_) (fun e h3 h4 => ?_)
        · rw [pk_un (by omega)]; exact h1 e he
        · by_cases w : e = 6 + (hb + k)
          · subst w; exact pk_us
          · rw [pk_un w]; exact h2 e h3 (by omega)
  exact ⟨_, z (zt_push o) 0 beh (by omega) (fun _ _ => rfl) (fun e h1 h2 => absurd h2 (by omega))⟩
/-- what Y needs to know of one instruction that is reached -/
def zy_at (O A a up fc : Nat → Int32) (i H : Nat) : Prop :=
  zi_ok (O (192 + i)) (A (192 + i)) ∧ a i = nI (2 ^ H) ∧ zh_P O A i ≤ H ∧ H - zh_P O A i + zh_Q O i ≤ 6 ∧ H ≤ 6 ∧
  (zh_op O i = 13 ∨ zh_op O i = 14 → zy_fd up fc (A (192 + i)))
theorem y_does {post : SY → Prop} {u : SY} {fc rf : Nat → Int32} {i H : Nat} (hr : ∀ c, c < 4 → gY_up u c ≠ -2 → zc_row (gY_up u) (gY_ints u) (gY_references u) fc rf c) (hd : ∀ c, c < 4 → gY_up u c ≠ -2 → zc_dp (gY_up u) 4 (nI c)) (hi : i < 24) (hat : zy_at (gY_ops u) (gY_args u) (gY_heights u) (gY_up u) fc i H)
  (h : ∀ beh, (∀ e, e < 6 + (H - zh_P (gY_ops u) (gY_args u) i + zh_Q (gY_ops u) i) → beh e = zk_y (fun e => gY_kinds u (12 * i + e)) (nI (zk_pk rf (zh_op (gY_ops u) i) (gY_args u (192 + i)))) (zh_op (gY_ops u) i) (gY_args u (192 + i)).toNatClampNeg (6 + H - zh_P (gY_ops u) (gY_args u) i) e) → post (sY_height_behind (nI (H - zh_P (gY_ops u) (gY_args u) i + zh_Q (gY_ops u) i)) beh u)) : wpY_does post u (nI i) := by
  obtain ⟨ho, eH, hP, hQ, hH, hc⟩ := hat
  have e192 : (192 : Int32) + nI i = nI (192 + i) := by rw [show (192 : Int32) = nI 192 from rfl, nI_add]
  have v216 : vp_in (192 + nI i) 216 := by rw [e192]; exact vp_in_nI (by omega) (by decide)
  refine upY_does ⟨v216, nm_e ⟨v216, nm_e (y_heightAt hi hH eH ?_)⟩⟩
  rw [e192, nI_clamp (by omega)]
  obtain ⟨o24, eo, fo⟩ := zi_of ho
  have eop : zh_op (gY_ops u) i = (gY_ops u (192 + i)).toNatClampNeg := rfl
  rw [← eop] at o24 eo fo
  rw [eo]
  have eP : zh_P (gY_ops u) (gY_args u) i = zt_pops (zh_op (gY_ops u) i) (gY_args u (192 + i)) := rfl
  have eQ : zh_Q (gY_ops u) i = zt_push (zh_op (gY_ops u) i) := rfl
  have z : ∀ d k b', k + d = 12 → (∀ e, e < k → b' e = gY_kinds u (12 * i + e)) → kY_does_34 post (nI i) (nI (zh_op (gY_ops u) i)) (gY_args u (192 + i)) (d + 1) (nI k) (sY_height_behind (nI H) b' u) := by
    intro d
    induction d with
    | zero =>
      intro k b' hk hb
      have : k = 12 := by omega
      subst this
      have e5 : (5 : Int32) + nI H = nI (5 + H) := by rw [show (5 : Int32) = nI 5 from rfl, nI_add]
      refine uY_does_34 (br_t (by decide) ⟨?_, nm_e ?_⟩)
      · show vp_in (5 + nI H) 12
        rw [e5]; exact vp_in_nI (by omega) (by decide)
      · show wpY_pops _ _ _
        refine yt_pops o24 (zi_call fo) (nm_r (pk_sub (by omega)) ?_)
        have etop : b' (5 + nI H).toNatClampNeg = gY_kinds u (12 * i + (5 + H)) := by
          rw [e5, nI_clamp (by omega)]; exact hb _ (by omega)
        -- behind the popping
        have go : ∀ b2 : Nat → Int32, (∀ e, e < 6 + (H - zh_P (gY_ops u) (gY_args u) i) → b2 e = if zh_op (gY_ops u) i = 3 ∧ e = (gY_args u (192 + i)).toNatClampNeg then gY_kinds u (12 * i + (5 + H)) else gY_kinds u (12 * i + e)) → kY_does_106 post (nI i) (nI (zh_op (gY_ops u) i)) (gY_args u (192 + i)) (gY_kinds u (12 * i + (5 + H))) (sY_height_behind (nI (H - zh_P (gY_ops u) (gY_args u) i)) b2 u) := by
          intro b2 hb2
          have fin : ∀ x : Int32, (zt_push (zh_op (gY_ops u) i) ≠ 0 → x = if zh_op (gY_ops u) i = 20 then gY_kinds u (12 * i + (5 + H)) else if zh_op (gY_ops u) i = 2 then gY_kinds u (12 * i + (gY_args u (192 + i)).toNatClampNeg) else nI (zk_pk rf (zh_op (gY_ops u) i) (gY_args u (192 + i)))) → ∃ n, kY_does_140 post (nI (zh_op (gY_ops u) i)) x n 0 (sY_height_behind (nI (H - zh_P (gY_ops u) (gY_args u) i)) b2 u) := by
            intro x hx
            refine y_does140 o24 (by omega) (fun b3 h3 h4 => h b3 (fun e he => ?_))
            by_cases q : e < 6 + (H - zh_P (gY_ops u) (gY_args u) i)
            · rw [h3 e q, hb2 e q]
              unfold zk_y
              by_cases w3 : zh_op (gY_ops u) i = 3
              · have p1 : zh_P (gY_ops u) (gY_args u) i = 1 := by rw [eP, w3]; rfl
                by_cases w4 : e = (gY_args u (192 + i)).toNatClampNeg
                · rw [if_pos ⟨w3, w4⟩, if_pos w3, if_pos w4]
                  exact congrArg _ (by omega)
                · rw [if_neg (fun w => w4 w.2), if_pos w3, if_neg w4]
              · rw [if_neg (fun w => w3 w.1), if_neg w3]
                have n1 : ¬ e = 6 + H - zh_P (gY_ops u) (gY_args u) i := by omega
                have n2 : ¬ (e = 6 + H - zh_P (gY_ops u) (gY_args u) i ∨ e = 6 + H - zh_P (gY_ops u) (gY_args u) i + 1) := by omega
                rw [if_neg n1, if_neg n2, if_neg n1]
                repeat' split
                all_goals rfl
            · have hpush : zt_push (zh_op (gY_ops u) i) ≠ 0 := by omega
              rw [h4 e (by omega) (by omega), hx hpush]
              unfold zk_y
              by_cases w3 : zh_op (gY_ops u) i = 3
              · rw [w3] at hpush; exact absurd rfl hpush
              · rw [if_neg w3]
                by_cases w20 : zh_op (gY_ops u) i = 20
                · have p1 : zh_P (gY_ops u) (gY_args u) i = 1 := by rw [eP, w20]; rfl
                  have q2 : zh_Q (gY_ops u) i = 2 := by rw [eQ, w20]; rfl
                  rw [if_pos w20, if_neg (by omega), if_pos w20, if_pos (by omega)]
                  exact congrArg _ (by omega)
                · have q1 : zh_Q (gY_ops u) i = 1 := by
                    rw [eQ]
                    have : ∀ o, o < 24 → o ≠ 20 → zt_push o ≠ 0 → zt_push o = 1 := by decide
                    exact this _ o24 w20 hpush
                  have ee : e = 6 + H - zh_P (gY_ops u) (gY_args u) i := by omega
                  rw [if_neg w20, if_pos ee, if_neg w20, if_pos ee]
          refine uY_does_106 (yt_push o24 ?_)
          refine br_i (nI_eq (a := zt_push (zh_op (gY_ops u) i)) (b := 0) (by omega) (by decide)) (fun w => ?_) (fun w => ?_)
          · exact fin 0 (fun k => absurd w k)
          · refine br_i (nI_eq (b := 20) (by omega) (by decide)) (fun w2 => ?_) (fun w2 => ?_)
            · exact fin _ (fun _ => by rw [if_pos w2])
            · refine y_pushed (u := sY_height_behind (nI (H - zh_P (gY_ops u) (gY_args u) i)) b2 u) hr hd o24 fo hi w w2 (fun k => hc (Or.inl k)) ?_
              exact fin _ (fun _ => by rw [if_neg w2]; rfl)
        refine br_i (nI_eq (b := 3) (by omega) (by decide)) (fun w => ?_) (fun w => ?_)
        · obtain ⟨j, hj, ej⟩ := zi_fj fo (show zi_lim (zh_op (gY_ops u) i) = 6 by rw [w]; rfl) (by decide)
          refine ⟨by rw [ej]; exact vp_in_nI (by omega) (by decide), nm_e ?_⟩
          show kY_does_106 post (nI i) (nI (zh_op (gY_ops u) i)) (gY_args u (192 + i)) (b' (5 + nI H).toNatClampNeg) (sY_height_behind (nI (H - zt_pops (zh_op (gY_ops u) i) (gY_args u (192 + i)))) (upd b' (gY_args u (192 + i)).toNatClampNeg (b' (5 + nI H).toNatClampNeg)) u)
          rw [etop]
          refine go _ (fun e he => ?_)
          by_cases q : e = (gY_args u (192 + i)).toNatClampNeg
          · rw [if_pos ⟨w, q⟩, q, pk_us]
          · rw [if_neg (fun k => q k.2), pk_un q]; exact hb e (by omega)
        · show kY_does_106 post (nI i) (nI (zh_op (gY_ops u) i)) (gY_args u (192 + i)) (b' (5 + nI H).toNatClampNeg) (sY_height_behind (nI (H - zt_pops (zh_op (gY_ops u) i) (gY_args u (192 + i)))) b' u)
          rw [etop]
          refine go _ (fun e he => ?_)
          rw [if_neg (fun k => w k.1)]; exact hb e (by omega)
    | succ d ih =>
      intro k b' hk hb
      have e12 : (12 : Int32) * nI i + nI k = nI (12 * i + k) := by rw [show (12 : Int32) = nI 12 from rfl, pk_mul, nI_add]
      refine uY_does_34 (br_f (nI_ge (b := 12) (by omega) (by decide)) ⟨by rw [e12]; exact vp_in_nI (by omega) (by decide), vp_in_nI (by omega) (by decide), nm_e (nm_r (nI_1 k) ?_)⟩)
      show kY_does_34 post (nI i) (nI (zh_op (gY_ops u) i)) (gY_args u (192 + i)) (d + 1) (nI (k + 1)) (sY_height_behind (nI H) (upd b' (nI k).toNatClampNeg (gY_kinds u (12 * nI i + nI k).toNatClampNeg)) u)
      rw [e12, nI_clamp (by omega), nI_clamp (by omega)]
      refine ih (k + 1) _ (by omega) (fun e he => ?_)
      by_cases w : e = k
      · subst w; exact pk_us
      · rw [pk_un w]; exact hb e (by omega)
  exact ⟨13, z 12 0 (gY_behind u) rfl (fun e he => absurd he (by omega))⟩
