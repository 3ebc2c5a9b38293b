/-! collecting: the objects that are reached, in plain terms -/
def za_n (fc of : Nat → Int32) (o : Nat) : Nat := (fc ((of o).toNatClampNeg - 1)).toNatClampNeg
/-- o has a reference to o' -/
def za_E (fc rf of fl : Nat → Int32) (o o' : Nat) : Prop := 1 ≤ o' ∧ o' ≤ 48 ∧ ∃ f, f < za_n fc of o ∧ bt (rf ((of o).toNatClampNeg - 1)) f = true ∧ fl (16 * o + f) = nI o'
/-- the least set with the roots -/
def za_R (Rt : Nat → Prop) (E : Nat → Nat → Prop) (o : Nat) : Prop := ∀ S : Nat → Prop, (∀ a, Rt a → S a) → (∀ a b, S a → E a b → S b) → S o
theorem za_R0 {Rt : Nat → Prop} {E : Nat → Nat → Prop} {o : Nat} (h : Rt o) : za_R Rt E o := fun _ h0 _ => h0 o h
theorem za_Rs {Rt : Nat → Prop} {E : Nat → Nat → Prop} {a b : Nat} (h : za_R Rt E a) (e : E a b) : za_R Rt E b := fun S h0 h1 => h1 a b (h S h0 h1) e
/-- the heap on both sides -/
def za_H (up fc rf of fl hp : Nat → Int32) (p : Nat → Nat) (l : List Nat) (e : Nat) : Prop := zl_set of l ∧ p 0 = 0 ∧ e ≤ 49 ∧ zl_lay up fc rf of fl hp p l l 1 e
theorem za_get {up fc rf of fl hp : Nat → Int32} {p : Nat → Nat} {l : List Nat} {e : Nat} (h : za_H up fc rf of fl hp p l e) {o : Nat} (ol : o ∈ l) :
  ∃ c, c < 4 ∧ up c ≠ -2 ∧ of o = nI (c + 1) ∧ hp (p o) = nI c ∧ fc c = nI (za_n fc of o) ∧ za_n fc of o ≤ 16 ∧ (of o).toNatClampNeg - 1 = c ∧ 1 ≤ o ∧ o ≤ 48 ∧ 1 ≤ p o ∧ p o + 1 + za_n fc of o ≤ e ∧ ∀ j, j < za_n fc of o → zl_val p l (if bt (rf c) j then 2 else 1) (fl (16 * o + j)) (hp (p o + 1 + j)) := by
  obtain ⟨s, p0, e49, lay⟩ := h
  obtain ⟨hob, q1, q2⟩ := (zl_find _ _ _ lay).2 o ol
  obtain ⟨c, n, k1, k2, k3, k4, k5, k6, k7, k8⟩ := hob
  have so := (s.2.2 o).mp ol
  have ec : (of o).toNatClampNeg - 1 = c := by rw [k3, nI_clamp (by omega)]; omega
  have en : za_n fc of o = n := by unfold za_n; rw [ec, k5, nI_clamp (by omega)]
  have sz : zl_sz fc of o = 1 + za_n fc of o := rfl
  rw [sz, en] at q2
  rw [en]
  exact ⟨c, k1, k2, k3, k4, k5, k6, ec, so.1, so.2.1, q1, by omega, k8⟩
theorem za_p1 {up fc rf of fl hp : Nat → Int32} {p : Nat → Nat} {l : List Nat} {e : Nat} (h : za_H up fc rf of fl hp p l e) {o : Nat} (ol : o ∈ l) : 1 ≤ o ∧ o ≤ 48 ∧ 1 ≤ p o ∧ p o ≤ 48 := by
  obtain ⟨c, _, _, _, _, _, _, _, o1, o48, p1, pe, _⟩ := za_get h ol
  have := h.2.2.1
  exact ⟨o1, o48, p1, by omega⟩
theorem za_inj {up fc rf of fl hp : Nat → Int32} {p : Nat → Nat} {l : List Nat} {e : Nat} (h : za_H up fc rf of fl hp p l e) {o o' : Nat} (ol : o ∈ l) (ol' : o' ∈ l) (w : p o = p o') : o = o' := zl_inj _ _ _ h.2.2.2 o o' ol ol' w
/-- a field that is a reference -/
theorem za_fld {up fc rf of fl hp : Nat → Int32} {p : Nat → Nat} {l : List Nat} {e : Nat} (h : za_H up fc rf of fl hp p l e) {y x : Int32} (r : zl_ref p l y x) : ∃ o, (o = 0 ∨ o ∈ l) ∧ o ≤ 48 ∧ p o ≤ 48 ∧ y = nI o ∧ x = nI (p o) := by
  obtain ⟨o, ho, e1, e2⟩ := r
  refine ⟨o, ho, ?_, ?_, e1, e2⟩
  · rcases ho with rfl | ho
    · omega
    · exact (za_p1 h ho).2.1
  · rcases ho with rfl | ho
    · rw [h.2.1]; omega
    · exact (za_p1 h ho).2.2.2
theorem za_Rl {up fc rf of fl hp : Nat → Int32} {p : Nat → Nat} {l : List Nat} {e : Nat} (h : za_H up fc rf of fl hp p l e) {Rt : Nat → Prop} (hRt : ∀ o, Rt o → o ∈ l) {o : Nat} (r : za_R Rt (za_E fc rf of fl) o) : o ∈ l := by
  refine r (fun o => o ∈ l) hRt ?_
  rintro a b ha ⟨b1, b48, f, hf, hb, ef⟩
  obtain ⟨c, _, _, _, _, _, _, ec, _, _, _, _, hv⟩ := za_get h ha
  have v := hv f hf
  rw [ec] at hb
  rw [if_pos hb] at v
  obtain ⟨o', ho', q1, q2, e1, _⟩ := za_fld h (v.2 rfl)
  rw [ef] at e1
  have := (nI_eq (by omega) (by omega)).mp e1
  subst this
  exact ho'.resolve_left (by omega)
/-! how many are marked -/
noncomputable def za_i (p : Prop) : Nat := @ite Nat p (Classical.propDecidable p) 1 0
theorem za_i1 {p : Prop} (h : p) : za_i p = 1 := if_pos h
theorem za_i0 {p : Prop} (h : ¬ p) : za_i p = 0 := if_neg h
theorem za_ile {p q : Prop} (h : p → q) : za_i p ≤ za_i q := by
  by_cases w : p
  · rw [za_i1 w, za_i1 (h w)]; exact Nat.le_refl _
  · rw [za_i0 w]; exact Nat.zero_le _
noncomputable def za_c (M : Nat → Prop) : Nat := zs (fun i => za_i (M (i + 1))) 48
theorem za_c48 (M : Nat → Prop) : za_c M ≤ 48 := by
  have : zs (fun i => za_i (M (i + 1))) 48 ≤ 48 * 1 := zs_ub 48 (fun i _ => by
    by_cases w : M (i + 1)
    · rw [za_i1 w]; exact Nat.le_refl _
    · rw [za_i0 w]; exact Nat.zero_le _)
  exact this
theorem za_cle {M M' : Nat → Prop} (h : ∀ o, M o → M' o) : za_c M ≤ za_c M' := zs_le 48 (fun i _ => za_ile (h (i + 1)))
theorem za_clt {M M' : Nat → Prop} (h : ∀ o, M o → M' o) {o : Nat} (h1 : 1 ≤ o) (h2 : o ≤ 48) (n : ¬ M o) (y : M' o) : za_c M < za_c M' := by
  refine zs_lt 48 (fun i _ => za_ile (h (i + 1))) ⟨o - 1, by omega, ?_⟩
  have e : o - 1 + 1 = o := by omega
  show za_i (M (o - 1 + 1)) < za_i (M' (o - 1 + 1))
  rw [e, za_i0 n, za_i1 y]; exact Nat.zero_lt_one
theorem za_c1 {M : Nat → Prop} {o : Nat} (h1 : 1 ≤ o) (h2 : o ≤ 48) (y : M o) : 1 ≤ za_c M := by
  have := za_clt (M := fun _ => False) (M' := M) (fun _ w => w.elim) h1 h2 (fun w => w) y
  omega
/-! sums over the objects -/
def za_s (f : Nat → Nat) : List Nat → Nat
  | [] => 0
  | a :: t => f a + za_s f t
theorem za_s1 {f g : Nat → Nat} {a d : Nat} : ∀ n, a < n → (∀ i, i < n → i ≠ a → f i = g i) → f a = g a + d → zs f n = zs g n + d := by
  intro n
  induction n with
  | zero => intro h; omega
  | succ n ih =>
    intro h1 h2 h3
    show zs f n + f n = zs g n + g n + d
    by_cases e : a = n
    · subst e
      rw [h3, zs_eq a (fun i hi => h2 i (by omega) (by omega))]; omega
    · rw [ih (by omega) (fun i hi => h2 i (by omega)) h3, h2 n (by omega) (fun w => e w.symm)]; omega
theorem za_z0 : ∀ n, zs (fun _ => 0) n = 0 := by
  intro n
  induction n with
  | zero => rfl
  | succ n ih => show zs _ n + 0 = 0; rw [ih]
theorem za_sum {f : Nat → Nat} : ∀ l : List Nat, l.Nodup → (∀ o, o ∈ l → 1 ≤ o ∧ o ≤ 48) → za_s f l = zs (fun i => if (i + 1) ∈ l then f (i + 1) else 0) 48 := by
  intro l
  induction l with
  | nil =>
    intro _ _
    have h : zs (fun i => if (i + 1) ∈ ([] : List Nat) then f (i + 1) else 0) 48 = zs (fun _ => 0) 48 := zs_eq 48 (fun i _ => by simp)
    exact (h.trans (za_z0 48)).symm
  | cons a t ih =>
    intro nd h
    have nd' := List.nodup_cons.mp nd
    have ha := h a List.mem_cons_self
    show f a + za_s f t = _
    rw [ih nd'.2 (fun o ho => h o (List.mem_cons_of_mem _ ho)), Nat.add_comm]
    refine (za_s1 (a := a - 1) 48 (by omega) (fun i hi ne => ?_) ?_).symm
    · have : i + 1 ≠ a := by omega
      simp [this]
    · have e : a - 1 + 1 = a := by omega
      show (if a - 1 + 1 ∈ a :: t then f (a - 1 + 1) else 0) = (if a - 1 + 1 ∈ t then f (a - 1 + 1) else 0) + f a
      rw [e, if_pos List.mem_cons_self, if_neg nd'.1]; omega
/-! where they go -/
def za_pl (b : Nat → Bool) (sz : Nat → Nat) : List Nat → Nat → Nat → Nat
  | [], _, _ => 0
  | a :: t, q, o => if o = a then q else za_pl b sz t (if b a then q + sz a else q) o
def za_at (b : Nat → Bool) (sz : Nat → Nat) (P : Nat → Nat) : List Nat → Nat → Prop
  | [], _ => True
  | a :: t, q => P a = q ∧ za_at b sz P t (if b a then q + sz a else q)
theorem za_atc {b : Nat → Bool} {sz P P' : Nat → Nat} : ∀ t q, (∀ o, o ∈ t → P' o = P o) → za_at b sz P t q → za_at b sz P' t q := by
  intro t
  induction t with
  | nil => intro q _ _; trivial
  | cons a t ih =>
    intro q h w
    exact ⟨(h a List.mem_cons_self).trans w.1, ih _ (fun o ho => h o (List.mem_cons_of_mem _ ho)) w.2⟩
theorem za_atp {b : Nat → Bool} {sz : Nat → Nat} : ∀ t q, t.Nodup → za_at b sz (za_pl b sz t q) t q := by
  intro t
  induction t with
  | nil => intro q _; trivial
  | cons a t ih =>
    intro q nd
    have nd' := List.nodup_cons.mp nd
    refine ⟨if_pos rfl, za_atc _ _ (fun o ho => ?_) (ih _ nd'.2)⟩
    have ne : ¬ o = a := fun w => nd'.1 (by rw [← w]; exact ho)
    exact if_neg ne
theorem za_pl0 {b : Nat → Bool} {sz : Nat → Nat} : ∀ t q, 0 ∉ t → za_pl b sz t q 0 = 0 := by
  intro t
  induction t with
  | nil => intro q _; rfl
  | cons a t ih =>
    intro q h
    have : ¬ (0 : Nat) = a := fun w => h (by rw [w]; exact List.mem_cons_self)
    show (if 0 = a then q else za_pl b sz t _ 0) = 0
    rw [if_neg this]
    exact ih _ (fun w => h (List.mem_cons_of_mem _ w))
/-- o as it is behind the move -/
def za_mo (fc rf of hp np hq : Nat → Int32) (p P : Nat → Nat) (o : Nat) : Prop := hq (P o) = hp (p o) ∧ ∀ j, j < za_n fc of o → hq (P o + 1 + j) = if bt (rf ((of o).toNatClampNeg - 1)) j then np (hp (p o + 1 + j)).toNatClampNeg else hp (p o + 1 + j)
theorem za_ref {up fc rf of fl hp np : Nat → Int32} {p P : Nat → Nat} {l : List Nat} {e : Nat} {b : Nat → Bool} (h : za_H up fc rf of fl hp p l e) (P0 : P 0 = 0) (N0 : np 0 = 0) (hN : ∀ o, o ∈ l → b o = true → np (p o) = nI (P o)) {y x : Int32} (r : zl_ref p l y x) (hy : ∀ o, 1 ≤ o → o ≤ 48 → y = nI o → b o = true) : zl_ref P (l.filter b) y (np x.toNatClampNeg) := by
  obtain ⟨o, ho, o48, p48, e1, e2⟩ := za_fld h r
  rcases ho with rfl | ho
  · refine ⟨0, Or.inl rfl, e1, ?_⟩
    rw [e2, h.2.1, show (nI 0).toNatClampNeg = 0 from rfl, N0, P0]; rfl
  · have b1 := hy o (za_p1 h ho).1 o48 e1
    refine ⟨o, Or.inr (List.mem_filter.mpr ⟨ho, b1⟩), e1, ?_⟩
    rw [e2, nI_clamp (by omega)]
    exact hN o ho b1
theorem za_lay {up fc rf of of' fl hp np hq : Nat → Int32} {p P : Nat → Nat} {l : List Nat} {e : Nat} {b : Nat → Bool} (h : za_H up fc rf of fl hp p l e) (P0 : P 0 = 0) (N0 : np 0 = 0) (hN : ∀ o, o ∈ l → b o = true → np (p o) = nI (P o)) (ho : ∀ o, o ∈ l → b o = true → of' o = of o) (cl : ∀ o o', o ∈ l → b o = true → za_E fc rf of fl o o' → b o' = true) :
  ∀ t q, (∀ o, o ∈ t → o ∈ l) → (∀ o, o ∈ t → b o = true → za_mo fc rf of hp np hq p P o) → za_at b (zl_sz fc of) P t q → zl_lay up fc rf of' fl hq P (l.filter b) (t.filter b) q (q + za_s (zl_sz fc of) (t.filter b)) := by
  intro t
  induction t with
  | nil => intro q _ _ _; rfl
  | cons a t ih =>
    intro q hl hm ha
    have ih' := ih _ (fun o ho => hl o (List.mem_cons_of_mem _ ho)) (fun o ho => hm o (List.mem_cons_of_mem _ ho)) ha.2
    have al := hl a List.mem_cons_self
    by_cases w : b a = true
    · rw [List.filter_cons_of_pos w]
      rw [if_pos w] at ih'
      obtain ⟨c, c4, cu, eo, eh, ef, n16, ec, o1, o48, p1, pe, hv⟩ := za_get h al
      obtain ⟨m1, m2⟩ := hm a List.mem_cons_self w
      have hP : P a = q := ha.1
      have eo' : of' a = of a := ho a al w
      have es : zl_sz fc of' a = zl_sz fc of a := by unfold zl_sz; rw [eo']
      refine ⟨⟨c, za_n fc of a, c4, cu, eo'.trans eo, by rw [← hP, m1]; exact eh, ef, n16, hP, fun j hj => ?_⟩, ?_⟩
      · have mj := m2 j hj
        have vj := hv j hj
        rw [hP, ec] at mj
        by_cases bj : bt (rf c) j = true
        · rw [if_pos bj] at mj vj ⊢
          refine ⟨fun z => absurd z (by decide), fun _ => ?_⟩
          rw [mj]
          refine za_ref h P0 N0 hN (vj.2 rfl) (fun o q1 q2 q3 => cl a o al w ⟨q1, q2, j, hj, ?_, q3⟩)
          rw [ec]; exact bj
        · rw [if_neg bj] at mj vj ⊢
          refine ⟨fun _ => ?_, fun z => absurd z (by decide)⟩
          rw [mj]; exact vj.1 rfl
      · rw [es]
        have ee : q + za_s (zl_sz fc of) (a :: t.filter b) = q + zl_sz fc of a + za_s (zl_sz fc of) (t.filter b) := by
          show q + (zl_sz fc of a + _) = _
          omega
        rw [ee]; exact ih'
    · rw [List.filter_cons_of_neg w]
      rw [if_neg w] at ih'
      exact ih'
/-- the filter's sizes are no more -/
theorem za_sle {f : Nat → Nat} {b : Nat → Bool} : ∀ t : List Nat, za_s f (t.filter b) ≤ za_s f t := by
  intro t
  induction t with
  | nil => exact Nat.le_refl _
  | cons a t ih =>
    by_cases w : b a = true
    · rw [List.filter_cons_of_pos w]; show f a + _ ≤ f a + _; omega
    · rw [List.filter_cons_of_neg w]; show _ ≤ f a + _; omega
theorem za_end {up fc rf of fl hp : Nat → Int32} {p : Nat → Nat} {l : List Nat} : ∀ t q e, zl_lay up fc rf of fl hp p l t q e → e = q + za_s (zl_sz fc of) t := by
  intro t
  induction t with
  | nil => intro q e h; exact (show q = e from h).symm
  | cons a t ih =>
    intro q e h
    have := ih _ _ h.2
    show e = q + (zl_sz fc of a + _)
    omega
theorem za_len {fc of : Nat → Int32} : ∀ t : List Nat, t.length ≤ za_s (zl_sz fc of) t := by
  intro t
  induction t with
  | nil => exact Nat.le_refl _
  | cons a t ih =>
    have : 1 ≤ zl_sz fc of a := by unfold zl_sz; omega
    show t.length + 1 ≤ zl_sz fc of a + _
    omega
theorem za_sl {b : Nat → Bool} : ∀ t : List Nat, za_s (fun _ => 1) t = t.length := by
  intro t
  induction t with
  | nil => rfl
  | cons a t ih => show 1 + _ = t.length + 1; omega
