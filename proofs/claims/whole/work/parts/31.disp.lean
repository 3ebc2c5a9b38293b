/-! which way a step goes -/
section
variable {u : SX} {v : SY} {he fr wu wa ou lg dn cl sy tc lc us st og an : Int32} {re : Int64} {rd co cc ca hp np gx fm fp ce cd lk of fl gy mk hi lo sk : Nat → Int32}
theorem xd_4 {post : SX → Prop} {D m i c : Nat} {a : Int32} (hD : D ≤ 12) (hm : m < 8) (hi2 : i < 24) (hc : c ≤ 12) (e1 : fm D = nI m) (e2 : fp D = nI i) (eo : co (24 * m + i) = 4) (ec : cc (24 * m + i) = nI c) (ea : ca (24 * m + i) = a) (h : wpX_calculate (fun u1 => post u1) (rX he (nI (D + 1)) wu wa ou re lg dn cl sy tc lc rd co cc ca hp np gx fm fp ce u) 4 (nI (12 * D + c))) : wpX_step post (rX he (nI (D + 1)) wu wa ou re lg dn cl sy tc lc rd co cc ca hp np gx fm fp ce u) := by
  have v : vp_in (nI (24 * m + i)) 192 := vp_in_nI (by omega) (by decide)
  refine upX_step (xr_cp hD e1 e2 ⟨v, nm_e ⟨v, nm_e ⟨v, nm_e ?_⟩⟩⟩)
  rw [rX_codeCells, rX_codeOps, rX_codeArgs, rX_frames, nI_clamp (n := 24 * m + i) (by omega), zn_D1, eo, ec, ea, show nI D * 12 + nI c = nI (12 * D + c) by rw [show (12 : Int32) = nI 12 from rfl, pk_mul, nI_add, Nat.mul_comm]]
  repeat (first | exact uX_step_152 h | refine br_t (by decide) ?_ | refine br_f (by decide) ?_)
theorem xd_5 {post : SX → Prop} {D m i c : Nat} {a : Int32} (hD : D ≤ 12) (hm : m < 8) (hi2 : i < 24) (hc : c ≤ 12) (e1 : fm D = nI m) (e2 : fp D = nI i) (eo : co (24 * m + i) = 5) (ec : cc (24 * m + i) = nI c) (ea : ca (24 * m + i) = a) (h : wpX_calculate (fun u1 => post u1) (rX he (nI (D + 1)) wu wa ou re lg dn cl sy tc lc rd co cc ca hp np gx fm fp ce u) 5 (nI (12 * D + c))) : wpX_step post (rX he (nI (D + 1)) wu wa ou re lg dn cl sy tc lc rd co cc ca hp np gx fm fp ce u) := by
  have v : vp_in (nI (24 * m + i)) 192 := vp_in_nI (by omega) (by decide)
  refine upX_step (xr_cp hD e1 e2 ⟨v, nm_e ⟨v, nm_e ⟨v, nm_e ?_⟩⟩⟩)
  rw [rX_codeCells, rX_codeOps, rX_codeArgs, rX_frames, nI_clamp (n := 24 * m + i) (by omega), zn_D1, eo, ec, ea, show nI D * 12 + nI c = nI (12 * D + c) by rw [show (12 : Int32) = nI 12 from rfl, pk_mul, nI_add, Nat.mul_comm]]
  repeat (first | exact uX_step_152 h | refine br_t (by decide) ?_ | refine br_f (by decide) ?_)
theorem xd_6 {post : SX → Prop} {D m i c : Nat} {a : Int32} (hD : D ≤ 12) (hm : m < 8) (hi2 : i < 24) (hc : c ≤ 12) (e1 : fm D = nI m) (e2 : fp D = nI i) (eo : co (24 * m + i) = 6) (ec : cc (24 * m + i) = nI c) (ea : ca (24 * m + i) = a) (h : wpX_calculate (fun u1 => post u1) (rX he (nI (D + 1)) wu wa ou re lg dn cl sy tc lc rd co cc ca hp np gx fm fp ce u) 6 (nI (12 * D + c))) : wpX_step post (rX he (nI (D + 1)) wu wa ou re lg dn cl sy tc lc rd co cc ca hp np gx fm fp ce u) := by
  have v : vp_in (nI (24 * m + i)) 192 := vp_in_nI (by omega) (by decide)
  refine upX_step (xr_cp hD e1 e2 ⟨v, nm_e ⟨v, nm_e ⟨v, nm_e ?_⟩⟩⟩)
  rw [rX_codeCells, rX_codeOps, rX_codeArgs, rX_frames, nI_clamp (n := 24 * m + i) (by omega), zn_D1, eo, ec, ea, show nI D * 12 + nI c = nI (12 * D + c) by rw [show (12 : Int32) = nI 12 from rfl, pk_mul, nI_add, Nat.mul_comm]]
  repeat (first | exact uX_step_152 h | refine br_t (by decide) ?_ | refine br_f (by decide) ?_)
theorem xd_7 {post : SX → Prop} {D m i c : Nat} {a : Int32} (hD : D ≤ 12) (hm : m < 8) (hi2 : i < 24) (hc : c ≤ 12) (e1 : fm D = nI m) (e2 : fp D = nI i) (eo : co (24 * m + i) = 7) (ec : cc (24 * m + i) = nI c) (ea : ca (24 * m + i) = a) (h : wpX_calculate (fun u1 => post u1) (rX he (nI (D + 1)) wu wa ou re lg dn cl sy tc lc rd co cc ca hp np gx fm fp ce u) 7 (nI (12 * D + c))) : wpX_step post (rX he (nI (D + 1)) wu wa ou re lg dn cl sy tc lc rd co cc ca hp np gx fm fp ce u) := by
  have v : vp_in (nI (24 * m + i)) 192 := vp_in_nI (by omega) (by decide)
  refine upX_step (xr_cp hD e1 e2 ⟨v, nm_e ⟨v, nm_e ⟨v, nm_e ?_⟩⟩⟩)
  rw [rX_codeCells, rX_codeOps, rX_codeArgs, rX_frames, nI_clamp (n := 24 * m + i) (by omega), zn_D1, eo, ec, ea, show nI D * 12 + nI c = nI (12 * D + c) by rw [show (12 : Int32) = nI 12 from rfl, pk_mul, nI_add, Nat.mul_comm]]
  repeat (first | exact uX_step_152 h | refine br_t (by decide) ?_ | refine br_f (by decide) ?_)
theorem xd_8 {post : SX → Prop} {D m i c : Nat} {a : Int32} (hD : D ≤ 12) (hm : m < 8) (hi2 : i < 24) (hc : c ≤ 12) (e1 : fm D = nI m) (e2 : fp D = nI i) (eo : co (24 * m + i) = 8) (ec : cc (24 * m + i) = nI c) (ea : ca (24 * m + i) = a) (h : wpX_goTo (fun u1 => post u1) (rX he (nI (D + 1)) wu wa ou re lg dn cl sy tc lc rd co cc ca hp np gx fm fp ce u) a) : wpX_step post (rX he (nI (D + 1)) wu wa ou re lg dn cl sy tc lc rd co cc ca hp np gx fm fp ce u) := by
  have v : vp_in (nI (24 * m + i)) 192 := vp_in_nI (by omega) (by decide)
  refine upX_step (xr_cp hD e1 e2 ⟨v, nm_e ⟨v, nm_e ⟨v, nm_e ?_⟩⟩⟩)
  rw [rX_codeCells, rX_codeOps, rX_codeArgs, rX_frames, nI_clamp (n := 24 * m + i) (by omega), zn_D1, eo, ec, ea, show nI D * 12 + nI c = nI (12 * D + c) by rw [show (12 : Int32) = nI 12 from rfl, pk_mul, nI_add, Nat.mul_comm]]
  repeat (first | exact h | refine br_t (by decide) ?_ | refine br_f (by decide) ?_)
theorem xd_11 {post : SX → Prop} {D m i c : Nat} {a : Int32} (hD : D ≤ 12) (hm : m < 8) (hi2 : i < 24) (hc : c ≤ 12) (e1 : fm D = nI m) (e2 : fp D = nI i) (eo : co (24 * m + i) = 11) (ec : cc (24 * m + i) = nI c) (ea : ca (24 * m + i) = a) (h : wpX_compare (fun u1 => post u1) (rX he (nI (D + 1)) wu wa ou re lg dn cl sy tc lc rd co cc ca hp np gx fm fp ce u) 11 (nI (12 * D + c)) a) : wpX_step post (rX he (nI (D + 1)) wu wa ou re lg dn cl sy tc lc rd co cc ca hp np gx fm fp ce u) := by
  have v : vp_in (nI (24 * m + i)) 192 := vp_in_nI (by omega) (by decide)
  refine upX_step (xr_cp hD e1 e2 ⟨v, nm_e ⟨v, nm_e ⟨v, nm_e ?_⟩⟩⟩)
  rw [rX_codeCells, rX_codeOps, rX_codeArgs, rX_frames, nI_clamp (n := 24 * m + i) (by omega), zn_D1, eo, ec, ea, show nI D * 12 + nI c = nI (12 * D + c) by rw [show (12 : Int32) = nI 12 from rfl, pk_mul, nI_add, Nat.mul_comm]]
  repeat (first | exact uX_step_267 h | refine br_t (by decide) ?_ | refine br_f (by decide) ?_)
theorem xd_15 {post : SX → Prop} {D m i c : Nat} {a : Int32} (hD : D ≤ 12) (hm : m < 8) (hi2 : i < 24) (hc : c ≤ 12) (e1 : fm D = nI m) (e2 : fp D = nI i) (eo : co (24 * m + i) = 15) (ec : cc (24 * m + i) = nI c) (ea : ca (24 * m + i) = a) (h : wpX_compare (fun u1 => post u1) (rX he (nI (D + 1)) wu wa ou re lg dn cl sy tc lc rd co cc ca hp np gx fm fp ce u) 15 (nI (12 * D + c)) a) : wpX_step post (rX he (nI (D + 1)) wu wa ou re lg dn cl sy tc lc rd co cc ca hp np gx fm fp ce u) := by
  have v : vp_in (nI (24 * m + i)) 192 := vp_in_nI (by omega) (by decide)
  refine upX_step (xr_cp hD e1 e2 ⟨v, nm_e ⟨v, nm_e ⟨v, nm_e ?_⟩⟩⟩)
  rw [rX_codeCells, rX_codeOps, rX_codeArgs, rX_frames, nI_clamp (n := 24 * m + i) (by omega), zn_D1, eo, ec, ea, show nI D * 12 + nI c = nI (12 * D + c) by rw [show (12 : Int32) = nI 12 from rfl, pk_mul, nI_add, Nat.mul_comm]]
  repeat (first | exact uX_step_267 h | refine br_t (by decide) ?_ | refine br_f (by decide) ?_)
theorem xd_12 {post : SX → Prop} {D m i c : Nat} {a : Int32} (hD : D ≤ 12) (hm : m < 8) (hi2 : i < 24) (hc : c ≤ 12) (e1 : fm D = nI m) (e2 : fp D = nI i) (eo : co (24 * m + i) = 12) (ec : cc (24 * m + i) = nI c) (ea : ca (24 * m + i) = a) (h : wpX_makeObject (fun u1 => post u1) (rX he (nI (D + 1)) wu wa ou re lg dn cl sy tc lc rd co cc ca hp np gx fm fp ce u) (nI (12 * D + c)) a) : wpX_step post (rX he (nI (D + 1)) wu wa ou re lg dn cl sy tc lc rd co cc ca hp np gx fm fp ce u) := by
  have v : vp_in (nI (24 * m + i)) 192 := vp_in_nI (by omega) (by decide)
  refine upX_step (xr_cp hD e1 e2 ⟨v, nm_e ⟨v, nm_e ⟨v, nm_e ?_⟩⟩⟩)
  rw [rX_codeCells, rX_codeOps, rX_codeArgs, rX_frames, nI_clamp (n := 24 * m + i) (by omega), zn_D1, eo, ec, ea, show nI D * 12 + nI c = nI (12 * D + c) by rw [show (12 : Int32) = nI 12 from rfl, pk_mul, nI_add, Nat.mul_comm]]
  repeat (first | exact h | refine br_t (by decide) ?_ | refine br_f (by decide) ?_)
theorem xd_13 {post : SX → Prop} {D m i c : Nat} {a : Int32} (hD : D ≤ 12) (hm : m < 8) (hi2 : i < 24) (hc : c ≤ 12) (e1 : fm D = nI m) (e2 : fp D = nI i) (eo : co (24 * m + i) = 13) (ec : cc (24 * m + i) = nI c) (ea : ca (24 * m + i) = a) (h : wpX_getField (fun u1 => post u1) (rX he (nI (D + 1)) wu wa ou re lg dn cl sy tc lc rd co cc ca hp np gx fm fp ce u) (nI (12 * D + c)) a) : wpX_step post (rX he (nI (D + 1)) wu wa ou re lg dn cl sy tc lc rd co cc ca hp np gx fm fp ce u) := by
  have v : vp_in (nI (24 * m + i)) 192 := vp_in_nI (by omega) (by decide)
  refine upX_step (xr_cp hD e1 e2 ⟨v, nm_e ⟨v, nm_e ⟨v, nm_e ?_⟩⟩⟩)
  rw [rX_codeCells, rX_codeOps, rX_codeArgs, rX_frames, nI_clamp (n := 24 * m + i) (by omega), zn_D1, eo, ec, ea, show nI D * 12 + nI c = nI (12 * D + c) by rw [show (12 : Int32) = nI 12 from rfl, pk_mul, nI_add, Nat.mul_comm]]
  repeat (first | exact h | refine br_t (by decide) ?_ | refine br_f (by decide) ?_)
theorem xd_14 {post : SX → Prop} {D m i c : Nat} {a : Int32} (hD : D ≤ 12) (hm : m < 8) (hi2 : i < 24) (hc : c ≤ 12) (e1 : fm D = nI m) (e2 : fp D = nI i) (eo : co (24 * m + i) = 14) (ec : cc (24 * m + i) = nI c) (ea : ca (24 * m + i) = a) (h : wpX_putField (fun u1 => post u1) (rX he (nI (D + 1)) wu wa ou re lg dn cl sy tc lc rd co cc ca hp np gx fm fp ce u) (nI (12 * D + c)) a) : wpX_step post (rX he (nI (D + 1)) wu wa ou re lg dn cl sy tc lc rd co cc ca hp np gx fm fp ce u) := by
  have v : vp_in (nI (24 * m + i)) 192 := vp_in_nI (by omega) (by decide)
  refine upX_step (xr_cp hD e1 e2 ⟨v, nm_e ⟨v, nm_e ⟨v, nm_e ?_⟩⟩⟩)
  rw [rX_codeCells, rX_codeOps, rX_codeArgs, rX_frames, nI_clamp (n := 24 * m + i) (by omega), zn_D1, eo, ec, ea, show nI D * 12 + nI c = nI (12 * D + c) by rw [show (12 : Int32) = nI 12 from rfl, pk_mul, nI_add, Nat.mul_comm]]
  repeat (first | exact h | refine br_t (by decide) ?_ | refine br_f (by decide) ?_)
theorem xd_16 {post : SX → Prop} {D m i c : Nat} {a : Int32} (hD : D ≤ 12) (hm : m < 8) (hi2 : i < 24) (hc : c ≤ 12) (e1 : fm D = nI m) (e2 : fp D = nI i) (eo : co (24 * m + i) = 16) (ec : cc (24 * m + i) = nI c) (ea : ca (24 * m + i) = a) (h : wpX_callMethod (fun u1 => post u1) (rX he (nI (D + 1)) wu wa ou re lg dn cl sy tc lc rd co cc ca hp np gx fm fp ce u) (nI (24 * m + i)) (nI (12 * D + c)) a) : wpX_step post (rX he (nI (D + 1)) wu wa ou re lg dn cl sy tc lc rd co cc ca hp np gx fm fp ce u) := by
  have v : vp_in (nI (24 * m + i)) 192 := vp_in_nI (by omega) (by decide)
  refine upX_step (xr_cp hD e1 e2 ⟨v, nm_e ⟨v, nm_e ⟨v, nm_e ?_⟩⟩⟩)
  rw [rX_codeCells, rX_codeOps, rX_codeArgs, rX_frames, nI_clamp (n := 24 * m + i) (by omega), zn_D1, eo, ec, ea, show nI D * 12 + nI c = nI (12 * D + c) by rw [show (12 : Int32) = nI 12 from rfl, pk_mul, nI_add, Nat.mul_comm]]
  repeat (first | exact h | refine br_t (by decide) ?_ | refine br_f (by decide) ?_)
theorem xd_17 {post : SX → Prop} {D m i c : Nat} {a : Int32} (hD : D ≤ 12) (hm : m < 8) (hi2 : i < 24) (hc : c ≤ 12) (e1 : fm D = nI m) (e2 : fp D = nI i) (eo : co (24 * m + i) = 17) (ec : cc (24 * m + i) = nI c) (ea : ca (24 * m + i) = a) (h : wpX_sendToObject (fun u1 => post u1) (rX he (nI (D + 1)) wu wa ou re lg dn cl sy tc lc rd co cc ca hp np gx fm fp ce u) (nI (12 * D + c)) a) : wpX_step post (rX he (nI (D + 1)) wu wa ou re lg dn cl sy tc lc rd co cc ca hp np gx fm fp ce u) := by
  have v : vp_in (nI (24 * m + i)) 192 := vp_in_nI (by omega) (by decide)
  refine upX_step (xr_cp hD e1 e2 ⟨v, nm_e ⟨v, nm_e ⟨v, nm_e ?_⟩⟩⟩)
  rw [rX_codeCells, rX_codeOps, rX_codeArgs, rX_frames, nI_clamp (n := 24 * m + i) (by omega), zn_D1, eo, ec, ea, show nI D * 12 + nI c = nI (12 * D + c) by rw [show (12 : Int32) = nI 12 from rfl, pk_mul, nI_add, Nat.mul_comm]]
  repeat (first | exact h | refine br_t (by decide) ?_ | refine br_f (by decide) ?_)
theorem xd_18 {post : SX → Prop} {D m i c : Nat} {a : Int32} (hD : D ≤ 12) (hm : m < 8) (hi2 : i < 24) (hc : c ≤ 12) (e1 : fm D = nI m) (e2 : fp D = nI i) (eo : co (24 * m + i) = 18) (ec : cc (24 * m + i) = nI c) (ea : ca (24 * m + i) = a) (h : wpX_giveBack (fun u1 => post u1) (rX he (nI (D + 1)) wu wa ou re lg dn cl sy tc lc rd co cc ca hp np gx fm fp ce u) (ce (12 * D + c))) : wpX_step post (rX he (nI (D + 1)) wu wa ou re lg dn cl sy tc lc rd co cc ca hp np gx fm fp ce u) := by
  have v : vp_in (nI (24 * m + i)) 192 := vp_in_nI (by omega) (by decide)
  have hcc : (nI (12 * D + c)).toNatClampNeg = 12 * D + c := nI_clamp (by omega)
  have g : vp_in (nI (12 * D + c)) 168 ∧ wpX_giveBack (fun u1 => post u1) (rX he (nI (D + 1)) wu wa ou re lg dn cl sy tc lc rd co cc ca hp np gx fm fp ce u) (ce (nI (12 * D + c)).toNatClampNeg) := ⟨vp_in_nI (by omega) (by decide), by rw [hcc]; exact h⟩
  refine upX_step (xr_cp hD e1 e2 ⟨v, nm_e ⟨v, nm_e ⟨v, nm_e ?_⟩⟩⟩)
  rw [rX_codeCells, rX_codeOps, rX_codeArgs, rX_frames, nI_clamp (n := 24 * m + i) (by omega), zn_D1, eo, ec, ea, show nI D * 12 + nI c = nI (12 * D + c) by rw [show (12 : Int32) = nI 12 from rfl, pk_mul, nI_add, Nat.mul_comm]]
  repeat (first | exact g | refine br_t (by decide) ?_ | refine br_f (by decide) ?_)
theorem xd_19 {post : SX → Prop} {D m i c : Nat} {a : Int32} (hD : D ≤ 12) (hm : m < 8) (hi2 : i < 24) (hc : c ≤ 12) (e1 : fm D = nI m) (e2 : fp D = nI i) (eo : co (24 * m + i) = 19) (ec : cc (24 * m + i) = nI c) (ea : ca (24 * m + i) = a) (h : wpX_raise (fun u1 => post u1) (rX he (nI (D + 1)) wu wa ou re lg dn cl sy tc lc rd co cc ca hp np gx fm fp ce u) (ce (12 * D + c))) : wpX_step post (rX he (nI (D + 1)) wu wa ou re lg dn cl sy tc lc rd co cc ca hp np gx fm fp ce u) := by
  have v : vp_in (nI (24 * m + i)) 192 := vp_in_nI (by omega) (by decide)
  have hcc : (nI (12 * D + c)).toNatClampNeg = 12 * D + c := nI_clamp (by omega)
  have g : vp_in (nI (12 * D + c)) 168 ∧ wpX_raise (fun u1 => post u1) (rX he (nI (D + 1)) wu wa ou re lg dn cl sy tc lc rd co cc ca hp np gx fm fp ce u) (ce (nI (12 * D + c)).toNatClampNeg) := ⟨vp_in_nI (by omega) (by decide), by rw [hcc]; exact h⟩
  refine upX_step (xr_cp hD e1 e2 ⟨v, nm_e ⟨v, nm_e ⟨v, nm_e ?_⟩⟩⟩)
  rw [rX_codeCells, rX_codeOps, rX_codeArgs, rX_frames, nI_clamp (n := 24 * m + i) (by omega), zn_D1, eo, ec, ea, show nI D * 12 + nI c = nI (12 * D + c) by rw [show (12 : Int32) = nI 12 from rfl, pk_mul, nI_add, Nat.mul_comm]]
  repeat (first | exact g | refine br_t (by decide) ?_ | refine br_f (by decide) ?_)
theorem xd_22 {post : SX → Prop} {D m i c : Nat} {a : Int32} (hD : D ≤ 12) (hm : m < 8) (hi2 : i < 24) (hc : c ≤ 12) (e1 : fm D = nI m) (e2 : fp D = nI i) (eo : co (24 * m + i) = 22) (ec : cc (24 * m + i) = nI c) (ea : ca (24 * m + i) = a) (h : wpX_moveValue (fun u1 => post u1) (rX he (nI (D + 1)) wu wa ou re lg dn cl sy tc lc rd co cc ca hp np gx fm fp ce u) 22 (nI (12 * D + c)) a) : wpX_step post (rX he (nI (D + 1)) wu wa ou re lg dn cl sy tc lc rd co cc ca hp np gx fm fp ce u) := by
  have v : vp_in (nI (24 * m + i)) 192 := vp_in_nI (by omega) (by decide)
  refine upX_step (xr_cp hD e1 e2 ⟨v, nm_e ⟨v, nm_e ⟨v, nm_e ?_⟩⟩⟩)
  rw [rX_codeCells, rX_codeOps, rX_codeArgs, rX_frames, nI_clamp (n := 24 * m + i) (by omega), zn_D1, eo, ec, ea, show nI D * 12 + nI c = nI (12 * D + c) by rw [show (12 : Int32) = nI 12 from rfl, pk_mul, nI_add, Nat.mul_comm]]
  repeat (first | exact uX_step_278 h | refine br_t (by decide) ?_ | refine br_f (by decide) ?_)
theorem xd_23 {post : SX → Prop} {D m i c : Nat} {a : Int32} (hD : D ≤ 12) (hm : m < 8) (hi2 : i < 24) (hc : c ≤ 12) (e1 : fm D = nI m) (e2 : fp D = nI i) (eo : co (24 * m + i) = 23) (ec : cc (24 * m + i) = nI c) (ea : ca (24 * m + i) = a) (h : wpX_moveValue (fun u1 => post u1) (rX he (nI (D + 1)) wu wa ou re lg dn cl sy tc lc rd co cc ca hp np gx fm fp ce u) 23 (nI (12 * D + c)) a) : wpX_step post (rX he (nI (D + 1)) wu wa ou re lg dn cl sy tc lc rd co cc ca hp np gx fm fp ce u) := by
  have v : vp_in (nI (24 * m + i)) 192 := vp_in_nI (by omega) (by decide)
  refine upX_step (xr_cp hD e1 e2 ⟨v, nm_e ⟨v, nm_e ⟨v, nm_e ?_⟩⟩⟩)
  rw [rX_codeCells, rX_codeOps, rX_codeArgs, rX_frames, nI_clamp (n := 24 * m + i) (by omega), zn_D1, eo, ec, ea, show nI D * 12 + nI c = nI (12 * D + c) by rw [show (12 : Int32) = nI 12 from rfl, pk_mul, nI_add, Nat.mul_comm]]
  repeat (first | exact uX_step_278 h | refine br_t (by decide) ?_ | refine br_f (by decide) ?_)
theorem xd_24 {post : SX → Prop} {D m i c : Nat} {a : Int32} (hD : D ≤ 12) (hm : m < 8) (hi2 : i < 24) (hc : c ≤ 12) (e1 : fm D = nI m) (e2 : fp D = nI i) (eo : co (24 * m + i) = 24) (ec : cc (24 * m + i) = nI c) (ea : ca (24 * m + i) = a) (h : wpX_moveValue (fun u1 => post u1) (rX he (nI (D + 1)) wu wa ou re lg dn cl sy tc lc rd co cc ca hp np gx fm fp ce u) 24 (nI (12 * D + c)) a) : wpX_step post (rX he (nI (D + 1)) wu wa ou re lg dn cl sy tc lc rd co cc ca hp np gx fm fp ce u) := by
  have v : vp_in (nI (24 * m + i)) 192 := vp_in_nI (by omega) (by decide)
  refine upX_step (xr_cp hD e1 e2 ⟨v, nm_e ⟨v, nm_e ⟨v, nm_e ?_⟩⟩⟩)
  rw [rX_codeCells, rX_codeOps, rX_codeArgs, rX_frames, nI_clamp (n := 24 * m + i) (by omega), zn_D1, eo, ec, ea, show nI D * 12 + nI c = nI (12 * D + c) by rw [show (12 : Int32) = nI 12 from rfl, pk_mul, nI_add, Nat.mul_comm]]
  repeat (first | exact uX_step_278 h | refine br_t (by decide) ?_ | refine br_f (by decide) ?_)
theorem xd_25 {post : SX → Prop} {D m i c : Nat} {a : Int32} (hD : D ≤ 12) (hm : m < 8) (hi2 : i < 24) (hc : c ≤ 12) (e1 : fm D = nI m) (e2 : fp D = nI i) (eo : co (24 * m + i) = 25) (ec : cc (24 * m + i) = nI c) (ea : ca (24 * m + i) = a) (h : wpX_moveValue (fun u1 => post u1) (rX he (nI (D + 1)) wu wa ou re lg dn cl sy tc lc rd co cc ca hp np gx fm fp ce u) 25 (nI (12 * D + c)) a) : wpX_step post (rX he (nI (D + 1)) wu wa ou re lg dn cl sy tc lc rd co cc ca hp np gx fm fp ce u) := by
  have v : vp_in (nI (24 * m + i)) 192 := vp_in_nI (by omega) (by decide)
  refine upX_step (xr_cp hD e1 e2 ⟨v, nm_e ⟨v, nm_e ⟨v, nm_e ?_⟩⟩⟩)
  rw [rX_codeCells, rX_codeOps, rX_codeArgs, rX_frames, nI_clamp (n := 24 * m + i) (by omega), zn_D1, eo, ec, ea, show nI D * 12 + nI c = nI (12 * D + c) by rw [show (12 : Int32) = nI 12 from rfl, pk_mul, nI_add, Nat.mul_comm]]
  repeat (first | exact uX_step_278 h | refine br_t (by decide) ?_ | refine br_f (by decide) ?_)
theorem xd_26 {post : SX → Prop} {D m i c : Nat} {a : Int32} (hD : D ≤ 12) (hm : m < 8) (hi2 : i < 24) (hc : c ≤ 12) (e1 : fm D = nI m) (e2 : fp D = nI i) (eo : co (24 * m + i) = 26) (ec : cc (24 * m + i) = nI c) (ea : ca (24 * m + i) = a) (h : wpX_moveValue (fun u1 => post u1) (rX he (nI (D + 1)) wu wa ou re lg dn cl sy tc lc rd co cc ca hp np gx fm fp ce u) 26 (nI (12 * D + c)) a) : wpX_step post (rX he (nI (D + 1)) wu wa ou re lg dn cl sy tc lc rd co cc ca hp np gx fm fp ce u) := by
  have v : vp_in (nI (24 * m + i)) 192 := vp_in_nI (by omega) (by decide)
  refine upX_step (xr_cp hD e1 e2 ⟨v, nm_e ⟨v, nm_e ⟨v, nm_e ?_⟩⟩⟩)
  rw [rX_codeCells, rX_codeOps, rX_codeArgs, rX_frames, nI_clamp (n := 24 * m + i) (by omega), zn_D1, eo, ec, ea, show nI D * 12 + nI c = nI (12 * D + c) by rw [show (12 : Int32) = nI 12 from rfl, pk_mul, nI_add, Nat.mul_comm]]
  repeat (first | exact uX_step_278 h | refine br_t (by decide) ?_ | refine br_f (by decide) ?_)
theorem xd_27 {post : SX → Prop} {D m i c : Nat} {a : Int32} (hD : D ≤ 12) (hm : m < 8) (hi2 : i < 24) (hc : c ≤ 12) (e1 : fm D = nI m) (e2 : fp D = nI i) (eo : co (24 * m + i) = 27) (ec : cc (24 * m + i) = nI c) (ea : ca (24 * m + i) = a) (h : wpX_branch (fun u1 => post u1) (rX he (nI (D + 1)) wu wa ou re lg dn cl sy tc lc rd co cc ca hp np gx fm fp ce u) (nI (12 * D + c)) a) : wpX_step post (rX he (nI (D + 1)) wu wa ou re lg dn cl sy tc lc rd co cc ca hp np gx fm fp ce u) := by
  have v : vp_in (nI (24 * m + i)) 192 := vp_in_nI (by omega) (by decide)
  refine upX_step (xr_cp hD e1 e2 ⟨v, nm_e ⟨v, nm_e ⟨v, nm_e ?_⟩⟩⟩)
  rw [rX_codeCells, rX_codeOps, rX_codeArgs, rX_frames, nI_clamp (n := 24 * m + i) (by omega), zn_D1, eo, ec, ea, show nI D * 12 + nI c = nI (12 * D + c) by rw [show (12 : Int32) = nI 12 from rfl, pk_mul, nI_add, Nat.mul_comm]]
  repeat (first | exact h | refine br_t (by decide) ?_ | refine br_f (by decide) ?_)
theorem xd_28 {post : SX → Prop} {D m i c : Nat} {a : Int32} (hD : D ≤ 12) (hm : m < 8) (hi2 : i < 24) (hc : c ≤ 12) (e1 : fm D = nI m) (e2 : fp D = nI i) (eo : co (24 * m + i) = 28) (ec : cc (24 * m + i) = nI c) (ea : ca (24 * m + i) = a) (h : wpX_handOver (fun u1 => post u1) (rX he (nI (D + 1)) wu wa ou re lg dn cl sy tc lc rd co cc ca hp np gx fm fp ce u) (nI (12 * D + c)) a) : wpX_step post (rX he (nI (D + 1)) wu wa ou re lg dn cl sy tc lc rd co cc ca hp np gx fm fp ce u) := by
  have v : vp_in (nI (24 * m + i)) 192 := vp_in_nI (by omega) (by decide)
  refine upX_step (xr_cp hD e1 e2 ⟨v, nm_e ⟨v, nm_e ⟨v, nm_e ?_⟩⟩⟩)
  rw [rX_codeCells, rX_codeOps, rX_codeArgs, rX_frames, nI_clamp (n := 24 * m + i) (by omega), zn_D1, eo, ec, ea, show nI D * 12 + nI c = nI (12 * D + c) by rw [show (12 : Int32) = nI 12 from rfl, pk_mul, nI_add, Nat.mul_comm]]
  repeat (first | exact h | refine br_t (by decide) ?_ | refine br_f (by decide) ?_)
theorem yd_4 {post : SY → Prop} {D m i : Nat} {a : Int32} (hD : D ≤ 12) (hm : m < 8) (hi2 : i < 24) (e1 : fm D = nI m) (e2 : fp D = nI i) (eo : gY_ops v (24 * m + i) = 4) (ea : gY_args v (24 * m + i) = a) (h : wpY_calculate (fun u1 => post u1) (rY us (nI (D + 1)) wu (st + 1) og an cl sy tc lc re rd cd lk of fl gy mk fm fp hi lo sk v) 4) : wpY_step post (rY us (nI (D + 1)) wu st og an cl sy tc lc re rd cd lk of fl gy mk fm fp hi lo sk v) := by
  have vD : vp_in (nI D) 14 := vp_in_nI (by omega) (by decide)
  have cD : (nI D).toNatClampNeg = D := nI_clamp (by omega)
  have e24 : (24 : Int32) * nI m + nI i = nI (24 * m + i) := by rw [show (24 : Int32) = nI 24 from rfl, pk_mul, nI_add]
  have v216 : vp_in (nI (24 * m + i)) 216 := vp_in_nI (by omega) (by decide)
  refine upY_step (nm_r (zn_D1 D) ?_)
  rw [rY_method, rY_at, rY_ops, rY_args, rY_steps, cD, e1, e2, e24]
  refine ⟨vD, vD, nm_e ⟨v216, nm_e ⟨v216, nm_e (nm_e ?_)⟩⟩⟩
  rw [nI_clamp (by omega), eo, ea, rY__steps]
  repeat (first | exact uY_step_66 h | refine br_t (by decide) ?_ | refine br_f (by decide) ?_ | refine uY_step_60 ?_)
theorem yd_5 {post : SY → Prop} {D m i : Nat} {a : Int32} (hD : D ≤ 12) (hm : m < 8) (hi2 : i < 24) (e1 : fm D = nI m) (e2 : fp D = nI i) (eo : gY_ops v (24 * m + i) = 5) (ea : gY_args v (24 * m + i) = a) (h : wpY_calculate (fun u1 => post u1) (rY us (nI (D + 1)) wu (st + 1) og an cl sy tc lc re rd cd lk of fl gy mk fm fp hi lo sk v) 5) : wpY_step post (rY us (nI (D + 1)) wu st og an cl sy tc lc re rd cd lk of fl gy mk fm fp hi lo sk v) := by
  have vD : vp_in (nI D) 14 := vp_in_nI (by omega) (by decide)
  have cD : (nI D).toNatClampNeg = D := nI_clamp (by omega)
  have e24 : (24 : Int32) * nI m + nI i = nI (24 * m + i) := by rw [show (24 : Int32) = nI 24 from rfl, pk_mul, nI_add]
  have v216 : vp_in (nI (24 * m + i)) 216 := vp_in_nI (by omega) (by decide)
  refine upY_step (nm_r (zn_D1 D) ?_)
  rw [rY_method, rY_at, rY_ops, rY_args, rY_steps, cD, e1, e2, e24]
  refine ⟨vD, vD, nm_e ⟨v216, nm_e ⟨v216, nm_e (nm_e ?_)⟩⟩⟩
  rw [nI_clamp (by omega), eo, ea, rY__steps]
  repeat (first | exact uY_step_66 h | refine br_t (by decide) ?_ | refine br_f (by decide) ?_ | refine uY_step_60 ?_)
theorem yd_6 {post : SY → Prop} {D m i : Nat} {a : Int32} (hD : D ≤ 12) (hm : m < 8) (hi2 : i < 24) (e1 : fm D = nI m) (e2 : fp D = nI i) (eo : gY_ops v (24 * m + i) = 6) (ea : gY_args v (24 * m + i) = a) (h : wpY_calculate (fun u1 => post u1) (rY us (nI (D + 1)) wu (st + 1) og an cl sy tc lc re rd cd lk of fl gy mk fm fp hi lo sk v) 6) : wpY_step post (rY us (nI (D + 1)) wu st og an cl sy tc lc re rd cd lk of fl gy mk fm fp hi lo sk v) := by
  have vD : vp_in (nI D) 14 := vp_in_nI (by omega) (by decide)
  have cD : (nI D).toNatClampNeg = D := nI_clamp (by omega)
  have e24 : (24 : Int32) * nI m + nI i = nI (24 * m + i) := by rw [show (24 : Int32) = nI 24 from rfl, pk_mul, nI_add]
  have v216 : vp_in (nI (24 * m + i)) 216 := vp_in_nI (by omega) (by decide)
  refine upY_step (nm_r (zn_D1 D) ?_)
  rw [rY_method, rY_at, rY_ops, rY_args, rY_steps, cD, e1, e2, e24]
  refine ⟨vD, vD, nm_e ⟨v216, nm_e ⟨v216, nm_e (nm_e ?_)⟩⟩⟩
  rw [nI_clamp (by omega), eo, ea, rY__steps]
  repeat (first | exact uY_step_66 h | refine br_t (by decide) ?_ | refine br_f (by decide) ?_ | refine uY_step_60 ?_)
theorem yd_7 {post : SY → Prop} {D m i : Nat} {a : Int32} (hD : D ≤ 12) (hm : m < 8) (hi2 : i < 24) (e1 : fm D = nI m) (e2 : fp D = nI i) (eo : gY_ops v (24 * m + i) = 7) (ea : gY_args v (24 * m + i) = a) (h : wpY_calculate (fun u1 => post u1) (rY us (nI (D + 1)) wu (st + 1) og an cl sy tc lc re rd cd lk of fl gy mk fm fp hi lo sk v) 7) : wpY_step post (rY us (nI (D + 1)) wu st og an cl sy tc lc re rd cd lk of fl gy mk fm fp hi lo sk v) := by
  have vD : vp_in (nI D) 14 := vp_in_nI (by omega) (by decide)
  have cD : (nI D).toNatClampNeg = D := nI_clamp (by omega)
  have e24 : (24 : Int32) * nI m + nI i = nI (24 * m + i) := by rw [show (24 : Int32) = nI 24 from rfl, pk_mul, nI_add]
  have v216 : vp_in (nI (24 * m + i)) 216 := vp_in_nI (by omega) (by decide)
  refine upY_step (nm_r (zn_D1 D) ?_)
  rw [rY_method, rY_at, rY_ops, rY_args, rY_steps, cD, e1, e2, e24]
  refine ⟨vD, vD, nm_e ⟨v216, nm_e ⟨v216, nm_e (nm_e ?_)⟩⟩⟩
  rw [nI_clamp (by omega), eo, ea, rY__steps]
  repeat (first | exact uY_step_66 h | refine br_t (by decide) ?_ | refine br_f (by decide) ?_ | refine uY_step_60 ?_)
theorem yd_11 {post : SY → Prop} {D m i : Nat} {a : Int32} (hD : D ≤ 12) (hm : m < 8) (hi2 : i < 24) (e1 : fm D = nI m) (e2 : fp D = nI i) (eo : gY_ops v (24 * m + i) = 11) (ea : gY_args v (24 * m + i) = a) (h : wpY_calculate (fun u1 => post u1) (rY us (nI (D + 1)) wu (st + 1) og an cl sy tc lc re rd cd lk of fl gy mk fm fp hi lo sk v) 11) : wpY_step post (rY us (nI (D + 1)) wu st og an cl sy tc lc re rd cd lk of fl gy mk fm fp hi lo sk v) := by
  have vD : vp_in (nI D) 14 := vp_in_nI (by omega) (by decide)
  have cD : (nI D).toNatClampNeg = D := nI_clamp (by omega)
  have e24 : (24 : Int32) * nI m + nI i = nI (24 * m + i) := by rw [show (24 : Int32) = nI 24 from rfl, pk_mul, nI_add]
  have v216 : vp_in (nI (24 * m + i)) 216 := vp_in_nI (by omega) (by decide)
  refine upY_step (nm_r (zn_D1 D) ?_)
  rw [rY_method, rY_at, rY_ops, rY_args, rY_steps, cD, e1, e2, e24]
  refine ⟨vD, vD, nm_e ⟨v216, nm_e ⟨v216, nm_e (nm_e ?_)⟩⟩⟩
  rw [nI_clamp (by omega), eo, ea, rY__steps]
  repeat (first | exact uY_step_66 h | refine br_t (by decide) ?_ | refine br_f (by decide) ?_ | refine uY_step_60 ?_)
theorem yd_12 {post : SY → Prop} {D m i : Nat} {a : Int32} (hD : D ≤ 12) (hm : m < 8) (hi2 : i < 24) (e1 : fm D = nI m) (e2 : fp D = nI i) (eo : gY_ops v (24 * m + i) = 12) (ea : gY_args v (24 * m + i) = a) (h : wpY_create1 (fun u1 => post u1) (rY us (nI (D + 1)) wu (st + 1) og an cl sy tc lc re rd cd lk of fl gy mk fm fp hi lo sk v) a) : wpY_step post (rY us (nI (D + 1)) wu st og an cl sy tc lc re rd cd lk of fl gy mk fm fp hi lo sk v) := by
  have vD : vp_in (nI D) 14 := vp_in_nI (by omega) (by decide)
  have cD : (nI D).toNatClampNeg = D := nI_clamp (by omega)
  have e24 : (24 : Int32) * nI m + nI i = nI (24 * m + i) := by rw [show (24 : Int32) = nI 24 from rfl, pk_mul, nI_add]
  have v216 : vp_in (nI (24 * m + i)) 216 := vp_in_nI (by omega) (by decide)
  refine upY_step (nm_r (zn_D1 D) ?_)
  rw [rY_method, rY_at, rY_ops, rY_args, rY_steps, cD, e1, e2, e24]
  refine ⟨vD, vD, nm_e ⟨v216, nm_e ⟨v216, nm_e (nm_e ?_)⟩⟩⟩
  rw [nI_clamp (by omega), eo, ea, rY__steps]
  repeat (first | exact h | refine br_t (by decide) ?_ | refine br_f (by decide) ?_ | refine uY_step_60 ?_)
theorem yd_13 {post : SY → Prop} {D m i : Nat} {a : Int32} (hD : D ≤ 12) (hm : m < 8) (hi2 : i < 24) (e1 : fm D = nI m) (e2 : fp D = nI i) (eo : gY_ops v (24 * m + i) = 13) (ea : gY_args v (24 * m + i) = a) (h : wpY_field (fun u1 => post u1) (rY us (nI (D + 1)) wu (st + 1) og an cl sy tc lc re rd cd lk of fl gy mk fm fp hi lo sk v) 13 a) : wpY_step post (rY us (nI (D + 1)) wu st og an cl sy tc lc re rd cd lk of fl gy mk fm fp hi lo sk v) := by
  have vD : vp_in (nI D) 14 := vp_in_nI (by omega) (by decide)
  have cD : (nI D).toNatClampNeg = D := nI_clamp (by omega)
  have e24 : (24 : Int32) * nI m + nI i = nI (24 * m + i) := by rw [show (24 : Int32) = nI 24 from rfl, pk_mul, nI_add]
  have v216 : vp_in (nI (24 * m + i)) 216 := vp_in_nI (by omega) (by decide)
  refine upY_step (nm_r (zn_D1 D) ?_)
  rw [rY_method, rY_at, rY_ops, rY_args, rY_steps, cD, e1, e2, e24]
  refine ⟨vD, vD, nm_e ⟨v216, nm_e ⟨v216, nm_e (nm_e ?_)⟩⟩⟩
  rw [nI_clamp (by omega), eo, ea, rY__steps]
  repeat (first | exact uY_step_101 h | refine br_t (by decide) ?_ | refine br_f (by decide) ?_ | refine uY_step_60 ?_)
theorem yd_14 {post : SY → Prop} {D m i : Nat} {a : Int32} (hD : D ≤ 12) (hm : m < 8) (hi2 : i < 24) (e1 : fm D = nI m) (e2 : fp D = nI i) (eo : gY_ops v (24 * m + i) = 14) (ea : gY_args v (24 * m + i) = a) (h : wpY_field (fun u1 => post u1) (rY us (nI (D + 1)) wu (st + 1) og an cl sy tc lc re rd cd lk of fl gy mk fm fp hi lo sk v) 14 a) : wpY_step post (rY us (nI (D + 1)) wu st og an cl sy tc lc re rd cd lk of fl gy mk fm fp hi lo sk v) := by
  have vD : vp_in (nI D) 14 := vp_in_nI (by omega) (by decide)
  have cD : (nI D).toNatClampNeg = D := nI_clamp (by omega)
  have e24 : (24 : Int32) * nI m + nI i = nI (24 * m + i) := by rw [show (24 : Int32) = nI 24 from rfl, pk_mul, nI_add]
  have v216 : vp_in (nI (24 * m + i)) 216 := vp_in_nI (by omega) (by decide)
  refine upY_step (nm_r (zn_D1 D) ?_)
  rw [rY_method, rY_at, rY_ops, rY_args, rY_steps, cD, e1, e2, e24]
  refine ⟨vD, vD, nm_e ⟨v216, nm_e ⟨v216, nm_e (nm_e ?_)⟩⟩⟩
  rw [nI_clamp (by omega), eo, ea, rY__steps]
  repeat (first | exact uY_step_101 h | refine br_t (by decide) ?_ | refine br_f (by decide) ?_ | refine uY_step_60 ?_)
theorem yd_16 {post : SY → Prop} {D m i : Nat} {a : Int32} (hD : D ≤ 12) (hm : m < 8) (hi2 : i < 24) (e1 : fm D = nI m) (e2 : fp D = nI i) (eo : gY_ops v (24 * m + i) = 16) (ea : gY_args v (24 * m + i) = a) (h : wpY_link (fun u1 => post u1) (rY us (nI (D + 1)) wu (st + 1) og an cl sy tc lc re rd cd lk of fl gy mk fm fp hi lo sk v) (nI (24 * m + i)) a) : wpY_step post (rY us (nI (D + 1)) wu st og an cl sy tc lc re rd cd lk of fl gy mk fm fp hi lo sk v) := by
  have vD : vp_in (nI D) 14 := vp_in_nI (by omega) (by decide)
  have cD : (nI D).toNatClampNeg = D := nI_clamp (by omega)
  have e24 : (24 : Int32) * nI m + nI i = nI (24 * m + i) := by rw [show (24 : Int32) = nI 24 from rfl, pk_mul, nI_add]
  have v216 : vp_in (nI (24 * m + i)) 216 := vp_in_nI (by omega) (by decide)
  refine upY_step (nm_r (zn_D1 D) ?_)
  rw [rY_method, rY_at, rY_ops, rY_args, rY_steps, cD, e1, e2, e24]
  refine ⟨vD, vD, nm_e ⟨v216, nm_e ⟨v216, nm_e (nm_e ?_)⟩⟩⟩
  rw [nI_clamp (by omega), eo, ea, rY__steps]
  repeat (first | exact h | refine br_t (by decide) ?_ | refine br_f (by decide) ?_ | refine uY_step_60 ?_)
theorem yd_17 {post : SY → Prop} {D m i : Nat} {a : Int32} (hD : D ≤ 12) (hm : m < 8) (hi2 : i < 24) (e1 : fm D = nI m) (e2 : fp D = nI i) (eo : gY_ops v (24 * m + i) = 17) (ea : gY_args v (24 * m + i) = a) (h : wpY_send (fun u1 => post u1) (rY us (nI (D + 1)) wu (st + 1) og an cl sy tc lc re rd cd lk of fl gy mk fm fp hi lo sk v) a) : wpY_step post (rY us (nI (D + 1)) wu st og an cl sy tc lc re rd cd lk of fl gy mk fm fp hi lo sk v) := by
  have vD : vp_in (nI D) 14 := vp_in_nI (by omega) (by decide)
  have cD : (nI D).toNatClampNeg = D := nI_clamp (by omega)
  have e24 : (24 : Int32) * nI m + nI i = nI (24 * m + i) := by rw [show (24 : Int32) = nI 24 from rfl, pk_mul, nI_add]
  have v216 : vp_in (nI (24 * m + i)) 216 := vp_in_nI (by omega) (by decide)
  refine upY_step (nm_r (zn_D1 D) ?_)
  rw [rY_method, rY_at, rY_ops, rY_args, rY_steps, cD, e1, e2, e24]
  refine ⟨vD, vD, nm_e ⟨v216, nm_e ⟨v216, nm_e (nm_e ?_)⟩⟩⟩
  rw [nI_clamp (by omega), eo, ea, rY__steps]
  repeat (first | exact h | refine br_t (by decide) ?_ | refine br_f (by decide) ?_ | refine uY_step_60 ?_)
theorem yd_18 {post : SY → Prop} {D m i : Nat} {a : Int32} (hD : D ≤ 12) (hm : m < 8) (hi2 : i < 24) (e1 : fm D = nI m) (e2 : fp D = nI i) (eo : gY_ops v (24 * m + i) = 18) (ea : gY_args v (24 * m + i) = a) (h : wpY_pop (fun r u1 => ((18 : Int32) = 18 → wpY_leave (fun u2 => post u2) u1 r) ∧ (¬ (18 : Int32) = 18 → wpY_raise (fun u3 => post u3) u1 r)) (rY us (nI (D + 1)) wu (st + 1) og an cl sy tc lc re rd cd lk of fl gy mk fm fp hi lo sk v)) : wpY_step post (rY us (nI (D + 1)) wu st og an cl sy tc lc re rd cd lk of fl gy mk fm fp hi lo sk v) := by
  have vD : vp_in (nI D) 14 := vp_in_nI (by omega) (by decide)
  have cD : (nI D).toNatClampNeg = D := nI_clamp (by omega)
  have e24 : (24 : Int32) * nI m + nI i = nI (24 * m + i) := by rw [show (24 : Int32) = nI 24 from rfl, pk_mul, nI_add]
  have v216 : vp_in (nI (24 * m + i)) 216 := vp_in_nI (by omega) (by decide)
  refine upY_step (nm_r (zn_D1 D) ?_)
  rw [rY_method, rY_at, rY_ops, rY_args, rY_steps, cD, e1, e2, e24]
  refine ⟨vD, vD, nm_e ⟨v216, nm_e ⟨v216, nm_e (nm_e ?_)⟩⟩⟩
  rw [nI_clamp (by omega), eo, ea, rY__steps]
  repeat (first | exact uY_step_154 h | refine br_t (by decide) ?_ | refine br_f (by decide) ?_ | refine uY_step_60 ?_)
theorem yd_19 {post : SY → Prop} {D m i : Nat} {a : Int32} (hD : D ≤ 12) (hm : m < 8) (hi2 : i < 24) (e1 : fm D = nI m) (e2 : fp D = nI i) (eo : gY_ops v (24 * m + i) = 19) (ea : gY_args v (24 * m + i) = a) (h : wpY_pop (fun r u1 => ((19 : Int32) = 18 → wpY_leave (fun u2 => post u2) u1 r) ∧ (¬ (19 : Int32) = 18 → wpY_raise (fun u3 => post u3) u1 r)) (rY us (nI (D + 1)) wu (st + 1) og an cl sy tc lc re rd cd lk of fl gy mk fm fp hi lo sk v)) : wpY_step post (rY us (nI (D + 1)) wu st og an cl sy tc lc re rd cd lk of fl gy mk fm fp hi lo sk v) := by
  have vD : vp_in (nI D) 14 := vp_in_nI (by omega) (by decide)
  have cD : (nI D).toNatClampNeg = D := nI_clamp (by omega)
  have e24 : (24 : Int32) * nI m + nI i = nI (24 * m + i) := by rw [show (24 : Int32) = nI 24 from rfl, pk_mul, nI_add]
  have v216 : vp_in (nI (24 * m + i)) 216 := vp_in_nI (by omega) (by decide)
  refine upY_step (nm_r (zn_D1 D) ?_)
  rw [rY_method, rY_at, rY_ops, rY_args, rY_steps, cD, e1, e2, e24]
  refine ⟨vD, vD, nm_e ⟨v216, nm_e ⟨v216, nm_e (nm_e ?_)⟩⟩⟩
  rw [nI_clamp (by omega), eo, ea, rY__steps]
  repeat (first | exact uY_step_154 h | refine br_t (by decide) ?_ | refine br_f (by decide) ?_ | refine uY_step_60 ?_)
theorem yd_0 {post : SY → Prop} {D m i : Nat} {a : Int32} (hD : D ≤ 12) (hm : m < 8) (hi2 : i < 24) (e1 : fm D = nI m) (e2 : fp D = nI i) (eo : gY_ops v (24 * m + i) = 0) (ea : gY_args v (24 * m + i) = a) (h : wpY_plain (fun u1 => post u1) (rY us (nI (D + 1)) wu (st + 1) og an cl sy tc lc re rd cd lk of fl gy mk fm (upd fp D (nI (i + 1))) hi lo sk v) (nI D) 0 a) : wpY_step post (rY us (nI (D + 1)) wu st og an cl sy tc lc re rd cd lk of fl gy mk fm fp hi lo sk v) := by
  have vD : vp_in (nI D) 14 := vp_in_nI (by omega) (by decide)
  have cD : (nI D).toNatClampNeg = D := nI_clamp (by omega)
  have e24 : (24 : Int32) * nI m + nI i = nI (24 * m + i) := by rw [show (24 : Int32) = nI 24 from rfl, pk_mul, nI_add]
  have v216 : vp_in (nI (24 * m + i)) 216 := vp_in_nI (by omega) (by decide)
  refine upY_step (nm_r (zn_D1 D) ?_)
  rw [rY_method, rY_at, rY_ops, rY_args, rY_steps, cD, e1, e2, e24]
  refine ⟨vD, vD, nm_e ⟨v216, nm_e ⟨v216, nm_e (nm_e ?_)⟩⟩⟩
  rw [nI_clamp (by omega), eo, ea, rY__steps]
  have g : vp_in (nI D) 14 ∧ (vp_in (nI D) 14 ∧ ∀ a_at_190 : Nat → Int32, a_at_190 = upd (gY_at (rY us (nI (D + 1)) wu (st + 1) og an cl sy tc lc re rd cd lk of fl gy mk fm fp hi lo sk v)) (nI D).toNatClampNeg ((gY_at (rY us (nI (D + 1)) wu (st + 1) og an cl sy tc lc re rd cd lk of fl gy mk fm fp hi lo sk v) (nI D).toNatClampNeg) + 1) → wpY_plain (fun u4 => post u4) (sY_at a_at_190 (rY us (nI (D + 1)) wu (st + 1) og an cl sy tc lc re rd cd lk of fl gy mk fm fp hi lo sk v)) (nI D) 0 a) := by
    refine ⟨vD, vD, nm_e ?_⟩
    rw [rY_at, cD, e2, nI_1, rY__at]
    exact h
  repeat (first | exact g | refine br_t (by decide) ?_ | refine br_f (by decide) ?_ | refine uY_step_60 ?_)
theorem yd_1 {post : SY → Prop} {D m i : Nat} {a : Int32} (hD : D ≤ 12) (hm : m < 8) (hi2 : i < 24) (e1 : fm D = nI m) (e2 : fp D = nI i) (eo : gY_ops v (24 * m + i) = 1) (ea : gY_args v (24 * m + i) = a) (h : wpY_plain (fun u1 => post u1) (rY us (nI (D + 1)) wu (st + 1) og an cl sy tc lc re rd cd lk of fl gy mk fm (upd fp D (nI (i + 1))) hi lo sk v) (nI D) 1 a) : wpY_step post (rY us (nI (D + 1)) wu st og an cl sy tc lc re rd cd lk of fl gy mk fm fp hi lo sk v) := by
  have vD : vp_in (nI D) 14 := vp_in_nI (by omega) (by decide)
  have cD : (nI D).toNatClampNeg = D := nI_clamp (by omega)
  have e24 : (24 : Int32) * nI m + nI i = nI (24 * m + i) := by rw [show (24 : Int32) = nI 24 from rfl, pk_mul, nI_add]
  have v216 : vp_in (nI (24 * m + i)) 216 := vp_in_nI (by omega) (by decide)
  refine upY_step (nm_r (zn_D1 D) ?_)
  rw [rY_method, rY_at, rY_ops, rY_args, rY_steps, cD, e1, e2, e24]
  refine ⟨vD, vD, nm_e ⟨v216, nm_e ⟨v216, nm_e (nm_e ?_)⟩⟩⟩
  rw [nI_clamp (by omega), eo, ea, rY__steps]
  have g : vp_in (nI D) 14 ∧ (vp_in (nI D) 14 ∧ ∀ a_at_190 : Nat → Int32, a_at_190 = upd (gY_at (rY us (nI (D + 1)) wu (st + 1) og an cl sy tc lc re rd cd lk of fl gy mk fm fp hi lo sk v)) (nI D).toNatClampNeg ((gY_at (rY us (nI (D + 1)) wu (st + 1) og an cl sy tc lc re rd cd lk of fl gy mk fm fp hi lo sk v) (nI D).toNatClampNeg) + 1) → wpY_plain (fun u4 => post u4) (sY_at a_at_190 (rY us (nI (D + 1)) wu (st + 1) og an cl sy tc lc re rd cd lk of fl gy mk fm fp hi lo sk v)) (nI D) 1 a) := by
    refine ⟨vD, vD, nm_e ?_⟩
    rw [rY_at, cD, e2, nI_1, rY__at]
    exact h
  repeat (first | exact g | refine br_t (by decide) ?_ | refine br_f (by decide) ?_ | refine uY_step_60 ?_)
theorem yd_2 {post : SY → Prop} {D m i : Nat} {a : Int32} (hD : D ≤ 12) (hm : m < 8) (hi2 : i < 24) (e1 : fm D = nI m) (e2 : fp D = nI i) (eo : gY_ops v (24 * m + i) = 2) (ea : gY_args v (24 * m + i) = a) (h : wpY_plain (fun u1 => post u1) (rY us (nI (D + 1)) wu (st + 1) og an cl sy tc lc re rd cd lk of fl gy mk fm (upd fp D (nI (i + 1))) hi lo sk v) (nI D) 2 a) : wpY_step post (rY us (nI (D + 1)) wu st og an cl sy tc lc re rd cd lk of fl gy mk fm fp hi lo sk v) := by
  have vD : vp_in (nI D) 14 := vp_in_nI (by omega) (by decide)
  have cD : (nI D).toNatClampNeg = D := nI_clamp (by omega)
  have e24 : (24 : Int32) * nI m + nI i = nI (24 * m + i) := by rw [show (24 : Int32) = nI 24 from rfl, pk_mul, nI_add]
  have v216 : vp_in (nI (24 * m + i)) 216 := vp_in_nI (by omega) (by decide)
  refine upY_step (nm_r (zn_D1 D) ?_)
  rw [rY_method, rY_at, rY_ops, rY_args, rY_steps, cD, e1, e2, e24]
  refine ⟨vD, vD, nm_e ⟨v216, nm_e ⟨v216, nm_e (nm_e ?_)⟩⟩⟩
  rw [nI_clamp (by omega), eo, ea, rY__steps]
  have g : vp_in (nI D) 14 ∧ (vp_in (nI D) 14 ∧ ∀ a_at_190 : Nat → Int32, a_at_190 = upd (gY_at (rY us (nI (D + 1)) wu (st + 1) og an cl sy tc lc re rd cd lk of fl gy mk fm fp hi lo sk v)) (nI D).toNatClampNeg ((gY_at (rY us (nI (D + 1)) wu (st + 1) og an cl sy tc lc re rd cd lk of fl gy mk fm fp hi lo sk v) (nI D).toNatClampNeg) + 1) → wpY_plain (fun u4 => post u4) (sY_at a_at_190 (rY us (nI (D + 1)) wu (st + 1) og an cl sy tc lc re rd cd lk of fl gy mk fm fp hi lo sk v)) (nI D) 2 a) := by
    refine ⟨vD, vD, nm_e ?_⟩
    rw [rY_at, cD, e2, nI_1, rY__at]
    exact h
  repeat (first | exact g | refine br_t (by decide) ?_ | refine br_f (by decide) ?_ | refine uY_step_60 ?_)
theorem yd_3 {post : SY → Prop} {D m i : Nat} {a : Int32} (hD : D ≤ 12) (hm : m < 8) (hi2 : i < 24) (e1 : fm D = nI m) (e2 : fp D = nI i) (eo : gY_ops v (24 * m + i) = 3) (ea : gY_args v (24 * m + i) = a) (h : wpY_plain (fun u1 => post u1) (rY us (nI (D + 1)) wu (st + 1) og an cl sy tc lc re rd cd lk of fl gy mk fm (upd fp D (nI (i + 1))) hi lo sk v) (nI D) 3 a) : wpY_step post (rY us (nI (D + 1)) wu st og an cl sy tc lc re rd cd lk of fl gy mk fm fp hi lo sk v) := by
  have vD : vp_in (nI D) 14 := vp_in_nI (by omega) (by decide)
  have cD : (nI D).toNatClampNeg = D := nI_clamp (by omega)
  have e24 : (24 : Int32) * nI m + nI i = nI (24 * m + i) := by rw [show (24 : Int32) = nI 24 from rfl, pk_mul, nI_add]
  have v216 : vp_in (nI (24 * m + i)) 216 := vp_in_nI (by omega) (by decide)
  refine upY_step (nm_r (zn_D1 D) ?_)
  rw [rY_method, rY_at, rY_ops, rY_args, rY_steps, cD, e1, e2, e24]
  refine ⟨vD, vD, nm_e ⟨v216, nm_e ⟨v216, nm_e (nm_e ?_)⟩⟩⟩
  rw [nI_clamp (by omega), eo, ea, rY__steps]
  have g : vp_in (nI D) 14 ∧ (vp_in (nI D) 14 ∧ ∀ a_at_190 : Nat → Int32, a_at_190 = upd (gY_at (rY us (nI (D + 1)) wu (st + 1) og an cl sy tc lc re rd cd lk of fl gy mk fm fp hi lo sk v)) (nI D).toNatClampNeg ((gY_at (rY us (nI (D + 1)) wu (st + 1) og an cl sy tc lc re rd cd lk of fl gy mk fm fp hi lo sk v) (nI D).toNatClampNeg) + 1) → wpY_plain (fun u4 => post u4) (sY_at a_at_190 (rY us (nI (D + 1)) wu (st + 1) og an cl sy tc lc re rd cd lk of fl gy mk fm fp hi lo sk v)) (nI D) 3 a) := by
    refine ⟨vD, vD, nm_e ?_⟩
    rw [rY_at, cD, e2, nI_1, rY__at]
    exact h
  repeat (first | exact g | refine br_t (by decide) ?_ | refine br_f (by decide) ?_ | refine uY_step_60 ?_)
theorem yd_8 {post : SY → Prop} {D m i : Nat} {a : Int32} (hD : D ≤ 12) (hm : m < 8) (hi2 : i < 24) (e1 : fm D = nI m) (e2 : fp D = nI i) (eo : gY_ops v (24 * m + i) = 8) (ea : gY_args v (24 * m + i) = a) (h : wpY_plain (fun u1 => post u1) (rY us (nI (D + 1)) wu (st + 1) og an cl sy tc lc re rd cd lk of fl gy mk fm (upd fp D (nI (i + 1))) hi lo sk v) (nI D) 8 a) : wpY_step post (rY us (nI (D + 1)) wu st og an cl sy tc lc re rd cd lk of fl gy mk fm fp hi lo sk v) := by
  have vD : vp_in (nI D) 14 := vp_in_nI (by omega) (by decide)
  have cD : (nI D).toNatClampNeg = D := nI_clamp (by omega)
  have e24 : (24 : Int32) * nI m + nI i = nI (24 * m + i) := by rw [show (24 : Int32) = nI 24 from rfl, pk_mul, nI_add]
  have v216 : vp_in (nI (24 * m + i)) 216 := vp_in_nI (by omega) (by decide)
  refine upY_step (nm_r (zn_D1 D) ?_)
  rw [rY_method, rY_at, rY_ops, rY_args, rY_steps, cD, e1, e2, e24]
  refine ⟨vD, vD, nm_e ⟨v216, nm_e ⟨v216, nm_e (nm_e ?_)⟩⟩⟩
  rw [nI_clamp (by omega), eo, ea, rY__steps]
  have g : vp_in (nI D) 14 ∧ (vp_in (nI D) 14 ∧ ∀ a_at_190 : Nat → Int32, a_at_190 = upd (gY_at (rY us (nI (D + 1)) wu (st + 1) og an cl sy tc lc re rd cd lk of fl gy mk fm fp hi lo sk v)) (nI D).toNatClampNeg ((gY_at (rY us (nI (D + 1)) wu (st + 1) og an cl sy tc lc re rd cd lk of fl gy mk fm fp hi lo sk v) (nI D).toNatClampNeg) + 1) → wpY_plain (fun u4 => post u4) (sY_at a_at_190 (rY us (nI (D + 1)) wu (st + 1) og an cl sy tc lc re rd cd lk of fl gy mk fm fp hi lo sk v)) (nI D) 8 a) := by
    refine ⟨vD, vD, nm_e ?_⟩
    rw [rY_at, cD, e2, nI_1, rY__at]
    exact h
  repeat (first | exact g | refine br_t (by decide) ?_ | refine br_f (by decide) ?_ | refine uY_step_60 ?_)
theorem yd_9 {post : SY → Prop} {D m i : Nat} {a : Int32} (hD : D ≤ 12) (hm : m < 8) (hi2 : i < 24) (e1 : fm D = nI m) (e2 : fp D = nI i) (eo : gY_ops v (24 * m + i) = 9) (ea : gY_args v (24 * m + i) = a) (h : wpY_plain (fun u1 => post u1) (rY us (nI (D + 1)) wu (st + 1) og an cl sy tc lc re rd cd lk of fl gy mk fm (upd fp D (nI (i + 1))) hi lo sk v) (nI D) 9 a) : wpY_step post (rY us (nI (D + 1)) wu st og an cl sy tc lc re rd cd lk of fl gy mk fm fp hi lo sk v) := by
  have vD : vp_in (nI D) 14 := vp_in_nI (by omega) (by decide)
  have cD : (nI D).toNatClampNeg = D := nI_clamp (by omega)
  have e24 : (24 : Int32) * nI m + nI i = nI (24 * m + i) := by rw [show (24 : Int32) = nI 24 from rfl, pk_mul, nI_add]
  have v216 : vp_in (nI (24 * m + i)) 216 := vp_in_nI (by omega) (by decide)
  refine upY_step (nm_r (zn_D1 D) ?_)
  rw [rY_method, rY_at, rY_ops, rY_args, rY_steps, cD, e1, e2, e24]
  refine ⟨vD, vD, nm_e ⟨v216, nm_e ⟨v216, nm_e (nm_e ?_)⟩⟩⟩
  rw [nI_clamp (by omega), eo, ea, rY__steps]
  have g : vp_in (nI D) 14 ∧ (vp_in (nI D) 14 ∧ ∀ a_at_190 : Nat → Int32, a_at_190 = upd (gY_at (rY us (nI (D + 1)) wu (st + 1) og an cl sy tc lc re rd cd lk of fl gy mk fm fp hi lo sk v)) (nI D).toNatClampNeg ((gY_at (rY us (nI (D + 1)) wu (st + 1) og an cl sy tc lc re rd cd lk of fl gy mk fm fp hi lo sk v) (nI D).toNatClampNeg) + 1) → wpY_plain (fun u4 => post u4) (sY_at a_at_190 (rY us (nI (D + 1)) wu (st + 1) og an cl sy tc lc re rd cd lk of fl gy mk fm fp hi lo sk v)) (nI D) 9 a) := by
    refine ⟨vD, vD, nm_e ?_⟩
    rw [rY_at, cD, e2, nI_1, rY__at]
    exact h
  repeat (first | exact g | refine br_t (by decide) ?_ | refine br_f (by decide) ?_ | refine uY_step_60 ?_)
theorem yd_10 {post : SY → Prop} {D m i : Nat} {a : Int32} (hD : D ≤ 12) (hm : m < 8) (hi2 : i < 24) (e1 : fm D = nI m) (e2 : fp D = nI i) (eo : gY_ops v (24 * m + i) = 10) (ea : gY_args v (24 * m + i) = a) (h : wpY_plain (fun u1 => post u1) (rY us (nI (D + 1)) wu (st + 1) og an cl sy tc lc re rd cd lk of fl gy mk fm (upd fp D (nI (i + 1))) hi lo sk v) (nI D) 10 a) : wpY_step post (rY us (nI (D + 1)) wu st og an cl sy tc lc re rd cd lk of fl gy mk fm fp hi lo sk v) := by
  have vD : vp_in (nI D) 14 := vp_in_nI (by omega) (by decide)
  have cD : (nI D).toNatClampNeg = D := nI_clamp (by omega)
  have e24 : (24 : Int32) * nI m + nI i = nI (24 * m + i) := by rw [show (24 : Int32) = nI 24 from rfl, pk_mul, nI_add]
  have v216 : vp_in (nI (24 * m + i)) 216 := vp_in_nI (by omega) (by decide)
  refine upY_step (nm_r (zn_D1 D) ?_)
  rw [rY_method, rY_at, rY_ops, rY_args, rY_steps, cD, e1, e2, e24]
  refine ⟨vD, vD, nm_e ⟨v216, nm_e ⟨v216, nm_e (nm_e ?_)⟩⟩⟩
  rw [nI_clamp (by omega), eo, ea, rY__steps]
  have g : vp_in (nI D) 14 ∧ (vp_in (nI D) 14 ∧ ∀ a_at_190 : Nat → Int32, a_at_190 = upd (gY_at (rY us (nI (D + 1)) wu (st + 1) og an cl sy tc lc re rd cd lk of fl gy mk fm fp hi lo sk v)) (nI D).toNatClampNeg ((gY_at (rY us (nI (D + 1)) wu (st + 1) og an cl sy tc lc re rd cd lk of fl gy mk fm fp hi lo sk v) (nI D).toNatClampNeg) + 1) → wpY_plain (fun u4 => post u4) (sY_at a_at_190 (rY us (nI (D + 1)) wu (st + 1) og an cl sy tc lc re rd cd lk of fl gy mk fm fp hi lo sk v)) (nI D) 10 a) := by
    refine ⟨vD, vD, nm_e ?_⟩
    rw [rY_at, cD, e2, nI_1, rY__at]
    exact h
  repeat (first | exact g | refine br_t (by decide) ?_ | refine br_f (by decide) ?_ | refine uY_step_60 ?_)
theorem yd_15 {post : SY → Prop} {D m i : Nat} {a : Int32} (hD : D ≤ 12) (hm : m < 8) (hi2 : i < 24) (e1 : fm D = nI m) (e2 : fp D = nI i) (eo : gY_ops v (24 * m + i) = 15) (ea : gY_args v (24 * m + i) = a) (h : wpY_plain (fun u1 => post u1) (rY us (nI (D + 1)) wu (st + 1) og an cl sy tc lc re rd cd lk of fl gy mk fm (upd fp D (nI (i + 1))) hi lo sk v) (nI D) 15 a) : wpY_step post (rY us (nI (D + 1)) wu st og an cl sy tc lc re rd cd lk of fl gy mk fm fp hi lo sk v) := by
  have vD : vp_in (nI D) 14 := vp_in_nI (by omega) (by decide)
  have cD : (nI D).toNatClampNeg = D := nI_clamp (by omega)
  have e24 : (24 : Int32) * nI m + nI i = nI (24 * m + i) := by rw [show (24 : Int32) = nI 24 from rfl, pk_mul, nI_add]
  have v216 : vp_in (nI (24 * m + i)) 216 := vp_in_nI (by omega) (by decide)
  refine upY_step (nm_r (zn_D1 D) ?_)
  rw [rY_method, rY_at, rY_ops, rY_args, rY_steps, cD, e1, e2, e24]
  refine ⟨vD, vD, nm_e ⟨v216, nm_e ⟨v216, nm_e (nm_e ?_)⟩⟩⟩
  rw [nI_clamp (by omega), eo, ea, rY__steps]
  have g : vp_in (nI D) 14 ∧ (vp_in (nI D) 14 ∧ ∀ a_at_190 : Nat → Int32, a_at_190 = upd (gY_at (rY us (nI (D + 1)) wu (st + 1) og an cl sy tc lc re rd cd lk of fl gy mk fm fp hi lo sk v)) (nI D).toNatClampNeg ((gY_at (rY us (nI (D + 1)) wu (st + 1) og an cl sy tc lc re rd cd lk of fl gy mk fm fp hi lo sk v) (nI D).toNatClampNeg) + 1) → wpY_plain (fun u4 => post u4) (sY_at a_at_190 (rY us (nI (D + 1)) wu (st + 1) og an cl sy tc lc re rd cd lk of fl gy mk fm fp hi lo sk v)) (nI D) 15 a) := by
    refine ⟨vD, vD, nm_e ?_⟩
    rw [rY_at, cD, e2, nI_1, rY__at]
    exact h
  repeat (first | exact g | refine br_t (by decide) ?_ | refine br_f (by decide) ?_ | refine uY_step_60 ?_)
theorem yd_20 {post : SY → Prop} {D m i : Nat} {a : Int32} (hD : D ≤ 12) (hm : m < 8) (hi2 : i < 24) (e1 : fm D = nI m) (e2 : fp D = nI i) (eo : gY_ops v (24 * m + i) = 20) (ea : gY_args v (24 * m + i) = a) (h : wpY_plain (fun u1 => post u1) (rY us (nI (D + 1)) wu (st + 1) og an cl sy tc lc re rd cd lk of fl gy mk fm (upd fp D (nI (i + 1))) hi lo sk v) (nI D) 20 a) : wpY_step post (rY us (nI (D + 1)) wu st og an cl sy tc lc re rd cd lk of fl gy mk fm fp hi lo sk v) := by
  have vD : vp_in (nI D) 14 := vp_in_nI (by omega) (by decide)
  have cD : (nI D).toNatClampNeg = D := nI_clamp (by omega)
  have e24 : (24 : Int32) * nI m + nI i = nI (24 * m + i) := by rw [show (24 : Int32) = nI 24 from rfl, pk_mul, nI_add]
  have v216 : vp_in (nI (24 * m + i)) 216 := vp_in_nI (by omega) (by decide)
  refine upY_step (nm_r (zn_D1 D) ?_)
  rw [rY_method, rY_at, rY_ops, rY_args, rY_steps, cD, e1, e2, e24]
  refine ⟨vD, vD, nm_e ⟨v216, nm_e ⟨v216, nm_e (nm_e ?_)⟩⟩⟩
  rw [nI_clamp (by omega), eo, ea, rY__steps]
  have g : vp_in (nI D) 14 ∧ (vp_in (nI D) 14 ∧ ∀ a_at_190 : Nat → Int32, a_at_190 = upd (gY_at (rY us (nI (D + 1)) wu (st + 1) og an cl sy tc lc re rd cd lk of fl gy mk fm fp hi lo sk v)) (nI D).toNatClampNeg ((gY_at (rY us (nI (D + 1)) wu (st + 1) og an cl sy tc lc re rd cd lk of fl gy mk fm fp hi lo sk v) (nI D).toNatClampNeg) + 1) → wpY_plain (fun u4 => post u4) (sY_at a_at_190 (rY us (nI (D + 1)) wu (st + 1) og an cl sy tc lc re rd cd lk of fl gy mk fm fp hi lo sk v)) (nI D) 20 a) := by
    refine ⟨vD, vD, nm_e ?_⟩
    rw [rY_at, cD, e2, nI_1, rY__at]
    exact h
  repeat (first | exact g | refine br_t (by decide) ?_ | refine br_f (by decide) ?_ | refine uY_step_60 ?_)
theorem yd_21 {post : SY → Prop} {D m i : Nat} {a : Int32} (hD : D ≤ 12) (hm : m < 8) (hi2 : i < 24) (e1 : fm D = nI m) (e2 : fp D = nI i) (eo : gY_ops v (24 * m + i) = 21) (ea : gY_args v (24 * m + i) = a) (h : wpY_plain (fun u1 => post u1) (rY us (nI (D + 1)) wu (st + 1) og an cl sy tc lc re rd cd lk of fl gy mk fm (upd fp D (nI (i + 1))) hi lo sk v) (nI D) 21 a) : wpY_step post (rY us (nI (D + 1)) wu st og an cl sy tc lc re rd cd lk of fl gy mk fm fp hi lo sk v) := by
  have vD : vp_in (nI D) 14 := vp_in_nI (by omega) (by decide)
  have cD : (nI D).toNatClampNeg = D := nI_clamp (by omega)
  have e24 : (24 : Int32) * nI m + nI i = nI (24 * m + i) := by rw [show (24 : Int32) = nI 24 from rfl, pk_mul, nI_add]
  have v216 : vp_in (nI (24 * m + i)) 216 := vp_in_nI (by omega) (by decide)
  refine upY_step (nm_r (zn_D1 D) ?_)
  rw [rY_method, rY_at, rY_ops, rY_args, rY_steps, cD, e1, e2, e24]
  refine ⟨vD, vD, nm_e ⟨v216, nm_e ⟨v216, nm_e (nm_e ?_)⟩⟩⟩
  rw [nI_clamp (by omega), eo, ea, rY__steps]
  have g : vp_in (nI D) 14 ∧ (vp_in (nI D) 14 ∧ ∀ a_at_190 : Nat → Int32, a_at_190 = upd (gY_at (rY us (nI (D + 1)) wu (st + 1) og an cl sy tc lc re rd cd lk of fl gy mk fm fp hi lo sk v)) (nI D).toNatClampNeg ((gY_at (rY us (nI (D + 1)) wu (st + 1) og an cl sy tc lc re rd cd lk of fl gy mk fm fp hi lo sk v) (nI D).toNatClampNeg) + 1) → wpY_plain (fun u4 => post u4) (sY_at a_at_190 (rY us (nI (D + 1)) wu (st + 1) og an cl sy tc lc re rd cd lk of fl gy mk fm fp hi lo sk v)) (nI D) 21 a) := by
    refine ⟨vD, vD, nm_e ?_⟩
    rw [rY_at, cD, e2, nI_1, rY__at]
    exact h
  repeat (first | exact g | refine br_t (by decide) ?_ | refine br_f (by decide) ?_ | refine uY_step_60 ?_)
theorem yd_22 {post : SY → Prop} {D m i : Nat} {a : Int32} (hD : D ≤ 12) (hm : m < 8) (hi2 : i < 24) (e1 : fm D = nI m) (e2 : fp D = nI i) (eo : gY_ops v (24 * m + i) = 22) (ea : gY_args v (24 * m + i) = a) (h : wpY_plain (fun u1 => post u1) (rY us (nI (D + 1)) wu (st + 1) og an cl sy tc lc re rd cd lk of fl gy mk fm (upd fp D (nI (i + 1))) hi lo sk v) (nI D) 22 a) : wpY_step post (rY us (nI (D + 1)) wu st og an cl sy tc lc re rd cd lk of fl gy mk fm fp hi lo sk v) := by
  have vD : vp_in (nI D) 14 := vp_in_nI (by omega) (by decide)
  have cD : (nI D).toNatClampNeg = D := nI_clamp (by omega)
  have e24 : (24 : Int32) * nI m + nI i = nI (24 * m + i) := by rw [show (24 : Int32) = nI 24 from rfl, pk_mul, nI_add]
  have v216 : vp_in (nI (24 * m + i)) 216 := vp_in_nI (by omega) (by decide)
  refine upY_step (nm_r (zn_D1 D) ?_)
  rw [rY_method, rY_at, rY_ops, rY_args, rY_steps, cD, e1, e2, e24]
  refine ⟨vD, vD, nm_e ⟨v216, nm_e ⟨v216, nm_e (nm_e ?_)⟩⟩⟩
  rw [nI_clamp (by omega), eo, ea, rY__steps]
  have g : vp_in (nI D) 14 ∧ (vp_in (nI D) 14 ∧ ∀ a_at_190 : Nat → Int32, a_at_190 = upd (gY_at (rY us (nI (D + 1)) wu (st + 1) og an cl sy tc lc re rd cd lk of fl gy mk fm fp hi lo sk v)) (nI D).toNatClampNeg ((gY_at (rY us (nI (D + 1)) wu (st + 1) og an cl sy tc lc re rd cd lk of fl gy mk fm fp hi lo sk v) (nI D).toNatClampNeg) + 1) → wpY_plain (fun u4 => post u4) (sY_at a_at_190 (rY us (nI (D + 1)) wu (st + 1) og an cl sy tc lc re rd cd lk of fl gy mk fm fp hi lo sk v)) (nI D) 22 a) := by
    refine ⟨vD, vD, nm_e ?_⟩
    rw [rY_at, cD, e2, nI_1, rY__at]
    exact h
  repeat (first | exact g | refine br_t (by decide) ?_ | refine br_f (by decide) ?_ | refine uY_step_60 ?_)
theorem yd_23 {post : SY → Prop} {D m i : Nat} {a : Int32} (hD : D ≤ 12) (hm : m < 8) (hi2 : i < 24) (e1 : fm D = nI m) (e2 : fp D = nI i) (eo : gY_ops v (24 * m + i) = 23) (ea : gY_args v (24 * m + i) = a) (h : wpY_plain (fun u1 => post u1) (rY us (nI (D + 1)) wu (st + 1) og an cl sy tc lc re rd cd lk of fl gy mk fm (upd fp D (nI (i + 1))) hi lo sk v) (nI D) 23 a) : wpY_step post (rY us (nI (D + 1)) wu st og an cl sy tc lc re rd cd lk of fl gy mk fm fp hi lo sk v) := by
  have vD : vp_in (nI D) 14 := vp_in_nI (by omega) (by decide)
  have cD : (nI D).toNatClampNeg = D := nI_clamp (by omega)
  have e24 : (24 : Int32) * nI m + nI i = nI (24 * m + i) := by rw [show (24 : Int32) = nI 24 from rfl, pk_mul, nI_add]
  have v216 : vp_in (nI (24 * m + i)) 216 := vp_in_nI (by omega) (by decide)
  refine upY_step (nm_r (zn_D1 D) ?_)
  rw [rY_method, rY_at, rY_ops, rY_args, rY_steps, cD, e1, e2, e24]
  refine ⟨vD, vD, nm_e ⟨v216, nm_e ⟨v216, nm_e (nm_e ?_)⟩⟩⟩
  rw [nI_clamp (by omega), eo, ea, rY__steps]
  have g : vp_in (nI D) 14 ∧ (vp_in (nI D) 14 ∧ ∀ a_at_190 : Nat → Int32, a_at_190 = upd (gY_at (rY us (nI (D + 1)) wu (st + 1) og an cl sy tc lc re rd cd lk of fl gy mk fm fp hi lo sk v)) (nI D).toNatClampNeg ((gY_at (rY us (nI (D + 1)) wu (st + 1) og an cl sy tc lc re rd cd lk of fl gy mk fm fp hi lo sk v) (nI D).toNatClampNeg) + 1) → wpY_plain (fun u4 => post u4) (sY_at a_at_190 (rY us (nI (D + 1)) wu (st + 1) og an cl sy tc lc re rd cd lk of fl gy mk fm fp hi lo sk v)) (nI D) 23 a) := by
    refine ⟨vD, vD, nm_e ?_⟩
    rw [rY_at, cD, e2, nI_1, rY__at]
    exact h
  repeat (first | exact g | refine br_t (by decide) ?_ | refine br_f (by decide) ?_ | refine uY_step_60 ?_)
end
