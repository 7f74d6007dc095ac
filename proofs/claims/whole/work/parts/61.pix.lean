/-! PIXELS BY THEIR PARTS. -/
/-- part k of a pixel, as a number -/
def pN (x : Int32) (k : Nat) : Nat := x.toBitVec.toNat / 2 ^ (8 * k) % 256
def pt (x : Int32) (k : Nat) : Int32 := nI (pN x k)
theorem pN_lt (x : Int32) (k : Nat) : pN x k < 256 := Nat.mod_lt _ (by decide)
theorem pt_L (x : Int32) (k : Nat) (hk : k < 4) : xus x (nI (8 * k)) &&& nI 255 = pt x k := by
  rw [pk_and _ (m := nI 255) 8 rfl]
  unfold pt pN
  have : (xus x (nI (8 * k))).toBitVec.toNat = x.toBitVec.toNat / 2 ^ (8 * k) := pk_ushr x (nI (8 * k)) (8 * k) (z_su _ (by omega))
  rw [this]
theorem z_tI (x : Int32) : x.toInt = if 2 * x.toBitVec.toNat < 2 ^ 32 then (x.toBitVec.toNat : Int) else (x.toBitVec.toNat : Int) - 2 ^ 32 := by
  have := BitVec.toInt_eq_toNat_cond x.toBitVec
  simpa using this
theorem z_shr8 (x y : Int32) (A : Int) (k : Nat) (h : y.toInt = A) (hA : A = x.toInt / (2 ^ (8 * k) : Int)) (hk : k < 4) : y.toBitVec.toNat % 256 = x.toBitVec.toNat / 2 ^ (8 * k) % 256 := by
  have h1 := z_tI x
  have h2 := z_tI y
  have b1 := x.toBitVec.isLt
  have b2 := y.toBitVec.isLt
  match k, hk with
  | 0, _ =>
    simp at hA
    by_cases c1 : 2 * x.toBitVec.toNat < 2 ^ 32 <;> by_cases c2 : 2 * y.toBitVec.toNat < 2 ^ 32 <;> simp [c1] at h1 <;> simp [c2] at h2 <;> simp <;> omega
  | 1, _ =>
    simp at hA
    by_cases c1 : 2 * x.toBitVec.toNat < 2 ^ 32 <;> by_cases c2 : 2 * y.toBitVec.toNat < 2 ^ 32 <;> simp [c1] at h1 <;> simp [c2] at h2 <;> simp <;> omega
  | 2, _ =>
    simp at hA
    by_cases c1 : 2 * x.toBitVec.toNat < 2 ^ 32 <;> by_cases c2 : 2 * y.toBitVec.toNat < 2 ^ 32 <;> simp [c1] at h1 <;> simp [c2] at h2 <;> simp <;> omega
  | 3, _ =>
    simp at hA
    by_cases c1 : 2 * x.toBitVec.toNat < 2 ^ 32 <;> by_cases c2 : 2 * y.toBitVec.toNat < 2 ^ 32 <;> simp [c1] at h1 <;> simp [c2] at h2 <;> simp <;> omega
theorem pt_M (x : Int32) (k : Nat) (hk : k < 4) : (x >>> (nI (8 * k) &&& 31)) &&& nI 255 = pt x k := by
  rw [pk_and _ (m := nI 255) 8 rfl]
  unfold pt pN
  have h := pk_shr x (nI (8 * k) &&& 31) (8 * k) (z_sl _ (by omega))
  rw [Int.shiftRight_eq_div_pow] at h
  exact congrArg nI (z_shr8 x _ _ k h (by simp) hk)
theorem z_and (a b : Nat) : nI a &&& nI b = nI (a &&& b) := by
  apply Int32.toBitVec_inj.mp
  apply BitVec.eq_of_toNat_eq
  show (BitVec.ofNat 32 a &&& BitVec.ofNat 32 b).toNat = (BitVec.ofNat 32 (a &&& b)).toNat
  rw [BitVec.toNat_and, BitVec.toNat_ofNat, BitVec.toNat_ofNat, BitVec.toNat_ofNat, Nat.and_mod_two_pow]
/-- four parts put together -/
def f4 (t : Nat → Int32) : Int32 := (((nI 0 ||| t 0 <<< (nI 0 &&& 31)) ||| t 1 <<< (nI 8 &&& 31)) ||| t 2 <<< (nI 16 &&& 31)) ||| t 3 <<< (nI 24 &&& 31)
theorem f4_eq (m : Nat → Nat) (h : ∀ k, m k < 256) : f4 (fun k => nI (m k)) = nI (m 0 + m 1 * 256 + m 2 * 65536 + m 3 * 16777216) := by
  have h0 := h 0
  have h1 := h 1
  have h2 := h 2
  have h3 := h 3
  unfold f4
  rw [pk_shlN _ 0 (z_sl 0 (by decide)) (by omega), pk_shlN _ 8 (z_sl 8 (by decide)) (by omega), pk_shlN _ 16 (z_sl 16 (by decide)) (by omega), pk_shlN _ 24 (z_sl 24 (by decide)) (by omega), z_or, z_or, z_or, z_or]
  have e0 : 0 ||| m 0 * 2 ^ 0 = m 0 := by simp
  have e1 : m 0 ||| m 1 * 2 ^ 8 = m 0 + m 1 * 256 := by
    have := Nat.two_pow_add_eq_or_of_lt (i := 8) (b := m 0) (by omega) (m 1)
    rw [Nat.or_comm, Nat.mul_comm (m 1), ← this]; omega
  have e2 : (m 0 + m 1 * 256) ||| m 2 * 2 ^ 16 = m 0 + m 1 * 256 + m 2 * 65536 := by
    have := Nat.two_pow_add_eq_or_of_lt (i := 16) (b := m 0 + m 1 * 256) (by omega) (m 2)
    rw [Nat.or_comm, Nat.mul_comm (m 2), ← this]; omega
  have e3 : (m 0 + m 1 * 256 + m 2 * 65536) ||| m 3 * 2 ^ 24 = m 0 + m 1 * 256 + m 2 * 65536 + m 3 * 16777216 := by
    have := Nat.two_pow_add_eq_or_of_lt (i := 24) (b := m 0 + m 1 * 256 + m 2 * 65536) (by omega) (m 3)
    rw [Nat.or_comm, Nat.mul_comm (m 3), ← this]; omega
  rw [e0, e1, e2, e3]
def psum (a b : Int32) : Int32 := f4 fun k => (pt a k + pt b k) &&& nI 255
def pdif (a b : Int32) : Int32 := f4 fun k => (pt a k - pt b k) &&& nI 255
def pavg (a b : Int32) : Int32 := f4 fun k => (pt a k + pt b k) / nI 2
def zclp (v : Int32) : Int32 := if nI 0 ≤ v then (if v ≤ nI 255 then v else nI 255) else nI 0
def pslo (l t tl : Int32) : Int32 := f4 fun k => zclp (pt l k + pt t k - pt tl k)
def phal (a tl : Int32) : Int32 := f4 fun k => zclp (pt a k + (pt a k - pt tl k) / nI 2)
def zfar (a : Int32) : Int32 := if nI 0 ≤ a then a else -a
def pnea (l t tl : Int32) : Int32 :=
  if (nI 0 + zfar (pt l 0 + pt t 0 - pt tl 0 - pt t 0) + zfar (pt l 1 + pt t 1 - pt tl 1 - pt t 1) + zfar (pt l 2 + pt t 2 - pt tl 2 - pt t 2) + zfar (pt l 3 + pt t 3 - pt tl 3 - pt t 3)) ≤ (nI 0 + zfar (pt l 0 + pt t 0 - pt tl 0 - pt l 0) + zfar (pt l 1 + pt t 1 - pt tl 1 - pt l 1) + zfar (pt l 2 + pt t 2 - pt tl 2 - pt l 2) + zfar (pt l 3 + pt t 3 - pt tl 3 - pt l 3)) then t else l
section PX
variable {c : zC} {J : zK} {I : zJ} {a b d e : Int32} {T : Nat → zJ → Prop} {P : Int32 → zJ → Prop}
theorem pL0 (x : Int32) : xus x (nI 0) &&& nI 255 = pt x 0 := pt_L x 0 (by decide)
theorem pL1 (x : Int32) : xus x (nI 0 + nI 8) &&& nI 255 = pt x 1 := pt_L x 1 (by decide)
theorem pL2 (x : Int32) : xus x (nI 0 + nI 8 + nI 8) &&& nI 255 = pt x 2 := pt_L x 2 (by decide)
theorem pL3 (x : Int32) : xus x (nI 0 + nI 8 + nI 8 + nI 8) &&& nI 255 = pt x 3 := pt_L x 3 (by decide)
theorem pM0 (x : Int32) : (x >>> ((nI 8 * nI 0) &&& 31)) &&& nI 255 = pt x 0 := pt_M x 0 (by decide)
theorem pM1 (x : Int32) : (x >>> ((nI 8 * (nI 0 + nI 1)) &&& 31)) &&& nI 255 = pt x 1 := pt_M x 1 (by decide)
theorem pM2 (x : Int32) : (x >>> ((nI 8 * (nI 0 + nI 1 + nI 1)) &&& 31)) &&& nI 255 = pt x 2 := pt_M x 2 (by decide)
theorem pM3 (x : Int32) : (x >>> ((nI 8 * (nI 0 + nI 1 + nI 1 + nI 1)) &&& 31)) &&& nI 255 = pt x 3 := pt_M x 3 (by decide)
theorem v_L_sum' (hP : P (psum a b) I) : c_L_sum c J a b I P T := by
  refine t_L_sum (t_L_sum_4 (br_f (by decide) (t_L_sum_4 (br_f (by decide) (t_L_sum_4 (br_f (by decide) (t_L_sum_4 (br_f (by decide) (t_L_sum_4 (br_t (by decide) ?_))))))))))
  rw [pL0, pL0, pL1, pL1, pL2, pL2, pL3, pL3]
  exact hP
theorem v_M_plus' (hP : P (psum a b) I) : c_M_plus c J a b I P T := by
  refine t_M_plus (t_M_plus_4 (br_f (by decide) (t_M_plus_4 (br_f (by decide) (t_M_plus_4 (br_f (by decide) (t_M_plus_4 (br_f (by decide) (t_M_plus_4 (br_t (by decide) ?_))))))))))
  rw [pM0, pM0, pM1, pM1, pM2, pM2, pM3, pM3]
  exact hP
theorem v_L_dif (hP : P (pdif a b) I) : c_L_difference c J a b I P T := by
  refine t_L_difference (t_L_difference_4 (br_f (by decide) (t_L_difference_4 (br_f (by decide) (t_L_difference_4 (br_f (by decide) (t_L_difference_4 (br_f (by decide) (t_L_difference_4 (br_t (by decide) ?_))))))))))
  rw [pL0, pL0, pL1, pL1, pL2, pL2, pL3, pL3]
  exact hP
theorem v_M_min (hP : P (pdif a b) I) : c_M_minus c J a b I P T := by
  refine t_M_minus (t_M_minus_4 (br_f (by decide) (t_M_minus_4 (br_f (by decide) (t_M_minus_4 (br_f (by decide) (t_M_minus_4 (br_f (by decide) (t_M_minus_4 (br_t (by decide) ?_))))))))))
  rw [pM0, pM0, pM1, pM1, pM2, pM2, pM3, pM3]
  exact hP
theorem v_L_avg (hP : P (pavg a b) I) : c_L_average c J a b I P T := by
  refine t_L_average (t_L_average_4 (br_f (by decide) (t_L_average_4 (br_f (by decide) (t_L_average_4 (br_f (by decide) (t_L_average_4 (br_f (by decide) (t_L_average_4 (br_t (by decide) ?_))))))))))
  rw [pL0, pL0, pL1, pL1, pL2, pL2, pL3, pL3]
  exact hP
theorem v_M_half (hP : P (pavg a b) I) : c_M_half c J a b I P T := by
  refine t_M_half (t_M_half_4 (br_f (by decide) (t_M_half_4 (br_f (by decide) (t_M_half_4 (br_f (by decide) (t_M_half_4 (br_f (by decide) (t_M_half_4 (br_t (by decide) ?_))))))))))
  rw [pM0, pM0, pM1, pM1, pM2, pM2, pM3, pM3]
  exact hP
theorem v_slope (hP : P (pslo a b d) I) : c_Foretelling_slope c J a b d I P T := by
  refine t_Foretelling_slope (t_Foretelling_slope_5 (br_f (by decide) (t_Foretelling_slope_5 (br_f (by decide) (t_Foretelling_slope_5 (br_f (by decide) (t_Foretelling_slope_5 (br_f (by decide) (t_Foretelling_slope_5 (br_t (by decide) ?_))))))))))
  rw [pL0, pL0, pL0, pL1, pL1, pL1, pL2, pL2, pL2, pL3, pL3, pL3]
  exact hP
theorem v_hslope (hP : P (phal a d) I) : c_Foretelling_halfSlope c J a d I P T := by
  refine t_Foretelling_halfSlope (t_Foretelling_halfSlope_4 (br_f (by decide) (t_Foretelling_halfSlope_4 (br_f (by decide) (t_Foretelling_halfSlope_4 (br_f (by decide) (t_Foretelling_halfSlope_4 (br_f (by decide) (t_Foretelling_halfSlope_4 (br_t (by decide) ?_))))))))))
  rw [pL0, pL0, pL1, pL1, pL2, pL2, pL3, pL3]
  exact hP
theorem v_bent0 (hP : P (pslo a b d) I) : c_M_bent c J a b d (nI 0) I P T := by
  refine t_M_bent (v_M_half (t_M_bent_13 (br_f (by decide) (br_t rfl (t_M_bent_13 (br_f (by decide) (br_t rfl (t_M_bent_13 (br_f (by decide) (br_t rfl (t_M_bent_13 (br_f (by decide) (br_t rfl (t_M_bent_13 (br_t (by decide) ?_)))))))))))))))
  rw [pM0, pM0, pM0, pM1, pM1, pM1, pM2, pM2, pM2, pM3, pM3, pM3]
  exact hP
theorem v_bent1 (hP : P (phal (pavg a b) d) I) : c_M_bent c J a b d (nI 1) I P T := by
  refine t_M_bent (v_M_half (t_M_bent_13 (br_f (by decide) (br_f (by decide) (t_M_bent_13 (br_f (by decide) (br_f (by decide) (t_M_bent_13 (br_f (by decide) (br_f (by decide) (t_M_bent_13 (br_f (by decide) (br_f (by decide) (t_M_bent_13 (br_t (by decide) ?_)))))))))))))))
  rw [pM0, pM0, pM1, pM1, pM2, pM2, pM3, pM3]
  exact hP
theorem xabs_far (x : Int32) : xabs x = zfar x := by
  unfold xabs zfar
  have e : (0 : Int32) - x = -x := by grind
  rw [e]
  rfl
theorem v_nearer (hP : P (pnea a b d) I) : c_Foretelling_nearer c J a b d I P T := by
  refine t_Foretelling_nearer (t_Foretelling_nearer_8 (br_f (by decide) (t_Foretelling_nearer_8 (br_f (by decide) (t_Foretelling_nearer_8 (br_f (by decide) (t_Foretelling_nearer_8 (br_f (by decide) (t_Foretelling_nearer_8 (br_t (by decide) ?_))))))))))
  simp only [pL0, pL1, pL2, pL3, xabs_far]
  unfold pnea at hP
  refine ⟨fun h => ?_, fun h => ?_⟩
  · rw [if_pos h] at hP; exact hP
  · rw [if_neg h] at hP; exact hP
theorem v_chosen (hP : P (pnea a b d) I) : c_M_chosen c J a b d I P T := by
  refine t_M_chosen (t_M_chosen_8 (br_f (by decide) (t_M_chosen_8 (br_f (by decide) (t_M_chosen_8 (br_f (by decide) (t_M_chosen_8 (br_f (by decide) (t_M_chosen_8 (br_t (by decide) ?_))))))))))
  have ef : ∀ x, f_M_far x I = zfar x := fun x => rfl
  simp only [pM0, pM1, pM2, pM3, ef]
  unfold pnea at hP
  refine ⟨fun h => ?_, fun h => ?_⟩
  · rw [if_pos h] at hP; exact hP
  · rw [if_neg h] at hP; exact hP
end PX
