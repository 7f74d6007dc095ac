/-! Calls whose end is known; the smallest methods. -/
abbrev xv (d mid : Nat) (as : List Value) (h : xH) (o : xO) (h' : xH) : Prop := xV zlk zdf zmt d mid as h o h'
theorem xv_of {d mid : Nat} {M : xM} {as : List Value} {h h' : xH} {o : xO} (hM : zmt mid = some M) (hl : (xent as).length ≤ M.2.2.1) (k : xG d M (0, xent as ++ List.replicate (M.2.2.1 - (xent as).length) none, []) h (fun o1 h1 => o1 = o ∧ h1 = h')) : xv (d + 1) mid as h o h' := by
  obtain ⟨o1, h1, hv, rfl, rfl⟩ := xg_of hM hl k
  exact hv
section XV
variable {d mid : Nat} {as : List Value} {h h' : xH} {T : Nat → xH → Prop}
theorem xg_i {v : Int32} {P : Int32 → xH → Prop} (hv : xv d mid as h (.inl (some (.int v))) h') (k : P v h') : xg d mid as h (xI P T) := ⟨_, _, hv, k⟩
theorem xg_p {v : Nat} {P : Nat → xH → Prop} (hv : xv d mid as h (.inl (some (.ref v))) h') (k : P v h') : xg d mid as h (xP P T) := ⟨_, _, hv, k⟩
theorem xg_u {P : xH → Prop} (hv : xv d mid as h (.inl none) h') (k : P h') : xg d mid as h (xU P T) := ⟨_, _, hv, k⟩
theorem xg_ti {x : Nat} {P : Int32 → xH → Prop} (hv : xv d mid as h (.inr x) h') (k : T x h') : xg d mid as h (xI P T) := ⟨_, _, hv, k⟩
theorem xg_tp {x : Nat} {P : Nat → xH → Prop} (hv : xv d mid as h (.inr x) h') (k : T x h') : xg d mid as h (xP P T) := ⟨_, _, hv, k⟩
theorem xg_tu {x : Nat} {P : xH → Prop} (hv : xv d mid as h (.inr x) h') (k : T x h') : xg d mid as h (xU P T) := ⟨_, _, hv, k⟩
end XV
section LF
variable {d : Nat} {Q : xO → xH → Prop} {sh : List xS} {I : Nat → Nat → Int32} {J : Nat → Nat → Int64} {a b c s v : Int32}
theorem v_L_part : xv (d + 1) qL_part [.int a, .int s] (sh, I, J) (.inl (some (.int (xus a s &&& 255)))) (sh, I, J) := xv_of rfl (Nat.le_of_ble_eq_true rfl) (s_L_part_0 ⟨rfl, rfl⟩)
theorem v_M_part : xv (d + 1) qM_part [.int a, .int s] (sh, I, J) (.inl (some (.int ((a >>> ((8 * s) &&& 31)) &&& 255)))) (sh, I, J) := xv_of rfl (Nat.le_of_ble_eq_true rfl) (s_M_part_0 ⟨rfl, rfl⟩)
def zclamp (v : Int32) : Int32 := if 0 ≤ v then (if v ≤ 255 then v else 255) else 0
theorem v_L_clamp : xv (d + 1) qL_clamp [.int v] (sh, I, J) (.inl (some (.int (zclamp v)))) (sh, I, J) :=
  xv_of rfl (Nat.le_of_ble_eq_true rfl) (s_L_clamp_0 (fun h => s_L_clamp_8 (fun h2 => s_L_clamp_21 ⟨by rw [zclamp, if_pos h, if_pos h2], rfl⟩) (fun h2 => s_L_clamp_15 ⟨by rw [zclamp, if_pos h, if_neg h2], rfl⟩)) (fun h => s_L_clamp_4 ⟨by rw [zclamp, if_neg h], rfl⟩))
/-- one part of a sum -/
def zsumt (a b s : Int32) : Int32 := (((xus a s &&& 255) + (xus b s &&& 255)) &&& 255) <<< (s &&& 31)
def zsum (a b : Int32) : Int32 := (((0 ||| zsumt a b 0) ||| zsumt a b (0 + 8)) ||| zsumt a b (0 + 8 + 8)) ||| zsumt a b (0 + 8 + 8 + 8)
theorem b_L_sum (hs : ¬ (32 ≤ s)) (k : xG (d + 1) zm_L_sum (4, [some (.int a), some (.int b), some (.int (c ||| zsumt a b s)), some (.int (s + 8))], []) (sh, I, J) Q) : xG (d + 1) zm_L_sum (4, [some (.int a), some (.int b), some (.int c), some (.int s)], []) (sh, I, J) Q :=
  s_L_sum_4 (fun h => absurd h hs) fun _ => s_L_sum_10 (xg_i v_L_part (s_L_sum_16 (xg_i v_L_part (s_L_sum_21 k))))
theorem v_L_sum : xv (d + 2) qL_sum [.int a, .int b] (sh, I, J) (.inl (some (.int (zsum a b)))) (sh, I, J) :=
  xv_of rfl (Nat.le_of_ble_eq_true rfl) (s_L_sum_0 (b_L_sum (by decide) (b_L_sum (by decide) (b_L_sum (by decide) (b_L_sum (by decide) (s_L_sum_4 (fun _ => s_L_sum_36 ⟨rfl, rfl⟩) (fun h => absurd (by decide) h)))))))
def zplust (a b k : Int32) : Int32 := ((((a >>> ((8 * k) &&& 31)) &&& 255) + ((b >>> ((8 * k) &&& 31)) &&& 255)) &&& 255) <<< ((8 * k) &&& 31)
def zplus (a b : Int32) : Int32 := (((0 ||| zplust a b 0) ||| zplust a b (0 + 1)) ||| zplust a b (0 + 1 + 1)) ||| zplust a b (0 + 1 + 1 + 1)
theorem b_M_plus (hs : ¬ (4 ≤ s)) (k : xG (d + 1) zm_M_plus (4, [some (.int a), some (.int b), some (.int (c ||| zplust a b s)), some (.int (s + 1))], []) (sh, I, J) Q) : xG (d + 1) zm_M_plus (4, [some (.int a), some (.int b), some (.int c), some (.int s)], []) (sh, I, J) Q :=
  s_M_plus_4 (fun h => absurd h hs) fun _ => s_M_plus_9 (xg_i v_M_part (s_M_plus_15 (xg_i v_M_part (s_M_plus_20 k))))
theorem v_M_plus : xv (d + 2) qM_plus [.int a, .int b] (sh, I, J) (.inl (some (.int (zplus a b)))) (sh, I, J) :=
  xv_of rfl (Nat.le_of_ble_eq_true rfl) (s_M_plus_0 (b_M_plus (by decide) (b_M_plus (by decide) (b_M_plus (by decide) (b_M_plus (by decide) (s_M_plus_4 (fun _ => s_M_plus_38 ⟨rfl, rfl⟩) (fun h => absurd (by decide) h)))))))
end LF
