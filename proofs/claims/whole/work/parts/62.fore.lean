/-! PIXELS FORETOLD. -/
def pby (m : Nat) (l t tl tr : Int32) : Int32 := match m with
  | 1 => l
  | 2 => t
  | 3 => tr
  | 4 => tl
  | 5 => pavg (pavg l tr) t
  | 6 => pavg l tl
  | 7 => pavg l t
  | 8 => pavg tl t
  | 9 => pavg t tr
  | 10 => pavg (pavg l tl) (pavg t tr)
  | 11 => pnea l t tl
  | 12 => pslo l t tl
  | 13 => phal (pavg l t) tl
  | _ => (-16777216 : Int32)
section BY
variable {c : zC} {J : zK} {I : zJ} {m : Nat} {l t tl tr : Int32} {T : Nat → zJ → Prop} {P : Int32 → zJ → Prop}
theorem v_byMode (hm : m < 16) (hP : P (pby m l t tl tr) I) : c_Foretelling_byMode c J (nI m) l t tl tr I P T := by
  refine t_Foretelling_byMode ⟨fun e => ?_, fun e => ?_, fun e => ?_, fun e => ?_, fun e => ?_, fun e => ?_, fun e => ?_, fun e => ?_, fun e => ?_, fun e => ?_, fun e => ?_, fun e => ?_, fun e => ?_, fun e => ?_⟩
  · rw [nI_eq (by omega) (by decide)] at e; subst e; exact hP
  · rw [nI_eq (by omega) (by decide)] at e; subst e; exact hP
  · rw [nI_eq (by omega) (by decide)] at e; subst e; exact hP
  · rw [nI_eq (by omega) (by decide)] at e; subst e; exact hP
  · rw [nI_eq (by omega) (by decide)] at e; subst e; exact v_L_avg (v_L_avg hP)
  · rw [nI_eq (by omega) (by decide)] at e; subst e; exact v_L_avg hP
  · rw [nI_eq (by omega) (by decide)] at e; subst e; exact v_L_avg hP
  · rw [nI_eq (by omega) (by decide)] at e; subst e; exact v_L_avg hP
  · rw [nI_eq (by omega) (by decide)] at e; subst e; exact v_L_avg hP
  · rw [nI_eq (by omega) (by decide)] at e; subst e; exact v_L_avg (v_L_avg (v_L_avg hP))
  · rw [nI_eq (by omega) (by decide)] at e; subst e; exact v_nearer hP
  · rw [nI_eq (by omega) (by decide)] at e; subst e; exact v_slope hP
  · rw [nI_eq (by omega) (by decide)] at e; subst e; exact v_L_avg (v_hslope hP)
  · rw [nI_toInt (by omega)] at e
    have hk : m = 0 ∨ m = 14 ∨ m = 15 := by omega
    rcases hk with rfl | rfl | rfl
    · exact hP
    · exact hP
    · exact hP
theorem v_foretold (hm : m < 16) (hP : P (pby m l t tl tr) I) : c_M_foretold c J (nI m) l t tl tr I P T := by
  refine t_M_foretold ⟨fun e => ?_, fun e => ?_, fun e => ?_, fun e => ?_, fun e => ?_, fun e => ?_, fun e => ?_, fun e => ?_, fun e => ?_, fun e => ?_, fun e => ?_, fun e => ?_, fun e => ?_, fun e => ?_⟩
  · rw [nI_eq (by omega) (by decide)] at e; subst e; exact hP
  · rw [nI_eq (by omega) (by decide)] at e; subst e; exact hP
  · rw [nI_eq (by omega) (by decide)] at e; subst e; exact hP
  · rw [nI_eq (by omega) (by decide)] at e; subst e; exact hP
  · rw [nI_eq (by omega) (by decide)] at e; subst e; exact v_M_half (v_M_half hP)
  · rw [nI_eq (by omega) (by decide)] at e; subst e; exact v_M_half hP
  · rw [nI_eq (by omega) (by decide)] at e; subst e; exact v_M_half hP
  · rw [nI_eq (by omega) (by decide)] at e; subst e; exact v_M_half hP
  · rw [nI_eq (by omega) (by decide)] at e; subst e; exact v_M_half hP
  · rw [nI_eq (by omega) (by decide)] at e; subst e; exact v_M_half (v_M_half (v_M_half hP))
  · rw [nI_eq (by omega) (by decide)] at e; subst e; exact v_chosen hP
  · rw [nI_eq (by omega) (by decide)] at e; subst e; exact v_bent0 hP
  · rw [nI_eq (by omega) (by decide)] at e; subst e; exact v_bent1 hP
  · rw [nI_toInt (by omega)] at e
    have hk : m = 0 ∨ m = 14 ∨ m = 15 := by omega
    rcases hk with rfl | rfl | rfl
    · exact hP
    · exact hP
    · exact hP
end BY
/-- what foretells pixel k of an image of this width -/
def pfa (f : Nat → Int32) (k w m : Nat) : Int32 := if k = 0 then (-16777216 : Int32) else if k < w then f (k - 1) else if k % w = 0 then f (k - w) else pby m (f (k - 1)) (f (k - w)) (f (k - w - 1)) (f (k - w + 1))
section FO
variable {c : zC} {J : zK} {I : zJ} {o m w h x y k md n : Nat} {f : Nat → Int32} {T : Nat → zJ → Prop} {P : Int32 → zJ → Prop}
theorem z_yx (hx : x < w) : (y * w + x) / w = y ∧ (y * w + x) % w = x := by
  have hw : 0 < w := by omega
  constructor
  · rw [Nat.mul_comm, Nat.mul_add_div hw, Nat.div_eq_of_lt hx, Nat.add_zero]
  · rw [Nat.mul_comm, Nat.mul_add_mod, Nat.mod_eq_of_lt hx]
theorem v_foretC (hp : zpl c o n) (hn : n ≤ 64) (hw : I o 1 = nI w) (hx : x < w) (hk : k = y * w + x) (hkn : k < n) (hf : ∀ j, j < k → I (o + 1) j = f j) (hm : md < 16) (hw8 : w ≤ 16) (hP : P (pfa f k w md) I) : c_Foretelling_foretold c J o (nI x) (nI y) (nI md) I P T := by
  have hyw : y ≤ y * w := Nat.le_mul_of_pos_right _ (by omega)
  unfold pfa at hP
  refine t_Foretelling_foretold hp ?_
  rw [hw, pk_mul, nI_add, ← hk]
  refine pk_eq k 0 (fun e => ?_) (fun e => ?_)
  · rw [if_pos e] at hP; exact hP
  · rw [if_neg e] at hP
    rw [pk_sub (show 1 ≤ k by omega), nc (by omega)]
    refine pk_eq y 0 (fun ey => ?_) (fun ey => ?_)
    · subst ey
      rw [if_pos (by omega)] at hP
      refine ⟨vp_in_nI (by omega) (by omega), ?_⟩
      rw [hf _ (by omega)]; exact hP
    · have hle : w ≤ y * w := Nat.le_mul_of_pos_left _ (by omega)
      rw [if_neg (by omega)] at hP
      have hmod : k % w = x := by rw [hk]; exact (z_yx hx).2
      rw [hmod] at hP
      rw [pk_sub (show w ≤ k by omega), nc (by omega)]
      refine pk_eq x 0 (fun ex => ?_) (fun ex => ?_)
      · rw [if_pos ex] at hP
        refine ⟨vp_in_nI (by omega) (by omega), ?_⟩
        rw [hf _ (by omega)]; exact hP
      · rw [if_neg ex] at hP
        rw [pk_sub (show 1 ≤ k - w by omega), nI_add, nc (by omega), nc (by omega), hf _ (by omega), hf _ (by omega), hf _ (by omega), hf _ (by omega)]
        exact ⟨vp_in_nI (by omega) (by omega), vp_in_nI (by omega) (by omega), vp_in_nI (by omega) (by omega), vp_in_nI (by omega) (by omega), v_byMode hm hP⟩
theorem v_foretM (hw : 0 < w) (hw8 : w ≤ 64) (hk : k < 64) (hf : ∀ j, j < k → I 91 j = f j) (hm : md < 16) (hP : P (pfa f k w md) I) : c_M_foretoldAt c J (nI k) (nI w) (nI md) I P T := by
  unfold pfa at hP
  refine t_M_foretoldAt (pk_eq k 0 (fun e => ?_) (fun e => ?_))
  · rw [if_pos e] at hP; exact hP
  · rw [if_neg e] at hP
    refine pk_le w k (fun e1 => ?_) (fun e1 => ?_)
    · rw [if_neg (by omega)] at hP
      rw [pk_rem (by omega) hw (by omega)]
      refine ⟨nI_ne0 hw (by omega), ?_⟩
      rw [pk_sub e1, nc (by omega)]
      refine pk_eq (k % w) 0 (fun e2 => ?_) (fun e2 => ?_) rfl rfl (Nat.lt_of_lt_of_le (Nat.mod_lt _ hw) (by omega))
      · rw [if_pos e2] at hP
        refine ⟨vp_in_nI (by omega) (by decide), ?_⟩
        rw [hf _ (by omega)]; exact hP
      · rw [if_neg e2] at hP
        have hkw : k ≠ w := by
          intro z
          rw [z, Nat.mod_self] at e2
          exact e2 rfl
        have hw2 : 2 ≤ w := by
          by_cases z : w = 1
          · rw [z, Nat.mod_one] at e2; exact absurd rfl e2
          · omega
        rw [pk_sub (show 1 ≤ k by omega), pk_sub (show 1 ≤ k - w by omega), nI_add, nc (by omega), nc (by omega), nc (by omega), hf _ (by omega), hf _ (by omega), hf _ (by omega), hf _ (by omega)]
        exact ⟨vp_in_nI (by omega) (by decide), vp_in_nI (by omega) (by decide), vp_in_nI (by omega) (by decide), vp_in_nI (by omega) (by decide), v_foretold hm hP⟩
    · rw [if_pos e1] at hP
      rw [pk_sub (show 1 ≤ k by omega), nc (by omega)]
      refine ⟨vp_in_nI (by omega) (by decide), ?_⟩
      rw [hf _ (by omega)]; exact hP
end FO
