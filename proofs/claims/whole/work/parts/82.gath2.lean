/-! LENGTHS GATHERED: the reference's zeros; all lengths, both. -/
section GB
variable {c : zC} {J : zK} {T : Nat → zJ → Prop} {P : zJ → Prop}
abbrev mgS : List Nat := [88, 102, 103]
theorem mf_ga {I0 I : zJ} {n a : Nat} {u v w : Int32} (h : mf mgS [33] I0 I) : mf mgS [33] I0 (xup (xup (xup (xup I 102 n u) 103 n v) 83 33 w) 88 a (nI 1)) := mf_u (mf_f (mf_u (mf_u h (by decide) (by decide)) (by decide) (by decide)) (by decide)) (by decide) (by decide)
/-- outside the small code nothing of the used symbols changes -/
def lo88 (I0 I : zJ) : Prop := ∀ j, j < 1104 → I 88 j = I0 88 j
theorem lo_ga {I0 I : zJ} {n a : Nat} {u v w : Int32} (h : lo88 I0 I) : lo88 I0 (xup (xup (xup (xup I 102 n u) 103 n v) 83 33 w) 88 (1104 + a) (nI 1)) := fun j hj => by
  rw [xup_i (by omega), xup_k (by decide), xup_k (by decide), xup_k (by decide)]
  exact h j hj
theorem v_zerosM {I0 : zJ} : ∀ (k z : Nat) (xs : List (Nat × Nat)) (I : zJ), z ≤ k → z ≤ 300 → xs.length + z ≤ 296 → mf mgS [33] I0 I → lo88 I0 I → mga I xs → (∀ I1, mf mgS [33] I0 I1 → lo88 I0 I1 → mga I1 (xs ++ zl k z) → P I1) → g_M_sayZeros_2 c J (nI z) I P T := by
  -- no more than two
  have z74 : ∀ (k z : Nat) (xs : List (Nat × Nat)) (I : zJ), z ≤ k → z < 3 → xs.length + z ≤ 296 → mf mgS [33] I0 I → lo88 I0 I → mga I xs → (∀ I1, mf mgS [33] I0 I1 → lo88 I0 I1 → mga I1 (xs ++ zl k z) → P I1) → g_M_sayZeros_74 c J (nI z) I P T := by
    intro k
    induction k with
    | zero =>
      intro z xs I hz _ _ hf ho hg hP
      obtain rfl : z = 0 := by omega
      refine t_M_sayZeros_74 (br_t (by decide) (hP I hf ho ?_))
      show mga I (xs ++ [])
      rw [List.append_nil]; exact hg
    | succ k ih =>
      intro z xs I hz hz3 hl hf ho hg hP
      unfold zl at hP
      by_cases e0 : z = 0
      · subst e0
        rw [if_pos rfl, List.append_nil] at hP
        exact t_M_sayZeros_74 (br_t (by decide) (hP I hf ho hg))
      · rw [if_neg e0, if_neg (by omega), if_neg (by omega)] at hP
        refine t_M_sayZeros_74 (br_f (nI_nle (by omega) (by omega)) ?_)
        rw [xup_k (by decide), xup_k (by decide), xup_k (by decide), hg.1, nc (n := xs.length) (by omega), nI_add, nI_add, nc (by decide), sb_m1 (by omega)]
        refine ⟨vp_in_nI (by omega) (by decide), vp_in_nI (by omega) (by decide), by unfold vp_in; decide, nm_e ?_⟩
        refine ih (z - 1) (xs ++ [(0, 1)]) _ (by omega) (by omega) (by rw [List.length_append]; show xs.length + 1 + (z - 1) ≤ 296; omega) (mf_ga hf) (lo_ga ho) (mga_app hg) (fun I1 f1 o1 g1 => hP I1 f1 o1 ?_)
        rw [List.append_assoc] at g1
        exact g1
  have z40 : ∀ (k z : Nat) (xs : List (Nat × Nat)) (I : zJ), z ≤ k → z < 11 → xs.length + z ≤ 296 → mf mgS [33] I0 I → lo88 I0 I → mga I xs → (∀ I1, mf mgS [33] I0 I1 → lo88 I0 I1 → mga I1 (xs ++ zl k z) → P I1) → g_M_sayZeros_40 c J (nI z) I P T := by
    intro k z xs I hz hz3 hl hf ho hg hP
    by_cases e3 : z < 3
    · exact t_M_sayZeros_40 (br_t (nI_lt e3 (by decide)) (z74 k z xs I hz e3 hl hf ho hg hP))
    · obtain ⟨k, rfl⟩ : ∃ k', k = k' + 1 := ⟨k - 1, by omega⟩
      unfold zl at hP
      rw [if_neg (by omega), if_neg (by omega), if_pos (by omega), zl_0] at hP
      refine t_M_sayZeros_40 (br_f (nI_nlt (by omega) (by omega)) (br_t (nI_le (by omega) (by decide)) ?_))
      rw [xup_k (by decide), xup_k (by decide), xup_k (by decide), hg.1, nc (n := xs.length) (by omega), nI_add, nI_add, nc (by decide), pk_sub (a := z) (b := 3) (by omega), pk_sub (a := z) (b := z) (Nat.le_refl _), Nat.sub_self]
      refine ⟨vp_in_nI (by omega) (by decide), vp_in_nI (by omega) (by decide), by unfold vp_in; decide, nm_e ?_⟩
      refine t_M_sayZeros_40 (br_t (by decide) (z74 0 0 (xs ++ [(17, z)]) _ (Nat.le_refl _) (by decide) (by rw [List.length_append]; show xs.length + 1 + 0 ≤ 296; omega) (mf_ga hf) (lo_ga ho) (mga_app (a := 17) (b := z) hg) (fun I1 f1 o1 g1 => hP I1 f1 o1 ?_)))
      have : xs ++ [(17, z)] ++ zl 0 0 = xs ++ [(17, z)] := List.append_nil _
      rw [this] at g1
      exact g1
  intro k
  induction k with
  | zero =>
    intro z xs I hz hz3 hl hf ho hg hP
    obtain rfl : z = 0 := by omega
    exact t_M_sayZeros_2 (br_t (by decide) (z40 0 0 xs I (Nat.le_refl _) (by decide) hl hf ho hg hP))
  | succ k ih =>
    intro z xs I hz hz3 hl hf ho hg hP
    by_cases e1 : z < 11
    · exact t_M_sayZeros_2 (br_t (nI_lt e1 (by decide)) (z40 (k + 1) z xs I hz e1 hl hf ho hg hP))
    · unfold zl at hP
      rw [if_neg (by omega), if_pos (by omega)] at hP
      refine t_M_sayZeros_2 (br_f (nI_nlt (by omega) (by omega)) ?_)
      rw [xup_k (by decide), xup_k (by decide), xup_k (by decide), hg.1, nc (n := xs.length) (by omega), nI_add, nI_add, nc (by decide), pk_sub (a := z) (b := 11) (by omega), pk_sub (a := z) (b := z) (Nat.le_refl _), Nat.sub_self]
      have v1 : vp_in (nI xs.length) 296 := vp_in_nI (by omega) (by decide)
      have v2 : vp_in (nI (1104 + 18)) 1123 := by unfold vp_in; decide
      refine pk_le z 138 (fun e2 => ⟨v1, v1, v2, nm_e ?_⟩) (fun e2 => ⟨v1, v1, v2, nm_e ?_⟩)
      · rw [show min z 138 = z by omega, Nat.sub_self] at hP
        have em : mor (18, z) = z - 11 := rfl
        refine ih 0 (xs ++ [(18, z)]) _ (by omega) (by omega) (by rw [List.length_append]; show xs.length + 1 + 0 ≤ 296; omega) (mf_ga hf) (lo_ga ho) (mga_app (a := 18) (b := z) hg) (fun I1 f1 o1 g1 => hP I1 f1 o1 ?_)
        rw [List.append_assoc] at g1
        exact g1
      · rw [show min z 138 = 138 by omega] at hP
        rw [xup_k (by decide), xup_k (by decide), hg.1, nI_add, pk_sub (a := z) (b := 138) (by omega)]
        refine ih (z - 138) (xs ++ [(18, 138)]) _ (by omega) (by omega) (by rw [List.length_append]; show xs.length + 1 + (z - 138) ≤ 296; omega) (mf_ga hf) (lo_ga ho) (mga_app (a := 18) (b := 138) hg) (fun I1 f1 o1 g1 => hP I1 f1 o1 ?_)
        rw [List.append_assoc] at g1
        exact g1
variable {o m s : Nat} {l : Nat → Nat}
/-- all lengths, by the class -/
theorem l_glC {I0 : zJ} (hc : zco c o m) (ho : 14 ≤ o) (h60 : o + 6 < 60) (hs : s ≤ m) (hm : m ≤ 296) (h6 : I0 o 6 = nI s) (hl : ∀ k, k < s → I0 (o + 4) k = nI (l k)) (hl9 : ∀ k, k < s → l k ≤ 9) : ∀ (n i z : Nat) (xs : List (Nat × Nat)) (I : zJ), i + n = s → z ≤ i → xs.length + z ≤ i → fr gaS I0 I → cga I xs → (∀ I1, fr gaS I0 I1 → cga I1 (xs ++ gl l n i z) → P I1) → g_CodeWriter_gatherLengths_18 c J o (nI z) (nI i) I P T := by
  intro n
  induction n with
  | zero =>
    intro i z xs I hi hz hx hf hg hP
    obtain rfl : i = s := by omega
    refine t_CodeWriter_gatherLengths_18 hc ?_
    rw [hf o (by simp; omega), h6]
    refine br_t (nI_le (Nat.le_refl _) (by omega)) (t_CodeWriter_gatherZeros (v_zerosC z z xs I (Nat.le_refl _) (by omega) (by omega) hf hg hP))
  | succ n ih =>
    intro i z xs I hi hz hx hf hg hP
    have e4 : ∀ {I2 : zJ}, fr gaS I0 I2 → I2 (o + 4) i = nI (l i) := fun {I2} h2 => by rw [h2 (o + 4) (by simp; omega)]; exact hl i (by omega)
    have h9 := hl9 i (by omega)
    unfold gl at hP
    refine t_CodeWriter_gatherLengths_18 hc ?_
    rw [hf o (by simp; omega), h6, nc (by omega), e4 hf, nI_add, nI_add]
    refine br_f (nI_ge (by omega) (by omega)) ⟨vp_in_nI (by omega) (by omega), pk_eq (l i) 0 (fun e => ?_) (fun e => ?_)⟩
    · rw [if_pos e] at hP
      exact ih (i + 1) (z + 1) xs I (by omega) (by omega) (by omega) hf hg hP
    · rw [if_neg e] at hP
      refine t_CodeWriter_gatherZeros (v_zerosC z z xs I (Nat.le_refl _) (by omega) (by omega) hf hg fun I1 f1 g1 => ?_)
      have hzl := zl_len z z
      have hln : (xs ++ zl z z).length ≤ i := by rw [List.length_append]; omega
      rw [xup_k (by decide), xup_k (by decide), xup_k (by decide), e4 f1, g1.1, nc (n := (xs ++ zl z z).length) (by omega), nI_add, nc (n := l i) (by omega)]
      refine ⟨vp_in_nI (by omega) (by omega), vp_in_nI (by omega) (by decide), vp_in_nI (by omega) (by decide), vp_in_nI (by omega) (by decide), nm_e ?_⟩
      refine ih (i + 1) 0 (xs ++ zl z z ++ [(l i, 1)]) _ (by omega) (by omega) (by rw [List.length_append]; show (xs ++ zl z z).length + 1 + 0 ≤ i + 1; omega) (fr_ga f1) (cga_app g1) (fun I2 f2 g2 => hP I2 f2 ?_)
      rw [List.append_assoc, List.append_assoc] at g2
      exact g2
end GB
