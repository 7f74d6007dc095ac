/-! LENGTHS GATHERED for the small code. -/
/-- a run of zeros: symbols of the small code, how many lengths each says -/
def zl : Nat → Nat → List (Nat × Nat)
  | 0, _ => []
  | k + 1, n => if n = 0 then [] else if 11 ≤ n then (18, min n 138) :: zl k (n - min n 138) else if 3 ≤ n then (17, n) :: zl k 0 else (0, 1) :: zl k (n - 1)
theorem zl_0 : ∀ k, zl k 0 = []
  | 0 => rfl
  | _ + 1 => rfl
theorem zl_len : ∀ k n, (zl k n).length ≤ n
  | 0, _ => Nat.zero_le _
  | k + 1, n => by
    unfold zl
    by_cases e0 : n = 0
    · rw [if_pos e0]; exact Nat.zero_le _
    · rw [if_neg e0]
      by_cases e1 : 11 ≤ n
      · rw [if_pos e1]
        have := zl_len k (n - min n 138)
        show (zl k (n - min n 138)).length + 1 ≤ n
        omega
      · rw [if_neg e1]
        by_cases e2 : 3 ≤ n
        · rw [if_pos e2, zl_0]; show 1 ≤ n; omega
        · rw [if_neg e2]
          have := zl_len k (n - 1)
          show (zl k (n - 1)).length + 1 ≤ n
          omega
def gl (l : Nat → Nat) : Nat → Nat → Nat → List (Nat × Nat)
  | 0, _, z => zl z z
  | n + 1, i, z => if l i = 0 then gl l n (i + 1) (z + 1) else zl z z ++ (l i, 1) :: gl l n (i + 1) 0
theorem gl_len (l : Nat → Nat) : ∀ n i z, (gl l n i z).length ≤ n + z
  | 0, _, z => by have := zl_len z z; unfold gl; omega
  | n + 1, i, z => by
    unfold gl
    by_cases e : l i = 0
    · rw [if_pos e]; have := gl_len l n (i + 1) (z + 1); omega
    · rw [if_neg e]
      have h1 := gl_len l n (i + 1) 0
      have h2 := zl_len z z
      rw [List.length_append]
      show _ + ((gl l n (i + 1) 0).length + 1) ≤ _
      omega
def mor (x : Nat × Nat) : Nat := if x.1 = 17 then x.2 - 3 else if x.1 = 18 then x.2 - 11 else 0
/-- what was gathered: by the class, by the reference -/
def cga (I : zJ) (xs : List (Nat × Nat)) : Prop := I 68 3 = nI xs.length ∧ (∀ i x, xs[i]? = some x → I 76 i = nI x.1 ∧ I 77 i = nI x.2) ∧ ∀ j, j < 19 → I 73 j = nI (us1 (hask xs) j)
def mga (I : zJ) (xs : List (Nat × Nat)) : Prop := I 83 33 = nI xs.length ∧ (∀ i x, xs[i]? = some x → I 102 i = nI x.1 ∧ I 103 i = nI (mor x)) ∧ ∀ j, j < 19 → I 88 (1104 + j) = nI (us1 (hask xs) j)
theorem hask_app (xs : List (Nat × Nat)) (a b j : Nat) : hask (xs ++ [(a, b)]) j = (hask xs j || (a == j)) := by
  unfold hask
  rw [List.any_append]
  simp
theorem us1_app (xs : List (Nat × Nat)) (a b j : Nat) : us1 (hask (xs ++ [(a, b)])) j = if j = a then 1 else us1 (hask xs) j := by
  unfold us1
  rw [hask_app]
  by_cases e : j = a
  · subst e; simp
  · have : (a == j) = false := by simp; omega
    rw [this, Bool.or_false, if_neg e]
theorem xmin_n {a b : Nat} (ha : a < 2 ^ 31) (hb : b < 2 ^ 31) : xmin (nI a) (nI b) = nI (min a b) := by
  unfold xmin
  by_cases e : b < a
  · rw [if_pos (nI_lt e ha), Nat.min_eq_right (by omega)]
  · rw [if_neg (nI_nlt (by omega) hb), Nat.min_eq_left (by omega)]
section GA2
variable {c : zC} {J : zK} {T : Nat → zJ → Prop} {P : zJ → Prop}
theorem cga_app {I : zJ} {xs : List (Nat × Nat)} {a b : Nat} (h : cga I xs) : cga (xup (xup (xup (xup I 76 xs.length (nI a)) 77 xs.length (nI b)) 68 3 (nI (xs.length + 1))) 73 a (nI 1)) (xs ++ [(a, b)]) := by
  obtain ⟨h1, h2, h3⟩ := h
  refine ⟨?_, ?_, ?_⟩
  · rw [xup_k (by decide), xup_s, List.length_append]; rfl
  · intro i x hx
    have r1 : (xup (xup (xup (xup I 76 xs.length (nI a)) 77 xs.length (nI b)) 68 3 (nI (xs.length + 1))) 73 a (nI 1)) 76 i = xup I 76 xs.length (nI a) 76 i := by rw [xup_k (by decide), xup_k (by decide), xup_k (by decide)]
    have r2 : (xup (xup (xup (xup I 76 xs.length (nI a)) 77 xs.length (nI b)) 68 3 (nI (xs.length + 1))) 73 a (nI 1)) 77 i = xup (xup I 76 xs.length (nI a)) 77 xs.length (nI b) 77 i := by rw [xup_k (by decide), xup_k (by decide)]
    rw [r1, r2]
    by_cases e : i < xs.length
    · rw [List.getElem?_append_left e] at hx
      rw [xup_i (show i ≠ xs.length by omega), xup_i (show i ≠ xs.length by omega), xup_k (by decide)]
      exact h2 i x hx
    · have hi2 := (List.getElem?_eq_some_iff.mp hx).1
      rw [List.length_append] at hi2
      simp at hi2
      obtain rfl : i = xs.length := by omega
      rw [List.getElem?_append_right (Nat.le_refl _)] at hx
      simp at hx
      rw [xup_s, xup_s, ← hx]
      exact ⟨rfl, rfl⟩
  · intro j hj
    rw [us1_app]
    by_cases e : j = a
    · subst e; rw [xup_s, if_pos rfl]
    · rw [xup_i e, if_neg e, xup_k (by decide), xup_k (by decide), xup_k (by decide)]; exact h3 j hj
theorem mga_app {I : zJ} {xs : List (Nat × Nat)} {a b : Nat} (h : mga I xs) : mga (xup (xup (xup (xup I 102 xs.length (nI a)) 103 xs.length (nI (mor (a, b)))) 83 33 (nI (xs.length + 1))) 88 (1104 + a) (nI 1)) (xs ++ [(a, b)]) := by
  obtain ⟨h1, h2, h3⟩ := h
  refine ⟨?_, ?_, ?_⟩
  · rw [xup_k (by decide), xup_s, List.length_append]; rfl
  · intro i x hx
    have r1 : (xup (xup (xup (xup I 102 xs.length (nI a)) 103 xs.length (nI (mor (a, b)))) 83 33 (nI (xs.length + 1))) 88 (1104 + a) (nI 1)) 102 i = xup I 102 xs.length (nI a) 102 i := by rw [xup_k (by decide), xup_k (by decide), xup_k (by decide)]
    have r2 : (xup (xup (xup (xup I 102 xs.length (nI a)) 103 xs.length (nI (mor (a, b)))) 83 33 (nI (xs.length + 1))) 88 (1104 + a) (nI 1)) 103 i = xup (xup I 102 xs.length (nI a)) 103 xs.length (nI (mor (a, b))) 103 i := by rw [xup_k (by decide), xup_k (by decide)]
    rw [r1, r2]
    by_cases e : i < xs.length
    · rw [List.getElem?_append_left e] at hx
      rw [xup_i (show i ≠ xs.length by omega), xup_i (show i ≠ xs.length by omega), xup_k (by decide)]
      exact h2 i x hx
    · have hi2 := (List.getElem?_eq_some_iff.mp hx).1
      rw [List.length_append] at hi2
      simp at hi2
      obtain rfl : i = xs.length := by omega
      rw [List.getElem?_append_right (Nat.le_refl _)] at hx
      simp at hx
      rw [xup_s, xup_s, ← hx]
      exact ⟨rfl, rfl⟩
  · intro j hj
    rw [us1_app]
    by_cases e : j = a
    · subst e; rw [xup_s, if_pos rfl]
    · rw [xup_i (by omega), if_neg e, xup_k (by decide), xup_k (by decide), xup_k (by decide)]; exact h3 j hj
abbrev gaS : List Nat := [68, 73, 76, 77]
theorem fr_ga {I0 I : zJ} {n a : Nat} {u v w : Int32} (h : fr gaS I0 I) : fr gaS I0 (xup (xup (xup (xup I 76 n u) 77 n v) 68 3 w) 73 a (nI 1)) := fr_u (fr_u (fr_u (fr_u h (by decide)) (by decide)) (by decide)) (by decide)
/-- zeros, by the class -/
theorem v_zerosC {I0 : zJ} : ∀ (k z : Nat) (xs : List (Nat × Nat)) (I : zJ), z ≤ k → z ≤ 300 → xs.length + z ≤ 296 → fr gaS I0 I → cga I xs → (∀ I1, fr gaS I0 I1 → cga I1 (xs ++ zl k z) → P I1) → g_CodeWriter_gatherZeros_2 c J (nI z) I P T := by
  intro k
  induction k with
  | zero =>
    intro z xs I hz _ _ hf hg hP
    obtain rfl : z = 0 := by omega
    refine t_CodeWriter_gatherZeros_2 (br_t (by decide) (hP I hf ?_))
    show cga I (xs ++ [])
    rw [List.append_nil]; exact hg
  | succ k ih =>
    intro z xs I hz hz3 hl hf hg hP
    unfold zl at hP
    by_cases e0 : z = 0
    · subst e0
      rw [if_pos rfl, List.append_nil] at hP
      exact t_CodeWriter_gatherZeros_2 (br_t (by decide) (hP I hf hg))
    · rw [if_neg e0] at hP
      have h68 := hg.1
      -- one more gathered
      have g50 : ∀ v, 1 ≤ v → v < 11 → v ≤ z → (∀ I1, fr gaS I0 I1 → cga I1 (xs ++ (if v < 3 then (0, v) else (17, v)) :: zl k (z - v)) → P I1) → g_CodeWriter_gatherZeros_50 c J (nI z) (nI v) I P T := by
        intro v hv1 hv11 hvz hP
        refine t_CodeWriter_gatherZeros_50 ?_
        rw [xup_k (by decide), xup_k (by decide), xup_k (by decide), xup_k (by decide), xup_k (by decide), xup_k (by decide), h68, nc (n := xs.length) (by omega), nI_add, pk_sub hvz, nc (n := 0) (by decide), nc (n := 17) (by decide)]
        refine pk_lt v 3 (fun e => ⟨vp_in_nI (by omega) (by decide), vp_in_nI (by omega) (by decide), by unfold vp_in; decide, nm_e ?_⟩) (fun e => ⟨vp_in_nI (by omega) (by decide), vp_in_nI (by omega) (by decide), by unfold vp_in; decide, nm_e ?_⟩)
        · rw [if_pos e] at hP
          refine ih (z - v) (xs ++ [(0, v)]) _ (by omega) (by omega) (by rw [List.length_append]; show xs.length + 1 + (z - v) ≤ 296; omega) (fr_ga hf) (cga_app hg) (fun I1 f1 g1 => hP I1 f1 ?_)
          rw [List.append_assoc] at g1
          exact g1
        · rw [if_neg (by omega)] at hP
          refine ih (z - v) (xs ++ [(17, v)]) _ (by omega) (by omega) (by rw [List.length_append]; show xs.length + 1 + (z - v) ≤ 296; omega) (fr_ga hf) (cga_app hg) (fun I1 f1 g1 => hP I1 f1 ?_)
          rw [List.append_assoc] at g1
          exact g1
      refine t_CodeWriter_gatherZeros_2 (br_f (nI_nle (by omega) (by omega)) ?_)
      rw [xmin_n (by omega) (by decide), xmin_n (by omega) (by decide)]
      refine pk_lt z 11 (fun e1 => pk_lt z 3 (fun e2 => br_t (by decide) (g50 1 (by omega) (by omega) (by omega) ?_)) (fun e2 => br_t (nI_lt (by omega) (by decide)) ?_)) (fun e1 => br_f (nI_nlt (by omega) (by omega)) ?_)
      · rw [if_neg (by omega), if_neg (by omega)] at hP
        exact hP
      · rw [if_neg (by omega), if_pos e2] at hP
        rw [show min z 10 = z by omega]
        refine g50 z (by omega) e1 (Nat.le_refl _) ?_
        rw [if_neg (by omega), Nat.sub_self]
        exact hP
      · rw [if_pos e1] at hP
        rw [xup_k (by decide), xup_k (by decide), xup_k (by decide), h68, nc (n := xs.length) (by omega), nI_add, pk_sub (by omega), nc (n := 18) (by decide)]
        refine ⟨vp_in_nI (by omega) (by decide), vp_in_nI (by omega) (by decide), by unfold vp_in; decide, nm_e ?_⟩
        refine ih (z - min z 138) (xs ++ [(18, min z 138)]) _ (by omega) (by omega) (by rw [List.length_append]; show xs.length + 1 + (z - min z 138) ≤ 296; omega) (fr_ga hf) (cga_app hg) (fun I1 f1 g1 => hP I1 f1 ?_)
        rw [List.append_assoc] at g1
        exact g1
end GA2
