/-! A CODE OF THE CLASS: cleared, counted, arranged, heard. -/
/-- a stretch of a row filled -/
def xfil (I : zJ) (a lo hi : Nat) (v : Int32) : zJ := fun x y => if x = a ∧ lo ≤ y ∧ y < hi then v else I x y
theorem xfil_0 {I : zJ} {a n : Nat} {v : Int32} : xfil I a n n v = I := by
  funext x y
  exact if_neg (by omega)
theorem xfil_s {I : zJ} {a i n : Nat} {v : Int32} (h : i < n) : xfil (xup I a i v) a (i + 1) n v = xfil I a i n v := by
  funext x y
  unfold xfil xup
  by_cases h1 : x = a ∧ i ≤ y ∧ y < n
  · rw [if_pos h1]
    by_cases h2 : y = i
    · rw [if_neg (by omega), if_pos ⟨h1.1, h2⟩]
    · rw [if_pos (by omega)]
  · rw [if_neg h1, if_neg (by omega), if_neg (by omega)]
theorem xfil_in {I : zJ} {a lo hi y : Nat} {v : Int32} (h1 : lo ≤ y) (h2 : y < hi) : xfil I a lo hi v a y = v := if_pos ⟨rfl, h1, h2⟩
theorem xfil_r {I : zJ} {a lo hi x : Nat} {v : Int32} (h : x ≠ a) : xfil I a lo hi v x = I x := by
  funext y
  exact if_neg fun z => h z.1
theorem fr_fil {S : List Nat} {I I1 : zJ} {a lo hi : Nat} {v : Int32} (h : fr S I I1) (hk : a ∈ S) : fr S I (xfil I1 a lo hi v) := fun x hx => (xfil_r (fun z : x = a => hx (z ▸ hk))).trans (h x hx)
section FI
variable {c : zC} {J : zK} {a n lo hi : Nat} {v : Int32} {T : Nat → zJ → Prop} {P : zJ → Prop}
theorem l_A_fill (ha : zar c a n) (hn : n < 2 ^ 31) : ∀ (k i : Nat) (I : zJ), i + k = n → P (xfil I a i n v) → g_A_fill_5 c J a v (nI i) (nI n) I P T := by
  intro k
  induction k with
  | zero =>
    intro i I hi hP
    obtain rfl : i = n := by omega
    rw [xfil_0] at hP
    exact t_A_fill_5 ha (br_t (nI_le (Nat.le_refl _) hn) hP)
  | succ k ih =>
    intro i I hi hP
    refine t_A_fill_5 ha (br_f (nI_ge (by omega) hn) ⟨vp_in_nI (by omega) hn, ?_⟩)
    rw [nI_add, nc (by omega)]
    exact ih (i + 1) _ (by omega) (by rw [xfil_s (by omega)]; exact hP)
theorem v_A_fill {I : zJ} (ha : zar c a n) (hn : n < 2 ^ 31) (hP : P (xfil I a 0 n v)) : c_A_fill c J a v I P T :=
  t_A_fill ha (l_A_fill ha hn n 0 I (by omega) hP)
theorem l_A_fill2 (ha : zar c a n) (hn : n < 2 ^ 31) (hh : hi ≤ n) : ∀ (k i : Nat) (I : zJ), i + k = hi → P (xfil I a i hi v) → g_A_fill2_10 c J a (nI hi) v (nI i) I P T := by
  intro k
  induction k with
  | zero =>
    intro i I hik hP
    obtain rfl : i = hi := by omega
    rw [xfil_0] at hP
    exact t_A_fill2_10 ha (br_t (nI_le (Nat.le_refl _) (by omega)) hP)
  | succ k ih =>
    intro i I hik hP
    refine t_A_fill2_10 ha (br_f (nI_ge (by omega) (by omega)) ⟨vp_in_nI (by omega) hn, ?_⟩)
    rw [nI_add, nc (by omega)]
    exact ih (i + 1) _ (by omega) (by rw [xfil_s (by omega)]; exact hP)
theorem v_A_fill2 {I : zJ} (ha : zar c a n) (hn : n < 2 ^ 31) (hh : hi ≤ n) (hl : lo ≤ hi) (hP : P (xfil I a lo hi v)) : c_A_fill2 c J a (nI lo) (nI hi) v I P T :=
  t_A_fill2 ha (t_A_rangeCheck (br_t (nI_le hl (by omega)) (br_t (nI_le (Nat.zero_le _) (by omega)) (br_t (nI_le hh hn) (l_A_fill2 ha hn hh (hi - lo) lo I (by omega) hP)))))
end FI
/-- code o: so many symbols, these lengths -/
def cde (I : zJ) (o s : Nat) (l : Nat → Nat) : Prop := I o 6 = nI s ∧ (∀ k, k < s → I (o + 4) k = nI (l k)) ∧ ∀ k, k < s → l k ≤ 15
/-- its symbols' place in the row of sorted ones -/
def spl (l : Nat → Nat) (s k : Nat) : Nat := cntp (ql l (l k)) s + cntp (qe l (l k)) k
/-- code o, counted -/
def cnd (I : zJ) (o s : Nat) (l : Nat → Nat) : Prop := cde I o s l ∧ (∀ y, 0 < y → y < 16 → I (o + 1) y = nI (cntp (qe l y) s)) ∧ I o 7 = nI (cntp (qp l) s)
/-- code o, arranged -/
def arr (I : zJ) (o s : Nat) (l : Nat → Nat) : Prop := cnd I o s l ∧ ∀ k, k < s → 0 < l k → I (o + 6) (spl l s k) = nI k ∧ I (o + 5) k = nI (wrd l s (l k) + cntp (qe l (l k)) k)
theorem cde_fr {S : List Nat} {I I1 : zJ} {o s : Nat} {l : Nat → Nat} (h : cde I o s l) (hf : fr S I I1) (h1 : o ∉ S) (h2 : o + 4 ∉ S) : cde I1 o s l := by
  unfold cde
  rw [hf _ h1, hf _ h2]
  exact h
section CD
variable {c : zC} {J : zK} {o m s : Nat} {l : Nat → Nat} {T : Nat → zJ → Prop}
theorem l_Code_count {P : zJ → Prop} {I0 : zJ} (hc : zco c o m) (hs : s ≤ m) (hm : m < 2 ^ 31) (h0 : cde I0 o s l) (hP : ∀ I1, fr [o, o + 1] I0 I1 → cnd I1 o s l → P I1) : ∀ (k i : Nat) (I : zJ), i + k = s → fr [o, o + 1] I0 I → I o 6 = nI s → (∀ y, y < 16 → I (o + 1) y = nI (cntp (qe l y) i)) →
    g_Code_countLengths_10 c J o (nI i) I P T := by
  intro k
  induction k with
  | zero =>
    intro i I hi hf h6 hy
    obtain rfl : i = s := by omega
    refine t_Code_countLengths_10 hc (br_t (by rw [h6]; exact nI_le (Nat.le_refl _) (by omega)) ?_)
    refine hP _ (fr_u (fr_u hf (by simp)) (by simp)) ⟨⟨?_, ?_, h0.2.2⟩, ?_, ?_⟩
    · rw [xup_k (by omega), xup_i (by omega)]; exact h6
    · intro k hk
      rw [xup_k (by omega), xup_k (by omega), hf _ (by simp)]
      exact h0.2.1 k hk
    · intro y h1 h2
      rw [xup_i (by omega), xup_k (by omega)]
      exact hy y h2
    · rw [xup_k (by omega), xup_s, h6, hy 0 (by omega)]
      have := cq_0 l i
      rw [pk_sub (by omega)]
      exact congrArg nI (by omega)
  | succ k ih =>
    intro i I hi hf h6 hy
    have e4 : I (o + 4) i = nI (l i) := by rw [hf _ (by simp)]; exact h0.2.1 i (by omega)
    have hl := h0.2.2 i (by omega)
    refine t_Code_countLengths_10 hc (br_f (by rw [h6]; exact nI_ge (by omega) (by omega)) ?_)
    rw [nc (by omega), e4, nc (by omega)]
    refine ⟨vp_in_nI (by omega) hm, vp_in_nI (by omega) (by decide), ?_⟩
    rw [nI_add]
    refine ih (i + 1) _ (by omega) (fr_u hf (by simp)) (by rw [xup_k (by omega)]; exact h6) ?_
    intro y hy16
    by_cases e : y = l i
    · subst e
      rw [xup_s, hy _ hy16, nI_add, cntp_t (by simp)]
    · rw [xup_i e, hy y hy16, cntp_f (by simp; omega)]
theorem v_Code_count {P : zJ → Prop} {I : zJ} (hc : zco c o m) (hs : s ≤ m) (hm : m < 2 ^ 31) (h0 : cde I o s l) (hP : ∀ I1, fr [o, o + 1] I I1 → cnd I1 o s l → P I1) : c_Code_countLengths c J o I P T := by
  refine t_Code_countLengths hc (v_A_fill ⟨zco_a1 hc, zco_g1 hc⟩ (by decide) ?_)
  refine l_Code_count hc hs hm h0 hP s 0 _ (by omega) (fr_fil fr_0 (by simp)) (by rw [xfil_r (by omega)]; exact h0.1) ?_
  intro y hy
  rw [xfil_in (by omega) hy]
  rfl
end CD
