/-! BITS: read and put, class and reference. -/
section BN
variable {c : zC} {J : zK} {o N p n : Nat} {B : Nat → Int32} {T : Nat → zJ → Prop}
theorem l_Bits_number {P : Int32 → zJ → Prop} (hb : zbi c o) (hN : N ≤ 5600) (hn : n ≤ 31) (hp : p + n ≤ N) : ∀ (k i : Nat) (I : zJ), i + k = n → I o 2 = nI (p + i) → I (o + 1) = B → P (nI (num B p n)) (xup I o 2 (nI (p + n))) →
    g_Bits_number_27 c J o (nI n) (nI (num B p i)) (nI i) I P T := by
  intro k
  induction k with
  | zero =>
    intro i I hi h2 hB hP
    obtain rfl : i = n := by omega
    rw [xup_id h2] at hP
    exact t_Bits_number_27 hb (br_t (nI_le (Nat.le_refl _) (by omega)) hP)
  | succ k ih =>
    intro i I hi h2 hB hP
    refine t_Bits_number_27 hb (br_f (nI_ge (by omega) (by omega)) ?_)
    rw [h2, pk_rem (by omega) (by decide) (by decide), pk_div (by omega) (by decide) (by decide), nc (by omega), hB, num_step _ _ _ (by omega), nI_add, nI_add]
    refine ⟨vp_in_nI (by omega) (by decide), ?_⟩
    exact ih (i + 1) _ (by omega) xup_s ((xup_r (by omega)).trans hB) (by rw [xup_2]; exact hP)
theorem v_Bits_number {I : zJ} {P : Int32 → zJ → Prop} (hb : zbi c o) (hN : N ≤ 5600) (hn : n ≤ 31) (hp : p ≤ N) (h1 : I o 1 = nI N) (h2 : I o 2 = nI p) (hB : I (o + 1) = B)
    (hP : ∀ v q, pNum B N n p = some (v, q) → v < 2 ^ n → q = p + n → q ≤ N → P (nI v) (xup I o 2 (nI q))) (hT : pNum B N n p = none → T 100 I) : c_Bits_number c J o (nI n) I P T := by
  refine t_Bits_number hb ?_
  rw [h1, h2, pk_sub hp]
  refine pk_le n (N - p) (fun h => ?_) (fun h => ?_)
  · have e : pNum B N n p = some (num B p n, p + n) := if_pos (by omega)
    exact l_Bits_number hb hN hn (by omega) n 0 I (by omega) (by rw [h2]; rfl) hB (hP _ _ e (num_lt B p n) rfl (by omega))
  · exact hT (if_neg (by omega))
theorem v_Bits_bit {I : zJ} {P : Int32 → zJ → Prop} (hb : zbi c o) (hN : N ≤ 5600) (hp : p ≤ N) (h1 : I o 1 = nI N) (h2 : I o 2 = nI p) (hB : I (o + 1) = B)
    (hP : ∀ v q, pNum B N 1 p = some (v, q) → v < 2 ^ 1 → q = p + 1 → q ≤ N → P (nI v) (xup I o 2 (nI q))) (hT : pNum B N 1 p = none → T 100 I) : c_Bits_bit c J o I P T :=
  t_Bits_bit hb (v_Bits_number hb hN (by decide) hp h1 h2 hB hP hT)
end BN
