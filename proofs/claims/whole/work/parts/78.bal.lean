/-! LENGTHS AS EVEN AS CAN BE. -/
def lgF (n : Nat) : Nat → Nat → Nat
  | 0, e => e
  | k + 1, e => if n ≤ 2 ^ e then e else lgF n k (e + 1)
def lg (n : Nat) : Nat := lgF n 15 0
theorem lgF_sp (n : Nat) : ∀ k e, n ≤ 2 ^ (e + k) → n ≤ 2 ^ lgF n k e ∧ lgF n k e ≤ e + k
  | 0, e, h => ⟨h, Nat.le_refl _⟩
  | k + 1, e, h => by
    unfold lgF
    by_cases z : n ≤ 2 ^ e
    · rw [if_pos z]; exact ⟨z, by omega⟩
    · rw [if_neg z]
      have := lgF_sp n k (e + 1) (by rw [show e + 1 + k = e + (k + 1) by omega]; exact h)
      exact ⟨this.1, by omega⟩
theorem lg_sp {n : Nat} (h : n ≤ 32768) : n ≤ 2 ^ lg n ∧ lg n ≤ 15 := by
  have := lgF_sp n 15 0 h
  exact ⟨this.1, by have := this.2; unfold lg; omega⟩
theorem lgF_hi (n : Nat) : ∀ k e m, e ≤ m → m ≤ e + k → n ≤ 2 ^ m → lgF n k e ≤ m
  | 0, e, m, h1, h2, h3 => by unfold lgF; omega
  | k + 1, e, m, h1, h2, h3 => by
    unfold lgF
    by_cases z : n ≤ 2 ^ e
    · rw [if_pos z]; exact h1
    · rw [if_neg z]
      have hne : e ≠ m := fun y => z (y ▸ h3)
      exact lgF_hi n k (e + 1) m (by omega) (by omega) h3
/-- symbols used: the lengths they get -/
def bal (U : Nat → Bool) (s k : Nat) : Nat := if U k = true then (if cntp U s = 1 then 1 else if cntp U k < 2 ^ lg (cntp U s) - cntp U s then lg (cntp U s) - 1 else lg (cntp U s)) else 0
def us1 (U : Nat → Bool) (k : Nat) : Nat := if U k = true then 1 else 0
theorem us1_q (U : Nat → Bool) (s : Nat) : cntp (qp (us1 U)) s = cntp U s := cntp_congr s fun k _ => by
  unfold us1
  cases e : U k with
  | true => simp [e]
  | false => simp [e]
theorem lg_9 {n : Nat} (h : n ≤ 300) : lg n ≤ 9 := lgF_hi n 15 0 9 (by decide) (by decide) (by omega)
theorem bal_le {U : Nat → Bool} {s k : Nat} (hs : s ≤ 300) : bal U s k ≤ 9 := by
  have h1 := cntp_le U s
  have h2 := lg_9 (n := cntp U s) (by omega)
  unfold bal
  by_cases e1 : U k = true
  · rw [if_pos e1]
    by_cases e2 : cntp U s = 1
    · rw [if_pos e2]; omega
    · rw [if_neg e2]
      by_cases e3 : cntp U k < 2 ^ lg (cntp U s) - cntp U s
      · rw [if_pos e3]; omega
      · rw [if_neg e3]; omega
  · rw [if_neg e1]; omega
theorem z_dle {A k : Nat} (hA : A < 2 ^ 30) (hk : k < 2 ^ 30) : (nI A - nI k ≤ nI 0) ↔ A ≤ k := by
  rw [Int32.le_iff_toInt_le, pk_sub_toInt hA hk, nI_toInt (by decide)]
  omega
theorem z_dm1 (A k : Nat) : nI A - nI k + (-1 : Int32) = nI A - nI (k + 1) := by
  rw [nI_succ]
  generalize nI A = x
  generalize nI k = y
  grind
section BA
variable {c : zC} {J : zK} {o m s : Nat} {U : Nat → Bool} {T : Nat → zJ → Prop} {P : zJ → Prop}
theorem l_bal39 {I0 : zJ} {e : Nat} (hc : zco c o m) (hs : s ≤ m) (hm : m ≤ 300) (he : e = lg (cntp U s)) (h7 : I0 o 7 = nI (cntp U s)) (h6 : I0 o 6 = nI s) (hl : ∀ k, k < s → I0 (o + 4) k = nI (us1 U k))
    (hP : ∀ I1, fr [o + 4] I0 I1 → (∀ k, k < s → I1 (o + 4) k = nI (bal U s k)) → P I1) :
    ∀ (n i : Nat) (I : zJ), i + n = s → fr [o + 4] I0 I → (∀ k, k < i → I (o + 4) k = nI (bal U s k)) → (∀ k, i ≤ k → k < s → I (o + 4) k = nI (us1 U k)) → g_Code_balance_39 c J o (nI e) (nI (2 ^ e - cntp U s) - nI (cntp U i)) (nI i) I P T := by
  have hcs := cntp_le U s
  have hlg := lg_9 (n := cntp U s) (by omega)
  have hp9 : (2 : Nat) ^ lg (cntp U s) ≤ 2 ^ 9 := Nat.pow_le_pow_right (by decide) hlg
  intro n
  induction n with
  | zero =>
    intro i I hi hf ha hb
    obtain rfl : i = s := by omega
    refine t_Code_balance_39 hc ?_
    rw [hf o (by simp), h6]
    exact br_t (nI_le (Nat.le_refl _) (by omega)) (hP I hf ha)
  | succ n ih =>
    intro i I hi hf ha hb
    have hci := cntp_le U i
    have e4 := hb i (Nat.le_refl _) (by omega)
    have nx : ∀ v : Int32, U i = true → v = nI (bal U s i) → g_Code_balance_39 c J o (nI e) (nI (2 ^ e - cntp U s) - nI (cntp U i) + (-1 : Int32)) (nI (i + 1)) (xup I (o + 4) i v) P T := by
      intro v hU hv
      rw [z_dm1]
      have := ih (i + 1) (xup I (o + 4) i v) (by omega) (fr_u hf (by simp)) (fun k hk => ?_) (fun k h1 h2 => ?_)
      · rw [cntp_t hU] at this
        exact this
      · by_cases ek : k = i
        · subst ek; rw [xup_s]; exact hv
        · rw [xup_i ek]; exact ha k (by omega)
      · rw [xup_i (by omega)]; exact hb k (by omega) h2
    refine t_Code_balance_39 hc ?_
    rw [hf o (by simp), h6, h7, nc (by omega), e4, nI_add]
    refine br_f (nI_ge (by omega) (by omega)) ⟨vp_in_nI (by omega) (by omega), ?_⟩
    by_cases hU : U i = true
    · have eu : us1 U i = 1 := by unfold us1; rw [if_pos hU]
      rw [eu]
      refine br_f (by decide) (pk_eq (cntp U s) 1 (fun e1 => ⟨vp_in_nI (by omega) (by omega), nx _ hU ?_⟩) (fun e1 => ?_))
      · unfold bal; rw [if_pos hU, if_pos e1]
      · subst he
        rw [z_dle (by omega) (by omega)]
        refine ⟨fun e2 => ⟨vp_in_nI (by omega) (by omega), nx _ hU ?_⟩, fun e2 => ⟨vp_in_nI (by omega) (by omega), nx _ hU ?_⟩⟩
        · unfold bal; rw [if_pos hU, if_neg e1, if_neg (by omega)]
        · have hl0 : 1 ≤ lg (cntp U s) := by
            rcases Nat.eq_zero_or_pos (lg (cntp U s)) with z | z
            · exfalso
              have h1 := (lg_sp (n := cntp U s) (by omega)).1
              have h2 := cntp_lt (q := U) (k := i) (s := s) (by omega) hU
              rw [z] at h1
              simp at h1
              omega
            · exact z
          rw [pk_sub hl0]
          unfold bal; rw [if_pos hU, if_neg e1, if_pos (by omega)]
    · have eu : us1 U i = 0 := by unfold us1; rw [if_neg hU]
      rw [eu]
      refine br_t (by decide) ?_
      have := ih (i + 1) I (by omega) hf (fun k hk => ?_) (fun k h1 h2 => hb k (by omega) h2)
      · rw [cntp_f hU] at this
        exact this
      · by_cases ek : k = i
        · subst ek
          rw [e4, eu]
          unfold bal; rw [if_neg hU]
        · exact ha k (by omega)
theorem v_balance {I : zJ} (hc : zco c o m) (hs : s ≤ m) (hm : m ≤ 300) (h0 : cde I o s (us1 U))
    (hP : ∀ I1, fr [o, o + 1, o + 4] I I1 → cde I1 o s (bal U s) → I1 o 7 = nI (cntp U s) → P I1) : c_Code_balance c J o I P T := by
  have hcs := cntp_le U s
  refine t_Code_balance hc (v_Code_count hc hs (by omega) h0 fun I1 f1 d1 => ?_)
  have h7 : I1 o 7 = nI (cntp U s) := by rw [d1.2.2, us1_q]
  have h6 : I1 o 6 = nI s := d1.1.1
  have key : ∀ (k e : Nat), e + k = 15 → lgF (cntp U s) k e = lg (cntp U s) → g_Code_balance_6 c J o (nI e) I1 P T := by
    intro k
    have fin : ∀ e, e = lg (cntp U s) → e ≤ 15 → g_Code_balance_39 c J o (nI e) ((nI 1 <<< (nI e &&& 31)) - I1 o 7) (nI 0) I1 P T := by
      intro e he he15
      have h2 := lg_sp (n := cntp U s) (by omega)
      have h3 := lg_9 (n := cntp U s) (by omega)
      have hp9 : (2 : Nat) ^ e ≤ 2 ^ 9 := by rw [he]; exact Nat.pow_le_pow_right (by decide) h3
      rw [pk_shlN (n := 1) _ e (z_sl _ (by omega)) (by omega), Nat.one_mul, h7, pk_sub (by rw [he]; exact h2.1)]
      have := l_bal39 (c := c) (J := J) (T := T) (P := P) (e := e) hc hs hm he h7 h6 (fun k hk => d1.1.2.1 k hk) (fun I2 f2 r2 => ?_) s 0 I1 (by omega) fr_0 (fun k hk => absurd hk (by omega)) (fun k _ hk => d1.1.2.1 k hk)
      · have e0 : nI (2 ^ e - cntp U s) - nI (cntp U 0) = nI (2 ^ e - cntp U s) := by
          show nI (2 ^ e - cntp U s) - nI 0 = _
          exact z_sub0 _
        rw [e0] at this
        exact this
      · refine hP I2 (fr_t (fr_s f1 (by simp)) (fr_s f2 (by simp))) ⟨?_, r2, fun k _ => Nat.le_trans (bal_le (by omega)) (by decide)⟩ ?_
        · rw [f2 o (by simp)]; exact h6
        · rw [f2 o (by simp)]; exact h7
    induction k with
    | zero =>
      intro e he hl
      obtain rfl : e = 15 := by omega
      refine t_Code_balance_6 hc (br_t (by decide) (fin 15 hl (by omega)))
    | succ k ih =>
      intro e he hl
      unfold lgF at hl
      have hpe : (2 : Nat) ^ e ≤ 2 ^ 15 := Nat.pow_le_pow_right (by decide) (by omega)
      refine t_Code_balance_6 hc (br_f (nI_ge (by omega) (by decide)) ⟨fun z => ?_, fun z => ?_⟩)
      · rw [h7, pk_shlN (n := 1) _ e (z_sl _ (by omega)) (by omega), Nat.one_mul, nI_leI (by omega) (by omega)] at z
        rw [if_pos z] at hl
        exact fin e hl (by omega)
      · rw [h7, pk_shlN (n := 1) _ e (z_sl _ (by omega)) (by omega), Nat.one_mul, nI_leI (by omega) (by omega)] at z
        rw [if_neg z] at hl
        rw [nI_add]
        exact ih (e + 1) (by omega) hl
  exact key 15 0 (by decide) rfl
end BA
