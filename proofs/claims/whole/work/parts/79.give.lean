/-! THE REFERENCE GIVES LENGTHS, puts symbols. -/
/-- symbols that are used -/
def mus (I : zJ) (k s : Nat) (U : Nat → Bool) : Prop := k < 6 ∧ zb k + s ≤ 1123 ∧ 0 < s ∧ I 89 k = nI s ∧ ∀ j, j < s → I 88 (zb k + j) = nI (us1 U j)
theorem mus_mf {S F : List Nat} {I I1 : zJ} {k s : Nat} {U : Nat → Bool} (h : mus I k s U) (hf : mf S F I I1) (h1 : 88 ∉ S) (h2 : 89 ∉ S) : mus I1 k s U := by
  unfold mus
  rw [hf.1 88 (by decide) h1, hf.1 89 (by decide) h2]
  exact h
section GV
variable {c : zC} {J : zK} {k s b : Nat} {U : Nat → Bool} {T : Nat → zJ → Prop}
theorem us1_01 (U : Nat → Bool) (j : Nat) : us1 U j = 0 ∧ ¬ U j = true ∨ us1 U j = 1 ∧ U j = true := by
  unfold us1
  by_cases e : U j = true
  · rw [if_pos e]; exact Or.inr ⟨rfl, e⟩
  · rw [if_neg e]; exact Or.inl ⟨rfl, e⟩
theorem v_usedOf {P : Int32 → zJ → Prop} {I : zJ} (h : mus I k s U) (hP : P (nI (cntp U s)) I) : c_M_usedOf c J (nI k) I P T := by
  obtain ⟨h1, h2, h3, h4, h5⟩ := h
  have key : ∀ (n i : Nat), i + n = s → g_M_usedOf_7 c J (nI k) (nI (cntp U i)) (nI (zb k + i)) I P T := by
    intro n
    induction n with
    | zero =>
      intro i hi
      obtain rfl : i = s := by omega
      refine t_M_usedOf_7 ⟨vp_in_nI h1 (by decide), ?_⟩
      rw [f_base h1, nc (by omega), h4, nI_add]
      exact br_t (nI_le (Nat.le_refl _) (by omega)) hP
    | succ n ih =>
      intro i hi
      refine t_M_usedOf_7 ⟨vp_in_nI h1 (by decide), ?_⟩
      rw [f_base h1, nc (by omega), h4, nI_add, nc (by omega), h5 i (by omega), nI_add, nI_add]
      refine br_f (nI_ge (by omega) (by omega)) ⟨vp_in_nI (by omega) (by decide), ?_⟩
      have := ih (i + 1) (by omega)
      rcases us1_01 U i with ⟨e1, e2⟩ | ⟨e1, e2⟩
      · rw [e1]
        rw [cntp_f e2] at this
        exact br_t rfl this
      · rw [e1]
        rw [cntp_t e2] at this
        exact br_f (by decide) this
  refine t_M_usedOf ?_
  rw [f_base h1]
  exact key s 0 (by omega)
theorem l_give54 {P : zJ → Prop} {I0 : zJ} (h : mus I0 k s U) (hs : s ≤ 300) (h1u : 1 ≤ cntp U s)
    (hP : ∀ I1, mf [87] [] I0 I1 → (∀ j, j < s → I1 87 (zb k + j) = nI (bal U s j)) → (∀ j, ¬ (zb k ≤ j ∧ j < zb k + s) → I1 87 j = I0 87 j) → c_M_weigh c J (nI k) I1 (fun I2 => P I2) T) :
    ∀ (n i : Nat) (I : zJ), i + n = s → mf [87] [] I0 I → (∀ j, j < i → I 87 (zb k + j) = nI (bal U s j)) → (∀ j, ¬ (zb k ≤ j ∧ j < zb k + s) → I 87 j = I0 87 j) →
    g_M_giveLengths_54 c J (nI k) (nI (if cntp U s = 1 then 1 else lg (cntp U s))) (nI (if cntp U s = 1 then 0 else 2 ^ lg (cntp U s) - cntp U s - cntp U i)) (nI (zb k + i)) I P T := by
  obtain ⟨h1, h2, h3, h4, h5⟩ := id h
  have hcs := cntp_le U s
  have hlg := lg_9 (n := cntp U s) (by omega)
  have hp9 : (2 : Nat) ^ lg (cntp U s) ≤ 2 ^ 9 := Nat.pow_le_pow_right (by decide) hlg
  intro n
  induction n with
  | zero =>
    intro i I hi hf ha hb
    obtain rfl : i = s := by omega
    refine t_M_giveLengths_54 ⟨vp_in_nI h1 (by decide), ?_⟩
    rw [f_base h1, nc (by omega), hf.1 89 (by decide) (by decide), h4, nI_add]
    exact br_t (nI_le (Nat.le_refl _) (by omega)) (hP I hf ha hb)
  | succ n ih =>
    intro i I hi hf ha hb
    have e88 : ∀ {v : Int32}, (xup I 87 (zb k + i) v) 88 (zb k + i) = nI (us1 U i) := fun {v} => by rw [xup_k (by decide), hf.1 88 (by decide) (by decide)]; exact h5 i (by omega)
    have e88b : I 88 (zb k + i) = nI (us1 U i) := by rw [hf.1 88 (by decide) (by decide)]; exact h5 i (by omega)
    have nx := fun (v : Int32) (hv : v = nI (bal U s i)) => ih (i + 1) (xup I 87 (zb k + i) v) (by omega) (mf_u hf (by decide) (by decide)) (fun j hj => by
      by_cases e : j = i
      · subst e; rw [xup_s]; exact hv
      · rw [xup_i (by omega)]; exact ha j (by omega)) (fun j hj => by rw [xup_i (by omega)]; exact hb j hj)
    refine t_M_giveLengths_54 ⟨vp_in_nI h1 (by decide), ?_⟩
    rw [f_base h1, nc (by omega), hf.1 89 (by decide) (by decide), h4, nI_add, nc (by omega), e88, e88, e88, e88b, nI_add]
    refine br_f (nI_ge (by omega) (by omega)) ⟨vp_in_nI (by omega) (by decide), ?_⟩
    have vi : vp_in (nI (zb k + i)) 1123 := vp_in_nI (by omega) (by decide)
    rcases us1_01 U i with ⟨e1, e2⟩ | ⟨e1, e2⟩
    · rw [e1]
      have := nx (nI 0) (by unfold bal; rw [if_neg e2])
      rw [cntp_f e2] at this
      exact br_t rfl ⟨vi, vi, nm_e (br_t rfl this)⟩
    · rw [e1]
      have hci := cntp_lt (q := U) (k := i) (s := s) (by omega) e2
      refine br_f (by decide) ?_
      by_cases e3 : cntp U s = 1
      · simp only [if_pos e3] at nx ⊢
        refine br_t (by decide) ⟨vi, vi, nm_e (br_f (by decide) (t_M_giveLengths_113 (br_t (by decide) ?_)))⟩
        rw [nI_add]
        exact nx (nI 1) (by unfold bal; rw [if_pos e2, if_pos e3])
      · simp only [if_neg e3] at nx ⊢
        refine pk_le (2 ^ lg (cntp U s) - cntp U s - cntp U i) 0 (fun e4 => ⟨vi, vi, nm_e (br_f (by decide) (t_M_giveLengths_113 (br_t (nI_le e4 (by decide)) ?_)))⟩) (fun e4 => ⟨vi, vi, nm_e (br_f (by decide) (t_M_giveLengths_113 (br_f (nI_nle e4 (by omega)) ?_)))⟩)
        · rw [nI_add]
          have := nx (nI (lg (cntp U s))) (by unfold bal; rw [if_pos e2, if_neg e3, if_neg (by omega)])
          rw [cntp_t e2, show 2 ^ lg (cntp U s) - cntp U s - (cntp U i + 1) = 2 ^ lg (cntp U s) - cntp U s - cntp U i by omega] at this
          exact this
        · have hl0 : 1 ≤ lg (cntp U s) := by
            rcases Nat.eq_zero_or_pos (lg (cntp U s)) with z | z
            · exfalso
              have h6 := (lg_sp (n := cntp U s) (by omega)).1
              rw [z] at h6
              simp at h6
              omega
            · exact z
          rw [nI_add, pk_sub hl0, pk_sub (by omega)]
          have := nx (nI (lg (cntp U s) - 1)) (by unfold bal; rw [if_pos e2, if_neg e3, if_pos (by omega)])
          rw [cntp_t e2, show 2 ^ lg (cntp U s) - cntp U s - (cntp U i + 1) = 2 ^ lg (cntp U s) - cntp U s - cntp U i - 1 by omega] at this
          exact this
theorem v_give {P : zJ → Prop} {I : zJ} (h : mus I k s U) (hs : s ≤ 300) (h1u : 1 ≤ cntp U s) (h9 : I 83 9 = nI b) (hb : b < 2)
    (hP : ∀ I1, mf [87, 90] [9] I I1 → mrd I1 k s (bal U s) → (∀ j, ¬ (zb k ≤ j ∧ j < zb k + s) → I1 87 j = I 87 j) → (∀ j, j ≠ k → I1 90 j = I 90 j) → (∃ b1, b1 < 2 ∧ I1 83 9 = nI b1) → P I1) : c_M_giveLengths c J (nI k) I P T := by
  obtain ⟨h1, h2, h3, h4, h5⟩ := id h
  have hcs := cntp_le U s
  refine t_M_giveLengths (v_usedOf h ?_)
  have fin : ∀ e, e = lg (cntp U s) → g_M_giveLengths_54 c J (nI k) (nI (if cntp U s = 1 then 1 else e)) (nI (if cntp U s = 1 then 0 else 2 ^ e - cntp U s)) (f_M_base (nI k) I) I P T := by
    intro e he
    rw [f_base h1, he]
    refine l_give54 h hs h1u (fun I1 f1 r1 o1 => ?_) s 0 I (by omega) mf_0 (fun j hj => absurd hj (by omega)) (fun _ _ => rfl)
    have mc : mcd I1 k s (bal U s) := ⟨h1, h2, h3, by rw [f1.1 89 (by decide) (by decide)]; exact h4, fun j hj => ⟨r1 j hj, Nat.le_trans (bal_le hs) (by decide)⟩⟩
    refine v_M_weigh mc ((f1.2 9 (by decide)).trans h9) hb fun I2 f2 a2 d2 w0 w1 => ?_
    refine hP I2 (mf_t (mf_s f1 (by decide) (by decide)) (mf_s f2 (by decide) (by decide))) d2 (fun j hj => by rw [f2.1 87 (by decide) (by decide)]; exact o1 j hj) (fun j hj => by rw [a2 j hj, f1.1 90 (by decide) (by decide)]) ?_
    by_cases z : b = 0 ∧ gd (bal U s) s
    · exact ⟨0, by decide, w0 z⟩
    · refine ⟨1, by decide, w1 ?_⟩
      by_cases zb : b = 0
      · exact Or.inr fun y => z ⟨zb, y⟩
      · exact Or.inl (by omega)
  have key : ∀ (m e : Nat), e + m = 15 → lgF (cntp U s) m e = lg (cntp U s) → g_M_giveLengths_8 c J (nI k) (nI (cntp U s)) (nI e) I P T := by
    intro m
    induction m with
    | zero =>
      intro e he hl
      have h3 := lg_9 (n := cntp U s) (by omega)
      unfold lgF at hl
      omega
    | succ m ih =>
      intro e he hl
      unfold lgF at hl
      have hpe : (2 : Nat) ^ e ≤ 2 ^ 15 := Nat.pow_le_pow_right (by decide) (by omega)
      refine t_M_giveLengths_8 ?_
      rw [pk_shlN (n := 1) _ e (z_sl _ (by omega)) (by omega), Nat.one_mul, nI_add]
      refine pk_le (cntp U s) (2 ^ e) (fun z => ?_) (fun z => ?_)
      · rw [if_pos z] at hl
        have := fin e hl
        refine pk_eq (cntp U s) 1 (fun e1 => ?_) (fun e1 => ?_)
        · simp only [if_pos e1] at this
          exact br_t (by rw [e1]) this
        · simp only [if_neg e1] at this
          rw [pk_sub z]
          exact br_f (by rw [nI_eq (by omega) (by decide)]; exact e1) this
      · rw [if_neg (by omega)] at hl
        exact ih (e + 1) (by omega) hl
  exact key 15 0 (by decide) rfl
end GV
