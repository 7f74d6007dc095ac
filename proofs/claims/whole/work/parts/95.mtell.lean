/-! THE REFERENCE TELLS a palette, and modes. -/
abbrev qwS : List Nat := 91 :: qiS
section MT
variable {c : zC} {J : zK} {T : Nat → zJ → Prop} {P : zJ → Prop} {w h n md x b0 : Nat} {S : Nat → Int32}
theorem v_putPalM {I : zJ} (h1 : 1 ≤ n) (h16 : n ≤ 16) (h26 : I 83 26 = nI n) (hS : ∀ k, k < n → I 98 k = S k) (h105 : ∀ k, k < 19 → I 105 k = nI (zord k)) (h7 : I 83 7 = nI x) (hx : x + 210000 < 2 ^ 30) (h9 : I 83 9 = nI b0) (hb0 : b0 < 2)
    (hP : ∀ I1, qem qwS qiF x (wpB S n) I I1 → (∃ b1, b1 < 2 ∧ I1 83 9 = nI b1) → P I1) : c_M_putPalette c J I P T := by
  have key : ∀ (r i : Nat) (I1 : zJ), i + r = n → qem [91] [] x (bsv (nI 1) 1 ++ bsv (nI 3) 2 ++ bsv (nI (n - 1)) 4) I I1 → (∀ j, j < i → I1 91 j = pim S j) → g_M_putPalette_25 c J (nI i) I1 P T := by
    intro r
    induction r with
    | zero =>
      intro i I1 hi q1 a1
      obtain rfl : i = n := by omega
      refine t_M_putPalette_25 ?_
      rw [q1.2.1 26 (by decide) (by decide), h26]
      refine br_t (nI_le (Nat.le_refl _) (by omega)) ?_
      refine v_putImageM (b := 0) (f := pim S) (h := x + (bsv (nI 1) 1 ++ bsv (nI 3) 2 ++ bsv (nI (i - 1)) 4).length) (by decide) (by omega) a1 (fun k hk => by rw [q1.1 105 (by decide) (by decide) (by decide)]; exact h105 k hk) q1.2.2.1 (by simp only [List.length_append, bsv_len]; omega) ((q1.2.1 9 (by decide) (by decide)).trans h9) hb0 fun I2 q2 _ _ _ b2 => hP I2 ?_ b2
      exact qem_t (qem_s q1 (by decide) (by decide)) (qem_s q2 (by decide) (by decide))
    | succ r ih =>
      intro i I1 hi q1 a1
      have e98 : ∀ k, k < n → I1 98 k = S k := fun k hk => by rw [q1.1 98 (by decide) (by decide) (by decide)]; exact hS k hk
      have nx : ∀ v, v = pim S i → g_M_putPalette_25 c J (nI (i + 1)) (xup I1 91 i v) P T := by
        intro v hv
        refine ih (i + 1) _ (by omega) (qem_tn q1 (mf_u mf_0 (by decide) (by decide)) (by decide) (by decide)) fun j hj => ?_
        by_cases e : j = i
        · rw [e, xup_s]; exact hv
        · rw [xup_i e]; exact a1 j (by omega)
      refine t_M_putPalette_25 ?_
      rw [q1.2.1 26 (by decide) (by decide), h26, nc (n := i) (by omega), nI_add]
      refine br_f (nI_ge (by omega) (by omega)) (pk_eq i 0 (fun e => ⟨vp_in_nI (by omega) (by decide), nx _ ?_⟩) (fun e => ?_))
      · rw [e98 0 (by omega)]; unfold pim; rw [if_pos e]
      · rw [pk_sub (by omega), nc (n := i - 1) (by omega), e98 i (by omega), e98 (i - 1) (by omega)]
        exact ⟨vp_in_nI (by omega) (by decide), vp_in_nI (by omega) (by decide), v_M_min ⟨vp_in_nI (by omega) (by decide), nx _ (by unfold pim; rw [if_neg e])⟩⟩
  refine t_M_putPalette (v_M_put h7 (by omega) (v_M_put em_c (by simp only [bsv_len]; omega) ?_))
  rw [em_app (by decide), em_f (by decide) (by decide), h26, pk_sub h1]
  refine v_M_put em_c (by simp only [List.length_append, bsv_len]; omega) ?_
  rw [em_app (by decide)]
  exact key n 0 _ (by omega) qem_em (fun j hj => absurd hj (by omega))
theorem v_putModM {I : zJ} (hw : w ≤ 8) (hh : h ≤ 8) (hmd : md < 14) (h2 : I 83 2 = nI h) (h105 : ∀ k, k < 19 → I 105 k = nI (zord k)) (h7 : I 83 7 = nI x) (hx : x + 210000 < 2 ^ 30) (h9 : I 83 9 = nI b0) (hb0 : b0 < 2)
    (hP : ∀ I1, qem qwS qiF x (wmB md w h) I I1 → (∃ b1, b1 < 2 ∧ I1 83 9 = nI b1) → P I1) : c_M_putModes c J (nI w) (nI md) I P T := by
  have hb4 : bl w * bl h ≤ 4 := by
    have a1 : bl w ≤ 2 := by unfold bl; omega
    have a2 : bl h ≤ 2 := by unfold bl; omega
    exact Nat.mul_le_mul a1 a2
  have key : ∀ (r i : Nat) (I1 : zJ), i + r = bl w * bl h → qem [91] [] x (bsv (nI 1) 1 ++ bsv (nI 0) 2) I I1 → (∀ j, j < i → I1 91 j = cmo md) → g_M_putModes_28 c J (nI md) (nI (bl w * bl h)) (nI i) I1 P T := by
    intro r
    induction r with
    | zero =>
      intro i I1 hi q1 a1
      refine t_M_putModes_28 (br_t (nI_le (by omega) (by omega)) ?_)
      refine v_putImageM (b := 0) (f := fun _ => cmo md) (h := x + (bsv (nI 1) 1 ++ bsv (nI 0) 2).length) (by decide) (by omega) (fun k hk => a1 k (by omega)) (fun k hk => by rw [q1.1 105 (by decide) (by decide) (by decide)]; exact h105 k hk) q1.2.2.1 (by simp only [List.length_append, bsv_len]; omega) ((q1.2.1 9 (by decide) (by decide)).trans h9) hb0 fun I2 q2 _ _ _ b2 => hP I2 ?_ b2
      exact qem_t (qem_s q1 (by decide) (by decide)) (qem_s q2 (by decide) (by decide))
    | succ r ih =>
      intro i I1 hi q1 a1
      refine t_M_putModes_28 (br_f (nI_ge (by omega) (by omega)) ⟨vp_in_nI (by omega) (by decide), ?_⟩)
      rw [nc (n := i) (by omega), nI_add, cmo_M md (by omega)]
      refine ih (i + 1) _ (by omega) (qem_tn q1 (mf_u mf_0 (by decide) (by decide)) (by decide) (by decide)) fun j hj => ?_
      by_cases e : j = i
      · rw [e, xup_s]
      · rw [xup_i e]; exact a1 j (by omega)
  have eb : ∀ y, y ≤ 8 → (nI y + nI 3) / nI 4 = nI (bl y) := by
    intro y hy
    rw [nI_add, pk_div (by omega) (by decide) (by decide)]
    rfl
  refine t_M_putModes (v_M_put h7 (by omega) (v_M_put em_c (by simp only [bsv_len]; omega) ?_))
  rw [em_app (by decide), em_f (by decide) (by decide), h2, eb w hw, eb h hh, pk_mul]
  exact key (bl w * bl h) 0 _ (by omega) qem_em (fun j hj => absurd hj (by omega))
end MT
