/-! THE REFERENCE: a code wiped, weighed. -/
section MW
variable {c : zC} {J : zK} {k s b : Nat} {l : Nat → Nat} {T : Nat → zJ → Prop} {P : zJ → Prop}
theorem l_M_weigh {I0 : zJ} (h : mcd I0 k s l) (h9 : I0 83 9 = nI b) (hb : b < 2)
    (hP : ∀ I1, mf [90] [9] I0 I1 → (∀ j, j ≠ k → I1 90 j = I0 90 j) → mrd I1 k s l → (b = 0 ∧ gd l s → I1 83 9 = nI 0) → (b = 1 ∨ ¬ gd l s → I1 83 9 = nI 1) → P I1) :
    ∀ (j i : Nat) (I : zJ), i + j = s → mf [90] [9] I0 I → I 83 9 = nI b → (∀ j, j ≠ k → I 90 j = I0 90 j) → I 90 k = (if cntp (qp l) i = 0 then -1 else nI (sole l i)) →
    g_M_weigh_14 c J (nI k) (nI (kr l i)) (nI (cntp (qp l) i)) (nI i) I P T := by
  obtain ⟨h1, h2, h3, h4, h5⟩ := id h
  intro j
  induction j with
  | zero =>
    intro i I hi hf hb9 ho hk
    obtain rfl : i = s := by omega
    have hcl := cntp_le (qp l) i
    have hkr := kr_le l i
    have e89 : I 89 k = nI i := by rw [hf.1 89 (by decide) (by decide)]; exact h4
    have fin : ∀ w : Nat, (b = 0 ∧ gd l i → w = 0) → (b = 1 ∨ ¬ gd l i → w = 1) → (cntp (qp l) i = 1 → P (xup (xup I 83 9 (nI w)) 90 k ((xup I 83 9 (nI w)) 90 k))) ∧ (¬ cntp (qp l) i = 1 → P (xup (xup I 83 9 (nI w)) 90 k (-1 : Int32))) := by
      intro w w1 w2
      have hm2 : ∀ v, mcd (xup (xup I 83 9 (nI w)) 90 k v) k i l := fun v => mcd_mf h (mf_u (mf_f hf (by decide)) (by decide) (by decide)) (by decide) (by decide)
      refine ⟨fun e => hP _ (mf_u (mf_f hf (by decide)) (by decide) (by decide)) ?_ ⟨hm2 _, ?_⟩ ?_ ?_, fun e => hP _ (mf_u (mf_f hf (by decide)) (by decide) (by decide)) ?_ ⟨hm2 _, ?_⟩ ?_ ?_⟩
      · intro j hj
        rw [xup_i hj, xup_k (by decide)]; exact ho j hj
      · rw [xup_s, xup_k (by decide), hk, if_neg (by omega), if_pos e]
      · intro z; rw [xup_k (by decide), xup_s, w1 z]
      · intro z; rw [xup_k (by decide), xup_s, w2 z]
      · intro j hj
        rw [xup_i hj, xup_k (by decide)]; exact ho j hj
      · rw [xup_s, if_neg e]
      · intro z; rw [xup_k (by decide), xup_s, w1 z]
      · intro z; rw [xup_k (by decide), xup_s, w2 z]
    have vk : vp_in (nI k) 6 := vp_in_nI h1 (by decide)
    refine t_M_weigh_14 ⟨vk, ?_⟩
    rw [nc (by omega), e89, hb9]
    refine br_t (nI_le (Nat.le_refl _) (by omega)) (pk_eq b 0 (fun e => ?_) (fun e => ?_))
    · refine pk_eq (cntp (qp l) i) 1 (fun e2 => ?_) (fun e2 => ?_)
      · have f0 := fin 0 (fun _ => rfl) (fun z => (z.elim (fun z => by omega) (fun z => absurd (Or.inl e2) z)))
        exact nm_e (pk_eq (cntp (qp l) i) 1 (fun e3 => ⟨vk, vk, f0.1 e3⟩) (fun e3 => ⟨vk, f0.2 e3⟩))
      · refine pk_eq (kr l i) 32768 (fun e4 => ?_) (fun e4 => ?_)
        · have f0 := fin 0 (fun _ => rfl) (fun z => (z.elim (fun z => by omega) (fun z => absurd (Or.inr e4) z)))
          exact nm_e (pk_eq (cntp (qp l) i) 1 (fun e3 => ⟨vk, vk, f0.1 e3⟩) (fun e3 => ⟨vk, f0.2 e3⟩))
        · have f0 := fin 1 (fun z => absurd z.2 (fun y => y.elim e2 e4)) (fun _ => rfl)
          exact nm_e (pk_eq (cntp (qp l) i) 1 (fun e3 => ⟨vk, vk, f0.1 e3⟩) (fun e3 => ⟨vk, f0.2 e3⟩))
    · have f0 := fin 1 (fun z => absurd z.1 e) (fun _ => rfl)
      exact nm_e (pk_eq (cntp (qp l) i) 1 (fun e3 => ⟨vk, vk, f0.1 e3⟩) (fun e3 => ⟨vk, f0.2 e3⟩))
  | succ j ih =>
    intro i I hi hf hb9 ho hk
    have e89 : I 89 k = nI s := by rw [hf.1 89 (by decide) (by decide)]; exact h4
    have hl := h5 i (by omega)
    have e87 : I 87 (zb k + i) = nI (l i) := by rw [hf.1 87 (by decide) (by decide)]; exact hl.1
    have vk : vp_in (nI k) 6 := vp_in_nI h1 (by decide)
    refine t_M_weigh_14 ⟨vk, ?_⟩
    rw [nc (by omega), e89, f_base h1, nI_add]
    refine br_f (nI_ge (by omega) (by omega)) ⟨vp_in_nI (by omega) (by decide), ?_⟩
    rw [nc (by omega), e87, nI_add]
    refine pk_le (l i) 0 (fun e => ?_) (fun e => ?_)
    · have := ih (i + 1) I (by omega) hf hb9 ho (by
        rw [cntp_f (by simp; omega), show sole l (i + 1) = sole l i from if_neg (by omega)]
        exact hk)
      rw [cntp_f (by simp; omega)] at this
      have e2 : kr l (i + 1) = kr l i := by
        show kr l i + (if 0 < l i then _ else 0) = _
        rw [if_neg (by omega)]
        rfl
      rw [e2] at this
      exact this
    · refine ⟨vk, ?_⟩
      have hpw : (2 : Nat) ^ (15 - l i) ≤ 2 ^ 15 := Nat.pow_le_pow_right (by decide) (by omega)
      rw [pk_sub (by omega), pk_shlN _ (15 - l i) (z_sl _ (by omega)) (by omega), Nat.one_mul, nI_add, nI_add]
      have := ih (i + 1) (xup I 90 k (nI i)) (by omega) (mf_u hf (by decide) (by decide)) (by rw [xup_k (by decide)]; exact hb9) (by
        intro j hj
        rw [xup_i hj]
        exact ho j hj) (by
        rw [cntp_t (by simp; omega), xup_s, if_neg (by omega), show sole l (i + 1) = i from if_pos e])
      rw [cntp_t (by simp; omega)] at this
      have e2 : kr l (i + 1) = kr l i + 2 ^ (15 - l i) := by
        show kr l i + (if 0 < l i then _ else 0) = _
        rw [if_pos e]
      rw [e2] at this
      exact this
theorem v_M_weigh {I : zJ} (h : mcd I k s l) (h9 : I 83 9 = nI b) (hb : b < 2)
    (hP : ∀ I1, mf [90] [9] I I1 → (∀ j, j ≠ k → I1 90 j = I 90 j) → mrd I1 k s l → (b = 0 ∧ gd l s → I1 83 9 = nI 0) → (b = 1 ∨ ¬ gd l s → I1 83 9 = nI 1) → P I1) : c_M_weigh c J (nI k) I P T := by
  refine t_M_weigh ⟨vp_in_nI h.1 (by decide), ?_⟩
  rw [nc (by have := h.1; omega)]
  exact l_M_weigh h h9 hb hP s 0 _ (by omega) (mf_u mf_0 (by decide) (by decide)) (by rw [xup_k (by decide)]; exact h9) (fun j hj => xup_i hj) xup_s
theorem l_M_wipe {I0 : zJ} (hk : k < 6) (h2 : zb k + s ≤ 1123) : ∀ (j i : Nat) (I : zJ), i + j = s → P (xfil I 87 (zb k + i) (zb k + s) (nI 0)) → g_M_wipeLengths_12 c J (nI k) (nI s) (nI (zb k + i)) I P T := by
  intro j
  induction j with
  | zero =>
    intro i I hi hP
    obtain rfl : i = s := by omega
    rw [xfil_0] at hP
    refine t_M_wipeLengths_12 ?_
    rw [f_base hk, nI_add]
    exact br_t (nI_le (Nat.le_refl _) (by omega)) hP
  | succ j ih =>
    intro i I hi hP
    refine t_M_wipeLengths_12 ?_
    rw [f_base hk, nI_add]
    refine br_f (nI_ge (by omega) (by omega)) ⟨vp_in_nI (by omega) (by decide), ?_⟩
    rw [nc (by omega), nI_add]
    refine ih (i + 1) _ (by omega) ?_
    rw [← Nat.add_assoc, xfil_s (by omega)]
    exact hP
theorem v_M_wipe {I : zJ} (hk : k < 6) (h2 : zb k + s ≤ 1123) (hP : P (xfil (xup I 89 k (nI s)) 87 (zb k) (zb k + s) (nI 0))) : c_M_wipeLengths c J (nI k) (nI s) I P T := by
  refine t_M_wipeLengths ⟨vp_in_nI hk (by decide), ?_⟩
  rw [nc (by omega)]
  refine nm_e ?_
  rw [f_base hk]
  exact l_M_wipe (I0 := I) hk h2 s 0 _ (by omega) hP
end MW
