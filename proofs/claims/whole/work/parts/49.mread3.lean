/-! THE REFERENCE READS A CODE: the small one, the lengths, all of it. -/
/-- what came of it: an answer, or a fault -/
def okb {α : Type} (b : Nat) (F : Option α) (b1 : Nat) (r : α) : Prop := (b1 = 0 ∧ b = 0 ∧ F = some r) ∨ (b1 = 1 ∧ (b = 1 ∨ b = 0 ∧ F = none))
section ML
variable {c : zC} {J : zK} {n k s : Nat} {B : Nat → Int32} {T : Nat → zJ → Prop} {P : zJ → Prop}
/-- bits with a mark of the fault -/
theorem m_bitsb {P : Int32 → zJ → Prop} {x p b : Nat} {I : zJ} (h : mrs I B n p b) (hx : x ≤ 30) (hP : ∀ v q b1 I1, okb b (pNum B (8 * n) x p) b1 (v, q) → v < 2 ^ x → mrs I1 B n q b1 → mf [] [8, 9] I I1 → P (nI v) I1) : c_M_bits c J (nI x) I P T := by
  refine m_bits h hx (fun b0 v q e g hq => ?_) (fun z v I1 g hb => ?_)
  · subst b0
    exact hP v q 0 _ (Or.inl ⟨rfl, rfl, e⟩) g (mrs_q h hq) (mf_f mf_0 (by decide))
  · obtain ⟨q, hq⟩ := mrs_b h hb (by decide) (by decide) (by decide)
    exact hP v q 1 I1 (Or.inr ⟨rfl, z.symm⟩) g hq hb.1
theorem m_bitb {P : Int32 → zJ → Prop} {p b : Nat} {I : zJ} (h : mrs I B n p b) (hP : ∀ v q b1 I1, okb b (pNum B (8 * n) 1 p) b1 (v, q) → v < 2 → mrs I1 B n q b1 → mf [] [8, 9] I I1 → P (nI v) I1) : c_M_bit c J I P T := by
  refine m_bit h (fun b0 v q e g hq => ?_) (fun z v I1 g hb => ?_)
  · subst b0
    exact hP v q 0 _ (Or.inl ⟨rfl, rfl, e⟩) g (mrs_q h hq) (mf_f mf_0 (by decide))
  · obtain ⟨q, hq⟩ := mrs_b h hb (by decide) (by decide) (by decide)
    exact hP v q 1 I1 (Or.inr ⟨rfl, z.symm⟩) g hq hb.1
theorem hearL_bd (B : Nat → Int32) (N : Nat) (l : Nat → Nat) (s : Nat) : ∀ (k x off p v q : Nat), hearL B N l s k x off p = some (v, q) → v < s ∧ q ≤ N
  | 0, _, _, _, _, _, h => by cases h
  | k + 1, x, off, p, v, q, h => by
    unfold hearL at h
    by_cases e : p + 1 ≤ N
    · rw [if_pos e] at h
      by_cases e2 : 2 * off + nb B p < cntp (qe l x) s
      · rw [if_pos e2] at h
        injection h with h
        injection h with h1 h2
        rw [← h1, ← h2]
        exact ⟨(nthp_spec e2).1, e⟩
      · rw [if_neg e2] at h
        exact hearL_bd B N l s k _ _ _ v q h
    · rw [if_neg e] at h
      cases h
theorem pHear_bd {B : Nat → Int32} {N : Nat} {l : Nat → Nat} {s p v q : Nat} (h0 : 0 < s) (hp : p ≤ N) (h : pHear B N l s p = some (v, q)) : v < s ∧ q ≤ N := by
  unfold pHear at h
  by_cases e : cntp (qp l) s = 1
  · rw [if_pos e] at h
    injection h with h
    injection h with h1 h2
    rw [← h1, ← h2]
    exact ⟨sole_lt l s h0, hp⟩
  · rw [if_neg e] at h
    exact hearL_bd B N l s _ _ _ _ _ _ h
theorem m_symb {P : Int32 → zJ → Prop} {p b : Nat} {l : Nat → Nat} {I : zJ} (h : mrs I B n p b) (hm : mrd I k s l) (hP : ∀ v q b1 I1, okb b (pHear B (8 * n) l s p) b1 (v, q) → v < s → mrs I1 B n q b1 → mf [] [8, 9] I I1 → P (nI v) I1) : c_M_symbol c J (nI k) I P T := by
  refine m_symbol h hm (fun b0 v q e => ?_) (fun z v I1 g hb => ?_)
  · subst b0
    have hq := pHear_bd hm.1.2.2.1 h.2.2.1 e
    exact hP v q 0 _ (Or.inl ⟨rfl, rfl, e⟩) hq.1 (mrs_q h hq.2) (mf_f mf_0 (by decide))
  · obtain ⟨q, hq⟩ := mrs_b h hb (by decide) (by decide) (by decide)
    exact hP v q 1 I1 (Or.inr ⟨rfl, z.symm⟩) g hq hb.1
/-- the small code's lengths -/
theorem l_msmall {I0 : zJ} {v1 v2 : Int32} {q0 b0 : Nat} {F0 : Option ((Nat → Nat) × Nat)} (hq0 : q0 ≤ 19)
    (hE : ∀ l1 q b1 I1, okb b0 F0 b1 (l1, q) → mf [87] [8, 9] I0 I1 → mrs I1 B n q b1 → mcd I1 5 19 l1 → (∀ j, j < 1104 → I1 87 j = I0 87 j) → c_M_weigh c J (nI 5) I1 (fun I2 => g_M_readLengths_63 c J v1 v2 (nI 8) (nI 0) I2 P T) T) :
    ∀ (m i : Nat) (l : Nat → Nat) (I : zJ) (p b : Nat), i + m = q0 → mf [87] [8, 9] I0 I → mrs I B n p b → mcd I 5 19 l → (∀ j, j < 1104 → I 87 j = I0 87 j) → (∀ b1 r, okb b (pSmall B (8 * n) m i l p) b1 r → okb b0 F0 b1 r) → g_M_readLengths_18 c J v1 v2 (nI q0) (nI i) I P T := by
  intro m
  induction m with
  | zero =>
    intro i l I p b hi hf hr hm hj hok
    obtain rfl : i = q0 := by omega
    refine t_M_readLengths_18 (br_t (nI_le (Nat.le_refl _) (by omega)) (hE l p b I (hok b (l, p) ?_) hf hr hm hj))
    have := hr.2.2.2.2
    by_cases e : b = 0
    · exact Or.inl ⟨e, e, rfl⟩
    · exact Or.inr ⟨by omega, Or.inl (by omega)⟩
  | succ m ih =>
    intro i l I p b hi hf hr hm hj hok
    have hz := zord_lt i
    have e105 : I 105 i = nI (zord i) := hr.1.2.2.2 i (by omega)
    refine t_M_readLengths_18 (br_f (nI_ge (by omega) (by omega)) ⟨vp_in_nI (by omega) (by decide), m_bitsb hr (by decide) fun v q b1 I1 o1 g1 r1 f1 => ?_⟩)
    rw [nc (by omega), e105, nI_add, nc (by omega), nI_add]
    refine ⟨vp_in_nI (by omega) (by decide), ?_⟩
    have fu : mf [87] [8, 9] I (xup I1 87 (1104 + zord i) (nI v)) := mf_u (mf_s f1 (by decide) (by decide)) (by decide) (by decide)
    refine ih (i + 1) (fun j => if j = zord i then v else l j) _ q b1 (by omega) (mf_t hf fu) ?_ ?_ ?_ ?_
    · exact mrs_mf (S := [87]) (F := []) r1 (mf_u mf_0 (by decide) (by decide)) (by decide) (by decide) (by decide) (by decide) (by decide)
    · obtain ⟨m1, m2, m3, m4, m5⟩ := hm
      refine ⟨m1, m2, m3, by rw [xup_k (by decide), f1.1 89 (by decide) (by decide)]; exact m4, fun j hj2 => ?_⟩
      try dsimp only
      by_cases e : j = zord i
      · subst e
        rw [if_pos rfl]
        show xup I1 87 (1104 + zord i) (nI v) 87 (1104 + zord i) = _ ∧ _
        rw [xup_s]
        exact ⟨rfl, by omega⟩
      · rw [if_neg e]
        show xup I1 87 (1104 + zord i) (nI v) 87 (1104 + j) = _ ∧ _
        rw [xup_i (by omega), f1.1 87 (by decide) (by decide)]
        exact m5 j hj2
    · intro j hj2
      rw [xup_i (by omega), f1.1 87 (by decide) (by decide)]
      exact hj j hj2
    · intro b2 r ho2
      refine hok b2 r ?_
      rcases o1 with ⟨rfl, rfl, e⟩ | ⟨rfl, o1⟩
      · have : pSmall B (8 * n) (m + 1) i l p = pSmall B (8 * n) m (i + 1) (fun j => if j = zord i then v else l j) q := by simp only [pSmall, e]
        rw [this]
        exact ho2
      · rcases ho2 with ⟨_, z, _⟩ | ⟨z, _⟩
        · cases z
        · exact Or.inr ⟨z, o1.imp id fun y => ⟨y.1, by simp only [pSmall, y.2]⟩⟩
/-- one length's run of symbols -/
theorem l_m208 {z w v cn : Nat} (hk : k < 6) (hzb : zb k + s ≤ 1123) (hw : cn + w ≤ s) (hw2 : w ≤ 138) : ∀ (j i : Nat) (I : zJ), i + j = w → I 83 9 = nI 0 → g_M_readLengths_63 c J (nI k) (nI s) (nI z) (nI (cn + w)) (xfil I 87 (zb k + cn + i) (zb k + cn + w) (nI v)) P T →
    g_M_readLengths_208 c J (nI k) (nI s) (nI z) (nI (cn + i)) (nI w) (nI v) (nI i) I P T := by
  intro j
  induction j with
  | zero =>
    intro i I hi h9 hP
    obtain rfl : i = w := by omega
    rw [xfil_0] at hP
    exact t_M_readLengths_208 (br_t (nI_le (Nat.le_refl _) (by omega)) hP)
  | succ j ih =>
    intro i I hi h9 hP
    refine t_M_readLengths_208 (br_f (nI_ge (by omega) (by omega)) (br_t h9 ?_))
    rw [f_base hk, nI_add, nc (by omega), nI_add, nI_add]
    refine ⟨vp_in_nI (by omega) (by decide), ?_⟩
    refine ih (i + 1) _ (by omega) (by rw [xup_k (by decide)]; exact h9) ?_
    have e : zb k + cn + (i + 1) = zb k + (cn + i) + 1 := by omega
    rw [e, xfil_s (by omega), show zb k + (cn + i) = zb k + cn + i by omega]
    exact hP
/-- which length, and the latest -/
theorem l_mz {t z : Nat} {v5 w : Int32} {I : zJ} (ht : t < 19) (hz : z ≤ 15)
    (h : ((I 83 9) = nI 0 → g_M_readLengths_188 c J (nI k) (nI s) (nI (if 0 < lenV t z then lenV t z else z)) v5 w (nI (lenV t z)) I P T) ∧ (¬ ((I 83 9) = nI 0) → g_M_readLengths_208 c J (nI k) (nI s) (nI (if 0 < lenV t z then lenV t z else z)) v5 w (nI (lenV t z)) (nI 0) (xup I 83 9 (nI 1)) P T)) :
    (((nI 16) ≤ nI t → g_M_readLengths_151 c J (nI k) (nI s) (nI z) v5 (nI t) w I P T) ∧ (¬ ((nI 16) ≤ nI t) → ((nI t ≤ nI 0 → g_M_readLengths_176 c J (nI k) (nI s) (nI z) v5 w (nI t) I P T) ∧ (¬ (nI t ≤ nI 0) → g_M_readLengths_171 c J (nI k) (nI s) v5 w (nI t) I P T)))) := by
  have pos : 0 < lenV t z → g_M_readLengths_171 c J (nI k) (nI s) v5 w (nI (lenV t z)) I P T := by
    intro e
    rw [if_pos e] at h
    exact t_M_readLengths_171 h
  have neg : ¬ 0 < lenV t z → g_M_readLengths_176 c J (nI k) (nI s) (nI z) v5 w (nI (lenV t z)) I P T := by
    intro e
    rw [if_neg e] at h
    exact t_M_readLengths_176 h
  refine pk_le 16 t (fun e => t_M_readLengths_151 (pk_eq t 16 (fun e2 => ?_) (fun e2 => ?_))) (fun e => ?_)
  · have hl : lenV t z = z := by unfold lenV; rw [if_neg (by omega), if_pos e2]
    rw [hl] at pos neg
    exact pk_le z 0 (fun e3 => neg (by omega)) (fun e3 => pos e3)
  · have hl : lenV t z = 0 := by unfold lenV; rw [if_neg (by omega), if_neg e2]
    rw [hl] at neg
    exact br_t (by decide) (neg (by omega))
  · have hl : lenV t z = t := by unfold lenV; rw [if_pos e]
    rw [hl] at pos neg
    exact pk_le t 0 (fun e3 => neg (by omega)) (fun e3 => pos e3)
end ML
