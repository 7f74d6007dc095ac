/-! THE REFERENCE READS A CODE. -/
section MR0
variable {S S' F F' : List Nat} {N : Nat} {I I1 I2 : zJ}
theorem bdp_t (h : bdp S F N I I1) (h2 : bdp S F N I1 I2) : bdp S F N I I2 := ⟨mf_t h.1 h2.1, h2.2⟩
theorem bdp_m (h : mf S F I I1) (h2 : bdp S F N I1 I2) : bdp S F N I I2 := ⟨mf_t h h2.1, h2.2⟩
theorem bdp_s (h : bdp S F N I I1) (hs : ∀ a, a ∈ S → a ∈ S') (hf : ∀ a, a ∈ F → a ∈ F') : bdp S' F' N I I1 := ⟨mf_s h.1 hs hf, h.2⟩
theorem bdp_9 (h : bdp S F N I I1) (h9 : 9 ∈ F) : bdp S F N I (xup I1 83 9 (nI 1)) := ⟨mf_f h.1 h9, xup_s, h.2.2.choose, h.2.2.choose_spec.1, by rw [xup_i (by decide)]; exact h.2.2.choose_spec.2⟩
theorem bdp_u {a i : Nat} {v : Int32} (h : bdp S F N I I1) (ha : a ∈ S) (h83 : a ≠ 83) : bdp S F N I (xup I1 a i v) := ⟨mf_u h.1 ha h83, by rw [xup_k (Ne.symm h83)]; exact h.2.1, h.2.2.choose, h.2.2.choose_spec.1, by rw [xup_k (Ne.symm h83)]; exact h.2.2.choose_spec.2⟩
theorem bdp_fil {a lo hi : Nat} {v : Int32} (h : bdp S F N I I1) (ha : a ∈ S) (h83 : a ≠ 83) : bdp S F N I (xfil I1 a lo hi v) := ⟨mf_fil h.1 ha h83, by rw [xfil_r (Ne.symm h83)]; exact h.2.1, h.2.2.choose, h.2.2.choose_spec.1, by rw [xfil_r (Ne.symm h83)]; exact h.2.2.choose_spec.2⟩
theorem bdp_f {i : Nat} {v : Int32} (h : bdp S F N I I1) (ha : i ∈ F) (h8 : i ≠ 8) (h9 : i ≠ 9) : bdp S F N I (xup I1 83 i v) := ⟨mf_f h.1 ha, by rw [xup_i (Ne.symm h9)]; exact h.2.1, h.2.2.choose, h.2.2.choose_spec.1, by rw [xup_i (Ne.symm h8)]; exact h.2.2.choose_spec.2⟩
end MR0
/-- the reference's reading: stream, place, fault -/
def mrs (I : zJ) (B : Nat → Int32) (n p b : Nat) : Prop := mst I B n ∧ I 83 8 = nI p ∧ p ≤ 8 * n ∧ I 83 9 = nI b ∧ b < 2
theorem mrs_q {I : zJ} {B : Nat → Int32} {n p q b : Nat} (h : mrs I B n p b) (hq : q ≤ 8 * n) : mrs (xup I 83 8 (nI q)) B n q b := ⟨mst_f h.1 (by decide), xup_s, hq, by rw [xup_i (by decide)]; exact h.2.2.2.1, h.2.2.2.2⟩
theorem mrs_b {S F : List Nat} {I I1 : zJ} {B : Nat → Int32} {n p b : Nat} (h : mrs I B n p b) (hb : bdp S F (8 * n) I I1) (h1 : 85 ∉ S) (h2 : 105 ∉ S) (h3 : 5 ∉ F) : ∃ q, mrs I1 B n q 1 :=
  ⟨hb.2.2.choose, mst_mf h.1 hb.1 h1 h2 h3, hb.2.2.choose_spec.2, hb.2.2.choose_spec.1, hb.2.1, by decide⟩
theorem mrs_mf {S F : List Nat} {I I1 : zJ} {B : Nat → Int32} {n p b : Nat} (h : mrs I B n p b) (hb : mf S F I I1) (h1 : 85 ∉ S) (h2 : 105 ∉ S) (h3 : 5 ∉ F) (h8 : 8 ∉ F) (h9 : 9 ∉ F) : mrs I1 B n p b :=
  ⟨mst_mf h.1 hb h1 h2 h3, (hb.2 8 h8).trans h.2.1, h.2.2.1, (hb.2 9 h9).trans h.2.2.2.1, h.2.2.2.2⟩
section MR
variable {c : zC} {J : zK} {n p x k s b : Nat} {B : Nat → Int32} {T : Nat → zJ → Prop}
theorem m_bit {P : Int32 → zJ → Prop} {I : zJ} (h : mrs I B n p b) (hG : b = 0 → ∀ v q, pNum B (8 * n) 1 p = some (v, q) → v < 2 → q ≤ 8 * n → P (nI v) (xup I 83 8 (nI q)))
    (hX : b = 0 ∧ pNum B (8 * n) 1 p = none ∨ b = 1 → ∀ v I1, v < 2 → bdp [] [8, 9] (8 * n) I I1 → P (nI v) I1) : c_M_bit c J I P T := by
  obtain ⟨h1, h2, h3, h4, h5⟩ := h
  refine v_M_bit h1 rfl h2 h3 (fun hq => ?_) (fun hq => ?_)
  · have e : pNum B (8 * n) 1 p = some (nb B p, p + 1) := by
      unfold pNum
      rw [if_pos hq, num_1]
    by_cases eb : b = 0
    · exact hG eb _ _ e (nb_lt B p) hq
    · exact hX (Or.inr (by omega)) _ _ (nb_lt B p) ⟨mf_f mf_0 (by decide), by rw [xup_i (by decide), h4, show b = 1 by omega], p + 1, hq, xup_s⟩
  · refine hX ?_ 0 _ (by decide) ⟨mf_f mf_0 (by decide), xup_s, p, h3, by rw [xup_i (by decide)]; exact h2⟩
    by_cases eb : b = 0
    · exact Or.inl ⟨eb, if_neg hq⟩
    · exact Or.inr (by omega)
theorem m_bits {P : Int32 → zJ → Prop} {I : zJ} (h : mrs I B n p b) (hx : x ≤ 30) (hG : b = 0 → ∀ v q, pNum B (8 * n) x p = some (v, q) → v < 2 ^ x → q ≤ 8 * n → P (nI v) (xup I 83 8 (nI q)))
    (hX : b = 0 ∧ pNum B (8 * n) x p = none ∨ b = 1 → ∀ v I1, v < 2 ^ x → bdp [] [8, 9] (8 * n) I I1 → P (nI v) I1) : c_M_bits c J (nI x) I P T :=
  v_M_bits h.1 rfl hx h.2.1 h.2.2.1 h.2.2.2.1 h.2.2.2.2 hG hX
theorem m_symbol {P : Int32 → zJ → Prop} {I : zJ} {l : Nat → Nat} (h : mrs I B n p b) (hm : mrd I k s l) (hG : b = 0 → ∀ v q, pHear B (8 * n) l s p = some (v, q) → P (nI v) (xup I 83 8 (nI q)))
    (hX : b = 0 ∧ pHear B (8 * n) l s p = none ∨ b = 1 → ∀ v I1, v < s → bdp [] [8, 9] (8 * n) I I1 → P (nI v) I1) : c_M_symbol c J (nI k) I P T :=
  v_M_symbol hm h.1 rfl h.2.1 h.2.2.1 h.2.2.2.1 h.2.2.2.2 hG hX
/-- behind a fault a plain code's rest -/
theorem x_plain25 {P : zJ → Prop} {I0 : zJ} (h0 : mrs I0 B n p b) (hX : ∀ I1, bdp [87] [8, 9] (8 * n) I0 I1 → P I1) {v1 v2 v3 t0 : Int32} {I : zJ} (hb : bdp [87] [8, 9] (8 * n) I0 I) : g_M_readPlain_25 c J v1 v2 v3 t0 I P T := by
  obtain ⟨q, hr⟩ := mrs_b h0 hb (by decide) (by decide) (by decide)
  refine t_M_readPlain_25 ⟨fun _ => ?_, fun _ => ?_⟩
  · refine m_bits (b := 1) hr (by decide) (fun z => absurd z (by decide)) (fun _ v I1 _ hb1 => ?_)
    have hb2 := bdp_t hb (bdp_s hb1 (by decide) (by decide))
    exact br_f (by rw [hb1.2.1]; decide) (nm_e (br_f (by rw [xup_s]; decide) (hX _ (bdp_9 hb2 (by decide)))))
  · exact br_f (by rw [hb.2.1]; decide) (nm_e (br_f (by rw [xup_s]; decide) (hX _ (bdp_9 hb (by decide)))))
/-- the segment of a code in the row of lengths; the small code's apart -/
def sgf (k s : Nat) (I I1 : zJ) : Prop := ∀ j, j < 1104 → ¬ (zb k ≤ j ∧ j < zb k + s) → I1 87 j = I 87 j
theorem m_plain52 {P : zJ → Prop} {I0 : zJ} {a b2 two : Nat} (hr : mrs I0 B n p 0) (hm : mcd I0 k s (fun _ => 0)) (ha : a < 256) (hb : b2 < 256) (ht : two < 2) (h20 : two = 0 → b2 = 0)
    (hG : ∀ I1, a < s ∧ (two = 1 → b2 < s ∧ ¬ a = b2) → mf [87] [8, 9] I0 I1 → mrs I1 B n p 0 → mcd I1 k s (fun j => if j = a ∨ j = (if two = 1 then b2 else a) then 1 else 0) → sgf k s I0 I1 → P I1) (hX : ¬ (a < s ∧ (two = 1 → b2 < s ∧ ¬ a = b2)) → ∀ I1, bdp [87] [8, 9] (8 * n) I0 I1 → P I1) :
    g_M_readPlain_52 c J (nI k) (nI s) (nI (two + 1)) (nI a) (nI b2) I0 P T := by
  obtain ⟨m1, m2, m3, m4, m5⟩ := id hm
  have h9 := hr.2.2.2.1
  have bad : bdp [87] [8, 9] (8 * n) I0 (xup I0 83 9 (nI 1)) := ⟨mf_f mf_0 (by decide), xup_s, p, hr.2.2.1, by rw [xup_i (by decide)]; exact hr.2.1⟩
  have fin : a < s ∧ (two = 1 → b2 < s ∧ ¬ a = b2) → g_M_readPlain_92 c J (nI k) (nI (two + 1)) (nI a) (nI b2) (xup I0 83 9 (nI 0)) P T := by
    intro z
    have e0 : xup I0 83 9 (nI 0) = I0 := xup_id h9
    rw [e0]
    refine t_M_readPlain_92 ?_
    rw [f_base m1, f_base m1, nI_add, nI_add, nc (by omega), nc (by omega)]
    refine ⟨vp_in_nI (by omega) (by decide), nm_e ?_⟩
    rw [f_base m1, nI_add, nc (by omega)]
    refine pk_eq (two + 1) 2 (fun e => ⟨vp_in_nI (by omega) (by decide), ?_⟩) (fun e => ⟨vp_in_nI (by omega) (by decide), vp_in_nI (by omega) (by decide), ?_⟩)
    · refine hG _ z (mf_u (mf_u mf_0 (by decide) (by decide)) (by decide) (by decide)) (mrs_mf (S := [87]) (F := []) hr (mf_u (mf_u mf_0 (by decide) (by decide)) (by decide) (by decide)) (by decide) (by decide) (by decide) (by decide) (by decide)) ⟨m1, m2, m3, by rw [xup_k (by decide), xup_k (by decide)]; exact m4, ?_⟩ ?_
      · intro j hj
        try dsimp only
        rw [if_pos (show two = 1 by omega)]
        by_cases e1 : j = b2
        · subst e1; rw [xup_s, if_pos (Or.inr rfl)]; exact ⟨rfl, by decide⟩
        · rw [xup_i (by omega)]
          by_cases e2 : j = a
          · subst e2; rw [xup_s, if_pos (Or.inl rfl)]; exact ⟨rfl, by decide⟩
          · rw [xup_i (by omega), if_neg (by omega)]; exact m5 j hj
      · intro j h1 h2
        rw [xup_i (by omega), xup_i (by omega)]
    · have hb0 : b2 = 0 := h20 (by omega)
      refine hG _ z (mf_u (mf_u mf_0 (by decide) (by decide)) (by decide) (by decide)) (mrs_mf (S := [87]) (F := []) hr (mf_u (mf_u mf_0 (by decide) (by decide)) (by decide) (by decide)) (by decide) (by decide) (by decide) (by decide) (by decide)) ⟨m1, m2, m3, by rw [xup_k (by decide), xup_k (by decide)]; exact m4, ?_⟩ ?_
      · intro j hj
        try dsimp only
        rw [if_neg (show ¬ two = 1 by omega), xup_id rfl]
        by_cases e2 : j = a
        · subst e2; rw [xup_s, if_pos (Or.inl rfl)]; exact ⟨rfl, by decide⟩
        · rw [xup_i (by omega), if_neg (by omega)]; exact m5 j hj
      · intro j h1 h2
        rw [xup_id rfl, xup_i (by omega)]
  have gob : ¬ (a < s ∧ (two = 1 → b2 < s ∧ ¬ a = b2)) → ∀ I2 : zJ, I2 = xup I0 83 9 (nI 1) → ((((xup I0 83 9 (nI 1)) 83 9) = nI 0 → g_M_readPlain_92 c J (nI k) (nI (two + 1)) (nI a) (nI b2) I2 P T) ∧ (¬ (((xup I0 83 9 (nI 1)) 83 9) = nI 0) → P I2)) :=
    fun z => nm_e (br_f (by rw [xup_s]; decide) (hX z _ bad))
  have goo : a < s ∧ (two = 1 → b2 < s ∧ ¬ a = b2) → ∀ I2 : zJ, I2 = xup I0 83 9 (nI 0) → ((((xup I0 83 9 (nI 0)) 83 9) = nI 0 → g_M_readPlain_92 c J (nI k) (nI (two + 1)) (nI a) (nI b2) I2 P T) ∧ (¬ (((xup I0 83 9 (nI 0)) 83 9) = nI 0) → P I2)) :=
    fun z => nm_e (br_t xup_s (fin z))
  refine t_M_readPlain_52 (pk_le s a (fun e => gob (by omega)) (fun e => pk_eq (two + 1) 2 (fun e2 => pk_le s b2 (fun e3 => gob (by omega)) (fun e3 => pk_eq b2 a (fun e4 => gob (by omega)) (fun e4 => goo (by omega)))) (fun e2 => goo (by omega))))
end MR
