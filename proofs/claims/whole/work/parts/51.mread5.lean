/-! THE REFERENCE READS A CODE: all of it. -/
section MT
variable {c : zC} {J : zK} {n k s : Nat} {B : Nat → Int32} {T : Nat → zJ → Prop} {P : zJ → Prop}
/-- what a code's reading leaves of the others -/
def mkeep (k s : Nat) (I I1 : zJ) : Prop := sgf k s I I1 ∧ ∀ j, j ≠ 5 → j ≠ k → I1 89 j = I 89 j ∧ I1 90 j = I 90 j
theorem m_long {p b : Nat} {I : zJ} (hr : mrs I B n p b) (hk : k < 5) (hzb : zb k + s ≤ 1104) (hs : s ≤ 300) (hm : mcd I k s (fun _ => 0))
    (hP : ∀ l1 q b1 I1, okb b (pLong B (8 * n) s p) b1 (l1, q) → mf [87, 89, 90] [8, 9] I I1 → mrs I1 B n q b1 → (b1 = 0 → mcd I1 k s l1 ∧ mkeep k s I I1) → P I1) : c_M_readLengths c J (nI k) (nI s) I P T := by
  refine t_M_readLengths (m_bitsb hr (by decide) fun n4 p2 b1 I1 o1 g1 r1 f1 => v_M_wipe (by decide) (by decide) ?_)
  have fI2 : ∀ {v : Int32}, mf [87, 89] [] I1 (xfil (xup I1 89 5 v) 87 (zb 5) (zb 5 + 19) (nI 0)) := fun {v} => mf_fil (mf_u mf_0 (by decide) (by decide)) (by decide) (by decide)
  have r2 := mrs_mf r1 (fI2 (v := nI 19)) (by decide) (by decide) (by decide) (by decide) (by decide)
  have m2 : mcd (xfil (xup I1 89 5 (nI 19)) 87 (zb 5) (zb 5 + 19) (nI 0)) 5 19 (fun _ => 0) := by
    refine ⟨by decide, by decide, by decide, by rw [xfil_r (by decide), xup_s], fun j hj => ?_⟩
    rw [xfil_in (by omega) (by omega)]
    exact ⟨rfl, Nat.zero_le 15⟩
  rw [nI_add]
  refine l_msmall (b0 := b1) (F0 := pSmall B (8 * n) (n4 + 4) 0 (fun _ => 0) p2) (by omega) (fun l5 q b2 I3 o2 f3 r3 m3 j3 => ?_) (n4 + 4) 0 (fun _ => 0) _ p2 b1 (by omega) mf_0 r2 m2 (fun _ _ => rfl) (fun _ _ h => h)
  refine v_M_weigh m3 r3.2.2.2.1 r3.2.2.2.2 fun I4 f4 a4 d4 w0 w1 => ?_
  have ff : mf [87, 89, 90] [8, 9] I I4 := mf_t (mf_s f1 (by decide) (by decide)) (mf_t (mf_s fI2 (by decide) (by decide)) (mf_t (mf_s f3 (by decide) (by decide)) (mf_s f4 (by decide) (by decide))))
  have e8 : I4 83 8 = nI q := (f4.2 8 (by decide)).trans r3.2.1
  have ms4 : mst I4 B n := mst_mf r3.1 f4 (by decide) (by decide) (by decide)
  by_cases hgd : b2 = 0 ∧ gd l5 19
  · obtain ⟨rfl, hgd⟩ := hgd
    obtain ⟨_, rfl, e2⟩ : (0 : Nat) = 0 ∧ b1 = 0 ∧ pSmall B (8 * n) (n4 + 4) 0 (fun _ => 0) p2 = some (l5, q) := o2.elim id (fun y => absurd y.1 (by decide))
    obtain ⟨_, rfl, e1⟩ : (0 : Nat) = 0 ∧ b = 0 ∧ pNum B (8 * n) 4 p = some (n4, p2) := o1.elim id (fun y => absurd y.1 (by decide))
    have e3 : pLens B (8 * n) l5 s s 0 8 (fun _ => 0) q = pLong B (8 * n) s p := by
      simp only [pLong, e1, e2]
      exact (if_pos hgd).symm
    have lo : ∀ j, j < 1104 → I4 87 j = I 87 j := by
      intro j hj
      have h90 := f4.1 87 (by decide) (by decide)
      rw [h90, j3 j hj]
      unfold xfil
      rw [if_neg (by intro z; have : zb 5 = 1104 := rfl; omega), xup_k (by decide), f1.1 87 (by decide) (by decide)]
    have l89 : ∀ j, j ≠ 5 → I4 89 j = I 89 j := by
      intro j hj
      rw [f4.1 89 (by decide) (by decide), f3.1 89 (by decide) (by decide), xfil_r (by decide), xup_i hj, f1.1 89 (by decide) (by decide)]
    have l90 : ∀ j, j ≠ 5 → I4 90 j = I 90 j := by
      intro j hj
      rw [a4 j hj, f3.1 90 (by decide) (by decide), xfil_r (by decide), xup_k (by decide), f1.1 90 (by decide) (by decide)]
    have mc4 : mcd I4 k s (fun _ => 0) := by
      obtain ⟨y1, y2, y3, y4, y5⟩ := hm
      refine ⟨y1, y2, y3, by rw [l89 k (by omega)]; exact y4, fun j hj => ?_⟩
      rw [lo _ (by omega)]
      exact y5 j hj
    refine l_mlens (by omega) hzb hs (fun l1 q1 b3 I5 o3 f5 r5 m5 s5 => ?_) s 0 8 (fun _ => 0) I4 q (by omega) (by omega) (by decide) mf_0 ⟨ms4, e8, r3.2.2.1, w0 ⟨rfl, hgd⟩, by decide⟩ mc4 d4 (fun _ _ _ => rfl) e3
    refine hP l1 q1 b3 I5 o3 (mf_t ff (mf_s f5 (by decide) (by decide))) r5 (fun z => ⟨m5 z, ?_, ?_⟩)
    · intro j h1 h2
      rw [s5 z j h1 h2, lo j h1]
    · intro j h1 h2
      rw [f5.1 89 (by decide) (by decide), f5.1 90 (by decide) (by decide)]
      exact ⟨l89 j h1, l90 j h1⟩
  · have e9 : I4 83 9 = nI 1 := w1 (by
      by_cases e : b2 = 0
      · exact Or.inr fun y => hgd ⟨e, y⟩
      · exact Or.inl (by have := r3.2.2.2.2; omega))
    have fin : P I4 := by
      refine hP (fun _ => 0) q 1 I4 (Or.inr ⟨rfl, ?_⟩) ff ⟨ms4, e8, r3.2.2.1, e9, by decide⟩ (fun z => absurd z (by decide))
      rcases o1 with ⟨rfl, rfl, e1⟩ | ⟨rfl, o1⟩
      · refine Or.inr ⟨rfl, ?_⟩
        rcases o2 with ⟨rfl, _, e2⟩ | ⟨rfl, o2⟩
        · simp only [pLong, e1, e2]
          exact if_neg fun y => hgd ⟨rfl, y⟩
        · have e2 : pSmall B (8 * n) (n4 + 4) 0 (fun _ => 0) p2 = none := o2.elim (fun y => absurd y (by decide)) (fun y => y.2)
          simp only [pLong, e1, e2]
      · exact o1.imp id fun y => ⟨y.1, by simp only [pLong, y.2]⟩
    exact t_M_readLengths_63 (pk_le s 0 (fun _ => fin) (fun _ => br_f (by rw [e9]; decide) fin))
/-- a code -/
theorem m_code {p b : Nat} {I : zJ} (hr : mrs I B n p b) (hk : k < 5) (hzb : zb k + s ≤ 1104) (hs : s ≤ 300) (hs0 : 0 < s)
    (hP : ∀ l q b1 I1, okb b (pCode B (8 * n) s p) b1 (l, q) → mf [87, 89, 90] [8, 9] I I1 → mrs I1 B n q b1 → (b1 = 0 → mrd I1 k s l ∧ mkeep k s I I1) → P I1) : c_M_readCode c J (nI k) (nI s) I P T := by
  refine t_M_readCode (v_M_wipe (by omega) (by omega) ?_)
  have fI1 : mf [87, 89] [] I (xfil (xup I 89 k (nI s)) 87 (zb k) (zb k + s) (nI 0)) := mf_fil (mf_u mf_0 (by decide) (by decide)) (by decide) (by decide)
  have r1 := mrs_mf hr fI1 (by decide) (by decide) (by decide) (by decide) (by decide)
  have m1 : mcd (xfil (xup I 89 k (nI s)) 87 (zb k) (zb k + s) (nI 0)) k s (fun _ => 0) := by
    refine ⟨by omega, by omega, hs0, by rw [xfil_r (by decide), xup_s], fun j hj => ?_⟩
    rw [xfil_in (by omega) (by omega)]
    exact ⟨rfl, Nat.zero_le 15⟩
  have k1 : mkeep k s I (xfil (xup I 89 k (nI s)) 87 (zb k) (zb k + s) (nI 0)) := by
    refine ⟨fun j h1 h2 => ?_, fun j h1 h2 => ⟨?_, ?_⟩⟩
    · unfold xfil
      rw [if_neg (fun z => h2 z.2), xup_k (by decide)]
    · rw [xfil_r (by decide), xup_i h2]
    · rw [xfil_r (by decide), xup_k (by decide)]
  generalize xfil (xup I 89 k (nI s)) 87 (zb k) (zb k + s) (nI 0) = I1 at fI1 r1 m1 k1
  refine m_bitb r1 fun few p1 b1 I2 o1 g1 r2 f2 => ?_
  have m2 : mcd I2 k s (fun _ => 0) := mcd_mf m1 f2 (by decide) (by decide)
  have k2 : mkeep k s I I2 := by
    refine ⟨fun j h1 h2 => ?_, fun j h1 h2 => ?_⟩
    · rw [f2.1 87 (by decide) (by decide)]; exact k1.1 j h1 h2
    · rw [f2.1 89 (by decide) (by decide), f2.1 90 (by decide) (by decide)]; exact k1.2 j h1 h2
  have ff2 : mf [87, 89, 90] [8, 9] I I2 := mf_t (mf_s fI1 (by decide) (by decide)) (mf_s f2 (by decide) (by decide))
  -- the end: weighed if all went well
  have fin : ∀ (l : Nat → Nat) (q b2 : Nat) (I3 : zJ), okb b (pRaw B (8 * n) s p) b2 (l, q) → mf [87, 89, 90] [8, 9] I I3 → mrs I3 B n q b2 → (b2 = 0 → mcd I3 k s l ∧ mkeep k s I I3) → (((I3 83 9) = nI 0 → g_M_readCode_36 c J (nI k) I3 P T) ∧ (¬ ((I3 83 9) = nI 0) → P I3)) := by
    intro l q b2 I3 o3 f3 r3 h3
    rw [r3.2.2.2.1]
    have hb2 := r3.2.2.2.2
    refine pk_eq b2 0 (fun e => ?_) (fun e => ?_)
    · subst e
      obtain ⟨_, rfl, e3⟩ : (0 : Nat) = 0 ∧ b = 0 ∧ pRaw B (8 * n) s p = some (l, q) := o3.elim id (fun y => absurd y.1 (by decide))
      obtain ⟨m3, k3⟩ := h3 rfl
      refine t_M_readCode_36 (v_M_weigh m3 r3.2.2.2.1 r3.2.2.2.2 fun I4 f4 a4 d4 w0 w1 => ?_)
      have ff : mf [87, 89, 90] [8, 9] I I4 := mf_t f3 (mf_s f4 (by decide) (by decide))
      have e8 : I4 83 8 = nI q := (f4.2 8 (by decide)).trans r3.2.1
      have ms4 : mst I4 B n := mst_mf r3.1 f4 (by decide) (by decide) (by decide)
      by_cases hgd : gd l s
      · refine hP l q 0 I4 (Or.inl ⟨rfl, rfl, ?_⟩) ff ⟨ms4, e8, r3.2.2.1, w0 ⟨rfl, hgd⟩, by decide⟩ (fun _ => ⟨d4, fun j h1 h2 => ?_, fun j h1 h2 => ⟨?_, ?_⟩⟩)
        · simp only [pCode, e3]
          exact if_pos hgd
        · rw [f4.1 87 (by decide) (by decide)]; exact k3.1 j h1 h2
        · rw [f4.1 89 (by decide) (by decide)]; exact (k3.2 j h1 h2).1
        · rw [a4 j h2]; exact (k3.2 j h1 h2).2
      · refine hP l q 1 I4 (Or.inr ⟨rfl, Or.inr ⟨rfl, ?_⟩⟩) ff ⟨ms4, e8, r3.2.2.1, w1 (Or.inr hgd), by decide⟩ (fun z => absurd z (by decide))
        simp only [pCode, e3]
        exact if_neg hgd
    · have hb1 : b2 = 1 := by have := r3.2.2.2.2; omega
      subst hb1
      refine hP l q 1 I3 (Or.inr ⟨rfl, ?_⟩) f3 r3 (fun z => absurd z (by decide))
      exact (o3.elim (fun y => absurd y.1 (by decide)) (fun y => y.2)).imp id fun y => ⟨y.1, by simp only [pCode, y.2]⟩
  -- what the bit says
  have okr : ∀ {α : Type} {F : Option ((Nat → Nat) × Nat)} {b2 : Nat} {r : (Nat → Nat) × Nat}, (b1 = 0 → pRaw B (8 * n) s p = F) → okb b1 F b2 r → okb b (pRaw B (8 * n) s p) b2 r := by
    intro α F b2 r hF o2
    rcases o1 with ⟨rfl, rfl, e1⟩ | ⟨rfl, o1⟩
    · rw [hF rfl]; exact o2
    · rcases o2 with ⟨_, z, _⟩ | ⟨z, _⟩
      · cases z
      · exact Or.inr ⟨z, o1.imp id fun y => ⟨y.1, by simp only [pRaw, y.2]⟩⟩
  have e1f : b1 = 0 → pNum B (8 * n) 1 p = some (few, p1) := fun z => o1.elim (fun y => y.2.2) (fun y => absurd (z.symm.trans y.1) (by decide))
  refine pk_eq few 1 (fun ef => ?_) (fun ef => ?_)
  · have hF : b1 = 0 → pRaw B (8 * n) s p = pFew B (8 * n) s p1 := fun z => by simp only [pRaw, e1f z, if_pos ef]
    refine m_plain r2 m2 (fun b10 l q I3 e3 f3 r3 m3 s3 => ?_) (fun z I3 hb3 => ?_)
    · refine fin l q 0 I3 (okr (α := Nat) hF (Or.inl ⟨rfl, b10, e3⟩)) (mf_t ff2 (mf_s f3 (by decide) (by decide))) r3 (fun _ => ⟨m3, fun j h1 h2 => ?_, fun j h1 h2 => ?_⟩)
      · rw [s3 j h1 h2]; exact k2.1 j h1 h2
      · rw [f3.1 89 (by decide) (by decide), f3.1 90 (by decide) (by decide)]; exact k2.2 j h1 h2
    · obtain ⟨q, r3⟩ := mrs_b r2 hb3 (by decide) (by decide) (by decide)
      exact fin (fun _ => 0) q 1 I3 (okr (α := Nat) hF (Or.inr ⟨rfl, z.symm⟩)) (mf_t ff2 (mf_s hb3.1 (by decide) (by decide))) r3 (fun z => absurd z (by decide))
  · have hF : b1 = 0 → pRaw B (8 * n) s p = pLong B (8 * n) s p1 := fun z => by simp only [pRaw, e1f z, if_neg ef]
    refine m_long r2 hk hzb hs m2 fun l q b3 I3 o3 f3 r3 h3 => ?_
    refine fin l q b3 I3 (okr (α := Nat) hF o3) (mf_t ff2 f3) r3 (fun z => ⟨(h3 z).1, fun j h1 h2 => ?_, fun j h1 h2 => ?_⟩)
    · rw [(h3 z).2.1 j h1 h2]; exact k2.1 j h1 h2
    · rw [((h3 z).2.2 j h1 h2).1, ((h3 z).2.2 j h1 h2).2]; exact k2.2 j h1 h2
end MT
