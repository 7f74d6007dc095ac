/-! AN IMAGE READ BY THE REFERENCE: a turn of pixels. -/
section MJ
variable {c : zC} {J : zK} {n : Nat} {B : Nat → Int32} {T : Nat → zJ → Prop}
abbrev mpS : List Nat := [91, 93]
abbrev mpF : List Nat := [8, 9, 17, 18]
/-- a copy's pixels -/
theorem l_mcopy {P : Int32 → zJ → Prop} {I0 : zJ} {b d i len p : Nat} {R : (Nat → Int32) × (Nat → Int32)} {cp ca : Nat} (hb : b ≤ 4) (h19 : I0 83 19 = nI (zcc b)) (hr0 : mrs I0 B n p 0) (hd1 : 1 ≤ d) (hd : d ≤ i) (hl : i + len ≤ 64)
    (hP : ∀ I1, mf mpS [] I0 I1 → mpx I1 b (i + len) R.1 R.2 cp ca → P (nI (i + len)) I1) :
    ∀ (k j : Nat) (I : zJ) (f C : Nat → Int32), j + k = len → mf mpS [] I0 I → mpx I b (i + j) f C cp ca → cpL b d k (i + j) f C = R → g_M_readCopy_77 c J (nI i) (nI len) (nI d) (nI j) I P T := by
  intro k
  induction k with
  | zero =>
    intro j I f C hj hf hx hR
    obtain rfl : j = len := by omega
    refine t_M_readCopy_77 (br_t (nI_le (Nat.le_refl _) (by omega)) ?_)
    rw [nI_add]
    exact hP I hf (by rw [← hR]; exact hx)
  | succ k ih =>
    intro j I f C hj hf hx hR
    have e9 : I 83 9 = nI 0 := (hf.2 9 (by decide)).trans hr0.2.2.2.1
    have e19 : I 83 19 = nI (zcc b) := (hf.2 19 (by decide)).trans h19
    refine t_M_readCopy_77 (br_f (nI_ge (by omega) (by omega)) (br_t e9 ?_))
    rw [nI_add, pk_sub (by omega), nc (by omega)]
    refine ⟨vp_in_nI (by omega) (by decide), m_come hb e19 (by omega) fun I1 f1 g1 => ?_⟩
    rw [nI_add]
    have hv : I 91 (i + j - d) = f (i + j - d) := hx.1 _ (by omega)
    rw [hv] at g1
    exact ih (j + 1) I1 _ _ (by omega) (mf_t hf f1) (g1 f C cp ca hx) hR
/-- a copy -/
theorem m_copy {P : Int32 → zJ → Prop} {I : zJ} {b w tot i x p b0 : Nat} {ls : Nat → Nat → Nat} {f C : Nat → Int32} {cp ca : Nat} (hw : 1 ≤ w) (hw2 : w ≤ 16) (htm : tot ≤ 64) (hi : i < tot) (hx40 : x < 24) (h0 : mim I b ls) (hr : mrs I B n p b0) (hb0 : b0 < 2) (hx : b0 = 0 → mpx I b i f C cp ca)
    (hP : ∀ v b1 q I1, (∃ nn f1 C1, okb b0 (pCopy B (8 * n) ls b w tot i f C cp ca x p) b1 (nn, f1, C1, cp + 1, ca, q) ∧ (b1 = 0 → 1 ≤ nn ∧ i + nn ≤ tot ∧ v = nI (i + nn) ∧ mpx I1 b (i + nn) f1 C1 (cp + 1) ca)) → mf mpS mpF I I1 → mrs I1 B n q b1 → P v I1) :
    c_M_readCopy c J (nI i) (nI x) (nI w) (nI tot) I P T := by
  have hb := h0.1
  refine t_M_readCopy (m_pre hr (by omega) fun m p2 b2 I2 o2 g2 g2b r2 f2 => ?_)
  have f2' : mf mpS mpF I I2 := mf_s f2 (by decide) (by decide)
  -- behind a fault
  have bad : ∀ {d : Int32} {q : Nat} {I3 : zJ}, mf mpS mpF I I3 → mrs I3 B n q 1 → okb b0 (pCopy B (8 * n) ls b w tot i f C cp ca x p) 1 (1, f, C, cp + 1, ca, q) → ∀ v17 : Int32, g_M_readCopy_77 c J (nI i) (nI m) d (nI 0) (xup I3 83 17 v17) P T := by
    intro d q I3 f3 r3 o3 v17
    have r4 : mrs (xup I3 83 17 v17) B n q 1 := mrs_mf r3 (mf_f (S := []) (F := [17]) mf_0 (by decide)) (by decide) (by decide) (by decide) (by decide) (by decide)
    have fin : P (nI i + nI m) (xup I3 83 17 v17) := hP _ 1 q _ ⟨1, f, C, o3, fun z => absurd z (by decide)⟩ (mf_f f3 (by decide)) r4
    exact t_M_readCopy_77 (pk_le m 0 (fun _ => fin) (fun _ => br_f (by rw [r4.2.2.2.1]; decide) fin))
  have r9 : ∀ {q : Nat} {I2 : zJ}, mrs I2 B n q 1 → xup I2 83 9 (nI 1) = I2 := fun r => xup_id r.2.2.2.1
  by_cases eb2 : b2 = 0
  · subst eb2
    obtain ⟨_, rfl, e2⟩ : (0 : Nat) = 0 ∧ b0 = 0 ∧ pPre B (8 * n) x p = some (m, p2) := o2.elim id (fun y => absurd y.1 (by decide))
    have hx := hx rfl
    unfold pCopy at hP bad
    rw [e2] at hP bad
    refine br_t r2.2.2.2.1 (m_symb r2 (mim_mf h0 f2 (by decide) (by decide) (by decide) (by decide)).2.2.2.2.2.2 fun y p3 b3 I3 o3 g3 r3 f3 => m_pre r3 g3 fun q p4 b4 I4 o4 g4 g4b r4 f4 => m_dist g4 (by omega) hw hw2 ?_)
    have f4' : mf mpS mpF I I4 := mf_t f2' (mf_t (mf_s f3 (by decide) (by decide)) (mf_s f4 (by decide) (by decide)))
    have ff : mf [] [8, 9] I I4 := mf_t f2 (mf_t f3 f4)
    by_cases eb4 : b4 = 0
    · subst eb4
      obtain ⟨_, rfl, e4⟩ : (0 : Nat) = 0 ∧ b3 = 0 ∧ pPre B (8 * n) y p3 = some (q, p4) := o4.elim id (fun y => absurd y.1 (by decide))
      obtain ⟨_, _, e3⟩ : (0 : Nat) = 0 ∧ (0 : Nat) = 0 ∧ pHear B (8 * n) (ls 4) 40 p2 = some (y, p3) := o3.elim id (fun y => absurd y.1 (by decide))
      dsimp only at hP bad
      rw [e3] at hP bad
      dsimp only at hP bad
      rw [e4] at hP bad
      dsimp only at hP bad
      refine br_t r4.2.2.2.1 (t_M_readCopy_41 ?_)
      have e17 : ∀ {v : Int32}, (xup I4 83 9 v) 83 17 = nI cp := fun {v} => by rw [xup_i (by decide), ff.2 17 (by decide)]; exact hx.2.2.1
      have hdp := z_dist_pos q w
      have hdl : zdist q w < 2 ^ 31 := by
        unfold zdist
        by_cases e8 : 8 < q
        · rw [if_pos e8]; omega
        · rw [if_neg e8]
          have : znear q w ≤ 100 := by
            have key : ∀ q, q < 9 → ∀ w, w < 17 → znear q w ≤ 100 := by decide
            exact key q (by omega) w (by omega)
          omega
      have rb : mrs (xup I4 83 9 (nI 1)) B n p4 1 := ⟨mst_f r4.1 (by decide), by rw [xup_i (by decide)]; exact r4.2.1, r4.2.2.1, xup_s, by decide⟩
      have nob : ¬ (zdist q w ≤ i ∧ i + m ≤ tot) → ∀ v17 : Int32, g_M_readCopy_77 c J (nI i) (nI m) (nI (zdist q w)) (nI 0) (xup (xup I4 83 9 (nI 1)) 83 17 v17) P T := by
        intro hn v17
        rw [if_neg hn] at bad
        exact bad (mf_f f4' (by decide)) rb (Or.inr ⟨rfl, Or.inr ⟨rfl, rfl⟩⟩) v17
      refine pk_lt i (zdist q w) (fun e5 => nob (by omega) _) (fun e5 => ?_)
      rw [nI_add]
      refine pk_le (i + m) tot (fun e6 => ?_) (fun e6 => nob (by omega) _)
      rw [e17, xup_id r4.2.2.2.1, nI_add]
      rw [if_pos ⟨e5, e6⟩] at hP
      have fI5 : mf [] [17] I4 (xup I4 83 17 (nI (cp + 1))) := mf_f mf_0 (by decide)
      have r5 : mrs (xup I4 83 17 (nI (cp + 1))) B n p4 0 := mrs_mf r4 fI5 (by decide) (by decide) (by decide) (by decide) (by decide)
      have x5 : mpx (xup I4 83 17 (nI (cp + 1))) b i f C (cp + 1) ca := by
        have := mpx_mf hx ff (by decide) (by decide) (by decide) (by decide)
        exact ⟨fun k hk => by rw [xup_k (by decide)]; exact this.1 k hk, fun z k hk => by rw [xup_k (by decide)]; exact this.2.1 z k hk, xup_s, by rw [xup_i (by decide)]; exact this.2.2.2⟩
      have e19 : (xup I4 83 17 (nI (cp + 1))) 83 19 = nI (zcc b) := by rw [xup_i (by decide), ff.2 19 (by decide)]; exact h0.2.1
      refine l_mcopy (R := cpL b (zdist q w) m i f C) hb e19 r5 hdp e5 (by omega) (fun I6 f6 x6 => ?_) m 0 _ f C (by omega) mf_0 x5 rfl
      refine hP _ 0 p4 I6 ⟨m, _, _, Or.inl ⟨rfl, rfl, rfl⟩, fun _ => ⟨g2, e6, rfl, x6⟩⟩ (mf_t f4' (mf_t (mf_s fI5 (by decide) (by decide)) (mf_s f6 (by decide) (by decide)))) ?_
      exact mrs_mf r5 f6 (by decide) (by decide) (by decide) (by decide) (by decide)
    · obtain rfl : b4 = 1 := by have := r4.2.2.2.2; omega
      refine br_f (by rw [r4.2.2.2.1]; decide) ?_
      rw [r9 r4]
      refine bad f4' r4 ?_ _
      dsimp only
      refine Or.inr ⟨rfl, Or.inr ⟨rfl, ?_⟩⟩
      rcases o3 with ⟨rfl, _, e3⟩ | ⟨rfl, o3⟩
      · have e4 : pPre B (8 * n) y p3 = none := (o4.elim (fun y => absurd y.1 (by decide)) (fun y => y.2)).elim (fun z => absurd z (by decide)) (fun z => z.2)
        rw [e3]
        dsimp only
        rw [e4]
      · have e3 : pHear B (8 * n) (ls 4) 40 p2 = none := o3.elim (fun z => absurd z (by decide)) (fun z => z.2)
        rw [e3]
  · obtain rfl : b2 = 1 := by have := r2.2.2.2.2; omega
    refine br_f (by rw [r2.2.2.2.1]; decide) (br_f (by rw [r2.2.2.2.1]; decide) ?_)
    rw [r9 r2]
    refine bad f2' r2 ?_ _
    refine Or.inr ⟨rfl, (o2.elim (fun y => absurd y.1 (by decide)) (fun y => y.2)).imp id fun z => ⟨z.1, ?_⟩⟩
    unfold pCopy
    rw [z.2]
end MJ
