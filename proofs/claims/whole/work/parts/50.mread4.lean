/-! THE REFERENCE READS A CODE: the lengths, all of it. -/
section MQ
variable {c : zC} {J : zK} {n k s : Nat} {B : Nat → Int32} {T : Nat → zJ → Prop} {P : zJ → Prop}
theorem mcd_fil {I : zJ} {l : Nat → Nat} {cn w v : Nat} (h : mcd I k s l) (hv : v ≤ 15) : mcd (xfil I 87 (zb k + cn) (zb k + cn + w) (nI v)) k s (zfill l cn w v) := by
  obtain ⟨m1, m2, m3, m4, m5⟩ := h
  refine ⟨m1, m2, m3, by rw [xfil_r (by decide)]; exact m4, fun j hj => ?_⟩
  unfold xfil zfill
  by_cases e : cn ≤ j ∧ j < cn + w
  · rw [if_pos (by omega), if_pos e]; exact ⟨rfl, hv⟩
  · rw [if_neg (by omega), if_neg e]; exact m5 j hj
theorem mrd5_fil {I : zJ} {l5 : Nat → Nat} {lo hi : Nat} {v : Int32} (h : mrd I 5 19 l5) (hh : hi ≤ 1104) : mrd (xfil I 87 lo hi v) 5 19 l5 := by
  obtain ⟨⟨m1, m2, m3, m4, m5⟩, m6⟩ := h
  refine ⟨⟨m1, m2, m3, by rw [xfil_r (by decide)]; exact m4, fun j hj => ?_⟩, by rw [xfil_r (by decide)]; exact m6⟩
  show xfil I 87 lo hi v 87 (1104 + j) = _ ∧ _
  unfold xfil
  rw [if_neg (by omega)]
  exact m5 j hj
theorem zb_le {k s : Nat} (hk : k < 5) (hs : s ≤ (if k = 0 then 296 else if k < 4 then 256 else 40)) : zb k + s ≤ 1104 := by
  match k, hk, hs with
  | 0, _, hs => exact Nat.le_trans (Nat.add_le_add_left hs _) (by decide)
  | 1, _, hs => exact Nat.le_trans (Nat.add_le_add_left hs _) (by decide)
  | 2, _, hs => exact Nat.le_trans (Nat.add_le_add_left hs _) (by decide)
  | 3, _, hs => exact Nat.le_trans (Nat.add_le_add_left hs _) (by decide)
  | 4, _, hs => exact Nat.le_trans (Nat.add_le_add_left hs _) (by decide)
/-- the lengths, from symbol cn on -/
theorem l_mlens {I0 : zJ} {l5 : Nat → Nat} {F0 : Option ((Nat → Nat) × Nat)} (hk : k < 6) (hzb : zb k + s ≤ 1104) (hs : s ≤ 300)
    (hP : ∀ l1 q b1 I1, okb 0 F0 b1 (l1, q) → mf [87] [8, 9] I0 I1 → mrs I1 B n q b1 → (b1 = 0 → mcd I1 k s l1) → (b1 = 0 → sgf k s I0 I1) → P I1) :
    ∀ (m cn z : Nat) (l : Nat → Nat) (I : zJ) (p : Nat), cn ≤ s → s ≤ m + cn → z ≤ 15 → mf [87] [8, 9] I0 I → mrs I B n p 0 → mcd I k s l → mrd I 5 19 l5 → sgf k s I0 I → pLens B (8 * n) l5 s m cn z l p = F0 →
    g_M_readLengths_63 c J (nI k) (nI s) (nI z) (nI cn) I P T := by
  intro m
  induction m with
  | zero =>
    intro cn z l I p hcn hm hz hf hr hc hd hg he
    obtain rfl : cn = s := by omega
    exact t_M_readLengths_63 (br_t (nI_le (Nat.le_refl _) (by omega)) (hP l p 0 I (Or.inl ⟨rfl, rfl, he.symm⟩) hf hr (fun _ => hc) (fun _ => hg)))
  | succ m ih =>
    intro cn z l I p hcn hm hz hf hr hc hd hg he
    by_cases hlt : cn < s
    · -- a fault from here on
      have bad : pLens B (8 * n) l5 s (m + 1) cn z l p = none → ∀ {z' w v q : Nat} {I2 : zJ}, w < 2 ^ 31 → mf [87] [8, 9] I0 I2 → mrs I2 B n q 1 → g_M_readLengths_208 c J (nI k) (nI s) (nI z') (nI cn) (nI w) (nI v) (nI 0) I2 P T := by
        intro en z' w v q I2 hw2 f2 r2
        have en0 : F0 = none := he.symm.trans en
        have g63 : g_M_readLengths_63 c J (nI k) (nI s) (nI z') (nI cn) I2 P T :=
          t_M_readLengths_63 (br_f (nI_ge (by omega) (by omega)) (br_f (by rw [r2.2.2.2.1]; decide) (hP l q 1 I2 (Or.inr ⟨rfl, Or.inr ⟨rfl, en0⟩⟩) f2 r2 (fun z => absurd z (by decide)) (fun z => absurd z (by decide)))))
        exact t_M_readLengths_208 (pk_le w 0 (fun _ => g63) (fun _ => br_f (by rw [r2.2.2.2.1]; decide) g63))
      have r9 : ∀ {q : Nat} {I2 : zJ}, mrs I2 B n q 1 → mrs (xup I2 83 9 (nI 1)) B n q 1 := by
        intro q I2 r2
        rw [xup_id r2.2.2.2.1]
        exact r2
      refine t_M_readLengths_63 (br_f (nI_ge (by omega) (by omega)) (br_t hr.2.2.2.1 (m_symb hr hd fun t q1 b1 I1 o1 ht r1 f1 => ?_)))
      have f1' : mf [87] [8, 9] I0 I1 := mf_t hf (mf_s f1 (by decide) (by decide))
      -- behind the number of times
      have key : ∀ (w q2 b2 : Nat) (I2 : zJ), okb b1 (pTimes B (8 * n) t q1) b2 (w, q2) → w ≤ 138 → mrs I2 B n q2 b2 → mf [] [8, 9] I1 I2 →
          (((nI 16) ≤ nI t → g_M_readLengths_151 c J (nI k) (nI s) (nI z) (nI cn) (nI t) (nI w) I2 P T) ∧ (¬ ((nI 16) ≤ nI t) → ((nI t ≤ nI 0 → g_M_readLengths_176 c J (nI k) (nI s) (nI z) (nI cn) (nI w) (nI t) I2 P T) ∧ (¬ (nI t ≤ nI 0) → g_M_readLengths_171 c J (nI k) (nI s) (nI cn) (nI w) (nI t) I2 P T)))) := by
        intro w q2 b2 I2 o2 hw r2 f2
        have f2' : mf [87] [8, 9] I0 I2 := mf_t f1' (mf_s f2 (by decide) (by decide))
        refine l_mz ht hz ?_
        rcases o2 with ⟨rfl, rfl, e2⟩ | ⟨rfl, o2⟩
        · have e1 : pHear B (8 * n) l5 19 p = some (t, q1) := o1.elim (fun y => y.2.2) (fun y => absurd y.1 (by decide))
          refine br_t r2.2.2.2.1 (t_M_readLengths_188 ?_)
          rw [nI_add]
          refine pk_le (cn + w) s (fun e3 => ?_) (fun e3 => ?_)
          · rw [xup_id r2.2.2.2.1]
            have hlv := lenV_le ht hz
            refine l_m208 hk (by omega) e3 hw w 0 I2 (by omega) r2.2.2.2.1 ?_
            have unf : pLens B (8 * n) l5 s (m + 1) cn z l p = pLens B (8 * n) l5 s m (cn + w) (if 0 < lenV t z then lenV t z else z) (zfill l cn w (lenV t z)) q2 := by
              simp only [pLens, if_pos hlt, e1, e2]
              rw [if_pos e3]
            have hw0 : 0 < w := by
              unfold pTimes at e2
              revert e2
              by_cases t16 : t = 16
              · rw [if_pos t16]
                cases pNum B (8 * n) 2 q1 with
                | none => intro e2; cases e2
                | some r => intro e2; injection e2 with e2; injection e2 with e2 _; omega
              · rw [if_neg t16]
                by_cases t17 : t = 17
                · rw [if_pos t17]
                  cases pNum B (8 * n) 3 q1 with
                  | none => intro e2; cases e2
                  | some r => intro e2; injection e2 with e2; injection e2 with e2 _; omega
                · rw [if_neg t17]
                  by_cases t18 : t = 18
                  · rw [if_pos t18]
                    cases pNum B (8 * n) 7 q1 with
                    | none => intro e2; cases e2
                    | some r => intro e2; injection e2 with e2; injection e2 with e2 _; omega
                  · rw [if_neg t18]
                    intro e2; injection e2 with e2; injection e2 with e2 _; omega
            have hz2 : (if 0 < lenV t z then lenV t z else z) ≤ 15 := by
              by_cases e : 0 < lenV t z
              · rw [if_pos e]; exact hlv
              · rw [if_neg e]; exact hz
            have ff : mf [] [8, 9] I I2 := mf_t f1 f2
            have hc2 : mcd I2 k s l := mcd_mf hc ff (by decide) (by decide)
            have hd2 : mrd I2 5 19 l5 := mrd_mf hd ff (by decide) (by decide) (by decide)
            refine ih (cn + w) _ _ _ q2 e3 (by omega) hz2 (mf_fil f2' (by decide) (by decide)) (mrs_mf (S := [87]) (F := []) r2 (mf_fil mf_0 (by decide) (by decide)) (by decide) (by decide) (by decide) (by decide) (by decide)) (mcd_fil hc2 hlv) (mrd5_fil hd2 (by omega)) ?_ (unf.symm.trans he)
            intro j h1 h2
            unfold xfil
            rw [if_neg (by omega), ff.1 87 (by decide) (by decide)]
            exact hg j h1 h2
          · have en : pLens B (8 * n) l5 s (m + 1) cn z l p = none := by
              simp only [pLens, if_pos hlt, e1, e2]
              rw [if_neg (by omega)]
            exact bad en (by omega) (mf_f f2' (by decide)) (q := q2) ⟨mst_f r2.1 (by decide), by rw [xup_i (by decide)]; exact r2.2.1, r2.2.2.1, xup_s, by decide⟩
        · have en : pLens B (8 * n) l5 s (m + 1) cn z l p = none := by
            rcases o1 with ⟨rfl, _, e1⟩ | ⟨rfl, o1⟩
            · have e2 : pTimes B (8 * n) t q1 = none := o2.elim (fun y => absurd y (by decide)) (fun y => y.2)
              simp only [pLens, if_pos hlt, e1, e2]
            · have e1 : pHear B (8 * n) l5 19 p = none := o1.elim (fun y => absurd y (by decide)) (fun y => y.2)
              simp only [pLens, if_pos hlt, e1]
          exact br_f (by rw [r2.2.2.2.1]; decide) (bad en (by omega) (mf_f f2' (by decide)) (r9 r2))
      have okm : ∀ {x a : Nat} {b2 v q2 : Nat}, (pTimes B (8 * n) t q1 = (pNum B (8 * n) x q1).map fun q => (a + q.1, q.2)) → okb b1 (pNum B (8 * n) x q1) b2 (v, q2) → okb b1 (pTimes B (8 * n) t q1) b2 (a + v, q2) := by
        intro x a b2 v q2 e o
        rw [e]
        rcases o with ⟨y1, y2, y3⟩ | ⟨y1, y2⟩
        · exact Or.inl ⟨y1, y2, by rw [y3]; rfl⟩
        · exact Or.inr ⟨y1, y2.imp id fun y => ⟨y.1, by rw [y.2]; rfl⟩⟩
      refine pk_le 16 t (fun e => pk_eq t 16 (fun e2 => ?_) (fun e2 => pk_eq t 17 (fun e3 => ?_) (fun e3 => ?_))) (fun e => ?_)
      · refine m_bitsb r1 (by decide) fun v q2 b2 I2 o2 g2 r2 f2 => ?_
        rw [nI_add]
        exact key _ q2 b2 I2 (okm (by unfold pTimes; rw [if_pos e2]) o2) (by omega) r2 f2
      · refine m_bitsb r1 (by decide) fun v q2 b2 I2 o2 g2 r2 f2 => ?_
        rw [nI_add]
        exact key _ q2 b2 I2 (okm (by unfold pTimes; rw [if_neg e2, if_pos e3]) o2) (by omega) r2 f2
      · refine m_bitsb r1 (by decide) fun v q2 b2 I2 o2 g2 r2 f2 => ?_
        rw [nI_add]
        exact key _ q2 b2 I2 (okm (by unfold pTimes; rw [if_neg e2, if_neg e3, if_pos (by omega)]) o2) (by omega) r2 f2
      · refine key 1 q1 b1 I1 ?_ (by decide) r1 mf_0
        have e5 : pTimes B (8 * n) t q1 = some (1, q1) := by unfold pTimes; rw [if_neg (by omega), if_neg (by omega), if_neg (by omega)]
        rw [e5]
        have := r1.2.2.2.2
        by_cases eb : b1 = 0
        · exact Or.inl ⟨eb, eb, rfl⟩
        · exact Or.inr ⟨by omega, Or.inl (by omega)⟩
    · obtain rfl : cn = s := by omega
      exact t_M_readLengths_63 (br_t (nI_le (Nat.le_refl _) (by omega)) (hP l p 0 I (Or.inl ⟨rfl, rfl, by rw [← he]; simp only [pLens, if_neg hlt]⟩) hf hr (fun _ => hc) (fun _ => hg)))
end MQ
