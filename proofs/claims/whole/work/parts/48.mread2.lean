/-! THE REFERENCE READS A CODE: a plain one, the small one, the lengths, all of it. -/
section MS
variable {c : zC} {J : zK} {n p k s b : Nat} {B : Nat → Int32} {T : Nat → zJ → Prop} {P : zJ → Prop}
theorem pFew_eq {N two wide a p1 p2 p3 : Nat} (e1 : pNum B N 1 p = some (two, p1)) (e2 : pNum B N 1 p1 = some (wide, p2)) (e3 : pNum B N (if wide = 1 then 8 else 1) p2 = some (a, p3)) :
    pFew B N s p = (match (if two = 1 then pNum B N 8 p3 else some (a, p3)) with
        | none => none
        | some (b, p4) => if a < s ∧ b < s ∧ ¬ (two = 1 ∧ a = b) then some ((fun k => if k = a ∨ k = b then 1 else 0), p4) else none) := by
  simp only [pFew, e1, e2, e3]
  rfl
theorem m_plain {I : zJ} (hr : mrs I B n p b) (hm : mcd I k s (fun _ => 0))
    (hG : b = 0 → ∀ l q I1, pFew B (8 * n) s p = some (l, q) → mf [87] [8, 9] I I1 → mrs I1 B n q 0 → mcd I1 k s l → sgf k s I I1 → P I1) (hX : b = 0 ∧ pFew B (8 * n) s p = none ∨ b = 1 → ∀ I1, bdp [87] [8, 9] (8 * n) I I1 → P I1) : c_M_readPlain c J (nI k) (nI s) I P T := by
  have hs : ∀ a, a ∈ ([] : List Nat) → a ∈ [87] := by decide
  have hff : ∀ a, a ∈ [8, 9] → a ∈ [8, 9] := fun a h => h
  -- behind a fault: from the second bit on, from the first number on
  have x2 : ∀ {I2 : zJ} {y2 : Int32}, (∀ I1, bdp [87] [8, 9] (8 * n) I I1 → P I1) → bdp [87] [8, 9] (8 * n) I I2 → ∀ y4 : Int32, ((y4 = (nI 1) → c_M_bits c J (nI 8) I2 (fun y9 I8 => g_M_readPlain_25 c J (nI k) (nI s) (y2 + (nI 1)) y9 I8 P T) T) ∧ (¬ (y4 = (nI 1)) → c_M_bits c J (nI 1) I2 (fun y7 I6 => g_M_readPlain_25 c J (nI k) (nI s) (y2 + (nI 1)) y7 I6 P T) T)) := by
    intro I2 y2 hx hb y4
    obtain ⟨q, hq⟩ := mrs_b hr hb (by decide) (by decide) (by decide)
    exact ⟨fun _ => m_bits (b := 1) hq (by decide) (fun z => absurd z (by decide)) (fun _ v I1 _ hb1 => x_plain25 hr hx (bdp_t hb (bdp_s hb1 hs hff))), fun _ => m_bits (b := 1) hq (by decide) (fun z => absurd z (by decide)) (fun _ v I1 _ hb1 => x_plain25 hr hx (bdp_t hb (bdp_s hb1 hs hff)))⟩
  have x1 : ∀ {I2 : zJ} {y2 : Int32}, (∀ I1, bdp [87] [8, 9] (8 * n) I I1 → P I1) → bdp [87] [8, 9] (8 * n) I I2 → c_M_bit c J I2 (fun y4 I3 => ((y4 = (nI 1) → c_M_bits c J (nI 8) I3 (fun y9 I8 => g_M_readPlain_25 c J (nI k) (nI s) (y2 + (nI 1)) y9 I8 P T) T) ∧ (¬ (y4 = (nI 1)) → c_M_bits c J (nI 1) I3 (fun y7 I6 => g_M_readPlain_25 c J (nI k) (nI s) (y2 + (nI 1)) y7 I6 P T) T))) T := by
    intro I2 y2 hx hb
    obtain ⟨q, hq⟩ := mrs_b hr hb (by decide) (by decide) (by decide)
    exact m_bit (b := 1) hq (fun z => absurd z (by decide)) (fun _ v I1 _ hb1 => x2 hx (bdp_t hb (bdp_s hb1 hs hff)) _)
  refine t_M_readPlain (m_bit hr (fun b0 two p1 e1 g1 q1 => ?_) (fun z v I1 _ hb1 => x1 (hX (z.imp (fun y => ⟨y.1, by simp only [pFew, y.2]⟩) id)) (bdp_s hb1 hs hff)))
  subst b0
  have hG := hG rfl
  have hr1 := mrs_q hr q1
  refine m_bit hr1 (fun _ wide p2 e2 g2 q2 => ?_) (fun z v I1 _ hb1 => x2 (hX (Or.inl ⟨rfl, ?_⟩)) (bdp_m (mf_f mf_0 (by decide)) (bdp_s hb1 hs hff)) _)
  · rw [xup_2]
    have hr2 := mrs_q hr q2
    have key : ∀ n3, n3 = (if wide = 1 then 8 else 1) → c_M_bits c J (nI n3) (xup I 83 8 (nI p2)) (fun y I8 => g_M_readPlain_25 c J (nI k) (nI s) (nI two + nI 1) y I8 P T) T := by
      intro n3 hn3
      have hn8 : n3 ≤ 8 := by
        rw [hn3]
        by_cases e : wide = 1
        · rw [if_pos e]; omega
        · rw [if_neg e]; omega
      refine m_bits hr2 (by omega) (fun _ a p3 e3 g3 q3 => ?_) (fun z v I1 _ hb1 => x_plain25 hr (hX (Or.inl ⟨rfl, ?_⟩)) (bdp_m (mf_f mf_0 (by decide)) (bdp_s hb1 hs hff)))
      · rw [xup_2, nI_add]
        have hr3 := mrs_q hr q3
        have ha : a < 256 := Nat.lt_of_lt_of_le g3 (Nat.pow_le_pow_right (by decide) hn8)
        rw [hn3] at e3
        have epf := pFew_eq (s := s) e1 e2 e3
        have mc : ∀ q, mcd (xup I 83 8 (nI q)) k s (fun _ => 0) := fun q => mcd_mf hm (mf_f (S := []) (F := [8]) mf_0 (by decide)) (by decide) (by decide)
        refine t_M_readPlain_25 (pk_eq (two + 1) 2 (fun et => ?_) (fun et => ?_))
        · have two1 : two = 1 := by omega
          rw [if_pos two1] at epf
          refine m_bits hr3 (by decide) (fun _ b2 p4 e4 g4 q4 => ?_) (fun z v I1 _ hb1 => ?_)
          · rw [xup_2]
            have hr4 := mrs_q hr q4
            rw [e4] at epf
            refine br_t hr4.2.2.2.1 (m_plain52 hr4 (mc p4) ha (by omega) g1 (fun z => absurd z (by omega)) (fun I1 z f1 f2 f3 f4 => hG _ p4 I1 ?_ (mf_t (mf_f mf_0 (by decide)) f1) f2 f3 ?_) (fun z I1 f1 => hX (Or.inl ⟨rfl, ?_⟩) I1 (bdp_m (mf_f mf_0 (by decide)) f1)))
            · rw [epf]
              dsimp only
              rw [if_pos (by omega), if_pos two1]
            · intro j h1 h2
              rw [f4 j h1 h2, xup_k (by decide)]
            · rw [epf]
              dsimp only
              rw [if_neg (by omega)]
          · have hb2 : bdp [87] [8, 9] (8 * n) I I1 := bdp_m (mf_f mf_0 (by decide)) (bdp_s hb1 hs hff)
            have e4 : pNum B (8 * n) 8 p3 = none := z.elim (fun y => y.2) (fun y => absurd y (by decide))
            rw [e4] at epf
            exact br_f (by rw [hb1.2.1]; decide) (nm_e (br_f (by rw [xup_s]; decide) (hX (Or.inl ⟨rfl, epf⟩) _ (bdp_9 hb2 (by decide)))))
        · have two0 : two = 0 := by omega
          rw [if_neg (by omega)] at epf
          refine br_t hr3.2.2.2.1 (m_plain52 (b2 := 0) hr3 (mc p3) ha (by omega) g1 (fun _ => rfl) (fun I1 z f1 f2 f3 f4 => hG _ p3 I1 ?_ (mf_t (mf_f mf_0 (by decide)) f1) f2 f3 ?_) (fun z I1 f1 => hX (Or.inl ⟨rfl, ?_⟩) I1 (bdp_m (mf_f mf_0 (by decide)) f1)))
          · rw [epf]
            dsimp only
            rw [if_pos (by omega), if_neg (by omega)]
          · intro j h1 h2
            rw [f4 j h1 h2, xup_k (by decide)]
          · rw [epf]
            dsimp only
            rw [if_neg (by omega)]
      · have e3 : pNum B (8 * n) n3 p2 = none := z.elim (fun y => y.2) (fun y => absurd y (by decide))
        rw [hn3] at e3
        simp only [pFew, e1, e2, e3]
    exact pk_eq wide 1 (fun e => key 8 (by rw [if_pos e])) (fun e => key 1 (by rw [if_neg e]))
  · have e2 : pNum B (8 * n) 1 p1 = none := z.elim (fun y => y.2) (fun y => absurd y (by decide))
    simp only [pFew, e1, e2]
end MS
