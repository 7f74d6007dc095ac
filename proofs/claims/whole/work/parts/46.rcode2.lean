/-! THE CLASS READS A CODE: the small one, the lengths, all of it. -/
section RD
variable {c : zC} {J : zK} {o m s N p n : Nat} {B : Nat → Int32} {T : Nat → zJ → Prop}
/-- places of the small code -/
abbrev zsm : List Nat := [60, 61, 62, 63, 64, 65, 66]
theorem r_small {I : zJ} {P : zJ → Prop} (h : cst I B N p)
    (hP : ∀ n p2 l5 q I1, pNum B N 4 p = some (n, p2) → pSmall B N (n + 4) 0 (fun _ => 0) p2 = some (l5, q) → gd l5 19 → cf zsm I I1 → cst I1 B N q → arr I1 60 19 l5 → P I1)
    (hT : ∀ I1, (∀ n p2 l5 q, pNum B N 4 p = some (n, p2) → pSmall B N (n + 4) 0 (fun _ => 0) p2 = some (l5, q) → ¬ gd l5 19) → cf zsm I I1 → T 100 I1) : c_ImageReader_takeSmall c J 9 I P T := by
  refine t_ImageReader_takeSmall zbi_9 (v_Code_clear zco_60 (by decide) (by decide) fun I1 f1 d1 => ?_)
  have c1 : cf zsm I I1 := cf_fr (fr_s f1 (by decide)) (by decide)
  have h1 : cst I1 B N p := cst_fr h f1 (by decide)
  refine r_num h1 (by decide) (fun n p2 e2 g2 q2 => ?_) (fun e2 => hT _ (fun n p2 l5 q e3 _ => by rw [e2] at e3; cases e3) c1)
  rw [nI_add]
  refine l_small (I0 := I1) (n + 4) 0 (fun _ => 0) _ p2 (by omega) (by omega) (cf_p cf_0) (cde_p d1 (by decide)) (cst_q h1 q2) ?_ ?_
  · intro l5 q I2 e3 f2 h2 d2
    refine v_Code_arrange zco_60 (by decide) (by decide) d2 fun I3 f3 a3 => ?_
    have c3 : cf zsm I I3 := cf_t c1 (cf_t (cf_s f2 (by decide)) (cf_fr (fr_s f3 (by decide)) (by decide)))
    have h3 : cst I3 B N q := cst_fr h2 f3 (by decide)
    refine ⟨fun hg => br_f (by decide) (hP n p2 l5 q I3 e2 e3 hg c3 h3 a3), fun hg => br_t rfl (hT I3 ?_ c3)⟩
    intro n' p2' l5' q' e4 e5
    rw [e2] at e4
    injection e4 with e4
    injection e4 with e6 e7
    subst e6 e7
    rw [e3] at e5
    injection e5 with e5
    injection e5 with e6 e7
    subst e6
    exact hg
  · intro I2 e3 f2
    refine hT I2 ?_ (cf_t c1 (cf_s f2 (by decide)))
    intro n' p2' l5' q' e4 e5
    rw [e2] at e4
    injection e4 with e4
    injection e4 with e6 e7
    subst e6 e7
    rw [e3] at e5
    cases e5
theorem lenV_le {t z : Nat} (ht : t < 19) (hz : z ≤ 15) : lenV t z ≤ 15 := by
  unfold lenV
  by_cases e : t < 16
  · rw [if_pos e]; omega
  · rw [if_neg e]
    by_cases e2 : t = 16
    · rw [if_pos e2]; exact hz
    · rw [if_neg e2]; omega
/-- the lengths, from symbol n on -/
theorem l_lens {P : zJ → Prop} {I0 : zJ} {l5 : Nat → Nat} (hc : zco c o m) (ho : 14 ≤ o) (h60 : o + 6 < 60 ∨ 66 < o) (hs : s ≤ m) (hm : m ≤ 300) (ha0 : arr I0 60 19 l5) : ∀ (k n z t : Nat) (l : Nat → Nat) (I : zJ) (p : Nat), n ≤ s → t ≤ n → s ≤ k + n → z ≤ 15 → cf [o + 4] I0 I → cst I B N p → cde I o s l →
    (∀ l1 q I1, pLens B N l5 s k n z l p = some (l1, q) → cf [o + 4] I0 I1 → cst I1 B N q → cde I1 o s l1 → P I1) → (∀ I1, pLens B N l5 s k n z l p = none → cf [o + 4] I0 I1 → T 100 I1) →
    g_ImageReader_takeLengths_9 c J 9 o (nI z) (nI n) (nI t) I P T := by
  intro k
  induction k with
  | zero =>
    intro n z t l I p hn ht hk hz hf h d hP hT
    obtain rfl : n = s := by omega
    have fin : P I := hP l p I rfl hf h d
    refine t_ImageReader_takeLengths_9 zbi_9 hc ?_
    rw [d.1]
    exact pk_le n t (fun _ => fin) (fun _ => br_t (nI_le (Nat.le_refl _) (by omega)) fin)
  | succ k ih =>
    intro n z t l I p hn ht hk hz hf h d hP hT
    refine t_ImageReader_takeLengths_9 zbi_9 hc ?_
    rw [d.1]
    by_cases hns : n < s
    · refine br_f (nI_ge (by omega) (by omega)) (br_f (nI_ge (by omega) (by omega)) ?_)
      have ha : arr I 60 19 l5 := arr_cf ha0 hf (by decide) (by simp <;> omega) (by simp <;> omega) (by simp <;> omega) (by simp <;> omega) (by simp <;> omega)
      refine v_Code_hear zco_60 (by decide) zbi_9 (by decide) (by decide) ha h.1 h.2.2.1 h.2.2.2.1 h.2.2.2.2.1 h.2.1 ?_ (fun q hq e => hT _ (by simp only [pLens, if_pos hns, e]) (cf_p hf))
      intro v q1 e1 hv hq1
      have h1 := cst_q h hq1
      have d1 : cde (xup I 9 2 (nI q1)) o s l := cde_p d ho
      have key : c_ImageReader_takeTimes c J 9 (nI v) (xup I 9 2 (nI q1)) (fun y I3 => g_ImageReader_takeLengths_69 c J 9 o (nI z) (nI n) (nI t) (nI (lenV v z)) y I3 P T) T := by
        refine r_times h1 hv (fun w q2 e2 g1 g2 hq2 => ?_) (fun e2 => hT _ (by simp only [pLens, if_pos hns, e1, e2]) (cf_p hf))
        rw [xup_2]
        have h2 := cst_q h hq2
        have d2 : cde (xup I 9 2 (nI q2)) o s l := cde_p d ho
        have hlv := lenV_le hv hz
        refine t_ImageReader_takeLengths_69 zbi_9 hc ?_
        rw [d2.1, pk_sub (by omega), nI_add]
        refine pk_le w (s - n) (fun e3 => ?_) (fun e3 => hT _ (by simp only [pLens, if_pos hns, e1, e2]; rw [if_neg (by omega)]) (cf_p hf))
        refine v_A_fill2 ⟨zco_a4 hc, zco_g4 hc⟩ (by omega) (by omega) (by omega) ?_
        have f3 : cf [o + 4] I0 (xfil (xup I 9 2 (nI q2)) (o + 4) n (n + w) (nI (lenV v z))) := cf_fil (cf_p hf) (by simp) (by omega)
        have h3 : cst (xfil (xup I 9 2 (nI q2)) (o + 4) n (n + w) (nI (lenV v z))) B N q2 := cst_fil h2 (by omega)
        have d3 : cde (xfil (xup I 9 2 (nI q2)) (o + 4) n (n + w) (nI (lenV v z))) o s (zfill l n w (lenV v z)) := by
          refine ⟨?_, ?_, ?_⟩
          · rw [xfil_r (by omega)]; exact d2.1
          · intro j hj
            unfold xfil zfill
            by_cases e : n ≤ j ∧ j < n + w
            · rw [if_pos ⟨rfl, e⟩, if_pos e]
            · rw [if_neg (fun y => e y.2), if_neg e]; exact d2.2.1 j hj
          · intro j hj
            unfold zfill
            by_cases e : n ≤ j ∧ j < n + w
            · rw [if_pos e]; exact hlv
            · rw [if_neg e]; exact d.2.2 j hj
        have hz2 : (if 0 < lenV v z then lenV v z else z) ≤ 15 := by
          by_cases e : 0 < lenV v z
          · rw [if_pos e]; exact hlv
          · rw [if_neg e]; exact hz
        have unf : pLens B N l5 s (k + 1) n z l p = pLens B N l5 s k (n + w) (if 0 < lenV v z then lenV v z else z) (zfill l n w (lenV v z)) q2 := by
          simp only [pLens, if_pos hns, e1, e2]
          rw [if_pos (by omega)]
        rw [unf] at hP hT
        have nxt := ih (n + w) _ (t + 1) _ _ q2 (by omega) (by omega) (by omega) hz2 f3 h3 d3 hP hT
        rw [nI_add]
        refine pk_le (lenV v z) 0 (fun e => ?_) (fun e => ?_)
        · rw [if_neg (by omega)] at nxt; exact nxt
        · rw [if_pos e] at nxt; exact nxt
      refine pk_le 16 v (fun e => pk_eq v 16 (fun e2 => ?_) (fun e2 => ?_)) (fun e => ?_)
      · have : lenV v z = z := by unfold lenV; rw [if_neg (by omega), if_pos e2]
        rw [this] at key; exact key
      · have : lenV v z = 0 := by unfold lenV; rw [if_neg (by omega), if_neg e2]
        rw [this] at key; exact key
      · have : lenV v z = v := by unfold lenV; rw [if_pos e]
        rw [this] at key; exact key
    · have fin : P I := hP l p I (by simp only [pLens, if_neg hns]) hf h d
      exact pk_le s t (fun _ => fin) (fun _ => br_t (nI_le (by omega) (by omega)) fin)
/-- a code -/
theorem r_code {I : zJ} {P : zJ → Prop} (hc : zco c o m) (ho : 14 ≤ o) (h60 : o + 6 < 60 ∨ 66 < o) (hs : s ≤ m) (hm : m ≤ 300) (d : cde I o s (fun _ => 0)) (h : cst I B N p)
    (hP : ∀ l q I1, pCode B N s p = some (l, q) → cf ([o, o + 1, o + 2, o + 3, o + 4, o + 5, o + 6] ++ zsm) I I1 → cst I1 B N q → arr I1 o s l → P I1) (hT : ∀ I1, pCode B N s p = none → cf ([o, o + 1, o + 2, o + 3, o + 4, o + 5, o + 6] ++ zsm) I I1 → T 100 I1) : c_ImageReader_takeCode c J 9 o I P T := by
  have fin : ∀ (I2 : zJ) (l : Nat → Nat) (q : Nat), pRaw B N s p = some (l, q) → cf ([o, o + 1, o + 2, o + 3, o + 4, o + 5, o + 6] ++ zsm) I I2 → cst I2 B N q → cde I2 o s l → c_Code_arrange c J o I2 (fun y I3 => ((y = nI 0 → T 100 I3) ∧ (¬ (y = nI 0) → P I3))) T := by
    intro I2 l q e f2 h2 d2
    refine v_Code_arrange hc hs hm d2 fun I3 f3 a3 => ?_
    have c3 : cf ([o, o + 1, o + 2, o + 3, o + 4, o + 5, o + 6] ++ zsm) I I3 := cf_t f2 (cf_fr (fr_s f3 (by intro a ha; simp at ha ⊢ <;> omega)) (by simp <;> omega))
    have h3 : cst I3 B N q := cst_fr h2 f3 (by intro a ha; simp at ha <;> omega)
    refine ⟨fun hg => br_f (by decide) (hP l q I3 ?_ c3 h3 a3), fun hg => br_t rfl (hT I3 ?_ c3)⟩
    · unfold pCode
      rw [e]
      exact if_pos hg
    · unfold pCode
      rw [e]
      exact if_neg hg
  have bad : pRaw B N s p = none → pCode B N s p = none := by
    intro e
    unfold pCode
    rw [e]
  refine t_ImageReader_takeCode zbi_9 hc (r_bit h (fun few p1 e1 g1 q1 => ?_) (fun e1 => hT _ (bad (by simp only [pRaw, e1])) cf_0))
  have h1 := cst_q h q1
  have d1 : cde (xup I 9 2 (nI p1)) o s (fun _ => 0) := cde_p d ho
  refine pk_eq few 1 (fun ef => ?_) (fun ef => ?_)
  · refine r_few hc ho hs hm d1 h1 (fun l q I1 e2 f1 h2 d2 => ?_) (fun I1 e2 f1 => hT I1 (bad ?_) ?_)
    · exact fin I1 l q (by simp only [pRaw, e1, if_pos ef]; exact e2) (cf_t (cf_p cf_0) (cf_s f1 (by intro a ha; simp at ha ⊢ <;> omega))) h2 d2
    · simp only [pRaw, e1, if_pos ef]; exact e2
    · exact cf_t (cf_p cf_0) (cf_s f1 (by intro a ha; simp at ha ⊢ <;> omega))
  · refine r_small h1 (fun n p2 l5 q I1 e2 e3 hg f1 h2 a2 => ?_) (fun I1 e2 f1 => hT I1 (bad ?_) ?_)
    · have hz : ∀ a, a ∈ zsm → a ∈ ([o, o + 1, o + 2, o + 3, o + 4, o + 5, o + 6] ++ zsm) := fun a ha => List.mem_append_right _ ha
      have c1 : cf ([o, o + 1, o + 2, o + 3, o + 4, o + 5, o + 6] ++ zsm) I I1 := cf_t (cf_p cf_0) (cf_s f1 hz)
      have d2 : cde I1 o s (fun _ => 0) := cde_cf d1 f1 ho (by simp <;> omega) (by simp <;> omega)
      have unf : pRaw B N s p = pLens B N l5 s s 0 8 (fun _ => 0) q := by
        simp only [pRaw, e1, if_neg ef, pLong, e2, e3]
        exact if_pos hg
      refine t_ImageReader_takeLengths zbi_9 hc (l_lens hc ho h60 hs hm a2 s 0 8 0 _ _ q (by omega) (by omega) (by omega) (by decide) cf_0 h2 d2 ?_ ?_)
      · intro l1 q1 I2 e4 f2 h3 d3
        exact fin I2 l1 q1 (unf.trans e4) (cf_t c1 (cf_s f2 (by intro a ha; simp at ha ⊢ <;> omega))) h3 d3
      · intro I2 e4 f2
        exact hT I2 (bad (unf.trans e4)) (cf_t c1 (cf_s f2 (by intro a ha; simp at ha ⊢ <;> omega)))
    · simp only [pRaw, e1, if_neg ef, pLong]
      cases e5 : pNum B N 4 p1 with
      | none => rfl
      | some r =>
        obtain ⟨n, p2⟩ := r
        dsimp only
        cases e6 : pSmall B N (n + 4) 0 (fun _ => 0) p2 with
        | none => rfl
        | some r2 =>
          obtain ⟨l5, q⟩ := r2
          exact if_neg (e2 n p2 l5 q e5 e6)
    · exact cf_t (cf_p cf_0) (cf_s f1 fun a ha => List.mem_append_right _ ha)
end RD
