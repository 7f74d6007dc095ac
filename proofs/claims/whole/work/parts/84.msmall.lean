/-! THE SMALL CODE SAID by the reference. -/
section SMM
variable {c : zC} {J : zK} {T : Nat → zJ → Prop} {P : zJ → Prop} {h k s : Nat} {xs : List (Nat × Nat)} {l : Nat → Nat}
theorem l_glM {I0 : zJ} (hm : mcd I0 k s l) (hs : s ≤ 296) (hl9 : ∀ k, k < s → l k ≤ 9)
    (hP : ∀ I1, mf mgS [33] I0 I1 → lo88 I0 I1 → mga I1 (gl l s 0 0) → c_M_giveLengths c J (nI 5) I1 (fun I3 => c_M_put c J (nI 15) (nI 4) I3 (fun I4 => g_M_putLengths_117 c J (nI 0) I4 P T) T) T) : ∀ (n i z : Nat) (xs : List (Nat × Nat)) (I : zJ), i + n = s → z ≤ i → xs.length + z ≤ i → mf mgS [33] I0 I → lo88 I0 I → mga I xs → xs ++ gl l n i z = gl l s 0 0 → g_M_putLengths_44 c J (nI k) (nI z) (nI (zb k + i)) I P T := by
  obtain ⟨m1, m2, m3, m4, m5⟩ := hm
  intro n
  induction n with
  | zero =>
    intro i z xs I hi hz hx hf ho hg he
    obtain rfl : i = s := by omega
    refine t_M_putLengths_44 ⟨vp_in_nI m1 (by decide), ?_⟩
    rw [f_base m1, nc (by omega), hf.1 89 (by decide) (by decide), m4, nI_add]
    refine br_t (nI_le (Nat.le_refl _) (by omega)) (t_M_sayZeros (v_zerosM z z xs I (Nat.le_refl _) (by omega) (by omega) hf ho hg fun I1 f1 o1 g1 => hP I1 f1 o1 ?_))
    rw [← he]
    exact g1
  | succ n ih =>
    intro i z xs I hi hz hx hf ho hg he
    have e4 : ∀ {I2 : zJ}, mf mgS [33] I0 I2 → I2 87 (zb k + i) = nI (l i) := fun {I2} h2 => by rw [h2.1 87 (by decide) (by decide)]; exact (m5 i (by omega)).1
    have h9 := hl9 i (by omega)
    rw [show gl l (n + 1) i z = if l i = 0 then gl l n (i + 1) (z + 1) else zl z z ++ (l i, 1) :: gl l n (i + 1) 0 from rfl] at he
    refine t_M_putLengths_44 ⟨vp_in_nI m1 (by decide), ?_⟩
    rw [f_base m1, nc (by omega), hf.1 89 (by decide) (by decide), m4, nI_add, nc (by omega), e4 hf, nI_add, nI_add]
    refine br_f (nI_ge (by omega) (by omega)) ⟨vp_in_nI (by omega) (by decide), pk_eq (l i) 0 (fun e => ?_) (fun e => ?_)⟩
    · rw [if_pos e] at he
      exact ih (i + 1) (z + 1) xs I (by omega) (by omega) (by omega) hf ho hg he
    · rw [if_neg e] at he
      refine t_M_sayZeros (v_zerosM z z xs I (Nat.le_refl _) (by omega) (by omega) hf ho hg fun I1 f1 o1 g1 => ?_)
      have hzl := zl_len z z
      have hln : (xs ++ zl z z).length ≤ i := by rw [List.length_append]; omega
      rw [xup_k (by decide), xup_k (by decide), xup_k (by decide), e4 f1, g1.1, nc (n := (xs ++ zl z z).length) (by omega), nI_add, nI_add, nc (n := 1104 + l i) (by omega)]
      refine ⟨vp_in_nI (by omega) (by decide), vp_in_nI (by omega) (by decide), vp_in_nI (by omega) (by decide), vp_in_nI (by omega) (by decide), nm_e ?_⟩
      have em : mor (l i, 1) = 0 := by
        unfold mor
        rw [if_neg (by show ¬ l i = 17; omega), if_neg (by show ¬ l i = 18; omega)]
      have ga := mga_app (a := l i) (b := 1) g1
      rw [em] at ga
      refine ih (i + 1) 0 (xs ++ zl z z ++ [(l i, 1)]) _ (by omega) (by omega) (by rw [List.length_append]; show (xs ++ zl z z).length + 1 + 0 ≤ i + 1; omega) (mf_ga f1) (lo_ga o1) ga ?_
      rw [List.append_assoc, List.append_assoc]
      exact he
theorem l_smM2 {I0 : zJ} (hd : mrd I0 5 19 l) (hl : ∀ x, x ∈ xs → 1 ≤ l x.1) (hk : ∀ x, x ∈ xs → gk x) (hx : xs.length ≤ 296) (h3 : I0 83 33 = nI xs.length) (hr : ∀ i x, xs[i]? = some x → I0 102 i = nI x.1 ∧ I0 103 i = nI (mor x)) (hh : h + 7000 < 2 ^ 30)
    (hP : P (em I0 83 7 86 h (itsB l xs xs.length))) : ∀ (n i : Nat), i + n = xs.length → g_M_putLengths_151 c J (nI i) (em I0 83 7 86 h (itsB l xs i)) P T := by
  obtain ⟨⟨m1, m2, m3, m4, m5⟩, m6⟩ := id hd
  intro n
  induction n with
  | zero =>
    intro i hi
    obtain rfl : i = xs.length := by omega
    refine t_M_putLengths_151 ?_
    rw [em_f (by decide) (by decide), h3]
    exact br_t (nI_le (Nat.le_refl _) (by omega)) hP
  | succ n ih =>
    intro i hi
    obtain ⟨x, ex⟩ : ∃ x, xs[i]? = some x := ⟨xs[i]'(by omega), List.getElem?_eq_getElem (by omega)⟩
    have hm : x ∈ xs := List.mem_of_getElem? ex
    have hg := hk x hm
    obtain ⟨r1, r2⟩ := hr i x ex
    have vi : vp_in (nI i) 296 := vp_in_nI (by omega) (by decide)
    have l15 : ∀ k, k < 19 → l k ≤ 15 := fun k hk => (m5 k hk).2
    have ab : ∀ bs, mrd (em I0 83 7 86 h bs) 5 19 l := fun bs => ⟨⟨m1, m2, m3, by rw [em_r (by decide) (by decide)]; exact m4, fun j hj => by rw [em_r (by decide) (by decide)]; exact m5 j hj⟩, by rw [em_r (by decide) (by decide)]; exact m6⟩
    have hlen : (itsB l xs i).length ≤ 22 * i := by
      have e : ∀ j, j ≤ xs.length → (itsB l xs j).length ≤ 22 * j := by
        intro j
        induction j with
        | zero => intro _; exact Nat.zero_le _
        | succ j ihj =>
          intro hj
          have e1 := ihj (by omega)
          have ey : xs[j]? = some (xs[j]'(by omega)) := List.getElem?_eq_getElem (by omega)
          rw [itsB_s ey, List.length_append]
          have := itB_len (l := l) (x := xs[j]'(by omega)) (l15 _ (hk _ (List.mem_of_getElem? ey)).1)
          omega
      exact e i (by omega)
    have sl := symB_len (s := 19) (l15 x.1 hg.1)
    have nx := ih (i + 1) (by omega)
    rw [itsB_s ex] at nx
    unfold itB at nx
    refine t_M_putLengths_151 ?_
    rw [em_f (by decide) (by decide), h3, nc (by omega), em_r (by decide) (by decide), r1]
    refine br_f (nI_ge (by omega) (by omega)) ⟨vi, v_M_putSymbol (ab _) hg.1 (hl x hm) (by decide) em_c (by omega) ⟨vi, vi, ?_⟩⟩
    rw [em_app (by decide), em_r (by decide) (by decide), em_r (by decide) (by decide), r1, r2, nI_add]
    refine pk_eq x.1 17 (fun e => ?_) (fun e => ⟨vi, pk_eq x.1 18 (fun e2 => ?_) (fun e2 => ?_) rfl rfl (by have := hg.1; omega) (by decide)⟩) rfl rfl (by have := hg.1; omega) (by decide)
    · rw [if_pos e, ← List.append_assoc] at nx
      refine v_M_put em_c (by rw [List.length_append]; omega) ?_
      rw [em_app (by decide)]
      exact nx
    · rw [if_neg e, if_pos e2, ← List.append_assoc] at nx
      refine v_M_put em_c (by rw [List.length_append]; omega) ?_
      rw [em_app (by decide)]
      exact nx
    · rw [if_neg e, if_neg e2, ← List.append_assoc] at nx
      refine v_M_put em_c (by rw [List.length_append]; omega) ?_
      rw [em_app (by decide)]
      exact nx
/-- the reference's whole -/
theorem v_smM {I : zJ} {b : Nat} (hm : mcd I k s l) (hk5 : k < 5) (hs : s ≤ 296) (hl9 : ∀ k, k < s → l k ≤ 9) (hz : zb k + s ≤ 1104) (h105 : ∀ k, k < 19 → I 105 k = nI (zord k)) (h7 : I 83 7 = nI h) (hh : h + 20000 < 2 ^ 30) (h9 : I 83 9 = nI b) (hb : b < 2)
    (hP : ∀ I1, mf [87, 88, 89, 90, 102, 103] [9, 33] I I1 → lo88 I I1 → (∀ j, j < 1104 → I1 87 j = I 87 j) → (∀ j, j ≠ 5 → I1 89 j = I 89 j) → (∀ j, j ≠ 5 → I1 90 j = I 90 j) → (∃ b1, b1 < 2 ∧ I1 83 9 = nI b1) → P (em I1 83 7 86 h (smB (gl l s 0 0)))) : c_M_putLengths c J (nI k) I P T := by
  obtain ⟨m1, m2, m3, m4, m5⟩ := id hm
  have hgk := gl_ok l s 0 0 (fun k hk => hl9 k (by omega))
  have hne := gl_ne l s 0 0 (by omega)
  have hgl := gl_len l s 0 0
  have after : ∀ I1, mf [88, 89, 102, 103] [33] I I1 → lo88 I I1 → I1 89 5 = nI 19 → (∀ j, j ≠ 5 → I1 89 j = I 89 j) → mga I1 (gl l s 0 0) → c_M_giveLengths c J (nI 5) I1 (fun I3 => c_M_put c J (nI 15) (nI 4) I3 (fun I4 => g_M_putLengths_117 c J (nI 0) I4 P T) T) T := by
    generalize gl l s 0 0 = xs at hgk hne hgl hP
    intro I1 f1 o1 h89 h89o g1
    have hu : mus I1 5 19 (hask xs) := ⟨by decide, by decide, by decide, h89, g1.2.2⟩
    refine v_give hu (by decide) (hask_cnt hne hgk) ((f1.2 9 (by decide)).trans h9) hb fun I2 f2 d2 o2 p2 b2 => ?_
    have f12 : mf [87, 88, 89, 90, 102, 103] [9, 33] I I2 := mf_t (mf_s f1 (by simp) (by simp)) (mf_s f2 (by simp) (by simp))
    refine v_M_put (h := h) ((f12.2 7 (by decide)).trans h7) (by omega) ?_
    have ord : ∀ (n i : Nat), i + n = 19 → g_M_putLengths_117 c J (nI i) (em I2 83 7 86 h (bsv (nI 15) 4 ++ ordB (bal (hask xs) 19) i)) P T := by
      intro n
      induction n with
      | zero =>
        intro i hi
        obtain rfl : i = 19 := by omega
        refine t_M_putLengths_117 (br_t (by decide) ?_)
        have hq := l_smM2 (c := c) (J := J) (T := T) (P := P) (h := h + (bsv (nI 15) 4 ++ ordB (bal (hask xs) 19) 19).length) (I0 := em I2 83 7 86 h (bsv (nI 15) 4 ++ ordB (bal (hask xs) 19) 19)) (l := bal (hask xs) 19) (xs := xs) ?_ (fun x hm => bal_pos (by decide) (hgk x hm).1 (hask_mem hm)) hgk (by omega) ?_ ?_ ?_ ?_ xs.length 0 (by omega)
        · have e0 : itsB (bal (hask xs) 19) xs 0 = [] := rfl
          rw [e0, em_0 em_c] at hq
          exact hq
        · obtain ⟨⟨n1, n2, n3, n4, n5⟩, n6⟩ := d2
          exact ⟨⟨n1, n2, n3, by rw [em_r (by decide) (by decide)]; exact n4, fun j hj => by rw [em_r (by decide) (by decide)]; exact n5 j hj⟩, by rw [em_r (by decide) (by decide)]; exact n6⟩
        · rw [em_f (by decide) (by decide), f2.2 33 (by decide)]; exact g1.1
        · intro i x ex
          rw [em_r (by decide) (by decide), em_r (by decide) (by decide), f2.1 102 (by decide) (by decide), f2.1 103 (by decide) (by decide)]; exact g1.2.1 i x ex
        · rw [List.length_append, bsv_len, ordB_len]; omega
        · rw [em_app (by decide), List.append_assoc]
          refine hP I2 f12 (fun j hj => by rw [f2.1 88 (by decide) (by decide)]; exact o1 j hj) (fun j hj => ?_) (fun j hj => ?_) (fun j hj => ?_) b2
          · rw [o2 j (by show ¬ (1104 ≤ j ∧ j < 1104 + 19); omega), f1.1 87 (by decide) (by decide)]
          · rw [f2.1 89 (by decide) (by decide)]; exact h89o j hj
          · rw [p2 j hj, f1.1 90 (by decide) (by decide)]
      | succ n ih =>
        intro i hi
        have zl19 : zord i < 19 := (by decide : ∀ i, i < 19 → zord i < 19) i (by omega)
        have e1 : I2 105 i = nI (zord i) := by rw [f12.1 105 (by decide) (by decide)]; exact h105 i (by omega)
        refine t_M_putLengths_117 (br_f (nI_ge (by omega) (by decide)) ⟨vp_in_nI (by omega) (by decide), ?_⟩)
        have e2 : I2 87 (1104 + zord i) = nI (bal (hask xs) 19 (zord i)) := (d2.1.2.2.2.2 _ zl19).1
        rw [nc (by omega), em_r (by decide) (by decide), e1, nI_add, nc (by omega), em_r (by decide) (by decide), e2, nI_add]
        refine ⟨vp_in_nI (by omega) (by decide), v_M_put em_c (by rw [List.length_append, bsv_len, ordB_len]; omega) ?_⟩
        rw [em_app (by decide), List.append_assoc]
        exact ih (i + 1) (by omega)
    have := ord 19 0 (by decide)
    rw [show ordB (bal (hask xs) 19) 0 = [] from rfl, List.append_nil] at this
    exact this
  -- the wiping
  have wip : ∀ (n i : Nat) (I1 : zJ), i + n = 19 → mf [88, 89] [] I I1 → lo88 I I1 → I1 89 5 = nI 19 → (∀ j, j ≠ 5 → I1 89 j = I 89 j) → (∀ j, j < i → I1 88 (1104 + j) = nI 0) → g_M_putLengths_12 c J (nI k) (nI (1104 + i)) I1 P T := by
    intro n
    induction n with
    | zero =>
      intro i I1 hi f1 o1 h89 h89o hw
      obtain rfl : i = 19 := by omega
      refine t_M_putLengths_12 (br_t (by decide) (nm_e ?_))
      rw [f_base m1]
      have hm1 : mcd (xup I1 83 33 (nI 0)) k s l := ⟨m1, m2, m3, by rw [xup_k (by decide), h89o k (by omega)]; exact m4, fun j hj => by rw [xup_k (by decide), f1.1 87 (by decide) (by decide)]; exact m5 j hj⟩
      refine l_glM hm1 hs hl9 (fun I2 f2 o2 g2 => after I2 (mf_t (mf_s (mf_f (i := 33) (F := [33]) (mf_s f1 (S' := [88, 89]) (by simp) (by simp)) (by simp)) (by simp) (by simp)) (mf_s f2 (by simp) (by simp))) (fun j hj => ?_) ?_ (fun j hj => ?_) g2) s 0 0 [] _ (by omega) (by omega) (by show 0 + 0 ≤ 0; omega) mf_0 (fun _ _ => rfl) ?_ rfl
      · rw [o2 j hj, xup_k (by decide)]; exact o1 j hj
      · rw [f2.1 89 (by decide) (by decide), xup_k (by decide)]; exact h89
      · rw [f2.1 89 (by decide) (by decide), xup_k (by decide)]; exact h89o j hj
      · refine ⟨xup_s, fun i x ex => (by cases ex), fun j hj => ?_⟩
        rw [xup_k (by decide)]
        exact hw j hj
    | succ n ih =>
      intro i I1 hi f1 o1 h89 h89o hw
      refine t_M_putLengths_12 (br_f (nI_ge (by omega) (by decide)) ⟨vp_in_nI (by omega) (by decide), ?_⟩)
      rw [nc (by omega), nI_add]
      refine ih (i + 1) _ (by omega) (mf_u f1 (by decide) (by decide)) (fun j hj => by rw [xup_i (by omega)]; exact o1 j hj) (by rw [xup_k (by decide)]; exact h89) (fun j hj => by rw [xup_k (by decide)]; exact h89o j hj) (fun j hj => ?_)
      by_cases e : j = i
      · rw [e, xup_s]
      · rw [xup_i (by omega)]; exact hw j (by omega)
  refine t_M_putLengths (wip 19 0 _ (by decide) (mf_u mf_0 (by decide) (by decide)) (fun j hj => by rw [xup_k (by decide)]) xup_s (fun j hj => by rw [xup_i hj]) (fun j hj => absurd hj (by omega)))
end SMM
