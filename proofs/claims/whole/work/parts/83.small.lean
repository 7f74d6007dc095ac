/-! THE SMALL CODE SAID: the reference gathers all lengths; both say them. -/
def gk (x : Nat × Nat) : Prop := x.1 < 19 ∧ (x.1 = 17 → 3 ≤ x.2) ∧ (x.1 = 18 → 11 ≤ x.2)
theorem zl_ok : ∀ k n x, x ∈ zl k n → gk x
  | 0, n, x, h => by cases h
  | k + 1, n, x, h => by
    unfold zl at h
    by_cases e0 : n = 0
    · rw [if_pos e0] at h; cases h
    · rw [if_neg e0] at h
      by_cases e1 : 11 ≤ n
      · rw [if_pos e1] at h
        rcases List.mem_cons.mp h with h | h
        · rw [h]; exact ⟨(by decide : (18 : Nat) < 19), fun z => absurd z (by decide : ¬ (18 : Nat) = 17), fun _ => (by omega : 11 ≤ min n 138)⟩
        · exact zl_ok k _ x h
      · rw [if_neg e1] at h
        by_cases e2 : 3 ≤ n
        · rw [if_pos e2] at h
          rcases List.mem_cons.mp h with h | h
          · rw [h]; exact ⟨(by decide : (17 : Nat) < 19), fun _ => e2, fun z => absurd z (by decide : ¬ (17 : Nat) = 18)⟩
          · exact zl_ok k _ x h
        · rw [if_neg e2] at h
          rcases List.mem_cons.mp h with h | h
          · rw [h]; exact ⟨(by decide : (0 : Nat) < 19), fun z => absurd z (by decide : ¬ (0 : Nat) = 17), fun z => absurd z (by decide : ¬ (0 : Nat) = 18)⟩
          · exact zl_ok k _ x h
theorem gl_ok (l : Nat → Nat) : ∀ n i z, (∀ k, k < i + n → l k ≤ 9) → ∀ x, x ∈ gl l n i z → gk x
  | 0, i, z, _, x, h => zl_ok z z x h
  | n + 1, i, z, hl, x, h => by
    unfold gl at h
    by_cases e : l i = 0
    · rw [if_pos e] at h
      exact gl_ok l n (i + 1) (z + 1) (fun k hk => hl k (by omega)) x h
    · rw [if_neg e] at h
      rcases List.mem_append.mp h with h | h
      · exact zl_ok z z x h
      · rcases List.mem_cons.mp h with h | h
        · have := hl i (by omega)
          rw [h]
          exact ⟨by show l i < 19; omega, fun y => by have : l i = 17 := y; omega, fun y => by have : l i = 18 := y; omega⟩
        · exact gl_ok l n (i + 1) 0 (fun k hk => hl k (by omega)) x h
theorem gl_ne (l : Nat → Nat) : ∀ n i z, 0 < n + z → 0 < (gl l n i z).length
  | 0, i, z, h => by
    unfold gl
    obtain ⟨m, rfl⟩ : ∃ m, z = m + 1 := ⟨z - 1, by omega⟩
    unfold zl
    rw [if_neg (by omega)]
    by_cases e1 : 11 ≤ m + 1
    · rw [if_pos e1]; exact Nat.succ_pos _
    · rw [if_neg e1]
      by_cases e2 : 3 ≤ m + 1
      · rw [if_pos e2]; exact Nat.succ_pos _
      · rw [if_neg e2]; exact Nat.succ_pos _
  | n + 1, i, z, h => by
    unfold gl
    by_cases e : l i = 0
    · rw [if_pos e]; exact gl_ne l n (i + 1) (z + 1) (by omega)
    · rw [if_neg e, List.length_append]
      show 0 < _ + ((gl l n (i + 1) 0).length + 1)
      omega
theorem hask_mem {xs : List (Nat × Nat)} {x : Nat × Nat} (h : x ∈ xs) : hask xs x.1 = true := by
  unfold hask
  rw [List.any_eq_true]
  exact ⟨x, h, by simp⟩
theorem hask_cnt {xs : List (Nat × Nat)} (h : 0 < xs.length) (hk : ∀ x, x ∈ xs → gk x) : 1 ≤ cntp (hask xs) 19 := by
  cases xs with
  | nil => cases h
  | cons x t =>
    have h1 : x ∈ x :: t := List.mem_cons_self
    have := cntp_lt (q := hask (x :: t)) (hk x h1).1 (hask_mem h1)
    omega
/-- the small code's lengths in their order; the symbols gathered -/
def ordB (l : Nat → Nat) : Nat → List Nat
  | 0 => []
  | i + 1 => ordB l i ++ bsv (nI (l (zord i))) 3
def itB (l : Nat → Nat) (x : Nat × Nat) : List Nat := symB l 19 x.1 ++ (if x.1 = 17 then bsv (nI (mor x)) 3 else if x.1 = 18 then bsv (nI (mor x)) 7 else [])
def itsB (l : Nat → Nat) (xs : List (Nat × Nat)) : Nat → List Nat
  | 0 => []
  | i + 1 => itsB l xs i ++ (match xs[i]? with
    | some x => itB l x
    | none => [])
theorem ordB_len (l : Nat → Nat) : ∀ n, (ordB l n).length = 3 * n
  | 0 => rfl
  | n + 1 => by
    show (ordB l n ++ bsv (nI (l (zord n))) 3).length = _
    rw [List.length_append, ordB_len l n, bsv_len]; omega
theorem symB_len {l : Nat → Nat} {s x : Nat} (h : l x ≤ 15) : (symB l s x).length ≤ 15 := by
  unfold symB
  by_cases e : cntp (qp l) s = 1
  · rw [if_pos e]; exact Nat.zero_le _
  · rw [if_neg e, hib_len]; exact h
theorem itB_len {l : Nat → Nat} {x : Nat × Nat} (h : l x.1 ≤ 15) : (itB l x).length ≤ 22 := by
  have h1 := symB_len (s := 19) h
  unfold itB
  rw [List.length_append]
  by_cases e1 : x.1 = 17
  · rw [if_pos e1, bsv_len]; omega
  · rw [if_neg e1]
    by_cases e2 : x.1 = 18
    · rw [if_pos e2, bsv_len]; omega
    · rw [if_neg e2]; show _ + 0 ≤ 22; omega
theorem itsB_len {l : Nat → Nat} (h : ∀ k, l k ≤ 15) (xs : List (Nat × Nat)) : ∀ n, (itsB l xs n).length ≤ 22 * n
  | 0 => Nat.zero_le _
  | n + 1 => by
    have h1 := itsB_len h xs n
    unfold itsB
    rw [List.length_append]
    cases xs[n]? with
    | none => show _ + 0 ≤ _; omega
    | some x => have := itB_len (x := x) (h x.1); show _ + (itB l x).length ≤ _; omega
theorem itsB_s {l : Nat → Nat} {xs : List (Nat × Nat)} {i : Nat} {x : Nat × Nat} (h : xs[i]? = some x) : itsB l xs (i + 1) = itsB l xs i ++ itB l x := by
  show itsB l xs i ++ (match xs[i]? with
    | some x => itB l x
    | none => []) = _
  rw [h]
/-- all that the small code says -/
def smB (xs : List (Nat × Nat)) : List Nat := bsv (nI 15) 4 ++ (ordB (bal (hask xs) 19) 19 ++ itsB (bal (hask xs) 19) xs xs.length)
theorem smB_len {xs : List (Nat × Nat)} (h : xs.length ≤ 296) : (smB xs).length ≤ 7000 := by
  unfold smB
  rw [List.length_append, List.length_append, bsv_len, ordB_len]
  have := itsB_len (l := bal (hask xs) 19) (fun k => Nat.le_trans (bal_le (by decide)) (by decide)) xs xs.length
  omega
section SMC
variable {c : zC} {J : zK} {T : Nat → zJ → Prop} {P : zJ → Prop} {h : Nat} {xs : List (Nat × Nat)}
/-- the class says it -/
theorem l_smC2 {I0 : zJ} {l : Nat → Nat} (ha : arr I0 69 19 l) (hl : ∀ x, x ∈ xs → 1 ≤ l x.1) (hk : ∀ x, x ∈ xs → gk x) (hx : xs.length ≤ 296) (h3 : I0 68 3 = nI xs.length) (hr : ∀ i x, xs[i]? = some x → I0 76 i = nI x.1 ∧ I0 77 i = nI x.2) (hh : h + 7000 < 2 ^ 30)
    (hP : P (em I0 11 1 12 h (itsB l xs xs.length))) : ∀ (n i : Nat), i + n = xs.length → g_CodeWriter_sayLengths_2 c J 11 (nI i) (em I0 11 1 12 h (itsB l xs i)) P T := by
  intro n
  induction n with
  | zero =>
    intro i hi
    obtain rfl : i = xs.length := by omega
    refine t_CodeWriter_sayLengths_2 zbi_11 ?_
    rw [em_r (by decide) (by decide), h3]
    exact br_t (nI_le (Nat.le_refl _) (by omega)) hP
  | succ n ih =>
    intro i hi
    obtain ⟨x, ex⟩ : ∃ x, xs[i]? = some x := ⟨xs[i]'(by omega), List.getElem?_eq_getElem (by omega)⟩
    have hm : x ∈ xs := List.mem_of_getElem? ex
    have hg := hk x hm
    obtain ⟨r1, r2⟩ := hr i x ex
    have vi : vp_in (nI i) 296 := vp_in_nI (by omega) (by decide)
    have l15 : ∀ k, k < 19 → l k ≤ 15 := ha.1.1.2.2
    have ab : ∀ bs, arr (em I0 11 1 12 h bs) 69 19 l := fun bs => ⟨⟨⟨by rw [em_r (by decide) (by decide)]; exact ha.1.1.1, fun k hk => by rw [em_r (by decide) (by decide)]; exact ha.1.1.2.1 k hk, l15⟩, fun y h1 h2 => by rw [em_r (by decide) (by decide)]; exact ha.1.2.1 y h1 h2, by rw [em_r (by decide) (by decide)]; exact ha.1.2.2⟩, fun k h1 h2 => by rw [em_r (by decide) (by decide), em_r (by decide) (by decide)]; exact ha.2 k h1 h2⟩
    have hlen : (itsB l xs i).length ≤ 22 * i := by
      have e : ∀ j, j ≤ xs.length → (itsB l xs j).length ≤ 22 * j := by
        intro j
        induction j with
        | zero => intro _; exact Nat.zero_le _
        | succ j ihj =>
          intro hj
          have e1 := ihj (by omega)
          have ey : xs[j]? = some (xs[j]'(by omega)) := List.getElem?_eq_getElem (by omega)
          rw [itsB_s ey, List.length_append]
          have := itB_len (l := l) (x := xs[j]'(by omega)) (l15 _ (hk _ (List.mem_of_getElem? ey)).1)
          omega
      exact e i (by omega)
    have sl := symB_len (s := 19) (l15 x.1 hg.1)
    have nx := ih (i + 1) (by omega)
    rw [itsB_s ex] at nx
    unfold itB at nx
    refine t_CodeWriter_sayLengths_2 zbi_11 ?_
    rw [em_r (by decide) (by decide), h3, nc (by omega), em_r (by decide) (by decide), r1]
    refine br_f (nI_ge (by omega) (by omega)) ⟨vi, v_Code_say zco_69 (by decide) (Nat.le_refl _) (by decide) (ab _) hg.1 (hl x hm) em_c (by omega) ⟨vi, ?_⟩⟩
    rw [em_app (by decide), em_r (by decide) (by decide), em_r (by decide) (by decide), r1, r2]
    have g48 : ∀ bs : List Nat, bs.length ≤ 6600 → (if x.1 = 18 then bsv (nI (mor x)) 7 else []) = (if x.1 = 17 then [] else if x.1 = 18 then bsv (nI (mor x)) 7 else []) → g_CodeWriter_sayLengths_2 c J 11 (nI (i + 1)) (em I0 11 1 12 h (bs ++ (if x.1 = 18 then bsv (nI (mor x)) 7 else []))) P T → g_CodeWriter_sayLengths_48 c J 11 (nI i) (em I0 11 1 12 h bs) P T := by
      intro bs hb _ hQ
      refine t_CodeWriter_sayLengths_48 zbi_11 ⟨vi, ?_⟩
      rw [nc (by omega), em_r (by decide) (by decide), em_r (by decide) (by decide), r1, r2, nI_add]
      refine pk_eq x.1 18 (fun e => ⟨vi, ?_⟩) (fun e => ?_) rfl rfl (by have := hg.1; omega) (by decide)
      · rw [if_pos e] at hQ
        rw [pk_sub (hg.2.2 e)]
        refine v_Bits_put zbi_11 em_c (by omega) ?_
        rw [em_app (by decide)]
        have em : mor x = x.2 - 11 := by unfold mor; rw [if_neg (by omega), if_pos e]
        rw [em] at hQ
        exact hQ
      · rw [if_neg e, List.append_nil] at hQ
        exact hQ
    refine pk_eq x.1 17 (fun e => ⟨vi, ?_⟩) (fun e => ?_) rfl rfl (by have := hg.1; omega) (by decide)
    · rw [if_pos e] at nx
      rw [pk_sub (hg.2.1 e)]
      refine v_Bits_put zbi_11 em_c (by rw [List.length_append]; omega) ?_
      rw [em_app (by decide)]
      have em : mor x = x.2 - 3 := by unfold mor; rw [if_pos e]
      rw [em, ← List.append_assoc] at nx
      refine g48 _ ?_ (by rw [if_neg (by omega), if_pos e]) ?_
      · rw [List.length_append, List.length_append, bsv_len]; omega
      · rw [if_neg (by omega), List.append_nil]; exact nx
    · rw [if_neg e] at nx
      rw [← List.append_assoc] at nx
      refine g48 _ ?_ (by rw [if_neg e]) nx
      rw [List.length_append]; omega
theorem v_smC {I : zJ} {P : zJ → Prop} (hg : cga I xs) (h6 : I 69 6 = nI 19) (hk : ∀ x, x ∈ xs → gk x) (h0 : 0 < xs.length) (hx : xs.length ≤ 296) (r1 : I 1 = fun j => zSO.getD j 0) (h1 : I 11 1 = nI h) (hh : h + 20000 < 2 ^ 30)
    (hP : ∀ I1, fr [69, 70, 71, 72, 73, 74, 75] I I1 → P (em I1 11 1 12 h (smB xs))) : c_CodeWriter_saySmall c J 11 I (fun I1 => c_CodeWriter_sayLengths c J 11 I1 P T) T := by
  have hcd : cde I 69 19 (us1 (hask xs)) := ⟨h6, hg.2.2, fun k _ => by rcases us1_01 (hask xs) k with e | e <;> omega⟩
  refine t_CodeWriter_saySmall zbi_11 (v_balance zco_69 (Nat.le_refl _) (by decide) hcd fun I1 f1 d1 u1 => ?_)
  refine v_Code_arrange zco_69 (Nat.le_refl _) (by decide) d1 fun I2 f2 a2 => ?_
  have f12 : fr [69, 70, 71, 72, 73, 74, 75] I I2 := fr_t (fr_s f1 (by simp)) (fr_s f2 (by simp))
  have h11 : I2 11 1 = nI h := by rw [f12 11 (by decide)]; exact h1
  have fin : c_Bits_put c J 11 (nI 15) (nI 4) I2 (fun I4 => g_CodeWriter_saySmall_24 c J 11 (nI 0) I4 (fun I1 => c_CodeWriter_sayLengths c J 11 I1 P T) T) T := by
    refine v_Bits_put zbi_11 h11 (by omega) ?_
    have ord : ∀ (n i : Nat), i + n = 19 → g_CodeWriter_saySmall_24 c J 11 (nI i) (em I2 11 1 12 h (bsv (nI 15) 4 ++ ordB (bal (hask xs) 19) i)) (fun I1 => c_CodeWriter_sayLengths c J 11 I1 P T) T := by
      intro n
      induction n with
      | zero =>
        intro i hi
        obtain rfl : i = 19 := by omega
        refine t_CodeWriter_saySmall_24 zbi_11 (br_t (by decide) (t_CodeWriter_sayLengths zbi_11 ?_))
        have hq := l_smC2 (c := c) (J := J) (T := T) (P := P) (h := h + (bsv (nI 15) 4 ++ ordB (bal (hask xs) 19) 19).length) (I0 := em I2 11 1 12 h (bsv (nI 15) 4 ++ ordB (bal (hask xs) 19) 19)) (l := bal (hask xs) 19) (xs := xs) ?_ (fun x hm => bal_pos (by decide) (hk x hm).1 (hask_mem hm)) hk hx ?_ ?_ ?_ ?_ xs.length 0 (by omega)
        · have e0 : itsB (bal (hask xs) 19) xs 0 = [] := rfl
          rw [e0, em_0 em_c] at hq
          exact hq
        · refine ⟨⟨⟨?_, ?_, a2.1.1.2.2⟩, ?_, ?_⟩, ?_⟩
          · rw [em_r (by decide) (by decide)]; exact a2.1.1.1
          · intro k hk; rw [em_r (by decide) (by decide)]; exact a2.1.1.2.1 k hk
          · intro y y1 y2; rw [em_r (by decide) (by decide)]; exact a2.1.2.1 y y1 y2
          · rw [em_r (by decide) (by decide)]; exact a2.1.2.2
          · intro k k1 k2; rw [em_r (by decide) (by decide), em_r (by decide) (by decide)]; exact a2.2 k k1 k2
        · rw [em_r (by decide) (by decide), f12 68 (by decide)]; exact hg.1
        · intro i x ex
          rw [em_r (by decide) (by decide), em_r (by decide) (by decide), f12 76 (by decide), f12 77 (by decide)]; exact hg.2.1 i x ex
        · rw [List.length_append, bsv_len, ordB_len]; omega
        · rw [em_app (by decide), List.append_assoc]
          exact hP I2 f12
      | succ n ih =>
        intro i hi
        have zl19 : zord i < 19 := (by decide : ∀ i, i < 19 → zord i < 19) i (by omega)
        have e1 : I2 1 i = nI (zord i) := by rw [f12 1 (by decide), r1]; exact zso_eq i (by omega)
        refine t_CodeWriter_saySmall_24 zbi_11 (br_f (nI_ge (by omega) (by decide)) ⟨vp_in_nI (by omega) (by decide), ?_⟩)
        rw [nc (by omega), em_r (by decide) (by decide), e1, nc (by omega), em_r (by decide) (by decide), a2.1.1.2.1 _ zl19, nI_add]
        refine ⟨vp_in_nI zl19 (by decide), v_Bits_put zbi_11 em_c (by rw [List.length_append, bsv_len, ordB_len]; omega) ?_⟩
        rw [em_app (by decide), List.append_assoc]
        exact ih (i + 1) (by omega)
    have := ord 19 0 (by decide)
    rw [show ordB (bal (hask xs) 19) 0 = [] from rfl, List.append_nil] at this
    exact this
  exact ⟨fun _ => fin, fun _ => fin⟩
end SMC
