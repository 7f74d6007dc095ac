/-! A SYMBOL'S WORD PUT, the first bit the highest. -/
def hib (v : Int32) : Nat → List Nat
  | 0 => []
  | n + 1 => vb v n :: hib v n
theorem hib_len (v : Int32) : ∀ n, (hib v n).length = n
  | 0 => rfl
  | n + 1 => by
    show (hib v n).length + 1 = n + 1
    rw [hib_len v n]
def symW (l : Nat → Nat) (s x : Nat) : Int32 := nI (wrd l s (l x) + cntp (qe l (l x)) x)
def symB (l : Nat → Nat) (s x : Nat) : List Nat := if cntp (qp l) s = 1 then [] else hib (symW l s x) (l x)
theorem z_shr0 (x : Int32) : x >>> (nI 0 &&& 31) = x := by
  apply Int32.toInt_inj.mp
  rw [pk_shr x _ 0 (z_sl 0 (by decide))]
  simp
theorem vb_sh (v : Int32) (k : Nat) : bsv (v >>> (nI k &&& 31)) 1 = [vb v k] := by
  show [] ++ [vb (v >>> (nI k &&& 31)) 0] = [vb v k]
  rw [List.nil_append]
  unfold vb
  rw [z_shr0]
theorem bal_pos {U : Nat → Bool} {s k : Nat} (hs : s ≤ 300) (hk : k < s) (hU : U k = true) : 1 ≤ bal U s k := by
  have h1 := cntp_le U s
  have h2 := lg_sp (n := cntp U s) (by omega)
  have h3 := cntp_lt (q := U) hk hU
  unfold bal
  rw [if_pos hU]
  by_cases e2 : cntp U s = 1
  · rw [if_pos e2]; exact Nat.le_refl _
  · rw [if_neg e2]
    have h4 : 1 ≤ lg (cntp U s) := by
      rcases Nat.eq_zero_or_pos (lg (cntp U s)) with z | z
      · rw [z] at h2; simp at h2; omega
      · exact z
    by_cases e3 : cntp U k < 2 ^ lg (cntp U s) - cntp U s
    · rw [if_pos e3]
      rcases Nat.eq_or_lt_of_le h4 with z | z
      · rw [← z] at e3; simp at e3; omega
      · omega
    · rw [if_neg e3]; exact h4
section SY
variable {c : zC} {J : zK} {h : Nat} {l : Nat → Nat} {s x : Nat} {T : Nat → zJ → Prop} {P : zJ → Prop}
theorem v_Code_say {I : zJ} {o m : Nat} (hc : zco c o m) (ho : 14 ≤ o) (hs : s ≤ m) (hm : m ≤ 300) (ha : arr I o s l) (hx : x < s) (hl : 1 ≤ l x) (h1 : I 11 1 = nI h) (hh : h + 15 < 2 ^ 30) (hP : P (em I 11 1 12 h (symB l s x))) : c_Code_say c J o 11 (nI x) I P T := by
  have hl15 := ha.1.1.2.2 x hx
  have hqp := cntp_le (qp l) s
  have ew : I (o + 5) x = symW l s x := (ha.2 x hx hl).2
  have key : ∀ (n : Nat) (bs : List Nat), bs.length + n ≤ 15 → P (em I 11 1 12 h (bs ++ hib (symW l s x) n)) → g_Code_say_24 c J o 11 (nI x) (nI n - nI 1) (em I 11 1 12 h bs) P T := by
    intro n
    induction n with
    | zero =>
      intro bs hb hP
      have e : nI 0 - nI 1 = -1 := by decide
      rw [e]
      refine t_Code_say_24 hc zbi_11 (br_t (by decide) ?_)
      have : bs ++ hib (symW l s x) 0 = bs := List.append_nil bs
      rw [this] at hP
      exact hP
    | succ n ih =>
      intro bs hb hP
      rw [show nI (n + 1) - nI 1 = nI n from by rw [pk_sub (by omega), Nat.add_sub_cancel]]
      refine t_Code_say_24 hc zbi_11 (br_f (nI_nlt (Nat.zero_le _) (by omega)) ⟨vp_in_nI (by omega) (by omega), ?_⟩)
      rw [nc (by omega), em_r (by omega) (by omega), ew, (vb_eq _ n).1]
      refine v_putBit zbi_11 em_c (by omega) ?_
      show g_Code_say_24 c J o 11 (nI x) (nI n + (-1 : Int32)) (em (em I 11 1 12 h bs) 11 1 12 (h + bs.length) [vb (symW l s x) n]) P T
      rw [em_app (by decide)]
      have e : nI n + (-1 : Int32) = nI n - nI 1 := by
        show nI n + (-1 : Int32) = nI n - (1 : Int32)
        grind
      rw [e]
      refine ih (bs ++ [vb (symW l s x) n]) (by rw [List.length_append]; show bs.length + 1 + n ≤ 15; omega) ?_
      rw [List.append_assoc]
      exact hP
  refine t_Code_say hc zbi_11 ?_
  rw [ha.1.2.2, nc (by omega), ha.1.1.2.1 x hx]
  unfold symB at hP
  refine pk_eq (cntp (qp l) s) 1 (fun e => ?_) (fun e => ⟨vp_in_nI (by omega) (by omega), ?_⟩)
  · rw [if_pos e] at hP
    have := key 0 [] (by decide) hP
    rw [em_0 h1] at this
    exact this
  · rw [if_neg e] at hP
    have := key (l x) [] (by show 0 + l x ≤ 15; omega) hP
    rw [em_0 h1] at this
    exact this
theorem v_M_putSymbol {I : zJ} {k : Nat} (hd : mrd I k s l) (hx : x < s) (hl : 1 ≤ l x) (hs : s ≤ 300) (h1 : I 83 7 = nI h) (hh : h + 15 < 2 ^ 30) (hP : P (em I 83 7 86 h (symB l s x))) : c_M_putSymbol c J (nI k) (nI x) I P T := by
  obtain ⟨⟨m1, m2, m3, m4, m5⟩, m6⟩ := id hd
  have hl15 := (m5 x hx).2
  have hsl := sole_lt l s m3
  -- the bits
  have bits : ∀ (n : Nat) (bs : List Nat), bs.length + n ≤ 15 → P (em I 83 7 86 h (bs ++ hib (symW l s x) n)) → g_M_putSymbol_101 c J (symW l s x) (nI n - nI 1) (em I 83 7 86 h bs) P T := by
    intro n
    induction n with
    | zero =>
      intro bs hb hP
      have e : nI 0 - nI 1 = -1 := by decide
      rw [e]
      refine t_M_putSymbol_101 (br_t (by decide) ?_)
      have : bs ++ hib (symW l s x) 0 = bs := List.append_nil bs
      rw [this] at hP
      exact hP
    | succ n ih =>
      intro bs hb hP
      rw [show nI (n + 1) - nI 1 = nI n from by rw [pk_sub (by omega), Nat.add_sub_cancel]]
      refine t_M_putSymbol_101 (br_f (nI_nlt (Nat.zero_le _) (by omega)) (v_M_put em_c (by omega) ?_))
      rw [em_app (by decide), vb_sh]
      have e : nI n + (-1 : Int32) = nI n - nI 1 := by
        show nI n + (-1 : Int32) = nI n - (1 : Int32)
        grind
      rw [e]
      refine ih (bs ++ [vb (symW l s x) n]) (by rw [List.length_append]; show bs.length + 1 + n ≤ 15; omega) ?_
      rw [List.append_assoc]
      exact hP
  unfold symB at hP
  refine t_M_putSymbol ⟨vp_in_nI m1 (by decide), ?_⟩
  rw [nc (by omega), m6]
  by_cases e : cntp (qp l) s = 1
  · rw [if_pos e] at hP ⊢
    rw [em_0 h1] at hP
    exact br_f (nI_nlt (Nat.zero_le _) (by omega)) hP
  · rw [if_neg e] at hP ⊢
    refine br_t (by decide) ?_
    rw [f_base m1, nI_add, nc (by omega), (m5 x hx).1]
    refine ⟨vp_in_nI (by omega) (by decide), ?_⟩
    have last : g_M_putSymbol_101 c J (symW l s x) (nI (l x) - nI 1) I P T := by
      have := bits (l x) [] (by show 0 + l x ≤ 15; omega) hP
      rw [em_0 h1] at this
      exact this
    have idx : ∀ (n i : Nat), i + n = x → g_M_putSymbol_57 c J (nI k) (nI x) (nI (l x)) (nI (wrd l s (l x) + cntp (qe l (l x)) i)) (nI i) I P T := by
      intro n
      induction n with
      | zero =>
        intro i hi
        obtain rfl : i = x := by omega
        exact t_M_putSymbol_57 (br_t (nI_le (Nat.le_refl _) (by omega)) last)
      | succ n ih =>
        intro i hi
        refine t_M_putSymbol_57 (br_f (nI_ge (by omega) (by omega)) ?_)
        have h5 := m5 i (by omega)
        rw [f_base m1, nI_add, nc (by omega), h5.1, nI_add, nI_add]
        have := ih (i + 1) (by omega)
        refine ⟨vp_in_nI (by omega) (by decide), pk_eq (l i) (l x) (fun e1 => ?_) (fun e1 => ?_) rfl rfl (by omega) (by omega)⟩
        · rw [cntp_t (by simp [e1])] at this
          exact this
        · rw [cntp_f (by simp [e1])] at this
          exact this
    have wds : ∀ (n i : Nat), i + n = l x → 1 ≤ i → g_M_putSymbol_28 c J (nI k) (nI x) (nI (l x)) (nI (wrd l s i)) (nI i) I P T := by
      intro n
      induction n with
      | zero =>
        intro i hi h1i
        obtain rfl : i = l x := by omega
        refine t_M_putSymbol_28 (br_t (nI_le (Nat.le_refl _) (by omega)) ?_)
        exact idx x 0 (by omega)
      | succ n ih =>
        intro i hi h1i
        refine t_M_putSymbol_28 (br_f (nI_ge (by omega) (by omega)) (v_M_many hd.1 (by omega) ?_))
        rw [nI_add, pk_mul, nI_add]
        have e2 : 2 * (wrd l s i + cntp (qe l i) s) = wrd l s (i + 1) := by
          show _ = 2 * (wrd l s i + (if i = 0 then 0 else cntp (qe l i) s))
          rw [if_neg (by omega)]
        rw [e2]
        exact ih (i + 1) (by omega) (by omega)
    exact wds (l x - 1) 1 (by omega) (Nat.le_refl _)
end SY
