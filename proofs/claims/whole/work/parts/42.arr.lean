/-! A CODE OF THE CLASS, arranged and heard. -/
theorem z_ss (a b d : Int32) : a - b - d = a - (b + d) := by grind
theorem z_s0 (a b : Int32) : a - b = nI 0 ↔ a = b := by
  constructor
  · intro h
    have h2 : a = a - b + b := by grind
    rw [h2, h]
    show (0 : Int32) + b = b
    grind
  · intro h
    rw [h]
    show b - b = (0 : Int32)
    grind
theorem ql_mono (l : Nat → Nat) (s x : Nat) : ∀ n, cntp (ql l x) s ≤ cntp (ql l (x + n)) s
  | 0 => Nat.le_refl _
  | n + 1 => by
    have h := ql_mono l s x n
    by_cases h0 : 0 < x + n
    · have := cq_s l s (x + n) h0
      rw [← Nat.add_assoc, this]; omega
    · obtain rfl : x = 0 := by omega
      obtain rfl : n = 0 := by omega
      rw [cq_1]
      have : cntp (ql l 0) s = 0 := by
        clear h h0
        induction s with
        | zero => rfl
        | succ s ih => rw [cntp_f (by simp), ih]
      omega
theorem ql_le (l : Nat → Nat) (s x : Nat) (h : ∀ k, k < s → l k ≤ 15) (hx : x ≤ 16) : cntp (ql l x) s ≤ cntp (qp l) s := by
  have := ql_mono l s x (16 - x)
  rw [show x + (16 - x) = 16 by omega, cq_p l s 16 fun k hk => by have := h k hk; omega] at this
  exact this
theorem spl_lt {l : Nat → Nat} {s k : Nat} (h : ∀ k, k < s → l k ≤ 15) (hk : k < s) (h0 : 0 < l k) : spl l s k < cntp (ql l (l k + 1)) s ∧ cntp (ql l (l k)) s ≤ spl l s k := by
  unfold spl
  have h1 := cntp_lt (q := qe l (l k)) hk (by simp)
  rw [cq_s l s (l k) h0]
  omega
theorem spl_inj {l : Nat → Nat} {s a b : Nat} (h : ∀ k, k < s → l k ≤ 15) (ha : a < s) (hb : b < s) (h1 : 0 < l a) (h2 : 0 < l b) (e : spl l s a = spl l s b) : a = b := by
  have ga := spl_lt h ha h1
  have gb := spl_lt h hb h2
  rcases Nat.lt_trichotomy (l a) (l b) with z | z | z
  · have := ql_mono l s (l a + 1) (l b - (l a + 1))
    rw [show l a + 1 + (l b - (l a + 1)) = l b by omega] at this
    omega
  · unfold spl at e
    rw [z] at e
    exact cntp_inj (q := qe l (l b)) (by simp [z]) (by simp) (by omega)
  · have := ql_mono l s (l b + 1) (l a - (l b + 1))
    rw [show l b + 1 + (l a - (l b + 1)) = l a by omega] at this
    omega
/-- half the first word -/
def wh (l : Nat → Nat) (s x : Nat) : Nat := wrd l s (x - 1) + (if x - 1 = 0 then 0 else cntp (qe l (x - 1)) s)
theorem wrd_wh (l : Nat → Nat) (s x : Nat) (hx : 0 < x) : wrd l s x = wh l s x * 2 := by
  obtain ⟨y, rfl⟩ : ∃ y, x = y + 1 := ⟨x - 1, by omega⟩
  show 2 * _ = _
  rw [Nat.mul_comm]
  rfl
theorem wh_s (l : Nat → Nat) (s x : Nat) (hx : 0 < x) : wh l s (x + 1) = wrd l s x + cntp (qe l x) s := by
  unfold wh
  rw [Nat.add_sub_cancel, if_neg (by omega)]
section AR
variable {c : zC} {J : zK} {o m s : Nat} {l : Nat → Nat} {T : Nat → zJ → Prop}
/-- lengths are set up: from length x on -/
theorem l_Code_arr14 {P : Int32 → zJ → Prop} {I0 : zJ} (hc : zco c o m) (h0 : cnd I0 o s l) (hs : s ≤ 300)
    (hP : ∀ I1, fr [o + 2, o + 3] I0 I1 → (∀ y, 0 < y → y < 16 → I1 (o + 2) y = nI (cntp (ql l y) s) ∧ I1 (o + 3) y = nI (wrd l s y)) → g_Code_arrange_86 c J o (nI 32768 - nI (kr l s)) (nI 0) I1 P T) :
    ∀ (k x : Nat) (I : zJ), x + k = 16 → 0 < x → fr [o + 2, o + 3] I0 I → (∀ y, 0 < y → y < x → I (o + 2) y = nI (cntp (ql l y) s) ∧ I (o + 3) y = nI (wrd l s y)) →
    g_Code_arrange_14 c J o (nI (cntp (ql l x) s)) (nI (wh l s x)) (nI 32768 - nI (krl l s (x - 1))) (nI x) I P T := by
  intro k
  induction k with
  | zero =>
    intro x I hx h1 hf hy
    obtain rfl : x = 16 := by omega
    rw [show krl l s (16 - 1) = kr l s from krl_kr l s h0.1.2.2]
    exact t_Code_arrange_14 hc (br_t (by decide) (hP I hf hy))
  | succ k ih =>
    intro x I hx h1 hf hy
    refine t_Code_arrange_14 hc (br_f (nI_nlt (by omega) (by decide)) ⟨vp_in_nI (by omega) (by decide), vp_in_nI (by omega) (by decide), vp_in_nI (by omega) (by decide), nm_e ⟨vp_in_nI (by omega) (by decide), ?_⟩⟩)
    have e1 : I (o + 1) x = nI (cntp (qe l x) s) := by rw [hf _ (by simp)]; exact h0.2.1 x h1 (by omega)
    have hcl := cntp_le (qe l x) s
    have hk1 : cntp (qe l x) s * 2 ^ (15 - x) < 2 ^ 32 := by
      have : (2 : Nat) ^ (15 - x) ≤ 2 ^ 14 := Nat.pow_le_pow_right (by decide) (by omega)
      have h2 : cntp (qe l x) s * 2 ^ (15 - x) ≤ 300 * 2 ^ 14 := Nat.mul_le_mul (by omega) this
      omega
    rw [nc (by omega), pk_mul, xup_k (by omega), xup_k (by omega), e1, pk_sub (a := 15) (b := x) (by omega), pk_shlN _ (15 - x) (z_sl _ (by omega)) hk1, nI_add, nI_add, nI_add, z_ss, nI_add]
    rw [← cq_s l s x h1, ← wrd_wh l s x h1, ← wh_s l s x h1]
    have ek : krl l s (x - 1) + cntp (qe l x) s * 2 ^ (15 - x) = krl l s (x + 1 - 1) := by
      obtain ⟨y, rfl⟩ : ∃ y, x = y + 1 := ⟨x - 1, by omega⟩
      rfl
    rw [ek]
    refine ih (x + 1) _ (by omega) (by omega) (fr_u (fr_u hf (by simp)) (by simp)) ?_
    intro y h2 h3
    by_cases e : y = x
    · subst e
      rw [xup_k (by omega), xup_s, xup_s]
      exact ⟨rfl, rfl⟩
    · rw [xup_k (by omega), xup_i e, xup_i e, xup_k (by omega)]
      exact hy y h2 (by omega)
/-- the symbols in their places: from symbol i on -/
theorem l_Code_arr86 {P : Int32 → zJ → Prop} {I0 : zJ} (hc : zco c o m) (hs : s ≤ m) (hm : m ≤ 300) (h0 : cnd I0 o s l)
    (hP : ∀ I1, fr [o + 2, o + 3, o + 5, o + 6] I0 I1 → arr I1 o s l → (gd l s → P (nI 1) I1) ∧ (¬ gd l s → P (nI 0) I1)) :
    ∀ (k i : Nat) (I : zJ), i + k = s → fr [o + 2, o + 3, o + 5, o + 6] I0 I → (∀ y, 0 < y → y < 16 → I (o + 2) y = nI (cntp (ql l y) s + cntp (qe l y) i) ∧ I (o + 3) y = nI (wrd l s y + cntp (qe l y) i)) →
    (∀ k, k < i → 0 < l k → I (o + 6) (spl l s k) = nI k ∧ I (o + 5) k = nI (wrd l s (l k) + cntp (qe l (l k)) k)) →
    g_Code_arrange_86 c J o (nI 32768 - nI (kr l s)) (nI i) I P T := by
  have hqp : cntp (qp l) s ≤ s := cntp_le _ _
  intro k
  induction k with
  | zero =>
    intro i I hi hf hy hk
    obtain rfl : i = s := by omega
    have e6 : I o 6 = nI i := by rw [hf _ (by simp)]; exact h0.1.1
    have e7 : I o 7 = nI (cntp (qp l) i) := by rw [hf _ (by simp)]; exact h0.2.2
    have hd : cnd I o i l := by
      unfold cnd cde
      rw [hf o (by simp), hf (o + 4) (by simp), hf (o + 1) (by simp)]
      exact h0
    obtain ⟨g1, g2⟩ := hP I hf ⟨hd, hk⟩
    have hkr := kr_le l i
    refine t_Code_arrange_86 hc (br_t (by rw [e6]; exact nI_le (Nat.le_refl _) (by omega)) ?_)
    rw [e7]
    refine pk_eq (cntp (qp l) i) 1 (fun h => g1 (Or.inl h)) (fun h => ?_)
    refine pk_le (cntp (qp l) i) 0 (fun h2 => g2 ?_) (fun h2 => ?_)
    · intro z
      rcases z with z | z
      · exact h z
      · rw [kr_0 l i (by omega)] at z; omega
    · rw [z_s0, nI_eq (by decide) (by omega)]
      exact ⟨fun z => g1 (Or.inr z.symm), fun z => g2 fun y => y.elim h (fun y => z y.symm)⟩
  | succ k ih =>
    intro i I hi hf hy hk
    have e6 : I o 6 = nI s := by rw [hf _ (by simp)]; exact h0.1.1
    have e4 : I (o + 4) i = nI (l i) := by rw [hf _ (by simp)]; exact h0.1.2.1 i (by omega)
    have hl := h0.1.2.2 i (by omega)
    refine t_Code_arrange_86 hc (br_f (by rw [e6]; exact nI_ge (by omega) (by omega)) ⟨vp_in_nI (by omega) (by omega), ?_⟩)
    rw [nc (by omega), e4, nI_add]
    refine pk_le (l i) 0 (fun h2 => ?_) (fun h2 => ?_)
    · refine ih (i + 1) I (by omega) hf ?_ ?_
      · intro y h3 h4
        rw [cntp_f (by simp; omega)]
        exact hy y h3 h4
      · intro k hk1 hk2
        by_cases e : k = i
        · subst e; omega
        · exact hk k (by omega) hk2
    · have hsp := spl_lt h0.1.2.2 (show i < s by omega) h2
      have hq1 := ql_le l s (l i + 1) h0.1.2.2 (by omega)
      obtain ⟨y2, y3⟩ := hy (l i) h2 (by omega)
      have e2 : I (o + 2) (l i) = nI (spl l s i) := y2
      rw [nc (by omega), xup_k (by omega), xup_k (by omega), y3, e2, nc (by omega), nI_add, nI_add]
      refine ⟨vp_in_nI (by omega) (by decide), vp_in_nI (by omega) (by omega), vp_in_nI (by omega) (by decide), vp_in_nI (by omega) (by omega), ?_⟩
      refine ih (i + 1) _ (by omega) (fr_u (fr_u (fr_u (fr_u hf (by simp)) (by simp)) (by simp)) (by simp)) ?_ ?_
      · intro y h3 h4
        by_cases e : y = l i
        · subst e
          rw [xup_k (by omega), xup_k (by omega), xup_k (by omega), xup_s, xup_k (by omega), xup_s, cntp_t (by simp)]
          exact ⟨rfl, rfl⟩
        · rw [xup_k (by omega), xup_k (by omega), xup_k (by omega), xup_i e, xup_k (by omega), xup_i e, xup_k (by omega), xup_k (by omega), cntp_f (by simp; omega)]
          exact hy y h3 h4
      · intro k hk1 hk2
        by_cases e : k = i
        · subst e
          rw [xup_k (by omega), xup_k (by omega), xup_s, xup_s]
          exact ⟨rfl, rfl⟩
        · have hne : spl l s k ≠ spl l s i := fun z => e (spl_inj h0.1.2.2 (by omega) (by omega) hk2 h2 z)
          rw [xup_k (by omega), xup_k (by omega), xup_i hne, xup_k (by omega), xup_i e, xup_k (by omega), xup_k (by omega), xup_k (by omega)]
          exact hk k (by omega) hk2
theorem v_Code_arrange {P : Int32 → zJ → Prop} {I : zJ} (hc : zco c o m) (hs : s ≤ m) (hm : m ≤ 300) (h0 : cde I o s l)
    (hP : ∀ I1, fr [o, o + 1, o + 2, o + 3, o + 5, o + 6] I I1 → arr I1 o s l → (gd l s → P (nI 1) I1) ∧ (¬ gd l s → P (nI 0) I1)) : c_Code_arrange c J o I P T := by
  refine t_Code_arrange hc (v_Code_count hc hs (by omega) h0 fun I1 hf1 h1 => ?_)
  have hp := l_Code_arr14 (J := J) (P := P) (T := T) hc h1 (by omega) (fun I2 hf2 h2 => ?_) 15 1 I1 (by omega) (by omega) fr_0 (fun y h3 h4 => absurd h4 (by omega))
  · rw [cq_1, show wh l s 1 = 0 from rfl, show krl l s (1 - 1) = 0 from rfl, show nI 32768 - nI 0 = nI 32768 by decide] at hp
    exact hp
  · refine l_Code_arr86 hc hs hm h1 (fun I3 hf3 h3 => hP I3 ?_ h3) s 0 I2 (by omega) (fr_s hf2 (by simp)) ?_ (fun k hk => absurd hk (by omega))
    · exact fr_t (fr_s hf1 (by simp)) (fr_s hf3 (by simp))
    · intro y h3 h4
      exact h2 y h3 h4
/-- a word heard -/
theorem l_Code_hear {P : Int32 → zJ → Prop} {I0 : zJ} {B : Nat → Int32} {N : Nat} (hc : zco c o m) (ho : 14 ≤ o) (hb : zbi c 9) (hs : s ≤ m) (hm : m ≤ 300) (h0 : arr I0 o s l) (hN : N ≤ 5600) (hr : I0 9 1 = nI N) (hB : I0 10 = B) :
    ∀ (k x off p : Nat), x + k = 16 → 0 < x → off < 2 ^ x → p ≤ N → (∀ v q, hearL B N l s k x off p = some (v, q) → v < s → q ≤ N → P (nI v) (xup I0 9 2 (nI q))) → (∀ q, q ≤ N → hearL B N l s k x off p = none → T 100 (xup I0 9 2 (nI q))) →
    g_Code_hear_22 c J o 9 (nI (cntp (ql l x) s)) (nI off) (nI x) (xup I0 9 2 (nI p)) P T := by
  intro k
  induction k with
  | zero =>
    intro x off p hx h1 hoff hp hP hT
    obtain rfl : x = 16 := by omega
    exact t_Code_hear_22 hc hb (br_t (by decide) (hT p hp rfl))
  | succ k ih =>
    intro x off p hx h1 hoff hp hP hT
    have ho16 : off < 2 ^ 16 := Nat.lt_of_lt_of_le hoff (Nat.pow_le_pow_right (by decide) (by omega))
    have hcl := cntp_le (qe l x) s
    refine t_Code_hear_22 hc hb (br_f (nI_nlt (by omega) (by decide)) (v_Bits_number (n := 1) (B := B) hb hN (by decide) hp (by rw [xup_i (by decide)]; exact hr) xup_s (by rw [xup_r (by decide)]; exact hB) ?_ ?_))
    · intro v q hv hv2 hq hqN
      have hpN : p + 1 ≤ N := by omega
      obtain ⟨rfl, rfl⟩ : v = nb B p ∧ q = p + 1 := by
        unfold pNum at hv
        rw [if_pos hpN, num_1] at hv
        injection hv with hv
        injection hv with ha hb2
        exact ⟨ha.symm, hb2.symm⟩
      have hnb := nb_lt B p
      have e1 : I0 (o + 1) x = nI (cntp (qe l x) s) := h0.1.2.1 x h1 (by omega)
      rw [xup_2, nc (by omega), xup_k (by omega), e1, pk_mul, nI_add, nI_add, nI_add, nI_add]
      refine ⟨vp_in_nI (by omega) (by decide), ?_⟩
      have hunf : hearL B N l s (k + 1) x off p = if 2 * off + nb B p < cntp (qe l x) s then some (nthp (qe l x) (2 * off + nb B p) s, p + 1) else hearL B N l s k (x + 1) (2 * off + nb B p - cntp (qe l x) s) (p + 1) := by
        show (if p + 1 ≤ N then _ else _) = _
        rw [if_pos hpN]
      rw [hunf] at hP hT
      refine pk_le (cntp (qe l x) s) (off * 2 + nb B p) (fun h => ?_) (fun h => ?_)
      · rw [if_neg (by omega)] at hP hT
        refine ⟨vp_in_nI (by omega) (by decide), ?_⟩
        rw [pk_sub h, ← cq_s l s x h1, Nat.mul_comm off 2]
        refine ih (x + 1) _ (p + 1) (by omega) (by omega) ?_ hpN hP hT
        rw [Nat.pow_succ]
        omega
      · rw [if_pos (by omega)] at hP
        obtain ⟨n1, n2, n3⟩ := nthp_spec (q := qe l x) (off := 2 * off + nb B p) (s := s) (by omega)
        have hlx : l (nthp (qe l x) (2 * off + nb B p) s) = x := by simpa using n2
        have hsp : spl l s (nthp (qe l x) (2 * off + nb B p) s) = cntp (ql l x) s + (off * 2 + nb B p) := by
          unfold spl
          rw [hlx, n3]
          omega
        have hb1 := spl_lt h0.1.1.2.2 n1 (by rw [hlx]; exact h1)
        rw [hlx] at hb1
        have hb2 := ql_le l s (x + 1) h0.1.1.2.2 (by omega)
        have hqp : cntp (qp l) s ≤ s := cntp_le _ _
        rw [hsp] at hb1
        refine ⟨vp_in_nI (by omega) (by omega), ?_⟩
        rw [nc (by omega), xup_k (by omega), ← hsp, (h0.2 _ n1 (by rw [hlx]; exact h1)).1]
        exact hP _ _ rfl n1 hpN
    · intro hv
      have : ¬ p + 1 ≤ N := by
        intro z
        unfold pNum at hv
        rw [if_pos z] at hv
        cases hv
      refine hT p hp ?_
      show (if p + 1 ≤ N then _ else _) = _
      rw [if_neg this]
theorem v_Code_hear {P : Int32 → zJ → Prop} {I : zJ} {B : Nat → Int32} {N p : Nat} (hc : zco c o m) (ho : 14 ≤ o) (hb : zbi c 9) (hs : s ≤ m) (hm : m ≤ 300) (h0 : arr I o s l) (hN : N ≤ 5600) (hr : I 9 1 = nI N) (h2 : I 9 2 = nI p) (hB : I 10 = B) (hp : p ≤ N)
    (hP : ∀ v q, pHear B N l s p = some (v, q) → v < s → q ≤ N → P (nI v) (xup I 9 2 (nI q))) (hT : ∀ q, q ≤ N → pHear B N l s p = none → T 100 (xup I 9 2 (nI q))) : c_Code_hear c J o 9 I P T := by
  have hqp : cntp (qp l) s ≤ s := cntp_le _ _
  refine t_Code_hear hc hb ?_
  rw [h0.1.2.2]
  unfold pHear at hP hT
  refine pk_eq (cntp (qp l) s) 1 (fun h => ?_) (fun h => ?_)
  · rw [if_pos h] at hP
    obtain ⟨g1, g2⟩ := sole_pos (l := l) s (by omega)
    have hb1 := spl_lt h0.1.1.2.2 g2 g1
    have hb2 := ql_le l s (l (sole l s) + 1) h0.1.1.2.2 (by have := h0.1.1.2.2 _ g2; omega)
    have e := (h0.2 _ g2 g1).1
    rw [show spl l s (sole l s) = 0 by omega] at e
    refine ⟨vp_in_nI (by omega) (by omega), ?_⟩
    rw [e]
    have := hP _ _ rfl g2 hp
    rw [xup_id h2] at this
    exact this
  · rw [if_neg h] at hP hT
    have := l_Code_hear (J := J) hc ho hb hs hm h0 hN hr hB 15 1 0 p (by decide) (by decide) (by decide) hp hP hT
    rw [cq_1, xup_id h2] at this
    exact this
end AR
