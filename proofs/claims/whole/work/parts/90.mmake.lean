/-! THE REFERENCE MAKES UP what an image is said by. -/
def mrow (I : zJ) (n : Nat) (y : zIt) : Prop := I 99 n = nI y.1 ∧ (y.1 = 1 → I 100 n = nI y.2.1 ∧ I 101 n = nI y.2.2.1) ∧ (y.1 = 2 → I 100 n = nI y.2.1) ∧ (y.1 = 0 → I 100 n = y.2.2.2)
def mit (I : zJ) (ys : List zIt) : Prop := I 83 30 = nI ys.length ∧ ∀ i y, ys[i]? = some y → mrow I i y
abbrev mkS : List Nat := [93, 99, 100, 101]
abbrev mkF : List Nat := [17, 18, 30]
theorem mrow_eq {I I1 : zJ} {n : Nat} {y : zIt} (h : mrow I n y) (h1 : I1 99 n = I 99 n) (h2 : I1 100 n = I 100 n) (h3 : I1 101 n = I 101 n) : mrow I1 n y := by
  unfold mrow
  rw [h1, h2, h3]
  exact h
section MM
variable {c : zC} {J : zK} {T : Nat → zJ → Prop} {P : zJ → Prop} {b tot i : Nat} {f C : Nat → Int32}
theorem v_runM {P : Int32 → zJ → Prop} {I : zJ} {d : Nat} (hd : 1 ≤ d) (hdi : d ≤ i) (hi : i ≤ tot) (ht : tot ≤ 64) (hf : ∀ k, k < tot → I 91 k = f k) (hP : P (nI (rnF f d (tot - i) i)) I) : c_M_run c J (nI i) (nI d) (nI tot) I P T := by
  have key : ∀ (r l : Nat), i + l + r = tot → rnF f d (tot - i) i = l + rnF f d r (i + l) → g_M_run_3 c J (nI i) (nI d) (nI tot) (nI (i + l)) I P T := by
    intro r
    induction r with
    | zero =>
      intro l hl hr
      rw [show rnF f d 0 (i + l) = 0 from rfl] at hr
      refine t_M_run_3 (br_t (nI_le (by omega) (by omega)) ?_)
      rw [pk_sub (by omega), show i + l - i = rnF f d (tot - i) i by omega]
      exact hP
    | succ r ih =>
      intro l hl hr
      rw [show rnF f d (r + 1) (i + l) = if f (i + l) = f (i + l - d) then rnF f d r (i + l + 1) + 1 else 0 from rfl] at hr
      refine t_M_run_3 (br_f (nI_ge (by omega) (by omega)) ?_)
      rw [pk_sub (a := i + l) (b := d) (by omega), nc (n := i + l) (by omega), nc (n := i + l - d) (by omega), hf _ (by omega), hf _ (by omega), nI_add]
      refine ⟨vp_in_nI (by omega) (by omega), vp_in_nI (by omega) (by omega), fun e => ?_, fun e => ?_⟩
      · rw [if_pos e] at hr
        have := ih (l + 1) (by omega) (by rw [show i + (l + 1) = i + l + 1 by omega]; omega)
        rw [show i + (l + 1) = i + l + 1 by omega] at this
        exact this
      · rw [if_neg e] at hr
        rw [pk_sub (by omega), show i + l - i = rnF f d (tot - i) i by omega]
        exact hP
  exact t_M_run (key (tot - i) 0 (by omega) (by rw [Nat.zero_add]; rfl))
theorem v_comeW {I : zJ} {k : Nat} (hb : b ≤ 4) (h19 : I 83 19 = nI (zcc b)) (hk : k < 64) (hP : ∀ I1, (I1 = I ∨ I1 = xup I 93 (hsh b (I 91 k)) (I 91 k)) → (0 < b → I1 = xup I 93 (hsh b (I 91 k)) (I 91 k)) → P I1) : c_M_come c J (nI k) (I 91 k) I P T := by
  have hz := zcc_le hb
  have hs := hsh_lt b hb (I 91 k)
  refine t_M_come ⟨vp_in_nI hk (by decide), ?_⟩
  rw [nc (n := k) (by omega), xup_id rfl]
  refine nm_e ?_
  rw [h19]
  by_cases e : b = 0
  · have : zcc b = 0 := by unfold zcc; rw [if_pos e]
    rw [this]
    exact br_t (by decide) (hP I (Or.inl rfl) (fun z => absurd z (by omega)))
  · have hz2 : zcc b = 2 ^ b := by unfold zcc; rw [if_neg e]
    have hz3 : 0 < zcc b := by rw [hz2]; exact Nat.two_pow_pos b
    refine br_f (nI_nle (by omega) (by omega)) ?_
    rw [hz2, f_mplace hb (by omega), nc (n := hsh b (I 91 k)) (by omega)]
    exact ⟨vp_in_nI hs (by decide), hP _ (Or.inr rfl) fun _ => rfl⟩
theorem l_comeM {I : zJ} {st : Nat} (hb : b ≤ 4) (h19 : I 83 19 = nI (zcc b)) (ht : tot ≤ 64) (his : i + st ≤ tot) (hf : ∀ k, k < tot → I 91 k = f k) (hC : 0 < b → ∀ k, k < 16 → I 93 k = C k)
    (hP : ∀ I1, mf [93] [] I I1 → (0 < b → ∀ k, k < 16 → I1 93 k = kpN b f st i C k) → g_M_makeUp_7 c J (nI tot) (nI (i + st)) (xup I1 83 30 (I1 83 30 + nI 1)) P T) : g_M_makeUp_262 c J (nI tot) (nI i) (nI st) (nI 0) I P T := by
  have key : ∀ (n j : Nat) (I1 : zJ) (D : Nat → Int32), j + n = st → mf [93] [] I I1 → (0 < b → ∀ k, k < 16 → I1 93 k = D k) → kpN b f n (i + j) D = kpN b f st i C → g_M_makeUp_262 c J (nI tot) (nI i) (nI st) (nI j) I1 P T := by
    intro n
    induction n with
    | zero =>
      intro j I1 D hj f1 h1 he
      obtain rfl : j = st := by omega
      refine t_M_makeUp_262 (br_t (nI_le (Nat.le_refl _) (by omega)) ?_)
      rw [nI_add]
      refine hP I1 f1 fun h0 k hk => ?_
      rw [← he]
      exact h1 h0 k hk
    | succ n ih =>
      intro j I1 D hj f1 h1 he
      refine t_M_makeUp_262 (br_f (nI_ge (by omega) (by omega)) ?_)
      rw [nI_add, nc (n := i + j) (by omega)]
      have e91 : I1 91 (i + j) = f (i + j) := by rw [f1.1 91 (by decide) (by decide)]; exact hf _ (by omega)
      refine ⟨vp_in_nI (by omega) (by decide), v_comeW hb ((f1.2 19 (by decide)).trans h19) (by omega) fun I2 o2 p2 => ?_⟩
      rw [nI_add]
      rw [e91] at o2 p2
      have f2 : mf [93] [] I I2 := by
        rcases o2 with e | e
        · rw [e]; exact f1
        · rw [e]; exact mf_u f1 (by decide) (by decide)
      refine ih (j + 1) I2 (zup D (hsh b (f (i + j))) (f (i + j))) (by omega) f2 (fun h0 k hk => ?_) he
      rw [p2 h0]
      unfold zup
      by_cases e : k = hsh b (f (i + j))
      · rw [if_pos e, e, xup_s]
      · rw [if_neg e, xup_i e]; exact h1 h0 k hk
  exact key st 0 I C (by omega) mf_0 hC rfl
/-- the item chosen: from the longest copy on -/
theorem l_choose {I : zJ} {n cp ca L D : Nat} (hb : b ≤ 4) (h19 : I 83 19 = nI (zcc b)) (ht : tot ≤ 64) (hi : i < tot) (hn : n < 64) (h30 : I 83 30 = nI n) (h17 : I 83 17 = nI cp) (h18 : I 83 18 = nI ca) (hcp : cp < 1000) (hca : ca < 1000) (hf : I 91 i = f i) (hC : 0 < b → ∀ k, k < 16 → I 93 k = C k) (hLD : 3 ≤ L ∧ L ≤ 64 ∧ 0 < D ∧ D ≤ 64 ∨ D = 0)
    (hP1 : 0 < D → ∀ I1, mf [99, 100, 101] [17, 18] I I1 → (∀ k, k < n → I1 99 k = I 99 k ∧ I1 100 k = I 100 k ∧ I1 101 k = I 101 k) → mrow I1 n (1, L, D, nI 0) → I1 83 17 = nI (cp + 1) → I1 83 18 = nI ca → g_M_makeUp_262 c J (nI tot) (nI i) (nI L) (nI 0) I1 P T)
    (hP2 : D = 0 → ∀ I1, mf [99, 100, 101] [17, 18] I I1 → (∀ k, k < n → I1 99 k = I 99 k ∧ I1 100 k = I 100 k ∧ I1 101 k = I 101 k) → mrow I1 n (pxI b C (f i)) → I1 83 17 = nI cp → I1 83 18 = nI (ca + if (pxI b C (f i)).1 = 2 then 1 else 0) → g_M_makeUp_262 c J (nI tot) (nI i) (nI 1) (nI 0) I1 P T) : g_M_makeUp_20 c J (nI tot) (nI i) (nI D) (nI L) (nI (i + 1)) I P T := by
  have hz := zcc_le hb
  have hs := hsh_lt b hb (f i)
  have vn : vp_in (nI n) 64 := vp_in_nI hn (by decide)
  have vi : vp_in (nI i) 64 := vp_in_nI (by omega) (by decide)
  have ne : ∀ {k}, k < n → k ≠ n := fun h => by omega
  rcases Nat.eq_zero_or_pos D with hD | hD
  · -- a pixel
    subst hD
    have hp := hP2 rfl
    have no : ∀ v5, ¬ (0 < b ∧ C (hsh b (f i)) = f i) → g_M_makeUp_126 c J (nI tot) (nI i) (nI 0) (nI L) v5 I P T := by
      intro v5 e
      have ey : pxI b C (f i) = (0, 0, 0, f i) := if_neg e
      rw [ey] at hp
      refine t_M_makeUp_126 (br_t (by decide) (t_M_makeUp_145 (br_t rfl ?_)))
      rw [h30, nc (n := n) (by omega)]
      refine ⟨vn, nm_e (br_t (by decide) (t_M_makeUp_173 (br_t rfl ?_)))⟩
      simp only [xup_k (show (83 : Nat) ≠ 99 by decide), xup_k (show (83 : Nat) ≠ 100 by decide), xup_k (show (91 : Nat) ≠ 99 by decide), h30, nc (n := n) (by omega), nc (n := i) (by omega), hf]
      refine ⟨vi, vn, vn, nm_e (br_t (by decide) (nm_e (br_t (by decide) (t_M_makeUp_226 (br_t (by decide) (t_M_makeUp_240 (nm_e (br_t (by decide) ?_))))))))⟩
      refine hp _ (mf_f (mf_f (mf_u (mf_u (mf_u mf_0 (by decide) (by decide)) (by decide) (by decide)) (by decide) (by decide)) (by decide)) (by decide)) (fun k hk => ⟨?_, ?_, ?_⟩) ⟨?_, fun z => absurd z (by decide : ¬ (0 : Nat) = 1), fun z => absurd z (by decide : ¬ (0 : Nat) = 2), fun _ => ?_⟩ ?_ ?_
      · rw [xup_k (by decide), xup_k (by decide), xup_k (by decide), xup_k (by decide), xup_i (ne hk)]
      · rw [xup_k (by decide), xup_k (by decide), xup_k (by decide), xup_i (ne hk), xup_k (by decide)]
      · rw [xup_k (by decide), xup_k (by decide), xup_i (ne hk), xup_k (by decide), xup_k (by decide)]
      · rw [xup_k (by decide), xup_k (by decide), xup_k (by decide), xup_k (by decide), xup_s]
      · rw [xup_k (by decide), xup_k (by decide), xup_k (by decide), xup_s]
      · rw [xup_i (by decide), xup_s, xup_k (by decide), xup_k (by decide), xup_k (by decide)]; exact h17
      · rw [xup_s, xup_i (by decide), xup_k (by decide), xup_k (by decide), xup_k (by decide)]; exact h18
    refine t_M_makeUp_20 (br_t (nI_lt (by omega) (by omega)) ?_)
    rw [h19]
    by_cases e : b = 0
    · have e0 : zcc b = 0 := by unfold zcc; rw [if_pos e]
      rw [e0]
      exact br_t (by decide) (br_t (by decide) (no _ (by omega)))
    · have hz2 : zcc b = 2 ^ b := by unfold zcc; rw [if_neg e]
      have hz3 : 0 < zcc b := by rw [hz2]; exact Nat.two_pow_pos b
      have hbp : 0 < b := by omega
      refine br_f (nI_nle (by omega) (by omega)) ⟨vi, br_f (nI_nle (by omega) (by omega)) ?_⟩
      rw [nc (n := i) (by omega), hf, hz2, f_mplace hb hbp]
      refine t_M_makeUp_106 ⟨vp_in_nI hs (by decide), vi, ?_⟩
      rw [nc (n := i) (by omega), nc (n := hsh b (f i)) (by omega), hf, hC hbp _ hs, h30]
      refine ⟨fun e2 => br_t (by decide) ?_, fun e2 => no _ (fun z => e2 z.2)⟩
      have ey : pxI b C (f i) = (2, hsh b (f i), 0, nI 0) := if_pos ⟨hbp, e2⟩
      rw [ey] at hp
      refine t_M_makeUp_145 (br_f (by decide) ?_)
      rw [nc (n := n) (by omega)]
      refine ⟨vn, nm_e (br_t (by decide) (t_M_makeUp_173 (br_f (by decide) ?_)))⟩
      simp only [xup_k (show (83 : Nat) ≠ 99 by decide), xup_k (show (83 : Nat) ≠ 100 by decide), xup_k (show (91 : Nat) ≠ 99 by decide), h30, nc (n := n) (by omega)]
      refine ⟨vn, vn, nm_e (br_t (by decide) (nm_e (br_t (by decide) (t_M_makeUp_226 (br_f (by decide) (nm_e (br_t (by decide) ?_)))))))⟩
      refine hp _ (mf_f (mf_f (mf_u (mf_u (mf_u mf_0 (by decide) (by decide)) (by decide) (by decide)) (by decide) (by decide)) (by decide)) (by decide)) (fun k hk => ⟨?_, ?_, ?_⟩) ⟨?_, fun z => absurd z (by decide : ¬ (2 : Nat) = 1), fun _ => ?_, fun z => absurd z (by decide : ¬ (2 : Nat) = 0)⟩ ?_ ?_
      · rw [xup_k (by decide), xup_k (by decide), xup_k (by decide), xup_k (by decide), xup_i (ne hk)]
      · rw [xup_k (by decide), xup_k (by decide), xup_k (by decide), xup_i (ne hk), xup_k (by decide)]
      · rw [xup_k (by decide), xup_k (by decide), xup_i (ne hk), xup_k (by decide), xup_k (by decide)]
      · rw [xup_k (by decide), xup_k (by decide), xup_k (by decide), xup_k (by decide), xup_s]
      · rw [xup_k (by decide), xup_k (by decide), xup_k (by decide), xup_s]
      · rw [xup_i (by decide), xup_s, xup_k (by decide), xup_k (by decide), xup_k (by decide)]; exact h17
      · rw [xup_s, xup_i (by decide), xup_k (by decide), xup_k (by decide), xup_k (by decide), h18, nI_add]; rfl
  · -- a copy
    have hp := hP1 hD
    have hDn : ¬ nI D ≤ nI 0 := nI_nle (by omega) (by omega)
    have hD0 : ¬ nI D = nI 0 := by rw [nI_eq (by omega) (by decide)]; omega
    have h168 : ∀ v6, g_M_makeUp_168 c J (nI tot) (nI i) (nI D) (nI L) v6 (nI n) (xup I 99 n (nI 1)) P T := by
      intro v6
      refine t_M_makeUp_168 ?_
      simp only [xup_k (show (83 : Nat) ≠ 99 by decide), xup_k (show (83 : Nat) ≠ 100 by decide), h30, nc (n := n) (by omega)]
      refine ⟨vn, vn, nm_e (br_f hDn (nm_e (br_f hD0 (t_M_makeUp_240 (nm_e (br_f hDn ?_))))))⟩
      refine hp _ (mf_f (mf_f (mf_u (mf_u (mf_u mf_0 (by decide) (by decide)) (by decide) (by decide)) (by decide) (by decide)) (by decide)) (by decide)) (fun k hk => ⟨?_, ?_, ?_⟩) ⟨?_, fun _ => ⟨?_, ?_⟩, fun z => absurd z (by decide : ¬ (1 : Nat) = 2), fun z => absurd z (by decide : ¬ (1 : Nat) = 0)⟩ ?_ ?_
      · rw [xup_k (by decide), xup_k (by decide), xup_k (by decide), xup_k (by decide), xup_i (ne hk)]
      · rw [xup_k (by decide), xup_k (by decide), xup_k (by decide), xup_i (ne hk), xup_k (by decide)]
      · rw [xup_k (by decide), xup_k (by decide), xup_i (ne hk), xup_k (by decide), xup_k (by decide)]
      · rw [xup_k (by decide), xup_k (by decide), xup_k (by decide), xup_k (by decide), xup_s]
      · rw [xup_k (by decide), xup_k (by decide), xup_k (by decide), xup_s]
      · rw [xup_k (by decide), xup_k (by decide), xup_s]
      · rw [xup_i (by decide), xup_s, xup_k (by decide), xup_k (by decide), xup_k (by decide), h17, nI_add]
      · rw [xup_s, xup_i (by decide), xup_k (by decide), xup_k (by decide), xup_k (by decide)]; exact h18
    have h126 : ∀ v5, g_M_makeUp_126 c J (nI tot) (nI i) (nI D) (nI L) v5 I P T := by
      intro v5
      refine t_M_makeUp_126 (br_f hDn ?_)
      rw [xup_k (by decide), h30, nc (n := n) (by omega)]
      exact ⟨vn, nm_e (br_f hDn (h168 _))⟩
    refine t_M_makeUp_20 (br_t (nI_lt (by omega) (by omega)) ?_)
    rw [h19]
    by_cases e : b = 0
    · have e0 : zcc b = 0 := by unfold zcc; rw [if_pos e]
      rw [e0]
      exact br_t (by decide) (br_t (by decide) (h126 _))
    · have hz2 : zcc b = 2 ^ b := by unfold zcc; rw [if_neg e]
      have hz3 : 0 < zcc b := by rw [hz2]; exact Nat.two_pow_pos b
      have hbp : 0 < b := by omega
      refine br_f (nI_nle (by omega) (by omega)) ⟨vi, br_f (nI_nle (by omega) (by omega)) ?_⟩
      rw [nc (n := i) (by omega), hf, hz2, f_mplace hb hbp]
      refine t_M_makeUp_106 ⟨vp_in_nI hs (by decide), vi, fun _ => br_f hDn ?_, fun _ => h126 _⟩
      rw [xup_k (by decide), h30, nc (n := n) (by omega)]
      exact ⟨vn, nm_e (br_f hDn (h168 _))⟩
theorem v_makeUpM {I0 : zJ} (hb : b ≤ 4) (h19 : I0 83 19 = nI (zcc b)) (ht : tot ≤ 64) (h17 : I0 83 17 = nI 0) (h18 : I0 83 18 = nI 0) (hf : ∀ k, k < tot → I0 91 k = f k) (hC0 : 0 < b → ∀ k, k < 16 → I0 93 k = nI 0)
    (hP : ∀ I1, mf mkS mkF I0 I1 → mit I1 (itms b f tot) → I1 83 17 = nI (nkd (itms b f tot) 1) → I1 83 18 = nI (nkd (itms b f tot) 2) → P I1) : c_M_makeUp c J (nI tot) I0 P T := by
  generalize hY : itms b f tot = Y at hP
  unfold itms at hY
  have key : ∀ (k i : Nat) (ys : List zIt) (I : zJ) (C : Nat → Int32), tot ≤ i + k → mf mkS mkF I0 I → mit I ys → ys.length ≤ i → i ≤ tot → I 83 17 = nI (nkd ys 1) → I 83 18 = nI (nkd ys 2) → (0 < b → ∀ k, k < 16 → I 93 k = C k) → ys ++ mkI b f tot k i C = Y → g_M_makeUp_7 c J (nI tot) (nI i) I P T := by
    intro k
    have stop : ∀ (k i : Nat) (ys : List zIt) (I : zJ) (C : Nat → Int32), tot ≤ i → i ≤ tot → mf mkS mkF I0 I → mit I ys → I 83 17 = nI (nkd ys 1) → I 83 18 = nI (nkd ys 2) → ys ++ mkI b f tot k i C = Y → g_M_makeUp_7 c J (nI tot) (nI i) I P T := by
      intro k i ys I C hi hti f1 n1 h7 h8 he
      have em : mkI b f tot k i C = [] := by
        cases k with
        | zero => rfl
        | succ k => unfold mkI; rw [if_pos hi]
      rw [em, List.append_nil] at he
      subst he
      exact t_M_makeUp_7 (br_t (nI_le hi (by omega)) (hP I f1 n1 h7 h8))
    induction k with
    | zero =>
      intro i ys I C hk f1 n1 hl hti h7 h8 h93 he
      exact stop 0 i ys I C (by omega) hti f1 n1 h7 h8 he
    | succ k ih =>
      intro i ys I C hk f1 n1 hl hti h7 h8 h93 he
      by_cases e0 : tot ≤ i
      · exact stop (k + 1) i ys I C e0 hti f1 n1 h7 h8 he
      · rw [show mkI b f tot (k + 1) i C = if tot ≤ i then [] else if 3 ≤ (bst f tot i i).1 then (1, (bst f tot i i).1, (bst f tot i i).2, nI 0) :: mkI b f tot k (i + (bst f tot i i).1) (kpN b f (bst f tot i i).1 i C) else (if 0 < b ∧ C (hsh b (f i)) = f i then (2, hsh b (f i), 0, nI 0) else (0, 0, 0, f i)) :: mkI b f tot k (i + 1) (kpN b f 1 i C) from rfl, if_neg e0] at he
        have hbl := bst_le f tot i i
        have wf : ∀ k, k < tot → I 91 k = f k := fun k hk => by rw [f1.1 91 (by decide) (by decide)]; exact hf k hk
        have w19 : I 83 19 = nI (zcc b) := (f1.2 19 (by decide)).trans h19
        have nk1 : nkd ys 1 ≤ ys.length := List.countP_le_length
        have nk2 : nkd ys 2 ≤ ys.length := List.countP_le_length
        -- behind an item's row
        have nxt : ∀ (y : zIt) (I1 I2 : zJ) (st : Nat) (C' : Nat → Int32), mf [99, 100, 101] [17, 18] I I1 → (∀ k, k < ys.length → I1 99 k = I 99 k ∧ I1 100 k = I 100 k ∧ I1 101 k = I 101 k) → mrow I1 ys.length y → I1 83 17 = nI (nkd (ys ++ [y]) 1) → I1 83 18 = nI (nkd (ys ++ [y]) 2) → mf [93] [] I1 I2 → (0 < b → ∀ k, k < 16 → I2 93 k = C' k) → 1 ≤ st → i + st ≤ tot → ys ++ [y] ++ mkI b f tot k (i + st) C' = Y → g_M_makeUp_7 c J (nI tot) (nI (i + st)) (xup I2 83 30 (I2 83 30 + nI 1)) P T := by
          intro y I1 I2 st C' g1 g2 g3 g4 g5 g6 g7 g8 g9 g10
          have e30 : I2 83 30 = nI ys.length := by rw [g6.2 30 (by decide), g1.2 30 (by decide)]; exact n1.1
          refine ih (i + st) (ys ++ [y]) _ C' (by omega) (mf_f (mf_t f1 (mf_t (mf_s g1 (by decide) (by decide)) (mf_s g6 (by decide) (by decide)))) (by decide)) ⟨?_, fun j z hj => ?_⟩ (by rw [List.length_append]; show ys.length + 1 ≤ i + st; omega) g9 ?_ ?_ (fun h0 k hk => by rw [xup_k (by decide)]; exact g7 h0 k hk) g10
          · rw [xup_s, e30, nI_add, List.length_append]; rfl
          · have far : ∀ a, a = 99 ∨ a = 100 ∨ a = 101 → (xup I2 83 30 (I2 83 30 + nI 1)) a j = I1 a j := fun a ha => by
              rw [xup_k (by omega), g6.1 a (by omega) (by simp; omega)]
            refine mrow_eq ?_ (far 99 (by omega)) (far 100 (by omega)) (far 101 (by omega))
            by_cases ej : j < ys.length
            · rw [List.getElem?_append_left ej] at hj
              obtain ⟨q1, q2, q3⟩ := g2 j ej
              exact mrow_eq (n1.2 j z hj) q1 q2 q3
            · have hi2 := (List.getElem?_eq_some_iff.mp hj).1
              rw [List.length_append] at hi2
              simp at hi2
              obtain rfl : j = ys.length := by omega
              rw [List.getElem?_append_right (Nat.le_refl _)] at hj
              simp at hj
              rw [← hj]
              exact g3
          · rw [xup_i (by decide), g6.2 17 (by decide)]; exact g4
          · rw [xup_i (by decide), g6.2 18 (by decide)]; exact g5
        -- the search
        have sea : ∀ (n d : Nat), d + n = i → g_M_makeUp_20 c J (nI tot) (nI i) (nI (if 3 ≤ (bst f tot i d).1 then (bst f tot i d).2 else 0)) (nI (if 3 ≤ (bst f tot i d).1 then (bst f tot i d).1 else 2)) (nI (d + 1)) I P T := by
          intro n
          induction n with
          | zero =>
            intro d hd
            obtain rfl : d = i := by omega
            refine l_choose (n := ys.length) (cp := nkd ys 1) (ca := nkd ys 2) (C := C) hb w19 ht (by omega) (by omega) n1.1 h7 h8 (by omega) (by omega) (wf d (by omega)) h93 ?_ (fun hD I1 g1 g2 g3 g4 g5 => ?_) (fun hD I1 g1 g2 g3 g4 g5 => ?_)
            · by_cases e1 : 3 ≤ (bst f tot d d).1
              · rw [if_pos e1, if_pos e1]; exact Or.inl ⟨e1, by omega, hbl.2.2 (by omega), by omega⟩
              · exact Or.inr (if_neg e1)
            · by_cases e1 : 3 ≤ (bst f tot d d).1
              · rw [if_pos e1] at he
                simp only [if_pos e1] at g3 ⊢
                refine l_comeM (C := C) (f := f) hb ((g1.2 19 (by decide)).trans w19) ht (by omega) (fun k hk => by rw [g1.1 91 (by decide) (by decide)]; exact wf k hk) (fun h0 k hk => by rw [g1.1 93 (by decide) (by decide)]; exact h93 h0 k hk) fun I2 f2 k2 => ?_
                refine nxt (1, (bst f tot d d).1, (bst f tot d d).2, nI 0) I1 I2 _ _ g1 g2 g3 (by rw [g4, nkd_app]; rfl) (by rw [g5, nkd_app]; rfl) f2 k2 (by omega) (by omega) ?_
                rw [List.append_assoc]
                exact he
              · rw [if_neg e1] at hD; exact absurd hD (Nat.lt_irrefl 0)
            · by_cases e1 : 3 ≤ (bst f tot d d).1
              · rw [if_pos e1] at hD
                have := hbl.2.2 (by omega)
                omega
              · rw [if_neg e1] at he
                refine l_comeM (C := C) (f := f) (st := 1) hb ((g1.2 19 (by decide)).trans w19) ht (by omega) (fun k hk => by rw [g1.1 91 (by decide) (by decide)]; exact wf k hk) (fun h0 k hk => by rw [g1.1 93 (by decide) (by decide)]; exact h93 h0 k hk) fun I2 f2 k2 => ?_
                refine nxt (pxI b C (f d)) I1 I2 1 _ g1 g2 g3 (by rw [g4, nkd_app]; unfold pxI; split <;> rfl) (by rw [g5, nkd_app]) f2 k2 (by omega) (by omega) ?_
                rw [List.append_assoc]
                exact he
          | succ n ihn =>
            intro d hd
            have hbd := bst_le f tot i d
            have hrl := rnF_le f (d + 1) (tot - i) i
            have nx := ihn (d + 1) (by omega)
            rw [show bst f tot i (d + 1) = if (bst f tot i d).1 < rnF f (d + 1) (tot - i) i then (rnF f (d + 1) (tot - i) i, d + 1) else bst f tot i d from rfl] at nx
            refine t_M_makeUp_20 (br_f (nI_nlt (by omega) (by omega)) (v_runM (f := f) (by omega) (by omega) (by omega) ht wf ?_))
            rw [nI_add]
            by_cases e1 : 3 ≤ (bst f tot i d).1
            · rw [if_pos e1, if_pos e1]
              by_cases e2 : (bst f tot i d).1 < rnF f (d + 1) (tot - i) i
              · rw [if_pos e2] at nx
                simp only [if_pos (show 3 ≤ rnF f (d + 1) (tot - i) i by omega)] at nx
                exact br_f (nI_ge (by omega) (by omega)) (br_f (nI_ge (by omega) (by omega)) nx)
              · rw [if_neg e2] at nx
                simp only [if_pos e1] at nx
                exact br_t (nI_le (by omega) (by omega)) (br_t (nI_le (by omega) (by omega)) nx)
            · rw [if_neg e1, if_neg e1]
              by_cases e3 : 3 ≤ rnF f (d + 1) (tot - i) i
              · rw [if_pos (show (bst f tot i d).1 < rnF f (d + 1) (tot - i) i by omega)] at nx
                simp only [if_pos e3] at nx
                exact br_f (nI_ge (by omega) (by omega)) (br_f (nI_ge (by omega) (by omega)) nx)
              · refine br_t (nI_le (by omega) (by omega)) (br_t (nI_le (by omega) (by omega)) ?_)
                by_cases e2 : (bst f tot i d).1 < rnF f (d + 1) (tot - i) i
                · rw [if_pos e2] at nx
                  simp only [if_neg e3] at nx
                  exact nx
                · rw [if_neg e2] at nx
                  simp only [if_neg e1] at nx
                  exact nx
        refine t_M_makeUp_7 (br_f (nI_ge (by omega) (by omega)) ?_)
        exact sea i 0 (by omega)
  refine t_M_makeUp (key tot 0 [] _ (fun _ => nI 0) (by omega) (mf_f mf_0 (by decide)) ⟨xup_s, fun i y h => (by cases h)⟩ (Nat.zero_le _) (by omega) (by rw [xup_i (by decide)]; exact h17) (by rw [xup_i (by decide)]; exact h18) (fun h0 k hk => by rw [xup_k (by decide)]; exact hC0 h0 k hk) hY)
end MM
