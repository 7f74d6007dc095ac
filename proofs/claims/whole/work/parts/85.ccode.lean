/-! A CODE SAID: what; by the class. -/
/-- bits put, and else changed only these places -/
def cem (S : List Nat) (h : Nat) (bs : List Nat) (I I1 : zJ) : Prop := (∀ a, a ≠ 11 → a ≠ 12 → a ∉ S → I1 a = I a) ∧ (∀ f, f ≠ 1 → I1 11 f = I 11 f) ∧ I1 11 1 = nI (h + bs.length) ∧ I1 12 = dprs (I 12) h bs
def qem (S F : List Nat) (h : Nat) (bs : List Nat) (I I1 : zJ) : Prop := (∀ a, a ≠ 83 → a ≠ 86 → a ∉ S → I1 a = I a) ∧ (∀ f, f ≠ 7 → f ∉ F → I1 83 f = I 83 f) ∧ I1 83 7 = nI (h + bs.length) ∧ I1 86 = dprs (I 86) h bs
section CQ
variable {S S' F F' : List Nat} {h : Nat} {bs cs : List Nat} {I I1 I2 : zJ}
theorem cem_em : cem S h bs I (em I 11 1 12 h bs) := ⟨fun _ h1 h2 _ => em_r h1 h2, fun _ hf => em_f (by decide) hf, em_c, em_a (by decide)⟩
theorem cem_t (e1 : cem S h bs I I1) (e2 : cem S (h + bs.length) cs I1 I2) : cem S h (bs ++ cs) I I2 := ⟨fun a h1 h2 h3 => (e2.1 a h1 h2 h3).trans (e1.1 a h1 h2 h3), fun f hf => (e2.2.1 f hf).trans (e1.2.1 f hf), by rw [e2.2.2.1, List.length_append, Nat.add_assoc], by rw [e2.2.2.2, e1.2.2.2, dprs_app]⟩
theorem cem_s (e1 : cem S h bs I I1) (hs : ∀ a, a ∈ S → a ∈ S') : cem S' h bs I I1 := ⟨fun a h1 h2 h3 => e1.1 a h1 h2 fun z => h3 (hs a z), e1.2⟩
theorem cem_fr (f : fr S I I1) (h1 : 11 ∉ S) (h2 : 12 ∉ S) (e : I 11 1 = nI h) : cem S h [] I I1 := ⟨fun a _ _ h3 => f a h3, fun x _ => congrFun (f 11 h1) x, (congrFun (f 11 h1) 1).trans e, f 12 h2⟩
theorem cem_nt (f : fr S I I1) (h1 : 11 ∉ S) (h2 : 12 ∉ S) (e : I 11 1 = nI h) (e2 : cem S h bs I1 I2) : cem S h bs I I2 := cem_t (cem_fr f h1 h2 e) e2
theorem cem_tn (e1 : cem S h bs I I1) (f : fr S I1 I2) (h1 : 11 ∉ S) (h2 : 12 ∉ S) : cem S h bs I I2 := by
  have := cem_t e1 (cem_fr f h1 h2 e1.2.2.1)
  rw [List.append_nil] at this
  exact this
theorem cem_0 (e : I 11 1 = nI h) : cem S h [] I I := ⟨fun _ _ _ _ => rfl, fun _ _ => rfl, e, rfl⟩
theorem qem_em : qem S F h bs I (em I 83 7 86 h bs) := ⟨fun _ h1 h2 _ => em_r h1 h2, fun _ hf _ => em_f (by decide) hf, em_c, em_a (by decide)⟩
theorem qem_t (e1 : qem S F h bs I I1) (e2 : qem S F (h + bs.length) cs I1 I2) : qem S F h (bs ++ cs) I I2 := ⟨fun a h1 h2 h3 => (e2.1 a h1 h2 h3).trans (e1.1 a h1 h2 h3), fun f hf h3 => (e2.2.1 f hf h3).trans (e1.2.1 f hf h3), by rw [e2.2.2.1, List.length_append, Nat.add_assoc], by rw [e2.2.2.2, e1.2.2.2, dprs_app]⟩
theorem qem_s (e1 : qem S F h bs I I1) (hs : ∀ a, a ∈ S → a ∈ S') (hf : ∀ a, a ∈ F → a ∈ F') : qem S' F' h bs I I1 := ⟨fun a h1 h2 h3 => e1.1 a h1 h2 fun z => h3 (hs a z), fun f h1 h2 => e1.2.1 f h1 fun z => h2 (hf f z), e1.2.2⟩
theorem qem_mf (f : mf S F I I1) (h1 : 86 ∉ S) (h2 : 7 ∉ F) (e : I 83 7 = nI h) : qem S F h [] I I1 := ⟨fun a h3 _ h4 => f.1 a h3 h4, fun x _ h3 => f.2 x h3, (f.2 7 h2).trans e, f.1 86 (by decide) h1⟩
theorem qem_nt (f : mf S F I I1) (h1 : 86 ∉ S) (h2 : 7 ∉ F) (e : I 83 7 = nI h) (e2 : qem S F h bs I1 I2) : qem S F h bs I I2 := qem_t (qem_mf f h1 h2 e) e2
theorem qem_tn (e1 : qem S F h bs I I1) (f : mf S F I1 I2) (h1 : 86 ∉ S) (h2 : 7 ∉ F) : qem S F h bs I I2 := by
  have := qem_t e1 (qem_mf f h1 h2 e1.2.2.1)
  rw [List.append_nil] at this
  exact this
end CQ
def usd (U : Nat → Bool) (s : Nat) : Nat → Bool := if cntp U s = 0 then (fun k => decide (k = 0)) else U
def cdL (U : Nat → Bool) (s : Nat) : Nat → Nat := bal (usd U s) s
def fewB (n : Nat) (q : Nat → Nat) : List Nat := bsv (nI n - nI 1) 1 ++ bsv (nI 1) 1 ++ bsv (nI (q 0)) 8 ++ (if n = 2 then bsv (nI (q 1)) 8 else [])
def cdB (U : Nat → Bool) (s : Nat) : List Nat := if cntp (usd U s) s ≤ 2 ∧ nthp (usd U s) (cntp (usd U s) s - 1) s < 256 then bsv (nI 1) 1 ++ fewB (cntp (usd U s) s) (fun j => nthp (usd U s) j s) else bsv (nI 0) 1 ++ smB (gl (cdL U s) s 0 0)
theorem usd_0 {U : Nat → Bool} {s : Nat} (h : cntp U s = 0) : usd U s = fun k => decide (k = 0) := if_pos h
theorem usd_1 {U : Nat → Bool} {s : Nat} (h : ¬ cntp U s = 0) : usd U s = U := if_neg h
theorem cnt_0 : ∀ s, 0 < s → cntp (fun k => decide (k = 0)) s = 1
  | 0, h => absurd h (by decide)
  | 1, _ => rfl
  | s + 2, _ => by
    rw [cntp_f (by simp)]
    exact cnt_0 (s + 1) (by omega)
theorem usd_pos {U : Nat → Bool} {s : Nat} (hs : 0 < s) : 1 ≤ cntp (usd U s) s := by
  by_cases e : cntp U s = 0
  · rw [usd_0 e, cnt_0 s hs]; exact Nat.le_refl _
  · rw [usd_1 e]; omega
theorem cnt_z {U : Nat → Bool} {s k : Nat} (h : cntp U s = 0) (hk : k < s) : ¬ U k = true := fun z => by
  have := cntp_lt (q := U) hk z
  omega
theorem bal_0 {V : Nat → Bool} {s k : Nat} (h : ¬ V k = true) : bal V s k = 0 := by unfold bal; rw [if_neg h]
theorem qp_bal {V : Nat → Bool} {s : Nat} (hs : s ≤ 300) : cntp (qp (bal V s)) s = cntp V s := cntp_congr s fun k hk => by
  cases e : V k with
  | true => have := bal_pos hs hk e; simp; omega
  | false => simp [bal_0 (V := V) (s := s) (k := k) (by simp [e])]
theorem bal_12 {V : Nat → Bool} {s k : Nat} (h : cntp V s = 1 ∨ cntp V s = 2) : bal V s k = us1 V k := by
  unfold bal us1
  by_cases e : V k = true
  · rw [if_pos e, if_pos e]
    rcases h with h | h
    · rw [if_pos h]
    · rw [if_neg (by omega), h]; rfl
  · rw [if_neg e, if_neg e]
theorem cdB_len {U : Nat → Bool} {s : Nat} (hs : s ≤ 296) : (cdB U s).length ≤ 7001 := by
  unfold cdB
  by_cases e : cntp (usd U s) s ≤ 2 ∧ nthp (usd U s) (cntp (usd U s) s - 1) s < 256
  · rw [if_pos e, List.length_append, bsv_len]
    unfold fewB
    rw [List.length_append, List.length_append, List.length_append, bsv_len, bsv_len, bsv_len]
    by_cases e2 : cntp (usd U s) s = 2
    · rw [if_pos e2, bsv_len]; omega
    · rw [if_neg e2]; show 1 + (1 + 1 + 8 + 0) ≤ _; omega
  · rw [if_neg e, List.length_append, bsv_len]
    have h1 := gl_len (cdL U s) s 0 0
    have := smB_len (xs := gl (cdL U s) s 0 0) (by omega)
    omega
section CC
variable {c : zC} {J : zK} {T : Nat → zJ → Prop} {P : zJ → Prop} {h n o m s : Nat} {q : Nat → Nat} {U V : Nat → Bool}
theorem few_sorted {I : zJ} (ha : arr I o s (bal V s)) (hs : s ≤ 300) (h12 : cntp V s = 1 ∨ cntp V s = 2) {j : Nat} (hj : j < cntp V s) : I (o + 6) j = nI (nthp V j s) := by
  obtain ⟨h1, h2, h3⟩ := nthp_spec hj
  have hb : bal V s (nthp V j s) = 1 := by rw [bal_12 h12]; unfold us1; rw [if_pos h2]
  have h4 := (ha.2 _ h1 (by omega)).1
  have hsp : spl (bal V s) s (nthp V j s) = j := by
    unfold spl
    rw [hb, cq_1, Nat.zero_add, ← h3]
    rw [h3]
    refine Eq.trans (cntp_congr _ fun k _ => ?_) h3
    show decide (bal V s k = 1) = V k
    rw [bal_12 h12]
    unfold us1
    cases e : V k <;> simp [e]
  rw [hsp] at h4
  exact h4
theorem v_sayFew {I : zJ} (hc : zco c o m) (ho : 14 ≤ o) (hm : m ≤ 300) (hm2 : 2 ≤ m) (h7 : I o 7 = nI n) (hn : n = 1 ∨ n = 2) (hq : ∀ j, j < n → I (o + 6) j = nI (q j)) (h1 : I 11 1 = nI h) (hh : h + 20000 < 2 ^ 30) (hP : P (em I 11 1 12 h (fewB n q))) : c_CodeWriter_sayFew c J 11 o I P T := by
  unfold fewB at hP
  refine t_CodeWriter_sayFew zbi_11 hc (v_Bits_put zbi_11 h1 (by omega) (v_Bits_put zbi_11 em_c (by rw [bsv_len]; omega) ?_))
  rw [em_app (by decide), h7]
  refine t_CodeWriter_sayFew_19 zbi_11 hc ?_
  rw [em_r (by omega) (by omega), h7, em_r (by omega) (by omega), nc (by decide), hq 0 (by omega), nI_add]
  refine br_f (nI_nle (by omega) (by omega)) ⟨vp_in_nI (by omega) (by omega), v_Bits_put zbi_11 em_c (by rw [List.length_append, bsv_len, bsv_len]; omega) ?_⟩
  rw [em_app (by decide)]
  refine t_CodeWriter_sayFew_19 zbi_11 hc ?_
  rw [em_r (by omega) (by omega), h7, em_r (by omega) (by omega), nc (by decide), nI_add]
  rcases hn with e | e
  · subst e
    rw [if_neg (by decide), List.append_nil] at hP
    exact br_t (by decide) hP
  · subst e
    rw [if_pos rfl] at hP
    rw [hq 1 (by omega)]
    refine br_f (by decide) ⟨vp_in_nI (by omega) (by omega), v_Bits_put zbi_11 em_c (by rw [List.length_append, List.length_append, bsv_len, bsv_len, bsv_len]; omega) ?_⟩
    rw [em_app (by decide)]
    refine t_CodeWriter_sayFew_19 zbi_11 hc ?_
    rw [em_r (by omega) (by omega), h7]
    exact br_t (by decide) hP
abbrev cdSx (o : Nat) : List Nat := [o, o + 1, o + 2, o + 3, o + 4, o + 5, o + 6, 68, 69, 70, 71, 72, 73, 74, 75, 76, 77]
theorem v_CW_say {I : zJ} (hc : zco c o m) (ho : 14 ≤ o) (h60 : o + 6 < 60) (hs : s ≤ m) (hm : m ≤ 296) (hm2 : 2 ≤ m) (h0s : 0 < s) (h0 : cde I o s (us1 U)) (r1 : I 1 = fun j => zSO.getD j 0) (h1 : I 11 1 = nI h) (hh : h + 30000 < 2 ^ 30)
    (hP : ∀ I1, cem (cdSx o) h (cdB U s) I I1 → arr I1 o s (cdL U s) → P I1) : c_CodeWriter_say c J 11 o I P T := by
  refine t_CodeWriter_say zbi_11 hc (v_balance hc hs (by omega) h0 fun I1 f1 d1 u1 => ?_)
  have hcu := cntp_le U s
  have hcv := cntp_le (usd U s) s
  have hv1 := usd_pos (U := U) h0s
  have hqb := qp_bal (V := usd U s) (s := s) (by omega)
  -- behind the arranging
  have aft : ∀ (I2 I3 : zJ) (v : Int32), fr (cdSx o) I I2 → fr [o, o + 1, o + 2, o + 3, o + 5, o + 6] I2 I3 → arr I3 o s (cdL U s) → g_CodeWriter_say_22 c J 11 o v I3 P T := by
    intro I2 I3 v f2 f3 a3
    have f23 : fr (cdSx o) I I3 := fr_t f2 (fr_s f3 (by simp))
    have h11 : I3 11 1 = nI h := by rw [f23 11 (by simp; omega)]; exact h1
    have h7 : I3 o 7 = nI (cntp (usd U s) s) := by rw [a3.1.2.2]; unfold cdL; rw [hqb]
    have full : ¬ (cntp (usd U s) s ≤ 2 ∧ nthp (usd U s) (cntp (usd U s) s - 1) s < 256) → g_CodeWriter_say_63 c J 11 o (nI 0) 11 I3 P T := by
      intro hf
      unfold cdB at hP
      rw [if_neg hf] at hP
      refine t_CodeWriter_say_63 zbi_11 hc zbi_11 (v_Bits_put zbi_11 h11 (by omega) (t_CodeWriter_say_68 zbi_11 hc (br_t rfl ?_)))
      refine t_CodeWriter_gatherLengths hc (v_Code_clear zco_69 (by decide) (Nat.le_refl _) fun I4 f4 d4 => ?_)
      have f04 : ∀ a, a ≠ 11 → a ≠ 12 → a ≠ 68 → a ≠ 69 → a ≠ 73 → I4 a = I3 a := fun a z1 z2 z3 z4 z5 => by
        rw [f4 a (by simp; omega), xup_r z3]
        exact em_r z1 z2
      have hl9 : ∀ k, k < s → cdL U s k ≤ 9 := fun k _ => bal_le (by omega)
      refine l_glC (I0 := I4) (l := cdL U s) hc ho h60 hs hm ?_ ?_ hl9 s 0 0 [] I4 (by omega) (by omega) (by show 0 + 0 ≤ 0; omega) fr_0 ?_ (fun I5 f5 g5 => ?_)
      · rw [f04 o (by omega) (by omega) (by omega) (by omega) (by omega)]; exact a3.1.1.1
      · intro k hk
        rw [f04 (o + 4) (by omega) (by omega) (by omega) (by omega) (by omega)]; exact a3.1.1.2.1 k hk
      · refine ⟨?_, fun i x ex => (by cases ex), fun j hj => ?_⟩
        · rw [f4 68 (by simp), xup_s]; rfl
        · exact d4.2.1 j hj
      · rw [List.nil_append] at g5
        have hgk := gl_ok (cdL U s) s 0 0 (fun k hk => hl9 k (by omega))
        have hne := gl_ne (cdL U s) s 0 0 (by omega)
        have hgl := gl_len (cdL U s) s 0 0
        have f3e : cem (cdSx o) h (bsv (nI 0) 1) I (em I3 11 1 12 h (bsv (nI 0) 1)) := cem_nt f23 (by simp; omega) (by simp; omega) h1 cem_em
        have f3g : cem (cdSx o) h (bsv (nI 0) 1) I I5 := cem_tn (cem_tn (cem_tn f3e (fr_u (k := 68) (i := 3) (v := nI 0) fr_0 (by simp)) (by simp; omega) (by simp; omega)) (fr_s f4 (by simp)) (by simp; omega) (by simp; omega)) (fr_s f5 (by simp)) (by simp; omega) (by simp; omega)
        refine v_smC (h := h + 1) g5 ?_ hgk hne (by omega) ?_ ?_ (by omega) (fun I6 f6 => ?_)
        · rw [f5 69 (by decide)]; exact d4.1
        · rw [f5 1 (by decide), f04 1 (by decide) (by decide) (by decide) (by decide) (by decide), f23 1 (by simp; omega)]; exact r1
        · have := f3g.2.2.1
          rw [bsv_len] at this
          exact this
        · have f3h : cem (cdSx o) h (bsv (nI 0) 1) I I6 := cem_tn f3g (fr_s f6 (by simp)) (by simp; omega) (by simp; omega)
          refine hP _ (cem_t f3h ?_) ?_
          · rw [bsv_len]; exact cem_em
          · have fa : ∀ a, a ≠ 11 → a ≠ 12 → (a < 68 ∨ 77 < a) → em I6 11 1 12 (h + 1) (smB (gl (cdL U s) s 0 0)) a = I3 a := fun a z1 z2 z3 => by
              rw [em_r z1 z2, f6 a (by simp; omega), f5 a (by simp; omega)]
              exact f04 a z1 z2 (by omega) (by omega) (by omega)
            refine ⟨⟨⟨?_, ?_, a3.1.1.2.2⟩, ?_, ?_⟩, ?_⟩
            · rw [fa o (by omega) (by omega) (by omega)]; exact a3.1.1.1
            · intro k hk; rw [fa (o + 4) (by omega) (by omega) (by omega)]; exact a3.1.1.2.1 k hk
            · intro y y1 y2; rw [fa (o + 1) (by omega) (by omega) (by omega)]; exact a3.1.2.1 y y1 y2
            · rw [fa o (by omega) (by omega) (by omega)]; exact a3.1.2.2
            · intro k k1 k2; rw [fa (o + 6) (by omega) (by omega) (by omega), fa (o + 5) (by omega) (by omega) (by omega)]; exact a3.2 k k1 k2
    refine t_CodeWriter_say_22 zbi_11 hc ?_
    rw [h7, pk_sub hv1, nc (by omega)]
    refine pk_lt 2 (cntp (usd U s) s) (fun e => br_t rfl (full (by omega))) (fun e => ⟨vp_in_nI (by omega) (by omega), ?_⟩) rfl rfl (by decide) (by omega)
    have hsr := few_sorted a3 (by omega) (by omega) (j := cntp (usd U s) s - 1) (by omega)
    have hlt := (nthp_spec (q := usd U s) (off := cntp (usd U s) s - 1) (s := s) (by omega)).1
    rw [hsr]
    refine pk_le 256 (nthp (usd U s) (cntp (usd U s) s - 1) s) (fun e2 => br_t rfl (full (by omega))) (fun e2 => br_f (by decide) ?_) rfl rfl (by decide) (by omega)
    have hfew : cntp (usd U s) s ≤ 2 ∧ nthp (usd U s) (cntp (usd U s) s - 1) s < 256 := ⟨by omega, by omega⟩
    unfold cdB at hP
    rw [if_pos hfew] at hP
    refine t_CodeWriter_say_59 zbi_11 hc zbi_11 (v_Bits_put zbi_11 h11 (by omega) (t_CodeWriter_say_68 zbi_11 hc (br_f (by decide) ?_)))
    refine v_sayFew (n := cntp (usd U s) s) (q := fun j => nthp (usd U s) j s) hc ho (by omega) hm2 (by rw [em_r (by omega) (by omega)]; exact h7) (by omega) (fun j hj => by rw [em_r (by omega) (by omega)]; exact few_sorted a3 (by omega) (by omega) hj) em_c (by rw [bsv_len]; omega) ?_
    rw [em_app (by decide)]
    refine hP _ (cem_nt f23 (by simp; omega) (by simp; omega) h1 cem_em) ?_
    refine ⟨⟨⟨?_, ?_, a3.1.1.2.2⟩, ?_, ?_⟩, ?_⟩
    · rw [em_r (by omega) (by omega)]; exact a3.1.1.1
    · intro k hk; rw [em_r (by omega) (by omega)]; exact a3.1.1.2.1 k hk
    · intro y y1 y2; rw [em_r (by omega) (by omega)]; exact a3.1.2.1 y y1 y2
    · rw [em_r (by omega) (by omega)]; exact a3.1.2.2
    · intro k k1 k2; rw [em_r (by omega) (by omega), em_r (by omega) (by omega)]; exact a3.2 k k1 k2
  rw [u1]
  have fI1 : fr (cdSx o) I I1 := fr_s f1 (by simp)
  refine pk_eq (cntp U s) 0 (fun e => ⟨vp_in_nI (by omega) (by omega), ?_⟩) (fun e => ?_) rfl rfl (by omega) (by decide)
  · have cd2 : cde (xup I1 (o + 4) 0 (nI 1)) o s (cdL U s) := by
      refine ⟨by rw [xup_k (by omega)]; exact d1.1, fun k hk => ?_, fun k _ => Nat.le_trans (bal_le (by omega)) (by decide)⟩
      unfold cdL
      rw [usd_0 e]
      by_cases ek : k = 0
      · rw [ek, xup_s]
        unfold bal
        rw [if_pos (by simp), if_pos (cnt_0 s h0s)]
      · rw [xup_i ek, bal_0 (by simp [ek]), d1.2.1 k hk, bal_0 (cnt_z e hk)]
    exact v_Code_arrange hc hs (by omega) cd2 fun I3 f3 a3 => ⟨fun _ => aft _ I3 _ (fr_u fI1 (by simp)) f3 a3, fun _ => aft _ I3 _ (fr_u fI1 (by simp)) f3 a3⟩
  · have cd2 : cde I1 o s (cdL U s) := by unfold cdL; rw [usd_1 e]; exact d1
    exact v_Code_arrange hc hs (by omega) cd2 fun I3 f3 a3 => ⟨fun _ => aft _ I3 _ fI1 f3 a3, fun _ => aft _ I3 _ fI1 f3 a3⟩
end CC
