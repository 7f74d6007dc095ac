/-! THE CLASS READS A CODE. -/
/-- nothing changed but in these places, and the stream's place -/
def cf (S : List Nat) (I I1 : zJ) : Prop := (∀ a, a ≠ 9 → a ∉ S → I1 a = I a) ∧ ∀ f, f ≠ 2 → I1 9 f = I 9 f
section CF
variable {S S' : List Nat} {I I1 I2 : zJ} {a i lo hi : Nat} {v : Int32}
theorem cf_0 : cf S I I := ⟨fun _ _ _ => rfl, fun _ _ => rfl⟩
theorem cf_t (h : cf S I I1) (h2 : cf S I1 I2) : cf S I I2 := ⟨fun a h3 h4 => (h2.1 a h3 h4).trans (h.1 a h3 h4), fun f h3 => (h2.2 f h3).trans (h.2 f h3)⟩
theorem cf_s (h : cf S I I1) (hs : ∀ a, a ∈ S → a ∈ S') : cf S' I I1 := ⟨fun a h3 h4 => h.1 a h3 fun z => h4 (hs a z), h.2⟩
theorem cf_u (h : cf S I I1) (ha : a ∈ S) (h9 : a ≠ 9) : cf S I (xup I1 a i v) := ⟨fun b h3 h4 => (xup_r (fun z : b = a => h4 (z ▸ ha))).trans (h.1 b h3 h4), fun f h3 => (xup_k h9.symm).trans (h.2 f h3)⟩
theorem cf_p (h : cf S I I1) : cf S I (xup I1 9 2 v) := ⟨fun b h3 h4 => (xup_r h3).trans (h.1 b h3 h4), fun f h3 => (xup_i h3).trans (h.2 f h3)⟩
theorem cf_fil (h : cf S I I1) (ha : a ∈ S) (h9 : a ≠ 9) : cf S I (xfil I1 a lo hi v) := ⟨fun b h3 h4 => (xfil_r (fun z : b = a => h4 (z ▸ ha))).trans (h.1 b h3 h4), fun f h3 => (congrFun (xfil_r h9.symm) f).trans (h.2 f h3)⟩
theorem cf_fr (h : fr S I I1) (h9 : 9 ∉ S) : cf S I I1 := ⟨fun a _ h4 => h a h4, fun f _ => congrFun (h 9 h9) f⟩
end CF
/-- the stream that is read, its place; the three fixed rows -/
def cst (I : zJ) (B : Nat → Int32) (N p : Nat) : Prop := N ≤ 5600 ∧ p ≤ N ∧ I 9 1 = nI N ∧ I 9 2 = nI p ∧ I 10 = B ∧ I 1 = (fun j => zSO.getD j 0) ∧ I 2 = (fun j => zNX.getD j 0) ∧ I 3 = fun j => zNY.getD j 0
theorem cst_q {I : zJ} {B : Nat → Int32} {N p q : Nat} (h : cst I B N p) (hq : q ≤ N) : cst (xup I 9 2 (nI q)) B N q := by
  obtain ⟨h1, h2, h3, h4, h5, h6, h7, h8⟩ := h
  exact ⟨h1, hq, by rw [xup_i (by decide)]; exact h3, xup_s, by rw [xup_r (by decide)]; exact h5, by rw [xup_r (by decide)]; exact h6, by rw [xup_r (by decide)]; exact h7, by rw [xup_r (by decide)]; exact h8⟩
theorem cst_a {I I1 : zJ} {B : Nat → Int32} {N p : Nat} (h : cst I B N p) (e9 : I1 9 = I 9) (e10 : I1 10 = I 10) (e1 : I1 1 = I 1) (e2 : I1 2 = I 2) (e3 : I1 3 = I 3) : cst I1 B N p := by
  unfold cst
  rw [e9, e10, e1, e2, e3]
  exact h
theorem cst_fr {S : List Nat} {I I1 : zJ} {B : Nat → Int32} {N p : Nat} (h : cst I B N p) (hf : fr S I I1) (hS : ∀ a, a ∈ S → 11 ≤ a) : cst I1 B N p :=
  cst_a h (hf _ fun z => absurd (hS _ z) (by decide)) (hf _ fun z => absurd (hS _ z) (by decide)) (hf _ fun z => absurd (hS _ z) (by decide)) (hf _ fun z => absurd (hS _ z) (by decide)) (hf _ fun z => absurd (hS _ z) (by decide))
theorem cst_u {I : zJ} {B : Nat → Int32} {N p a i : Nat} {v : Int32} (h : cst I B N p) (ha : 11 ≤ a) : cst (xup I a i v) B N p :=
  cst_a h (xup_r (by omega)) (xup_r (by omega)) (xup_r (by omega)) (xup_r (by omega)) (xup_r (by omega))
theorem cst_fil {I : zJ} {B : Nat → Int32} {N p a lo hi : Nat} {v : Int32} (h : cst I B N p) (ha : 11 ≤ a) : cst (xfil I a lo hi v) B N p :=
  cst_a h (xfil_r (by omega)) (xfil_r (by omega)) (xfil_r (by omega)) (xfil_r (by omega)) (xfil_r (by omega))
theorem cde_p {I : zJ} {o s q : Nat} {l : Nat → Nat} (h : cde I o s l) (ho : 14 ≤ o) : cde (xup I 9 2 (nI q)) o s l := by
  unfold cde
  rw [xup_r (by omega), xup_r (by omega)]
  exact h
theorem cde_cf {S : List Nat} {I I1 : zJ} {o s : Nat} {l : Nat → Nat} (h : cde I o s l) (hf : cf S I I1) (ho : 14 ≤ o) (h1 : o ∉ S) (h2 : o + 4 ∉ S) : cde I1 o s l := by
  unfold cde
  rw [hf.1 _ (by omega) h1, hf.1 _ (by omega) h2]
  exact h
theorem arr_cf {S : List Nat} {I I1 : zJ} {o s : Nat} {l : Nat → Nat} (h : arr I o s l) (hf : cf S I I1) (ho : 14 ≤ o) (h0 : o ∉ S) (h1 : o + 1 ∉ S) (h4 : o + 4 ∉ S) (h5 : o + 5 ∉ S) (h6 : o + 6 ∉ S) : arr I1 o s l := by
  unfold arr cnd cde
  rw [hf.1 _ (by omega) h0, hf.1 _ (by omega) h1, hf.1 _ (by omega) h4, hf.1 _ (by omega) h5, hf.1 _ (by omega) h6]
  exact h
section RC
variable {c : zC} {J : zK} {o m s N p n : Nat} {B : Nat → Int32} {T : Nat → zJ → Prop}
theorem r_num {I : zJ} {P : Int32 → zJ → Prop} (h : cst I B N p) (hn : n ≤ 31) (hP : ∀ v q, pNum B N n p = some (v, q) → v < 2 ^ n → q ≤ N → P (nI v) (xup I 9 2 (nI q))) (hT : pNum B N n p = none → T 100 I) : c_Bits_number c J 9 (nI n) I P T :=
  v_Bits_number zbi_9 h.1 hn h.2.1 h.2.2.1 h.2.2.2.1 h.2.2.2.2.1 (fun v q h1 h2 _ h4 => hP v q h1 h2 h4) hT
theorem r_bit {I : zJ} {P : Int32 → zJ → Prop} (h : cst I B N p) (hP : ∀ v q, pNum B N 1 p = some (v, q) → v < 2 ^ 1 → q ≤ N → P (nI v) (xup I 9 2 (nI q))) (hT : pNum B N 1 p = none → T 100 I) : c_Bits_bit c J 9 I P T :=
  v_Bits_bit zbi_9 h.1 h.2.1 h.2.2.1 h.2.2.2.1 h.2.2.2.2.1 (fun v q h1 h2 _ h4 => hP v q h1 h2 h4) hT
theorem r_few57 {I0 : zJ} {P : zJ → Prop} {a b two : Nat} (hc : zco c o m) (ho : 14 ≤ o) (hs : s ≤ m) (hm : m ≤ 300) (h0 : cde I0 o s (fun _ => 0)) (h : cst I0 B N p) (ha : a < s) (hb : b < 256) (ht : two < 2)
    (hP : ∀ I1, b < s ∧ ¬ (two = 1 ∧ a = b) → cf [o + 4] I0 I1 → cst I1 B N p → cde I1 o s (fun k => if k = a ∨ k = b then 1 else 0) → P I1) (hT : ¬ (b < s ∧ ¬ (two = 1 ∧ a = b)) → T 100 I0) : g_ImageReader_takeFew_57 c J o (nI two) (nI a) (nI b) I0 P T := by
  have fin : b < s ∧ ¬ (two = 1 ∧ a = b) → P (xup (xup I0 (o + 4) a (nI 1)) (o + 4) b (nI 1)) := by
    intro z
    refine hP _ z (cf_u (cf_u cf_0 (by simp) (by omega)) (by simp) (by omega)) (cst_u (cst_u h (by omega)) (by omega)) ⟨?_, ?_, ?_⟩
    · rw [xup_k (by omega), xup_k (by omega)]; exact h0.1
    · intro k hk
      try dsimp only
      by_cases e : k = b
      · subst e; rw [xup_s, if_pos (Or.inr rfl)]
      · rw [xup_i e]
        by_cases e2 : k = a
        · subst e2; rw [xup_s, if_pos (Or.inl rfl)]
        · rw [xup_i e2, if_neg (by omega)]; exact h0.2.1 k hk
    · intro k hk
      try dsimp only
      by_cases e : k = a ∨ k = b
      · rw [if_pos e]; decide
      · rw [if_neg e]; decide
  refine t_ImageReader_takeFew_57 hc ?_
  rw [h0.1, nc (by omega), nc (by omega)]
  refine pk_le s b (fun e => hT (by omega)) (fun e => pk_eq two 0 (fun e2 => ?_) (fun e2 => pk_eq a b (fun e3 => hT (by omega)) (fun e3 => ?_)))
  · exact ⟨vp_in_nI (by omega) (by omega), vp_in_nI (by omega) (by omega), fin ⟨e, by omega⟩⟩
  · exact ⟨vp_in_nI (by omega) (by omega), vp_in_nI (by omega) (by omega), fin ⟨e, by omega⟩⟩
theorem r_few {I : zJ} {P : zJ → Prop} (hc : zco c o m) (ho : 14 ≤ o) (hs : s ≤ m) (hm : m ≤ 300) (h0 : cde I o s (fun _ => 0)) (h : cst I B N p)
    (hP : ∀ l q I1, pFew B N s p = some (l, q) → cf [o + 4] I I1 → cst I1 B N q → cde I1 o s l → P I1) (hT : ∀ I1, pFew B N s p = none → cf [o + 4] I I1 → T 100 I1) : c_ImageReader_takeFew c J 9 o I P T := by
  refine t_ImageReader_takeFew zbi_9 hc (r_bit h (fun two p1 e1 g1 q1 => ?_) (fun e1 => hT _ (by simp only [pFew, e1]) cf_0))
  have h1 := cst_q h q1
  have key : c_Bits_bit c J 9 (xup I 9 2 (nI p1)) (fun y I6 => g_ImageReader_takeFew_19 c J 9 o (nI two) 9 y I6 P T) T := by
    refine r_bit h1 (fun wide p2 e2 g2 q2 => ?_) (fun e2 => hT _ (by simp only [pFew, e1, e2]) (cf_p cf_0))
    rw [xup_2]
    have h2 := cst_q h q2
    have key2 : ∀ n3, n3 = (if wide = 1 then 8 else 1) → c_Bits_number c J 9 (nI n3) (xup I 9 2 (nI p2)) (fun y I4 => g_ImageReader_takeFew_32 c J 9 o (nI two) y I4 P T) T := by
      intro n3 hn3
      have hn8 : n3 ≤ 8 := by
        rw [hn3]
        by_cases e : wide = 1
        · rw [if_pos e]; omega
        · rw [if_neg e]; omega
      refine r_num h2 (by omega) (fun a p3 e3 g3 q3 => ?_) (fun e3 => hT _ (by simp only [pFew, e1, e2, ← hn3, e3]) (cf_p cf_0))
      rw [xup_2]
      have h3 := cst_q h q3
      have ha : a < 256 := Nat.lt_of_lt_of_le g3 (Nat.pow_le_pow_right (by decide) hn8)
      have e6 : (xup I 9 2 (nI p3)) o 6 = nI s := by rw [xup_k (by omega)]; exact h0.1
      refine t_ImageReader_takeFew_32 zbi_9 hc (pk_eq two 0 (fun et => ?_) (fun et => ?_))
      · rw [e6]
        refine pk_le s a (fun e => hT _ ?_ (cf_p cf_0)) (fun e => ?_)
        · simp only [pFew, e1, e2, ← hn3, e3, if_neg (show ¬ two = 1 by omega)]
          rw [if_neg (by omega)]
        · refine r_few57 hc ho hs hm (cde_p h0 ho) h3 e ha (by omega) (fun I1 z f1 f2 f3 => hP _ p3 I1 ?_ (cf_t (cf_p cf_0) f1) f2 f3) (fun z => hT _ ?_ (cf_p cf_0))
          · simp only [pFew, e1, e2, ← hn3, e3, if_neg (show ¬ two = 1 by omega)]
            rw [if_pos (by omega)]
          · omega
      · have two1 : two = 1 := by omega
        refine r_num h3 (by decide) (fun b p4 e4 g4 q4 => ?_) (fun e4 => hT _ ?_ (cf_p cf_0))
        · rw [xup_2]
          have h4 := cst_q h q4
          have e6 : (xup I 9 2 (nI p4)) o 6 = nI s := by rw [xup_k (by omega)]; exact h0.1
          rw [e6]
          refine pk_le s a (fun e => hT _ ?_ (cf_p cf_0)) (fun e => ?_)
          · simp only [pFew, e1, e2, ← hn3, e3, if_pos two1, e4]
            rw [if_neg (by omega)]
          · refine r_few57 hc ho hs hm (cde_p h0 ho) h4 e (by omega) (by omega) (fun I1 z f1 f2 f3 => hP _ p4 I1 ?_ (cf_t (cf_p cf_0) f1) f2 f3) (fun z => hT _ ?_ (cf_p cf_0))
            · simp only [pFew, e1, e2, ← hn3, e3, if_pos two1, e4]
              rw [if_pos ⟨e, z⟩]
            · simp only [pFew, e1, e2, ← hn3, e3, if_pos two1, e4]
              rw [if_neg (fun y => z y.2)]
        · simp only [pFew, e1, e2, ← hn3, e3, if_pos two1, e4]
    refine t_ImageReader_takeFew_19 zbi_9 hc zbi_9 (pk_eq wide 1 (fun e => ?_) (fun e => ?_))
    · exact key2 8 (by rw [if_pos e])
    · exact key2 1 (by rw [if_neg e])
  refine pk_eq two 1 (fun e => ?_) (fun e => ?_)
  · rw [e] at key; exact key
  · rw [show two = 0 by omega] at key; exact key
theorem r_times {I : zJ} {P : Int32 → zJ → Prop} {t : Nat} (h : cst I B N p) (ht : t < 19) (hP : ∀ v q, pTimes B N t p = some (v, q) → 0 < v → v ≤ 138 → q ≤ N → P (nI v) (xup I 9 2 (nI q))) (hT : pTimes B N t p = none → T 100 I) : c_ImageReader_takeTimes c J 9 (nI t) I P T := by
  refine t_ImageReader_takeTimes zbi_9 ⟨fun e => ?_, fun e => ?_, fun e => ?_, fun e => ?_⟩
  · rw [nI_eq (by omega) (by decide)] at e
    refine r_num h (by decide) (fun v q e1 g1 q1 => ?_) (fun e1 => hT (by unfold pTimes; rw [if_pos e, e1]; rfl))
    rw [nI_add]
    exact hP _ _ (by unfold pTimes; rw [if_pos e, e1]; rfl) (by omega) (by omega) q1
  · rw [nI_eq (by omega) (by decide)] at e
    refine r_num h (by decide) (fun v q e1 g1 q1 => ?_) (fun e1 => hT (by unfold pTimes; rw [if_neg (by omega), if_pos e, e1]; rfl))
    rw [nI_add]
    exact hP _ _ (by unfold pTimes; rw [if_neg (by omega), if_pos e, e1]; rfl) (by omega) (by omega) q1
  · rw [nI_eq (by omega) (by decide)] at e
    refine r_num h (by decide) (fun v q e1 g1 q1 => ?_) (fun e1 => hT (by unfold pTimes; rw [if_neg (by omega), if_neg (by omega), if_pos e, e1]; rfl))
    rw [nI_add]
    exact hP _ _ (by unfold pTimes; rw [if_neg (by omega), if_neg (by omega), if_pos e, e1]; rfl) (by omega) (by omega) q1
  · rw [nI_toInt (by omega)] at e
    have := hP 1 p (by unfold pTimes; rw [if_neg (by omega), if_neg (by omega), if_neg (by omega)]) (by omega) (by omega) h.2.1
    rw [xup_id h.2.2.2.1] at this
    exact this
theorem zord_lt : ∀ i, zord i < 19 := by
  intro i
  by_cases h : i < 19
  · have key : ∀ i, i < 19 → zord i < 19 := by decide
    exact key i h
  · have e : zord i = 0 := by
      unfold zord
      rw [List.getD_eq_getElem?_getD, List.getElem?_eq_none (Nat.le_of_not_lt h)]
      rfl
    rw [e]
    decide
theorem zso_eq : ∀ i, i < 19 → zSO.getD i 0 = nI (zord i) := by decide
/-- the small code's lengths -/
theorem l_small {P : zJ → Prop} {I0 : zJ} {q0 : Nat} : ∀ (n i : Nat) (l : Nat → Nat) (I : zJ) (p : Nat), i + n = q0 → q0 ≤ 19 → cf [64] I0 I → cde I 60 19 l → cst I B N p →
    (∀ l1 q I1, pSmall B N n i l p = some (l1, q) → cf [64] I0 I1 → cst I1 B N q → cde I1 60 19 l1 → c_Code_arrange c J 60 I1 (fun y I2 => ((y = nI 0 → T 100 I2) ∧ (¬ (y = nI 0) → P I2))) T) →
    (∀ I1, pSmall B N n i l p = none → cf [64] I0 I1 → T 100 I1) → g_ImageReader_takeSmall_19 c J 9 (nI q0) (nI i) I P T := by
  intro n
  induction n with
  | zero =>
    intro i l I p hi hq hf h0 h hP hT
    obtain rfl : i = q0 := by omega
    exact t_ImageReader_takeSmall_19 zbi_9 (br_t (nI_le (Nat.le_refl _) (by omega)) (hP l p I rfl hf h h0))
  | succ n ih =>
    intro i l I p hi hq hf h0 h hP hT
    have e1 : I 1 i = nI (zord i) := by rw [h.2.2.2.2.2.1]; exact zso_eq i (by omega)
    have hz := zord_lt i
    refine t_ImageReader_takeSmall_19 zbi_9 (br_f (nI_ge (by omega) (by omega)) ⟨vp_in_nI (by omega) (by decide), ?_⟩)
    refine r_num h (by decide) (fun v p1 e2 g2 q2 => ?_) (fun e2 => hT _ (by simp only [pSmall, e2]) hf)
    rw [nc (by omega), e1, nc (by omega), nI_add]
    refine ⟨vp_in_nI hz (by decide), ?_⟩
    refine ih (i + 1) (fun k => if k = zord i then v else l k) _ p1 (by omega) hq (cf_u (cf_p hf) (by decide) (by decide)) ?_ (cst_u (cst_q h q2) (by decide)) ?_ ?_
    · refine ⟨?_, ?_, ?_⟩
      · rw [xup_k (by decide), xup_k (by decide)]; exact h0.1
      · intro k hk
        try dsimp only
        by_cases e : k = zord i
        · subst e
          show xup _ 64 _ _ 64 _ = _
          rw [xup_s, if_pos rfl]
        · show xup _ 64 _ _ 64 _ = _
          rw [xup_i e, xup_k (by decide), if_neg e]
          exact h0.2.1 k hk
      · intro k hk
        try dsimp only
        by_cases e : k = zord i
        · rw [if_pos e]; omega
        · rw [if_neg e]; exact h0.2.2 k hk
    · intro l1 q I1 e3 f1 f2 f3
      exact hP l1 q I1 (by simp only [pSmall, e2]; exact e3) f1 f2 f3
    · intro I1 e3 f1
      exact hT I1 (by simp only [pSmall, e2]; exact e3) f1
theorem v_Code_clear {P : zJ → Prop} {I : zJ} (hc : zco c o m) (hm : m ≤ 300) (hs : s ≤ m) (hP : ∀ I1, fr [o, o + 4] I I1 → cde I1 o s (fun _ => 0) → P I1) : c_Code_clear c J o (nI s) I P T := by
  refine t_Code_clear hc (v_A_fill ⟨zco_a4 hc, zco_g4 hc⟩ (by omega) ?_)
  refine hP _ (fr_fil (fr_u fr_0 (by simp)) (by simp)) ⟨?_, ?_, fun k _ => Nat.zero_le 15⟩
  · rw [xfil_r (by omega), xup_s]
  · intro k hk
    rw [xfil_in (by omega) (by omega)]
end RC
