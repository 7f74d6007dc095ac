/-! THE CLASS MAKES UP what an image is said by. -/
theorem f_lst {x : Nat} (hx : x < 40) (I : zJ) : f_Codes_leastNumber (nI x) I = nI (zlst x) := z_lst x hx
theorem f_beh {x : Nat} (hx : x < 40) (I : zJ) : f_Codes_bitsBehind (nI x) I = nI (zbeh x) := z_beh x hx
section MK
variable {c : zC} {J : zK} {T : Nat → zJ → Prop} {o m b w hh tot i : Nat} {f C : Nat → Int32}
theorem v_prefixC {P : Int32 → zJ → Prop} {I : zJ} {n : Nat} (hn : n < 2 ^ 30) (hP : P (nI (pre n)) I) : c_Codes_prefixOf c J (nI n) I P T := by
  have key : ∀ k p, p + k = 39 → preF n k p = pre n → g_Codes_prefixOf_2 c J (nI n) (nI p) I P T := by
    intro k
    induction k with
    | zero =>
      intro p hp he
      obtain rfl : p = 39 := by omega
      unfold preF at he
      rw [← he] at hP
      exact t_Codes_prefixOf_2 (br_t (by decide) hP)
    | succ k ih =>
      intro p hp he
      have hz := z_lst_le (p + 1) (by omega)
      rw [show preF n (k + 1) p = if n < zlst (p + 1) then p else preF n k (p + 1) from rfl] at he
      refine t_Codes_prefixOf_2 (br_f (nI_ge (by omega) (by decide)) ?_)
      rw [nI_add, f_lst (by omega)]
      refine pk_lt n (zlst (p + 1)) (fun e => ?_) (fun e => ?_) rfl rfl (by omega) (by omega)
      · rw [if_pos e] at he
        rw [he]; exact hP
      · rw [if_neg (by omega)] at he
        exact ih (p + 1) (by omega) he
  exact t_Codes_prefixOf (key 39 0 (by decide) rfl)
theorem v_findCopy {P : zJ → Prop} {I : zJ} (hp : zpl c o m) (ho : o ≠ 67 ∧ o + 1 ≠ 67) (hm : m ≤ 64) (h1 : I o 1 = nI w) (h2 : I o 2 = nI hh) (htot : tot = w * hh) (htm : tot ≤ m) (hi : i < tot) (hf : ∀ k, k < tot → I (o + 1) k = f k)
    (hP : ∀ I1, fr [67] I I1 → (∀ j, j ≠ 9 → j ≠ 10 → I1 67 j = I 67 j) → I1 67 9 = nI (bst f tot i i).1 → I1 67 10 = nI (bst f tot i i).2 → P I1) : c_ImageWriter_findCopy c J o (nI i) I P T := by
  have key : ∀ (n d : Nat) (I1 : zJ), d + n = i → fr [67] I I1 → (∀ j, j ≠ 9 → j ≠ 10 → I1 67 j = I 67 j) → I1 67 9 = nI (bst f tot i d).1 → I1 67 10 = nI (bst f tot i d).2 → g_ImageWriter_findCopy_20 c J o (nI i) (nI (tot - i)) (nI (d + 1)) I1 P T := by
    intro n
    induction n with
    | zero =>
      intro d I1 hd fr1 fj h9 h10
      obtain rfl : d = i := by omega
      exact t_ImageWriter_findCopy_20 hp (br_t (nI_lt (by omega) (by omega)) (hP I1 fr1 fj h9 h10))
    | succ n ih =>
      intro d I1 hd fr1 fj h9 h10
      refine t_ImageWriter_findCopy_20 hp (br_f (nI_nlt (by omega) (by omega)) ?_)
      have hbl := bst_le f tot i d
      have g65 : g_ImageWriter_findCopy_65 c J o (nI i) (nI (tot - i)) (nI (d + 1)) (nI (rnF f (d + 1) (tot - i) i)) I1 P T := by
        have hrl := rnF_le f (d + 1) (tot - i) i
        refine t_ImageWriter_findCopy_65 hp ?_
        rw [h9, nI_add]
        have hb : bst f tot i (d + 1) = if (bst f tot i d).1 < rnF f (d + 1) (tot - i) i then (rnF f (d + 1) (tot - i) i, d + 1) else bst f tot i d := rfl
        refine pk_le (rnF f (d + 1) (tot - i) i) (bst f tot i d).1 (fun e => ?_) (fun e => ?_) rfl rfl (by omega) (by omega)
        · rw [if_neg (by omega)] at hb
          exact ih (d + 1) I1 (by omega) fr1 fj (by rw [hb]; exact h9) (by rw [hb]; exact h10)
        · rw [if_pos e] at hb
          refine ih (d + 1) _ (by omega) (fr_u (fr_u fr1 (by decide)) (by decide)) (fun j j1 j2 => by rw [xup_i j2, xup_i j1]; exact fj j j1 j2) (by rw [hb, xup_i (by decide), xup_s]) (by rw [hb, xup_s])
      have l29 : ∀ (r l : Nat), l + r = tot - i → rnF f (d + 1) (tot - i) i = l + rnF f (d + 1) r (i + l) → g_ImageWriter_findCopy_29 c J o (nI i) (nI (tot - i)) (nI (d + 1)) (nI l) I1 P T := by
        intro r
        induction r with
        | zero =>
          intro l hl hr
          rw [show rnF f (d + 1) 0 (i + l) = 0 from rfl] at hr
          refine t_ImageWriter_findCopy_29 hp (br_t (nI_le (by omega) (by omega)) ?_)
          rw [show l = rnF f (d + 1) (tot - i) i by omega]
          exact g65
        | succ r ihr =>
          intro l hl hr
          rw [show rnF f (d + 1) (r + 1) (i + l) = if f (i + l) = f (i + l - (d + 1)) then rnF f (d + 1) r (i + l + 1) + 1 else 0 from rfl] at hr
          refine t_ImageWriter_findCopy_29 hp (br_f (nI_ge (by omega) (by omega)) ?_)
          rw [nI_add, pk_sub (a := i + l) (b := d + 1) (by omega), nc (n := i + l) (by omega), nc (n := i + l - (d + 1)) (by omega), fr1 (o + 1) (by simp; omega), hf _ (by omega), hf _ (by omega), nI_add]
          refine ⟨vp_in_nI (by omega) (by omega), vp_in_nI (by omega) (by omega), fun e => ?_, fun e => ?_⟩
          · rw [if_pos e] at hr
            exact ihr (l + 1) (by omega) (by rw [show i + (l + 1) = i + l + 1 by omega]; omega)
          · rw [if_neg e] at hr
            rw [show l = rnF f (d + 1) (tot - i) i by omega]
            exact g65
      exact l29 (tot - i) 0 (by omega) (by rw [Nat.zero_add]; rfl)
  refine t_ImageWriter_findCopy hp (nm_e ?_)
  rw [xup_k (by omega), xup_k (by omega), xup_k (by omega), xup_k (by omega), h1, h2, pk_mul, ← htot, pk_sub (a := tot) (b := i) (by omega)]
  exact key i 0 _ (by omega) (fr_u (fr_u fr_0 (by decide)) (by decide)) (fun j j1 j2 => by rw [xup_i j2, xup_i j1]) (by rw [xup_i (by decide), xup_s]; rfl) (by rw [xup_s]; rfl)
theorem v_noteCopy {P : zJ → Prop} {I : zJ} {ts : List zSy} {L D cp : Nat} (h : cno I b ts) (hl : ts.length + 2 ≤ 256) (hb : b ≤ 4) (h9 : I 67 9 = nI L) (h10 : I 67 10 = nI D) (h7 : I 67 7 = nI cp) (hL : 3 ≤ L ∧ L ≤ 64) (hD : D ≤ 64)
    (hP : ∀ I1, fr ntS I I1 → cno I1 b (ts ++ sy (1, L, D, nI 0)) → I1 67 7 = nI (cp + 1) → I1 67 8 = I 67 8 → P I1) : c_ImageWriter_noteCopy c J I P T := by
  have p1 := pre_lt L (by omega)
  have p2 := pre_lt (D + 8) (by omega)
  have hz := zcc_le hb
  refine t_ImageWriter_noteCopy ?_
  rw [h9]
  refine v_prefixC (by omega) ?_
  rw [h9, f_lst (by omega), nI_add, pk_sub (p1.2 (by omega))]
  refine v_noteS (w := 0) h (by omega) hb (by decide) (by rw [hz.2]; omega) fun I1 f1 g1 n1 => ?_
  rw [g1 10 (by decide), h10, nI_add]
  refine v_prefixC (by omega) ?_
  rw [f_lst (by omega), pk_sub (p2.2 (by omega))]
  refine v_noteS (w := 4) n1 (by rw [List.length_append]; show ts.length + 1 < 256; omega) hb (by decide) (by show pre (D + 8) < 40; omega) fun I2 f2 g2 n2 => ?_
  rw [g2 7 (by decide), g1 7 (by decide), h7, nI_add]
  refine hP _ (fr_u (fr_t f1 f2) (by decide)) ⟨?_, ?_, ?_⟩ xup_s ?_
  · rw [xup_i (by decide), n2.1, List.append_assoc]; rfl
  · intro i t ht
    rw [xup_k (by decide), xup_k (by decide), xup_k (by decide)]
    refine n2.2.1 i t ?_
    rw [List.append_assoc]
    exact ht
  · intro w hw
    have := n2.2.2 w hw
    rw [List.append_assoc] at this
    exact ⟨by rw [xup_k (by omega)]; exact this.1, fun k hk => by rw [xup_k (by omega)]; exact this.2.1 k hk, this.2.2⟩
  · rw [xup_i (by decide), g2 8 (by decide), g1 8 (by decide)]
def pxI (b : Nat) (C : Nat → Int32) (v : Int32) : zIt := if 0 < b ∧ C (hsh b v) = v then (2, hsh b v, 0, nI 0) else (0, 0, 0, v)
theorem v_notePixel {P : zJ → Prop} {I : zJ} {ts : List zSy} {v : Int32} {ca : Nat} (h : cno I b ts) (hl : ts.length + 4 ≤ 256) (hb : b ≤ 4) (h49 : I 49 1 = nI b) (h50 : ∀ k, k < 16 → I 50 k = C k) (h8 : I 67 8 = nI ca)
    (hP : ∀ I1, fr ntS I I1 → cno I1 b (ts ++ sy (pxI b C v)) → I1 67 7 = I 67 7 → I1 67 8 = nI (ca + if (pxI b C v).1 = 2 then 1 else 0) → P I1) : c_ImageWriter_notePixel c J v I P T := by
  have hz := zcc_le hb
  have hs := hsh_lt b hb v
  have no : ¬ (0 < b ∧ C (hsh b v) = v) → c_ImageWriter_note c J (nI 0) ((xus v (nI 8)) &&& (nI 255)) (nI 0) I (fun I4 => c_ImageWriter_note c J (nI 1) ((xus v (nI 16)) &&& (nI 255)) (nI 0) I4 (fun I5 => c_ImageWriter_note c J (nI 2) ((xus v (nI 0)) &&& (nI 255)) (nI 0) I5 (fun I6 => c_ImageWriter_note c J (nI 3) ((xus v (nI 24)) &&& (nI 255)) (nI 0) I6 (fun I7 => P I7) T) T) T) T := by
    intro e
    have ey : pxI b C v = (0, 0, 0, v) := if_neg e
    rw [ey] at hP
    have n0 := pN_lt v 0
    have n1' := pN_lt v 1
    have n2' := pN_lt v 2
    have n3' := pN_lt v 3
    have q1 : xus v (nI 8) &&& nI 255 = nI (pN v 1) := pt_L v 1 (by decide)
    have q2 : xus v (nI 16) &&& nI 255 = nI (pN v 2) := pt_L v 2 (by decide)
    have q0 : xus v (nI 0) &&& nI 255 = nI (pN v 0) := pt_L v 0 (by decide)
    have q3 : xus v (nI 24) &&& nI 255 = nI (pN v 3) := pt_L v 3 (by decide)
    rw [q1, q2, q0, q3]
    refine v_noteS (w := 0) h (by omega) hb (by decide) (by rw [hz.2]; omega) fun I1 f1 g1 m1 => ?_
    refine v_noteS (w := 1) m1 (by simp only [List.length_append, List.length_cons, List.length_nil]; omega) hb (by decide) (by show pN v 2 < 256; exact n2') fun I2 f2 g2 m2 => ?_
    refine v_noteS (w := 2) m2 (by simp only [List.length_append, List.length_cons, List.length_nil]; omega) hb (by decide) (by show pN v 0 < 256; exact n0) fun I3 f3 g3 m3 => ?_
    refine v_noteS (w := 3) m3 (by simp only [List.length_append, List.length_cons, List.length_nil]; omega) hb (by decide) (by show pN v 3 < 256; exact n3') fun I4 f4 g4 m4 => ?_
    refine hP I4 (fr_t f1 (fr_t f2 (fr_t f3 f4))) ?_ (by rw [g4 7 (by decide), g3 7 (by decide), g2 7 (by decide), g1 7 (by decide)]) (by rw [g4 8 (by decide), g3 8 (by decide), g2 8 (by decide), g1 8 (by decide), h8]; rfl)
    simp only [List.append_assoc] at m4
    exact m4
  refine t_ImageWriter_notePixel (t_Cache_has ?_)
  rw [h49, f_place h49 hb, nc (n := hsh b v) (by omega), h50 _ (by omega)]
  refine pk_le b 0 (fun e => br_t rfl (no (by omega))) (fun e => ⟨vp_in_nI (by omega) (by decide), fun e2 => br_f (by decide) ?_, fun e2 => br_t rfl (no (fun z => e2 z.2))⟩) rfl rfl (by omega) (by decide)
  have ey : pxI b C v = (2, hsh b v, 0, nI 0) := if_pos ⟨e, e2⟩
  rw [ey] at hP
  rw [nI_add]
  have h3 := hsh_zcc e hb v
  refine v_noteS (w := 0) h (by omega) hb (by decide) (by rw [hz.2]; omega) fun I1 f1 g1 m1 => ?_
  rw [g1 8 (by decide), h8, nI_add]
  refine hP _ (fr_u f1 (by decide)) ⟨?_, ?_, ?_⟩ (by rw [xup_i (by decide), g1 7 (by decide)]) (by rw [xup_s]; rfl)
  · rw [xup_i (by decide)]; exact m1.1
  · intro i t ht
    rw [xup_k (by decide), xup_k (by decide), xup_k (by decide)]
    exact m1.2.1 i t ht
  · intro w hw
    have := m1.2.2 w hw
    exact ⟨by rw [xup_k (by omega)]; exact this.1, fun k hk => by rw [xup_k (by omega)]; exact this.2.1 k hk, this.2.2⟩
theorem sys_app (ys : List zIt) (y : zIt) : sys (ys ++ [y]) = sys ys ++ sy y := by
  unfold sys
  rw [List.flatMap_append]
  simp
theorem nkd_app (ys : List zIt) (y : zIt) (k : Nat) : nkd (ys ++ [y]) k = nkd ys k + if y.1 = k then 1 else 0 := by
  unfold nkd
  rw [List.countP_append]
  by_cases e : y.1 = k
  · simp [e]
  · simp [e]
abbrev cmS : List Nat := [67, 78, 79, 80, 18, 25, 32, 39, 46, 50]
theorem cno_fr {S : List Nat} {I I1 : zJ} {ts : List zSy} (h : cno I b ts) (hf : fr S I I1) (h1 : ∀ a, a ∈ S → a = 50) : cno I1 b ts := by
  have hn : ∀ a, a ≠ 50 → I1 a = I a := fun a ha => hf a fun z => ha (h1 a z)
  refine ⟨by rw [hn 67 (by decide)]; exact h.1, fun i t ht => by rw [hn 78 (by decide), hn 79 (by decide), hn 80 (by decide)]; exact h.2.1 i t ht, fun w hw => ⟨?_, ?_, (h.2.2 w hw).2.2⟩⟩
  · rw [hn _ (by omega)]; exact (h.2.2 w hw).1
  · intro k hk; rw [hn _ (by omega)]; exact (h.2.2 w hw).2.1 k hk
/-- pixels kept in the cache -/
theorem l_keep {P : zJ → Prop} {I : zJ} {v2 v4 : Int32} {st : Nat} (hp : zpl c o m) (ho : o + 1 ≠ 49 ∧ o + 1 ≠ 50) (hm : m ≤ 64) (hb : b ≤ 4) (htm : tot ≤ m) (his : i + st ≤ tot) (h49 : I 49 1 = nI b) (hf : ∀ k, k < tot → I (o + 1) k = f k)
    (hP : ∀ I1, fr [50] I I1 → (∀ k, k < 16 → I1 50 k = kpN b f st i C k) → g_ImageWriter_makeUp_25 c J o v2 (nI (i + st)) (v4 + nI 1) I1 P T) (h50 : ∀ k, k < 16 → I 50 k = C k) : g_ImageWriter_makeUp_86 c J o v2 (nI i) v4 (nI st) (nI i) I P T := by
  have key : ∀ (n j : Nat) (I1 : zJ) (D : Nat → Int32), j + n = st → fr [50] I I1 → (∀ k, k < 16 → I1 50 k = D k) → kpN b f n (i + j) D = kpN b f st i C → g_ImageWriter_makeUp_86 c J o v2 (nI i) v4 (nI st) (nI (i + j)) I1 P T := by
    intro n
    induction n with
    | zero =>
      intro j I1 D hj f1 h1 he
      obtain rfl : j = st := by omega
      refine t_ImageWriter_makeUp_86 hp ?_
      rw [nI_add]
      refine br_t (nI_le (Nat.le_refl _) (by omega)) (hP I1 f1 fun k hk => ?_)
      rw [← he]
      exact h1 k hk
    | succ n ih =>
      intro j I1 D hj f1 h1 he
      have e49 : I1 49 1 = nI b := by rw [f1 49 (by decide)]; exact h49
      have hs := hsh_lt b hb (f (i + j))
      refine t_ImageWriter_makeUp_86 hp ?_
      rw [nI_add, nc (n := i + j) (by omega), f1 (o + 1) (by simp; omega), hf _ (by omega), f_place e49 hb, nc (n := hsh b (f (i + j))) (by omega), nI_add]
      refine br_f (nI_ge (by omega) (by omega)) ⟨vp_in_nI (by omega) (by omega), vp_in_nI hs (by decide), nm_e ?_⟩
      refine ih (j + 1) _ (zup D (hsh b (f (i + j))) (f (i + j))) (by omega) (fr_u f1 (by decide)) (fun k hk => ?_) ?_
      · unfold zup
        by_cases e : k = hsh b (f (i + j))
        · rw [if_pos e, e, xup_s]
        · rw [if_neg e, xup_i e]; exact h1 k hk
      · exact he
  exact key st 0 I C (by omega) fr_0 h50 rfl
theorem v_makeUpC {P : zJ → Prop} {I0 : zJ} (hp : zpl c o m) (ho : o = 7 ∨ o = 53 ∨ o = 57) (hm : m ≤ 64) (hb : b ≤ 4) (hw : I0 o 1 = nI w) (hh2 : I0 o 2 = nI hh) (htot : tot = w * hh) (htm : tot ≤ m) (h49 : I0 49 1 = nI b) (h50 : ∀ k, k < 16 → I0 50 k = nI 0) (hf : ∀ k, k < tot → I0 (o + 1) k = f k)
    (hc0 : ∀ w, w < 5 → cde I0 (14 + 7 * w) (zsz b w) (fun _ => 0))
    (hP : ∀ I1, fr cmS I0 I1 → cno I1 b (sys (mkI b f tot tot 0 (fun _ => nI 0))) → I1 67 7 = nI (nkd (mkI b f tot tot 0 (fun _ => nI 0)) 1) → I1 67 8 = nI (nkd (mkI b f tot tot 0 (fun _ => nI 0)) 2) → P I1) : c_ImageWriter_makeUp c J o I0 P T := by
  generalize hY : mkI b f tot tot 0 (fun _ => nI 0) = Y at hP
  have ho' : o ∉ cmS ∧ o + 1 ∉ cmS ∧ o ≠ 67 ∧ o + 1 ≠ 67 ∧ o + 1 ≠ 49 ∧ o + 1 ≠ 50 := by
    rcases ho with e | e | e <;> subst e <;> decide
  have key : ∀ (k i t : Nat) (ys : List zIt) (I : zJ) (C : Nat → Int32), tot ≤ i + k → t ≤ i → fr cmS I0 I → cno I b (sys ys) → (sys ys).length ≤ 4 * i → i ≤ tot → I 67 7 = nI (nkd ys 1) → I 67 8 = nI (nkd ys 2) → (∀ k, k < 16 → I 50 k = C k) → ys ++ mkI b f tot k i C = Y → g_ImageWriter_makeUp_25 c J o (nI tot) (nI i) (nI t) I P T := by
    intro k
    have stop : ∀ (k i t : Nat) (ys : List zIt) (I : zJ) (C : Nat → Int32), tot ≤ i → t ≤ i → i ≤ tot → fr cmS I0 I → cno I b (sys ys) → I 67 7 = nI (nkd ys 1) → I 67 8 = nI (nkd ys 2) → ys ++ mkI b f tot k i C = Y → g_ImageWriter_makeUp_25 c J o (nI tot) (nI i) (nI t) I P T := by
      intro k i t ys I C hi ht hti f1 n1 h7 h8 he
      have em : mkI b f tot k i C = [] := by
        cases k with
        | zero => rfl
        | succ k => unfold mkI; rw [if_pos hi]
      rw [em, List.append_nil] at he
      subst he
      refine t_ImageWriter_makeUp_25 hp (pk_le tot t (fun _ => hP I f1 n1 h7 h8) (fun _ => br_t (nI_le hi (by omega)) (hP I f1 n1 h7 h8)) rfl rfl (by omega) (by omega))
    induction k with
    | zero =>
      intro i t ys I C hk ht f1 n1 hl hti h7 h8 h50 he
      exact stop 0 i t ys I C (by omega) ht hti f1 n1 h7 h8 he
    | succ k ih =>
      intro i t ys I C hk ht f1 n1 hl hti h7 h8 h50 he
      by_cases e0 : tot ≤ i
      · exact stop (k + 1) i t ys I C e0 ht hti f1 n1 h7 h8 he
      · rw [show mkI b f tot (k + 1) i C = if tot ≤ i then [] else if 3 ≤ (bst f tot i i).1 then (1, (bst f tot i i).1, (bst f tot i i).2, nI 0) :: mkI b f tot k (i + (bst f tot i i).1) (kpN b f (bst f tot i i).1 i C) else (if 0 < b ∧ C (hsh b (f i)) = f i then (2, hsh b (f i), 0, nI 0) else (0, 0, 0, f i)) :: mkI b f tot k (i + 1) (kpN b f 1 i C) from rfl, if_neg e0] at he
        have hbl := bst_le f tot i i
        have w1 : I o 1 = nI w := by rw [f1 o ho'.1]; exact hw
        have w2 : I o 2 = nI hh := by rw [f1 o ho'.1]; exact hh2
        have wf : ∀ k, k < tot → I (o + 1) k = f k := fun k hk => by rw [f1 (o + 1) ho'.2.1]; exact hf k hk
        have w49 : I 49 1 = nI b := by rw [f1 49 (by decide)]; exact h49
        refine t_ImageWriter_makeUp_25 hp (br_f (nI_ge (by omega) (by omega)) (br_f (nI_ge (by omega) (by omega)) ?_))
        refine v_findCopy hp ⟨ho'.2.2.1, ho'.2.2.2.1⟩ hm w1 w2 htot htm (by omega) wf fun I1 f2 g2 l9 l10 => ?_
        have n2 : cno I1 b (sys ys) := by
          refine ⟨by rw [g2 6 (by decide) (by decide)]; exact n1.1, fun i t ht => by rw [f2 78 (by decide), f2 79 (by decide), f2 80 (by decide)]; exact n1.2.1 i t ht, fun w hw => ⟨?_, ?_, (n1.2.2 w hw).2.2⟩⟩
          · rw [f2 _ (by simp; omega)]; exact (n1.2.2 w hw).1
          · intro k hk; rw [f2 _ (by simp; omega)]; exact (n1.2.2 w hw).2.1 k hk
        have f12 : fr cmS I0 I1 := fr_t f1 (fr_s f2 (by simp))
        have x50 : ∀ k, k < 16 → I1 50 k = C k := fun k hk => by rw [f2 50 (by decide)]; exact h50 k hk
        have x7 : I1 67 7 = nI (nkd ys 1) := by rw [g2 7 (by decide) (by decide)]; exact h7
        have x8 : I1 67 8 = nI (nkd ys 2) := by rw [g2 8 (by decide) (by decide)]; exact h8
        rw [l9]
        refine pk_lt (bst f tot i i).1 3 (fun e1 => br_t (by decide) ?_) (fun e1 => br_f (nI_ge (by omega) (by omega)) ?_) rfl rfl (by omega) (by decide)
        · rw [if_neg (by omega)] at he
          refine t_ImageWriter_makeUp_73 hp ⟨vp_in_nI (by omega) (by omega), ?_⟩
          rw [nc (n := i) (by omega), f2 (o + 1) (by simp; omega), wf i (by omega)]
          refine v_notePixel (C := C) n2 (by omega) hb (by rw [f2 49 (by decide)]; exact w49) x50 x8 fun I2 f3 n3 y7 y8 => ?_
          have f13 : fr cmS I0 I2 := fr_t f12 (fr_s f3 (by simp))
          refine l_keep (C := C) (st := 1) (tot := tot) (f := f) hp ho'.2.2.2.2 hm hb htm (by omega) (by rw [f13 49 (by decide)]; exact h49) (fun k hk => by rw [f13 (o + 1) ho'.2.1]; exact hf k hk) (fun I3 f4 k3 => ?_) (fun k hk => by rw [f3 50 (by decide)]; exact x50 k hk)
          rw [nI_add]
          have hsl := sy_len (pxI b C (f i))
          refine ih (i + 1) (t + 1) (ys ++ [pxI b C (f i)]) I3 (kpN b f 1 i C) (by omega) (by omega) (fr_t f13 (fr_s f4 (by simp))) (by rw [sys_app]; exact cno_fr n3 f4 (by simp)) (by rw [sys_app, List.length_append]; omega) (by omega) (by rw [f4 67 (by decide), y7, x7, nkd_app]; unfold pxI; split <;> rfl) (by rw [f4 67 (by decide), y8, nkd_app]) k3 ?_
          rw [List.append_assoc]
          exact he
        · rw [if_pos e1] at he
          refine t_ImageWriter_makeUp_66 hp (v_noteCopy n2 (by omega) hb l9 l10 x7 ⟨e1, by omega⟩ (by omega) fun I2 f3 n3 y7 y8 => ?_)
          have f13 : fr cmS I0 I2 := fr_t f12 (fr_s f3 (by simp))
          refine l_keep (C := C) (st := (bst f tot i i).1) (tot := tot) (f := f) hp ho'.2.2.2.2 hm hb htm (by omega) (by rw [f13 49 (by decide)]; exact h49) (fun k hk => by rw [f13 (o + 1) ho'.2.1]; exact hf k hk) (fun I3 f4 k3 => ?_) (fun k hk => by rw [f3 50 (by decide)]; exact x50 k hk)
          rw [nI_add]
          have hsl := sy_len (1, (bst f tot i i).1, (bst f tot i i).2, nI 0)
          refine ih (i + (bst f tot i i).1) (t + 1) (ys ++ [(1, (bst f tot i i).1, (bst f tot i i).2, nI 0)]) I3 _ (by omega) (by omega) (fr_t f13 (fr_s f4 (by simp))) (by rw [sys_app]; exact cno_fr n3 f4 (by simp)) (by rw [sys_app, List.length_append]; omega) (by omega) (by rw [f4 67 (by decide), y7, nkd_app]; rfl) (by rw [f4 67 (by decide), y8, x8, nkd_app]; rfl) k3 ?_
          rw [List.append_assoc]
          exact he
  refine t_ImageWriter_makeUp hp (nm_e ?_)
  rw [xup_k ho'.2.2.1, xup_k ho'.2.2.1, xup_k ho'.2.2.1, xup_k ho'.2.2.1, xup_k ho'.2.2.1, xup_k ho'.2.2.1, hw, hh2, pk_mul, ← htot]
  refine key tot 0 0 [] _ (fun _ => nI 0) (by omega) (by omega) (fr_u (fr_u (fr_u fr_0 (by decide)) (by decide)) (by decide)) ⟨?_, fun i t ht => (by cases ht), fun w hw => ⟨?_, ?_, ?_⟩⟩ (Nat.zero_le _) (by omega) ?_ ?_ ?_ hY
  · rw [xup_i (by decide), xup_i (by decide), xup_s]; rfl
  · rw [xup_k (by omega), xup_k (by omega), xup_k (by omega)]; exact (hc0 w hw).1
  · intro k hk; rw [xup_k (by omega), xup_k (by omega), xup_k (by omega)]; exact (hc0 w hw).2.1 k hk
  · intro k hk; rcases us1_01 (hsy (sys []) w) k with e | e <;> omega
  · rw [xup_i (by decide), xup_s]; rfl
  · rw [xup_s]; rfl
  · intro k hk; rw [xup_k (by decide), xup_k (by decide), xup_k (by decide)]; exact h50 k hk
end MK
