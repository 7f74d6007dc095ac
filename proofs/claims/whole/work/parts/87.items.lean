/-! WHAT AN IMAGE IS SAID BY: copies, pixels, cached colours; their symbols; the class notes symbols. -/
def rnF (f : Nat → Int32) (d : Nat) : Nat → Nat → Nat
  | 0, _ => 0
  | n + 1, p => if f p = f (p - d) then rnF f d n (p + 1) + 1 else 0
theorem rnF_le (f : Nat → Int32) (d : Nat) : ∀ n p, rnF f d n p ≤ n
  | 0, _ => Nat.le_refl _
  | n + 1, p => by
    unfold rnF
    by_cases e : f p = f (p - d)
    · rw [if_pos e]; have := rnF_le f d n (p + 1); omega
    · rw [if_neg e]; omega
def bst (f : Nat → Int32) (tot i : Nat) : Nat → Nat × Nat
  | 0 => (0, 0)
  | d + 1 => if (bst f tot i d).1 < rnF f (d + 1) (tot - i) i then (rnF f (d + 1) (tot - i) i, d + 1) else bst f tot i d
theorem bst_le (f : Nat → Int32) (tot i : Nat) : ∀ d, (bst f tot i d).1 ≤ tot - i ∧ (bst f tot i d).2 ≤ d ∧ (0 < (bst f tot i d).1 → 0 < (bst f tot i d).2)
  | 0 => ⟨Nat.zero_le _, Nat.le_refl _, fun z => absurd z (Nat.lt_irrefl 0)⟩
  | d + 1 => by
    have h1 := bst_le f tot i d
    have h2 := rnF_le f (d + 1) (tot - i) i
    unfold bst
    by_cases e : (bst f tot i d).1 < rnF f (d + 1) (tot - i) i
    · rw [if_pos e]; exact ⟨h2, Nat.le_refl _, fun _ => Nat.succ_pos _⟩
    · rw [if_neg e]; exact ⟨h1.1, by omega, h1.2.2⟩
abbrev zIt : Type := Nat × Nat × Nat × Int32
abbrev zSy : Type := Nat × Nat × Int32
def kpN (b : Nat) (f : Nat → Int32) : Nat → Nat → (Nat → Int32) → (Nat → Int32)
  | 0, _, C => C
  | n + 1, i, C => kpN b f n (i + 1) (zup C (hsh b (f i)) (f i))
def mkI (b : Nat) (f : Nat → Int32) (tot : Nat) : Nat → Nat → (Nat → Int32) → List zIt
  | 0, _, _ => []
  | k + 1, i, C => if tot ≤ i then [] else if 3 ≤ (bst f tot i i).1 then (1, (bst f tot i i).1, (bst f tot i i).2, nI 0) :: mkI b f tot k (i + (bst f tot i i).1) (kpN b f (bst f tot i i).1 i C) else (if 0 < b ∧ C (hsh b (f i)) = f i then (2, hsh b (f i), 0, nI 0) else (0, 0, 0, f i)) :: mkI b f tot k (i + 1) (kpN b f 1 i C)
def preF (n : Nat) : Nat → Nat → Nat
  | 0, p => p
  | k + 1, p => if n < zlst (p + 1) then p else preF n k (p + 1)
def pre (n : Nat) : Nat := preF n 39 0
theorem pre_lt : ∀ n, n < 73 → pre n < 13 ∧ (1 ≤ n → zlst (pre n) ≤ n) := by decide
def sy (y : zIt) : List zSy := if y.1 = 1 then [(0, 256 + pre y.2.1, nI (y.2.1 - zlst (pre y.2.1))), (4, pre (y.2.2.1 + 8), nI (y.2.2.1 + 8 - zlst (pre (y.2.2.1 + 8))))] else if y.1 = 2 then [(0, 280 + y.2.1, nI 0)] else [(0, pN y.2.2.2 1, nI 0), (1, pN y.2.2.2 2, nI 0), (2, pN y.2.2.2 0, nI 0), (3, pN y.2.2.2 3, nI 0)]
def sys (ys : List zIt) : List zSy := ys.flatMap sy
def hsy (ts : List zSy) (w x : Nat) : Bool := ts.any fun t => t.1 == w && t.2.1 == x
def nkd (ys : List zIt) (k : Nat) : Nat := ys.countP fun y => y.1 == k
def okI (b : Nat) (y : zIt) : Prop := (y.1 = 1 → 3 ≤ y.2.1 ∧ y.2.1 ≤ 64 ∧ y.2.2.1 ≤ 64 ∧ 0 < y.2.2.1) ∧ (y.1 = 2 → y.2.1 < zcc b) ∧ y.1 < 3
def okS (b : Nat) (t : zSy) : Prop := t.1 < 5 ∧ t.2.1 < zsz b t.1
theorem hsh_zcc {b : Nat} (h0 : 0 < b) (hb : b ≤ 4) (x : Int32) : hsh b x < zcc b := by
  unfold hsh zcc
  rw [if_neg (by omega), if_neg (by omega)]
  have h1 : (nI 506832829 * x).toBitVec.toNat < 2 ^ 32 := BitVec.isLt _
  apply Nat.div_lt_of_lt_mul
  rw [← Nat.pow_add, show 32 - b + b = 32 by omega]
  exact h1
theorem mkI_ok {b : Nat} (hb : b ≤ 4) (f : Nat → Int32) {tot : Nat} (ht : tot ≤ 64) : ∀ k i C y, y ∈ mkI b f tot k i C → okI b y
  | 0, _, _, _, h => by cases h
  | k + 1, i, C, y, h => by
    unfold mkI at h
    by_cases e0 : tot ≤ i
    · rw [if_pos e0] at h; cases h
    · rw [if_neg e0] at h
      by_cases e1 : 3 ≤ (bst f tot i i).1
      · rw [if_pos e1] at h
        rcases List.mem_cons.mp h with h | h
        · have h1 := bst_le f tot i i
          rw [h]
          exact ⟨fun _ => ⟨e1, (by omega : (bst f tot i i).1 ≤ 64), (by omega : (bst f tot i i).2 ≤ 64), h1.2.2 (by omega)⟩, fun z => absurd z (by decide : ¬ (1 : Nat) = 2), (by decide : (1 : Nat) < 3)⟩
        · exact mkI_ok hb f ht k _ _ y h
      · rw [if_neg e1] at h
        rcases List.mem_cons.mp h with h | h
        · rw [h]
          by_cases e2 : 0 < b ∧ C (hsh b (f i)) = f i
          · rw [if_pos e2]
            exact ⟨fun z => absurd z (by decide : ¬ (2 : Nat) = 1), fun _ => hsh_zcc e2.1 hb (f i), (by decide : (2 : Nat) < 3)⟩
          · rw [if_neg e2]
            exact ⟨fun z => absurd z (by decide : ¬ (0 : Nat) = 1), fun z => absurd z (by decide : ¬ (0 : Nat) = 2), (by decide : (0 : Nat) < 3)⟩
        · exact mkI_ok hb f ht k _ _ y h
theorem sy_ok {b : Nat} (hb : b ≤ 4) {y : zIt} (h : okI b y) : ∀ t, t ∈ sy y → okS b t := by
  intro t ht
  unfold sy at ht
  have hz := zcc_le hb
  have z0 : zsz b 0 = 280 + zcc b := hz.2
  have z4 : zsz b 4 = 40 := rfl
  have z123 : ∀ w, 0 < w → w < 4 → zsz b w = 256 := fun w h1 h2 => by unfold zsz; rw [if_neg (by omega), if_pos h2]
  by_cases e1 : y.1 = 1
  · rw [if_pos e1] at ht
    obtain ⟨a1, a2, a3, a4⟩ := h.1 e1
    have p1 := (pre_lt y.2.1 (by omega)).1
    have p2 := (pre_lt (y.2.2.1 + 8) (by omega)).1
    simp only [List.mem_cons, List.not_mem_nil, or_false] at ht
    rcases ht with ht | ht
    · rw [ht]; exact ⟨(by decide : (0 : Nat) < 5), by show 256 + pre y.2.1 < zsz b 0; omega⟩
    · rw [ht]; exact ⟨(by decide : (4 : Nat) < 5), by show pre (y.2.2.1 + 8) < zsz b 4; omega⟩
  · rw [if_neg e1] at ht
    by_cases e2 : y.1 = 2
    · rw [if_pos e2] at ht
      have := h.2.1 e2
      simp only [List.mem_cons, List.not_mem_nil, or_false] at ht
      rw [ht]; exact ⟨(by decide : (0 : Nat) < 5), by show 280 + y.2.1 < zsz b 0; omega⟩
    · rw [if_neg e2] at ht
      simp only [List.mem_cons, List.not_mem_nil, or_false] at ht
      have n0 := pN_lt y.2.2.2 0
      have n1 := pN_lt y.2.2.2 1
      have n2 := pN_lt y.2.2.2 2
      have n3 := pN_lt y.2.2.2 3
      rcases ht with ht | ht | ht | ht
      · rw [ht]; exact ⟨(by decide : (0 : Nat) < 5), by show pN y.2.2.2 1 < zsz b 0; omega⟩
      · rw [ht]; exact ⟨(by decide : (1 : Nat) < 5), by show pN y.2.2.2 2 < zsz b 1; rw [z123 1 (by decide) (by decide)]; exact n2⟩
      · rw [ht]; exact ⟨(by decide : (2 : Nat) < 5), by show pN y.2.2.2 0 < zsz b 2; rw [z123 2 (by decide) (by decide)]; exact n0⟩
      · rw [ht]; exact ⟨(by decide : (3 : Nat) < 5), by show pN y.2.2.2 3 < zsz b 3; rw [z123 3 (by decide) (by decide)]; exact n3⟩
theorem sy_len (y : zIt) : (sy y).length ≤ 4 := by
  unfold sy
  by_cases e1 : y.1 = 1
  · rw [if_pos e1]; exact (by decide : (2 : Nat) ≤ 4)
  · rw [if_neg e1]
    by_cases e2 : y.1 = 2
    · rw [if_pos e2]; exact (by decide : (1 : Nat) ≤ 4)
    · rw [if_neg e2]; exact Nat.le_refl _
theorem hsy_app (ts : List zSy) (w x : Nat) (v : Int32) (w' j : Nat) : us1 (hsy (ts ++ [(w, x, v)]) w') j = if w = w' ∧ j = x then 1 else us1 (hsy ts w') j := by
  unfold us1
  have : hsy (ts ++ [(w, x, v)]) w' j = (hsy ts w' j || (w == w' && x == j)) := by
    unfold hsy
    rw [List.any_append]
    simp
  rw [this]
  by_cases e : w = w' ∧ j = x
  · obtain ⟨e1, e2⟩ := e
    subst e1 e2
    simp
  · have : (w == w' && x == j) = false := by
      cases h1 : w == w' <;> cases h2 : x == j <;> simp_all
    rw [this, Bool.or_false, if_neg e]
def zmx (w : Nat) : Nat := if w = 0 then 296 else if w < 4 then 256 else 40
theorem zco_w {c : zC} {w : Nat} (hw : w < 5) : zco c (14 + 7 * w) (zmx w) := by
  rcases (by omega : w = 0 ∨ w = 1 ∨ w = 2 ∨ w = 3 ∨ w = 4) with e | e | e | e | e
  · subst e; exact zco_14
  · subst e; exact zco_21
  · subst e; exact zco_28
  · subst e; exact zco_35
  · subst e; exact zco_42
theorem zsz_lx {b w : Nat} (hb : b ≤ 4) (hw : w < 5) : zsz b w ≤ zmx w ∧ zmx w ≤ 296 ∧ 40 ≤ zsz b w := by
  have := zcc_le hb
  unfold zsz zmx
  rcases (by omega : w = 0 ∨ w = 1 ∨ w = 2 ∨ w = 3 ∨ w = 4) with e | e | e | e | e <;> subst e <;> simp <;> omega
/-- symbols noted by the class -/
def cno (I : zJ) (b : Nat) (ts : List zSy) : Prop := I 67 6 = nI ts.length ∧ (∀ i t, ts[i]? = some t → I 78 i = nI t.1 ∧ I 79 i = nI t.2.1 ∧ I 80 i = t.2.2) ∧ ∀ w, w < 5 → cde I (14 + 7 * w) (zsz b w) (us1 (hsy ts w))
abbrev ntS : List Nat := [67, 78, 79, 80, 18, 25, 32, 39, 46]
section NO
variable {c : zC} {J : zK} {T : Nat → zJ → Prop} {P : zJ → Prop} {b w x : Nat}
theorem v_ofw {P : Nat → zJ → Prop} {I : zJ} (hw : w < 5) (hP : P (14 + 7 * w) I) : c_Codes_of c J (nI w) I P T := by
  refine t_Codes_of ⟨fun e => ?_, fun e => ?_, fun e => ?_, fun e => ?_, fun e => ?_⟩
  · obtain rfl : w = 0 := (nI_eq (by omega) (by decide)).mp e
    exact hP
  · obtain rfl : w = 1 := (nI_eq (by omega) (by decide)).mp e
    exact hP
  · obtain rfl : w = 2 := (nI_eq (by omega) (by decide)).mp e
    exact hP
  · obtain rfl : w = 3 := (nI_eq (by omega) (by decide)).mp e
    exact hP
  · rw [nI_toInt (by omega)] at e
    obtain rfl : w = 4 := by omega
    exact hP
theorem v_noteS {I : zJ} {ts : List zSy} {v : Int32} (h : cno I b ts) (hl : ts.length < 256) (hb : b ≤ 4) (hw : w < 5) (hx : x < zsz b w)
    (hP : ∀ I1, fr ntS I I1 → (∀ j, j ≠ 6 → I1 67 j = I 67 j) → cno I1 b (ts ++ [(w, x, v)]) → P I1) : c_ImageWriter_note c J (nI w) (nI x) v I P T := by
  obtain ⟨h1, h2, h3⟩ := id h
  have hz := zsz_lx (b := b) hb hw
  have vi : vp_in (nI ts.length) 256 := vp_in_nI hl (by decide)
  refine t_ImageWriter_note ?_
  simp only [xup_k (show (67 : Nat) ≠ 78 by decide), xup_k (show (67 : Nat) ≠ 79 by decide), xup_k (show (67 : Nat) ≠ 80 by decide), h1, nc (n := ts.length) (by omega), nI_add, nc (n := x) (by omega)]
  refine ⟨vi, vi, vi, v_ofw hw ⟨zmx w, zco_w hw, vp_in_nI (by omega) (by omega), ?_⟩⟩
  have hin : 14 + 7 * w + 4 ∈ ntS := by
    rcases (by omega : w = 0 ∨ w = 1 ∨ w = 2 ∨ w = 3 ∨ w = 4) with e | e | e | e | e <;> subst e <;> decide
  refine hP _ (fr_u (fr_u (fr_u (fr_u (fr_u fr_0 (by decide)) (by decide)) (by decide)) (by decide)) hin) (fun j hj => ?_) ⟨?_, fun i t ht => ?_, fun w' hw' => ⟨?_, fun k hk => ?_, fun k hk => ?_⟩⟩
  · rw [xup_k (by omega), xup_i hj, xup_k (by decide), xup_k (by decide), xup_k (by decide)]
  · rw [xup_k (by omega), xup_s, List.length_append]; rfl
  · rw [xup_k (show (78 : Nat) ≠ 14 + 7 * w + 4 by omega), xup_k (show (79 : Nat) ≠ 14 + 7 * w + 4 by omega), xup_k (show (80 : Nat) ≠ 14 + 7 * w + 4 by omega), xup_k (show (78 : Nat) ≠ 67 by decide), xup_k (show (79 : Nat) ≠ 67 by decide), xup_k (show (80 : Nat) ≠ 67 by decide), xup_k (show (78 : Nat) ≠ 80 by decide), xup_k (show (78 : Nat) ≠ 79 by decide), xup_k (show (79 : Nat) ≠ 80 by decide)]
    by_cases e : i < ts.length
    · rw [List.getElem?_append_left e] at ht
      have ne : i ≠ ts.length := by omega
      obtain ⟨g1, g2, g3⟩ := h2 i t ht
      exact ⟨(xup_i ne).trans g1, (xup_i ne).trans ((xup_k (by decide)).trans g2), (xup_i ne).trans ((xup_k (by decide)).trans ((xup_k (by decide)).trans g3))⟩
    · have hi2 := (List.getElem?_eq_some_iff.mp ht).1
      rw [List.length_append] at hi2
      simp at hi2
      obtain rfl : i = ts.length := by omega
      rw [List.getElem?_append_right (Nat.le_refl _)] at ht
      simp at ht
      rw [xup_s, xup_s, xup_s, ← ht]
      exact ⟨rfl, rfl, rfl⟩
  · have e1 : ∀ j, j = 14 + 7 * w' → j ≠ 67 ∧ j ≠ 78 ∧ j ≠ 79 ∧ j ≠ 80 ∧ j ≠ 14 + 7 * w + 4 := by omega
    obtain ⟨a1, a2, a3, a4, a5⟩ := e1 _ rfl
    rw [xup_k a5, xup_k a1, xup_k a4, xup_k a3, xup_k a2]
    exact (h3 w' hw').1
  · rw [hsy_app]
    by_cases e : w = w' ∧ k = x
    · rw [if_pos e, e.2, e.1, xup_s]
    · rw [if_neg e, xup_n (by omega), xup_k (by omega), xup_k (by omega), xup_k (by omega), xup_k (by omega)]
      exact (h3 w' hw').2.1 k hk
  · rcases us1_01 (hsy (ts ++ [(w, x, v)]) w') k with e | e <;> omega
end NO
