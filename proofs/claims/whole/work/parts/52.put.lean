/-! BITS PUT: a row of bytes and how many bits it has. -/
def xrw (I : zJ) (a : Nat) (D : Nat → Int32) : zJ := fun x y => if x = a then D y else I x y
section XR
variable {I : zJ} {a x k ob f : Nat} {D D2 : Nat → Int32} {v w : Int32}
theorem xrw_s : xrw I a D a = D := by
  funext y
  exact if_pos rfl
theorem xrw_r (h : x ≠ a) : xrw I a D x = I x := by
  funext y
  exact if_neg h
theorem xrw_id (h : I a = D) : xrw I a D = I := by
  funext x y
  unfold xrw
  by_cases e : x = a
  · rw [if_pos e, e, h]
  · rw [if_neg e]
theorem xrw_2 : xrw (xrw I a D) a D2 = xrw I a D2 := by
  funext x y
  unfold xrw
  by_cases e : x = a
  · rw [if_pos e, if_pos e]
  · rw [if_neg e, if_neg e, if_neg e]
theorem xrw_up (h : ob ≠ a) : xrw (xup I ob f v) a D = xup (xrw I a D) ob f v := by
  funext x y
  unfold xrw xup
  dsimp only
  by_cases e : x = a
  · rw [if_pos e, if_neg (fun z => h (z.1.symm.trans e)), if_pos e]
  · rw [if_neg e, if_neg e]
theorem xrw_zup : xrw I a (zup (I a) k v) = xup I a k v := by
  funext x y
  unfold xrw xup zup
  by_cases e : x = a
  · subst e
    rw [if_pos rfl]
    by_cases e2 : y = k
    · rw [if_pos e2, if_pos ⟨rfl, e2⟩]
    · rw [if_neg e2, if_neg (fun z => e2 z.2)]
  · rw [if_neg e, if_neg (fun z => e z.1)]
end XR
/-- one bit put behind h bits -/
def dpr (D : Nat → Int32) (h b : Nat) : Nat → Int32 := if h / 8 < 700 then zup D (h / 8) ((if h % 8 = 0 then nI 0 else D (h / 8)) ||| (nI b <<< (nI (h % 8) &&& 31))) else D
def dprs (D : Nat → Int32) (h : Nat) : List Nat → Nat → Int32
  | [] => D
  | b :: bs => dprs (dpr D h b) (h + 1) bs
theorem dprs_app : ∀ (bs cs : List Nat) (D : Nat → Int32) (h : Nat), dprs D h (bs ++ cs) = dprs (dprs D h bs) (h + bs.length) cs
  | [], cs, D, h => rfl
  | b :: bs, cs, D, h => by
    show dprs (dpr D h b) (h + 1) (bs ++ cs) = dprs (dprs (dpr D h b) (h + 1) bs) (h + (bs.length + 1)) cs
    rw [dprs_app bs cs, show h + (bs.length + 1) = h + 1 + bs.length by omega]
/-- these bits put: the count in the object's field, the bytes in the row -/
def em (I : zJ) (ob f a h : Nat) (bs : List Nat) : zJ := xup (xrw I a (dprs (I a) h bs)) ob f (nI (h + bs.length))
section EM
variable {I : zJ} {ob f a h x y : Nat} {bs cs : List Nat}
theorem em_c : em I ob f a h bs ob f = nI (h + bs.length) := xup_s
theorem em_a (ha : a ≠ ob) : em I ob f a h bs a = dprs (I a) h bs := (xup_r ha).trans xrw_s
theorem em_app (ha : a ≠ ob) : em (em I ob f a h bs) ob f a (h + bs.length) cs = em I ob f a h (bs ++ cs) := by
  show xup (xrw (em I ob f a h bs) a (dprs (em I ob f a h bs a) (h + bs.length) cs)) ob f _ = _
  rw [em_a ha]
  unfold em
  rw [xrw_up ha.symm, xrw_2, xup_2, dprs_app, List.length_append, Nat.add_assoc]
theorem em_0 (h1 : I ob f = nI h) : em I ob f a h [] = I := by
  show xup (xrw I a (I a)) ob f (nI (h + 0)) = I
  rw [xrw_id rfl]
  exact xup_id h1
theorem em_r (h1 : x ≠ ob) (h2 : x ≠ a) : em I ob f a h bs x = I x := (xup_r h1).trans (xrw_r h2)
theorem em_f (ha : ob ≠ a) (h2 : y ≠ f) : em I ob f a h bs ob y = I ob y := (xup_i h2).trans (congrFun (xrw_r ha) y)
end EM
/-- bit i of a number; its first n bits -/
def vb (v : Int32) (i : Nat) : Nat := ((v >>> (nI i &&& 31)) &&& nI 1).toNatClampNeg
theorem vb_eq (v : Int32) (i : Nat) : (v >>> (nI i &&& 31)) &&& nI 1 = nI (vb v i) ∧ vb v i < 2 := by
  obtain ⟨k, hk, e⟩ := pk_andE (v >>> (nI i &&& 31)) (m := nI 1) 1 rfl
  unfold vb
  rw [e, nI_clamp (by omega)]
  exact ⟨rfl, hk⟩
def bsv (v : Int32) : Nat → List Nat
  | 0 => []
  | n + 1 => bsv v n ++ [vb v n]
theorem bsv_len (v : Int32) : ∀ n, (bsv v n).length = n
  | 0 => rfl
  | n + 1 => by
    show (bsv v n ++ [vb v n]).length = n + 1
    rw [List.length_append, bsv_len v n]
    rfl
section PU
variable {c : zC} {J : zK} {o h b n : Nat} {T : Nat → zJ → Prop} {P : zJ → Prop}
theorem v_putBit {I : zJ} (hb : zbi c o) (h1 : I o 1 = nI h) (hh : h < 2 ^ 30) (hP : P (em I o 1 (o + 1) h [b])) : c_Bits_putBit c J o (nI b) I P T := by
  have e1 : em I o 1 (o + 1) h [b] = xup (xrw I (o + 1) (dpr (I (o + 1)) h b)) o 1 (nI (h + 1)) := rfl
  rw [e1] at hP
  unfold dpr at hP
  refine t_Bits_putBit hb ?_
  rw [h1, pk_rem (by omega) (by decide) (by decide), pk_div (by omega) (by decide) (by decide), nc (by omega), nI_add]
  refine pk_le 700 (h / 8) (fun e => ?_) (fun e => ?_)
  · rw [if_neg (by omega), xrw_id rfl] at hP
    exact hP
  · rw [if_pos e, xrw_zup] at hP
    rw [xup_k (by omega), xup_k (by omega), h1, nI_add]
    refine pk_eq (h % 8) 0 (fun e2 => ⟨vp_in_nI e (by decide), ?_⟩) (fun e2 => ⟨vp_in_nI e (by decide), ?_⟩)
    · rw [if_pos e2] at hP; exact hP
    · rw [if_neg e2] at hP; exact hP
theorem l_Bits_put {I0 : zJ} {v : Int32} (hb : zbi c o) (hh : h + n < 2 ^ 30) (hn : n < 2 ^ 30) (hP : P (em I0 o 1 (o + 1) h (bsv v n))) : ∀ (k i : Nat), i + k = n → g_Bits_put_2 c J o v (nI n) (nI i) (em I0 o 1 (o + 1) h (bsv v i)) P T := by
  intro k
  induction k with
  | zero =>
    intro i hi
    obtain rfl : i = n := by omega
    exact t_Bits_put_2 hb (br_t (nI_le (Nat.le_refl _) (by omega)) hP)
  | succ k ih =>
    intro i hi
    refine t_Bits_put_2 hb (br_f (nI_ge (by omega) (by omega)) ?_)
    rw [(vb_eq v i).1, nI_add]
    refine v_putBit hb em_c (by rw [bsv_len]; omega) ?_
    rw [em_app (by omega)]
    exact ih (i + 1) (by omega)
theorem v_Bits_put {I : zJ} {v : Int32} (hb : zbi c o) (h1 : I o 1 = nI h) (hh : h + n < 2 ^ 30) (hP : P (em I o 1 (o + 1) h (bsv v n))) : c_Bits_put c J o v (nI n) I P T := by
  have := l_Bits_put (J := J) (T := T) hb hh (by omega) hP n 0 (by omega)
  rw [show bsv v 0 = [] from rfl, em_0 h1] at this
  exact t_Bits_put hb this
theorem l_M_put {I0 : zJ} {v : Int32} (hh : h + n < 2 ^ 30) (hP : P (em I0 83 7 86 h (bsv v n))) : ∀ (k i : Nat), i + k = n → g_M_put_2 c J v (nI n) (nI i) (em I0 83 7 86 h (bsv v i)) P T := by
  intro k
  induction k with
  | zero =>
    intro i hi
    obtain rfl : i = n := by omega
    exact t_M_put_2 (br_t (nI_le (Nat.le_refl _) (by omega)) hP)
  | succ k ih =>
    intro i hi
    have nx := ih (i + 1) (by omega)
    rw [show bsv v (i + 1) = bsv v i ++ [vb v i] from rfl, ← em_app (by decide)] at nx
    have hl := bsv_len v i
    have h7 : em I0 83 7 86 h (bsv v i) 83 7 = nI (h + (bsv v i).length) := em_c
    generalize em I0 83 7 86 h (bsv v i) = I at h7 nx
    rw [hl] at h7 nx
    have e1 : em I 83 7 86 (h + i) [vb v i] = xup (xrw I 86 (dpr (I 86) (h + i) (vb v i))) 83 7 (nI (h + i + 1)) := rfl
    rw [e1] at nx
    unfold dpr at nx
    refine t_M_put_2 (br_f (nI_ge (by omega) (by omega)) ?_)
    rw [h7, (vb_eq v i).1, pk_rem (by omega) (by decide) (by decide), pk_div (by omega) (by decide) (by decide), nc (by omega), nI_add, nI_add]
    refine pk_le 5600 (h + i) (fun e => ?_) (fun e => ?_)
    · rw [if_neg (by omega), xrw_id rfl] at nx
      exact nx
    · rw [if_pos (by omega), xrw_zup] at nx
      refine pk_eq ((h + i) % 8) 0 (fun e2 => ⟨vp_in_nI (by omega) (by decide), vp_in_nI (by omega) (by decide), ?_⟩) (fun e2 => ⟨vp_in_nI (by omega) (by decide), vp_in_nI (by omega) (by decide), nm_e ?_⟩)
      · rw [if_pos e2] at nx
        rw [xup_2, xup_s, xup_k (by decide), xup_k (by decide), h7, pk_rem (by omega) (by decide) (by decide), nI_add]
        exact nx
      · rw [if_neg e2] at nx
        rw [xup_2, xup_s, xup_k (by decide), xup_k (by decide), h7, pk_rem (by omega) (by decide) (by decide), nI_add]
        exact nx
theorem v_M_put {I : zJ} {v : Int32} (h1 : I 83 7 = nI h) (hh : h + n < 2 ^ 30) (hP : P (em I 83 7 86 h (bsv v n))) : c_M_put c J v (nI n) I P T := by
  have := l_M_put (c := c) (J := J) (T := T) hh hP n 0 (by omega)
  rw [show bsv v 0 = [] from rfl, em_0 h1] at this
  exact t_M_put this
end PU
