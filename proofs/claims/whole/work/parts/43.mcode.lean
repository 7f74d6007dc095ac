/-! THE REFERENCE: bits, a code's symbols. -/
/-- nothing changed but in these places, and of the reference's own fields these -/
def mf (S F : List Nat) (I I1 : zJ) : Prop := (∀ a, a ≠ 83 → a ∉ S → I1 a = I a) ∧ ∀ f, f ∉ F → I1 83 f = I 83 f
section MF
variable {S S' F F' : List Nat} {I I1 I2 : zJ} {a i lo hi : Nat} {v : Int32}
theorem mf_0 : mf S F I I := ⟨fun _ _ _ => rfl, fun _ _ => rfl⟩
theorem mf_t (h : mf S F I I1) (h2 : mf S F I1 I2) : mf S F I I2 := ⟨fun a h3 h4 => (h2.1 a h3 h4).trans (h.1 a h3 h4), fun f h3 => (h2.2 f h3).trans (h.2 f h3)⟩
theorem mf_s (h : mf S F I I1) (hs : ∀ a, a ∈ S → a ∈ S') (hf : ∀ a, a ∈ F → a ∈ F') : mf S' F' I I1 := ⟨fun a h3 h4 => h.1 a h3 fun z => h4 (hs a z), fun f h3 => h.2 f fun z => h3 (hf f z)⟩
theorem mf_u (h : mf S F I I1) (ha : a ∈ S) (h83 : a ≠ 83) : mf S F I (xup I1 a i v) := ⟨fun b h3 h4 => (xup_r (fun z : b = a => h4 (z ▸ ha))).trans (h.1 b h3 h4), fun f h3 => (xup_k h83.symm).trans (h.2 f h3)⟩
theorem mf_f (h : mf S F I I1) (ha : i ∈ F) : mf S F I (xup I1 83 i v) := ⟨fun b h3 h4 => (xup_r h3).trans (h.1 b h3 h4), fun f h3 => (xup_i (fun z : f = i => h3 (z ▸ ha))).trans (h.2 f h3)⟩
theorem mf_fil (h : mf S F I I1) (ha : a ∈ S) (h83 : a ≠ 83) : mf S F I (xfil I1 a lo hi v) := ⟨fun b h3 h4 => (xfil_r (fun z : b = a => h4 (z ▸ ha))).trans (h.1 b h3 h4), fun f h3 => (congrFun (xfil_r h83.symm) f).trans (h.2 f h3)⟩
end MF
/-- behind a fault: so much changed, the fault noted, the place within the stream -/
def bdp (S F : List Nat) (N : Nat) (I I1 : zJ) : Prop := mf S F I I1 ∧ I1 83 9 = nI 1 ∧ ∃ q, q ≤ N ∧ I1 83 8 = nI q
/-- the reference's stream -/
def mst (I : zJ) (B : Nat → Int32) (n : Nat) : Prop := n ≤ 700 ∧ I 83 5 = nI n ∧ I 85 = B ∧ ∀ k, k < 19 → I 105 k = nI (zord k)
theorem mst_mf {S F : List Nat} {I I1 : zJ} {B : Nat → Int32} {n : Nat} (h : mst I B n) (hf : mf S F I I1) (h1 : 85 ∉ S) (h3 : 105 ∉ S) (h2 : 5 ∉ F) : mst I1 B n := ⟨h.1, (hf.2 5 h2).trans h.2.1, (hf.1 85 (by decide) h1).trans h.2.2.1, fun k hk => (congrFun (hf.1 105 (by decide) h3) k).trans (h.2.2.2 k hk)⟩
theorem mst_f {I : zJ} {B : Nat → Int32} {n i : Nat} {v : Int32} (h : mst I B n) (h2 : 5 ≠ i) : mst (xup I 83 i v) B n := ⟨h.1, (xup_i h2).trans h.2.1, (xup_r (by decide)).trans h.2.2.1, fun k hk => (xup_k (by decide)).trans (h.2.2.2 k hk)⟩
section MB
variable {c : zC} {J : zK} {n N p x b : Nat} {B : Nat → Int32} {T : Nat → zJ → Prop} {P : Int32 → zJ → Prop}
theorem v_M_bit {I : zJ} (hs : mst I B n) (hN : N = 8 * n) (h8 : I 83 8 = nI p) (hp : p ≤ N) (hG : p + 1 ≤ N → P (nI (nb B p)) (xup I 83 8 (nI (p + 1)))) (hX : ¬ p + 1 ≤ N → P (nI 0) (xup I 83 9 (nI 1))) : c_M_bit c J I P T := by
  obtain ⟨h1, h2, h3, -⟩ := hs
  refine t_M_bit ?_
  rw [h8, h2, pk_mul]
  refine pk_lt p (8 * n) (fun h => ?_) (fun h => hX (by omega))
  rw [pk_rem (by omega) (by decide) (by decide), pk_div (by omega) (by decide) (by decide), nc (by omega), h3, (nb_eq B p).1, nI_add]
  exact ⟨vp_in_nI (by omega) (by decide), hG (by omega)⟩
theorem l_M_bitsX {I0 : zJ} (hx : x ≤ 30) (hN : N = 8 * n) (hs0 : mst I0 B n) (hX : ∀ v I1, v < 2 ^ x → bdp [] [8, 9] N I0 I1 → P (nI v) I1) : ∀ (k i m : Nat) (I : zJ), i + k = x → m < 2 ^ i → bdp [] [8, 9] N I0 I → g_M_bits_4 c J (nI x) (nI m) (nI i) I P T := by
  intro k
  induction k with
  | zero =>
    intro i m I hi hm hb
    obtain rfl : i = x := by omega
    exact t_M_bits_4 (br_t (nI_le (Nat.le_refl _) (by omega)) (hX m I hm hb))
  | succ k ih =>
    intro i m I hi hm hb
    obtain ⟨hmf, h9, q, hq, h8⟩ := hb
    have hs : mst I B n := mst_mf hs0 hmf (by decide) (by decide) (by decide)
    have hpow : (2 : Nat) ^ (i + 1) = 2 ^ i * 2 := Nat.pow_succ _ _
    refine t_M_bits_4 (br_f (nI_ge (by omega) (by omega)) (v_M_bit hs hN h8 hq (fun h => ?_) (fun h => ?_)))
    · have hnb := nb_lt B q
      have : nb B q * 2 ^ i ≤ 1 * 2 ^ i := Nat.mul_le_mul_right _ (by omega)
      rw [z_bit hm hnb (by omega), nI_add]
      exact ih (i + 1) _ _ (by omega) (by omega) ⟨mf_f hmf (by decide), by rw [xup_i (by decide)]; exact h9, q + 1, h, xup_s⟩
    · rw [z_bit (b := 0) hm (by omega) (by omega), nI_add]
      exact ih (i + 1) _ _ (by omega) (by omega) ⟨mf_f hmf (by decide), xup_s, q, hq, by rw [xup_i (by decide)]; exact h8⟩
theorem l_M_bitsG {I0 : zJ} (hx : x ≤ 30) (hN : N = 8 * n) (hs0 : mst I0 B n) (hp : p ≤ N) (hG : p + x ≤ N → P (nI (num B p x)) (xup I0 83 8 (nI (p + x)))) (hX : ¬ p + x ≤ N → ∀ v I1, v < 2 ^ x → bdp [] [8, 9] N I0 I1 → P (nI v) I1) :
    ∀ (k i : Nat), i + k = x → p + i ≤ N → g_M_bits_4 c J (nI x) (nI (num B p i)) (nI i) (xup I0 83 8 (nI (p + i))) P T := by
  intro k
  induction k with
  | zero =>
    intro i hi hpi
    obtain rfl : i = x := by omega
    exact t_M_bits_4 (br_t (nI_le (Nat.le_refl _) (by omega)) (hG hpi))
  | succ k ih =>
    intro i hi hpi
    refine t_M_bits_4 (br_f (nI_ge (by omega) (by omega)) (v_M_bit (mst_f hs0 (by decide)) hN xup_s hpi (fun h => ?_) (fun h => ?_)))
    · rw [xup_2, z_bit (num_lt B p i) (nb_lt B (p + i)) (by omega), nI_add]
      exact ih (i + 1) (by omega) (by omega)
    · rw [z_bit (b := 0) (num_lt B p i) (by omega) (by omega), nI_add]
      have h1 := num_lt B p i
      have hpow : (2 : Nat) ^ (i + 1) = 2 ^ i * 2 := Nat.pow_succ _ _
      exact l_M_bitsX hx hN hs0 (hX (by omega)) k (i + 1) _ _ (by omega) (by omega) ⟨mf_f (mf_f mf_0 (by decide)) (by decide), xup_s, p + i, hpi, by rw [xup_i (by decide)]; exact xup_s⟩
/-- so many bits: as they are, or behind a fault anything that fits -/
theorem v_M_bits {I : zJ} (hs : mst I B n) (hN : N = 8 * n) (hx : x ≤ 30) (h8 : I 83 8 = nI p) (hp : p ≤ N) (h9 : I 83 9 = nI b) (hb : b < 2)
    (hG : b = 0 → ∀ v q, pNum B N x p = some (v, q) → v < 2 ^ x → q ≤ N → P (nI v) (xup I 83 8 (nI q))) (hX : b = 0 ∧ pNum B N x p = none ∨ b = 1 → ∀ v I1, v < 2 ^ x → bdp [] [8, 9] N I I1 → P (nI v) I1) : c_M_bits c J (nI x) I P T := by
  refine t_M_bits ?_
  by_cases e : b = 0
  · have := l_M_bitsG (c := c) (J := J) (P := P) (T := T) hx hN hs hp (fun h => hG e _ _ (if_pos h) (num_lt B p x) h) (fun h => hX (Or.inl ⟨e, if_neg h⟩)) x 0 (by omega) hp
    rw [Nat.add_zero, xup_id h8] at this
    exact this
  · exact l_M_bitsX hx hN hs (hX (Or.inr (by omega))) x 0 0 I (by omega) (by decide) ⟨mf_0, by rw [h9, show b = 1 by omega], p, hp, h8⟩
end MB
def zb (k : Nat) : Nat := if k = 0 then 0 else if k < 4 then 40 + 256 * k else if k = 4 then 1064 else 1104
theorem f_base {k : Nat} (h : k < 6) (I : zJ) : f_M_base (nI k) I = nI (zb k) := by
  match k, h with
  | 0, _ => rfl
  | 1, _ => rfl
  | 2, _ => rfl
  | 3, _ => rfl
  | 4, _ => rfl
  | 5, _ => rfl
  | n + 6, h => omega
/-- the reference's code: so many symbols, these lengths -/
def mcd (I : zJ) (k s : Nat) (l : Nat → Nat) : Prop := k < 6 ∧ zb k + s ≤ 1123 ∧ 0 < s ∧ I 89 k = nI s ∧ ∀ j, j < s → I 87 (zb k + j) = nI (l j) ∧ l j ≤ 15
/-- weighed -/
def mrd (I : zJ) (k s : Nat) (l : Nat → Nat) : Prop := mcd I k s l ∧ I 90 k = if cntp (qp l) s = 1 then nI (sole l s) else -1
theorem mcd_mf {S F : List Nat} {I I1 : zJ} {k s : Nat} {l : Nat → Nat} (h : mcd I k s l) (hf : mf S F I I1) (h1 : 87 ∉ S) (h2 : 89 ∉ S) : mcd I1 k s l := by
  unfold mcd
  rw [hf.1 87 (by decide) h1, hf.1 89 (by decide) h2]
  exact h
theorem mrd_mf {S F : List Nat} {I I1 : zJ} {k s : Nat} {l : Nat → Nat} (h : mrd I k s l) (hf : mf S F I I1) (h1 : 87 ∉ S) (h2 : 89 ∉ S) (h3 : 90 ∉ S) : mrd I1 k s l := by
  refine ⟨mcd_mf h.1 hf h1 h2, ?_⟩
  rw [hf.1 90 (by decide) h3]
  exact h.2
section MC
variable {c : zC} {J : zK} {n N p x k s b : Nat} {l : Nat → Nat} {B : Nat → Int32} {T : Nat → zJ → Prop}
theorem l_M_many {P : Int32 → zJ → Prop} {I : zJ} (h : mcd I k s l) (hx : x < 2 ^ 31) (hP : P (nI (cntp (qe l x) s)) I) : ∀ (j i : Nat), i + j = s → g_M_many_8 c J (nI k) (nI x) (nI (cntp (qe l x) i)) (nI (zb k + i)) I P T := by
  obtain ⟨h1, h2, h3, h4, h5⟩ := h
  intro j
  induction j with
  | zero =>
    intro i hi
    obtain rfl : i = s := by omega
    refine t_M_many_8 ⟨vp_in_nI h1 (by decide), ?_⟩
    rw [f_base h1, nc (by omega), h4, nI_add]
    exact br_t (nI_le (Nat.le_refl _) (by omega)) hP
  | succ j ih =>
    intro i hi
    have hl := h5 i (by omega)
    refine t_M_many_8 ⟨vp_in_nI h1 (by decide), ?_⟩
    rw [f_base h1, nc (by omega), h4, nI_add]
    refine br_f (nI_ge (by omega) (by omega)) ⟨vp_in_nI (by omega) (by decide), ?_⟩
    rw [nc (by omega), hl.1, nI_add, nI_add]
    refine pk_eq (l i) x (fun e => ?_) (fun e => ?_)
    · have := ih (i + 1) (by omega)
      rw [cntp_t (by simp [e])] at this
      exact this
    · have := ih (i + 1) (by omega)
      rw [cntp_f (by simp [e])] at this
      exact this
theorem v_M_many {P : Int32 → zJ → Prop} {I : zJ} (h : mcd I k s l) (hx : x < 2 ^ 31) (hP : P (nI (cntp (qe l x) s)) I) : c_M_many c J (nI k) (nI x) I P T := by
  refine t_M_many ?_
  rw [f_base h.1]
  exact l_M_many h hx hP s 0 (by omega)
theorem l_M_symbolAt {P : Int32 → zJ → Prop} {I : zJ} {off : Nat} (h : mcd I k s l) (hx : x < 2 ^ 31) (ho : off < cntp (qe l x) s) (hP : P (nI (nthp (qe l x) off s)) I) : ∀ (j i : Nat), i + j = s → cntp (qe l x) i ≤ off → g_M_symbolAt_6 c J (nI k) (nI x) (nI (off - cntp (qe l x) i)) (nI i) I P T := by
  obtain ⟨h1, h2, h3, h4, h5⟩ := h
  have hcs := cntp_le (qe l x) s
  intro j
  induction j with
  | zero =>
    intro i hi hc
    obtain rfl : i = s := by omega
    omega
  | succ j ih =>
    intro i hi hc
    have hl := h5 i (by omega)
    refine t_M_symbolAt_6 ⟨vp_in_nI h1 (by decide), ?_⟩
    rw [f_base h1, nc (by omega), h4, nI_add]
    refine br_f (nI_ge (by omega) (by omega)) ⟨vp_in_nI (by omega) (by decide), ?_⟩
    rw [nc (by omega), hl.1, nI_add]
    refine pk_eq (l i) x (fun e => ?_) (fun e => ?_)
    · refine pk_eq (off - cntp (qe l x) i) 0 (fun e2 => ?_) (fun e2 => ?_)
      · have := nthp_eq (q := qe l x) (k := i) (by simp [e]) s (by omega)
        rw [show cntp (qe l x) i = off by omega] at this
        rw [this] at hP
        exact hP
      · have := ih (i + 1) (by omega) (by rw [cntp_t (by simp [e])]; omega)
        rw [cntp_t (by simp [e])] at this
        rw [show off - cntp (qe l x) i = off - (cntp (qe l x) i + 1) + 1 by omega, pk_m1]
        exact this
    · have := ih (i + 1) (by omega) (by rw [cntp_f (by simp [e])]; exact hc)
      rw [cntp_f (by simp [e])] at this
      exact this
theorem v_M_symbolAt {P : Int32 → zJ → Prop} {I : zJ} {off : Nat} (h : mcd I k s l) (hx : x < 2 ^ 31) (ho : off < cntp (qe l x) s) (hP : P (nI (nthp (qe l x) off s)) I) : c_M_symbolAt c J (nI k) (nI off) (nI x) I P T :=
  t_M_symbolAt (l_M_symbolAt h hx ho hP s 0 (by omega) (Nat.zero_le _))
/-- a word heard: from length x on -/
theorem l_M_symbol {P : Int32 → zJ → Prop} {I0 : zJ} (h : mcd I0 k s l) (hs : mst I0 B n) (hN : N = 8 * n) (h9 : I0 83 9 = nI 0) :
    ∀ (j x w f off p : Nat), x + j = 16 → 0 < x → w < 2 ^ x → f ≤ 2 * w → 2 * w - f = 2 * off → p ≤ N → (∀ v q, hearL B N l s j x off p = some (v, q) → P (nI v) (xup I0 83 8 (nI q))) → (hearL B N l s j x off p = none → ∀ v I1, v < s → bdp [] [8, 9] N I0 I1 → P (nI v) I1) →
    g_M_symbol_23 c J (nI k) (nI w) (nI f) (nI x) (xup I0 83 8 (nI p)) P T := by
  intro j
  induction j with
  | zero =>
    intro x w f off p hx h1 hw hf he hp hP hX
    obtain rfl : x = 16 := by omega
    exact t_M_symbol_23 (br_t (by decide) (hX rfl 0 _ h.2.2.1 ⟨mf_f (mf_f mf_0 (by decide)) (by decide), xup_s, p, hp, by rw [xup_i (by decide)]; exact xup_s⟩))
  | succ j ih =>
    intro x w f off p hx h1 hw hf he hp hP hX
    have hw16 : w < 2 ^ 16 := Nat.lt_of_lt_of_le hw (Nat.pow_le_pow_right (by decide) (by omega))
    have hcl := cntp_le (qe l x) s
    have hcd : ∀ {i : Nat} {v : Int32} {I : zJ}, mcd I k s l → mcd (xup I 83 i v) k s l := fun {i v I} h => mcd_mf h (mf_f (S := []) (F := [i]) mf_0 (by simp)) (by decide) (by decide)
    refine t_M_symbol_23 (br_f (nI_ge (by omega) (by decide)) (br_t (by rw [xup_i (by decide)]; exact h9) (v_M_bit (mst_f hs (by decide)) hN xup_s hp (fun hq => ?_) (fun hq => ?_))))
    · have hnb := nb_lt B p
      refine v_M_many (hcd (hcd h)) (by omega) ?_
      rw [pk_mul, nI_add, pk_sub (by omega), xup_2, nI_add, pk_mul, nI_add]
      have hunf : hearL B N l s (j + 1) x off p = if 2 * off + nb B p < cntp (qe l x) s then some (nthp (qe l x) (2 * off + nb B p) s, p + 1) else hearL B N l s j (x + 1) (2 * off + nb B p - cntp (qe l x) s) (p + 1) := by
        show (if p + 1 ≤ N then _ else _) = _
        rw [if_pos hq]
      rw [hunf] at hP hX
      have hs1 : 1123 ≥ s := by have := h.2.1; omega
      refine pk_le (cntp (qe l x) s) (2 * w + nb B p - f) (fun e => ?_) (fun e => ?_)
      · rw [if_neg (by omega)] at hP hX
        exact ih (x + 1) _ _ _ (p + 1) (by omega) (by omega) (by rw [Nat.pow_succ]; omega) (by omega) (by omega) hq hP hX
      · rw [if_pos (by omega)] at hP
        refine v_M_symbolAt (hcd h) (by omega) (by omega) ?_
        rw [show 2 * w + nb B p - f = 2 * off + nb B p by omega]
        exact hP _ _ rfl
    · have hX := hX (by show (if p + 1 ≤ N then _ else _) = _; rw [if_neg hq])
      refine v_M_many (hcd (hcd h)) (by omega) ?_
      rw [pk_mul, nI_add, pk_sub (by omega), nI_add, pk_mul, nI_add]
      have hs1 : 1123 ≥ s := by have := h.2.1; omega
      have hbd : bdp [] [8, 9] N I0 (xup (xup I0 83 8 (nI p)) 83 9 (nI 1)) := ⟨mf_f (mf_f mf_0 (by decide)) (by decide), xup_s, p, hp, by rw [xup_i (by decide)]; exact xup_s⟩
      refine pk_le (cntp (qe l x) s) (2 * w + 0 - f) (fun e => ?_) (fun e => ?_)
      · have hfin : P (nI 0) (xup (xup (xup I0 83 8 (nI p)) 83 9 (nI 1)) 83 9 (nI 1)) := by
          rw [xup_2]
          exact hX 0 _ h.2.2.1 hbd
        refine t_M_symbol_23 ?_
        by_cases e16 : 16 ≤ x + 1
        · exact br_t (nI_le e16 (by omega)) hfin
        · refine br_f (nI_ge (by omega) (by omega)) (br_f ?_ hfin)
          rw [xup_s]
          decide
      · refine v_M_symbolAt (hcd (hcd h)) (by omega) e ?_
        exact hX _ _ (nthp_spec e).1 hbd
theorem v_M_symbol {P : Int32 → zJ → Prop} {I : zJ} (h : mrd I k s l) (hs : mst I B n) (hN : N = 8 * n) (h8 : I 83 8 = nI p) (hp : p ≤ N) (h9 : I 83 9 = nI b) (hb : b < 2)
    (hG : b = 0 → ∀ v q, pHear B N l s p = some (v, q) → P (nI v) (xup I 83 8 (nI q))) (hX : b = 0 ∧ pHear B N l s p = none ∨ b = 1 → ∀ v I1, v < s → bdp [] [8, 9] N I I1 → P (nI v) I1) : c_M_symbol c J (nI k) I P T := by
  obtain ⟨hm, ha⟩ := h
  have hs1 : 1123 ≥ s := by have := hm.2.1; omega
  have hsl := sole_lt l s hm.2.2.1
  refine t_M_symbol ⟨vp_in_nI hm.1 (by decide), ?_⟩
  rw [nc (by have := hm.1; omega), ha]
  by_cases e : cntp (qp l) s = 1
  · rw [if_pos e]
    refine br_f (nI_nlt (Nat.zero_le _) (by omega)) ⟨vp_in_nI hm.1 (by decide), ?_⟩
    by_cases eb : b = 0
    · have := hG eb (sole l s) p (if_pos e)
      rw [xup_id h8] at this
      exact this
    · exact hX (Or.inr (by omega)) _ _ hsl ⟨mf_0, by rw [h9, show b = 1 by omega], p, hp, h8⟩
  · rw [if_neg e]
    refine br_t (by decide) ?_
    by_cases eb : b = 0
    · subst eb
      have hg := hG rfl
      have hx := fun z => hX (Or.inl ⟨rfl, z⟩)
      unfold pHear at hg hx
      rw [if_neg e] at hg hx
      have := l_M_symbol (c := c) (J := J) (T := T) hm hs hN h9 15 1 0 0 0 p (by decide) (by decide) (by decide) (by decide) (by decide) hp hg hx
      rw [xup_id h8] at this
      exact this
    · have hbd : bdp [] [8, 9] N I (xup I 83 9 (nI 1)) := ⟨mf_f mf_0 (by decide), xup_s, p, hp, by rw [xup_i (by decide)]; exact h8⟩
      refine t_M_symbol_23 (br_f (by decide) (br_f ?_ (hX (Or.inr (by omega)) 0 _ hm.2.2.1 hbd)))
      rw [h9, show b = 1 by omega]
      decide
end MC
