/-! COUNTS; the symbols of a code in their order; words. -/
/-- how many below s have q -/
def cntp (q : Nat → Bool) : Nat → Nat
  | 0 => 0
  | s + 1 => cntp q s + (if q s = true then 1 else 0)
theorem cntp_t {q : Nat → Bool} {s : Nat} (h : q s = true) : cntp q (s + 1) = cntp q s + 1 := by
  show cntp q s + (if q s = true then 1 else 0) = _
  rw [if_pos h]
theorem cntp_f {q : Nat → Bool} {s : Nat} (h : ¬ q s = true) : cntp q (s + 1) = cntp q s := by
  show cntp q s + (if q s = true then 1 else 0) = _
  rw [if_neg h]
  rfl
theorem cntp_le (q : Nat → Bool) : ∀ s, cntp q s ≤ s
  | 0 => Nat.le_refl 0
  | s + 1 => by
    have := cntp_le q s
    by_cases h : q s = true
    · rw [cntp_t h]; omega
    · rw [cntp_f h]; omega
theorem cntp_mono (q : Nat → Bool) (a : Nat) : ∀ n, cntp q a ≤ cntp q (a + n)
  | 0 => Nat.le_refl _
  | n + 1 => by
    have := cntp_mono q a n
    have h2 : cntp q (a + n) ≤ cntp q (a + n + 1) := Nat.le_add_right _ _
    exact Nat.le_trans this h2
theorem cntp_lt {q : Nat → Bool} {k s : Nat} (h : k < s) (hq : q k = true) : cntp q k < cntp q s := by
  have h1 := cntp_mono q (k + 1) (s - (k + 1))
  rw [show k + 1 + (s - (k + 1)) = s by omega, cntp_t hq] at h1
  omega
theorem cntp_inj {q : Nat → Bool} {a b : Nat} (ha : q a = true) (hb : q b = true) (h : cntp q a = cntp q b) : a = b := by
  rcases Nat.lt_trichotomy a b with h1 | h1 | h1
  · have := cntp_lt h1 ha; omega
  · exact h1
  · have := cntp_lt h1 hb; omega
theorem cntp_congr {q r : Nat → Bool} : ∀ s, (∀ k, k < s → q k = r k) → cntp q s = cntp r s
  | 0, _ => rfl
  | s + 1, h => by
    have h1 := cntp_congr s fun k hk => h k (by omega)
    show cntp q s + (if q s = true then 1 else 0) = cntp r s + (if r s = true then 1 else 0)
    rw [h1, h s (by omega)]
/-- two kinds that no number has at once -/
theorem cntp_or {q r t : Nat → Bool} : ∀ s, (∀ k, k < s → t k = (q k || r k) ∧ (q k && r k) = false) → cntp t s = cntp q s + cntp r s
  | 0, _ => rfl
  | s + 1, h => by
    have h1 := cntp_or s fun k hk => h k (by omega)
    obtain ⟨h2, h3⟩ := h s (by omega)
    show cntp t s + (if t s = true then 1 else 0) = cntp q s + (if q s = true then 1 else 0) + (cntp r s + (if r s = true then 1 else 0))
    rw [h1, h2]
    revert h3
    cases q s <;> cases r s <;> intro h3 <;> simp at h3 <;> simp <;> omega
/-- the number (below s) of the one that has q and off of them ahead -/
def nthp (q : Nat → Bool) (off : Nat) : Nat → Nat
  | 0 => 0
  | s + 1 => if q s = true ∧ cntp q s = off then s else nthp q off s
theorem nthp_eq {q : Nat → Bool} {k : Nat} (hq : q k = true) : ∀ s, k < s → nthp q (cntp q k) s = k
  | 0, h => absurd h (Nat.not_lt_zero _)
  | s + 1, h => by
    unfold nthp
    by_cases e : q s = true ∧ cntp q s = cntp q k
    · rw [if_pos e]; exact cntp_inj e.1 hq e.2
    · rw [if_neg e]
      have : k ≠ s := fun z => e ⟨z ▸ hq, by rw [z]⟩
      exact nthp_eq hq s (by omega)
theorem nthp_ex {q : Nat → Bool} {off : Nat} : ∀ s, off < cntp q s → ∃ k, k < s ∧ q k = true ∧ cntp q k = off
  | 0, h => absurd h (Nat.not_lt_zero _)
  | s + 1, h => by
    by_cases e : q s = true
    · rw [cntp_t e] at h
      by_cases e2 : cntp q s = off
      · exact ⟨s, by omega, e, e2⟩
      · obtain ⟨k, h1, h2⟩ := nthp_ex (q := q) (off := off) s (by omega); exact ⟨k, by omega, h2⟩
    · rw [cntp_f e] at h
      obtain ⟨k, h1, h2⟩ := nthp_ex (q := q) (off := off) s h; exact ⟨k, by omega, h2⟩
theorem nthp_spec {q : Nat → Bool} {off s : Nat} (h : off < cntp q s) : nthp q off s < s ∧ q (nthp q off s) = true ∧ cntp q (nthp q off s) = off := by
  obtain ⟨k, h1, h2, rfl⟩ := nthp_ex s h
  rw [nthp_eq h2 s h1]
  exact ⟨h1, h2, rfl⟩
theorem nthp_lt (q : Nat → Bool) (off : Nat) : ∀ s, 0 < s → nthp q off s < s
  | 0, h => absurd h (Nat.lt_irrefl 0)
  | s + 1, _ => by
    unfold nthp
    by_cases e : q s = true ∧ cntp q s = off
    · rw [if_pos e]; omega
    · rw [if_neg e]
      cases s with
      | zero => exact Nat.lt_succ_self 0
      | succ s => have := nthp_lt q off (s + 1) (by omega); omega
/-- symbols of this length; with some length; shorter than this -/
abbrev qe (l : Nat → Nat) (x : Nat) : Nat → Bool := fun k => decide (l k = x)
abbrev qp (l : Nat → Nat) : Nat → Bool := fun k => decide (0 < l k)
abbrev ql (l : Nat → Nat) (x : Nat) : Nat → Bool := fun k => decide (0 < l k ∧ l k < x)
theorem cq_0 (l : Nat → Nat) (s : Nat) : cntp (qe l 0) s + cntp (qp l) s = s := by
  have h : cntp (fun _ => true) s = cntp (qe l 0) s + cntp (qp l) s := cntp_or s fun k _ => by
    by_cases h : l k = 0
    · simp [h]
    · simp [h, Nat.pos_of_ne_zero h]
  rw [← h]
  clear h
  induction s with
  | zero => rfl
  | succ s ih => rw [cntp_t rfl, ih]
theorem cq_1 (l : Nat → Nat) (s : Nat) : cntp (ql l 1) s = 0 := by
  induction s with
  | zero => rfl
  | succ s ih => rw [cntp_f (by simp; omega), ih]
theorem cq_s (l : Nat → Nat) (s x : Nat) (hx : 0 < x) : cntp (ql l (x + 1)) s = cntp (ql l x) s + cntp (qe l x) s :=
  cntp_or s fun k _ => by
    by_cases h1 : l k = x
    · subst h1; simp; omega
    · by_cases h2 : 0 < l k <;> by_cases h3 : l k < x <;> simp [h1, h2, h3] <;> omega
theorem cq_p (l : Nat → Nat) (s x : Nat) (hl : ∀ k, k < s → l k < x) : cntp (ql l x) s = cntp (qp l) s :=
  cntp_congr s fun k hk => by have := hl k hk; simp [this]
/-- the first word of each length -/
def wrd (l : Nat → Nat) (s : Nat) : Nat → Nat
  | 0 => 0
  | x + 1 => 2 * (wrd l s x + (if x = 0 then 0 else cntp (qe l x) s))
/-- the room that the words take, of 32768: by symbols, by lengths -/
def kr (l : Nat → Nat) : Nat → Nat
  | 0 => 0
  | s + 1 => kr l s + (if 0 < l s then 2 ^ (15 - l s) else 0)
def krl (l : Nat → Nat) (s : Nat) : Nat → Nat
  | 0 => 0
  | x + 1 => krl l s x + cntp (qe l (x + 1)) s * 2 ^ (15 - (x + 1))
theorem krl_0 (l : Nat → Nat) : ∀ x, krl l 0 x = 0
  | 0 => rfl
  | x + 1 => by
    show krl l 0 x + 0 * _ = 0
    rw [krl_0 l x, Nat.zero_mul]
theorem krl_s (l : Nat → Nat) (s : Nat) : ∀ x, krl l (s + 1) x = krl l s x + (if 0 < l s ∧ l s ≤ x then 2 ^ (15 - l s) else 0)
  | 0 => by
    show 0 = 0 + _
    rw [if_neg (by omega)]
  | x + 1 => by
    show krl l (s + 1) x + cntp (qe l (x + 1)) (s + 1) * 2 ^ (15 - (x + 1)) = krl l s x + cntp (qe l (x + 1)) s * 2 ^ (15 - (x + 1)) + _
    rw [krl_s l s x]
    by_cases h : l s = x + 1
    · rw [cntp_t (by simp [h]), Nat.add_mul, if_neg (by omega), if_pos (by omega), h]; omega
    · rw [cntp_f (by simp [h])]
      by_cases h2 : 0 < l s ∧ l s ≤ x
      · rw [if_pos h2, if_pos (by omega)]; omega
      · rw [if_neg h2, if_neg (by omega)]; omega
theorem krl_kr (l : Nat → Nat) : ∀ s, (∀ k, k < s → l k ≤ 15) → krl l s 15 = kr l s
  | 0, _ => krl_0 l 15
  | s + 1, h => by
    rw [krl_s, krl_kr l s fun k hk => h k (by omega)]
    show _ = kr l s + (if 0 < l s then 2 ^ (15 - l s) else 0)
    have := h s (by omega)
    by_cases h2 : 0 < l s
    · rw [if_pos h2, if_pos ⟨h2, this⟩]
    · rw [if_neg h2, if_neg (by omega)]
theorem kr_le (l : Nat → Nat) : ∀ s, kr l s ≤ s * 16384
  | 0 => Nat.le_refl _
  | s + 1 => by
    have h := kr_le l s
    show kr l s + (if 0 < l s then 2 ^ (15 - l s) else 0) ≤ (s + 1) * 16384
    by_cases h2 : 0 < l s
    · rw [if_pos h2]
      have : (2 : Nat) ^ (15 - l s) ≤ 2 ^ 14 := Nat.pow_le_pow_right (by decide) (by omega)
      have e : (2 : Nat) ^ 14 = 16384 := rfl
      rw [e] at this
      omega
    · rw [if_neg h2]
      exact Nat.le_trans h (Nat.mul_le_mul_right _ (Nat.le_succ s))
theorem kr_0 (l : Nat → Nat) : ∀ s, cntp (qp l) s = 0 → kr l s = 0
  | 0, _ => rfl
  | s + 1, h => by
    by_cases h2 : 0 < l s
    · rw [cntp_t (by simp [h2])] at h; omega
    · rw [cntp_f (by simp; omega)] at h
      show kr l s + (if 0 < l s then _ else 0) = 0
      rw [if_neg h2, kr_0 l s h]
theorem krl_mono (l : Nat → Nat) (s x : Nat) : krl l s x ≤ krl l s (x + 1) := Nat.le_add_right _ _
/-- a good code -/
def gd (l : Nat → Nat) (s : Nat) : Prop := cntp (qp l) s = 1 ∨ kr l s = 32768
/-- the last symbol with a length -/
def sole (l : Nat → Nat) : Nat → Nat
  | 0 => 0
  | s + 1 => if 0 < l s then s else sole l s
theorem sole_lt (l : Nat → Nat) : ∀ s, 0 < s → sole l s < s
  | 0, h => absurd h (Nat.lt_irrefl 0)
  | s + 1, _ => by
    unfold sole
    by_cases e : 0 < l s
    · rw [if_pos e]; omega
    · rw [if_neg e]
      cases s with
      | zero => exact Nat.lt_succ_self 0
      | succ s => have := sole_lt l (s + 1) (by omega); omega
theorem sole_pos {l : Nat → Nat} : ∀ s, 0 < cntp (qp l) s → 0 < l (sole l s) ∧ sole l s < s
  | 0, h => absurd h (Nat.lt_irrefl 0)
  | s + 1, h => by
    unfold sole
    by_cases e : 0 < l s
    · rw [if_pos e]; exact ⟨e, by omega⟩
    · rw [if_neg e]
      rw [cntp_f (by simp; omega)] at h
      have := sole_pos s h
      exact ⟨this.1, by omega⟩
/-- a word heard bit by bit: so many lengths are left, this length, how far behind its first word, the place -/
def hearL (B : Nat → Int32) (N : Nat) (l : Nat → Nat) (s : Nat) : Nat → Nat → Nat → Nat → Option (Nat × Nat)
  | 0, _, _, _ => none
  | k + 1, x, off, p => if p + 1 ≤ N then (if 2 * off + nb B p < cntp (qe l x) s then some (nthp (qe l x) (2 * off + nb B p) s, p + 1) else hearL B N l s k (x + 1) (2 * off + nb B p - cntp (qe l x) s) (p + 1)) else none
def pHear (B : Nat → Int32) (N : Nat) (l : Nat → Nat) (s p : Nat) : Option (Nat × Nat) := if cntp (qp l) s = 1 then some (sole l s, p) else hearL B N l s 15 1 0 p
