/-! READS AND WRITES OF THE INTS; small numbers; bits. -/
section RW
variable {f : zJ} {k i a b j l : Nat} {v w : Int32}
theorem xup_s : xup f k i v k i = v := if_pos ⟨rfl, rfl⟩
theorem xup_n (h : ¬ (a = k ∧ b = i)) : xup f k i v a b = f a b := if_neg h
theorem xup_k (h : a ≠ k) : xup f k i v a b = f a b := if_neg fun z => h z.1
theorem xup_i (h : b ≠ i) : xup f k i v a b = f a b := if_neg fun z => h z.2
theorem xup_r (h : a ≠ k) : xup f k i v a = f a := by
  funext b
  exact xup_k h
theorem xup_2 : xup (xup f k i v) k i w = xup f k i w := by
  funext a b
  unfold xup
  by_cases h : a = k ∧ b = i
  · rw [if_pos h, if_pos h]
  · rw [if_neg h, if_neg h, if_neg h]
theorem xup_id (h : f k i = v) : xup f k i v = f := by
  funext a b
  unfold xup
  by_cases h2 : a = k ∧ b = i
  · rw [if_pos h2, h2.1, h2.2, h]
  · rw [if_neg h2]
theorem xup_c (h : ¬ (k = j ∧ i = l)) : xup (xup f k i v) j l w = xup (xup f j l w) k i v := by
  funext a b
  unfold xup
  by_cases h1 : a = j ∧ b = l
  · rw [if_pos h1, if_neg (fun z => h ⟨z.1.symm.trans h1.1, z.2.symm.trans h1.2⟩), if_pos h1]
  · rw [if_neg h1, if_neg h1]
end RW
theorem z_sl : ∀ n, n < 32 → ((nI n &&& 31).toBitVec.smod 32).toNat = n := by decide
theorem z_slA (n : Nat) (h : n < 32) : ((nI n &&& nI 31).toBitVec.smod 32).toNat = n := z_sl n h
theorem z_or (a b : Nat) : nI a ||| nI b = nI (a ||| b) := by
  apply Int32.toBitVec_inj.mp
  apply BitVec.eq_of_toNat_eq
  show (BitVec.ofNat 32 a ||| BitVec.ofNat 32 b).toNat = (BitVec.ofNat 32 (a ||| b)).toNat
  rw [BitVec.toNat_or, BitVec.toNat_ofNat, BitVec.toNat_ofNat, BitVec.toNat_ofNat, Nat.or_mod_two_pow]
/-- a bit put behind a number of n bits -/
theorem z_bit {m n b : Nat} (hm : m < 2 ^ n) (hb : b < 2) (hn : n < 31) : nI m ||| (nI b <<< (nI n &&& 31)) = nI (m + b * 2 ^ n) := by
  have h1 : b * 2 ^ n < 2 ^ 32 := by
    have : (2 : Nat) ^ n ≤ 2 ^ 30 := Nat.pow_le_pow_right (by decide) (by omega)
    have h2 : b * 2 ^ n ≤ 1 * 2 ^ 30 := Nat.mul_le_mul (by omega) this
    omega
  rw [pk_shlN _ n (z_sl n (by omega)) h1, z_or, Nat.add_comm m, Nat.mul_comm b, Nat.two_pow_add_eq_or_of_lt hm, Nat.or_comm]
/-- bit j of a row of bytes -/
def nb (B : Nat → Int32) (j : Nat) : Nat := ((B (j / 8) >>> (nI (j % 8) &&& 31)) &&& nI 1).toNatClampNeg
theorem nb_eq (B : Nat → Int32) (j : Nat) : (B (j / 8) >>> (nI (j % 8) &&& 31)) &&& nI 1 = nI (nb B j) ∧ nb B j < 2 := by
  obtain ⟨k, hk, e⟩ := pk_andE (B (j / 8) >>> (nI (j % 8) &&& 31)) (m := nI 1) 1 rfl
  unfold nb
  rw [e, nI_clamp (by omega)]
  exact ⟨rfl, hk⟩
theorem nb_lt (B : Nat → Int32) (j : Nat) : nb B j < 2 := (nb_eq B j).2
/-- n bits from p on as a number, the first the least -/
def num (B : Nat → Int32) (p : Nat) : Nat → Nat
  | 0 => 0
  | n + 1 => num B p n + nb B (p + n) * 2 ^ n
theorem num_lt (B : Nat → Int32) (p n : Nat) : num B p n < 2 ^ n := by
  induction n with
  | zero => exact Nat.zero_lt_one
  | succ n ih =>
    have h := nb_lt B (p + n)
    show num B p n + nb B (p + n) * 2 ^ n < 2 ^ (n + 1)
    have h2 : nb B (p + n) * 2 ^ n ≤ 1 * 2 ^ n := Nat.mul_le_mul_right _ (by omega)
    rw [Nat.pow_succ]
    omega
theorem num_1 (B : Nat → Int32) (p : Nat) : num B p 1 = nb B p := by
  show 0 + nb B (p + 0) * 2 ^ 0 = nb B p
  rw [Nat.zero_add, Nat.add_zero, Nat.pow_zero, Nat.mul_one]
theorem num_step (B : Nat → Int32) (p n : Nat) (hn : n < 31) : nI (num B p n) ||| (((B ((p + n) / 8) >>> (nI ((p + n) % 8) &&& 31)) &&& nI 1) <<< (nI n &&& 31)) = nI (num B p (n + 1)) := by
  rw [(nb_eq B (p + n)).1, z_bit (num_lt B p n) (nb_lt B (p + n)) hn]
  rfl
/-- a number of n bits from p on, if so many are there -/
def pNum (B : Nat → Int32) (N n p : Nat) : Option (Nat × Nat) := if p + n ≤ N then some (num B p n, p + n) else none
/-- nothing changed but in these places -/
def fr (S : List Nat) (I I1 : zJ) : Prop := ∀ a, a ∉ S → I1 a = I a
theorem fr_0 {S : List Nat} {I : zJ} : fr S I I := fun _ _ => rfl
theorem fr_t {S : List Nat} {I I1 I2 : zJ} (h : fr S I I1) (h2 : fr S I1 I2) : fr S I I2 := fun a ha => (h2 a ha).trans (h a ha)
theorem fr_s {S S' : List Nat} {I I1 : zJ} (h : fr S I I1) (hs : ∀ a, a ∈ S → a ∈ S') : fr S' I I1 := fun a ha => h a fun z => ha (hs a z)
theorem fr_u {S : List Nat} {I I1 : zJ} {k i : Nat} {v : Int32} (h : fr S I I1) (hk : k ∈ S) : fr S I (xup I1 k i v) := fun a ha => (xup_r (fun z : a = k => ha (z ▸ hk))).trans (h a ha)
theorem nc {n : Nat} (h : n < 2 ^ 31) : (nI n).toNatClampNeg = n := nI_clamp h
