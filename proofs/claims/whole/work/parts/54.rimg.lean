/-! AN IMAGE READ: prefixes, distances, the cache. -/
theorem z_su : ∀ n, n < 32 → (((nI n).toUInt32 &&& Int32.toUInt32 31).toBitVec % 32).toNat = n := by decide
theorem z_xus (y : Int32) (k : Nat) (hk : k < 32) : xus y (nI k) = nI (y.toBitVec.toNat / 2 ^ k) := by
  apply Int32.toBitVec_inj.mp
  apply BitVec.eq_of_toNat_eq
  have hlt : y.toBitVec.toNat / 2 ^ k < 2 ^ 32 := Nat.lt_of_le_of_lt (Nat.div_le_self _ _) y.toBitVec.isLt
  rw [pk_tn hlt]
  exact pk_ushr y (nI k) k (z_su k hk)
theorem hsh_lt (b : Nat) (hb : b ≤ 4) (x : Int32) : hsh b x < 16 := by
  unfold hsh
  by_cases e : b = 0
  · rw [if_pos e]; decide
  · rw [if_neg e]
    have h1 := (nI 506832829 * x).toBitVec.isLt
    apply Nat.div_lt_of_lt_mul
    have h2 : (2 : Nat) ^ 28 ≤ 2 ^ (32 - b) := Nat.pow_le_pow_right (by decide) (by omega)
    have h3 : 2 ^ 28 * 16 ≤ 2 ^ (32 - b) * 16 := Nat.mul_le_mul_right _ h2
    have h4 : (2 : Nat) ^ 28 * 16 = 2 ^ 32 := rfl
    rw [h4] at h3
    exact Nat.lt_of_lt_of_le h1 h3
theorem f_place {I : zJ} {b : Nat} (h : I 49 1 = nI b) (hb : b ≤ 4) (x : Int32) : f_Cache_placeOf x I = nI (hsh b x) := by
  unfold f_Cache_placeOf hsh
  rw [h]
  by_cases e : b = 0
  · rw [if_pos e, e, if_pos rfl]
  · rw [if_neg (by rw [nI_eq (by omega) (by decide)]; exact e), if_neg e, pk_sub (by omega), z_xus _ _ (by omega)]
theorem f_mplace {b : Nat} (hb : b ≤ 4) (h0 : 0 < b) (x : Int32) (I : zJ) : f_M_cachePlace x (nI (2 ^ b)) I = nI (hsh b x) := by
  unfold f_M_cachePlace hsh
  rw [if_neg (show ¬ b = 0 by omega)]
  match b, hb, h0 with
  | 1, _, _ => rw [if_pos rfl, z_xus _ _ (by decide)]
  | 2, _, _ => rw [if_neg (by decide), if_pos rfl, z_xus _ _ (by decide)]
  | 3, _, _ => rw [if_neg (by decide), if_neg (by decide), if_pos rfl, z_xus _ _ (by decide)]
  | 4, _, _ => rw [if_neg (by decide), if_neg (by decide), if_neg (by decide), z_xus _ _ (by decide)]
theorem z_beh : ∀ x, x < 40 → (if nI 4 ≤ nI x then (nI x / nI 2) - nI 1 else nI 0) = nI (zbeh x) := by decide
theorem z_lst : ∀ x, x < 40 → (if nI 4 ≤ nI x then (((nI 2 + (nI x - nI x / nI 2 * nI 2)) <<< (((nI x / nI 2) - nI 1) &&& 31)) + nI 1) else nI x + nI 1) = nI (zlst x) := by decide
theorem z_beh_le : ∀ x, x < 40 → zbeh x ≤ 18 := by decide
theorem z_lst_le : ∀ x, x < 40 → 1 ≤ zlst x ∧ zlst x ≤ 786433 := by decide
theorem z_near : ∀ k, k < 8 → ∀ w, w < 17 → xmax (nI 1) (zNX.getD k 0 + zNY.getD k 0 * nI w) = nI (max 1 (znear (k + 1) w)) ∨ w = 0 := by decide
theorem z_dist_pos (k w : Nat) : 1 ≤ zdist k w := by
  unfold zdist
  by_cases e : 8 < k
  · rw [if_pos e]; omega
  · rw [if_neg e]; exact Nat.le_max_left _ _
section RI
variable {c : zC} {J : zK} {N p : Nat} {B : Nat → Int32} {T : Nat → zJ → Prop}
theorem r_pre {I : zJ} {P : Int32 → zJ → Prop} {x : Nat} (h : cst I B N p) (hx : x < 40) (hP : ∀ v q, pPre B N x p = some (v, q) → 1 ≤ v → v < 2 ^ 21 → q ≤ N → P (nI v) (xup I 9 2 (nI q))) (hT : pPre B N x p = none → T 100 I) : c_ImageReader_takeNumber c J 9 (nI x) I P T := by
  refine t_ImageReader_takeNumber zbi_9 ?_
  have e1 : f_Codes_bitsBehind (nI x) I = nI (zbeh x) := z_beh x hx
  have e2 : f_Codes_leastNumber (nI x) I = nI (zlst x) := z_lst x hx
  have b1 := z_beh_le x hx
  have b2 := z_lst_le x hx
  rw [e1]
  refine r_num h (by omega) (fun v q e g hq => ?_) (fun e => hT (by unfold pPre; rw [e]; rfl))
  rw [e2, nI_add]
  have h18 : (2 : Nat) ^ zbeh x ≤ 2 ^ 18 := Nat.pow_le_pow_right (by decide) b1
  exact hP _ _ (by unfold pPre; rw [e]; rfl) (by omega) (by omega) hq
theorem r_dist {I : zJ} {P : Int32 → zJ → Prop} {k w : Nat} (h : cst I B N p) (hk : 1 ≤ k) (hk2 : k < 2 ^ 31) (hw : 1 ≤ w) (hw2 : w ≤ 16) (hP : P (nI (zdist k w)) I) : c_ImageReader_distanceOf c J (nI k) (nI w) I P T := by
  refine t_ImageReader_distanceOf (pk_le k 8 (fun e => ?_) (fun e => ?_))
  · rw [pk_sub hk, nc (by omega), h.2.2.2.2.2.2.1, h.2.2.2.2.2.2.2]
    refine ⟨vp_in_nI (by omega) (by decide), vp_in_nI (by omega) (by decide), ?_⟩
    have e1 := (z_near (k - 1) (by omega) w (by omega)).resolve_right (by omega)
    rw [show k - 1 + 1 = k by omega] at e1
    unfold zdist at hP
    rw [if_neg (by omega), ← e1] at hP
    exact hP
  · unfold zdist at hP
    rw [if_pos e] at hP
    rw [pk_sub (by omega)]
    exact hP
/-- a plane that is read into -/
def hop (o : Nat) : Prop := o = 7 ∨ o = 53 ∨ o = 55 ∨ o = 57
/-- what reading pixels changes -/
abbrev zpxS (o : Nat) : List Nat := [o + 1, 50, 59]
/-- codes, cache, plane are set up -/
def cim (I : zJ) (o b w hh : Nat) (ls : Nat → Nat → Nat) : Prop := b ≤ 4 ∧ I 49 1 = nI b ∧ I o 1 = nI w ∧ I o 2 = nI hh ∧ arr I 14 (zsz b 0) (ls 0) ∧ arr I 21 256 (ls 1) ∧ arr I 28 256 (ls 2) ∧ arr I 35 256 (ls 3) ∧ arr I 42 40 (ls 4)
theorem hop_n {o a : Nat} (h : hop o) (h1 : 9 ≤ a) (h2 : a ≤ 49) : a ∉ zpxS o := by
  unfold hop at h
  simp
  omega
theorem hop_o {o : Nat} (h : hop o) : o ∉ zpxS o := by
  unfold hop at h
  simp
  omega
theorem hop_9 {o : Nat} (h : hop o) : o ≠ 9 ∧ o + 1 ≠ 9 ∧ o + 1 ≠ 50 ∧ o + 1 ≠ 49 ∧ o + 1 ≠ 59 ∧ 4 ≤ o := by
  unfold hop at h
  omega
theorem cim_cf {I I1 : zJ} {o b w hh : Nat} {ls : Nat → Nat → Nat} (h : cim I o b w hh ls) (ho : hop o) (hf : cf (zpxS o) I I1) : cim I1 o b w hh ls := by
  obtain ⟨h0, h1, h2, h3, h4, h5, h6, h7, h8⟩ := h
  have n : ∀ a, 9 ≤ a → a ≤ 49 → a ∉ zpxS o := fun a => hop_n ho
  refine ⟨h0, ?_, ?_, ?_, ?_, ?_, ?_, ?_, ?_⟩
  · rw [hf.1 49 (by decide) (n _ (by decide) (by decide))]; exact h1
  · rw [hf.1 o (hop_9 ho).1 (hop_o ho)]; exact h2
  · rw [hf.1 o (hop_9 ho).1 (hop_o ho)]; exact h3
  · exact arr_cf h4 hf (by decide) (n _ (by decide) (by decide)) (n _ (by decide) (by decide)) (n _ (by decide) (by decide)) (n _ (by decide) (by decide)) (n _ (by decide) (by decide))
  · exact arr_cf h5 hf (by decide) (n _ (by decide) (by decide)) (n _ (by decide) (by decide)) (n _ (by decide) (by decide)) (n _ (by decide) (by decide)) (n _ (by decide) (by decide))
  · exact arr_cf h6 hf (by decide) (n _ (by decide) (by decide)) (n _ (by decide) (by decide)) (n _ (by decide) (by decide)) (n _ (by decide) (by decide)) (n _ (by decide) (by decide))
  · exact arr_cf h7 hf (by decide) (n _ (by decide) (by decide)) (n _ (by decide) (by decide)) (n _ (by decide) (by decide)) (n _ (by decide) (by decide)) (n _ (by decide) (by decide))
  · exact arr_cf h8 hf (by decide) (n _ (by decide) (by decide)) (n _ (by decide) (by decide)) (n _ (by decide) (by decide)) (n _ (by decide) (by decide)) (n _ (by decide) (by decide))
/-- the pixels so far, the cache, copies and cached ones -/
def cpx (I : zJ) (o i : Nat) (f C : Nat → Int32) (cp ca : Nat) : Prop := (∀ k, k < i → I (o + 1) k = f k) ∧ (∀ k, k < 16 → I 50 k = C k) ∧ I 59 3 = nI cp ∧ I 59 4 = nI ca
theorem cpx_p {I : zJ} {o i q : Nat} {f C : Nat → Int32} {cp ca : Nat} (h : cpx I o i f C cp ca) (ho : hop o) : cpx (xup I 9 2 (nI q)) o i f C cp ca := by
  unfold cpx
  rw [xup_r (hop_9 ho).2.1, xup_r (by decide), xup_r (by decide)]
  exact h
theorem cst_px {I I1 : zJ} {o q : Nat} (h : cst I B N q) (ho : hop o) (hf : fr (zpxS o) I I1) : cst I1 B N q := by
  have n : ∀ a, a = 9 ∨ a = 10 ∨ a = 1 ∨ a = 2 ∨ a = 3 → a ∉ zpxS o := by
    intro a ha
    unfold hop at ho
    simp
    omega
  exact cst_a h (hf _ (n _ (by decide))) (hf _ (n _ (by decide))) (hf _ (n _ (by decide))) (hf _ (n _ (by decide))) (hf _ (n _ (by decide)))
/-- one pixel comes: kept in the plane and in the cache -/
theorem px_one {I : zJ} {o b i : Nat} {f C : Nat → Int32} {cp ca : Nat} {v : Int32} (ho : hop o) (h : cpx I o i f C cp ca) : cpx (xup (xup I (o + 1) i v) 50 (hsh b v) v) o (i + 1) (zup f i v) (zup C (hsh b v) v) cp ca := by
  have h9 := hop_9 ho
  obtain ⟨h1, h2, h3, h4⟩ := h
  refine ⟨?_, ?_, ?_, ?_⟩
  · intro k hk
    rw [xup_k (by omega)]
    unfold zup
    by_cases e : k = i
    · subst e; rw [xup_s, if_pos rfl]
    · rw [xup_i e, if_neg e]; exact h1 k (by omega)
  · intro k hk
    unfold zup
    by_cases e : k = hsh b v
    · subst e; rw [xup_s, if_pos rfl]
    · rw [xup_i e, if_neg e, xup_k (by omega)]; exact h2 k hk
  · rw [xup_k (by decide), xup_k (by omega)]; exact h3
  · rw [xup_k (by decide), xup_k (by omega)]; exact h4
/-- a copy's pixels -/
theorem l_copy {P : Int32 → zJ → Prop} {I0 : zJ} {o m b w hh d i0 len : Nat} {ls : Nat → Nat → Nat} {R : (Nat → Int32) × (Nat → Int32)} {cp ca : Nat} (hp : zpl c o m) (ho : hop o) (hm : m ≤ 64) (h0 : cim I0 o b w hh ls) (hd1 : 1 ≤ d) (hd : d ≤ i0) (hl : i0 + len ≤ m)
    (hP : ∀ I1, fr (zpxS o) I0 I1 → cpx I1 o (i0 + len) R.1 R.2 (cp + 1) ca → P (nI len) I1) :
    ∀ (k i : Nat) (I : zJ) (f C : Nat → Int32), i + k = i0 + len → i0 ≤ i → fr (zpxS o) I0 I → cpx I o i f C cp ca → cpL b d k i f C = R → g_ImageReader_takeCopy_64 c J o (nI i0) (nI len) (nI d) (nI i) I P T := by
  have h9 := hop_9 ho
  intro k
  induction k with
  | zero =>
    intro i I f C hi hi0 hf hx hR
    obtain rfl : i = i0 + len := by omega
    refine t_ImageReader_takeCopy_64 hp ?_
    rw [nI_add]
    refine br_t (nI_le (Nat.le_refl _) (by omega)) (hP _ (fr_u hf (by simp)) ?_)
    rw [← hR]
    obtain ⟨h1, h2, h3, h4⟩ := hx
    refine ⟨?_, ?_, ?_, ?_⟩
    · intro k hk; rw [xup_k (by omega)]; exact h1 k hk
    · intro k hk; rw [xup_k (by decide)]; exact h2 k hk
    · rw [xup_s, h3, nI_add]
    · rw [xup_i (by decide)]; exact h4
  | succ k ih =>
    intro i I f C hi hi0 hf hx hR
    have hb := h0.1
    have e49 : I 49 1 = nI b := by rw [hf 49 (hop_n ho (by decide) (by decide))]; exact h0.2.1
    have e49b : ∀ {x : Nat} {v : Int32}, (xup I (o + 1) x v) 49 1 = nI b := fun {x v} => by rw [xup_k (by omega)]; exact e49
    have hsl : ∀ v, hsh b v < 16 := hsh_lt b hb
    refine t_ImageReader_takeCopy_64 hp ?_
    rw [nI_add, pk_sub (by omega), nc (by omega), nc (by omega), xup_s, f_place e49b hb, nc (by have := hsl (I (o + 1) (i - d)); omega), nI_add, hx.1 (i - d) (by omega)]
    refine br_f (nI_ge (by omega) (by omega)) ⟨vp_in_nI (by omega) (by omega), vp_in_nI (by omega) (by omega), vp_in_nI (hsl _) (by decide), nm_e ?_⟩
    exact ih (i + 1) _ _ _ (by omega) (by omega) (fr_u (fr_u hf (by simp)) (by simp)) (px_one ho hx) hR
end RI
