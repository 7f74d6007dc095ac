/-! feed: class and reference. -/
theorem z_lsm : ∀ k, k < 8 → ((((nI (8 * k)).toInt64 &&& 63)).toBitVec.smod 64).toNat = 8 * k := by decide
theorem z_lsu : ∀ k, k < 8 → (((nI (8 * k)).toInt64.toUInt64 &&& Int64.toUInt64 63).toBitVec % 64).toNat = 8 * k := by decide
theorem z_tL (x : Int64) : x.toInt = if 2 * x.toBitVec.toNat < 2 ^ 64 then (x.toBitVec.toNat : Int) else (x.toBitVec.toNat : Int) - 2 ^ 64 := by
  have := BitVec.toInt_eq_toNat_cond x.toBitVec
  simpa using this
theorem z_shrL (x : Int64) (k : Nat) (hk : k < 8) : (x >>> ((nI (8 * k)).toInt64 &&& 63)).toInt = x.toInt / (2 ^ (8 * k) : Int) := by
  have h : (x >>> ((nI (8 * k)).toInt64 &&& 63)).toInt = x.toInt >>> (8 * k) := by
    show (x.toBitVec.sshiftRight (((nI (8 * k)).toInt64 &&& 63).toBitVec.smod 64).toNat).toInt = _
    rw [z_lsm k hk, BitVec.toInt_sshiftRight]
    rfl
  rw [h, Int.shiftRight_eq_div_pow]
  simp
theorem z_ushL (x : Int64) (k : Nat) (hk : k < 8) : (xusL x (nI (8 * k))).toBitVec.toNat = x.toBitVec.toNat / 2 ^ (8 * k) := by
  have e : (xusL x (nI (8 * k))).toBitVec = x.toBitVec >>> (((nI (8 * k)).toInt64.toUInt64 &&& Int64.toUInt64 63).toBitVec % 64).toNat := UInt64.toBitVec_shiftRight _ _
  rw [e, z_lsu k hk, BitVec.toNat_ushiftRight, Nat.shiftRight_eq_div_pow]
theorem z_shr64 (x y : Int64) (k : Nat) (h : y.toInt = x.toInt / (2 ^ (8 * k) : Int)) (hk : k < 8) : y.toBitVec.toNat % 256 = x.toBitVec.toNat / 2 ^ (8 * k) % 256 := by
  have h1 := z_tL x
  have h2 := z_tL y
  have b1 := x.toBitVec.isLt
  have b2 := y.toBitVec.isLt
  match k, hk with
  | 0, _ => simp at h; by_cases c1 : 2 * x.toBitVec.toNat < 2 ^ 64 <;> by_cases c2 : 2 * y.toBitVec.toNat < 2 ^ 64 <;> simp [c1] at h1 <;> simp [c2] at h2 <;> simp <;> omega
  | 1, _ => simp at h; by_cases c1 : 2 * x.toBitVec.toNat < 2 ^ 64 <;> by_cases c2 : 2 * y.toBitVec.toNat < 2 ^ 64 <;> simp [c1] at h1 <;> simp [c2] at h2 <;> simp <;> omega
  | 2, _ => simp at h; by_cases c1 : 2 * x.toBitVec.toNat < 2 ^ 64 <;> by_cases c2 : 2 * y.toBitVec.toNat < 2 ^ 64 <;> simp [c1] at h1 <;> simp [c2] at h2 <;> simp <;> omega
  | 3, _ => simp at h; by_cases c1 : 2 * x.toBitVec.toNat < 2 ^ 64 <;> by_cases c2 : 2 * y.toBitVec.toNat < 2 ^ 64 <;> simp [c1] at h1 <;> simp [c2] at h2 <;> simp <;> omega
  | 4, _ => simp at h; by_cases c1 : 2 * x.toBitVec.toNat < 2 ^ 64 <;> by_cases c2 : 2 * y.toBitVec.toNat < 2 ^ 64 <;> simp [c1] at h1 <;> simp [c2] at h2 <;> simp <;> omega
  | 5, _ => simp at h; by_cases c1 : 2 * x.toBitVec.toNat < 2 ^ 64 <;> by_cases c2 : 2 * y.toBitVec.toNat < 2 ^ 64 <;> simp [c1] at h1 <;> simp [c2] at h2 <;> simp <;> omega
  | 6, _ => simp at h; by_cases c1 : 2 * x.toBitVec.toNat < 2 ^ 64 <;> by_cases c2 : 2 * y.toBitVec.toNat < 2 ^ 64 <;> simp [c1] at h1 <;> simp [c2] at h2 <;> simp <;> omega
  | 7, _ => simp at h; by_cases c1 : 2 * x.toBitVec.toNat < 2 ^ 64 <;> by_cases c2 : 2 * y.toBitVec.toNat < 2 ^ 64 <;> simp [c1] at h1 <;> simp [c2] at h2 <;> simp <;> omega
/-- a byte of a long -/
def lby (x : Int64) (k : Nat) : Nat := x.toBitVec.toNat / 2 ^ (8 * k) % 256
theorem z_low (y : Int64) : y.toInt32 &&& nI 255 = nI (y.toBitVec.toNat % 256) := by
  rw [pk_and _ (m := nI 255) 8 rfl]
  refine congrArg nI ?_
  have e : y.toInt32.toBitVec = y.toBitVec.setWidth 32 := by
    rw [Int64.toBitVec_toInt32]
    rw [BitVec.signExtend_eq_setWidth_of_le _ (by decide)]
  rw [e, BitVec.toNat_setWidth]
  omega
theorem feed_L (x : Int64) (k : Nat) (hk : k < 8) : (xusL x (nI (8 * k))).toInt32 &&& nI 255 = nI (lby x k) := by
  rw [z_low, z_ushL x k hk]
  rfl
theorem feed_M (x : Int64) (k : Nat) (hk : k < 8) : ((x >>> ((nI (8 * k)).toInt64 &&& 63)) &&& (255 : Int64)).toInt32 = nI (lby x k) := by
  rw [Int64.toInt32_and]
  have e : (255 : Int64).toInt32 = nI 255 := by decide
  rw [e, z_low, z_shr64 x _ k (z_shrL x k hk) hk]
  rfl
/-- a byte put as eight bits where a byte begins -/
def numv (v : Int32) : Nat → Nat
  | 0 => 0
  | n + 1 => numv v n + vb v n * 2 ^ n
theorem numv_lt (v : Int32) (n : Nat) : numv v n < 2 ^ n := by
  induction n with
  | zero => exact Nat.zero_lt_one
  | succ n ih =>
    have h := (vb_eq v n).2
    show numv v n + vb v n * 2 ^ n < 2 ^ (n + 1)
    have h2 : vb v n * 2 ^ n ≤ 1 * 2 ^ n := Nat.mul_le_mul_right _ (by omega)
    rw [Nat.pow_succ]
    omega
theorem numv_8 : ∀ a, a < 256 → numv (nI a) 8 = a := by decide +kernel
theorem zup_2 (D : Nat → Int32) (k : Nat) (v u : Int32) : zup (zup D k v) k u = zup D k u := by
  funext j
  unfold zup
  by_cases e : j = k
  · rw [if_pos e, if_pos e]
  · rw [if_neg e, if_neg e, if_neg e]
theorem dprs_byte (D : Nat → Int32) (m : Nat) (hm : m < 700) (v : Int32) : ∀ k, k ≤ 8 → 1 ≤ k → dprs D (8 * m) (bsv v k) = zup D m (nI (numv v k)) := by
  intro k
  induction k with
  | zero => intro _ h; omega
  | succ k ih =>
    intro hk8 _
    show dprs D (8 * m) (bsv v k ++ [vb v k]) = _
    rw [dprs_app, bsv_len]
    show dpr (dprs D (8 * m) (bsv v k)) (8 * m + k) (vb v k) = _
    unfold dpr
    rw [show (8 * m + k) / 8 = m by omega, show (8 * m + k) % 8 = k by omega, if_pos hm]
    by_cases e : k = 0
    · subst e
      rw [if_pos rfl]
      show zup D m (nI 0 ||| nI (vb v 0) <<< (nI 0 &&& 31)) = _
      rw [z_bit (m := 0) (n := 0) (by decide) (vb_eq v 0).2 (by decide)]
      rfl
    · rw [if_neg e, ih (by omega) (by omega), zup_2]
      have e2 : zup D m (nI (numv v k)) m = nI (numv v k) := if_pos rfl
      rw [e2, z_bit (numv_lt v k) (vb_eq v k).2 (by omega)]
      rfl
section PF
variable {c : zC} {J : zK} {w h n : Nat}
/-- the bytes behind so many steps -/
def feedR (D : Nat → Int32) (x : Int64) (n : Nat) : Nat → Nat → Int32
  | 0 => D
  | k + 1 => zup (feedR D x n k) (n + k) (nI (lby x k))
theorem l_feedL {I0 : zJ} {x : Int64} {t : Nat} {P : Int32 → zJ → Prop} {T : Nat → zJ → Prop} (ht : t ≤ 8) (hn : n + t ≤ 700) (hP : ∀ I1, fr [9, 10] I0 I1 → (∀ g, g ≠ 1 → I1 9 g = I0 9 g) → I1 9 1 = nI (8 * (n + t)) → I1 10 = feedR (I0 10) x n t → P (nI (n + t)) I1) :
    ∀ (m k : Nat) (I : zJ), k + m = t → fr [9, 10] I0 I → (∀ g, g ≠ 1 → I 9 g = I0 9 g) → I 9 1 = nI (8 * (n + k)) → I 10 = feedR (I0 10) x n k → g_L_feed_35 c J x (nI t) (nI n) (nI k) I P T := by
  intro m
  induction m with
  | zero =>
    intro k I hk hf hg h1 h10
    obtain rfl : k = t := by omega
    refine t_L_feed_35 (br_t (nI_le (Nat.le_refl _) (by omega)) ?_)
    rw [nI_add]
    exact hP I hf hg h1 h10
  | succ m ih =>
    intro k I hk hf hg h1 h10
    refine t_L_feed_35 (br_f (nI_ge (by omega) (by omega)) ?_)
    rw [pk_mul, feed_L x k (by omega), nI_add]
    have hb : lby x k < 256 := Nat.mod_lt _ (by decide)
    refine v_Bits_put zbi_9 h1 (by omega) ?_
    show g_L_feed_35 c J x (nI t) (nI n) (nI (k + 1)) (em I 9 1 10 (8 * (n + k)) (bsv (nI (lby x k)) 8)) P T
    refine ih (k + 1) _ (by omega) (fun a ha => ?_) (fun g hg1 => ?_) ?_ ?_
    · simp at ha
      rw [em_r ha.1 ha.2]; exact hf a (by simp; exact ha)
    · rw [em_f (by decide) hg1]; exact hg g hg1
    · rw [em_c, bsv_len]
      exact congrArg nI (by omega)
    · rw [em_a (by decide), h10, dprs_byte _ _ (by omega) _ 8 (by decide) (by decide), numv_8 _ hb]
      rfl
theorem l_feedM {I0 : zJ} {x : Int64} {t : Nat} {P : Int32 → zJ → Prop} {T : Nat → zJ → Prop} (ht : t ≤ 8) (hn : n + t ≤ 700) (hP : ∀ I1, mf [85] [5] I0 I1 → I1 83 5 = nI (n + t) → I1 85 = feedR (I0 85) x n t → P (nI (n + t)) I1) :
    ∀ (m k : Nat) (I : zJ), k + m = t → mf [85] [5] I0 I → I 83 5 = nI (n + k) → I 85 = feedR (I0 85) x n k → g_M_feed_33 c J x (nI t) (nI k) I P T := by
  intro m
  induction m with
  | zero =>
    intro k I hk hf h5 h85
    obtain rfl : k = t := by omega
    refine t_M_feed_33 (br_t (nI_le (Nat.le_refl _) (by omega)) ?_)
    rw [h5]
    exact hP I hf h5 h85
  | succ m ih =>
    intro k I hk hf h5 h85
    refine t_M_feed_33 (br_f (nI_ge (by omega) (by omega)) ?_)
    rw [xup_k (by decide), h5, pk_mul, feed_M x k (by omega), nI_add, nI_add, nc (by omega)]
    refine ⟨vp_in_nI (by omega) (by decide), ih (k + 1) _ (by omega) (mf_f (mf_u hf (by decide) (by decide)) (by decide)) xup_s ?_⟩
    rw [xup_r (by decide)]
    funext j
    show xup I 85 (n + k) (nI (lby x k)) 85 j = zup (feedR (I0 85) x n k) (n + k) (nI (lby x k)) j
    unfold zup
    by_cases e : j = n + k
    · rw [if_pos e, e, xup_s]
    · rw [if_neg e, xup_i e, h85]
theorem p_feed {I : zJ} {x : Int64} {v3 : Int32} (hp : pub I w h n) : c_L_feed c J x v3 I (fun v I1 => ∀ c' J', c_M_feed c' J' x v3 I1 (rOk v) nv) nv := by
  obtain ⟨p1, p2, p3, p4, p5, p6, p7, p8, p9, p10, p11, p12, p13, p14, p15, p16, p17, p18, p19, p20⟩ := id hp
  have e5 : xup I 83 0 (nI 0) 83 5 = nI n := by rw [xup_i (by decide)]; exact p12
  have no : rOk (-1 : Int32) (-1 : Int32) (xup I 83 0 (nI 0)) := ⟨xup_s, rfl, w, h, n, pub_0 hp⟩
  refine t_L_feed ?_
  rw [p11, nI_add, pk_div (by omega) (by decide) (by decide), show (8 * n + 7) / 8 = n by omega]
  refine ⟨fun h1 c' J' => t_M_feed (nm_e (br_t h1 no)), fun h1 => ⟨fun h2 c' J' => t_M_feed (nm_e (br_f h1 (br_t h2 no))), fun h2 => ?_⟩⟩
  obtain ⟨t, ht1, ht8, rfl⟩ := z_rng h1 h2 (by decide) (by decide)
  rw [nI_add]
  refine pk_le (n + t) 700 (fun h3 => ?_) (fun h3 c' J' => t_M_feed (nm_e (br_f h1 (br_f h2 (br_f ?_ no)))))
  · refine l_feedL ht8 h3 (fun I1 f1 g1 y1 y10 c' J' => t_M_feed (nm_e (br_f h1 (br_f h2 (br_t ?_ ?_))))) t 0 I (by omega) fr_0 (fun _ _ => rfl) p11 rfl
    · rw [xup_i (by decide), f1 83 (by decide), p12, nI_add]; exact nI_le h3 (by decide)
    · refine l_feedM (I0 := xup I1 83 0 (nI 0)) ht8 h3 (fun I2 f2 z5 z85 => ?_) t 0 _ (by omega) mf_0 (by rw [xup_i (by decide), f1 83 (by decide)]; exact p12) rfl
      have lo : ∀ a, a < 83 → I2 a = I1 a := fun a ha => by rw [f2.1 a (by omega) (by simp; omega), xup_r (by omega)]
      have hi : ∀ a, a = 84 ∨ a = 104 ∨ a = 105 → I2 a = I a := fun a ha => by rw [f2.1 a (by omega) (by simp; omega), xup_r (by omega), f1 a (by simp; omega)]
      have fl : ∀ g, g ≠ 0 → g ≠ 5 → I2 83 g = I 83 g := fun g h0 h5 => by rw [f2.2 g (by simp; exact h5), xup_i h0, f1 83 (by decide)]
      have r1 : ∀ a, a < 83 → a ≠ 9 → a ≠ 10 → I2 a = I a := fun a ha h9 h10 => by rw [lo a ha, f1 a (by simp; omega)]
      refine ⟨?_, rfl, w, h, n + t, p1, p2, p3, p4, h3, ?_, ?_, ?_, ?_, ?_, ?_, z5, ?_, ?_, ?_, ?_, ?_, ?_, ?_, fun k hk => ?_⟩
      · rw [f2.2 0 (by decide)]; exact xup_s
      · rw [r1 5 (by decide) (by decide) (by decide)]; exact p6
      · rw [r1 5 (by decide) (by decide) (by decide)]; exact p7
      · rw [fl 1 (by decide) (by decide)]; exact p8
      · rw [fl 2 (by decide) (by decide)]; exact p9
      · rw [hi 84 (by decide), r1 6 (by decide) (by decide) (by decide)]; exact p10
      · rw [lo 9 (by decide)]; exact y1
      · rw [z85, lo 10 (by decide), y10, xup_r (by decide), f1 85 (by decide), p13]
      · rw [r1 4 (by decide) (by decide) (by decide)]; exact p14
      · rw [fl 34 (by decide) (by decide), r1 4 (by decide) (by decide) (by decide)]; exact p15
      · rw [hi 104 (by decide), r1 82 (by decide) (by decide) (by decide)]; exact p16
      · rw [r1 1 (by decide) (by decide) (by decide)]; exact p17
      · rw [r1 2 (by decide) (by decide) (by decide)]; exact p18
      · rw [r1 3 (by decide) (by decide) (by decide)]; exact p19
      · rw [hi 105 (by decide)]; exact p20 k hk
  · rw [e5, nI_add]; exact nI_ge h3 (by omega)
end PF
