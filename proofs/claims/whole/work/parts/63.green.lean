/-! GREEN PUT ON AND TAKEN OFF; COLOURS PUT TOGETHER. -/
theorem z_bytes : ∀ m, m < 256 → m &&& 4278255360 = 0 ∧ (m * 256) &&& 4278255360 = m * 256 ∧ (m * 65536) &&& 4278255360 = 0 ∧ (m * 16777216) &&& 4278255360 = m * 16777216 := by decide +kernel
theorem z_split (x : Int32) : x = nI (((pN x 0 ||| pN x 1 * 256) ||| pN x 2 * 65536) ||| pN x 3 * 16777216) := by
  have h0 := pN_lt x 0
  have h1 := pN_lt x 1
  have h2 := pN_lt x 2
  have h3 := pN_lt x 3
  have e1 : pN x 0 ||| pN x 1 * 256 = pN x 0 + pN x 1 * 256 := by
    have := Nat.two_pow_add_eq_or_of_lt (i := 8) (b := pN x 0) (by omega) (pN x 1)
    rw [Nat.or_comm, Nat.mul_comm (pN x 1), show (256 : Nat) = 2 ^ 8 from rfl, ← this]; omega
  have e2 : (pN x 0 + pN x 1 * 256) ||| pN x 2 * 65536 = pN x 0 + pN x 1 * 256 + pN x 2 * 65536 := by
    have := Nat.two_pow_add_eq_or_of_lt (i := 16) (b := pN x 0 + pN x 1 * 256) (by omega) (pN x 2)
    rw [Nat.or_comm, Nat.mul_comm (pN x 2), show (65536 : Nat) = 2 ^ 16 from rfl, ← this]; omega
  have e3 : (pN x 0 + pN x 1 * 256 + pN x 2 * 65536) ||| pN x 3 * 16777216 = pN x 0 + pN x 1 * 256 + pN x 2 * 65536 + pN x 3 * 16777216 := by
    have := Nat.two_pow_add_eq_or_of_lt (i := 24) (b := pN x 0 + pN x 1 * 256 + pN x 2 * 65536) (by omega) (pN x 3)
    rw [Nat.or_comm, Nat.mul_comm (pN x 3), show (16777216 : Nat) = 2 ^ 24 from rfl, ← this]; omega
  rw [e1, e2, e3]
  have hb := x.toBitVec.isLt
  have es : pN x 0 + pN x 1 * 256 + pN x 2 * 65536 + pN x 3 * 16777216 = x.toBitVec.toNat := by
    unfold pN
    simp
    omega
  rw [es]
  apply Int32.toBitVec_inj.mp
  apply BitVec.eq_of_toNat_eq
  rw [pk_tn hb]
theorem z_mask (x : Int32) : x &&& (-16711936 : Int32) = (pt x 1 <<< (nI 8 &&& 31)) ||| (pt x 3 <<< (nI 24 &&& 31)) := by
  have h1 := pN_lt x 1
  have h3 := pN_lt x 3
  obtain ⟨a1, -, -, -⟩ := z_bytes _ (pN_lt x 0)
  obtain ⟨-, a2, -, -⟩ := z_bytes _ (pN_lt x 1)
  obtain ⟨-, -, a3, -⟩ := z_bytes _ (pN_lt x 2)
  obtain ⟨-, -, -, a4⟩ := z_bytes _ (pN_lt x 3)
  have e : (-16711936 : Int32) = nI 4278255360 := by decide
  have l : x &&& (-16711936 : Int32) = nI (pN x 1 * 256 ||| pN x 3 * 16777216) := by
    rw [z_split x, e, z_and, Nat.and_or_distrib_right, Nat.and_or_distrib_right, Nat.and_or_distrib_right]
    rw [← z_split x, a1, a2, a3, a4]
    simp
  rw [l]
  unfold pt
  rw [pk_shlN _ 8 (z_sl 8 (by decide)) (by omega), pk_shlN _ 24 (z_sl 24 (by decide)) (by omega), z_or]
theorem z_or0 (x : Int32) : nI 0 ||| x = x := by
  show (0 : Int32) ||| x = x
  exact Int32.zero_or
theorem z_shl0 (m : Nat) (h : m < 256) : nI m <<< (nI 0 &&& 31) = nI m := by
  rw [pk_shlN _ 0 (z_sl 0 (by decide)) (by omega)]
  simp
/-- green of all others -/
def pgo (x : Int32) : Int32 := pt x 1 * nI 65537
theorem z_g65 : ∀ g, g < 256 → g * 65537 / 2 ^ (8 * 0) % 256 = g ∧ g * 65537 / 2 ^ (8 * 1) % 256 = 0 ∧ g * 65537 / 2 ^ (8 * 2) % 256 = g ∧ g * 65537 / 2 ^ (8 * 3) % 256 = 0 := by decide +kernel
theorem pgo_pt (x : Int32) : pt (pgo x) 0 = pt x 1 ∧ pt (pgo x) 1 = nI 0 ∧ pt (pgo x) 2 = pt x 1 ∧ pt (pgo x) 3 = nI 0 := by
  have h := pN_lt x 1
  have e : (pgo x).toBitVec.toNat = pN x 1 * 65537 := by
    unfold pgo pt
    rw [pk_mul, pk_tn (by omega)]
  obtain ⟨k0, k1, k2, k3⟩ := z_g65 _ h
  refine ⟨?_, ?_, ?_, ?_⟩
  · unfold pt
    exact congrArg nI (by rw [pN, e]; exact k0)
  · unfold pt
    exact congrArg nI (by rw [pN, e]; exact k1)
  · unfold pt
    exact congrArg nI (by rw [pN, e]; exact k2)
  · unfold pt
    exact congrArg nI (by rw [pN, e]; exact k3)
theorem pt_255 (x : Int32) (k : Nat) : pt x k &&& nI 255 = pt x k := by
  have h := pN_lt x k
  unfold pt
  rw [pk_andN (by omega) 8 rfl, Nat.mod_eq_of_lt (by omega)]
theorem z_255 (x : Int32) : ∃ m, m < 256 ∧ x &&& nI 255 = nI m := ⟨_, Nat.mod_lt _ (by decide), pk_and x (m := nI 255) 8 rfl⟩
theorem z_comb (x u v : Int32) : ((x &&& (-16711936 : Int32)) ||| ((u &&& nI 255) <<< (nI 16 &&& 31))) ||| (v &&& nI 255) = f4 (fun k => if k = 0 then v &&& nI 255 else if k = 1 then pt x 1 else if k = 2 then u &&& nI 255 else pt x 3) := by
  obtain ⟨m, hm, e⟩ := z_255 v
  show _ = (((nI 0 ||| (v &&& nI 255) <<< (nI 0 &&& 31)) ||| pt x 1 <<< (nI 8 &&& 31)) ||| (u &&& nI 255) <<< (nI 16 &&& 31)) ||| pt x 3 <<< (nI 24 &&& 31)
  rw [z_mask, e, z_shl0 m hm, z_or0]
  generalize pt x 1 <<< (nI 8 &&& 31) = A
  generalize pt x 3 <<< (nI 24 &&& 31) = C
  generalize (u &&& nI 255) <<< (nI 16 &&& 31) = D
  generalize nI m = E
  ac_rfl
theorem f4_c {s t : Nat → Int32} (h0 : s 0 = t 0) (h1 : s 1 = t 1) (h2 : s 2 = t 2) (h3 : s 3 = t 3) : f4 s = f4 t := by
  unfold f4
  rw [h0, h1, h2, h3]
def pgre (x : Int32) : Int32 := psum x (pgo x)
def pgof (x : Int32) : Int32 := pdif x (pgo x)
theorem z_add0 (x : Int32) : x + nI 0 = x := by
  show x + (0 : Int32) = x
  grind
theorem z_sub0 (x : Int32) : x - nI 0 = x := by
  show x - (0 : Int32) = x
  grind
theorem pgre_M (x : Int32) : ((x &&& (-16711936 : Int32)) ||| (((pt x 2 + pt x 1) &&& nI 255) <<< (nI 16 &&& 31))) ||| ((pt x 0 + pt x 1) &&& nI 255) = pgre x := by
  obtain ⟨g0, g1, g2, g3⟩ := pgo_pt x
  rw [z_comb]
  unfold pgre psum
  refine f4_c ?_ ?_ ?_ ?_
  · show _ = (pt x 0 + pt (pgo x) 0) &&& nI 255
    rw [g0]; rfl
  · show pt x 1 = (pt x 1 + pt (pgo x) 1) &&& nI 255
    rw [g1, z_add0, pt_255]
  · show _ = (pt x 2 + pt (pgo x) 2) &&& nI 255
    rw [g2]; rfl
  · show pt x 3 = (pt x 3 + pt (pgo x) 3) &&& nI 255
    rw [g3, z_add0, pt_255]
theorem pgof_M (x : Int32) : ((x &&& (-16711936 : Int32)) ||| (((pt x 2 - pt x 1) &&& nI 255) <<< (nI 16 &&& 31))) ||| ((pt x 0 - pt x 1) &&& nI 255) = pgof x := by
  obtain ⟨g0, g1, g2, g3⟩ := pgo_pt x
  rw [z_comb]
  unfold pgof pdif
  refine f4_c ?_ ?_ ?_ ?_
  · show _ = (pt x 0 - pt (pgo x) 0) &&& nI 255
    rw [g0]; rfl
  · show pt x 1 = (pt x 1 - pt (pgo x) 1) &&& nI 255
    rw [g1, z_sub0, pt_255]
  · show _ = (pt x 2 - pt (pgo x) 2) &&& nI 255
    rw [g2]; rfl
  · show pt x 3 = (pt x 3 - pt (pgo x) 3) &&& nI 255
    rw [g3, z_sub0, pt_255]
/-- a byte with its sign -/
def s8 (m : Nat) : Int32 := if m ≤ 127 then nI m else nI m - nI 256
theorem s8_M {m : Nat} (hm : m < 256) (I : zJ) : f_M_signed (nI m) I = s8 m := by
  unfold f_M_signed s8
  rw [pk_andN (by omega) 8 rfl, Nat.mod_eq_of_lt (by omega)]
  by_cases e : m ≤ 127
  · rw [if_pos e, if_pos (nI_le e (by decide))]
  · rw [if_neg e, if_neg (nI_ge (by omega) (by omega))]
theorem s8_d : ∀ m, m < 256 → (nI m).toInt8.toInt32 = s8 m := by decide +kernel
theorem s8_L {y : Int32} {m : Nat} (h : y &&& nI 255 = nI m) (hm : m < 256) : y.toInt8.toInt32 = s8 m := by
  have e : (y &&& nI 255).toInt8 = y.toInt8 := by
    rw [Int32.toInt8_and]
    have : (nI 255).toInt8 = -1 := by decide
    rw [this]
    exact Int8.and_neg_one
  rw [← e, h]
  exact s8_d m hm
/-- colours put together -/
def ptog (x blk : Int32) : Int32 :=
  let r := (pt x 2 + ((s8 (pN blk 0) * s8 (pN x 1)) >>> (nI 5 &&& 31))) &&& nI 255
  ((x &&& (-16711936 : Int32)) ||| (r <<< (nI 16 &&& 31))) ||| ((pt x 0 + ((s8 (pN blk 1) * s8 (pN x 1)) >>> (nI 5 &&& 31)) + ((s8 (pN blk 2) * s8 r.toNatClampNeg) >>> (nI 5 &&& 31))) &&& nI 255)
theorem ptog_L (x blk : Int32) : (((x &&& (-16711936 : Int32)) ||| (((((xus x (nI 16)) &&& (nI 255)) + ((blk.toInt8.toInt32 * ((xus x (nI 8)) &&& (nI 255)).toInt8.toInt32) >>> ((nI 5) &&& 31))) &&& (nI 255)) <<< ((nI 16) &&& 31))) ||| (((((xus x (nI 0)) &&& (nI 255)) + (((blk >>> ((nI 8) &&& 31)).toInt8.toInt32 * ((xus x (nI 8)) &&& (nI 255)).toInt8.toInt32) >>> ((nI 5) &&& 31))) + (((blk >>> ((nI 16) &&& 31)).toInt8.toInt32 * ((((xus x (nI 16)) &&& (nI 255)) + ((blk.toInt8.toInt32 * ((xus x (nI 8)) &&& (nI 255)).toInt8.toInt32) >>> ((nI 5) &&& 31))) &&& (nI 255)).toInt8.toInt32) >>> ((nI 5) &&& 31))) &&& (nI 255))) = ptog x blk := by
  have e0 : xus x (nI 0) &&& nI 255 = pt x 0 := pt_L x 0 (by decide)
  have e1 : xus x (nI 8) &&& nI 255 = pt x 1 := pt_L x 1 (by decide)
  have e2 : xus x (nI 16) &&& nI 255 = pt x 2 := pt_L x 2 (by decide)
  have b0 : blk.toInt8.toInt32 = s8 (pN blk 0) := s8_L (by rw [pk_and _ (m := nI 255) 8 rfl]; unfold pN; simp) (pN_lt blk 0)
  have b1 : (blk >>> (nI 8 &&& 31)).toInt8.toInt32 = s8 (pN blk 1) := s8_L (pt_M blk 1 (by decide)) (pN_lt blk 1)
  have b2 : (blk >>> (nI 16 &&& 31)).toInt8.toInt32 = s8 (pN blk 2) := s8_L (pt_M blk 2 (by decide)) (pN_lt blk 2)
  have g1 : (pt x 1).toInt8.toInt32 = s8 (pN x 1) := s8_L (pt_255 x 1) (pN_lt x 1)
  rw [e0, e1, e2, b0, b1, b2, g1]
  unfold ptog
  obtain ⟨m, hm, e⟩ := z_255 (pt x 2 + ((s8 (pN blk 0) * s8 (pN x 1)) >>> (nI 5 &&& 31)))
  dsimp only
  rw [e, nc (by omega), s8_L (y := nI m) (by rw [pk_andN (by omega) 8 rfl, Nat.mod_eq_of_lt (by omega)]) hm]
theorem ptog_M (x blk : Int32) (I : zJ) : (((x &&& (-16711936 : Int32)) ||| (((((x >>> (((nI 8) * (nI 2)) &&& 31)) &&& (nI 255)) + (((f_M_signed ((blk >>> (((nI 8) * (nI 0)) &&& 31)) &&& (nI 255)) I) * (f_M_signed ((x >>> (((nI 8) * (nI 1)) &&& 31)) &&& (nI 255)) I)) >>> ((nI 5) &&& 31))) &&& (nI 255)) <<< ((nI 16) &&& 31))) ||| (((((x >>> (((nI 8) * (nI 0)) &&& 31)) &&& (nI 255)) + (((f_M_signed ((blk >>> (((nI 8) * (nI 1)) &&& 31)) &&& (nI 255)) I) * (f_M_signed ((x >>> (((nI 8) * (nI 1)) &&& 31)) &&& (nI 255)) I)) >>> ((nI 5) &&& 31))) + (((f_M_signed ((blk >>> (((nI 8) * (nI 2)) &&& 31)) &&& (nI 255)) I) * (f_M_signed ((((x >>> (((nI 8) * (nI 2)) &&& 31)) &&& (nI 255)) + (((f_M_signed ((blk >>> (((nI 8) * (nI 0)) &&& 31)) &&& (nI 255)) I) * (f_M_signed ((x >>> (((nI 8) * (nI 1)) &&& 31)) &&& (nI 255)) I)) >>> ((nI 5) &&& 31))) &&& (nI 255)) I)) >>> ((nI 5) &&& 31))) &&& (nI 255))) = ptog x blk := by
  have e0 : ∀ y : Int32, (y >>> (((nI 8) * (nI 0)) &&& 31)) &&& (nI 255) = pt y 0 := fun y => pt_M y 0 (by decide)
  have e1 : ∀ y : Int32, (y >>> (((nI 8) * (nI 1)) &&& 31)) &&& (nI 255) = pt y 1 := fun y => pt_M y 1 (by decide)
  have e2 : ∀ y : Int32, (y >>> (((nI 8) * (nI 2)) &&& 31)) &&& (nI 255) = pt y 2 := fun y => pt_M y 2 (by decide)
  have sg : ∀ y k, f_M_signed (pt y k) I = s8 (pN y k) := fun y k => s8_M (pN_lt y k) I
  rw [e0, e0, e1, e1, e2, e2, sg, sg, sg, sg]
  unfold ptog
  obtain ⟨m, hm, e⟩ := z_255 (pt x 2 + ((s8 (pN blk 0) * s8 (pN x 1)) >>> (nI 5 &&& 31)))
  dsimp only
  rw [e, nc (by omega), s8_M hm]
