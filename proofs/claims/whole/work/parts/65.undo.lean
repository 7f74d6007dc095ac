/-! TRANSFORMS UNDONE BY THE CLASS: colours, green, the palette. -/
section UO
variable {c : zC} {J : zK} {w h : Nat} {f mo de : Nat → Int32} {T : Nat → zJ → Prop} {P : zJ → Prop}
theorem r_putTog {I : zJ} (hw : 0 < w) (hw8 : w ≤ 8) (hh0 : 0 < h) (hh : h ≤ 8) (h1 : I 7 1 = nI w) (h2 : I 7 2 = nI h) (h3 : I 55 1 = nI (bl w)) (hmo : ∀ j, j < bl w * bl h → I 56 j = de j) (hf : ∀ j, j < w * h → I 8 j = f j)
    (hP : ∀ I1, fr [8] I I1 → (∀ j, j < w * h → I1 8 j = rasL (S1 de w) (w * h) 0 f j) → P I1) : c_Colours_putTogether c J 7 55 I P T := by
  have ht : w * h ≤ 64 := Nat.mul_le_mul hw8 hh
  have hb4 := bl_le hw8 hh
  refine t_Colours_putTogether zpl_7 zpl_55 ?_
  have m1 : ∀ {I2 : zJ} {g : Nat → Int32}, img 8 [8] I (w * h) I2 g → I2 7 1 = nI w := fun hi => by rw [hi.1 7 (by decide)]; exact h1
  have m2 : ∀ {I2 : zJ} {g : Nat → Int32}, img 8 [8] I (w * h) I2 g → I2 7 2 = nI h := fun hi => by rw [hi.1 7 (by decide)]; exact h2
  refine t_Colours_putTogether_2 zpl_7 zpl_55 (br_f (by rw [h2]; exact nI_ge hh0 (by omega)) ?_)
  refine ras_2 (a := 8) (Sf := [8]) (I0 := I) (S := S1 de w) (F := rasL (S1 de w) (w * h) 0 f) (fun y I2 => g_Colours_putTogether_2 c J 7 55 (nI y) I2 P T) (fun y x I2 => g_Colours_putTogether_12 c J 7 55 (nI y) (nI x) I2 P T) hw ?_ ?_ ?_ ?_ (w * h) 0 I f (by omega) ⟨fr_0, hf⟩ rfl 0 0 (by omega) (by omega) hh0
  · intro I2 hi
    exact t_Colours_putTogether_2 zpl_7 zpl_55 (br_t (by rw [m2 hi]; exact nI_le (Nat.le_refl _) (by omega)) (hP I2 hi.1 hi.2))
  · intro y I2 g hy hi k
    exact t_Colours_putTogether_2 zpl_7 zpl_55 (br_f (by rw [m2 hi]; exact nI_ge hy (by omega)) k)
  · intro y I2 g hi k
    refine t_Colours_putTogether_12 zpl_7 zpl_55 (br_t (by rw [m1 hi]; exact nI_le (Nat.le_refl _) (by omega)) ?_)
    rw [nI_add]
    exact k
  · intro y x I2 g hy hx hi k
    have hk : y * w + x < w * h := by
      have h5 : (y + 1) * w ≤ h * w := Nat.mul_le_mul_right _ hy
      rw [Nat.add_mul, Nat.one_mul, Nat.mul_comm h w] at h5
      omega
    have hyx := z_yx (y := y) hx
    have hB := z_blk hx hy
    have e55 : I2 55 1 = nI (bl w) := by rw [hi.1 55 (by decide)]; exact h3
    have e56 : I2 56 (y / 4 * bl w + x / 4) = de (y / 4 * bl w + x / 4) := by rw [hi.1 56 (by decide)]; exact hmo _ hB
    refine t_Colours_putTogether_12 zpl_7 zpl_55 (br_f (by rw [m1 hi]; exact nI_ge hx (by omega)) ?_)
    rw [ptog_L, m1 hi, e55, pk_div (by omega) (by decide) (by decide), pk_div (by omega) (by decide) (by decide), pk_mul, pk_mul, nI_add, nI_add, nI_add, nc (by omega), nc (by omega)]
    refine ⟨vp_in_nI (by omega) (by decide), vp_in_nI (by omega) (by decide), vp_in_nI (by omega) (by decide), k _ ?_⟩
    have e8 : I2 8 (y * w + x) = g (y * w + x) := hi.2 _ hk
    have es : ptog (I2 (7 + 1) (y * w + x)) (I2 (55 + 1) (y / 4 * bl w + x / 4)) = S1 de w (y * w + x) g := by
      show ptog (I2 8 (y * w + x)) (I2 56 (y / 4 * bl w + x / 4)) = _
      unfold S1 blk
      rw [e8, e56, hyx.1, hyx.2]
    rw [es]
    exact img_u hi (by decide)
theorem r_green {I : zJ} (hw8 : w ≤ 8) (hh : h ≤ 8) (h1 : I 7 1 = nI w) (h2 : I 7 2 = nI h) (hf : ∀ j, j < w * h → I 8 j = f j)
    (hP : ∀ I1, fr [8] I I1 → (∀ j, j < w * h → I1 8 j = rasL S2 (w * h) 0 f j) → P I1) : c_Colours_putGreenOn c J 7 I P T := by
  have ht : w * h ≤ 64 := Nat.mul_le_mul hw8 hh
  have m1 : ∀ {I2 : zJ} {g : Nat → Int32}, img 8 [8] I (w * h) I2 g → I2 7 1 * I2 7 2 = nI (w * h) := fun hi => by rw [hi.1 7 (by decide), h1, h2, pk_mul]
  refine t_Colours_putGreenOn zpl_7 ?_
  refine ras_1 (a := 8) (Sf := [8]) (I0 := I) (S := S2) (F := rasL S2 (w * h) 0 f) (fun k I2 => g_Colours_putGreenOn_2 c J 7 (nI k) I2 P T) ?_ ?_ (w * h) 0 I f (by omega) ⟨fr_0, hf⟩ rfl
  · intro I2 hi
    exact t_Colours_putGreenOn_2 zpl_7 (br_t (by rw [m1 hi]; exact nI_le (Nat.le_refl _) (by omega)) (hP I2 hi.1 hi.2))
  · intro k I2 g hk hi hn
    refine t_Colours_putGreenOn_2 zpl_7 (br_f (by rw [m1 hi]; exact nI_ge hk (by omega)) ⟨vp_in_nI (by omega) (by decide), ?_⟩)
    rw [nc (by omega), nI_add]
    refine v_L_sum' ⟨vp_in_nI (by omega) (by decide), hn _ ?_⟩
    have e8 : I2 8 k = g k := hi.2 _ hk
    have es : psum (I2 (7 + 1) k) ((xus (I2 (7 + 1) k) (nI 8) &&& nI 255) * nI 65537) = S2 k g := by
      show psum (I2 8 k) ((xus (I2 8 k) (nI 8) &&& nI 255) * nI 65537) = _
      unfold S2 pgre pgo
      rw [e8, show xus (g k) (nI 8) &&& nI 255 = pt (g k) 1 from pt_L (g k) 1 (by decide)]
    rw [es]
    exact img_u hi (by decide)
/-- the palette: how many pixels are in one (as a power of two), how many bits each has -/
def pkg (n : Nat) : Nat := if n < 3 then 3 else if n < 5 then 2 else 1
def pkw (w n : Nat) : Nat := (w + 2 ^ pkg n - 1) / 2 ^ pkg n
/-- pixel k, unpacked -/
def punp (pa : Nat → Int32) (n w k : Nat) (f : Nat → Int32) : Int32 :=
  let q := (pt (f (k / w * pkw w n + k % w / 2 ^ pkg n)) 1 >>> (nI (k % w % 2 ^ pkg n * (8 / 2 ^ pkg n)) &&& 31)) &&& (nI (2 ^ (8 / 2 ^ pkg n) - 1))
  if nI n ≤ q then nI 0 else pa q.toNatClampNeg
theorem pkg_3 (n : Nat) : pkg n = 1 ∨ pkg n = 2 ∨ pkg n = 3 := by
  unfold pkg
  by_cases e : n < 3
  · rw [if_pos e]; simp
  · rw [if_neg e]
    by_cases e2 : n < 5
    · rw [if_pos e2]; simp
    · rw [if_neg e2]; simp
theorem pkg_L {n : Nat} (hn : n ≤ 16) (I : zJ) : f_Colours_packing (nI n) I = nI (pkg n) := by
  have key : ∀ n, n < 17 → (if nI 2 < nI n then (if nI 4 < nI n then nI 1 else nI 2) else nI 3) = nI (pkg n) := by decide
  exact key n (by omega)
theorem pkw_le {w n : Nat} (hw : 0 < w) : pkw w n ≤ w ∧ 0 < pkw w n := by
  unfold pkw
  rcases pkg_3 n with e | e | e <;> rw [e] <;> simp <;> omega
theorem pk_idx {w n x : Nat} (hx : x < w) : x / 2 ^ pkg n < pkw w n := by
  unfold pkw
  rcases pkg_3 n with e | e | e <;> rw [e] <;> simp <;> omega
end UO
