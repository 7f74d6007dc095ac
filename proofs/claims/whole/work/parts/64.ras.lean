/-! TRANSFORMS UNDONE, pixel by pixel. -/
def rasL (S : Nat → (Nat → Int32) → Int32) : Nat → Nat → (Nat → Int32) → (Nat → Int32)
  | 0, _, f => f
  | n + 1, k, f => rasL S n (k + 1) (zup f k (S k f))
def bl (n : Nat) : Nat := (n + 3) / 4
def blk (w k : Nat) : Nat := k / w / 4 * bl w + k % w / 4
def S0 (mo : Nat → Int32) (w k : Nat) (f : Nat → Int32) : Int32 := psum (f k) (pfa f k w (pN (mo (blk w k)) 1 % 16))
def S1 (de : Nat → Int32) (w k : Nat) (f : Nat → Int32) : Int32 := ptog (f k) (de (blk w k))
def S2 (k : Nat) (f : Nat → Int32) : Int32 := pgre (f k)
theorem z_blk {w h x y : Nat} (hx : x < w) (hy : y < h) : y / 4 * bl w + x / 4 < bl w * bl h := by
  have h1 : y / 4 + 1 ≤ bl h := by unfold bl; omega
  have h2 : x / 4 + 1 ≤ bl w := by unfold bl; omega
  have h3 : (y / 4 + 1) * bl w ≤ bl h * bl w := Nat.mul_le_mul_right _ h1
  rw [Nat.add_mul, Nat.one_mul, Nat.mul_comm (bl h)] at h3
  omega
theorem bl_le {w h : Nat} (hw : w ≤ 8) (hh : h ≤ 8) : bl w * bl h ≤ 4 := by
  have h1 : bl w ≤ 2 := by unfold bl; omega
  have h2 : bl h ≤ 2 := by unfold bl; omega
  exact Nat.le_trans (Nat.mul_le_mul h1 h2) (by decide)
/-- an image in a row, so far -/
def img (a : Nat) (S : List Nat) (I0 : zJ) (tot : Nat) (I : zJ) (f : Nat → Int32) : Prop := fr S I0 I ∧ ∀ j, j < tot → I a j = f j
theorem img_u {a : Nat} {S : List Nat} {I0 I : zJ} {tot k : Nat} {f : Nat → Int32} {v : Int32} (h : img a S I0 tot I f) (ha : a ∈ S) : img a S I0 tot (xup I a k v) (zup f k v) := by
  refine ⟨fr_u h.1 ha, fun j hj => ?_⟩
  unfold zup
  by_cases e : j = k
  · subst e; rw [xup_s, if_pos rfl]
  · rw [xup_i e, if_neg e]; exact h.2 j hj
/-- one loop over all pixels -/
theorem ras_1 {a : Nat} {Sf : List Nat} {I0 : zJ} {tot : Nat} {S : Nat → (Nat → Int32) → Int32} {F : Nat → Int32} (G : Nat → zJ → Prop)
    (hE : ∀ I, img a Sf I0 tot I F → G tot I) (hS : ∀ k I f, k < tot → img a Sf I0 tot I f → (∀ I1, img a Sf I0 tot I1 (zup f k (S k f)) → G (k + 1) I1) → G k I) :
    ∀ (n k : Nat) (I : zJ) (f : Nat → Int32), k + n = tot → img a Sf I0 tot I f → rasL S n k f = F → G k I := by
  intro n
  induction n with
  | zero =>
    intro k I f hk hi hF
    obtain rfl : k = tot := by omega
    exact hE I (by rw [← hF]; exact hi)
  | succ n ih =>
    intro k I f hk hi hF
    exact hS k I f (by omega) hi fun I1 h1 => ih (k + 1) I1 _ (by omega) h1 hF
/-- rows and columns -/
theorem ras_2 {a : Nat} {Sf : List Nat} {I0 : zJ} {w h : Nat} {S : Nat → (Nat → Int32) → Int32} {F : Nat → Int32} (G2 : Nat → zJ → Prop) (G12 : Nat → Nat → zJ → Prop) (hw : 0 < w)
    (hE : ∀ I, img a Sf I0 (w * h) I F → G2 h I) (h2 : ∀ y I f, y < h → img a Sf I0 (w * h) I f → G12 y 0 I → G2 y I) (h12 : ∀ y I f, img a Sf I0 (w * h) I f → G2 (y + 1) I → G12 y w I)
    (hS : ∀ y x I f, y < h → x < w → img a Sf I0 (w * h) I f → (∀ I1, img a Sf I0 (w * h) I1 (zup f (y * w + x) (S (y * w + x) f)) → G12 y (x + 1) I1) → G12 y x I) :
    ∀ (n k : Nat) (I : zJ) (f : Nat → Int32), k + n = w * h → img a Sf I0 (w * h) I f → rasL S n k f = F → ∀ y x, x ≤ w → k = y * w + x → y < h → G12 y x I := by
  intro n
  induction n with
  | zero =>
    intro k I f hk hi hF y x hx hkx hy
    -- the last row is full
    have h1 : (y + 1) * w ≤ h * w := Nat.mul_le_mul_right _ hy
    rw [Nat.add_mul, Nat.one_mul, Nat.mul_comm h w] at h1
    obtain rfl : x = w := by omega
    have hy1 : y + 1 = h := by
      have : (y + 1) * x = h * x := by rw [Nat.add_mul, Nat.one_mul, Nat.mul_comm h x]; omega
      exact Nat.eq_of_mul_eq_mul_right hw this
    refine h12 y I f hi ?_
    rw [hy1]
    exact hE I (by rw [← hF]; exact hi)
  | succ n ih =>
    intro k I f hk hi hF y x hx hkx hy
    -- one pixel
    have one : ∀ y x, x < w → k = y * w + x → y < h → G12 y x I := by
      intro y x hx hkx hy
      refine hS y x I f hy hx hi fun I1 h1 => ?_
      rw [← hkx] at h1
      exact ih (k + 1) I1 _ (by omega) h1 hF y (x + 1) (by omega) (by omega) hy
    by_cases e : x < w
    · exact one y x e hkx hy
    · obtain rfl : x = w := by omega
      refine h12 y I f hi ?_
      have hk2 : k = (y + 1) * x + 0 := by rw [Nat.add_mul, Nat.one_mul]; omega
      have hy2 : y + 1 < h := by
        apply Nat.lt_of_mul_lt_mul_right (a := x)
        rw [Nat.mul_comm h x]
        omega
      exact h2 (y + 1) I f hy2 hi (one (y + 1) 0 hw hk2 hy2)
section UN
variable {c : zC} {J : zK} {w h : Nat} {f mo de : Nat → Int32} {T : Nat → zJ → Prop} {P : zJ → Prop}
theorem r_putOn {I : zJ} (hw : 0 < w) (hw8 : w ≤ 8) (hh0 : 0 < h) (hh : h ≤ 8) (h1 : I 7 1 = nI w) (h2 : I 7 2 = nI h) (h3 : I 53 1 = nI (bl w)) (hmo : ∀ j, j < bl w * bl h → I 54 j = mo j) (hf : ∀ j, j < w * h → I 8 j = f j)
    (hP : ∀ I1, fr [8] I I1 → (∀ j, j < w * h → I1 8 j = rasL (S0 mo w) (w * h) 0 f j) → P I1) : c_Foretelling_putOn c J 7 53 I P T := by
  have ht : w * h ≤ 64 := Nat.mul_le_mul hw8 hh
  have hb4 := bl_le hw8 hh
  refine t_Foretelling_putOn zpl_7 zpl_53 ?_
  have m1 : ∀ {I2 : zJ} {g : Nat → Int32}, img 8 [8] I (w * h) I2 g → I2 7 1 = nI w := fun hi => by rw [hi.1 7 (by decide)]; exact h1
  have m2 : ∀ {I2 : zJ} {g : Nat → Int32}, img 8 [8] I (w * h) I2 g → I2 7 2 = nI h := fun hi => by rw [hi.1 7 (by decide)]; exact h2
  refine t_Foretelling_putOn_2 zpl_7 zpl_53 (br_f (by rw [h2]; exact nI_ge hh0 (by omega)) ?_)
  refine ras_2 (a := 8) (Sf := [8]) (I0 := I) (S := S0 mo w) (F := rasL (S0 mo w) (w * h) 0 f) (fun y I2 => g_Foretelling_putOn_2 c J 7 53 (nI y) I2 P T) (fun y x I2 => g_Foretelling_putOn_12 c J 7 53 (nI y) (nI x) I2 P T) hw ?_ ?_ ?_ ?_ (w * h) 0 I f (by omega) ⟨fr_0, hf⟩ rfl 0 0 (by omega) (by omega) hh0
  · intro I2 hi
    exact t_Foretelling_putOn_2 zpl_7 zpl_53 (br_t (by rw [m2 hi]; exact nI_le (Nat.le_refl _) (by omega)) (hP I2 hi.1 hi.2))
  · intro y I2 g hy hi k
    exact t_Foretelling_putOn_2 zpl_7 zpl_53 (br_f (by rw [m2 hi]; exact nI_ge hy (by omega)) k)
  · intro y I2 g hi k
    refine t_Foretelling_putOn_12 zpl_7 zpl_53 (br_t (by rw [m1 hi]; exact nI_le (Nat.le_refl _) (by omega)) ?_)
    rw [nI_add]
    exact k
  · intro y x I2 g hy hx hi k
    have hk : y * w + x < w * h := by
      have h5 : (y + 1) * w ≤ h * w := Nat.mul_le_mul_right _ hy
      rw [Nat.add_mul, Nat.one_mul, Nat.mul_comm h w] at h5
      omega
    have hyx := z_yx (y := y) hx
    have hB := z_blk hx hy
    have e53 : I2 53 1 = nI (bl w) := by rw [hi.1 53 (by decide)]; exact h3
    have e54 : I2 54 (y / 4 * bl w + x / 4) = mo (y / 4 * bl w + x / 4) := by rw [hi.1 54 (by decide)]; exact hmo _ hB
    refine t_Foretelling_putOn_12 zpl_7 zpl_53 (br_f (by rw [m1 hi]; exact nI_ge hx (by omega)) ?_)
    rw [m1 hi, e53, pk_div (by omega) (by decide) (by decide), pk_div (by omega) (by decide) (by decide), pk_mul, pk_mul, nI_add, nI_add, nI_add, nc (by omega), nc (by omega)]
    refine ⟨vp_in_nI (by omega) (by decide), vp_in_nI (by omega) (by decide), ?_⟩
    have ep : xus (I2 54 (y / 4 * bl w + x / 4)) (nI 8) &&& nI 255 = pt (mo (y / 4 * bl w + x / 4)) 1 := by rw [e54]; exact pt_L _ 1 (by decide)
    have em : pt (mo (y / 4 * bl w + x / 4)) 1 - pt (mo (y / 4 * bl w + x / 4)) 1 / nI 16 * nI 16 = nI (pN (mo (y / 4 * bl w + x / 4)) 1 % 16) := pk_rem (Nat.lt_trans (pN_lt _ _) (by decide)) (by decide) (by decide)
    show c_Foretelling_foretold c J 7 (nI x) (nI y) ((xus (I2 54 (y / 4 * bl w + x / 4)) (nI 8) &&& nI 255) - (xus (I2 54 (y / 4 * bl w + x / 4)) (nI 8) &&& nI 255) / nI 16 * nI 16) I2 _ T
    rw [ep, em]
    refine v_foretC zpl_7 (by decide) (m1 hi) hx rfl (by omega) (fun j hj => hi.2 j (by omega)) (Nat.mod_lt _ (by decide)) (by omega) ?_
    refine v_L_sum' ⟨vp_in_nI (by omega) (by decide), k _ ?_⟩
    have e8 : I2 8 (y * w + x) = g (y * w + x) := hi.2 _ hk
    have es : psum (I2 (7 + 1) (y * w + x)) (pfa g (y * w + x) w (pN (mo (y / 4 * bl w + x / 4)) 1 % 16)) = S0 mo w (y * w + x) g := by
      show psum (I2 8 (y * w + x)) _ = _
      unfold S0 blk
      rw [e8, hyx.1, hyx.2]
    rw [es]
    exact img_u hi (by decide)
end UN
