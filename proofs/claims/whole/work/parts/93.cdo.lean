/-! TRANSFORMS DONE for writing: what; by the class. -/
def pim (S : Nat → Int32) (k : Nat) : Int32 := if k = 0 then S 0 else pdif (S k) (S (k - 1))
def cmo (m : Nat) : Int32 := (-16777216 : Int32) ||| (nI m <<< (nI 8 &&& 31))
def nmoF (S : Nat → Int32) (v : Int32) : Nat → Nat → Nat
  | 0, k => k
  | r + 1, k => if S k = v then k else nmoF S v r (k + 1)
def nmo (S : Nat → Int32) (n : Nat) (v : Int32) : Nat := nmoF S v (n - 1) 0
theorem nmoF_le (S : Nat → Int32) (v : Int32) : ∀ r k, nmoF S v r k ≤ k + r
  | 0, k => Nat.le_refl _
  | r + 1, k => by
    unfold nmoF
    by_cases e : S k = v
    · rw [if_pos e]; omega
    · rw [if_neg e]; have := nmoF_le S v r (k + 1); omega
def pacN (q : Nat → Nat) (bt : Nat) : Nat → Nat
  | 0 => 0
  | j + 1 => pacN q bt j + q j * 2 ^ (j * bt)
theorem pacN_lt {q : Nat → Nat} {bt : Nat} (h : ∀ j, q j < 2 ^ bt) : ∀ j, pacN q bt j < 2 ^ (j * bt)
  | 0 => by rw [Nat.zero_mul]; exact Nat.zero_lt_one
  | j + 1 => by
    have h1 := pacN_lt h j
    have h2 := h j
    show pacN q bt j + q j * 2 ^ (j * bt) < 2 ^ ((j + 1) * bt)
    rw [Nat.add_mul, Nat.one_mul, Nat.pow_add, Nat.mul_comm (2 ^ (j * bt))]
    have h3 : (q j + 1) * 2 ^ (j * bt) ≤ 2 ^ bt * 2 ^ (j * bt) := Nat.mul_le_mul_right _ h2
    rw [Nat.add_mul, Nat.one_mul] at h3
    omega
theorem z_bits {m s q t : Nat} (hm : m < 2 ^ s) (hq : q < 2 ^ t) (hs : s + t ≤ 30) : nI m ||| (nI q <<< (nI s &&& 31)) = nI (m + q * 2 ^ s) := by
  have h1 : q * 2 ^ s < 2 ^ 32 := by
    have h3 : q * 2 ^ s ≤ 2 ^ t * 2 ^ s := Nat.mul_le_mul_right _ (by omega)
    rw [← Nat.pow_add] at h3
    have h4 : (2 : Nat) ^ (t + s) ≤ 2 ^ 30 := Nat.pow_le_pow_right (by decide) (by omega)
    omega
  rw [pk_shlN _ s (z_sl s (by omega)) h1, z_or, Nat.add_comm m, Nat.mul_comm q, Nat.two_pow_add_eq_or_of_lt hm, Nat.or_comm]
/-- numbers of the colours in a packed pixel -/
def pkq (S : Nat → Int32) (n w : Nat) (f : Nat → Int32) (k j : Nat) : Nat := nmo S n (f (k / pkw w n * w + k % pkw w n * 2 ^ pkg n + j))
def pkc (n w k : Nat) : Nat := min (2 ^ pkg n) (w - k % pkw w n * 2 ^ pkg n)
def pkN (S : Nat → Int32) (n w : Nat) (f : Nat → Int32) (k : Nat) : Nat := pacN (pkq S n w f k) (8 / 2 ^ pkg n) (pkc n w k)
def pkd (S : Nat → Int32) (n w : Nat) (f : Nat → Int32) (k : Nat) : Int32 := cmo (pkN S n w f k)
theorem nmo_lt {S : Nat → Int32} {n : Nat} {v : Int32} (h1 : 1 ≤ n) (h : n ≤ 16) : nmo S n v < 2 ^ (8 / 2 ^ pkg n) ∧ nmo S n v < n := by
  have h2 := nmoF_le S v (n - 1) 0
  have h3 : nmo S n v < n := by unfold nmo; omega
  refine ⟨Nat.lt_of_lt_of_le h3 ?_, h3⟩
  unfold pkg
  by_cases e1 : n < 3
  · rw [if_pos e1]; exact (by omega : n ≤ 2)
  · rw [if_neg e1]
    by_cases e2 : n < 5
    · rw [if_pos e2]; exact (by omega : n ≤ 4)
    · rw [if_neg e2]; exact h
theorem pk_j8 {n j : Nat} (h : j < 2 ^ pkg n) : j * (8 / 2 ^ pkg n) + 8 / 2 ^ pkg n ≤ 8 := by
  rcases pkg_3 n with e | e | e <;> rw [e] at h ⊢ <;> simp at h ⊢ <;> omega
theorem pkN_lt {S : Nat → Int32} {n w k : Nat} {f : Nat → Int32} (h1 : 1 ≤ n) (h : n ≤ 16) : pkN S n w f k < 256 := by
  have h2 := pacN_lt (q := pkq S n w f k) (bt := 8 / 2 ^ pkg n) (fun j => (nmo_lt h1 h).1) (pkc n w k)
  have h3 : pkc n w k ≤ 2 ^ pkg n := Nat.min_le_left _ _
  have h4 : pkc n w k * (8 / 2 ^ pkg n) ≤ 8 := by
    have h5 : pkc n w k * (8 / 2 ^ pkg n) ≤ 2 ^ pkg n * (8 / 2 ^ pkg n) := Nat.mul_le_mul_right _ h3
    rcases pkg_3 n with e | e | e <;> rw [e] at h5 ⊢ <;> exact h5
  exact Nat.lt_of_lt_of_le h2 (Nat.pow_le_pow_right (by decide) h4)
section CD
variable {c : zC} {J : zK} {T : Nat → zJ → Prop} {w h n md : Nat} {f S : Nat → Int32}
theorem v_palC {P : Nat → zJ → Prop} {I : zJ} (h1 : 1 ≤ n) (h16 : n ≤ 16) (hS : I 81 = S) (hP : ∀ I1, fr [57, 58] I I1 → I1 57 1 = nI n → I1 57 2 = nI 1 → (∀ k, k < n → I1 58 k = pim S k) → P 57 I1) : c_Transforms_paletteImage c J 81 (nI n) I P T := by
  have key : ∀ (r i : Nat) (I1 : zJ), i + r = n → 1 ≤ i → fr [57, 58] I I1 → I1 57 1 = nI n → I1 57 2 = nI 1 → (∀ k, k < i → I1 58 k = pim S k) → g_Transforms_paletteImage_23 c J 81 (nI n) (nI i) I1 P T := by
    intro r
    induction r with
    | zero =>
      intro i I1 hi _ f1 a1 a2 a3
      obtain rfl : i = n := by omega
      exact t_Transforms_paletteImage_23 zw_81 (br_t (nI_le (Nat.le_refl _) (by omega)) (hP I1 f1 a1 a2 a3))
    | succ r ih =>
      intro i I1 hi h1i f1 a1 a2 a3
      refine t_Transforms_paletteImage_23 zw_81 (br_f (nI_ge (by omega) (by omega)) ?_)
      rw [nc (n := i) (by omega), pk_sub h1i, nc (n := i - 1) (by omega), f1 81 (by decide), hS, nI_add]
      refine ⟨vp_in_nI (by omega) (by decide), vp_in_nI (by omega) (by decide), v_L_dif ⟨vp_in_nI (by omega) (by decide), ih (i + 1) _ (by omega) (by omega) (fr_u f1 (by decide)) (by rw [xup_k (by decide)]; exact a1) (by rw [xup_k (by decide)]; exact a2) fun k hk => ?_⟩⟩
      by_cases e : k = i
      · rw [e, xup_s]; unfold pim; rw [if_neg (by omega)]
      · rw [xup_i e]; exact a3 k (by omega)
  refine t_Transforms_paletteImage zw_81 (nm_e ⟨by unfold vp_in; decide, ?_⟩)
  rw [xup_k (by decide), xup_k (by decide), hS]
  refine key (n - 1) 1 _ (by omega) (Nat.le_refl _) (fr_u (fr_u (fr_u fr_0 (by decide)) (by decide)) (by decide)) (by rw [xup_k (by decide), xup_i (by decide), xup_s]) (by rw [xup_k (by decide), xup_s]) fun k hk => ?_
  obtain rfl : k = 0 := by omega
  rw [xup_s]
  rfl
theorem v_modC {P : Nat → zJ → Prop} {I : zJ} (hw : w ≤ 8) (hh : h ≤ 8) (h1 : I 7 1 = nI w) (h2 : I 7 2 = nI h) (hP : ∀ I1, fr [53, 54] I I1 → I1 53 1 = nI (bl w) → I1 53 2 = nI (bl h) → (∀ k, k < 4 → I1 54 k = cmo md) → P 53 I1) : c_Transforms_modeImage c J 7 (nI md) I P T := by
  refine t_Transforms_modeImage zpl_7 (nm_e ?_)
  have e : ∀ x, x ≤ 8 → (nI x + nI 4 - nI 1) / nI 4 = nI (bl x) := by
    intro x hx
    rw [nI_add, pk_sub (by omega), pk_div (by omega) (by decide) (by decide)]
    rfl
  rw [h1, h2, e w hw, e h hh]
  refine v_A_fill zw_54 (by decide) (hP _ (fr_fil (fr_u (fr_u fr_0 (by decide)) (by decide)) (by decide)) ?_ ?_ fun k hk => xfil_in (by omega) hk)
  · rw [xfil_r (by decide), xup_i (by decide), xup_s]
  · rw [xfil_r (by decide), xup_s]
theorem v_greenC {P : zJ → Prop} {I : zJ} (hw : w ≤ 8) (hh : h ≤ 8) (h1 : I 7 1 = nI w) (h2 : I 7 2 = nI h) (hf : ∀ j, j < w * h → I 8 j = f j) (hP : ∀ I1, fr [8] I I1 → (∀ j, j < w * h → I1 8 j = pgof (f j)) → P I1) : c_Colours_takeGreenOff c J 7 I P T := by
  have htm : w * h ≤ 64 := Nat.mul_le_mul hw hh
  have key : ∀ (r i : Nat) (I1 : zJ), i + r = w * h → fr [8] I I1 → (∀ j, j < i → I1 8 j = pgof (f j)) → (∀ j, i ≤ j → j < w * h → I1 8 j = f j) → g_Colours_takeGreenOff_2 c J 7 (nI i) I1 P T := by
    intro r
    induction r with
    | zero =>
      intro i I1 hi f1 a1 a2
      refine t_Colours_takeGreenOff_2 zpl_7 ?_
      rw [f1 7 (by decide), h1, h2, pk_mul]
      exact br_t (nI_le (by omega) (by omega)) (hP I1 f1 fun j hj => a1 j (by omega))
    | succ r ih =>
      intro i I1 hi f1 a1 a2
      refine t_Colours_takeGreenOff_2 zpl_7 ?_
      have q1 : xus (f i) (nI 8) &&& nI 255 = pt (f i) 1 := pt_L (f i) 1 (by decide)
      rw [f1 7 (by decide), h1, h2, pk_mul, nc (n := i) (by omega), a2 i (Nat.le_refl _) (by omega), q1, nI_add]
      refine br_f (nI_ge (by omega) (by omega)) ⟨vp_in_nI (by omega) (by decide), v_L_dif ⟨vp_in_nI (by omega) (by decide), ih (i + 1) _ (by omega) (fr_u f1 (by decide)) (fun j hj => ?_) (fun j hj hj2 => ?_)⟩⟩
      · by_cases e : j = i
        · rw [e, xup_s]; rfl
        · rw [xup_i e]; exact a1 j (by omega)
      · rw [xup_i (by omega)]; exact a2 j (by omega) hj2
  exact t_Colours_takeGreenOff zpl_7 (key (w * h) 0 I (by omega) fr_0 (fun j hj => absurd hj (by omega)) fun j _ hj => hf j hj)
theorem v_offC {P : zJ → Prop} {I : zJ} (hw0 : 0 < w) (hw : w ≤ 8) (hh : h ≤ 8) (hmd : md < 16) (h1 : I 7 1 = nI w) (h2 : I 7 2 = nI h) (hf : ∀ j, j < w * h → I 8 j = f j) (hP : ∀ I1, fr [8] I I1 → (∀ j, j < w * h → I1 8 j = pdif (f j) (pfa f j w md)) → P I1) : c_Foretelling_takeOff c J 7 (nI md) I P T := by
  have htm : w * h ≤ 64 := Nat.mul_le_mul hw hh
  have m1 : ∀ n : Nat, nI n + (-1 : Int32) = nI n - nI 1 := fun n => by
    show nI n + (-1 : Int32) = nI n - (1 : Int32)
    grind
  have rows : ∀ (y : Nat) (I1 : zJ), y ≤ h → fr [8] I I1 → (∀ j, y * w ≤ j → j < w * h → I1 8 j = pdif (f j) (pfa f j w md)) → (∀ j, j < y * w → I1 8 j = f j) → g_Foretelling_takeOff_7 c J 7 (nI md) (nI y - nI 1) I1 P T := by
    intro y
    induction y with
    | zero =>
      intro I1 hy f1 a1 a2
      exact t_Foretelling_takeOff_7 zpl_7 (br_t (by decide) (hP I1 f1 fun j hj => a1 j (by omega) hj))
    | succ y ih =>
      intro I1 hy f1 a1 a2
      have hyw : (y + 1) * w ≤ h * w := Nat.mul_le_mul_right _ hy
      rw [Nat.mul_comm h w] at hyw
      have eyw : (y + 1) * w = y * w + w := by rw [Nat.add_mul, Nat.one_mul]
      rw [show nI (y + 1) - nI 1 = nI y from by rw [pk_sub (by omega), Nat.add_sub_cancel]]
      refine t_Foretelling_takeOff_7 zpl_7 (br_f (nI_nlt (Nat.zero_le _) (by omega)) ?_)
      rw [f1 7 (by decide), h1]
      have cols : ∀ (x : Nat) (I2 : zJ), x ≤ w → fr [8] I I2 → (∀ j, y * w + x ≤ j → j < w * h → I2 8 j = pdif (f j) (pfa f j w md)) → (∀ j, j < y * w + x → I2 8 j = f j) → g_Foretelling_takeOff_18 c J 7 (nI md) (nI y) (nI x - nI 1) I2 P T := by
        intro x
        induction x with
        | zero =>
          intro I2 hx f2 b1 b2
          refine t_Foretelling_takeOff_18 zpl_7 (br_t (by decide) ?_)
          rw [m1]
          exact ih I2 (by omega) f2 b1 b2
        | succ x ihx =>
          intro I2 hx f2 b1 b2
          rw [show nI (x + 1) - nI 1 = nI x from by rw [pk_sub (by omega), Nat.add_sub_cancel]]
          refine t_Foretelling_takeOff_18 zpl_7 (br_f (nI_nlt (Nat.zero_le _) (by omega)) ?_)
          have e71 : I2 7 1 = nI w := by rw [f2 7 (by decide)]; exact h1
          rw [e71, pk_mul, nI_add, nc (n := y * w + x) (by omega), b2 _ (by omega), m1]
          refine ⟨vp_in_nI (by omega) (by decide), v_foretC (k := y * w + x) (f := f) zpl_7 (by decide) e71 (by omega) rfl (by omega) (fun j hj => b2 j (by omega)) hmd (by omega) (v_L_dif ⟨vp_in_nI (by omega) (by decide), ihx _ (by omega) (fr_u f2 (by decide)) (fun j hj hj2 => ?_) (fun j hj => ?_)⟩)⟩
          · by_cases e : j = y * w + x
            · rw [e, xup_s]
            · rw [xup_i e]; exact b1 j (by omega) hj2
          · rw [xup_i (by omega)]; exact b2 j (by omega)
      exact cols w I1 (Nat.le_refl _) f1 (fun j hj hj2 => a1 j (by omega) hj2) (fun j hj => a2 j (by omega))
  refine t_Foretelling_takeOff zpl_7 ?_
  rw [h2]
  refine rows h I (Nat.le_refl _) fr_0 (fun j hj hj2 => ?_) (fun j hj => hf j (by rw [Nat.mul_comm]; exact hj))
  rw [Nat.mul_comm] at hj
  omega
theorem v_nmoC {P : Int32 → zJ → Prop} {I : zJ} {v : Int32} (h1 : 1 ≤ n) (h16 : n ≤ 16) (hS : ∀ k, k < n → I 81 k = S k) (hP : P (nI (nmo S n v)) I) : c_Colours_numberOf c J v 81 (nI n) I P T := by
  have key : ∀ (r k : Nat), k + r = n - 1 → nmoF S v r k = nmo S n v → g_Colours_numberOf_2 c J v 81 (nI n) (nI k) I P T := by
    intro r
    induction r with
    | zero =>
      intro k hk he
      rw [show nmoF S v 0 k = k from rfl] at he
      refine t_Colours_numberOf_2 zw_81 ?_
      rw [pk_sub h1]
      refine br_t (nI_le (by omega) (by omega)) ?_
      rw [he]; exact hP
    | succ r ih =>
      intro k hk he
      rw [show nmoF S v (r + 1) k = if S k = v then k else nmoF S v r (k + 1) from rfl] at he
      refine t_Colours_numberOf_2 zw_81 ?_
      rw [pk_sub h1, nc (n := k) (by omega), hS k (by omega), nI_add]
      refine br_f (nI_ge (by omega) (by omega)) ⟨vp_in_nI (by omega) (by decide), fun e => ?_, fun e => ?_⟩
      · rw [if_pos e] at he
        rw [he]; exact hP
      · rw [if_neg e] at he
        exact ih (k + 1) (by omega) he
  exact t_Colours_numberOf zw_81 (key (n - 1) 0 (by omega) rfl)
theorem v_packC {P : zJ → Prop} {I : zJ} (hw0 : 0 < w) (hw : w ≤ 8) (hh0 : 0 < h) (hh : h ≤ 8) (hn1 : 1 ≤ n) (h16 : n ≤ 16) (h1 : I 7 1 = nI w) (h2 : I 7 2 = nI h) (hS : ∀ k, k < n → I 81 k = S k) (hf : ∀ j, j < w * h → I 8 j = f j) (hP : ∀ I1, fr [7, 8] I I1 → I1 7 1 = nI (pkw w n) → I1 7 2 = nI h → (∀ j, j < pkw w n * h → I1 8 j = pkd S n w f j) → P I1) : c_Colours_pack c J 7 81 (nI n) I P T := by
  have htm : w * h ≤ 64 := Nat.mul_le_mul hw hh
  have hpw := pkw_le (w := w) (n := n) hw0
  have hpt : pkw w n * h ≤ w * h := Nat.mul_le_mul_right _ hpw.1
  have hG : 1 ≤ 2 ^ pkg n ∧ 2 ^ pkg n ≤ 8 := by rcases pkg_3 n with e | e | e <;> rw [e] <;> decide
  have eG : nI 1 <<< (nI (pkg n) &&& 31) = nI (2 ^ pkg n) := by rcases pkg_3 n with e | e | e <;> rw [e] <;> decide
  have eB : nI 8 >>> (nI (pkg n) &&& 31) = nI (8 / 2 ^ pkg n) := by rcases pkg_3 n with e | e | e <;> rw [e] <;> decide
  have ePW : (nI w + nI (2 ^ pkg n) - nI 1) >>> (nI (pkg n) &&& 31) = nI (pkw w n) := by
    have key : ∀ w, w < 9 → ∀ g, g < 4 → (nI w + nI (2 ^ g) - nI 1) >>> (nI g &&& 31) = nI ((w + 2 ^ g - 1) / 2 ^ g) := by decide
    exact key w (by omega) (pkg n) (by rcases pkg_3 n with e | e | e <;> omega)
  have eX : ∀ x, x ≤ 8 → nI x <<< (nI (pkg n) &&& 31) = nI (x * 2 ^ pkg n) := by
    have key : ∀ x, x < 9 → ∀ g, g < 4 → nI x <<< (nI g &&& 31) = nI (x * 2 ^ g) := by decide
    exact fun x hx => key x (by omega) (pkg n) (by rcases pkg_3 n with e | e | e <;> omega)
  have rows : ∀ (r y : Nat) (I1 : zJ), y + r = h → fr [8] I I1 → (∀ j, j < y * pkw w n → I1 8 j = pkd S n w f j) → (∀ j, y * pkw w n ≤ j → j < w * h → I1 8 j = f j) → g_Colours_pack_18 c J 7 81 (nI n) (nI (pkg n)) (nI (pkw w n)) (nI y) I1 P T := by
    intro r
    induction r with
    | zero =>
      intro y I1 hy f1 a1 a2
      obtain rfl : y = h := by omega
      refine t_Colours_pack_18 zpl_7 zw_81 ?_
      rw [f1 7 (by decide), h2]
      refine br_t (nI_le (Nat.le_refl _) (by omega)) (hP _ (fr_u (fr_s f1 (by decide)) (by decide)) xup_s ?_ ?_)
      · rw [xup_i (by decide), f1 7 (by decide)]; exact h2
      · intro j hj
        rw [xup_k (by decide)]
        exact a1 j (by rw [Nat.mul_comm]; exact hj)
    | succ r ih =>
      intro y I1 hy f1 a1 a2
      have hyp : (y + 1) * pkw w n ≤ h * pkw w n := Nat.mul_le_mul_right _ (by omega)
      have hyw : (y + 1) * w ≤ h * w := Nat.mul_le_mul_right _ (by omega)
      rw [Nat.mul_comm h] at hyp hyw
      have eyp : (y + 1) * pkw w n = y * pkw w n + pkw w n := by rw [Nat.add_mul, Nat.one_mul]
      have eyw : (y + 1) * w = y * w + w := by rw [Nat.add_mul, Nat.one_mul]
      have hypw : y * pkw w n ≤ y * w := Nat.mul_le_mul_left _ hpw.1
      refine t_Colours_pack_18 zpl_7 zw_81 ?_
      rw [f1 7 (by decide), h2]
      refine br_f (nI_ge (by omega) (by omega)) ?_
      have cols : ∀ (q x : Nat) (I2 : zJ), x + q = pkw w n → fr [8] I I2 → (∀ j, j < y * pkw w n + x → I2 8 j = pkd S n w f j) → (∀ j, y * pkw w n + x ≤ j → j < w * h → I2 8 j = f j) → g_Colours_pack_30 c J 7 81 (nI n) (nI (pkg n)) (nI (pkw w n)) (nI y) (nI x) I2 P T := by
        intro q
        induction q with
        | zero =>
          intro x I2 hx f2 b1 b2
          obtain rfl : x = pkw w n := by omega
          refine t_Colours_pack_30 zpl_7 zw_81 (br_t (nI_le (Nat.le_refl _) (by omega)) ?_)
          rw [nI_add]
          exact ih (y + 1) I2 (by omega) f2 (fun j hj => b1 j (by omega)) (fun j hj hj2 => b2 j (by omega) hj2)
        | succ q ihq =>
          intro x I2 hx f2 b1 b2
          have hxG : x ≤ x * 2 ^ pkg n := Nat.le_mul_of_pos_right _ (by omega)
          have hxw : x * 2 ^ pkg n < w := by
            have h3 : x < pkw w n := by omega
            unfold pkw at h3
            rw [Nat.lt_div_iff_mul_lt (by omega)] at h3
            omega
          have e71 : I2 7 1 = nI w := by rw [f2 7 (by decide)]; exact h1
          have hk := z_yx (w := pkw w n) (x := x) (y := y) (by omega)
          refine t_Colours_pack_30 zpl_7 zw_81 (br_f (nI_ge (by omega) (by omega)) ?_)
          rw [e71, eG, eX x (by omega), pk_sub (by omega), xmin_n (by omega) (by omega)]
          have ec : min (2 ^ pkg n) (w - x * 2 ^ pkg n) = pkc n w (y * pkw w n + x) := by unfold pkc; rw [hk.2]
          have hcl : pkc n w (y * pkw w n + x) ≤ 2 ^ pkg n ∧ pkc n w (y * pkw w n + x) ≤ w - x * 2 ^ pkg n := by rw [← ec]; exact ⟨Nat.min_le_left _ _, Nat.min_le_right _ _⟩
          rw [ec]
          have acc : ∀ (t j : Nat), j + t = pkc n w (y * pkw w n + x) → g_Colours_pack_64 c J 7 81 (nI n) (nI (pkg n)) (nI (pkw w n)) (nI y) (nI x) (nI (x * 2 ^ pkg n)) (nI (pkc n w (y * pkw w n + x))) (nI (pacN (pkq S n w f (y * pkw w n + x)) (8 / 2 ^ pkg n) j)) (nI j) I2 P T := by
            intro t
            induction t with
            | zero =>
              intro j hj
              obtain rfl : j = pkc n w (y * pkw w n + x) := by omega
              refine t_Colours_pack_64 zpl_7 zw_81 (br_t (nI_le (Nat.le_refl _) (by omega)) ?_)
              rw [pk_mul, nI_add, nc (n := y * pkw w n + x) (by omega), nI_add]
              refine ⟨vp_in_nI (by omega) (by decide), ihq (x + 1) _ (by omega) (fr_u f2 (by decide)) (fun i hi => ?_) (fun i hi hi2 => ?_)⟩
              · by_cases e : i = y * pkw w n + x
                · rw [e, xup_s]; rfl
                · rw [xup_i e]; exact b1 i (by omega)
              · rw [xup_i (by omega)]; exact b2 i (by omega) hi2
            | succ t iht =>
              intro j hj
              have h8 := pk_j8 (n := n) (j := j) (by omega)
              refine t_Colours_pack_64 zpl_7 zw_81 (br_f (nI_ge (by omega) (by omega)) ?_)
              rw [e71, pk_mul, nI_add, nI_add, nc (n := y * w + x * 2 ^ pkg n + j) (by omega), b2 _ (by omega) (by omega), nI_add]
              refine ⟨vp_in_nI (by omega) (by decide), v_nmoC (S := S) hn1 h16 (fun k hk => by rw [f2 81 (by decide)]; exact hS k hk) ?_⟩
              have e1 : nmo S n (f (y * w + x * 2 ^ pkg n + j)) = pkq S n w f (y * pkw w n + x) j := by unfold pkq; rw [hk.1, hk.2]
              rw [e1, eB, pk_mul, z_bits (pacN_lt (q := pkq S n w f (y * pkw w n + x)) (bt := 8 / 2 ^ pkg n) (fun j => (nmo_lt hn1 h16).1) j) (t := 8 / 2 ^ pkg n) (q := pkq S n w f (y * pkw w n + x) j) (nmo_lt hn1 h16).1 (by omega)]
              exact iht (j + 1) (by omega)
          exact acc (pkc n w (y * pkw w n + x)) 0 (Nat.zero_add _)
      exact cols (pkw w n) 0 I1 (by omega) f1 (fun j hj => a1 j (by omega)) (fun j hj hj2 => a2 j (by omega) hj2)
  refine t_Colours_pack zpl_7 zw_81 ?_
  rw [pkg_L h16, h1, eG, ePW]
  exact rows h 0 I (by omega) fr_0 (fun j hj => absurd hj (by omega)) (fun j _ hj => hf j hj)
end CD
