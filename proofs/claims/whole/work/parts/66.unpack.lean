/-! THE PALETTE UNDONE. -/
section UP
variable {c : zC} {J : zK} {w h n : Nat} {f pa : Nat → Int32} {T : Nat → zJ → Prop} {P : zJ → Prop}
/-- the palette's number of a pixel -/
def pq (n w k : Nat) (f : Nat → Int32) : Int32 := (pt (f (k / w * pkw w n + k % w / 2 ^ pkg n)) 1 >>> (nI (k % w % 2 ^ pkg n * (8 / 2 ^ pkg n)) &&& 31)) &&& (nI (2 ^ (8 / 2 ^ pkg n) - 1))
theorem pq_lt (n w k : Nat) (f : Nat → Int32) : ∃ q, q < 16 ∧ pq n w k f = nI q := by
  have hb : 8 / 2 ^ pkg n ≤ 4 := by rcases pkg_3 n with e | e | e <;> rw [e] <;> decide
  have h2 : (2 : Nat) ^ (8 / 2 ^ pkg n) ≤ 2 ^ 4 := Nat.pow_le_pow_right (by decide) hb
  obtain ⟨q, hq, e⟩ := pk_andE (pt (f (k / w * pkw w n + k % w / 2 ^ pkg n)) 1 >>> (nI (k % w % 2 ^ pkg n * (8 / 2 ^ pkg n)) &&& 31)) (m := nI (2 ^ (8 / 2 ^ pkg n) - 1)) (8 / 2 ^ pkg n) (pk_tn (by omega))
  exact ⟨q, by omega, e⟩
theorem punp_eq (k : Nat) : punp pa n w k f = if nI n ≤ pq n w k f then nI 0 else pa (pq n w k f).toNatClampNeg := rfl
/-- what is final behind place m, what is still as it was ahead of it -/
def uinv (I0 : zJ) (w h n : Nat) (pa f : Nat → Int32) (m : Nat) (I : zJ) : Prop := fr [8] I0 I ∧ (∀ j, m ≤ j → j < w * h → I 8 j = punp pa n w j f) ∧ ∀ j, j < m → j < pkw w n * h → I 8 j = f j
theorem r_unpack {I : zJ} (hw : 0 < w) (hw8 : w ≤ 8) (hh0 : 0 < h) (hh : h ≤ 8) (hn : n ≤ 16) (h1 : I 7 1 = nI (pkw w n)) (h2 : I 7 2 = nI h) (h3 : I 57 1 = nI n) (hpa : ∀ j, j < n → I 58 j = pa j) (hf : ∀ j, j < pkw w n * h → I 8 j = f j)
    (hP : ∀ I1, fr [7, 8] I I1 → I1 7 1 = nI w → I1 7 2 = nI h → (∀ j, j < w * h → I1 8 j = punp pa n w j f) → P I1) : c_Colours_unpack c J 7 57 (nI w) I P T := by
  have ht : w * h ≤ 64 := Nat.mul_le_mul hw8 hh
  obtain ⟨hp1, hp0⟩ := pkw_le (n := n) hw
  have hpk : pkg n ≤ 3 := by rcases pkg_3 n with e | e | e <;> omega
  have hp2 : (2 : Nat) ^ pkg n ≤ 8 := by rcases pkg_3 n with e | e | e <;> rw [e] <;> decide
  have hp3 : 0 < (2 : Nat) ^ pkg n := Nat.two_pow_pos _
  have hb4 : 8 / 2 ^ pkg n ≤ 4 := by rcases pkg_3 n with e | e | e <;> rw [e] <;> decide
  have hb5 : (2 : Nat) ^ (8 / 2 ^ pkg n) ≤ 2 ^ 4 := Nat.pow_le_pow_right (by decide) hb4
  have hb6 : 0 < (2 : Nat) ^ (8 / 2 ^ pkg n) := Nat.two_pow_pos _
  have fin : ∀ I2, uinv I w h n pa f 0 I2 → g_Colours_unpack_28 c J 7 57 (nI w) (nI (pkg n)) (nI (8 / 2 ^ pkg n)) (nI (pkw w n)) (-1 : Int32) I2 P T := by
    intro I2 hi
    refine t_Colours_unpack_28 zpl_7 zpl_57 (br_t (by decide) (hP _ (fr_u (fr_s hi.1 (by decide)) (by decide)) xup_s ?_ (fun j hj => ?_)))
    · rw [xup_i (by decide), hi.1 7 (by decide)]; exact h2
    · rw [xup_k (by decide)]; exact hi.2.1 j (by omega) hj
  have row : ∀ (m y x : Nat) (I2 : zJ), x < w → y < h → y * w + x + 1 = m → uinv I w h n pa f m I2 → g_Colours_unpack_38 c J 7 57 (nI w) (nI (pkg n)) (nI (8 / 2 ^ pkg n)) (nI (pkw w n)) (nI y) (nI x) I2 P T := by
    intro m
    induction m with
    | zero => intro y x I2 _ _ hm; omega
    | succ m ih =>
      intro y x I2 hx hy hm hi
      obtain rfl : m = y * w + x := by omega
      have hyx := z_yx (y := y) hx
      have hk : y * w + x < w * h := by
        have h5 : (y + 1) * w ≤ h * w := Nat.mul_le_mul_right _ hy
        rw [Nat.add_mul, Nat.one_mul, Nat.mul_comm h w] at h5
        omega
      have hpi := pk_idx (n := n) hx
      have hidx : y * pkw w n + x / 2 ^ pkg n < pkw w n * h := by
        have h5 : (y + 1) * pkw w n ≤ h * pkw w n := Nat.mul_le_mul_right _ hy
        rw [Nat.add_mul, Nat.one_mul, Nat.mul_comm h] at h5
        omega
      have hidk : y * pkw w n + x / 2 ^ pkg n ≤ y * w + x := Nat.add_le_add (Nat.mul_le_mul_left _ hp1) (Nat.div_le_self _ _)
      have hidx64 : pkw w n * h ≤ 64 := Nat.mul_le_mul (show pkw w n ≤ 8 by omega) hh
      have ef : I2 8 (y * pkw w n + x / 2 ^ pkg n) = f (y * pkw w n + x / 2 ^ pkg n) := hi.2.2 _ (by omega) hidx
      have e57 : I2 57 1 = nI n := by rw [hi.1 57 (by decide)]; exact h3
      have hxm : x % 2 ^ pkg n < 2 ^ pkg n := Nat.mod_lt _ hp3
      have hxb : x % 2 ^ pkg n * (8 / 2 ^ pkg n) < 8 := by
        have h6 : (x % 2 ^ pkg n + 1) * (8 / 2 ^ pkg n) ≤ 2 ^ pkg n * (8 / 2 ^ pkg n) := Nat.mul_le_mul_right _ hxm
        have h7 : 2 ^ pkg n * (8 / 2 ^ pkg n) = 8 := by rcases pkg_3 n with e | e | e <;> rw [e] <;> decide
        have h8 : 1 ≤ 8 / 2 ^ pkg n := by rcases pkg_3 n with e | e | e <;> rw [e] <;> decide
        rw [Nat.add_mul, Nat.one_mul, h7] at h6
        omega
      obtain ⟨q, hq, eq⟩ := pq_lt n w (y * w + x) f
      -- behind this pixel
      have nxt : ∀ I3, uinv I w h n pa f (y * w + x) I3 → g_Colours_unpack_38 c J 7 57 (nI w) (nI (pkg n)) (nI (8 / 2 ^ pkg n)) (nI (pkw w n)) (nI y) (nI x + (-1 : Int32)) I3 P T := by
        intro I3 h3i
        by_cases e : x = 0
        · subst e
          have e1 : nI 0 + (-1 : Int32) = -1 := by decide
          rw [e1]
          refine t_Colours_unpack_38 zpl_7 zpl_57 (br_t (by decide) ?_)
          by_cases ey : y = 0
          · subst ey
            rw [e1]
            exact fin I3 (by simpa using h3i)
          · rw [sb_m1 (by omega)]
            refine t_Colours_unpack_28 zpl_7 zpl_57 (br_f (nI_nlt (Nat.zero_le _) (by omega)) ?_)
            rw [pk_sub hw]
            refine ih (y - 1) (w - 1) I3 (by omega) (by omega) ?_ h3i
            obtain ⟨z, rfl⟩ : ∃ z, y = z + 1 := ⟨y - 1, by omega⟩
            rw [Nat.add_sub_cancel, Nat.add_mul, Nat.one_mul]
            omega
        · rw [sb_m1 (by omega)]
          exact ih y (x - 1) I3 (by omega) hy (by omega) h3i
      have step : ∀ v : Int32, v = punp pa n w (y * w + x) f → uinv I w h n pa f (y * w + x) (xup I2 8 (y * w + x) v) := by
        intro v hv
        refine ⟨fr_u hi.1 (by decide), fun j h4 h5 => ?_, fun j h4 h5 => ?_⟩
        · by_cases e : j = y * w + x
          · subst e; rw [xup_s]; exact hv
          · rw [xup_i e]; exact hi.2.1 j (by omega) h5
        · rw [xup_i (by omega)]; exact hi.2.2 j (by omega) h5
      refine t_Colours_unpack_38 zpl_7 zpl_57 (br_f (nI_nlt (Nat.zero_le _) (by omega)) ?_)
      rw [pk_shrN (n := x) (by omega) _ (pkg n) (z_sl _ (by omega)), pk_shlN (n := 1) _ (pkg n) (z_sl _ (by omega)) (by omega), pk_shlN (n := 1) _ (8 / 2 ^ pkg n) (z_sl _ (by omega)) (by omega), Nat.one_mul, Nat.one_mul, pk_sub (a := 2 ^ pkg n) (b := 1) hp3, pk_sub (a := 2 ^ (8 / 2 ^ pkg n)) (b := 1) hb6, pk_andN (n := x) (by omega) (pkg n) (pk_tn (by omega)), pk_mul, pk_mul, pk_mul, nI_add, nI_add, nc (by omega), nc (by omega)]
      have e8 : xus (I2 (7 + 1) (y * pkw w n + x / 2 ^ pkg n)) (nI 8) &&& nI 255 = pt (f (y * pkw w n + x / 2 ^ pkg n)) 1 := by
        show xus (I2 8 (y * pkw w n + x / 2 ^ pkg n)) (nI 8) &&& nI 255 = _
        rw [ef]
        exact pt_L _ 1 (by decide)
      have epq : (pt (f (y * pkw w n + x / 2 ^ pkg n)) 1 >>> (nI (x % 2 ^ pkg n * (8 / 2 ^ pkg n)) &&& 31)) &&& nI (2 ^ (8 / 2 ^ pkg n) - 1) = nI q := by
        rw [← eq]
        unfold pq
        rw [hyx.1, hyx.2]
      rw [e8, epq, e57, nc (by omega)]
      have eup : punp pa n w (y * w + x) f = if nI n ≤ nI q then nI 0 else pa q := by rw [punp_eq, eq, nc (by omega)]
      refine ⟨vp_in_nI (by omega) (by decide), pk_le n q (fun e => ⟨vp_in_nI (by omega) (by decide), nxt _ (step _ ?_)⟩) (fun e => ⟨vp_in_nI (by omega) (by decide), vp_in_nI (by omega) (by decide), nxt _ (step _ ?_)⟩)⟩
      · rw [eup, if_pos (nI_le e (by omega))]
      · rw [eup, if_neg (nI_ge e (by omega))]
        show I2 58 q = pa q
        rw [hi.1 58 (by decide)]; exact hpa q e
  refine t_Colours_unpack zpl_7 zpl_57 ?_
  rw [h3, pkg_L hn, pk_shrN (n := 8) (by decide) _ (pkg n) (z_sl _ (by omega)), h1, h2, pk_sub hh0]
  refine t_Colours_unpack_28 zpl_7 zpl_57 (br_f (nI_nlt (Nat.zero_le _) (by omega)) ?_)
  rw [pk_sub hw]
  refine row (w * h) (h - 1) (w - 1) I (by omega) (by omega) ?_ ⟨fr_0, fun j h4 h5 => by omega, fun j _ h5 => hf j h5⟩
  obtain ⟨z, rfl⟩ : ∃ z, h = z + 1 := ⟨h - 1, by omega⟩
  rw [Nat.add_sub_cancel, Nat.mul_comm w, Nat.add_mul, Nat.one_mul]
  omega
end UP
