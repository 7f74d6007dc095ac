/-! THE DIFFERENT COLOURS, in their order. -/
/-- a colour as a number without sign, for the order -/
def kx (x : Int32) : Int := (x ^^^ (-2147483648 : Int32)).toInt
theorem kx_inj {a b : Int32} (h : kx a = kx b) : a = b := by
  have h1 : a ^^^ (-2147483648 : Int32) = b ^^^ (-2147483648 : Int32) := Int32.toInt_inj.mp h
  have h2 : a ^^^ (-2147483648 : Int32) ^^^ (-2147483648 : Int32) = b ^^^ (-2147483648 : Int32) ^^^ (-2147483648 : Int32) := by rw [h1]
  rw [Int32.xor_assoc, Int32.xor_assoc, Int32.xor_self, Int32.xor_zero, Int32.xor_zero] at h2
  exact h2
theorem lL_is (a b : Int32) (I : zJ) : f_L_isLess a b I = (if kx a < kx b then nI 1 else nI 0) := by
  unfold f_L_isLess
  by_cases h : kx a < kx b
  · rw [if_pos h, if_neg (fun z => by have := Int32.le_iff_toInt_le.mp z; unfold kx at h; omega)]
  · rw [if_neg h, if_pos (Int32.le_iff_toInt_le.mpr (by unfold kx at h; omega))]
/-- S: the colours among the first i pixels, the less first -/
def srt (px : Nat → Int32) (i : Nat) (S : Nat → Int32) (m : Nat) : Prop := (∀ a b, a < b → b < m → kx (S a) < kx (S b)) ∧ (∀ j, j < i → ∃ k, k < m ∧ S k = px j) ∧ ∀ k, k < m → ∃ j, j < i ∧ S k = px j
def frs (px : Nat → Int32) : Nat → Bool := fun k => decide (∀ j, j < k → px j ≠ px k)
theorem srt_in {px S : Nat → Int32} {i m a : Nat} (h : srt px i S m) (ha : a < m) (e : S a = px i) : srt px (i + 1) S m ∧ ¬ frs px i = true := by
  refine ⟨⟨h.1, fun j hj => ?_, fun k hk => ?_⟩, ?_⟩
  · by_cases e2 : j = i
    · subst e2; exact ⟨a, ha, e⟩
    · exact h.2.1 j (by omega)
  · obtain ⟨j, h1, h2⟩ := h.2.2 k hk
    exact ⟨j, by omega, h2⟩
  · intro z
    obtain ⟨j, h1, h2⟩ := h.2.2 a ha
    exact of_decide_eq_true z j h1 (h2.symm.trans e)
/-- one put in at its place -/
def zins (S : Nat → Int32) (a : Nat) (v : Int32) : Nat → Int32 := fun k => if k < a then S k else if k = a then v else S (k - 1)
theorem srt_ins {px S S' : Nat → Int32} {i m a : Nat} (h : srt px i S m) (ha : a ≤ m) (h1 : ∀ x, x < a → kx (S x) < kx (px i)) (h2 : a < m → kx (px i) < kx (S a)) (he : ∀ k, k < m + 1 → S' k = zins S a (px i) k) : srt px (i + 1) S' (m + 1) ∧ frs px i = true := by
  have hlt : ∀ x, a ≤ x → x < m → kx (px i) < kx (S x) := by
    intro x hx hm
    by_cases e : x = a
    · subst e; exact h2 hm
    · have := h.1 a x (by omega) hm
      have := h2 (by omega)
      omega
  refine ⟨⟨fun x y hxy hy => ?_, fun j hj => ?_, fun k hk => ?_⟩, decide_eq_true ?_⟩
  · rw [he x (by omega), he y hy]
    unfold zins
    by_cases e1 : y < a
    · rw [if_pos (by omega), if_pos e1]; exact h.1 x y hxy (by omega)
    · rw [if_neg e1]
      by_cases e2 : y = a
      · rw [if_pos e2, if_pos (by omega)]; exact h1 x (by omega)
      · rw [if_neg e2]
        by_cases e3 : x < a
        · rw [if_pos e3]
          by_cases e4 : x = y - 1
          · omega
          · exact h.1 x (y - 1) (by omega) (by omega)
        · rw [if_neg e3]
          by_cases e4 : x = a
          · rw [if_pos e4]; exact hlt (y - 1) (by omega) (by omega)
          · rw [if_neg e4]; exact h.1 (x - 1) (y - 1) (by omega) (by omega)
  · by_cases e : j = i
    · subst e
      refine ⟨a, by omega, ?_⟩
      rw [he a (by omega)]
      unfold zins
      rw [if_neg (by omega), if_pos rfl]
    · obtain ⟨k, hk, hk2⟩ := h.2.1 j (by omega)
      by_cases e2 : k < a
      · refine ⟨k, by omega, ?_⟩
        rw [he k (by omega)]
        unfold zins
        rw [if_pos e2]; exact hk2
      · refine ⟨k + 1, by omega, ?_⟩
        rw [he (k + 1) (by omega)]
        unfold zins
        rw [if_neg (by omega), if_neg (by omega), Nat.add_sub_cancel]; exact hk2
  · rw [he k hk]
    unfold zins
    by_cases e1 : k < a
    · rw [if_pos e1]
      obtain ⟨j, g1, g2⟩ := h.2.2 k (by omega)
      exact ⟨j, by omega, g2⟩
    · rw [if_neg e1]
      by_cases e2 : k = a
      · rw [if_pos e2]; exact ⟨i, by omega, rfl⟩
      · rw [if_neg e2]
        obtain ⟨j, g1, g2⟩ := h.2.2 (k - 1) (by omega)
        exact ⟨j, by omega, g2⟩
  · intro j hj ej
    obtain ⟨k, hk, hk2⟩ := h.2.1 j hj
    rw [ej] at hk2
    by_cases e1 : k < a
    · have := h1 k e1; rw [hk2] at this; omega
    · have := hlt k (by omega) hk; rw [hk2] at this; omega
section GA
variable {c : zC} {J : zK} {tot : Nat} {px : Nat → Int32} {T : Nat → zJ → Prop} {P : Int32 → zJ → Prop}
/-- room is made, from the end on -/
theorem l_gather74 {I0 : zJ} {m i a : Nat} (ha : a ≤ m) (hm : m < 64)
    (hE : ∀ I1, fr [81] I0 I1 → (∀ k, k < m + 1 → I1 81 k = zins (I0 81) a (px i) k) → g_L_gatherColours_4 c J (nI (m + 1)) (nI (i + 1)) I1 P T) :
    ∀ (k b : Nat) (I : zJ), a + k = b → b ≤ m → fr [81] I0 I → (∀ k, k ≤ b → I 81 k = I0 81 k) → (∀ k, b < k → k ≤ m → I 81 k = I0 81 (k - 1)) → g_L_gatherColours_74 c J (nI m) (nI i) (px i) (nI a) (nI b) I P T := by
  intro k
  induction k with
  | zero =>
    intro b I hb hbm hf h1 h2
    obtain rfl : b = a := by omega
    refine t_L_gatherColours_74 (br_t (nI_le (Nat.le_refl _) (by omega)) ⟨vp_in_nI (by omega) (by decide), ?_⟩)
    rw [nc (by omega), nI_add, nI_add]
    refine hE _ (fr_u hf (by decide)) fun k hk => ?_
    unfold zins
    by_cases e1 : k < b
    · rw [if_pos e1, xup_i (by omega)]; exact h1 k (by omega)
    · rw [if_neg e1]
      by_cases e2 : k = b
      · rw [if_pos e2, e2, xup_s]
      · rw [if_neg e2, xup_i e2]; exact h2 k (by omega) (by omega)
  | succ k ih =>
    intro b I hb hbm hf h1 h2
    refine t_L_gatherColours_74 (br_f (nI_ge (by omega) (by omega)) ?_)
    rw [pk_sub (by omega), nc (by omega), nc (by omega), sb_m1 (by omega)]
    refine ⟨vp_in_nI (by omega) (by decide), vp_in_nI (by omega) (by decide), ?_⟩
    refine ih (b - 1) _ (by omega) (by omega) (fr_u hf (by decide)) (fun k hk => ?_) (fun k h3 h4 => ?_)
    · rw [xup_i (by omega)]; exact h1 k (by omega)
    · by_cases e : k = b
      · subst e; rw [xup_s]; exact h1 _ (by omega)
      · rw [xup_i e]; exact h2 k (by omega) h4
theorem l_gather4 {I0 : zJ} {w h : Nat} (hw : w ≤ 8) (hh : h ≤ 8) (h1 : I0 5 1 = nI w) (h2 : I0 5 2 = nI h) (hpx : I0 6 = px) (htot : tot = w * h)
    (hP : ∀ m I1, fr [81] I0 I1 → srt px tot (I1 81) m → m = cntp (frs px) tot → P (nI m) I1) :
    ∀ (k i m : Nat) (I : zJ), i + k = tot → fr [81] I0 I → srt px i (I 81) m → m = cntp (frs px) i → g_L_gatherColours_4 c J (nI m) (nI i) I P T := by
  have ht : tot ≤ 64 := by rw [htot]; exact Nat.mul_le_mul hw hh
  intro k
  induction k with
  | zero =>
    intro i m I hi hf hs hm
    obtain rfl : i = tot := by omega
    refine t_L_gatherColours_4 ?_
    rw [hf 5 (by decide), h1, h2, pk_mul, ← htot]
    exact br_t (nI_le (Nat.le_refl _) (by omega)) (hP m I hf hs hm)
  | succ k ih =>
    intro i m I hi hf hs hm
    have hmi : m ≤ i := by rw [hm]; exact cntp_le _ _
    refine t_L_gatherColours_4 ?_
    rw [hf 5 (by decide), h1, h2, pk_mul, ← htot, hf 6 (by decide), hpx, nc (by omega)]
    refine br_f (nI_ge (by omega) (by omega)) ⟨vp_in_nI (by omega) (by decide), ?_⟩
    -- the place
    have at54 : ∀ a, a ≤ m → (∀ x, x < a → kx (I 81 x) < kx (px i)) → (a < m → ¬ kx (I 81 a) < kx (px i)) → g_L_gatherColours_54 c J (nI m) (nI i) (px i) (nI a) I P T := by
      intro a ha g1 g2
      have ins : (a < m → I 81 a ≠ px i) → g_L_gatherColours_74 c J (nI m) (nI i) (px i) (nI a) (nI m) I P T := by
        intro hne
        refine l_gather74 ha (by omega) (fun I1 f1 e1 => ?_) (m - a) m I (by omega) (Nat.le_refl _) fr_0 (fun _ _ => rfl) (fun k h3 h4 => by omega)
        obtain ⟨s1, s2⟩ := srt_ins hs ha g1 (fun z => by
          have y1 := g2 z
          have y2 := hne z
          have y3 : kx (I 81 a) ≠ kx (px i) := fun q => y2 (kx_inj q)
          omega) e1
        exact ih (i + 1) (m + 1) I1 (by omega) (fr_t hf f1) s1 (by rw [cntp_t s2, hm])
      refine t_L_gatherColours_54 (pk_eq a m (fun e => ins (fun z => by omega)) (fun e => ⟨vp_in_nI (by omega) (by decide), ?_⟩))
      rw [nc (by omega), nI_add]
      refine ⟨fun e2 => ?_, fun e2 => ins (fun _ => e2)⟩
      obtain ⟨s1, s2⟩ := srt_in hs (show a < m by omega) e2
      exact ih (i + 1) m I (by omega) hf s1 (by rw [cntp_f s2]; exact hm)
    have at28 : ∀ (q a : Nat), a + q = m → (∀ x, x < a → kx (I 81 x) < kx (px i)) → g_L_gatherColours_28 c J (nI m) (nI i) (px i) (nI a) I P T := by
      intro q
      induction q with
      | zero =>
        intro a ha g1
        obtain rfl : a = m := by omega
        exact t_L_gatherColours_28 (br_t (nI_le (Nat.le_refl _) (by omega)) (at54 a (Nat.le_refl _) g1 (fun z => by omega)))
      | succ q ihq =>
        intro a ha g1
        refine t_L_gatherColours_28 (br_f (nI_ge (by omega) (by omega)) ⟨vp_in_nI (by omega) (by decide), ?_⟩)
        rw [nc (by omega), lL_is, nI_add]
        by_cases e : kx (I 81 a) < kx (px i)
        · rw [if_pos e]
          refine br_f (by decide) (ihq (a + 1) (by omega) fun x hx => ?_)
          by_cases e2 : x = a
          · subst e2; exact e
          · exact g1 x (by omega)
        · rw [if_neg e]
          exact br_t rfl (at54 a (by omega) g1 (fun _ => e))
    exact at28 m 0 (by omega) (fun x hx => absurd hx (by omega))
theorem v_gather {I : zJ} {w h : Nat} (hw : w ≤ 8) (hh : h ≤ 8) (h1 : I 5 1 = nI w) (h2 : I 5 2 = nI h) (hpx : I 6 = px)
    (hP : ∀ m I1, fr [81] I I1 → srt px (w * h) (I1 81) m → m = cntp (frs px) (w * h) → P (nI m) I1) : c_L_gatherColours c J I P T :=
  t_L_gatherColours (l_gather4 hw hh h1 h2 hpx rfl hP (w * h) 0 0 I (by omega) fr_0 ⟨fun a b h3 h4 => absurd h4 (by omega), fun j hj => absurd hj (by omega), fun k hk => absurd hk (by omega)⟩ rfl)
/-- the reference counts them -/
theorem l_diff22 {I : zJ} {i m : Nat} (hpx : I 84 = px) (hi : i < 64) (hE : ∀ m', m' = m + (if frs px i = true then 1 else 0) → g_M_differentColours_4 c J (nI m') (nI (i + 1)) I P T) :
    ∀ (k j b : Nat), j + k = i → b = (if (∀ x, x < j → px x ≠ px i) then 1 else 0) → g_M_differentColours_22 c J (nI m) (nI i) (nI b) (nI j) I P T := by
  intro k
  induction k with
  | zero =>
    intro j b hj hb
    obtain rfl : j = i := by omega
    refine t_M_differentColours_22 (br_t (nI_le (Nat.le_refl _) (by omega)) ?_)
    rw [nI_add, nI_add]
    by_cases e : ∀ x, x < j → px x ≠ px j
    · rw [if_pos e] at hb
      subst hb
      exact br_f (by decide) (hE (m + 1) (by rw [if_pos (show frs px j = true from decide_eq_true e)]))
    · rw [if_neg e] at hb
      subst hb
      exact br_t rfl (hE m (by rw [if_neg (fun z : frs px j = true => e (of_decide_eq_true z))]; rfl))
  | succ k ih =>
    intro j b hj hb
    refine t_M_differentColours_22 (br_f (nI_ge (by omega) (by omega)) ?_)
    rw [nc (by omega), nc (by omega), hpx, nI_add]
    by_cases e : ∀ x, x < j → px x ≠ px i
    · rw [if_pos e] at hb
      subst hb
      refine br_f (by decide) ⟨vp_in_nI (by omega) (by decide), vp_in_nI (by omega) (by decide), fun e2 => ?_, fun e2 => ?_⟩
      · exact ih (j + 1) 0 (by omega) (by rw [if_neg (fun z => z j (by omega) e2)])
      · exact ih (j + 1) 1 (by omega) (by
          rw [if_pos fun x hx => ?_]
          by_cases e3 : x = j
          · subst e3; exact e2
          · exact e x (by omega))
    · rw [if_neg e] at hb
      subst hb
      exact br_t rfl (ih (j + 1) 0 (by omega) (by rw [if_neg (fun z => e fun x hx => z x (by omega))]))
theorem l_diff4 {I : zJ} {w h : Nat} (hw : w ≤ 8) (hh : h ≤ 8) (h1 : I 83 1 = nI w) (h2 : I 83 2 = nI h) (hpx : I 84 = px) (hP : P (nI (cntp (frs px) (w * h))) I) : ∀ (k i m : Nat), i + k = w * h → m = cntp (frs px) i → g_M_differentColours_4 c J (nI m) (nI i) I P T := by
  have ht : w * h ≤ 64 := Nat.mul_le_mul hw hh
  intro k
  induction k with
  | zero =>
    intro i m hi hm
    obtain rfl : i = w * h := by omega
    refine t_M_differentColours_4 ?_
    rw [h1, h2, pk_mul, hm]
    exact br_t (nI_le (Nat.le_refl _) (by omega)) hP
  | succ k ih =>
    intro i m hi hm
    refine t_M_differentColours_4 ?_
    rw [h1, h2, pk_mul]
    refine br_f (nI_ge (by omega) (by omega)) (l_diff22 hpx (by omega) (fun m' hm' => ih (i + 1) m' (by omega) ?_) i 0 1 (by omega) ?_)
    · rw [hm', hm]; rfl
    · rw [if_pos fun x hx => absurd hx (by omega)]
theorem v_diff {I : zJ} {w h : Nat} (hw : w ≤ 8) (hh : h ≤ 8) (h1 : I 83 1 = nI w) (h2 : I 83 2 = nI h) (hpx : I 84 = px) (hP : P (nI (cntp (frs px) (w * h))) I) : c_M_differentColours c J I P T :=
  t_M_differentColours (l_diff4 hw hh h1 h2 hpx hP (w * h) 0 0 (by omega) rfl)
end GA
