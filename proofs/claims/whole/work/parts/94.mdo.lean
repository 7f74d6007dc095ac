/-! TRANSFORMS DONE for writing, by the reference. -/
theorem lM_is (a b : Int32) (I : zJ) : f_M_isLess a b I = (if kx a < kx b then nI 1 else nI 0) := by
  unfold f_M_isLess
  by_cases h : kx a < kx b
  · rw [if_pos h, if_neg (fun z => by have := Int32.le_iff_toInt_le.mp z; unfold kx at h; omega)]
  · rw [if_neg h, if_pos (Int32.le_iff_toInt_le.mpr (by unfold kx at h; omega))]
theorem cmo_M : ∀ v, v < 256 → (-16777216 : Int32) + nI 256 * nI v = cmo v := by decide +kernel
theorem nI_m1 (n : Nat) : nI n + (-1 : Int32) = nI n - nI 1 := by
  show nI n + (-1 : Int32) = nI n - (1 : Int32)
  grind
/-- behind those found -/
def qlf (S : Nat → Int32) (m : Nat) (x : Int32) : Prop := m = 0 ∨ kx (S (m - 1)) < kx x
/-- the pixels behind each transform, and the bits that tell it -/
def wf1 (v : Int32) (S : Nat → Int32) (n w : Nat) (f : Nat → Int32) : Nat → Int32 := if v = nI 0 then f else pkd S n w f
def wW (v : Int32) (n w : Nat) : Nat := if v = nI 0 then w else pkw w n
def wf2 (v : Int32) (f : Nat → Int32) : Nat → Int32 := if v = nI 0 then f else fun k => pgof (f k)
def wf3 (v : Int32) (w1 : Nat) (f : Nat → Int32) : Nat → Int32 := if v = -1 then f else fun k => pdif (f k) (pfa f k w1 v.toNatClampNeg)
def wpB (S : Nat → Int32) (n : Nat) : List Nat := bsv (nI 1) 1 ++ bsv (nI 3) 2 ++ bsv (nI (n - 1)) 4 ++ imB 0 (pim S) n
def wmB (md w1 h : Nat) : List Nat := bsv (nI 1) 1 ++ bsv (nI 0) 2 ++ imB 0 (fun _ => cmo md) (bl w1 * bl h)
section MD
variable {c : zC} {J : zK} {T : Nat → zJ → Prop} {w h n md : Nat} {f S px : Nat → Int32}
theorem v_findM {P : zJ → Prop} {I : zJ} (hw : w ≤ 8) (hh : h ≤ 8) (h1 : I 83 1 = nI w) (h2 : I 83 2 = nI h) (hpx : I 84 = px) (hs : srt px (w * h) S n) (hn : n = cntp (frs px) (w * h)) (h16 : n ≤ 16)
    (hP : ∀ I1, mf [98] [26] I I1 → I1 83 26 = nI n → (∀ k, k < n → I1 98 k = S k) → P I1) : c_M_findColours c J I P T := by
  have ht : w * h ≤ 64 := Nat.mul_le_mul hw hh
  have key : ∀ (r m : Nat) (v2 : Int32) (I1 : zJ), m + r = n → mf [98] [26] I I1 → I1 83 26 = nI m → (∀ k, k < m → I1 98 k = S k) → (0 < m → v2 = S (m - 1)) → g_M_findColours_12 c J (nI n) v2 I1 P T := by
    intro r
    induction r with
    | zero =>
      intro m v2 I1 hm f1 e26 e98 _
      obtain rfl : m = n := by omega
      refine t_M_findColours_12 ?_
      rw [e26]
      exact br_t (nI_le (Nat.le_refl _) (by omega)) (hP I1 f1 e26 e98)
    | succ r ih =>
      intro m v2 I1 hm f1 e26 e98 hv2
      have e1 : I1 83 1 = nI w := (f1.2 1 (by decide)).trans h1
      have e2 : I1 83 2 = nI h := (f1.2 2 (by decide)).trans h2
      have e84 : I1 84 = px := (f1.1 84 (by decide) (by decide)).trans hpx
      have scan : ∀ (q i b : Nat) (v3 : Int32), i + q = w * h → b < 2 → (b = 0 → ∀ j, j < i → ¬ qlf S m (px j)) → (b = 1 → (∃ j, j < i ∧ v3 = px j) ∧ qlf S m v3 ∧ ∀ j, j < i → qlf S m (px j) → kx v3 ≤ kx (px j)) → g_M_findColours_28 c J (nI n) v2 v3 (nI b) (nI i) I1 P T := by
        intro q
        induction q with
        | zero =>
          intro i b v3 hi hb b0 b1
          obtain rfl : i = w * h := by omega
          have hmn : m < n := by omega
          obtain ⟨jm, hjm, ejm⟩ := hs.2.2 m hmn
          have qm : qlf S m (px jm) := by
            by_cases e : m = 0
            · exact Or.inl e
            · right
              rw [← ejm]
              exact hs.1 (m - 1) m (by omega) hmn
          have hb1 : b = 1 := by
            by_cases e : b = 0
            · exact absurd qm (b0 e jm hjm)
            · omega
          obtain ⟨⟨j0, hj0, ej0⟩, qv, mn⟩ := b1 hb1
          have hv3 : v3 = S m := by
            obtain ⟨k0, hk0, ek0⟩ := hs.2.1 j0 hj0
            have a1 := mn jm hjm qm
            have hk0m : m ≤ k0 := by
              rcases Nat.lt_or_ge k0 m with z | z
              · exfalso
                rcases qv with y | y
                · omega
                · rw [ej0, ← ek0] at y
                  by_cases e : k0 = m - 1
                  · rw [e] at y; omega
                  · have := hs.1 k0 (m - 1) (by omega) (by omega); omega
              · exact z
            apply kx_inj
            rw [← ejm] at a1
            by_cases e : m = k0
            · rw [ej0, ← ek0, e]
            · have := hs.1 m k0 (by omega) hk0
              rw [ek0, ← ej0] at this
              omega
          refine t_M_findColours_28 ?_
          rw [e1, e2, pk_mul, e26, nc (n := m) (by omega)]
          refine br_t (nI_le (Nat.le_refl _) (by omega)) ⟨vp_in_nI (by omega) (by decide), ?_⟩
          rw [xup_k (by decide), e26, nI_add]
          refine ih (m + 1) v3 _ (by omega) (mf_f (mf_u f1 (by decide) (by decide)) (by decide)) xup_s (fun k hk => ?_) (fun _ => by rw [Nat.add_sub_cancel]; exact hv3)
          rw [xup_k (by decide)]
          by_cases e : k = m
          · rw [e, xup_s]; exact hv3
          · rw [xup_i e]; exact e98 k (by omega)
        | succ q ihq =>
          intro i b v3 hi hb b0 b1
          have vi : vp_in (nI i) 64 := vp_in_nI (by omega) (by decide)
          have skip : ¬ qlf S m (px i) → g_M_findColours_28 c J (nI n) v2 v3 (nI b) (nI (i + 1)) I1 P T := by
            intro hq
            refine ihq (i + 1) b v3 (by omega) hb (fun e j hj => ?_) (fun e => ?_)
            · by_cases ej : j = i
              · rw [ej]; exact hq
              · exact b0 e j (by omega)
            · obtain ⟨⟨j0, hj0, ej0⟩, qv, mn⟩ := b1 e
              refine ⟨⟨j0, by omega, ej0⟩, qv, fun j hj hqj => ?_⟩
              by_cases ej : j = i
              · rw [ej] at hqj; exact absurd hqj hq
              · exact mn j (by omega) hqj
          have g75 : qlf S m (px i) → g_M_findColours_75 c J (nI n) v2 v3 (nI b) (nI i) I1 P T := by
            intro hq
            refine t_M_findColours_75 ?_
            rw [nc (n := i) (by omega), e84, nI_add, lM_is]
            have take : (b = 1 → kx (px i) ≤ kx v3) → g_M_findColours_28 c J (nI n) v2 (px i) (nI 1) (nI (i + 1)) I1 P T := by
              intro hlt
              refine ihq (i + 1) 1 (px i) (by omega) (by decide) (fun e => absurd e (by decide)) (fun _ => ⟨⟨i, by omega, rfl⟩, hq, fun j hj hqj => ?_⟩)
              by_cases ej : j = i
              · rw [ej]; exact Int.le_refl _
              · by_cases eb : b = 0
                · exact absurd hqj (b0 eb j (by omega))
                · have y1 := (b1 (by omega)).2.2 j (by omega) hqj
                  have y2 := hlt (by omega)
                  omega
            refine pk_eq b 0 (fun e => ⟨vi, take (fun z => by omega)⟩) (fun e => ⟨vi, ?_⟩)
            by_cases el : kx (px i) < kx v3
            · rw [if_pos el]
              exact br_f (by decide) ⟨vi, take (fun _ => by omega)⟩
            · rw [if_neg el]
              refine br_t rfl ?_
              refine ihq (i + 1) b v3 (by omega) hb (fun z => absurd z e) (fun e => ?_)
              obtain ⟨⟨j0, hj0, ej0⟩, qv, mn⟩ := b1 e
              refine ⟨⟨j0, by omega, ej0⟩, qv, fun j hj hqj => ?_⟩
              by_cases ej : j = i
              · rw [ej]; omega
              · exact mn j (by omega) hqj
          refine t_M_findColours_28 ?_
          rw [e1, e2, pk_mul, e26, nc (n := i) (by omega), e84, lM_is, nI_add]
          refine br_f (nI_ge (by omega) (by omega)) (pk_eq m 0 (fun e => t_M_findColours_63 (br_f (by decide) (g75 (Or.inl e)))) (fun e => ⟨vi, ?_⟩))
          rw [hv2 (by omega)]
          by_cases el : kx (S (m - 1)) < kx (px i)
          · rw [if_pos el]
            have := g75 (Or.inr el)
            rw [hv2 (by omega)] at this
            exact br_f (by decide) (t_M_findColours_63 (br_f (by decide) this))
          · rw [if_neg el]
            have := skip (fun z => by rcases z with z | z <;> omega)
            rw [hv2 (by omega)] at this
            exact br_t rfl (br_t rfl this)
      refine t_M_findColours_12 ?_
      rw [e26]
      exact br_f (nI_ge (by omega) (by omega)) (scan (w * h) 0 0 (nI 0) (by omega) (by decide) (fun _ j hj => absurd hj (by omega)) (fun e => absurd e (by decide)))
  refine t_M_findColours (v_diff (px := px) hw hh (by rw [xup_i (by decide)]; exact h1) (by rw [xup_i (by decide)]; exact h2) (by rw [xup_r (by decide)]; exact hpx) ?_)
  rw [← hn]
  exact key n 0 (nI 0) _ (by omega) (mf_f mf_0 (by decide)) xup_s (fun k hk => absurd hk (by omega)) (fun z => absurd z (by omega))
theorem v_nmoM {P : Int32 → zJ → Prop} {I : zJ} {v : Int32} (h1 : 1 ≤ n) (h16 : n ≤ 16) (h26 : I 83 26 = nI n) (hS : ∀ k, k < n → I 98 k = S k) (hP : P (nI (nmo S n v)) I) : c_M_numberOf c J v I P T := by
  have key : ∀ (r k : Nat), k + r = n - 1 → nmoF S v r k = nmo S n v → g_M_numberOf_2 c J v (nI k) I P T := by
    intro r
    induction r with
    | zero =>
      intro k hk he
      rw [show nmoF S v 0 k = k from rfl] at he
      refine t_M_numberOf_2 ?_
      rw [h26, pk_sub h1]
      refine br_t (nI_le (by omega) (by omega)) ?_
      rw [he]; exact hP
    | succ r ih =>
      intro k hk he
      rw [show nmoF S v (r + 1) k = if S k = v then k else nmoF S v r (k + 1) from rfl] at he
      refine t_M_numberOf_2 ?_
      rw [h26, pk_sub h1, nc (n := k) (by omega), hS k (by omega), nI_add]
      refine br_f (nI_ge (by omega) (by omega)) ⟨vp_in_nI (by omega) (by decide), fun e => ?_, fun e => ?_⟩
      · rw [if_pos e] at he
        rw [he]; exact hP
      · rw [if_neg e] at he
        exact ih (k + 1) (by omega) he
  exact t_M_numberOf (key (n - 1) 0 (by omega) rfl)
theorem v_packM {P : Int32 → zJ → Prop} {I : zJ} (hw0 : 0 < w) (hw : w ≤ 8) (hh : h ≤ 8) (hn1 : 1 ≤ n) (h16 : n ≤ 16) (h1 : I 83 1 = nI w) (h2 : I 83 2 = nI h) (h26 : I 83 26 = nI n) (hS : ∀ k, k < n → I 98 k = S k) (hf : I 84 = f)
    (hP : ∀ I1, mf [92] [] I I1 → (∀ j, j < pkw w n * h → I1 92 j = pkd S n w f j) → P (nI (pkw w n)) I1) : c_M_pack c J I P T := by
  have htm : w * h ≤ 64 := Nat.mul_le_mul hw hh
  have hpw := pkw_le (w := w) (n := n) hw0
  have hpt : pkw w n * h ≤ w * h := Nat.mul_le_mul_right _ hpw.1
  have hG : 1 ≤ 2 ^ pkg n ∧ 2 ^ pkg n ≤ 8 := by rcases pkg_3 n with e | e | e <;> rw [e] <;> decide
  have key : ∀ (r k : Nat) (I1 : zJ), k + r = pkw w n * h → mf [92] [] I I1 → (∀ j, j < k → I1 92 j = pkd S n w f j) → g_M_pack_41 c J (nI (pkw w n)) (nI (2 ^ pkg n)) (nI k) I1 P T := by
    intro r
    induction r with
    | zero =>
      intro k I1 hk f1 a1
      refine t_M_pack_41 ?_
      rw [f1.2 2 (by decide), h2, pk_mul]
      exact br_t (nI_le (by omega) (by omega)) (hP I1 f1 fun j hj => a1 j (by omega))
    | succ r ih =>
      intro k I1 hk f1 a1
      have hkl : k < pkw w n * h := by omega
      have hkm : k % pkw w n < pkw w n := Nat.mod_lt _ hpw.2
      have hky : k / pkw w n < h := Nat.div_lt_of_lt_mul hkl
      have hkd : k / pkw w n * w + w ≤ w * h := by
        have : (k / pkw w n + 1) * w ≤ h * w := Nat.mul_le_mul_right _ hky
        rw [Nat.add_mul, Nat.one_mul, Nat.mul_comm h] at this
        exact this
      have hxw : k % pkw w n * 2 ^ pkg n < w := by
        have h3 := hkm
        unfold pkw at h3
        rw [Nat.lt_div_iff_mul_lt (by omega)] at h3
        have : (w + 2 ^ pkg n - 1) / 2 ^ pkg n = pkw w n := rfl
        rw [this] at h3
        omega
      have acc : ∀ (t j : Nat), j + t = 2 ^ pkg n → g_M_pack_57 c J (nI (pkw w n)) (nI (2 ^ pkg n)) (nI k) (nI (pacN (pkq S n w f k) (8 / 2 ^ pkg n) (min j (pkc n w k)))) (nI j) I1 P T := by
        have ecd : pkc n w k = min (2 ^ pkg n) (w - k % pkw w n * 2 ^ pkg n) := rfl
        intro t
        induction t with
        | zero =>
          intro j hj
          obtain rfl : j = 2 ^ pkg n := by omega
          refine t_M_pack_57 (br_t (nI_le (Nat.le_refl _) (by omega)) ?_)
          have em : min (2 ^ pkg n) (pkc n w k) = pkc n w k := by rw [ecd]; omega
          rw [em, nc (n := k) (by omega), nI_add, show pacN (pkq S n w f k) (8 / 2 ^ pkg n) (pkc n w k) = pkN S n w f k from rfl, cmo_M _ (pkN_lt (S := S) (w := w) (k := k) (f := f) hn1 h16)]
          refine ⟨vp_in_nI (by omega) (by decide), ih (k + 1) _ (by omega) (mf_u f1 (by decide) (by decide)) fun i hi => ?_⟩
          by_cases e : i = k
          · rw [e, xup_s]; rfl
          · rw [xup_i e]; exact a1 i (by omega)
        | succ t iht =>
          intro j hj
          have h8 := pk_j8 (n := n) (j := j) (by omega)
          have n0 : ∀ x, 0 < x → x < 2 ^ 31 → ¬ nI x = 0 := fun x z1 z2 z => nI_nle z1 z2 (by rw [z]; exact Int32.le_refl _)
          refine t_M_pack_57 (br_f (nI_ge (by omega) (by omega)) ⟨n0 _ hpw.2 (by omega), ?_⟩)
          rw [pk_rem (by omega) hpw.2 (by omega), pk_div (by omega) hpw.2 (by omega), pk_div (by decide) (by omega) (by omega), f1.2 1 (by decide), h1, pk_mul, nI_add, nI_add]
          refine pk_le w (k % pkw w n * 2 ^ pkg n + j) (fun e => ?_) (fun e => ⟨n0 _ hpw.2 (by omega), ?_⟩)
          · have := iht (j + 1) (by omega)
            rw [show min (j + 1) (pkc n w k) = min j (pkc n w k) from by rw [ecd]; omega] at this
            exact this
          · rw [pk_mul, nI_add, nc (n := k / pkw w n * w + (k % pkw w n * 2 ^ pkg n + j)) (by omega), f1.1 84 (by decide) (by decide), hf, pk_mul]
            refine ⟨vp_in_nI (by omega) (by decide), v_nmoM (S := S) hn1 h16 ((f1.2 26 (by decide)).trans h26) (fun k hk => by rw [f1.1 98 (by decide) (by decide)]; exact hS k hk) ⟨n0 _ (by omega) (by omega), ?_⟩⟩
            have e1 : nmo S n (f (k / pkw w n * w + (k % pkw w n * 2 ^ pkg n + j))) = pkq S n w f k j := by unfold pkq; rw [Nat.add_assoc]
            have m1 : min j (pkc n w k) = j := by rw [ecd]; omega
            rw [e1, m1, Nat.mul_comm (8 / 2 ^ pkg n) j, z_bits (pacN_lt (q := pkq S n w f k) (bt := 8 / 2 ^ pkg n) (fun j => (nmo_lt hn1 h16).1) j) (t := 8 / 2 ^ pkg n) (q := pkq S n w f k j) (nmo_lt hn1 h16).1 (by omega)]
            have := iht (j + 1) (by omega)
            rw [show min (j + 1) (pkc n w k) = j + 1 from by rw [ecd]; omega] at this
            exact this
      refine t_M_pack_41 ?_
      rw [f1.2 2 (by decide), h2, pk_mul]
      have := acc (2 ^ pkg n) 0 (Nat.zero_add _)
      rw [Nat.zero_min] at this
      exact br_f (nI_ge (by omega) (by omega)) this
  refine t_M_pack ?_
  rw [h26, h1, f_packed hw h16]
  have k0 := key (pkw w n * h) 0 I (by omega) mf_0 (fun j hj => absurd hj (by omega))
  unfold pkg at k0
  refine pk_le 3 n (fun e => ?_) (fun e => ?_)
  · rw [if_neg (by omega)] at k0
    refine pk_le 5 n (fun e2 => ?_) (fun e2 => ?_)
    · rw [if_neg (by omega)] at k0; exact k0
    · rw [if_pos (by omega)] at k0; exact k0
  · rw [if_pos (by omega)] at k0; exact k0
theorem v_prepM {P : zJ → Prop} {I : zJ} {v2 v3 : Int32} (hw0 : 0 < w) (hw : w ≤ 8) (hh : h ≤ 8) (hv3 : v3 = -1 ∨ ∃ md, md < 14 ∧ v3 = nI md) (h2 : I 83 2 = nI h) (hf : ∀ k, k < w * h → I 92 k = f k)
    (hP : ∀ I1, mf [91, 92] [] I I1 → (∀ k, k < w * h → I1 91 k = wf3 v3 w (wf2 v2 f) k) → P I1) : c_M_prepare c J (nI w) v2 v3 I P T := by
  have ht : w * h ≤ 64 := Nat.mul_le_mul hw hh
  have rest : ∀ I1, mf [91, 92] [] I I1 → (∀ j, j < w * h → I1 91 j = wf2 v2 f j) → g_M_prepare_119 c J (nI w) v3 (nI (w * h)) (nI (w * h) - nI 1) I1 P T := by
    intro I1 f1 a1
    generalize wf2 v2 f = g at hP a1
    rcases hv3 with e | ⟨md, hmd, e⟩
    · subst e
      have g162 : g_M_prepare_162 c J (-1) (nI (w * h)) (nI 0) I1 P T := t_M_prepare_162 ⟨fun _ => hP I1 f1 a1, fun _ => br_t (by decide) (hP I1 f1 a1)⟩
      exact t_M_prepare_119 ⟨fun _ => g162, fun _ => br_t (by decide) g162⟩
    · subst e
      have e3 : wf3 (nI md) w g = fun k => pdif (g k) (pfa g k w md) := by
        unfold wf3
        rw [if_neg (fun z => by
          have := nI_nlt (Nat.zero_le md) (by omega : md < 2 ^ 31)
          rw [z] at this
          exact this (by decide)), nc (n := md) (by omega)]
      rw [e3] at hP
      have nn : ¬ nI md < nI 0 := nI_nlt (Nat.zero_le _) (by omega)
      have copy : ∀ (r i : Nat) (I2 : zJ), i + r = w * h → mf [91, 92] [] I I2 → (∀ j, j < i → I2 91 j = pdif (g j) (pfa g j w md)) → (∀ j, i ≤ j → j < w * h → I2 92 j = pdif (g j) (pfa g j w md)) → g_M_prepare_162 c J (nI md) (nI (w * h)) (nI i) I2 P T := by
        intro r
        induction r with
        | zero =>
          intro i I2 hi f2 b1 b2
          exact t_M_prepare_162 (br_t (nI_le (by omega) (by omega)) (hP I2 f2 fun j hj => b1 j (by omega)))
        | succ r ih =>
          intro i I2 hi f2 b1 b2
          refine t_M_prepare_162 (br_f (nI_ge (by omega) (by omega)) (br_f nn ⟨vp_in_nI (by omega) (by decide), vp_in_nI (by omega) (by decide), ?_⟩))
          rw [nc (n := i) (by omega), nI_add]
          refine ih (i + 1) _ (by omega) (mf_u f2 (by decide) (by decide)) (fun j hj => ?_) (fun j hj hj2 => ?_)
          · by_cases e : j = i
            · rw [e, xup_s]; exact b2 i (Nat.le_refl _) (by omega)
            · rw [xup_i e]; exact b1 j (by omega)
          · rw [xup_k (by decide)]; exact b2 j (by omega) hj2
      have desc : ∀ (i : Nat) (I2 : zJ), i ≤ w * h → mf [91, 92] [] I I2 → (∀ j, j < w * h → I2 91 j = g j) → (∀ j, i ≤ j → j < w * h → I2 92 j = pdif (g j) (pfa g j w md)) → g_M_prepare_119 c J (nI w) (nI md) (nI (w * h)) (nI i - nI 1) I2 P T := by
        intro i
        induction i with
        | zero =>
          intro I2 hi f2 b1 b2
          exact t_M_prepare_119 (br_t (by decide) (copy (w * h) 0 I2 (by omega) f2 (fun j hj => absurd hj (by omega)) (fun j _ hj => b2 j (by omega) hj)))
        | succ i ih =>
          intro I2 hi f2 b1 b2
          rw [show nI (i + 1) - nI 1 = nI i from by rw [pk_sub (by omega), Nat.add_sub_cancel]]
          refine t_M_prepare_119 (br_f (nI_nlt (Nat.zero_le _) (by omega)) (br_f nn ⟨vp_in_nI (by omega) (by decide), v_foretM (f := g) hw0 (by omega) (by omega) (fun j hj => b1 j (by omega)) (by omega) (v_M_min ⟨vp_in_nI (by omega) (by decide), ?_⟩)⟩))
          rw [nc (n := i) (by omega), b1 i (by omega), nI_m1]
          refine ih _ (by omega) (mf_u f2 (by decide) (by decide)) (fun j hj => by rw [xup_k (by decide)]; exact b1 j hj) (fun j hj hj2 => ?_)
          by_cases e : j = i
          · rw [e, xup_s]
          · rw [xup_i e]; exact b2 j (by omega) hj2
      exact desc (w * h) I1 (Nat.le_refl _) f1 a1 (fun j h3 h4 => absurd h3 (by omega))
  have key : ∀ (r i : Nat) (I1 : zJ), i + r = w * h → mf [91, 92] [] I I1 → (∀ j, j < i → I1 91 j = wf2 v2 f j) → (∀ j, j < w * h → I1 92 j = f j) → g_M_prepare_11 c J (nI w) v2 v3 (nI (w * h)) (nI i) I1 P T := by
    intro r
    induction r with
    | zero =>
      intro i I1 hi f1 a1 a2
      exact t_M_prepare_11 (br_t (nI_le (by omega) (by omega)) (rest I1 f1 fun j hj => a1 j (by omega)))
    | succ r ih =>
      intro i I1 hi f1 a1 a2
      have vi : vp_in (nI i) 64 := vp_in_nI (by omega) (by decide)
      refine t_M_prepare_11 (br_f (nI_ge (by omega) (by omega)) ⟨vi, vi, vi, ?_⟩)
      have q0 : (f i >>> ((nI 8 * nI 0) &&& 31)) &&& nI 255 = pt (f i) 0 := pt_M _ 0 (by decide)
      have q1 : (f i >>> ((nI 8 * nI 1) &&& 31)) &&& nI 255 = pt (f i) 1 := pt_M _ 1 (by decide)
      have q2 : (f i >>> ((nI 8 * nI 2) &&& 31)) &&& nI 255 = pt (f i) 2 := pt_M _ 2 (by decide)
      rw [nc (n := i) (by omega), a2 i (by omega), q0, q1, q2, pgof_M, nI_add]
      have nx : ∀ x, x = wf2 v2 f i → g_M_prepare_11 c J (nI w) v2 v3 (nI (w * h)) (nI (i + 1)) (xup I1 91 i x) P T := by
        intro x hx
        refine ih (i + 1) _ (by omega) (mf_u f1 (by decide) (by decide)) (fun j hj => ?_) (fun j hj => by rw [xup_k (by decide)]; exact a2 j hj)
        by_cases e : j = i
        · rw [e, xup_s]; exact hx
        · rw [xup_i e]; exact a1 j (by omega)
      exact ⟨fun e => ⟨vi, vi, nx _ (by unfold wf2; rw [if_pos e])⟩, fun e => ⟨vi, nx _ (by unfold wf2; rw [if_neg e])⟩⟩
  refine t_M_prepare ?_
  rw [h2, pk_mul]
  exact key (w * h) 0 I (by omega) mf_0 (fun j hj => absurd hj (by omega)) hf
end MD
