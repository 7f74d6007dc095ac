/-! TRANSFORMS UNDONE BY THE REFERENCE. -/
section MU
variable {c : zC} {J : zK} {w h n : Nat} {f mo de pa : Nat → Int32} {T : Nat → zJ → Prop} {P : zJ → Prop}
theorem z_blk2 {w h k : Nat} (hw : 0 < w) (hk : k < w * h) : blk w k < bl w * bl h ∧ k % w < w ∧ k / w < h := by
  have h1 : k % w < w := Nat.mod_lt _ hw
  have h2 : k / w < h := Nat.div_lt_of_lt_mul hk
  exact ⟨z_blk h1 h2, h1, h2⟩
/-- kinds 0, 1, 2 -/
theorem m_undo88 {I : zJ} {kind : Nat} (S : Nat → (Nat → Int32) → Int32) (hw : 0 < w) (hw8 : w ≤ 8) (hh : h ≤ 8) (hk3 : kind < 3)
    (hmo : kind = 0 → (∀ j, j < bl w * bl h → I 96 j = nI (pN (mo j) 1 % 16)) ∧ S = S0 mo w) (hde : kind = 1 → (∀ j, j < bl w * bl h → I 97 j = de j) ∧ S = S1 de w) (hgr : kind = 2 → S = S2) (hf : ∀ j, j < w * h → I 91 j = f j)
    (hP : ∀ I1, fr [91] I I1 → (∀ j, j < w * h → I1 91 j = rasL S (w * h) 0 f j) → P I1) : g_M_undo_88 c J (nI kind) (nI w) (nI h) (nI 0) I P T := by
  have ht : w * h ≤ 64 := Nat.mul_le_mul hw8 hh
  have hb4 := bl_le hw8 hh
  refine ras_1 (a := 91) (Sf := [91]) (I0 := I) (S := S) (F := rasL S (w * h) 0 f) (fun k I2 => g_M_undo_88 c J (nI kind) (nI w) (nI h) (nI k) I2 P T) ?_ ?_ (w * h) 0 I f (by omega) ⟨fr_0, hf⟩ rfl
  · intro I2 hi
    refine t_M_undo_88 ?_
    rw [pk_mul]
    exact br_t (nI_le (Nat.le_refl _) (by omega)) (hP I2 hi.1 hi.2)
  · intro k I2 g hk hi hn
    obtain ⟨hB, hx, hy⟩ := z_blk2 hw hk
    have eb : (nI k / nI w / nI 4) * ((nI w + nI 3) / nI 4) + (nI k - nI k / nI w * nI w) / nI 4 = nI (blk w k) := by
      rw [pk_rem (by omega) hw (by omega), pk_div (by omega) hw (by omega), pk_div (by omega) (by decide) (by decide), nI_add, pk_div (by omega) (by decide) (by decide), pk_div (by omega) (by decide) (by decide), pk_mul, nI_add]
      rfl
    have e91 : I2 91 k = g k := hi.2 _ hk
    refine t_M_undo_88 ?_
    rw [pk_mul, eb, nc (by omega), nc (by omega), ptog_M]
    refine br_f (nI_ge hk (by omega)) ⟨nI_ne0 hw (by omega), nI_ne0 hw (by omega), ?_⟩
    rw [nI_add]
    refine pk_eq kind 0 (fun e => ⟨vp_in_nI (by omega) (by decide), vp_in_nI (by omega) (by decide), ?_⟩) (fun e => pk_eq kind 1 (fun e1 => ⟨vp_in_nI (by omega) (by decide), vp_in_nI (by omega) (by decide), vp_in_nI (by omega) (by decide), hn _ ?_⟩) (fun e1 => ⟨vp_in_nI (by omega) (by decide), vp_in_nI (by omega) (by decide), hn _ ?_⟩))
    · obtain ⟨y1, rfl⟩ := hmo e
      have e96 : I2 96 (blk w k) = nI (pN (mo (blk w k)) 1 % 16) := by rw [hi.1 96 (by decide)]; exact y1 _ hB
      rw [e96]
      refine v_foretM hw (by omega) (by omega) (fun j hj => hi.2 j (by omega)) (Nat.mod_lt _ (by decide)) (v_M_plus' ⟨vp_in_nI (by omega) (by decide), hn _ ?_⟩)
      have es : psum (I2 91 k) (pfa g k w (pN (mo (blk w k)) 1 % 16)) = S0 mo w k g := by rw [e91]; rfl
      rw [es]
      exact img_u hi (by decide)
    · obtain ⟨y1, rfl⟩ := hde e1
      have e97 : I2 97 (blk w k) = de (blk w k) := by rw [hi.1 97 (by decide)]; exact y1 _ hB
      have es : ptog (I2 91 k) (I2 97 (blk w k)) = S1 de w k g := by rw [e91, e97]; rfl
      rw [es]
      exact img_u hi (by decide)
    · have eS := hgr (by omega)
      subst eS
      have p0 : ∀ y : Int32, (y >>> (((nI 8) * (nI 0)) &&& 31)) &&& (nI 255) = pt y 0 := fun y => pt_M y 0 (by decide)
      have p1 : ∀ y : Int32, (y >>> (((nI 8) * (nI 1)) &&& 31)) &&& (nI 255) = pt y 1 := fun y => pt_M y 1 (by decide)
      have p2 : ∀ y : Int32, (y >>> (((nI 8) * (nI 2)) &&& 31)) &&& (nI 255) = pt y 2 := fun y => pt_M y 2 (by decide)
      rw [p0, p1, p2, pgre_M, e91]
      exact img_u hi (by decide)
/-- a pixel by the palette -/
theorem v_unp {P : Int32 → zJ → Prop} {I : zJ} {k : Nat} (hw : 0 < w) (hw8 : w ≤ 8) (hh : h ≤ 8) (hn : n ≤ 16) (hk : k < w * h) (h26 : I 83 26 = nI n) (hpa : ∀ j, j < n → I 98 j = pa j) (hf : ∀ j, j < pkw w n * h → I 91 j = f j) (hP : P (punp pa n w k f) I) : c_M_unpacked c J (nI (k % w)) (nI (k / w)) (nI (pkw w n)) I P T := by
  obtain ⟨-, hx, hy⟩ := z_blk2 hw hk
  have hpi := pk_idx (n := n) hx
  have hp1 := (pkw_le (n := n) hw).1
  have hidx : k / w * pkw w n + k % w / 2 ^ pkg n < pkw w n * h := by
    have h5 : (k / w + 1) * pkw w n ≤ h * pkw w n := Nat.mul_le_mul_right _ hy
    rw [Nat.add_mul, Nat.one_mul, Nat.mul_comm h] at h5
    omega
  have hidx64 : pkw w n * h ≤ 64 := Nat.mul_le_mul (show pkw w n ≤ 8 by omega) hh
  obtain ⟨q, hq, eq⟩ := pq_lt n w k f
  have eup : punp pa n w k f = if nI n ≤ nI q then nI 0 else pa q := by rw [punp_eq, eq, nc (by omega)]
  rw [eup] at hP
  have ef : I 91 (k / w * pkw w n + k % w / 2 ^ pkg n) = f (k / w * pkw w n + k % w / 2 ^ pkg n) := hf _ hidx
  -- one of the three widths
  have one : ∀ (by_ bt : Nat), by_ = 2 ^ pkg n → bt = 8 / 2 ^ pkg n → (vp_in ((nI (k / w) * nI (pkw w n)) + (nI (k % w) / nI by_)) 64) ∧ (((I 83 26) ≤ (((((I 91 ((nI (k / w) * nI (pkw w n)) + (nI (k % w) / nI by_)).toNatClampNeg) >>> (((nI 8) * (nI 1)) &&& 31)) &&& (nI 255)) >>> (((nI bt) * (nI (k % w) - nI (k % w) / nI by_ * nI by_)) &&& 31)) &&& (((nI 1) <<< ((nI bt) &&& 31)) - (nI 1))) → P (nI 0) I) ∧ (¬ ((I 83 26) ≤ (((((I 91 ((nI (k / w) * nI (pkw w n)) + (nI (k % w) / nI by_)).toNatClampNeg) >>> (((nI 8) * (nI 1)) &&& 31)) &&& (nI 255)) >>> (((nI bt) * (nI (k % w) - nI (k % w) / nI by_ * nI by_)) &&& 31)) &&& (((nI 1) <<< ((nI bt) &&& 31)) - (nI 1)))) → (vp_in (((((I 91 ((nI (k / w) * nI (pkw w n)) + (nI (k % w) / nI by_)).toNatClampNeg) >>> (((nI 8) * (nI 1)) &&& 31)) &&& (nI 255)) >>> (((nI bt) * (nI (k % w) - nI (k % w) / nI by_ * nI by_)) &&& 31)) &&& (((nI 1) <<< ((nI bt) &&& 31)) - (nI 1))) 16) ∧ P (I 98 (((((I 91 ((nI (k / w) * nI (pkw w n)) + (nI (k % w) / nI by_)).toNatClampNeg) >>> (((nI 8) * (nI 1)) &&& 31)) &&& (nI 255)) >>> (((nI bt) * (nI (k % w) - nI (k % w) / nI by_ * nI by_)) &&& 31)) &&& (((nI 1) <<< ((nI bt) &&& 31)) - (nI 1))).toNatClampNeg) I)) := by
    intro by_ bt e1 e2
    have hby : 0 < by_ ∧ by_ ≤ 8 := by rw [e1]; rcases pkg_3 n with e | e | e <;> rw [e] <;> decide
    have hbt : bt ≤ 4 := by rw [e2]; rcases pkg_3 n with e | e | e <;> rw [e] <;> decide
    have hb5 : (2 : Nat) ^ bt ≤ 2 ^ 4 := Nat.pow_le_pow_right (by decide) hbt
    have hb6 : 0 < (2 : Nat) ^ bt := Nat.two_pow_pos _
    rw [pk_rem (by omega) hby.1 (by omega), pk_div (by omega) hby.1 (by omega), pk_mul, pk_mul, pk_mul, nI_add, nc (by rw [e1]; omega), pk_shlN (n := 1) _ bt (z_sl _ (by omega)) (by omega), Nat.one_mul, pk_sub (a := 2 ^ bt) (b := 1) hb6, h26]
    have ep : (I 91 (k / w * pkw w n + k % w / by_) >>> (nI (8 * 1) &&& 31)) &&& nI 255 = pt (f (k / w * pkw w n + k % w / 2 ^ pkg n)) 1 := by
      rw [e1, ef]
      exact pt_M _ 1 (by decide)
    have epq : (pt (f (k / w * pkw w n + k % w / 2 ^ pkg n)) 1 >>> (nI (bt * (k % w % by_)) &&& 31)) &&& nI (2 ^ bt - 1) = nI q := by
      rw [← eq]
      unfold pq
      rw [e1, e2, Nat.mul_comm (8 / 2 ^ pkg n)]
    rw [ep, epq, nc (by omega)]
    refine ⟨vp_in_nI (by rw [e1]; omega) (by decide), pk_le n q (fun e => ?_) (fun e => ⟨vp_in_nI hq (by decide), ?_⟩)⟩
    · rw [if_pos (nI_le e (by omega))] at hP; exact hP
    · rw [if_neg (nI_ge e (by omega))] at hP
      rw [hpa q e]; exact hP
  refine t_M_unpacked ?_
  rw [h26] at one ⊢
  refine pk_le 3 n (fun e => pk_le 5 n (fun e2 => ?_) (fun e2 => ?_)) (fun e => ?_)
  · have hp : pkg n = 1 := by unfold pkg; rw [if_neg (by omega), if_neg (by omega)]
    obtain ⟨o1, o2⟩ := one 2 4 (by rw [hp]) (by rw [hp])
    exact ⟨o1, by decide, o2⟩
  · have hp : pkg n = 2 := by unfold pkg; rw [if_neg (by omega), if_pos e2]
    obtain ⟨o1, o2⟩ := one 4 2 (by rw [hp]) (by rw [hp])
    exact ⟨o1, by decide, o2⟩
  · have hp : pkg n = 3 := by unfold pkg; rw [if_pos e]
    obtain ⟨o1, o2⟩ := one 8 1 (by rw [hp]) (by rw [hp])
    exact ⟨o1, by decide, o2⟩
theorem f_packed {I : zJ} (hw : w ≤ 8) (hn : n ≤ 16) : f_M_packed (nI w) (nI n) I = nI (pkw w n) := by
  have key : ∀ w, w < 9 → ∀ n, n < 17 → (if nI 3 ≤ nI n then (if nI 5 ≤ nI n then ((nI w + nI 2) - nI 1) / nI 2 else ((nI w + nI 4) - nI 1) / nI 4) else ((nI w + nI 8) - nI 1) / nI 8) = nI (pkw w n) := by decide
  exact key w (by omega) n (by omega)
/-- kind 3 -/
theorem m_undo3 {I : zJ} (hw : 0 < w) (hw8 : w ≤ 8) (hh : h ≤ 8) (hn : n ≤ 16) (h26 : I 83 26 = nI n) (hpa : ∀ j, j < n → I 98 j = pa j) (hf : ∀ j, j < pkw w n * h → I 91 j = f j)
    (hP : ∀ I1, fr [91, 92] I I1 → (∀ j, j < w * h → I1 91 j = punp pa n w j f) → P I1) : c_M_undo c J (nI 3) (nI w) (nI h) I P T := by
  have ht : w * h ≤ 64 := Nat.mul_le_mul hw8 hh
  have cpy : ∀ (m k : Nat) (I2 : zJ), k + m = w * h → fr [91, 92] I I2 → (∀ j, j < w * h → I2 92 j = punp pa n w j f) → (∀ j, j < k → I2 91 j = punp pa n w j f) → g_M_undo_56 c J (nI w) (nI h) (nI k) I2 P T := by
    intro m
    induction m with
    | zero =>
      intro k I2 hk hf2 h92 h91
      obtain rfl : k = w * h := by omega
      refine t_M_undo_56 ?_
      rw [pk_mul]
      exact br_t (nI_le (Nat.le_refl _) (by omega)) (hP I2 hf2 h91)
    | succ m ih =>
      intro k I2 hk hf2 h92 h91
      refine t_M_undo_56 ?_
      rw [pk_mul, nc (by omega), nI_add]
      refine br_f (nI_ge (by omega) (by omega)) ⟨vp_in_nI (by omega) (by decide), vp_in_nI (by omega) (by decide), ?_⟩
      refine ih (k + 1) _ (by omega) (fr_u hf2 (by decide)) (fun j hj => by rw [xup_k (by decide)]; exact h92 j hj) (fun j hj => ?_)
      by_cases e : j = k
      · subst e; rw [xup_s]; exact h92 _ (by omega)
      · rw [xup_i e]; exact h91 j (by omega)
  have unp : ∀ (m k : Nat) (I2 : zJ), k + m = w * h → fr [92] I I2 → (∀ j, j < k → I2 92 j = punp pa n w j f) → g_M_undo_18 c J (nI w) (nI h) (nI (pkw w n)) (nI k) I2 P T := by
    intro m
    induction m with
    | zero =>
      intro k I2 hk hf2 h92
      obtain rfl : k = w * h := by omega
      refine t_M_undo_18 ?_
      rw [pk_mul]
      exact br_t (nI_le (Nat.le_refl _) (by omega)) (cpy (w * h) 0 I2 (by omega) (fr_s hf2 (by decide)) h92 (fun j hj => absurd hj (by omega)))
    | succ m ih =>
      intro k I2 hk hf2 h92
      refine t_M_undo_18 ?_
      rw [pk_mul, pk_rem (by omega) hw (by omega), pk_div (by omega) hw (by omega), nc (by omega), nI_add]
      refine br_f (nI_ge (by omega) (by omega)) ⟨nI_ne0 hw (by omega), ?_⟩
      refine v_unp (h := h) (pa := pa) (f := f) hw hw8 hh hn (by omega) (by rw [hf2 83 (by decide)]; exact h26) (fun j hj => by rw [hf2 98 (by decide)]; exact hpa j hj) (fun j hj => by rw [hf2 91 (by decide)]; exact hf j hj) ⟨vp_in_nI (by omega) (by decide), ?_⟩
      refine ih (k + 1) _ (by omega) (fr_u hf2 (by decide)) (fun j hj => ?_)
      by_cases e : j = k
      · subst e; rw [xup_s]
      · rw [xup_i e]; exact h92 j (by omega)
  refine t_M_undo (br_t rfl ?_)
  rw [h26, f_packed hw8 hn]
  exact unp (w * h) 0 I (by omega) fr_0 (fun j hj => absurd hj (by omega))
end MU
