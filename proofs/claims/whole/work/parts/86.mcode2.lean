/-! A CODE SAID by the reference. -/
section MC2
variable {c : zC} {J : zK} {T : Nat → zJ → Prop} {P : zJ → Prop} {h k s : Nat} {U V : Nat → Bool}
abbrev mcSx : List Nat := [87, 88, 89, 90, 102, 103]
abbrev mcFx : List Nat := [9, 33]
/-- of the reference's codes only this one and the small one changed -/
def mko (k s : Nat) (I I1 : zJ) : Prop := (∀ j, j < 1104 → ¬ (zb k ≤ j ∧ j < zb k + s) → I1 88 j = I 88 j ∧ I1 87 j = I 87 j) ∧ (∀ j, j ≠ 5 → I1 89 j = I 89 j) ∧ ∀ j, j ≠ 5 → j ≠ k → I1 90 j = I 90 j
theorem mrd_k {I I1 : zJ} {l : Nat → Nat} (hk : k < 5) (hz : zb k + s ≤ 1104) (hd : mrd I k s l) (h1 : ∀ j, j < 1104 → I1 87 j = I 87 j) (h2 : ∀ j, j ≠ 5 → I1 89 j = I 89 j) (h3 : ∀ j, j ≠ 5 → I1 90 j = I 90 j) : mrd I1 k s l := by
  obtain ⟨⟨m1, m2, m3, m4, m5⟩, m6⟩ := hd
  exact ⟨⟨m1, m2, m3, (h2 k (by omega)).trans m4, fun j hj => by rw [h1 _ (by omega)]; exact m5 j hj⟩, (h3 k (by omega)).trans m6⟩
theorem l_putCode76 {I : zJ} {b n a e : Nat} (hu : mus I k s V) (hk5 : k < 5) (hs : s ≤ 296) (hz : zb k + s ≤ 1104) (hn : n = cntp V s) (h1n : 1 ≤ n) (ha : a = nthp V 0 s) (he : e = nthp V (n - 1) s) (h105 : ∀ k, k < 19 → I 105 k = nI (zord k)) (h7 : I 83 7 = nI h) (hh : h + 30000 < 2 ^ 30) (h9 : I 83 9 = nI b) (hb : b < 2)
    (hP : ∀ I1, qem mcSx mcFx h (if n ≤ 2 ∧ e < 256 then bsv (nI 1) 1 ++ fewB n (fun j => nthp V j s) else bsv (nI 0) 1 ++ smB (gl (bal V s) s 0 0)) I I1 → mrd I1 k s (bal V s) → mko k s I I1 → (∃ b1, b1 < 2 ∧ I1 83 9 = nI b1) → P I1) : g_M_putCode_76 c J (nI k) (nI a) (nI e) (nI n) I P T := by
  have hcv := cntp_le V s
  have hel : e < s := by rw [he]; exact (nthp_spec (q := V) (off := n - 1) (s := s) (by omega)).1
  refine t_M_putCode_76 (v_give hu (by omega) (by omega) h9 hb fun I1 f1 d1 o1 p1 b1 => ?_)
  have h71 : I1 83 7 = nI h := (f1.2 7 (by decide)).trans h7
  have ko1 : mko k s I I1 := ⟨fun j _ hj => ⟨by rw [f1.1 88 (by decide) (by decide)], o1 j hj⟩, fun j _ => by rw [f1.1 89 (by decide) (by decide)], fun j _ hj => p1 j hj⟩
  have full : ¬ (n ≤ 2 ∧ e < 256) → g_M_putCode_144 c J (nI k) I1 P T := by
    intro hf
    rw [if_neg hf] at hP
    refine t_M_putCode_144 (v_M_put h71 (by omega) ?_)
    obtain ⟨b', hb1, hb2⟩ := b1
    obtain ⟨⟨m1, m2, m3, m4, m5⟩, m6⟩ := id d1
    refine v_smM (h := h + (bsv (nI 0) 1).length) (l := bal V s) ⟨m1, m2, m3, by rw [em_r (by decide) (by decide)]; exact m4, fun j hj => by rw [em_r (by decide) (by decide)]; exact m5 j hj⟩ hk5 hs (fun k _ => bal_le (by omega)) hz (fun k hk => by rw [em_r (by decide) (by decide), f1.1 105 (by decide) (by decide)]; exact h105 k hk) em_c (by simp only [bsv_len]; omega) (by rw [em_f (by decide) (by decide)]; exact hb2) hb1 fun I2 f2 o2 p2 q2 r2 b2 => ?_
    have q1 : qem mcSx mcFx h (bsv (nI 0) 1) I (em I1 83 7 86 h (bsv (nI 0) 1)) := qem_nt (mf_s f1 (by simp) (by simp)) (by simp) (by simp) h7 qem_em
    have q2' : qem mcSx mcFx h (bsv (nI 0) 1) I I2 := qem_tn q1 f2 (by simp) (by simp)
    have d2 : mrd I2 k s (bal V s) := mrd_k hk5 hz d1 (fun j hj => by rw [p2 j hj, em_r (by decide) (by decide)]) (fun j hj => by rw [q2 j hj, em_r (by decide) (by decide)]) (fun j hj => by rw [r2 j hj, em_r (by decide) (by decide)])
    refine hP _ (qem_t q2' qem_em) (mrd_k hk5 hz d2 (fun j _ => by rw [em_r (by decide) (by decide)]) (fun j _ => by rw [em_r (by decide) (by decide)]) (fun j _ => by rw [em_r (by decide) (by decide)])) ⟨fun j hj hj2 => ⟨?_, ?_⟩, fun j hj => ?_, fun j hj hj2 => ?_⟩ ?_
    · rw [em_r (by decide) (by decide), o2 j hj, em_r (by decide) (by decide)]; exact (ko1.1 j hj hj2).1
    · rw [em_r (by decide) (by decide), p2 j hj, em_r (by decide) (by decide)]; exact (ko1.1 j hj hj2).2
    · rw [em_r (by decide) (by decide), q2 j hj, em_r (by decide) (by decide)]; exact ko1.2.1 j hj
    · rw [em_r (by decide) (by decide), r2 j hj, em_r (by decide) (by decide)]; exact ko1.2.2 j hj hj2
    · obtain ⟨b3, h3, h4⟩ := b2
      exact ⟨b3, h3, by rw [em_f (by decide) (by decide)]; exact h4⟩
  refine pk_le 3 n (fun e1 => full (by omega)) (fun e1 => pk_le 256 e (fun e2 => full (by omega)) (fun e2 => ?_) rfl rfl (by decide) (by omega)) rfl rfl (by decide) (by omega)
  rw [if_pos ⟨by omega, by omega⟩] at hP
  unfold fewB at hP
  have fin : ∀ bs, bs = bsv (nI 1) 1 ++ (bsv (nI n - nI 1) 1 ++ bsv (nI 1) 1 ++ bsv (nI (nthp V 0 s)) 8 ++ (if n = 2 then bsv (nI (nthp V 1 s)) 8 else [])) → P (em I1 83 7 86 h bs) := by
    intro bs hbs
    refine hP _ (hbs ▸ qem_nt (mf_s f1 (by simp) (by simp)) (by simp) (by simp) h7 qem_em) (mrd_k hk5 hz d1 (fun j _ => by rw [em_r (by decide) (by decide)]) (fun j _ => by rw [em_r (by decide) (by decide)]) (fun j _ => by rw [em_r (by decide) (by decide)])) ⟨fun j hj hj2 => ⟨?_, ?_⟩, fun j hj => ?_, fun j hj hj2 => ?_⟩ ?_
    · rw [em_r (by decide) (by decide)]; exact (ko1.1 j hj hj2).1
    · rw [em_r (by decide) (by decide)]; exact (ko1.1 j hj hj2).2
    · rw [em_r (by decide) (by decide)]; exact ko1.2.1 j hj
    · rw [em_r (by decide) (by decide)]; exact ko1.2.2 j hj hj2
    · obtain ⟨b3, h3, h4⟩ := b1
      exact ⟨b3, h3, by rw [em_f (by decide) (by decide)]; exact h4⟩
  refine v_M_put h71 (by omega) (v_M_put em_c (by simp only [bsv_len]; omega) ?_)
  rw [em_app (by decide)]
  refine v_M_put em_c (by simp only [List.length_append, bsv_len]; omega) ?_
  rw [em_app (by decide)]
  refine v_M_put em_c (by simp only [List.length_append, bsv_len]; omega) ?_
  rw [em_app (by decide)]
  have hlen : (bsv (nI 1) 1 ++ bsv (nI n - nI 1) 1 ++ bsv (nI 1) 1 ++ bsv (nI a) 8).length ≤ 20 := by
    simp only [List.length_append, bsv_len]; omega
  refine pk_eq n 2 (fun e3 => v_M_put em_c (by omega) ?_) (fun e3 => v_M_put em_c (by omega) ?_) rfl rfl (by omega) (by decide)
  · rw [em_app (by decide)]
    refine fin _ ?_
    rw [if_pos e3, ha, he, e3]
    simp only [List.append_assoc]
  · rw [em_app (by decide)]
    refine fin _ ?_
    rw [if_neg e3, ha]
    simp only [List.append_assoc]
    rfl
theorem v_M_putCode {I : zJ} {b : Nat} (hu : mus I k s U) (hk5 : k < 5) (hs : s ≤ 296) (hz : zb k + s ≤ 1104) (h105 : ∀ k, k < 19 → I 105 k = nI (zord k)) (h7 : I 83 7 = nI h) (hh : h + 30000 < 2 ^ 30) (h9 : I 83 9 = nI b) (hb : b < 2)
    (hP : ∀ I1, qem mcSx mcFx h (cdB U s) I I1 → mrd I1 k s (cdL U s) → mko k s I I1 → (∃ b1, b1 < 2 ∧ I1 83 9 = nI b1) → P I1) : c_M_putCode c J (nI k) I P T := by
  obtain ⟨h1, h2, h3, h4, h5⟩ := id hu
  have hcu := cntp_le U s
  have key : ∀ (n i : Nat) (v2 v3 : Int32), i + n = s → (cntp U i = 0 → v2 = -1 ∧ v3 = -1) → (0 < cntp U i → ∃ a e, v2 = nI a ∧ v3 = nI e ∧ a < i ∧ e < i ∧ U a = true ∧ U e = true ∧ cntp U a = 0 ∧ cntp U e + 1 = cntp U i) → g_M_putCode_7 c J (nI k) v2 v3 (nI i) I P T := by
    intro n
    induction n with
    | zero =>
      intro i v2 v3 hi hz0 hz1
      obtain rfl : i = s := by omega
      refine t_M_putCode_7 ⟨vp_in_nI h1 (by decide), ?_⟩
      rw [nc (by omega), h4]
      refine br_t (nI_le (Nat.le_refl _) (by omega)) ?_
      by_cases e0 : cntp U i = 0
      · obtain ⟨r2, r3⟩ := hz0 e0
        subst r2
        refine br_f (by decide) ?_
        rw [f_base h1, nc (by omega)]
        refine ⟨vp_in_nI (by omega) (by decide), ?_⟩
        have hu2 : mus (xup I 88 (zb k) (nI 1)) k i (usd U i) := by
          refine ⟨h1, h2, h3, by rw [xup_k (by decide)]; exact h4, fun j hj => ?_⟩
          rw [usd_0 e0]
          by_cases ej : j = 0
          · rw [ej, Nat.add_zero, xup_s]; rfl
          · rw [xup_i (by omega), h5 j hj]
            unfold us1
            rw [if_neg (cnt_z e0 hj), if_neg (by simp [ej])]
        refine v_usedOf hu2 ?_
        have hc1 : cntp (usd U i) i = 1 := by rw [usd_0 e0, cnt_0 i h3]
        have hn0 : nthp (usd U i) 0 i = 0 := by
          rw [usd_0 e0]
          exact nthp_eq (q := fun k => decide (k = 0)) (k := 0) (by simp) i h3
        rw [hc1]
        refine l_putCode76 (V := usd U i) (n := 1) (a := 0) (e := 0) hu2 hk5 hs hz hc1.symm (Nat.le_refl _) hn0.symm hn0.symm (fun k hk => by rw [xup_k (by decide)]; exact h105 k hk) (by rw [xup_k (by decide)]; exact h7) hh (by rw [xup_k (by decide)]; exact h9) hb fun I1 q1 d1 o1 b1 => ?_
        refine hP I1 (qem_nt (I1 := xup I 88 (zb k) (nI 1)) (mf_u mf_0 (by decide) (by decide)) (by decide) (by decide) h7 ?_) d1 ⟨fun j hj hj2 => ?_, fun j hj => ?_, fun j hj hj2 => ?_⟩ b1
        · unfold cdB cdL
          rw [hc1, hn0]
          exact q1
        · obtain ⟨z1, z2⟩ := o1.1 j hj hj2
          rw [z1, z2]
          exact ⟨xup_i (by omega), xup_k (by decide)⟩
        · rw [o1.2.1 j hj, xup_k (by decide)]
        · rw [o1.2.2 j hj hj2, xup_k (by decide)]
      · obtain ⟨a, e, r2, r3, ha1, he1, ha2, he2, ha3, he3⟩ := hz1 (by omega)
        subst r2 r3
        refine br_t (nI_le (Nat.zero_le _) (by omega)) (v_usedOf hu ?_)
        have eu : usd U i = U := usd_1 e0
        have na : a = nthp U 0 i := by rw [← ha3]; exact (nthp_eq ha2 i ha1).symm
        have ne : e = nthp U (cntp U i - 1) i := by rw [← he3, Nat.add_sub_cancel]; exact (nthp_eq he2 i he1).symm
        refine l_putCode76 (V := U) hu hk5 hs hz rfl (by omega) na ne h105 h7 hh h9 hb fun I1 q1 d1 o1 b1 => ?_
        refine hP I1 ?_ ?_ o1 b1
        · unfold cdB cdL
          rw [eu, ← ne]
          exact q1
        · unfold cdL
          rw [eu]
          exact d1
    | succ n ih =>
      intro i v2 v3 hi hz0 hz1
      refine t_M_putCode_7 ⟨vp_in_nI h1 (by decide), ?_⟩
      rw [nc (n := k) (by omega), h4, f_base h1, nI_add, nc (n := zb k + i) (by omega), h5 i (by omega), nI_add]
      refine br_f (nI_ge (by omega) (by omega)) ⟨vp_in_nI (by omega) (by decide), ?_⟩
      rcases us1_01 U i with ⟨e1, e2⟩ | ⟨e1, e2⟩
      · rw [e1]
        refine br_t rfl (ih (i + 1) v2 v3 (by omega) (fun z => hz0 (by rw [cntp_f e2] at z; exact z)) (fun z => ?_))
        rw [cntp_f e2] at z ⊢
        obtain ⟨a, e, r2, r3, ha1, he1, r⟩ := hz1 z
        exact ⟨a, e, r2, r3, by omega, by omega, r⟩
      · rw [e1]
        refine br_f (by decide) ?_
        by_cases e0 : cntp U i = 0
        · obtain ⟨r2, r3⟩ := hz0 e0
          subst r2
          refine br_f (by decide) (ih (i + 1) (nI i) (nI i) (by omega) (fun z => ?_) (fun z => ?_))
          · rw [cntp_t e2] at z; omega
          · exact ⟨i, i, rfl, rfl, by omega, by omega, e2, e2, e0, by rw [cntp_t e2]⟩
        · obtain ⟨a, e, r2, r3, ha1, he1, ha2, he2, ha3, he3⟩ := hz1 (by omega)
          subst r2
          refine br_t (nI_le (Nat.zero_le _) (by omega)) (ih (i + 1) (nI a) (nI i) (by omega) (fun z => ?_) (fun z => ?_))
          · rw [cntp_t e2] at z; omega
          · exact ⟨a, i, rfl, rfl, by omega, by omega, ha2, e2, ha3, by rw [cntp_t e2]⟩
  exact t_M_putCode (key s 0 (-1) (-1) (by omega) (fun _ => ⟨rfl, rfl⟩) (fun z => absurd z (Nat.lt_irrefl 0)))
end MC2
