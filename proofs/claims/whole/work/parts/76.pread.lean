/-! read, measure: class and reference. -/
section PR
variable {c : zC} {J : zK} {I : zJ} {w h n : Nat}
theorem p_read (hp : pub I w h n) : c_L_read c J I (fun v I1 => ∀ c' J', c_M_read c' J' I1 (rOk v) nv) (fun e I1 => e = 100 ∧ ∀ c' J', c_M_read c' J' I1 (rNo 1) nv) := by
  obtain ⟨p1, p2, p3, p4, p5, p6, p7, p8, p9, p10, p11, p12, p13, p14, p15, p16, p17, p18, p19, p20⟩ := id hp
  refine r_read (N := 8 * n) (B := I 10) (by omega) p11 rfl p17 p18 p19 (fun w' h' f ks b cp ca q I1 eR hw1 hw8 hh1 hh8 K x1 x2 x6 x9 x82 c' J' => ?_) (fun I1 eN F => ⟨rfl, fun c' J' => ?_⟩)
  · obtain ⟨k83, k9, k10, ka1, ka2, ka3⟩ := K
    have hs : mst I1 (I 10) n := ⟨p5, by rw [k83 83 (by decide)]; exact p12, by rw [k83 85 (by decide)]; exact p13, fun k hk => by rw [k83 105 (by decide)]; exact p20 k hk⟩
    refine m_read hs (fun w2 h2 f2 ks2 b2 cp2 ca2 q2 I2 eR2 F z0 z1 z2 z84 z34 z104 => ?_) (fun v I2 eN _ _ => by rw [eR] at eN; cases eN)
    rw [eR] at eR2
    injection eR2 with eR2
    obtain ⟨rfl, rfl, rfl, rfl, rfl, rfl, rfl, rfl⟩ : w' = w2 ∧ h' = h2 ∧ f = f2 ∧ ks = ks2 ∧ b = b2 ∧ cp = cp2 ∧ ca = ca2 ∧ q = q2 := by
      simp only [Prod.mk.injEq] at eR2
      exact eR2
    have lo : ∀ a, a < 83 → I2 a = I1 a := fun a ha => F.1 a (by omega) (by simp; omega)
    refine ⟨z0, rfl, w', h', n, hw1, hw8, hh1, hh8, p5, ?_, ?_, z1, z2, ?_, ?_, ?_, ?_, ?_, ?_, ?_, ?_, ?_, ?_, fun k hk => ?_⟩
    · rw [lo 5 (by decide)]; exact x1
    · rw [lo 5 (by decide)]; exact x2
    · rw [z84, lo 6 (by decide), x6, k83 84 (by decide), p10]
    · rw [lo 9 (by decide), k9 1 (by decide)]; exact p11
    · rw [F.2 5 (by decide), k83 83 (by decide)]; exact p12
    · rw [F.1 85 (by decide) (by decide), k83 85 (by decide), lo 10 (by decide), k10]; exact p13
    · rw [lo 4 (by decide)]; exact Or.inr x9
    · rw [z34, lo 4 (by decide), x9]
    · rw [z104, lo 82 (by decide), x82, k83 104 (by decide), p16]
    · rw [lo 1 (by decide), ka1]; exact p17
    · rw [lo 2 (by decide), ka2]; exact p18
    · rw [lo 3 (by decide), ka3]; exact p19
    · rw [F.1 105 (by decide) (by decide), k83 105 (by decide)]; exact p20 k hk
  · have K := rdK_cf F
    obtain ⟨k83, k9, k10, ka1, ka2, ka3⟩ := K
    have hs : mst I1 (I 10) n := ⟨p5, by rw [k83 83 (by decide)]; exact p12, by rw [k83 85 (by decide)]; exact p13, fun k hk => by rw [k83 105 (by decide)]; exact p20 k hk⟩
    refine m_read hs (fun w2 h2 f2 ks2 b2 cp2 ca2 q2 I2 eR2 _ _ _ _ _ _ _ => by rw [eN] at eR2; cases eR2) (fun v I2 _ F2 z0 => ?_)
    have lo : ∀ a, a < 83 → I2 a = I1 a := fun a ha => F2.1 a (by omega) (by simp; omega)
    have kp : ∀ a, a = 4 ∨ a = 5 ∨ a = 6 ∨ a = 82 → I1 a = I a := fun a ha => F.1 a (by omega) (by simp; omega)
    refine ⟨z0, w, h, n, p1, p2, p3, p4, p5, ?_, ?_, ?_, ?_, ?_, ?_, ?_, ?_, ?_, ?_, ?_, ?_, ?_, ?_, fun k hk => ?_⟩
    · rw [lo 5 (by decide), kp 5 (by decide)]; exact p6
    · rw [lo 5 (by decide), kp 5 (by decide)]; exact p7
    · rw [F2.2 1 (by decide), k83 83 (by decide)]; exact p8
    · rw [F2.2 2 (by decide), k83 83 (by decide)]; exact p9
    · rw [F2.1 84 (by decide) (by decide), k83 84 (by decide), lo 6 (by decide), kp 6 (by decide)]; exact p10
    · rw [lo 9 (by decide), k9 1 (by decide)]; exact p11
    · rw [F2.2 5 (by decide), k83 83 (by decide)]; exact p12
    · rw [F2.1 85 (by decide) (by decide), k83 85 (by decide), lo 10 (by decide), k10]; exact p13
    · rw [lo 4 (by decide), kp 4 (by decide)]; exact p14
    · rw [F2.2 34 (by decide), k83 83 (by decide), lo 4 (by decide), kp 4 (by decide)]; exact p15
    · rw [F2.1 104 (by decide) (by decide), k83 104 (by decide), lo 82 (by decide), kp 82 (by decide)]; exact p16
    · rw [lo 1 (by decide), ka1]; exact p17
    · rw [lo 2 (by decide), ka2]; exact p18
    · rw [lo 3 (by decide), ka3]; exact p19
    · rw [F2.1 105 (by decide) (by decide), k83 105 (by decide)]; exact p20 k hk
/-- only the class's row of colours changed -/
theorem pub_81 {I1 : zJ} (hp : pub I w h n) (hf : fr [81] I I1) : pub I1 w h n := by
  unfold pub
  rw [hf 5 (by decide), hf 83 (by decide), hf 84 (by decide), hf 6 (by decide), hf 9 (by decide), hf 85 (by decide), hf 10 (by decide), hf 4 (by decide), hf 104 (by decide), hf 82 (by decide), hf 1 (by decide), hf 2 (by decide), hf 3 (by decide), hf 105 (by decide)]
  exact hp
theorem p_measure {v1 : Int32} (hp : pub I w h n) : c_L_measure c J v1 I (fun v I1 => ∀ c' J', c_M_measure c' J' v1 I1 (rOk v) nv) nv := by
  obtain ⟨p1, p2, p3, p4, p5, p6, p7, p8, p9, p10, p11, p12, p13, p14, p15, p16, p17, p18, p19, p20⟩ := id hp
  refine t_L_measure ⟨fun e c' J' => ?_, fun e c' J' => ?_, fun e => ?_, fun e c' J' => ?_⟩
  · exact t_M_measure (nm_e (br_t e ⟨xup_s, by rw [xup_i (by decide), p8, p6], w, h, n, pub_0 hp⟩))
  · subst e
    exact t_M_measure (nm_e (br_f (by decide) (br_t rfl ⟨xup_s, by rw [xup_i (by decide), p9, p7], w, h, n, pub_0 hp⟩)))
  · subst e
    refine v_gather p2 p4 p6 p7 rfl fun m I1 f1 s1 e1 c' J' => t_M_measure (nm_e (br_f (by decide) (br_f (by decide) (br_t rfl ?_))))
    have hp1 := pub_81 hp f1
    have q8 : (xup I1 83 0 (nI 0)) 83 1 = nI w := by rw [xup_i (by decide), f1 83 (by decide)]; exact p8
    have q9 : (xup I1 83 0 (nI 0)) 83 2 = nI h := by rw [xup_i (by decide), f1 83 (by decide)]; exact p9
    have q10 : (xup I1 83 0 (nI 0)) 84 = I 6 := by rw [xup_r (by decide), f1 84 (by decide)]; exact p10
    refine v_diff p2 p4 q8 q9 q10 ⟨xup_s, by rw [e1], w, h, n, pub_0 hp1⟩
  · have hne : ∀ k : Nat, k < 3 → ¬ v1 = nI k := by
      intro k hk z
      rw [z, nI_toInt (by omega)] at e
      omega
    exact t_M_measure (nm_e (br_f (hne 0 (by decide)) (br_f (hne 1 (by decide)) (br_f (hne 2 (by decide)) ⟨xup_s, rfl, w, h, n, pub_0 hp⟩))))
end PR
