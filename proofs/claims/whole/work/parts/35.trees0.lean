/-! What a run of each method needs, printed (wip/whole/gen_trees.py). -/
def c_Plane_shape (c : zC) (J : zK) (r0 : Nat) (v1 : Int32) (v2 : Int32) (I : zJ) (P : zJ → Prop) (T : Nat → zJ → Prop) : Prop := wg c J 1 qPlane_shape [.ref r0, .int v1, .int v2] I (kvu P) T
set_option maxRecDepth 100000 in
theorem t_Plane_shape {c : zC} {J : zK} {r0 : Nat} {v1 : Int32} {v2 : Int32} {m_r0 : Nat} {I : zJ} {P : zJ → Prop} {T : Nat → zJ → Prop} (p_r0 : zpl c r0 m_r0)
    (k : P (xup (xup I r0 1 v1) r0 2 v2)) :
    c_Plane_shape c J r0 v1 v2 I P T := xg_of (M := zm_Plane_shape) rfl (Nat.le_of_ble_eq_true rfl) (s_Plane_shape_0 (zpl_ob p_r0) ⟨rfl, rfl, k⟩)
theorem x_Plane_shape {c : zC} {J : zK} {r0 : Nat} {v1 : Int32} {v2 : Int32} {m_r0 : Nat} {I : zJ} {T : Nat → zJ → Prop} (p_r0 : zpl c r0 m_r0) : c_Plane_shape c J r0 v1 v2 I (fun I1 => I1 = xup (xup I r0 1 v1) r0 2 v2) T := by
  refine t_Plane_shape p_r0 ?_
  repeat (first | exact rfl | (refine ⟨?_, ?_⟩; assumption) | (intro _ h; subst h))
def c_A_fill (c : zC) (J : zK) (r0 : Nat) (v1 : Int32) (I : zJ) (P : zJ → Prop) (T : Nat → zJ → Prop) : Prop := wg c J 1 qA_fill [.ref r0, .int v1] I (kvu P) T
def g_A_fill_5 (c : zC) (J : zK) (r0 : Nat) (v1 : Int32) (v2 : Int32) (v3 : Int32) (I : zJ) (P : zJ → Prop) (T : Nat → zJ → Prop) : Prop := wG c J 0 zm_A_fill (5, [some (.ref r0), some (.int v1), some (.int v2), some (.int v3)], []) I (kvu P) T
set_option maxRecDepth 100000 in
theorem t_A_fill_5 {c : zC} {J : zK} {r0 : Nat} {v1 : Int32} {v2 : Int32} {v3 : Int32} {m_r0 : Nat} {I : zJ} {P : zJ → Prop} {T : Nat → zJ → Prop} (p_r0 : zar c r0 m_r0)
    (k : ((v3 ≤ v2 → P I) ∧ (¬ (v3 ≤ v2) → (vp_in v2 m_r0) ∧ g_A_fill_5 c J r0 v1 (v2 + (nI 1)) v3 (xup I r0 v2.toNatClampNeg v1) P T))) :
    g_A_fill_5 c J r0 v1 v2 v3 I P T := s_A_fill_5  (fun h1 => s_A_fill_20  ⟨rfl, rfl, (k.1 h1)⟩) (fun h1 => s_A_fill_10 p_r0.1 p_r0.2 ((k.2 h1).1) ((k.2 h1).2))
set_option maxRecDepth 100000 in
theorem t_A_fill {c : zC} {J : zK} {r0 : Nat} {v1 : Int32} {m_r0 : Nat} {I : zJ} {P : zJ → Prop} {T : Nat → zJ → Prop} (p_r0 : zar c r0 m_r0)
    (k : g_A_fill_5 c J r0 v1 (nI 0) (nI m_r0) I P T) :
    c_A_fill c J r0 v1 I P T := xg_of (M := zm_A_fill) rfl (Nat.le_of_ble_eq_true rfl) (s_A_fill_0 p_r0.1 (k))
def c_Plane_count (c : zC) (J : zK) (r0 : Nat) (I : zJ) (P : Int32 → zJ → Prop) (T : Nat → zJ → Prop) : Prop := wg c J 1 qPlane_count [.ref r0] I (kvi P) T
set_option maxRecDepth 100000 in
theorem t_Plane_count {c : zC} {J : zK} {r0 : Nat} {m_r0 : Nat} {I : zJ} {P : Int32 → zJ → Prop} {T : Nat → zJ → Prop} (p_r0 : zpl c r0 m_r0)
    (k : P ((I r0 1) * (I r0 2)) I) :
    c_Plane_count c J r0 I P T := xg_of (M := zm_Plane_count) rfl (Nat.le_of_ble_eq_true rfl) (s_Plane_count_0 (zpl_ob p_r0) ⟨rfl, rfl, k⟩)
theorem x_Plane_count {c : zC} {J : zK} {r0 : Nat} {m_r0 : Nat} {I : zJ} {T : Nat → zJ → Prop} (p_r0 : zpl c r0 m_r0) : c_Plane_count c J r0 I (fun v I1 => v = (I r0 1) * (I r0 2) ∧ I1 = I) T := by
  refine t_Plane_count p_r0 ?_
  exact ⟨rfl, rfl⟩
def c_L_size (c : zC) (J : zK) (v1 : Int32) (v2 : Int32) (I : zJ) (P : Int32 → zJ → Prop) (T : Nat → zJ → Prop) : Prop := wg c J 2 qL_size [.ref 4, .int v1, .int v2] I (kvi P) T
set_option maxRecDepth 100000 in
theorem t_L_size {c : zC} {J : zK} {v1 : Int32} {v2 : Int32} {I : zJ} {P : Int32 → zJ → Prop} {T : Nat → zJ → Prop}
    (k : ((v1 < (nI 1) → T 100 I) ∧ (¬ (v1 < (nI 1)) → (((nI 8) < v1 → T 100 I) ∧ (¬ ((nI 8) < v1) → ((v2 < (nI 1) → T 100 I) ∧ (¬ (v2 < (nI 1)) → ((v2 ≤ (nI 8) → ∀ I5 : zJ, I5 = xup (xup I 5 1 v1) 5 2 v2 → c_A_fill c J 6 (nI 0) I5 (fun I6 => P ((I6 5 1) * (I6 5 2)) I6) T) ∧ (¬ (v2 ≤ (nI 8)) → T 100 I))))))))) :
    c_L_size c J v1 v2 I P T := xg_of (M := zm_L_size) rfl (Nat.le_of_ble_eq_true rfl) (s_L_size_0  (fun h1 => s_L_size_22  ⟨rfl, _, rfl, rfl, (k.1 h1)⟩) (fun h1 => s_L_size_5  (fun h2 => s_L_size_22  ⟨rfl, _, rfl, rfl, ((k.2 h1).1 h2)⟩) (fun h2 => s_L_size_11  (fun h3 => s_L_size_22  ⟨rfl, _, rfl, rfl, (((k.2 h1).2 h2).1 h3)⟩) (fun h3 => s_L_size_16  (fun h4 => s_L_size_32 zr_4_0 zo_5 (w_eu (by decide) (x_Plane_shape zpl_5) (s_L_size_41 zr_4_0 zr_5_0 (w_cu (by decide) (((((k.2 h1).2 h2).2 h3).1 h4) _ rfl) (fun I6 k => s_L_size_52 zr_4_0 zo_5 (w_ei (by decide) (x_Plane_count zpl_5) (s_L_size_59  ⟨rfl, rfl, k⟩))))))) (fun h4 => s_L_size_22  ⟨rfl, _, rfl, rfl, ((((k.2 h1).2 h2).2 h3).2 h4)⟩)))))
def c_Plane_holds (c : zC) (J : zK) (r0 : Nat) (v1 : Int32) (v2 : Int32) (I : zJ) (P : Int32 → zJ → Prop) (T : Nat → zJ → Prop) : Prop := wg c J 1 qPlane_holds [.ref r0, .int v1, .int v2] I (kvi P) T
set_option maxRecDepth 100000 in
theorem t_Plane_holds {c : zC} {J : zK} {r0 : Nat} {v1 : Int32} {v2 : Int32} {m_r0 : Nat} {I : zJ} {P : Int32 → zJ → Prop} {T : Nat → zJ → Prop} (p_r0 : zpl c r0 m_r0)
    (k : ((v1 < nI 0 → P (nI 0) I) ∧ (¬ (v1 < nI 0) → (((I r0 1) ≤ v1 → P (nI 0) I) ∧ (¬ ((I r0 1) ≤ v1) → ((v2 < nI 0 → P (nI 0) I) ∧ (¬ (v2 < nI 0) → (((I r0 2) ≤ v2 → P (nI 0) I) ∧ (¬ ((I r0 2) ≤ v2) → P (nI 1) I))))))))) :
    c_Plane_holds c J r0 v1 v2 I P T := xg_of (M := zm_Plane_holds) rfl (Nat.le_of_ble_eq_true rfl) (s_Plane_holds_0  (fun h1 => s_Plane_holds_28  ⟨rfl, rfl, (k.1 h1)⟩) (fun h1 => s_Plane_holds_4 (zpl_ob p_r0) (fun h2 => s_Plane_holds_28  ⟨rfl, rfl, ((k.2 h1).1 h2)⟩) (fun h2 => s_Plane_holds_12  (fun h3 => s_Plane_holds_28  ⟨rfl, rfl, (((k.2 h1).2 h2).1 h3)⟩) (fun h3 => s_Plane_holds_16 (zpl_ob p_r0) (fun h4 => s_Plane_holds_28  ⟨rfl, rfl, ((((k.2 h1).2 h2).2 h3).1 h4)⟩) (fun h4 => s_Plane_holds_24  ⟨rfl, rfl, ((((k.2 h1).2 h2).2 h3).2 h4)⟩)))))
def f_Plane_holds (r0 : Nat) (v1 : Int32) (v2 : Int32) (I : zJ) : Int32 := if v1 < nI 0 then (nI 0) else (if (I r0 1) ≤ v1 then (nI 0) else (if v2 < nI 0 then (nI 0) else (if (I r0 2) ≤ v2 then (nI 0) else (nI 1))))
theorem x_Plane_holds {c : zC} {J : zK} {r0 : Nat} {v1 : Int32} {v2 : Int32} {m_r0 : Nat} {I : zJ} {T : Nat → zJ → Prop} (p_r0 : zpl c r0 m_r0) : c_Plane_holds c J r0 v1 v2 I (fun v I1 => v = (f_Plane_holds r0 v1 v2 I) ∧ I1 = I) T := by
  refine t_Plane_holds p_r0 ?_
  refine ⟨fun h0 => ?_, fun h0 => ?_⟩
  · exact ⟨by unfold f_Plane_holds; rw [if_pos h0], rfl⟩
  · refine ⟨fun h1 => ?_, fun h1 => ?_⟩
    · exact ⟨by unfold f_Plane_holds; rw [if_neg h0, if_pos h1], rfl⟩
    · refine ⟨fun h2 => ?_, fun h2 => ?_⟩
      · exact ⟨by unfold f_Plane_holds; rw [if_neg h0, if_neg h1, if_pos h2], rfl⟩
      · refine ⟨fun h3 => ?_, fun h3 => ?_⟩
        · exact ⟨by unfold f_Plane_holds; rw [if_neg h0, if_neg h1, if_neg h2, if_pos h3], rfl⟩
        · exact ⟨by unfold f_Plane_holds; rw [if_neg h0, if_neg h1, if_neg h2, if_neg h3], rfl⟩
def c_L_set (c : zC) (J : zK) (v1 : Int32) (v2 : Int32) (v3 : Int32) (I : zJ) (P : Int32 → zJ → Prop) (T : Nat → zJ → Prop) : Prop := wg c J 2 qL_set [.ref 4, .int v1, .int v2, .int v3] I (kvi P) T
set_option maxRecDepth 100000 in
theorem t_L_set {c : zC} {J : zK} {v1 : Int32} {v2 : Int32} {v3 : Int32} {I : zJ} {P : Int32 → zJ → Prop} {T : Nat → zJ → Prop}
    (k : (((f_Plane_holds 5 v1 v2 I) = nI 0 → T 101 I) ∧ (¬ ((f_Plane_holds 5 v1 v2 I) = nI 0) → (vp_in ((v2 * (I 5 1)) + v1) 64) ∧ P (I 6 ((v2 * (I 5 1)) + v1).toNatClampNeg) (xup I 6 ((v2 * (I 5 1)) + v1).toNatClampNeg v3)))) :
    c_L_set c J v1 v2 v3 I P T := xg_of (M := zm_L_set) rfl (Nat.le_of_ble_eq_true rfl) (s_L_set_0 zr_4_0 zo_5 (w_ei (by decide) (x_Plane_holds zpl_5) (s_L_set_9  (fun h1 => s_L_set_22 zr_4_0 zo_5 zr_5_0 za_6 ((k.2 h1).1) (by decide) ⟨rfl, rfl, (k.2 h1).2⟩) (fun h1 => s_L_set_12  ⟨rfl, _, rfl, rfl, (k.1 (Classical.not_not.mp h1))⟩))))
def c_L_pixel (c : zC) (J : zK) (v1 : Int32) (v2 : Int32) (I : zJ) (P : Int32 → zJ → Prop) (T : Nat → zJ → Prop) : Prop := wg c J 2 qL_pixel [.ref 4, .int v1, .int v2] I (kvi P) T
set_option maxRecDepth 100000 in
theorem t_L_pixel {c : zC} {J : zK} {v1 : Int32} {v2 : Int32} {I : zJ} {P : Int32 → zJ → Prop} {T : Nat → zJ → Prop}
    (k : (((f_Plane_holds 5 v1 v2 I) = nI 0 → T 101 I) ∧ (¬ ((f_Plane_holds 5 v1 v2 I) = nI 0) → (vp_in ((v2 * (I 5 1)) + v1) 64) ∧ P (I 6 ((v2 * (I 5 1)) + v1).toNatClampNeg) I))) :
    c_L_pixel c J v1 v2 I P T := xg_of (M := zm_L_pixel) rfl (Nat.le_of_ble_eq_true rfl) (s_L_pixel_0 zr_4_0 zo_5 (w_ei (by decide) (x_Plane_holds zpl_5) (s_L_pixel_9  (fun h1 => s_L_pixel_22 zr_4_0 zr_5_0 za_6 ((k.2 h1).1) ⟨rfl, rfl, (k.2 h1).2⟩) (fun h1 => s_L_pixel_12  ⟨rfl, _, rfl, rfl, (k.1 (Classical.not_not.mp h1))⟩))))
def c_L_isLess (c : zC) (J : zK) (v0 : Int32) (v1 : Int32) (I : zJ) (P : Int32 → zJ → Prop) (T : Nat → zJ → Prop) : Prop := wg c J 1 qL_isLess [.int v0, .int v1] I (kvi P) T
set_option maxRecDepth 100000 in
theorem t_L_isLess {c : zC} {J : zK} {v0 : Int32} {v1 : Int32} {I : zJ} {P : Int32 → zJ → Prop} {T : Nat → zJ → Prop}
    (k : (((v1 ^^^ (-2147483648 : Int32)) ≤ (v0 ^^^ (-2147483648 : Int32)) → P (nI 0) I) ∧ (¬ ((v1 ^^^ (-2147483648 : Int32)) ≤ (v0 ^^^ (-2147483648 : Int32))) → P (nI 1) I))) :
    c_L_isLess c J v0 v1 I P T := xg_of (M := zm_L_isLess) rfl (Nat.le_of_ble_eq_true rfl) (s_L_isLess_0  (fun h1 => s_L_isLess_15  ⟨rfl, rfl, (k.1 h1)⟩) (fun h1 => s_L_isLess_11  ⟨rfl, rfl, (k.2 h1)⟩))
def f_L_isLess (v0 : Int32) (v1 : Int32) (I : zJ) : Int32 := if (v1 ^^^ (-2147483648 : Int32)) ≤ (v0 ^^^ (-2147483648 : Int32)) then (nI 0) else (nI 1)
theorem x_L_isLess {c : zC} {J : zK} {v0 : Int32} {v1 : Int32} {I : zJ} {T : Nat → zJ → Prop} : c_L_isLess c J v0 v1 I (fun v I1 => v = (f_L_isLess v0 v1 I) ∧ I1 = I) T := by
  refine t_L_isLess ?_
  refine ⟨fun h0 => ?_, fun h0 => ?_⟩
  · exact ⟨by unfold f_L_isLess; rw [if_pos h0], rfl⟩
  · exact ⟨by unfold f_L_isLess; rw [if_neg h0], rfl⟩
def c_L_gatherColours (c : zC) (J : zK) (I : zJ) (P : Int32 → zJ → Prop) (T : Nat → zJ → Prop) : Prop := wg c J 2 qL_gatherColours [.ref 4] I (kvi P) T
def g_L_gatherColours_4 (c : zC) (J : zK) (v1 : Int32) (v2 : Int32) (I : zJ) (P : Int32 → zJ → Prop) (T : Nat → zJ → Prop) : Prop := ∀ (o3 : Option Value) (o4 : Option Value) (o5 : Option Value), wG c J 1 zm_L_gatherColours (4, [some (.ref 4), some (.int v1), some (.int v2), o3, o4, o5], []) I (kvi P) T
def g_L_gatherColours_28 (c : zC) (J : zK) (v1 : Int32) (v2 : Int32) (v3 : Int32) (v4 : Int32) (I : zJ) (P : Int32 → zJ → Prop) (T : Nat → zJ → Prop) : Prop := ∀ (o5 : Option Value), wG c J 1 zm_L_gatherColours (28, [some (.ref 4), some (.int v1), some (.int v2), some (.int v3), some (.int v4), o5], []) I (kvi P) T
def g_L_gatherColours_54 (c : zC) (J : zK) (v1 : Int32) (v2 : Int32) (v3 : Int32) (v4 : Int32) (I : zJ) (P : Int32 → zJ → Prop) (T : Nat → zJ → Prop) : Prop := ∀ (o5 : Option Value), wG c J 1 zm_L_gatherColours (54, [some (.ref 4), some (.int v1), some (.int v2), some (.int v3), some (.int v4), o5], []) I (kvi P) T
def g_L_gatherColours_74 (c : zC) (J : zK) (v1 : Int32) (v2 : Int32) (v3 : Int32) (v4 : Int32) (v5 : Int32) (I : zJ) (P : Int32 → zJ → Prop) (T : Nat → zJ → Prop) : Prop := wG c J 1 zm_L_gatherColours (74, [some (.ref 4), some (.int v1), some (.int v2), some (.int v3), some (.int v4), some (.int v5)], []) I (kvi P) T
set_option maxRecDepth 100000 in
theorem t_L_gatherColours_4 {c : zC} {J : zK} {v1 : Int32} {v2 : Int32} {I : zJ} {P : Int32 → zJ → Prop} {T : Nat → zJ → Prop}
    (k : ((((I 5 1) * (I 5 2)) ≤ v2 → P v1 I) ∧ (¬ (((I 5 1) * (I 5 2)) ≤ v2) → (vp_in v2 64) ∧ g_L_gatherColours_28 c J v1 v2 (I 6 v2.toNatClampNeg) (nI 0) I P T))) :
    g_L_gatherColours_4 c J v1 v2 I P T := fun _ _ _ => s_L_gatherColours_4 zr_4_0 zo_5 (w_ei (by decide) (x_Plane_count zpl_5) (s_L_gatherColours_12  (fun h1 => s_L_gatherColours_120  ⟨rfl, rfl, (k.1 h1)⟩) (fun h1 => s_L_gatherColours_15 zr_4_0 zr_5_0 za_6 ((k.2 h1).1) (((k.2 h1).2 _)))))
set_option maxRecDepth 100000 in
theorem t_L_gatherColours_28 {c : zC} {J : zK} {v1 : Int32} {v2 : Int32} {v3 : Int32} {v4 : Int32} {I : zJ} {P : Int32 → zJ → Prop} {T : Nat → zJ → Prop}
    (k : ((v1 ≤ v4 → g_L_gatherColours_54 c J v1 v2 v3 v4 I P T) ∧ (¬ (v1 ≤ v4) → (vp_in v4 64) ∧ (((f_L_isLess (I 81 v4.toNatClampNeg) v3 I) = nI 0 → g_L_gatherColours_54 c J v1 v2 v3 v4 I P T) ∧ (¬ ((f_L_isLess (I 81 v4.toNatClampNeg) v3 I) = nI 0) → g_L_gatherColours_28 c J v1 v2 v3 (v4 + (nI 1)) I P T))))) :
    g_L_gatherColours_28 c J v1 v2 v3 v4 I P T := fun _ => s_L_gatherColours_28  (fun h1 => ((k.1 h1) _)) (fun h1 => s_L_gatherColours_34 zr_4_7 za_81 ((k.2 h1).1) (w_ei (by decide) (x_L_isLess) (s_L_gatherColours_45  (fun h2 => (((k.2 h1).2.1 h2) _)) (fun h2 => s_L_gatherColours_48  ((((k.2 h1).2.2 h2) _))))))
set_option maxRecDepth 100000 in
theorem t_L_gatherColours_54 {c : zC} {J : zK} {v1 : Int32} {v2 : Int32} {v3 : Int32} {v4 : Int32} {I : zJ} {P : Int32 → zJ → Prop} {T : Nat → zJ → Prop}
    (k : ((v4 = v1 → g_L_gatherColours_74 c J v1 v2 v3 v4 v1 I P T) ∧ (¬ (v4 = v1) → (vp_in v4 64) ∧ (((I 81 v4.toNatClampNeg) = v3 → g_L_gatherColours_4 c J v1 (v2 + (nI 1)) I P T) ∧ (¬ ((I 81 v4.toNatClampNeg) = v3) → g_L_gatherColours_74 c J v1 v2 v3 v4 v1 I P T))))) :
    g_L_gatherColours_54 c J v1 v2 v3 v4 I P T := fun _ => s_L_gatherColours_54  (fun h1 => s_L_gatherColours_71  ((k.1 h1))) (fun h1 => s_L_gatherColours_60 zr_4_7 za_81 ((k.2 h1).1) (fun h2 => s_L_gatherColours_114  ((((k.2 h1).2.1 h2) _ _ _))) (fun h2 => s_L_gatherColours_71  (((k.2 h1).2.2 h2))))
set_option maxRecDepth 100000 in
theorem t_L_gatherColours_74 {c : zC} {J : zK} {v1 : Int32} {v2 : Int32} {v3 : Int32} {v4 : Int32} {v5 : Int32} {I : zJ} {P : Int32 → zJ → Prop} {T : Nat → zJ → Prop}
    (k : ((v5 ≤ v4 → (vp_in v4 64) ∧ g_L_gatherColours_4 c J (v1 + (nI 1)) (v2 + (nI 1)) (xup I 81 v4.toNatClampNeg v3) P T) ∧ (¬ (v5 ≤ v4) → (vp_in (v5 - (nI 1)) 64) ∧ (vp_in v5 64) ∧ g_L_gatherColours_74 c J v1 v2 v3 v4 (v5 + (-1 : Int32)) (xup I 81 v5.toNatClampNeg (I 81 (v5 - (nI 1)).toNatClampNeg)) P T))) :
    g_L_gatherColours_74 c J v1 v2 v3 v4 v5 I P T := s_L_gatherColours_74  (fun h1 => s_L_gatherColours_103 zr_4_7 za_81 (by decide) ((k.1 h1).1) (((k.1 h1).2 _ _ _))) (fun h1 => s_L_gatherColours_81 zr_4_7 za_81 ((k.2 h1).1) (by decide) ((k.2 h1).2.1) ((k.2 h1).2.2))
set_option maxRecDepth 100000 in
theorem t_L_gatherColours {c : zC} {J : zK} {I : zJ} {P : Int32 → zJ → Prop} {T : Nat → zJ → Prop}
    (k : g_L_gatherColours_4 c J (nI 0) (nI 0) I P T) :
    c_L_gatherColours c J I P T := xg_of (M := zm_L_gatherColours) rfl (Nat.le_of_ble_eq_true rfl) (s_L_gatherColours_0  ((k _ _ _)))
def c_L_measure (c : zC) (J : zK) (v1 : Int32) (I : zJ) (P : Int32 → zJ → Prop) (T : Nat → zJ → Prop) : Prop := wg c J 3 qL_measure [.ref 4, .int v1] I (kvi P) T
set_option maxRecDepth 100000 in
theorem t_L_measure {c : zC} {J : zK} {v1 : Int32} {I : zJ} {P : Int32 → zJ → Prop} {T : Nat → zJ → Prop}
    (k : ((v1 = nI 0 → P (I 5 1) I) ∧ (v1 = nI 1 → P (I 5 2) I) ∧ (v1 = nI 2 → c_L_gatherColours c J I (fun y5 I4 => P y5 I4) T) ∧ (v1.toInt < 0 ∨ 2 < v1.toInt → P (-1 : Int32) I))) :
    c_L_measure c J v1 I P T := xg_of (M := zm_L_measure) rfl (Nat.le_of_ble_eq_true rfl) (s_L_measure_0  (fun h1 => s_L_measure_28 zr_4_0 zo_5 ⟨rfl, rfl, (k.1 h1)⟩) (fun h2 => s_L_measure_36 zr_4_0 zo_5 ⟨rfl, rfl, (k.2.1 h2)⟩) (fun h3 => s_L_measure_44  zo_4 (w_ci (by decide) (k.2.2.1 h3) (fun y5 I4 k => s_L_measure_48  ⟨rfl, rfl, k⟩))) (fun h6 => s_L_measure_49  ⟨rfl, rfl, (k.2.2.2 h6)⟩))
def c_Bits_bytesHeld (c : zC) (J : zK) (r0 : Nat) (I : zJ) (P : Int32 → zJ → Prop) (T : Nat → zJ → Prop) : Prop := wg c J 1 qBits_bytesHeld [.ref r0] I (kvi P) T
set_option maxRecDepth 100000 in
theorem t_Bits_bytesHeld {c : zC} {J : zK} {r0 : Nat} {I : zJ} {P : Int32 → zJ → Prop} {T : Nat → zJ → Prop} (p_r0 : zbi c r0)
    (k : P (((I r0 1) + (nI 7)) / (nI 8)) I) :
    c_Bits_bytesHeld c J r0 I P T := xg_of (M := zm_Bits_bytesHeld) rfl (Nat.le_of_ble_eq_true rfl) (s_Bits_bytesHeld_0 (zbi_ob p_r0) ⟨rfl, rfl, k⟩)
theorem x_Bits_bytesHeld {c : zC} {J : zK} {r0 : Nat} {I : zJ} {T : Nat → zJ → Prop} (p_r0 : zbi c r0) : c_Bits_bytesHeld c J r0 I (fun v I1 => v = ((I r0 1) + (nI 7)) / (nI 8) ∧ I1 = I) T := by
  refine t_Bits_bytesHeld p_r0 ?_
  exact ⟨rfl, rfl⟩
def c_Bits_putBit (c : zC) (J : zK) (r0 : Nat) (v1 : Int32) (I : zJ) (P : zJ → Prop) (T : Nat → zJ → Prop) : Prop := wg c J 1 qBits_putBit [.ref r0, .int v1] I (kvu P) T
set_option maxRecDepth 100000 in
theorem t_Bits_putBit {c : zC} {J : zK} {r0 : Nat} {v1 : Int32} {I : zJ} {P : zJ → Prop} {T : Nat → zJ → Prop} (p_r0 : zbi c r0)
    (k : (((nI 700) ≤ ((I r0 1) / (nI 8)) → P (xup I r0 1 ((I r0 1) + (nI 1)))) ∧ (¬ ((nI 700) ≤ ((I r0 1) / (nI 8))) → ((((I r0 1) - (I r0 1) / (nI 8) * (nI 8)) = nI 0 → (vp_in ((I r0 1) / (nI 8)) 700) ∧ P (xup (xup I (r0 + 1) ((I r0 1) / (nI 8)).toNatClampNeg ((nI 0) ||| (v1 <<< (((I r0 1) - (I r0 1) / (nI 8) * (nI 8)) &&& 31)))) r0 1 (((xup I (r0 + 1) ((I r0 1) / (nI 8)).toNatClampNeg ((nI 0) ||| (v1 <<< (((I r0 1) - (I r0 1) / (nI 8) * (nI 8)) &&& 31)))) r0 1) + (nI 1)))) ∧ (¬ (((I r0 1) - (I r0 1) / (nI 8) * (nI 8)) = nI 0) → (vp_in ((I r0 1) / (nI 8)) 700) ∧ P (xup (xup I (r0 + 1) ((I r0 1) / (nI 8)).toNatClampNeg ((I (r0 + 1) ((I r0 1) / (nI 8)).toNatClampNeg) ||| (v1 <<< (((I r0 1) - (I r0 1) / (nI 8) * (nI 8)) &&& 31)))) r0 1 (((xup I (r0 + 1) ((I r0 1) / (nI 8)).toNatClampNeg ((I (r0 + 1) ((I r0 1) / (nI 8)).toNatClampNeg) ||| (v1 <<< (((I r0 1) - (I r0 1) / (nI 8) * (nI 8)) &&& 31)))) r0 1) + (nI 1)))))))) :
    c_Bits_putBit c J r0 v1 I P T := xg_of (M := zm_Bits_putBit) rfl (Nat.le_of_ble_eq_true rfl) (s_Bits_putBit_0 (zbi_ob p_r0) (fun h1 => s_Bits_putBit_53 (zbi_ob p_r0) ⟨rfl, rfl, (k.1 h1)⟩) (fun h1 => s_Bits_putBit_15 (zbi_ob p_r0) (fun h2 => s_Bits_putBit_29 (zbi_r0 p_r0) (zbi_a1 p_r0) (((k.2 h1).2 h2).1) (zbi_g1 p_r0) ⟨rfl, rfl, ((k.2 h1).2 h2).2⟩) (fun h2 => s_Bits_putBit_25 (zbi_r0 p_r0) (zbi_a1 p_r0) (zbi_g1 p_r0) (((k.2 h1).1 (Classical.not_not.mp h2)).1) ⟨rfl, rfl, ((k.2 h1).1 (Classical.not_not.mp h2)).2⟩)))
def c_Bits_put (c : zC) (J : zK) (r0 : Nat) (v1 : Int32) (v2 : Int32) (I : zJ) (P : zJ → Prop) (T : Nat → zJ → Prop) : Prop := wg c J 2 qBits_put [.ref r0, .int v1, .int v2] I (kvu P) T
def g_Bits_put_2 (c : zC) (J : zK) (r0 : Nat) (v1 : Int32) (v2 : Int32) (v3 : Int32) (I : zJ) (P : zJ → Prop) (T : Nat → zJ → Prop) : Prop := wG c J 1 zm_Bits_put (2, [some (.ref r0), some (.int v1), some (.int v2), some (.int v3)], []) I (kvu P) T
set_option maxRecDepth 100000 in
theorem t_Bits_put_2 {c : zC} {J : zK} {r0 : Nat} {v1 : Int32} {v2 : Int32} {v3 : Int32} {I : zJ} {P : zJ → Prop} {T : Nat → zJ → Prop} (p_r0 : zbi c r0)
    (k : ((v2 ≤ v3 → P I) ∧ (¬ (v2 ≤ v3) → c_Bits_putBit c J r0 ((v1 >>> (v3 &&& 31)) &&& (nI 1)) I (fun I2 => g_Bits_put_2 c J r0 v1 v2 (v3 + (nI 1)) I2 P T) T))) :
    g_Bits_put_2 c J r0 v1 v2 v3 I P T := s_Bits_put_2  (fun h1 => s_Bits_put_22  ⟨rfl, rfl, (k.1 h1)⟩) (fun h1 => s_Bits_put_7  (zbi_ob p_r0) (w_cu (by decide) (k.2 h1) (fun I2 k => s_Bits_put_16  (k))))
set_option maxRecDepth 100000 in
theorem t_Bits_put {c : zC} {J : zK} {r0 : Nat} {v1 : Int32} {v2 : Int32} {I : zJ} {P : zJ → Prop} {T : Nat → zJ → Prop} (p_r0 : zbi c r0)
    (k : g_Bits_put_2 c J r0 v1 v2 (nI 0) I P T) :
    c_Bits_put c J r0 v1 v2 I P T := xg_of (M := zm_Bits_put) rfl (Nat.le_of_ble_eq_true rfl) (s_Bits_put_0  (k))
def c_L_feed (c : zC) (J : zK) (w1 : Int64) (v3 : Int32) (I : zJ) (P : Int32 → zJ → Prop) (T : Nat → zJ → Prop) : Prop := wg c J 3 qL_feed [.ref 4, .long w1, .int v3] I (kvi P) T
def g_L_feed_35 (c : zC) (J : zK) (w1 : Int64) (v3 : Int32) (v4 : Int32) (v5 : Int32) (I : zJ) (P : Int32 → zJ → Prop) (T : Nat → zJ → Prop) : Prop := wG c J 2 zm_L_feed (35, [some (.ref 4), some (.long w1), none, some (.int v3), some (.int v4), some (.int v5)], []) I (kvi P) T
set_option maxRecDepth 100000 in
theorem t_L_feed_35 {c : zC} {J : zK} {w1 : Int64} {v3 : Int32} {v4 : Int32} {v5 : Int32} {I : zJ} {P : Int32 → zJ → Prop} {T : Nat → zJ → Prop}
    (k : ((v3 ≤ v5 → P (v4 + v3) I) ∧ (¬ (v3 ≤ v5) → c_Bits_put c J 9 (((xusL w1 ((nI 8) * v5)).toInt32) &&& (nI 255)) (nI 8) I (fun I2 => g_L_feed_35 c J w1 v3 v4 (v5 + (nI 1)) I2 P T) T))) :
    g_L_feed_35 c J w1 v3 v4 v5 I P T := s_L_feed_35  (fun h1 => s_L_feed_68  ⟨rfl, rfl, (k.1 h1)⟩) (fun h1 => s_L_feed_41 zr_4_2 zo_9 (w_cu (by decide) (k.2 h1) (fun I2 k => s_L_feed_62  (k))))
set_option maxRecDepth 100000 in
theorem t_L_feed {c : zC} {J : zK} {w1 : Int64} {v3 : Int32} {I : zJ} {P : Int32 → zJ → Prop} {T : Nat → zJ → Prop}
    (k : ((v3 < (nI 1) → P (-1 : Int32) I) ∧ (¬ (v3 < (nI 1)) → (((nI 8) < v3 → P (-1 : Int32) I) ∧ (¬ ((nI 8) < v3) → ((((((I 9 1) + (nI 7)) / (nI 8)) + v3) ≤ (nI 700) → g_L_feed_35 c J w1 v3 (((I 9 1) + (nI 7)) / (nI 8)) (nI 0) I P T) ∧ (¬ (((((I 9 1) + (nI 7)) / (nI 8)) + v3) ≤ (nI 700)) → P (-1 : Int32) I))))))) :
    c_L_feed c J w1 v3 I P T := xg_of (M := zm_L_feed) rfl (Nat.le_of_ble_eq_true rfl) (s_L_feed_0 zr_4_2 zo_9 (w_ei (by decide) (x_Bits_bytesHeld zbi_9) (s_L_feed_7  (fun h1 => s_L_feed_30  ⟨rfl, rfl, (k.1 h1)⟩) (fun h1 => s_L_feed_14  (fun h2 => s_L_feed_30  ⟨rfl, rfl, ((k.2 h1).1 h2)⟩) (fun h2 => s_L_feed_20  (fun h3 => s_L_feed_32  ((((k.2 h1).2 h2).1 h3))) (fun h3 => s_L_feed_30  ⟨rfl, rfl, (((k.2 h1).2 h2).2 h3)⟩))))))
def c_Bits_clear (c : zC) (J : zK) (r0 : Nat) (I : zJ) (P : zJ → Prop) (T : Nat → zJ → Prop) : Prop := wg c J 1 qBits_clear [.ref r0] I (kvu P) T
set_option maxRecDepth 100000 in
theorem t_Bits_clear {c : zC} {J : zK} {r0 : Nat} {I : zJ} {P : zJ → Prop} {T : Nat → zJ → Prop} (p_r0 : zbi c r0)
    (k : P (xup I r0 1 (nI 0))) :
    c_Bits_clear c J r0 I P T := xg_of (M := zm_Bits_clear) rfl (Nat.le_of_ble_eq_true rfl) (s_Bits_clear_0 (zbi_ob p_r0) ⟨rfl, rfl, k⟩)
theorem x_Bits_clear {c : zC} {J : zK} {r0 : Nat} {I : zJ} {T : Nat → zJ → Prop} (p_r0 : zbi c r0) : c_Bits_clear c J r0 I (fun I1 => I1 = xup I r0 1 (nI 0)) T := by
  refine t_Bits_clear p_r0 ?_
  repeat (first | exact rfl | (refine ⟨?_, ?_⟩; assumption) | (intro _ h; subst h))
def c_L_wipe (c : zC) (J : zK) (I : zJ) (P : Int32 → zJ → Prop) (T : Nat → zJ → Prop) : Prop := wg c J 2 qL_wipe [.ref 4] I (kvi P) T
set_option maxRecDepth 100000 in
theorem t_L_wipe {c : zC} {J : zK} {I : zJ} {P : Int32 → zJ → Prop} {T : Nat → zJ → Prop}
    (k : ∀ I1 : zJ, I1 = xup I 9 1 (nI 0) → P (((I 9 1) + (nI 7)) / (nI 8)) I1) :
    c_L_wipe c J I P T := xg_of (M := zm_L_wipe) rfl (Nat.le_of_ble_eq_true rfl) (s_L_wipe_0 zr_4_2 zo_9 (w_ei (by decide) (x_Bits_bytesHeld zbi_9) (s_L_wipe_7 zr_4_2 zo_9 (w_eu (by decide) (x_Bits_clear zbi_9) (s_L_wipe_15  ⟨rfl, rfl, (k _ rfl)⟩)))))
theorem x_L_wipe {c : zC} {J : zK} {I : zJ} {T : Nat → zJ → Prop} : c_L_wipe c J I (fun v I1 => v = (((I 9 1) + (nI 7)) / (nI 8)) ∧ I1 = (xup I 9 1 (nI 0))) T := by
  refine t_L_wipe ?_
  repeat (first | exact ⟨rfl, rfl⟩ | (refine ⟨?_, ?_⟩; assumption) | (intro _ h; subst h))
def c_L_byteAt (c : zC) (J : zK) (v1 : Int32) (I : zJ) (P : Int32 → zJ → Prop) (T : Nat → zJ → Prop) : Prop := wg c J 2 qL_byteAt [.ref 4, .int v1] I (kvi P) T
set_option maxRecDepth 100000 in
theorem t_L_byteAt {c : zC} {J : zK} {v1 : Int32} {I : zJ} {P : Int32 → zJ → Prop} {T : Nat → zJ → Prop}
    (k : ((v1 < nI 0 → P (-1 : Int32) I) ∧ (¬ (v1 < nI 0) → ((v1 < (((I 9 1) + (nI 7)) / (nI 8)) → (vp_in v1 700) ∧ P (I 10 v1.toNatClampNeg) I) ∧ (¬ (v1 < (((I 9 1) + (nI 7)) / (nI 8))) → P (-1 : Int32) I))))) :
    c_L_byteAt c J v1 I P T := xg_of (M := zm_L_byteAt) rfl (Nat.le_of_ble_eq_true rfl) (s_L_byteAt_0  (fun h1 => s_L_byteAt_15  ⟨rfl, rfl, (k.1 h1)⟩) (fun h1 => s_L_byteAt_4 zr_4_2 zo_9 (w_ei (by decide) (x_Bits_bytesHeld zbi_9) (s_L_byteAt_12  (fun h2 => s_L_byteAt_19 zr_4_2 zr_9_0 za_10 (((k.2 h1).1 h2).1) ⟨rfl, rfl, ((k.2 h1).1 h2).2⟩) (fun h2 => s_L_byteAt_15  ⟨rfl, rfl, ((k.2 h1).2 h2)⟩)))))
def c_L_flip (c : zC) (J : zK) (v1 : Int32) (I : zJ) (P : Int32 → zJ → Prop) (T : Nat → zJ → Prop) : Prop := wg c J 1 qL_flip [.ref 4, .int v1] I (kvi P) T
set_option maxRecDepth 100000 in
theorem t_L_flip {c : zC} {J : zK} {v1 : Int32} {I : zJ} {P : Int32 → zJ → Prop} {T : Nat → zJ → Prop}
    (k : ((v1 < nI 0 → T 101 I) ∧ (¬ (v1 < nI 0) → ((v1 < (I 9 1) → (vp_in (v1 / (nI 8)) 700) ∧ P ((((xup I 10 (v1 / (nI 8)).toNatClampNeg ((I 10 (v1 / (nI 8)).toNatClampNeg) ^^^ ((nI 1) <<< ((v1 - v1 / (nI 8) * (nI 8)) &&& 31)))) 10 (v1 / (nI 8)).toNatClampNeg) >>> ((v1 - v1 / (nI 8) * (nI 8)) &&& 31)) &&& (nI 1)) (xup I 10 (v1 / (nI 8)).toNatClampNeg ((I 10 (v1 / (nI 8)).toNatClampNeg) ^^^ ((nI 1) <<< ((v1 - v1 / (nI 8) * (nI 8)) &&& 31))))) ∧ (¬ (v1 < (I 9 1)) → T 101 I))))) :
    c_L_flip c J v1 I P T := xg_of (M := zm_L_flip) rfl (Nat.le_of_ble_eq_true rfl) (s_L_flip_0  (fun h1 => s_L_flip_15  ⟨rfl, _, rfl, rfl, (k.1 h1)⟩) (fun h1 => s_L_flip_4 zr_4_2 zo_9 (fun h2 => s_L_flip_25 zr_4_2 zr_9_0 za_10 (((k.2 h1).1 h2).1) (by decide) ⟨rfl, rfl, ((k.2 h1).1 h2).2⟩) (fun h2 => s_L_flip_15  ⟨rfl, _, rfl, rfl, ((k.2 h1).2 h2)⟩)))
def c_Bits_number (c : zC) (J : zK) (r0 : Nat) (v1 : Int32) (I : zJ) (P : Int32 → zJ → Prop) (T : Nat → zJ → Prop) : Prop := wg c J 1 qBits_number [.ref r0, .int v1] I (kvi P) T
def g_Bits_number_27 (c : zC) (J : zK) (r0 : Nat) (v1 : Int32) (v2 : Int32) (v3 : Int32) (I : zJ) (P : Int32 → zJ → Prop) (T : Nat → zJ → Prop) : Prop := wG c J 0 zm_Bits_number (27, [some (.ref r0), some (.int v1), some (.int v2), some (.int v3)], []) I (kvi P) T
set_option maxRecDepth 100000 in
theorem t_Bits_number_27 {c : zC} {J : zK} {r0 : Nat} {v1 : Int32} {v2 : Int32} {v3 : Int32} {I : zJ} {P : Int32 → zJ → Prop} {T : Nat → zJ → Prop} (p_r0 : zbi c r0)
    (k : ((v1 ≤ v3 → P v2 I) ∧ (¬ (v1 ≤ v3) → (vp_in ((I r0 2) / (nI 8)) 700) ∧ g_Bits_number_27 c J r0 v1 (v2 ||| ((((I (r0 + 1) ((I r0 2) / (nI 8)).toNatClampNeg) >>> (((I r0 2) - (I r0 2) / (nI 8) * (nI 8)) &&& 31)) &&& (nI 1)) <<< (v3 &&& 31))) (v3 + (nI 1)) (xup I r0 2 ((I r0 2) + (nI 1))) P T))) :
    g_Bits_number_27 c J r0 v1 v2 v3 I P T := s_Bits_number_27  (fun h1 => s_Bits_number_75  ⟨rfl, rfl, (k.1 h1)⟩) (fun h1 => s_Bits_number_32 (zbi_r0 p_r0) (zbi_a1 p_r0) ((k.2 h1).1) ((k.2 h1).2))
set_option maxRecDepth 100000 in
theorem t_Bits_number {c : zC} {J : zK} {r0 : Nat} {v1 : Int32} {I : zJ} {P : Int32 → zJ → Prop} {T : Nat → zJ → Prop} (p_r0 : zbi c r0)
    (k : ((v1 ≤ ((I r0 1) - (I r0 2)) → g_Bits_number_27 c J r0 v1 (nI 0) (nI 0) I P T) ∧ (¬ (v1 ≤ ((I r0 1) - (I r0 2))) → T 100 I))) :
    c_Bits_number c J r0 v1 I P T := xg_of (M := zm_Bits_number) rfl (Nat.le_of_ble_eq_true rfl) (s_Bits_number_0 (zbi_ob p_r0) (fun h1 => s_Bits_number_23  ((k.1 h1))) (fun h1 => s_Bits_number_13  ⟨rfl, _, rfl, rfl, (k.2 h1)⟩))
def c_Transforms_clear (c : zC) (J : zK) (I : zJ) (P : zJ → Prop) (T : Nat → zJ → Prop) : Prop := wg c J 1 qTransforms_clear [.ref 51] I (kvu P) T
set_option maxRecDepth 100000 in
theorem t_Transforms_clear {c : zC} {J : zK} {I : zJ} {P : zJ → Prop} {T : Nat → zJ → Prop}
    (k : P (xup I 51 5 (nI 0))) :
    c_Transforms_clear c J I P T := xg_of (M := zm_Transforms_clear) rfl (Nat.le_of_ble_eq_true rfl) (s_Transforms_clear_0 zo_51 ⟨rfl, rfl, k⟩)
theorem x_Transforms_clear {c : zC} {J : zK} {I : zJ} {T : Nat → zJ → Prop} : c_Transforms_clear c J I (fun I1 => I1 = xup I 51 5 (nI 0)) T := by
  refine t_Transforms_clear ?_
  repeat (first | exact rfl | (refine ⟨?_, ?_⟩; assumption) | (intro _ h; subst h))
def c_Bits_bit (c : zC) (J : zK) (r0 : Nat) (I : zJ) (P : Int32 → zJ → Prop) (T : Nat → zJ → Prop) : Prop := wg c J 2 qBits_bit [.ref r0] I (kvi P) T
set_option maxRecDepth 100000 in
theorem t_Bits_bit {c : zC} {J : zK} {r0 : Nat} {I : zJ} {P : Int32 → zJ → Prop} {T : Nat → zJ → Prop} (p_r0 : zbi c r0)
    (k : c_Bits_number c J r0 (nI 1) I (fun y2 I1 => P y2 I1) T) :
    c_Bits_bit c J r0 I P T := xg_of (M := zm_Bits_bit) rfl (Nat.le_of_ble_eq_true rfl) (s_Bits_bit_0  (zbi_ob p_r0) (w_ci (by decide) k (fun y2 I1 k => s_Bits_bit_5  ⟨rfl, rfl, k⟩)))
def c_Transforms_have (c : zC) (J : zK) (v1 : Int32) (I : zJ) (P : Int32 → zJ → Prop) (T : Nat → zJ → Prop) : Prop := wg c J 1 qTransforms_have [.ref 51, .int v1] I (kvi P) T
def g_Transforms_have_2 (c : zC) (J : zK) (v1 : Int32) (v2 : Int32) (I : zJ) (P : Int32 → zJ → Prop) (T : Nat → zJ → Prop) : Prop := wG c J 0 zm_Transforms_have (2, [some (.ref 51), some (.int v1), some (.int v2)], []) I (kvi P) T
set_option maxRecDepth 100000 in
theorem t_Transforms_have_2 {c : zC} {J : zK} {v1 : Int32} {v2 : Int32} {I : zJ} {P : Int32 → zJ → Prop} {T : Nat → zJ → Prop}
    (k : (((I 51 5) ≤ v2 → P (nI 0) I) ∧ (¬ ((I 51 5) ≤ v2) → (vp_in v2 4) ∧ (((I 52 v2.toNatClampNeg) = v1 → P (nI 1) I) ∧ (¬ ((I 52 v2.toNatClampNeg) = v1) → g_Transforms_have_2 c J v1 (v2 + (nI 1)) I P T))))) :
    g_Transforms_have_2 c J v1 v2 I P T := s_Transforms_have_2 zo_51 (fun h1 => s_Transforms_have_28  ⟨rfl, rfl, (k.1 h1)⟩) (fun h1 => s_Transforms_have_10 zr_51_0 za_52 ((k.2 h1).1) (fun h2 => s_Transforms_have_22  (((k.2 h1).2.2 h2))) (fun h2 => s_Transforms_have_20  ⟨rfl, rfl, ((k.2 h1).2.1 (Classical.not_not.mp h2))⟩))
set_option maxRecDepth 100000 in
theorem t_Transforms_have {c : zC} {J : zK} {v1 : Int32} {I : zJ} {P : Int32 → zJ → Prop} {T : Nat → zJ → Prop}
    (k : g_Transforms_have_2 c J v1 (nI 0) I P T) :
    c_Transforms_have c J v1 I P T := xg_of (M := zm_Transforms_have) rfl (Nat.le_of_ble_eq_true rfl) (s_Transforms_have_0  (k))
def c_Cache_open (c : zC) (J : zK) (v1 : Int32) (I : zJ) (P : zJ → Prop) (T : Nat → zJ → Prop) : Prop := wg c J 2 qCache_open [.ref 49, .int v1] I (kvu P) T
set_option maxRecDepth 100000 in
theorem t_Cache_open {c : zC} {J : zK} {v1 : Int32} {I : zJ} {P : zJ → Prop} {T : Nat → zJ → Prop}
    (k : c_A_fill c J 50 (nI 0) (xup I 49 1 v1) (fun I1 => P I1) T) :
    c_Cache_open c J v1 I P T := xg_of (M := zm_Cache_open) rfl (Nat.le_of_ble_eq_true rfl) (s_Cache_open_0 zo_49 zr_49_0 (w_cu (by decide) k (fun I1 k => s_Cache_open_13  ⟨rfl, rfl, k⟩)))
def c_Cache_colourCount (c : zC) (J : zK) (I : zJ) (P : Int32 → zJ → Prop) (T : Nat → zJ → Prop) : Prop := wg c J 1 qCache_colourCount [.ref 49] I (kvi P) T
set_option maxRecDepth 100000 in
theorem t_Cache_colourCount {c : zC} {J : zK} {I : zJ} {P : Int32 → zJ → Prop} {T : Nat → zJ → Prop}
    (k : (((I 49 1) = nI 0 → P (nI 0) I) ∧ (¬ ((I 49 1) = nI 0) → P ((nI 1) <<< ((I 49 1) &&& 31)) I))) :
    c_Cache_colourCount c J I P T := xg_of (M := zm_Cache_colourCount) rfl (Nat.le_of_ble_eq_true rfl) (s_Cache_colourCount_0 zo_49 (fun h1 => s_Cache_colourCount_11 zo_49 ⟨rfl, rfl, (k.2 h1)⟩) (fun h1 => s_Cache_colourCount_7  ⟨rfl, rfl, (k.1 (Classical.not_not.mp h1))⟩))
def f_Cache_colourCount (I : zJ) : Int32 := if (I 49 1) = nI 0 then (nI 0) else ((nI 1) <<< ((I 49 1) &&& 31))
theorem x_Cache_colourCount {c : zC} {J : zK} {I : zJ} {T : Nat → zJ → Prop} : c_Cache_colourCount c J I (fun v I1 => v = (f_Cache_colourCount I) ∧ I1 = I) T := by
  refine t_Cache_colourCount ?_
  refine ⟨fun h0 => ?_, fun h0 => ?_⟩
  · exact ⟨by unfold f_Cache_colourCount; rw [if_pos h0], rfl⟩
  · exact ⟨by unfold f_Cache_colourCount; rw [if_neg h0], rfl⟩
def c_Code_clear (c : zC) (J : zK) (r0 : Nat) (v1 : Int32) (I : zJ) (P : zJ → Prop) (T : Nat → zJ → Prop) : Prop := wg c J 2 qCode_clear [.ref r0, .int v1] I (kvu P) T
set_option maxRecDepth 100000 in
theorem t_Code_clear {c : zC} {J : zK} {r0 : Nat} {v1 : Int32} {m_r0 : Nat} {I : zJ} {P : zJ → Prop} {T : Nat → zJ → Prop} (p_r0 : zco c r0 m_r0)
    (k : c_A_fill c J (r0 + 4) (nI 0) (xup I r0 6 v1) (fun I1 => P I1) T) :
    c_Code_clear c J r0 v1 I P T := xg_of (M := zm_Code_clear) rfl (Nat.le_of_ble_eq_true rfl) (s_Code_clear_0 (zco_ob p_r0) (zco_r0 p_r0) (w_cu (by decide) k (fun I1 k => s_Code_clear_13  ⟨rfl, rfl, k⟩)))
def c_Codes_clear (c : zC) (J : zK) (v1 : Int32) (I : zJ) (P : zJ → Prop) (T : Nat → zJ → Prop) : Prop := wg c J 3 qCodes_clear [.ref 13, .int v1] I (kvu P) T
set_option maxRecDepth 100000 in
theorem t_Codes_clear {c : zC} {J : zK} {v1 : Int32} {I : zJ} {P : zJ → Prop} {T : Nat → zJ → Prop}
    (k : c_Code_clear c J 14 ((nI 280) + v1) I (fun I1 => c_Code_clear c J 21 (nI 256) I1 (fun I2 => c_Code_clear c J 28 (nI 256) I2 (fun I3 => c_Code_clear c J 35 (nI 256) I3 (fun I4 => c_Code_clear c J 42 (nI 40) I4 (fun I5 => P I5) T) T) T) T) T) :
    c_Codes_clear c J v1 I P T := xg_of (M := zm_Codes_clear) rfl (Nat.le_of_ble_eq_true rfl) (s_Codes_clear_0 zr_13_0 zo_14 (w_cu (by decide) k (fun I1 k => s_Codes_clear_12 zr_13_1 zo_21 (w_cu (by decide) k (fun I2 k => s_Codes_clear_22 zr_13_2 zo_28 (w_cu (by decide) k (fun I3 k => s_Codes_clear_32 zr_13_3 zo_35 (w_cu (by decide) k (fun I4 k => s_Codes_clear_42 zr_13_4 zo_42 (w_cu (by decide) k (fun I5 k => s_Codes_clear_51  ⟨rfl, rfl, k⟩)))))))))))
def c_Codes_of (c : zC) (J : zK) (v1 : Int32) (I : zJ) (P : Nat → zJ → Prop) (T : Nat → zJ → Prop) : Prop := wg c J 1 qCodes_of [.ref 13, .int v1] I (kvr P) T
set_option maxRecDepth 100000 in
theorem t_Codes_of {c : zC} {J : zK} {v1 : Int32} {I : zJ} {P : Nat → zJ → Prop} {T : Nat → zJ → Prop}
    (k : ((v1 = nI 0 → P 14 I) ∧ (v1 = nI 1 → P 21 I) ∧ (v1 = nI 2 → P 28 I) ∧ (v1 = nI 3 → P 35 I) ∧ (v1.toInt < 0 ∨ 3 < v1.toInt → P 42 I))) :
    c_Codes_of c J v1 I P T := xg_of (M := zm_Codes_of) rfl (Nat.le_of_ble_eq_true rfl) (s_Codes_of_0  (fun h1 => s_Codes_of_32 zr_13_0 ⟨rfl, rfl, (k.1 h1)⟩) (fun h2 => s_Codes_of_37 zr_13_1 ⟨rfl, rfl, (k.2.1 h2)⟩) (fun h3 => s_Codes_of_42 zr_13_2 ⟨rfl, rfl, (k.2.2.1 h3)⟩) (fun h4 => s_Codes_of_47 zr_13_3 ⟨rfl, rfl, (k.2.2.2.1 h4)⟩) (fun h5 => s_Codes_of_52 zr_13_4 ⟨rfl, rfl, (k.2.2.2.2 h5)⟩))
def c_ImageReader_takeFew (c : zC) (J : zK) (r0 : Nat) (r1 : Nat) (I : zJ) (P : zJ → Prop) (T : Nat → zJ → Prop) : Prop := wg c J 3 qImageReader_takeFew [.ref r0, .ref r1] I (kvu P) T
def g_ImageReader_takeFew_19 (c : zC) (J : zK) (r0 : Nat) (r1 : Nat) (v2 : Int32) (t0 : Nat) (t1 : Int32) (I : zJ) (P : zJ → Prop) (T : Nat → zJ → Prop) : Prop := wG c J 2 zm_ImageReader_takeFew (19, [some (.ref r0), some (.ref r1), some (.int v2), none, none], [.int t1, .ref t0]) I (kvu P) T
def g_ImageReader_takeFew_32 (c : zC) (J : zK) (r0 : Nat) (r1 : Nat) (v2 : Int32) (t0 : Int32) (I : zJ) (P : zJ → Prop) (T : Nat → zJ → Prop) : Prop := wG c J 2 zm_ImageReader_takeFew (32, [some (.ref r0), some (.ref r1), some (.int v2), none, none], [.int t0]) I (kvu P) T
def g_ImageReader_takeFew_57 (c : zC) (J : zK) (r1 : Nat) (v2 : Int32) (v3 : Int32) (v4 : Int32) (I : zJ) (P : zJ → Prop) (T : Nat → zJ → Prop) : Prop := ∀ (r0 : Nat), wG c J 2 zm_ImageReader_takeFew (57, [some (.ref r0), some (.ref r1), some (.int v2), some (.int v3), some (.int v4)], []) I (kvu P) T
set_option maxRecDepth 100000 in
theorem t_ImageReader_takeFew_19 {c : zC} {J : zK} {r0 : Nat} {r1 : Nat} {v2 : Int32} {t0 : Nat} {t1 : Int32} {m_r1 : Nat} {I : zJ} {P : zJ → Prop} {T : Nat → zJ → Prop} (p_r0 : zbi c r0) (p_r1 : zco c r1 m_r1) (p_t0 : zbi c t0)
    (k : ((t1 = (nI 1) → c_Bits_number c J t0 (nI 8) I (fun y5 I4 => g_ImageReader_takeFew_32 c J r0 r1 v2 y5 I4 P T) T) ∧ (¬ (t1 = (nI 1)) → c_Bits_number c J t0 (nI 1) I (fun y3 I2 => g_ImageReader_takeFew_32 c J r0 r1 v2 y3 I2 P T) T))) :
    g_ImageReader_takeFew_19 c J r0 r1 v2 t0 t1 I P T := s_ImageReader_takeFew_19  (fun h1 => s_ImageReader_takeFew_28  (zbi_ob p_t0) (w_ci (by decide) (k.2 h1) (fun y3 I2 k => k))) (fun h1 => s_ImageReader_takeFew_23  (zbi_ob p_t0) (w_ci (by decide) (k.1 (Classical.not_not.mp h1)) (fun y5 I4 k => k)))
set_option maxRecDepth 100000 in
theorem t_ImageReader_takeFew_32 {c : zC} {J : zK} {r0 : Nat} {r1 : Nat} {v2 : Int32} {t0 : Int32} {m_r1 : Nat} {I : zJ} {P : zJ → Prop} {T : Nat → zJ → Prop} (p_r0 : zbi c r0) (p_r1 : zco c r1 m_r1)
    (k : ((v2 = nI 0 → (((I r1 6) ≤ t0 → T 100 I) ∧ (¬ ((I r1 6) ≤ t0) → g_ImageReader_takeFew_57 c J r1 v2 t0 t0 I P T))) ∧ (¬ (v2 = nI 0) → c_Bits_number c J r0 (nI 8) I (fun y4 I3 => (((I3 r1 6) ≤ t0 → T 100 I3) ∧ (¬ ((I3 r1 6) ≤ t0) → g_ImageReader_takeFew_57 c J r1 v2 t0 y4 I3 P T))) T))) :
    g_ImageReader_takeFew_32 c J r0 r1 v2 t0 I P T := s_ImageReader_takeFew_32  (fun h1 => s_ImageReader_takeFew_46 (zco_ob p_r1) (fun h2 => s_ImageReader_takeFew_76  ⟨rfl, _, rfl, rfl, ((k.1 h1).1 h2)⟩) (fun h2 => (((k.1 h1).2 h2) _))) (fun h1 => s_ImageReader_takeFew_37  (zbi_ob p_r0) (w_ci (by decide) (k.2 h1) (fun y4 I3 k => s_ImageReader_takeFew_43 (zco_ob p_r1) (fun h5 => s_ImageReader_takeFew_76  ⟨rfl, _, rfl, rfl, (k.1 h5)⟩) (fun h5 => ((k.2 h5) _)))))
set_option maxRecDepth 100000 in
theorem t_ImageReader_takeFew_57 {c : zC} {J : zK} {r1 : Nat} {v2 : Int32} {v3 : Int32} {v4 : Int32} {m_r1 : Nat} {I : zJ} {P : zJ → Prop} {T : Nat → zJ → Prop} (p_r1 : zco c r1 m_r1)
    (k : (((I r1 6) ≤ v4 → T 100 I) ∧ (¬ ((I r1 6) ≤ v4) → ((v2 = nI 0 → (vp_in v3 m_r1) ∧ (vp_in v4 m_r1) ∧ P (xup (xup I (r1 + 4) v3.toNatClampNeg (nI 1)) (r1 + 4) v4.toNatClampNeg (nI 1))) ∧ (¬ (v2 = nI 0) → ((v3 = v4 → T 100 I) ∧ (¬ (v3 = v4) → (vp_in v3 m_r1) ∧ (vp_in v4 m_r1) ∧ P (xup (xup I (r1 + 4) v3.toNatClampNeg (nI 1)) (r1 + 4) v4.toNatClampNeg (nI 1))))))))) :
    g_ImageReader_takeFew_57 c J r1 v2 v3 v4 I P T := fun _ => s_ImageReader_takeFew_57 (zco_ob p_r1) (fun h1 => s_ImageReader_takeFew_76  ⟨rfl, _, rfl, rfl, (k.1 h1)⟩) (fun h1 => s_ImageReader_takeFew_66  (fun h2 => s_ImageReader_takeFew_86 (zco_r0 p_r1) (zco_a4 p_r1) (zco_g4 p_r1) (((k.2 h1).1 h2).1) (((k.2 h1).1 h2).2.1) ⟨rfl, rfl, ((k.2 h1).1 h2).2.2⟩) (fun h2 => s_ImageReader_takeFew_70  (fun h3 => s_ImageReader_takeFew_86 (zco_r0 p_r1) (zco_a4 p_r1) (zco_g4 p_r1) ((((k.2 h1).2 h2).2 h3).1) ((((k.2 h1).2 h2).2 h3).2.1) ⟨rfl, rfl, (((k.2 h1).2 h2).2 h3).2.2⟩) (fun h3 => s_ImageReader_takeFew_76  ⟨rfl, _, rfl, rfl, (((k.2 h1).2 h2).1 (Classical.not_not.mp h3))⟩)))
set_option maxRecDepth 100000 in
theorem t_ImageReader_takeFew {c : zC} {J : zK} {r0 : Nat} {r1 : Nat} {m_r1 : Nat} {I : zJ} {P : zJ → Prop} {T : Nat → zJ → Prop} (p_r0 : zbi c r0) (p_r1 : zco c r1 m_r1)
    (k : c_Bits_bit c J r0 I (fun y2 I1 => ((y2 = (nI 1) → c_Bits_bit c J r0 I1 (fun y7 I6 => g_ImageReader_takeFew_19 c J r0 r1 (nI 1) r0 y7 I6 P T) T) ∧ (¬ (y2 = (nI 1)) → c_Bits_bit c J r0 I1 (fun y5 I4 => g_ImageReader_takeFew_19 c J r0 r1 (nI 0) r0 y5 I4 P T) T))) T) :
    c_ImageReader_takeFew c J r0 r1 I P T := xg_of (M := zm_ImageReader_takeFew) rfl (Nat.le_of_ble_eq_true rfl) (s_ImageReader_takeFew_0  (zbi_ob p_r0) (w_ci (by decide) k (fun y2 I1 k => s_ImageReader_takeFew_4  (fun h3 => s_ImageReader_takeFew_12  (zbi_ob p_r0) (w_ci (by decide) (k.2 h3) (fun y5 I4 k => k))) (fun h3 => s_ImageReader_takeFew_8  (zbi_ob p_r0) (w_ci (by decide) (k.1 (Classical.not_not.mp h3)) (fun y7 I6 k => k))))))
def c_Code_countLengths (c : zC) (J : zK) (r0 : Nat) (I : zJ) (P : zJ → Prop) (T : Nat → zJ → Prop) : Prop := wg c J 2 qCode_countLengths [.ref r0] I (kvu P) T
def g_Code_countLengths_10 (c : zC) (J : zK) (r0 : Nat) (v1 : Int32) (I : zJ) (P : zJ → Prop) (T : Nat → zJ → Prop) : Prop := wG c J 1 zm_Code_countLengths (10, [some (.ref r0), some (.int v1)], []) I (kvu P) T
set_option maxRecDepth 100000 in
theorem t_Code_countLengths_10 {c : zC} {J : zK} {r0 : Nat} {v1 : Int32} {m_r0 : Nat} {I : zJ} {P : zJ → Prop} {T : Nat → zJ → Prop} (p_r0 : zco c r0 m_r0)
    (k : (((I r0 6) ≤ v1 → P (xup (xup I r0 7 ((I r0 6) - (I (r0 + 1) 0))) (r0 + 1) 0 (nI 0))) ∧ (¬ ((I r0 6) ≤ v1) → (vp_in v1 m_r0) ∧ (vp_in (I (r0 + 4) v1.toNatClampNeg) 16) ∧ g_Code_countLengths_10 c J r0 (v1 + (nI 1)) (xup I (r0 + 1) (I (r0 + 4) v1.toNatClampNeg).toNatClampNeg ((I (r0 + 1) (I (r0 + 4) v1.toNatClampNeg).toNatClampNeg) + (nI 1))) P T))) :
    g_Code_countLengths_10 c J r0 v1 I P T := s_Code_countLengths_10 (zco_ob p_r0) (fun h1 => s_Code_countLengths_39 (zco_ob p_r0) (zco_r3 p_r0) (zco_a1 p_r0) (by unfold vp_in; decide) (zco_g1 p_r0) ⟨rfl, rfl, (k.1 h1)⟩) (fun h1 => s_Code_countLengths_18 (zco_r3 p_r0) (zco_r0 p_r0) (zco_a4 p_r0) ((k.2 h1).1) (zco_a1 p_r0) ((k.2 h1).2.1) (zco_g1 p_r0) ((k.2 h1).2.2))
set_option maxRecDepth 100000 in
theorem t_Code_countLengths {c : zC} {J : zK} {r0 : Nat} {m_r0 : Nat} {I : zJ} {P : zJ → Prop} {T : Nat → zJ → Prop} (p_r0 : zco c r0 m_r0)
    (k : c_A_fill c J (r0 + 1) (nI 0) I (fun I1 => g_Code_countLengths_10 c J r0 (nI 0) I1 P T) T) :
    c_Code_countLengths c J r0 I P T := xg_of (M := zm_Code_countLengths) rfl (Nat.le_of_ble_eq_true rfl) (s_Code_countLengths_0 (zco_r3 p_r0) (w_cu (by decide) k (fun I1 k => s_Code_countLengths_8  (k))))
def c_Code_arrange (c : zC) (J : zK) (r0 : Nat) (I : zJ) (P : Int32 → zJ → Prop) (T : Nat → zJ → Prop) : Prop := wg c J 3 qCode_arrange [.ref r0] I (kvi P) T
def g_Code_arrange_14 (c : zC) (J : zK) (r0 : Nat) (v1 : Int32) (v2 : Int32) (v3 : Int32) (v4 : Int32) (I : zJ) (P : Int32 → zJ → Prop) (T : Nat → zJ → Prop) : Prop := wG c J 2 zm_Code_arrange (14, [some (.ref r0), some (.int v1), some (.int v2), some (.int v3), some (.int v4), none], []) I (kvi P) T
def g_Code_arrange_86 (c : zC) (J : zK) (r0 : Nat) (v3 : Int32) (v4 : Int32) (I : zJ) (P : Int32 → zJ → Prop) (T : Nat → zJ → Prop) : Prop := ∀ (v1 : Int32) (v2 : Int32) (o5 : Option Value), wG c J 2 zm_Code_arrange (86, [some (.ref r0), some (.int v1), some (.int v2), some (.int v3), some (.int v4), o5], []) I (kvi P) T
set_option maxRecDepth 100000 in
theorem t_Code_arrange_14 {c : zC} {J : zK} {r0 : Nat} {v1 : Int32} {v2 : Int32} {v3 : Int32} {v4 : Int32} {m_r0 : Nat} {I : zJ} {P : Int32 → zJ → Prop} {T : Nat → zJ → Prop} (p_r0 : zco c r0 m_r0)
    (k : (((nI 15) < v4 → g_Code_arrange_86 c J r0 v3 (nI 0) I P T) ∧ (¬ ((nI 15) < v4) → (vp_in v4 16) ∧ (vp_in v4 16) ∧ (vp_in v4 16) ∧ ∀ I2 : zJ, I2 = xup (xup I (r0 + 2) v4.toNatClampNeg v1) (r0 + 3) v4.toNatClampNeg (v2 * (nI 2)) → (vp_in v4 16) ∧ g_Code_arrange_14 c J r0 (v1 + ((xup (xup I (r0 + 2) v4.toNatClampNeg v1) (r0 + 3) v4.toNatClampNeg (v2 * (nI 2))) (r0 + 1) v4.toNatClampNeg)) ((v2 * (nI 2)) + ((xup (xup I (r0 + 2) v4.toNatClampNeg v1) (r0 + 3) v4.toNatClampNeg (v2 * (nI 2))) (r0 + 1) v4.toNatClampNeg)) (v3 - ((I2 (r0 + 1) v4.toNatClampNeg) <<< (((nI 15) - v4) &&& 31))) (v4 + (nI 1)) I2 P T))) :
    g_Code_arrange_14 c J r0 v1 v2 v3 v4 I P T := s_Code_arrange_14  (fun h1 => s_Code_arrange_83  (((k.1 h1) _ _ _))) (fun h1 => s_Code_arrange_21 (zco_r4 p_r0) (zco_a2 p_r0) (zco_g2 p_r0) ((k.2 h1).1) (zco_r5 p_r0) (zco_a3 p_r0) (zco_g3 p_r0) ((k.2 h1).2.1) (zco_r3 p_r0) (zco_a1 p_r0) ((k.2 h1).2.2.1) (s_Code_arrange_63 (zco_r3 p_r0) (zco_a1 p_r0) (((k.2 h1).2.2.2 _ rfl).1) (((k.2 h1).2.2.2 _ rfl).2)))
set_option maxRecDepth 100000 in
theorem t_Code_arrange_86 {c : zC} {J : zK} {r0 : Nat} {v3 : Int32} {v4 : Int32} {m_r0 : Nat} {I : zJ} {P : Int32 → zJ → Prop} {T : Nat → zJ → Prop} (p_r0 : zco c r0 m_r0)
    (k : (((I r0 6) ≤ v4 → (((I r0 7) = (nI 1) → P (nI 1) I) ∧ (¬ ((I r0 7) = (nI 1)) → (((I r0 7) ≤ nI 0 → P (nI 0) I) ∧ (¬ ((I r0 7) ≤ nI 0) → ((v3 = nI 0 → P (nI 1) I) ∧ (¬ (v3 = nI 0) → P (nI 0) I))))))) ∧ (¬ ((I r0 6) ≤ v4) → (vp_in v4 m_r0) ∧ (((I (r0 + 4) v4.toNatClampNeg) ≤ nI 0 → g_Code_arrange_86 c J r0 v3 (v4 + (nI 1)) I P T) ∧ (¬ ((I (r0 + 4) v4.toNatClampNeg) ≤ nI 0) → (vp_in (I (r0 + 4) v4.toNatClampNeg) 16) ∧ (vp_in (I (r0 + 2) (I (r0 + 4) v4.toNatClampNeg).toNatClampNeg) m_r0) ∧ (vp_in (I (r0 + 4) v4.toNatClampNeg) 16) ∧ (vp_in v4 m_r0) ∧ g_Code_arrange_86 c J r0 v3 (v4 + (nI 1)) (xup (xup (xup (xup I (r0 + 2) (I (r0 + 4) v4.toNatClampNeg).toNatClampNeg ((I (r0 + 2) (I (r0 + 4) v4.toNatClampNeg).toNatClampNeg) + (nI 1))) (r0 + 6) (I (r0 + 2) (I (r0 + 4) v4.toNatClampNeg).toNatClampNeg).toNatClampNeg v4) (r0 + 3) (I (r0 + 4) v4.toNatClampNeg).toNatClampNeg (((xup (xup I (r0 + 2) (I (r0 + 4) v4.toNatClampNeg).toNatClampNeg ((I (r0 + 2) (I (r0 + 4) v4.toNatClampNeg).toNatClampNeg) + (nI 1))) (r0 + 6) (I (r0 + 2) (I (r0 + 4) v4.toNatClampNeg).toNatClampNeg).toNatClampNeg v4) (r0 + 3) (I (r0 + 4) v4.toNatClampNeg).toNatClampNeg) + (nI 1))) (r0 + 5) v4.toNatClampNeg ((xup (xup I (r0 + 2) (I (r0 + 4) v4.toNatClampNeg).toNatClampNeg ((I (r0 + 2) (I (r0 + 4) v4.toNatClampNeg).toNatClampNeg) + (nI 1))) (r0 + 6) (I (r0 + 2) (I (r0 + 4) v4.toNatClampNeg).toNatClampNeg).toNatClampNeg v4) (r0 + 3) (I (r0 + 4) v4.toNatClampNeg).toNatClampNeg)) P T))))) :
    g_Code_arrange_86 c J r0 v3 v4 I P T := fun _ _ _ => s_Code_arrange_86 (zco_ob p_r0) (fun h1 => s_Code_arrange_153 (zco_ob p_r0) (fun h2 => s_Code_arrange_172  ⟨rfl, rfl, ((k.1 h1).1 h2)⟩) (fun h2 => s_Code_arrange_161 (zco_ob p_r0) (fun h3 => s_Code_arrange_176  ⟨rfl, rfl, (((k.1 h1).2 h2).1 h3)⟩) (fun h3 => s_Code_arrange_168  (fun h4 => s_Code_arrange_176  ⟨rfl, rfl, ((((k.1 h1).2 h2).2 h3).2 h4)⟩) (fun h4 => s_Code_arrange_172  ⟨rfl, rfl, ((((k.1 h1).2 h2).2 h3).1 (Classical.not_not.mp h4))⟩)))) (fun h1 => s_Code_arrange_95 (zco_r0 p_r0) (zco_a4 p_r0) ((k.2 h1).1) (fun h5 => s_Code_arrange_147  ((((k.2 h1).2.1 h5) _ _ _))) (fun h5 => s_Code_arrange_109 (zco_r2 p_r0) (zco_r4 p_r0) (zco_a2 p_r0) (((k.2 h1).2.2 h5).1) (zco_g2 p_r0) (zco_a6 p_r0) (zco_g6 p_r0) (((k.2 h1).2.2 h5).2.1) (zco_r1 p_r0) (zco_r5 p_r0) (zco_a3 p_r0) (((k.2 h1).2.2 h5).2.2.1) (zco_g3 p_r0) (zco_a5 p_r0) (zco_g5 p_r0) (((k.2 h1).2.2 h5).2.2.2.1) ((((k.2 h1).2.2 h5).2.2.2.2 _ _ _))))
set_option maxRecDepth 100000 in
theorem t_Code_arrange {c : zC} {J : zK} {r0 : Nat} {m_r0 : Nat} {I : zJ} {P : Int32 → zJ → Prop} {T : Nat → zJ → Prop} (p_r0 : zco c r0 m_r0)
    (k : c_Code_countLengths c J r0 I (fun I1 => g_Code_arrange_14 c J r0 (nI 0) (nI 0) (nI 32768) (nI 1) I1 P T) T) :
    c_Code_arrange c J r0 I P T := xg_of (M := zm_Code_arrange) rfl (Nat.le_of_ble_eq_true rfl) (s_Code_arrange_0  (zco_ob p_r0) (w_cu (by decide) k (fun I1 k => s_Code_arrange_4  (k))))
def c_ImageReader_takeSmall (c : zC) (J : zK) (r1 : Nat) (I : zJ) (P : zJ → Prop) (T : Nat → zJ → Prop) : Prop := wg c J 4 qImageReader_takeSmall [.ref 59, .ref r1] I (kvu P) T
def g_ImageReader_takeSmall_19 (c : zC) (J : zK) (r1 : Nat) (v2 : Int32) (v3 : Int32) (I : zJ) (P : zJ → Prop) (T : Nat → zJ → Prop) : Prop := wG c J 3 zm_ImageReader_takeSmall (19, [some (.ref 59), some (.ref r1), some (.int v2), some (.int v3)], []) I (kvu P) T
set_option maxRecDepth 100000 in
theorem t_ImageReader_takeSmall_19 {c : zC} {J : zK} {r1 : Nat} {v2 : Int32} {v3 : Int32} {I : zJ} {P : zJ → Prop} {T : Nat → zJ → Prop} (p_r1 : zbi c r1)
    (k : ((v2 ≤ v3 → c_Code_arrange c J 60 I (fun y3 I2 => ((y3 = nI 0 → T 100 I2) ∧ (¬ (y3 = nI 0) → P I2))) T) ∧ (¬ (v2 ≤ v3) → (vp_in v3 19) ∧ c_Bits_number c J r1 (nI 3) I (fun y6 I5 => (vp_in (I 1 v3.toNatClampNeg) 19) ∧ g_ImageReader_takeSmall_19 c J r1 v2 (v3 + (nI 1)) (xup I5 64 (I 1 v3.toNatClampNeg).toNatClampNeg y6) P T) T))) :
    g_ImageReader_takeSmall_19 c J r1 v2 v3 I P T := s_ImageReader_takeSmall_19  (fun h1 => s_ImageReader_takeSmall_48 zr_59_2 zo_60 (w_ci (by decide) (k.1 h1) (fun y3 I2 k => s_ImageReader_takeSmall_55  (fun h4 => s_ImageReader_takeSmall_68  ⟨rfl, rfl, (k.2 h4)⟩) (fun h4 => s_ImageReader_takeSmall_58  ⟨rfl, _, rfl, rfl, (k.1 (Classical.not_not.mp h4))⟩)))) (fun h1 => s_ImageReader_takeSmall_24 zr_59_2 zr_60_0 za_1 ((k.2 h1).1) (zbi_ob p_r1) (w_ci (by decide) (k.2 h1).2 (fun y6 I5 k => s_ImageReader_takeSmall_41 za_64 (by decide) (k.1) (k.2))))
set_option maxRecDepth 100000 in
theorem t_ImageReader_takeSmall {c : zC} {J : zK} {r1 : Nat} {I : zJ} {P : zJ → Prop} {T : Nat → zJ → Prop} (p_r1 : zbi c r1)
    (k : c_Code_clear c J 60 (nI 19) I (fun I1 => c_Bits_number c J r1 (nI 4) I1 (fun y3 I2 => g_ImageReader_takeSmall_19 c J r1 (y3 + (nI 4)) (nI 0) I2 P T) T) T) :
    c_ImageReader_takeSmall c J r1 I P T := xg_of (M := zm_ImageReader_takeSmall) rfl (Nat.le_of_ble_eq_true rfl) (s_ImageReader_takeSmall_0 zr_59_2 zo_60 (w_cu (by decide) k (fun I1 k => s_ImageReader_takeSmall_9  (zbi_ob p_r1) (w_ci (by decide) k (fun y3 I2 k => s_ImageReader_takeSmall_14  (k))))))
def c_Code_hear (c : zC) (J : zK) (r0 : Nat) (r1 : Nat) (I : zJ) (P : Int32 → zJ → Prop) (T : Nat → zJ → Prop) : Prop := wg c J 2 qCode_hear [.ref r0, .ref r1] I (kvi P) T
def g_Code_hear_22 (c : zC) (J : zK) (r0 : Nat) (r1 : Nat) (v2 : Int32) (v3 : Int32) (v4 : Int32) (I : zJ) (P : Int32 → zJ → Prop) (T : Nat → zJ → Prop) : Prop := wG c J 1 zm_Code_hear (22, [some (.ref r0), some (.ref r1), some (.int v2), some (.int v3), some (.int v4)], []) I (kvi P) T
set_option maxRecDepth 100000 in
theorem t_Code_hear_22 {c : zC} {J : zK} {r0 : Nat} {r1 : Nat} {v2 : Int32} {v3 : Int32} {v4 : Int32} {m_r0 : Nat} {I : zJ} {P : Int32 → zJ → Prop} {T : Nat → zJ → Prop} (p_r0 : zco c r0 m_r0) (p_r1 : zbi c r1)
    (k : (((nI 15) < v4 → T 100 I) ∧ (¬ ((nI 15) < v4) → c_Bits_number c J r1 (nI 1) I (fun y3 I2 => (vp_in v4 16) ∧ (((I2 (r0 + 1) v4.toNatClampNeg) ≤ ((v3 * (nI 2)) + y3) → (vp_in v4 16) ∧ g_Code_hear_22 c J r0 r1 (v2 + (I2 (r0 + 1) v4.toNatClampNeg)) (((v3 * (nI 2)) + y3) - (I2 (r0 + 1) v4.toNatClampNeg)) (v4 + (nI 1)) I2 P T) ∧ (¬ ((I2 (r0 + 1) v4.toNatClampNeg) ≤ ((v3 * (nI 2)) + y3)) → (vp_in (v2 + ((v3 * (nI 2)) + y3)) m_r0) ∧ P (I2 (r0 + 6) (v2 + ((v3 * (nI 2)) + y3)).toNatClampNeg) I2))) T))) :
    g_Code_hear_22 c J r0 r1 v2 v3 v4 I P T := s_Code_hear_22  (fun h1 => s_Code_hear_85  ⟨rfl, _, rfl, rfl, (k.1 h1)⟩) (fun h1 => s_Code_hear_29  (zbi_ob p_r1) (w_ci (by decide) (k.2 h1) (fun y3 I2 k => s_Code_hear_37 (zco_r3 p_r0) (zco_a1 p_r0) (k.1) (fun h4 => s_Code_hear_59 (zco_r3 p_r0) (zco_a1 p_r0) ((k.2.1 h4).1) ((k.2.1 h4).2)) (fun h4 => s_Code_hear_50 (zco_r2 p_r0) (zco_a6 p_r0) ((k.2.2 h4).1) ⟨rfl, rfl, (k.2.2 h4).2⟩))))
set_option maxRecDepth 100000 in
theorem t_Code_hear {c : zC} {J : zK} {r0 : Nat} {r1 : Nat} {m_r0 : Nat} {I : zJ} {P : Int32 → zJ → Prop} {T : Nat → zJ → Prop} (p_r0 : zco c r0 m_r0) (p_r1 : zbi c r1)
    (k : (((I r0 7) = (nI 1) → (vp_in (nI 0) m_r0) ∧ P (I (r0 + 6) 0) I) ∧ (¬ ((I r0 7) = (nI 1)) → g_Code_hear_22 c J r0 r1 (nI 0) (nI 0) (nI 1) I P T))) :
    c_Code_hear c J r0 r1 I P T := xg_of (M := zm_Code_hear) rfl (Nat.le_of_ble_eq_true rfl) (s_Code_hear_0 (zco_ob p_r0) (fun h1 => s_Code_hear_15  ((k.2 h1))) (fun h1 => s_Code_hear_8 (zco_r2 p_r0) (zco_a6 p_r0) ((k.1 (Classical.not_not.mp h1)).1) ⟨rfl, rfl, (k.1 (Classical.not_not.mp h1)).2⟩))
def c_ImageReader_takeTimes (c : zC) (J : zK) (r0 : Nat) (v1 : Int32) (I : zJ) (P : Int32 → zJ → Prop) (T : Nat → zJ → Prop) : Prop := wg c J 2 qImageReader_takeTimes [.ref r0, .int v1] I (kvi P) T
set_option maxRecDepth 100000 in
theorem t_ImageReader_takeTimes {c : zC} {J : zK} {r0 : Nat} {v1 : Int32} {I : zJ} {P : Int32 → zJ → Prop} {T : Nat → zJ → Prop} (p_r0 : zbi c r0)
    (k : ((v1 = nI 16 → c_Bits_number c J r0 (nI 2) I (fun y3 I2 => P ((nI 3) + y3) I2) T) ∧ (v1 = nI 17 → c_Bits_number c J r0 (nI 3) I (fun y6 I5 => P ((nI 3) + y6) I5) T) ∧ (v1 = nI 18 → c_Bits_number c J r0 (nI 7) I (fun y9 I8 => P ((nI 11) + y9) I8) T) ∧ (v1.toInt < 16 ∨ 18 < v1.toInt → P (nI 1) I))) :
    c_ImageReader_takeTimes c J r0 v1 I P T := xg_of (M := zm_ImageReader_takeTimes) rfl (Nat.le_of_ble_eq_true rfl) (s_ImageReader_takeTimes_0  (fun h1 => s_ImageReader_takeTimes_28  (zbi_ob p_r0) (w_ci (by decide) (k.1 h1) (fun y3 I2 k => s_ImageReader_takeTimes_34  ⟨rfl, rfl, k⟩))) (fun h4 => s_ImageReader_takeTimes_36  (zbi_ob p_r0) (w_ci (by decide) (k.2.1 h4) (fun y6 I5 k => s_ImageReader_takeTimes_42  ⟨rfl, rfl, k⟩))) (fun h7 => s_ImageReader_takeTimes_44  (zbi_ob p_r0) (w_ci (by decide) (k.2.2.1 h7) (fun y9 I8 k => s_ImageReader_takeTimes_52  ⟨rfl, rfl, k⟩))) (fun h10 => s_ImageReader_takeTimes_54  ⟨rfl, rfl, (k.2.2.2 h10)⟩))
def c_A_rangeCheck (c : zC) (J : zK) (v0 : Int32) (v1 : Int32) (v2 : Int32) (I : zJ) (P : zJ → Prop) (T : Nat → zJ → Prop) : Prop := wg c J 1 qA_rangeCheck [.int v0, .int v1, .int v2] I (kvu P) T
set_option maxRecDepth 100000 in
theorem t_A_rangeCheck {c : zC} {J : zK} {v0 : Int32} {v1 : Int32} {v2 : Int32} {I : zJ} {P : zJ → Prop} {T : Nat → zJ → Prop}
    (k : ((v1 ≤ v2 → ((nI 0 ≤ v1 → ((v2 ≤ v0 → P I) ∧ (¬ (v2 ≤ v0) → False))) ∧ (¬ (nI 0 ≤ v1) → False))) ∧ (¬ (v1 ≤ v2) → False))) :
    c_A_rangeCheck c J v0 v1 v2 I P T := xg_of (M := zm_A_rangeCheck) rfl (Nat.le_of_ble_eq_true rfl) (s_A_rangeCheck_0  (fun h1 => s_A_rangeCheck_46  (fun h2 => s_A_rangeCheck_59  (fun h3 => s_A_rangeCheck_73  ⟨rfl, rfl, (((k.1 h1).1 h2).1 h3)⟩) (fun h3 => ((((k.1 h1).1 h2).2 h3)).elim)) (fun h2 => (((k.1 h1).2 h2)).elim)) (fun h1 => ((k.2 h1)).elim))
def c_A_fill2 (c : zC) (J : zK) (r0 : Nat) (v1 : Int32) (v2 : Int32) (v3 : Int32) (I : zJ) (P : zJ → Prop) (T : Nat → zJ → Prop) : Prop := wg c J 2 qA_fill2 [.ref r0, .int v1, .int v2, .int v3] I (kvu P) T
def g_A_fill2_10 (c : zC) (J : zK) (r0 : Nat) (v2 : Int32) (v3 : Int32) (v4 : Int32) (I : zJ) (P : zJ → Prop) (T : Nat → zJ → Prop) : Prop := ∀ (v1 : Int32), wG c J 1 zm_A_fill2 (10, [some (.ref r0), some (.int v1), some (.int v2), some (.int v3), some (.int v4)], []) I (kvu P) T
set_option maxRecDepth 100000 in
theorem t_A_fill2_10 {c : zC} {J : zK} {r0 : Nat} {v2 : Int32} {v3 : Int32} {v4 : Int32} {m_r0 : Nat} {I : zJ} {P : zJ → Prop} {T : Nat → zJ → Prop} (p_r0 : zar c r0 m_r0)
    (k : ((v2 ≤ v4 → P I) ∧ (¬ (v2 ≤ v4) → (vp_in v4 m_r0) ∧ g_A_fill2_10 c J r0 v2 v3 (v4 + (nI 1)) (xup I r0 v4.toNatClampNeg v3) P T))) :
    g_A_fill2_10 c J r0 v2 v3 v4 I P T := fun _ => s_A_fill2_10  (fun h1 => s_A_fill2_27  ⟨rfl, rfl, (k.1 h1)⟩) (fun h1 => s_A_fill2_16 p_r0.1 p_r0.2 ((k.2 h1).1) (((k.2 h1).2 _)))
set_option maxRecDepth 100000 in
theorem t_A_fill2 {c : zC} {J : zK} {r0 : Nat} {v1 : Int32} {v2 : Int32} {v3 : Int32} {m_r0 : Nat} {I : zJ} {P : zJ → Prop} {T : Nat → zJ → Prop} (p_r0 : zar c r0 m_r0)
    (k : c_A_rangeCheck c J (nI m_r0) v1 v2 I (fun I1 => g_A_fill2_10 c J r0 v2 v3 v1 I1 P T) T) :
    c_A_fill2 c J r0 v1 v2 v3 I P T := xg_of (M := zm_A_fill2) rfl (Nat.le_of_ble_eq_true rfl) (s_A_fill2_0 p_r0.1 (w_cu (by decide) k (fun I1 k => s_A_fill2_7  ((k _)))))
def c_ImageReader_takeLengths (c : zC) (J : zK) (r1 : Nat) (r2 : Nat) (I : zJ) (P : zJ → Prop) (T : Nat → zJ → Prop) : Prop := wg c J 3 qImageReader_takeLengths [.ref 59, .ref r1, .ref r2] I (kvu P) T
def g_ImageReader_takeLengths_9 (c : zC) (J : zK) (r1 : Nat) (r2 : Nat) (v3 : Int32) (v4 : Int32) (v5 : Int32) (I : zJ) (P : zJ → Prop) (T : Nat → zJ → Prop) : Prop := ∀ (o6 : Option Value) (o7 : Option Value) (o8 : Option Value), wG c J 2 zm_ImageReader_takeLengths (9, [some (.ref 59), some (.ref r1), some (.ref r2), some (.int v3), some (.int v4), some (.int v5), o6, o7, o8], []) I (kvu P) T
def g_ImageReader_takeLengths_69 (c : zC) (J : zK) (r1 : Nat) (r2 : Nat) (v3 : Int32) (v4 : Int32) (v5 : Int32) (v7 : Int32) (t0 : Int32) (I : zJ) (P : zJ → Prop) (T : Nat → zJ → Prop) : Prop := ∀ (v6 : Int32) (o8 : Option Value), wG c J 2 zm_ImageReader_takeLengths (69, [some (.ref 59), some (.ref r1), some (.ref r2), some (.int v3), some (.int v4), some (.int v5), some (.int v6), some (.int v7), o8], [.int t0]) I (kvu P) T
set_option maxRecDepth 100000 in
theorem t_ImageReader_takeLengths_9 {c : zC} {J : zK} {r1 : Nat} {r2 : Nat} {v3 : Int32} {v4 : Int32} {v5 : Int32} {m_r2 : Nat} {I : zJ} {P : zJ → Prop} {T : Nat → zJ → Prop} (p_r1 : zbi c r1) (p_r2 : zco c r2 m_r2)
    (k : (((I r2 6) ≤ v5 → P I) ∧ (¬ ((I r2 6) ≤ v5) → (((I r2 6) ≤ v4 → P I) ∧ (¬ ((I r2 6) ≤ v4) → c_Code_hear c J 60 r1 I (fun y4 I3 => (((nI 16) ≤ y4 → ((y4 = (nI 16) → c_ImageReader_takeTimes c J r1 y4 I3 (fun y10 I9 => g_ImageReader_takeLengths_69 c J r1 r2 v3 v4 v5 v3 y10 I9 P T) T) ∧ (¬ (y4 = (nI 16)) → c_ImageReader_takeTimes c J r1 y4 I3 (fun y8 I7 => g_ImageReader_takeLengths_69 c J r1 r2 v3 v4 v5 (nI 0) y8 I7 P T) T))) ∧ (¬ ((nI 16) ≤ y4) → c_ImageReader_takeTimes c J r1 y4 I3 (fun y12 I11 => g_ImageReader_takeLengths_69 c J r1 r2 v3 v4 v5 y4 y12 I11 P T) T))) T))))) :
    g_ImageReader_takeLengths_9 c J r1 r2 v3 v4 v5 I P T := fun _ _ _ => s_ImageReader_takeLengths_9 (zco_ob p_r2) (fun h1 => s_ImageReader_takeLengths_134  ⟨rfl, rfl, (k.1 h1)⟩) (fun h1 => s_ImageReader_takeLengths_18 (zco_ob p_r2) (fun h2 => s_ImageReader_takeLengths_134  ⟨rfl, rfl, ((k.2 h1).1 h2)⟩) (fun h2 => s_ImageReader_takeLengths_27 zr_59_2 zo_60 (w_ci (by decide) ((k.2 h1).2 h2) (fun y4 I3 k => s_ImageReader_takeLengths_35  (fun h5 => s_ImageReader_takeLengths_49  (fun h6 => s_ImageReader_takeLengths_60  (w_ci (by decide) ((k.1 h5).2 h6) (fun y8 I7 k => (k _ _)))) (fun h6 => s_ImageReader_takeLengths_56  (w_ci (by decide) ((k.1 h5).1 (Classical.not_not.mp h6)) (fun y10 I9 k => (k _ _))))) (fun h5 => s_ImageReader_takeLengths_44  (w_ci (by decide) (k.2 h5) (fun y12 I11 k => (k _ _))))))))
set_option maxRecDepth 100000 in
theorem t_ImageReader_takeLengths_69 {c : zC} {J : zK} {r1 : Nat} {r2 : Nat} {v3 : Int32} {v4 : Int32} {v5 : Int32} {v7 : Int32} {t0 : Int32} {m_r2 : Nat} {I : zJ} {P : zJ → Prop} {T : Nat → zJ → Prop} (p_r1 : zbi c r1) (p_r2 : zco c r2 m_r2)
    (k : ((t0 ≤ ((I r2 6) - v4) → c_A_fill2 c J (r2 + 4) v4 (v4 + t0) v7 I (fun I2 => ((v7 ≤ nI 0 → g_ImageReader_takeLengths_9 c J r1 r2 v3 (v4 + t0) (v5 + (nI 1)) I2 P T) ∧ (¬ (v7 ≤ nI 0) → g_ImageReader_takeLengths_9 c J r1 r2 v7 (v4 + t0) (v5 + (nI 1)) I2 P T))) T) ∧ (¬ (t0 ≤ ((I r2 6) - v4)) → T 100 I))) :
    g_ImageReader_takeLengths_69 c J r1 r2 v3 v4 v5 v7 t0 I P T := fun _ _ => s_ImageReader_takeLengths_69 (zco_ob p_r2) (fun h1 => s_ImageReader_takeLengths_93 (zco_r0 p_r2) (w_cu (by decide) (k.1 h1) (fun I2 k => s_ImageReader_takeLengths_109  (fun h3 => s_ImageReader_takeLengths_126  (((k.1 h3) _ _ _))) (fun h3 => s_ImageReader_takeLengths_121  (((k.2 h3) _ _ _)))))) (fun h1 => s_ImageReader_takeLengths_83  ⟨rfl, _, rfl, rfl, (k.2 h1)⟩)
set_option maxRecDepth 100000 in
theorem t_ImageReader_takeLengths {c : zC} {J : zK} {r1 : Nat} {r2 : Nat} {m_r2 : Nat} {I : zJ} {P : zJ → Prop} {T : Nat → zJ → Prop} (p_r1 : zbi c r1) (p_r2 : zco c r2 m_r2)
    (k : g_ImageReader_takeLengths_9 c J r1 r2 (nI 8) (nI 0) (nI 0) I P T) :
    c_ImageReader_takeLengths c J r1 r2 I P T := xg_of (M := zm_ImageReader_takeLengths) rfl (Nat.le_of_ble_eq_true rfl) (s_ImageReader_takeLengths_0  ((k _ _ _)))
def c_ImageReader_takeCode (c : zC) (J : zK) (r1 : Nat) (r2 : Nat) (I : zJ) (P : zJ → Prop) (T : Nat → zJ → Prop) : Prop := wg c J 5 qImageReader_takeCode [.ref 59, .ref r1, .ref r2] I (kvu P) T
set_option maxRecDepth 100000 in
theorem t_ImageReader_takeCode {c : zC} {J : zK} {r1 : Nat} {r2 : Nat} {m_r2 : Nat} {I : zJ} {P : zJ → Prop} {T : Nat → zJ → Prop} (p_r1 : zbi c r1) (p_r2 : zco c r2 m_r2)
    (k : c_Bits_bit c J r1 I (fun y2 I1 => ((y2 = (nI 1) → c_ImageReader_takeFew c J r1 r2 I1 (fun I9 => c_Code_arrange c J r2 I9 (fun y11 I10 => ((y11 = nI 0 → T 100 I10) ∧ (¬ (y11 = nI 0) → P I10))) T) T) ∧ (¬ (y2 = (nI 1)) → c_ImageReader_takeSmall c J r1 I1 (fun I4 => c_ImageReader_takeLengths c J r1 r2 I4 (fun I5 => c_Code_arrange c J r2 I5 (fun y7 I6 => ((y7 = nI 0 → T 100 I6) ∧ (¬ (y7 = nI 0) → P I6))) T) T) T))) T) :
    c_ImageReader_takeCode c J r1 r2 I P T := xg_of (M := zm_ImageReader_takeCode) rfl (Nat.le_of_ble_eq_true rfl) (s_ImageReader_takeCode_0  (zbi_ob p_r1) (w_ci (by decide) k (fun y2 I1 k => s_ImageReader_takeCode_4  (fun h3 => s_ImageReader_takeCode_16  zo_59 (w_cu (by decide) (k.2 h3) (fun I4 k => s_ImageReader_takeCode_21  zo_59 (w_cu (by decide) k (fun I5 k => s_ImageReader_takeCode_27  (zco_ob p_r2) (w_ci (by decide) k (fun y7 I6 k => s_ImageReader_takeCode_31  (fun h8 => s_ImageReader_takeCode_44  ⟨rfl, rfl, (k.2 h8)⟩) (fun h8 => s_ImageReader_takeCode_34  ⟨rfl, _, rfl, rfl, (k.1 (Classical.not_not.mp h8))⟩)))))))) (fun h3 => s_ImageReader_takeCode_8  (w_cu (by decide) (k.1 (Classical.not_not.mp h3)) (fun I9 k => s_ImageReader_takeCode_13  (zco_ob p_r2) (w_ci (by decide) k (fun y11 I10 k => s_ImageReader_takeCode_31  (fun h12 => s_ImageReader_takeCode_44  ⟨rfl, rfl, (k.2 h12)⟩) (fun h12 => s_ImageReader_takeCode_34  ⟨rfl, _, rfl, rfl, (k.1 (Classical.not_not.mp h12))⟩)))))))))
def c_Codes_leastNumber (c : zC) (J : zK) (v0 : Int32) (I : zJ) (P : Int32 → zJ → Prop) (T : Nat → zJ → Prop) : Prop := wg c J 1 qCodes_leastNumber [.int v0] I (kvi P) T
set_option maxRecDepth 100000 in
theorem t_Codes_leastNumber {c : zC} {J : zK} {v0 : Int32} {I : zJ} {P : Int32 → zJ → Prop} {T : Nat → zJ → Prop}
    (k : (((nI 4) ≤ v0 → P ((((nI 2) + (v0 - v0 / (nI 2) * (nI 2))) <<< (((v0 / (nI 2)) - (nI 1)) &&& 31)) + (nI 1)) I) ∧ (¬ ((nI 4) ≤ v0) → P (v0 + (nI 1)) I))) :
    c_Codes_leastNumber c J v0 I P T := xg_of (M := zm_Codes_leastNumber) rfl (Nat.le_of_ble_eq_true rfl) (s_Codes_leastNumber_0  (fun h1 => s_Codes_leastNumber_11  ⟨rfl, rfl, (k.1 h1)⟩) (fun h1 => s_Codes_leastNumber_5  ⟨rfl, rfl, (k.2 h1)⟩))
def f_Codes_leastNumber (v0 : Int32) (I : zJ) : Int32 := if (nI 4) ≤ v0 then ((((nI 2) + (v0 - v0 / (nI 2) * (nI 2))) <<< (((v0 / (nI 2)) - (nI 1)) &&& 31)) + (nI 1)) else (v0 + (nI 1))
theorem x_Codes_leastNumber {c : zC} {J : zK} {v0 : Int32} {I : zJ} {T : Nat → zJ → Prop} : c_Codes_leastNumber c J v0 I (fun v I1 => v = (f_Codes_leastNumber v0 I) ∧ I1 = I) T := by
  refine t_Codes_leastNumber ?_
  refine ⟨fun h0 => ?_, fun h0 => ?_⟩
  · exact ⟨by unfold f_Codes_leastNumber; rw [if_pos h0], rfl⟩
  · exact ⟨by unfold f_Codes_leastNumber; rw [if_neg h0], rfl⟩
def c_Codes_bitsBehind (c : zC) (J : zK) (v0 : Int32) (I : zJ) (P : Int32 → zJ → Prop) (T : Nat → zJ → Prop) : Prop := wg c J 1 qCodes_bitsBehind [.int v0] I (kvi P) T
set_option maxRecDepth 100000 in
theorem t_Codes_bitsBehind {c : zC} {J : zK} {v0 : Int32} {I : zJ} {P : Int32 → zJ → Prop} {T : Nat → zJ → Prop}
    (k : (((nI 4) ≤ v0 → P ((v0 / (nI 2)) - (nI 1)) I) ∧ (¬ ((nI 4) ≤ v0) → P (nI 0) I))) :
    c_Codes_bitsBehind c J v0 I P T := xg_of (M := zm_Codes_bitsBehind) rfl (Nat.le_of_ble_eq_true rfl) (s_Codes_bitsBehind_0  (fun h1 => s_Codes_bitsBehind_9  ⟨rfl, rfl, (k.1 h1)⟩) (fun h1 => s_Codes_bitsBehind_5  ⟨rfl, rfl, (k.2 h1)⟩))
def f_Codes_bitsBehind (v0 : Int32) (I : zJ) : Int32 := if (nI 4) ≤ v0 then ((v0 / (nI 2)) - (nI 1)) else (nI 0)
theorem x_Codes_bitsBehind {c : zC} {J : zK} {v0 : Int32} {I : zJ} {T : Nat → zJ → Prop} : c_Codes_bitsBehind c J v0 I (fun v I1 => v = (f_Codes_bitsBehind v0 I) ∧ I1 = I) T := by
  refine t_Codes_bitsBehind ?_
  refine ⟨fun h0 => ?_, fun h0 => ?_⟩
  · exact ⟨by unfold f_Codes_bitsBehind; rw [if_pos h0], rfl⟩
  · exact ⟨by unfold f_Codes_bitsBehind; rw [if_neg h0], rfl⟩
def c_ImageReader_takeNumber (c : zC) (J : zK) (r0 : Nat) (v1 : Int32) (I : zJ) (P : Int32 → zJ → Prop) (T : Nat → zJ → Prop) : Prop := wg c J 2 qImageReader_takeNumber [.ref r0, .int v1] I (kvi P) T
set_option maxRecDepth 100000 in
theorem t_ImageReader_takeNumber {c : zC} {J : zK} {r0 : Nat} {v1 : Int32} {I : zJ} {P : Int32 → zJ → Prop} {T : Nat → zJ → Prop} (p_r0 : zbi c r0)
    (k : c_Bits_number c J r0 (f_Codes_bitsBehind v1 I) I (fun y2 I1 => P ((f_Codes_leastNumber v1 I) + y2) I1) T) :
    c_ImageReader_takeNumber c J r0 v1 I P T := xg_of (M := zm_ImageReader_takeNumber) rfl (Nat.le_of_ble_eq_true rfl) (s_ImageReader_takeNumber_0  (w_ei (by decide) (x_Codes_leastNumber) (s_ImageReader_takeNumber_4  (w_ei (by decide) (x_Codes_bitsBehind) (s_ImageReader_takeNumber_9  (zbi_ob p_r0) (w_ci (by decide) k (fun y2 I1 k => s_ImageReader_takeNumber_12  ⟨rfl, rfl, k⟩)))))))
def c_ImageReader_distanceOf (c : zC) (J : zK) (v0 : Int32) (v1 : Int32) (I : zJ) (P : Int32 → zJ → Prop) (T : Nat → zJ → Prop) : Prop := wg c J 1 qImageReader_distanceOf [.int v0, .int v1] I (kvi P) T
set_option maxRecDepth 100000 in
theorem t_ImageReader_distanceOf {c : zC} {J : zK} {v0 : Int32} {v1 : Int32} {I : zJ} {P : Int32 → zJ → Prop} {T : Nat → zJ → Prop}
    (k : ((v0 ≤ (nI 8) → (vp_in (v0 - (nI 1)) 8) ∧ (vp_in (v0 - (nI 1)) 8) ∧ P (xmax (nI 1) ((I 2 (v0 - (nI 1)).toNatClampNeg) + ((I 3 (v0 - (nI 1)).toNatClampNeg) * v1))) I) ∧ (¬ (v0 ≤ (nI 8)) → P (v0 - (nI 8)) I))) :
    c_ImageReader_distanceOf c J v0 v1 I P T := xg_of (M := zm_ImageReader_distanceOf) rfl (Nat.le_of_ble_eq_true rfl) (s_ImageReader_distanceOf_0  (fun h1 => s_ImageReader_distanceOf_13 za_2 ((k.1 h1).1) za_3 ((k.1 h1).2.1) ⟨rfl, rfl, (k.1 h1).2.2⟩) (fun h1 => s_ImageReader_distanceOf_6  ⟨rfl, rfl, (k.2 h1)⟩))
def c_Cache_placeOf (c : zC) (J : zK) (v1 : Int32) (I : zJ) (P : Int32 → zJ → Prop) (T : Nat → zJ → Prop) : Prop := wg c J 1 qCache_placeOf [.ref 49, .int v1] I (kvi P) T
set_option maxRecDepth 100000 in
theorem t_Cache_placeOf {c : zC} {J : zK} {v1 : Int32} {I : zJ} {P : Int32 → zJ → Prop} {T : Nat → zJ → Prop}
    (k : (((I 49 1) = nI 0 → P (nI 0) I) ∧ (¬ ((I 49 1) = nI 0) → P (xus ((nI 506832829) * v1) ((nI 32) - (I 49 1))) I))) :
    c_Cache_placeOf c J v1 I P T := xg_of (M := zm_Cache_placeOf) rfl (Nat.le_of_ble_eq_true rfl) (s_Cache_placeOf_0 zo_49 (fun h1 => s_Cache_placeOf_11 zo_49 ⟨rfl, rfl, (k.2 h1)⟩) (fun h1 => s_Cache_placeOf_7  ⟨rfl, rfl, (k.1 (Classical.not_not.mp h1))⟩))
def f_Cache_placeOf (v1 : Int32) (I : zJ) : Int32 := if (I 49 1) = nI 0 then (nI 0) else (xus ((nI 506832829) * v1) ((nI 32) - (I 49 1)))
theorem x_Cache_placeOf {c : zC} {J : zK} {v1 : Int32} {I : zJ} {T : Nat → zJ → Prop} : c_Cache_placeOf c J v1 I (fun v I1 => v = (f_Cache_placeOf v1 I) ∧ I1 = I) T := by
  refine t_Cache_placeOf ?_
  refine ⟨fun h0 => ?_, fun h0 => ?_⟩
  · exact ⟨by unfold f_Cache_placeOf; rw [if_pos h0], rfl⟩
  · exact ⟨by unfold f_Cache_placeOf; rw [if_neg h0], rfl⟩
def c_Cache_keep (c : zC) (J : zK) (v1 : Int32) (I : zJ) (P : zJ → Prop) (T : Nat → zJ → Prop) : Prop := wg c J 2 qCache_keep [.ref 49, .int v1] I (kvu P) T
set_option maxRecDepth 100000 in
theorem t_Cache_keep {c : zC} {J : zK} {v1 : Int32} {I : zJ} {P : zJ → Prop} {T : Nat → zJ → Prop}
    (k : (vp_in (f_Cache_placeOf v1 I) 16) ∧ P (xup I 50 (f_Cache_placeOf v1 I).toNatClampNeg v1)) :
    c_Cache_keep c J v1 I P T := xg_of (M := zm_Cache_keep) rfl (Nat.le_of_ble_eq_true rfl) (s_Cache_keep_0 zr_49_0 (w_ei (by decide) (x_Cache_placeOf) (s_Cache_keep_9 za_50 (by decide) (k.1) ⟨rfl, rfl, k.2⟩)))
theorem x_Cache_keep {c : zC} {J : zK} {v1 : Int32} {I : zJ} {T : Nat → zJ → Prop} (b0 : vp_in (f_Cache_placeOf v1 I) 16) : c_Cache_keep c J v1 I (fun I1 => I1 = xup I 50 (f_Cache_placeOf v1 I).toNatClampNeg v1) T := by
  refine t_Cache_keep ?_
  repeat (first | exact rfl | (refine ⟨?_, ?_⟩; assumption) | (intro _ h; subst h))
def c_ImageReader_takeCopy (c : zC) (J : zK) (r1 : Nat) (v2 : Int32) (r3 : Nat) (v4 : Int32) (I : zJ) (P : Int32 → zJ → Prop) (T : Nat → zJ → Prop) : Prop := wg c J 3 qImageReader_takeCopy [.ref 59, .ref r1, .int v2, .ref r3, .int v4] I (kvi P) T
def g_ImageReader_takeCopy_64 (c : zC) (J : zK) (r3 : Nat) (v4 : Int32) (v5 : Int32) (v6 : Int32) (v7 : Int32) (I : zJ) (P : Int32 → zJ → Prop) (T : Nat → zJ → Prop) : Prop := ∀ (r1 : Nat) (v2 : Int32), wG c J 2 zm_ImageReader_takeCopy (64, [some (.ref 59), some (.ref r1), some (.int v2), some (.ref r3), some (.int v4), some (.int v5), some (.int v6), some (.int v7)], []) I (kvi P) T
set_option maxRecDepth 100000 in
theorem t_ImageReader_takeCopy_64 {c : zC} {J : zK} {r3 : Nat} {v4 : Int32} {v5 : Int32} {v6 : Int32} {v7 : Int32} {m_r3 : Nat} {I : zJ} {P : Int32 → zJ → Prop} {T : Nat → zJ → Prop} (p_r3 : zpl c r3 m_r3)
    (k : (((v4 + v5) ≤ v7 → P v5 (xup I 59 3 ((I 59 3) + (nI 1)))) ∧ (¬ ((v4 + v5) ≤ v7) → (vp_in (v7 - v6) m_r3) ∧ (vp_in v7 m_r3) ∧ (vp_in (f_Cache_placeOf ((xup I (r3 + 1) v7.toNatClampNeg (I (r3 + 1) (v7 - v6).toNatClampNeg)) (r3 + 1) v7.toNatClampNeg) (xup I (r3 + 1) v7.toNatClampNeg (I (r3 + 1) (v7 - v6).toNatClampNeg))) 16) ∧ ∀ I2 : zJ, I2 = xup (xup I (r3 + 1) v7.toNatClampNeg (I (r3 + 1) (v7 - v6).toNatClampNeg)) 50 (f_Cache_placeOf ((xup I (r3 + 1) v7.toNatClampNeg (I (r3 + 1) (v7 - v6).toNatClampNeg)) (r3 + 1) v7.toNatClampNeg) (xup I (r3 + 1) v7.toNatClampNeg (I (r3 + 1) (v7 - v6).toNatClampNeg))).toNatClampNeg ((xup I (r3 + 1) v7.toNatClampNeg (I (r3 + 1) (v7 - v6).toNatClampNeg)) (r3 + 1) v7.toNatClampNeg) → g_ImageReader_takeCopy_64 c J r3 v4 v5 v6 (v7 + (nI 1)) I2 P T))) :
    g_ImageReader_takeCopy_64 c J r3 v4 v5 v6 v7 I P T := fun _ _ => s_ImageReader_takeCopy_64  (fun h1 => s_ImageReader_takeCopy_111 zo_59 ⟨rfl, rfl, (k.1 h1)⟩) (fun h1 => s_ImageReader_takeCopy_74 (zpl_r0 p_r3) (zpl_a1 p_r3) ((k.2 h1).1) (zpl_g1 p_r3) ((k.2 h1).2.1) zr_59_1 zo_49 (w_eu (by decide) (x_Cache_keep (k.2 h1).2.2.1) (s_ImageReader_takeCopy_105  ((((k.2 h1).2.2.2 _ rfl) _ _)))))
set_option maxRecDepth 100000 in
theorem t_ImageReader_takeCopy {c : zC} {J : zK} {r1 : Nat} {v2 : Int32} {r3 : Nat} {v4 : Int32} {m_r3 : Nat} {I : zJ} {P : Int32 → zJ → Prop} {T : Nat → zJ → Prop} (p_r1 : zbi c r1) (p_r3 : zpl c r3 m_r3)
    (k : c_ImageReader_takeNumber c J r1 v2 I (fun y2 I1 => c_Code_hear c J 42 r1 I1 (fun y4 I3 => c_ImageReader_takeNumber c J r1 y4 I3 (fun y6 I5 => c_ImageReader_distanceOf c J y6 (I5 r3 1) I5 (fun y8 I7 => ((v4 < y8 → T 100 I7) ∧ (¬ (v4 < y8) → ((y2 ≤ (((I7 r3 1) * (I7 r3 2)) - v4) → g_ImageReader_takeCopy_64 c J r3 v4 y2 y8 v4 I7 P T) ∧ (¬ (y2 ≤ (((I7 r3 1) * (I7 r3 2)) - v4)) → T 100 I7))))) T) T) T) T) :
    c_ImageReader_takeCopy c J r1 v2 r3 v4 I P T := xg_of (M := zm_ImageReader_takeCopy) rfl (Nat.le_of_ble_eq_true rfl) (s_ImageReader_takeCopy_0  (w_ci (by decide) k (fun y2 I1 k => s_ImageReader_takeCopy_5 zr_59_0 zr_13_4 zo_42 (w_ci (by decide) k (fun y4 I3 k => s_ImageReader_takeCopy_19  (w_ci (by decide) k (fun y6 I5 k => s_ImageReader_takeCopy_22 (zpl_ob p_r3) (w_ci (by decide) k (fun y8 I7 k => s_ImageReader_takeCopy_29  (fun h9 => s_ImageReader_takeCopy_50  ⟨rfl, _, rfl, rfl, (k.1 h9)⟩) (fun h9 => s_ImageReader_takeCopy_38  (zpl_ob p_r3) (w_ei (by decide) (x_Plane_count p_r3) (s_ImageReader_takeCopy_44  (fun h10 => s_ImageReader_takeCopy_60  ((((k.2 h9).1 h10) _ _))) (fun h10 => s_ImageReader_takeCopy_50  ⟨rfl, _, rfl, rfl, ((k.2 h9).2 h10)⟩)))))))))))))
def c_ImageReader_takePixels (c : zC) (J : zK) (r1 : Nat) (r2 : Nat) (v3 : Int32) (I : zJ) (P : Int32 → zJ → Prop) (T : Nat → zJ → Prop) : Prop := wg c J 4 qImageReader_takePixels [.ref 59, .ref r1, .ref r2, .int v3] I (kvi P) T
def g_ImageReader_takePixels_43 (c : zC) (J : zK) (r1 : Nat) (r2 : Nat) (v3 : Int32) (v4 : Int32) (I : zJ) (P : Int32 → zJ → Prop) (T : Nat → zJ → Prop) : Prop := wG c J 3 zm_ImageReader_takePixels (43, [some (.ref 59), some (.ref r1), some (.ref r2), some (.int v3), some (.int v4), none, none, none], []) I (kvi P) T
set_option maxRecDepth 100000 in
theorem t_ImageReader_takePixels_43 {c : zC} {J : zK} {r1 : Nat} {r2 : Nat} {v3 : Int32} {v4 : Int32} {m_r2 : Nat} {I : zJ} {P : Int32 → zJ → Prop} {T : Nat → zJ → Prop} (p_r1 : zbi c r1) (p_r2 : zpl c r2 m_r2)
    (k : (((nI 256) ≤ v4 → (vp_in (v4 - (nI 280)) 16) ∧ (vp_in v3 m_r2) ∧ (vp_in (f_Cache_placeOf (I 50 (v4 - (nI 280)).toNatClampNeg) (xup (xup I 59 4 ((I 59 4) + (nI 1))) (r2 + 1) v3.toNatClampNeg (I 50 (v4 - (nI 280)).toNatClampNeg))) 16) ∧ ∀ I2 : zJ, I2 = xup (xup (xup I 59 4 ((I 59 4) + (nI 1))) (r2 + 1) v3.toNatClampNeg (I 50 (v4 - (nI 280)).toNatClampNeg)) 50 (f_Cache_placeOf (I 50 (v4 - (nI 280)).toNatClampNeg) (xup (xup I 59 4 ((I 59 4) + (nI 1))) (r2 + 1) v3.toNatClampNeg (I 50 (v4 - (nI 280)).toNatClampNeg))).toNatClampNeg (I 50 (v4 - (nI 280)).toNatClampNeg) → P (nI 1) I2) ∧ (¬ ((nI 256) ≤ v4) → c_Code_hear c J 21 r1 I (fun y4 I3 => c_Code_hear c J 28 r1 I3 (fun y6 I5 => c_Code_hear c J 35 r1 I5 (fun y8 I7 => (vp_in v3 m_r2) ∧ (vp_in (f_Cache_placeOf ((((y8 <<< ((nI 24) &&& 31)) ||| (y4 <<< ((nI 16) &&& 31))) ||| (v4 <<< ((nI 8) &&& 31))) ||| y6) (xup I7 (r2 + 1) v3.toNatClampNeg ((((y8 <<< ((nI 24) &&& 31)) ||| (y4 <<< ((nI 16) &&& 31))) ||| (v4 <<< ((nI 8) &&& 31))) ||| y6))) 16) ∧ ∀ I9 : zJ, I9 = xup (xup I7 (r2 + 1) v3.toNatClampNeg ((((y8 <<< ((nI 24) &&& 31)) ||| (y4 <<< ((nI 16) &&& 31))) ||| (v4 <<< ((nI 8) &&& 31))) ||| y6)) 50 (f_Cache_placeOf ((((y8 <<< ((nI 24) &&& 31)) ||| (y4 <<< ((nI 16) &&& 31))) ||| (v4 <<< ((nI 8) &&& 31))) ||| y6) (xup I7 (r2 + 1) v3.toNatClampNeg ((((y8 <<< ((nI 24) &&& 31)) ||| (y4 <<< ((nI 16) &&& 31))) ||| (v4 <<< ((nI 8) &&& 31))) ||| y6))).toNatClampNeg ((((y8 <<< ((nI 24) &&& 31)) ||| (y4 <<< ((nI 16) &&& 31))) ||| (v4 <<< ((nI 8) &&& 31))) ||| y6) → P (nI 1) I9) T) T) T))) :
    g_ImageReader_takePixels_43 c J r1 r2 v3 v4 I P T := s_ImageReader_takePixels_43  (fun h1 => s_ImageReader_takePixels_111 zr_59_1 zr_49_0 za_50 ((k.1 h1).1) (zpl_r0 p_r2) (zpl_a1 p_r2) (zpl_g1 p_r2) ((k.1 h1).2.1) (w_eu (by decide) (x_Cache_keep (k.1 h1).2.2.1) (s_ImageReader_takePixels_154  ⟨rfl, rfl, ((k.1 h1).2.2.2 _ rfl)⟩))) (fun h1 => s_ImageReader_takePixels_51 zr_59_0 zr_13_1 zo_21 (w_ci (by decide) (k.2 h1) (fun y4 I3 k => s_ImageReader_takePixels_62 zr_59_0 zr_13_2 zo_28 (w_ci (by decide) k (fun y6 I5 k => s_ImageReader_takePixels_75 zr_59_0 zr_13_3 zo_35 (w_ci (by decide) k (fun y8 I7 k => s_ImageReader_takePixels_88 (zpl_r0 p_r2) (zpl_a1 p_r2) (zpl_g1 p_r2) (k.1) zr_59_1 zo_49 (w_eu (by decide) (x_Cache_keep k.2.1) (s_ImageReader_takePixels_154  ⟨rfl, rfl, (k.2.2 _ rfl)⟩)))))))))
set_option maxRecDepth 100000 in
theorem t_ImageReader_takePixels {c : zC} {J : zK} {r1 : Nat} {r2 : Nat} {v3 : Int32} {m_r2 : Nat} {I : zJ} {P : Int32 → zJ → Prop} {T : Nat → zJ → Prop} (p_r1 : zbi c r1) (p_r2 : zpl c r2 m_r2)
    (k : c_Code_hear c J 14 r1 I (fun y2 I1 => ((y2 < (nI 256) → g_ImageReader_takePixels_43 c J r1 r2 v3 y2 I1 P T) ∧ (¬ (y2 < (nI 256)) → (((nI 280) ≤ y2 → g_ImageReader_takePixels_43 c J r1 r2 v3 y2 I1 P T) ∧ (¬ ((nI 280) ≤ y2) → c_ImageReader_takeCopy c J r1 (y2 - (nI 256)) r2 v3 I1 (fun y6 I5 => P y6 I5) T))))) T) :
    c_ImageReader_takePixels c J r1 r2 v3 I P T := xg_of (M := zm_ImageReader_takePixels) rfl (Nat.le_of_ble_eq_true rfl) (s_ImageReader_takePixels_0 zr_59_0 zr_13_0 zo_14 (w_ci (by decide) k (fun y2 I1 k => s_ImageReader_takePixels_11  (fun h3 => (k.1 h3)) (fun h3 => s_ImageReader_takePixels_21  (fun h4 => ((k.2 h3).1 h4)) (fun h4 => s_ImageReader_takePixels_29  zo_59 (w_ci (by decide) ((k.2 h3).2 h4) (fun y6 I5 k => s_ImageReader_takePixels_42  ⟨rfl, rfl, k⟩)))))))
def c_ImageReader_take (c : zC) (J : zK) (r1 : Nat) (r2 : Nat) (I : zJ) (P : zJ → Prop) (T : Nat → zJ → Prop) : Prop := wg c J 6 qImageReader_take [.ref 59, .ref r1, .ref r2] I (kvu P) T
def g_ImageReader_take_36 (c : zC) (J : zK) (r1 : Nat) (r2 : Nat) (I : zJ) (P : zJ → Prop) (T : Nat → zJ → Prop) : Prop := wG c J 5 zm_ImageReader_take (36, [some (.ref 59), some (.ref r1), some (.ref r2), none, none, none], []) I (kvu P) T
def g_ImageReader_take_52 (c : zC) (J : zK) (r1 : Nat) (r2 : Nat) (v3 : Int32) (I : zJ) (P : zJ → Prop) (T : Nat → zJ → Prop) : Prop := wG c J 5 zm_ImageReader_take (52, [some (.ref 59), some (.ref r1), some (.ref r2), some (.int v3), none, none], []) I (kvu P) T
def g_ImageReader_take_87 (c : zC) (J : zK) (r1 : Nat) (r2 : Nat) (v3 : Int32) (v4 : Int32) (v5 : Int32) (I : zJ) (P : zJ → Prop) (T : Nat → zJ → Prop) : Prop := wG c J 5 zm_ImageReader_take (87, [some (.ref 59), some (.ref r1), some (.ref r2), some (.int v3), some (.int v4), some (.int v5)], []) I (kvu P) T
set_option maxRecDepth 100000 in
theorem t_ImageReader_take_36 {c : zC} {J : zK} {r1 : Nat} {r2 : Nat} {m_r2 : Nat} {I : zJ} {P : zJ → Prop} {T : Nat → zJ → Prop} (p_r1 : zbi c r1) (p_r2 : zpl c r2 m_r2)
    (k : c_Codes_clear c J (f_Cache_colourCount I) I (fun I1 => g_ImageReader_take_52 c J r1 r2 (nI 0) I1 P T) T) :
    g_ImageReader_take_36 c J r1 r2 I P T := s_ImageReader_take_36 zr_59_0 zr_59_1 zo_49 (w_ei (by decide) (x_Cache_colourCount) (s_ImageReader_take_47  zo_13 (w_cu (by decide) k (fun I1 k => s_ImageReader_take_50  (k)))))
set_option maxRecDepth 100000 in
theorem t_ImageReader_take_52 {c : zC} {J : zK} {r1 : Nat} {r2 : Nat} {v3 : Int32} {m_r2 : Nat} {I : zJ} {P : zJ → Prop} {T : Nat → zJ → Prop} (p_r1 : zbi c r1) (p_r2 : zpl c r2 m_r2)
    (k : (((nI 5) ≤ v3 → g_ImageReader_take_87 c J r1 r2 ((I r2 1) * (I r2 2)) (nI 0) (nI 0) I P T) ∧ (¬ ((nI 5) ≤ v3) → c_Codes_of c J v3 I (fun y3 I2 => ∃ m_y3, zco c y3 m_y3 ∧ c_ImageReader_takeCode c J r1 y3 I2 (fun I4 => g_ImageReader_take_52 c J r1 r2 (v3 + (nI 1)) I4 P T) T) T))) :
    g_ImageReader_take_52 c J r1 r2 v3 I P T := s_ImageReader_take_52  (fun h1 => s_ImageReader_take_76  (zpl_ob p_r2) (w_ei (by decide) (x_Plane_count p_r2) (s_ImageReader_take_80  ((k.1 h1))))) (fun h1 => s_ImageReader_take_57 zr_59_0 zo_13 (w_cr (by decide) (k.2 h1) (fun y3 I2 k => match k with | ⟨m_y3, p_y3, k⟩ => s_ImageReader_take_67  zo_59 (w_cu (by decide) k (fun I4 k => s_ImageReader_take_70  (k))))))
set_option maxRecDepth 100000 in
theorem t_ImageReader_take_87 {c : zC} {J : zK} {r1 : Nat} {r2 : Nat} {v3 : Int32} {v4 : Int32} {v5 : Int32} {m_r2 : Nat} {I : zJ} {P : zJ → Prop} {T : Nat → zJ → Prop} (p_r1 : zbi c r1) (p_r2 : zpl c r2 m_r2)
    (k : ((v3 ≤ v5 → P I) ∧ (¬ (v3 ≤ v5) → ((v3 ≤ v4 → P I) ∧ (¬ (v3 ≤ v4) → c_ImageReader_takePixels c J r1 r2 v4 I (fun y4 I3 => g_ImageReader_take_87 c J r1 r2 v3 (v4 + y4) (v5 + (nI 1)) I3 P T) T))))) :
    g_ImageReader_take_87 c J r1 r2 v3 v4 v5 I P T := s_ImageReader_take_87  (fun h1 => s_ImageReader_take_118  ⟨rfl, rfl, (k.1 h1)⟩) (fun h1 => s_ImageReader_take_93  (fun h2 => s_ImageReader_take_118  ⟨rfl, rfl, ((k.2 h1).1 h2)⟩) (fun h2 => s_ImageReader_take_99  zo_59 (w_ci (by decide) ((k.2 h1).2 h2) (fun y4 I3 k => s_ImageReader_take_109  (k)))))
set_option maxRecDepth 100000 in
theorem t_ImageReader_take {c : zC} {J : zK} {r1 : Nat} {r2 : Nat} {m_r2 : Nat} {I : zJ} {P : zJ → Prop} {T : Nat → zJ → Prop} (p_r1 : zbi c r1) (p_r2 : zpl c r2 m_r2)
    (k : c_Bits_bit c J r1 (xup (xup I 59 3 (nI 0)) 59 4 (nI 0)) (fun y2 I1 => ((y2 = (nI 1) → c_Bits_number c J r1 (nI 2) I1 (fun y6 I5 => c_Cache_open c J (y6 + (nI 1)) I5 (fun I7 => g_ImageReader_take_36 c J r1 r2 I7 P T) T) T) ∧ (¬ (y2 = (nI 1)) → c_Cache_open c J (nI 0) I1 (fun I4 => g_ImageReader_take_36 c J r1 r2 I4 P T) T))) T) :
    c_ImageReader_take c J r1 r2 I P T := xg_of (M := zm_ImageReader_take) rfl (Nat.le_of_ble_eq_true rfl) (s_ImageReader_take_0 zo_59 zr_59_1 (zbi_ob p_r1) (w_ci (by decide) k (fun y2 I1 k => s_ImageReader_take_18  (fun h3 => s_ImageReader_take_32  zo_49 (w_cu (by decide) (k.2 h3) (fun I4 k => k))) (fun h3 => s_ImageReader_take_22  (zbi_ob p_r1) (w_ci (by decide) (k.1 (Classical.not_not.mp h3)) (fun y6 I5 k => s_ImageReader_take_27  zo_49 (w_cu (by decide) k (fun I7 k => k))))))))
def c_L_part (c : zC) (J : zK) (v0 : Int32) (v1 : Int32) (I : zJ) (P : Int32 → zJ → Prop) (T : Nat → zJ → Prop) : Prop := wg c J 1 qL_part [.int v0, .int v1] I (kvi P) T
set_option maxRecDepth 100000 in
theorem t_L_part {c : zC} {J : zK} {v0 : Int32} {v1 : Int32} {I : zJ} {P : Int32 → zJ → Prop} {T : Nat → zJ → Prop}
    (k : P ((xus v0 v1) &&& (nI 255)) I) :
    c_L_part c J v0 v1 I P T := xg_of (M := zm_L_part) rfl (Nat.le_of_ble_eq_true rfl) (s_L_part_0  ⟨rfl, rfl, k⟩)
theorem x_L_part {c : zC} {J : zK} {v0 : Int32} {v1 : Int32} {I : zJ} {T : Nat → zJ → Prop} : c_L_part c J v0 v1 I (fun v I1 => v = (xus v0 v1) &&& (nI 255) ∧ I1 = I) T := by
  refine t_L_part ?_
  exact ⟨rfl, rfl⟩
def c_L_sum (c : zC) (J : zK) (v0 : Int32) (v1 : Int32) (I : zJ) (P : Int32 → zJ → Prop) (T : Nat → zJ → Prop) : Prop := wg c J 2 qL_sum [.int v0, .int v1] I (kvi P) T
def g_L_sum_4 (c : zC) (J : zK) (v0 : Int32) (v1 : Int32) (v2 : Int32) (v3 : Int32) (I : zJ) (P : Int32 → zJ → Prop) (T : Nat → zJ → Prop) : Prop := wG c J 1 zm_L_sum (4, [some (.int v0), some (.int v1), some (.int v2), some (.int v3)], []) I (kvi P) T
set_option maxRecDepth 100000 in
theorem t_L_sum_4 {c : zC} {J : zK} {v0 : Int32} {v1 : Int32} {v2 : Int32} {v3 : Int32} {I : zJ} {P : Int32 → zJ → Prop} {T : Nat → zJ → Prop}
    (k : (((nI 32) ≤ v3 → P v2 I) ∧ (¬ ((nI 32) ≤ v3) → g_L_sum_4 c J v0 v1 (v2 ||| (((((xus v0 v3) &&& (nI 255)) + ((xus v1 v3) &&& (nI 255))) &&& (nI 255)) <<< (v3 &&& 31))) (v3 + (nI 8)) I P T))) :
    g_L_sum_4 c J v0 v1 v2 v3 I P T := s_L_sum_4  (fun h1 => s_L_sum_36  ⟨rfl, rfl, (k.1 h1)⟩) (fun h1 => s_L_sum_10  (w_ei (by decide) (x_L_part) (s_L_sum_16  (w_ei (by decide) (x_L_part) (s_L_sum_21  ((k.2 h1)))))))
set_option maxRecDepth 100000 in
theorem t_L_sum {c : zC} {J : zK} {v0 : Int32} {v1 : Int32} {I : zJ} {P : Int32 → zJ → Prop} {T : Nat → zJ → Prop}
    (k : g_L_sum_4 c J v0 v1 (nI 0) (nI 0) I P T) :
    c_L_sum c J v0 v1 I P T := xg_of (M := zm_L_sum) rfl (Nat.le_of_ble_eq_true rfl) (s_L_sum_0  (k))
def c_Transforms_sumUpPalette (c : zC) (J : zK) (I : zJ) (P : zJ → Prop) (T : Nat → zJ → Prop) : Prop := wg c J 3 qTransforms_sumUpPalette [.ref 51] I (kvu P) T
def g_Transforms_sumUpPalette_2 (c : zC) (J : zK) (v1 : Int32) (I : zJ) (P : zJ → Prop) (T : Nat → zJ → Prop) : Prop := wG c J 2 zm_Transforms_sumUpPalette (2, [some (.ref 51), some (.int v1)], []) I (kvu P) T
set_option maxRecDepth 100000 in
theorem t_Transforms_sumUpPalette_2 {c : zC} {J : zK} {v1 : Int32} {I : zJ} {P : zJ → Prop} {T : Nat → zJ → Prop}
    (k : (((I 57 1) ≤ v1 → P I) ∧ (¬ ((I 57 1) ≤ v1) → (vp_in v1 16) ∧ (vp_in (v1 - (nI 1)) 16) ∧ c_L_sum c J (I 58 v1.toNatClampNeg) (I 58 (v1 - (nI 1)).toNatClampNeg) I (fun y3 I2 => (vp_in v1 16) ∧ g_Transforms_sumUpPalette_2 c J (v1 + (nI 1)) (xup I2 58 v1.toNatClampNeg y3) P T) T))) :
    g_Transforms_sumUpPalette_2 c J v1 I P T := s_Transforms_sumUpPalette_2 zr_51_3 zo_57 (fun h1 => s_Transforms_sumUpPalette_51  ⟨rfl, rfl, (k.1 h1)⟩) (fun h1 => s_Transforms_sumUpPalette_13 zr_51_3 zr_57_0 za_58 ((k.2 h1).1) ((k.2 h1).2.1) (w_ci (by decide) (k.2 h1).2.2 (fun y3 I2 k => s_Transforms_sumUpPalette_44 za_58 (by decide) (k.1) (k.2))))
set_option maxRecDepth 100000 in
theorem t_Transforms_sumUpPalette {c : zC} {J : zK} {I : zJ} {P : zJ → Prop} {T : Nat → zJ → Prop}
    (k : g_Transforms_sumUpPalette_2 c J (nI 1) I P T) :
    c_Transforms_sumUpPalette c J I P T := xg_of (M := zm_Transforms_sumUpPalette) rfl (Nat.le_of_ble_eq_true rfl) (s_Transforms_sumUpPalette_0  (k))
def c_Colours_packing (c : zC) (J : zK) (v0 : Int32) (I : zJ) (P : Int32 → zJ → Prop) (T : Nat → zJ → Prop) : Prop := wg c J 1 qColours_packing [.int v0] I (kvi P) T
set_option maxRecDepth 100000 in
theorem t_Colours_packing {c : zC} {J : zK} {v0 : Int32} {I : zJ} {P : Int32 → zJ → Prop} {T : Nat → zJ → Prop}
    (k : (((nI 2) < v0 → (((nI 4) < v0 → P (nI 1) I) ∧ (¬ ((nI 4) < v0) → P (nI 2) I))) ∧ (¬ ((nI 2) < v0) → P (nI 3) I))) :
    c_Colours_packing c J v0 I P T := xg_of (M := zm_Colours_packing) rfl (Nat.le_of_ble_eq_true rfl) (s_Colours_packing_0  (fun h1 => s_Colours_packing_9  (fun h2 => s_Colours_packing_18  ⟨rfl, rfl, ((k.1 h1).1 h2)⟩) (fun h2 => s_Colours_packing_14  ⟨rfl, rfl, ((k.1 h1).2 h2)⟩)) (fun h1 => s_Colours_packing_5  ⟨rfl, rfl, (k.2 h1)⟩))
def f_Colours_packing (v0 : Int32) (I : zJ) : Int32 := if (nI 2) < v0 then (if (nI 4) < v0 then (nI 1) else (nI 2)) else (nI 3)
theorem x_Colours_packing {c : zC} {J : zK} {v0 : Int32} {I : zJ} {T : Nat → zJ → Prop} : c_Colours_packing c J v0 I (fun v I1 => v = (f_Colours_packing v0 I) ∧ I1 = I) T := by
  refine t_Colours_packing ?_
  refine ⟨fun h0 => ?_, fun h0 => ?_⟩
  · refine ⟨fun h1 => ?_, fun h1 => ?_⟩
    · exact ⟨by unfold f_Colours_packing; rw [if_pos h0, if_pos h1], rfl⟩
    · exact ⟨by unfold f_Colours_packing; rw [if_pos h0, if_neg h1], rfl⟩
  · exact ⟨by unfold f_Colours_packing; rw [if_neg h0], rfl⟩
def c_Colours_packedWidth (c : zC) (J : zK) (v0 : Int32) (v1 : Int32) (I : zJ) (P : Int32 → zJ → Prop) (T : Nat → zJ → Prop) : Prop := wg c J 1 qColours_packedWidth [.int v0, .int v1] I (kvi P) T
set_option maxRecDepth 100000 in
theorem t_Colours_packedWidth {c : zC} {J : zK} {v0 : Int32} {v1 : Int32} {I : zJ} {P : Int32 → zJ → Prop} {T : Nat → zJ → Prop}
    (k : P (((v0 + ((nI 1) <<< (v1 &&& 31))) - (nI 1)) >>> (v1 &&& 31)) I) :
    c_Colours_packedWidth c J v0 v1 I P T := xg_of (M := zm_Colours_packedWidth) rfl (Nat.le_of_ble_eq_true rfl) (s_Colours_packedWidth_0  ⟨rfl, rfl, k⟩)
theorem x_Colours_packedWidth {c : zC} {J : zK} {v0 : Int32} {v1 : Int32} {I : zJ} {T : Nat → zJ → Prop} : c_Colours_packedWidth c J v0 v1 I (fun v I1 => v = ((v0 + ((nI 1) <<< (v1 &&& 31))) - (nI 1)) >>> (v1 &&& 31) ∧ I1 = I) T := by
  refine t_Colours_packedWidth ?_
  exact ⟨rfl, rfl⟩
def c_Transforms_shapeBlocks (c : zC) (J : zK) (r0 : Nat) (v1 : Int32) (v2 : Int32) (I : zJ) (P : zJ → Prop) (T : Nat → zJ → Prop) : Prop := wg c J 2 qTransforms_shapeBlocks [.ref r0, .int v1, .int v2] I (kvu P) T
set_option maxRecDepth 100000 in
theorem t_Transforms_shapeBlocks {c : zC} {J : zK} {r0 : Nat} {v1 : Int32} {v2 : Int32} {m_r0 : Nat} {I : zJ} {P : zJ → Prop} {T : Nat → zJ → Prop} (p_r0 : zpl c r0 m_r0)
    (k : ∀ I1 : zJ, I1 = xup (xup I r0 1 (((v1 + (nI 4)) - (nI 1)) / (nI 4))) r0 2 (((v2 + (nI 4)) - (nI 1)) / (nI 4)) → P I1) :
    c_Transforms_shapeBlocks c J r0 v1 v2 I P T := xg_of (M := zm_Transforms_shapeBlocks) rfl (Nat.le_of_ble_eq_true rfl) (s_Transforms_shapeBlocks_0  (zpl_ob p_r0) (w_eu (by decide) (x_Plane_shape p_r0) (s_Transforms_shapeBlocks_18  ⟨rfl, rfl, (k _ rfl)⟩)))
theorem x_Transforms_shapeBlocks {c : zC} {J : zK} {r0 : Nat} {v1 : Int32} {v2 : Int32} {m_r0 : Nat} {I : zJ} {T : Nat → zJ → Prop} (p_r0 : zpl c r0 m_r0) : c_Transforms_shapeBlocks c J r0 v1 v2 I (fun I1 => I1 = (xup (xup I r0 1 (((v1 + (nI 4)) - (nI 1)) / (nI 4))) r0 2 (((v2 + (nI 4)) - (nI 1)) / (nI 4)))) T := by
  refine t_Transforms_shapeBlocks p_r0 ?_
  repeat (first | exact rfl | (refine ⟨?_, ?_⟩; assumption) | (intro _ h; subst h))
def c_Transforms_take (c : zC) (J : zK) (r1 : Nat) (v3 : Int32) (v4 : Int32) (I : zJ) (P : Int32 → zJ → Prop) (T : Nat → zJ → Prop) : Prop := wg c J 7 qTransforms_take [.ref 51, .ref r1, .ref 59, .int v3, .int v4] I (kvi P) T
def g_Transforms_take_143 (c : zC) (J : zK) (r1 : Nat) (v3 : Int32) (r6 : Nat) (I : zJ) (P : Int32 → zJ → Prop) (T : Nat → zJ → Prop) : Prop := ∀ (v4 : Int32) (v5 : Int32), wG c J 6 zm_Transforms_take (143, [some (.ref 51), some (.ref r1), some (.ref 59), some (.int v3), some (.int v4), some (.int v5), some (.ref r6)], []) I (kvi P) T
set_option maxRecDepth 100000 in
theorem t_Transforms_take_143 {c : zC} {J : zK} {r1 : Nat} {v3 : Int32} {r6 : Nat} {m_r6 : Nat} {I : zJ} {P : Int32 → zJ → Prop} {T : Nat → zJ → Prop} (p_r1 : zbi c r1) (p_r6 : zpl c r6 m_r6)
    (k : c_ImageReader_take c J r1 r6 I (fun I1 => P v3 I1) T) :
    g_Transforms_take_143 c J r1 v3 r6 I P T := fun _ _ => s_Transforms_take_143  zo_59 (w_cu (by decide) k (fun I1 k => s_Transforms_take_150  ⟨rfl, rfl, k⟩))
set_option maxRecDepth 100000 in
theorem t_Transforms_take {c : zC} {J : zK} {r1 : Nat} {v3 : Int32} {v4 : Int32} {I : zJ} {P : Int32 → zJ → Prop} {T : Nat → zJ → Prop} (p_r1 : zbi c r1)
    (k : c_Bits_number c J r1 (nI 2) I (fun y2 I1 => c_Transforms_have c J y2 I1 (fun y4 I3 => ((y4 = nI 0 → (((I3 51 5) < (nI 4) → (vp_in (I3 51 5) 4) ∧ ∀ I7 : zJ, I7 = xup (xup I3 52 (I3 51 5).toNatClampNeg y2) 51 5 (((xup I3 52 (I3 51 5).toNatClampNeg y2) 51 5) + (nI 1)) → ((y2 = (nI 2) → P v3 I7) ∧ (¬ (y2 = (nI 2)) → ((y2 = (nI 3) → c_Bits_number c J r1 (nI 4) I7 (fun y14 I13 => ∀ I15 : zJ, I15 = xup (xup I13 57 1 (y14 + (nI 1))) 57 2 (nI 1) → c_ImageReader_take c J r1 57 I15 (fun I16 => c_Transforms_sumUpPalette c J I16 (fun I17 => ∀ I18 : zJ, I18 = (xup I17 51 4 v3) → P (((v3 + ((nI 1) <<< ((f_Colours_packing ((xup I17 51 4 v3) 57 1) (xup I17 51 4 v3)) &&& 31))) - (nI 1)) >>> ((f_Colours_packing ((xup I17 51 4 v3) 57 1) (xup I17 51 4 v3)) &&& 31)) I18) T) T) T) ∧ (¬ (y2 = (nI 3)) → ((y2 = nI 0 → ∀ I12 : zJ, I12 = (xup (xup I7 53 1 (((v3 + (nI 4)) - (nI 1)) / (nI 4))) 53 2 (((v4 + (nI 4)) - (nI 1)) / (nI 4))) → g_Transforms_take_143 c J r1 v3 53 I12 P T) ∧ (¬ (y2 = nI 0) → ∀ I11 : zJ, I11 = (xup (xup I7 55 1 (((v3 + (nI 4)) - (nI 1)) / (nI 4))) 55 2 (((v4 + (nI 4)) - (nI 1)) / (nI 4))) → g_Transforms_take_143 c J r1 v3 55 I11 P T))))))) ∧ (¬ ((I3 51 5) < (nI 4)) → T 100 I3))) ∧ (¬ (y4 = nI 0) → T 100 I3))) T) T) :
    c_Transforms_take c J r1 v3 v4 I P T := xg_of (M := zm_Transforms_take) rfl (Nat.le_of_ble_eq_true rfl) (s_Transforms_take_0  (zbi_ob p_r1) (w_ci (by decide) k (fun y2 I1 k => s_Transforms_take_5  zo_51 (w_ci (by decide) k (fun y4 I3 k => s_Transforms_take_13  (fun h5 => s_Transforms_take_24  ⟨rfl, _, rfl, rfl, (k.2 h5)⟩) (fun h5 => s_Transforms_take_16 zo_51 (fun h6 => s_Transforms_take_34 zr_51_0 za_52 (by decide) (((k.1 (Classical.not_not.mp h5)).1 h6).1) (fun h8 => s_Transforms_take_63  (fun h9 => s_Transforms_take_117  (fun h10 => s_Transforms_take_129 zr_51_2 (w_eu (by decide) (x_Transforms_shapeBlocks zpl_55) (((((((((k.1 (Classical.not_not.mp h5)).1 h6).2 _ rfl).2 h8).2 h9).2 h10) _ rfl) _ _)))) (fun h10 => s_Transforms_take_122 zr_51_1 (w_eu (by decide) (x_Transforms_shapeBlocks zpl_53) (((((((((k.1 (Classical.not_not.mp h5)).1 h6).2 _ rfl).2 h8).2 h9).1 (Classical.not_not.mp h10)) _ rfl) _ _))))) (fun h9 => s_Transforms_take_69 zr_51_3 (zbi_ob p_r1) (w_ci (by decide) (((((k.1 (Classical.not_not.mp h5)).1 h6).2 _ rfl).2 h8).1 (Classical.not_not.mp h9)) (fun y14 I13 k => s_Transforms_take_78  zo_57 (w_eu (by decide) (x_Plane_shape zpl_57) (s_Transforms_take_84 zr_51_3 zo_59 (w_cu (by decide) (k _ rfl) (fun I16 k => s_Transforms_take_93  zo_51 (w_cu (by decide) k (fun I17 k => s_Transforms_take_97 zo_51 zr_51_3 zo_57 (w_ei (by decide) (x_Colours_packing) (s_Transforms_take_113  (w_ei (by decide) (x_Colours_packedWidth) (s_Transforms_take_116  ⟨rfl, rfl, (k _ rfl)⟩)))))))))))))) (fun h8 => s_Transforms_take_61  ⟨rfl, rfl, ((((k.1 (Classical.not_not.mp h5)).1 h6).2 _ rfl).1 (Classical.not_not.mp h8))⟩)) (fun h6 => s_Transforms_take_24  ⟨rfl, _, rfl, rfl, ((k.1 (Classical.not_not.mp h5)).2 h6)⟩)))))))
def c_Foretelling_blockOf (c : zC) (J : zK) (v0 : Int32) (v1 : Int32) (r2 : Nat) (I : zJ) (P : Int32 → zJ → Prop) (T : Nat → zJ → Prop) : Prop := wg c J 1 qForetelling_blockOf [.int v0, .int v1, .ref r2] I (kvi P) T
set_option maxRecDepth 100000 in
theorem t_Foretelling_blockOf {c : zC} {J : zK} {v0 : Int32} {v1 : Int32} {r2 : Nat} {m_r2 : Nat} {I : zJ} {P : Int32 → zJ → Prop} {T : Nat → zJ → Prop} (p_r2 : zpl c r2 m_r2)
    (k : P (((v1 / (nI 4)) * (I r2 1)) + (v0 / (nI 4))) I) :
    c_Foretelling_blockOf c J v0 v1 r2 I P T := xg_of (M := zm_Foretelling_blockOf) rfl (Nat.le_of_ble_eq_true rfl) (s_Foretelling_blockOf_0 (zpl_ob p_r2) ⟨rfl, rfl, k⟩)
theorem x_Foretelling_blockOf {c : zC} {J : zK} {v0 : Int32} {v1 : Int32} {r2 : Nat} {m_r2 : Nat} {I : zJ} {T : Nat → zJ → Prop} (p_r2 : zpl c r2 m_r2) : c_Foretelling_blockOf c J v0 v1 r2 I (fun v I1 => v = ((v1 / (nI 4)) * (I r2 1)) + (v0 / (nI 4)) ∧ I1 = I) T := by
  refine t_Foretelling_blockOf p_r2 ?_
  exact ⟨rfl, rfl⟩
def c_L_average (c : zC) (J : zK) (v0 : Int32) (v1 : Int32) (I : zJ) (P : Int32 → zJ → Prop) (T : Nat → zJ → Prop) : Prop := wg c J 2 qL_average [.int v0, .int v1] I (kvi P) T
def g_L_average_4 (c : zC) (J : zK) (v0 : Int32) (v1 : Int32) (v2 : Int32) (v3 : Int32) (I : zJ) (P : Int32 → zJ → Prop) (T : Nat → zJ → Prop) : Prop := wG c J 1 zm_L_average (4, [some (.int v0), some (.int v1), some (.int v2), some (.int v3)], []) I (kvi P) T
set_option maxRecDepth 100000 in
theorem t_L_average_4 {c : zC} {J : zK} {v0 : Int32} {v1 : Int32} {v2 : Int32} {v3 : Int32} {I : zJ} {P : Int32 → zJ → Prop} {T : Nat → zJ → Prop}
    (k : (((nI 32) ≤ v3 → P v2 I) ∧ (¬ ((nI 32) ≤ v3) → g_L_average_4 c J v0 v1 (v2 ||| (((((xus v0 v3) &&& (nI 255)) + ((xus v1 v3) &&& (nI 255))) / (nI 2)) <<< (v3 &&& 31))) (v3 + (nI 8)) I P T))) :
    g_L_average_4 c J v0 v1 v2 v3 I P T := s_L_average_4  (fun h1 => s_L_average_34  ⟨rfl, rfl, (k.1 h1)⟩) (fun h1 => s_L_average_10  (w_ei (by decide) (x_L_part) (s_L_average_16  (w_ei (by decide) (x_L_part) (s_L_average_21  ((k.2 h1)))))))
set_option maxRecDepth 100000 in
theorem t_L_average {c : zC} {J : zK} {v0 : Int32} {v1 : Int32} {I : zJ} {P : Int32 → zJ → Prop} {T : Nat → zJ → Prop}
    (k : g_L_average_4 c J v0 v1 (nI 0) (nI 0) I P T) :
    c_L_average c J v0 v1 I P T := xg_of (M := zm_L_average) rfl (Nat.le_of_ble_eq_true rfl) (s_L_average_0  (k))
def c_Foretelling_nearer (c : zC) (J : zK) (v0 : Int32) (v1 : Int32) (v2 : Int32) (I : zJ) (P : Int32 → zJ → Prop) (T : Nat → zJ → Prop) : Prop := wg c J 2 qForetelling_nearer [.int v0, .int v1, .int v2] I (kvi P) T
def g_Foretelling_nearer_8 (c : zC) (J : zK) (v0 : Int32) (v1 : Int32) (v2 : Int32) (v3 : Int32) (v4 : Int32) (v5 : Int32) (I : zJ) (P : Int32 → zJ → Prop) (T : Nat → zJ → Prop) : Prop := ∀ (o6 : Option Value) (o7 : Option Value) (o8 : Option Value), wG c J 1 zm_Foretelling_nearer (8, [some (.int v0), some (.int v1), some (.int v2), some (.int v3), some (.int v4), some (.int v5), o6, o7, o8], []) I (kvi P) T
set_option maxRecDepth 100000 in
theorem t_Foretelling_nearer_8 {c : zC} {J : zK} {v0 : Int32} {v1 : Int32} {v2 : Int32} {v3 : Int32} {v4 : Int32} {v5 : Int32} {I : zJ} {P : Int32 → zJ → Prop} {T : Nat → zJ → Prop}
    (k : (((nI 32) ≤ v5 → ((v4 ≤ v3 → P v1 I) ∧ (¬ (v4 ≤ v3) → P v0 I))) ∧ (¬ ((nI 32) ≤ v5) → g_Foretelling_nearer_8 c J v0 v1 v2 (v3 + (xabs (((((xus v0 v5) &&& (nI 255)) + ((xus v1 v5) &&& (nI 255))) - ((xus v2 v5) &&& (nI 255))) - ((xus v0 v5) &&& (nI 255))))) (v4 + (xabs (((((xus v0 v5) &&& (nI 255)) + ((xus v1 v5) &&& (nI 255))) - ((xus v2 v5) &&& (nI 255))) - ((xus v1 v5) &&& (nI 255))))) (v5 + (nI 8)) I P T))) :
    g_Foretelling_nearer_8 c J v0 v1 v2 v3 v4 v5 I P T := fun _ _ _ => s_Foretelling_nearer_8  (fun h1 => s_Foretelling_nearer_75  (fun h2 => s_Foretelling_nearer_85  ⟨rfl, rfl, ((k.1 h1).1 h2)⟩) (fun h2 => s_Foretelling_nearer_81  ⟨rfl, rfl, ((k.1 h1).2 h2)⟩)) (fun h1 => s_Foretelling_nearer_15  (w_ei (by decide) (x_L_part) (s_Foretelling_nearer_21  (w_ei (by decide) (x_L_part) (s_Foretelling_nearer_29  (w_ei (by decide) (x_L_part) (s_Foretelling_nearer_42  (((k.2 h1) _ _ _)))))))))
set_option maxRecDepth 100000 in
theorem t_Foretelling_nearer {c : zC} {J : zK} {v0 : Int32} {v1 : Int32} {v2 : Int32} {I : zJ} {P : Int32 → zJ → Prop} {T : Nat → zJ → Prop}
    (k : g_Foretelling_nearer_8 c J v0 v1 v2 (nI 0) (nI 0) (nI 0) I P T) :
    c_Foretelling_nearer c J v0 v1 v2 I P T := xg_of (M := zm_Foretelling_nearer) rfl (Nat.le_of_ble_eq_true rfl) (s_Foretelling_nearer_0  ((k _ _ _)))
def c_L_clamp (c : zC) (J : zK) (v0 : Int32) (I : zJ) (P : Int32 → zJ → Prop) (T : Nat → zJ → Prop) : Prop := wg c J 1 qL_clamp [.int v0] I (kvi P) T
set_option maxRecDepth 100000 in
theorem t_L_clamp {c : zC} {J : zK} {v0 : Int32} {I : zJ} {P : Int32 → zJ → Prop} {T : Nat → zJ → Prop}
    (k : ((nI 0 ≤ v0 → ((v0 ≤ (nI 255) → P v0 I) ∧ (¬ (v0 ≤ (nI 255)) → P (nI 255) I))) ∧ (¬ (nI 0 ≤ v0) → P (nI 0) I))) :
    c_L_clamp c J v0 I P T := xg_of (M := zm_L_clamp) rfl (Nat.le_of_ble_eq_true rfl) (s_L_clamp_0  (fun h1 => s_L_clamp_8  (fun h2 => s_L_clamp_21  ⟨rfl, rfl, ((k.1 h1).1 h2)⟩) (fun h2 => s_L_clamp_15  ⟨rfl, rfl, ((k.1 h1).2 h2)⟩)) (fun h1 => s_L_clamp_4  ⟨rfl, rfl, (k.2 h1)⟩))
def f_L_clamp (v0 : Int32) (I : zJ) : Int32 := if nI 0 ≤ v0 then (if v0 ≤ (nI 255) then v0 else (nI 255)) else (nI 0)
theorem x_L_clamp {c : zC} {J : zK} {v0 : Int32} {I : zJ} {T : Nat → zJ → Prop} : c_L_clamp c J v0 I (fun v I1 => v = (f_L_clamp v0 I) ∧ I1 = I) T := by
  refine t_L_clamp ?_
  refine ⟨fun h0 => ?_, fun h0 => ?_⟩
  · refine ⟨fun h1 => ?_, fun h1 => ?_⟩
    · exact ⟨by unfold f_L_clamp; rw [if_pos h0, if_pos h1], rfl⟩
    · exact ⟨by unfold f_L_clamp; rw [if_pos h0, if_neg h1], rfl⟩
  · exact ⟨by unfold f_L_clamp; rw [if_neg h0], rfl⟩
def c_Foretelling_slope (c : zC) (J : zK) (v0 : Int32) (v1 : Int32) (v2 : Int32) (I : zJ) (P : Int32 → zJ → Prop) (T : Nat → zJ → Prop) : Prop := wg c J 2 qForetelling_slope [.int v0, .int v1, .int v2] I (kvi P) T
def g_Foretelling_slope_5 (c : zC) (J : zK) (v0 : Int32) (v1 : Int32) (v2 : Int32) (v3 : Int32) (v4 : Int32) (I : zJ) (P : Int32 → zJ → Prop) (T : Nat → zJ → Prop) : Prop := ∀ (o5 : Option Value), wG c J 1 zm_Foretelling_slope (5, [some (.int v0), some (.int v1), some (.int v2), some (.int v3), some (.int v4), o5], []) I (kvi P) T
set_option maxRecDepth 100000 in
theorem t_Foretelling_slope_5 {c : zC} {J : zK} {v0 : Int32} {v1 : Int32} {v2 : Int32} {v3 : Int32} {v4 : Int32} {I : zJ} {P : Int32 → zJ → Prop} {T : Nat → zJ → Prop}
    (k : (((nI 32) ≤ v4 → P v3 I) ∧ (¬ ((nI 32) ≤ v4) → g_Foretelling_slope_5 c J v0 v1 v2 (v3 ||| ((f_L_clamp ((((xus v0 v4) &&& (nI 255)) + ((xus v1 v4) &&& (nI 255))) - ((xus v2 v4) &&& (nI 255))) I) <<< (v4 &&& 31))) (v4 + (nI 8)) I P T))) :
    g_Foretelling_slope_5 c J v0 v1 v2 v3 v4 I P T := fun _ => s_Foretelling_slope_5  (fun h1 => s_Foretelling_slope_51  ⟨rfl, rfl, (k.1 h1)⟩) (fun h1 => s_Foretelling_slope_12  (w_ei (by decide) (x_L_part) (s_Foretelling_slope_18  (w_ei (by decide) (x_L_part) (s_Foretelling_slope_24  (w_ei (by decide) (x_L_part) (s_Foretelling_slope_31  (w_ei (by decide) (x_L_clamp) (s_Foretelling_slope_40  (((k.2 h1) _)))))))))))
set_option maxRecDepth 100000 in
theorem t_Foretelling_slope {c : zC} {J : zK} {v0 : Int32} {v1 : Int32} {v2 : Int32} {I : zJ} {P : Int32 → zJ → Prop} {T : Nat → zJ → Prop}
    (k : g_Foretelling_slope_5 c J v0 v1 v2 (nI 0) (nI 0) I P T) :
    c_Foretelling_slope c J v0 v1 v2 I P T := xg_of (M := zm_Foretelling_slope) rfl (Nat.le_of_ble_eq_true rfl) (s_Foretelling_slope_0  ((k _)))
def c_Foretelling_halfSlope (c : zC) (J : zK) (v0 : Int32) (v1 : Int32) (I : zJ) (P : Int32 → zJ → Prop) (T : Nat → zJ → Prop) : Prop := wg c J 2 qForetelling_halfSlope [.int v0, .int v1] I (kvi P) T
def g_Foretelling_halfSlope_4 (c : zC) (J : zK) (v0 : Int32) (v1 : Int32) (v2 : Int32) (v3 : Int32) (I : zJ) (P : Int32 → zJ → Prop) (T : Nat → zJ → Prop) : Prop := ∀ (o4 : Option Value) (o5 : Option Value), wG c J 1 zm_Foretelling_halfSlope (4, [some (.int v0), some (.int v1), some (.int v2), some (.int v3), o4, o5], []) I (kvi P) T
set_option maxRecDepth 100000 in
theorem t_Foretelling_halfSlope_4 {c : zC} {J : zK} {v0 : Int32} {v1 : Int32} {v2 : Int32} {v3 : Int32} {I : zJ} {P : Int32 → zJ → Prop} {T : Nat → zJ → Prop}
    (k : (((nI 32) ≤ v3 → P v2 I) ∧ (¬ ((nI 32) ≤ v3) → g_Foretelling_halfSlope_4 c J v0 v1 (v2 ||| ((f_L_clamp (((xus v0 v3) &&& (nI 255)) + ((((xus v0 v3) &&& (nI 255)) - ((xus v1 v3) &&& (nI 255))) / (nI 2))) I) <<< (v3 &&& 31))) (v3 + (nI 8)) I P T))) :
    g_Foretelling_halfSlope_4 c J v0 v1 v2 v3 I P T := fun _ _ => s_Foretelling_halfSlope_4  (fun h1 => s_Foretelling_halfSlope_48  ⟨rfl, rfl, (k.1 h1)⟩) (fun h1 => s_Foretelling_halfSlope_10  (w_ei (by decide) (x_L_part) (s_Foretelling_halfSlope_15  (w_ei (by decide) (x_L_part) (s_Foretelling_halfSlope_26  (w_ei (by decide) (x_L_clamp) (s_Foretelling_halfSlope_38  (((k.2 h1) _ _)))))))))
set_option maxRecDepth 100000 in
theorem t_Foretelling_halfSlope {c : zC} {J : zK} {v0 : Int32} {v1 : Int32} {I : zJ} {P : Int32 → zJ → Prop} {T : Nat → zJ → Prop}
    (k : g_Foretelling_halfSlope_4 c J v0 v1 (nI 0) (nI 0) I P T) :
    c_Foretelling_halfSlope c J v0 v1 I P T := xg_of (M := zm_Foretelling_halfSlope) rfl (Nat.le_of_ble_eq_true rfl) (s_Foretelling_halfSlope_0  ((k _ _)))
def c_Foretelling_byMode (c : zC) (J : zK) (v0 : Int32) (v1 : Int32) (v2 : Int32) (v3 : Int32) (v4 : Int32) (I : zJ) (P : Int32 → zJ → Prop) (T : Nat → zJ → Prop) : Prop := wg c J 3 qForetelling_byMode [.int v0, .int v1, .int v2, .int v3, .int v4] I (kvi P) T
set_option maxRecDepth 100000 in
theorem t_Foretelling_byMode {c : zC} {J : zK} {v0 : Int32} {v1 : Int32} {v2 : Int32} {v3 : Int32} {v4 : Int32} {I : zJ} {P : Int32 → zJ → Prop} {T : Nat → zJ → Prop}
    (k : ((v0 = nI 1 → P v1 I) ∧ (v0 = nI 2 → P v2 I) ∧ (v0 = nI 3 → P v4 I) ∧ (v0 = nI 4 → P v3 I) ∧ (v0 = nI 5 → c_L_average c J v1 v4 I (fun y7 I6 => c_L_average c J y7 v2 I6 (fun y9 I8 => P y9 I8) T) T) ∧ (v0 = nI 6 → c_L_average c J v1 v3 I (fun y12 I11 => P y12 I11) T) ∧ (v0 = nI 7 → c_L_average c J v1 v2 I (fun y15 I14 => P y15 I14) T) ∧ (v0 = nI 8 → c_L_average c J v3 v2 I (fun y18 I17 => P y18 I17) T) ∧ (v0 = nI 9 → c_L_average c J v2 v4 I (fun y21 I20 => P y21 I20) T) ∧ (v0 = nI 10 → c_L_average c J v1 v3 I (fun y24 I23 => c_L_average c J v2 v4 I23 (fun y26 I25 => c_L_average c J y24 y26 I25 (fun y28 I27 => P y28 I27) T) T) T) ∧ (v0 = nI 11 → c_Foretelling_nearer c J v1 v2 v3 I (fun y31 I30 => P y31 I30) T) ∧ (v0 = nI 12 → c_Foretelling_slope c J v1 v2 v3 I (fun y34 I33 => P y34 I33) T) ∧ (v0 = nI 13 → c_L_average c J v1 v2 I (fun y37 I36 => c_Foretelling_halfSlope c J y37 v3 I36 (fun y39 I38 => P y39 I38) T) T) ∧ (v0.toInt < 1 ∨ 13 < v0.toInt → P (-16777216 : Int32) I))) :
    c_Foretelling_byMode c J v0 v1 v2 v3 v4 I P T := xg_of (M := zm_Foretelling_byMode) rfl (Nat.le_of_ble_eq_true rfl) (s_Foretelling_byMode_0  (fun h1 => s_Foretelling_byMode_68  ⟨rfl, rfl, (k.1 h1)⟩) (fun h2 => s_Foretelling_byMode_70  ⟨rfl, rfl, (k.2.1 h2)⟩) (fun h3 => s_Foretelling_byMode_72  ⟨rfl, rfl, (k.2.2.1 h3)⟩) (fun h4 => s_Foretelling_byMode_75  ⟨rfl, rfl, (k.2.2.2.1 h4)⟩) (fun h5 => s_Foretelling_byMode_77  (w_ci (by decide) (k.2.2.2.2.1 h5) (fun y7 I6 k => s_Foretelling_byMode_83  (w_ci (by decide) k (fun y9 I8 k => s_Foretelling_byMode_87  ⟨rfl, rfl, k⟩))))) (fun h10 => s_Foretelling_byMode_88  (w_ci (by decide) (k.2.2.2.2.2.1 h10) (fun y12 I11 k => s_Foretelling_byMode_93  ⟨rfl, rfl, k⟩))) (fun h13 => s_Foretelling_byMode_94  (w_ci (by decide) (k.2.2.2.2.2.2.1 h13) (fun y15 I14 k => s_Foretelling_byMode_99  ⟨rfl, rfl, k⟩))) (fun h16 => s_Foretelling_byMode_100  (w_ci (by decide) (k.2.2.2.2.2.2.2.1 h16) (fun y18 I17 k => s_Foretelling_byMode_105  ⟨rfl, rfl, k⟩))) (fun h19 => s_Foretelling_byMode_106  (w_ci (by decide) (k.2.2.2.2.2.2.2.2.1 h19) (fun y21 I20 k => s_Foretelling_byMode_112  ⟨rfl, rfl, k⟩))) (fun h22 => s_Foretelling_byMode_113  (w_ci (by decide) (k.2.2.2.2.2.2.2.2.2.1 h22) (fun y24 I23 k => s_Foretelling_byMode_118  (w_ci (by decide) k (fun y26 I25 k => s_Foretelling_byMode_124  (w_ci (by decide) k (fun y28 I27 k => s_Foretelling_byMode_127  ⟨rfl, rfl, k⟩))))))) (fun h29 => s_Foretelling_byMode_128  (w_ci (by decide) (k.2.2.2.2.2.2.2.2.2.2.1 h29) (fun y31 I30 k => s_Foretelling_byMode_134  ⟨rfl, rfl, k⟩))) (fun h32 => s_Foretelling_byMode_135  (w_ci (by decide) (k.2.2.2.2.2.2.2.2.2.2.2.1 h32) (fun y34 I33 k => s_Foretelling_byMode_141  ⟨rfl, rfl, k⟩))) (fun h35 => s_Foretelling_byMode_142  (w_ci (by decide) (k.2.2.2.2.2.2.2.2.2.2.2.2.1 h35) (fun y37 I36 k => s_Foretelling_byMode_147  (w_ci (by decide) k (fun y39 I38 k => s_Foretelling_byMode_151  ⟨rfl, rfl, k⟩))))) (fun h40 => s_Foretelling_byMode_152  ⟨rfl, rfl, (k.2.2.2.2.2.2.2.2.2.2.2.2.2 h40)⟩))
def c_Foretelling_foretold (c : zC) (J : zK) (r0 : Nat) (v1 : Int32) (v2 : Int32) (v3 : Int32) (I : zJ) (P : Int32 → zJ → Prop) (T : Nat → zJ → Prop) : Prop := wg c J 4 qForetelling_foretold [.ref r0, .int v1, .int v2, .int v3] I (kvi P) T
set_option maxRecDepth 100000 in
theorem t_Foretelling_foretold {c : zC} {J : zK} {r0 : Nat} {v1 : Int32} {v2 : Int32} {v3 : Int32} {m_r0 : Nat} {I : zJ} {P : Int32 → zJ → Prop} {T : Nat → zJ → Prop} (p_r0 : zpl c r0 m_r0)
    (k : ((((v2 * (I r0 1)) + v1) = nI 0 → P (-16777216 : Int32) I) ∧ (¬ (((v2 * (I r0 1)) + v1) = nI 0) → ((v2 = nI 0 → (vp_in (((v2 * (I r0 1)) + v1) - (nI 1)) m_r0) ∧ P (I (r0 + 1) (((v2 * (I r0 1)) + v1) - (nI 1)).toNatClampNeg) I) ∧ (¬ (v2 = nI 0) → ((v1 = nI 0 → (vp_in (((v2 * (I r0 1)) + v1) - (I r0 1)) m_r0) ∧ P (I (r0 + 1) (((v2 * (I r0 1)) + v1) - (I r0 1)).toNatClampNeg) I) ∧ (¬ (v1 = nI 0) → (vp_in (((v2 * (I r0 1)) + v1) - (nI 1)) m_r0) ∧ (vp_in (((v2 * (I r0 1)) + v1) - (I r0 1)) m_r0) ∧ (vp_in ((((v2 * (I r0 1)) + v1) - (I r0 1)) - (nI 1)) m_r0) ∧ (vp_in ((((v2 * (I r0 1)) + v1) - (I r0 1)) + (nI 1)) m_r0) ∧ c_Foretelling_byMode c J v3 (I (r0 + 1) (((v2 * (I r0 1)) + v1) - (nI 1)).toNatClampNeg) (I (r0 + 1) (((v2 * (I r0 1)) + v1) - (I r0 1)).toNatClampNeg) (I (r0 + 1) ((((v2 * (I r0 1)) + v1) - (I r0 1)) - (nI 1)).toNatClampNeg) (I (r0 + 1) ((((v2 * (I r0 1)) + v1) - (I r0 1)) + (nI 1)).toNatClampNeg) I (fun y5 I4 => P y5 I4) T))))))) :
    c_Foretelling_foretold c J r0 v1 v2 v3 I P T := xg_of (M := zm_Foretelling_foretold) rfl (Nat.le_of_ble_eq_true rfl) (s_Foretelling_foretold_0 (zpl_ob p_r0) (fun h1 => s_Foretelling_foretold_18  (fun h2 => s_Foretelling_foretold_32 (zpl_ob p_r0) (fun h3 => s_Foretelling_foretold_53 (zpl_r0 p_r0) (zpl_a1 p_r0) ((((k.2 h1).2 h2).2 h3).1) ((((k.2 h1).2 h2).2 h3).2.1) ((((k.2 h1).2 h2).2 h3).2.2.1) ((((k.2 h1).2 h2).2 h3).2.2.2.1) (w_ci (by decide) (((k.2 h1).2 h2).2 h3).2.2.2.2 (fun y5 I4 k => s_Foretelling_foretold_91  ⟨rfl, rfl, k⟩))) (fun h3 => s_Foretelling_foretold_45 (zpl_r0 p_r0) (zpl_a1 p_r0) ((((k.2 h1).2 h2).1 (Classical.not_not.mp h3)).1) ⟨rfl, rfl, (((k.2 h1).2 h2).1 (Classical.not_not.mp h3)).2⟩)) (fun h2 => s_Foretelling_foretold_22 (zpl_r0 p_r0) (zpl_a1 p_r0) (((k.2 h1).1 (Classical.not_not.mp h2)).1) ⟨rfl, rfl, ((k.2 h1).1 (Classical.not_not.mp h2)).2⟩)) (fun h1 => s_Foretelling_foretold_15  ⟨rfl, rfl, (k.1 (Classical.not_not.mp h1))⟩))
def c_Foretelling_putOn (c : zC) (J : zK) (r0 : Nat) (r1 : Nat) (I : zJ) (P : zJ → Prop) (T : Nat → zJ → Prop) : Prop := wg c J 5 qForetelling_putOn [.ref r0, .ref r1] I (kvu P) T
def g_Foretelling_putOn_2 (c : zC) (J : zK) (r0 : Nat) (r1 : Nat) (v2 : Int32) (I : zJ) (P : zJ → Prop) (T : Nat → zJ → Prop) : Prop := ∀ (o3 : Option Value) (o4 : Option Value) (o5 : Option Value), wG c J 4 zm_Foretelling_putOn (2, [some (.ref r0), some (.ref r1), some (.int v2), o3, o4, o5], []) I (kvu P) T
def g_Foretelling_putOn_12 (c : zC) (J : zK) (r0 : Nat) (r1 : Nat) (v2 : Int32) (v3 : Int32) (I : zJ) (P : zJ → Prop) (T : Nat → zJ → Prop) : Prop := ∀ (o4 : Option Value) (o5 : Option Value), wG c J 4 zm_Foretelling_putOn (12, [some (.ref r0), some (.ref r1), some (.int v2), some (.int v3), o4, o5], []) I (kvu P) T
set_option maxRecDepth 100000 in
theorem t_Foretelling_putOn_2 {c : zC} {J : zK} {r0 : Nat} {r1 : Nat} {v2 : Int32} {m_r0 : Nat} {m_r1 : Nat} {I : zJ} {P : zJ → Prop} {T : Nat → zJ → Prop} (p_r0 : zpl c r0 m_r0) (p_r1 : zpl c r1 m_r1)
    (k : (((I r0 2) ≤ v2 → P I) ∧ (¬ ((I r0 2) ≤ v2) → g_Foretelling_putOn_12 c J r0 r1 v2 (nI 0) I P T))) :
    g_Foretelling_putOn_2 c J r0 r1 v2 I P T := fun _ _ _ => s_Foretelling_putOn_2 (zpl_ob p_r0) (fun h1 => s_Foretelling_putOn_88  ⟨rfl, rfl, (k.1 h1)⟩) (fun h1 => s_Foretelling_putOn_10  (((k.2 h1) _ _)))
set_option maxRecDepth 100000 in
theorem t_Foretelling_putOn_12 {c : zC} {J : zK} {r0 : Nat} {r1 : Nat} {v2 : Int32} {v3 : Int32} {m_r0 : Nat} {m_r1 : Nat} {I : zJ} {P : zJ → Prop} {T : Nat → zJ → Prop} (p_r0 : zpl c r0 m_r0) (p_r1 : zpl c r1 m_r1)
    (k : (((I r0 1) ≤ v3 → g_Foretelling_putOn_2 c J r0 r1 (v2 + (nI 1)) I P T) ∧ (¬ ((I r0 1) ≤ v3) → (vp_in (((v2 / (nI 4)) * (I r1 1)) + (v3 / (nI 4))) m_r1) ∧ (vp_in ((v2 * (I r0 1)) + v3) m_r0) ∧ c_Foretelling_foretold c J r0 v3 v2 (((xus (I (r1 + 1) (((v2 / (nI 4)) * (I r1 1)) + (v3 / (nI 4))).toNatClampNeg) (nI 8)) &&& (nI 255)) - ((xus (I (r1 + 1) (((v2 / (nI 4)) * (I r1 1)) + (v3 / (nI 4))).toNatClampNeg) (nI 8)) &&& (nI 255)) / (nI 16) * (nI 16)) I (fun y3 I2 => c_L_sum c J (I (r0 + 1) ((v2 * (I r0 1)) + v3).toNatClampNeg) y3 I2 (fun y5 I4 => (vp_in ((v2 * (I r0 1)) + v3) m_r0) ∧ g_Foretelling_putOn_12 c J r0 r1 v2 (v3 + (nI 1)) (xup I4 (r0 + 1) ((v2 * (I r0 1)) + v3).toNatClampNeg y5) P T) T) T))) :
    g_Foretelling_putOn_12 c J r0 r1 v2 v3 I P T := fun _ _ => s_Foretelling_putOn_12 (zpl_ob p_r0) (fun h1 => s_Foretelling_putOn_82  (((k.1 h1) _ _ _))) (fun h1 => s_Foretelling_putOn_20 (zpl_r0 p_r1) (w_ei (by decide) (x_Foretelling_blockOf p_r1) (s_Foretelling_putOn_30 (zpl_a1 p_r1) ((k.2 h1).1) (w_ei (by decide) (x_L_part) (s_Foretelling_putOn_36 (zpl_ob p_r0) (zpl_r0 p_r0) (zpl_a1 p_r0) ((k.2 h1).2.1) (w_ci (by decide) (k.2 h1).2.2 (fun y3 I2 k => s_Foretelling_putOn_72  (w_ci (by decide) k (fun y5 I4 k => s_Foretelling_putOn_75 (zpl_a1 p_r0) (zpl_g1 p_r0) (k.1) ((k.2 _ _)))))))))))
set_option maxRecDepth 100000 in
theorem t_Foretelling_putOn {c : zC} {J : zK} {r0 : Nat} {r1 : Nat} {m_r0 : Nat} {m_r1 : Nat} {I : zJ} {P : zJ → Prop} {T : Nat → zJ → Prop} (p_r0 : zpl c r0 m_r0) (p_r1 : zpl c r1 m_r1)
    (k : g_Foretelling_putOn_2 c J r0 r1 (nI 0) I P T) :
    c_Foretelling_putOn c J r0 r1 I P T := xg_of (M := zm_Foretelling_putOn) rfl (Nat.le_of_ble_eq_true rfl) (s_Foretelling_putOn_0  ((k _ _ _)))
def c_Colours_delta (c : zC) (J : zK) (v0 : Int32) (v1 : Int32) (I : zJ) (P : Int32 → zJ → Prop) (T : Nat → zJ → Prop) : Prop := wg c J 1 qColours_delta [.int v0, .int v1] I (kvi P) T
set_option maxRecDepth 100000 in
theorem t_Colours_delta {c : zC} {J : zK} {v0 : Int32} {v1 : Int32} {I : zJ} {P : Int32 → zJ → Prop} {T : Nat → zJ → Prop}
    (k : P ((v0.toInt8.toInt32 * v1.toInt8.toInt32) >>> ((nI 5) &&& 31)) I) :
    c_Colours_delta c J v0 v1 I P T := xg_of (M := zm_Colours_delta) rfl (Nat.le_of_ble_eq_true rfl) (s_Colours_delta_0  ⟨rfl, rfl, k⟩)
theorem x_Colours_delta {c : zC} {J : zK} {v0 : Int32} {v1 : Int32} {I : zJ} {T : Nat → zJ → Prop} : c_Colours_delta c J v0 v1 I (fun v I1 => v = (v0.toInt8.toInt32 * v1.toInt8.toInt32) >>> ((nI 5) &&& 31) ∧ I1 = I) T := by
  refine t_Colours_delta ?_
  exact ⟨rfl, rfl⟩
def c_Colours_together (c : zC) (J : zK) (v0 : Int32) (v1 : Int32) (I : zJ) (P : Int32 → zJ → Prop) (T : Nat → zJ → Prop) : Prop := wg c J 2 qColours_together [.int v0, .int v1] I (kvi P) T
set_option maxRecDepth 100000 in
theorem t_Colours_together {c : zC} {J : zK} {v0 : Int32} {v1 : Int32} {I : zJ} {P : Int32 → zJ → Prop} {T : Nat → zJ → Prop}
    (k : P (((v0 &&& (-16711936 : Int32)) ||| (((((xus v0 (nI 16)) &&& (nI 255)) + ((v1.toInt8.toInt32 * ((xus v0 (nI 8)) &&& (nI 255)).toInt8.toInt32) >>> ((nI 5) &&& 31))) &&& (nI 255)) <<< ((nI 16) &&& 31))) ||| (((((xus v0 (nI 0)) &&& (nI 255)) + (((v1 >>> ((nI 8) &&& 31)).toInt8.toInt32 * ((xus v0 (nI 8)) &&& (nI 255)).toInt8.toInt32) >>> ((nI 5) &&& 31))) + (((v1 >>> ((nI 16) &&& 31)).toInt8.toInt32 * ((((xus v0 (nI 16)) &&& (nI 255)) + ((v1.toInt8.toInt32 * ((xus v0 (nI 8)) &&& (nI 255)).toInt8.toInt32) >>> ((nI 5) &&& 31))) &&& (nI 255)).toInt8.toInt32) >>> ((nI 5) &&& 31))) &&& (nI 255))) I) :
    c_Colours_together c J v0 v1 I P T := xg_of (M := zm_Colours_together) rfl (Nat.le_of_ble_eq_true rfl) (s_Colours_together_0  (w_ei (by decide) (x_L_part) (s_Colours_together_6  (w_ei (by decide) (x_L_part) (s_Colours_together_13  (w_ei (by decide) (x_Colours_delta) (s_Colours_together_18  (w_ei (by decide) (x_L_part) (s_Colours_together_29  (w_ei (by decide) (x_Colours_delta) (s_Colours_together_37  (w_ei (by decide) (x_Colours_delta) (s_Colours_together_46  ⟨rfl, rfl, k⟩)))))))))))))
theorem x_Colours_together {c : zC} {J : zK} {v0 : Int32} {v1 : Int32} {I : zJ} {T : Nat → zJ → Prop} : c_Colours_together c J v0 v1 I (fun v I1 => v = ((v0 &&& (-16711936 : Int32)) ||| (((((xus v0 (nI 16)) &&& (nI 255)) + ((v1.toInt8.toInt32 * ((xus v0 (nI 8)) &&& (nI 255)).toInt8.toInt32) >>> ((nI 5) &&& 31))) &&& (nI 255)) <<< ((nI 16) &&& 31))) ||| (((((xus v0 (nI 0)) &&& (nI 255)) + (((v1 >>> ((nI 8) &&& 31)).toInt8.toInt32 * ((xus v0 (nI 8)) &&& (nI 255)).toInt8.toInt32) >>> ((nI 5) &&& 31))) + (((v1 >>> ((nI 16) &&& 31)).toInt8.toInt32 * ((((xus v0 (nI 16)) &&& (nI 255)) + ((v1.toInt8.toInt32 * ((xus v0 (nI 8)) &&& (nI 255)).toInt8.toInt32) >>> ((nI 5) &&& 31))) &&& (nI 255)).toInt8.toInt32) >>> ((nI 5) &&& 31))) &&& (nI 255)) ∧ I1 = I) T := by
  refine t_Colours_together ?_
  exact ⟨rfl, rfl⟩
