/-! What a run of each method needs, printed (wip/whole/gen_trees.py). -/
def c_M_had (c : zC) (J : zK) (v1 : Int32) (I : zJ) (P : Int32 → zJ → Prop) (T : Nat → zJ → Prop) : Prop := wg c J 1 qM_had [.ref 83, .int v1] I (kvi P) T
set_option maxRecDepth 100000 in
theorem t_M_had {c : zC} {J : zK} {v1 : Int32} {I : zJ} {P : Int32 → zJ → Prop} {T : Nat → zJ → Prop}
    (k : ∀ I1 : zJ, I1 = xup I 83 0 (nI 0) → ((((xup I 83 0 (nI 0)) 83 34) = nI 0 → P (-1 : Int32) I1) ∧ (¬ (((xup I 83 0 (nI 0)) 83 34) = nI 0) → ((v1 < nI 0 → P (-1 : Int32) I1) ∧ (¬ (v1 < nI 0) → (((nI 7) ≤ v1 → P (-1 : Int32) I1) ∧ (¬ ((nI 7) ≤ v1) → (vp_in v1 7) ∧ P (I1 104 v1.toNatClampNeg) I1))))))) :
    c_M_had c J v1 I P T := xg_of (M := zm_M_had) rfl (Nat.le_of_ble_eq_true rfl) (s_M_had_0 zo_83 (fun h2 => s_M_had_31  ⟨rfl, rfl, ((k _ rfl).1 h2)⟩) (fun h2 => s_M_had_12  (fun h3 => s_M_had_31  ⟨rfl, rfl, (((k _ rfl).2 h2).1 h3)⟩) (fun h3 => s_M_had_16  (fun h4 => s_M_had_31  ⟨rfl, rfl, ((((k _ rfl).2 h2).2 h3).1 h4)⟩) (fun h4 => s_M_had_22 zr_83_35 za_104 (((((k _ rfl).2 h2).2 h3).2 h4).1) ⟨rfl, rfl, ((((k _ rfl).2 h2).2 h3).2 h4).2⟩))))
