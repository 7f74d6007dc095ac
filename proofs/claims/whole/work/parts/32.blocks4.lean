/-! Stretches of code, printed (wip/whole/gen_blocks.py). -/
set_option maxRecDepth 100000 in
theorem s_M_delta_0 {d : Nat} {Q : xO → xH → Prop} {sh : List xS} {I : Nat → Nat → Int32} {J : Nat → Nat → Int64} {v0 : Int32} {v1 : Int32}
    (k : xg d qM_signed [.int v0] (sh, I, J) (xI (fun v h1 => xG d zm_M_delta (4, [some (.int v0), some (.int v1)], [.int v]) h1 Q) (fun x h1 => Q (.inr x) h1))) :
    xG d zm_M_delta (0, [some (.int v0), some (.int v1)], []) (sh, I, J) Q := by
  exact xG_N 1 (ps := []) (f1 := (1, [some (.int v0), some (.int v1)], [.int v0])) (h1 := (sh, I, J)) rfl trivial (xG_Ci rfl rfl (Nat.le_of_ble_eq_true rfl) (Nat.le_of_ble_eq_true rfl) trivial rfl k)
set_option maxRecDepth 100000 in
theorem s_M_delta_4 {d : Nat} {Q : xO → xH → Prop} {sh : List xS} {I : Nat → Nat → Int32} {J : Nat → Nat → Int64} {v0 : Int32} {v1 : Int32} {t0 : Int32}
    (k : xg d qM_signed [.int v1] (sh, I, J) (xI (fun v h1 => xG d zm_M_delta (8, [some (.int v0), some (.int v1)], [.int v, .int t0]) h1 Q) (fun x h1 => Q (.inr x) h1))) :
    xG d zm_M_delta (4, [some (.int v0), some (.int v1)], [.int t0]) (sh, I, J) Q := by
  exact xG_N 1 (ps := []) (f1 := (5, [some (.int v0), some (.int v1)], [.int v1, .int t0])) (h1 := (sh, I, J)) rfl trivial (xG_Ci rfl rfl (Nat.le_of_ble_eq_true rfl) (Nat.le_of_ble_eq_true rfl) trivial rfl k)
set_option maxRecDepth 100000 in
theorem s_M_delta_8 {d : Nat} {Q : xO → xH → Prop} {sh : List xS} {I : Nat → Nat → Int32} {J : Nat → Nat → Int64} {v0 : Int32} {v1 : Int32} {t0 : Int32} {t1 : Int32}
    (k : Q (.inl (some (.int ((t0 * t1) >>> ((5 : Int32) &&& 31))))) (sh, I, J)) :
    xG d zm_M_delta (8, [some (.int v0), some (.int v1)], [.int t1, .int t0]) (sh, I, J) Q := by
  exact xG_N 3 (ps := []) (f1 := (11, [some (.int v0), some (.int v1)], [.int ((t0 * t1) >>> ((5 : Int32) &&& 31))])) (h1 := (sh, I, J)) rfl trivial (xG_Q rfl rfl trivial k)
set_option maxRecDepth 100000 in
theorem s_M_parted_0 {d : Nat} {Q : xO → xH → Prop} {sh : List xS} {I : Nat → Nat → Int32} {J : Nat → Nat → Int64} {v0 : Int32} {v1 : Int32}
    (k : xg d qM_part [.int v0, .int (1 : Int32)] (sh, I, J) (xI (fun v h1 => xG d zm_M_parted (5, [some (.int v0), some (.int v1), none, none, none], [.int v]) h1 Q) (fun x h1 => Q (.inr x) h1))) :
    xG d zm_M_parted (0, [some (.int v0), some (.int v1), none, none, none], []) (sh, I, J) Q := by
  exact xG_N 2 (ps := []) (f1 := (2, [some (.int v0), some (.int v1), none, none, none], [.int (1 : Int32), .int v0])) (h1 := (sh, I, J)) rfl trivial (xG_Ci rfl rfl (Nat.le_of_ble_eq_true rfl) (Nat.le_of_ble_eq_true rfl) trivial rfl k)
set_option maxRecDepth 100000 in
theorem s_M_parted_5 {d : Nat} {Q : xO → xH → Prop} {sh : List xS} {I : Nat → Nat → Int32} {J : Nat → Nat → Int64} {v0 : Int32} {v1 : Int32} {t0 : Int32}
    (k : xg d qM_part [.int v0, .int (2 : Int32)] (sh, I, J) (xI (fun v h1 => xG d zm_M_parted (11, [some (.int v0), some (.int v1), some (.int t0), none, none], [.int v]) h1 Q) (fun x h1 => Q (.inr x) h1))) :
    xG d zm_M_parted (5, [some (.int v0), some (.int v1), none, none, none], [.int t0]) (sh, I, J) Q := by
  exact xG_N 3 (ps := []) (f1 := (8, [some (.int v0), some (.int v1), some (.int t0), none, none], [.int (2 : Int32), .int v0])) (h1 := (sh, I, J)) rfl trivial (xG_Ci rfl rfl (Nat.le_of_ble_eq_true rfl) (Nat.le_of_ble_eq_true rfl) trivial rfl k)
set_option maxRecDepth 100000 in
theorem s_M_parted_11 {d : Nat} {Q : xO → xH → Prop} {sh : List xS} {I : Nat → Nat → Int32} {J : Nat → Nat → Int64} {v0 : Int32} {v1 : Int32} {v2 : Int32} {t0 : Int32}
    (k : xg d qM_part [.int v1, .int (0 : Int32)] (sh, I, J) (xI (fun v h1 => xG d zm_M_parted (16, [some (.int v0), some (.int v1), some (.int v2), none, none], [.int v, .int t0]) h1 Q) (fun x h1 => Q (.inr x) h1))) :
    xG d zm_M_parted (11, [some (.int v0), some (.int v1), some (.int v2), none, none], [.int t0]) (sh, I, J) Q := by
  exact xG_N 2 (ps := []) (f1 := (13, [some (.int v0), some (.int v1), some (.int v2), none, none], [.int (0 : Int32), .int v1, .int t0])) (h1 := (sh, I, J)) rfl trivial (xG_Ci rfl rfl (Nat.le_of_ble_eq_true rfl) (Nat.le_of_ble_eq_true rfl) trivial rfl k)
set_option maxRecDepth 100000 in
theorem s_M_parted_16 {d : Nat} {Q : xO → xH → Prop} {sh : List xS} {I : Nat → Nat → Int32} {J : Nat → Nat → Int64} {v0 : Int32} {v1 : Int32} {v2 : Int32} {t0 : Int32} {t1 : Int32}
    (k : xg d qM_delta [.int t1, .int v2] (sh, I, J) (xI (fun v h1 => xG d zm_M_parted (20, [some (.int v0), some (.int v1), some (.int v2), none, none], [.int v, .int t0]) h1 Q) (fun x h1 => Q (.inr x) h1))) :
    xG d zm_M_parted (16, [some (.int v0), some (.int v1), some (.int v2), none, none], [.int t1, .int t0]) (sh, I, J) Q := by
  exact xG_N 1 (ps := []) (f1 := (17, [some (.int v0), some (.int v1), some (.int v2), none, none], [.int v2, .int t1, .int t0])) (h1 := (sh, I, J)) rfl trivial (xG_Ci rfl rfl (Nat.le_of_ble_eq_true rfl) (Nat.le_of_ble_eq_true rfl) trivial rfl k)
set_option maxRecDepth 100000 in
theorem s_M_parted_20 {d : Nat} {Q : xO → xH → Prop} {sh : List xS} {I : Nat → Nat → Int32} {J : Nat → Nat → Int64} {v0 : Int32} {v1 : Int32} {v2 : Int32} {t0 : Int32} {t1 : Int32}
    (k : xg d qM_part [.int v0, .int (0 : Int32)] (sh, I, J) (xI (fun v h1 => xG d zm_M_parted (31, [some (.int v0), some (.int v1), some (.int v2), some (.int ((t0 + t1) &&& (255 : Int32))), none], [.int v]) h1 Q) (fun x h1 => Q (.inr x) h1))) :
    xG d zm_M_parted (20, [some (.int v0), some (.int v1), some (.int v2), none, none], [.int t1, .int t0]) (sh, I, J) Q := by
  exact xG_N 6 (ps := []) (f1 := (28, [some (.int v0), some (.int v1), some (.int v2), some (.int ((t0 + t1) &&& (255 : Int32))), none], [.int (0 : Int32), .int v0])) (h1 := (sh, I, J)) rfl trivial (xG_Ci rfl rfl (Nat.le_of_ble_eq_true rfl) (Nat.le_of_ble_eq_true rfl) trivial rfl k)
set_option maxRecDepth 100000 in
theorem s_M_parted_31 {d : Nat} {Q : xO → xH → Prop} {sh : List xS} {I : Nat → Nat → Int32} {J : Nat → Nat → Int64} {v0 : Int32} {v1 : Int32} {v2 : Int32} {v3 : Int32} {t0 : Int32}
    (k : xg d qM_part [.int v1, .int (1 : Int32)] (sh, I, J) (xI (fun v h1 => xG d zm_M_parted (36, [some (.int v0), some (.int v1), some (.int v2), some (.int v3), none], [.int v, .int t0]) h1 Q) (fun x h1 => Q (.inr x) h1))) :
    xG d zm_M_parted (31, [some (.int v0), some (.int v1), some (.int v2), some (.int v3), none], [.int t0]) (sh, I, J) Q := by
  exact xG_N 2 (ps := []) (f1 := (33, [some (.int v0), some (.int v1), some (.int v2), some (.int v3), none], [.int (1 : Int32), .int v1, .int t0])) (h1 := (sh, I, J)) rfl trivial (xG_Ci rfl rfl (Nat.le_of_ble_eq_true rfl) (Nat.le_of_ble_eq_true rfl) trivial rfl k)
set_option maxRecDepth 100000 in
theorem s_M_parted_36 {d : Nat} {Q : xO → xH → Prop} {sh : List xS} {I : Nat → Nat → Int32} {J : Nat → Nat → Int64} {v0 : Int32} {v1 : Int32} {v2 : Int32} {v3 : Int32} {t0 : Int32} {t1 : Int32}
    (k : xg d qM_delta [.int t1, .int v2] (sh, I, J) (xI (fun v h1 => xG d zm_M_parted (40, [some (.int v0), some (.int v1), some (.int v2), some (.int v3), none], [.int v, .int t0]) h1 Q) (fun x h1 => Q (.inr x) h1))) :
    xG d zm_M_parted (36, [some (.int v0), some (.int v1), some (.int v2), some (.int v3), none], [.int t1, .int t0]) (sh, I, J) Q := by
  exact xG_N 1 (ps := []) (f1 := (37, [some (.int v0), some (.int v1), some (.int v2), some (.int v3), none], [.int v2, .int t1, .int t0])) (h1 := (sh, I, J)) rfl trivial (xG_Ci rfl rfl (Nat.le_of_ble_eq_true rfl) (Nat.le_of_ble_eq_true rfl) trivial rfl k)
set_option maxRecDepth 100000 in
theorem s_M_parted_40 {d : Nat} {Q : xO → xH → Prop} {sh : List xS} {I : Nat → Nat → Int32} {J : Nat → Nat → Int64} {v0 : Int32} {v1 : Int32} {v2 : Int32} {v3 : Int32} {t0 : Int32} {t1 : Int32}
    (k : xg d qM_part [.int v1, .int (2 : Int32)] (sh, I, J) (xI (fun v h1 => xG d zm_M_parted (46, [some (.int v0), some (.int v1), some (.int v2), some (.int v3), none], [.int v, .int (t0 + t1)]) h1 Q) (fun x h1 => Q (.inr x) h1))) :
    xG d zm_M_parted (40, [some (.int v0), some (.int v1), some (.int v2), some (.int v3), none], [.int t1, .int t0]) (sh, I, J) Q := by
  exact xG_N 3 (ps := []) (f1 := (43, [some (.int v0), some (.int v1), some (.int v2), some (.int v3), none], [.int (2 : Int32), .int v1, .int (t0 + t1)])) (h1 := (sh, I, J)) rfl trivial (xG_Ci rfl rfl (Nat.le_of_ble_eq_true rfl) (Nat.le_of_ble_eq_true rfl) trivial rfl k)
set_option maxRecDepth 100000 in
theorem s_M_parted_46 {d : Nat} {Q : xO → xH → Prop} {sh : List xS} {I : Nat → Nat → Int32} {J : Nat → Nat → Int64} {v0 : Int32} {v1 : Int32} {v2 : Int32} {v3 : Int32} {t0 : Int32} {t1 : Int32}
    (k : xg d qM_delta [.int t1, .int v3] (sh, I, J) (xI (fun v h1 => xG d zm_M_parted (50, [some (.int v0), some (.int v1), some (.int v2), some (.int v3), none], [.int v, .int t0]) h1 Q) (fun x h1 => Q (.inr x) h1))) :
    xG d zm_M_parted (46, [some (.int v0), some (.int v1), some (.int v2), some (.int v3), none], [.int t1, .int t0]) (sh, I, J) Q := by
  exact xG_N 1 (ps := []) (f1 := (47, [some (.int v0), some (.int v1), some (.int v2), some (.int v3), none], [.int v3, .int t1, .int t0])) (h1 := (sh, I, J)) rfl trivial (xG_Ci rfl rfl (Nat.le_of_ble_eq_true rfl) (Nat.le_of_ble_eq_true rfl) trivial rfl k)
set_option maxRecDepth 100000 in
theorem s_M_parted_50 {d : Nat} {Q : xO → xH → Prop} {sh : List xS} {I : Nat → Nat → Int32} {J : Nat → Nat → Int64} {v0 : Int32} {v1 : Int32} {v2 : Int32} {v3 : Int32} {t0 : Int32} {t1 : Int32}
    (k : Q (.inl (some (.int (((v0 &&& (-16711936 : Int32)) ||| (v3 <<< ((16 : Int32) &&& 31))) ||| ((t0 + t1) &&& (255 : Int32)))))) (sh, I, J)) :
    xG d zm_M_parted (50, [some (.int v0), some (.int v1), some (.int v2), some (.int v3), none], [.int t1, .int t0]) (sh, I, J) Q := by
  exact xG_N 13 (ps := []) (f1 := (69, [some (.int v0), some (.int v1), some (.int v2), some (.int v3), some (.int ((t0 + t1) &&& (255 : Int32)))], [.int (((v0 &&& (-16711936 : Int32)) ||| (v3 <<< ((16 : Int32) &&& 31))) ||| ((t0 + t1) &&& (255 : Int32)))])) (h1 := (sh, I, J)) rfl trivial (xG_Q rfl rfl trivial k)
set_option maxRecDepth 100000 in
theorem s_M_greened_0 {d : Nat} {Q : xO → xH → Prop} {sh : List xS} {I : Nat → Nat → Int32} {J : Nat → Nat → Int64} {v0 : Int32}
    (k : xg d qM_part [.int v0, .int (1 : Int32)] (sh, I, J) (xI (fun v h1 => xG d zm_M_greened (5, [some (.int v0), none], [.int v]) h1 Q) (fun x h1 => Q (.inr x) h1))) :
    xG d zm_M_greened (0, [some (.int v0), none], []) (sh, I, J) Q := by
  exact xG_N 2 (ps := []) (f1 := (2, [some (.int v0), none], [.int (1 : Int32), .int v0])) (h1 := (sh, I, J)) rfl trivial (xG_Ci rfl rfl (Nat.le_of_ble_eq_true rfl) (Nat.le_of_ble_eq_true rfl) trivial rfl k)
set_option maxRecDepth 100000 in
theorem s_M_greened_5 {d : Nat} {Q : xO → xH → Prop} {sh : List xS} {I : Nat → Nat → Int32} {J : Nat → Nat → Int64} {v0 : Int32} {t0 : Int32}
    (k : xg d qM_part [.int v0, .int (2 : Int32)] (sh, I, J) (xI (fun v h1 => xG d zm_M_greened (15, [some (.int v0), some (.int t0)], [.int v, .int (v0 &&& (-16711936 : Int32))]) h1 Q) (fun x h1 => Q (.inr x) h1))) :
    xG d zm_M_greened (5, [some (.int v0), none], [.int t0]) (sh, I, J) Q := by
  exact xG_N 6 (ps := []) (f1 := (12, [some (.int v0), some (.int t0)], [.int (2 : Int32), .int v0, .int (v0 &&& (-16711936 : Int32))])) (h1 := (sh, I, J)) rfl trivial (xG_Ci rfl rfl (Nat.le_of_ble_eq_true rfl) (Nat.le_of_ble_eq_true rfl) trivial rfl k)
set_option maxRecDepth 100000 in
theorem s_M_greened_15 {d : Nat} {Q : xO → xH → Prop} {sh : List xS} {I : Nat → Nat → Int32} {J : Nat → Nat → Int64} {v0 : Int32} {v1 : Int32} {t0 : Int32} {t1 : Int32}
    (k : xg d qM_part [.int v0, .int (0 : Int32)] (sh, I, J) (xI (fun v h1 => xG d zm_M_greened (30, [some (.int v0), some (.int v1)], [.int v, .int (t0 ||| (((t1 + v1) &&& (255 : Int32)) <<< ((16 : Int32) &&& 31)))]) h1 Q) (fun x h1 => Q (.inr x) h1))) :
    xG d zm_M_greened (15, [some (.int v0), some (.int v1)], [.int t1, .int t0]) (sh, I, J) Q := by
  exact xG_N 9 (ps := []) (f1 := (27, [some (.int v0), some (.int v1)], [.int (0 : Int32), .int v0, .int (t0 ||| (((t1 + v1) &&& (255 : Int32)) <<< ((16 : Int32) &&& 31)))])) (h1 := (sh, I, J)) rfl trivial (xG_Ci rfl rfl (Nat.le_of_ble_eq_true rfl) (Nat.le_of_ble_eq_true rfl) trivial rfl k)
set_option maxRecDepth 100000 in
theorem s_M_greened_30 {d : Nat} {Q : xO → xH → Prop} {sh : List xS} {I : Nat → Nat → Int32} {J : Nat → Nat → Int64} {v0 : Int32} {v1 : Int32} {t0 : Int32} {t1 : Int32}
    (k : Q (.inl (some (.int (t0 ||| ((t1 + v1) &&& (255 : Int32)))))) (sh, I, J)) :
    xG d zm_M_greened (30, [some (.int v0), some (.int v1)], [.int t1, .int t0]) (sh, I, J) Q := by
  exact xG_N 5 (ps := []) (f1 := (37, [some (.int v0), some (.int v1)], [.int (t0 ||| ((t1 + v1) &&& (255 : Int32)))])) (h1 := (sh, I, J)) rfl trivial (xG_Q rfl rfl trivial k)
set_option maxRecDepth 100000 in
theorem s_M_unpacked_0 {d : Nat} {Q : xO → xH → Prop} {sh : List xS} {I : Nat → Nat → Int32} {J : Nat → Nat → Int64} {r0 : Nat} {v1 : Int32} {v2 : Int32} {v3 : Int32}
    (e0 : xOb sh r0 10)
    (k1 : (3 : Int32) ≤ (I r0 26) → xG d zm_M_unpacked (13, [some (.ref r0), some (.int v1), some (.int v2), some (.int v3), none, none, none], []) (sh, I, J) Q)
    (k2 : ¬ ((3 : Int32) ≤ (I r0 26)) → xG d zm_M_unpacked (8, [some (.ref r0), some (.int v1), some (.int v2), some (.int v3), none, none, none], []) (sh, I, J) Q) :
    xG d zm_M_unpacked (0, [some (.ref r0), some (.int v1), some (.int v2), some (.int v3), none, none, none], []) (sh, I, J) Q := by
  exact xG_N 3 (ps := [xOb sh r0 10]) (f1 := (5, [some (.ref r0), some (.int v1), some (.int v2), some (.int v3), none, none, none], [.int (3 : Int32), .int (I r0 26)])) (h1 := (sh, I, J)) rfl e0 (xG_B rfl rfl k1 k2)
set_option maxRecDepth 100000 in
theorem s_M_unpacked_8 {d : Nat} {Q : xO → xH → Prop} {sh : List xS} {I : Nat → Nat → Int32} {J : Nat → Nat → Int64} {r0 : Nat} {v1 : Int32} {v2 : Int32} {v3 : Int32} {a1 : Nat} {n2 : Nat}
    (e0 : xRr sh r0 10 14 a1)
    (e1 : xAr sh a1 .int n2)
    (e2 : vp_in ((v2 * v3) + (v1 / (8 : Int32))) n2)
    (k : xg d qM_part [.int (I a1 ((v2 * v3) + (v1 / (8 : Int32))).toNatClampNeg), .int (1 : Int32)] (sh, I, J) (xI (fun v h1 => xG d zm_M_unpacked (52, [some (.ref r0), some (.int v1), some (.int v2), some (.int v3), some (.int (8 : Int32)), some (.int ((8 : Int32) / (8 : Int32))), none], [.int v]) h1 Q) (fun x h1 => Q (.inr x) h1))) :
    xG d zm_M_unpacked (8, [some (.ref r0), some (.int v1), some (.int v2), some (.int v3), none, none, none], []) (sh, I, J) Q := by
  obtain rfl := e0.eq
  obtain rfl := e1.eq
  exact xG_N 18 (ps := [¬ (8 : Int32) = 0, xRf sh r0 10 14, ¬ (8 : Int32) = 0, xA sh (xrf sh r0 14) .int, vp_in ((v2 * v3) + (v1 / (8 : Int32))) (xlen sh (xrf sh r0 14))]) (f1 := (49, [some (.ref r0), some (.int v1), some (.int v2), some (.int v3), some (.int (8 : Int32)), some (.int ((8 : Int32) / (8 : Int32))), none], [.int (1 : Int32), .int (I (xrf sh r0 14) ((v2 * v3) + (v1 / (8 : Int32))).toNatClampNeg)])) (h1 := (sh, I, J)) rfl ⟨(show ¬ (8 : Int32) = 0 by decide), e0.rf, (show ¬ (8 : Int32) = 0 by decide), e1.ar, e2⟩ (xG_Ci rfl rfl (Nat.le_of_ble_eq_true rfl) (Nat.le_of_ble_eq_true rfl) trivial rfl k)
set_option maxRecDepth 100000 in
theorem s_M_unpacked_13 {d : Nat} {Q : xO → xH → Prop} {sh : List xS} {I : Nat → Nat → Int32} {J : Nat → Nat → Int64} {r0 : Nat} {v1 : Int32} {v2 : Int32} {v3 : Int32}
    (e0 : xOb sh r0 10)
    (k1 : (5 : Int32) ≤ (I r0 26) → xG d zm_M_unpacked (25, [some (.ref r0), some (.int v1), some (.int v2), some (.int v3), none, none, none], []) (sh, I, J) Q)
    (k2 : ¬ ((5 : Int32) ≤ (I r0 26)) → xG d zm_M_unpacked (21, [some (.ref r0), some (.int v1), some (.int v2), some (.int v3), none, none, none], []) (sh, I, J) Q) :
    xG d zm_M_unpacked (13, [some (.ref r0), some (.int v1), some (.int v2), some (.int v3), none, none, none], []) (sh, I, J) Q := by
  exact xG_N 3 (ps := [xOb sh r0 10]) (f1 := (18, [some (.ref r0), some (.int v1), some (.int v2), some (.int v3), none, none, none], [.int (5 : Int32), .int (I r0 26)])) (h1 := (sh, I, J)) rfl e0 (xG_B rfl rfl k1 k2)
set_option maxRecDepth 100000 in
theorem s_M_unpacked_21 {d : Nat} {Q : xO → xH → Prop} {sh : List xS} {I : Nat → Nat → Int32} {J : Nat → Nat → Int64} {r0 : Nat} {v1 : Int32} {v2 : Int32} {v3 : Int32} {a1 : Nat} {n2 : Nat}
    (e0 : xRr sh r0 10 14 a1)
    (e1 : xAr sh a1 .int n2)
    (e2 : vp_in ((v2 * v3) + (v1 / (4 : Int32))) n2)
    (k : xg d qM_part [.int (I a1 ((v2 * v3) + (v1 / (4 : Int32))).toNatClampNeg), .int (1 : Int32)] (sh, I, J) (xI (fun v h1 => xG d zm_M_unpacked (52, [some (.ref r0), some (.int v1), some (.int v2), some (.int v3), some (.int (4 : Int32)), some (.int ((8 : Int32) / (4 : Int32))), none], [.int v]) h1 Q) (fun x h1 => Q (.inr x) h1))) :
    xG d zm_M_unpacked (21, [some (.ref r0), some (.int v1), some (.int v2), some (.int v3), none, none, none], []) (sh, I, J) Q := by
  obtain rfl := e0.eq
  obtain rfl := e1.eq
  exact xG_N 18 (ps := [¬ (4 : Int32) = 0, xRf sh r0 10 14, ¬ (4 : Int32) = 0, xA sh (xrf sh r0 14) .int, vp_in ((v2 * v3) + (v1 / (4 : Int32))) (xlen sh (xrf sh r0 14))]) (f1 := (49, [some (.ref r0), some (.int v1), some (.int v2), some (.int v3), some (.int (4 : Int32)), some (.int ((8 : Int32) / (4 : Int32))), none], [.int (1 : Int32), .int (I (xrf sh r0 14) ((v2 * v3) + (v1 / (4 : Int32))).toNatClampNeg)])) (h1 := (sh, I, J)) rfl ⟨(show ¬ (4 : Int32) = 0 by decide), e0.rf, (show ¬ (4 : Int32) = 0 by decide), e1.ar, e2⟩ (xG_Ci rfl rfl (Nat.le_of_ble_eq_true rfl) (Nat.le_of_ble_eq_true rfl) trivial rfl k)
set_option maxRecDepth 100000 in
theorem s_M_unpacked_25 {d : Nat} {Q : xO → xH → Prop} {sh : List xS} {I : Nat → Nat → Int32} {J : Nat → Nat → Int64} {r0 : Nat} {v1 : Int32} {v2 : Int32} {v3 : Int32} {a1 : Nat} {n2 : Nat}
    (e0 : xRr sh r0 10 14 a1)
    (e1 : xAr sh a1 .int n2)
    (e2 : vp_in ((v2 * v3) + (v1 / (2 : Int32))) n2)
    (k : xg d qM_part [.int (I a1 ((v2 * v3) + (v1 / (2 : Int32))).toNatClampNeg), .int (1 : Int32)] (sh, I, J) (xI (fun v h1 => xG d zm_M_unpacked (52, [some (.ref r0), some (.int v1), some (.int v2), some (.int v3), some (.int (2 : Int32)), some (.int ((8 : Int32) / (2 : Int32))), none], [.int v]) h1 Q) (fun x h1 => Q (.inr x) h1))) :
    xG d zm_M_unpacked (25, [some (.ref r0), some (.int v1), some (.int v2), some (.int v3), none, none, none], []) (sh, I, J) Q := by
  obtain rfl := e0.eq
  obtain rfl := e1.eq
  exact xG_N 17 (ps := [¬ (2 : Int32) = 0, xRf sh r0 10 14, ¬ (2 : Int32) = 0, xA sh (xrf sh r0 14) .int, vp_in ((v2 * v3) + (v1 / (2 : Int32))) (xlen sh (xrf sh r0 14))]) (f1 := (49, [some (.ref r0), some (.int v1), some (.int v2), some (.int v3), some (.int (2 : Int32)), some (.int ((8 : Int32) / (2 : Int32))), none], [.int (1 : Int32), .int (I (xrf sh r0 14) ((v2 * v3) + (v1 / (2 : Int32))).toNatClampNeg)])) (h1 := (sh, I, J)) rfl ⟨(show ¬ (2 : Int32) = 0 by decide), e0.rf, (show ¬ (2 : Int32) = 0 by decide), e1.ar, e2⟩ (xG_Ci rfl rfl (Nat.le_of_ble_eq_true rfl) (Nat.le_of_ble_eq_true rfl) trivial rfl k)
set_option maxRecDepth 100000 in
theorem s_M_unpacked_52 {d : Nat} {Q : xO → xH → Prop} {sh : List xS} {I : Nat → Nat → Int32} {J : Nat → Nat → Int64} {r0 : Nat} {v1 : Int32} {v2 : Int32} {v3 : Int32} {v4 : Int32} {v5 : Int32} {t0 : Int32}
    (e0 : ¬ v4 = 0)
    (e1 : xOb sh r0 10)
    (k1 : (I r0 26) ≤ ((t0 >>> ((v5 * (v1 - v1 / v4 * v4)) &&& 31)) &&& (((1 : Int32) <<< (v5 &&& 31)) - (1 : Int32))) → xG d zm_M_unpacked (88, [some (.ref r0), some (.int v1), some (.int v2), some (.int v3), some (.int v4), some (.int v5), some (.int ((t0 >>> ((v5 * (v1 - v1 / v4 * v4)) &&& 31)) &&& (((1 : Int32) <<< (v5 &&& 31)) - (1 : Int32))))], []) (sh, I, J) Q)
    (k2 : ¬ ((I r0 26) ≤ ((t0 >>> ((v5 * (v1 - v1 / v4 * v4)) &&& 31)) &&& (((1 : Int32) <<< (v5 &&& 31)) - (1 : Int32)))) → xG d zm_M_unpacked (78, [some (.ref r0), some (.int v1), some (.int v2), some (.int v3), some (.int v4), some (.int v5), some (.int ((t0 >>> ((v5 * (v1 - v1 / v4 * v4)) &&& 31)) &&& (((1 : Int32) <<< (v5 &&& 31)) - (1 : Int32))))], []) (sh, I, J) Q) :
    xG d zm_M_unpacked (52, [some (.ref r0), some (.int v1), some (.int v2), some (.int v3), some (.int v4), some (.int v5), none], [.int t0]) (sh, I, J) Q := by
  exact xG_N 16 (ps := [¬ v4 = 0, xOb sh r0 10]) (f1 := (75, [some (.ref r0), some (.int v1), some (.int v2), some (.int v3), some (.int v4), some (.int v5), some (.int ((t0 >>> ((v5 * (v1 - v1 / v4 * v4)) &&& 31)) &&& (((1 : Int32) <<< (v5 &&& 31)) - (1 : Int32))))], [.int (I r0 26), .int ((t0 >>> ((v5 * (v1 - v1 / v4 * v4)) &&& 31)) &&& (((1 : Int32) <<< (v5 &&& 31)) - (1 : Int32)))])) (h1 := (sh, I, J)) rfl ⟨e0, e1⟩ (xG_B rfl rfl k1 k2)
set_option maxRecDepth 100000 in
theorem s_M_unpacked_78 {d : Nat} {Q : xO → xH → Prop} {sh : List xS} {I : Nat → Nat → Int32} {J : Nat → Nat → Int64} {r0 : Nat} {v1 : Int32} {v2 : Int32} {v3 : Int32} {v4 : Int32} {v5 : Int32} {v6 : Int32} {a1 : Nat} {n2 : Nat}
    (e0 : xRr sh r0 10 25 a1)
    (e1 : xAr sh a1 .int n2)
    (e2 : vp_in v6 n2)
    (k : Q (.inl (some (.int (I a1 v6.toNatClampNeg)))) (sh, I, J)) :
    xG d zm_M_unpacked (78, [some (.ref r0), some (.int v1), some (.int v2), some (.int v3), some (.int v4), some (.int v5), some (.int v6)], []) (sh, I, J) Q := by
  obtain rfl := e0.eq
  obtain rfl := e1.eq
  exact xG_N 5 (ps := [xRf sh r0 10 25, xA sh (xrf sh r0 25) .int, vp_in v6 (xlen sh (xrf sh r0 25))]) (f1 := (89, [some (.ref r0), some (.int v1), some (.int v2), some (.int v3), some (.int v4), some (.int v5), some (.int v6)], [.int (I (xrf sh r0 25) v6.toNatClampNeg)])) (h1 := (sh, I, J)) rfl ⟨e0.rf, e1.ar, e2⟩ (xG_Q rfl rfl trivial k)
set_option maxRecDepth 100000 in
theorem s_M_unpacked_88 {d : Nat} {Q : xO → xH → Prop} {sh : List xS} {I : Nat → Nat → Int32} {J : Nat → Nat → Int64} {r0 : Nat} {v1 : Int32} {v2 : Int32} {v3 : Int32} {v4 : Int32} {v5 : Int32} {v6 : Int32}
    (k : Q (.inl (some (.int (0 : Int32)))) (sh, I, J)) :
    xG d zm_M_unpacked (88, [some (.ref r0), some (.int v1), some (.int v2), some (.int v3), some (.int v4), some (.int v5), some (.int v6)], []) (sh, I, J) Q := by
  exact xG_N 1 (ps := []) (f1 := (89, [some (.ref r0), some (.int v1), some (.int v2), some (.int v3), some (.int v4), some (.int v5), some (.int v6)], [.int (0 : Int32)])) (h1 := (sh, I, J)) rfl trivial (xG_Q rfl rfl trivial k)
set_option maxRecDepth 100000 in
theorem s_M_undo_0 {d : Nat} {Q : xO → xH → Prop} {sh : List xS} {I : Nat → Nat → Int32} {J : Nat → Nat → Int64} {r0 : Nat} {v1 : Int32} {v2 : Int32} {v3 : Int32}
    (k1 : ¬ v1 = (3 : Int32) → xG d zm_M_undo (85, [some (.ref r0), some (.int v1), some (.int v2), some (.int v3), none, none], []) (sh, I, J) Q)
    (k2 : ¬ (¬ v1 = (3 : Int32)) → xG d zm_M_undo (5, [some (.ref r0), some (.int v1), some (.int v2), some (.int v3), none, none], []) (sh, I, J) Q) :
    xG d zm_M_undo (0, [some (.ref r0), some (.int v1), some (.int v2), some (.int v3), none, none], []) (sh, I, J) Q := by
  exact xG_N 2 (ps := []) (f1 := (2, [some (.ref r0), some (.int v1), some (.int v2), some (.int v3), none, none], [.int (3 : Int32), .int v1])) (h1 := (sh, I, J)) rfl trivial (xG_B rfl rfl k1 k2)
set_option maxRecDepth 100000 in
theorem s_M_undo_5 {d : Nat} {Q : xO → xH → Prop} {sh : List xS} {I : Nat → Nat → Int32} {J : Nat → Nat → Int64} {r0 : Nat} {v1 : Int32} {v2 : Int32} {v3 : Int32}
    (e0 : xOb sh r0 10)
    (k : xg d qM_packed [.int v2, .int (I r0 26)] (sh, I, J) (xI (fun v h1 => xG d zm_M_undo (13, [some (.ref r0), some (.int v1), some (.int v2), some (.int v3), none, none], [.int v]) h1 Q) (fun x h1 => Q (.inr x) h1))) :
    xG d zm_M_undo (5, [some (.ref r0), some (.int v1), some (.int v2), some (.int v3), none, none], []) (sh, I, J) Q := by
  exact xG_N 3 (ps := [xOb sh r0 10]) (f1 := (10, [some (.ref r0), some (.int v1), some (.int v2), some (.int v3), none, none], [.int (I r0 26), .int v2])) (h1 := (sh, I, J)) rfl e0 (xG_Ci rfl rfl (Nat.le_of_ble_eq_true rfl) (Nat.le_of_ble_eq_true rfl) trivial rfl k)
set_option maxRecDepth 100000 in
theorem s_M_undo_13 {d : Nat} {Q : xO → xH → Prop} {sh : List xS} {I : Nat → Nat → Int32} {J : Nat → Nat → Int64} {r0 : Nat} {v1 : Int32} {v2 : Int32} {v3 : Int32} {t0 : Int32}
    (k : xG d zm_M_undo (18, [some (.ref r0), some (.int v1), some (.int v2), some (.int v3), some (.int t0), some (.int (0 : Int32))], []) (sh, I, J) Q) :
    xG d zm_M_undo (13, [some (.ref r0), some (.int v1), some (.int v2), some (.int v3), none, none], [.int t0]) (sh, I, J) Q := by
  exact xG_N 3 (ps := []) (f1 := (18, [some (.ref r0), some (.int v1), some (.int v2), some (.int v3), some (.int t0), some (.int (0 : Int32))], [])) (h1 := (sh, I, J)) rfl trivial (k)
set_option maxRecDepth 100000 in
theorem s_M_undo_18 {d : Nat} {Q : xO → xH → Prop} {sh : List xS} {I : Nat → Nat → Int32} {J : Nat → Nat → Int64} {r0 : Nat} {v1 : Int32} {v2 : Int32} {v3 : Int32} {v4 : Int32} {v5 : Int32}
    (k1 : (v2 * v3) ≤ v5 → xG d zm_M_undo (53, [some (.ref r0), some (.int v1), some (.int v2), some (.int v3), some (.int v4), some (.int v5)], []) (sh, I, J) Q)
    (k2 : ¬ ((v2 * v3) ≤ v5) → xG d zm_M_undo (26, [some (.ref r0), some (.int v1), some (.int v2), some (.int v3), some (.int v4), some (.int v5)], []) (sh, I, J) Q) :
    xG d zm_M_undo (18, [some (.ref r0), some (.int v1), some (.int v2), some (.int v3), some (.int v4), some (.int v5)], []) (sh, I, J) Q := by
  exact xG_N 4 (ps := []) (f1 := (23, [some (.ref r0), some (.int v1), some (.int v2), some (.int v3), some (.int v4), some (.int v5)], [.int (v2 * v3), .int v5])) (h1 := (sh, I, J)) rfl trivial (xG_B rfl rfl k1 k2)
set_option maxRecDepth 100000 in
theorem s_M_undo_26 {d : Nat} {Q : xO → xH → Prop} {sh : List xS} {I : Nat → Nat → Int32} {J : Nat → Nat → Int64} {r0 : Nat} {v1 : Int32} {v2 : Int32} {v3 : Int32} {v4 : Int32} {v5 : Int32} {a1 : Nat}
    (e0 : xRr sh r0 10 15 a1)
    (e1 : ¬ v2 = 0)
    (k : xg d qM_unpacked [.ref r0, .int (v5 - v5 / v2 * v2), .int (v5 / v2), .int v4] (sh, I, J) (xI (fun v h1 => xG d zm_M_undo (46, [some (.ref r0), some (.int v1), some (.int v2), some (.int v3), some (.int v4), some (.int v5)], [.int v, .int v5, .ref a1]) h1 Q) (fun x h1 => Q (.inr x) h1))) :
    xG d zm_M_undo (26, [some (.ref r0), some (.int v1), some (.int v2), some (.int v3), some (.int v4), some (.int v5)], []) (sh, I, J) Q := by
  obtain rfl := e0.eq
  exact xG_N 11 (ps := [xRf sh r0 10 15, ¬ v2 = 0, ¬ v2 = 0]) (f1 := (43, [some (.ref r0), some (.int v1), some (.int v2), some (.int v3), some (.int v4), some (.int v5)], [.int v4, .int (v5 / v2), .int (v5 - v5 / v2 * v2), .ref r0, .int v5, .ref (xrf sh r0 15)])) (h1 := (sh, I, J)) rfl ⟨e0.rf, e1, e1⟩ (xG_Ci rfl rfl (Nat.le_of_ble_eq_true rfl) (Nat.le_of_ble_eq_true rfl) ⟨_, _, rfl, e0.ob⟩ rfl k)
set_option maxRecDepth 100000 in
theorem s_M_undo_46 {d : Nat} {Q : xO → xH → Prop} {sh : List xS} {I : Nat → Nat → Int32} {J : Nat → Nat → Int64} {r0 : Nat} {v1 : Int32} {v2 : Int32} {v3 : Int32} {v4 : Int32} {v5 : Int32} {t0 : Nat} {t1 : Int32} {t2 : Int32} {n1 : Nat}
    (e0 : xAr sh t0 .int n1)
    (e1 : 4 ≤ t0)
    (e2 : vp_in t1 n1)
    (k : xG d zm_M_undo (18, [some (.ref r0), some (.int v1), some (.int v2), some (.int v3), some (.int v4), some (.int (v5 + (1 : Int32)))], []) (sh, xup I t0 t1.toNatClampNeg t2, J) Q) :
    xG d zm_M_undo (46, [some (.ref r0), some (.int v1), some (.int v2), some (.int v3), some (.int v4), some (.int v5)], [.int t2, .int t1, .ref t0]) (sh, I, J) Q := by
  obtain rfl := e0.eq
  exact xG_N 3 (ps := [xW sh t0 .int, vp_in t1 (xlen sh t0)]) (f1 := (18, [some (.ref r0), some (.int v1), some (.int v2), some (.int v3), some (.int v4), some (.int (v5 + (1 : Int32)))], [])) (h1 := (sh, xup I t0 t1.toNatClampNeg t2, J)) rfl ⟨⟨e0.ar, e1⟩, e2⟩ (k)
set_option maxRecDepth 100000 in
theorem s_M_undo_53 {d : Nat} {Q : xO → xH → Prop} {sh : List xS} {I : Nat → Nat → Int32} {J : Nat → Nat → Int64} {r0 : Nat} {v1 : Int32} {v2 : Int32} {v3 : Int32} {v4 : Int32} {v5 : Int32}
    (k : xG d zm_M_undo (56, [some (.ref r0), some (.int v1), some (.int v2), some (.int v3), some (.int v4), some (.int (0 : Int32))], []) (sh, I, J) Q) :
    xG d zm_M_undo (53, [some (.ref r0), some (.int v1), some (.int v2), some (.int v3), some (.int v4), some (.int v5)], []) (sh, I, J) Q := by
  exact xG_N 2 (ps := []) (f1 := (56, [some (.ref r0), some (.int v1), some (.int v2), some (.int v3), some (.int v4), some (.int (0 : Int32))], [])) (h1 := (sh, I, J)) rfl trivial (k)
set_option maxRecDepth 100000 in
theorem s_M_undo_56 {d : Nat} {Q : xO → xH → Prop} {sh : List xS} {I : Nat → Nat → Int32} {J : Nat → Nat → Int64} {r0 : Nat} {v1 : Int32} {v2 : Int32} {v3 : Int32} {v4 : Int32} {v5 : Int32}
    (k1 : (v2 * v3) ≤ v5 → xG d zm_M_undo (84, [some (.ref r0), some (.int v1), some (.int v2), some (.int v3), some (.int v4), some (.int v5)], []) (sh, I, J) Q)
    (k2 : ¬ ((v2 * v3) ≤ v5) → xG d zm_M_undo (64, [some (.ref r0), some (.int v1), some (.int v2), some (.int v3), some (.int v4), some (.int v5)], []) (sh, I, J) Q) :
    xG d zm_M_undo (56, [some (.ref r0), some (.int v1), some (.int v2), some (.int v3), some (.int v4), some (.int v5)], []) (sh, I, J) Q := by
  exact xG_N 4 (ps := []) (f1 := (61, [some (.ref r0), some (.int v1), some (.int v2), some (.int v3), some (.int v4), some (.int v5)], [.int (v2 * v3), .int v5])) (h1 := (sh, I, J)) rfl trivial (xG_B rfl rfl k1 k2)
set_option maxRecDepth 100000 in
theorem s_M_undo_64 {d : Nat} {Q : xO → xH → Prop} {sh : List xS} {I : Nat → Nat → Int32} {J : Nat → Nat → Int64} {r0 : Nat} {v1 : Int32} {v2 : Int32} {v3 : Int32} {v4 : Int32} {v5 : Int32} {a1 : Nat} {a2 : Nat} {n3 : Nat} {n4 : Nat}
    (e0 : xRr sh r0 10 14 a1)
    (e1 : xRr sh r0 10 15 a2)
    (e2 : xAr sh a2 .int n3)
    (e3 : vp_in v5 n3)
    (e4 : xAr sh a1 .int n4)
    (e5 : 4 ≤ a1)
    (e6 : vp_in v5 n4)
    (k : xG d zm_M_undo (56, [some (.ref r0), some (.int v1), some (.int v2), some (.int v3), some (.int v4), some (.int (v5 + (1 : Int32)))], []) (sh, xup I a1 v5.toNatClampNeg (I a2 v5.toNatClampNeg), J) Q) :
    xG d zm_M_undo (64, [some (.ref r0), some (.int v1), some (.int v2), some (.int v3), some (.int v4), some (.int v5)], []) (sh, I, J) Q := by
  obtain rfl := e0.eq
  obtain rfl := e1.eq
  obtain rfl := e2.eq
  obtain rfl := e4.eq
  exact xG_N 10 (ps := [xRf sh r0 10 14, xRf sh r0 10 15, xA sh (xrf sh r0 15) .int, vp_in v5 (xlen sh (xrf sh r0 15)), xW sh (xrf sh r0 14) .int, vp_in v5 (xlen sh (xrf sh r0 14))]) (f1 := (56, [some (.ref r0), some (.int v1), some (.int v2), some (.int v3), some (.int v4), some (.int (v5 + (1 : Int32)))], [])) (h1 := (sh, xup I (xrf sh r0 14) v5.toNatClampNeg (I (xrf sh r0 15) v5.toNatClampNeg), J)) rfl ⟨e0.rf, e1.rf, e2.ar, e3, ⟨e4.ar, e5⟩, e6⟩ (k)
set_option maxRecDepth 100000 in
theorem s_M_undo_84 {d : Nat} {Q : xO → xH → Prop} {sh : List xS} {I : Nat → Nat → Int32} {J : Nat → Nat → Int64} {r0 : Nat} {v1 : Int32} {v2 : Int32} {v3 : Int32} {v4 : Int32} {v5 : Int32}
    (k : Q (.inl (none)) (sh, I, J)) :
    xG d zm_M_undo (84, [some (.ref r0), some (.int v1), some (.int v2), some (.int v3), some (.int v4), some (.int v5)], []) (sh, I, J) Q := by
  exact xG_Q rfl rfl trivial k
set_option maxRecDepth 100000 in
theorem s_M_undo_85 {d : Nat} {Q : xO → xH → Prop} {sh : List xS} {I : Nat → Nat → Int32} {J : Nat → Nat → Int64} {r0 : Nat} {v1 : Int32} {v2 : Int32} {v3 : Int32}
    (k : xG d zm_M_undo (88, [some (.ref r0), some (.int v1), some (.int v2), some (.int v3), some (.int (0 : Int32)), none], []) (sh, I, J) Q) :
    xG d zm_M_undo (85, [some (.ref r0), some (.int v1), some (.int v2), some (.int v3), none, none], []) (sh, I, J) Q := by
  exact xG_N 2 (ps := []) (f1 := (88, [some (.ref r0), some (.int v1), some (.int v2), some (.int v3), some (.int (0 : Int32)), none], [])) (h1 := (sh, I, J)) rfl trivial (k)
set_option maxRecDepth 100000 in
theorem s_M_undo_88 {d : Nat} {Q : xO → xH → Prop} {sh : List xS} {I : Nat → Nat → Int32} {J : Nat → Nat → Int64} {r0 : Nat} {v1 : Int32} {v2 : Int32} {v3 : Int32} {v4 : Int32} {o5 : Option Value}
    (k1 : (v2 * v3) ≤ v4 → xG d zm_M_undo (195, [some (.ref r0), some (.int v1), some (.int v2), some (.int v3), some (.int v4), o5], []) (sh, I, J) Q)
    (k2 : ¬ ((v2 * v3) ≤ v4) → xG d zm_M_undo (96, [some (.ref r0), some (.int v1), some (.int v2), some (.int v3), some (.int v4), o5], []) (sh, I, J) Q) :
    xG d zm_M_undo (88, [some (.ref r0), some (.int v1), some (.int v2), some (.int v3), some (.int v4), o5], []) (sh, I, J) Q := by
  exact xG_N 4 (ps := []) (f1 := (93, [some (.ref r0), some (.int v1), some (.int v2), some (.int v3), some (.int v4), o5], [.int (v2 * v3), .int v4])) (h1 := (sh, I, J)) rfl trivial (xG_B rfl rfl k1 k2)
set_option maxRecDepth 100000 in
theorem s_M_undo_96 {d : Nat} {Q : xO → xH → Prop} {sh : List xS} {I : Nat → Nat → Int32} {J : Nat → Nat → Int64} {r0 : Nat} {v1 : Int32} {v2 : Int32} {v3 : Int32} {v4 : Int32} {o5 : Option Value}
    (e0 : ¬ v2 = 0)
    (k : xg d qM_blocks [.int v2] (sh, I, J) (xI (fun v h1 => xG d zm_M_undo (106, [some (.ref r0), some (.int v1), some (.int v2), some (.int v3), some (.int v4), o5], [.int v, .int ((v4 / v2) / (4 : Int32))]) h1 Q) (fun x h1 => Q (.inr x) h1))) :
    xG d zm_M_undo (96, [some (.ref r0), some (.int v1), some (.int v2), some (.int v3), some (.int v4), o5], []) (sh, I, J) Q := by
  exact xG_N 6 (ps := [¬ v2 = 0, ¬ (4 : Int32) = 0]) (f1 := (103, [some (.ref r0), some (.int v1), some (.int v2), some (.int v3), some (.int v4), o5], [.int v2, .int ((v4 / v2) / (4 : Int32))])) (h1 := (sh, I, J)) rfl ⟨e0, (show ¬ (4 : Int32) = 0 by decide)⟩ (xG_Ci rfl rfl (Nat.le_of_ble_eq_true rfl) (Nat.le_of_ble_eq_true rfl) trivial rfl k)
set_option maxRecDepth 100000 in
theorem s_M_undo_106 {d : Nat} {Q : xO → xH → Prop} {sh : List xS} {I : Nat → Nat → Int32} {J : Nat → Nat → Int64} {r0 : Nat} {v1 : Int32} {v2 : Int32} {v3 : Int32} {v4 : Int32} {o5 : Option Value} {t0 : Int32} {t1 : Int32} {a1 : Nat}
    (e0 : ¬ v2 = 0)
    (e1 : xRr sh r0 10 14 a1)
    (k1 : ¬ v1 = 0 → xG d zm_M_undo (153, [some (.ref r0), some (.int v1), some (.int v2), some (.int v3), some (.int v4), some (.int ((t0 * t1) + ((v4 - v4 / v2 * v2) / (4 : Int32))))], [.int v4, .ref a1]) (sh, I, J) Q)
    (k2 : ¬ (¬ v1 = 0) → xG d zm_M_undo (126, [some (.ref r0), some (.int v1), some (.int v2), some (.int v3), some (.int v4), some (.int ((t0 * t1) + ((v4 - v4 / v2 * v2) / (4 : Int32))))], [.int v4, .ref a1]) (sh, I, J) Q) :
    xG d zm_M_undo (106, [some (.ref r0), some (.int v1), some (.int v2), some (.int v3), some (.int v4), o5], [.int t1, .int t0]) (sh, I, J) Q := by
  obtain rfl := e1.eq
  exact xG_N 12 (ps := [¬ v2 = 0, ¬ (4 : Int32) = 0, xRf sh r0 10 14]) (f1 := (123, [some (.ref r0), some (.int v1), some (.int v2), some (.int v3), some (.int v4), some (.int ((t0 * t1) + ((v4 - v4 / v2 * v2) / (4 : Int32))))], [.int v1, .int v4, .ref (xrf sh r0 14)])) (h1 := (sh, I, J)) rfl ⟨e0, (show ¬ (4 : Int32) = 0 by decide), e1.rf⟩ (xG_B rfl rfl k1 k2)
set_option maxRecDepth 100000 in
theorem s_M_undo_126 {d : Nat} {Q : xO → xH → Prop} {sh : List xS} {I : Nat → Nat → Int32} {J : Nat → Nat → Int64} {r0 : Nat} {v1 : Int32} {v2 : Int32} {v3 : Int32} {v4 : Int32} {v5 : Int32} {t0 : Nat} {t1 : Int32} {a1 : Nat} {n2 : Nat} {a3 : Nat} {n4 : Nat}
    (e0 : xRr sh r0 10 14 a1)
    (e1 : xAr sh a1 .int n2)
    (e2 : vp_in v4 n2)
    (e3 : xRr sh r0 10 23 a3)
    (e4 : xAr sh a3 .int n4)
    (e5 : vp_in v5 n4)
    (k : xg d qM_foretoldAt [.ref r0, .int v4, .int v2, .int (I a3 v5.toNatClampNeg)] (sh, I, J) (xI (fun v h1 => xG d zm_M_undo (147, [some (.ref r0), some (.int v1), some (.int v2), some (.int v3), some (.int v4), some (.int v5)], [.int v, .int (I a1 v4.toNatClampNeg), .int t1, .ref t0]) h1 Q) (fun x h1 => Q (.inr x) h1))) :
    xG d zm_M_undo (126, [some (.ref r0), some (.int v1), some (.int v2), some (.int v3), some (.int v4), some (.int v5)], [.int t1, .ref t0]) (sh, I, J) Q := by
  obtain rfl := e0.eq
  obtain rfl := e1.eq
  obtain rfl := e3.eq
  obtain rfl := e4.eq
  exact xG_N 11 (ps := [xRf sh r0 10 14, xA sh (xrf sh r0 14) .int, vp_in v4 (xlen sh (xrf sh r0 14)), xRf sh r0 10 23, xA sh (xrf sh r0 23) .int, vp_in v5 (xlen sh (xrf sh r0 23))]) (f1 := (144, [some (.ref r0), some (.int v1), some (.int v2), some (.int v3), some (.int v4), some (.int v5)], [.int (I (xrf sh r0 23) v5.toNatClampNeg), .int v2, .int v4, .ref r0, .int (I (xrf sh r0 14) v4.toNatClampNeg), .int t1, .ref t0])) (h1 := (sh, I, J)) rfl ⟨e0.rf, e1.ar, e2, e3.rf, e4.ar, e5⟩ (xG_Ci rfl rfl (Nat.le_of_ble_eq_true rfl) (Nat.le_of_ble_eq_true rfl) ⟨_, _, rfl, e3.ob⟩ rfl k)
set_option maxRecDepth 100000 in
theorem s_M_undo_147 {d : Nat} {Q : xO → xH → Prop} {sh : List xS} {I : Nat → Nat → Int32} {J : Nat → Nat → Int64} {r0 : Nat} {v1 : Int32} {v2 : Int32} {v3 : Int32} {v4 : Int32} {v5 : Int32} {t0 : Nat} {t1 : Int32} {t2 : Int32} {t3 : Int32}
    (k : xg d qM_plus [.int t2, .int t3] (sh, I, J) (xI (fun v h1 => xG d zm_M_undo (150, [some (.ref r0), some (.int v1), some (.int v2), some (.int v3), some (.int v4), some (.int v5)], [.int v, .int t1, .ref t0]) h1 Q) (fun x h1 => Q (.inr x) h1))) :
    xG d zm_M_undo (147, [some (.ref r0), some (.int v1), some (.int v2), some (.int v3), some (.int v4), some (.int v5)], [.int t3, .int t2, .int t1, .ref t0]) (sh, I, J) Q := by
  exact xG_Ci rfl rfl (Nat.le_of_ble_eq_true rfl) (Nat.le_of_ble_eq_true rfl) trivial rfl k
set_option maxRecDepth 100000 in
theorem s_M_undo_150 {d : Nat} {Q : xO → xH → Prop} {sh : List xS} {I : Nat → Nat → Int32} {J : Nat → Nat → Int64} {r0 : Nat} {v1 : Int32} {v2 : Int32} {v3 : Int32} {v4 : Int32} {v5 : Int32} {t0 : Nat} {t1 : Int32} {t2 : Int32} {n1 : Nat}
    (e0 : xAr sh t0 .int n1)
    (e1 : 4 ≤ t0)
    (e2 : vp_in t1 n1)
    (k : xG d zm_M_undo (88, [some (.ref r0), some (.int v1), some (.int v2), some (.int v3), some (.int (v4 + (1 : Int32))), some (.int v5)], []) (sh, xup I t0 t1.toNatClampNeg t2, J) Q) :
    xG d zm_M_undo (150, [some (.ref r0), some (.int v1), some (.int v2), some (.int v3), some (.int v4), some (.int v5)], [.int t2, .int t1, .ref t0]) (sh, I, J) Q := by
  obtain rfl := e0.eq
  exact xG_N 4 (ps := [xW sh t0 .int, vp_in t1 (xlen sh t0)]) (f1 := (88, [some (.ref r0), some (.int v1), some (.int v2), some (.int v3), some (.int (v4 + (1 : Int32))), some (.int v5)], [])) (h1 := (sh, xup I t0 t1.toNatClampNeg t2, J)) rfl ⟨⟨e0.ar, e1⟩, e2⟩ (k)
set_option maxRecDepth 100000 in
theorem s_M_undo_153 {d : Nat} {Q : xO → xH → Prop} {sh : List xS} {I : Nat → Nat → Int32} {J : Nat → Nat → Int64} {r0 : Nat} {v1 : Int32} {v2 : Int32} {v3 : Int32} {v4 : Int32} {v5 : Int32} {t0 : Nat} {t1 : Int32}
    (k1 : ¬ v1 = (1 : Int32) → xG d zm_M_undo (178, [some (.ref r0), some (.int v1), some (.int v2), some (.int v3), some (.int v4), some (.int v5)], [.int t1, .ref t0]) (sh, I, J) Q)
    (k2 : ¬ (¬ v1 = (1 : Int32)) → xG d zm_M_undo (158, [some (.ref r0), some (.int v1), some (.int v2), some (.int v3), some (.int v4), some (.int v5)], [.int t1, .ref t0]) (sh, I, J) Q) :
    xG d zm_M_undo (153, [some (.ref r0), some (.int v1), some (.int v2), some (.int v3), some (.int v4), some (.int v5)], [.int t1, .ref t0]) (sh, I, J) Q := by
  exact xG_N 2 (ps := []) (f1 := (155, [some (.ref r0), some (.int v1), some (.int v2), some (.int v3), some (.int v4), some (.int v5)], [.int (1 : Int32), .int v1, .int t1, .ref t0])) (h1 := (sh, I, J)) rfl trivial (xG_B rfl rfl k1 k2)
set_option maxRecDepth 100000 in
theorem s_M_undo_158 {d : Nat} {Q : xO → xH → Prop} {sh : List xS} {I : Nat → Nat → Int32} {J : Nat → Nat → Int64} {r0 : Nat} {v1 : Int32} {v2 : Int32} {v3 : Int32} {v4 : Int32} {v5 : Int32} {t0 : Nat} {t1 : Int32} {a1 : Nat} {n2 : Nat} {a3 : Nat} {n4 : Nat}
    (e0 : xRr sh r0 10 14 a1)
    (e1 : xAr sh a1 .int n2)
    (e2 : vp_in v4 n2)
    (e3 : xRr sh r0 10 24 a3)
    (e4 : xAr sh a3 .int n4)
    (e5 : vp_in v5 n4)
    (k : xg d qM_parted [.int (I a1 v4.toNatClampNeg), .int (I a3 v5.toNatClampNeg)] (sh, I, J) (xI (fun v h1 => xG d zm_M_undo (175, [some (.ref r0), some (.int v1), some (.int v2), some (.int v3), some (.int v4), some (.int v5)], [.int v, .int t1, .ref t0]) h1 Q) (fun x h1 => Q (.inr x) h1))) :
    xG d zm_M_undo (158, [some (.ref r0), some (.int v1), some (.int v2), some (.int v3), some (.int v4), some (.int v5)], [.int t1, .ref t0]) (sh, I, J) Q := by
  obtain rfl := e0.eq
  obtain rfl := e1.eq
  obtain rfl := e3.eq
  obtain rfl := e4.eq
  exact xG_N 8 (ps := [xRf sh r0 10 14, xA sh (xrf sh r0 14) .int, vp_in v4 (xlen sh (xrf sh r0 14)), xRf sh r0 10 24, xA sh (xrf sh r0 24) .int, vp_in v5 (xlen sh (xrf sh r0 24))]) (f1 := (172, [some (.ref r0), some (.int v1), some (.int v2), some (.int v3), some (.int v4), some (.int v5)], [.int (I (xrf sh r0 24) v5.toNatClampNeg), .int (I (xrf sh r0 14) v4.toNatClampNeg), .int t1, .ref t0])) (h1 := (sh, I, J)) rfl ⟨e0.rf, e1.ar, e2, e3.rf, e4.ar, e5⟩ (xG_Ci rfl rfl (Nat.le_of_ble_eq_true rfl) (Nat.le_of_ble_eq_true rfl) trivial rfl k)
set_option maxRecDepth 100000 in
theorem s_M_undo_175 {d : Nat} {Q : xO → xH → Prop} {sh : List xS} {I : Nat → Nat → Int32} {J : Nat → Nat → Int64} {r0 : Nat} {v1 : Int32} {v2 : Int32} {v3 : Int32} {v4 : Int32} {v5 : Int32} {t0 : Nat} {t1 : Int32} {t2 : Int32} {n1 : Nat}
    (e0 : xAr sh t0 .int n1)
    (e1 : 4 ≤ t0)
    (e2 : vp_in t1 n1)
    (k : xG d zm_M_undo (88, [some (.ref r0), some (.int v1), some (.int v2), some (.int v3), some (.int (v4 + (1 : Int32))), some (.int v5)], []) (sh, xup I t0 t1.toNatClampNeg t2, J) Q) :
    xG d zm_M_undo (175, [some (.ref r0), some (.int v1), some (.int v2), some (.int v3), some (.int v4), some (.int v5)], [.int t2, .int t1, .ref t0]) (sh, I, J) Q := by
  obtain rfl := e0.eq
  exact xG_N 4 (ps := [xW sh t0 .int, vp_in t1 (xlen sh t0)]) (f1 := (88, [some (.ref r0), some (.int v1), some (.int v2), some (.int v3), some (.int (v4 + (1 : Int32))), some (.int v5)], [])) (h1 := (sh, xup I t0 t1.toNatClampNeg t2, J)) rfl ⟨⟨e0.ar, e1⟩, e2⟩ (k)
set_option maxRecDepth 100000 in
theorem s_M_undo_178 {d : Nat} {Q : xO → xH → Prop} {sh : List xS} {I : Nat → Nat → Int32} {J : Nat → Nat → Int64} {r0 : Nat} {v1 : Int32} {v2 : Int32} {v3 : Int32} {v4 : Int32} {v5 : Int32} {t0 : Nat} {t1 : Int32} {a1 : Nat} {n2 : Nat}
    (e0 : xRr sh r0 10 14 a1)
    (e1 : xAr sh a1 .int n2)
    (e2 : vp_in v4 n2)
    (k : xg d qM_greened [.int (I a1 v4.toNatClampNeg)] (sh, I, J) (xI (fun v h1 => xG d zm_M_undo (188, [some (.ref r0), some (.int v1), some (.int v2), some (.int v3), some (.int v4), some (.int v5)], [.int v, .int t1, .ref t0]) h1 Q) (fun x h1 => Q (.inr x) h1))) :
    xG d zm_M_undo (178, [some (.ref r0), some (.int v1), some (.int v2), some (.int v3), some (.int v4), some (.int v5)], [.int t1, .ref t0]) (sh, I, J) Q := by
  obtain rfl := e0.eq
  obtain rfl := e1.eq
  exact xG_N 4 (ps := [xRf sh r0 10 14, xA sh (xrf sh r0 14) .int, vp_in v4 (xlen sh (xrf sh r0 14))]) (f1 := (185, [some (.ref r0), some (.int v1), some (.int v2), some (.int v3), some (.int v4), some (.int v5)], [.int (I (xrf sh r0 14) v4.toNatClampNeg), .int t1, .ref t0])) (h1 := (sh, I, J)) rfl ⟨e0.rf, e1.ar, e2⟩ (xG_Ci rfl rfl (Nat.le_of_ble_eq_true rfl) (Nat.le_of_ble_eq_true rfl) trivial rfl k)
set_option maxRecDepth 100000 in
theorem s_M_undo_188 {d : Nat} {Q : xO → xH → Prop} {sh : List xS} {I : Nat → Nat → Int32} {J : Nat → Nat → Int64} {r0 : Nat} {v1 : Int32} {v2 : Int32} {v3 : Int32} {v4 : Int32} {v5 : Int32} {t0 : Nat} {t1 : Int32} {t2 : Int32} {n1 : Nat}
    (e0 : xAr sh t0 .int n1)
    (e1 : 4 ≤ t0)
    (e2 : vp_in t1 n1)
    (k : xG d zm_M_undo (88, [some (.ref r0), some (.int v1), some (.int v2), some (.int v3), some (.int (v4 + (1 : Int32))), some (.int v5)], []) (sh, xup I t0 t1.toNatClampNeg t2, J) Q) :
    xG d zm_M_undo (188, [some (.ref r0), some (.int v1), some (.int v2), some (.int v3), some (.int v4), some (.int v5)], [.int t2, .int t1, .ref t0]) (sh, I, J) Q := by
  obtain rfl := e0.eq
  exact xG_N 3 (ps := [xW sh t0 .int, vp_in t1 (xlen sh t0)]) (f1 := (88, [some (.ref r0), some (.int v1), some (.int v2), some (.int v3), some (.int (v4 + (1 : Int32))), some (.int v5)], [])) (h1 := (sh, xup I t0 t1.toNatClampNeg t2, J)) rfl ⟨⟨e0.ar, e1⟩, e2⟩ (k)
set_option maxRecDepth 100000 in
theorem s_M_undo_195 {d : Nat} {Q : xO → xH → Prop} {sh : List xS} {I : Nat → Nat → Int32} {J : Nat → Nat → Int64} {r0 : Nat} {v1 : Int32} {v2 : Int32} {v3 : Int32} {v4 : Int32} {o5 : Option Value}
    (k : Q (.inl (none)) (sh, I, J)) :
    xG d zm_M_undo (195, [some (.ref r0), some (.int v1), some (.int v2), some (.int v3), some (.int v4), o5], []) (sh, I, J) Q := by
  exact xG_Q rfl rfl trivial k
set_option maxRecDepth 100000 in
theorem s_M_note_0 {d : Nat} {Q : xO → xH → Prop} {sh : List xS} {I : Nat → Nat → Int32} {J : Nat → Nat → Int64} {r0 : Nat}
    (e0 : xOb sh r0 10)
    (k : xG d zm_M_note (7, [some (.ref r0), some (.int (0 : Int32))], []) (sh, xup I r0 34 (1 : Int32), J) Q) :
    xG d zm_M_note (0, [some (.ref r0), none], []) (sh, I, J) Q := by
  exact xG_N 5 (ps := [xOb sh r0 10, ((1 : Int32) : Int32) = 0 ∨ ((1 : Int32) : Int32) = 1]) (f1 := (7, [some (.ref r0), some (.int (0 : Int32))], [])) (h1 := (sh, xup I r0 34 (1 : Int32), J)) rfl ⟨e0, (show ((1 : Int32) : Int32) = 0 ∨ ((1 : Int32) : Int32) = 1 by decide)⟩ (k)
set_option maxRecDepth 100000 in
theorem s_M_note_7 {d : Nat} {Q : xO → xH → Prop} {sh : List xS} {I : Nat → Nat → Int32} {J : Nat → Nat → Int64} {r0 : Nat} {v1 : Int32}
    (k1 : (4 : Int32) ≤ v1 → xG d zm_M_note (37, [some (.ref r0), some (.int v1)], []) (sh, I, J) Q)
    (k2 : ¬ ((4 : Int32) ≤ v1) → xG d zm_M_note (12, [some (.ref r0), some (.int v1)], []) (sh, I, J) Q) :
    xG d zm_M_note (7, [some (.ref r0), some (.int v1)], []) (sh, I, J) Q := by
  exact xG_N 2 (ps := []) (f1 := (9, [some (.ref r0), some (.int v1)], [.int (4 : Int32), .int v1])) (h1 := (sh, I, J)) rfl trivial (xG_B rfl rfl k1 k2)
set_option maxRecDepth 100000 in
theorem s_M_note_12 {d : Nat} {Q : xO → xH → Prop} {sh : List xS} {I : Nat → Nat → Int32} {J : Nat → Nat → Int64} {r0 : Nat} {v1 : Int32} {a1 : Nat}
    (e0 : xRr sh r0 10 35 a1)
    (k : xg d qM_hasKind [.ref r0, .int v1] (sh, I, J) (xI (fun v h1 => xG d zm_M_note (22, [some (.ref r0), some (.int v1)], [.int v, .int v1, .ref a1]) h1 Q) (fun x h1 => Q (.inr x) h1))) :
    xG d zm_M_note (12, [some (.ref r0), some (.int v1)], []) (sh, I, J) Q := by
  obtain rfl := e0.eq
  exact xG_N 5 (ps := [xRf sh r0 10 35]) (f1 := (19, [some (.ref r0), some (.int v1)], [.int v1, .ref r0, .int v1, .ref (xrf sh r0 35)])) (h1 := (sh, I, J)) rfl e0.rf (xG_Ci rfl rfl (Nat.le_of_ble_eq_true rfl) (Nat.le_of_ble_eq_true rfl) ⟨_, _, rfl, e0.ob⟩ rfl k)
set_option maxRecDepth 100000 in
theorem s_M_note_22 {d : Nat} {Q : xO → xH → Prop} {sh : List xS} {I : Nat → Nat → Int32} {J : Nat → Nat → Int64} {r0 : Nat} {v1 : Int32} {t0 : Nat} {t1 : Int32} {t2 : Int32}
    (k1 : t2 = 0 → xG d zm_M_note (29, [some (.ref r0), some (.int v1)], [.int t1, .ref t0]) (sh, I, J) Q)
    (k2 : ¬ (t2 = 0) → xG d zm_M_note (25, [some (.ref r0), some (.int v1)], [.int t1, .ref t0]) (sh, I, J) Q) :
    xG d zm_M_note (22, [some (.ref r0), some (.int v1)], [.int t2, .int t1, .ref t0]) (sh, I, J) Q := by
  exact xG_B rfl rfl k1 k2
set_option maxRecDepth 100000 in
theorem s_M_note_25 {d : Nat} {Q : xO → xH → Prop} {sh : List xS} {I : Nat → Nat → Int32} {J : Nat → Nat → Int64} {r0 : Nat} {v1 : Int32} {t0 : Nat} {t1 : Int32} {n1 : Nat}
    (e0 : xAr sh t0 .int n1)
    (e1 : 4 ≤ t0)
    (e2 : vp_in t1 n1)
    (k : xG d zm_M_note (7, [some (.ref r0), some (.int (v1 + (1 : Int32)))], []) (sh, xup I t0 t1.toNatClampNeg (1 : Int32), J) Q) :
    xG d zm_M_note (25, [some (.ref r0), some (.int v1)], [.int t1, .ref t0]) (sh, I, J) Q := by
  obtain rfl := e0.eq
  exact xG_N 5 (ps := [xW sh t0 .int, vp_in t1 (xlen sh t0)]) (f1 := (7, [some (.ref r0), some (.int (v1 + (1 : Int32)))], [])) (h1 := (sh, xup I t0 t1.toNatClampNeg (1 : Int32), J)) rfl ⟨⟨e0.ar, e1⟩, e2⟩ (k)
set_option maxRecDepth 100000 in
theorem s_M_note_29 {d : Nat} {Q : xO → xH → Prop} {sh : List xS} {I : Nat → Nat → Int32} {J : Nat → Nat → Int64} {r0 : Nat} {v1 : Int32} {t0 : Nat} {t1 : Int32} {n1 : Nat}
    (e0 : xAr sh t0 .int n1)
    (e1 : 4 ≤ t0)
    (e2 : vp_in t1 n1)
    (k : xG d zm_M_note (7, [some (.ref r0), some (.int (v1 + (1 : Int32)))], []) (sh, xup I t0 t1.toNatClampNeg (0 : Int32), J) Q) :
    xG d zm_M_note (29, [some (.ref r0), some (.int v1)], [.int t1, .ref t0]) (sh, I, J) Q := by
  obtain rfl := e0.eq
  exact xG_N 4 (ps := [xW sh t0 .int, vp_in t1 (xlen sh t0)]) (f1 := (7, [some (.ref r0), some (.int (v1 + (1 : Int32)))], [])) (h1 := (sh, xup I t0 t1.toNatClampNeg (0 : Int32), J)) rfl ⟨⟨e0.ar, e1⟩, e2⟩ (k)
set_option maxRecDepth 100000 in
theorem s_M_note_37 {d : Nat} {Q : xO → xH → Prop} {sh : List xS} {I : Nat → Nat → Int32} {J : Nat → Nat → Int64} {r0 : Nat} {v1 : Int32} {a1 : Nat} {n2 : Nat}
    (e0 : xRr sh r0 10 35 a1)
    (e1 : xAr sh a1 .int n2)
    (e2 : 4 ≤ a1)
    (e3 : vp_in (4 : Int32) n2)
    (e4 : vp_in (5 : Int32) n2)
    (e5 : vp_in (6 : Int32) n2)
    (k : Q (.inl (none)) (sh, xup (xup (xup I a1 4 (I r0 19)) a1 5 ((xup I a1 4 (I r0 19)) r0 17)) a1 6 ((xup (xup I a1 4 (I r0 19)) a1 5 ((xup I a1 4 (I r0 19)) r0 17)) r0 18), J)) :
    xG d zm_M_note (37, [some (.ref r0), some (.int v1)], []) (sh, I, J) Q := by
  obtain rfl := e0.eq
  obtain rfl := e1.eq
  exact xG_N 18 (ps := [xRf sh r0 10 35, xOb sh r0 10, xW sh (xrf sh r0 35) .int, vp_in (4 : Int32) (xlen sh (xrf sh r0 35)), xRf sh r0 10 35, xOb sh r0 10, xW sh (xrf sh r0 35) .int, vp_in (5 : Int32) (xlen sh (xrf sh r0 35)), xRf sh r0 10 35, xOb sh r0 10, xW sh (xrf sh r0 35) .int, vp_in (6 : Int32) (xlen sh (xrf sh r0 35))]) (f1 := (68, [some (.ref r0), some (.int v1)], [])) (h1 := (sh, xup (xup (xup I (xrf sh r0 35) 4 (I r0 19)) (xrf sh r0 35) 5 ((xup I (xrf sh r0 35) 4 (I r0 19)) r0 17)) (xrf sh r0 35) 6 ((xup (xup I (xrf sh r0 35) 4 (I r0 19)) (xrf sh r0 35) 5 ((xup I (xrf sh r0 35) 4 (I r0 19)) r0 17)) r0 18), J)) rfl ⟨e0.rf, e0.ob, ⟨e1.ar, e2⟩, e3, e0.rf, e0.ob, ⟨e1.ar, e2⟩, e4, e0.rf, e0.ob, ⟨e1.ar, e2⟩, e5⟩ (xG_Q rfl rfl trivial k)
set_option maxRecDepth 100000 in
theorem s_M_read_0 {d : Nat} {Q : xO → xH → Prop} {sh : List xS} {I : Nat → Nat → Int32} {J : Nat → Nat → Int64} {r0 : Nat}
    (e0 : xOb sh r0 10)
    (k : xg d qM_bits [.ref r0, .int (8 : Int32)] (sh, xup (xup (xup I r0 8 (0 : Int32)) r0 9 (0 : Int32)) r0 22 (0 : Int32), J) (xI (fun v h1 => xG d zm_M_read (22, [some (.ref r0), none, none, none, none], [.int v, .ref r0]) h1 Q) (fun x h1 => Q (.inr x) h1))) :
    xG d zm_M_read (0, [some (.ref r0), none, none, none, none], []) (sh, I, J) Q := by
  exact xG_N 12 (ps := [xOb sh r0 10, xOb sh r0 10, ((0 : Int32) : Int32) = 0 ∨ ((0 : Int32) : Int32) = 1, xOb sh r0 10]) (f1 := (19, [some (.ref r0), none, none, none, none], [.int (8 : Int32), .ref r0, .ref r0])) (h1 := (sh, xup (xup (xup I r0 8 (0 : Int32)) r0 9 (0 : Int32)) r0 22 (0 : Int32), J)) rfl ⟨e0, e0, (show ((0 : Int32) : Int32) = 0 ∨ ((0 : Int32) : Int32) = 1 by decide), e0⟩ (xG_Ci rfl rfl (Nat.le_of_ble_eq_true rfl) (Nat.le_of_ble_eq_true rfl) ⟨_, _, rfl, e0⟩ rfl k)
set_option maxRecDepth 100000 in
theorem s_M_read_22 {d : Nat} {Q : xO → xH → Prop} {sh : List xS} {I : Nat → Nat → Int32} {J : Nat → Nat → Int64} {r0 : Nat} {t0 : Nat} {t1 : Int32}
    (k1 : t1 = (47 : Int32) → xG d zm_M_read (31, [some (.ref r0), none, none, none, none], [.ref t0]) (sh, I, J) Q)
    (k2 : ¬ (t1 = (47 : Int32)) → xG d zm_M_read (27, [some (.ref r0), none, none, none, none], [.ref t0]) (sh, I, J) Q) :
    xG d zm_M_read (22, [some (.ref r0), none, none, none, none], [.int t1, .ref t0]) (sh, I, J) Q := by
  exact xG_N 1 (ps := []) (f1 := (24, [some (.ref r0), none, none, none, none], [.int (47 : Int32), .int t1, .ref t0])) (h1 := (sh, I, J)) rfl trivial (xG_B rfl rfl k1 k2)
set_option maxRecDepth 100000 in
theorem s_M_read_27 {d : Nat} {Q : xO → xH → Prop} {sh : List xS} {I : Nat → Nat → Int32} {J : Nat → Nat → Int64} {r0 : Nat} {t0 : Nat}
    (e0 : xOb sh t0 10)
    (ko : xOb sh r0 10)
    (k : xg d qM_bits [.ref r0, .int (3 : Int32)] (sh, xup I t0 9 (1 : Int32), J) (xI (fun v h1 => xG d zm_M_read (40, [some (.ref r0), none, none, none, none], [.int v]) h1 Q) (fun x h1 => Q (.inr x) h1))) :
    xG d zm_M_read (27, [some (.ref r0), none, none, none, none], [.ref t0]) (sh, I, J) Q := by
  exact xG_N 5 (ps := [xOb sh t0 10, ((1 : Int32) : Int32) = 0 ∨ ((1 : Int32) : Int32) = 1]) (f1 := (37, [some (.ref r0), none, none, none, none], [.int (3 : Int32), .ref r0])) (h1 := (sh, xup I t0 9 (1 : Int32), J)) rfl ⟨e0, (show ((1 : Int32) : Int32) = 0 ∨ ((1 : Int32) : Int32) = 1 by decide)⟩ (xG_Ci rfl rfl (Nat.le_of_ble_eq_true rfl) (Nat.le_of_ble_eq_true rfl) ⟨_, _, rfl, ko⟩ rfl k)
set_option maxRecDepth 100000 in
theorem s_M_read_31 {d : Nat} {Q : xO → xH → Prop} {sh : List xS} {I : Nat → Nat → Int32} {J : Nat → Nat → Int64} {r0 : Nat} {t0 : Nat}
    (e0 : xOb sh t0 10)
    (ko : xOb sh r0 10)
    (k : xg d qM_bits [.ref r0, .int (3 : Int32)] (sh, xup I t0 9 (0 : Int32), J) (xI (fun v h1 => xG d zm_M_read (40, [some (.ref r0), none, none, none, none], [.int v]) h1 Q) (fun x h1 => Q (.inr x) h1))) :
    xG d zm_M_read (31, [some (.ref r0), none, none, none, none], [.ref t0]) (sh, I, J) Q := by
  exact xG_N 4 (ps := [xOb sh t0 10, ((0 : Int32) : Int32) = 0 ∨ ((0 : Int32) : Int32) = 1]) (f1 := (37, [some (.ref r0), none, none, none, none], [.int (3 : Int32), .ref r0])) (h1 := (sh, xup I t0 9 (0 : Int32), J)) rfl ⟨e0, (show ((0 : Int32) : Int32) = 0 ∨ ((0 : Int32) : Int32) = 1 by decide)⟩ (xG_Ci rfl rfl (Nat.le_of_ble_eq_true rfl) (Nat.le_of_ble_eq_true rfl) ⟨_, _, rfl, ko⟩ rfl k)
set_option maxRecDepth 100000 in
theorem s_M_read_40 {d : Nat} {Q : xO → xH → Prop} {sh : List xS} {I : Nat → Nat → Int32} {J : Nat → Nat → Int64} {r0 : Nat} {t0 : Int32}
    (ko : xOb sh r0 10)
    (k : xg d qM_bits [.ref r0, .int (3 : Int32)] (sh, I, J) (xI (fun v h1 => xG d zm_M_read (48, [some (.ref r0), some (.int (t0 + (1 : Int32))), none, none, none], [.int v]) h1 Q) (fun x h1 => Q (.inr x) h1))) :
    xG d zm_M_read (40, [some (.ref r0), none, none, none, none], [.int t0]) (sh, I, J) Q := by
  exact xG_N 5 (ps := []) (f1 := (45, [some (.ref r0), some (.int (t0 + (1 : Int32))), none, none, none], [.int (3 : Int32), .ref r0])) (h1 := (sh, I, J)) rfl trivial (xG_Ci rfl rfl (Nat.le_of_ble_eq_true rfl) (Nat.le_of_ble_eq_true rfl) ⟨_, _, rfl, ko⟩ rfl k)
set_option maxRecDepth 100000 in
theorem s_M_read_48 {d : Nat} {Q : xO → xH → Prop} {sh : List xS} {I : Nat → Nat → Int32} {J : Nat → Nat → Int64} {r0 : Nat} {v1 : Int32} {t0 : Int32}
    (k : xG d zm_M_read (53, [some (.ref r0), some (.int v1), some (.int (t0 + (1 : Int32))), some (.int v1), none], []) (sh, I, J) Q) :
    xG d zm_M_read (48, [some (.ref r0), some (.int v1), none, none, none], [.int t0]) (sh, I, J) Q := by
  exact xG_N 5 (ps := []) (f1 := (53, [some (.ref r0), some (.int v1), some (.int (t0 + (1 : Int32))), some (.int v1), none], [])) (h1 := (sh, I, J)) rfl trivial (k)
set_option maxRecDepth 100000 in
theorem s_M_read_53 {d : Nat} {Q : xO → xH → Prop} {sh : List xS} {I : Nat → Nat → Int32} {J : Nat → Nat → Int64} {r0 : Nat} {v1 : Int32} {v2 : Int32} {v3 : Int32}
    (e0 : xOb sh r0 10)
    (k1 : ¬ (I r0 9) = 0 → xG d zm_M_read (78, [some (.ref r0), some (.int v1), some (.int v2), some (.int v3), none], []) (sh, I, J) Q)
    (k2 : ¬ (¬ (I r0 9) = 0) → xG d zm_M_read (60, [some (.ref r0), some (.int v1), some (.int v2), some (.int v3), none], []) (sh, I, J) Q) :
    xG d zm_M_read (53, [some (.ref r0), some (.int v1), some (.int v2), some (.int v3), none], []) (sh, I, J) Q := by
  exact xG_N 2 (ps := [xOb sh r0 10]) (f1 := (57, [some (.ref r0), some (.int v1), some (.int v2), some (.int v3), none], [.int (I r0 9)])) (h1 := (sh, I, J)) rfl e0 (xG_B rfl rfl k1 k2)
set_option maxRecDepth 100000 in
theorem s_M_read_60 {d : Nat} {Q : xO → xH → Prop} {sh : List xS} {I : Nat → Nat → Int32} {J : Nat → Nat → Int64} {r0 : Nat} {v1 : Int32} {v2 : Int32} {v3 : Int32}
    (ko : xOb sh r0 10)
    (k : xg d qM_bit [.ref r0] (sh, I, J) (xI (fun v h1 => xG d zm_M_read (64, [some (.ref r0), some (.int v1), some (.int v2), some (.int v3), none], [.int v]) h1 Q) (fun x h1 => Q (.inr x) h1))) :
    xG d zm_M_read (60, [some (.ref r0), some (.int v1), some (.int v2), some (.int v3), none], []) (sh, I, J) Q := by
  exact xG_N 1 (ps := []) (f1 := (61, [some (.ref r0), some (.int v1), some (.int v2), some (.int v3), none], [.ref r0])) (h1 := (sh, I, J)) rfl trivial (xG_Ci rfl rfl (Nat.le_of_ble_eq_true rfl) (Nat.le_of_ble_eq_true rfl) ⟨_, _, rfl, ko⟩ rfl k)
set_option maxRecDepth 100000 in
theorem s_M_read_64 {d : Nat} {Q : xO → xH → Prop} {sh : List xS} {I : Nat → Nat → Int32} {J : Nat → Nat → Int64} {r0 : Nat} {v1 : Int32} {v2 : Int32} {v3 : Int32} {t0 : Int32}
    (k1 : ¬ t0 = (1 : Int32) → xG d zm_M_read (78, [some (.ref r0), some (.int v1), some (.int v2), some (.int v3), none], []) (sh, I, J) Q)
    (k2 : ¬ (¬ t0 = (1 : Int32)) → xG d zm_M_read (68, [some (.ref r0), some (.int v1), some (.int v2), some (.int v3), none], []) (sh, I, J) Q) :
    xG d zm_M_read (64, [some (.ref r0), some (.int v1), some (.int v2), some (.int v3), none], [.int t0]) (sh, I, J) Q := by
  exact xG_N 1 (ps := []) (f1 := (65, [some (.ref r0), some (.int v1), some (.int v2), some (.int v3), none], [.int (1 : Int32), .int t0])) (h1 := (sh, I, J)) rfl trivial (xG_B rfl rfl k1 k2)
set_option maxRecDepth 100000 in
theorem s_M_read_68 {d : Nat} {Q : xO → xH → Prop} {sh : List xS} {I : Nat → Nat → Int32} {J : Nat → Nat → Int64} {r0 : Nat} {v1 : Int32} {v2 : Int32} {v3 : Int32}
    (ko : xOb sh r0 10)
    (k : xg d qM_readTransform [.ref r0, .int v3, .int v2] (sh, I, J) (xI (fun v h1 => xG d zm_M_read (74, [some (.ref r0), some (.int v1), some (.int v2), some (.int v3), none], [.int v]) h1 Q) (fun x h1 => Q (.inr x) h1))) :
    xG d zm_M_read (68, [some (.ref r0), some (.int v1), some (.int v2), some (.int v3), none], []) (sh, I, J) Q := by
  exact xG_N 3 (ps := []) (f1 := (71, [some (.ref r0), some (.int v1), some (.int v2), some (.int v3), none], [.int v2, .int v3, .ref r0])) (h1 := (sh, I, J)) rfl trivial (xG_Ci rfl rfl (Nat.le_of_ble_eq_true rfl) (Nat.le_of_ble_eq_true rfl) ⟨_, _, rfl, ko⟩ rfl k)
set_option maxRecDepth 100000 in
theorem s_M_read_74 {d : Nat} {Q : xO → xH → Prop} {sh : List xS} {I : Nat → Nat → Int32} {J : Nat → Nat → Int64} {r0 : Nat} {v1 : Int32} {v2 : Int32} {v3 : Int32} {t0 : Int32}
    (k : xG d zm_M_read (53, [some (.ref r0), some (.int v1), some (.int v2), some (.int t0), none], []) (sh, I, J) Q) :
    xG d zm_M_read (74, [some (.ref r0), some (.int v1), some (.int v2), some (.int v3), none], [.int t0]) (sh, I, J) Q := by
  exact xG_N 2 (ps := []) (f1 := (53, [some (.ref r0), some (.int v1), some (.int v2), some (.int t0), none], [])) (h1 := (sh, I, J)) rfl trivial (k)
set_option maxRecDepth 100000 in
theorem s_M_read_78 {d : Nat} {Q : xO → xH → Prop} {sh : List xS} {I : Nat → Nat → Int32} {J : Nat → Nat → Int64} {r0 : Nat} {v1 : Int32} {v2 : Int32} {v3 : Int32}
    (e0 : xOb sh r0 10)
    (k1 : ¬ (I r0 9) = 0 → xG d zm_M_read (91, [some (.ref r0), some (.int v1), some (.int v2), some (.int v3), none], []) (sh, I, J) Q)
    (k2 : ¬ (¬ (I r0 9) = 0) → xG d zm_M_read (85, [some (.ref r0), some (.int v1), some (.int v2), some (.int v3), none], []) (sh, I, J) Q) :
    xG d zm_M_read (78, [some (.ref r0), some (.int v1), some (.int v2), some (.int v3), none], []) (sh, I, J) Q := by
  exact xG_N 2 (ps := [xOb sh r0 10]) (f1 := (82, [some (.ref r0), some (.int v1), some (.int v2), some (.int v3), none], [.int (I r0 9)])) (h1 := (sh, I, J)) rfl e0 (xG_B rfl rfl k1 k2)
set_option maxRecDepth 100000 in
theorem s_M_read_85 {d : Nat} {Q : xO → xH → Prop} {sh : List xS} {I : Nat → Nat → Int32} {J : Nat → Nat → Int64} {r0 : Nat} {v1 : Int32} {v2 : Int32} {v3 : Int32}
    (ko : xOb sh r0 10)
    (k : xg d qM_readImage [.ref r0, .int v3, .int v2] (sh, I, J) (xU (fun h1 => xG d zm_M_read (91, [some (.ref r0), some (.int v1), some (.int v2), some (.int v3), none], []) h1 Q) (fun x h1 => Q (.inr x) h1))) :
    xG d zm_M_read (85, [some (.ref r0), some (.int v1), some (.int v2), some (.int v3), none], []) (sh, I, J) Q := by
  exact xG_N 3 (ps := []) (f1 := (88, [some (.ref r0), some (.int v1), some (.int v2), some (.int v3), none], [.int v2, .int v3, .ref r0])) (h1 := (sh, I, J)) rfl trivial (xG_Cu rfl rfl (Nat.le_of_ble_eq_true rfl) (Nat.le_of_ble_eq_true rfl) ⟨_, _, rfl, ko⟩ rfl k)
set_option maxRecDepth 100000 in
theorem s_M_read_91 {d : Nat} {Q : xO → xH → Prop} {sh : List xS} {I : Nat → Nat → Int32} {J : Nat → Nat → Int64} {r0 : Nat} {v1 : Int32} {v2 : Int32} {v3 : Int32}
    (e0 : xOb sh r0 10)
    (k1 : (I r0 9) = 0 → xG d zm_M_read (103, [some (.ref r0), some (.int v1), some (.int v2), some (.int v3), none], [.ref r0]) (sh, I, J) Q)
    (k2 : ¬ ((I r0 9) = 0) → xG d zm_M_read (99, [some (.ref r0), some (.int v1), some (.int v2), some (.int v3), none], [.ref r0]) (sh, I, J) Q) :
    xG d zm_M_read (91, [some (.ref r0), some (.int v1), some (.int v2), some (.int v3), none], []) (sh, I, J) Q := by
  exact xG_N 3 (ps := [xOb sh r0 10]) (f1 := (96, [some (.ref r0), some (.int v1), some (.int v2), some (.int v3), none], [.int (I r0 9), .ref r0])) (h1 := (sh, I, J)) rfl e0 (xG_B rfl rfl k1 k2)
set_option maxRecDepth 100000 in
theorem s_M_read_99 {d : Nat} {Q : xO → xH → Prop} {sh : List xS} {I : Nat → Nat → Int32} {J : Nat → Nat → Int64} {r0 : Nat} {v1 : Int32} {v2 : Int32} {v3 : Int32} {t0 : Nat}
    (e0 : xOb sh t0 10)
    (e1 : xOb sh r0 10)
    (k1 : ((xup I t0 0 (1 : Int32)) r0 9) = 0 → xG d zm_M_read (116, [some (.ref r0), some (.int v1), some (.int v2), some (.int v3), none], []) (sh, xup I t0 0 (1 : Int32), J) Q)
    (k2 : ¬ (((xup I t0 0 (1 : Int32)) r0 9) = 0) → xG d zm_M_read (114, [some (.ref r0), some (.int v1), some (.int v2), some (.int v3), none], []) (sh, xup I t0 0 (1 : Int32), J) Q) :
    xG d zm_M_read (99, [some (.ref r0), some (.int v1), some (.int v2), some (.int v3), none], [.ref t0]) (sh, I, J) Q := by
  exact xG_N 5 (ps := [xOb sh t0 10, xOb sh r0 10]) (f1 := (111, [some (.ref r0), some (.int v1), some (.int v2), some (.int v3), none], [.int ((xup I t0 0 (1 : Int32)) r0 9)])) (h1 := (sh, xup I t0 0 (1 : Int32), J)) rfl ⟨e0, e1⟩ (xG_B rfl rfl k1 k2)
set_option maxRecDepth 100000 in
theorem s_M_read_103 {d : Nat} {Q : xO → xH → Prop} {sh : List xS} {I : Nat → Nat → Int32} {J : Nat → Nat → Int64} {r0 : Nat} {v1 : Int32} {v2 : Int32} {v3 : Int32} {t0 : Nat}
    (e0 : xOb sh t0 10)
    (e1 : xOb sh r0 10)
    (k1 : ((xup I t0 0 (0 : Int32)) r0 9) = 0 → xG d zm_M_read (116, [some (.ref r0), some (.int v1), some (.int v2), some (.int v3), none], []) (sh, xup I t0 0 (0 : Int32), J) Q)
    (k2 : ¬ (((xup I t0 0 (0 : Int32)) r0 9) = 0) → xG d zm_M_read (114, [some (.ref r0), some (.int v1), some (.int v2), some (.int v3), none], []) (sh, xup I t0 0 (0 : Int32), J) Q) :
    xG d zm_M_read (103, [some (.ref r0), some (.int v1), some (.int v2), some (.int v3), none], [.ref t0]) (sh, I, J) Q := by
  exact xG_N 4 (ps := [xOb sh t0 10, xOb sh r0 10]) (f1 := (111, [some (.ref r0), some (.int v1), some (.int v2), some (.int v3), none], [.int ((xup I t0 0 (0 : Int32)) r0 9)])) (h1 := (sh, xup I t0 0 (0 : Int32), J)) rfl ⟨e0, e1⟩ (xG_B rfl rfl k1 k2)
set_option maxRecDepth 100000 in
theorem s_M_read_114 {d : Nat} {Q : xO → xH → Prop} {sh : List xS} {I : Nat → Nat → Int32} {J : Nat → Nat → Int64} {r0 : Nat} {v1 : Int32} {v2 : Int32} {v3 : Int32}
    (k : Q (.inl (some (.int (0 : Int32)))) (sh, I, J)) :
    xG d zm_M_read (114, [some (.ref r0), some (.int v1), some (.int v2), some (.int v3), none], []) (sh, I, J) Q := by
  exact xG_N 1 (ps := []) (f1 := (115, [some (.ref r0), some (.int v1), some (.int v2), some (.int v3), none], [.int (0 : Int32)])) (h1 := (sh, I, J)) rfl trivial (xG_Q rfl rfl trivial k)
set_option maxRecDepth 100000 in
theorem s_M_read_116 {d : Nat} {Q : xO → xH → Prop} {sh : List xS} {I : Nat → Nat → Int32} {J : Nat → Nat → Int64} {r0 : Nat} {v1 : Int32} {v2 : Int32} {v3 : Int32}
    (ko : xOb sh r0 10)
    (k : xg d qM_note [.ref r0] (sh, I, J) (xU (fun h1 => xG d zm_M_read (120, [some (.ref r0), some (.int v1), some (.int v2), some (.int v3), none], []) h1 Q) (fun x h1 => Q (.inr x) h1))) :
    xG d zm_M_read (116, [some (.ref r0), some (.int v1), some (.int v2), some (.int v3), none], []) (sh, I, J) Q := by
  exact xG_N 1 (ps := []) (f1 := (117, [some (.ref r0), some (.int v1), some (.int v2), some (.int v3), none], [.ref r0])) (h1 := (sh, I, J)) rfl trivial (xG_Cu rfl rfl (Nat.le_of_ble_eq_true rfl) (Nat.le_of_ble_eq_true rfl) ⟨_, _, rfl, ko⟩ rfl k)
set_option maxRecDepth 100000 in
theorem s_M_read_120 {d : Nat} {Q : xO → xH → Prop} {sh : List xS} {I : Nat → Nat → Int32} {J : Nat → Nat → Int64} {r0 : Nat} {v1 : Int32} {v2 : Int32} {v3 : Int32}
    (e0 : xOb sh r0 10)
    (k : xG d zm_M_read (128, [some (.ref r0), some (.int v1), some (.int v2), some (.int v3), some (.int ((I r0 22) - (1 : Int32)))], []) (sh, I, J) Q) :
    xG d zm_M_read (120, [some (.ref r0), some (.int v1), some (.int v2), some (.int v3), none], []) (sh, I, J) Q := by
  exact xG_N 5 (ps := [xOb sh r0 10]) (f1 := (128, [some (.ref r0), some (.int v1), some (.int v2), some (.int v3), some (.int ((I r0 22) - (1 : Int32)))], [])) (h1 := (sh, I, J)) rfl e0 (k)
set_option maxRecDepth 100000 in
theorem s_M_read_128 {d : Nat} {Q : xO → xH → Prop} {sh : List xS} {I : Nat → Nat → Int32} {J : Nat → Nat → Int64} {r0 : Nat} {v1 : Int32} {v2 : Int32} {v3 : Int32} {v4 : Int32}
    (k1 : v4 < 0 → xG d zm_M_read (158, [some (.ref r0), some (.int v1), some (.int v2), some (.int v3), some (.int v4)], []) (sh, I, J) Q)
    (k2 : ¬ (v4 < 0) → xG d zm_M_read (133, [some (.ref r0), some (.int v1), some (.int v2), some (.int v3), some (.int v4)], []) (sh, I, J) Q) :
    xG d zm_M_read (128, [some (.ref r0), some (.int v1), some (.int v2), some (.int v3), some (.int v4)], []) (sh, I, J) Q := by
  exact xG_N 1 (ps := []) (f1 := (130, [some (.ref r0), some (.int v1), some (.int v2), some (.int v3), some (.int v4)], [.int v4])) (h1 := (sh, I, J)) rfl trivial (xG_B rfl rfl k1 k2)
set_option maxRecDepth 100000 in
theorem s_M_read_133 {d : Nat} {Q : xO → xH → Prop} {sh : List xS} {I : Nat → Nat → Int32} {J : Nat → Nat → Int64} {r0 : Nat} {v1 : Int32} {v2 : Int32} {v3 : Int32} {v4 : Int32} {a1 : Nat} {n2 : Nat} {a3 : Nat} {n4 : Nat}
    (e0 : xRr sh r0 10 20 a1)
    (e1 : xAr sh a1 .int n2)
    (e2 : vp_in v4 n2)
    (e3 : xRr sh r0 10 21 a3)
    (e4 : xAr sh a3 .int n4)
    (e5 : vp_in v4 n4)
    (k : xg d qM_undo [.ref r0, .int (I a1 v4.toNatClampNeg), .int (I a3 v4.toNatClampNeg), .int v2] (sh, I, J) (xU (fun h1 => xG d zm_M_read (152, [some (.ref r0), some (.int v1), some (.int v2), some (.int v3), some (.int v4)], []) h1 Q) (fun x h1 => Q (.inr x) h1))) :
    xG d zm_M_read (133, [some (.ref r0), some (.int v1), some (.int v2), some (.int v3), some (.int v4)], []) (sh, I, J) Q := by
  obtain rfl := e0.eq
  obtain rfl := e1.eq
  obtain rfl := e3.eq
  obtain rfl := e4.eq
  exact xG_N 10 (ps := [xRf sh r0 10 20, xA sh (xrf sh r0 20) .int, vp_in v4 (xlen sh (xrf sh r0 20)), xRf sh r0 10 21, xA sh (xrf sh r0 21) .int, vp_in v4 (xlen sh (xrf sh r0 21))]) (f1 := (149, [some (.ref r0), some (.int v1), some (.int v2), some (.int v3), some (.int v4)], [.int v2, .int (I (xrf sh r0 21) v4.toNatClampNeg), .int (I (xrf sh r0 20) v4.toNatClampNeg), .ref r0])) (h1 := (sh, I, J)) rfl ⟨e0.rf, e1.ar, e2, e3.rf, e4.ar, e5⟩ (xG_Cu rfl rfl (Nat.le_of_ble_eq_true rfl) (Nat.le_of_ble_eq_true rfl) ⟨_, _, rfl, e3.ob⟩ rfl k)
set_option maxRecDepth 100000 in
theorem s_M_read_152 {d : Nat} {Q : xO → xH → Prop} {sh : List xS} {I : Nat → Nat → Int32} {J : Nat → Nat → Int64} {r0 : Nat} {v1 : Int32} {v2 : Int32} {v3 : Int32} {v4 : Int32}
    (k : xG d zm_M_read (128, [some (.ref r0), some (.int v1), some (.int v2), some (.int v3), some (.int (v4 + (-1 : Int32)))], []) (sh, I, J) Q) :
    xG d zm_M_read (152, [some (.ref r0), some (.int v1), some (.int v2), some (.int v3), some (.int v4)], []) (sh, I, J) Q := by
  exact xG_N 2 (ps := []) (f1 := (128, [some (.ref r0), some (.int v1), some (.int v2), some (.int v3), some (.int (v4 + (-1 : Int32)))], [])) (h1 := (sh, I, J)) rfl trivial (k)
set_option maxRecDepth 100000 in
theorem s_M_read_158 {d : Nat} {Q : xO → xH → Prop} {sh : List xS} {I : Nat → Nat → Int32} {J : Nat → Nat → Int64} {r0 : Nat} {v1 : Int32} {v2 : Int32} {v3 : Int32} {v4 : Int32}
    (e0 : xOb sh r0 10)
    (k : xG d zm_M_read (171, [some (.ref r0), some (.int v1), some (.int v2), some (.int v3), some (.int (0 : Int32))], []) (sh, xup (xup I r0 1 v1) r0 2 v2, J) Q) :
    xG d zm_M_read (158, [some (.ref r0), some (.int v1), some (.int v2), some (.int v3), some (.int v4)], []) (sh, I, J) Q := by
  exact xG_N 8 (ps := [xOb sh r0 10, xOb sh r0 10]) (f1 := (171, [some (.ref r0), some (.int v1), some (.int v2), some (.int v3), some (.int (0 : Int32))], [])) (h1 := (sh, xup (xup I r0 1 v1) r0 2 v2, J)) rfl ⟨e0, e0⟩ (k)
set_option maxRecDepth 100000 in
theorem s_M_read_171 {d : Nat} {Q : xO → xH → Prop} {sh : List xS} {I : Nat → Nat → Int32} {J : Nat → Nat → Int64} {r0 : Nat} {v1 : Int32} {v2 : Int32} {v3 : Int32} {v4 : Int32}
    (k1 : (v1 * v2) ≤ v4 → xG d zm_M_read (199, [some (.ref r0), some (.int v1), some (.int v2), some (.int v3), some (.int v4)], []) (sh, I, J) Q)
    (k2 : ¬ ((v1 * v2) ≤ v4) → xG d zm_M_read (179, [some (.ref r0), some (.int v1), some (.int v2), some (.int v3), some (.int v4)], []) (sh, I, J) Q) :
    xG d zm_M_read (171, [some (.ref r0), some (.int v1), some (.int v2), some (.int v3), some (.int v4)], []) (sh, I, J) Q := by
  exact xG_N 4 (ps := []) (f1 := (176, [some (.ref r0), some (.int v1), some (.int v2), some (.int v3), some (.int v4)], [.int (v1 * v2), .int v4])) (h1 := (sh, I, J)) rfl trivial (xG_B rfl rfl k1 k2)
set_option maxRecDepth 100000 in
theorem s_M_read_179 {d : Nat} {Q : xO → xH → Prop} {sh : List xS} {I : Nat → Nat → Int32} {J : Nat → Nat → Int64} {r0 : Nat} {v1 : Int32} {v2 : Int32} {v3 : Int32} {v4 : Int32} {a1 : Nat} {a2 : Nat} {n3 : Nat} {n4 : Nat}
    (e0 : xRr sh r0 10 3 a1)
    (e1 : xRr sh r0 10 14 a2)
    (e2 : xAr sh a2 .int n3)
    (e3 : vp_in v4 n3)
    (e4 : xAr sh a1 .int n4)
    (e5 : 4 ≤ a1)
    (e6 : vp_in v4 n4)
    (k : xG d zm_M_read (171, [some (.ref r0), some (.int v1), some (.int v2), some (.int v3), some (.int (v4 + (1 : Int32)))], []) (sh, xup I a1 v4.toNatClampNeg (I a2 v4.toNatClampNeg), J) Q) :
    xG d zm_M_read (179, [some (.ref r0), some (.int v1), some (.int v2), some (.int v3), some (.int v4)], []) (sh, I, J) Q := by
  obtain rfl := e0.eq
  obtain rfl := e1.eq
  obtain rfl := e2.eq
  obtain rfl := e4.eq
  exact xG_N 10 (ps := [xRf sh r0 10 3, xRf sh r0 10 14, xA sh (xrf sh r0 14) .int, vp_in v4 (xlen sh (xrf sh r0 14)), xW sh (xrf sh r0 3) .int, vp_in v4 (xlen sh (xrf sh r0 3))]) (f1 := (171, [some (.ref r0), some (.int v1), some (.int v2), some (.int v3), some (.int (v4 + (1 : Int32)))], [])) (h1 := (sh, xup I (xrf sh r0 3) v4.toNatClampNeg (I (xrf sh r0 14) v4.toNatClampNeg), J)) rfl ⟨e0.rf, e1.rf, e2.ar, e3, ⟨e4.ar, e5⟩, e6⟩ (k)
set_option maxRecDepth 100000 in
theorem s_M_read_199 {d : Nat} {Q : xO → xH → Prop} {sh : List xS} {I : Nat → Nat → Int32} {J : Nat → Nat → Int64} {r0 : Nat} {v1 : Int32} {v2 : Int32} {v3 : Int32} {v4 : Int32}
    (e0 : xOb sh r0 10)
    (k : Q (.inl (some (.int (I r0 8)))) (sh, I, J)) :
    xG d zm_M_read (199, [some (.ref r0), some (.int v1), some (.int v2), some (.int v3), some (.int v4)], []) (sh, I, J) Q := by
  exact xG_N 2 (ps := [xOb sh r0 10]) (f1 := (203, [some (.ref r0), some (.int v1), some (.int v2), some (.int v3), some (.int v4)], [.int (I r0 8)])) (h1 := (sh, I, J)) rfl e0 (xG_Q rfl rfl trivial k)
set_option maxRecDepth 100000 in
theorem s_M_put_0 {d : Nat} {Q : xO → xH → Prop} {sh : List xS} {I : Nat → Nat → Int32} {J : Nat → Nat → Int64} {r0 : Nat} {v1 : Int32} {v2 : Int32}
    (k : xG d zm_M_put (2, [some (.ref r0), some (.int v1), some (.int v2), some (.int (0 : Int32)), none], []) (sh, I, J) Q) :
    xG d zm_M_put (0, [some (.ref r0), some (.int v1), some (.int v2), none, none], []) (sh, I, J) Q := by
  exact xG_N 2 (ps := []) (f1 := (2, [some (.ref r0), some (.int v1), some (.int v2), some (.int (0 : Int32)), none], [])) (h1 := (sh, I, J)) rfl trivial (k)
set_option maxRecDepth 100000 in
theorem s_M_put_2 {d : Nat} {Q : xO → xH → Prop} {sh : List xS} {I : Nat → Nat → Int32} {J : Nat → Nat → Int64} {r0 : Nat} {v1 : Int32} {v2 : Int32} {v3 : Int32} {o4 : Option Value}
    (k1 : v2 ≤ v3 → xG d zm_M_put (98, [some (.ref r0), some (.int v1), some (.int v2), some (.int v3), o4], []) (sh, I, J) Q)
    (k2 : ¬ (v2 ≤ v3) → xG d zm_M_put (7, [some (.ref r0), some (.int v1), some (.int v2), some (.int v3), o4], []) (sh, I, J) Q) :
    xG d zm_M_put (2, [some (.ref r0), some (.int v1), some (.int v2), some (.int v3), o4], []) (sh, I, J) Q := by
  exact xG_N 2 (ps := []) (f1 := (4, [some (.ref r0), some (.int v1), some (.int v2), some (.int v3), o4], [.int v2, .int v3])) (h1 := (sh, I, J)) rfl trivial (xG_B rfl rfl k1 k2)
set_option maxRecDepth 100000 in
theorem s_M_put_7 {d : Nat} {Q : xO → xH → Prop} {sh : List xS} {I : Nat → Nat → Int32} {J : Nat → Nat → Int64} {r0 : Nat} {v1 : Int32} {v2 : Int32} {v3 : Int32} {o4 : Option Value}
    (e0 : xOb sh r0 10)
    (k1 : (5600 : Int32) ≤ (I r0 7) → xG d zm_M_put (82, [some (.ref r0), some (.int v1), some (.int v2), some (.int v3), o4], []) (sh, I, J) Q)
    (k2 : ¬ ((5600 : Int32) ≤ (I r0 7)) → xG d zm_M_put (17, [some (.ref r0), some (.int v1), some (.int v2), some (.int v3), o4], []) (sh, I, J) Q) :
    xG d zm_M_put (7, [some (.ref r0), some (.int v1), some (.int v2), some (.int v3), o4], []) (sh, I, J) Q := by
  exact xG_N 3 (ps := [xOb sh r0 10]) (f1 := (14, [some (.ref r0), some (.int v1), some (.int v2), some (.int v3), o4], [.int (5600 : Int32), .int (I r0 7)])) (h1 := (sh, I, J)) rfl e0 (xG_B rfl rfl k1 k2)
set_option maxRecDepth 100000 in
theorem s_M_put_17 {d : Nat} {Q : xO → xH → Prop} {sh : List xS} {I : Nat → Nat → Int32} {J : Nat → Nat → Int64} {r0 : Nat} {v1 : Int32} {v2 : Int32} {v3 : Int32} {o4 : Option Value} {a1 : Nat}
    (e0 : xOb sh r0 10)
    (e1 : xRr sh r0 10 6 a1)
    (k1 : ¬ ((I r0 7) - (I r0 7) / (8 : Int32) * (8 : Int32)) = 0 → xG d zm_M_put (46, [some (.ref r0), some (.int v1), some (.int v2), some (.int v3), some (.int ((I r0 7) / (8 : Int32)))], [.int ((I r0 7) / (8 : Int32)), .ref a1]) (sh, I, J) Q)
    (k2 : ¬ (¬ ((I r0 7) - (I r0 7) / (8 : Int32) * (8 : Int32)) = 0) → xG d zm_M_put (42, [some (.ref r0), some (.int v1), some (.int v2), some (.int v3), some (.int ((I r0 7) / (8 : Int32)))], [.int ((I r0 7) / (8 : Int32)), .ref a1]) (sh, I, J) Q) :
    xG d zm_M_put (17, [some (.ref r0), some (.int v1), some (.int v2), some (.int v3), o4], []) (sh, I, J) Q := by
  obtain rfl := e1.eq
  exact xG_N 12 (ps := [xOb sh r0 10, ¬ (8 : Int32) = 0, xRf sh r0 10 6, xOb sh r0 10, ¬ (8 : Int32) = 0]) (f1 := (39, [some (.ref r0), some (.int v1), some (.int v2), some (.int v3), some (.int ((I r0 7) / (8 : Int32)))], [.int ((I r0 7) - (I r0 7) / (8 : Int32) * (8 : Int32)), .int ((I r0 7) / (8 : Int32)), .ref (xrf sh r0 6)])) (h1 := (sh, I, J)) rfl ⟨e0, (show ¬ (8 : Int32) = 0 by decide), e1.rf, e0, (show ¬ (8 : Int32) = 0 by decide)⟩ (xG_B rfl rfl k1 k2)
set_option maxRecDepth 100000 in
theorem s_M_put_42 {d : Nat} {Q : xO → xH → Prop} {sh : List xS} {I : Nat → Nat → Int32} {J : Nat → Nat → Int64} {r0 : Nat} {v1 : Int32} {v2 : Int32} {v3 : Int32} {v4 : Int32} {t0 : Nat} {t1 : Int32} {n1 : Nat} {a2 : Nat} {n3 : Nat}
    (e0 : xAr sh t0 .int n1)
    (e1 : 4 ≤ t0)
    (e2 : vp_in t1 n1)
    (e3 : xRr sh r0 10 6 a2)
    (e4 : xAr sh a2 .int n3)
    (e5 : vp_in v4 n3)
    (e6 : 4 ≤ a2)
    (k : xG d zm_M_put (2, [some (.ref r0), some (.int v1), some (.int v2), some (.int (v3 + (1 : Int32))), some (.int v4)], []) (sh, xup (xup (xup I t0 t1.toNatClampNeg (0 : Int32)) a2 v4.toNatClampNeg (((xup I t0 t1.toNatClampNeg (0 : Int32)) a2 v4.toNatClampNeg) ||| (((v1 >>> (v3 &&& 31)) &&& (1 : Int32)) <<< ((((xup I t0 t1.toNatClampNeg (0 : Int32)) r0 7) - ((xup I t0 t1.toNatClampNeg (0 : Int32)) r0 7) / (8 : Int32) * (8 : Int32)) &&& 31)))) r0 7 (((xup (xup I t0 t1.toNatClampNeg (0 : Int32)) a2 v4.toNatClampNeg (((xup I t0 t1.toNatClampNeg (0 : Int32)) a2 v4.toNatClampNeg) ||| (((v1 >>> (v3 &&& 31)) &&& (1 : Int32)) <<< ((((xup I t0 t1.toNatClampNeg (0 : Int32)) r0 7) - ((xup I t0 t1.toNatClampNeg (0 : Int32)) r0 7) / (8 : Int32) * (8 : Int32)) &&& 31)))) r0 7) + (1 : Int32)), J) Q) :
    xG d zm_M_put (42, [some (.ref r0), some (.int v1), some (.int v2), some (.int v3), some (.int v4)], [.int t1, .ref t0]) (sh, I, J) Q := by
  obtain rfl := e0.eq
  obtain rfl := e3.eq
  obtain rfl := e4.eq
  exact xG_N 30 (ps := [xW sh t0 .int, vp_in t1 (xlen sh t0), xRf sh r0 10 6, xRf sh r0 10 6, xA sh (xrf sh r0 6) .int, vp_in v4 (xlen sh (xrf sh r0 6)), xOb sh r0 10, ¬ (8 : Int32) = 0, xW sh (xrf sh r0 6) .int, vp_in v4 (xlen sh (xrf sh r0 6)), xOb sh r0 10, xOb sh r0 10]) (f1 := (2, [some (.ref r0), some (.int v1), some (.int v2), some (.int (v3 + (1 : Int32))), some (.int v4)], [])) (h1 := (sh, xup (xup (xup I t0 t1.toNatClampNeg (0 : Int32)) (xrf sh r0 6) v4.toNatClampNeg (((xup I t0 t1.toNatClampNeg (0 : Int32)) (xrf sh r0 6) v4.toNatClampNeg) ||| (((v1 >>> (v3 &&& 31)) &&& (1 : Int32)) <<< ((((xup I t0 t1.toNatClampNeg (0 : Int32)) r0 7) - ((xup I t0 t1.toNatClampNeg (0 : Int32)) r0 7) / (8 : Int32) * (8 : Int32)) &&& 31)))) r0 7 (((xup (xup I t0 t1.toNatClampNeg (0 : Int32)) (xrf sh r0 6) v4.toNatClampNeg (((xup I t0 t1.toNatClampNeg (0 : Int32)) (xrf sh r0 6) v4.toNatClampNeg) ||| (((v1 >>> (v3 &&& 31)) &&& (1 : Int32)) <<< ((((xup I t0 t1.toNatClampNeg (0 : Int32)) r0 7) - ((xup I t0 t1.toNatClampNeg (0 : Int32)) r0 7) / (8 : Int32) * (8 : Int32)) &&& 31)))) r0 7) + (1 : Int32)), J)) rfl ⟨⟨e0.ar, e1⟩, e2, e3.rf, e3.rf, e4.ar, e5, e3.ob, (show ¬ (8 : Int32) = 0 by decide), ⟨e4.ar, e6⟩, e5, e3.ob, e3.ob⟩ (k)
set_option maxRecDepth 100000 in
theorem s_M_put_46 {d : Nat} {Q : xO → xH → Prop} {sh : List xS} {I : Nat → Nat → Int32} {J : Nat → Nat → Int64} {r0 : Nat} {v1 : Int32} {v2 : Int32} {v3 : Int32} {v4 : Int32} {t0 : Nat} {t1 : Int32} {a1 : Nat} {n2 : Nat} {n3 : Nat}
    (e0 : xRr sh r0 10 6 a1)
    (e1 : xAr sh a1 .int n2)
    (e2 : vp_in v4 n2)
    (e3 : xAr sh t0 .int n3)
    (e4 : 4 ≤ t0)
    (e5 : vp_in t1 n3)
    (e6 : 4 ≤ a1)
    (k : xG d zm_M_put (92, [some (.ref r0), some (.int v1), some (.int v2), some (.int v3), some (.int v4)], []) (sh, xup (xup (xup I t0 t1.toNatClampNeg (I a1 v4.toNatClampNeg)) a1 v4.toNatClampNeg (((xup I t0 t1.toNatClampNeg (I a1 v4.toNatClampNeg)) a1 v4.toNatClampNeg) ||| (((v1 >>> (v3 &&& 31)) &&& (1 : Int32)) <<< ((((xup I t0 t1.toNatClampNeg (I a1 v4.toNatClampNeg)) r0 7) - ((xup I t0 t1.toNatClampNeg (I a1 v4.toNatClampNeg)) r0 7) / (8 : Int32) * (8 : Int32)) &&& 31)))) r0 7 (((xup (xup I t0 t1.toNatClampNeg (I a1 v4.toNatClampNeg)) a1 v4.toNatClampNeg (((xup I t0 t1.toNatClampNeg (I a1 v4.toNatClampNeg)) a1 v4.toNatClampNeg) ||| (((v1 >>> (v3 &&& 31)) &&& (1 : Int32)) <<< ((((xup I t0 t1.toNatClampNeg (I a1 v4.toNatClampNeg)) r0 7) - ((xup I t0 t1.toNatClampNeg (I a1 v4.toNatClampNeg)) r0 7) / (8 : Int32) * (8 : Int32)) &&& 31)))) r0 7) + (1 : Int32)), J) Q) :
    xG d zm_M_put (46, [some (.ref r0), some (.int v1), some (.int v2), some (.int v3), some (.int v4)], [.int t1, .ref t0]) (sh, I, J) Q := by
  obtain rfl := e0.eq
  obtain rfl := e1.eq
  obtain rfl := e3.eq
  exact xG_N 30 (ps := [xRf sh r0 10 6, xA sh (xrf sh r0 6) .int, vp_in v4 (xlen sh (xrf sh r0 6)), xW sh t0 .int, vp_in t1 (xlen sh t0), xRf sh r0 10 6, xRf sh r0 10 6, xA sh (xrf sh r0 6) .int, vp_in v4 (xlen sh (xrf sh r0 6)), xOb sh r0 10, ¬ (8 : Int32) = 0, xW sh (xrf sh r0 6) .int, vp_in v4 (xlen sh (xrf sh r0 6)), xOb sh r0 10, xOb sh r0 10]) (f1 := (92, [some (.ref r0), some (.int v1), some (.int v2), some (.int v3), some (.int v4)], [])) (h1 := (sh, xup (xup (xup I t0 t1.toNatClampNeg (I (xrf sh r0 6) v4.toNatClampNeg)) (xrf sh r0 6) v4.toNatClampNeg (((xup I t0 t1.toNatClampNeg (I (xrf sh r0 6) v4.toNatClampNeg)) (xrf sh r0 6) v4.toNatClampNeg) ||| (((v1 >>> (v3 &&& 31)) &&& (1 : Int32)) <<< ((((xup I t0 t1.toNatClampNeg (I (xrf sh r0 6) v4.toNatClampNeg)) r0 7) - ((xup I t0 t1.toNatClampNeg (I (xrf sh r0 6) v4.toNatClampNeg)) r0 7) / (8 : Int32) * (8 : Int32)) &&& 31)))) r0 7 (((xup (xup I t0 t1.toNatClampNeg (I (xrf sh r0 6) v4.toNatClampNeg)) (xrf sh r0 6) v4.toNatClampNeg (((xup I t0 t1.toNatClampNeg (I (xrf sh r0 6) v4.toNatClampNeg)) (xrf sh r0 6) v4.toNatClampNeg) ||| (((v1 >>> (v3 &&& 31)) &&& (1 : Int32)) <<< ((((xup I t0 t1.toNatClampNeg (I (xrf sh r0 6) v4.toNatClampNeg)) r0 7) - ((xup I t0 t1.toNatClampNeg (I (xrf sh r0 6) v4.toNatClampNeg)) r0 7) / (8 : Int32) * (8 : Int32)) &&& 31)))) r0 7) + (1 : Int32)), J)) rfl ⟨e0.rf, e1.ar, e2, ⟨e3.ar, e4⟩, e5, e0.rf, e0.rf, e1.ar, e2, e0.ob, (show ¬ (8 : Int32) = 0 by decide), ⟨e1.ar, e6⟩, e2, e0.ob, e0.ob⟩ (k)
set_option maxRecDepth 100000 in
theorem s_M_put_82 {d : Nat} {Q : xO → xH → Prop} {sh : List xS} {I : Nat → Nat → Int32} {J : Nat → Nat → Int64} {r0 : Nat} {v1 : Int32} {v2 : Int32} {v3 : Int32} {o4 : Option Value}
    (e0 : xOb sh r0 10)
    (k : xG d zm_M_put (2, [some (.ref r0), some (.int v1), some (.int v2), some (.int (v3 + (1 : Int32))), o4], []) (sh, xup I r0 7 ((I r0 7) + (1 : Int32)), J) Q) :
    xG d zm_M_put (82, [some (.ref r0), some (.int v1), some (.int v2), some (.int v3), o4], []) (sh, I, J) Q := by
  exact xG_N 8 (ps := [xOb sh r0 10, xOb sh r0 10]) (f1 := (2, [some (.ref r0), some (.int v1), some (.int v2), some (.int (v3 + (1 : Int32))), o4], [])) (h1 := (sh, xup I r0 7 ((I r0 7) + (1 : Int32)), J)) rfl ⟨e0, e0⟩ (k)
set_option maxRecDepth 100000 in
theorem s_M_put_98 {d : Nat} {Q : xO → xH → Prop} {sh : List xS} {I : Nat → Nat → Int32} {J : Nat → Nat → Int64} {r0 : Nat} {v1 : Int32} {v2 : Int32} {v3 : Int32} {o4 : Option Value}
    (k : Q (.inl (none)) (sh, I, J)) :
    xG d zm_M_put (98, [some (.ref r0), some (.int v1), some (.int v2), some (.int v3), o4], []) (sh, I, J) Q := by
  exact xG_Q rfl rfl trivial k
set_option maxRecDepth 100000 in
theorem s_M_put_92 {d : Nat} {Q : xO → xH → Prop} {sh : List xS} {I : Nat → Nat → Int32} {J : Nat → Nat → Int64} {r0 : Nat} {v1 : Int32} {v2 : Int32} {v3 : Int32} {o4 : Option Value}
    (k : xG d zm_M_put (2, [some (.ref r0), some (.int v1), some (.int v2), some (.int (v3 + (1 : Int32))), o4], []) (sh, I, J) Q) :
    xG d zm_M_put (92, [some (.ref r0), some (.int v1), some (.int v2), some (.int v3), o4], []) (sh, I, J) Q := by
  exact xG_N 2 (ps := []) (f1 := (2, [some (.ref r0), some (.int v1), some (.int v2), some (.int (v3 + (1 : Int32))), o4], [])) (h1 := (sh, I, J)) rfl trivial (k)
set_option maxRecDepth 100000 in
theorem s_M_usedOf_0 {d : Nat} {Q : xO → xH → Prop} {sh : List xS} {I : Nat → Nat → Int32} {J : Nat → Nat → Int64} {r0 : Nat} {v1 : Int32}
    (k : xg d qM_base [.int v1] (sh, I, J) (xI (fun v h1 => xG d zm_M_usedOf (6, [some (.ref r0), some (.int v1), some (.int (0 : Int32)), none], [.int v]) h1 Q) (fun x h1 => Q (.inr x) h1))) :
    xG d zm_M_usedOf (0, [some (.ref r0), some (.int v1), none, none], []) (sh, I, J) Q := by
  exact xG_N 3 (ps := []) (f1 := (3, [some (.ref r0), some (.int v1), some (.int (0 : Int32)), none], [.int v1])) (h1 := (sh, I, J)) rfl trivial (xG_Ci rfl rfl (Nat.le_of_ble_eq_true rfl) (Nat.le_of_ble_eq_true rfl) trivial rfl k)
set_option maxRecDepth 100000 in
theorem s_M_usedOf_6 {d : Nat} {Q : xO → xH → Prop} {sh : List xS} {I : Nat → Nat → Int32} {J : Nat → Nat → Int64} {r0 : Nat} {v1 : Int32} {v2 : Int32} {t0 : Int32}
    (k : xG d zm_M_usedOf (7, [some (.ref r0), some (.int v1), some (.int v2), some (.int t0)], []) (sh, I, J) Q) :
    xG d zm_M_usedOf (6, [some (.ref r0), some (.int v1), some (.int v2), none], [.int t0]) (sh, I, J) Q := by
  exact xG_N 1 (ps := []) (f1 := (7, [some (.ref r0), some (.int v1), some (.int v2), some (.int t0)], [])) (h1 := (sh, I, J)) rfl trivial (k)
set_option maxRecDepth 100000 in
theorem s_M_usedOf_7 {d : Nat} {Q : xO → xH → Prop} {sh : List xS} {I : Nat → Nat → Int32} {J : Nat → Nat → Int64} {r0 : Nat} {v1 : Int32} {v2 : Int32} {v3 : Int32}
    (k : xg d qM_base [.int v1] (sh, I, J) (xI (fun v h1 => xG d zm_M_usedOf (12, [some (.ref r0), some (.int v1), some (.int v2), some (.int v3)], [.int v, .int v3]) h1 Q) (fun x h1 => Q (.inr x) h1))) :
    xG d zm_M_usedOf (7, [some (.ref r0), some (.int v1), some (.int v2), some (.int v3)], []) (sh, I, J) Q := by
  exact xG_N 2 (ps := []) (f1 := (9, [some (.ref r0), some (.int v1), some (.int v2), some (.int v3)], [.int v1, .int v3])) (h1 := (sh, I, J)) rfl trivial (xG_Ci rfl rfl (Nat.le_of_ble_eq_true rfl) (Nat.le_of_ble_eq_true rfl) trivial rfl k)
set_option maxRecDepth 100000 in
theorem s_M_usedOf_12 {d : Nat} {Q : xO → xH → Prop} {sh : List xS} {I : Nat → Nat → Int32} {J : Nat → Nat → Int64} {r0 : Nat} {v1 : Int32} {v2 : Int32} {v3 : Int32} {t0 : Int32} {t1 : Int32} {a1 : Nat} {n2 : Nat}
    (e0 : xRr sh r0 10 12 a1)
    (e1 : xAr sh a1 .int n2)
    (e2 : vp_in v1 n2)
    (k1 : (t1 + (I a1 v1.toNatClampNeg)) ≤ t0 → xG d zm_M_usedOf (45, [some (.ref r0), some (.int v1), some (.int v2), some (.int v3)], []) (sh, I, J) Q)
    (k2 : ¬ ((t1 + (I a1 v1.toNatClampNeg)) ≤ t0) → xG d zm_M_usedOf (22, [some (.ref r0), some (.int v1), some (.int v2), some (.int v3)], []) (sh, I, J) Q) :
    xG d zm_M_usedOf (12, [some (.ref r0), some (.int v1), some (.int v2), some (.int v3)], [.int t1, .int t0]) (sh, I, J) Q := by
  obtain rfl := e0.eq
  obtain rfl := e1.eq
  exact xG_N 5 (ps := [xRf sh r0 10 12, xA sh (xrf sh r0 12) .int, vp_in v1 (xlen sh (xrf sh r0 12))]) (f1 := (19, [some (.ref r0), some (.int v1), some (.int v2), some (.int v3)], [.int (t1 + (I (xrf sh r0 12) v1.toNatClampNeg)), .int t0])) (h1 := (sh, I, J)) rfl ⟨e0.rf, e1.ar, e2⟩ (xG_B rfl rfl k1 k2)
set_option maxRecDepth 100000 in
theorem s_M_usedOf_22 {d : Nat} {Q : xO → xH → Prop} {sh : List xS} {I : Nat → Nat → Int32} {J : Nat → Nat → Int64} {r0 : Nat} {v1 : Int32} {v2 : Int32} {v3 : Int32} {a1 : Nat} {n2 : Nat}
    (e0 : xRr sh r0 10 11 a1)
    (e1 : xAr sh a1 .boolean n2)
    (e2 : vp_in v3 n2)
    (k1 : (I a1 v3.toNatClampNeg) = 0 → xG d zm_M_usedOf (37, [some (.ref r0), some (.int v1), some (.int v2), some (.int v3)], []) (sh, I, J) Q)
    (k2 : ¬ ((I a1 v3.toNatClampNeg) = 0) → xG d zm_M_usedOf (31, [some (.ref r0), some (.int v1), some (.int v2), some (.int v3)], []) (sh, I, J) Q) :
    xG d zm_M_usedOf (22, [some (.ref r0), some (.int v1), some (.int v2), some (.int v3)], []) (sh, I, J) Q := by
  obtain rfl := e0.eq
  obtain rfl := e1.eq
  exact xG_N 4 (ps := [xRf sh r0 10 11, xA sh (xrf sh r0 11) .boolean, vp_in v3 (xlen sh (xrf sh r0 11))]) (f1 := (28, [some (.ref r0), some (.int v1), some (.int v2), some (.int v3)], [.int (I (xrf sh r0 11) v3.toNatClampNeg)])) (h1 := (sh, I, J)) rfl ⟨e0.rf, e1.ar, e2⟩ (xG_B rfl rfl k1 k2)
set_option maxRecDepth 100000 in
theorem s_M_usedOf_31 {d : Nat} {Q : xO → xH → Prop} {sh : List xS} {I : Nat → Nat → Int32} {J : Nat → Nat → Int64} {r0 : Nat} {v1 : Int32} {v2 : Int32} {v3 : Int32}
    (k : xG d zm_M_usedOf (7, [some (.ref r0), some (.int v1), some (.int (v2 + (1 : Int32))), some (.int (v3 + (1 : Int32)))], []) (sh, I, J) Q) :
    xG d zm_M_usedOf (31, [some (.ref r0), some (.int v1), some (.int v2), some (.int v3)], []) (sh, I, J) Q := by
  exact xG_N 7 (ps := []) (f1 := (7, [some (.ref r0), some (.int v1), some (.int (v2 + (1 : Int32))), some (.int (v3 + (1 : Int32)))], [])) (h1 := (sh, I, J)) rfl trivial (k)
set_option maxRecDepth 100000 in
theorem s_M_usedOf_37 {d : Nat} {Q : xO → xH → Prop} {sh : List xS} {I : Nat → Nat → Int32} {J : Nat → Nat → Int64} {r0 : Nat} {v1 : Int32} {v2 : Int32} {v3 : Int32}
    (k : xG d zm_M_usedOf (7, [some (.ref r0), some (.int v1), some (.int v2), some (.int (v3 + (1 : Int32)))], []) (sh, I, J) Q) :
    xG d zm_M_usedOf (37, [some (.ref r0), some (.int v1), some (.int v2), some (.int v3)], []) (sh, I, J) Q := by
  exact xG_N 4 (ps := []) (f1 := (7, [some (.ref r0), some (.int v1), some (.int v2), some (.int (v3 + (1 : Int32)))], [])) (h1 := (sh, I, J)) rfl trivial (k)
set_option maxRecDepth 100000 in
theorem s_M_usedOf_45 {d : Nat} {Q : xO → xH → Prop} {sh : List xS} {I : Nat → Nat → Int32} {J : Nat → Nat → Int64} {r0 : Nat} {v1 : Int32} {v2 : Int32} {v3 : Int32}
    (k : Q (.inl (some (.int v2))) (sh, I, J)) :
    xG d zm_M_usedOf (45, [some (.ref r0), some (.int v1), some (.int v2), some (.int v3)], []) (sh, I, J) Q := by
  exact xG_N 1 (ps := []) (f1 := (46, [some (.ref r0), some (.int v1), some (.int v2), some (.int v3)], [.int v2])) (h1 := (sh, I, J)) rfl trivial (xG_Q rfl rfl trivial k)
set_option maxRecDepth 100000 in
theorem s_M_giveLengths_0 {d : Nat} {Q : xO → xH → Prop} {sh : List xS} {I : Nat → Nat → Int32} {J : Nat → Nat → Int64} {r0 : Nat} {v1 : Int32}
    (ko : xOb sh r0 10)
    (k : xg d qM_usedOf [.ref r0, .int v1] (sh, I, J) (xI (fun v h1 => xG d zm_M_giveLengths (5, [some (.ref r0), some (.int v1), none, none, none, none], [.int v]) h1 Q) (fun x h1 => Q (.inr x) h1))) :
    xG d zm_M_giveLengths (0, [some (.ref r0), some (.int v1), none, none, none, none], []) (sh, I, J) Q := by
  exact xG_N 2 (ps := []) (f1 := (2, [some (.ref r0), some (.int v1), none, none, none, none], [.int v1, .ref r0])) (h1 := (sh, I, J)) rfl trivial (xG_Ci rfl rfl (Nat.le_of_ble_eq_true rfl) (Nat.le_of_ble_eq_true rfl) ⟨_, _, rfl, ko⟩ rfl k)
set_option maxRecDepth 100000 in
theorem s_M_giveLengths_5 {d : Nat} {Q : xO → xH → Prop} {sh : List xS} {I : Nat → Nat → Int32} {J : Nat → Nat → Int64} {r0 : Nat} {v1 : Int32} {t0 : Int32}
    (k : xG d zm_M_giveLengths (8, [some (.ref r0), some (.int v1), some (.int t0), some (.int (0 : Int32)), none, none], []) (sh, I, J) Q) :
    xG d zm_M_giveLengths (5, [some (.ref r0), some (.int v1), none, none, none, none], [.int t0]) (sh, I, J) Q := by
  exact xG_N 3 (ps := []) (f1 := (8, [some (.ref r0), some (.int v1), some (.int t0), some (.int (0 : Int32)), none, none], [])) (h1 := (sh, I, J)) rfl trivial (k)
set_option maxRecDepth 100000 in
theorem s_M_giveLengths_8 {d : Nat} {Q : xO → xH → Prop} {sh : List xS} {I : Nat → Nat → Int32} {J : Nat → Nat → Int64} {r0 : Nat} {v1 : Int32} {v2 : Int32} {v3 : Int32}
    (k1 : v2 ≤ ((1 : Int32) <<< (v3 &&& 31)) → xG d zm_M_giveLengths (21, [some (.ref r0), some (.int v1), some (.int v2), some (.int v3), none, none], []) (sh, I, J) Q)
    (k2 : ¬ (v2 ≤ ((1 : Int32) <<< (v3 &&& 31))) → xG d zm_M_giveLengths (15, [some (.ref r0), some (.int v1), some (.int v2), some (.int v3), none, none], []) (sh, I, J) Q) :
    xG d zm_M_giveLengths (8, [some (.ref r0), some (.int v1), some (.int v2), some (.int v3), none, none], []) (sh, I, J) Q := by
  exact xG_N 4 (ps := []) (f1 := (12, [some (.ref r0), some (.int v1), some (.int v2), some (.int v3), none, none], [.int v2, .int ((1 : Int32) <<< (v3 &&& 31))])) (h1 := (sh, I, J)) rfl trivial (xG_B rfl rfl k1 k2)
set_option maxRecDepth 100000 in
theorem s_M_giveLengths_15 {d : Nat} {Q : xO → xH → Prop} {sh : List xS} {I : Nat → Nat → Int32} {J : Nat → Nat → Int64} {r0 : Nat} {v1 : Int32} {v2 : Int32} {v3 : Int32}
    (k : xG d zm_M_giveLengths (8, [some (.ref r0), some (.int v1), some (.int v2), some (.int (v3 + (1 : Int32))), none, none], []) (sh, I, J) Q) :
    xG d zm_M_giveLengths (15, [some (.ref r0), some (.int v1), some (.int v2), some (.int v3), none, none], []) (sh, I, J) Q := by
  exact xG_N 2 (ps := []) (f1 := (8, [some (.ref r0), some (.int v1), some (.int v2), some (.int (v3 + (1 : Int32))), none, none], [])) (h1 := (sh, I, J)) rfl trivial (k)
set_option maxRecDepth 100000 in
theorem s_M_giveLengths_21 {d : Nat} {Q : xO → xH → Prop} {sh : List xS} {I : Nat → Nat → Int32} {J : Nat → Nat → Int64} {r0 : Nat} {v1 : Int32} {v2 : Int32} {v3 : Int32}
    (k1 : ¬ v2 = (1 : Int32) → xG d zm_M_giveLengths (30, [some (.ref r0), some (.int v1), some (.int v2), some (.int v3), none, none], []) (sh, I, J) Q)
    (k2 : ¬ (¬ v2 = (1 : Int32)) → xG d zm_M_giveLengths (26, [some (.ref r0), some (.int v1), some (.int v2), some (.int v3), none, none], []) (sh, I, J) Q) :
    xG d zm_M_giveLengths (21, [some (.ref r0), some (.int v1), some (.int v2), some (.int v3), none, none], []) (sh, I, J) Q := by
  exact xG_N 2 (ps := []) (f1 := (23, [some (.ref r0), some (.int v1), some (.int v2), some (.int v3), none, none], [.int (1 : Int32), .int v2])) (h1 := (sh, I, J)) rfl trivial (xG_B rfl rfl k1 k2)
set_option maxRecDepth 100000 in
theorem s_M_giveLengths_26 {d : Nat} {Q : xO → xH → Prop} {sh : List xS} {I : Nat → Nat → Int32} {J : Nat → Nat → Int64} {r0 : Nat} {v1 : Int32} {v2 : Int32} {v3 : Int32}
    (k1 : ¬ v2 = (1 : Int32) → xG d zm_M_giveLengths (46, [some (.ref r0), some (.int v1), some (.int v2), some (.int v3), some (.int (0 : Int32)), none], []) (sh, I, J) Q)
    (k2 : ¬ (¬ v2 = (1 : Int32)) → xG d zm_M_giveLengths (42, [some (.ref r0), some (.int v1), some (.int v2), some (.int v3), some (.int (0 : Int32)), none], []) (sh, I, J) Q) :
    xG d zm_M_giveLengths (26, [some (.ref r0), some (.int v1), some (.int v2), some (.int v3), none, none], []) (sh, I, J) Q := by
  exact xG_N 5 (ps := []) (f1 := (39, [some (.ref r0), some (.int v1), some (.int v2), some (.int v3), some (.int (0 : Int32)), none], [.int (1 : Int32), .int v2])) (h1 := (sh, I, J)) rfl trivial (xG_B rfl rfl k1 k2)
set_option maxRecDepth 100000 in
theorem s_M_giveLengths_30 {d : Nat} {Q : xO → xH → Prop} {sh : List xS} {I : Nat → Nat → Int32} {J : Nat → Nat → Int64} {r0 : Nat} {v1 : Int32} {v2 : Int32} {v3 : Int32}
    (k1 : ¬ v2 = (1 : Int32) → xG d zm_M_giveLengths (46, [some (.ref r0), some (.int v1), some (.int v2), some (.int v3), some (.int (((1 : Int32) <<< (v3 &&& 31)) - v2)), none], []) (sh, I, J) Q)
    (k2 : ¬ (¬ v2 = (1 : Int32)) → xG d zm_M_giveLengths (42, [some (.ref r0), some (.int v1), some (.int v2), some (.int v3), some (.int (((1 : Int32) <<< (v3 &&& 31)) - v2)), none], []) (sh, I, J) Q) :
    xG d zm_M_giveLengths (30, [some (.ref r0), some (.int v1), some (.int v2), some (.int v3), none, none], []) (sh, I, J) Q := by
  exact xG_N 8 (ps := []) (f1 := (39, [some (.ref r0), some (.int v1), some (.int v2), some (.int v3), some (.int (((1 : Int32) <<< (v3 &&& 31)) - v2)), none], [.int (1 : Int32), .int v2])) (h1 := (sh, I, J)) rfl trivial (xG_B rfl rfl k1 k2)
set_option maxRecDepth 100000 in
theorem s_M_giveLengths_42 {d : Nat} {Q : xO → xH → Prop} {sh : List xS} {I : Nat → Nat → Int32} {J : Nat → Nat → Int64} {r0 : Nat} {v1 : Int32} {v2 : Int32} {v3 : Int32} {v4 : Int32}
    (k : xg d qM_base [.int v1] (sh, I, J) (xI (fun v h1 => xG d zm_M_giveLengths (52, [some (.ref r0), some (.int v1), some (.int v2), some (.int (1 : Int32)), some (.int v4), none], [.int v]) h1 Q) (fun x h1 => Q (.inr x) h1))) :
    xG d zm_M_giveLengths (42, [some (.ref r0), some (.int v1), some (.int v2), some (.int v3), some (.int v4), none], []) (sh, I, J) Q := by
  exact xG_N 4 (ps := []) (f1 := (49, [some (.ref r0), some (.int v1), some (.int v2), some (.int (1 : Int32)), some (.int v4), none], [.int v1])) (h1 := (sh, I, J)) rfl trivial (xG_Ci rfl rfl (Nat.le_of_ble_eq_true rfl) (Nat.le_of_ble_eq_true rfl) trivial rfl k)
set_option maxRecDepth 100000 in
theorem s_M_giveLengths_46 {d : Nat} {Q : xO → xH → Prop} {sh : List xS} {I : Nat → Nat → Int32} {J : Nat → Nat → Int64} {r0 : Nat} {v1 : Int32} {v2 : Int32} {v3 : Int32} {v4 : Int32}
    (k : xg d qM_base [.int v1] (sh, I, J) (xI (fun v h1 => xG d zm_M_giveLengths (52, [some (.ref r0), some (.int v1), some (.int v2), some (.int v3), some (.int v4), none], [.int v]) h1 Q) (fun x h1 => Q (.inr x) h1))) :
    xG d zm_M_giveLengths (46, [some (.ref r0), some (.int v1), some (.int v2), some (.int v3), some (.int v4), none], []) (sh, I, J) Q := by
  exact xG_N 3 (ps := []) (f1 := (49, [some (.ref r0), some (.int v1), some (.int v2), some (.int v3), some (.int v4), none], [.int v1])) (h1 := (sh, I, J)) rfl trivial (xG_Ci rfl rfl (Nat.le_of_ble_eq_true rfl) (Nat.le_of_ble_eq_true rfl) trivial rfl k)
set_option maxRecDepth 100000 in
theorem s_M_giveLengths_52 {d : Nat} {Q : xO → xH → Prop} {sh : List xS} {I : Nat → Nat → Int32} {J : Nat → Nat → Int64} {r0 : Nat} {v1 : Int32} {v2 : Int32} {v3 : Int32} {v4 : Int32} {t0 : Int32}
    (k : xG d zm_M_giveLengths (54, [some (.ref r0), some (.int v1), some (.int v2), some (.int v3), some (.int v4), some (.int t0)], []) (sh, I, J) Q) :
    xG d zm_M_giveLengths (52, [some (.ref r0), some (.int v1), some (.int v2), some (.int v3), some (.int v4), none], [.int t0]) (sh, I, J) Q := by
  exact xG_N 1 (ps := []) (f1 := (54, [some (.ref r0), some (.int v1), some (.int v2), some (.int v3), some (.int v4), some (.int t0)], [])) (h1 := (sh, I, J)) rfl trivial (k)
set_option maxRecDepth 100000 in
theorem s_M_giveLengths_54 {d : Nat} {Q : xO → xH → Prop} {sh : List xS} {I : Nat → Nat → Int32} {J : Nat → Nat → Int64} {r0 : Nat} {v1 : Int32} {v2 : Int32} {v3 : Int32} {v4 : Int32} {v5 : Int32}
    (k : xg d qM_base [.int v1] (sh, I, J) (xI (fun v h1 => xG d zm_M_giveLengths (60, [some (.ref r0), some (.int v1), some (.int v2), some (.int v3), some (.int v4), some (.int v5)], [.int v, .int v5]) h1 Q) (fun x h1 => Q (.inr x) h1))) :
    xG d zm_M_giveLengths (54, [some (.ref r0), some (.int v1), some (.int v2), some (.int v3), some (.int v4), some (.int v5)], []) (sh, I, J) Q := by
  exact xG_N 2 (ps := []) (f1 := (57, [some (.ref r0), some (.int v1), some (.int v2), some (.int v3), some (.int v4), some (.int v5)], [.int v1, .int v5])) (h1 := (sh, I, J)) rfl trivial (xG_Ci rfl rfl (Nat.le_of_ble_eq_true rfl) (Nat.le_of_ble_eq_true rfl) trivial rfl k)
set_option maxRecDepth 100000 in
theorem s_M_giveLengths_60 {d : Nat} {Q : xO → xH → Prop} {sh : List xS} {I : Nat → Nat → Int32} {J : Nat → Nat → Int64} {r0 : Nat} {v1 : Int32} {v2 : Int32} {v3 : Int32} {v4 : Int32} {v5 : Int32} {t0 : Int32} {t1 : Int32} {a1 : Nat} {n2 : Nat}
    (e0 : xRr sh r0 10 12 a1)
    (e1 : xAr sh a1 .int n2)
    (e2 : vp_in v1 n2)
    (k1 : (t1 + (I a1 v1.toNatClampNeg)) ≤ t0 → xG d zm_M_giveLengths (135, [some (.ref r0), some (.int v1), some (.int v2), some (.int v3), some (.int v4), some (.int v5)], []) (sh, I, J) Q)
    (k2 : ¬ ((t1 + (I a1 v1.toNatClampNeg)) ≤ t0) → xG d zm_M_giveLengths (70, [some (.ref r0), some (.int v1), some (.int v2), some (.int v3), some (.int v4), some (.int v5)], []) (sh, I, J) Q) :
    xG d zm_M_giveLengths (60, [some (.ref r0), some (.int v1), some (.int v2), some (.int v3), some (.int v4), some (.int v5)], [.int t1, .int t0]) (sh, I, J) Q := by
  obtain rfl := e0.eq
  obtain rfl := e1.eq
  exact xG_N 5 (ps := [xRf sh r0 10 12, xA sh (xrf sh r0 12) .int, vp_in v1 (xlen sh (xrf sh r0 12))]) (f1 := (67, [some (.ref r0), some (.int v1), some (.int v2), some (.int v3), some (.int v4), some (.int v5)], [.int (t1 + (I (xrf sh r0 12) v1.toNatClampNeg)), .int t0])) (h1 := (sh, I, J)) rfl ⟨e0.rf, e1.ar, e2⟩ (xG_B rfl rfl k1 k2)
set_option maxRecDepth 100000 in
theorem s_M_giveLengths_70 {d : Nat} {Q : xO → xH → Prop} {sh : List xS} {I : Nat → Nat → Int32} {J : Nat → Nat → Int64} {r0 : Nat} {v1 : Int32} {v2 : Int32} {v3 : Int32} {v4 : Int32} {v5 : Int32} {a1 : Nat} {a2 : Nat} {n3 : Nat}
    (e0 : xRr sh r0 10 10 a1)
    (e1 : xRr sh r0 10 11 a2)
    (e2 : xAr sh a2 .boolean n3)
    (e3 : vp_in v5 n3)
    (k1 : ¬ (I a2 v5.toNatClampNeg) = 0 → xG d zm_M_giveLengths (90, [some (.ref r0), some (.int v1), some (.int v2), some (.int v3), some (.int v4), some (.int v5)], [.int v5, .ref a1]) (sh, I, J) Q)
    (k2 : ¬ (¬ (I a2 v5.toNatClampNeg) = 0) → xG d zm_M_giveLengths (86, [some (.ref r0), some (.int v1), some (.int v2), some (.int v3), some (.int v4), some (.int v5)], [.int v5, .ref a1]) (sh, I, J) Q) :
    xG d zm_M_giveLengths (70, [some (.ref r0), some (.int v1), some (.int v2), some (.int v3), some (.int v4), some (.int v5)], []) (sh, I, J) Q := by
  obtain rfl := e0.eq
  obtain rfl := e1.eq
  obtain rfl := e2.eq
  exact xG_N 7 (ps := [xRf sh r0 10 10, xRf sh r0 10 11, xA sh (xrf sh r0 11) .boolean, vp_in v5 (xlen sh (xrf sh r0 11))]) (f1 := (83, [some (.ref r0), some (.int v1), some (.int v2), some (.int v3), some (.int v4), some (.int v5)], [.int (I (xrf sh r0 11) v5.toNatClampNeg), .int v5, .ref (xrf sh r0 10)])) (h1 := (sh, I, J)) rfl ⟨e0.rf, e1.rf, e2.ar, e3⟩ (xG_B rfl rfl k1 k2)
set_option maxRecDepth 100000 in
theorem s_M_giveLengths_86 {d : Nat} {Q : xO → xH → Prop} {sh : List xS} {I : Nat → Nat → Int32} {J : Nat → Nat → Int64} {r0 : Nat} {v1 : Int32} {v2 : Int32} {v3 : Int32} {v4 : Int32} {v5 : Int32} {t0 : Nat} {t1 : Int32} {n1 : Nat} {a2 : Nat} {n3 : Nat}
    (e0 : xAr sh t0 .int n1)
    (e1 : 4 ≤ t0)
    (e2 : vp_in t1 n1)
    (e3 : xRr sh r0 10 11 a2)
    (e4 : xAr sh a2 .boolean n3)
    (e5 : vp_in v5 n3)
    (k1 : ((xup I t0 t1.toNatClampNeg (0 : Int32)) a2 v5.toNatClampNeg) = 0 → xG d zm_M_giveLengths (125, [some (.ref r0), some (.int v1), some (.int v2), some (.int v3), some (.int v4), some (.int v5)], []) (sh, xup I t0 t1.toNatClampNeg (0 : Int32), J) Q)
    (k2 : ¬ (((xup I t0 t1.toNatClampNeg (0 : Int32)) a2 v5.toNatClampNeg) = 0) → xG d zm_M_giveLengths (113, [some (.ref r0), some (.int v1), some (.int v2), some (.int v3), some (.int v4), some (.int v5)], []) (sh, xup I t0 t1.toNatClampNeg (0 : Int32), J) Q) :
    xG d zm_M_giveLengths (86, [some (.ref r0), some (.int v1), some (.int v2), some (.int v3), some (.int v4), some (.int v5)], [.int t1, .ref t0]) (sh, I, J) Q := by
  obtain rfl := e0.eq
  obtain rfl := e3.eq
  obtain rfl := e4.eq
  exact xG_N 7 (ps := [xW sh t0 .int, vp_in t1 (xlen sh t0), xRf sh r0 10 11, xA sh (xrf sh r0 11) .boolean, vp_in v5 (xlen sh (xrf sh r0 11))]) (f1 := (110, [some (.ref r0), some (.int v1), some (.int v2), some (.int v3), some (.int v4), some (.int v5)], [.int ((xup I t0 t1.toNatClampNeg (0 : Int32)) (xrf sh r0 11) v5.toNatClampNeg)])) (h1 := (sh, xup I t0 t1.toNatClampNeg (0 : Int32), J)) rfl ⟨⟨e0.ar, e1⟩, e2, e3.rf, e4.ar, e5⟩ (xG_B rfl rfl k1 k2)
set_option maxRecDepth 100000 in
theorem s_M_giveLengths_90 {d : Nat} {Q : xO → xH → Prop} {sh : List xS} {I : Nat → Nat → Int32} {J : Nat → Nat → Int64} {r0 : Nat} {v1 : Int32} {v2 : Int32} {v3 : Int32} {v4 : Int32} {v5 : Int32} {t0 : Nat} {t1 : Int32}
    (k1 : v4 ≤ 0 → xG d zm_M_giveLengths (101, [some (.ref r0), some (.int v1), some (.int v2), some (.int v3), some (.int v4), some (.int v5)], [.int t1, .ref t0]) (sh, I, J) Q)
    (k2 : ¬ (v4 ≤ 0) → xG d zm_M_giveLengths (95, [some (.ref r0), some (.int v1), some (.int v2), some (.int v3), some (.int v4), some (.int v5)], [.int t1, .ref t0]) (sh, I, J) Q) :
    xG d zm_M_giveLengths (90, [some (.ref r0), some (.int v1), some (.int v2), some (.int v3), some (.int v4), some (.int v5)], [.int t1, .ref t0]) (sh, I, J) Q := by
  exact xG_N 1 (ps := []) (f1 := (92, [some (.ref r0), some (.int v1), some (.int v2), some (.int v3), some (.int v4), some (.int v5)], [.int v4, .int t1, .ref t0])) (h1 := (sh, I, J)) rfl trivial (xG_B rfl rfl k1 k2)
set_option maxRecDepth 100000 in
theorem s_M_giveLengths_95 {d : Nat} {Q : xO → xH → Prop} {sh : List xS} {I : Nat → Nat → Int32} {J : Nat → Nat → Int64} {r0 : Nat} {v1 : Int32} {v2 : Int32} {v3 : Int32} {v4 : Int32} {v5 : Int32} {t0 : Nat} {t1 : Int32} {n1 : Nat} {a2 : Nat} {n3 : Nat}
    (e0 : xAr sh t0 .int n1)
    (e1 : 4 ≤ t0)
    (e2 : vp_in t1 n1)
    (e3 : xRr sh r0 10 11 a2)
    (e4 : xAr sh a2 .boolean n3)
    (e5 : vp_in v5 n3)
    (k1 : ((xup I t0 t1.toNatClampNeg (v3 - (1 : Int32))) a2 v5.toNatClampNeg) = 0 → xG d zm_M_giveLengths (125, [some (.ref r0), some (.int v1), some (.int v2), some (.int v3), some (.int v4), some (.int v5)], []) (sh, xup I t0 t1.toNatClampNeg (v3 - (1 : Int32)), J) Q)
    (k2 : ¬ (((xup I t0 t1.toNatClampNeg (v3 - (1 : Int32))) a2 v5.toNatClampNeg) = 0) → xG d zm_M_giveLengths (113, [some (.ref r0), some (.int v1), some (.int v2), some (.int v3), some (.int v4), some (.int v5)], []) (sh, xup I t0 t1.toNatClampNeg (v3 - (1 : Int32)), J) Q) :
    xG d zm_M_giveLengths (95, [some (.ref r0), some (.int v1), some (.int v2), some (.int v3), some (.int v4), some (.int v5)], [.int t1, .ref t0]) (sh, I, J) Q := by
  obtain rfl := e0.eq
  obtain rfl := e3.eq
  obtain rfl := e4.eq
  exact xG_N 9 (ps := [xW sh t0 .int, vp_in t1 (xlen sh t0), xRf sh r0 10 11, xA sh (xrf sh r0 11) .boolean, vp_in v5 (xlen sh (xrf sh r0 11))]) (f1 := (110, [some (.ref r0), some (.int v1), some (.int v2), some (.int v3), some (.int v4), some (.int v5)], [.int ((xup I t0 t1.toNatClampNeg (v3 - (1 : Int32))) (xrf sh r0 11) v5.toNatClampNeg)])) (h1 := (sh, xup I t0 t1.toNatClampNeg (v3 - (1 : Int32)), J)) rfl ⟨⟨e0.ar, e1⟩, e2, e3.rf, e4.ar, e5⟩ (xG_B rfl rfl k1 k2)
set_option maxRecDepth 100000 in
theorem s_M_giveLengths_101 {d : Nat} {Q : xO → xH → Prop} {sh : List xS} {I : Nat → Nat → Int32} {J : Nat → Nat → Int64} {r0 : Nat} {v1 : Int32} {v2 : Int32} {v3 : Int32} {v4 : Int32} {v5 : Int32} {t0 : Nat} {t1 : Int32} {n1 : Nat} {a2 : Nat} {n3 : Nat}
    (e0 : xAr sh t0 .int n1)
    (e1 : 4 ≤ t0)
    (e2 : vp_in t1 n1)
    (e3 : xRr sh r0 10 11 a2)
    (e4 : xAr sh a2 .boolean n3)
    (e5 : vp_in v5 n3)
    (k1 : ((xup I t0 t1.toNatClampNeg v3) a2 v5.toNatClampNeg) = 0 → xG d zm_M_giveLengths (125, [some (.ref r0), some (.int v1), some (.int v2), some (.int v3), some (.int v4), some (.int v5)], []) (sh, xup I t0 t1.toNatClampNeg v3, J) Q)
    (k2 : ¬ (((xup I t0 t1.toNatClampNeg v3) a2 v5.toNatClampNeg) = 0) → xG d zm_M_giveLengths (113, [some (.ref r0), some (.int v1), some (.int v2), some (.int v3), some (.int v4), some (.int v5)], []) (sh, xup I t0 t1.toNatClampNeg v3, J) Q) :
    xG d zm_M_giveLengths (101, [some (.ref r0), some (.int v1), some (.int v2), some (.int v3), some (.int v4), some (.int v5)], [.int t1, .ref t0]) (sh, I, J) Q := by
  obtain rfl := e0.eq
  obtain rfl := e3.eq
  obtain rfl := e4.eq
  exact xG_N 6 (ps := [xW sh t0 .int, vp_in t1 (xlen sh t0), xRf sh r0 10 11, xA sh (xrf sh r0 11) .boolean, vp_in v5 (xlen sh (xrf sh r0 11))]) (f1 := (110, [some (.ref r0), some (.int v1), some (.int v2), some (.int v3), some (.int v4), some (.int v5)], [.int ((xup I t0 t1.toNatClampNeg v3) (xrf sh r0 11) v5.toNatClampNeg)])) (h1 := (sh, xup I t0 t1.toNatClampNeg v3, J)) rfl ⟨⟨e0.ar, e1⟩, e2, e3.rf, e4.ar, e5⟩ (xG_B rfl rfl k1 k2)
set_option maxRecDepth 100000 in
theorem s_M_giveLengths_113 {d : Nat} {Q : xO → xH → Prop} {sh : List xS} {I : Nat → Nat → Int32} {J : Nat → Nat → Int64} {r0 : Nat} {v1 : Int32} {v2 : Int32} {v3 : Int32} {v4 : Int32} {v5 : Int32}
    (k1 : v4 ≤ 0 → xG d zm_M_giveLengths (125, [some (.ref r0), some (.int v1), some (.int v2), some (.int v3), some (.int v4), some (.int v5)], []) (sh, I, J) Q)
    (k2 : ¬ (v4 ≤ 0) → xG d zm_M_giveLengths (118, [some (.ref r0), some (.int v1), some (.int v2), some (.int v3), some (.int v4), some (.int v5)], []) (sh, I, J) Q) :
    xG d zm_M_giveLengths (113, [some (.ref r0), some (.int v1), some (.int v2), some (.int v3), some (.int v4), some (.int v5)], []) (sh, I, J) Q := by
  exact xG_N 1 (ps := []) (f1 := (115, [some (.ref r0), some (.int v1), some (.int v2), some (.int v3), some (.int v4), some (.int v5)], [.int v4])) (h1 := (sh, I, J)) rfl trivial (xG_B rfl rfl k1 k2)
set_option maxRecDepth 100000 in
theorem s_M_giveLengths_118 {d : Nat} {Q : xO → xH → Prop} {sh : List xS} {I : Nat → Nat → Int32} {J : Nat → Nat → Int64} {r0 : Nat} {v1 : Int32} {v2 : Int32} {v3 : Int32} {v4 : Int32} {v5 : Int32}
    (k : xG d zm_M_giveLengths (54, [some (.ref r0), some (.int v1), some (.int v2), some (.int v3), some (.int (v4 - (1 : Int32))), some (.int (v5 + (1 : Int32)))], []) (sh, I, J) Q) :
    xG d zm_M_giveLengths (118, [some (.ref r0), some (.int v1), some (.int v2), some (.int v3), some (.int v4), some (.int v5)], []) (sh, I, J) Q := by
  exact xG_N 7 (ps := []) (f1 := (54, [some (.ref r0), some (.int v1), some (.int v2), some (.int v3), some (.int (v4 - (1 : Int32))), some (.int (v5 + (1 : Int32)))], [])) (h1 := (sh, I, J)) rfl trivial (k)
set_option maxRecDepth 100000 in
theorem s_M_giveLengths_125 {d : Nat} {Q : xO → xH → Prop} {sh : List xS} {I : Nat → Nat → Int32} {J : Nat → Nat → Int64} {r0 : Nat} {v1 : Int32} {v2 : Int32} {v3 : Int32} {v4 : Int32} {v5 : Int32}
    (k : xG d zm_M_giveLengths (54, [some (.ref r0), some (.int v1), some (.int v2), some (.int v3), some (.int v4), some (.int (v5 + (1 : Int32)))], []) (sh, I, J) Q) :
    xG d zm_M_giveLengths (125, [some (.ref r0), some (.int v1), some (.int v2), some (.int v3), some (.int v4), some (.int v5)], []) (sh, I, J) Q := by
  exact xG_N 4 (ps := []) (f1 := (54, [some (.ref r0), some (.int v1), some (.int v2), some (.int v3), some (.int v4), some (.int (v5 + (1 : Int32)))], [])) (h1 := (sh, I, J)) rfl trivial (k)
set_option maxRecDepth 100000 in
theorem s_M_giveLengths_135 {d : Nat} {Q : xO → xH → Prop} {sh : List xS} {I : Nat → Nat → Int32} {J : Nat → Nat → Int64} {r0 : Nat} {v1 : Int32} {v2 : Int32} {v3 : Int32} {v4 : Int32} {v5 : Int32}
    (ko : xOb sh r0 10)
    (k : xg d qM_weigh [.ref r0, .int v1] (sh, I, J) (xU (fun h1 => xG d zm_M_giveLengths (140, [some (.ref r0), some (.int v1), some (.int v2), some (.int v3), some (.int v4), some (.int v5)], []) h1 Q) (fun x h1 => Q (.inr x) h1))) :
    xG d zm_M_giveLengths (135, [some (.ref r0), some (.int v1), some (.int v2), some (.int v3), some (.int v4), some (.int v5)], []) (sh, I, J) Q := by
  exact xG_N 2 (ps := []) (f1 := (137, [some (.ref r0), some (.int v1), some (.int v2), some (.int v3), some (.int v4), some (.int v5)], [.int v1, .ref r0])) (h1 := (sh, I, J)) rfl trivial (xG_Cu rfl rfl (Nat.le_of_ble_eq_true rfl) (Nat.le_of_ble_eq_true rfl) ⟨_, _, rfl, ko⟩ rfl k)
set_option maxRecDepth 100000 in
theorem s_M_giveLengths_140 {d : Nat} {Q : xO → xH → Prop} {sh : List xS} {I : Nat → Nat → Int32} {J : Nat → Nat → Int64} {r0 : Nat} {v1 : Int32} {v2 : Int32} {v3 : Int32} {v4 : Int32} {v5 : Int32}
    (k : Q (.inl (none)) (sh, I, J)) :
    xG d zm_M_giveLengths (140, [some (.ref r0), some (.int v1), some (.int v2), some (.int v3), some (.int v4), some (.int v5)], []) (sh, I, J) Q := by
  exact xG_Q rfl rfl trivial k
set_option maxRecDepth 100000 in
theorem s_M_putSymbol_0 {d : Nat} {Q : xO → xH → Prop} {sh : List xS} {I : Nat → Nat → Int32} {J : Nat → Nat → Int64} {r0 : Nat} {v1 : Int32} {v2 : Int32} {a1 : Nat} {n2 : Nat}
    (e0 : xRr sh r0 10 13 a1)
    (e1 : xAr sh a1 .int n2)
    (e2 : vp_in v1 n2)
    (k1 : (I a1 v1.toNatClampNeg) < 0 → xG d zm_M_putSymbol (10, [some (.ref r0), some (.int v1), some (.int v2), none, none, none], []) (sh, I, J) Q)
    (k2 : ¬ ((I a1 v1.toNatClampNeg) < 0) → xG d zm_M_putSymbol (9, [some (.ref r0), some (.int v1), some (.int v2), none, none, none], []) (sh, I, J) Q) :
    xG d zm_M_putSymbol (0, [some (.ref r0), some (.int v1), some (.int v2), none, none, none], []) (sh, I, J) Q := by
  obtain rfl := e0.eq
  obtain rfl := e1.eq
  exact xG_N 4 (ps := [xRf sh r0 10 13, xA sh (xrf sh r0 13) .int, vp_in v1 (xlen sh (xrf sh r0 13))]) (f1 := (6, [some (.ref r0), some (.int v1), some (.int v2), none, none, none], [.int (I (xrf sh r0 13) v1.toNatClampNeg)])) (h1 := (sh, I, J)) rfl ⟨e0.rf, e1.ar, e2⟩ (xG_B rfl rfl k1 k2)
set_option maxRecDepth 100000 in
theorem s_M_putSymbol_9 {d : Nat} {Q : xO → xH → Prop} {sh : List xS} {I : Nat → Nat → Int32} {J : Nat → Nat → Int64} {r0 : Nat} {v1 : Int32} {v2 : Int32}
    (k : Q (.inl (none)) (sh, I, J)) :
    xG d zm_M_putSymbol (9, [some (.ref r0), some (.int v1), some (.int v2), none, none, none], []) (sh, I, J) Q := by
  exact xG_Q rfl rfl trivial k
set_option maxRecDepth 100000 in
theorem s_M_putSymbol_10 {d : Nat} {Q : xO → xH → Prop} {sh : List xS} {I : Nat → Nat → Int32} {J : Nat → Nat → Int64} {r0 : Nat} {v1 : Int32} {v2 : Int32} {a1 : Nat}
    (e0 : xRr sh r0 10 10 a1)
    (k : xg d qM_base [.int v1] (sh, I, J) (xI (fun v h1 => xG d zm_M_putSymbol (18, [some (.ref r0), some (.int v1), some (.int v2), none, none, none], [.int v, .ref a1]) h1 Q) (fun x h1 => Q (.inr x) h1))) :
    xG d zm_M_putSymbol (10, [some (.ref r0), some (.int v1), some (.int v2), none, none, none], []) (sh, I, J) Q := by
  obtain rfl := e0.eq
  exact xG_N 3 (ps := [xRf sh r0 10 10]) (f1 := (15, [some (.ref r0), some (.int v1), some (.int v2), none, none, none], [.int v1, .ref (xrf sh r0 10)])) (h1 := (sh, I, J)) rfl e0.rf (xG_Ci rfl rfl (Nat.le_of_ble_eq_true rfl) (Nat.le_of_ble_eq_true rfl) trivial rfl k)
set_option maxRecDepth 100000 in
theorem s_M_putSymbol_18 {d : Nat} {Q : xO → xH → Prop} {sh : List xS} {I : Nat → Nat → Int32} {J : Nat → Nat → Int64} {r0 : Nat} {v1 : Int32} {v2 : Int32} {t0 : Nat} {t1 : Int32} {n1 : Nat}
    (e0 : xAr sh t0 .int n1)
    (e1 : vp_in (t1 + v2) n1)
    (k : xG d zm_M_putSymbol (28, [some (.ref r0), some (.int v1), some (.int v2), some (.int (I t0 (t1 + v2).toNatClampNeg)), some (.int (0 : Int32)), some (.int (1 : Int32))], []) (sh, I, J) Q) :
    xG d zm_M_putSymbol (18, [some (.ref r0), some (.int v1), some (.int v2), none, none, none], [.int t1, .ref t0]) (sh, I, J) Q := by
  obtain rfl := e0.eq
  exact xG_N 8 (ps := [xA sh t0 .int, vp_in (t1 + v2) (xlen sh t0)]) (f1 := (28, [some (.ref r0), some (.int v1), some (.int v2), some (.int (I t0 (t1 + v2).toNatClampNeg)), some (.int (0 : Int32)), some (.int (1 : Int32))], [])) (h1 := (sh, I, J)) rfl ⟨e0.ar, e1⟩ (k)
set_option maxRecDepth 100000 in
theorem s_M_putSymbol_28 {d : Nat} {Q : xO → xH → Prop} {sh : List xS} {I : Nat → Nat → Int32} {J : Nat → Nat → Int64} {r0 : Nat} {v1 : Int32} {v2 : Int32} {v3 : Int32} {v4 : Int32} {v5 : Int32}
    (k1 : v3 ≤ v5 → xG d zm_M_putSymbol (54, [some (.ref r0), some (.int v1), some (.int v2), some (.int v3), some (.int v4), some (.int v5)], []) (sh, I, J) Q)
    (k2 : ¬ (v3 ≤ v5) → xG d zm_M_putSymbol (34, [some (.ref r0), some (.int v1), some (.int v2), some (.int v3), some (.int v4), some (.int v5)], []) (sh, I, J) Q) :
    xG d zm_M_putSymbol (28, [some (.ref r0), some (.int v1), some (.int v2), some (.int v3), some (.int v4), some (.int v5)], []) (sh, I, J) Q := by
  exact xG_N 2 (ps := []) (f1 := (31, [some (.ref r0), some (.int v1), some (.int v2), some (.int v3), some (.int v4), some (.int v5)], [.int v3, .int v5])) (h1 := (sh, I, J)) rfl trivial (xG_B rfl rfl k1 k2)
set_option maxRecDepth 100000 in
theorem s_M_putSymbol_34 {d : Nat} {Q : xO → xH → Prop} {sh : List xS} {I : Nat → Nat → Int32} {J : Nat → Nat → Int64} {r0 : Nat} {v1 : Int32} {v2 : Int32} {v3 : Int32} {v4 : Int32} {v5 : Int32}
    (ko : xOb sh r0 10)
    (k : xg d qM_many [.ref r0, .int v1, .int v5] (sh, I, J) (xI (fun v h1 => xG d zm_M_putSymbol (44, [some (.ref r0), some (.int v1), some (.int v2), some (.int v3), some (.int v4), some (.int v5)], [.int v, .int v4, .int (2 : Int32)]) h1 Q) (fun x h1 => Q (.inr x) h1))) :
    xG d zm_M_putSymbol (34, [some (.ref r0), some (.int v1), some (.int v2), some (.int v3), some (.int v4), some (.int v5)], []) (sh, I, J) Q := by
  exact xG_N 5 (ps := []) (f1 := (41, [some (.ref r0), some (.int v1), some (.int v2), some (.int v3), some (.int v4), some (.int v5)], [.int v5, .int v1, .ref r0, .int v4, .int (2 : Int32)])) (h1 := (sh, I, J)) rfl trivial (xG_Ci rfl rfl (Nat.le_of_ble_eq_true rfl) (Nat.le_of_ble_eq_true rfl) ⟨_, _, rfl, ko⟩ rfl k)
set_option maxRecDepth 100000 in
theorem s_M_putSymbol_44 {d : Nat} {Q : xO → xH → Prop} {sh : List xS} {I : Nat → Nat → Int32} {J : Nat → Nat → Int64} {r0 : Nat} {v1 : Int32} {v2 : Int32} {v3 : Int32} {v4 : Int32} {v5 : Int32} {t0 : Int32} {t1 : Int32} {t2 : Int32}
    (k : xG d zm_M_putSymbol (28, [some (.ref r0), some (.int v1), some (.int v2), some (.int v3), some (.int (t0 * (t1 + t2))), some (.int (v5 + (1 : Int32)))], []) (sh, I, J) Q) :
    xG d zm_M_putSymbol (44, [some (.ref r0), some (.int v1), some (.int v2), some (.int v3), some (.int v4), some (.int v5)], [.int t2, .int t1, .int t0]) (sh, I, J) Q := by
  exact xG_N 5 (ps := []) (f1 := (28, [some (.ref r0), some (.int v1), some (.int v2), some (.int v3), some (.int (t0 * (t1 + t2))), some (.int (v5 + (1 : Int32)))], [])) (h1 := (sh, I, J)) rfl trivial (k)
set_option maxRecDepth 100000 in
theorem s_M_putSymbol_54 {d : Nat} {Q : xO → xH → Prop} {sh : List xS} {I : Nat → Nat → Int32} {J : Nat → Nat → Int64} {r0 : Nat} {v1 : Int32} {v2 : Int32} {v3 : Int32} {v4 : Int32} {v5 : Int32}
    (k : xG d zm_M_putSymbol (57, [some (.ref r0), some (.int v1), some (.int v2), some (.int v3), some (.int v4), some (.int (0 : Int32))], []) (sh, I, J) Q) :
    xG d zm_M_putSymbol (54, [some (.ref r0), some (.int v1), some (.int v2), some (.int v3), some (.int v4), some (.int v5)], []) (sh, I, J) Q := by
  exact xG_N 2 (ps := []) (f1 := (57, [some (.ref r0), some (.int v1), some (.int v2), some (.int v3), some (.int v4), some (.int (0 : Int32))], [])) (h1 := (sh, I, J)) rfl trivial (k)
set_option maxRecDepth 100000 in
theorem s_M_putSymbol_57 {d : Nat} {Q : xO → xH → Prop} {sh : List xS} {I : Nat → Nat → Int32} {J : Nat → Nat → Int64} {r0 : Nat} {v1 : Int32} {v2 : Int32} {v3 : Int32} {v4 : Int32} {v5 : Int32}
    (k1 : v2 ≤ v5 → xG d zm_M_putSymbol (96, [some (.ref r0), some (.int v1), some (.int v2), some (.int v3), some (.int v4), some (.int v5)], []) (sh, I, J) Q)
    (k2 : ¬ (v2 ≤ v5) → xG d zm_M_putSymbol (63, [some (.ref r0), some (.int v1), some (.int v2), some (.int v3), some (.int v4), some (.int v5)], []) (sh, I, J) Q) :
    xG d zm_M_putSymbol (57, [some (.ref r0), some (.int v1), some (.int v2), some (.int v3), some (.int v4), some (.int v5)], []) (sh, I, J) Q := by
  exact xG_N 2 (ps := []) (f1 := (60, [some (.ref r0), some (.int v1), some (.int v2), some (.int v3), some (.int v4), some (.int v5)], [.int v2, .int v5])) (h1 := (sh, I, J)) rfl trivial (xG_B rfl rfl k1 k2)
set_option maxRecDepth 100000 in
theorem s_M_putSymbol_63 {d : Nat} {Q : xO → xH → Prop} {sh : List xS} {I : Nat → Nat → Int32} {J : Nat → Nat → Int64} {r0 : Nat} {v1 : Int32} {v2 : Int32} {v3 : Int32} {v4 : Int32} {v5 : Int32} {a1 : Nat}
    (e0 : xRr sh r0 10 10 a1)
    (k : xg d qM_base [.int v1] (sh, I, J) (xI (fun v h1 => xG d zm_M_putSymbol (71, [some (.ref r0), some (.int v1), some (.int v2), some (.int v3), some (.int v4), some (.int v5)], [.int v, .ref a1]) h1 Q) (fun x h1 => Q (.inr x) h1))) :
    xG d zm_M_putSymbol (63, [some (.ref r0), some (.int v1), some (.int v2), some (.int v3), some (.int v4), some (.int v5)], []) (sh, I, J) Q := by
  obtain rfl := e0.eq
  exact xG_N 3 (ps := [xRf sh r0 10 10]) (f1 := (68, [some (.ref r0), some (.int v1), some (.int v2), some (.int v3), some (.int v4), some (.int v5)], [.int v1, .ref (xrf sh r0 10)])) (h1 := (sh, I, J)) rfl e0.rf (xG_Ci rfl rfl (Nat.le_of_ble_eq_true rfl) (Nat.le_of_ble_eq_true rfl) trivial rfl k)
set_option maxRecDepth 100000 in
theorem s_M_putSymbol_71 {d : Nat} {Q : xO → xH → Prop} {sh : List xS} {I : Nat → Nat → Int32} {J : Nat → Nat → Int64} {r0 : Nat} {v1 : Int32} {v2 : Int32} {v3 : Int32} {v4 : Int32} {v5 : Int32} {t0 : Nat} {t1 : Int32} {n1 : Nat}
    (e0 : xAr sh t0 .int n1)
    (e1 : vp_in (t1 + v5) n1)
    (k1 : ¬ (I t0 (t1 + v5).toNatClampNeg) = v3 → xG d zm_M_putSymbol (86, [some (.ref r0), some (.int v1), some (.int v2), some (.int v3), some (.int v4), some (.int v5)], []) (sh, I, J) Q)
    (k2 : ¬ (¬ (I t0 (t1 + v5).toNatClampNeg) = v3) → xG d zm_M_putSymbol (79, [some (.ref r0), some (.int v1), some (.int v2), some (.int v3), some (.int v4), some (.int v5)], []) (sh, I, J) Q) :
    xG d zm_M_putSymbol (71, [some (.ref r0), some (.int v1), some (.int v2), some (.int v3), some (.int v4), some (.int v5)], [.int t1, .ref t0]) (sh, I, J) Q := by
  obtain rfl := e0.eq
  exact xG_N 4 (ps := [xA sh t0 .int, vp_in (t1 + v5) (xlen sh t0)]) (f1 := (76, [some (.ref r0), some (.int v1), some (.int v2), some (.int v3), some (.int v4), some (.int v5)], [.int v3, .int (I t0 (t1 + v5).toNatClampNeg)])) (h1 := (sh, I, J)) rfl ⟨e0.ar, e1⟩ (xG_B rfl rfl k1 k2)
set_option maxRecDepth 100000 in
theorem s_M_putSymbol_79 {d : Nat} {Q : xO → xH → Prop} {sh : List xS} {I : Nat → Nat → Int32} {J : Nat → Nat → Int64} {r0 : Nat} {v1 : Int32} {v2 : Int32} {v3 : Int32} {v4 : Int32} {v5 : Int32}
    (k : xG d zm_M_putSymbol (57, [some (.ref r0), some (.int v1), some (.int v2), some (.int v3), some (.int (v4 + (1 : Int32))), some (.int (v5 + (1 : Int32)))], []) (sh, I, J) Q) :
    xG d zm_M_putSymbol (79, [some (.ref r0), some (.int v1), some (.int v2), some (.int v3), some (.int v4), some (.int v5)], []) (sh, I, J) Q := by
  exact xG_N 7 (ps := []) (f1 := (57, [some (.ref r0), some (.int v1), some (.int v2), some (.int v3), some (.int (v4 + (1 : Int32))), some (.int (v5 + (1 : Int32)))], [])) (h1 := (sh, I, J)) rfl trivial (k)
set_option maxRecDepth 100000 in
theorem s_M_putSymbol_86 {d : Nat} {Q : xO → xH → Prop} {sh : List xS} {I : Nat → Nat → Int32} {J : Nat → Nat → Int64} {r0 : Nat} {v1 : Int32} {v2 : Int32} {v3 : Int32} {v4 : Int32} {v5 : Int32}
    (k : xG d zm_M_putSymbol (57, [some (.ref r0), some (.int v1), some (.int v2), some (.int v3), some (.int v4), some (.int (v5 + (1 : Int32)))], []) (sh, I, J) Q) :
    xG d zm_M_putSymbol (86, [some (.ref r0), some (.int v1), some (.int v2), some (.int v3), some (.int v4), some (.int v5)], []) (sh, I, J) Q := by
  exact xG_N 4 (ps := []) (f1 := (57, [some (.ref r0), some (.int v1), some (.int v2), some (.int v3), some (.int v4), some (.int (v5 + (1 : Int32)))], [])) (h1 := (sh, I, J)) rfl trivial (k)
set_option maxRecDepth 100000 in
theorem s_M_putSymbol_96 {d : Nat} {Q : xO → xH → Prop} {sh : List xS} {I : Nat → Nat → Int32} {J : Nat → Nat → Int64} {r0 : Nat} {v1 : Int32} {v2 : Int32} {v3 : Int32} {v4 : Int32} {v5 : Int32}
    (k : xG d zm_M_putSymbol (101, [some (.ref r0), some (.int v1), some (.int v2), some (.int v3), some (.int v4), some (.int (v3 - (1 : Int32)))], []) (sh, I, J) Q) :
    xG d zm_M_putSymbol (96, [some (.ref r0), some (.int v1), some (.int v2), some (.int v3), some (.int v4), some (.int v5)], []) (sh, I, J) Q := by
  exact xG_N 4 (ps := []) (f1 := (101, [some (.ref r0), some (.int v1), some (.int v2), some (.int v3), some (.int v4), some (.int (v3 - (1 : Int32)))], [])) (h1 := (sh, I, J)) rfl trivial (k)
set_option maxRecDepth 100000 in
theorem s_M_putSymbol_101 {d : Nat} {Q : xO → xH → Prop} {sh : List xS} {I : Nat → Nat → Int32} {J : Nat → Nat → Int64} {r0 : Nat} {v1 : Int32} {v2 : Int32} {v3 : Int32} {v4 : Int32} {v5 : Int32}
    (k1 : v5 < 0 → xG d zm_M_putSymbol (122, [some (.ref r0), some (.int v1), some (.int v2), some (.int v3), some (.int v4), some (.int v5)], []) (sh, I, J) Q)
    (k2 : ¬ (v5 < 0) → xG d zm_M_putSymbol (106, [some (.ref r0), some (.int v1), some (.int v2), some (.int v3), some (.int v4), some (.int v5)], []) (sh, I, J) Q) :
    xG d zm_M_putSymbol (101, [some (.ref r0), some (.int v1), some (.int v2), some (.int v3), some (.int v4), some (.int v5)], []) (sh, I, J) Q := by
  exact xG_N 1 (ps := []) (f1 := (103, [some (.ref r0), some (.int v1), some (.int v2), some (.int v3), some (.int v4), some (.int v5)], [.int v5])) (h1 := (sh, I, J)) rfl trivial (xG_B rfl rfl k1 k2)
set_option maxRecDepth 100000 in
theorem s_M_putSymbol_106 {d : Nat} {Q : xO → xH → Prop} {sh : List xS} {I : Nat → Nat → Int32} {J : Nat → Nat → Int64} {r0 : Nat} {v1 : Int32} {v2 : Int32} {v3 : Int32} {v4 : Int32} {v5 : Int32}
    (ko : xOb sh r0 10)
    (k : xg d qM_put [.ref r0, .int (v4 >>> (v5 &&& 31)), .int (1 : Int32)] (sh, I, J) (xU (fun h1 => xG d zm_M_putSymbol (116, [some (.ref r0), some (.int v1), some (.int v2), some (.int v3), some (.int v4), some (.int v5)], []) h1 Q) (fun x h1 => Q (.inr x) h1))) :
    xG d zm_M_putSymbol (106, [some (.ref r0), some (.int v1), some (.int v2), some (.int v3), some (.int v4), some (.int v5)], []) (sh, I, J) Q := by
  exact xG_N 5 (ps := []) (f1 := (113, [some (.ref r0), some (.int v1), some (.int v2), some (.int v3), some (.int v4), some (.int v5)], [.int (1 : Int32), .int (v4 >>> (v5 &&& 31)), .ref r0])) (h1 := (sh, I, J)) rfl trivial (xG_Cu rfl rfl (Nat.le_of_ble_eq_true rfl) (Nat.le_of_ble_eq_true rfl) ⟨_, _, rfl, ko⟩ rfl k)
set_option maxRecDepth 100000 in
theorem s_M_putSymbol_116 {d : Nat} {Q : xO → xH → Prop} {sh : List xS} {I : Nat → Nat → Int32} {J : Nat → Nat → Int64} {r0 : Nat} {v1 : Int32} {v2 : Int32} {v3 : Int32} {v4 : Int32} {v5 : Int32}
    (k : xG d zm_M_putSymbol (101, [some (.ref r0), some (.int v1), some (.int v2), some (.int v3), some (.int v4), some (.int (v5 + (-1 : Int32)))], []) (sh, I, J) Q) :
    xG d zm_M_putSymbol (116, [some (.ref r0), some (.int v1), some (.int v2), some (.int v3), some (.int v4), some (.int v5)], []) (sh, I, J) Q := by
  exact xG_N 2 (ps := []) (f1 := (101, [some (.ref r0), some (.int v1), some (.int v2), some (.int v3), some (.int v4), some (.int (v5 + (-1 : Int32)))], [])) (h1 := (sh, I, J)) rfl trivial (k)
set_option maxRecDepth 100000 in
theorem s_M_putSymbol_122 {d : Nat} {Q : xO → xH → Prop} {sh : List xS} {I : Nat → Nat → Int32} {J : Nat → Nat → Int64} {r0 : Nat} {v1 : Int32} {v2 : Int32} {v3 : Int32} {v4 : Int32} {v5 : Int32}
    (k : Q (.inl (none)) (sh, I, J)) :
    xG d zm_M_putSymbol (122, [some (.ref r0), some (.int v1), some (.int v2), some (.int v3), some (.int v4), some (.int v5)], []) (sh, I, J) Q := by
  exact xG_Q rfl rfl trivial k
set_option maxRecDepth 100000 in
theorem s_M_say_0 {d : Nat} {Q : xO → xH → Prop} {sh : List xS} {I : Nat → Nat → Int32} {J : Nat → Nat → Int64} {r0 : Nat} {v1 : Int32} {v2 : Int32} {a1 : Nat} {n2 : Nat} {a3 : Nat} {n4 : Nat} {a5 : Nat} {n6 : Nat}
    (e0 : xRr sh r0 10 31 a1)
    (e1 : xAr sh a1 .int n2)
    (e2 : 4 ≤ a1)
    (e3 : vp_in (I r0 33) n2)
    (e4 : xRr sh r0 10 32 a3)
    (e5 : xAr sh a3 .int n4)
    (e6 : 4 ≤ a3)
    (e7 : vp_in ((xup I a1 (I r0 33).toNatClampNeg v1) r0 33) n4)
    (e8 : xRr sh r0 10 11 a5)
    (e9 : xAr sh a5 .boolean n6)
    (e10 : 4 ≤ a5)
    (e11 : vp_in ((1104 : Int32) + v1) n6)
    (k : Q (.inl (none)) (sh, xup (xup (xup (xup I a1 (I r0 33).toNatClampNeg v1) a3 ((xup I a1 (I r0 33).toNatClampNeg v1) r0 33).toNatClampNeg v2) r0 33 (((xup (xup I a1 (I r0 33).toNatClampNeg v1) a3 ((xup I a1 (I r0 33).toNatClampNeg v1) r0 33).toNatClampNeg v2) r0 33) + (1 : Int32))) a5 ((1104 : Int32) + v1).toNatClampNeg (1 : Int32), J)) :
    xG d zm_M_say (0, [some (.ref r0), some (.int v1), some (.int v2)], []) (sh, I, J) Q := by
  obtain rfl := e0.eq
  obtain rfl := e1.eq
  obtain rfl := e4.eq
  obtain rfl := e5.eq
  obtain rfl := e8.eq
  obtain rfl := e9.eq
  exact xG_N 25 (ps := [xRf sh r0 10 31, xOb sh r0 10, xW sh (xrf sh r0 31) .int, vp_in (I r0 33) (xlen sh (xrf sh r0 31)), xRf sh r0 10 32, xOb sh r0 10, xW sh (xrf sh r0 32) .int, vp_in ((xup I (xrf sh r0 31) (I r0 33).toNatClampNeg v1) r0 33) (xlen sh (xrf sh r0 32)), xOb sh r0 10, xOb sh r0 10, xRf sh r0 10 11, xW sh (xrf sh r0 11) .boolean, vp_in ((1104 : Int32) + v1) (xlen sh (xrf sh r0 11)), ((1 : Int32) : Int32) = 0 ∨ ((1 : Int32) : Int32) = 1]) (f1 := (41, [some (.ref r0), some (.int v1), some (.int v2)], [])) (h1 := (sh, xup (xup (xup (xup I (xrf sh r0 31) (I r0 33).toNatClampNeg v1) (xrf sh r0 32) ((xup I (xrf sh r0 31) (I r0 33).toNatClampNeg v1) r0 33).toNatClampNeg v2) r0 33 (((xup (xup I (xrf sh r0 31) (I r0 33).toNatClampNeg v1) (xrf sh r0 32) ((xup I (xrf sh r0 31) (I r0 33).toNatClampNeg v1) r0 33).toNatClampNeg v2) r0 33) + (1 : Int32))) (xrf sh r0 11) ((1104 : Int32) + v1).toNatClampNeg (1 : Int32), J)) rfl ⟨e0.rf, e0.ob, ⟨e1.ar, e2⟩, e3, e4.rf, e0.ob, ⟨e5.ar, e6⟩, e7, e0.ob, e0.ob, e8.rf, ⟨e9.ar, e10⟩, e11, (show ((1 : Int32) : Int32) = 0 ∨ ((1 : Int32) : Int32) = 1 by decide)⟩ (xG_Q rfl rfl trivial k)
set_option maxRecDepth 100000 in
theorem s_M_sayZeros_0 {d : Nat} {Q : xO → xH → Prop} {sh : List xS} {I : Nat → Nat → Int32} {J : Nat → Nat → Int64} {r0 : Nat} {v1 : Int32}
    (k : xG d zm_M_sayZeros (2, [some (.ref r0), some (.int v1), some (.int v1), none], []) (sh, I, J) Q) :
    xG d zm_M_sayZeros (0, [some (.ref r0), some (.int v1), none, none], []) (sh, I, J) Q := by
  exact xG_N 2 (ps := []) (f1 := (2, [some (.ref r0), some (.int v1), some (.int v1), none], [])) (h1 := (sh, I, J)) rfl trivial (k)
set_option maxRecDepth 100000 in
theorem s_M_sayZeros_2 {d : Nat} {Q : xO → xH → Prop} {sh : List xS} {I : Nat → Nat → Int32} {J : Nat → Nat → Int64} {r0 : Nat} {v1 : Int32} {v2 : Int32} {o3 : Option Value}
    (k1 : v2 < (11 : Int32) → xG d zm_M_sayZeros (40, [some (.ref r0), some (.int v1), some (.int v2), o3], []) (sh, I, J) Q)
    (k2 : ¬ (v2 < (11 : Int32)) → xG d zm_M_sayZeros (8, [some (.ref r0), some (.int v1), some (.int v2), o3], []) (sh, I, J) Q) :
    xG d zm_M_sayZeros (2, [some (.ref r0), some (.int v1), some (.int v2), o3], []) (sh, I, J) Q := by
  exact xG_N 2 (ps := []) (f1 := (5, [some (.ref r0), some (.int v1), some (.int v2), o3], [.int (11 : Int32), .int v2])) (h1 := (sh, I, J)) rfl trivial (xG_B rfl rfl k1 k2)
set_option maxRecDepth 100000 in
theorem s_M_sayZeros_8 {d : Nat} {Q : xO → xH → Prop} {sh : List xS} {I : Nat → Nat → Int32} {J : Nat → Nat → Int64} {r0 : Nat} {v1 : Int32} {v2 : Int32} {o3 : Option Value}
    (k1 : v2 ≤ (138 : Int32) → xG d zm_M_sayZeros (21, [some (.ref r0), some (.int v1), some (.int v2), o3], []) (sh, I, J) Q)
    (k2 : ¬ (v2 ≤ (138 : Int32)) → xG d zm_M_sayZeros (15, [some (.ref r0), some (.int v1), some (.int v2), o3], []) (sh, I, J) Q) :
    xG d zm_M_sayZeros (8, [some (.ref r0), some (.int v1), some (.int v2), o3], []) (sh, I, J) Q := by
  exact xG_N 2 (ps := []) (f1 := (12, [some (.ref r0), some (.int v1), some (.int v2), o3], [.int (138 : Int32), .int v2])) (h1 := (sh, I, J)) rfl trivial (xG_B rfl rfl k1 k2)
set_option maxRecDepth 100000 in
theorem s_M_sayZeros_15 {d : Nat} {Q : xO → xH → Prop} {sh : List xS} {I : Nat → Nat → Int32} {J : Nat → Nat → Int64} {r0 : Nat} {v1 : Int32} {v2 : Int32} {o3 : Option Value}
    (ko : xOb sh r0 10)
    (k : xg d qM_say [.ref r0, .int (18 : Int32), .int ((138 : Int32) - (11 : Int32))] (sh, I, J) (xU (fun h1 => xG d zm_M_sayZeros (33, [some (.ref r0), some (.int v1), some (.int v2), some (.int (138 : Int32))], []) h1 Q) (fun x h1 => Q (.inr x) h1))) :
    xG d zm_M_sayZeros (15, [some (.ref r0), some (.int v1), some (.int v2), o3], []) (sh, I, J) Q := by
  exact xG_N 8 (ps := []) (f1 := (30, [some (.ref r0), some (.int v1), some (.int v2), some (.int (138 : Int32))], [.int ((138 : Int32) - (11 : Int32)), .int (18 : Int32), .ref r0])) (h1 := (sh, I, J)) rfl trivial (xG_Cu rfl rfl (Nat.le_of_ble_eq_true rfl) (Nat.le_of_ble_eq_true rfl) ⟨_, _, rfl, ko⟩ rfl k)
set_option maxRecDepth 100000 in
theorem s_M_sayZeros_21 {d : Nat} {Q : xO → xH → Prop} {sh : List xS} {I : Nat → Nat → Int32} {J : Nat → Nat → Int64} {r0 : Nat} {v1 : Int32} {v2 : Int32} {o3 : Option Value}
    (ko : xOb sh r0 10)
    (k : xg d qM_say [.ref r0, .int (18 : Int32), .int (v2 - (11 : Int32))] (sh, I, J) (xU (fun h1 => xG d zm_M_sayZeros (33, [some (.ref r0), some (.int v1), some (.int v2), some (.int v2)], []) h1 Q) (fun x h1 => Q (.inr x) h1))) :
    xG d zm_M_sayZeros (21, [some (.ref r0), some (.int v1), some (.int v2), o3], []) (sh, I, J) Q := by
  exact xG_N 7 (ps := []) (f1 := (30, [some (.ref r0), some (.int v1), some (.int v2), some (.int v2)], [.int (v2 - (11 : Int32)), .int (18 : Int32), .ref r0])) (h1 := (sh, I, J)) rfl trivial (xG_Cu rfl rfl (Nat.le_of_ble_eq_true rfl) (Nat.le_of_ble_eq_true rfl) ⟨_, _, rfl, ko⟩ rfl k)
set_option maxRecDepth 100000 in
theorem s_M_sayZeros_33 {d : Nat} {Q : xO → xH → Prop} {sh : List xS} {I : Nat → Nat → Int32} {J : Nat → Nat → Int64} {r0 : Nat} {v1 : Int32} {v2 : Int32} {v3 : Int32}
    (k : xG d zm_M_sayZeros (2, [some (.ref r0), some (.int v1), some (.int (v2 - v3)), some (.int v3)], []) (sh, I, J) Q) :
    xG d zm_M_sayZeros (33, [some (.ref r0), some (.int v1), some (.int v2), some (.int v3)], []) (sh, I, J) Q := by
  exact xG_N 5 (ps := []) (f1 := (2, [some (.ref r0), some (.int v1), some (.int (v2 - v3)), some (.int v3)], [])) (h1 := (sh, I, J)) rfl trivial (k)
set_option maxRecDepth 100000 in
theorem s_M_sayZeros_40 {d : Nat} {Q : xO → xH → Prop} {sh : List xS} {I : Nat → Nat → Int32} {J : Nat → Nat → Int64} {r0 : Nat} {v1 : Int32} {v2 : Int32} {o3 : Option Value}
    (k1 : v2 < (3 : Int32) → xG d zm_M_sayZeros (74, [some (.ref r0), some (.int v1), some (.int v2), o3], []) (sh, I, J) Q)
    (k2 : ¬ (v2 < (3 : Int32)) → xG d zm_M_sayZeros (45, [some (.ref r0), some (.int v1), some (.int v2), o3], []) (sh, I, J) Q) :
    xG d zm_M_sayZeros (40, [some (.ref r0), some (.int v1), some (.int v2), o3], []) (sh, I, J) Q := by
  exact xG_N 2 (ps := []) (f1 := (42, [some (.ref r0), some (.int v1), some (.int v2), o3], [.int (3 : Int32), .int v2])) (h1 := (sh, I, J)) rfl trivial (xG_B rfl rfl k1 k2)
set_option maxRecDepth 100000 in
theorem s_M_sayZeros_45 {d : Nat} {Q : xO → xH → Prop} {sh : List xS} {I : Nat → Nat → Int32} {J : Nat → Nat → Int64} {r0 : Nat} {v1 : Int32} {v2 : Int32} {o3 : Option Value}
    (k1 : v2 ≤ (10 : Int32) → xG d zm_M_sayZeros (56, [some (.ref r0), some (.int v1), some (.int v2), o3], []) (sh, I, J) Q)
    (k2 : ¬ (v2 ≤ (10 : Int32)) → xG d zm_M_sayZeros (51, [some (.ref r0), some (.int v1), some (.int v2), o3], []) (sh, I, J) Q) :
    xG d zm_M_sayZeros (45, [some (.ref r0), some (.int v1), some (.int v2), o3], []) (sh, I, J) Q := by
  exact xG_N 2 (ps := []) (f1 := (48, [some (.ref r0), some (.int v1), some (.int v2), o3], [.int (10 : Int32), .int v2])) (h1 := (sh, I, J)) rfl trivial (xG_B rfl rfl k1 k2)
set_option maxRecDepth 100000 in
theorem s_M_sayZeros_51 {d : Nat} {Q : xO → xH → Prop} {sh : List xS} {I : Nat → Nat → Int32} {J : Nat → Nat → Int64} {r0 : Nat} {v1 : Int32} {v2 : Int32} {o3 : Option Value}
    (ko : xOb sh r0 10)
    (k : xg d qM_say [.ref r0, .int (17 : Int32), .int ((10 : Int32) - (3 : Int32))] (sh, I, J) (xU (fun h1 => xG d zm_M_sayZeros (67, [some (.ref r0), some (.int v1), some (.int v2), some (.int (10 : Int32))], []) h1 Q) (fun x h1 => Q (.inr x) h1))) :
    xG d zm_M_sayZeros (51, [some (.ref r0), some (.int v1), some (.int v2), o3], []) (sh, I, J) Q := by
  exact xG_N 8 (ps := []) (f1 := (64, [some (.ref r0), some (.int v1), some (.int v2), some (.int (10 : Int32))], [.int ((10 : Int32) - (3 : Int32)), .int (17 : Int32), .ref r0])) (h1 := (sh, I, J)) rfl trivial (xG_Cu rfl rfl (Nat.le_of_ble_eq_true rfl) (Nat.le_of_ble_eq_true rfl) ⟨_, _, rfl, ko⟩ rfl k)
set_option maxRecDepth 100000 in
theorem s_M_sayZeros_56 {d : Nat} {Q : xO → xH → Prop} {sh : List xS} {I : Nat → Nat → Int32} {J : Nat → Nat → Int64} {r0 : Nat} {v1 : Int32} {v2 : Int32} {o3 : Option Value}
    (ko : xOb sh r0 10)
    (k : xg d qM_say [.ref r0, .int (17 : Int32), .int (v2 - (3 : Int32))] (sh, I, J) (xU (fun h1 => xG d zm_M_sayZeros (67, [some (.ref r0), some (.int v1), some (.int v2), some (.int v2)], []) h1 Q) (fun x h1 => Q (.inr x) h1))) :
    xG d zm_M_sayZeros (56, [some (.ref r0), some (.int v1), some (.int v2), o3], []) (sh, I, J) Q := by
  exact xG_N 7 (ps := []) (f1 := (64, [some (.ref r0), some (.int v1), some (.int v2), some (.int v2)], [.int (v2 - (3 : Int32)), .int (17 : Int32), .ref r0])) (h1 := (sh, I, J)) rfl trivial (xG_Cu rfl rfl (Nat.le_of_ble_eq_true rfl) (Nat.le_of_ble_eq_true rfl) ⟨_, _, rfl, ko⟩ rfl k)
set_option maxRecDepth 100000 in
theorem s_M_sayZeros_67 {d : Nat} {Q : xO → xH → Prop} {sh : List xS} {I : Nat → Nat → Int32} {J : Nat → Nat → Int64} {r0 : Nat} {v1 : Int32} {v2 : Int32} {v3 : Int32}
    (k : xG d zm_M_sayZeros (40, [some (.ref r0), some (.int v1), some (.int (v2 - v3)), some (.int v3)], []) (sh, I, J) Q) :
    xG d zm_M_sayZeros (67, [some (.ref r0), some (.int v1), some (.int v2), some (.int v3)], []) (sh, I, J) Q := by
  exact xG_N 5 (ps := []) (f1 := (40, [some (.ref r0), some (.int v1), some (.int (v2 - v3)), some (.int v3)], [])) (h1 := (sh, I, J)) rfl trivial (k)
set_option maxRecDepth 100000 in
theorem s_M_sayZeros_74 {d : Nat} {Q : xO → xH → Prop} {sh : List xS} {I : Nat → Nat → Int32} {J : Nat → Nat → Int64} {r0 : Nat} {v1 : Int32} {v2 : Int32} {o3 : Option Value}
    (k1 : v2 ≤ 0 → xG d zm_M_sayZeros (90, [some (.ref r0), some (.int v1), some (.int v2), o3], []) (sh, I, J) Q)
    (k2 : ¬ (v2 ≤ 0) → xG d zm_M_sayZeros (78, [some (.ref r0), some (.int v1), some (.int v2), o3], []) (sh, I, J) Q) :
    xG d zm_M_sayZeros (74, [some (.ref r0), some (.int v1), some (.int v2), o3], []) (sh, I, J) Q := by
  exact xG_N 1 (ps := []) (f1 := (75, [some (.ref r0), some (.int v1), some (.int v2), o3], [.int v2])) (h1 := (sh, I, J)) rfl trivial (xG_B rfl rfl k1 k2)
set_option maxRecDepth 100000 in
theorem s_M_sayZeros_78 {d : Nat} {Q : xO → xH → Prop} {sh : List xS} {I : Nat → Nat → Int32} {J : Nat → Nat → Int64} {r0 : Nat} {v1 : Int32} {v2 : Int32} {o3 : Option Value}
    (ko : xOb sh r0 10)
    (k : xg d qM_say [.ref r0, .int (0 : Int32), .int (0 : Int32)] (sh, I, J) (xU (fun h1 => xG d zm_M_sayZeros (84, [some (.ref r0), some (.int v1), some (.int v2), o3], []) h1 Q) (fun x h1 => Q (.inr x) h1))) :
    xG d zm_M_sayZeros (78, [some (.ref r0), some (.int v1), some (.int v2), o3], []) (sh, I, J) Q := by
  exact xG_N 3 (ps := []) (f1 := (81, [some (.ref r0), some (.int v1), some (.int v2), o3], [.int (0 : Int32), .int (0 : Int32), .ref r0])) (h1 := (sh, I, J)) rfl trivial (xG_Cu rfl rfl (Nat.le_of_ble_eq_true rfl) (Nat.le_of_ble_eq_true rfl) ⟨_, _, rfl, ko⟩ rfl k)
set_option maxRecDepth 100000 in
theorem s_M_sayZeros_84 {d : Nat} {Q : xO → xH → Prop} {sh : List xS} {I : Nat → Nat → Int32} {J : Nat → Nat → Int64} {r0 : Nat} {v1 : Int32} {v2 : Int32} {o3 : Option Value}
    (k : xG d zm_M_sayZeros (74, [some (.ref r0), some (.int v1), some (.int (v2 + (-1 : Int32))), o3], []) (sh, I, J) Q) :
    xG d zm_M_sayZeros (84, [some (.ref r0), some (.int v1), some (.int v2), o3], []) (sh, I, J) Q := by
  exact xG_N 2 (ps := []) (f1 := (74, [some (.ref r0), some (.int v1), some (.int (v2 + (-1 : Int32))), o3], [])) (h1 := (sh, I, J)) rfl trivial (k)
set_option maxRecDepth 100000 in
theorem s_M_sayZeros_90 {d : Nat} {Q : xO → xH → Prop} {sh : List xS} {I : Nat → Nat → Int32} {J : Nat → Nat → Int64} {r0 : Nat} {v1 : Int32} {v2 : Int32} {o3 : Option Value}
    (k : Q (.inl (none)) (sh, I, J)) :
    xG d zm_M_sayZeros (90, [some (.ref r0), some (.int v1), some (.int v2), o3], []) (sh, I, J) Q := by
  exact xG_Q rfl rfl trivial k
set_option maxRecDepth 100000 in
theorem s_M_putLengths_0 {d : Nat} {Q : xO → xH → Prop} {sh : List xS} {I : Nat → Nat → Int32} {J : Nat → Nat → Int64} {r0 : Nat} {v1 : Int32} {a1 : Nat} {n2 : Nat}
    (e0 : xRr sh r0 10 12 a1)
    (e1 : xAr sh a1 .int n2)
    (e2 : 4 ≤ a1)
    (e3 : vp_in (5 : Int32) n2)
    (k : xG d zm_M_putLengths (12, [some (.ref r0), some (.int v1), some (.int (1104 : Int32)), none], []) (sh, xup I a1 5 (19 : Int32), J) Q) :
    xG d zm_M_putLengths (0, [some (.ref r0), some (.int v1), none, none], []) (sh, I, J) Q := by
  obtain rfl := e0.eq
  obtain rfl := e1.eq
  exact xG_N 7 (ps := [xRf sh r0 10 12, xW sh (xrf sh r0 12) .int, vp_in (5 : Int32) (xlen sh (xrf sh r0 12))]) (f1 := (12, [some (.ref r0), some (.int v1), some (.int (1104 : Int32)), none], [])) (h1 := (sh, xup I (xrf sh r0 12) 5 (19 : Int32), J)) rfl ⟨e0.rf, ⟨e1.ar, e2⟩, e3⟩ (k)
set_option maxRecDepth 100000 in
theorem s_M_putLengths_12 {d : Nat} {Q : xO → xH → Prop} {sh : List xS} {I : Nat → Nat → Int32} {J : Nat → Nat → Int64} {r0 : Nat} {v1 : Int32} {v2 : Int32}
    (k1 : (1123 : Int32) ≤ v2 → xG d zm_M_putLengths (32, [some (.ref r0), some (.int v1), some (.int v2), none], []) (sh, I, J) Q)
    (k2 : ¬ ((1123 : Int32) ≤ v2) → xG d zm_M_putLengths (19, [some (.ref r0), some (.int v1), some (.int v2), none], []) (sh, I, J) Q) :
    xG d zm_M_putLengths (12, [some (.ref r0), some (.int v1), some (.int v2), none], []) (sh, I, J) Q := by
  exact xG_N 2 (ps := []) (f1 := (16, [some (.ref r0), some (.int v1), some (.int v2), none], [.int (1123 : Int32), .int v2])) (h1 := (sh, I, J)) rfl trivial (xG_B rfl rfl k1 k2)
set_option maxRecDepth 100000 in
theorem s_M_putLengths_19 {d : Nat} {Q : xO → xH → Prop} {sh : List xS} {I : Nat → Nat → Int32} {J : Nat → Nat → Int64} {r0 : Nat} {v1 : Int32} {v2 : Int32} {a1 : Nat} {n2 : Nat}
    (e0 : xRr sh r0 10 11 a1)
    (e1 : xAr sh a1 .boolean n2)
    (e2 : 4 ≤ a1)
    (e3 : vp_in v2 n2)
    (k : xG d zm_M_putLengths (12, [some (.ref r0), some (.int v1), some (.int (v2 + (1 : Int32))), none], []) (sh, xup I a1 v2.toNatClampNeg (0 : Int32), J) Q) :
    xG d zm_M_putLengths (19, [some (.ref r0), some (.int v1), some (.int v2), none], []) (sh, I, J) Q := by
  obtain rfl := e0.eq
  obtain rfl := e1.eq
  exact xG_N 7 (ps := [xRf sh r0 10 11, xW sh (xrf sh r0 11) .boolean, vp_in v2 (xlen sh (xrf sh r0 11)), ((0 : Int32) : Int32) = 0 ∨ ((0 : Int32) : Int32) = 1]) (f1 := (12, [some (.ref r0), some (.int v1), some (.int (v2 + (1 : Int32))), none], [])) (h1 := (sh, xup I (xrf sh r0 11) v2.toNatClampNeg (0 : Int32), J)) rfl ⟨e0.rf, ⟨e1.ar, e2⟩, e3, (show ((0 : Int32) : Int32) = 0 ∨ ((0 : Int32) : Int32) = 1 by decide)⟩ (k)
set_option maxRecDepth 100000 in
theorem s_M_putLengths_32 {d : Nat} {Q : xO → xH → Prop} {sh : List xS} {I : Nat → Nat → Int32} {J : Nat → Nat → Int64} {r0 : Nat} {v1 : Int32} {v2 : Int32}
    (e0 : xOb sh r0 10)
    (k : xg d qM_base [.int v1] (sh, xup I r0 33 (0 : Int32), J) (xI (fun v h1 => xG d zm_M_putLengths (43, [some (.ref r0), some (.int v1), some (.int (0 : Int32)), none], [.int v]) h1 Q) (fun x h1 => Q (.inr x) h1))) :
    xG d zm_M_putLengths (32, [some (.ref r0), some (.int v1), some (.int v2), none], []) (sh, I, J) Q := by
  exact xG_N 6 (ps := [xOb sh r0 10]) (f1 := (40, [some (.ref r0), some (.int v1), some (.int (0 : Int32)), none], [.int v1])) (h1 := (sh, xup I r0 33 (0 : Int32), J)) rfl e0 (xG_Ci rfl rfl (Nat.le_of_ble_eq_true rfl) (Nat.le_of_ble_eq_true rfl) trivial rfl k)
set_option maxRecDepth 100000 in
theorem s_M_putLengths_43 {d : Nat} {Q : xO → xH → Prop} {sh : List xS} {I : Nat → Nat → Int32} {J : Nat → Nat → Int64} {r0 : Nat} {v1 : Int32} {v2 : Int32} {t0 : Int32}
    (k : xG d zm_M_putLengths (44, [some (.ref r0), some (.int v1), some (.int v2), some (.int t0)], []) (sh, I, J) Q) :
    xG d zm_M_putLengths (43, [some (.ref r0), some (.int v1), some (.int v2), none], [.int t0]) (sh, I, J) Q := by
  exact xG_N 1 (ps := []) (f1 := (44, [some (.ref r0), some (.int v1), some (.int v2), some (.int t0)], [])) (h1 := (sh, I, J)) rfl trivial (k)
set_option maxRecDepth 100000 in
theorem s_M_putLengths_44 {d : Nat} {Q : xO → xH → Prop} {sh : List xS} {I : Nat → Nat → Int32} {J : Nat → Nat → Int64} {r0 : Nat} {v1 : Int32} {v2 : Int32} {v3 : Int32}
    (k : xg d qM_base [.int v1] (sh, I, J) (xI (fun v h1 => xG d zm_M_putLengths (49, [some (.ref r0), some (.int v1), some (.int v2), some (.int v3)], [.int v, .int v3]) h1 Q) (fun x h1 => Q (.inr x) h1))) :
    xG d zm_M_putLengths (44, [some (.ref r0), some (.int v1), some (.int v2), some (.int v3)], []) (sh, I, J) Q := by
  exact xG_N 2 (ps := []) (f1 := (46, [some (.ref r0), some (.int v1), some (.int v2), some (.int v3)], [.int v1, .int v3])) (h1 := (sh, I, J)) rfl trivial (xG_Ci rfl rfl (Nat.le_of_ble_eq_true rfl) (Nat.le_of_ble_eq_true rfl) trivial rfl k)
set_option maxRecDepth 100000 in
theorem s_M_putLengths_49 {d : Nat} {Q : xO → xH → Prop} {sh : List xS} {I : Nat → Nat → Int32} {J : Nat → Nat → Int64} {r0 : Nat} {v1 : Int32} {v2 : Int32} {v3 : Int32} {t0 : Int32} {t1 : Int32} {a1 : Nat} {n2 : Nat}
    (e0 : xRr sh r0 10 12 a1)
    (e1 : xAr sh a1 .int n2)
    (e2 : vp_in v1 n2)
    (k1 : (t1 + (I a1 v1.toNatClampNeg)) ≤ t0 → xG d zm_M_putLengths (98, [some (.ref r0), some (.int v1), some (.int v2), some (.int v3)], []) (sh, I, J) Q)
    (k2 : ¬ ((t1 + (I a1 v1.toNatClampNeg)) ≤ t0) → xG d zm_M_putLengths (59, [some (.ref r0), some (.int v1), some (.int v2), some (.int v3)], []) (sh, I, J) Q) :
    xG d zm_M_putLengths (49, [some (.ref r0), some (.int v1), some (.int v2), some (.int v3)], [.int t1, .int t0]) (sh, I, J) Q := by
  obtain rfl := e0.eq
  obtain rfl := e1.eq
  exact xG_N 5 (ps := [xRf sh r0 10 12, xA sh (xrf sh r0 12) .int, vp_in v1 (xlen sh (xrf sh r0 12))]) (f1 := (56, [some (.ref r0), some (.int v1), some (.int v2), some (.int v3)], [.int (t1 + (I (xrf sh r0 12) v1.toNatClampNeg)), .int t0])) (h1 := (sh, I, J)) rfl ⟨e0.rf, e1.ar, e2⟩ (xG_B rfl rfl k1 k2)
set_option maxRecDepth 100000 in
theorem s_M_putLengths_59 {d : Nat} {Q : xO → xH → Prop} {sh : List xS} {I : Nat → Nat → Int32} {J : Nat → Nat → Int64} {r0 : Nat} {v1 : Int32} {v2 : Int32} {v3 : Int32} {a1 : Nat} {n2 : Nat}
    (e0 : xRr sh r0 10 10 a1)
    (e1 : xAr sh a1 .int n2)
    (e2 : vp_in v3 n2)
    (k1 : ¬ (I a1 v3.toNatClampNeg) = 0 → xG d zm_M_putLengths (74, [some (.ref r0), some (.int v1), some (.int v2), some (.int v3)], []) (sh, I, J) Q)
    (k2 : ¬ (¬ (I a1 v3.toNatClampNeg) = 0) → xG d zm_M_putLengths (68, [some (.ref r0), some (.int v1), some (.int v2), some (.int v3)], []) (sh, I, J) Q) :
    xG d zm_M_putLengths (59, [some (.ref r0), some (.int v1), some (.int v2), some (.int v3)], []) (sh, I, J) Q := by
  obtain rfl := e0.eq
  obtain rfl := e1.eq
  exact xG_N 4 (ps := [xRf sh r0 10 10, xA sh (xrf sh r0 10) .int, vp_in v3 (xlen sh (xrf sh r0 10))]) (f1 := (65, [some (.ref r0), some (.int v1), some (.int v2), some (.int v3)], [.int (I (xrf sh r0 10) v3.toNatClampNeg)])) (h1 := (sh, I, J)) rfl ⟨e0.rf, e1.ar, e2⟩ (xG_B rfl rfl k1 k2)
set_option maxRecDepth 100000 in
theorem s_M_putLengths_68 {d : Nat} {Q : xO → xH → Prop} {sh : List xS} {I : Nat → Nat → Int32} {J : Nat → Nat → Int64} {r0 : Nat} {v1 : Int32} {v2 : Int32} {v3 : Int32}
    (k : xG d zm_M_putLengths (44, [some (.ref r0), some (.int v1), some (.int (v2 + (1 : Int32))), some (.int (v3 + (1 : Int32)))], []) (sh, I, J) Q) :
    xG d zm_M_putLengths (68, [some (.ref r0), some (.int v1), some (.int v2), some (.int v3)], []) (sh, I, J) Q := by
  exact xG_N 4 (ps := []) (f1 := (44, [some (.ref r0), some (.int v1), some (.int (v2 + (1 : Int32))), some (.int (v3 + (1 : Int32)))], [])) (h1 := (sh, I, J)) rfl trivial (k)
set_option maxRecDepth 100000 in
theorem s_M_putLengths_74 {d : Nat} {Q : xO → xH → Prop} {sh : List xS} {I : Nat → Nat → Int32} {J : Nat → Nat → Int64} {r0 : Nat} {v1 : Int32} {v2 : Int32} {v3 : Int32}
    (ko : xOb sh r0 10)
    (k : xg d qM_sayZeros [.ref r0, .int v2] (sh, I, J) (xU (fun h1 => xG d zm_M_putLengths (79, [some (.ref r0), some (.int v1), some (.int v2), some (.int v3)], []) h1 Q) (fun x h1 => Q (.inr x) h1))) :
    xG d zm_M_putLengths (74, [some (.ref r0), some (.int v1), some (.int v2), some (.int v3)], []) (sh, I, J) Q := by
  exact xG_N 2 (ps := []) (f1 := (76, [some (.ref r0), some (.int v1), some (.int v2), some (.int v3)], [.int v2, .ref r0])) (h1 := (sh, I, J)) rfl trivial (xG_Cu rfl rfl (Nat.le_of_ble_eq_true rfl) (Nat.le_of_ble_eq_true rfl) ⟨_, _, rfl, ko⟩ rfl k)
set_option maxRecDepth 100000 in
theorem s_M_putLengths_79 {d : Nat} {Q : xO → xH → Prop} {sh : List xS} {I : Nat → Nat → Int32} {J : Nat → Nat → Int64} {r0 : Nat} {v1 : Int32} {v2 : Int32} {v3 : Int32} {a1 : Nat} {n2 : Nat}
    (e0 : xRr sh r0 10 10 a1)
    (e1 : xAr sh a1 .int n2)
    (e2 : vp_in v3 n2)
    (k : xg d qM_say [.ref r0, .int (I a1 v3.toNatClampNeg), .int (0 : Int32)] (sh, I, J) (xU (fun h1 => xG d zm_M_putLengths (92, [some (.ref r0), some (.int v1), some (.int (0 : Int32)), some (.int v3)], []) h1 Q) (fun x h1 => Q (.inr x) h1))) :
    xG d zm_M_putLengths (79, [some (.ref r0), some (.int v1), some (.int v2), some (.int v3)], []) (sh, I, J) Q := by
  obtain rfl := e0.eq
  obtain rfl := e1.eq
  exact xG_N 8 (ps := [xRf sh r0 10 10, xA sh (xrf sh r0 10) .int, vp_in v3 (xlen sh (xrf sh r0 10))]) (f1 := (89, [some (.ref r0), some (.int v1), some (.int (0 : Int32)), some (.int v3)], [.int (0 : Int32), .int (I (xrf sh r0 10) v3.toNatClampNeg), .ref r0])) (h1 := (sh, I, J)) rfl ⟨e0.rf, e1.ar, e2⟩ (xG_Cu rfl rfl (Nat.le_of_ble_eq_true rfl) (Nat.le_of_ble_eq_true rfl) ⟨_, _, rfl, e0.ob⟩ rfl k)
set_option maxRecDepth 100000 in
theorem s_M_putLengths_92 {d : Nat} {Q : xO → xH → Prop} {sh : List xS} {I : Nat → Nat → Int32} {J : Nat → Nat → Int64} {r0 : Nat} {v1 : Int32} {v2 : Int32} {v3 : Int32}
    (k : xG d zm_M_putLengths (44, [some (.ref r0), some (.int v1), some (.int v2), some (.int (v3 + (1 : Int32)))], []) (sh, I, J) Q) :
    xG d zm_M_putLengths (92, [some (.ref r0), some (.int v1), some (.int v2), some (.int v3)], []) (sh, I, J) Q := by
  exact xG_N 2 (ps := []) (f1 := (44, [some (.ref r0), some (.int v1), some (.int v2), some (.int (v3 + (1 : Int32)))], [])) (h1 := (sh, I, J)) rfl trivial (k)
set_option maxRecDepth 100000 in
theorem s_M_putLengths_98 {d : Nat} {Q : xO → xH → Prop} {sh : List xS} {I : Nat → Nat → Int32} {J : Nat → Nat → Int64} {r0 : Nat} {v1 : Int32} {v2 : Int32} {v3 : Int32}
    (ko : xOb sh r0 10)
    (k : xg d qM_sayZeros [.ref r0, .int v2] (sh, I, J) (xU (fun h1 => xG d zm_M_putLengths (103, [some (.ref r0), some (.int v1), some (.int v2), some (.int v3)], []) h1 Q) (fun x h1 => Q (.inr x) h1))) :
    xG d zm_M_putLengths (98, [some (.ref r0), some (.int v1), some (.int v2), some (.int v3)], []) (sh, I, J) Q := by
  exact xG_N 2 (ps := []) (f1 := (100, [some (.ref r0), some (.int v1), some (.int v2), some (.int v3)], [.int v2, .ref r0])) (h1 := (sh, I, J)) rfl trivial (xG_Cu rfl rfl (Nat.le_of_ble_eq_true rfl) (Nat.le_of_ble_eq_true rfl) ⟨_, _, rfl, ko⟩ rfl k)
set_option maxRecDepth 100000 in
theorem s_M_putLengths_103 {d : Nat} {Q : xO → xH → Prop} {sh : List xS} {I : Nat → Nat → Int32} {J : Nat → Nat → Int64} {r0 : Nat} {v1 : Int32} {v2 : Int32} {v3 : Int32}
    (ko : xOb sh r0 10)
    (k : xg d qM_giveLengths [.ref r0, .int (5 : Int32)] (sh, I, J) (xU (fun h1 => xG d zm_M_putLengths (108, [some (.ref r0), some (.int v1), some (.int v2), some (.int v3)], []) h1 Q) (fun x h1 => Q (.inr x) h1))) :
    xG d zm_M_putLengths (103, [some (.ref r0), some (.int v1), some (.int v2), some (.int v3)], []) (sh, I, J) Q := by
  exact xG_N 2 (ps := []) (f1 := (105, [some (.ref r0), some (.int v1), some (.int v2), some (.int v3)], [.int (5 : Int32), .ref r0])) (h1 := (sh, I, J)) rfl trivial (xG_Cu rfl rfl (Nat.le_of_ble_eq_true rfl) (Nat.le_of_ble_eq_true rfl) ⟨_, _, rfl, ko⟩ rfl k)
set_option maxRecDepth 100000 in
theorem s_M_putLengths_108 {d : Nat} {Q : xO → xH → Prop} {sh : List xS} {I : Nat → Nat → Int32} {J : Nat → Nat → Int64} {r0 : Nat} {v1 : Int32} {v2 : Int32} {v3 : Int32}
    (ko : xOb sh r0 10)
    (k : xg d qM_put [.ref r0, .int (15 : Int32), .int (4 : Int32)] (sh, I, J) (xU (fun h1 => xG d zm_M_putLengths (115, [some (.ref r0), some (.int v1), some (.int v2), some (.int v3)], []) h1 Q) (fun x h1 => Q (.inr x) h1))) :
    xG d zm_M_putLengths (108, [some (.ref r0), some (.int v1), some (.int v2), some (.int v3)], []) (sh, I, J) Q := by
  exact xG_N 3 (ps := []) (f1 := (112, [some (.ref r0), some (.int v1), some (.int v2), some (.int v3)], [.int (4 : Int32), .int (15 : Int32), .ref r0])) (h1 := (sh, I, J)) rfl trivial (xG_Cu rfl rfl (Nat.le_of_ble_eq_true rfl) (Nat.le_of_ble_eq_true rfl) ⟨_, _, rfl, ko⟩ rfl k)
set_option maxRecDepth 100000 in
theorem s_M_putLengths_115 {d : Nat} {Q : xO → xH → Prop} {sh : List xS} {I : Nat → Nat → Int32} {J : Nat → Nat → Int64} {r0 : Nat} {v1 : Int32} {v2 : Int32} {v3 : Int32}
    (k : xG d zm_M_putLengths (117, [some (.ref r0), some (.int v1), some (.int v2), some (.int (0 : Int32))], []) (sh, I, J) Q) :
    xG d zm_M_putLengths (115, [some (.ref r0), some (.int v1), some (.int v2), some (.int v3)], []) (sh, I, J) Q := by
  exact xG_N 2 (ps := []) (f1 := (117, [some (.ref r0), some (.int v1), some (.int v2), some (.int (0 : Int32))], [])) (h1 := (sh, I, J)) rfl trivial (k)
set_option maxRecDepth 100000 in
theorem s_M_putLengths_117 {d : Nat} {Q : xO → xH → Prop} {sh : List xS} {I : Nat → Nat → Int32} {J : Nat → Nat → Int64} {r0 : Nat} {v1 : Int32} {v2 : Int32} {v3 : Int32}
    (k1 : (19 : Int32) ≤ v3 → xG d zm_M_putLengths (149, [some (.ref r0), some (.int v1), some (.int v2), some (.int v3)], []) (sh, I, J) Q)
    (k2 : ¬ ((19 : Int32) ≤ v3) → xG d zm_M_putLengths (123, [some (.ref r0), some (.int v1), some (.int v2), some (.int v3)], []) (sh, I, J) Q) :
    xG d zm_M_putLengths (117, [some (.ref r0), some (.int v1), some (.int v2), some (.int v3)], []) (sh, I, J) Q := by
  exact xG_N 2 (ps := []) (f1 := (120, [some (.ref r0), some (.int v1), some (.int v2), some (.int v3)], [.int (19 : Int32), .int v3])) (h1 := (sh, I, J)) rfl trivial (xG_B rfl rfl k1 k2)
set_option maxRecDepth 100000 in
theorem s_M_putLengths_123 {d : Nat} {Q : xO → xH → Prop} {sh : List xS} {I : Nat → Nat → Int32} {J : Nat → Nat → Int64} {r0 : Nat} {v1 : Int32} {v2 : Int32} {v3 : Int32} {a1 : Nat} {a2 : Nat} {n3 : Nat} {n4 : Nat}
    (e0 : xRr sh r0 10 10 a1)
    (e1 : xRr sh r0 10 36 a2)
    (e2 : xAr sh a2 .int n3)
    (e3 : vp_in v3 n3)
    (e4 : xAr sh a1 .int n4)
    (e5 : vp_in ((1104 : Int32) + (I a2 v3.toNatClampNeg)) n4)
    (k : xg d qM_put [.ref r0, .int (I a1 ((1104 : Int32) + (I a2 v3.toNatClampNeg)).toNatClampNeg), .int (3 : Int32)] (sh, I, J) (xU (fun h1 => xG d zm_M_putLengths (143, [some (.ref r0), some (.int v1), some (.int v2), some (.int v3)], []) h1 Q) (fun x h1 => Q (.inr x) h1))) :
    xG d zm_M_putLengths (123, [some (.ref r0), some (.int v1), some (.int v2), some (.int v3)], []) (sh, I, J) Q := by
  obtain rfl := e0.eq
  obtain rfl := e1.eq
  obtain rfl := e2.eq
  obtain rfl := e4.eq
  exact xG_N 11 (ps := [xRf sh r0 10 10, xRf sh r0 10 36, xA sh (xrf sh r0 36) .int, vp_in v3 (xlen sh (xrf sh r0 36)), xA sh (xrf sh r0 10) .int, vp_in ((1104 : Int32) + (I (xrf sh r0 36) v3.toNatClampNeg)) (xlen sh (xrf sh r0 10))]) (f1 := (140, [some (.ref r0), some (.int v1), some (.int v2), some (.int v3)], [.int (3 : Int32), .int (I (xrf sh r0 10) ((1104 : Int32) + (I (xrf sh r0 36) v3.toNatClampNeg)).toNatClampNeg), .ref r0])) (h1 := (sh, I, J)) rfl ⟨e0.rf, e1.rf, e2.ar, e3, e4.ar, e5⟩ (xG_Cu rfl rfl (Nat.le_of_ble_eq_true rfl) (Nat.le_of_ble_eq_true rfl) ⟨_, _, rfl, e1.ob⟩ rfl k)
set_option maxRecDepth 100000 in
theorem s_M_putLengths_143 {d : Nat} {Q : xO → xH → Prop} {sh : List xS} {I : Nat → Nat → Int32} {J : Nat → Nat → Int64} {r0 : Nat} {v1 : Int32} {v2 : Int32} {v3 : Int32}
    (k : xG d zm_M_putLengths (117, [some (.ref r0), some (.int v1), some (.int v2), some (.int (v3 + (1 : Int32)))], []) (sh, I, J) Q) :
    xG d zm_M_putLengths (143, [some (.ref r0), some (.int v1), some (.int v2), some (.int v3)], []) (sh, I, J) Q := by
  exact xG_N 2 (ps := []) (f1 := (117, [some (.ref r0), some (.int v1), some (.int v2), some (.int (v3 + (1 : Int32)))], [])) (h1 := (sh, I, J)) rfl trivial (k)
set_option maxRecDepth 100000 in
theorem s_M_putLengths_149 {d : Nat} {Q : xO → xH → Prop} {sh : List xS} {I : Nat → Nat → Int32} {J : Nat → Nat → Int64} {r0 : Nat} {v1 : Int32} {v2 : Int32} {v3 : Int32}
    (k : xG d zm_M_putLengths (151, [some (.ref r0), some (.int v1), some (.int v2), some (.int (0 : Int32))], []) (sh, I, J) Q) :
    xG d zm_M_putLengths (149, [some (.ref r0), some (.int v1), some (.int v2), some (.int v3)], []) (sh, I, J) Q := by
  exact xG_N 2 (ps := []) (f1 := (151, [some (.ref r0), some (.int v1), some (.int v2), some (.int (0 : Int32))], [])) (h1 := (sh, I, J)) rfl trivial (k)
set_option maxRecDepth 100000 in
theorem s_M_putLengths_151 {d : Nat} {Q : xO → xH → Prop} {sh : List xS} {I : Nat → Nat → Int32} {J : Nat → Nat → Int64} {r0 : Nat} {v1 : Int32} {v2 : Int32} {v3 : Int32}
    (e0 : xOb sh r0 10)
    (k1 : (I r0 33) ≤ v3 → xG d zm_M_putLengths (218, [some (.ref r0), some (.int v1), some (.int v2), some (.int v3)], []) (sh, I, J) Q)
    (k2 : ¬ ((I r0 33) ≤ v3) → xG d zm_M_putLengths (159, [some (.ref r0), some (.int v1), some (.int v2), some (.int v3)], []) (sh, I, J) Q) :
    xG d zm_M_putLengths (151, [some (.ref r0), some (.int v1), some (.int v2), some (.int v3)], []) (sh, I, J) Q := by
  exact xG_N 3 (ps := [xOb sh r0 10]) (f1 := (156, [some (.ref r0), some (.int v1), some (.int v2), some (.int v3)], [.int (I r0 33), .int v3])) (h1 := (sh, I, J)) rfl e0 (xG_B rfl rfl k1 k2)
set_option maxRecDepth 100000 in
theorem s_M_putLengths_159 {d : Nat} {Q : xO → xH → Prop} {sh : List xS} {I : Nat → Nat → Int32} {J : Nat → Nat → Int64} {r0 : Nat} {v1 : Int32} {v2 : Int32} {v3 : Int32} {a1 : Nat} {n2 : Nat}
    (e0 : xRr sh r0 10 31 a1)
    (e1 : xAr sh a1 .int n2)
    (e2 : vp_in v3 n2)
    (k : xg d qM_putSymbol [.ref r0, .int (5 : Int32), .int (I a1 v3.toNatClampNeg)] (sh, I, J) (xU (fun h1 => xG d zm_M_putLengths (170, [some (.ref r0), some (.int v1), some (.int v2), some (.int v3)], []) h1 Q) (fun x h1 => Q (.inr x) h1))) :
    xG d zm_M_putLengths (159, [some (.ref r0), some (.int v1), some (.int v2), some (.int v3)], []) (sh, I, J) Q := by
  obtain rfl := e0.eq
  obtain rfl := e1.eq
  exact xG_N 6 (ps := [xRf sh r0 10 31, xA sh (xrf sh r0 31) .int, vp_in v3 (xlen sh (xrf sh r0 31))]) (f1 := (167, [some (.ref r0), some (.int v1), some (.int v2), some (.int v3)], [.int (I (xrf sh r0 31) v3.toNatClampNeg), .int (5 : Int32), .ref r0])) (h1 := (sh, I, J)) rfl ⟨e0.rf, e1.ar, e2⟩ (xG_Cu rfl rfl (Nat.le_of_ble_eq_true rfl) (Nat.le_of_ble_eq_true rfl) ⟨_, _, rfl, e0.ob⟩ rfl k)
set_option maxRecDepth 100000 in
theorem s_M_putLengths_170 {d : Nat} {Q : xO → xH → Prop} {sh : List xS} {I : Nat → Nat → Int32} {J : Nat → Nat → Int64} {r0 : Nat} {v1 : Int32} {v2 : Int32} {v3 : Int32} {a1 : Nat} {n2 : Nat} {a3 : Nat} {n4 : Nat}
    (e0 : xRr sh r0 10 32 a1)
    (e1 : xAr sh a1 .int n2)
    (e2 : vp_in v3 n2)
    (e3 : xRr sh r0 10 31 a3)
    (e4 : xAr sh a3 .int n4)
    (e5 : vp_in v3 n4)
    (k1 : ¬ (I a3 v3.toNatClampNeg) = (17 : Int32) → xG d zm_M_putLengths (192, [some (.ref r0), some (.int v1), some (.int v2), some (.int v3)], [.int (I a1 v3.toNatClampNeg), .ref r0]) (sh, I, J) Q)
    (k2 : ¬ (¬ (I a3 v3.toNatClampNeg) = (17 : Int32)) → xG d zm_M_putLengths (188, [some (.ref r0), some (.int v1), some (.int v2), some (.int v3)], [.int (I a1 v3.toNatClampNeg), .ref r0]) (sh, I, J) Q) :
    xG d zm_M_putLengths (170, [some (.ref r0), some (.int v1), some (.int v2), some (.int v3)], []) (sh, I, J) Q := by
  obtain rfl := e0.eq
  obtain rfl := e1.eq
  obtain rfl := e3.eq
  obtain rfl := e4.eq
  exact xG_N 10 (ps := [xRf sh r0 10 32, xA sh (xrf sh r0 32) .int, vp_in v3 (xlen sh (xrf sh r0 32)), xRf sh r0 10 31, xA sh (xrf sh r0 31) .int, vp_in v3 (xlen sh (xrf sh r0 31))]) (f1 := (185, [some (.ref r0), some (.int v1), some (.int v2), some (.int v3)], [.int (17 : Int32), .int (I (xrf sh r0 31) v3.toNatClampNeg), .int (I (xrf sh r0 32) v3.toNatClampNeg), .ref r0])) (h1 := (sh, I, J)) rfl ⟨e0.rf, e1.ar, e2, e3.rf, e4.ar, e5⟩ (xG_B rfl rfl k1 k2)
set_option maxRecDepth 100000 in
theorem s_M_putLengths_188 {d : Nat} {Q : xO → xH → Prop} {sh : List xS} {I : Nat → Nat → Int32} {J : Nat → Nat → Int64} {r0 : Nat} {v1 : Int32} {v2 : Int32} {v3 : Int32} {t0 : Nat} {t1 : Int32}
    (ko : xOb sh t0 10)
    (k : xg d qM_put [.ref t0, .int t1, .int (3 : Int32)] (sh, I, J) (xU (fun h1 => xG d zm_M_putLengths (212, [some (.ref r0), some (.int v1), some (.int v2), some (.int v3)], []) h1 Q) (fun x h1 => Q (.inr x) h1))) :
    xG d zm_M_putLengths (188, [some (.ref r0), some (.int v1), some (.int v2), some (.int v3)], [.int t1, .ref t0]) (sh, I, J) Q := by
  exact xG_N 2 (ps := []) (f1 := (209, [some (.ref r0), some (.int v1), some (.int v2), some (.int v3)], [.int (3 : Int32), .int t1, .ref t0])) (h1 := (sh, I, J)) rfl trivial (xG_Cu rfl rfl (Nat.le_of_ble_eq_true rfl) (Nat.le_of_ble_eq_true rfl) ⟨_, _, rfl, ko⟩ rfl k)
set_option maxRecDepth 100000 in
theorem s_M_putLengths_192 {d : Nat} {Q : xO → xH → Prop} {sh : List xS} {I : Nat → Nat → Int32} {J : Nat → Nat → Int64} {r0 : Nat} {v1 : Int32} {v2 : Int32} {v3 : Int32} {t0 : Nat} {t1 : Int32} {a1 : Nat} {n2 : Nat}
    (e0 : xRr sh r0 10 31 a1)
    (e1 : xAr sh a1 .int n2)
    (e2 : vp_in v3 n2)
    (k1 : ¬ (I a1 v3.toNatClampNeg) = (18 : Int32) → xG d zm_M_putLengths (208, [some (.ref r0), some (.int v1), some (.int v2), some (.int v3)], [.int t1, .ref t0]) (sh, I, J) Q)
    (k2 : ¬ (¬ (I a1 v3.toNatClampNeg) = (18 : Int32)) → xG d zm_M_putLengths (203, [some (.ref r0), some (.int v1), some (.int v2), some (.int v3)], [.int t1, .ref t0]) (sh, I, J) Q) :
    xG d zm_M_putLengths (192, [some (.ref r0), some (.int v1), some (.int v2), some (.int v3)], [.int t1, .ref t0]) (sh, I, J) Q := by
  obtain rfl := e0.eq
  obtain rfl := e1.eq
  exact xG_N 5 (ps := [xRf sh r0 10 31, xA sh (xrf sh r0 31) .int, vp_in v3 (xlen sh (xrf sh r0 31))]) (f1 := (200, [some (.ref r0), some (.int v1), some (.int v2), some (.int v3)], [.int (18 : Int32), .int (I (xrf sh r0 31) v3.toNatClampNeg), .int t1, .ref t0])) (h1 := (sh, I, J)) rfl ⟨e0.rf, e1.ar, e2⟩ (xG_B rfl rfl k1 k2)
set_option maxRecDepth 100000 in
theorem s_M_putLengths_203 {d : Nat} {Q : xO → xH → Prop} {sh : List xS} {I : Nat → Nat → Int32} {J : Nat → Nat → Int64} {r0 : Nat} {v1 : Int32} {v2 : Int32} {v3 : Int32} {t0 : Nat} {t1 : Int32}
    (ko : xOb sh t0 10)
    (k : xg d qM_put [.ref t0, .int t1, .int (7 : Int32)] (sh, I, J) (xU (fun h1 => xG d zm_M_putLengths (212, [some (.ref r0), some (.int v1), some (.int v2), some (.int v3)], []) h1 Q) (fun x h1 => Q (.inr x) h1))) :
    xG d zm_M_putLengths (203, [some (.ref r0), some (.int v1), some (.int v2), some (.int v3)], [.int t1, .ref t0]) (sh, I, J) Q := by
  exact xG_N 2 (ps := []) (f1 := (209, [some (.ref r0), some (.int v1), some (.int v2), some (.int v3)], [.int (7 : Int32), .int t1, .ref t0])) (h1 := (sh, I, J)) rfl trivial (xG_Cu rfl rfl (Nat.le_of_ble_eq_true rfl) (Nat.le_of_ble_eq_true rfl) ⟨_, _, rfl, ko⟩ rfl k)
set_option maxRecDepth 100000 in
theorem s_M_putLengths_208 {d : Nat} {Q : xO → xH → Prop} {sh : List xS} {I : Nat → Nat → Int32} {J : Nat → Nat → Int64} {r0 : Nat} {v1 : Int32} {v2 : Int32} {v3 : Int32} {t0 : Nat} {t1 : Int32}
    (ko : xOb sh t0 10)
    (k : xg d qM_put [.ref t0, .int t1, .int (0 : Int32)] (sh, I, J) (xU (fun h1 => xG d zm_M_putLengths (212, [some (.ref r0), some (.int v1), some (.int v2), some (.int v3)], []) h1 Q) (fun x h1 => Q (.inr x) h1))) :
    xG d zm_M_putLengths (208, [some (.ref r0), some (.int v1), some (.int v2), some (.int v3)], [.int t1, .ref t0]) (sh, I, J) Q := by
  exact xG_N 1 (ps := []) (f1 := (209, [some (.ref r0), some (.int v1), some (.int v2), some (.int v3)], [.int (0 : Int32), .int t1, .ref t0])) (h1 := (sh, I, J)) rfl trivial (xG_Cu rfl rfl (Nat.le_of_ble_eq_true rfl) (Nat.le_of_ble_eq_true rfl) ⟨_, _, rfl, ko⟩ rfl k)
set_option maxRecDepth 100000 in
theorem s_M_putLengths_212 {d : Nat} {Q : xO → xH → Prop} {sh : List xS} {I : Nat → Nat → Int32} {J : Nat → Nat → Int64} {r0 : Nat} {v1 : Int32} {v2 : Int32} {v3 : Int32}
    (k : xG d zm_M_putLengths (151, [some (.ref r0), some (.int v1), some (.int v2), some (.int (v3 + (1 : Int32)))], []) (sh, I, J) Q) :
    xG d zm_M_putLengths (212, [some (.ref r0), some (.int v1), some (.int v2), some (.int v3)], []) (sh, I, J) Q := by
  exact xG_N 2 (ps := []) (f1 := (151, [some (.ref r0), some (.int v1), some (.int v2), some (.int (v3 + (1 : Int32)))], [])) (h1 := (sh, I, J)) rfl trivial (k)
set_option maxRecDepth 100000 in
theorem s_M_putLengths_218 {d : Nat} {Q : xO → xH → Prop} {sh : List xS} {I : Nat → Nat → Int32} {J : Nat → Nat → Int64} {r0 : Nat} {v1 : Int32} {v2 : Int32} {v3 : Int32}
    (k : Q (.inl (none)) (sh, I, J)) :
    xG d zm_M_putLengths (218, [some (.ref r0), some (.int v1), some (.int v2), some (.int v3)], []) (sh, I, J) Q := by
  exact xG_Q rfl rfl trivial k
set_option maxRecDepth 100000 in
theorem s_M_putCode_0 {d : Nat} {Q : xO → xH → Prop} {sh : List xS} {I : Nat → Nat → Int32} {J : Nat → Nat → Int64} {r0 : Nat} {v1 : Int32}
    (k : xG d zm_M_putCode (7, [some (.ref r0), some (.int v1), some (.int (-1 : Int32)), some (.int (-1 : Int32)), some (.int (0 : Int32))], []) (sh, I, J) Q) :
    xG d zm_M_putCode (0, [some (.ref r0), some (.int v1), none, none, none], []) (sh, I, J) Q := by
  exact xG_N 6 (ps := []) (f1 := (7, [some (.ref r0), some (.int v1), some (.int (-1 : Int32)), some (.int (-1 : Int32)), some (.int (0 : Int32))], [])) (h1 := (sh, I, J)) rfl trivial (k)
set_option maxRecDepth 100000 in
theorem s_M_putCode_7 {d : Nat} {Q : xO → xH → Prop} {sh : List xS} {I : Nat → Nat → Int32} {J : Nat → Nat → Int64} {r0 : Nat} {v1 : Int32} {v2 : Int32} {v3 : Int32} {v4 : Int32} {a1 : Nat} {n2 : Nat}
    (e0 : xRr sh r0 10 12 a1)
    (e1 : xAr sh a1 .int n2)
    (e2 : vp_in v1 n2)
    (k1 : (I a1 v1.toNatClampNeg) ≤ v4 → xG d zm_M_putCode (53, [some (.ref r0), some (.int v1), some (.int v2), some (.int v3), some (.int v4)], []) (sh, I, J) Q)
    (k2 : ¬ ((I a1 v1.toNatClampNeg) ≤ v4) → xG d zm_M_putCode (18, [some (.ref r0), some (.int v1), some (.int v2), some (.int v3), some (.int v4)], []) (sh, I, J) Q) :
    xG d zm_M_putCode (7, [some (.ref r0), some (.int v1), some (.int v2), some (.int v3), some (.int v4)], []) (sh, I, J) Q := by
  obtain rfl := e0.eq
  obtain rfl := e1.eq
  exact xG_N 5 (ps := [xRf sh r0 10 12, xA sh (xrf sh r0 12) .int, vp_in v1 (xlen sh (xrf sh r0 12))]) (f1 := (15, [some (.ref r0), some (.int v1), some (.int v2), some (.int v3), some (.int v4)], [.int (I (xrf sh r0 12) v1.toNatClampNeg), .int v4])) (h1 := (sh, I, J)) rfl ⟨e0.rf, e1.ar, e2⟩ (xG_B rfl rfl k1 k2)
set_option maxRecDepth 100000 in
theorem s_M_putCode_18 {d : Nat} {Q : xO → xH → Prop} {sh : List xS} {I : Nat → Nat → Int32} {J : Nat → Nat → Int64} {r0 : Nat} {v1 : Int32} {v2 : Int32} {v3 : Int32} {v4 : Int32} {a1 : Nat}
    (e0 : xRr sh r0 10 11 a1)
    (k : xg d qM_base [.int v1] (sh, I, J) (xI (fun v h1 => xG d zm_M_putCode (26, [some (.ref r0), some (.int v1), some (.int v2), some (.int v3), some (.int v4)], [.int v, .ref a1]) h1 Q) (fun x h1 => Q (.inr x) h1))) :
    xG d zm_M_putCode (18, [some (.ref r0), some (.int v1), some (.int v2), some (.int v3), some (.int v4)], []) (sh, I, J) Q := by
  obtain rfl := e0.eq
  exact xG_N 3 (ps := [xRf sh r0 10 11]) (f1 := (23, [some (.ref r0), some (.int v1), some (.int v2), some (.int v3), some (.int v4)], [.int v1, .ref (xrf sh r0 11)])) (h1 := (sh, I, J)) rfl e0.rf (xG_Ci rfl rfl (Nat.le_of_ble_eq_true rfl) (Nat.le_of_ble_eq_true rfl) trivial rfl k)
set_option maxRecDepth 100000 in
theorem s_M_putCode_26 {d : Nat} {Q : xO → xH → Prop} {sh : List xS} {I : Nat → Nat → Int32} {J : Nat → Nat → Int64} {r0 : Nat} {v1 : Int32} {v2 : Int32} {v3 : Int32} {v4 : Int32} {t0 : Nat} {t1 : Int32} {n1 : Nat}
    (e0 : xAr sh t0 .boolean n1)
    (e1 : vp_in (t1 + v4) n1)
    (k1 : (I t0 (t1 + v4).toNatClampNeg) = 0 → xG d zm_M_putCode (47, [some (.ref r0), some (.int v1), some (.int v2), some (.int v3), some (.int v4)], []) (sh, I, J) Q)
    (k2 : ¬ ((I t0 (t1 + v4).toNatClampNeg) = 0) → xG d zm_M_putCode (33, [some (.ref r0), some (.int v1), some (.int v2), some (.int v3), some (.int v4)], []) (sh, I, J) Q) :
    xG d zm_M_putCode (26, [some (.ref r0), some (.int v1), some (.int v2), some (.int v3), some (.int v4)], [.int t1, .ref t0]) (sh, I, J) Q := by
  obtain rfl := e0.eq
  exact xG_N 3 (ps := [xA sh t0 .boolean, vp_in (t1 + v4) (xlen sh t0)]) (f1 := (30, [some (.ref r0), some (.int v1), some (.int v2), some (.int v3), some (.int v4)], [.int (I t0 (t1 + v4).toNatClampNeg)])) (h1 := (sh, I, J)) rfl ⟨e0.ar, e1⟩ (xG_B rfl rfl k1 k2)
set_option maxRecDepth 100000 in
theorem s_M_putCode_33 {d : Nat} {Q : xO → xH → Prop} {sh : List xS} {I : Nat → Nat → Int32} {J : Nat → Nat → Int64} {r0 : Nat} {v1 : Int32} {v2 : Int32} {v3 : Int32} {v4 : Int32}
    (k1 : 0 ≤ v2 → xG d zm_M_putCode (42, [some (.ref r0), some (.int v1), some (.int v2), some (.int v3), some (.int v4)], []) (sh, I, J) Q)
    (k2 : ¬ (0 ≤ v2) → xG d zm_M_putCode (37, [some (.ref r0), some (.int v1), some (.int v2), some (.int v3), some (.int v4)], []) (sh, I, J) Q) :
    xG d zm_M_putCode (33, [some (.ref r0), some (.int v1), some (.int v2), some (.int v3), some (.int v4)], []) (sh, I, J) Q := by
  exact xG_N 1 (ps := []) (f1 := (34, [some (.ref r0), some (.int v1), some (.int v2), some (.int v3), some (.int v4)], [.int v2])) (h1 := (sh, I, J)) rfl trivial (xG_B rfl rfl k1 k2)
set_option maxRecDepth 100000 in
theorem s_M_putCode_37 {d : Nat} {Q : xO → xH → Prop} {sh : List xS} {I : Nat → Nat → Int32} {J : Nat → Nat → Int64} {r0 : Nat} {v1 : Int32} {v2 : Int32} {v3 : Int32} {v4 : Int32}
    (k : xG d zm_M_putCode (7, [some (.ref r0), some (.int v1), some (.int v4), some (.int v4), some (.int (v4 + (1 : Int32)))], []) (sh, I, J) Q) :
    xG d zm_M_putCode (37, [some (.ref r0), some (.int v1), some (.int v2), some (.int v3), some (.int v4)], []) (sh, I, J) Q := by
  exact xG_N 7 (ps := []) (f1 := (7, [some (.ref r0), some (.int v1), some (.int v4), some (.int v4), some (.int (v4 + (1 : Int32)))], [])) (h1 := (sh, I, J)) rfl trivial (k)
set_option maxRecDepth 100000 in
theorem s_M_putCode_42 {d : Nat} {Q : xO → xH → Prop} {sh : List xS} {I : Nat → Nat → Int32} {J : Nat → Nat → Int64} {r0 : Nat} {v1 : Int32} {v2 : Int32} {v3 : Int32} {v4 : Int32}
    (k : xG d zm_M_putCode (7, [some (.ref r0), some (.int v1), some (.int v2), some (.int v4), some (.int (v4 + (1 : Int32)))], []) (sh, I, J) Q) :
    xG d zm_M_putCode (42, [some (.ref r0), some (.int v1), some (.int v2), some (.int v3), some (.int v4)], []) (sh, I, J) Q := by
  exact xG_N 6 (ps := []) (f1 := (7, [some (.ref r0), some (.int v1), some (.int v2), some (.int v4), some (.int (v4 + (1 : Int32)))], [])) (h1 := (sh, I, J)) rfl trivial (k)
set_option maxRecDepth 100000 in
theorem s_M_putCode_47 {d : Nat} {Q : xO → xH → Prop} {sh : List xS} {I : Nat → Nat → Int32} {J : Nat → Nat → Int64} {r0 : Nat} {v1 : Int32} {v2 : Int32} {v3 : Int32} {v4 : Int32}
    (k : xG d zm_M_putCode (7, [some (.ref r0), some (.int v1), some (.int v2), some (.int v3), some (.int (v4 + (1 : Int32)))], []) (sh, I, J) Q) :
    xG d zm_M_putCode (47, [some (.ref r0), some (.int v1), some (.int v2), some (.int v3), some (.int v4)], []) (sh, I, J) Q := by
  exact xG_N 2 (ps := []) (f1 := (7, [some (.ref r0), some (.int v1), some (.int v2), some (.int v3), some (.int (v4 + (1 : Int32)))], [])) (h1 := (sh, I, J)) rfl trivial (k)
set_option maxRecDepth 100000 in
theorem s_M_putCode_53 {d : Nat} {Q : xO → xH → Prop} {sh : List xS} {I : Nat → Nat → Int32} {J : Nat → Nat → Int64} {r0 : Nat} {v1 : Int32} {v2 : Int32} {v3 : Int32} {v4 : Int32}
    (k1 : 0 ≤ v2 → xG d zm_M_putCode (71, [some (.ref r0), some (.int v1), some (.int v2), some (.int v3), some (.int v4)], []) (sh, I, J) Q)
    (k2 : ¬ (0 ≤ v2) → xG d zm_M_putCode (57, [some (.ref r0), some (.int v1), some (.int v2), some (.int v3), some (.int v4)], []) (sh, I, J) Q) :
    xG d zm_M_putCode (53, [some (.ref r0), some (.int v1), some (.int v2), some (.int v3), some (.int v4)], []) (sh, I, J) Q := by
  exact xG_N 1 (ps := []) (f1 := (54, [some (.ref r0), some (.int v1), some (.int v2), some (.int v3), some (.int v4)], [.int v2])) (h1 := (sh, I, J)) rfl trivial (xG_B rfl rfl k1 k2)
set_option maxRecDepth 100000 in
theorem s_M_putCode_57 {d : Nat} {Q : xO → xH → Prop} {sh : List xS} {I : Nat → Nat → Int32} {J : Nat → Nat → Int64} {r0 : Nat} {v1 : Int32} {v2 : Int32} {v3 : Int32} {v4 : Int32} {a1 : Nat}
    (e0 : xRr sh r0 10 11 a1)
    (k : xg d qM_base [.int v1] (sh, I, J) (xI (fun v h1 => xG d zm_M_putCode (69, [some (.ref r0), some (.int v1), some (.int (0 : Int32)), some (.int (0 : Int32)), some (.int v4)], [.int v, .ref a1]) h1 Q) (fun x h1 => Q (.inr x) h1))) :
    xG d zm_M_putCode (57, [some (.ref r0), some (.int v1), some (.int v2), some (.int v3), some (.int v4)], []) (sh, I, J) Q := by
  obtain rfl := e0.eq
  exact xG_N 7 (ps := [xRf sh r0 10 11]) (f1 := (66, [some (.ref r0), some (.int v1), some (.int (0 : Int32)), some (.int (0 : Int32)), some (.int v4)], [.int v1, .ref (xrf sh r0 11)])) (h1 := (sh, I, J)) rfl e0.rf (xG_Ci rfl rfl (Nat.le_of_ble_eq_true rfl) (Nat.le_of_ble_eq_true rfl) trivial rfl k)
set_option maxRecDepth 100000 in
theorem s_M_putCode_69 {d : Nat} {Q : xO → xH → Prop} {sh : List xS} {I : Nat → Nat → Int32} {J : Nat → Nat → Int64} {r0 : Nat} {v1 : Int32} {v2 : Int32} {v3 : Int32} {v4 : Int32} {t0 : Nat} {t1 : Int32} {n1 : Nat}
    (e0 : xAr sh t0 .boolean n1)
    (e1 : 4 ≤ t0)
    (e2 : vp_in t1 n1)
    (ko : xOb sh r0 10)
    (k : xg d qM_usedOf [.ref r0, .int v1] (sh, xup I t0 t1.toNatClampNeg (1 : Int32), J) (xI (fun v h1 => xG d zm_M_putCode (76, [some (.ref r0), some (.int v1), some (.int v2), some (.int v3), some (.int v4)], [.int v]) h1 Q) (fun x h1 => Q (.inr x) h1))) :
    xG d zm_M_putCode (69, [some (.ref r0), some (.int v1), some (.int v2), some (.int v3), some (.int v4)], [.int t1, .ref t0]) (sh, I, J) Q := by
  obtain rfl := e0.eq
  exact xG_N 4 (ps := [xW sh t0 .boolean, vp_in t1 (xlen sh t0), ((1 : Int32) : Int32) = 0 ∨ ((1 : Int32) : Int32) = 1]) (f1 := (73, [some (.ref r0), some (.int v1), some (.int v2), some (.int v3), some (.int v4)], [.int v1, .ref r0])) (h1 := (sh, xup I t0 t1.toNatClampNeg (1 : Int32), J)) rfl ⟨⟨e0.ar, e1⟩, e2, (show ((1 : Int32) : Int32) = 0 ∨ ((1 : Int32) : Int32) = 1 by decide)⟩ (xG_Ci rfl rfl (Nat.le_of_ble_eq_true rfl) (Nat.le_of_ble_eq_true rfl) ⟨_, _, rfl, ko⟩ rfl k)
set_option maxRecDepth 100000 in
theorem s_M_putCode_71 {d : Nat} {Q : xO → xH → Prop} {sh : List xS} {I : Nat → Nat → Int32} {J : Nat → Nat → Int64} {r0 : Nat} {v1 : Int32} {v2 : Int32} {v3 : Int32} {v4 : Int32}
    (ko : xOb sh r0 10)
    (k : xg d qM_usedOf [.ref r0, .int v1] (sh, I, J) (xI (fun v h1 => xG d zm_M_putCode (76, [some (.ref r0), some (.int v1), some (.int v2), some (.int v3), some (.int v4)], [.int v]) h1 Q) (fun x h1 => Q (.inr x) h1))) :
    xG d zm_M_putCode (71, [some (.ref r0), some (.int v1), some (.int v2), some (.int v3), some (.int v4)], []) (sh, I, J) Q := by
  exact xG_N 2 (ps := []) (f1 := (73, [some (.ref r0), some (.int v1), some (.int v2), some (.int v3), some (.int v4)], [.int v1, .ref r0])) (h1 := (sh, I, J)) rfl trivial (xG_Ci rfl rfl (Nat.le_of_ble_eq_true rfl) (Nat.le_of_ble_eq_true rfl) ⟨_, _, rfl, ko⟩ rfl k)
set_option maxRecDepth 100000 in
theorem s_M_putCode_76 {d : Nat} {Q : xO → xH → Prop} {sh : List xS} {I : Nat → Nat → Int32} {J : Nat → Nat → Int64} {r0 : Nat} {v1 : Int32} {v2 : Int32} {v3 : Int32} {v4 : Int32} {t0 : Int32}
    (ko : xOb sh r0 10)
    (k : xg d qM_giveLengths [.ref r0, .int v1] (sh, I, J) (xU (fun h1 => xG d zm_M_putCode (83, [some (.ref r0), some (.int v1), some (.int v2), some (.int v3), some (.int t0)], []) h1 Q) (fun x h1 => Q (.inr x) h1))) :
    xG d zm_M_putCode (76, [some (.ref r0), some (.int v1), some (.int v2), some (.int v3), some (.int v4)], [.int t0]) (sh, I, J) Q := by
  exact xG_N 3 (ps := []) (f1 := (80, [some (.ref r0), some (.int v1), some (.int v2), some (.int v3), some (.int t0)], [.int v1, .ref r0])) (h1 := (sh, I, J)) rfl trivial (xG_Cu rfl rfl (Nat.le_of_ble_eq_true rfl) (Nat.le_of_ble_eq_true rfl) ⟨_, _, rfl, ko⟩ rfl k)
set_option maxRecDepth 100000 in
theorem s_M_putCode_83 {d : Nat} {Q : xO → xH → Prop} {sh : List xS} {I : Nat → Nat → Int32} {J : Nat → Nat → Int64} {r0 : Nat} {v1 : Int32} {v2 : Int32} {v3 : Int32} {v4 : Int32}
    (k1 : (3 : Int32) ≤ v4 → xG d zm_M_putCode (144, [some (.ref r0), some (.int v1), some (.int v2), some (.int v3), some (.int v4)], []) (sh, I, J) Q)
    (k2 : ¬ ((3 : Int32) ≤ v4) → xG d zm_M_putCode (89, [some (.ref r0), some (.int v1), some (.int v2), some (.int v3), some (.int v4)], []) (sh, I, J) Q) :
    xG d zm_M_putCode (83, [some (.ref r0), some (.int v1), some (.int v2), some (.int v3), some (.int v4)], []) (sh, I, J) Q := by
  exact xG_N 2 (ps := []) (f1 := (86, [some (.ref r0), some (.int v1), some (.int v2), some (.int v3), some (.int v4)], [.int (3 : Int32), .int v4])) (h1 := (sh, I, J)) rfl trivial (xG_B rfl rfl k1 k2)
set_option maxRecDepth 100000 in
theorem s_M_putCode_89 {d : Nat} {Q : xO → xH → Prop} {sh : List xS} {I : Nat → Nat → Int32} {J : Nat → Nat → Int64} {r0 : Nat} {v1 : Int32} {v2 : Int32} {v3 : Int32} {v4 : Int32}
    (k1 : (256 : Int32) ≤ v3 → xG d zm_M_putCode (144, [some (.ref r0), some (.int v1), some (.int v2), some (.int v3), some (.int v4)], []) (sh, I, J) Q)
    (k2 : ¬ ((256 : Int32) ≤ v3) → xG d zm_M_putCode (96, [some (.ref r0), some (.int v1), some (.int v2), some (.int v3), some (.int v4)], []) (sh, I, J) Q) :
    xG d zm_M_putCode (89, [some (.ref r0), some (.int v1), some (.int v2), some (.int v3), some (.int v4)], []) (sh, I, J) Q := by
  exact xG_N 2 (ps := []) (f1 := (93, [some (.ref r0), some (.int v1), some (.int v2), some (.int v3), some (.int v4)], [.int (256 : Int32), .int v3])) (h1 := (sh, I, J)) rfl trivial (xG_B rfl rfl k1 k2)
set_option maxRecDepth 100000 in
theorem s_M_putCode_96 {d : Nat} {Q : xO → xH → Prop} {sh : List xS} {I : Nat → Nat → Int32} {J : Nat → Nat → Int64} {r0 : Nat} {v1 : Int32} {v2 : Int32} {v3 : Int32} {v4 : Int32}
    (ko : xOb sh r0 10)
    (k : xg d qM_put [.ref r0, .int (1 : Int32), .int (1 : Int32)] (sh, I, J) (xU (fun h1 => xG d zm_M_putCode (102, [some (.ref r0), some (.int v1), some (.int v2), some (.int v3), some (.int v4)], []) h1 Q) (fun x h1 => Q (.inr x) h1))) :
    xG d zm_M_putCode (96, [some (.ref r0), some (.int v1), some (.int v2), some (.int v3), some (.int v4)], []) (sh, I, J) Q := by
  exact xG_N 3 (ps := []) (f1 := (99, [some (.ref r0), some (.int v1), some (.int v2), some (.int v3), some (.int v4)], [.int (1 : Int32), .int (1 : Int32), .ref r0])) (h1 := (sh, I, J)) rfl trivial (xG_Cu rfl rfl (Nat.le_of_ble_eq_true rfl) (Nat.le_of_ble_eq_true rfl) ⟨_, _, rfl, ko⟩ rfl k)
set_option maxRecDepth 100000 in
theorem s_M_putCode_102 {d : Nat} {Q : xO → xH → Prop} {sh : List xS} {I : Nat → Nat → Int32} {J : Nat → Nat → Int64} {r0 : Nat} {v1 : Int32} {v2 : Int32} {v3 : Int32} {v4 : Int32}
    (ko : xOb sh r0 10)
    (k : xg d qM_put [.ref r0, .int (v4 - (1 : Int32)), .int (1 : Int32)] (sh, I, J) (xU (fun h1 => xG d zm_M_putCode (111, [some (.ref r0), some (.int v1), some (.int v2), some (.int v3), some (.int v4)], []) h1 Q) (fun x h1 => Q (.inr x) h1))) :
    xG d zm_M_putCode (102, [some (.ref r0), some (.int v1), some (.int v2), some (.int v3), some (.int v4)], []) (sh, I, J) Q := by
  exact xG_N 5 (ps := []) (f1 := (108, [some (.ref r0), some (.int v1), some (.int v2), some (.int v3), some (.int v4)], [.int (1 : Int32), .int (v4 - (1 : Int32)), .ref r0])) (h1 := (sh, I, J)) rfl trivial (xG_Cu rfl rfl (Nat.le_of_ble_eq_true rfl) (Nat.le_of_ble_eq_true rfl) ⟨_, _, rfl, ko⟩ rfl k)
set_option maxRecDepth 100000 in
theorem s_M_putCode_111 {d : Nat} {Q : xO → xH → Prop} {sh : List xS} {I : Nat → Nat → Int32} {J : Nat → Nat → Int64} {r0 : Nat} {v1 : Int32} {v2 : Int32} {v3 : Int32} {v4 : Int32}
    (ko : xOb sh r0 10)
    (k : xg d qM_put [.ref r0, .int (1 : Int32), .int (1 : Int32)] (sh, I, J) (xU (fun h1 => xG d zm_M_putCode (117, [some (.ref r0), some (.int v1), some (.int v2), some (.int v3), some (.int v4)], []) h1 Q) (fun x h1 => Q (.inr x) h1))) :
    xG d zm_M_putCode (111, [some (.ref r0), some (.int v1), some (.int v2), some (.int v3), some (.int v4)], []) (sh, I, J) Q := by
  exact xG_N 3 (ps := []) (f1 := (114, [some (.ref r0), some (.int v1), some (.int v2), some (.int v3), some (.int v4)], [.int (1 : Int32), .int (1 : Int32), .ref r0])) (h1 := (sh, I, J)) rfl trivial (xG_Cu rfl rfl (Nat.le_of_ble_eq_true rfl) (Nat.le_of_ble_eq_true rfl) ⟨_, _, rfl, ko⟩ rfl k)
set_option maxRecDepth 100000 in
theorem s_M_putCode_117 {d : Nat} {Q : xO → xH → Prop} {sh : List xS} {I : Nat → Nat → Int32} {J : Nat → Nat → Int64} {r0 : Nat} {v1 : Int32} {v2 : Int32} {v3 : Int32} {v4 : Int32}
    (ko : xOb sh r0 10)
    (k : xg d qM_put [.ref r0, .int v2, .int (8 : Int32)] (sh, I, J) (xU (fun h1 => xG d zm_M_putCode (124, [some (.ref r0), some (.int v1), some (.int v2), some (.int v3), some (.int v4)], []) h1 Q) (fun x h1 => Q (.inr x) h1))) :
    xG d zm_M_putCode (117, [some (.ref r0), some (.int v1), some (.int v2), some (.int v3), some (.int v4)], []) (sh, I, J) Q := by
  exact xG_N 3 (ps := []) (f1 := (121, [some (.ref r0), some (.int v1), some (.int v2), some (.int v3), some (.int v4)], [.int (8 : Int32), .int v2, .ref r0])) (h1 := (sh, I, J)) rfl trivial (xG_Cu rfl rfl (Nat.le_of_ble_eq_true rfl) (Nat.le_of_ble_eq_true rfl) ⟨_, _, rfl, ko⟩ rfl k)
set_option maxRecDepth 100000 in
theorem s_M_putCode_124 {d : Nat} {Q : xO → xH → Prop} {sh : List xS} {I : Nat → Nat → Int32} {J : Nat → Nat → Int64} {r0 : Nat} {v1 : Int32} {v2 : Int32} {v3 : Int32} {v4 : Int32}
    (k1 : ¬ v4 = (2 : Int32) → xG d zm_M_putCode (137, [some (.ref r0), some (.int v1), some (.int v2), some (.int v3), some (.int v4)], [.int v3, .ref r0]) (sh, I, J) Q)
    (k2 : ¬ (¬ v4 = (2 : Int32)) → xG d zm_M_putCode (132, [some (.ref r0), some (.int v1), some (.int v2), some (.int v3), some (.int v4)], [.int v3, .ref r0]) (sh, I, J) Q) :
    xG d zm_M_putCode (124, [some (.ref r0), some (.int v1), some (.int v2), some (.int v3), some (.int v4)], []) (sh, I, J) Q := by
  exact xG_N 4 (ps := []) (f1 := (129, [some (.ref r0), some (.int v1), some (.int v2), some (.int v3), some (.int v4)], [.int (2 : Int32), .int v4, .int v3, .ref r0])) (h1 := (sh, I, J)) rfl trivial (xG_B rfl rfl k1 k2)
set_option maxRecDepth 100000 in
theorem s_M_putCode_132 {d : Nat} {Q : xO → xH → Prop} {sh : List xS} {I : Nat → Nat → Int32} {J : Nat → Nat → Int64} {r0 : Nat} {v1 : Int32} {v2 : Int32} {v3 : Int32} {v4 : Int32} {t0 : Nat} {t1 : Int32}
    (ko : xOb sh t0 10)
    (k : xg d qM_put [.ref t0, .int t1, .int (8 : Int32)] (sh, I, J) (xU (fun h1 => xG d zm_M_putCode (141, [some (.ref r0), some (.int v1), some (.int v2), some (.int v3), some (.int v4)], []) h1 Q) (fun x h1 => Q (.inr x) h1))) :
    xG d zm_M_putCode (132, [some (.ref r0), some (.int v1), some (.int v2), some (.int v3), some (.int v4)], [.int t1, .ref t0]) (sh, I, J) Q := by
  exact xG_N 2 (ps := []) (f1 := (138, [some (.ref r0), some (.int v1), some (.int v2), some (.int v3), some (.int v4)], [.int (8 : Int32), .int t1, .ref t0])) (h1 := (sh, I, J)) rfl trivial (xG_Cu rfl rfl (Nat.le_of_ble_eq_true rfl) (Nat.le_of_ble_eq_true rfl) ⟨_, _, rfl, ko⟩ rfl k)
set_option maxRecDepth 100000 in
theorem s_M_putCode_137 {d : Nat} {Q : xO → xH → Prop} {sh : List xS} {I : Nat → Nat → Int32} {J : Nat → Nat → Int64} {r0 : Nat} {v1 : Int32} {v2 : Int32} {v3 : Int32} {v4 : Int32} {t0 : Nat} {t1 : Int32}
    (ko : xOb sh t0 10)
    (k : xg d qM_put [.ref t0, .int t1, .int (0 : Int32)] (sh, I, J) (xU (fun h1 => xG d zm_M_putCode (141, [some (.ref r0), some (.int v1), some (.int v2), some (.int v3), some (.int v4)], []) h1 Q) (fun x h1 => Q (.inr x) h1))) :
    xG d zm_M_putCode (137, [some (.ref r0), some (.int v1), some (.int v2), some (.int v3), some (.int v4)], [.int t1, .ref t0]) (sh, I, J) Q := by
  exact xG_N 1 (ps := []) (f1 := (138, [some (.ref r0), some (.int v1), some (.int v2), some (.int v3), some (.int v4)], [.int (0 : Int32), .int t1, .ref t0])) (h1 := (sh, I, J)) rfl trivial (xG_Cu rfl rfl (Nat.le_of_ble_eq_true rfl) (Nat.le_of_ble_eq_true rfl) ⟨_, _, rfl, ko⟩ rfl k)
set_option maxRecDepth 100000 in
theorem s_M_putCode_141 {d : Nat} {Q : xO → xH → Prop} {sh : List xS} {I : Nat → Nat → Int32} {J : Nat → Nat → Int64} {r0 : Nat} {v1 : Int32} {v2 : Int32} {v3 : Int32} {v4 : Int32}
    (k : Q (.inl (none)) (sh, I, J)) :
    xG d zm_M_putCode (141, [some (.ref r0), some (.int v1), some (.int v2), some (.int v3), some (.int v4)], []) (sh, I, J) Q := by
  exact xG_N 1 (ps := []) (f1 := (155, [some (.ref r0), some (.int v1), some (.int v2), some (.int v3), some (.int v4)], [])) (h1 := (sh, I, J)) rfl trivial (xG_Q rfl rfl trivial k)
set_option maxRecDepth 100000 in
theorem s_M_putCode_144 {d : Nat} {Q : xO → xH → Prop} {sh : List xS} {I : Nat → Nat → Int32} {J : Nat → Nat → Int64} {r0 : Nat} {v1 : Int32} {v2 : Int32} {v3 : Int32} {v4 : Int32}
    (ko : xOb sh r0 10)
    (k : xg d qM_put [.ref r0, .int (0 : Int32), .int (1 : Int32)] (sh, I, J) (xU (fun h1 => xG d zm_M_putCode (150, [some (.ref r0), some (.int v1), some (.int v2), some (.int v3), some (.int v4)], []) h1 Q) (fun x h1 => Q (.inr x) h1))) :
    xG d zm_M_putCode (144, [some (.ref r0), some (.int v1), some (.int v2), some (.int v3), some (.int v4)], []) (sh, I, J) Q := by
  exact xG_N 3 (ps := []) (f1 := (147, [some (.ref r0), some (.int v1), some (.int v2), some (.int v3), some (.int v4)], [.int (1 : Int32), .int (0 : Int32), .ref r0])) (h1 := (sh, I, J)) rfl trivial (xG_Cu rfl rfl (Nat.le_of_ble_eq_true rfl) (Nat.le_of_ble_eq_true rfl) ⟨_, _, rfl, ko⟩ rfl k)
set_option maxRecDepth 100000 in
theorem s_M_putCode_150 {d : Nat} {Q : xO → xH → Prop} {sh : List xS} {I : Nat → Nat → Int32} {J : Nat → Nat → Int64} {r0 : Nat} {v1 : Int32} {v2 : Int32} {v3 : Int32} {v4 : Int32}
    (ko : xOb sh r0 10)
    (k : xg d qM_putLengths [.ref r0, .int v1] (sh, I, J) (xU (fun h1 => xG d zm_M_putCode (155, [some (.ref r0), some (.int v1), some (.int v2), some (.int v3), some (.int v4)], []) h1 Q) (fun x h1 => Q (.inr x) h1))) :
    xG d zm_M_putCode (150, [some (.ref r0), some (.int v1), some (.int v2), some (.int v3), some (.int v4)], []) (sh, I, J) Q := by
  exact xG_N 2 (ps := []) (f1 := (152, [some (.ref r0), some (.int v1), some (.int v2), some (.int v3), some (.int v4)], [.int v1, .ref r0])) (h1 := (sh, I, J)) rfl trivial (xG_Cu rfl rfl (Nat.le_of_ble_eq_true rfl) (Nat.le_of_ble_eq_true rfl) ⟨_, _, rfl, ko⟩ rfl k)
set_option maxRecDepth 100000 in
theorem s_M_putCode_155 {d : Nat} {Q : xO → xH → Prop} {sh : List xS} {I : Nat → Nat → Int32} {J : Nat → Nat → Int64} {r0 : Nat} {v1 : Int32} {v2 : Int32} {v3 : Int32} {v4 : Int32}
    (k : Q (.inl (none)) (sh, I, J)) :
    xG d zm_M_putCode (155, [some (.ref r0), some (.int v1), some (.int v2), some (.int v3), some (.int v4)], []) (sh, I, J) Q := by
  exact xG_Q rfl rfl trivial k
set_option maxRecDepth 100000 in
theorem s_M_prefixOf_0 {d : Nat} {Q : xO → xH → Prop} {sh : List xS} {I : Nat → Nat → Int32} {J : Nat → Nat → Int64} {v0 : Int32}
    (k1 : (4 : Int32) ≤ (v0 - (1 : Int32)) → xG d zm_M_prefixOf (11, [some (.int v0), some (.int (v0 - (1 : Int32))), none], []) (sh, I, J) Q)
    (k2 : ¬ ((4 : Int32) ≤ (v0 - (1 : Int32))) → xG d zm_M_prefixOf (9, [some (.int v0), some (.int (v0 - (1 : Int32))), none], []) (sh, I, J) Q) :
    xG d zm_M_prefixOf (0, [some (.int v0), none, none], []) (sh, I, J) Q := by
  exact xG_N 6 (ps := []) (f1 := (6, [some (.int v0), some (.int (v0 - (1 : Int32))), none], [.int (4 : Int32), .int (v0 - (1 : Int32))])) (h1 := (sh, I, J)) rfl trivial (xG_B rfl rfl k1 k2)
set_option maxRecDepth 100000 in
theorem s_M_prefixOf_9 {d : Nat} {Q : xO → xH → Prop} {sh : List xS} {I : Nat → Nat → Int32} {J : Nat → Nat → Int64} {v0 : Int32} {v1 : Int32}
    (k : Q (.inl (some (.int v1))) (sh, I, J)) :
    xG d zm_M_prefixOf (9, [some (.int v0), some (.int v1), none], []) (sh, I, J) Q := by
  exact xG_N 1 (ps := []) (f1 := (10, [some (.int v0), some (.int v1), none], [.int v1])) (h1 := (sh, I, J)) rfl trivial (xG_Q rfl rfl trivial k)
set_option maxRecDepth 100000 in
theorem s_M_prefixOf_11 {d : Nat} {Q : xO → xH → Prop} {sh : List xS} {I : Nat → Nat → Int32} {J : Nat → Nat → Int64} {v0 : Int32} {v1 : Int32}
    (k : xG d zm_M_prefixOf (13, [some (.int v0), some (.int v1), some (.int (0 : Int32))], []) (sh, I, J) Q) :
    xG d zm_M_prefixOf (11, [some (.int v0), some (.int v1), none], []) (sh, I, J) Q := by
  exact xG_N 2 (ps := []) (f1 := (13, [some (.int v0), some (.int v1), some (.int (0 : Int32))], [])) (h1 := (sh, I, J)) rfl trivial (k)
set_option maxRecDepth 100000 in
theorem s_M_prefixOf_13 {d : Nat} {Q : xO → xH → Prop} {sh : List xS} {I : Nat → Nat → Int32} {J : Nat → Nat → Int64} {v0 : Int32} {v1 : Int32} {v2 : Int32}
    (k1 : (v1 >>> ((v2 + (2 : Int32)) &&& 31)) ≤ 0 → xG d zm_M_prefixOf (27, [some (.int v0), some (.int v1), some (.int v2)], []) (sh, I, J) Q)
    (k2 : ¬ ((v1 >>> ((v2 + (2 : Int32)) &&& 31)) ≤ 0) → xG d zm_M_prefixOf (21, [some (.int v0), some (.int v1), some (.int v2)], []) (sh, I, J) Q) :
    xG d zm_M_prefixOf (13, [some (.int v0), some (.int v1), some (.int v2)], []) (sh, I, J) Q := by
  exact xG_N 5 (ps := []) (f1 := (18, [some (.int v0), some (.int v1), some (.int v2)], [.int (v1 >>> ((v2 + (2 : Int32)) &&& 31))])) (h1 := (sh, I, J)) rfl trivial (xG_B rfl rfl k1 k2)
set_option maxRecDepth 100000 in
theorem s_M_prefixOf_21 {d : Nat} {Q : xO → xH → Prop} {sh : List xS} {I : Nat → Nat → Int32} {J : Nat → Nat → Int64} {v0 : Int32} {v1 : Int32} {v2 : Int32}
    (k : xG d zm_M_prefixOf (13, [some (.int v0), some (.int v1), some (.int (v2 + (1 : Int32)))], []) (sh, I, J) Q) :
    xG d zm_M_prefixOf (21, [some (.int v0), some (.int v1), some (.int v2)], []) (sh, I, J) Q := by
  exact xG_N 2 (ps := []) (f1 := (13, [some (.int v0), some (.int v1), some (.int (v2 + (1 : Int32)))], [])) (h1 := (sh, I, J)) rfl trivial (k)
set_option maxRecDepth 100000 in
theorem s_M_prefixOf_27 {d : Nat} {Q : xO → xH → Prop} {sh : List xS} {I : Nat → Nat → Int32} {J : Nat → Nat → Int64} {v0 : Int32} {v1 : Int32} {v2 : Int32}
    (k : Q (.inl (some (.int (((2 : Int32) * (v2 + (1 : Int32))) + ((v1 >>> (v2 &&& 31)) &&& (1 : Int32)))))) (sh, I, J)) :
    xG d zm_M_prefixOf (27, [some (.int v0), some (.int v1), some (.int v2)], []) (sh, I, J) Q := by
  exact xG_N 11 (ps := []) (f1 := (38, [some (.int v0), some (.int v1), some (.int v2)], [.int (((2 : Int32) * (v2 + (1 : Int32))) + ((v1 >>> (v2 &&& 31)) &&& (1 : Int32)))])) (h1 := (sh, I, J)) rfl trivial (xG_Q rfl rfl trivial k)
set_option maxRecDepth 100000 in
theorem s_M_putRest_0 {d : Nat} {Q : xO → xH → Prop} {sh : List xS} {I : Nat → Nat → Int32} {J : Nat → Nat → Int64} {r0 : Nat} {v1 : Int32}
    (k : xg d qM_prefixOf [.int v1] (sh, I, J) (xI (fun v h1 => xG d zm_M_putRest (4, [some (.ref r0), some (.int v1), none, none], [.int v]) h1 Q) (fun x h1 => Q (.inr x) h1))) :
    xG d zm_M_putRest (0, [some (.ref r0), some (.int v1), none, none], []) (sh, I, J) Q := by
  exact xG_N 1 (ps := []) (f1 := (1, [some (.ref r0), some (.int v1), none, none], [.int v1])) (h1 := (sh, I, J)) rfl trivial (xG_Ci rfl rfl (Nat.le_of_ble_eq_true rfl) (Nat.le_of_ble_eq_true rfl) trivial rfl k)
set_option maxRecDepth 100000 in
theorem s_M_putRest_4 {d : Nat} {Q : xO → xH → Prop} {sh : List xS} {I : Nat → Nat → Int32} {J : Nat → Nat → Int64} {r0 : Nat} {v1 : Int32} {t0 : Int32}
    (k1 : (4 : Int32) ≤ t0 → xG d zm_M_putRest (14, [some (.ref r0), some (.int v1), some (.int t0), none], []) (sh, I, J) Q)
    (k2 : ¬ ((4 : Int32) ≤ t0) → xG d zm_M_putRest (10, [some (.ref r0), some (.int v1), some (.int t0), none], []) (sh, I, J) Q) :
    xG d zm_M_putRest (4, [some (.ref r0), some (.int v1), none, none], [.int t0]) (sh, I, J) Q := by
  exact xG_N 3 (ps := []) (f1 := (7, [some (.ref r0), some (.int v1), some (.int t0), none], [.int (4 : Int32), .int t0])) (h1 := (sh, I, J)) rfl trivial (xG_B rfl rfl k1 k2)
set_option maxRecDepth 100000 in
theorem s_M_putRest_10 {d : Nat} {Q : xO → xH → Prop} {sh : List xS} {I : Nat → Nat → Int32} {J : Nat → Nat → Int64} {r0 : Nat} {v1 : Int32} {v2 : Int32}
    (ko : xOb sh r0 10)
    (k : xg d qM_put [.ref r0, .int ((v1 - (1 : Int32)) &&& (((1 : Int32) <<< ((0 : Int32) &&& 31)) - (1 : Int32))), .int (0 : Int32)] (sh, I, J) (xU (fun h1 => xG d zm_M_putRest (34, [some (.ref r0), some (.int v1), some (.int v2), some (.int (0 : Int32))], []) h1 Q) (fun x h1 => Q (.inr x) h1))) :
    xG d zm_M_putRest (10, [some (.ref r0), some (.int v1), some (.int v2), none], []) (sh, I, J) Q := by
  exact xG_N 14 (ps := []) (f1 := (31, [some (.ref r0), some (.int v1), some (.int v2), some (.int (0 : Int32))], [.int (0 : Int32), .int ((v1 - (1 : Int32)) &&& (((1 : Int32) <<< ((0 : Int32) &&& 31)) - (1 : Int32))), .ref r0])) (h1 := (sh, I, J)) rfl trivial (xG_Cu rfl rfl (Nat.le_of_ble_eq_true rfl) (Nat.le_of_ble_eq_true rfl) ⟨_, _, rfl, ko⟩ rfl k)
set_option maxRecDepth 100000 in
theorem s_M_putRest_14 {d : Nat} {Q : xO → xH → Prop} {sh : List xS} {I : Nat → Nat → Int32} {J : Nat → Nat → Int64} {r0 : Nat} {v1 : Int32} {v2 : Int32}
    (ko : xOb sh r0 10)
    (k : xg d qM_put [.ref r0, .int ((v1 - (1 : Int32)) &&& (((1 : Int32) <<< (((v2 / (2 : Int32)) - (1 : Int32)) &&& 31)) - (1 : Int32))), .int ((v2 / (2 : Int32)) - (1 : Int32))] (sh, I, J) (xU (fun h1 => xG d zm_M_putRest (34, [some (.ref r0), some (.int v1), some (.int v2), some (.int ((v2 / (2 : Int32)) - (1 : Int32)))], []) h1 Q) (fun x h1 => Q (.inr x) h1))) :
    xG d zm_M_putRest (14, [some (.ref r0), some (.int v1), some (.int v2), none], []) (sh, I, J) Q := by
  exact xG_N 17 (ps := [¬ (2 : Int32) = 0]) (f1 := (31, [some (.ref r0), some (.int v1), some (.int v2), some (.int ((v2 / (2 : Int32)) - (1 : Int32)))], [.int ((v2 / (2 : Int32)) - (1 : Int32)), .int ((v1 - (1 : Int32)) &&& (((1 : Int32) <<< (((v2 / (2 : Int32)) - (1 : Int32)) &&& 31)) - (1 : Int32))), .ref r0])) (h1 := (sh, I, J)) rfl (show ¬ (2 : Int32) = 0 by decide) (xG_Cu rfl rfl (Nat.le_of_ble_eq_true rfl) (Nat.le_of_ble_eq_true rfl) ⟨_, _, rfl, ko⟩ rfl k)
set_option maxRecDepth 100000 in
theorem s_M_putRest_34 {d : Nat} {Q : xO → xH → Prop} {sh : List xS} {I : Nat → Nat → Int32} {J : Nat → Nat → Int64} {r0 : Nat} {v1 : Int32} {v2 : Int32} {v3 : Int32}
    (k : Q (.inl (none)) (sh, I, J)) :
    xG d zm_M_putRest (34, [some (.ref r0), some (.int v1), some (.int v2), some (.int v3)], []) (sh, I, J) Q := by
  exact xG_Q rfl rfl trivial k
set_option maxRecDepth 100000 in
theorem s_M_run_0 {d : Nat} {Q : xO → xH → Prop} {sh : List xS} {I : Nat → Nat → Int32} {J : Nat → Nat → Int64} {r0 : Nat} {v1 : Int32} {v2 : Int32} {v3 : Int32}
    (k : xG d zm_M_run (3, [some (.ref r0), some (.int v1), some (.int v2), some (.int v3), some (.int v1)], []) (sh, I, J) Q) :
    xG d zm_M_run (0, [some (.ref r0), some (.int v1), some (.int v2), some (.int v3), none], []) (sh, I, J) Q := by
  exact xG_N 2 (ps := []) (f1 := (3, [some (.ref r0), some (.int v1), some (.int v2), some (.int v3), some (.int v1)], [])) (h1 := (sh, I, J)) rfl trivial (k)
set_option maxRecDepth 100000 in
theorem s_M_run_3 {d : Nat} {Q : xO → xH → Prop} {sh : List xS} {I : Nat → Nat → Int32} {J : Nat → Nat → Int64} {r0 : Nat} {v1 : Int32} {v2 : Int32} {v3 : Int32} {v4 : Int32}
    (k1 : v3 ≤ v4 → xG d zm_M_run (34, [some (.ref r0), some (.int v1), some (.int v2), some (.int v3), some (.int v4)], []) (sh, I, J) Q)
    (k2 : ¬ (v3 ≤ v4) → xG d zm_M_run (9, [some (.ref r0), some (.int v1), some (.int v2), some (.int v3), some (.int v4)], []) (sh, I, J) Q) :
    xG d zm_M_run (3, [some (.ref r0), some (.int v1), some (.int v2), some (.int v3), some (.int v4)], []) (sh, I, J) Q := by
  exact xG_N 2 (ps := []) (f1 := (6, [some (.ref r0), some (.int v1), some (.int v2), some (.int v3), some (.int v4)], [.int v3, .int v4])) (h1 := (sh, I, J)) rfl trivial (xG_B rfl rfl k1 k2)
set_option maxRecDepth 100000 in
theorem s_M_run_9 {d : Nat} {Q : xO → xH → Prop} {sh : List xS} {I : Nat → Nat → Int32} {J : Nat → Nat → Int64} {r0 : Nat} {v1 : Int32} {v2 : Int32} {v3 : Int32} {v4 : Int32} {a1 : Nat} {n2 : Nat}
    (e0 : xRr sh r0 10 14 a1)
    (e1 : xAr sh a1 .int n2)
    (e2 : vp_in v4 n2)
    (e3 : vp_in (v4 - v2) n2)
    (k1 : ¬ (I a1 v4.toNatClampNeg) = (I a1 (v4 - v2).toNatClampNeg) → xG d zm_M_run (34, [some (.ref r0), some (.int v1), some (.int v2), some (.int v3), some (.int v4)], []) (sh, I, J) Q)
    (k2 : ¬ (¬ (I a1 v4.toNatClampNeg) = (I a1 (v4 - v2).toNatClampNeg)) → xG d zm_M_run (28, [some (.ref r0), some (.int v1), some (.int v2), some (.int v3), some (.int v4)], []) (sh, I, J) Q) :
    xG d zm_M_run (9, [some (.ref r0), some (.int v1), some (.int v2), some (.int v3), some (.int v4)], []) (sh, I, J) Q := by
  obtain rfl := e0.eq
  obtain rfl := e1.eq
  exact xG_N 10 (ps := [xRf sh r0 10 14, xA sh (xrf sh r0 14) .int, vp_in v4 (xlen sh (xrf sh r0 14)), xRf sh r0 10 14, xA sh (xrf sh r0 14) .int, vp_in (v4 - v2) (xlen sh (xrf sh r0 14))]) (f1 := (25, [some (.ref r0), some (.int v1), some (.int v2), some (.int v3), some (.int v4)], [.int (I (xrf sh r0 14) (v4 - v2).toNatClampNeg), .int (I (xrf sh r0 14) v4.toNatClampNeg)])) (h1 := (sh, I, J)) rfl ⟨e0.rf, e1.ar, e2, e0.rf, e1.ar, e3⟩ (xG_B rfl rfl k1 k2)
set_option maxRecDepth 100000 in
theorem s_M_run_28 {d : Nat} {Q : xO → xH → Prop} {sh : List xS} {I : Nat → Nat → Int32} {J : Nat → Nat → Int64} {r0 : Nat} {v1 : Int32} {v2 : Int32} {v3 : Int32} {v4 : Int32}
    (k : xG d zm_M_run (3, [some (.ref r0), some (.int v1), some (.int v2), some (.int v3), some (.int (v4 + (1 : Int32)))], []) (sh, I, J) Q) :
    xG d zm_M_run (28, [some (.ref r0), some (.int v1), some (.int v2), some (.int v3), some (.int v4)], []) (sh, I, J) Q := by
  exact xG_N 2 (ps := []) (f1 := (3, [some (.ref r0), some (.int v1), some (.int v2), some (.int v3), some (.int (v4 + (1 : Int32)))], [])) (h1 := (sh, I, J)) rfl trivial (k)
set_option maxRecDepth 100000 in
theorem s_M_run_34 {d : Nat} {Q : xO → xH → Prop} {sh : List xS} {I : Nat → Nat → Int32} {J : Nat → Nat → Int64} {r0 : Nat} {v1 : Int32} {v2 : Int32} {v3 : Int32} {v4 : Int32}
    (k : Q (.inl (some (.int (v4 - v1)))) (sh, I, J)) :
    xG d zm_M_run (34, [some (.ref r0), some (.int v1), some (.int v2), some (.int v3), some (.int v4)], []) (sh, I, J) Q := by
  exact xG_N 3 (ps := []) (f1 := (38, [some (.ref r0), some (.int v1), some (.int v2), some (.int v3), some (.int v4)], [.int (v4 - v1)])) (h1 := (sh, I, J)) rfl trivial (xG_Q rfl rfl trivial k)
set_option maxRecDepth 100000 in
theorem s_M_makeUp_0 {d : Nat} {Q : xO → xH → Prop} {sh : List xS} {I : Nat → Nat → Int32} {J : Nat → Nat → Int64} {r0 : Nat} {v1 : Int32}
    (e0 : xOb sh r0 10)
    (k : xG d zm_M_makeUp (7, [some (.ref r0), some (.int v1), some (.int (0 : Int32)), none, none, none, none, none, none], []) (sh, xup I r0 30 (0 : Int32), J) Q) :
    xG d zm_M_makeUp (0, [some (.ref r0), some (.int v1), none, none, none, none, none, none, none], []) (sh, I, J) Q := by
  exact xG_N 5 (ps := [xOb sh r0 10]) (f1 := (7, [some (.ref r0), some (.int v1), some (.int (0 : Int32)), none, none, none, none, none, none], [])) (h1 := (sh, xup I r0 30 (0 : Int32), J)) rfl e0 (k)
set_option maxRecDepth 100000 in
theorem s_M_makeUp_7 {d : Nat} {Q : xO → xH → Prop} {sh : List xS} {I : Nat → Nat → Int32} {J : Nat → Nat → Int64} {r0 : Nat} {v1 : Int32} {v2 : Int32} {o3 : Option Value} {o4 : Option Value} {o5 : Option Value} {o6 : Option Value} {o7 : Option Value} {o8 : Option Value}
    (k1 : v1 ≤ v2 → xG d zm_M_makeUp (310, [some (.ref r0), some (.int v1), some (.int v2), o3, o4, o5, o6, o7, o8], []) (sh, I, J) Q)
    (k2 : ¬ (v1 ≤ v2) → xG d zm_M_makeUp (12, [some (.ref r0), some (.int v1), some (.int v2), o3, o4, o5, o6, o7, o8], []) (sh, I, J) Q) :
    xG d zm_M_makeUp (7, [some (.ref r0), some (.int v1), some (.int v2), o3, o4, o5, o6, o7, o8], []) (sh, I, J) Q := by
  exact xG_N 2 (ps := []) (f1 := (9, [some (.ref r0), some (.int v1), some (.int v2), o3, o4, o5, o6, o7, o8], [.int v1, .int v2])) (h1 := (sh, I, J)) rfl trivial (xG_B rfl rfl k1 k2)
set_option maxRecDepth 100000 in
theorem s_M_makeUp_12 {d : Nat} {Q : xO → xH → Prop} {sh : List xS} {I : Nat → Nat → Int32} {J : Nat → Nat → Int64} {r0 : Nat} {v1 : Int32} {v2 : Int32} {o3 : Option Value} {o4 : Option Value} {o5 : Option Value} {o6 : Option Value} {o7 : Option Value} {o8 : Option Value}
    (k : xG d zm_M_makeUp (20, [some (.ref r0), some (.int v1), some (.int v2), some (.int (0 : Int32)), some (.int (2 : Int32)), some (.int (1 : Int32)), o6, o7, o8], []) (sh, I, J) Q) :
    xG d zm_M_makeUp (12, [some (.ref r0), some (.int v1), some (.int v2), o3, o4, o5, o6, o7, o8], []) (sh, I, J) Q := by
  exact xG_N 6 (ps := []) (f1 := (20, [some (.ref r0), some (.int v1), some (.int v2), some (.int (0 : Int32)), some (.int (2 : Int32)), some (.int (1 : Int32)), o6, o7, o8], [])) (h1 := (sh, I, J)) rfl trivial (k)
set_option maxRecDepth 100000 in
theorem s_M_makeUp_20 {d : Nat} {Q : xO → xH → Prop} {sh : List xS} {I : Nat → Nat → Int32} {J : Nat → Nat → Int64} {r0 : Nat} {v1 : Int32} {v2 : Int32} {v3 : Int32} {v4 : Int32} {v5 : Int32} {o6 : Option Value} {o7 : Option Value} {o8 : Option Value}
    (k1 : v2 < v5 → xG d zm_M_makeUp (72, [some (.ref r0), some (.int v1), some (.int v2), some (.int v3), some (.int v4), some (.int v5), o6, o7, o8], []) (sh, I, J) Q)
    (k2 : ¬ (v2 < v5) → xG d zm_M_makeUp (26, [some (.ref r0), some (.int v1), some (.int v2), some (.int v3), some (.int v4), some (.int v5), o6, o7, o8], []) (sh, I, J) Q) :
    xG d zm_M_makeUp (20, [some (.ref r0), some (.int v1), some (.int v2), some (.int v3), some (.int v4), some (.int v5), o6, o7, o8], []) (sh, I, J) Q := by
  exact xG_N 2 (ps := []) (f1 := (23, [some (.ref r0), some (.int v1), some (.int v2), some (.int v3), some (.int v4), some (.int v5), o6, o7, o8], [.int v2, .int v5])) (h1 := (sh, I, J)) rfl trivial (xG_B rfl rfl k1 k2)
set_option maxRecDepth 100000 in
theorem s_M_makeUp_26 {d : Nat} {Q : xO → xH → Prop} {sh : List xS} {I : Nat → Nat → Int32} {J : Nat → Nat → Int64} {r0 : Nat} {v1 : Int32} {v2 : Int32} {v3 : Int32} {v4 : Int32} {v5 : Int32} {o6 : Option Value} {o7 : Option Value} {o8 : Option Value}
    (ko : xOb sh r0 10)
    (k : xg d qM_run [.ref r0, .int v2, .int v5, .int v1] (sh, I, J) (xI (fun v h1 => xG d zm_M_makeUp (34, [some (.ref r0), some (.int v1), some (.int v2), some (.int v3), some (.int v4), some (.int v5), o6, o7, o8], [.int v]) h1 Q) (fun x h1 => Q (.inr x) h1))) :
    xG d zm_M_makeUp (26, [some (.ref r0), some (.int v1), some (.int v2), some (.int v3), some (.int v4), some (.int v5), o6, o7, o8], []) (sh, I, J) Q := by
  exact xG_N 4 (ps := []) (f1 := (31, [some (.ref r0), some (.int v1), some (.int v2), some (.int v3), some (.int v4), some (.int v5), o6, o7, o8], [.int v1, .int v5, .int v2, .ref r0])) (h1 := (sh, I, J)) rfl trivial (xG_Ci rfl rfl (Nat.le_of_ble_eq_true rfl) (Nat.le_of_ble_eq_true rfl) ⟨_, _, rfl, ko⟩ rfl k)
set_option maxRecDepth 100000 in
theorem s_M_makeUp_34 {d : Nat} {Q : xO → xH → Prop} {sh : List xS} {I : Nat → Nat → Int32} {J : Nat → Nat → Int64} {r0 : Nat} {v1 : Int32} {v2 : Int32} {v3 : Int32} {v4 : Int32} {v5 : Int32} {o6 : Option Value} {o7 : Option Value} {o8 : Option Value} {t0 : Int32}
    (k1 : t0 ≤ v4 → xG d zm_M_makeUp (48, [some (.ref r0), some (.int v1), some (.int v2), some (.int v3), some (.int v4), some (.int v5), some (.int t0), o7, o8], []) (sh, I, J) Q)
    (k2 : ¬ (t0 ≤ v4) → xG d zm_M_makeUp (43, [some (.ref r0), some (.int v1), some (.int v2), some (.int v3), some (.int v4), some (.int v5), some (.int t0), o7, o8], []) (sh, I, J) Q) :
    xG d zm_M_makeUp (34, [some (.ref r0), some (.int v1), some (.int v2), some (.int v3), some (.int v4), some (.int v5), o6, o7, o8], [.int t0]) (sh, I, J) Q := by
  exact xG_N 3 (ps := []) (f1 := (40, [some (.ref r0), some (.int v1), some (.int v2), some (.int v3), some (.int v4), some (.int v5), some (.int t0), o7, o8], [.int v4, .int t0])) (h1 := (sh, I, J)) rfl trivial (xG_B rfl rfl k1 k2)
set_option maxRecDepth 100000 in
theorem s_M_makeUp_43 {d : Nat} {Q : xO → xH → Prop} {sh : List xS} {I : Nat → Nat → Int32} {J : Nat → Nat → Int64} {r0 : Nat} {v1 : Int32} {v2 : Int32} {v3 : Int32} {v4 : Int32} {v5 : Int32} {v6 : Int32} {o7 : Option Value} {o8 : Option Value}
    (k1 : v6 ≤ v4 → xG d zm_M_makeUp (62, [some (.ref r0), some (.int v1), some (.int v2), some (.int v5), some (.int v4), some (.int v5), some (.int v6), o7, o8], []) (sh, I, J) Q)
    (k2 : ¬ (v6 ≤ v4) → xG d zm_M_makeUp (57, [some (.ref r0), some (.int v1), some (.int v2), some (.int v5), some (.int v4), some (.int v5), some (.int v6), o7, o8], []) (sh, I, J) Q) :
    xG d zm_M_makeUp (43, [some (.ref r0), some (.int v1), some (.int v2), some (.int v3), some (.int v4), some (.int v5), some (.int v6), o7, o8], []) (sh, I, J) Q := by
  exact xG_N 5 (ps := []) (f1 := (54, [some (.ref r0), some (.int v1), some (.int v2), some (.int v5), some (.int v4), some (.int v5), some (.int v6), o7, o8], [.int v4, .int v6])) (h1 := (sh, I, J)) rfl trivial (xG_B rfl rfl k1 k2)
set_option maxRecDepth 100000 in
theorem s_M_makeUp_48 {d : Nat} {Q : xO → xH → Prop} {sh : List xS} {I : Nat → Nat → Int32} {J : Nat → Nat → Int64} {r0 : Nat} {v1 : Int32} {v2 : Int32} {v3 : Int32} {v4 : Int32} {v5 : Int32} {v6 : Int32} {o7 : Option Value} {o8 : Option Value}
    (k1 : v6 ≤ v4 → xG d zm_M_makeUp (62, [some (.ref r0), some (.int v1), some (.int v2), some (.int v3), some (.int v4), some (.int v5), some (.int v6), o7, o8], []) (sh, I, J) Q)
    (k2 : ¬ (v6 ≤ v4) → xG d zm_M_makeUp (57, [some (.ref r0), some (.int v1), some (.int v2), some (.int v3), some (.int v4), some (.int v5), some (.int v6), o7, o8], []) (sh, I, J) Q) :
    xG d zm_M_makeUp (48, [some (.ref r0), some (.int v1), some (.int v2), some (.int v3), some (.int v4), some (.int v5), some (.int v6), o7, o8], []) (sh, I, J) Q := by
  exact xG_N 4 (ps := []) (f1 := (54, [some (.ref r0), some (.int v1), some (.int v2), some (.int v3), some (.int v4), some (.int v5), some (.int v6), o7, o8], [.int v4, .int v6])) (h1 := (sh, I, J)) rfl trivial (xG_B rfl rfl k1 k2)
set_option maxRecDepth 100000 in
theorem s_M_makeUp_57 {d : Nat} {Q : xO → xH → Prop} {sh : List xS} {I : Nat → Nat → Int32} {J : Nat → Nat → Int64} {r0 : Nat} {v1 : Int32} {v2 : Int32} {v3 : Int32} {v4 : Int32} {v5 : Int32} {v6 : Int32} {o7 : Option Value} {o8 : Option Value}
    (k : xG d zm_M_makeUp (20, [some (.ref r0), some (.int v1), some (.int v2), some (.int v3), some (.int v6), some (.int (v5 + (1 : Int32))), some (.int v6), o7, o8], []) (sh, I, J) Q) :
    xG d zm_M_makeUp (57, [some (.ref r0), some (.int v1), some (.int v2), some (.int v3), some (.int v4), some (.int v5), some (.int v6), o7, o8], []) (sh, I, J) Q := by
  exact xG_N 5 (ps := []) (f1 := (20, [some (.ref r0), some (.int v1), some (.int v2), some (.int v3), some (.int v6), some (.int (v5 + (1 : Int32))), some (.int v6), o7, o8], [])) (h1 := (sh, I, J)) rfl trivial (k)
set_option maxRecDepth 100000 in
theorem s_M_makeUp_62 {d : Nat} {Q : xO → xH → Prop} {sh : List xS} {I : Nat → Nat → Int32} {J : Nat → Nat → Int64} {r0 : Nat} {v1 : Int32} {v2 : Int32} {v3 : Int32} {v4 : Int32} {v5 : Int32} {v6 : Int32} {o7 : Option Value} {o8 : Option Value}
    (k : xG d zm_M_makeUp (20, [some (.ref r0), some (.int v1), some (.int v2), some (.int v3), some (.int v4), some (.int (v5 + (1 : Int32))), some (.int v6), o7, o8], []) (sh, I, J) Q) :
    xG d zm_M_makeUp (62, [some (.ref r0), some (.int v1), some (.int v2), some (.int v3), some (.int v4), some (.int v5), some (.int v6), o7, o8], []) (sh, I, J) Q := by
  exact xG_N 4 (ps := []) (f1 := (20, [some (.ref r0), some (.int v1), some (.int v2), some (.int v3), some (.int v4), some (.int (v5 + (1 : Int32))), some (.int v6), o7, o8], [])) (h1 := (sh, I, J)) rfl trivial (k)
set_option maxRecDepth 100000 in
theorem s_M_makeUp_72 {d : Nat} {Q : xO → xH → Prop} {sh : List xS} {I : Nat → Nat → Int32} {J : Nat → Nat → Int64} {r0 : Nat} {v1 : Int32} {v2 : Int32} {v3 : Int32} {v4 : Int32} {v5 : Int32} {o6 : Option Value} {o7 : Option Value} {o8 : Option Value}
    (e0 : xOb sh r0 10)
    (k1 : (I r0 19) ≤ 0 → xG d zm_M_makeUp (96, [some (.ref r0), some (.int v1), some (.int v2), some (.int v3), some (.int v4), some (.int v5), o6, o7, o8], []) (sh, I, J) Q)
    (k2 : ¬ ((I r0 19) ≤ 0) → xG d zm_M_makeUp (79, [some (.ref r0), some (.int v1), some (.int v2), some (.int v3), some (.int v4), some (.int v5), o6, o7, o8], []) (sh, I, J) Q) :
    xG d zm_M_makeUp (72, [some (.ref r0), some (.int v1), some (.int v2), some (.int v3), some (.int v4), some (.int v5), o6, o7, o8], []) (sh, I, J) Q := by
  exact xG_N 2 (ps := [xOb sh r0 10]) (f1 := (76, [some (.ref r0), some (.int v1), some (.int v2), some (.int v3), some (.int v4), some (.int v5), o6, o7, o8], [.int (I r0 19)])) (h1 := (sh, I, J)) rfl e0 (xG_B rfl rfl k1 k2)
set_option maxRecDepth 100000 in
theorem s_M_makeUp_79 {d : Nat} {Q : xO → xH → Prop} {sh : List xS} {I : Nat → Nat → Int32} {J : Nat → Nat → Int64} {r0 : Nat} {v1 : Int32} {v2 : Int32} {v3 : Int32} {v4 : Int32} {v5 : Int32} {o6 : Option Value} {o7 : Option Value} {o8 : Option Value} {a1 : Nat} {n2 : Nat}
    (e0 : xRr sh r0 10 14 a1)
    (e1 : xAr sh a1 .int n2)
    (e2 : vp_in v2 n2)
    (k : xg d qM_cachePlace [.ref r0, .int (I a1 v2.toNatClampNeg), .int (I r0 19)] (sh, I, J) (xI (fun v h1 => xG d zm_M_makeUp (93, [some (.ref r0), some (.int v1), some (.int v2), some (.int v3), some (.int v4), some (.int v5), o6, o7, o8], [.int v]) h1 Q) (fun x h1 => Q (.inr x) h1))) :
    xG d zm_M_makeUp (79, [some (.ref r0), some (.int v1), some (.int v2), some (.int v3), some (.int v4), some (.int v5), o6, o7, o8], []) (sh, I, J) Q := by
  obtain rfl := e0.eq
  obtain rfl := e1.eq
  exact xG_N 7 (ps := [xRf sh r0 10 14, xA sh (xrf sh r0 14) .int, vp_in v2 (xlen sh (xrf sh r0 14)), xOb sh r0 10]) (f1 := (90, [some (.ref r0), some (.int v1), some (.int v2), some (.int v3), some (.int v4), some (.int v5), o6, o7, o8], [.int (I r0 19), .int (I (xrf sh r0 14) v2.toNatClampNeg), .ref r0])) (h1 := (sh, I, J)) rfl ⟨e0.rf, e1.ar, e2, e0.ob⟩ (xG_Ci rfl rfl (Nat.le_of_ble_eq_true rfl) (Nat.le_of_ble_eq_true rfl) ⟨_, _, rfl, e0.ob⟩ rfl k)
set_option maxRecDepth 100000 in
theorem s_M_makeUp_93 {d : Nat} {Q : xO → xH → Prop} {sh : List xS} {I : Nat → Nat → Int32} {J : Nat → Nat → Int64} {r0 : Nat} {v1 : Int32} {v2 : Int32} {v3 : Int32} {v4 : Int32} {v5 : Int32} {o6 : Option Value} {o7 : Option Value} {o8 : Option Value} {t0 : Int32}
    (e0 : xOb sh r0 10)
    (k1 : (I r0 19) ≤ 0 → xG d zm_M_makeUp (126, [some (.ref r0), some (.int v1), some (.int v2), some (.int v3), some (.int v4), some (.int t0), o6, o7, o8], []) (sh, I, J) Q)
    (k2 : ¬ ((I r0 19) ≤ 0) → xG d zm_M_makeUp (106, [some (.ref r0), some (.int v1), some (.int v2), some (.int v3), some (.int v4), some (.int t0), o6, o7, o8], []) (sh, I, J) Q) :
    xG d zm_M_makeUp (93, [some (.ref r0), some (.int v1), some (.int v2), some (.int v3), some (.int v4), some (.int v5), o6, o7, o8], [.int t0]) (sh, I, J) Q := by
  exact xG_N 4 (ps := [xOb sh r0 10]) (f1 := (103, [some (.ref r0), some (.int v1), some (.int v2), some (.int v3), some (.int v4), some (.int t0), o6, o7, o8], [.int (I r0 19)])) (h1 := (sh, I, J)) rfl e0 (xG_B rfl rfl k1 k2)
set_option maxRecDepth 100000 in
theorem s_M_makeUp_96 {d : Nat} {Q : xO → xH → Prop} {sh : List xS} {I : Nat → Nat → Int32} {J : Nat → Nat → Int64} {r0 : Nat} {v1 : Int32} {v2 : Int32} {v3 : Int32} {v4 : Int32} {v5 : Int32} {o6 : Option Value} {o7 : Option Value} {o8 : Option Value}
    (e0 : xOb sh r0 10)
    (k1 : (I r0 19) ≤ 0 → xG d zm_M_makeUp (126, [some (.ref r0), some (.int v1), some (.int v2), some (.int v3), some (.int v4), some (.int (0 : Int32)), o6, o7, o8], []) (sh, I, J) Q)
    (k2 : ¬ ((I r0 19) ≤ 0) → xG d zm_M_makeUp (106, [some (.ref r0), some (.int v1), some (.int v2), some (.int v3), some (.int v4), some (.int (0 : Int32)), o6, o7, o8], []) (sh, I, J) Q) :
    xG d zm_M_makeUp (96, [some (.ref r0), some (.int v1), some (.int v2), some (.int v3), some (.int v4), some (.int v5), o6, o7, o8], []) (sh, I, J) Q := by
  exact xG_N 4 (ps := [xOb sh r0 10]) (f1 := (103, [some (.ref r0), some (.int v1), some (.int v2), some (.int v3), some (.int v4), some (.int (0 : Int32)), o6, o7, o8], [.int (I r0 19)])) (h1 := (sh, I, J)) rfl e0 (xG_B rfl rfl k1 k2)
set_option maxRecDepth 100000 in
theorem s_M_makeUp_106 {d : Nat} {Q : xO → xH → Prop} {sh : List xS} {I : Nat → Nat → Int32} {J : Nat → Nat → Int64} {r0 : Nat} {v1 : Int32} {v2 : Int32} {v3 : Int32} {v4 : Int32} {v5 : Int32} {o6 : Option Value} {o7 : Option Value} {o8 : Option Value} {a1 : Nat} {n2 : Nat} {a3 : Nat} {n4 : Nat}
    (e0 : xRr sh r0 10 16 a1)
    (e1 : xAr sh a1 .int n2)
    (e2 : vp_in v5 n2)
    (e3 : xRr sh r0 10 14 a3)
    (e4 : xAr sh a3 .int n4)
    (e5 : vp_in v2 n4)
    (k1 : ¬ (I a1 v5.toNatClampNeg) = (I a3 v2.toNatClampNeg) → xG d zm_M_makeUp (126, [some (.ref r0), some (.int v1), some (.int v2), some (.int v3), some (.int v4), some (.int v5), o6, o7, o8], []) (sh, I, J) Q)
    (k2 : ¬ (¬ (I a1 v5.toNatClampNeg) = (I a3 v2.toNatClampNeg)) → xG d zm_M_makeUp (122, [some (.ref r0), some (.int v1), some (.int v2), some (.int v3), some (.int v4), some (.int v5), o6, o7, o8], []) (sh, I, J) Q) :
    xG d zm_M_makeUp (106, [some (.ref r0), some (.int v1), some (.int v2), some (.int v3), some (.int v4), some (.int v5), o6, o7, o8], []) (sh, I, J) Q := by
  obtain rfl := e0.eq
  obtain rfl := e1.eq
  obtain rfl := e3.eq
  obtain rfl := e4.eq
  exact xG_N 8 (ps := [xRf sh r0 10 16, xA sh (xrf sh r0 16) .int, vp_in v5 (xlen sh (xrf sh r0 16)), xRf sh r0 10 14, xA sh (xrf sh r0 14) .int, vp_in v2 (xlen sh (xrf sh r0 14))]) (f1 := (119, [some (.ref r0), some (.int v1), some (.int v2), some (.int v3), some (.int v4), some (.int v5), o6, o7, o8], [.int (I (xrf sh r0 14) v2.toNatClampNeg), .int (I (xrf sh r0 16) v5.toNatClampNeg)])) (h1 := (sh, I, J)) rfl ⟨e0.rf, e1.ar, e2, e3.rf, e4.ar, e5⟩ (xG_B rfl rfl k1 k2)
set_option maxRecDepth 100000 in
theorem s_M_makeUp_122 {d : Nat} {Q : xO → xH → Prop} {sh : List xS} {I : Nat → Nat → Int32} {J : Nat → Nat → Int64} {r0 : Nat} {v1 : Int32} {v2 : Int32} {v3 : Int32} {v4 : Int32} {v5 : Int32} {o6 : Option Value} {o7 : Option Value} {o8 : Option Value} {a1 : Nat}
    (e0 : xRr sh r0 10 27 a1)
    (k1 : v3 ≤ 0 → xG d zm_M_makeUp (145, [some (.ref r0), some (.int v1), some (.int v2), some (.int v3), some (.int v4), some (.int v5), some (.int (1 : Int32)), o7, o8], [.int (I r0 30), .ref a1]) (sh, I, J) Q)
    (k2 : ¬ (v3 ≤ 0) → xG d zm_M_makeUp (141, [some (.ref r0), some (.int v1), some (.int v2), some (.int v3), some (.int v4), some (.int v5), some (.int (1 : Int32)), o7, o8], [.int (I r0 30), .ref a1]) (sh, I, J) Q) :
    xG d zm_M_makeUp (122, [some (.ref r0), some (.int v1), some (.int v2), some (.int v3), some (.int v4), some (.int v5), o6, o7, o8], []) (sh, I, J) Q := by
  obtain rfl := e0.eq
  exact xG_N 8 (ps := [xRf sh r0 10 27, xOb sh r0 10]) (f1 := (138, [some (.ref r0), some (.int v1), some (.int v2), some (.int v3), some (.int v4), some (.int v5), some (.int (1 : Int32)), o7, o8], [.int v3, .int (I r0 30), .ref (xrf sh r0 27)])) (h1 := (sh, I, J)) rfl ⟨e0.rf, e0.ob⟩ (xG_B rfl rfl k1 k2)
set_option maxRecDepth 100000 in
theorem s_M_makeUp_126 {d : Nat} {Q : xO → xH → Prop} {sh : List xS} {I : Nat → Nat → Int32} {J : Nat → Nat → Int64} {r0 : Nat} {v1 : Int32} {v2 : Int32} {v3 : Int32} {v4 : Int32} {v5 : Int32} {o6 : Option Value} {o7 : Option Value} {o8 : Option Value} {a1 : Nat}
    (e0 : xRr sh r0 10 27 a1)
    (k1 : v3 ≤ 0 → xG d zm_M_makeUp (145, [some (.ref r0), some (.int v1), some (.int v2), some (.int v3), some (.int v4), some (.int v5), some (.int (0 : Int32)), o7, o8], [.int (I r0 30), .ref a1]) (sh, I, J) Q)
    (k2 : ¬ (v3 ≤ 0) → xG d zm_M_makeUp (141, [some (.ref r0), some (.int v1), some (.int v2), some (.int v3), some (.int v4), some (.int v5), some (.int (0 : Int32)), o7, o8], [.int (I r0 30), .ref a1]) (sh, I, J) Q) :
    xG d zm_M_makeUp (126, [some (.ref r0), some (.int v1), some (.int v2), some (.int v3), some (.int v4), some (.int v5), o6, o7, o8], []) (sh, I, J) Q := by
  obtain rfl := e0.eq
  exact xG_N 7 (ps := [xRf sh r0 10 27, xOb sh r0 10]) (f1 := (138, [some (.ref r0), some (.int v1), some (.int v2), some (.int v3), some (.int v4), some (.int v5), some (.int (0 : Int32)), o7, o8], [.int v3, .int (I r0 30), .ref (xrf sh r0 27)])) (h1 := (sh, I, J)) rfl ⟨e0.rf, e0.ob⟩ (xG_B rfl rfl k1 k2)
set_option maxRecDepth 100000 in
theorem s_M_makeUp_141 {d : Nat} {Q : xO → xH → Prop} {sh : List xS} {I : Nat → Nat → Int32} {J : Nat → Nat → Int64} {r0 : Nat} {v1 : Int32} {v2 : Int32} {v3 : Int32} {v4 : Int32} {v5 : Int32} {v6 : Int32} {o7 : Option Value} {o8 : Option Value} {t0 : Nat} {t1 : Int32} {n1 : Nat} {a2 : Nat}
    (e0 : xAr sh t0 .int n1)
    (e1 : 4 ≤ t0)
    (e2 : vp_in t1 n1)
    (e3 : xRr sh r0 10 28 a2)
    (k1 : v3 ≤ 0 → xG d zm_M_makeUp (173, [some (.ref r0), some (.int v1), some (.int v2), some (.int v3), some (.int v4), some (.int v5), some (.int v6), o7, o8], [.int ((xup I t0 t1.toNatClampNeg (1 : Int32)) r0 30), .ref a2]) (sh, xup I t0 t1.toNatClampNeg (1 : Int32), J) Q)
    (k2 : ¬ (v3 ≤ 0) → xG d zm_M_makeUp (168, [some (.ref r0), some (.int v1), some (.int v2), some (.int v3), some (.int v4), some (.int v5), some (.int v6), o7, o8], [.int ((xup I t0 t1.toNatClampNeg (1 : Int32)) r0 30), .ref a2]) (sh, xup I t0 t1.toNatClampNeg (1 : Int32), J) Q) :
    xG d zm_M_makeUp (141, [some (.ref r0), some (.int v1), some (.int v2), some (.int v3), some (.int v4), some (.int v5), some (.int v6), o7, o8], [.int t1, .ref t0]) (sh, I, J) Q := by
  obtain rfl := e0.eq
  obtain rfl := e3.eq
  exact xG_N 8 (ps := [xW sh t0 .int, vp_in t1 (xlen sh t0), xRf sh r0 10 28, xOb sh r0 10]) (f1 := (165, [some (.ref r0), some (.int v1), some (.int v2), some (.int v3), some (.int v4), some (.int v5), some (.int v6), o7, o8], [.int v3, .int ((xup I t0 t1.toNatClampNeg (1 : Int32)) r0 30), .ref (xrf sh r0 28)])) (h1 := (sh, xup I t0 t1.toNatClampNeg (1 : Int32), J)) rfl ⟨⟨e0.ar, e1⟩, e2, e3.rf, e3.ob⟩ (xG_B rfl rfl k1 k2)
set_option maxRecDepth 100000 in
theorem s_M_makeUp_145 {d : Nat} {Q : xO → xH → Prop} {sh : List xS} {I : Nat → Nat → Int32} {J : Nat → Nat → Int64} {r0 : Nat} {v1 : Int32} {v2 : Int32} {v3 : Int32} {v4 : Int32} {v5 : Int32} {v6 : Int32} {o7 : Option Value} {o8 : Option Value} {t0 : Nat} {t1 : Int32}
    (k1 : v6 = 0 → xG d zm_M_makeUp (154, [some (.ref r0), some (.int v1), some (.int v2), some (.int v3), some (.int v4), some (.int v5), some (.int v6), o7, o8], [.int t1, .ref t0]) (sh, I, J) Q)
    (k2 : ¬ (v6 = 0) → xG d zm_M_makeUp (150, [some (.ref r0), some (.int v1), some (.int v2), some (.int v3), some (.int v4), some (.int v5), some (.int v6), o7, o8], [.int t1, .ref t0]) (sh, I, J) Q) :
    xG d zm_M_makeUp (145, [some (.ref r0), some (.int v1), some (.int v2), some (.int v3), some (.int v4), some (.int v5), some (.int v6), o7, o8], [.int t1, .ref t0]) (sh, I, J) Q := by
  exact xG_N 1 (ps := []) (f1 := (147, [some (.ref r0), some (.int v1), some (.int v2), some (.int v3), some (.int v4), some (.int v5), some (.int v6), o7, o8], [.int v6, .int t1, .ref t0])) (h1 := (sh, I, J)) rfl trivial (xG_B rfl rfl k1 k2)
set_option maxRecDepth 100000 in
theorem s_M_makeUp_150 {d : Nat} {Q : xO → xH → Prop} {sh : List xS} {I : Nat → Nat → Int32} {J : Nat → Nat → Int64} {r0 : Nat} {v1 : Int32} {v2 : Int32} {v3 : Int32} {v4 : Int32} {v5 : Int32} {v6 : Int32} {o7 : Option Value} {o8 : Option Value} {t0 : Nat} {t1 : Int32} {n1 : Nat} {a2 : Nat}
    (e0 : xAr sh t0 .int n1)
    (e1 : 4 ≤ t0)
    (e2 : vp_in t1 n1)
    (e3 : xRr sh r0 10 28 a2)
    (k1 : v3 ≤ 0 → xG d zm_M_makeUp (173, [some (.ref r0), some (.int v1), some (.int v2), some (.int v3), some (.int v4), some (.int v5), some (.int v6), o7, o8], [.int ((xup I t0 t1.toNatClampNeg (2 : Int32)) r0 30), .ref a2]) (sh, xup I t0 t1.toNatClampNeg (2 : Int32), J) Q)
    (k2 : ¬ (v3 ≤ 0) → xG d zm_M_makeUp (168, [some (.ref r0), some (.int v1), some (.int v2), some (.int v3), some (.int v4), some (.int v5), some (.int v6), o7, o8], [.int ((xup I t0 t1.toNatClampNeg (2 : Int32)) r0 30), .ref a2]) (sh, xup I t0 t1.toNatClampNeg (2 : Int32), J) Q) :
    xG d zm_M_makeUp (150, [some (.ref r0), some (.int v1), some (.int v2), some (.int v3), some (.int v4), some (.int v5), some (.int v6), o7, o8], [.int t1, .ref t0]) (sh, I, J) Q := by
  obtain rfl := e0.eq
  obtain rfl := e3.eq
  exact xG_N 8 (ps := [xW sh t0 .int, vp_in t1 (xlen sh t0), xRf sh r0 10 28, xOb sh r0 10]) (f1 := (165, [some (.ref r0), some (.int v1), some (.int v2), some (.int v3), some (.int v4), some (.int v5), some (.int v6), o7, o8], [.int v3, .int ((xup I t0 t1.toNatClampNeg (2 : Int32)) r0 30), .ref (xrf sh r0 28)])) (h1 := (sh, xup I t0 t1.toNatClampNeg (2 : Int32), J)) rfl ⟨⟨e0.ar, e1⟩, e2, e3.rf, e3.ob⟩ (xG_B rfl rfl k1 k2)
set_option maxRecDepth 100000 in
theorem s_M_makeUp_154 {d : Nat} {Q : xO → xH → Prop} {sh : List xS} {I : Nat → Nat → Int32} {J : Nat → Nat → Int64} {r0 : Nat} {v1 : Int32} {v2 : Int32} {v3 : Int32} {v4 : Int32} {v5 : Int32} {v6 : Int32} {o7 : Option Value} {o8 : Option Value} {t0 : Nat} {t1 : Int32} {n1 : Nat} {a2 : Nat}
    (e0 : xAr sh t0 .int n1)
    (e1 : 4 ≤ t0)
    (e2 : vp_in t1 n1)
    (e3 : xRr sh r0 10 28 a2)
    (k1 : v3 ≤ 0 → xG d zm_M_makeUp (173, [some (.ref r0), some (.int v1), some (.int v2), some (.int v3), some (.int v4), some (.int v5), some (.int v6), o7, o8], [.int ((xup I t0 t1.toNatClampNeg (0 : Int32)) r0 30), .ref a2]) (sh, xup I t0 t1.toNatClampNeg (0 : Int32), J) Q)
    (k2 : ¬ (v3 ≤ 0) → xG d zm_M_makeUp (168, [some (.ref r0), some (.int v1), some (.int v2), some (.int v3), some (.int v4), some (.int v5), some (.int v6), o7, o8], [.int ((xup I t0 t1.toNatClampNeg (0 : Int32)) r0 30), .ref a2]) (sh, xup I t0 t1.toNatClampNeg (0 : Int32), J) Q) :
    xG d zm_M_makeUp (154, [some (.ref r0), some (.int v1), some (.int v2), some (.int v3), some (.int v4), some (.int v5), some (.int v6), o7, o8], [.int t1, .ref t0]) (sh, I, J) Q := by
  obtain rfl := e0.eq
  obtain rfl := e3.eq
  exact xG_N 7 (ps := [xW sh t0 .int, vp_in t1 (xlen sh t0), xRf sh r0 10 28, xOb sh r0 10]) (f1 := (165, [some (.ref r0), some (.int v1), some (.int v2), some (.int v3), some (.int v4), some (.int v5), some (.int v6), o7, o8], [.int v3, .int ((xup I t0 t1.toNatClampNeg (0 : Int32)) r0 30), .ref (xrf sh r0 28)])) (h1 := (sh, xup I t0 t1.toNatClampNeg (0 : Int32), J)) rfl ⟨⟨e0.ar, e1⟩, e2, e3.rf, e3.ob⟩ (xG_B rfl rfl k1 k2)
set_option maxRecDepth 100000 in
theorem s_M_makeUp_168 {d : Nat} {Q : xO → xH → Prop} {sh : List xS} {I : Nat → Nat → Int32} {J : Nat → Nat → Int64} {r0 : Nat} {v1 : Int32} {v2 : Int32} {v3 : Int32} {v4 : Int32} {v5 : Int32} {v6 : Int32} {o7 : Option Value} {o8 : Option Value} {t0 : Nat} {t1 : Int32} {n1 : Nat} {a2 : Nat} {n3 : Nat}
    (e0 : xAr sh t0 .int n1)
    (e1 : 4 ≤ t0)
    (e2 : vp_in t1 n1)
    (e3 : xRr sh r0 10 29 a2)
    (e4 : xAr sh a2 .int n3)
    (e5 : 4 ≤ a2)
    (e6 : vp_in ((xup I t0 t1.toNatClampNeg v4) r0 30) n3)
    (k1 : v3 ≤ 0 → xG d zm_M_makeUp (214, [some (.ref r0), some (.int v1), some (.int v2), some (.int v3), some (.int v4), some (.int v5), some (.int v6), o7, o8], [.ref r0]) (sh, xup (xup I t0 t1.toNatClampNeg v4) a2 ((xup I t0 t1.toNatClampNeg v4) r0 30).toNatClampNeg v3, J) Q)
    (k2 : ¬ (v3 ≤ 0) → xG d zm_M_makeUp (205, [some (.ref r0), some (.int v1), some (.int v2), some (.int v3), some (.int v4), some (.int v5), some (.int v6), o7, o8], [.ref r0]) (sh, xup (xup I t0 t1.toNatClampNeg v4) a2 ((xup I t0 t1.toNatClampNeg v4) r0 30).toNatClampNeg v3, J) Q) :
    xG d zm_M_makeUp (168, [some (.ref r0), some (.int v1), some (.int v2), some (.int v3), some (.int v4), some (.int v5), some (.int v6), o7, o8], [.int t1, .ref t0]) (sh, I, J) Q := by
  obtain rfl := e0.eq
  obtain rfl := e3.eq
  obtain rfl := e4.eq
  exact xG_N 11 (ps := [xW sh t0 .int, vp_in t1 (xlen sh t0), xRf sh r0 10 29, xOb sh r0 10, xW sh (xrf sh r0 29) .int, vp_in ((xup I t0 t1.toNatClampNeg v4) r0 30) (xlen sh (xrf sh r0 29))]) (f1 := (202, [some (.ref r0), some (.int v1), some (.int v2), some (.int v3), some (.int v4), some (.int v5), some (.int v6), o7, o8], [.int v3, .ref r0])) (h1 := (sh, xup (xup I t0 t1.toNatClampNeg v4) (xrf sh r0 29) ((xup I t0 t1.toNatClampNeg v4) r0 30).toNatClampNeg v3, J)) rfl ⟨⟨e0.ar, e1⟩, e2, e3.rf, e3.ob, ⟨e4.ar, e5⟩, e6⟩ (xG_B rfl rfl k1 k2)
set_option maxRecDepth 100000 in
theorem s_M_makeUp_173 {d : Nat} {Q : xO → xH → Prop} {sh : List xS} {I : Nat → Nat → Int32} {J : Nat → Nat → Int64} {r0 : Nat} {v1 : Int32} {v2 : Int32} {v3 : Int32} {v4 : Int32} {v5 : Int32} {v6 : Int32} {o7 : Option Value} {o8 : Option Value} {t0 : Nat} {t1 : Int32}
    (k1 : v6 = 0 → xG d zm_M_makeUp (183, [some (.ref r0), some (.int v1), some (.int v2), some (.int v3), some (.int v4), some (.int v5), some (.int v6), o7, o8], [.int t1, .ref t0]) (sh, I, J) Q)
    (k2 : ¬ (v6 = 0) → xG d zm_M_makeUp (178, [some (.ref r0), some (.int v1), some (.int v2), some (.int v3), some (.int v4), some (.int v5), some (.int v6), o7, o8], [.int t1, .ref t0]) (sh, I, J) Q) :
    xG d zm_M_makeUp (173, [some (.ref r0), some (.int v1), some (.int v2), some (.int v3), some (.int v4), some (.int v5), some (.int v6), o7, o8], [.int t1, .ref t0]) (sh, I, J) Q := by
  exact xG_N 1 (ps := []) (f1 := (175, [some (.ref r0), some (.int v1), some (.int v2), some (.int v3), some (.int v4), some (.int v5), some (.int v6), o7, o8], [.int v6, .int t1, .ref t0])) (h1 := (sh, I, J)) rfl trivial (xG_B rfl rfl k1 k2)
set_option maxRecDepth 100000 in
theorem s_M_makeUp_178 {d : Nat} {Q : xO → xH → Prop} {sh : List xS} {I : Nat → Nat → Int32} {J : Nat → Nat → Int64} {r0 : Nat} {v1 : Int32} {v2 : Int32} {v3 : Int32} {v4 : Int32} {v5 : Int32} {v6 : Int32} {o7 : Option Value} {o8 : Option Value} {t0 : Nat} {t1 : Int32} {n1 : Nat} {a2 : Nat} {n3 : Nat}
    (e0 : xAr sh t0 .int n1)
    (e1 : 4 ≤ t0)
    (e2 : vp_in t1 n1)
    (e3 : xRr sh r0 10 29 a2)
    (e4 : xAr sh a2 .int n3)
    (e5 : 4 ≤ a2)
    (e6 : vp_in ((xup I t0 t1.toNatClampNeg v5) r0 30) n3)
    (k1 : v3 ≤ 0 → xG d zm_M_makeUp (214, [some (.ref r0), some (.int v1), some (.int v2), some (.int v3), some (.int v4), some (.int v5), some (.int v6), o7, o8], [.ref r0]) (sh, xup (xup I t0 t1.toNatClampNeg v5) a2 ((xup I t0 t1.toNatClampNeg v5) r0 30).toNatClampNeg v3, J) Q)
    (k2 : ¬ (v3 ≤ 0) → xG d zm_M_makeUp (205, [some (.ref r0), some (.int v1), some (.int v2), some (.int v3), some (.int v4), some (.int v5), some (.int v6), o7, o8], [.ref r0]) (sh, xup (xup I t0 t1.toNatClampNeg v5) a2 ((xup I t0 t1.toNatClampNeg v5) r0 30).toNatClampNeg v3, J) Q) :
    xG d zm_M_makeUp (178, [some (.ref r0), some (.int v1), some (.int v2), some (.int v3), some (.int v4), some (.int v5), some (.int v6), o7, o8], [.int t1, .ref t0]) (sh, I, J) Q := by
  obtain rfl := e0.eq
  obtain rfl := e3.eq
  obtain rfl := e4.eq
  exact xG_N 11 (ps := [xW sh t0 .int, vp_in t1 (xlen sh t0), xRf sh r0 10 29, xOb sh r0 10, xW sh (xrf sh r0 29) .int, vp_in ((xup I t0 t1.toNatClampNeg v5) r0 30) (xlen sh (xrf sh r0 29))]) (f1 := (202, [some (.ref r0), some (.int v1), some (.int v2), some (.int v3), some (.int v4), some (.int v5), some (.int v6), o7, o8], [.int v3, .ref r0])) (h1 := (sh, xup (xup I t0 t1.toNatClampNeg v5) (xrf sh r0 29) ((xup I t0 t1.toNatClampNeg v5) r0 30).toNatClampNeg v3, J)) rfl ⟨⟨e0.ar, e1⟩, e2, e3.rf, e3.ob, ⟨e4.ar, e5⟩, e6⟩ (xG_B rfl rfl k1 k2)
set_option maxRecDepth 100000 in
theorem s_M_makeUp_183 {d : Nat} {Q : xO → xH → Prop} {sh : List xS} {I : Nat → Nat → Int32} {J : Nat → Nat → Int64} {r0 : Nat} {v1 : Int32} {v2 : Int32} {v3 : Int32} {v4 : Int32} {v5 : Int32} {v6 : Int32} {o7 : Option Value} {o8 : Option Value} {t0 : Nat} {t1 : Int32} {a1 : Nat} {n2 : Nat} {n3 : Nat} {a4 : Nat} {n5 : Nat}
    (e0 : xRr sh r0 10 14 a1)
    (e1 : xAr sh a1 .int n2)
    (e2 : vp_in v2 n2)
    (e3 : xAr sh t0 .int n3)
    (e4 : 4 ≤ t0)
    (e5 : vp_in t1 n3)
    (e6 : xRr sh r0 10 29 a4)
    (e7 : xAr sh a4 .int n5)
    (e8 : 4 ≤ a4)
    (e9 : vp_in ((xup I t0 t1.toNatClampNeg (I a1 v2.toNatClampNeg)) r0 30) n5)
    (k1 : v3 ≤ 0 → xG d zm_M_makeUp (214, [some (.ref r0), some (.int v1), some (.int v2), some (.int v3), some (.int v4), some (.int v5), some (.int v6), o7, o8], [.ref r0]) (sh, xup (xup I t0 t1.toNatClampNeg (I a1 v2.toNatClampNeg)) a4 ((xup I t0 t1.toNatClampNeg (I a1 v2.toNatClampNeg)) r0 30).toNatClampNeg v3, J) Q)
    (k2 : ¬ (v3 ≤ 0) → xG d zm_M_makeUp (205, [some (.ref r0), some (.int v1), some (.int v2), some (.int v3), some (.int v4), some (.int v5), some (.int v6), o7, o8], [.ref r0]) (sh, xup (xup I t0 t1.toNatClampNeg (I a1 v2.toNatClampNeg)) a4 ((xup I t0 t1.toNatClampNeg (I a1 v2.toNatClampNeg)) r0 30).toNatClampNeg v3, J) Q) :
    xG d zm_M_makeUp (183, [some (.ref r0), some (.int v1), some (.int v2), some (.int v3), some (.int v4), some (.int v5), some (.int v6), o7, o8], [.int t1, .ref t0]) (sh, I, J) Q := by
  obtain rfl := e0.eq
  obtain rfl := e1.eq
  obtain rfl := e3.eq
  obtain rfl := e6.eq
  obtain rfl := e7.eq
  exact xG_N 13 (ps := [xRf sh r0 10 14, xA sh (xrf sh r0 14) .int, vp_in v2 (xlen sh (xrf sh r0 14)), xW sh t0 .int, vp_in t1 (xlen sh t0), xRf sh r0 10 29, xOb sh r0 10, xW sh (xrf sh r0 29) .int, vp_in ((xup I t0 t1.toNatClampNeg (I (xrf sh r0 14) v2.toNatClampNeg)) r0 30) (xlen sh (xrf sh r0 29))]) (f1 := (202, [some (.ref r0), some (.int v1), some (.int v2), some (.int v3), some (.int v4), some (.int v5), some (.int v6), o7, o8], [.int v3, .ref r0])) (h1 := (sh, xup (xup I t0 t1.toNatClampNeg (I (xrf sh r0 14) v2.toNatClampNeg)) (xrf sh r0 29) ((xup I t0 t1.toNatClampNeg (I (xrf sh r0 14) v2.toNatClampNeg)) r0 30).toNatClampNeg v3, J)) rfl ⟨e0.rf, e1.ar, e2, ⟨e3.ar, e4⟩, e5, e6.rf, e0.ob, ⟨e7.ar, e8⟩, e9⟩ (xG_B rfl rfl k1 k2)
set_option maxRecDepth 100000 in
theorem s_M_makeUp_205 {d : Nat} {Q : xO → xH → Prop} {sh : List xS} {I : Nat → Nat → Int32} {J : Nat → Nat → Int64} {r0 : Nat} {v1 : Int32} {v2 : Int32} {v3 : Int32} {v4 : Int32} {v5 : Int32} {v6 : Int32} {o7 : Option Value} {o8 : Option Value} {t0 : Nat}
    (e0 : xOb sh r0 10)
    (e1 : xOb sh t0 10)
    (k1 : ¬ v3 = 0 → xG d zm_M_makeUp (240, [some (.ref r0), some (.int v1), some (.int v2), some (.int v3), some (.int v4), some (.int v5), some (.int v6), o7, o8], [.ref r0]) (sh, xup I t0 17 ((I r0 17) + (1 : Int32)), J) Q)
    (k2 : ¬ (¬ v3 = 0) → xG d zm_M_makeUp (226, [some (.ref r0), some (.int v1), some (.int v2), some (.int v3), some (.int v4), some (.int v5), some (.int v6), o7, o8], [.ref r0]) (sh, xup I t0 17 ((I r0 17) + (1 : Int32)), J) Q) :
    xG d zm_M_makeUp (205, [some (.ref r0), some (.int v1), some (.int v2), some (.int v3), some (.int v4), some (.int v5), some (.int v6), o7, o8], [.ref t0]) (sh, I, J) Q := by
  exact xG_N 8 (ps := [xOb sh r0 10, xOb sh t0 10]) (f1 := (223, [some (.ref r0), some (.int v1), some (.int v2), some (.int v3), some (.int v4), some (.int v5), some (.int v6), o7, o8], [.int v3, .ref r0])) (h1 := (sh, xup I t0 17 ((I r0 17) + (1 : Int32)), J)) rfl ⟨e0, e1⟩ (xG_B rfl rfl k1 k2)
set_option maxRecDepth 100000 in
theorem s_M_makeUp_214 {d : Nat} {Q : xO → xH → Prop} {sh : List xS} {I : Nat → Nat → Int32} {J : Nat → Nat → Int64} {r0 : Nat} {v1 : Int32} {v2 : Int32} {v3 : Int32} {v4 : Int32} {v5 : Int32} {v6 : Int32} {o7 : Option Value} {o8 : Option Value} {t0 : Nat}
    (e0 : xOb sh r0 10)
    (e1 : xOb sh t0 10)
    (k1 : ¬ v3 = 0 → xG d zm_M_makeUp (240, [some (.ref r0), some (.int v1), some (.int v2), some (.int v3), some (.int v4), some (.int v5), some (.int v6), o7, o8], [.ref r0]) (sh, xup I t0 17 (I r0 17), J) Q)
    (k2 : ¬ (¬ v3 = 0) → xG d zm_M_makeUp (226, [some (.ref r0), some (.int v1), some (.int v2), some (.int v3), some (.int v4), some (.int v5), some (.int v6), o7, o8], [.ref r0]) (sh, xup I t0 17 (I r0 17), J) Q) :
    xG d zm_M_makeUp (214, [some (.ref r0), some (.int v1), some (.int v2), some (.int v3), some (.int v4), some (.int v5), some (.int v6), o7, o8], [.ref t0]) (sh, I, J) Q := by
  exact xG_N 5 (ps := [xOb sh r0 10, xOb sh t0 10]) (f1 := (223, [some (.ref r0), some (.int v1), some (.int v2), some (.int v3), some (.int v4), some (.int v5), some (.int v6), o7, o8], [.int v3, .ref r0])) (h1 := (sh, xup I t0 17 (I r0 17), J)) rfl ⟨e0, e1⟩ (xG_B rfl rfl k1 k2)
set_option maxRecDepth 100000 in
theorem s_M_makeUp_226 {d : Nat} {Q : xO → xH → Prop} {sh : List xS} {I : Nat → Nat → Int32} {J : Nat → Nat → Int64} {r0 : Nat} {v1 : Int32} {v2 : Int32} {v3 : Int32} {v4 : Int32} {v5 : Int32} {v6 : Int32} {o7 : Option Value} {o8 : Option Value} {t0 : Nat}
    (k1 : v6 = 0 → xG d zm_M_makeUp (240, [some (.ref r0), some (.int v1), some (.int v2), some (.int v3), some (.int v4), some (.int v5), some (.int v6), o7, o8], [.ref t0]) (sh, I, J) Q)
    (k2 : ¬ (v6 = 0) → xG d zm_M_makeUp (231, [some (.ref r0), some (.int v1), some (.int v2), some (.int v3), some (.int v4), some (.int v5), some (.int v6), o7, o8], [.ref t0]) (sh, I, J) Q) :
    xG d zm_M_makeUp (226, [some (.ref r0), some (.int v1), some (.int v2), some (.int v3), some (.int v4), some (.int v5), some (.int v6), o7, o8], [.ref t0]) (sh, I, J) Q := by
  exact xG_N 1 (ps := []) (f1 := (228, [some (.ref r0), some (.int v1), some (.int v2), some (.int v3), some (.int v4), some (.int v5), some (.int v6), o7, o8], [.int v6, .ref t0])) (h1 := (sh, I, J)) rfl trivial (xG_B rfl rfl k1 k2)
set_option maxRecDepth 100000 in
theorem s_M_makeUp_231 {d : Nat} {Q : xO → xH → Prop} {sh : List xS} {I : Nat → Nat → Int32} {J : Nat → Nat → Int64} {r0 : Nat} {v1 : Int32} {v2 : Int32} {v3 : Int32} {v4 : Int32} {v5 : Int32} {v6 : Int32} {o7 : Option Value} {o8 : Option Value} {t0 : Nat}
    (e0 : xOb sh r0 10)
    (e1 : xOb sh t0 10)
    (k1 : v3 ≤ 0 → xG d zm_M_makeUp (256, [some (.ref r0), some (.int v1), some (.int v2), some (.int v3), some (.int v4), some (.int v5), some (.int v6), o7, o8], []) (sh, xup I t0 18 ((I r0 18) + (1 : Int32)), J) Q)
    (k2 : ¬ (v3 ≤ 0) → xG d zm_M_makeUp (251, [some (.ref r0), some (.int v1), some (.int v2), some (.int v3), some (.int v4), some (.int v5), some (.int v6), o7, o8], []) (sh, xup I t0 18 ((I r0 18) + (1 : Int32)), J) Q) :
    xG d zm_M_makeUp (231, [some (.ref r0), some (.int v1), some (.int v2), some (.int v3), some (.int v4), some (.int v5), some (.int v6), o7, o8], [.ref t0]) (sh, I, J) Q := by
  exact xG_N 7 (ps := [xOb sh r0 10, xOb sh t0 10]) (f1 := (248, [some (.ref r0), some (.int v1), some (.int v2), some (.int v3), some (.int v4), some (.int v5), some (.int v6), o7, o8], [.int v3])) (h1 := (sh, xup I t0 18 ((I r0 18) + (1 : Int32)), J)) rfl ⟨e0, e1⟩ (xG_B rfl rfl k1 k2)
set_option maxRecDepth 100000 in
theorem s_M_makeUp_240 {d : Nat} {Q : xO → xH → Prop} {sh : List xS} {I : Nat → Nat → Int32} {J : Nat → Nat → Int64} {r0 : Nat} {v1 : Int32} {v2 : Int32} {v3 : Int32} {v4 : Int32} {v5 : Int32} {v6 : Int32} {o7 : Option Value} {o8 : Option Value} {t0 : Nat}
    (e0 : xOb sh r0 10)
    (e1 : xOb sh t0 10)
    (k1 : v3 ≤ 0 → xG d zm_M_makeUp (256, [some (.ref r0), some (.int v1), some (.int v2), some (.int v3), some (.int v4), some (.int v5), some (.int v6), o7, o8], []) (sh, xup I t0 18 (I r0 18), J) Q)
    (k2 : ¬ (v3 ≤ 0) → xG d zm_M_makeUp (251, [some (.ref r0), some (.int v1), some (.int v2), some (.int v3), some (.int v4), some (.int v5), some (.int v6), o7, o8], []) (sh, xup I t0 18 (I r0 18), J) Q) :
    xG d zm_M_makeUp (240, [some (.ref r0), some (.int v1), some (.int v2), some (.int v3), some (.int v4), some (.int v5), some (.int v6), o7, o8], [.ref t0]) (sh, I, J) Q := by
  exact xG_N 4 (ps := [xOb sh r0 10, xOb sh t0 10]) (f1 := (248, [some (.ref r0), some (.int v1), some (.int v2), some (.int v3), some (.int v4), some (.int v5), some (.int v6), o7, o8], [.int v3])) (h1 := (sh, xup I t0 18 (I r0 18), J)) rfl ⟨e0, e1⟩ (xG_B rfl rfl k1 k2)
set_option maxRecDepth 100000 in
theorem s_M_makeUp_251 {d : Nat} {Q : xO → xH → Prop} {sh : List xS} {I : Nat → Nat → Int32} {J : Nat → Nat → Int64} {r0 : Nat} {v1 : Int32} {v2 : Int32} {v3 : Int32} {v4 : Int32} {v5 : Int32} {v6 : Int32} {o7 : Option Value} {o8 : Option Value}
    (k : xG d zm_M_makeUp (262, [some (.ref r0), some (.int v1), some (.int v2), some (.int v3), some (.int v4), some (.int v5), some (.int v6), some (.int v4), some (.int (0 : Int32))], []) (sh, I, J) Q) :
    xG d zm_M_makeUp (251, [some (.ref r0), some (.int v1), some (.int v2), some (.int v3), some (.int v4), some (.int v5), some (.int v6), o7, o8], []) (sh, I, J) Q := by
  exact xG_N 5 (ps := []) (f1 := (262, [some (.ref r0), some (.int v1), some (.int v2), some (.int v3), some (.int v4), some (.int v5), some (.int v6), some (.int v4), some (.int (0 : Int32))], [])) (h1 := (sh, I, J)) rfl trivial (k)
set_option maxRecDepth 100000 in
theorem s_M_makeUp_256 {d : Nat} {Q : xO → xH → Prop} {sh : List xS} {I : Nat → Nat → Int32} {J : Nat → Nat → Int64} {r0 : Nat} {v1 : Int32} {v2 : Int32} {v3 : Int32} {v4 : Int32} {v5 : Int32} {v6 : Int32} {o7 : Option Value} {o8 : Option Value}
    (k : xG d zm_M_makeUp (262, [some (.ref r0), some (.int v1), some (.int v2), some (.int v3), some (.int v4), some (.int v5), some (.int v6), some (.int (1 : Int32)), some (.int (0 : Int32))], []) (sh, I, J) Q) :
    xG d zm_M_makeUp (256, [some (.ref r0), some (.int v1), some (.int v2), some (.int v3), some (.int v4), some (.int v5), some (.int v6), o7, o8], []) (sh, I, J) Q := by
  exact xG_N 4 (ps := []) (f1 := (262, [some (.ref r0), some (.int v1), some (.int v2), some (.int v3), some (.int v4), some (.int v5), some (.int v6), some (.int (1 : Int32)), some (.int (0 : Int32))], [])) (h1 := (sh, I, J)) rfl trivial (k)
set_option maxRecDepth 100000 in
theorem s_M_makeUp_262 {d : Nat} {Q : xO → xH → Prop} {sh : List xS} {I : Nat → Nat → Int32} {J : Nat → Nat → Int64} {r0 : Nat} {v1 : Int32} {v2 : Int32} {v3 : Int32} {v4 : Int32} {v5 : Int32} {v6 : Int32} {v7 : Int32} {v8 : Int32}
    (k1 : v7 ≤ v8 → xG d zm_M_makeUp (292, [some (.ref r0), some (.int v1), some (.int v2), some (.int v3), some (.int v4), some (.int v5), some (.int v6), some (.int v7), some (.int v8)], []) (sh, I, J) Q)
    (k2 : ¬ (v7 ≤ v8) → xG d zm_M_makeUp (269, [some (.ref r0), some (.int v1), some (.int v2), some (.int v3), some (.int v4), some (.int v5), some (.int v6), some (.int v7), some (.int v8)], []) (sh, I, J) Q) :
    xG d zm_M_makeUp (262, [some (.ref r0), some (.int v1), some (.int v2), some (.int v3), some (.int v4), some (.int v5), some (.int v6), some (.int v7), some (.int v8)], []) (sh, I, J) Q := by
  exact xG_N 2 (ps := []) (f1 := (266, [some (.ref r0), some (.int v1), some (.int v2), some (.int v3), some (.int v4), some (.int v5), some (.int v6), some (.int v7), some (.int v8)], [.int v7, .int v8])) (h1 := (sh, I, J)) rfl trivial (xG_B rfl rfl k1 k2)
set_option maxRecDepth 100000 in
theorem s_M_makeUp_269 {d : Nat} {Q : xO → xH → Prop} {sh : List xS} {I : Nat → Nat → Int32} {J : Nat → Nat → Int64} {r0 : Nat} {v1 : Int32} {v2 : Int32} {v3 : Int32} {v4 : Int32} {v5 : Int32} {v6 : Int32} {v7 : Int32} {v8 : Int32} {a1 : Nat} {n2 : Nat}
    (e0 : xRr sh r0 10 14 a1)
    (e1 : xAr sh a1 .int n2)
    (e2 : vp_in (v2 + v8) n2)
    (k : xg d qM_come [.ref r0, .int (v2 + v8), .int (I a1 (v2 + v8).toNatClampNeg)] (sh, I, J) (xU (fun h1 => xG d zm_M_makeUp (286, [some (.ref r0), some (.int v1), some (.int v2), some (.int v3), some (.int v4), some (.int v5), some (.int v6), some (.int v7), some (.int v8)], []) h1 Q) (fun x h1 => Q (.inr x) h1))) :
    xG d zm_M_makeUp (269, [some (.ref r0), some (.int v1), some (.int v2), some (.int v3), some (.int v4), some (.int v5), some (.int v6), some (.int v7), some (.int v8)], []) (sh, I, J) Q := by
  obtain rfl := e0.eq
  obtain rfl := e1.eq
  exact xG_N 10 (ps := [xRf sh r0 10 14, xA sh (xrf sh r0 14) .int, vp_in (v2 + v8) (xlen sh (xrf sh r0 14))]) (f1 := (283, [some (.ref r0), some (.int v1), some (.int v2), some (.int v3), some (.int v4), some (.int v5), some (.int v6), some (.int v7), some (.int v8)], [.int (I (xrf sh r0 14) (v2 + v8).toNatClampNeg), .int (v2 + v8), .ref r0])) (h1 := (sh, I, J)) rfl ⟨e0.rf, e1.ar, e2⟩ (xG_Cu rfl rfl (Nat.le_of_ble_eq_true rfl) (Nat.le_of_ble_eq_true rfl) ⟨_, _, rfl, e0.ob⟩ rfl k)
set_option maxRecDepth 100000 in
theorem s_M_makeUp_286 {d : Nat} {Q : xO → xH → Prop} {sh : List xS} {I : Nat → Nat → Int32} {J : Nat → Nat → Int64} {r0 : Nat} {v1 : Int32} {v2 : Int32} {v3 : Int32} {v4 : Int32} {v5 : Int32} {v6 : Int32} {v7 : Int32} {v8 : Int32}
    (k : xG d zm_M_makeUp (262, [some (.ref r0), some (.int v1), some (.int v2), some (.int v3), some (.int v4), some (.int v5), some (.int v6), some (.int v7), some (.int (v8 + (1 : Int32)))], []) (sh, I, J) Q) :
    xG d zm_M_makeUp (286, [some (.ref r0), some (.int v1), some (.int v2), some (.int v3), some (.int v4), some (.int v5), some (.int v6), some (.int v7), some (.int v8)], []) (sh, I, J) Q := by
  exact xG_N 2 (ps := []) (f1 := (262, [some (.ref r0), some (.int v1), some (.int v2), some (.int v3), some (.int v4), some (.int v5), some (.int v6), some (.int v7), some (.int (v8 + (1 : Int32)))], [])) (h1 := (sh, I, J)) rfl trivial (k)
set_option maxRecDepth 100000 in
theorem s_M_makeUp_292 {d : Nat} {Q : xO → xH → Prop} {sh : List xS} {I : Nat → Nat → Int32} {J : Nat → Nat → Int64} {r0 : Nat} {v1 : Int32} {v2 : Int32} {v3 : Int32} {v4 : Int32} {v5 : Int32} {v6 : Int32} {v7 : Int32} {v8 : Int32}
    (e0 : xOb sh r0 10)
    (k : xG d zm_M_makeUp (7, [some (.ref r0), some (.int v1), some (.int (v2 + v7)), some (.int v3), some (.int v4), some (.int v5), some (.int v6), some (.int v7), some (.int v8)], []) (sh, xup I r0 30 ((I r0 30) + (1 : Int32)), J) Q) :
    xG d zm_M_makeUp (292, [some (.ref r0), some (.int v1), some (.int v2), some (.int v3), some (.int v4), some (.int v5), some (.int v6), some (.int v7), some (.int v8)], []) (sh, I, J) Q := by
  exact xG_N 11 (ps := [xOb sh r0 10, xOb sh r0 10]) (f1 := (7, [some (.ref r0), some (.int v1), some (.int (v2 + v7)), some (.int v3), some (.int v4), some (.int v5), some (.int v6), some (.int v7), some (.int v8)], [])) (h1 := (sh, xup I r0 30 ((I r0 30) + (1 : Int32)), J)) rfl ⟨e0, e0⟩ (k)
set_option maxRecDepth 100000 in
theorem s_M_makeUp_310 {d : Nat} {Q : xO → xH → Prop} {sh : List xS} {I : Nat → Nat → Int32} {J : Nat → Nat → Int64} {r0 : Nat} {v1 : Int32} {v2 : Int32} {o3 : Option Value} {o4 : Option Value} {o5 : Option Value} {o6 : Option Value} {o7 : Option Value} {o8 : Option Value}
    (k : Q (.inl (none)) (sh, I, J)) :
    xG d zm_M_makeUp (310, [some (.ref r0), some (.int v1), some (.int v2), o3, o4, o5, o6, o7, o8], []) (sh, I, J) Q := by
  exact xG_Q rfl rfl trivial k
set_option maxRecDepth 100000 in
theorem s_M_use_0 {d : Nat} {Q : xO → xH → Prop} {sh : List xS} {I : Nat → Nat → Int32} {J : Nat → Nat → Int64} {r0 : Nat} {v1 : Int32} {v2 : Int32} {a1 : Nat}
    (e0 : xRr sh r0 10 11 a1)
    (k : xg d qM_base [.int v1] (sh, I, J) (xI (fun v h1 => xG d zm_M_use (8, [some (.ref r0), some (.int v1), some (.int v2)], [.int v, .ref a1]) h1 Q) (fun x h1 => Q (.inr x) h1))) :
    xG d zm_M_use (0, [some (.ref r0), some (.int v1), some (.int v2)], []) (sh, I, J) Q := by
  obtain rfl := e0.eq
  exact xG_N 3 (ps := [xRf sh r0 10 11]) (f1 := (5, [some (.ref r0), some (.int v1), some (.int v2)], [.int v1, .ref (xrf sh r0 11)])) (h1 := (sh, I, J)) rfl e0.rf (xG_Ci rfl rfl (Nat.le_of_ble_eq_true rfl) (Nat.le_of_ble_eq_true rfl) trivial rfl k)
set_option maxRecDepth 100000 in
theorem s_M_use_8 {d : Nat} {Q : xO → xH → Prop} {sh : List xS} {I : Nat → Nat → Int32} {J : Nat → Nat → Int64} {r0 : Nat} {v1 : Int32} {v2 : Int32} {t0 : Nat} {t1 : Int32} {n1 : Nat}
    (e0 : xAr sh t0 .boolean n1)
    (e1 : 4 ≤ t0)
    (e2 : vp_in (t1 + v2) n1)
    (k : Q (.inl (none)) (sh, xup I t0 (t1 + v2).toNatClampNeg (1 : Int32), J)) :
    xG d zm_M_use (8, [some (.ref r0), some (.int v1), some (.int v2)], [.int t1, .ref t0]) (sh, I, J) Q := by
  obtain rfl := e0.eq
  exact xG_N 4 (ps := [xW sh t0 .boolean, vp_in (t1 + v2) (xlen sh t0), ((1 : Int32) : Int32) = 0 ∨ ((1 : Int32) : Int32) = 1]) (f1 := (12, [some (.ref r0), some (.int v1), some (.int v2)], [])) (h1 := (sh, xup I t0 (t1 + v2).toNatClampNeg (1 : Int32), J)) rfl ⟨⟨e0.ar, e1⟩, e2, (show ((1 : Int32) : Int32) = 0 ∨ ((1 : Int32) : Int32) = 1 by decide)⟩ (xG_Q rfl rfl trivial k)
set_option maxRecDepth 100000 in
theorem s_M_useAll_0 {d : Nat} {Q : xO → xH → Prop} {sh : List xS} {I : Nat → Nat → Int32} {J : Nat → Nat → Int64} {r0 : Nat}
    (k : xG d zm_M_useAll (2, [some (.ref r0), some (.int (0 : Int32))], []) (sh, I, J) Q) :
    xG d zm_M_useAll (0, [some (.ref r0), none], []) (sh, I, J) Q := by
  exact xG_N 2 (ps := []) (f1 := (2, [some (.ref r0), some (.int (0 : Int32))], [])) (h1 := (sh, I, J)) rfl trivial (k)
set_option maxRecDepth 100000 in
theorem s_M_useAll_2 {d : Nat} {Q : xO → xH → Prop} {sh : List xS} {I : Nat → Nat → Int32} {J : Nat → Nat → Int64} {r0 : Nat} {v1 : Int32}
    (k1 : (1104 : Int32) ≤ v1 → xG d zm_M_useAll (22, [some (.ref r0), some (.int v1)], []) (sh, I, J) Q)
    (k2 : ¬ ((1104 : Int32) ≤ v1) → xG d zm_M_useAll (9, [some (.ref r0), some (.int v1)], []) (sh, I, J) Q) :
    xG d zm_M_useAll (2, [some (.ref r0), some (.int v1)], []) (sh, I, J) Q := by
  exact xG_N 2 (ps := []) (f1 := (6, [some (.ref r0), some (.int v1)], [.int (1104 : Int32), .int v1])) (h1 := (sh, I, J)) rfl trivial (xG_B rfl rfl k1 k2)
set_option maxRecDepth 100000 in
theorem s_M_useAll_9 {d : Nat} {Q : xO → xH → Prop} {sh : List xS} {I : Nat → Nat → Int32} {J : Nat → Nat → Int64} {r0 : Nat} {v1 : Int32} {a1 : Nat} {n2 : Nat}
    (e0 : xRr sh r0 10 11 a1)
    (e1 : xAr sh a1 .boolean n2)
    (e2 : 4 ≤ a1)
    (e3 : vp_in v1 n2)
    (k : xG d zm_M_useAll (2, [some (.ref r0), some (.int (v1 + (1 : Int32)))], []) (sh, xup I a1 v1.toNatClampNeg (0 : Int32), J) Q) :
    xG d zm_M_useAll (9, [some (.ref r0), some (.int v1)], []) (sh, I, J) Q := by
  obtain rfl := e0.eq
  obtain rfl := e1.eq
  exact xG_N 7 (ps := [xRf sh r0 10 11, xW sh (xrf sh r0 11) .boolean, vp_in v1 (xlen sh (xrf sh r0 11)), ((0 : Int32) : Int32) = 0 ∨ ((0 : Int32) : Int32) = 1]) (f1 := (2, [some (.ref r0), some (.int (v1 + (1 : Int32)))], [])) (h1 := (sh, xup I (xrf sh r0 11) v1.toNatClampNeg (0 : Int32), J)) rfl ⟨e0.rf, ⟨e1.ar, e2⟩, e3, (show ((0 : Int32) : Int32) = 0 ∨ ((0 : Int32) : Int32) = 1 by decide)⟩ (k)
set_option maxRecDepth 100000 in
theorem s_M_useAll_22 {d : Nat} {Q : xO → xH → Prop} {sh : List xS} {I : Nat → Nat → Int32} {J : Nat → Nat → Int64} {r0 : Nat} {v1 : Int32}
    (k : xG d zm_M_useAll (24, [some (.ref r0), some (.int (0 : Int32))], []) (sh, I, J) Q) :
    xG d zm_M_useAll (22, [some (.ref r0), some (.int v1)], []) (sh, I, J) Q := by
  exact xG_N 2 (ps := []) (f1 := (24, [some (.ref r0), some (.int (0 : Int32))], [])) (h1 := (sh, I, J)) rfl trivial (k)
set_option maxRecDepth 100000 in
theorem s_M_useAll_24 {d : Nat} {Q : xO → xH → Prop} {sh : List xS} {I : Nat → Nat → Int32} {J : Nat → Nat → Int64} {r0 : Nat} {v1 : Int32}
    (e0 : xOb sh r0 10)
    (k1 : (I r0 30) ≤ v1 → xG d zm_M_useAll (174, [some (.ref r0), some (.int v1)], []) (sh, I, J) Q)
    (k2 : ¬ ((I r0 30) ≤ v1) → xG d zm_M_useAll (32, [some (.ref r0), some (.int v1)], []) (sh, I, J) Q) :
    xG d zm_M_useAll (24, [some (.ref r0), some (.int v1)], []) (sh, I, J) Q := by
  exact xG_N 3 (ps := [xOb sh r0 10]) (f1 := (29, [some (.ref r0), some (.int v1)], [.int (I r0 30), .int v1])) (h1 := (sh, I, J)) rfl e0 (xG_B rfl rfl k1 k2)
set_option maxRecDepth 100000 in
theorem s_M_useAll_32 {d : Nat} {Q : xO → xH → Prop} {sh : List xS} {I : Nat → Nat → Int32} {J : Nat → Nat → Int64} {r0 : Nat} {v1 : Int32} {a1 : Nat} {n2 : Nat}
    (e0 : xRr sh r0 10 27 a1)
    (e1 : xAr sh a1 .int n2)
    (e2 : vp_in v1 n2)
    (k1 : ¬ (I a1 v1.toNatClampNeg) = (1 : Int32) → xG d zm_M_useAll (80, [some (.ref r0), some (.int v1)], []) (sh, I, J) Q)
    (k2 : ¬ (¬ (I a1 v1.toNatClampNeg) = (1 : Int32)) → xG d zm_M_useAll (42, [some (.ref r0), some (.int v1)], []) (sh, I, J) Q) :
    xG d zm_M_useAll (32, [some (.ref r0), some (.int v1)], []) (sh, I, J) Q := by
  obtain rfl := e0.eq
  obtain rfl := e1.eq
  exact xG_N 5 (ps := [xRf sh r0 10 27, xA sh (xrf sh r0 27) .int, vp_in v1 (xlen sh (xrf sh r0 27))]) (f1 := (39, [some (.ref r0), some (.int v1)], [.int (1 : Int32), .int (I (xrf sh r0 27) v1.toNatClampNeg)])) (h1 := (sh, I, J)) rfl ⟨e0.rf, e1.ar, e2⟩ (xG_B rfl rfl k1 k2)
set_option maxRecDepth 100000 in
theorem s_M_useAll_42 {d : Nat} {Q : xO → xH → Prop} {sh : List xS} {I : Nat → Nat → Int32} {J : Nat → Nat → Int64} {r0 : Nat} {v1 : Int32} {a1 : Nat} {n2 : Nat}
    (e0 : xRr sh r0 10 28 a1)
    (e1 : xAr sh a1 .int n2)
    (e2 : vp_in v1 n2)
    (k : xg d qM_prefixOf [.int (I a1 v1.toNatClampNeg)] (sh, I, J) (xI (fun v h1 => xG d zm_M_useAll (56, [some (.ref r0), some (.int v1)], [.int v, .int (256 : Int32), .int (0 : Int32), .ref r0]) h1 Q) (fun x h1 => Q (.inr x) h1))) :
    xG d zm_M_useAll (42, [some (.ref r0), some (.int v1)], []) (sh, I, J) Q := by
  obtain rfl := e0.eq
  obtain rfl := e1.eq
  exact xG_N 7 (ps := [xRf sh r0 10 28, xA sh (xrf sh r0 28) .int, vp_in v1 (xlen sh (xrf sh r0 28))]) (f1 := (53, [some (.ref r0), some (.int v1)], [.int (I (xrf sh r0 28) v1.toNatClampNeg), .int (256 : Int32), .int (0 : Int32), .ref r0])) (h1 := (sh, I, J)) rfl ⟨e0.rf, e1.ar, e2⟩ (xG_Ci rfl rfl (Nat.le_of_ble_eq_true rfl) (Nat.le_of_ble_eq_true rfl) trivial rfl k)
set_option maxRecDepth 100000 in
theorem s_M_useAll_56 {d : Nat} {Q : xO → xH → Prop} {sh : List xS} {I : Nat → Nat → Int32} {J : Nat → Nat → Int64} {r0 : Nat} {v1 : Int32} {t0 : Nat} {t1 : Int32} {t2 : Int32} {t3 : Int32}
    (ko : xOb sh t0 10)
    (k : xg d qM_use [.ref t0, .int t1, .int (t2 + t3)] (sh, I, J) (xU (fun h1 => xG d zm_M_useAll (60, [some (.ref r0), some (.int v1)], []) h1 Q) (fun x h1 => Q (.inr x) h1))) :
    xG d zm_M_useAll (56, [some (.ref r0), some (.int v1)], [.int t3, .int t2, .int t1, .ref t0]) (sh, I, J) Q := by
  exact xG_N 1 (ps := []) (f1 := (57, [some (.ref r0), some (.int v1)], [.int (t2 + t3), .int t1, .ref t0])) (h1 := (sh, I, J)) rfl trivial (xG_Cu rfl rfl (Nat.le_of_ble_eq_true rfl) (Nat.le_of_ble_eq_true rfl) ⟨_, _, rfl, ko⟩ rfl k)
set_option maxRecDepth 100000 in
theorem s_M_useAll_60 {d : Nat} {Q : xO → xH → Prop} {sh : List xS} {I : Nat → Nat → Int32} {J : Nat → Nat → Int64} {r0 : Nat} {v1 : Int32} {a1 : Nat} {n2 : Nat}
    (e0 : xRr sh r0 10 29 a1)
    (e1 : xAr sh a1 .int n2)
    (e2 : vp_in v1 n2)
    (k : xg d qM_prefixOf [.int ((I a1 v1.toNatClampNeg) + (8 : Int32))] (sh, I, J) (xI (fun v h1 => xG d zm_M_useAll (74, [some (.ref r0), some (.int v1)], [.int v, .int (4 : Int32), .ref r0]) h1 Q) (fun x h1 => Q (.inr x) h1))) :
    xG d zm_M_useAll (60, [some (.ref r0), some (.int v1)], []) (sh, I, J) Q := by
  obtain rfl := e0.eq
  obtain rfl := e1.eq
  exact xG_N 8 (ps := [xRf sh r0 10 29, xA sh (xrf sh r0 29) .int, vp_in v1 (xlen sh (xrf sh r0 29))]) (f1 := (71, [some (.ref r0), some (.int v1)], [.int ((I (xrf sh r0 29) v1.toNatClampNeg) + (8 : Int32)), .int (4 : Int32), .ref r0])) (h1 := (sh, I, J)) rfl ⟨e0.rf, e1.ar, e2⟩ (xG_Ci rfl rfl (Nat.le_of_ble_eq_true rfl) (Nat.le_of_ble_eq_true rfl) trivial rfl k)
set_option maxRecDepth 100000 in
theorem s_M_useAll_74 {d : Nat} {Q : xO → xH → Prop} {sh : List xS} {I : Nat → Nat → Int32} {J : Nat → Nat → Int64} {r0 : Nat} {v1 : Int32} {t0 : Nat} {t1 : Int32} {t2 : Int32}
    (ko : xOb sh t0 10)
    (k : xg d qM_use [.ref t0, .int t1, .int t2] (sh, I, J) (xU (fun h1 => xG d zm_M_useAll (77, [some (.ref r0), some (.int v1)], []) h1 Q) (fun x h1 => Q (.inr x) h1))) :
    xG d zm_M_useAll (74, [some (.ref r0), some (.int v1)], [.int t2, .int t1, .ref t0]) (sh, I, J) Q := by
  exact xG_Cu rfl rfl (Nat.le_of_ble_eq_true rfl) (Nat.le_of_ble_eq_true rfl) ⟨_, _, rfl, ko⟩ rfl k
set_option maxRecDepth 100000 in
theorem s_M_useAll_77 {d : Nat} {Q : xO → xH → Prop} {sh : List xS} {I : Nat → Nat → Int32} {J : Nat → Nat → Int64} {r0 : Nat} {v1 : Int32}
    (k : xG d zm_M_useAll (24, [some (.ref r0), some (.int (v1 + (1 : Int32)))], []) (sh, I, J) Q) :
    xG d zm_M_useAll (77, [some (.ref r0), some (.int v1)], []) (sh, I, J) Q := by
  exact xG_N 3 (ps := []) (f1 := (24, [some (.ref r0), some (.int (v1 + (1 : Int32)))], [])) (h1 := (sh, I, J)) rfl trivial (k)
set_option maxRecDepth 100000 in
theorem s_M_useAll_80 {d : Nat} {Q : xO → xH → Prop} {sh : List xS} {I : Nat → Nat → Int32} {J : Nat → Nat → Int64} {r0 : Nat} {v1 : Int32} {a1 : Nat} {n2 : Nat}
    (e0 : xRr sh r0 10 27 a1)
    (e1 : xAr sh a1 .int n2)
    (e2 : vp_in v1 n2)
    (k1 : ¬ (I a1 v1.toNatClampNeg) = (2 : Int32) → xG d zm_M_useAll (108, [some (.ref r0), some (.int v1)], []) (sh, I, J) Q)
    (k2 : ¬ (¬ (I a1 v1.toNatClampNeg) = (2 : Int32)) → xG d zm_M_useAll (90, [some (.ref r0), some (.int v1)], []) (sh, I, J) Q) :
    xG d zm_M_useAll (80, [some (.ref r0), some (.int v1)], []) (sh, I, J) Q := by
  obtain rfl := e0.eq
  obtain rfl := e1.eq
  exact xG_N 5 (ps := [xRf sh r0 10 27, xA sh (xrf sh r0 27) .int, vp_in v1 (xlen sh (xrf sh r0 27))]) (f1 := (87, [some (.ref r0), some (.int v1)], [.int (2 : Int32), .int (I (xrf sh r0 27) v1.toNatClampNeg)])) (h1 := (sh, I, J)) rfl ⟨e0.rf, e1.ar, e2⟩ (xG_B rfl rfl k1 k2)
set_option maxRecDepth 100000 in
theorem s_M_useAll_90 {d : Nat} {Q : xO → xH → Prop} {sh : List xS} {I : Nat → Nat → Int32} {J : Nat → Nat → Int64} {r0 : Nat} {v1 : Int32} {a1 : Nat} {n2 : Nat}
    (e0 : xRr sh r0 10 28 a1)
    (e1 : xAr sh a1 .int n2)
    (e2 : vp_in v1 n2)
    (k : xg d qM_use [.ref r0, .int (0 : Int32), .int ((280 : Int32) + (I a1 v1.toNatClampNeg))] (sh, I, J) (xU (fun h1 => xG d zm_M_useAll (105, [some (.ref r0), some (.int v1)], []) h1 Q) (fun x h1 => Q (.inr x) h1))) :
    xG d zm_M_useAll (90, [some (.ref r0), some (.int v1)], []) (sh, I, J) Q := by
  obtain rfl := e0.eq
  obtain rfl := e1.eq
  exact xG_N 8 (ps := [xRf sh r0 10 28, xA sh (xrf sh r0 28) .int, vp_in v1 (xlen sh (xrf sh r0 28))]) (f1 := (102, [some (.ref r0), some (.int v1)], [.int ((280 : Int32) + (I (xrf sh r0 28) v1.toNatClampNeg)), .int (0 : Int32), .ref r0])) (h1 := (sh, I, J)) rfl ⟨e0.rf, e1.ar, e2⟩ (xG_Cu rfl rfl (Nat.le_of_ble_eq_true rfl) (Nat.le_of_ble_eq_true rfl) ⟨_, _, rfl, e0.ob⟩ rfl k)
set_option maxRecDepth 100000 in
theorem s_M_useAll_105 {d : Nat} {Q : xO → xH → Prop} {sh : List xS} {I : Nat → Nat → Int32} {J : Nat → Nat → Int64} {r0 : Nat} {v1 : Int32}
    (k : xG d zm_M_useAll (24, [some (.ref r0), some (.int (v1 + (1 : Int32)))], []) (sh, I, J) Q) :
    xG d zm_M_useAll (105, [some (.ref r0), some (.int v1)], []) (sh, I, J) Q := by
  exact xG_N 3 (ps := []) (f1 := (24, [some (.ref r0), some (.int (v1 + (1 : Int32)))], [])) (h1 := (sh, I, J)) rfl trivial (k)
set_option maxRecDepth 100000 in
theorem s_M_useAll_108 {d : Nat} {Q : xO → xH → Prop} {sh : List xS} {I : Nat → Nat → Int32} {J : Nat → Nat → Int64} {r0 : Nat} {v1 : Int32} {a1 : Nat} {n2 : Nat}
    (e0 : xRr sh r0 10 28 a1)
    (e1 : xAr sh a1 .int n2)
    (e2 : vp_in v1 n2)
    (k : xg d qM_part [.int (I a1 v1.toNatClampNeg), .int (1 : Int32)] (sh, I, J) (xI (fun v h1 => xG d zm_M_useAll (120, [some (.ref r0), some (.int v1)], [.int v, .int (0 : Int32), .ref r0]) h1 Q) (fun x h1 => Q (.inr x) h1))) :
    xG d zm_M_useAll (108, [some (.ref r0), some (.int v1)], []) (sh, I, J) Q := by
  obtain rfl := e0.eq
  obtain rfl := e1.eq
  exact xG_N 7 (ps := [xRf sh r0 10 28, xA sh (xrf sh r0 28) .int, vp_in v1 (xlen sh (xrf sh r0 28))]) (f1 := (117, [some (.ref r0), some (.int v1)], [.int (1 : Int32), .int (I (xrf sh r0 28) v1.toNatClampNeg), .int (0 : Int32), .ref r0])) (h1 := (sh, I, J)) rfl ⟨e0.rf, e1.ar, e2⟩ (xG_Ci rfl rfl (Nat.le_of_ble_eq_true rfl) (Nat.le_of_ble_eq_true rfl) trivial rfl k)
set_option maxRecDepth 100000 in
theorem s_M_useAll_120 {d : Nat} {Q : xO → xH → Prop} {sh : List xS} {I : Nat → Nat → Int32} {J : Nat → Nat → Int64} {r0 : Nat} {v1 : Int32} {t0 : Nat} {t1 : Int32} {t2 : Int32}
    (ko : xOb sh t0 10)
    (k : xg d qM_use [.ref t0, .int t1, .int t2] (sh, I, J) (xU (fun h1 => xG d zm_M_useAll (123, [some (.ref r0), some (.int v1)], []) h1 Q) (fun x h1 => Q (.inr x) h1))) :
    xG d zm_M_useAll (120, [some (.ref r0), some (.int v1)], [.int t2, .int t1, .ref t0]) (sh, I, J) Q := by
  exact xG_Cu rfl rfl (Nat.le_of_ble_eq_true rfl) (Nat.le_of_ble_eq_true rfl) ⟨_, _, rfl, ko⟩ rfl k
set_option maxRecDepth 100000 in
theorem s_M_useAll_123 {d : Nat} {Q : xO → xH → Prop} {sh : List xS} {I : Nat → Nat → Int32} {J : Nat → Nat → Int64} {r0 : Nat} {v1 : Int32} {a1 : Nat} {n2 : Nat}
    (e0 : xRr sh r0 10 28 a1)
    (e1 : xAr sh a1 .int n2)
    (e2 : vp_in v1 n2)
    (k : xg d qM_part [.int (I a1 v1.toNatClampNeg), .int (2 : Int32)] (sh, I, J) (xI (fun v h1 => xG d zm_M_useAll (135, [some (.ref r0), some (.int v1)], [.int v, .int (1 : Int32), .ref r0]) h1 Q) (fun x h1 => Q (.inr x) h1))) :
    xG d zm_M_useAll (123, [some (.ref r0), some (.int v1)], []) (sh, I, J) Q := by
  obtain rfl := e0.eq
  obtain rfl := e1.eq
  exact xG_N 7 (ps := [xRf sh r0 10 28, xA sh (xrf sh r0 28) .int, vp_in v1 (xlen sh (xrf sh r0 28))]) (f1 := (132, [some (.ref r0), some (.int v1)], [.int (2 : Int32), .int (I (xrf sh r0 28) v1.toNatClampNeg), .int (1 : Int32), .ref r0])) (h1 := (sh, I, J)) rfl ⟨e0.rf, e1.ar, e2⟩ (xG_Ci rfl rfl (Nat.le_of_ble_eq_true rfl) (Nat.le_of_ble_eq_true rfl) trivial rfl k)
set_option maxRecDepth 100000 in
theorem s_M_useAll_135 {d : Nat} {Q : xO → xH → Prop} {sh : List xS} {I : Nat → Nat → Int32} {J : Nat → Nat → Int64} {r0 : Nat} {v1 : Int32} {t0 : Nat} {t1 : Int32} {t2 : Int32}
    (ko : xOb sh t0 10)
    (k : xg d qM_use [.ref t0, .int t1, .int t2] (sh, I, J) (xU (fun h1 => xG d zm_M_useAll (138, [some (.ref r0), some (.int v1)], []) h1 Q) (fun x h1 => Q (.inr x) h1))) :
    xG d zm_M_useAll (135, [some (.ref r0), some (.int v1)], [.int t2, .int t1, .ref t0]) (sh, I, J) Q := by
  exact xG_Cu rfl rfl (Nat.le_of_ble_eq_true rfl) (Nat.le_of_ble_eq_true rfl) ⟨_, _, rfl, ko⟩ rfl k
set_option maxRecDepth 100000 in
theorem s_M_useAll_138 {d : Nat} {Q : xO → xH → Prop} {sh : List xS} {I : Nat → Nat → Int32} {J : Nat → Nat → Int64} {r0 : Nat} {v1 : Int32} {a1 : Nat} {n2 : Nat}
    (e0 : xRr sh r0 10 28 a1)
    (e1 : xAr sh a1 .int n2)
    (e2 : vp_in v1 n2)
    (k : xg d qM_part [.int (I a1 v1.toNatClampNeg), .int (0 : Int32)] (sh, I, J) (xI (fun v h1 => xG d zm_M_useAll (150, [some (.ref r0), some (.int v1)], [.int v, .int (2 : Int32), .ref r0]) h1 Q) (fun x h1 => Q (.inr x) h1))) :
    xG d zm_M_useAll (138, [some (.ref r0), some (.int v1)], []) (sh, I, J) Q := by
  obtain rfl := e0.eq
  obtain rfl := e1.eq
  exact xG_N 7 (ps := [xRf sh r0 10 28, xA sh (xrf sh r0 28) .int, vp_in v1 (xlen sh (xrf sh r0 28))]) (f1 := (147, [some (.ref r0), some (.int v1)], [.int (0 : Int32), .int (I (xrf sh r0 28) v1.toNatClampNeg), .int (2 : Int32), .ref r0])) (h1 := (sh, I, J)) rfl ⟨e0.rf, e1.ar, e2⟩ (xG_Ci rfl rfl (Nat.le_of_ble_eq_true rfl) (Nat.le_of_ble_eq_true rfl) trivial rfl k)
set_option maxRecDepth 100000 in
theorem s_M_useAll_150 {d : Nat} {Q : xO → xH → Prop} {sh : List xS} {I : Nat → Nat → Int32} {J : Nat → Nat → Int64} {r0 : Nat} {v1 : Int32} {t0 : Nat} {t1 : Int32} {t2 : Int32}
    (ko : xOb sh t0 10)
    (k : xg d qM_use [.ref t0, .int t1, .int t2] (sh, I, J) (xU (fun h1 => xG d zm_M_useAll (153, [some (.ref r0), some (.int v1)], []) h1 Q) (fun x h1 => Q (.inr x) h1))) :
    xG d zm_M_useAll (150, [some (.ref r0), some (.int v1)], [.int t2, .int t1, .ref t0]) (sh, I, J) Q := by
  exact xG_Cu rfl rfl (Nat.le_of_ble_eq_true rfl) (Nat.le_of_ble_eq_true rfl) ⟨_, _, rfl, ko⟩ rfl k
set_option maxRecDepth 100000 in
theorem s_M_useAll_153 {d : Nat} {Q : xO → xH → Prop} {sh : List xS} {I : Nat → Nat → Int32} {J : Nat → Nat → Int64} {r0 : Nat} {v1 : Int32} {a1 : Nat} {n2 : Nat}
    (e0 : xRr sh r0 10 28 a1)
    (e1 : xAr sh a1 .int n2)
    (e2 : vp_in v1 n2)
    (k : xg d qM_part [.int (I a1 v1.toNatClampNeg), .int (3 : Int32)] (sh, I, J) (xI (fun v h1 => xG d zm_M_useAll (165, [some (.ref r0), some (.int v1)], [.int v, .int (3 : Int32), .ref r0]) h1 Q) (fun x h1 => Q (.inr x) h1))) :
    xG d zm_M_useAll (153, [some (.ref r0), some (.int v1)], []) (sh, I, J) Q := by
  obtain rfl := e0.eq
  obtain rfl := e1.eq
  exact xG_N 7 (ps := [xRf sh r0 10 28, xA sh (xrf sh r0 28) .int, vp_in v1 (xlen sh (xrf sh r0 28))]) (f1 := (162, [some (.ref r0), some (.int v1)], [.int (3 : Int32), .int (I (xrf sh r0 28) v1.toNatClampNeg), .int (3 : Int32), .ref r0])) (h1 := (sh, I, J)) rfl ⟨e0.rf, e1.ar, e2⟩ (xG_Ci rfl rfl (Nat.le_of_ble_eq_true rfl) (Nat.le_of_ble_eq_true rfl) trivial rfl k)
set_option maxRecDepth 100000 in
theorem s_M_useAll_165 {d : Nat} {Q : xO → xH → Prop} {sh : List xS} {I : Nat → Nat → Int32} {J : Nat → Nat → Int64} {r0 : Nat} {v1 : Int32} {t0 : Nat} {t1 : Int32} {t2 : Int32}
    (ko : xOb sh t0 10)
    (k : xg d qM_use [.ref t0, .int t1, .int t2] (sh, I, J) (xU (fun h1 => xG d zm_M_useAll (168, [some (.ref r0), some (.int v1)], []) h1 Q) (fun x h1 => Q (.inr x) h1))) :
    xG d zm_M_useAll (165, [some (.ref r0), some (.int v1)], [.int t2, .int t1, .ref t0]) (sh, I, J) Q := by
  exact xG_Cu rfl rfl (Nat.le_of_ble_eq_true rfl) (Nat.le_of_ble_eq_true rfl) ⟨_, _, rfl, ko⟩ rfl k
set_option maxRecDepth 100000 in
theorem s_M_useAll_168 {d : Nat} {Q : xO → xH → Prop} {sh : List xS} {I : Nat → Nat → Int32} {J : Nat → Nat → Int64} {r0 : Nat} {v1 : Int32}
    (k : xG d zm_M_useAll (24, [some (.ref r0), some (.int (v1 + (1 : Int32)))], []) (sh, I, J) Q) :
    xG d zm_M_useAll (168, [some (.ref r0), some (.int v1)], []) (sh, I, J) Q := by
  exact xG_N 2 (ps := []) (f1 := (24, [some (.ref r0), some (.int (v1 + (1 : Int32)))], [])) (h1 := (sh, I, J)) rfl trivial (k)
set_option maxRecDepth 100000 in
theorem s_M_useAll_174 {d : Nat} {Q : xO → xH → Prop} {sh : List xS} {I : Nat → Nat → Int32} {J : Nat → Nat → Int64} {r0 : Nat} {v1 : Int32}
    (k : Q (.inl (none)) (sh, I, J)) :
    xG d zm_M_useAll (174, [some (.ref r0), some (.int v1)], []) (sh, I, J) Q := by
  exact xG_Q rfl rfl trivial k
set_option maxRecDepth 100000 in
theorem s_M_putImage_0 {d : Nat} {Q : xO → xH → Prop} {sh : List xS} {I : Nat → Nat → Int32} {J : Nat → Nat → Int64} {r0 : Nat} {v1 : Int32} {v2 : Int32} {v3 : Int32}
    (k1 : v3 ≤ 0 → xG d zm_M_putImage (9, [some (.ref r0), some (.int v1), some (.int v2), some (.int v3), none], [.ref r0]) (sh, I, J) Q)
    (k2 : ¬ (v3 ≤ 0) → xG d zm_M_putImage (5, [some (.ref r0), some (.int v1), some (.int v2), some (.int v3), none], [.ref r0]) (sh, I, J) Q) :
    xG d zm_M_putImage (0, [some (.ref r0), some (.int v1), some (.int v2), some (.int v3), none], []) (sh, I, J) Q := by
  exact xG_N 2 (ps := []) (f1 := (2, [some (.ref r0), some (.int v1), some (.int v2), some (.int v3), none], [.int v3, .ref r0])) (h1 := (sh, I, J)) rfl trivial (xG_B rfl rfl k1 k2)
set_option maxRecDepth 100000 in
theorem s_M_putImage_5 {d : Nat} {Q : xO → xH → Prop} {sh : List xS} {I : Nat → Nat → Int32} {J : Nat → Nat → Int64} {r0 : Nat} {v1 : Int32} {v2 : Int32} {v3 : Int32} {t0 : Nat}
    (ko : xOb sh t0 10)
    (k : xg d qM_put [.ref t0, .int (1 : Int32), .int (1 : Int32)] (sh, I, J) (xU (fun h1 => xG d zm_M_putImage (14, [some (.ref r0), some (.int v1), some (.int v2), some (.int v3), none], []) h1 Q) (fun x h1 => Q (.inr x) h1))) :
    xG d zm_M_putImage (5, [some (.ref r0), some (.int v1), some (.int v2), some (.int v3), none], [.ref t0]) (sh, I, J) Q := by
  exact xG_N 3 (ps := []) (f1 := (11, [some (.ref r0), some (.int v1), some (.int v2), some (.int v3), none], [.int (1 : Int32), .int (1 : Int32), .ref t0])) (h1 := (sh, I, J)) rfl trivial (xG_Cu rfl rfl (Nat.le_of_ble_eq_true rfl) (Nat.le_of_ble_eq_true rfl) ⟨_, _, rfl, ko⟩ rfl k)
set_option maxRecDepth 100000 in
theorem s_M_putImage_9 {d : Nat} {Q : xO → xH → Prop} {sh : List xS} {I : Nat → Nat → Int32} {J : Nat → Nat → Int64} {r0 : Nat} {v1 : Int32} {v2 : Int32} {v3 : Int32} {t0 : Nat}
    (ko : xOb sh t0 10)
    (k : xg d qM_put [.ref t0, .int (0 : Int32), .int (1 : Int32)] (sh, I, J) (xU (fun h1 => xG d zm_M_putImage (14, [some (.ref r0), some (.int v1), some (.int v2), some (.int v3), none], []) h1 Q) (fun x h1 => Q (.inr x) h1))) :
    xG d zm_M_putImage (9, [some (.ref r0), some (.int v1), some (.int v2), some (.int v3), none], [.ref t0]) (sh, I, J) Q := by
  exact xG_N 2 (ps := []) (f1 := (11, [some (.ref r0), some (.int v1), some (.int v2), some (.int v3), none], [.int (1 : Int32), .int (0 : Int32), .ref t0])) (h1 := (sh, I, J)) rfl trivial (xG_Cu rfl rfl (Nat.le_of_ble_eq_true rfl) (Nat.le_of_ble_eq_true rfl) ⟨_, _, rfl, ko⟩ rfl k)
set_option maxRecDepth 100000 in
theorem s_M_putImage_14 {d : Nat} {Q : xO → xH → Prop} {sh : List xS} {I : Nat → Nat → Int32} {J : Nat → Nat → Int64} {r0 : Nat} {v1 : Int32} {v2 : Int32} {v3 : Int32}
    (k1 : v3 ≤ 0 → xG d zm_M_putImage (26, [some (.ref r0), some (.int v1), some (.int v2), some (.int v3), none], [.int (v3 - (1 : Int32)), .ref r0]) (sh, I, J) Q)
    (k2 : ¬ (v3 ≤ 0) → xG d zm_M_putImage (22, [some (.ref r0), some (.int v1), some (.int v2), some (.int v3), none], [.int (v3 - (1 : Int32)), .ref r0]) (sh, I, J) Q) :
    xG d zm_M_putImage (14, [some (.ref r0), some (.int v1), some (.int v2), some (.int v3), none], []) (sh, I, J) Q := by
  exact xG_N 5 (ps := []) (f1 := (19, [some (.ref r0), some (.int v1), some (.int v2), some (.int v3), none], [.int v3, .int (v3 - (1 : Int32)), .ref r0])) (h1 := (sh, I, J)) rfl trivial (xG_B rfl rfl k1 k2)
set_option maxRecDepth 100000 in
theorem s_M_putImage_22 {d : Nat} {Q : xO → xH → Prop} {sh : List xS} {I : Nat → Nat → Int32} {J : Nat → Nat → Int64} {r0 : Nat} {v1 : Int32} {v2 : Int32} {v3 : Int32} {t0 : Nat} {t1 : Int32}
    (ko : xOb sh t0 10)
    (k : xg d qM_put [.ref t0, .int t1, .int (2 : Int32)] (sh, I, J) (xU (fun h1 => xG d zm_M_putImage (30, [some (.ref r0), some (.int v1), some (.int v2), some (.int v3), none], []) h1 Q) (fun x h1 => Q (.inr x) h1))) :
    xG d zm_M_putImage (22, [some (.ref r0), some (.int v1), some (.int v2), some (.int v3), none], [.int t1, .ref t0]) (sh, I, J) Q := by
  exact xG_N 2 (ps := []) (f1 := (27, [some (.ref r0), some (.int v1), some (.int v2), some (.int v3), none], [.int (2 : Int32), .int t1, .ref t0])) (h1 := (sh, I, J)) rfl trivial (xG_Cu rfl rfl (Nat.le_of_ble_eq_true rfl) (Nat.le_of_ble_eq_true rfl) ⟨_, _, rfl, ko⟩ rfl k)
set_option maxRecDepth 100000 in
theorem s_M_putImage_26 {d : Nat} {Q : xO → xH → Prop} {sh : List xS} {I : Nat → Nat → Int32} {J : Nat → Nat → Int64} {r0 : Nat} {v1 : Int32} {v2 : Int32} {v3 : Int32} {t0 : Nat} {t1 : Int32}
    (ko : xOb sh t0 10)
    (k : xg d qM_put [.ref t0, .int t1, .int (0 : Int32)] (sh, I, J) (xU (fun h1 => xG d zm_M_putImage (30, [some (.ref r0), some (.int v1), some (.int v2), some (.int v3), none], []) h1 Q) (fun x h1 => Q (.inr x) h1))) :
    xG d zm_M_putImage (26, [some (.ref r0), some (.int v1), some (.int v2), some (.int v3), none], [.int t1, .ref t0]) (sh, I, J) Q := by
  exact xG_N 1 (ps := []) (f1 := (27, [some (.ref r0), some (.int v1), some (.int v2), some (.int v3), none], [.int (0 : Int32), .int t1, .ref t0])) (h1 := (sh, I, J)) rfl trivial (xG_Cu rfl rfl (Nat.le_of_ble_eq_true rfl) (Nat.le_of_ble_eq_true rfl) ⟨_, _, rfl, ko⟩ rfl k)
set_option maxRecDepth 100000 in
theorem s_M_putImage_30 {d : Nat} {Q : xO → xH → Prop} {sh : List xS} {I : Nat → Nat → Int32} {J : Nat → Nat → Int64} {r0 : Nat} {v1 : Int32} {v2 : Int32} {v3 : Int32}
    (ko : xOb sh r0 10)
    (k : xg d qM_emptyCache [.ref r0, .int v2] (sh, I, J) (xU (fun h1 => xG d zm_M_putImage (35, [some (.ref r0), some (.int v1), some (.int v2), some (.int v3), none], []) h1 Q) (fun x h1 => Q (.inr x) h1))) :
    xG d zm_M_putImage (30, [some (.ref r0), some (.int v1), some (.int v2), some (.int v3), none], []) (sh, I, J) Q := by
  exact xG_N 2 (ps := []) (f1 := (32, [some (.ref r0), some (.int v1), some (.int v2), some (.int v3), none], [.int v2, .ref r0])) (h1 := (sh, I, J)) rfl trivial (xG_Cu rfl rfl (Nat.le_of_ble_eq_true rfl) (Nat.le_of_ble_eq_true rfl) ⟨_, _, rfl, ko⟩ rfl k)
set_option maxRecDepth 100000 in
theorem s_M_putImage_35 {d : Nat} {Q : xO → xH → Prop} {sh : List xS} {I : Nat → Nat → Int32} {J : Nat → Nat → Int64} {r0 : Nat} {v1 : Int32} {v2 : Int32} {v3 : Int32}
    (ko : xOb sh r0 10)
    (k : xg d qM_makeUp [.ref r0, .int v1] (sh, I, J) (xU (fun h1 => xG d zm_M_putImage (40, [some (.ref r0), some (.int v1), some (.int v2), some (.int v3), none], []) h1 Q) (fun x h1 => Q (.inr x) h1))) :
    xG d zm_M_putImage (35, [some (.ref r0), some (.int v1), some (.int v2), some (.int v3), none], []) (sh, I, J) Q := by
  exact xG_N 2 (ps := []) (f1 := (37, [some (.ref r0), some (.int v1), some (.int v2), some (.int v3), none], [.int v1, .ref r0])) (h1 := (sh, I, J)) rfl trivial (xG_Cu rfl rfl (Nat.le_of_ble_eq_true rfl) (Nat.le_of_ble_eq_true rfl) ⟨_, _, rfl, ko⟩ rfl k)
set_option maxRecDepth 100000 in
theorem s_M_putImage_40 {d : Nat} {Q : xO → xH → Prop} {sh : List xS} {I : Nat → Nat → Int32} {J : Nat → Nat → Int64} {r0 : Nat} {v1 : Int32} {v2 : Int32} {v3 : Int32} {a1 : Nat} {n2 : Nat}
    (e0 : xRr sh r0 10 12 a1)
    (e1 : xAr sh a1 .int n2)
    (e2 : 4 ≤ a1)
    (e3 : vp_in (0 : Int32) n2)
    (e4 : vp_in (1 : Int32) n2)
    (e5 : vp_in (2 : Int32) n2)
    (e6 : vp_in (3 : Int32) n2)
    (e7 : vp_in (4 : Int32) n2)
    (k : xg d qM_useAll [.ref r0] (sh, xup (xup (xup (xup (xup I a1 0 ((280 : Int32) + v2)) a1 1 (256 : Int32)) a1 2 (256 : Int32)) a1 3 (256 : Int32)) a1 4 (40 : Int32), J) (xU (fun h1 => xG d zm_M_putImage (90, [some (.ref r0), some (.int v1), some (.int v2), some (.int v3), none], []) h1 Q) (fun x h1 => Q (.inr x) h1))) :
    xG d zm_M_putImage (40, [some (.ref r0), some (.int v1), some (.int v2), some (.int v3), none], []) (sh, I, J) Q := by
  obtain rfl := e0.eq
  obtain rfl := e1.eq
  exact xG_N 28 (ps := [xRf sh r0 10 12, xW sh (xrf sh r0 12) .int, vp_in (0 : Int32) (xlen sh (xrf sh r0 12)), xRf sh r0 10 12, xW sh (xrf sh r0 12) .int, vp_in (1 : Int32) (xlen sh (xrf sh r0 12)), xRf sh r0 10 12, xW sh (xrf sh r0 12) .int, vp_in (2 : Int32) (xlen sh (xrf sh r0 12)), xRf sh r0 10 12, xW sh (xrf sh r0 12) .int, vp_in (3 : Int32) (xlen sh (xrf sh r0 12)), xRf sh r0 10 12, xW sh (xrf sh r0 12) .int, vp_in (4 : Int32) (xlen sh (xrf sh r0 12))]) (f1 := (87, [some (.ref r0), some (.int v1), some (.int v2), some (.int v3), none], [.ref r0])) (h1 := (sh, xup (xup (xup (xup (xup I (xrf sh r0 12) 0 ((280 : Int32) + v2)) (xrf sh r0 12) 1 (256 : Int32)) (xrf sh r0 12) 2 (256 : Int32)) (xrf sh r0 12) 3 (256 : Int32)) (xrf sh r0 12) 4 (40 : Int32), J)) rfl ⟨e0.rf, ⟨e1.ar, e2⟩, e3, e0.rf, ⟨e1.ar, e2⟩, e4, e0.rf, ⟨e1.ar, e2⟩, e5, e0.rf, ⟨e1.ar, e2⟩, e6, e0.rf, ⟨e1.ar, e2⟩, e7⟩ (xG_Cu rfl rfl (Nat.le_of_ble_eq_true rfl) (Nat.le_of_ble_eq_true rfl) ⟨_, _, rfl, e0.ob⟩ rfl k)
set_option maxRecDepth 100000 in
theorem s_M_putImage_90 {d : Nat} {Q : xO → xH → Prop} {sh : List xS} {I : Nat → Nat → Int32} {J : Nat → Nat → Int64} {r0 : Nat} {v1 : Int32} {v2 : Int32} {v3 : Int32}
    (k : xG d zm_M_putImage (93, [some (.ref r0), some (.int v1), some (.int v2), some (.int v3), some (.int (0 : Int32))], []) (sh, I, J) Q) :
    xG d zm_M_putImage (90, [some (.ref r0), some (.int v1), some (.int v2), some (.int v3), none], []) (sh, I, J) Q := by
  exact xG_N 2 (ps := []) (f1 := (93, [some (.ref r0), some (.int v1), some (.int v2), some (.int v3), some (.int (0 : Int32))], [])) (h1 := (sh, I, J)) rfl trivial (k)
set_option maxRecDepth 100000 in
theorem s_M_putImage_93 {d : Nat} {Q : xO → xH → Prop} {sh : List xS} {I : Nat → Nat → Int32} {J : Nat → Nat → Int64} {r0 : Nat} {v1 : Int32} {v2 : Int32} {v3 : Int32} {v4 : Int32}
    (k1 : (5 : Int32) ≤ v4 → xG d zm_M_putImage (111, [some (.ref r0), some (.int v1), some (.int v2), some (.int v3), some (.int v4)], []) (sh, I, J) Q)
    (k2 : ¬ ((5 : Int32) ≤ v4) → xG d zm_M_putImage (99, [some (.ref r0), some (.int v1), some (.int v2), some (.int v3), some (.int v4)], []) (sh, I, J) Q) :
    xG d zm_M_putImage (93, [some (.ref r0), some (.int v1), some (.int v2), some (.int v3), some (.int v4)], []) (sh, I, J) Q := by
  exact xG_N 2 (ps := []) (f1 := (96, [some (.ref r0), some (.int v1), some (.int v2), some (.int v3), some (.int v4)], [.int (5 : Int32), .int v4])) (h1 := (sh, I, J)) rfl trivial (xG_B rfl rfl k1 k2)
set_option maxRecDepth 100000 in
theorem s_M_putImage_99 {d : Nat} {Q : xO → xH → Prop} {sh : List xS} {I : Nat → Nat → Int32} {J : Nat → Nat → Int64} {r0 : Nat} {v1 : Int32} {v2 : Int32} {v3 : Int32} {v4 : Int32}
    (ko : xOb sh r0 10)
    (k : xg d qM_putCode [.ref r0, .int v4] (sh, I, J) (xU (fun h1 => xG d zm_M_putImage (105, [some (.ref r0), some (.int v1), some (.int v2), some (.int v3), some (.int v4)], []) h1 Q) (fun x h1 => Q (.inr x) h1))) :
    xG d zm_M_putImage (99, [some (.ref r0), some (.int v1), some (.int v2), some (.int v3), some (.int v4)], []) (sh, I, J) Q := by
  exact xG_N 2 (ps := []) (f1 := (102, [some (.ref r0), some (.int v1), some (.int v2), some (.int v3), some (.int v4)], [.int v4, .ref r0])) (h1 := (sh, I, J)) rfl trivial (xG_Cu rfl rfl (Nat.le_of_ble_eq_true rfl) (Nat.le_of_ble_eq_true rfl) ⟨_, _, rfl, ko⟩ rfl k)
set_option maxRecDepth 100000 in
theorem s_M_putImage_105 {d : Nat} {Q : xO → xH → Prop} {sh : List xS} {I : Nat → Nat → Int32} {J : Nat → Nat → Int64} {r0 : Nat} {v1 : Int32} {v2 : Int32} {v3 : Int32} {v4 : Int32}
    (k : xG d zm_M_putImage (93, [some (.ref r0), some (.int v1), some (.int v2), some (.int v3), some (.int (v4 + (1 : Int32)))], []) (sh, I, J) Q) :
    xG d zm_M_putImage (105, [some (.ref r0), some (.int v1), some (.int v2), some (.int v3), some (.int v4)], []) (sh, I, J) Q := by
  exact xG_N 2 (ps := []) (f1 := (93, [some (.ref r0), some (.int v1), some (.int v2), some (.int v3), some (.int (v4 + (1 : Int32)))], [])) (h1 := (sh, I, J)) rfl trivial (k)
set_option maxRecDepth 100000 in
theorem s_M_putImage_111 {d : Nat} {Q : xO → xH → Prop} {sh : List xS} {I : Nat → Nat → Int32} {J : Nat → Nat → Int64} {r0 : Nat} {v1 : Int32} {v2 : Int32} {v3 : Int32} {v4 : Int32}
    (k : xG d zm_M_putImage (114, [some (.ref r0), some (.int v1), some (.int v2), some (.int v3), some (.int (0 : Int32))], []) (sh, I, J) Q) :
    xG d zm_M_putImage (111, [some (.ref r0), some (.int v1), some (.int v2), some (.int v3), some (.int v4)], []) (sh, I, J) Q := by
  exact xG_N 2 (ps := []) (f1 := (114, [some (.ref r0), some (.int v1), some (.int v2), some (.int v3), some (.int (0 : Int32))], [])) (h1 := (sh, I, J)) rfl trivial (k)
set_option maxRecDepth 100000 in
theorem s_M_putImage_114 {d : Nat} {Q : xO → xH → Prop} {sh : List xS} {I : Nat → Nat → Int32} {J : Nat → Nat → Int64} {r0 : Nat} {v1 : Int32} {v2 : Int32} {v3 : Int32} {v4 : Int32}
    (e0 : xOb sh r0 10)
    (k1 : (I r0 30) ≤ v4 → xG d zm_M_putImage (299, [some (.ref r0), some (.int v1), some (.int v2), some (.int v3), some (.int v4)], []) (sh, I, J) Q)
    (k2 : ¬ ((I r0 30) ≤ v4) → xG d zm_M_putImage (123, [some (.ref r0), some (.int v1), some (.int v2), some (.int v3), some (.int v4)], []) (sh, I, J) Q) :
    xG d zm_M_putImage (114, [some (.ref r0), some (.int v1), some (.int v2), some (.int v3), some (.int v4)], []) (sh, I, J) Q := by
  exact xG_N 3 (ps := [xOb sh r0 10]) (f1 := (120, [some (.ref r0), some (.int v1), some (.int v2), some (.int v3), some (.int v4)], [.int (I r0 30), .int v4])) (h1 := (sh, I, J)) rfl e0 (xG_B rfl rfl k1 k2)
set_option maxRecDepth 100000 in
theorem s_M_putImage_123 {d : Nat} {Q : xO → xH → Prop} {sh : List xS} {I : Nat → Nat → Int32} {J : Nat → Nat → Int64} {r0 : Nat} {v1 : Int32} {v2 : Int32} {v3 : Int32} {v4 : Int32} {a1 : Nat} {n2 : Nat}
    (e0 : xRr sh r0 10 27 a1)
    (e1 : xAr sh a1 .int n2)
    (e2 : vp_in v4 n2)
    (k1 : ¬ (I a1 v4.toNatClampNeg) = (1 : Int32) → xG d zm_M_putImage (199, [some (.ref r0), some (.int v1), some (.int v2), some (.int v3), some (.int v4)], []) (sh, I, J) Q)
    (k2 : ¬ (¬ (I a1 v4.toNatClampNeg) = (1 : Int32)) → xG d zm_M_putImage (134, [some (.ref r0), some (.int v1), some (.int v2), some (.int v3), some (.int v4)], []) (sh, I, J) Q) :
    xG d zm_M_putImage (123, [some (.ref r0), some (.int v1), some (.int v2), some (.int v3), some (.int v4)], []) (sh, I, J) Q := by
  obtain rfl := e0.eq
  obtain rfl := e1.eq
  exact xG_N 5 (ps := [xRf sh r0 10 27, xA sh (xrf sh r0 27) .int, vp_in v4 (xlen sh (xrf sh r0 27))]) (f1 := (131, [some (.ref r0), some (.int v1), some (.int v2), some (.int v3), some (.int v4)], [.int (1 : Int32), .int (I (xrf sh r0 27) v4.toNatClampNeg)])) (h1 := (sh, I, J)) rfl ⟨e0.rf, e1.ar, e2⟩ (xG_B rfl rfl k1 k2)
set_option maxRecDepth 100000 in
theorem s_M_putImage_134 {d : Nat} {Q : xO → xH → Prop} {sh : List xS} {I : Nat → Nat → Int32} {J : Nat → Nat → Int64} {r0 : Nat} {v1 : Int32} {v2 : Int32} {v3 : Int32} {v4 : Int32} {a1 : Nat} {n2 : Nat}
    (e0 : xRr sh r0 10 28 a1)
    (e1 : xAr sh a1 .int n2)
    (e2 : vp_in v4 n2)
    (k : xg d qM_prefixOf [.int (I a1 v4.toNatClampNeg)] (sh, I, J) (xI (fun v h1 => xG d zm_M_putImage (149, [some (.ref r0), some (.int v1), some (.int v2), some (.int v3), some (.int v4)], [.int v, .int (256 : Int32), .int (0 : Int32), .ref r0]) h1 Q) (fun x h1 => Q (.inr x) h1))) :
    xG d zm_M_putImage (134, [some (.ref r0), some (.int v1), some (.int v2), some (.int v3), some (.int v4)], []) (sh, I, J) Q := by
  obtain rfl := e0.eq
  obtain rfl := e1.eq
  exact xG_N 7 (ps := [xRf sh r0 10 28, xA sh (xrf sh r0 28) .int, vp_in v4 (xlen sh (xrf sh r0 28))]) (f1 := (146, [some (.ref r0), some (.int v1), some (.int v2), some (.int v3), some (.int v4)], [.int (I (xrf sh r0 28) v4.toNatClampNeg), .int (256 : Int32), .int (0 : Int32), .ref r0])) (h1 := (sh, I, J)) rfl ⟨e0.rf, e1.ar, e2⟩ (xG_Ci rfl rfl (Nat.le_of_ble_eq_true rfl) (Nat.le_of_ble_eq_true rfl) trivial rfl k)
set_option maxRecDepth 100000 in
theorem s_M_putImage_149 {d : Nat} {Q : xO → xH → Prop} {sh : List xS} {I : Nat → Nat → Int32} {J : Nat → Nat → Int64} {r0 : Nat} {v1 : Int32} {v2 : Int32} {v3 : Int32} {v4 : Int32} {t0 : Nat} {t1 : Int32} {t2 : Int32} {t3 : Int32}
    (ko : xOb sh t0 10)
    (k : xg d qM_putSymbol [.ref t0, .int t1, .int (t2 + t3)] (sh, I, J) (xU (fun h1 => xG d zm_M_putImage (153, [some (.ref r0), some (.int v1), some (.int v2), some (.int v3), some (.int v4)], []) h1 Q) (fun x h1 => Q (.inr x) h1))) :
    xG d zm_M_putImage (149, [some (.ref r0), some (.int v1), some (.int v2), some (.int v3), some (.int v4)], [.int t3, .int t2, .int t1, .ref t0]) (sh, I, J) Q := by
  exact xG_N 1 (ps := []) (f1 := (150, [some (.ref r0), some (.int v1), some (.int v2), some (.int v3), some (.int v4)], [.int (t2 + t3), .int t1, .ref t0])) (h1 := (sh, I, J)) rfl trivial (xG_Cu rfl rfl (Nat.le_of_ble_eq_true rfl) (Nat.le_of_ble_eq_true rfl) ⟨_, _, rfl, ko⟩ rfl k)
set_option maxRecDepth 100000 in
theorem s_M_putImage_153 {d : Nat} {Q : xO → xH → Prop} {sh : List xS} {I : Nat → Nat → Int32} {J : Nat → Nat → Int64} {r0 : Nat} {v1 : Int32} {v2 : Int32} {v3 : Int32} {v4 : Int32} {a1 : Nat} {n2 : Nat}
    (e0 : xRr sh r0 10 28 a1)
    (e1 : xAr sh a1 .int n2)
    (e2 : vp_in v4 n2)
    (k : xg d qM_putRest [.ref r0, .int (I a1 v4.toNatClampNeg)] (sh, I, J) (xU (fun h1 => xG d zm_M_putImage (164, [some (.ref r0), some (.int v1), some (.int v2), some (.int v3), some (.int v4)], []) h1 Q) (fun x h1 => Q (.inr x) h1))) :
    xG d zm_M_putImage (153, [some (.ref r0), some (.int v1), some (.int v2), some (.int v3), some (.int v4)], []) (sh, I, J) Q := by
  obtain rfl := e0.eq
  obtain rfl := e1.eq
  exact xG_N 5 (ps := [xRf sh r0 10 28, xA sh (xrf sh r0 28) .int, vp_in v4 (xlen sh (xrf sh r0 28))]) (f1 := (161, [some (.ref r0), some (.int v1), some (.int v2), some (.int v3), some (.int v4)], [.int (I (xrf sh r0 28) v4.toNatClampNeg), .ref r0])) (h1 := (sh, I, J)) rfl ⟨e0.rf, e1.ar, e2⟩ (xG_Cu rfl rfl (Nat.le_of_ble_eq_true rfl) (Nat.le_of_ble_eq_true rfl) ⟨_, _, rfl, e0.ob⟩ rfl k)
set_option maxRecDepth 100000 in
theorem s_M_putImage_164 {d : Nat} {Q : xO → xH → Prop} {sh : List xS} {I : Nat → Nat → Int32} {J : Nat → Nat → Int64} {r0 : Nat} {v1 : Int32} {v2 : Int32} {v3 : Int32} {v4 : Int32} {a1 : Nat} {n2 : Nat}
    (e0 : xRr sh r0 10 29 a1)
    (e1 : xAr sh a1 .int n2)
    (e2 : vp_in v4 n2)
    (k : xg d qM_prefixOf [.int ((I a1 v4.toNatClampNeg) + (8 : Int32))] (sh, I, J) (xI (fun v h1 => xG d zm_M_putImage (179, [some (.ref r0), some (.int v1), some (.int v2), some (.int v3), some (.int v4)], [.int v, .int (4 : Int32), .ref r0]) h1 Q) (fun x h1 => Q (.inr x) h1))) :
    xG d zm_M_putImage (164, [some (.ref r0), some (.int v1), some (.int v2), some (.int v3), some (.int v4)], []) (sh, I, J) Q := by
  obtain rfl := e0.eq
  obtain rfl := e1.eq
  exact xG_N 8 (ps := [xRf sh r0 10 29, xA sh (xrf sh r0 29) .int, vp_in v4 (xlen sh (xrf sh r0 29))]) (f1 := (176, [some (.ref r0), some (.int v1), some (.int v2), some (.int v3), some (.int v4)], [.int ((I (xrf sh r0 29) v4.toNatClampNeg) + (8 : Int32)), .int (4 : Int32), .ref r0])) (h1 := (sh, I, J)) rfl ⟨e0.rf, e1.ar, e2⟩ (xG_Ci rfl rfl (Nat.le_of_ble_eq_true rfl) (Nat.le_of_ble_eq_true rfl) trivial rfl k)
set_option maxRecDepth 100000 in
theorem s_M_putImage_179 {d : Nat} {Q : xO → xH → Prop} {sh : List xS} {I : Nat → Nat → Int32} {J : Nat → Nat → Int64} {r0 : Nat} {v1 : Int32} {v2 : Int32} {v3 : Int32} {v4 : Int32} {t0 : Nat} {t1 : Int32} {t2 : Int32}
    (ko : xOb sh t0 10)
    (k : xg d qM_putSymbol [.ref t0, .int t1, .int t2] (sh, I, J) (xU (fun h1 => xG d zm_M_putImage (182, [some (.ref r0), some (.int v1), some (.int v2), some (.int v3), some (.int v4)], []) h1 Q) (fun x h1 => Q (.inr x) h1))) :
    xG d zm_M_putImage (179, [some (.ref r0), some (.int v1), some (.int v2), some (.int v3), some (.int v4)], [.int t2, .int t1, .ref t0]) (sh, I, J) Q := by
  exact xG_Cu rfl rfl (Nat.le_of_ble_eq_true rfl) (Nat.le_of_ble_eq_true rfl) ⟨_, _, rfl, ko⟩ rfl k
set_option maxRecDepth 100000 in
theorem s_M_putImage_182 {d : Nat} {Q : xO → xH → Prop} {sh : List xS} {I : Nat → Nat → Int32} {J : Nat → Nat → Int64} {r0 : Nat} {v1 : Int32} {v2 : Int32} {v3 : Int32} {v4 : Int32} {a1 : Nat} {n2 : Nat}
    (e0 : xRr sh r0 10 29 a1)
    (e1 : xAr sh a1 .int n2)
    (e2 : vp_in v4 n2)
    (k : xg d qM_putRest [.ref r0, .int ((I a1 v4.toNatClampNeg) + (8 : Int32))] (sh, I, J) (xU (fun h1 => xG d zm_M_putImage (196, [some (.ref r0), some (.int v1), some (.int v2), some (.int v3), some (.int v4)], []) h1 Q) (fun x h1 => Q (.inr x) h1))) :
    xG d zm_M_putImage (182, [some (.ref r0), some (.int v1), some (.int v2), some (.int v3), some (.int v4)], []) (sh, I, J) Q := by
  obtain rfl := e0.eq
  obtain rfl := e1.eq
  exact xG_N 7 (ps := [xRf sh r0 10 29, xA sh (xrf sh r0 29) .int, vp_in v4 (xlen sh (xrf sh r0 29))]) (f1 := (193, [some (.ref r0), some (.int v1), some (.int v2), some (.int v3), some (.int v4)], [.int ((I (xrf sh r0 29) v4.toNatClampNeg) + (8 : Int32)), .ref r0])) (h1 := (sh, I, J)) rfl ⟨e0.rf, e1.ar, e2⟩ (xG_Cu rfl rfl (Nat.le_of_ble_eq_true rfl) (Nat.le_of_ble_eq_true rfl) ⟨_, _, rfl, e0.ob⟩ rfl k)
set_option maxRecDepth 100000 in
theorem s_M_putImage_196 {d : Nat} {Q : xO → xH → Prop} {sh : List xS} {I : Nat → Nat → Int32} {J : Nat → Nat → Int64} {r0 : Nat} {v1 : Int32} {v2 : Int32} {v3 : Int32} {v4 : Int32}
    (k : xG d zm_M_putImage (114, [some (.ref r0), some (.int v1), some (.int v2), some (.int v3), some (.int (v4 + (1 : Int32)))], []) (sh, I, J) Q) :
    xG d zm_M_putImage (196, [some (.ref r0), some (.int v1), some (.int v2), some (.int v3), some (.int v4)], []) (sh, I, J) Q := by
  exact xG_N 3 (ps := []) (f1 := (114, [some (.ref r0), some (.int v1), some (.int v2), some (.int v3), some (.int (v4 + (1 : Int32)))], [])) (h1 := (sh, I, J)) rfl trivial (k)
set_option maxRecDepth 100000 in
theorem s_M_putImage_199 {d : Nat} {Q : xO → xH → Prop} {sh : List xS} {I : Nat → Nat → Int32} {J : Nat → Nat → Int64} {r0 : Nat} {v1 : Int32} {v2 : Int32} {v3 : Int32} {v4 : Int32} {a1 : Nat} {n2 : Nat}
    (e0 : xRr sh r0 10 27 a1)
    (e1 : xAr sh a1 .int n2)
    (e2 : vp_in v4 n2)
    (k1 : ¬ (I a1 v4.toNatClampNeg) = (2 : Int32) → xG d zm_M_putImage (229, [some (.ref r0), some (.int v1), some (.int v2), some (.int v3), some (.int v4)], []) (sh, I, J) Q)
    (k2 : ¬ (¬ (I a1 v4.toNatClampNeg) = (2 : Int32)) → xG d zm_M_putImage (210, [some (.ref r0), some (.int v1), some (.int v2), some (.int v3), some (.int v4)], []) (sh, I, J) Q) :
    xG d zm_M_putImage (199, [some (.ref r0), some (.int v1), some (.int v2), some (.int v3), some (.int v4)], []) (sh, I, J) Q := by
  obtain rfl := e0.eq
  obtain rfl := e1.eq
  exact xG_N 5 (ps := [xRf sh r0 10 27, xA sh (xrf sh r0 27) .int, vp_in v4 (xlen sh (xrf sh r0 27))]) (f1 := (207, [some (.ref r0), some (.int v1), some (.int v2), some (.int v3), some (.int v4)], [.int (2 : Int32), .int (I (xrf sh r0 27) v4.toNatClampNeg)])) (h1 := (sh, I, J)) rfl ⟨e0.rf, e1.ar, e2⟩ (xG_B rfl rfl k1 k2)
set_option maxRecDepth 100000 in
theorem s_M_putImage_210 {d : Nat} {Q : xO → xH → Prop} {sh : List xS} {I : Nat → Nat → Int32} {J : Nat → Nat → Int64} {r0 : Nat} {v1 : Int32} {v2 : Int32} {v3 : Int32} {v4 : Int32} {a1 : Nat} {n2 : Nat}
    (e0 : xRr sh r0 10 28 a1)
    (e1 : xAr sh a1 .int n2)
    (e2 : vp_in v4 n2)
    (k : xg d qM_putSymbol [.ref r0, .int (0 : Int32), .int ((280 : Int32) + (I a1 v4.toNatClampNeg))] (sh, I, J) (xU (fun h1 => xG d zm_M_putImage (226, [some (.ref r0), some (.int v1), some (.int v2), some (.int v3), some (.int v4)], []) h1 Q) (fun x h1 => Q (.inr x) h1))) :
    xG d zm_M_putImage (210, [some (.ref r0), some (.int v1), some (.int v2), some (.int v3), some (.int v4)], []) (sh, I, J) Q := by
  obtain rfl := e0.eq
  obtain rfl := e1.eq
  exact xG_N 8 (ps := [xRf sh r0 10 28, xA sh (xrf sh r0 28) .int, vp_in v4 (xlen sh (xrf sh r0 28))]) (f1 := (223, [some (.ref r0), some (.int v1), some (.int v2), some (.int v3), some (.int v4)], [.int ((280 : Int32) + (I (xrf sh r0 28) v4.toNatClampNeg)), .int (0 : Int32), .ref r0])) (h1 := (sh, I, J)) rfl ⟨e0.rf, e1.ar, e2⟩ (xG_Cu rfl rfl (Nat.le_of_ble_eq_true rfl) (Nat.le_of_ble_eq_true rfl) ⟨_, _, rfl, e0.ob⟩ rfl k)
set_option maxRecDepth 100000 in
theorem s_M_putImage_226 {d : Nat} {Q : xO → xH → Prop} {sh : List xS} {I : Nat → Nat → Int32} {J : Nat → Nat → Int64} {r0 : Nat} {v1 : Int32} {v2 : Int32} {v3 : Int32} {v4 : Int32}
    (k : xG d zm_M_putImage (114, [some (.ref r0), some (.int v1), some (.int v2), some (.int v3), some (.int (v4 + (1 : Int32)))], []) (sh, I, J) Q) :
    xG d zm_M_putImage (226, [some (.ref r0), some (.int v1), some (.int v2), some (.int v3), some (.int v4)], []) (sh, I, J) Q := by
  exact xG_N 3 (ps := []) (f1 := (114, [some (.ref r0), some (.int v1), some (.int v2), some (.int v3), some (.int (v4 + (1 : Int32)))], [])) (h1 := (sh, I, J)) rfl trivial (k)
set_option maxRecDepth 100000 in
theorem s_M_putImage_229 {d : Nat} {Q : xO → xH → Prop} {sh : List xS} {I : Nat → Nat → Int32} {J : Nat → Nat → Int64} {r0 : Nat} {v1 : Int32} {v2 : Int32} {v3 : Int32} {v4 : Int32} {a1 : Nat} {n2 : Nat}
    (e0 : xRr sh r0 10 28 a1)
    (e1 : xAr sh a1 .int n2)
    (e2 : vp_in v4 n2)
    (k : xg d qM_part [.int (I a1 v4.toNatClampNeg), .int (1 : Int32)] (sh, I, J) (xI (fun v h1 => xG d zm_M_putImage (242, [some (.ref r0), some (.int v1), some (.int v2), some (.int v3), some (.int v4)], [.int v, .int (0 : Int32), .ref r0]) h1 Q) (fun x h1 => Q (.inr x) h1))) :
    xG d zm_M_putImage (229, [some (.ref r0), some (.int v1), some (.int v2), some (.int v3), some (.int v4)], []) (sh, I, J) Q := by
  obtain rfl := e0.eq
  obtain rfl := e1.eq
  exact xG_N 7 (ps := [xRf sh r0 10 28, xA sh (xrf sh r0 28) .int, vp_in v4 (xlen sh (xrf sh r0 28))]) (f1 := (239, [some (.ref r0), some (.int v1), some (.int v2), some (.int v3), some (.int v4)], [.int (1 : Int32), .int (I (xrf sh r0 28) v4.toNatClampNeg), .int (0 : Int32), .ref r0])) (h1 := (sh, I, J)) rfl ⟨e0.rf, e1.ar, e2⟩ (xG_Ci rfl rfl (Nat.le_of_ble_eq_true rfl) (Nat.le_of_ble_eq_true rfl) trivial rfl k)
set_option maxRecDepth 100000 in
theorem s_M_putImage_242 {d : Nat} {Q : xO → xH → Prop} {sh : List xS} {I : Nat → Nat → Int32} {J : Nat → Nat → Int64} {r0 : Nat} {v1 : Int32} {v2 : Int32} {v3 : Int32} {v4 : Int32} {t0 : Nat} {t1 : Int32} {t2 : Int32}
    (ko : xOb sh t0 10)
    (k : xg d qM_putSymbol [.ref t0, .int t1, .int t2] (sh, I, J) (xU (fun h1 => xG d zm_M_putImage (245, [some (.ref r0), some (.int v1), some (.int v2), some (.int v3), some (.int v4)], []) h1 Q) (fun x h1 => Q (.inr x) h1))) :
    xG d zm_M_putImage (242, [some (.ref r0), some (.int v1), some (.int v2), some (.int v3), some (.int v4)], [.int t2, .int t1, .ref t0]) (sh, I, J) Q := by
  exact xG_Cu rfl rfl (Nat.le_of_ble_eq_true rfl) (Nat.le_of_ble_eq_true rfl) ⟨_, _, rfl, ko⟩ rfl k
set_option maxRecDepth 100000 in
theorem s_M_putImage_245 {d : Nat} {Q : xO → xH → Prop} {sh : List xS} {I : Nat → Nat → Int32} {J : Nat → Nat → Int64} {r0 : Nat} {v1 : Int32} {v2 : Int32} {v3 : Int32} {v4 : Int32} {a1 : Nat} {n2 : Nat}
    (e0 : xRr sh r0 10 28 a1)
    (e1 : xAr sh a1 .int n2)
    (e2 : vp_in v4 n2)
    (k : xg d qM_part [.int (I a1 v4.toNatClampNeg), .int (2 : Int32)] (sh, I, J) (xI (fun v h1 => xG d zm_M_putImage (258, [some (.ref r0), some (.int v1), some (.int v2), some (.int v3), some (.int v4)], [.int v, .int (1 : Int32), .ref r0]) h1 Q) (fun x h1 => Q (.inr x) h1))) :
    xG d zm_M_putImage (245, [some (.ref r0), some (.int v1), some (.int v2), some (.int v3), some (.int v4)], []) (sh, I, J) Q := by
  obtain rfl := e0.eq
  obtain rfl := e1.eq
  exact xG_N 7 (ps := [xRf sh r0 10 28, xA sh (xrf sh r0 28) .int, vp_in v4 (xlen sh (xrf sh r0 28))]) (f1 := (255, [some (.ref r0), some (.int v1), some (.int v2), some (.int v3), some (.int v4)], [.int (2 : Int32), .int (I (xrf sh r0 28) v4.toNatClampNeg), .int (1 : Int32), .ref r0])) (h1 := (sh, I, J)) rfl ⟨e0.rf, e1.ar, e2⟩ (xG_Ci rfl rfl (Nat.le_of_ble_eq_true rfl) (Nat.le_of_ble_eq_true rfl) trivial rfl k)
set_option maxRecDepth 100000 in
theorem s_M_putImage_258 {d : Nat} {Q : xO → xH → Prop} {sh : List xS} {I : Nat → Nat → Int32} {J : Nat → Nat → Int64} {r0 : Nat} {v1 : Int32} {v2 : Int32} {v3 : Int32} {v4 : Int32} {t0 : Nat} {t1 : Int32} {t2 : Int32}
    (ko : xOb sh t0 10)
    (k : xg d qM_putSymbol [.ref t0, .int t1, .int t2] (sh, I, J) (xU (fun h1 => xG d zm_M_putImage (261, [some (.ref r0), some (.int v1), some (.int v2), some (.int v3), some (.int v4)], []) h1 Q) (fun x h1 => Q (.inr x) h1))) :
    xG d zm_M_putImage (258, [some (.ref r0), some (.int v1), some (.int v2), some (.int v3), some (.int v4)], [.int t2, .int t1, .ref t0]) (sh, I, J) Q := by
  exact xG_Cu rfl rfl (Nat.le_of_ble_eq_true rfl) (Nat.le_of_ble_eq_true rfl) ⟨_, _, rfl, ko⟩ rfl k
set_option maxRecDepth 100000 in
theorem s_M_putImage_261 {d : Nat} {Q : xO → xH → Prop} {sh : List xS} {I : Nat → Nat → Int32} {J : Nat → Nat → Int64} {r0 : Nat} {v1 : Int32} {v2 : Int32} {v3 : Int32} {v4 : Int32} {a1 : Nat} {n2 : Nat}
    (e0 : xRr sh r0 10 28 a1)
    (e1 : xAr sh a1 .int n2)
    (e2 : vp_in v4 n2)
    (k : xg d qM_part [.int (I a1 v4.toNatClampNeg), .int (0 : Int32)] (sh, I, J) (xI (fun v h1 => xG d zm_M_putImage (274, [some (.ref r0), some (.int v1), some (.int v2), some (.int v3), some (.int v4)], [.int v, .int (2 : Int32), .ref r0]) h1 Q) (fun x h1 => Q (.inr x) h1))) :
    xG d zm_M_putImage (261, [some (.ref r0), some (.int v1), some (.int v2), some (.int v3), some (.int v4)], []) (sh, I, J) Q := by
  obtain rfl := e0.eq
  obtain rfl := e1.eq
  exact xG_N 7 (ps := [xRf sh r0 10 28, xA sh (xrf sh r0 28) .int, vp_in v4 (xlen sh (xrf sh r0 28))]) (f1 := (271, [some (.ref r0), some (.int v1), some (.int v2), some (.int v3), some (.int v4)], [.int (0 : Int32), .int (I (xrf sh r0 28) v4.toNatClampNeg), .int (2 : Int32), .ref r0])) (h1 := (sh, I, J)) rfl ⟨e0.rf, e1.ar, e2⟩ (xG_Ci rfl rfl (Nat.le_of_ble_eq_true rfl) (Nat.le_of_ble_eq_true rfl) trivial rfl k)
set_option maxRecDepth 100000 in
theorem s_M_putImage_274 {d : Nat} {Q : xO → xH → Prop} {sh : List xS} {I : Nat → Nat → Int32} {J : Nat → Nat → Int64} {r0 : Nat} {v1 : Int32} {v2 : Int32} {v3 : Int32} {v4 : Int32} {t0 : Nat} {t1 : Int32} {t2 : Int32}
    (ko : xOb sh t0 10)
    (k : xg d qM_putSymbol [.ref t0, .int t1, .int t2] (sh, I, J) (xU (fun h1 => xG d zm_M_putImage (277, [some (.ref r0), some (.int v1), some (.int v2), some (.int v3), some (.int v4)], []) h1 Q) (fun x h1 => Q (.inr x) h1))) :
    xG d zm_M_putImage (274, [some (.ref r0), some (.int v1), some (.int v2), some (.int v3), some (.int v4)], [.int t2, .int t1, .ref t0]) (sh, I, J) Q := by
  exact xG_Cu rfl rfl (Nat.le_of_ble_eq_true rfl) (Nat.le_of_ble_eq_true rfl) ⟨_, _, rfl, ko⟩ rfl k
set_option maxRecDepth 100000 in
theorem s_M_putImage_277 {d : Nat} {Q : xO → xH → Prop} {sh : List xS} {I : Nat → Nat → Int32} {J : Nat → Nat → Int64} {r0 : Nat} {v1 : Int32} {v2 : Int32} {v3 : Int32} {v4 : Int32} {a1 : Nat} {n2 : Nat}
    (e0 : xRr sh r0 10 28 a1)
    (e1 : xAr sh a1 .int n2)
    (e2 : vp_in v4 n2)
    (k : xg d qM_part [.int (I a1 v4.toNatClampNeg), .int (3 : Int32)] (sh, I, J) (xI (fun v h1 => xG d zm_M_putImage (290, [some (.ref r0), some (.int v1), some (.int v2), some (.int v3), some (.int v4)], [.int v, .int (3 : Int32), .ref r0]) h1 Q) (fun x h1 => Q (.inr x) h1))) :
    xG d zm_M_putImage (277, [some (.ref r0), some (.int v1), some (.int v2), some (.int v3), some (.int v4)], []) (sh, I, J) Q := by
  obtain rfl := e0.eq
  obtain rfl := e1.eq
  exact xG_N 7 (ps := [xRf sh r0 10 28, xA sh (xrf sh r0 28) .int, vp_in v4 (xlen sh (xrf sh r0 28))]) (f1 := (287, [some (.ref r0), some (.int v1), some (.int v2), some (.int v3), some (.int v4)], [.int (3 : Int32), .int (I (xrf sh r0 28) v4.toNatClampNeg), .int (3 : Int32), .ref r0])) (h1 := (sh, I, J)) rfl ⟨e0.rf, e1.ar, e2⟩ (xG_Ci rfl rfl (Nat.le_of_ble_eq_true rfl) (Nat.le_of_ble_eq_true rfl) trivial rfl k)
set_option maxRecDepth 100000 in
theorem s_M_putImage_290 {d : Nat} {Q : xO → xH → Prop} {sh : List xS} {I : Nat → Nat → Int32} {J : Nat → Nat → Int64} {r0 : Nat} {v1 : Int32} {v2 : Int32} {v3 : Int32} {v4 : Int32} {t0 : Nat} {t1 : Int32} {t2 : Int32}
    (ko : xOb sh t0 10)
    (k : xg d qM_putSymbol [.ref t0, .int t1, .int t2] (sh, I, J) (xU (fun h1 => xG d zm_M_putImage (293, [some (.ref r0), some (.int v1), some (.int v2), some (.int v3), some (.int v4)], []) h1 Q) (fun x h1 => Q (.inr x) h1))) :
    xG d zm_M_putImage (290, [some (.ref r0), some (.int v1), some (.int v2), some (.int v3), some (.int v4)], [.int t2, .int t1, .ref t0]) (sh, I, J) Q := by
  exact xG_Cu rfl rfl (Nat.le_of_ble_eq_true rfl) (Nat.le_of_ble_eq_true rfl) ⟨_, _, rfl, ko⟩ rfl k
set_option maxRecDepth 100000 in
theorem s_M_putImage_293 {d : Nat} {Q : xO → xH → Prop} {sh : List xS} {I : Nat → Nat → Int32} {J : Nat → Nat → Int64} {r0 : Nat} {v1 : Int32} {v2 : Int32} {v3 : Int32} {v4 : Int32}
    (k : xG d zm_M_putImage (114, [some (.ref r0), some (.int v1), some (.int v2), some (.int v3), some (.int (v4 + (1 : Int32)))], []) (sh, I, J) Q) :
    xG d zm_M_putImage (293, [some (.ref r0), some (.int v1), some (.int v2), some (.int v3), some (.int v4)], []) (sh, I, J) Q := by
  exact xG_N 2 (ps := []) (f1 := (114, [some (.ref r0), some (.int v1), some (.int v2), some (.int v3), some (.int (v4 + (1 : Int32)))], [])) (h1 := (sh, I, J)) rfl trivial (k)
set_option maxRecDepth 100000 in
theorem s_M_putImage_299 {d : Nat} {Q : xO → xH → Prop} {sh : List xS} {I : Nat → Nat → Int32} {J : Nat → Nat → Int64} {r0 : Nat} {v1 : Int32} {v2 : Int32} {v3 : Int32} {v4 : Int32}
    (k : Q (.inl (none)) (sh, I, J)) :
    xG d zm_M_putImage (299, [some (.ref r0), some (.int v1), some (.int v2), some (.int v3), some (.int v4)], []) (sh, I, J) Q := by
  exact xG_Q rfl rfl trivial k
set_option maxRecDepth 100000 in
theorem s_M_isLess_0 {d : Nat} {Q : xO → xH → Prop} {sh : List xS} {I : Nat → Nat → Int32} {J : Nat → Nat → Int64} {v0 : Int32} {v1 : Int32}
    (k1 : (v1 ^^^ (-2147483648 : Int32)) ≤ (v0 ^^^ (-2147483648 : Int32)) → xG d zm_M_isLess (17, [some (.int v0), some (.int v1)], []) (sh, I, J) Q)
    (k2 : ¬ ((v1 ^^^ (-2147483648 : Int32)) ≤ (v0 ^^^ (-2147483648 : Int32))) → xG d zm_M_isLess (13, [some (.int v0), some (.int v1)], []) (sh, I, J) Q) :
    xG d zm_M_isLess (0, [some (.int v0), some (.int v1)], []) (sh, I, J) Q := by
  exact xG_N 6 (ps := []) (f1 := (10, [some (.int v0), some (.int v1)], [.int (v1 ^^^ (-2147483648 : Int32)), .int (v0 ^^^ (-2147483648 : Int32))])) (h1 := (sh, I, J)) rfl trivial (xG_B rfl rfl k1 k2)
set_option maxRecDepth 100000 in
theorem s_M_isLess_13 {d : Nat} {Q : xO → xH → Prop} {sh : List xS} {I : Nat → Nat → Int32} {J : Nat → Nat → Int64} {v0 : Int32} {v1 : Int32}
    (k : Q (.inl (some (.int (1 : Int32)))) (sh, I, J)) :
    xG d zm_M_isLess (13, [some (.int v0), some (.int v1)], []) (sh, I, J) Q := by
  exact xG_N 2 (ps := []) (f1 := (18, [some (.int v0), some (.int v1)], [.int (1 : Int32)])) (h1 := (sh, I, J)) rfl trivial (xG_Q rfl rfl (show ((1 : Int32) : Int32) = 0 ∨ ((1 : Int32) : Int32) = 1 by decide) k)
set_option maxRecDepth 100000 in
theorem s_M_isLess_17 {d : Nat} {Q : xO → xH → Prop} {sh : List xS} {I : Nat → Nat → Int32} {J : Nat → Nat → Int64} {v0 : Int32} {v1 : Int32}
    (k : Q (.inl (some (.int (0 : Int32)))) (sh, I, J)) :
    xG d zm_M_isLess (17, [some (.int v0), some (.int v1)], []) (sh, I, J) Q := by
  exact xG_N 1 (ps := []) (f1 := (18, [some (.int v0), some (.int v1)], [.int (0 : Int32)])) (h1 := (sh, I, J)) rfl trivial (xG_Q rfl rfl (show ((0 : Int32) : Int32) = 0 ∨ ((0 : Int32) : Int32) = 1 by decide) k)
set_option maxRecDepth 100000 in
theorem s_M_findColours_0 {d : Nat} {Q : xO → xH → Prop} {sh : List xS} {I : Nat → Nat → Int32} {J : Nat → Nat → Int64} {r0 : Nat}
    (e0 : xOb sh r0 10)
    (k : xg d qM_differentColours [.ref r0] (sh, xup I r0 26 (0 : Int32), J) (xI (fun v h1 => xG d zm_M_findColours (9, [some (.ref r0), none, none, none, none, none, none], [.int v]) h1 Q) (fun x h1 => Q (.inr x) h1))) :
    xG d zm_M_findColours (0, [some (.ref r0), none, none, none, none, none, none], []) (sh, I, J) Q := by
  exact xG_N 4 (ps := [xOb sh r0 10]) (f1 := (6, [some (.ref r0), none, none, none, none, none, none], [.ref r0])) (h1 := (sh, xup I r0 26 (0 : Int32), J)) rfl e0 (xG_Ci rfl rfl (Nat.le_of_ble_eq_true rfl) (Nat.le_of_ble_eq_true rfl) ⟨_, _, rfl, e0⟩ rfl k)
set_option maxRecDepth 100000 in
theorem s_M_findColours_9 {d : Nat} {Q : xO → xH → Prop} {sh : List xS} {I : Nat → Nat → Int32} {J : Nat → Nat → Int64} {r0 : Nat} {t0 : Int32}
    (k : xG d zm_M_findColours (12, [some (.ref r0), some (.int t0), some (.int (0 : Int32)), none, none, none, none], []) (sh, I, J) Q) :
    xG d zm_M_findColours (9, [some (.ref r0), none, none, none, none, none, none], [.int t0]) (sh, I, J) Q := by
  exact xG_N 3 (ps := []) (f1 := (12, [some (.ref r0), some (.int t0), some (.int (0 : Int32)), none, none, none, none], [])) (h1 := (sh, I, J)) rfl trivial (k)
set_option maxRecDepth 100000 in
theorem s_M_findColours_12 {d : Nat} {Q : xO → xH → Prop} {sh : List xS} {I : Nat → Nat → Int32} {J : Nat → Nat → Int64} {r0 : Nat} {v1 : Int32} {v2 : Int32} {o3 : Option Value} {o4 : Option Value} {o5 : Option Value} {o6 : Option Value}
    (e0 : xOb sh r0 10)
    (k1 : v1 ≤ (I r0 26) → xG d zm_M_findColours (136, [some (.ref r0), some (.int v1), some (.int v2), o3, o4, o5, o6], []) (sh, I, J) Q)
    (k2 : ¬ (v1 ≤ (I r0 26)) → xG d zm_M_findColours (20, [some (.ref r0), some (.int v1), some (.int v2), o3, o4, o5, o6], []) (sh, I, J) Q) :
    xG d zm_M_findColours (12, [some (.ref r0), some (.int v1), some (.int v2), o3, o4, o5, o6], []) (sh, I, J) Q := by
  exact xG_N 3 (ps := [xOb sh r0 10]) (f1 := (17, [some (.ref r0), some (.int v1), some (.int v2), o3, o4, o5, o6], [.int v1, .int (I r0 26)])) (h1 := (sh, I, J)) rfl e0 (xG_B rfl rfl k1 k2)
set_option maxRecDepth 100000 in
theorem s_M_findColours_20 {d : Nat} {Q : xO → xH → Prop} {sh : List xS} {I : Nat → Nat → Int32} {J : Nat → Nat → Int64} {r0 : Nat} {v1 : Int32} {v2 : Int32} {o3 : Option Value} {o4 : Option Value} {o5 : Option Value} {o6 : Option Value}
    (k : xG d zm_M_findColours (28, [some (.ref r0), some (.int v1), some (.int v2), some (.int (0 : Int32)), some (.int (0 : Int32)), some (.int (0 : Int32)), o6], []) (sh, I, J) Q) :
    xG d zm_M_findColours (20, [some (.ref r0), some (.int v1), some (.int v2), o3, o4, o5, o6], []) (sh, I, J) Q := by
  exact xG_N 6 (ps := []) (f1 := (28, [some (.ref r0), some (.int v1), some (.int v2), some (.int (0 : Int32)), some (.int (0 : Int32)), some (.int (0 : Int32)), o6], [])) (h1 := (sh, I, J)) rfl trivial (k)
set_option maxRecDepth 100000 in
theorem s_M_findColours_28 {d : Nat} {Q : xO → xH → Prop} {sh : List xS} {I : Nat → Nat → Int32} {J : Nat → Nat → Int64} {r0 : Nat} {v1 : Int32} {v2 : Int32} {v3 : Int32} {v4 : Int32} {v5 : Int32} {o6 : Option Value}
    (e0 : xOb sh r0 10)
    (k1 : ((I r0 1) * (I r0 2)) ≤ v5 → xG d zm_M_findColours (111, [some (.ref r0), some (.int v1), some (.int v2), some (.int v3), some (.int v4), some (.int v5), o6], []) (sh, I, J) Q)
    (k2 : ¬ (((I r0 1) * (I r0 2)) ≤ v5) → xG d zm_M_findColours (42, [some (.ref r0), some (.int v1), some (.int v2), some (.int v3), some (.int v4), some (.int v5), o6], []) (sh, I, J) Q) :
    xG d zm_M_findColours (28, [some (.ref r0), some (.int v1), some (.int v2), some (.int v3), some (.int v4), some (.int v5), o6], []) (sh, I, J) Q := by
  exact xG_N 6 (ps := [xOb sh r0 10, xOb sh r0 10]) (f1 := (39, [some (.ref r0), some (.int v1), some (.int v2), some (.int v3), some (.int v4), some (.int v5), o6], [.int ((I r0 1) * (I r0 2)), .int v5])) (h1 := (sh, I, J)) rfl ⟨e0, e0⟩ (xG_B rfl rfl k1 k2)
set_option maxRecDepth 100000 in
theorem s_M_findColours_42 {d : Nat} {Q : xO → xH → Prop} {sh : List xS} {I : Nat → Nat → Int32} {J : Nat → Nat → Int64} {r0 : Nat} {v1 : Int32} {v2 : Int32} {v3 : Int32} {v4 : Int32} {v5 : Int32} {o6 : Option Value}
    (e0 : xOb sh r0 10)
    (k1 : (I r0 26) = 0 → xG d zm_M_findColours (63, [some (.ref r0), some (.int v1), some (.int v2), some (.int v3), some (.int v4), some (.int v5), o6], []) (sh, I, J) Q)
    (k2 : ¬ ((I r0 26) = 0) → xG d zm_M_findColours (49, [some (.ref r0), some (.int v1), some (.int v2), some (.int v3), some (.int v4), some (.int v5), o6], []) (sh, I, J) Q) :
    xG d zm_M_findColours (42, [some (.ref r0), some (.int v1), some (.int v2), some (.int v3), some (.int v4), some (.int v5), o6], []) (sh, I, J) Q := by
  exact xG_N 2 (ps := [xOb sh r0 10]) (f1 := (46, [some (.ref r0), some (.int v1), some (.int v2), some (.int v3), some (.int v4), some (.int v5), o6], [.int (I r0 26)])) (h1 := (sh, I, J)) rfl e0 (xG_B rfl rfl k1 k2)
set_option maxRecDepth 100000 in
theorem s_M_findColours_49 {d : Nat} {Q : xO → xH → Prop} {sh : List xS} {I : Nat → Nat → Int32} {J : Nat → Nat → Int64} {r0 : Nat} {v1 : Int32} {v2 : Int32} {v3 : Int32} {v4 : Int32} {v5 : Int32} {o6 : Option Value} {a1 : Nat} {n2 : Nat}
    (e0 : xRr sh r0 10 3 a1)
    (e1 : xAr sh a1 .int n2)
    (e2 : vp_in v5 n2)
    (k : xg d qM_isLess [.int v2, .int (I a1 v5.toNatClampNeg)] (sh, I, J) (xI (fun v h1 => xG d zm_M_findColours (60, [some (.ref r0), some (.int v1), some (.int v2), some (.int v3), some (.int v4), some (.int v5), o6], [.int v]) h1 Q) (fun x h1 => Q (.inr x) h1))) :
    xG d zm_M_findColours (49, [some (.ref r0), some (.int v1), some (.int v2), some (.int v3), some (.int v4), some (.int v5), o6], []) (sh, I, J) Q := by
  obtain rfl := e0.eq
  obtain rfl := e1.eq
  exact xG_N 5 (ps := [xRf sh r0 10 3, xA sh (xrf sh r0 3) .int, vp_in v5 (xlen sh (xrf sh r0 3))]) (f1 := (57, [some (.ref r0), some (.int v1), some (.int v2), some (.int v3), some (.int v4), some (.int v5), o6], [.int (I (xrf sh r0 3) v5.toNatClampNeg), .int v2])) (h1 := (sh, I, J)) rfl ⟨e0.rf, e1.ar, e2⟩ (xG_Ci rfl rfl (Nat.le_of_ble_eq_true rfl) (Nat.le_of_ble_eq_true rfl) trivial rfl k)
set_option maxRecDepth 100000 in
theorem s_M_findColours_60 {d : Nat} {Q : xO → xH → Prop} {sh : List xS} {I : Nat → Nat → Int32} {J : Nat → Nat → Int64} {r0 : Nat} {v1 : Int32} {v2 : Int32} {v3 : Int32} {v4 : Int32} {v5 : Int32} {o6 : Option Value} {t0 : Int32}
    (k1 : t0 = 0 → xG d zm_M_findColours (67, [some (.ref r0), some (.int v1), some (.int v2), some (.int v3), some (.int v4), some (.int v5), o6], []) (sh, I, J) Q)
    (k2 : ¬ (t0 = 0) → xG d zm_M_findColours (63, [some (.ref r0), some (.int v1), some (.int v2), some (.int v3), some (.int v4), some (.int v5), o6], []) (sh, I, J) Q) :
    xG d zm_M_findColours (60, [some (.ref r0), some (.int v1), some (.int v2), some (.int v3), some (.int v4), some (.int v5), o6], [.int t0]) (sh, I, J) Q := by
  exact xG_B rfl rfl k1 k2
set_option maxRecDepth 100000 in
theorem s_M_findColours_63 {d : Nat} {Q : xO → xH → Prop} {sh : List xS} {I : Nat → Nat → Int32} {J : Nat → Nat → Int64} {r0 : Nat} {v1 : Int32} {v2 : Int32} {v3 : Int32} {v4 : Int32} {v5 : Int32} {o6 : Option Value}
    (k1 : (1 : Int32) = 0 → xG d zm_M_findColours (105, [some (.ref r0), some (.int v1), some (.int v2), some (.int v3), some (.int v4), some (.int v5), some (.int (1 : Int32))], []) (sh, I, J) Q)
    (k2 : ¬ ((1 : Int32) = 0) → xG d zm_M_findColours (75, [some (.ref r0), some (.int v1), some (.int v2), some (.int v3), some (.int v4), some (.int v5), some (.int (1 : Int32))], []) (sh, I, J) Q) :
    xG d zm_M_findColours (63, [some (.ref r0), some (.int v1), some (.int v2), some (.int v3), some (.int v4), some (.int v5), o6], []) (sh, I, J) Q := by
  exact xG_N 4 (ps := []) (f1 := (72, [some (.ref r0), some (.int v1), some (.int v2), some (.int v3), some (.int v4), some (.int v5), some (.int (1 : Int32))], [.int (1 : Int32)])) (h1 := (sh, I, J)) rfl trivial (xG_B rfl rfl k1 k2)
set_option maxRecDepth 100000 in
theorem s_M_findColours_67 {d : Nat} {Q : xO → xH → Prop} {sh : List xS} {I : Nat → Nat → Int32} {J : Nat → Nat → Int64} {r0 : Nat} {v1 : Int32} {v2 : Int32} {v3 : Int32} {v4 : Int32} {v5 : Int32} {o6 : Option Value}
    (k1 : (0 : Int32) = 0 → xG d zm_M_findColours (105, [some (.ref r0), some (.int v1), some (.int v2), some (.int v3), some (.int v4), some (.int v5), some (.int (0 : Int32))], []) (sh, I, J) Q)
    (k2 : ¬ ((0 : Int32) = 0) → xG d zm_M_findColours (75, [some (.ref r0), some (.int v1), some (.int v2), some (.int v3), some (.int v4), some (.int v5), some (.int (0 : Int32))], []) (sh, I, J) Q) :
    xG d zm_M_findColours (67, [some (.ref r0), some (.int v1), some (.int v2), some (.int v3), some (.int v4), some (.int v5), o6], []) (sh, I, J) Q := by
  exact xG_N 3 (ps := []) (f1 := (72, [some (.ref r0), some (.int v1), some (.int v2), some (.int v3), some (.int v4), some (.int v5), some (.int (0 : Int32))], [.int (0 : Int32)])) (h1 := (sh, I, J)) rfl trivial (xG_B rfl rfl k1 k2)
set_option maxRecDepth 100000 in
theorem s_M_findColours_75 {d : Nat} {Q : xO → xH → Prop} {sh : List xS} {I : Nat → Nat → Int32} {J : Nat → Nat → Int64} {r0 : Nat} {v1 : Int32} {v2 : Int32} {v3 : Int32} {v4 : Int32} {v5 : Int32} {v6 : Int32}
    (k1 : v4 = 0 → xG d zm_M_findColours (94, [some (.ref r0), some (.int v1), some (.int v2), some (.int v3), some (.int v4), some (.int v5), some (.int v6)], []) (sh, I, J) Q)
    (k2 : ¬ (v4 = 0) → xG d zm_M_findColours (80, [some (.ref r0), some (.int v1), some (.int v2), some (.int v3), some (.int v4), some (.int v5), some (.int v6)], []) (sh, I, J) Q) :
    xG d zm_M_findColours (75, [some (.ref r0), some (.int v1), some (.int v2), some (.int v3), some (.int v4), some (.int v5), some (.int v6)], []) (sh, I, J) Q := by
  exact xG_N 1 (ps := []) (f1 := (77, [some (.ref r0), some (.int v1), some (.int v2), some (.int v3), some (.int v4), some (.int v5), some (.int v6)], [.int v4])) (h1 := (sh, I, J)) rfl trivial (xG_B rfl rfl k1 k2)
set_option maxRecDepth 100000 in
theorem s_M_findColours_80 {d : Nat} {Q : xO → xH → Prop} {sh : List xS} {I : Nat → Nat → Int32} {J : Nat → Nat → Int64} {r0 : Nat} {v1 : Int32} {v2 : Int32} {v3 : Int32} {v4 : Int32} {v5 : Int32} {v6 : Int32} {a1 : Nat} {n2 : Nat}
    (e0 : xRr sh r0 10 3 a1)
    (e1 : xAr sh a1 .int n2)
    (e2 : vp_in v5 n2)
    (k : xg d qM_isLess [.int (I a1 v5.toNatClampNeg), .int v3] (sh, I, J) (xI (fun v h1 => xG d zm_M_findColours (91, [some (.ref r0), some (.int v1), some (.int v2), some (.int v3), some (.int v4), some (.int v5), some (.int v6)], [.int v]) h1 Q) (fun x h1 => Q (.inr x) h1))) :
    xG d zm_M_findColours (80, [some (.ref r0), some (.int v1), some (.int v2), some (.int v3), some (.int v4), some (.int v5), some (.int v6)], []) (sh, I, J) Q := by
  obtain rfl := e0.eq
  obtain rfl := e1.eq
  exact xG_N 5 (ps := [xRf sh r0 10 3, xA sh (xrf sh r0 3) .int, vp_in v5 (xlen sh (xrf sh r0 3))]) (f1 := (88, [some (.ref r0), some (.int v1), some (.int v2), some (.int v3), some (.int v4), some (.int v5), some (.int v6)], [.int v3, .int (I (xrf sh r0 3) v5.toNatClampNeg)])) (h1 := (sh, I, J)) rfl ⟨e0.rf, e1.ar, e2⟩ (xG_Ci rfl rfl (Nat.le_of_ble_eq_true rfl) (Nat.le_of_ble_eq_true rfl) trivial rfl k)
set_option maxRecDepth 100000 in
theorem s_M_findColours_91 {d : Nat} {Q : xO → xH → Prop} {sh : List xS} {I : Nat → Nat → Int32} {J : Nat → Nat → Int64} {r0 : Nat} {v1 : Int32} {v2 : Int32} {v3 : Int32} {v4 : Int32} {v5 : Int32} {v6 : Int32} {t0 : Int32}
    (k1 : t0 = 0 → xG d zm_M_findColours (105, [some (.ref r0), some (.int v1), some (.int v2), some (.int v3), some (.int v4), some (.int v5), some (.int v6)], []) (sh, I, J) Q)
    (k2 : ¬ (t0 = 0) → xG d zm_M_findColours (94, [some (.ref r0), some (.int v1), some (.int v2), some (.int v3), some (.int v4), some (.int v5), some (.int v6)], []) (sh, I, J) Q) :
    xG d zm_M_findColours (91, [some (.ref r0), some (.int v1), some (.int v2), some (.int v3), some (.int v4), some (.int v5), some (.int v6)], [.int t0]) (sh, I, J) Q := by
  exact xG_B rfl rfl k1 k2
set_option maxRecDepth 100000 in
theorem s_M_findColours_94 {d : Nat} {Q : xO → xH → Prop} {sh : List xS} {I : Nat → Nat → Int32} {J : Nat → Nat → Int64} {r0 : Nat} {v1 : Int32} {v2 : Int32} {v3 : Int32} {v4 : Int32} {v5 : Int32} {v6 : Int32} {a1 : Nat} {n2 : Nat}
    (e0 : xRr sh r0 10 3 a1)
    (e1 : xAr sh a1 .int n2)
    (e2 : vp_in v5 n2)
    (k : xG d zm_M_findColours (28, [some (.ref r0), some (.int v1), some (.int v2), some (.int (I a1 v5.toNatClampNeg)), some (.int (1 : Int32)), some (.int (v5 + (1 : Int32))), some (.int v6)], []) (sh, I, J) Q) :
    xG d zm_M_findColours (94, [some (.ref r0), some (.int v1), some (.int v2), some (.int v3), some (.int v4), some (.int v5), some (.int v6)], []) (sh, I, J) Q := by
  obtain rfl := e0.eq
  obtain rfl := e1.eq
  exact xG_N 9 (ps := [xRf sh r0 10 3, xA sh (xrf sh r0 3) .int, vp_in v5 (xlen sh (xrf sh r0 3))]) (f1 := (28, [some (.ref r0), some (.int v1), some (.int v2), some (.int (I (xrf sh r0 3) v5.toNatClampNeg)), some (.int (1 : Int32)), some (.int (v5 + (1 : Int32))), some (.int v6)], [])) (h1 := (sh, I, J)) rfl ⟨e0.rf, e1.ar, e2⟩ (k)
set_option maxRecDepth 100000 in
theorem s_M_findColours_105 {d : Nat} {Q : xO → xH → Prop} {sh : List xS} {I : Nat → Nat → Int32} {J : Nat → Nat → Int64} {r0 : Nat} {v1 : Int32} {v2 : Int32} {v3 : Int32} {v4 : Int32} {v5 : Int32} {v6 : Int32}
    (k : xG d zm_M_findColours (28, [some (.ref r0), some (.int v1), some (.int v2), some (.int v3), some (.int v4), some (.int (v5 + (1 : Int32))), some (.int v6)], []) (sh, I, J) Q) :
    xG d zm_M_findColours (105, [some (.ref r0), some (.int v1), some (.int v2), some (.int v3), some (.int v4), some (.int v5), some (.int v6)], []) (sh, I, J) Q := by
  exact xG_N 2 (ps := []) (f1 := (28, [some (.ref r0), some (.int v1), some (.int v2), some (.int v3), some (.int v4), some (.int (v5 + (1 : Int32))), some (.int v6)], [])) (h1 := (sh, I, J)) rfl trivial (k)
set_option maxRecDepth 100000 in
theorem s_M_findColours_111 {d : Nat} {Q : xO → xH → Prop} {sh : List xS} {I : Nat → Nat → Int32} {J : Nat → Nat → Int64} {r0 : Nat} {v1 : Int32} {v2 : Int32} {v3 : Int32} {v4 : Int32} {v5 : Int32} {o6 : Option Value} {a1 : Nat} {n2 : Nat}
    (e0 : xRr sh r0 10 25 a1)
    (e1 : xAr sh a1 .int n2)
    (e2 : 4 ≤ a1)
    (e3 : vp_in (I r0 26) n2)
    (k : xG d zm_M_findColours (12, [some (.ref r0), some (.int v1), some (.int v3), some (.int v3), some (.int v4), some (.int v5), o6], []) (sh, xup (xup I a1 (I r0 26).toNatClampNeg v3) r0 26 (((xup I a1 (I r0 26).toNatClampNeg v3) r0 26) + (1 : Int32)), J) Q) :
    xG d zm_M_findColours (111, [some (.ref r0), some (.int v1), some (.int v2), some (.int v3), some (.int v4), some (.int v5), o6], []) (sh, I, J) Q := by
  obtain rfl := e0.eq
  obtain rfl := e1.eq
  exact xG_N 15 (ps := [xRf sh r0 10 25, xOb sh r0 10, xW sh (xrf sh r0 25) .int, vp_in (I r0 26) (xlen sh (xrf sh r0 25)), xOb sh r0 10, xOb sh r0 10]) (f1 := (12, [some (.ref r0), some (.int v1), some (.int v3), some (.int v3), some (.int v4), some (.int v5), o6], [])) (h1 := (sh, xup (xup I (xrf sh r0 25) (I r0 26).toNatClampNeg v3) r0 26 (((xup I (xrf sh r0 25) (I r0 26).toNatClampNeg v3) r0 26) + (1 : Int32)), J)) rfl ⟨e0.rf, e0.ob, ⟨e1.ar, e2⟩, e3, e0.ob, e0.ob⟩ (k)
set_option maxRecDepth 100000 in
theorem s_M_findColours_136 {d : Nat} {Q : xO → xH → Prop} {sh : List xS} {I : Nat → Nat → Int32} {J : Nat → Nat → Int64} {r0 : Nat} {v1 : Int32} {v2 : Int32} {o3 : Option Value} {o4 : Option Value} {o5 : Option Value} {o6 : Option Value}
    (k : Q (.inl (none)) (sh, I, J)) :
    xG d zm_M_findColours (136, [some (.ref r0), some (.int v1), some (.int v2), o3, o4, o5, o6], []) (sh, I, J) Q := by
  exact xG_Q rfl rfl trivial k
set_option maxRecDepth 100000 in
theorem s_M_numberOf_0 {d : Nat} {Q : xO → xH → Prop} {sh : List xS} {I : Nat → Nat → Int32} {J : Nat → Nat → Int64} {r0 : Nat} {v1 : Int32}
    (k : xG d zm_M_numberOf (2, [some (.ref r0), some (.int v1), some (.int (0 : Int32))], []) (sh, I, J) Q) :
    xG d zm_M_numberOf (0, [some (.ref r0), some (.int v1), none], []) (sh, I, J) Q := by
  exact xG_N 2 (ps := []) (f1 := (2, [some (.ref r0), some (.int v1), some (.int (0 : Int32))], [])) (h1 := (sh, I, J)) rfl trivial (k)
set_option maxRecDepth 100000 in
theorem s_M_numberOf_2 {d : Nat} {Q : xO → xH → Prop} {sh : List xS} {I : Nat → Nat → Int32} {J : Nat → Nat → Int64} {r0 : Nat} {v1 : Int32} {v2 : Int32}
    (e0 : xOb sh r0 10)
    (k1 : ((I r0 26) - (1 : Int32)) ≤ v2 → xG d zm_M_numberOf (28, [some (.ref r0), some (.int v1), some (.int v2)], []) (sh, I, J) Q)
    (k2 : ¬ (((I r0 26) - (1 : Int32)) ≤ v2) → xG d zm_M_numberOf (12, [some (.ref r0), some (.int v1), some (.int v2)], []) (sh, I, J) Q) :
    xG d zm_M_numberOf (2, [some (.ref r0), some (.int v1), some (.int v2)], []) (sh, I, J) Q := by
  exact xG_N 5 (ps := [xOb sh r0 10]) (f1 := (9, [some (.ref r0), some (.int v1), some (.int v2)], [.int ((I r0 26) - (1 : Int32)), .int v2])) (h1 := (sh, I, J)) rfl e0 (xG_B rfl rfl k1 k2)
set_option maxRecDepth 100000 in
theorem s_M_numberOf_12 {d : Nat} {Q : xO → xH → Prop} {sh : List xS} {I : Nat → Nat → Int32} {J : Nat → Nat → Int64} {r0 : Nat} {v1 : Int32} {v2 : Int32} {a1 : Nat} {n2 : Nat}
    (e0 : xRr sh r0 10 25 a1)
    (e1 : xAr sh a1 .int n2)
    (e2 : vp_in v2 n2)
    (k1 : (I a1 v2.toNatClampNeg) = v1 → xG d zm_M_numberOf (28, [some (.ref r0), some (.int v1), some (.int v2)], []) (sh, I, J) Q)
    (k2 : ¬ ((I a1 v2.toNatClampNeg) = v1) → xG d zm_M_numberOf (22, [some (.ref r0), some (.int v1), some (.int v2)], []) (sh, I, J) Q) :
    xG d zm_M_numberOf (12, [some (.ref r0), some (.int v1), some (.int v2)], []) (sh, I, J) Q := by
  obtain rfl := e0.eq
  obtain rfl := e1.eq
  exact xG_N 5 (ps := [xRf sh r0 10 25, xA sh (xrf sh r0 25) .int, vp_in v2 (xlen sh (xrf sh r0 25))]) (f1 := (19, [some (.ref r0), some (.int v1), some (.int v2)], [.int v1, .int (I (xrf sh r0 25) v2.toNatClampNeg)])) (h1 := (sh, I, J)) rfl ⟨e0.rf, e1.ar, e2⟩ (xG_B rfl rfl k1 k2)
set_option maxRecDepth 100000 in
theorem s_M_numberOf_22 {d : Nat} {Q : xO → xH → Prop} {sh : List xS} {I : Nat → Nat → Int32} {J : Nat → Nat → Int64} {r0 : Nat} {v1 : Int32} {v2 : Int32}
    (k : xG d zm_M_numberOf (2, [some (.ref r0), some (.int v1), some (.int (v2 + (1 : Int32)))], []) (sh, I, J) Q) :
    xG d zm_M_numberOf (22, [some (.ref r0), some (.int v1), some (.int v2)], []) (sh, I, J) Q := by
  exact xG_N 2 (ps := []) (f1 := (2, [some (.ref r0), some (.int v1), some (.int (v2 + (1 : Int32)))], [])) (h1 := (sh, I, J)) rfl trivial (k)
set_option maxRecDepth 100000 in
theorem s_M_numberOf_28 {d : Nat} {Q : xO → xH → Prop} {sh : List xS} {I : Nat → Nat → Int32} {J : Nat → Nat → Int64} {r0 : Nat} {v1 : Int32} {v2 : Int32}
    (k : Q (.inl (some (.int v2))) (sh, I, J)) :
    xG d zm_M_numberOf (28, [some (.ref r0), some (.int v1), some (.int v2)], []) (sh, I, J) Q := by
  exact xG_N 1 (ps := []) (f1 := (29, [some (.ref r0), some (.int v1), some (.int v2)], [.int v2])) (h1 := (sh, I, J)) rfl trivial (xG_Q rfl rfl trivial k)
set_option maxRecDepth 100000 in
theorem s_M_pack_0 {d : Nat} {Q : xO → xH → Prop} {sh : List xS} {I : Nat → Nat → Int32} {J : Nat → Nat → Int64} {r0 : Nat}
    (e0 : xOb sh r0 10)
    (k : xg d qM_packed [.int (I r0 1), .int (I r0 26)] (sh, I, J) (xI (fun v h1 => xG d zm_M_pack (11, [some (.ref r0), none, none, none, none, none, none], [.int v]) h1 Q) (fun x h1 => Q (.inr x) h1))) :
    xG d zm_M_pack (0, [some (.ref r0), none, none, none, none, none, none], []) (sh, I, J) Q := by
  exact xG_N 4 (ps := [xOb sh r0 10, xOb sh r0 10]) (f1 := (8, [some (.ref r0), none, none, none, none, none, none], [.int (I r0 26), .int (I r0 1)])) (h1 := (sh, I, J)) rfl ⟨e0, e0⟩ (xG_Ci rfl rfl (Nat.le_of_ble_eq_true rfl) (Nat.le_of_ble_eq_true rfl) trivial rfl k)
set_option maxRecDepth 100000 in
theorem s_M_pack_11 {d : Nat} {Q : xO → xH → Prop} {sh : List xS} {I : Nat → Nat → Int32} {J : Nat → Nat → Int64} {r0 : Nat} {t0 : Int32}
    (e0 : xOb sh r0 10)
    (k1 : (3 : Int32) ≤ (I r0 26) → xG d zm_M_pack (25, [some (.ref r0), some (.int t0), none, none, none, none, none], []) (sh, I, J) Q)
    (k2 : ¬ ((3 : Int32) ≤ (I r0 26)) → xG d zm_M_pack (20, [some (.ref r0), some (.int t0), none, none, none, none, none], []) (sh, I, J) Q) :
    xG d zm_M_pack (11, [some (.ref r0), none, none, none, none, none, none], [.int t0]) (sh, I, J) Q := by
  exact xG_N 4 (ps := [xOb sh r0 10]) (f1 := (17, [some (.ref r0), some (.int t0), none, none, none, none, none], [.int (3 : Int32), .int (I r0 26)])) (h1 := (sh, I, J)) rfl e0 (xG_B rfl rfl k1 k2)
set_option maxRecDepth 100000 in
theorem s_M_pack_20 {d : Nat} {Q : xO → xH → Prop} {sh : List xS} {I : Nat → Nat → Int32} {J : Nat → Nat → Int64} {r0 : Nat} {v1 : Int32}
    (k : xG d zm_M_pack (41, [some (.ref r0), some (.int v1), some (.int (8 : Int32)), some (.int (0 : Int32)), none, none, none], []) (sh, I, J) Q) :
    xG d zm_M_pack (20, [some (.ref r0), some (.int v1), none, none, none, none, none], []) (sh, I, J) Q := by
  exact xG_N 5 (ps := []) (f1 := (41, [some (.ref r0), some (.int v1), some (.int (8 : Int32)), some (.int (0 : Int32)), none, none, none], [])) (h1 := (sh, I, J)) rfl trivial (k)
set_option maxRecDepth 100000 in
theorem s_M_pack_25 {d : Nat} {Q : xO → xH → Prop} {sh : List xS} {I : Nat → Nat → Int32} {J : Nat → Nat → Int64} {r0 : Nat} {v1 : Int32}
    (e0 : xOb sh r0 10)
    (k1 : (5 : Int32) ≤ (I r0 26) → xG d zm_M_pack (37, [some (.ref r0), some (.int v1), none, none, none, none, none], []) (sh, I, J) Q)
    (k2 : ¬ ((5 : Int32) ≤ (I r0 26)) → xG d zm_M_pack (33, [some (.ref r0), some (.int v1), none, none, none, none, none], []) (sh, I, J) Q) :
    xG d zm_M_pack (25, [some (.ref r0), some (.int v1), none, none, none, none, none], []) (sh, I, J) Q := by
  exact xG_N 3 (ps := [xOb sh r0 10]) (f1 := (30, [some (.ref r0), some (.int v1), none, none, none, none, none], [.int (5 : Int32), .int (I r0 26)])) (h1 := (sh, I, J)) rfl e0 (xG_B rfl rfl k1 k2)
set_option maxRecDepth 100000 in
theorem s_M_pack_33 {d : Nat} {Q : xO → xH → Prop} {sh : List xS} {I : Nat → Nat → Int32} {J : Nat → Nat → Int64} {r0 : Nat} {v1 : Int32}
    (k : xG d zm_M_pack (41, [some (.ref r0), some (.int v1), some (.int (4 : Int32)), some (.int (0 : Int32)), none, none, none], []) (sh, I, J) Q) :
    xG d zm_M_pack (33, [some (.ref r0), some (.int v1), none, none, none, none, none], []) (sh, I, J) Q := by
  exact xG_N 5 (ps := []) (f1 := (41, [some (.ref r0), some (.int v1), some (.int (4 : Int32)), some (.int (0 : Int32)), none, none, none], [])) (h1 := (sh, I, J)) rfl trivial (k)
set_option maxRecDepth 100000 in
theorem s_M_pack_37 {d : Nat} {Q : xO → xH → Prop} {sh : List xS} {I : Nat → Nat → Int32} {J : Nat → Nat → Int64} {r0 : Nat} {v1 : Int32}
    (k : xG d zm_M_pack (41, [some (.ref r0), some (.int v1), some (.int (2 : Int32)), some (.int (0 : Int32)), none, none, none], []) (sh, I, J) Q) :
    xG d zm_M_pack (37, [some (.ref r0), some (.int v1), none, none, none, none, none], []) (sh, I, J) Q := by
  exact xG_N 4 (ps := []) (f1 := (41, [some (.ref r0), some (.int v1), some (.int (2 : Int32)), some (.int (0 : Int32)), none, none, none], [])) (h1 := (sh, I, J)) rfl trivial (k)
set_option maxRecDepth 100000 in
theorem s_M_pack_41 {d : Nat} {Q : xO → xH → Prop} {sh : List xS} {I : Nat → Nat → Int32} {J : Nat → Nat → Int64} {r0 : Nat} {v1 : Int32} {v2 : Int32} {v3 : Int32} {o4 : Option Value} {o5 : Option Value} {o6 : Option Value}
    (e0 : xOb sh r0 10)
    (k1 : (v1 * (I r0 2)) ≤ v3 → xG d zm_M_pack (147, [some (.ref r0), some (.int v1), some (.int v2), some (.int v3), o4, o5, o6], []) (sh, I, J) Q)
    (k2 : ¬ ((v1 * (I r0 2)) ≤ v3) → xG d zm_M_pack (51, [some (.ref r0), some (.int v1), some (.int v2), some (.int v3), o4, o5, o6], []) (sh, I, J) Q) :
    xG d zm_M_pack (41, [some (.ref r0), some (.int v1), some (.int v2), some (.int v3), o4, o5, o6], []) (sh, I, J) Q := by
  exact xG_N 5 (ps := [xOb sh r0 10]) (f1 := (48, [some (.ref r0), some (.int v1), some (.int v2), some (.int v3), o4, o5, o6], [.int (v1 * (I r0 2)), .int v3])) (h1 := (sh, I, J)) rfl e0 (xG_B rfl rfl k1 k2)
set_option maxRecDepth 100000 in
theorem s_M_pack_51 {d : Nat} {Q : xO → xH → Prop} {sh : List xS} {I : Nat → Nat → Int32} {J : Nat → Nat → Int64} {r0 : Nat} {v1 : Int32} {v2 : Int32} {v3 : Int32} {o4 : Option Value} {o5 : Option Value} {o6 : Option Value}
    (k : xG d zm_M_pack (57, [some (.ref r0), some (.int v1), some (.int v2), some (.int v3), some (.int (0 : Int32)), some (.int (0 : Int32)), o6], []) (sh, I, J) Q) :
    xG d zm_M_pack (51, [some (.ref r0), some (.int v1), some (.int v2), some (.int v3), o4, o5, o6], []) (sh, I, J) Q := by
  exact xG_N 4 (ps := []) (f1 := (57, [some (.ref r0), some (.int v1), some (.int v2), some (.int v3), some (.int (0 : Int32)), some (.int (0 : Int32)), o6], [])) (h1 := (sh, I, J)) rfl trivial (k)
set_option maxRecDepth 100000 in
theorem s_M_pack_57 {d : Nat} {Q : xO → xH → Prop} {sh : List xS} {I : Nat → Nat → Int32} {J : Nat → Nat → Int64} {r0 : Nat} {v1 : Int32} {v2 : Int32} {v3 : Int32} {v4 : Int32} {v5 : Int32} {o6 : Option Value}
    (k1 : v2 ≤ v5 → xG d zm_M_pack (126, [some (.ref r0), some (.int v1), some (.int v2), some (.int v3), some (.int v4), some (.int v5), o6], []) (sh, I, J) Q)
    (k2 : ¬ (v2 ≤ v5) → xG d zm_M_pack (63, [some (.ref r0), some (.int v1), some (.int v2), some (.int v3), some (.int v4), some (.int v5), o6], []) (sh, I, J) Q) :
    xG d zm_M_pack (57, [some (.ref r0), some (.int v1), some (.int v2), some (.int v3), some (.int v4), some (.int v5), o6], []) (sh, I, J) Q := by
  exact xG_N 2 (ps := []) (f1 := (60, [some (.ref r0), some (.int v1), some (.int v2), some (.int v3), some (.int v4), some (.int v5), o6], [.int v2, .int v5])) (h1 := (sh, I, J)) rfl trivial (xG_B rfl rfl k1 k2)
set_option maxRecDepth 100000 in
theorem s_M_pack_63 {d : Nat} {Q : xO → xH → Prop} {sh : List xS} {I : Nat → Nat → Int32} {J : Nat → Nat → Int64} {r0 : Nat} {v1 : Int32} {v2 : Int32} {v3 : Int32} {v4 : Int32} {v5 : Int32} {o6 : Option Value}
    (e0 : ¬ v1 = 0)
    (e1 : xOb sh r0 10)
    (k1 : (I r0 1) ≤ (((v3 - v3 / v1 * v1) * v2) + v5) → xG d zm_M_pack (116, [some (.ref r0), some (.int v1), some (.int v2), some (.int v3), some (.int v4), some (.int v5), some (.int (((v3 - v3 / v1 * v1) * v2) + v5))], []) (sh, I, J) Q)
    (k2 : ¬ ((I r0 1) ≤ (((v3 - v3 / v1 * v1) * v2) + v5)) → xG d zm_M_pack (82, [some (.ref r0), some (.int v1), some (.int v2), some (.int v3), some (.int v4), some (.int v5), some (.int (((v3 - v3 / v1 * v1) * v2) + v5))], []) (sh, I, J) Q) :
    xG d zm_M_pack (63, [some (.ref r0), some (.int v1), some (.int v2), some (.int v3), some (.int v4), some (.int v5), o6], []) (sh, I, J) Q := by
  exact xG_N 11 (ps := [¬ v1 = 0, xOb sh r0 10]) (f1 := (79, [some (.ref r0), some (.int v1), some (.int v2), some (.int v3), some (.int v4), some (.int v5), some (.int (((v3 - v3 / v1 * v1) * v2) + v5))], [.int (I r0 1), .int (((v3 - v3 / v1 * v1) * v2) + v5)])) (h1 := (sh, I, J)) rfl ⟨e0, e1⟩ (xG_B rfl rfl k1 k2)
set_option maxRecDepth 100000 in
theorem s_M_pack_82 {d : Nat} {Q : xO → xH → Prop} {sh : List xS} {I : Nat → Nat → Int32} {J : Nat → Nat → Int64} {r0 : Nat} {v1 : Int32} {v2 : Int32} {v3 : Int32} {v4 : Int32} {v5 : Int32} {v6 : Int32} {a1 : Nat} {n2 : Nat}
    (e0 : xRr sh r0 10 3 a1)
    (e1 : ¬ v1 = 0)
    (e2 : xAr sh a1 .int n2)
    (e3 : vp_in (((v3 / v1) * (I r0 1)) + v6) n2)
    (k : xg d qM_numberOf [.ref r0, .int (I a1 (((v3 / v1) * (I r0 1)) + v6).toNatClampNeg)] (sh, I, J) (xI (fun v h1 => xG d zm_M_pack (104, [some (.ref r0), some (.int v1), some (.int v2), some (.int v3), some (.int v4), some (.int v5), some (.int v6)], [.int v, .int v4]) h1 Q) (fun x h1 => Q (.inr x) h1))) :
    xG d zm_M_pack (82, [some (.ref r0), some (.int v1), some (.int v2), some (.int v3), some (.int v4), some (.int v5), some (.int v6)], []) (sh, I, J) Q := by
  obtain rfl := e0.eq
  obtain rfl := e2.eq
  exact xG_N 13 (ps := [xRf sh r0 10 3, ¬ v1 = 0, xOb sh r0 10, xA sh (xrf sh r0 3) .int, vp_in (((v3 / v1) * (I r0 1)) + v6) (xlen sh (xrf sh r0 3))]) (f1 := (101, [some (.ref r0), some (.int v1), some (.int v2), some (.int v3), some (.int v4), some (.int v5), some (.int v6)], [.int (I (xrf sh r0 3) (((v3 / v1) * (I r0 1)) + v6).toNatClampNeg), .ref r0, .int v4])) (h1 := (sh, I, J)) rfl ⟨e0.rf, e1, e0.ob, e2.ar, e3⟩ (xG_Ci rfl rfl (Nat.le_of_ble_eq_true rfl) (Nat.le_of_ble_eq_true rfl) ⟨_, _, rfl, e0.ob⟩ rfl k)
set_option maxRecDepth 100000 in
theorem s_M_pack_104 {d : Nat} {Q : xO → xH → Prop} {sh : List xS} {I : Nat → Nat → Int32} {J : Nat → Nat → Int64} {r0 : Nat} {v1 : Int32} {v2 : Int32} {v3 : Int32} {v4 : Int32} {v5 : Int32} {v6 : Int32} {t0 : Int32} {t1 : Int32}
    (e0 : ¬ v2 = 0)
    (k : xG d zm_M_pack (57, [some (.ref r0), some (.int v1), some (.int v2), some (.int v3), some (.int (t0 ||| (t1 <<< ((((8 : Int32) / v2) * v5) &&& 31)))), some (.int (v5 + (1 : Int32))), some (.int v6)], []) (sh, I, J) Q) :
    xG d zm_M_pack (104, [some (.ref r0), some (.int v1), some (.int v2), some (.int v3), some (.int v4), some (.int v5), some (.int v6)], [.int t1, .int t0]) (sh, I, J) Q := by
  exact xG_N 11 (ps := [¬ v2 = 0]) (f1 := (57, [some (.ref r0), some (.int v1), some (.int v2), some (.int v3), some (.int (t0 ||| (t1 <<< ((((8 : Int32) / v2) * v5) &&& 31)))), some (.int (v5 + (1 : Int32))), some (.int v6)], [])) (h1 := (sh, I, J)) rfl e0 (k)
set_option maxRecDepth 100000 in
theorem s_M_pack_116 {d : Nat} {Q : xO → xH → Prop} {sh : List xS} {I : Nat → Nat → Int32} {J : Nat → Nat → Int64} {r0 : Nat} {v1 : Int32} {v2 : Int32} {v3 : Int32} {v4 : Int32} {v5 : Int32} {v6 : Int32}
    (k : xG d zm_M_pack (57, [some (.ref r0), some (.int v1), some (.int v2), some (.int v3), some (.int v4), some (.int (v5 + (1 : Int32))), some (.int v6)], []) (sh, I, J) Q) :
    xG d zm_M_pack (116, [some (.ref r0), some (.int v1), some (.int v2), some (.int v3), some (.int v4), some (.int v5), some (.int v6)], []) (sh, I, J) Q := by
  exact xG_N 4 (ps := []) (f1 := (57, [some (.ref r0), some (.int v1), some (.int v2), some (.int v3), some (.int v4), some (.int (v5 + (1 : Int32))), some (.int v6)], [])) (h1 := (sh, I, J)) rfl trivial (k)
set_option maxRecDepth 100000 in
theorem s_M_pack_126 {d : Nat} {Q : xO → xH → Prop} {sh : List xS} {I : Nat → Nat → Int32} {J : Nat → Nat → Int64} {r0 : Nat} {v1 : Int32} {v2 : Int32} {v3 : Int32} {v4 : Int32} {v5 : Int32} {o6 : Option Value} {a1 : Nat} {n2 : Nat}
    (e0 : xRr sh r0 10 15 a1)
    (e1 : xAr sh a1 .int n2)
    (e2 : 4 ≤ a1)
    (e3 : vp_in v3 n2)
    (k : xG d zm_M_pack (41, [some (.ref r0), some (.int v1), some (.int v2), some (.int (v3 + (1 : Int32))), some (.int v4), some (.int v5), o6], []) (sh, xup I a1 v3.toNatClampNeg ((-16777216 : Int32) + ((256 : Int32) * v4)), J) Q) :
    xG d zm_M_pack (126, [some (.ref r0), some (.int v1), some (.int v2), some (.int v3), some (.int v4), some (.int v5), o6], []) (sh, I, J) Q := by
  obtain rfl := e0.eq
  obtain rfl := e1.eq
  exact xG_N 11 (ps := [xRf sh r0 10 15, xW sh (xrf sh r0 15) .int, vp_in v3 (xlen sh (xrf sh r0 15))]) (f1 := (41, [some (.ref r0), some (.int v1), some (.int v2), some (.int (v3 + (1 : Int32))), some (.int v4), some (.int v5), o6], [])) (h1 := (sh, xup I (xrf sh r0 15) v3.toNatClampNeg ((-16777216 : Int32) + ((256 : Int32) * v4)), J)) rfl ⟨e0.rf, ⟨e1.ar, e2⟩, e3⟩ (k)
set_option maxRecDepth 100000 in
theorem s_M_pack_147 {d : Nat} {Q : xO → xH → Prop} {sh : List xS} {I : Nat → Nat → Int32} {J : Nat → Nat → Int64} {r0 : Nat} {v1 : Int32} {v2 : Int32} {v3 : Int32} {o4 : Option Value} {o5 : Option Value} {o6 : Option Value}
    (k : Q (.inl (some (.int v1))) (sh, I, J)) :
    xG d zm_M_pack (147, [some (.ref r0), some (.int v1), some (.int v2), some (.int v3), o4, o5, o6], []) (sh, I, J) Q := by
  exact xG_N 1 (ps := []) (f1 := (148, [some (.ref r0), some (.int v1), some (.int v2), some (.int v3), o4, o5, o6], [.int v1])) (h1 := (sh, I, J)) rfl trivial (xG_Q rfl rfl trivial k)
set_option maxRecDepth 100000 in
theorem s_M_putPalette_0 {d : Nat} {Q : xO → xH → Prop} {sh : List xS} {I : Nat → Nat → Int32} {J : Nat → Nat → Int64} {r0 : Nat}
    (ko : xOb sh r0 10)
    (k : xg d qM_put [.ref r0, .int (1 : Int32), .int (1 : Int32)] (sh, I, J) (xU (fun h1 => xG d zm_M_putPalette (6, [some (.ref r0), none], []) h1 Q) (fun x h1 => Q (.inr x) h1))) :
    xG d zm_M_putPalette (0, [some (.ref r0), none], []) (sh, I, J) Q := by
  exact xG_N 3 (ps := []) (f1 := (3, [some (.ref r0), none], [.int (1 : Int32), .int (1 : Int32), .ref r0])) (h1 := (sh, I, J)) rfl trivial (xG_Cu rfl rfl (Nat.le_of_ble_eq_true rfl) (Nat.le_of_ble_eq_true rfl) ⟨_, _, rfl, ko⟩ rfl k)
set_option maxRecDepth 100000 in
theorem s_M_putPalette_6 {d : Nat} {Q : xO → xH → Prop} {sh : List xS} {I : Nat → Nat → Int32} {J : Nat → Nat → Int64} {r0 : Nat}
    (ko : xOb sh r0 10)
    (k : xg d qM_put [.ref r0, .int (3 : Int32), .int (2 : Int32)] (sh, I, J) (xU (fun h1 => xG d zm_M_putPalette (12, [some (.ref r0), none], []) h1 Q) (fun x h1 => Q (.inr x) h1))) :
    xG d zm_M_putPalette (6, [some (.ref r0), none], []) (sh, I, J) Q := by
  exact xG_N 3 (ps := []) (f1 := (9, [some (.ref r0), none], [.int (2 : Int32), .int (3 : Int32), .ref r0])) (h1 := (sh, I, J)) rfl trivial (xG_Cu rfl rfl (Nat.le_of_ble_eq_true rfl) (Nat.le_of_ble_eq_true rfl) ⟨_, _, rfl, ko⟩ rfl k)
set_option maxRecDepth 100000 in
theorem s_M_putPalette_12 {d : Nat} {Q : xO → xH → Prop} {sh : List xS} {I : Nat → Nat → Int32} {J : Nat → Nat → Int64} {r0 : Nat}
    (e0 : xOb sh r0 10)
    (k : xg d qM_put [.ref r0, .int ((I r0 26) - (1 : Int32)), .int (4 : Int32)] (sh, I, J) (xU (fun h1 => xG d zm_M_putPalette (23, [some (.ref r0), none], []) h1 Q) (fun x h1 => Q (.inr x) h1))) :
    xG d zm_M_putPalette (12, [some (.ref r0), none], []) (sh, I, J) Q := by
  exact xG_N 6 (ps := [xOb sh r0 10]) (f1 := (20, [some (.ref r0), none], [.int (4 : Int32), .int ((I r0 26) - (1 : Int32)), .ref r0])) (h1 := (sh, I, J)) rfl e0 (xG_Cu rfl rfl (Nat.le_of_ble_eq_true rfl) (Nat.le_of_ble_eq_true rfl) ⟨_, _, rfl, e0⟩ rfl k)
set_option maxRecDepth 100000 in
theorem s_M_putPalette_23 {d : Nat} {Q : xO → xH → Prop} {sh : List xS} {I : Nat → Nat → Int32} {J : Nat → Nat → Int64} {r0 : Nat}
    (k : xG d zm_M_putPalette (25, [some (.ref r0), some (.int (0 : Int32))], []) (sh, I, J) Q) :
    xG d zm_M_putPalette (23, [some (.ref r0), none], []) (sh, I, J) Q := by
  exact xG_N 2 (ps := []) (f1 := (25, [some (.ref r0), some (.int (0 : Int32))], [])) (h1 := (sh, I, J)) rfl trivial (k)
set_option maxRecDepth 100000 in
theorem s_M_putPalette_25 {d : Nat} {Q : xO → xH → Prop} {sh : List xS} {I : Nat → Nat → Int32} {J : Nat → Nat → Int64} {r0 : Nat} {v1 : Int32}
    (e0 : xOb sh r0 10)
    (k1 : (I r0 26) ≤ v1 → xG d zm_M_putPalette (75, [some (.ref r0), some (.int v1)], []) (sh, I, J) Q)
    (k2 : ¬ ((I r0 26) ≤ v1) → xG d zm_M_putPalette (33, [some (.ref r0), some (.int v1)], []) (sh, I, J) Q) :
    xG d zm_M_putPalette (25, [some (.ref r0), some (.int v1)], []) (sh, I, J) Q := by
  exact xG_N 3 (ps := [xOb sh r0 10]) (f1 := (30, [some (.ref r0), some (.int v1)], [.int (I r0 26), .int v1])) (h1 := (sh, I, J)) rfl e0 (xG_B rfl rfl k1 k2)
set_option maxRecDepth 100000 in
theorem s_M_putPalette_33 {d : Nat} {Q : xO → xH → Prop} {sh : List xS} {I : Nat → Nat → Int32} {J : Nat → Nat → Int64} {r0 : Nat} {v1 : Int32} {a1 : Nat}
    (e0 : xRr sh r0 10 14 a1)
    (k1 : ¬ v1 = 0 → xG d zm_M_putPalette (51, [some (.ref r0), some (.int v1)], [.int v1, .ref a1]) (sh, I, J) Q)
    (k2 : ¬ (¬ v1 = 0) → xG d zm_M_putPalette (42, [some (.ref r0), some (.int v1)], [.int v1, .ref a1]) (sh, I, J) Q) :
    xG d zm_M_putPalette (33, [some (.ref r0), some (.int v1)], []) (sh, I, J) Q := by
  obtain rfl := e0.eq
  exact xG_N 4 (ps := [xRf sh r0 10 14]) (f1 := (39, [some (.ref r0), some (.int v1)], [.int v1, .int v1, .ref (xrf sh r0 14)])) (h1 := (sh, I, J)) rfl e0.rf (xG_B rfl rfl k1 k2)
set_option maxRecDepth 100000 in
theorem s_M_putPalette_42 {d : Nat} {Q : xO → xH → Prop} {sh : List xS} {I : Nat → Nat → Int32} {J : Nat → Nat → Int64} {r0 : Nat} {v1 : Int32} {t0 : Nat} {t1 : Int32} {a1 : Nat} {n2 : Nat} {n3 : Nat}
    (e0 : xRr sh r0 10 25 a1)
    (e1 : xAr sh a1 .int n2)
    (e2 : vp_in (0 : Int32) n2)
    (e3 : xAr sh t0 .int n3)
    (e4 : 4 ≤ t0)
    (e5 : vp_in t1 n3)
    (k : xG d zm_M_putPalette (25, [some (.ref r0), some (.int (v1 + (1 : Int32)))], []) (sh, xup I t0 t1.toNatClampNeg (I a1 0), J) Q) :
    xG d zm_M_putPalette (42, [some (.ref r0), some (.int v1)], [.int t1, .ref t0]) (sh, I, J) Q := by
  obtain rfl := e0.eq
  obtain rfl := e1.eq
  obtain rfl := e3.eq
  exact xG_N 8 (ps := [xRf sh r0 10 25, xA sh (xrf sh r0 25) .int, vp_in (0 : Int32) (xlen sh (xrf sh r0 25)), xW sh t0 .int, vp_in t1 (xlen sh t0)]) (f1 := (25, [some (.ref r0), some (.int (v1 + (1 : Int32)))], [])) (h1 := (sh, xup I t0 t1.toNatClampNeg (I (xrf sh r0 25) 0), J)) rfl ⟨e0.rf, e1.ar, e2, ⟨e3.ar, e4⟩, e5⟩ (k)
set_option maxRecDepth 100000 in
theorem s_M_putPalette_51 {d : Nat} {Q : xO → xH → Prop} {sh : List xS} {I : Nat → Nat → Int32} {J : Nat → Nat → Int64} {r0 : Nat} {v1 : Int32} {t0 : Nat} {t1 : Int32} {a1 : Nat} {n2 : Nat}
    (e0 : xRr sh r0 10 25 a1)
    (e1 : xAr sh a1 .int n2)
    (e2 : vp_in v1 n2)
    (e3 : vp_in (v1 - (1 : Int32)) n2)
    (k : xg d qM_minus [.int (I a1 v1.toNatClampNeg), .int (I a1 (v1 - (1 : Int32)).toNatClampNeg)] (sh, I, J) (xI (fun v h1 => xG d zm_M_putPalette (68, [some (.ref r0), some (.int v1)], [.int v, .int t1, .ref t0]) h1 Q) (fun x h1 => Q (.inr x) h1))) :
    xG d zm_M_putPalette (51, [some (.ref r0), some (.int v1)], [.int t1, .ref t0]) (sh, I, J) Q := by
  obtain rfl := e0.eq
  obtain rfl := e1.eq
  exact xG_N 10 (ps := [xRf sh r0 10 25, xA sh (xrf sh r0 25) .int, vp_in v1 (xlen sh (xrf sh r0 25)), xRf sh r0 10 25, xA sh (xrf sh r0 25) .int, vp_in (v1 - (1 : Int32)) (xlen sh (xrf sh r0 25))]) (f1 := (65, [some (.ref r0), some (.int v1)], [.int (I (xrf sh r0 25) (v1 - (1 : Int32)).toNatClampNeg), .int (I (xrf sh r0 25) v1.toNatClampNeg), .int t1, .ref t0])) (h1 := (sh, I, J)) rfl ⟨e0.rf, e1.ar, e2, e0.rf, e1.ar, e3⟩ (xG_Ci rfl rfl (Nat.le_of_ble_eq_true rfl) (Nat.le_of_ble_eq_true rfl) trivial rfl k)
set_option maxRecDepth 100000 in
theorem s_M_putPalette_68 {d : Nat} {Q : xO → xH → Prop} {sh : List xS} {I : Nat → Nat → Int32} {J : Nat → Nat → Int64} {r0 : Nat} {v1 : Int32} {t0 : Nat} {t1 : Int32} {t2 : Int32} {n1 : Nat}
    (e0 : xAr sh t0 .int n1)
    (e1 : 4 ≤ t0)
    (e2 : vp_in t1 n1)
    (k : xG d zm_M_putPalette (25, [some (.ref r0), some (.int (v1 + (1 : Int32)))], []) (sh, xup I t0 t1.toNatClampNeg t2, J) Q) :
    xG d zm_M_putPalette (68, [some (.ref r0), some (.int v1)], [.int t2, .int t1, .ref t0]) (sh, I, J) Q := by
  obtain rfl := e0.eq
  exact xG_N 3 (ps := [xW sh t0 .int, vp_in t1 (xlen sh t0)]) (f1 := (25, [some (.ref r0), some (.int (v1 + (1 : Int32)))], [])) (h1 := (sh, xup I t0 t1.toNatClampNeg t2, J)) rfl ⟨⟨e0.ar, e1⟩, e2⟩ (k)
set_option maxRecDepth 100000 in
theorem s_M_putPalette_75 {d : Nat} {Q : xO → xH → Prop} {sh : List xS} {I : Nat → Nat → Int32} {J : Nat → Nat → Int64} {r0 : Nat} {v1 : Int32}
    (e0 : xOb sh r0 10)
    (k : xg d qM_putImage [.ref r0, .int (I r0 26), .int (0 : Int32), .int (0 : Int32)] (sh, I, J) (xU (fun h1 => xG d zm_M_putPalette (85, [some (.ref r0), some (.int v1)], []) h1 Q) (fun x h1 => Q (.inr x) h1))) :
    xG d zm_M_putPalette (75, [some (.ref r0), some (.int v1)], []) (sh, I, J) Q := by
  exact xG_N 5 (ps := [xOb sh r0 10]) (f1 := (82, [some (.ref r0), some (.int v1)], [.int (0 : Int32), .int (0 : Int32), .int (I r0 26), .ref r0])) (h1 := (sh, I, J)) rfl e0 (xG_Cu rfl rfl (Nat.le_of_ble_eq_true rfl) (Nat.le_of_ble_eq_true rfl) ⟨_, _, rfl, e0⟩ rfl k)
set_option maxRecDepth 100000 in
theorem s_M_putPalette_85 {d : Nat} {Q : xO → xH → Prop} {sh : List xS} {I : Nat → Nat → Int32} {J : Nat → Nat → Int64} {r0 : Nat} {v1 : Int32}
    (k : Q (.inl (none)) (sh, I, J)) :
    xG d zm_M_putPalette (85, [some (.ref r0), some (.int v1)], []) (sh, I, J) Q := by
  exact xG_Q rfl rfl trivial k
set_option maxRecDepth 100000 in
theorem s_M_putModes_0 {d : Nat} {Q : xO → xH → Prop} {sh : List xS} {I : Nat → Nat → Int32} {J : Nat → Nat → Int64} {r0 : Nat} {v1 : Int32} {v2 : Int32}
    (ko : xOb sh r0 10)
    (k : xg d qM_put [.ref r0, .int (1 : Int32), .int (1 : Int32)] (sh, I, J) (xU (fun h1 => xG d zm_M_putModes (6, [some (.ref r0), some (.int v1), some (.int v2), none, none], []) h1 Q) (fun x h1 => Q (.inr x) h1))) :
    xG d zm_M_putModes (0, [some (.ref r0), some (.int v1), some (.int v2), none, none], []) (sh, I, J) Q := by
  exact xG_N 3 (ps := []) (f1 := (3, [some (.ref r0), some (.int v1), some (.int v2), none, none], [.int (1 : Int32), .int (1 : Int32), .ref r0])) (h1 := (sh, I, J)) rfl trivial (xG_Cu rfl rfl (Nat.le_of_ble_eq_true rfl) (Nat.le_of_ble_eq_true rfl) ⟨_, _, rfl, ko⟩ rfl k)
set_option maxRecDepth 100000 in
theorem s_M_putModes_6 {d : Nat} {Q : xO → xH → Prop} {sh : List xS} {I : Nat → Nat → Int32} {J : Nat → Nat → Int64} {r0 : Nat} {v1 : Int32} {v2 : Int32}
    (ko : xOb sh r0 10)
    (k : xg d qM_put [.ref r0, .int (0 : Int32), .int (2 : Int32)] (sh, I, J) (xU (fun h1 => xG d zm_M_putModes (12, [some (.ref r0), some (.int v1), some (.int v2), none, none], []) h1 Q) (fun x h1 => Q (.inr x) h1))) :
    xG d zm_M_putModes (6, [some (.ref r0), some (.int v1), some (.int v2), none, none], []) (sh, I, J) Q := by
  exact xG_N 3 (ps := []) (f1 := (9, [some (.ref r0), some (.int v1), some (.int v2), none, none], [.int (2 : Int32), .int (0 : Int32), .ref r0])) (h1 := (sh, I, J)) rfl trivial (xG_Cu rfl rfl (Nat.le_of_ble_eq_true rfl) (Nat.le_of_ble_eq_true rfl) ⟨_, _, rfl, ko⟩ rfl k)
set_option maxRecDepth 100000 in
theorem s_M_putModes_12 {d : Nat} {Q : xO → xH → Prop} {sh : List xS} {I : Nat → Nat → Int32} {J : Nat → Nat → Int64} {r0 : Nat} {v1 : Int32} {v2 : Int32}
    (k : xg d qM_blocks [.int v1] (sh, I, J) (xI (fun v h1 => xG d zm_M_putModes (16, [some (.ref r0), some (.int v1), some (.int v2), none, none], [.int v]) h1 Q) (fun x h1 => Q (.inr x) h1))) :
    xG d zm_M_putModes (12, [some (.ref r0), some (.int v1), some (.int v2), none, none], []) (sh, I, J) Q := by
  exact xG_N 1 (ps := []) (f1 := (13, [some (.ref r0), some (.int v1), some (.int v2), none, none], [.int v1])) (h1 := (sh, I, J)) rfl trivial (xG_Ci rfl rfl (Nat.le_of_ble_eq_true rfl) (Nat.le_of_ble_eq_true rfl) trivial rfl k)
set_option maxRecDepth 100000 in
theorem s_M_putModes_16 {d : Nat} {Q : xO → xH → Prop} {sh : List xS} {I : Nat → Nat → Int32} {J : Nat → Nat → Int64} {r0 : Nat} {v1 : Int32} {v2 : Int32} {t0 : Int32}
    (e0 : xOb sh r0 10)
    (k : xg d qM_blocks [.int (I r0 2)] (sh, I, J) (xI (fun v h1 => xG d zm_M_putModes (23, [some (.ref r0), some (.int v1), some (.int v2), none, none], [.int v, .int t0]) h1 Q) (fun x h1 => Q (.inr x) h1))) :
    xG d zm_M_putModes (16, [some (.ref r0), some (.int v1), some (.int v2), none, none], [.int t0]) (sh, I, J) Q := by
  exact xG_N 2 (ps := [xOb sh r0 10]) (f1 := (20, [some (.ref r0), some (.int v1), some (.int v2), none, none], [.int (I r0 2), .int t0])) (h1 := (sh, I, J)) rfl e0 (xG_Ci rfl rfl (Nat.le_of_ble_eq_true rfl) (Nat.le_of_ble_eq_true rfl) trivial rfl k)
set_option maxRecDepth 100000 in
theorem s_M_putModes_23 {d : Nat} {Q : xO → xH → Prop} {sh : List xS} {I : Nat → Nat → Int32} {J : Nat → Nat → Int64} {r0 : Nat} {v1 : Int32} {v2 : Int32} {t0 : Int32} {t1 : Int32}
    (k : xG d zm_M_putModes (28, [some (.ref r0), some (.int v1), some (.int v2), some (.int (t0 * t1)), some (.int (0 : Int32))], []) (sh, I, J) Q) :
    xG d zm_M_putModes (23, [some (.ref r0), some (.int v1), some (.int v2), none, none], [.int t1, .int t0]) (sh, I, J) Q := by
  exact xG_N 4 (ps := []) (f1 := (28, [some (.ref r0), some (.int v1), some (.int v2), some (.int (t0 * t1)), some (.int (0 : Int32))], [])) (h1 := (sh, I, J)) rfl trivial (k)
set_option maxRecDepth 100000 in
theorem s_M_putModes_28 {d : Nat} {Q : xO → xH → Prop} {sh : List xS} {I : Nat → Nat → Int32} {J : Nat → Nat → Int64} {r0 : Nat} {v1 : Int32} {v2 : Int32} {v3 : Int32} {v4 : Int32}
    (k1 : v3 ≤ v4 → xG d zm_M_putModes (55, [some (.ref r0), some (.int v1), some (.int v2), some (.int v3), some (.int v4)], []) (sh, I, J) Q)
    (k2 : ¬ (v3 ≤ v4) → xG d zm_M_putModes (34, [some (.ref r0), some (.int v1), some (.int v2), some (.int v3), some (.int v4)], []) (sh, I, J) Q) :
    xG d zm_M_putModes (28, [some (.ref r0), some (.int v1), some (.int v2), some (.int v3), some (.int v4)], []) (sh, I, J) Q := by
  exact xG_N 2 (ps := []) (f1 := (31, [some (.ref r0), some (.int v1), some (.int v2), some (.int v3), some (.int v4)], [.int v3, .int v4])) (h1 := (sh, I, J)) rfl trivial (xG_B rfl rfl k1 k2)
set_option maxRecDepth 100000 in
theorem s_M_putModes_34 {d : Nat} {Q : xO → xH → Prop} {sh : List xS} {I : Nat → Nat → Int32} {J : Nat → Nat → Int64} {r0 : Nat} {v1 : Int32} {v2 : Int32} {v3 : Int32} {v4 : Int32} {a1 : Nat} {n2 : Nat}
    (e0 : xRr sh r0 10 14 a1)
    (e1 : xAr sh a1 .int n2)
    (e2 : 4 ≤ a1)
    (e3 : vp_in v4 n2)
    (k : xG d zm_M_putModes (28, [some (.ref r0), some (.int v1), some (.int v2), some (.int v3), some (.int (v4 + (1 : Int32)))], []) (sh, xup I a1 v4.toNatClampNeg ((-16777216 : Int32) + ((256 : Int32) * v2)), J) Q) :
    xG d zm_M_putModes (34, [some (.ref r0), some (.int v1), some (.int v2), some (.int v3), some (.int v4)], []) (sh, I, J) Q := by
  obtain rfl := e0.eq
  obtain rfl := e1.eq
  exact xG_N 11 (ps := [xRf sh r0 10 14, xW sh (xrf sh r0 14) .int, vp_in v4 (xlen sh (xrf sh r0 14))]) (f1 := (28, [some (.ref r0), some (.int v1), some (.int v2), some (.int v3), some (.int (v4 + (1 : Int32)))], [])) (h1 := (sh, xup I (xrf sh r0 14) v4.toNatClampNeg ((-16777216 : Int32) + ((256 : Int32) * v2)), J)) rfl ⟨e0.rf, ⟨e1.ar, e2⟩, e3⟩ (k)
set_option maxRecDepth 100000 in
theorem s_M_putModes_55 {d : Nat} {Q : xO → xH → Prop} {sh : List xS} {I : Nat → Nat → Int32} {J : Nat → Nat → Int64} {r0 : Nat} {v1 : Int32} {v2 : Int32} {v3 : Int32} {v4 : Int32}
    (ko : xOb sh r0 10)
    (k : xg d qM_putImage [.ref r0, .int v3, .int (0 : Int32), .int (0 : Int32)] (sh, I, J) (xU (fun h1 => xG d zm_M_putModes (62, [some (.ref r0), some (.int v1), some (.int v2), some (.int v3), some (.int v4)], []) h1 Q) (fun x h1 => Q (.inr x) h1))) :
    xG d zm_M_putModes (55, [some (.ref r0), some (.int v1), some (.int v2), some (.int v3), some (.int v4)], []) (sh, I, J) Q := by
  exact xG_N 4 (ps := []) (f1 := (59, [some (.ref r0), some (.int v1), some (.int v2), some (.int v3), some (.int v4)], [.int (0 : Int32), .int (0 : Int32), .int v3, .ref r0])) (h1 := (sh, I, J)) rfl trivial (xG_Cu rfl rfl (Nat.le_of_ble_eq_true rfl) (Nat.le_of_ble_eq_true rfl) ⟨_, _, rfl, ko⟩ rfl k)
set_option maxRecDepth 100000 in
theorem s_M_putModes_62 {d : Nat} {Q : xO → xH → Prop} {sh : List xS} {I : Nat → Nat → Int32} {J : Nat → Nat → Int64} {r0 : Nat} {v1 : Int32} {v2 : Int32} {v3 : Int32} {v4 : Int32}
    (k : Q (.inl (none)) (sh, I, J)) :
    xG d zm_M_putModes (62, [some (.ref r0), some (.int v1), some (.int v2), some (.int v3), some (.int v4)], []) (sh, I, J) Q := by
  exact xG_Q rfl rfl trivial k
set_option maxRecDepth 100000 in
theorem s_M_prepare_0 {d : Nat} {Q : xO → xH → Prop} {sh : List xS} {I : Nat → Nat → Int32} {J : Nat → Nat → Int64} {r0 : Nat} {v1 : Int32} {v2 : Int32} {v3 : Int32}
    (e0 : xOb sh r0 10)
    (k : xG d zm_M_prepare (11, [some (.ref r0), some (.int v1), some (.int v2), some (.int v3), some (.int (v1 * (I r0 2))), some (.int (0 : Int32)), none, none], []) (sh, I, J) Q) :
    xG d zm_M_prepare (0, [some (.ref r0), some (.int v1), some (.int v2), some (.int v3), none, none, none, none], []) (sh, I, J) Q := by
  exact xG_N 7 (ps := [xOb sh r0 10]) (f1 := (11, [some (.ref r0), some (.int v1), some (.int v2), some (.int v3), some (.int (v1 * (I r0 2))), some (.int (0 : Int32)), none, none], [])) (h1 := (sh, I, J)) rfl e0 (k)
set_option maxRecDepth 100000 in
theorem s_M_prepare_11 {d : Nat} {Q : xO → xH → Prop} {sh : List xS} {I : Nat → Nat → Int32} {J : Nat → Nat → Int64} {r0 : Nat} {v1 : Int32} {v2 : Int32} {v3 : Int32} {v4 : Int32} {v5 : Int32} {o6 : Option Value} {o7 : Option Value}
    (k1 : v4 ≤ v5 → xG d zm_M_prepare (113, [some (.ref r0), some (.int v1), some (.int v2), some (.int v3), some (.int v4), some (.int v5), o6, o7], []) (sh, I, J) Q)
    (k2 : ¬ (v4 ≤ v5) → xG d zm_M_prepare (18, [some (.ref r0), some (.int v1), some (.int v2), some (.int v3), some (.int v4), some (.int v5), o6, o7], []) (sh, I, J) Q) :
    xG d zm_M_prepare (11, [some (.ref r0), some (.int v1), some (.int v2), some (.int v3), some (.int v4), some (.int v5), o6, o7], []) (sh, I, J) Q := by
  exact xG_N 2 (ps := []) (f1 := (15, [some (.ref r0), some (.int v1), some (.int v2), some (.int v3), some (.int v4), some (.int v5), o6, o7], [.int v4, .int v5])) (h1 := (sh, I, J)) rfl trivial (xG_B rfl rfl k1 k2)
set_option maxRecDepth 100000 in
theorem s_M_prepare_18 {d : Nat} {Q : xO → xH → Prop} {sh : List xS} {I : Nat → Nat → Int32} {J : Nat → Nat → Int64} {r0 : Nat} {v1 : Int32} {v2 : Int32} {v3 : Int32} {v4 : Int32} {v5 : Int32} {o6 : Option Value} {o7 : Option Value} {a1 : Nat} {n2 : Nat}
    (e0 : xRr sh r0 10 15 a1)
    (e1 : xAr sh a1 .int n2)
    (e2 : vp_in v5 n2)
    (k : xg d qM_part [.int (I a1 v5.toNatClampNeg), .int (1 : Int32)] (sh, I, J) (xI (fun v h1 => xG d zm_M_prepare (29, [some (.ref r0), some (.int v1), some (.int v2), some (.int v3), some (.int v4), some (.int v5), o6, o7], [.int v]) h1 Q) (fun x h1 => Q (.inr x) h1))) :
    xG d zm_M_prepare (18, [some (.ref r0), some (.int v1), some (.int v2), some (.int v3), some (.int v4), some (.int v5), o6, o7], []) (sh, I, J) Q := by
  obtain rfl := e0.eq
  obtain rfl := e1.eq
  exact xG_N 5 (ps := [xRf sh r0 10 15, xA sh (xrf sh r0 15) .int, vp_in v5 (xlen sh (xrf sh r0 15))]) (f1 := (26, [some (.ref r0), some (.int v1), some (.int v2), some (.int v3), some (.int v4), some (.int v5), o6, o7], [.int (1 : Int32), .int (I (xrf sh r0 15) v5.toNatClampNeg)])) (h1 := (sh, I, J)) rfl ⟨e0.rf, e1.ar, e2⟩ (xG_Ci rfl rfl (Nat.le_of_ble_eq_true rfl) (Nat.le_of_ble_eq_true rfl) trivial rfl k)
set_option maxRecDepth 100000 in
theorem s_M_prepare_29 {d : Nat} {Q : xO → xH → Prop} {sh : List xS} {I : Nat → Nat → Int32} {J : Nat → Nat → Int64} {r0 : Nat} {v1 : Int32} {v2 : Int32} {v3 : Int32} {v4 : Int32} {v5 : Int32} {o6 : Option Value} {o7 : Option Value} {t0 : Int32} {a1 : Nat} {n2 : Nat}
    (e0 : xRr sh r0 10 15 a1)
    (e1 : xAr sh a1 .int n2)
    (e2 : vp_in v5 n2)
    (k : xg d qM_part [.int (I a1 v5.toNatClampNeg), .int (2 : Int32)] (sh, I, J) (xI (fun v h1 => xG d zm_M_prepare (52, [some (.ref r0), some (.int v1), some (.int v2), some (.int v3), some (.int v4), some (.int v5), some (.int t0), o7], [.int v, .int ((I a1 v5.toNatClampNeg) &&& (-16711936 : Int32))]) h1 Q) (fun x h1 => Q (.inr x) h1))) :
    xG d zm_M_prepare (29, [some (.ref r0), some (.int v1), some (.int v2), some (.int v3), some (.int v4), some (.int v5), o6, o7], [.int t0]) (sh, I, J) Q := by
  obtain rfl := e0.eq
  obtain rfl := e1.eq
  exact xG_N 12 (ps := [xRf sh r0 10 15, xA sh (xrf sh r0 15) .int, vp_in v5 (xlen sh (xrf sh r0 15)), xRf sh r0 10 15, xA sh (xrf sh r0 15) .int, vp_in v5 (xlen sh (xrf sh r0 15))]) (f1 := (49, [some (.ref r0), some (.int v1), some (.int v2), some (.int v3), some (.int v4), some (.int v5), some (.int t0), o7], [.int (2 : Int32), .int (I (xrf sh r0 15) v5.toNatClampNeg), .int ((I (xrf sh r0 15) v5.toNatClampNeg) &&& (-16711936 : Int32))])) (h1 := (sh, I, J)) rfl ⟨e0.rf, e1.ar, e2, e0.rf, e1.ar, e2⟩ (xG_Ci rfl rfl (Nat.le_of_ble_eq_true rfl) (Nat.le_of_ble_eq_true rfl) trivial rfl k)
set_option maxRecDepth 100000 in
theorem s_M_prepare_52 {d : Nat} {Q : xO → xH → Prop} {sh : List xS} {I : Nat → Nat → Int32} {J : Nat → Nat → Int64} {r0 : Nat} {v1 : Int32} {v2 : Int32} {v3 : Int32} {v4 : Int32} {v5 : Int32} {v6 : Int32} {o7 : Option Value} {t0 : Int32} {t1 : Int32} {a1 : Nat} {n2 : Nat}
    (e0 : xRr sh r0 10 15 a1)
    (e1 : xAr sh a1 .int n2)
    (e2 : vp_in v5 n2)
    (k : xg d qM_part [.int (I a1 v5.toNatClampNeg), .int (0 : Int32)] (sh, I, J) (xI (fun v h1 => xG d zm_M_prepare (74, [some (.ref r0), some (.int v1), some (.int v2), some (.int v3), some (.int v4), some (.int v5), some (.int v6), o7], [.int v, .int (t0 ||| (((t1 - v6) &&& (255 : Int32)) <<< ((16 : Int32) &&& 31)))]) h1 Q) (fun x h1 => Q (.inr x) h1))) :
    xG d zm_M_prepare (52, [some (.ref r0), some (.int v1), some (.int v2), some (.int v3), some (.int v4), some (.int v5), some (.int v6), o7], [.int t1, .int t0]) (sh, I, J) Q := by
  obtain rfl := e0.eq
  obtain rfl := e1.eq
  exact xG_N 12 (ps := [xRf sh r0 10 15, xA sh (xrf sh r0 15) .int, vp_in v5 (xlen sh (xrf sh r0 15))]) (f1 := (71, [some (.ref r0), some (.int v1), some (.int v2), some (.int v3), some (.int v4), some (.int v5), some (.int v6), o7], [.int (0 : Int32), .int (I (xrf sh r0 15) v5.toNatClampNeg), .int (t0 ||| (((t1 - v6) &&& (255 : Int32)) <<< ((16 : Int32) &&& 31)))])) (h1 := (sh, I, J)) rfl ⟨e0.rf, e1.ar, e2⟩ (xG_Ci rfl rfl (Nat.le_of_ble_eq_true rfl) (Nat.le_of_ble_eq_true rfl) trivial rfl k)
set_option maxRecDepth 100000 in
theorem s_M_prepare_74 {d : Nat} {Q : xO → xH → Prop} {sh : List xS} {I : Nat → Nat → Int32} {J : Nat → Nat → Int64} {r0 : Nat} {v1 : Int32} {v2 : Int32} {v3 : Int32} {v4 : Int32} {v5 : Int32} {v6 : Int32} {o7 : Option Value} {t0 : Int32} {t1 : Int32} {a1 : Nat}
    (e0 : xRr sh r0 10 14 a1)
    (k1 : v2 = 0 → xG d zm_M_prepare (99, [some (.ref r0), some (.int v1), some (.int v2), some (.int v3), some (.int v4), some (.int v5), some (.int v6), some (.int (t0 ||| ((t1 - v6) &&& (255 : Int32))))], [.int v5, .ref a1]) (sh, I, J) Q)
    (k2 : ¬ (v2 = 0) → xG d zm_M_prepare (94, [some (.ref r0), some (.int v1), some (.int v2), some (.int v3), some (.int v4), some (.int v5), some (.int v6), some (.int (t0 ||| ((t1 - v6) &&& (255 : Int32))))], [.int v5, .ref a1]) (sh, I, J) Q) :
    xG d zm_M_prepare (74, [some (.ref r0), some (.int v1), some (.int v2), some (.int v3), some (.int v4), some (.int v5), some (.int v6), o7], [.int t1, .int t0]) (sh, I, J) Q := by
  obtain rfl := e0.eq
  exact xG_N 10 (ps := [xRf sh r0 10 14]) (f1 := (91, [some (.ref r0), some (.int v1), some (.int v2), some (.int v3), some (.int v4), some (.int v5), some (.int v6), some (.int (t0 ||| ((t1 - v6) &&& (255 : Int32))))], [.int v2, .int v5, .ref (xrf sh r0 14)])) (h1 := (sh, I, J)) rfl e0.rf (xG_B rfl rfl k1 k2)
set_option maxRecDepth 100000 in
theorem s_M_prepare_94 {d : Nat} {Q : xO → xH → Prop} {sh : List xS} {I : Nat → Nat → Int32} {J : Nat → Nat → Int64} {r0 : Nat} {v1 : Int32} {v2 : Int32} {v3 : Int32} {v4 : Int32} {v5 : Int32} {v6 : Int32} {v7 : Int32} {t0 : Nat} {t1 : Int32} {n1 : Nat}
    (e0 : xAr sh t0 .int n1)
    (e1 : 4 ≤ t0)
    (e2 : vp_in t1 n1)
    (k : xG d zm_M_prepare (11, [some (.ref r0), some (.int v1), some (.int v2), some (.int v3), some (.int v4), some (.int (v5 + (1 : Int32))), some (.int v6), some (.int v7)], []) (sh, xup I t0 t1.toNatClampNeg v7, J) Q) :
    xG d zm_M_prepare (94, [some (.ref r0), some (.int v1), some (.int v2), some (.int v3), some (.int v4), some (.int v5), some (.int v6), some (.int v7)], [.int t1, .ref t0]) (sh, I, J) Q := by
  obtain rfl := e0.eq
  exact xG_N 5 (ps := [xW sh t0 .int, vp_in t1 (xlen sh t0)]) (f1 := (11, [some (.ref r0), some (.int v1), some (.int v2), some (.int v3), some (.int v4), some (.int (v5 + (1 : Int32))), some (.int v6), some (.int v7)], [])) (h1 := (sh, xup I t0 t1.toNatClampNeg v7, J)) rfl ⟨⟨e0.ar, e1⟩, e2⟩ (k)
set_option maxRecDepth 100000 in
theorem s_M_prepare_99 {d : Nat} {Q : xO → xH → Prop} {sh : List xS} {I : Nat → Nat → Int32} {J : Nat → Nat → Int64} {r0 : Nat} {v1 : Int32} {v2 : Int32} {v3 : Int32} {v4 : Int32} {v5 : Int32} {v6 : Int32} {v7 : Int32} {t0 : Nat} {t1 : Int32} {a1 : Nat} {n2 : Nat} {n3 : Nat}
    (e0 : xRr sh r0 10 15 a1)
    (e1 : xAr sh a1 .int n2)
    (e2 : vp_in v5 n2)
    (e3 : xAr sh t0 .int n3)
    (e4 : 4 ≤ t0)
    (e5 : vp_in t1 n3)
    (k : xG d zm_M_prepare (11, [some (.ref r0), some (.int v1), some (.int v2), some (.int v3), some (.int v4), some (.int (v5 + (1 : Int32))), some (.int v6), some (.int v7)], []) (sh, xup I t0 t1.toNatClampNeg (I a1 v5.toNatClampNeg), J) Q) :
    xG d zm_M_prepare (99, [some (.ref r0), some (.int v1), some (.int v2), some (.int v3), some (.int v4), some (.int v5), some (.int v6), some (.int v7)], [.int t1, .ref t0]) (sh, I, J) Q := by
  obtain rfl := e0.eq
  obtain rfl := e1.eq
  obtain rfl := e3.eq
  exact xG_N 7 (ps := [xRf sh r0 10 15, xA sh (xrf sh r0 15) .int, vp_in v5 (xlen sh (xrf sh r0 15)), xW sh t0 .int, vp_in t1 (xlen sh t0)]) (f1 := (11, [some (.ref r0), some (.int v1), some (.int v2), some (.int v3), some (.int v4), some (.int (v5 + (1 : Int32))), some (.int v6), some (.int v7)], [])) (h1 := (sh, xup I t0 t1.toNatClampNeg (I (xrf sh r0 15) v5.toNatClampNeg), J)) rfl ⟨e0.rf, e1.ar, e2, ⟨e3.ar, e4⟩, e5⟩ (k)
set_option maxRecDepth 100000 in
theorem s_M_prepare_113 {d : Nat} {Q : xO → xH → Prop} {sh : List xS} {I : Nat → Nat → Int32} {J : Nat → Nat → Int64} {r0 : Nat} {v1 : Int32} {v2 : Int32} {v3 : Int32} {v4 : Int32} {v5 : Int32} {o6 : Option Value} {o7 : Option Value}
    (k : xG d zm_M_prepare (119, [some (.ref r0), some (.int v1), some (.int v2), some (.int v3), some (.int v4), some (.int (v4 - (1 : Int32))), o6, o7], []) (sh, I, J) Q) :
    xG d zm_M_prepare (113, [some (.ref r0), some (.int v1), some (.int v2), some (.int v3), some (.int v4), some (.int v5), o6, o7], []) (sh, I, J) Q := by
  exact xG_N 4 (ps := []) (f1 := (119, [some (.ref r0), some (.int v1), some (.int v2), some (.int v3), some (.int v4), some (.int (v4 - (1 : Int32))), o6, o7], [])) (h1 := (sh, I, J)) rfl trivial (k)
set_option maxRecDepth 100000 in
theorem s_M_prepare_119 {d : Nat} {Q : xO → xH → Prop} {sh : List xS} {I : Nat → Nat → Int32} {J : Nat → Nat → Int64} {r0 : Nat} {v1 : Int32} {v2 : Int32} {v3 : Int32} {v4 : Int32} {v5 : Int32} {o6 : Option Value} {o7 : Option Value}
    (k1 : v5 < 0 → xG d zm_M_prepare (159, [some (.ref r0), some (.int v1), some (.int v2), some (.int v3), some (.int v4), some (.int v5), o6, o7], []) (sh, I, J) Q)
    (k2 : ¬ (v5 < 0) → xG d zm_M_prepare (124, [some (.ref r0), some (.int v1), some (.int v2), some (.int v3), some (.int v4), some (.int v5), o6, o7], []) (sh, I, J) Q) :
    xG d zm_M_prepare (119, [some (.ref r0), some (.int v1), some (.int v2), some (.int v3), some (.int v4), some (.int v5), o6, o7], []) (sh, I, J) Q := by
  exact xG_N 1 (ps := []) (f1 := (121, [some (.ref r0), some (.int v1), some (.int v2), some (.int v3), some (.int v4), some (.int v5), o6, o7], [.int v5])) (h1 := (sh, I, J)) rfl trivial (xG_B rfl rfl k1 k2)
set_option maxRecDepth 100000 in
theorem s_M_prepare_124 {d : Nat} {Q : xO → xH → Prop} {sh : List xS} {I : Nat → Nat → Int32} {J : Nat → Nat → Int64} {r0 : Nat} {v1 : Int32} {v2 : Int32} {v3 : Int32} {v4 : Int32} {v5 : Int32} {o6 : Option Value} {o7 : Option Value}
    (k1 : v3 < 0 → xG d zm_M_prepare (159, [some (.ref r0), some (.int v1), some (.int v2), some (.int v3), some (.int v4), some (.int v5), o6, o7], []) (sh, I, J) Q)
    (k2 : ¬ (v3 < 0) → xG d zm_M_prepare (128, [some (.ref r0), some (.int v1), some (.int v2), some (.int v3), some (.int v4), some (.int v5), o6, o7], []) (sh, I, J) Q) :
    xG d zm_M_prepare (124, [some (.ref r0), some (.int v1), some (.int v2), some (.int v3), some (.int v4), some (.int v5), o6, o7], []) (sh, I, J) Q := by
  exact xG_N 1 (ps := []) (f1 := (125, [some (.ref r0), some (.int v1), some (.int v2), some (.int v3), some (.int v4), some (.int v5), o6, o7], [.int v3])) (h1 := (sh, I, J)) rfl trivial (xG_B rfl rfl k1 k2)
set_option maxRecDepth 100000 in
theorem s_M_prepare_128 {d : Nat} {Q : xO → xH → Prop} {sh : List xS} {I : Nat → Nat → Int32} {J : Nat → Nat → Int64} {r0 : Nat} {v1 : Int32} {v2 : Int32} {v3 : Int32} {v4 : Int32} {v5 : Int32} {o6 : Option Value} {o7 : Option Value} {a1 : Nat} {a2 : Nat} {n3 : Nat}
    (e0 : xRr sh r0 10 15 a1)
    (e1 : xRr sh r0 10 14 a2)
    (e2 : xAr sh a2 .int n3)
    (e3 : vp_in v5 n3)
    (k : xg d qM_foretoldAt [.ref r0, .int v5, .int v1, .int v3] (sh, I, J) (xI (fun v h1 => xG d zm_M_prepare (149, [some (.ref r0), some (.int v1), some (.int v2), some (.int v3), some (.int v4), some (.int v5), o6, o7], [.int v, .int (I a2 v5.toNatClampNeg), .int v5, .ref a1]) h1 Q) (fun x h1 => Q (.inr x) h1))) :
    xG d zm_M_prepare (128, [some (.ref r0), some (.int v1), some (.int v2), some (.int v3), some (.int v4), some (.int v5), o6, o7], []) (sh, I, J) Q := by
  obtain rfl := e0.eq
  obtain rfl := e1.eq
  obtain rfl := e2.eq
  exact xG_N 11 (ps := [xRf sh r0 10 15, xRf sh r0 10 14, xA sh (xrf sh r0 14) .int, vp_in v5 (xlen sh (xrf sh r0 14))]) (f1 := (146, [some (.ref r0), some (.int v1), some (.int v2), some (.int v3), some (.int v4), some (.int v5), o6, o7], [.int v3, .int v1, .int v5, .ref r0, .int (I (xrf sh r0 14) v5.toNatClampNeg), .int v5, .ref (xrf sh r0 15)])) (h1 := (sh, I, J)) rfl ⟨e0.rf, e1.rf, e2.ar, e3⟩ (xG_Ci rfl rfl (Nat.le_of_ble_eq_true rfl) (Nat.le_of_ble_eq_true rfl) ⟨_, _, rfl, e1.ob⟩ rfl k)
set_option maxRecDepth 100000 in
theorem s_M_prepare_149 {d : Nat} {Q : xO → xH → Prop} {sh : List xS} {I : Nat → Nat → Int32} {J : Nat → Nat → Int64} {r0 : Nat} {v1 : Int32} {v2 : Int32} {v3 : Int32} {v4 : Int32} {v5 : Int32} {o6 : Option Value} {o7 : Option Value} {t0 : Nat} {t1 : Int32} {t2 : Int32} {t3 : Int32}
    (k : xg d qM_minus [.int t2, .int t3] (sh, I, J) (xI (fun v h1 => xG d zm_M_prepare (152, [some (.ref r0), some (.int v1), some (.int v2), some (.int v3), some (.int v4), some (.int v5), o6, o7], [.int v, .int t1, .ref t0]) h1 Q) (fun x h1 => Q (.inr x) h1))) :
    xG d zm_M_prepare (149, [some (.ref r0), some (.int v1), some (.int v2), some (.int v3), some (.int v4), some (.int v5), o6, o7], [.int t3, .int t2, .int t1, .ref t0]) (sh, I, J) Q := by
  exact xG_Ci rfl rfl (Nat.le_of_ble_eq_true rfl) (Nat.le_of_ble_eq_true rfl) trivial rfl k
set_option maxRecDepth 100000 in
theorem s_M_prepare_152 {d : Nat} {Q : xO → xH → Prop} {sh : List xS} {I : Nat → Nat → Int32} {J : Nat → Nat → Int64} {r0 : Nat} {v1 : Int32} {v2 : Int32} {v3 : Int32} {v4 : Int32} {v5 : Int32} {o6 : Option Value} {o7 : Option Value} {t0 : Nat} {t1 : Int32} {t2 : Int32} {n1 : Nat}
    (e0 : xAr sh t0 .int n1)
    (e1 : 4 ≤ t0)
    (e2 : vp_in t1 n1)
    (k : xG d zm_M_prepare (119, [some (.ref r0), some (.int v1), some (.int v2), some (.int v3), some (.int v4), some (.int (v5 + (-1 : Int32))), o6, o7], []) (sh, xup I t0 t1.toNatClampNeg t2, J) Q) :
    xG d zm_M_prepare (152, [some (.ref r0), some (.int v1), some (.int v2), some (.int v3), some (.int v4), some (.int v5), o6, o7], [.int t2, .int t1, .ref t0]) (sh, I, J) Q := by
  obtain rfl := e0.eq
  exact xG_N 3 (ps := [xW sh t0 .int, vp_in t1 (xlen sh t0)]) (f1 := (119, [some (.ref r0), some (.int v1), some (.int v2), some (.int v3), some (.int v4), some (.int (v5 + (-1 : Int32))), o6, o7], [])) (h1 := (sh, xup I t0 t1.toNatClampNeg t2, J)) rfl ⟨⟨e0.ar, e1⟩, e2⟩ (k)
set_option maxRecDepth 100000 in
theorem s_M_prepare_159 {d : Nat} {Q : xO → xH → Prop} {sh : List xS} {I : Nat → Nat → Int32} {J : Nat → Nat → Int64} {r0 : Nat} {v1 : Int32} {v2 : Int32} {v3 : Int32} {v4 : Int32} {v5 : Int32} {o6 : Option Value} {o7 : Option Value}
    (k : xG d zm_M_prepare (162, [some (.ref r0), some (.int v1), some (.int v2), some (.int v3), some (.int v4), some (.int (0 : Int32)), o6, o7], []) (sh, I, J) Q) :
    xG d zm_M_prepare (159, [some (.ref r0), some (.int v1), some (.int v2), some (.int v3), some (.int v4), some (.int v5), o6, o7], []) (sh, I, J) Q := by
  exact xG_N 2 (ps := []) (f1 := (162, [some (.ref r0), some (.int v1), some (.int v2), some (.int v3), some (.int v4), some (.int (0 : Int32)), o6, o7], [])) (h1 := (sh, I, J)) rfl trivial (k)
set_option maxRecDepth 100000 in
theorem s_M_prepare_162 {d : Nat} {Q : xO → xH → Prop} {sh : List xS} {I : Nat → Nat → Int32} {J : Nat → Nat → Int64} {r0 : Nat} {v1 : Int32} {v2 : Int32} {v3 : Int32} {v4 : Int32} {v5 : Int32} {o6 : Option Value} {o7 : Option Value}
    (k1 : v4 ≤ v5 → xG d zm_M_prepare (193, [some (.ref r0), some (.int v1), some (.int v2), some (.int v3), some (.int v4), some (.int v5), o6, o7], []) (sh, I, J) Q)
    (k2 : ¬ (v4 ≤ v5) → xG d zm_M_prepare (169, [some (.ref r0), some (.int v1), some (.int v2), some (.int v3), some (.int v4), some (.int v5), o6, o7], []) (sh, I, J) Q) :
    xG d zm_M_prepare (162, [some (.ref r0), some (.int v1), some (.int v2), some (.int v3), some (.int v4), some (.int v5), o6, o7], []) (sh, I, J) Q := by
  exact xG_N 2 (ps := []) (f1 := (166, [some (.ref r0), some (.int v1), some (.int v2), some (.int v3), some (.int v4), some (.int v5), o6, o7], [.int v4, .int v5])) (h1 := (sh, I, J)) rfl trivial (xG_B rfl rfl k1 k2)
set_option maxRecDepth 100000 in
theorem s_M_prepare_169 {d : Nat} {Q : xO → xH → Prop} {sh : List xS} {I : Nat → Nat → Int32} {J : Nat → Nat → Int64} {r0 : Nat} {v1 : Int32} {v2 : Int32} {v3 : Int32} {v4 : Int32} {v5 : Int32} {o6 : Option Value} {o7 : Option Value}
    (k1 : v3 < 0 → xG d zm_M_prepare (193, [some (.ref r0), some (.int v1), some (.int v2), some (.int v3), some (.int v4), some (.int v5), o6, o7], []) (sh, I, J) Q)
    (k2 : ¬ (v3 < 0) → xG d zm_M_prepare (173, [some (.ref r0), some (.int v1), some (.int v2), some (.int v3), some (.int v4), some (.int v5), o6, o7], []) (sh, I, J) Q) :
    xG d zm_M_prepare (169, [some (.ref r0), some (.int v1), some (.int v2), some (.int v3), some (.int v4), some (.int v5), o6, o7], []) (sh, I, J) Q := by
  exact xG_N 1 (ps := []) (f1 := (170, [some (.ref r0), some (.int v1), some (.int v2), some (.int v3), some (.int v4), some (.int v5), o6, o7], [.int v3])) (h1 := (sh, I, J)) rfl trivial (xG_B rfl rfl k1 k2)
set_option maxRecDepth 100000 in
theorem s_M_prepare_173 {d : Nat} {Q : xO → xH → Prop} {sh : List xS} {I : Nat → Nat → Int32} {J : Nat → Nat → Int64} {r0 : Nat} {v1 : Int32} {v2 : Int32} {v3 : Int32} {v4 : Int32} {v5 : Int32} {o6 : Option Value} {o7 : Option Value} {a1 : Nat} {a2 : Nat} {n3 : Nat} {n4 : Nat}
    (e0 : xRr sh r0 10 14 a1)
    (e1 : xRr sh r0 10 15 a2)
    (e2 : xAr sh a2 .int n3)
    (e3 : vp_in v5 n3)
    (e4 : xAr sh a1 .int n4)
    (e5 : 4 ≤ a1)
    (e6 : vp_in v5 n4)
    (k : xG d zm_M_prepare (162, [some (.ref r0), some (.int v1), some (.int v2), some (.int v3), some (.int v4), some (.int (v5 + (1 : Int32))), o6, o7], []) (sh, xup I a1 v5.toNatClampNeg (I a2 v5.toNatClampNeg), J) Q) :
    xG d zm_M_prepare (173, [some (.ref r0), some (.int v1), some (.int v2), some (.int v3), some (.int v4), some (.int v5), o6, o7], []) (sh, I, J) Q := by
  obtain rfl := e0.eq
  obtain rfl := e1.eq
  obtain rfl := e2.eq
  obtain rfl := e4.eq
  exact xG_N 10 (ps := [xRf sh r0 10 14, xRf sh r0 10 15, xA sh (xrf sh r0 15) .int, vp_in v5 (xlen sh (xrf sh r0 15)), xW sh (xrf sh r0 14) .int, vp_in v5 (xlen sh (xrf sh r0 14))]) (f1 := (162, [some (.ref r0), some (.int v1), some (.int v2), some (.int v3), some (.int v4), some (.int (v5 + (1 : Int32))), o6, o7], [])) (h1 := (sh, xup I (xrf sh r0 14) v5.toNatClampNeg (I (xrf sh r0 15) v5.toNatClampNeg), J)) rfl ⟨e0.rf, e1.rf, e2.ar, e3, ⟨e4.ar, e5⟩, e6⟩ (k)
set_option maxRecDepth 100000 in
theorem s_M_prepare_193 {d : Nat} {Q : xO → xH → Prop} {sh : List xS} {I : Nat → Nat → Int32} {J : Nat → Nat → Int64} {r0 : Nat} {v1 : Int32} {v2 : Int32} {v3 : Int32} {v4 : Int32} {v5 : Int32} {o6 : Option Value} {o7 : Option Value}
    (k : Q (.inl (none)) (sh, I, J)) :
    xG d zm_M_prepare (193, [some (.ref r0), some (.int v1), some (.int v2), some (.int v3), some (.int v4), some (.int v5), o6, o7], []) (sh, I, J) Q := by
  exact xG_Q rfl rfl trivial k
set_option maxRecDepth 100000 in
theorem s_M_write_0 {d : Nat} {Q : xO → xH → Prop} {sh : List xS} {I : Nat → Nat → Int32} {J : Nat → Nat → Int64} {r0 : Nat} {v1 : Int32} {v2 : Int32} {v3 : Int32} {v4 : Int32}
    (k1 : v3 < (-1 : Int32) → xG d zm_M_write (36, [some (.ref r0), some (.int v1), some (.int v2), some (.int v3), some (.int v4), none, none], [.ref r0]) (sh, I, J) Q)
    (k2 : ¬ (v3 < (-1 : Int32)) → xG d zm_M_write (6, [some (.ref r0), some (.int v1), some (.int v2), some (.int v3), some (.int v4), none, none], [.ref r0]) (sh, I, J) Q) :
    xG d zm_M_write (0, [some (.ref r0), some (.int v1), some (.int v2), some (.int v3), some (.int v4), none, none], []) (sh, I, J) Q := by
  exact xG_N 3 (ps := []) (f1 := (3, [some (.ref r0), some (.int v1), some (.int v2), some (.int v3), some (.int v4), none, none], [.int (-1 : Int32), .int v3, .ref r0])) (h1 := (sh, I, J)) rfl trivial (xG_B rfl rfl k1 k2)
set_option maxRecDepth 100000 in
theorem s_M_write_6 {d : Nat} {Q : xO → xH → Prop} {sh : List xS} {I : Nat → Nat → Int32} {J : Nat → Nat → Int64} {r0 : Nat} {v1 : Int32} {v2 : Int32} {v3 : Int32} {v4 : Int32} {t0 : Nat}
    (k1 : (13 : Int32) < v3 → xG d zm_M_write (36, [some (.ref r0), some (.int v1), some (.int v2), some (.int v3), some (.int v4), none, none], [.ref t0]) (sh, I, J) Q)
    (k2 : ¬ ((13 : Int32) < v3) → xG d zm_M_write (12, [some (.ref r0), some (.int v1), some (.int v2), some (.int v3), some (.int v4), none, none], [.ref t0]) (sh, I, J) Q) :
    xG d zm_M_write (6, [some (.ref r0), some (.int v1), some (.int v2), some (.int v3), some (.int v4), none, none], [.ref t0]) (sh, I, J) Q := by
  exact xG_N 2 (ps := []) (f1 := (9, [some (.ref r0), some (.int v1), some (.int v2), some (.int v3), some (.int v4), none, none], [.int (13 : Int32), .int v3, .ref t0])) (h1 := (sh, I, J)) rfl trivial (xG_B rfl rfl k1 k2)
set_option maxRecDepth 100000 in
theorem s_M_write_12 {d : Nat} {Q : xO → xH → Prop} {sh : List xS} {I : Nat → Nat → Int32} {J : Nat → Nat → Int64} {r0 : Nat} {v1 : Int32} {v2 : Int32} {v3 : Int32} {v4 : Int32} {t0 : Nat}
    (k1 : v4 < 0 → xG d zm_M_write (36, [some (.ref r0), some (.int v1), some (.int v2), some (.int v3), some (.int v4), none, none], [.ref t0]) (sh, I, J) Q)
    (k2 : ¬ (v4 < 0) → xG d zm_M_write (17, [some (.ref r0), some (.int v1), some (.int v2), some (.int v3), some (.int v4), none, none], [.ref t0]) (sh, I, J) Q) :
    xG d zm_M_write (12, [some (.ref r0), some (.int v1), some (.int v2), some (.int v3), some (.int v4), none, none], [.ref t0]) (sh, I, J) Q := by
  exact xG_N 1 (ps := []) (f1 := (14, [some (.ref r0), some (.int v1), some (.int v2), some (.int v3), some (.int v4), none, none], [.int v4, .ref t0])) (h1 := (sh, I, J)) rfl trivial (xG_B rfl rfl k1 k2)
set_option maxRecDepth 100000 in
theorem s_M_write_17 {d : Nat} {Q : xO → xH → Prop} {sh : List xS} {I : Nat → Nat → Int32} {J : Nat → Nat → Int64} {r0 : Nat} {v1 : Int32} {v2 : Int32} {v3 : Int32} {v4 : Int32} {t0 : Nat}
    (k1 : (4 : Int32) < v4 → xG d zm_M_write (36, [some (.ref r0), some (.int v1), some (.int v2), some (.int v3), some (.int v4), none, none], [.ref t0]) (sh, I, J) Q)
    (k2 : ¬ ((4 : Int32) < v4) → xG d zm_M_write (23, [some (.ref r0), some (.int v1), some (.int v2), some (.int v3), some (.int v4), none, none], [.ref t0]) (sh, I, J) Q) :
    xG d zm_M_write (17, [some (.ref r0), some (.int v1), some (.int v2), some (.int v3), some (.int v4), none, none], [.ref t0]) (sh, I, J) Q := by
  exact xG_N 2 (ps := []) (f1 := (20, [some (.ref r0), some (.int v1), some (.int v2), some (.int v3), some (.int v4), none, none], [.int (4 : Int32), .int v4, .ref t0])) (h1 := (sh, I, J)) rfl trivial (xG_B rfl rfl k1 k2)
set_option maxRecDepth 100000 in
theorem s_M_write_23 {d : Nat} {Q : xO → xH → Prop} {sh : List xS} {I : Nat → Nat → Int32} {J : Nat → Nat → Int64} {r0 : Nat} {v1 : Int32} {v2 : Int32} {v3 : Int32} {v4 : Int32} {t0 : Nat}
    (k1 : v1 = 0 → xG d zm_M_write (40, [some (.ref r0), some (.int v1), some (.int v2), some (.int v3), some (.int v4), none, none], [.ref t0]) (sh, I, J) Q)
    (k2 : ¬ (v1 = 0) → xG d zm_M_write (27, [some (.ref r0), some (.int v1), some (.int v2), some (.int v3), some (.int v4), none, none], [.ref t0]) (sh, I, J) Q) :
    xG d zm_M_write (23, [some (.ref r0), some (.int v1), some (.int v2), some (.int v3), some (.int v4), none, none], [.ref t0]) (sh, I, J) Q := by
  exact xG_N 1 (ps := []) (f1 := (24, [some (.ref r0), some (.int v1), some (.int v2), some (.int v3), some (.int v4), none, none], [.int v1, .ref t0])) (h1 := (sh, I, J)) rfl trivial (xG_B rfl rfl k1 k2)
set_option maxRecDepth 100000 in
theorem s_M_write_27 {d : Nat} {Q : xO → xH → Prop} {sh : List xS} {I : Nat → Nat → Int32} {J : Nat → Nat → Int64} {r0 : Nat} {v1 : Int32} {v2 : Int32} {v3 : Int32} {v4 : Int32} {t0 : Nat}
    (ko : xOb sh r0 10)
    (k : xg d qM_differentColours [.ref r0] (sh, I, J) (xI (fun v h1 => xG d zm_M_write (31, [some (.ref r0), some (.int v1), some (.int v2), some (.int v3), some (.int v4), none, none], [.int v, .ref t0]) h1 Q) (fun x h1 => Q (.inr x) h1))) :
    xG d zm_M_write (27, [some (.ref r0), some (.int v1), some (.int v2), some (.int v3), some (.int v4), none, none], [.ref t0]) (sh, I, J) Q := by
  exact xG_N 1 (ps := []) (f1 := (28, [some (.ref r0), some (.int v1), some (.int v2), some (.int v3), some (.int v4), none, none], [.ref r0, .ref t0])) (h1 := (sh, I, J)) rfl trivial (xG_Ci rfl rfl (Nat.le_of_ble_eq_true rfl) (Nat.le_of_ble_eq_true rfl) ⟨_, _, rfl, ko⟩ rfl k)
set_option maxRecDepth 100000 in
theorem s_M_write_31 {d : Nat} {Q : xO → xH → Prop} {sh : List xS} {I : Nat → Nat → Int32} {J : Nat → Nat → Int64} {r0 : Nat} {v1 : Int32} {v2 : Int32} {v3 : Int32} {v4 : Int32} {t0 : Nat} {t1 : Int32}
    (k1 : t1 ≤ (16 : Int32) → xG d zm_M_write (40, [some (.ref r0), some (.int v1), some (.int v2), some (.int v3), some (.int v4), none, none], [.ref t0]) (sh, I, J) Q)
    (k2 : ¬ (t1 ≤ (16 : Int32)) → xG d zm_M_write (36, [some (.ref r0), some (.int v1), some (.int v2), some (.int v3), some (.int v4), none, none], [.ref t0]) (sh, I, J) Q) :
    xG d zm_M_write (31, [some (.ref r0), some (.int v1), some (.int v2), some (.int v3), some (.int v4), none, none], [.int t1, .ref t0]) (sh, I, J) Q := by
  exact xG_N 1 (ps := []) (f1 := (33, [some (.ref r0), some (.int v1), some (.int v2), some (.int v3), some (.int v4), none, none], [.int (16 : Int32), .int t1, .ref t0])) (h1 := (sh, I, J)) rfl trivial (xG_B rfl rfl k1 k2)
set_option maxRecDepth 100000 in
theorem s_M_write_36 {d : Nat} {Q : xO → xH → Prop} {sh : List xS} {I : Nat → Nat → Int32} {J : Nat → Nat → Int64} {r0 : Nat} {v1 : Int32} {v2 : Int32} {v3 : Int32} {v4 : Int32} {t0 : Nat}
    (e0 : xOb sh t0 10)
    (e1 : xOb sh r0 10)
    (k1 : ((xup I t0 0 (1 : Int32)) r0 0) ≤ 0 → xG d zm_M_write (53, [some (.ref r0), some (.int v1), some (.int v2), some (.int v3), some (.int v4), none, none], []) (sh, xup I t0 0 (1 : Int32), J) Q)
    (k2 : ¬ (((xup I t0 0 (1 : Int32)) r0 0) ≤ 0) → xG d zm_M_write (51, [some (.ref r0), some (.int v1), some (.int v2), some (.int v3), some (.int v4), none, none], []) (sh, xup I t0 0 (1 : Int32), J) Q) :
    xG d zm_M_write (36, [some (.ref r0), some (.int v1), some (.int v2), some (.int v3), some (.int v4), none, none], [.ref t0]) (sh, I, J) Q := by
  exact xG_N 5 (ps := [xOb sh t0 10, xOb sh r0 10]) (f1 := (48, [some (.ref r0), some (.int v1), some (.int v2), some (.int v3), some (.int v4), none, none], [.int ((xup I t0 0 (1 : Int32)) r0 0)])) (h1 := (sh, xup I t0 0 (1 : Int32), J)) rfl ⟨e0, e1⟩ (xG_B rfl rfl k1 k2)
set_option maxRecDepth 100000 in
theorem s_M_write_40 {d : Nat} {Q : xO → xH → Prop} {sh : List xS} {I : Nat → Nat → Int32} {J : Nat → Nat → Int64} {r0 : Nat} {v1 : Int32} {v2 : Int32} {v3 : Int32} {v4 : Int32} {t0 : Nat}
    (e0 : xOb sh t0 10)
    (e1 : xOb sh r0 10)
    (k1 : ((xup I t0 0 (0 : Int32)) r0 0) ≤ 0 → xG d zm_M_write (53, [some (.ref r0), some (.int v1), some (.int v2), some (.int v3), some (.int v4), none, none], []) (sh, xup I t0 0 (0 : Int32), J) Q)
    (k2 : ¬ (((xup I t0 0 (0 : Int32)) r0 0) ≤ 0) → xG d zm_M_write (51, [some (.ref r0), some (.int v1), some (.int v2), some (.int v3), some (.int v4), none, none], []) (sh, xup I t0 0 (0 : Int32), J) Q) :
    xG d zm_M_write (40, [some (.ref r0), some (.int v1), some (.int v2), some (.int v3), some (.int v4), none, none], [.ref t0]) (sh, I, J) Q := by
  exact xG_N 4 (ps := [xOb sh t0 10, xOb sh r0 10]) (f1 := (48, [some (.ref r0), some (.int v1), some (.int v2), some (.int v3), some (.int v4), none, none], [.int ((xup I t0 0 (0 : Int32)) r0 0)])) (h1 := (sh, xup I t0 0 (0 : Int32), J)) rfl ⟨e0, e1⟩ (xG_B rfl rfl k1 k2)
set_option maxRecDepth 100000 in
theorem s_M_write_51 {d : Nat} {Q : xO → xH → Prop} {sh : List xS} {I : Nat → Nat → Int32} {J : Nat → Nat → Int64} {r0 : Nat} {v1 : Int32} {v2 : Int32} {v3 : Int32} {v4 : Int32}
    (k : Q (.inl (some (.int (0 : Int32)))) (sh, I, J)) :
    xG d zm_M_write (51, [some (.ref r0), some (.int v1), some (.int v2), some (.int v3), some (.int v4), none, none], []) (sh, I, J) Q := by
  exact xG_N 1 (ps := []) (f1 := (52, [some (.ref r0), some (.int v1), some (.int v2), some (.int v3), some (.int v4), none, none], [.int (0 : Int32)])) (h1 := (sh, I, J)) rfl trivial (xG_Q rfl rfl trivial k)
set_option maxRecDepth 100000 in
theorem s_M_write_53 {d : Nat} {Q : xO → xH → Prop} {sh : List xS} {I : Nat → Nat → Int32} {J : Nat → Nat → Int64} {r0 : Nat} {v1 : Int32} {v2 : Int32} {v3 : Int32} {v4 : Int32}
    (e0 : xOb sh r0 10)
    (k : xg d qM_put [.ref r0, .int (47 : Int32), .int (8 : Int32)] (sh, xup (xup (xup I r0 7 (0 : Int32)) r0 22 (0 : Int32)) r0 9 (0 : Int32), J) (xU (fun h1 => xG d zm_M_write (76, [some (.ref r0), some (.int v1), some (.int v2), some (.int v3), some (.int v4), none, none], []) h1 Q) (fun x h1 => Q (.inr x) h1))) :
    xG d zm_M_write (53, [some (.ref r0), some (.int v1), some (.int v2), some (.int v3), some (.int v4), none, none], []) (sh, I, J) Q := by
  exact xG_N 12 (ps := [xOb sh r0 10, xOb sh r0 10, xOb sh r0 10, ((0 : Int32) : Int32) = 0 ∨ ((0 : Int32) : Int32) = 1]) (f1 := (73, [some (.ref r0), some (.int v1), some (.int v2), some (.int v3), some (.int v4), none, none], [.int (8 : Int32), .int (47 : Int32), .ref r0])) (h1 := (sh, xup (xup (xup I r0 7 (0 : Int32)) r0 22 (0 : Int32)) r0 9 (0 : Int32), J)) rfl ⟨e0, e0, e0, (show ((0 : Int32) : Int32) = 0 ∨ ((0 : Int32) : Int32) = 1 by decide)⟩ (xG_Cu rfl rfl (Nat.le_of_ble_eq_true rfl) (Nat.le_of_ble_eq_true rfl) ⟨_, _, rfl, e0⟩ rfl k)
set_option maxRecDepth 100000 in
theorem s_M_write_76 {d : Nat} {Q : xO → xH → Prop} {sh : List xS} {I : Nat → Nat → Int32} {J : Nat → Nat → Int64} {r0 : Nat} {v1 : Int32} {v2 : Int32} {v3 : Int32} {v4 : Int32}
    (e0 : xOb sh r0 10)
    (k : xg d qM_put [.ref r0, .int ((I r0 1) - (1 : Int32)), .int (3 : Int32)] (sh, I, J) (xU (fun h1 => xG d zm_M_write (87, [some (.ref r0), some (.int v1), some (.int v2), some (.int v3), some (.int v4), none, none], []) h1 Q) (fun x h1 => Q (.inr x) h1))) :
    xG d zm_M_write (76, [some (.ref r0), some (.int v1), some (.int v2), some (.int v3), some (.int v4), none, none], []) (sh, I, J) Q := by
  exact xG_N 6 (ps := [xOb sh r0 10]) (f1 := (84, [some (.ref r0), some (.int v1), some (.int v2), some (.int v3), some (.int v4), none, none], [.int (3 : Int32), .int ((I r0 1) - (1 : Int32)), .ref r0])) (h1 := (sh, I, J)) rfl e0 (xG_Cu rfl rfl (Nat.le_of_ble_eq_true rfl) (Nat.le_of_ble_eq_true rfl) ⟨_, _, rfl, e0⟩ rfl k)
set_option maxRecDepth 100000 in
theorem s_M_write_87 {d : Nat} {Q : xO → xH → Prop} {sh : List xS} {I : Nat → Nat → Int32} {J : Nat → Nat → Int64} {r0 : Nat} {v1 : Int32} {v2 : Int32} {v3 : Int32} {v4 : Int32}
    (e0 : xOb sh r0 10)
    (k : xg d qM_put [.ref r0, .int ((I r0 2) - (1 : Int32)), .int (3 : Int32)] (sh, I, J) (xU (fun h1 => xG d zm_M_write (98, [some (.ref r0), some (.int v1), some (.int v2), some (.int v3), some (.int v4), none, none], []) h1 Q) (fun x h1 => Q (.inr x) h1))) :
    xG d zm_M_write (87, [some (.ref r0), some (.int v1), some (.int v2), some (.int v3), some (.int v4), none, none], []) (sh, I, J) Q := by
  exact xG_N 6 (ps := [xOb sh r0 10]) (f1 := (95, [some (.ref r0), some (.int v1), some (.int v2), some (.int v3), some (.int v4), none, none], [.int (3 : Int32), .int ((I r0 2) - (1 : Int32)), .ref r0])) (h1 := (sh, I, J)) rfl e0 (xG_Cu rfl rfl (Nat.le_of_ble_eq_true rfl) (Nat.le_of_ble_eq_true rfl) ⟨_, _, rfl, e0⟩ rfl k)
set_option maxRecDepth 100000 in
theorem s_M_write_98 {d : Nat} {Q : xO → xH → Prop} {sh : List xS} {I : Nat → Nat → Int32} {J : Nat → Nat → Int64} {r0 : Nat} {v1 : Int32} {v2 : Int32} {v3 : Int32} {v4 : Int32}
    (k1 : v1 = 0 → xG d zm_M_write (130, [some (.ref r0), some (.int v1), some (.int v2), some (.int v3), some (.int v4), none, none], []) (sh, I, J) Q)
    (k2 : ¬ (v1 = 0) → xG d zm_M_write (102, [some (.ref r0), some (.int v1), some (.int v2), some (.int v3), some (.int v4), none, none], []) (sh, I, J) Q) :
    xG d zm_M_write (98, [some (.ref r0), some (.int v1), some (.int v2), some (.int v3), some (.int v4), none, none], []) (sh, I, J) Q := by
  exact xG_N 1 (ps := []) (f1 := (99, [some (.ref r0), some (.int v1), some (.int v2), some (.int v3), some (.int v4), none, none], [.int v1])) (h1 := (sh, I, J)) rfl trivial (xG_B rfl rfl k1 k2)
set_option maxRecDepth 100000 in
theorem s_M_write_102 {d : Nat} {Q : xO → xH → Prop} {sh : List xS} {I : Nat → Nat → Int32} {J : Nat → Nat → Int64} {r0 : Nat} {v1 : Int32} {v2 : Int32} {v3 : Int32} {v4 : Int32}
    (ko : xOb sh r0 10)
    (k : xg d qM_findColours [.ref r0] (sh, I, J) (xU (fun h1 => xG d zm_M_write (106, [some (.ref r0), some (.int v1), some (.int v2), some (.int v3), some (.int v4), none, none], []) h1 Q) (fun x h1 => Q (.inr x) h1))) :
    xG d zm_M_write (102, [some (.ref r0), some (.int v1), some (.int v2), some (.int v3), some (.int v4), none, none], []) (sh, I, J) Q := by
  exact xG_N 1 (ps := []) (f1 := (103, [some (.ref r0), some (.int v1), some (.int v2), some (.int v3), some (.int v4), none, none], [.ref r0])) (h1 := (sh, I, J)) rfl trivial (xG_Cu rfl rfl (Nat.le_of_ble_eq_true rfl) (Nat.le_of_ble_eq_true rfl) ⟨_, _, rfl, ko⟩ rfl k)
set_option maxRecDepth 100000 in
theorem s_M_write_106 {d : Nat} {Q : xO → xH → Prop} {sh : List xS} {I : Nat → Nat → Int32} {J : Nat → Nat → Int64} {r0 : Nat} {v1 : Int32} {v2 : Int32} {v3 : Int32} {v4 : Int32}
    (ko : xOb sh r0 10)
    (k : xg d qM_putPalette [.ref r0] (sh, I, J) (xU (fun h1 => xG d zm_M_write (110, [some (.ref r0), some (.int v1), some (.int v2), some (.int v3), some (.int v4), none, none], []) h1 Q) (fun x h1 => Q (.inr x) h1))) :
    xG d zm_M_write (106, [some (.ref r0), some (.int v1), some (.int v2), some (.int v3), some (.int v4), none, none], []) (sh, I, J) Q := by
  exact xG_N 1 (ps := []) (f1 := (107, [some (.ref r0), some (.int v1), some (.int v2), some (.int v3), some (.int v4), none, none], [.ref r0])) (h1 := (sh, I, J)) rfl trivial (xG_Cu rfl rfl (Nat.le_of_ble_eq_true rfl) (Nat.le_of_ble_eq_true rfl) ⟨_, _, rfl, ko⟩ rfl k)
set_option maxRecDepth 100000 in
theorem s_M_write_110 {d : Nat} {Q : xO → xH → Prop} {sh : List xS} {I : Nat → Nat → Int32} {J : Nat → Nat → Int64} {r0 : Nat} {v1 : Int32} {v2 : Int32} {v3 : Int32} {v4 : Int32} {a1 : Nat} {n2 : Nat}
    (e0 : xRr sh r0 10 20 a1)
    (e1 : xAr sh a1 .int n2)
    (e2 : 4 ≤ a1)
    (e3 : vp_in (I r0 22) n2)
    (k1 : v2 = 0 → xG d zm_M_write (166, [some (.ref r0), some (.int v1), some (.int v2), some (.int v3), some (.int v4), none, none], []) (sh, xup (xup I a1 (I r0 22).toNatClampNeg (3 : Int32)) r0 22 (((xup I a1 (I r0 22).toNatClampNeg (3 : Int32)) r0 22) + (1 : Int32)), J) Q)
    (k2 : ¬ (v2 = 0) → xG d zm_M_write (134, [some (.ref r0), some (.int v1), some (.int v2), some (.int v3), some (.int v4), none, none], []) (sh, xup (xup I a1 (I r0 22).toNatClampNeg (3 : Int32)) r0 22 (((xup I a1 (I r0 22).toNatClampNeg (3 : Int32)) r0 22) + (1 : Int32)), J) Q) :
    xG d zm_M_write (110, [some (.ref r0), some (.int v1), some (.int v2), some (.int v3), some (.int v4), none, none], []) (sh, I, J) Q := by
  obtain rfl := e0.eq
  obtain rfl := e1.eq
  exact xG_N 13 (ps := [xRf sh r0 10 20, xOb sh r0 10, xW sh (xrf sh r0 20) .int, vp_in (I r0 22) (xlen sh (xrf sh r0 20)), xOb sh r0 10, xOb sh r0 10]) (f1 := (131, [some (.ref r0), some (.int v1), some (.int v2), some (.int v3), some (.int v4), none, none], [.int v2])) (h1 := (sh, xup (xup I (xrf sh r0 20) (I r0 22).toNatClampNeg (3 : Int32)) r0 22 (((xup I (xrf sh r0 20) (I r0 22).toNatClampNeg (3 : Int32)) r0 22) + (1 : Int32)), J)) rfl ⟨e0.rf, e0.ob, ⟨e1.ar, e2⟩, e3, e0.ob, e0.ob⟩ (xG_B rfl rfl k1 k2)
set_option maxRecDepth 100000 in
theorem s_M_write_130 {d : Nat} {Q : xO → xH → Prop} {sh : List xS} {I : Nat → Nat → Int32} {J : Nat → Nat → Int64} {r0 : Nat} {v1 : Int32} {v2 : Int32} {v3 : Int32} {v4 : Int32}
    (k1 : v2 = 0 → xG d zm_M_write (166, [some (.ref r0), some (.int v1), some (.int v2), some (.int v3), some (.int v4), none, none], []) (sh, I, J) Q)
    (k2 : ¬ (v2 = 0) → xG d zm_M_write (134, [some (.ref r0), some (.int v1), some (.int v2), some (.int v3), some (.int v4), none, none], []) (sh, I, J) Q) :
    xG d zm_M_write (130, [some (.ref r0), some (.int v1), some (.int v2), some (.int v3), some (.int v4), none, none], []) (sh, I, J) Q := by
  exact xG_N 1 (ps := []) (f1 := (131, [some (.ref r0), some (.int v1), some (.int v2), some (.int v3), some (.int v4), none, none], [.int v2])) (h1 := (sh, I, J)) rfl trivial (xG_B rfl rfl k1 k2)
set_option maxRecDepth 100000 in
theorem s_M_write_134 {d : Nat} {Q : xO → xH → Prop} {sh : List xS} {I : Nat → Nat → Int32} {J : Nat → Nat → Int64} {r0 : Nat} {v1 : Int32} {v2 : Int32} {v3 : Int32} {v4 : Int32}
    (ko : xOb sh r0 10)
    (k : xg d qM_put [.ref r0, .int (1 : Int32), .int (1 : Int32)] (sh, I, J) (xU (fun h1 => xG d zm_M_write (140, [some (.ref r0), some (.int v1), some (.int v2), some (.int v3), some (.int v4), none, none], []) h1 Q) (fun x h1 => Q (.inr x) h1))) :
    xG d zm_M_write (134, [some (.ref r0), some (.int v1), some (.int v2), some (.int v3), some (.int v4), none, none], []) (sh, I, J) Q := by
  exact xG_N 3 (ps := []) (f1 := (137, [some (.ref r0), some (.int v1), some (.int v2), some (.int v3), some (.int v4), none, none], [.int (1 : Int32), .int (1 : Int32), .ref r0])) (h1 := (sh, I, J)) rfl trivial (xG_Cu rfl rfl (Nat.le_of_ble_eq_true rfl) (Nat.le_of_ble_eq_true rfl) ⟨_, _, rfl, ko⟩ rfl k)
set_option maxRecDepth 100000 in
theorem s_M_write_140 {d : Nat} {Q : xO → xH → Prop} {sh : List xS} {I : Nat → Nat → Int32} {J : Nat → Nat → Int64} {r0 : Nat} {v1 : Int32} {v2 : Int32} {v3 : Int32} {v4 : Int32}
    (ko : xOb sh r0 10)
    (k : xg d qM_put [.ref r0, .int (2 : Int32), .int (2 : Int32)] (sh, I, J) (xU (fun h1 => xG d zm_M_write (146, [some (.ref r0), some (.int v1), some (.int v2), some (.int v3), some (.int v4), none, none], []) h1 Q) (fun x h1 => Q (.inr x) h1))) :
    xG d zm_M_write (140, [some (.ref r0), some (.int v1), some (.int v2), some (.int v3), some (.int v4), none, none], []) (sh, I, J) Q := by
  exact xG_N 3 (ps := []) (f1 := (143, [some (.ref r0), some (.int v1), some (.int v2), some (.int v3), some (.int v4), none, none], [.int (2 : Int32), .int (2 : Int32), .ref r0])) (h1 := (sh, I, J)) rfl trivial (xG_Cu rfl rfl (Nat.le_of_ble_eq_true rfl) (Nat.le_of_ble_eq_true rfl) ⟨_, _, rfl, ko⟩ rfl k)
set_option maxRecDepth 100000 in
theorem s_M_write_146 {d : Nat} {Q : xO → xH → Prop} {sh : List xS} {I : Nat → Nat → Int32} {J : Nat → Nat → Int64} {r0 : Nat} {v1 : Int32} {v2 : Int32} {v3 : Int32} {v4 : Int32} {a1 : Nat} {n2 : Nat}
    (e0 : xRr sh r0 10 20 a1)
    (e1 : xAr sh a1 .int n2)
    (e2 : 4 ≤ a1)
    (e3 : vp_in (I r0 22) n2)
    (k1 : v1 = 0 → xG d zm_M_write (184, [some (.ref r0), some (.int v1), some (.int v2), some (.int v3), some (.int v4), none, none], []) (sh, xup (xup I a1 (I r0 22).toNatClampNeg (2 : Int32)) r0 22 (((xup I a1 (I r0 22).toNatClampNeg (2 : Int32)) r0 22) + (1 : Int32)), J) Q)
    (k2 : ¬ (v1 = 0) → xG d zm_M_write (170, [some (.ref r0), some (.int v1), some (.int v2), some (.int v3), some (.int v4), none, none], []) (sh, xup (xup I a1 (I r0 22).toNatClampNeg (2 : Int32)) r0 22 (((xup I a1 (I r0 22).toNatClampNeg (2 : Int32)) r0 22) + (1 : Int32)), J) Q) :
    xG d zm_M_write (146, [some (.ref r0), some (.int v1), some (.int v2), some (.int v3), some (.int v4), none, none], []) (sh, I, J) Q := by
  obtain rfl := e0.eq
  obtain rfl := e1.eq
  exact xG_N 13 (ps := [xRf sh r0 10 20, xOb sh r0 10, xW sh (xrf sh r0 20) .int, vp_in (I r0 22) (xlen sh (xrf sh r0 20)), xOb sh r0 10, xOb sh r0 10]) (f1 := (167, [some (.ref r0), some (.int v1), some (.int v2), some (.int v3), some (.int v4), none, none], [.int v1])) (h1 := (sh, xup (xup I (xrf sh r0 20) (I r0 22).toNatClampNeg (2 : Int32)) r0 22 (((xup I (xrf sh r0 20) (I r0 22).toNatClampNeg (2 : Int32)) r0 22) + (1 : Int32)), J)) rfl ⟨e0.rf, e0.ob, ⟨e1.ar, e2⟩, e3, e0.ob, e0.ob⟩ (xG_B rfl rfl k1 k2)
set_option maxRecDepth 100000 in
theorem s_M_write_166 {d : Nat} {Q : xO → xH → Prop} {sh : List xS} {I : Nat → Nat → Int32} {J : Nat → Nat → Int64} {r0 : Nat} {v1 : Int32} {v2 : Int32} {v3 : Int32} {v4 : Int32}
    (k1 : v1 = 0 → xG d zm_M_write (184, [some (.ref r0), some (.int v1), some (.int v2), some (.int v3), some (.int v4), none, none], []) (sh, I, J) Q)
    (k2 : ¬ (v1 = 0) → xG d zm_M_write (170, [some (.ref r0), some (.int v1), some (.int v2), some (.int v3), some (.int v4), none, none], []) (sh, I, J) Q) :
    xG d zm_M_write (166, [some (.ref r0), some (.int v1), some (.int v2), some (.int v3), some (.int v4), none, none], []) (sh, I, J) Q := by
  exact xG_N 1 (ps := []) (f1 := (167, [some (.ref r0), some (.int v1), some (.int v2), some (.int v3), some (.int v4), none, none], [.int v1])) (h1 := (sh, I, J)) rfl trivial (xG_B rfl rfl k1 k2)
set_option maxRecDepth 100000 in
theorem s_M_write_170 {d : Nat} {Q : xO → xH → Prop} {sh : List xS} {I : Nat → Nat → Int32} {J : Nat → Nat → Int64} {r0 : Nat} {v1 : Int32} {v2 : Int32} {v3 : Int32} {v4 : Int32}
    (e0 : xOb sh r0 10)
    (k : xg d qM_packed [.int (I r0 1), .int (I r0 26)] (sh, I, J) (xI (fun v h1 => xG d zm_M_write (181, [some (.ref r0), some (.int v1), some (.int v2), some (.int v3), some (.int v4), none, none], [.int v]) h1 Q) (fun x h1 => Q (.inr x) h1))) :
    xG d zm_M_write (170, [some (.ref r0), some (.int v1), some (.int v2), some (.int v3), some (.int v4), none, none], []) (sh, I, J) Q := by
  exact xG_N 4 (ps := [xOb sh r0 10, xOb sh r0 10]) (f1 := (178, [some (.ref r0), some (.int v1), some (.int v2), some (.int v3), some (.int v4), none, none], [.int (I r0 26), .int (I r0 1)])) (h1 := (sh, I, J)) rfl ⟨e0, e0⟩ (xG_Ci rfl rfl (Nat.le_of_ble_eq_true rfl) (Nat.le_of_ble_eq_true rfl) trivial rfl k)
set_option maxRecDepth 100000 in
theorem s_M_write_181 {d : Nat} {Q : xO → xH → Prop} {sh : List xS} {I : Nat → Nat → Int32} {J : Nat → Nat → Int64} {r0 : Nat} {v1 : Int32} {v2 : Int32} {v3 : Int32} {v4 : Int32} {t0 : Int32}
    (k1 : v3 < 0 → xG d zm_M_write (221, [some (.ref r0), some (.int v1), some (.int v2), some (.int v3), some (.int v4), some (.int t0), none], []) (sh, I, J) Q)
    (k2 : ¬ (v3 < 0) → xG d zm_M_write (194, [some (.ref r0), some (.int v1), some (.int v2), some (.int v3), some (.int v4), some (.int t0), none], []) (sh, I, J) Q) :
    xG d zm_M_write (181, [some (.ref r0), some (.int v1), some (.int v2), some (.int v3), some (.int v4), none, none], [.int t0]) (sh, I, J) Q := by
  exact xG_N 3 (ps := []) (f1 := (191, [some (.ref r0), some (.int v1), some (.int v2), some (.int v3), some (.int v4), some (.int t0), none], [.int v3])) (h1 := (sh, I, J)) rfl trivial (xG_B rfl rfl k1 k2)
set_option maxRecDepth 100000 in
theorem s_M_write_184 {d : Nat} {Q : xO → xH → Prop} {sh : List xS} {I : Nat → Nat → Int32} {J : Nat → Nat → Int64} {r0 : Nat} {v1 : Int32} {v2 : Int32} {v3 : Int32} {v4 : Int32}
    (e0 : xOb sh r0 10)
    (k1 : v3 < 0 → xG d zm_M_write (221, [some (.ref r0), some (.int v1), some (.int v2), some (.int v3), some (.int v4), some (.int (I r0 1)), none], []) (sh, I, J) Q)
    (k2 : ¬ (v3 < 0) → xG d zm_M_write (194, [some (.ref r0), some (.int v1), some (.int v2), some (.int v3), some (.int v4), some (.int (I r0 1)), none], []) (sh, I, J) Q) :
    xG d zm_M_write (184, [some (.ref r0), some (.int v1), some (.int v2), some (.int v3), some (.int v4), none, none], []) (sh, I, J) Q := by
  exact xG_N 4 (ps := [xOb sh r0 10]) (f1 := (191, [some (.ref r0), some (.int v1), some (.int v2), some (.int v3), some (.int v4), some (.int (I r0 1)), none], [.int v3])) (h1 := (sh, I, J)) rfl e0 (xG_B rfl rfl k1 k2)
set_option maxRecDepth 100000 in
theorem s_M_write_194 {d : Nat} {Q : xO → xH → Prop} {sh : List xS} {I : Nat → Nat → Int32} {J : Nat → Nat → Int64} {r0 : Nat} {v1 : Int32} {v2 : Int32} {v3 : Int32} {v4 : Int32} {v5 : Int32}
    (ko : xOb sh r0 10)
    (k : xg d qM_putModes [.ref r0, .int v5, .int v3] (sh, I, J) (xU (fun h1 => xG d zm_M_write (201, [some (.ref r0), some (.int v1), some (.int v2), some (.int v3), some (.int v4), some (.int v5), none], []) h1 Q) (fun x h1 => Q (.inr x) h1))) :
    xG d zm_M_write (194, [some (.ref r0), some (.int v1), some (.int v2), some (.int v3), some (.int v4), some (.int v5), none], []) (sh, I, J) Q := by
  exact xG_N 3 (ps := []) (f1 := (198, [some (.ref r0), some (.int v1), some (.int v2), some (.int v3), some (.int v4), some (.int v5), none], [.int v3, .int v5, .ref r0])) (h1 := (sh, I, J)) rfl trivial (xG_Cu rfl rfl (Nat.le_of_ble_eq_true rfl) (Nat.le_of_ble_eq_true rfl) ⟨_, _, rfl, ko⟩ rfl k)
set_option maxRecDepth 100000 in
theorem s_M_write_201 {d : Nat} {Q : xO → xH → Prop} {sh : List xS} {I : Nat → Nat → Int32} {J : Nat → Nat → Int64} {r0 : Nat} {v1 : Int32} {v2 : Int32} {v3 : Int32} {v4 : Int32} {v5 : Int32} {a1 : Nat} {n2 : Nat}
    (e0 : xRr sh r0 10 20 a1)
    (e1 : xAr sh a1 .int n2)
    (e2 : 4 ≤ a1)
    (e3 : vp_in (I r0 22) n2)
    (k : xg d qM_put [.ref r0, .int (0 : Int32), .int (1 : Int32)] (sh, xup (xup I a1 (I r0 22).toNatClampNeg (0 : Int32)) r0 22 (((xup I a1 (I r0 22).toNatClampNeg (0 : Int32)) r0 22) + (1 : Int32)), J) (xU (fun h1 => xG d zm_M_write (227, [some (.ref r0), some (.int v1), some (.int v2), some (.int v3), some (.int v4), some (.int v5), none], []) h1 Q) (fun x h1 => Q (.inr x) h1))) :
    xG d zm_M_write (201, [some (.ref r0), some (.int v1), some (.int v2), some (.int v3), some (.int v4), some (.int v5), none], []) (sh, I, J) Q := by
  obtain rfl := e0.eq
  obtain rfl := e1.eq
  exact xG_N 15 (ps := [xRf sh r0 10 20, xOb sh r0 10, xW sh (xrf sh r0 20) .int, vp_in (I r0 22) (xlen sh (xrf sh r0 20)), xOb sh r0 10, xOb sh r0 10]) (f1 := (224, [some (.ref r0), some (.int v1), some (.int v2), some (.int v3), some (.int v4), some (.int v5), none], [.int (1 : Int32), .int (0 : Int32), .ref r0])) (h1 := (sh, xup (xup I (xrf sh r0 20) (I r0 22).toNatClampNeg (0 : Int32)) r0 22 (((xup I (xrf sh r0 20) (I r0 22).toNatClampNeg (0 : Int32)) r0 22) + (1 : Int32)), J)) rfl ⟨e0.rf, e0.ob, ⟨e1.ar, e2⟩, e3, e0.ob, e0.ob⟩ (xG_Cu rfl rfl (Nat.le_of_ble_eq_true rfl) (Nat.le_of_ble_eq_true rfl) ⟨_, _, rfl, e0.ob⟩ rfl k)
set_option maxRecDepth 100000 in
theorem s_M_write_221 {d : Nat} {Q : xO → xH → Prop} {sh : List xS} {I : Nat → Nat → Int32} {J : Nat → Nat → Int64} {r0 : Nat} {v1 : Int32} {v2 : Int32} {v3 : Int32} {v4 : Int32} {v5 : Int32}
    (ko : xOb sh r0 10)
    (k : xg d qM_put [.ref r0, .int (0 : Int32), .int (1 : Int32)] (sh, I, J) (xU (fun h1 => xG d zm_M_write (227, [some (.ref r0), some (.int v1), some (.int v2), some (.int v3), some (.int v4), some (.int v5), none], []) h1 Q) (fun x h1 => Q (.inr x) h1))) :
    xG d zm_M_write (221, [some (.ref r0), some (.int v1), some (.int v2), some (.int v3), some (.int v4), some (.int v5), none], []) (sh, I, J) Q := by
  exact xG_N 3 (ps := []) (f1 := (224, [some (.ref r0), some (.int v1), some (.int v2), some (.int v3), some (.int v4), some (.int v5), none], [.int (1 : Int32), .int (0 : Int32), .ref r0])) (h1 := (sh, I, J)) rfl trivial (xG_Cu rfl rfl (Nat.le_of_ble_eq_true rfl) (Nat.le_of_ble_eq_true rfl) ⟨_, _, rfl, ko⟩ rfl k)
set_option maxRecDepth 100000 in
theorem s_M_write_227 {d : Nat} {Q : xO → xH → Prop} {sh : List xS} {I : Nat → Nat → Int32} {J : Nat → Nat → Int64} {r0 : Nat} {v1 : Int32} {v2 : Int32} {v3 : Int32} {v4 : Int32} {v5 : Int32}
    (k1 : v1 = 0 → xG d zm_M_write (240, [some (.ref r0), some (.int v1), some (.int v2), some (.int v3), some (.int v4), some (.int v5), none], []) (sh, I, J) Q)
    (k2 : ¬ (v1 = 0) → xG d zm_M_write (231, [some (.ref r0), some (.int v1), some (.int v2), some (.int v3), some (.int v4), some (.int v5), none], []) (sh, I, J) Q) :
    xG d zm_M_write (227, [some (.ref r0), some (.int v1), some (.int v2), some (.int v3), some (.int v4), some (.int v5), none], []) (sh, I, J) Q := by
  exact xG_N 1 (ps := []) (f1 := (228, [some (.ref r0), some (.int v1), some (.int v2), some (.int v3), some (.int v4), some (.int v5), none], [.int v1])) (h1 := (sh, I, J)) rfl trivial (xG_B rfl rfl k1 k2)
set_option maxRecDepth 100000 in
theorem s_M_write_231 {d : Nat} {Q : xO → xH → Prop} {sh : List xS} {I : Nat → Nat → Int32} {J : Nat → Nat → Int64} {r0 : Nat} {v1 : Int32} {v2 : Int32} {v3 : Int32} {v4 : Int32} {v5 : Int32}
    (ko : xOb sh r0 10)
    (k : xg d qM_pack [.ref r0] (sh, I, J) (xI (fun v h1 => xG d zm_M_write (235, [some (.ref r0), some (.int v1), some (.int v2), some (.int v3), some (.int v4), some (.int v5), none], [.int v]) h1 Q) (fun x h1 => Q (.inr x) h1))) :
    xG d zm_M_write (231, [some (.ref r0), some (.int v1), some (.int v2), some (.int v3), some (.int v4), some (.int v5), none], []) (sh, I, J) Q := by
  exact xG_N 1 (ps := []) (f1 := (232, [some (.ref r0), some (.int v1), some (.int v2), some (.int v3), some (.int v4), some (.int v5), none], [.ref r0])) (h1 := (sh, I, J)) rfl trivial (xG_Ci rfl rfl (Nat.le_of_ble_eq_true rfl) (Nat.le_of_ble_eq_true rfl) ⟨_, _, rfl, ko⟩ rfl k)
set_option maxRecDepth 100000 in
theorem s_M_write_235 {d : Nat} {Q : xO → xH → Prop} {sh : List xS} {I : Nat → Nat → Int32} {J : Nat → Nat → Int64} {r0 : Nat} {v1 : Int32} {v2 : Int32} {v3 : Int32} {v4 : Int32} {v5 : Int32} {t0 : Int32}
    (ko : xOb sh r0 10)
    (k : xg d qM_prepare [.ref r0, .int t0, .int v2, .int v3] (sh, I, J) (xU (fun h1 => xG d zm_M_write (285, [some (.ref r0), some (.int v1), some (.int v2), some (.int v3), some (.int v4), some (.int t0), none], []) h1 Q) (fun x h1 => Q (.inr x) h1))) :
    xG d zm_M_write (235, [some (.ref r0), some (.int v1), some (.int v2), some (.int v3), some (.int v4), some (.int v5), none], [.int t0]) (sh, I, J) Q := by
  exact xG_N 6 (ps := []) (f1 := (282, [some (.ref r0), some (.int v1), some (.int v2), some (.int v3), some (.int v4), some (.int t0), none], [.int v3, .int v2, .int t0, .ref r0])) (h1 := (sh, I, J)) rfl trivial (xG_Cu rfl rfl (Nat.le_of_ble_eq_true rfl) (Nat.le_of_ble_eq_true rfl) ⟨_, _, rfl, ko⟩ rfl k)
set_option maxRecDepth 100000 in
theorem s_M_write_240 {d : Nat} {Q : xO → xH → Prop} {sh : List xS} {I : Nat → Nat → Int32} {J : Nat → Nat → Int64} {r0 : Nat} {v1 : Int32} {v2 : Int32} {v3 : Int32} {v4 : Int32} {v5 : Int32}
    (k : xG d zm_M_write (243, [some (.ref r0), some (.int v1), some (.int v2), some (.int v3), some (.int v4), some (.int v5), some (.int (0 : Int32))], []) (sh, I, J) Q) :
    xG d zm_M_write (240, [some (.ref r0), some (.int v1), some (.int v2), some (.int v3), some (.int v4), some (.int v5), none], []) (sh, I, J) Q := by
  exact xG_N 2 (ps := []) (f1 := (243, [some (.ref r0), some (.int v1), some (.int v2), some (.int v3), some (.int v4), some (.int v5), some (.int (0 : Int32))], [])) (h1 := (sh, I, J)) rfl trivial (k)
set_option maxRecDepth 100000 in
theorem s_M_write_243 {d : Nat} {Q : xO → xH → Prop} {sh : List xS} {I : Nat → Nat → Int32} {J : Nat → Nat → Int64} {r0 : Nat} {v1 : Int32} {v2 : Int32} {v3 : Int32} {v4 : Int32} {v5 : Int32} {v6 : Int32}
    (e0 : xOb sh r0 10)
    (k1 : ((I r0 1) * (I r0 2)) ≤ v6 → xG d zm_M_write (277, [some (.ref r0), some (.int v1), some (.int v2), some (.int v3), some (.int v4), some (.int v5), some (.int v6)], []) (sh, I, J) Q)
    (k2 : ¬ (((I r0 1) * (I r0 2)) ≤ v6) → xG d zm_M_write (257, [some (.ref r0), some (.int v1), some (.int v2), some (.int v3), some (.int v4), some (.int v5), some (.int v6)], []) (sh, I, J) Q) :
    xG d zm_M_write (243, [some (.ref r0), some (.int v1), some (.int v2), some (.int v3), some (.int v4), some (.int v5), some (.int v6)], []) (sh, I, J) Q := by
  exact xG_N 6 (ps := [xOb sh r0 10, xOb sh r0 10]) (f1 := (254, [some (.ref r0), some (.int v1), some (.int v2), some (.int v3), some (.int v4), some (.int v5), some (.int v6)], [.int ((I r0 1) * (I r0 2)), .int v6])) (h1 := (sh, I, J)) rfl ⟨e0, e0⟩ (xG_B rfl rfl k1 k2)
set_option maxRecDepth 100000 in
theorem s_M_write_257 {d : Nat} {Q : xO → xH → Prop} {sh : List xS} {I : Nat → Nat → Int32} {J : Nat → Nat → Int64} {r0 : Nat} {v1 : Int32} {v2 : Int32} {v3 : Int32} {v4 : Int32} {v5 : Int32} {v6 : Int32} {a1 : Nat} {a2 : Nat} {n3 : Nat} {n4 : Nat}
    (e0 : xRr sh r0 10 15 a1)
    (e1 : xRr sh r0 10 3 a2)
    (e2 : xAr sh a2 .int n3)
    (e3 : vp_in v6 n3)
    (e4 : xAr sh a1 .int n4)
    (e5 : 4 ≤ a1)
    (e6 : vp_in v6 n4)
    (k : xG d zm_M_write (243, [some (.ref r0), some (.int v1), some (.int v2), some (.int v3), some (.int v4), some (.int v5), some (.int (v6 + (1 : Int32)))], []) (sh, xup I a1 v6.toNatClampNeg (I a2 v6.toNatClampNeg), J) Q) :
    xG d zm_M_write (257, [some (.ref r0), some (.int v1), some (.int v2), some (.int v3), some (.int v4), some (.int v5), some (.int v6)], []) (sh, I, J) Q := by
  obtain rfl := e0.eq
  obtain rfl := e1.eq
  obtain rfl := e2.eq
  obtain rfl := e4.eq
  exact xG_N 10 (ps := [xRf sh r0 10 15, xRf sh r0 10 3, xA sh (xrf sh r0 3) .int, vp_in v6 (xlen sh (xrf sh r0 3)), xW sh (xrf sh r0 15) .int, vp_in v6 (xlen sh (xrf sh r0 15))]) (f1 := (243, [some (.ref r0), some (.int v1), some (.int v2), some (.int v3), some (.int v4), some (.int v5), some (.int (v6 + (1 : Int32)))], [])) (h1 := (sh, xup I (xrf sh r0 15) v6.toNatClampNeg (I (xrf sh r0 3) v6.toNatClampNeg), J)) rfl ⟨e0.rf, e1.rf, e2.ar, e3, ⟨e4.ar, e5⟩, e6⟩ (k)
set_option maxRecDepth 100000 in
theorem s_M_write_277 {d : Nat} {Q : xO → xH → Prop} {sh : List xS} {I : Nat → Nat → Int32} {J : Nat → Nat → Int64} {r0 : Nat} {v1 : Int32} {v2 : Int32} {v3 : Int32} {v4 : Int32} {v5 : Int32} {o6 : Option Value}
    (ko : xOb sh r0 10)
    (k : xg d qM_prepare [.ref r0, .int v5, .int v2, .int v3] (sh, I, J) (xU (fun h1 => xG d zm_M_write (285, [some (.ref r0), some (.int v1), some (.int v2), some (.int v3), some (.int v4), some (.int v5), o6], []) h1 Q) (fun x h1 => Q (.inr x) h1))) :
    xG d zm_M_write (277, [some (.ref r0), some (.int v1), some (.int v2), some (.int v3), some (.int v4), some (.int v5), o6], []) (sh, I, J) Q := by
  exact xG_N 4 (ps := []) (f1 := (282, [some (.ref r0), some (.int v1), some (.int v2), some (.int v3), some (.int v4), some (.int v5), o6], [.int v3, .int v2, .int v5, .ref r0])) (h1 := (sh, I, J)) rfl trivial (xG_Cu rfl rfl (Nat.le_of_ble_eq_true rfl) (Nat.le_of_ble_eq_true rfl) ⟨_, _, rfl, ko⟩ rfl k)
set_option maxRecDepth 100000 in
theorem s_M_write_285 {d : Nat} {Q : xO → xH → Prop} {sh : List xS} {I : Nat → Nat → Int32} {J : Nat → Nat → Int64} {r0 : Nat} {v1 : Int32} {v2 : Int32} {v3 : Int32} {v4 : Int32} {v5 : Int32} {o6 : Option Value}
    (e0 : xOb sh r0 10)
    (k1 : ¬ v4 = 0 → xG d zm_M_write (302, [some (.ref r0), some (.int v1), some (.int v2), some (.int v3), some (.int v4), some (.int v5), o6], [.int (v5 * (I r0 2)), .ref r0]) (sh, I, J) Q)
    (k2 : ¬ (¬ v4 = 0) → xG d zm_M_write (298, [some (.ref r0), some (.int v1), some (.int v2), some (.int v3), some (.int v4), some (.int v5), o6], [.int (v5 * (I r0 2)), .ref r0]) (sh, I, J) Q) :
    xG d zm_M_write (285, [some (.ref r0), some (.int v1), some (.int v2), some (.int v3), some (.int v4), some (.int v5), o6], []) (sh, I, J) Q := by
  exact xG_N 6 (ps := [xOb sh r0 10]) (f1 := (295, [some (.ref r0), some (.int v1), some (.int v2), some (.int v3), some (.int v4), some (.int v5), o6], [.int v4, .int (v5 * (I r0 2)), .ref r0])) (h1 := (sh, I, J)) rfl e0 (xG_B rfl rfl k1 k2)
set_option maxRecDepth 100000 in
theorem s_M_write_298 {d : Nat} {Q : xO → xH → Prop} {sh : List xS} {I : Nat → Nat → Int32} {J : Nat → Nat → Int64} {r0 : Nat} {v1 : Int32} {v2 : Int32} {v3 : Int32} {v4 : Int32} {v5 : Int32} {o6 : Option Value} {t0 : Nat} {t1 : Int32}
    (ko : xOb sh t0 10)
    (k : xg d qM_putImage [.ref t0, .int t1, .int (0 : Int32), .int v4] (sh, I, J) (xU (fun h1 => xG d zm_M_write (311, [some (.ref r0), some (.int v1), some (.int v2), some (.int v3), some (.int v4), some (.int v5), o6], []) h1 Q) (fun x h1 => Q (.inr x) h1))) :
    xG d zm_M_write (298, [some (.ref r0), some (.int v1), some (.int v2), some (.int v3), some (.int v4), some (.int v5), o6], [.int t1, .ref t0]) (sh, I, J) Q := by
  exact xG_N 3 (ps := []) (f1 := (308, [some (.ref r0), some (.int v1), some (.int v2), some (.int v3), some (.int v4), some (.int v5), o6], [.int v4, .int (0 : Int32), .int t1, .ref t0])) (h1 := (sh, I, J)) rfl trivial (xG_Cu rfl rfl (Nat.le_of_ble_eq_true rfl) (Nat.le_of_ble_eq_true rfl) ⟨_, _, rfl, ko⟩ rfl k)
set_option maxRecDepth 100000 in
theorem s_M_write_302 {d : Nat} {Q : xO → xH → Prop} {sh : List xS} {I : Nat → Nat → Int32} {J : Nat → Nat → Int64} {r0 : Nat} {v1 : Int32} {v2 : Int32} {v3 : Int32} {v4 : Int32} {v5 : Int32} {o6 : Option Value} {t0 : Nat} {t1 : Int32}
    (ko : xOb sh t0 10)
    (k : xg d qM_putImage [.ref t0, .int t1, .int ((1 : Int32) <<< (v4 &&& 31)), .int v4] (sh, I, J) (xU (fun h1 => xG d zm_M_write (311, [some (.ref r0), some (.int v1), some (.int v2), some (.int v3), some (.int v4), some (.int v5), o6], []) h1 Q) (fun x h1 => Q (.inr x) h1))) :
    xG d zm_M_write (302, [some (.ref r0), some (.int v1), some (.int v2), some (.int v3), some (.int v4), some (.int v5), o6], [.int t1, .ref t0]) (sh, I, J) Q := by
  exact xG_N 4 (ps := []) (f1 := (308, [some (.ref r0), some (.int v1), some (.int v2), some (.int v3), some (.int v4), some (.int v5), o6], [.int v4, .int ((1 : Int32) <<< (v4 &&& 31)), .int t1, .ref t0])) (h1 := (sh, I, J)) rfl trivial (xG_Cu rfl rfl (Nat.le_of_ble_eq_true rfl) (Nat.le_of_ble_eq_true rfl) ⟨_, _, rfl, ko⟩ rfl k)
set_option maxRecDepth 100000 in
theorem s_M_write_311 {d : Nat} {Q : xO → xH → Prop} {sh : List xS} {I : Nat → Nat → Int32} {J : Nat → Nat → Int64} {r0 : Nat} {v1 : Int32} {v2 : Int32} {v3 : Int32} {v4 : Int32} {v5 : Int32} {o6 : Option Value}
    (e0 : xOb sh r0 10)
    (k1 : (I r0 7) ≤ (5600 : Int32) → xG d zm_M_write (326, [some (.ref r0), some (.int v1), some (.int v2), some (.int v3), some (.int v4), some (.int v5), o6], [.ref r0]) (sh, I, J) Q)
    (k2 : ¬ ((I r0 7) ≤ (5600 : Int32)) → xG d zm_M_write (322, [some (.ref r0), some (.int v1), some (.int v2), some (.int v3), some (.int v4), some (.int v5), o6], [.ref r0]) (sh, I, J) Q) :
    xG d zm_M_write (311, [some (.ref r0), some (.int v1), some (.int v2), some (.int v3), some (.int v4), some (.int v5), o6], []) (sh, I, J) Q := by
  exact xG_N 4 (ps := [xOb sh r0 10]) (f1 := (319, [some (.ref r0), some (.int v1), some (.int v2), some (.int v3), some (.int v4), some (.int v5), o6], [.int (5600 : Int32), .int (I r0 7), .ref r0])) (h1 := (sh, I, J)) rfl e0 (xG_B rfl rfl k1 k2)
set_option maxRecDepth 100000 in
theorem s_M_write_322 {d : Nat} {Q : xO → xH → Prop} {sh : List xS} {I : Nat → Nat → Int32} {J : Nat → Nat → Int64} {r0 : Nat} {v1 : Int32} {v2 : Int32} {v3 : Int32} {v4 : Int32} {v5 : Int32} {o6 : Option Value} {t0 : Nat}
    (e0 : xOb sh t0 10)
    (e1 : xOb sh r0 10)
    (k1 : ((xup I t0 0 (2 : Int32)) r0 0) ≤ 0 → xG d zm_M_write (339, [some (.ref r0), some (.int v1), some (.int v2), some (.int v3), some (.int v4), some (.int v5), o6], []) (sh, xup I t0 0 (2 : Int32), J) Q)
    (k2 : ¬ (((xup I t0 0 (2 : Int32)) r0 0) ≤ 0) → xG d zm_M_write (337, [some (.ref r0), some (.int v1), some (.int v2), some (.int v3), some (.int v4), some (.int v5), o6], []) (sh, xup I t0 0 (2 : Int32), J) Q) :
    xG d zm_M_write (322, [some (.ref r0), some (.int v1), some (.int v2), some (.int v3), some (.int v4), some (.int v5), o6], [.ref t0]) (sh, I, J) Q := by
  exact xG_N 5 (ps := [xOb sh t0 10, xOb sh r0 10]) (f1 := (334, [some (.ref r0), some (.int v1), some (.int v2), some (.int v3), some (.int v4), some (.int v5), o6], [.int ((xup I t0 0 (2 : Int32)) r0 0)])) (h1 := (sh, xup I t0 0 (2 : Int32), J)) rfl ⟨e0, e1⟩ (xG_B rfl rfl k1 k2)
set_option maxRecDepth 100000 in
theorem s_M_write_326 {d : Nat} {Q : xO → xH → Prop} {sh : List xS} {I : Nat → Nat → Int32} {J : Nat → Nat → Int64} {r0 : Nat} {v1 : Int32} {v2 : Int32} {v3 : Int32} {v4 : Int32} {v5 : Int32} {o6 : Option Value} {t0 : Nat}
    (e0 : xOb sh t0 10)
    (e1 : xOb sh r0 10)
    (k1 : ((xup I t0 0 (0 : Int32)) r0 0) ≤ 0 → xG d zm_M_write (339, [some (.ref r0), some (.int v1), some (.int v2), some (.int v3), some (.int v4), some (.int v5), o6], []) (sh, xup I t0 0 (0 : Int32), J) Q)
    (k2 : ¬ (((xup I t0 0 (0 : Int32)) r0 0) ≤ 0) → xG d zm_M_write (337, [some (.ref r0), some (.int v1), some (.int v2), some (.int v3), some (.int v4), some (.int v5), o6], []) (sh, xup I t0 0 (0 : Int32), J) Q) :
    xG d zm_M_write (326, [some (.ref r0), some (.int v1), some (.int v2), some (.int v3), some (.int v4), some (.int v5), o6], [.ref t0]) (sh, I, J) Q := by
  exact xG_N 4 (ps := [xOb sh t0 10, xOb sh r0 10]) (f1 := (334, [some (.ref r0), some (.int v1), some (.int v2), some (.int v3), some (.int v4), some (.int v5), o6], [.int ((xup I t0 0 (0 : Int32)) r0 0)])) (h1 := (sh, xup I t0 0 (0 : Int32), J)) rfl ⟨e0, e1⟩ (xG_B rfl rfl k1 k2)
set_option maxRecDepth 100000 in
theorem s_M_write_337 {d : Nat} {Q : xO → xH → Prop} {sh : List xS} {I : Nat → Nat → Int32} {J : Nat → Nat → Int64} {r0 : Nat} {v1 : Int32} {v2 : Int32} {v3 : Int32} {v4 : Int32} {v5 : Int32} {o6 : Option Value}
    (k : Q (.inl (some (.int (0 : Int32)))) (sh, I, J)) :
    xG d zm_M_write (337, [some (.ref r0), some (.int v1), some (.int v2), some (.int v3), some (.int v4), some (.int v5), o6], []) (sh, I, J) Q := by
  exact xG_N 1 (ps := []) (f1 := (338, [some (.ref r0), some (.int v1), some (.int v2), some (.int v3), some (.int v4), some (.int v5), o6], [.int (0 : Int32)])) (h1 := (sh, I, J)) rfl trivial (xG_Q rfl rfl trivial k)
set_option maxRecDepth 100000 in
theorem s_M_write_339 {d : Nat} {Q : xO → xH → Prop} {sh : List xS} {I : Nat → Nat → Int32} {J : Nat → Nat → Int64} {r0 : Nat} {v1 : Int32} {v2 : Int32} {v3 : Int32} {v4 : Int32} {v5 : Int32} {o6 : Option Value}
    (e0 : xOb sh r0 10)
    (k : xG d zm_M_write (356, [some (.ref r0), some (.int v1), some (.int v2), some (.int v3), some (.int v4), some (.int v5), some (.int (0 : Int32))], []) (sh, xup I r0 5 (((I r0 7) + (7 : Int32)) / (8 : Int32)), J) Q) :
    xG d zm_M_write (339, [some (.ref r0), some (.int v1), some (.int v2), some (.int v3), some (.int v4), some (.int v5), o6], []) (sh, I, J) Q := by
  exact xG_N 10 (ps := [xOb sh r0 10, ¬ (8 : Int32) = 0, xOb sh r0 10]) (f1 := (356, [some (.ref r0), some (.int v1), some (.int v2), some (.int v3), some (.int v4), some (.int v5), some (.int (0 : Int32))], [])) (h1 := (sh, xup I r0 5 (((I r0 7) + (7 : Int32)) / (8 : Int32)), J)) rfl ⟨e0, (show ¬ (8 : Int32) = 0 by decide), e0⟩ (k)
set_option maxRecDepth 100000 in
theorem s_M_write_356 {d : Nat} {Q : xO → xH → Prop} {sh : List xS} {I : Nat → Nat → Int32} {J : Nat → Nat → Int64} {r0 : Nat} {v1 : Int32} {v2 : Int32} {v3 : Int32} {v4 : Int32} {v5 : Int32} {v6 : Int32}
    (e0 : xOb sh r0 10)
    (k1 : (I r0 5) ≤ v6 → xG d zm_M_write (385, [some (.ref r0), some (.int v1), some (.int v2), some (.int v3), some (.int v4), some (.int v5), some (.int v6)], []) (sh, I, J) Q)
    (k2 : ¬ ((I r0 5) ≤ v6) → xG d zm_M_write (365, [some (.ref r0), some (.int v1), some (.int v2), some (.int v3), some (.int v4), some (.int v5), some (.int v6)], []) (sh, I, J) Q) :
    xG d zm_M_write (356, [some (.ref r0), some (.int v1), some (.int v2), some (.int v3), some (.int v4), some (.int v5), some (.int v6)], []) (sh, I, J) Q := by
  exact xG_N 3 (ps := [xOb sh r0 10]) (f1 := (362, [some (.ref r0), some (.int v1), some (.int v2), some (.int v3), some (.int v4), some (.int v5), some (.int v6)], [.int (I r0 5), .int v6])) (h1 := (sh, I, J)) rfl e0 (xG_B rfl rfl k1 k2)
set_option maxRecDepth 100000 in
theorem s_M_write_365 {d : Nat} {Q : xO → xH → Prop} {sh : List xS} {I : Nat → Nat → Int32} {J : Nat → Nat → Int64} {r0 : Nat} {v1 : Int32} {v2 : Int32} {v3 : Int32} {v4 : Int32} {v5 : Int32} {v6 : Int32} {a1 : Nat} {a2 : Nat} {n3 : Nat} {n4 : Nat}
    (e0 : xRr sh r0 10 4 a1)
    (e1 : xRr sh r0 10 6 a2)
    (e2 : xAr sh a2 .int n3)
    (e3 : vp_in v6 n3)
    (e4 : xAr sh a1 .int n4)
    (e5 : 4 ≤ a1)
    (e6 : vp_in v6 n4)
    (k : xG d zm_M_write (356, [some (.ref r0), some (.int v1), some (.int v2), some (.int v3), some (.int v4), some (.int v5), some (.int (v6 + (1 : Int32)))], []) (sh, xup I a1 v6.toNatClampNeg (I a2 v6.toNatClampNeg), J) Q) :
    xG d zm_M_write (365, [some (.ref r0), some (.int v1), some (.int v2), some (.int v3), some (.int v4), some (.int v5), some (.int v6)], []) (sh, I, J) Q := by
  obtain rfl := e0.eq
  obtain rfl := e1.eq
  obtain rfl := e2.eq
  obtain rfl := e4.eq
  exact xG_N 10 (ps := [xRf sh r0 10 4, xRf sh r0 10 6, xA sh (xrf sh r0 6) .int, vp_in v6 (xlen sh (xrf sh r0 6)), xW sh (xrf sh r0 4) .int, vp_in v6 (xlen sh (xrf sh r0 4))]) (f1 := (356, [some (.ref r0), some (.int v1), some (.int v2), some (.int v3), some (.int v4), some (.int v5), some (.int (v6 + (1 : Int32)))], [])) (h1 := (sh, xup I (xrf sh r0 4) v6.toNatClampNeg (I (xrf sh r0 6) v6.toNatClampNeg), J)) rfl ⟨e0.rf, e1.rf, e2.ar, e3, ⟨e4.ar, e5⟩, e6⟩ (k)
set_option maxRecDepth 100000 in
theorem s_M_write_385 {d : Nat} {Q : xO → xH → Prop} {sh : List xS} {I : Nat → Nat → Int32} {J : Nat → Nat → Int64} {r0 : Nat} {v1 : Int32} {v2 : Int32} {v3 : Int32} {v4 : Int32} {v5 : Int32} {v6 : Int32}
    (ko : xOb sh r0 10)
    (k : xg d qM_note [.ref r0] (sh, I, J) (xU (fun h1 => xG d zm_M_write (389, [some (.ref r0), some (.int v1), some (.int v2), some (.int v3), some (.int v4), some (.int v5), some (.int v6)], []) h1 Q) (fun x h1 => Q (.inr x) h1))) :
    xG d zm_M_write (385, [some (.ref r0), some (.int v1), some (.int v2), some (.int v3), some (.int v4), some (.int v5), some (.int v6)], []) (sh, I, J) Q := by
  exact xG_N 1 (ps := []) (f1 := (386, [some (.ref r0), some (.int v1), some (.int v2), some (.int v3), some (.int v4), some (.int v5), some (.int v6)], [.ref r0])) (h1 := (sh, I, J)) rfl trivial (xG_Cu rfl rfl (Nat.le_of_ble_eq_true rfl) (Nat.le_of_ble_eq_true rfl) ⟨_, _, rfl, ko⟩ rfl k)
set_option maxRecDepth 100000 in
theorem s_M_write_389 {d : Nat} {Q : xO → xH → Prop} {sh : List xS} {I : Nat → Nat → Int32} {J : Nat → Nat → Int64} {r0 : Nat} {v1 : Int32} {v2 : Int32} {v3 : Int32} {v4 : Int32} {v5 : Int32} {v6 : Int32}
    (e0 : xOb sh r0 10)
    (k : Q (.inl (some (.int (I r0 7)))) (sh, I, J)) :
    xG d zm_M_write (389, [some (.ref r0), some (.int v1), some (.int v2), some (.int v3), some (.int v4), some (.int v5), some (.int v6)], []) (sh, I, J) Q := by
  exact xG_N 2 (ps := [xOb sh r0 10]) (f1 := (393, [some (.ref r0), some (.int v1), some (.int v2), some (.int v3), some (.int v4), some (.int v5), some (.int v6)], [.int (I r0 7)])) (h1 := (sh, I, J)) rfl e0 (xG_Q rfl rfl trivial k)
set_option maxRecDepth 100000 in
theorem s_M_had_0 {d : Nat} {Q : xO → xH → Prop} {sh : List xS} {I : Nat → Nat → Int32} {J : Nat → Nat → Int64} {r0 : Nat} {v1 : Int32}
    (e0 : xOb sh r0 10)
    (k1 : ((xup I r0 0 (0 : Int32)) r0 34) = 0 → xG d zm_M_had (31, [some (.ref r0), some (.int v1)], []) (sh, xup I r0 0 (0 : Int32), J) Q)
    (k2 : ¬ (((xup I r0 0 (0 : Int32)) r0 34) = 0) → xG d zm_M_had (12, [some (.ref r0), some (.int v1)], []) (sh, xup I r0 0 (0 : Int32), J) Q) :
    xG d zm_M_had (0, [some (.ref r0), some (.int v1)], []) (sh, I, J) Q := by
  exact xG_N 5 (ps := [xOb sh r0 10, xOb sh r0 10]) (f1 := (9, [some (.ref r0), some (.int v1)], [.int ((xup I r0 0 (0 : Int32)) r0 34)])) (h1 := (sh, xup I r0 0 (0 : Int32), J)) rfl ⟨e0, e0⟩ (xG_B rfl rfl k1 k2)
set_option maxRecDepth 100000 in
theorem s_M_had_12 {d : Nat} {Q : xO → xH → Prop} {sh : List xS} {I : Nat → Nat → Int32} {J : Nat → Nat → Int64} {r0 : Nat} {v1 : Int32}
    (k1 : v1 < 0 → xG d zm_M_had (31, [some (.ref r0), some (.int v1)], []) (sh, I, J) Q)
    (k2 : ¬ (v1 < 0) → xG d zm_M_had (16, [some (.ref r0), some (.int v1)], []) (sh, I, J) Q) :
    xG d zm_M_had (12, [some (.ref r0), some (.int v1)], []) (sh, I, J) Q := by
  exact xG_N 1 (ps := []) (f1 := (13, [some (.ref r0), some (.int v1)], [.int v1])) (h1 := (sh, I, J)) rfl trivial (xG_B rfl rfl k1 k2)
set_option maxRecDepth 100000 in
theorem s_M_had_16 {d : Nat} {Q : xO → xH → Prop} {sh : List xS} {I : Nat → Nat → Int32} {J : Nat → Nat → Int64} {r0 : Nat} {v1 : Int32}
    (k1 : (7 : Int32) ≤ v1 → xG d zm_M_had (31, [some (.ref r0), some (.int v1)], []) (sh, I, J) Q)
    (k2 : ¬ ((7 : Int32) ≤ v1) → xG d zm_M_had (22, [some (.ref r0), some (.int v1)], []) (sh, I, J) Q) :
    xG d zm_M_had (16, [some (.ref r0), some (.int v1)], []) (sh, I, J) Q := by
  exact xG_N 2 (ps := []) (f1 := (19, [some (.ref r0), some (.int v1)], [.int (7 : Int32), .int v1])) (h1 := (sh, I, J)) rfl trivial (xG_B rfl rfl k1 k2)
set_option maxRecDepth 100000 in
theorem s_M_had_22 {d : Nat} {Q : xO → xH → Prop} {sh : List xS} {I : Nat → Nat → Int32} {J : Nat → Nat → Int64} {r0 : Nat} {v1 : Int32} {a1 : Nat} {n2 : Nat}
    (e0 : xRr sh r0 10 35 a1)
    (e1 : xAr sh a1 .int n2)
    (e2 : vp_in v1 n2)
    (k : Q (.inl (some (.int (I a1 v1.toNatClampNeg)))) (sh, I, J)) :
    xG d zm_M_had (22, [some (.ref r0), some (.int v1)], []) (sh, I, J) Q := by
  obtain rfl := e0.eq
  obtain rfl := e1.eq
  exact xG_N 5 (ps := [xRf sh r0 10 35, xA sh (xrf sh r0 35) .int, vp_in v1 (xlen sh (xrf sh r0 35))]) (f1 := (32, [some (.ref r0), some (.int v1)], [.int (I (xrf sh r0 35) v1.toNatClampNeg)])) (h1 := (sh, I, J)) rfl ⟨e0.rf, e1.ar, e2⟩ (xG_Q rfl rfl trivial k)
set_option maxRecDepth 100000 in
theorem s_M_had_31 {d : Nat} {Q : xO → xH → Prop} {sh : List xS} {I : Nat → Nat → Int32} {J : Nat → Nat → Int64} {r0 : Nat} {v1 : Int32}
    (k : Q (.inl (some (.int (-1 : Int32)))) (sh, I, J)) :
    xG d zm_M_had (31, [some (.ref r0), some (.int v1)], []) (sh, I, J) Q := by
  exact xG_N 1 (ps := []) (f1 := (32, [some (.ref r0), some (.int v1)], [.int (-1 : Int32)])) (h1 := (sh, I, J)) rfl trivial (xG_Q rfl rfl trivial k)
