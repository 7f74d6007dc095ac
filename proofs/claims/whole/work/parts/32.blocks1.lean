/-! Stretches of code, printed (wip/whole/gen_blocks.py). -/
set_option maxRecDepth 100000 in
theorem s_CodeWriter_init_0 {d : Nat} {Q : xO → xH → Prop} {sh : List xS} {I : Nat → Nat → Int32} {J : Nat → Nat → Int64} {r0 : Nat}
    (k : xG d zm_CodeWriter_init (8, [some (.ref r0)], [.ref sh.length, .ref r0]) (sh ++ [.inr (3, zdf 3)], xzer I sh.length, xzerL J sh.length) Q) :
    xG d zm_CodeWriter_init (0, [some (.ref r0)], []) (sh, I, J) Q := by
  exact xG_N 4 (ps := [(([] : List Value).map fun v => v.category).sum ≤ 8]) (f1 := (8, [some (.ref r0)], [.ref sh.length, .ref r0])) (h1 := (sh ++ [.inr (3, zdf 3)], xzer I sh.length, xzerL J sh.length)) rfl (Nat.le_of_ble_eq_true rfl) (k)
set_option maxRecDepth 100000 in
theorem s_CodeWriter_init_8 {d : Nat} {Q : xO → xH → Prop} {sh : List xS} {I : Nat → Nat → Int32} {J : Nat → Nat → Int64} {r0 : Nat} {t0 : Nat} {t1 : Nat}
    (k : xg d qCode_init [.ref t1, .int (19 : Int32)] (sh, I, J) (xU (fun h1 => xG d zm_CodeWriter_init (14, [some (.ref r0)], [.ref t1, .ref t0]) h1 Q) (fun x h1 => Q (.inr x) h1))) :
    xG d zm_CodeWriter_init (8, [some (.ref r0)], [.ref t1, .ref t0]) (sh, I, J) Q := by
  exact xG_N 2 (ps := []) (f1 := (11, [some (.ref r0)], [.int (19 : Int32), .ref t1, .ref t1, .ref t0])) (h1 := (sh, I, J)) rfl trivial (xG_Cu rfl rfl (Nat.le_of_ble_eq_true rfl) (Nat.le_of_ble_eq_true rfl) ⟨_, _, rfl⟩ rfl k)
set_option maxRecDepth 100000 in
theorem s_CodeWriter_init_14 {d : Nat} {Q : xO → xH → Prop} {sh : List xS} {I : Nat → Nat → Int32} {J : Nat → Nat → Int64} {r0 : Nat} {t0 : Nat} {t1 : Nat}
    (e0 : xOb sh t0 4)
    (k : xG d zm_CodeWriter_init (23, [some (.ref r0)], [.ref ((xsr sh t0 0 t1).length), .ref r0]) ((xsr sh t0 0 t1) ++ [.inl (.int, ((296 : Int32) : Int32).toNatClampNeg)], xzer I (xsr sh t0 0 t1).length, xzerL J (xsr sh t0 0 t1).length) Q) :
    xG d zm_CodeWriter_init (14, [some (.ref r0)], [.ref t1, .ref t0]) (sh, I, J) Q := by
  exact xG_N 4 (ps := [xOb sh t0 4, 0 < (zdf 4).length, ¬ ((296 : Int32) : Int32) < 0, ((296 : Int32) : Int32).toNatClampNeg ≤ 65536, newarray.typeOf .int = .int ∨ newarray.typeOf .int = .boolean ∨ newarray.typeOf .int = .long]) (f1 := (23, [some (.ref r0)], [.ref ((xsr sh t0 0 t1).length), .ref r0])) (h1 := ((xsr sh t0 0 t1) ++ [.inl (.int, ((296 : Int32) : Int32).toNatClampNeg)], xzer I (xsr sh t0 0 t1).length, xzerL J (xsr sh t0 0 t1).length)) rfl ⟨e0, (show 0 < (zdf 4).length by decide), (show ¬ ((296 : Int32) : Int32) < 0 by decide), (show ((296 : Int32) : Int32).toNatClampNeg ≤ 65536 by decide), Or.inl rfl⟩ (k)
set_option maxRecDepth 100000 in
theorem s_CodeWriter_init_23 {d : Nat} {Q : xO → xH → Prop} {sh : List xS} {I : Nat → Nat → Int32} {J : Nat → Nat → Int64} {r0 : Nat} {t0 : Nat} {t1 : Nat}
    (e0 : xOb sh t0 4)
    (k : xG d zm_CodeWriter_init (32, [some (.ref r0)], [.ref ((xsr sh t0 1 t1).length), .ref r0]) ((xsr sh t0 1 t1) ++ [.inl (.int, ((296 : Int32) : Int32).toNatClampNeg)], xzer I (xsr sh t0 1 t1).length, xzerL J (xsr sh t0 1 t1).length) Q) :
    xG d zm_CodeWriter_init (23, [some (.ref r0)], [.ref t1, .ref t0]) (sh, I, J) Q := by
  exact xG_N 4 (ps := [xOb sh t0 4, 1 < (zdf 4).length, ¬ ((296 : Int32) : Int32) < 0, ((296 : Int32) : Int32).toNatClampNeg ≤ 65536, newarray.typeOf .int = .int ∨ newarray.typeOf .int = .boolean ∨ newarray.typeOf .int = .long]) (f1 := (32, [some (.ref r0)], [.ref ((xsr sh t0 1 t1).length), .ref r0])) (h1 := ((xsr sh t0 1 t1) ++ [.inl (.int, ((296 : Int32) : Int32).toNatClampNeg)], xzer I (xsr sh t0 1 t1).length, xzerL J (xsr sh t0 1 t1).length)) rfl ⟨e0, (show 1 < (zdf 4).length by decide), (show ¬ ((296 : Int32) : Int32) < 0 by decide), (show ((296 : Int32) : Int32).toNatClampNeg ≤ 65536 by decide), Or.inl rfl⟩ (k)
set_option maxRecDepth 100000 in
theorem s_CodeWriter_init_32 {d : Nat} {Q : xO → xH → Prop} {sh : List xS} {I : Nat → Nat → Int32} {J : Nat → Nat → Int64} {r0 : Nat} {t0 : Nat} {t1 : Nat}
    (e0 : xOb sh t0 4)
    (k : Q (.inl (none)) (xsr sh t0 2 t1, I, J)) :
    xG d zm_CodeWriter_init (32, [some (.ref r0)], [.ref t1, .ref t0]) (sh, I, J) Q := by
  exact xG_N 1 (ps := [xOb sh t0 4, 2 < (zdf 4).length]) (f1 := (35, [some (.ref r0)], [])) (h1 := (xsr sh t0 2 t1, I, J)) rfl ⟨e0, (show 2 < (zdf 4).length by decide)⟩ (xG_Q rfl rfl trivial k)
set_option maxRecDepth 100000 in
theorem s_CodeWriter_say_0 {d : Nat} {Q : xO → xH → Prop} {sh : List xS} {I : Nat → Nat → Int32} {J : Nat → Nat → Int64} {r0 : Nat} {r1 : Nat} {r2 : Nat}
    (ko : xOb sh r2 3)
    (k : xg d qCode_balance [.ref r2] (sh, I, J) (xU (fun h1 => xG d zm_CodeWriter_say (4, [some (.ref r0), some (.ref r1), some (.ref r2), none], []) h1 Q) (fun x h1 => Q (.inr x) h1))) :
    xG d zm_CodeWriter_say (0, [some (.ref r0), some (.ref r1), some (.ref r2), none], []) (sh, I, J) Q := by
  exact xG_N 1 (ps := []) (f1 := (1, [some (.ref r0), some (.ref r1), some (.ref r2), none], [.ref r2])) (h1 := (sh, I, J)) rfl trivial (xG_Cu rfl rfl (Nat.le_of_ble_eq_true rfl) (Nat.le_of_ble_eq_true rfl) ⟨_, _, rfl, ko⟩ rfl k)
set_option maxRecDepth 100000 in
theorem s_CodeWriter_say_4 {d : Nat} {Q : xO → xH → Prop} {sh : List xS} {I : Nat → Nat → Int32} {J : Nat → Nat → Int64} {r0 : Nat} {r1 : Nat} {r2 : Nat}
    (e0 : xOb sh r2 3)
    (k1 : ¬ (I r2 7) = 0 → xG d zm_CodeWriter_say (18, [some (.ref r0), some (.ref r1), some (.ref r2), none], []) (sh, I, J) Q)
    (k2 : ¬ (¬ (I r2 7) = 0) → xG d zm_CodeWriter_say (11, [some (.ref r0), some (.ref r1), some (.ref r2), none], []) (sh, I, J) Q) :
    xG d zm_CodeWriter_say (4, [some (.ref r0), some (.ref r1), some (.ref r2), none], []) (sh, I, J) Q := by
  exact xG_N 2 (ps := [xOb sh r2 3]) (f1 := (8, [some (.ref r0), some (.ref r1), some (.ref r2), none], [.int (I r2 7)])) (h1 := (sh, I, J)) rfl e0 (xG_B rfl rfl k1 k2)
set_option maxRecDepth 100000 in
theorem s_CodeWriter_say_11 {d : Nat} {Q : xO → xH → Prop} {sh : List xS} {I : Nat → Nat → Int32} {J : Nat → Nat → Int64} {r0 : Nat} {r1 : Nat} {r2 : Nat} {a1 : Nat} {n2 : Nat}
    (e0 : xRr sh r2 3 0 a1)
    (e1 : xAr sh a1 .int n2)
    (e2 : 4 ≤ a1)
    (e3 : vp_in (0 : Int32) n2)
    (k : xg d qCode_arrange [.ref r2] (sh, xup I a1 0 (1 : Int32), J) (xI (fun v h1 => xG d zm_CodeWriter_say (22, [some (.ref r0), some (.ref r1), some (.ref r2), none], [.int v]) h1 Q) (fun x h1 => Q (.inr x) h1))) :
    xG d zm_CodeWriter_say (11, [some (.ref r0), some (.ref r1), some (.ref r2), none], []) (sh, I, J) Q := by
  obtain rfl := e0.eq
  obtain rfl := e1.eq
  exact xG_N 6 (ps := [xRf sh r2 3 0, xW sh (xrf sh r2 0) .int, vp_in (0 : Int32) (xlen sh (xrf sh r2 0))]) (f1 := (19, [some (.ref r0), some (.ref r1), some (.ref r2), none], [.ref r2])) (h1 := (sh, xup I (xrf sh r2 0) 0 (1 : Int32), J)) rfl ⟨e0.rf, ⟨e1.ar, e2⟩, e3⟩ (xG_Ci rfl rfl (Nat.le_of_ble_eq_true rfl) (Nat.le_of_ble_eq_true rfl) ⟨_, _, rfl, e0.ob⟩ rfl k)
set_option maxRecDepth 100000 in
theorem s_CodeWriter_say_18 {d : Nat} {Q : xO → xH → Prop} {sh : List xS} {I : Nat → Nat → Int32} {J : Nat → Nat → Int64} {r0 : Nat} {r1 : Nat} {r2 : Nat}
    (ko : xOb sh r2 3)
    (k : xg d qCode_arrange [.ref r2] (sh, I, J) (xI (fun v h1 => xG d zm_CodeWriter_say (22, [some (.ref r0), some (.ref r1), some (.ref r2), none], [.int v]) h1 Q) (fun x h1 => Q (.inr x) h1))) :
    xG d zm_CodeWriter_say (18, [some (.ref r0), some (.ref r1), some (.ref r2), none], []) (sh, I, J) Q := by
  exact xG_N 1 (ps := []) (f1 := (19, [some (.ref r0), some (.ref r1), some (.ref r2), none], [.ref r2])) (h1 := (sh, I, J)) rfl trivial (xG_Ci rfl rfl (Nat.le_of_ble_eq_true rfl) (Nat.le_of_ble_eq_true rfl) ⟨_, _, rfl, ko⟩ rfl k)
set_option maxRecDepth 100000 in
theorem s_CodeWriter_say_22 {d : Nat} {Q : xO → xH → Prop} {sh : List xS} {I : Nat → Nat → Int32} {J : Nat → Nat → Int64} {r0 : Nat} {r1 : Nat} {r2 : Nat} {t0 : Int32}
    (e0 : xOb sh r2 3)
    (k1 : (2 : Int32) < (I r2 7) → xG d zm_CodeWriter_say (52, [some (.ref r0), some (.ref r1), some (.ref r2), none], []) (sh, I, J) Q)
    (k2 : ¬ ((2 : Int32) < (I r2 7)) → xG d zm_CodeWriter_say (31, [some (.ref r0), some (.ref r1), some (.ref r2), none], []) (sh, I, J) Q) :
    xG d zm_CodeWriter_say (22, [some (.ref r0), some (.ref r1), some (.ref r2), none], [.int t0]) (sh, I, J) Q := by
  exact xG_N 4 (ps := [xOb sh r2 3]) (f1 := (28, [some (.ref r0), some (.ref r1), some (.ref r2), none], [.int (2 : Int32), .int (I r2 7)])) (h1 := (sh, I, J)) rfl e0 (xG_B rfl rfl k1 k2)
set_option maxRecDepth 100000 in
theorem s_CodeWriter_say_31 {d : Nat} {Q : xO → xH → Prop} {sh : List xS} {I : Nat → Nat → Int32} {J : Nat → Nat → Int64} {r0 : Nat} {r1 : Nat} {r2 : Nat} {a1 : Nat} {n2 : Nat}
    (e0 : xRr sh r2 3 2 a1)
    (e1 : xAr sh a1 .int n2)
    (e2 : vp_in ((I r2 7) - (1 : Int32)) n2)
    (k1 : (256 : Int32) ≤ (I a1 ((I r2 7) - (1 : Int32)).toNatClampNeg) → xG d zm_CodeWriter_say (52, [some (.ref r0), some (.ref r1), some (.ref r2), none], []) (sh, I, J) Q)
    (k2 : ¬ ((256 : Int32) ≤ (I a1 ((I r2 7) - (1 : Int32)).toNatClampNeg)) → xG d zm_CodeWriter_say (48, [some (.ref r0), some (.ref r1), some (.ref r2), none], []) (sh, I, J) Q) :
    xG d zm_CodeWriter_say (31, [some (.ref r0), some (.ref r1), some (.ref r2), none], []) (sh, I, J) Q := by
  obtain rfl := e0.eq
  obtain rfl := e1.eq
  exact xG_N 8 (ps := [xRf sh r2 3 2, xOb sh r2 3, xA sh (xrf sh r2 2) .int, vp_in ((I r2 7) - (1 : Int32)) (xlen sh (xrf sh r2 2))]) (f1 := (45, [some (.ref r0), some (.ref r1), some (.ref r2), none], [.int (256 : Int32), .int (I (xrf sh r2 2) ((I r2 7) - (1 : Int32)).toNatClampNeg)])) (h1 := (sh, I, J)) rfl ⟨e0.rf, e0.ob, e1.ar, e2⟩ (xG_B rfl rfl k1 k2)
set_option maxRecDepth 100000 in
theorem s_CodeWriter_say_48 {d : Nat} {Q : xO → xH → Prop} {sh : List xS} {I : Nat → Nat → Int32} {J : Nat → Nat → Int64} {r0 : Nat} {r1 : Nat} {r2 : Nat}
    (k1 : (1 : Int32) = 0 → xG d zm_CodeWriter_say (63, [some (.ref r0), some (.ref r1), some (.ref r2), some (.int (1 : Int32))], [.ref r1]) (sh, I, J) Q)
    (k2 : ¬ ((1 : Int32) = 0) → xG d zm_CodeWriter_say (59, [some (.ref r0), some (.ref r1), some (.ref r2), some (.int (1 : Int32))], [.ref r1]) (sh, I, J) Q) :
    xG d zm_CodeWriter_say (48, [some (.ref r0), some (.ref r1), some (.ref r2), none], []) (sh, I, J) Q := by
  exact xG_N 5 (ps := []) (f1 := (56, [some (.ref r0), some (.ref r1), some (.ref r2), some (.int (1 : Int32))], [.int (1 : Int32), .ref r1])) (h1 := (sh, I, J)) rfl trivial (xG_B rfl rfl k1 k2)
set_option maxRecDepth 100000 in
theorem s_CodeWriter_say_52 {d : Nat} {Q : xO → xH → Prop} {sh : List xS} {I : Nat → Nat → Int32} {J : Nat → Nat → Int64} {r0 : Nat} {r1 : Nat} {r2 : Nat}
    (k1 : (0 : Int32) = 0 → xG d zm_CodeWriter_say (63, [some (.ref r0), some (.ref r1), some (.ref r2), some (.int (0 : Int32))], [.ref r1]) (sh, I, J) Q)
    (k2 : ¬ ((0 : Int32) = 0) → xG d zm_CodeWriter_say (59, [some (.ref r0), some (.ref r1), some (.ref r2), some (.int (0 : Int32))], [.ref r1]) (sh, I, J) Q) :
    xG d zm_CodeWriter_say (52, [some (.ref r0), some (.ref r1), some (.ref r2), none], []) (sh, I, J) Q := by
  exact xG_N 4 (ps := []) (f1 := (56, [some (.ref r0), some (.ref r1), some (.ref r2), some (.int (0 : Int32))], [.int (0 : Int32), .ref r1])) (h1 := (sh, I, J)) rfl trivial (xG_B rfl rfl k1 k2)
set_option maxRecDepth 100000 in
theorem s_CodeWriter_say_59 {d : Nat} {Q : xO → xH → Prop} {sh : List xS} {I : Nat → Nat → Int32} {J : Nat → Nat → Int64} {r0 : Nat} {r1 : Nat} {r2 : Nat} {v3 : Int32} {t0 : Nat}
    (ko : xOb sh t0 1)
    (k : xg d qBits_put [.ref t0, .int (1 : Int32), .int (1 : Int32)] (sh, I, J) (xU (fun h1 => xG d zm_CodeWriter_say (68, [some (.ref r0), some (.ref r1), some (.ref r2), some (.int v3)], []) h1 Q) (fun x h1 => Q (.inr x) h1))) :
    xG d zm_CodeWriter_say (59, [some (.ref r0), some (.ref r1), some (.ref r2), some (.int v3)], [.ref t0]) (sh, I, J) Q := by
  exact xG_N 3 (ps := []) (f1 := (65, [some (.ref r0), some (.ref r1), some (.ref r2), some (.int v3)], [.int (1 : Int32), .int (1 : Int32), .ref t0])) (h1 := (sh, I, J)) rfl trivial (xG_Cu rfl rfl (Nat.le_of_ble_eq_true rfl) (Nat.le_of_ble_eq_true rfl) ⟨_, _, rfl, ko⟩ rfl k)
set_option maxRecDepth 100000 in
theorem s_CodeWriter_say_63 {d : Nat} {Q : xO → xH → Prop} {sh : List xS} {I : Nat → Nat → Int32} {J : Nat → Nat → Int64} {r0 : Nat} {r1 : Nat} {r2 : Nat} {v3 : Int32} {t0 : Nat}
    (ko : xOb sh t0 1)
    (k : xg d qBits_put [.ref t0, .int (0 : Int32), .int (1 : Int32)] (sh, I, J) (xU (fun h1 => xG d zm_CodeWriter_say (68, [some (.ref r0), some (.ref r1), some (.ref r2), some (.int v3)], []) h1 Q) (fun x h1 => Q (.inr x) h1))) :
    xG d zm_CodeWriter_say (63, [some (.ref r0), some (.ref r1), some (.ref r2), some (.int v3)], [.ref t0]) (sh, I, J) Q := by
  exact xG_N 2 (ps := []) (f1 := (65, [some (.ref r0), some (.ref r1), some (.ref r2), some (.int v3)], [.int (1 : Int32), .int (0 : Int32), .ref t0])) (h1 := (sh, I, J)) rfl trivial (xG_Cu rfl rfl (Nat.le_of_ble_eq_true rfl) (Nat.le_of_ble_eq_true rfl) ⟨_, _, rfl, ko⟩ rfl k)
set_option maxRecDepth 100000 in
theorem s_CodeWriter_say_68 {d : Nat} {Q : xO → xH → Prop} {sh : List xS} {I : Nat → Nat → Int32} {J : Nat → Nat → Int64} {r0 : Nat} {r1 : Nat} {r2 : Nat} {v3 : Int32}
    (k1 : v3 = 0 → xG d zm_CodeWriter_say (80, [some (.ref r0), some (.ref r1), some (.ref r2), some (.int v3)], []) (sh, I, J) Q)
    (k2 : ¬ (v3 = 0) → xG d zm_CodeWriter_say (72, [some (.ref r0), some (.ref r1), some (.ref r2), some (.int v3)], []) (sh, I, J) Q) :
    xG d zm_CodeWriter_say (68, [some (.ref r0), some (.ref r1), some (.ref r2), some (.int v3)], []) (sh, I, J) Q := by
  exact xG_N 1 (ps := []) (f1 := (69, [some (.ref r0), some (.ref r1), some (.ref r2), some (.int v3)], [.int v3])) (h1 := (sh, I, J)) rfl trivial (xG_B rfl rfl k1 k2)
set_option maxRecDepth 100000 in
theorem s_CodeWriter_say_72 {d : Nat} {Q : xO → xH → Prop} {sh : List xS} {I : Nat → Nat → Int32} {J : Nat → Nat → Int64} {r0 : Nat} {r1 : Nat} {r2 : Nat} {v3 : Int32}
    (k : xg d qCodeWriter_sayFew [.ref r1, .ref r2] (sh, I, J) (xU (fun h1 => xG d zm_CodeWriter_say (77, [some (.ref r0), some (.ref r1), some (.ref r2), some (.int v3)], []) h1 Q) (fun x h1 => Q (.inr x) h1))) :
    xG d zm_CodeWriter_say (72, [some (.ref r0), some (.ref r1), some (.ref r2), some (.int v3)], []) (sh, I, J) Q := by
  exact xG_N 2 (ps := []) (f1 := (74, [some (.ref r0), some (.ref r1), some (.ref r2), some (.int v3)], [.ref r2, .ref r1])) (h1 := (sh, I, J)) rfl trivial (xG_Cu rfl rfl (Nat.le_of_ble_eq_true rfl) (Nat.le_of_ble_eq_true rfl) trivial rfl k)
set_option maxRecDepth 100000 in
theorem s_CodeWriter_say_77 {d : Nat} {Q : xO → xH → Prop} {sh : List xS} {I : Nat → Nat → Int32} {J : Nat → Nat → Int64} {r0 : Nat} {r1 : Nat} {r2 : Nat} {v3 : Int32}
    (k : Q (.inl (none)) (sh, I, J)) :
    xG d zm_CodeWriter_say (77, [some (.ref r0), some (.ref r1), some (.ref r2), some (.int v3)], []) (sh, I, J) Q := by
  exact xG_N 1 (ps := []) (f1 := (95, [some (.ref r0), some (.ref r1), some (.ref r2), some (.int v3)], [])) (h1 := (sh, I, J)) rfl trivial (xG_Q rfl rfl trivial k)
set_option maxRecDepth 100000 in
theorem s_CodeWriter_say_80 {d : Nat} {Q : xO → xH → Prop} {sh : List xS} {I : Nat → Nat → Int32} {J : Nat → Nat → Int64} {r0 : Nat} {r1 : Nat} {r2 : Nat} {v3 : Int32}
    (ko : xOb sh r0 4)
    (k : xg d qCodeWriter_gatherLengths [.ref r0, .ref r2] (sh, I, J) (xU (fun h1 => xG d zm_CodeWriter_say (85, [some (.ref r0), some (.ref r1), some (.ref r2), some (.int v3)], []) h1 Q) (fun x h1 => Q (.inr x) h1))) :
    xG d zm_CodeWriter_say (80, [some (.ref r0), some (.ref r1), some (.ref r2), some (.int v3)], []) (sh, I, J) Q := by
  exact xG_N 2 (ps := []) (f1 := (82, [some (.ref r0), some (.ref r1), some (.ref r2), some (.int v3)], [.ref r2, .ref r0])) (h1 := (sh, I, J)) rfl trivial (xG_Cu rfl rfl (Nat.le_of_ble_eq_true rfl) (Nat.le_of_ble_eq_true rfl) ⟨_, _, rfl, ko⟩ rfl k)
set_option maxRecDepth 100000 in
theorem s_CodeWriter_say_85 {d : Nat} {Q : xO → xH → Prop} {sh : List xS} {I : Nat → Nat → Int32} {J : Nat → Nat → Int64} {r0 : Nat} {r1 : Nat} {r2 : Nat} {v3 : Int32}
    (ko : xOb sh r0 4)
    (k : xg d qCodeWriter_saySmall [.ref r0, .ref r1] (sh, I, J) (xU (fun h1 => xG d zm_CodeWriter_say (90, [some (.ref r0), some (.ref r1), some (.ref r2), some (.int v3)], []) h1 Q) (fun x h1 => Q (.inr x) h1))) :
    xG d zm_CodeWriter_say (85, [some (.ref r0), some (.ref r1), some (.ref r2), some (.int v3)], []) (sh, I, J) Q := by
  exact xG_N 2 (ps := []) (f1 := (87, [some (.ref r0), some (.ref r1), some (.ref r2), some (.int v3)], [.ref r1, .ref r0])) (h1 := (sh, I, J)) rfl trivial (xG_Cu rfl rfl (Nat.le_of_ble_eq_true rfl) (Nat.le_of_ble_eq_true rfl) ⟨_, _, rfl, ko⟩ rfl k)
set_option maxRecDepth 100000 in
theorem s_CodeWriter_say_90 {d : Nat} {Q : xO → xH → Prop} {sh : List xS} {I : Nat → Nat → Int32} {J : Nat → Nat → Int64} {r0 : Nat} {r1 : Nat} {r2 : Nat} {v3 : Int32}
    (ko : xOb sh r0 4)
    (k : xg d qCodeWriter_sayLengths [.ref r0, .ref r1] (sh, I, J) (xU (fun h1 => xG d zm_CodeWriter_say (95, [some (.ref r0), some (.ref r1), some (.ref r2), some (.int v3)], []) h1 Q) (fun x h1 => Q (.inr x) h1))) :
    xG d zm_CodeWriter_say (90, [some (.ref r0), some (.ref r1), some (.ref r2), some (.int v3)], []) (sh, I, J) Q := by
  exact xG_N 2 (ps := []) (f1 := (92, [some (.ref r0), some (.ref r1), some (.ref r2), some (.int v3)], [.ref r1, .ref r0])) (h1 := (sh, I, J)) rfl trivial (xG_Cu rfl rfl (Nat.le_of_ble_eq_true rfl) (Nat.le_of_ble_eq_true rfl) ⟨_, _, rfl, ko⟩ rfl k)
set_option maxRecDepth 100000 in
theorem s_CodeWriter_say_95 {d : Nat} {Q : xO → xH → Prop} {sh : List xS} {I : Nat → Nat → Int32} {J : Nat → Nat → Int64} {r0 : Nat} {r1 : Nat} {r2 : Nat} {v3 : Int32}
    (k : Q (.inl (none)) (sh, I, J)) :
    xG d zm_CodeWriter_say (95, [some (.ref r0), some (.ref r1), some (.ref r2), some (.int v3)], []) (sh, I, J) Q := by
  exact xG_Q rfl rfl trivial k
set_option maxRecDepth 100000 in
theorem s_CodeWriter_sayFew_0 {d : Nat} {Q : xO → xH → Prop} {sh : List xS} {I : Nat → Nat → Int32} {J : Nat → Nat → Int64} {r0 : Nat} {r1 : Nat}
    (e0 : xOb sh r1 3)
    (ko : xOb sh r0 1)
    (k : xg d qBits_put [.ref r0, .int ((I r1 7) - (1 : Int32)), .int (1 : Int32)] (sh, I, J) (xU (fun h1 => xG d zm_CodeWriter_sayFew (11, [some (.ref r0), some (.ref r1), none], []) h1 Q) (fun x h1 => Q (.inr x) h1))) :
    xG d zm_CodeWriter_sayFew (0, [some (.ref r0), some (.ref r1), none], []) (sh, I, J) Q := by
  exact xG_N 6 (ps := [xOb sh r1 3]) (f1 := (8, [some (.ref r0), some (.ref r1), none], [.int (1 : Int32), .int ((I r1 7) - (1 : Int32)), .ref r0])) (h1 := (sh, I, J)) rfl e0 (xG_Cu rfl rfl (Nat.le_of_ble_eq_true rfl) (Nat.le_of_ble_eq_true rfl) ⟨_, _, rfl, ko⟩ rfl k)
set_option maxRecDepth 100000 in
theorem s_CodeWriter_sayFew_11 {d : Nat} {Q : xO → xH → Prop} {sh : List xS} {I : Nat → Nat → Int32} {J : Nat → Nat → Int64} {r0 : Nat} {r1 : Nat}
    (ko : xOb sh r0 1)
    (k : xg d qBits_put [.ref r0, .int (1 : Int32), .int (1 : Int32)] (sh, I, J) (xU (fun h1 => xG d zm_CodeWriter_sayFew (17, [some (.ref r0), some (.ref r1), none], []) h1 Q) (fun x h1 => Q (.inr x) h1))) :
    xG d zm_CodeWriter_sayFew (11, [some (.ref r0), some (.ref r1), none], []) (sh, I, J) Q := by
  exact xG_N 3 (ps := []) (f1 := (14, [some (.ref r0), some (.ref r1), none], [.int (1 : Int32), .int (1 : Int32), .ref r0])) (h1 := (sh, I, J)) rfl trivial (xG_Cu rfl rfl (Nat.le_of_ble_eq_true rfl) (Nat.le_of_ble_eq_true rfl) ⟨_, _, rfl, ko⟩ rfl k)
set_option maxRecDepth 100000 in
theorem s_CodeWriter_sayFew_17 {d : Nat} {Q : xO → xH → Prop} {sh : List xS} {I : Nat → Nat → Int32} {J : Nat → Nat → Int64} {r0 : Nat} {r1 : Nat}
    (k : xG d zm_CodeWriter_sayFew (19, [some (.ref r0), some (.ref r1), some (.int (0 : Int32))], []) (sh, I, J) Q) :
    xG d zm_CodeWriter_sayFew (17, [some (.ref r0), some (.ref r1), none], []) (sh, I, J) Q := by
  exact xG_N 2 (ps := []) (f1 := (19, [some (.ref r0), some (.ref r1), some (.int (0 : Int32))], [])) (h1 := (sh, I, J)) rfl trivial (k)
set_option maxRecDepth 100000 in
theorem s_CodeWriter_sayFew_19 {d : Nat} {Q : xO → xH → Prop} {sh : List xS} {I : Nat → Nat → Int32} {J : Nat → Nat → Int64} {r0 : Nat} {r1 : Nat} {v2 : Int32}
    (e0 : xOb sh r1 3)
    (k1 : (I r1 7) ≤ v2 → xG d zm_CodeWriter_sayFew (45, [some (.ref r0), some (.ref r1), some (.int v2)], []) (sh, I, J) Q)
    (k2 : ¬ ((I r1 7) ≤ v2) → xG d zm_CodeWriter_sayFew (27, [some (.ref r0), some (.ref r1), some (.int v2)], []) (sh, I, J) Q) :
    xG d zm_CodeWriter_sayFew (19, [some (.ref r0), some (.ref r1), some (.int v2)], []) (sh, I, J) Q := by
  exact xG_N 3 (ps := [xOb sh r1 3]) (f1 := (24, [some (.ref r0), some (.ref r1), some (.int v2)], [.int (I r1 7), .int v2])) (h1 := (sh, I, J)) rfl e0 (xG_B rfl rfl k1 k2)
set_option maxRecDepth 100000 in
theorem s_CodeWriter_sayFew_27 {d : Nat} {Q : xO → xH → Prop} {sh : List xS} {I : Nat → Nat → Int32} {J : Nat → Nat → Int64} {r0 : Nat} {r1 : Nat} {v2 : Int32} {a1 : Nat} {n2 : Nat}
    (e0 : xRr sh r1 3 2 a1)
    (e1 : xAr sh a1 .int n2)
    (e2 : vp_in v2 n2)
    (ko : xOb sh r0 1)
    (k : xg d qBits_put [.ref r0, .int (I a1 v2.toNatClampNeg), .int (8 : Int32)] (sh, I, J) (xU (fun h1 => xG d zm_CodeWriter_sayFew (39, [some (.ref r0), some (.ref r1), some (.int v2)], []) h1 Q) (fun x h1 => Q (.inr x) h1))) :
    xG d zm_CodeWriter_sayFew (27, [some (.ref r0), some (.ref r1), some (.int v2)], []) (sh, I, J) Q := by
  obtain rfl := e0.eq
  obtain rfl := e1.eq
  exact xG_N 6 (ps := [xRf sh r1 3 2, xA sh (xrf sh r1 2) .int, vp_in v2 (xlen sh (xrf sh r1 2))]) (f1 := (36, [some (.ref r0), some (.ref r1), some (.int v2)], [.int (8 : Int32), .int (I (xrf sh r1 2) v2.toNatClampNeg), .ref r0])) (h1 := (sh, I, J)) rfl ⟨e0.rf, e1.ar, e2⟩ (xG_Cu rfl rfl (Nat.le_of_ble_eq_true rfl) (Nat.le_of_ble_eq_true rfl) ⟨_, _, rfl, ko⟩ rfl k)
set_option maxRecDepth 100000 in
theorem s_CodeWriter_sayFew_39 {d : Nat} {Q : xO → xH → Prop} {sh : List xS} {I : Nat → Nat → Int32} {J : Nat → Nat → Int64} {r0 : Nat} {r1 : Nat} {v2 : Int32}
    (k : xG d zm_CodeWriter_sayFew (19, [some (.ref r0), some (.ref r1), some (.int (v2 + (1 : Int32)))], []) (sh, I, J) Q) :
    xG d zm_CodeWriter_sayFew (39, [some (.ref r0), some (.ref r1), some (.int v2)], []) (sh, I, J) Q := by
  exact xG_N 2 (ps := []) (f1 := (19, [some (.ref r0), some (.ref r1), some (.int (v2 + (1 : Int32)))], [])) (h1 := (sh, I, J)) rfl trivial (k)
set_option maxRecDepth 100000 in
theorem s_CodeWriter_sayFew_45 {d : Nat} {Q : xO → xH → Prop} {sh : List xS} {I : Nat → Nat → Int32} {J : Nat → Nat → Int64} {r0 : Nat} {r1 : Nat} {v2 : Int32}
    (k : Q (.inl (none)) (sh, I, J)) :
    xG d zm_CodeWriter_sayFew (45, [some (.ref r0), some (.ref r1), some (.int v2)], []) (sh, I, J) Q := by
  exact xG_Q rfl rfl trivial k
set_option maxRecDepth 100000 in
theorem s_CodeWriter_gatherLengths_0 {d : Nat} {Q : xO → xH → Prop} {sh : List xS} {I : Nat → Nat → Int32} {J : Nat → Nat → Int64} {r0 : Nat} {r1 : Nat} {a1 : Nat}
    (e0 : xOb sh r0 4)
    (e1 : xRr sh r0 4 0 a1)
    (ko : xOb sh a1 3)
    (k : xg d qCode_clear [.ref a1, .int (19 : Int32)] (sh, xup I r0 3 (0 : Int32), J) (xU (fun h1 => xG d zm_CodeWriter_gatherLengths (14, [some (.ref r0), some (.ref r1), none, none], []) h1 Q) (fun x h1 => Q (.inr x) h1))) :
    xG d zm_CodeWriter_gatherLengths (0, [some (.ref r0), some (.ref r1), none, none], []) (sh, I, J) Q := by
  obtain rfl := e1.eq
  exact xG_N 6 (ps := [xOb sh r0 4, xRf sh r0 4 0]) (f1 := (11, [some (.ref r0), some (.ref r1), none, none], [.int (19 : Int32), .ref (xrf sh r0 0)])) (h1 := (sh, xup I r0 3 (0 : Int32), J)) rfl ⟨e0, e1.rf⟩ (xG_Cu rfl rfl (Nat.le_of_ble_eq_true rfl) (Nat.le_of_ble_eq_true rfl) ⟨_, _, rfl, ko⟩ rfl k)
set_option maxRecDepth 100000 in
theorem s_CodeWriter_gatherLengths_14 {d : Nat} {Q : xO → xH → Prop} {sh : List xS} {I : Nat → Nat → Int32} {J : Nat → Nat → Int64} {r0 : Nat} {r1 : Nat}
    (k : xG d zm_CodeWriter_gatherLengths (18, [some (.ref r0), some (.ref r1), some (.int (0 : Int32)), some (.int (0 : Int32))], []) (sh, I, J) Q) :
    xG d zm_CodeWriter_gatherLengths (14, [some (.ref r0), some (.ref r1), none, none], []) (sh, I, J) Q := by
  exact xG_N 4 (ps := []) (f1 := (18, [some (.ref r0), some (.ref r1), some (.int (0 : Int32)), some (.int (0 : Int32))], [])) (h1 := (sh, I, J)) rfl trivial (k)
set_option maxRecDepth 100000 in
theorem s_CodeWriter_gatherLengths_18 {d : Nat} {Q : xO → xH → Prop} {sh : List xS} {I : Nat → Nat → Int32} {J : Nat → Nat → Int64} {r0 : Nat} {r1 : Nat} {v2 : Int32} {v3 : Int32}
    (e0 : xOb sh r1 3)
    (k1 : (I r1 6) ≤ v3 → xG d zm_CodeWriter_gatherLengths (65, [some (.ref r0), some (.ref r1), some (.int v2), some (.int v3)], []) (sh, I, J) Q)
    (k2 : ¬ ((I r1 6) ≤ v3) → xG d zm_CodeWriter_gatherLengths (26, [some (.ref r0), some (.ref r1), some (.int v2), some (.int v3)], []) (sh, I, J) Q) :
    xG d zm_CodeWriter_gatherLengths (18, [some (.ref r0), some (.ref r1), some (.int v2), some (.int v3)], []) (sh, I, J) Q := by
  exact xG_N 3 (ps := [xOb sh r1 3]) (f1 := (23, [some (.ref r0), some (.ref r1), some (.int v2), some (.int v3)], [.int (I r1 6), .int v3])) (h1 := (sh, I, J)) rfl e0 (xG_B rfl rfl k1 k2)
set_option maxRecDepth 100000 in
theorem s_CodeWriter_gatherLengths_26 {d : Nat} {Q : xO → xH → Prop} {sh : List xS} {I : Nat → Nat → Int32} {J : Nat → Nat → Int64} {r0 : Nat} {r1 : Nat} {v2 : Int32} {v3 : Int32} {a1 : Nat} {n2 : Nat}
    (e0 : xRr sh r1 3 0 a1)
    (e1 : xAr sh a1 .int n2)
    (e2 : vp_in v3 n2)
    (k1 : ¬ (I a1 v3.toNatClampNeg) = 0 → xG d zm_CodeWriter_gatherLengths (41, [some (.ref r0), some (.ref r1), some (.int v2), some (.int v3)], []) (sh, I, J) Q)
    (k2 : ¬ (¬ (I a1 v3.toNatClampNeg) = 0) → xG d zm_CodeWriter_gatherLengths (35, [some (.ref r0), some (.ref r1), some (.int v2), some (.int v3)], []) (sh, I, J) Q) :
    xG d zm_CodeWriter_gatherLengths (26, [some (.ref r0), some (.ref r1), some (.int v2), some (.int v3)], []) (sh, I, J) Q := by
  obtain rfl := e0.eq
  obtain rfl := e1.eq
  exact xG_N 4 (ps := [xRf sh r1 3 0, xA sh (xrf sh r1 0) .int, vp_in v3 (xlen sh (xrf sh r1 0))]) (f1 := (32, [some (.ref r0), some (.ref r1), some (.int v2), some (.int v3)], [.int (I (xrf sh r1 0) v3.toNatClampNeg)])) (h1 := (sh, I, J)) rfl ⟨e0.rf, e1.ar, e2⟩ (xG_B rfl rfl k1 k2)
set_option maxRecDepth 100000 in
theorem s_CodeWriter_gatherLengths_35 {d : Nat} {Q : xO → xH → Prop} {sh : List xS} {I : Nat → Nat → Int32} {J : Nat → Nat → Int64} {r0 : Nat} {r1 : Nat} {v2 : Int32} {v3 : Int32}
    (k : xG d zm_CodeWriter_gatherLengths (18, [some (.ref r0), some (.ref r1), some (.int (v2 + (1 : Int32))), some (.int (v3 + (1 : Int32)))], []) (sh, I, J) Q) :
    xG d zm_CodeWriter_gatherLengths (35, [some (.ref r0), some (.ref r1), some (.int v2), some (.int v3)], []) (sh, I, J) Q := by
  exact xG_N 4 (ps := []) (f1 := (18, [some (.ref r0), some (.ref r1), some (.int (v2 + (1 : Int32))), some (.int (v3 + (1 : Int32)))], [])) (h1 := (sh, I, J)) rfl trivial (k)
set_option maxRecDepth 100000 in
theorem s_CodeWriter_gatherLengths_41 {d : Nat} {Q : xO → xH → Prop} {sh : List xS} {I : Nat → Nat → Int32} {J : Nat → Nat → Int64} {r0 : Nat} {r1 : Nat} {v2 : Int32} {v3 : Int32}
    (ko : xOb sh r0 4)
    (k : xg d qCodeWriter_gatherZeros [.ref r0, .int v2] (sh, I, J) (xU (fun h1 => xG d zm_CodeWriter_gatherLengths (46, [some (.ref r0), some (.ref r1), some (.int v2), some (.int v3)], []) h1 Q) (fun x h1 => Q (.inr x) h1))) :
    xG d zm_CodeWriter_gatherLengths (41, [some (.ref r0), some (.ref r1), some (.int v2), some (.int v3)], []) (sh, I, J) Q := by
  exact xG_N 2 (ps := []) (f1 := (43, [some (.ref r0), some (.ref r1), some (.int v2), some (.int v3)], [.int v2, .ref r0])) (h1 := (sh, I, J)) rfl trivial (xG_Cu rfl rfl (Nat.le_of_ble_eq_true rfl) (Nat.le_of_ble_eq_true rfl) ⟨_, _, rfl, ko⟩ rfl k)
set_option maxRecDepth 100000 in
theorem s_CodeWriter_gatherLengths_46 {d : Nat} {Q : xO → xH → Prop} {sh : List xS} {I : Nat → Nat → Int32} {J : Nat → Nat → Int64} {r0 : Nat} {r1 : Nat} {v2 : Int32} {v3 : Int32} {a1 : Nat} {n2 : Nat}
    (e0 : xRr sh r1 3 0 a1)
    (e1 : xAr sh a1 .int n2)
    (e2 : vp_in v3 n2)
    (ko : xOb sh r0 4)
    (k : xg d qCodeWriter_gather [.ref r0, .int (I a1 v3.toNatClampNeg), .int (1 : Int32)] (sh, I, J) (xU (fun h1 => xG d zm_CodeWriter_gatherLengths (59, [some (.ref r0), some (.ref r1), some (.int (0 : Int32)), some (.int v3)], []) h1 Q) (fun x h1 => Q (.inr x) h1))) :
    xG d zm_CodeWriter_gatherLengths (46, [some (.ref r0), some (.ref r1), some (.int v2), some (.int v3)], []) (sh, I, J) Q := by
  obtain rfl := e0.eq
  obtain rfl := e1.eq
  exact xG_N 8 (ps := [xRf sh r1 3 0, xA sh (xrf sh r1 0) .int, vp_in v3 (xlen sh (xrf sh r1 0))]) (f1 := (56, [some (.ref r0), some (.ref r1), some (.int (0 : Int32)), some (.int v3)], [.int (1 : Int32), .int (I (xrf sh r1 0) v3.toNatClampNeg), .ref r0])) (h1 := (sh, I, J)) rfl ⟨e0.rf, e1.ar, e2⟩ (xG_Cu rfl rfl (Nat.le_of_ble_eq_true rfl) (Nat.le_of_ble_eq_true rfl) ⟨_, _, rfl, ko⟩ rfl k)
set_option maxRecDepth 100000 in
theorem s_CodeWriter_gatherLengths_59 {d : Nat} {Q : xO → xH → Prop} {sh : List xS} {I : Nat → Nat → Int32} {J : Nat → Nat → Int64} {r0 : Nat} {r1 : Nat} {v2 : Int32} {v3 : Int32}
    (k : xG d zm_CodeWriter_gatherLengths (18, [some (.ref r0), some (.ref r1), some (.int v2), some (.int (v3 + (1 : Int32)))], []) (sh, I, J) Q) :
    xG d zm_CodeWriter_gatherLengths (59, [some (.ref r0), some (.ref r1), some (.int v2), some (.int v3)], []) (sh, I, J) Q := by
  exact xG_N 2 (ps := []) (f1 := (18, [some (.ref r0), some (.ref r1), some (.int v2), some (.int (v3 + (1 : Int32)))], [])) (h1 := (sh, I, J)) rfl trivial (k)
set_option maxRecDepth 100000 in
theorem s_CodeWriter_gatherLengths_65 {d : Nat} {Q : xO → xH → Prop} {sh : List xS} {I : Nat → Nat → Int32} {J : Nat → Nat → Int64} {r0 : Nat} {r1 : Nat} {v2 : Int32} {v3 : Int32}
    (ko : xOb sh r0 4)
    (k : xg d qCodeWriter_gatherZeros [.ref r0, .int v2] (sh, I, J) (xU (fun h1 => xG d zm_CodeWriter_gatherLengths (70, [some (.ref r0), some (.ref r1), some (.int v2), some (.int v3)], []) h1 Q) (fun x h1 => Q (.inr x) h1))) :
    xG d zm_CodeWriter_gatherLengths (65, [some (.ref r0), some (.ref r1), some (.int v2), some (.int v3)], []) (sh, I, J) Q := by
  exact xG_N 2 (ps := []) (f1 := (67, [some (.ref r0), some (.ref r1), some (.int v2), some (.int v3)], [.int v2, .ref r0])) (h1 := (sh, I, J)) rfl trivial (xG_Cu rfl rfl (Nat.le_of_ble_eq_true rfl) (Nat.le_of_ble_eq_true rfl) ⟨_, _, rfl, ko⟩ rfl k)
set_option maxRecDepth 100000 in
theorem s_CodeWriter_gatherLengths_70 {d : Nat} {Q : xO → xH → Prop} {sh : List xS} {I : Nat → Nat → Int32} {J : Nat → Nat → Int64} {r0 : Nat} {r1 : Nat} {v2 : Int32} {v3 : Int32}
    (k : Q (.inl (none)) (sh, I, J)) :
    xG d zm_CodeWriter_gatherLengths (70, [some (.ref r0), some (.ref r1), some (.int v2), some (.int v3)], []) (sh, I, J) Q := by
  exact xG_Q rfl rfl trivial k
set_option maxRecDepth 100000 in
theorem s_CodeWriter_gatherZeros_0 {d : Nat} {Q : xO → xH → Prop} {sh : List xS} {I : Nat → Nat → Int32} {J : Nat → Nat → Int64} {r0 : Nat} {v1 : Int32}
    (k : xG d zm_CodeWriter_gatherZeros (2, [some (.ref r0), some (.int v1), some (.int v1), none], []) (sh, I, J) Q) :
    xG d zm_CodeWriter_gatherZeros (0, [some (.ref r0), some (.int v1), none, none], []) (sh, I, J) Q := by
  exact xG_N 2 (ps := []) (f1 := (2, [some (.ref r0), some (.int v1), some (.int v1), none], [])) (h1 := (sh, I, J)) rfl trivial (k)
set_option maxRecDepth 100000 in
theorem s_CodeWriter_gatherZeros_2 {d : Nat} {Q : xO → xH → Prop} {sh : List xS} {I : Nat → Nat → Int32} {J : Nat → Nat → Int64} {r0 : Nat} {v1 : Int32} {v2 : Int32} {o3 : Option Value}
    (k1 : v2 ≤ 0 → xG d zm_CodeWriter_gatherZeros (72, [some (.ref r0), some (.int v1), some (.int v2), o3], []) (sh, I, J) Q)
    (k2 : ¬ (v2 ≤ 0) → xG d zm_CodeWriter_gatherZeros (6, [some (.ref r0), some (.int v1), some (.int v2), o3], []) (sh, I, J) Q) :
    xG d zm_CodeWriter_gatherZeros (2, [some (.ref r0), some (.int v1), some (.int v2), o3], []) (sh, I, J) Q := by
  exact xG_N 1 (ps := []) (f1 := (3, [some (.ref r0), some (.int v1), some (.int v2), o3], [.int v2])) (h1 := (sh, I, J)) rfl trivial (xG_B rfl rfl k1 k2)
set_option maxRecDepth 100000 in
theorem s_CodeWriter_gatherZeros_6 {d : Nat} {Q : xO → xH → Prop} {sh : List xS} {I : Nat → Nat → Int32} {J : Nat → Nat → Int64} {r0 : Nat} {v1 : Int32} {v2 : Int32} {o3 : Option Value}
    (k1 : v2 < (11 : Int32) → xG d zm_CodeWriter_gatherZeros (22, [some (.ref r0), some (.int v1), some (.int v2), o3], []) (sh, I, J) Q)
    (k2 : ¬ (v2 < (11 : Int32)) → xG d zm_CodeWriter_gatherZeros (12, [some (.ref r0), some (.int v1), some (.int v2), o3], []) (sh, I, J) Q) :
    xG d zm_CodeWriter_gatherZeros (6, [some (.ref r0), some (.int v1), some (.int v2), o3], []) (sh, I, J) Q := by
  exact xG_N 2 (ps := []) (f1 := (9, [some (.ref r0), some (.int v1), some (.int v2), o3], [.int (11 : Int32), .int v2])) (h1 := (sh, I, J)) rfl trivial (xG_B rfl rfl k1 k2)
set_option maxRecDepth 100000 in
theorem s_CodeWriter_gatherZeros_12 {d : Nat} {Q : xO → xH → Prop} {sh : List xS} {I : Nat → Nat → Int32} {J : Nat → Nat → Int64} {r0 : Nat} {v1 : Int32} {v2 : Int32} {o3 : Option Value}
    (k1 : (xmin v2 (138 : Int32)) < (11 : Int32) → xG d zm_CodeWriter_gatherZeros (50, [some (.ref r0), some (.int v1), some (.int v2), some (.int (xmin v2 (138 : Int32)))], [.ref r0]) (sh, I, J) Q)
    (k2 : ¬ ((xmin v2 (138 : Int32)) < (11 : Int32)) → xG d zm_CodeWriter_gatherZeros (45, [some (.ref r0), some (.int v1), some (.int v2), some (.int (xmin v2 (138 : Int32)))], [.ref r0]) (sh, I, J) Q) :
    xG d zm_CodeWriter_gatherZeros (12, [some (.ref r0), some (.int v1), some (.int v2), o3], []) (sh, I, J) Q := by
  exact xG_N 8 (ps := [(([] : List Value).map fun v => v.category).sum ≤ 8]) (f1 := (42, [some (.ref r0), some (.int v1), some (.int v2), some (.int (xmin v2 (138 : Int32)))], [.int (11 : Int32), .int (xmin v2 (138 : Int32)), .ref r0])) (h1 := (sh, I, J)) rfl (Nat.le_of_ble_eq_true rfl) (xG_B rfl rfl k1 k2)
set_option maxRecDepth 100000 in
theorem s_CodeWriter_gatherZeros_22 {d : Nat} {Q : xO → xH → Prop} {sh : List xS} {I : Nat → Nat → Int32} {J : Nat → Nat → Int64} {r0 : Nat} {v1 : Int32} {v2 : Int32} {o3 : Option Value}
    (k1 : v2 < (3 : Int32) → xG d zm_CodeWriter_gatherZeros (36, [some (.ref r0), some (.int v1), some (.int v2), o3], []) (sh, I, J) Q)
    (k2 : ¬ (v2 < (3 : Int32)) → xG d zm_CodeWriter_gatherZeros (27, [some (.ref r0), some (.int v1), some (.int v2), o3], []) (sh, I, J) Q) :
    xG d zm_CodeWriter_gatherZeros (22, [some (.ref r0), some (.int v1), some (.int v2), o3], []) (sh, I, J) Q := by
  exact xG_N 2 (ps := []) (f1 := (24, [some (.ref r0), some (.int v1), some (.int v2), o3], [.int (3 : Int32), .int v2])) (h1 := (sh, I, J)) rfl trivial (xG_B rfl rfl k1 k2)
set_option maxRecDepth 100000 in
theorem s_CodeWriter_gatherZeros_27 {d : Nat} {Q : xO → xH → Prop} {sh : List xS} {I : Nat → Nat → Int32} {J : Nat → Nat → Int64} {r0 : Nat} {v1 : Int32} {v2 : Int32} {o3 : Option Value}
    (k1 : (xmin v2 (10 : Int32)) < (11 : Int32) → xG d zm_CodeWriter_gatherZeros (50, [some (.ref r0), some (.int v1), some (.int v2), some (.int (xmin v2 (10 : Int32)))], [.ref r0]) (sh, I, J) Q)
    (k2 : ¬ ((xmin v2 (10 : Int32)) < (11 : Int32)) → xG d zm_CodeWriter_gatherZeros (45, [some (.ref r0), some (.int v1), some (.int v2), some (.int (xmin v2 (10 : Int32)))], [.ref r0]) (sh, I, J) Q) :
    xG d zm_CodeWriter_gatherZeros (27, [some (.ref r0), some (.int v1), some (.int v2), o3], []) (sh, I, J) Q := by
  exact xG_N 8 (ps := [(([] : List Value).map fun v => v.category).sum ≤ 8]) (f1 := (42, [some (.ref r0), some (.int v1), some (.int v2), some (.int (xmin v2 (10 : Int32)))], [.int (11 : Int32), .int (xmin v2 (10 : Int32)), .ref r0])) (h1 := (sh, I, J)) rfl (Nat.le_of_ble_eq_true rfl) (xG_B rfl rfl k1 k2)
set_option maxRecDepth 100000 in
theorem s_CodeWriter_gatherZeros_36 {d : Nat} {Q : xO → xH → Prop} {sh : List xS} {I : Nat → Nat → Int32} {J : Nat → Nat → Int64} {r0 : Nat} {v1 : Int32} {v2 : Int32} {o3 : Option Value}
    (k1 : (1 : Int32) < (11 : Int32) → xG d zm_CodeWriter_gatherZeros (50, [some (.ref r0), some (.int v1), some (.int v2), some (.int (1 : Int32))], [.ref r0]) (sh, I, J) Q)
    (k2 : ¬ ((1 : Int32) < (11 : Int32)) → xG d zm_CodeWriter_gatherZeros (45, [some (.ref r0), some (.int v1), some (.int v2), some (.int (1 : Int32))], [.ref r0]) (sh, I, J) Q) :
    xG d zm_CodeWriter_gatherZeros (36, [some (.ref r0), some (.int v1), some (.int v2), o3], []) (sh, I, J) Q := by
  exact xG_N 5 (ps := []) (f1 := (42, [some (.ref r0), some (.int v1), some (.int v2), some (.int (1 : Int32))], [.int (11 : Int32), .int (1 : Int32), .ref r0])) (h1 := (sh, I, J)) rfl trivial (xG_B rfl rfl k1 k2)
set_option maxRecDepth 100000 in
theorem s_CodeWriter_gatherZeros_45 {d : Nat} {Q : xO → xH → Prop} {sh : List xS} {I : Nat → Nat → Int32} {J : Nat → Nat → Int64} {r0 : Nat} {v1 : Int32} {v2 : Int32} {v3 : Int32} {t0 : Nat}
    (ko : xOb sh t0 4)
    (k : xg d qCodeWriter_gather [.ref t0, .int (18 : Int32), .int v3] (sh, I, J) (xU (fun h1 => xG d zm_CodeWriter_gatherZeros (65, [some (.ref r0), some (.int v1), some (.int v2), some (.int v3)], []) h1 Q) (fun x h1 => Q (.inr x) h1))) :
    xG d zm_CodeWriter_gatherZeros (45, [some (.ref r0), some (.int v1), some (.int v2), some (.int v3)], [.ref t0]) (sh, I, J) Q := by
  exact xG_N 3 (ps := []) (f1 := (62, [some (.ref r0), some (.int v1), some (.int v2), some (.int v3)], [.int v3, .int (18 : Int32), .ref t0])) (h1 := (sh, I, J)) rfl trivial (xG_Cu rfl rfl (Nat.le_of_ble_eq_true rfl) (Nat.le_of_ble_eq_true rfl) ⟨_, _, rfl, ko⟩ rfl k)
set_option maxRecDepth 100000 in
theorem s_CodeWriter_gatherZeros_50 {d : Nat} {Q : xO → xH → Prop} {sh : List xS} {I : Nat → Nat → Int32} {J : Nat → Nat → Int64} {r0 : Nat} {v1 : Int32} {v2 : Int32} {v3 : Int32} {t0 : Nat}
    (k1 : v3 < (3 : Int32) → xG d zm_CodeWriter_gatherZeros (60, [some (.ref r0), some (.int v1), some (.int v2), some (.int v3)], [.ref t0]) (sh, I, J) Q)
    (k2 : ¬ (v3 < (3 : Int32)) → xG d zm_CodeWriter_gatherZeros (55, [some (.ref r0), some (.int v1), some (.int v2), some (.int v3)], [.ref t0]) (sh, I, J) Q) :
    xG d zm_CodeWriter_gatherZeros (50, [some (.ref r0), some (.int v1), some (.int v2), some (.int v3)], [.ref t0]) (sh, I, J) Q := by
  exact xG_N 2 (ps := []) (f1 := (52, [some (.ref r0), some (.int v1), some (.int v2), some (.int v3)], [.int (3 : Int32), .int v3, .ref t0])) (h1 := (sh, I, J)) rfl trivial (xG_B rfl rfl k1 k2)
set_option maxRecDepth 100000 in
theorem s_CodeWriter_gatherZeros_55 {d : Nat} {Q : xO → xH → Prop} {sh : List xS} {I : Nat → Nat → Int32} {J : Nat → Nat → Int64} {r0 : Nat} {v1 : Int32} {v2 : Int32} {v3 : Int32} {t0 : Nat}
    (ko : xOb sh t0 4)
    (k : xg d qCodeWriter_gather [.ref t0, .int (17 : Int32), .int v3] (sh, I, J) (xU (fun h1 => xG d zm_CodeWriter_gatherZeros (65, [some (.ref r0), some (.int v1), some (.int v2), some (.int v3)], []) h1 Q) (fun x h1 => Q (.inr x) h1))) :
    xG d zm_CodeWriter_gatherZeros (55, [some (.ref r0), some (.int v1), some (.int v2), some (.int v3)], [.ref t0]) (sh, I, J) Q := by
  exact xG_N 3 (ps := []) (f1 := (62, [some (.ref r0), some (.int v1), some (.int v2), some (.int v3)], [.int v3, .int (17 : Int32), .ref t0])) (h1 := (sh, I, J)) rfl trivial (xG_Cu rfl rfl (Nat.le_of_ble_eq_true rfl) (Nat.le_of_ble_eq_true rfl) ⟨_, _, rfl, ko⟩ rfl k)
set_option maxRecDepth 100000 in
theorem s_CodeWriter_gatherZeros_60 {d : Nat} {Q : xO → xH → Prop} {sh : List xS} {I : Nat → Nat → Int32} {J : Nat → Nat → Int64} {r0 : Nat} {v1 : Int32} {v2 : Int32} {v3 : Int32} {t0 : Nat}
    (ko : xOb sh t0 4)
    (k : xg d qCodeWriter_gather [.ref t0, .int (0 : Int32), .int v3] (sh, I, J) (xU (fun h1 => xG d zm_CodeWriter_gatherZeros (65, [some (.ref r0), some (.int v1), some (.int v2), some (.int v3)], []) h1 Q) (fun x h1 => Q (.inr x) h1))) :
    xG d zm_CodeWriter_gatherZeros (60, [some (.ref r0), some (.int v1), some (.int v2), some (.int v3)], [.ref t0]) (sh, I, J) Q := by
  exact xG_N 2 (ps := []) (f1 := (62, [some (.ref r0), some (.int v1), some (.int v2), some (.int v3)], [.int v3, .int (0 : Int32), .ref t0])) (h1 := (sh, I, J)) rfl trivial (xG_Cu rfl rfl (Nat.le_of_ble_eq_true rfl) (Nat.le_of_ble_eq_true rfl) ⟨_, _, rfl, ko⟩ rfl k)
set_option maxRecDepth 100000 in
theorem s_CodeWriter_gatherZeros_65 {d : Nat} {Q : xO → xH → Prop} {sh : List xS} {I : Nat → Nat → Int32} {J : Nat → Nat → Int64} {r0 : Nat} {v1 : Int32} {v2 : Int32} {v3 : Int32}
    (k : xG d zm_CodeWriter_gatherZeros (2, [some (.ref r0), some (.int v1), some (.int (v2 - v3)), some (.int v3)], []) (sh, I, J) Q) :
    xG d zm_CodeWriter_gatherZeros (65, [some (.ref r0), some (.int v1), some (.int v2), some (.int v3)], []) (sh, I, J) Q := by
  exact xG_N 5 (ps := []) (f1 := (2, [some (.ref r0), some (.int v1), some (.int (v2 - v3)), some (.int v3)], [])) (h1 := (sh, I, J)) rfl trivial (k)
set_option maxRecDepth 100000 in
theorem s_CodeWriter_gatherZeros_72 {d : Nat} {Q : xO → xH → Prop} {sh : List xS} {I : Nat → Nat → Int32} {J : Nat → Nat → Int64} {r0 : Nat} {v1 : Int32} {v2 : Int32} {o3 : Option Value}
    (k : Q (.inl (none)) (sh, I, J)) :
    xG d zm_CodeWriter_gatherZeros (72, [some (.ref r0), some (.int v1), some (.int v2), o3], []) (sh, I, J) Q := by
  exact xG_Q rfl rfl trivial k
set_option maxRecDepth 100000 in
theorem s_CodeWriter_gather_0 {d : Nat} {Q : xO → xH → Prop} {sh : List xS} {I : Nat → Nat → Int32} {J : Nat → Nat → Int64} {r0 : Nat} {v1 : Int32} {v2 : Int32} {a1 : Nat} {n2 : Nat} {a3 : Nat} {n4 : Nat} {a5 : Nat} {a6 : Nat} {n7 : Nat}
    (e0 : xRr sh r0 4 1 a1)
    (e1 : xAr sh a1 .int n2)
    (e2 : 4 ≤ a1)
    (e3 : vp_in (I r0 3) n2)
    (e4 : xRr sh r0 4 2 a3)
    (e5 : xAr sh a3 .int n4)
    (e6 : 4 ≤ a3)
    (e7 : vp_in ((xup I a1 (I r0 3).toNatClampNeg v1) r0 3) n4)
    (e8 : xRr sh r0 4 0 a5)
    (e9 : xRr sh a5 3 0 a6)
    (e10 : xAr sh a6 .int n7)
    (e11 : 4 ≤ a6)
    (e12 : vp_in v1 n7)
    (k : Q (.inl (none)) (sh, xup (xup (xup (xup I a1 (I r0 3).toNatClampNeg v1) a3 ((xup I a1 (I r0 3).toNatClampNeg v1) r0 3).toNatClampNeg v2) r0 3 (((xup (xup I a1 (I r0 3).toNatClampNeg v1) a3 ((xup I a1 (I r0 3).toNatClampNeg v1) r0 3).toNatClampNeg v2) r0 3) + (1 : Int32))) a6 v1.toNatClampNeg (1 : Int32), J)) :
    xG d zm_CodeWriter_gather (0, [some (.ref r0), some (.int v1), some (.int v2)], []) (sh, I, J) Q := by
  obtain rfl := e0.eq
  obtain rfl := e1.eq
  obtain rfl := e4.eq
  obtain rfl := e5.eq
  obtain rfl := e8.eq
  obtain rfl := e9.eq
  obtain rfl := e10.eq
  exact xG_N 24 (ps := [xRf sh r0 4 1, xOb sh r0 4, xW sh (xrf sh r0 1) .int, vp_in (I r0 3) (xlen sh (xrf sh r0 1)), xRf sh r0 4 2, xOb sh r0 4, xW sh (xrf sh r0 2) .int, vp_in ((xup I (xrf sh r0 1) (I r0 3).toNatClampNeg v1) r0 3) (xlen sh (xrf sh r0 2)), xOb sh r0 4, xOb sh r0 4, xRf sh r0 4 0, xRf sh (xrf sh r0 0) 3 0, xW sh (xrf sh (xrf sh r0 0) 0) .int, vp_in v1 (xlen sh (xrf sh (xrf sh r0 0) 0))]) (f1 := (40, [some (.ref r0), some (.int v1), some (.int v2)], [])) (h1 := (sh, xup (xup (xup (xup I (xrf sh r0 1) (I r0 3).toNatClampNeg v1) (xrf sh r0 2) ((xup I (xrf sh r0 1) (I r0 3).toNatClampNeg v1) r0 3).toNatClampNeg v2) r0 3 (((xup (xup I (xrf sh r0 1) (I r0 3).toNatClampNeg v1) (xrf sh r0 2) ((xup I (xrf sh r0 1) (I r0 3).toNatClampNeg v1) r0 3).toNatClampNeg v2) r0 3) + (1 : Int32))) (xrf sh (xrf sh r0 0) 0) v1.toNatClampNeg (1 : Int32), J)) rfl ⟨e0.rf, e0.ob, ⟨e1.ar, e2⟩, e3, e4.rf, e0.ob, ⟨e5.ar, e6⟩, e7, e0.ob, e0.ob, e8.rf, e9.rf, ⟨e10.ar, e11⟩, e12⟩ (xG_Q rfl rfl trivial k)
set_option maxRecDepth 100000 in
theorem s_CodeWriter_saySmall_0 {d : Nat} {Q : xO → xH → Prop} {sh : List xS} {I : Nat → Nat → Int32} {J : Nat → Nat → Int64} {r0 : Nat} {r1 : Nat} {a1 : Nat}
    (e0 : xRr sh r0 4 0 a1)
    (ko : xOb sh a1 3)
    (k : xg d qCode_balance [.ref a1] (sh, I, J) (xU (fun h1 => xG d zm_CodeWriter_saySmall (7, [some (.ref r0), some (.ref r1), none], []) h1 Q) (fun x h1 => Q (.inr x) h1))) :
    xG d zm_CodeWriter_saySmall (0, [some (.ref r0), some (.ref r1), none], []) (sh, I, J) Q := by
  obtain rfl := e0.eq
  exact xG_N 2 (ps := [xRf sh r0 4 0]) (f1 := (4, [some (.ref r0), some (.ref r1), none], [.ref (xrf sh r0 0)])) (h1 := (sh, I, J)) rfl e0.rf (xG_Cu rfl rfl (Nat.le_of_ble_eq_true rfl) (Nat.le_of_ble_eq_true rfl) ⟨_, _, rfl, ko⟩ rfl k)
set_option maxRecDepth 100000 in
theorem s_CodeWriter_saySmall_7 {d : Nat} {Q : xO → xH → Prop} {sh : List xS} {I : Nat → Nat → Int32} {J : Nat → Nat → Int64} {r0 : Nat} {r1 : Nat} {a1 : Nat}
    (e0 : xRr sh r0 4 0 a1)
    (ko : xOb sh a1 3)
    (k : xg d qCode_arrange [.ref a1] (sh, I, J) (xI (fun v h1 => xG d zm_CodeWriter_saySmall (14, [some (.ref r0), some (.ref r1), none], [.int v]) h1 Q) (fun x h1 => Q (.inr x) h1))) :
    xG d zm_CodeWriter_saySmall (7, [some (.ref r0), some (.ref r1), none], []) (sh, I, J) Q := by
  obtain rfl := e0.eq
  exact xG_N 2 (ps := [xRf sh r0 4 0]) (f1 := (11, [some (.ref r0), some (.ref r1), none], [.ref (xrf sh r0 0)])) (h1 := (sh, I, J)) rfl e0.rf (xG_Ci rfl rfl (Nat.le_of_ble_eq_true rfl) (Nat.le_of_ble_eq_true rfl) ⟨_, _, rfl, ko⟩ rfl k)
set_option maxRecDepth 100000 in
theorem s_CodeWriter_saySmall_14 {d : Nat} {Q : xO → xH → Prop} {sh : List xS} {I : Nat → Nat → Int32} {J : Nat → Nat → Int64} {r0 : Nat} {r1 : Nat} {t0 : Int32}
    (ko : xOb sh r1 1)
    (k : xg d qBits_put [.ref r1, .int (15 : Int32), .int (4 : Int32)] (sh, I, J) (xU (fun h1 => xG d zm_CodeWriter_saySmall (22, [some (.ref r0), some (.ref r1), none], []) h1 Q) (fun x h1 => Q (.inr x) h1))) :
    xG d zm_CodeWriter_saySmall (14, [some (.ref r0), some (.ref r1), none], [.int t0]) (sh, I, J) Q := by
  exact xG_N 4 (ps := []) (f1 := (19, [some (.ref r0), some (.ref r1), none], [.int (4 : Int32), .int (15 : Int32), .ref r1])) (h1 := (sh, I, J)) rfl trivial (xG_Cu rfl rfl (Nat.le_of_ble_eq_true rfl) (Nat.le_of_ble_eq_true rfl) ⟨_, _, rfl, ko⟩ rfl k)
set_option maxRecDepth 100000 in
theorem s_CodeWriter_saySmall_22 {d : Nat} {Q : xO → xH → Prop} {sh : List xS} {I : Nat → Nat → Int32} {J : Nat → Nat → Int64} {r0 : Nat} {r1 : Nat}
    (k : xG d zm_CodeWriter_saySmall (24, [some (.ref r0), some (.ref r1), some (.int (0 : Int32))], []) (sh, I, J) Q) :
    xG d zm_CodeWriter_saySmall (22, [some (.ref r0), some (.ref r1), none], []) (sh, I, J) Q := by
  exact xG_N 2 (ps := []) (f1 := (24, [some (.ref r0), some (.ref r1), some (.int (0 : Int32))], [])) (h1 := (sh, I, J)) rfl trivial (k)
set_option maxRecDepth 100000 in
theorem s_CodeWriter_saySmall_24 {d : Nat} {Q : xO → xH → Prop} {sh : List xS} {I : Nat → Nat → Int32} {J : Nat → Nat → Int64} {r0 : Nat} {r1 : Nat} {v2 : Int32}
    (k1 : (19 : Int32) ≤ v2 → xG d zm_CodeWriter_saySmall (54, [some (.ref r0), some (.ref r1), some (.int v2)], []) (sh, I, J) Q)
    (k2 : ¬ ((19 : Int32) ≤ v2) → xG d zm_CodeWriter_saySmall (30, [some (.ref r0), some (.ref r1), some (.int v2)], []) (sh, I, J) Q) :
    xG d zm_CodeWriter_saySmall (24, [some (.ref r0), some (.ref r1), some (.int v2)], []) (sh, I, J) Q := by
  exact xG_N 2 (ps := []) (f1 := (27, [some (.ref r0), some (.ref r1), some (.int v2)], [.int (19 : Int32), .int v2])) (h1 := (sh, I, J)) rfl trivial (xG_B rfl rfl k1 k2)
set_option maxRecDepth 100000 in
theorem s_CodeWriter_saySmall_30 {d : Nat} {Q : xO → xH → Prop} {sh : List xS} {I : Nat → Nat → Int32} {J : Nat → Nat → Int64} {r0 : Nat} {r1 : Nat} {v2 : Int32} {a1 : Nat} {a2 : Nat} {n3 : Nat} {n4 : Nat}
    (e0 : xRr sh r0 4 0 a1)
    (e1 : xRr sh a1 3 0 a2)
    (e2 : xAr sh 1 .int n3)
    (e3 : vp_in v2 n3)
    (e4 : xAr sh a2 .int n4)
    (e5 : vp_in (I 1 v2.toNatClampNeg) n4)
    (ko : xOb sh r1 1)
    (k : xg d qBits_put [.ref r1, .int (I a2 (I 1 v2.toNatClampNeg).toNatClampNeg), .int (3 : Int32)] (sh, I, J) (xU (fun h1 => xG d zm_CodeWriter_saySmall (48, [some (.ref r0), some (.ref r1), some (.int v2)], []) h1 Q) (fun x h1 => Q (.inr x) h1))) :
    xG d zm_CodeWriter_saySmall (30, [some (.ref r0), some (.ref r1), some (.int v2)], []) (sh, I, J) Q := by
  obtain rfl := e0.eq
  obtain rfl := e1.eq
  obtain rfl := e2.eq
  obtain rfl := e4.eq
  exact xG_N 9 (ps := [xRf sh r0 4 0, xRf sh (xrf sh r0 0) 3 0, xA sh 1 .int, vp_in v2 (xlen sh 1), xA sh (xrf sh (xrf sh r0 0) 0) .int, vp_in (I 1 v2.toNatClampNeg) (xlen sh (xrf sh (xrf sh r0 0) 0))]) (f1 := (45, [some (.ref r0), some (.ref r1), some (.int v2)], [.int (3 : Int32), .int (I (xrf sh (xrf sh r0 0) 0) (I 1 v2.toNatClampNeg).toNatClampNeg), .ref r1])) (h1 := (sh, I, J)) rfl ⟨e0.rf, e1.rf, e2.ar, e3, e4.ar, e5⟩ (xG_Cu rfl rfl (Nat.le_of_ble_eq_true rfl) (Nat.le_of_ble_eq_true rfl) ⟨_, _, rfl, ko⟩ rfl k)
set_option maxRecDepth 100000 in
theorem s_CodeWriter_saySmall_48 {d : Nat} {Q : xO → xH → Prop} {sh : List xS} {I : Nat → Nat → Int32} {J : Nat → Nat → Int64} {r0 : Nat} {r1 : Nat} {v2 : Int32}
    (k : xG d zm_CodeWriter_saySmall (24, [some (.ref r0), some (.ref r1), some (.int (v2 + (1 : Int32)))], []) (sh, I, J) Q) :
    xG d zm_CodeWriter_saySmall (48, [some (.ref r0), some (.ref r1), some (.int v2)], []) (sh, I, J) Q := by
  exact xG_N 2 (ps := []) (f1 := (24, [some (.ref r0), some (.ref r1), some (.int (v2 + (1 : Int32)))], [])) (h1 := (sh, I, J)) rfl trivial (k)
set_option maxRecDepth 100000 in
theorem s_CodeWriter_saySmall_54 {d : Nat} {Q : xO → xH → Prop} {sh : List xS} {I : Nat → Nat → Int32} {J : Nat → Nat → Int64} {r0 : Nat} {r1 : Nat} {v2 : Int32}
    (k : Q (.inl (none)) (sh, I, J)) :
    xG d zm_CodeWriter_saySmall (54, [some (.ref r0), some (.ref r1), some (.int v2)], []) (sh, I, J) Q := by
  exact xG_Q rfl rfl trivial k
set_option maxRecDepth 100000 in
theorem s_CodeWriter_sayLengths_0 {d : Nat} {Q : xO → xH → Prop} {sh : List xS} {I : Nat → Nat → Int32} {J : Nat → Nat → Int64} {r0 : Nat} {r1 : Nat}
    (k : xG d zm_CodeWriter_sayLengths (2, [some (.ref r0), some (.ref r1), some (.int (0 : Int32))], []) (sh, I, J) Q) :
    xG d zm_CodeWriter_sayLengths (0, [some (.ref r0), some (.ref r1), none], []) (sh, I, J) Q := by
  exact xG_N 2 (ps := []) (f1 := (2, [some (.ref r0), some (.ref r1), some (.int (0 : Int32))], [])) (h1 := (sh, I, J)) rfl trivial (k)
set_option maxRecDepth 100000 in
theorem s_CodeWriter_sayLengths_2 {d : Nat} {Q : xO → xH → Prop} {sh : List xS} {I : Nat → Nat → Int32} {J : Nat → Nat → Int64} {r0 : Nat} {r1 : Nat} {v2 : Int32}
    (e0 : xOb sh r0 4)
    (k1 : (I r0 3) ≤ v2 → xG d zm_CodeWriter_sayLengths (80, [some (.ref r0), some (.ref r1), some (.int v2)], []) (sh, I, J) Q)
    (k2 : ¬ ((I r0 3) ≤ v2) → xG d zm_CodeWriter_sayLengths (10, [some (.ref r0), some (.ref r1), some (.int v2)], []) (sh, I, J) Q) :
    xG d zm_CodeWriter_sayLengths (2, [some (.ref r0), some (.ref r1), some (.int v2)], []) (sh, I, J) Q := by
  exact xG_N 3 (ps := [xOb sh r0 4]) (f1 := (7, [some (.ref r0), some (.ref r1), some (.int v2)], [.int (I r0 3), .int v2])) (h1 := (sh, I, J)) rfl e0 (xG_B rfl rfl k1 k2)
set_option maxRecDepth 100000 in
theorem s_CodeWriter_sayLengths_10 {d : Nat} {Q : xO → xH → Prop} {sh : List xS} {I : Nat → Nat → Int32} {J : Nat → Nat → Int64} {r0 : Nat} {r1 : Nat} {v2 : Int32} {a1 : Nat} {a2 : Nat} {n3 : Nat}
    (e0 : xRr sh r0 4 0 a1)
    (e1 : xRr sh r0 4 1 a2)
    (e2 : xAr sh a2 .int n3)
    (e3 : vp_in v2 n3)
    (ko : xOb sh a1 3)
    (k : xg d qCode_say [.ref a1, .ref r1, .int (I a2 v2.toNatClampNeg)] (sh, I, J) (xU (fun h1 => xG d zm_CodeWriter_sayLengths (24, [some (.ref r0), some (.ref r1), some (.int v2)], []) h1 Q) (fun x h1 => Q (.inr x) h1))) :
    xG d zm_CodeWriter_sayLengths (10, [some (.ref r0), some (.ref r1), some (.int v2)], []) (sh, I, J) Q := by
  obtain rfl := e0.eq
  obtain rfl := e1.eq
  obtain rfl := e2.eq
  exact xG_N 7 (ps := [xRf sh r0 4 0, xRf sh r0 4 1, xA sh (xrf sh r0 1) .int, vp_in v2 (xlen sh (xrf sh r0 1))]) (f1 := (21, [some (.ref r0), some (.ref r1), some (.int v2)], [.int (I (xrf sh r0 1) v2.toNatClampNeg), .ref r1, .ref (xrf sh r0 0)])) (h1 := (sh, I, J)) rfl ⟨e0.rf, e1.rf, e2.ar, e3⟩ (xG_Cu rfl rfl (Nat.le_of_ble_eq_true rfl) (Nat.le_of_ble_eq_true rfl) ⟨_, _, rfl, ko⟩ rfl k)
set_option maxRecDepth 100000 in
theorem s_CodeWriter_sayLengths_24 {d : Nat} {Q : xO → xH → Prop} {sh : List xS} {I : Nat → Nat → Int32} {J : Nat → Nat → Int64} {r0 : Nat} {r1 : Nat} {v2 : Int32} {a1 : Nat} {n2 : Nat}
    (e0 : xRr sh r0 4 1 a1)
    (e1 : xAr sh a1 .int n2)
    (e2 : vp_in v2 n2)
    (k1 : ¬ (I a1 v2.toNatClampNeg) = (17 : Int32) → xG d zm_CodeWriter_sayLengths (48, [some (.ref r0), some (.ref r1), some (.int v2)], []) (sh, I, J) Q)
    (k2 : ¬ (¬ (I a1 v2.toNatClampNeg) = (17 : Int32)) → xG d zm_CodeWriter_sayLengths (35, [some (.ref r0), some (.ref r1), some (.int v2)], []) (sh, I, J) Q) :
    xG d zm_CodeWriter_sayLengths (24, [some (.ref r0), some (.ref r1), some (.int v2)], []) (sh, I, J) Q := by
  obtain rfl := e0.eq
  obtain rfl := e1.eq
  exact xG_N 5 (ps := [xRf sh r0 4 1, xA sh (xrf sh r0 1) .int, vp_in v2 (xlen sh (xrf sh r0 1))]) (f1 := (32, [some (.ref r0), some (.ref r1), some (.int v2)], [.int (17 : Int32), .int (I (xrf sh r0 1) v2.toNatClampNeg)])) (h1 := (sh, I, J)) rfl ⟨e0.rf, e1.ar, e2⟩ (xG_B rfl rfl k1 k2)
set_option maxRecDepth 100000 in
theorem s_CodeWriter_sayLengths_35 {d : Nat} {Q : xO → xH → Prop} {sh : List xS} {I : Nat → Nat → Int32} {J : Nat → Nat → Int64} {r0 : Nat} {r1 : Nat} {v2 : Int32} {a1 : Nat} {n2 : Nat}
    (e0 : xRr sh r0 4 2 a1)
    (e1 : xAr sh a1 .int n2)
    (e2 : vp_in v2 n2)
    (ko : xOb sh r1 1)
    (k : xg d qBits_put [.ref r1, .int ((I a1 v2.toNatClampNeg) - (3 : Int32)), .int (3 : Int32)] (sh, I, J) (xU (fun h1 => xG d zm_CodeWriter_sayLengths (48, [some (.ref r0), some (.ref r1), some (.int v2)], []) h1 Q) (fun x h1 => Q (.inr x) h1))) :
    xG d zm_CodeWriter_sayLengths (35, [some (.ref r0), some (.ref r1), some (.int v2)], []) (sh, I, J) Q := by
  obtain rfl := e0.eq
  obtain rfl := e1.eq
  exact xG_N 8 (ps := [xRf sh r0 4 2, xA sh (xrf sh r0 2) .int, vp_in v2 (xlen sh (xrf sh r0 2))]) (f1 := (45, [some (.ref r0), some (.ref r1), some (.int v2)], [.int (3 : Int32), .int ((I (xrf sh r0 2) v2.toNatClampNeg) - (3 : Int32)), .ref r1])) (h1 := (sh, I, J)) rfl ⟨e0.rf, e1.ar, e2⟩ (xG_Cu rfl rfl (Nat.le_of_ble_eq_true rfl) (Nat.le_of_ble_eq_true rfl) ⟨_, _, rfl, ko⟩ rfl k)
set_option maxRecDepth 100000 in
theorem s_CodeWriter_sayLengths_48 {d : Nat} {Q : xO → xH → Prop} {sh : List xS} {I : Nat → Nat → Int32} {J : Nat → Nat → Int64} {r0 : Nat} {r1 : Nat} {v2 : Int32} {a1 : Nat} {n2 : Nat}
    (e0 : xRr sh r0 4 1 a1)
    (e1 : xAr sh a1 .int n2)
    (e2 : vp_in v2 n2)
    (k1 : ¬ (I a1 v2.toNatClampNeg) = (18 : Int32) → xG d zm_CodeWriter_sayLengths (74, [some (.ref r0), some (.ref r1), some (.int v2)], []) (sh, I, J) Q)
    (k2 : ¬ (¬ (I a1 v2.toNatClampNeg) = (18 : Int32)) → xG d zm_CodeWriter_sayLengths (59, [some (.ref r0), some (.ref r1), some (.int v2)], []) (sh, I, J) Q) :
    xG d zm_CodeWriter_sayLengths (48, [some (.ref r0), some (.ref r1), some (.int v2)], []) (sh, I, J) Q := by
  obtain rfl := e0.eq
  obtain rfl := e1.eq
  exact xG_N 5 (ps := [xRf sh r0 4 1, xA sh (xrf sh r0 1) .int, vp_in v2 (xlen sh (xrf sh r0 1))]) (f1 := (56, [some (.ref r0), some (.ref r1), some (.int v2)], [.int (18 : Int32), .int (I (xrf sh r0 1) v2.toNatClampNeg)])) (h1 := (sh, I, J)) rfl ⟨e0.rf, e1.ar, e2⟩ (xG_B rfl rfl k1 k2)
set_option maxRecDepth 100000 in
theorem s_CodeWriter_sayLengths_59 {d : Nat} {Q : xO → xH → Prop} {sh : List xS} {I : Nat → Nat → Int32} {J : Nat → Nat → Int64} {r0 : Nat} {r1 : Nat} {v2 : Int32} {a1 : Nat} {n2 : Nat}
    (e0 : xRr sh r0 4 2 a1)
    (e1 : xAr sh a1 .int n2)
    (e2 : vp_in v2 n2)
    (ko : xOb sh r1 1)
    (k : xg d qBits_put [.ref r1, .int ((I a1 v2.toNatClampNeg) - (11 : Int32)), .int (7 : Int32)] (sh, I, J) (xU (fun h1 => xG d zm_CodeWriter_sayLengths (74, [some (.ref r0), some (.ref r1), some (.int v2)], []) h1 Q) (fun x h1 => Q (.inr x) h1))) :
    xG d zm_CodeWriter_sayLengths (59, [some (.ref r0), some (.ref r1), some (.int v2)], []) (sh, I, J) Q := by
  obtain rfl := e0.eq
  obtain rfl := e1.eq
  exact xG_N 8 (ps := [xRf sh r0 4 2, xA sh (xrf sh r0 2) .int, vp_in v2 (xlen sh (xrf sh r0 2))]) (f1 := (71, [some (.ref r0), some (.ref r1), some (.int v2)], [.int (7 : Int32), .int ((I (xrf sh r0 2) v2.toNatClampNeg) - (11 : Int32)), .ref r1])) (h1 := (sh, I, J)) rfl ⟨e0.rf, e1.ar, e2⟩ (xG_Cu rfl rfl (Nat.le_of_ble_eq_true rfl) (Nat.le_of_ble_eq_true rfl) ⟨_, _, rfl, ko⟩ rfl k)
set_option maxRecDepth 100000 in
theorem s_CodeWriter_sayLengths_74 {d : Nat} {Q : xO → xH → Prop} {sh : List xS} {I : Nat → Nat → Int32} {J : Nat → Nat → Int64} {r0 : Nat} {r1 : Nat} {v2 : Int32}
    (k : xG d zm_CodeWriter_sayLengths (2, [some (.ref r0), some (.ref r1), some (.int (v2 + (1 : Int32)))], []) (sh, I, J) Q) :
    xG d zm_CodeWriter_sayLengths (74, [some (.ref r0), some (.ref r1), some (.int v2)], []) (sh, I, J) Q := by
  exact xG_N 2 (ps := []) (f1 := (2, [some (.ref r0), some (.ref r1), some (.int (v2 + (1 : Int32)))], [])) (h1 := (sh, I, J)) rfl trivial (k)
set_option maxRecDepth 100000 in
theorem s_CodeWriter_sayLengths_80 {d : Nat} {Q : xO → xH → Prop} {sh : List xS} {I : Nat → Nat → Int32} {J : Nat → Nat → Int64} {r0 : Nat} {r1 : Nat} {v2 : Int32}
    (k : Q (.inl (none)) (sh, I, J)) :
    xG d zm_CodeWriter_sayLengths (80, [some (.ref r0), some (.ref r1), some (.int v2)], []) (sh, I, J) Q := by
  exact xG_Q rfl rfl trivial k
set_option maxRecDepth 100000 in
theorem s_Foretelling_putOn_0 {d : Nat} {Q : xO → xH → Prop} {sh : List xS} {I : Nat → Nat → Int32} {J : Nat → Nat → Int64} {r0 : Nat} {r1 : Nat}
    (k : xG d zm_Foretelling_putOn (2, [some (.ref r0), some (.ref r1), some (.int (0 : Int32)), none, none, none], []) (sh, I, J) Q) :
    xG d zm_Foretelling_putOn (0, [some (.ref r0), some (.ref r1), none, none, none, none], []) (sh, I, J) Q := by
  exact xG_N 2 (ps := []) (f1 := (2, [some (.ref r0), some (.ref r1), some (.int (0 : Int32)), none, none, none], [])) (h1 := (sh, I, J)) rfl trivial (k)
set_option maxRecDepth 100000 in
theorem s_Foretelling_putOn_2 {d : Nat} {Q : xO → xH → Prop} {sh : List xS} {I : Nat → Nat → Int32} {J : Nat → Nat → Int64} {r0 : Nat} {r1 : Nat} {v2 : Int32} {o3 : Option Value} {o4 : Option Value} {o5 : Option Value}
    (e0 : xOb sh r0 8)
    (k1 : (I r0 2) ≤ v2 → xG d zm_Foretelling_putOn (88, [some (.ref r0), some (.ref r1), some (.int v2), o3, o4, o5], []) (sh, I, J) Q)
    (k2 : ¬ ((I r0 2) ≤ v2) → xG d zm_Foretelling_putOn (10, [some (.ref r0), some (.ref r1), some (.int v2), o3, o4, o5], []) (sh, I, J) Q) :
    xG d zm_Foretelling_putOn (2, [some (.ref r0), some (.ref r1), some (.int v2), o3, o4, o5], []) (sh, I, J) Q := by
  exact xG_N 3 (ps := [xOb sh r0 8]) (f1 := (7, [some (.ref r0), some (.ref r1), some (.int v2), o3, o4, o5], [.int (I r0 2), .int v2])) (h1 := (sh, I, J)) rfl e0 (xG_B rfl rfl k1 k2)
set_option maxRecDepth 100000 in
theorem s_Foretelling_putOn_10 {d : Nat} {Q : xO → xH → Prop} {sh : List xS} {I : Nat → Nat → Int32} {J : Nat → Nat → Int64} {r0 : Nat} {r1 : Nat} {v2 : Int32} {o3 : Option Value} {o4 : Option Value} {o5 : Option Value}
    (k : xG d zm_Foretelling_putOn (12, [some (.ref r0), some (.ref r1), some (.int v2), some (.int (0 : Int32)), o4, o5], []) (sh, I, J) Q) :
    xG d zm_Foretelling_putOn (10, [some (.ref r0), some (.ref r1), some (.int v2), o3, o4, o5], []) (sh, I, J) Q := by
  exact xG_N 2 (ps := []) (f1 := (12, [some (.ref r0), some (.ref r1), some (.int v2), some (.int (0 : Int32)), o4, o5], [])) (h1 := (sh, I, J)) rfl trivial (k)
set_option maxRecDepth 100000 in
theorem s_Foretelling_putOn_12 {d : Nat} {Q : xO → xH → Prop} {sh : List xS} {I : Nat → Nat → Int32} {J : Nat → Nat → Int64} {r0 : Nat} {r1 : Nat} {v2 : Int32} {v3 : Int32} {o4 : Option Value} {o5 : Option Value}
    (e0 : xOb sh r0 8)
    (k1 : (I r0 1) ≤ v3 → xG d zm_Foretelling_putOn (82, [some (.ref r0), some (.ref r1), some (.int v2), some (.int v3), o4, o5], []) (sh, I, J) Q)
    (k2 : ¬ ((I r0 1) ≤ v3) → xG d zm_Foretelling_putOn (20, [some (.ref r0), some (.ref r1), some (.int v2), some (.int v3), o4, o5], []) (sh, I, J) Q) :
    xG d zm_Foretelling_putOn (12, [some (.ref r0), some (.ref r1), some (.int v2), some (.int v3), o4, o5], []) (sh, I, J) Q := by
  exact xG_N 3 (ps := [xOb sh r0 8]) (f1 := (17, [some (.ref r0), some (.ref r1), some (.int v2), some (.int v3), o4, o5], [.int (I r0 1), .int v3])) (h1 := (sh, I, J)) rfl e0 (xG_B rfl rfl k1 k2)
set_option maxRecDepth 100000 in
theorem s_Foretelling_putOn_20 {d : Nat} {Q : xO → xH → Prop} {sh : List xS} {I : Nat → Nat → Int32} {J : Nat → Nat → Int64} {r0 : Nat} {r1 : Nat} {v2 : Int32} {v3 : Int32} {o4 : Option Value} {o5 : Option Value} {a1 : Nat}
    (e0 : xRr sh r1 8 0 a1)
    (k : xg d qForetelling_blockOf [.int v3, .int v2, .ref r1] (sh, I, J) (xI (fun v h1 => xG d zm_Foretelling_putOn (30, [some (.ref r0), some (.ref r1), some (.int v2), some (.int v3), o4, o5], [.int v, .ref a1]) h1 Q) (fun x h1 => Q (.inr x) h1))) :
    xG d zm_Foretelling_putOn (20, [some (.ref r0), some (.ref r1), some (.int v2), some (.int v3), o4, o5], []) (sh, I, J) Q := by
  obtain rfl := e0.eq
  exact xG_N 5 (ps := [xRf sh r1 8 0]) (f1 := (27, [some (.ref r0), some (.ref r1), some (.int v2), some (.int v3), o4, o5], [.ref r1, .int v2, .int v3, .ref (xrf sh r1 0)])) (h1 := (sh, I, J)) rfl e0.rf (xG_Ci rfl rfl (Nat.le_of_ble_eq_true rfl) (Nat.le_of_ble_eq_true rfl) trivial rfl k)
set_option maxRecDepth 100000 in
theorem s_Foretelling_putOn_30 {d : Nat} {Q : xO → xH → Prop} {sh : List xS} {I : Nat → Nat → Int32} {J : Nat → Nat → Int64} {r0 : Nat} {r1 : Nat} {v2 : Int32} {v3 : Int32} {o4 : Option Value} {o5 : Option Value} {t0 : Nat} {t1 : Int32} {n1 : Nat}
    (e0 : xAr sh t0 .int n1)
    (e1 : vp_in t1 n1)
    (k : xg d qL_part [.int (I t0 t1.toNatClampNeg), .int (8 : Int32)] (sh, I, J) (xI (fun v h1 => xG d zm_Foretelling_putOn (36, [some (.ref r0), some (.ref r1), some (.int v2), some (.int v3), o4, o5], [.int v]) h1 Q) (fun x h1 => Q (.inr x) h1))) :
    xG d zm_Foretelling_putOn (30, [some (.ref r0), some (.ref r1), some (.int v2), some (.int v3), o4, o5], [.int t1, .ref t0]) (sh, I, J) Q := by
  obtain rfl := e0.eq
  exact xG_N 2 (ps := [xA sh t0 .int, vp_in t1 (xlen sh t0)]) (f1 := (33, [some (.ref r0), some (.ref r1), some (.int v2), some (.int v3), o4, o5], [.int (8 : Int32), .int (I t0 t1.toNatClampNeg)])) (h1 := (sh, I, J)) rfl ⟨e0.ar, e1⟩ (xG_Ci rfl rfl (Nat.le_of_ble_eq_true rfl) (Nat.le_of_ble_eq_true rfl) trivial rfl k)
set_option maxRecDepth 100000 in
theorem s_Foretelling_putOn_36 {d : Nat} {Q : xO → xH → Prop} {sh : List xS} {I : Nat → Nat → Int32} {J : Nat → Nat → Int64} {r0 : Nat} {r1 : Nat} {v2 : Int32} {v3 : Int32} {o4 : Option Value} {o5 : Option Value} {t0 : Int32} {a1 : Nat} {n2 : Nat}
    (e0 : xOb sh r0 8)
    (e1 : xRr sh r0 8 0 a1)
    (e2 : xAr sh a1 .int n2)
    (e3 : vp_in ((v2 * (I r0 1)) + v3) n2)
    (k : xg d qForetelling_foretold [.ref r0, .int v3, .int v2, .int (t0 - t0 / (16 : Int32) * (16 : Int32))] (sh, I, J) (xI (fun v h1 => xG d zm_Foretelling_putOn (72, [some (.ref r0), some (.ref r1), some (.int v2), some (.int v3), some (.int (t0 - t0 / (16 : Int32) * (16 : Int32))), some (.int ((v2 * (I r0 1)) + v3))], [.int v, .int (I a1 ((v2 * (I r0 1)) + v3).toNatClampNeg), .int ((v2 * (I r0 1)) + v3), .ref a1]) h1 Q) (fun x h1 => Q (.inr x) h1))) :
    xG d zm_Foretelling_putOn (36, [some (.ref r0), some (.ref r1), some (.int v2), some (.int v3), o4, o5], [.int t0]) (sh, I, J) Q := by
  obtain rfl := e1.eq
  obtain rfl := e2.eq
  exact xG_N 21 (ps := [¬ (16 : Int32) = 0, xOb sh r0 8, xRf sh r0 8 0, xRf sh r0 8 0, xA sh (xrf sh r0 0) .int, vp_in ((v2 * (I r0 1)) + v3) (xlen sh (xrf sh r0 0))]) (f1 := (69, [some (.ref r0), some (.ref r1), some (.int v2), some (.int v3), some (.int (t0 - t0 / (16 : Int32) * (16 : Int32))), some (.int ((v2 * (I r0 1)) + v3))], [.int (t0 - t0 / (16 : Int32) * (16 : Int32)), .int v2, .int v3, .ref r0, .int (I (xrf sh r0 0) ((v2 * (I r0 1)) + v3).toNatClampNeg), .int ((v2 * (I r0 1)) + v3), .ref (xrf sh r0 0)])) (h1 := (sh, I, J)) rfl ⟨(show ¬ (16 : Int32) = 0 by decide), e0, e1.rf, e1.rf, e2.ar, e3⟩ (xG_Ci rfl rfl (Nat.le_of_ble_eq_true rfl) (Nat.le_of_ble_eq_true rfl) trivial rfl k)
set_option maxRecDepth 100000 in
theorem s_Foretelling_putOn_72 {d : Nat} {Q : xO → xH → Prop} {sh : List xS} {I : Nat → Nat → Int32} {J : Nat → Nat → Int64} {r0 : Nat} {r1 : Nat} {v2 : Int32} {v3 : Int32} {v4 : Int32} {v5 : Int32} {t0 : Nat} {t1 : Int32} {t2 : Int32} {t3 : Int32}
    (k : xg d qL_sum [.int t2, .int t3] (sh, I, J) (xI (fun v h1 => xG d zm_Foretelling_putOn (75, [some (.ref r0), some (.ref r1), some (.int v2), some (.int v3), some (.int v4), some (.int v5)], [.int v, .int t1, .ref t0]) h1 Q) (fun x h1 => Q (.inr x) h1))) :
    xG d zm_Foretelling_putOn (72, [some (.ref r0), some (.ref r1), some (.int v2), some (.int v3), some (.int v4), some (.int v5)], [.int t3, .int t2, .int t1, .ref t0]) (sh, I, J) Q := by
  exact xG_Ci rfl rfl (Nat.le_of_ble_eq_true rfl) (Nat.le_of_ble_eq_true rfl) trivial rfl k
set_option maxRecDepth 100000 in
theorem s_Foretelling_putOn_75 {d : Nat} {Q : xO → xH → Prop} {sh : List xS} {I : Nat → Nat → Int32} {J : Nat → Nat → Int64} {r0 : Nat} {r1 : Nat} {v2 : Int32} {v3 : Int32} {v4 : Int32} {v5 : Int32} {t0 : Nat} {t1 : Int32} {t2 : Int32} {n1 : Nat}
    (e0 : xAr sh t0 .int n1)
    (e1 : 4 ≤ t0)
    (e2 : vp_in t1 n1)
    (k : xG d zm_Foretelling_putOn (12, [some (.ref r0), some (.ref r1), some (.int v2), some (.int (v3 + (1 : Int32))), some (.int v4), some (.int v5)], []) (sh, xup I t0 t1.toNatClampNeg t2, J) Q) :
    xG d zm_Foretelling_putOn (75, [some (.ref r0), some (.ref r1), some (.int v2), some (.int v3), some (.int v4), some (.int v5)], [.int t2, .int t1, .ref t0]) (sh, I, J) Q := by
  obtain rfl := e0.eq
  exact xG_N 3 (ps := [xW sh t0 .int, vp_in t1 (xlen sh t0)]) (f1 := (12, [some (.ref r0), some (.ref r1), some (.int v2), some (.int (v3 + (1 : Int32))), some (.int v4), some (.int v5)], [])) (h1 := (sh, xup I t0 t1.toNatClampNeg t2, J)) rfl ⟨⟨e0.ar, e1⟩, e2⟩ (k)
set_option maxRecDepth 100000 in
theorem s_Foretelling_putOn_82 {d : Nat} {Q : xO → xH → Prop} {sh : List xS} {I : Nat → Nat → Int32} {J : Nat → Nat → Int64} {r0 : Nat} {r1 : Nat} {v2 : Int32} {v3 : Int32} {o4 : Option Value} {o5 : Option Value}
    (k : xG d zm_Foretelling_putOn (2, [some (.ref r0), some (.ref r1), some (.int (v2 + (1 : Int32))), some (.int v3), o4, o5], []) (sh, I, J) Q) :
    xG d zm_Foretelling_putOn (82, [some (.ref r0), some (.ref r1), some (.int v2), some (.int v3), o4, o5], []) (sh, I, J) Q := by
  exact xG_N 2 (ps := []) (f1 := (2, [some (.ref r0), some (.ref r1), some (.int (v2 + (1 : Int32))), some (.int v3), o4, o5], [])) (h1 := (sh, I, J)) rfl trivial (k)
set_option maxRecDepth 100000 in
theorem s_Foretelling_putOn_88 {d : Nat} {Q : xO → xH → Prop} {sh : List xS} {I : Nat → Nat → Int32} {J : Nat → Nat → Int64} {r0 : Nat} {r1 : Nat} {v2 : Int32} {o3 : Option Value} {o4 : Option Value} {o5 : Option Value}
    (k : Q (.inl (none)) (sh, I, J)) :
    xG d zm_Foretelling_putOn (88, [some (.ref r0), some (.ref r1), some (.int v2), o3, o4, o5], []) (sh, I, J) Q := by
  exact xG_Q rfl rfl trivial k
set_option maxRecDepth 100000 in
theorem s_Foretelling_takeOff_0 {d : Nat} {Q : xO → xH → Prop} {sh : List xS} {I : Nat → Nat → Int32} {J : Nat → Nat → Int64} {r0 : Nat} {v1 : Int32}
    (e0 : xOb sh r0 8)
    (k : xG d zm_Foretelling_takeOff (7, [some (.ref r0), some (.int v1), some (.int ((I r0 2) - (1 : Int32))), none, none], []) (sh, I, J) Q) :
    xG d zm_Foretelling_takeOff (0, [some (.ref r0), some (.int v1), none, none, none], []) (sh, I, J) Q := by
  exact xG_N 5 (ps := [xOb sh r0 8]) (f1 := (7, [some (.ref r0), some (.int v1), some (.int ((I r0 2) - (1 : Int32))), none, none], [])) (h1 := (sh, I, J)) rfl e0 (k)
set_option maxRecDepth 100000 in
theorem s_Foretelling_takeOff_7 {d : Nat} {Q : xO → xH → Prop} {sh : List xS} {I : Nat → Nat → Int32} {J : Nat → Nat → Int64} {r0 : Nat} {v1 : Int32} {v2 : Int32} {o3 : Option Value} {o4 : Option Value}
    (k1 : v2 < 0 → xG d zm_Foretelling_takeOff (68, [some (.ref r0), some (.int v1), some (.int v2), o3, o4], []) (sh, I, J) Q)
    (k2 : ¬ (v2 < 0) → xG d zm_Foretelling_takeOff (11, [some (.ref r0), some (.int v1), some (.int v2), o3, o4], []) (sh, I, J) Q) :
    xG d zm_Foretelling_takeOff (7, [some (.ref r0), some (.int v1), some (.int v2), o3, o4], []) (sh, I, J) Q := by
  exact xG_N 1 (ps := []) (f1 := (8, [some (.ref r0), some (.int v1), some (.int v2), o3, o4], [.int v2])) (h1 := (sh, I, J)) rfl trivial (xG_B rfl rfl k1 k2)
set_option maxRecDepth 100000 in
theorem s_Foretelling_takeOff_11 {d : Nat} {Q : xO → xH → Prop} {sh : List xS} {I : Nat → Nat → Int32} {J : Nat → Nat → Int64} {r0 : Nat} {v1 : Int32} {v2 : Int32} {o3 : Option Value} {o4 : Option Value}
    (e0 : xOb sh r0 8)
    (k : xG d zm_Foretelling_takeOff (18, [some (.ref r0), some (.int v1), some (.int v2), some (.int ((I r0 1) - (1 : Int32))), o4], []) (sh, I, J) Q) :
    xG d zm_Foretelling_takeOff (11, [some (.ref r0), some (.int v1), some (.int v2), o3, o4], []) (sh, I, J) Q := by
  exact xG_N 5 (ps := [xOb sh r0 8]) (f1 := (18, [some (.ref r0), some (.int v1), some (.int v2), some (.int ((I r0 1) - (1 : Int32))), o4], [])) (h1 := (sh, I, J)) rfl e0 (k)
set_option maxRecDepth 100000 in
theorem s_Foretelling_takeOff_18 {d : Nat} {Q : xO → xH → Prop} {sh : List xS} {I : Nat → Nat → Int32} {J : Nat → Nat → Int64} {r0 : Nat} {v1 : Int32} {v2 : Int32} {v3 : Int32} {o4 : Option Value}
    (k1 : v3 < 0 → xG d zm_Foretelling_takeOff (62, [some (.ref r0), some (.int v1), some (.int v2), some (.int v3), o4], []) (sh, I, J) Q)
    (k2 : ¬ (v3 < 0) → xG d zm_Foretelling_takeOff (22, [some (.ref r0), some (.int v1), some (.int v2), some (.int v3), o4], []) (sh, I, J) Q) :
    xG d zm_Foretelling_takeOff (18, [some (.ref r0), some (.int v1), some (.int v2), some (.int v3), o4], []) (sh, I, J) Q := by
  exact xG_N 1 (ps := []) (f1 := (19, [some (.ref r0), some (.int v1), some (.int v2), some (.int v3), o4], [.int v3])) (h1 := (sh, I, J)) rfl trivial (xG_B rfl rfl k1 k2)
set_option maxRecDepth 100000 in
theorem s_Foretelling_takeOff_22 {d : Nat} {Q : xO → xH → Prop} {sh : List xS} {I : Nat → Nat → Int32} {J : Nat → Nat → Int64} {r0 : Nat} {v1 : Int32} {v2 : Int32} {v3 : Int32} {o4 : Option Value} {a1 : Nat} {n2 : Nat}
    (e0 : xOb sh r0 8)
    (e1 : xRr sh r0 8 0 a1)
    (e2 : xAr sh a1 .int n2)
    (e3 : vp_in ((v2 * (I r0 1)) + v3) n2)
    (k : xg d qForetelling_foretold [.ref r0, .int v3, .int v2, .int v1] (sh, I, J) (xI (fun v h1 => xG d zm_Foretelling_takeOff (52, [some (.ref r0), some (.int v1), some (.int v2), some (.int v3), some (.int ((v2 * (I r0 1)) + v3))], [.int v, .int (I a1 ((v2 * (I r0 1)) + v3).toNatClampNeg), .int ((v2 * (I r0 1)) + v3), .ref a1]) h1 Q) (fun x h1 => Q (.inr x) h1))) :
    xG d zm_Foretelling_takeOff (22, [some (.ref r0), some (.int v1), some (.int v2), some (.int v3), o4], []) (sh, I, J) Q := by
  obtain rfl := e1.eq
  obtain rfl := e2.eq
  exact xG_N 18 (ps := [xOb sh r0 8, xRf sh r0 8 0, xRf sh r0 8 0, xA sh (xrf sh r0 0) .int, vp_in ((v2 * (I r0 1)) + v3) (xlen sh (xrf sh r0 0))]) (f1 := (49, [some (.ref r0), some (.int v1), some (.int v2), some (.int v3), some (.int ((v2 * (I r0 1)) + v3))], [.int v1, .int v2, .int v3, .ref r0, .int (I (xrf sh r0 0) ((v2 * (I r0 1)) + v3).toNatClampNeg), .int ((v2 * (I r0 1)) + v3), .ref (xrf sh r0 0)])) (h1 := (sh, I, J)) rfl ⟨e0, e1.rf, e1.rf, e2.ar, e3⟩ (xG_Ci rfl rfl (Nat.le_of_ble_eq_true rfl) (Nat.le_of_ble_eq_true rfl) trivial rfl k)
set_option maxRecDepth 100000 in
theorem s_Foretelling_takeOff_52 {d : Nat} {Q : xO → xH → Prop} {sh : List xS} {I : Nat → Nat → Int32} {J : Nat → Nat → Int64} {r0 : Nat} {v1 : Int32} {v2 : Int32} {v3 : Int32} {v4 : Int32} {t0 : Nat} {t1 : Int32} {t2 : Int32} {t3 : Int32}
    (k : xg d qL_difference [.int t2, .int t3] (sh, I, J) (xI (fun v h1 => xG d zm_Foretelling_takeOff (55, [some (.ref r0), some (.int v1), some (.int v2), some (.int v3), some (.int v4)], [.int v, .int t1, .ref t0]) h1 Q) (fun x h1 => Q (.inr x) h1))) :
    xG d zm_Foretelling_takeOff (52, [some (.ref r0), some (.int v1), some (.int v2), some (.int v3), some (.int v4)], [.int t3, .int t2, .int t1, .ref t0]) (sh, I, J) Q := by
  exact xG_Ci rfl rfl (Nat.le_of_ble_eq_true rfl) (Nat.le_of_ble_eq_true rfl) trivial rfl k
set_option maxRecDepth 100000 in
theorem s_Foretelling_takeOff_55 {d : Nat} {Q : xO → xH → Prop} {sh : List xS} {I : Nat → Nat → Int32} {J : Nat → Nat → Int64} {r0 : Nat} {v1 : Int32} {v2 : Int32} {v3 : Int32} {v4 : Int32} {t0 : Nat} {t1 : Int32} {t2 : Int32} {n1 : Nat}
    (e0 : xAr sh t0 .int n1)
    (e1 : 4 ≤ t0)
    (e2 : vp_in t1 n1)
    (k : xG d zm_Foretelling_takeOff (18, [some (.ref r0), some (.int v1), some (.int v2), some (.int (v3 + (-1 : Int32))), some (.int v4)], []) (sh, xup I t0 t1.toNatClampNeg t2, J) Q) :
    xG d zm_Foretelling_takeOff (55, [some (.ref r0), some (.int v1), some (.int v2), some (.int v3), some (.int v4)], [.int t2, .int t1, .ref t0]) (sh, I, J) Q := by
  obtain rfl := e0.eq
  exact xG_N 3 (ps := [xW sh t0 .int, vp_in t1 (xlen sh t0)]) (f1 := (18, [some (.ref r0), some (.int v1), some (.int v2), some (.int (v3 + (-1 : Int32))), some (.int v4)], [])) (h1 := (sh, xup I t0 t1.toNatClampNeg t2, J)) rfl ⟨⟨e0.ar, e1⟩, e2⟩ (k)
set_option maxRecDepth 100000 in
theorem s_Foretelling_takeOff_62 {d : Nat} {Q : xO → xH → Prop} {sh : List xS} {I : Nat → Nat → Int32} {J : Nat → Nat → Int64} {r0 : Nat} {v1 : Int32} {v2 : Int32} {v3 : Int32} {o4 : Option Value}
    (k : xG d zm_Foretelling_takeOff (7, [some (.ref r0), some (.int v1), some (.int (v2 + (-1 : Int32))), some (.int v3), o4], []) (sh, I, J) Q) :
    xG d zm_Foretelling_takeOff (62, [some (.ref r0), some (.int v1), some (.int v2), some (.int v3), o4], []) (sh, I, J) Q := by
  exact xG_N 2 (ps := []) (f1 := (7, [some (.ref r0), some (.int v1), some (.int (v2 + (-1 : Int32))), some (.int v3), o4], [])) (h1 := (sh, I, J)) rfl trivial (k)
set_option maxRecDepth 100000 in
theorem s_Foretelling_takeOff_68 {d : Nat} {Q : xO → xH → Prop} {sh : List xS} {I : Nat → Nat → Int32} {J : Nat → Nat → Int64} {r0 : Nat} {v1 : Int32} {v2 : Int32} {o3 : Option Value} {o4 : Option Value}
    (k : Q (.inl (none)) (sh, I, J)) :
    xG d zm_Foretelling_takeOff (68, [some (.ref r0), some (.int v1), some (.int v2), o3, o4], []) (sh, I, J) Q := by
  exact xG_Q rfl rfl trivial k
set_option maxRecDepth 100000 in
theorem s_Foretelling_blockOf_0 {d : Nat} {Q : xO → xH → Prop} {sh : List xS} {I : Nat → Nat → Int32} {J : Nat → Nat → Int64} {v0 : Int32} {v1 : Int32} {r2 : Nat}
    (e0 : xOb sh r2 8)
    (k : Q (.inl (some (.int (((v1 / (4 : Int32)) * (I r2 1)) + (v0 / (4 : Int32)))))) (sh, I, J)) :
    xG d zm_Foretelling_blockOf (0, [some (.int v0), some (.int v1), some (.ref r2)], []) (sh, I, J) Q := by
  exact xG_N 10 (ps := [¬ (4 : Int32) = 0, xOb sh r2 8, ¬ (4 : Int32) = 0]) (f1 := (12, [some (.int v0), some (.int v1), some (.ref r2)], [.int (((v1 / (4 : Int32)) * (I r2 1)) + (v0 / (4 : Int32)))])) (h1 := (sh, I, J)) rfl ⟨(show ¬ (4 : Int32) = 0 by decide), e0, (show ¬ (4 : Int32) = 0 by decide)⟩ (xG_Q rfl rfl trivial k)
set_option maxRecDepth 100000 in
theorem s_Foretelling_foretold_0 {d : Nat} {Q : xO → xH → Prop} {sh : List xS} {I : Nat → Nat → Int32} {J : Nat → Nat → Int64} {r0 : Nat} {v1 : Int32} {v2 : Int32} {v3 : Int32}
    (e0 : xOb sh r0 8)
    (k1 : ¬ ((v2 * (I r0 1)) + v1) = 0 → xG d zm_Foretelling_foretold (18, [some (.ref r0), some (.int v1), some (.int v2), some (.int v3), some (.int ((v2 * (I r0 1)) + v1)), none], []) (sh, I, J) Q)
    (k2 : ¬ (¬ ((v2 * (I r0 1)) + v1) = 0) → xG d zm_Foretelling_foretold (15, [some (.ref r0), some (.int v1), some (.int v2), some (.int v3), some (.int ((v2 * (I r0 1)) + v1)), none], []) (sh, I, J) Q) :
    xG d zm_Foretelling_foretold (0, [some (.ref r0), some (.int v1), some (.int v2), some (.int v3), none, none], []) (sh, I, J) Q := by
  exact xG_N 8 (ps := [xOb sh r0 8]) (f1 := (12, [some (.ref r0), some (.int v1), some (.int v2), some (.int v3), some (.int ((v2 * (I r0 1)) + v1)), none], [.int ((v2 * (I r0 1)) + v1)])) (h1 := (sh, I, J)) rfl e0 (xG_B rfl rfl k1 k2)
set_option maxRecDepth 100000 in
theorem s_Foretelling_foretold_15 {d : Nat} {Q : xO → xH → Prop} {sh : List xS} {I : Nat → Nat → Int32} {J : Nat → Nat → Int64} {r0 : Nat} {v1 : Int32} {v2 : Int32} {v3 : Int32} {v4 : Int32}
    (k : Q (.inl (some (.int (-16777216 : Int32)))) (sh, I, J)) :
    xG d zm_Foretelling_foretold (15, [some (.ref r0), some (.int v1), some (.int v2), some (.int v3), some (.int v4), none], []) (sh, I, J) Q := by
  exact xG_N 1 (ps := []) (f1 := (17, [some (.ref r0), some (.int v1), some (.int v2), some (.int v3), some (.int v4), none], [.int (-16777216 : Int32)])) (h1 := (sh, I, J)) rfl trivial (xG_Q rfl rfl trivial k)
set_option maxRecDepth 100000 in
theorem s_Foretelling_foretold_18 {d : Nat} {Q : xO → xH → Prop} {sh : List xS} {I : Nat → Nat → Int32} {J : Nat → Nat → Int64} {r0 : Nat} {v1 : Int32} {v2 : Int32} {v3 : Int32} {v4 : Int32}
    (k1 : ¬ v2 = 0 → xG d zm_Foretelling_foretold (32, [some (.ref r0), some (.int v1), some (.int v2), some (.int v3), some (.int v4), none], []) (sh, I, J) Q)
    (k2 : ¬ (¬ v2 = 0) → xG d zm_Foretelling_foretold (22, [some (.ref r0), some (.int v1), some (.int v2), some (.int v3), some (.int v4), none], []) (sh, I, J) Q) :
    xG d zm_Foretelling_foretold (18, [some (.ref r0), some (.int v1), some (.int v2), some (.int v3), some (.int v4), none], []) (sh, I, J) Q := by
  exact xG_N 1 (ps := []) (f1 := (19, [some (.ref r0), some (.int v1), some (.int v2), some (.int v3), some (.int v4), none], [.int v2])) (h1 := (sh, I, J)) rfl trivial (xG_B rfl rfl k1 k2)
set_option maxRecDepth 100000 in
theorem s_Foretelling_foretold_22 {d : Nat} {Q : xO → xH → Prop} {sh : List xS} {I : Nat → Nat → Int32} {J : Nat → Nat → Int64} {r0 : Nat} {v1 : Int32} {v2 : Int32} {v3 : Int32} {v4 : Int32} {a1 : Nat} {n2 : Nat}
    (e0 : xRr sh r0 8 0 a1)
    (e1 : xAr sh a1 .int n2)
    (e2 : vp_in (v4 - (1 : Int32)) n2)
    (k : Q (.inl (some (.int (I a1 (v4 - (1 : Int32)).toNatClampNeg)))) (sh, I, J)) :
    xG d zm_Foretelling_foretold (22, [some (.ref r0), some (.int v1), some (.int v2), some (.int v3), some (.int v4), none], []) (sh, I, J) Q := by
  obtain rfl := e0.eq
  obtain rfl := e1.eq
  exact xG_N 6 (ps := [xRf sh r0 8 0, xA sh (xrf sh r0 0) .int, vp_in (v4 - (1 : Int32)) (xlen sh (xrf sh r0 0))]) (f1 := (31, [some (.ref r0), some (.int v1), some (.int v2), some (.int v3), some (.int v4), none], [.int (I (xrf sh r0 0) (v4 - (1 : Int32)).toNatClampNeg)])) (h1 := (sh, I, J)) rfl ⟨e0.rf, e1.ar, e2⟩ (xG_Q rfl rfl trivial k)
set_option maxRecDepth 100000 in
theorem s_Foretelling_foretold_32 {d : Nat} {Q : xO → xH → Prop} {sh : List xS} {I : Nat → Nat → Int32} {J : Nat → Nat → Int64} {r0 : Nat} {v1 : Int32} {v2 : Int32} {v3 : Int32} {v4 : Int32}
    (e0 : xOb sh r0 8)
    (k1 : ¬ v1 = 0 → xG d zm_Foretelling_foretold (53, [some (.ref r0), some (.int v1), some (.int v2), some (.int v3), some (.int v4), some (.int (v4 - (I r0 1)))], []) (sh, I, J) Q)
    (k2 : ¬ (¬ v1 = 0) → xG d zm_Foretelling_foretold (45, [some (.ref r0), some (.int v1), some (.int v2), some (.int v3), some (.int v4), some (.int (v4 - (I r0 1)))], []) (sh, I, J) Q) :
    xG d zm_Foretelling_foretold (32, [some (.ref r0), some (.int v1), some (.int v2), some (.int v3), some (.int v4), none], []) (sh, I, J) Q := by
  exact xG_N 6 (ps := [xOb sh r0 8]) (f1 := (42, [some (.ref r0), some (.int v1), some (.int v2), some (.int v3), some (.int v4), some (.int (v4 - (I r0 1)))], [.int v1])) (h1 := (sh, I, J)) rfl e0 (xG_B rfl rfl k1 k2)
set_option maxRecDepth 100000 in
theorem s_Foretelling_foretold_45 {d : Nat} {Q : xO → xH → Prop} {sh : List xS} {I : Nat → Nat → Int32} {J : Nat → Nat → Int64} {r0 : Nat} {v1 : Int32} {v2 : Int32} {v3 : Int32} {v4 : Int32} {v5 : Int32} {a1 : Nat} {n2 : Nat}
    (e0 : xRr sh r0 8 0 a1)
    (e1 : xAr sh a1 .int n2)
    (e2 : vp_in v5 n2)
    (k : Q (.inl (some (.int (I a1 v5.toNatClampNeg)))) (sh, I, J)) :
    xG d zm_Foretelling_foretold (45, [some (.ref r0), some (.int v1), some (.int v2), some (.int v3), some (.int v4), some (.int v5)], []) (sh, I, J) Q := by
  obtain rfl := e0.eq
  obtain rfl := e1.eq
  exact xG_N 4 (ps := [xRf sh r0 8 0, xA sh (xrf sh r0 0) .int, vp_in v5 (xlen sh (xrf sh r0 0))]) (f1 := (52, [some (.ref r0), some (.int v1), some (.int v2), some (.int v3), some (.int v4), some (.int v5)], [.int (I (xrf sh r0 0) v5.toNatClampNeg)])) (h1 := (sh, I, J)) rfl ⟨e0.rf, e1.ar, e2⟩ (xG_Q rfl rfl trivial k)
set_option maxRecDepth 100000 in
theorem s_Foretelling_foretold_53 {d : Nat} {Q : xO → xH → Prop} {sh : List xS} {I : Nat → Nat → Int32} {J : Nat → Nat → Int64} {r0 : Nat} {v1 : Int32} {v2 : Int32} {v3 : Int32} {v4 : Int32} {v5 : Int32} {a1 : Nat} {n2 : Nat}
    (e0 : xRr sh r0 8 0 a1)
    (e1 : xAr sh a1 .int n2)
    (e2 : vp_in (v4 - (1 : Int32)) n2)
    (e3 : vp_in v5 n2)
    (e4 : vp_in (v5 - (1 : Int32)) n2)
    (e5 : vp_in (v5 + (1 : Int32)) n2)
    (k : xg d qForetelling_byMode [.int v3, .int (I a1 (v4 - (1 : Int32)).toNatClampNeg), .int (I a1 v5.toNatClampNeg), .int (I a1 (v5 - (1 : Int32)).toNatClampNeg), .int (I a1 (v5 + (1 : Int32)).toNatClampNeg)] (sh, I, J) (xI (fun v h1 => xG d zm_Foretelling_foretold (91, [some (.ref r0), some (.int v1), some (.int v2), some (.int v3), some (.int v4), some (.int v5)], [.int v]) h1 Q) (fun x h1 => Q (.inr x) h1))) :
    xG d zm_Foretelling_foretold (53, [some (.ref r0), some (.int v1), some (.int v2), some (.int v3), some (.int v4), some (.int v5)], []) (sh, I, J) Q := by
  obtain rfl := e0.eq
  obtain rfl := e1.eq
  exact xG_N 23 (ps := [xRf sh r0 8 0, xA sh (xrf sh r0 0) .int, vp_in (v4 - (1 : Int32)) (xlen sh (xrf sh r0 0)), xRf sh r0 8 0, xA sh (xrf sh r0 0) .int, vp_in v5 (xlen sh (xrf sh r0 0)), xRf sh r0 8 0, xA sh (xrf sh r0 0) .int, vp_in (v5 - (1 : Int32)) (xlen sh (xrf sh r0 0)), xRf sh r0 8 0, xA sh (xrf sh r0 0) .int, vp_in (v5 + (1 : Int32)) (xlen sh (xrf sh r0 0))]) (f1 := (88, [some (.ref r0), some (.int v1), some (.int v2), some (.int v3), some (.int v4), some (.int v5)], [.int (I (xrf sh r0 0) (v5 + (1 : Int32)).toNatClampNeg), .int (I (xrf sh r0 0) (v5 - (1 : Int32)).toNatClampNeg), .int (I (xrf sh r0 0) v5.toNatClampNeg), .int (I (xrf sh r0 0) (v4 - (1 : Int32)).toNatClampNeg), .int v3])) (h1 := (sh, I, J)) rfl ⟨e0.rf, e1.ar, e2, e0.rf, e1.ar, e3, e0.rf, e1.ar, e4, e0.rf, e1.ar, e5⟩ (xG_Ci rfl rfl (Nat.le_of_ble_eq_true rfl) (Nat.le_of_ble_eq_true rfl) trivial rfl k)
set_option maxRecDepth 100000 in
theorem s_Foretelling_foretold_91 {d : Nat} {Q : xO → xH → Prop} {sh : List xS} {I : Nat → Nat → Int32} {J : Nat → Nat → Int64} {r0 : Nat} {v1 : Int32} {v2 : Int32} {v3 : Int32} {v4 : Int32} {v5 : Int32} {t0 : Int32}
    (k : Q (.inl (some (.int t0))) (sh, I, J)) :
    xG d zm_Foretelling_foretold (91, [some (.ref r0), some (.int v1), some (.int v2), some (.int v3), some (.int v4), some (.int v5)], [.int t0]) (sh, I, J) Q := by
  exact xG_Q rfl rfl trivial k
set_option maxRecDepth 100000 in
theorem s_Foretelling_byMode_0 {d : Nat} {Q : xO → xH → Prop} {sh : List xS} {I : Nat → Nat → Int32} {J : Nat → Nat → Int64} {v0 : Int32} {v1 : Int32} {v2 : Int32} {v3 : Int32} {v4 : Int32}
    (k0 : v0 = (1 : Int32) → xG d zm_Foretelling_byMode (68, [some (.int v0), some (.int v1), some (.int v2), some (.int v3), some (.int v4)], []) (sh, I, J) Q)
    (k1 : v0 = (2 : Int32) → xG d zm_Foretelling_byMode (70, [some (.int v0), some (.int v1), some (.int v2), some (.int v3), some (.int v4)], []) (sh, I, J) Q)
    (k2 : v0 = (3 : Int32) → xG d zm_Foretelling_byMode (72, [some (.int v0), some (.int v1), some (.int v2), some (.int v3), some (.int v4)], []) (sh, I, J) Q)
    (k3 : v0 = (4 : Int32) → xG d zm_Foretelling_byMode (75, [some (.int v0), some (.int v1), some (.int v2), some (.int v3), some (.int v4)], []) (sh, I, J) Q)
    (k4 : v0 = (5 : Int32) → xG d zm_Foretelling_byMode (77, [some (.int v0), some (.int v1), some (.int v2), some (.int v3), some (.int v4)], []) (sh, I, J) Q)
    (k5 : v0 = (6 : Int32) → xG d zm_Foretelling_byMode (88, [some (.int v0), some (.int v1), some (.int v2), some (.int v3), some (.int v4)], []) (sh, I, J) Q)
    (k6 : v0 = (7 : Int32) → xG d zm_Foretelling_byMode (94, [some (.int v0), some (.int v1), some (.int v2), some (.int v3), some (.int v4)], []) (sh, I, J) Q)
    (k7 : v0 = (8 : Int32) → xG d zm_Foretelling_byMode (100, [some (.int v0), some (.int v1), some (.int v2), some (.int v3), some (.int v4)], []) (sh, I, J) Q)
    (k8 : v0 = (9 : Int32) → xG d zm_Foretelling_byMode (106, [some (.int v0), some (.int v1), some (.int v2), some (.int v3), some (.int v4)], []) (sh, I, J) Q)
    (k9 : v0 = (10 : Int32) → xG d zm_Foretelling_byMode (113, [some (.int v0), some (.int v1), some (.int v2), some (.int v3), some (.int v4)], []) (sh, I, J) Q)
    (k10 : v0 = (11 : Int32) → xG d zm_Foretelling_byMode (128, [some (.int v0), some (.int v1), some (.int v2), some (.int v3), some (.int v4)], []) (sh, I, J) Q)
    (k11 : v0 = (12 : Int32) → xG d zm_Foretelling_byMode (135, [some (.int v0), some (.int v1), some (.int v2), some (.int v3), some (.int v4)], []) (sh, I, J) Q)
    (k12 : v0 = (13 : Int32) → xG d zm_Foretelling_byMode (142, [some (.int v0), some (.int v1), some (.int v2), some (.int v3), some (.int v4)], []) (sh, I, J) Q)
    (kd : (v0.toInt < 1 ∨ 13 < v0.toInt) → xG d zm_Foretelling_byMode (152, [some (.int v0), some (.int v1), some (.int v2), some (.int v3), some (.int v4)], []) (sh, I, J) Q) :
    xG d zm_Foretelling_byMode (0, [some (.int v0), some (.int v1), some (.int v2), some (.int v3), some (.int v4)], []) (sh, I, J) Q := by
  have key : ∀ x : Int32, (x = (1 : Int32) → xG d zm_Foretelling_byMode (68, [some (.int v0), some (.int v1), some (.int v2), some (.int v3), some (.int v4)], []) (sh, I, J) Q) → (x = (2 : Int32) → xG d zm_Foretelling_byMode (70, [some (.int v0), some (.int v1), some (.int v2), some (.int v3), some (.int v4)], []) (sh, I, J) Q) → (x = (3 : Int32) → xG d zm_Foretelling_byMode (72, [some (.int v0), some (.int v1), some (.int v2), some (.int v3), some (.int v4)], []) (sh, I, J) Q) → (x = (4 : Int32) → xG d zm_Foretelling_byMode (75, [some (.int v0), some (.int v1), some (.int v2), some (.int v3), some (.int v4)], []) (sh, I, J) Q) → (x = (5 : Int32) → xG d zm_Foretelling_byMode (77, [some (.int v0), some (.int v1), some (.int v2), some (.int v3), some (.int v4)], []) (sh, I, J) Q) → (x = (6 : Int32) → xG d zm_Foretelling_byMode (88, [some (.int v0), some (.int v1), some (.int v2), some (.int v3), some (.int v4)], []) (sh, I, J) Q) → (x = (7 : Int32) → xG d zm_Foretelling_byMode (94, [some (.int v0), some (.int v1), some (.int v2), some (.int v3), some (.int v4)], []) (sh, I, J) Q) → (x = (8 : Int32) → xG d zm_Foretelling_byMode (100, [some (.int v0), some (.int v1), some (.int v2), some (.int v3), some (.int v4)], []) (sh, I, J) Q) → (x = (9 : Int32) → xG d zm_Foretelling_byMode (106, [some (.int v0), some (.int v1), some (.int v2), some (.int v3), some (.int v4)], []) (sh, I, J) Q) → (x = (10 : Int32) → xG d zm_Foretelling_byMode (113, [some (.int v0), some (.int v1), some (.int v2), some (.int v3), some (.int v4)], []) (sh, I, J) Q) → (x = (11 : Int32) → xG d zm_Foretelling_byMode (128, [some (.int v0), some (.int v1), some (.int v2), some (.int v3), some (.int v4)], []) (sh, I, J) Q) → (x = (12 : Int32) → xG d zm_Foretelling_byMode (135, [some (.int v0), some (.int v1), some (.int v2), some (.int v3), some (.int v4)], []) (sh, I, J) Q) → (x = (13 : Int32) → xG d zm_Foretelling_byMode (142, [some (.int v0), some (.int v1), some (.int v2), some (.int v3), some (.int v4)], []) (sh, I, J) Q) → ((x.toInt < 1 ∨ 13 < x.toInt) → xG d zm_Foretelling_byMode (152, [some (.int v0), some (.int v1), some (.int v2), some (.int v3), some (.int v4)], []) (sh, I, J) Q) → xG d zm_Foretelling_byMode (1, [some (.int v0), some (.int v1), some (.int v2), some (.int v3), some (.int v4)], [.int x]) (sh, I, J) Q := by
    intro x k0 k1 k2 k3 k4 k5 k6 k7 k8 k9 k10 k11 k12 kd
    by_cases hx : x.toInt < 1 ∨ 13 < x.toInt
    · exact xG_S (t := 152) rfl (Or.elim hx Or.inl (fun h => Or.inr (Or.inl h))) (by unfold xsw; rw [if_pos hx]; rfl) (kd hx)
    · have hc : x.toInt = 1 ∨ x.toInt = 2 ∨ x.toInt = 3 ∨ x.toInt = 4 ∨ x.toInt = 5 ∨ x.toInt = 6 ∨ x.toInt = 7 ∨ x.toInt = 8 ∨ x.toInt = 9 ∨ x.toInt = 10 ∨ x.toInt = 11 ∨ x.toInt = 12 ∨ x.toInt = 13 := by omega
      rcases hc with hc | hc | hc | hc | hc | hc | hc | hc | hc | hc | hc | hc | hc
      · obtain rfl : x = (1 : Int32) := Int32.toInt_inj.mp (by rw [hc]; rfl)
        exact xG_S (t := 68) rfl (by decide) (by decide) (k0 rfl)
      · obtain rfl : x = (2 : Int32) := Int32.toInt_inj.mp (by rw [hc]; rfl)
        exact xG_S (t := 70) rfl (by decide) (by decide) (k1 rfl)
      · obtain rfl : x = (3 : Int32) := Int32.toInt_inj.mp (by rw [hc]; rfl)
        exact xG_S (t := 72) rfl (by decide) (by decide) (k2 rfl)
      · obtain rfl : x = (4 : Int32) := Int32.toInt_inj.mp (by rw [hc]; rfl)
        exact xG_S (t := 75) rfl (by decide) (by decide) (k3 rfl)
      · obtain rfl : x = (5 : Int32) := Int32.toInt_inj.mp (by rw [hc]; rfl)
        exact xG_S (t := 77) rfl (by decide) (by decide) (k4 rfl)
      · obtain rfl : x = (6 : Int32) := Int32.toInt_inj.mp (by rw [hc]; rfl)
        exact xG_S (t := 88) rfl (by decide) (by decide) (k5 rfl)
      · obtain rfl : x = (7 : Int32) := Int32.toInt_inj.mp (by rw [hc]; rfl)
        exact xG_S (t := 94) rfl (by decide) (by decide) (k6 rfl)
      · obtain rfl : x = (8 : Int32) := Int32.toInt_inj.mp (by rw [hc]; rfl)
        exact xG_S (t := 100) rfl (by decide) (by decide) (k7 rfl)
      · obtain rfl : x = (9 : Int32) := Int32.toInt_inj.mp (by rw [hc]; rfl)
        exact xG_S (t := 106) rfl (by decide) (by decide) (k8 rfl)
      · obtain rfl : x = (10 : Int32) := Int32.toInt_inj.mp (by rw [hc]; rfl)
        exact xG_S (t := 113) rfl (by decide) (by decide) (k9 rfl)
      · obtain rfl : x = (11 : Int32) := Int32.toInt_inj.mp (by rw [hc]; rfl)
        exact xG_S (t := 128) rfl (by decide) (by decide) (k10 rfl)
      · obtain rfl : x = (12 : Int32) := Int32.toInt_inj.mp (by rw [hc]; rfl)
        exact xG_S (t := 135) rfl (by decide) (by decide) (k11 rfl)
      · obtain rfl : x = (13 : Int32) := Int32.toInt_inj.mp (by rw [hc]; rfl)
        exact xG_S (t := 142) rfl (by decide) (by decide) (k12 rfl)
  exact xG_N 1 (ps := []) (f1 := (1, [some (.int v0), some (.int v1), some (.int v2), some (.int v3), some (.int v4)], [.int v0])) (h1 := (sh, I, J)) rfl trivial (key _ k0 k1 k2 k3 k4 k5 k6 k7 k8 k9 k10 k11 k12 kd)
set_option maxRecDepth 100000 in
theorem s_Foretelling_byMode_68 {d : Nat} {Q : xO → xH → Prop} {sh : List xS} {I : Nat → Nat → Int32} {J : Nat → Nat → Int64} {v0 : Int32} {v1 : Int32} {v2 : Int32} {v3 : Int32} {v4 : Int32}
    (k : Q (.inl (some (.int v1))) (sh, I, J)) :
    xG d zm_Foretelling_byMode (68, [some (.int v0), some (.int v1), some (.int v2), some (.int v3), some (.int v4)], []) (sh, I, J) Q := by
  exact xG_N 1 (ps := []) (f1 := (69, [some (.int v0), some (.int v1), some (.int v2), some (.int v3), some (.int v4)], [.int v1])) (h1 := (sh, I, J)) rfl trivial (xG_Q rfl rfl trivial k)
set_option maxRecDepth 100000 in
theorem s_Foretelling_byMode_70 {d : Nat} {Q : xO → xH → Prop} {sh : List xS} {I : Nat → Nat → Int32} {J : Nat → Nat → Int64} {v0 : Int32} {v1 : Int32} {v2 : Int32} {v3 : Int32} {v4 : Int32}
    (k : Q (.inl (some (.int v2))) (sh, I, J)) :
    xG d zm_Foretelling_byMode (70, [some (.int v0), some (.int v1), some (.int v2), some (.int v3), some (.int v4)], []) (sh, I, J) Q := by
  exact xG_N 1 (ps := []) (f1 := (71, [some (.int v0), some (.int v1), some (.int v2), some (.int v3), some (.int v4)], [.int v2])) (h1 := (sh, I, J)) rfl trivial (xG_Q rfl rfl trivial k)
set_option maxRecDepth 100000 in
theorem s_Foretelling_byMode_72 {d : Nat} {Q : xO → xH → Prop} {sh : List xS} {I : Nat → Nat → Int32} {J : Nat → Nat → Int64} {v0 : Int32} {v1 : Int32} {v2 : Int32} {v3 : Int32} {v4 : Int32}
    (k : Q (.inl (some (.int v4))) (sh, I, J)) :
    xG d zm_Foretelling_byMode (72, [some (.int v0), some (.int v1), some (.int v2), some (.int v3), some (.int v4)], []) (sh, I, J) Q := by
  exact xG_N 1 (ps := []) (f1 := (74, [some (.int v0), some (.int v1), some (.int v2), some (.int v3), some (.int v4)], [.int v4])) (h1 := (sh, I, J)) rfl trivial (xG_Q rfl rfl trivial k)
set_option maxRecDepth 100000 in
theorem s_Foretelling_byMode_75 {d : Nat} {Q : xO → xH → Prop} {sh : List xS} {I : Nat → Nat → Int32} {J : Nat → Nat → Int64} {v0 : Int32} {v1 : Int32} {v2 : Int32} {v3 : Int32} {v4 : Int32}
    (k : Q (.inl (some (.int v3))) (sh, I, J)) :
    xG d zm_Foretelling_byMode (75, [some (.int v0), some (.int v1), some (.int v2), some (.int v3), some (.int v4)], []) (sh, I, J) Q := by
  exact xG_N 1 (ps := []) (f1 := (76, [some (.int v0), some (.int v1), some (.int v2), some (.int v3), some (.int v4)], [.int v3])) (h1 := (sh, I, J)) rfl trivial (xG_Q rfl rfl trivial k)
set_option maxRecDepth 100000 in
theorem s_Foretelling_byMode_77 {d : Nat} {Q : xO → xH → Prop} {sh : List xS} {I : Nat → Nat → Int32} {J : Nat → Nat → Int64} {v0 : Int32} {v1 : Int32} {v2 : Int32} {v3 : Int32} {v4 : Int32}
    (k : xg d qL_average [.int v1, .int v4] (sh, I, J) (xI (fun v h1 => xG d zm_Foretelling_byMode (83, [some (.int v0), some (.int v1), some (.int v2), some (.int v3), some (.int v4)], [.int v]) h1 Q) (fun x h1 => Q (.inr x) h1))) :
    xG d zm_Foretelling_byMode (77, [some (.int v0), some (.int v1), some (.int v2), some (.int v3), some (.int v4)], []) (sh, I, J) Q := by
  exact xG_N 2 (ps := []) (f1 := (80, [some (.int v0), some (.int v1), some (.int v2), some (.int v3), some (.int v4)], [.int v4, .int v1])) (h1 := (sh, I, J)) rfl trivial (xG_Ci rfl rfl (Nat.le_of_ble_eq_true rfl) (Nat.le_of_ble_eq_true rfl) trivial rfl k)
set_option maxRecDepth 100000 in
theorem s_Foretelling_byMode_83 {d : Nat} {Q : xO → xH → Prop} {sh : List xS} {I : Nat → Nat → Int32} {J : Nat → Nat → Int64} {v0 : Int32} {v1 : Int32} {v2 : Int32} {v3 : Int32} {v4 : Int32} {t0 : Int32}
    (k : xg d qL_average [.int t0, .int v2] (sh, I, J) (xI (fun v h1 => xG d zm_Foretelling_byMode (87, [some (.int v0), some (.int v1), some (.int v2), some (.int v3), some (.int v4)], [.int v]) h1 Q) (fun x h1 => Q (.inr x) h1))) :
    xG d zm_Foretelling_byMode (83, [some (.int v0), some (.int v1), some (.int v2), some (.int v3), some (.int v4)], [.int t0]) (sh, I, J) Q := by
  exact xG_N 1 (ps := []) (f1 := (84, [some (.int v0), some (.int v1), some (.int v2), some (.int v3), some (.int v4)], [.int v2, .int t0])) (h1 := (sh, I, J)) rfl trivial (xG_Ci rfl rfl (Nat.le_of_ble_eq_true rfl) (Nat.le_of_ble_eq_true rfl) trivial rfl k)
set_option maxRecDepth 100000 in
theorem s_Foretelling_byMode_87 {d : Nat} {Q : xO → xH → Prop} {sh : List xS} {I : Nat → Nat → Int32} {J : Nat → Nat → Int64} {v0 : Int32} {v1 : Int32} {v2 : Int32} {v3 : Int32} {v4 : Int32} {t0 : Int32}
    (k : Q (.inl (some (.int t0))) (sh, I, J)) :
    xG d zm_Foretelling_byMode (87, [some (.int v0), some (.int v1), some (.int v2), some (.int v3), some (.int v4)], [.int t0]) (sh, I, J) Q := by
  exact xG_Q rfl rfl trivial k
set_option maxRecDepth 100000 in
theorem s_Foretelling_byMode_88 {d : Nat} {Q : xO → xH → Prop} {sh : List xS} {I : Nat → Nat → Int32} {J : Nat → Nat → Int64} {v0 : Int32} {v1 : Int32} {v2 : Int32} {v3 : Int32} {v4 : Int32}
    (k : xg d qL_average [.int v1, .int v3] (sh, I, J) (xI (fun v h1 => xG d zm_Foretelling_byMode (93, [some (.int v0), some (.int v1), some (.int v2), some (.int v3), some (.int v4)], [.int v]) h1 Q) (fun x h1 => Q (.inr x) h1))) :
    xG d zm_Foretelling_byMode (88, [some (.int v0), some (.int v1), some (.int v2), some (.int v3), some (.int v4)], []) (sh, I, J) Q := by
  exact xG_N 2 (ps := []) (f1 := (90, [some (.int v0), some (.int v1), some (.int v2), some (.int v3), some (.int v4)], [.int v3, .int v1])) (h1 := (sh, I, J)) rfl trivial (xG_Ci rfl rfl (Nat.le_of_ble_eq_true rfl) (Nat.le_of_ble_eq_true rfl) trivial rfl k)
set_option maxRecDepth 100000 in
theorem s_Foretelling_byMode_93 {d : Nat} {Q : xO → xH → Prop} {sh : List xS} {I : Nat → Nat → Int32} {J : Nat → Nat → Int64} {v0 : Int32} {v1 : Int32} {v2 : Int32} {v3 : Int32} {v4 : Int32} {t0 : Int32}
    (k : Q (.inl (some (.int t0))) (sh, I, J)) :
    xG d zm_Foretelling_byMode (93, [some (.int v0), some (.int v1), some (.int v2), some (.int v3), some (.int v4)], [.int t0]) (sh, I, J) Q := by
  exact xG_Q rfl rfl trivial k
set_option maxRecDepth 100000 in
theorem s_Foretelling_byMode_94 {d : Nat} {Q : xO → xH → Prop} {sh : List xS} {I : Nat → Nat → Int32} {J : Nat → Nat → Int64} {v0 : Int32} {v1 : Int32} {v2 : Int32} {v3 : Int32} {v4 : Int32}
    (k : xg d qL_average [.int v1, .int v2] (sh, I, J) (xI (fun v h1 => xG d zm_Foretelling_byMode (99, [some (.int v0), some (.int v1), some (.int v2), some (.int v3), some (.int v4)], [.int v]) h1 Q) (fun x h1 => Q (.inr x) h1))) :
    xG d zm_Foretelling_byMode (94, [some (.int v0), some (.int v1), some (.int v2), some (.int v3), some (.int v4)], []) (sh, I, J) Q := by
  exact xG_N 2 (ps := []) (f1 := (96, [some (.int v0), some (.int v1), some (.int v2), some (.int v3), some (.int v4)], [.int v2, .int v1])) (h1 := (sh, I, J)) rfl trivial (xG_Ci rfl rfl (Nat.le_of_ble_eq_true rfl) (Nat.le_of_ble_eq_true rfl) trivial rfl k)
set_option maxRecDepth 100000 in
theorem s_Foretelling_byMode_99 {d : Nat} {Q : xO → xH → Prop} {sh : List xS} {I : Nat → Nat → Int32} {J : Nat → Nat → Int64} {v0 : Int32} {v1 : Int32} {v2 : Int32} {v3 : Int32} {v4 : Int32} {t0 : Int32}
    (k : Q (.inl (some (.int t0))) (sh, I, J)) :
    xG d zm_Foretelling_byMode (99, [some (.int v0), some (.int v1), some (.int v2), some (.int v3), some (.int v4)], [.int t0]) (sh, I, J) Q := by
  exact xG_Q rfl rfl trivial k
set_option maxRecDepth 100000 in
theorem s_Foretelling_byMode_100 {d : Nat} {Q : xO → xH → Prop} {sh : List xS} {I : Nat → Nat → Int32} {J : Nat → Nat → Int64} {v0 : Int32} {v1 : Int32} {v2 : Int32} {v3 : Int32} {v4 : Int32}
    (k : xg d qL_average [.int v3, .int v2] (sh, I, J) (xI (fun v h1 => xG d zm_Foretelling_byMode (105, [some (.int v0), some (.int v1), some (.int v2), some (.int v3), some (.int v4)], [.int v]) h1 Q) (fun x h1 => Q (.inr x) h1))) :
    xG d zm_Foretelling_byMode (100, [some (.int v0), some (.int v1), some (.int v2), some (.int v3), some (.int v4)], []) (sh, I, J) Q := by
  exact xG_N 2 (ps := []) (f1 := (102, [some (.int v0), some (.int v1), some (.int v2), some (.int v3), some (.int v4)], [.int v2, .int v3])) (h1 := (sh, I, J)) rfl trivial (xG_Ci rfl rfl (Nat.le_of_ble_eq_true rfl) (Nat.le_of_ble_eq_true rfl) trivial rfl k)
set_option maxRecDepth 100000 in
theorem s_Foretelling_byMode_105 {d : Nat} {Q : xO → xH → Prop} {sh : List xS} {I : Nat → Nat → Int32} {J : Nat → Nat → Int64} {v0 : Int32} {v1 : Int32} {v2 : Int32} {v3 : Int32} {v4 : Int32} {t0 : Int32}
    (k : Q (.inl (some (.int t0))) (sh, I, J)) :
    xG d zm_Foretelling_byMode (105, [some (.int v0), some (.int v1), some (.int v2), some (.int v3), some (.int v4)], [.int t0]) (sh, I, J) Q := by
  exact xG_Q rfl rfl trivial k
set_option maxRecDepth 100000 in
theorem s_Foretelling_byMode_106 {d : Nat} {Q : xO → xH → Prop} {sh : List xS} {I : Nat → Nat → Int32} {J : Nat → Nat → Int64} {v0 : Int32} {v1 : Int32} {v2 : Int32} {v3 : Int32} {v4 : Int32}
    (k : xg d qL_average [.int v2, .int v4] (sh, I, J) (xI (fun v h1 => xG d zm_Foretelling_byMode (112, [some (.int v0), some (.int v1), some (.int v2), some (.int v3), some (.int v4)], [.int v]) h1 Q) (fun x h1 => Q (.inr x) h1))) :
    xG d zm_Foretelling_byMode (106, [some (.int v0), some (.int v1), some (.int v2), some (.int v3), some (.int v4)], []) (sh, I, J) Q := by
  exact xG_N 2 (ps := []) (f1 := (109, [some (.int v0), some (.int v1), some (.int v2), some (.int v3), some (.int v4)], [.int v4, .int v2])) (h1 := (sh, I, J)) rfl trivial (xG_Ci rfl rfl (Nat.le_of_ble_eq_true rfl) (Nat.le_of_ble_eq_true rfl) trivial rfl k)
set_option maxRecDepth 100000 in
theorem s_Foretelling_byMode_112 {d : Nat} {Q : xO → xH → Prop} {sh : List xS} {I : Nat → Nat → Int32} {J : Nat → Nat → Int64} {v0 : Int32} {v1 : Int32} {v2 : Int32} {v3 : Int32} {v4 : Int32} {t0 : Int32}
    (k : Q (.inl (some (.int t0))) (sh, I, J)) :
    xG d zm_Foretelling_byMode (112, [some (.int v0), some (.int v1), some (.int v2), some (.int v3), some (.int v4)], [.int t0]) (sh, I, J) Q := by
  exact xG_Q rfl rfl trivial k
set_option maxRecDepth 100000 in
theorem s_Foretelling_byMode_113 {d : Nat} {Q : xO → xH → Prop} {sh : List xS} {I : Nat → Nat → Int32} {J : Nat → Nat → Int64} {v0 : Int32} {v1 : Int32} {v2 : Int32} {v3 : Int32} {v4 : Int32}
    (k : xg d qL_average [.int v1, .int v3] (sh, I, J) (xI (fun v h1 => xG d zm_Foretelling_byMode (118, [some (.int v0), some (.int v1), some (.int v2), some (.int v3), some (.int v4)], [.int v]) h1 Q) (fun x h1 => Q (.inr x) h1))) :
    xG d zm_Foretelling_byMode (113, [some (.int v0), some (.int v1), some (.int v2), some (.int v3), some (.int v4)], []) (sh, I, J) Q := by
  exact xG_N 2 (ps := []) (f1 := (115, [some (.int v0), some (.int v1), some (.int v2), some (.int v3), some (.int v4)], [.int v3, .int v1])) (h1 := (sh, I, J)) rfl trivial (xG_Ci rfl rfl (Nat.le_of_ble_eq_true rfl) (Nat.le_of_ble_eq_true rfl) trivial rfl k)
set_option maxRecDepth 100000 in
theorem s_Foretelling_byMode_118 {d : Nat} {Q : xO → xH → Prop} {sh : List xS} {I : Nat → Nat → Int32} {J : Nat → Nat → Int64} {v0 : Int32} {v1 : Int32} {v2 : Int32} {v3 : Int32} {v4 : Int32} {t0 : Int32}
    (k : xg d qL_average [.int v2, .int v4] (sh, I, J) (xI (fun v h1 => xG d zm_Foretelling_byMode (124, [some (.int v0), some (.int v1), some (.int v2), some (.int v3), some (.int v4)], [.int v, .int t0]) h1 Q) (fun x h1 => Q (.inr x) h1))) :
    xG d zm_Foretelling_byMode (118, [some (.int v0), some (.int v1), some (.int v2), some (.int v3), some (.int v4)], [.int t0]) (sh, I, J) Q := by
  exact xG_N 2 (ps := []) (f1 := (121, [some (.int v0), some (.int v1), some (.int v2), some (.int v3), some (.int v4)], [.int v4, .int v2, .int t0])) (h1 := (sh, I, J)) rfl trivial (xG_Ci rfl rfl (Nat.le_of_ble_eq_true rfl) (Nat.le_of_ble_eq_true rfl) trivial rfl k)
set_option maxRecDepth 100000 in
theorem s_Foretelling_byMode_124 {d : Nat} {Q : xO → xH → Prop} {sh : List xS} {I : Nat → Nat → Int32} {J : Nat → Nat → Int64} {v0 : Int32} {v1 : Int32} {v2 : Int32} {v3 : Int32} {v4 : Int32} {t0 : Int32} {t1 : Int32}
    (k : xg d qL_average [.int t0, .int t1] (sh, I, J) (xI (fun v h1 => xG d zm_Foretelling_byMode (127, [some (.int v0), some (.int v1), some (.int v2), some (.int v3), some (.int v4)], [.int v]) h1 Q) (fun x h1 => Q (.inr x) h1))) :
    xG d zm_Foretelling_byMode (124, [some (.int v0), some (.int v1), some (.int v2), some (.int v3), some (.int v4)], [.int t1, .int t0]) (sh, I, J) Q := by
  exact xG_Ci rfl rfl (Nat.le_of_ble_eq_true rfl) (Nat.le_of_ble_eq_true rfl) trivial rfl k
set_option maxRecDepth 100000 in
theorem s_Foretelling_byMode_127 {d : Nat} {Q : xO → xH → Prop} {sh : List xS} {I : Nat → Nat → Int32} {J : Nat → Nat → Int64} {v0 : Int32} {v1 : Int32} {v2 : Int32} {v3 : Int32} {v4 : Int32} {t0 : Int32}
    (k : Q (.inl (some (.int t0))) (sh, I, J)) :
    xG d zm_Foretelling_byMode (127, [some (.int v0), some (.int v1), some (.int v2), some (.int v3), some (.int v4)], [.int t0]) (sh, I, J) Q := by
  exact xG_Q rfl rfl trivial k
set_option maxRecDepth 100000 in
theorem s_Foretelling_byMode_128 {d : Nat} {Q : xO → xH → Prop} {sh : List xS} {I : Nat → Nat → Int32} {J : Nat → Nat → Int64} {v0 : Int32} {v1 : Int32} {v2 : Int32} {v3 : Int32} {v4 : Int32}
    (k : xg d qForetelling_nearer [.int v1, .int v2, .int v3] (sh, I, J) (xI (fun v h1 => xG d zm_Foretelling_byMode (134, [some (.int v0), some (.int v1), some (.int v2), some (.int v3), some (.int v4)], [.int v]) h1 Q) (fun x h1 => Q (.inr x) h1))) :
    xG d zm_Foretelling_byMode (128, [some (.int v0), some (.int v1), some (.int v2), some (.int v3), some (.int v4)], []) (sh, I, J) Q := by
  exact xG_N 3 (ps := []) (f1 := (131, [some (.int v0), some (.int v1), some (.int v2), some (.int v3), some (.int v4)], [.int v3, .int v2, .int v1])) (h1 := (sh, I, J)) rfl trivial (xG_Ci rfl rfl (Nat.le_of_ble_eq_true rfl) (Nat.le_of_ble_eq_true rfl) trivial rfl k)
set_option maxRecDepth 100000 in
theorem s_Foretelling_byMode_134 {d : Nat} {Q : xO → xH → Prop} {sh : List xS} {I : Nat → Nat → Int32} {J : Nat → Nat → Int64} {v0 : Int32} {v1 : Int32} {v2 : Int32} {v3 : Int32} {v4 : Int32} {t0 : Int32}
    (k : Q (.inl (some (.int t0))) (sh, I, J)) :
    xG d zm_Foretelling_byMode (134, [some (.int v0), some (.int v1), some (.int v2), some (.int v3), some (.int v4)], [.int t0]) (sh, I, J) Q := by
  exact xG_Q rfl rfl trivial k
set_option maxRecDepth 100000 in
theorem s_Foretelling_byMode_135 {d : Nat} {Q : xO → xH → Prop} {sh : List xS} {I : Nat → Nat → Int32} {J : Nat → Nat → Int64} {v0 : Int32} {v1 : Int32} {v2 : Int32} {v3 : Int32} {v4 : Int32}
    (k : xg d qForetelling_slope [.int v1, .int v2, .int v3] (sh, I, J) (xI (fun v h1 => xG d zm_Foretelling_byMode (141, [some (.int v0), some (.int v1), some (.int v2), some (.int v3), some (.int v4)], [.int v]) h1 Q) (fun x h1 => Q (.inr x) h1))) :
    xG d zm_Foretelling_byMode (135, [some (.int v0), some (.int v1), some (.int v2), some (.int v3), some (.int v4)], []) (sh, I, J) Q := by
  exact xG_N 3 (ps := []) (f1 := (138, [some (.int v0), some (.int v1), some (.int v2), some (.int v3), some (.int v4)], [.int v3, .int v2, .int v1])) (h1 := (sh, I, J)) rfl trivial (xG_Ci rfl rfl (Nat.le_of_ble_eq_true rfl) (Nat.le_of_ble_eq_true rfl) trivial rfl k)
set_option maxRecDepth 100000 in
theorem s_Foretelling_byMode_141 {d : Nat} {Q : xO → xH → Prop} {sh : List xS} {I : Nat → Nat → Int32} {J : Nat → Nat → Int64} {v0 : Int32} {v1 : Int32} {v2 : Int32} {v3 : Int32} {v4 : Int32} {t0 : Int32}
    (k : Q (.inl (some (.int t0))) (sh, I, J)) :
    xG d zm_Foretelling_byMode (141, [some (.int v0), some (.int v1), some (.int v2), some (.int v3), some (.int v4)], [.int t0]) (sh, I, J) Q := by
  exact xG_Q rfl rfl trivial k
set_option maxRecDepth 100000 in
theorem s_Foretelling_byMode_142 {d : Nat} {Q : xO → xH → Prop} {sh : List xS} {I : Nat → Nat → Int32} {J : Nat → Nat → Int64} {v0 : Int32} {v1 : Int32} {v2 : Int32} {v3 : Int32} {v4 : Int32}
    (k : xg d qL_average [.int v1, .int v2] (sh, I, J) (xI (fun v h1 => xG d zm_Foretelling_byMode (147, [some (.int v0), some (.int v1), some (.int v2), some (.int v3), some (.int v4)], [.int v]) h1 Q) (fun x h1 => Q (.inr x) h1))) :
    xG d zm_Foretelling_byMode (142, [some (.int v0), some (.int v1), some (.int v2), some (.int v3), some (.int v4)], []) (sh, I, J) Q := by
  exact xG_N 2 (ps := []) (f1 := (144, [some (.int v0), some (.int v1), some (.int v2), some (.int v3), some (.int v4)], [.int v2, .int v1])) (h1 := (sh, I, J)) rfl trivial (xG_Ci rfl rfl (Nat.le_of_ble_eq_true rfl) (Nat.le_of_ble_eq_true rfl) trivial rfl k)
set_option maxRecDepth 100000 in
theorem s_Foretelling_byMode_147 {d : Nat} {Q : xO → xH → Prop} {sh : List xS} {I : Nat → Nat → Int32} {J : Nat → Nat → Int64} {v0 : Int32} {v1 : Int32} {v2 : Int32} {v3 : Int32} {v4 : Int32} {t0 : Int32}
    (k : xg d qForetelling_halfSlope [.int t0, .int v3] (sh, I, J) (xI (fun v h1 => xG d zm_Foretelling_byMode (151, [some (.int v0), some (.int v1), some (.int v2), some (.int v3), some (.int v4)], [.int v]) h1 Q) (fun x h1 => Q (.inr x) h1))) :
    xG d zm_Foretelling_byMode (147, [some (.int v0), some (.int v1), some (.int v2), some (.int v3), some (.int v4)], [.int t0]) (sh, I, J) Q := by
  exact xG_N 1 (ps := []) (f1 := (148, [some (.int v0), some (.int v1), some (.int v2), some (.int v3), some (.int v4)], [.int v3, .int t0])) (h1 := (sh, I, J)) rfl trivial (xG_Ci rfl rfl (Nat.le_of_ble_eq_true rfl) (Nat.le_of_ble_eq_true rfl) trivial rfl k)
set_option maxRecDepth 100000 in
theorem s_Foretelling_byMode_151 {d : Nat} {Q : xO → xH → Prop} {sh : List xS} {I : Nat → Nat → Int32} {J : Nat → Nat → Int64} {v0 : Int32} {v1 : Int32} {v2 : Int32} {v3 : Int32} {v4 : Int32} {t0 : Int32}
    (k : Q (.inl (some (.int t0))) (sh, I, J)) :
    xG d zm_Foretelling_byMode (151, [some (.int v0), some (.int v1), some (.int v2), some (.int v3), some (.int v4)], [.int t0]) (sh, I, J) Q := by
  exact xG_Q rfl rfl trivial k
set_option maxRecDepth 100000 in
theorem s_Foretelling_byMode_152 {d : Nat} {Q : xO → xH → Prop} {sh : List xS} {I : Nat → Nat → Int32} {J : Nat → Nat → Int64} {v0 : Int32} {v1 : Int32} {v2 : Int32} {v3 : Int32} {v4 : Int32}
    (k : Q (.inl (some (.int (-16777216 : Int32)))) (sh, I, J)) :
    xG d zm_Foretelling_byMode (152, [some (.int v0), some (.int v1), some (.int v2), some (.int v3), some (.int v4)], []) (sh, I, J) Q := by
  exact xG_N 1 (ps := []) (f1 := (154, [some (.int v0), some (.int v1), some (.int v2), some (.int v3), some (.int v4)], [.int (-16777216 : Int32)])) (h1 := (sh, I, J)) rfl trivial (xG_Q rfl rfl trivial k)
set_option maxRecDepth 100000 in
theorem s_Foretelling_nearer_0 {d : Nat} {Q : xO → xH → Prop} {sh : List xS} {I : Nat → Nat → Int32} {J : Nat → Nat → Int64} {v0 : Int32} {v1 : Int32} {v2 : Int32}
    (k : xG d zm_Foretelling_nearer (8, [some (.int v0), some (.int v1), some (.int v2), some (.int (0 : Int32)), some (.int (0 : Int32)), some (.int (0 : Int32)), none, none, none], []) (sh, I, J) Q) :
    xG d zm_Foretelling_nearer (0, [some (.int v0), some (.int v1), some (.int v2), none, none, none, none, none, none], []) (sh, I, J) Q := by
  exact xG_N 6 (ps := []) (f1 := (8, [some (.int v0), some (.int v1), some (.int v2), some (.int (0 : Int32)), some (.int (0 : Int32)), some (.int (0 : Int32)), none, none, none], [])) (h1 := (sh, I, J)) rfl trivial (k)
set_option maxRecDepth 100000 in
theorem s_Foretelling_nearer_8 {d : Nat} {Q : xO → xH → Prop} {sh : List xS} {I : Nat → Nat → Int32} {J : Nat → Nat → Int64} {v0 : Int32} {v1 : Int32} {v2 : Int32} {v3 : Int32} {v4 : Int32} {v5 : Int32} {o6 : Option Value} {o7 : Option Value} {o8 : Option Value}
    (k1 : (32 : Int32) ≤ v5 → xG d zm_Foretelling_nearer (75, [some (.int v0), some (.int v1), some (.int v2), some (.int v3), some (.int v4), some (.int v5), o6, o7, o8], []) (sh, I, J) Q)
    (k2 : ¬ ((32 : Int32) ≤ v5) → xG d zm_Foretelling_nearer (15, [some (.int v0), some (.int v1), some (.int v2), some (.int v3), some (.int v4), some (.int v5), o6, o7, o8], []) (sh, I, J) Q) :
    xG d zm_Foretelling_nearer (8, [some (.int v0), some (.int v1), some (.int v2), some (.int v3), some (.int v4), some (.int v5), o6, o7, o8], []) (sh, I, J) Q := by
  exact xG_N 2 (ps := []) (f1 := (12, [some (.int v0), some (.int v1), some (.int v2), some (.int v3), some (.int v4), some (.int v5), o6, o7, o8], [.int (32 : Int32), .int v5])) (h1 := (sh, I, J)) rfl trivial (xG_B rfl rfl k1 k2)
set_option maxRecDepth 100000 in
theorem s_Foretelling_nearer_15 {d : Nat} {Q : xO → xH → Prop} {sh : List xS} {I : Nat → Nat → Int32} {J : Nat → Nat → Int64} {v0 : Int32} {v1 : Int32} {v2 : Int32} {v3 : Int32} {v4 : Int32} {v5 : Int32} {o6 : Option Value} {o7 : Option Value} {o8 : Option Value}
    (k : xg d qL_part [.int v0, .int v5] (sh, I, J) (xI (fun v h1 => xG d zm_Foretelling_nearer (21, [some (.int v0), some (.int v1), some (.int v2), some (.int v3), some (.int v4), some (.int v5), o6, o7, o8], [.int v]) h1 Q) (fun x h1 => Q (.inr x) h1))) :
    xG d zm_Foretelling_nearer (15, [some (.int v0), some (.int v1), some (.int v2), some (.int v3), some (.int v4), some (.int v5), o6, o7, o8], []) (sh, I, J) Q := by
  exact xG_N 2 (ps := []) (f1 := (18, [some (.int v0), some (.int v1), some (.int v2), some (.int v3), some (.int v4), some (.int v5), o6, o7, o8], [.int v5, .int v0])) (h1 := (sh, I, J)) rfl trivial (xG_Ci rfl rfl (Nat.le_of_ble_eq_true rfl) (Nat.le_of_ble_eq_true rfl) trivial rfl k)
set_option maxRecDepth 100000 in
theorem s_Foretelling_nearer_21 {d : Nat} {Q : xO → xH → Prop} {sh : List xS} {I : Nat → Nat → Int32} {J : Nat → Nat → Int64} {v0 : Int32} {v1 : Int32} {v2 : Int32} {v3 : Int32} {v4 : Int32} {v5 : Int32} {o6 : Option Value} {o7 : Option Value} {o8 : Option Value} {t0 : Int32}
    (k : xg d qL_part [.int v1, .int v5] (sh, I, J) (xI (fun v h1 => xG d zm_Foretelling_nearer (29, [some (.int v0), some (.int v1), some (.int v2), some (.int v3), some (.int v4), some (.int v5), some (.int t0), o7, o8], [.int v]) h1 Q) (fun x h1 => Q (.inr x) h1))) :
    xG d zm_Foretelling_nearer (21, [some (.int v0), some (.int v1), some (.int v2), some (.int v3), some (.int v4), some (.int v5), o6, o7, o8], [.int t0]) (sh, I, J) Q := by
  exact xG_N 3 (ps := []) (f1 := (26, [some (.int v0), some (.int v1), some (.int v2), some (.int v3), some (.int v4), some (.int v5), some (.int t0), o7, o8], [.int v5, .int v1])) (h1 := (sh, I, J)) rfl trivial (xG_Ci rfl rfl (Nat.le_of_ble_eq_true rfl) (Nat.le_of_ble_eq_true rfl) trivial rfl k)
set_option maxRecDepth 100000 in
theorem s_Foretelling_nearer_29 {d : Nat} {Q : xO → xH → Prop} {sh : List xS} {I : Nat → Nat → Int32} {J : Nat → Nat → Int64} {v0 : Int32} {v1 : Int32} {v2 : Int32} {v3 : Int32} {v4 : Int32} {v5 : Int32} {v6 : Int32} {o7 : Option Value} {o8 : Option Value} {t0 : Int32}
    (k : xg d qL_part [.int v2, .int v5] (sh, I, J) (xI (fun v h1 => xG d zm_Foretelling_nearer (42, [some (.int v0), some (.int v1), some (.int v2), some (.int v3), some (.int v4), some (.int v5), some (.int v6), some (.int t0), o8], [.int v, .int (v6 + t0)]) h1 Q) (fun x h1 => Q (.inr x) h1))) :
    xG d zm_Foretelling_nearer (29, [some (.int v0), some (.int v1), some (.int v2), some (.int v3), some (.int v4), some (.int v5), some (.int v6), o7, o8], [.int t0]) (sh, I, J) Q := by
  exact xG_N 6 (ps := []) (f1 := (39, [some (.int v0), some (.int v1), some (.int v2), some (.int v3), some (.int v4), some (.int v5), some (.int v6), some (.int t0), o8], [.int v5, .int v2, .int (v6 + t0)])) (h1 := (sh, I, J)) rfl trivial (xG_Ci rfl rfl (Nat.le_of_ble_eq_true rfl) (Nat.le_of_ble_eq_true rfl) trivial rfl k)
set_option maxRecDepth 100000 in
theorem s_Foretelling_nearer_42 {d : Nat} {Q : xO → xH → Prop} {sh : List xS} {I : Nat → Nat → Int32} {J : Nat → Nat → Int64} {v0 : Int32} {v1 : Int32} {v2 : Int32} {v3 : Int32} {v4 : Int32} {v5 : Int32} {v6 : Int32} {v7 : Int32} {o8 : Option Value} {t0 : Int32} {t1 : Int32}
    (k : xG d zm_Foretelling_nearer (8, [some (.int v0), some (.int v1), some (.int v2), some (.int (v3 + (xabs ((t0 - t1) - v6)))), some (.int (v4 + (xabs ((t0 - t1) - v7)))), some (.int (v5 + (8 : Int32))), some (.int v6), some (.int v7), some (.int (t0 - t1))], []) (sh, I, J) Q) :
    xG d zm_Foretelling_nearer (42, [some (.int v0), some (.int v1), some (.int v2), some (.int v3), some (.int v4), some (.int v5), some (.int v6), some (.int v7), o8], [.int t1, .int t0]) (sh, I, J) Q := by
  exact xG_N 18 (ps := [(([.int v3] : List Value).map fun v => v.category).sum ≤ 8, (([.int v4] : List Value).map fun v => v.category).sum ≤ 8]) (f1 := (8, [some (.int v0), some (.int v1), some (.int v2), some (.int (v3 + (xabs ((t0 - t1) - v6)))), some (.int (v4 + (xabs ((t0 - t1) - v7)))), some (.int (v5 + (8 : Int32))), some (.int v6), some (.int v7), some (.int (t0 - t1))], [])) (h1 := (sh, I, J)) rfl ⟨(Nat.le_of_ble_eq_true rfl), (Nat.le_of_ble_eq_true rfl)⟩ (k)
set_option maxRecDepth 100000 in
theorem s_Foretelling_nearer_75 {d : Nat} {Q : xO → xH → Prop} {sh : List xS} {I : Nat → Nat → Int32} {J : Nat → Nat → Int64} {v0 : Int32} {v1 : Int32} {v2 : Int32} {v3 : Int32} {v4 : Int32} {v5 : Int32} {o6 : Option Value} {o7 : Option Value} {o8 : Option Value}
    (k1 : v4 ≤ v3 → xG d zm_Foretelling_nearer (85, [some (.int v0), some (.int v1), some (.int v2), some (.int v3), some (.int v4), some (.int v5), o6, o7, o8], []) (sh, I, J) Q)
    (k2 : ¬ (v4 ≤ v3) → xG d zm_Foretelling_nearer (81, [some (.int v0), some (.int v1), some (.int v2), some (.int v3), some (.int v4), some (.int v5), o6, o7, o8], []) (sh, I, J) Q) :
    xG d zm_Foretelling_nearer (75, [some (.int v0), some (.int v1), some (.int v2), some (.int v3), some (.int v4), some (.int v5), o6, o7, o8], []) (sh, I, J) Q := by
  exact xG_N 2 (ps := []) (f1 := (78, [some (.int v0), some (.int v1), some (.int v2), some (.int v3), some (.int v4), some (.int v5), o6, o7, o8], [.int v4, .int v3])) (h1 := (sh, I, J)) rfl trivial (xG_B rfl rfl k1 k2)
set_option maxRecDepth 100000 in
theorem s_Foretelling_nearer_81 {d : Nat} {Q : xO → xH → Prop} {sh : List xS} {I : Nat → Nat → Int32} {J : Nat → Nat → Int64} {v0 : Int32} {v1 : Int32} {v2 : Int32} {v3 : Int32} {v4 : Int32} {v5 : Int32} {o6 : Option Value} {o7 : Option Value} {o8 : Option Value}
    (k : Q (.inl (some (.int v0))) (sh, I, J)) :
    xG d zm_Foretelling_nearer (81, [some (.int v0), some (.int v1), some (.int v2), some (.int v3), some (.int v4), some (.int v5), o6, o7, o8], []) (sh, I, J) Q := by
  exact xG_N 2 (ps := []) (f1 := (86, [some (.int v0), some (.int v1), some (.int v2), some (.int v3), some (.int v4), some (.int v5), o6, o7, o8], [.int v0])) (h1 := (sh, I, J)) rfl trivial (xG_Q rfl rfl trivial k)
set_option maxRecDepth 100000 in
theorem s_Foretelling_nearer_85 {d : Nat} {Q : xO → xH → Prop} {sh : List xS} {I : Nat → Nat → Int32} {J : Nat → Nat → Int64} {v0 : Int32} {v1 : Int32} {v2 : Int32} {v3 : Int32} {v4 : Int32} {v5 : Int32} {o6 : Option Value} {o7 : Option Value} {o8 : Option Value}
    (k : Q (.inl (some (.int v1))) (sh, I, J)) :
    xG d zm_Foretelling_nearer (85, [some (.int v0), some (.int v1), some (.int v2), some (.int v3), some (.int v4), some (.int v5), o6, o7, o8], []) (sh, I, J) Q := by
  exact xG_N 1 (ps := []) (f1 := (86, [some (.int v0), some (.int v1), some (.int v2), some (.int v3), some (.int v4), some (.int v5), o6, o7, o8], [.int v1])) (h1 := (sh, I, J)) rfl trivial (xG_Q rfl rfl trivial k)
set_option maxRecDepth 100000 in
theorem s_Foretelling_slope_0 {d : Nat} {Q : xO → xH → Prop} {sh : List xS} {I : Nat → Nat → Int32} {J : Nat → Nat → Int64} {v0 : Int32} {v1 : Int32} {v2 : Int32}
    (k : xG d zm_Foretelling_slope (5, [some (.int v0), some (.int v1), some (.int v2), some (.int (0 : Int32)), some (.int (0 : Int32)), none], []) (sh, I, J) Q) :
    xG d zm_Foretelling_slope (0, [some (.int v0), some (.int v1), some (.int v2), none, none, none], []) (sh, I, J) Q := by
  exact xG_N 4 (ps := []) (f1 := (5, [some (.int v0), some (.int v1), some (.int v2), some (.int (0 : Int32)), some (.int (0 : Int32)), none], [])) (h1 := (sh, I, J)) rfl trivial (k)
set_option maxRecDepth 100000 in
theorem s_Foretelling_slope_5 {d : Nat} {Q : xO → xH → Prop} {sh : List xS} {I : Nat → Nat → Int32} {J : Nat → Nat → Int64} {v0 : Int32} {v1 : Int32} {v2 : Int32} {v3 : Int32} {v4 : Int32} {o5 : Option Value}
    (k1 : (32 : Int32) ≤ v4 → xG d zm_Foretelling_slope (51, [some (.int v0), some (.int v1), some (.int v2), some (.int v3), some (.int v4), o5], []) (sh, I, J) Q)
    (k2 : ¬ ((32 : Int32) ≤ v4) → xG d zm_Foretelling_slope (12, [some (.int v0), some (.int v1), some (.int v2), some (.int v3), some (.int v4), o5], []) (sh, I, J) Q) :
    xG d zm_Foretelling_slope (5, [some (.int v0), some (.int v1), some (.int v2), some (.int v3), some (.int v4), o5], []) (sh, I, J) Q := by
  exact xG_N 2 (ps := []) (f1 := (9, [some (.int v0), some (.int v1), some (.int v2), some (.int v3), some (.int v4), o5], [.int (32 : Int32), .int v4])) (h1 := (sh, I, J)) rfl trivial (xG_B rfl rfl k1 k2)
set_option maxRecDepth 100000 in
theorem s_Foretelling_slope_12 {d : Nat} {Q : xO → xH → Prop} {sh : List xS} {I : Nat → Nat → Int32} {J : Nat → Nat → Int64} {v0 : Int32} {v1 : Int32} {v2 : Int32} {v3 : Int32} {v4 : Int32} {o5 : Option Value}
    (k : xg d qL_part [.int v0, .int v4] (sh, I, J) (xI (fun v h1 => xG d zm_Foretelling_slope (18, [some (.int v0), some (.int v1), some (.int v2), some (.int v3), some (.int v4), o5], [.int v]) h1 Q) (fun x h1 => Q (.inr x) h1))) :
    xG d zm_Foretelling_slope (12, [some (.int v0), some (.int v1), some (.int v2), some (.int v3), some (.int v4), o5], []) (sh, I, J) Q := by
  exact xG_N 2 (ps := []) (f1 := (15, [some (.int v0), some (.int v1), some (.int v2), some (.int v3), some (.int v4), o5], [.int v4, .int v0])) (h1 := (sh, I, J)) rfl trivial (xG_Ci rfl rfl (Nat.le_of_ble_eq_true rfl) (Nat.le_of_ble_eq_true rfl) trivial rfl k)
set_option maxRecDepth 100000 in
theorem s_Foretelling_slope_18 {d : Nat} {Q : xO → xH → Prop} {sh : List xS} {I : Nat → Nat → Int32} {J : Nat → Nat → Int64} {v0 : Int32} {v1 : Int32} {v2 : Int32} {v3 : Int32} {v4 : Int32} {o5 : Option Value} {t0 : Int32}
    (k : xg d qL_part [.int v1, .int v4] (sh, I, J) (xI (fun v h1 => xG d zm_Foretelling_slope (24, [some (.int v0), some (.int v1), some (.int v2), some (.int v3), some (.int v4), o5], [.int v, .int t0]) h1 Q) (fun x h1 => Q (.inr x) h1))) :
    xG d zm_Foretelling_slope (18, [some (.int v0), some (.int v1), some (.int v2), some (.int v3), some (.int v4), o5], [.int t0]) (sh, I, J) Q := by
  exact xG_N 2 (ps := []) (f1 := (21, [some (.int v0), some (.int v1), some (.int v2), some (.int v3), some (.int v4), o5], [.int v4, .int v1, .int t0])) (h1 := (sh, I, J)) rfl trivial (xG_Ci rfl rfl (Nat.le_of_ble_eq_true rfl) (Nat.le_of_ble_eq_true rfl) trivial rfl k)
set_option maxRecDepth 100000 in
theorem s_Foretelling_slope_24 {d : Nat} {Q : xO → xH → Prop} {sh : List xS} {I : Nat → Nat → Int32} {J : Nat → Nat → Int64} {v0 : Int32} {v1 : Int32} {v2 : Int32} {v3 : Int32} {v4 : Int32} {o5 : Option Value} {t0 : Int32} {t1 : Int32}
    (k : xg d qL_part [.int v2, .int v4] (sh, I, J) (xI (fun v h1 => xG d zm_Foretelling_slope (31, [some (.int v0), some (.int v1), some (.int v2), some (.int v3), some (.int v4), o5], [.int v, .int (t0 + t1)]) h1 Q) (fun x h1 => Q (.inr x) h1))) :
    xG d zm_Foretelling_slope (24, [some (.int v0), some (.int v1), some (.int v2), some (.int v3), some (.int v4), o5], [.int t1, .int t0]) (sh, I, J) Q := by
  exact xG_N 3 (ps := []) (f1 := (28, [some (.int v0), some (.int v1), some (.int v2), some (.int v3), some (.int v4), o5], [.int v4, .int v2, .int (t0 + t1)])) (h1 := (sh, I, J)) rfl trivial (xG_Ci rfl rfl (Nat.le_of_ble_eq_true rfl) (Nat.le_of_ble_eq_true rfl) trivial rfl k)
set_option maxRecDepth 100000 in
theorem s_Foretelling_slope_31 {d : Nat} {Q : xO → xH → Prop} {sh : List xS} {I : Nat → Nat → Int32} {J : Nat → Nat → Int64} {v0 : Int32} {v1 : Int32} {v2 : Int32} {v3 : Int32} {v4 : Int32} {o5 : Option Value} {t0 : Int32} {t1 : Int32}
    (k : xg d qL_clamp [.int (t0 - t1)] (sh, I, J) (xI (fun v h1 => xG d zm_Foretelling_slope (40, [some (.int v0), some (.int v1), some (.int v2), some (.int v3), some (.int v4), some (.int (t0 - t1))], [.int v, .int v3]) h1 Q) (fun x h1 => Q (.inr x) h1))) :
    xG d zm_Foretelling_slope (31, [some (.int v0), some (.int v1), some (.int v2), some (.int v3), some (.int v4), o5], [.int t1, .int t0]) (sh, I, J) Q := by
  exact xG_N 4 (ps := []) (f1 := (37, [some (.int v0), some (.int v1), some (.int v2), some (.int v3), some (.int v4), some (.int (t0 - t1))], [.int (t0 - t1), .int v3])) (h1 := (sh, I, J)) rfl trivial (xG_Ci rfl rfl (Nat.le_of_ble_eq_true rfl) (Nat.le_of_ble_eq_true rfl) trivial rfl k)
set_option maxRecDepth 100000 in
theorem s_Foretelling_slope_40 {d : Nat} {Q : xO → xH → Prop} {sh : List xS} {I : Nat → Nat → Int32} {J : Nat → Nat → Int64} {v0 : Int32} {v1 : Int32} {v2 : Int32} {v3 : Int32} {v4 : Int32} {v5 : Int32} {t0 : Int32} {t1 : Int32}
    (k : xG d zm_Foretelling_slope (5, [some (.int v0), some (.int v1), some (.int v2), some (.int (t0 ||| (t1 <<< (v4 &&& 31)))), some (.int (v4 + (8 : Int32))), some (.int v5)], []) (sh, I, J) Q) :
    xG d zm_Foretelling_slope (40, [some (.int v0), some (.int v1), some (.int v2), some (.int v3), some (.int v4), some (.int v5)], [.int t1, .int t0]) (sh, I, J) Q := by
  exact xG_N 6 (ps := []) (f1 := (5, [some (.int v0), some (.int v1), some (.int v2), some (.int (t0 ||| (t1 <<< (v4 &&& 31)))), some (.int (v4 + (8 : Int32))), some (.int v5)], [])) (h1 := (sh, I, J)) rfl trivial (k)
set_option maxRecDepth 100000 in
theorem s_Foretelling_slope_51 {d : Nat} {Q : xO → xH → Prop} {sh : List xS} {I : Nat → Nat → Int32} {J : Nat → Nat → Int64} {v0 : Int32} {v1 : Int32} {v2 : Int32} {v3 : Int32} {v4 : Int32} {o5 : Option Value}
    (k : Q (.inl (some (.int v3))) (sh, I, J)) :
    xG d zm_Foretelling_slope (51, [some (.int v0), some (.int v1), some (.int v2), some (.int v3), some (.int v4), o5], []) (sh, I, J) Q := by
  exact xG_N 1 (ps := []) (f1 := (52, [some (.int v0), some (.int v1), some (.int v2), some (.int v3), some (.int v4), o5], [.int v3])) (h1 := (sh, I, J)) rfl trivial (xG_Q rfl rfl trivial k)
set_option maxRecDepth 100000 in
theorem s_Foretelling_halfSlope_0 {d : Nat} {Q : xO → xH → Prop} {sh : List xS} {I : Nat → Nat → Int32} {J : Nat → Nat → Int64} {v0 : Int32} {v1 : Int32}
    (k : xG d zm_Foretelling_halfSlope (4, [some (.int v0), some (.int v1), some (.int (0 : Int32)), some (.int (0 : Int32)), none, none], []) (sh, I, J) Q) :
    xG d zm_Foretelling_halfSlope (0, [some (.int v0), some (.int v1), none, none, none, none], []) (sh, I, J) Q := by
  exact xG_N 4 (ps := []) (f1 := (4, [some (.int v0), some (.int v1), some (.int (0 : Int32)), some (.int (0 : Int32)), none, none], [])) (h1 := (sh, I, J)) rfl trivial (k)
set_option maxRecDepth 100000 in
theorem s_Foretelling_halfSlope_4 {d : Nat} {Q : xO → xH → Prop} {sh : List xS} {I : Nat → Nat → Int32} {J : Nat → Nat → Int64} {v0 : Int32} {v1 : Int32} {v2 : Int32} {v3 : Int32} {o4 : Option Value} {o5 : Option Value}
    (k1 : (32 : Int32) ≤ v3 → xG d zm_Foretelling_halfSlope (48, [some (.int v0), some (.int v1), some (.int v2), some (.int v3), o4, o5], []) (sh, I, J) Q)
    (k2 : ¬ ((32 : Int32) ≤ v3) → xG d zm_Foretelling_halfSlope (10, [some (.int v0), some (.int v1), some (.int v2), some (.int v3), o4, o5], []) (sh, I, J) Q) :
    xG d zm_Foretelling_halfSlope (4, [some (.int v0), some (.int v1), some (.int v2), some (.int v3), o4, o5], []) (sh, I, J) Q := by
  exact xG_N 2 (ps := []) (f1 := (7, [some (.int v0), some (.int v1), some (.int v2), some (.int v3), o4, o5], [.int (32 : Int32), .int v3])) (h1 := (sh, I, J)) rfl trivial (xG_B rfl rfl k1 k2)
set_option maxRecDepth 100000 in
theorem s_Foretelling_halfSlope_10 {d : Nat} {Q : xO → xH → Prop} {sh : List xS} {I : Nat → Nat → Int32} {J : Nat → Nat → Int64} {v0 : Int32} {v1 : Int32} {v2 : Int32} {v3 : Int32} {o4 : Option Value} {o5 : Option Value}
    (k : xg d qL_part [.int v0, .int v3] (sh, I, J) (xI (fun v h1 => xG d zm_Foretelling_halfSlope (15, [some (.int v0), some (.int v1), some (.int v2), some (.int v3), o4, o5], [.int v]) h1 Q) (fun x h1 => Q (.inr x) h1))) :
    xG d zm_Foretelling_halfSlope (10, [some (.int v0), some (.int v1), some (.int v2), some (.int v3), o4, o5], []) (sh, I, J) Q := by
  exact xG_N 2 (ps := []) (f1 := (12, [some (.int v0), some (.int v1), some (.int v2), some (.int v3), o4, o5], [.int v3, .int v0])) (h1 := (sh, I, J)) rfl trivial (xG_Ci rfl rfl (Nat.le_of_ble_eq_true rfl) (Nat.le_of_ble_eq_true rfl) trivial rfl k)
set_option maxRecDepth 100000 in
theorem s_Foretelling_halfSlope_15 {d : Nat} {Q : xO → xH → Prop} {sh : List xS} {I : Nat → Nat → Int32} {J : Nat → Nat → Int64} {v0 : Int32} {v1 : Int32} {v2 : Int32} {v3 : Int32} {o4 : Option Value} {o5 : Option Value} {t0 : Int32}
    (k : xg d qL_part [.int v1, .int v3] (sh, I, J) (xI (fun v h1 => xG d zm_Foretelling_halfSlope (26, [some (.int v0), some (.int v1), some (.int v2), some (.int v3), some (.int t0), o5], [.int v, .int t0, .int t0]) h1 Q) (fun x h1 => Q (.inr x) h1))) :
    xG d zm_Foretelling_halfSlope (15, [some (.int v0), some (.int v1), some (.int v2), some (.int v3), o4, o5], [.int t0]) (sh, I, J) Q := by
  exact xG_N 5 (ps := []) (f1 := (23, [some (.int v0), some (.int v1), some (.int v2), some (.int v3), some (.int t0), o5], [.int v3, .int v1, .int t0, .int t0])) (h1 := (sh, I, J)) rfl trivial (xG_Ci rfl rfl (Nat.le_of_ble_eq_true rfl) (Nat.le_of_ble_eq_true rfl) trivial rfl k)
set_option maxRecDepth 100000 in
theorem s_Foretelling_halfSlope_26 {d : Nat} {Q : xO → xH → Prop} {sh : List xS} {I : Nat → Nat → Int32} {J : Nat → Nat → Int64} {v0 : Int32} {v1 : Int32} {v2 : Int32} {v3 : Int32} {v4 : Int32} {o5 : Option Value} {t0 : Int32} {t1 : Int32} {t2 : Int32}
    (k : xg d qL_clamp [.int (t0 + ((t1 - t2) / (2 : Int32)))] (sh, I, J) (xI (fun v h1 => xG d zm_Foretelling_halfSlope (38, [some (.int v0), some (.int v1), some (.int v2), some (.int v3), some (.int v4), some (.int (t0 + ((t1 - t2) / (2 : Int32))))], [.int v, .int v2]) h1 Q) (fun x h1 => Q (.inr x) h1))) :
    xG d zm_Foretelling_halfSlope (26, [some (.int v0), some (.int v1), some (.int v2), some (.int v3), some (.int v4), o5], [.int t2, .int t1, .int t0]) (sh, I, J) Q := by
  exact xG_N 7 (ps := [¬ (2 : Int32) = 0]) (f1 := (35, [some (.int v0), some (.int v1), some (.int v2), some (.int v3), some (.int v4), some (.int (t0 + ((t1 - t2) / (2 : Int32))))], [.int (t0 + ((t1 - t2) / (2 : Int32))), .int v2])) (h1 := (sh, I, J)) rfl (show ¬ (2 : Int32) = 0 by decide) (xG_Ci rfl rfl (Nat.le_of_ble_eq_true rfl) (Nat.le_of_ble_eq_true rfl) trivial rfl k)
set_option maxRecDepth 100000 in
theorem s_Foretelling_halfSlope_38 {d : Nat} {Q : xO → xH → Prop} {sh : List xS} {I : Nat → Nat → Int32} {J : Nat → Nat → Int64} {v0 : Int32} {v1 : Int32} {v2 : Int32} {v3 : Int32} {v4 : Int32} {v5 : Int32} {t0 : Int32} {t1 : Int32}
    (k : xG d zm_Foretelling_halfSlope (4, [some (.int v0), some (.int v1), some (.int (t0 ||| (t1 <<< (v3 &&& 31)))), some (.int (v3 + (8 : Int32))), some (.int v4), some (.int v5)], []) (sh, I, J) Q) :
    xG d zm_Foretelling_halfSlope (38, [some (.int v0), some (.int v1), some (.int v2), some (.int v3), some (.int v4), some (.int v5)], [.int t1, .int t0]) (sh, I, J) Q := by
  exact xG_N 6 (ps := []) (f1 := (4, [some (.int v0), some (.int v1), some (.int (t0 ||| (t1 <<< (v3 &&& 31)))), some (.int (v3 + (8 : Int32))), some (.int v4), some (.int v5)], [])) (h1 := (sh, I, J)) rfl trivial (k)
set_option maxRecDepth 100000 in
theorem s_Foretelling_halfSlope_48 {d : Nat} {Q : xO → xH → Prop} {sh : List xS} {I : Nat → Nat → Int32} {J : Nat → Nat → Int64} {v0 : Int32} {v1 : Int32} {v2 : Int32} {v3 : Int32} {o4 : Option Value} {o5 : Option Value}
    (k : Q (.inl (some (.int v2))) (sh, I, J)) :
    xG d zm_Foretelling_halfSlope (48, [some (.int v0), some (.int v1), some (.int v2), some (.int v3), o4, o5], []) (sh, I, J) Q := by
  exact xG_N 1 (ps := []) (f1 := (49, [some (.int v0), some (.int v1), some (.int v2), some (.int v3), o4, o5], [.int v2])) (h1 := (sh, I, J)) rfl trivial (xG_Q rfl rfl trivial k)
set_option maxRecDepth 100000 in
theorem s_Colours_putTogether_0 {d : Nat} {Q : xO → xH → Prop} {sh : List xS} {I : Nat → Nat → Int32} {J : Nat → Nat → Int64} {r0 : Nat} {r1 : Nat}
    (k : xG d zm_Colours_putTogether (2, [some (.ref r0), some (.ref r1), some (.int (0 : Int32)), none, none, none], []) (sh, I, J) Q) :
    xG d zm_Colours_putTogether (0, [some (.ref r0), some (.ref r1), none, none, none, none], []) (sh, I, J) Q := by
  exact xG_N 2 (ps := []) (f1 := (2, [some (.ref r0), some (.ref r1), some (.int (0 : Int32)), none, none, none], [])) (h1 := (sh, I, J)) rfl trivial (k)
set_option maxRecDepth 100000 in
theorem s_Colours_putTogether_2 {d : Nat} {Q : xO → xH → Prop} {sh : List xS} {I : Nat → Nat → Int32} {J : Nat → Nat → Int64} {r0 : Nat} {r1 : Nat} {v2 : Int32} {o3 : Option Value} {o4 : Option Value} {o5 : Option Value}
    (e0 : xOb sh r0 8)
    (k1 : (I r0 2) ≤ v2 → xG d zm_Colours_putTogether (74, [some (.ref r0), some (.ref r1), some (.int v2), o3, o4, o5], []) (sh, I, J) Q)
    (k2 : ¬ ((I r0 2) ≤ v2) → xG d zm_Colours_putTogether (10, [some (.ref r0), some (.ref r1), some (.int v2), o3, o4, o5], []) (sh, I, J) Q) :
    xG d zm_Colours_putTogether (2, [some (.ref r0), some (.ref r1), some (.int v2), o3, o4, o5], []) (sh, I, J) Q := by
  exact xG_N 3 (ps := [xOb sh r0 8]) (f1 := (7, [some (.ref r0), some (.ref r1), some (.int v2), o3, o4, o5], [.int (I r0 2), .int v2])) (h1 := (sh, I, J)) rfl e0 (xG_B rfl rfl k1 k2)
set_option maxRecDepth 100000 in
theorem s_Colours_putTogether_10 {d : Nat} {Q : xO → xH → Prop} {sh : List xS} {I : Nat → Nat → Int32} {J : Nat → Nat → Int64} {r0 : Nat} {r1 : Nat} {v2 : Int32} {o3 : Option Value} {o4 : Option Value} {o5 : Option Value}
    (k : xG d zm_Colours_putTogether (12, [some (.ref r0), some (.ref r1), some (.int v2), some (.int (0 : Int32)), o4, o5], []) (sh, I, J) Q) :
    xG d zm_Colours_putTogether (10, [some (.ref r0), some (.ref r1), some (.int v2), o3, o4, o5], []) (sh, I, J) Q := by
  exact xG_N 2 (ps := []) (f1 := (12, [some (.ref r0), some (.ref r1), some (.int v2), some (.int (0 : Int32)), o4, o5], [])) (h1 := (sh, I, J)) rfl trivial (k)
set_option maxRecDepth 100000 in
theorem s_Colours_putTogether_12 {d : Nat} {Q : xO → xH → Prop} {sh : List xS} {I : Nat → Nat → Int32} {J : Nat → Nat → Int64} {r0 : Nat} {r1 : Nat} {v2 : Int32} {v3 : Int32} {o4 : Option Value} {o5 : Option Value}
    (e0 : xOb sh r0 8)
    (k1 : (I r0 1) ≤ v3 → xG d zm_Colours_putTogether (68, [some (.ref r0), some (.ref r1), some (.int v2), some (.int v3), o4, o5], []) (sh, I, J) Q)
    (k2 : ¬ ((I r0 1) ≤ v3) → xG d zm_Colours_putTogether (20, [some (.ref r0), some (.ref r1), some (.int v2), some (.int v3), o4, o5], []) (sh, I, J) Q) :
    xG d zm_Colours_putTogether (12, [some (.ref r0), some (.ref r1), some (.int v2), some (.int v3), o4, o5], []) (sh, I, J) Q := by
  exact xG_N 3 (ps := [xOb sh r0 8]) (f1 := (17, [some (.ref r0), some (.ref r1), some (.int v2), some (.int v3), o4, o5], [.int (I r0 1), .int v3])) (h1 := (sh, I, J)) rfl e0 (xG_B rfl rfl k1 k2)
set_option maxRecDepth 100000 in
theorem s_Colours_putTogether_20 {d : Nat} {Q : xO → xH → Prop} {sh : List xS} {I : Nat → Nat → Int32} {J : Nat → Nat → Int64} {r0 : Nat} {r1 : Nat} {v2 : Int32} {v3 : Int32} {o4 : Option Value} {o5 : Option Value} {a1 : Nat}
    (e0 : xOb sh r0 8)
    (e1 : xRr sh r1 8 0 a1)
    (k : xg d qForetelling_blockOf [.int v3, .int v2, .ref r1] (sh, I, J) (xI (fun v h1 => xG d zm_Colours_putTogether (40, [some (.ref r0), some (.ref r1), some (.int v2), some (.int v3), some (.int ((v2 * (I r0 1)) + v3)), o5], [.int v, .ref a1]) h1 Q) (fun x h1 => Q (.inr x) h1))) :
    xG d zm_Colours_putTogether (20, [some (.ref r0), some (.ref r1), some (.int v2), some (.int v3), o4, o5], []) (sh, I, J) Q := by
  obtain rfl := e1.eq
  exact xG_N 12 (ps := [xOb sh r0 8, xRf sh r1 8 0]) (f1 := (37, [some (.ref r0), some (.ref r1), some (.int v2), some (.int v3), some (.int ((v2 * (I r0 1)) + v3)), o5], [.ref r1, .int v2, .int v3, .ref (xrf sh r1 0)])) (h1 := (sh, I, J)) rfl ⟨e0, e1.rf⟩ (xG_Ci rfl rfl (Nat.le_of_ble_eq_true rfl) (Nat.le_of_ble_eq_true rfl) trivial rfl k)
set_option maxRecDepth 100000 in
theorem s_Colours_putTogether_40 {d : Nat} {Q : xO → xH → Prop} {sh : List xS} {I : Nat → Nat → Int32} {J : Nat → Nat → Int64} {r0 : Nat} {r1 : Nat} {v2 : Int32} {v3 : Int32} {v4 : Int32} {o5 : Option Value} {t0 : Nat} {t1 : Int32} {n1 : Nat} {a2 : Nat} {n3 : Nat}
    (e0 : xAr sh t0 .int n1)
    (e1 : vp_in t1 n1)
    (e2 : xRr sh r0 8 0 a2)
    (e3 : xAr sh a2 .int n3)
    (e4 : vp_in v4 n3)
    (k : xg d qColours_together [.int (I a2 v4.toNatClampNeg), .int (I t0 t1.toNatClampNeg)] (sh, I, J) (xI (fun v h1 => xG d zm_Colours_putTogether (61, [some (.ref r0), some (.ref r1), some (.int v2), some (.int v3), some (.int v4), some (.int (I t0 t1.toNatClampNeg))], [.int v, .int v4, .ref a2]) h1 Q) (fun x h1 => Q (.inr x) h1))) :
    xG d zm_Colours_putTogether (40, [some (.ref r0), some (.ref r1), some (.int v2), some (.int v3), some (.int v4), o5], [.int t1, .ref t0]) (sh, I, J) Q := by
  obtain rfl := e0.eq
  obtain rfl := e2.eq
  obtain rfl := e3.eq
  exact xG_N 10 (ps := [xA sh t0 .int, vp_in t1 (xlen sh t0), xRf sh r0 8 0, xRf sh r0 8 0, xA sh (xrf sh r0 0) .int, vp_in v4 (xlen sh (xrf sh r0 0))]) (f1 := (58, [some (.ref r0), some (.ref r1), some (.int v2), some (.int v3), some (.int v4), some (.int (I t0 t1.toNatClampNeg))], [.int (I t0 t1.toNatClampNeg), .int (I (xrf sh r0 0) v4.toNatClampNeg), .int v4, .ref (xrf sh r0 0)])) (h1 := (sh, I, J)) rfl ⟨e0.ar, e1, e2.rf, e2.rf, e3.ar, e4⟩ (xG_Ci rfl rfl (Nat.le_of_ble_eq_true rfl) (Nat.le_of_ble_eq_true rfl) trivial rfl k)
set_option maxRecDepth 100000 in
theorem s_Colours_putTogether_61 {d : Nat} {Q : xO → xH → Prop} {sh : List xS} {I : Nat → Nat → Int32} {J : Nat → Nat → Int64} {r0 : Nat} {r1 : Nat} {v2 : Int32} {v3 : Int32} {v4 : Int32} {v5 : Int32} {t0 : Nat} {t1 : Int32} {t2 : Int32} {n1 : Nat}
    (e0 : xAr sh t0 .int n1)
    (e1 : 4 ≤ t0)
    (e2 : vp_in t1 n1)
    (k : xG d zm_Colours_putTogether (12, [some (.ref r0), some (.ref r1), some (.int v2), some (.int (v3 + (1 : Int32))), some (.int v4), some (.int v5)], []) (sh, xup I t0 t1.toNatClampNeg t2, J) Q) :
    xG d zm_Colours_putTogether (61, [some (.ref r0), some (.ref r1), some (.int v2), some (.int v3), some (.int v4), some (.int v5)], [.int t2, .int t1, .ref t0]) (sh, I, J) Q := by
  obtain rfl := e0.eq
  exact xG_N 3 (ps := [xW sh t0 .int, vp_in t1 (xlen sh t0)]) (f1 := (12, [some (.ref r0), some (.ref r1), some (.int v2), some (.int (v3 + (1 : Int32))), some (.int v4), some (.int v5)], [])) (h1 := (sh, xup I t0 t1.toNatClampNeg t2, J)) rfl ⟨⟨e0.ar, e1⟩, e2⟩ (k)
set_option maxRecDepth 100000 in
theorem s_Colours_putTogether_68 {d : Nat} {Q : xO → xH → Prop} {sh : List xS} {I : Nat → Nat → Int32} {J : Nat → Nat → Int64} {r0 : Nat} {r1 : Nat} {v2 : Int32} {v3 : Int32} {o4 : Option Value} {o5 : Option Value}
    (k : xG d zm_Colours_putTogether (2, [some (.ref r0), some (.ref r1), some (.int (v2 + (1 : Int32))), some (.int v3), o4, o5], []) (sh, I, J) Q) :
    xG d zm_Colours_putTogether (68, [some (.ref r0), some (.ref r1), some (.int v2), some (.int v3), o4, o5], []) (sh, I, J) Q := by
  exact xG_N 2 (ps := []) (f1 := (2, [some (.ref r0), some (.ref r1), some (.int (v2 + (1 : Int32))), some (.int v3), o4, o5], [])) (h1 := (sh, I, J)) rfl trivial (k)
set_option maxRecDepth 100000 in
theorem s_Colours_putTogether_74 {d : Nat} {Q : xO → xH → Prop} {sh : List xS} {I : Nat → Nat → Int32} {J : Nat → Nat → Int64} {r0 : Nat} {r1 : Nat} {v2 : Int32} {o3 : Option Value} {o4 : Option Value} {o5 : Option Value}
    (k : Q (.inl (none)) (sh, I, J)) :
    xG d zm_Colours_putTogether (74, [some (.ref r0), some (.ref r1), some (.int v2), o3, o4, o5], []) (sh, I, J) Q := by
  exact xG_Q rfl rfl trivial k
set_option maxRecDepth 100000 in
theorem s_Colours_together_0 {d : Nat} {Q : xO → xH → Prop} {sh : List xS} {I : Nat → Nat → Int32} {J : Nat → Nat → Int64} {v0 : Int32} {v1 : Int32}
    (k : xg d qL_part [.int v0, .int (8 : Int32)] (sh, I, J) (xI (fun v h1 => xG d zm_Colours_together (6, [some (.int v0), some (.int v1), none, none, none], [.int v]) h1 Q) (fun x h1 => Q (.inr x) h1))) :
    xG d zm_Colours_together (0, [some (.int v0), some (.int v1), none, none, none], []) (sh, I, J) Q := by
  exact xG_N 2 (ps := []) (f1 := (3, [some (.int v0), some (.int v1), none, none, none], [.int (8 : Int32), .int v0])) (h1 := (sh, I, J)) rfl trivial (xG_Ci rfl rfl (Nat.le_of_ble_eq_true rfl) (Nat.le_of_ble_eq_true rfl) trivial rfl k)
set_option maxRecDepth 100000 in
theorem s_Colours_together_6 {d : Nat} {Q : xO → xH → Prop} {sh : List xS} {I : Nat → Nat → Int32} {J : Nat → Nat → Int64} {v0 : Int32} {v1 : Int32} {t0 : Int32}
    (k : xg d qL_part [.int v0, .int (16 : Int32)] (sh, I, J) (xI (fun v h1 => xG d zm_Colours_together (13, [some (.int v0), some (.int v1), some (.int t0), none, none], [.int v]) h1 Q) (fun x h1 => Q (.inr x) h1))) :
    xG d zm_Colours_together (6, [some (.int v0), some (.int v1), none, none, none], [.int t0]) (sh, I, J) Q := by
  exact xG_N 3 (ps := []) (f1 := (10, [some (.int v0), some (.int v1), some (.int t0), none, none], [.int (16 : Int32), .int v0])) (h1 := (sh, I, J)) rfl trivial (xG_Ci rfl rfl (Nat.le_of_ble_eq_true rfl) (Nat.le_of_ble_eq_true rfl) trivial rfl k)
set_option maxRecDepth 100000 in
theorem s_Colours_together_13 {d : Nat} {Q : xO → xH → Prop} {sh : List xS} {I : Nat → Nat → Int32} {J : Nat → Nat → Int64} {v0 : Int32} {v1 : Int32} {v2 : Int32} {t0 : Int32}
    (k : xg d qColours_delta [.int v1, .int v2] (sh, I, J) (xI (fun v h1 => xG d zm_Colours_together (18, [some (.int v0), some (.int v1), some (.int v2), none, none], [.int v, .int t0]) h1 Q) (fun x h1 => Q (.inr x) h1))) :
    xG d zm_Colours_together (13, [some (.int v0), some (.int v1), some (.int v2), none, none], [.int t0]) (sh, I, J) Q := by
  exact xG_N 2 (ps := []) (f1 := (15, [some (.int v0), some (.int v1), some (.int v2), none, none], [.int v2, .int v1, .int t0])) (h1 := (sh, I, J)) rfl trivial (xG_Ci rfl rfl (Nat.le_of_ble_eq_true rfl) (Nat.le_of_ble_eq_true rfl) trivial rfl k)
set_option maxRecDepth 100000 in
theorem s_Colours_together_18 {d : Nat} {Q : xO → xH → Prop} {sh : List xS} {I : Nat → Nat → Int32} {J : Nat → Nat → Int64} {v0 : Int32} {v1 : Int32} {v2 : Int32} {t0 : Int32} {t1 : Int32}
    (k : xg d qL_part [.int v0, .int (0 : Int32)] (sh, I, J) (xI (fun v h1 => xG d zm_Colours_together (29, [some (.int v0), some (.int v1), some (.int v2), some (.int ((t0 + t1) &&& (255 : Int32))), none], [.int v]) h1 Q) (fun x h1 => Q (.inr x) h1))) :
    xG d zm_Colours_together (18, [some (.int v0), some (.int v1), some (.int v2), none, none], [.int t1, .int t0]) (sh, I, J) Q := by
  exact xG_N 6 (ps := []) (f1 := (26, [some (.int v0), some (.int v1), some (.int v2), some (.int ((t0 + t1) &&& (255 : Int32))), none], [.int (0 : Int32), .int v0])) (h1 := (sh, I, J)) rfl trivial (xG_Ci rfl rfl (Nat.le_of_ble_eq_true rfl) (Nat.le_of_ble_eq_true rfl) trivial rfl k)
set_option maxRecDepth 100000 in
theorem s_Colours_together_29 {d : Nat} {Q : xO → xH → Prop} {sh : List xS} {I : Nat → Nat → Int32} {J : Nat → Nat → Int64} {v0 : Int32} {v1 : Int32} {v2 : Int32} {v3 : Int32} {t0 : Int32}
    (k : xg d qColours_delta [.int (v1 >>> ((8 : Int32) &&& 31)), .int v2] (sh, I, J) (xI (fun v h1 => xG d zm_Colours_together (37, [some (.int v0), some (.int v1), some (.int v2), some (.int v3), none], [.int v, .int t0]) h1 Q) (fun x h1 => Q (.inr x) h1))) :
    xG d zm_Colours_together (29, [some (.int v0), some (.int v1), some (.int v2), some (.int v3), none], [.int t0]) (sh, I, J) Q := by
  exact xG_N 4 (ps := []) (f1 := (34, [some (.int v0), some (.int v1), some (.int v2), some (.int v3), none], [.int v2, .int (v1 >>> ((8 : Int32) &&& 31)), .int t0])) (h1 := (sh, I, J)) rfl trivial (xG_Ci rfl rfl (Nat.le_of_ble_eq_true rfl) (Nat.le_of_ble_eq_true rfl) trivial rfl k)
set_option maxRecDepth 100000 in
theorem s_Colours_together_37 {d : Nat} {Q : xO → xH → Prop} {sh : List xS} {I : Nat → Nat → Int32} {J : Nat → Nat → Int64} {v0 : Int32} {v1 : Int32} {v2 : Int32} {v3 : Int32} {t0 : Int32} {t1 : Int32}
    (k : xg d qColours_delta [.int (v1 >>> ((16 : Int32) &&& 31)), .int v3] (sh, I, J) (xI (fun v h1 => xG d zm_Colours_together (46, [some (.int v0), some (.int v1), some (.int v2), some (.int v3), none], [.int v, .int (t0 + t1)]) h1 Q) (fun x h1 => Q (.inr x) h1))) :
    xG d zm_Colours_together (37, [some (.int v0), some (.int v1), some (.int v2), some (.int v3), none], [.int t1, .int t0]) (sh, I, J) Q := by
  exact xG_N 5 (ps := []) (f1 := (43, [some (.int v0), some (.int v1), some (.int v2), some (.int v3), none], [.int v3, .int (v1 >>> ((16 : Int32) &&& 31)), .int (t0 + t1)])) (h1 := (sh, I, J)) rfl trivial (xG_Ci rfl rfl (Nat.le_of_ble_eq_true rfl) (Nat.le_of_ble_eq_true rfl) trivial rfl k)
set_option maxRecDepth 100000 in
theorem s_Colours_together_46 {d : Nat} {Q : xO → xH → Prop} {sh : List xS} {I : Nat → Nat → Int32} {J : Nat → Nat → Int64} {v0 : Int32} {v1 : Int32} {v2 : Int32} {v3 : Int32} {t0 : Int32} {t1 : Int32}
    (k : Q (.inl (some (.int (((v0 &&& (-16711936 : Int32)) ||| (v3 <<< ((16 : Int32) &&& 31))) ||| ((t0 + t1) &&& (255 : Int32)))))) (sh, I, J)) :
    xG d zm_Colours_together (46, [some (.int v0), some (.int v1), some (.int v2), some (.int v3), none], [.int t1, .int t0]) (sh, I, J) Q := by
  exact xG_N 13 (ps := []) (f1 := (65, [some (.int v0), some (.int v1), some (.int v2), some (.int v3), some (.int ((t0 + t1) &&& (255 : Int32)))], [.int (((v0 &&& (-16711936 : Int32)) ||| (v3 <<< ((16 : Int32) &&& 31))) ||| ((t0 + t1) &&& (255 : Int32)))])) (h1 := (sh, I, J)) rfl trivial (xG_Q rfl rfl trivial k)
set_option maxRecDepth 100000 in
theorem s_Colours_delta_0 {d : Nat} {Q : xO → xH → Prop} {sh : List xS} {I : Nat → Nat → Int32} {J : Nat → Nat → Int64} {v0 : Int32} {v1 : Int32}
    (k : Q (.inl (some (.int ((v0.toInt8.toInt32 * v1.toInt8.toInt32) >>> ((5 : Int32) &&& 31))))) (sh, I, J)) :
    xG d zm_Colours_delta (0, [some (.int v0), some (.int v1)], []) (sh, I, J) Q := by
  exact xG_N 7 (ps := []) (f1 := (7, [some (.int v0), some (.int v1)], [.int ((v0.toInt8.toInt32 * v1.toInt8.toInt32) >>> ((5 : Int32) &&& 31))])) (h1 := (sh, I, J)) rfl trivial (xG_Q rfl rfl trivial k)
set_option maxRecDepth 100000 in
theorem s_Colours_putGreenOn_0 {d : Nat} {Q : xO → xH → Prop} {sh : List xS} {I : Nat → Nat → Int32} {J : Nat → Nat → Int64} {r0 : Nat}
    (k : xG d zm_Colours_putGreenOn (2, [some (.ref r0), some (.int (0 : Int32)), none], []) (sh, I, J) Q) :
    xG d zm_Colours_putGreenOn (0, [some (.ref r0), none, none], []) (sh, I, J) Q := by
  exact xG_N 2 (ps := []) (f1 := (2, [some (.ref r0), some (.int (0 : Int32)), none], [])) (h1 := (sh, I, J)) rfl trivial (k)
set_option maxRecDepth 100000 in
theorem s_Colours_putGreenOn_2 {d : Nat} {Q : xO → xH → Prop} {sh : List xS} {I : Nat → Nat → Int32} {J : Nat → Nat → Int64} {r0 : Nat} {v1 : Int32} {o2 : Option Value}
    (ko : xOb sh r0 8)
    (k : xg d qPlane_count [.ref r0] (sh, I, J) (xI (fun v h1 => xG d zm_Colours_putGreenOn (7, [some (.ref r0), some (.int v1), o2], [.int v, .int v1]) h1 Q) (fun x h1 => Q (.inr x) h1))) :
    xG d zm_Colours_putGreenOn (2, [some (.ref r0), some (.int v1), o2], []) (sh, I, J) Q := by
  exact xG_N 2 (ps := []) (f1 := (4, [some (.ref r0), some (.int v1), o2], [.ref r0, .int v1])) (h1 := (sh, I, J)) rfl trivial (xG_Ci rfl rfl (Nat.le_of_ble_eq_true rfl) (Nat.le_of_ble_eq_true rfl) ⟨_, _, rfl, ko⟩ rfl k)
set_option maxRecDepth 100000 in
theorem s_Colours_putGreenOn_7 {d : Nat} {Q : xO → xH → Prop} {sh : List xS} {I : Nat → Nat → Int32} {J : Nat → Nat → Int64} {r0 : Nat} {v1 : Int32} {o2 : Option Value} {t0 : Int32} {t1 : Int32}
    (k1 : t1 ≤ t0 → xG d zm_Colours_putGreenOn (37, [some (.ref r0), some (.int v1), o2], []) (sh, I, J) Q)
    (k2 : ¬ (t1 ≤ t0) → xG d zm_Colours_putGreenOn (10, [some (.ref r0), some (.int v1), o2], []) (sh, I, J) Q) :
    xG d zm_Colours_putGreenOn (7, [some (.ref r0), some (.int v1), o2], [.int t1, .int t0]) (sh, I, J) Q := by
  exact xG_B rfl rfl k1 k2
set_option maxRecDepth 100000 in
theorem s_Colours_putGreenOn_10 {d : Nat} {Q : xO → xH → Prop} {sh : List xS} {I : Nat → Nat → Int32} {J : Nat → Nat → Int64} {r0 : Nat} {v1 : Int32} {o2 : Option Value} {a1 : Nat} {n2 : Nat}
    (e0 : xRr sh r0 8 0 a1)
    (e1 : xAr sh a1 .int n2)
    (e2 : vp_in v1 n2)
    (k : xg d qColours_greenForOthers [.int (I a1 v1.toNatClampNeg)] (sh, I, J) (xI (fun v h1 => xG d zm_Colours_putGreenOn (27, [some (.ref r0), some (.int v1), some (.int (I a1 v1.toNatClampNeg))], [.int v, .int (I a1 v1.toNatClampNeg), .int v1, .ref a1]) h1 Q) (fun x h1 => Q (.inr x) h1))) :
    xG d zm_Colours_putGreenOn (10, [some (.ref r0), some (.int v1), o2], []) (sh, I, J) Q := by
  obtain rfl := e0.eq
  obtain rfl := e1.eq
  exact xG_N 10 (ps := [xRf sh r0 8 0, xA sh (xrf sh r0 0) .int, vp_in v1 (xlen sh (xrf sh r0 0)), xRf sh r0 8 0]) (f1 := (24, [some (.ref r0), some (.int v1), some (.int (I (xrf sh r0 0) v1.toNatClampNeg))], [.int (I (xrf sh r0 0) v1.toNatClampNeg), .int (I (xrf sh r0 0) v1.toNatClampNeg), .int v1, .ref (xrf sh r0 0)])) (h1 := (sh, I, J)) rfl ⟨e0.rf, e1.ar, e2, e0.rf⟩ (xG_Ci rfl rfl (Nat.le_of_ble_eq_true rfl) (Nat.le_of_ble_eq_true rfl) trivial rfl k)
set_option maxRecDepth 100000 in
theorem s_Colours_putGreenOn_27 {d : Nat} {Q : xO → xH → Prop} {sh : List xS} {I : Nat → Nat → Int32} {J : Nat → Nat → Int64} {r0 : Nat} {v1 : Int32} {v2 : Int32} {t0 : Nat} {t1 : Int32} {t2 : Int32} {t3 : Int32}
    (k : xg d qL_sum [.int t2, .int t3] (sh, I, J) (xI (fun v h1 => xG d zm_Colours_putGreenOn (30, [some (.ref r0), some (.int v1), some (.int v2)], [.int v, .int t1, .ref t0]) h1 Q) (fun x h1 => Q (.inr x) h1))) :
    xG d zm_Colours_putGreenOn (27, [some (.ref r0), some (.int v1), some (.int v2)], [.int t3, .int t2, .int t1, .ref t0]) (sh, I, J) Q := by
  exact xG_Ci rfl rfl (Nat.le_of_ble_eq_true rfl) (Nat.le_of_ble_eq_true rfl) trivial rfl k
set_option maxRecDepth 100000 in
theorem s_Colours_putGreenOn_30 {d : Nat} {Q : xO → xH → Prop} {sh : List xS} {I : Nat → Nat → Int32} {J : Nat → Nat → Int64} {r0 : Nat} {v1 : Int32} {v2 : Int32} {t0 : Nat} {t1 : Int32} {t2 : Int32} {n1 : Nat}
    (e0 : xAr sh t0 .int n1)
    (e1 : 4 ≤ t0)
    (e2 : vp_in t1 n1)
    (k : xG d zm_Colours_putGreenOn (2, [some (.ref r0), some (.int (v1 + (1 : Int32))), some (.int v2)], []) (sh, xup I t0 t1.toNatClampNeg t2, J) Q) :
    xG d zm_Colours_putGreenOn (30, [some (.ref r0), some (.int v1), some (.int v2)], [.int t2, .int t1, .ref t0]) (sh, I, J) Q := by
  obtain rfl := e0.eq
  exact xG_N 3 (ps := [xW sh t0 .int, vp_in t1 (xlen sh t0)]) (f1 := (2, [some (.ref r0), some (.int (v1 + (1 : Int32))), some (.int v2)], [])) (h1 := (sh, xup I t0 t1.toNatClampNeg t2, J)) rfl ⟨⟨e0.ar, e1⟩, e2⟩ (k)
set_option maxRecDepth 100000 in
theorem s_Colours_putGreenOn_37 {d : Nat} {Q : xO → xH → Prop} {sh : List xS} {I : Nat → Nat → Int32} {J : Nat → Nat → Int64} {r0 : Nat} {v1 : Int32} {o2 : Option Value}
    (k : Q (.inl (none)) (sh, I, J)) :
    xG d zm_Colours_putGreenOn (37, [some (.ref r0), some (.int v1), o2], []) (sh, I, J) Q := by
  exact xG_Q rfl rfl trivial k
set_option maxRecDepth 100000 in
theorem s_Colours_takeGreenOff_0 {d : Nat} {Q : xO → xH → Prop} {sh : List xS} {I : Nat → Nat → Int32} {J : Nat → Nat → Int64} {r0 : Nat}
    (k : xG d zm_Colours_takeGreenOff (2, [some (.ref r0), some (.int (0 : Int32)), none], []) (sh, I, J) Q) :
    xG d zm_Colours_takeGreenOff (0, [some (.ref r0), none, none], []) (sh, I, J) Q := by
  exact xG_N 2 (ps := []) (f1 := (2, [some (.ref r0), some (.int (0 : Int32)), none], [])) (h1 := (sh, I, J)) rfl trivial (k)
set_option maxRecDepth 100000 in
theorem s_Colours_takeGreenOff_2 {d : Nat} {Q : xO → xH → Prop} {sh : List xS} {I : Nat → Nat → Int32} {J : Nat → Nat → Int64} {r0 : Nat} {v1 : Int32} {o2 : Option Value}
    (ko : xOb sh r0 8)
    (k : xg d qPlane_count [.ref r0] (sh, I, J) (xI (fun v h1 => xG d zm_Colours_takeGreenOff (7, [some (.ref r0), some (.int v1), o2], [.int v, .int v1]) h1 Q) (fun x h1 => Q (.inr x) h1))) :
    xG d zm_Colours_takeGreenOff (2, [some (.ref r0), some (.int v1), o2], []) (sh, I, J) Q := by
  exact xG_N 2 (ps := []) (f1 := (4, [some (.ref r0), some (.int v1), o2], [.ref r0, .int v1])) (h1 := (sh, I, J)) rfl trivial (xG_Ci rfl rfl (Nat.le_of_ble_eq_true rfl) (Nat.le_of_ble_eq_true rfl) ⟨_, _, rfl, ko⟩ rfl k)
set_option maxRecDepth 100000 in
theorem s_Colours_takeGreenOff_7 {d : Nat} {Q : xO → xH → Prop} {sh : List xS} {I : Nat → Nat → Int32} {J : Nat → Nat → Int64} {r0 : Nat} {v1 : Int32} {o2 : Option Value} {t0 : Int32} {t1 : Int32}
    (k1 : t1 ≤ t0 → xG d zm_Colours_takeGreenOff (37, [some (.ref r0), some (.int v1), o2], []) (sh, I, J) Q)
    (k2 : ¬ (t1 ≤ t0) → xG d zm_Colours_takeGreenOff (10, [some (.ref r0), some (.int v1), o2], []) (sh, I, J) Q) :
    xG d zm_Colours_takeGreenOff (7, [some (.ref r0), some (.int v1), o2], [.int t1, .int t0]) (sh, I, J) Q := by
  exact xG_B rfl rfl k1 k2
set_option maxRecDepth 100000 in
theorem s_Colours_takeGreenOff_10 {d : Nat} {Q : xO → xH → Prop} {sh : List xS} {I : Nat → Nat → Int32} {J : Nat → Nat → Int64} {r0 : Nat} {v1 : Int32} {o2 : Option Value} {a1 : Nat} {n2 : Nat}
    (e0 : xRr sh r0 8 0 a1)
    (e1 : xAr sh a1 .int n2)
    (e2 : vp_in v1 n2)
    (k : xg d qColours_greenForOthers [.int (I a1 v1.toNatClampNeg)] (sh, I, J) (xI (fun v h1 => xG d zm_Colours_takeGreenOff (27, [some (.ref r0), some (.int v1), some (.int (I a1 v1.toNatClampNeg))], [.int v, .int (I a1 v1.toNatClampNeg), .int v1, .ref a1]) h1 Q) (fun x h1 => Q (.inr x) h1))) :
    xG d zm_Colours_takeGreenOff (10, [some (.ref r0), some (.int v1), o2], []) (sh, I, J) Q := by
  obtain rfl := e0.eq
  obtain rfl := e1.eq
  exact xG_N 10 (ps := [xRf sh r0 8 0, xA sh (xrf sh r0 0) .int, vp_in v1 (xlen sh (xrf sh r0 0)), xRf sh r0 8 0]) (f1 := (24, [some (.ref r0), some (.int v1), some (.int (I (xrf sh r0 0) v1.toNatClampNeg))], [.int (I (xrf sh r0 0) v1.toNatClampNeg), .int (I (xrf sh r0 0) v1.toNatClampNeg), .int v1, .ref (xrf sh r0 0)])) (h1 := (sh, I, J)) rfl ⟨e0.rf, e1.ar, e2, e0.rf⟩ (xG_Ci rfl rfl (Nat.le_of_ble_eq_true rfl) (Nat.le_of_ble_eq_true rfl) trivial rfl k)
set_option maxRecDepth 100000 in
theorem s_Colours_takeGreenOff_27 {d : Nat} {Q : xO → xH → Prop} {sh : List xS} {I : Nat → Nat → Int32} {J : Nat → Nat → Int64} {r0 : Nat} {v1 : Int32} {v2 : Int32} {t0 : Nat} {t1 : Int32} {t2 : Int32} {t3 : Int32}
    (k : xg d qL_difference [.int t2, .int t3] (sh, I, J) (xI (fun v h1 => xG d zm_Colours_takeGreenOff (30, [some (.ref r0), some (.int v1), some (.int v2)], [.int v, .int t1, .ref t0]) h1 Q) (fun x h1 => Q (.inr x) h1))) :
    xG d zm_Colours_takeGreenOff (27, [some (.ref r0), some (.int v1), some (.int v2)], [.int t3, .int t2, .int t1, .ref t0]) (sh, I, J) Q := by
  exact xG_Ci rfl rfl (Nat.le_of_ble_eq_true rfl) (Nat.le_of_ble_eq_true rfl) trivial rfl k
set_option maxRecDepth 100000 in
theorem s_Colours_takeGreenOff_30 {d : Nat} {Q : xO → xH → Prop} {sh : List xS} {I : Nat → Nat → Int32} {J : Nat → Nat → Int64} {r0 : Nat} {v1 : Int32} {v2 : Int32} {t0 : Nat} {t1 : Int32} {t2 : Int32} {n1 : Nat}
    (e0 : xAr sh t0 .int n1)
    (e1 : 4 ≤ t0)
    (e2 : vp_in t1 n1)
    (k : xG d zm_Colours_takeGreenOff (2, [some (.ref r0), some (.int (v1 + (1 : Int32))), some (.int v2)], []) (sh, xup I t0 t1.toNatClampNeg t2, J) Q) :
    xG d zm_Colours_takeGreenOff (30, [some (.ref r0), some (.int v1), some (.int v2)], [.int t2, .int t1, .ref t0]) (sh, I, J) Q := by
  obtain rfl := e0.eq
  exact xG_N 3 (ps := [xW sh t0 .int, vp_in t1 (xlen sh t0)]) (f1 := (2, [some (.ref r0), some (.int (v1 + (1 : Int32))), some (.int v2)], [])) (h1 := (sh, xup I t0 t1.toNatClampNeg t2, J)) rfl ⟨⟨e0.ar, e1⟩, e2⟩ (k)
set_option maxRecDepth 100000 in
theorem s_Colours_takeGreenOff_37 {d : Nat} {Q : xO → xH → Prop} {sh : List xS} {I : Nat → Nat → Int32} {J : Nat → Nat → Int64} {r0 : Nat} {v1 : Int32} {o2 : Option Value}
    (k : Q (.inl (none)) (sh, I, J)) :
    xG d zm_Colours_takeGreenOff (37, [some (.ref r0), some (.int v1), o2], []) (sh, I, J) Q := by
  exact xG_Q rfl rfl trivial k
set_option maxRecDepth 100000 in
theorem s_Colours_greenForOthers_0 {d : Nat} {Q : xO → xH → Prop} {sh : List xS} {I : Nat → Nat → Int32} {J : Nat → Nat → Int64} {v0 : Int32}
    (k : xg d qL_part [.int v0, .int (8 : Int32)] (sh, I, J) (xI (fun v h1 => xG d zm_Colours_greenForOthers (6, [some (.int v0)], [.int v]) h1 Q) (fun x h1 => Q (.inr x) h1))) :
    xG d zm_Colours_greenForOthers (0, [some (.int v0)], []) (sh, I, J) Q := by
  exact xG_N 2 (ps := []) (f1 := (3, [some (.int v0)], [.int (8 : Int32), .int v0])) (h1 := (sh, I, J)) rfl trivial (xG_Ci rfl rfl (Nat.le_of_ble_eq_true rfl) (Nat.le_of_ble_eq_true rfl) trivial rfl k)
set_option maxRecDepth 100000 in
theorem s_Colours_greenForOthers_6 {d : Nat} {Q : xO → xH → Prop} {sh : List xS} {I : Nat → Nat → Int32} {J : Nat → Nat → Int64} {v0 : Int32} {t0 : Int32}
    (k : Q (.inl (some (.int (t0 * (65537 : Int32))))) (sh, I, J)) :
    xG d zm_Colours_greenForOthers (6, [some (.int v0)], [.int t0]) (sh, I, J) Q := by
  exact xG_N 2 (ps := []) (f1 := (9, [some (.int v0)], [.int (t0 * (65537 : Int32))])) (h1 := (sh, I, J)) rfl trivial (xG_Q rfl rfl trivial k)
set_option maxRecDepth 100000 in
theorem s_Colours_packing_0 {d : Nat} {Q : xO → xH → Prop} {sh : List xS} {I : Nat → Nat → Int32} {J : Nat → Nat → Int64} {v0 : Int32}
    (k1 : (2 : Int32) < v0 → xG d zm_Colours_packing (9, [some (.int v0)], []) (sh, I, J) Q)
    (k2 : ¬ ((2 : Int32) < v0) → xG d zm_Colours_packing (5, [some (.int v0)], []) (sh, I, J) Q) :
    xG d zm_Colours_packing (0, [some (.int v0)], []) (sh, I, J) Q := by
  exact xG_N 2 (ps := []) (f1 := (2, [some (.int v0)], [.int (2 : Int32), .int v0])) (h1 := (sh, I, J)) rfl trivial (xG_B rfl rfl k1 k2)
set_option maxRecDepth 100000 in
theorem s_Colours_packing_5 {d : Nat} {Q : xO → xH → Prop} {sh : List xS} {I : Nat → Nat → Int32} {J : Nat → Nat → Int64} {v0 : Int32}
    (k : Q (.inl (some (.int (3 : Int32)))) (sh, I, J)) :
    xG d zm_Colours_packing (5, [some (.int v0)], []) (sh, I, J) Q := by
  exact xG_N 2 (ps := []) (f1 := (19, [some (.int v0)], [.int (3 : Int32)])) (h1 := (sh, I, J)) rfl trivial (xG_Q rfl rfl trivial k)
set_option maxRecDepth 100000 in
theorem s_Colours_packing_9 {d : Nat} {Q : xO → xH → Prop} {sh : List xS} {I : Nat → Nat → Int32} {J : Nat → Nat → Int64} {v0 : Int32}
    (k1 : (4 : Int32) < v0 → xG d zm_Colours_packing (18, [some (.int v0)], []) (sh, I, J) Q)
    (k2 : ¬ ((4 : Int32) < v0) → xG d zm_Colours_packing (14, [some (.int v0)], []) (sh, I, J) Q) :
    xG d zm_Colours_packing (9, [some (.int v0)], []) (sh, I, J) Q := by
  exact xG_N 2 (ps := []) (f1 := (11, [some (.int v0)], [.int (4 : Int32), .int v0])) (h1 := (sh, I, J)) rfl trivial (xG_B rfl rfl k1 k2)
set_option maxRecDepth 100000 in
theorem s_Colours_packing_14 {d : Nat} {Q : xO → xH → Prop} {sh : List xS} {I : Nat → Nat → Int32} {J : Nat → Nat → Int64} {v0 : Int32}
    (k : Q (.inl (some (.int (2 : Int32)))) (sh, I, J)) :
    xG d zm_Colours_packing (14, [some (.int v0)], []) (sh, I, J) Q := by
  exact xG_N 2 (ps := []) (f1 := (19, [some (.int v0)], [.int (2 : Int32)])) (h1 := (sh, I, J)) rfl trivial (xG_Q rfl rfl trivial k)
set_option maxRecDepth 100000 in
theorem s_Colours_packing_18 {d : Nat} {Q : xO → xH → Prop} {sh : List xS} {I : Nat → Nat → Int32} {J : Nat → Nat → Int64} {v0 : Int32}
    (k : Q (.inl (some (.int (1 : Int32)))) (sh, I, J)) :
    xG d zm_Colours_packing (18, [some (.int v0)], []) (sh, I, J) Q := by
  exact xG_N 1 (ps := []) (f1 := (19, [some (.int v0)], [.int (1 : Int32)])) (h1 := (sh, I, J)) rfl trivial (xG_Q rfl rfl trivial k)
set_option maxRecDepth 100000 in
theorem s_Colours_packedWidth_0 {d : Nat} {Q : xO → xH → Prop} {sh : List xS} {I : Nat → Nat → Int32} {J : Nat → Nat → Int64} {v0 : Int32} {v1 : Int32}
    (k : Q (.inl (some (.int (((v0 + ((1 : Int32) <<< (v1 &&& 31))) - (1 : Int32)) >>> (v1 &&& 31))))) (sh, I, J)) :
    xG d zm_Colours_packedWidth (0, [some (.int v0), some (.int v1)], []) (sh, I, J) Q := by
  exact xG_N 9 (ps := []) (f1 := (9, [some (.int v0), some (.int v1)], [.int (((v0 + ((1 : Int32) <<< (v1 &&& 31))) - (1 : Int32)) >>> (v1 &&& 31))])) (h1 := (sh, I, J)) rfl trivial (xG_Q rfl rfl trivial k)
set_option maxRecDepth 100000 in
theorem s_Colours_pack_0 {d : Nat} {Q : xO → xH → Prop} {sh : List xS} {I : Nat → Nat → Int32} {J : Nat → Nat → Int64} {r0 : Nat} {r1 : Nat} {v2 : Int32}
    (k : xg d qColours_packing [.int v2] (sh, I, J) (xI (fun v h1 => xG d zm_Colours_pack (4, [some (.ref r0), some (.ref r1), some (.int v2), none, none, none, none, none, none, none, none, none], [.int v]) h1 Q) (fun x h1 => Q (.inr x) h1))) :
    xG d zm_Colours_pack (0, [some (.ref r0), some (.ref r1), some (.int v2), none, none, none, none, none, none, none, none, none], []) (sh, I, J) Q := by
  exact xG_N 1 (ps := []) (f1 := (1, [some (.ref r0), some (.ref r1), some (.int v2), none, none, none, none, none, none, none, none, none], [.int v2])) (h1 := (sh, I, J)) rfl trivial (xG_Ci rfl rfl (Nat.le_of_ble_eq_true rfl) (Nat.le_of_ble_eq_true rfl) trivial rfl k)
set_option maxRecDepth 100000 in
theorem s_Colours_pack_4 {d : Nat} {Q : xO → xH → Prop} {sh : List xS} {I : Nat → Nat → Int32} {J : Nat → Nat → Int64} {r0 : Nat} {r1 : Nat} {v2 : Int32} {t0 : Int32}
    (e0 : xOb sh r0 8)
    (k : xg d qColours_packedWidth [.int (I r0 1), .int t0] (sh, I, J) (xI (fun v h1 => xG d zm_Colours_pack (13, [some (.ref r0), some (.ref r1), some (.int v2), some (.int t0), none, none, none, none, none, none, none, none], [.int v]) h1 Q) (fun x h1 => Q (.inr x) h1))) :
    xG d zm_Colours_pack (4, [some (.ref r0), some (.ref r1), some (.int v2), none, none, none, none, none, none, none, none, none], [.int t0]) (sh, I, J) Q := by
  exact xG_N 4 (ps := [xOb sh r0 8]) (f1 := (10, [some (.ref r0), some (.ref r1), some (.int v2), some (.int t0), none, none, none, none, none, none, none, none], [.int t0, .int (I r0 1)])) (h1 := (sh, I, J)) rfl e0 (xG_Ci rfl rfl (Nat.le_of_ble_eq_true rfl) (Nat.le_of_ble_eq_true rfl) trivial rfl k)
set_option maxRecDepth 100000 in
theorem s_Colours_pack_13 {d : Nat} {Q : xO → xH → Prop} {sh : List xS} {I : Nat → Nat → Int32} {J : Nat → Nat → Int64} {r0 : Nat} {r1 : Nat} {v2 : Int32} {v3 : Int32} {t0 : Int32}
    (k : xG d zm_Colours_pack (18, [some (.ref r0), some (.ref r1), some (.int v2), some (.int v3), some (.int t0), some (.int (0 : Int32)), none, none, none, none, none, none], []) (sh, I, J) Q) :
    xG d zm_Colours_pack (13, [some (.ref r0), some (.ref r1), some (.int v2), some (.int v3), none, none, none, none, none, none, none, none], [.int t0]) (sh, I, J) Q := by
  exact xG_N 3 (ps := []) (f1 := (18, [some (.ref r0), some (.ref r1), some (.int v2), some (.int v3), some (.int t0), some (.int (0 : Int32)), none, none, none, none, none, none], [])) (h1 := (sh, I, J)) rfl trivial (k)
set_option maxRecDepth 100000 in
theorem s_Colours_pack_18 {d : Nat} {Q : xO → xH → Prop} {sh : List xS} {I : Nat → Nat → Int32} {J : Nat → Nat → Int64} {r0 : Nat} {r1 : Nat} {v2 : Int32} {v3 : Int32} {v4 : Int32} {v5 : Int32} {o6 : Option Value} {o7 : Option Value} {o8 : Option Value} {o9 : Option Value} {o10 : Option Value} {o11 : Option Value}
    (e0 : xOb sh r0 8)
    (k1 : (I r0 2) ≤ v5 → xG d zm_Colours_pack (150, [some (.ref r0), some (.ref r1), some (.int v2), some (.int v3), some (.int v4), some (.int v5), o6, o7, o8, o9, o10, o11], []) (sh, I, J) Q)
    (k2 : ¬ ((I r0 2) ≤ v5) → xG d zm_Colours_pack (27, [some (.ref r0), some (.ref r1), some (.int v2), some (.int v3), some (.int v4), some (.int v5), o6, o7, o8, o9, o10, o11], []) (sh, I, J) Q) :
    xG d zm_Colours_pack (18, [some (.ref r0), some (.ref r1), some (.int v2), some (.int v3), some (.int v4), some (.int v5), o6, o7, o8, o9, o10, o11], []) (sh, I, J) Q := by
  exact xG_N 3 (ps := [xOb sh r0 8]) (f1 := (24, [some (.ref r0), some (.ref r1), some (.int v2), some (.int v3), some (.int v4), some (.int v5), o6, o7, o8, o9, o10, o11], [.int (I r0 2), .int v5])) (h1 := (sh, I, J)) rfl e0 (xG_B rfl rfl k1 k2)
set_option maxRecDepth 100000 in
theorem s_Colours_pack_27 {d : Nat} {Q : xO → xH → Prop} {sh : List xS} {I : Nat → Nat → Int32} {J : Nat → Nat → Int64} {r0 : Nat} {r1 : Nat} {v2 : Int32} {v3 : Int32} {v4 : Int32} {v5 : Int32} {o6 : Option Value} {o7 : Option Value} {o8 : Option Value} {o9 : Option Value} {o10 : Option Value} {o11 : Option Value}
    (k : xG d zm_Colours_pack (30, [some (.ref r0), some (.ref r1), some (.int v2), some (.int v3), some (.int v4), some (.int v5), some (.int (0 : Int32)), o7, o8, o9, o10, o11], []) (sh, I, J) Q) :
    xG d zm_Colours_pack (27, [some (.ref r0), some (.ref r1), some (.int v2), some (.int v3), some (.int v4), some (.int v5), o6, o7, o8, o9, o10, o11], []) (sh, I, J) Q := by
  exact xG_N 2 (ps := []) (f1 := (30, [some (.ref r0), some (.ref r1), some (.int v2), some (.int v3), some (.int v4), some (.int v5), some (.int (0 : Int32)), o7, o8, o9, o10, o11], [])) (h1 := (sh, I, J)) rfl trivial (k)
set_option maxRecDepth 100000 in
theorem s_Colours_pack_30 {d : Nat} {Q : xO → xH → Prop} {sh : List xS} {I : Nat → Nat → Int32} {J : Nat → Nat → Int64} {r0 : Nat} {r1 : Nat} {v2 : Int32} {v3 : Int32} {v4 : Int32} {v5 : Int32} {v6 : Int32} {o7 : Option Value} {o8 : Option Value} {o9 : Option Value} {o10 : Option Value} {o11 : Option Value}
    (k1 : v4 ≤ v6 → xG d zm_Colours_pack (144, [some (.ref r0), some (.ref r1), some (.int v2), some (.int v3), some (.int v4), some (.int v5), some (.int v6), o7, o8, o9, o10, o11], []) (sh, I, J) Q)
    (k2 : ¬ (v4 ≤ v6) → xG d zm_Colours_pack (37, [some (.ref r0), some (.ref r1), some (.int v2), some (.int v3), some (.int v4), some (.int v5), some (.int v6), o7, o8, o9, o10, o11], []) (sh, I, J) Q) :
    xG d zm_Colours_pack (30, [some (.ref r0), some (.ref r1), some (.int v2), some (.int v3), some (.int v4), some (.int v5), some (.int v6), o7, o8, o9, o10, o11], []) (sh, I, J) Q := by
  exact xG_N 2 (ps := []) (f1 := (34, [some (.ref r0), some (.ref r1), some (.int v2), some (.int v3), some (.int v4), some (.int v5), some (.int v6), o7, o8, o9, o10, o11], [.int v4, .int v6])) (h1 := (sh, I, J)) rfl trivial (xG_B rfl rfl k1 k2)
set_option maxRecDepth 100000 in
theorem s_Colours_pack_37 {d : Nat} {Q : xO → xH → Prop} {sh : List xS} {I : Nat → Nat → Int32} {J : Nat → Nat → Int64} {r0 : Nat} {r1 : Nat} {v2 : Int32} {v3 : Int32} {v4 : Int32} {v5 : Int32} {v6 : Int32} {o7 : Option Value} {o8 : Option Value} {o9 : Option Value} {o10 : Option Value} {o11 : Option Value}
    (e0 : xOb sh r0 8)
    (k : xG d zm_Colours_pack (64, [some (.ref r0), some (.ref r1), some (.int v2), some (.int v3), some (.int v4), some (.int v5), some (.int v6), some (.int (v6 <<< (v3 &&& 31))), some (.int (xmin ((1 : Int32) <<< (v3 &&& 31)) ((I r0 1) - (v6 <<< (v3 &&& 31))))), some (.int (0 : Int32)), some (.int (0 : Int32)), o11], []) (sh, I, J) Q) :
    xG d zm_Colours_pack (37, [some (.ref r0), some (.ref r1), some (.int v2), some (.int v3), some (.int v4), some (.int v5), some (.int v6), o7, o8, o9, o10, o11], []) (sh, I, J) Q := by
  exact xG_N 17 (ps := [xOb sh r0 8, (([] : List Value).map fun v => v.category).sum ≤ 8]) (f1 := (64, [some (.ref r0), some (.ref r1), some (.int v2), some (.int v3), some (.int v4), some (.int v5), some (.int v6), some (.int (v6 <<< (v3 &&& 31))), some (.int (xmin ((1 : Int32) <<< (v3 &&& 31)) ((I r0 1) - (v6 <<< (v3 &&& 31))))), some (.int (0 : Int32)), some (.int (0 : Int32)), o11], [])) (h1 := (sh, I, J)) rfl ⟨e0, (Nat.le_of_ble_eq_true rfl)⟩ (k)
set_option maxRecDepth 100000 in
theorem s_Colours_pack_64 {d : Nat} {Q : xO → xH → Prop} {sh : List xS} {I : Nat → Nat → Int32} {J : Nat → Nat → Int64} {r0 : Nat} {r1 : Nat} {v2 : Int32} {v3 : Int32} {v4 : Int32} {v5 : Int32} {v6 : Int32} {v7 : Int32} {v8 : Int32} {v9 : Int32} {v10 : Int32} {o11 : Option Value}
    (k1 : v8 ≤ v10 → xG d zm_Colours_pack (117, [some (.ref r0), some (.ref r1), some (.int v2), some (.int v3), some (.int v4), some (.int v5), some (.int v6), some (.int v7), some (.int v8), some (.int v9), some (.int v10), o11], []) (sh, I, J) Q)
    (k2 : ¬ (v8 ≤ v10) → xG d zm_Colours_pack (71, [some (.ref r0), some (.ref r1), some (.int v2), some (.int v3), some (.int v4), some (.int v5), some (.int v6), some (.int v7), some (.int v8), some (.int v9), some (.int v10), o11], []) (sh, I, J) Q) :
    xG d zm_Colours_pack (64, [some (.ref r0), some (.ref r1), some (.int v2), some (.int v3), some (.int v4), some (.int v5), some (.int v6), some (.int v7), some (.int v8), some (.int v9), some (.int v10), o11], []) (sh, I, J) Q := by
  exact xG_N 2 (ps := []) (f1 := (68, [some (.ref r0), some (.ref r1), some (.int v2), some (.int v3), some (.int v4), some (.int v5), some (.int v6), some (.int v7), some (.int v8), some (.int v9), some (.int v10), o11], [.int v8, .int v10])) (h1 := (sh, I, J)) rfl trivial (xG_B rfl rfl k1 k2)
set_option maxRecDepth 100000 in
theorem s_Colours_pack_71 {d : Nat} {Q : xO → xH → Prop} {sh : List xS} {I : Nat → Nat → Int32} {J : Nat → Nat → Int64} {r0 : Nat} {r1 : Nat} {v2 : Int32} {v3 : Int32} {v4 : Int32} {v5 : Int32} {v6 : Int32} {v7 : Int32} {v8 : Int32} {v9 : Int32} {v10 : Int32} {o11 : Option Value} {a1 : Nat} {n2 : Nat}
    (e0 : xRr sh r0 8 0 a1)
    (e1 : xAr sh a1 .int n2)
    (e2 : vp_in (((v5 * (I r0 1)) + v7) + v10) n2)
    (k : xg d qColours_numberOf [.int (I a1 (((v5 * (I r0 1)) + v7) + v10).toNatClampNeg), .ref r1, .int v2] (sh, I, J) (xI (fun v h1 => xG d zm_Colours_pack (100, [some (.ref r0), some (.ref r1), some (.int v2), some (.int v3), some (.int v4), some (.int v5), some (.int v6), some (.int v7), some (.int v8), some (.int v9), some (.int v10), some (.int (I a1 (((v5 * (I r0 1)) + v7) + v10).toNatClampNeg))], [.int v, .int v9]) h1 Q) (fun x h1 => Q (.inr x) h1))) :
    xG d zm_Colours_pack (71, [some (.ref r0), some (.ref r1), some (.int v2), some (.int v3), some (.int v4), some (.int v5), some (.int v6), some (.int v7), some (.int v8), some (.int v9), some (.int v10), o11], []) (sh, I, J) Q := by
  obtain rfl := e0.eq
  obtain rfl := e1.eq
  exact xG_N 16 (ps := [xRf sh r0 8 0, xOb sh r0 8, xA sh (xrf sh r0 0) .int, vp_in (((v5 * (I r0 1)) + v7) + v10) (xlen sh (xrf sh r0 0))]) (f1 := (97, [some (.ref r0), some (.ref r1), some (.int v2), some (.int v3), some (.int v4), some (.int v5), some (.int v6), some (.int v7), some (.int v8), some (.int v9), some (.int v10), some (.int (I (xrf sh r0 0) (((v5 * (I r0 1)) + v7) + v10).toNatClampNeg))], [.int v2, .ref r1, .int (I (xrf sh r0 0) (((v5 * (I r0 1)) + v7) + v10).toNatClampNeg), .int v9])) (h1 := (sh, I, J)) rfl ⟨e0.rf, e0.ob, e1.ar, e2⟩ (xG_Ci rfl rfl (Nat.le_of_ble_eq_true rfl) (Nat.le_of_ble_eq_true rfl) trivial rfl k)
set_option maxRecDepth 100000 in
theorem s_Colours_pack_100 {d : Nat} {Q : xO → xH → Prop} {sh : List xS} {I : Nat → Nat → Int32} {J : Nat → Nat → Int64} {r0 : Nat} {r1 : Nat} {v2 : Int32} {v3 : Int32} {v4 : Int32} {v5 : Int32} {v6 : Int32} {v7 : Int32} {v8 : Int32} {v9 : Int32} {v10 : Int32} {v11 : Int32} {t0 : Int32} {t1 : Int32}
    (k : xG d zm_Colours_pack (64, [some (.ref r0), some (.ref r1), some (.int v2), some (.int v3), some (.int v4), some (.int v5), some (.int v6), some (.int v7), some (.int v8), some (.int (t0 ||| (t1 <<< ((v10 * ((8 : Int32) >>> (v3 &&& 31))) &&& 31)))), some (.int (v10 + (1 : Int32))), some (.int v11)], []) (sh, I, J) Q) :
    xG d zm_Colours_pack (100, [some (.ref r0), some (.ref r1), some (.int v2), some (.int v3), some (.int v4), some (.int v5), some (.int v6), some (.int v7), some (.int v8), some (.int v9), some (.int v10), some (.int v11)], [.int t1, .int t0]) (sh, I, J) Q := by
  exact xG_N 10 (ps := []) (f1 := (64, [some (.ref r0), some (.ref r1), some (.int v2), some (.int v3), some (.int v4), some (.int v5), some (.int v6), some (.int v7), some (.int v8), some (.int (t0 ||| (t1 <<< ((v10 * ((8 : Int32) >>> (v3 &&& 31))) &&& 31)))), some (.int (v10 + (1 : Int32))), some (.int v11)], [])) (h1 := (sh, I, J)) rfl trivial (k)
set_option maxRecDepth 100000 in
theorem s_Colours_pack_117 {d : Nat} {Q : xO → xH → Prop} {sh : List xS} {I : Nat → Nat → Int32} {J : Nat → Nat → Int64} {r0 : Nat} {r1 : Nat} {v2 : Int32} {v3 : Int32} {v4 : Int32} {v5 : Int32} {v6 : Int32} {v7 : Int32} {v8 : Int32} {v9 : Int32} {v10 : Int32} {o11 : Option Value} {a1 : Nat} {n2 : Nat}
    (e0 : xRr sh r0 8 0 a1)
    (e1 : xAr sh a1 .int n2)
    (e2 : 4 ≤ a1)
    (e3 : vp_in ((v5 * v4) + v6) n2)
    (k : xG d zm_Colours_pack (30, [some (.ref r0), some (.ref r1), some (.int v2), some (.int v3), some (.int v4), some (.int v5), some (.int (v6 + (1 : Int32))), some (.int v7), some (.int v8), some (.int v9), some (.int v10), o11], []) (sh, xup I a1 ((v5 * v4) + v6).toNatClampNeg ((-16777216 : Int32) ||| (v9 <<< ((8 : Int32) &&& 31))), J) Q) :
    xG d zm_Colours_pack (117, [some (.ref r0), some (.ref r1), some (.int v2), some (.int v3), some (.int v4), some (.int v5), some (.int v6), some (.int v7), some (.int v8), some (.int v9), some (.int v10), o11], []) (sh, I, J) Q := by
  obtain rfl := e0.eq
  obtain rfl := e1.eq
  exact xG_N 15 (ps := [xRf sh r0 8 0, xW sh (xrf sh r0 0) .int, vp_in ((v5 * v4) + v6) (xlen sh (xrf sh r0 0))]) (f1 := (30, [some (.ref r0), some (.ref r1), some (.int v2), some (.int v3), some (.int v4), some (.int v5), some (.int (v6 + (1 : Int32))), some (.int v7), some (.int v8), some (.int v9), some (.int v10), o11], [])) (h1 := (sh, xup I (xrf sh r0 0) ((v5 * v4) + v6).toNatClampNeg ((-16777216 : Int32) ||| (v9 <<< ((8 : Int32) &&& 31))), J)) rfl ⟨e0.rf, ⟨e1.ar, e2⟩, e3⟩ (k)
set_option maxRecDepth 100000 in
theorem s_Colours_pack_144 {d : Nat} {Q : xO → xH → Prop} {sh : List xS} {I : Nat → Nat → Int32} {J : Nat → Nat → Int64} {r0 : Nat} {r1 : Nat} {v2 : Int32} {v3 : Int32} {v4 : Int32} {v5 : Int32} {v6 : Int32} {o7 : Option Value} {o8 : Option Value} {o9 : Option Value} {o10 : Option Value} {o11 : Option Value}
    (k : xG d zm_Colours_pack (18, [some (.ref r0), some (.ref r1), some (.int v2), some (.int v3), some (.int v4), some (.int (v5 + (1 : Int32))), some (.int v6), o7, o8, o9, o10, o11], []) (sh, I, J) Q) :
    xG d zm_Colours_pack (144, [some (.ref r0), some (.ref r1), some (.int v2), some (.int v3), some (.int v4), some (.int v5), some (.int v6), o7, o8, o9, o10, o11], []) (sh, I, J) Q := by
  exact xG_N 2 (ps := []) (f1 := (18, [some (.ref r0), some (.ref r1), some (.int v2), some (.int v3), some (.int v4), some (.int (v5 + (1 : Int32))), some (.int v6), o7, o8, o9, o10, o11], [])) (h1 := (sh, I, J)) rfl trivial (k)
set_option maxRecDepth 100000 in
theorem s_Colours_pack_150 {d : Nat} {Q : xO → xH → Prop} {sh : List xS} {I : Nat → Nat → Int32} {J : Nat → Nat → Int64} {r0 : Nat} {r1 : Nat} {v2 : Int32} {v3 : Int32} {v4 : Int32} {v5 : Int32} {o6 : Option Value} {o7 : Option Value} {o8 : Option Value} {o9 : Option Value} {o10 : Option Value} {o11 : Option Value}
    (e0 : xOb sh r0 8)
    (k : Q (.inl (none)) (sh, xup I r0 1 v4, J)) :
    xG d zm_Colours_pack (150, [some (.ref r0), some (.ref r1), some (.int v2), some (.int v3), some (.int v4), some (.int v5), o6, o7, o8, o9, o10, o11], []) (sh, I, J) Q := by
  exact xG_N 3 (ps := [xOb sh r0 8]) (f1 := (156, [some (.ref r0), some (.ref r1), some (.int v2), some (.int v3), some (.int v4), some (.int v5), o6, o7, o8, o9, o10, o11], [])) (h1 := (sh, xup I r0 1 v4, J)) rfl e0 (xG_Q rfl rfl trivial k)
set_option maxRecDepth 100000 in
theorem s_Colours_numberOf_0 {d : Nat} {Q : xO → xH → Prop} {sh : List xS} {I : Nat → Nat → Int32} {J : Nat → Nat → Int64} {v0 : Int32} {r1 : Nat} {v2 : Int32}
    (k : xG d zm_Colours_numberOf (2, [some (.int v0), some (.ref r1), some (.int v2), some (.int (0 : Int32))], []) (sh, I, J) Q) :
    xG d zm_Colours_numberOf (0, [some (.int v0), some (.ref r1), some (.int v2), none], []) (sh, I, J) Q := by
  exact xG_N 2 (ps := []) (f1 := (2, [some (.int v0), some (.ref r1), some (.int v2), some (.int (0 : Int32))], [])) (h1 := (sh, I, J)) rfl trivial (k)
set_option maxRecDepth 100000 in
theorem s_Colours_numberOf_2 {d : Nat} {Q : xO → xH → Prop} {sh : List xS} {I : Nat → Nat → Int32} {J : Nat → Nat → Int64} {v0 : Int32} {r1 : Nat} {v2 : Int32} {v3 : Int32}
    (k1 : (v2 - (1 : Int32)) ≤ v3 → xG d zm_Colours_numberOf (22, [some (.int v0), some (.ref r1), some (.int v2), some (.int v3)], []) (sh, I, J) Q)
    (k2 : ¬ ((v2 - (1 : Int32)) ≤ v3) → xG d zm_Colours_numberOf (9, [some (.int v0), some (.ref r1), some (.int v2), some (.int v3)], []) (sh, I, J) Q) :
    xG d zm_Colours_numberOf (2, [some (.int v0), some (.ref r1), some (.int v2), some (.int v3)], []) (sh, I, J) Q := by
  exact xG_N 4 (ps := []) (f1 := (6, [some (.int v0), some (.ref r1), some (.int v2), some (.int v3)], [.int (v2 - (1 : Int32)), .int v3])) (h1 := (sh, I, J)) rfl trivial (xG_B rfl rfl k1 k2)
set_option maxRecDepth 100000 in
theorem s_Colours_numberOf_9 {d : Nat} {Q : xO → xH → Prop} {sh : List xS} {I : Nat → Nat → Int32} {J : Nat → Nat → Int64} {v0 : Int32} {r1 : Nat} {v2 : Int32} {v3 : Int32} {n1 : Nat}
    (e0 : xAr sh r1 .int n1)
    (e1 : vp_in v3 n1)
    (k1 : (I r1 v3.toNatClampNeg) = v0 → xG d zm_Colours_numberOf (22, [some (.int v0), some (.ref r1), some (.int v2), some (.int v3)], []) (sh, I, J) Q)
    (k2 : ¬ ((I r1 v3.toNatClampNeg) = v0) → xG d zm_Colours_numberOf (16, [some (.int v0), some (.ref r1), some (.int v2), some (.int v3)], []) (sh, I, J) Q) :
    xG d zm_Colours_numberOf (9, [some (.int v0), some (.ref r1), some (.int v2), some (.int v3)], []) (sh, I, J) Q := by
  obtain rfl := e0.eq
  exact xG_N 4 (ps := [xA sh r1 .int, vp_in v3 (xlen sh r1)]) (f1 := (13, [some (.int v0), some (.ref r1), some (.int v2), some (.int v3)], [.int v0, .int (I r1 v3.toNatClampNeg)])) (h1 := (sh, I, J)) rfl ⟨e0.ar, e1⟩ (xG_B rfl rfl k1 k2)
set_option maxRecDepth 100000 in
theorem s_Colours_numberOf_16 {d : Nat} {Q : xO → xH → Prop} {sh : List xS} {I : Nat → Nat → Int32} {J : Nat → Nat → Int64} {v0 : Int32} {r1 : Nat} {v2 : Int32} {v3 : Int32}
    (k : xG d zm_Colours_numberOf (2, [some (.int v0), some (.ref r1), some (.int v2), some (.int (v3 + (1 : Int32)))], []) (sh, I, J) Q) :
    xG d zm_Colours_numberOf (16, [some (.int v0), some (.ref r1), some (.int v2), some (.int v3)], []) (sh, I, J) Q := by
  exact xG_N 2 (ps := []) (f1 := (2, [some (.int v0), some (.ref r1), some (.int v2), some (.int (v3 + (1 : Int32)))], [])) (h1 := (sh, I, J)) rfl trivial (k)
set_option maxRecDepth 100000 in
theorem s_Colours_numberOf_22 {d : Nat} {Q : xO → xH → Prop} {sh : List xS} {I : Nat → Nat → Int32} {J : Nat → Nat → Int64} {v0 : Int32} {r1 : Nat} {v2 : Int32} {v3 : Int32}
    (k : Q (.inl (some (.int v3))) (sh, I, J)) :
    xG d zm_Colours_numberOf (22, [some (.int v0), some (.ref r1), some (.int v2), some (.int v3)], []) (sh, I, J) Q := by
  exact xG_N 1 (ps := []) (f1 := (23, [some (.int v0), some (.ref r1), some (.int v2), some (.int v3)], [.int v3])) (h1 := (sh, I, J)) rfl trivial (xG_Q rfl rfl trivial k)
set_option maxRecDepth 100000 in
theorem s_Colours_unpack_0 {d : Nat} {Q : xO → xH → Prop} {sh : List xS} {I : Nat → Nat → Int32} {J : Nat → Nat → Int64} {r0 : Nat} {r1 : Nat} {v2 : Int32}
    (e0 : xOb sh r1 8)
    (k : xg d qColours_packing [.int (I r1 1)] (sh, I, J) (xI (fun v h1 => xG d zm_Colours_unpack (7, [some (.ref r0), some (.ref r1), some (.int v2), none, none, none, none, none, none, none, none], [.int v]) h1 Q) (fun x h1 => Q (.inr x) h1))) :
    xG d zm_Colours_unpack (0, [some (.ref r0), some (.ref r1), some (.int v2), none, none, none, none, none, none, none, none], []) (sh, I, J) Q := by
  exact xG_N 2 (ps := [xOb sh r1 8]) (f1 := (4, [some (.ref r0), some (.ref r1), some (.int v2), none, none, none, none, none, none, none, none], [.int (I r1 1)])) (h1 := (sh, I, J)) rfl e0 (xG_Ci rfl rfl (Nat.le_of_ble_eq_true rfl) (Nat.le_of_ble_eq_true rfl) trivial rfl k)
set_option maxRecDepth 100000 in
theorem s_Colours_unpack_7 {d : Nat} {Q : xO → xH → Prop} {sh : List xS} {I : Nat → Nat → Int32} {J : Nat → Nat → Int64} {r0 : Nat} {r1 : Nat} {v2 : Int32} {t0 : Int32}
    (e0 : xOb sh r0 8)
    (k : xG d zm_Colours_unpack (28, [some (.ref r0), some (.ref r1), some (.int v2), some (.int t0), some (.int ((8 : Int32) >>> (t0 &&& 31))), some (.int (I r0 1)), some (.int ((I r0 2) - (1 : Int32))), none, none, none, none], []) (sh, I, J) Q) :
    xG d zm_Colours_unpack (7, [some (.ref r0), some (.ref r1), some (.int v2), none, none, none, none, none, none, none, none], [.int t0]) (sh, I, J) Q := by
  exact xG_N 13 (ps := [xOb sh r0 8, xOb sh r0 8]) (f1 := (28, [some (.ref r0), some (.ref r1), some (.int v2), some (.int t0), some (.int ((8 : Int32) >>> (t0 &&& 31))), some (.int (I r0 1)), some (.int ((I r0 2) - (1 : Int32))), none, none, none, none], [])) (h1 := (sh, I, J)) rfl ⟨e0, e0⟩ (k)
set_option maxRecDepth 100000 in
theorem s_Colours_unpack_28 {d : Nat} {Q : xO → xH → Prop} {sh : List xS} {I : Nat → Nat → Int32} {J : Nat → Nat → Int64} {r0 : Nat} {r1 : Nat} {v2 : Int32} {v3 : Int32} {v4 : Int32} {v5 : Int32} {v6 : Int32} {o7 : Option Value} {o8 : Option Value} {o9 : Option Value} {o10 : Option Value}
    (k1 : v6 < 0 → xG d zm_Colours_unpack (136, [some (.ref r0), some (.ref r1), some (.int v2), some (.int v3), some (.int v4), some (.int v5), some (.int v6), o7, o8, o9, o10], []) (sh, I, J) Q)
    (k2 : ¬ (v6 < 0) → xG d zm_Colours_unpack (33, [some (.ref r0), some (.ref r1), some (.int v2), some (.int v3), some (.int v4), some (.int v5), some (.int v6), o7, o8, o9, o10], []) (sh, I, J) Q) :
    xG d zm_Colours_unpack (28, [some (.ref r0), some (.ref r1), some (.int v2), some (.int v3), some (.int v4), some (.int v5), some (.int v6), o7, o8, o9, o10], []) (sh, I, J) Q := by
  exact xG_N 1 (ps := []) (f1 := (30, [some (.ref r0), some (.ref r1), some (.int v2), some (.int v3), some (.int v4), some (.int v5), some (.int v6), o7, o8, o9, o10], [.int v6])) (h1 := (sh, I, J)) rfl trivial (xG_B rfl rfl k1 k2)
set_option maxRecDepth 100000 in
theorem s_Colours_unpack_33 {d : Nat} {Q : xO → xH → Prop} {sh : List xS} {I : Nat → Nat → Int32} {J : Nat → Nat → Int64} {r0 : Nat} {r1 : Nat} {v2 : Int32} {v3 : Int32} {v4 : Int32} {v5 : Int32} {v6 : Int32} {o7 : Option Value} {o8 : Option Value} {o9 : Option Value} {o10 : Option Value}
    (k : xG d zm_Colours_unpack (38, [some (.ref r0), some (.ref r1), some (.int v2), some (.int v3), some (.int v4), some (.int v5), some (.int v6), some (.int (v2 - (1 : Int32))), o8, o9, o10], []) (sh, I, J) Q) :
    xG d zm_Colours_unpack (33, [some (.ref r0), some (.ref r1), some (.int v2), some (.int v3), some (.int v4), some (.int v5), some (.int v6), o7, o8, o9, o10], []) (sh, I, J) Q := by
  exact xG_N 4 (ps := []) (f1 := (38, [some (.ref r0), some (.ref r1), some (.int v2), some (.int v3), some (.int v4), some (.int v5), some (.int v6), some (.int (v2 - (1 : Int32))), o8, o9, o10], [])) (h1 := (sh, I, J)) rfl trivial (k)
set_option maxRecDepth 100000 in
theorem s_Colours_unpack_38 {d : Nat} {Q : xO → xH → Prop} {sh : List xS} {I : Nat → Nat → Int32} {J : Nat → Nat → Int64} {r0 : Nat} {r1 : Nat} {v2 : Int32} {v3 : Int32} {v4 : Int32} {v5 : Int32} {v6 : Int32} {v7 : Int32} {o8 : Option Value} {o9 : Option Value} {o10 : Option Value}
    (k1 : v7 < 0 → xG d zm_Colours_unpack (130, [some (.ref r0), some (.ref r1), some (.int v2), some (.int v3), some (.int v4), some (.int v5), some (.int v6), some (.int v7), o8, o9, o10], []) (sh, I, J) Q)
    (k2 : ¬ (v7 < 0) → xG d zm_Colours_unpack (43, [some (.ref r0), some (.ref r1), some (.int v2), some (.int v3), some (.int v4), some (.int v5), some (.int v6), some (.int v7), o8, o9, o10], []) (sh, I, J) Q) :
    xG d zm_Colours_unpack (38, [some (.ref r0), some (.ref r1), some (.int v2), some (.int v3), some (.int v4), some (.int v5), some (.int v6), some (.int v7), o8, o9, o10], []) (sh, I, J) Q := by
  exact xG_N 1 (ps := []) (f1 := (40, [some (.ref r0), some (.ref r1), some (.int v2), some (.int v3), some (.int v4), some (.int v5), some (.int v6), some (.int v7), o8, o9, o10], [.int v7])) (h1 := (sh, I, J)) rfl trivial (xG_B rfl rfl k1 k2)
set_option maxRecDepth 100000 in
theorem s_Colours_unpack_43 {d : Nat} {Q : xO → xH → Prop} {sh : List xS} {I : Nat → Nat → Int32} {J : Nat → Nat → Int64} {r0 : Nat} {r1 : Nat} {v2 : Int32} {v3 : Int32} {v4 : Int32} {v5 : Int32} {v6 : Int32} {v7 : Int32} {o8 : Option Value} {o9 : Option Value} {o10 : Option Value} {a1 : Nat} {n2 : Nat}
    (e0 : xRr sh r0 8 0 a1)
    (e1 : xAr sh a1 .int n2)
    (e2 : vp_in ((v6 * v5) + (v7 >>> (v3 &&& 31))) n2)
    (k : xg d qL_part [.int (I a1 ((v6 * v5) + (v7 >>> (v3 &&& 31))).toNatClampNeg), .int (8 : Int32)] (sh, I, J) (xI (fun v h1 => xG d zm_Colours_unpack (63, [some (.ref r0), some (.ref r1), some (.int v2), some (.int v3), some (.int v4), some (.int v5), some (.int v6), some (.int v7), o8, o9, o10], [.int v]) h1 Q) (fun x h1 => Q (.inr x) h1))) :
    xG d zm_Colours_unpack (43, [some (.ref r0), some (.ref r1), some (.int v2), some (.int v3), some (.int v4), some (.int v5), some (.int v6), some (.int v7), o8, o9, o10], []) (sh, I, J) Q := by
  obtain rfl := e0.eq
  obtain rfl := e1.eq
  exact xG_N 11 (ps := [xRf sh r0 8 0, xA sh (xrf sh r0 0) .int, vp_in ((v6 * v5) + (v7 >>> (v3 &&& 31))) (xlen sh (xrf sh r0 0))]) (f1 := (60, [some (.ref r0), some (.ref r1), some (.int v2), some (.int v3), some (.int v4), some (.int v5), some (.int v6), some (.int v7), o8, o9, o10], [.int (8 : Int32), .int (I (xrf sh r0 0) ((v6 * v5) + (v7 >>> (v3 &&& 31))).toNatClampNeg)])) (h1 := (sh, I, J)) rfl ⟨e0.rf, e1.ar, e2⟩ (xG_Ci rfl rfl (Nat.le_of_ble_eq_true rfl) (Nat.le_of_ble_eq_true rfl) trivial rfl k)
set_option maxRecDepth 100000 in
theorem s_Colours_unpack_63 {d : Nat} {Q : xO → xH → Prop} {sh : List xS} {I : Nat → Nat → Int32} {J : Nat → Nat → Int64} {r0 : Nat} {r1 : Nat} {v2 : Int32} {v3 : Int32} {v4 : Int32} {v5 : Int32} {v6 : Int32} {v7 : Int32} {o8 : Option Value} {o9 : Option Value} {o10 : Option Value} {t0 : Int32} {a1 : Nat}
    (e0 : xRr sh r0 8 0 a1)
    (k : xG d zm_Colours_unpack (106, [some (.ref r0), some (.ref r1), some (.int v2), some (.int v3), some (.int v4), some (.int v5), some (.int v6), some (.int v7), some (.int t0), some (.int (v7 &&& (((1 : Int32) <<< (v3 &&& 31)) - (1 : Int32)))), some (.int ((t0 >>> (((v7 &&& (((1 : Int32) <<< (v3 &&& 31)) - (1 : Int32))) * v4) &&& 31)) &&& (((1 : Int32) <<< (v4 &&& 31)) - (1 : Int32))))], [.ref r1, .int ((t0 >>> (((v7 &&& (((1 : Int32) <<< (v3 &&& 31)) - (1 : Int32))) * v4) &&& 31)) &&& (((1 : Int32) <<< (v4 &&& 31)) - (1 : Int32))), .int ((v6 * v2) + v7), .ref a1]) (sh, I, J) Q) :
    xG d zm_Colours_unpack (63, [some (.ref r0), some (.ref r1), some (.int v2), some (.int v3), some (.int v4), some (.int v5), some (.int v6), some (.int v7), o8, o9, o10], [.int t0]) (sh, I, J) Q := by
  obtain rfl := e0.eq
  exact xG_N 30 (ps := [xRf sh r0 8 0]) (f1 := (106, [some (.ref r0), some (.ref r1), some (.int v2), some (.int v3), some (.int v4), some (.int v5), some (.int v6), some (.int v7), some (.int t0), some (.int (v7 &&& (((1 : Int32) <<< (v3 &&& 31)) - (1 : Int32)))), some (.int ((t0 >>> (((v7 &&& (((1 : Int32) <<< (v3 &&& 31)) - (1 : Int32))) * v4) &&& 31)) &&& (((1 : Int32) <<< (v4 &&& 31)) - (1 : Int32))))], [.ref r1, .int ((t0 >>> (((v7 &&& (((1 : Int32) <<< (v3 &&& 31)) - (1 : Int32))) * v4) &&& 31)) &&& (((1 : Int32) <<< (v4 &&& 31)) - (1 : Int32))), .int ((v6 * v2) + v7), .ref (xrf sh r0 0)])) (h1 := (sh, I, J)) rfl e0.rf (k)
set_option maxRecDepth 100000 in
theorem s_Colours_unpack_112 {d : Nat} {Q : xO → xH → Prop} {sh : List xS} {I : Nat → Nat → Int32} {J : Nat → Nat → Int64} {r0 : Nat} {r1 : Nat} {v2 : Int32} {v3 : Int32} {v4 : Int32} {v5 : Int32} {v6 : Int32} {v7 : Int32} {v8 : Int32} {v9 : Int32} {v10 : Int32} {t0 : Nat} {t1 : Int32} {a1 : Nat} {n2 : Nat} {n3 : Nat}
    (e0 : xRr sh r1 8 0 a1)
    (e1 : xAr sh a1 .int n2)
    (e2 : vp_in v10 n2)
    (e3 : xAr sh t0 .int n3)
    (e4 : 4 ≤ t0)
    (e5 : vp_in t1 n3)
    (k : xG d zm_Colours_unpack (38, [some (.ref r0), some (.ref r1), some (.int v2), some (.int v3), some (.int v4), some (.int v5), some (.int v6), some (.int (v7 + (-1 : Int32))), some (.int v8), some (.int v9), some (.int v10)], []) (sh, xup I t0 t1.toNatClampNeg (I a1 v10.toNatClampNeg), J) Q) :
    xG d zm_Colours_unpack (112, [some (.ref r0), some (.ref r1), some (.int v2), some (.int v3), some (.int v4), some (.int v5), some (.int v6), some (.int v7), some (.int v8), some (.int v9), some (.int v10)], [.int t1, .ref t0]) (sh, I, J) Q := by
  obtain rfl := e0.eq
  obtain rfl := e1.eq
  obtain rfl := e3.eq
  exact xG_N 8 (ps := [xRf sh r1 8 0, xA sh (xrf sh r1 0) .int, vp_in v10 (xlen sh (xrf sh r1 0)), xW sh t0 .int, vp_in t1 (xlen sh t0)]) (f1 := (38, [some (.ref r0), some (.ref r1), some (.int v2), some (.int v3), some (.int v4), some (.int v5), some (.int v6), some (.int (v7 + (-1 : Int32))), some (.int v8), some (.int v9), some (.int v10)], [])) (h1 := (sh, xup I t0 t1.toNatClampNeg (I (xrf sh r1 0) v10.toNatClampNeg), J)) rfl ⟨e0.rf, e1.ar, e2, ⟨e3.ar, e4⟩, e5⟩ (k)
set_option maxRecDepth 100000 in
theorem s_Colours_unpack_122 {d : Nat} {Q : xO → xH → Prop} {sh : List xS} {I : Nat → Nat → Int32} {J : Nat → Nat → Int64} {r0 : Nat} {r1 : Nat} {v2 : Int32} {v3 : Int32} {v4 : Int32} {v5 : Int32} {v6 : Int32} {v7 : Int32} {v8 : Int32} {v9 : Int32} {v10 : Int32} {t0 : Nat} {t1 : Int32} {n1 : Nat}
    (e0 : xAr sh t0 .int n1)
    (e1 : 4 ≤ t0)
    (e2 : vp_in t1 n1)
    (k : xG d zm_Colours_unpack (38, [some (.ref r0), some (.ref r1), some (.int v2), some (.int v3), some (.int v4), some (.int v5), some (.int v6), some (.int (v7 + (-1 : Int32))), some (.int v8), some (.int v9), some (.int v10)], []) (sh, xup I t0 t1.toNatClampNeg (0 : Int32), J) Q) :
    xG d zm_Colours_unpack (122, [some (.ref r0), some (.ref r1), some (.int v2), some (.int v3), some (.int v4), some (.int v5), some (.int v6), some (.int v7), some (.int v8), some (.int v9), some (.int v10)], [.int t1, .ref t0]) (sh, I, J) Q := by
  obtain rfl := e0.eq
  exact xG_N 4 (ps := [xW sh t0 .int, vp_in t1 (xlen sh t0)]) (f1 := (38, [some (.ref r0), some (.ref r1), some (.int v2), some (.int v3), some (.int v4), some (.int v5), some (.int v6), some (.int (v7 + (-1 : Int32))), some (.int v8), some (.int v9), some (.int v10)], [])) (h1 := (sh, xup I t0 t1.toNatClampNeg (0 : Int32), J)) rfl ⟨⟨e0.ar, e1⟩, e2⟩ (k)
set_option maxRecDepth 100000 in
theorem s_Colours_unpack_130 {d : Nat} {Q : xO → xH → Prop} {sh : List xS} {I : Nat → Nat → Int32} {J : Nat → Nat → Int64} {r0 : Nat} {r1 : Nat} {v2 : Int32} {v3 : Int32} {v4 : Int32} {v5 : Int32} {v6 : Int32} {v7 : Int32} {o8 : Option Value} {o9 : Option Value} {o10 : Option Value}
    (k : xG d zm_Colours_unpack (28, [some (.ref r0), some (.ref r1), some (.int v2), some (.int v3), some (.int v4), some (.int v5), some (.int (v6 + (-1 : Int32))), some (.int v7), o8, o9, o10], []) (sh, I, J) Q) :
    xG d zm_Colours_unpack (130, [some (.ref r0), some (.ref r1), some (.int v2), some (.int v3), some (.int v4), some (.int v5), some (.int v6), some (.int v7), o8, o9, o10], []) (sh, I, J) Q := by
  exact xG_N 2 (ps := []) (f1 := (28, [some (.ref r0), some (.ref r1), some (.int v2), some (.int v3), some (.int v4), some (.int v5), some (.int (v6 + (-1 : Int32))), some (.int v7), o8, o9, o10], [])) (h1 := (sh, I, J)) rfl trivial (k)
set_option maxRecDepth 100000 in
theorem s_Colours_unpack_136 {d : Nat} {Q : xO → xH → Prop} {sh : List xS} {I : Nat → Nat → Int32} {J : Nat → Nat → Int64} {r0 : Nat} {r1 : Nat} {v2 : Int32} {v3 : Int32} {v4 : Int32} {v5 : Int32} {v6 : Int32} {o7 : Option Value} {o8 : Option Value} {o9 : Option Value} {o10 : Option Value}
    (e0 : xOb sh r0 8)
    (k : Q (.inl (none)) (sh, xup I r0 1 v2, J)) :
    xG d zm_Colours_unpack (136, [some (.ref r0), some (.ref r1), some (.int v2), some (.int v3), some (.int v4), some (.int v5), some (.int v6), o7, o8, o9, o10], []) (sh, I, J) Q := by
  exact xG_N 3 (ps := [xOb sh r0 8]) (f1 := (141, [some (.ref r0), some (.ref r1), some (.int v2), some (.int v3), some (.int v4), some (.int v5), some (.int v6), o7, o8, o9, o10], [])) (h1 := (sh, xup I r0 1 v2, J)) rfl e0 (xG_Q rfl rfl trivial k)
set_option maxRecDepth 100000 in
theorem s_Colours_unpack_106 {d : Nat} {Q : xO → xH → Prop} {sh : List xS} {I : Nat → Nat → Int32} {J : Nat → Nat → Int64} {r0 : Nat} {r1 : Nat} {v2 : Int32} {v3 : Int32} {v4 : Int32} {v5 : Int32} {v6 : Int32} {v7 : Int32} {v8 : Int32} {v9 : Int32} {v10 : Int32} {t0 : Nat} {t1 : Int32} {t2 : Int32} {t3 : Nat}
    (e0 : xOb sh t3 8)
    (k1 : (I t3 1) ≤ t2 → xG d zm_Colours_unpack (122, [some (.ref r0), some (.ref r1), some (.int v2), some (.int v3), some (.int v4), some (.int v5), some (.int v6), some (.int v7), some (.int v8), some (.int v9), some (.int v10)], [.int t1, .ref t0]) (sh, I, J) Q)
    (k2 : ¬ ((I t3 1) ≤ t2) → xG d zm_Colours_unpack (112, [some (.ref r0), some (.ref r1), some (.int v2), some (.int v3), some (.int v4), some (.int v5), some (.int v6), some (.int v7), some (.int v8), some (.int v9), some (.int v10)], [.int t1, .ref t0]) (sh, I, J) Q) :
    xG d zm_Colours_unpack (106, [some (.ref r0), some (.ref r1), some (.int v2), some (.int v3), some (.int v4), some (.int v5), some (.int v6), some (.int v7), some (.int v8), some (.int v9), some (.int v10)], [.ref t3, .int t2, .int t1, .ref t0]) (sh, I, J) Q := by
  exact xG_N 1 (ps := [xOb sh t3 8]) (f1 := (109, [some (.ref r0), some (.ref r1), some (.int v2), some (.int v3), some (.int v4), some (.int v5), some (.int v6), some (.int v7), some (.int v8), some (.int v9), some (.int v10)], [.int (I t3 1), .int t2, .int t1, .ref t0])) (h1 := (sh, I, J)) rfl e0 (xG_B rfl rfl k1 k2)
set_option maxRecDepth 100000 in
theorem s_Transforms_init_0 {d : Nat} {Q : xO → xH → Prop} {sh : List xS} {I : Nat → Nat → Int32} {J : Nat → Nat → Int64} {r0 : Nat}
    (k : xG d zm_Transforms_init (8, [some (.ref r0)], [.ref sh.length, .ref r0]) (sh ++ [.inl (.int, ((4 : Int32) : Int32).toNatClampNeg)], xzer I sh.length, xzerL J sh.length) Q) :
    xG d zm_Transforms_init (0, [some (.ref r0)], []) (sh, I, J) Q := by
  exact xG_N 5 (ps := [(([] : List Value).map fun v => v.category).sum ≤ 8, ¬ ((4 : Int32) : Int32) < 0, ((4 : Int32) : Int32).toNatClampNeg ≤ 65536, newarray.typeOf .int = .int ∨ newarray.typeOf .int = .boolean ∨ newarray.typeOf .int = .long]) (f1 := (8, [some (.ref r0)], [.ref sh.length, .ref r0])) (h1 := (sh ++ [.inl (.int, ((4 : Int32) : Int32).toNatClampNeg)], xzer I sh.length, xzerL J sh.length)) rfl ⟨(Nat.le_of_ble_eq_true rfl), (show ¬ ((4 : Int32) : Int32) < 0 by decide), (show ((4 : Int32) : Int32).toNatClampNeg ≤ 65536 by decide), Or.inl rfl⟩ (k)
set_option maxRecDepth 100000 in
theorem s_Transforms_init_8 {d : Nat} {Q : xO → xH → Prop} {sh : List xS} {I : Nat → Nat → Int32} {J : Nat → Nat → Int64} {r0 : Nat} {t0 : Nat} {t1 : Nat}
    (e0 : xOb sh t0 9)
    (k : xG d zm_Transforms_init (15, [some (.ref r0)], [.ref ((xsr sh t0 0 t1).length), .ref r0]) ((xsr sh t0 0 t1) ++ [.inr (8, zdf 8)], xzer I (xsr sh t0 0 t1).length, xzerL J (xsr sh t0 0 t1).length) Q) :
    xG d zm_Transforms_init (8, [some (.ref r0)], [.ref t1, .ref t0]) (sh, I, J) Q := by
  exact xG_N 3 (ps := [xOb sh t0 9, 0 < (zdf 9).length]) (f1 := (15, [some (.ref r0)], [.ref ((xsr sh t0 0 t1).length), .ref r0])) (h1 := ((xsr sh t0 0 t1) ++ [.inr (8, zdf 8)], xzer I (xsr sh t0 0 t1).length, xzerL J (xsr sh t0 0 t1).length)) rfl ⟨e0, (show 0 < (zdf 9).length by decide)⟩ (k)
set_option maxRecDepth 100000 in
theorem s_Transforms_init_15 {d : Nat} {Q : xO → xH → Prop} {sh : List xS} {I : Nat → Nat → Int32} {J : Nat → Nat → Int64} {r0 : Nat} {t0 : Nat} {t1 : Nat}
    (k : xg d qPlane_init [.ref t1, .int (4 : Int32)] (sh, I, J) (xU (fun h1 => xG d zm_Transforms_init (20, [some (.ref r0)], [.ref t1, .ref t0]) h1 Q) (fun x h1 => Q (.inr x) h1))) :
    xG d zm_Transforms_init (15, [some (.ref r0)], [.ref t1, .ref t0]) (sh, I, J) Q := by
  exact xG_N 2 (ps := []) (f1 := (17, [some (.ref r0)], [.int (4 : Int32), .ref t1, .ref t1, .ref t0])) (h1 := (sh, I, J)) rfl trivial (xG_Cu rfl rfl (Nat.le_of_ble_eq_true rfl) (Nat.le_of_ble_eq_true rfl) ⟨_, _, rfl⟩ rfl k)
set_option maxRecDepth 100000 in
theorem s_Transforms_init_20 {d : Nat} {Q : xO → xH → Prop} {sh : List xS} {I : Nat → Nat → Int32} {J : Nat → Nat → Int64} {r0 : Nat} {t0 : Nat} {t1 : Nat}
    (e0 : xOb sh t0 9)
    (k : xG d zm_Transforms_init (27, [some (.ref r0)], [.ref ((xsr sh t0 1 t1).length), .ref r0]) ((xsr sh t0 1 t1) ++ [.inr (8, zdf 8)], xzer I (xsr sh t0 1 t1).length, xzerL J (xsr sh t0 1 t1).length) Q) :
    xG d zm_Transforms_init (20, [some (.ref r0)], [.ref t1, .ref t0]) (sh, I, J) Q := by
  exact xG_N 3 (ps := [xOb sh t0 9, 1 < (zdf 9).length]) (f1 := (27, [some (.ref r0)], [.ref ((xsr sh t0 1 t1).length), .ref r0])) (h1 := ((xsr sh t0 1 t1) ++ [.inr (8, zdf 8)], xzer I (xsr sh t0 1 t1).length, xzerL J (xsr sh t0 1 t1).length)) rfl ⟨e0, (show 1 < (zdf 9).length by decide)⟩ (k)
set_option maxRecDepth 100000 in
theorem s_Transforms_init_27 {d : Nat} {Q : xO → xH → Prop} {sh : List xS} {I : Nat → Nat → Int32} {J : Nat → Nat → Int64} {r0 : Nat} {t0 : Nat} {t1 : Nat}
    (k : xg d qPlane_init [.ref t1, .int (4 : Int32)] (sh, I, J) (xU (fun h1 => xG d zm_Transforms_init (32, [some (.ref r0)], [.ref t1, .ref t0]) h1 Q) (fun x h1 => Q (.inr x) h1))) :
    xG d zm_Transforms_init (27, [some (.ref r0)], [.ref t1, .ref t0]) (sh, I, J) Q := by
  exact xG_N 2 (ps := []) (f1 := (29, [some (.ref r0)], [.int (4 : Int32), .ref t1, .ref t1, .ref t0])) (h1 := (sh, I, J)) rfl trivial (xG_Cu rfl rfl (Nat.le_of_ble_eq_true rfl) (Nat.le_of_ble_eq_true rfl) ⟨_, _, rfl⟩ rfl k)
set_option maxRecDepth 100000 in
theorem s_Transforms_init_32 {d : Nat} {Q : xO → xH → Prop} {sh : List xS} {I : Nat → Nat → Int32} {J : Nat → Nat → Int64} {r0 : Nat} {t0 : Nat} {t1 : Nat}
    (e0 : xOb sh t0 9)
    (k : xG d zm_Transforms_init (39, [some (.ref r0)], [.ref ((xsr sh t0 2 t1).length), .ref r0]) ((xsr sh t0 2 t1) ++ [.inr (8, zdf 8)], xzer I (xsr sh t0 2 t1).length, xzerL J (xsr sh t0 2 t1).length) Q) :
    xG d zm_Transforms_init (32, [some (.ref r0)], [.ref t1, .ref t0]) (sh, I, J) Q := by
  exact xG_N 3 (ps := [xOb sh t0 9, 2 < (zdf 9).length]) (f1 := (39, [some (.ref r0)], [.ref ((xsr sh t0 2 t1).length), .ref r0])) (h1 := ((xsr sh t0 2 t1) ++ [.inr (8, zdf 8)], xzer I (xsr sh t0 2 t1).length, xzerL J (xsr sh t0 2 t1).length)) rfl ⟨e0, (show 2 < (zdf 9).length by decide)⟩ (k)
set_option maxRecDepth 100000 in
theorem s_Transforms_init_39 {d : Nat} {Q : xO → xH → Prop} {sh : List xS} {I : Nat → Nat → Int32} {J : Nat → Nat → Int64} {r0 : Nat} {t0 : Nat} {t1 : Nat}
    (k : xg d qPlane_init [.ref t1, .int (16 : Int32)] (sh, I, J) (xU (fun h1 => xG d zm_Transforms_init (45, [some (.ref r0)], [.ref t1, .ref t0]) h1 Q) (fun x h1 => Q (.inr x) h1))) :
    xG d zm_Transforms_init (39, [some (.ref r0)], [.ref t1, .ref t0]) (sh, I, J) Q := by
  exact xG_N 2 (ps := []) (f1 := (42, [some (.ref r0)], [.int (16 : Int32), .ref t1, .ref t1, .ref t0])) (h1 := (sh, I, J)) rfl trivial (xG_Cu rfl rfl (Nat.le_of_ble_eq_true rfl) (Nat.le_of_ble_eq_true rfl) ⟨_, _, rfl⟩ rfl k)
set_option maxRecDepth 100000 in
theorem s_Transforms_init_45 {d : Nat} {Q : xO → xH → Prop} {sh : List xS} {I : Nat → Nat → Int32} {J : Nat → Nat → Int64} {r0 : Nat} {t0 : Nat} {t1 : Nat}
    (e0 : xOb sh t0 9)
    (e1 : xOb (xsr sh t0 3 t1) r0 9)
    (k : Q (.inl (none)) (xsr sh t0 3 t1, xup I r0 4 (1 : Int32), J)) :
    xG d zm_Transforms_init (45, [some (.ref r0)], [.ref t1, .ref t0]) (sh, I, J) Q := by
  exact xG_N 4 (ps := [xOb sh t0 9, 3 < (zdf 9).length, xOb (xsr sh t0 3 t1) r0 9]) (f1 := (53, [some (.ref r0)], [])) (h1 := (xsr sh t0 3 t1, xup I r0 4 (1 : Int32), J)) rfl ⟨e0, (show 3 < (zdf 9).length by decide), e1⟩ (xG_Q rfl rfl trivial k)
set_option maxRecDepth 100000 in
theorem s_Transforms_clear_0 {d : Nat} {Q : xO → xH → Prop} {sh : List xS} {I : Nat → Nat → Int32} {J : Nat → Nat → Int64} {r0 : Nat}
    (e0 : xOb sh r0 9)
    (k : Q (.inl (none)) (sh, xup I r0 5 (0 : Int32), J)) :
    xG d zm_Transforms_clear (0, [some (.ref r0)], []) (sh, I, J) Q := by
  exact xG_N 3 (ps := [xOb sh r0 9]) (f1 := (5, [some (.ref r0)], [])) (h1 := (sh, xup I r0 5 (0 : Int32), J)) rfl e0 (xG_Q rfl rfl trivial k)
set_option maxRecDepth 100000 in
theorem s_Transforms_have_0 {d : Nat} {Q : xO → xH → Prop} {sh : List xS} {I : Nat → Nat → Int32} {J : Nat → Nat → Int64} {r0 : Nat} {v1 : Int32}
    (k : xG d zm_Transforms_have (2, [some (.ref r0), some (.int v1), some (.int (0 : Int32))], []) (sh, I, J) Q) :
    xG d zm_Transforms_have (0, [some (.ref r0), some (.int v1), none], []) (sh, I, J) Q := by
  exact xG_N 2 (ps := []) (f1 := (2, [some (.ref r0), some (.int v1), some (.int (0 : Int32))], [])) (h1 := (sh, I, J)) rfl trivial (k)
set_option maxRecDepth 100000 in
theorem s_Transforms_have_2 {d : Nat} {Q : xO → xH → Prop} {sh : List xS} {I : Nat → Nat → Int32} {J : Nat → Nat → Int64} {r0 : Nat} {v1 : Int32} {v2 : Int32}
    (e0 : xOb sh r0 9)
    (k1 : (I r0 5) ≤ v2 → xG d zm_Transforms_have (28, [some (.ref r0), some (.int v1), some (.int v2)], []) (sh, I, J) Q)
    (k2 : ¬ ((I r0 5) ≤ v2) → xG d zm_Transforms_have (10, [some (.ref r0), some (.int v1), some (.int v2)], []) (sh, I, J) Q) :
    xG d zm_Transforms_have (2, [some (.ref r0), some (.int v1), some (.int v2)], []) (sh, I, J) Q := by
  exact xG_N 3 (ps := [xOb sh r0 9]) (f1 := (7, [some (.ref r0), some (.int v1), some (.int v2)], [.int (I r0 5), .int v2])) (h1 := (sh, I, J)) rfl e0 (xG_B rfl rfl k1 k2)
set_option maxRecDepth 100000 in
theorem s_Transforms_have_10 {d : Nat} {Q : xO → xH → Prop} {sh : List xS} {I : Nat → Nat → Int32} {J : Nat → Nat → Int64} {r0 : Nat} {v1 : Int32} {v2 : Int32} {a1 : Nat} {n2 : Nat}
    (e0 : xRr sh r0 9 0 a1)
    (e1 : xAr sh a1 .int n2)
    (e2 : vp_in v2 n2)
    (k1 : ¬ (I a1 v2.toNatClampNeg) = v1 → xG d zm_Transforms_have (22, [some (.ref r0), some (.int v1), some (.int v2)], []) (sh, I, J) Q)
    (k2 : ¬ (¬ (I a1 v2.toNatClampNeg) = v1) → xG d zm_Transforms_have (20, [some (.ref r0), some (.int v1), some (.int v2)], []) (sh, I, J) Q) :
    xG d zm_Transforms_have (10, [some (.ref r0), some (.int v1), some (.int v2)], []) (sh, I, J) Q := by
  obtain rfl := e0.eq
  obtain rfl := e1.eq
  exact xG_N 5 (ps := [xRf sh r0 9 0, xA sh (xrf sh r0 0) .int, vp_in v2 (xlen sh (xrf sh r0 0))]) (f1 := (17, [some (.ref r0), some (.int v1), some (.int v2)], [.int v1, .int (I (xrf sh r0 0) v2.toNatClampNeg)])) (h1 := (sh, I, J)) rfl ⟨e0.rf, e1.ar, e2⟩ (xG_B rfl rfl k1 k2)
set_option maxRecDepth 100000 in
theorem s_Transforms_have_20 {d : Nat} {Q : xO → xH → Prop} {sh : List xS} {I : Nat → Nat → Int32} {J : Nat → Nat → Int64} {r0 : Nat} {v1 : Int32} {v2 : Int32}
    (k : Q (.inl (some (.int (1 : Int32)))) (sh, I, J)) :
    xG d zm_Transforms_have (20, [some (.ref r0), some (.int v1), some (.int v2)], []) (sh, I, J) Q := by
  exact xG_N 1 (ps := []) (f1 := (21, [some (.ref r0), some (.int v1), some (.int v2)], [.int (1 : Int32)])) (h1 := (sh, I, J)) rfl trivial (xG_Q rfl rfl (show ((1 : Int32) : Int32) = 0 ∨ ((1 : Int32) : Int32) = 1 by decide) k)
set_option maxRecDepth 100000 in
theorem s_Transforms_have_22 {d : Nat} {Q : xO → xH → Prop} {sh : List xS} {I : Nat → Nat → Int32} {J : Nat → Nat → Int64} {r0 : Nat} {v1 : Int32} {v2 : Int32}
    (k : xG d zm_Transforms_have (2, [some (.ref r0), some (.int v1), some (.int (v2 + (1 : Int32)))], []) (sh, I, J) Q) :
    xG d zm_Transforms_have (22, [some (.ref r0), some (.int v1), some (.int v2)], []) (sh, I, J) Q := by
  exact xG_N 2 (ps := []) (f1 := (2, [some (.ref r0), some (.int v1), some (.int (v2 + (1 : Int32)))], [])) (h1 := (sh, I, J)) rfl trivial (k)
set_option maxRecDepth 100000 in
theorem s_Transforms_have_28 {d : Nat} {Q : xO → xH → Prop} {sh : List xS} {I : Nat → Nat → Int32} {J : Nat → Nat → Int64} {r0 : Nat} {v1 : Int32} {v2 : Int32}
    (k : Q (.inl (some (.int (0 : Int32)))) (sh, I, J)) :
    xG d zm_Transforms_have (28, [some (.ref r0), some (.int v1), some (.int v2)], []) (sh, I, J) Q := by
  exact xG_N 1 (ps := []) (f1 := (29, [some (.ref r0), some (.int v1), some (.int v2)], [.int (0 : Int32)])) (h1 := (sh, I, J)) rfl trivial (xG_Q rfl rfl (show ((0 : Int32) : Int32) = 0 ∨ ((0 : Int32) : Int32) = 1 by decide) k)
set_option maxRecDepth 100000 in
theorem s_Transforms_take_0 {d : Nat} {Q : xO → xH → Prop} {sh : List xS} {I : Nat → Nat → Int32} {J : Nat → Nat → Int64} {r0 : Nat} {r1 : Nat} {r2 : Nat} {v3 : Int32} {v4 : Int32}
    (ko : xOb sh r1 1)
    (k : xg d qBits_number [.ref r1, .int (2 : Int32)] (sh, I, J) (xI (fun v h1 => xG d zm_Transforms_take (5, [some (.ref r0), some (.ref r1), some (.ref r2), some (.int v3), some (.int v4), none, none], [.int v]) h1 Q) (fun x h1 => Q (.inr x) h1))) :
    xG d zm_Transforms_take (0, [some (.ref r0), some (.ref r1), some (.ref r2), some (.int v3), some (.int v4), none, none], []) (sh, I, J) Q := by
  exact xG_N 2 (ps := []) (f1 := (2, [some (.ref r0), some (.ref r1), some (.ref r2), some (.int v3), some (.int v4), none, none], [.int (2 : Int32), .ref r1])) (h1 := (sh, I, J)) rfl trivial (xG_Ci rfl rfl (Nat.le_of_ble_eq_true rfl) (Nat.le_of_ble_eq_true rfl) ⟨_, _, rfl, ko⟩ rfl k)
set_option maxRecDepth 100000 in
theorem s_Transforms_take_5 {d : Nat} {Q : xO → xH → Prop} {sh : List xS} {I : Nat → Nat → Int32} {J : Nat → Nat → Int64} {r0 : Nat} {r1 : Nat} {r2 : Nat} {v3 : Int32} {v4 : Int32} {t0 : Int32}
    (ko : xOb sh r0 9)
    (k : xg d qTransforms_have [.ref r0, .int t0] (sh, I, J) (xI (fun v h1 => xG d zm_Transforms_take (13, [some (.ref r0), some (.ref r1), some (.ref r2), some (.int v3), some (.int v4), some (.int t0), none], [.int v]) h1 Q) (fun x h1 => Q (.inr x) h1))) :
    xG d zm_Transforms_take (5, [some (.ref r0), some (.ref r1), some (.ref r2), some (.int v3), some (.int v4), none, none], [.int t0]) (sh, I, J) Q := by
  exact xG_N 3 (ps := []) (f1 := (10, [some (.ref r0), some (.ref r1), some (.ref r2), some (.int v3), some (.int v4), some (.int t0), none], [.int t0, .ref r0])) (h1 := (sh, I, J)) rfl trivial (xG_Ci rfl rfl (Nat.le_of_ble_eq_true rfl) (Nat.le_of_ble_eq_true rfl) ⟨_, _, rfl, ko⟩ rfl k)
set_option maxRecDepth 100000 in
theorem s_Transforms_take_13 {d : Nat} {Q : xO → xH → Prop} {sh : List xS} {I : Nat → Nat → Int32} {J : Nat → Nat → Int64} {r0 : Nat} {r1 : Nat} {r2 : Nat} {v3 : Int32} {v4 : Int32} {v5 : Int32} {t0 : Int32}
    (k1 : ¬ t0 = 0 → xG d zm_Transforms_take (24, [some (.ref r0), some (.ref r1), some (.ref r2), some (.int v3), some (.int v4), some (.int v5), none], []) (sh, I, J) Q)
    (k2 : ¬ (¬ t0 = 0) → xG d zm_Transforms_take (16, [some (.ref r0), some (.ref r1), some (.ref r2), some (.int v3), some (.int v4), some (.int v5), none], []) (sh, I, J) Q) :
    xG d zm_Transforms_take (13, [some (.ref r0), some (.ref r1), some (.ref r2), some (.int v3), some (.int v4), some (.int v5), none], [.int t0]) (sh, I, J) Q := by
  exact xG_B rfl rfl k1 k2
set_option maxRecDepth 100000 in
theorem s_Transforms_take_16 {d : Nat} {Q : xO → xH → Prop} {sh : List xS} {I : Nat → Nat → Int32} {J : Nat → Nat → Int64} {r0 : Nat} {r1 : Nat} {r2 : Nat} {v3 : Int32} {v4 : Int32} {v5 : Int32}
    (e0 : xOb sh r0 9)
    (k1 : (I r0 5) < (4 : Int32) → xG d zm_Transforms_take (34, [some (.ref r0), some (.ref r1), some (.ref r2), some (.int v3), some (.int v4), some (.int v5), none], []) (sh, I, J) Q)
    (k2 : ¬ ((I r0 5) < (4 : Int32)) → xG d zm_Transforms_take (24, [some (.ref r0), some (.ref r1), some (.ref r2), some (.int v3), some (.int v4), some (.int v5), none], []) (sh, I, J) Q) :
    xG d zm_Transforms_take (16, [some (.ref r0), some (.ref r1), some (.ref r2), some (.int v3), some (.int v4), some (.int v5), none], []) (sh, I, J) Q := by
  exact xG_N 3 (ps := [xOb sh r0 9]) (f1 := (21, [some (.ref r0), some (.ref r1), some (.ref r2), some (.int v3), some (.int v4), some (.int v5), none], [.int (4 : Int32), .int (I r0 5)])) (h1 := (sh, I, J)) rfl e0 (xG_B rfl rfl k1 k2)
set_option maxRecDepth 100000 in
theorem s_Transforms_take_24 {d : Nat} {Q : xO → xH → Prop} {sh : List xS} {I : Nat → Nat → Int32} {J : Nat → Nat → Int64} {r0 : Nat} {r1 : Nat} {r2 : Nat} {v3 : Int32} {v4 : Int32} {v5 : Int32}
    (k : Q (.inr sh.length) (sh ++ [.inr (100, [])], I, J)) :
    xG d zm_Transforms_take (24, [some (.ref r0), some (.ref r1), some (.ref r2), some (.int v3), some (.int v4), some (.int v5), none], []) (sh, I, J) Q := by
  exact xG_T rfl rfl rfl (Nat.le_of_ble_eq_true rfl) k
set_option maxRecDepth 100000 in
theorem s_Transforms_take_34 {d : Nat} {Q : xO → xH → Prop} {sh : List xS} {I : Nat → Nat → Int32} {J : Nat → Nat → Int64} {r0 : Nat} {r1 : Nat} {r2 : Nat} {v3 : Int32} {v4 : Int32} {v5 : Int32} {a1 : Nat} {n2 : Nat}
    (e0 : xRr sh r0 9 0 a1)
    (e1 : xAr sh a1 .int n2)
    (e2 : 4 ≤ a1)
    (e3 : vp_in (I r0 5) n2)
    (k1 : ¬ v5 = (2 : Int32) → xG d zm_Transforms_take (63, [some (.ref r0), some (.ref r1), some (.ref r2), some (.int v3), some (.int v4), some (.int v5), none], []) (sh, xup (xup I a1 (I r0 5).toNatClampNeg v5) r0 5 (((xup I a1 (I r0 5).toNatClampNeg v5) r0 5) + (1 : Int32)), J) Q)
    (k2 : ¬ (¬ v5 = (2 : Int32)) → xG d zm_Transforms_take (61, [some (.ref r0), some (.ref r1), some (.ref r2), some (.int v3), some (.int v4), some (.int v5), none], []) (sh, xup (xup I a1 (I r0 5).toNatClampNeg v5) r0 5 (((xup I a1 (I r0 5).toNatClampNeg v5) r0 5) + (1 : Int32)), J) Q) :
    xG d zm_Transforms_take (34, [some (.ref r0), some (.ref r1), some (.ref r2), some (.int v3), some (.int v4), some (.int v5), none], []) (sh, I, J) Q := by
  obtain rfl := e0.eq
  obtain rfl := e1.eq
  exact xG_N 14 (ps := [xRf sh r0 9 0, xOb sh r0 9, xW sh (xrf sh r0 0) .int, vp_in (I r0 5) (xlen sh (xrf sh r0 0)), xOb sh r0 9, xOb sh r0 9]) (f1 := (58, [some (.ref r0), some (.ref r1), some (.ref r2), some (.int v3), some (.int v4), some (.int v5), none], [.int (2 : Int32), .int v5])) (h1 := (sh, xup (xup I (xrf sh r0 0) (I r0 5).toNatClampNeg v5) r0 5 (((xup I (xrf sh r0 0) (I r0 5).toNatClampNeg v5) r0 5) + (1 : Int32)), J)) rfl ⟨e0.rf, e0.ob, ⟨e1.ar, e2⟩, e3, e0.ob, e0.ob⟩ (xG_B rfl rfl k1 k2)
set_option maxRecDepth 100000 in
theorem s_Transforms_take_61 {d : Nat} {Q : xO → xH → Prop} {sh : List xS} {I : Nat → Nat → Int32} {J : Nat → Nat → Int64} {r0 : Nat} {r1 : Nat} {r2 : Nat} {v3 : Int32} {v4 : Int32} {v5 : Int32}
    (k : Q (.inl (some (.int v3))) (sh, I, J)) :
    xG d zm_Transforms_take (61, [some (.ref r0), some (.ref r1), some (.ref r2), some (.int v3), some (.int v4), some (.int v5), none], []) (sh, I, J) Q := by
  exact xG_N 1 (ps := []) (f1 := (62, [some (.ref r0), some (.ref r1), some (.ref r2), some (.int v3), some (.int v4), some (.int v5), none], [.int v3])) (h1 := (sh, I, J)) rfl trivial (xG_Q rfl rfl trivial k)
set_option maxRecDepth 100000 in
theorem s_Transforms_take_63 {d : Nat} {Q : xO → xH → Prop} {sh : List xS} {I : Nat → Nat → Int32} {J : Nat → Nat → Int64} {r0 : Nat} {r1 : Nat} {r2 : Nat} {v3 : Int32} {v4 : Int32} {v5 : Int32}
    (k1 : ¬ v5 = (3 : Int32) → xG d zm_Transforms_take (117, [some (.ref r0), some (.ref r1), some (.ref r2), some (.int v3), some (.int v4), some (.int v5), none], []) (sh, I, J) Q)
    (k2 : ¬ (¬ v5 = (3 : Int32)) → xG d zm_Transforms_take (69, [some (.ref r0), some (.ref r1), some (.ref r2), some (.int v3), some (.int v4), some (.int v5), none], []) (sh, I, J) Q) :
    xG d zm_Transforms_take (63, [some (.ref r0), some (.ref r1), some (.ref r2), some (.int v3), some (.int v4), some (.int v5), none], []) (sh, I, J) Q := by
  exact xG_N 2 (ps := []) (f1 := (66, [some (.ref r0), some (.ref r1), some (.ref r2), some (.int v3), some (.int v4), some (.int v5), none], [.int (3 : Int32), .int v5])) (h1 := (sh, I, J)) rfl trivial (xG_B rfl rfl k1 k2)
set_option maxRecDepth 100000 in
theorem s_Transforms_take_69 {d : Nat} {Q : xO → xH → Prop} {sh : List xS} {I : Nat → Nat → Int32} {J : Nat → Nat → Int64} {r0 : Nat} {r1 : Nat} {r2 : Nat} {v3 : Int32} {v4 : Int32} {v5 : Int32} {a1 : Nat}
    (e0 : xRr sh r0 9 3 a1)
    (ko : xOb sh r1 1)
    (k : xg d qBits_number [.ref r1, .int (4 : Int32)] (sh, I, J) (xI (fun v h1 => xG d zm_Transforms_take (78, [some (.ref r0), some (.ref r1), some (.ref r2), some (.int v3), some (.int v4), some (.int v5), none], [.int v, .ref a1]) h1 Q) (fun x h1 => Q (.inr x) h1))) :
    xG d zm_Transforms_take (69, [some (.ref r0), some (.ref r1), some (.ref r2), some (.int v3), some (.int v4), some (.int v5), none], []) (sh, I, J) Q := by
  obtain rfl := e0.eq
  exact xG_N 4 (ps := [xRf sh r0 9 3]) (f1 := (75, [some (.ref r0), some (.ref r1), some (.ref r2), some (.int v3), some (.int v4), some (.int v5), none], [.int (4 : Int32), .ref r1, .ref (xrf sh r0 3)])) (h1 := (sh, I, J)) rfl e0.rf (xG_Ci rfl rfl (Nat.le_of_ble_eq_true rfl) (Nat.le_of_ble_eq_true rfl) ⟨_, _, rfl, ko⟩ rfl k)
set_option maxRecDepth 100000 in
theorem s_Transforms_take_78 {d : Nat} {Q : xO → xH → Prop} {sh : List xS} {I : Nat → Nat → Int32} {J : Nat → Nat → Int64} {r0 : Nat} {r1 : Nat} {r2 : Nat} {v3 : Int32} {v4 : Int32} {v5 : Int32} {t0 : Nat} {t1 : Int32}
    (ko : xOb sh t0 8)
    (k : xg d qPlane_shape [.ref t0, .int (t1 + (1 : Int32)), .int (1 : Int32)] (sh, I, J) (xU (fun h1 => xG d zm_Transforms_take (84, [some (.ref r0), some (.ref r1), some (.ref r2), some (.int v3), some (.int v4), some (.int v5), none], []) h1 Q) (fun x h1 => Q (.inr x) h1))) :
    xG d zm_Transforms_take (78, [some (.ref r0), some (.ref r1), some (.ref r2), some (.int v3), some (.int v4), some (.int v5), none], [.int t1, .ref t0]) (sh, I, J) Q := by
  exact xG_N 3 (ps := []) (f1 := (81, [some (.ref r0), some (.ref r1), some (.ref r2), some (.int v3), some (.int v4), some (.int v5), none], [.int (1 : Int32), .int (t1 + (1 : Int32)), .ref t0])) (h1 := (sh, I, J)) rfl trivial (xG_Cu rfl rfl (Nat.le_of_ble_eq_true rfl) (Nat.le_of_ble_eq_true rfl) ⟨_, _, rfl, ko⟩ rfl k)
set_option maxRecDepth 100000 in
theorem s_Transforms_take_84 {d : Nat} {Q : xO → xH → Prop} {sh : List xS} {I : Nat → Nat → Int32} {J : Nat → Nat → Int64} {r0 : Nat} {r1 : Nat} {r2 : Nat} {v3 : Int32} {v4 : Int32} {v5 : Int32} {a1 : Nat}
    (e0 : xRr sh r0 9 3 a1)
    (ko : xOb sh r2 6)
    (k : xg d qImageReader_take [.ref r2, .ref r1, .ref a1] (sh, I, J) (xU (fun h1 => xG d zm_Transforms_take (93, [some (.ref r0), some (.ref r1), some (.ref r2), some (.int v3), some (.int v4), some (.int v5), none], []) h1 Q) (fun x h1 => Q (.inr x) h1))) :
    xG d zm_Transforms_take (84, [some (.ref r0), some (.ref r1), some (.ref r2), some (.int v3), some (.int v4), some (.int v5), none], []) (sh, I, J) Q := by
  obtain rfl := e0.eq
  exact xG_N 4 (ps := [xRf sh r0 9 3]) (f1 := (90, [some (.ref r0), some (.ref r1), some (.ref r2), some (.int v3), some (.int v4), some (.int v5), none], [.ref (xrf sh r0 3), .ref r1, .ref r2])) (h1 := (sh, I, J)) rfl e0.rf (xG_Cu rfl rfl (Nat.le_of_ble_eq_true rfl) (Nat.le_of_ble_eq_true rfl) ⟨_, _, rfl, ko⟩ rfl k)
set_option maxRecDepth 100000 in
theorem s_Transforms_take_93 {d : Nat} {Q : xO → xH → Prop} {sh : List xS} {I : Nat → Nat → Int32} {J : Nat → Nat → Int64} {r0 : Nat} {r1 : Nat} {r2 : Nat} {v3 : Int32} {v4 : Int32} {v5 : Int32}
    (ko : xOb sh r0 9)
    (k : xg d qTransforms_sumUpPalette [.ref r0] (sh, I, J) (xU (fun h1 => xG d zm_Transforms_take (97, [some (.ref r0), some (.ref r1), some (.ref r2), some (.int v3), some (.int v4), some (.int v5), none], []) h1 Q) (fun x h1 => Q (.inr x) h1))) :
    xG d zm_Transforms_take (93, [some (.ref r0), some (.ref r1), some (.ref r2), some (.int v3), some (.int v4), some (.int v5), none], []) (sh, I, J) Q := by
  exact xG_N 1 (ps := []) (f1 := (94, [some (.ref r0), some (.ref r1), some (.ref r2), some (.int v3), some (.int v4), some (.int v5), none], [.ref r0])) (h1 := (sh, I, J)) rfl trivial (xG_Cu rfl rfl (Nat.le_of_ble_eq_true rfl) (Nat.le_of_ble_eq_true rfl) ⟨_, _, rfl, ko⟩ rfl k)
set_option maxRecDepth 100000 in
theorem s_Transforms_take_97 {d : Nat} {Q : xO → xH → Prop} {sh : List xS} {I : Nat → Nat → Int32} {J : Nat → Nat → Int64} {r0 : Nat} {r1 : Nat} {r2 : Nat} {v3 : Int32} {v4 : Int32} {v5 : Int32} {a1 : Nat}
    (e0 : xOb sh r0 9)
    (e1 : xRr sh r0 9 3 a1)
    (e2 : xOb sh a1 8)
    (k : xg d qColours_packing [.int ((xup I r0 4 v3) a1 1)] (sh, xup I r0 4 v3, J) (xI (fun v h1 => xG d zm_Transforms_take (113, [some (.ref r0), some (.ref r1), some (.ref r2), some (.int v3), some (.int v4), some (.int v5), none], [.int v, .int v3]) h1 Q) (fun x h1 => Q (.inr x) h1))) :
    xG d zm_Transforms_take (97, [some (.ref r0), some (.ref r1), some (.ref r2), some (.int v3), some (.int v4), some (.int v5), none], []) (sh, I, J) Q := by
  obtain rfl := e1.eq
  exact xG_N 7 (ps := [xOb sh r0 9, xRf sh r0 9 3, xOb sh (xrf sh r0 3) 8]) (f1 := (110, [some (.ref r0), some (.ref r1), some (.ref r2), some (.int v3), some (.int v4), some (.int v5), none], [.int ((xup I r0 4 v3) (xrf sh r0 3) 1), .int v3])) (h1 := (sh, xup I r0 4 v3, J)) rfl ⟨e0, e1.rf, e2⟩ (xG_Ci rfl rfl (Nat.le_of_ble_eq_true rfl) (Nat.le_of_ble_eq_true rfl) trivial rfl k)
set_option maxRecDepth 100000 in
theorem s_Transforms_take_113 {d : Nat} {Q : xO → xH → Prop} {sh : List xS} {I : Nat → Nat → Int32} {J : Nat → Nat → Int64} {r0 : Nat} {r1 : Nat} {r2 : Nat} {v3 : Int32} {v4 : Int32} {v5 : Int32} {t0 : Int32} {t1 : Int32}
    (k : xg d qColours_packedWidth [.int t0, .int t1] (sh, I, J) (xI (fun v h1 => xG d zm_Transforms_take (116, [some (.ref r0), some (.ref r1), some (.ref r2), some (.int v3), some (.int v4), some (.int v5), none], [.int v]) h1 Q) (fun x h1 => Q (.inr x) h1))) :
    xG d zm_Transforms_take (113, [some (.ref r0), some (.ref r1), some (.ref r2), some (.int v3), some (.int v4), some (.int v5), none], [.int t1, .int t0]) (sh, I, J) Q := by
  exact xG_Ci rfl rfl (Nat.le_of_ble_eq_true rfl) (Nat.le_of_ble_eq_true rfl) trivial rfl k
set_option maxRecDepth 100000 in
theorem s_Transforms_take_116 {d : Nat} {Q : xO → xH → Prop} {sh : List xS} {I : Nat → Nat → Int32} {J : Nat → Nat → Int64} {r0 : Nat} {r1 : Nat} {r2 : Nat} {v3 : Int32} {v4 : Int32} {v5 : Int32} {t0 : Int32}
    (k : Q (.inl (some (.int t0))) (sh, I, J)) :
    xG d zm_Transforms_take (116, [some (.ref r0), some (.ref r1), some (.ref r2), some (.int v3), some (.int v4), some (.int v5), none], [.int t0]) (sh, I, J) Q := by
  exact xG_Q rfl rfl trivial k
set_option maxRecDepth 100000 in
theorem s_Transforms_take_117 {d : Nat} {Q : xO → xH → Prop} {sh : List xS} {I : Nat → Nat → Int32} {J : Nat → Nat → Int64} {r0 : Nat} {r1 : Nat} {r2 : Nat} {v3 : Int32} {v4 : Int32} {v5 : Int32}
    (k1 : ¬ v5 = 0 → xG d zm_Transforms_take (129, [some (.ref r0), some (.ref r1), some (.ref r2), some (.int v3), some (.int v4), some (.int v5), none], []) (sh, I, J) Q)
    (k2 : ¬ (¬ v5 = 0) → xG d zm_Transforms_take (122, [some (.ref r0), some (.ref r1), some (.ref r2), some (.int v3), some (.int v4), some (.int v5), none], []) (sh, I, J) Q) :
    xG d zm_Transforms_take (117, [some (.ref r0), some (.ref r1), some (.ref r2), some (.int v3), some (.int v4), some (.int v5), none], []) (sh, I, J) Q := by
  exact xG_N 1 (ps := []) (f1 := (119, [some (.ref r0), some (.ref r1), some (.ref r2), some (.int v3), some (.int v4), some (.int v5), none], [.int v5])) (h1 := (sh, I, J)) rfl trivial (xG_B rfl rfl k1 k2)
set_option maxRecDepth 100000 in
theorem s_Transforms_take_122 {d : Nat} {Q : xO → xH → Prop} {sh : List xS} {I : Nat → Nat → Int32} {J : Nat → Nat → Int64} {r0 : Nat} {r1 : Nat} {r2 : Nat} {v3 : Int32} {v4 : Int32} {v5 : Int32} {a1 : Nat}
    (e0 : xRr sh r0 9 1 a1)
    (k : xg d qTransforms_shapeBlocks [.ref a1, .int v3, .int v4] (sh, I, J) (xU (fun h1 => xG d zm_Transforms_take (143, [some (.ref r0), some (.ref r1), some (.ref r2), some (.int v3), some (.int v4), some (.int v5), some (.ref a1)], []) h1 Q) (fun x h1 => Q (.inr x) h1))) :
    xG d zm_Transforms_take (122, [some (.ref r0), some (.ref r1), some (.ref r2), some (.int v3), some (.int v4), some (.int v5), none], []) (sh, I, J) Q := by
  obtain rfl := e0.eq
  exact xG_N 7 (ps := [xRf sh r0 9 1]) (f1 := (140, [some (.ref r0), some (.ref r1), some (.ref r2), some (.int v3), some (.int v4), some (.int v5), some (.ref (xrf sh r0 1))], [.int v4, .int v3, .ref (xrf sh r0 1)])) (h1 := (sh, I, J)) rfl e0.rf (xG_Cu rfl rfl (Nat.le_of_ble_eq_true rfl) (Nat.le_of_ble_eq_true rfl) trivial rfl k)
set_option maxRecDepth 100000 in
theorem s_Transforms_take_129 {d : Nat} {Q : xO → xH → Prop} {sh : List xS} {I : Nat → Nat → Int32} {J : Nat → Nat → Int64} {r0 : Nat} {r1 : Nat} {r2 : Nat} {v3 : Int32} {v4 : Int32} {v5 : Int32} {a1 : Nat}
    (e0 : xRr sh r0 9 2 a1)
    (k : xg d qTransforms_shapeBlocks [.ref a1, .int v3, .int v4] (sh, I, J) (xU (fun h1 => xG d zm_Transforms_take (143, [some (.ref r0), some (.ref r1), some (.ref r2), some (.int v3), some (.int v4), some (.int v5), some (.ref a1)], []) h1 Q) (fun x h1 => Q (.inr x) h1))) :
    xG d zm_Transforms_take (129, [some (.ref r0), some (.ref r1), some (.ref r2), some (.int v3), some (.int v4), some (.int v5), none], []) (sh, I, J) Q := by
  obtain rfl := e0.eq
  exact xG_N 6 (ps := [xRf sh r0 9 2]) (f1 := (140, [some (.ref r0), some (.ref r1), some (.ref r2), some (.int v3), some (.int v4), some (.int v5), some (.ref (xrf sh r0 2))], [.int v4, .int v3, .ref (xrf sh r0 2)])) (h1 := (sh, I, J)) rfl e0.rf (xG_Cu rfl rfl (Nat.le_of_ble_eq_true rfl) (Nat.le_of_ble_eq_true rfl) trivial rfl k)
set_option maxRecDepth 100000 in
theorem s_Transforms_take_143 {d : Nat} {Q : xO → xH → Prop} {sh : List xS} {I : Nat → Nat → Int32} {J : Nat → Nat → Int64} {r0 : Nat} {r1 : Nat} {r2 : Nat} {v3 : Int32} {v4 : Int32} {v5 : Int32} {r6 : Nat}
    (ko : xOb sh r2 6)
    (k : xg d qImageReader_take [.ref r2, .ref r1, .ref r6] (sh, I, J) (xU (fun h1 => xG d zm_Transforms_take (150, [some (.ref r0), some (.ref r1), some (.ref r2), some (.int v3), some (.int v4), some (.int v5), some (.ref r6)], []) h1 Q) (fun x h1 => Q (.inr x) h1))) :
    xG d zm_Transforms_take (143, [some (.ref r0), some (.ref r1), some (.ref r2), some (.int v3), some (.int v4), some (.int v5), some (.ref r6)], []) (sh, I, J) Q := by
  exact xG_N 3 (ps := []) (f1 := (147, [some (.ref r0), some (.ref r1), some (.ref r2), some (.int v3), some (.int v4), some (.int v5), some (.ref r6)], [.ref r6, .ref r1, .ref r2])) (h1 := (sh, I, J)) rfl trivial (xG_Cu rfl rfl (Nat.le_of_ble_eq_true rfl) (Nat.le_of_ble_eq_true rfl) ⟨_, _, rfl, ko⟩ rfl k)
set_option maxRecDepth 100000 in
theorem s_Transforms_take_150 {d : Nat} {Q : xO → xH → Prop} {sh : List xS} {I : Nat → Nat → Int32} {J : Nat → Nat → Int64} {r0 : Nat} {r1 : Nat} {r2 : Nat} {v3 : Int32} {v4 : Int32} {v5 : Int32} {r6 : Nat}
    (k : Q (.inl (some (.int v3))) (sh, I, J)) :
    xG d zm_Transforms_take (150, [some (.ref r0), some (.ref r1), some (.ref r2), some (.int v3), some (.int v4), some (.int v5), some (.ref r6)], []) (sh, I, J) Q := by
  exact xG_N 1 (ps := []) (f1 := (151, [some (.ref r0), some (.ref r1), some (.ref r2), some (.int v3), some (.int v4), some (.int v5), some (.ref r6)], [.int v3])) (h1 := (sh, I, J)) rfl trivial (xG_Q rfl rfl trivial k)
set_option maxRecDepth 100000 in
theorem s_Transforms_sumUpPalette_0 {d : Nat} {Q : xO → xH → Prop} {sh : List xS} {I : Nat → Nat → Int32} {J : Nat → Nat → Int64} {r0 : Nat}
    (k : xG d zm_Transforms_sumUpPalette (2, [some (.ref r0), some (.int (1 : Int32))], []) (sh, I, J) Q) :
    xG d zm_Transforms_sumUpPalette (0, [some (.ref r0), none], []) (sh, I, J) Q := by
  exact xG_N 2 (ps := []) (f1 := (2, [some (.ref r0), some (.int (1 : Int32))], [])) (h1 := (sh, I, J)) rfl trivial (k)
set_option maxRecDepth 100000 in
theorem s_Transforms_sumUpPalette_2 {d : Nat} {Q : xO → xH → Prop} {sh : List xS} {I : Nat → Nat → Int32} {J : Nat → Nat → Int64} {r0 : Nat} {v1 : Int32} {a1 : Nat}
    (e0 : xRr sh r0 9 3 a1)
    (e1 : xOb sh a1 8)
    (k1 : (I a1 1) ≤ v1 → xG d zm_Transforms_sumUpPalette (51, [some (.ref r0), some (.int v1)], []) (sh, I, J) Q)
    (k2 : ¬ ((I a1 1) ≤ v1) → xG d zm_Transforms_sumUpPalette (13, [some (.ref r0), some (.int v1)], []) (sh, I, J) Q) :
    xG d zm_Transforms_sumUpPalette (2, [some (.ref r0), some (.int v1)], []) (sh, I, J) Q := by
  obtain rfl := e0.eq
  exact xG_N 4 (ps := [xRf sh r0 9 3, xOb sh (xrf sh r0 3) 8]) (f1 := (10, [some (.ref r0), some (.int v1)], [.int (I (xrf sh r0 3) 1), .int v1])) (h1 := (sh, I, J)) rfl ⟨e0.rf, e1⟩ (xG_B rfl rfl k1 k2)
set_option maxRecDepth 100000 in
theorem s_Transforms_sumUpPalette_13 {d : Nat} {Q : xO → xH → Prop} {sh : List xS} {I : Nat → Nat → Int32} {J : Nat → Nat → Int64} {r0 : Nat} {v1 : Int32} {a1 : Nat} {a2 : Nat} {n3 : Nat}
    (e0 : xRr sh r0 9 3 a1)
    (e1 : xRr sh a1 8 0 a2)
    (e2 : xAr sh a2 .int n3)
    (e3 : vp_in v1 n3)
    (e4 : vp_in (v1 - (1 : Int32)) n3)
    (k : xg d qL_sum [.int (I a2 v1.toNatClampNeg), .int (I a2 (v1 - (1 : Int32)).toNatClampNeg)] (sh, I, J) (xI (fun v h1 => xG d zm_Transforms_sumUpPalette (44, [some (.ref r0), some (.int v1)], [.int v, .int v1, .ref a2]) h1 Q) (fun x h1 => Q (.inr x) h1))) :
    xG d zm_Transforms_sumUpPalette (13, [some (.ref r0), some (.int v1)], []) (sh, I, J) Q := by
  obtain rfl := e0.eq
  obtain rfl := e1.eq
  obtain rfl := e2.eq
  exact xG_N 16 (ps := [xRf sh r0 9 3, xRf sh (xrf sh r0 3) 8 0, xRf sh r0 9 3, xRf sh (xrf sh r0 3) 8 0, xA sh (xrf sh (xrf sh r0 3) 0) .int, vp_in v1 (xlen sh (xrf sh (xrf sh r0 3) 0)), xRf sh r0 9 3, xRf sh (xrf sh r0 3) 8 0, xA sh (xrf sh (xrf sh r0 3) 0) .int, vp_in (v1 - (1 : Int32)) (xlen sh (xrf sh (xrf sh r0 3) 0))]) (f1 := (41, [some (.ref r0), some (.int v1)], [.int (I (xrf sh (xrf sh r0 3) 0) (v1 - (1 : Int32)).toNatClampNeg), .int (I (xrf sh (xrf sh r0 3) 0) v1.toNatClampNeg), .int v1, .ref (xrf sh (xrf sh r0 3) 0)])) (h1 := (sh, I, J)) rfl ⟨e0.rf, e1.rf, e0.rf, e1.rf, e2.ar, e3, e0.rf, e1.rf, e2.ar, e4⟩ (xG_Ci rfl rfl (Nat.le_of_ble_eq_true rfl) (Nat.le_of_ble_eq_true rfl) trivial rfl k)
set_option maxRecDepth 100000 in
theorem s_Transforms_sumUpPalette_44 {d : Nat} {Q : xO → xH → Prop} {sh : List xS} {I : Nat → Nat → Int32} {J : Nat → Nat → Int64} {r0 : Nat} {v1 : Int32} {t0 : Nat} {t1 : Int32} {t2 : Int32} {n1 : Nat}
    (e0 : xAr sh t0 .int n1)
    (e1 : 4 ≤ t0)
    (e2 : vp_in t1 n1)
    (k : xG d zm_Transforms_sumUpPalette (2, [some (.ref r0), some (.int (v1 + (1 : Int32)))], []) (sh, xup I t0 t1.toNatClampNeg t2, J) Q) :
    xG d zm_Transforms_sumUpPalette (44, [some (.ref r0), some (.int v1)], [.int t2, .int t1, .ref t0]) (sh, I, J) Q := by
  obtain rfl := e0.eq
  exact xG_N 3 (ps := [xW sh t0 .int, vp_in t1 (xlen sh t0)]) (f1 := (2, [some (.ref r0), some (.int (v1 + (1 : Int32)))], [])) (h1 := (sh, xup I t0 t1.toNatClampNeg t2, J)) rfl ⟨⟨e0.ar, e1⟩, e2⟩ (k)
set_option maxRecDepth 100000 in
theorem s_Transforms_sumUpPalette_51 {d : Nat} {Q : xO → xH → Prop} {sh : List xS} {I : Nat → Nat → Int32} {J : Nat → Nat → Int64} {r0 : Nat} {v1 : Int32}
    (k : Q (.inl (none)) (sh, I, J)) :
    xG d zm_Transforms_sumUpPalette (51, [some (.ref r0), some (.int v1)], []) (sh, I, J) Q := by
  exact xG_Q rfl rfl trivial k
set_option maxRecDepth 100000 in
theorem s_Transforms_shapeBlocks_0 {d : Nat} {Q : xO → xH → Prop} {sh : List xS} {I : Nat → Nat → Int32} {J : Nat → Nat → Int64} {r0 : Nat} {v1 : Int32} {v2 : Int32}
    (ko : xOb sh r0 8)
    (k : xg d qPlane_shape [.ref r0, .int (((v1 + (4 : Int32)) - (1 : Int32)) / (4 : Int32)), .int (((v2 + (4 : Int32)) - (1 : Int32)) / (4 : Int32))] (sh, I, J) (xU (fun h1 => xG d zm_Transforms_shapeBlocks (18, [some (.ref r0), some (.int v1), some (.int v2)], []) h1 Q) (fun x h1 => Q (.inr x) h1))) :
    xG d zm_Transforms_shapeBlocks (0, [some (.ref r0), some (.int v1), some (.int v2)], []) (sh, I, J) Q := by
  exact xG_N 15 (ps := [¬ (4 : Int32) = 0, ¬ (4 : Int32) = 0]) (f1 := (15, [some (.ref r0), some (.int v1), some (.int v2)], [.int (((v2 + (4 : Int32)) - (1 : Int32)) / (4 : Int32)), .int (((v1 + (4 : Int32)) - (1 : Int32)) / (4 : Int32)), .ref r0])) (h1 := (sh, I, J)) rfl ⟨(show ¬ (4 : Int32) = 0 by decide), (show ¬ (4 : Int32) = 0 by decide)⟩ (xG_Cu rfl rfl (Nat.le_of_ble_eq_true rfl) (Nat.le_of_ble_eq_true rfl) ⟨_, _, rfl, ko⟩ rfl k)
set_option maxRecDepth 100000 in
theorem s_Transforms_shapeBlocks_18 {d : Nat} {Q : xO → xH → Prop} {sh : List xS} {I : Nat → Nat → Int32} {J : Nat → Nat → Int64} {r0 : Nat} {v1 : Int32} {v2 : Int32}
    (k : Q (.inl (none)) (sh, I, J)) :
    xG d zm_Transforms_shapeBlocks (18, [some (.ref r0), some (.int v1), some (.int v2)], []) (sh, I, J) Q := by
  exact xG_Q rfl rfl trivial k
set_option maxRecDepth 100000 in
theorem s_Transforms_undoAll_0 {d : Nat} {Q : xO → xH → Prop} {sh : List xS} {I : Nat → Nat → Int32} {J : Nat → Nat → Int64} {r0 : Nat} {r1 : Nat}
    (e0 : xOb sh r0 9)
    (k : xG d zm_Transforms_undoAll (7, [some (.ref r0), some (.ref r1), some (.int ((I r0 5) - (1 : Int32)))], []) (sh, I, J) Q) :
    xG d zm_Transforms_undoAll (0, [some (.ref r0), some (.ref r1), none], []) (sh, I, J) Q := by
  exact xG_N 5 (ps := [xOb sh r0 9]) (f1 := (7, [some (.ref r0), some (.ref r1), some (.int ((I r0 5) - (1 : Int32)))], [])) (h1 := (sh, I, J)) rfl e0 (k)
set_option maxRecDepth 100000 in
theorem s_Transforms_undoAll_7 {d : Nat} {Q : xO → xH → Prop} {sh : List xS} {I : Nat → Nat → Int32} {J : Nat → Nat → Int64} {r0 : Nat} {r1 : Nat} {v2 : Int32}
    (k1 : v2 < 0 → xG d zm_Transforms_undoAll (91, [some (.ref r0), some (.ref r1), some (.int v2)], []) (sh, I, J) Q)
    (k2 : ¬ (v2 < 0) → xG d zm_Transforms_undoAll (11, [some (.ref r0), some (.ref r1), some (.int v2)], []) (sh, I, J) Q) :
    xG d zm_Transforms_undoAll (7, [some (.ref r0), some (.ref r1), some (.int v2)], []) (sh, I, J) Q := by
  exact xG_N 1 (ps := []) (f1 := (8, [some (.ref r0), some (.ref r1), some (.int v2)], [.int v2])) (h1 := (sh, I, J)) rfl trivial (xG_B rfl rfl k1 k2)
set_option maxRecDepth 100000 in
theorem s_Transforms_undoAll_11 {d : Nat} {Q : xO → xH → Prop} {sh : List xS} {I : Nat → Nat → Int32} {J : Nat → Nat → Int64} {r0 : Nat} {r1 : Nat} {v2 : Int32} {a1 : Nat} {n2 : Nat}
    (e0 : xRr sh r0 9 0 a1)
    (e1 : xAr sh a1 .int n2)
    (e2 : vp_in v2 n2)
    (k0 : (I a1 v2.toNatClampNeg) = (0 : Int32) → xG d zm_Transforms_undoAll (44, [some (.ref r0), some (.ref r1), some (.int v2)], []) (sh, I, J) Q)
    (k1 : (I a1 v2.toNatClampNeg) = (1 : Int32) → xG d zm_Transforms_undoAll (55, [some (.ref r0), some (.ref r1), some (.int v2)], []) (sh, I, J) Q)
    (k2 : (I a1 v2.toNatClampNeg) = (2 : Int32) → xG d zm_Transforms_undoAll (66, [some (.ref r0), some (.ref r1), some (.int v2)], []) (sh, I, J) Q)
    (kd : ((I a1 v2.toNatClampNeg).toInt < 0 ∨ 2 < (I a1 v2.toNatClampNeg).toInt) → xG d zm_Transforms_undoAll (73, [some (.ref r0), some (.ref r1), some (.int v2)], []) (sh, I, J) Q) :
    xG d zm_Transforms_undoAll (11, [some (.ref r0), some (.ref r1), some (.int v2)], []) (sh, I, J) Q := by
  obtain rfl := e0.eq
  obtain rfl := e1.eq
  have key : ∀ x : Int32, (x = (0 : Int32) → xG d zm_Transforms_undoAll (44, [some (.ref r0), some (.ref r1), some (.int v2)], []) (sh, I, J) Q) → (x = (1 : Int32) → xG d zm_Transforms_undoAll (55, [some (.ref r0), some (.ref r1), some (.int v2)], []) (sh, I, J) Q) → (x = (2 : Int32) → xG d zm_Transforms_undoAll (66, [some (.ref r0), some (.ref r1), some (.int v2)], []) (sh, I, J) Q) → ((x.toInt < 0 ∨ 2 < x.toInt) → xG d zm_Transforms_undoAll (73, [some (.ref r0), some (.ref r1), some (.int v2)], []) (sh, I, J) Q) → xG d zm_Transforms_undoAll (17, [some (.ref r0), some (.ref r1), some (.int v2)], [.int x]) (sh, I, J) Q := by
    intro x k0 k1 k2 kd
    by_cases hx : x.toInt < 0 ∨ 2 < x.toInt
    · exact xG_S (t := 73) rfl (Or.elim hx Or.inl (fun h => Or.inr (Or.inl h))) (by unfold xsw; rw [if_pos hx]; rfl) (kd hx)
    · have hc : x.toInt = 0 ∨ x.toInt = 1 ∨ x.toInt = 2 := by omega
      rcases hc with hc | hc | hc
      · obtain rfl : x = (0 : Int32) := Int32.toInt_inj.mp (by rw [hc]; rfl)
        exact xG_S (t := 44) rfl (by decide) (by decide) (k0 rfl)
      · obtain rfl : x = (1 : Int32) := Int32.toInt_inj.mp (by rw [hc]; rfl)
        exact xG_S (t := 55) rfl (by decide) (by decide) (k1 rfl)
      · obtain rfl : x = (2 : Int32) := Int32.toInt_inj.mp (by rw [hc]; rfl)
        exact xG_S (t := 66) rfl (by decide) (by decide) (k2 rfl)
  exact xG_N 4 (ps := [xRf sh r0 9 0, xA sh (xrf sh r0 0) .int, vp_in v2 (xlen sh (xrf sh r0 0))]) (f1 := (17, [some (.ref r0), some (.ref r1), some (.int v2)], [.int (I (xrf sh r0 0) v2.toNatClampNeg)])) (h1 := (sh, I, J)) rfl ⟨e0.rf, e1.ar, e2⟩ (key _ k0 k1 k2 kd)
set_option maxRecDepth 100000 in
theorem s_Transforms_undoAll_44 {d : Nat} {Q : xO → xH → Prop} {sh : List xS} {I : Nat → Nat → Int32} {J : Nat → Nat → Int64} {r0 : Nat} {r1 : Nat} {v2 : Int32} {a1 : Nat}
    (e0 : xRr sh r0 9 1 a1)
    (k : xg d qForetelling_putOn [.ref r1, .ref a1] (sh, I, J) (xU (fun h1 => xG d zm_Transforms_undoAll (52, [some (.ref r0), some (.ref r1), some (.int v2)], []) h1 Q) (fun x h1 => Q (.inr x) h1))) :
    xG d zm_Transforms_undoAll (44, [some (.ref r0), some (.ref r1), some (.int v2)], []) (sh, I, J) Q := by
  obtain rfl := e0.eq
  exact xG_N 3 (ps := [xRf sh r0 9 1]) (f1 := (49, [some (.ref r0), some (.ref r1), some (.int v2)], [.ref (xrf sh r0 1), .ref r1])) (h1 := (sh, I, J)) rfl e0.rf (xG_Cu rfl rfl (Nat.le_of_ble_eq_true rfl) (Nat.le_of_ble_eq_true rfl) trivial rfl k)
set_option maxRecDepth 100000 in
theorem s_Transforms_undoAll_52 {d : Nat} {Q : xO → xH → Prop} {sh : List xS} {I : Nat → Nat → Int32} {J : Nat → Nat → Int64} {r0 : Nat} {r1 : Nat} {v2 : Int32}
    (k : xG d zm_Transforms_undoAll (7, [some (.ref r0), some (.ref r1), some (.int (v2 + (-1 : Int32)))], []) (sh, I, J) Q) :
    xG d zm_Transforms_undoAll (52, [some (.ref r0), some (.ref r1), some (.int v2)], []) (sh, I, J) Q := by
  exact xG_N 3 (ps := []) (f1 := (7, [some (.ref r0), some (.ref r1), some (.int (v2 + (-1 : Int32)))], [])) (h1 := (sh, I, J)) rfl trivial (k)
set_option maxRecDepth 100000 in
theorem s_Transforms_undoAll_55 {d : Nat} {Q : xO → xH → Prop} {sh : List xS} {I : Nat → Nat → Int32} {J : Nat → Nat → Int64} {r0 : Nat} {r1 : Nat} {v2 : Int32} {a1 : Nat}
    (e0 : xRr sh r0 9 2 a1)
    (k : xg d qColours_putTogether [.ref r1, .ref a1] (sh, I, J) (xU (fun h1 => xG d zm_Transforms_undoAll (63, [some (.ref r0), some (.ref r1), some (.int v2)], []) h1 Q) (fun x h1 => Q (.inr x) h1))) :
    xG d zm_Transforms_undoAll (55, [some (.ref r0), some (.ref r1), some (.int v2)], []) (sh, I, J) Q := by
  obtain rfl := e0.eq
  exact xG_N 3 (ps := [xRf sh r0 9 2]) (f1 := (60, [some (.ref r0), some (.ref r1), some (.int v2)], [.ref (xrf sh r0 2), .ref r1])) (h1 := (sh, I, J)) rfl e0.rf (xG_Cu rfl rfl (Nat.le_of_ble_eq_true rfl) (Nat.le_of_ble_eq_true rfl) trivial rfl k)
set_option maxRecDepth 100000 in
theorem s_Transforms_undoAll_63 {d : Nat} {Q : xO → xH → Prop} {sh : List xS} {I : Nat → Nat → Int32} {J : Nat → Nat → Int64} {r0 : Nat} {r1 : Nat} {v2 : Int32}
    (k : xG d zm_Transforms_undoAll (7, [some (.ref r0), some (.ref r1), some (.int (v2 + (-1 : Int32)))], []) (sh, I, J) Q) :
    xG d zm_Transforms_undoAll (63, [some (.ref r0), some (.ref r1), some (.int v2)], []) (sh, I, J) Q := by
  exact xG_N 3 (ps := []) (f1 := (7, [some (.ref r0), some (.ref r1), some (.int (v2 + (-1 : Int32)))], [])) (h1 := (sh, I, J)) rfl trivial (k)
set_option maxRecDepth 100000 in
theorem s_Transforms_undoAll_66 {d : Nat} {Q : xO → xH → Prop} {sh : List xS} {I : Nat → Nat → Int32} {J : Nat → Nat → Int64} {r0 : Nat} {r1 : Nat} {v2 : Int32}
    (k : xg d qColours_putGreenOn [.ref r1] (sh, I, J) (xU (fun h1 => xG d zm_Transforms_undoAll (70, [some (.ref r0), some (.ref r1), some (.int v2)], []) h1 Q) (fun x h1 => Q (.inr x) h1))) :
    xG d zm_Transforms_undoAll (66, [some (.ref r0), some (.ref r1), some (.int v2)], []) (sh, I, J) Q := by
  exact xG_N 1 (ps := []) (f1 := (67, [some (.ref r0), some (.ref r1), some (.int v2)], [.ref r1])) (h1 := (sh, I, J)) rfl trivial (xG_Cu rfl rfl (Nat.le_of_ble_eq_true rfl) (Nat.le_of_ble_eq_true rfl) trivial rfl k)
set_option maxRecDepth 100000 in
theorem s_Transforms_undoAll_70 {d : Nat} {Q : xO → xH → Prop} {sh : List xS} {I : Nat → Nat → Int32} {J : Nat → Nat → Int64} {r0 : Nat} {r1 : Nat} {v2 : Int32}
    (k : xG d zm_Transforms_undoAll (7, [some (.ref r0), some (.ref r1), some (.int (v2 + (-1 : Int32)))], []) (sh, I, J) Q) :
    xG d zm_Transforms_undoAll (70, [some (.ref r0), some (.ref r1), some (.int v2)], []) (sh, I, J) Q := by
  exact xG_N 3 (ps := []) (f1 := (7, [some (.ref r0), some (.ref r1), some (.int (v2 + (-1 : Int32)))], [])) (h1 := (sh, I, J)) rfl trivial (k)
set_option maxRecDepth 100000 in
theorem s_Transforms_undoAll_73 {d : Nat} {Q : xO → xH → Prop} {sh : List xS} {I : Nat → Nat → Int32} {J : Nat → Nat → Int64} {r0 : Nat} {r1 : Nat} {v2 : Int32} {a1 : Nat}
    (e0 : xRr sh r0 9 3 a1)
    (k : xg d qColours_unpack [.ref r1, .ref a1, .int (I r0 4)] (sh, I, J) (xU (fun h1 => xG d zm_Transforms_undoAll (85, [some (.ref r0), some (.ref r1), some (.int v2)], []) h1 Q) (fun x h1 => Q (.inr x) h1))) :
    xG d zm_Transforms_undoAll (73, [some (.ref r0), some (.ref r1), some (.int v2)], []) (sh, I, J) Q := by
  obtain rfl := e0.eq
  exact xG_N 5 (ps := [xRf sh r0 9 3, xOb sh r0 9]) (f1 := (82, [some (.ref r0), some (.ref r1), some (.int v2)], [.int (I r0 4), .ref (xrf sh r0 3), .ref r1])) (h1 := (sh, I, J)) rfl ⟨e0.rf, e0.ob⟩ (xG_Cu rfl rfl (Nat.le_of_ble_eq_true rfl) (Nat.le_of_ble_eq_true rfl) trivial rfl k)
set_option maxRecDepth 100000 in
theorem s_Transforms_undoAll_85 {d : Nat} {Q : xO → xH → Prop} {sh : List xS} {I : Nat → Nat → Int32} {J : Nat → Nat → Int64} {r0 : Nat} {r1 : Nat} {v2 : Int32}
    (k : xG d zm_Transforms_undoAll (7, [some (.ref r0), some (.ref r1), some (.int (v2 + (-1 : Int32)))], []) (sh, I, J) Q) :
    xG d zm_Transforms_undoAll (85, [some (.ref r0), some (.ref r1), some (.int v2)], []) (sh, I, J) Q := by
  exact xG_N 2 (ps := []) (f1 := (7, [some (.ref r0), some (.ref r1), some (.int (v2 + (-1 : Int32)))], [])) (h1 := (sh, I, J)) rfl trivial (k)
set_option maxRecDepth 100000 in
theorem s_Transforms_undoAll_91 {d : Nat} {Q : xO → xH → Prop} {sh : List xS} {I : Nat → Nat → Int32} {J : Nat → Nat → Int64} {r0 : Nat} {r1 : Nat} {v2 : Int32}
    (k : Q (.inl (none)) (sh, I, J)) :
    xG d zm_Transforms_undoAll (91, [some (.ref r0), some (.ref r1), some (.int v2)], []) (sh, I, J) Q := by
  exact xG_Q rfl rfl trivial k
set_option maxRecDepth 100000 in
theorem s_Transforms_paletteImage_0 {d : Nat} {Q : xO → xH → Prop} {sh : List xS} {I : Nat → Nat → Int32} {J : Nat → Nat → Int64} {r0 : Nat} {r1 : Nat} {v2 : Int32} {a1 : Nat}
    (e0 : xRr sh r0 9 3 a1)
    (ko : xOb sh a1 8)
    (k : xg d qPlane_shape [.ref a1, .int v2, .int (1 : Int32)] (sh, I, J) (xU (fun h1 => xG d zm_Transforms_paletteImage (9, [some (.ref r0), some (.ref r1), some (.int v2), none], []) h1 Q) (fun x h1 => Q (.inr x) h1))) :
    xG d zm_Transforms_paletteImage (0, [some (.ref r0), some (.ref r1), some (.int v2), none], []) (sh, I, J) Q := by
  obtain rfl := e0.eq
  exact xG_N 4 (ps := [xRf sh r0 9 3]) (f1 := (6, [some (.ref r0), some (.ref r1), some (.int v2), none], [.int (1 : Int32), .int v2, .ref (xrf sh r0 3)])) (h1 := (sh, I, J)) rfl e0.rf (xG_Cu rfl rfl (Nat.le_of_ble_eq_true rfl) (Nat.le_of_ble_eq_true rfl) ⟨_, _, rfl, ko⟩ rfl k)
set_option maxRecDepth 100000 in
theorem s_Transforms_paletteImage_9 {d : Nat} {Q : xO → xH → Prop} {sh : List xS} {I : Nat → Nat → Int32} {J : Nat → Nat → Int64} {r0 : Nat} {r1 : Nat} {v2 : Int32} {a1 : Nat} {a2 : Nat} {n3 : Nat} {n4 : Nat}
    (e0 : xRr sh r0 9 3 a1)
    (e1 : xRr sh a1 8 0 a2)
    (e2 : xAr sh r1 .int n3)
    (e3 : vp_in (0 : Int32) n3)
    (e4 : xAr sh a2 .int n4)
    (e5 : 4 ≤ a2)
    (e6 : vp_in (0 : Int32) n4)
    (k : xG d zm_Transforms_paletteImage (23, [some (.ref r0), some (.ref r1), some (.int v2), some (.int (1 : Int32))], []) (sh, xup I a2 0 (I r1 0), J) Q) :
    xG d zm_Transforms_paletteImage (9, [some (.ref r0), some (.ref r1), some (.int v2), none], []) (sh, I, J) Q := by
  obtain rfl := e0.eq
  obtain rfl := e1.eq
  obtain rfl := e2.eq
  obtain rfl := e4.eq
  exact xG_N 10 (ps := [xRf sh r0 9 3, xRf sh (xrf sh r0 3) 8 0, xA sh r1 .int, vp_in (0 : Int32) (xlen sh r1), xW sh (xrf sh (xrf sh r0 3) 0) .int, vp_in (0 : Int32) (xlen sh (xrf sh (xrf sh r0 3) 0))]) (f1 := (23, [some (.ref r0), some (.ref r1), some (.int v2), some (.int (1 : Int32))], [])) (h1 := (sh, xup I (xrf sh (xrf sh r0 3) 0) 0 (I r1 0), J)) rfl ⟨e0.rf, e1.rf, e2.ar, e3, ⟨e4.ar, e5⟩, e6⟩ (k)
set_option maxRecDepth 100000 in
theorem s_Transforms_paletteImage_23 {d : Nat} {Q : xO → xH → Prop} {sh : List xS} {I : Nat → Nat → Int32} {J : Nat → Nat → Int64} {r0 : Nat} {r1 : Nat} {v2 : Int32} {v3 : Int32}
    (k1 : v2 ≤ v3 → xG d zm_Transforms_paletteImage (54, [some (.ref r0), some (.ref r1), some (.int v2), some (.int v3)], []) (sh, I, J) Q)
    (k2 : ¬ (v2 ≤ v3) → xG d zm_Transforms_paletteImage (28, [some (.ref r0), some (.ref r1), some (.int v2), some (.int v3)], []) (sh, I, J) Q) :
    xG d zm_Transforms_paletteImage (23, [some (.ref r0), some (.ref r1), some (.int v2), some (.int v3)], []) (sh, I, J) Q := by
  exact xG_N 2 (ps := []) (f1 := (25, [some (.ref r0), some (.ref r1), some (.int v2), some (.int v3)], [.int v2, .int v3])) (h1 := (sh, I, J)) rfl trivial (xG_B rfl rfl k1 k2)
set_option maxRecDepth 100000 in
theorem s_Transforms_paletteImage_28 {d : Nat} {Q : xO → xH → Prop} {sh : List xS} {I : Nat → Nat → Int32} {J : Nat → Nat → Int64} {r0 : Nat} {r1 : Nat} {v2 : Int32} {v3 : Int32} {a1 : Nat} {a2 : Nat} {n3 : Nat}
    (e0 : xRr sh r0 9 3 a1)
    (e1 : xRr sh a1 8 0 a2)
    (e2 : xAr sh r1 .int n3)
    (e3 : vp_in v3 n3)
    (e4 : vp_in (v3 - (1 : Int32)) n3)
    (k : xg d qL_difference [.int (I r1 v3.toNatClampNeg), .int (I r1 (v3 - (1 : Int32)).toNatClampNeg)] (sh, I, J) (xI (fun v h1 => xG d zm_Transforms_paletteImage (47, [some (.ref r0), some (.ref r1), some (.int v2), some (.int v3)], [.int v, .int v3, .ref a2]) h1 Q) (fun x h1 => Q (.inr x) h1))) :
    xG d zm_Transforms_paletteImage (28, [some (.ref r0), some (.ref r1), some (.int v2), some (.int v3)], []) (sh, I, J) Q := by
  obtain rfl := e0.eq
  obtain rfl := e1.eq
  obtain rfl := e2.eq
  exact xG_N 12 (ps := [xRf sh r0 9 3, xRf sh (xrf sh r0 3) 8 0, xA sh r1 .int, vp_in v3 (xlen sh r1), xA sh r1 .int, vp_in (v3 - (1 : Int32)) (xlen sh r1)]) (f1 := (44, [some (.ref r0), some (.ref r1), some (.int v2), some (.int v3)], [.int (I r1 (v3 - (1 : Int32)).toNatClampNeg), .int (I r1 v3.toNatClampNeg), .int v3, .ref (xrf sh (xrf sh r0 3) 0)])) (h1 := (sh, I, J)) rfl ⟨e0.rf, e1.rf, e2.ar, e3, e2.ar, e4⟩ (xG_Ci rfl rfl (Nat.le_of_ble_eq_true rfl) (Nat.le_of_ble_eq_true rfl) trivial rfl k)
set_option maxRecDepth 100000 in
theorem s_Transforms_paletteImage_47 {d : Nat} {Q : xO → xH → Prop} {sh : List xS} {I : Nat → Nat → Int32} {J : Nat → Nat → Int64} {r0 : Nat} {r1 : Nat} {v2 : Int32} {v3 : Int32} {t0 : Nat} {t1 : Int32} {t2 : Int32} {n1 : Nat}
    (e0 : xAr sh t0 .int n1)
    (e1 : 4 ≤ t0)
    (e2 : vp_in t1 n1)
    (k : xG d zm_Transforms_paletteImage (23, [some (.ref r0), some (.ref r1), some (.int v2), some (.int (v3 + (1 : Int32)))], []) (sh, xup I t0 t1.toNatClampNeg t2, J) Q) :
    xG d zm_Transforms_paletteImage (47, [some (.ref r0), some (.ref r1), some (.int v2), some (.int v3)], [.int t2, .int t1, .ref t0]) (sh, I, J) Q := by
  obtain rfl := e0.eq
  exact xG_N 3 (ps := [xW sh t0 .int, vp_in t1 (xlen sh t0)]) (f1 := (23, [some (.ref r0), some (.ref r1), some (.int v2), some (.int (v3 + (1 : Int32)))], [])) (h1 := (sh, xup I t0 t1.toNatClampNeg t2, J)) rfl ⟨⟨e0.ar, e1⟩, e2⟩ (k)
set_option maxRecDepth 100000 in
theorem s_Transforms_paletteImage_54 {d : Nat} {Q : xO → xH → Prop} {sh : List xS} {I : Nat → Nat → Int32} {J : Nat → Nat → Int64} {r0 : Nat} {r1 : Nat} {v2 : Int32} {v3 : Int32} {a1 : Nat}
    (e0 : xRr sh r0 9 3 a1)
    (k : Q (.inl (some (.ref a1))) (sh, I, J)) :
    xG d zm_Transforms_paletteImage (54, [some (.ref r0), some (.ref r1), some (.int v2), some (.int v3)], []) (sh, I, J) Q := by
  obtain rfl := e0.eq
  exact xG_N 2 (ps := [xRf sh r0 9 3]) (f1 := (58, [some (.ref r0), some (.ref r1), some (.int v2), some (.int v3)], [.ref (xrf sh r0 3)])) (h1 := (sh, I, J)) rfl e0.rf (xG_Q rfl rfl trivial k)
set_option maxRecDepth 100000 in
theorem s_Transforms_modeImage_0 {d : Nat} {Q : xO → xH → Prop} {sh : List xS} {I : Nat → Nat → Int32} {J : Nat → Nat → Int64} {r0 : Nat} {r1 : Nat} {v2 : Int32} {a1 : Nat}
    (e0 : xRr sh r0 9 1 a1)
    (e1 : xOb sh r1 8)
    (k : xg d qTransforms_shapeBlocks [.ref a1, .int (I r1 1), .int (I r1 2)] (sh, I, J) (xU (fun h1 => xG d zm_Transforms_modeImage (15, [some (.ref r0), some (.ref r1), some (.int v2)], []) h1 Q) (fun x h1 => Q (.inr x) h1))) :
    xG d zm_Transforms_modeImage (0, [some (.ref r0), some (.ref r1), some (.int v2)], []) (sh, I, J) Q := by
  obtain rfl := e0.eq
  exact xG_N 6 (ps := [xRf sh r0 9 1, xOb sh r1 8, xOb sh r1 8]) (f1 := (12, [some (.ref r0), some (.ref r1), some (.int v2)], [.int (I r1 2), .int (I r1 1), .ref (xrf sh r0 1)])) (h1 := (sh, I, J)) rfl ⟨e0.rf, e1, e1⟩ (xG_Cu rfl rfl (Nat.le_of_ble_eq_true rfl) (Nat.le_of_ble_eq_true rfl) trivial rfl k)
set_option maxRecDepth 100000 in
theorem s_Transforms_modeImage_15 {d : Nat} {Q : xO → xH → Prop} {sh : List xS} {I : Nat → Nat → Int32} {J : Nat → Nat → Int64} {r0 : Nat} {r1 : Nat} {v2 : Int32} {a1 : Nat} {a2 : Nat}
    (e0 : xRr sh r0 9 1 a1)
    (e1 : xRr sh a1 8 0 a2)
    (k : xg d qA_fill [.ref a2, .int ((-16777216 : Int32) ||| (v2 <<< ((8 : Int32) &&& 31)))] (sh, I, J) (xU (fun h1 => xG d zm_Transforms_modeImage (32, [some (.ref r0), some (.ref r1), some (.int v2)], []) h1 Q) (fun x h1 => Q (.inr x) h1))) :
    xG d zm_Transforms_modeImage (15, [some (.ref r0), some (.ref r1), some (.int v2)], []) (sh, I, J) Q := by
  obtain rfl := e0.eq
  obtain rfl := e1.eq
  exact xG_N 8 (ps := [xRf sh r0 9 1, xRf sh (xrf sh r0 1) 8 0]) (f1 := (29, [some (.ref r0), some (.ref r1), some (.int v2)], [.int ((-16777216 : Int32) ||| (v2 <<< ((8 : Int32) &&& 31))), .ref (xrf sh (xrf sh r0 1) 0)])) (h1 := (sh, I, J)) rfl ⟨e0.rf, e1.rf⟩ (xG_Cu rfl rfl (Nat.le_of_ble_eq_true rfl) (Nat.le_of_ble_eq_true rfl) trivial rfl k)
set_option maxRecDepth 100000 in
theorem s_Transforms_modeImage_32 {d : Nat} {Q : xO → xH → Prop} {sh : List xS} {I : Nat → Nat → Int32} {J : Nat → Nat → Int64} {r0 : Nat} {r1 : Nat} {v2 : Int32} {a1 : Nat}
    (e0 : xRr sh r0 9 1 a1)
    (k : Q (.inl (some (.ref a1))) (sh, I, J)) :
    xG d zm_Transforms_modeImage (32, [some (.ref r0), some (.ref r1), some (.int v2)], []) (sh, I, J) Q := by
  obtain rfl := e0.eq
  exact xG_N 2 (ps := [xRf sh r0 9 1]) (f1 := (36, [some (.ref r0), some (.ref r1), some (.int v2)], [.ref (xrf sh r0 1)])) (h1 := (sh, I, J)) rfl e0.rf (xG_Q rfl rfl trivial k)
set_option maxRecDepth 100000 in
theorem s_ImageReader_init_0 {d : Nat} {Q : xO → xH → Prop} {sh : List xS} {I : Nat → Nat → Int32} {J : Nat → Nat → Int64} {r0 : Nat} {r1 : Nat} {r2 : Nat}
    (k : xG d zm_ImageReader_init (8, [some (.ref r0), some (.ref r1), some (.ref r2)], [.ref sh.length, .ref r0]) (sh ++ [.inr (3, zdf 3)], xzer I sh.length, xzerL J sh.length) Q) :
    xG d zm_ImageReader_init (0, [some (.ref r0), some (.ref r1), some (.ref r2)], []) (sh, I, J) Q := by
  exact xG_N 4 (ps := [(([] : List Value).map fun v => v.category).sum ≤ 8]) (f1 := (8, [some (.ref r0), some (.ref r1), some (.ref r2)], [.ref sh.length, .ref r0])) (h1 := (sh ++ [.inr (3, zdf 3)], xzer I sh.length, xzerL J sh.length)) rfl (Nat.le_of_ble_eq_true rfl) (k)
set_option maxRecDepth 100000 in
theorem s_ImageReader_init_8 {d : Nat} {Q : xO → xH → Prop} {sh : List xS} {I : Nat → Nat → Int32} {J : Nat → Nat → Int64} {r0 : Nat} {r1 : Nat} {r2 : Nat} {t0 : Nat} {t1 : Nat}
    (k : xg d qCode_init [.ref t1, .int (19 : Int32)] (sh, I, J) (xU (fun h1 => xG d zm_ImageReader_init (14, [some (.ref r0), some (.ref r1), some (.ref r2)], [.ref t1, .ref t0]) h1 Q) (fun x h1 => Q (.inr x) h1))) :
    xG d zm_ImageReader_init (8, [some (.ref r0), some (.ref r1), some (.ref r2)], [.ref t1, .ref t0]) (sh, I, J) Q := by
  exact xG_N 2 (ps := []) (f1 := (11, [some (.ref r0), some (.ref r1), some (.ref r2)], [.int (19 : Int32), .ref t1, .ref t1, .ref t0])) (h1 := (sh, I, J)) rfl trivial (xG_Cu rfl rfl (Nat.le_of_ble_eq_true rfl) (Nat.le_of_ble_eq_true rfl) ⟨_, _, rfl⟩ rfl k)
set_option maxRecDepth 100000 in
theorem s_ImageReader_init_14 {d : Nat} {Q : xO → xH → Prop} {sh : List xS} {I : Nat → Nat → Int32} {J : Nat → Nat → Int64} {r0 : Nat} {r1 : Nat} {r2 : Nat} {t0 : Nat} {t1 : Nat}
    (e0 : xOb sh t0 6)
    (e1 : xOb (xsr sh t0 2 t1) r0 6)
    (e2 : xOb (xsr (xsr sh t0 2 t1) r0 0 r1) r0 6)
    (k : Q (.inl (none)) (xsr (xsr (xsr sh t0 2 t1) r0 0 r1) r0 1 r2, I, J)) :
    xG d zm_ImageReader_init (14, [some (.ref r0), some (.ref r1), some (.ref r2)], [.ref t1, .ref t0]) (sh, I, J) Q := by
  exact xG_N 7 (ps := [xOb sh t0 6, 2 < (zdf 6).length, xOb (xsr sh t0 2 t1) r0 6, 0 < (zdf 6).length, xOb (xsr (xsr sh t0 2 t1) r0 0 r1) r0 6, 1 < (zdf 6).length]) (f1 := (27, [some (.ref r0), some (.ref r1), some (.ref r2)], [])) (h1 := (xsr (xsr (xsr sh t0 2 t1) r0 0 r1) r0 1 r2, I, J)) rfl ⟨e0, (show 2 < (zdf 6).length by decide), e1, (show 0 < (zdf 6).length by decide), e2, (show 1 < (zdf 6).length by decide)⟩ (xG_Q rfl rfl trivial k)
set_option maxRecDepth 100000 in
theorem s_ImageReader_take_0 {d : Nat} {Q : xO → xH → Prop} {sh : List xS} {I : Nat → Nat → Int32} {J : Nat → Nat → Int64} {r0 : Nat} {r1 : Nat} {r2 : Nat} {a1 : Nat}
    (e0 : xOb sh r0 6)
    (e1 : xRr sh r0 6 1 a1)
    (ko : xOb sh r1 1)
    (k : xg d qBits_bit [.ref r1] (sh, xup (xup I r0 3 (0 : Int32)) r0 4 (0 : Int32), J) (xI (fun v h1 => xG d zm_ImageReader_take (18, [some (.ref r0), some (.ref r1), some (.ref r2), none, none, none], [.int v, .ref a1]) h1 Q) (fun x h1 => Q (.inr x) h1))) :
    xG d zm_ImageReader_take (0, [some (.ref r0), some (.ref r1), some (.ref r2), none, none, none], []) (sh, I, J) Q := by
  obtain rfl := e1.eq
  exact xG_N 9 (ps := [xOb sh r0 6, xOb sh r0 6, xRf sh r0 6 1]) (f1 := (15, [some (.ref r0), some (.ref r1), some (.ref r2), none, none, none], [.ref r1, .ref (xrf sh r0 1)])) (h1 := (sh, xup (xup I r0 3 (0 : Int32)) r0 4 (0 : Int32), J)) rfl ⟨e0, e0, e1.rf⟩ (xG_Ci rfl rfl (Nat.le_of_ble_eq_true rfl) (Nat.le_of_ble_eq_true rfl) ⟨_, _, rfl, ko⟩ rfl k)
set_option maxRecDepth 100000 in
theorem s_ImageReader_take_18 {d : Nat} {Q : xO → xH → Prop} {sh : List xS} {I : Nat → Nat → Int32} {J : Nat → Nat → Int64} {r0 : Nat} {r1 : Nat} {r2 : Nat} {t0 : Nat} {t1 : Int32}
    (k1 : ¬ t1 = (1 : Int32) → xG d zm_ImageReader_take (32, [some (.ref r0), some (.ref r1), some (.ref r2), none, none, none], [.ref t0]) (sh, I, J) Q)
    (k2 : ¬ (¬ t1 = (1 : Int32)) → xG d zm_ImageReader_take (22, [some (.ref r0), some (.ref r1), some (.ref r2), none, none, none], [.ref t0]) (sh, I, J) Q) :
    xG d zm_ImageReader_take (18, [some (.ref r0), some (.ref r1), some (.ref r2), none, none, none], [.int t1, .ref t0]) (sh, I, J) Q := by
  exact xG_N 1 (ps := []) (f1 := (19, [some (.ref r0), some (.ref r1), some (.ref r2), none, none, none], [.int (1 : Int32), .int t1, .ref t0])) (h1 := (sh, I, J)) rfl trivial (xG_B rfl rfl k1 k2)
set_option maxRecDepth 100000 in
theorem s_ImageReader_take_22 {d : Nat} {Q : xO → xH → Prop} {sh : List xS} {I : Nat → Nat → Int32} {J : Nat → Nat → Int64} {r0 : Nat} {r1 : Nat} {r2 : Nat} {t0 : Nat}
    (ko : xOb sh r1 1)
    (k : xg d qBits_number [.ref r1, .int (2 : Int32)] (sh, I, J) (xI (fun v h1 => xG d zm_ImageReader_take (27, [some (.ref r0), some (.ref r1), some (.ref r2), none, none, none], [.int v, .ref t0]) h1 Q) (fun x h1 => Q (.inr x) h1))) :
    xG d zm_ImageReader_take (22, [some (.ref r0), some (.ref r1), some (.ref r2), none, none, none], [.ref t0]) (sh, I, J) Q := by
  exact xG_N 2 (ps := []) (f1 := (24, [some (.ref r0), some (.ref r1), some (.ref r2), none, none, none], [.int (2 : Int32), .ref r1, .ref t0])) (h1 := (sh, I, J)) rfl trivial (xG_Ci rfl rfl (Nat.le_of_ble_eq_true rfl) (Nat.le_of_ble_eq_true rfl) ⟨_, _, rfl, ko⟩ rfl k)
set_option maxRecDepth 100000 in
theorem s_ImageReader_take_27 {d : Nat} {Q : xO → xH → Prop} {sh : List xS} {I : Nat → Nat → Int32} {J : Nat → Nat → Int64} {r0 : Nat} {r1 : Nat} {r2 : Nat} {t0 : Nat} {t1 : Int32}
    (ko : xOb sh t0 2)
    (k : xg d qCache_open [.ref t0, .int (t1 + (1 : Int32))] (sh, I, J) (xU (fun h1 => xG d zm_ImageReader_take (36, [some (.ref r0), some (.ref r1), some (.ref r2), none, none, none], []) h1 Q) (fun x h1 => Q (.inr x) h1))) :
    xG d zm_ImageReader_take (27, [some (.ref r0), some (.ref r1), some (.ref r2), none, none, none], [.int t1, .ref t0]) (sh, I, J) Q := by
  exact xG_N 3 (ps := []) (f1 := (33, [some (.ref r0), some (.ref r1), some (.ref r2), none, none, none], [.int (t1 + (1 : Int32)), .ref t0])) (h1 := (sh, I, J)) rfl trivial (xG_Cu rfl rfl (Nat.le_of_ble_eq_true rfl) (Nat.le_of_ble_eq_true rfl) ⟨_, _, rfl, ko⟩ rfl k)
set_option maxRecDepth 100000 in
theorem s_ImageReader_take_32 {d : Nat} {Q : xO → xH → Prop} {sh : List xS} {I : Nat → Nat → Int32} {J : Nat → Nat → Int64} {r0 : Nat} {r1 : Nat} {r2 : Nat} {t0 : Nat}
    (ko : xOb sh t0 2)
    (k : xg d qCache_open [.ref t0, .int (0 : Int32)] (sh, I, J) (xU (fun h1 => xG d zm_ImageReader_take (36, [some (.ref r0), some (.ref r1), some (.ref r2), none, none, none], []) h1 Q) (fun x h1 => Q (.inr x) h1))) :
    xG d zm_ImageReader_take (32, [some (.ref r0), some (.ref r1), some (.ref r2), none, none, none], [.ref t0]) (sh, I, J) Q := by
  exact xG_N 1 (ps := []) (f1 := (33, [some (.ref r0), some (.ref r1), some (.ref r2), none, none, none], [.int (0 : Int32), .ref t0])) (h1 := (sh, I, J)) rfl trivial (xG_Cu rfl rfl (Nat.le_of_ble_eq_true rfl) (Nat.le_of_ble_eq_true rfl) ⟨_, _, rfl, ko⟩ rfl k)
set_option maxRecDepth 100000 in
theorem s_ImageReader_take_36 {d : Nat} {Q : xO → xH → Prop} {sh : List xS} {I : Nat → Nat → Int32} {J : Nat → Nat → Int64} {r0 : Nat} {r1 : Nat} {r2 : Nat} {a1 : Nat} {a2 : Nat}
    (e0 : xRr sh r0 6 0 a1)
    (e1 : xRr sh r0 6 1 a2)
    (ko : xOb sh a2 2)
    (k : xg d qCache_colourCount [.ref a2] (sh, I, J) (xI (fun v h1 => xG d zm_ImageReader_take (47, [some (.ref r0), some (.ref r1), some (.ref r2), none, none, none], [.int v, .ref a1]) h1 Q) (fun x h1 => Q (.inr x) h1))) :
    xG d zm_ImageReader_take (36, [some (.ref r0), some (.ref r1), some (.ref r2), none, none, none], []) (sh, I, J) Q := by
  obtain rfl := e0.eq
  obtain rfl := e1.eq
  exact xG_N 4 (ps := [xRf sh r0 6 0, xRf sh r0 6 1]) (f1 := (44, [some (.ref r0), some (.ref r1), some (.ref r2), none, none, none], [.ref (xrf sh r0 1), .ref (xrf sh r0 0)])) (h1 := (sh, I, J)) rfl ⟨e0.rf, e1.rf⟩ (xG_Ci rfl rfl (Nat.le_of_ble_eq_true rfl) (Nat.le_of_ble_eq_true rfl) ⟨_, _, rfl, ko⟩ rfl k)
set_option maxRecDepth 100000 in
theorem s_ImageReader_take_47 {d : Nat} {Q : xO → xH → Prop} {sh : List xS} {I : Nat → Nat → Int32} {J : Nat → Nat → Int64} {r0 : Nat} {r1 : Nat} {r2 : Nat} {t0 : Nat} {t1 : Int32}
    (ko : xOb sh t0 5)
    (k : xg d qCodes_clear [.ref t0, .int t1] (sh, I, J) (xU (fun h1 => xG d zm_ImageReader_take (50, [some (.ref r0), some (.ref r1), some (.ref r2), none, none, none], []) h1 Q) (fun x h1 => Q (.inr x) h1))) :
    xG d zm_ImageReader_take (47, [some (.ref r0), some (.ref r1), some (.ref r2), none, none, none], [.int t1, .ref t0]) (sh, I, J) Q := by
  exact xG_Cu rfl rfl (Nat.le_of_ble_eq_true rfl) (Nat.le_of_ble_eq_true rfl) ⟨_, _, rfl, ko⟩ rfl k
set_option maxRecDepth 100000 in
theorem s_ImageReader_take_50 {d : Nat} {Q : xO → xH → Prop} {sh : List xS} {I : Nat → Nat → Int32} {J : Nat → Nat → Int64} {r0 : Nat} {r1 : Nat} {r2 : Nat}
    (k : xG d zm_ImageReader_take (52, [some (.ref r0), some (.ref r1), some (.ref r2), some (.int (0 : Int32)), none, none], []) (sh, I, J) Q) :
    xG d zm_ImageReader_take (50, [some (.ref r0), some (.ref r1), some (.ref r2), none, none, none], []) (sh, I, J) Q := by
  exact xG_N 2 (ps := []) (f1 := (52, [some (.ref r0), some (.ref r1), some (.ref r2), some (.int (0 : Int32)), none, none], [])) (h1 := (sh, I, J)) rfl trivial (k)
set_option maxRecDepth 100000 in
theorem s_ImageReader_take_52 {d : Nat} {Q : xO → xH → Prop} {sh : List xS} {I : Nat → Nat → Int32} {J : Nat → Nat → Int64} {r0 : Nat} {r1 : Nat} {r2 : Nat} {v3 : Int32}
    (k1 : (5 : Int32) ≤ v3 → xG d zm_ImageReader_take (76, [some (.ref r0), some (.ref r1), some (.ref r2), some (.int v3), none, none], []) (sh, I, J) Q)
    (k2 : ¬ ((5 : Int32) ≤ v3) → xG d zm_ImageReader_take (57, [some (.ref r0), some (.ref r1), some (.ref r2), some (.int v3), none, none], []) (sh, I, J) Q) :
    xG d zm_ImageReader_take (52, [some (.ref r0), some (.ref r1), some (.ref r2), some (.int v3), none, none], []) (sh, I, J) Q := by
  exact xG_N 2 (ps := []) (f1 := (54, [some (.ref r0), some (.ref r1), some (.ref r2), some (.int v3), none, none], [.int (5 : Int32), .int v3])) (h1 := (sh, I, J)) rfl trivial (xG_B rfl rfl k1 k2)
set_option maxRecDepth 100000 in
theorem s_ImageReader_take_57 {d : Nat} {Q : xO → xH → Prop} {sh : List xS} {I : Nat → Nat → Int32} {J : Nat → Nat → Int64} {r0 : Nat} {r1 : Nat} {r2 : Nat} {v3 : Int32} {a1 : Nat}
    (e0 : xRr sh r0 6 0 a1)
    (ko : xOb sh a1 5)
    (k : xg d qCodes_of [.ref a1, .int v3] (sh, I, J) (xP (fun v h1 => xG d zm_ImageReader_take (67, [some (.ref r0), some (.ref r1), some (.ref r2), some (.int v3), none, none], [.ref v, .ref r1, .ref r0]) h1 Q) (fun x h1 => Q (.inr x) h1))) :
    xG d zm_ImageReader_take (57, [some (.ref r0), some (.ref r1), some (.ref r2), some (.int v3), none, none], []) (sh, I, J) Q := by
  obtain rfl := e0.eq
  exact xG_N 5 (ps := [xRf sh r0 6 0]) (f1 := (64, [some (.ref r0), some (.ref r1), some (.ref r2), some (.int v3), none, none], [.int v3, .ref (xrf sh r0 0), .ref r1, .ref r0])) (h1 := (sh, I, J)) rfl e0.rf (xG_Cp rfl rfl (Nat.le_of_ble_eq_true rfl) (Nat.le_of_ble_eq_true rfl) ⟨_, _, rfl, ko⟩ rfl k)
set_option maxRecDepth 100000 in
theorem s_ImageReader_take_67 {d : Nat} {Q : xO → xH → Prop} {sh : List xS} {I : Nat → Nat → Int32} {J : Nat → Nat → Int64} {r0 : Nat} {r1 : Nat} {r2 : Nat} {v3 : Int32} {t0 : Nat} {t1 : Nat} {t2 : Nat}
    (ko : xOb sh t0 6)
    (k : xg d qImageReader_takeCode [.ref t0, .ref t1, .ref t2] (sh, I, J) (xU (fun h1 => xG d zm_ImageReader_take (70, [some (.ref r0), some (.ref r1), some (.ref r2), some (.int v3), none, none], []) h1 Q) (fun x h1 => Q (.inr x) h1))) :
    xG d zm_ImageReader_take (67, [some (.ref r0), some (.ref r1), some (.ref r2), some (.int v3), none, none], [.ref t2, .ref t1, .ref t0]) (sh, I, J) Q := by
  exact xG_Cu rfl rfl (Nat.le_of_ble_eq_true rfl) (Nat.le_of_ble_eq_true rfl) ⟨_, _, rfl, ko⟩ rfl k
set_option maxRecDepth 100000 in
theorem s_ImageReader_take_70 {d : Nat} {Q : xO → xH → Prop} {sh : List xS} {I : Nat → Nat → Int32} {J : Nat → Nat → Int64} {r0 : Nat} {r1 : Nat} {r2 : Nat} {v3 : Int32}
    (k : xG d zm_ImageReader_take (52, [some (.ref r0), some (.ref r1), some (.ref r2), some (.int (v3 + (1 : Int32))), none, none], []) (sh, I, J) Q) :
    xG d zm_ImageReader_take (70, [some (.ref r0), some (.ref r1), some (.ref r2), some (.int v3), none, none], []) (sh, I, J) Q := by
  exact xG_N 2 (ps := []) (f1 := (52, [some (.ref r0), some (.ref r1), some (.ref r2), some (.int (v3 + (1 : Int32))), none, none], [])) (h1 := (sh, I, J)) rfl trivial (k)
set_option maxRecDepth 100000 in
theorem s_ImageReader_take_76 {d : Nat} {Q : xO → xH → Prop} {sh : List xS} {I : Nat → Nat → Int32} {J : Nat → Nat → Int64} {r0 : Nat} {r1 : Nat} {r2 : Nat} {v3 : Int32}
    (ko : xOb sh r2 8)
    (k : xg d qPlane_count [.ref r2] (sh, I, J) (xI (fun v h1 => xG d zm_ImageReader_take (80, [some (.ref r0), some (.ref r1), some (.ref r2), some (.int v3), none, none], [.int v]) h1 Q) (fun x h1 => Q (.inr x) h1))) :
    xG d zm_ImageReader_take (76, [some (.ref r0), some (.ref r1), some (.ref r2), some (.int v3), none, none], []) (sh, I, J) Q := by
  exact xG_N 1 (ps := []) (f1 := (77, [some (.ref r0), some (.ref r1), some (.ref r2), some (.int v3), none, none], [.ref r2])) (h1 := (sh, I, J)) rfl trivial (xG_Ci rfl rfl (Nat.le_of_ble_eq_true rfl) (Nat.le_of_ble_eq_true rfl) ⟨_, _, rfl, ko⟩ rfl k)
set_option maxRecDepth 100000 in
theorem s_ImageReader_take_80 {d : Nat} {Q : xO → xH → Prop} {sh : List xS} {I : Nat → Nat → Int32} {J : Nat → Nat → Int64} {r0 : Nat} {r1 : Nat} {r2 : Nat} {v3 : Int32} {t0 : Int32}
    (k : xG d zm_ImageReader_take (87, [some (.ref r0), some (.ref r1), some (.ref r2), some (.int t0), some (.int (0 : Int32)), some (.int (0 : Int32))], []) (sh, I, J) Q) :
    xG d zm_ImageReader_take (80, [some (.ref r0), some (.ref r1), some (.ref r2), some (.int v3), none, none], [.int t0]) (sh, I, J) Q := by
  exact xG_N 5 (ps := []) (f1 := (87, [some (.ref r0), some (.ref r1), some (.ref r2), some (.int t0), some (.int (0 : Int32)), some (.int (0 : Int32))], [])) (h1 := (sh, I, J)) rfl trivial (k)
set_option maxRecDepth 100000 in
theorem s_ImageReader_take_87 {d : Nat} {Q : xO → xH → Prop} {sh : List xS} {I : Nat → Nat → Int32} {J : Nat → Nat → Int64} {r0 : Nat} {r1 : Nat} {r2 : Nat} {v3 : Int32} {v4 : Int32} {v5 : Int32}
    (k1 : v3 ≤ v5 → xG d zm_ImageReader_take (118, [some (.ref r0), some (.ref r1), some (.ref r2), some (.int v3), some (.int v4), some (.int v5)], []) (sh, I, J) Q)
    (k2 : ¬ (v3 ≤ v5) → xG d zm_ImageReader_take (93, [some (.ref r0), some (.ref r1), some (.ref r2), some (.int v3), some (.int v4), some (.int v5)], []) (sh, I, J) Q) :
    xG d zm_ImageReader_take (87, [some (.ref r0), some (.ref r1), some (.ref r2), some (.int v3), some (.int v4), some (.int v5)], []) (sh, I, J) Q := by
  exact xG_N 2 (ps := []) (f1 := (90, [some (.ref r0), some (.ref r1), some (.ref r2), some (.int v3), some (.int v4), some (.int v5)], [.int v3, .int v5])) (h1 := (sh, I, J)) rfl trivial (xG_B rfl rfl k1 k2)
set_option maxRecDepth 100000 in
theorem s_ImageReader_take_93 {d : Nat} {Q : xO → xH → Prop} {sh : List xS} {I : Nat → Nat → Int32} {J : Nat → Nat → Int64} {r0 : Nat} {r1 : Nat} {r2 : Nat} {v3 : Int32} {v4 : Int32} {v5 : Int32}
    (k1 : v3 ≤ v4 → xG d zm_ImageReader_take (118, [some (.ref r0), some (.ref r1), some (.ref r2), some (.int v3), some (.int v4), some (.int v5)], []) (sh, I, J) Q)
    (k2 : ¬ (v3 ≤ v4) → xG d zm_ImageReader_take (99, [some (.ref r0), some (.ref r1), some (.ref r2), some (.int v3), some (.int v4), some (.int v5)], []) (sh, I, J) Q) :
    xG d zm_ImageReader_take (93, [some (.ref r0), some (.ref r1), some (.ref r2), some (.int v3), some (.int v4), some (.int v5)], []) (sh, I, J) Q := by
  exact xG_N 2 (ps := []) (f1 := (96, [some (.ref r0), some (.ref r1), some (.ref r2), some (.int v3), some (.int v4), some (.int v5)], [.int v3, .int v4])) (h1 := (sh, I, J)) rfl trivial (xG_B rfl rfl k1 k2)
set_option maxRecDepth 100000 in
theorem s_ImageReader_take_99 {d : Nat} {Q : xO → xH → Prop} {sh : List xS} {I : Nat → Nat → Int32} {J : Nat → Nat → Int64} {r0 : Nat} {r1 : Nat} {r2 : Nat} {v3 : Int32} {v4 : Int32} {v5 : Int32}
    (ko : xOb sh r0 6)
    (k : xg d qImageReader_takePixels [.ref r0, .ref r1, .ref r2, .int v4] (sh, I, J) (xI (fun v h1 => xG d zm_ImageReader_take (109, [some (.ref r0), some (.ref r1), some (.ref r2), some (.int v3), some (.int v4), some (.int v5)], [.int v, .int v4]) h1 Q) (fun x h1 => Q (.inr x) h1))) :
    xG d zm_ImageReader_take (99, [some (.ref r0), some (.ref r1), some (.ref r2), some (.int v3), some (.int v4), some (.int v5)], []) (sh, I, J) Q := by
  exact xG_N 5 (ps := []) (f1 := (106, [some (.ref r0), some (.ref r1), some (.ref r2), some (.int v3), some (.int v4), some (.int v5)], [.int v4, .ref r2, .ref r1, .ref r0, .int v4])) (h1 := (sh, I, J)) rfl trivial (xG_Ci rfl rfl (Nat.le_of_ble_eq_true rfl) (Nat.le_of_ble_eq_true rfl) ⟨_, _, rfl, ko⟩ rfl k)
set_option maxRecDepth 100000 in
theorem s_ImageReader_take_109 {d : Nat} {Q : xO → xH → Prop} {sh : List xS} {I : Nat → Nat → Int32} {J : Nat → Nat → Int64} {r0 : Nat} {r1 : Nat} {r2 : Nat} {v3 : Int32} {v4 : Int32} {v5 : Int32} {t0 : Int32} {t1 : Int32}
    (k : xG d zm_ImageReader_take (87, [some (.ref r0), some (.ref r1), some (.ref r2), some (.int v3), some (.int (t0 + t1)), some (.int (v5 + (1 : Int32)))], []) (sh, I, J) Q) :
    xG d zm_ImageReader_take (109, [some (.ref r0), some (.ref r1), some (.ref r2), some (.int v3), some (.int v4), some (.int v5)], [.int t1, .int t0]) (sh, I, J) Q := by
  exact xG_N 4 (ps := []) (f1 := (87, [some (.ref r0), some (.ref r1), some (.ref r2), some (.int v3), some (.int (t0 + t1)), some (.int (v5 + (1 : Int32)))], [])) (h1 := (sh, I, J)) rfl trivial (k)
set_option maxRecDepth 100000 in
theorem s_ImageReader_take_118 {d : Nat} {Q : xO → xH → Prop} {sh : List xS} {I : Nat → Nat → Int32} {J : Nat → Nat → Int64} {r0 : Nat} {r1 : Nat} {r2 : Nat} {v3 : Int32} {v4 : Int32} {v5 : Int32}
    (k : Q (.inl (none)) (sh, I, J)) :
    xG d zm_ImageReader_take (118, [some (.ref r0), some (.ref r1), some (.ref r2), some (.int v3), some (.int v4), some (.int v5)], []) (sh, I, J) Q := by
  exact xG_Q rfl rfl trivial k
set_option maxRecDepth 100000 in
theorem s_ImageReader_takePixels_0 {d : Nat} {Q : xO → xH → Prop} {sh : List xS} {I : Nat → Nat → Int32} {J : Nat → Nat → Int64} {r0 : Nat} {r1 : Nat} {r2 : Nat} {v3 : Int32} {a1 : Nat} {a2 : Nat}
    (e0 : xRr sh r0 6 0 a1)
    (e1 : xRr sh a1 5 0 a2)
    (ko : xOb sh a2 3)
    (k : xg d qCode_hear [.ref a2, .ref r1] (sh, I, J) (xI (fun v h1 => xG d zm_ImageReader_takePixels (11, [some (.ref r0), some (.ref r1), some (.ref r2), some (.int v3), none, none, none, none], [.int v]) h1 Q) (fun x h1 => Q (.inr x) h1))) :
    xG d zm_ImageReader_takePixels (0, [some (.ref r0), some (.ref r1), some (.ref r2), some (.int v3), none, none, none, none], []) (sh, I, J) Q := by
  obtain rfl := e0.eq
  obtain rfl := e1.eq
  exact xG_N 4 (ps := [xRf sh r0 6 0, xRf sh (xrf sh r0 0) 5 0]) (f1 := (8, [some (.ref r0), some (.ref r1), some (.ref r2), some (.int v3), none, none, none, none], [.ref r1, .ref (xrf sh (xrf sh r0 0) 0)])) (h1 := (sh, I, J)) rfl ⟨e0.rf, e1.rf⟩ (xG_Ci rfl rfl (Nat.le_of_ble_eq_true rfl) (Nat.le_of_ble_eq_true rfl) ⟨_, _, rfl, ko⟩ rfl k)
set_option maxRecDepth 100000 in
theorem s_ImageReader_takePixels_11 {d : Nat} {Q : xO → xH → Prop} {sh : List xS} {I : Nat → Nat → Int32} {J : Nat → Nat → Int64} {r0 : Nat} {r1 : Nat} {r2 : Nat} {v3 : Int32} {t0 : Int32}
    (k1 : t0 < (256 : Int32) → xG d zm_ImageReader_takePixels (43, [some (.ref r0), some (.ref r1), some (.ref r2), some (.int v3), some (.int t0), none, none, none], []) (sh, I, J) Q)
    (k2 : ¬ (t0 < (256 : Int32)) → xG d zm_ImageReader_takePixels (21, [some (.ref r0), some (.ref r1), some (.ref r2), some (.int v3), some (.int t0), none, none, none], []) (sh, I, J) Q) :
    xG d zm_ImageReader_takePixels (11, [some (.ref r0), some (.ref r1), some (.ref r2), some (.int v3), none, none, none, none], [.int t0]) (sh, I, J) Q := by
  exact xG_N 3 (ps := []) (f1 := (18, [some (.ref r0), some (.ref r1), some (.ref r2), some (.int v3), some (.int t0), none, none, none], [.int (256 : Int32), .int t0])) (h1 := (sh, I, J)) rfl trivial (xG_B rfl rfl k1 k2)
set_option maxRecDepth 100000 in
theorem s_ImageReader_takePixels_21 {d : Nat} {Q : xO → xH → Prop} {sh : List xS} {I : Nat → Nat → Int32} {J : Nat → Nat → Int64} {r0 : Nat} {r1 : Nat} {r2 : Nat} {v3 : Int32} {v4 : Int32}
    (k1 : (280 : Int32) ≤ v4 → xG d zm_ImageReader_takePixels (43, [some (.ref r0), some (.ref r1), some (.ref r2), some (.int v3), some (.int v4), none, none, none], []) (sh, I, J) Q)
    (k2 : ¬ ((280 : Int32) ≤ v4) → xG d zm_ImageReader_takePixels (29, [some (.ref r0), some (.ref r1), some (.ref r2), some (.int v3), some (.int v4), none, none, none], []) (sh, I, J) Q) :
    xG d zm_ImageReader_takePixels (21, [some (.ref r0), some (.ref r1), some (.ref r2), some (.int v3), some (.int v4), none, none, none], []) (sh, I, J) Q := by
  exact xG_N 2 (ps := []) (f1 := (26, [some (.ref r0), some (.ref r1), some (.ref r2), some (.int v3), some (.int v4), none, none, none], [.int (280 : Int32), .int v4])) (h1 := (sh, I, J)) rfl trivial (xG_B rfl rfl k1 k2)
set_option maxRecDepth 100000 in
theorem s_ImageReader_takePixels_29 {d : Nat} {Q : xO → xH → Prop} {sh : List xS} {I : Nat → Nat → Int32} {J : Nat → Nat → Int64} {r0 : Nat} {r1 : Nat} {r2 : Nat} {v3 : Int32} {v4 : Int32}
    (ko : xOb sh r0 6)
    (k : xg d qImageReader_takeCopy [.ref r0, .ref r1, .int (v4 - (256 : Int32)), .ref r2, .int v3] (sh, I, J) (xI (fun v h1 => xG d zm_ImageReader_takePixels (42, [some (.ref r0), some (.ref r1), some (.ref r2), some (.int v3), some (.int v4), none, none, none], [.int v]) h1 Q) (fun x h1 => Q (.inr x) h1))) :
    xG d zm_ImageReader_takePixels (29, [some (.ref r0), some (.ref r1), some (.ref r2), some (.int v3), some (.int v4), none, none, none], []) (sh, I, J) Q := by
  exact xG_N 7 (ps := []) (f1 := (39, [some (.ref r0), some (.ref r1), some (.ref r2), some (.int v3), some (.int v4), none, none, none], [.int v3, .ref r2, .int (v4 - (256 : Int32)), .ref r1, .ref r0])) (h1 := (sh, I, J)) rfl trivial (xG_Ci rfl rfl (Nat.le_of_ble_eq_true rfl) (Nat.le_of_ble_eq_true rfl) ⟨_, _, rfl, ko⟩ rfl k)
set_option maxRecDepth 100000 in
theorem s_ImageReader_takePixels_42 {d : Nat} {Q : xO → xH → Prop} {sh : List xS} {I : Nat → Nat → Int32} {J : Nat → Nat → Int64} {r0 : Nat} {r1 : Nat} {r2 : Nat} {v3 : Int32} {v4 : Int32} {t0 : Int32}
    (k : Q (.inl (some (.int t0))) (sh, I, J)) :
    xG d zm_ImageReader_takePixels (42, [some (.ref r0), some (.ref r1), some (.ref r2), some (.int v3), some (.int v4), none, none, none], [.int t0]) (sh, I, J) Q := by
  exact xG_Q rfl rfl trivial k
set_option maxRecDepth 100000 in
theorem s_ImageReader_takePixels_43 {d : Nat} {Q : xO → xH → Prop} {sh : List xS} {I : Nat → Nat → Int32} {J : Nat → Nat → Int64} {r0 : Nat} {r1 : Nat} {r2 : Nat} {v3 : Int32} {v4 : Int32}
    (k1 : (256 : Int32) ≤ v4 → xG d zm_ImageReader_takePixels (111, [some (.ref r0), some (.ref r1), some (.ref r2), some (.int v3), some (.int v4), none, none, none], []) (sh, I, J) Q)
    (k2 : ¬ ((256 : Int32) ≤ v4) → xG d zm_ImageReader_takePixels (51, [some (.ref r0), some (.ref r1), some (.ref r2), some (.int v3), some (.int v4), none, none, none], []) (sh, I, J) Q) :
    xG d zm_ImageReader_takePixels (43, [some (.ref r0), some (.ref r1), some (.ref r2), some (.int v3), some (.int v4), none, none, none], []) (sh, I, J) Q := by
  exact xG_N 2 (ps := []) (f1 := (48, [some (.ref r0), some (.ref r1), some (.ref r2), some (.int v3), some (.int v4), none, none, none], [.int (256 : Int32), .int v4])) (h1 := (sh, I, J)) rfl trivial (xG_B rfl rfl k1 k2)
set_option maxRecDepth 100000 in
theorem s_ImageReader_takePixels_51 {d : Nat} {Q : xO → xH → Prop} {sh : List xS} {I : Nat → Nat → Int32} {J : Nat → Nat → Int64} {r0 : Nat} {r1 : Nat} {r2 : Nat} {v3 : Int32} {v4 : Int32} {a1 : Nat} {a2 : Nat}
    (e0 : xRr sh r0 6 0 a1)
    (e1 : xRr sh a1 5 1 a2)
    (ko : xOb sh a2 3)
    (k : xg d qCode_hear [.ref a2, .ref r1] (sh, I, J) (xI (fun v h1 => xG d zm_ImageReader_takePixels (62, [some (.ref r0), some (.ref r1), some (.ref r2), some (.int v3), some (.int v4), none, none, none], [.int v]) h1 Q) (fun x h1 => Q (.inr x) h1))) :
    xG d zm_ImageReader_takePixels (51, [some (.ref r0), some (.ref r1), some (.ref r2), some (.int v3), some (.int v4), none, none, none], []) (sh, I, J) Q := by
  obtain rfl := e0.eq
  obtain rfl := e1.eq
  exact xG_N 4 (ps := [xRf sh r0 6 0, xRf sh (xrf sh r0 0) 5 1]) (f1 := (59, [some (.ref r0), some (.ref r1), some (.ref r2), some (.int v3), some (.int v4), none, none, none], [.ref r1, .ref (xrf sh (xrf sh r0 0) 1)])) (h1 := (sh, I, J)) rfl ⟨e0.rf, e1.rf⟩ (xG_Ci rfl rfl (Nat.le_of_ble_eq_true rfl) (Nat.le_of_ble_eq_true rfl) ⟨_, _, rfl, ko⟩ rfl k)
set_option maxRecDepth 100000 in
theorem s_ImageReader_takePixels_62 {d : Nat} {Q : xO → xH → Prop} {sh : List xS} {I : Nat → Nat → Int32} {J : Nat → Nat → Int64} {r0 : Nat} {r1 : Nat} {r2 : Nat} {v3 : Int32} {v4 : Int32} {t0 : Int32} {a1 : Nat} {a2 : Nat}
    (e0 : xRr sh r0 6 0 a1)
    (e1 : xRr sh a1 5 2 a2)
    (ko : xOb sh a2 3)
    (k : xg d qCode_hear [.ref a2, .ref r1] (sh, I, J) (xI (fun v h1 => xG d zm_ImageReader_takePixels (75, [some (.ref r0), some (.ref r1), some (.ref r2), some (.int v3), some (.int v4), none, some (.int t0), none], [.int v]) h1 Q) (fun x h1 => Q (.inr x) h1))) :
    xG d zm_ImageReader_takePixels (62, [some (.ref r0), some (.ref r1), some (.ref r2), some (.int v3), some (.int v4), none, none, none], [.int t0]) (sh, I, J) Q := by
  obtain rfl := e0.eq
  obtain rfl := e1.eq
  exact xG_N 5 (ps := [xRf sh r0 6 0, xRf sh (xrf sh r0 0) 5 2]) (f1 := (72, [some (.ref r0), some (.ref r1), some (.ref r2), some (.int v3), some (.int v4), none, some (.int t0), none], [.ref r1, .ref (xrf sh (xrf sh r0 0) 2)])) (h1 := (sh, I, J)) rfl ⟨e0.rf, e1.rf⟩ (xG_Ci rfl rfl (Nat.le_of_ble_eq_true rfl) (Nat.le_of_ble_eq_true rfl) ⟨_, _, rfl, ko⟩ rfl k)
set_option maxRecDepth 100000 in
theorem s_ImageReader_takePixels_75 {d : Nat} {Q : xO → xH → Prop} {sh : List xS} {I : Nat → Nat → Int32} {J : Nat → Nat → Int64} {r0 : Nat} {r1 : Nat} {r2 : Nat} {v3 : Int32} {v4 : Int32} {v6 : Int32} {t0 : Int32} {a1 : Nat} {a2 : Nat}
    (e0 : xRr sh r0 6 0 a1)
    (e1 : xRr sh a1 5 3 a2)
    (ko : xOb sh a2 3)
    (k : xg d qCode_hear [.ref a2, .ref r1] (sh, I, J) (xI (fun v h1 => xG d zm_ImageReader_takePixels (88, [some (.ref r0), some (.ref r1), some (.ref r2), some (.int v3), some (.int v4), none, some (.int v6), some (.int t0)], [.int v]) h1 Q) (fun x h1 => Q (.inr x) h1))) :
    xG d zm_ImageReader_takePixels (75, [some (.ref r0), some (.ref r1), some (.ref r2), some (.int v3), some (.int v4), none, some (.int v6), none], [.int t0]) (sh, I, J) Q := by
  obtain rfl := e0.eq
  obtain rfl := e1.eq
  exact xG_N 5 (ps := [xRf sh r0 6 0, xRf sh (xrf sh r0 0) 5 3]) (f1 := (85, [some (.ref r0), some (.ref r1), some (.ref r2), some (.int v3), some (.int v4), none, some (.int v6), some (.int t0)], [.ref r1, .ref (xrf sh (xrf sh r0 0) 3)])) (h1 := (sh, I, J)) rfl ⟨e0.rf, e1.rf⟩ (xG_Ci rfl rfl (Nat.le_of_ble_eq_true rfl) (Nat.le_of_ble_eq_true rfl) ⟨_, _, rfl, ko⟩ rfl k)
set_option maxRecDepth 100000 in
theorem s_ImageReader_takePixels_88 {d : Nat} {Q : xO → xH → Prop} {sh : List xS} {I : Nat → Nat → Int32} {J : Nat → Nat → Int64} {r0 : Nat} {r1 : Nat} {r2 : Nat} {v3 : Int32} {v4 : Int32} {v6 : Int32} {v7 : Int32} {t0 : Int32} {a1 : Nat} {n2 : Nat} {a3 : Nat}
    (e0 : xRr sh r2 8 0 a1)
    (e1 : xAr sh a1 .int n2)
    (e2 : 4 ≤ a1)
    (e3 : vp_in v3 n2)
    (e4 : xRr sh r0 6 1 a3)
    (ko : xOb sh a3 2)
    (k : xg d qCache_keep [.ref a3, .int ((((t0 <<< ((24 : Int32) &&& 31)) ||| (v6 <<< ((16 : Int32) &&& 31))) ||| (v4 <<< ((8 : Int32) &&& 31))) ||| v7)] (sh, xup I a1 v3.toNatClampNeg ((((t0 <<< ((24 : Int32) &&& 31)) ||| (v6 <<< ((16 : Int32) &&& 31))) ||| (v4 <<< ((8 : Int32) &&& 31))) ||| v7), J) (xU (fun h1 => xG d zm_ImageReader_takePixels (154, [some (.ref r0), some (.ref r1), some (.ref r2), some (.int v3), some (.int v4), some (.int ((((t0 <<< ((24 : Int32) &&& 31)) ||| (v6 <<< ((16 : Int32) &&& 31))) ||| (v4 <<< ((8 : Int32) &&& 31))) ||| v7)), some (.int v6), some (.int v7)], []) h1 Q) (fun x h1 => Q (.inr x) h1))) :
    xG d zm_ImageReader_takePixels (88, [some (.ref r0), some (.ref r1), some (.ref r2), some (.int v3), some (.int v4), none, some (.int v6), some (.int v7)], [.int t0]) (sh, I, J) Q := by
  obtain rfl := e0.eq
  obtain rfl := e1.eq
  obtain rfl := e4.eq
  exact xG_N 22 (ps := [xRf sh r2 8 0, xW sh (xrf sh r2 0) .int, vp_in v3 (xlen sh (xrf sh r2 0)), xRf sh r0 6 1]) (f1 := (151, [some (.ref r0), some (.ref r1), some (.ref r2), some (.int v3), some (.int v4), some (.int ((((t0 <<< ((24 : Int32) &&& 31)) ||| (v6 <<< ((16 : Int32) &&& 31))) ||| (v4 <<< ((8 : Int32) &&& 31))) ||| v7)), some (.int v6), some (.int v7)], [.int ((((t0 <<< ((24 : Int32) &&& 31)) ||| (v6 <<< ((16 : Int32) &&& 31))) ||| (v4 <<< ((8 : Int32) &&& 31))) ||| v7), .ref (xrf sh r0 1)])) (h1 := (sh, xup I (xrf sh r2 0) v3.toNatClampNeg ((((t0 <<< ((24 : Int32) &&& 31)) ||| (v6 <<< ((16 : Int32) &&& 31))) ||| (v4 <<< ((8 : Int32) &&& 31))) ||| v7), J)) rfl ⟨e0.rf, ⟨e1.ar, e2⟩, e3, e4.rf⟩ (xG_Cu rfl rfl (Nat.le_of_ble_eq_true rfl) (Nat.le_of_ble_eq_true rfl) ⟨_, _, rfl, ko⟩ rfl k)
set_option maxRecDepth 100000 in
theorem s_ImageReader_takePixels_111 {d : Nat} {Q : xO → xH → Prop} {sh : List xS} {I : Nat → Nat → Int32} {J : Nat → Nat → Int64} {r0 : Nat} {r1 : Nat} {r2 : Nat} {v3 : Int32} {v4 : Int32} {a1 : Nat} {a2 : Nat} {n3 : Nat} {a4 : Nat} {n5 : Nat}
    (e0 : xRr sh r0 6 1 a1)
    (e1 : xRr sh a1 2 0 a2)
    (e2 : xAr sh a2 .int n3)
    (e3 : vp_in (v4 - (280 : Int32)) n3)
    (e4 : xRr sh r2 8 0 a4)
    (e5 : xAr sh a4 .int n5)
    (e6 : 4 ≤ a4)
    (e7 : vp_in v3 n5)
    (k : xg d qCache_keep [.ref a1, .int (I a2 (v4 - (280 : Int32)).toNatClampNeg)] (sh, xup (xup I r0 4 ((I r0 4) + (1 : Int32))) a4 v3.toNatClampNeg (I a2 (v4 - (280 : Int32)).toNatClampNeg), J) (xU (fun h1 => xG d zm_ImageReader_takePixels (154, [some (.ref r0), some (.ref r1), some (.ref r2), some (.int v3), some (.int v4), some (.int (I a2 (v4 - (280 : Int32)).toNatClampNeg)), none, none], []) h1 Q) (fun x h1 => Q (.inr x) h1))) :
    xG d zm_ImageReader_takePixels (111, [some (.ref r0), some (.ref r1), some (.ref r2), some (.int v3), some (.int v4), none, none, none], []) (sh, I, J) Q := by
  obtain rfl := e0.eq
  obtain rfl := e1.eq
  obtain rfl := e2.eq
  obtain rfl := e4.eq
  obtain rfl := e5.eq
  exact xG_N 22 (ps := [xRf sh r0 6 1, xRf sh (xrf sh r0 1) 2 0, xA sh (xrf sh (xrf sh r0 1) 0) .int, vp_in (v4 - (280 : Int32)) (xlen sh (xrf sh (xrf sh r0 1) 0)), xOb sh r0 6, xOb sh r0 6, xRf sh r2 8 0, xW sh (xrf sh r2 0) .int, vp_in v3 (xlen sh (xrf sh r2 0)), xRf sh r0 6 1]) (f1 := (151, [some (.ref r0), some (.ref r1), some (.ref r2), some (.int v3), some (.int v4), some (.int (I (xrf sh (xrf sh r0 1) 0) (v4 - (280 : Int32)).toNatClampNeg)), none, none], [.int (I (xrf sh (xrf sh r0 1) 0) (v4 - (280 : Int32)).toNatClampNeg), .ref (xrf sh r0 1)])) (h1 := (sh, xup (xup I r0 4 ((I r0 4) + (1 : Int32))) (xrf sh r2 0) v3.toNatClampNeg (I (xrf sh (xrf sh r0 1) 0) (v4 - (280 : Int32)).toNatClampNeg), J)) rfl ⟨e0.rf, e1.rf, e2.ar, e3, e0.ob, e0.ob, e4.rf, ⟨e5.ar, e6⟩, e7, e0.rf⟩ (xG_Cu rfl rfl (Nat.le_of_ble_eq_true rfl) (Nat.le_of_ble_eq_true rfl) ⟨_, _, rfl, e1.ob⟩ rfl k)
set_option maxRecDepth 100000 in
theorem s_ImageReader_takePixels_154 {d : Nat} {Q : xO → xH → Prop} {sh : List xS} {I : Nat → Nat → Int32} {J : Nat → Nat → Int64} {r0 : Nat} {r1 : Nat} {r2 : Nat} {v3 : Int32} {v4 : Int32} {v5 : Int32} {o6 : Option Value} {o7 : Option Value}
    (k : Q (.inl (some (.int (1 : Int32)))) (sh, I, J)) :
    xG d zm_ImageReader_takePixels (154, [some (.ref r0), some (.ref r1), some (.ref r2), some (.int v3), some (.int v4), some (.int v5), o6, o7], []) (sh, I, J) Q := by
  exact xG_N 1 (ps := []) (f1 := (155, [some (.ref r0), some (.ref r1), some (.ref r2), some (.int v3), some (.int v4), some (.int v5), o6, o7], [.int (1 : Int32)])) (h1 := (sh, I, J)) rfl trivial (xG_Q rfl rfl trivial k)
set_option maxRecDepth 100000 in
theorem s_ImageReader_takeCopy_0 {d : Nat} {Q : xO → xH → Prop} {sh : List xS} {I : Nat → Nat → Int32} {J : Nat → Nat → Int64} {r0 : Nat} {r1 : Nat} {v2 : Int32} {r3 : Nat} {v4 : Int32}
    (k : xg d qImageReader_takeNumber [.ref r1, .int v2] (sh, I, J) (xI (fun v h1 => xG d zm_ImageReader_takeCopy (5, [some (.ref r0), some (.ref r1), some (.int v2), some (.ref r3), some (.int v4), none, none, none], [.int v]) h1 Q) (fun x h1 => Q (.inr x) h1))) :
    xG d zm_ImageReader_takeCopy (0, [some (.ref r0), some (.ref r1), some (.int v2), some (.ref r3), some (.int v4), none, none, none], []) (sh, I, J) Q := by
  exact xG_N 2 (ps := []) (f1 := (2, [some (.ref r0), some (.ref r1), some (.int v2), some (.ref r3), some (.int v4), none, none, none], [.int v2, .ref r1])) (h1 := (sh, I, J)) rfl trivial (xG_Ci rfl rfl (Nat.le_of_ble_eq_true rfl) (Nat.le_of_ble_eq_true rfl) trivial rfl k)
set_option maxRecDepth 100000 in
theorem s_ImageReader_takeCopy_5 {d : Nat} {Q : xO → xH → Prop} {sh : List xS} {I : Nat → Nat → Int32} {J : Nat → Nat → Int64} {r0 : Nat} {r1 : Nat} {v2 : Int32} {r3 : Nat} {v4 : Int32} {t0 : Int32} {a1 : Nat} {a2 : Nat}
    (e0 : xRr sh r0 6 0 a1)
    (e1 : xRr sh a1 5 4 a2)
    (ko : xOb sh a2 3)
    (k : xg d qCode_hear [.ref a2, .ref r1] (sh, I, J) (xI (fun v h1 => xG d zm_ImageReader_takeCopy (19, [some (.ref r0), some (.ref r1), some (.int v2), some (.ref r3), some (.int v4), some (.int t0), none, none], [.int v, .ref r1]) h1 Q) (fun x h1 => Q (.inr x) h1))) :
    xG d zm_ImageReader_takeCopy (5, [some (.ref r0), some (.ref r1), some (.int v2), some (.ref r3), some (.int v4), none, none, none], [.int t0]) (sh, I, J) Q := by
  obtain rfl := e0.eq
  obtain rfl := e1.eq
  exact xG_N 6 (ps := [xRf sh r0 6 0, xRf sh (xrf sh r0 0) 5 4]) (f1 := (16, [some (.ref r0), some (.ref r1), some (.int v2), some (.ref r3), some (.int v4), some (.int t0), none, none], [.ref r1, .ref (xrf sh (xrf sh r0 0) 4), .ref r1])) (h1 := (sh, I, J)) rfl ⟨e0.rf, e1.rf⟩ (xG_Ci rfl rfl (Nat.le_of_ble_eq_true rfl) (Nat.le_of_ble_eq_true rfl) ⟨_, _, rfl, ko⟩ rfl k)
set_option maxRecDepth 100000 in
theorem s_ImageReader_takeCopy_19 {d : Nat} {Q : xO → xH → Prop} {sh : List xS} {I : Nat → Nat → Int32} {J : Nat → Nat → Int64} {r0 : Nat} {r1 : Nat} {v2 : Int32} {r3 : Nat} {v4 : Int32} {v5 : Int32} {t0 : Nat} {t1 : Int32}
    (k : xg d qImageReader_takeNumber [.ref t0, .int t1] (sh, I, J) (xI (fun v h1 => xG d zm_ImageReader_takeCopy (22, [some (.ref r0), some (.ref r1), some (.int v2), some (.ref r3), some (.int v4), some (.int v5), none, none], [.int v]) h1 Q) (fun x h1 => Q (.inr x) h1))) :
    xG d zm_ImageReader_takeCopy (19, [some (.ref r0), some (.ref r1), some (.int v2), some (.ref r3), some (.int v4), some (.int v5), none, none], [.int t1, .ref t0]) (sh, I, J) Q := by
  exact xG_Ci rfl rfl (Nat.le_of_ble_eq_true rfl) (Nat.le_of_ble_eq_true rfl) trivial rfl k
set_option maxRecDepth 100000 in
theorem s_ImageReader_takeCopy_22 {d : Nat} {Q : xO → xH → Prop} {sh : List xS} {I : Nat → Nat → Int32} {J : Nat → Nat → Int64} {r0 : Nat} {r1 : Nat} {v2 : Int32} {r3 : Nat} {v4 : Int32} {v5 : Int32} {t0 : Int32}
    (e0 : xOb sh r3 8)
    (k : xg d qImageReader_distanceOf [.int t0, .int (I r3 1)] (sh, I, J) (xI (fun v h1 => xG d zm_ImageReader_takeCopy (29, [some (.ref r0), some (.ref r1), some (.int v2), some (.ref r3), some (.int v4), some (.int v5), none, none], [.int v]) h1 Q) (fun x h1 => Q (.inr x) h1))) :
    xG d zm_ImageReader_takeCopy (22, [some (.ref r0), some (.ref r1), some (.int v2), some (.ref r3), some (.int v4), some (.int v5), none, none], [.int t0]) (sh, I, J) Q := by
  exact xG_N 2 (ps := [xOb sh r3 8]) (f1 := (26, [some (.ref r0), some (.ref r1), some (.int v2), some (.ref r3), some (.int v4), some (.int v5), none, none], [.int (I r3 1), .int t0])) (h1 := (sh, I, J)) rfl e0 (xG_Ci rfl rfl (Nat.le_of_ble_eq_true rfl) (Nat.le_of_ble_eq_true rfl) trivial rfl k)
set_option maxRecDepth 100000 in
theorem s_ImageReader_takeCopy_29 {d : Nat} {Q : xO → xH → Prop} {sh : List xS} {I : Nat → Nat → Int32} {J : Nat → Nat → Int64} {r0 : Nat} {r1 : Nat} {v2 : Int32} {r3 : Nat} {v4 : Int32} {v5 : Int32} {t0 : Int32}
    (k1 : v4 < t0 → xG d zm_ImageReader_takeCopy (50, [some (.ref r0), some (.ref r1), some (.int v2), some (.ref r3), some (.int v4), some (.int v5), some (.int t0), none], []) (sh, I, J) Q)
    (k2 : ¬ (v4 < t0) → xG d zm_ImageReader_takeCopy (38, [some (.ref r0), some (.ref r1), some (.int v2), some (.ref r3), some (.int v4), some (.int v5), some (.int t0), none], []) (sh, I, J) Q) :
    xG d zm_ImageReader_takeCopy (29, [some (.ref r0), some (.ref r1), some (.int v2), some (.ref r3), some (.int v4), some (.int v5), none, none], [.int t0]) (sh, I, J) Q := by
  exact xG_N 3 (ps := []) (f1 := (35, [some (.ref r0), some (.ref r1), some (.int v2), some (.ref r3), some (.int v4), some (.int v5), some (.int t0), none], [.int v4, .int t0])) (h1 := (sh, I, J)) rfl trivial (xG_B rfl rfl k1 k2)
set_option maxRecDepth 100000 in
theorem s_ImageReader_takeCopy_38 {d : Nat} {Q : xO → xH → Prop} {sh : List xS} {I : Nat → Nat → Int32} {J : Nat → Nat → Int64} {r0 : Nat} {r1 : Nat} {v2 : Int32} {r3 : Nat} {v4 : Int32} {v5 : Int32} {v6 : Int32}
    (ko : xOb sh r3 8)
    (k : xg d qPlane_count [.ref r3] (sh, I, J) (xI (fun v h1 => xG d zm_ImageReader_takeCopy (44, [some (.ref r0), some (.ref r1), some (.int v2), some (.ref r3), some (.int v4), some (.int v5), some (.int v6), none], [.int v, .int v5]) h1 Q) (fun x h1 => Q (.inr x) h1))) :
    xG d zm_ImageReader_takeCopy (38, [some (.ref r0), some (.ref r1), some (.int v2), some (.ref r3), some (.int v4), some (.int v5), some (.int v6), none], []) (sh, I, J) Q := by
  exact xG_N 2 (ps := []) (f1 := (41, [some (.ref r0), some (.ref r1), some (.int v2), some (.ref r3), some (.int v4), some (.int v5), some (.int v6), none], [.ref r3, .int v5])) (h1 := (sh, I, J)) rfl trivial (xG_Ci rfl rfl (Nat.le_of_ble_eq_true rfl) (Nat.le_of_ble_eq_true rfl) ⟨_, _, rfl, ko⟩ rfl k)
set_option maxRecDepth 100000 in
theorem s_ImageReader_takeCopy_44 {d : Nat} {Q : xO → xH → Prop} {sh : List xS} {I : Nat → Nat → Int32} {J : Nat → Nat → Int64} {r0 : Nat} {r1 : Nat} {v2 : Int32} {r3 : Nat} {v4 : Int32} {v5 : Int32} {v6 : Int32} {t0 : Int32} {t1 : Int32}
    (k1 : t0 ≤ (t1 - v4) → xG d zm_ImageReader_takeCopy (60, [some (.ref r0), some (.ref r1), some (.int v2), some (.ref r3), some (.int v4), some (.int v5), some (.int v6), none], []) (sh, I, J) Q)
    (k2 : ¬ (t0 ≤ (t1 - v4)) → xG d zm_ImageReader_takeCopy (50, [some (.ref r0), some (.ref r1), some (.int v2), some (.ref r3), some (.int v4), some (.int v5), some (.int v6), none], []) (sh, I, J) Q) :
    xG d zm_ImageReader_takeCopy (44, [some (.ref r0), some (.ref r1), some (.int v2), some (.ref r3), some (.int v4), some (.int v5), some (.int v6), none], [.int t1, .int t0]) (sh, I, J) Q := by
  exact xG_N 2 (ps := []) (f1 := (47, [some (.ref r0), some (.ref r1), some (.int v2), some (.ref r3), some (.int v4), some (.int v5), some (.int v6), none], [.int (t1 - v4), .int t0])) (h1 := (sh, I, J)) rfl trivial (xG_B rfl rfl k1 k2)
set_option maxRecDepth 100000 in
theorem s_ImageReader_takeCopy_50 {d : Nat} {Q : xO → xH → Prop} {sh : List xS} {I : Nat → Nat → Int32} {J : Nat → Nat → Int64} {r0 : Nat} {r1 : Nat} {v2 : Int32} {r3 : Nat} {v4 : Int32} {v5 : Int32} {v6 : Int32}
    (k : Q (.inr sh.length) (sh ++ [.inr (100, [])], I, J)) :
    xG d zm_ImageReader_takeCopy (50, [some (.ref r0), some (.ref r1), some (.int v2), some (.ref r3), some (.int v4), some (.int v5), some (.int v6), none], []) (sh, I, J) Q := by
  exact xG_T rfl rfl rfl (Nat.le_of_ble_eq_true rfl) k
set_option maxRecDepth 100000 in
theorem s_ImageReader_takeCopy_60 {d : Nat} {Q : xO → xH → Prop} {sh : List xS} {I : Nat → Nat → Int32} {J : Nat → Nat → Int64} {r0 : Nat} {r1 : Nat} {v2 : Int32} {r3 : Nat} {v4 : Int32} {v5 : Int32} {v6 : Int32}
    (k : xG d zm_ImageReader_takeCopy (64, [some (.ref r0), some (.ref r1), some (.int v2), some (.ref r3), some (.int v4), some (.int v5), some (.int v6), some (.int v4)], []) (sh, I, J) Q) :
    xG d zm_ImageReader_takeCopy (60, [some (.ref r0), some (.ref r1), some (.int v2), some (.ref r3), some (.int v4), some (.int v5), some (.int v6), none], []) (sh, I, J) Q := by
  exact xG_N 2 (ps := []) (f1 := (64, [some (.ref r0), some (.ref r1), some (.int v2), some (.ref r3), some (.int v4), some (.int v5), some (.int v6), some (.int v4)], [])) (h1 := (sh, I, J)) rfl trivial (k)
set_option maxRecDepth 100000 in
theorem s_ImageReader_takeCopy_64 {d : Nat} {Q : xO → xH → Prop} {sh : List xS} {I : Nat → Nat → Int32} {J : Nat → Nat → Int64} {r0 : Nat} {r1 : Nat} {v2 : Int32} {r3 : Nat} {v4 : Int32} {v5 : Int32} {v6 : Int32} {v7 : Int32}
    (k1 : (v4 + v5) ≤ v7 → xG d zm_ImageReader_takeCopy (111, [some (.ref r0), some (.ref r1), some (.int v2), some (.ref r3), some (.int v4), some (.int v5), some (.int v6), some (.int v7)], []) (sh, I, J) Q)
    (k2 : ¬ ((v4 + v5) ≤ v7) → xG d zm_ImageReader_takeCopy (74, [some (.ref r0), some (.ref r1), some (.int v2), some (.ref r3), some (.int v4), some (.int v5), some (.int v6), some (.int v7)], []) (sh, I, J) Q) :
    xG d zm_ImageReader_takeCopy (64, [some (.ref r0), some (.ref r1), some (.int v2), some (.ref r3), some (.int v4), some (.int v5), some (.int v6), some (.int v7)], []) (sh, I, J) Q := by
  exact xG_N 4 (ps := []) (f1 := (71, [some (.ref r0), some (.ref r1), some (.int v2), some (.ref r3), some (.int v4), some (.int v5), some (.int v6), some (.int v7)], [.int (v4 + v5), .int v7])) (h1 := (sh, I, J)) rfl trivial (xG_B rfl rfl k1 k2)
set_option maxRecDepth 100000 in
theorem s_ImageReader_takeCopy_74 {d : Nat} {Q : xO → xH → Prop} {sh : List xS} {I : Nat → Nat → Int32} {J : Nat → Nat → Int64} {r0 : Nat} {r1 : Nat} {v2 : Int32} {r3 : Nat} {v4 : Int32} {v5 : Int32} {v6 : Int32} {v7 : Int32} {a1 : Nat} {n2 : Nat} {a3 : Nat}
    (e0 : xRr sh r3 8 0 a1)
    (e1 : xAr sh a1 .int n2)
    (e2 : vp_in (v7 - v6) n2)
    (e3 : 4 ≤ a1)
    (e4 : vp_in v7 n2)
    (e5 : xRr sh r0 6 1 a3)
    (ko : xOb sh a3 2)
    (k : xg d qCache_keep [.ref a3, .int ((xup I a1 v7.toNatClampNeg (I a1 (v7 - v6).toNatClampNeg)) a1 v7.toNatClampNeg)] (sh, xup I a1 v7.toNatClampNeg (I a1 (v7 - v6).toNatClampNeg), J) (xU (fun h1 => xG d zm_ImageReader_takeCopy (105, [some (.ref r0), some (.ref r1), some (.int v2), some (.ref r3), some (.int v4), some (.int v5), some (.int v6), some (.int v7)], []) h1 Q) (fun x h1 => Q (.inr x) h1))) :
    xG d zm_ImageReader_takeCopy (74, [some (.ref r0), some (.ref r1), some (.int v2), some (.ref r3), some (.int v4), some (.int v5), some (.int v6), some (.int v7)], []) (sh, I, J) Q := by
  obtain rfl := e0.eq
  obtain rfl := e1.eq
  obtain rfl := e5.eq
  exact xG_N 16 (ps := [xRf sh r3 8 0, xRf sh r3 8 0, xA sh (xrf sh r3 0) .int, vp_in (v7 - v6) (xlen sh (xrf sh r3 0)), xW sh (xrf sh r3 0) .int, vp_in v7 (xlen sh (xrf sh r3 0)), xRf sh r0 6 1, xRf sh r3 8 0, xA sh (xrf sh r3 0) .int, vp_in v7 (xlen sh (xrf sh r3 0))]) (f1 := (102, [some (.ref r0), some (.ref r1), some (.int v2), some (.ref r3), some (.int v4), some (.int v5), some (.int v6), some (.int v7)], [.int ((xup I (xrf sh r3 0) v7.toNatClampNeg (I (xrf sh r3 0) (v7 - v6).toNatClampNeg)) (xrf sh r3 0) v7.toNatClampNeg), .ref (xrf sh r0 1)])) (h1 := (sh, xup I (xrf sh r3 0) v7.toNatClampNeg (I (xrf sh r3 0) (v7 - v6).toNatClampNeg), J)) rfl ⟨e0.rf, e0.rf, e1.ar, e2, ⟨e1.ar, e3⟩, e4, e5.rf, e0.rf, e1.ar, e4⟩ (xG_Cu rfl rfl (Nat.le_of_ble_eq_true rfl) (Nat.le_of_ble_eq_true rfl) ⟨_, _, rfl, ko⟩ rfl k)
set_option maxRecDepth 100000 in
theorem s_ImageReader_takeCopy_105 {d : Nat} {Q : xO → xH → Prop} {sh : List xS} {I : Nat → Nat → Int32} {J : Nat → Nat → Int64} {r0 : Nat} {r1 : Nat} {v2 : Int32} {r3 : Nat} {v4 : Int32} {v5 : Int32} {v6 : Int32} {v7 : Int32}
    (k : xG d zm_ImageReader_takeCopy (64, [some (.ref r0), some (.ref r1), some (.int v2), some (.ref r3), some (.int v4), some (.int v5), some (.int v6), some (.int (v7 + (1 : Int32)))], []) (sh, I, J) Q) :
    xG d zm_ImageReader_takeCopy (105, [some (.ref r0), some (.ref r1), some (.int v2), some (.ref r3), some (.int v4), some (.int v5), some (.int v6), some (.int v7)], []) (sh, I, J) Q := by
  exact xG_N 2 (ps := []) (f1 := (64, [some (.ref r0), some (.ref r1), some (.int v2), some (.ref r3), some (.int v4), some (.int v5), some (.int v6), some (.int (v7 + (1 : Int32)))], [])) (h1 := (sh, I, J)) rfl trivial (k)
set_option maxRecDepth 100000 in
theorem s_ImageReader_takeCopy_111 {d : Nat} {Q : xO → xH → Prop} {sh : List xS} {I : Nat → Nat → Int32} {J : Nat → Nat → Int64} {r0 : Nat} {r1 : Nat} {v2 : Int32} {r3 : Nat} {v4 : Int32} {v5 : Int32} {v6 : Int32} {v7 : Int32}
    (e0 : xOb sh r0 6)
    (k : Q (.inl (some (.int v5))) (sh, xup I r0 3 ((I r0 3) + (1 : Int32)), J)) :
    xG d zm_ImageReader_takeCopy (111, [some (.ref r0), some (.ref r1), some (.int v2), some (.ref r3), some (.int v4), some (.int v5), some (.int v6), some (.int v7)], []) (sh, I, J) Q := by
  exact xG_N 7 (ps := [xOb sh r0 6, xOb sh r0 6]) (f1 := (123, [some (.ref r0), some (.ref r1), some (.int v2), some (.ref r3), some (.int v4), some (.int v5), some (.int v6), some (.int v7)], [.int v5])) (h1 := (sh, xup I r0 3 ((I r0 3) + (1 : Int32)), J)) rfl ⟨e0, e0⟩ (xG_Q rfl rfl trivial k)
set_option maxRecDepth 100000 in
theorem s_ImageReader_takeNumber_0 {d : Nat} {Q : xO → xH → Prop} {sh : List xS} {I : Nat → Nat → Int32} {J : Nat → Nat → Int64} {r0 : Nat} {v1 : Int32}
    (k : xg d qCodes_leastNumber [.int v1] (sh, I, J) (xI (fun v h1 => xG d zm_ImageReader_takeNumber (4, [some (.ref r0), some (.int v1)], [.int v]) h1 Q) (fun x h1 => Q (.inr x) h1))) :
    xG d zm_ImageReader_takeNumber (0, [some (.ref r0), some (.int v1)], []) (sh, I, J) Q := by
  exact xG_N 1 (ps := []) (f1 := (1, [some (.ref r0), some (.int v1)], [.int v1])) (h1 := (sh, I, J)) rfl trivial (xG_Ci rfl rfl (Nat.le_of_ble_eq_true rfl) (Nat.le_of_ble_eq_true rfl) trivial rfl k)
set_option maxRecDepth 100000 in
theorem s_ImageReader_takeNumber_4 {d : Nat} {Q : xO → xH → Prop} {sh : List xS} {I : Nat → Nat → Int32} {J : Nat → Nat → Int64} {r0 : Nat} {v1 : Int32} {t0 : Int32}
    (k : xg d qCodes_bitsBehind [.int v1] (sh, I, J) (xI (fun v h1 => xG d zm_ImageReader_takeNumber (9, [some (.ref r0), some (.int v1)], [.int v, .ref r0, .int t0]) h1 Q) (fun x h1 => Q (.inr x) h1))) :
    xG d zm_ImageReader_takeNumber (4, [some (.ref r0), some (.int v1)], [.int t0]) (sh, I, J) Q := by
  exact xG_N 2 (ps := []) (f1 := (6, [some (.ref r0), some (.int v1)], [.int v1, .ref r0, .int t0])) (h1 := (sh, I, J)) rfl trivial (xG_Ci rfl rfl (Nat.le_of_ble_eq_true rfl) (Nat.le_of_ble_eq_true rfl) trivial rfl k)
set_option maxRecDepth 100000 in
theorem s_ImageReader_takeNumber_9 {d : Nat} {Q : xO → xH → Prop} {sh : List xS} {I : Nat → Nat → Int32} {J : Nat → Nat → Int64} {r0 : Nat} {v1 : Int32} {t0 : Int32} {t1 : Nat} {t2 : Int32}
    (ko : xOb sh t1 1)
    (k : xg d qBits_number [.ref t1, .int t2] (sh, I, J) (xI (fun v h1 => xG d zm_ImageReader_takeNumber (12, [some (.ref r0), some (.int v1)], [.int v, .int t0]) h1 Q) (fun x h1 => Q (.inr x) h1))) :
    xG d zm_ImageReader_takeNumber (9, [some (.ref r0), some (.int v1)], [.int t2, .ref t1, .int t0]) (sh, I, J) Q := by
  exact xG_Ci rfl rfl (Nat.le_of_ble_eq_true rfl) (Nat.le_of_ble_eq_true rfl) ⟨_, _, rfl, ko⟩ rfl k
set_option maxRecDepth 100000 in
theorem s_ImageReader_takeNumber_12 {d : Nat} {Q : xO → xH → Prop} {sh : List xS} {I : Nat → Nat → Int32} {J : Nat → Nat → Int64} {r0 : Nat} {v1 : Int32} {t0 : Int32} {t1 : Int32}
    (k : Q (.inl (some (.int (t0 + t1)))) (sh, I, J)) :
    xG d zm_ImageReader_takeNumber (12, [some (.ref r0), some (.int v1)], [.int t1, .int t0]) (sh, I, J) Q := by
  exact xG_N 1 (ps := []) (f1 := (13, [some (.ref r0), some (.int v1)], [.int (t0 + t1)])) (h1 := (sh, I, J)) rfl trivial (xG_Q rfl rfl trivial k)
set_option maxRecDepth 100000 in
theorem s_ImageReader_distanceOf_0 {d : Nat} {Q : xO → xH → Prop} {sh : List xS} {I : Nat → Nat → Int32} {J : Nat → Nat → Int64} {v0 : Int32} {v1 : Int32}
    (k1 : v0 ≤ (8 : Int32) → xG d zm_ImageReader_distanceOf (13, [some (.int v0), some (.int v1)], []) (sh, I, J) Q)
    (k2 : ¬ (v0 ≤ (8 : Int32)) → xG d zm_ImageReader_distanceOf (6, [some (.int v0), some (.int v1)], []) (sh, I, J) Q) :
    xG d zm_ImageReader_distanceOf (0, [some (.int v0), some (.int v1)], []) (sh, I, J) Q := by
  exact xG_N 2 (ps := []) (f1 := (3, [some (.int v0), some (.int v1)], [.int (8 : Int32), .int v0])) (h1 := (sh, I, J)) rfl trivial (xG_B rfl rfl k1 k2)
set_option maxRecDepth 100000 in
theorem s_ImageReader_distanceOf_6 {d : Nat} {Q : xO → xH → Prop} {sh : List xS} {I : Nat → Nat → Int32} {J : Nat → Nat → Int64} {v0 : Int32} {v1 : Int32}
    (k : Q (.inl (some (.int (v0 - (8 : Int32))))) (sh, I, J)) :
    xG d zm_ImageReader_distanceOf (6, [some (.int v0), some (.int v1)], []) (sh, I, J) Q := by
  exact xG_N 4 (ps := []) (f1 := (34, [some (.int v0), some (.int v1)], [.int (v0 - (8 : Int32))])) (h1 := (sh, I, J)) rfl trivial (xG_Q rfl rfl trivial k)
set_option maxRecDepth 100000 in
theorem s_ImageReader_distanceOf_13 {d : Nat} {Q : xO → xH → Prop} {sh : List xS} {I : Nat → Nat → Int32} {J : Nat → Nat → Int64} {v0 : Int32} {v1 : Int32} {n1 : Nat} {n2 : Nat}
    (e0 : xAr sh 2 .int n1)
    (e1 : vp_in (v0 - (1 : Int32)) n1)
    (e2 : xAr sh 3 .int n2)
    (e3 : vp_in (v0 - (1 : Int32)) n2)
    (k : Q (.inl (some (.int (xmax (1 : Int32) ((I 2 (v0 - (1 : Int32)).toNatClampNeg) + ((I 3 (v0 - (1 : Int32)).toNatClampNeg) * v1)))))) (sh, I, J)) :
    xG d zm_ImageReader_distanceOf (13, [some (.int v0), some (.int v1)], []) (sh, I, J) Q := by
  obtain rfl := e0.eq
  obtain rfl := e2.eq
  exact xG_N 15 (ps := [xA sh 2 .int, vp_in (v0 - (1 : Int32)) (xlen sh 2), xA sh 3 .int, vp_in (v0 - (1 : Int32)) (xlen sh 3), (([] : List Value).map fun v => v.category).sum ≤ 8]) (f1 := (34, [some (.int v0), some (.int v1)], [.int (xmax (1 : Int32) ((I 2 (v0 - (1 : Int32)).toNatClampNeg) + ((I 3 (v0 - (1 : Int32)).toNatClampNeg) * v1)))])) (h1 := (sh, I, J)) rfl ⟨e0.ar, e1, e2.ar, e3, (Nat.le_of_ble_eq_true rfl)⟩ (xG_Q rfl rfl trivial k)
set_option maxRecDepth 100000 in
theorem s_ImageReader_takeCode_0 {d : Nat} {Q : xO → xH → Prop} {sh : List xS} {I : Nat → Nat → Int32} {J : Nat → Nat → Int64} {r0 : Nat} {r1 : Nat} {r2 : Nat}
    (ko : xOb sh r1 1)
    (k : xg d qBits_bit [.ref r1] (sh, I, J) (xI (fun v h1 => xG d zm_ImageReader_takeCode (4, [some (.ref r0), some (.ref r1), some (.ref r2)], [.int v]) h1 Q) (fun x h1 => Q (.inr x) h1))) :
    xG d zm_ImageReader_takeCode (0, [some (.ref r0), some (.ref r1), some (.ref r2)], []) (sh, I, J) Q := by
  exact xG_N 1 (ps := []) (f1 := (1, [some (.ref r0), some (.ref r1), some (.ref r2)], [.ref r1])) (h1 := (sh, I, J)) rfl trivial (xG_Ci rfl rfl (Nat.le_of_ble_eq_true rfl) (Nat.le_of_ble_eq_true rfl) ⟨_, _, rfl, ko⟩ rfl k)
set_option maxRecDepth 100000 in
theorem s_ImageReader_takeCode_4 {d : Nat} {Q : xO → xH → Prop} {sh : List xS} {I : Nat → Nat → Int32} {J : Nat → Nat → Int64} {r0 : Nat} {r1 : Nat} {r2 : Nat} {t0 : Int32}
    (k1 : ¬ t0 = (1 : Int32) → xG d zm_ImageReader_takeCode (16, [some (.ref r0), some (.ref r1), some (.ref r2)], []) (sh, I, J) Q)
    (k2 : ¬ (¬ t0 = (1 : Int32)) → xG d zm_ImageReader_takeCode (8, [some (.ref r0), some (.ref r1), some (.ref r2)], []) (sh, I, J) Q) :
    xG d zm_ImageReader_takeCode (4, [some (.ref r0), some (.ref r1), some (.ref r2)], [.int t0]) (sh, I, J) Q := by
  exact xG_N 1 (ps := []) (f1 := (5, [some (.ref r0), some (.ref r1), some (.ref r2)], [.int (1 : Int32), .int t0])) (h1 := (sh, I, J)) rfl trivial (xG_B rfl rfl k1 k2)
set_option maxRecDepth 100000 in
theorem s_ImageReader_takeCode_8 {d : Nat} {Q : xO → xH → Prop} {sh : List xS} {I : Nat → Nat → Int32} {J : Nat → Nat → Int64} {r0 : Nat} {r1 : Nat} {r2 : Nat}
    (k : xg d qImageReader_takeFew [.ref r1, .ref r2] (sh, I, J) (xU (fun h1 => xG d zm_ImageReader_takeCode (13, [some (.ref r0), some (.ref r1), some (.ref r2)], []) h1 Q) (fun x h1 => Q (.inr x) h1))) :
    xG d zm_ImageReader_takeCode (8, [some (.ref r0), some (.ref r1), some (.ref r2)], []) (sh, I, J) Q := by
  exact xG_N 2 (ps := []) (f1 := (10, [some (.ref r0), some (.ref r1), some (.ref r2)], [.ref r2, .ref r1])) (h1 := (sh, I, J)) rfl trivial (xG_Cu rfl rfl (Nat.le_of_ble_eq_true rfl) (Nat.le_of_ble_eq_true rfl) trivial rfl k)
set_option maxRecDepth 100000 in
theorem s_ImageReader_takeCode_13 {d : Nat} {Q : xO → xH → Prop} {sh : List xS} {I : Nat → Nat → Int32} {J : Nat → Nat → Int64} {r0 : Nat} {r1 : Nat} {r2 : Nat}
    (ko : xOb sh r2 3)
    (k : xg d qCode_arrange [.ref r2] (sh, I, J) (xI (fun v h1 => xG d zm_ImageReader_takeCode (31, [some (.ref r0), some (.ref r1), some (.ref r2)], [.int v]) h1 Q) (fun x h1 => Q (.inr x) h1))) :
    xG d zm_ImageReader_takeCode (13, [some (.ref r0), some (.ref r1), some (.ref r2)], []) (sh, I, J) Q := by
  exact xG_N 2 (ps := []) (f1 := (28, [some (.ref r0), some (.ref r1), some (.ref r2)], [.ref r2])) (h1 := (sh, I, J)) rfl trivial (xG_Ci rfl rfl (Nat.le_of_ble_eq_true rfl) (Nat.le_of_ble_eq_true rfl) ⟨_, _, rfl, ko⟩ rfl k)
set_option maxRecDepth 100000 in
theorem s_ImageReader_takeCode_16 {d : Nat} {Q : xO → xH → Prop} {sh : List xS} {I : Nat → Nat → Int32} {J : Nat → Nat → Int64} {r0 : Nat} {r1 : Nat} {r2 : Nat}
    (ko : xOb sh r0 6)
    (k : xg d qImageReader_takeSmall [.ref r0, .ref r1] (sh, I, J) (xU (fun h1 => xG d zm_ImageReader_takeCode (21, [some (.ref r0), some (.ref r1), some (.ref r2)], []) h1 Q) (fun x h1 => Q (.inr x) h1))) :
    xG d zm_ImageReader_takeCode (16, [some (.ref r0), some (.ref r1), some (.ref r2)], []) (sh, I, J) Q := by
  exact xG_N 2 (ps := []) (f1 := (18, [some (.ref r0), some (.ref r1), some (.ref r2)], [.ref r1, .ref r0])) (h1 := (sh, I, J)) rfl trivial (xG_Cu rfl rfl (Nat.le_of_ble_eq_true rfl) (Nat.le_of_ble_eq_true rfl) ⟨_, _, rfl, ko⟩ rfl k)
set_option maxRecDepth 100000 in
theorem s_ImageReader_takeCode_21 {d : Nat} {Q : xO → xH → Prop} {sh : List xS} {I : Nat → Nat → Int32} {J : Nat → Nat → Int64} {r0 : Nat} {r1 : Nat} {r2 : Nat}
    (ko : xOb sh r0 6)
    (k : xg d qImageReader_takeLengths [.ref r0, .ref r1, .ref r2] (sh, I, J) (xU (fun h1 => xG d zm_ImageReader_takeCode (27, [some (.ref r0), some (.ref r1), some (.ref r2)], []) h1 Q) (fun x h1 => Q (.inr x) h1))) :
    xG d zm_ImageReader_takeCode (21, [some (.ref r0), some (.ref r1), some (.ref r2)], []) (sh, I, J) Q := by
  exact xG_N 3 (ps := []) (f1 := (24, [some (.ref r0), some (.ref r1), some (.ref r2)], [.ref r2, .ref r1, .ref r0])) (h1 := (sh, I, J)) rfl trivial (xG_Cu rfl rfl (Nat.le_of_ble_eq_true rfl) (Nat.le_of_ble_eq_true rfl) ⟨_, _, rfl, ko⟩ rfl k)
set_option maxRecDepth 100000 in
theorem s_ImageReader_takeCode_27 {d : Nat} {Q : xO → xH → Prop} {sh : List xS} {I : Nat → Nat → Int32} {J : Nat → Nat → Int64} {r0 : Nat} {r1 : Nat} {r2 : Nat}
    (ko : xOb sh r2 3)
    (k : xg d qCode_arrange [.ref r2] (sh, I, J) (xI (fun v h1 => xG d zm_ImageReader_takeCode (31, [some (.ref r0), some (.ref r1), some (.ref r2)], [.int v]) h1 Q) (fun x h1 => Q (.inr x) h1))) :
    xG d zm_ImageReader_takeCode (27, [some (.ref r0), some (.ref r1), some (.ref r2)], []) (sh, I, J) Q := by
  exact xG_N 1 (ps := []) (f1 := (28, [some (.ref r0), some (.ref r1), some (.ref r2)], [.ref r2])) (h1 := (sh, I, J)) rfl trivial (xG_Ci rfl rfl (Nat.le_of_ble_eq_true rfl) (Nat.le_of_ble_eq_true rfl) ⟨_, _, rfl, ko⟩ rfl k)
set_option maxRecDepth 100000 in
theorem s_ImageReader_takeCode_31 {d : Nat} {Q : xO → xH → Prop} {sh : List xS} {I : Nat → Nat → Int32} {J : Nat → Nat → Int64} {r0 : Nat} {r1 : Nat} {r2 : Nat} {t0 : Int32}
    (k1 : ¬ t0 = 0 → xG d zm_ImageReader_takeCode (44, [some (.ref r0), some (.ref r1), some (.ref r2)], []) (sh, I, J) Q)
    (k2 : ¬ (¬ t0 = 0) → xG d zm_ImageReader_takeCode (34, [some (.ref r0), some (.ref r1), some (.ref r2)], []) (sh, I, J) Q) :
    xG d zm_ImageReader_takeCode (31, [some (.ref r0), some (.ref r1), some (.ref r2)], [.int t0]) (sh, I, J) Q := by
  exact xG_B rfl rfl k1 k2
set_option maxRecDepth 100000 in
theorem s_ImageReader_takeCode_34 {d : Nat} {Q : xO → xH → Prop} {sh : List xS} {I : Nat → Nat → Int32} {J : Nat → Nat → Int64} {r0 : Nat} {r1 : Nat} {r2 : Nat}
    (k : Q (.inr sh.length) (sh ++ [.inr (100, [])], I, J)) :
    xG d zm_ImageReader_takeCode (34, [some (.ref r0), some (.ref r1), some (.ref r2)], []) (sh, I, J) Q := by
  exact xG_T rfl rfl rfl (Nat.le_of_ble_eq_true rfl) k
set_option maxRecDepth 100000 in
theorem s_ImageReader_takeCode_44 {d : Nat} {Q : xO → xH → Prop} {sh : List xS} {I : Nat → Nat → Int32} {J : Nat → Nat → Int64} {r0 : Nat} {r1 : Nat} {r2 : Nat}
    (k : Q (.inl (none)) (sh, I, J)) :
    xG d zm_ImageReader_takeCode (44, [some (.ref r0), some (.ref r1), some (.ref r2)], []) (sh, I, J) Q := by
  exact xG_Q rfl rfl trivial k
set_option maxRecDepth 100000 in
theorem s_ImageReader_takeFew_0 {d : Nat} {Q : xO → xH → Prop} {sh : List xS} {I : Nat → Nat → Int32} {J : Nat → Nat → Int64} {r0 : Nat} {r1 : Nat}
    (ko : xOb sh r0 1)
    (k : xg d qBits_bit [.ref r0] (sh, I, J) (xI (fun v h1 => xG d zm_ImageReader_takeFew (4, [some (.ref r0), some (.ref r1), none, none, none], [.int v]) h1 Q) (fun x h1 => Q (.inr x) h1))) :
    xG d zm_ImageReader_takeFew (0, [some (.ref r0), some (.ref r1), none, none, none], []) (sh, I, J) Q := by
  exact xG_N 1 (ps := []) (f1 := (1, [some (.ref r0), some (.ref r1), none, none, none], [.ref r0])) (h1 := (sh, I, J)) rfl trivial (xG_Ci rfl rfl (Nat.le_of_ble_eq_true rfl) (Nat.le_of_ble_eq_true rfl) ⟨_, _, rfl, ko⟩ rfl k)
set_option maxRecDepth 100000 in
theorem s_ImageReader_takeFew_4 {d : Nat} {Q : xO → xH → Prop} {sh : List xS} {I : Nat → Nat → Int32} {J : Nat → Nat → Int64} {r0 : Nat} {r1 : Nat} {t0 : Int32}
    (k1 : ¬ t0 = (1 : Int32) → xG d zm_ImageReader_takeFew (12, [some (.ref r0), some (.ref r1), none, none, none], []) (sh, I, J) Q)
    (k2 : ¬ (¬ t0 = (1 : Int32)) → xG d zm_ImageReader_takeFew (8, [some (.ref r0), some (.ref r1), none, none, none], []) (sh, I, J) Q) :
    xG d zm_ImageReader_takeFew (4, [some (.ref r0), some (.ref r1), none, none, none], [.int t0]) (sh, I, J) Q := by
  exact xG_N 1 (ps := []) (f1 := (5, [some (.ref r0), some (.ref r1), none, none, none], [.int (1 : Int32), .int t0])) (h1 := (sh, I, J)) rfl trivial (xG_B rfl rfl k1 k2)
set_option maxRecDepth 100000 in
theorem s_ImageReader_takeFew_8 {d : Nat} {Q : xO → xH → Prop} {sh : List xS} {I : Nat → Nat → Int32} {J : Nat → Nat → Int64} {r0 : Nat} {r1 : Nat}
    (ko : xOb sh r0 1)
    (k : xg d qBits_bit [.ref r0] (sh, I, J) (xI (fun v h1 => xG d zm_ImageReader_takeFew (19, [some (.ref r0), some (.ref r1), some (.int (1 : Int32)), none, none], [.int v, .ref r0]) h1 Q) (fun x h1 => Q (.inr x) h1))) :
    xG d zm_ImageReader_takeFew (8, [some (.ref r0), some (.ref r1), none, none, none], []) (sh, I, J) Q := by
  exact xG_N 5 (ps := []) (f1 := (16, [some (.ref r0), some (.ref r1), some (.int (1 : Int32)), none, none], [.ref r0, .ref r0])) (h1 := (sh, I, J)) rfl trivial (xG_Ci rfl rfl (Nat.le_of_ble_eq_true rfl) (Nat.le_of_ble_eq_true rfl) ⟨_, _, rfl, ko⟩ rfl k)
set_option maxRecDepth 100000 in
theorem s_ImageReader_takeFew_12 {d : Nat} {Q : xO → xH → Prop} {sh : List xS} {I : Nat → Nat → Int32} {J : Nat → Nat → Int64} {r0 : Nat} {r1 : Nat}
    (ko : xOb sh r0 1)
    (k : xg d qBits_bit [.ref r0] (sh, I, J) (xI (fun v h1 => xG d zm_ImageReader_takeFew (19, [some (.ref r0), some (.ref r1), some (.int (0 : Int32)), none, none], [.int v, .ref r0]) h1 Q) (fun x h1 => Q (.inr x) h1))) :
    xG d zm_ImageReader_takeFew (12, [some (.ref r0), some (.ref r1), none, none, none], []) (sh, I, J) Q := by
  exact xG_N 4 (ps := []) (f1 := (16, [some (.ref r0), some (.ref r1), some (.int (0 : Int32)), none, none], [.ref r0, .ref r0])) (h1 := (sh, I, J)) rfl trivial (xG_Ci rfl rfl (Nat.le_of_ble_eq_true rfl) (Nat.le_of_ble_eq_true rfl) ⟨_, _, rfl, ko⟩ rfl k)
set_option maxRecDepth 100000 in
theorem s_ImageReader_takeFew_19 {d : Nat} {Q : xO → xH → Prop} {sh : List xS} {I : Nat → Nat → Int32} {J : Nat → Nat → Int64} {r0 : Nat} {r1 : Nat} {v2 : Int32} {t0 : Nat} {t1 : Int32}
    (k1 : ¬ t1 = (1 : Int32) → xG d zm_ImageReader_takeFew (28, [some (.ref r0), some (.ref r1), some (.int v2), none, none], [.ref t0]) (sh, I, J) Q)
    (k2 : ¬ (¬ t1 = (1 : Int32)) → xG d zm_ImageReader_takeFew (23, [some (.ref r0), some (.ref r1), some (.int v2), none, none], [.ref t0]) (sh, I, J) Q) :
    xG d zm_ImageReader_takeFew (19, [some (.ref r0), some (.ref r1), some (.int v2), none, none], [.int t1, .ref t0]) (sh, I, J) Q := by
  exact xG_N 1 (ps := []) (f1 := (20, [some (.ref r0), some (.ref r1), some (.int v2), none, none], [.int (1 : Int32), .int t1, .ref t0])) (h1 := (sh, I, J)) rfl trivial (xG_B rfl rfl k1 k2)
set_option maxRecDepth 100000 in
theorem s_ImageReader_takeFew_23 {d : Nat} {Q : xO → xH → Prop} {sh : List xS} {I : Nat → Nat → Int32} {J : Nat → Nat → Int64} {r0 : Nat} {r1 : Nat} {v2 : Int32} {t0 : Nat}
    (ko : xOb sh t0 1)
    (k : xg d qBits_number [.ref t0, .int (8 : Int32)] (sh, I, J) (xI (fun v h1 => xG d zm_ImageReader_takeFew (32, [some (.ref r0), some (.ref r1), some (.int v2), none, none], [.int v]) h1 Q) (fun x h1 => Q (.inr x) h1))) :
    xG d zm_ImageReader_takeFew (23, [some (.ref r0), some (.ref r1), some (.int v2), none, none], [.ref t0]) (sh, I, J) Q := by
  exact xG_N 2 (ps := []) (f1 := (29, [some (.ref r0), some (.ref r1), some (.int v2), none, none], [.int (8 : Int32), .ref t0])) (h1 := (sh, I, J)) rfl trivial (xG_Ci rfl rfl (Nat.le_of_ble_eq_true rfl) (Nat.le_of_ble_eq_true rfl) ⟨_, _, rfl, ko⟩ rfl k)
set_option maxRecDepth 100000 in
theorem s_ImageReader_takeFew_28 {d : Nat} {Q : xO → xH → Prop} {sh : List xS} {I : Nat → Nat → Int32} {J : Nat → Nat → Int64} {r0 : Nat} {r1 : Nat} {v2 : Int32} {t0 : Nat}
    (ko : xOb sh t0 1)
    (k : xg d qBits_number [.ref t0, .int (1 : Int32)] (sh, I, J) (xI (fun v h1 => xG d zm_ImageReader_takeFew (32, [some (.ref r0), some (.ref r1), some (.int v2), none, none], [.int v]) h1 Q) (fun x h1 => Q (.inr x) h1))) :
    xG d zm_ImageReader_takeFew (28, [some (.ref r0), some (.ref r1), some (.int v2), none, none], [.ref t0]) (sh, I, J) Q := by
  exact xG_N 1 (ps := []) (f1 := (29, [some (.ref r0), some (.ref r1), some (.int v2), none, none], [.int (1 : Int32), .ref t0])) (h1 := (sh, I, J)) rfl trivial (xG_Ci rfl rfl (Nat.le_of_ble_eq_true rfl) (Nat.le_of_ble_eq_true rfl) ⟨_, _, rfl, ko⟩ rfl k)
set_option maxRecDepth 100000 in
theorem s_ImageReader_takeFew_32 {d : Nat} {Q : xO → xH → Prop} {sh : List xS} {I : Nat → Nat → Int32} {J : Nat → Nat → Int64} {r0 : Nat} {r1 : Nat} {v2 : Int32} {t0 : Int32}
    (k1 : v2 = 0 → xG d zm_ImageReader_takeFew (46, [some (.ref r0), some (.ref r1), some (.int v2), some (.int t0), none], []) (sh, I, J) Q)
    (k2 : ¬ (v2 = 0) → xG d zm_ImageReader_takeFew (37, [some (.ref r0), some (.ref r1), some (.int v2), some (.int t0), none], []) (sh, I, J) Q) :
    xG d zm_ImageReader_takeFew (32, [some (.ref r0), some (.ref r1), some (.int v2), none, none], [.int t0]) (sh, I, J) Q := by
  exact xG_N 2 (ps := []) (f1 := (34, [some (.ref r0), some (.ref r1), some (.int v2), some (.int t0), none], [.int v2])) (h1 := (sh, I, J)) rfl trivial (xG_B rfl rfl k1 k2)
set_option maxRecDepth 100000 in
theorem s_ImageReader_takeFew_37 {d : Nat} {Q : xO → xH → Prop} {sh : List xS} {I : Nat → Nat → Int32} {J : Nat → Nat → Int64} {r0 : Nat} {r1 : Nat} {v2 : Int32} {v3 : Int32}
    (ko : xOb sh r0 1)
    (k : xg d qBits_number [.ref r0, .int (8 : Int32)] (sh, I, J) (xI (fun v h1 => xG d zm_ImageReader_takeFew (43, [some (.ref r0), some (.ref r1), some (.int v2), some (.int v3), none], [.int v]) h1 Q) (fun x h1 => Q (.inr x) h1))) :
    xG d zm_ImageReader_takeFew (37, [some (.ref r0), some (.ref r1), some (.int v2), some (.int v3), none], []) (sh, I, J) Q := by
  exact xG_N 2 (ps := []) (f1 := (40, [some (.ref r0), some (.ref r1), some (.int v2), some (.int v3), none], [.int (8 : Int32), .ref r0])) (h1 := (sh, I, J)) rfl trivial (xG_Ci rfl rfl (Nat.le_of_ble_eq_true rfl) (Nat.le_of_ble_eq_true rfl) ⟨_, _, rfl, ko⟩ rfl k)
set_option maxRecDepth 100000 in
theorem s_ImageReader_takeFew_43 {d : Nat} {Q : xO → xH → Prop} {sh : List xS} {I : Nat → Nat → Int32} {J : Nat → Nat → Int64} {r0 : Nat} {r1 : Nat} {v2 : Int32} {v3 : Int32} {t0 : Int32}
    (e0 : xOb sh r1 3)
    (k1 : (I r1 6) ≤ v3 → xG d zm_ImageReader_takeFew (76, [some (.ref r0), some (.ref r1), some (.int v2), some (.int v3), some (.int t0)], []) (sh, I, J) Q)
    (k2 : ¬ ((I r1 6) ≤ v3) → xG d zm_ImageReader_takeFew (57, [some (.ref r0), some (.ref r1), some (.int v2), some (.int v3), some (.int t0)], []) (sh, I, J) Q) :
    xG d zm_ImageReader_takeFew (43, [some (.ref r0), some (.ref r1), some (.int v2), some (.int v3), none], [.int t0]) (sh, I, J) Q := by
  exact xG_N 5 (ps := [xOb sh r1 3]) (f1 := (54, [some (.ref r0), some (.ref r1), some (.int v2), some (.int v3), some (.int t0)], [.int (I r1 6), .int v3])) (h1 := (sh, I, J)) rfl e0 (xG_B rfl rfl k1 k2)
set_option maxRecDepth 100000 in
theorem s_ImageReader_takeFew_46 {d : Nat} {Q : xO → xH → Prop} {sh : List xS} {I : Nat → Nat → Int32} {J : Nat → Nat → Int64} {r0 : Nat} {r1 : Nat} {v2 : Int32} {v3 : Int32}
    (e0 : xOb sh r1 3)
    (k1 : (I r1 6) ≤ v3 → xG d zm_ImageReader_takeFew (76, [some (.ref r0), some (.ref r1), some (.int v2), some (.int v3), some (.int v3)], []) (sh, I, J) Q)
    (k2 : ¬ ((I r1 6) ≤ v3) → xG d zm_ImageReader_takeFew (57, [some (.ref r0), some (.ref r1), some (.int v2), some (.int v3), some (.int v3)], []) (sh, I, J) Q) :
    xG d zm_ImageReader_takeFew (46, [some (.ref r0), some (.ref r1), some (.int v2), some (.int v3), none], []) (sh, I, J) Q := by
  exact xG_N 5 (ps := [xOb sh r1 3]) (f1 := (54, [some (.ref r0), some (.ref r1), some (.int v2), some (.int v3), some (.int v3)], [.int (I r1 6), .int v3])) (h1 := (sh, I, J)) rfl e0 (xG_B rfl rfl k1 k2)
set_option maxRecDepth 100000 in
theorem s_ImageReader_takeFew_57 {d : Nat} {Q : xO → xH → Prop} {sh : List xS} {I : Nat → Nat → Int32} {J : Nat → Nat → Int64} {r0 : Nat} {r1 : Nat} {v2 : Int32} {v3 : Int32} {v4 : Int32}
    (e0 : xOb sh r1 3)
    (k1 : (I r1 6) ≤ v4 → xG d zm_ImageReader_takeFew (76, [some (.ref r0), some (.ref r1), some (.int v2), some (.int v3), some (.int v4)], []) (sh, I, J) Q)
    (k2 : ¬ ((I r1 6) ≤ v4) → xG d zm_ImageReader_takeFew (66, [some (.ref r0), some (.ref r1), some (.int v2), some (.int v3), some (.int v4)], []) (sh, I, J) Q) :
    xG d zm_ImageReader_takeFew (57, [some (.ref r0), some (.ref r1), some (.int v2), some (.int v3), some (.int v4)], []) (sh, I, J) Q := by
  exact xG_N 3 (ps := [xOb sh r1 3]) (f1 := (63, [some (.ref r0), some (.ref r1), some (.int v2), some (.int v3), some (.int v4)], [.int (I r1 6), .int v4])) (h1 := (sh, I, J)) rfl e0 (xG_B rfl rfl k1 k2)
set_option maxRecDepth 100000 in
theorem s_ImageReader_takeFew_66 {d : Nat} {Q : xO → xH → Prop} {sh : List xS} {I : Nat → Nat → Int32} {J : Nat → Nat → Int64} {r0 : Nat} {r1 : Nat} {v2 : Int32} {v3 : Int32} {v4 : Int32}
    (k1 : v2 = 0 → xG d zm_ImageReader_takeFew (86, [some (.ref r0), some (.ref r1), some (.int v2), some (.int v3), some (.int v4)], []) (sh, I, J) Q)
    (k2 : ¬ (v2 = 0) → xG d zm_ImageReader_takeFew (70, [some (.ref r0), some (.ref r1), some (.int v2), some (.int v3), some (.int v4)], []) (sh, I, J) Q) :
    xG d zm_ImageReader_takeFew (66, [some (.ref r0), some (.ref r1), some (.int v2), some (.int v3), some (.int v4)], []) (sh, I, J) Q := by
  exact xG_N 1 (ps := []) (f1 := (67, [some (.ref r0), some (.ref r1), some (.int v2), some (.int v3), some (.int v4)], [.int v2])) (h1 := (sh, I, J)) rfl trivial (xG_B rfl rfl k1 k2)
set_option maxRecDepth 100000 in
theorem s_ImageReader_takeFew_70 {d : Nat} {Q : xO → xH → Prop} {sh : List xS} {I : Nat → Nat → Int32} {J : Nat → Nat → Int64} {r0 : Nat} {r1 : Nat} {v2 : Int32} {v3 : Int32} {v4 : Int32}
    (k1 : ¬ v3 = v4 → xG d zm_ImageReader_takeFew (86, [some (.ref r0), some (.ref r1), some (.int v2), some (.int v3), some (.int v4)], []) (sh, I, J) Q)
    (k2 : ¬ (¬ v3 = v4) → xG d zm_ImageReader_takeFew (76, [some (.ref r0), some (.ref r1), some (.int v2), some (.int v3), some (.int v4)], []) (sh, I, J) Q) :
    xG d zm_ImageReader_takeFew (70, [some (.ref r0), some (.ref r1), some (.int v2), some (.int v3), some (.int v4)], []) (sh, I, J) Q := by
  exact xG_N 2 (ps := []) (f1 := (73, [some (.ref r0), some (.ref r1), some (.int v2), some (.int v3), some (.int v4)], [.int v4, .int v3])) (h1 := (sh, I, J)) rfl trivial (xG_B rfl rfl k1 k2)
set_option maxRecDepth 100000 in
theorem s_ImageReader_takeFew_76 {d : Nat} {Q : xO → xH → Prop} {sh : List xS} {I : Nat → Nat → Int32} {J : Nat → Nat → Int64} {r0 : Nat} {r1 : Nat} {v2 : Int32} {v3 : Int32} {v4 : Int32}
    (k : Q (.inr sh.length) (sh ++ [.inr (100, [])], I, J)) :
    xG d zm_ImageReader_takeFew (76, [some (.ref r0), some (.ref r1), some (.int v2), some (.int v3), some (.int v4)], []) (sh, I, J) Q := by
  exact xG_T rfl rfl rfl (Nat.le_of_ble_eq_true rfl) k
set_option maxRecDepth 100000 in
theorem s_ImageReader_takeFew_86 {d : Nat} {Q : xO → xH → Prop} {sh : List xS} {I : Nat → Nat → Int32} {J : Nat → Nat → Int64} {r0 : Nat} {r1 : Nat} {v2 : Int32} {v3 : Int32} {v4 : Int32} {a1 : Nat} {n2 : Nat}
    (e0 : xRr sh r1 3 0 a1)
    (e1 : xAr sh a1 .int n2)
    (e2 : 4 ≤ a1)
    (e3 : vp_in v3 n2)
    (e4 : vp_in v4 n2)
    (k : Q (.inl (none)) (sh, xup (xup I a1 v3.toNatClampNeg (1 : Int32)) a1 v4.toNatClampNeg (1 : Int32), J)) :
    xG d zm_ImageReader_takeFew (86, [some (.ref r0), some (.ref r1), some (.int v2), some (.int v3), some (.int v4)], []) (sh, I, J) Q := by
  obtain rfl := e0.eq
  obtain rfl := e1.eq
  exact xG_N 10 (ps := [xRf sh r1 3 0, xW sh (xrf sh r1 0) .int, vp_in v3 (xlen sh (xrf sh r1 0)), xRf sh r1 3 0, xW sh (xrf sh r1 0) .int, vp_in v4 (xlen sh (xrf sh r1 0))]) (f1 := (101, [some (.ref r0), some (.ref r1), some (.int v2), some (.int v3), some (.int v4)], [])) (h1 := (sh, xup (xup I (xrf sh r1 0) v3.toNatClampNeg (1 : Int32)) (xrf sh r1 0) v4.toNatClampNeg (1 : Int32), J)) rfl ⟨e0.rf, ⟨e1.ar, e2⟩, e3, e0.rf, ⟨e1.ar, e2⟩, e4⟩ (xG_Q rfl rfl trivial k)
set_option maxRecDepth 100000 in
theorem s_ImageReader_takeSmall_0 {d : Nat} {Q : xO → xH → Prop} {sh : List xS} {I : Nat → Nat → Int32} {J : Nat → Nat → Int64} {r0 : Nat} {r1 : Nat} {a1 : Nat}
    (e0 : xRr sh r0 6 2 a1)
    (ko : xOb sh a1 3)
    (k : xg d qCode_clear [.ref a1, .int (19 : Int32)] (sh, I, J) (xU (fun h1 => xG d zm_ImageReader_takeSmall (9, [some (.ref r0), some (.ref r1), none, none], []) h1 Q) (fun x h1 => Q (.inr x) h1))) :
    xG d zm_ImageReader_takeSmall (0, [some (.ref r0), some (.ref r1), none, none], []) (sh, I, J) Q := by
  obtain rfl := e0.eq
  exact xG_N 3 (ps := [xRf sh r0 6 2]) (f1 := (6, [some (.ref r0), some (.ref r1), none, none], [.int (19 : Int32), .ref (xrf sh r0 2)])) (h1 := (sh, I, J)) rfl e0.rf (xG_Cu rfl rfl (Nat.le_of_ble_eq_true rfl) (Nat.le_of_ble_eq_true rfl) ⟨_, _, rfl, ko⟩ rfl k)
set_option maxRecDepth 100000 in
theorem s_ImageReader_takeSmall_9 {d : Nat} {Q : xO → xH → Prop} {sh : List xS} {I : Nat → Nat → Int32} {J : Nat → Nat → Int64} {r0 : Nat} {r1 : Nat}
    (ko : xOb sh r1 1)
    (k : xg d qBits_number [.ref r1, .int (4 : Int32)] (sh, I, J) (xI (fun v h1 => xG d zm_ImageReader_takeSmall (14, [some (.ref r0), some (.ref r1), none, none], [.int v]) h1 Q) (fun x h1 => Q (.inr x) h1))) :
    xG d zm_ImageReader_takeSmall (9, [some (.ref r0), some (.ref r1), none, none], []) (sh, I, J) Q := by
  exact xG_N 2 (ps := []) (f1 := (11, [some (.ref r0), some (.ref r1), none, none], [.int (4 : Int32), .ref r1])) (h1 := (sh, I, J)) rfl trivial (xG_Ci rfl rfl (Nat.le_of_ble_eq_true rfl) (Nat.le_of_ble_eq_true rfl) ⟨_, _, rfl, ko⟩ rfl k)
set_option maxRecDepth 100000 in
theorem s_ImageReader_takeSmall_14 {d : Nat} {Q : xO → xH → Prop} {sh : List xS} {I : Nat → Nat → Int32} {J : Nat → Nat → Int64} {r0 : Nat} {r1 : Nat} {t0 : Int32}
    (k : xG d zm_ImageReader_takeSmall (19, [some (.ref r0), some (.ref r1), some (.int (t0 + (4 : Int32))), some (.int (0 : Int32))], []) (sh, I, J) Q) :
    xG d zm_ImageReader_takeSmall (14, [some (.ref r0), some (.ref r1), none, none], [.int t0]) (sh, I, J) Q := by
  exact xG_N 5 (ps := []) (f1 := (19, [some (.ref r0), some (.ref r1), some (.int (t0 + (4 : Int32))), some (.int (0 : Int32))], [])) (h1 := (sh, I, J)) rfl trivial (k)
set_option maxRecDepth 100000 in
theorem s_ImageReader_takeSmall_19 {d : Nat} {Q : xO → xH → Prop} {sh : List xS} {I : Nat → Nat → Int32} {J : Nat → Nat → Int64} {r0 : Nat} {r1 : Nat} {v2 : Int32} {v3 : Int32}
    (k1 : v2 ≤ v3 → xG d zm_ImageReader_takeSmall (48, [some (.ref r0), some (.ref r1), some (.int v2), some (.int v3)], []) (sh, I, J) Q)
    (k2 : ¬ (v2 ≤ v3) → xG d zm_ImageReader_takeSmall (24, [some (.ref r0), some (.ref r1), some (.int v2), some (.int v3)], []) (sh, I, J) Q) :
    xG d zm_ImageReader_takeSmall (19, [some (.ref r0), some (.ref r1), some (.int v2), some (.int v3)], []) (sh, I, J) Q := by
  exact xG_N 2 (ps := []) (f1 := (21, [some (.ref r0), some (.ref r1), some (.int v2), some (.int v3)], [.int v2, .int v3])) (h1 := (sh, I, J)) rfl trivial (xG_B rfl rfl k1 k2)
set_option maxRecDepth 100000 in
theorem s_ImageReader_takeSmall_24 {d : Nat} {Q : xO → xH → Prop} {sh : List xS} {I : Nat → Nat → Int32} {J : Nat → Nat → Int64} {r0 : Nat} {r1 : Nat} {v2 : Int32} {v3 : Int32} {a1 : Nat} {a2 : Nat} {n3 : Nat}
    (e0 : xRr sh r0 6 2 a1)
    (e1 : xRr sh a1 3 0 a2)
    (e2 : xAr sh 1 .int n3)
    (e3 : vp_in v3 n3)
    (ko : xOb sh r1 1)
    (k : xg d qBits_number [.ref r1, .int (3 : Int32)] (sh, I, J) (xI (fun v h1 => xG d zm_ImageReader_takeSmall (41, [some (.ref r0), some (.ref r1), some (.int v2), some (.int v3)], [.int v, .int (I 1 v3.toNatClampNeg), .ref a2]) h1 Q) (fun x h1 => Q (.inr x) h1))) :
    xG d zm_ImageReader_takeSmall (24, [some (.ref r0), some (.ref r1), some (.int v2), some (.int v3)], []) (sh, I, J) Q := by
  obtain rfl := e0.eq
  obtain rfl := e1.eq
  obtain rfl := e2.eq
  exact xG_N 8 (ps := [xRf sh r0 6 2, xRf sh (xrf sh r0 2) 3 0, xA sh 1 .int, vp_in v3 (xlen sh 1)]) (f1 := (38, [some (.ref r0), some (.ref r1), some (.int v2), some (.int v3)], [.int (3 : Int32), .ref r1, .int (I 1 v3.toNatClampNeg), .ref (xrf sh (xrf sh r0 2) 0)])) (h1 := (sh, I, J)) rfl ⟨e0.rf, e1.rf, e2.ar, e3⟩ (xG_Ci rfl rfl (Nat.le_of_ble_eq_true rfl) (Nat.le_of_ble_eq_true rfl) ⟨_, _, rfl, ko⟩ rfl k)
set_option maxRecDepth 100000 in
theorem s_ImageReader_takeSmall_41 {d : Nat} {Q : xO → xH → Prop} {sh : List xS} {I : Nat → Nat → Int32} {J : Nat → Nat → Int64} {r0 : Nat} {r1 : Nat} {v2 : Int32} {v3 : Int32} {t0 : Nat} {t1 : Int32} {t2 : Int32} {n1 : Nat}
    (e0 : xAr sh t0 .int n1)
    (e1 : 4 ≤ t0)
    (e2 : vp_in t1 n1)
    (k : xG d zm_ImageReader_takeSmall (19, [some (.ref r0), some (.ref r1), some (.int v2), some (.int (v3 + (1 : Int32)))], []) (sh, xup I t0 t1.toNatClampNeg t2, J) Q) :
    xG d zm_ImageReader_takeSmall (41, [some (.ref r0), some (.ref r1), some (.int v2), some (.int v3)], [.int t2, .int t1, .ref t0]) (sh, I, J) Q := by
  obtain rfl := e0.eq
  exact xG_N 3 (ps := [xW sh t0 .int, vp_in t1 (xlen sh t0)]) (f1 := (19, [some (.ref r0), some (.ref r1), some (.int v2), some (.int (v3 + (1 : Int32)))], [])) (h1 := (sh, xup I t0 t1.toNatClampNeg t2, J)) rfl ⟨⟨e0.ar, e1⟩, e2⟩ (k)
set_option maxRecDepth 100000 in
theorem s_ImageReader_takeSmall_48 {d : Nat} {Q : xO → xH → Prop} {sh : List xS} {I : Nat → Nat → Int32} {J : Nat → Nat → Int64} {r0 : Nat} {r1 : Nat} {v2 : Int32} {v3 : Int32} {a1 : Nat}
    (e0 : xRr sh r0 6 2 a1)
    (ko : xOb sh a1 3)
    (k : xg d qCode_arrange [.ref a1] (sh, I, J) (xI (fun v h1 => xG d zm_ImageReader_takeSmall (55, [some (.ref r0), some (.ref r1), some (.int v2), some (.int v3)], [.int v]) h1 Q) (fun x h1 => Q (.inr x) h1))) :
    xG d zm_ImageReader_takeSmall (48, [some (.ref r0), some (.ref r1), some (.int v2), some (.int v3)], []) (sh, I, J) Q := by
  obtain rfl := e0.eq
  exact xG_N 2 (ps := [xRf sh r0 6 2]) (f1 := (52, [some (.ref r0), some (.ref r1), some (.int v2), some (.int v3)], [.ref (xrf sh r0 2)])) (h1 := (sh, I, J)) rfl e0.rf (xG_Ci rfl rfl (Nat.le_of_ble_eq_true rfl) (Nat.le_of_ble_eq_true rfl) ⟨_, _, rfl, ko⟩ rfl k)
set_option maxRecDepth 100000 in
theorem s_ImageReader_takeSmall_55 {d : Nat} {Q : xO → xH → Prop} {sh : List xS} {I : Nat → Nat → Int32} {J : Nat → Nat → Int64} {r0 : Nat} {r1 : Nat} {v2 : Int32} {v3 : Int32} {t0 : Int32}
    (k1 : ¬ t0 = 0 → xG d zm_ImageReader_takeSmall (68, [some (.ref r0), some (.ref r1), some (.int v2), some (.int v3)], []) (sh, I, J) Q)
    (k2 : ¬ (¬ t0 = 0) → xG d zm_ImageReader_takeSmall (58, [some (.ref r0), some (.ref r1), some (.int v2), some (.int v3)], []) (sh, I, J) Q) :
    xG d zm_ImageReader_takeSmall (55, [some (.ref r0), some (.ref r1), some (.int v2), some (.int v3)], [.int t0]) (sh, I, J) Q := by
  exact xG_B rfl rfl k1 k2
set_option maxRecDepth 100000 in
theorem s_ImageReader_takeSmall_58 {d : Nat} {Q : xO → xH → Prop} {sh : List xS} {I : Nat → Nat → Int32} {J : Nat → Nat → Int64} {r0 : Nat} {r1 : Nat} {v2 : Int32} {v3 : Int32}
    (k : Q (.inr sh.length) (sh ++ [.inr (100, [])], I, J)) :
    xG d zm_ImageReader_takeSmall (58, [some (.ref r0), some (.ref r1), some (.int v2), some (.int v3)], []) (sh, I, J) Q := by
  exact xG_T rfl rfl rfl (Nat.le_of_ble_eq_true rfl) k
set_option maxRecDepth 100000 in
theorem s_ImageReader_takeSmall_68 {d : Nat} {Q : xO → xH → Prop} {sh : List xS} {I : Nat → Nat → Int32} {J : Nat → Nat → Int64} {r0 : Nat} {r1 : Nat} {v2 : Int32} {v3 : Int32}
    (k : Q (.inl (none)) (sh, I, J)) :
    xG d zm_ImageReader_takeSmall (68, [some (.ref r0), some (.ref r1), some (.int v2), some (.int v3)], []) (sh, I, J) Q := by
  exact xG_Q rfl rfl trivial k
set_option maxRecDepth 100000 in
theorem s_ImageReader_takeLengths_0 {d : Nat} {Q : xO → xH → Prop} {sh : List xS} {I : Nat → Nat → Int32} {J : Nat → Nat → Int64} {r0 : Nat} {r1 : Nat} {r2 : Nat}
    (k : xG d zm_ImageReader_takeLengths (9, [some (.ref r0), some (.ref r1), some (.ref r2), some (.int (8 : Int32)), some (.int (0 : Int32)), some (.int (0 : Int32)), none, none, none], []) (sh, I, J) Q) :
    xG d zm_ImageReader_takeLengths (0, [some (.ref r0), some (.ref r1), some (.ref r2), none, none, none, none, none, none], []) (sh, I, J) Q := by
  exact xG_N 6 (ps := []) (f1 := (9, [some (.ref r0), some (.ref r1), some (.ref r2), some (.int (8 : Int32)), some (.int (0 : Int32)), some (.int (0 : Int32)), none, none, none], [])) (h1 := (sh, I, J)) rfl trivial (k)
set_option maxRecDepth 100000 in
theorem s_ImageReader_takeLengths_9 {d : Nat} {Q : xO → xH → Prop} {sh : List xS} {I : Nat → Nat → Int32} {J : Nat → Nat → Int64} {r0 : Nat} {r1 : Nat} {r2 : Nat} {v3 : Int32} {v4 : Int32} {v5 : Int32} {o6 : Option Value} {o7 : Option Value} {o8 : Option Value}
    (e0 : xOb sh r2 3)
    (k1 : (I r2 6) ≤ v5 → xG d zm_ImageReader_takeLengths (134, [some (.ref r0), some (.ref r1), some (.ref r2), some (.int v3), some (.int v4), some (.int v5), o6, o7, o8], []) (sh, I, J) Q)
    (k2 : ¬ ((I r2 6) ≤ v5) → xG d zm_ImageReader_takeLengths (18, [some (.ref r0), some (.ref r1), some (.ref r2), some (.int v3), some (.int v4), some (.int v5), o6, o7, o8], []) (sh, I, J) Q) :
    xG d zm_ImageReader_takeLengths (9, [some (.ref r0), some (.ref r1), some (.ref r2), some (.int v3), some (.int v4), some (.int v5), o6, o7, o8], []) (sh, I, J) Q := by
  exact xG_N 3 (ps := [xOb sh r2 3]) (f1 := (15, [some (.ref r0), some (.ref r1), some (.ref r2), some (.int v3), some (.int v4), some (.int v5), o6, o7, o8], [.int (I r2 6), .int v5])) (h1 := (sh, I, J)) rfl e0 (xG_B rfl rfl k1 k2)
set_option maxRecDepth 100000 in
theorem s_ImageReader_takeLengths_18 {d : Nat} {Q : xO → xH → Prop} {sh : List xS} {I : Nat → Nat → Int32} {J : Nat → Nat → Int64} {r0 : Nat} {r1 : Nat} {r2 : Nat} {v3 : Int32} {v4 : Int32} {v5 : Int32} {o6 : Option Value} {o7 : Option Value} {o8 : Option Value}
    (e0 : xOb sh r2 3)
    (k1 : (I r2 6) ≤ v4 → xG d zm_ImageReader_takeLengths (134, [some (.ref r0), some (.ref r1), some (.ref r2), some (.int v3), some (.int v4), some (.int v5), o6, o7, o8], []) (sh, I, J) Q)
    (k2 : ¬ ((I r2 6) ≤ v4) → xG d zm_ImageReader_takeLengths (27, [some (.ref r0), some (.ref r1), some (.ref r2), some (.int v3), some (.int v4), some (.int v5), o6, o7, o8], []) (sh, I, J) Q) :
    xG d zm_ImageReader_takeLengths (18, [some (.ref r0), some (.ref r1), some (.ref r2), some (.int v3), some (.int v4), some (.int v5), o6, o7, o8], []) (sh, I, J) Q := by
  exact xG_N 3 (ps := [xOb sh r2 3]) (f1 := (24, [some (.ref r0), some (.ref r1), some (.ref r2), some (.int v3), some (.int v4), some (.int v5), o6, o7, o8], [.int (I r2 6), .int v4])) (h1 := (sh, I, J)) rfl e0 (xG_B rfl rfl k1 k2)
set_option maxRecDepth 100000 in
theorem s_ImageReader_takeLengths_27 {d : Nat} {Q : xO → xH → Prop} {sh : List xS} {I : Nat → Nat → Int32} {J : Nat → Nat → Int64} {r0 : Nat} {r1 : Nat} {r2 : Nat} {v3 : Int32} {v4 : Int32} {v5 : Int32} {o6 : Option Value} {o7 : Option Value} {o8 : Option Value} {a1 : Nat}
    (e0 : xRr sh r0 6 2 a1)
    (ko : xOb sh a1 3)
    (k : xg d qCode_hear [.ref a1, .ref r1] (sh, I, J) (xI (fun v h1 => xG d zm_ImageReader_takeLengths (35, [some (.ref r0), some (.ref r1), some (.ref r2), some (.int v3), some (.int v4), some (.int v5), o6, o7, o8], [.int v]) h1 Q) (fun x h1 => Q (.inr x) h1))) :
    xG d zm_ImageReader_takeLengths (27, [some (.ref r0), some (.ref r1), some (.ref r2), some (.int v3), some (.int v4), some (.int v5), o6, o7, o8], []) (sh, I, J) Q := by
  obtain rfl := e0.eq
  exact xG_N 3 (ps := [xRf sh r0 6 2]) (f1 := (32, [some (.ref r0), some (.ref r1), some (.ref r2), some (.int v3), some (.int v4), some (.int v5), o6, o7, o8], [.ref r1, .ref (xrf sh r0 2)])) (h1 := (sh, I, J)) rfl e0.rf (xG_Ci rfl rfl (Nat.le_of_ble_eq_true rfl) (Nat.le_of_ble_eq_true rfl) ⟨_, _, rfl, ko⟩ rfl k)
set_option maxRecDepth 100000 in
theorem s_ImageReader_takeLengths_35 {d : Nat} {Q : xO → xH → Prop} {sh : List xS} {I : Nat → Nat → Int32} {J : Nat → Nat → Int64} {r0 : Nat} {r1 : Nat} {r2 : Nat} {v3 : Int32} {v4 : Int32} {v5 : Int32} {o6 : Option Value} {o7 : Option Value} {o8 : Option Value} {t0 : Int32}
    (k1 : (16 : Int32) ≤ t0 → xG d zm_ImageReader_takeLengths (49, [some (.ref r0), some (.ref r1), some (.ref r2), some (.int v3), some (.int v4), some (.int v5), some (.int t0), o7, o8], []) (sh, I, J) Q)
    (k2 : ¬ ((16 : Int32) ≤ t0) → xG d zm_ImageReader_takeLengths (44, [some (.ref r0), some (.ref r1), some (.ref r2), some (.int v3), some (.int v4), some (.int v5), some (.int t0), o7, o8], []) (sh, I, J) Q) :
    xG d zm_ImageReader_takeLengths (35, [some (.ref r0), some (.ref r1), some (.ref r2), some (.int v3), some (.int v4), some (.int v5), o6, o7, o8], [.int t0]) (sh, I, J) Q := by
  exact xG_N 3 (ps := []) (f1 := (41, [some (.ref r0), some (.ref r1), some (.ref r2), some (.int v3), some (.int v4), some (.int v5), some (.int t0), o7, o8], [.int (16 : Int32), .int t0])) (h1 := (sh, I, J)) rfl trivial (xG_B rfl rfl k1 k2)
set_option maxRecDepth 100000 in
theorem s_ImageReader_takeLengths_44 {d : Nat} {Q : xO → xH → Prop} {sh : List xS} {I : Nat → Nat → Int32} {J : Nat → Nat → Int64} {r0 : Nat} {r1 : Nat} {r2 : Nat} {v3 : Int32} {v4 : Int32} {v5 : Int32} {v6 : Int32} {o7 : Option Value} {o8 : Option Value}
    (k : xg d qImageReader_takeTimes [.ref r1, .int v6] (sh, I, J) (xI (fun v h1 => xG d zm_ImageReader_takeLengths (69, [some (.ref r0), some (.ref r1), some (.ref r2), some (.int v3), some (.int v4), some (.int v5), some (.int v6), some (.int v6), o8], [.int v]) h1 Q) (fun x h1 => Q (.inr x) h1))) :
    xG d zm_ImageReader_takeLengths (44, [some (.ref r0), some (.ref r1), some (.ref r2), some (.int v3), some (.int v4), some (.int v5), some (.int v6), o7, o8], []) (sh, I, J) Q := by
  exact xG_N 5 (ps := []) (f1 := (66, [some (.ref r0), some (.ref r1), some (.ref r2), some (.int v3), some (.int v4), some (.int v5), some (.int v6), some (.int v6), o8], [.int v6, .ref r1])) (h1 := (sh, I, J)) rfl trivial (xG_Ci rfl rfl (Nat.le_of_ble_eq_true rfl) (Nat.le_of_ble_eq_true rfl) trivial rfl k)
set_option maxRecDepth 100000 in
theorem s_ImageReader_takeLengths_49 {d : Nat} {Q : xO → xH → Prop} {sh : List xS} {I : Nat → Nat → Int32} {J : Nat → Nat → Int64} {r0 : Nat} {r1 : Nat} {r2 : Nat} {v3 : Int32} {v4 : Int32} {v5 : Int32} {v6 : Int32} {o7 : Option Value} {o8 : Option Value}
    (k1 : ¬ v6 = (16 : Int32) → xG d zm_ImageReader_takeLengths (60, [some (.ref r0), some (.ref r1), some (.ref r2), some (.int v3), some (.int v4), some (.int v5), some (.int v6), o7, o8], []) (sh, I, J) Q)
    (k2 : ¬ (¬ v6 = (16 : Int32)) → xG d zm_ImageReader_takeLengths (56, [some (.ref r0), some (.ref r1), some (.ref r2), some (.int v3), some (.int v4), some (.int v5), some (.int v6), o7, o8], []) (sh, I, J) Q) :
    xG d zm_ImageReader_takeLengths (49, [some (.ref r0), some (.ref r1), some (.ref r2), some (.int v3), some (.int v4), some (.int v5), some (.int v6), o7, o8], []) (sh, I, J) Q := by
  exact xG_N 2 (ps := []) (f1 := (53, [some (.ref r0), some (.ref r1), some (.ref r2), some (.int v3), some (.int v4), some (.int v5), some (.int v6), o7, o8], [.int (16 : Int32), .int v6])) (h1 := (sh, I, J)) rfl trivial (xG_B rfl rfl k1 k2)
set_option maxRecDepth 100000 in
theorem s_ImageReader_takeLengths_56 {d : Nat} {Q : xO → xH → Prop} {sh : List xS} {I : Nat → Nat → Int32} {J : Nat → Nat → Int64} {r0 : Nat} {r1 : Nat} {r2 : Nat} {v3 : Int32} {v4 : Int32} {v5 : Int32} {v6 : Int32} {o7 : Option Value} {o8 : Option Value}
    (k : xg d qImageReader_takeTimes [.ref r1, .int v6] (sh, I, J) (xI (fun v h1 => xG d zm_ImageReader_takeLengths (69, [some (.ref r0), some (.ref r1), some (.ref r2), some (.int v3), some (.int v4), some (.int v5), some (.int v6), some (.int v3), o8], [.int v]) h1 Q) (fun x h1 => Q (.inr x) h1))) :
    xG d zm_ImageReader_takeLengths (56, [some (.ref r0), some (.ref r1), some (.ref r2), some (.int v3), some (.int v4), some (.int v5), some (.int v6), o7, o8], []) (sh, I, J) Q := by
  exact xG_N 5 (ps := []) (f1 := (66, [some (.ref r0), some (.ref r1), some (.ref r2), some (.int v3), some (.int v4), some (.int v5), some (.int v6), some (.int v3), o8], [.int v6, .ref r1])) (h1 := (sh, I, J)) rfl trivial (xG_Ci rfl rfl (Nat.le_of_ble_eq_true rfl) (Nat.le_of_ble_eq_true rfl) trivial rfl k)
set_option maxRecDepth 100000 in
theorem s_ImageReader_takeLengths_60 {d : Nat} {Q : xO → xH → Prop} {sh : List xS} {I : Nat → Nat → Int32} {J : Nat → Nat → Int64} {r0 : Nat} {r1 : Nat} {r2 : Nat} {v3 : Int32} {v4 : Int32} {v5 : Int32} {v6 : Int32} {o7 : Option Value} {o8 : Option Value}
    (k : xg d qImageReader_takeTimes [.ref r1, .int v6] (sh, I, J) (xI (fun v h1 => xG d zm_ImageReader_takeLengths (69, [some (.ref r0), some (.ref r1), some (.ref r2), some (.int v3), some (.int v4), some (.int v5), some (.int v6), some (.int (0 : Int32)), o8], [.int v]) h1 Q) (fun x h1 => Q (.inr x) h1))) :
    xG d zm_ImageReader_takeLengths (60, [some (.ref r0), some (.ref r1), some (.ref r2), some (.int v3), some (.int v4), some (.int v5), some (.int v6), o7, o8], []) (sh, I, J) Q := by
  exact xG_N 4 (ps := []) (f1 := (66, [some (.ref r0), some (.ref r1), some (.ref r2), some (.int v3), some (.int v4), some (.int v5), some (.int v6), some (.int (0 : Int32)), o8], [.int v6, .ref r1])) (h1 := (sh, I, J)) rfl trivial (xG_Ci rfl rfl (Nat.le_of_ble_eq_true rfl) (Nat.le_of_ble_eq_true rfl) trivial rfl k)
set_option maxRecDepth 100000 in
theorem s_ImageReader_takeLengths_69 {d : Nat} {Q : xO → xH → Prop} {sh : List xS} {I : Nat → Nat → Int32} {J : Nat → Nat → Int64} {r0 : Nat} {r1 : Nat} {r2 : Nat} {v3 : Int32} {v4 : Int32} {v5 : Int32} {v6 : Int32} {v7 : Int32} {o8 : Option Value} {t0 : Int32}
    (e0 : xOb sh r2 3)
    (k1 : t0 ≤ ((I r2 6) - v4) → xG d zm_ImageReader_takeLengths (93, [some (.ref r0), some (.ref r1), some (.ref r2), some (.int v3), some (.int v4), some (.int v5), some (.int v6), some (.int v7), some (.int t0)], []) (sh, I, J) Q)
    (k2 : ¬ (t0 ≤ ((I r2 6) - v4)) → xG d zm_ImageReader_takeLengths (83, [some (.ref r0), some (.ref r1), some (.ref r2), some (.int v3), some (.int v4), some (.int v5), some (.int v6), some (.int v7), some (.int t0)], []) (sh, I, J) Q) :
    xG d zm_ImageReader_takeLengths (69, [some (.ref r0), some (.ref r1), some (.ref r2), some (.int v3), some (.int v4), some (.int v5), some (.int v6), some (.int v7), o8], [.int t0]) (sh, I, J) Q := by
  exact xG_N 6 (ps := [xOb sh r2 3]) (f1 := (80, [some (.ref r0), some (.ref r1), some (.ref r2), some (.int v3), some (.int v4), some (.int v5), some (.int v6), some (.int v7), some (.int t0)], [.int ((I r2 6) - v4), .int t0])) (h1 := (sh, I, J)) rfl e0 (xG_B rfl rfl k1 k2)
set_option maxRecDepth 100000 in
theorem s_ImageReader_takeLengths_83 {d : Nat} {Q : xO → xH → Prop} {sh : List xS} {I : Nat → Nat → Int32} {J : Nat → Nat → Int64} {r0 : Nat} {r1 : Nat} {r2 : Nat} {v3 : Int32} {v4 : Int32} {v5 : Int32} {v6 : Int32} {v7 : Int32} {v8 : Int32}
    (k : Q (.inr sh.length) (sh ++ [.inr (100, [])], I, J)) :
    xG d zm_ImageReader_takeLengths (83, [some (.ref r0), some (.ref r1), some (.ref r2), some (.int v3), some (.int v4), some (.int v5), some (.int v6), some (.int v7), some (.int v8)], []) (sh, I, J) Q := by
  exact xG_T rfl rfl rfl (Nat.le_of_ble_eq_true rfl) k
set_option maxRecDepth 100000 in
theorem s_ImageReader_takeLengths_93 {d : Nat} {Q : xO → xH → Prop} {sh : List xS} {I : Nat → Nat → Int32} {J : Nat → Nat → Int64} {r0 : Nat} {r1 : Nat} {r2 : Nat} {v3 : Int32} {v4 : Int32} {v5 : Int32} {v6 : Int32} {v7 : Int32} {v8 : Int32} {a1 : Nat}
    (e0 : xRr sh r2 3 0 a1)
    (k : xg d qA_fill2 [.ref a1, .int v4, .int (v4 + v8), .int v7] (sh, I, J) (xU (fun h1 => xG d zm_ImageReader_takeLengths (109, [some (.ref r0), some (.ref r1), some (.ref r2), some (.int v3), some (.int v4), some (.int v5), some (.int v6), some (.int v7), some (.int v8)], []) h1 Q) (fun x h1 => Q (.inr x) h1))) :
    xG d zm_ImageReader_takeLengths (93, [some (.ref r0), some (.ref r1), some (.ref r2), some (.int v3), some (.int v4), some (.int v5), some (.int v6), some (.int v7), some (.int v8)], []) (sh, I, J) Q := by
  obtain rfl := e0.eq
  exact xG_N 7 (ps := [xRf sh r2 3 0]) (f1 := (106, [some (.ref r0), some (.ref r1), some (.ref r2), some (.int v3), some (.int v4), some (.int v5), some (.int v6), some (.int v7), some (.int v8)], [.int v7, .int (v4 + v8), .int v4, .ref (xrf sh r2 0)])) (h1 := (sh, I, J)) rfl e0.rf (xG_Cu rfl rfl (Nat.le_of_ble_eq_true rfl) (Nat.le_of_ble_eq_true rfl) trivial rfl k)
set_option maxRecDepth 100000 in
theorem s_ImageReader_takeLengths_109 {d : Nat} {Q : xO → xH → Prop} {sh : List xS} {I : Nat → Nat → Int32} {J : Nat → Nat → Int64} {r0 : Nat} {r1 : Nat} {r2 : Nat} {v3 : Int32} {v4 : Int32} {v5 : Int32} {v6 : Int32} {v7 : Int32} {v8 : Int32}
    (k1 : v7 ≤ 0 → xG d zm_ImageReader_takeLengths (126, [some (.ref r0), some (.ref r1), some (.ref r2), some (.int v3), some (.int (v4 + v8)), some (.int v5), some (.int v6), some (.int v7), some (.int v8)], []) (sh, I, J) Q)
    (k2 : ¬ (v7 ≤ 0) → xG d zm_ImageReader_takeLengths (121, [some (.ref r0), some (.ref r1), some (.ref r2), some (.int v3), some (.int (v4 + v8)), some (.int v5), some (.int v6), some (.int v7), some (.int v8)], []) (sh, I, J) Q) :
    xG d zm_ImageReader_takeLengths (109, [some (.ref r0), some (.ref r1), some (.ref r2), some (.int v3), some (.int v4), some (.int v5), some (.int v6), some (.int v7), some (.int v8)], []) (sh, I, J) Q := by
  exact xG_N 5 (ps := []) (f1 := (118, [some (.ref r0), some (.ref r1), some (.ref r2), some (.int v3), some (.int (v4 + v8)), some (.int v5), some (.int v6), some (.int v7), some (.int v8)], [.int v7])) (h1 := (sh, I, J)) rfl trivial (xG_B rfl rfl k1 k2)
set_option maxRecDepth 100000 in
theorem s_ImageReader_takeLengths_121 {d : Nat} {Q : xO → xH → Prop} {sh : List xS} {I : Nat → Nat → Int32} {J : Nat → Nat → Int64} {r0 : Nat} {r1 : Nat} {r2 : Nat} {v3 : Int32} {v4 : Int32} {v5 : Int32} {v6 : Int32} {v7 : Int32} {v8 : Int32}
    (k : xG d zm_ImageReader_takeLengths (9, [some (.ref r0), some (.ref r1), some (.ref r2), some (.int v7), some (.int v4), some (.int (v5 + (1 : Int32))), some (.int v6), some (.int v7), some (.int v8)], []) (sh, I, J) Q) :
    xG d zm_ImageReader_takeLengths (121, [some (.ref r0), some (.ref r1), some (.ref r2), some (.int v3), some (.int v4), some (.int v5), some (.int v6), some (.int v7), some (.int v8)], []) (sh, I, J) Q := by
  exact xG_N 5 (ps := []) (f1 := (9, [some (.ref r0), some (.ref r1), some (.ref r2), some (.int v7), some (.int v4), some (.int (v5 + (1 : Int32))), some (.int v6), some (.int v7), some (.int v8)], [])) (h1 := (sh, I, J)) rfl trivial (k)
set_option maxRecDepth 100000 in
theorem s_ImageReader_takeLengths_126 {d : Nat} {Q : xO → xH → Prop} {sh : List xS} {I : Nat → Nat → Int32} {J : Nat → Nat → Int64} {r0 : Nat} {r1 : Nat} {r2 : Nat} {v3 : Int32} {v4 : Int32} {v5 : Int32} {v6 : Int32} {v7 : Int32} {v8 : Int32}
    (k : xG d zm_ImageReader_takeLengths (9, [some (.ref r0), some (.ref r1), some (.ref r2), some (.int v3), some (.int v4), some (.int (v5 + (1 : Int32))), some (.int v6), some (.int v7), some (.int v8)], []) (sh, I, J) Q) :
    xG d zm_ImageReader_takeLengths (126, [some (.ref r0), some (.ref r1), some (.ref r2), some (.int v3), some (.int v4), some (.int v5), some (.int v6), some (.int v7), some (.int v8)], []) (sh, I, J) Q := by
  exact xG_N 4 (ps := []) (f1 := (9, [some (.ref r0), some (.ref r1), some (.ref r2), some (.int v3), some (.int v4), some (.int (v5 + (1 : Int32))), some (.int v6), some (.int v7), some (.int v8)], [])) (h1 := (sh, I, J)) rfl trivial (k)
set_option maxRecDepth 100000 in
theorem s_ImageReader_takeLengths_134 {d : Nat} {Q : xO → xH → Prop} {sh : List xS} {I : Nat → Nat → Int32} {J : Nat → Nat → Int64} {r0 : Nat} {r1 : Nat} {r2 : Nat} {v3 : Int32} {v4 : Int32} {v5 : Int32} {o6 : Option Value} {o7 : Option Value} {o8 : Option Value}
    (k : Q (.inl (none)) (sh, I, J)) :
    xG d zm_ImageReader_takeLengths (134, [some (.ref r0), some (.ref r1), some (.ref r2), some (.int v3), some (.int v4), some (.int v5), o6, o7, o8], []) (sh, I, J) Q := by
  exact xG_Q rfl rfl trivial k
set_option maxRecDepth 100000 in
theorem s_ImageReader_takeTimes_0 {d : Nat} {Q : xO → xH → Prop} {sh : List xS} {I : Nat → Nat → Int32} {J : Nat → Nat → Int64} {r0 : Nat} {v1 : Int32}
    (k0 : v1 = (16 : Int32) → xG d zm_ImageReader_takeTimes (28, [some (.ref r0), some (.int v1)], []) (sh, I, J) Q)
    (k1 : v1 = (17 : Int32) → xG d zm_ImageReader_takeTimes (36, [some (.ref r0), some (.int v1)], []) (sh, I, J) Q)
    (k2 : v1 = (18 : Int32) → xG d zm_ImageReader_takeTimes (44, [some (.ref r0), some (.int v1)], []) (sh, I, J) Q)
    (kd : (v1.toInt < 16 ∨ 18 < v1.toInt) → xG d zm_ImageReader_takeTimes (54, [some (.ref r0), some (.int v1)], []) (sh, I, J) Q) :
    xG d zm_ImageReader_takeTimes (0, [some (.ref r0), some (.int v1)], []) (sh, I, J) Q := by
  have key : ∀ x : Int32, (x = (16 : Int32) → xG d zm_ImageReader_takeTimes (28, [some (.ref r0), some (.int v1)], []) (sh, I, J) Q) → (x = (17 : Int32) → xG d zm_ImageReader_takeTimes (36, [some (.ref r0), some (.int v1)], []) (sh, I, J) Q) → (x = (18 : Int32) → xG d zm_ImageReader_takeTimes (44, [some (.ref r0), some (.int v1)], []) (sh, I, J) Q) → ((x.toInt < 16 ∨ 18 < x.toInt) → xG d zm_ImageReader_takeTimes (54, [some (.ref r0), some (.int v1)], []) (sh, I, J) Q) → xG d zm_ImageReader_takeTimes (1, [some (.ref r0), some (.int v1)], [.int x]) (sh, I, J) Q := by
    intro x k0 k1 k2 kd
    by_cases hx : x.toInt < 16 ∨ 18 < x.toInt
    · exact xG_S (t := 54) rfl (Or.elim hx Or.inl (fun h => Or.inr (Or.inl h))) (by unfold xsw; rw [if_pos hx]; rfl) (kd hx)
    · have hc : x.toInt = 16 ∨ x.toInt = 17 ∨ x.toInt = 18 := by omega
      rcases hc with hc | hc | hc
      · obtain rfl : x = (16 : Int32) := Int32.toInt_inj.mp (by rw [hc]; rfl)
        exact xG_S (t := 28) rfl (by decide) (by decide) (k0 rfl)
      · obtain rfl : x = (17 : Int32) := Int32.toInt_inj.mp (by rw [hc]; rfl)
        exact xG_S (t := 36) rfl (by decide) (by decide) (k1 rfl)
      · obtain rfl : x = (18 : Int32) := Int32.toInt_inj.mp (by rw [hc]; rfl)
        exact xG_S (t := 44) rfl (by decide) (by decide) (k2 rfl)
  exact xG_N 1 (ps := []) (f1 := (1, [some (.ref r0), some (.int v1)], [.int v1])) (h1 := (sh, I, J)) rfl trivial (key _ k0 k1 k2 kd)
set_option maxRecDepth 100000 in
theorem s_ImageReader_takeTimes_28 {d : Nat} {Q : xO → xH → Prop} {sh : List xS} {I : Nat → Nat → Int32} {J : Nat → Nat → Int64} {r0 : Nat} {v1 : Int32}
    (ko : xOb sh r0 1)
    (k : xg d qBits_number [.ref r0, .int (2 : Int32)] (sh, I, J) (xI (fun v h1 => xG d zm_ImageReader_takeTimes (34, [some (.ref r0), some (.int v1)], [.int v, .int (3 : Int32)]) h1 Q) (fun x h1 => Q (.inr x) h1))) :
    xG d zm_ImageReader_takeTimes (28, [some (.ref r0), some (.int v1)], []) (sh, I, J) Q := by
  exact xG_N 3 (ps := []) (f1 := (31, [some (.ref r0), some (.int v1)], [.int (2 : Int32), .ref r0, .int (3 : Int32)])) (h1 := (sh, I, J)) rfl trivial (xG_Ci rfl rfl (Nat.le_of_ble_eq_true rfl) (Nat.le_of_ble_eq_true rfl) ⟨_, _, rfl, ko⟩ rfl k)
set_option maxRecDepth 100000 in
theorem s_ImageReader_takeTimes_34 {d : Nat} {Q : xO → xH → Prop} {sh : List xS} {I : Nat → Nat → Int32} {J : Nat → Nat → Int64} {r0 : Nat} {v1 : Int32} {t0 : Int32} {t1 : Int32}
    (k : Q (.inl (some (.int (t0 + t1)))) (sh, I, J)) :
    xG d zm_ImageReader_takeTimes (34, [some (.ref r0), some (.int v1)], [.int t1, .int t0]) (sh, I, J) Q := by
  exact xG_N 1 (ps := []) (f1 := (35, [some (.ref r0), some (.int v1)], [.int (t0 + t1)])) (h1 := (sh, I, J)) rfl trivial (xG_Q rfl rfl trivial k)
set_option maxRecDepth 100000 in
theorem s_ImageReader_takeTimes_36 {d : Nat} {Q : xO → xH → Prop} {sh : List xS} {I : Nat → Nat → Int32} {J : Nat → Nat → Int64} {r0 : Nat} {v1 : Int32}
    (ko : xOb sh r0 1)
    (k : xg d qBits_number [.ref r0, .int (3 : Int32)] (sh, I, J) (xI (fun v h1 => xG d zm_ImageReader_takeTimes (42, [some (.ref r0), some (.int v1)], [.int v, .int (3 : Int32)]) h1 Q) (fun x h1 => Q (.inr x) h1))) :
    xG d zm_ImageReader_takeTimes (36, [some (.ref r0), some (.int v1)], []) (sh, I, J) Q := by
  exact xG_N 3 (ps := []) (f1 := (39, [some (.ref r0), some (.int v1)], [.int (3 : Int32), .ref r0, .int (3 : Int32)])) (h1 := (sh, I, J)) rfl trivial (xG_Ci rfl rfl (Nat.le_of_ble_eq_true rfl) (Nat.le_of_ble_eq_true rfl) ⟨_, _, rfl, ko⟩ rfl k)
set_option maxRecDepth 100000 in
theorem s_ImageReader_takeTimes_42 {d : Nat} {Q : xO → xH → Prop} {sh : List xS} {I : Nat → Nat → Int32} {J : Nat → Nat → Int64} {r0 : Nat} {v1 : Int32} {t0 : Int32} {t1 : Int32}
    (k : Q (.inl (some (.int (t0 + t1)))) (sh, I, J)) :
    xG d zm_ImageReader_takeTimes (42, [some (.ref r0), some (.int v1)], [.int t1, .int t0]) (sh, I, J) Q := by
  exact xG_N 1 (ps := []) (f1 := (43, [some (.ref r0), some (.int v1)], [.int (t0 + t1)])) (h1 := (sh, I, J)) rfl trivial (xG_Q rfl rfl trivial k)
set_option maxRecDepth 100000 in
theorem s_ImageReader_takeTimes_44 {d : Nat} {Q : xO → xH → Prop} {sh : List xS} {I : Nat → Nat → Int32} {J : Nat → Nat → Int64} {r0 : Nat} {v1 : Int32}
    (ko : xOb sh r0 1)
    (k : xg d qBits_number [.ref r0, .int (7 : Int32)] (sh, I, J) (xI (fun v h1 => xG d zm_ImageReader_takeTimes (52, [some (.ref r0), some (.int v1)], [.int v, .int (11 : Int32)]) h1 Q) (fun x h1 => Q (.inr x) h1))) :
    xG d zm_ImageReader_takeTimes (44, [some (.ref r0), some (.int v1)], []) (sh, I, J) Q := by
  exact xG_N 3 (ps := []) (f1 := (49, [some (.ref r0), some (.int v1)], [.int (7 : Int32), .ref r0, .int (11 : Int32)])) (h1 := (sh, I, J)) rfl trivial (xG_Ci rfl rfl (Nat.le_of_ble_eq_true rfl) (Nat.le_of_ble_eq_true rfl) ⟨_, _, rfl, ko⟩ rfl k)
set_option maxRecDepth 100000 in
theorem s_ImageReader_takeTimes_52 {d : Nat} {Q : xO → xH → Prop} {sh : List xS} {I : Nat → Nat → Int32} {J : Nat → Nat → Int64} {r0 : Nat} {v1 : Int32} {t0 : Int32} {t1 : Int32}
    (k : Q (.inl (some (.int (t0 + t1)))) (sh, I, J)) :
    xG d zm_ImageReader_takeTimes (52, [some (.ref r0), some (.int v1)], [.int t1, .int t0]) (sh, I, J) Q := by
  exact xG_N 1 (ps := []) (f1 := (53, [some (.ref r0), some (.int v1)], [.int (t0 + t1)])) (h1 := (sh, I, J)) rfl trivial (xG_Q rfl rfl trivial k)
set_option maxRecDepth 100000 in
theorem s_ImageReader_takeTimes_54 {d : Nat} {Q : xO → xH → Prop} {sh : List xS} {I : Nat → Nat → Int32} {J : Nat → Nat → Int64} {r0 : Nat} {v1 : Int32}
    (k : Q (.inl (some (.int (1 : Int32)))) (sh, I, J)) :
    xG d zm_ImageReader_takeTimes (54, [some (.ref r0), some (.int v1)], []) (sh, I, J) Q := by
  exact xG_N 1 (ps := []) (f1 := (55, [some (.ref r0), some (.int v1)], [.int (1 : Int32)])) (h1 := (sh, I, J)) rfl trivial (xG_Q rfl rfl trivial k)
