/-! Stretches of code, printed (wip/whole/gen_blocks.py). -/
set_option maxRecDepth 100000 in
theorem s_ImageWriter_init_0 {d : Nat} {Q : xO → xH → Prop} {sh : List xS} {I : Nat → Nat → Int32} {J : Nat → Nat → Int64} {r0 : Nat} {r1 : Nat} {r2 : Nat}
    (k : xG d zm_ImageWriter_init (8, [some (.ref r0), some (.ref r1), some (.ref r2)], [.ref sh.length, .ref r0]) (sh ++ [.inr (4, zdf 4)], xzer I sh.length, xzerL J sh.length) Q) :
    xG d zm_ImageWriter_init (0, [some (.ref r0), some (.ref r1), some (.ref r2)], []) (sh, I, J) Q := by
  exact xG_N 4 (ps := [(([] : List Value).map fun v => v.category).sum ≤ 8]) (f1 := (8, [some (.ref r0), some (.ref r1), some (.ref r2)], [.ref sh.length, .ref r0])) (h1 := (sh ++ [.inr (4, zdf 4)], xzer I sh.length, xzerL J sh.length)) rfl (Nat.le_of_ble_eq_true rfl) (k)
set_option maxRecDepth 100000 in
theorem s_ImageWriter_init_8 {d : Nat} {Q : xO → xH → Prop} {sh : List xS} {I : Nat → Nat → Int32} {J : Nat → Nat → Int64} {r0 : Nat} {r1 : Nat} {r2 : Nat} {t0 : Nat} {t1 : Nat}
    (k : xg d qCodeWriter_init [.ref t1] (sh, I, J) (xU (fun h1 => xG d zm_ImageWriter_init (12, [some (.ref r0), some (.ref r1), some (.ref r2)], [.ref t1, .ref t0]) h1 Q) (fun x h1 => Q (.inr x) h1))) :
    xG d zm_ImageWriter_init (8, [some (.ref r0), some (.ref r1), some (.ref r2)], [.ref t1, .ref t0]) (sh, I, J) Q := by
  exact xG_N 1 (ps := []) (f1 := (9, [some (.ref r0), some (.ref r1), some (.ref r2)], [.ref t1, .ref t1, .ref t0])) (h1 := (sh, I, J)) rfl trivial (xG_Cu rfl rfl (Nat.le_of_ble_eq_true rfl) (Nat.le_of_ble_eq_true rfl) ⟨_, _, rfl⟩ rfl k)
set_option maxRecDepth 100000 in
theorem s_ImageWriter_init_12 {d : Nat} {Q : xO → xH → Prop} {sh : List xS} {I : Nat → Nat → Int32} {J : Nat → Nat → Int64} {r0 : Nat} {r1 : Nat} {r2 : Nat} {t0 : Nat} {t1 : Nat}
    (e0 : xOb sh t0 7)
    (k : xG d zm_ImageWriter_init (21, [some (.ref r0), some (.ref r1), some (.ref r2)], [.ref ((xsr sh t0 2 t1).length), .ref r0]) ((xsr sh t0 2 t1) ++ [.inl (.int, ((256 : Int32) : Int32).toNatClampNeg)], xzer I (xsr sh t0 2 t1).length, xzerL J (xsr sh t0 2 t1).length) Q) :
    xG d zm_ImageWriter_init (12, [some (.ref r0), some (.ref r1), some (.ref r2)], [.ref t1, .ref t0]) (sh, I, J) Q := by
  exact xG_N 4 (ps := [xOb sh t0 7, 2 < (zdf 7).length, ¬ ((256 : Int32) : Int32) < 0, ((256 : Int32) : Int32).toNatClampNeg ≤ 65536, newarray.typeOf .int = .int ∨ newarray.typeOf .int = .boolean ∨ newarray.typeOf .int = .long]) (f1 := (21, [some (.ref r0), some (.ref r1), some (.ref r2)], [.ref ((xsr sh t0 2 t1).length), .ref r0])) (h1 := ((xsr sh t0 2 t1) ++ [.inl (.int, ((256 : Int32) : Int32).toNatClampNeg)], xzer I (xsr sh t0 2 t1).length, xzerL J (xsr sh t0 2 t1).length)) rfl ⟨e0, (show 2 < (zdf 7).length by decide), (show ¬ ((256 : Int32) : Int32) < 0 by decide), (show ((256 : Int32) : Int32).toNatClampNeg ≤ 65536 by decide), Or.inl rfl⟩ (k)
set_option maxRecDepth 100000 in
theorem s_ImageWriter_init_21 {d : Nat} {Q : xO → xH → Prop} {sh : List xS} {I : Nat → Nat → Int32} {J : Nat → Nat → Int64} {r0 : Nat} {r1 : Nat} {r2 : Nat} {t0 : Nat} {t1 : Nat}
    (e0 : xOb sh t0 7)
    (k : xG d zm_ImageWriter_init (30, [some (.ref r0), some (.ref r1), some (.ref r2)], [.ref ((xsr sh t0 3 t1).length), .ref r0]) ((xsr sh t0 3 t1) ++ [.inl (.int, ((256 : Int32) : Int32).toNatClampNeg)], xzer I (xsr sh t0 3 t1).length, xzerL J (xsr sh t0 3 t1).length) Q) :
    xG d zm_ImageWriter_init (21, [some (.ref r0), some (.ref r1), some (.ref r2)], [.ref t1, .ref t0]) (sh, I, J) Q := by
  exact xG_N 4 (ps := [xOb sh t0 7, 3 < (zdf 7).length, ¬ ((256 : Int32) : Int32) < 0, ((256 : Int32) : Int32).toNatClampNeg ≤ 65536, newarray.typeOf .int = .int ∨ newarray.typeOf .int = .boolean ∨ newarray.typeOf .int = .long]) (f1 := (30, [some (.ref r0), some (.ref r1), some (.ref r2)], [.ref ((xsr sh t0 3 t1).length), .ref r0])) (h1 := ((xsr sh t0 3 t1) ++ [.inl (.int, ((256 : Int32) : Int32).toNatClampNeg)], xzer I (xsr sh t0 3 t1).length, xzerL J (xsr sh t0 3 t1).length)) rfl ⟨e0, (show 3 < (zdf 7).length by decide), (show ¬ ((256 : Int32) : Int32) < 0 by decide), (show ((256 : Int32) : Int32).toNatClampNeg ≤ 65536 by decide), Or.inl rfl⟩ (k)
set_option maxRecDepth 100000 in
theorem s_ImageWriter_init_30 {d : Nat} {Q : xO → xH → Prop} {sh : List xS} {I : Nat → Nat → Int32} {J : Nat → Nat → Int64} {r0 : Nat} {r1 : Nat} {r2 : Nat} {t0 : Nat} {t1 : Nat}
    (e0 : xOb sh t0 7)
    (k : xG d zm_ImageWriter_init (39, [some (.ref r0), some (.ref r1), some (.ref r2)], [.ref ((xsr sh t0 4 t1).length), .ref r0]) ((xsr sh t0 4 t1) ++ [.inl (.int, ((256 : Int32) : Int32).toNatClampNeg)], xzer I (xsr sh t0 4 t1).length, xzerL J (xsr sh t0 4 t1).length) Q) :
    xG d zm_ImageWriter_init (30, [some (.ref r0), some (.ref r1), some (.ref r2)], [.ref t1, .ref t0]) (sh, I, J) Q := by
  exact xG_N 4 (ps := [xOb sh t0 7, 4 < (zdf 7).length, ¬ ((256 : Int32) : Int32) < 0, ((256 : Int32) : Int32).toNatClampNeg ≤ 65536, newarray.typeOf .int = .int ∨ newarray.typeOf .int = .boolean ∨ newarray.typeOf .int = .long]) (f1 := (39, [some (.ref r0), some (.ref r1), some (.ref r2)], [.ref ((xsr sh t0 4 t1).length), .ref r0])) (h1 := ((xsr sh t0 4 t1) ++ [.inl (.int, ((256 : Int32) : Int32).toNatClampNeg)], xzer I (xsr sh t0 4 t1).length, xzerL J (xsr sh t0 4 t1).length)) rfl ⟨e0, (show 4 < (zdf 7).length by decide), (show ¬ ((256 : Int32) : Int32) < 0 by decide), (show ((256 : Int32) : Int32).toNatClampNeg ≤ 65536 by decide), Or.inl rfl⟩ (k)
set_option maxRecDepth 100000 in
theorem s_ImageWriter_init_39 {d : Nat} {Q : xO → xH → Prop} {sh : List xS} {I : Nat → Nat → Int32} {J : Nat → Nat → Int64} {r0 : Nat} {r1 : Nat} {r2 : Nat} {t0 : Nat} {t1 : Nat}
    (e0 : xOb sh t0 7)
    (e1 : xOb (xsr sh t0 5 t1) r0 7)
    (e2 : xOb (xsr (xsr sh t0 5 t1) r0 0 r1) r0 7)
    (k : Q (.inl (none)) (xsr (xsr (xsr sh t0 5 t1) r0 0 r1) r0 1 r2, I, J)) :
    xG d zm_ImageWriter_init (39, [some (.ref r0), some (.ref r1), some (.ref r2)], [.ref t1, .ref t0]) (sh, I, J) Q := by
  exact xG_N 7 (ps := [xOb sh t0 7, 5 < (zdf 7).length, xOb (xsr sh t0 5 t1) r0 7, 0 < (zdf 7).length, xOb (xsr (xsr sh t0 5 t1) r0 0 r1) r0 7, 1 < (zdf 7).length]) (f1 := (52, [some (.ref r0), some (.ref r1), some (.ref r2)], [])) (h1 := (xsr (xsr (xsr sh t0 5 t1) r0 0 r1) r0 1 r2, I, J)) rfl ⟨e0, (show 5 < (zdf 7).length by decide), e1, (show 0 < (zdf 7).length by decide), e2, (show 1 < (zdf 7).length by decide)⟩ (xG_Q rfl rfl trivial k)
set_option maxRecDepth 100000 in
theorem s_ImageWriter_say_0 {d : Nat} {Q : xO → xH → Prop} {sh : List xS} {I : Nat → Nat → Int32} {J : Nat → Nat → Int64} {r0 : Nat} {r1 : Nat} {r2 : Nat} {v3 : Int32} {a1 : Nat}
    (e0 : xRr sh r0 7 1 a1)
    (ko : xOb sh a1 2)
    (k : xg d qCache_open [.ref a1, .int v3] (sh, I, J) (xU (fun h1 => xG d zm_ImageWriter_say (8, [some (.ref r0), some (.ref r1), some (.ref r2), some (.int v3), none], []) h1 Q) (fun x h1 => Q (.inr x) h1))) :
    xG d zm_ImageWriter_say (0, [some (.ref r0), some (.ref r1), some (.ref r2), some (.int v3), none], []) (sh, I, J) Q := by
  obtain rfl := e0.eq
  exact xG_N 3 (ps := [xRf sh r0 7 1]) (f1 := (5, [some (.ref r0), some (.ref r1), some (.ref r2), some (.int v3), none], [.int v3, .ref (xrf sh r0 1)])) (h1 := (sh, I, J)) rfl e0.rf (xG_Cu rfl rfl (Nat.le_of_ble_eq_true rfl) (Nat.le_of_ble_eq_true rfl) ⟨_, _, rfl, ko⟩ rfl k)
set_option maxRecDepth 100000 in
theorem s_ImageWriter_say_8 {d : Nat} {Q : xO → xH → Prop} {sh : List xS} {I : Nat → Nat → Int32} {J : Nat → Nat → Int64} {r0 : Nat} {r1 : Nat} {r2 : Nat} {v3 : Int32} {a1 : Nat} {a2 : Nat}
    (e0 : xRr sh r0 7 0 a1)
    (e1 : xRr sh r0 7 1 a2)
    (ko : xOb sh a2 2)
    (k : xg d qCache_colourCount [.ref a2] (sh, I, J) (xI (fun v h1 => xG d zm_ImageWriter_say (19, [some (.ref r0), some (.ref r1), some (.ref r2), some (.int v3), none], [.int v, .ref a1]) h1 Q) (fun x h1 => Q (.inr x) h1))) :
    xG d zm_ImageWriter_say (8, [some (.ref r0), some (.ref r1), some (.ref r2), some (.int v3), none], []) (sh, I, J) Q := by
  obtain rfl := e0.eq
  obtain rfl := e1.eq
  exact xG_N 4 (ps := [xRf sh r0 7 0, xRf sh r0 7 1]) (f1 := (16, [some (.ref r0), some (.ref r1), some (.ref r2), some (.int v3), none], [.ref (xrf sh r0 1), .ref (xrf sh r0 0)])) (h1 := (sh, I, J)) rfl ⟨e0.rf, e1.rf⟩ (xG_Ci rfl rfl (Nat.le_of_ble_eq_true rfl) (Nat.le_of_ble_eq_true rfl) ⟨_, _, rfl, ko⟩ rfl k)
set_option maxRecDepth 100000 in
theorem s_ImageWriter_say_19 {d : Nat} {Q : xO → xH → Prop} {sh : List xS} {I : Nat → Nat → Int32} {J : Nat → Nat → Int64} {r0 : Nat} {r1 : Nat} {r2 : Nat} {v3 : Int32} {t0 : Nat} {t1 : Int32}
    (ko : xOb sh t0 5)
    (k : xg d qCodes_clear [.ref t0, .int t1] (sh, I, J) (xU (fun h1 => xG d zm_ImageWriter_say (22, [some (.ref r0), some (.ref r1), some (.ref r2), some (.int v3), none], []) h1 Q) (fun x h1 => Q (.inr x) h1))) :
    xG d zm_ImageWriter_say (19, [some (.ref r0), some (.ref r1), some (.ref r2), some (.int v3), none], [.int t1, .ref t0]) (sh, I, J) Q := by
  exact xG_Cu rfl rfl (Nat.le_of_ble_eq_true rfl) (Nat.le_of_ble_eq_true rfl) ⟨_, _, rfl, ko⟩ rfl k
set_option maxRecDepth 100000 in
theorem s_ImageWriter_say_22 {d : Nat} {Q : xO → xH → Prop} {sh : List xS} {I : Nat → Nat → Int32} {J : Nat → Nat → Int64} {r0 : Nat} {r1 : Nat} {r2 : Nat} {v3 : Int32}
    (ko : xOb sh r0 7)
    (k : xg d qImageWriter_makeUp [.ref r0, .ref r2] (sh, I, J) (xU (fun h1 => xG d zm_ImageWriter_say (27, [some (.ref r0), some (.ref r1), some (.ref r2), some (.int v3), none], []) h1 Q) (fun x h1 => Q (.inr x) h1))) :
    xG d zm_ImageWriter_say (22, [some (.ref r0), some (.ref r1), some (.ref r2), some (.int v3), none], []) (sh, I, J) Q := by
  exact xG_N 2 (ps := []) (f1 := (24, [some (.ref r0), some (.ref r1), some (.ref r2), some (.int v3), none], [.ref r2, .ref r0])) (h1 := (sh, I, J)) rfl trivial (xG_Cu rfl rfl (Nat.le_of_ble_eq_true rfl) (Nat.le_of_ble_eq_true rfl) ⟨_, _, rfl, ko⟩ rfl k)
set_option maxRecDepth 100000 in
theorem s_ImageWriter_say_27 {d : Nat} {Q : xO → xH → Prop} {sh : List xS} {I : Nat → Nat → Int32} {J : Nat → Nat → Int64} {r0 : Nat} {r1 : Nat} {r2 : Nat} {v3 : Int32}
    (k1 : ¬ v3 = 0 → xG d zm_ImageWriter_say (36, [some (.ref r0), some (.ref r1), some (.ref r2), some (.int v3), none], [.ref r1]) (sh, I, J) Q)
    (k2 : ¬ (¬ v3 = 0) → xG d zm_ImageWriter_say (32, [some (.ref r0), some (.ref r1), some (.ref r2), some (.int v3), none], [.ref r1]) (sh, I, J) Q) :
    xG d zm_ImageWriter_say (27, [some (.ref r0), some (.ref r1), some (.ref r2), some (.int v3), none], []) (sh, I, J) Q := by
  exact xG_N 2 (ps := []) (f1 := (29, [some (.ref r0), some (.ref r1), some (.ref r2), some (.int v3), none], [.int v3, .ref r1])) (h1 := (sh, I, J)) rfl trivial (xG_B rfl rfl k1 k2)
set_option maxRecDepth 100000 in
theorem s_ImageWriter_say_32 {d : Nat} {Q : xO → xH → Prop} {sh : List xS} {I : Nat → Nat → Int32} {J : Nat → Nat → Int64} {r0 : Nat} {r1 : Nat} {r2 : Nat} {v3 : Int32} {t0 : Nat}
    (ko : xOb sh t0 1)
    (k : xg d qBits_put [.ref t0, .int (0 : Int32), .int (1 : Int32)] (sh, I, J) (xU (fun h1 => xG d zm_ImageWriter_say (41, [some (.ref r0), some (.ref r1), some (.ref r2), some (.int v3), none], []) h1 Q) (fun x h1 => Q (.inr x) h1))) :
    xG d zm_ImageWriter_say (32, [some (.ref r0), some (.ref r1), some (.ref r2), some (.int v3), none], [.ref t0]) (sh, I, J) Q := by
  exact xG_N 3 (ps := []) (f1 := (38, [some (.ref r0), some (.ref r1), some (.ref r2), some (.int v3), none], [.int (1 : Int32), .int (0 : Int32), .ref t0])) (h1 := (sh, I, J)) rfl trivial (xG_Cu rfl rfl (Nat.le_of_ble_eq_true rfl) (Nat.le_of_ble_eq_true rfl) ⟨_, _, rfl, ko⟩ rfl k)
set_option maxRecDepth 100000 in
theorem s_ImageWriter_say_36 {d : Nat} {Q : xO → xH → Prop} {sh : List xS} {I : Nat → Nat → Int32} {J : Nat → Nat → Int64} {r0 : Nat} {r1 : Nat} {r2 : Nat} {v3 : Int32} {t0 : Nat}
    (ko : xOb sh t0 1)
    (k : xg d qBits_put [.ref t0, .int (1 : Int32), .int (1 : Int32)] (sh, I, J) (xU (fun h1 => xG d zm_ImageWriter_say (41, [some (.ref r0), some (.ref r1), some (.ref r2), some (.int v3), none], []) h1 Q) (fun x h1 => Q (.inr x) h1))) :
    xG d zm_ImageWriter_say (36, [some (.ref r0), some (.ref r1), some (.ref r2), some (.int v3), none], [.ref t0]) (sh, I, J) Q := by
  exact xG_N 2 (ps := []) (f1 := (38, [some (.ref r0), some (.ref r1), some (.ref r2), some (.int v3), none], [.int (1 : Int32), .int (1 : Int32), .ref t0])) (h1 := (sh, I, J)) rfl trivial (xG_Cu rfl rfl (Nat.le_of_ble_eq_true rfl) (Nat.le_of_ble_eq_true rfl) ⟨_, _, rfl, ko⟩ rfl k)
set_option maxRecDepth 100000 in
theorem s_ImageWriter_say_41 {d : Nat} {Q : xO → xH → Prop} {sh : List xS} {I : Nat → Nat → Int32} {J : Nat → Nat → Int64} {r0 : Nat} {r1 : Nat} {r2 : Nat} {v3 : Int32}
    (k1 : v3 ≤ 0 → xG d zm_ImageWriter_say (53, [some (.ref r0), some (.ref r1), some (.ref r2), some (.int v3), none], []) (sh, I, J) Q)
    (k2 : ¬ (v3 ≤ 0) → xG d zm_ImageWriter_say (45, [some (.ref r0), some (.ref r1), some (.ref r2), some (.int v3), none], []) (sh, I, J) Q) :
    xG d zm_ImageWriter_say (41, [some (.ref r0), some (.ref r1), some (.ref r2), some (.int v3), none], []) (sh, I, J) Q := by
  exact xG_N 1 (ps := []) (f1 := (42, [some (.ref r0), some (.ref r1), some (.ref r2), some (.int v3), none], [.int v3])) (h1 := (sh, I, J)) rfl trivial (xG_B rfl rfl k1 k2)
set_option maxRecDepth 100000 in
theorem s_ImageWriter_say_45 {d : Nat} {Q : xO → xH → Prop} {sh : List xS} {I : Nat → Nat → Int32} {J : Nat → Nat → Int64} {r0 : Nat} {r1 : Nat} {r2 : Nat} {v3 : Int32}
    (ko : xOb sh r1 1)
    (k : xg d qBits_put [.ref r1, .int (v3 - (1 : Int32)), .int (2 : Int32)] (sh, I, J) (xU (fun h1 => xG d zm_ImageWriter_say (53, [some (.ref r0), some (.ref r1), some (.ref r2), some (.int v3), none], []) h1 Q) (fun x h1 => Q (.inr x) h1))) :
    xG d zm_ImageWriter_say (45, [some (.ref r0), some (.ref r1), some (.ref r2), some (.int v3), none], []) (sh, I, J) Q := by
  exact xG_N 5 (ps := []) (f1 := (50, [some (.ref r0), some (.ref r1), some (.ref r2), some (.int v3), none], [.int (2 : Int32), .int (v3 - (1 : Int32)), .ref r1])) (h1 := (sh, I, J)) rfl trivial (xG_Cu rfl rfl (Nat.le_of_ble_eq_true rfl) (Nat.le_of_ble_eq_true rfl) ⟨_, _, rfl, ko⟩ rfl k)
set_option maxRecDepth 100000 in
theorem s_ImageWriter_say_53 {d : Nat} {Q : xO → xH → Prop} {sh : List xS} {I : Nat → Nat → Int32} {J : Nat → Nat → Int64} {r0 : Nat} {r1 : Nat} {r2 : Nat} {v3 : Int32}
    (k : xG d zm_ImageWriter_say (56, [some (.ref r0), some (.ref r1), some (.ref r2), some (.int v3), some (.int (0 : Int32))], []) (sh, I, J) Q) :
    xG d zm_ImageWriter_say (53, [some (.ref r0), some (.ref r1), some (.ref r2), some (.int v3), none], []) (sh, I, J) Q := by
  exact xG_N 2 (ps := []) (f1 := (56, [some (.ref r0), some (.ref r1), some (.ref r2), some (.int v3), some (.int (0 : Int32))], [])) (h1 := (sh, I, J)) rfl trivial (k)
set_option maxRecDepth 100000 in
theorem s_ImageWriter_say_56 {d : Nat} {Q : xO → xH → Prop} {sh : List xS} {I : Nat → Nat → Int32} {J : Nat → Nat → Int64} {r0 : Nat} {r1 : Nat} {r2 : Nat} {v3 : Int32} {v4 : Int32}
    (k1 : (5 : Int32) ≤ v4 → xG d zm_ImageWriter_say (85, [some (.ref r0), some (.ref r1), some (.ref r2), some (.int v3), some (.int v4)], []) (sh, I, J) Q)
    (k2 : ¬ ((5 : Int32) ≤ v4) → xG d zm_ImageWriter_say (62, [some (.ref r0), some (.ref r1), some (.ref r2), some (.int v3), some (.int v4)], []) (sh, I, J) Q) :
    xG d zm_ImageWriter_say (56, [some (.ref r0), some (.ref r1), some (.ref r2), some (.int v3), some (.int v4)], []) (sh, I, J) Q := by
  exact xG_N 2 (ps := []) (f1 := (59, [some (.ref r0), some (.ref r1), some (.ref r2), some (.int v3), some (.int v4)], [.int (5 : Int32), .int v4])) (h1 := (sh, I, J)) rfl trivial (xG_B rfl rfl k1 k2)
set_option maxRecDepth 100000 in
theorem s_ImageWriter_say_62 {d : Nat} {Q : xO → xH → Prop} {sh : List xS} {I : Nat → Nat → Int32} {J : Nat → Nat → Int64} {r0 : Nat} {r1 : Nat} {r2 : Nat} {v3 : Int32} {v4 : Int32} {a1 : Nat} {a2 : Nat}
    (e0 : xRr sh r0 7 2 a1)
    (e1 : xRr sh r0 7 0 a2)
    (ko : xOb sh a2 5)
    (k : xg d qCodes_of [.ref a2, .int v4] (sh, I, J) (xP (fun v h1 => xG d zm_ImageWriter_say (76, [some (.ref r0), some (.ref r1), some (.ref r2), some (.int v3), some (.int v4)], [.ref v, .ref r1, .ref a1]) h1 Q) (fun x h1 => Q (.inr x) h1))) :
    xG d zm_ImageWriter_say (62, [some (.ref r0), some (.ref r1), some (.ref r2), some (.int v3), some (.int v4)], []) (sh, I, J) Q := by
  obtain rfl := e0.eq
  obtain rfl := e1.eq
  exact xG_N 6 (ps := [xRf sh r0 7 2, xRf sh r0 7 0]) (f1 := (73, [some (.ref r0), some (.ref r1), some (.ref r2), some (.int v3), some (.int v4)], [.int v4, .ref (xrf sh r0 0), .ref r1, .ref (xrf sh r0 2)])) (h1 := (sh, I, J)) rfl ⟨e0.rf, e1.rf⟩ (xG_Cp rfl rfl (Nat.le_of_ble_eq_true rfl) (Nat.le_of_ble_eq_true rfl) ⟨_, _, rfl, ko⟩ rfl k)
set_option maxRecDepth 100000 in
theorem s_ImageWriter_say_76 {d : Nat} {Q : xO → xH → Prop} {sh : List xS} {I : Nat → Nat → Int32} {J : Nat → Nat → Int64} {r0 : Nat} {r1 : Nat} {r2 : Nat} {v3 : Int32} {v4 : Int32} {t0 : Nat} {t1 : Nat} {t2 : Nat}
    (ko : xOb sh t0 4)
    (k : xg d qCodeWriter_say [.ref t0, .ref t1, .ref t2] (sh, I, J) (xU (fun h1 => xG d zm_ImageWriter_say (79, [some (.ref r0), some (.ref r1), some (.ref r2), some (.int v3), some (.int v4)], []) h1 Q) (fun x h1 => Q (.inr x) h1))) :
    xG d zm_ImageWriter_say (76, [some (.ref r0), some (.ref r1), some (.ref r2), some (.int v3), some (.int v4)], [.ref t2, .ref t1, .ref t0]) (sh, I, J) Q := by
  exact xG_Cu rfl rfl (Nat.le_of_ble_eq_true rfl) (Nat.le_of_ble_eq_true rfl) ⟨_, _, rfl, ko⟩ rfl k
set_option maxRecDepth 100000 in
theorem s_ImageWriter_say_79 {d : Nat} {Q : xO → xH → Prop} {sh : List xS} {I : Nat → Nat → Int32} {J : Nat → Nat → Int64} {r0 : Nat} {r1 : Nat} {r2 : Nat} {v3 : Int32} {v4 : Int32}
    (k : xG d zm_ImageWriter_say (56, [some (.ref r0), some (.ref r1), some (.ref r2), some (.int v3), some (.int (v4 + (1 : Int32)))], []) (sh, I, J) Q) :
    xG d zm_ImageWriter_say (79, [some (.ref r0), some (.ref r1), some (.ref r2), some (.int v3), some (.int v4)], []) (sh, I, J) Q := by
  exact xG_N 2 (ps := []) (f1 := (56, [some (.ref r0), some (.ref r1), some (.ref r2), some (.int v3), some (.int (v4 + (1 : Int32)))], [])) (h1 := (sh, I, J)) rfl trivial (k)
set_option maxRecDepth 100000 in
theorem s_ImageWriter_say_85 {d : Nat} {Q : xO → xH → Prop} {sh : List xS} {I : Nat → Nat → Int32} {J : Nat → Nat → Int64} {r0 : Nat} {r1 : Nat} {r2 : Nat} {v3 : Int32} {v4 : Int32}
    (k : xG d zm_ImageWriter_say (88, [some (.ref r0), some (.ref r1), some (.ref r2), some (.int v3), some (.int (0 : Int32))], []) (sh, I, J) Q) :
    xG d zm_ImageWriter_say (85, [some (.ref r0), some (.ref r1), some (.ref r2), some (.int v3), some (.int v4)], []) (sh, I, J) Q := by
  exact xG_N 2 (ps := []) (f1 := (88, [some (.ref r0), some (.ref r1), some (.ref r2), some (.int v3), some (.int (0 : Int32))], [])) (h1 := (sh, I, J)) rfl trivial (k)
set_option maxRecDepth 100000 in
theorem s_ImageWriter_say_88 {d : Nat} {Q : xO → xH → Prop} {sh : List xS} {I : Nat → Nat → Int32} {J : Nat → Nat → Int64} {r0 : Nat} {r1 : Nat} {r2 : Nat} {v3 : Int32} {v4 : Int32}
    (e0 : xOb sh r0 7)
    (k1 : (I r0 6) ≤ v4 → xG d zm_ImageWriter_say (156, [some (.ref r0), some (.ref r1), some (.ref r2), some (.int v3), some (.int v4)], []) (sh, I, J) Q)
    (k2 : ¬ ((I r0 6) ≤ v4) → xG d zm_ImageWriter_say (97, [some (.ref r0), some (.ref r1), some (.ref r2), some (.int v3), some (.int v4)], []) (sh, I, J) Q) :
    xG d zm_ImageWriter_say (88, [some (.ref r0), some (.ref r1), some (.ref r2), some (.int v3), some (.int v4)], []) (sh, I, J) Q := by
  exact xG_N 3 (ps := [xOb sh r0 7]) (f1 := (94, [some (.ref r0), some (.ref r1), some (.ref r2), some (.int v3), some (.int v4)], [.int (I r0 6), .int v4])) (h1 := (sh, I, J)) rfl e0 (xG_B rfl rfl k1 k2)
set_option maxRecDepth 100000 in
theorem s_ImageWriter_say_97 {d : Nat} {Q : xO → xH → Prop} {sh : List xS} {I : Nat → Nat → Int32} {J : Nat → Nat → Int64} {r0 : Nat} {r1 : Nat} {r2 : Nat} {v3 : Int32} {v4 : Int32} {a1 : Nat} {a2 : Nat} {n3 : Nat}
    (e0 : xRr sh r0 7 0 a1)
    (e1 : xRr sh r0 7 3 a2)
    (e2 : xAr sh a2 .int n3)
    (e3 : vp_in v4 n3)
    (ko : xOb sh a1 5)
    (k : xg d qCodes_of [.ref a1, .int (I a2 v4.toNatClampNeg)] (sh, I, J) (xP (fun v h1 => xG d zm_ImageWriter_say (111, [some (.ref r0), some (.ref r1), some (.ref r2), some (.int v3), some (.int v4)], [.ref v]) h1 Q) (fun x h1 => Q (.inr x) h1))) :
    xG d zm_ImageWriter_say (97, [some (.ref r0), some (.ref r1), some (.ref r2), some (.int v3), some (.int v4)], []) (sh, I, J) Q := by
  obtain rfl := e0.eq
  obtain rfl := e1.eq
  obtain rfl := e2.eq
  exact xG_N 6 (ps := [xRf sh r0 7 0, xRf sh r0 7 3, xA sh (xrf sh r0 3) .int, vp_in v4 (xlen sh (xrf sh r0 3))]) (f1 := (108, [some (.ref r0), some (.ref r1), some (.ref r2), some (.int v3), some (.int v4)], [.int (I (xrf sh r0 3) v4.toNatClampNeg), .ref (xrf sh r0 0)])) (h1 := (sh, I, J)) rfl ⟨e0.rf, e1.rf, e2.ar, e3⟩ (xG_Cp rfl rfl (Nat.le_of_ble_eq_true rfl) (Nat.le_of_ble_eq_true rfl) ⟨_, _, rfl, ko⟩ rfl k)
set_option maxRecDepth 100000 in
theorem s_ImageWriter_say_111 {d : Nat} {Q : xO → xH → Prop} {sh : List xS} {I : Nat → Nat → Int32} {J : Nat → Nat → Int64} {r0 : Nat} {r1 : Nat} {r2 : Nat} {v3 : Int32} {v4 : Int32} {t0 : Nat} {a1 : Nat} {n2 : Nat}
    (e0 : xRr sh r0 7 4 a1)
    (e1 : xAr sh a1 .int n2)
    (e2 : vp_in v4 n2)
    (ko : xOb sh t0 3)
    (k : xg d qCode_say [.ref t0, .ref r1, .int (I a1 v4.toNatClampNeg)] (sh, I, J) (xU (fun h1 => xG d zm_ImageWriter_say (122, [some (.ref r0), some (.ref r1), some (.ref r2), some (.int v3), some (.int v4)], []) h1 Q) (fun x h1 => Q (.inr x) h1))) :
    xG d zm_ImageWriter_say (111, [some (.ref r0), some (.ref r1), some (.ref r2), some (.int v3), some (.int v4)], [.ref t0]) (sh, I, J) Q := by
  obtain rfl := e0.eq
  obtain rfl := e1.eq
  exact xG_N 5 (ps := [xRf sh r0 7 4, xA sh (xrf sh r0 4) .int, vp_in v4 (xlen sh (xrf sh r0 4))]) (f1 := (119, [some (.ref r0), some (.ref r1), some (.ref r2), some (.int v3), some (.int v4)], [.int (I (xrf sh r0 4) v4.toNatClampNeg), .ref r1, .ref t0])) (h1 := (sh, I, J)) rfl ⟨e0.rf, e1.ar, e2⟩ (xG_Cu rfl rfl (Nat.le_of_ble_eq_true rfl) (Nat.le_of_ble_eq_true rfl) ⟨_, _, rfl, ko⟩ rfl k)
set_option maxRecDepth 100000 in
theorem s_ImageWriter_say_122 {d : Nat} {Q : xO → xH → Prop} {sh : List xS} {I : Nat → Nat → Int32} {J : Nat → Nat → Int64} {r0 : Nat} {r1 : Nat} {r2 : Nat} {v3 : Int32} {v4 : Int32} {a1 : Nat} {n2 : Nat} {a3 : Nat} {n4 : Nat} {a5 : Nat} {n6 : Nat}
    (e0 : xRr sh r0 7 5 a1)
    (e1 : xAr sh a1 .int n2)
    (e2 : vp_in v4 n2)
    (e3 : xRr sh r0 7 3 a3)
    (e4 : xAr sh a3 .int n4)
    (e5 : vp_in v4 n4)
    (e6 : xRr sh r0 7 4 a5)
    (e7 : xAr sh a5 .int n6)
    (e8 : vp_in v4 n6)
    (k : xg d qImageWriter_bitsBehind [.int (I a3 v4.toNatClampNeg), .int (I a5 v4.toNatClampNeg)] (sh, I, J) (xI (fun v h1 => xG d zm_ImageWriter_say (147, [some (.ref r0), some (.ref r1), some (.ref r2), some (.int v3), some (.int v4)], [.int v, .int (I a1 v4.toNatClampNeg), .ref r1]) h1 Q) (fun x h1 => Q (.inr x) h1))) :
    xG d zm_ImageWriter_say (122, [some (.ref r0), some (.ref r1), some (.ref r2), some (.int v3), some (.int v4)], []) (sh, I, J) Q := by
  obtain rfl := e0.eq
  obtain rfl := e1.eq
  obtain rfl := e3.eq
  obtain rfl := e4.eq
  obtain rfl := e6.eq
  obtain rfl := e7.eq
  exact xG_N 13 (ps := [xRf sh r0 7 5, xA sh (xrf sh r0 5) .int, vp_in v4 (xlen sh (xrf sh r0 5)), xRf sh r0 7 3, xA sh (xrf sh r0 3) .int, vp_in v4 (xlen sh (xrf sh r0 3)), xRf sh r0 7 4, xA sh (xrf sh r0 4) .int, vp_in v4 (xlen sh (xrf sh r0 4))]) (f1 := (144, [some (.ref r0), some (.ref r1), some (.ref r2), some (.int v3), some (.int v4)], [.int (I (xrf sh r0 4) v4.toNatClampNeg), .int (I (xrf sh r0 3) v4.toNatClampNeg), .int (I (xrf sh r0 5) v4.toNatClampNeg), .ref r1])) (h1 := (sh, I, J)) rfl ⟨e0.rf, e1.ar, e2, e3.rf, e4.ar, e5, e6.rf, e7.ar, e8⟩ (xG_Ci rfl rfl (Nat.le_of_ble_eq_true rfl) (Nat.le_of_ble_eq_true rfl) trivial rfl k)
set_option maxRecDepth 100000 in
theorem s_ImageWriter_say_147 {d : Nat} {Q : xO → xH → Prop} {sh : List xS} {I : Nat → Nat → Int32} {J : Nat → Nat → Int64} {r0 : Nat} {r1 : Nat} {r2 : Nat} {v3 : Int32} {v4 : Int32} {t0 : Nat} {t1 : Int32} {t2 : Int32}
    (ko : xOb sh t0 1)
    (k : xg d qBits_put [.ref t0, .int t1, .int t2] (sh, I, J) (xU (fun h1 => xG d zm_ImageWriter_say (150, [some (.ref r0), some (.ref r1), some (.ref r2), some (.int v3), some (.int v4)], []) h1 Q) (fun x h1 => Q (.inr x) h1))) :
    xG d zm_ImageWriter_say (147, [some (.ref r0), some (.ref r1), some (.ref r2), some (.int v3), some (.int v4)], [.int t2, .int t1, .ref t0]) (sh, I, J) Q := by
  exact xG_Cu rfl rfl (Nat.le_of_ble_eq_true rfl) (Nat.le_of_ble_eq_true rfl) ⟨_, _, rfl, ko⟩ rfl k
set_option maxRecDepth 100000 in
theorem s_ImageWriter_say_150 {d : Nat} {Q : xO → xH → Prop} {sh : List xS} {I : Nat → Nat → Int32} {J : Nat → Nat → Int64} {r0 : Nat} {r1 : Nat} {r2 : Nat} {v3 : Int32} {v4 : Int32}
    (k : xG d zm_ImageWriter_say (88, [some (.ref r0), some (.ref r1), some (.ref r2), some (.int v3), some (.int (v4 + (1 : Int32)))], []) (sh, I, J) Q) :
    xG d zm_ImageWriter_say (150, [some (.ref r0), some (.ref r1), some (.ref r2), some (.int v3), some (.int v4)], []) (sh, I, J) Q := by
  exact xG_N 2 (ps := []) (f1 := (88, [some (.ref r0), some (.ref r1), some (.ref r2), some (.int v3), some (.int (v4 + (1 : Int32)))], [])) (h1 := (sh, I, J)) rfl trivial (k)
set_option maxRecDepth 100000 in
theorem s_ImageWriter_say_156 {d : Nat} {Q : xO → xH → Prop} {sh : List xS} {I : Nat → Nat → Int32} {J : Nat → Nat → Int64} {r0 : Nat} {r1 : Nat} {r2 : Nat} {v3 : Int32} {v4 : Int32}
    (k : Q (.inl (none)) (sh, I, J)) :
    xG d zm_ImageWriter_say (156, [some (.ref r0), some (.ref r1), some (.ref r2), some (.int v3), some (.int v4)], []) (sh, I, J) Q := by
  exact xG_Q rfl rfl trivial k
set_option maxRecDepth 100000 in
theorem s_ImageWriter_bitsBehind_0 {d : Nat} {Q : xO → xH → Prop} {sh : List xS} {I : Nat → Nat → Int32} {J : Nat → Nat → Int64} {v0 : Int32} {v1 : Int32}
    (k1 : ¬ v0 = (4 : Int32) → xG d zm_ImageWriter_bitsBehind (10, [some (.int v0), some (.int v1), none], []) (sh, I, J) Q)
    (k2 : ¬ (¬ v0 = (4 : Int32)) → xG d zm_ImageWriter_bitsBehind (5, [some (.int v0), some (.int v1), none], []) (sh, I, J) Q) :
    xG d zm_ImageWriter_bitsBehind (0, [some (.int v0), some (.int v1), none], []) (sh, I, J) Q := by
  exact xG_N 2 (ps := []) (f1 := (2, [some (.int v0), some (.int v1), none], [.int (4 : Int32), .int v0])) (h1 := (sh, I, J)) rfl trivial (xG_B rfl rfl k1 k2)
set_option maxRecDepth 100000 in
theorem s_ImageWriter_bitsBehind_5 {d : Nat} {Q : xO → xH → Prop} {sh : List xS} {I : Nat → Nat → Int32} {J : Nat → Nat → Int64} {v0 : Int32} {v1 : Int32}
    (k : xg d qCodes_bitsBehind [.int v1] (sh, I, J) (xI (fun v h1 => xG d zm_ImageWriter_bitsBehind (9, [some (.int v0), some (.int v1), none], [.int v]) h1 Q) (fun x h1 => Q (.inr x) h1))) :
    xG d zm_ImageWriter_bitsBehind (5, [some (.int v0), some (.int v1), none], []) (sh, I, J) Q := by
  exact xG_N 1 (ps := []) (f1 := (6, [some (.int v0), some (.int v1), none], [.int v1])) (h1 := (sh, I, J)) rfl trivial (xG_Ci rfl rfl (Nat.le_of_ble_eq_true rfl) (Nat.le_of_ble_eq_true rfl) trivial rfl k)
set_option maxRecDepth 100000 in
theorem s_ImageWriter_bitsBehind_9 {d : Nat} {Q : xO → xH → Prop} {sh : List xS} {I : Nat → Nat → Int32} {J : Nat → Nat → Int64} {v0 : Int32} {v1 : Int32} {t0 : Int32}
    (k : Q (.inl (some (.int t0))) (sh, I, J)) :
    xG d zm_ImageWriter_bitsBehind (9, [some (.int v0), some (.int v1), none], [.int t0]) (sh, I, J) Q := by
  exact xG_Q rfl rfl trivial k
set_option maxRecDepth 100000 in
theorem s_ImageWriter_bitsBehind_10 {d : Nat} {Q : xO → xH → Prop} {sh : List xS} {I : Nat → Nat → Int32} {J : Nat → Nat → Int64} {v0 : Int32} {v1 : Int32}
    (k1 : ¬ v0 = 0 → xG d zm_ImageWriter_bitsBehind (32, [some (.int v0), some (.int v1), none], []) (sh, I, J) Q)
    (k2 : ¬ (¬ v0 = 0) → xG d zm_ImageWriter_bitsBehind (14, [some (.int v0), some (.int v1), none], []) (sh, I, J) Q) :
    xG d zm_ImageWriter_bitsBehind (10, [some (.int v0), some (.int v1), none], []) (sh, I, J) Q := by
  exact xG_N 1 (ps := []) (f1 := (11, [some (.int v0), some (.int v1), none], [.int v0])) (h1 := (sh, I, J)) rfl trivial (xG_B rfl rfl k1 k2)
set_option maxRecDepth 100000 in
theorem s_ImageWriter_bitsBehind_14 {d : Nat} {Q : xO → xH → Prop} {sh : List xS} {I : Nat → Nat → Int32} {J : Nat → Nat → Int64} {v0 : Int32} {v1 : Int32}
    (k1 : v1 < (256 : Int32) → xG d zm_ImageWriter_bitsBehind (32, [some (.int v0), some (.int v1), none], []) (sh, I, J) Q)
    (k2 : ¬ (v1 < (256 : Int32)) → xG d zm_ImageWriter_bitsBehind (21, [some (.int v0), some (.int v1), none], []) (sh, I, J) Q) :
    xG d zm_ImageWriter_bitsBehind (14, [some (.int v0), some (.int v1), none], []) (sh, I, J) Q := by
  exact xG_N 2 (ps := []) (f1 := (18, [some (.int v0), some (.int v1), none], [.int (256 : Int32), .int v1])) (h1 := (sh, I, J)) rfl trivial (xG_B rfl rfl k1 k2)
set_option maxRecDepth 100000 in
theorem s_ImageWriter_bitsBehind_21 {d : Nat} {Q : xO → xH → Prop} {sh : List xS} {I : Nat → Nat → Int32} {J : Nat → Nat → Int64} {v0 : Int32} {v1 : Int32}
    (k1 : (280 : Int32) ≤ v1 → xG d zm_ImageWriter_bitsBehind (32, [some (.int v0), some (.int v1), none], []) (sh, I, J) Q)
    (k2 : ¬ ((280 : Int32) ≤ v1) → xG d zm_ImageWriter_bitsBehind (28, [some (.int v0), some (.int v1), none], []) (sh, I, J) Q) :
    xG d zm_ImageWriter_bitsBehind (21, [some (.int v0), some (.int v1), none], []) (sh, I, J) Q := by
  exact xG_N 2 (ps := []) (f1 := (25, [some (.int v0), some (.int v1), none], [.int (280 : Int32), .int v1])) (h1 := (sh, I, J)) rfl trivial (xG_B rfl rfl k1 k2)
set_option maxRecDepth 100000 in
theorem s_ImageWriter_bitsBehind_28 {d : Nat} {Q : xO → xH → Prop} {sh : List xS} {I : Nat → Nat → Int32} {J : Nat → Nat → Int64} {v0 : Int32} {v1 : Int32}
    (k1 : (1 : Int32) = 0 → xG d zm_ImageWriter_bitsBehind (49, [some (.int v0), some (.int v1), some (.int (1 : Int32))], []) (sh, I, J) Q)
    (k2 : ¬ ((1 : Int32) = 0) → xG d zm_ImageWriter_bitsBehind (38, [some (.int v0), some (.int v1), some (.int (1 : Int32))], []) (sh, I, J) Q) :
    xG d zm_ImageWriter_bitsBehind (28, [some (.int v0), some (.int v1), none], []) (sh, I, J) Q := by
  exact xG_N 4 (ps := []) (f1 := (35, [some (.int v0), some (.int v1), some (.int (1 : Int32))], [.int (1 : Int32)])) (h1 := (sh, I, J)) rfl trivial (xG_B rfl rfl k1 k2)
set_option maxRecDepth 100000 in
theorem s_ImageWriter_bitsBehind_32 {d : Nat} {Q : xO → xH → Prop} {sh : List xS} {I : Nat → Nat → Int32} {J : Nat → Nat → Int64} {v0 : Int32} {v1 : Int32}
    (k1 : (0 : Int32) = 0 → xG d zm_ImageWriter_bitsBehind (49, [some (.int v0), some (.int v1), some (.int (0 : Int32))], []) (sh, I, J) Q)
    (k2 : ¬ ((0 : Int32) = 0) → xG d zm_ImageWriter_bitsBehind (38, [some (.int v0), some (.int v1), some (.int (0 : Int32))], []) (sh, I, J) Q) :
    xG d zm_ImageWriter_bitsBehind (32, [some (.int v0), some (.int v1), none], []) (sh, I, J) Q := by
  exact xG_N 3 (ps := []) (f1 := (35, [some (.int v0), some (.int v1), some (.int (0 : Int32))], [.int (0 : Int32)])) (h1 := (sh, I, J)) rfl trivial (xG_B rfl rfl k1 k2)
set_option maxRecDepth 100000 in
theorem s_ImageWriter_bitsBehind_38 {d : Nat} {Q : xO → xH → Prop} {sh : List xS} {I : Nat → Nat → Int32} {J : Nat → Nat → Int64} {v0 : Int32} {v1 : Int32} {v2 : Int32}
    (k : xg d qCodes_bitsBehind [.int (v1 - (256 : Int32))] (sh, I, J) (xI (fun v h1 => xG d zm_ImageWriter_bitsBehind (46, [some (.int v0), some (.int v1), some (.int v2)], [.int v]) h1 Q) (fun x h1 => Q (.inr x) h1))) :
    xG d zm_ImageWriter_bitsBehind (38, [some (.int v0), some (.int v1), some (.int v2)], []) (sh, I, J) Q := by
  exact xG_N 3 (ps := []) (f1 := (43, [some (.int v0), some (.int v1), some (.int v2)], [.int (v1 - (256 : Int32))])) (h1 := (sh, I, J)) rfl trivial (xG_Ci rfl rfl (Nat.le_of_ble_eq_true rfl) (Nat.le_of_ble_eq_true rfl) trivial rfl k)
set_option maxRecDepth 100000 in
theorem s_ImageWriter_bitsBehind_46 {d : Nat} {Q : xO → xH → Prop} {sh : List xS} {I : Nat → Nat → Int32} {J : Nat → Nat → Int64} {v0 : Int32} {v1 : Int32} {v2 : Int32} {t0 : Int32}
    (k : Q (.inl (some (.int t0))) (sh, I, J)) :
    xG d zm_ImageWriter_bitsBehind (46, [some (.int v0), some (.int v1), some (.int v2)], [.int t0]) (sh, I, J) Q := by
  exact xG_N 1 (ps := []) (f1 := (50, [some (.int v0), some (.int v1), some (.int v2)], [.int t0])) (h1 := (sh, I, J)) rfl trivial (xG_Q rfl rfl trivial k)
set_option maxRecDepth 100000 in
theorem s_ImageWriter_bitsBehind_49 {d : Nat} {Q : xO → xH → Prop} {sh : List xS} {I : Nat → Nat → Int32} {J : Nat → Nat → Int64} {v0 : Int32} {v1 : Int32} {v2 : Int32}
    (k : Q (.inl (some (.int (0 : Int32)))) (sh, I, J)) :
    xG d zm_ImageWriter_bitsBehind (49, [some (.int v0), some (.int v1), some (.int v2)], []) (sh, I, J) Q := by
  exact xG_N 1 (ps := []) (f1 := (50, [some (.int v0), some (.int v1), some (.int v2)], [.int (0 : Int32)])) (h1 := (sh, I, J)) rfl trivial (xG_Q rfl rfl trivial k)
set_option maxRecDepth 100000 in
theorem s_ImageWriter_makeUp_0 {d : Nat} {Q : xO → xH → Prop} {sh : List xS} {I : Nat → Nat → Int32} {J : Nat → Nat → Int64} {r0 : Nat} {r1 : Nat}
    (e0 : xOb sh r0 7)
    (ko : xOb sh r1 8)
    (k : xg d qPlane_count [.ref r1] (sh, xup (xup (xup I r0 6 (0 : Int32)) r0 7 (0 : Int32)) r0 8 (0 : Int32), J) (xI (fun v h1 => xG d zm_ImageWriter_makeUp (19, [some (.ref r0), some (.ref r1), none, none, none, none, none], [.int v]) h1 Q) (fun x h1 => Q (.inr x) h1))) :
    xG d zm_ImageWriter_makeUp (0, [some (.ref r0), some (.ref r1), none, none, none, none, none], []) (sh, I, J) Q := by
  exact xG_N 10 (ps := [xOb sh r0 7, xOb sh r0 7, xOb sh r0 7]) (f1 := (16, [some (.ref r0), some (.ref r1), none, none, none, none, none], [.ref r1])) (h1 := (sh, xup (xup (xup I r0 6 (0 : Int32)) r0 7 (0 : Int32)) r0 8 (0 : Int32), J)) rfl ⟨e0, e0, e0⟩ (xG_Ci rfl rfl (Nat.le_of_ble_eq_true rfl) (Nat.le_of_ble_eq_true rfl) ⟨_, _, rfl, ko⟩ rfl k)
set_option maxRecDepth 100000 in
theorem s_ImageWriter_makeUp_19 {d : Nat} {Q : xO → xH → Prop} {sh : List xS} {I : Nat → Nat → Int32} {J : Nat → Nat → Int64} {r0 : Nat} {r1 : Nat} {t0 : Int32}
    (k : xG d zm_ImageWriter_makeUp (25, [some (.ref r0), some (.ref r1), some (.int t0), some (.int (0 : Int32)), some (.int (0 : Int32)), none, none], []) (sh, I, J) Q) :
    xG d zm_ImageWriter_makeUp (19, [some (.ref r0), some (.ref r1), none, none, none, none, none], [.int t0]) (sh, I, J) Q := by
  exact xG_N 5 (ps := []) (f1 := (25, [some (.ref r0), some (.ref r1), some (.int t0), some (.int (0 : Int32)), some (.int (0 : Int32)), none, none], [])) (h1 := (sh, I, J)) rfl trivial (k)
set_option maxRecDepth 100000 in
theorem s_ImageWriter_makeUp_25 {d : Nat} {Q : xO → xH → Prop} {sh : List xS} {I : Nat → Nat → Int32} {J : Nat → Nat → Int64} {r0 : Nat} {r1 : Nat} {v2 : Int32} {v3 : Int32} {v4 : Int32} {o5 : Option Value} {o6 : Option Value}
    (k1 : v2 ≤ v4 → xG d zm_ImageWriter_makeUp (126, [some (.ref r0), some (.ref r1), some (.int v2), some (.int v3), some (.int v4), o5, o6], []) (sh, I, J) Q)
    (k2 : ¬ (v2 ≤ v4) → xG d zm_ImageWriter_makeUp (31, [some (.ref r0), some (.ref r1), some (.int v2), some (.int v3), some (.int v4), o5, o6], []) (sh, I, J) Q) :
    xG d zm_ImageWriter_makeUp (25, [some (.ref r0), some (.ref r1), some (.int v2), some (.int v3), some (.int v4), o5, o6], []) (sh, I, J) Q := by
  exact xG_N 2 (ps := []) (f1 := (28, [some (.ref r0), some (.ref r1), some (.int v2), some (.int v3), some (.int v4), o5, o6], [.int v2, .int v4])) (h1 := (sh, I, J)) rfl trivial (xG_B rfl rfl k1 k2)
set_option maxRecDepth 100000 in
theorem s_ImageWriter_makeUp_31 {d : Nat} {Q : xO → xH → Prop} {sh : List xS} {I : Nat → Nat → Int32} {J : Nat → Nat → Int64} {r0 : Nat} {r1 : Nat} {v2 : Int32} {v3 : Int32} {v4 : Int32} {o5 : Option Value} {o6 : Option Value}
    (k1 : v2 ≤ v3 → xG d zm_ImageWriter_makeUp (126, [some (.ref r0), some (.ref r1), some (.int v2), some (.int v3), some (.int v4), o5, o6], []) (sh, I, J) Q)
    (k2 : ¬ (v2 ≤ v3) → xG d zm_ImageWriter_makeUp (36, [some (.ref r0), some (.ref r1), some (.int v2), some (.int v3), some (.int v4), o5, o6], []) (sh, I, J) Q) :
    xG d zm_ImageWriter_makeUp (31, [some (.ref r0), some (.ref r1), some (.int v2), some (.int v3), some (.int v4), o5, o6], []) (sh, I, J) Q := by
  exact xG_N 2 (ps := []) (f1 := (33, [some (.ref r0), some (.ref r1), some (.int v2), some (.int v3), some (.int v4), o5, o6], [.int v2, .int v3])) (h1 := (sh, I, J)) rfl trivial (xG_B rfl rfl k1 k2)
set_option maxRecDepth 100000 in
theorem s_ImageWriter_makeUp_36 {d : Nat} {Q : xO → xH → Prop} {sh : List xS} {I : Nat → Nat → Int32} {J : Nat → Nat → Int64} {r0 : Nat} {r1 : Nat} {v2 : Int32} {v3 : Int32} {v4 : Int32} {o5 : Option Value} {o6 : Option Value}
    (ko : xOb sh r0 7)
    (k : xg d qImageWriter_findCopy [.ref r0, .ref r1, .int v3] (sh, I, J) (xU (fun h1 => xG d zm_ImageWriter_makeUp (42, [some (.ref r0), some (.ref r1), some (.int v2), some (.int v3), some (.int v4), o5, o6], []) h1 Q) (fun x h1 => Q (.inr x) h1))) :
    xG d zm_ImageWriter_makeUp (36, [some (.ref r0), some (.ref r1), some (.int v2), some (.int v3), some (.int v4), o5, o6], []) (sh, I, J) Q := by
  exact xG_N 3 (ps := []) (f1 := (39, [some (.ref r0), some (.ref r1), some (.int v2), some (.int v3), some (.int v4), o5, o6], [.int v3, .ref r1, .ref r0])) (h1 := (sh, I, J)) rfl trivial (xG_Cu rfl rfl (Nat.le_of_ble_eq_true rfl) (Nat.le_of_ble_eq_true rfl) ⟨_, _, rfl, ko⟩ rfl k)
set_option maxRecDepth 100000 in
theorem s_ImageWriter_makeUp_42 {d : Nat} {Q : xO → xH → Prop} {sh : List xS} {I : Nat → Nat → Int32} {J : Nat → Nat → Int64} {r0 : Nat} {r1 : Nat} {v2 : Int32} {v3 : Int32} {v4 : Int32} {o5 : Option Value} {o6 : Option Value}
    (e0 : xOb sh r0 7)
    (k1 : (I r0 9) < (3 : Int32) → xG d zm_ImageWriter_makeUp (57, [some (.ref r0), some (.ref r1), some (.int v2), some (.int v3), some (.int v4), o5, o6], []) (sh, I, J) Q)
    (k2 : ¬ ((I r0 9) < (3 : Int32)) → xG d zm_ImageWriter_makeUp (50, [some (.ref r0), some (.ref r1), some (.int v2), some (.int v3), some (.int v4), o5, o6], []) (sh, I, J) Q) :
    xG d zm_ImageWriter_makeUp (42, [some (.ref r0), some (.ref r1), some (.int v2), some (.int v3), some (.int v4), o5, o6], []) (sh, I, J) Q := by
  exact xG_N 3 (ps := [xOb sh r0 7]) (f1 := (47, [some (.ref r0), some (.ref r1), some (.int v2), some (.int v3), some (.int v4), o5, o6], [.int (3 : Int32), .int (I r0 9)])) (h1 := (sh, I, J)) rfl e0 (xG_B rfl rfl k1 k2)
set_option maxRecDepth 100000 in
theorem s_ImageWriter_makeUp_50 {d : Nat} {Q : xO → xH → Prop} {sh : List xS} {I : Nat → Nat → Int32} {J : Nat → Nat → Int64} {r0 : Nat} {r1 : Nat} {v2 : Int32} {v3 : Int32} {v4 : Int32} {o5 : Option Value} {o6 : Option Value}
    (e0 : xOb sh r0 7)
    (k1 : (I r0 9) ≤ (1 : Int32) → xG d zm_ImageWriter_makeUp (73, [some (.ref r0), some (.ref r1), some (.int v2), some (.int v3), some (.int v4), some (.int (I r0 9)), o6], []) (sh, I, J) Q)
    (k2 : ¬ ((I r0 9) ≤ (1 : Int32)) → xG d zm_ImageWriter_makeUp (66, [some (.ref r0), some (.ref r1), some (.int v2), some (.int v3), some (.int v4), some (.int (I r0 9)), o6], []) (sh, I, J) Q) :
    xG d zm_ImageWriter_makeUp (50, [some (.ref r0), some (.ref r1), some (.int v2), some (.int v3), some (.int v4), o5, o6], []) (sh, I, J) Q := by
  exact xG_N 6 (ps := [xOb sh r0 7]) (f1 := (63, [some (.ref r0), some (.ref r1), some (.int v2), some (.int v3), some (.int v4), some (.int (I r0 9)), o6], [.int (1 : Int32), .int (I r0 9)])) (h1 := (sh, I, J)) rfl e0 (xG_B rfl rfl k1 k2)
set_option maxRecDepth 100000 in
theorem s_ImageWriter_makeUp_57 {d : Nat} {Q : xO → xH → Prop} {sh : List xS} {I : Nat → Nat → Int32} {J : Nat → Nat → Int64} {r0 : Nat} {r1 : Nat} {v2 : Int32} {v3 : Int32} {v4 : Int32} {o5 : Option Value} {o6 : Option Value}
    (k1 : (1 : Int32) ≤ (1 : Int32) → xG d zm_ImageWriter_makeUp (73, [some (.ref r0), some (.ref r1), some (.int v2), some (.int v3), some (.int v4), some (.int (1 : Int32)), o6], []) (sh, I, J) Q)
    (k2 : ¬ ((1 : Int32) ≤ (1 : Int32)) → xG d zm_ImageWriter_makeUp (66, [some (.ref r0), some (.ref r1), some (.int v2), some (.int v3), some (.int v4), some (.int (1 : Int32)), o6], []) (sh, I, J) Q) :
    xG d zm_ImageWriter_makeUp (57, [some (.ref r0), some (.ref r1), some (.int v2), some (.int v3), some (.int v4), o5, o6], []) (sh, I, J) Q := by
  exact xG_N 4 (ps := []) (f1 := (63, [some (.ref r0), some (.ref r1), some (.int v2), some (.int v3), some (.int v4), some (.int (1 : Int32)), o6], [.int (1 : Int32), .int (1 : Int32)])) (h1 := (sh, I, J)) rfl trivial (xG_B rfl rfl k1 k2)
set_option maxRecDepth 100000 in
theorem s_ImageWriter_makeUp_66 {d : Nat} {Q : xO → xH → Prop} {sh : List xS} {I : Nat → Nat → Int32} {J : Nat → Nat → Int64} {r0 : Nat} {r1 : Nat} {v2 : Int32} {v3 : Int32} {v4 : Int32} {v5 : Int32} {o6 : Option Value}
    (ko : xOb sh r0 7)
    (k : xg d qImageWriter_noteCopy [.ref r0] (sh, I, J) (xU (fun h1 => xG d zm_ImageWriter_makeUp (70, [some (.ref r0), some (.ref r1), some (.int v2), some (.int v3), some (.int v4), some (.int v5), o6], []) h1 Q) (fun x h1 => Q (.inr x) h1))) :
    xG d zm_ImageWriter_makeUp (66, [some (.ref r0), some (.ref r1), some (.int v2), some (.int v3), some (.int v4), some (.int v5), o6], []) (sh, I, J) Q := by
  exact xG_N 1 (ps := []) (f1 := (67, [some (.ref r0), some (.ref r1), some (.int v2), some (.int v3), some (.int v4), some (.int v5), o6], [.ref r0])) (h1 := (sh, I, J)) rfl trivial (xG_Cu rfl rfl (Nat.le_of_ble_eq_true rfl) (Nat.le_of_ble_eq_true rfl) ⟨_, _, rfl, ko⟩ rfl k)
set_option maxRecDepth 100000 in
theorem s_ImageWriter_makeUp_70 {d : Nat} {Q : xO → xH → Prop} {sh : List xS} {I : Nat → Nat → Int32} {J : Nat → Nat → Int64} {r0 : Nat} {r1 : Nat} {v2 : Int32} {v3 : Int32} {v4 : Int32} {v5 : Int32} {o6 : Option Value}
    (k : xG d zm_ImageWriter_makeUp (86, [some (.ref r0), some (.ref r1), some (.int v2), some (.int v3), some (.int v4), some (.int v5), some (.int v3)], []) (sh, I, J) Q) :
    xG d zm_ImageWriter_makeUp (70, [some (.ref r0), some (.ref r1), some (.int v2), some (.int v3), some (.int v4), some (.int v5), o6], []) (sh, I, J) Q := by
  exact xG_N 3 (ps := []) (f1 := (86, [some (.ref r0), some (.ref r1), some (.int v2), some (.int v3), some (.int v4), some (.int v5), some (.int v3)], [])) (h1 := (sh, I, J)) rfl trivial (k)
set_option maxRecDepth 100000 in
theorem s_ImageWriter_makeUp_73 {d : Nat} {Q : xO → xH → Prop} {sh : List xS} {I : Nat → Nat → Int32} {J : Nat → Nat → Int64} {r0 : Nat} {r1 : Nat} {v2 : Int32} {v3 : Int32} {v4 : Int32} {v5 : Int32} {o6 : Option Value} {a1 : Nat} {n2 : Nat}
    (e0 : xRr sh r1 8 0 a1)
    (e1 : xAr sh a1 .int n2)
    (e2 : vp_in v3 n2)
    (ko : xOb sh r0 7)
    (k : xg d qImageWriter_notePixel [.ref r0, .int (I a1 v3.toNatClampNeg)] (sh, I, J) (xU (fun h1 => xG d zm_ImageWriter_makeUp (83, [some (.ref r0), some (.ref r1), some (.int v2), some (.int v3), some (.int v4), some (.int v5), o6], []) h1 Q) (fun x h1 => Q (.inr x) h1))) :
    xG d zm_ImageWriter_makeUp (73, [some (.ref r0), some (.ref r1), some (.int v2), some (.int v3), some (.int v4), some (.int v5), o6], []) (sh, I, J) Q := by
  obtain rfl := e0.eq
  obtain rfl := e1.eq
  exact xG_N 5 (ps := [xRf sh r1 8 0, xA sh (xrf sh r1 0) .int, vp_in v3 (xlen sh (xrf sh r1 0))]) (f1 := (80, [some (.ref r0), some (.ref r1), some (.int v2), some (.int v3), some (.int v4), some (.int v5), o6], [.int (I (xrf sh r1 0) v3.toNatClampNeg), .ref r0])) (h1 := (sh, I, J)) rfl ⟨e0.rf, e1.ar, e2⟩ (xG_Cu rfl rfl (Nat.le_of_ble_eq_true rfl) (Nat.le_of_ble_eq_true rfl) ⟨_, _, rfl, ko⟩ rfl k)
set_option maxRecDepth 100000 in
theorem s_ImageWriter_makeUp_83 {d : Nat} {Q : xO → xH → Prop} {sh : List xS} {I : Nat → Nat → Int32} {J : Nat → Nat → Int64} {r0 : Nat} {r1 : Nat} {v2 : Int32} {v3 : Int32} {v4 : Int32} {v5 : Int32} {o6 : Option Value}
    (k : xG d zm_ImageWriter_makeUp (86, [some (.ref r0), some (.ref r1), some (.int v2), some (.int v3), some (.int v4), some (.int v5), some (.int v3)], []) (sh, I, J) Q) :
    xG d zm_ImageWriter_makeUp (83, [some (.ref r0), some (.ref r1), some (.int v2), some (.int v3), some (.int v4), some (.int v5), o6], []) (sh, I, J) Q := by
  exact xG_N 2 (ps := []) (f1 := (86, [some (.ref r0), some (.ref r1), some (.int v2), some (.int v3), some (.int v4), some (.int v5), some (.int v3)], [])) (h1 := (sh, I, J)) rfl trivial (k)
set_option maxRecDepth 100000 in
theorem s_ImageWriter_makeUp_86 {d : Nat} {Q : xO → xH → Prop} {sh : List xS} {I : Nat → Nat → Int32} {J : Nat → Nat → Int64} {r0 : Nat} {r1 : Nat} {v2 : Int32} {v3 : Int32} {v4 : Int32} {v5 : Int32} {v6 : Int32}
    (k1 : (v3 + v5) ≤ v6 → xG d zm_ImageWriter_makeUp (115, [some (.ref r0), some (.ref r1), some (.int v2), some (.int v3), some (.int v4), some (.int v5), some (.int v6)], []) (sh, I, J) Q)
    (k2 : ¬ ((v3 + v5) ≤ v6) → xG d zm_ImageWriter_makeUp (95, [some (.ref r0), some (.ref r1), some (.int v2), some (.int v3), some (.int v4), some (.int v5), some (.int v6)], []) (sh, I, J) Q) :
    xG d zm_ImageWriter_makeUp (86, [some (.ref r0), some (.ref r1), some (.int v2), some (.int v3), some (.int v4), some (.int v5), some (.int v6)], []) (sh, I, J) Q := by
  exact xG_N 4 (ps := []) (f1 := (92, [some (.ref r0), some (.ref r1), some (.int v2), some (.int v3), some (.int v4), some (.int v5), some (.int v6)], [.int (v3 + v5), .int v6])) (h1 := (sh, I, J)) rfl trivial (xG_B rfl rfl k1 k2)
set_option maxRecDepth 100000 in
theorem s_ImageWriter_makeUp_95 {d : Nat} {Q : xO → xH → Prop} {sh : List xS} {I : Nat → Nat → Int32} {J : Nat → Nat → Int64} {r0 : Nat} {r1 : Nat} {v2 : Int32} {v3 : Int32} {v4 : Int32} {v5 : Int32} {v6 : Int32} {a1 : Nat} {a2 : Nat} {n3 : Nat}
    (e0 : xRr sh r0 7 1 a1)
    (e1 : xRr sh r1 8 0 a2)
    (e2 : xAr sh a2 .int n3)
    (e3 : vp_in v6 n3)
    (ko : xOb sh a1 2)
    (k : xg d qCache_keep [.ref a1, .int (I a2 v6.toNatClampNeg)] (sh, I, J) (xU (fun h1 => xG d zm_ImageWriter_makeUp (109, [some (.ref r0), some (.ref r1), some (.int v2), some (.int v3), some (.int v4), some (.int v5), some (.int v6)], []) h1 Q) (fun x h1 => Q (.inr x) h1))) :
    xG d zm_ImageWriter_makeUp (95, [some (.ref r0), some (.ref r1), some (.int v2), some (.int v3), some (.int v4), some (.int v5), some (.int v6)], []) (sh, I, J) Q := by
  obtain rfl := e0.eq
  obtain rfl := e1.eq
  obtain rfl := e2.eq
  exact xG_N 6 (ps := [xRf sh r0 7 1, xRf sh r1 8 0, xA sh (xrf sh r1 0) .int, vp_in v6 (xlen sh (xrf sh r1 0))]) (f1 := (106, [some (.ref r0), some (.ref r1), some (.int v2), some (.int v3), some (.int v4), some (.int v5), some (.int v6)], [.int (I (xrf sh r1 0) v6.toNatClampNeg), .ref (xrf sh r0 1)])) (h1 := (sh, I, J)) rfl ⟨e0.rf, e1.rf, e2.ar, e3⟩ (xG_Cu rfl rfl (Nat.le_of_ble_eq_true rfl) (Nat.le_of_ble_eq_true rfl) ⟨_, _, rfl, ko⟩ rfl k)
set_option maxRecDepth 100000 in
theorem s_ImageWriter_makeUp_109 {d : Nat} {Q : xO → xH → Prop} {sh : List xS} {I : Nat → Nat → Int32} {J : Nat → Nat → Int64} {r0 : Nat} {r1 : Nat} {v2 : Int32} {v3 : Int32} {v4 : Int32} {v5 : Int32} {v6 : Int32}
    (k : xG d zm_ImageWriter_makeUp (86, [some (.ref r0), some (.ref r1), some (.int v2), some (.int v3), some (.int v4), some (.int v5), some (.int (v6 + (1 : Int32)))], []) (sh, I, J) Q) :
    xG d zm_ImageWriter_makeUp (109, [some (.ref r0), some (.ref r1), some (.int v2), some (.int v3), some (.int v4), some (.int v5), some (.int v6)], []) (sh, I, J) Q := by
  exact xG_N 2 (ps := []) (f1 := (86, [some (.ref r0), some (.ref r1), some (.int v2), some (.int v3), some (.int v4), some (.int v5), some (.int (v6 + (1 : Int32)))], [])) (h1 := (sh, I, J)) rfl trivial (k)
set_option maxRecDepth 100000 in
theorem s_ImageWriter_makeUp_115 {d : Nat} {Q : xO → xH → Prop} {sh : List xS} {I : Nat → Nat → Int32} {J : Nat → Nat → Int64} {r0 : Nat} {r1 : Nat} {v2 : Int32} {v3 : Int32} {v4 : Int32} {v5 : Int32} {v6 : Int32}
    (k : xG d zm_ImageWriter_makeUp (25, [some (.ref r0), some (.ref r1), some (.int v2), some (.int (v3 + v5)), some (.int (v4 + (1 : Int32))), some (.int v5), some (.int v6)], []) (sh, I, J) Q) :
    xG d zm_ImageWriter_makeUp (115, [some (.ref r0), some (.ref r1), some (.int v2), some (.int v3), some (.int v4), some (.int v5), some (.int v6)], []) (sh, I, J) Q := by
  exact xG_N 6 (ps := []) (f1 := (25, [some (.ref r0), some (.ref r1), some (.int v2), some (.int (v3 + v5)), some (.int (v4 + (1 : Int32))), some (.int v5), some (.int v6)], [])) (h1 := (sh, I, J)) rfl trivial (k)
set_option maxRecDepth 100000 in
theorem s_ImageWriter_makeUp_126 {d : Nat} {Q : xO → xH → Prop} {sh : List xS} {I : Nat → Nat → Int32} {J : Nat → Nat → Int64} {r0 : Nat} {r1 : Nat} {v2 : Int32} {v3 : Int32} {v4 : Int32} {o5 : Option Value} {o6 : Option Value}
    (k : Q (.inl (none)) (sh, I, J)) :
    xG d zm_ImageWriter_makeUp (126, [some (.ref r0), some (.ref r1), some (.int v2), some (.int v3), some (.int v4), o5, o6], []) (sh, I, J) Q := by
  exact xG_Q rfl rfl trivial k
set_option maxRecDepth 100000 in
theorem s_ImageWriter_findCopy_0 {d : Nat} {Q : xO → xH → Prop} {sh : List xS} {I : Nat → Nat → Int32} {J : Nat → Nat → Int64} {r0 : Nat} {r1 : Nat} {v2 : Int32}
    (e0 : xOb sh r0 7)
    (ko : xOb sh r1 8)
    (k : xg d qPlane_count [.ref r1] (sh, xup (xup I r0 9 (0 : Int32)) r0 10 (0 : Int32), J) (xI (fun v h1 => xG d zm_ImageWriter_findCopy (14, [some (.ref r0), some (.ref r1), some (.int v2), none, none, none], [.int v]) h1 Q) (fun x h1 => Q (.inr x) h1))) :
    xG d zm_ImageWriter_findCopy (0, [some (.ref r0), some (.ref r1), some (.int v2), none, none, none], []) (sh, I, J) Q := by
  exact xG_N 7 (ps := [xOb sh r0 7, xOb sh r0 7]) (f1 := (11, [some (.ref r0), some (.ref r1), some (.int v2), none, none, none], [.ref r1])) (h1 := (sh, xup (xup I r0 9 (0 : Int32)) r0 10 (0 : Int32), J)) rfl ⟨e0, e0⟩ (xG_Ci rfl rfl (Nat.le_of_ble_eq_true rfl) (Nat.le_of_ble_eq_true rfl) ⟨_, _, rfl, ko⟩ rfl k)
set_option maxRecDepth 100000 in
theorem s_ImageWriter_findCopy_14 {d : Nat} {Q : xO → xH → Prop} {sh : List xS} {I : Nat → Nat → Int32} {J : Nat → Nat → Int64} {r0 : Nat} {r1 : Nat} {v2 : Int32} {t0 : Int32}
    (k : xG d zm_ImageWriter_findCopy (20, [some (.ref r0), some (.ref r1), some (.int v2), some (.int (t0 - v2)), some (.int (1 : Int32)), none], []) (sh, I, J) Q) :
    xG d zm_ImageWriter_findCopy (14, [some (.ref r0), some (.ref r1), some (.int v2), none, none, none], [.int t0]) (sh, I, J) Q := by
  exact xG_N 5 (ps := []) (f1 := (20, [some (.ref r0), some (.ref r1), some (.int v2), some (.int (t0 - v2)), some (.int (1 : Int32)), none], [])) (h1 := (sh, I, J)) rfl trivial (k)
set_option maxRecDepth 100000 in
theorem s_ImageWriter_findCopy_20 {d : Nat} {Q : xO → xH → Prop} {sh : List xS} {I : Nat → Nat → Int32} {J : Nat → Nat → Int64} {r0 : Nat} {r1 : Nat} {v2 : Int32} {v3 : Int32} {v4 : Int32} {o5 : Option Value}
    (k1 : v2 < v4 → xG d zm_ImageWriter_findCopy (92, [some (.ref r0), some (.ref r1), some (.int v2), some (.int v3), some (.int v4), o5], []) (sh, I, J) Q)
    (k2 : ¬ (v2 < v4) → xG d zm_ImageWriter_findCopy (26, [some (.ref r0), some (.ref r1), some (.int v2), some (.int v3), some (.int v4), o5], []) (sh, I, J) Q) :
    xG d zm_ImageWriter_findCopy (20, [some (.ref r0), some (.ref r1), some (.int v2), some (.int v3), some (.int v4), o5], []) (sh, I, J) Q := by
  exact xG_N 2 (ps := []) (f1 := (23, [some (.ref r0), some (.ref r1), some (.int v2), some (.int v3), some (.int v4), o5], [.int v2, .int v4])) (h1 := (sh, I, J)) rfl trivial (xG_B rfl rfl k1 k2)
set_option maxRecDepth 100000 in
theorem s_ImageWriter_findCopy_26 {d : Nat} {Q : xO → xH → Prop} {sh : List xS} {I : Nat → Nat → Int32} {J : Nat → Nat → Int64} {r0 : Nat} {r1 : Nat} {v2 : Int32} {v3 : Int32} {v4 : Int32} {o5 : Option Value}
    (k : xG d zm_ImageWriter_findCopy (29, [some (.ref r0), some (.ref r1), some (.int v2), some (.int v3), some (.int v4), some (.int (0 : Int32))], []) (sh, I, J) Q) :
    xG d zm_ImageWriter_findCopy (26, [some (.ref r0), some (.ref r1), some (.int v2), some (.int v3), some (.int v4), o5], []) (sh, I, J) Q := by
  exact xG_N 2 (ps := []) (f1 := (29, [some (.ref r0), some (.ref r1), some (.int v2), some (.int v3), some (.int v4), some (.int (0 : Int32))], [])) (h1 := (sh, I, J)) rfl trivial (k)
set_option maxRecDepth 100000 in
theorem s_ImageWriter_findCopy_29 {d : Nat} {Q : xO → xH → Prop} {sh : List xS} {I : Nat → Nat → Int32} {J : Nat → Nat → Int64} {r0 : Nat} {r1 : Nat} {v2 : Int32} {v3 : Int32} {v4 : Int32} {v5 : Int32}
    (k1 : v3 ≤ v5 → xG d zm_ImageWriter_findCopy (65, [some (.ref r0), some (.ref r1), some (.int v2), some (.int v3), some (.int v4), some (.int v5)], []) (sh, I, J) Q)
    (k2 : ¬ (v3 ≤ v5) → xG d zm_ImageWriter_findCopy (35, [some (.ref r0), some (.ref r1), some (.int v2), some (.int v3), some (.int v4), some (.int v5)], []) (sh, I, J) Q) :
    xG d zm_ImageWriter_findCopy (29, [some (.ref r0), some (.ref r1), some (.int v2), some (.int v3), some (.int v4), some (.int v5)], []) (sh, I, J) Q := by
  exact xG_N 2 (ps := []) (f1 := (32, [some (.ref r0), some (.ref r1), some (.int v2), some (.int v3), some (.int v4), some (.int v5)], [.int v3, .int v5])) (h1 := (sh, I, J)) rfl trivial (xG_B rfl rfl k1 k2)
set_option maxRecDepth 100000 in
theorem s_ImageWriter_findCopy_35 {d : Nat} {Q : xO → xH → Prop} {sh : List xS} {I : Nat → Nat → Int32} {J : Nat → Nat → Int64} {r0 : Nat} {r1 : Nat} {v2 : Int32} {v3 : Int32} {v4 : Int32} {v5 : Int32} {a1 : Nat} {n2 : Nat}
    (e0 : xRr sh r1 8 0 a1)
    (e1 : xAr sh a1 .int n2)
    (e2 : vp_in (v2 + v5) n2)
    (e3 : vp_in ((v2 + v5) - v4) n2)
    (k1 : ¬ (I a1 (v2 + v5).toNatClampNeg) = (I a1 ((v2 + v5) - v4).toNatClampNeg) → xG d zm_ImageWriter_findCopy (65, [some (.ref r0), some (.ref r1), some (.int v2), some (.int v3), some (.int v4), some (.int v5)], []) (sh, I, J) Q)
    (k2 : ¬ (¬ (I a1 (v2 + v5).toNatClampNeg) = (I a1 ((v2 + v5) - v4).toNatClampNeg)) → xG d zm_ImageWriter_findCopy (59, [some (.ref r0), some (.ref r1), some (.int v2), some (.int v3), some (.int v4), some (.int v5)], []) (sh, I, J) Q) :
    xG d zm_ImageWriter_findCopy (35, [some (.ref r0), some (.ref r1), some (.int v2), some (.int v3), some (.int v4), some (.int v5)], []) (sh, I, J) Q := by
  obtain rfl := e0.eq
  obtain rfl := e1.eq
  exact xG_N 14 (ps := [xRf sh r1 8 0, xA sh (xrf sh r1 0) .int, vp_in (v2 + v5) (xlen sh (xrf sh r1 0)), xRf sh r1 8 0, xA sh (xrf sh r1 0) .int, vp_in ((v2 + v5) - v4) (xlen sh (xrf sh r1 0))]) (f1 := (56, [some (.ref r0), some (.ref r1), some (.int v2), some (.int v3), some (.int v4), some (.int v5)], [.int (I (xrf sh r1 0) ((v2 + v5) - v4).toNatClampNeg), .int (I (xrf sh r1 0) (v2 + v5).toNatClampNeg)])) (h1 := (sh, I, J)) rfl ⟨e0.rf, e1.ar, e2, e0.rf, e1.ar, e3⟩ (xG_B rfl rfl k1 k2)
set_option maxRecDepth 100000 in
theorem s_ImageWriter_findCopy_59 {d : Nat} {Q : xO → xH → Prop} {sh : List xS} {I : Nat → Nat → Int32} {J : Nat → Nat → Int64} {r0 : Nat} {r1 : Nat} {v2 : Int32} {v3 : Int32} {v4 : Int32} {v5 : Int32}
    (k : xG d zm_ImageWriter_findCopy (29, [some (.ref r0), some (.ref r1), some (.int v2), some (.int v3), some (.int v4), some (.int (v5 + (1 : Int32)))], []) (sh, I, J) Q) :
    xG d zm_ImageWriter_findCopy (59, [some (.ref r0), some (.ref r1), some (.int v2), some (.int v3), some (.int v4), some (.int v5)], []) (sh, I, J) Q := by
  exact xG_N 2 (ps := []) (f1 := (29, [some (.ref r0), some (.ref r1), some (.int v2), some (.int v3), some (.int v4), some (.int (v5 + (1 : Int32)))], [])) (h1 := (sh, I, J)) rfl trivial (k)
set_option maxRecDepth 100000 in
theorem s_ImageWriter_findCopy_65 {d : Nat} {Q : xO → xH → Prop} {sh : List xS} {I : Nat → Nat → Int32} {J : Nat → Nat → Int64} {r0 : Nat} {r1 : Nat} {v2 : Int32} {v3 : Int32} {v4 : Int32} {v5 : Int32}
    (e0 : xOb sh r0 7)
    (k1 : v5 ≤ (I r0 9) → xG d zm_ImageWriter_findCopy (86, [some (.ref r0), some (.ref r1), some (.int v2), some (.int v3), some (.int v4), some (.int v5)], []) (sh, I, J) Q)
    (k2 : ¬ (v5 ≤ (I r0 9)) → xG d zm_ImageWriter_findCopy (74, [some (.ref r0), some (.ref r1), some (.int v2), some (.int v3), some (.int v4), some (.int v5)], []) (sh, I, J) Q) :
    xG d zm_ImageWriter_findCopy (65, [some (.ref r0), some (.ref r1), some (.int v2), some (.int v3), some (.int v4), some (.int v5)], []) (sh, I, J) Q := by
  exact xG_N 3 (ps := [xOb sh r0 7]) (f1 := (71, [some (.ref r0), some (.ref r1), some (.int v2), some (.int v3), some (.int v4), some (.int v5)], [.int (I r0 9), .int v5])) (h1 := (sh, I, J)) rfl e0 (xG_B rfl rfl k1 k2)
set_option maxRecDepth 100000 in
theorem s_ImageWriter_findCopy_74 {d : Nat} {Q : xO → xH → Prop} {sh : List xS} {I : Nat → Nat → Int32} {J : Nat → Nat → Int64} {r0 : Nat} {r1 : Nat} {v2 : Int32} {v3 : Int32} {v4 : Int32} {v5 : Int32}
    (e0 : xOb sh r0 7)
    (k : xG d zm_ImageWriter_findCopy (20, [some (.ref r0), some (.ref r1), some (.int v2), some (.int v3), some (.int (v4 + (1 : Int32))), some (.int v5)], []) (sh, xup (xup I r0 9 v5) r0 10 v4, J) Q) :
    xG d zm_ImageWriter_findCopy (74, [some (.ref r0), some (.ref r1), some (.int v2), some (.int v3), some (.int v4), some (.int v5)], []) (sh, I, J) Q := by
  exact xG_N 8 (ps := [xOb sh r0 7, xOb sh r0 7]) (f1 := (20, [some (.ref r0), some (.ref r1), some (.int v2), some (.int v3), some (.int (v4 + (1 : Int32))), some (.int v5)], [])) (h1 := (sh, xup (xup I r0 9 v5) r0 10 v4, J)) rfl ⟨e0, e0⟩ (k)
set_option maxRecDepth 100000 in
theorem s_ImageWriter_findCopy_86 {d : Nat} {Q : xO → xH → Prop} {sh : List xS} {I : Nat → Nat → Int32} {J : Nat → Nat → Int64} {r0 : Nat} {r1 : Nat} {v2 : Int32} {v3 : Int32} {v4 : Int32} {v5 : Int32}
    (k : xG d zm_ImageWriter_findCopy (20, [some (.ref r0), some (.ref r1), some (.int v2), some (.int v3), some (.int (v4 + (1 : Int32))), some (.int v5)], []) (sh, I, J) Q) :
    xG d zm_ImageWriter_findCopy (86, [some (.ref r0), some (.ref r1), some (.int v2), some (.int v3), some (.int v4), some (.int v5)], []) (sh, I, J) Q := by
  exact xG_N 2 (ps := []) (f1 := (20, [some (.ref r0), some (.ref r1), some (.int v2), some (.int v3), some (.int (v4 + (1 : Int32))), some (.int v5)], [])) (h1 := (sh, I, J)) rfl trivial (k)
set_option maxRecDepth 100000 in
theorem s_ImageWriter_findCopy_92 {d : Nat} {Q : xO → xH → Prop} {sh : List xS} {I : Nat → Nat → Int32} {J : Nat → Nat → Int64} {r0 : Nat} {r1 : Nat} {v2 : Int32} {v3 : Int32} {v4 : Int32} {o5 : Option Value}
    (k : Q (.inl (none)) (sh, I, J)) :
    xG d zm_ImageWriter_findCopy (92, [some (.ref r0), some (.ref r1), some (.int v2), some (.int v3), some (.int v4), o5], []) (sh, I, J) Q := by
  exact xG_Q rfl rfl trivial k
set_option maxRecDepth 100000 in
theorem s_ImageWriter_noteCopy_0 {d : Nat} {Q : xO → xH → Prop} {sh : List xS} {I : Nat → Nat → Int32} {J : Nat → Nat → Int64} {r0 : Nat}
    (e0 : xOb sh r0 7)
    (k : xg d qCodes_prefixOf [.int (I r0 9)] (sh, I, J) (xI (fun v h1 => xG d zm_ImageWriter_noteCopy (7, [some (.ref r0), none, none], [.int v]) h1 Q) (fun x h1 => Q (.inr x) h1))) :
    xG d zm_ImageWriter_noteCopy (0, [some (.ref r0), none, none], []) (sh, I, J) Q := by
  exact xG_N 2 (ps := [xOb sh r0 7]) (f1 := (4, [some (.ref r0), none, none], [.int (I r0 9)])) (h1 := (sh, I, J)) rfl e0 (xG_Ci rfl rfl (Nat.le_of_ble_eq_true rfl) (Nat.le_of_ble_eq_true rfl) trivial rfl k)
set_option maxRecDepth 100000 in
theorem s_ImageWriter_noteCopy_7 {d : Nat} {Q : xO → xH → Prop} {sh : List xS} {I : Nat → Nat → Int32} {J : Nat → Nat → Int64} {r0 : Nat} {t0 : Int32}
    (e0 : xOb sh r0 7)
    (k : xg d qCodes_leastNumber [.int t0] (sh, I, J) (xI (fun v h1 => xG d zm_ImageWriter_noteCopy (23, [some (.ref r0), some (.int t0), none], [.int v, .int (I r0 9), .int ((256 : Int32) + t0), .int (0 : Int32), .ref r0]) h1 Q) (fun x h1 => Q (.inr x) h1))) :
    xG d zm_ImageWriter_noteCopy (7, [some (.ref r0), none, none], [.int t0]) (sh, I, J) Q := by
  exact xG_N 9 (ps := [xOb sh r0 7]) (f1 := (20, [some (.ref r0), some (.int t0), none], [.int t0, .int (I r0 9), .int ((256 : Int32) + t0), .int (0 : Int32), .ref r0])) (h1 := (sh, I, J)) rfl e0 (xG_Ci rfl rfl (Nat.le_of_ble_eq_true rfl) (Nat.le_of_ble_eq_true rfl) trivial rfl k)
set_option maxRecDepth 100000 in
theorem s_ImageWriter_noteCopy_23 {d : Nat} {Q : xO → xH → Prop} {sh : List xS} {I : Nat → Nat → Int32} {J : Nat → Nat → Int64} {r0 : Nat} {v1 : Int32} {t0 : Nat} {t1 : Int32} {t2 : Int32} {t3 : Int32} {t4 : Int32}
    (ko : xOb sh t0 7)
    (k : xg d qImageWriter_note [.ref t0, .int t1, .int t2, .int (t3 - t4)] (sh, I, J) (xU (fun h1 => xG d zm_ImageWriter_noteCopy (27, [some (.ref r0), some (.int v1), none], []) h1 Q) (fun x h1 => Q (.inr x) h1))) :
    xG d zm_ImageWriter_noteCopy (23, [some (.ref r0), some (.int v1), none], [.int t4, .int t3, .int t2, .int t1, .ref t0]) (sh, I, J) Q := by
  exact xG_N 1 (ps := []) (f1 := (24, [some (.ref r0), some (.int v1), none], [.int (t3 - t4), .int t2, .int t1, .ref t0])) (h1 := (sh, I, J)) rfl trivial (xG_Cu rfl rfl (Nat.le_of_ble_eq_true rfl) (Nat.le_of_ble_eq_true rfl) ⟨_, _, rfl, ko⟩ rfl k)
set_option maxRecDepth 100000 in
theorem s_ImageWriter_noteCopy_27 {d : Nat} {Q : xO → xH → Prop} {sh : List xS} {I : Nat → Nat → Int32} {J : Nat → Nat → Int64} {r0 : Nat} {v1 : Int32}
    (e0 : xOb sh r0 7)
    (k : xg d qCodes_prefixOf [.int ((I r0 10) + (8 : Int32))] (sh, I, J) (xI (fun v h1 => xG d zm_ImageWriter_noteCopy (39, [some (.ref r0), some (.int v1), some (.int ((I r0 10) + (8 : Int32)))], [.int v]) h1 Q) (fun x h1 => Q (.inr x) h1))) :
    xG d zm_ImageWriter_noteCopy (27, [some (.ref r0), some (.int v1), none], []) (sh, I, J) Q := by
  exact xG_N 6 (ps := [xOb sh r0 7]) (f1 := (36, [some (.ref r0), some (.int v1), some (.int ((I r0 10) + (8 : Int32)))], [.int ((I r0 10) + (8 : Int32))])) (h1 := (sh, I, J)) rfl e0 (xG_Ci rfl rfl (Nat.le_of_ble_eq_true rfl) (Nat.le_of_ble_eq_true rfl) trivial rfl k)
set_option maxRecDepth 100000 in
theorem s_ImageWriter_noteCopy_39 {d : Nat} {Q : xO → xH → Prop} {sh : List xS} {I : Nat → Nat → Int32} {J : Nat → Nat → Int64} {r0 : Nat} {v1 : Int32} {v2 : Int32} {t0 : Int32}
    (k : xg d qCodes_leastNumber [.int t0] (sh, I, J) (xI (fun v h1 => xG d zm_ImageWriter_noteCopy (48, [some (.ref r0), some (.int t0), some (.int v2)], [.int v, .int v2, .int t0, .int (4 : Int32), .ref r0]) h1 Q) (fun x h1 => Q (.inr x) h1))) :
    xG d zm_ImageWriter_noteCopy (39, [some (.ref r0), some (.int v1), some (.int v2)], [.int t0]) (sh, I, J) Q := by
  exact xG_N 6 (ps := []) (f1 := (45, [some (.ref r0), some (.int t0), some (.int v2)], [.int t0, .int v2, .int t0, .int (4 : Int32), .ref r0])) (h1 := (sh, I, J)) rfl trivial (xG_Ci rfl rfl (Nat.le_of_ble_eq_true rfl) (Nat.le_of_ble_eq_true rfl) trivial rfl k)
set_option maxRecDepth 100000 in
theorem s_ImageWriter_noteCopy_48 {d : Nat} {Q : xO → xH → Prop} {sh : List xS} {I : Nat → Nat → Int32} {J : Nat → Nat → Int64} {r0 : Nat} {v1 : Int32} {v2 : Int32} {t0 : Nat} {t1 : Int32} {t2 : Int32} {t3 : Int32} {t4 : Int32}
    (ko : xOb sh t0 7)
    (k : xg d qImageWriter_note [.ref t0, .int t1, .int t2, .int (t3 - t4)] (sh, I, J) (xU (fun h1 => xG d zm_ImageWriter_noteCopy (52, [some (.ref r0), some (.int v1), some (.int v2)], []) h1 Q) (fun x h1 => Q (.inr x) h1))) :
    xG d zm_ImageWriter_noteCopy (48, [some (.ref r0), some (.int v1), some (.int v2)], [.int t4, .int t3, .int t2, .int t1, .ref t0]) (sh, I, J) Q := by
  exact xG_N 1 (ps := []) (f1 := (49, [some (.ref r0), some (.int v1), some (.int v2)], [.int (t3 - t4), .int t2, .int t1, .ref t0])) (h1 := (sh, I, J)) rfl trivial (xG_Cu rfl rfl (Nat.le_of_ble_eq_true rfl) (Nat.le_of_ble_eq_true rfl) ⟨_, _, rfl, ko⟩ rfl k)
set_option maxRecDepth 100000 in
theorem s_ImageWriter_noteCopy_52 {d : Nat} {Q : xO → xH → Prop} {sh : List xS} {I : Nat → Nat → Int32} {J : Nat → Nat → Int64} {r0 : Nat} {v1 : Int32} {v2 : Int32}
    (e0 : xOb sh r0 7)
    (k : Q (.inl (none)) (sh, xup I r0 7 ((I r0 7) + (1 : Int32)), J)) :
    xG d zm_ImageWriter_noteCopy (52, [some (.ref r0), some (.int v1), some (.int v2)], []) (sh, I, J) Q := by
  exact xG_N 6 (ps := [xOb sh r0 7, xOb sh r0 7]) (f1 := (62, [some (.ref r0), some (.int v1), some (.int v2)], [])) (h1 := (sh, xup I r0 7 ((I r0 7) + (1 : Int32)), J)) rfl ⟨e0, e0⟩ (xG_Q rfl rfl trivial k)
set_option maxRecDepth 100000 in
theorem s_ImageWriter_notePixel_0 {d : Nat} {Q : xO → xH → Prop} {sh : List xS} {I : Nat → Nat → Int32} {J : Nat → Nat → Int64} {r0 : Nat} {v1 : Int32} {a1 : Nat}
    (e0 : xRr sh r0 7 1 a1)
    (ko : xOb sh a1 2)
    (k : xg d qCache_has [.ref a1, .int v1] (sh, I, J) (xI (fun v h1 => xG d zm_ImageWriter_notePixel (8, [some (.ref r0), some (.int v1)], [.int v]) h1 Q) (fun x h1 => Q (.inr x) h1))) :
    xG d zm_ImageWriter_notePixel (0, [some (.ref r0), some (.int v1)], []) (sh, I, J) Q := by
  obtain rfl := e0.eq
  exact xG_N 3 (ps := [xRf sh r0 7 1]) (f1 := (5, [some (.ref r0), some (.int v1)], [.int v1, .ref (xrf sh r0 1)])) (h1 := (sh, I, J)) rfl e0.rf (xG_Ci rfl rfl (Nat.le_of_ble_eq_true rfl) (Nat.le_of_ble_eq_true rfl) ⟨_, _, rfl, ko⟩ rfl k)
set_option maxRecDepth 100000 in
theorem s_ImageWriter_notePixel_8 {d : Nat} {Q : xO → xH → Prop} {sh : List xS} {I : Nat → Nat → Int32} {J : Nat → Nat → Int64} {r0 : Nat} {v1 : Int32} {t0 : Int32}
    (k1 : t0 = 0 → xG d zm_ImageWriter_notePixel (40, [some (.ref r0), some (.int v1)], []) (sh, I, J) Q)
    (k2 : ¬ (t0 = 0) → xG d zm_ImageWriter_notePixel (11, [some (.ref r0), some (.int v1)], []) (sh, I, J) Q) :
    xG d zm_ImageWriter_notePixel (8, [some (.ref r0), some (.int v1)], [.int t0]) (sh, I, J) Q := by
  exact xG_B rfl rfl k1 k2
set_option maxRecDepth 100000 in
theorem s_ImageWriter_notePixel_11 {d : Nat} {Q : xO → xH → Prop} {sh : List xS} {I : Nat → Nat → Int32} {J : Nat → Nat → Int64} {r0 : Nat} {v1 : Int32} {a1 : Nat}
    (e0 : xRr sh r0 7 1 a1)
    (ko : xOb sh a1 2)
    (k : xg d qCache_placeOf [.ref a1, .int v1] (sh, I, J) (xI (fun v h1 => xG d zm_ImageWriter_notePixel (24, [some (.ref r0), some (.int v1)], [.int v, .int (280 : Int32), .int (0 : Int32), .ref r0]) h1 Q) (fun x h1 => Q (.inr x) h1))) :
    xG d zm_ImageWriter_notePixel (11, [some (.ref r0), some (.int v1)], []) (sh, I, J) Q := by
  obtain rfl := e0.eq
  exact xG_N 6 (ps := [xRf sh r0 7 1]) (f1 := (21, [some (.ref r0), some (.int v1)], [.int v1, .ref (xrf sh r0 1), .int (280 : Int32), .int (0 : Int32), .ref r0])) (h1 := (sh, I, J)) rfl e0.rf (xG_Ci rfl rfl (Nat.le_of_ble_eq_true rfl) (Nat.le_of_ble_eq_true rfl) ⟨_, _, rfl, ko⟩ rfl k)
set_option maxRecDepth 100000 in
theorem s_ImageWriter_notePixel_24 {d : Nat} {Q : xO → xH → Prop} {sh : List xS} {I : Nat → Nat → Int32} {J : Nat → Nat → Int64} {r0 : Nat} {v1 : Int32} {t0 : Nat} {t1 : Int32} {t2 : Int32} {t3 : Int32}
    (ko : xOb sh t0 7)
    (k : xg d qImageWriter_note [.ref t0, .int t1, .int (t2 + t3), .int (0 : Int32)] (sh, I, J) (xU (fun h1 => xG d zm_ImageWriter_notePixel (29, [some (.ref r0), some (.int v1)], []) h1 Q) (fun x h1 => Q (.inr x) h1))) :
    xG d zm_ImageWriter_notePixel (24, [some (.ref r0), some (.int v1)], [.int t3, .int t2, .int t1, .ref t0]) (sh, I, J) Q := by
  exact xG_N 2 (ps := []) (f1 := (26, [some (.ref r0), some (.int v1)], [.int (0 : Int32), .int (t2 + t3), .int t1, .ref t0])) (h1 := (sh, I, J)) rfl trivial (xG_Cu rfl rfl (Nat.le_of_ble_eq_true rfl) (Nat.le_of_ble_eq_true rfl) ⟨_, _, rfl, ko⟩ rfl k)
set_option maxRecDepth 100000 in
theorem s_ImageWriter_notePixel_29 {d : Nat} {Q : xO → xH → Prop} {sh : List xS} {I : Nat → Nat → Int32} {J : Nat → Nat → Int64} {r0 : Nat} {v1 : Int32}
    (e0 : xOb sh r0 7)
    (k : Q (.inl (none)) (sh, xup I r0 8 ((I r0 8) + (1 : Int32)), J)) :
    xG d zm_ImageWriter_notePixel (29, [some (.ref r0), some (.int v1)], []) (sh, I, J) Q := by
  exact xG_N 6 (ps := [xOb sh r0 7, xOb sh r0 7]) (f1 := (39, [some (.ref r0), some (.int v1)], [])) (h1 := (sh, xup I r0 8 ((I r0 8) + (1 : Int32)), J)) rfl ⟨e0, e0⟩ (xG_Q rfl rfl trivial k)
set_option maxRecDepth 100000 in
theorem s_ImageWriter_notePixel_40 {d : Nat} {Q : xO → xH → Prop} {sh : List xS} {I : Nat → Nat → Int32} {J : Nat → Nat → Int64} {r0 : Nat} {v1 : Int32}
    (k : xg d qL_part [.int v1, .int (8 : Int32)] (sh, I, J) (xI (fun v h1 => xG d zm_ImageWriter_notePixel (48, [some (.ref r0), some (.int v1)], [.int v, .int (0 : Int32), .ref r0]) h1 Q) (fun x h1 => Q (.inr x) h1))) :
    xG d zm_ImageWriter_notePixel (40, [some (.ref r0), some (.int v1)], []) (sh, I, J) Q := by
  exact xG_N 4 (ps := []) (f1 := (45, [some (.ref r0), some (.int v1)], [.int (8 : Int32), .int v1, .int (0 : Int32), .ref r0])) (h1 := (sh, I, J)) rfl trivial (xG_Ci rfl rfl (Nat.le_of_ble_eq_true rfl) (Nat.le_of_ble_eq_true rfl) trivial rfl k)
set_option maxRecDepth 100000 in
theorem s_ImageWriter_notePixel_48 {d : Nat} {Q : xO → xH → Prop} {sh : List xS} {I : Nat → Nat → Int32} {J : Nat → Nat → Int64} {r0 : Nat} {v1 : Int32} {t0 : Nat} {t1 : Int32} {t2 : Int32}
    (ko : xOb sh t0 7)
    (k : xg d qImageWriter_note [.ref t0, .int t1, .int t2, .int (0 : Int32)] (sh, I, J) (xU (fun h1 => xG d zm_ImageWriter_notePixel (52, [some (.ref r0), some (.int v1)], []) h1 Q) (fun x h1 => Q (.inr x) h1))) :
    xG d zm_ImageWriter_notePixel (48, [some (.ref r0), some (.int v1)], [.int t2, .int t1, .ref t0]) (sh, I, J) Q := by
  exact xG_N 1 (ps := []) (f1 := (49, [some (.ref r0), some (.int v1)], [.int (0 : Int32), .int t2, .int t1, .ref t0])) (h1 := (sh, I, J)) rfl trivial (xG_Cu rfl rfl (Nat.le_of_ble_eq_true rfl) (Nat.le_of_ble_eq_true rfl) ⟨_, _, rfl, ko⟩ rfl k)
set_option maxRecDepth 100000 in
theorem s_ImageWriter_notePixel_52 {d : Nat} {Q : xO → xH → Prop} {sh : List xS} {I : Nat → Nat → Int32} {J : Nat → Nat → Int64} {r0 : Nat} {v1 : Int32}
    (k : xg d qL_part [.int v1, .int (16 : Int32)] (sh, I, J) (xI (fun v h1 => xG d zm_ImageWriter_notePixel (60, [some (.ref r0), some (.int v1)], [.int v, .int (1 : Int32), .ref r0]) h1 Q) (fun x h1 => Q (.inr x) h1))) :
    xG d zm_ImageWriter_notePixel (52, [some (.ref r0), some (.int v1)], []) (sh, I, J) Q := by
  exact xG_N 4 (ps := []) (f1 := (57, [some (.ref r0), some (.int v1)], [.int (16 : Int32), .int v1, .int (1 : Int32), .ref r0])) (h1 := (sh, I, J)) rfl trivial (xG_Ci rfl rfl (Nat.le_of_ble_eq_true rfl) (Nat.le_of_ble_eq_true rfl) trivial rfl k)
set_option maxRecDepth 100000 in
theorem s_ImageWriter_notePixel_60 {d : Nat} {Q : xO → xH → Prop} {sh : List xS} {I : Nat → Nat → Int32} {J : Nat → Nat → Int64} {r0 : Nat} {v1 : Int32} {t0 : Nat} {t1 : Int32} {t2 : Int32}
    (ko : xOb sh t0 7)
    (k : xg d qImageWriter_note [.ref t0, .int t1, .int t2, .int (0 : Int32)] (sh, I, J) (xU (fun h1 => xG d zm_ImageWriter_notePixel (64, [some (.ref r0), some (.int v1)], []) h1 Q) (fun x h1 => Q (.inr x) h1))) :
    xG d zm_ImageWriter_notePixel (60, [some (.ref r0), some (.int v1)], [.int t2, .int t1, .ref t0]) (sh, I, J) Q := by
  exact xG_N 1 (ps := []) (f1 := (61, [some (.ref r0), some (.int v1)], [.int (0 : Int32), .int t2, .int t1, .ref t0])) (h1 := (sh, I, J)) rfl trivial (xG_Cu rfl rfl (Nat.le_of_ble_eq_true rfl) (Nat.le_of_ble_eq_true rfl) ⟨_, _, rfl, ko⟩ rfl k)
set_option maxRecDepth 100000 in
theorem s_ImageWriter_notePixel_64 {d : Nat} {Q : xO → xH → Prop} {sh : List xS} {I : Nat → Nat → Int32} {J : Nat → Nat → Int64} {r0 : Nat} {v1 : Int32}
    (k : xg d qL_part [.int v1, .int (0 : Int32)] (sh, I, J) (xI (fun v h1 => xG d zm_ImageWriter_notePixel (71, [some (.ref r0), some (.int v1)], [.int v, .int (2 : Int32), .ref r0]) h1 Q) (fun x h1 => Q (.inr x) h1))) :
    xG d zm_ImageWriter_notePixel (64, [some (.ref r0), some (.int v1)], []) (sh, I, J) Q := by
  exact xG_N 4 (ps := []) (f1 := (68, [some (.ref r0), some (.int v1)], [.int (0 : Int32), .int v1, .int (2 : Int32), .ref r0])) (h1 := (sh, I, J)) rfl trivial (xG_Ci rfl rfl (Nat.le_of_ble_eq_true rfl) (Nat.le_of_ble_eq_true rfl) trivial rfl k)
set_option maxRecDepth 100000 in
theorem s_ImageWriter_notePixel_71 {d : Nat} {Q : xO → xH → Prop} {sh : List xS} {I : Nat → Nat → Int32} {J : Nat → Nat → Int64} {r0 : Nat} {v1 : Int32} {t0 : Nat} {t1 : Int32} {t2 : Int32}
    (ko : xOb sh t0 7)
    (k : xg d qImageWriter_note [.ref t0, .int t1, .int t2, .int (0 : Int32)] (sh, I, J) (xU (fun h1 => xG d zm_ImageWriter_notePixel (75, [some (.ref r0), some (.int v1)], []) h1 Q) (fun x h1 => Q (.inr x) h1))) :
    xG d zm_ImageWriter_notePixel (71, [some (.ref r0), some (.int v1)], [.int t2, .int t1, .ref t0]) (sh, I, J) Q := by
  exact xG_N 1 (ps := []) (f1 := (72, [some (.ref r0), some (.int v1)], [.int (0 : Int32), .int t2, .int t1, .ref t0])) (h1 := (sh, I, J)) rfl trivial (xG_Cu rfl rfl (Nat.le_of_ble_eq_true rfl) (Nat.le_of_ble_eq_true rfl) ⟨_, _, rfl, ko⟩ rfl k)
set_option maxRecDepth 100000 in
theorem s_ImageWriter_notePixel_75 {d : Nat} {Q : xO → xH → Prop} {sh : List xS} {I : Nat → Nat → Int32} {J : Nat → Nat → Int64} {r0 : Nat} {v1 : Int32}
    (k : xg d qL_part [.int v1, .int (24 : Int32)] (sh, I, J) (xI (fun v h1 => xG d zm_ImageWriter_notePixel (83, [some (.ref r0), some (.int v1)], [.int v, .int (3 : Int32), .ref r0]) h1 Q) (fun x h1 => Q (.inr x) h1))) :
    xG d zm_ImageWriter_notePixel (75, [some (.ref r0), some (.int v1)], []) (sh, I, J) Q := by
  exact xG_N 4 (ps := []) (f1 := (80, [some (.ref r0), some (.int v1)], [.int (24 : Int32), .int v1, .int (3 : Int32), .ref r0])) (h1 := (sh, I, J)) rfl trivial (xG_Ci rfl rfl (Nat.le_of_ble_eq_true rfl) (Nat.le_of_ble_eq_true rfl) trivial rfl k)
set_option maxRecDepth 100000 in
theorem s_ImageWriter_notePixel_83 {d : Nat} {Q : xO → xH → Prop} {sh : List xS} {I : Nat → Nat → Int32} {J : Nat → Nat → Int64} {r0 : Nat} {v1 : Int32} {t0 : Nat} {t1 : Int32} {t2 : Int32}
    (ko : xOb sh t0 7)
    (k : xg d qImageWriter_note [.ref t0, .int t1, .int t2, .int (0 : Int32)] (sh, I, J) (xU (fun h1 => xG d zm_ImageWriter_notePixel (87, [some (.ref r0), some (.int v1)], []) h1 Q) (fun x h1 => Q (.inr x) h1))) :
    xG d zm_ImageWriter_notePixel (83, [some (.ref r0), some (.int v1)], [.int t2, .int t1, .ref t0]) (sh, I, J) Q := by
  exact xG_N 1 (ps := []) (f1 := (84, [some (.ref r0), some (.int v1)], [.int (0 : Int32), .int t2, .int t1, .ref t0])) (h1 := (sh, I, J)) rfl trivial (xG_Cu rfl rfl (Nat.le_of_ble_eq_true rfl) (Nat.le_of_ble_eq_true rfl) ⟨_, _, rfl, ko⟩ rfl k)
set_option maxRecDepth 100000 in
theorem s_ImageWriter_notePixel_87 {d : Nat} {Q : xO → xH → Prop} {sh : List xS} {I : Nat → Nat → Int32} {J : Nat → Nat → Int64} {r0 : Nat} {v1 : Int32}
    (k : Q (.inl (none)) (sh, I, J)) :
    xG d zm_ImageWriter_notePixel (87, [some (.ref r0), some (.int v1)], []) (sh, I, J) Q := by
  exact xG_Q rfl rfl trivial k
set_option maxRecDepth 100000 in
theorem s_ImageWriter_note_0 {d : Nat} {Q : xO → xH → Prop} {sh : List xS} {I : Nat → Nat → Int32} {J : Nat → Nat → Int64} {r0 : Nat} {v1 : Int32} {v2 : Int32} {v3 : Int32} {a1 : Nat} {n2 : Nat} {a3 : Nat} {n4 : Nat} {a5 : Nat} {n6 : Nat} {a7 : Nat}
    (e0 : xRr sh r0 7 3 a1)
    (e1 : xAr sh a1 .int n2)
    (e2 : 4 ≤ a1)
    (e3 : vp_in (I r0 6) n2)
    (e4 : xRr sh r0 7 4 a3)
    (e5 : xAr sh a3 .int n4)
    (e6 : 4 ≤ a3)
    (e7 : vp_in ((xup I a1 (I r0 6).toNatClampNeg v1) r0 6) n4)
    (e8 : xRr sh r0 7 5 a5)
    (e9 : xAr sh a5 .int n6)
    (e10 : 4 ≤ a5)
    (e11 : vp_in ((xup (xup I a1 (I r0 6).toNatClampNeg v1) a3 ((xup I a1 (I r0 6).toNatClampNeg v1) r0 6).toNatClampNeg v2) r0 6) n6)
    (e12 : xRr sh r0 7 0 a7)
    (ko : xOb sh a7 5)
    (k : xg d qCodes_of [.ref a7, .int v1] (sh, xup (xup (xup (xup I a1 (I r0 6).toNatClampNeg v1) a3 ((xup I a1 (I r0 6).toNatClampNeg v1) r0 6).toNatClampNeg v2) a5 ((xup (xup I a1 (I r0 6).toNatClampNeg v1) a3 ((xup I a1 (I r0 6).toNatClampNeg v1) r0 6).toNatClampNeg v2) r0 6).toNatClampNeg v3) r0 6 (((xup (xup (xup I a1 (I r0 6).toNatClampNeg v1) a3 ((xup I a1 (I r0 6).toNatClampNeg v1) r0 6).toNatClampNeg v2) a5 ((xup (xup I a1 (I r0 6).toNatClampNeg v1) a3 ((xup I a1 (I r0 6).toNatClampNeg v1) r0 6).toNatClampNeg v2) r0 6).toNatClampNeg v3) r0 6) + (1 : Int32)), J) (xP (fun v h1 => xG d zm_ImageWriter_note (48, [some (.ref r0), some (.int v1), some (.int v2), some (.int v3)], [.ref v]) h1 Q) (fun x h1 => Q (.inr x) h1))) :
    xG d zm_ImageWriter_note (0, [some (.ref r0), some (.int v1), some (.int v2), some (.int v3)], []) (sh, I, J) Q := by
  obtain rfl := e0.eq
  obtain rfl := e1.eq
  obtain rfl := e4.eq
  obtain rfl := e5.eq
  obtain rfl := e8.eq
  obtain rfl := e9.eq
  obtain rfl := e12.eq
  exact xG_N 27 (ps := [xRf sh r0 7 3, xOb sh r0 7, xW sh (xrf sh r0 3) .int, vp_in (I r0 6) (xlen sh (xrf sh r0 3)), xRf sh r0 7 4, xOb sh r0 7, xW sh (xrf sh r0 4) .int, vp_in ((xup I (xrf sh r0 3) (I r0 6).toNatClampNeg v1) r0 6) (xlen sh (xrf sh r0 4)), xRf sh r0 7 5, xOb sh r0 7, xW sh (xrf sh r0 5) .int, vp_in ((xup (xup I (xrf sh r0 3) (I r0 6).toNatClampNeg v1) (xrf sh r0 4) ((xup I (xrf sh r0 3) (I r0 6).toNatClampNeg v1) r0 6).toNatClampNeg v2) r0 6) (xlen sh (xrf sh r0 5)), xOb sh r0 7, xOb sh r0 7, xRf sh r0 7 0]) (f1 := (45, [some (.ref r0), some (.int v1), some (.int v2), some (.int v3)], [.int v1, .ref (xrf sh r0 0)])) (h1 := (sh, xup (xup (xup (xup I (xrf sh r0 3) (I r0 6).toNatClampNeg v1) (xrf sh r0 4) ((xup I (xrf sh r0 3) (I r0 6).toNatClampNeg v1) r0 6).toNatClampNeg v2) (xrf sh r0 5) ((xup (xup I (xrf sh r0 3) (I r0 6).toNatClampNeg v1) (xrf sh r0 4) ((xup I (xrf sh r0 3) (I r0 6).toNatClampNeg v1) r0 6).toNatClampNeg v2) r0 6).toNatClampNeg v3) r0 6 (((xup (xup (xup I (xrf sh r0 3) (I r0 6).toNatClampNeg v1) (xrf sh r0 4) ((xup I (xrf sh r0 3) (I r0 6).toNatClampNeg v1) r0 6).toNatClampNeg v2) (xrf sh r0 5) ((xup (xup I (xrf sh r0 3) (I r0 6).toNatClampNeg v1) (xrf sh r0 4) ((xup I (xrf sh r0 3) (I r0 6).toNatClampNeg v1) r0 6).toNatClampNeg v2) r0 6).toNatClampNeg v3) r0 6) + (1 : Int32)), J)) rfl ⟨e0.rf, e0.ob, ⟨e1.ar, e2⟩, e3, e4.rf, e0.ob, ⟨e5.ar, e6⟩, e7, e8.rf, e0.ob, ⟨e9.ar, e10⟩, e11, e0.ob, e0.ob, e12.rf⟩ (xG_Cp rfl rfl (Nat.le_of_ble_eq_true rfl) (Nat.le_of_ble_eq_true rfl) ⟨_, _, rfl, ko⟩ rfl k)
set_option maxRecDepth 100000 in
theorem s_ImageWriter_note_48 {d : Nat} {Q : xO → xH → Prop} {sh : List xS} {I : Nat → Nat → Int32} {J : Nat → Nat → Int64} {r0 : Nat} {v1 : Int32} {v2 : Int32} {v3 : Int32} {t0 : Nat} {a1 : Nat} {n2 : Nat}
    (e0 : xRr sh t0 3 0 a1)
    (e1 : xAr sh a1 .int n2)
    (e2 : 4 ≤ a1)
    (e3 : vp_in v2 n2)
    (k : Q (.inl (none)) (sh, xup I a1 v2.toNatClampNeg (1 : Int32), J)) :
    xG d zm_ImageWriter_note (48, [some (.ref r0), some (.int v1), some (.int v2), some (.int v3)], [.ref t0]) (sh, I, J) Q := by
  obtain rfl := e0.eq
  obtain rfl := e1.eq
  exact xG_N 4 (ps := [xRf sh t0 3 0, xW sh (xrf sh t0 0) .int, vp_in v2 (xlen sh (xrf sh t0 0))]) (f1 := (54, [some (.ref r0), some (.int v1), some (.int v2), some (.int v3)], [])) (h1 := (sh, xup I (xrf sh t0 0) v2.toNatClampNeg (1 : Int32), J)) rfl ⟨e0.rf, ⟨e1.ar, e2⟩, e3⟩ (xG_Q rfl rfl trivial k)
set_option maxRecDepth 100000 in
theorem s_L_init_0 {d : Nat} {Q : xO → xH → Prop} {sh : List xS} {I : Nat → Nat → Int32} {J : Nat → Nat → Int64} {r0 : Nat}
    (k : xG d zm_L_init (8, [some (.ref r0), none, none], [.ref sh.length, .ref r0]) (sh ++ [.inr (8, zdf 8)], xzer I sh.length, xzerL J sh.length) Q) :
    xG d zm_L_init (0, [some (.ref r0), none, none], []) (sh, I, J) Q := by
  exact xG_N 4 (ps := [(([] : List Value).map fun v => v.category).sum ≤ 8]) (f1 := (8, [some (.ref r0), none, none], [.ref sh.length, .ref r0])) (h1 := (sh ++ [.inr (8, zdf 8)], xzer I sh.length, xzerL J sh.length)) rfl (Nat.le_of_ble_eq_true rfl) (k)
set_option maxRecDepth 100000 in
theorem s_L_init_8 {d : Nat} {Q : xO → xH → Prop} {sh : List xS} {I : Nat → Nat → Int32} {J : Nat → Nat → Int64} {r0 : Nat} {t0 : Nat} {t1 : Nat}
    (k : xg d qPlane_init [.ref t1, .int (64 : Int32)] (sh, I, J) (xU (fun h1 => xG d zm_L_init (14, [some (.ref r0), none, none], [.ref t1, .ref t0]) h1 Q) (fun x h1 => Q (.inr x) h1))) :
    xG d zm_L_init (8, [some (.ref r0), none, none], [.ref t1, .ref t0]) (sh, I, J) Q := by
  exact xG_N 2 (ps := []) (f1 := (11, [some (.ref r0), none, none], [.int (64 : Int32), .ref t1, .ref t1, .ref t0])) (h1 := (sh, I, J)) rfl trivial (xG_Cu rfl rfl (Nat.le_of_ble_eq_true rfl) (Nat.le_of_ble_eq_true rfl) ⟨_, _, rfl⟩ rfl k)
set_option maxRecDepth 100000 in
theorem s_L_init_14 {d : Nat} {Q : xO → xH → Prop} {sh : List xS} {I : Nat → Nat → Int32} {J : Nat → Nat → Int64} {r0 : Nat} {t0 : Nat} {t1 : Nat}
    (e0 : xOb sh t0 0)
    (k : xG d zm_L_init (21, [some (.ref r0), none, none], [.ref ((xsr sh t0 0 t1).length), .ref r0]) ((xsr sh t0 0 t1) ++ [.inr (8, zdf 8)], xzer I (xsr sh t0 0 t1).length, xzerL J (xsr sh t0 0 t1).length) Q) :
    xG d zm_L_init (14, [some (.ref r0), none, none], [.ref t1, .ref t0]) (sh, I, J) Q := by
  exact xG_N 3 (ps := [xOb sh t0 0, 0 < (zdf 0).length]) (f1 := (21, [some (.ref r0), none, none], [.ref ((xsr sh t0 0 t1).length), .ref r0])) (h1 := ((xsr sh t0 0 t1) ++ [.inr (8, zdf 8)], xzer I (xsr sh t0 0 t1).length, xzerL J (xsr sh t0 0 t1).length)) rfl ⟨e0, (show 0 < (zdf 0).length by decide)⟩ (k)
set_option maxRecDepth 100000 in
theorem s_L_init_21 {d : Nat} {Q : xO → xH → Prop} {sh : List xS} {I : Nat → Nat → Int32} {J : Nat → Nat → Int64} {r0 : Nat} {t0 : Nat} {t1 : Nat}
    (k : xg d qPlane_init [.ref t1, .int (64 : Int32)] (sh, I, J) (xU (fun h1 => xG d zm_L_init (27, [some (.ref r0), none, none], [.ref t1, .ref t0]) h1 Q) (fun x h1 => Q (.inr x) h1))) :
    xG d zm_L_init (21, [some (.ref r0), none, none], [.ref t1, .ref t0]) (sh, I, J) Q := by
  exact xG_N 2 (ps := []) (f1 := (24, [some (.ref r0), none, none], [.int (64 : Int32), .ref t1, .ref t1, .ref t0])) (h1 := (sh, I, J)) rfl trivial (xG_Cu rfl rfl (Nat.le_of_ble_eq_true rfl) (Nat.le_of_ble_eq_true rfl) ⟨_, _, rfl⟩ rfl k)
set_option maxRecDepth 100000 in
theorem s_L_init_27 {d : Nat} {Q : xO → xH → Prop} {sh : List xS} {I : Nat → Nat → Int32} {J : Nat → Nat → Int64} {r0 : Nat} {t0 : Nat} {t1 : Nat}
    (e0 : xOb sh t0 0)
    (k : xG d zm_L_init (34, [some (.ref r0), none, none], [.ref ((xsr sh t0 1 t1).length), .ref r0]) ((xsr sh t0 1 t1) ++ [.inr (1, zdf 1)], xzer I (xsr sh t0 1 t1).length, xzerL J (xsr sh t0 1 t1).length) Q) :
    xG d zm_L_init (27, [some (.ref r0), none, none], [.ref t1, .ref t0]) (sh, I, J) Q := by
  exact xG_N 3 (ps := [xOb sh t0 0, 1 < (zdf 0).length]) (f1 := (34, [some (.ref r0), none, none], [.ref ((xsr sh t0 1 t1).length), .ref r0])) (h1 := ((xsr sh t0 1 t1) ++ [.inr (1, zdf 1)], xzer I (xsr sh t0 1 t1).length, xzerL J (xsr sh t0 1 t1).length)) rfl ⟨e0, (show 1 < (zdf 0).length by decide)⟩ (k)
set_option maxRecDepth 100000 in
theorem s_L_init_34 {d : Nat} {Q : xO → xH → Prop} {sh : List xS} {I : Nat → Nat → Int32} {J : Nat → Nat → Int64} {r0 : Nat} {t0 : Nat} {t1 : Nat}
    (k : xg d qBits_init [.ref t1] (sh, I, J) (xU (fun h1 => xG d zm_L_init (38, [some (.ref r0), none, none], [.ref t1, .ref t0]) h1 Q) (fun x h1 => Q (.inr x) h1))) :
    xG d zm_L_init (34, [some (.ref r0), none, none], [.ref t1, .ref t0]) (sh, I, J) Q := by
  exact xG_N 1 (ps := []) (f1 := (35, [some (.ref r0), none, none], [.ref t1, .ref t1, .ref t0])) (h1 := (sh, I, J)) rfl trivial (xG_Cu rfl rfl (Nat.le_of_ble_eq_true rfl) (Nat.le_of_ble_eq_true rfl) ⟨_, _, rfl⟩ rfl k)
set_option maxRecDepth 100000 in
theorem s_L_init_38 {d : Nat} {Q : xO → xH → Prop} {sh : List xS} {I : Nat → Nat → Int32} {J : Nat → Nat → Int64} {r0 : Nat} {t0 : Nat} {t1 : Nat}
    (e0 : xOb sh t0 0)
    (k : xG d zm_L_init (45, [some (.ref r0), none, none], [.ref ((xsr sh t0 2 t1).length), .ref r0]) ((xsr sh t0 2 t1) ++ [.inr (1, zdf 1)], xzer I (xsr sh t0 2 t1).length, xzerL J (xsr sh t0 2 t1).length) Q) :
    xG d zm_L_init (38, [some (.ref r0), none, none], [.ref t1, .ref t0]) (sh, I, J) Q := by
  exact xG_N 3 (ps := [xOb sh t0 0, 2 < (zdf 0).length]) (f1 := (45, [some (.ref r0), none, none], [.ref ((xsr sh t0 2 t1).length), .ref r0])) (h1 := ((xsr sh t0 2 t1) ++ [.inr (1, zdf 1)], xzer I (xsr sh t0 2 t1).length, xzerL J (xsr sh t0 2 t1).length)) rfl ⟨e0, (show 2 < (zdf 0).length by decide)⟩ (k)
set_option maxRecDepth 100000 in
theorem s_L_init_45 {d : Nat} {Q : xO → xH → Prop} {sh : List xS} {I : Nat → Nat → Int32} {J : Nat → Nat → Int64} {r0 : Nat} {t0 : Nat} {t1 : Nat}
    (k : xg d qBits_init [.ref t1] (sh, I, J) (xU (fun h1 => xG d zm_L_init (49, [some (.ref r0), none, none], [.ref t1, .ref t0]) h1 Q) (fun x h1 => Q (.inr x) h1))) :
    xG d zm_L_init (45, [some (.ref r0), none, none], [.ref t1, .ref t0]) (sh, I, J) Q := by
  exact xG_N 1 (ps := []) (f1 := (46, [some (.ref r0), none, none], [.ref t1, .ref t1, .ref t0])) (h1 := (sh, I, J)) rfl trivial (xG_Cu rfl rfl (Nat.le_of_ble_eq_true rfl) (Nat.le_of_ble_eq_true rfl) ⟨_, _, rfl⟩ rfl k)
set_option maxRecDepth 100000 in
theorem s_L_init_49 {d : Nat} {Q : xO → xH → Prop} {sh : List xS} {I : Nat → Nat → Int32} {J : Nat → Nat → Int64} {r0 : Nat} {t0 : Nat} {t1 : Nat}
    (e0 : xOb sh t0 0)
    (k : xG d zm_L_init (55, [some (.ref r0), none, none], [.ref ((xsr sh t0 3 t1).length)]) ((xsr sh t0 3 t1) ++ [.inr (5, zdf 5)], xzer I (xsr sh t0 3 t1).length, xzerL J (xsr sh t0 3 t1).length) Q) :
    xG d zm_L_init (49, [some (.ref r0), none, none], [.ref t1, .ref t0]) (sh, I, J) Q := by
  exact xG_N 2 (ps := [xOb sh t0 0, 3 < (zdf 0).length]) (f1 := (55, [some (.ref r0), none, none], [.ref ((xsr sh t0 3 t1).length)])) (h1 := ((xsr sh t0 3 t1) ++ [.inr (5, zdf 5)], xzer I (xsr sh t0 3 t1).length, xzerL J (xsr sh t0 3 t1).length)) rfl ⟨e0, (show 3 < (zdf 0).length by decide)⟩ (k)
set_option maxRecDepth 100000 in
theorem s_L_init_55 {d : Nat} {Q : xO → xH → Prop} {sh : List xS} {I : Nat → Nat → Int32} {J : Nat → Nat → Int64} {r0 : Nat} {t0 : Nat}
    (k : xg d qCodes_init [.ref t0] (sh, I, J) (xU (fun h1 => xG d zm_L_init (59, [some (.ref r0), none, none], [.ref t0]) h1 Q) (fun x h1 => Q (.inr x) h1))) :
    xG d zm_L_init (55, [some (.ref r0), none, none], [.ref t0]) (sh, I, J) Q := by
  exact xG_N 1 (ps := []) (f1 := (56, [some (.ref r0), none, none], [.ref t0, .ref t0])) (h1 := (sh, I, J)) rfl trivial (xG_Cu rfl rfl (Nat.le_of_ble_eq_true rfl) (Nat.le_of_ble_eq_true rfl) ⟨_, _, rfl⟩ rfl k)
set_option maxRecDepth 100000 in
theorem s_L_init_59 {d : Nat} {Q : xO → xH → Prop} {sh : List xS} {I : Nat → Nat → Int32} {J : Nat → Nat → Int64} {r0 : Nat} {t0 : Nat}
    (k : xG d zm_L_init (63, [some (.ref r0), some (.ref t0), none], [.ref sh.length]) (sh ++ [.inr (2, zdf 2)], xzer I sh.length, xzerL J sh.length) Q) :
    xG d zm_L_init (59, [some (.ref r0), none, none], [.ref t0]) (sh, I, J) Q := by
  exact xG_N 2 (ps := []) (f1 := (63, [some (.ref r0), some (.ref t0), none], [.ref sh.length])) (h1 := (sh ++ [.inr (2, zdf 2)], xzer I sh.length, xzerL J sh.length)) rfl trivial (k)
set_option maxRecDepth 100000 in
theorem s_L_init_63 {d : Nat} {Q : xO → xH → Prop} {sh : List xS} {I : Nat → Nat → Int32} {J : Nat → Nat → Int64} {r0 : Nat} {r1 : Nat} {t0 : Nat}
    (k : xg d qCache_init [.ref t0] (sh, I, J) (xU (fun h1 => xG d zm_L_init (67, [some (.ref r0), some (.ref r1), none], [.ref t0]) h1 Q) (fun x h1 => Q (.inr x) h1))) :
    xG d zm_L_init (63, [some (.ref r0), some (.ref r1), none], [.ref t0]) (sh, I, J) Q := by
  exact xG_N 1 (ps := []) (f1 := (64, [some (.ref r0), some (.ref r1), none], [.ref t0, .ref t0])) (h1 := (sh, I, J)) rfl trivial (xG_Cu rfl rfl (Nat.le_of_ble_eq_true rfl) (Nat.le_of_ble_eq_true rfl) ⟨_, _, rfl⟩ rfl k)
set_option maxRecDepth 100000 in
theorem s_L_init_67 {d : Nat} {Q : xO → xH → Prop} {sh : List xS} {I : Nat → Nat → Int32} {J : Nat → Nat → Int64} {r0 : Nat} {r1 : Nat} {t0 : Nat}
    (k : xG d zm_L_init (72, [some (.ref r0), some (.ref r1), some (.ref t0)], [.ref sh.length, .ref r0]) (sh ++ [.inr (9, zdf 9)], xzer I sh.length, xzerL J sh.length) Q) :
    xG d zm_L_init (67, [some (.ref r0), some (.ref r1), none], [.ref t0]) (sh, I, J) Q := by
  exact xG_N 3 (ps := []) (f1 := (72, [some (.ref r0), some (.ref r1), some (.ref t0)], [.ref sh.length, .ref r0])) (h1 := (sh ++ [.inr (9, zdf 9)], xzer I sh.length, xzerL J sh.length)) rfl trivial (k)
set_option maxRecDepth 100000 in
theorem s_L_init_72 {d : Nat} {Q : xO → xH → Prop} {sh : List xS} {I : Nat → Nat → Int32} {J : Nat → Nat → Int64} {r0 : Nat} {r1 : Nat} {r2 : Nat} {t0 : Nat} {t1 : Nat}
    (k : xg d qTransforms_init [.ref t1] (sh, I, J) (xU (fun h1 => xG d zm_L_init (76, [some (.ref r0), some (.ref r1), some (.ref r2)], [.ref t1, .ref t0]) h1 Q) (fun x h1 => Q (.inr x) h1))) :
    xG d zm_L_init (72, [some (.ref r0), some (.ref r1), some (.ref r2)], [.ref t1, .ref t0]) (sh, I, J) Q := by
  exact xG_N 1 (ps := []) (f1 := (73, [some (.ref r0), some (.ref r1), some (.ref r2)], [.ref t1, .ref t1, .ref t0])) (h1 := (sh, I, J)) rfl trivial (xG_Cu rfl rfl (Nat.le_of_ble_eq_true rfl) (Nat.le_of_ble_eq_true rfl) ⟨_, _, rfl⟩ rfl k)
set_option maxRecDepth 100000 in
theorem s_L_init_76 {d : Nat} {Q : xO → xH → Prop} {sh : List xS} {I : Nat → Nat → Int32} {J : Nat → Nat → Int64} {r0 : Nat} {r1 : Nat} {r2 : Nat} {t0 : Nat} {t1 : Nat}
    (e0 : xOb sh t0 0)
    (k : xG d zm_L_init (83, [some (.ref r0), some (.ref r1), some (.ref r2)], [.ref ((xsr sh t0 4 t1).length), .ref r0]) ((xsr sh t0 4 t1) ++ [.inr (6, zdf 6)], xzer I (xsr sh t0 4 t1).length, xzerL J (xsr sh t0 4 t1).length) Q) :
    xG d zm_L_init (76, [some (.ref r0), some (.ref r1), some (.ref r2)], [.ref t1, .ref t0]) (sh, I, J) Q := by
  exact xG_N 3 (ps := [xOb sh t0 0, 4 < (zdf 0).length]) (f1 := (83, [some (.ref r0), some (.ref r1), some (.ref r2)], [.ref ((xsr sh t0 4 t1).length), .ref r0])) (h1 := ((xsr sh t0 4 t1) ++ [.inr (6, zdf 6)], xzer I (xsr sh t0 4 t1).length, xzerL J (xsr sh t0 4 t1).length)) rfl ⟨e0, (show 4 < (zdf 0).length by decide)⟩ (k)
set_option maxRecDepth 100000 in
theorem s_L_init_83 {d : Nat} {Q : xO → xH → Prop} {sh : List xS} {I : Nat → Nat → Int32} {J : Nat → Nat → Int64} {r0 : Nat} {r1 : Nat} {r2 : Nat} {t0 : Nat} {t1 : Nat}
    (k : xg d qImageReader_init [.ref t1, .ref r1, .ref r2] (sh, I, J) (xU (fun h1 => xG d zm_L_init (89, [some (.ref r0), some (.ref r1), some (.ref r2)], [.ref t1, .ref t0]) h1 Q) (fun x h1 => Q (.inr x) h1))) :
    xG d zm_L_init (83, [some (.ref r0), some (.ref r1), some (.ref r2)], [.ref t1, .ref t0]) (sh, I, J) Q := by
  exact xG_N 3 (ps := []) (f1 := (86, [some (.ref r0), some (.ref r1), some (.ref r2)], [.ref r2, .ref r1, .ref t1, .ref t1, .ref t0])) (h1 := (sh, I, J)) rfl trivial (xG_Cu rfl rfl (Nat.le_of_ble_eq_true rfl) (Nat.le_of_ble_eq_true rfl) ⟨_, _, rfl⟩ rfl k)
set_option maxRecDepth 100000 in
theorem s_L_init_89 {d : Nat} {Q : xO → xH → Prop} {sh : List xS} {I : Nat → Nat → Int32} {J : Nat → Nat → Int64} {r0 : Nat} {r1 : Nat} {r2 : Nat} {t0 : Nat} {t1 : Nat}
    (e0 : xOb sh t0 0)
    (k : xG d zm_L_init (96, [some (.ref r0), some (.ref r1), some (.ref r2)], [.ref ((xsr sh t0 5 t1).length), .ref r0]) ((xsr sh t0 5 t1) ++ [.inr (7, zdf 7)], xzer I (xsr sh t0 5 t1).length, xzerL J (xsr sh t0 5 t1).length) Q) :
    xG d zm_L_init (89, [some (.ref r0), some (.ref r1), some (.ref r2)], [.ref t1, .ref t0]) (sh, I, J) Q := by
  exact xG_N 3 (ps := [xOb sh t0 0, 5 < (zdf 0).length]) (f1 := (96, [some (.ref r0), some (.ref r1), some (.ref r2)], [.ref ((xsr sh t0 5 t1).length), .ref r0])) (h1 := ((xsr sh t0 5 t1) ++ [.inr (7, zdf 7)], xzer I (xsr sh t0 5 t1).length, xzerL J (xsr sh t0 5 t1).length)) rfl ⟨e0, (show 5 < (zdf 0).length by decide)⟩ (k)
set_option maxRecDepth 100000 in
theorem s_L_init_96 {d : Nat} {Q : xO → xH → Prop} {sh : List xS} {I : Nat → Nat → Int32} {J : Nat → Nat → Int64} {r0 : Nat} {r1 : Nat} {r2 : Nat} {t0 : Nat} {t1 : Nat}
    (k : xg d qImageWriter_init [.ref t1, .ref r1, .ref r2] (sh, I, J) (xU (fun h1 => xG d zm_L_init (102, [some (.ref r0), some (.ref r1), some (.ref r2)], [.ref t1, .ref t0]) h1 Q) (fun x h1 => Q (.inr x) h1))) :
    xG d zm_L_init (96, [some (.ref r0), some (.ref r1), some (.ref r2)], [.ref t1, .ref t0]) (sh, I, J) Q := by
  exact xG_N 3 (ps := []) (f1 := (99, [some (.ref r0), some (.ref r1), some (.ref r2)], [.ref r2, .ref r1, .ref t1, .ref t1, .ref t0])) (h1 := (sh, I, J)) rfl trivial (xG_Cu rfl rfl (Nat.le_of_ble_eq_true rfl) (Nat.le_of_ble_eq_true rfl) ⟨_, _, rfl⟩ rfl k)
set_option maxRecDepth 100000 in
theorem s_L_init_102 {d : Nat} {Q : xO → xH → Prop} {sh : List xS} {I : Nat → Nat → Int32} {J : Nat → Nat → Int64} {r0 : Nat} {r1 : Nat} {r2 : Nat} {t0 : Nat} {t1 : Nat}
    (e0 : xOb sh t0 0)
    (k : xG d zm_L_init (110, [some (.ref r0), some (.ref r1), some (.ref r2)], [.ref ((xsr sh t0 6 t1).length), .ref r0]) ((xsr sh t0 6 t1) ++ [.inl (.int, ((64 : Int32) : Int32).toNatClampNeg)], xzer I (xsr sh t0 6 t1).length, xzerL J (xsr sh t0 6 t1).length) Q) :
    xG d zm_L_init (102, [some (.ref r0), some (.ref r1), some (.ref r2)], [.ref t1, .ref t0]) (sh, I, J) Q := by
  exact xG_N 4 (ps := [xOb sh t0 0, 6 < (zdf 0).length, ¬ ((64 : Int32) : Int32) < 0, ((64 : Int32) : Int32).toNatClampNeg ≤ 65536, newarray.typeOf .int = .int ∨ newarray.typeOf .int = .boolean ∨ newarray.typeOf .int = .long]) (f1 := (110, [some (.ref r0), some (.ref r1), some (.ref r2)], [.ref ((xsr sh t0 6 t1).length), .ref r0])) (h1 := ((xsr sh t0 6 t1) ++ [.inl (.int, ((64 : Int32) : Int32).toNatClampNeg)], xzer I (xsr sh t0 6 t1).length, xzerL J (xsr sh t0 6 t1).length)) rfl ⟨e0, (show 6 < (zdf 0).length by decide), (show ¬ ((64 : Int32) : Int32) < 0 by decide), (show ((64 : Int32) : Int32).toNatClampNeg ≤ 65536 by decide), Or.inl rfl⟩ (k)
set_option maxRecDepth 100000 in
theorem s_L_init_110 {d : Nat} {Q : xO → xH → Prop} {sh : List xS} {I : Nat → Nat → Int32} {J : Nat → Nat → Int64} {r0 : Nat} {r1 : Nat} {r2 : Nat} {t0 : Nat} {t1 : Nat}
    (e0 : xOb sh t0 0)
    (k : xG d zm_L_init (118, [some (.ref r0), some (.ref r1), some (.ref r2)], [.ref ((xsr sh t0 7 t1).length), .ref r0]) ((xsr sh t0 7 t1) ++ [.inl (.int, ((7 : Int32) : Int32).toNatClampNeg)], xzer I (xsr sh t0 7 t1).length, xzerL J (xsr sh t0 7 t1).length) Q) :
    xG d zm_L_init (110, [some (.ref r0), some (.ref r1), some (.ref r2)], [.ref t1, .ref t0]) (sh, I, J) Q := by
  exact xG_N 4 (ps := [xOb sh t0 0, 7 < (zdf 0).length, ¬ ((7 : Int32) : Int32) < 0, ((7 : Int32) : Int32).toNatClampNeg ≤ 65536, newarray.typeOf .int = .int ∨ newarray.typeOf .int = .boolean ∨ newarray.typeOf .int = .long]) (f1 := (118, [some (.ref r0), some (.ref r1), some (.ref r2)], [.ref ((xsr sh t0 7 t1).length), .ref r0])) (h1 := ((xsr sh t0 7 t1) ++ [.inl (.int, ((7 : Int32) : Int32).toNatClampNeg)], xzer I (xsr sh t0 7 t1).length, xzerL J (xsr sh t0 7 t1).length)) rfl ⟨e0, (show 7 < (zdf 0).length by decide), (show ¬ ((7 : Int32) : Int32) < 0 by decide), (show ((7 : Int32) : Int32).toNatClampNeg ≤ 65536 by decide), Or.inl rfl⟩ (k)
set_option maxRecDepth 100000 in
theorem s_L_init_118 {d : Nat} {Q : xO → xH → Prop} {sh : List xS} {I : Nat → Nat → Int32} {J : Nat → Nat → Int64} {r0 : Nat} {r1 : Nat} {r2 : Nat} {t0 : Nat} {t1 : Nat}
    (e0 : xOb sh t0 0)
    (k : Q (.inl (none)) (xsr sh t0 8 t1, I, J)) :
    xG d zm_L_init (118, [some (.ref r0), some (.ref r1), some (.ref r2)], [.ref t1, .ref t0]) (sh, I, J) Q := by
  exact xG_N 1 (ps := [xOb sh t0 0, 8 < (zdf 0).length]) (f1 := (121, [some (.ref r0), some (.ref r1), some (.ref r2)], [])) (h1 := (xsr sh t0 8 t1, I, J)) rfl ⟨e0, (show 8 < (zdf 0).length by decide)⟩ (xG_Q rfl rfl trivial k)
set_option maxRecDepth 100000 in
theorem s_L_size_0 {d : Nat} {Q : xO → xH → Prop} {sh : List xS} {I : Nat → Nat → Int32} {J : Nat → Nat → Int64} {r0 : Nat} {v1 : Int32} {v2 : Int32}
    (k1 : v1 < (1 : Int32) → xG d zm_L_size (22, [some (.ref r0), some (.int v1), some (.int v2)], []) (sh, I, J) Q)
    (k2 : ¬ (v1 < (1 : Int32)) → xG d zm_L_size (5, [some (.ref r0), some (.int v1), some (.int v2)], []) (sh, I, J) Q) :
    xG d zm_L_size (0, [some (.ref r0), some (.int v1), some (.int v2)], []) (sh, I, J) Q := by
  exact xG_N 2 (ps := []) (f1 := (2, [some (.ref r0), some (.int v1), some (.int v2)], [.int (1 : Int32), .int v1])) (h1 := (sh, I, J)) rfl trivial (xG_B rfl rfl k1 k2)
set_option maxRecDepth 100000 in
theorem s_L_size_5 {d : Nat} {Q : xO → xH → Prop} {sh : List xS} {I : Nat → Nat → Int32} {J : Nat → Nat → Int64} {r0 : Nat} {v1 : Int32} {v2 : Int32}
    (k1 : (8 : Int32) < v1 → xG d zm_L_size (22, [some (.ref r0), some (.int v1), some (.int v2)], []) (sh, I, J) Q)
    (k2 : ¬ ((8 : Int32) < v1) → xG d zm_L_size (11, [some (.ref r0), some (.int v1), some (.int v2)], []) (sh, I, J) Q) :
    xG d zm_L_size (5, [some (.ref r0), some (.int v1), some (.int v2)], []) (sh, I, J) Q := by
  exact xG_N 2 (ps := []) (f1 := (8, [some (.ref r0), some (.int v1), some (.int v2)], [.int (8 : Int32), .int v1])) (h1 := (sh, I, J)) rfl trivial (xG_B rfl rfl k1 k2)
set_option maxRecDepth 100000 in
theorem s_L_size_11 {d : Nat} {Q : xO → xH → Prop} {sh : List xS} {I : Nat → Nat → Int32} {J : Nat → Nat → Int64} {r0 : Nat} {v1 : Int32} {v2 : Int32}
    (k1 : v2 < (1 : Int32) → xG d zm_L_size (22, [some (.ref r0), some (.int v1), some (.int v2)], []) (sh, I, J) Q)
    (k2 : ¬ (v2 < (1 : Int32)) → xG d zm_L_size (16, [some (.ref r0), some (.int v1), some (.int v2)], []) (sh, I, J) Q) :
    xG d zm_L_size (11, [some (.ref r0), some (.int v1), some (.int v2)], []) (sh, I, J) Q := by
  exact xG_N 2 (ps := []) (f1 := (13, [some (.ref r0), some (.int v1), some (.int v2)], [.int (1 : Int32), .int v2])) (h1 := (sh, I, J)) rfl trivial (xG_B rfl rfl k1 k2)
set_option maxRecDepth 100000 in
theorem s_L_size_16 {d : Nat} {Q : xO → xH → Prop} {sh : List xS} {I : Nat → Nat → Int32} {J : Nat → Nat → Int64} {r0 : Nat} {v1 : Int32} {v2 : Int32}
    (k1 : v2 ≤ (8 : Int32) → xG d zm_L_size (32, [some (.ref r0), some (.int v1), some (.int v2)], []) (sh, I, J) Q)
    (k2 : ¬ (v2 ≤ (8 : Int32)) → xG d zm_L_size (22, [some (.ref r0), some (.int v1), some (.int v2)], []) (sh, I, J) Q) :
    xG d zm_L_size (16, [some (.ref r0), some (.int v1), some (.int v2)], []) (sh, I, J) Q := by
  exact xG_N 2 (ps := []) (f1 := (19, [some (.ref r0), some (.int v1), some (.int v2)], [.int (8 : Int32), .int v2])) (h1 := (sh, I, J)) rfl trivial (xG_B rfl rfl k1 k2)
set_option maxRecDepth 100000 in
theorem s_L_size_22 {d : Nat} {Q : xO → xH → Prop} {sh : List xS} {I : Nat → Nat → Int32} {J : Nat → Nat → Int64} {r0 : Nat} {v1 : Int32} {v2 : Int32}
    (k : Q (.inr sh.length) (sh ++ [.inr (100, [])], I, J)) :
    xG d zm_L_size (22, [some (.ref r0), some (.int v1), some (.int v2)], []) (sh, I, J) Q := by
  exact xG_T rfl rfl rfl (Nat.le_of_ble_eq_true rfl) k
set_option maxRecDepth 100000 in
theorem s_L_size_32 {d : Nat} {Q : xO → xH → Prop} {sh : List xS} {I : Nat → Nat → Int32} {J : Nat → Nat → Int64} {r0 : Nat} {v1 : Int32} {v2 : Int32} {a1 : Nat}
    (e0 : xRr sh r0 0 0 a1)
    (ko : xOb sh a1 8)
    (k : xg d qPlane_shape [.ref a1, .int v1, .int v2] (sh, I, J) (xU (fun h1 => xG d zm_L_size (41, [some (.ref r0), some (.int v1), some (.int v2)], []) h1 Q) (fun x h1 => Q (.inr x) h1))) :
    xG d zm_L_size (32, [some (.ref r0), some (.int v1), some (.int v2)], []) (sh, I, J) Q := by
  obtain rfl := e0.eq
  exact xG_N 4 (ps := [xRf sh r0 0 0]) (f1 := (38, [some (.ref r0), some (.int v1), some (.int v2)], [.int v2, .int v1, .ref (xrf sh r0 0)])) (h1 := (sh, I, J)) rfl e0.rf (xG_Cu rfl rfl (Nat.le_of_ble_eq_true rfl) (Nat.le_of_ble_eq_true rfl) ⟨_, _, rfl, ko⟩ rfl k)
set_option maxRecDepth 100000 in
theorem s_L_size_41 {d : Nat} {Q : xO → xH → Prop} {sh : List xS} {I : Nat → Nat → Int32} {J : Nat → Nat → Int64} {r0 : Nat} {v1 : Int32} {v2 : Int32} {a1 : Nat} {a2 : Nat}
    (e0 : xRr sh r0 0 0 a1)
    (e1 : xRr sh a1 8 0 a2)
    (k : xg d qA_fill [.ref a2, .int (0 : Int32)] (sh, I, J) (xU (fun h1 => xG d zm_L_size (52, [some (.ref r0), some (.int v1), some (.int v2)], []) h1 Q) (fun x h1 => Q (.inr x) h1))) :
    xG d zm_L_size (41, [some (.ref r0), some (.int v1), some (.int v2)], []) (sh, I, J) Q := by
  obtain rfl := e0.eq
  obtain rfl := e1.eq
  exact xG_N 4 (ps := [xRf sh r0 0 0, xRf sh (xrf sh r0 0) 8 0]) (f1 := (49, [some (.ref r0), some (.int v1), some (.int v2)], [.int (0 : Int32), .ref (xrf sh (xrf sh r0 0) 0)])) (h1 := (sh, I, J)) rfl ⟨e0.rf, e1.rf⟩ (xG_Cu rfl rfl (Nat.le_of_ble_eq_true rfl) (Nat.le_of_ble_eq_true rfl) trivial rfl k)
set_option maxRecDepth 100000 in
theorem s_L_size_52 {d : Nat} {Q : xO → xH → Prop} {sh : List xS} {I : Nat → Nat → Int32} {J : Nat → Nat → Int64} {r0 : Nat} {v1 : Int32} {v2 : Int32} {a1 : Nat}
    (e0 : xRr sh r0 0 0 a1)
    (ko : xOb sh a1 8)
    (k : xg d qPlane_count [.ref a1] (sh, I, J) (xI (fun v h1 => xG d zm_L_size (59, [some (.ref r0), some (.int v1), some (.int v2)], [.int v]) h1 Q) (fun x h1 => Q (.inr x) h1))) :
    xG d zm_L_size (52, [some (.ref r0), some (.int v1), some (.int v2)], []) (sh, I, J) Q := by
  obtain rfl := e0.eq
  exact xG_N 2 (ps := [xRf sh r0 0 0]) (f1 := (56, [some (.ref r0), some (.int v1), some (.int v2)], [.ref (xrf sh r0 0)])) (h1 := (sh, I, J)) rfl e0.rf (xG_Ci rfl rfl (Nat.le_of_ble_eq_true rfl) (Nat.le_of_ble_eq_true rfl) ⟨_, _, rfl, ko⟩ rfl k)
set_option maxRecDepth 100000 in
theorem s_L_size_59 {d : Nat} {Q : xO → xH → Prop} {sh : List xS} {I : Nat → Nat → Int32} {J : Nat → Nat → Int64} {r0 : Nat} {v1 : Int32} {v2 : Int32} {t0 : Int32}
    (k : Q (.inl (some (.int t0))) (sh, I, J)) :
    xG d zm_L_size (59, [some (.ref r0), some (.int v1), some (.int v2)], [.int t0]) (sh, I, J) Q := by
  exact xG_Q rfl rfl trivial k
set_option maxRecDepth 100000 in
theorem s_L_set_0 {d : Nat} {Q : xO → xH → Prop} {sh : List xS} {I : Nat → Nat → Int32} {J : Nat → Nat → Int64} {r0 : Nat} {v1 : Int32} {v2 : Int32} {v3 : Int32} {a1 : Nat}
    (e0 : xRr sh r0 0 0 a1)
    (ko : xOb sh a1 8)
    (k : xg d qPlane_holds [.ref a1, .int v1, .int v2] (sh, I, J) (xI (fun v h1 => xG d zm_L_set (9, [some (.ref r0), some (.int v1), some (.int v2), some (.int v3), none, none], [.int v]) h1 Q) (fun x h1 => Q (.inr x) h1))) :
    xG d zm_L_set (0, [some (.ref r0), some (.int v1), some (.int v2), some (.int v3), none, none], []) (sh, I, J) Q := by
  obtain rfl := e0.eq
  exact xG_N 4 (ps := [xRf sh r0 0 0]) (f1 := (6, [some (.ref r0), some (.int v1), some (.int v2), some (.int v3), none, none], [.int v2, .int v1, .ref (xrf sh r0 0)])) (h1 := (sh, I, J)) rfl e0.rf (xG_Ci rfl rfl (Nat.le_of_ble_eq_true rfl) (Nat.le_of_ble_eq_true rfl) ⟨_, _, rfl, ko⟩ rfl k)
set_option maxRecDepth 100000 in
theorem s_L_set_9 {d : Nat} {Q : xO → xH → Prop} {sh : List xS} {I : Nat → Nat → Int32} {J : Nat → Nat → Int64} {r0 : Nat} {v1 : Int32} {v2 : Int32} {v3 : Int32} {t0 : Int32}
    (k1 : ¬ t0 = 0 → xG d zm_L_set (22, [some (.ref r0), some (.int v1), some (.int v2), some (.int v3), none, none], []) (sh, I, J) Q)
    (k2 : ¬ (¬ t0 = 0) → xG d zm_L_set (12, [some (.ref r0), some (.int v1), some (.int v2), some (.int v3), none, none], []) (sh, I, J) Q) :
    xG d zm_L_set (9, [some (.ref r0), some (.int v1), some (.int v2), some (.int v3), none, none], [.int t0]) (sh, I, J) Q := by
  exact xG_B rfl rfl k1 k2
set_option maxRecDepth 100000 in
theorem s_L_set_12 {d : Nat} {Q : xO → xH → Prop} {sh : List xS} {I : Nat → Nat → Int32} {J : Nat → Nat → Int64} {r0 : Nat} {v1 : Int32} {v2 : Int32} {v3 : Int32}
    (k : Q (.inr sh.length) (sh ++ [.inr (101, [])], I, J)) :
    xG d zm_L_set (12, [some (.ref r0), some (.int v1), some (.int v2), some (.int v3), none, none], []) (sh, I, J) Q := by
  exact xG_T rfl rfl rfl (Nat.le_of_ble_eq_true rfl) k
set_option maxRecDepth 100000 in
theorem s_L_set_22 {d : Nat} {Q : xO → xH → Prop} {sh : List xS} {I : Nat → Nat → Int32} {J : Nat → Nat → Int64} {r0 : Nat} {v1 : Int32} {v2 : Int32} {v3 : Int32} {a1 : Nat} {a2 : Nat} {n3 : Nat}
    (e0 : xRr sh r0 0 0 a1)
    (e1 : xOb sh a1 8)
    (e2 : xRr sh a1 8 0 a2)
    (e3 : xAr sh a2 .int n3)
    (e4 : vp_in ((v2 * (I a1 1)) + v1) n3)
    (e5 : 4 ≤ a2)
    (k : Q (.inl (some (.int (I a2 ((v2 * (I a1 1)) + v1).toNatClampNeg)))) (sh, xup I a2 ((v2 * (I a1 1)) + v1).toNatClampNeg v3, J)) :
    xG d zm_L_set (22, [some (.ref r0), some (.int v1), some (.int v2), some (.int v3), none, none], []) (sh, I, J) Q := by
  obtain rfl := e0.eq
  obtain rfl := e2.eq
  obtain rfl := e3.eq
  exact xG_N 21 (ps := [xRf sh r0 0 0, xOb sh (xrf sh r0 0) 8, xRf sh r0 0 0, xRf sh (xrf sh r0 0) 8 0, xA sh (xrf sh (xrf sh r0 0) 0) .int, vp_in ((v2 * (I (xrf sh r0 0) 1)) + v1) (xlen sh (xrf sh (xrf sh r0 0) 0)), xRf sh r0 0 0, xRf sh (xrf sh r0 0) 8 0, xW sh (xrf sh (xrf sh r0 0) 0) .int, vp_in ((v2 * (I (xrf sh r0 0) 1)) + v1) (xlen sh (xrf sh (xrf sh r0 0) 0))]) (f1 := (60, [some (.ref r0), some (.int v1), some (.int v2), some (.int v3), some (.int ((v2 * (I (xrf sh r0 0) 1)) + v1)), some (.int (I (xrf sh (xrf sh r0 0) 0) ((v2 * (I (xrf sh r0 0) 1)) + v1).toNatClampNeg))], [.int (I (xrf sh (xrf sh r0 0) 0) ((v2 * (I (xrf sh r0 0) 1)) + v1).toNatClampNeg)])) (h1 := (sh, xup I (xrf sh (xrf sh r0 0) 0) ((v2 * (I (xrf sh r0 0) 1)) + v1).toNatClampNeg v3, J)) rfl ⟨e0.rf, e1, e0.rf, e2.rf, e3.ar, e4, e0.rf, e2.rf, ⟨e3.ar, e5⟩, e4⟩ (xG_Q rfl rfl trivial k)
set_option maxRecDepth 100000 in
theorem s_L_pixel_0 {d : Nat} {Q : xO → xH → Prop} {sh : List xS} {I : Nat → Nat → Int32} {J : Nat → Nat → Int64} {r0 : Nat} {v1 : Int32} {v2 : Int32} {a1 : Nat}
    (e0 : xRr sh r0 0 0 a1)
    (ko : xOb sh a1 8)
    (k : xg d qPlane_holds [.ref a1, .int v1, .int v2] (sh, I, J) (xI (fun v h1 => xG d zm_L_pixel (9, [some (.ref r0), some (.int v1), some (.int v2)], [.int v]) h1 Q) (fun x h1 => Q (.inr x) h1))) :
    xG d zm_L_pixel (0, [some (.ref r0), some (.int v1), some (.int v2)], []) (sh, I, J) Q := by
  obtain rfl := e0.eq
  exact xG_N 4 (ps := [xRf sh r0 0 0]) (f1 := (6, [some (.ref r0), some (.int v1), some (.int v2)], [.int v2, .int v1, .ref (xrf sh r0 0)])) (h1 := (sh, I, J)) rfl e0.rf (xG_Ci rfl rfl (Nat.le_of_ble_eq_true rfl) (Nat.le_of_ble_eq_true rfl) ⟨_, _, rfl, ko⟩ rfl k)
set_option maxRecDepth 100000 in
theorem s_L_pixel_9 {d : Nat} {Q : xO → xH → Prop} {sh : List xS} {I : Nat → Nat → Int32} {J : Nat → Nat → Int64} {r0 : Nat} {v1 : Int32} {v2 : Int32} {t0 : Int32}
    (k1 : ¬ t0 = 0 → xG d zm_L_pixel (22, [some (.ref r0), some (.int v1), some (.int v2)], []) (sh, I, J) Q)
    (k2 : ¬ (¬ t0 = 0) → xG d zm_L_pixel (12, [some (.ref r0), some (.int v1), some (.int v2)], []) (sh, I, J) Q) :
    xG d zm_L_pixel (9, [some (.ref r0), some (.int v1), some (.int v2)], [.int t0]) (sh, I, J) Q := by
  exact xG_B rfl rfl k1 k2
set_option maxRecDepth 100000 in
theorem s_L_pixel_12 {d : Nat} {Q : xO → xH → Prop} {sh : List xS} {I : Nat → Nat → Int32} {J : Nat → Nat → Int64} {r0 : Nat} {v1 : Int32} {v2 : Int32}
    (k : Q (.inr sh.length) (sh ++ [.inr (101, [])], I, J)) :
    xG d zm_L_pixel (12, [some (.ref r0), some (.int v1), some (.int v2)], []) (sh, I, J) Q := by
  exact xG_T rfl rfl rfl (Nat.le_of_ble_eq_true rfl) k
set_option maxRecDepth 100000 in
theorem s_L_pixel_22 {d : Nat} {Q : xO → xH → Prop} {sh : List xS} {I : Nat → Nat → Int32} {J : Nat → Nat → Int64} {r0 : Nat} {v1 : Int32} {v2 : Int32} {a1 : Nat} {a2 : Nat} {n3 : Nat}
    (e0 : xRr sh r0 0 0 a1)
    (e1 : xRr sh a1 8 0 a2)
    (e2 : xAr sh a2 .int n3)
    (e3 : vp_in ((v2 * (I a1 1)) + v1) n3)
    (k : Q (.inl (some (.int (I a2 ((v2 * (I a1 1)) + v1).toNatClampNeg)))) (sh, I, J)) :
    xG d zm_L_pixel (22, [some (.ref r0), some (.int v1), some (.int v2)], []) (sh, I, J) Q := by
  obtain rfl := e0.eq
  obtain rfl := e1.eq
  obtain rfl := e2.eq
  exact xG_N 11 (ps := [xRf sh r0 0 0, xRf sh (xrf sh r0 0) 8 0, xRf sh r0 0 0, xOb sh (xrf sh r0 0) 8, xA sh (xrf sh (xrf sh r0 0) 0) .int, vp_in ((v2 * (I (xrf sh r0 0) 1)) + v1) (xlen sh (xrf sh (xrf sh r0 0) 0))]) (f1 := (41, [some (.ref r0), some (.int v1), some (.int v2)], [.int (I (xrf sh (xrf sh r0 0) 0) ((v2 * (I (xrf sh r0 0) 1)) + v1).toNatClampNeg)])) (h1 := (sh, I, J)) rfl ⟨e0.rf, e1.rf, e0.rf, e1.ob, e2.ar, e3⟩ (xG_Q rfl rfl trivial k)
set_option maxRecDepth 100000 in
theorem s_L_measure_0 {d : Nat} {Q : xO → xH → Prop} {sh : List xS} {I : Nat → Nat → Int32} {J : Nat → Nat → Int64} {r0 : Nat} {v1 : Int32}
    (k0 : v1 = (0 : Int32) → xG d zm_L_measure (28, [some (.ref r0), some (.int v1)], []) (sh, I, J) Q)
    (k1 : v1 = (1 : Int32) → xG d zm_L_measure (36, [some (.ref r0), some (.int v1)], []) (sh, I, J) Q)
    (k2 : v1 = (2 : Int32) → xG d zm_L_measure (44, [some (.ref r0), some (.int v1)], []) (sh, I, J) Q)
    (kd : (v1.toInt < 0 ∨ 2 < v1.toInt) → xG d zm_L_measure (49, [some (.ref r0), some (.int v1)], []) (sh, I, J) Q) :
    xG d zm_L_measure (0, [some (.ref r0), some (.int v1)], []) (sh, I, J) Q := by
  have key : ∀ x : Int32, (x = (0 : Int32) → xG d zm_L_measure (28, [some (.ref r0), some (.int v1)], []) (sh, I, J) Q) → (x = (1 : Int32) → xG d zm_L_measure (36, [some (.ref r0), some (.int v1)], []) (sh, I, J) Q) → (x = (2 : Int32) → xG d zm_L_measure (44, [some (.ref r0), some (.int v1)], []) (sh, I, J) Q) → ((x.toInt < 0 ∨ 2 < x.toInt) → xG d zm_L_measure (49, [some (.ref r0), some (.int v1)], []) (sh, I, J) Q) → xG d zm_L_measure (1, [some (.ref r0), some (.int v1)], [.int x]) (sh, I, J) Q := by
    intro x k0 k1 k2 kd
    by_cases hx : x.toInt < 0 ∨ 2 < x.toInt
    · exact xG_S (t := 49) rfl (Or.elim hx Or.inl (fun h => Or.inr (Or.inl h))) (by unfold xsw; rw [if_pos hx]; rfl) (kd hx)
    · have hc : x.toInt = 0 ∨ x.toInt = 1 ∨ x.toInt = 2 := by omega
      rcases hc with hc | hc | hc
      · obtain rfl : x = (0 : Int32) := Int32.toInt_inj.mp (by rw [hc]; rfl)
        exact xG_S (t := 28) rfl (by decide) (by decide) (k0 rfl)
      · obtain rfl : x = (1 : Int32) := Int32.toInt_inj.mp (by rw [hc]; rfl)
        exact xG_S (t := 36) rfl (by decide) (by decide) (k1 rfl)
      · obtain rfl : x = (2 : Int32) := Int32.toInt_inj.mp (by rw [hc]; rfl)
        exact xG_S (t := 44) rfl (by decide) (by decide) (k2 rfl)
  exact xG_N 1 (ps := []) (f1 := (1, [some (.ref r0), some (.int v1)], [.int v1])) (h1 := (sh, I, J)) rfl trivial (key _ k0 k1 k2 kd)
set_option maxRecDepth 100000 in
theorem s_L_measure_28 {d : Nat} {Q : xO → xH → Prop} {sh : List xS} {I : Nat → Nat → Int32} {J : Nat → Nat → Int64} {r0 : Nat} {v1 : Int32} {a1 : Nat}
    (e0 : xRr sh r0 0 0 a1)
    (e1 : xOb sh a1 8)
    (k : Q (.inl (some (.int (I a1 1)))) (sh, I, J)) :
    xG d zm_L_measure (28, [some (.ref r0), some (.int v1)], []) (sh, I, J) Q := by
  obtain rfl := e0.eq
  exact xG_N 3 (ps := [xRf sh r0 0 0, xOb sh (xrf sh r0 0) 8]) (f1 := (35, [some (.ref r0), some (.int v1)], [.int (I (xrf sh r0 0) 1)])) (h1 := (sh, I, J)) rfl ⟨e0.rf, e1⟩ (xG_Q rfl rfl trivial k)
set_option maxRecDepth 100000 in
theorem s_L_measure_36 {d : Nat} {Q : xO → xH → Prop} {sh : List xS} {I : Nat → Nat → Int32} {J : Nat → Nat → Int64} {r0 : Nat} {v1 : Int32} {a1 : Nat}
    (e0 : xRr sh r0 0 0 a1)
    (e1 : xOb sh a1 8)
    (k : Q (.inl (some (.int (I a1 2)))) (sh, I, J)) :
    xG d zm_L_measure (36, [some (.ref r0), some (.int v1)], []) (sh, I, J) Q := by
  obtain rfl := e0.eq
  exact xG_N 3 (ps := [xRf sh r0 0 0, xOb sh (xrf sh r0 0) 8]) (f1 := (43, [some (.ref r0), some (.int v1)], [.int (I (xrf sh r0 0) 2)])) (h1 := (sh, I, J)) rfl ⟨e0.rf, e1⟩ (xG_Q rfl rfl trivial k)
set_option maxRecDepth 100000 in
theorem s_L_measure_44 {d : Nat} {Q : xO → xH → Prop} {sh : List xS} {I : Nat → Nat → Int32} {J : Nat → Nat → Int64} {r0 : Nat} {v1 : Int32}
    (ko : xOb sh r0 0)
    (k : xg d qL_gatherColours [.ref r0] (sh, I, J) (xI (fun v h1 => xG d zm_L_measure (48, [some (.ref r0), some (.int v1)], [.int v]) h1 Q) (fun x h1 => Q (.inr x) h1))) :
    xG d zm_L_measure (44, [some (.ref r0), some (.int v1)], []) (sh, I, J) Q := by
  exact xG_N 1 (ps := []) (f1 := (45, [some (.ref r0), some (.int v1)], [.ref r0])) (h1 := (sh, I, J)) rfl trivial (xG_Ci rfl rfl (Nat.le_of_ble_eq_true rfl) (Nat.le_of_ble_eq_true rfl) ⟨_, _, rfl, ko⟩ rfl k)
set_option maxRecDepth 100000 in
theorem s_L_measure_48 {d : Nat} {Q : xO → xH → Prop} {sh : List xS} {I : Nat → Nat → Int32} {J : Nat → Nat → Int64} {r0 : Nat} {v1 : Int32} {t0 : Int32}
    (k : Q (.inl (some (.int t0))) (sh, I, J)) :
    xG d zm_L_measure (48, [some (.ref r0), some (.int v1)], [.int t0]) (sh, I, J) Q := by
  exact xG_Q rfl rfl trivial k
set_option maxRecDepth 100000 in
theorem s_L_measure_49 {d : Nat} {Q : xO → xH → Prop} {sh : List xS} {I : Nat → Nat → Int32} {J : Nat → Nat → Int64} {r0 : Nat} {v1 : Int32}
    (k : Q (.inl (some (.int (-1 : Int32)))) (sh, I, J)) :
    xG d zm_L_measure (49, [some (.ref r0), some (.int v1)], []) (sh, I, J) Q := by
  exact xG_N 1 (ps := []) (f1 := (50, [some (.ref r0), some (.int v1)], [.int (-1 : Int32)])) (h1 := (sh, I, J)) rfl trivial (xG_Q rfl rfl trivial k)
set_option maxRecDepth 100000 in
theorem s_L_feed_0 {d : Nat} {Q : xO → xH → Prop} {sh : List xS} {I : Nat → Nat → Int32} {J : Nat → Nat → Int64} {r0 : Nat} {w1 : Int64} {v3 : Int32} {a1 : Nat}
    (e0 : xRr sh r0 0 2 a1)
    (ko : xOb sh a1 1)
    (k : xg d qBits_bytesHeld [.ref a1] (sh, I, J) (xI (fun v h1 => xG d zm_L_feed (7, [some (.ref r0), some (.long w1), none, some (.int v3), none, none], [.int v]) h1 Q) (fun x h1 => Q (.inr x) h1))) :
    xG d zm_L_feed (0, [some (.ref r0), some (.long w1), none, some (.int v3), none, none], []) (sh, I, J) Q := by
  obtain rfl := e0.eq
  exact xG_N 2 (ps := [xRf sh r0 0 2]) (f1 := (4, [some (.ref r0), some (.long w1), none, some (.int v3), none, none], [.ref (xrf sh r0 2)])) (h1 := (sh, I, J)) rfl e0.rf (xG_Ci rfl rfl (Nat.le_of_ble_eq_true rfl) (Nat.le_of_ble_eq_true rfl) ⟨_, _, rfl, ko⟩ rfl k)
set_option maxRecDepth 100000 in
theorem s_L_feed_7 {d : Nat} {Q : xO → xH → Prop} {sh : List xS} {I : Nat → Nat → Int32} {J : Nat → Nat → Int64} {r0 : Nat} {w1 : Int64} {v3 : Int32} {t0 : Int32}
    (k1 : v3 < (1 : Int32) → xG d zm_L_feed (30, [some (.ref r0), some (.long w1), none, some (.int v3), some (.int t0), none], []) (sh, I, J) Q)
    (k2 : ¬ (v3 < (1 : Int32)) → xG d zm_L_feed (14, [some (.ref r0), some (.long w1), none, some (.int v3), some (.int t0), none], []) (sh, I, J) Q) :
    xG d zm_L_feed (7, [some (.ref r0), some (.long w1), none, some (.int v3), none, none], [.int t0]) (sh, I, J) Q := by
  exact xG_N 3 (ps := []) (f1 := (11, [some (.ref r0), some (.long w1), none, some (.int v3), some (.int t0), none], [.int (1 : Int32), .int v3])) (h1 := (sh, I, J)) rfl trivial (xG_B rfl rfl k1 k2)
set_option maxRecDepth 100000 in
theorem s_L_feed_14 {d : Nat} {Q : xO → xH → Prop} {sh : List xS} {I : Nat → Nat → Int32} {J : Nat → Nat → Int64} {r0 : Nat} {w1 : Int64} {v3 : Int32} {v4 : Int32}
    (k1 : (8 : Int32) < v3 → xG d zm_L_feed (30, [some (.ref r0), some (.long w1), none, some (.int v3), some (.int v4), none], []) (sh, I, J) Q)
    (k2 : ¬ ((8 : Int32) < v3) → xG d zm_L_feed (20, [some (.ref r0), some (.long w1), none, some (.int v3), some (.int v4), none], []) (sh, I, J) Q) :
    xG d zm_L_feed (14, [some (.ref r0), some (.long w1), none, some (.int v3), some (.int v4), none], []) (sh, I, J) Q := by
  exact xG_N 2 (ps := []) (f1 := (17, [some (.ref r0), some (.long w1), none, some (.int v3), some (.int v4), none], [.int (8 : Int32), .int v3])) (h1 := (sh, I, J)) rfl trivial (xG_B rfl rfl k1 k2)
set_option maxRecDepth 100000 in
theorem s_L_feed_20 {d : Nat} {Q : xO → xH → Prop} {sh : List xS} {I : Nat → Nat → Int32} {J : Nat → Nat → Int64} {r0 : Nat} {w1 : Int64} {v3 : Int32} {v4 : Int32}
    (k1 : (v4 + v3) ≤ (700 : Int32) → xG d zm_L_feed (32, [some (.ref r0), some (.long w1), none, some (.int v3), some (.int v4), none], []) (sh, I, J) Q)
    (k2 : ¬ ((v4 + v3) ≤ (700 : Int32)) → xG d zm_L_feed (30, [some (.ref r0), some (.long w1), none, some (.int v3), some (.int v4), none], []) (sh, I, J) Q) :
    xG d zm_L_feed (20, [some (.ref r0), some (.long w1), none, some (.int v3), some (.int v4), none], []) (sh, I, J) Q := by
  exact xG_N 4 (ps := []) (f1 := (27, [some (.ref r0), some (.long w1), none, some (.int v3), some (.int v4), none], [.int (700 : Int32), .int (v4 + v3)])) (h1 := (sh, I, J)) rfl trivial (xG_B rfl rfl k1 k2)
set_option maxRecDepth 100000 in
theorem s_L_feed_30 {d : Nat} {Q : xO → xH → Prop} {sh : List xS} {I : Nat → Nat → Int32} {J : Nat → Nat → Int64} {r0 : Nat} {w1 : Int64} {v3 : Int32} {v4 : Int32}
    (k : Q (.inl (some (.int (-1 : Int32)))) (sh, I, J)) :
    xG d zm_L_feed (30, [some (.ref r0), some (.long w1), none, some (.int v3), some (.int v4), none], []) (sh, I, J) Q := by
  exact xG_N 1 (ps := []) (f1 := (31, [some (.ref r0), some (.long w1), none, some (.int v3), some (.int v4), none], [.int (-1 : Int32)])) (h1 := (sh, I, J)) rfl trivial (xG_Q rfl rfl trivial k)
set_option maxRecDepth 100000 in
theorem s_L_feed_32 {d : Nat} {Q : xO → xH → Prop} {sh : List xS} {I : Nat → Nat → Int32} {J : Nat → Nat → Int64} {r0 : Nat} {w1 : Int64} {v3 : Int32} {v4 : Int32}
    (k : xG d zm_L_feed (35, [some (.ref r0), some (.long w1), none, some (.int v3), some (.int v4), some (.int (0 : Int32))], []) (sh, I, J) Q) :
    xG d zm_L_feed (32, [some (.ref r0), some (.long w1), none, some (.int v3), some (.int v4), none], []) (sh, I, J) Q := by
  exact xG_N 2 (ps := []) (f1 := (35, [some (.ref r0), some (.long w1), none, some (.int v3), some (.int v4), some (.int (0 : Int32))], [])) (h1 := (sh, I, J)) rfl trivial (k)
set_option maxRecDepth 100000 in
theorem s_L_feed_35 {d : Nat} {Q : xO → xH → Prop} {sh : List xS} {I : Nat → Nat → Int32} {J : Nat → Nat → Int64} {r0 : Nat} {w1 : Int64} {v3 : Int32} {v4 : Int32} {v5 : Int32}
    (k1 : v3 ≤ v5 → xG d zm_L_feed (68, [some (.ref r0), some (.long w1), none, some (.int v3), some (.int v4), some (.int v5)], []) (sh, I, J) Q)
    (k2 : ¬ (v3 ≤ v5) → xG d zm_L_feed (41, [some (.ref r0), some (.long w1), none, some (.int v3), some (.int v4), some (.int v5)], []) (sh, I, J) Q) :
    xG d zm_L_feed (35, [some (.ref r0), some (.long w1), none, some (.int v3), some (.int v4), some (.int v5)], []) (sh, I, J) Q := by
  exact xG_N 2 (ps := []) (f1 := (38, [some (.ref r0), some (.long w1), none, some (.int v3), some (.int v4), some (.int v5)], [.int v3, .int v5])) (h1 := (sh, I, J)) rfl trivial (xG_B rfl rfl k1 k2)
set_option maxRecDepth 100000 in
theorem s_L_feed_41 {d : Nat} {Q : xO → xH → Prop} {sh : List xS} {I : Nat → Nat → Int32} {J : Nat → Nat → Int64} {r0 : Nat} {w1 : Int64} {v3 : Int32} {v4 : Int32} {v5 : Int32} {a1 : Nat}
    (e0 : xRr sh r0 0 2 a1)
    (ko : xOb sh a1 1)
    (k : xg d qBits_put [.ref a1, .int (((xusL w1 ((8 : Int32) * v5)).toInt32) &&& (255 : Int32)), .int (8 : Int32)] (sh, I, J) (xU (fun h1 => xG d zm_L_feed (62, [some (.ref r0), some (.long w1), none, some (.int v3), some (.int v4), some (.int v5)], []) h1 Q) (fun x h1 => Q (.inr x) h1))) :
    xG d zm_L_feed (41, [some (.ref r0), some (.long w1), none, some (.int v3), some (.int v4), some (.int v5)], []) (sh, I, J) Q := by
  obtain rfl := e0.eq
  exact xG_N 11 (ps := [xRf sh r0 0 2]) (f1 := (59, [some (.ref r0), some (.long w1), none, some (.int v3), some (.int v4), some (.int v5)], [.int (8 : Int32), .int (((xusL w1 ((8 : Int32) * v5)).toInt32) &&& (255 : Int32)), .ref (xrf sh r0 2)])) (h1 := (sh, I, J)) rfl e0.rf (xG_Cu rfl rfl (Nat.le_of_ble_eq_true rfl) (Nat.le_of_ble_eq_true rfl) ⟨_, _, rfl, ko⟩ rfl k)
set_option maxRecDepth 100000 in
theorem s_L_feed_62 {d : Nat} {Q : xO → xH → Prop} {sh : List xS} {I : Nat → Nat → Int32} {J : Nat → Nat → Int64} {r0 : Nat} {w1 : Int64} {v3 : Int32} {v4 : Int32} {v5 : Int32}
    (k : xG d zm_L_feed (35, [some (.ref r0), some (.long w1), none, some (.int v3), some (.int v4), some (.int (v5 + (1 : Int32)))], []) (sh, I, J) Q) :
    xG d zm_L_feed (62, [some (.ref r0), some (.long w1), none, some (.int v3), some (.int v4), some (.int v5)], []) (sh, I, J) Q := by
  exact xG_N 2 (ps := []) (f1 := (35, [some (.ref r0), some (.long w1), none, some (.int v3), some (.int v4), some (.int (v5 + (1 : Int32)))], [])) (h1 := (sh, I, J)) rfl trivial (k)
set_option maxRecDepth 100000 in
theorem s_L_feed_68 {d : Nat} {Q : xO → xH → Prop} {sh : List xS} {I : Nat → Nat → Int32} {J : Nat → Nat → Int64} {r0 : Nat} {w1 : Int64} {v3 : Int32} {v4 : Int32} {v5 : Int32}
    (k : Q (.inl (some (.int (v4 + v3)))) (sh, I, J)) :
    xG d zm_L_feed (68, [some (.ref r0), some (.long w1), none, some (.int v3), some (.int v4), some (.int v5)], []) (sh, I, J) Q := by
  exact xG_N 3 (ps := []) (f1 := (72, [some (.ref r0), some (.long w1), none, some (.int v3), some (.int v4), some (.int v5)], [.int (v4 + v3)])) (h1 := (sh, I, J)) rfl trivial (xG_Q rfl rfl trivial k)
set_option maxRecDepth 100000 in
theorem s_L_wipe_0 {d : Nat} {Q : xO → xH → Prop} {sh : List xS} {I : Nat → Nat → Int32} {J : Nat → Nat → Int64} {r0 : Nat} {a1 : Nat}
    (e0 : xRr sh r0 0 2 a1)
    (ko : xOb sh a1 1)
    (k : xg d qBits_bytesHeld [.ref a1] (sh, I, J) (xI (fun v h1 => xG d zm_L_wipe (7, [some (.ref r0), none], [.int v]) h1 Q) (fun x h1 => Q (.inr x) h1))) :
    xG d zm_L_wipe (0, [some (.ref r0), none], []) (sh, I, J) Q := by
  obtain rfl := e0.eq
  exact xG_N 2 (ps := [xRf sh r0 0 2]) (f1 := (4, [some (.ref r0), none], [.ref (xrf sh r0 2)])) (h1 := (sh, I, J)) rfl e0.rf (xG_Ci rfl rfl (Nat.le_of_ble_eq_true rfl) (Nat.le_of_ble_eq_true rfl) ⟨_, _, rfl, ko⟩ rfl k)
set_option maxRecDepth 100000 in
theorem s_L_wipe_7 {d : Nat} {Q : xO → xH → Prop} {sh : List xS} {I : Nat → Nat → Int32} {J : Nat → Nat → Int64} {r0 : Nat} {t0 : Int32} {a1 : Nat}
    (e0 : xRr sh r0 0 2 a1)
    (ko : xOb sh a1 1)
    (k : xg d qBits_clear [.ref a1] (sh, I, J) (xU (fun h1 => xG d zm_L_wipe (15, [some (.ref r0), some (.int t0)], []) h1 Q) (fun x h1 => Q (.inr x) h1))) :
    xG d zm_L_wipe (7, [some (.ref r0), none], [.int t0]) (sh, I, J) Q := by
  obtain rfl := e0.eq
  exact xG_N 3 (ps := [xRf sh r0 0 2]) (f1 := (12, [some (.ref r0), some (.int t0)], [.ref (xrf sh r0 2)])) (h1 := (sh, I, J)) rfl e0.rf (xG_Cu rfl rfl (Nat.le_of_ble_eq_true rfl) (Nat.le_of_ble_eq_true rfl) ⟨_, _, rfl, ko⟩ rfl k)
set_option maxRecDepth 100000 in
theorem s_L_wipe_15 {d : Nat} {Q : xO → xH → Prop} {sh : List xS} {I : Nat → Nat → Int32} {J : Nat → Nat → Int64} {r0 : Nat} {v1 : Int32}
    (k : Q (.inl (some (.int v1))) (sh, I, J)) :
    xG d zm_L_wipe (15, [some (.ref r0), some (.int v1)], []) (sh, I, J) Q := by
  exact xG_N 1 (ps := []) (f1 := (16, [some (.ref r0), some (.int v1)], [.int v1])) (h1 := (sh, I, J)) rfl trivial (xG_Q rfl rfl trivial k)
set_option maxRecDepth 100000 in
theorem s_L_byteAt_0 {d : Nat} {Q : xO → xH → Prop} {sh : List xS} {I : Nat → Nat → Int32} {J : Nat → Nat → Int64} {r0 : Nat} {v1 : Int32}
    (k1 : v1 < 0 → xG d zm_L_byteAt (15, [some (.ref r0), some (.int v1)], []) (sh, I, J) Q)
    (k2 : ¬ (v1 < 0) → xG d zm_L_byteAt (4, [some (.ref r0), some (.int v1)], []) (sh, I, J) Q) :
    xG d zm_L_byteAt (0, [some (.ref r0), some (.int v1)], []) (sh, I, J) Q := by
  exact xG_N 1 (ps := []) (f1 := (1, [some (.ref r0), some (.int v1)], [.int v1])) (h1 := (sh, I, J)) rfl trivial (xG_B rfl rfl k1 k2)
set_option maxRecDepth 100000 in
theorem s_L_byteAt_4 {d : Nat} {Q : xO → xH → Prop} {sh : List xS} {I : Nat → Nat → Int32} {J : Nat → Nat → Int64} {r0 : Nat} {v1 : Int32} {a1 : Nat}
    (e0 : xRr sh r0 0 2 a1)
    (ko : xOb sh a1 1)
    (k : xg d qBits_bytesHeld [.ref a1] (sh, I, J) (xI (fun v h1 => xG d zm_L_byteAt (12, [some (.ref r0), some (.int v1)], [.int v, .int v1]) h1 Q) (fun x h1 => Q (.inr x) h1))) :
    xG d zm_L_byteAt (4, [some (.ref r0), some (.int v1)], []) (sh, I, J) Q := by
  obtain rfl := e0.eq
  exact xG_N 3 (ps := [xRf sh r0 0 2]) (f1 := (9, [some (.ref r0), some (.int v1)], [.ref (xrf sh r0 2), .int v1])) (h1 := (sh, I, J)) rfl e0.rf (xG_Ci rfl rfl (Nat.le_of_ble_eq_true rfl) (Nat.le_of_ble_eq_true rfl) ⟨_, _, rfl, ko⟩ rfl k)
set_option maxRecDepth 100000 in
theorem s_L_byteAt_12 {d : Nat} {Q : xO → xH → Prop} {sh : List xS} {I : Nat → Nat → Int32} {J : Nat → Nat → Int64} {r0 : Nat} {v1 : Int32} {t0 : Int32} {t1 : Int32}
    (k1 : t0 < t1 → xG d zm_L_byteAt (19, [some (.ref r0), some (.int v1)], []) (sh, I, J) Q)
    (k2 : ¬ (t0 < t1) → xG d zm_L_byteAt (15, [some (.ref r0), some (.int v1)], []) (sh, I, J) Q) :
    xG d zm_L_byteAt (12, [some (.ref r0), some (.int v1)], [.int t1, .int t0]) (sh, I, J) Q := by
  exact xG_B rfl rfl k1 k2
set_option maxRecDepth 100000 in
theorem s_L_byteAt_15 {d : Nat} {Q : xO → xH → Prop} {sh : List xS} {I : Nat → Nat → Int32} {J : Nat → Nat → Int64} {r0 : Nat} {v1 : Int32}
    (k : Q (.inl (some (.int (-1 : Int32)))) (sh, I, J)) :
    xG d zm_L_byteAt (15, [some (.ref r0), some (.int v1)], []) (sh, I, J) Q := by
  exact xG_N 2 (ps := []) (f1 := (28, [some (.ref r0), some (.int v1)], [.int (-1 : Int32)])) (h1 := (sh, I, J)) rfl trivial (xG_Q rfl rfl trivial k)
set_option maxRecDepth 100000 in
theorem s_L_byteAt_19 {d : Nat} {Q : xO → xH → Prop} {sh : List xS} {I : Nat → Nat → Int32} {J : Nat → Nat → Int64} {r0 : Nat} {v1 : Int32} {a1 : Nat} {a2 : Nat} {n3 : Nat}
    (e0 : xRr sh r0 0 2 a1)
    (e1 : xRr sh a1 1 0 a2)
    (e2 : xAr sh a2 .int n3)
    (e3 : vp_in v1 n3)
    (k : Q (.inl (some (.int (I a2 v1.toNatClampNeg)))) (sh, I, J)) :
    xG d zm_L_byteAt (19, [some (.ref r0), some (.int v1)], []) (sh, I, J) Q := by
  obtain rfl := e0.eq
  obtain rfl := e1.eq
  obtain rfl := e2.eq
  exact xG_N 5 (ps := [xRf sh r0 0 2, xRf sh (xrf sh r0 2) 1 0, xA sh (xrf sh (xrf sh r0 2) 0) .int, vp_in v1 (xlen sh (xrf sh (xrf sh r0 2) 0))]) (f1 := (28, [some (.ref r0), some (.int v1)], [.int (I (xrf sh (xrf sh r0 2) 0) v1.toNatClampNeg)])) (h1 := (sh, I, J)) rfl ⟨e0.rf, e1.rf, e2.ar, e3⟩ (xG_Q rfl rfl trivial k)
set_option maxRecDepth 100000 in
theorem s_L_flip_0 {d : Nat} {Q : xO → xH → Prop} {sh : List xS} {I : Nat → Nat → Int32} {J : Nat → Nat → Int64} {r0 : Nat} {v1 : Int32}
    (k1 : v1 < 0 → xG d zm_L_flip (15, [some (.ref r0), some (.int v1)], []) (sh, I, J) Q)
    (k2 : ¬ (v1 < 0) → xG d zm_L_flip (4, [some (.ref r0), some (.int v1)], []) (sh, I, J) Q) :
    xG d zm_L_flip (0, [some (.ref r0), some (.int v1)], []) (sh, I, J) Q := by
  exact xG_N 1 (ps := []) (f1 := (1, [some (.ref r0), some (.int v1)], [.int v1])) (h1 := (sh, I, J)) rfl trivial (xG_B rfl rfl k1 k2)
set_option maxRecDepth 100000 in
theorem s_L_flip_4 {d : Nat} {Q : xO → xH → Prop} {sh : List xS} {I : Nat → Nat → Int32} {J : Nat → Nat → Int64} {r0 : Nat} {v1 : Int32} {a1 : Nat}
    (e0 : xRr sh r0 0 2 a1)
    (e1 : xOb sh a1 1)
    (k1 : v1 < (I a1 1) → xG d zm_L_flip (25, [some (.ref r0), some (.int v1)], []) (sh, I, J) Q)
    (k2 : ¬ (v1 < (I a1 1)) → xG d zm_L_flip (15, [some (.ref r0), some (.int v1)], []) (sh, I, J) Q) :
    xG d zm_L_flip (4, [some (.ref r0), some (.int v1)], []) (sh, I, J) Q := by
  obtain rfl := e0.eq
  exact xG_N 4 (ps := [xRf sh r0 0 2, xOb sh (xrf sh r0 2) 1]) (f1 := (12, [some (.ref r0), some (.int v1)], [.int (I (xrf sh r0 2) 1), .int v1])) (h1 := (sh, I, J)) rfl ⟨e0.rf, e1⟩ (xG_B rfl rfl k1 k2)
set_option maxRecDepth 100000 in
theorem s_L_flip_15 {d : Nat} {Q : xO → xH → Prop} {sh : List xS} {I : Nat → Nat → Int32} {J : Nat → Nat → Int64} {r0 : Nat} {v1 : Int32}
    (k : Q (.inr sh.length) (sh ++ [.inr (101, [])], I, J)) :
    xG d zm_L_flip (15, [some (.ref r0), some (.int v1)], []) (sh, I, J) Q := by
  exact xG_T rfl rfl rfl (Nat.le_of_ble_eq_true rfl) k
set_option maxRecDepth 100000 in
theorem s_L_flip_25 {d : Nat} {Q : xO → xH → Prop} {sh : List xS} {I : Nat → Nat → Int32} {J : Nat → Nat → Int64} {r0 : Nat} {v1 : Int32} {a1 : Nat} {a2 : Nat} {n3 : Nat}
    (e0 : xRr sh r0 0 2 a1)
    (e1 : xRr sh a1 1 0 a2)
    (e2 : xAr sh a2 .int n3)
    (e3 : vp_in (v1 / (8 : Int32)) n3)
    (e4 : 4 ≤ a2)
    (k : Q (.inl (some (.int ((((xup I a2 (v1 / (8 : Int32)).toNatClampNeg ((I a2 (v1 / (8 : Int32)).toNatClampNeg) ^^^ ((1 : Int32) <<< ((v1 - v1 / (8 : Int32) * (8 : Int32)) &&& 31)))) a2 (v1 / (8 : Int32)).toNatClampNeg) >>> ((v1 - v1 / (8 : Int32) * (8 : Int32)) &&& 31)) &&& (1 : Int32))))) (sh, xup I a2 (v1 / (8 : Int32)).toNatClampNeg ((I a2 (v1 / (8 : Int32)).toNatClampNeg) ^^^ ((1 : Int32) <<< ((v1 - v1 / (8 : Int32) * (8 : Int32)) &&& 31))), J)) :
    xG d zm_L_flip (25, [some (.ref r0), some (.int v1)], []) (sh, I, J) Q := by
  obtain rfl := e0.eq
  obtain rfl := e1.eq
  obtain rfl := e2.eq
  exact xG_N 28 (ps := [xRf sh r0 0 2, xRf sh (xrf sh r0 2) 1 0, ¬ (8 : Int32) = 0, xA sh (xrf sh (xrf sh r0 2) 0) .int, vp_in (v1 / (8 : Int32)) (xlen sh (xrf sh (xrf sh r0 2) 0)), ¬ (8 : Int32) = 0, xW sh (xrf sh (xrf sh r0 2) 0) .int, vp_in (v1 / (8 : Int32)) (xlen sh (xrf sh (xrf sh r0 2) 0)), xRf sh r0 0 2, xRf sh (xrf sh r0 2) 1 0, ¬ (8 : Int32) = 0, xA sh (xrf sh (xrf sh r0 2) 0) .int, vp_in (v1 / (8 : Int32)) (xlen sh (xrf sh (xrf sh r0 2) 0)), ¬ (8 : Int32) = 0]) (f1 := (65, [some (.ref r0), some (.int v1)], [.int ((((xup I (xrf sh (xrf sh r0 2) 0) (v1 / (8 : Int32)).toNatClampNeg ((I (xrf sh (xrf sh r0 2) 0) (v1 / (8 : Int32)).toNatClampNeg) ^^^ ((1 : Int32) <<< ((v1 - v1 / (8 : Int32) * (8 : Int32)) &&& 31)))) (xrf sh (xrf sh r0 2) 0) (v1 / (8 : Int32)).toNatClampNeg) >>> ((v1 - v1 / (8 : Int32) * (8 : Int32)) &&& 31)) &&& (1 : Int32))])) (h1 := (sh, xup I (xrf sh (xrf sh r0 2) 0) (v1 / (8 : Int32)).toNatClampNeg ((I (xrf sh (xrf sh r0 2) 0) (v1 / (8 : Int32)).toNatClampNeg) ^^^ ((1 : Int32) <<< ((v1 - v1 / (8 : Int32) * (8 : Int32)) &&& 31))), J)) rfl ⟨e0.rf, e1.rf, (show ¬ (8 : Int32) = 0 by decide), e2.ar, e3, (show ¬ (8 : Int32) = 0 by decide), ⟨e2.ar, e4⟩, e3, e0.rf, e1.rf, (show ¬ (8 : Int32) = 0 by decide), e2.ar, e3, (show ¬ (8 : Int32) = 0 by decide)⟩ (xG_Q rfl rfl trivial k)
set_option maxRecDepth 100000 in
theorem s_L_read_0 {d : Nat} {Q : xO → xH → Prop} {sh : List xS} {I : Nat → Nat → Int32} {J : Nat → Nat → Int64} {r0 : Nat} {a1 : Nat}
    (e0 : xRr sh r0 0 2 a1)
    (e1 : xOb sh a1 1)
    (k : xg d qBits_number [.ref a1, .int (8 : Int32)] (sh, xup I a1 2 (0 : Int32), J) (xI (fun v h1 => xG d zm_L_read (17, [some (.ref r0), none], [.int v]) h1 Q) (fun x h1 => Q (.inr x) h1))) :
    xG d zm_L_read (0, [some (.ref r0), none], []) (sh, I, J) Q := by
  obtain rfl := e0.eq
  exact xG_N 7 (ps := [xRf sh r0 0 2, xOb sh (xrf sh r0 2) 1, xRf sh r0 0 2]) (f1 := (14, [some (.ref r0), none], [.int (8 : Int32), .ref (xrf sh r0 2)])) (h1 := (sh, xup I (xrf sh r0 2) 2 (0 : Int32), J)) rfl ⟨e0.rf, e1, e0.rf⟩ (xG_Ci rfl rfl (Nat.le_of_ble_eq_true rfl) (Nat.le_of_ble_eq_true rfl) ⟨_, _, rfl, e1⟩ rfl k)
set_option maxRecDepth 100000 in
theorem s_L_read_17 {d : Nat} {Q : xO → xH → Prop} {sh : List xS} {I : Nat → Nat → Int32} {J : Nat → Nat → Int64} {r0 : Nat} {t0 : Int32}
    (k1 : t0 = (47 : Int32) → xG d zm_L_read (32, [some (.ref r0), none], []) (sh, I, J) Q)
    (k2 : ¬ (t0 = (47 : Int32)) → xG d zm_L_read (22, [some (.ref r0), none], []) (sh, I, J) Q) :
    xG d zm_L_read (17, [some (.ref r0), none], [.int t0]) (sh, I, J) Q := by
  exact xG_N 1 (ps := []) (f1 := (19, [some (.ref r0), none], [.int (47 : Int32), .int t0])) (h1 := (sh, I, J)) rfl trivial (xG_B rfl rfl k1 k2)
set_option maxRecDepth 100000 in
theorem s_L_read_22 {d : Nat} {Q : xO → xH → Prop} {sh : List xS} {I : Nat → Nat → Int32} {J : Nat → Nat → Int64} {r0 : Nat}
    (k : Q (.inr sh.length) (sh ++ [.inr (100, [])], I, J)) :
    xG d zm_L_read (22, [some (.ref r0), none], []) (sh, I, J) Q := by
  exact xG_T rfl rfl rfl (Nat.le_of_ble_eq_true rfl) k
set_option maxRecDepth 100000 in
theorem s_L_read_32 {d : Nat} {Q : xO → xH → Prop} {sh : List xS} {I : Nat → Nat → Int32} {J : Nat → Nat → Int64} {r0 : Nat} {a1 : Nat} {a2 : Nat}
    (e0 : xRr sh r0 0 1 a1)
    (e1 : xRr sh r0 0 2 a2)
    (ko : xOb sh a2 1)
    (k : xg d qBits_number [.ref a2, .int (3 : Int32)] (sh, I, J) (xI (fun v h1 => xG d zm_L_read (44, [some (.ref r0), none], [.int v, .ref a1]) h1 Q) (fun x h1 => Q (.inr x) h1))) :
    xG d zm_L_read (32, [some (.ref r0), none], []) (sh, I, J) Q := by
  obtain rfl := e0.eq
  obtain rfl := e1.eq
  exact xG_N 5 (ps := [xRf sh r0 0 1, xRf sh r0 0 2]) (f1 := (41, [some (.ref r0), none], [.int (3 : Int32), .ref (xrf sh r0 2), .ref (xrf sh r0 1)])) (h1 := (sh, I, J)) rfl ⟨e0.rf, e1.rf⟩ (xG_Ci rfl rfl (Nat.le_of_ble_eq_true rfl) (Nat.le_of_ble_eq_true rfl) ⟨_, _, rfl, ko⟩ rfl k)
set_option maxRecDepth 100000 in
theorem s_L_read_44 {d : Nat} {Q : xO → xH → Prop} {sh : List xS} {I : Nat → Nat → Int32} {J : Nat → Nat → Int64} {r0 : Nat} {t0 : Nat} {t1 : Int32} {a1 : Nat} {a2 : Nat}
    (e0 : xOb sh t0 8)
    (e1 : xRr sh r0 0 1 a1)
    (e2 : xRr sh r0 0 2 a2)
    (ko : xOb sh a2 1)
    (k : xg d qBits_number [.ref a2, .int (3 : Int32)] (sh, xup I t0 1 (t1 + (1 : Int32)), J) (xI (fun v h1 => xG d zm_L_read (61, [some (.ref r0), none], [.int v, .ref a1]) h1 Q) (fun x h1 => Q (.inr x) h1))) :
    xG d zm_L_read (44, [some (.ref r0), none], [.int t1, .ref t0]) (sh, I, J) Q := by
  obtain rfl := e1.eq
  obtain rfl := e2.eq
  exact xG_N 8 (ps := [xOb sh t0 8, xRf sh r0 0 1, xRf sh r0 0 2]) (f1 := (58, [some (.ref r0), none], [.int (3 : Int32), .ref (xrf sh r0 2), .ref (xrf sh r0 1)])) (h1 := (sh, xup I t0 1 (t1 + (1 : Int32)), J)) rfl ⟨e0, e1.rf, e2.rf⟩ (xG_Ci rfl rfl (Nat.le_of_ble_eq_true rfl) (Nat.le_of_ble_eq_true rfl) ⟨_, _, rfl, ko⟩ rfl k)
set_option maxRecDepth 100000 in
theorem s_L_read_61 {d : Nat} {Q : xO → xH → Prop} {sh : List xS} {I : Nat → Nat → Int32} {J : Nat → Nat → Int64} {r0 : Nat} {t0 : Nat} {t1 : Int32} {a1 : Nat}
    (e0 : xOb sh t0 8)
    (e1 : xRr sh r0 0 4 a1)
    (ko : xOb sh a1 9)
    (k : xg d qTransforms_clear [.ref a1] (sh, xup I t0 2 (t1 + (1 : Int32)), J) (xU (fun h1 => xG d zm_L_read (73, [some (.ref r0), none], []) h1 Q) (fun x h1 => Q (.inr x) h1))) :
    xG d zm_L_read (61, [some (.ref r0), none], [.int t1, .ref t0]) (sh, I, J) Q := by
  obtain rfl := e1.eq
  exact xG_N 5 (ps := [xOb sh t0 8, xRf sh r0 0 4]) (f1 := (70, [some (.ref r0), none], [.ref (xrf sh r0 4)])) (h1 := (sh, xup I t0 2 (t1 + (1 : Int32)), J)) rfl ⟨e0, e1.rf⟩ (xG_Cu rfl rfl (Nat.le_of_ble_eq_true rfl) (Nat.le_of_ble_eq_true rfl) ⟨_, _, rfl, ko⟩ rfl k)
set_option maxRecDepth 100000 in
theorem s_L_read_73 {d : Nat} {Q : xO → xH → Prop} {sh : List xS} {I : Nat → Nat → Int32} {J : Nat → Nat → Int64} {r0 : Nat}
    (k : xG d zm_L_read (75, [some (.ref r0), some (.int (0 : Int32))], []) (sh, I, J) Q) :
    xG d zm_L_read (73, [some (.ref r0), none], []) (sh, I, J) Q := by
  exact xG_N 2 (ps := []) (f1 := (75, [some (.ref r0), some (.int (0 : Int32))], [])) (h1 := (sh, I, J)) rfl trivial (k)
set_option maxRecDepth 100000 in
theorem s_L_read_75 {d : Nat} {Q : xO → xH → Prop} {sh : List xS} {I : Nat → Nat → Int32} {J : Nat → Nat → Int64} {r0 : Nat} {v1 : Int32}
    (k1 : (4 : Int32) < v1 → xG d zm_L_read (133, [some (.ref r0), some (.int v1)], []) (sh, I, J) Q)
    (k2 : ¬ ((4 : Int32) < v1) → xG d zm_L_read (80, [some (.ref r0), some (.int v1)], []) (sh, I, J) Q) :
    xG d zm_L_read (75, [some (.ref r0), some (.int v1)], []) (sh, I, J) Q := by
  exact xG_N 2 (ps := []) (f1 := (77, [some (.ref r0), some (.int v1)], [.int (4 : Int32), .int v1])) (h1 := (sh, I, J)) rfl trivial (xG_B rfl rfl k1 k2)
set_option maxRecDepth 100000 in
theorem s_L_read_80 {d : Nat} {Q : xO → xH → Prop} {sh : List xS} {I : Nat → Nat → Int32} {J : Nat → Nat → Int64} {r0 : Nat} {v1 : Int32} {a1 : Nat}
    (e0 : xRr sh r0 0 2 a1)
    (ko : xOb sh a1 1)
    (k : xg d qBits_bit [.ref a1] (sh, I, J) (xI (fun v h1 => xG d zm_L_read (87, [some (.ref r0), some (.int v1)], [.int v]) h1 Q) (fun x h1 => Q (.inr x) h1))) :
    xG d zm_L_read (80, [some (.ref r0), some (.int v1)], []) (sh, I, J) Q := by
  obtain rfl := e0.eq
  exact xG_N 2 (ps := [xRf sh r0 0 2]) (f1 := (84, [some (.ref r0), some (.int v1)], [.ref (xrf sh r0 2)])) (h1 := (sh, I, J)) rfl e0.rf (xG_Ci rfl rfl (Nat.le_of_ble_eq_true rfl) (Nat.le_of_ble_eq_true rfl) ⟨_, _, rfl, ko⟩ rfl k)
set_option maxRecDepth 100000 in
theorem s_L_read_87 {d : Nat} {Q : xO → xH → Prop} {sh : List xS} {I : Nat → Nat → Int32} {J : Nat → Nat → Int64} {r0 : Nat} {v1 : Int32} {t0 : Int32}
    (k1 : ¬ t0 = (1 : Int32) → xG d zm_L_read (133, [some (.ref r0), some (.int v1)], []) (sh, I, J) Q)
    (k2 : ¬ (¬ t0 = (1 : Int32)) → xG d zm_L_read (91, [some (.ref r0), some (.int v1)], []) (sh, I, J) Q) :
    xG d zm_L_read (87, [some (.ref r0), some (.int v1)], [.int t0]) (sh, I, J) Q := by
  exact xG_N 1 (ps := []) (f1 := (88, [some (.ref r0), some (.int v1)], [.int (1 : Int32), .int t0])) (h1 := (sh, I, J)) rfl trivial (xG_B rfl rfl k1 k2)
set_option maxRecDepth 100000 in
theorem s_L_read_91 {d : Nat} {Q : xO → xH → Prop} {sh : List xS} {I : Nat → Nat → Int32} {J : Nat → Nat → Int64} {r0 : Nat} {v1 : Int32} {a1 : Nat} {a2 : Nat} {a3 : Nat} {a4 : Nat}
    (e0 : xRr sh r0 0 1 a1)
    (e1 : xRr sh r0 0 4 a2)
    (e2 : xRr sh r0 0 2 a3)
    (e3 : xRr sh r0 0 5 a4)
    (e4 : xOb sh a1 8)
    (ko : xOb sh a2 9)
    (k : xg d qTransforms_take [.ref a2, .ref a3, .ref a4, .int (I a1 1), .int (I a1 2)] (sh, I, J) (xI (fun v h1 => xG d zm_L_read (124, [some (.ref r0), some (.int v1)], [.int v, .ref a1]) h1 Q) (fun x h1 => Q (.inr x) h1))) :
    xG d zm_L_read (91, [some (.ref r0), some (.int v1)], []) (sh, I, J) Q := by
  obtain rfl := e0.eq
  obtain rfl := e1.eq
  obtain rfl := e2.eq
  obtain rfl := e3.eq
  exact xG_N 14 (ps := [xRf sh r0 0 1, xRf sh r0 0 4, xRf sh r0 0 2, xRf sh r0 0 5, xRf sh r0 0 1, xOb sh (xrf sh r0 1) 8, xRf sh r0 0 1, xOb sh (xrf sh r0 1) 8]) (f1 := (121, [some (.ref r0), some (.int v1)], [.int (I (xrf sh r0 1) 2), .int (I (xrf sh r0 1) 1), .ref (xrf sh r0 5), .ref (xrf sh r0 2), .ref (xrf sh r0 4), .ref (xrf sh r0 1)])) (h1 := (sh, I, J)) rfl ⟨e0.rf, e1.rf, e2.rf, e3.rf, e0.rf, e4, e0.rf, e4⟩ (xG_Ci rfl rfl (Nat.le_of_ble_eq_true rfl) (Nat.le_of_ble_eq_true rfl) ⟨_, _, rfl, ko⟩ rfl k)
set_option maxRecDepth 100000 in
theorem s_L_read_124 {d : Nat} {Q : xO → xH → Prop} {sh : List xS} {I : Nat → Nat → Int32} {J : Nat → Nat → Int64} {r0 : Nat} {v1 : Int32} {t0 : Nat} {t1 : Int32}
    (e0 : xOb sh t0 8)
    (k : xG d zm_L_read (75, [some (.ref r0), some (.int (v1 + (1 : Int32)))], []) (sh, xup I t0 1 t1, J) Q) :
    xG d zm_L_read (124, [some (.ref r0), some (.int v1)], [.int t1, .ref t0]) (sh, I, J) Q := by
  exact xG_N 3 (ps := [xOb sh t0 8]) (f1 := (75, [some (.ref r0), some (.int (v1 + (1 : Int32)))], [])) (h1 := (sh, xup I t0 1 t1, J)) rfl e0 (k)
set_option maxRecDepth 100000 in
theorem s_L_read_133 {d : Nat} {Q : xO → xH → Prop} {sh : List xS} {I : Nat → Nat → Int32} {J : Nat → Nat → Int64} {r0 : Nat} {v1 : Int32} {a1 : Nat} {a2 : Nat} {a3 : Nat}
    (e0 : xRr sh r0 0 5 a1)
    (e1 : xRr sh r0 0 2 a2)
    (e2 : xRr sh r0 0 1 a3)
    (ko : xOb sh a1 6)
    (k : xg d qImageReader_take [.ref a1, .ref a2, .ref a3] (sh, I, J) (xU (fun h1 => xG d zm_L_read (148, [some (.ref r0), some (.int v1)], []) h1 Q) (fun x h1 => Q (.inr x) h1))) :
    xG d zm_L_read (133, [some (.ref r0), some (.int v1)], []) (sh, I, J) Q := by
  obtain rfl := e0.eq
  obtain rfl := e1.eq
  obtain rfl := e2.eq
  exact xG_N 6 (ps := [xRf sh r0 0 5, xRf sh r0 0 2, xRf sh r0 0 1]) (f1 := (145, [some (.ref r0), some (.int v1)], [.ref (xrf sh r0 1), .ref (xrf sh r0 2), .ref (xrf sh r0 5)])) (h1 := (sh, I, J)) rfl ⟨e0.rf, e1.rf, e2.rf⟩ (xG_Cu rfl rfl (Nat.le_of_ble_eq_true rfl) (Nat.le_of_ble_eq_true rfl) ⟨_, _, rfl, ko⟩ rfl k)
set_option maxRecDepth 100000 in
theorem s_L_read_148 {d : Nat} {Q : xO → xH → Prop} {sh : List xS} {I : Nat → Nat → Int32} {J : Nat → Nat → Int64} {r0 : Nat} {v1 : Int32} {a1 : Nat} {a2 : Nat}
    (e0 : xRr sh r0 0 4 a1)
    (e1 : xRr sh r0 0 1 a2)
    (ko : xOb sh a1 9)
    (k : xg d qTransforms_undoAll [.ref a1, .ref a2] (sh, I, J) (xU (fun h1 => xG d zm_L_read (159, [some (.ref r0), some (.int v1)], []) h1 Q) (fun x h1 => Q (.inr x) h1))) :
    xG d zm_L_read (148, [some (.ref r0), some (.int v1)], []) (sh, I, J) Q := by
  obtain rfl := e0.eq
  obtain rfl := e1.eq
  exact xG_N 4 (ps := [xRf sh r0 0 4, xRf sh r0 0 1]) (f1 := (156, [some (.ref r0), some (.int v1)], [.ref (xrf sh r0 1), .ref (xrf sh r0 4)])) (h1 := (sh, I, J)) rfl ⟨e0.rf, e1.rf⟩ (xG_Cu rfl rfl (Nat.le_of_ble_eq_true rfl) (Nat.le_of_ble_eq_true rfl) ⟨_, _, rfl, ko⟩ rfl k)
set_option maxRecDepth 100000 in
theorem s_L_read_159 {d : Nat} {Q : xO → xH → Prop} {sh : List xS} {I : Nat → Nat → Int32} {J : Nat → Nat → Int64} {r0 : Nat} {v1 : Int32} {a1 : Nat} {a2 : Nat}
    (e0 : xRr sh r0 0 0 a1)
    (e1 : xRr sh r0 0 1 a2)
    (ko : xOb sh a1 8)
    (k : xg d qPlane_become [.ref a1, .ref a2] (sh, I, J) (xU (fun h1 => xG d zm_L_read (170, [some (.ref r0), some (.int v1)], []) h1 Q) (fun x h1 => Q (.inr x) h1))) :
    xG d zm_L_read (159, [some (.ref r0), some (.int v1)], []) (sh, I, J) Q := by
  obtain rfl := e0.eq
  obtain rfl := e1.eq
  exact xG_N 4 (ps := [xRf sh r0 0 0, xRf sh r0 0 1]) (f1 := (167, [some (.ref r0), some (.int v1)], [.ref (xrf sh r0 1), .ref (xrf sh r0 0)])) (h1 := (sh, I, J)) rfl ⟨e0.rf, e1.rf⟩ (xG_Cu rfl rfl (Nat.le_of_ble_eq_true rfl) (Nat.le_of_ble_eq_true rfl) ⟨_, _, rfl, ko⟩ rfl k)
set_option maxRecDepth 100000 in
theorem s_L_read_170 {d : Nat} {Q : xO → xH → Prop} {sh : List xS} {I : Nat → Nat → Int32} {J : Nat → Nat → Int64} {r0 : Nat} {v1 : Int32}
    (k : xG d zm_L_read (172, [some (.ref r0), some (.int (0 : Int32))], []) (sh, I, J) Q) :
    xG d zm_L_read (170, [some (.ref r0), some (.int v1)], []) (sh, I, J) Q := by
  exact xG_N 2 (ps := []) (f1 := (172, [some (.ref r0), some (.int (0 : Int32))], [])) (h1 := (sh, I, J)) rfl trivial (k)
set_option maxRecDepth 100000 in
theorem s_L_read_172 {d : Nat} {Q : xO → xH → Prop} {sh : List xS} {I : Nat → Nat → Int32} {J : Nat → Nat → Int64} {r0 : Nat} {v1 : Int32}
    (k1 : (4 : Int32) ≤ v1 → xG d zm_L_read (205, [some (.ref r0), some (.int v1)], []) (sh, I, J) Q)
    (k2 : ¬ ((4 : Int32) ≤ v1) → xG d zm_L_read (177, [some (.ref r0), some (.int v1)], []) (sh, I, J) Q) :
    xG d zm_L_read (172, [some (.ref r0), some (.int v1)], []) (sh, I, J) Q := by
  exact xG_N 2 (ps := []) (f1 := (174, [some (.ref r0), some (.int v1)], [.int (4 : Int32), .int v1])) (h1 := (sh, I, J)) rfl trivial (xG_B rfl rfl k1 k2)
set_option maxRecDepth 100000 in
theorem s_L_read_177 {d : Nat} {Q : xO → xH → Prop} {sh : List xS} {I : Nat → Nat → Int32} {J : Nat → Nat → Int64} {r0 : Nat} {v1 : Int32} {a1 : Nat} {a2 : Nat}
    (e0 : xRr sh r0 0 8 a1)
    (e1 : xRr sh r0 0 4 a2)
    (ko : xOb sh a2 9)
    (k : xg d qTransforms_have [.ref a2, .int v1] (sh, I, J) (xI (fun v h1 => xG d zm_L_read (190, [some (.ref r0), some (.int v1)], [.int v, .int v1, .ref a1]) h1 Q) (fun x h1 => Q (.inr x) h1))) :
    xG d zm_L_read (177, [some (.ref r0), some (.int v1)], []) (sh, I, J) Q := by
  obtain rfl := e0.eq
  obtain rfl := e1.eq
  exact xG_N 6 (ps := [xRf sh r0 0 8, xRf sh r0 0 4]) (f1 := (187, [some (.ref r0), some (.int v1)], [.int v1, .ref (xrf sh r0 4), .int v1, .ref (xrf sh r0 8)])) (h1 := (sh, I, J)) rfl ⟨e0.rf, e1.rf⟩ (xG_Ci rfl rfl (Nat.le_of_ble_eq_true rfl) (Nat.le_of_ble_eq_true rfl) ⟨_, _, rfl, ko⟩ rfl k)
set_option maxRecDepth 100000 in
theorem s_L_read_190 {d : Nat} {Q : xO → xH → Prop} {sh : List xS} {I : Nat → Nat → Int32} {J : Nat → Nat → Int64} {r0 : Nat} {v1 : Int32} {t0 : Nat} {t1 : Int32} {t2 : Int32}
    (k1 : t2 = 0 → xG d zm_L_read (197, [some (.ref r0), some (.int v1)], [.int t1, .ref t0]) (sh, I, J) Q)
    (k2 : ¬ (t2 = 0) → xG d zm_L_read (193, [some (.ref r0), some (.int v1)], [.int t1, .ref t0]) (sh, I, J) Q) :
    xG d zm_L_read (190, [some (.ref r0), some (.int v1)], [.int t2, .int t1, .ref t0]) (sh, I, J) Q := by
  exact xG_B rfl rfl k1 k2
set_option maxRecDepth 100000 in
theorem s_L_read_193 {d : Nat} {Q : xO → xH → Prop} {sh : List xS} {I : Nat → Nat → Int32} {J : Nat → Nat → Int64} {r0 : Nat} {v1 : Int32} {t0 : Nat} {t1 : Int32} {n1 : Nat}
    (e0 : xAr sh t0 .int n1)
    (e1 : 4 ≤ t0)
    (e2 : vp_in t1 n1)
    (k : xG d zm_L_read (172, [some (.ref r0), some (.int (v1 + (1 : Int32)))], []) (sh, xup I t0 t1.toNatClampNeg (1 : Int32), J) Q) :
    xG d zm_L_read (193, [some (.ref r0), some (.int v1)], [.int t1, .ref t0]) (sh, I, J) Q := by
  obtain rfl := e0.eq
  exact xG_N 5 (ps := [xW sh t0 .int, vp_in t1 (xlen sh t0)]) (f1 := (172, [some (.ref r0), some (.int (v1 + (1 : Int32)))], [])) (h1 := (sh, xup I t0 t1.toNatClampNeg (1 : Int32), J)) rfl ⟨⟨e0.ar, e1⟩, e2⟩ (k)
set_option maxRecDepth 100000 in
theorem s_L_read_197 {d : Nat} {Q : xO → xH → Prop} {sh : List xS} {I : Nat → Nat → Int32} {J : Nat → Nat → Int64} {r0 : Nat} {v1 : Int32} {t0 : Nat} {t1 : Int32} {n1 : Nat}
    (e0 : xAr sh t0 .int n1)
    (e1 : 4 ≤ t0)
    (e2 : vp_in t1 n1)
    (k : xG d zm_L_read (172, [some (.ref r0), some (.int (v1 + (1 : Int32)))], []) (sh, xup I t0 t1.toNatClampNeg (0 : Int32), J) Q) :
    xG d zm_L_read (197, [some (.ref r0), some (.int v1)], [.int t1, .ref t0]) (sh, I, J) Q := by
  obtain rfl := e0.eq
  exact xG_N 4 (ps := [xW sh t0 .int, vp_in t1 (xlen sh t0)]) (f1 := (172, [some (.ref r0), some (.int (v1 + (1 : Int32)))], [])) (h1 := (sh, xup I t0 t1.toNatClampNeg (0 : Int32), J)) rfl ⟨⟨e0.ar, e1⟩, e2⟩ (k)
set_option maxRecDepth 100000 in
theorem s_L_read_205 {d : Nat} {Q : xO → xH → Prop} {sh : List xS} {I : Nat → Nat → Int32} {J : Nat → Nat → Int64} {r0 : Nat} {v1 : Int32} {a1 : Nat} {a2 : Nat}
    (e0 : xRr sh r0 0 5 a1)
    (e1 : xRr sh a1 6 1 a2)
    (ko : xOb sh a2 2)
    (k : xg d qCache_colourCount [.ref a2] (sh, I, J) (xI (fun v h1 => xG d zm_L_read (216, [some (.ref r0), some (.int v1)], [.int v, .ref r0]) h1 Q) (fun x h1 => Q (.inr x) h1))) :
    xG d zm_L_read (205, [some (.ref r0), some (.int v1)], []) (sh, I, J) Q := by
  obtain rfl := e0.eq
  obtain rfl := e1.eq
  exact xG_N 4 (ps := [xRf sh r0 0 5, xRf sh (xrf sh r0 5) 6 1]) (f1 := (213, [some (.ref r0), some (.int v1)], [.ref (xrf sh (xrf sh r0 5) 1), .ref r0])) (h1 := (sh, I, J)) rfl ⟨e0.rf, e1.rf⟩ (xG_Ci rfl rfl (Nat.le_of_ble_eq_true rfl) (Nat.le_of_ble_eq_true rfl) ⟨_, _, rfl, ko⟩ rfl k)
set_option maxRecDepth 100000 in
theorem s_L_read_216 {d : Nat} {Q : xO → xH → Prop} {sh : List xS} {I : Nat → Nat → Int32} {J : Nat → Nat → Int64} {r0 : Nat} {v1 : Int32} {t0 : Nat} {t1 : Int32} {a1 : Nat}
    (e0 : xRr sh r0 0 5 a1)
    (e1 : xOb sh a1 6)
    (ko : xOb sh t0 0)
    (k : xg d qL_closeAccount [.ref t0, .int t1, .int (I a1 3), .int (I a1 4)] (sh, I, J) (xU (fun h1 => xG d zm_L_read (233, [some (.ref r0), some (.int v1)], []) h1 Q) (fun x h1 => Q (.inr x) h1))) :
    xG d zm_L_read (216, [some (.ref r0), some (.int v1)], [.int t1, .ref t0]) (sh, I, J) Q := by
  obtain rfl := e0.eq
  exact xG_N 6 (ps := [xRf sh r0 0 5, xOb sh (xrf sh r0 5) 6, xRf sh r0 0 5, xOb sh (xrf sh r0 5) 6]) (f1 := (230, [some (.ref r0), some (.int v1)], [.int (I (xrf sh r0 5) 4), .int (I (xrf sh r0 5) 3), .int t1, .ref t0])) (h1 := (sh, I, J)) rfl ⟨e0.rf, e1, e0.rf, e1⟩ (xG_Cu rfl rfl (Nat.le_of_ble_eq_true rfl) (Nat.le_of_ble_eq_true rfl) ⟨_, _, rfl, ko⟩ rfl k)
set_option maxRecDepth 100000 in
theorem s_L_read_233 {d : Nat} {Q : xO → xH → Prop} {sh : List xS} {I : Nat → Nat → Int32} {J : Nat → Nat → Int64} {r0 : Nat} {v1 : Int32} {a1 : Nat}
    (e0 : xRr sh r0 0 2 a1)
    (e1 : xOb sh a1 1)
    (k : Q (.inl (some (.int (I a1 2)))) (sh, I, J)) :
    xG d zm_L_read (233, [some (.ref r0), some (.int v1)], []) (sh, I, J) Q := by
  obtain rfl := e0.eq
  exact xG_N 3 (ps := [xRf sh r0 0 2, xOb sh (xrf sh r0 2) 1]) (f1 := (240, [some (.ref r0), some (.int v1)], [.int (I (xrf sh r0 2) 2)])) (h1 := (sh, I, J)) rfl ⟨e0.rf, e1⟩ (xG_Q rfl rfl trivial k)
set_option maxRecDepth 100000 in
theorem s_L_write_0 {d : Nat} {Q : xO → xH → Prop} {sh : List xS} {I : Nat → Nat → Int32} {J : Nat → Nat → Int64} {r0 : Nat} {v1 : Int32} {v2 : Int32} {v3 : Int32} {v4 : Int32}
    (k1 : v3 < (-1 : Int32) → xG d zm_L_write (22, [some (.ref r0), some (.int v1), some (.int v2), some (.int v3), some (.int v4), none], []) (sh, I, J) Q)
    (k2 : ¬ (v3 < (-1 : Int32)) → xG d zm_L_write (5, [some (.ref r0), some (.int v1), some (.int v2), some (.int v3), some (.int v4), none], []) (sh, I, J) Q) :
    xG d zm_L_write (0, [some (.ref r0), some (.int v1), some (.int v2), some (.int v3), some (.int v4), none], []) (sh, I, J) Q := by
  exact xG_N 2 (ps := []) (f1 := (2, [some (.ref r0), some (.int v1), some (.int v2), some (.int v3), some (.int v4), none], [.int (-1 : Int32), .int v3])) (h1 := (sh, I, J)) rfl trivial (xG_B rfl rfl k1 k2)
set_option maxRecDepth 100000 in
theorem s_L_write_5 {d : Nat} {Q : xO → xH → Prop} {sh : List xS} {I : Nat → Nat → Int32} {J : Nat → Nat → Int64} {r0 : Nat} {v1 : Int32} {v2 : Int32} {v3 : Int32} {v4 : Int32}
    (k1 : (13 : Int32) < v3 → xG d zm_L_write (22, [some (.ref r0), some (.int v1), some (.int v2), some (.int v3), some (.int v4), none], []) (sh, I, J) Q)
    (k2 : ¬ ((13 : Int32) < v3) → xG d zm_L_write (11, [some (.ref r0), some (.int v1), some (.int v2), some (.int v3), some (.int v4), none], []) (sh, I, J) Q) :
    xG d zm_L_write (5, [some (.ref r0), some (.int v1), some (.int v2), some (.int v3), some (.int v4), none], []) (sh, I, J) Q := by
  exact xG_N 2 (ps := []) (f1 := (8, [some (.ref r0), some (.int v1), some (.int v2), some (.int v3), some (.int v4), none], [.int (13 : Int32), .int v3])) (h1 := (sh, I, J)) rfl trivial (xG_B rfl rfl k1 k2)
set_option maxRecDepth 100000 in
theorem s_L_write_11 {d : Nat} {Q : xO → xH → Prop} {sh : List xS} {I : Nat → Nat → Int32} {J : Nat → Nat → Int64} {r0 : Nat} {v1 : Int32} {v2 : Int32} {v3 : Int32} {v4 : Int32}
    (k1 : v4 < 0 → xG d zm_L_write (22, [some (.ref r0), some (.int v1), some (.int v2), some (.int v3), some (.int v4), none], []) (sh, I, J) Q)
    (k2 : ¬ (v4 < 0) → xG d zm_L_write (16, [some (.ref r0), some (.int v1), some (.int v2), some (.int v3), some (.int v4), none], []) (sh, I, J) Q) :
    xG d zm_L_write (11, [some (.ref r0), some (.int v1), some (.int v2), some (.int v3), some (.int v4), none], []) (sh, I, J) Q := by
  exact xG_N 1 (ps := []) (f1 := (13, [some (.ref r0), some (.int v1), some (.int v2), some (.int v3), some (.int v4), none], [.int v4])) (h1 := (sh, I, J)) rfl trivial (xG_B rfl rfl k1 k2)
set_option maxRecDepth 100000 in
theorem s_L_write_16 {d : Nat} {Q : xO → xH → Prop} {sh : List xS} {I : Nat → Nat → Int32} {J : Nat → Nat → Int64} {r0 : Nat} {v1 : Int32} {v2 : Int32} {v3 : Int32} {v4 : Int32}
    (k1 : v4 ≤ (4 : Int32) → xG d zm_L_write (32, [some (.ref r0), some (.int v1), some (.int v2), some (.int v3), some (.int v4), none], []) (sh, I, J) Q)
    (k2 : ¬ (v4 ≤ (4 : Int32)) → xG d zm_L_write (22, [some (.ref r0), some (.int v1), some (.int v2), some (.int v3), some (.int v4), none], []) (sh, I, J) Q) :
    xG d zm_L_write (16, [some (.ref r0), some (.int v1), some (.int v2), some (.int v3), some (.int v4), none], []) (sh, I, J) Q := by
  exact xG_N 2 (ps := []) (f1 := (19, [some (.ref r0), some (.int v1), some (.int v2), some (.int v3), some (.int v4), none], [.int (4 : Int32), .int v4])) (h1 := (sh, I, J)) rfl trivial (xG_B rfl rfl k1 k2)
set_option maxRecDepth 100000 in
theorem s_L_write_22 {d : Nat} {Q : xO → xH → Prop} {sh : List xS} {I : Nat → Nat → Int32} {J : Nat → Nat → Int64} {r0 : Nat} {v1 : Int32} {v2 : Int32} {v3 : Int32} {v4 : Int32}
    (k : Q (.inr sh.length) (sh ++ [.inr (100, [])], I, J)) :
    xG d zm_L_write (22, [some (.ref r0), some (.int v1), some (.int v2), some (.int v3), some (.int v4), none], []) (sh, I, J) Q := by
  exact xG_T rfl rfl rfl (Nat.le_of_ble_eq_true rfl) k
set_option maxRecDepth 100000 in
theorem s_L_write_32 {d : Nat} {Q : xO → xH → Prop} {sh : List xS} {I : Nat → Nat → Int32} {J : Nat → Nat → Int64} {r0 : Nat} {v1 : Int32} {v2 : Int32} {v3 : Int32} {v4 : Int32}
    (k1 : v1 = 0 → xG d zm_L_write (43, [some (.ref r0), some (.int v1), some (.int v2), some (.int v3), some (.int v4), none], []) (sh, I, J) Q)
    (k2 : ¬ (v1 = 0) → xG d zm_L_write (36, [some (.ref r0), some (.int v1), some (.int v2), some (.int v3), some (.int v4), none], []) (sh, I, J) Q) :
    xG d zm_L_write (32, [some (.ref r0), some (.int v1), some (.int v2), some (.int v3), some (.int v4), none], []) (sh, I, J) Q := by
  exact xG_N 1 (ps := []) (f1 := (33, [some (.ref r0), some (.int v1), some (.int v2), some (.int v3), some (.int v4), none], [.int v1])) (h1 := (sh, I, J)) rfl trivial (xG_B rfl rfl k1 k2)
set_option maxRecDepth 100000 in
theorem s_L_write_36 {d : Nat} {Q : xO → xH → Prop} {sh : List xS} {I : Nat → Nat → Int32} {J : Nat → Nat → Int64} {r0 : Nat} {v1 : Int32} {v2 : Int32} {v3 : Int32} {v4 : Int32}
    (ko : xOb sh r0 0)
    (k : xg d qL_gatherColours [.ref r0] (sh, I, J) (xI (fun v h1 => xG d zm_L_write (40, [some (.ref r0), some (.int v1), some (.int v2), some (.int v3), some (.int v4), none], [.int v]) h1 Q) (fun x h1 => Q (.inr x) h1))) :
    xG d zm_L_write (36, [some (.ref r0), some (.int v1), some (.int v2), some (.int v3), some (.int v4), none], []) (sh, I, J) Q := by
  exact xG_N 1 (ps := []) (f1 := (37, [some (.ref r0), some (.int v1), some (.int v2), some (.int v3), some (.int v4), none], [.ref r0])) (h1 := (sh, I, J)) rfl trivial (xG_Ci rfl rfl (Nat.le_of_ble_eq_true rfl) (Nat.le_of_ble_eq_true rfl) ⟨_, _, rfl, ko⟩ rfl k)
set_option maxRecDepth 100000 in
theorem s_L_write_40 {d : Nat} {Q : xO → xH → Prop} {sh : List xS} {I : Nat → Nat → Int32} {J : Nat → Nat → Int64} {r0 : Nat} {v1 : Int32} {v2 : Int32} {v3 : Int32} {v4 : Int32} {t0 : Int32}
    (k1 : t0 ≤ (16 : Int32) → xG d zm_L_write (63, [some (.ref r0), some (.int v1), some (.int v2), some (.int v3), some (.int v4), some (.int t0)], []) (sh, I, J) Q)
    (k2 : ¬ (t0 ≤ (16 : Int32)) → xG d zm_L_write (53, [some (.ref r0), some (.int v1), some (.int v2), some (.int v3), some (.int v4), some (.int t0)], []) (sh, I, J) Q) :
    xG d zm_L_write (40, [some (.ref r0), some (.int v1), some (.int v2), some (.int v3), some (.int v4), none], [.int t0]) (sh, I, J) Q := by
  exact xG_N 4 (ps := []) (f1 := (50, [some (.ref r0), some (.int v1), some (.int v2), some (.int v3), some (.int v4), some (.int t0)], [.int (16 : Int32), .int t0])) (h1 := (sh, I, J)) rfl trivial (xG_B rfl rfl k1 k2)
set_option maxRecDepth 100000 in
theorem s_L_write_43 {d : Nat} {Q : xO → xH → Prop} {sh : List xS} {I : Nat → Nat → Int32} {J : Nat → Nat → Int64} {r0 : Nat} {v1 : Int32} {v2 : Int32} {v3 : Int32} {v4 : Int32}
    (k1 : (0 : Int32) ≤ (16 : Int32) → xG d zm_L_write (63, [some (.ref r0), some (.int v1), some (.int v2), some (.int v3), some (.int v4), some (.int (0 : Int32))], []) (sh, I, J) Q)
    (k2 : ¬ ((0 : Int32) ≤ (16 : Int32)) → xG d zm_L_write (53, [some (.ref r0), some (.int v1), some (.int v2), some (.int v3), some (.int v4), some (.int (0 : Int32))], []) (sh, I, J) Q) :
    xG d zm_L_write (43, [some (.ref r0), some (.int v1), some (.int v2), some (.int v3), some (.int v4), none], []) (sh, I, J) Q := by
  exact xG_N 4 (ps := []) (f1 := (50, [some (.ref r0), some (.int v1), some (.int v2), some (.int v3), some (.int v4), some (.int (0 : Int32))], [.int (16 : Int32), .int (0 : Int32)])) (h1 := (sh, I, J)) rfl trivial (xG_B rfl rfl k1 k2)
set_option maxRecDepth 100000 in
theorem s_L_write_53 {d : Nat} {Q : xO → xH → Prop} {sh : List xS} {I : Nat → Nat → Int32} {J : Nat → Nat → Int64} {r0 : Nat} {v1 : Int32} {v2 : Int32} {v3 : Int32} {v4 : Int32} {v5 : Int32}
    (k : Q (.inr sh.length) (sh ++ [.inr (100, [])], I, J)) :
    xG d zm_L_write (53, [some (.ref r0), some (.int v1), some (.int v2), some (.int v3), some (.int v4), some (.int v5)], []) (sh, I, J) Q := by
  exact xG_T rfl rfl rfl (Nat.le_of_ble_eq_true rfl) k
set_option maxRecDepth 100000 in
theorem s_L_write_63 {d : Nat} {Q : xO → xH → Prop} {sh : List xS} {I : Nat → Nat → Int32} {J : Nat → Nat → Int64} {r0 : Nat} {v1 : Int32} {v2 : Int32} {v3 : Int32} {v4 : Int32} {v5 : Int32}
    (ko : xOb sh r0 0)
    (k : xg d qL_draftStream [.ref r0, .int v5, .int v2, .int v3, .int v4] (sh, I, J) (xU (fun h1 => xG d zm_L_write (73, [some (.ref r0), some (.int v1), some (.int v2), some (.int v3), some (.int v4), some (.int v5)], []) h1 Q) (fun x h1 => Q (.inr x) h1))) :
    xG d zm_L_write (63, [some (.ref r0), some (.int v1), some (.int v2), some (.int v3), some (.int v4), some (.int v5)], []) (sh, I, J) Q := by
  exact xG_N 5 (ps := []) (f1 := (70, [some (.ref r0), some (.int v1), some (.int v2), some (.int v3), some (.int v4), some (.int v5)], [.int v4, .int v3, .int v2, .int v5, .ref r0])) (h1 := (sh, I, J)) rfl trivial (xG_Cu rfl rfl (Nat.le_of_ble_eq_true rfl) (Nat.le_of_ble_eq_true rfl) ⟨_, _, rfl, ko⟩ rfl k)
set_option maxRecDepth 100000 in
theorem s_L_write_73 {d : Nat} {Q : xO → xH → Prop} {sh : List xS} {I : Nat → Nat → Int32} {J : Nat → Nat → Int64} {r0 : Nat} {v1 : Int32} {v2 : Int32} {v3 : Int32} {v4 : Int32} {v5 : Int32} {a1 : Nat}
    (e0 : xRr sh r0 0 3 a1)
    (ko : xOb sh a1 1)
    (k : xg d qBits_bytesHeld [.ref a1] (sh, I, J) (xI (fun v h1 => xG d zm_L_write (80, [some (.ref r0), some (.int v1), some (.int v2), some (.int v3), some (.int v4), some (.int v5)], [.int v]) h1 Q) (fun x h1 => Q (.inr x) h1))) :
    xG d zm_L_write (73, [some (.ref r0), some (.int v1), some (.int v2), some (.int v3), some (.int v4), some (.int v5)], []) (sh, I, J) Q := by
  obtain rfl := e0.eq
  exact xG_N 2 (ps := [xRf sh r0 0 3]) (f1 := (77, [some (.ref r0), some (.int v1), some (.int v2), some (.int v3), some (.int v4), some (.int v5)], [.ref (xrf sh r0 3)])) (h1 := (sh, I, J)) rfl e0.rf (xG_Ci rfl rfl (Nat.le_of_ble_eq_true rfl) (Nat.le_of_ble_eq_true rfl) ⟨_, _, rfl, ko⟩ rfl k)
set_option maxRecDepth 100000 in
theorem s_L_write_80 {d : Nat} {Q : xO → xH → Prop} {sh : List xS} {I : Nat → Nat → Int32} {J : Nat → Nat → Int64} {r0 : Nat} {v1 : Int32} {v2 : Int32} {v3 : Int32} {v4 : Int32} {v5 : Int32} {t0 : Int32}
    (k1 : t0 ≤ (700 : Int32) → xG d zm_L_write (96, [some (.ref r0), some (.int v1), some (.int v2), some (.int v3), some (.int v4), some (.int v5)], []) (sh, I, J) Q)
    (k2 : ¬ (t0 ≤ (700 : Int32)) → xG d zm_L_write (86, [some (.ref r0), some (.int v1), some (.int v2), some (.int v3), some (.int v4), some (.int v5)], []) (sh, I, J) Q) :
    xG d zm_L_write (80, [some (.ref r0), some (.int v1), some (.int v2), some (.int v3), some (.int v4), some (.int v5)], [.int t0]) (sh, I, J) Q := by
  exact xG_N 1 (ps := []) (f1 := (83, [some (.ref r0), some (.int v1), some (.int v2), some (.int v3), some (.int v4), some (.int v5)], [.int (700 : Int32), .int t0])) (h1 := (sh, I, J)) rfl trivial (xG_B rfl rfl k1 k2)
set_option maxRecDepth 100000 in
theorem s_L_write_86 {d : Nat} {Q : xO → xH → Prop} {sh : List xS} {I : Nat → Nat → Int32} {J : Nat → Nat → Int64} {r0 : Nat} {v1 : Int32} {v2 : Int32} {v3 : Int32} {v4 : Int32} {v5 : Int32}
    (k : Q (.inr sh.length) (sh ++ [.inr (102, [])], I, J)) :
    xG d zm_L_write (86, [some (.ref r0), some (.int v1), some (.int v2), some (.int v3), some (.int v4), some (.int v5)], []) (sh, I, J) Q := by
  exact xG_T rfl rfl rfl (Nat.le_of_ble_eq_true rfl) k
set_option maxRecDepth 100000 in
theorem s_L_write_96 {d : Nat} {Q : xO → xH → Prop} {sh : List xS} {I : Nat → Nat → Int32} {J : Nat → Nat → Int64} {r0 : Nat} {v1 : Int32} {v2 : Int32} {v3 : Int32} {v4 : Int32} {v5 : Int32} {a1 : Nat} {a2 : Nat}
    (e0 : xRr sh r0 0 2 a1)
    (e1 : xRr sh r0 0 3 a2)
    (ko : xOb sh a1 1)
    (k : xg d qBits_become [.ref a1, .ref a2] (sh, I, J) (xU (fun h1 => xG d zm_L_write (107, [some (.ref r0), some (.int v1), some (.int v2), some (.int v3), some (.int v4), some (.int v5)], []) h1 Q) (fun x h1 => Q (.inr x) h1))) :
    xG d zm_L_write (96, [some (.ref r0), some (.int v1), some (.int v2), some (.int v3), some (.int v4), some (.int v5)], []) (sh, I, J) Q := by
  obtain rfl := e0.eq
  obtain rfl := e1.eq
  exact xG_N 4 (ps := [xRf sh r0 0 2, xRf sh r0 0 3]) (f1 := (104, [some (.ref r0), some (.int v1), some (.int v2), some (.int v3), some (.int v4), some (.int v5)], [.ref (xrf sh r0 3), .ref (xrf sh r0 2)])) (h1 := (sh, I, J)) rfl ⟨e0.rf, e1.rf⟩ (xG_Cu rfl rfl (Nat.le_of_ble_eq_true rfl) (Nat.le_of_ble_eq_true rfl) ⟨_, _, rfl, ko⟩ rfl k)
set_option maxRecDepth 100000 in
theorem s_L_write_107 {d : Nat} {Q : xO → xH → Prop} {sh : List xS} {I : Nat → Nat → Int32} {J : Nat → Nat → Int64} {r0 : Nat} {v1 : Int32} {v2 : Int32} {v3 : Int32} {v4 : Int32} {v5 : Int32} {a1 : Nat}
    (e0 : xRr sh r0 0 8 a1)
    (k1 : ¬ v3 = (-1 : Int32) → xG d zm_L_write (121, [some (.ref r0), some (.int v1), some (.int v2), some (.int v3), some (.int v4), some (.int v5)], [.int (0 : Int32), .ref a1]) (sh, I, J) Q)
    (k2 : ¬ (¬ v3 = (-1 : Int32)) → xG d zm_L_write (117, [some (.ref r0), some (.int v1), some (.int v2), some (.int v3), some (.int v4), some (.int v5)], [.int (0 : Int32), .ref a1]) (sh, I, J) Q) :
    xG d zm_L_write (107, [some (.ref r0), some (.int v1), some (.int v2), some (.int v3), some (.int v4), some (.int v5)], []) (sh, I, J) Q := by
  obtain rfl := e0.eq
  exact xG_N 5 (ps := [xRf sh r0 0 8]) (f1 := (114, [some (.ref r0), some (.int v1), some (.int v2), some (.int v3), some (.int v4), some (.int v5)], [.int (-1 : Int32), .int v3, .int (0 : Int32), .ref (xrf sh r0 8)])) (h1 := (sh, I, J)) rfl e0.rf (xG_B rfl rfl k1 k2)
set_option maxRecDepth 100000 in
theorem s_L_write_117 {d : Nat} {Q : xO → xH → Prop} {sh : List xS} {I : Nat → Nat → Int32} {J : Nat → Nat → Int64} {r0 : Nat} {v1 : Int32} {v2 : Int32} {v3 : Int32} {v4 : Int32} {v5 : Int32} {t0 : Nat} {t1 : Int32} {n1 : Nat} {a2 : Nat} {n3 : Nat}
    (e0 : xAr sh t0 .int n1)
    (e1 : 4 ≤ t0)
    (e2 : vp_in t1 n1)
    (e3 : xRr sh r0 0 8 a2)
    (e4 : xAr sh a2 .int n3)
    (e5 : 4 ≤ a2)
    (e6 : vp_in (1 : Int32) n3)
    (k1 : v2 = 0 → xG d zm_L_write (143, [some (.ref r0), some (.int v1), some (.int v2), some (.int v3), some (.int v4), some (.int v5)], [.int (2 : Int32), .ref a2]) (sh, xup (xup I t0 t1.toNatClampNeg (0 : Int32)) a2 1 (0 : Int32), J) Q)
    (k2 : ¬ (v2 = 0) → xG d zm_L_write (139, [some (.ref r0), some (.int v1), some (.int v2), some (.int v3), some (.int v4), some (.int v5)], [.int (2 : Int32), .ref a2]) (sh, xup (xup I t0 t1.toNatClampNeg (0 : Int32)) a2 1 (0 : Int32), J) Q) :
    xG d zm_L_write (117, [some (.ref r0), some (.int v1), some (.int v2), some (.int v3), some (.int v4), some (.int v5)], [.int t1, .ref t0]) (sh, I, J) Q := by
  obtain rfl := e0.eq
  obtain rfl := e3.eq
  obtain rfl := e4.eq
  exact xG_N 12 (ps := [xW sh t0 .int, vp_in t1 (xlen sh t0), xRf sh r0 0 8, xW sh (xrf sh r0 8) .int, vp_in (1 : Int32) (xlen sh (xrf sh r0 8)), xRf sh r0 0 8]) (f1 := (136, [some (.ref r0), some (.int v1), some (.int v2), some (.int v3), some (.int v4), some (.int v5)], [.int v2, .int (2 : Int32), .ref (xrf sh r0 8)])) (h1 := (sh, xup (xup I t0 t1.toNatClampNeg (0 : Int32)) (xrf sh r0 8) 1 (0 : Int32), J)) rfl ⟨⟨e0.ar, e1⟩, e2, e3.rf, ⟨e4.ar, e5⟩, e6, e3.rf⟩ (xG_B rfl rfl k1 k2)
set_option maxRecDepth 100000 in
theorem s_L_write_121 {d : Nat} {Q : xO → xH → Prop} {sh : List xS} {I : Nat → Nat → Int32} {J : Nat → Nat → Int64} {r0 : Nat} {v1 : Int32} {v2 : Int32} {v3 : Int32} {v4 : Int32} {v5 : Int32} {t0 : Nat} {t1 : Int32} {n1 : Nat} {a2 : Nat} {n3 : Nat}
    (e0 : xAr sh t0 .int n1)
    (e1 : 4 ≤ t0)
    (e2 : vp_in t1 n1)
    (e3 : xRr sh r0 0 8 a2)
    (e4 : xAr sh a2 .int n3)
    (e5 : 4 ≤ a2)
    (e6 : vp_in (1 : Int32) n3)
    (k1 : v2 = 0 → xG d zm_L_write (143, [some (.ref r0), some (.int v1), some (.int v2), some (.int v3), some (.int v4), some (.int v5)], [.int (2 : Int32), .ref a2]) (sh, xup (xup I t0 t1.toNatClampNeg (1 : Int32)) a2 1 (0 : Int32), J) Q)
    (k2 : ¬ (v2 = 0) → xG d zm_L_write (139, [some (.ref r0), some (.int v1), some (.int v2), some (.int v3), some (.int v4), some (.int v5)], [.int (2 : Int32), .ref a2]) (sh, xup (xup I t0 t1.toNatClampNeg (1 : Int32)) a2 1 (0 : Int32), J) Q) :
    xG d zm_L_write (121, [some (.ref r0), some (.int v1), some (.int v2), some (.int v3), some (.int v4), some (.int v5)], [.int t1, .ref t0]) (sh, I, J) Q := by
  obtain rfl := e0.eq
  obtain rfl := e3.eq
  obtain rfl := e4.eq
  exact xG_N 11 (ps := [xW sh t0 .int, vp_in t1 (xlen sh t0), xRf sh r0 0 8, xW sh (xrf sh r0 8) .int, vp_in (1 : Int32) (xlen sh (xrf sh r0 8)), xRf sh r0 0 8]) (f1 := (136, [some (.ref r0), some (.int v1), some (.int v2), some (.int v3), some (.int v4), some (.int v5)], [.int v2, .int (2 : Int32), .ref (xrf sh r0 8)])) (h1 := (sh, xup (xup I t0 t1.toNatClampNeg (1 : Int32)) (xrf sh r0 8) 1 (0 : Int32), J)) rfl ⟨⟨e0.ar, e1⟩, e2, e3.rf, ⟨e4.ar, e5⟩, e6, e3.rf⟩ (xG_B rfl rfl k1 k2)
set_option maxRecDepth 100000 in
theorem s_L_write_139 {d : Nat} {Q : xO → xH → Prop} {sh : List xS} {I : Nat → Nat → Int32} {J : Nat → Nat → Int64} {r0 : Nat} {v1 : Int32} {v2 : Int32} {v3 : Int32} {v4 : Int32} {v5 : Int32} {t0 : Nat} {t1 : Int32} {n1 : Nat} {a2 : Nat}
    (e0 : xAr sh t0 .int n1)
    (e1 : 4 ≤ t0)
    (e2 : vp_in t1 n1)
    (e3 : xRr sh r0 0 8 a2)
    (k1 : v1 = 0 → xG d zm_L_write (158, [some (.ref r0), some (.int v1), some (.int v2), some (.int v3), some (.int v4), some (.int v5)], [.int (3 : Int32), .ref a2]) (sh, xup I t0 t1.toNatClampNeg (1 : Int32), J) Q)
    (k2 : ¬ (v1 = 0) → xG d zm_L_write (154, [some (.ref r0), some (.int v1), some (.int v2), some (.int v3), some (.int v4), some (.int v5)], [.int (3 : Int32), .ref a2]) (sh, xup I t0 t1.toNatClampNeg (1 : Int32), J) Q) :
    xG d zm_L_write (139, [some (.ref r0), some (.int v1), some (.int v2), some (.int v3), some (.int v4), some (.int v5)], [.int t1, .ref t0]) (sh, I, J) Q := by
  obtain rfl := e0.eq
  obtain rfl := e3.eq
  exact xG_N 7 (ps := [xW sh t0 .int, vp_in t1 (xlen sh t0), xRf sh r0 0 8]) (f1 := (151, [some (.ref r0), some (.int v1), some (.int v2), some (.int v3), some (.int v4), some (.int v5)], [.int v1, .int (3 : Int32), .ref (xrf sh r0 8)])) (h1 := (sh, xup I t0 t1.toNatClampNeg (1 : Int32), J)) rfl ⟨⟨e0.ar, e1⟩, e2, e3.rf⟩ (xG_B rfl rfl k1 k2)
set_option maxRecDepth 100000 in
theorem s_L_write_143 {d : Nat} {Q : xO → xH → Prop} {sh : List xS} {I : Nat → Nat → Int32} {J : Nat → Nat → Int64} {r0 : Nat} {v1 : Int32} {v2 : Int32} {v3 : Int32} {v4 : Int32} {v5 : Int32} {t0 : Nat} {t1 : Int32} {n1 : Nat} {a2 : Nat}
    (e0 : xAr sh t0 .int n1)
    (e1 : 4 ≤ t0)
    (e2 : vp_in t1 n1)
    (e3 : xRr sh r0 0 8 a2)
    (k1 : v1 = 0 → xG d zm_L_write (158, [some (.ref r0), some (.int v1), some (.int v2), some (.int v3), some (.int v4), some (.int v5)], [.int (3 : Int32), .ref a2]) (sh, xup I t0 t1.toNatClampNeg (0 : Int32), J) Q)
    (k2 : ¬ (v1 = 0) → xG d zm_L_write (154, [some (.ref r0), some (.int v1), some (.int v2), some (.int v3), some (.int v4), some (.int v5)], [.int (3 : Int32), .ref a2]) (sh, xup I t0 t1.toNatClampNeg (0 : Int32), J) Q) :
    xG d zm_L_write (143, [some (.ref r0), some (.int v1), some (.int v2), some (.int v3), some (.int v4), some (.int v5)], [.int t1, .ref t0]) (sh, I, J) Q := by
  obtain rfl := e0.eq
  obtain rfl := e3.eq
  exact xG_N 6 (ps := [xW sh t0 .int, vp_in t1 (xlen sh t0), xRf sh r0 0 8]) (f1 := (151, [some (.ref r0), some (.int v1), some (.int v2), some (.int v3), some (.int v4), some (.int v5)], [.int v1, .int (3 : Int32), .ref (xrf sh r0 8)])) (h1 := (sh, xup I t0 t1.toNatClampNeg (0 : Int32), J)) rfl ⟨⟨e0.ar, e1⟩, e2, e3.rf⟩ (xG_B rfl rfl k1 k2)
set_option maxRecDepth 100000 in
theorem s_L_write_154 {d : Nat} {Q : xO → xH → Prop} {sh : List xS} {I : Nat → Nat → Int32} {J : Nat → Nat → Int64} {r0 : Nat} {v1 : Int32} {v2 : Int32} {v3 : Int32} {v4 : Int32} {v5 : Int32} {t0 : Nat} {t1 : Int32} {n1 : Nat} {a2 : Nat} {a3 : Nat}
    (e0 : xAr sh t0 .int n1)
    (e1 : 4 ≤ t0)
    (e2 : vp_in t1 n1)
    (e3 : xRr sh r0 0 6 a2)
    (e4 : xRr sh a2 7 1 a3)
    (ko : xOb sh a3 2)
    (k : xg d qCache_colourCount [.ref a3] (sh, xup I t0 t1.toNatClampNeg (1 : Int32), J) (xI (fun v h1 => xG d zm_L_write (171, [some (.ref r0), some (.int v1), some (.int v2), some (.int v3), some (.int v4), some (.int v5)], [.int v, .ref r0]) h1 Q) (fun x h1 => Q (.inr x) h1))) :
    xG d zm_L_write (154, [some (.ref r0), some (.int v1), some (.int v2), some (.int v3), some (.int v4), some (.int v5)], [.int t1, .ref t0]) (sh, I, J) Q := by
  obtain rfl := e0.eq
  obtain rfl := e3.eq
  obtain rfl := e4.eq
  exact xG_N 7 (ps := [xW sh t0 .int, vp_in t1 (xlen sh t0), xRf sh r0 0 6, xRf sh (xrf sh r0 6) 7 1]) (f1 := (168, [some (.ref r0), some (.int v1), some (.int v2), some (.int v3), some (.int v4), some (.int v5)], [.ref (xrf sh (xrf sh r0 6) 1), .ref r0])) (h1 := (sh, xup I t0 t1.toNatClampNeg (1 : Int32), J)) rfl ⟨⟨e0.ar, e1⟩, e2, e3.rf, e4.rf⟩ (xG_Ci rfl rfl (Nat.le_of_ble_eq_true rfl) (Nat.le_of_ble_eq_true rfl) ⟨_, _, rfl, ko⟩ rfl k)
set_option maxRecDepth 100000 in
theorem s_L_write_158 {d : Nat} {Q : xO → xH → Prop} {sh : List xS} {I : Nat → Nat → Int32} {J : Nat → Nat → Int64} {r0 : Nat} {v1 : Int32} {v2 : Int32} {v3 : Int32} {v4 : Int32} {v5 : Int32} {t0 : Nat} {t1 : Int32} {n1 : Nat} {a2 : Nat} {a3 : Nat}
    (e0 : xAr sh t0 .int n1)
    (e1 : 4 ≤ t0)
    (e2 : vp_in t1 n1)
    (e3 : xRr sh r0 0 6 a2)
    (e4 : xRr sh a2 7 1 a3)
    (ko : xOb sh a3 2)
    (k : xg d qCache_colourCount [.ref a3] (sh, xup I t0 t1.toNatClampNeg (0 : Int32), J) (xI (fun v h1 => xG d zm_L_write (171, [some (.ref r0), some (.int v1), some (.int v2), some (.int v3), some (.int v4), some (.int v5)], [.int v, .ref r0]) h1 Q) (fun x h1 => Q (.inr x) h1))) :
    xG d zm_L_write (158, [some (.ref r0), some (.int v1), some (.int v2), some (.int v3), some (.int v4), some (.int v5)], [.int t1, .ref t0]) (sh, I, J) Q := by
  obtain rfl := e0.eq
  obtain rfl := e3.eq
  obtain rfl := e4.eq
  exact xG_N 6 (ps := [xW sh t0 .int, vp_in t1 (xlen sh t0), xRf sh r0 0 6, xRf sh (xrf sh r0 6) 7 1]) (f1 := (168, [some (.ref r0), some (.int v1), some (.int v2), some (.int v3), some (.int v4), some (.int v5)], [.ref (xrf sh (xrf sh r0 6) 1), .ref r0])) (h1 := (sh, xup I t0 t1.toNatClampNeg (0 : Int32), J)) rfl ⟨⟨e0.ar, e1⟩, e2, e3.rf, e4.rf⟩ (xG_Ci rfl rfl (Nat.le_of_ble_eq_true rfl) (Nat.le_of_ble_eq_true rfl) ⟨_, _, rfl, ko⟩ rfl k)
set_option maxRecDepth 100000 in
theorem s_L_write_171 {d : Nat} {Q : xO → xH → Prop} {sh : List xS} {I : Nat → Nat → Int32} {J : Nat → Nat → Int64} {r0 : Nat} {v1 : Int32} {v2 : Int32} {v3 : Int32} {v4 : Int32} {v5 : Int32} {t0 : Nat} {t1 : Int32} {a1 : Nat}
    (e0 : xRr sh r0 0 6 a1)
    (e1 : xOb sh a1 7)
    (ko : xOb sh t0 0)
    (k : xg d qL_closeAccount [.ref t0, .int t1, .int (I a1 7), .int (I a1 8)] (sh, I, J) (xU (fun h1 => xG d zm_L_write (188, [some (.ref r0), some (.int v1), some (.int v2), some (.int v3), some (.int v4), some (.int v5)], []) h1 Q) (fun x h1 => Q (.inr x) h1))) :
    xG d zm_L_write (171, [some (.ref r0), some (.int v1), some (.int v2), some (.int v3), some (.int v4), some (.int v5)], [.int t1, .ref t0]) (sh, I, J) Q := by
  obtain rfl := e0.eq
  exact xG_N 6 (ps := [xRf sh r0 0 6, xOb sh (xrf sh r0 6) 7, xRf sh r0 0 6, xOb sh (xrf sh r0 6) 7]) (f1 := (185, [some (.ref r0), some (.int v1), some (.int v2), some (.int v3), some (.int v4), some (.int v5)], [.int (I (xrf sh r0 6) 8), .int (I (xrf sh r0 6) 7), .int t1, .ref t0])) (h1 := (sh, I, J)) rfl ⟨e0.rf, e1, e0.rf, e1⟩ (xG_Cu rfl rfl (Nat.le_of_ble_eq_true rfl) (Nat.le_of_ble_eq_true rfl) ⟨_, _, rfl, ko⟩ rfl k)
set_option maxRecDepth 100000 in
theorem s_L_write_188 {d : Nat} {Q : xO → xH → Prop} {sh : List xS} {I : Nat → Nat → Int32} {J : Nat → Nat → Int64} {r0 : Nat} {v1 : Int32} {v2 : Int32} {v3 : Int32} {v4 : Int32} {v5 : Int32} {a1 : Nat}
    (e0 : xRr sh r0 0 3 a1)
    (e1 : xOb sh a1 1)
    (k : Q (.inl (some (.int (I a1 1)))) (sh, I, J)) :
    xG d zm_L_write (188, [some (.ref r0), some (.int v1), some (.int v2), some (.int v3), some (.int v4), some (.int v5)], []) (sh, I, J) Q := by
  obtain rfl := e0.eq
  exact xG_N 3 (ps := [xRf sh r0 0 3, xOb sh (xrf sh r0 3) 1]) (f1 := (195, [some (.ref r0), some (.int v1), some (.int v2), some (.int v3), some (.int v4), some (.int v5)], [.int (I (xrf sh r0 3) 1)])) (h1 := (sh, I, J)) rfl ⟨e0.rf, e1⟩ (xG_Q rfl rfl trivial k)
set_option maxRecDepth 100000 in
theorem s_L_had_0 {d : Nat} {Q : xO → xH → Prop} {sh : List xS} {I : Nat → Nat → Int32} {J : Nat → Nat → Int64} {r0 : Nat} {v1 : Int32}
    (e0 : xOb sh r0 0)
    (k1 : (I r0 9) = 0 → xG d zm_L_had (20, [some (.ref r0), some (.int v1)], []) (sh, I, J) Q)
    (k2 : ¬ ((I r0 9) = 0) → xG d zm_L_had (7, [some (.ref r0), some (.int v1)], []) (sh, I, J) Q) :
    xG d zm_L_had (0, [some (.ref r0), some (.int v1)], []) (sh, I, J) Q := by
  exact xG_N 2 (ps := [xOb sh r0 0]) (f1 := (4, [some (.ref r0), some (.int v1)], [.int (I r0 9)])) (h1 := (sh, I, J)) rfl e0 (xG_B rfl rfl k1 k2)
set_option maxRecDepth 100000 in
theorem s_L_had_7 {d : Nat} {Q : xO → xH → Prop} {sh : List xS} {I : Nat → Nat → Int32} {J : Nat → Nat → Int64} {r0 : Nat} {v1 : Int32}
    (k1 : v1 < 0 → xG d zm_L_had (20, [some (.ref r0), some (.int v1)], []) (sh, I, J) Q)
    (k2 : ¬ (v1 < 0) → xG d zm_L_had (11, [some (.ref r0), some (.int v1)], []) (sh, I, J) Q) :
    xG d zm_L_had (7, [some (.ref r0), some (.int v1)], []) (sh, I, J) Q := by
  exact xG_N 1 (ps := []) (f1 := (8, [some (.ref r0), some (.int v1)], [.int v1])) (h1 := (sh, I, J)) rfl trivial (xG_B rfl rfl k1 k2)
set_option maxRecDepth 100000 in
theorem s_L_had_11 {d : Nat} {Q : xO → xH → Prop} {sh : List xS} {I : Nat → Nat → Int32} {J : Nat → Nat → Int64} {r0 : Nat} {v1 : Int32} {a1 : Nat} {n2 : Nat}
    (e0 : xRr sh r0 0 8 a1)
    (e1 : xAr sh a1 .int n2)
    (k1 : v1 < (nI n2) → xG d zm_L_had (24, [some (.ref r0), some (.int v1)], []) (sh, I, J) Q)
    (k2 : ¬ (v1 < (nI n2)) → xG d zm_L_had (20, [some (.ref r0), some (.int v1)], []) (sh, I, J) Q) :
    xG d zm_L_had (11, [some (.ref r0), some (.int v1)], []) (sh, I, J) Q := by
  obtain rfl := e0.eq
  obtain rfl := e1.eq
  exact xG_N 4 (ps := [xRf sh r0 0 8, xA sh (xrf sh r0 8) .int]) (f1 := (17, [some (.ref r0), some (.int v1)], [.int (nI (xlen sh (xrf sh r0 8))), .int v1])) (h1 := (sh, I, J)) rfl ⟨e0.rf, e1.ar⟩ (xG_B rfl rfl k1 k2)
set_option maxRecDepth 100000 in
theorem s_L_had_20 {d : Nat} {Q : xO → xH → Prop} {sh : List xS} {I : Nat → Nat → Int32} {J : Nat → Nat → Int64} {r0 : Nat} {v1 : Int32}
    (k : Q (.inl (some (.int (-1 : Int32)))) (sh, I, J)) :
    xG d zm_L_had (20, [some (.ref r0), some (.int v1)], []) (sh, I, J) Q := by
  exact xG_N 2 (ps := []) (f1 := (30, [some (.ref r0), some (.int v1)], [.int (-1 : Int32)])) (h1 := (sh, I, J)) rfl trivial (xG_Q rfl rfl trivial k)
set_option maxRecDepth 100000 in
theorem s_L_had_24 {d : Nat} {Q : xO → xH → Prop} {sh : List xS} {I : Nat → Nat → Int32} {J : Nat → Nat → Int64} {r0 : Nat} {v1 : Int32} {a1 : Nat} {n2 : Nat}
    (e0 : xRr sh r0 0 8 a1)
    (e1 : xAr sh a1 .int n2)
    (e2 : vp_in v1 n2)
    (k : Q (.inl (some (.int (I a1 v1.toNatClampNeg)))) (sh, I, J)) :
    xG d zm_L_had (24, [some (.ref r0), some (.int v1)], []) (sh, I, J) Q := by
  obtain rfl := e0.eq
  obtain rfl := e1.eq
  exact xG_N 4 (ps := [xRf sh r0 0 8, xA sh (xrf sh r0 8) .int, vp_in v1 (xlen sh (xrf sh r0 8))]) (f1 := (30, [some (.ref r0), some (.int v1)], [.int (I (xrf sh r0 8) v1.toNatClampNeg)])) (h1 := (sh, I, J)) rfl ⟨e0.rf, e1.ar, e2⟩ (xG_Q rfl rfl trivial k)
set_option maxRecDepth 100000 in
theorem s_L_closeAccount_0 {d : Nat} {Q : xO → xH → Prop} {sh : List xS} {I : Nat → Nat → Int32} {J : Nat → Nat → Int64} {r0 : Nat} {v1 : Int32} {v2 : Int32} {v3 : Int32} {a1 : Nat} {n2 : Nat}
    (e0 : xRr sh r0 0 8 a1)
    (e1 : xAr sh a1 .int n2)
    (e2 : 4 ≤ a1)
    (e3 : vp_in (4 : Int32) n2)
    (e4 : vp_in (5 : Int32) n2)
    (e5 : vp_in (6 : Int32) n2)
    (k : Q (.inl (none)) (sh, xup (xup (xup (xup I a1 4 v1) a1 5 v2) a1 6 v3) r0 9 (1 : Int32), J)) :
    xG d zm_L_closeAccount (0, [some (.ref r0), some (.int v1), some (.int v2), some (.int v3)], []) (sh, I, J) Q := by
  obtain rfl := e0.eq
  obtain rfl := e1.eq
  exact xG_N 18 (ps := [xRf sh r0 0 8, xW sh (xrf sh r0 8) .int, vp_in (4 : Int32) (xlen sh (xrf sh r0 8)), xRf sh r0 0 8, xW sh (xrf sh r0 8) .int, vp_in (5 : Int32) (xlen sh (xrf sh r0 8)), xRf sh r0 0 8, xW sh (xrf sh r0 8) .int, vp_in (6 : Int32) (xlen sh (xrf sh r0 8)), xOb sh r0 0, ((1 : Int32) : Int32) = 0 ∨ ((1 : Int32) : Int32) = 1]) (f1 := (27, [some (.ref r0), some (.int v1), some (.int v2), some (.int v3)], [])) (h1 := (sh, xup (xup (xup (xup I (xrf sh r0 8) 4 v1) (xrf sh r0 8) 5 v2) (xrf sh r0 8) 6 v3) r0 9 (1 : Int32), J)) rfl ⟨e0.rf, ⟨e1.ar, e2⟩, e3, e0.rf, ⟨e1.ar, e2⟩, e4, e0.rf, ⟨e1.ar, e2⟩, e5, e0.ob, (show ((1 : Int32) : Int32) = 0 ∨ ((1 : Int32) : Int32) = 1 by decide)⟩ (xG_Q rfl rfl trivial k)
set_option maxRecDepth 100000 in
theorem s_L_gatherColours_0 {d : Nat} {Q : xO → xH → Prop} {sh : List xS} {I : Nat → Nat → Int32} {J : Nat → Nat → Int64} {r0 : Nat}
    (k : xG d zm_L_gatherColours (4, [some (.ref r0), some (.int (0 : Int32)), some (.int (0 : Int32)), none, none, none], []) (sh, I, J) Q) :
    xG d zm_L_gatherColours (0, [some (.ref r0), none, none, none, none, none], []) (sh, I, J) Q := by
  exact xG_N 4 (ps := []) (f1 := (4, [some (.ref r0), some (.int (0 : Int32)), some (.int (0 : Int32)), none, none, none], [])) (h1 := (sh, I, J)) rfl trivial (k)
set_option maxRecDepth 100000 in
theorem s_L_gatherColours_4 {d : Nat} {Q : xO → xH → Prop} {sh : List xS} {I : Nat → Nat → Int32} {J : Nat → Nat → Int64} {r0 : Nat} {v1 : Int32} {v2 : Int32} {o3 : Option Value} {o4 : Option Value} {o5 : Option Value} {a1 : Nat}
    (e0 : xRr sh r0 0 0 a1)
    (ko : xOb sh a1 8)
    (k : xg d qPlane_count [.ref a1] (sh, I, J) (xI (fun v h1 => xG d zm_L_gatherColours (12, [some (.ref r0), some (.int v1), some (.int v2), o3, o4, o5], [.int v, .int v2]) h1 Q) (fun x h1 => Q (.inr x) h1))) :
    xG d zm_L_gatherColours (4, [some (.ref r0), some (.int v1), some (.int v2), o3, o4, o5], []) (sh, I, J) Q := by
  obtain rfl := e0.eq
  exact xG_N 3 (ps := [xRf sh r0 0 0]) (f1 := (9, [some (.ref r0), some (.int v1), some (.int v2), o3, o4, o5], [.ref (xrf sh r0 0), .int v2])) (h1 := (sh, I, J)) rfl e0.rf (xG_Ci rfl rfl (Nat.le_of_ble_eq_true rfl) (Nat.le_of_ble_eq_true rfl) ⟨_, _, rfl, ko⟩ rfl k)
set_option maxRecDepth 100000 in
theorem s_L_gatherColours_12 {d : Nat} {Q : xO → xH → Prop} {sh : List xS} {I : Nat → Nat → Int32} {J : Nat → Nat → Int64} {r0 : Nat} {v1 : Int32} {v2 : Int32} {o3 : Option Value} {o4 : Option Value} {o5 : Option Value} {t0 : Int32} {t1 : Int32}
    (k1 : t1 ≤ t0 → xG d zm_L_gatherColours (120, [some (.ref r0), some (.int v1), some (.int v2), o3, o4, o5], []) (sh, I, J) Q)
    (k2 : ¬ (t1 ≤ t0) → xG d zm_L_gatherColours (15, [some (.ref r0), some (.int v1), some (.int v2), o3, o4, o5], []) (sh, I, J) Q) :
    xG d zm_L_gatherColours (12, [some (.ref r0), some (.int v1), some (.int v2), o3, o4, o5], [.int t1, .int t0]) (sh, I, J) Q := by
  exact xG_B rfl rfl k1 k2
set_option maxRecDepth 100000 in
theorem s_L_gatherColours_15 {d : Nat} {Q : xO → xH → Prop} {sh : List xS} {I : Nat → Nat → Int32} {J : Nat → Nat → Int64} {r0 : Nat} {v1 : Int32} {v2 : Int32} {o3 : Option Value} {o4 : Option Value} {o5 : Option Value} {a1 : Nat} {a2 : Nat} {n3 : Nat}
    (e0 : xRr sh r0 0 0 a1)
    (e1 : xRr sh a1 8 0 a2)
    (e2 : xAr sh a2 .int n3)
    (e3 : vp_in v2 n3)
    (k : xG d zm_L_gatherColours (28, [some (.ref r0), some (.int v1), some (.int v2), some (.int (I a2 v2.toNatClampNeg)), some (.int (0 : Int32)), o5], []) (sh, I, J) Q) :
    xG d zm_L_gatherColours (15, [some (.ref r0), some (.int v1), some (.int v2), o3, o4, o5], []) (sh, I, J) Q := by
  obtain rfl := e0.eq
  obtain rfl := e1.eq
  obtain rfl := e2.eq
  exact xG_N 8 (ps := [xRf sh r0 0 0, xRf sh (xrf sh r0 0) 8 0, xA sh (xrf sh (xrf sh r0 0) 0) .int, vp_in v2 (xlen sh (xrf sh (xrf sh r0 0) 0))]) (f1 := (28, [some (.ref r0), some (.int v1), some (.int v2), some (.int (I (xrf sh (xrf sh r0 0) 0) v2.toNatClampNeg)), some (.int (0 : Int32)), o5], [])) (h1 := (sh, I, J)) rfl ⟨e0.rf, e1.rf, e2.ar, e3⟩ (k)
set_option maxRecDepth 100000 in
theorem s_L_gatherColours_28 {d : Nat} {Q : xO → xH → Prop} {sh : List xS} {I : Nat → Nat → Int32} {J : Nat → Nat → Int64} {r0 : Nat} {v1 : Int32} {v2 : Int32} {v3 : Int32} {v4 : Int32} {o5 : Option Value}
    (k1 : v1 ≤ v4 → xG d zm_L_gatherColours (54, [some (.ref r0), some (.int v1), some (.int v2), some (.int v3), some (.int v4), o5], []) (sh, I, J) Q)
    (k2 : ¬ (v1 ≤ v4) → xG d zm_L_gatherColours (34, [some (.ref r0), some (.int v1), some (.int v2), some (.int v3), some (.int v4), o5], []) (sh, I, J) Q) :
    xG d zm_L_gatherColours (28, [some (.ref r0), some (.int v1), some (.int v2), some (.int v3), some (.int v4), o5], []) (sh, I, J) Q := by
  exact xG_N 2 (ps := []) (f1 := (31, [some (.ref r0), some (.int v1), some (.int v2), some (.int v3), some (.int v4), o5], [.int v1, .int v4])) (h1 := (sh, I, J)) rfl trivial (xG_B rfl rfl k1 k2)
set_option maxRecDepth 100000 in
theorem s_L_gatherColours_34 {d : Nat} {Q : xO → xH → Prop} {sh : List xS} {I : Nat → Nat → Int32} {J : Nat → Nat → Int64} {r0 : Nat} {v1 : Int32} {v2 : Int32} {v3 : Int32} {v4 : Int32} {o5 : Option Value} {a1 : Nat} {n2 : Nat}
    (e0 : xRr sh r0 0 7 a1)
    (e1 : xAr sh a1 .int n2)
    (e2 : vp_in v4 n2)
    (k : xg d qL_isLess [.int (I a1 v4.toNatClampNeg), .int v3] (sh, I, J) (xI (fun v h1 => xG d zm_L_gatherColours (45, [some (.ref r0), some (.int v1), some (.int v2), some (.int v3), some (.int v4), o5], [.int v]) h1 Q) (fun x h1 => Q (.inr x) h1))) :
    xG d zm_L_gatherColours (34, [some (.ref r0), some (.int v1), some (.int v2), some (.int v3), some (.int v4), o5], []) (sh, I, J) Q := by
  obtain rfl := e0.eq
  obtain rfl := e1.eq
  exact xG_N 5 (ps := [xRf sh r0 0 7, xA sh (xrf sh r0 7) .int, vp_in v4 (xlen sh (xrf sh r0 7))]) (f1 := (42, [some (.ref r0), some (.int v1), some (.int v2), some (.int v3), some (.int v4), o5], [.int v3, .int (I (xrf sh r0 7) v4.toNatClampNeg)])) (h1 := (sh, I, J)) rfl ⟨e0.rf, e1.ar, e2⟩ (xG_Ci rfl rfl (Nat.le_of_ble_eq_true rfl) (Nat.le_of_ble_eq_true rfl) trivial rfl k)
set_option maxRecDepth 100000 in
theorem s_L_gatherColours_45 {d : Nat} {Q : xO → xH → Prop} {sh : List xS} {I : Nat → Nat → Int32} {J : Nat → Nat → Int64} {r0 : Nat} {v1 : Int32} {v2 : Int32} {v3 : Int32} {v4 : Int32} {o5 : Option Value} {t0 : Int32}
    (k1 : t0 = 0 → xG d zm_L_gatherColours (54, [some (.ref r0), some (.int v1), some (.int v2), some (.int v3), some (.int v4), o5], []) (sh, I, J) Q)
    (k2 : ¬ (t0 = 0) → xG d zm_L_gatherColours (48, [some (.ref r0), some (.int v1), some (.int v2), some (.int v3), some (.int v4), o5], []) (sh, I, J) Q) :
    xG d zm_L_gatherColours (45, [some (.ref r0), some (.int v1), some (.int v2), some (.int v3), some (.int v4), o5], [.int t0]) (sh, I, J) Q := by
  exact xG_B rfl rfl k1 k2
set_option maxRecDepth 100000 in
theorem s_L_gatherColours_48 {d : Nat} {Q : xO → xH → Prop} {sh : List xS} {I : Nat → Nat → Int32} {J : Nat → Nat → Int64} {r0 : Nat} {v1 : Int32} {v2 : Int32} {v3 : Int32} {v4 : Int32} {o5 : Option Value}
    (k : xG d zm_L_gatherColours (28, [some (.ref r0), some (.int v1), some (.int v2), some (.int v3), some (.int (v4 + (1 : Int32))), o5], []) (sh, I, J) Q) :
    xG d zm_L_gatherColours (48, [some (.ref r0), some (.int v1), some (.int v2), some (.int v3), some (.int v4), o5], []) (sh, I, J) Q := by
  exact xG_N 2 (ps := []) (f1 := (28, [some (.ref r0), some (.int v1), some (.int v2), some (.int v3), some (.int (v4 + (1 : Int32))), o5], [])) (h1 := (sh, I, J)) rfl trivial (k)
set_option maxRecDepth 100000 in
theorem s_L_gatherColours_54 {d : Nat} {Q : xO → xH → Prop} {sh : List xS} {I : Nat → Nat → Int32} {J : Nat → Nat → Int64} {r0 : Nat} {v1 : Int32} {v2 : Int32} {v3 : Int32} {v4 : Int32} {o5 : Option Value}
    (k1 : v4 = v1 → xG d zm_L_gatherColours (71, [some (.ref r0), some (.int v1), some (.int v2), some (.int v3), some (.int v4), o5], []) (sh, I, J) Q)
    (k2 : ¬ (v4 = v1) → xG d zm_L_gatherColours (60, [some (.ref r0), some (.int v1), some (.int v2), some (.int v3), some (.int v4), o5], []) (sh, I, J) Q) :
    xG d zm_L_gatherColours (54, [some (.ref r0), some (.int v1), some (.int v2), some (.int v3), some (.int v4), o5], []) (sh, I, J) Q := by
  exact xG_N 2 (ps := []) (f1 := (57, [some (.ref r0), some (.int v1), some (.int v2), some (.int v3), some (.int v4), o5], [.int v1, .int v4])) (h1 := (sh, I, J)) rfl trivial (xG_B rfl rfl k1 k2)
set_option maxRecDepth 100000 in
theorem s_L_gatherColours_60 {d : Nat} {Q : xO → xH → Prop} {sh : List xS} {I : Nat → Nat → Int32} {J : Nat → Nat → Int64} {r0 : Nat} {v1 : Int32} {v2 : Int32} {v3 : Int32} {v4 : Int32} {o5 : Option Value} {a1 : Nat} {n2 : Nat}
    (e0 : xRr sh r0 0 7 a1)
    (e1 : xAr sh a1 .int n2)
    (e2 : vp_in v4 n2)
    (k1 : (I a1 v4.toNatClampNeg) = v3 → xG d zm_L_gatherColours (114, [some (.ref r0), some (.int v1), some (.int v2), some (.int v3), some (.int v4), o5], []) (sh, I, J) Q)
    (k2 : ¬ ((I a1 v4.toNatClampNeg) = v3) → xG d zm_L_gatherColours (71, [some (.ref r0), some (.int v1), some (.int v2), some (.int v3), some (.int v4), o5], []) (sh, I, J) Q) :
    xG d zm_L_gatherColours (60, [some (.ref r0), some (.int v1), some (.int v2), some (.int v3), some (.int v4), o5], []) (sh, I, J) Q := by
  obtain rfl := e0.eq
  obtain rfl := e1.eq
  exact xG_N 5 (ps := [xRf sh r0 0 7, xA sh (xrf sh r0 7) .int, vp_in v4 (xlen sh (xrf sh r0 7))]) (f1 := (68, [some (.ref r0), some (.int v1), some (.int v2), some (.int v3), some (.int v4), o5], [.int v3, .int (I (xrf sh r0 7) v4.toNatClampNeg)])) (h1 := (sh, I, J)) rfl ⟨e0.rf, e1.ar, e2⟩ (xG_B rfl rfl k1 k2)
set_option maxRecDepth 100000 in
theorem s_L_gatherColours_71 {d : Nat} {Q : xO → xH → Prop} {sh : List xS} {I : Nat → Nat → Int32} {J : Nat → Nat → Int64} {r0 : Nat} {v1 : Int32} {v2 : Int32} {v3 : Int32} {v4 : Int32} {o5 : Option Value}
    (k : xG d zm_L_gatherColours (74, [some (.ref r0), some (.int v1), some (.int v2), some (.int v3), some (.int v4), some (.int v1)], []) (sh, I, J) Q) :
    xG d zm_L_gatherColours (71, [some (.ref r0), some (.int v1), some (.int v2), some (.int v3), some (.int v4), o5], []) (sh, I, J) Q := by
  exact xG_N 2 (ps := []) (f1 := (74, [some (.ref r0), some (.int v1), some (.int v2), some (.int v3), some (.int v4), some (.int v1)], [])) (h1 := (sh, I, J)) rfl trivial (k)
set_option maxRecDepth 100000 in
theorem s_L_gatherColours_74 {d : Nat} {Q : xO → xH → Prop} {sh : List xS} {I : Nat → Nat → Int32} {J : Nat → Nat → Int64} {r0 : Nat} {v1 : Int32} {v2 : Int32} {v3 : Int32} {v4 : Int32} {v5 : Int32}
    (k1 : v5 ≤ v4 → xG d zm_L_gatherColours (103, [some (.ref r0), some (.int v1), some (.int v2), some (.int v3), some (.int v4), some (.int v5)], []) (sh, I, J) Q)
    (k2 : ¬ (v5 ≤ v4) → xG d zm_L_gatherColours (81, [some (.ref r0), some (.int v1), some (.int v2), some (.int v3), some (.int v4), some (.int v5)], []) (sh, I, J) Q) :
    xG d zm_L_gatherColours (74, [some (.ref r0), some (.int v1), some (.int v2), some (.int v3), some (.int v4), some (.int v5)], []) (sh, I, J) Q := by
  exact xG_N 2 (ps := []) (f1 := (78, [some (.ref r0), some (.int v1), some (.int v2), some (.int v3), some (.int v4), some (.int v5)], [.int v4, .int v5])) (h1 := (sh, I, J)) rfl trivial (xG_B rfl rfl k1 k2)
set_option maxRecDepth 100000 in
theorem s_L_gatherColours_81 {d : Nat} {Q : xO → xH → Prop} {sh : List xS} {I : Nat → Nat → Int32} {J : Nat → Nat → Int64} {r0 : Nat} {v1 : Int32} {v2 : Int32} {v3 : Int32} {v4 : Int32} {v5 : Int32} {a1 : Nat} {n2 : Nat}
    (e0 : xRr sh r0 0 7 a1)
    (e1 : xAr sh a1 .int n2)
    (e2 : vp_in (v5 - (1 : Int32)) n2)
    (e3 : 4 ≤ a1)
    (e4 : vp_in v5 n2)
    (k : xG d zm_L_gatherColours (74, [some (.ref r0), some (.int v1), some (.int v2), some (.int v3), some (.int v4), some (.int (v5 + (-1 : Int32)))], []) (sh, xup I a1 v5.toNatClampNeg (I a1 (v5 - (1 : Int32)).toNatClampNeg), J) Q) :
    xG d zm_L_gatherColours (81, [some (.ref r0), some (.int v1), some (.int v2), some (.int v3), some (.int v4), some (.int v5)], []) (sh, I, J) Q := by
  obtain rfl := e0.eq
  obtain rfl := e1.eq
  exact xG_N 12 (ps := [xRf sh r0 0 7, xRf sh r0 0 7, xA sh (xrf sh r0 7) .int, vp_in (v5 - (1 : Int32)) (xlen sh (xrf sh r0 7)), xW sh (xrf sh r0 7) .int, vp_in v5 (xlen sh (xrf sh r0 7))]) (f1 := (74, [some (.ref r0), some (.int v1), some (.int v2), some (.int v3), some (.int v4), some (.int (v5 + (-1 : Int32)))], [])) (h1 := (sh, xup I (xrf sh r0 7) v5.toNatClampNeg (I (xrf sh r0 7) (v5 - (1 : Int32)).toNatClampNeg), J)) rfl ⟨e0.rf, e0.rf, e1.ar, e2, ⟨e1.ar, e3⟩, e4⟩ (k)
set_option maxRecDepth 100000 in
theorem s_L_gatherColours_103 {d : Nat} {Q : xO → xH → Prop} {sh : List xS} {I : Nat → Nat → Int32} {J : Nat → Nat → Int64} {r0 : Nat} {v1 : Int32} {v2 : Int32} {v3 : Int32} {v4 : Int32} {v5 : Int32} {a1 : Nat} {n2 : Nat}
    (e0 : xRr sh r0 0 7 a1)
    (e1 : xAr sh a1 .int n2)
    (e2 : 4 ≤ a1)
    (e3 : vp_in v4 n2)
    (k : xG d zm_L_gatherColours (4, [some (.ref r0), some (.int (v1 + (1 : Int32))), some (.int (v2 + (1 : Int32))), some (.int v3), some (.int v4), some (.int v5)], []) (sh, xup I a1 v4.toNatClampNeg v3, J) Q) :
    xG d zm_L_gatherColours (103, [some (.ref r0), some (.int v1), some (.int v2), some (.int v3), some (.int v4), some (.int v5)], []) (sh, I, J) Q := by
  obtain rfl := e0.eq
  obtain rfl := e1.eq
  exact xG_N 8 (ps := [xRf sh r0 0 7, xW sh (xrf sh r0 7) .int, vp_in v4 (xlen sh (xrf sh r0 7))]) (f1 := (4, [some (.ref r0), some (.int (v1 + (1 : Int32))), some (.int (v2 + (1 : Int32))), some (.int v3), some (.int v4), some (.int v5)], [])) (h1 := (sh, xup I (xrf sh r0 7) v4.toNatClampNeg v3, J)) rfl ⟨e0.rf, ⟨e1.ar, e2⟩, e3⟩ (k)
set_option maxRecDepth 100000 in
theorem s_L_gatherColours_114 {d : Nat} {Q : xO → xH → Prop} {sh : List xS} {I : Nat → Nat → Int32} {J : Nat → Nat → Int64} {r0 : Nat} {v1 : Int32} {v2 : Int32} {v3 : Int32} {v4 : Int32} {o5 : Option Value}
    (k : xG d zm_L_gatherColours (4, [some (.ref r0), some (.int v1), some (.int (v2 + (1 : Int32))), some (.int v3), some (.int v4), o5], []) (sh, I, J) Q) :
    xG d zm_L_gatherColours (114, [some (.ref r0), some (.int v1), some (.int v2), some (.int v3), some (.int v4), o5], []) (sh, I, J) Q := by
  exact xG_N 2 (ps := []) (f1 := (4, [some (.ref r0), some (.int v1), some (.int (v2 + (1 : Int32))), some (.int v3), some (.int v4), o5], [])) (h1 := (sh, I, J)) rfl trivial (k)
set_option maxRecDepth 100000 in
theorem s_L_gatherColours_120 {d : Nat} {Q : xO → xH → Prop} {sh : List xS} {I : Nat → Nat → Int32} {J : Nat → Nat → Int64} {r0 : Nat} {v1 : Int32} {v2 : Int32} {o3 : Option Value} {o4 : Option Value} {o5 : Option Value}
    (k : Q (.inl (some (.int v1))) (sh, I, J)) :
    xG d zm_L_gatherColours (120, [some (.ref r0), some (.int v1), some (.int v2), o3, o4, o5], []) (sh, I, J) Q := by
  exact xG_N 1 (ps := []) (f1 := (121, [some (.ref r0), some (.int v1), some (.int v2), o3, o4, o5], [.int v1])) (h1 := (sh, I, J)) rfl trivial (xG_Q rfl rfl trivial k)
set_option maxRecDepth 100000 in
theorem s_L_isLess_0 {d : Nat} {Q : xO → xH → Prop} {sh : List xS} {I : Nat → Nat → Int32} {J : Nat → Nat → Int64} {v0 : Int32} {v1 : Int32}
    (k1 : (v1 ^^^ (-2147483648 : Int32)) ≤ (v0 ^^^ (-2147483648 : Int32)) → xG d zm_L_isLess (15, [some (.int v0), some (.int v1)], []) (sh, I, J) Q)
    (k2 : ¬ ((v1 ^^^ (-2147483648 : Int32)) ≤ (v0 ^^^ (-2147483648 : Int32))) → xG d zm_L_isLess (11, [some (.int v0), some (.int v1)], []) (sh, I, J) Q) :
    xG d zm_L_isLess (0, [some (.int v0), some (.int v1)], []) (sh, I, J) Q := by
  exact xG_N 6 (ps := []) (f1 := (8, [some (.int v0), some (.int v1)], [.int (v1 ^^^ (-2147483648 : Int32)), .int (v0 ^^^ (-2147483648 : Int32))])) (h1 := (sh, I, J)) rfl trivial (xG_B rfl rfl k1 k2)
set_option maxRecDepth 100000 in
theorem s_L_isLess_11 {d : Nat} {Q : xO → xH → Prop} {sh : List xS} {I : Nat → Nat → Int32} {J : Nat → Nat → Int64} {v0 : Int32} {v1 : Int32}
    (k : Q (.inl (some (.int (1 : Int32)))) (sh, I, J)) :
    xG d zm_L_isLess (11, [some (.int v0), some (.int v1)], []) (sh, I, J) Q := by
  exact xG_N 2 (ps := []) (f1 := (16, [some (.int v0), some (.int v1)], [.int (1 : Int32)])) (h1 := (sh, I, J)) rfl trivial (xG_Q rfl rfl (show ((1 : Int32) : Int32) = 0 ∨ ((1 : Int32) : Int32) = 1 by decide) k)
set_option maxRecDepth 100000 in
theorem s_L_isLess_15 {d : Nat} {Q : xO → xH → Prop} {sh : List xS} {I : Nat → Nat → Int32} {J : Nat → Nat → Int64} {v0 : Int32} {v1 : Int32}
    (k : Q (.inl (some (.int (0 : Int32)))) (sh, I, J)) :
    xG d zm_L_isLess (15, [some (.int v0), some (.int v1)], []) (sh, I, J) Q := by
  exact xG_N 1 (ps := []) (f1 := (16, [some (.int v0), some (.int v1)], [.int (0 : Int32)])) (h1 := (sh, I, J)) rfl trivial (xG_Q rfl rfl (show ((0 : Int32) : Int32) = 0 ∨ ((0 : Int32) : Int32) = 1 by decide) k)
set_option maxRecDepth 100000 in
theorem s_L_draftStream_0 {d : Nat} {Q : xO → xH → Prop} {sh : List xS} {I : Nat → Nat → Int32} {J : Nat → Nat → Int64} {r0 : Nat} {v1 : Int32} {v2 : Int32} {v3 : Int32} {v4 : Int32} {a1 : Nat}
    (e0 : xRr sh r0 0 3 a1)
    (ko : xOb sh a1 1)
    (k : xg d qBits_clear [.ref a1] (sh, I, J) (xU (fun h1 => xG d zm_L_draftStream (7, [some (.ref r0), some (.int v1), some (.int v2), some (.int v3), some (.int v4)], []) h1 Q) (fun x h1 => Q (.inr x) h1))) :
    xG d zm_L_draftStream (0, [some (.ref r0), some (.int v1), some (.int v2), some (.int v3), some (.int v4)], []) (sh, I, J) Q := by
  obtain rfl := e0.eq
  exact xG_N 2 (ps := [xRf sh r0 0 3]) (f1 := (4, [some (.ref r0), some (.int v1), some (.int v2), some (.int v3), some (.int v4)], [.ref (xrf sh r0 3)])) (h1 := (sh, I, J)) rfl e0.rf (xG_Cu rfl rfl (Nat.le_of_ble_eq_true rfl) (Nat.le_of_ble_eq_true rfl) ⟨_, _, rfl, ko⟩ rfl k)
set_option maxRecDepth 100000 in
theorem s_L_draftStream_7 {d : Nat} {Q : xO → xH → Prop} {sh : List xS} {I : Nat → Nat → Int32} {J : Nat → Nat → Int64} {r0 : Nat} {v1 : Int32} {v2 : Int32} {v3 : Int32} {v4 : Int32} {a1 : Nat}
    (e0 : xRr sh r0 0 3 a1)
    (ko : xOb sh a1 1)
    (k : xg d qBits_put [.ref a1, .int (47 : Int32), .int (8 : Int32)] (sh, I, J) (xU (fun h1 => xG d zm_L_draftStream (18, [some (.ref r0), some (.int v1), some (.int v2), some (.int v3), some (.int v4)], []) h1 Q) (fun x h1 => Q (.inr x) h1))) :
    xG d zm_L_draftStream (7, [some (.ref r0), some (.int v1), some (.int v2), some (.int v3), some (.int v4)], []) (sh, I, J) Q := by
  obtain rfl := e0.eq
  exact xG_N 4 (ps := [xRf sh r0 0 3]) (f1 := (15, [some (.ref r0), some (.int v1), some (.int v2), some (.int v3), some (.int v4)], [.int (8 : Int32), .int (47 : Int32), .ref (xrf sh r0 3)])) (h1 := (sh, I, J)) rfl e0.rf (xG_Cu rfl rfl (Nat.le_of_ble_eq_true rfl) (Nat.le_of_ble_eq_true rfl) ⟨_, _, rfl, ko⟩ rfl k)
set_option maxRecDepth 100000 in
theorem s_L_draftStream_18 {d : Nat} {Q : xO → xH → Prop} {sh : List xS} {I : Nat → Nat → Int32} {J : Nat → Nat → Int64} {r0 : Nat} {v1 : Int32} {v2 : Int32} {v3 : Int32} {v4 : Int32} {a1 : Nat} {a2 : Nat}
    (e0 : xRr sh r0 0 3 a1)
    (e1 : xRr sh r0 0 0 a2)
    (e2 : xOb sh a2 8)
    (ko : xOb sh a1 1)
    (k : xg d qBits_put [.ref a1, .int ((I a2 1) - (1 : Int32)), .int (3 : Int32)] (sh, I, J) (xU (fun h1 => xG d zm_L_draftStream (35, [some (.ref r0), some (.int v1), some (.int v2), some (.int v3), some (.int v4)], []) h1 Q) (fun x h1 => Q (.inr x) h1))) :
    xG d zm_L_draftStream (18, [some (.ref r0), some (.int v1), some (.int v2), some (.int v3), some (.int v4)], []) (sh, I, J) Q := by
  obtain rfl := e0.eq
  obtain rfl := e1.eq
  exact xG_N 8 (ps := [xRf sh r0 0 3, xRf sh r0 0 0, xOb sh (xrf sh r0 0) 8]) (f1 := (32, [some (.ref r0), some (.int v1), some (.int v2), some (.int v3), some (.int v4)], [.int (3 : Int32), .int ((I (xrf sh r0 0) 1) - (1 : Int32)), .ref (xrf sh r0 3)])) (h1 := (sh, I, J)) rfl ⟨e0.rf, e1.rf, e2⟩ (xG_Cu rfl rfl (Nat.le_of_ble_eq_true rfl) (Nat.le_of_ble_eq_true rfl) ⟨_, _, rfl, ko⟩ rfl k)
set_option maxRecDepth 100000 in
theorem s_L_draftStream_35 {d : Nat} {Q : xO → xH → Prop} {sh : List xS} {I : Nat → Nat → Int32} {J : Nat → Nat → Int64} {r0 : Nat} {v1 : Int32} {v2 : Int32} {v3 : Int32} {v4 : Int32} {a1 : Nat} {a2 : Nat}
    (e0 : xRr sh r0 0 3 a1)
    (e1 : xRr sh r0 0 0 a2)
    (e2 : xOb sh a2 8)
    (ko : xOb sh a1 1)
    (k : xg d qBits_put [.ref a1, .int ((I a2 2) - (1 : Int32)), .int (3 : Int32)] (sh, I, J) (xU (fun h1 => xG d zm_L_draftStream (52, [some (.ref r0), some (.int v1), some (.int v2), some (.int v3), some (.int v4)], []) h1 Q) (fun x h1 => Q (.inr x) h1))) :
    xG d zm_L_draftStream (35, [some (.ref r0), some (.int v1), some (.int v2), some (.int v3), some (.int v4)], []) (sh, I, J) Q := by
  obtain rfl := e0.eq
  obtain rfl := e1.eq
  exact xG_N 8 (ps := [xRf sh r0 0 3, xRf sh r0 0 0, xOb sh (xrf sh r0 0) 8]) (f1 := (49, [some (.ref r0), some (.int v1), some (.int v2), some (.int v3), some (.int v4)], [.int (3 : Int32), .int ((I (xrf sh r0 0) 2) - (1 : Int32)), .ref (xrf sh r0 3)])) (h1 := (sh, I, J)) rfl ⟨e0.rf, e1.rf, e2⟩ (xG_Cu rfl rfl (Nat.le_of_ble_eq_true rfl) (Nat.le_of_ble_eq_true rfl) ⟨_, _, rfl, ko⟩ rfl k)
set_option maxRecDepth 100000 in
theorem s_L_draftStream_52 {d : Nat} {Q : xO → xH → Prop} {sh : List xS} {I : Nat → Nat → Int32} {J : Nat → Nat → Int64} {r0 : Nat} {v1 : Int32} {v2 : Int32} {v3 : Int32} {v4 : Int32} {a1 : Nat} {a2 : Nat}
    (e0 : xRr sh r0 0 1 a1)
    (e1 : xRr sh r0 0 0 a2)
    (ko : xOb sh a1 8)
    (k : xg d qPlane_become [.ref a1, .ref a2] (sh, I, J) (xU (fun h1 => xG d zm_L_draftStream (63, [some (.ref r0), some (.int v1), some (.int v2), some (.int v3), some (.int v4)], []) h1 Q) (fun x h1 => Q (.inr x) h1))) :
    xG d zm_L_draftStream (52, [some (.ref r0), some (.int v1), some (.int v2), some (.int v3), some (.int v4)], []) (sh, I, J) Q := by
  obtain rfl := e0.eq
  obtain rfl := e1.eq
  exact xG_N 4 (ps := [xRf sh r0 0 1, xRf sh r0 0 0]) (f1 := (60, [some (.ref r0), some (.int v1), some (.int v2), some (.int v3), some (.int v4)], [.ref (xrf sh r0 0), .ref (xrf sh r0 1)])) (h1 := (sh, I, J)) rfl ⟨e0.rf, e1.rf⟩ (xG_Cu rfl rfl (Nat.le_of_ble_eq_true rfl) (Nat.le_of_ble_eq_true rfl) ⟨_, _, rfl, ko⟩ rfl k)
set_option maxRecDepth 100000 in
theorem s_L_draftStream_63 {d : Nat} {Q : xO → xH → Prop} {sh : List xS} {I : Nat → Nat → Int32} {J : Nat → Nat → Int64} {r0 : Nat} {v1 : Int32} {v2 : Int32} {v3 : Int32} {v4 : Int32}
    (k1 : v1 ≤ 0 → xG d zm_L_draftStream (119, [some (.ref r0), some (.int v1), some (.int v2), some (.int v3), some (.int v4)], []) (sh, I, J) Q)
    (k2 : ¬ (v1 ≤ 0) → xG d zm_L_draftStream (67, [some (.ref r0), some (.int v1), some (.int v2), some (.int v3), some (.int v4)], []) (sh, I, J) Q) :
    xG d zm_L_draftStream (63, [some (.ref r0), some (.int v1), some (.int v2), some (.int v3), some (.int v4)], []) (sh, I, J) Q := by
  exact xG_N 1 (ps := []) (f1 := (64, [some (.ref r0), some (.int v1), some (.int v2), some (.int v3), some (.int v4)], [.int v1])) (h1 := (sh, I, J)) rfl trivial (xG_B rfl rfl k1 k2)
set_option maxRecDepth 100000 in
theorem s_L_draftStream_67 {d : Nat} {Q : xO → xH → Prop} {sh : List xS} {I : Nat → Nat → Int32} {J : Nat → Nat → Int64} {r0 : Nat} {v1 : Int32} {v2 : Int32} {v3 : Int32} {v4 : Int32}
    (ko : xOb sh r0 0)
    (k : xg d qL_sayKind [.ref r0, .int (3 : Int32)] (sh, I, J) (xU (fun h1 => xG d zm_L_draftStream (72, [some (.ref r0), some (.int v1), some (.int v2), some (.int v3), some (.int v4)], []) h1 Q) (fun x h1 => Q (.inr x) h1))) :
    xG d zm_L_draftStream (67, [some (.ref r0), some (.int v1), some (.int v2), some (.int v3), some (.int v4)], []) (sh, I, J) Q := by
  exact xG_N 2 (ps := []) (f1 := (69, [some (.ref r0), some (.int v1), some (.int v2), some (.int v3), some (.int v4)], [.int (3 : Int32), .ref r0])) (h1 := (sh, I, J)) rfl trivial (xG_Cu rfl rfl (Nat.le_of_ble_eq_true rfl) (Nat.le_of_ble_eq_true rfl) ⟨_, _, rfl, ko⟩ rfl k)
set_option maxRecDepth 100000 in
theorem s_L_draftStream_72 {d : Nat} {Q : xO → xH → Prop} {sh : List xS} {I : Nat → Nat → Int32} {J : Nat → Nat → Int64} {r0 : Nat} {v1 : Int32} {v2 : Int32} {v3 : Int32} {v4 : Int32} {a1 : Nat}
    (e0 : xRr sh r0 0 3 a1)
    (ko : xOb sh a1 1)
    (k : xg d qBits_put [.ref a1, .int (v1 - (1 : Int32)), .int (4 : Int32)] (sh, I, J) (xU (fun h1 => xG d zm_L_draftStream (83, [some (.ref r0), some (.int v1), some (.int v2), some (.int v3), some (.int v4)], []) h1 Q) (fun x h1 => Q (.inr x) h1))) :
    xG d zm_L_draftStream (72, [some (.ref r0), some (.int v1), some (.int v2), some (.int v3), some (.int v4)], []) (sh, I, J) Q := by
  obtain rfl := e0.eq
  exact xG_N 6 (ps := [xRf sh r0 0 3]) (f1 := (80, [some (.ref r0), some (.int v1), some (.int v2), some (.int v3), some (.int v4)], [.int (4 : Int32), .int (v1 - (1 : Int32)), .ref (xrf sh r0 3)])) (h1 := (sh, I, J)) rfl e0.rf (xG_Cu rfl rfl (Nat.le_of_ble_eq_true rfl) (Nat.le_of_ble_eq_true rfl) ⟨_, _, rfl, ko⟩ rfl k)
set_option maxRecDepth 100000 in
theorem s_L_draftStream_83 {d : Nat} {Q : xO → xH → Prop} {sh : List xS} {I : Nat → Nat → Int32} {J : Nat → Nat → Int64} {r0 : Nat} {v1 : Int32} {v2 : Int32} {v3 : Int32} {v4 : Int32} {a1 : Nat} {a2 : Nat} {a3 : Nat} {a4 : Nat}
    (e0 : xRr sh r0 0 6 a1)
    (e1 : xRr sh r0 0 3 a2)
    (e2 : xRr sh r0 0 4 a3)
    (e3 : xRr sh r0 0 7 a4)
    (ko : xOb sh a3 9)
    (k : xg d qTransforms_paletteImage [.ref a3, .ref a4, .int v1] (sh, I, J) (xP (fun v h1 => xG d zm_L_draftStream (103, [some (.ref r0), some (.int v1), some (.int v2), some (.int v3), some (.int v4)], [.ref v, .ref a2, .ref a1]) h1 Q) (fun x h1 => Q (.inr x) h1))) :
    xG d zm_L_draftStream (83, [some (.ref r0), some (.int v1), some (.int v2), some (.int v3), some (.int v4)], []) (sh, I, J) Q := by
  obtain rfl := e0.eq
  obtain rfl := e1.eq
  obtain rfl := e2.eq
  obtain rfl := e3.eq
  exact xG_N 9 (ps := [xRf sh r0 0 6, xRf sh r0 0 3, xRf sh r0 0 4, xRf sh r0 0 7]) (f1 := (100, [some (.ref r0), some (.int v1), some (.int v2), some (.int v3), some (.int v4)], [.int v1, .ref (xrf sh r0 7), .ref (xrf sh r0 4), .ref (xrf sh r0 3), .ref (xrf sh r0 6)])) (h1 := (sh, I, J)) rfl ⟨e0.rf, e1.rf, e2.rf, e3.rf⟩ (xG_Cp rfl rfl (Nat.le_of_ble_eq_true rfl) (Nat.le_of_ble_eq_true rfl) ⟨_, _, rfl, ko⟩ rfl k)
set_option maxRecDepth 100000 in
theorem s_L_draftStream_103 {d : Nat} {Q : xO → xH → Prop} {sh : List xS} {I : Nat → Nat → Int32} {J : Nat → Nat → Int64} {r0 : Nat} {v1 : Int32} {v2 : Int32} {v3 : Int32} {v4 : Int32} {t0 : Nat} {t1 : Nat} {t2 : Nat}
    (ko : xOb sh t0 7)
    (k : xg d qImageWriter_say [.ref t0, .ref t1, .ref t2, .int (0 : Int32)] (sh, I, J) (xU (fun h1 => xG d zm_L_draftStream (107, [some (.ref r0), some (.int v1), some (.int v2), some (.int v3), some (.int v4)], []) h1 Q) (fun x h1 => Q (.inr x) h1))) :
    xG d zm_L_draftStream (103, [some (.ref r0), some (.int v1), some (.int v2), some (.int v3), some (.int v4)], [.ref t2, .ref t1, .ref t0]) (sh, I, J) Q := by
  exact xG_N 1 (ps := []) (f1 := (104, [some (.ref r0), some (.int v1), some (.int v2), some (.int v3), some (.int v4)], [.int (0 : Int32), .ref t2, .ref t1, .ref t0])) (h1 := (sh, I, J)) rfl trivial (xG_Cu rfl rfl (Nat.le_of_ble_eq_true rfl) (Nat.le_of_ble_eq_true rfl) ⟨_, _, rfl, ko⟩ rfl k)
set_option maxRecDepth 100000 in
theorem s_L_draftStream_107 {d : Nat} {Q : xO → xH → Prop} {sh : List xS} {I : Nat → Nat → Int32} {J : Nat → Nat → Int64} {r0 : Nat} {v1 : Int32} {v2 : Int32} {v3 : Int32} {v4 : Int32} {a1 : Nat} {a2 : Nat}
    (e0 : xRr sh r0 0 1 a1)
    (e1 : xRr sh r0 0 7 a2)
    (k : xg d qColours_pack [.ref a1, .ref a2, .int v1] (sh, I, J) (xU (fun h1 => xG d zm_L_draftStream (119, [some (.ref r0), some (.int v1), some (.int v2), some (.int v3), some (.int v4)], []) h1 Q) (fun x h1 => Q (.inr x) h1))) :
    xG d zm_L_draftStream (107, [some (.ref r0), some (.int v1), some (.int v2), some (.int v3), some (.int v4)], []) (sh, I, J) Q := by
  obtain rfl := e0.eq
  obtain rfl := e1.eq
  exact xG_N 5 (ps := [xRf sh r0 0 1, xRf sh r0 0 7]) (f1 := (116, [some (.ref r0), some (.int v1), some (.int v2), some (.int v3), some (.int v4)], [.int v1, .ref (xrf sh r0 7), .ref (xrf sh r0 1)])) (h1 := (sh, I, J)) rfl ⟨e0.rf, e1.rf⟩ (xG_Cu rfl rfl (Nat.le_of_ble_eq_true rfl) (Nat.le_of_ble_eq_true rfl) trivial rfl k)
set_option maxRecDepth 100000 in
theorem s_L_draftStream_119 {d : Nat} {Q : xO → xH → Prop} {sh : List xS} {I : Nat → Nat → Int32} {J : Nat → Nat → Int64} {r0 : Nat} {v1 : Int32} {v2 : Int32} {v3 : Int32} {v4 : Int32}
    (k1 : v2 = 0 → xG d zm_L_draftStream (135, [some (.ref r0), some (.int v1), some (.int v2), some (.int v3), some (.int v4)], []) (sh, I, J) Q)
    (k2 : ¬ (v2 = 0) → xG d zm_L_draftStream (123, [some (.ref r0), some (.int v1), some (.int v2), some (.int v3), some (.int v4)], []) (sh, I, J) Q) :
    xG d zm_L_draftStream (119, [some (.ref r0), some (.int v1), some (.int v2), some (.int v3), some (.int v4)], []) (sh, I, J) Q := by
  exact xG_N 1 (ps := []) (f1 := (120, [some (.ref r0), some (.int v1), some (.int v2), some (.int v3), some (.int v4)], [.int v2])) (h1 := (sh, I, J)) rfl trivial (xG_B rfl rfl k1 k2)
set_option maxRecDepth 100000 in
theorem s_L_draftStream_123 {d : Nat} {Q : xO → xH → Prop} {sh : List xS} {I : Nat → Nat → Int32} {J : Nat → Nat → Int64} {r0 : Nat} {v1 : Int32} {v2 : Int32} {v3 : Int32} {v4 : Int32}
    (ko : xOb sh r0 0)
    (k : xg d qL_sayKind [.ref r0, .int (2 : Int32)] (sh, I, J) (xU (fun h1 => xG d zm_L_draftStream (128, [some (.ref r0), some (.int v1), some (.int v2), some (.int v3), some (.int v4)], []) h1 Q) (fun x h1 => Q (.inr x) h1))) :
    xG d zm_L_draftStream (123, [some (.ref r0), some (.int v1), some (.int v2), some (.int v3), some (.int v4)], []) (sh, I, J) Q := by
  exact xG_N 2 (ps := []) (f1 := (125, [some (.ref r0), some (.int v1), some (.int v2), some (.int v3), some (.int v4)], [.int (2 : Int32), .ref r0])) (h1 := (sh, I, J)) rfl trivial (xG_Cu rfl rfl (Nat.le_of_ble_eq_true rfl) (Nat.le_of_ble_eq_true rfl) ⟨_, _, rfl, ko⟩ rfl k)
set_option maxRecDepth 100000 in
theorem s_L_draftStream_128 {d : Nat} {Q : xO → xH → Prop} {sh : List xS} {I : Nat → Nat → Int32} {J : Nat → Nat → Int64} {r0 : Nat} {v1 : Int32} {v2 : Int32} {v3 : Int32} {v4 : Int32} {a1 : Nat}
    (e0 : xRr sh r0 0 1 a1)
    (k : xg d qColours_takeGreenOff [.ref a1] (sh, I, J) (xU (fun h1 => xG d zm_L_draftStream (135, [some (.ref r0), some (.int v1), some (.int v2), some (.int v3), some (.int v4)], []) h1 Q) (fun x h1 => Q (.inr x) h1))) :
    xG d zm_L_draftStream (128, [some (.ref r0), some (.int v1), some (.int v2), some (.int v3), some (.int v4)], []) (sh, I, J) Q := by
  obtain rfl := e0.eq
  exact xG_N 2 (ps := [xRf sh r0 0 1]) (f1 := (132, [some (.ref r0), some (.int v1), some (.int v2), some (.int v3), some (.int v4)], [.ref (xrf sh r0 1)])) (h1 := (sh, I, J)) rfl e0.rf (xG_Cu rfl rfl (Nat.le_of_ble_eq_true rfl) (Nat.le_of_ble_eq_true rfl) trivial rfl k)
set_option maxRecDepth 100000 in
theorem s_L_draftStream_135 {d : Nat} {Q : xO → xH → Prop} {sh : List xS} {I : Nat → Nat → Int32} {J : Nat → Nat → Int64} {r0 : Nat} {v1 : Int32} {v2 : Int32} {v3 : Int32} {v4 : Int32}
    (k1 : v3 = (-1 : Int32) → xG d zm_L_draftStream (177, [some (.ref r0), some (.int v1), some (.int v2), some (.int v3), some (.int v4)], []) (sh, I, J) Q)
    (k2 : ¬ (v3 = (-1 : Int32)) → xG d zm_L_draftStream (140, [some (.ref r0), some (.int v1), some (.int v2), some (.int v3), some (.int v4)], []) (sh, I, J) Q) :
    xG d zm_L_draftStream (135, [some (.ref r0), some (.int v1), some (.int v2), some (.int v3), some (.int v4)], []) (sh, I, J) Q := by
  exact xG_N 2 (ps := []) (f1 := (137, [some (.ref r0), some (.int v1), some (.int v2), some (.int v3), some (.int v4)], [.int (-1 : Int32), .int v3])) (h1 := (sh, I, J)) rfl trivial (xG_B rfl rfl k1 k2)
set_option maxRecDepth 100000 in
theorem s_L_draftStream_140 {d : Nat} {Q : xO → xH → Prop} {sh : List xS} {I : Nat → Nat → Int32} {J : Nat → Nat → Int64} {r0 : Nat} {v1 : Int32} {v2 : Int32} {v3 : Int32} {v4 : Int32}
    (ko : xOb sh r0 0)
    (k : xg d qL_sayKind [.ref r0, .int (0 : Int32)] (sh, I, J) (xU (fun h1 => xG d zm_L_draftStream (145, [some (.ref r0), some (.int v1), some (.int v2), some (.int v3), some (.int v4)], []) h1 Q) (fun x h1 => Q (.inr x) h1))) :
    xG d zm_L_draftStream (140, [some (.ref r0), some (.int v1), some (.int v2), some (.int v3), some (.int v4)], []) (sh, I, J) Q := by
  exact xG_N 2 (ps := []) (f1 := (142, [some (.ref r0), some (.int v1), some (.int v2), some (.int v3), some (.int v4)], [.int (0 : Int32), .ref r0])) (h1 := (sh, I, J)) rfl trivial (xG_Cu rfl rfl (Nat.le_of_ble_eq_true rfl) (Nat.le_of_ble_eq_true rfl) ⟨_, _, rfl, ko⟩ rfl k)
set_option maxRecDepth 100000 in
theorem s_L_draftStream_145 {d : Nat} {Q : xO → xH → Prop} {sh : List xS} {I : Nat → Nat → Int32} {J : Nat → Nat → Int64} {r0 : Nat} {v1 : Int32} {v2 : Int32} {v3 : Int32} {v4 : Int32} {a1 : Nat} {a2 : Nat} {a3 : Nat} {a4 : Nat}
    (e0 : xRr sh r0 0 6 a1)
    (e1 : xRr sh r0 0 3 a2)
    (e2 : xRr sh r0 0 4 a3)
    (e3 : xRr sh r0 0 1 a4)
    (ko : xOb sh a3 9)
    (k : xg d qTransforms_modeImage [.ref a3, .ref a4, .int v3] (sh, I, J) (xP (fun v h1 => xG d zm_L_draftStream (165, [some (.ref r0), some (.int v1), some (.int v2), some (.int v3), some (.int v4)], [.ref v, .ref a2, .ref a1]) h1 Q) (fun x h1 => Q (.inr x) h1))) :
    xG d zm_L_draftStream (145, [some (.ref r0), some (.int v1), some (.int v2), some (.int v3), some (.int v4)], []) (sh, I, J) Q := by
  obtain rfl := e0.eq
  obtain rfl := e1.eq
  obtain rfl := e2.eq
  obtain rfl := e3.eq
  exact xG_N 9 (ps := [xRf sh r0 0 6, xRf sh r0 0 3, xRf sh r0 0 4, xRf sh r0 0 1]) (f1 := (162, [some (.ref r0), some (.int v1), some (.int v2), some (.int v3), some (.int v4)], [.int v3, .ref (xrf sh r0 1), .ref (xrf sh r0 4), .ref (xrf sh r0 3), .ref (xrf sh r0 6)])) (h1 := (sh, I, J)) rfl ⟨e0.rf, e1.rf, e2.rf, e3.rf⟩ (xG_Cp rfl rfl (Nat.le_of_ble_eq_true rfl) (Nat.le_of_ble_eq_true rfl) ⟨_, _, rfl, ko⟩ rfl k)
set_option maxRecDepth 100000 in
theorem s_L_draftStream_165 {d : Nat} {Q : xO → xH → Prop} {sh : List xS} {I : Nat → Nat → Int32} {J : Nat → Nat → Int64} {r0 : Nat} {v1 : Int32} {v2 : Int32} {v3 : Int32} {v4 : Int32} {t0 : Nat} {t1 : Nat} {t2 : Nat}
    (ko : xOb sh t0 7)
    (k : xg d qImageWriter_say [.ref t0, .ref t1, .ref t2, .int (0 : Int32)] (sh, I, J) (xU (fun h1 => xG d zm_L_draftStream (169, [some (.ref r0), some (.int v1), some (.int v2), some (.int v3), some (.int v4)], []) h1 Q) (fun x h1 => Q (.inr x) h1))) :
    xG d zm_L_draftStream (165, [some (.ref r0), some (.int v1), some (.int v2), some (.int v3), some (.int v4)], [.ref t2, .ref t1, .ref t0]) (sh, I, J) Q := by
  exact xG_N 1 (ps := []) (f1 := (166, [some (.ref r0), some (.int v1), some (.int v2), some (.int v3), some (.int v4)], [.int (0 : Int32), .ref t2, .ref t1, .ref t0])) (h1 := (sh, I, J)) rfl trivial (xG_Cu rfl rfl (Nat.le_of_ble_eq_true rfl) (Nat.le_of_ble_eq_true rfl) ⟨_, _, rfl, ko⟩ rfl k)
set_option maxRecDepth 100000 in
theorem s_L_draftStream_169 {d : Nat} {Q : xO → xH → Prop} {sh : List xS} {I : Nat → Nat → Int32} {J : Nat → Nat → Int64} {r0 : Nat} {v1 : Int32} {v2 : Int32} {v3 : Int32} {v4 : Int32} {a1 : Nat}
    (e0 : xRr sh r0 0 1 a1)
    (k : xg d qForetelling_takeOff [.ref a1, .int v3] (sh, I, J) (xU (fun h1 => xG d zm_L_draftStream (177, [some (.ref r0), some (.int v1), some (.int v2), some (.int v3), some (.int v4)], []) h1 Q) (fun x h1 => Q (.inr x) h1))) :
    xG d zm_L_draftStream (169, [some (.ref r0), some (.int v1), some (.int v2), some (.int v3), some (.int v4)], []) (sh, I, J) Q := by
  obtain rfl := e0.eq
  exact xG_N 3 (ps := [xRf sh r0 0 1]) (f1 := (174, [some (.ref r0), some (.int v1), some (.int v2), some (.int v3), some (.int v4)], [.int v3, .ref (xrf sh r0 1)])) (h1 := (sh, I, J)) rfl e0.rf (xG_Cu rfl rfl (Nat.le_of_ble_eq_true rfl) (Nat.le_of_ble_eq_true rfl) trivial rfl k)
set_option maxRecDepth 100000 in
theorem s_L_draftStream_177 {d : Nat} {Q : xO → xH → Prop} {sh : List xS} {I : Nat → Nat → Int32} {J : Nat → Nat → Int64} {r0 : Nat} {v1 : Int32} {v2 : Int32} {v3 : Int32} {v4 : Int32} {a1 : Nat}
    (e0 : xRr sh r0 0 3 a1)
    (ko : xOb sh a1 1)
    (k : xg d qBits_put [.ref a1, .int (0 : Int32), .int (1 : Int32)] (sh, I, J) (xU (fun h1 => xG d zm_L_draftStream (186, [some (.ref r0), some (.int v1), some (.int v2), some (.int v3), some (.int v4)], []) h1 Q) (fun x h1 => Q (.inr x) h1))) :
    xG d zm_L_draftStream (177, [some (.ref r0), some (.int v1), some (.int v2), some (.int v3), some (.int v4)], []) (sh, I, J) Q := by
  obtain rfl := e0.eq
  exact xG_N 4 (ps := [xRf sh r0 0 3]) (f1 := (183, [some (.ref r0), some (.int v1), some (.int v2), some (.int v3), some (.int v4)], [.int (1 : Int32), .int (0 : Int32), .ref (xrf sh r0 3)])) (h1 := (sh, I, J)) rfl e0.rf (xG_Cu rfl rfl (Nat.le_of_ble_eq_true rfl) (Nat.le_of_ble_eq_true rfl) ⟨_, _, rfl, ko⟩ rfl k)
set_option maxRecDepth 100000 in
theorem s_L_draftStream_186 {d : Nat} {Q : xO → xH → Prop} {sh : List xS} {I : Nat → Nat → Int32} {J : Nat → Nat → Int64} {r0 : Nat} {v1 : Int32} {v2 : Int32} {v3 : Int32} {v4 : Int32} {a1 : Nat} {a2 : Nat} {a3 : Nat}
    (e0 : xRr sh r0 0 6 a1)
    (e1 : xRr sh r0 0 3 a2)
    (e2 : xRr sh r0 0 1 a3)
    (ko : xOb sh a1 7)
    (k : xg d qImageWriter_say [.ref a1, .ref a2, .ref a3, .int v4] (sh, I, J) (xU (fun h1 => xG d zm_L_draftStream (203, [some (.ref r0), some (.int v1), some (.int v2), some (.int v3), some (.int v4)], []) h1 Q) (fun x h1 => Q (.inr x) h1))) :
    xG d zm_L_draftStream (186, [some (.ref r0), some (.int v1), some (.int v2), some (.int v3), some (.int v4)], []) (sh, I, J) Q := by
  obtain rfl := e0.eq
  obtain rfl := e1.eq
  obtain rfl := e2.eq
  exact xG_N 7 (ps := [xRf sh r0 0 6, xRf sh r0 0 3, xRf sh r0 0 1]) (f1 := (200, [some (.ref r0), some (.int v1), some (.int v2), some (.int v3), some (.int v4)], [.int v4, .ref (xrf sh r0 1), .ref (xrf sh r0 3), .ref (xrf sh r0 6)])) (h1 := (sh, I, J)) rfl ⟨e0.rf, e1.rf, e2.rf⟩ (xG_Cu rfl rfl (Nat.le_of_ble_eq_true rfl) (Nat.le_of_ble_eq_true rfl) ⟨_, _, rfl, ko⟩ rfl k)
set_option maxRecDepth 100000 in
theorem s_L_draftStream_203 {d : Nat} {Q : xO → xH → Prop} {sh : List xS} {I : Nat → Nat → Int32} {J : Nat → Nat → Int64} {r0 : Nat} {v1 : Int32} {v2 : Int32} {v3 : Int32} {v4 : Int32}
    (k : Q (.inl (none)) (sh, I, J)) :
    xG d zm_L_draftStream (203, [some (.ref r0), some (.int v1), some (.int v2), some (.int v3), some (.int v4)], []) (sh, I, J) Q := by
  exact xG_Q rfl rfl trivial k
set_option maxRecDepth 100000 in
theorem s_L_sayKind_0 {d : Nat} {Q : xO → xH → Prop} {sh : List xS} {I : Nat → Nat → Int32} {J : Nat → Nat → Int64} {r0 : Nat} {v1 : Int32} {a1 : Nat}
    (e0 : xRr sh r0 0 3 a1)
    (ko : xOb sh a1 1)
    (k : xg d qBits_put [.ref a1, .int (1 : Int32), .int (1 : Int32)] (sh, I, J) (xU (fun h1 => xG d zm_L_sayKind (9, [some (.ref r0), some (.int v1)], []) h1 Q) (fun x h1 => Q (.inr x) h1))) :
    xG d zm_L_sayKind (0, [some (.ref r0), some (.int v1)], []) (sh, I, J) Q := by
  obtain rfl := e0.eq
  exact xG_N 4 (ps := [xRf sh r0 0 3]) (f1 := (6, [some (.ref r0), some (.int v1)], [.int (1 : Int32), .int (1 : Int32), .ref (xrf sh r0 3)])) (h1 := (sh, I, J)) rfl e0.rf (xG_Cu rfl rfl (Nat.le_of_ble_eq_true rfl) (Nat.le_of_ble_eq_true rfl) ⟨_, _, rfl, ko⟩ rfl k)
set_option maxRecDepth 100000 in
theorem s_L_sayKind_9 {d : Nat} {Q : xO → xH → Prop} {sh : List xS} {I : Nat → Nat → Int32} {J : Nat → Nat → Int64} {r0 : Nat} {v1 : Int32} {a1 : Nat}
    (e0 : xRr sh r0 0 3 a1)
    (ko : xOb sh a1 1)
    (k : xg d qBits_put [.ref a1, .int v1, .int (2 : Int32)] (sh, I, J) (xU (fun h1 => xG d zm_L_sayKind (18, [some (.ref r0), some (.int v1)], []) h1 Q) (fun x h1 => Q (.inr x) h1))) :
    xG d zm_L_sayKind (9, [some (.ref r0), some (.int v1)], []) (sh, I, J) Q := by
  obtain rfl := e0.eq
  exact xG_N 4 (ps := [xRf sh r0 0 3]) (f1 := (15, [some (.ref r0), some (.int v1)], [.int (2 : Int32), .int v1, .ref (xrf sh r0 3)])) (h1 := (sh, I, J)) rfl e0.rf (xG_Cu rfl rfl (Nat.le_of_ble_eq_true rfl) (Nat.le_of_ble_eq_true rfl) ⟨_, _, rfl, ko⟩ rfl k)
set_option maxRecDepth 100000 in
theorem s_L_sayKind_18 {d : Nat} {Q : xO → xH → Prop} {sh : List xS} {I : Nat → Nat → Int32} {J : Nat → Nat → Int64} {r0 : Nat} {v1 : Int32}
    (k : Q (.inl (none)) (sh, I, J)) :
    xG d zm_L_sayKind (18, [some (.ref r0), some (.int v1)], []) (sh, I, J) Q := by
  exact xG_Q rfl rfl trivial k
set_option maxRecDepth 100000 in
theorem s_L_part_0 {d : Nat} {Q : xO → xH → Prop} {sh : List xS} {I : Nat → Nat → Int32} {J : Nat → Nat → Int64} {v0 : Int32} {v1 : Int32}
    (k : Q (.inl (some (.int ((xus v0 v1) &&& (255 : Int32))))) (sh, I, J)) :
    xG d zm_L_part (0, [some (.int v0), some (.int v1)], []) (sh, I, J) Q := by
  exact xG_N 5 (ps := []) (f1 := (7, [some (.int v0), some (.int v1)], [.int ((xus v0 v1) &&& (255 : Int32))])) (h1 := (sh, I, J)) rfl trivial (xG_Q rfl rfl trivial k)
set_option maxRecDepth 100000 in
theorem s_L_sum_0 {d : Nat} {Q : xO → xH → Prop} {sh : List xS} {I : Nat → Nat → Int32} {J : Nat → Nat → Int64} {v0 : Int32} {v1 : Int32}
    (k : xG d zm_L_sum (4, [some (.int v0), some (.int v1), some (.int (0 : Int32)), some (.int (0 : Int32))], []) (sh, I, J) Q) :
    xG d zm_L_sum (0, [some (.int v0), some (.int v1), none, none], []) (sh, I, J) Q := by
  exact xG_N 4 (ps := []) (f1 := (4, [some (.int v0), some (.int v1), some (.int (0 : Int32)), some (.int (0 : Int32))], [])) (h1 := (sh, I, J)) rfl trivial (k)
set_option maxRecDepth 100000 in
theorem s_L_sum_4 {d : Nat} {Q : xO → xH → Prop} {sh : List xS} {I : Nat → Nat → Int32} {J : Nat → Nat → Int64} {v0 : Int32} {v1 : Int32} {v2 : Int32} {v3 : Int32}
    (k1 : (32 : Int32) ≤ v3 → xG d zm_L_sum (36, [some (.int v0), some (.int v1), some (.int v2), some (.int v3)], []) (sh, I, J) Q)
    (k2 : ¬ ((32 : Int32) ≤ v3) → xG d zm_L_sum (10, [some (.int v0), some (.int v1), some (.int v2), some (.int v3)], []) (sh, I, J) Q) :
    xG d zm_L_sum (4, [some (.int v0), some (.int v1), some (.int v2), some (.int v3)], []) (sh, I, J) Q := by
  exact xG_N 2 (ps := []) (f1 := (7, [some (.int v0), some (.int v1), some (.int v2), some (.int v3)], [.int (32 : Int32), .int v3])) (h1 := (sh, I, J)) rfl trivial (xG_B rfl rfl k1 k2)
set_option maxRecDepth 100000 in
theorem s_L_sum_10 {d : Nat} {Q : xO → xH → Prop} {sh : List xS} {I : Nat → Nat → Int32} {J : Nat → Nat → Int64} {v0 : Int32} {v1 : Int32} {v2 : Int32} {v3 : Int32}
    (k : xg d qL_part [.int v0, .int v3] (sh, I, J) (xI (fun v h1 => xG d zm_L_sum (16, [some (.int v0), some (.int v1), some (.int v2), some (.int v3)], [.int v, .int v2]) h1 Q) (fun x h1 => Q (.inr x) h1))) :
    xG d zm_L_sum (10, [some (.int v0), some (.int v1), some (.int v2), some (.int v3)], []) (sh, I, J) Q := by
  exact xG_N 3 (ps := []) (f1 := (13, [some (.int v0), some (.int v1), some (.int v2), some (.int v3)], [.int v3, .int v0, .int v2])) (h1 := (sh, I, J)) rfl trivial (xG_Ci rfl rfl (Nat.le_of_ble_eq_true rfl) (Nat.le_of_ble_eq_true rfl) trivial rfl k)
set_option maxRecDepth 100000 in
theorem s_L_sum_16 {d : Nat} {Q : xO → xH → Prop} {sh : List xS} {I : Nat → Nat → Int32} {J : Nat → Nat → Int64} {v0 : Int32} {v1 : Int32} {v2 : Int32} {v3 : Int32} {t0 : Int32} {t1 : Int32}
    (k : xg d qL_part [.int v1, .int v3] (sh, I, J) (xI (fun v h1 => xG d zm_L_sum (21, [some (.int v0), some (.int v1), some (.int v2), some (.int v3)], [.int v, .int t1, .int t0]) h1 Q) (fun x h1 => Q (.inr x) h1))) :
    xG d zm_L_sum (16, [some (.int v0), some (.int v1), some (.int v2), some (.int v3)], [.int t1, .int t0]) (sh, I, J) Q := by
  exact xG_N 2 (ps := []) (f1 := (18, [some (.int v0), some (.int v1), some (.int v2), some (.int v3)], [.int v3, .int v1, .int t1, .int t0])) (h1 := (sh, I, J)) rfl trivial (xG_Ci rfl rfl (Nat.le_of_ble_eq_true rfl) (Nat.le_of_ble_eq_true rfl) trivial rfl k)
set_option maxRecDepth 100000 in
theorem s_L_sum_21 {d : Nat} {Q : xO → xH → Prop} {sh : List xS} {I : Nat → Nat → Int32} {J : Nat → Nat → Int64} {v0 : Int32} {v1 : Int32} {v2 : Int32} {v3 : Int32} {t0 : Int32} {t1 : Int32} {t2 : Int32}
    (k : xG d zm_L_sum (4, [some (.int v0), some (.int v1), some (.int (t0 ||| (((t1 + t2) &&& (255 : Int32)) <<< (v3 &&& 31)))), some (.int (v3 + (8 : Int32)))], []) (sh, I, J) Q) :
    xG d zm_L_sum (21, [some (.int v0), some (.int v1), some (.int v2), some (.int v3)], [.int t2, .int t1, .int t0]) (sh, I, J) Q := by
  exact xG_N 9 (ps := []) (f1 := (4, [some (.int v0), some (.int v1), some (.int (t0 ||| (((t1 + t2) &&& (255 : Int32)) <<< (v3 &&& 31)))), some (.int (v3 + (8 : Int32)))], [])) (h1 := (sh, I, J)) rfl trivial (k)
set_option maxRecDepth 100000 in
theorem s_L_sum_36 {d : Nat} {Q : xO → xH → Prop} {sh : List xS} {I : Nat → Nat → Int32} {J : Nat → Nat → Int64} {v0 : Int32} {v1 : Int32} {v2 : Int32} {v3 : Int32}
    (k : Q (.inl (some (.int v2))) (sh, I, J)) :
    xG d zm_L_sum (36, [some (.int v0), some (.int v1), some (.int v2), some (.int v3)], []) (sh, I, J) Q := by
  exact xG_N 1 (ps := []) (f1 := (37, [some (.int v0), some (.int v1), some (.int v2), some (.int v3)], [.int v2])) (h1 := (sh, I, J)) rfl trivial (xG_Q rfl rfl trivial k)
set_option maxRecDepth 100000 in
theorem s_L_difference_0 {d : Nat} {Q : xO → xH → Prop} {sh : List xS} {I : Nat → Nat → Int32} {J : Nat → Nat → Int64} {v0 : Int32} {v1 : Int32}
    (k : xG d zm_L_difference (4, [some (.int v0), some (.int v1), some (.int (0 : Int32)), some (.int (0 : Int32))], []) (sh, I, J) Q) :
    xG d zm_L_difference (0, [some (.int v0), some (.int v1), none, none], []) (sh, I, J) Q := by
  exact xG_N 4 (ps := []) (f1 := (4, [some (.int v0), some (.int v1), some (.int (0 : Int32)), some (.int (0 : Int32))], [])) (h1 := (sh, I, J)) rfl trivial (k)
set_option maxRecDepth 100000 in
theorem s_L_difference_4 {d : Nat} {Q : xO → xH → Prop} {sh : List xS} {I : Nat → Nat → Int32} {J : Nat → Nat → Int64} {v0 : Int32} {v1 : Int32} {v2 : Int32} {v3 : Int32}
    (k1 : (32 : Int32) ≤ v3 → xG d zm_L_difference (36, [some (.int v0), some (.int v1), some (.int v2), some (.int v3)], []) (sh, I, J) Q)
    (k2 : ¬ ((32 : Int32) ≤ v3) → xG d zm_L_difference (10, [some (.int v0), some (.int v1), some (.int v2), some (.int v3)], []) (sh, I, J) Q) :
    xG d zm_L_difference (4, [some (.int v0), some (.int v1), some (.int v2), some (.int v3)], []) (sh, I, J) Q := by
  exact xG_N 2 (ps := []) (f1 := (7, [some (.int v0), some (.int v1), some (.int v2), some (.int v3)], [.int (32 : Int32), .int v3])) (h1 := (sh, I, J)) rfl trivial (xG_B rfl rfl k1 k2)
set_option maxRecDepth 100000 in
theorem s_L_difference_10 {d : Nat} {Q : xO → xH → Prop} {sh : List xS} {I : Nat → Nat → Int32} {J : Nat → Nat → Int64} {v0 : Int32} {v1 : Int32} {v2 : Int32} {v3 : Int32}
    (k : xg d qL_part [.int v0, .int v3] (sh, I, J) (xI (fun v h1 => xG d zm_L_difference (16, [some (.int v0), some (.int v1), some (.int v2), some (.int v3)], [.int v, .int v2]) h1 Q) (fun x h1 => Q (.inr x) h1))) :
    xG d zm_L_difference (10, [some (.int v0), some (.int v1), some (.int v2), some (.int v3)], []) (sh, I, J) Q := by
  exact xG_N 3 (ps := []) (f1 := (13, [some (.int v0), some (.int v1), some (.int v2), some (.int v3)], [.int v3, .int v0, .int v2])) (h1 := (sh, I, J)) rfl trivial (xG_Ci rfl rfl (Nat.le_of_ble_eq_true rfl) (Nat.le_of_ble_eq_true rfl) trivial rfl k)
set_option maxRecDepth 100000 in
theorem s_L_difference_16 {d : Nat} {Q : xO → xH → Prop} {sh : List xS} {I : Nat → Nat → Int32} {J : Nat → Nat → Int64} {v0 : Int32} {v1 : Int32} {v2 : Int32} {v3 : Int32} {t0 : Int32} {t1 : Int32}
    (k : xg d qL_part [.int v1, .int v3] (sh, I, J) (xI (fun v h1 => xG d zm_L_difference (21, [some (.int v0), some (.int v1), some (.int v2), some (.int v3)], [.int v, .int t1, .int t0]) h1 Q) (fun x h1 => Q (.inr x) h1))) :
    xG d zm_L_difference (16, [some (.int v0), some (.int v1), some (.int v2), some (.int v3)], [.int t1, .int t0]) (sh, I, J) Q := by
  exact xG_N 2 (ps := []) (f1 := (18, [some (.int v0), some (.int v1), some (.int v2), some (.int v3)], [.int v3, .int v1, .int t1, .int t0])) (h1 := (sh, I, J)) rfl trivial (xG_Ci rfl rfl (Nat.le_of_ble_eq_true rfl) (Nat.le_of_ble_eq_true rfl) trivial rfl k)
set_option maxRecDepth 100000 in
theorem s_L_difference_21 {d : Nat} {Q : xO → xH → Prop} {sh : List xS} {I : Nat → Nat → Int32} {J : Nat → Nat → Int64} {v0 : Int32} {v1 : Int32} {v2 : Int32} {v3 : Int32} {t0 : Int32} {t1 : Int32} {t2 : Int32}
    (k : xG d zm_L_difference (4, [some (.int v0), some (.int v1), some (.int (t0 ||| (((t1 - t2) &&& (255 : Int32)) <<< (v3 &&& 31)))), some (.int (v3 + (8 : Int32)))], []) (sh, I, J) Q) :
    xG d zm_L_difference (21, [some (.int v0), some (.int v1), some (.int v2), some (.int v3)], [.int t2, .int t1, .int t0]) (sh, I, J) Q := by
  exact xG_N 9 (ps := []) (f1 := (4, [some (.int v0), some (.int v1), some (.int (t0 ||| (((t1 - t2) &&& (255 : Int32)) <<< (v3 &&& 31)))), some (.int (v3 + (8 : Int32)))], [])) (h1 := (sh, I, J)) rfl trivial (k)
set_option maxRecDepth 100000 in
theorem s_L_difference_36 {d : Nat} {Q : xO → xH → Prop} {sh : List xS} {I : Nat → Nat → Int32} {J : Nat → Nat → Int64} {v0 : Int32} {v1 : Int32} {v2 : Int32} {v3 : Int32}
    (k : Q (.inl (some (.int v2))) (sh, I, J)) :
    xG d zm_L_difference (36, [some (.int v0), some (.int v1), some (.int v2), some (.int v3)], []) (sh, I, J) Q := by
  exact xG_N 1 (ps := []) (f1 := (37, [some (.int v0), some (.int v1), some (.int v2), some (.int v3)], [.int v2])) (h1 := (sh, I, J)) rfl trivial (xG_Q rfl rfl trivial k)
set_option maxRecDepth 100000 in
theorem s_L_average_0 {d : Nat} {Q : xO → xH → Prop} {sh : List xS} {I : Nat → Nat → Int32} {J : Nat → Nat → Int64} {v0 : Int32} {v1 : Int32}
    (k : xG d zm_L_average (4, [some (.int v0), some (.int v1), some (.int (0 : Int32)), some (.int (0 : Int32))], []) (sh, I, J) Q) :
    xG d zm_L_average (0, [some (.int v0), some (.int v1), none, none], []) (sh, I, J) Q := by
  exact xG_N 4 (ps := []) (f1 := (4, [some (.int v0), some (.int v1), some (.int (0 : Int32)), some (.int (0 : Int32))], [])) (h1 := (sh, I, J)) rfl trivial (k)
set_option maxRecDepth 100000 in
theorem s_L_average_4 {d : Nat} {Q : xO → xH → Prop} {sh : List xS} {I : Nat → Nat → Int32} {J : Nat → Nat → Int64} {v0 : Int32} {v1 : Int32} {v2 : Int32} {v3 : Int32}
    (k1 : (32 : Int32) ≤ v3 → xG d zm_L_average (34, [some (.int v0), some (.int v1), some (.int v2), some (.int v3)], []) (sh, I, J) Q)
    (k2 : ¬ ((32 : Int32) ≤ v3) → xG d zm_L_average (10, [some (.int v0), some (.int v1), some (.int v2), some (.int v3)], []) (sh, I, J) Q) :
    xG d zm_L_average (4, [some (.int v0), some (.int v1), some (.int v2), some (.int v3)], []) (sh, I, J) Q := by
  exact xG_N 2 (ps := []) (f1 := (7, [some (.int v0), some (.int v1), some (.int v2), some (.int v3)], [.int (32 : Int32), .int v3])) (h1 := (sh, I, J)) rfl trivial (xG_B rfl rfl k1 k2)
set_option maxRecDepth 100000 in
theorem s_L_average_10 {d : Nat} {Q : xO → xH → Prop} {sh : List xS} {I : Nat → Nat → Int32} {J : Nat → Nat → Int64} {v0 : Int32} {v1 : Int32} {v2 : Int32} {v3 : Int32}
    (k : xg d qL_part [.int v0, .int v3] (sh, I, J) (xI (fun v h1 => xG d zm_L_average (16, [some (.int v0), some (.int v1), some (.int v2), some (.int v3)], [.int v, .int v2]) h1 Q) (fun x h1 => Q (.inr x) h1))) :
    xG d zm_L_average (10, [some (.int v0), some (.int v1), some (.int v2), some (.int v3)], []) (sh, I, J) Q := by
  exact xG_N 3 (ps := []) (f1 := (13, [some (.int v0), some (.int v1), some (.int v2), some (.int v3)], [.int v3, .int v0, .int v2])) (h1 := (sh, I, J)) rfl trivial (xG_Ci rfl rfl (Nat.le_of_ble_eq_true rfl) (Nat.le_of_ble_eq_true rfl) trivial rfl k)
set_option maxRecDepth 100000 in
theorem s_L_average_16 {d : Nat} {Q : xO → xH → Prop} {sh : List xS} {I : Nat → Nat → Int32} {J : Nat → Nat → Int64} {v0 : Int32} {v1 : Int32} {v2 : Int32} {v3 : Int32} {t0 : Int32} {t1 : Int32}
    (k : xg d qL_part [.int v1, .int v3] (sh, I, J) (xI (fun v h1 => xG d zm_L_average (21, [some (.int v0), some (.int v1), some (.int v2), some (.int v3)], [.int v, .int t1, .int t0]) h1 Q) (fun x h1 => Q (.inr x) h1))) :
    xG d zm_L_average (16, [some (.int v0), some (.int v1), some (.int v2), some (.int v3)], [.int t1, .int t0]) (sh, I, J) Q := by
  exact xG_N 2 (ps := []) (f1 := (18, [some (.int v0), some (.int v1), some (.int v2), some (.int v3)], [.int v3, .int v1, .int t1, .int t0])) (h1 := (sh, I, J)) rfl trivial (xG_Ci rfl rfl (Nat.le_of_ble_eq_true rfl) (Nat.le_of_ble_eq_true rfl) trivial rfl k)
set_option maxRecDepth 100000 in
theorem s_L_average_21 {d : Nat} {Q : xO → xH → Prop} {sh : List xS} {I : Nat → Nat → Int32} {J : Nat → Nat → Int64} {v0 : Int32} {v1 : Int32} {v2 : Int32} {v3 : Int32} {t0 : Int32} {t1 : Int32} {t2 : Int32}
    (k : xG d zm_L_average (4, [some (.int v0), some (.int v1), some (.int (t0 ||| (((t1 + t2) / (2 : Int32)) <<< (v3 &&& 31)))), some (.int (v3 + (8 : Int32)))], []) (sh, I, J) Q) :
    xG d zm_L_average (21, [some (.int v0), some (.int v1), some (.int v2), some (.int v3)], [.int t2, .int t1, .int t0]) (sh, I, J) Q := by
  exact xG_N 9 (ps := [¬ (2 : Int32) = 0]) (f1 := (4, [some (.int v0), some (.int v1), some (.int (t0 ||| (((t1 + t2) / (2 : Int32)) <<< (v3 &&& 31)))), some (.int (v3 + (8 : Int32)))], [])) (h1 := (sh, I, J)) rfl (show ¬ (2 : Int32) = 0 by decide) (k)
set_option maxRecDepth 100000 in
theorem s_L_average_34 {d : Nat} {Q : xO → xH → Prop} {sh : List xS} {I : Nat → Nat → Int32} {J : Nat → Nat → Int64} {v0 : Int32} {v1 : Int32} {v2 : Int32} {v3 : Int32}
    (k : Q (.inl (some (.int v2))) (sh, I, J)) :
    xG d zm_L_average (34, [some (.int v0), some (.int v1), some (.int v2), some (.int v3)], []) (sh, I, J) Q := by
  exact xG_N 1 (ps := []) (f1 := (35, [some (.int v0), some (.int v1), some (.int v2), some (.int v3)], [.int v2])) (h1 := (sh, I, J)) rfl trivial (xG_Q rfl rfl trivial k)
set_option maxRecDepth 100000 in
theorem s_L_clamp_0 {d : Nat} {Q : xO → xH → Prop} {sh : List xS} {I : Nat → Nat → Int32} {J : Nat → Nat → Int64} {v0 : Int32}
    (k1 : 0 ≤ v0 → xG d zm_L_clamp (8, [some (.int v0)], []) (sh, I, J) Q)
    (k2 : ¬ (0 ≤ v0) → xG d zm_L_clamp (4, [some (.int v0)], []) (sh, I, J) Q) :
    xG d zm_L_clamp (0, [some (.int v0)], []) (sh, I, J) Q := by
  exact xG_N 1 (ps := []) (f1 := (1, [some (.int v0)], [.int v0])) (h1 := (sh, I, J)) rfl trivial (xG_B rfl rfl k1 k2)
set_option maxRecDepth 100000 in
theorem s_L_clamp_4 {d : Nat} {Q : xO → xH → Prop} {sh : List xS} {I : Nat → Nat → Int32} {J : Nat → Nat → Int64} {v0 : Int32}
    (k : Q (.inl (some (.int (0 : Int32)))) (sh, I, J)) :
    xG d zm_L_clamp (4, [some (.int v0)], []) (sh, I, J) Q := by
  exact xG_N 2 (ps := []) (f1 := (22, [some (.int v0)], [.int (0 : Int32)])) (h1 := (sh, I, J)) rfl trivial (xG_Q rfl rfl trivial k)
set_option maxRecDepth 100000 in
theorem s_L_clamp_8 {d : Nat} {Q : xO → xH → Prop} {sh : List xS} {I : Nat → Nat → Int32} {J : Nat → Nat → Int64} {v0 : Int32}
    (k1 : v0 ≤ (255 : Int32) → xG d zm_L_clamp (21, [some (.int v0)], []) (sh, I, J) Q)
    (k2 : ¬ (v0 ≤ (255 : Int32)) → xG d zm_L_clamp (15, [some (.int v0)], []) (sh, I, J) Q) :
    xG d zm_L_clamp (8, [some (.int v0)], []) (sh, I, J) Q := by
  exact xG_N 2 (ps := []) (f1 := (12, [some (.int v0)], [.int (255 : Int32), .int v0])) (h1 := (sh, I, J)) rfl trivial (xG_B rfl rfl k1 k2)
set_option maxRecDepth 100000 in
theorem s_L_clamp_15 {d : Nat} {Q : xO → xH → Prop} {sh : List xS} {I : Nat → Nat → Int32} {J : Nat → Nat → Int64} {v0 : Int32}
    (k : Q (.inl (some (.int (255 : Int32)))) (sh, I, J)) :
    xG d zm_L_clamp (15, [some (.int v0)], []) (sh, I, J) Q := by
  exact xG_N 2 (ps := []) (f1 := (22, [some (.int v0)], [.int (255 : Int32)])) (h1 := (sh, I, J)) rfl trivial (xG_Q rfl rfl trivial k)
set_option maxRecDepth 100000 in
theorem s_L_clamp_21 {d : Nat} {Q : xO → xH → Prop} {sh : List xS} {I : Nat → Nat → Int32} {J : Nat → Nat → Int64} {v0 : Int32}
    (k : Q (.inl (some (.int v0))) (sh, I, J)) :
    xG d zm_L_clamp (21, [some (.int v0)], []) (sh, I, J) Q := by
  exact xG_N 1 (ps := []) (f1 := (22, [some (.int v0)], [.int v0])) (h1 := (sh, I, J)) rfl trivial (xG_Q rfl rfl trivial k)
