/-! Stretches of code, printed (wip/whole/gen_blocks.py). -/
set_option maxRecDepth 100000 in
theorem s_M_init_0 {d : Nat} {Q : xO → xH → Prop} {sh : List xS} {I : Nat → Nat → Int32} {J : Nat → Nat → Int64} {r0 : Nat}
    (k : xG d zm_M_init (9, [some (.ref r0)], [.ref sh.length, .ref r0]) (sh ++ [.inl (.int, ((64 : Int32) : Int32).toNatClampNeg)], xzer I sh.length, xzerL J sh.length) Q) :
    xG d zm_M_init (0, [some (.ref r0)], []) (sh, I, J) Q := by
  exact xG_N 5 (ps := [(([] : List Value).map fun v => v.category).sum ≤ 8, ¬ ((64 : Int32) : Int32) < 0, ((64 : Int32) : Int32).toNatClampNeg ≤ 65536, newarray.typeOf .int = .int ∨ newarray.typeOf .int = .boolean ∨ newarray.typeOf .int = .long]) (f1 := (9, [some (.ref r0)], [.ref sh.length, .ref r0])) (h1 := (sh ++ [.inl (.int, ((64 : Int32) : Int32).toNatClampNeg)], xzer I sh.length, xzerL J sh.length)) rfl ⟨(Nat.le_of_ble_eq_true rfl), (show ¬ ((64 : Int32) : Int32) < 0 by decide), (show ((64 : Int32) : Int32).toNatClampNeg ≤ 65536 by decide), Or.inl rfl⟩ (k)
set_option maxRecDepth 100000 in
theorem s_M_init_9 {d : Nat} {Q : xO → xH → Prop} {sh : List xS} {I : Nat → Nat → Int32} {J : Nat → Nat → Int64} {r0 : Nat} {t0 : Nat} {t1 : Nat}
    (e0 : xOb sh t0 10)
    (k : xG d zm_M_init (18, [some (.ref r0)], [.ref ((xsr sh t0 3 t1).length), .ref r0]) ((xsr sh t0 3 t1) ++ [.inl (.int, ((700 : Int32) : Int32).toNatClampNeg)], xzer I (xsr sh t0 3 t1).length, xzerL J (xsr sh t0 3 t1).length) Q) :
    xG d zm_M_init (9, [some (.ref r0)], [.ref t1, .ref t0]) (sh, I, J) Q := by
  exact xG_N 4 (ps := [xOb sh t0 10, 3 < (zdf 10).length, ¬ ((700 : Int32) : Int32) < 0, ((700 : Int32) : Int32).toNatClampNeg ≤ 65536, newarray.typeOf .int = .int ∨ newarray.typeOf .int = .boolean ∨ newarray.typeOf .int = .long]) (f1 := (18, [some (.ref r0)], [.ref ((xsr sh t0 3 t1).length), .ref r0])) (h1 := ((xsr sh t0 3 t1) ++ [.inl (.int, ((700 : Int32) : Int32).toNatClampNeg)], xzer I (xsr sh t0 3 t1).length, xzerL J (xsr sh t0 3 t1).length)) rfl ⟨e0, (show 3 < (zdf 10).length by decide), (show ¬ ((700 : Int32) : Int32) < 0 by decide), (show ((700 : Int32) : Int32).toNatClampNeg ≤ 65536 by decide), Or.inl rfl⟩ (k)
set_option maxRecDepth 100000 in
theorem s_M_init_18 {d : Nat} {Q : xO → xH → Prop} {sh : List xS} {I : Nat → Nat → Int32} {J : Nat → Nat → Int64} {r0 : Nat} {t0 : Nat} {t1 : Nat}
    (e0 : xOb sh t0 10)
    (k : xG d zm_M_init (27, [some (.ref r0)], [.ref ((xsr sh t0 4 t1).length), .ref r0]) ((xsr sh t0 4 t1) ++ [.inl (.int, ((700 : Int32) : Int32).toNatClampNeg)], xzer I (xsr sh t0 4 t1).length, xzerL J (xsr sh t0 4 t1).length) Q) :
    xG d zm_M_init (18, [some (.ref r0)], [.ref t1, .ref t0]) (sh, I, J) Q := by
  exact xG_N 4 (ps := [xOb sh t0 10, 4 < (zdf 10).length, ¬ ((700 : Int32) : Int32) < 0, ((700 : Int32) : Int32).toNatClampNeg ≤ 65536, newarray.typeOf .int = .int ∨ newarray.typeOf .int = .boolean ∨ newarray.typeOf .int = .long]) (f1 := (27, [some (.ref r0)], [.ref ((xsr sh t0 4 t1).length), .ref r0])) (h1 := ((xsr sh t0 4 t1) ++ [.inl (.int, ((700 : Int32) : Int32).toNatClampNeg)], xzer I (xsr sh t0 4 t1).length, xzerL J (xsr sh t0 4 t1).length)) rfl ⟨e0, (show 4 < (zdf 10).length by decide), (show ¬ ((700 : Int32) : Int32) < 0 by decide), (show ((700 : Int32) : Int32).toNatClampNeg ≤ 65536 by decide), Or.inl rfl⟩ (k)
set_option maxRecDepth 100000 in
theorem s_M_init_27 {d : Nat} {Q : xO → xH → Prop} {sh : List xS} {I : Nat → Nat → Int32} {J : Nat → Nat → Int64} {r0 : Nat} {t0 : Nat} {t1 : Nat}
    (e0 : xOb sh t0 10)
    (k : xG d zm_M_init (36, [some (.ref r0)], [.ref ((xsr sh t0 6 t1).length), .ref r0]) ((xsr sh t0 6 t1) ++ [.inl (.int, ((1123 : Int32) : Int32).toNatClampNeg)], xzer I (xsr sh t0 6 t1).length, xzerL J (xsr sh t0 6 t1).length) Q) :
    xG d zm_M_init (27, [some (.ref r0)], [.ref t1, .ref t0]) (sh, I, J) Q := by
  exact xG_N 4 (ps := [xOb sh t0 10, 6 < (zdf 10).length, ¬ ((1123 : Int32) : Int32) < 0, ((1123 : Int32) : Int32).toNatClampNeg ≤ 65536, newarray.typeOf .int = .int ∨ newarray.typeOf .int = .boolean ∨ newarray.typeOf .int = .long]) (f1 := (36, [some (.ref r0)], [.ref ((xsr sh t0 6 t1).length), .ref r0])) (h1 := ((xsr sh t0 6 t1) ++ [.inl (.int, ((1123 : Int32) : Int32).toNatClampNeg)], xzer I (xsr sh t0 6 t1).length, xzerL J (xsr sh t0 6 t1).length)) rfl ⟨e0, (show 6 < (zdf 10).length by decide), (show ¬ ((1123 : Int32) : Int32) < 0 by decide), (show ((1123 : Int32) : Int32).toNatClampNeg ≤ 65536 by decide), Or.inl rfl⟩ (k)
set_option maxRecDepth 100000 in
theorem s_M_init_36 {d : Nat} {Q : xO → xH → Prop} {sh : List xS} {I : Nat → Nat → Int32} {J : Nat → Nat → Int64} {r0 : Nat} {t0 : Nat} {t1 : Nat}
    (e0 : xOb sh t0 10)
    (k : xG d zm_M_init (45, [some (.ref r0)], [.ref ((xsr sh t0 10 t1).length), .ref r0]) ((xsr sh t0 10 t1) ++ [.inl (.boolean, ((1123 : Int32) : Int32).toNatClampNeg)], xzer I (xsr sh t0 10 t1).length, xzerL J (xsr sh t0 10 t1).length) Q) :
    xG d zm_M_init (36, [some (.ref r0)], [.ref t1, .ref t0]) (sh, I, J) Q := by
  exact xG_N 4 (ps := [xOb sh t0 10, 10 < (zdf 10).length, ¬ ((1123 : Int32) : Int32) < 0, ((1123 : Int32) : Int32).toNatClampNeg ≤ 65536, newarray.typeOf .boolean = .int ∨ newarray.typeOf .boolean = .boolean ∨ newarray.typeOf .boolean = .long]) (f1 := (45, [some (.ref r0)], [.ref ((xsr sh t0 10 t1).length), .ref r0])) (h1 := ((xsr sh t0 10 t1) ++ [.inl (.boolean, ((1123 : Int32) : Int32).toNatClampNeg)], xzer I (xsr sh t0 10 t1).length, xzerL J (xsr sh t0 10 t1).length)) rfl ⟨e0, (show 10 < (zdf 10).length by decide), (show ¬ ((1123 : Int32) : Int32) < 0 by decide), (show ((1123 : Int32) : Int32).toNatClampNeg ≤ 65536 by decide), Or.inr (Or.inl rfl)⟩ (k)
set_option maxRecDepth 100000 in
theorem s_M_init_45 {d : Nat} {Q : xO → xH → Prop} {sh : List xS} {I : Nat → Nat → Int32} {J : Nat → Nat → Int64} {r0 : Nat} {t0 : Nat} {t1 : Nat}
    (e0 : xOb sh t0 10)
    (k : xG d zm_M_init (53, [some (.ref r0)], [.ref ((xsr sh t0 11 t1).length), .ref r0]) ((xsr sh t0 11 t1) ++ [.inl (.int, ((6 : Int32) : Int32).toNatClampNeg)], xzer I (xsr sh t0 11 t1).length, xzerL J (xsr sh t0 11 t1).length) Q) :
    xG d zm_M_init (45, [some (.ref r0)], [.ref t1, .ref t0]) (sh, I, J) Q := by
  exact xG_N 4 (ps := [xOb sh t0 10, 11 < (zdf 10).length, ¬ ((6 : Int32) : Int32) < 0, ((6 : Int32) : Int32).toNatClampNeg ≤ 65536, newarray.typeOf .int = .int ∨ newarray.typeOf .int = .boolean ∨ newarray.typeOf .int = .long]) (f1 := (53, [some (.ref r0)], [.ref ((xsr sh t0 11 t1).length), .ref r0])) (h1 := ((xsr sh t0 11 t1) ++ [.inl (.int, ((6 : Int32) : Int32).toNatClampNeg)], xzer I (xsr sh t0 11 t1).length, xzerL J (xsr sh t0 11 t1).length)) rfl ⟨e0, (show 11 < (zdf 10).length by decide), (show ¬ ((6 : Int32) : Int32) < 0 by decide), (show ((6 : Int32) : Int32).toNatClampNeg ≤ 65536 by decide), Or.inl rfl⟩ (k)
set_option maxRecDepth 100000 in
theorem s_M_init_53 {d : Nat} {Q : xO → xH → Prop} {sh : List xS} {I : Nat → Nat → Int32} {J : Nat → Nat → Int64} {r0 : Nat} {t0 : Nat} {t1 : Nat}
    (e0 : xOb sh t0 10)
    (k : xG d zm_M_init (61, [some (.ref r0)], [.ref ((xsr sh t0 12 t1).length), .ref r0]) ((xsr sh t0 12 t1) ++ [.inl (.int, ((6 : Int32) : Int32).toNatClampNeg)], xzer I (xsr sh t0 12 t1).length, xzerL J (xsr sh t0 12 t1).length) Q) :
    xG d zm_M_init (53, [some (.ref r0)], [.ref t1, .ref t0]) (sh, I, J) Q := by
  exact xG_N 4 (ps := [xOb sh t0 10, 12 < (zdf 10).length, ¬ ((6 : Int32) : Int32) < 0, ((6 : Int32) : Int32).toNatClampNeg ≤ 65536, newarray.typeOf .int = .int ∨ newarray.typeOf .int = .boolean ∨ newarray.typeOf .int = .long]) (f1 := (61, [some (.ref r0)], [.ref ((xsr sh t0 12 t1).length), .ref r0])) (h1 := ((xsr sh t0 12 t1) ++ [.inl (.int, ((6 : Int32) : Int32).toNatClampNeg)], xzer I (xsr sh t0 12 t1).length, xzerL J (xsr sh t0 12 t1).length)) rfl ⟨e0, (show 12 < (zdf 10).length by decide), (show ¬ ((6 : Int32) : Int32) < 0 by decide), (show ((6 : Int32) : Int32).toNatClampNeg ≤ 65536 by decide), Or.inl rfl⟩ (k)
set_option maxRecDepth 100000 in
theorem s_M_init_61 {d : Nat} {Q : xO → xH → Prop} {sh : List xS} {I : Nat → Nat → Int32} {J : Nat → Nat → Int64} {r0 : Nat} {t0 : Nat} {t1 : Nat}
    (e0 : xOb sh t0 10)
    (k : xG d zm_M_init (69, [some (.ref r0)], [.ref ((xsr sh t0 13 t1).length), .ref r0]) ((xsr sh t0 13 t1) ++ [.inl (.int, ((64 : Int32) : Int32).toNatClampNeg)], xzer I (xsr sh t0 13 t1).length, xzerL J (xsr sh t0 13 t1).length) Q) :
    xG d zm_M_init (61, [some (.ref r0)], [.ref t1, .ref t0]) (sh, I, J) Q := by
  exact xG_N 4 (ps := [xOb sh t0 10, 13 < (zdf 10).length, ¬ ((64 : Int32) : Int32) < 0, ((64 : Int32) : Int32).toNatClampNeg ≤ 65536, newarray.typeOf .int = .int ∨ newarray.typeOf .int = .boolean ∨ newarray.typeOf .int = .long]) (f1 := (69, [some (.ref r0)], [.ref ((xsr sh t0 13 t1).length), .ref r0])) (h1 := ((xsr sh t0 13 t1) ++ [.inl (.int, ((64 : Int32) : Int32).toNatClampNeg)], xzer I (xsr sh t0 13 t1).length, xzerL J (xsr sh t0 13 t1).length)) rfl ⟨e0, (show 13 < (zdf 10).length by decide), (show ¬ ((64 : Int32) : Int32) < 0 by decide), (show ((64 : Int32) : Int32).toNatClampNeg ≤ 65536 by decide), Or.inl rfl⟩ (k)
set_option maxRecDepth 100000 in
theorem s_M_init_69 {d : Nat} {Q : xO → xH → Prop} {sh : List xS} {I : Nat → Nat → Int32} {J : Nat → Nat → Int64} {r0 : Nat} {t0 : Nat} {t1 : Nat}
    (e0 : xOb sh t0 10)
    (k : xG d zm_M_init (77, [some (.ref r0)], [.ref ((xsr sh t0 14 t1).length), .ref r0]) ((xsr sh t0 14 t1) ++ [.inl (.int, ((64 : Int32) : Int32).toNatClampNeg)], xzer I (xsr sh t0 14 t1).length, xzerL J (xsr sh t0 14 t1).length) Q) :
    xG d zm_M_init (69, [some (.ref r0)], [.ref t1, .ref t0]) (sh, I, J) Q := by
  exact xG_N 4 (ps := [xOb sh t0 10, 14 < (zdf 10).length, ¬ ((64 : Int32) : Int32) < 0, ((64 : Int32) : Int32).toNatClampNeg ≤ 65536, newarray.typeOf .int = .int ∨ newarray.typeOf .int = .boolean ∨ newarray.typeOf .int = .long]) (f1 := (77, [some (.ref r0)], [.ref ((xsr sh t0 14 t1).length), .ref r0])) (h1 := ((xsr sh t0 14 t1) ++ [.inl (.int, ((64 : Int32) : Int32).toNatClampNeg)], xzer I (xsr sh t0 14 t1).length, xzerL J (xsr sh t0 14 t1).length)) rfl ⟨e0, (show 14 < (zdf 10).length by decide), (show ¬ ((64 : Int32) : Int32) < 0 by decide), (show ((64 : Int32) : Int32).toNatClampNeg ≤ 65536 by decide), Or.inl rfl⟩ (k)
set_option maxRecDepth 100000 in
theorem s_M_init_77 {d : Nat} {Q : xO → xH → Prop} {sh : List xS} {I : Nat → Nat → Int32} {J : Nat → Nat → Int64} {r0 : Nat} {t0 : Nat} {t1 : Nat}
    (e0 : xOb sh t0 10)
    (k : xG d zm_M_init (85, [some (.ref r0)], [.ref ((xsr sh t0 15 t1).length), .ref r0]) ((xsr sh t0 15 t1) ++ [.inl (.int, ((16 : Int32) : Int32).toNatClampNeg)], xzer I (xsr sh t0 15 t1).length, xzerL J (xsr sh t0 15 t1).length) Q) :
    xG d zm_M_init (77, [some (.ref r0)], [.ref t1, .ref t0]) (sh, I, J) Q := by
  exact xG_N 4 (ps := [xOb sh t0 10, 15 < (zdf 10).length, ¬ ((16 : Int32) : Int32) < 0, ((16 : Int32) : Int32).toNatClampNeg ≤ 65536, newarray.typeOf .int = .int ∨ newarray.typeOf .int = .boolean ∨ newarray.typeOf .int = .long]) (f1 := (85, [some (.ref r0)], [.ref ((xsr sh t0 15 t1).length), .ref r0])) (h1 := ((xsr sh t0 15 t1) ++ [.inl (.int, ((16 : Int32) : Int32).toNatClampNeg)], xzer I (xsr sh t0 15 t1).length, xzerL J (xsr sh t0 15 t1).length)) rfl ⟨e0, (show 15 < (zdf 10).length by decide), (show ¬ ((16 : Int32) : Int32) < 0 by decide), (show ((16 : Int32) : Int32).toNatClampNeg ≤ 65536 by decide), Or.inl rfl⟩ (k)
set_option maxRecDepth 100000 in
theorem s_M_init_85 {d : Nat} {Q : xO → xH → Prop} {sh : List xS} {I : Nat → Nat → Int32} {J : Nat → Nat → Int64} {r0 : Nat} {t0 : Nat} {t1 : Nat}
    (e0 : xOb sh t0 10)
    (k : xG d zm_M_init (92, [some (.ref r0)], [.ref ((xsr sh t0 16 t1).length), .ref r0]) ((xsr sh t0 16 t1) ++ [.inl (.int, ((4 : Int32) : Int32).toNatClampNeg)], xzer I (xsr sh t0 16 t1).length, xzerL J (xsr sh t0 16 t1).length) Q) :
    xG d zm_M_init (85, [some (.ref r0)], [.ref t1, .ref t0]) (sh, I, J) Q := by
  exact xG_N 4 (ps := [xOb sh t0 10, 16 < (zdf 10).length, ¬ ((4 : Int32) : Int32) < 0, ((4 : Int32) : Int32).toNatClampNeg ≤ 65536, newarray.typeOf .int = .int ∨ newarray.typeOf .int = .boolean ∨ newarray.typeOf .int = .long]) (f1 := (92, [some (.ref r0)], [.ref ((xsr sh t0 16 t1).length), .ref r0])) (h1 := ((xsr sh t0 16 t1) ++ [.inl (.int, ((4 : Int32) : Int32).toNatClampNeg)], xzer I (xsr sh t0 16 t1).length, xzerL J (xsr sh t0 16 t1).length)) rfl ⟨e0, (show 16 < (zdf 10).length by decide), (show ¬ ((4 : Int32) : Int32) < 0 by decide), (show ((4 : Int32) : Int32).toNatClampNeg ≤ 65536 by decide), Or.inl rfl⟩ (k)
set_option maxRecDepth 100000 in
theorem s_M_init_92 {d : Nat} {Q : xO → xH → Prop} {sh : List xS} {I : Nat → Nat → Int32} {J : Nat → Nat → Int64} {r0 : Nat} {t0 : Nat} {t1 : Nat}
    (e0 : xOb sh t0 10)
    (k : xG d zm_M_init (99, [some (.ref r0)], [.ref ((xsr sh t0 20 t1).length), .ref r0]) ((xsr sh t0 20 t1) ++ [.inl (.int, ((4 : Int32) : Int32).toNatClampNeg)], xzer I (xsr sh t0 20 t1).length, xzerL J (xsr sh t0 20 t1).length) Q) :
    xG d zm_M_init (92, [some (.ref r0)], [.ref t1, .ref t0]) (sh, I, J) Q := by
  exact xG_N 4 (ps := [xOb sh t0 10, 20 < (zdf 10).length, ¬ ((4 : Int32) : Int32) < 0, ((4 : Int32) : Int32).toNatClampNeg ≤ 65536, newarray.typeOf .int = .int ∨ newarray.typeOf .int = .boolean ∨ newarray.typeOf .int = .long]) (f1 := (99, [some (.ref r0)], [.ref ((xsr sh t0 20 t1).length), .ref r0])) (h1 := ((xsr sh t0 20 t1) ++ [.inl (.int, ((4 : Int32) : Int32).toNatClampNeg)], xzer I (xsr sh t0 20 t1).length, xzerL J (xsr sh t0 20 t1).length)) rfl ⟨e0, (show 20 < (zdf 10).length by decide), (show ¬ ((4 : Int32) : Int32) < 0 by decide), (show ((4 : Int32) : Int32).toNatClampNeg ≤ 65536 by decide), Or.inl rfl⟩ (k)
set_option maxRecDepth 100000 in
theorem s_M_init_99 {d : Nat} {Q : xO → xH → Prop} {sh : List xS} {I : Nat → Nat → Int32} {J : Nat → Nat → Int64} {r0 : Nat} {t0 : Nat} {t1 : Nat}
    (e0 : xOb sh t0 10)
    (k : xG d zm_M_init (106, [some (.ref r0)], [.ref ((xsr sh t0 21 t1).length), .ref r0]) ((xsr sh t0 21 t1) ++ [.inl (.int, ((4 : Int32) : Int32).toNatClampNeg)], xzer I (xsr sh t0 21 t1).length, xzerL J (xsr sh t0 21 t1).length) Q) :
    xG d zm_M_init (99, [some (.ref r0)], [.ref t1, .ref t0]) (sh, I, J) Q := by
  exact xG_N 4 (ps := [xOb sh t0 10, 21 < (zdf 10).length, ¬ ((4 : Int32) : Int32) < 0, ((4 : Int32) : Int32).toNatClampNeg ≤ 65536, newarray.typeOf .int = .int ∨ newarray.typeOf .int = .boolean ∨ newarray.typeOf .int = .long]) (f1 := (106, [some (.ref r0)], [.ref ((xsr sh t0 21 t1).length), .ref r0])) (h1 := ((xsr sh t0 21 t1) ++ [.inl (.int, ((4 : Int32) : Int32).toNatClampNeg)], xzer I (xsr sh t0 21 t1).length, xzerL J (xsr sh t0 21 t1).length)) rfl ⟨e0, (show 21 < (zdf 10).length by decide), (show ¬ ((4 : Int32) : Int32) < 0 by decide), (show ((4 : Int32) : Int32).toNatClampNeg ≤ 65536 by decide), Or.inl rfl⟩ (k)
set_option maxRecDepth 100000 in
theorem s_M_init_106 {d : Nat} {Q : xO → xH → Prop} {sh : List xS} {I : Nat → Nat → Int32} {J : Nat → Nat → Int64} {r0 : Nat} {t0 : Nat} {t1 : Nat}
    (e0 : xOb sh t0 10)
    (k : xG d zm_M_init (113, [some (.ref r0)], [.ref ((xsr sh t0 23 t1).length), .ref r0]) ((xsr sh t0 23 t1) ++ [.inl (.int, ((4 : Int32) : Int32).toNatClampNeg)], xzer I (xsr sh t0 23 t1).length, xzerL J (xsr sh t0 23 t1).length) Q) :
    xG d zm_M_init (106, [some (.ref r0)], [.ref t1, .ref t0]) (sh, I, J) Q := by
  exact xG_N 4 (ps := [xOb sh t0 10, 23 < (zdf 10).length, ¬ ((4 : Int32) : Int32) < 0, ((4 : Int32) : Int32).toNatClampNeg ≤ 65536, newarray.typeOf .int = .int ∨ newarray.typeOf .int = .boolean ∨ newarray.typeOf .int = .long]) (f1 := (113, [some (.ref r0)], [.ref ((xsr sh t0 23 t1).length), .ref r0])) (h1 := ((xsr sh t0 23 t1) ++ [.inl (.int, ((4 : Int32) : Int32).toNatClampNeg)], xzer I (xsr sh t0 23 t1).length, xzerL J (xsr sh t0 23 t1).length)) rfl ⟨e0, (show 23 < (zdf 10).length by decide), (show ¬ ((4 : Int32) : Int32) < 0 by decide), (show ((4 : Int32) : Int32).toNatClampNeg ≤ 65536 by decide), Or.inl rfl⟩ (k)
set_option maxRecDepth 100000 in
theorem s_M_init_113 {d : Nat} {Q : xO → xH → Prop} {sh : List xS} {I : Nat → Nat → Int32} {J : Nat → Nat → Int64} {r0 : Nat} {t0 : Nat} {t1 : Nat}
    (e0 : xOb sh t0 10)
    (k : xG d zm_M_init (121, [some (.ref r0)], [.ref ((xsr sh t0 24 t1).length), .ref r0]) ((xsr sh t0 24 t1) ++ [.inl (.int, ((16 : Int32) : Int32).toNatClampNeg)], xzer I (xsr sh t0 24 t1).length, xzerL J (xsr sh t0 24 t1).length) Q) :
    xG d zm_M_init (113, [some (.ref r0)], [.ref t1, .ref t0]) (sh, I, J) Q := by
  exact xG_N 4 (ps := [xOb sh t0 10, 24 < (zdf 10).length, ¬ ((16 : Int32) : Int32) < 0, ((16 : Int32) : Int32).toNatClampNeg ≤ 65536, newarray.typeOf .int = .int ∨ newarray.typeOf .int = .boolean ∨ newarray.typeOf .int = .long]) (f1 := (121, [some (.ref r0)], [.ref ((xsr sh t0 24 t1).length), .ref r0])) (h1 := ((xsr sh t0 24 t1) ++ [.inl (.int, ((16 : Int32) : Int32).toNatClampNeg)], xzer I (xsr sh t0 24 t1).length, xzerL J (xsr sh t0 24 t1).length)) rfl ⟨e0, (show 24 < (zdf 10).length by decide), (show ¬ ((16 : Int32) : Int32) < 0 by decide), (show ((16 : Int32) : Int32).toNatClampNeg ≤ 65536 by decide), Or.inl rfl⟩ (k)
set_option maxRecDepth 100000 in
theorem s_M_init_121 {d : Nat} {Q : xO → xH → Prop} {sh : List xS} {I : Nat → Nat → Int32} {J : Nat → Nat → Int64} {r0 : Nat} {t0 : Nat} {t1 : Nat}
    (e0 : xOb sh t0 10)
    (k : xG d zm_M_init (129, [some (.ref r0)], [.ref ((xsr sh t0 25 t1).length), .ref r0]) ((xsr sh t0 25 t1) ++ [.inl (.int, ((64 : Int32) : Int32).toNatClampNeg)], xzer I (xsr sh t0 25 t1).length, xzerL J (xsr sh t0 25 t1).length) Q) :
    xG d zm_M_init (121, [some (.ref r0)], [.ref t1, .ref t0]) (sh, I, J) Q := by
  exact xG_N 4 (ps := [xOb sh t0 10, 25 < (zdf 10).length, ¬ ((64 : Int32) : Int32) < 0, ((64 : Int32) : Int32).toNatClampNeg ≤ 65536, newarray.typeOf .int = .int ∨ newarray.typeOf .int = .boolean ∨ newarray.typeOf .int = .long]) (f1 := (129, [some (.ref r0)], [.ref ((xsr sh t0 25 t1).length), .ref r0])) (h1 := ((xsr sh t0 25 t1) ++ [.inl (.int, ((64 : Int32) : Int32).toNatClampNeg)], xzer I (xsr sh t0 25 t1).length, xzerL J (xsr sh t0 25 t1).length)) rfl ⟨e0, (show 25 < (zdf 10).length by decide), (show ¬ ((64 : Int32) : Int32) < 0 by decide), (show ((64 : Int32) : Int32).toNatClampNeg ≤ 65536 by decide), Or.inl rfl⟩ (k)
set_option maxRecDepth 100000 in
theorem s_M_init_129 {d : Nat} {Q : xO → xH → Prop} {sh : List xS} {I : Nat → Nat → Int32} {J : Nat → Nat → Int64} {r0 : Nat} {t0 : Nat} {t1 : Nat}
    (e0 : xOb sh t0 10)
    (k : xG d zm_M_init (137, [some (.ref r0)], [.ref ((xsr sh t0 27 t1).length), .ref r0]) ((xsr sh t0 27 t1) ++ [.inl (.int, ((64 : Int32) : Int32).toNatClampNeg)], xzer I (xsr sh t0 27 t1).length, xzerL J (xsr sh t0 27 t1).length) Q) :
    xG d zm_M_init (129, [some (.ref r0)], [.ref t1, .ref t0]) (sh, I, J) Q := by
  exact xG_N 4 (ps := [xOb sh t0 10, 27 < (zdf 10).length, ¬ ((64 : Int32) : Int32) < 0, ((64 : Int32) : Int32).toNatClampNeg ≤ 65536, newarray.typeOf .int = .int ∨ newarray.typeOf .int = .boolean ∨ newarray.typeOf .int = .long]) (f1 := (137, [some (.ref r0)], [.ref ((xsr sh t0 27 t1).length), .ref r0])) (h1 := ((xsr sh t0 27 t1) ++ [.inl (.int, ((64 : Int32) : Int32).toNatClampNeg)], xzer I (xsr sh t0 27 t1).length, xzerL J (xsr sh t0 27 t1).length)) rfl ⟨e0, (show 27 < (zdf 10).length by decide), (show ¬ ((64 : Int32) : Int32) < 0 by decide), (show ((64 : Int32) : Int32).toNatClampNeg ≤ 65536 by decide), Or.inl rfl⟩ (k)
set_option maxRecDepth 100000 in
theorem s_M_init_137 {d : Nat} {Q : xO → xH → Prop} {sh : List xS} {I : Nat → Nat → Int32} {J : Nat → Nat → Int64} {r0 : Nat} {t0 : Nat} {t1 : Nat}
    (e0 : xOb sh t0 10)
    (k : xG d zm_M_init (145, [some (.ref r0)], [.ref ((xsr sh t0 28 t1).length), .ref r0]) ((xsr sh t0 28 t1) ++ [.inl (.int, ((64 : Int32) : Int32).toNatClampNeg)], xzer I (xsr sh t0 28 t1).length, xzerL J (xsr sh t0 28 t1).length) Q) :
    xG d zm_M_init (137, [some (.ref r0)], [.ref t1, .ref t0]) (sh, I, J) Q := by
  exact xG_N 4 (ps := [xOb sh t0 10, 28 < (zdf 10).length, ¬ ((64 : Int32) : Int32) < 0, ((64 : Int32) : Int32).toNatClampNeg ≤ 65536, newarray.typeOf .int = .int ∨ newarray.typeOf .int = .boolean ∨ newarray.typeOf .int = .long]) (f1 := (145, [some (.ref r0)], [.ref ((xsr sh t0 28 t1).length), .ref r0])) (h1 := ((xsr sh t0 28 t1) ++ [.inl (.int, ((64 : Int32) : Int32).toNatClampNeg)], xzer I (xsr sh t0 28 t1).length, xzerL J (xsr sh t0 28 t1).length)) rfl ⟨e0, (show 28 < (zdf 10).length by decide), (show ¬ ((64 : Int32) : Int32) < 0 by decide), (show ((64 : Int32) : Int32).toNatClampNeg ≤ 65536 by decide), Or.inl rfl⟩ (k)
set_option maxRecDepth 100000 in
theorem s_M_init_145 {d : Nat} {Q : xO → xH → Prop} {sh : List xS} {I : Nat → Nat → Int32} {J : Nat → Nat → Int64} {r0 : Nat} {t0 : Nat} {t1 : Nat}
    (e0 : xOb sh t0 10)
    (k : xG d zm_M_init (154, [some (.ref r0)], [.ref ((xsr sh t0 29 t1).length), .ref r0]) ((xsr sh t0 29 t1) ++ [.inl (.int, ((296 : Int32) : Int32).toNatClampNeg)], xzer I (xsr sh t0 29 t1).length, xzerL J (xsr sh t0 29 t1).length) Q) :
    xG d zm_M_init (145, [some (.ref r0)], [.ref t1, .ref t0]) (sh, I, J) Q := by
  exact xG_N 4 (ps := [xOb sh t0 10, 29 < (zdf 10).length, ¬ ((296 : Int32) : Int32) < 0, ((296 : Int32) : Int32).toNatClampNeg ≤ 65536, newarray.typeOf .int = .int ∨ newarray.typeOf .int = .boolean ∨ newarray.typeOf .int = .long]) (f1 := (154, [some (.ref r0)], [.ref ((xsr sh t0 29 t1).length), .ref r0])) (h1 := ((xsr sh t0 29 t1) ++ [.inl (.int, ((296 : Int32) : Int32).toNatClampNeg)], xzer I (xsr sh t0 29 t1).length, xzerL J (xsr sh t0 29 t1).length)) rfl ⟨e0, (show 29 < (zdf 10).length by decide), (show ¬ ((296 : Int32) : Int32) < 0 by decide), (show ((296 : Int32) : Int32).toNatClampNeg ≤ 65536 by decide), Or.inl rfl⟩ (k)
set_option maxRecDepth 100000 in
theorem s_M_init_154 {d : Nat} {Q : xO → xH → Prop} {sh : List xS} {I : Nat → Nat → Int32} {J : Nat → Nat → Int64} {r0 : Nat} {t0 : Nat} {t1 : Nat}
    (e0 : xOb sh t0 10)
    (k : xG d zm_M_init (163, [some (.ref r0)], [.ref ((xsr sh t0 31 t1).length), .ref r0]) ((xsr sh t0 31 t1) ++ [.inl (.int, ((296 : Int32) : Int32).toNatClampNeg)], xzer I (xsr sh t0 31 t1).length, xzerL J (xsr sh t0 31 t1).length) Q) :
    xG d zm_M_init (154, [some (.ref r0)], [.ref t1, .ref t0]) (sh, I, J) Q := by
  exact xG_N 4 (ps := [xOb sh t0 10, 31 < (zdf 10).length, ¬ ((296 : Int32) : Int32) < 0, ((296 : Int32) : Int32).toNatClampNeg ≤ 65536, newarray.typeOf .int = .int ∨ newarray.typeOf .int = .boolean ∨ newarray.typeOf .int = .long]) (f1 := (163, [some (.ref r0)], [.ref ((xsr sh t0 31 t1).length), .ref r0])) (h1 := ((xsr sh t0 31 t1) ++ [.inl (.int, ((296 : Int32) : Int32).toNatClampNeg)], xzer I (xsr sh t0 31 t1).length, xzerL J (xsr sh t0 31 t1).length)) rfl ⟨e0, (show 31 < (zdf 10).length by decide), (show ¬ ((296 : Int32) : Int32) < 0 by decide), (show ((296 : Int32) : Int32).toNatClampNeg ≤ 65536 by decide), Or.inl rfl⟩ (k)
set_option maxRecDepth 100000 in
theorem s_M_init_163 {d : Nat} {Q : xO → xH → Prop} {sh : List xS} {I : Nat → Nat → Int32} {J : Nat → Nat → Int64} {r0 : Nat} {t0 : Nat} {t1 : Nat}
    (e0 : xOb sh t0 10)
    (k : xG d zm_M_init (171, [some (.ref r0)], [.ref ((xsr sh t0 32 t1).length), .ref r0]) ((xsr sh t0 32 t1) ++ [.inl (.int, ((7 : Int32) : Int32).toNatClampNeg)], xzer I (xsr sh t0 32 t1).length, xzerL J (xsr sh t0 32 t1).length) Q) :
    xG d zm_M_init (163, [some (.ref r0)], [.ref t1, .ref t0]) (sh, I, J) Q := by
  exact xG_N 4 (ps := [xOb sh t0 10, 32 < (zdf 10).length, ¬ ((7 : Int32) : Int32) < 0, ((7 : Int32) : Int32).toNatClampNeg ≤ 65536, newarray.typeOf .int = .int ∨ newarray.typeOf .int = .boolean ∨ newarray.typeOf .int = .long]) (f1 := (171, [some (.ref r0)], [.ref ((xsr sh t0 32 t1).length), .ref r0])) (h1 := ((xsr sh t0 32 t1) ++ [.inl (.int, ((7 : Int32) : Int32).toNatClampNeg)], xzer I (xsr sh t0 32 t1).length, xzerL J (xsr sh t0 32 t1).length)) rfl ⟨e0, (show 32 < (zdf 10).length by decide), (show ¬ ((7 : Int32) : Int32) < 0 by decide), (show ((7 : Int32) : Int32).toNatClampNeg ≤ 65536 by decide), Or.inl rfl⟩ (k)
set_option maxRecDepth 100000 in
theorem s_M_init_171 {d : Nat} {Q : xO → xH → Prop} {sh : List xS} {I : Nat → Nat → Int32} {J : Nat → Nat → Int64} {r0 : Nat} {t0 : Nat} {t1 : Nat}
    (e0 : xOb sh t0 10)
    (k : xG d zm_M_init (179, [some (.ref r0)], [.ref ((xsr sh t0 35 t1).length), .ref r0]) ((xsr sh t0 35 t1) ++ [.inl (.int, ((19 : Int32) : Int32).toNatClampNeg)], xzer I (xsr sh t0 35 t1).length, xzerL J (xsr sh t0 35 t1).length) Q) :
    xG d zm_M_init (171, [some (.ref r0)], [.ref t1, .ref t0]) (sh, I, J) Q := by
  exact xG_N 4 (ps := [xOb sh t0 10, 35 < (zdf 10).length, ¬ ((19 : Int32) : Int32) < 0, ((19 : Int32) : Int32).toNatClampNeg ≤ 65536, newarray.typeOf .int = .int ∨ newarray.typeOf .int = .boolean ∨ newarray.typeOf .int = .long]) (f1 := (179, [some (.ref r0)], [.ref ((xsr sh t0 35 t1).length), .ref r0])) (h1 := ((xsr sh t0 35 t1) ++ [.inl (.int, ((19 : Int32) : Int32).toNatClampNeg)], xzer I (xsr sh t0 35 t1).length, xzerL J (xsr sh t0 35 t1).length)) rfl ⟨e0, (show 35 < (zdf 10).length by decide), (show ¬ ((19 : Int32) : Int32) < 0 by decide), (show ((19 : Int32) : Int32).toNatClampNeg ≤ 65536 by decide), Or.inl rfl⟩ (k)
set_option maxRecDepth 100000 in
theorem s_M_init_179 {d : Nat} {Q : xO → xH → Prop} {sh : List xS} {I : Nat → Nat → Int32} {J : Nat → Nat → Int64} {r0 : Nat} {t0 : Nat} {t1 : Nat} {n1 : Nat}
    (e0 : xAr sh t1 .int n1)
    (e1 : 4 ≤ t1)
    (e2 : vp_in (0 : Int32) n1)
    (e3 : vp_in (1 : Int32) n1)
    (e4 : vp_in (2 : Int32) n1)
    (e5 : vp_in (3 : Int32) n1)
    (e6 : vp_in (4 : Int32) n1)
    (e7 : vp_in (5 : Int32) n1)
    (e8 : vp_in (6 : Int32) n1)
    (k : xG d zm_M_init (213, [some (.ref r0)], [.int (7 : Int32), .ref t1, .ref t1, .ref t0]) (sh, xup (xup (xup (xup (xup (xup (xup I t1 0 (17 : Int32)) t1 1 (18 : Int32)) t1 2 (0 : Int32)) t1 3 (1 : Int32)) t1 4 (2 : Int32)) t1 5 (3 : Int32)) t1 6 (4 : Int32), J) Q) :
    xG d zm_M_init (179, [some (.ref r0)], [.ref t1, .ref t0]) (sh, I, J) Q := by
  obtain rfl := e0.eq
  exact xG_N 30 (ps := [xW sh t1 .int, vp_in (0 : Int32) (xlen sh t1), xW sh t1 .int, vp_in (1 : Int32) (xlen sh t1), xW sh t1 .int, vp_in (2 : Int32) (xlen sh t1), xW sh t1 .int, vp_in (3 : Int32) (xlen sh t1), xW sh t1 .int, vp_in (4 : Int32) (xlen sh t1), xW sh t1 .int, vp_in (5 : Int32) (xlen sh t1), xW sh t1 .int, vp_in (6 : Int32) (xlen sh t1)]) (f1 := (213, [some (.ref r0)], [.int (7 : Int32), .ref t1, .ref t1, .ref t0])) (h1 := (sh, xup (xup (xup (xup (xup (xup (xup I t1 0 (17 : Int32)) t1 1 (18 : Int32)) t1 2 (0 : Int32)) t1 3 (1 : Int32)) t1 4 (2 : Int32)) t1 5 (3 : Int32)) t1 6 (4 : Int32), J)) rfl ⟨⟨e0.ar, e1⟩, e2, ⟨e0.ar, e1⟩, e3, ⟨e0.ar, e1⟩, e4, ⟨e0.ar, e1⟩, e5, ⟨e0.ar, e1⟩, e6, ⟨e0.ar, e1⟩, e7, ⟨e0.ar, e1⟩, e8⟩ (k)
set_option maxRecDepth 100000 in
theorem s_M_init_213 {d : Nat} {Q : xO → xH → Prop} {sh : List xS} {I : Nat → Nat → Int32} {J : Nat → Nat → Int64} {r0 : Nat} {t0 : Nat} {t1 : Nat} {t2 : Nat} {t3 : Int32} {n1 : Nat} {n2 : Nat}
    (e0 : xAr sh t2 .int n1)
    (e1 : 4 ≤ t2)
    (e2 : vp_in t3 n1)
    (e3 : xAr sh t1 .int n2)
    (e4 : 4 ≤ t1)
    (e5 : vp_in (8 : Int32) n2)
    (e6 : vp_in (9 : Int32) n2)
    (e7 : vp_in (10 : Int32) n2)
    (e8 : vp_in (11 : Int32) n2)
    (e9 : vp_in (12 : Int32) n2)
    (e10 : vp_in (13 : Int32) n2)
    (e11 : vp_in (14 : Int32) n2)
    (k : xG d zm_M_init (257, [some (.ref r0)], [.ref t1, .ref t0]) (sh, xup (xup (xup (xup (xup (xup (xup (xup I t2 t3.toNatClampNeg (5 : Int32)) t1 8 (16 : Int32)) t1 9 (6 : Int32)) t1 10 (7 : Int32)) t1 11 (8 : Int32)) t1 12 (9 : Int32)) t1 13 (10 : Int32)) t1 14 (11 : Int32), J) Q) :
    xG d zm_M_init (213, [some (.ref r0)], [.int t3, .ref t2, .ref t1, .ref t0]) (sh, I, J) Q := by
  obtain rfl := e0.eq
  obtain rfl := e3.eq
  exact xG_N 30 (ps := [xW sh t2 .int, vp_in t3 (xlen sh t2), xW sh t1 .int, vp_in (8 : Int32) (xlen sh t1), xW sh t1 .int, vp_in (9 : Int32) (xlen sh t1), xW sh t1 .int, vp_in (10 : Int32) (xlen sh t1), xW sh t1 .int, vp_in (11 : Int32) (xlen sh t1), xW sh t1 .int, vp_in (12 : Int32) (xlen sh t1), xW sh t1 .int, vp_in (13 : Int32) (xlen sh t1), xW sh t1 .int, vp_in (14 : Int32) (xlen sh t1)]) (f1 := (257, [some (.ref r0)], [.ref t1, .ref t0])) (h1 := (sh, xup (xup (xup (xup (xup (xup (xup (xup I t2 t3.toNatClampNeg (5 : Int32)) t1 8 (16 : Int32)) t1 9 (6 : Int32)) t1 10 (7 : Int32)) t1 11 (8 : Int32)) t1 12 (9 : Int32)) t1 13 (10 : Int32)) t1 14 (11 : Int32), J)) rfl ⟨⟨e0.ar, e1⟩, e2, ⟨e3.ar, e4⟩, e5, ⟨e3.ar, e4⟩, e6, ⟨e3.ar, e4⟩, e7, ⟨e3.ar, e4⟩, e8, ⟨e3.ar, e4⟩, e9, ⟨e3.ar, e4⟩, e10, ⟨e3.ar, e4⟩, e11⟩ (k)
set_option maxRecDepth 100000 in
theorem s_M_init_257 {d : Nat} {Q : xO → xH → Prop} {sh : List xS} {I : Nat → Nat → Int32} {J : Nat → Nat → Int64} {r0 : Nat} {t0 : Nat} {t1 : Nat} {n1 : Nat}
    (e0 : xAr sh t1 .int n1)
    (e1 : 4 ≤ t1)
    (e2 : vp_in (15 : Int32) n1)
    (e3 : vp_in (16 : Int32) n1)
    (e4 : vp_in (17 : Int32) n1)
    (e5 : vp_in (18 : Int32) n1)
    (e6 : xOb sh t0 10)
    (e7 : xOb (xsr sh t0 36 t1) r0 10)
    (k : Q (.inl (none)) (xsr sh t0 36 t1, xup (xup (xup (xup (xup (xup I t1 15 (12 : Int32)) t1 16 (13 : Int32)) t1 17 (14 : Int32)) t1 18 (15 : Int32)) r0 1 (1 : Int32)) r0 2 (1 : Int32), J)) :
    xG d zm_M_init (257, [some (.ref r0)], [.ref t1, .ref t0]) (sh, I, J) Q := by
  obtain rfl := e0.eq
  exact xG_N 23 (ps := [xW sh t1 .int, vp_in (15 : Int32) (xlen sh t1), xW sh t1 .int, vp_in (16 : Int32) (xlen sh t1), xW sh t1 .int, vp_in (17 : Int32) (xlen sh t1), xW sh t1 .int, vp_in (18 : Int32) (xlen sh t1), xOb sh t0 10, 36 < (zdf 10).length, xOb (xsr sh t0 36 t1) r0 10, xOb (xsr sh t0 36 t1) r0 10]) (f1 := (294, [some (.ref r0)], [])) (h1 := (xsr sh t0 36 t1, xup (xup (xup (xup (xup (xup I t1 15 (12 : Int32)) t1 16 (13 : Int32)) t1 17 (14 : Int32)) t1 18 (15 : Int32)) r0 1 (1 : Int32)) r0 2 (1 : Int32), J)) rfl ⟨⟨e0.ar, e1⟩, e2, ⟨e0.ar, e1⟩, e3, ⟨e0.ar, e1⟩, e4, ⟨e0.ar, e1⟩, e5, e6, (show 36 < (zdf 10).length by decide), e7, e7⟩ (xG_Q rfl rfl trivial k)
set_option maxRecDepth 100000 in
theorem s_M_thrown_0 {d : Nat} {Q : xO → xH → Prop} {sh : List xS} {I : Nat → Nat → Int32} {J : Nat → Nat → Int64} {r0 : Nat}
    (e0 : xOb sh r0 10)
    (k : Q (.inl (some (.int (I r0 0)))) (sh, I, J)) :
    xG d zm_M_thrown (0, [some (.ref r0)], []) (sh, I, J) Q := by
  exact xG_N 2 (ps := [xOb sh r0 10]) (f1 := (4, [some (.ref r0)], [.int (I r0 0)])) (h1 := (sh, I, J)) rfl e0 (xG_Q rfl rfl trivial k)
set_option maxRecDepth 100000 in
theorem s_M_size_0 {d : Nat} {Q : xO → xH → Prop} {sh : List xS} {I : Nat → Nat → Int32} {J : Nat → Nat → Int64} {r0 : Nat} {v1 : Int32} {v2 : Int32}
    (k1 : v1 < (1 : Int32) → xG d zm_M_size (23, [some (.ref r0), some (.int v1), some (.int v2), none], [.ref r0]) (sh, I, J) Q)
    (k2 : ¬ (v1 < (1 : Int32)) → xG d zm_M_size (6, [some (.ref r0), some (.int v1), some (.int v2), none], [.ref r0]) (sh, I, J) Q) :
    xG d zm_M_size (0, [some (.ref r0), some (.int v1), some (.int v2), none], []) (sh, I, J) Q := by
  exact xG_N 3 (ps := []) (f1 := (3, [some (.ref r0), some (.int v1), some (.int v2), none], [.int (1 : Int32), .int v1, .ref r0])) (h1 := (sh, I, J)) rfl trivial (xG_B rfl rfl k1 k2)
set_option maxRecDepth 100000 in
theorem s_M_size_6 {d : Nat} {Q : xO → xH → Prop} {sh : List xS} {I : Nat → Nat → Int32} {J : Nat → Nat → Int64} {r0 : Nat} {v1 : Int32} {v2 : Int32} {t0 : Nat}
    (k1 : (8 : Int32) < v1 → xG d zm_M_size (23, [some (.ref r0), some (.int v1), some (.int v2), none], [.ref t0]) (sh, I, J) Q)
    (k2 : ¬ ((8 : Int32) < v1) → xG d zm_M_size (12, [some (.ref r0), some (.int v1), some (.int v2), none], [.ref t0]) (sh, I, J) Q) :
    xG d zm_M_size (6, [some (.ref r0), some (.int v1), some (.int v2), none], [.ref t0]) (sh, I, J) Q := by
  exact xG_N 2 (ps := []) (f1 := (9, [some (.ref r0), some (.int v1), some (.int v2), none], [.int (8 : Int32), .int v1, .ref t0])) (h1 := (sh, I, J)) rfl trivial (xG_B rfl rfl k1 k2)
set_option maxRecDepth 100000 in
theorem s_M_size_12 {d : Nat} {Q : xO → xH → Prop} {sh : List xS} {I : Nat → Nat → Int32} {J : Nat → Nat → Int64} {r0 : Nat} {v1 : Int32} {v2 : Int32} {t0 : Nat}
    (k1 : v2 < (1 : Int32) → xG d zm_M_size (23, [some (.ref r0), some (.int v1), some (.int v2), none], [.ref t0]) (sh, I, J) Q)
    (k2 : ¬ (v2 < (1 : Int32)) → xG d zm_M_size (17, [some (.ref r0), some (.int v1), some (.int v2), none], [.ref t0]) (sh, I, J) Q) :
    xG d zm_M_size (12, [some (.ref r0), some (.int v1), some (.int v2), none], [.ref t0]) (sh, I, J) Q := by
  exact xG_N 2 (ps := []) (f1 := (14, [some (.ref r0), some (.int v1), some (.int v2), none], [.int (1 : Int32), .int v2, .ref t0])) (h1 := (sh, I, J)) rfl trivial (xG_B rfl rfl k1 k2)
set_option maxRecDepth 100000 in
theorem s_M_size_17 {d : Nat} {Q : xO → xH → Prop} {sh : List xS} {I : Nat → Nat → Int32} {J : Nat → Nat → Int64} {r0 : Nat} {v1 : Int32} {v2 : Int32} {t0 : Nat}
    (k1 : v2 ≤ (8 : Int32) → xG d zm_M_size (27, [some (.ref r0), some (.int v1), some (.int v2), none], [.ref t0]) (sh, I, J) Q)
    (k2 : ¬ (v2 ≤ (8 : Int32)) → xG d zm_M_size (23, [some (.ref r0), some (.int v1), some (.int v2), none], [.ref t0]) (sh, I, J) Q) :
    xG d zm_M_size (17, [some (.ref r0), some (.int v1), some (.int v2), none], [.ref t0]) (sh, I, J) Q := by
  exact xG_N 2 (ps := []) (f1 := (20, [some (.ref r0), some (.int v1), some (.int v2), none], [.int (8 : Int32), .int v2, .ref t0])) (h1 := (sh, I, J)) rfl trivial (xG_B rfl rfl k1 k2)
set_option maxRecDepth 100000 in
theorem s_M_size_23 {d : Nat} {Q : xO → xH → Prop} {sh : List xS} {I : Nat → Nat → Int32} {J : Nat → Nat → Int64} {r0 : Nat} {v1 : Int32} {v2 : Int32} {t0 : Nat}
    (e0 : xOb sh t0 10)
    (e1 : xOb sh r0 10)
    (k1 : ((xup I t0 0 (1 : Int32)) r0 0) ≤ 0 → xG d zm_M_size (40, [some (.ref r0), some (.int v1), some (.int v2), none], []) (sh, xup I t0 0 (1 : Int32), J) Q)
    (k2 : ¬ (((xup I t0 0 (1 : Int32)) r0 0) ≤ 0) → xG d zm_M_size (38, [some (.ref r0), some (.int v1), some (.int v2), none], []) (sh, xup I t0 0 (1 : Int32), J) Q) :
    xG d zm_M_size (23, [some (.ref r0), some (.int v1), some (.int v2), none], [.ref t0]) (sh, I, J) Q := by
  exact xG_N 5 (ps := [xOb sh t0 10, xOb sh r0 10]) (f1 := (35, [some (.ref r0), some (.int v1), some (.int v2), none], [.int ((xup I t0 0 (1 : Int32)) r0 0)])) (h1 := (sh, xup I t0 0 (1 : Int32), J)) rfl ⟨e0, e1⟩ (xG_B rfl rfl k1 k2)
set_option maxRecDepth 100000 in
theorem s_M_size_27 {d : Nat} {Q : xO → xH → Prop} {sh : List xS} {I : Nat → Nat → Int32} {J : Nat → Nat → Int64} {r0 : Nat} {v1 : Int32} {v2 : Int32} {t0 : Nat}
    (e0 : xOb sh t0 10)
    (e1 : xOb sh r0 10)
    (k1 : ((xup I t0 0 (0 : Int32)) r0 0) ≤ 0 → xG d zm_M_size (40, [some (.ref r0), some (.int v1), some (.int v2), none], []) (sh, xup I t0 0 (0 : Int32), J) Q)
    (k2 : ¬ (((xup I t0 0 (0 : Int32)) r0 0) ≤ 0) → xG d zm_M_size (38, [some (.ref r0), some (.int v1), some (.int v2), none], []) (sh, xup I t0 0 (0 : Int32), J) Q) :
    xG d zm_M_size (27, [some (.ref r0), some (.int v1), some (.int v2), none], [.ref t0]) (sh, I, J) Q := by
  exact xG_N 4 (ps := [xOb sh t0 10, xOb sh r0 10]) (f1 := (35, [some (.ref r0), some (.int v1), some (.int v2), none], [.int ((xup I t0 0 (0 : Int32)) r0 0)])) (h1 := (sh, xup I t0 0 (0 : Int32), J)) rfl ⟨e0, e1⟩ (xG_B rfl rfl k1 k2)
set_option maxRecDepth 100000 in
theorem s_M_size_38 {d : Nat} {Q : xO → xH → Prop} {sh : List xS} {I : Nat → Nat → Int32} {J : Nat → Nat → Int64} {r0 : Nat} {v1 : Int32} {v2 : Int32}
    (k : Q (.inl (some (.int (0 : Int32)))) (sh, I, J)) :
    xG d zm_M_size (38, [some (.ref r0), some (.int v1), some (.int v2), none], []) (sh, I, J) Q := by
  exact xG_N 1 (ps := []) (f1 := (39, [some (.ref r0), some (.int v1), some (.int v2), none], [.int (0 : Int32)])) (h1 := (sh, I, J)) rfl trivial (xG_Q rfl rfl trivial k)
set_option maxRecDepth 100000 in
theorem s_M_size_40 {d : Nat} {Q : xO → xH → Prop} {sh : List xS} {I : Nat → Nat → Int32} {J : Nat → Nat → Int64} {r0 : Nat} {v1 : Int32} {v2 : Int32}
    (e0 : xOb sh r0 10)
    (k : xG d zm_M_size (52, [some (.ref r0), some (.int v1), some (.int v2), some (.int (0 : Int32))], []) (sh, xup (xup I r0 1 v1) r0 2 v2, J) Q) :
    xG d zm_M_size (40, [some (.ref r0), some (.int v1), some (.int v2), none], []) (sh, I, J) Q := by
  exact xG_N 8 (ps := [xOb sh r0 10, xOb sh r0 10]) (f1 := (52, [some (.ref r0), some (.int v1), some (.int v2), some (.int (0 : Int32))], [])) (h1 := (sh, xup (xup I r0 1 v1) r0 2 v2, J)) rfl ⟨e0, e0⟩ (k)
set_option maxRecDepth 100000 in
theorem s_M_size_52 {d : Nat} {Q : xO → xH → Prop} {sh : List xS} {I : Nat → Nat → Int32} {J : Nat → Nat → Int64} {r0 : Nat} {v1 : Int32} {v2 : Int32} {v3 : Int32}
    (k1 : (64 : Int32) ≤ v3 → xG d zm_M_size (71, [some (.ref r0), some (.int v1), some (.int v2), some (.int v3)], []) (sh, I, J) Q)
    (k2 : ¬ ((64 : Int32) ≤ v3) → xG d zm_M_size (58, [some (.ref r0), some (.int v1), some (.int v2), some (.int v3)], []) (sh, I, J) Q) :
    xG d zm_M_size (52, [some (.ref r0), some (.int v1), some (.int v2), some (.int v3)], []) (sh, I, J) Q := by
  exact xG_N 2 (ps := []) (f1 := (55, [some (.ref r0), some (.int v1), some (.int v2), some (.int v3)], [.int (64 : Int32), .int v3])) (h1 := (sh, I, J)) rfl trivial (xG_B rfl rfl k1 k2)
set_option maxRecDepth 100000 in
theorem s_M_size_58 {d : Nat} {Q : xO → xH → Prop} {sh : List xS} {I : Nat → Nat → Int32} {J : Nat → Nat → Int64} {r0 : Nat} {v1 : Int32} {v2 : Int32} {v3 : Int32} {a1 : Nat} {n2 : Nat}
    (e0 : xRr sh r0 10 3 a1)
    (e1 : xAr sh a1 .int n2)
    (e2 : 4 ≤ a1)
    (e3 : vp_in v3 n2)
    (k : xG d zm_M_size (52, [some (.ref r0), some (.int v1), some (.int v2), some (.int (v3 + (1 : Int32)))], []) (sh, xup I a1 v3.toNatClampNeg (0 : Int32), J) Q) :
    xG d zm_M_size (58, [some (.ref r0), some (.int v1), some (.int v2), some (.int v3)], []) (sh, I, J) Q := by
  obtain rfl := e0.eq
  obtain rfl := e1.eq
  exact xG_N 7 (ps := [xRf sh r0 10 3, xW sh (xrf sh r0 3) .int, vp_in v3 (xlen sh (xrf sh r0 3))]) (f1 := (52, [some (.ref r0), some (.int v1), some (.int v2), some (.int (v3 + (1 : Int32)))], [])) (h1 := (sh, xup I (xrf sh r0 3) v3.toNatClampNeg (0 : Int32), J)) rfl ⟨e0.rf, ⟨e1.ar, e2⟩, e3⟩ (k)
set_option maxRecDepth 100000 in
theorem s_M_size_71 {d : Nat} {Q : xO → xH → Prop} {sh : List xS} {I : Nat → Nat → Int32} {J : Nat → Nat → Int64} {r0 : Nat} {v1 : Int32} {v2 : Int32} {v3 : Int32}
    (k : Q (.inl (some (.int (v1 * v2)))) (sh, I, J)) :
    xG d zm_M_size (71, [some (.ref r0), some (.int v1), some (.int v2), some (.int v3)], []) (sh, I, J) Q := by
  exact xG_N 3 (ps := []) (f1 := (74, [some (.ref r0), some (.int v1), some (.int v2), some (.int v3)], [.int (v1 * v2)])) (h1 := (sh, I, J)) rfl trivial (xG_Q rfl rfl trivial k)
set_option maxRecDepth 100000 in
theorem s_M_isPixel_0 {d : Nat} {Q : xO → xH → Prop} {sh : List xS} {I : Nat → Nat → Int32} {J : Nat → Nat → Int64} {r0 : Nat} {v1 : Int32} {v2 : Int32}
    (k1 : v1 < 0 → xG d zm_M_isPixel (28, [some (.ref r0), some (.int v1), some (.int v2)], []) (sh, I, J) Q)
    (k2 : ¬ (v1 < 0) → xG d zm_M_isPixel (4, [some (.ref r0), some (.int v1), some (.int v2)], []) (sh, I, J) Q) :
    xG d zm_M_isPixel (0, [some (.ref r0), some (.int v1), some (.int v2)], []) (sh, I, J) Q := by
  exact xG_N 1 (ps := []) (f1 := (1, [some (.ref r0), some (.int v1), some (.int v2)], [.int v1])) (h1 := (sh, I, J)) rfl trivial (xG_B rfl rfl k1 k2)
set_option maxRecDepth 100000 in
theorem s_M_isPixel_4 {d : Nat} {Q : xO → xH → Prop} {sh : List xS} {I : Nat → Nat → Int32} {J : Nat → Nat → Int64} {r0 : Nat} {v1 : Int32} {v2 : Int32}
    (e0 : xOb sh r0 10)
    (k1 : (I r0 1) ≤ v1 → xG d zm_M_isPixel (28, [some (.ref r0), some (.int v1), some (.int v2)], []) (sh, I, J) Q)
    (k2 : ¬ ((I r0 1) ≤ v1) → xG d zm_M_isPixel (12, [some (.ref r0), some (.int v1), some (.int v2)], []) (sh, I, J) Q) :
    xG d zm_M_isPixel (4, [some (.ref r0), some (.int v1), some (.int v2)], []) (sh, I, J) Q := by
  exact xG_N 3 (ps := [xOb sh r0 10]) (f1 := (9, [some (.ref r0), some (.int v1), some (.int v2)], [.int (I r0 1), .int v1])) (h1 := (sh, I, J)) rfl e0 (xG_B rfl rfl k1 k2)
set_option maxRecDepth 100000 in
theorem s_M_isPixel_12 {d : Nat} {Q : xO → xH → Prop} {sh : List xS} {I : Nat → Nat → Int32} {J : Nat → Nat → Int64} {r0 : Nat} {v1 : Int32} {v2 : Int32}
    (k1 : v2 < 0 → xG d zm_M_isPixel (28, [some (.ref r0), some (.int v1), some (.int v2)], []) (sh, I, J) Q)
    (k2 : ¬ (v2 < 0) → xG d zm_M_isPixel (16, [some (.ref r0), some (.int v1), some (.int v2)], []) (sh, I, J) Q) :
    xG d zm_M_isPixel (12, [some (.ref r0), some (.int v1), some (.int v2)], []) (sh, I, J) Q := by
  exact xG_N 1 (ps := []) (f1 := (13, [some (.ref r0), some (.int v1), some (.int v2)], [.int v2])) (h1 := (sh, I, J)) rfl trivial (xG_B rfl rfl k1 k2)
set_option maxRecDepth 100000 in
theorem s_M_isPixel_16 {d : Nat} {Q : xO → xH → Prop} {sh : List xS} {I : Nat → Nat → Int32} {J : Nat → Nat → Int64} {r0 : Nat} {v1 : Int32} {v2 : Int32}
    (e0 : xOb sh r0 10)
    (k1 : (I r0 2) ≤ v2 → xG d zm_M_isPixel (28, [some (.ref r0), some (.int v1), some (.int v2)], []) (sh, I, J) Q)
    (k2 : ¬ ((I r0 2) ≤ v2) → xG d zm_M_isPixel (24, [some (.ref r0), some (.int v1), some (.int v2)], []) (sh, I, J) Q) :
    xG d zm_M_isPixel (16, [some (.ref r0), some (.int v1), some (.int v2)], []) (sh, I, J) Q := by
  exact xG_N 3 (ps := [xOb sh r0 10]) (f1 := (21, [some (.ref r0), some (.int v1), some (.int v2)], [.int (I r0 2), .int v2])) (h1 := (sh, I, J)) rfl e0 (xG_B rfl rfl k1 k2)
set_option maxRecDepth 100000 in
theorem s_M_isPixel_24 {d : Nat} {Q : xO → xH → Prop} {sh : List xS} {I : Nat → Nat → Int32} {J : Nat → Nat → Int64} {r0 : Nat} {v1 : Int32} {v2 : Int32}
    (k : Q (.inl (some (.int (1 : Int32)))) (sh, I, J)) :
    xG d zm_M_isPixel (24, [some (.ref r0), some (.int v1), some (.int v2)], []) (sh, I, J) Q := by
  exact xG_N 2 (ps := []) (f1 := (29, [some (.ref r0), some (.int v1), some (.int v2)], [.int (1 : Int32)])) (h1 := (sh, I, J)) rfl trivial (xG_Q rfl rfl (show ((1 : Int32) : Int32) = 0 ∨ ((1 : Int32) : Int32) = 1 by decide) k)
set_option maxRecDepth 100000 in
theorem s_M_isPixel_28 {d : Nat} {Q : xO → xH → Prop} {sh : List xS} {I : Nat → Nat → Int32} {J : Nat → Nat → Int64} {r0 : Nat} {v1 : Int32} {v2 : Int32}
    (k : Q (.inl (some (.int (0 : Int32)))) (sh, I, J)) :
    xG d zm_M_isPixel (28, [some (.ref r0), some (.int v1), some (.int v2)], []) (sh, I, J) Q := by
  exact xG_N 1 (ps := []) (f1 := (29, [some (.ref r0), some (.int v1), some (.int v2)], [.int (0 : Int32)])) (h1 := (sh, I, J)) rfl trivial (xG_Q rfl rfl (show ((0 : Int32) : Int32) = 0 ∨ ((0 : Int32) : Int32) = 1 by decide) k)
set_option maxRecDepth 100000 in
theorem s_M_set_0 {d : Nat} {Q : xO → xH → Prop} {sh : List xS} {I : Nat → Nat → Int32} {J : Nat → Nat → Int64} {r0 : Nat} {v1 : Int32} {v2 : Int32} {v3 : Int32}
    (ko : xOb sh r0 10)
    (k : xg d qM_isPixel [.ref r0, .int v1, .int v2] (sh, I, J) (xI (fun v h1 => xG d zm_M_set (7, [some (.ref r0), some (.int v1), some (.int v2), some (.int v3), none], [.int v, .ref r0]) h1 Q) (fun x h1 => Q (.inr x) h1))) :
    xG d zm_M_set (0, [some (.ref r0), some (.int v1), some (.int v2), some (.int v3), none], []) (sh, I, J) Q := by
  exact xG_N 4 (ps := []) (f1 := (4, [some (.ref r0), some (.int v1), some (.int v2), some (.int v3), none], [.int v2, .int v1, .ref r0, .ref r0])) (h1 := (sh, I, J)) rfl trivial (xG_Ci rfl rfl (Nat.le_of_ble_eq_true rfl) (Nat.le_of_ble_eq_true rfl) ⟨_, _, rfl, ko⟩ rfl k)
set_option maxRecDepth 100000 in
theorem s_M_set_7 {d : Nat} {Q : xO → xH → Prop} {sh : List xS} {I : Nat → Nat → Int32} {J : Nat → Nat → Int64} {r0 : Nat} {v1 : Int32} {v2 : Int32} {v3 : Int32} {t0 : Nat} {t1 : Int32}
    (k1 : t1 = 0 → xG d zm_M_set (14, [some (.ref r0), some (.int v1), some (.int v2), some (.int v3), none], [.ref t0]) (sh, I, J) Q)
    (k2 : ¬ (t1 = 0) → xG d zm_M_set (10, [some (.ref r0), some (.int v1), some (.int v2), some (.int v3), none], [.ref t0]) (sh, I, J) Q) :
    xG d zm_M_set (7, [some (.ref r0), some (.int v1), some (.int v2), some (.int v3), none], [.int t1, .ref t0]) (sh, I, J) Q := by
  exact xG_B rfl rfl k1 k2
set_option maxRecDepth 100000 in
theorem s_M_set_10 {d : Nat} {Q : xO → xH → Prop} {sh : List xS} {I : Nat → Nat → Int32} {J : Nat → Nat → Int64} {r0 : Nat} {v1 : Int32} {v2 : Int32} {v3 : Int32} {t0 : Nat}
    (e0 : xOb sh t0 10)
    (e1 : xOb sh r0 10)
    (k1 : ((xup I t0 0 (0 : Int32)) r0 0) ≤ 0 → xG d zm_M_set (27, [some (.ref r0), some (.int v1), some (.int v2), some (.int v3), none], []) (sh, xup I t0 0 (0 : Int32), J) Q)
    (k2 : ¬ (((xup I t0 0 (0 : Int32)) r0 0) ≤ 0) → xG d zm_M_set (25, [some (.ref r0), some (.int v1), some (.int v2), some (.int v3), none], []) (sh, xup I t0 0 (0 : Int32), J) Q) :
    xG d zm_M_set (10, [some (.ref r0), some (.int v1), some (.int v2), some (.int v3), none], [.ref t0]) (sh, I, J) Q := by
  exact xG_N 5 (ps := [xOb sh t0 10, xOb sh r0 10]) (f1 := (22, [some (.ref r0), some (.int v1), some (.int v2), some (.int v3), none], [.int ((xup I t0 0 (0 : Int32)) r0 0)])) (h1 := (sh, xup I t0 0 (0 : Int32), J)) rfl ⟨e0, e1⟩ (xG_B rfl rfl k1 k2)
set_option maxRecDepth 100000 in
theorem s_M_set_14 {d : Nat} {Q : xO → xH → Prop} {sh : List xS} {I : Nat → Nat → Int32} {J : Nat → Nat → Int64} {r0 : Nat} {v1 : Int32} {v2 : Int32} {v3 : Int32} {t0 : Nat}
    (e0 : xOb sh t0 10)
    (e1 : xOb sh r0 10)
    (k1 : ((xup I t0 0 (1 : Int32)) r0 0) ≤ 0 → xG d zm_M_set (27, [some (.ref r0), some (.int v1), some (.int v2), some (.int v3), none], []) (sh, xup I t0 0 (1 : Int32), J) Q)
    (k2 : ¬ (((xup I t0 0 (1 : Int32)) r0 0) ≤ 0) → xG d zm_M_set (25, [some (.ref r0), some (.int v1), some (.int v2), some (.int v3), none], []) (sh, xup I t0 0 (1 : Int32), J) Q) :
    xG d zm_M_set (14, [some (.ref r0), some (.int v1), some (.int v2), some (.int v3), none], [.ref t0]) (sh, I, J) Q := by
  exact xG_N 4 (ps := [xOb sh t0 10, xOb sh r0 10]) (f1 := (22, [some (.ref r0), some (.int v1), some (.int v2), some (.int v3), none], [.int ((xup I t0 0 (1 : Int32)) r0 0)])) (h1 := (sh, xup I t0 0 (1 : Int32), J)) rfl ⟨e0, e1⟩ (xG_B rfl rfl k1 k2)
set_option maxRecDepth 100000 in
theorem s_M_set_25 {d : Nat} {Q : xO → xH → Prop} {sh : List xS} {I : Nat → Nat → Int32} {J : Nat → Nat → Int64} {r0 : Nat} {v1 : Int32} {v2 : Int32} {v3 : Int32}
    (k : Q (.inl (some (.int (0 : Int32)))) (sh, I, J)) :
    xG d zm_M_set (25, [some (.ref r0), some (.int v1), some (.int v2), some (.int v3), none], []) (sh, I, J) Q := by
  exact xG_N 1 (ps := []) (f1 := (26, [some (.ref r0), some (.int v1), some (.int v2), some (.int v3), none], [.int (0 : Int32)])) (h1 := (sh, I, J)) rfl trivial (xG_Q rfl rfl trivial k)
set_option maxRecDepth 100000 in
theorem s_M_set_27 {d : Nat} {Q : xO → xH → Prop} {sh : List xS} {I : Nat → Nat → Int32} {J : Nat → Nat → Int64} {r0 : Nat} {v1 : Int32} {v2 : Int32} {v3 : Int32} {a1 : Nat} {n2 : Nat}
    (e0 : xRr sh r0 10 3 a1)
    (e1 : xAr sh a1 .int n2)
    (e2 : vp_in ((v2 * (I r0 1)) + v1) n2)
    (e3 : 4 ≤ a1)
    (k : Q (.inl (some (.int (I a1 ((v2 * (I r0 1)) + v1).toNatClampNeg)))) (sh, xup I a1 ((v2 * (I r0 1)) + v1).toNatClampNeg v3, J)) :
    xG d zm_M_set (27, [some (.ref r0), some (.int v1), some (.int v2), some (.int v3), none], []) (sh, I, J) Q := by
  obtain rfl := e0.eq
  obtain rfl := e1.eq
  exact xG_N 21 (ps := [xRf sh r0 10 3, xOb sh r0 10, xA sh (xrf sh r0 3) .int, vp_in ((v2 * (I r0 1)) + v1) (xlen sh (xrf sh r0 3)), xRf sh r0 10 3, xOb sh r0 10, xW sh (xrf sh r0 3) .int, vp_in ((v2 * (I r0 1)) + v1) (xlen sh (xrf sh r0 3))]) (f1 := (58, [some (.ref r0), some (.int v1), some (.int v2), some (.int v3), some (.int (I (xrf sh r0 3) ((v2 * (I r0 1)) + v1).toNatClampNeg))], [.int (I (xrf sh r0 3) ((v2 * (I r0 1)) + v1).toNatClampNeg)])) (h1 := (sh, xup I (xrf sh r0 3) ((v2 * (I r0 1)) + v1).toNatClampNeg v3, J)) rfl ⟨e0.rf, e0.ob, e1.ar, e2, e0.rf, e0.ob, ⟨e1.ar, e3⟩, e2⟩ (xG_Q rfl rfl trivial k)
set_option maxRecDepth 100000 in
theorem s_M_pixel_0 {d : Nat} {Q : xO → xH → Prop} {sh : List xS} {I : Nat → Nat → Int32} {J : Nat → Nat → Int64} {r0 : Nat} {v1 : Int32} {v2 : Int32}
    (ko : xOb sh r0 10)
    (k : xg d qM_isPixel [.ref r0, .int v1, .int v2] (sh, I, J) (xI (fun v h1 => xG d zm_M_pixel (7, [some (.ref r0), some (.int v1), some (.int v2)], [.int v, .ref r0]) h1 Q) (fun x h1 => Q (.inr x) h1))) :
    xG d zm_M_pixel (0, [some (.ref r0), some (.int v1), some (.int v2)], []) (sh, I, J) Q := by
  exact xG_N 4 (ps := []) (f1 := (4, [some (.ref r0), some (.int v1), some (.int v2)], [.int v2, .int v1, .ref r0, .ref r0])) (h1 := (sh, I, J)) rfl trivial (xG_Ci rfl rfl (Nat.le_of_ble_eq_true rfl) (Nat.le_of_ble_eq_true rfl) ⟨_, _, rfl, ko⟩ rfl k)
set_option maxRecDepth 100000 in
theorem s_M_pixel_7 {d : Nat} {Q : xO → xH → Prop} {sh : List xS} {I : Nat → Nat → Int32} {J : Nat → Nat → Int64} {r0 : Nat} {v1 : Int32} {v2 : Int32} {t0 : Nat} {t1 : Int32}
    (k1 : t1 = 0 → xG d zm_M_pixel (14, [some (.ref r0), some (.int v1), some (.int v2)], [.ref t0]) (sh, I, J) Q)
    (k2 : ¬ (t1 = 0) → xG d zm_M_pixel (10, [some (.ref r0), some (.int v1), some (.int v2)], [.ref t0]) (sh, I, J) Q) :
    xG d zm_M_pixel (7, [some (.ref r0), some (.int v1), some (.int v2)], [.int t1, .ref t0]) (sh, I, J) Q := by
  exact xG_B rfl rfl k1 k2
set_option maxRecDepth 100000 in
theorem s_M_pixel_10 {d : Nat} {Q : xO → xH → Prop} {sh : List xS} {I : Nat → Nat → Int32} {J : Nat → Nat → Int64} {r0 : Nat} {v1 : Int32} {v2 : Int32} {t0 : Nat}
    (e0 : xOb sh t0 10)
    (e1 : xOb sh r0 10)
    (k1 : ((xup I t0 0 (0 : Int32)) r0 0) ≤ 0 → xG d zm_M_pixel (29, [some (.ref r0), some (.int v1), some (.int v2)], []) (sh, xup I t0 0 (0 : Int32), J) Q)
    (k2 : ¬ (((xup I t0 0 (0 : Int32)) r0 0) ≤ 0) → xG d zm_M_pixel (25, [some (.ref r0), some (.int v1), some (.int v2)], []) (sh, xup I t0 0 (0 : Int32), J) Q) :
    xG d zm_M_pixel (10, [some (.ref r0), some (.int v1), some (.int v2)], [.ref t0]) (sh, I, J) Q := by
  exact xG_N 5 (ps := [xOb sh t0 10, xOb sh r0 10]) (f1 := (22, [some (.ref r0), some (.int v1), some (.int v2)], [.int ((xup I t0 0 (0 : Int32)) r0 0)])) (h1 := (sh, xup I t0 0 (0 : Int32), J)) rfl ⟨e0, e1⟩ (xG_B rfl rfl k1 k2)
set_option maxRecDepth 100000 in
theorem s_M_pixel_14 {d : Nat} {Q : xO → xH → Prop} {sh : List xS} {I : Nat → Nat → Int32} {J : Nat → Nat → Int64} {r0 : Nat} {v1 : Int32} {v2 : Int32} {t0 : Nat}
    (e0 : xOb sh t0 10)
    (e1 : xOb sh r0 10)
    (k1 : ((xup I t0 0 (1 : Int32)) r0 0) ≤ 0 → xG d zm_M_pixel (29, [some (.ref r0), some (.int v1), some (.int v2)], []) (sh, xup I t0 0 (1 : Int32), J) Q)
    (k2 : ¬ (((xup I t0 0 (1 : Int32)) r0 0) ≤ 0) → xG d zm_M_pixel (25, [some (.ref r0), some (.int v1), some (.int v2)], []) (sh, xup I t0 0 (1 : Int32), J) Q) :
    xG d zm_M_pixel (14, [some (.ref r0), some (.int v1), some (.int v2)], [.ref t0]) (sh, I, J) Q := by
  exact xG_N 4 (ps := [xOb sh t0 10, xOb sh r0 10]) (f1 := (22, [some (.ref r0), some (.int v1), some (.int v2)], [.int ((xup I t0 0 (1 : Int32)) r0 0)])) (h1 := (sh, xup I t0 0 (1 : Int32), J)) rfl ⟨e0, e1⟩ (xG_B rfl rfl k1 k2)
set_option maxRecDepth 100000 in
theorem s_M_pixel_25 {d : Nat} {Q : xO → xH → Prop} {sh : List xS} {I : Nat → Nat → Int32} {J : Nat → Nat → Int64} {r0 : Nat} {v1 : Int32} {v2 : Int32}
    (k : Q (.inl (some (.int (0 : Int32)))) (sh, I, J)) :
    xG d zm_M_pixel (25, [some (.ref r0), some (.int v1), some (.int v2)], []) (sh, I, J) Q := by
  exact xG_N 2 (ps := []) (f1 := (42, [some (.ref r0), some (.int v1), some (.int v2)], [.int (0 : Int32)])) (h1 := (sh, I, J)) rfl trivial (xG_Q rfl rfl trivial k)
set_option maxRecDepth 100000 in
theorem s_M_pixel_29 {d : Nat} {Q : xO → xH → Prop} {sh : List xS} {I : Nat → Nat → Int32} {J : Nat → Nat → Int64} {r0 : Nat} {v1 : Int32} {v2 : Int32} {a1 : Nat} {n2 : Nat}
    (e0 : xRr sh r0 10 3 a1)
    (e1 : xAr sh a1 .int n2)
    (e2 : vp_in ((v2 * (I r0 1)) + v1) n2)
    (k : Q (.inl (some (.int (I a1 ((v2 * (I r0 1)) + v1).toNatClampNeg)))) (sh, I, J)) :
    xG d zm_M_pixel (29, [some (.ref r0), some (.int v1), some (.int v2)], []) (sh, I, J) Q := by
  obtain rfl := e0.eq
  obtain rfl := e1.eq
  exact xG_N 9 (ps := [xRf sh r0 10 3, xOb sh r0 10, xA sh (xrf sh r0 3) .int, vp_in ((v2 * (I r0 1)) + v1) (xlen sh (xrf sh r0 3))]) (f1 := (42, [some (.ref r0), some (.int v1), some (.int v2)], [.int (I (xrf sh r0 3) ((v2 * (I r0 1)) + v1).toNatClampNeg)])) (h1 := (sh, I, J)) rfl ⟨e0.rf, e0.ob, e1.ar, e2⟩ (xG_Q rfl rfl trivial k)
set_option maxRecDepth 100000 in
theorem s_M_differentColours_0 {d : Nat} {Q : xO → xH → Prop} {sh : List xS} {I : Nat → Nat → Int32} {J : Nat → Nat → Int64} {r0 : Nat}
    (k : xG d zm_M_differentColours (4, [some (.ref r0), some (.int (0 : Int32)), some (.int (0 : Int32)), none, none], []) (sh, I, J) Q) :
    xG d zm_M_differentColours (0, [some (.ref r0), none, none, none, none], []) (sh, I, J) Q := by
  exact xG_N 4 (ps := []) (f1 := (4, [some (.ref r0), some (.int (0 : Int32)), some (.int (0 : Int32)), none, none], [])) (h1 := (sh, I, J)) rfl trivial (k)
set_option maxRecDepth 100000 in
theorem s_M_differentColours_4 {d : Nat} {Q : xO → xH → Prop} {sh : List xS} {I : Nat → Nat → Int32} {J : Nat → Nat → Int64} {r0 : Nat} {v1 : Int32} {v2 : Int32} {o3 : Option Value} {o4 : Option Value}
    (e0 : xOb sh r0 10)
    (k1 : ((I r0 1) * (I r0 2)) ≤ v2 → xG d zm_M_differentColours (78, [some (.ref r0), some (.int v1), some (.int v2), o3, o4], []) (sh, I, J) Q)
    (k2 : ¬ (((I r0 1) * (I r0 2)) ≤ v2) → xG d zm_M_differentColours (17, [some (.ref r0), some (.int v1), some (.int v2), o3, o4], []) (sh, I, J) Q) :
    xG d zm_M_differentColours (4, [some (.ref r0), some (.int v1), some (.int v2), o3, o4], []) (sh, I, J) Q := by
  exact xG_N 6 (ps := [xOb sh r0 10, xOb sh r0 10]) (f1 := (14, [some (.ref r0), some (.int v1), some (.int v2), o3, o4], [.int ((I r0 1) * (I r0 2)), .int v2])) (h1 := (sh, I, J)) rfl ⟨e0, e0⟩ (xG_B rfl rfl k1 k2)
set_option maxRecDepth 100000 in
theorem s_M_differentColours_17 {d : Nat} {Q : xO → xH → Prop} {sh : List xS} {I : Nat → Nat → Int32} {J : Nat → Nat → Int64} {r0 : Nat} {v1 : Int32} {v2 : Int32} {o3 : Option Value} {o4 : Option Value}
    (k : xG d zm_M_differentColours (22, [some (.ref r0), some (.int v1), some (.int v2), some (.int (1 : Int32)), some (.int (0 : Int32))], []) (sh, I, J) Q) :
    xG d zm_M_differentColours (17, [some (.ref r0), some (.int v1), some (.int v2), o3, o4], []) (sh, I, J) Q := by
  exact xG_N 4 (ps := []) (f1 := (22, [some (.ref r0), some (.int v1), some (.int v2), some (.int (1 : Int32)), some (.int (0 : Int32))], [])) (h1 := (sh, I, J)) rfl trivial (k)
set_option maxRecDepth 100000 in
theorem s_M_differentColours_22 {d : Nat} {Q : xO → xH → Prop} {sh : List xS} {I : Nat → Nat → Int32} {J : Nat → Nat → Int64} {r0 : Nat} {v1 : Int32} {v2 : Int32} {v3 : Int32} {v4 : Int32}
    (k1 : v2 ≤ v4 → xG d zm_M_differentColours (60, [some (.ref r0), some (.int v1), some (.int v2), some (.int v3), some (.int v4)], []) (sh, I, J) Q)
    (k2 : ¬ (v2 ≤ v4) → xG d zm_M_differentColours (28, [some (.ref r0), some (.int v1), some (.int v2), some (.int v3), some (.int v4)], []) (sh, I, J) Q) :
    xG d zm_M_differentColours (22, [some (.ref r0), some (.int v1), some (.int v2), some (.int v3), some (.int v4)], []) (sh, I, J) Q := by
  exact xG_N 2 (ps := []) (f1 := (25, [some (.ref r0), some (.int v1), some (.int v2), some (.int v3), some (.int v4)], [.int v2, .int v4])) (h1 := (sh, I, J)) rfl trivial (xG_B rfl rfl k1 k2)
set_option maxRecDepth 100000 in
theorem s_M_differentColours_28 {d : Nat} {Q : xO → xH → Prop} {sh : List xS} {I : Nat → Nat → Int32} {J : Nat → Nat → Int64} {r0 : Nat} {v1 : Int32} {v2 : Int32} {v3 : Int32} {v4 : Int32}
    (k1 : v3 = 0 → xG d zm_M_differentColours (52, [some (.ref r0), some (.int v1), some (.int v2), some (.int v3), some (.int v4)], []) (sh, I, J) Q)
    (k2 : ¬ (v3 = 0) → xG d zm_M_differentColours (32, [some (.ref r0), some (.int v1), some (.int v2), some (.int v3), some (.int v4)], []) (sh, I, J) Q) :
    xG d zm_M_differentColours (28, [some (.ref r0), some (.int v1), some (.int v2), some (.int v3), some (.int v4)], []) (sh, I, J) Q := by
  exact xG_N 1 (ps := []) (f1 := (29, [some (.ref r0), some (.int v1), some (.int v2), some (.int v3), some (.int v4)], [.int v3])) (h1 := (sh, I, J)) rfl trivial (xG_B rfl rfl k1 k2)
set_option maxRecDepth 100000 in
theorem s_M_differentColours_32 {d : Nat} {Q : xO → xH → Prop} {sh : List xS} {I : Nat → Nat → Int32} {J : Nat → Nat → Int64} {r0 : Nat} {v1 : Int32} {v2 : Int32} {v3 : Int32} {v4 : Int32} {a1 : Nat} {n2 : Nat}
    (e0 : xRr sh r0 10 3 a1)
    (e1 : xAr sh a1 .int n2)
    (e2 : vp_in v4 n2)
    (e3 : vp_in v2 n2)
    (k1 : (I a1 v4.toNatClampNeg) = (I a1 v2.toNatClampNeg) → xG d zm_M_differentColours (52, [some (.ref r0), some (.int v1), some (.int v2), some (.int v3), some (.int v4)], []) (sh, I, J) Q)
    (k2 : ¬ ((I a1 v4.toNatClampNeg) = (I a1 v2.toNatClampNeg)) → xG d zm_M_differentColours (48, [some (.ref r0), some (.int v1), some (.int v2), some (.int v3), some (.int v4)], []) (sh, I, J) Q) :
    xG d zm_M_differentColours (32, [some (.ref r0), some (.int v1), some (.int v2), some (.int v3), some (.int v4)], []) (sh, I, J) Q := by
  obtain rfl := e0.eq
  obtain rfl := e1.eq
  exact xG_N 8 (ps := [xRf sh r0 10 3, xA sh (xrf sh r0 3) .int, vp_in v4 (xlen sh (xrf sh r0 3)), xRf sh r0 10 3, xA sh (xrf sh r0 3) .int, vp_in v2 (xlen sh (xrf sh r0 3))]) (f1 := (45, [some (.ref r0), some (.int v1), some (.int v2), some (.int v3), some (.int v4)], [.int (I (xrf sh r0 3) v2.toNatClampNeg), .int (I (xrf sh r0 3) v4.toNatClampNeg)])) (h1 := (sh, I, J)) rfl ⟨e0.rf, e1.ar, e2, e0.rf, e1.ar, e3⟩ (xG_B rfl rfl k1 k2)
set_option maxRecDepth 100000 in
theorem s_M_differentColours_48 {d : Nat} {Q : xO → xH → Prop} {sh : List xS} {I : Nat → Nat → Int32} {J : Nat → Nat → Int64} {r0 : Nat} {v1 : Int32} {v2 : Int32} {v3 : Int32} {v4 : Int32}
    (k : xG d zm_M_differentColours (22, [some (.ref r0), some (.int v1), some (.int v2), some (.int (1 : Int32)), some (.int (v4 + (1 : Int32)))], []) (sh, I, J) Q) :
    xG d zm_M_differentColours (48, [some (.ref r0), some (.int v1), some (.int v2), some (.int v3), some (.int v4)], []) (sh, I, J) Q := by
  exact xG_N 5 (ps := []) (f1 := (22, [some (.ref r0), some (.int v1), some (.int v2), some (.int (1 : Int32)), some (.int (v4 + (1 : Int32)))], [])) (h1 := (sh, I, J)) rfl trivial (k)
set_option maxRecDepth 100000 in
theorem s_M_differentColours_52 {d : Nat} {Q : xO → xH → Prop} {sh : List xS} {I : Nat → Nat → Int32} {J : Nat → Nat → Int64} {r0 : Nat} {v1 : Int32} {v2 : Int32} {v3 : Int32} {v4 : Int32}
    (k : xG d zm_M_differentColours (22, [some (.ref r0), some (.int v1), some (.int v2), some (.int (0 : Int32)), some (.int (v4 + (1 : Int32)))], []) (sh, I, J) Q) :
    xG d zm_M_differentColours (52, [some (.ref r0), some (.int v1), some (.int v2), some (.int v3), some (.int v4)], []) (sh, I, J) Q := by
  exact xG_N 4 (ps := []) (f1 := (22, [some (.ref r0), some (.int v1), some (.int v2), some (.int (0 : Int32)), some (.int (v4 + (1 : Int32)))], [])) (h1 := (sh, I, J)) rfl trivial (k)
set_option maxRecDepth 100000 in
theorem s_M_differentColours_60 {d : Nat} {Q : xO → xH → Prop} {sh : List xS} {I : Nat → Nat → Int32} {J : Nat → Nat → Int64} {r0 : Nat} {v1 : Int32} {v2 : Int32} {v3 : Int32} {v4 : Int32}
    (k1 : v3 = 0 → xG d zm_M_differentColours (70, [some (.ref r0), some (.int v1), some (.int v2), some (.int v3), some (.int v4)], []) (sh, I, J) Q)
    (k2 : ¬ (v3 = 0) → xG d zm_M_differentColours (64, [some (.ref r0), some (.int v1), some (.int v2), some (.int v3), some (.int v4)], []) (sh, I, J) Q) :
    xG d zm_M_differentColours (60, [some (.ref r0), some (.int v1), some (.int v2), some (.int v3), some (.int v4)], []) (sh, I, J) Q := by
  exact xG_N 1 (ps := []) (f1 := (61, [some (.ref r0), some (.int v1), some (.int v2), some (.int v3), some (.int v4)], [.int v3])) (h1 := (sh, I, J)) rfl trivial (xG_B rfl rfl k1 k2)
set_option maxRecDepth 100000 in
theorem s_M_differentColours_64 {d : Nat} {Q : xO → xH → Prop} {sh : List xS} {I : Nat → Nat → Int32} {J : Nat → Nat → Int64} {r0 : Nat} {v1 : Int32} {v2 : Int32} {v3 : Int32} {v4 : Int32}
    (k : xG d zm_M_differentColours (4, [some (.ref r0), some (.int (v1 + (1 : Int32))), some (.int (v2 + (1 : Int32))), some (.int v3), some (.int v4)], []) (sh, I, J) Q) :
    xG d zm_M_differentColours (64, [some (.ref r0), some (.int v1), some (.int v2), some (.int v3), some (.int v4)], []) (sh, I, J) Q := by
  exact xG_N 7 (ps := []) (f1 := (4, [some (.ref r0), some (.int (v1 + (1 : Int32))), some (.int (v2 + (1 : Int32))), some (.int v3), some (.int v4)], [])) (h1 := (sh, I, J)) rfl trivial (k)
set_option maxRecDepth 100000 in
theorem s_M_differentColours_70 {d : Nat} {Q : xO → xH → Prop} {sh : List xS} {I : Nat → Nat → Int32} {J : Nat → Nat → Int64} {r0 : Nat} {v1 : Int32} {v2 : Int32} {v3 : Int32} {v4 : Int32}
    (k : xG d zm_M_differentColours (4, [some (.ref r0), some (.int v1), some (.int (v2 + (1 : Int32))), some (.int v3), some (.int v4)], []) (sh, I, J) Q) :
    xG d zm_M_differentColours (70, [some (.ref r0), some (.int v1), some (.int v2), some (.int v3), some (.int v4)], []) (sh, I, J) Q := by
  exact xG_N 4 (ps := []) (f1 := (4, [some (.ref r0), some (.int v1), some (.int (v2 + (1 : Int32))), some (.int v3), some (.int v4)], [])) (h1 := (sh, I, J)) rfl trivial (k)
set_option maxRecDepth 100000 in
theorem s_M_differentColours_78 {d : Nat} {Q : xO → xH → Prop} {sh : List xS} {I : Nat → Nat → Int32} {J : Nat → Nat → Int64} {r0 : Nat} {v1 : Int32} {v2 : Int32} {o3 : Option Value} {o4 : Option Value}
    (k : Q (.inl (some (.int v1))) (sh, I, J)) :
    xG d zm_M_differentColours (78, [some (.ref r0), some (.int v1), some (.int v2), o3, o4], []) (sh, I, J) Q := by
  exact xG_N 1 (ps := []) (f1 := (79, [some (.ref r0), some (.int v1), some (.int v2), o3, o4], [.int v1])) (h1 := (sh, I, J)) rfl trivial (xG_Q rfl rfl trivial k)
set_option maxRecDepth 100000 in
theorem s_M_measure_0 {d : Nat} {Q : xO → xH → Prop} {sh : List xS} {I : Nat → Nat → Int32} {J : Nat → Nat → Int64} {r0 : Nat} {v1 : Int32}
    (e0 : xOb sh r0 10)
    (k1 : ¬ v1 = 0 → xG d zm_M_measure (16, [some (.ref r0), some (.int v1)], []) (sh, xup I r0 0 (0 : Int32), J) Q)
    (k2 : ¬ (¬ v1 = 0) → xG d zm_M_measure (9, [some (.ref r0), some (.int v1)], []) (sh, xup I r0 0 (0 : Int32), J) Q) :
    xG d zm_M_measure (0, [some (.ref r0), some (.int v1)], []) (sh, I, J) Q := by
  exact xG_N 4 (ps := [xOb sh r0 10]) (f1 := (6, [some (.ref r0), some (.int v1)], [.int v1])) (h1 := (sh, xup I r0 0 (0 : Int32), J)) rfl e0 (xG_B rfl rfl k1 k2)
set_option maxRecDepth 100000 in
theorem s_M_measure_9 {d : Nat} {Q : xO → xH → Prop} {sh : List xS} {I : Nat → Nat → Int32} {J : Nat → Nat → Int64} {r0 : Nat} {v1 : Int32}
    (e0 : xOb sh r0 10)
    (k : Q (.inl (some (.int (I r0 1)))) (sh, I, J)) :
    xG d zm_M_measure (9, [some (.ref r0), some (.int v1)], []) (sh, I, J) Q := by
  exact xG_N 3 (ps := [xOb sh r0 10]) (f1 := (41, [some (.ref r0), some (.int v1)], [.int (I r0 1)])) (h1 := (sh, I, J)) rfl e0 (xG_Q rfl rfl trivial k)
set_option maxRecDepth 100000 in
theorem s_M_measure_16 {d : Nat} {Q : xO → xH → Prop} {sh : List xS} {I : Nat → Nat → Int32} {J : Nat → Nat → Int64} {r0 : Nat} {v1 : Int32}
    (k1 : ¬ v1 = (1 : Int32) → xG d zm_M_measure (28, [some (.ref r0), some (.int v1)], []) (sh, I, J) Q)
    (k2 : ¬ (¬ v1 = (1 : Int32)) → xG d zm_M_measure (21, [some (.ref r0), some (.int v1)], []) (sh, I, J) Q) :
    xG d zm_M_measure (16, [some (.ref r0), some (.int v1)], []) (sh, I, J) Q := by
  exact xG_N 2 (ps := []) (f1 := (18, [some (.ref r0), some (.int v1)], [.int (1 : Int32), .int v1])) (h1 := (sh, I, J)) rfl trivial (xG_B rfl rfl k1 k2)
set_option maxRecDepth 100000 in
theorem s_M_measure_21 {d : Nat} {Q : xO → xH → Prop} {sh : List xS} {I : Nat → Nat → Int32} {J : Nat → Nat → Int64} {r0 : Nat} {v1 : Int32}
    (e0 : xOb sh r0 10)
    (k : Q (.inl (some (.int (I r0 2)))) (sh, I, J)) :
    xG d zm_M_measure (21, [some (.ref r0), some (.int v1)], []) (sh, I, J) Q := by
  exact xG_N 3 (ps := [xOb sh r0 10]) (f1 := (41, [some (.ref r0), some (.int v1)], [.int (I r0 2)])) (h1 := (sh, I, J)) rfl e0 (xG_Q rfl rfl trivial k)
set_option maxRecDepth 100000 in
theorem s_M_measure_28 {d : Nat} {Q : xO → xH → Prop} {sh : List xS} {I : Nat → Nat → Int32} {J : Nat → Nat → Int64} {r0 : Nat} {v1 : Int32}
    (k1 : ¬ v1 = (2 : Int32) → xG d zm_M_measure (40, [some (.ref r0), some (.int v1)], []) (sh, I, J) Q)
    (k2 : ¬ (¬ v1 = (2 : Int32)) → xG d zm_M_measure (33, [some (.ref r0), some (.int v1)], []) (sh, I, J) Q) :
    xG d zm_M_measure (28, [some (.ref r0), some (.int v1)], []) (sh, I, J) Q := by
  exact xG_N 2 (ps := []) (f1 := (30, [some (.ref r0), some (.int v1)], [.int (2 : Int32), .int v1])) (h1 := (sh, I, J)) rfl trivial (xG_B rfl rfl k1 k2)
set_option maxRecDepth 100000 in
theorem s_M_measure_33 {d : Nat} {Q : xO → xH → Prop} {sh : List xS} {I : Nat → Nat → Int32} {J : Nat → Nat → Int64} {r0 : Nat} {v1 : Int32}
    (ko : xOb sh r0 10)
    (k : xg d qM_differentColours [.ref r0] (sh, I, J) (xI (fun v h1 => xG d zm_M_measure (37, [some (.ref r0), some (.int v1)], [.int v]) h1 Q) (fun x h1 => Q (.inr x) h1))) :
    xG d zm_M_measure (33, [some (.ref r0), some (.int v1)], []) (sh, I, J) Q := by
  exact xG_N 1 (ps := []) (f1 := (34, [some (.ref r0), some (.int v1)], [.ref r0])) (h1 := (sh, I, J)) rfl trivial (xG_Ci rfl rfl (Nat.le_of_ble_eq_true rfl) (Nat.le_of_ble_eq_true rfl) ⟨_, _, rfl, ko⟩ rfl k)
set_option maxRecDepth 100000 in
theorem s_M_measure_37 {d : Nat} {Q : xO → xH → Prop} {sh : List xS} {I : Nat → Nat → Int32} {J : Nat → Nat → Int64} {r0 : Nat} {v1 : Int32} {t0 : Int32}
    (k : Q (.inl (some (.int t0))) (sh, I, J)) :
    xG d zm_M_measure (37, [some (.ref r0), some (.int v1)], [.int t0]) (sh, I, J) Q := by
  exact xG_N 1 (ps := []) (f1 := (41, [some (.ref r0), some (.int v1)], [.int t0])) (h1 := (sh, I, J)) rfl trivial (xG_Q rfl rfl trivial k)
set_option maxRecDepth 100000 in
theorem s_M_measure_40 {d : Nat} {Q : xO → xH → Prop} {sh : List xS} {I : Nat → Nat → Int32} {J : Nat → Nat → Int64} {r0 : Nat} {v1 : Int32}
    (k : Q (.inl (some (.int (-1 : Int32)))) (sh, I, J)) :
    xG d zm_M_measure (40, [some (.ref r0), some (.int v1)], []) (sh, I, J) Q := by
  exact xG_N 1 (ps := []) (f1 := (41, [some (.ref r0), some (.int v1)], [.int (-1 : Int32)])) (h1 := (sh, I, J)) rfl trivial (xG_Q rfl rfl trivial k)
set_option maxRecDepth 100000 in
theorem s_M_feed_0 {d : Nat} {Q : xO → xH → Prop} {sh : List xS} {I : Nat → Nat → Int32} {J : Nat → Nat → Int64} {r0 : Nat} {w1 : Int64} {v3 : Int32}
    (e0 : xOb sh r0 10)
    (k1 : v3 < (1 : Int32) → xG d zm_M_feed (28, [some (.ref r0), some (.long w1), none, some (.int v3), none], []) (sh, xup I r0 0 (0 : Int32), J) Q)
    (k2 : ¬ (v3 < (1 : Int32)) → xG d zm_M_feed (10, [some (.ref r0), some (.long w1), none, some (.int v3), none], []) (sh, xup I r0 0 (0 : Int32), J) Q) :
    xG d zm_M_feed (0, [some (.ref r0), some (.long w1), none, some (.int v3), none], []) (sh, I, J) Q := by
  exact xG_N 5 (ps := [xOb sh r0 10]) (f1 := (7, [some (.ref r0), some (.long w1), none, some (.int v3), none], [.int (1 : Int32), .int v3])) (h1 := (sh, xup I r0 0 (0 : Int32), J)) rfl e0 (xG_B rfl rfl k1 k2)
set_option maxRecDepth 100000 in
theorem s_M_feed_10 {d : Nat} {Q : xO → xH → Prop} {sh : List xS} {I : Nat → Nat → Int32} {J : Nat → Nat → Int64} {r0 : Nat} {w1 : Int64} {v3 : Int32}
    (k1 : (8 : Int32) < v3 → xG d zm_M_feed (28, [some (.ref r0), some (.long w1), none, some (.int v3), none], []) (sh, I, J) Q)
    (k2 : ¬ ((8 : Int32) < v3) → xG d zm_M_feed (16, [some (.ref r0), some (.long w1), none, some (.int v3), none], []) (sh, I, J) Q) :
    xG d zm_M_feed (10, [some (.ref r0), some (.long w1), none, some (.int v3), none], []) (sh, I, J) Q := by
  exact xG_N 2 (ps := []) (f1 := (13, [some (.ref r0), some (.long w1), none, some (.int v3), none], [.int (8 : Int32), .int v3])) (h1 := (sh, I, J)) rfl trivial (xG_B rfl rfl k1 k2)
set_option maxRecDepth 100000 in
theorem s_M_feed_16 {d : Nat} {Q : xO → xH → Prop} {sh : List xS} {I : Nat → Nat → Int32} {J : Nat → Nat → Int64} {r0 : Nat} {w1 : Int64} {v3 : Int32}
    (e0 : xOb sh r0 10)
    (k1 : ((I r0 5) + v3) ≤ (700 : Int32) → xG d zm_M_feed (30, [some (.ref r0), some (.long w1), none, some (.int v3), none], []) (sh, I, J) Q)
    (k2 : ¬ (((I r0 5) + v3) ≤ (700 : Int32)) → xG d zm_M_feed (28, [some (.ref r0), some (.long w1), none, some (.int v3), none], []) (sh, I, J) Q) :
    xG d zm_M_feed (16, [some (.ref r0), some (.long w1), none, some (.int v3), none], []) (sh, I, J) Q := by
  exact xG_N 5 (ps := [xOb sh r0 10]) (f1 := (25, [some (.ref r0), some (.long w1), none, some (.int v3), none], [.int (700 : Int32), .int ((I r0 5) + v3)])) (h1 := (sh, I, J)) rfl e0 (xG_B rfl rfl k1 k2)
set_option maxRecDepth 100000 in
theorem s_M_feed_28 {d : Nat} {Q : xO → xH → Prop} {sh : List xS} {I : Nat → Nat → Int32} {J : Nat → Nat → Int64} {r0 : Nat} {w1 : Int64} {v3 : Int32}
    (k : Q (.inl (some (.int (-1 : Int32)))) (sh, I, J)) :
    xG d zm_M_feed (28, [some (.ref r0), some (.long w1), none, some (.int v3), none], []) (sh, I, J) Q := by
  exact xG_N 1 (ps := []) (f1 := (29, [some (.ref r0), some (.long w1), none, some (.int v3), none], [.int (-1 : Int32)])) (h1 := (sh, I, J)) rfl trivial (xG_Q rfl rfl trivial k)
set_option maxRecDepth 100000 in
theorem s_M_feed_30 {d : Nat} {Q : xO → xH → Prop} {sh : List xS} {I : Nat → Nat → Int32} {J : Nat → Nat → Int64} {r0 : Nat} {w1 : Int64} {v3 : Int32}
    (k : xG d zm_M_feed (33, [some (.ref r0), some (.long w1), none, some (.int v3), some (.int (0 : Int32))], []) (sh, I, J) Q) :
    xG d zm_M_feed (30, [some (.ref r0), some (.long w1), none, some (.int v3), none], []) (sh, I, J) Q := by
  exact xG_N 2 (ps := []) (f1 := (33, [some (.ref r0), some (.long w1), none, some (.int v3), some (.int (0 : Int32))], [])) (h1 := (sh, I, J)) rfl trivial (k)
set_option maxRecDepth 100000 in
theorem s_M_feed_33 {d : Nat} {Q : xO → xH → Prop} {sh : List xS} {I : Nat → Nat → Int32} {J : Nat → Nat → Int64} {r0 : Nat} {w1 : Int64} {v3 : Int32} {v4 : Int32}
    (k1 : v3 ≤ v4 → xG d zm_M_feed (76, [some (.ref r0), some (.long w1), none, some (.int v3), some (.int v4)], []) (sh, I, J) Q)
    (k2 : ¬ (v3 ≤ v4) → xG d zm_M_feed (39, [some (.ref r0), some (.long w1), none, some (.int v3), some (.int v4)], []) (sh, I, J) Q) :
    xG d zm_M_feed (33, [some (.ref r0), some (.long w1), none, some (.int v3), some (.int v4)], []) (sh, I, J) Q := by
  exact xG_N 2 (ps := []) (f1 := (36, [some (.ref r0), some (.long w1), none, some (.int v3), some (.int v4)], [.int v3, .int v4])) (h1 := (sh, I, J)) rfl trivial (xG_B rfl rfl k1 k2)
set_option maxRecDepth 100000 in
theorem s_M_feed_39 {d : Nat} {Q : xO → xH → Prop} {sh : List xS} {I : Nat → Nat → Int32} {J : Nat → Nat → Int64} {r0 : Nat} {w1 : Int64} {v3 : Int32} {v4 : Int32} {a1 : Nat} {n2 : Nat}
    (e0 : xRr sh r0 10 4 a1)
    (e1 : xAr sh a1 .int n2)
    (e2 : 4 ≤ a1)
    (e3 : vp_in (I r0 5) n2)
    (k : xG d zm_M_feed (33, [some (.ref r0), some (.long w1), none, some (.int v3), some (.int (v4 + (1 : Int32)))], []) (sh, xup (xup I a1 (I r0 5).toNatClampNeg (((w1 >>> (((8 : Int32) * v4).toInt64 &&& 63)) &&& (255 : Int64)).toInt32)) r0 5 (((xup I a1 (I r0 5).toNatClampNeg (((w1 >>> (((8 : Int32) * v4).toInt64 &&& 63)) &&& (255 : Int64)).toInt32)) r0 5) + (1 : Int32)), J) Q) :
    xG d zm_M_feed (39, [some (.ref r0), some (.long w1), none, some (.int v3), some (.int v4)], []) (sh, I, J) Q := by
  obtain rfl := e0.eq
  obtain rfl := e1.eq
  exact xG_N 21 (ps := [xRf sh r0 10 4, xOb sh r0 10, xW sh (xrf sh r0 4) .int, vp_in (I r0 5) (xlen sh (xrf sh r0 4)), xOb sh r0 10, xOb sh r0 10]) (f1 := (33, [some (.ref r0), some (.long w1), none, some (.int v3), some (.int (v4 + (1 : Int32)))], [])) (h1 := (sh, xup (xup I (xrf sh r0 4) (I r0 5).toNatClampNeg (((w1 >>> (((8 : Int32) * v4).toInt64 &&& 63)) &&& (255 : Int64)).toInt32)) r0 5 (((xup I (xrf sh r0 4) (I r0 5).toNatClampNeg (((w1 >>> (((8 : Int32) * v4).toInt64 &&& 63)) &&& (255 : Int64)).toInt32)) r0 5) + (1 : Int32)), J)) rfl ⟨e0.rf, e0.ob, ⟨e1.ar, e2⟩, e3, e0.ob, e0.ob⟩ (k)
set_option maxRecDepth 100000 in
theorem s_M_feed_76 {d : Nat} {Q : xO → xH → Prop} {sh : List xS} {I : Nat → Nat → Int32} {J : Nat → Nat → Int64} {r0 : Nat} {w1 : Int64} {v3 : Int32} {v4 : Int32}
    (e0 : xOb sh r0 10)
    (k : Q (.inl (some (.int (I r0 5)))) (sh, I, J)) :
    xG d zm_M_feed (76, [some (.ref r0), some (.long w1), none, some (.int v3), some (.int v4)], []) (sh, I, J) Q := by
  exact xG_N 2 (ps := [xOb sh r0 10]) (f1 := (80, [some (.ref r0), some (.long w1), none, some (.int v3), some (.int v4)], [.int (I r0 5)])) (h1 := (sh, I, J)) rfl e0 (xG_Q rfl rfl trivial k)
set_option maxRecDepth 100000 in
theorem s_M_wipe_0 {d : Nat} {Q : xO → xH → Prop} {sh : List xS} {I : Nat → Nat → Int32} {J : Nat → Nat → Int64} {r0 : Nat}
    (e0 : xOb sh r0 10)
    (k : Q (.inl (some (.int ((xup I r0 0 (0 : Int32)) r0 5)))) (sh, xup (xup I r0 0 (0 : Int32)) r0 5 (0 : Int32), J)) :
    xG d zm_M_wipe (0, [some (.ref r0), none], []) (sh, I, J) Q := by
  exact xG_N 10 (ps := [xOb sh r0 10, xOb sh r0 10, xOb sh r0 10]) (f1 := (16, [some (.ref r0), some (.int ((xup I r0 0 (0 : Int32)) r0 5))], [.int ((xup I r0 0 (0 : Int32)) r0 5)])) (h1 := (sh, xup (xup I r0 0 (0 : Int32)) r0 5 (0 : Int32), J)) rfl ⟨e0, e0, e0⟩ (xG_Q rfl rfl trivial k)
set_option maxRecDepth 100000 in
theorem s_M_byteAt_0 {d : Nat} {Q : xO → xH → Prop} {sh : List xS} {I : Nat → Nat → Int32} {J : Nat → Nat → Int64} {r0 : Nat} {v1 : Int32}
    (e0 : xOb sh r0 10)
    (k1 : v1 < 0 → xG d zm_M_byteAt (26, [some (.ref r0), some (.int v1)], []) (sh, xup I r0 0 (0 : Int32), J) Q)
    (k2 : ¬ (v1 < 0) → xG d zm_M_byteAt (9, [some (.ref r0), some (.int v1)], []) (sh, xup I r0 0 (0 : Int32), J) Q) :
    xG d zm_M_byteAt (0, [some (.ref r0), some (.int v1)], []) (sh, I, J) Q := by
  exact xG_N 4 (ps := [xOb sh r0 10]) (f1 := (6, [some (.ref r0), some (.int v1)], [.int v1])) (h1 := (sh, xup I r0 0 (0 : Int32), J)) rfl e0 (xG_B rfl rfl k1 k2)
set_option maxRecDepth 100000 in
theorem s_M_byteAt_9 {d : Nat} {Q : xO → xH → Prop} {sh : List xS} {I : Nat → Nat → Int32} {J : Nat → Nat → Int64} {r0 : Nat} {v1 : Int32}
    (e0 : xOb sh r0 10)
    (k1 : (I r0 5) ≤ v1 → xG d zm_M_byteAt (26, [some (.ref r0), some (.int v1)], []) (sh, I, J) Q)
    (k2 : ¬ ((I r0 5) ≤ v1) → xG d zm_M_byteAt (17, [some (.ref r0), some (.int v1)], []) (sh, I, J) Q) :
    xG d zm_M_byteAt (9, [some (.ref r0), some (.int v1)], []) (sh, I, J) Q := by
  exact xG_N 3 (ps := [xOb sh r0 10]) (f1 := (14, [some (.ref r0), some (.int v1)], [.int (I r0 5), .int v1])) (h1 := (sh, I, J)) rfl e0 (xG_B rfl rfl k1 k2)
set_option maxRecDepth 100000 in
theorem s_M_byteAt_17 {d : Nat} {Q : xO → xH → Prop} {sh : List xS} {I : Nat → Nat → Int32} {J : Nat → Nat → Int64} {r0 : Nat} {v1 : Int32} {a1 : Nat} {n2 : Nat}
    (e0 : xRr sh r0 10 4 a1)
    (e1 : xAr sh a1 .int n2)
    (e2 : vp_in v1 n2)
    (k : Q (.inl (some (.int (I a1 v1.toNatClampNeg)))) (sh, I, J)) :
    xG d zm_M_byteAt (17, [some (.ref r0), some (.int v1)], []) (sh, I, J) Q := by
  obtain rfl := e0.eq
  obtain rfl := e1.eq
  exact xG_N 5 (ps := [xRf sh r0 10 4, xA sh (xrf sh r0 4) .int, vp_in v1 (xlen sh (xrf sh r0 4))]) (f1 := (27, [some (.ref r0), some (.int v1)], [.int (I (xrf sh r0 4) v1.toNatClampNeg)])) (h1 := (sh, I, J)) rfl ⟨e0.rf, e1.ar, e2⟩ (xG_Q rfl rfl trivial k)
set_option maxRecDepth 100000 in
theorem s_M_byteAt_26 {d : Nat} {Q : xO → xH → Prop} {sh : List xS} {I : Nat → Nat → Int32} {J : Nat → Nat → Int64} {r0 : Nat} {v1 : Int32}
    (k : Q (.inl (some (.int (-1 : Int32)))) (sh, I, J)) :
    xG d zm_M_byteAt (26, [some (.ref r0), some (.int v1)], []) (sh, I, J) Q := by
  exact xG_N 1 (ps := []) (f1 := (27, [some (.ref r0), some (.int v1)], [.int (-1 : Int32)])) (h1 := (sh, I, J)) rfl trivial (xG_Q rfl rfl trivial k)
set_option maxRecDepth 100000 in
theorem s_M_flip_0 {d : Nat} {Q : xO → xH → Prop} {sh : List xS} {I : Nat → Nat → Int32} {J : Nat → Nat → Int64} {r0 : Nat} {v1 : Int32}
    (k1 : v1 < 0 → xG d zm_M_flip (16, [some (.ref r0), some (.int v1)], [.ref r0]) (sh, I, J) Q)
    (k2 : ¬ (v1 < 0) → xG d zm_M_flip (5, [some (.ref r0), some (.int v1)], [.ref r0]) (sh, I, J) Q) :
    xG d zm_M_flip (0, [some (.ref r0), some (.int v1)], []) (sh, I, J) Q := by
  exact xG_N 2 (ps := []) (f1 := (2, [some (.ref r0), some (.int v1)], [.int v1, .ref r0])) (h1 := (sh, I, J)) rfl trivial (xG_B rfl rfl k1 k2)
set_option maxRecDepth 100000 in
theorem s_M_flip_5 {d : Nat} {Q : xO → xH → Prop} {sh : List xS} {I : Nat → Nat → Int32} {J : Nat → Nat → Int64} {r0 : Nat} {v1 : Int32} {t0 : Nat}
    (e0 : xOb sh r0 10)
    (k1 : v1 < ((8 : Int32) * (I r0 5)) → xG d zm_M_flip (20, [some (.ref r0), some (.int v1)], [.ref t0]) (sh, I, J) Q)
    (k2 : ¬ (v1 < ((8 : Int32) * (I r0 5))) → xG d zm_M_flip (16, [some (.ref r0), some (.int v1)], [.ref t0]) (sh, I, J) Q) :
    xG d zm_M_flip (5, [some (.ref r0), some (.int v1)], [.ref t0]) (sh, I, J) Q := by
  exact xG_N 5 (ps := [xOb sh r0 10]) (f1 := (13, [some (.ref r0), some (.int v1)], [.int ((8 : Int32) * (I r0 5)), .int v1, .ref t0])) (h1 := (sh, I, J)) rfl e0 (xG_B rfl rfl k1 k2)
set_option maxRecDepth 100000 in
theorem s_M_flip_16 {d : Nat} {Q : xO → xH → Prop} {sh : List xS} {I : Nat → Nat → Int32} {J : Nat → Nat → Int64} {r0 : Nat} {v1 : Int32} {t0 : Nat}
    (e0 : xOb sh t0 10)
    (e1 : xOb sh r0 10)
    (k1 : ((xup I t0 0 (1 : Int32)) r0 0) ≤ 0 → xG d zm_M_flip (33, [some (.ref r0), some (.int v1)], []) (sh, xup I t0 0 (1 : Int32), J) Q)
    (k2 : ¬ (((xup I t0 0 (1 : Int32)) r0 0) ≤ 0) → xG d zm_M_flip (31, [some (.ref r0), some (.int v1)], []) (sh, xup I t0 0 (1 : Int32), J) Q) :
    xG d zm_M_flip (16, [some (.ref r0), some (.int v1)], [.ref t0]) (sh, I, J) Q := by
  exact xG_N 5 (ps := [xOb sh t0 10, xOb sh r0 10]) (f1 := (28, [some (.ref r0), some (.int v1)], [.int ((xup I t0 0 (1 : Int32)) r0 0)])) (h1 := (sh, xup I t0 0 (1 : Int32), J)) rfl ⟨e0, e1⟩ (xG_B rfl rfl k1 k2)
set_option maxRecDepth 100000 in
theorem s_M_flip_20 {d : Nat} {Q : xO → xH → Prop} {sh : List xS} {I : Nat → Nat → Int32} {J : Nat → Nat → Int64} {r0 : Nat} {v1 : Int32} {t0 : Nat}
    (e0 : xOb sh t0 10)
    (e1 : xOb sh r0 10)
    (k1 : ((xup I t0 0 (0 : Int32)) r0 0) ≤ 0 → xG d zm_M_flip (33, [some (.ref r0), some (.int v1)], []) (sh, xup I t0 0 (0 : Int32), J) Q)
    (k2 : ¬ (((xup I t0 0 (0 : Int32)) r0 0) ≤ 0) → xG d zm_M_flip (31, [some (.ref r0), some (.int v1)], []) (sh, xup I t0 0 (0 : Int32), J) Q) :
    xG d zm_M_flip (20, [some (.ref r0), some (.int v1)], [.ref t0]) (sh, I, J) Q := by
  exact xG_N 4 (ps := [xOb sh t0 10, xOb sh r0 10]) (f1 := (28, [some (.ref r0), some (.int v1)], [.int ((xup I t0 0 (0 : Int32)) r0 0)])) (h1 := (sh, xup I t0 0 (0 : Int32), J)) rfl ⟨e0, e1⟩ (xG_B rfl rfl k1 k2)
set_option maxRecDepth 100000 in
theorem s_M_flip_31 {d : Nat} {Q : xO → xH → Prop} {sh : List xS} {I : Nat → Nat → Int32} {J : Nat → Nat → Int64} {r0 : Nat} {v1 : Int32}
    (k : Q (.inl (some (.int (0 : Int32)))) (sh, I, J)) :
    xG d zm_M_flip (31, [some (.ref r0), some (.int v1)], []) (sh, I, J) Q := by
  exact xG_N 1 (ps := []) (f1 := (32, [some (.ref r0), some (.int v1)], [.int (0 : Int32)])) (h1 := (sh, I, J)) rfl trivial (xG_Q rfl rfl trivial k)
set_option maxRecDepth 100000 in
theorem s_M_flip_33 {d : Nat} {Q : xO → xH → Prop} {sh : List xS} {I : Nat → Nat → Int32} {J : Nat → Nat → Int64} {r0 : Nat} {v1 : Int32} {a1 : Nat} {n2 : Nat}
    (e0 : xRr sh r0 10 4 a1)
    (e1 : xAr sh a1 .int n2)
    (e2 : vp_in (v1 / (8 : Int32)) n2)
    (e3 : 4 ≤ a1)
    (k : xG d zm_M_flip (74, [some (.ref r0), some (.int v1)], [.int ((((xup I a1 (v1 / (8 : Int32)).toNatClampNeg ((I a1 (v1 / (8 : Int32)).toNatClampNeg) ^^^ ((1 : Int32) <<< ((v1 - v1 / (8 : Int32) * (8 : Int32)) &&& 31)))) a1 (v1 / (8 : Int32)).toNatClampNeg) >>> ((v1 - v1 / (8 : Int32) * (8 : Int32)) &&& 31)) &&& (1 : Int32))]) (sh, xup I a1 (v1 / (8 : Int32)).toNatClampNeg ((I a1 (v1 / (8 : Int32)).toNatClampNeg) ^^^ ((1 : Int32) <<< ((v1 - v1 / (8 : Int32) * (8 : Int32)) &&& 31))), J) Q) :
    xG d zm_M_flip (33, [some (.ref r0), some (.int v1)], []) (sh, I, J) Q := by
  obtain rfl := e0.eq
  obtain rfl := e1.eq
  exact xG_N 30 (ps := [xRf sh r0 10 4, ¬ (8 : Int32) = 0, xRf sh r0 10 4, ¬ (8 : Int32) = 0, xA sh (xrf sh r0 4) .int, vp_in (v1 / (8 : Int32)) (xlen sh (xrf sh r0 4)), ¬ (8 : Int32) = 0, xW sh (xrf sh r0 4) .int, vp_in (v1 / (8 : Int32)) (xlen sh (xrf sh r0 4)), xRf sh r0 10 4, ¬ (8 : Int32) = 0, xA sh (xrf sh r0 4) .int, vp_in (v1 / (8 : Int32)) (xlen sh (xrf sh r0 4)), ¬ (8 : Int32) = 0]) (f1 := (74, [some (.ref r0), some (.int v1)], [.int ((((xup I (xrf sh r0 4) (v1 / (8 : Int32)).toNatClampNeg ((I (xrf sh r0 4) (v1 / (8 : Int32)).toNatClampNeg) ^^^ ((1 : Int32) <<< ((v1 - v1 / (8 : Int32) * (8 : Int32)) &&& 31)))) (xrf sh r0 4) (v1 / (8 : Int32)).toNatClampNeg) >>> ((v1 - v1 / (8 : Int32) * (8 : Int32)) &&& 31)) &&& (1 : Int32))])) (h1 := (sh, xup I (xrf sh r0 4) (v1 / (8 : Int32)).toNatClampNeg ((I (xrf sh r0 4) (v1 / (8 : Int32)).toNatClampNeg) ^^^ ((1 : Int32) <<< ((v1 - v1 / (8 : Int32) * (8 : Int32)) &&& 31))), J)) rfl ⟨e0.rf, (show ¬ (8 : Int32) = 0 by decide), e0.rf, (show ¬ (8 : Int32) = 0 by decide), e1.ar, e2, (show ¬ (8 : Int32) = 0 by decide), ⟨e1.ar, e3⟩, e2, e0.rf, (show ¬ (8 : Int32) = 0 by decide), e1.ar, e2, (show ¬ (8 : Int32) = 0 by decide)⟩ (k)
set_option maxRecDepth 100000 in
theorem s_M_flip_74 {d : Nat} {Q : xO → xH → Prop} {sh : List xS} {I : Nat → Nat → Int32} {J : Nat → Nat → Int64} {r0 : Nat} {v1 : Int32} {t0 : Int32}
    (k : Q (.inl (some (.int t0))) (sh, I, J)) :
    xG d zm_M_flip (74, [some (.ref r0), some (.int v1)], [.int t0]) (sh, I, J) Q := by
  exact xG_Q rfl rfl trivial k
set_option maxRecDepth 100000 in
theorem s_M_part_0 {d : Nat} {Q : xO → xH → Prop} {sh : List xS} {I : Nat → Nat → Int32} {J : Nat → Nat → Int64} {v0 : Int32} {v1 : Int32}
    (k : Q (.inl (some (.int ((v0 >>> (((8 : Int32) * v1) &&& 31)) &&& (255 : Int32))))) (sh, I, J)) :
    xG d zm_M_part (0, [some (.int v0), some (.int v1)], []) (sh, I, J) Q := by
  exact xG_N 7 (ps := []) (f1 := (10, [some (.int v0), some (.int v1)], [.int ((v0 >>> (((8 : Int32) * v1) &&& 31)) &&& (255 : Int32))])) (h1 := (sh, I, J)) rfl trivial (xG_Q rfl rfl trivial k)
set_option maxRecDepth 100000 in
theorem s_M_plus_0 {d : Nat} {Q : xO → xH → Prop} {sh : List xS} {I : Nat → Nat → Int32} {J : Nat → Nat → Int64} {v0 : Int32} {v1 : Int32}
    (k : xG d zm_M_plus (4, [some (.int v0), some (.int v1), some (.int (0 : Int32)), some (.int (0 : Int32))], []) (sh, I, J) Q) :
    xG d zm_M_plus (0, [some (.int v0), some (.int v1), none, none], []) (sh, I, J) Q := by
  exact xG_N 4 (ps := []) (f1 := (4, [some (.int v0), some (.int v1), some (.int (0 : Int32)), some (.int (0 : Int32))], [])) (h1 := (sh, I, J)) rfl trivial (k)
set_option maxRecDepth 100000 in
theorem s_M_plus_4 {d : Nat} {Q : xO → xH → Prop} {sh : List xS} {I : Nat → Nat → Int32} {J : Nat → Nat → Int64} {v0 : Int32} {v1 : Int32} {v2 : Int32} {v3 : Int32}
    (k1 : (4 : Int32) ≤ v3 → xG d zm_M_plus (38, [some (.int v0), some (.int v1), some (.int v2), some (.int v3)], []) (sh, I, J) Q)
    (k2 : ¬ ((4 : Int32) ≤ v3) → xG d zm_M_plus (9, [some (.int v0), some (.int v1), some (.int v2), some (.int v3)], []) (sh, I, J) Q) :
    xG d zm_M_plus (4, [some (.int v0), some (.int v1), some (.int v2), some (.int v3)], []) (sh, I, J) Q := by
  exact xG_N 2 (ps := []) (f1 := (6, [some (.int v0), some (.int v1), some (.int v2), some (.int v3)], [.int (4 : Int32), .int v3])) (h1 := (sh, I, J)) rfl trivial (xG_B rfl rfl k1 k2)
set_option maxRecDepth 100000 in
theorem s_M_plus_9 {d : Nat} {Q : xO → xH → Prop} {sh : List xS} {I : Nat → Nat → Int32} {J : Nat → Nat → Int64} {v0 : Int32} {v1 : Int32} {v2 : Int32} {v3 : Int32}
    (k : xg d qM_part [.int v0, .int v3] (sh, I, J) (xI (fun v h1 => xG d zm_M_plus (15, [some (.int v0), some (.int v1), some (.int v2), some (.int v3)], [.int v, .int v2]) h1 Q) (fun x h1 => Q (.inr x) h1))) :
    xG d zm_M_plus (9, [some (.int v0), some (.int v1), some (.int v2), some (.int v3)], []) (sh, I, J) Q := by
  exact xG_N 3 (ps := []) (f1 := (12, [some (.int v0), some (.int v1), some (.int v2), some (.int v3)], [.int v3, .int v0, .int v2])) (h1 := (sh, I, J)) rfl trivial (xG_Ci rfl rfl (Nat.le_of_ble_eq_true rfl) (Nat.le_of_ble_eq_true rfl) trivial rfl k)
set_option maxRecDepth 100000 in
theorem s_M_plus_15 {d : Nat} {Q : xO → xH → Prop} {sh : List xS} {I : Nat → Nat → Int32} {J : Nat → Nat → Int64} {v0 : Int32} {v1 : Int32} {v2 : Int32} {v3 : Int32} {t0 : Int32} {t1 : Int32}
    (k : xg d qM_part [.int v1, .int v3] (sh, I, J) (xI (fun v h1 => xG d zm_M_plus (20, [some (.int v0), some (.int v1), some (.int v2), some (.int v3)], [.int v, .int t1, .int t0]) h1 Q) (fun x h1 => Q (.inr x) h1))) :
    xG d zm_M_plus (15, [some (.int v0), some (.int v1), some (.int v2), some (.int v3)], [.int t1, .int t0]) (sh, I, J) Q := by
  exact xG_N 2 (ps := []) (f1 := (17, [some (.int v0), some (.int v1), some (.int v2), some (.int v3)], [.int v3, .int v1, .int t1, .int t0])) (h1 := (sh, I, J)) rfl trivial (xG_Ci rfl rfl (Nat.le_of_ble_eq_true rfl) (Nat.le_of_ble_eq_true rfl) trivial rfl k)
set_option maxRecDepth 100000 in
theorem s_M_plus_20 {d : Nat} {Q : xO → xH → Prop} {sh : List xS} {I : Nat → Nat → Int32} {J : Nat → Nat → Int64} {v0 : Int32} {v1 : Int32} {v2 : Int32} {v3 : Int32} {t0 : Int32} {t1 : Int32} {t2 : Int32}
    (k : xG d zm_M_plus (4, [some (.int v0), some (.int v1), some (.int (t0 ||| (((t1 + t2) &&& (255 : Int32)) <<< (((8 : Int32) * v3) &&& 31)))), some (.int (v3 + (1 : Int32)))], []) (sh, I, J) Q) :
    xG d zm_M_plus (20, [some (.int v0), some (.int v1), some (.int v2), some (.int v3)], [.int t2, .int t1, .int t0]) (sh, I, J) Q := by
  exact xG_N 11 (ps := []) (f1 := (4, [some (.int v0), some (.int v1), some (.int (t0 ||| (((t1 + t2) &&& (255 : Int32)) <<< (((8 : Int32) * v3) &&& 31)))), some (.int (v3 + (1 : Int32)))], [])) (h1 := (sh, I, J)) rfl trivial (k)
set_option maxRecDepth 100000 in
theorem s_M_plus_38 {d : Nat} {Q : xO → xH → Prop} {sh : List xS} {I : Nat → Nat → Int32} {J : Nat → Nat → Int64} {v0 : Int32} {v1 : Int32} {v2 : Int32} {v3 : Int32}
    (k : Q (.inl (some (.int v2))) (sh, I, J)) :
    xG d zm_M_plus (38, [some (.int v0), some (.int v1), some (.int v2), some (.int v3)], []) (sh, I, J) Q := by
  exact xG_N 1 (ps := []) (f1 := (39, [some (.int v0), some (.int v1), some (.int v2), some (.int v3)], [.int v2])) (h1 := (sh, I, J)) rfl trivial (xG_Q rfl rfl trivial k)
set_option maxRecDepth 100000 in
theorem s_M_minus_0 {d : Nat} {Q : xO → xH → Prop} {sh : List xS} {I : Nat → Nat → Int32} {J : Nat → Nat → Int64} {v0 : Int32} {v1 : Int32}
    (k : xG d zm_M_minus (4, [some (.int v0), some (.int v1), some (.int (0 : Int32)), some (.int (0 : Int32))], []) (sh, I, J) Q) :
    xG d zm_M_minus (0, [some (.int v0), some (.int v1), none, none], []) (sh, I, J) Q := by
  exact xG_N 4 (ps := []) (f1 := (4, [some (.int v0), some (.int v1), some (.int (0 : Int32)), some (.int (0 : Int32))], [])) (h1 := (sh, I, J)) rfl trivial (k)
set_option maxRecDepth 100000 in
theorem s_M_minus_4 {d : Nat} {Q : xO → xH → Prop} {sh : List xS} {I : Nat → Nat → Int32} {J : Nat → Nat → Int64} {v0 : Int32} {v1 : Int32} {v2 : Int32} {v3 : Int32}
    (k1 : (4 : Int32) ≤ v3 → xG d zm_M_minus (38, [some (.int v0), some (.int v1), some (.int v2), some (.int v3)], []) (sh, I, J) Q)
    (k2 : ¬ ((4 : Int32) ≤ v3) → xG d zm_M_minus (9, [some (.int v0), some (.int v1), some (.int v2), some (.int v3)], []) (sh, I, J) Q) :
    xG d zm_M_minus (4, [some (.int v0), some (.int v1), some (.int v2), some (.int v3)], []) (sh, I, J) Q := by
  exact xG_N 2 (ps := []) (f1 := (6, [some (.int v0), some (.int v1), some (.int v2), some (.int v3)], [.int (4 : Int32), .int v3])) (h1 := (sh, I, J)) rfl trivial (xG_B rfl rfl k1 k2)
set_option maxRecDepth 100000 in
theorem s_M_minus_9 {d : Nat} {Q : xO → xH → Prop} {sh : List xS} {I : Nat → Nat → Int32} {J : Nat → Nat → Int64} {v0 : Int32} {v1 : Int32} {v2 : Int32} {v3 : Int32}
    (k : xg d qM_part [.int v0, .int v3] (sh, I, J) (xI (fun v h1 => xG d zm_M_minus (15, [some (.int v0), some (.int v1), some (.int v2), some (.int v3)], [.int v, .int v2]) h1 Q) (fun x h1 => Q (.inr x) h1))) :
    xG d zm_M_minus (9, [some (.int v0), some (.int v1), some (.int v2), some (.int v3)], []) (sh, I, J) Q := by
  exact xG_N 3 (ps := []) (f1 := (12, [some (.int v0), some (.int v1), some (.int v2), some (.int v3)], [.int v3, .int v0, .int v2])) (h1 := (sh, I, J)) rfl trivial (xG_Ci rfl rfl (Nat.le_of_ble_eq_true rfl) (Nat.le_of_ble_eq_true rfl) trivial rfl k)
set_option maxRecDepth 100000 in
theorem s_M_minus_15 {d : Nat} {Q : xO → xH → Prop} {sh : List xS} {I : Nat → Nat → Int32} {J : Nat → Nat → Int64} {v0 : Int32} {v1 : Int32} {v2 : Int32} {v3 : Int32} {t0 : Int32} {t1 : Int32}
    (k : xg d qM_part [.int v1, .int v3] (sh, I, J) (xI (fun v h1 => xG d zm_M_minus (20, [some (.int v0), some (.int v1), some (.int v2), some (.int v3)], [.int v, .int t1, .int t0]) h1 Q) (fun x h1 => Q (.inr x) h1))) :
    xG d zm_M_minus (15, [some (.int v0), some (.int v1), some (.int v2), some (.int v3)], [.int t1, .int t0]) (sh, I, J) Q := by
  exact xG_N 2 (ps := []) (f1 := (17, [some (.int v0), some (.int v1), some (.int v2), some (.int v3)], [.int v3, .int v1, .int t1, .int t0])) (h1 := (sh, I, J)) rfl trivial (xG_Ci rfl rfl (Nat.le_of_ble_eq_true rfl) (Nat.le_of_ble_eq_true rfl) trivial rfl k)
set_option maxRecDepth 100000 in
theorem s_M_minus_20 {d : Nat} {Q : xO → xH → Prop} {sh : List xS} {I : Nat → Nat → Int32} {J : Nat → Nat → Int64} {v0 : Int32} {v1 : Int32} {v2 : Int32} {v3 : Int32} {t0 : Int32} {t1 : Int32} {t2 : Int32}
    (k : xG d zm_M_minus (4, [some (.int v0), some (.int v1), some (.int (t0 ||| (((t1 - t2) &&& (255 : Int32)) <<< (((8 : Int32) * v3) &&& 31)))), some (.int (v3 + (1 : Int32)))], []) (sh, I, J) Q) :
    xG d zm_M_minus (20, [some (.int v0), some (.int v1), some (.int v2), some (.int v3)], [.int t2, .int t1, .int t0]) (sh, I, J) Q := by
  exact xG_N 11 (ps := []) (f1 := (4, [some (.int v0), some (.int v1), some (.int (t0 ||| (((t1 - t2) &&& (255 : Int32)) <<< (((8 : Int32) * v3) &&& 31)))), some (.int (v3 + (1 : Int32)))], [])) (h1 := (sh, I, J)) rfl trivial (k)
set_option maxRecDepth 100000 in
theorem s_M_minus_38 {d : Nat} {Q : xO → xH → Prop} {sh : List xS} {I : Nat → Nat → Int32} {J : Nat → Nat → Int64} {v0 : Int32} {v1 : Int32} {v2 : Int32} {v3 : Int32}
    (k : Q (.inl (some (.int v2))) (sh, I, J)) :
    xG d zm_M_minus (38, [some (.int v0), some (.int v1), some (.int v2), some (.int v3)], []) (sh, I, J) Q := by
  exact xG_N 1 (ps := []) (f1 := (39, [some (.int v0), some (.int v1), some (.int v2), some (.int v3)], [.int v2])) (h1 := (sh, I, J)) rfl trivial (xG_Q rfl rfl trivial k)
set_option maxRecDepth 100000 in
theorem s_M_half_0 {d : Nat} {Q : xO → xH → Prop} {sh : List xS} {I : Nat → Nat → Int32} {J : Nat → Nat → Int64} {v0 : Int32} {v1 : Int32}
    (k : xG d zm_M_half (4, [some (.int v0), some (.int v1), some (.int (0 : Int32)), some (.int (0 : Int32))], []) (sh, I, J) Q) :
    xG d zm_M_half (0, [some (.int v0), some (.int v1), none, none], []) (sh, I, J) Q := by
  exact xG_N 4 (ps := []) (f1 := (4, [some (.int v0), some (.int v1), some (.int (0 : Int32)), some (.int (0 : Int32))], [])) (h1 := (sh, I, J)) rfl trivial (k)
set_option maxRecDepth 100000 in
theorem s_M_half_4 {d : Nat} {Q : xO → xH → Prop} {sh : List xS} {I : Nat → Nat → Int32} {J : Nat → Nat → Int64} {v0 : Int32} {v1 : Int32} {v2 : Int32} {v3 : Int32}
    (k1 : (4 : Int32) ≤ v3 → xG d zm_M_half (36, [some (.int v0), some (.int v1), some (.int v2), some (.int v3)], []) (sh, I, J) Q)
    (k2 : ¬ ((4 : Int32) ≤ v3) → xG d zm_M_half (9, [some (.int v0), some (.int v1), some (.int v2), some (.int v3)], []) (sh, I, J) Q) :
    xG d zm_M_half (4, [some (.int v0), some (.int v1), some (.int v2), some (.int v3)], []) (sh, I, J) Q := by
  exact xG_N 2 (ps := []) (f1 := (6, [some (.int v0), some (.int v1), some (.int v2), some (.int v3)], [.int (4 : Int32), .int v3])) (h1 := (sh, I, J)) rfl trivial (xG_B rfl rfl k1 k2)
set_option maxRecDepth 100000 in
theorem s_M_half_9 {d : Nat} {Q : xO → xH → Prop} {sh : List xS} {I : Nat → Nat → Int32} {J : Nat → Nat → Int64} {v0 : Int32} {v1 : Int32} {v2 : Int32} {v3 : Int32}
    (k : xg d qM_part [.int v0, .int v3] (sh, I, J) (xI (fun v h1 => xG d zm_M_half (15, [some (.int v0), some (.int v1), some (.int v2), some (.int v3)], [.int v, .int v2]) h1 Q) (fun x h1 => Q (.inr x) h1))) :
    xG d zm_M_half (9, [some (.int v0), some (.int v1), some (.int v2), some (.int v3)], []) (sh, I, J) Q := by
  exact xG_N 3 (ps := []) (f1 := (12, [some (.int v0), some (.int v1), some (.int v2), some (.int v3)], [.int v3, .int v0, .int v2])) (h1 := (sh, I, J)) rfl trivial (xG_Ci rfl rfl (Nat.le_of_ble_eq_true rfl) (Nat.le_of_ble_eq_true rfl) trivial rfl k)
set_option maxRecDepth 100000 in
theorem s_M_half_15 {d : Nat} {Q : xO → xH → Prop} {sh : List xS} {I : Nat → Nat → Int32} {J : Nat → Nat → Int64} {v0 : Int32} {v1 : Int32} {v2 : Int32} {v3 : Int32} {t0 : Int32} {t1 : Int32}
    (k : xg d qM_part [.int v1, .int v3] (sh, I, J) (xI (fun v h1 => xG d zm_M_half (20, [some (.int v0), some (.int v1), some (.int v2), some (.int v3)], [.int v, .int t1, .int t0]) h1 Q) (fun x h1 => Q (.inr x) h1))) :
    xG d zm_M_half (15, [some (.int v0), some (.int v1), some (.int v2), some (.int v3)], [.int t1, .int t0]) (sh, I, J) Q := by
  exact xG_N 2 (ps := []) (f1 := (17, [some (.int v0), some (.int v1), some (.int v2), some (.int v3)], [.int v3, .int v1, .int t1, .int t0])) (h1 := (sh, I, J)) rfl trivial (xG_Ci rfl rfl (Nat.le_of_ble_eq_true rfl) (Nat.le_of_ble_eq_true rfl) trivial rfl k)
set_option maxRecDepth 100000 in
theorem s_M_half_20 {d : Nat} {Q : xO → xH → Prop} {sh : List xS} {I : Nat → Nat → Int32} {J : Nat → Nat → Int64} {v0 : Int32} {v1 : Int32} {v2 : Int32} {v3 : Int32} {t0 : Int32} {t1 : Int32} {t2 : Int32}
    (k : xG d zm_M_half (4, [some (.int v0), some (.int v1), some (.int (t0 ||| (((t1 + t2) / (2 : Int32)) <<< (((8 : Int32) * v3) &&& 31)))), some (.int (v3 + (1 : Int32)))], []) (sh, I, J) Q) :
    xG d zm_M_half (20, [some (.int v0), some (.int v1), some (.int v2), some (.int v3)], [.int t2, .int t1, .int t0]) (sh, I, J) Q := by
  exact xG_N 11 (ps := [¬ (2 : Int32) = 0]) (f1 := (4, [some (.int v0), some (.int v1), some (.int (t0 ||| (((t1 + t2) / (2 : Int32)) <<< (((8 : Int32) * v3) &&& 31)))), some (.int (v3 + (1 : Int32)))], [])) (h1 := (sh, I, J)) rfl (show ¬ (2 : Int32) = 0 by decide) (k)
set_option maxRecDepth 100000 in
theorem s_M_half_36 {d : Nat} {Q : xO → xH → Prop} {sh : List xS} {I : Nat → Nat → Int32} {J : Nat → Nat → Int64} {v0 : Int32} {v1 : Int32} {v2 : Int32} {v3 : Int32}
    (k : Q (.inl (some (.int v2))) (sh, I, J)) :
    xG d zm_M_half (36, [some (.int v0), some (.int v1), some (.int v2), some (.int v3)], []) (sh, I, J) Q := by
  exact xG_N 1 (ps := []) (f1 := (37, [some (.int v0), some (.int v1), some (.int v2), some (.int v3)], [.int v2])) (h1 := (sh, I, J)) rfl trivial (xG_Q rfl rfl trivial k)
set_option maxRecDepth 100000 in
theorem s_M_kept_0 {d : Nat} {Q : xO → xH → Prop} {sh : List xS} {I : Nat → Nat → Int32} {J : Nat → Nat → Int64} {v0 : Int32}
    (k1 : 0 ≤ v0 → xG d zm_M_kept (8, [some (.int v0)], []) (sh, I, J) Q)
    (k2 : ¬ (0 ≤ v0) → xG d zm_M_kept (4, [some (.int v0)], []) (sh, I, J) Q) :
    xG d zm_M_kept (0, [some (.int v0)], []) (sh, I, J) Q := by
  exact xG_N 1 (ps := []) (f1 := (1, [some (.int v0)], [.int v0])) (h1 := (sh, I, J)) rfl trivial (xG_B rfl rfl k1 k2)
set_option maxRecDepth 100000 in
theorem s_M_kept_4 {d : Nat} {Q : xO → xH → Prop} {sh : List xS} {I : Nat → Nat → Int32} {J : Nat → Nat → Int64} {v0 : Int32}
    (k : Q (.inl (some (.int (0 : Int32)))) (sh, I, J)) :
    xG d zm_M_kept (4, [some (.int v0)], []) (sh, I, J) Q := by
  exact xG_N 2 (ps := []) (f1 := (22, [some (.int v0)], [.int (0 : Int32)])) (h1 := (sh, I, J)) rfl trivial (xG_Q rfl rfl trivial k)
set_option maxRecDepth 100000 in
theorem s_M_kept_8 {d : Nat} {Q : xO → xH → Prop} {sh : List xS} {I : Nat → Nat → Int32} {J : Nat → Nat → Int64} {v0 : Int32}
    (k1 : v0 ≤ (255 : Int32) → xG d zm_M_kept (21, [some (.int v0)], []) (sh, I, J) Q)
    (k2 : ¬ (v0 ≤ (255 : Int32)) → xG d zm_M_kept (15, [some (.int v0)], []) (sh, I, J) Q) :
    xG d zm_M_kept (8, [some (.int v0)], []) (sh, I, J) Q := by
  exact xG_N 2 (ps := []) (f1 := (12, [some (.int v0)], [.int (255 : Int32), .int v0])) (h1 := (sh, I, J)) rfl trivial (xG_B rfl rfl k1 k2)
set_option maxRecDepth 100000 in
theorem s_M_kept_15 {d : Nat} {Q : xO → xH → Prop} {sh : List xS} {I : Nat → Nat → Int32} {J : Nat → Nat → Int64} {v0 : Int32}
    (k : Q (.inl (some (.int (255 : Int32)))) (sh, I, J)) :
    xG d zm_M_kept (15, [some (.int v0)], []) (sh, I, J) Q := by
  exact xG_N 2 (ps := []) (f1 := (22, [some (.int v0)], [.int (255 : Int32)])) (h1 := (sh, I, J)) rfl trivial (xG_Q rfl rfl trivial k)
set_option maxRecDepth 100000 in
theorem s_M_kept_21 {d : Nat} {Q : xO → xH → Prop} {sh : List xS} {I : Nat → Nat → Int32} {J : Nat → Nat → Int64} {v0 : Int32}
    (k : Q (.inl (some (.int v0))) (sh, I, J)) :
    xG d zm_M_kept (21, [some (.int v0)], []) (sh, I, J) Q := by
  exact xG_N 1 (ps := []) (f1 := (22, [some (.int v0)], [.int v0])) (h1 := (sh, I, J)) rfl trivial (xG_Q rfl rfl trivial k)
set_option maxRecDepth 100000 in
theorem s_M_far_0 {d : Nat} {Q : xO → xH → Prop} {sh : List xS} {I : Nat → Nat → Int32} {J : Nat → Nat → Int64} {v0 : Int32}
    (k1 : 0 ≤ v0 → xG d zm_M_far (9, [some (.int v0)], []) (sh, I, J) Q)
    (k2 : ¬ (0 ≤ v0) → xG d zm_M_far (4, [some (.int v0)], []) (sh, I, J) Q) :
    xG d zm_M_far (0, [some (.int v0)], []) (sh, I, J) Q := by
  exact xG_N 1 (ps := []) (f1 := (1, [some (.int v0)], [.int v0])) (h1 := (sh, I, J)) rfl trivial (xG_B rfl rfl k1 k2)
set_option maxRecDepth 100000 in
theorem s_M_far_4 {d : Nat} {Q : xO → xH → Prop} {sh : List xS} {I : Nat → Nat → Int32} {J : Nat → Nat → Int64} {v0 : Int32}
    (k : Q (.inl (some (.int (-v0)))) (sh, I, J)) :
    xG d zm_M_far (4, [some (.int v0)], []) (sh, I, J) Q := by
  exact xG_N 3 (ps := []) (f1 := (10, [some (.int v0)], [.int (-v0)])) (h1 := (sh, I, J)) rfl trivial (xG_Q rfl rfl trivial k)
set_option maxRecDepth 100000 in
theorem s_M_far_9 {d : Nat} {Q : xO → xH → Prop} {sh : List xS} {I : Nat → Nat → Int32} {J : Nat → Nat → Int64} {v0 : Int32}
    (k : Q (.inl (some (.int v0))) (sh, I, J)) :
    xG d zm_M_far (9, [some (.int v0)], []) (sh, I, J) Q := by
  exact xG_N 1 (ps := []) (f1 := (10, [some (.int v0)], [.int v0])) (h1 := (sh, I, J)) rfl trivial (xG_Q rfl rfl trivial k)
set_option maxRecDepth 100000 in
theorem s_M_chosen_0 {d : Nat} {Q : xO → xH → Prop} {sh : List xS} {I : Nat → Nat → Int32} {J : Nat → Nat → Int64} {v0 : Int32} {v1 : Int32} {v2 : Int32}
    (k : xG d zm_M_chosen (8, [some (.int v0), some (.int v1), some (.int v2), some (.int (0 : Int32)), some (.int (0 : Int32)), some (.int (0 : Int32)), none], []) (sh, I, J) Q) :
    xG d zm_M_chosen (0, [some (.int v0), some (.int v1), some (.int v2), none, none, none, none], []) (sh, I, J) Q := by
  exact xG_N 6 (ps := []) (f1 := (8, [some (.int v0), some (.int v1), some (.int v2), some (.int (0 : Int32)), some (.int (0 : Int32)), some (.int (0 : Int32)), none], [])) (h1 := (sh, I, J)) rfl trivial (k)
set_option maxRecDepth 100000 in
theorem s_M_chosen_8 {d : Nat} {Q : xO → xH → Prop} {sh : List xS} {I : Nat → Nat → Int32} {J : Nat → Nat → Int64} {v0 : Int32} {v1 : Int32} {v2 : Int32} {v3 : Int32} {v4 : Int32} {v5 : Int32} {o6 : Option Value}
    (k1 : (4 : Int32) ≤ v5 → xG d zm_M_chosen (74, [some (.int v0), some (.int v1), some (.int v2), some (.int v3), some (.int v4), some (.int v5), o6], []) (sh, I, J) Q)
    (k2 : ¬ ((4 : Int32) ≤ v5) → xG d zm_M_chosen (14, [some (.int v0), some (.int v1), some (.int v2), some (.int v3), some (.int v4), some (.int v5), o6], []) (sh, I, J) Q) :
    xG d zm_M_chosen (8, [some (.int v0), some (.int v1), some (.int v2), some (.int v3), some (.int v4), some (.int v5), o6], []) (sh, I, J) Q := by
  exact xG_N 2 (ps := []) (f1 := (11, [some (.int v0), some (.int v1), some (.int v2), some (.int v3), some (.int v4), some (.int v5), o6], [.int (4 : Int32), .int v5])) (h1 := (sh, I, J)) rfl trivial (xG_B rfl rfl k1 k2)
set_option maxRecDepth 100000 in
theorem s_M_chosen_14 {d : Nat} {Q : xO → xH → Prop} {sh : List xS} {I : Nat → Nat → Int32} {J : Nat → Nat → Int64} {v0 : Int32} {v1 : Int32} {v2 : Int32} {v3 : Int32} {v4 : Int32} {v5 : Int32} {o6 : Option Value}
    (k : xg d qM_part [.int v0, .int v5] (sh, I, J) (xI (fun v h1 => xG d zm_M_chosen (20, [some (.int v0), some (.int v1), some (.int v2), some (.int v3), some (.int v4), some (.int v5), o6], [.int v]) h1 Q) (fun x h1 => Q (.inr x) h1))) :
    xG d zm_M_chosen (14, [some (.int v0), some (.int v1), some (.int v2), some (.int v3), some (.int v4), some (.int v5), o6], []) (sh, I, J) Q := by
  exact xG_N 2 (ps := []) (f1 := (17, [some (.int v0), some (.int v1), some (.int v2), some (.int v3), some (.int v4), some (.int v5), o6], [.int v5, .int v0])) (h1 := (sh, I, J)) rfl trivial (xG_Ci rfl rfl (Nat.le_of_ble_eq_true rfl) (Nat.le_of_ble_eq_true rfl) trivial rfl k)
set_option maxRecDepth 100000 in
theorem s_M_chosen_20 {d : Nat} {Q : xO → xH → Prop} {sh : List xS} {I : Nat → Nat → Int32} {J : Nat → Nat → Int64} {v0 : Int32} {v1 : Int32} {v2 : Int32} {v3 : Int32} {v4 : Int32} {v5 : Int32} {o6 : Option Value} {t0 : Int32}
    (k : xg d qM_part [.int v1, .int v5] (sh, I, J) (xI (fun v h1 => xG d zm_M_chosen (26, [some (.int v0), some (.int v1), some (.int v2), some (.int v3), some (.int v4), some (.int v5), o6], [.int v, .int t0]) h1 Q) (fun x h1 => Q (.inr x) h1))) :
    xG d zm_M_chosen (20, [some (.int v0), some (.int v1), some (.int v2), some (.int v3), some (.int v4), some (.int v5), o6], [.int t0]) (sh, I, J) Q := by
  exact xG_N 2 (ps := []) (f1 := (23, [some (.int v0), some (.int v1), some (.int v2), some (.int v3), some (.int v4), some (.int v5), o6], [.int v5, .int v1, .int t0])) (h1 := (sh, I, J)) rfl trivial (xG_Ci rfl rfl (Nat.le_of_ble_eq_true rfl) (Nat.le_of_ble_eq_true rfl) trivial rfl k)
set_option maxRecDepth 100000 in
theorem s_M_chosen_26 {d : Nat} {Q : xO → xH → Prop} {sh : List xS} {I : Nat → Nat → Int32} {J : Nat → Nat → Int64} {v0 : Int32} {v1 : Int32} {v2 : Int32} {v3 : Int32} {v4 : Int32} {v5 : Int32} {o6 : Option Value} {t0 : Int32} {t1 : Int32}
    (k : xg d qM_part [.int v2, .int v5] (sh, I, J) (xI (fun v h1 => xG d zm_M_chosen (33, [some (.int v0), some (.int v1), some (.int v2), some (.int v3), some (.int v4), some (.int v5), o6], [.int v, .int (t0 + t1)]) h1 Q) (fun x h1 => Q (.inr x) h1))) :
    xG d zm_M_chosen (26, [some (.int v0), some (.int v1), some (.int v2), some (.int v3), some (.int v4), some (.int v5), o6], [.int t1, .int t0]) (sh, I, J) Q := by
  exact xG_N 3 (ps := []) (f1 := (30, [some (.int v0), some (.int v1), some (.int v2), some (.int v3), some (.int v4), some (.int v5), o6], [.int v5, .int v2, .int (t0 + t1)])) (h1 := (sh, I, J)) rfl trivial (xG_Ci rfl rfl (Nat.le_of_ble_eq_true rfl) (Nat.le_of_ble_eq_true rfl) trivial rfl k)
set_option maxRecDepth 100000 in
theorem s_M_chosen_33 {d : Nat} {Q : xO → xH → Prop} {sh : List xS} {I : Nat → Nat → Int32} {J : Nat → Nat → Int64} {v0 : Int32} {v1 : Int32} {v2 : Int32} {v3 : Int32} {v4 : Int32} {v5 : Int32} {o6 : Option Value} {t0 : Int32} {t1 : Int32}
    (k : xg d qM_part [.int v0, .int v5] (sh, I, J) (xI (fun v h1 => xG d zm_M_chosen (45, [some (.int v0), some (.int v1), some (.int v2), some (.int v3), some (.int v4), some (.int v5), some (.int (t0 - t1))], [.int v, .int (t0 - t1), .int v3]) h1 Q) (fun x h1 => Q (.inr x) h1))) :
    xG d zm_M_chosen (33, [some (.int v0), some (.int v1), some (.int v2), some (.int v3), some (.int v4), some (.int v5), o6], [.int t1, .int t0]) (sh, I, J) Q := by
  exact xG_N 6 (ps := []) (f1 := (42, [some (.int v0), some (.int v1), some (.int v2), some (.int v3), some (.int v4), some (.int v5), some (.int (t0 - t1))], [.int v5, .int v0, .int (t0 - t1), .int v3])) (h1 := (sh, I, J)) rfl trivial (xG_Ci rfl rfl (Nat.le_of_ble_eq_true rfl) (Nat.le_of_ble_eq_true rfl) trivial rfl k)
set_option maxRecDepth 100000 in
theorem s_M_chosen_45 {d : Nat} {Q : xO → xH → Prop} {sh : List xS} {I : Nat → Nat → Int32} {J : Nat → Nat → Int64} {v0 : Int32} {v1 : Int32} {v2 : Int32} {v3 : Int32} {v4 : Int32} {v5 : Int32} {v6 : Int32} {t0 : Int32} {t1 : Int32} {t2 : Int32}
    (k : xg d qM_far [.int (t1 - t2)] (sh, I, J) (xI (fun v h1 => xG d zm_M_chosen (49, [some (.int v0), some (.int v1), some (.int v2), some (.int v3), some (.int v4), some (.int v5), some (.int v6)], [.int v, .int t0]) h1 Q) (fun x h1 => Q (.inr x) h1))) :
    xG d zm_M_chosen (45, [some (.int v0), some (.int v1), some (.int v2), some (.int v3), some (.int v4), some (.int v5), some (.int v6)], [.int t2, .int t1, .int t0]) (sh, I, J) Q := by
  exact xG_N 1 (ps := []) (f1 := (46, [some (.int v0), some (.int v1), some (.int v2), some (.int v3), some (.int v4), some (.int v5), some (.int v6)], [.int (t1 - t2), .int t0])) (h1 := (sh, I, J)) rfl trivial (xG_Ci rfl rfl (Nat.le_of_ble_eq_true rfl) (Nat.le_of_ble_eq_true rfl) trivial rfl k)
set_option maxRecDepth 100000 in
theorem s_M_chosen_49 {d : Nat} {Q : xO → xH → Prop} {sh : List xS} {I : Nat → Nat → Int32} {J : Nat → Nat → Int64} {v0 : Int32} {v1 : Int32} {v2 : Int32} {v3 : Int32} {v4 : Int32} {v5 : Int32} {v6 : Int32} {t0 : Int32} {t1 : Int32}
    (k : xg d qM_part [.int v1, .int v5] (sh, I, J) (xI (fun v h1 => xG d zm_M_chosen (61, [some (.int v0), some (.int v1), some (.int v2), some (.int (t0 + t1)), some (.int v4), some (.int v5), some (.int v6)], [.int v, .int v6, .int v4]) h1 Q) (fun x h1 => Q (.inr x) h1))) :
    xG d zm_M_chosen (49, [some (.int v0), some (.int v1), some (.int v2), some (.int v3), some (.int v4), some (.int v5), some (.int v6)], [.int t1, .int t0]) (sh, I, J) Q := by
  exact xG_N 6 (ps := []) (f1 := (58, [some (.int v0), some (.int v1), some (.int v2), some (.int (t0 + t1)), some (.int v4), some (.int v5), some (.int v6)], [.int v5, .int v1, .int v6, .int v4])) (h1 := (sh, I, J)) rfl trivial (xG_Ci rfl rfl (Nat.le_of_ble_eq_true rfl) (Nat.le_of_ble_eq_true rfl) trivial rfl k)
set_option maxRecDepth 100000 in
theorem s_M_chosen_61 {d : Nat} {Q : xO → xH → Prop} {sh : List xS} {I : Nat → Nat → Int32} {J : Nat → Nat → Int64} {v0 : Int32} {v1 : Int32} {v2 : Int32} {v3 : Int32} {v4 : Int32} {v5 : Int32} {v6 : Int32} {t0 : Int32} {t1 : Int32} {t2 : Int32}
    (k : xg d qM_far [.int (t1 - t2)] (sh, I, J) (xI (fun v h1 => xG d zm_M_chosen (65, [some (.int v0), some (.int v1), some (.int v2), some (.int v3), some (.int v4), some (.int v5), some (.int v6)], [.int v, .int t0]) h1 Q) (fun x h1 => Q (.inr x) h1))) :
    xG d zm_M_chosen (61, [some (.int v0), some (.int v1), some (.int v2), some (.int v3), some (.int v4), some (.int v5), some (.int v6)], [.int t2, .int t1, .int t0]) (sh, I, J) Q := by
  exact xG_N 1 (ps := []) (f1 := (62, [some (.int v0), some (.int v1), some (.int v2), some (.int v3), some (.int v4), some (.int v5), some (.int v6)], [.int (t1 - t2), .int t0])) (h1 := (sh, I, J)) rfl trivial (xG_Ci rfl rfl (Nat.le_of_ble_eq_true rfl) (Nat.le_of_ble_eq_true rfl) trivial rfl k)
set_option maxRecDepth 100000 in
theorem s_M_chosen_65 {d : Nat} {Q : xO → xH → Prop} {sh : List xS} {I : Nat → Nat → Int32} {J : Nat → Nat → Int64} {v0 : Int32} {v1 : Int32} {v2 : Int32} {v3 : Int32} {v4 : Int32} {v5 : Int32} {v6 : Int32} {t0 : Int32} {t1 : Int32}
    (k : xG d zm_M_chosen (8, [some (.int v0), some (.int v1), some (.int v2), some (.int v3), some (.int (t0 + t1)), some (.int (v5 + (1 : Int32))), some (.int v6)], []) (sh, I, J) Q) :
    xG d zm_M_chosen (65, [some (.int v0), some (.int v1), some (.int v2), some (.int v3), some (.int v4), some (.int v5), some (.int v6)], [.int t1, .int t0]) (sh, I, J) Q := by
  exact xG_N 4 (ps := []) (f1 := (8, [some (.int v0), some (.int v1), some (.int v2), some (.int v3), some (.int (t0 + t1)), some (.int (v5 + (1 : Int32))), some (.int v6)], [])) (h1 := (sh, I, J)) rfl trivial (k)
set_option maxRecDepth 100000 in
theorem s_M_chosen_74 {d : Nat} {Q : xO → xH → Prop} {sh : List xS} {I : Nat → Nat → Int32} {J : Nat → Nat → Int64} {v0 : Int32} {v1 : Int32} {v2 : Int32} {v3 : Int32} {v4 : Int32} {v5 : Int32} {o6 : Option Value}
    (k1 : v4 ≤ v3 → xG d zm_M_chosen (84, [some (.int v0), some (.int v1), some (.int v2), some (.int v3), some (.int v4), some (.int v5), o6], []) (sh, I, J) Q)
    (k2 : ¬ (v4 ≤ v3) → xG d zm_M_chosen (80, [some (.int v0), some (.int v1), some (.int v2), some (.int v3), some (.int v4), some (.int v5), o6], []) (sh, I, J) Q) :
    xG d zm_M_chosen (74, [some (.int v0), some (.int v1), some (.int v2), some (.int v3), some (.int v4), some (.int v5), o6], []) (sh, I, J) Q := by
  exact xG_N 2 (ps := []) (f1 := (77, [some (.int v0), some (.int v1), some (.int v2), some (.int v3), some (.int v4), some (.int v5), o6], [.int v4, .int v3])) (h1 := (sh, I, J)) rfl trivial (xG_B rfl rfl k1 k2)
set_option maxRecDepth 100000 in
theorem s_M_chosen_80 {d : Nat} {Q : xO → xH → Prop} {sh : List xS} {I : Nat → Nat → Int32} {J : Nat → Nat → Int64} {v0 : Int32} {v1 : Int32} {v2 : Int32} {v3 : Int32} {v4 : Int32} {v5 : Int32} {o6 : Option Value}
    (k : Q (.inl (some (.int v0))) (sh, I, J)) :
    xG d zm_M_chosen (80, [some (.int v0), some (.int v1), some (.int v2), some (.int v3), some (.int v4), some (.int v5), o6], []) (sh, I, J) Q := by
  exact xG_N 2 (ps := []) (f1 := (85, [some (.int v0), some (.int v1), some (.int v2), some (.int v3), some (.int v4), some (.int v5), o6], [.int v0])) (h1 := (sh, I, J)) rfl trivial (xG_Q rfl rfl trivial k)
set_option maxRecDepth 100000 in
theorem s_M_chosen_84 {d : Nat} {Q : xO → xH → Prop} {sh : List xS} {I : Nat → Nat → Int32} {J : Nat → Nat → Int64} {v0 : Int32} {v1 : Int32} {v2 : Int32} {v3 : Int32} {v4 : Int32} {v5 : Int32} {o6 : Option Value}
    (k : Q (.inl (some (.int v1))) (sh, I, J)) :
    xG d zm_M_chosen (84, [some (.int v0), some (.int v1), some (.int v2), some (.int v3), some (.int v4), some (.int v5), o6], []) (sh, I, J) Q := by
  exact xG_N 1 (ps := []) (f1 := (85, [some (.int v0), some (.int v1), some (.int v2), some (.int v3), some (.int v4), some (.int v5), o6], [.int v1])) (h1 := (sh, I, J)) rfl trivial (xG_Q rfl rfl trivial k)
set_option maxRecDepth 100000 in
theorem s_M_bent_0 {d : Nat} {Q : xO → xH → Prop} {sh : List xS} {I : Nat → Nat → Int32} {J : Nat → Nat → Int64} {v0 : Int32} {v1 : Int32} {v2 : Int32} {v3 : Int32}
    (k : xg d qM_half [.int v0, .int v1] (sh, I, J) (xI (fun v h1 => xG d zm_M_bent (8, [some (.int v0), some (.int v1), some (.int v2), some (.int v3), some (.int (0 : Int32)), none, none, none], [.int v]) h1 Q) (fun x h1 => Q (.inr x) h1))) :
    xG d zm_M_bent (0, [some (.int v0), some (.int v1), some (.int v2), some (.int v3), none, none, none, none], []) (sh, I, J) Q := by
  exact xG_N 4 (ps := []) (f1 := (5, [some (.int v0), some (.int v1), some (.int v2), some (.int v3), some (.int (0 : Int32)), none, none, none], [.int v1, .int v0])) (h1 := (sh, I, J)) rfl trivial (xG_Ci rfl rfl (Nat.le_of_ble_eq_true rfl) (Nat.le_of_ble_eq_true rfl) trivial rfl k)
set_option maxRecDepth 100000 in
theorem s_M_bent_8 {d : Nat} {Q : xO → xH → Prop} {sh : List xS} {I : Nat → Nat → Int32} {J : Nat → Nat → Int64} {v0 : Int32} {v1 : Int32} {v2 : Int32} {v3 : Int32} {v4 : Int32} {t0 : Int32}
    (k : xG d zm_M_bent (13, [some (.int v0), some (.int v1), some (.int v2), some (.int v3), some (.int v4), some (.int t0), some (.int (0 : Int32)), none], []) (sh, I, J) Q) :
    xG d zm_M_bent (8, [some (.int v0), some (.int v1), some (.int v2), some (.int v3), some (.int v4), none, none, none], [.int t0]) (sh, I, J) Q := by
  exact xG_N 3 (ps := []) (f1 := (13, [some (.int v0), some (.int v1), some (.int v2), some (.int v3), some (.int v4), some (.int t0), some (.int (0 : Int32)), none], [])) (h1 := (sh, I, J)) rfl trivial (k)
set_option maxRecDepth 100000 in
theorem s_M_bent_13 {d : Nat} {Q : xO → xH → Prop} {sh : List xS} {I : Nat → Nat → Int32} {J : Nat → Nat → Int64} {v0 : Int32} {v1 : Int32} {v2 : Int32} {v3 : Int32} {v4 : Int32} {v5 : Int32} {v6 : Int32} {o7 : Option Value}
    (k1 : (4 : Int32) ≤ v6 → xG d zm_M_bent (94, [some (.int v0), some (.int v1), some (.int v2), some (.int v3), some (.int v4), some (.int v5), some (.int v6), o7], []) (sh, I, J) Q)
    (k2 : ¬ ((4 : Int32) ≤ v6) → xG d zm_M_bent (19, [some (.int v0), some (.int v1), some (.int v2), some (.int v3), some (.int v4), some (.int v5), some (.int v6), o7], []) (sh, I, J) Q) :
    xG d zm_M_bent (13, [some (.int v0), some (.int v1), some (.int v2), some (.int v3), some (.int v4), some (.int v5), some (.int v6), o7], []) (sh, I, J) Q := by
  exact xG_N 2 (ps := []) (f1 := (16, [some (.int v0), some (.int v1), some (.int v2), some (.int v3), some (.int v4), some (.int v5), some (.int v6), o7], [.int (4 : Int32), .int v6])) (h1 := (sh, I, J)) rfl trivial (xG_B rfl rfl k1 k2)
set_option maxRecDepth 100000 in
theorem s_M_bent_19 {d : Nat} {Q : xO → xH → Prop} {sh : List xS} {I : Nat → Nat → Int32} {J : Nat → Nat → Int64} {v0 : Int32} {v1 : Int32} {v2 : Int32} {v3 : Int32} {v4 : Int32} {v5 : Int32} {v6 : Int32} {o7 : Option Value}
    (k1 : v3 = 0 → xG d zm_M_bent (50, [some (.int v0), some (.int v1), some (.int v2), some (.int v3), some (.int v4), some (.int v5), some (.int v6), o7], []) (sh, I, J) Q)
    (k2 : ¬ (v3 = 0) → xG d zm_M_bent (23, [some (.int v0), some (.int v1), some (.int v2), some (.int v3), some (.int v4), some (.int v5), some (.int v6), o7], []) (sh, I, J) Q) :
    xG d zm_M_bent (19, [some (.int v0), some (.int v1), some (.int v2), some (.int v3), some (.int v4), some (.int v5), some (.int v6), o7], []) (sh, I, J) Q := by
  exact xG_N 1 (ps := []) (f1 := (20, [some (.int v0), some (.int v1), some (.int v2), some (.int v3), some (.int v4), some (.int v5), some (.int v6), o7], [.int v3])) (h1 := (sh, I, J)) rfl trivial (xG_B rfl rfl k1 k2)
set_option maxRecDepth 100000 in
theorem s_M_bent_23 {d : Nat} {Q : xO → xH → Prop} {sh : List xS} {I : Nat → Nat → Int32} {J : Nat → Nat → Int64} {v0 : Int32} {v1 : Int32} {v2 : Int32} {v3 : Int32} {v4 : Int32} {v5 : Int32} {v6 : Int32} {o7 : Option Value}
    (k : xg d qM_part [.int v5, .int v6] (sh, I, J) (xI (fun v h1 => xG d zm_M_bent (30, [some (.int v0), some (.int v1), some (.int v2), some (.int v3), some (.int v4), some (.int v5), some (.int v6), o7], [.int v]) h1 Q) (fun x h1 => Q (.inr x) h1))) :
    xG d zm_M_bent (23, [some (.int v0), some (.int v1), some (.int v2), some (.int v3), some (.int v4), some (.int v5), some (.int v6), o7], []) (sh, I, J) Q := by
  exact xG_N 2 (ps := []) (f1 := (27, [some (.int v0), some (.int v1), some (.int v2), some (.int v3), some (.int v4), some (.int v5), some (.int v6), o7], [.int v6, .int v5])) (h1 := (sh, I, J)) rfl trivial (xG_Ci rfl rfl (Nat.le_of_ble_eq_true rfl) (Nat.le_of_ble_eq_true rfl) trivial rfl k)
set_option maxRecDepth 100000 in
theorem s_M_bent_30 {d : Nat} {Q : xO → xH → Prop} {sh : List xS} {I : Nat → Nat → Int32} {J : Nat → Nat → Int64} {v0 : Int32} {v1 : Int32} {v2 : Int32} {v3 : Int32} {v4 : Int32} {v5 : Int32} {v6 : Int32} {o7 : Option Value} {t0 : Int32}
    (k : xg d qM_part [.int v5, .int v6] (sh, I, J) (xI (fun v h1 => xG d zm_M_bent (37, [some (.int v0), some (.int v1), some (.int v2), some (.int v3), some (.int v4), some (.int v5), some (.int v6), o7], [.int v, .int t0]) h1 Q) (fun x h1 => Q (.inr x) h1))) :
    xG d zm_M_bent (30, [some (.int v0), some (.int v1), some (.int v2), some (.int v3), some (.int v4), some (.int v5), some (.int v6), o7], [.int t0]) (sh, I, J) Q := by
  exact xG_N 2 (ps := []) (f1 := (34, [some (.int v0), some (.int v1), some (.int v2), some (.int v3), some (.int v4), some (.int v5), some (.int v6), o7], [.int v6, .int v5, .int t0])) (h1 := (sh, I, J)) rfl trivial (xG_Ci rfl rfl (Nat.le_of_ble_eq_true rfl) (Nat.le_of_ble_eq_true rfl) trivial rfl k)
set_option maxRecDepth 100000 in
theorem s_M_bent_37 {d : Nat} {Q : xO → xH → Prop} {sh : List xS} {I : Nat → Nat → Int32} {J : Nat → Nat → Int64} {v0 : Int32} {v1 : Int32} {v2 : Int32} {v3 : Int32} {v4 : Int32} {v5 : Int32} {v6 : Int32} {o7 : Option Value} {t0 : Int32} {t1 : Int32}
    (k : xg d qM_part [.int v2, .int v6] (sh, I, J) (xI (fun v h1 => xG d zm_M_bent (43, [some (.int v0), some (.int v1), some (.int v2), some (.int v3), some (.int v4), some (.int v5), some (.int v6), o7], [.int v, .int t1, .int t0]) h1 Q) (fun x h1 => Q (.inr x) h1))) :
    xG d zm_M_bent (37, [some (.int v0), some (.int v1), some (.int v2), some (.int v3), some (.int v4), some (.int v5), some (.int v6), o7], [.int t1, .int t0]) (sh, I, J) Q := by
  exact xG_N 2 (ps := []) (f1 := (40, [some (.int v0), some (.int v1), some (.int v2), some (.int v3), some (.int v4), some (.int v5), some (.int v6), o7], [.int v6, .int v2, .int t1, .int t0])) (h1 := (sh, I, J)) rfl trivial (xG_Ci rfl rfl (Nat.le_of_ble_eq_true rfl) (Nat.le_of_ble_eq_true rfl) trivial rfl k)
set_option maxRecDepth 100000 in
theorem s_M_bent_43 {d : Nat} {Q : xO → xH → Prop} {sh : List xS} {I : Nat → Nat → Int32} {J : Nat → Nat → Int64} {v0 : Int32} {v1 : Int32} {v2 : Int32} {v3 : Int32} {v4 : Int32} {v5 : Int32} {v6 : Int32} {o7 : Option Value} {t0 : Int32} {t1 : Int32} {t2 : Int32}
    (k : xg d qM_kept [.int (t0 + ((t1 - t2) / (2 : Int32)))] (sh, I, J) (xI (fun v h1 => xG d zm_M_bent (79, [some (.int v0), some (.int v1), some (.int v2), some (.int v3), some (.int v4), some (.int v5), some (.int v6), some (.int (t0 + ((t1 - t2) / (2 : Int32))))], [.int v, .int v4]) h1 Q) (fun x h1 => Q (.inr x) h1))) :
    xG d zm_M_bent (43, [some (.int v0), some (.int v1), some (.int v2), some (.int v3), some (.int v4), some (.int v5), some (.int v6), o7], [.int t2, .int t1, .int t0]) (sh, I, J) Q := by
  exact xG_N 8 (ps := [¬ (2 : Int32) = 0]) (f1 := (76, [some (.int v0), some (.int v1), some (.int v2), some (.int v3), some (.int v4), some (.int v5), some (.int v6), some (.int (t0 + ((t1 - t2) / (2 : Int32))))], [.int (t0 + ((t1 - t2) / (2 : Int32))), .int v4])) (h1 := (sh, I, J)) rfl (show ¬ (2 : Int32) = 0 by decide) (xG_Ci rfl rfl (Nat.le_of_ble_eq_true rfl) (Nat.le_of_ble_eq_true rfl) trivial rfl k)
set_option maxRecDepth 100000 in
theorem s_M_bent_50 {d : Nat} {Q : xO → xH → Prop} {sh : List xS} {I : Nat → Nat → Int32} {J : Nat → Nat → Int64} {v0 : Int32} {v1 : Int32} {v2 : Int32} {v3 : Int32} {v4 : Int32} {v5 : Int32} {v6 : Int32} {o7 : Option Value}
    (k : xg d qM_part [.int v0, .int v6] (sh, I, J) (xI (fun v h1 => xG d zm_M_bent (56, [some (.int v0), some (.int v1), some (.int v2), some (.int v3), some (.int v4), some (.int v5), some (.int v6), o7], [.int v]) h1 Q) (fun x h1 => Q (.inr x) h1))) :
    xG d zm_M_bent (50, [some (.int v0), some (.int v1), some (.int v2), some (.int v3), some (.int v4), some (.int v5), some (.int v6), o7], []) (sh, I, J) Q := by
  exact xG_N 2 (ps := []) (f1 := (53, [some (.int v0), some (.int v1), some (.int v2), some (.int v3), some (.int v4), some (.int v5), some (.int v6), o7], [.int v6, .int v0])) (h1 := (sh, I, J)) rfl trivial (xG_Ci rfl rfl (Nat.le_of_ble_eq_true rfl) (Nat.le_of_ble_eq_true rfl) trivial rfl k)
set_option maxRecDepth 100000 in
theorem s_M_bent_56 {d : Nat} {Q : xO → xH → Prop} {sh : List xS} {I : Nat → Nat → Int32} {J : Nat → Nat → Int64} {v0 : Int32} {v1 : Int32} {v2 : Int32} {v3 : Int32} {v4 : Int32} {v5 : Int32} {v6 : Int32} {o7 : Option Value} {t0 : Int32}
    (k : xg d qM_part [.int v1, .int v6] (sh, I, J) (xI (fun v h1 => xG d zm_M_bent (62, [some (.int v0), some (.int v1), some (.int v2), some (.int v3), some (.int v4), some (.int v5), some (.int v6), o7], [.int v, .int t0]) h1 Q) (fun x h1 => Q (.inr x) h1))) :
    xG d zm_M_bent (56, [some (.int v0), some (.int v1), some (.int v2), some (.int v3), some (.int v4), some (.int v5), some (.int v6), o7], [.int t0]) (sh, I, J) Q := by
  exact xG_N 2 (ps := []) (f1 := (59, [some (.int v0), some (.int v1), some (.int v2), some (.int v3), some (.int v4), some (.int v5), some (.int v6), o7], [.int v6, .int v1, .int t0])) (h1 := (sh, I, J)) rfl trivial (xG_Ci rfl rfl (Nat.le_of_ble_eq_true rfl) (Nat.le_of_ble_eq_true rfl) trivial rfl k)
set_option maxRecDepth 100000 in
theorem s_M_bent_62 {d : Nat} {Q : xO → xH → Prop} {sh : List xS} {I : Nat → Nat → Int32} {J : Nat → Nat → Int64} {v0 : Int32} {v1 : Int32} {v2 : Int32} {v3 : Int32} {v4 : Int32} {v5 : Int32} {v6 : Int32} {o7 : Option Value} {t0 : Int32} {t1 : Int32}
    (k : xg d qM_part [.int v2, .int v6] (sh, I, J) (xI (fun v h1 => xG d zm_M_bent (69, [some (.int v0), some (.int v1), some (.int v2), some (.int v3), some (.int v4), some (.int v5), some (.int v6), o7], [.int v, .int (t0 + t1)]) h1 Q) (fun x h1 => Q (.inr x) h1))) :
    xG d zm_M_bent (62, [some (.int v0), some (.int v1), some (.int v2), some (.int v3), some (.int v4), some (.int v5), some (.int v6), o7], [.int t1, .int t0]) (sh, I, J) Q := by
  exact xG_N 3 (ps := []) (f1 := (66, [some (.int v0), some (.int v1), some (.int v2), some (.int v3), some (.int v4), some (.int v5), some (.int v6), o7], [.int v6, .int v2, .int (t0 + t1)])) (h1 := (sh, I, J)) rfl trivial (xG_Ci rfl rfl (Nat.le_of_ble_eq_true rfl) (Nat.le_of_ble_eq_true rfl) trivial rfl k)
set_option maxRecDepth 100000 in
theorem s_M_bent_69 {d : Nat} {Q : xO → xH → Prop} {sh : List xS} {I : Nat → Nat → Int32} {J : Nat → Nat → Int64} {v0 : Int32} {v1 : Int32} {v2 : Int32} {v3 : Int32} {v4 : Int32} {v5 : Int32} {v6 : Int32} {o7 : Option Value} {t0 : Int32} {t1 : Int32}
    (k : xg d qM_kept [.int (t0 - t1)] (sh, I, J) (xI (fun v h1 => xG d zm_M_bent (79, [some (.int v0), some (.int v1), some (.int v2), some (.int v3), some (.int v4), some (.int v5), some (.int v6), some (.int (t0 - t1))], [.int v, .int v4]) h1 Q) (fun x h1 => Q (.inr x) h1))) :
    xG d zm_M_bent (69, [some (.int v0), some (.int v1), some (.int v2), some (.int v3), some (.int v4), some (.int v5), some (.int v6), o7], [.int t1, .int t0]) (sh, I, J) Q := by
  exact xG_N 4 (ps := []) (f1 := (76, [some (.int v0), some (.int v1), some (.int v2), some (.int v3), some (.int v4), some (.int v5), some (.int v6), some (.int (t0 - t1))], [.int (t0 - t1), .int v4])) (h1 := (sh, I, J)) rfl trivial (xG_Ci rfl rfl (Nat.le_of_ble_eq_true rfl) (Nat.le_of_ble_eq_true rfl) trivial rfl k)
set_option maxRecDepth 100000 in
theorem s_M_bent_79 {d : Nat} {Q : xO → xH → Prop} {sh : List xS} {I : Nat → Nat → Int32} {J : Nat → Nat → Int64} {v0 : Int32} {v1 : Int32} {v2 : Int32} {v3 : Int32} {v4 : Int32} {v5 : Int32} {v6 : Int32} {v7 : Int32} {t0 : Int32} {t1 : Int32}
    (k : xG d zm_M_bent (13, [some (.int v0), some (.int v1), some (.int v2), some (.int v3), some (.int (t0 ||| (t1 <<< (((8 : Int32) * v6) &&& 31)))), some (.int v5), some (.int (v6 + (1 : Int32))), some (.int v7)], []) (sh, I, J) Q) :
    xG d zm_M_bent (79, [some (.int v0), some (.int v1), some (.int v2), some (.int v3), some (.int v4), some (.int v5), some (.int v6), some (.int v7)], [.int t1, .int t0]) (sh, I, J) Q := by
  exact xG_N 8 (ps := []) (f1 := (13, [some (.int v0), some (.int v1), some (.int v2), some (.int v3), some (.int (t0 ||| (t1 <<< (((8 : Int32) * v6) &&& 31)))), some (.int v5), some (.int (v6 + (1 : Int32))), some (.int v7)], [])) (h1 := (sh, I, J)) rfl trivial (k)
set_option maxRecDepth 100000 in
theorem s_M_bent_94 {d : Nat} {Q : xO → xH → Prop} {sh : List xS} {I : Nat → Nat → Int32} {J : Nat → Nat → Int64} {v0 : Int32} {v1 : Int32} {v2 : Int32} {v3 : Int32} {v4 : Int32} {v5 : Int32} {v6 : Int32} {o7 : Option Value}
    (k : Q (.inl (some (.int v4))) (sh, I, J)) :
    xG d zm_M_bent (94, [some (.int v0), some (.int v1), some (.int v2), some (.int v3), some (.int v4), some (.int v5), some (.int v6), o7], []) (sh, I, J) Q := by
  exact xG_N 1 (ps := []) (f1 := (96, [some (.int v0), some (.int v1), some (.int v2), some (.int v3), some (.int v4), some (.int v5), some (.int v6), o7], [.int v4])) (h1 := (sh, I, J)) rfl trivial (xG_Q rfl rfl trivial k)
set_option maxRecDepth 100000 in
theorem s_M_foretold_0 {d : Nat} {Q : xO → xH → Prop} {sh : List xS} {I : Nat → Nat → Int32} {J : Nat → Nat → Int64} {v0 : Int32} {v1 : Int32} {v2 : Int32} {v3 : Int32} {v4 : Int32}
    (k0 : v0 = (1 : Int32) → xG d zm_M_foretold (68, [some (.int v0), some (.int v1), some (.int v2), some (.int v3), some (.int v4)], []) (sh, I, J) Q)
    (k1 : v0 = (2 : Int32) → xG d zm_M_foretold (70, [some (.int v0), some (.int v1), some (.int v2), some (.int v3), some (.int v4)], []) (sh, I, J) Q)
    (k2 : v0 = (3 : Int32) → xG d zm_M_foretold (72, [some (.int v0), some (.int v1), some (.int v2), some (.int v3), some (.int v4)], []) (sh, I, J) Q)
    (k3 : v0 = (4 : Int32) → xG d zm_M_foretold (75, [some (.int v0), some (.int v1), some (.int v2), some (.int v3), some (.int v4)], []) (sh, I, J) Q)
    (k4 : v0 = (5 : Int32) → xG d zm_M_foretold (77, [some (.int v0), some (.int v1), some (.int v2), some (.int v3), some (.int v4)], []) (sh, I, J) Q)
    (k5 : v0 = (6 : Int32) → xG d zm_M_foretold (88, [some (.int v0), some (.int v1), some (.int v2), some (.int v3), some (.int v4)], []) (sh, I, J) Q)
    (k6 : v0 = (7 : Int32) → xG d zm_M_foretold (94, [some (.int v0), some (.int v1), some (.int v2), some (.int v3), some (.int v4)], []) (sh, I, J) Q)
    (k7 : v0 = (8 : Int32) → xG d zm_M_foretold (100, [some (.int v0), some (.int v1), some (.int v2), some (.int v3), some (.int v4)], []) (sh, I, J) Q)
    (k8 : v0 = (9 : Int32) → xG d zm_M_foretold (106, [some (.int v0), some (.int v1), some (.int v2), some (.int v3), some (.int v4)], []) (sh, I, J) Q)
    (k9 : v0 = (10 : Int32) → xG d zm_M_foretold (113, [some (.int v0), some (.int v1), some (.int v2), some (.int v3), some (.int v4)], []) (sh, I, J) Q)
    (k10 : v0 = (11 : Int32) → xG d zm_M_foretold (128, [some (.int v0), some (.int v1), some (.int v2), some (.int v3), some (.int v4)], []) (sh, I, J) Q)
    (k11 : v0 = (12 : Int32) → xG d zm_M_foretold (135, [some (.int v0), some (.int v1), some (.int v2), some (.int v3), some (.int v4)], []) (sh, I, J) Q)
    (k12 : v0 = (13 : Int32) → xG d zm_M_foretold (143, [some (.int v0), some (.int v1), some (.int v2), some (.int v3), some (.int v4)], []) (sh, I, J) Q)
    (kd : (v0.toInt < 1 ∨ 13 < v0.toInt) → xG d zm_M_foretold (151, [some (.int v0), some (.int v1), some (.int v2), some (.int v3), some (.int v4)], []) (sh, I, J) Q) :
    xG d zm_M_foretold (0, [some (.int v0), some (.int v1), some (.int v2), some (.int v3), some (.int v4)], []) (sh, I, J) Q := by
  have key : ∀ x : Int32, (x = (1 : Int32) → xG d zm_M_foretold (68, [some (.int v0), some (.int v1), some (.int v2), some (.int v3), some (.int v4)], []) (sh, I, J) Q) → (x = (2 : Int32) → xG d zm_M_foretold (70, [some (.int v0), some (.int v1), some (.int v2), some (.int v3), some (.int v4)], []) (sh, I, J) Q) → (x = (3 : Int32) → xG d zm_M_foretold (72, [some (.int v0), some (.int v1), some (.int v2), some (.int v3), some (.int v4)], []) (sh, I, J) Q) → (x = (4 : Int32) → xG d zm_M_foretold (75, [some (.int v0), some (.int v1), some (.int v2), some (.int v3), some (.int v4)], []) (sh, I, J) Q) → (x = (5 : Int32) → xG d zm_M_foretold (77, [some (.int v0), some (.int v1), some (.int v2), some (.int v3), some (.int v4)], []) (sh, I, J) Q) → (x = (6 : Int32) → xG d zm_M_foretold (88, [some (.int v0), some (.int v1), some (.int v2), some (.int v3), some (.int v4)], []) (sh, I, J) Q) → (x = (7 : Int32) → xG d zm_M_foretold (94, [some (.int v0), some (.int v1), some (.int v2), some (.int v3), some (.int v4)], []) (sh, I, J) Q) → (x = (8 : Int32) → xG d zm_M_foretold (100, [some (.int v0), some (.int v1), some (.int v2), some (.int v3), some (.int v4)], []) (sh, I, J) Q) → (x = (9 : Int32) → xG d zm_M_foretold (106, [some (.int v0), some (.int v1), some (.int v2), some (.int v3), some (.int v4)], []) (sh, I, J) Q) → (x = (10 : Int32) → xG d zm_M_foretold (113, [some (.int v0), some (.int v1), some (.int v2), some (.int v3), some (.int v4)], []) (sh, I, J) Q) → (x = (11 : Int32) → xG d zm_M_foretold (128, [some (.int v0), some (.int v1), some (.int v2), some (.int v3), some (.int v4)], []) (sh, I, J) Q) → (x = (12 : Int32) → xG d zm_M_foretold (135, [some (.int v0), some (.int v1), some (.int v2), some (.int v3), some (.int v4)], []) (sh, I, J) Q) → (x = (13 : Int32) → xG d zm_M_foretold (143, [some (.int v0), some (.int v1), some (.int v2), some (.int v3), some (.int v4)], []) (sh, I, J) Q) → ((x.toInt < 1 ∨ 13 < x.toInt) → xG d zm_M_foretold (151, [some (.int v0), some (.int v1), some (.int v2), some (.int v3), some (.int v4)], []) (sh, I, J) Q) → xG d zm_M_foretold (1, [some (.int v0), some (.int v1), some (.int v2), some (.int v3), some (.int v4)], [.int x]) (sh, I, J) Q := by
    intro x k0 k1 k2 k3 k4 k5 k6 k7 k8 k9 k10 k11 k12 kd
    by_cases hx : x.toInt < 1 ∨ 13 < x.toInt
    · exact xG_S (t := 151) rfl (Or.elim hx Or.inl (fun h => Or.inr (Or.inl h))) (by unfold xsw; rw [if_pos hx]; rfl) (kd hx)
    · have hc : x.toInt = 1 ∨ x.toInt = 2 ∨ x.toInt = 3 ∨ x.toInt = 4 ∨ x.toInt = 5 ∨ x.toInt = 6 ∨ x.toInt = 7 ∨ x.toInt = 8 ∨ x.toInt = 9 ∨ x.toInt = 10 ∨ x.toInt = 11 ∨ x.toInt = 12 ∨ x.toInt = 13 := by omega
      rcases hc with hc | hc | hc | hc | hc | hc | hc | hc | hc | hc | hc | hc | hc
      · obtain rfl : x = (1 : Int32) := Int32.toInt_inj.mp (by rw [hc]; rfl)
        exact xG_S (t := 68) rfl (by decide) (by decide) (k0 rfl)
      · obtain rfl : x = (2 : Int32) := Int32.toInt_inj.mp (by rw [hc]; rfl)
        exact xG_S (t := 70) rfl (by decide) (by decide) (k1 rfl)
      · obtain rfl : x = (3 : Int32) := Int32.toInt_inj.mp (by rw [hc]; rfl)
        exact xG_S (t := 72) rfl (by decide) (by decide) (k2 rfl)
      · obtain rfl : x = (4 : Int32) := Int32.toInt_inj.mp (by rw [hc]; rfl)
        exact xG_S (t := 75) rfl (by decide) (by decide) (k3 rfl)
      · obtain rfl : x = (5 : Int32) := Int32.toInt_inj.mp (by rw [hc]; rfl)
        exact xG_S (t := 77) rfl (by decide) (by decide) (k4 rfl)
      · obtain rfl : x = (6 : Int32) := Int32.toInt_inj.mp (by rw [hc]; rfl)
        exact xG_S (t := 88) rfl (by decide) (by decide) (k5 rfl)
      · obtain rfl : x = (7 : Int32) := Int32.toInt_inj.mp (by rw [hc]; rfl)
        exact xG_S (t := 94) rfl (by decide) (by decide) (k6 rfl)
      · obtain rfl : x = (8 : Int32) := Int32.toInt_inj.mp (by rw [hc]; rfl)
        exact xG_S (t := 100) rfl (by decide) (by decide) (k7 rfl)
      · obtain rfl : x = (9 : Int32) := Int32.toInt_inj.mp (by rw [hc]; rfl)
        exact xG_S (t := 106) rfl (by decide) (by decide) (k8 rfl)
      · obtain rfl : x = (10 : Int32) := Int32.toInt_inj.mp (by rw [hc]; rfl)
        exact xG_S (t := 113) rfl (by decide) (by decide) (k9 rfl)
      · obtain rfl : x = (11 : Int32) := Int32.toInt_inj.mp (by rw [hc]; rfl)
        exact xG_S (t := 128) rfl (by decide) (by decide) (k10 rfl)
      · obtain rfl : x = (12 : Int32) := Int32.toInt_inj.mp (by rw [hc]; rfl)
        exact xG_S (t := 135) rfl (by decide) (by decide) (k11 rfl)
      · obtain rfl : x = (13 : Int32) := Int32.toInt_inj.mp (by rw [hc]; rfl)
        exact xG_S (t := 143) rfl (by decide) (by decide) (k12 rfl)
  exact xG_N 1 (ps := []) (f1 := (1, [some (.int v0), some (.int v1), some (.int v2), some (.int v3), some (.int v4)], [.int v0])) (h1 := (sh, I, J)) rfl trivial (key _ k0 k1 k2 k3 k4 k5 k6 k7 k8 k9 k10 k11 k12 kd)
set_option maxRecDepth 100000 in
theorem s_M_foretold_68 {d : Nat} {Q : xO → xH → Prop} {sh : List xS} {I : Nat → Nat → Int32} {J : Nat → Nat → Int64} {v0 : Int32} {v1 : Int32} {v2 : Int32} {v3 : Int32} {v4 : Int32}
    (k : Q (.inl (some (.int v1))) (sh, I, J)) :
    xG d zm_M_foretold (68, [some (.int v0), some (.int v1), some (.int v2), some (.int v3), some (.int v4)], []) (sh, I, J) Q := by
  exact xG_N 1 (ps := []) (f1 := (69, [some (.int v0), some (.int v1), some (.int v2), some (.int v3), some (.int v4)], [.int v1])) (h1 := (sh, I, J)) rfl trivial (xG_Q rfl rfl trivial k)
set_option maxRecDepth 100000 in
theorem s_M_foretold_70 {d : Nat} {Q : xO → xH → Prop} {sh : List xS} {I : Nat → Nat → Int32} {J : Nat → Nat → Int64} {v0 : Int32} {v1 : Int32} {v2 : Int32} {v3 : Int32} {v4 : Int32}
    (k : Q (.inl (some (.int v2))) (sh, I, J)) :
    xG d zm_M_foretold (70, [some (.int v0), some (.int v1), some (.int v2), some (.int v3), some (.int v4)], []) (sh, I, J) Q := by
  exact xG_N 1 (ps := []) (f1 := (71, [some (.int v0), some (.int v1), some (.int v2), some (.int v3), some (.int v4)], [.int v2])) (h1 := (sh, I, J)) rfl trivial (xG_Q rfl rfl trivial k)
set_option maxRecDepth 100000 in
theorem s_M_foretold_72 {d : Nat} {Q : xO → xH → Prop} {sh : List xS} {I : Nat → Nat → Int32} {J : Nat → Nat → Int64} {v0 : Int32} {v1 : Int32} {v2 : Int32} {v3 : Int32} {v4 : Int32}
    (k : Q (.inl (some (.int v4))) (sh, I, J)) :
    xG d zm_M_foretold (72, [some (.int v0), some (.int v1), some (.int v2), some (.int v3), some (.int v4)], []) (sh, I, J) Q := by
  exact xG_N 1 (ps := []) (f1 := (74, [some (.int v0), some (.int v1), some (.int v2), some (.int v3), some (.int v4)], [.int v4])) (h1 := (sh, I, J)) rfl trivial (xG_Q rfl rfl trivial k)
set_option maxRecDepth 100000 in
theorem s_M_foretold_75 {d : Nat} {Q : xO → xH → Prop} {sh : List xS} {I : Nat → Nat → Int32} {J : Nat → Nat → Int64} {v0 : Int32} {v1 : Int32} {v2 : Int32} {v3 : Int32} {v4 : Int32}
    (k : Q (.inl (some (.int v3))) (sh, I, J)) :
    xG d zm_M_foretold (75, [some (.int v0), some (.int v1), some (.int v2), some (.int v3), some (.int v4)], []) (sh, I, J) Q := by
  exact xG_N 1 (ps := []) (f1 := (76, [some (.int v0), some (.int v1), some (.int v2), some (.int v3), some (.int v4)], [.int v3])) (h1 := (sh, I, J)) rfl trivial (xG_Q rfl rfl trivial k)
set_option maxRecDepth 100000 in
theorem s_M_foretold_77 {d : Nat} {Q : xO → xH → Prop} {sh : List xS} {I : Nat → Nat → Int32} {J : Nat → Nat → Int64} {v0 : Int32} {v1 : Int32} {v2 : Int32} {v3 : Int32} {v4 : Int32}
    (k : xg d qM_half [.int v1, .int v4] (sh, I, J) (xI (fun v h1 => xG d zm_M_foretold (83, [some (.int v0), some (.int v1), some (.int v2), some (.int v3), some (.int v4)], [.int v]) h1 Q) (fun x h1 => Q (.inr x) h1))) :
    xG d zm_M_foretold (77, [some (.int v0), some (.int v1), some (.int v2), some (.int v3), some (.int v4)], []) (sh, I, J) Q := by
  exact xG_N 2 (ps := []) (f1 := (80, [some (.int v0), some (.int v1), some (.int v2), some (.int v3), some (.int v4)], [.int v4, .int v1])) (h1 := (sh, I, J)) rfl trivial (xG_Ci rfl rfl (Nat.le_of_ble_eq_true rfl) (Nat.le_of_ble_eq_true rfl) trivial rfl k)
set_option maxRecDepth 100000 in
theorem s_M_foretold_83 {d : Nat} {Q : xO → xH → Prop} {sh : List xS} {I : Nat → Nat → Int32} {J : Nat → Nat → Int64} {v0 : Int32} {v1 : Int32} {v2 : Int32} {v3 : Int32} {v4 : Int32} {t0 : Int32}
    (k : xg d qM_half [.int t0, .int v2] (sh, I, J) (xI (fun v h1 => xG d zm_M_foretold (87, [some (.int v0), some (.int v1), some (.int v2), some (.int v3), some (.int v4)], [.int v]) h1 Q) (fun x h1 => Q (.inr x) h1))) :
    xG d zm_M_foretold (83, [some (.int v0), some (.int v1), some (.int v2), some (.int v3), some (.int v4)], [.int t0]) (sh, I, J) Q := by
  exact xG_N 1 (ps := []) (f1 := (84, [some (.int v0), some (.int v1), some (.int v2), some (.int v3), some (.int v4)], [.int v2, .int t0])) (h1 := (sh, I, J)) rfl trivial (xG_Ci rfl rfl (Nat.le_of_ble_eq_true rfl) (Nat.le_of_ble_eq_true rfl) trivial rfl k)
set_option maxRecDepth 100000 in
theorem s_M_foretold_87 {d : Nat} {Q : xO → xH → Prop} {sh : List xS} {I : Nat → Nat → Int32} {J : Nat → Nat → Int64} {v0 : Int32} {v1 : Int32} {v2 : Int32} {v3 : Int32} {v4 : Int32} {t0 : Int32}
    (k : Q (.inl (some (.int t0))) (sh, I, J)) :
    xG d zm_M_foretold (87, [some (.int v0), some (.int v1), some (.int v2), some (.int v3), some (.int v4)], [.int t0]) (sh, I, J) Q := by
  exact xG_Q rfl rfl trivial k
set_option maxRecDepth 100000 in
theorem s_M_foretold_88 {d : Nat} {Q : xO → xH → Prop} {sh : List xS} {I : Nat → Nat → Int32} {J : Nat → Nat → Int64} {v0 : Int32} {v1 : Int32} {v2 : Int32} {v3 : Int32} {v4 : Int32}
    (k : xg d qM_half [.int v1, .int v3] (sh, I, J) (xI (fun v h1 => xG d zm_M_foretold (93, [some (.int v0), some (.int v1), some (.int v2), some (.int v3), some (.int v4)], [.int v]) h1 Q) (fun x h1 => Q (.inr x) h1))) :
    xG d zm_M_foretold (88, [some (.int v0), some (.int v1), some (.int v2), some (.int v3), some (.int v4)], []) (sh, I, J) Q := by
  exact xG_N 2 (ps := []) (f1 := (90, [some (.int v0), some (.int v1), some (.int v2), some (.int v3), some (.int v4)], [.int v3, .int v1])) (h1 := (sh, I, J)) rfl trivial (xG_Ci rfl rfl (Nat.le_of_ble_eq_true rfl) (Nat.le_of_ble_eq_true rfl) trivial rfl k)
set_option maxRecDepth 100000 in
theorem s_M_foretold_93 {d : Nat} {Q : xO → xH → Prop} {sh : List xS} {I : Nat → Nat → Int32} {J : Nat → Nat → Int64} {v0 : Int32} {v1 : Int32} {v2 : Int32} {v3 : Int32} {v4 : Int32} {t0 : Int32}
    (k : Q (.inl (some (.int t0))) (sh, I, J)) :
    xG d zm_M_foretold (93, [some (.int v0), some (.int v1), some (.int v2), some (.int v3), some (.int v4)], [.int t0]) (sh, I, J) Q := by
  exact xG_Q rfl rfl trivial k
set_option maxRecDepth 100000 in
theorem s_M_foretold_94 {d : Nat} {Q : xO → xH → Prop} {sh : List xS} {I : Nat → Nat → Int32} {J : Nat → Nat → Int64} {v0 : Int32} {v1 : Int32} {v2 : Int32} {v3 : Int32} {v4 : Int32}
    (k : xg d qM_half [.int v1, .int v2] (sh, I, J) (xI (fun v h1 => xG d zm_M_foretold (99, [some (.int v0), some (.int v1), some (.int v2), some (.int v3), some (.int v4)], [.int v]) h1 Q) (fun x h1 => Q (.inr x) h1))) :
    xG d zm_M_foretold (94, [some (.int v0), some (.int v1), some (.int v2), some (.int v3), some (.int v4)], []) (sh, I, J) Q := by
  exact xG_N 2 (ps := []) (f1 := (96, [some (.int v0), some (.int v1), some (.int v2), some (.int v3), some (.int v4)], [.int v2, .int v1])) (h1 := (sh, I, J)) rfl trivial (xG_Ci rfl rfl (Nat.le_of_ble_eq_true rfl) (Nat.le_of_ble_eq_true rfl) trivial rfl k)
set_option maxRecDepth 100000 in
theorem s_M_foretold_99 {d : Nat} {Q : xO → xH → Prop} {sh : List xS} {I : Nat → Nat → Int32} {J : Nat → Nat → Int64} {v0 : Int32} {v1 : Int32} {v2 : Int32} {v3 : Int32} {v4 : Int32} {t0 : Int32}
    (k : Q (.inl (some (.int t0))) (sh, I, J)) :
    xG d zm_M_foretold (99, [some (.int v0), some (.int v1), some (.int v2), some (.int v3), some (.int v4)], [.int t0]) (sh, I, J) Q := by
  exact xG_Q rfl rfl trivial k
set_option maxRecDepth 100000 in
theorem s_M_foretold_100 {d : Nat} {Q : xO → xH → Prop} {sh : List xS} {I : Nat → Nat → Int32} {J : Nat → Nat → Int64} {v0 : Int32} {v1 : Int32} {v2 : Int32} {v3 : Int32} {v4 : Int32}
    (k : xg d qM_half [.int v3, .int v2] (sh, I, J) (xI (fun v h1 => xG d zm_M_foretold (105, [some (.int v0), some (.int v1), some (.int v2), some (.int v3), some (.int v4)], [.int v]) h1 Q) (fun x h1 => Q (.inr x) h1))) :
    xG d zm_M_foretold (100, [some (.int v0), some (.int v1), some (.int v2), some (.int v3), some (.int v4)], []) (sh, I, J) Q := by
  exact xG_N 2 (ps := []) (f1 := (102, [some (.int v0), some (.int v1), some (.int v2), some (.int v3), some (.int v4)], [.int v2, .int v3])) (h1 := (sh, I, J)) rfl trivial (xG_Ci rfl rfl (Nat.le_of_ble_eq_true rfl) (Nat.le_of_ble_eq_true rfl) trivial rfl k)
set_option maxRecDepth 100000 in
theorem s_M_foretold_105 {d : Nat} {Q : xO → xH → Prop} {sh : List xS} {I : Nat → Nat → Int32} {J : Nat → Nat → Int64} {v0 : Int32} {v1 : Int32} {v2 : Int32} {v3 : Int32} {v4 : Int32} {t0 : Int32}
    (k : Q (.inl (some (.int t0))) (sh, I, J)) :
    xG d zm_M_foretold (105, [some (.int v0), some (.int v1), some (.int v2), some (.int v3), some (.int v4)], [.int t0]) (sh, I, J) Q := by
  exact xG_Q rfl rfl trivial k
set_option maxRecDepth 100000 in
theorem s_M_foretold_106 {d : Nat} {Q : xO → xH → Prop} {sh : List xS} {I : Nat → Nat → Int32} {J : Nat → Nat → Int64} {v0 : Int32} {v1 : Int32} {v2 : Int32} {v3 : Int32} {v4 : Int32}
    (k : xg d qM_half [.int v2, .int v4] (sh, I, J) (xI (fun v h1 => xG d zm_M_foretold (112, [some (.int v0), some (.int v1), some (.int v2), some (.int v3), some (.int v4)], [.int v]) h1 Q) (fun x h1 => Q (.inr x) h1))) :
    xG d zm_M_foretold (106, [some (.int v0), some (.int v1), some (.int v2), some (.int v3), some (.int v4)], []) (sh, I, J) Q := by
  exact xG_N 2 (ps := []) (f1 := (109, [some (.int v0), some (.int v1), some (.int v2), some (.int v3), some (.int v4)], [.int v4, .int v2])) (h1 := (sh, I, J)) rfl trivial (xG_Ci rfl rfl (Nat.le_of_ble_eq_true rfl) (Nat.le_of_ble_eq_true rfl) trivial rfl k)
set_option maxRecDepth 100000 in
theorem s_M_foretold_112 {d : Nat} {Q : xO → xH → Prop} {sh : List xS} {I : Nat → Nat → Int32} {J : Nat → Nat → Int64} {v0 : Int32} {v1 : Int32} {v2 : Int32} {v3 : Int32} {v4 : Int32} {t0 : Int32}
    (k : Q (.inl (some (.int t0))) (sh, I, J)) :
    xG d zm_M_foretold (112, [some (.int v0), some (.int v1), some (.int v2), some (.int v3), some (.int v4)], [.int t0]) (sh, I, J) Q := by
  exact xG_Q rfl rfl trivial k
set_option maxRecDepth 100000 in
theorem s_M_foretold_113 {d : Nat} {Q : xO → xH → Prop} {sh : List xS} {I : Nat → Nat → Int32} {J : Nat → Nat → Int64} {v0 : Int32} {v1 : Int32} {v2 : Int32} {v3 : Int32} {v4 : Int32}
    (k : xg d qM_half [.int v1, .int v3] (sh, I, J) (xI (fun v h1 => xG d zm_M_foretold (118, [some (.int v0), some (.int v1), some (.int v2), some (.int v3), some (.int v4)], [.int v]) h1 Q) (fun x h1 => Q (.inr x) h1))) :
    xG d zm_M_foretold (113, [some (.int v0), some (.int v1), some (.int v2), some (.int v3), some (.int v4)], []) (sh, I, J) Q := by
  exact xG_N 2 (ps := []) (f1 := (115, [some (.int v0), some (.int v1), some (.int v2), some (.int v3), some (.int v4)], [.int v3, .int v1])) (h1 := (sh, I, J)) rfl trivial (xG_Ci rfl rfl (Nat.le_of_ble_eq_true rfl) (Nat.le_of_ble_eq_true rfl) trivial rfl k)
set_option maxRecDepth 100000 in
theorem s_M_foretold_118 {d : Nat} {Q : xO → xH → Prop} {sh : List xS} {I : Nat → Nat → Int32} {J : Nat → Nat → Int64} {v0 : Int32} {v1 : Int32} {v2 : Int32} {v3 : Int32} {v4 : Int32} {t0 : Int32}
    (k : xg d qM_half [.int v2, .int v4] (sh, I, J) (xI (fun v h1 => xG d zm_M_foretold (124, [some (.int v0), some (.int v1), some (.int v2), some (.int v3), some (.int v4)], [.int v, .int t0]) h1 Q) (fun x h1 => Q (.inr x) h1))) :
    xG d zm_M_foretold (118, [some (.int v0), some (.int v1), some (.int v2), some (.int v3), some (.int v4)], [.int t0]) (sh, I, J) Q := by
  exact xG_N 2 (ps := []) (f1 := (121, [some (.int v0), some (.int v1), some (.int v2), some (.int v3), some (.int v4)], [.int v4, .int v2, .int t0])) (h1 := (sh, I, J)) rfl trivial (xG_Ci rfl rfl (Nat.le_of_ble_eq_true rfl) (Nat.le_of_ble_eq_true rfl) trivial rfl k)
set_option maxRecDepth 100000 in
theorem s_M_foretold_124 {d : Nat} {Q : xO → xH → Prop} {sh : List xS} {I : Nat → Nat → Int32} {J : Nat → Nat → Int64} {v0 : Int32} {v1 : Int32} {v2 : Int32} {v3 : Int32} {v4 : Int32} {t0 : Int32} {t1 : Int32}
    (k : xg d qM_half [.int t0, .int t1] (sh, I, J) (xI (fun v h1 => xG d zm_M_foretold (127, [some (.int v0), some (.int v1), some (.int v2), some (.int v3), some (.int v4)], [.int v]) h1 Q) (fun x h1 => Q (.inr x) h1))) :
    xG d zm_M_foretold (124, [some (.int v0), some (.int v1), some (.int v2), some (.int v3), some (.int v4)], [.int t1, .int t0]) (sh, I, J) Q := by
  exact xG_Ci rfl rfl (Nat.le_of_ble_eq_true rfl) (Nat.le_of_ble_eq_true rfl) trivial rfl k
set_option maxRecDepth 100000 in
theorem s_M_foretold_127 {d : Nat} {Q : xO → xH → Prop} {sh : List xS} {I : Nat → Nat → Int32} {J : Nat → Nat → Int64} {v0 : Int32} {v1 : Int32} {v2 : Int32} {v3 : Int32} {v4 : Int32} {t0 : Int32}
    (k : Q (.inl (some (.int t0))) (sh, I, J)) :
    xG d zm_M_foretold (127, [some (.int v0), some (.int v1), some (.int v2), some (.int v3), some (.int v4)], [.int t0]) (sh, I, J) Q := by
  exact xG_Q rfl rfl trivial k
set_option maxRecDepth 100000 in
theorem s_M_foretold_128 {d : Nat} {Q : xO → xH → Prop} {sh : List xS} {I : Nat → Nat → Int32} {J : Nat → Nat → Int64} {v0 : Int32} {v1 : Int32} {v2 : Int32} {v3 : Int32} {v4 : Int32}
    (k : xg d qM_chosen [.int v1, .int v2, .int v3] (sh, I, J) (xI (fun v h1 => xG d zm_M_foretold (134, [some (.int v0), some (.int v1), some (.int v2), some (.int v3), some (.int v4)], [.int v]) h1 Q) (fun x h1 => Q (.inr x) h1))) :
    xG d zm_M_foretold (128, [some (.int v0), some (.int v1), some (.int v2), some (.int v3), some (.int v4)], []) (sh, I, J) Q := by
  exact xG_N 3 (ps := []) (f1 := (131, [some (.int v0), some (.int v1), some (.int v2), some (.int v3), some (.int v4)], [.int v3, .int v2, .int v1])) (h1 := (sh, I, J)) rfl trivial (xG_Ci rfl rfl (Nat.le_of_ble_eq_true rfl) (Nat.le_of_ble_eq_true rfl) trivial rfl k)
set_option maxRecDepth 100000 in
theorem s_M_foretold_134 {d : Nat} {Q : xO → xH → Prop} {sh : List xS} {I : Nat → Nat → Int32} {J : Nat → Nat → Int64} {v0 : Int32} {v1 : Int32} {v2 : Int32} {v3 : Int32} {v4 : Int32} {t0 : Int32}
    (k : Q (.inl (some (.int t0))) (sh, I, J)) :
    xG d zm_M_foretold (134, [some (.int v0), some (.int v1), some (.int v2), some (.int v3), some (.int v4)], [.int t0]) (sh, I, J) Q := by
  exact xG_Q rfl rfl trivial k
set_option maxRecDepth 100000 in
theorem s_M_foretold_135 {d : Nat} {Q : xO → xH → Prop} {sh : List xS} {I : Nat → Nat → Int32} {J : Nat → Nat → Int64} {v0 : Int32} {v1 : Int32} {v2 : Int32} {v3 : Int32} {v4 : Int32}
    (k : xg d qM_bent [.int v1, .int v2, .int v3, .int (0 : Int32)] (sh, I, J) (xI (fun v h1 => xG d zm_M_foretold (142, [some (.int v0), some (.int v1), some (.int v2), some (.int v3), some (.int v4)], [.int v]) h1 Q) (fun x h1 => Q (.inr x) h1))) :
    xG d zm_M_foretold (135, [some (.int v0), some (.int v1), some (.int v2), some (.int v3), some (.int v4)], []) (sh, I, J) Q := by
  exact xG_N 4 (ps := []) (f1 := (139, [some (.int v0), some (.int v1), some (.int v2), some (.int v3), some (.int v4)], [.int (0 : Int32), .int v3, .int v2, .int v1])) (h1 := (sh, I, J)) rfl trivial (xG_Ci rfl rfl (Nat.le_of_ble_eq_true rfl) (Nat.le_of_ble_eq_true rfl) trivial rfl k)
set_option maxRecDepth 100000 in
theorem s_M_foretold_142 {d : Nat} {Q : xO → xH → Prop} {sh : List xS} {I : Nat → Nat → Int32} {J : Nat → Nat → Int64} {v0 : Int32} {v1 : Int32} {v2 : Int32} {v3 : Int32} {v4 : Int32} {t0 : Int32}
    (k : Q (.inl (some (.int t0))) (sh, I, J)) :
    xG d zm_M_foretold (142, [some (.int v0), some (.int v1), some (.int v2), some (.int v3), some (.int v4)], [.int t0]) (sh, I, J) Q := by
  exact xG_Q rfl rfl trivial k
set_option maxRecDepth 100000 in
theorem s_M_foretold_143 {d : Nat} {Q : xO → xH → Prop} {sh : List xS} {I : Nat → Nat → Int32} {J : Nat → Nat → Int64} {v0 : Int32} {v1 : Int32} {v2 : Int32} {v3 : Int32} {v4 : Int32}
    (k : xg d qM_bent [.int v1, .int v2, .int v3, .int (1 : Int32)] (sh, I, J) (xI (fun v h1 => xG d zm_M_foretold (150, [some (.int v0), some (.int v1), some (.int v2), some (.int v3), some (.int v4)], [.int v]) h1 Q) (fun x h1 => Q (.inr x) h1))) :
    xG d zm_M_foretold (143, [some (.int v0), some (.int v1), some (.int v2), some (.int v3), some (.int v4)], []) (sh, I, J) Q := by
  exact xG_N 4 (ps := []) (f1 := (147, [some (.int v0), some (.int v1), some (.int v2), some (.int v3), some (.int v4)], [.int (1 : Int32), .int v3, .int v2, .int v1])) (h1 := (sh, I, J)) rfl trivial (xG_Ci rfl rfl (Nat.le_of_ble_eq_true rfl) (Nat.le_of_ble_eq_true rfl) trivial rfl k)
set_option maxRecDepth 100000 in
theorem s_M_foretold_150 {d : Nat} {Q : xO → xH → Prop} {sh : List xS} {I : Nat → Nat → Int32} {J : Nat → Nat → Int64} {v0 : Int32} {v1 : Int32} {v2 : Int32} {v3 : Int32} {v4 : Int32} {t0 : Int32}
    (k : Q (.inl (some (.int t0))) (sh, I, J)) :
    xG d zm_M_foretold (150, [some (.int v0), some (.int v1), some (.int v2), some (.int v3), some (.int v4)], [.int t0]) (sh, I, J) Q := by
  exact xG_Q rfl rfl trivial k
set_option maxRecDepth 100000 in
theorem s_M_foretold_151 {d : Nat} {Q : xO → xH → Prop} {sh : List xS} {I : Nat → Nat → Int32} {J : Nat → Nat → Int64} {v0 : Int32} {v1 : Int32} {v2 : Int32} {v3 : Int32} {v4 : Int32}
    (k : Q (.inl (some (.int (-16777216 : Int32)))) (sh, I, J)) :
    xG d zm_M_foretold (151, [some (.int v0), some (.int v1), some (.int v2), some (.int v3), some (.int v4)], []) (sh, I, J) Q := by
  exact xG_N 1 (ps := []) (f1 := (153, [some (.int v0), some (.int v1), some (.int v2), some (.int v3), some (.int v4)], [.int (-16777216 : Int32)])) (h1 := (sh, I, J)) rfl trivial (xG_Q rfl rfl trivial k)
set_option maxRecDepth 100000 in
theorem s_M_foretoldAt_0 {d : Nat} {Q : xO → xH → Prop} {sh : List xS} {I : Nat → Nat → Int32} {J : Nat → Nat → Int64} {r0 : Nat} {v1 : Int32} {v2 : Int32} {v3 : Int32}
    (k1 : ¬ v1 = 0 → xG d zm_M_foretoldAt (7, [some (.ref r0), some (.int v1), some (.int v2), some (.int v3)], []) (sh, I, J) Q)
    (k2 : ¬ (¬ v1 = 0) → xG d zm_M_foretoldAt (4, [some (.ref r0), some (.int v1), some (.int v2), some (.int v3)], []) (sh, I, J) Q) :
    xG d zm_M_foretoldAt (0, [some (.ref r0), some (.int v1), some (.int v2), some (.int v3)], []) (sh, I, J) Q := by
  exact xG_N 1 (ps := []) (f1 := (1, [some (.ref r0), some (.int v1), some (.int v2), some (.int v3)], [.int v1])) (h1 := (sh, I, J)) rfl trivial (xG_B rfl rfl k1 k2)
set_option maxRecDepth 100000 in
theorem s_M_foretoldAt_4 {d : Nat} {Q : xO → xH → Prop} {sh : List xS} {I : Nat → Nat → Int32} {J : Nat → Nat → Int64} {r0 : Nat} {v1 : Int32} {v2 : Int32} {v3 : Int32}
    (k : Q (.inl (some (.int (-16777216 : Int32)))) (sh, I, J)) :
    xG d zm_M_foretoldAt (4, [some (.ref r0), some (.int v1), some (.int v2), some (.int v3)], []) (sh, I, J) Q := by
  exact xG_N 1 (ps := []) (f1 := (6, [some (.ref r0), some (.int v1), some (.int v2), some (.int v3)], [.int (-16777216 : Int32)])) (h1 := (sh, I, J)) rfl trivial (xG_Q rfl rfl trivial k)
set_option maxRecDepth 100000 in
theorem s_M_foretoldAt_7 {d : Nat} {Q : xO → xH → Prop} {sh : List xS} {I : Nat → Nat → Int32} {J : Nat → Nat → Int64} {r0 : Nat} {v1 : Int32} {v2 : Int32} {v3 : Int32}
    (k1 : v2 ≤ v1 → xG d zm_M_foretoldAt (21, [some (.ref r0), some (.int v1), some (.int v2), some (.int v3)], []) (sh, I, J) Q)
    (k2 : ¬ (v2 ≤ v1) → xG d zm_M_foretoldAt (12, [some (.ref r0), some (.int v1), some (.int v2), some (.int v3)], []) (sh, I, J) Q) :
    xG d zm_M_foretoldAt (7, [some (.ref r0), some (.int v1), some (.int v2), some (.int v3)], []) (sh, I, J) Q := by
  exact xG_N 2 (ps := []) (f1 := (9, [some (.ref r0), some (.int v1), some (.int v2), some (.int v3)], [.int v2, .int v1])) (h1 := (sh, I, J)) rfl trivial (xG_B rfl rfl k1 k2)
set_option maxRecDepth 100000 in
theorem s_M_foretoldAt_12 {d : Nat} {Q : xO → xH → Prop} {sh : List xS} {I : Nat → Nat → Int32} {J : Nat → Nat → Int64} {r0 : Nat} {v1 : Int32} {v2 : Int32} {v3 : Int32} {a1 : Nat} {n2 : Nat}
    (e0 : xRr sh r0 10 14 a1)
    (e1 : xAr sh a1 .int n2)
    (e2 : vp_in (v1 - (1 : Int32)) n2)
    (k : Q (.inl (some (.int (I a1 (v1 - (1 : Int32)).toNatClampNeg)))) (sh, I, J)) :
    xG d zm_M_foretoldAt (12, [some (.ref r0), some (.int v1), some (.int v2), some (.int v3)], []) (sh, I, J) Q := by
  obtain rfl := e0.eq
  obtain rfl := e1.eq
  exact xG_N 6 (ps := [xRf sh r0 10 14, xA sh (xrf sh r0 14) .int, vp_in (v1 - (1 : Int32)) (xlen sh (xrf sh r0 14))]) (f1 := (20, [some (.ref r0), some (.int v1), some (.int v2), some (.int v3)], [.int (I (xrf sh r0 14) (v1 - (1 : Int32)).toNatClampNeg)])) (h1 := (sh, I, J)) rfl ⟨e0.rf, e1.ar, e2⟩ (xG_Q rfl rfl trivial k)
set_option maxRecDepth 100000 in
theorem s_M_foretoldAt_21 {d : Nat} {Q : xO → xH → Prop} {sh : List xS} {I : Nat → Nat → Int32} {J : Nat → Nat → Int64} {r0 : Nat} {v1 : Int32} {v2 : Int32} {v3 : Int32}
    (e0 : ¬ v2 = 0)
    (k1 : ¬ (v1 - v1 / v2 * v2) = 0 → xG d zm_M_foretoldAt (36, [some (.ref r0), some (.int v1), some (.int v2), some (.int v3)], []) (sh, I, J) Q)
    (k2 : ¬ (¬ (v1 - v1 / v2 * v2) = 0) → xG d zm_M_foretoldAt (27, [some (.ref r0), some (.int v1), some (.int v2), some (.int v3)], []) (sh, I, J) Q) :
    xG d zm_M_foretoldAt (21, [some (.ref r0), some (.int v1), some (.int v2), some (.int v3)], []) (sh, I, J) Q := by
  exact xG_N 3 (ps := [¬ v2 = 0]) (f1 := (24, [some (.ref r0), some (.int v1), some (.int v2), some (.int v3)], [.int (v1 - v1 / v2 * v2)])) (h1 := (sh, I, J)) rfl e0 (xG_B rfl rfl k1 k2)
set_option maxRecDepth 100000 in
theorem s_M_foretoldAt_27 {d : Nat} {Q : xO → xH → Prop} {sh : List xS} {I : Nat → Nat → Int32} {J : Nat → Nat → Int64} {r0 : Nat} {v1 : Int32} {v2 : Int32} {v3 : Int32} {a1 : Nat} {n2 : Nat}
    (e0 : xRr sh r0 10 14 a1)
    (e1 : xAr sh a1 .int n2)
    (e2 : vp_in (v1 - v2) n2)
    (k : Q (.inl (some (.int (I a1 (v1 - v2).toNatClampNeg)))) (sh, I, J)) :
    xG d zm_M_foretoldAt (27, [some (.ref r0), some (.int v1), some (.int v2), some (.int v3)], []) (sh, I, J) Q := by
  obtain rfl := e0.eq
  obtain rfl := e1.eq
  exact xG_N 6 (ps := [xRf sh r0 10 14, xA sh (xrf sh r0 14) .int, vp_in (v1 - v2) (xlen sh (xrf sh r0 14))]) (f1 := (35, [some (.ref r0), some (.int v1), some (.int v2), some (.int v3)], [.int (I (xrf sh r0 14) (v1 - v2).toNatClampNeg)])) (h1 := (sh, I, J)) rfl ⟨e0.rf, e1.ar, e2⟩ (xG_Q rfl rfl trivial k)
set_option maxRecDepth 100000 in
theorem s_M_foretoldAt_36 {d : Nat} {Q : xO → xH → Prop} {sh : List xS} {I : Nat → Nat → Int32} {J : Nat → Nat → Int64} {r0 : Nat} {v1 : Int32} {v2 : Int32} {v3 : Int32} {a1 : Nat} {n2 : Nat}
    (e0 : xRr sh r0 10 14 a1)
    (e1 : xAr sh a1 .int n2)
    (e2 : vp_in (v1 - (1 : Int32)) n2)
    (e3 : vp_in (v1 - v2) n2)
    (e4 : vp_in ((v1 - v2) - (1 : Int32)) n2)
    (e5 : vp_in ((v1 - v2) + (1 : Int32)) n2)
    (k : xg d qM_foretold [.int v3, .int (I a1 (v1 - (1 : Int32)).toNatClampNeg), .int (I a1 (v1 - v2).toNatClampNeg), .int (I a1 ((v1 - v2) - (1 : Int32)).toNatClampNeg), .int (I a1 ((v1 - v2) + (1 : Int32)).toNatClampNeg)] (sh, I, J) (xI (fun v h1 => xG d zm_M_foretoldAt (76, [some (.ref r0), some (.int v1), some (.int v2), some (.int v3)], [.int v]) h1 Q) (fun x h1 => Q (.inr x) h1))) :
    xG d zm_M_foretoldAt (36, [some (.ref r0), some (.int v1), some (.int v2), some (.int v3)], []) (sh, I, J) Q := by
  obtain rfl := e0.eq
  obtain rfl := e1.eq
  exact xG_N 29 (ps := [xRf sh r0 10 14, xA sh (xrf sh r0 14) .int, vp_in (v1 - (1 : Int32)) (xlen sh (xrf sh r0 14)), xRf sh r0 10 14, xA sh (xrf sh r0 14) .int, vp_in (v1 - v2) (xlen sh (xrf sh r0 14)), xRf sh r0 10 14, xA sh (xrf sh r0 14) .int, vp_in ((v1 - v2) - (1 : Int32)) (xlen sh (xrf sh r0 14)), xRf sh r0 10 14, xA sh (xrf sh r0 14) .int, vp_in ((v1 - v2) + (1 : Int32)) (xlen sh (xrf sh r0 14))]) (f1 := (73, [some (.ref r0), some (.int v1), some (.int v2), some (.int v3)], [.int (I (xrf sh r0 14) ((v1 - v2) + (1 : Int32)).toNatClampNeg), .int (I (xrf sh r0 14) ((v1 - v2) - (1 : Int32)).toNatClampNeg), .int (I (xrf sh r0 14) (v1 - v2).toNatClampNeg), .int (I (xrf sh r0 14) (v1 - (1 : Int32)).toNatClampNeg), .int v3])) (h1 := (sh, I, J)) rfl ⟨e0.rf, e1.ar, e2, e0.rf, e1.ar, e3, e0.rf, e1.ar, e4, e0.rf, e1.ar, e5⟩ (xG_Ci rfl rfl (Nat.le_of_ble_eq_true rfl) (Nat.le_of_ble_eq_true rfl) trivial rfl k)
set_option maxRecDepth 100000 in
theorem s_M_foretoldAt_76 {d : Nat} {Q : xO → xH → Prop} {sh : List xS} {I : Nat → Nat → Int32} {J : Nat → Nat → Int64} {r0 : Nat} {v1 : Int32} {v2 : Int32} {v3 : Int32} {t0 : Int32}
    (k : Q (.inl (some (.int t0))) (sh, I, J)) :
    xG d zm_M_foretoldAt (76, [some (.ref r0), some (.int v1), some (.int v2), some (.int v3)], [.int t0]) (sh, I, J) Q := by
  exact xG_Q rfl rfl trivial k
set_option maxRecDepth 100000 in
theorem s_M_base_0 {d : Nat} {Q : xO → xH → Prop} {sh : List xS} {I : Nat → Nat → Int32} {J : Nat → Nat → Int64} {v0 : Int32}
    (k1 : ¬ v0 = 0 → xG d zm_M_base (8, [some (.int v0)], []) (sh, I, J) Q)
    (k2 : ¬ (¬ v0 = 0) → xG d zm_M_base (4, [some (.int v0)], []) (sh, I, J) Q) :
    xG d zm_M_base (0, [some (.int v0)], []) (sh, I, J) Q := by
  exact xG_N 1 (ps := []) (f1 := (1, [some (.int v0)], [.int v0])) (h1 := (sh, I, J)) rfl trivial (xG_B rfl rfl k1 k2)
set_option maxRecDepth 100000 in
theorem s_M_base_4 {d : Nat} {Q : xO → xH → Prop} {sh : List xS} {I : Nat → Nat → Int32} {J : Nat → Nat → Int64} {v0 : Int32}
    (k : Q (.inl (some (.int (0 : Int32)))) (sh, I, J)) :
    xG d zm_M_base (4, [some (.int v0)], []) (sh, I, J) Q := by
  exact xG_N 2 (ps := []) (f1 := (38, [some (.int v0)], [.int (0 : Int32)])) (h1 := (sh, I, J)) rfl trivial (xG_Q rfl rfl trivial k)
set_option maxRecDepth 100000 in
theorem s_M_base_8 {d : Nat} {Q : xO → xH → Prop} {sh : List xS} {I : Nat → Nat → Int32} {J : Nat → Nat → Int64} {v0 : Int32}
    (k1 : (4 : Int32) ≤ v0 → xG d zm_M_base (24, [some (.int v0)], []) (sh, I, J) Q)
    (k2 : ¬ ((4 : Int32) ≤ v0) → xG d zm_M_base (13, [some (.int v0)], []) (sh, I, J) Q) :
    xG d zm_M_base (8, [some (.int v0)], []) (sh, I, J) Q := by
  exact xG_N 2 (ps := []) (f1 := (10, [some (.int v0)], [.int (4 : Int32), .int v0])) (h1 := (sh, I, J)) rfl trivial (xG_B rfl rfl k1 k2)
set_option maxRecDepth 100000 in
theorem s_M_base_13 {d : Nat} {Q : xO → xH → Prop} {sh : List xS} {I : Nat → Nat → Int32} {J : Nat → Nat → Int64} {v0 : Int32}
    (k : Q (.inl (some (.int ((40 : Int32) + ((256 : Int32) * v0))))) (sh, I, J)) :
    xG d zm_M_base (13, [some (.int v0)], []) (sh, I, J) Q := by
  exact xG_N 6 (ps := []) (f1 := (38, [some (.int v0)], [.int ((40 : Int32) + ((256 : Int32) * v0))])) (h1 := (sh, I, J)) rfl trivial (xG_Q rfl rfl trivial k)
set_option maxRecDepth 100000 in
theorem s_M_base_24 {d : Nat} {Q : xO → xH → Prop} {sh : List xS} {I : Nat → Nat → Int32} {J : Nat → Nat → Int64} {v0 : Int32}
    (k1 : ¬ v0 = (4 : Int32) → xG d zm_M_base (35, [some (.int v0)], []) (sh, I, J) Q)
    (k2 : ¬ (¬ v0 = (4 : Int32)) → xG d zm_M_base (29, [some (.int v0)], []) (sh, I, J) Q) :
    xG d zm_M_base (24, [some (.int v0)], []) (sh, I, J) Q := by
  exact xG_N 2 (ps := []) (f1 := (26, [some (.int v0)], [.int (4 : Int32), .int v0])) (h1 := (sh, I, J)) rfl trivial (xG_B rfl rfl k1 k2)
set_option maxRecDepth 100000 in
theorem s_M_base_29 {d : Nat} {Q : xO → xH → Prop} {sh : List xS} {I : Nat → Nat → Int32} {J : Nat → Nat → Int64} {v0 : Int32}
    (k : Q (.inl (some (.int (1064 : Int32)))) (sh, I, J)) :
    xG d zm_M_base (29, [some (.int v0)], []) (sh, I, J) Q := by
  exact xG_N 2 (ps := []) (f1 := (38, [some (.int v0)], [.int (1064 : Int32)])) (h1 := (sh, I, J)) rfl trivial (xG_Q rfl rfl trivial k)
set_option maxRecDepth 100000 in
theorem s_M_base_35 {d : Nat} {Q : xO → xH → Prop} {sh : List xS} {I : Nat → Nat → Int32} {J : Nat → Nat → Int64} {v0 : Int32}
    (k : Q (.inl (some (.int (1104 : Int32)))) (sh, I, J)) :
    xG d zm_M_base (35, [some (.int v0)], []) (sh, I, J) Q := by
  exact xG_N 1 (ps := []) (f1 := (38, [some (.int v0)], [.int (1104 : Int32)])) (h1 := (sh, I, J)) rfl trivial (xG_Q rfl rfl trivial k)
set_option maxRecDepth 100000 in
theorem s_M_many_0 {d : Nat} {Q : xO → xH → Prop} {sh : List xS} {I : Nat → Nat → Int32} {J : Nat → Nat → Int64} {r0 : Nat} {v1 : Int32} {v2 : Int32}
    (k : xg d qM_base [.int v1] (sh, I, J) (xI (fun v h1 => xG d zm_M_many (6, [some (.ref r0), some (.int v1), some (.int v2), some (.int (0 : Int32)), none], [.int v]) h1 Q) (fun x h1 => Q (.inr x) h1))) :
    xG d zm_M_many (0, [some (.ref r0), some (.int v1), some (.int v2), none, none], []) (sh, I, J) Q := by
  exact xG_N 3 (ps := []) (f1 := (3, [some (.ref r0), some (.int v1), some (.int v2), some (.int (0 : Int32)), none], [.int v1])) (h1 := (sh, I, J)) rfl trivial (xG_Ci rfl rfl (Nat.le_of_ble_eq_true rfl) (Nat.le_of_ble_eq_true rfl) trivial rfl k)
set_option maxRecDepth 100000 in
theorem s_M_many_6 {d : Nat} {Q : xO → xH → Prop} {sh : List xS} {I : Nat → Nat → Int32} {J : Nat → Nat → Int64} {r0 : Nat} {v1 : Int32} {v2 : Int32} {v3 : Int32} {t0 : Int32}
    (k : xG d zm_M_many (8, [some (.ref r0), some (.int v1), some (.int v2), some (.int v3), some (.int t0)], []) (sh, I, J) Q) :
    xG d zm_M_many (6, [some (.ref r0), some (.int v1), some (.int v2), some (.int v3), none], [.int t0]) (sh, I, J) Q := by
  exact xG_N 1 (ps := []) (f1 := (8, [some (.ref r0), some (.int v1), some (.int v2), some (.int v3), some (.int t0)], [])) (h1 := (sh, I, J)) rfl trivial (k)
set_option maxRecDepth 100000 in
theorem s_M_many_8 {d : Nat} {Q : xO → xH → Prop} {sh : List xS} {I : Nat → Nat → Int32} {J : Nat → Nat → Int64} {r0 : Nat} {v1 : Int32} {v2 : Int32} {v3 : Int32} {v4 : Int32}
    (k : xg d qM_base [.int v1] (sh, I, J) (xI (fun v h1 => xG d zm_M_many (14, [some (.ref r0), some (.int v1), some (.int v2), some (.int v3), some (.int v4)], [.int v, .int v4]) h1 Q) (fun x h1 => Q (.inr x) h1))) :
    xG d zm_M_many (8, [some (.ref r0), some (.int v1), some (.int v2), some (.int v3), some (.int v4)], []) (sh, I, J) Q := by
  exact xG_N 2 (ps := []) (f1 := (11, [some (.ref r0), some (.int v1), some (.int v2), some (.int v3), some (.int v4)], [.int v1, .int v4])) (h1 := (sh, I, J)) rfl trivial (xG_Ci rfl rfl (Nat.le_of_ble_eq_true rfl) (Nat.le_of_ble_eq_true rfl) trivial rfl k)
set_option maxRecDepth 100000 in
theorem s_M_many_14 {d : Nat} {Q : xO → xH → Prop} {sh : List xS} {I : Nat → Nat → Int32} {J : Nat → Nat → Int64} {r0 : Nat} {v1 : Int32} {v2 : Int32} {v3 : Int32} {v4 : Int32} {t0 : Int32} {t1 : Int32} {a1 : Nat} {n2 : Nat}
    (e0 : xRr sh r0 10 12 a1)
    (e1 : xAr sh a1 .int n2)
    (e2 : vp_in v1 n2)
    (k1 : (t1 + (I a1 v1.toNatClampNeg)) ≤ t0 → xG d zm_M_many (49, [some (.ref r0), some (.int v1), some (.int v2), some (.int v3), some (.int v4)], []) (sh, I, J) Q)
    (k2 : ¬ ((t1 + (I a1 v1.toNatClampNeg)) ≤ t0) → xG d zm_M_many (24, [some (.ref r0), some (.int v1), some (.int v2), some (.int v3), some (.int v4)], []) (sh, I, J) Q) :
    xG d zm_M_many (14, [some (.ref r0), some (.int v1), some (.int v2), some (.int v3), some (.int v4)], [.int t1, .int t0]) (sh, I, J) Q := by
  obtain rfl := e0.eq
  obtain rfl := e1.eq
  exact xG_N 5 (ps := [xRf sh r0 10 12, xA sh (xrf sh r0 12) .int, vp_in v1 (xlen sh (xrf sh r0 12))]) (f1 := (21, [some (.ref r0), some (.int v1), some (.int v2), some (.int v3), some (.int v4)], [.int (t1 + (I (xrf sh r0 12) v1.toNatClampNeg)), .int t0])) (h1 := (sh, I, J)) rfl ⟨e0.rf, e1.ar, e2⟩ (xG_B rfl rfl k1 k2)
set_option maxRecDepth 100000 in
theorem s_M_many_24 {d : Nat} {Q : xO → xH → Prop} {sh : List xS} {I : Nat → Nat → Int32} {J : Nat → Nat → Int64} {r0 : Nat} {v1 : Int32} {v2 : Int32} {v3 : Int32} {v4 : Int32} {a1 : Nat} {n2 : Nat}
    (e0 : xRr sh r0 10 10 a1)
    (e1 : xAr sh a1 .int n2)
    (e2 : vp_in v4 n2)
    (k1 : ¬ (I a1 v4.toNatClampNeg) = v2 → xG d zm_M_many (41, [some (.ref r0), some (.int v1), some (.int v2), some (.int v3), some (.int v4)], []) (sh, I, J) Q)
    (k2 : ¬ (¬ (I a1 v4.toNatClampNeg) = v2) → xG d zm_M_many (35, [some (.ref r0), some (.int v1), some (.int v2), some (.int v3), some (.int v4)], []) (sh, I, J) Q) :
    xG d zm_M_many (24, [some (.ref r0), some (.int v1), some (.int v2), some (.int v3), some (.int v4)], []) (sh, I, J) Q := by
  obtain rfl := e0.eq
  obtain rfl := e1.eq
  exact xG_N 5 (ps := [xRf sh r0 10 10, xA sh (xrf sh r0 10) .int, vp_in v4 (xlen sh (xrf sh r0 10))]) (f1 := (32, [some (.ref r0), some (.int v1), some (.int v2), some (.int v3), some (.int v4)], [.int v2, .int (I (xrf sh r0 10) v4.toNatClampNeg)])) (h1 := (sh, I, J)) rfl ⟨e0.rf, e1.ar, e2⟩ (xG_B rfl rfl k1 k2)
set_option maxRecDepth 100000 in
theorem s_M_many_35 {d : Nat} {Q : xO → xH → Prop} {sh : List xS} {I : Nat → Nat → Int32} {J : Nat → Nat → Int64} {r0 : Nat} {v1 : Int32} {v2 : Int32} {v3 : Int32} {v4 : Int32}
    (k : xG d zm_M_many (8, [some (.ref r0), some (.int v1), some (.int v2), some (.int (v3 + (1 : Int32))), some (.int (v4 + (1 : Int32)))], []) (sh, I, J) Q) :
    xG d zm_M_many (35, [some (.ref r0), some (.int v1), some (.int v2), some (.int v3), some (.int v4)], []) (sh, I, J) Q := by
  exact xG_N 7 (ps := []) (f1 := (8, [some (.ref r0), some (.int v1), some (.int v2), some (.int (v3 + (1 : Int32))), some (.int (v4 + (1 : Int32)))], [])) (h1 := (sh, I, J)) rfl trivial (k)
set_option maxRecDepth 100000 in
theorem s_M_many_41 {d : Nat} {Q : xO → xH → Prop} {sh : List xS} {I : Nat → Nat → Int32} {J : Nat → Nat → Int64} {r0 : Nat} {v1 : Int32} {v2 : Int32} {v3 : Int32} {v4 : Int32}
    (k : xG d zm_M_many (8, [some (.ref r0), some (.int v1), some (.int v2), some (.int v3), some (.int (v4 + (1 : Int32)))], []) (sh, I, J) Q) :
    xG d zm_M_many (41, [some (.ref r0), some (.int v1), some (.int v2), some (.int v3), some (.int v4)], []) (sh, I, J) Q := by
  exact xG_N 4 (ps := []) (f1 := (8, [some (.ref r0), some (.int v1), some (.int v2), some (.int v3), some (.int (v4 + (1 : Int32)))], [])) (h1 := (sh, I, J)) rfl trivial (k)
set_option maxRecDepth 100000 in
theorem s_M_many_49 {d : Nat} {Q : xO → xH → Prop} {sh : List xS} {I : Nat → Nat → Int32} {J : Nat → Nat → Int64} {r0 : Nat} {v1 : Int32} {v2 : Int32} {v3 : Int32} {v4 : Int32}
    (k : Q (.inl (some (.int v3))) (sh, I, J)) :
    xG d zm_M_many (49, [some (.ref r0), some (.int v1), some (.int v2), some (.int v3), some (.int v4)], []) (sh, I, J) Q := by
  exact xG_N 1 (ps := []) (f1 := (50, [some (.ref r0), some (.int v1), some (.int v2), some (.int v3), some (.int v4)], [.int v3])) (h1 := (sh, I, J)) rfl trivial (xG_Q rfl rfl trivial k)
set_option maxRecDepth 100000 in
theorem s_M_weigh_0 {d : Nat} {Q : xO → xH → Prop} {sh : List xS} {I : Nat → Nat → Int32} {J : Nat → Nat → Int64} {r0 : Nat} {v1 : Int32} {a1 : Nat} {n2 : Nat}
    (e0 : xRr sh r0 10 13 a1)
    (e1 : xAr sh a1 .int n2)
    (e2 : 4 ≤ a1)
    (e3 : vp_in v1 n2)
    (k : xG d zm_M_weigh (14, [some (.ref r0), some (.int v1), some (.int (0 : Int32)), some (.int (0 : Int32)), some (.int (0 : Int32)), none], []) (sh, xup I a1 v1.toNatClampNeg (-1 : Int32), J) Q) :
    xG d zm_M_weigh (0, [some (.ref r0), some (.int v1), none, none, none, none], []) (sh, I, J) Q := by
  obtain rfl := e0.eq
  obtain rfl := e1.eq
  exact xG_N 11 (ps := [xRf sh r0 10 13, xW sh (xrf sh r0 13) .int, vp_in v1 (xlen sh (xrf sh r0 13))]) (f1 := (14, [some (.ref r0), some (.int v1), some (.int (0 : Int32)), some (.int (0 : Int32)), some (.int (0 : Int32)), none], [])) (h1 := (sh, xup I (xrf sh r0 13) v1.toNatClampNeg (-1 : Int32), J)) rfl ⟨e0.rf, ⟨e1.ar, e2⟩, e3⟩ (k)
set_option maxRecDepth 100000 in
theorem s_M_weigh_14 {d : Nat} {Q : xO → xH → Prop} {sh : List xS} {I : Nat → Nat → Int32} {J : Nat → Nat → Int64} {r0 : Nat} {v1 : Int32} {v2 : Int32} {v3 : Int32} {v4 : Int32} {o5 : Option Value} {a1 : Nat} {n2 : Nat}
    (e0 : xRr sh r0 10 12 a1)
    (e1 : xAr sh a1 .int n2)
    (e2 : vp_in v1 n2)
    (k1 : (I a1 v1.toNatClampNeg) ≤ v4 → xG d zm_M_weigh (71, [some (.ref r0), some (.int v1), some (.int v2), some (.int v3), some (.int v4), o5], []) (sh, I, J) Q)
    (k2 : ¬ ((I a1 v1.toNatClampNeg) ≤ v4) → xG d zm_M_weigh (25, [some (.ref r0), some (.int v1), some (.int v2), some (.int v3), some (.int v4), o5], []) (sh, I, J) Q) :
    xG d zm_M_weigh (14, [some (.ref r0), some (.int v1), some (.int v2), some (.int v3), some (.int v4), o5], []) (sh, I, J) Q := by
  obtain rfl := e0.eq
  obtain rfl := e1.eq
  exact xG_N 5 (ps := [xRf sh r0 10 12, xA sh (xrf sh r0 12) .int, vp_in v1 (xlen sh (xrf sh r0 12))]) (f1 := (22, [some (.ref r0), some (.int v1), some (.int v2), some (.int v3), some (.int v4), o5], [.int (I (xrf sh r0 12) v1.toNatClampNeg), .int v4])) (h1 := (sh, I, J)) rfl ⟨e0.rf, e1.ar, e2⟩ (xG_B rfl rfl k1 k2)
set_option maxRecDepth 100000 in
theorem s_M_weigh_25 {d : Nat} {Q : xO → xH → Prop} {sh : List xS} {I : Nat → Nat → Int32} {J : Nat → Nat → Int64} {r0 : Nat} {v1 : Int32} {v2 : Int32} {v3 : Int32} {v4 : Int32} {o5 : Option Value} {a1 : Nat}
    (e0 : xRr sh r0 10 10 a1)
    (k : xg d qM_base [.int v1] (sh, I, J) (xI (fun v h1 => xG d zm_M_weigh (33, [some (.ref r0), some (.int v1), some (.int v2), some (.int v3), some (.int v4), o5], [.int v, .ref a1]) h1 Q) (fun x h1 => Q (.inr x) h1))) :
    xG d zm_M_weigh (25, [some (.ref r0), some (.int v1), some (.int v2), some (.int v3), some (.int v4), o5], []) (sh, I, J) Q := by
  obtain rfl := e0.eq
  exact xG_N 3 (ps := [xRf sh r0 10 10]) (f1 := (30, [some (.ref r0), some (.int v1), some (.int v2), some (.int v3), some (.int v4), o5], [.int v1, .ref (xrf sh r0 10)])) (h1 := (sh, I, J)) rfl e0.rf (xG_Ci rfl rfl (Nat.le_of_ble_eq_true rfl) (Nat.le_of_ble_eq_true rfl) trivial rfl k)
set_option maxRecDepth 100000 in
theorem s_M_weigh_33 {d : Nat} {Q : xO → xH → Prop} {sh : List xS} {I : Nat → Nat → Int32} {J : Nat → Nat → Int64} {r0 : Nat} {v1 : Int32} {v2 : Int32} {v3 : Int32} {v4 : Int32} {o5 : Option Value} {t0 : Nat} {t1 : Int32} {n1 : Nat}
    (e0 : xAr sh t0 .int n1)
    (e1 : vp_in (t1 + v4) n1)
    (k1 : (I t0 (t1 + v4).toNatClampNeg) ≤ 0 → xG d zm_M_weigh (65, [some (.ref r0), some (.int v1), some (.int v2), some (.int v3), some (.int v4), some (.int (I t0 (t1 + v4).toNatClampNeg))], []) (sh, I, J) Q)
    (k2 : ¬ ((I t0 (t1 + v4).toNatClampNeg) ≤ 0) → xG d zm_M_weigh (44, [some (.ref r0), some (.int v1), some (.int v2), some (.int v3), some (.int v4), some (.int (I t0 (t1 + v4).toNatClampNeg))], []) (sh, I, J) Q) :
    xG d zm_M_weigh (33, [some (.ref r0), some (.int v1), some (.int v2), some (.int v3), some (.int v4), o5], [.int t1, .ref t0]) (sh, I, J) Q := by
  obtain rfl := e0.eq
  exact xG_N 5 (ps := [xA sh t0 .int, vp_in (t1 + v4) (xlen sh t0)]) (f1 := (41, [some (.ref r0), some (.int v1), some (.int v2), some (.int v3), some (.int v4), some (.int (I t0 (t1 + v4).toNatClampNeg))], [.int (I t0 (t1 + v4).toNatClampNeg)])) (h1 := (sh, I, J)) rfl ⟨e0.ar, e1⟩ (xG_B rfl rfl k1 k2)
set_option maxRecDepth 100000 in
theorem s_M_weigh_44 {d : Nat} {Q : xO → xH → Prop} {sh : List xS} {I : Nat → Nat → Int32} {J : Nat → Nat → Int64} {r0 : Nat} {v1 : Int32} {v2 : Int32} {v3 : Int32} {v4 : Int32} {v5 : Int32} {a1 : Nat} {n2 : Nat}
    (e0 : xRr sh r0 10 13 a1)
    (e1 : xAr sh a1 .int n2)
    (e2 : 4 ≤ a1)
    (e3 : vp_in v1 n2)
    (k : xG d zm_M_weigh (14, [some (.ref r0), some (.int v1), some (.int (v2 + ((1 : Int32) <<< (((15 : Int32) - v5) &&& 31)))), some (.int (v3 + (1 : Int32))), some (.int (v4 + (1 : Int32))), some (.int v5)], []) (sh, xup I a1 v1.toNatClampNeg v4, J) Q) :
    xG d zm_M_weigh (44, [some (.ref r0), some (.int v1), some (.int v2), some (.int v3), some (.int v4), some (.int v5)], []) (sh, I, J) Q := by
  obtain rfl := e0.eq
  obtain rfl := e1.eq
  exact xG_N 16 (ps := [xRf sh r0 10 13, xW sh (xrf sh r0 13) .int, vp_in v1 (xlen sh (xrf sh r0 13))]) (f1 := (14, [some (.ref r0), some (.int v1), some (.int (v2 + ((1 : Int32) <<< (((15 : Int32) - v5) &&& 31)))), some (.int (v3 + (1 : Int32))), some (.int (v4 + (1 : Int32))), some (.int v5)], [])) (h1 := (sh, xup I (xrf sh r0 13) v1.toNatClampNeg v4, J)) rfl ⟨e0.rf, ⟨e1.ar, e2⟩, e3⟩ (k)
set_option maxRecDepth 100000 in
theorem s_M_weigh_65 {d : Nat} {Q : xO → xH → Prop} {sh : List xS} {I : Nat → Nat → Int32} {J : Nat → Nat → Int64} {r0 : Nat} {v1 : Int32} {v2 : Int32} {v3 : Int32} {v4 : Int32} {v5 : Int32}
    (k : xG d zm_M_weigh (14, [some (.ref r0), some (.int v1), some (.int v2), some (.int v3), some (.int (v4 + (1 : Int32))), some (.int v5)], []) (sh, I, J) Q) :
    xG d zm_M_weigh (65, [some (.ref r0), some (.int v1), some (.int v2), some (.int v3), some (.int v4), some (.int v5)], []) (sh, I, J) Q := by
  exact xG_N 2 (ps := []) (f1 := (14, [some (.ref r0), some (.int v1), some (.int v2), some (.int v3), some (.int (v4 + (1 : Int32))), some (.int v5)], [])) (h1 := (sh, I, J)) rfl trivial (k)
set_option maxRecDepth 100000 in
theorem s_M_weigh_71 {d : Nat} {Q : xO → xH → Prop} {sh : List xS} {I : Nat → Nat → Int32} {J : Nat → Nat → Int64} {r0 : Nat} {v1 : Int32} {v2 : Int32} {v3 : Int32} {v4 : Int32} {o5 : Option Value}
    (e0 : xOb sh r0 10)
    (k1 : ¬ (I r0 9) = 0 → xG d zm_M_weigh (90, [some (.ref r0), some (.int v1), some (.int v2), some (.int v3), some (.int v4), o5], [.ref r0]) (sh, I, J) Q)
    (k2 : ¬ (¬ (I r0 9) = 0) → xG d zm_M_weigh (79, [some (.ref r0), some (.int v1), some (.int v2), some (.int v3), some (.int v4), o5], [.ref r0]) (sh, I, J) Q) :
    xG d zm_M_weigh (71, [some (.ref r0), some (.int v1), some (.int v2), some (.int v3), some (.int v4), o5], []) (sh, I, J) Q := by
  exact xG_N 3 (ps := [xOb sh r0 10]) (f1 := (76, [some (.ref r0), some (.int v1), some (.int v2), some (.int v3), some (.int v4), o5], [.int (I r0 9), .ref r0])) (h1 := (sh, I, J)) rfl e0 (xG_B rfl rfl k1 k2)
set_option maxRecDepth 100000 in
theorem s_M_weigh_79 {d : Nat} {Q : xO → xH → Prop} {sh : List xS} {I : Nat → Nat → Int32} {J : Nat → Nat → Int64} {r0 : Nat} {v1 : Int32} {v2 : Int32} {v3 : Int32} {v4 : Int32} {o5 : Option Value} {t0 : Nat}
    (k1 : v3 = (1 : Int32) → xG d zm_M_weigh (94, [some (.ref r0), some (.int v1), some (.int v2), some (.int v3), some (.int v4), o5], [.ref t0]) (sh, I, J) Q)
    (k2 : ¬ (v3 = (1 : Int32)) → xG d zm_M_weigh (84, [some (.ref r0), some (.int v1), some (.int v2), some (.int v3), some (.int v4), o5], [.ref t0]) (sh, I, J) Q) :
    xG d zm_M_weigh (79, [some (.ref r0), some (.int v1), some (.int v2), some (.int v3), some (.int v4), o5], [.ref t0]) (sh, I, J) Q := by
  exact xG_N 2 (ps := []) (f1 := (81, [some (.ref r0), some (.int v1), some (.int v2), some (.int v3), some (.int v4), o5], [.int (1 : Int32), .int v3, .ref t0])) (h1 := (sh, I, J)) rfl trivial (xG_B rfl rfl k1 k2)
set_option maxRecDepth 100000 in
theorem s_M_weigh_84 {d : Nat} {Q : xO → xH → Prop} {sh : List xS} {I : Nat → Nat → Int32} {J : Nat → Nat → Int64} {r0 : Nat} {v1 : Int32} {v2 : Int32} {v3 : Int32} {v4 : Int32} {o5 : Option Value} {t0 : Nat}
    (k1 : v2 = (32768 : Int32) → xG d zm_M_weigh (94, [some (.ref r0), some (.int v1), some (.int v2), some (.int v3), some (.int v4), o5], [.ref t0]) (sh, I, J) Q)
    (k2 : ¬ (v2 = (32768 : Int32)) → xG d zm_M_weigh (90, [some (.ref r0), some (.int v1), some (.int v2), some (.int v3), some (.int v4), o5], [.ref t0]) (sh, I, J) Q) :
    xG d zm_M_weigh (84, [some (.ref r0), some (.int v1), some (.int v2), some (.int v3), some (.int v4), o5], [.ref t0]) (sh, I, J) Q := by
  exact xG_N 2 (ps := []) (f1 := (87, [some (.ref r0), some (.int v1), some (.int v2), some (.int v3), some (.int v4), o5], [.int (32768 : Int32), .int v2, .ref t0])) (h1 := (sh, I, J)) rfl trivial (xG_B rfl rfl k1 k2)
set_option maxRecDepth 100000 in
theorem s_M_weigh_90 {d : Nat} {Q : xO → xH → Prop} {sh : List xS} {I : Nat → Nat → Int32} {J : Nat → Nat → Int64} {r0 : Nat} {v1 : Int32} {v2 : Int32} {v3 : Int32} {v4 : Int32} {o5 : Option Value} {t0 : Nat} {a1 : Nat}
    (e0 : xOb sh t0 10)
    (e1 : xRr sh r0 10 13 a1)
    (k1 : ¬ v3 = (1 : Int32) → xG d zm_M_weigh (117, [some (.ref r0), some (.int v1), some (.int v2), some (.int v3), some (.int v4), o5], [.int v1, .ref a1]) (sh, xup I t0 9 (1 : Int32), J) Q)
    (k2 : ¬ (¬ v3 = (1 : Int32)) → xG d zm_M_weigh (108, [some (.ref r0), some (.int v1), some (.int v2), some (.int v3), some (.int v4), o5], [.int v1, .ref a1]) (sh, xup I t0 9 (1 : Int32), J) Q) :
    xG d zm_M_weigh (90, [some (.ref r0), some (.int v1), some (.int v2), some (.int v3), some (.int v4), o5], [.ref t0]) (sh, I, J) Q := by
  obtain rfl := e1.eq
  exact xG_N 8 (ps := [xOb sh t0 10, ((1 : Int32) : Int32) = 0 ∨ ((1 : Int32) : Int32) = 1, xRf sh r0 10 13]) (f1 := (105, [some (.ref r0), some (.int v1), some (.int v2), some (.int v3), some (.int v4), o5], [.int (1 : Int32), .int v3, .int v1, .ref (xrf sh r0 13)])) (h1 := (sh, xup I t0 9 (1 : Int32), J)) rfl ⟨e0, (show ((1 : Int32) : Int32) = 0 ∨ ((1 : Int32) : Int32) = 1 by decide), e1.rf⟩ (xG_B rfl rfl k1 k2)
set_option maxRecDepth 100000 in
theorem s_M_weigh_94 {d : Nat} {Q : xO → xH → Prop} {sh : List xS} {I : Nat → Nat → Int32} {J : Nat → Nat → Int64} {r0 : Nat} {v1 : Int32} {v2 : Int32} {v3 : Int32} {v4 : Int32} {o5 : Option Value} {t0 : Nat} {a1 : Nat}
    (e0 : xOb sh t0 10)
    (e1 : xRr sh r0 10 13 a1)
    (k1 : ¬ v3 = (1 : Int32) → xG d zm_M_weigh (117, [some (.ref r0), some (.int v1), some (.int v2), some (.int v3), some (.int v4), o5], [.int v1, .ref a1]) (sh, xup I t0 9 (0 : Int32), J) Q)
    (k2 : ¬ (¬ v3 = (1 : Int32)) → xG d zm_M_weigh (108, [some (.ref r0), some (.int v1), some (.int v2), some (.int v3), some (.int v4), o5], [.int v1, .ref a1]) (sh, xup I t0 9 (0 : Int32), J) Q) :
    xG d zm_M_weigh (94, [some (.ref r0), some (.int v1), some (.int v2), some (.int v3), some (.int v4), o5], [.ref t0]) (sh, I, J) Q := by
  obtain rfl := e1.eq
  exact xG_N 7 (ps := [xOb sh t0 10, ((0 : Int32) : Int32) = 0 ∨ ((0 : Int32) : Int32) = 1, xRf sh r0 10 13]) (f1 := (105, [some (.ref r0), some (.int v1), some (.int v2), some (.int v3), some (.int v4), o5], [.int (1 : Int32), .int v3, .int v1, .ref (xrf sh r0 13)])) (h1 := (sh, xup I t0 9 (0 : Int32), J)) rfl ⟨e0, (show ((0 : Int32) : Int32) = 0 ∨ ((0 : Int32) : Int32) = 1 by decide), e1.rf⟩ (xG_B rfl rfl k1 k2)
set_option maxRecDepth 100000 in
theorem s_M_weigh_108 {d : Nat} {Q : xO → xH → Prop} {sh : List xS} {I : Nat → Nat → Int32} {J : Nat → Nat → Int64} {r0 : Nat} {v1 : Int32} {v2 : Int32} {v3 : Int32} {v4 : Int32} {o5 : Option Value} {t0 : Nat} {t1 : Int32} {a1 : Nat} {n2 : Nat} {n3 : Nat}
    (e0 : xRr sh r0 10 13 a1)
    (e1 : xAr sh a1 .int n2)
    (e2 : vp_in v1 n2)
    (e3 : xAr sh t0 .int n3)
    (e4 : 4 ≤ t0)
    (e5 : vp_in t1 n3)
    (k : Q (.inl (none)) (sh, xup I t0 t1.toNatClampNeg (I a1 v1.toNatClampNeg), J)) :
    xG d zm_M_weigh (108, [some (.ref r0), some (.int v1), some (.int v2), some (.int v3), some (.int v4), o5], [.int t1, .ref t0]) (sh, I, J) Q := by
  obtain rfl := e0.eq
  obtain rfl := e1.eq
  obtain rfl := e3.eq
  exact xG_N 6 (ps := [xRf sh r0 10 13, xA sh (xrf sh r0 13) .int, vp_in v1 (xlen sh (xrf sh r0 13)), xW sh t0 .int, vp_in t1 (xlen sh t0)]) (f1 := (119, [some (.ref r0), some (.int v1), some (.int v2), some (.int v3), some (.int v4), o5], [])) (h1 := (sh, xup I t0 t1.toNatClampNeg (I (xrf sh r0 13) v1.toNatClampNeg), J)) rfl ⟨e0.rf, e1.ar, e2, ⟨e3.ar, e4⟩, e5⟩ (xG_Q rfl rfl trivial k)
set_option maxRecDepth 100000 in
theorem s_M_weigh_117 {d : Nat} {Q : xO → xH → Prop} {sh : List xS} {I : Nat → Nat → Int32} {J : Nat → Nat → Int64} {r0 : Nat} {v1 : Int32} {v2 : Int32} {v3 : Int32} {v4 : Int32} {o5 : Option Value} {t0 : Nat} {t1 : Int32} {n1 : Nat}
    (e0 : xAr sh t0 .int n1)
    (e1 : 4 ≤ t0)
    (e2 : vp_in t1 n1)
    (k : Q (.inl (none)) (sh, xup I t0 t1.toNatClampNeg (-1 : Int32), J)) :
    xG d zm_M_weigh (117, [some (.ref r0), some (.int v1), some (.int v2), some (.int v3), some (.int v4), o5], [.int t1, .ref t0]) (sh, I, J) Q := by
  obtain rfl := e0.eq
  exact xG_N 2 (ps := [xW sh t0 .int, vp_in t1 (xlen sh t0)]) (f1 := (119, [some (.ref r0), some (.int v1), some (.int v2), some (.int v3), some (.int v4), o5], [])) (h1 := (sh, xup I t0 t1.toNatClampNeg (-1 : Int32), J)) rfl ⟨⟨e0.ar, e1⟩, e2⟩ (xG_Q rfl rfl trivial k)
set_option maxRecDepth 100000 in
theorem s_M_bit_0 {d : Nat} {Q : xO → xH → Prop} {sh : List xS} {I : Nat → Nat → Int32} {J : Nat → Nat → Int64} {r0 : Nat}
    (e0 : xOb sh r0 10)
    (k1 : (I r0 8) < ((8 : Int32) * (I r0 5)) → xG d zm_M_bit (21, [some (.ref r0), none], []) (sh, I, J) Q)
    (k2 : ¬ ((I r0 8) < ((8 : Int32) * (I r0 5))) → xG d zm_M_bit (14, [some (.ref r0), none], []) (sh, I, J) Q) :
    xG d zm_M_bit (0, [some (.ref r0), none], []) (sh, I, J) Q := by
  exact xG_N 6 (ps := [xOb sh r0 10, xOb sh r0 10]) (f1 := (11, [some (.ref r0), none], [.int ((8 : Int32) * (I r0 5)), .int (I r0 8)])) (h1 := (sh, I, J)) rfl ⟨e0, e0⟩ (xG_B rfl rfl k1 k2)
set_option maxRecDepth 100000 in
theorem s_M_bit_14 {d : Nat} {Q : xO → xH → Prop} {sh : List xS} {I : Nat → Nat → Int32} {J : Nat → Nat → Int64} {r0 : Nat}
    (e0 : xOb sh r0 10)
    (k : Q (.inl (some (.int (0 : Int32)))) (sh, xup I r0 9 (1 : Int32), J)) :
    xG d zm_M_bit (14, [some (.ref r0), none], []) (sh, I, J) Q := by
  exact xG_N 4 (ps := [xOb sh r0 10, ((1 : Int32) : Int32) = 0 ∨ ((1 : Int32) : Int32) = 1]) (f1 := (20, [some (.ref r0), none], [.int (0 : Int32)])) (h1 := (sh, xup I r0 9 (1 : Int32), J)) rfl ⟨e0, (show ((1 : Int32) : Int32) = 0 ∨ ((1 : Int32) : Int32) = 1 by decide)⟩ (xG_Q rfl rfl trivial k)
set_option maxRecDepth 100000 in
theorem s_M_bit_21 {d : Nat} {Q : xO → xH → Prop} {sh : List xS} {I : Nat → Nat → Int32} {J : Nat → Nat → Int64} {r0 : Nat} {a1 : Nat} {n2 : Nat}
    (e0 : xRr sh r0 10 4 a1)
    (e1 : xAr sh a1 .int n2)
    (e2 : vp_in ((I r0 8) / (8 : Int32)) n2)
    (k : Q (.inl (some (.int (((I a1 ((I r0 8) / (8 : Int32)).toNatClampNeg) >>> (((I r0 8) - (I r0 8) / (8 : Int32) * (8 : Int32)) &&& 31)) &&& (1 : Int32))))) (sh, xup I r0 8 ((I r0 8) + (1 : Int32)), J)) :
    xG d zm_M_bit (21, [some (.ref r0), none], []) (sh, I, J) Q := by
  obtain rfl := e0.eq
  obtain rfl := e1.eq
  exact xG_N 22 (ps := [xRf sh r0 10 4, xOb sh r0 10, ¬ (8 : Int32) = 0, xA sh (xrf sh r0 4) .int, vp_in ((I r0 8) / (8 : Int32)) (xlen sh (xrf sh r0 4)), xOb sh r0 10, ¬ (8 : Int32) = 0, xOb sh r0 10, xOb sh r0 10]) (f1 := (55, [some (.ref r0), some (.int (((I (xrf sh r0 4) ((I r0 8) / (8 : Int32)).toNatClampNeg) >>> (((I r0 8) - (I r0 8) / (8 : Int32) * (8 : Int32)) &&& 31)) &&& (1 : Int32)))], [.int (((I (xrf sh r0 4) ((I r0 8) / (8 : Int32)).toNatClampNeg) >>> (((I r0 8) - (I r0 8) / (8 : Int32) * (8 : Int32)) &&& 31)) &&& (1 : Int32))])) (h1 := (sh, xup I r0 8 ((I r0 8) + (1 : Int32)), J)) rfl ⟨e0.rf, e0.ob, (show ¬ (8 : Int32) = 0 by decide), e1.ar, e2, e0.ob, (show ¬ (8 : Int32) = 0 by decide), e0.ob, e0.ob⟩ (xG_Q rfl rfl trivial k)
set_option maxRecDepth 100000 in
theorem s_M_bits_0 {d : Nat} {Q : xO → xH → Prop} {sh : List xS} {I : Nat → Nat → Int32} {J : Nat → Nat → Int64} {r0 : Nat} {v1 : Int32}
    (k : xG d zm_M_bits (4, [some (.ref r0), some (.int v1), some (.int (0 : Int32)), some (.int (0 : Int32))], []) (sh, I, J) Q) :
    xG d zm_M_bits (0, [some (.ref r0), some (.int v1), none, none], []) (sh, I, J) Q := by
  exact xG_N 4 (ps := []) (f1 := (4, [some (.ref r0), some (.int v1), some (.int (0 : Int32)), some (.int (0 : Int32))], [])) (h1 := (sh, I, J)) rfl trivial (k)
set_option maxRecDepth 100000 in
theorem s_M_bits_4 {d : Nat} {Q : xO → xH → Prop} {sh : List xS} {I : Nat → Nat → Int32} {J : Nat → Nat → Int64} {r0 : Nat} {v1 : Int32} {v2 : Int32} {v3 : Int32}
    (k1 : v1 ≤ v3 → xG d zm_M_bits (24, [some (.ref r0), some (.int v1), some (.int v2), some (.int v3)], []) (sh, I, J) Q)
    (k2 : ¬ (v1 ≤ v3) → xG d zm_M_bits (9, [some (.ref r0), some (.int v1), some (.int v2), some (.int v3)], []) (sh, I, J) Q) :
    xG d zm_M_bits (4, [some (.ref r0), some (.int v1), some (.int v2), some (.int v3)], []) (sh, I, J) Q := by
  exact xG_N 2 (ps := []) (f1 := (6, [some (.ref r0), some (.int v1), some (.int v2), some (.int v3)], [.int v1, .int v3])) (h1 := (sh, I, J)) rfl trivial (xG_B rfl rfl k1 k2)
set_option maxRecDepth 100000 in
theorem s_M_bits_9 {d : Nat} {Q : xO → xH → Prop} {sh : List xS} {I : Nat → Nat → Int32} {J : Nat → Nat → Int64} {r0 : Nat} {v1 : Int32} {v2 : Int32} {v3 : Int32}
    (ko : xOb sh r0 10)
    (k : xg d qM_bit [.ref r0] (sh, I, J) (xI (fun v h1 => xG d zm_M_bits (14, [some (.ref r0), some (.int v1), some (.int v2), some (.int v3)], [.int v, .int v2]) h1 Q) (fun x h1 => Q (.inr x) h1))) :
    xG d zm_M_bits (9, [some (.ref r0), some (.int v1), some (.int v2), some (.int v3)], []) (sh, I, J) Q := by
  exact xG_N 2 (ps := []) (f1 := (11, [some (.ref r0), some (.int v1), some (.int v2), some (.int v3)], [.ref r0, .int v2])) (h1 := (sh, I, J)) rfl trivial (xG_Ci rfl rfl (Nat.le_of_ble_eq_true rfl) (Nat.le_of_ble_eq_true rfl) ⟨_, _, rfl, ko⟩ rfl k)
set_option maxRecDepth 100000 in
theorem s_M_bits_14 {d : Nat} {Q : xO → xH → Prop} {sh : List xS} {I : Nat → Nat → Int32} {J : Nat → Nat → Int64} {r0 : Nat} {v1 : Int32} {v2 : Int32} {v3 : Int32} {t0 : Int32} {t1 : Int32}
    (k : xG d zm_M_bits (4, [some (.ref r0), some (.int v1), some (.int (t0 ||| (t1 <<< (v3 &&& 31)))), some (.int (v3 + (1 : Int32)))], []) (sh, I, J) Q) :
    xG d zm_M_bits (14, [some (.ref r0), some (.int v1), some (.int v2), some (.int v3)], [.int t1, .int t0]) (sh, I, J) Q := by
  exact xG_N 6 (ps := []) (f1 := (4, [some (.ref r0), some (.int v1), some (.int (t0 ||| (t1 <<< (v3 &&& 31)))), some (.int (v3 + (1 : Int32)))], [])) (h1 := (sh, I, J)) rfl trivial (k)
set_option maxRecDepth 100000 in
theorem s_M_bits_24 {d : Nat} {Q : xO → xH → Prop} {sh : List xS} {I : Nat → Nat → Int32} {J : Nat → Nat → Int64} {r0 : Nat} {v1 : Int32} {v2 : Int32} {v3 : Int32}
    (k : Q (.inl (some (.int v2))) (sh, I, J)) :
    xG d zm_M_bits (24, [some (.ref r0), some (.int v1), some (.int v2), some (.int v3)], []) (sh, I, J) Q := by
  exact xG_N 1 (ps := []) (f1 := (25, [some (.ref r0), some (.int v1), some (.int v2), some (.int v3)], [.int v2])) (h1 := (sh, I, J)) rfl trivial (xG_Q rfl rfl trivial k)
set_option maxRecDepth 100000 in
theorem s_M_symbolAt_0 {d : Nat} {Q : xO → xH → Prop} {sh : List xS} {I : Nat → Nat → Int32} {J : Nat → Nat → Int64} {r0 : Nat} {v1 : Int32} {v2 : Int32} {v3 : Int32}
    (k : xG d zm_M_symbolAt (6, [some (.ref r0), some (.int v1), some (.int v2), some (.int v3), some (.int v2), some (.int (0 : Int32))], []) (sh, I, J) Q) :
    xG d zm_M_symbolAt (0, [some (.ref r0), some (.int v1), some (.int v2), some (.int v3), none, none], []) (sh, I, J) Q := by
  exact xG_N 4 (ps := []) (f1 := (6, [some (.ref r0), some (.int v1), some (.int v2), some (.int v3), some (.int v2), some (.int (0 : Int32))], [])) (h1 := (sh, I, J)) rfl trivial (k)
set_option maxRecDepth 100000 in
theorem s_M_symbolAt_6 {d : Nat} {Q : xO → xH → Prop} {sh : List xS} {I : Nat → Nat → Int32} {J : Nat → Nat → Int64} {r0 : Nat} {v1 : Int32} {v2 : Int32} {v3 : Int32} {v4 : Int32} {v5 : Int32} {a1 : Nat} {n2 : Nat}
    (e0 : xRr sh r0 10 12 a1)
    (e1 : xAr sh a1 .int n2)
    (e2 : vp_in v1 n2)
    (k1 : (I a1 v1.toNatClampNeg) ≤ v5 → xG d zm_M_symbolAt (50, [some (.ref r0), some (.int v1), some (.int v2), some (.int v3), some (.int v4), some (.int v5)], []) (sh, I, J) Q)
    (k2 : ¬ ((I a1 v1.toNatClampNeg) ≤ v5) → xG d zm_M_symbolAt (17, [some (.ref r0), some (.int v1), some (.int v2), some (.int v3), some (.int v4), some (.int v5)], []) (sh, I, J) Q) :
    xG d zm_M_symbolAt (6, [some (.ref r0), some (.int v1), some (.int v2), some (.int v3), some (.int v4), some (.int v5)], []) (sh, I, J) Q := by
  obtain rfl := e0.eq
  obtain rfl := e1.eq
  exact xG_N 5 (ps := [xRf sh r0 10 12, xA sh (xrf sh r0 12) .int, vp_in v1 (xlen sh (xrf sh r0 12))]) (f1 := (14, [some (.ref r0), some (.int v1), some (.int v2), some (.int v3), some (.int v4), some (.int v5)], [.int (I (xrf sh r0 12) v1.toNatClampNeg), .int v5])) (h1 := (sh, I, J)) rfl ⟨e0.rf, e1.ar, e2⟩ (xG_B rfl rfl k1 k2)
set_option maxRecDepth 100000 in
theorem s_M_symbolAt_17 {d : Nat} {Q : xO → xH → Prop} {sh : List xS} {I : Nat → Nat → Int32} {J : Nat → Nat → Int64} {r0 : Nat} {v1 : Int32} {v2 : Int32} {v3 : Int32} {v4 : Int32} {v5 : Int32} {a1 : Nat}
    (e0 : xRr sh r0 10 10 a1)
    (k : xg d qM_base [.int v1] (sh, I, J) (xI (fun v h1 => xG d zm_M_symbolAt (25, [some (.ref r0), some (.int v1), some (.int v2), some (.int v3), some (.int v4), some (.int v5)], [.int v, .ref a1]) h1 Q) (fun x h1 => Q (.inr x) h1))) :
    xG d zm_M_symbolAt (17, [some (.ref r0), some (.int v1), some (.int v2), some (.int v3), some (.int v4), some (.int v5)], []) (sh, I, J) Q := by
  obtain rfl := e0.eq
  exact xG_N 3 (ps := [xRf sh r0 10 10]) (f1 := (22, [some (.ref r0), some (.int v1), some (.int v2), some (.int v3), some (.int v4), some (.int v5)], [.int v1, .ref (xrf sh r0 10)])) (h1 := (sh, I, J)) rfl e0.rf (xG_Ci rfl rfl (Nat.le_of_ble_eq_true rfl) (Nat.le_of_ble_eq_true rfl) trivial rfl k)
set_option maxRecDepth 100000 in
theorem s_M_symbolAt_25 {d : Nat} {Q : xO → xH → Prop} {sh : List xS} {I : Nat → Nat → Int32} {J : Nat → Nat → Int64} {r0 : Nat} {v1 : Int32} {v2 : Int32} {v3 : Int32} {v4 : Int32} {v5 : Int32} {t0 : Nat} {t1 : Int32} {n1 : Nat}
    (e0 : xAr sh t0 .int n1)
    (e1 : vp_in (t1 + v5) n1)
    (k1 : ¬ (I t0 (t1 + v5).toNatClampNeg) = v3 → xG d zm_M_symbolAt (44, [some (.ref r0), some (.int v1), some (.int v2), some (.int v3), some (.int v4), some (.int v5)], []) (sh, I, J) Q)
    (k2 : ¬ (¬ (I t0 (t1 + v5).toNatClampNeg) = v3) → xG d zm_M_symbolAt (33, [some (.ref r0), some (.int v1), some (.int v2), some (.int v3), some (.int v4), some (.int v5)], []) (sh, I, J) Q) :
    xG d zm_M_symbolAt (25, [some (.ref r0), some (.int v1), some (.int v2), some (.int v3), some (.int v4), some (.int v5)], [.int t1, .ref t0]) (sh, I, J) Q := by
  obtain rfl := e0.eq
  exact xG_N 4 (ps := [xA sh t0 .int, vp_in (t1 + v5) (xlen sh t0)]) (f1 := (30, [some (.ref r0), some (.int v1), some (.int v2), some (.int v3), some (.int v4), some (.int v5)], [.int v3, .int (I t0 (t1 + v5).toNatClampNeg)])) (h1 := (sh, I, J)) rfl ⟨e0.ar, e1⟩ (xG_B rfl rfl k1 k2)
set_option maxRecDepth 100000 in
theorem s_M_symbolAt_33 {d : Nat} {Q : xO → xH → Prop} {sh : List xS} {I : Nat → Nat → Int32} {J : Nat → Nat → Int64} {r0 : Nat} {v1 : Int32} {v2 : Int32} {v3 : Int32} {v4 : Int32} {v5 : Int32}
    (k1 : ¬ v4 = 0 → xG d zm_M_symbolAt (41, [some (.ref r0), some (.int v1), some (.int v2), some (.int v3), some (.int v4), some (.int v5)], []) (sh, I, J) Q)
    (k2 : ¬ (¬ v4 = 0) → xG d zm_M_symbolAt (38, [some (.ref r0), some (.int v1), some (.int v2), some (.int v3), some (.int v4), some (.int v5)], []) (sh, I, J) Q) :
    xG d zm_M_symbolAt (33, [some (.ref r0), some (.int v1), some (.int v2), some (.int v3), some (.int v4), some (.int v5)], []) (sh, I, J) Q := by
  exact xG_N 1 (ps := []) (f1 := (35, [some (.ref r0), some (.int v1), some (.int v2), some (.int v3), some (.int v4), some (.int v5)], [.int v4])) (h1 := (sh, I, J)) rfl trivial (xG_B rfl rfl k1 k2)
set_option maxRecDepth 100000 in
theorem s_M_symbolAt_38 {d : Nat} {Q : xO → xH → Prop} {sh : List xS} {I : Nat → Nat → Int32} {J : Nat → Nat → Int64} {r0 : Nat} {v1 : Int32} {v2 : Int32} {v3 : Int32} {v4 : Int32} {v5 : Int32}
    (k : Q (.inl (some (.int v5))) (sh, I, J)) :
    xG d zm_M_symbolAt (38, [some (.ref r0), some (.int v1), some (.int v2), some (.int v3), some (.int v4), some (.int v5)], []) (sh, I, J) Q := by
  exact xG_N 1 (ps := []) (f1 := (40, [some (.ref r0), some (.int v1), some (.int v2), some (.int v3), some (.int v4), some (.int v5)], [.int v5])) (h1 := (sh, I, J)) rfl trivial (xG_Q rfl rfl trivial k)
set_option maxRecDepth 100000 in
theorem s_M_symbolAt_41 {d : Nat} {Q : xO → xH → Prop} {sh : List xS} {I : Nat → Nat → Int32} {J : Nat → Nat → Int64} {r0 : Nat} {v1 : Int32} {v2 : Int32} {v3 : Int32} {v4 : Int32} {v5 : Int32}
    (k : xG d zm_M_symbolAt (6, [some (.ref r0), some (.int v1), some (.int v2), some (.int v3), some (.int (v4 + (-1 : Int32))), some (.int (v5 + (1 : Int32)))], []) (sh, I, J) Q) :
    xG d zm_M_symbolAt (41, [some (.ref r0), some (.int v1), some (.int v2), some (.int v3), some (.int v4), some (.int v5)], []) (sh, I, J) Q := by
  exact xG_N 3 (ps := []) (f1 := (6, [some (.ref r0), some (.int v1), some (.int v2), some (.int v3), some (.int (v4 + (-1 : Int32))), some (.int (v5 + (1 : Int32)))], [])) (h1 := (sh, I, J)) rfl trivial (k)
set_option maxRecDepth 100000 in
theorem s_M_symbolAt_44 {d : Nat} {Q : xO → xH → Prop} {sh : List xS} {I : Nat → Nat → Int32} {J : Nat → Nat → Int64} {r0 : Nat} {v1 : Int32} {v2 : Int32} {v3 : Int32} {v4 : Int32} {v5 : Int32}
    (k : xG d zm_M_symbolAt (6, [some (.ref r0), some (.int v1), some (.int v2), some (.int v3), some (.int v4), some (.int (v5 + (1 : Int32)))], []) (sh, I, J) Q) :
    xG d zm_M_symbolAt (44, [some (.ref r0), some (.int v1), some (.int v2), some (.int v3), some (.int v4), some (.int v5)], []) (sh, I, J) Q := by
  exact xG_N 2 (ps := []) (f1 := (6, [some (.ref r0), some (.int v1), some (.int v2), some (.int v3), some (.int v4), some (.int (v5 + (1 : Int32)))], [])) (h1 := (sh, I, J)) rfl trivial (k)
set_option maxRecDepth 100000 in
theorem s_M_symbolAt_50 {d : Nat} {Q : xO → xH → Prop} {sh : List xS} {I : Nat → Nat → Int32} {J : Nat → Nat → Int64} {r0 : Nat} {v1 : Int32} {v2 : Int32} {v3 : Int32} {v4 : Int32} {v5 : Int32}
    (k : Q (.inl (some (.int (0 : Int32)))) (sh, I, J)) :
    xG d zm_M_symbolAt (50, [some (.ref r0), some (.int v1), some (.int v2), some (.int v3), some (.int v4), some (.int v5)], []) (sh, I, J) Q := by
  exact xG_N 1 (ps := []) (f1 := (51, [some (.ref r0), some (.int v1), some (.int v2), some (.int v3), some (.int v4), some (.int v5)], [.int (0 : Int32)])) (h1 := (sh, I, J)) rfl trivial (xG_Q rfl rfl trivial k)
set_option maxRecDepth 100000 in
theorem s_M_symbol_0 {d : Nat} {Q : xO → xH → Prop} {sh : List xS} {I : Nat → Nat → Int32} {J : Nat → Nat → Int64} {r0 : Nat} {v1 : Int32} {a1 : Nat} {n2 : Nat}
    (e0 : xRr sh r0 10 13 a1)
    (e1 : xAr sh a1 .int n2)
    (e2 : vp_in v1 n2)
    (k1 : (I a1 v1.toNatClampNeg) < 0 → xG d zm_M_symbol (16, [some (.ref r0), some (.int v1), none, none, none, none], []) (sh, I, J) Q)
    (k2 : ¬ ((I a1 v1.toNatClampNeg) < 0) → xG d zm_M_symbol (9, [some (.ref r0), some (.int v1), none, none, none, none], []) (sh, I, J) Q) :
    xG d zm_M_symbol (0, [some (.ref r0), some (.int v1), none, none, none, none], []) (sh, I, J) Q := by
  obtain rfl := e0.eq
  obtain rfl := e1.eq
  exact xG_N 4 (ps := [xRf sh r0 10 13, xA sh (xrf sh r0 13) .int, vp_in v1 (xlen sh (xrf sh r0 13))]) (f1 := (6, [some (.ref r0), some (.int v1), none, none, none, none], [.int (I (xrf sh r0 13) v1.toNatClampNeg)])) (h1 := (sh, I, J)) rfl ⟨e0.rf, e1.ar, e2⟩ (xG_B rfl rfl k1 k2)
set_option maxRecDepth 100000 in
theorem s_M_symbol_9 {d : Nat} {Q : xO → xH → Prop} {sh : List xS} {I : Nat → Nat → Int32} {J : Nat → Nat → Int64} {r0 : Nat} {v1 : Int32} {a1 : Nat} {n2 : Nat}
    (e0 : xRr sh r0 10 13 a1)
    (e1 : xAr sh a1 .int n2)
    (e2 : vp_in v1 n2)
    (k : Q (.inl (some (.int (I a1 v1.toNatClampNeg)))) (sh, I, J)) :
    xG d zm_M_symbol (9, [some (.ref r0), some (.int v1), none, none, none, none], []) (sh, I, J) Q := by
  obtain rfl := e0.eq
  obtain rfl := e1.eq
  exact xG_N 4 (ps := [xRf sh r0 10 13, xA sh (xrf sh r0 13) .int, vp_in v1 (xlen sh (xrf sh r0 13))]) (f1 := (15, [some (.ref r0), some (.int v1), none, none, none, none], [.int (I (xrf sh r0 13) v1.toNatClampNeg)])) (h1 := (sh, I, J)) rfl ⟨e0.rf, e1.ar, e2⟩ (xG_Q rfl rfl trivial k)
set_option maxRecDepth 100000 in
theorem s_M_symbol_16 {d : Nat} {Q : xO → xH → Prop} {sh : List xS} {I : Nat → Nat → Int32} {J : Nat → Nat → Int64} {r0 : Nat} {v1 : Int32}
    (k : xG d zm_M_symbol (23, [some (.ref r0), some (.int v1), some (.int (0 : Int32)), some (.int (0 : Int32)), some (.int (1 : Int32)), none], []) (sh, I, J) Q) :
    xG d zm_M_symbol (16, [some (.ref r0), some (.int v1), none, none, none, none], []) (sh, I, J) Q := by
  exact xG_N 6 (ps := []) (f1 := (23, [some (.ref r0), some (.int v1), some (.int (0 : Int32)), some (.int (0 : Int32)), some (.int (1 : Int32)), none], [])) (h1 := (sh, I, J)) rfl trivial (k)
set_option maxRecDepth 100000 in
theorem s_M_symbol_23 {d : Nat} {Q : xO → xH → Prop} {sh : List xS} {I : Nat → Nat → Int32} {J : Nat → Nat → Int64} {r0 : Nat} {v1 : Int32} {v2 : Int32} {v3 : Int32} {v4 : Int32} {o5 : Option Value}
    (k1 : (16 : Int32) ≤ v4 → xG d zm_M_symbol (87, [some (.ref r0), some (.int v1), some (.int v2), some (.int v3), some (.int v4), o5], []) (sh, I, J) Q)
    (k2 : ¬ ((16 : Int32) ≤ v4) → xG d zm_M_symbol (30, [some (.ref r0), some (.int v1), some (.int v2), some (.int v3), some (.int v4), o5], []) (sh, I, J) Q) :
    xG d zm_M_symbol (23, [some (.ref r0), some (.int v1), some (.int v2), some (.int v3), some (.int v4), o5], []) (sh, I, J) Q := by
  exact xG_N 2 (ps := []) (f1 := (27, [some (.ref r0), some (.int v1), some (.int v2), some (.int v3), some (.int v4), o5], [.int (16 : Int32), .int v4])) (h1 := (sh, I, J)) rfl trivial (xG_B rfl rfl k1 k2)
set_option maxRecDepth 100000 in
theorem s_M_symbol_30 {d : Nat} {Q : xO → xH → Prop} {sh : List xS} {I : Nat → Nat → Int32} {J : Nat → Nat → Int64} {r0 : Nat} {v1 : Int32} {v2 : Int32} {v3 : Int32} {v4 : Int32} {o5 : Option Value}
    (e0 : xOb sh r0 10)
    (k1 : ¬ (I r0 9) = 0 → xG d zm_M_symbol (87, [some (.ref r0), some (.int v1), some (.int v2), some (.int v3), some (.int v4), o5], []) (sh, I, J) Q)
    (k2 : ¬ (¬ (I r0 9) = 0) → xG d zm_M_symbol (37, [some (.ref r0), some (.int v1), some (.int v2), some (.int v3), some (.int v4), o5], []) (sh, I, J) Q) :
    xG d zm_M_symbol (30, [some (.ref r0), some (.int v1), some (.int v2), some (.int v3), some (.int v4), o5], []) (sh, I, J) Q := by
  exact xG_N 2 (ps := [xOb sh r0 10]) (f1 := (34, [some (.ref r0), some (.int v1), some (.int v2), some (.int v3), some (.int v4), o5], [.int (I r0 9)])) (h1 := (sh, I, J)) rfl e0 (xG_B rfl rfl k1 k2)
set_option maxRecDepth 100000 in
theorem s_M_symbol_37 {d : Nat} {Q : xO → xH → Prop} {sh : List xS} {I : Nat → Nat → Int32} {J : Nat → Nat → Int64} {r0 : Nat} {v1 : Int32} {v2 : Int32} {v3 : Int32} {v4 : Int32} {o5 : Option Value}
    (ko : xOb sh r0 10)
    (k : xg d qM_bit [.ref r0] (sh, I, J) (xI (fun v h1 => xG d zm_M_symbol (44, [some (.ref r0), some (.int v1), some (.int v2), some (.int v3), some (.int v4), o5], [.int v, .int ((2 : Int32) * v2)]) h1 Q) (fun x h1 => Q (.inr x) h1))) :
    xG d zm_M_symbol (37, [some (.ref r0), some (.int v1), some (.int v2), some (.int v3), some (.int v4), o5], []) (sh, I, J) Q := by
  exact xG_N 4 (ps := []) (f1 := (41, [some (.ref r0), some (.int v1), some (.int v2), some (.int v3), some (.int v4), o5], [.ref r0, .int ((2 : Int32) * v2)])) (h1 := (sh, I, J)) rfl trivial (xG_Ci rfl rfl (Nat.le_of_ble_eq_true rfl) (Nat.le_of_ble_eq_true rfl) ⟨_, _, rfl, ko⟩ rfl k)
set_option maxRecDepth 100000 in
theorem s_M_symbol_44 {d : Nat} {Q : xO → xH → Prop} {sh : List xS} {I : Nat → Nat → Int32} {J : Nat → Nat → Int64} {r0 : Nat} {v1 : Int32} {v2 : Int32} {v3 : Int32} {v4 : Int32} {o5 : Option Value} {t0 : Int32} {t1 : Int32}
    (ko : xOb sh r0 10)
    (k : xg d qM_many [.ref r0, .int v1, .int v4] (sh, I, J) (xI (fun v h1 => xG d zm_M_symbol (53, [some (.ref r0), some (.int v1), some (.int (t0 + t1)), some (.int v3), some (.int v4), o5], [.int v]) h1 Q) (fun x h1 => Q (.inr x) h1))) :
    xG d zm_M_symbol (44, [some (.ref r0), some (.int v1), some (.int v2), some (.int v3), some (.int v4), o5], [.int t1, .int t0]) (sh, I, J) Q := by
  exact xG_N 5 (ps := []) (f1 := (50, [some (.ref r0), some (.int v1), some (.int (t0 + t1)), some (.int v3), some (.int v4), o5], [.int v4, .int v1, .ref r0])) (h1 := (sh, I, J)) rfl trivial (xG_Ci rfl rfl (Nat.le_of_ble_eq_true rfl) (Nat.le_of_ble_eq_true rfl) ⟨_, _, rfl, ko⟩ rfl k)
set_option maxRecDepth 100000 in
theorem s_M_symbol_53 {d : Nat} {Q : xO → xH → Prop} {sh : List xS} {I : Nat → Nat → Int32} {J : Nat → Nat → Int64} {r0 : Nat} {v1 : Int32} {v2 : Int32} {v3 : Int32} {v4 : Int32} {o5 : Option Value} {t0 : Int32}
    (k1 : t0 ≤ (v2 - v3) → xG d zm_M_symbol (74, [some (.ref r0), some (.int v1), some (.int v2), some (.int v3), some (.int v4), some (.int t0)], []) (sh, I, J) Q)
    (k2 : ¬ (t0 ≤ (v2 - v3)) → xG d zm_M_symbol (63, [some (.ref r0), some (.int v1), some (.int v2), some (.int v3), some (.int v4), some (.int t0)], []) (sh, I, J) Q) :
    xG d zm_M_symbol (53, [some (.ref r0), some (.int v1), some (.int v2), some (.int v3), some (.int v4), o5], [.int t0]) (sh, I, J) Q := by
  exact xG_N 5 (ps := []) (f1 := (60, [some (.ref r0), some (.int v1), some (.int v2), some (.int v3), some (.int v4), some (.int t0)], [.int t0, .int (v2 - v3)])) (h1 := (sh, I, J)) rfl trivial (xG_B rfl rfl k1 k2)
set_option maxRecDepth 100000 in
theorem s_M_symbol_63 {d : Nat} {Q : xO → xH → Prop} {sh : List xS} {I : Nat → Nat → Int32} {J : Nat → Nat → Int64} {r0 : Nat} {v1 : Int32} {v2 : Int32} {v3 : Int32} {v4 : Int32} {v5 : Int32}
    (ko : xOb sh r0 10)
    (k : xg d qM_symbolAt [.ref r0, .int v1, .int (v2 - v3), .int v4] (sh, I, J) (xI (fun v h1 => xG d zm_M_symbol (73, [some (.ref r0), some (.int v1), some (.int v2), some (.int v3), some (.int v4), some (.int v5)], [.int v]) h1 Q) (fun x h1 => Q (.inr x) h1))) :
    xG d zm_M_symbol (63, [some (.ref r0), some (.int v1), some (.int v2), some (.int v3), some (.int v4), some (.int v5)], []) (sh, I, J) Q := by
  exact xG_N 6 (ps := []) (f1 := (70, [some (.ref r0), some (.int v1), some (.int v2), some (.int v3), some (.int v4), some (.int v5)], [.int v4, .int (v2 - v3), .int v1, .ref r0])) (h1 := (sh, I, J)) rfl trivial (xG_Ci rfl rfl (Nat.le_of_ble_eq_true rfl) (Nat.le_of_ble_eq_true rfl) ⟨_, _, rfl, ko⟩ rfl k)
set_option maxRecDepth 100000 in
theorem s_M_symbol_73 {d : Nat} {Q : xO → xH → Prop} {sh : List xS} {I : Nat → Nat → Int32} {J : Nat → Nat → Int64} {r0 : Nat} {v1 : Int32} {v2 : Int32} {v3 : Int32} {v4 : Int32} {v5 : Int32} {t0 : Int32}
    (k : Q (.inl (some (.int t0))) (sh, I, J)) :
    xG d zm_M_symbol (73, [some (.ref r0), some (.int v1), some (.int v2), some (.int v3), some (.int v4), some (.int v5)], [.int t0]) (sh, I, J) Q := by
  exact xG_Q rfl rfl trivial k
set_option maxRecDepth 100000 in
theorem s_M_symbol_74 {d : Nat} {Q : xO → xH → Prop} {sh : List xS} {I : Nat → Nat → Int32} {J : Nat → Nat → Int64} {r0 : Nat} {v1 : Int32} {v2 : Int32} {v3 : Int32} {v4 : Int32} {v5 : Int32}
    (k : xG d zm_M_symbol (23, [some (.ref r0), some (.int v1), some (.int v2), some (.int ((2 : Int32) * (v3 + v5))), some (.int (v4 + (1 : Int32))), some (.int v5)], []) (sh, I, J) Q) :
    xG d zm_M_symbol (74, [some (.ref r0), some (.int v1), some (.int v2), some (.int v3), some (.int v4), some (.int v5)], []) (sh, I, J) Q := by
  exact xG_N 8 (ps := []) (f1 := (23, [some (.ref r0), some (.int v1), some (.int v2), some (.int ((2 : Int32) * (v3 + v5))), some (.int (v4 + (1 : Int32))), some (.int v5)], [])) (h1 := (sh, I, J)) rfl trivial (k)
set_option maxRecDepth 100000 in
theorem s_M_symbol_87 {d : Nat} {Q : xO → xH → Prop} {sh : List xS} {I : Nat → Nat → Int32} {J : Nat → Nat → Int64} {r0 : Nat} {v1 : Int32} {v2 : Int32} {v3 : Int32} {v4 : Int32} {o5 : Option Value}
    (e0 : xOb sh r0 10)
    (k : Q (.inl (some (.int (0 : Int32)))) (sh, xup I r0 9 (1 : Int32), J)) :
    xG d zm_M_symbol (87, [some (.ref r0), some (.int v1), some (.int v2), some (.int v3), some (.int v4), o5], []) (sh, I, J) Q := by
  exact xG_N 4 (ps := [xOb sh r0 10, ((1 : Int32) : Int32) = 0 ∨ ((1 : Int32) : Int32) = 1]) (f1 := (93, [some (.ref r0), some (.int v1), some (.int v2), some (.int v3), some (.int v4), o5], [.int (0 : Int32)])) (h1 := (sh, xup I r0 9 (1 : Int32), J)) rfl ⟨e0, (show ((1 : Int32) : Int32) = 0 ∨ ((1 : Int32) : Int32) = 1 by decide)⟩ (xG_Q rfl rfl trivial k)
set_option maxRecDepth 100000 in
theorem s_M_wipeLengths_0 {d : Nat} {Q : xO → xH → Prop} {sh : List xS} {I : Nat → Nat → Int32} {J : Nat → Nat → Int64} {r0 : Nat} {v1 : Int32} {v2 : Int32} {a1 : Nat} {n2 : Nat}
    (e0 : xRr sh r0 10 12 a1)
    (e1 : xAr sh a1 .int n2)
    (e2 : 4 ≤ a1)
    (e3 : vp_in v1 n2)
    (k : xg d qM_base [.int v1] (sh, xup I a1 v1.toNatClampNeg v2, J) (xI (fun v h1 => xG d zm_M_wipeLengths (11, [some (.ref r0), some (.int v1), some (.int v2), none], [.int v]) h1 Q) (fun x h1 => Q (.inr x) h1))) :
    xG d zm_M_wipeLengths (0, [some (.ref r0), some (.int v1), some (.int v2), none], []) (sh, I, J) Q := by
  obtain rfl := e0.eq
  obtain rfl := e1.eq
  exact xG_N 6 (ps := [xRf sh r0 10 12, xW sh (xrf sh r0 12) .int, vp_in v1 (xlen sh (xrf sh r0 12))]) (f1 := (8, [some (.ref r0), some (.int v1), some (.int v2), none], [.int v1])) (h1 := (sh, xup I (xrf sh r0 12) v1.toNatClampNeg v2, J)) rfl ⟨e0.rf, ⟨e1.ar, e2⟩, e3⟩ (xG_Ci rfl rfl (Nat.le_of_ble_eq_true rfl) (Nat.le_of_ble_eq_true rfl) trivial rfl k)
set_option maxRecDepth 100000 in
theorem s_M_wipeLengths_11 {d : Nat} {Q : xO → xH → Prop} {sh : List xS} {I : Nat → Nat → Int32} {J : Nat → Nat → Int64} {r0 : Nat} {v1 : Int32} {v2 : Int32} {t0 : Int32}
    (k : xG d zm_M_wipeLengths (12, [some (.ref r0), some (.int v1), some (.int v2), some (.int t0)], []) (sh, I, J) Q) :
    xG d zm_M_wipeLengths (11, [some (.ref r0), some (.int v1), some (.int v2), none], [.int t0]) (sh, I, J) Q := by
  exact xG_N 1 (ps := []) (f1 := (12, [some (.ref r0), some (.int v1), some (.int v2), some (.int t0)], [])) (h1 := (sh, I, J)) rfl trivial (k)
set_option maxRecDepth 100000 in
theorem s_M_wipeLengths_12 {d : Nat} {Q : xO → xH → Prop} {sh : List xS} {I : Nat → Nat → Int32} {J : Nat → Nat → Int64} {r0 : Nat} {v1 : Int32} {v2 : Int32} {v3 : Int32}
    (k : xg d qM_base [.int v1] (sh, I, J) (xI (fun v h1 => xG d zm_M_wipeLengths (17, [some (.ref r0), some (.int v1), some (.int v2), some (.int v3)], [.int v, .int v3]) h1 Q) (fun x h1 => Q (.inr x) h1))) :
    xG d zm_M_wipeLengths (12, [some (.ref r0), some (.int v1), some (.int v2), some (.int v3)], []) (sh, I, J) Q := by
  exact xG_N 2 (ps := []) (f1 := (14, [some (.ref r0), some (.int v1), some (.int v2), some (.int v3)], [.int v1, .int v3])) (h1 := (sh, I, J)) rfl trivial (xG_Ci rfl rfl (Nat.le_of_ble_eq_true rfl) (Nat.le_of_ble_eq_true rfl) trivial rfl k)
set_option maxRecDepth 100000 in
theorem s_M_wipeLengths_17 {d : Nat} {Q : xO → xH → Prop} {sh : List xS} {I : Nat → Nat → Int32} {J : Nat → Nat → Int64} {r0 : Nat} {v1 : Int32} {v2 : Int32} {v3 : Int32} {t0 : Int32} {t1 : Int32}
    (k1 : (t1 + v2) ≤ t0 → xG d zm_M_wipeLengths (35, [some (.ref r0), some (.int v1), some (.int v2), some (.int v3)], []) (sh, I, J) Q)
    (k2 : ¬ ((t1 + v2) ≤ t0) → xG d zm_M_wipeLengths (22, [some (.ref r0), some (.int v1), some (.int v2), some (.int v3)], []) (sh, I, J) Q) :
    xG d zm_M_wipeLengths (17, [some (.ref r0), some (.int v1), some (.int v2), some (.int v3)], [.int t1, .int t0]) (sh, I, J) Q := by
  exact xG_N 2 (ps := []) (f1 := (19, [some (.ref r0), some (.int v1), some (.int v2), some (.int v3)], [.int (t1 + v2), .int t0])) (h1 := (sh, I, J)) rfl trivial (xG_B rfl rfl k1 k2)
set_option maxRecDepth 100000 in
theorem s_M_wipeLengths_22 {d : Nat} {Q : xO → xH → Prop} {sh : List xS} {I : Nat → Nat → Int32} {J : Nat → Nat → Int64} {r0 : Nat} {v1 : Int32} {v2 : Int32} {v3 : Int32} {a1 : Nat} {n2 : Nat}
    (e0 : xRr sh r0 10 10 a1)
    (e1 : xAr sh a1 .int n2)
    (e2 : 4 ≤ a1)
    (e3 : vp_in v3 n2)
    (k : xG d zm_M_wipeLengths (12, [some (.ref r0), some (.int v1), some (.int v2), some (.int (v3 + (1 : Int32)))], []) (sh, xup I a1 v3.toNatClampNeg (0 : Int32), J) Q) :
    xG d zm_M_wipeLengths (22, [some (.ref r0), some (.int v1), some (.int v2), some (.int v3)], []) (sh, I, J) Q := by
  obtain rfl := e0.eq
  obtain rfl := e1.eq
  exact xG_N 7 (ps := [xRf sh r0 10 10, xW sh (xrf sh r0 10) .int, vp_in v3 (xlen sh (xrf sh r0 10))]) (f1 := (12, [some (.ref r0), some (.int v1), some (.int v2), some (.int (v3 + (1 : Int32)))], [])) (h1 := (sh, xup I (xrf sh r0 10) v3.toNatClampNeg (0 : Int32), J)) rfl ⟨e0.rf, ⟨e1.ar, e2⟩, e3⟩ (k)
set_option maxRecDepth 100000 in
theorem s_M_wipeLengths_35 {d : Nat} {Q : xO → xH → Prop} {sh : List xS} {I : Nat → Nat → Int32} {J : Nat → Nat → Int64} {r0 : Nat} {v1 : Int32} {v2 : Int32} {v3 : Int32}
    (k : Q (.inl (none)) (sh, I, J)) :
    xG d zm_M_wipeLengths (35, [some (.ref r0), some (.int v1), some (.int v2), some (.int v3)], []) (sh, I, J) Q := by
  exact xG_Q rfl rfl trivial k
set_option maxRecDepth 100000 in
theorem s_M_readPlain_0 {d : Nat} {Q : xO → xH → Prop} {sh : List xS} {I : Nat → Nat → Int32} {J : Nat → Nat → Int64} {r0 : Nat} {v1 : Int32} {v2 : Int32}
    (ko : xOb sh r0 10)
    (k : xg d qM_bit [.ref r0] (sh, I, J) (xI (fun v h1 => xG d zm_M_readPlain (4, [some (.ref r0), some (.int v1), some (.int v2), none, none, none], [.int v]) h1 Q) (fun x h1 => Q (.inr x) h1))) :
    xG d zm_M_readPlain (0, [some (.ref r0), some (.int v1), some (.int v2), none, none, none], []) (sh, I, J) Q := by
  exact xG_N 1 (ps := []) (f1 := (1, [some (.ref r0), some (.int v1), some (.int v2), none, none, none], [.ref r0])) (h1 := (sh, I, J)) rfl trivial (xG_Ci rfl rfl (Nat.le_of_ble_eq_true rfl) (Nat.le_of_ble_eq_true rfl) ⟨_, _, rfl, ko⟩ rfl k)
set_option maxRecDepth 100000 in
theorem s_M_readPlain_4 {d : Nat} {Q : xO → xH → Prop} {sh : List xS} {I : Nat → Nat → Int32} {J : Nat → Nat → Int64} {r0 : Nat} {v1 : Int32} {v2 : Int32} {t0 : Int32}
    (ko : xOb sh r0 10)
    (k : xg d qM_bit [.ref r0] (sh, I, J) (xI (fun v h1 => xG d zm_M_readPlain (12, [some (.ref r0), some (.int v1), some (.int v2), some (.int (t0 + (1 : Int32))), none, none], [.int v, .ref r0]) h1 Q) (fun x h1 => Q (.inr x) h1))) :
    xG d zm_M_readPlain (4, [some (.ref r0), some (.int v1), some (.int v2), none, none, none], [.int t0]) (sh, I, J) Q := by
  exact xG_N 5 (ps := []) (f1 := (9, [some (.ref r0), some (.int v1), some (.int v2), some (.int (t0 + (1 : Int32))), none, none], [.ref r0, .ref r0])) (h1 := (sh, I, J)) rfl trivial (xG_Ci rfl rfl (Nat.le_of_ble_eq_true rfl) (Nat.le_of_ble_eq_true rfl) ⟨_, _, rfl, ko⟩ rfl k)
set_option maxRecDepth 100000 in
theorem s_M_readPlain_12 {d : Nat} {Q : xO → xH → Prop} {sh : List xS} {I : Nat → Nat → Int32} {J : Nat → Nat → Int64} {r0 : Nat} {v1 : Int32} {v2 : Int32} {v3 : Int32} {t0 : Nat} {t1 : Int32}
    (k1 : ¬ t1 = (1 : Int32) → xG d zm_M_readPlain (21, [some (.ref r0), some (.int v1), some (.int v2), some (.int v3), none, none], [.ref t0]) (sh, I, J) Q)
    (k2 : ¬ (¬ t1 = (1 : Int32)) → xG d zm_M_readPlain (16, [some (.ref r0), some (.int v1), some (.int v2), some (.int v3), none, none], [.ref t0]) (sh, I, J) Q) :
    xG d zm_M_readPlain (12, [some (.ref r0), some (.int v1), some (.int v2), some (.int v3), none, none], [.int t1, .ref t0]) (sh, I, J) Q := by
  exact xG_N 1 (ps := []) (f1 := (13, [some (.ref r0), some (.int v1), some (.int v2), some (.int v3), none, none], [.int (1 : Int32), .int t1, .ref t0])) (h1 := (sh, I, J)) rfl trivial (xG_B rfl rfl k1 k2)
set_option maxRecDepth 100000 in
theorem s_M_readPlain_16 {d : Nat} {Q : xO → xH → Prop} {sh : List xS} {I : Nat → Nat → Int32} {J : Nat → Nat → Int64} {r0 : Nat} {v1 : Int32} {v2 : Int32} {v3 : Int32} {t0 : Nat}
    (ko : xOb sh t0 10)
    (k : xg d qM_bits [.ref t0, .int (8 : Int32)] (sh, I, J) (xI (fun v h1 => xG d zm_M_readPlain (25, [some (.ref r0), some (.int v1), some (.int v2), some (.int v3), none, none], [.int v]) h1 Q) (fun x h1 => Q (.inr x) h1))) :
    xG d zm_M_readPlain (16, [some (.ref r0), some (.int v1), some (.int v2), some (.int v3), none, none], [.ref t0]) (sh, I, J) Q := by
  exact xG_N 2 (ps := []) (f1 := (22, [some (.ref r0), some (.int v1), some (.int v2), some (.int v3), none, none], [.int (8 : Int32), .ref t0])) (h1 := (sh, I, J)) rfl trivial (xG_Ci rfl rfl (Nat.le_of_ble_eq_true rfl) (Nat.le_of_ble_eq_true rfl) ⟨_, _, rfl, ko⟩ rfl k)
set_option maxRecDepth 100000 in
theorem s_M_readPlain_21 {d : Nat} {Q : xO → xH → Prop} {sh : List xS} {I : Nat → Nat → Int32} {J : Nat → Nat → Int64} {r0 : Nat} {v1 : Int32} {v2 : Int32} {v3 : Int32} {t0 : Nat}
    (ko : xOb sh t0 10)
    (k : xg d qM_bits [.ref t0, .int (1 : Int32)] (sh, I, J) (xI (fun v h1 => xG d zm_M_readPlain (25, [some (.ref r0), some (.int v1), some (.int v2), some (.int v3), none, none], [.int v]) h1 Q) (fun x h1 => Q (.inr x) h1))) :
    xG d zm_M_readPlain (21, [some (.ref r0), some (.int v1), some (.int v2), some (.int v3), none, none], [.ref t0]) (sh, I, J) Q := by
  exact xG_N 1 (ps := []) (f1 := (22, [some (.ref r0), some (.int v1), some (.int v2), some (.int v3), none, none], [.int (1 : Int32), .ref t0])) (h1 := (sh, I, J)) rfl trivial (xG_Ci rfl rfl (Nat.le_of_ble_eq_true rfl) (Nat.le_of_ble_eq_true rfl) ⟨_, _, rfl, ko⟩ rfl k)
set_option maxRecDepth 100000 in
theorem s_M_readPlain_25 {d : Nat} {Q : xO → xH → Prop} {sh : List xS} {I : Nat → Nat → Int32} {J : Nat → Nat → Int64} {r0 : Nat} {v1 : Int32} {v2 : Int32} {v3 : Int32} {t0 : Int32}
    (k1 : ¬ v3 = (2 : Int32) → xG d zm_M_readPlain (41, [some (.ref r0), some (.int v1), some (.int v2), some (.int v3), some (.int t0), none], []) (sh, I, J) Q)
    (k2 : ¬ (¬ v3 = (2 : Int32)) → xG d zm_M_readPlain (32, [some (.ref r0), some (.int v1), some (.int v2), some (.int v3), some (.int t0), none], []) (sh, I, J) Q) :
    xG d zm_M_readPlain (25, [some (.ref r0), some (.int v1), some (.int v2), some (.int v3), none, none], [.int t0]) (sh, I, J) Q := by
  exact xG_N 3 (ps := []) (f1 := (29, [some (.ref r0), some (.int v1), some (.int v2), some (.int v3), some (.int t0), none], [.int (2 : Int32), .int v3])) (h1 := (sh, I, J)) rfl trivial (xG_B rfl rfl k1 k2)
set_option maxRecDepth 100000 in
theorem s_M_readPlain_32 {d : Nat} {Q : xO → xH → Prop} {sh : List xS} {I : Nat → Nat → Int32} {J : Nat → Nat → Int64} {r0 : Nat} {v1 : Int32} {v2 : Int32} {v3 : Int32} {v4 : Int32}
    (ko : xOb sh r0 10)
    (k : xg d qM_bits [.ref r0, .int (8 : Int32)] (sh, I, J) (xI (fun v h1 => xG d zm_M_readPlain (38, [some (.ref r0), some (.int v1), some (.int v2), some (.int v3), some (.int v4), none], [.int v]) h1 Q) (fun x h1 => Q (.inr x) h1))) :
    xG d zm_M_readPlain (32, [some (.ref r0), some (.int v1), some (.int v2), some (.int v3), some (.int v4), none], []) (sh, I, J) Q := by
  exact xG_N 2 (ps := []) (f1 := (35, [some (.ref r0), some (.int v1), some (.int v2), some (.int v3), some (.int v4), none], [.int (8 : Int32), .ref r0])) (h1 := (sh, I, J)) rfl trivial (xG_Ci rfl rfl (Nat.le_of_ble_eq_true rfl) (Nat.le_of_ble_eq_true rfl) ⟨_, _, rfl, ko⟩ rfl k)
set_option maxRecDepth 100000 in
theorem s_M_readPlain_38 {d : Nat} {Q : xO → xH → Prop} {sh : List xS} {I : Nat → Nat → Int32} {J : Nat → Nat → Int64} {r0 : Nat} {v1 : Int32} {v2 : Int32} {v3 : Int32} {v4 : Int32} {t0 : Int32}
    (e0 : xOb sh r0 10)
    (k1 : ¬ (I r0 9) = 0 → xG d zm_M_readPlain (76, [some (.ref r0), some (.int v1), some (.int v2), some (.int v3), some (.int v4), some (.int t0)], [.ref r0]) (sh, I, J) Q)
    (k2 : ¬ (¬ (I r0 9) = 0) → xG d zm_M_readPlain (52, [some (.ref r0), some (.int v1), some (.int v2), some (.int v3), some (.int v4), some (.int t0)], [.ref r0]) (sh, I, J) Q) :
    xG d zm_M_readPlain (38, [some (.ref r0), some (.int v1), some (.int v2), some (.int v3), some (.int v4), none], [.int t0]) (sh, I, J) Q := by
  exact xG_N 5 (ps := [xOb sh r0 10]) (f1 := (49, [some (.ref r0), some (.int v1), some (.int v2), some (.int v3), some (.int v4), some (.int t0)], [.int (I r0 9), .ref r0])) (h1 := (sh, I, J)) rfl e0 (xG_B rfl rfl k1 k2)
set_option maxRecDepth 100000 in
theorem s_M_readPlain_41 {d : Nat} {Q : xO → xH → Prop} {sh : List xS} {I : Nat → Nat → Int32} {J : Nat → Nat → Int64} {r0 : Nat} {v1 : Int32} {v2 : Int32} {v3 : Int32} {v4 : Int32}
    (e0 : xOb sh r0 10)
    (k1 : ¬ (I r0 9) = 0 → xG d zm_M_readPlain (76, [some (.ref r0), some (.int v1), some (.int v2), some (.int v3), some (.int v4), some (.int (0 : Int32))], [.ref r0]) (sh, I, J) Q)
    (k2 : ¬ (¬ (I r0 9) = 0) → xG d zm_M_readPlain (52, [some (.ref r0), some (.int v1), some (.int v2), some (.int v3), some (.int v4), some (.int (0 : Int32))], [.ref r0]) (sh, I, J) Q) :
    xG d zm_M_readPlain (41, [some (.ref r0), some (.int v1), some (.int v2), some (.int v3), some (.int v4), none], []) (sh, I, J) Q := by
  exact xG_N 5 (ps := [xOb sh r0 10]) (f1 := (49, [some (.ref r0), some (.int v1), some (.int v2), some (.int v3), some (.int v4), some (.int (0 : Int32))], [.int (I r0 9), .ref r0])) (h1 := (sh, I, J)) rfl e0 (xG_B rfl rfl k1 k2)
set_option maxRecDepth 100000 in
theorem s_M_readPlain_52 {d : Nat} {Q : xO → xH → Prop} {sh : List xS} {I : Nat → Nat → Int32} {J : Nat → Nat → Int64} {r0 : Nat} {v1 : Int32} {v2 : Int32} {v3 : Int32} {v4 : Int32} {v5 : Int32} {t0 : Nat}
    (k1 : v2 ≤ v4 → xG d zm_M_readPlain (76, [some (.ref r0), some (.int v1), some (.int v2), some (.int v3), some (.int v4), some (.int v5)], [.ref t0]) (sh, I, J) Q)
    (k2 : ¬ (v2 ≤ v4) → xG d zm_M_readPlain (58, [some (.ref r0), some (.int v1), some (.int v2), some (.int v3), some (.int v4), some (.int v5)], [.ref t0]) (sh, I, J) Q) :
    xG d zm_M_readPlain (52, [some (.ref r0), some (.int v1), some (.int v2), some (.int v3), some (.int v4), some (.int v5)], [.ref t0]) (sh, I, J) Q := by
  exact xG_N 2 (ps := []) (f1 := (55, [some (.ref r0), some (.int v1), some (.int v2), some (.int v3), some (.int v4), some (.int v5)], [.int v2, .int v4, .ref t0])) (h1 := (sh, I, J)) rfl trivial (xG_B rfl rfl k1 k2)
set_option maxRecDepth 100000 in
theorem s_M_readPlain_58 {d : Nat} {Q : xO → xH → Prop} {sh : List xS} {I : Nat → Nat → Int32} {J : Nat → Nat → Int64} {r0 : Nat} {v1 : Int32} {v2 : Int32} {v3 : Int32} {v4 : Int32} {v5 : Int32} {t0 : Nat}
    (k1 : ¬ v3 = (2 : Int32) → xG d zm_M_readPlain (80, [some (.ref r0), some (.int v1), some (.int v2), some (.int v3), some (.int v4), some (.int v5)], [.ref t0]) (sh, I, J) Q)
    (k2 : ¬ (¬ v3 = (2 : Int32)) → xG d zm_M_readPlain (63, [some (.ref r0), some (.int v1), some (.int v2), some (.int v3), some (.int v4), some (.int v5)], [.ref t0]) (sh, I, J) Q) :
    xG d zm_M_readPlain (58, [some (.ref r0), some (.int v1), some (.int v2), some (.int v3), some (.int v4), some (.int v5)], [.ref t0]) (sh, I, J) Q := by
  exact xG_N 2 (ps := []) (f1 := (60, [some (.ref r0), some (.int v1), some (.int v2), some (.int v3), some (.int v4), some (.int v5)], [.int (2 : Int32), .int v3, .ref t0])) (h1 := (sh, I, J)) rfl trivial (xG_B rfl rfl k1 k2)
set_option maxRecDepth 100000 in
theorem s_M_readPlain_63 {d : Nat} {Q : xO → xH → Prop} {sh : List xS} {I : Nat → Nat → Int32} {J : Nat → Nat → Int64} {r0 : Nat} {v1 : Int32} {v2 : Int32} {v3 : Int32} {v4 : Int32} {v5 : Int32} {t0 : Nat}
    (k1 : v2 ≤ v5 → xG d zm_M_readPlain (76, [some (.ref r0), some (.int v1), some (.int v2), some (.int v3), some (.int v4), some (.int v5)], [.ref t0]) (sh, I, J) Q)
    (k2 : ¬ (v2 ≤ v5) → xG d zm_M_readPlain (69, [some (.ref r0), some (.int v1), some (.int v2), some (.int v3), some (.int v4), some (.int v5)], [.ref t0]) (sh, I, J) Q) :
    xG d zm_M_readPlain (63, [some (.ref r0), some (.int v1), some (.int v2), some (.int v3), some (.int v4), some (.int v5)], [.ref t0]) (sh, I, J) Q := by
  exact xG_N 2 (ps := []) (f1 := (66, [some (.ref r0), some (.int v1), some (.int v2), some (.int v3), some (.int v4), some (.int v5)], [.int v2, .int v5, .ref t0])) (h1 := (sh, I, J)) rfl trivial (xG_B rfl rfl k1 k2)
set_option maxRecDepth 100000 in
theorem s_M_readPlain_69 {d : Nat} {Q : xO → xH → Prop} {sh : List xS} {I : Nat → Nat → Int32} {J : Nat → Nat → Int64} {r0 : Nat} {v1 : Int32} {v2 : Int32} {v3 : Int32} {v4 : Int32} {v5 : Int32} {t0 : Nat}
    (k1 : ¬ v5 = v4 → xG d zm_M_readPlain (80, [some (.ref r0), some (.int v1), some (.int v2), some (.int v3), some (.int v4), some (.int v5)], [.ref t0]) (sh, I, J) Q)
    (k2 : ¬ (¬ v5 = v4) → xG d zm_M_readPlain (76, [some (.ref r0), some (.int v1), some (.int v2), some (.int v3), some (.int v4), some (.int v5)], [.ref t0]) (sh, I, J) Q) :
    xG d zm_M_readPlain (69, [some (.ref r0), some (.int v1), some (.int v2), some (.int v3), some (.int v4), some (.int v5)], [.ref t0]) (sh, I, J) Q := by
  exact xG_N 2 (ps := []) (f1 := (73, [some (.ref r0), some (.int v1), some (.int v2), some (.int v3), some (.int v4), some (.int v5)], [.int v4, .int v5, .ref t0])) (h1 := (sh, I, J)) rfl trivial (xG_B rfl rfl k1 k2)
set_option maxRecDepth 100000 in
theorem s_M_readPlain_76 {d : Nat} {Q : xO → xH → Prop} {sh : List xS} {I : Nat → Nat → Int32} {J : Nat → Nat → Int64} {r0 : Nat} {v1 : Int32} {v2 : Int32} {v3 : Int32} {v4 : Int32} {v5 : Int32} {t0 : Nat}
    (e0 : xOb sh t0 10)
    (e1 : xOb sh r0 10)
    (k1 : ((xup I t0 9 (1 : Int32)) r0 9) = 0 → xG d zm_M_readPlain (92, [some (.ref r0), some (.int v1), some (.int v2), some (.int v3), some (.int v4), some (.int v5)], []) (sh, xup I t0 9 (1 : Int32), J) Q)
    (k2 : ¬ (((xup I t0 9 (1 : Int32)) r0 9) = 0) → xG d zm_M_readPlain (91, [some (.ref r0), some (.int v1), some (.int v2), some (.int v3), some (.int v4), some (.int v5)], []) (sh, xup I t0 9 (1 : Int32), J) Q) :
    xG d zm_M_readPlain (76, [some (.ref r0), some (.int v1), some (.int v2), some (.int v3), some (.int v4), some (.int v5)], [.ref t0]) (sh, I, J) Q := by
  exact xG_N 5 (ps := [xOb sh t0 10, ((1 : Int32) : Int32) = 0 ∨ ((1 : Int32) : Int32) = 1, xOb sh r0 10]) (f1 := (88, [some (.ref r0), some (.int v1), some (.int v2), some (.int v3), some (.int v4), some (.int v5)], [.int ((xup I t0 9 (1 : Int32)) r0 9)])) (h1 := (sh, xup I t0 9 (1 : Int32), J)) rfl ⟨e0, (show ((1 : Int32) : Int32) = 0 ∨ ((1 : Int32) : Int32) = 1 by decide), e1⟩ (xG_B rfl rfl k1 k2)
set_option maxRecDepth 100000 in
theorem s_M_readPlain_80 {d : Nat} {Q : xO → xH → Prop} {sh : List xS} {I : Nat → Nat → Int32} {J : Nat → Nat → Int64} {r0 : Nat} {v1 : Int32} {v2 : Int32} {v3 : Int32} {v4 : Int32} {v5 : Int32} {t0 : Nat}
    (e0 : xOb sh t0 10)
    (e1 : xOb sh r0 10)
    (k1 : ((xup I t0 9 (0 : Int32)) r0 9) = 0 → xG d zm_M_readPlain (92, [some (.ref r0), some (.int v1), some (.int v2), some (.int v3), some (.int v4), some (.int v5)], []) (sh, xup I t0 9 (0 : Int32), J) Q)
    (k2 : ¬ (((xup I t0 9 (0 : Int32)) r0 9) = 0) → xG d zm_M_readPlain (91, [some (.ref r0), some (.int v1), some (.int v2), some (.int v3), some (.int v4), some (.int v5)], []) (sh, xup I t0 9 (0 : Int32), J) Q) :
    xG d zm_M_readPlain (80, [some (.ref r0), some (.int v1), some (.int v2), some (.int v3), some (.int v4), some (.int v5)], [.ref t0]) (sh, I, J) Q := by
  exact xG_N 4 (ps := [xOb sh t0 10, ((0 : Int32) : Int32) = 0 ∨ ((0 : Int32) : Int32) = 1, xOb sh r0 10]) (f1 := (88, [some (.ref r0), some (.int v1), some (.int v2), some (.int v3), some (.int v4), some (.int v5)], [.int ((xup I t0 9 (0 : Int32)) r0 9)])) (h1 := (sh, xup I t0 9 (0 : Int32), J)) rfl ⟨e0, (show ((0 : Int32) : Int32) = 0 ∨ ((0 : Int32) : Int32) = 1 by decide), e1⟩ (xG_B rfl rfl k1 k2)
set_option maxRecDepth 100000 in
theorem s_M_readPlain_91 {d : Nat} {Q : xO → xH → Prop} {sh : List xS} {I : Nat → Nat → Int32} {J : Nat → Nat → Int64} {r0 : Nat} {v1 : Int32} {v2 : Int32} {v3 : Int32} {v4 : Int32} {v5 : Int32}
    (k : Q (.inl (none)) (sh, I, J)) :
    xG d zm_M_readPlain (91, [some (.ref r0), some (.int v1), some (.int v2), some (.int v3), some (.int v4), some (.int v5)], []) (sh, I, J) Q := by
  exact xG_Q rfl rfl trivial k
set_option maxRecDepth 100000 in
theorem s_M_readPlain_92 {d : Nat} {Q : xO → xH → Prop} {sh : List xS} {I : Nat → Nat → Int32} {J : Nat → Nat → Int64} {r0 : Nat} {v1 : Int32} {v2 : Int32} {v3 : Int32} {v4 : Int32} {v5 : Int32} {a1 : Nat}
    (e0 : xRr sh r0 10 10 a1)
    (k : xg d qM_base [.int v1] (sh, I, J) (xI (fun v h1 => xG d zm_M_readPlain (100, [some (.ref r0), some (.int v1), some (.int v2), some (.int v3), some (.int v4), some (.int v5)], [.int v, .ref a1]) h1 Q) (fun x h1 => Q (.inr x) h1))) :
    xG d zm_M_readPlain (92, [some (.ref r0), some (.int v1), some (.int v2), some (.int v3), some (.int v4), some (.int v5)], []) (sh, I, J) Q := by
  obtain rfl := e0.eq
  exact xG_N 3 (ps := [xRf sh r0 10 10]) (f1 := (97, [some (.ref r0), some (.int v1), some (.int v2), some (.int v3), some (.int v4), some (.int v5)], [.int v1, .ref (xrf sh r0 10)])) (h1 := (sh, I, J)) rfl e0.rf (xG_Ci rfl rfl (Nat.le_of_ble_eq_true rfl) (Nat.le_of_ble_eq_true rfl) trivial rfl k)
set_option maxRecDepth 100000 in
theorem s_M_readPlain_100 {d : Nat} {Q : xO → xH → Prop} {sh : List xS} {I : Nat → Nat → Int32} {J : Nat → Nat → Int64} {r0 : Nat} {v1 : Int32} {v2 : Int32} {v3 : Int32} {v4 : Int32} {v5 : Int32} {t0 : Nat} {t1 : Int32} {n1 : Nat} {a2 : Nat}
    (e0 : xAr sh t0 .int n1)
    (e1 : 4 ≤ t0)
    (e2 : vp_in (t1 + v4) n1)
    (e3 : xRr sh r0 10 10 a2)
    (k : xg d qM_base [.int v1] (sh, xup I t0 (t1 + v4).toNatClampNeg (1 : Int32), J) (xI (fun v h1 => xG d zm_M_readPlain (113, [some (.ref r0), some (.int v1), some (.int v2), some (.int v3), some (.int v4), some (.int v5)], [.int v, .ref a2]) h1 Q) (fun x h1 => Q (.inr x) h1))) :
    xG d zm_M_readPlain (100, [some (.ref r0), some (.int v1), some (.int v2), some (.int v3), some (.int v4), some (.int v5)], [.int t1, .ref t0]) (sh, I, J) Q := by
  obtain rfl := e0.eq
  obtain rfl := e3.eq
  exact xG_N 7 (ps := [xW sh t0 .int, vp_in (t1 + v4) (xlen sh t0), xRf sh r0 10 10]) (f1 := (110, [some (.ref r0), some (.int v1), some (.int v2), some (.int v3), some (.int v4), some (.int v5)], [.int v1, .ref (xrf sh r0 10)])) (h1 := (sh, xup I t0 (t1 + v4).toNatClampNeg (1 : Int32), J)) rfl ⟨⟨e0.ar, e1⟩, e2, e3.rf⟩ (xG_Ci rfl rfl (Nat.le_of_ble_eq_true rfl) (Nat.le_of_ble_eq_true rfl) trivial rfl k)
set_option maxRecDepth 100000 in
theorem s_M_readPlain_113 {d : Nat} {Q : xO → xH → Prop} {sh : List xS} {I : Nat → Nat → Int32} {J : Nat → Nat → Int64} {r0 : Nat} {v1 : Int32} {v2 : Int32} {v3 : Int32} {v4 : Int32} {v5 : Int32} {t0 : Nat} {t1 : Int32}
    (k1 : ¬ v3 = (2 : Int32) → xG d zm_M_readPlain (125, [some (.ref r0), some (.int v1), some (.int v2), some (.int v3), some (.int v4), some (.int v5)], [.int (t1 + v5), .ref t0]) (sh, I, J) Q)
    (k2 : ¬ (¬ v3 = (2 : Int32)) → xG d zm_M_readPlain (121, [some (.ref r0), some (.int v1), some (.int v2), some (.int v3), some (.int v4), some (.int v5)], [.int (t1 + v5), .ref t0]) (sh, I, J) Q) :
    xG d zm_M_readPlain (113, [some (.ref r0), some (.int v1), some (.int v2), some (.int v3), some (.int v4), some (.int v5)], [.int t1, .ref t0]) (sh, I, J) Q := by
  exact xG_N 4 (ps := []) (f1 := (118, [some (.ref r0), some (.int v1), some (.int v2), some (.int v3), some (.int v4), some (.int v5)], [.int (2 : Int32), .int v3, .int (t1 + v5), .ref t0])) (h1 := (sh, I, J)) rfl trivial (xG_B rfl rfl k1 k2)
set_option maxRecDepth 100000 in
theorem s_M_readPlain_121 {d : Nat} {Q : xO → xH → Prop} {sh : List xS} {I : Nat → Nat → Int32} {J : Nat → Nat → Int64} {r0 : Nat} {v1 : Int32} {v2 : Int32} {v3 : Int32} {v4 : Int32} {v5 : Int32} {t0 : Nat} {t1 : Int32} {n1 : Nat}
    (e0 : xAr sh t0 .int n1)
    (e1 : 4 ≤ t0)
    (e2 : vp_in t1 n1)
    (k : Q (.inl (none)) (sh, xup I t0 t1.toNatClampNeg (1 : Int32), J)) :
    xG d zm_M_readPlain (121, [some (.ref r0), some (.int v1), some (.int v2), some (.int v3), some (.int v4), some (.int v5)], [.int t1, .ref t0]) (sh, I, J) Q := by
  obtain rfl := e0.eq
  exact xG_N 3 (ps := [xW sh t0 .int, vp_in t1 (xlen sh t0)]) (f1 := (138, [some (.ref r0), some (.int v1), some (.int v2), some (.int v3), some (.int v4), some (.int v5)], [])) (h1 := (sh, xup I t0 t1.toNatClampNeg (1 : Int32), J)) rfl ⟨⟨e0.ar, e1⟩, e2⟩ (xG_Q rfl rfl trivial k)
set_option maxRecDepth 100000 in
theorem s_M_readPlain_125 {d : Nat} {Q : xO → xH → Prop} {sh : List xS} {I : Nat → Nat → Int32} {J : Nat → Nat → Int64} {r0 : Nat} {v1 : Int32} {v2 : Int32} {v3 : Int32} {v4 : Int32} {v5 : Int32} {t0 : Nat} {t1 : Int32} {a1 : Nat}
    (e0 : xRr sh r0 10 10 a1)
    (k : xg d qM_base [.int v1] (sh, I, J) (xI (fun v h1 => xG d zm_M_readPlain (133, [some (.ref r0), some (.int v1), some (.int v2), some (.int v3), some (.int v4), some (.int v5)], [.int v, .ref a1, .int t1, .ref t0]) h1 Q) (fun x h1 => Q (.inr x) h1))) :
    xG d zm_M_readPlain (125, [some (.ref r0), some (.int v1), some (.int v2), some (.int v3), some (.int v4), some (.int v5)], [.int t1, .ref t0]) (sh, I, J) Q := by
  obtain rfl := e0.eq
  exact xG_N 3 (ps := [xRf sh r0 10 10]) (f1 := (130, [some (.ref r0), some (.int v1), some (.int v2), some (.int v3), some (.int v4), some (.int v5)], [.int v1, .ref (xrf sh r0 10), .int t1, .ref t0])) (h1 := (sh, I, J)) rfl e0.rf (xG_Ci rfl rfl (Nat.le_of_ble_eq_true rfl) (Nat.le_of_ble_eq_true rfl) trivial rfl k)
set_option maxRecDepth 100000 in
theorem s_M_readPlain_133 {d : Nat} {Q : xO → xH → Prop} {sh : List xS} {I : Nat → Nat → Int32} {J : Nat → Nat → Int64} {r0 : Nat} {v1 : Int32} {v2 : Int32} {v3 : Int32} {v4 : Int32} {v5 : Int32} {t0 : Nat} {t1 : Int32} {t2 : Nat} {t3 : Int32} {n1 : Nat} {n2 : Nat}
    (e0 : xAr sh t2 .int n1)
    (e1 : vp_in (t3 + v5) n1)
    (e2 : xAr sh t0 .int n2)
    (e3 : 4 ≤ t0)
    (e4 : vp_in t1 n2)
    (k : Q (.inl (none)) (sh, xup I t0 t1.toNatClampNeg (I t2 (t3 + v5).toNatClampNeg), J)) :
    xG d zm_M_readPlain (133, [some (.ref r0), some (.int v1), some (.int v2), some (.int v3), some (.int v4), some (.int v5)], [.int t3, .ref t2, .int t1, .ref t0]) (sh, I, J) Q := by
  obtain rfl := e0.eq
  obtain rfl := e2.eq
  exact xG_N 4 (ps := [xA sh t2 .int, vp_in (t3 + v5) (xlen sh t2), xW sh t0 .int, vp_in t1 (xlen sh t0)]) (f1 := (138, [some (.ref r0), some (.int v1), some (.int v2), some (.int v3), some (.int v4), some (.int v5)], [])) (h1 := (sh, xup I t0 t1.toNatClampNeg (I t2 (t3 + v5).toNatClampNeg), J)) rfl ⟨e0.ar, e1, ⟨e2.ar, e3⟩, e4⟩ (xG_Q rfl rfl trivial k)
set_option maxRecDepth 100000 in
theorem s_M_readLengths_0 {d : Nat} {Q : xO → xH → Prop} {sh : List xS} {I : Nat → Nat → Int32} {J : Nat → Nat → Int64} {r0 : Nat} {v1 : Int32} {v2 : Int32}
    (ko : xOb sh r0 10)
    (k : xg d qM_bits [.ref r0, .int (4 : Int32)] (sh, I, J) (xI (fun v h1 => xG d zm_M_readLengths (5, [some (.ref r0), some (.int v1), some (.int v2), none, none, none, none, none, none, none], [.int v]) h1 Q) (fun x h1 => Q (.inr x) h1))) :
    xG d zm_M_readLengths (0, [some (.ref r0), some (.int v1), some (.int v2), none, none, none, none, none, none, none], []) (sh, I, J) Q := by
  exact xG_N 2 (ps := []) (f1 := (2, [some (.ref r0), some (.int v1), some (.int v2), none, none, none, none, none, none, none], [.int (4 : Int32), .ref r0])) (h1 := (sh, I, J)) rfl trivial (xG_Ci rfl rfl (Nat.le_of_ble_eq_true rfl) (Nat.le_of_ble_eq_true rfl) ⟨_, _, rfl, ko⟩ rfl k)
set_option maxRecDepth 100000 in
theorem s_M_readLengths_5 {d : Nat} {Q : xO → xH → Prop} {sh : List xS} {I : Nat → Nat → Int32} {J : Nat → Nat → Int64} {r0 : Nat} {v1 : Int32} {v2 : Int32} {t0 : Int32}
    (ko : xOb sh r0 10)
    (k : xg d qM_wipeLengths [.ref r0, .int (5 : Int32), .int (19 : Int32)] (sh, I, J) (xU (fun h1 => xG d zm_M_readLengths (15, [some (.ref r0), some (.int v1), some (.int v2), some (.int (t0 + (4 : Int32))), none, none, none, none, none, none], []) h1 Q) (fun x h1 => Q (.inr x) h1))) :
    xG d zm_M_readLengths (5, [some (.ref r0), some (.int v1), some (.int v2), none, none, none, none, none, none, none], [.int t0]) (sh, I, J) Q := by
  exact xG_N 6 (ps := []) (f1 := (12, [some (.ref r0), some (.int v1), some (.int v2), some (.int (t0 + (4 : Int32))), none, none, none, none, none, none], [.int (19 : Int32), .int (5 : Int32), .ref r0])) (h1 := (sh, I, J)) rfl trivial (xG_Cu rfl rfl (Nat.le_of_ble_eq_true rfl) (Nat.le_of_ble_eq_true rfl) ⟨_, _, rfl, ko⟩ rfl k)
set_option maxRecDepth 100000 in
theorem s_M_readLengths_15 {d : Nat} {Q : xO → xH → Prop} {sh : List xS} {I : Nat → Nat → Int32} {J : Nat → Nat → Int64} {r0 : Nat} {v1 : Int32} {v2 : Int32} {v3 : Int32}
    (k : xG d zm_M_readLengths (18, [some (.ref r0), some (.int v1), some (.int v2), some (.int v3), some (.int (0 : Int32)), none, none, none, none, none], []) (sh, I, J) Q) :
    xG d zm_M_readLengths (15, [some (.ref r0), some (.int v1), some (.int v2), some (.int v3), none, none, none, none, none, none], []) (sh, I, J) Q := by
  exact xG_N 2 (ps := []) (f1 := (18, [some (.ref r0), some (.int v1), some (.int v2), some (.int v3), some (.int (0 : Int32)), none, none, none, none, none], [])) (h1 := (sh, I, J)) rfl trivial (k)
set_option maxRecDepth 100000 in
theorem s_M_readLengths_18 {d : Nat} {Q : xO → xH → Prop} {sh : List xS} {I : Nat → Nat → Int32} {J : Nat → Nat → Int64} {r0 : Nat} {v1 : Int32} {v2 : Int32} {v3 : Int32} {v4 : Int32}
    (k1 : v3 ≤ v4 → xG d zm_M_readLengths (51, [some (.ref r0), some (.int v1), some (.int v2), some (.int v3), some (.int v4), none, none, none, none, none], []) (sh, I, J) Q)
    (k2 : ¬ (v3 ≤ v4) → xG d zm_M_readLengths (24, [some (.ref r0), some (.int v1), some (.int v2), some (.int v3), some (.int v4), none, none, none, none, none], []) (sh, I, J) Q) :
    xG d zm_M_readLengths (18, [some (.ref r0), some (.int v1), some (.int v2), some (.int v3), some (.int v4), none, none, none, none, none], []) (sh, I, J) Q := by
  exact xG_N 2 (ps := []) (f1 := (21, [some (.ref r0), some (.int v1), some (.int v2), some (.int v3), some (.int v4), none, none, none, none, none], [.int v3, .int v4])) (h1 := (sh, I, J)) rfl trivial (xG_B rfl rfl k1 k2)
set_option maxRecDepth 100000 in
theorem s_M_readLengths_24 {d : Nat} {Q : xO → xH → Prop} {sh : List xS} {I : Nat → Nat → Int32} {J : Nat → Nat → Int64} {r0 : Nat} {v1 : Int32} {v2 : Int32} {v3 : Int32} {v4 : Int32} {a1 : Nat} {a2 : Nat} {n3 : Nat}
    (e0 : xRr sh r0 10 10 a1)
    (e1 : xRr sh r0 10 36 a2)
    (e2 : xAr sh a2 .int n3)
    (e3 : vp_in v4 n3)
    (k : xg d qM_bits [.ref r0, .int (3 : Int32)] (sh, I, J) (xI (fun v h1 => xG d zm_M_readLengths (44, [some (.ref r0), some (.int v1), some (.int v2), some (.int v3), some (.int v4), none, none, none, none, none], [.int v, .int ((1104 : Int32) + (I a2 v4.toNatClampNeg)), .ref a1]) h1 Q) (fun x h1 => Q (.inr x) h1))) :
    xG d zm_M_readLengths (24, [some (.ref r0), some (.int v1), some (.int v2), some (.int v3), some (.int v4), none, none, none, none, none], []) (sh, I, J) Q := by
  obtain rfl := e0.eq
  obtain rfl := e1.eq
  obtain rfl := e2.eq
  exact xG_N 10 (ps := [xRf sh r0 10 10, xRf sh r0 10 36, xA sh (xrf sh r0 36) .int, vp_in v4 (xlen sh (xrf sh r0 36))]) (f1 := (41, [some (.ref r0), some (.int v1), some (.int v2), some (.int v3), some (.int v4), none, none, none, none, none], [.int (3 : Int32), .ref r0, .int ((1104 : Int32) + (I (xrf sh r0 36) v4.toNatClampNeg)), .ref (xrf sh r0 10)])) (h1 := (sh, I, J)) rfl ⟨e0.rf, e1.rf, e2.ar, e3⟩ (xG_Ci rfl rfl (Nat.le_of_ble_eq_true rfl) (Nat.le_of_ble_eq_true rfl) ⟨_, _, rfl, e1.ob⟩ rfl k)
set_option maxRecDepth 100000 in
theorem s_M_readLengths_44 {d : Nat} {Q : xO → xH → Prop} {sh : List xS} {I : Nat → Nat → Int32} {J : Nat → Nat → Int64} {r0 : Nat} {v1 : Int32} {v2 : Int32} {v3 : Int32} {v4 : Int32} {t0 : Nat} {t1 : Int32} {t2 : Int32} {n1 : Nat}
    (e0 : xAr sh t0 .int n1)
    (e1 : 4 ≤ t0)
    (e2 : vp_in t1 n1)
    (k : xG d zm_M_readLengths (18, [some (.ref r0), some (.int v1), some (.int v2), some (.int v3), some (.int (v4 + (1 : Int32))), none, none, none, none, none], []) (sh, xup I t0 t1.toNatClampNeg t2, J) Q) :
    xG d zm_M_readLengths (44, [some (.ref r0), some (.int v1), some (.int v2), some (.int v3), some (.int v4), none, none, none, none, none], [.int t2, .int t1, .ref t0]) (sh, I, J) Q := by
  obtain rfl := e0.eq
  exact xG_N 3 (ps := [xW sh t0 .int, vp_in t1 (xlen sh t0)]) (f1 := (18, [some (.ref r0), some (.int v1), some (.int v2), some (.int v3), some (.int (v4 + (1 : Int32))), none, none, none, none, none], [])) (h1 := (sh, xup I t0 t1.toNatClampNeg t2, J)) rfl ⟨⟨e0.ar, e1⟩, e2⟩ (k)
set_option maxRecDepth 100000 in
theorem s_M_readLengths_51 {d : Nat} {Q : xO → xH → Prop} {sh : List xS} {I : Nat → Nat → Int32} {J : Nat → Nat → Int64} {r0 : Nat} {v1 : Int32} {v2 : Int32} {v3 : Int32} {v4 : Int32}
    (ko : xOb sh r0 10)
    (k : xg d qM_weigh [.ref r0, .int (5 : Int32)] (sh, I, J) (xU (fun h1 => xG d zm_M_readLengths (56, [some (.ref r0), some (.int v1), some (.int v2), some (.int v3), some (.int v4), none, none, none, none, none], []) h1 Q) (fun x h1 => Q (.inr x) h1))) :
    xG d zm_M_readLengths (51, [some (.ref r0), some (.int v1), some (.int v2), some (.int v3), some (.int v4), none, none, none, none, none], []) (sh, I, J) Q := by
  exact xG_N 2 (ps := []) (f1 := (53, [some (.ref r0), some (.int v1), some (.int v2), some (.int v3), some (.int v4), none, none, none, none, none], [.int (5 : Int32), .ref r0])) (h1 := (sh, I, J)) rfl trivial (xG_Cu rfl rfl (Nat.le_of_ble_eq_true rfl) (Nat.le_of_ble_eq_true rfl) ⟨_, _, rfl, ko⟩ rfl k)
set_option maxRecDepth 100000 in
theorem s_M_readLengths_56 {d : Nat} {Q : xO → xH → Prop} {sh : List xS} {I : Nat → Nat → Int32} {J : Nat → Nat → Int64} {r0 : Nat} {v1 : Int32} {v2 : Int32} {v3 : Int32} {v4 : Int32}
    (k : xG d zm_M_readLengths (63, [some (.ref r0), some (.int v1), some (.int v2), some (.int v3), some (.int (8 : Int32)), some (.int (0 : Int32)), none, none, none, none], []) (sh, I, J) Q) :
    xG d zm_M_readLengths (56, [some (.ref r0), some (.int v1), some (.int v2), some (.int v3), some (.int v4), none, none, none, none, none], []) (sh, I, J) Q := by
  exact xG_N 4 (ps := []) (f1 := (63, [some (.ref r0), some (.int v1), some (.int v2), some (.int v3), some (.int (8 : Int32)), some (.int (0 : Int32)), none, none, none, none], [])) (h1 := (sh, I, J)) rfl trivial (k)
set_option maxRecDepth 100000 in
theorem s_M_readLengths_63 {d : Nat} {Q : xO → xH → Prop} {sh : List xS} {I : Nat → Nat → Int32} {J : Nat → Nat → Int64} {r0 : Nat} {v1 : Int32} {v2 : Int32} {v3 : Int32} {v4 : Int32} {v5 : Int32} {o6 : Option Value} {o7 : Option Value} {o8 : Option Value} {o9 : Option Value}
    (k1 : v2 ≤ v5 → xG d zm_M_readLengths (248, [some (.ref r0), some (.int v1), some (.int v2), some (.int v3), some (.int v4), some (.int v5), o6, o7, o8, o9], []) (sh, I, J) Q)
    (k2 : ¬ (v2 ≤ v5) → xG d zm_M_readLengths (69, [some (.ref r0), some (.int v1), some (.int v2), some (.int v3), some (.int v4), some (.int v5), o6, o7, o8, o9], []) (sh, I, J) Q) :
    xG d zm_M_readLengths (63, [some (.ref r0), some (.int v1), some (.int v2), some (.int v3), some (.int v4), some (.int v5), o6, o7, o8, o9], []) (sh, I, J) Q := by
  exact xG_N 2 (ps := []) (f1 := (66, [some (.ref r0), some (.int v1), some (.int v2), some (.int v3), some (.int v4), some (.int v5), o6, o7, o8, o9], [.int v2, .int v5])) (h1 := (sh, I, J)) rfl trivial (xG_B rfl rfl k1 k2)
set_option maxRecDepth 100000 in
theorem s_M_readLengths_69 {d : Nat} {Q : xO → xH → Prop} {sh : List xS} {I : Nat → Nat → Int32} {J : Nat → Nat → Int64} {r0 : Nat} {v1 : Int32} {v2 : Int32} {v3 : Int32} {v4 : Int32} {v5 : Int32} {o6 : Option Value} {o7 : Option Value} {o8 : Option Value} {o9 : Option Value}
    (e0 : xOb sh r0 10)
    (k1 : ¬ (I r0 9) = 0 → xG d zm_M_readLengths (248, [some (.ref r0), some (.int v1), some (.int v2), some (.int v3), some (.int v4), some (.int v5), o6, o7, o8, o9], []) (sh, I, J) Q)
    (k2 : ¬ (¬ (I r0 9) = 0) → xG d zm_M_readLengths (76, [some (.ref r0), some (.int v1), some (.int v2), some (.int v3), some (.int v4), some (.int v5), o6, o7, o8, o9], []) (sh, I, J) Q) :
    xG d zm_M_readLengths (69, [some (.ref r0), some (.int v1), some (.int v2), some (.int v3), some (.int v4), some (.int v5), o6, o7, o8, o9], []) (sh, I, J) Q := by
  exact xG_N 2 (ps := [xOb sh r0 10]) (f1 := (73, [some (.ref r0), some (.int v1), some (.int v2), some (.int v3), some (.int v4), some (.int v5), o6, o7, o8, o9], [.int (I r0 9)])) (h1 := (sh, I, J)) rfl e0 (xG_B rfl rfl k1 k2)
set_option maxRecDepth 100000 in
theorem s_M_readLengths_76 {d : Nat} {Q : xO → xH → Prop} {sh : List xS} {I : Nat → Nat → Int32} {J : Nat → Nat → Int64} {r0 : Nat} {v1 : Int32} {v2 : Int32} {v3 : Int32} {v4 : Int32} {v5 : Int32} {o6 : Option Value} {o7 : Option Value} {o8 : Option Value} {o9 : Option Value}
    (ko : xOb sh r0 10)
    (k : xg d qM_symbol [.ref r0, .int (5 : Int32)] (sh, I, J) (xI (fun v h1 => xG d zm_M_readLengths (81, [some (.ref r0), some (.int v1), some (.int v2), some (.int v3), some (.int v4), some (.int v5), o6, o7, o8, o9], [.int v]) h1 Q) (fun x h1 => Q (.inr x) h1))) :
    xG d zm_M_readLengths (76, [some (.ref r0), some (.int v1), some (.int v2), some (.int v3), some (.int v4), some (.int v5), o6, o7, o8, o9], []) (sh, I, J) Q := by
  exact xG_N 2 (ps := []) (f1 := (78, [some (.ref r0), some (.int v1), some (.int v2), some (.int v3), some (.int v4), some (.int v5), o6, o7, o8, o9], [.int (5 : Int32), .ref r0])) (h1 := (sh, I, J)) rfl trivial (xG_Ci rfl rfl (Nat.le_of_ble_eq_true rfl) (Nat.le_of_ble_eq_true rfl) ⟨_, _, rfl, ko⟩ rfl k)
set_option maxRecDepth 100000 in
theorem s_M_readLengths_81 {d : Nat} {Q : xO → xH → Prop} {sh : List xS} {I : Nat → Nat → Int32} {J : Nat → Nat → Int64} {r0 : Nat} {v1 : Int32} {v2 : Int32} {v3 : Int32} {v4 : Int32} {v5 : Int32} {o6 : Option Value} {o7 : Option Value} {o8 : Option Value} {o9 : Option Value} {t0 : Int32}
    (k1 : (16 : Int32) ≤ t0 → xG d zm_M_readLengths (94, [some (.ref r0), some (.int v1), some (.int v2), some (.int v3), some (.int v4), some (.int v5), some (.int t0), o7, o8, o9], []) (sh, I, J) Q)
    (k2 : ¬ ((16 : Int32) ≤ t0) → xG d zm_M_readLengths (90, [some (.ref r0), some (.int v1), some (.int v2), some (.int v3), some (.int v4), some (.int v5), some (.int t0), o7, o8, o9], []) (sh, I, J) Q) :
    xG d zm_M_readLengths (81, [some (.ref r0), some (.int v1), some (.int v2), some (.int v3), some (.int v4), some (.int v5), o6, o7, o8, o9], [.int t0]) (sh, I, J) Q := by
  exact xG_N 3 (ps := []) (f1 := (87, [some (.ref r0), some (.int v1), some (.int v2), some (.int v3), some (.int v4), some (.int v5), some (.int t0), o7, o8, o9], [.int (16 : Int32), .int t0])) (h1 := (sh, I, J)) rfl trivial (xG_B rfl rfl k1 k2)
set_option maxRecDepth 100000 in
theorem s_M_readLengths_90 {d : Nat} {Q : xO → xH → Prop} {sh : List xS} {I : Nat → Nat → Int32} {J : Nat → Nat → Int64} {r0 : Nat} {v1 : Int32} {v2 : Int32} {v3 : Int32} {v4 : Int32} {v5 : Int32} {v6 : Int32} {o7 : Option Value} {o8 : Option Value} {o9 : Option Value}
    (k1 : (16 : Int32) ≤ v6 → xG d zm_M_readLengths (151, [some (.ref r0), some (.int v1), some (.int v2), some (.int v3), some (.int v4), some (.int v5), some (.int v6), some (.int (1 : Int32)), o8, o9], []) (sh, I, J) Q)
    (k2 : ¬ ((16 : Int32) ≤ v6) → xG d zm_M_readLengths (146, [some (.ref r0), some (.int v1), some (.int v2), some (.int v3), some (.int v4), some (.int v5), some (.int v6), some (.int (1 : Int32)), o8, o9], []) (sh, I, J) Q) :
    xG d zm_M_readLengths (90, [some (.ref r0), some (.int v1), some (.int v2), some (.int v3), some (.int v4), some (.int v5), some (.int v6), o7, o8, o9], []) (sh, I, J) Q := by
  exact xG_N 5 (ps := []) (f1 := (143, [some (.ref r0), some (.int v1), some (.int v2), some (.int v3), some (.int v4), some (.int v5), some (.int v6), some (.int (1 : Int32)), o8, o9], [.int (16 : Int32), .int v6])) (h1 := (sh, I, J)) rfl trivial (xG_B rfl rfl k1 k2)
set_option maxRecDepth 100000 in
theorem s_M_readLengths_94 {d : Nat} {Q : xO → xH → Prop} {sh : List xS} {I : Nat → Nat → Int32} {J : Nat → Nat → Int64} {r0 : Nat} {v1 : Int32} {v2 : Int32} {v3 : Int32} {v4 : Int32} {v5 : Int32} {v6 : Int32} {o7 : Option Value} {o8 : Option Value} {o9 : Option Value}
    (k1 : ¬ v6 = (16 : Int32) → xG d zm_M_readLengths (111, [some (.ref r0), some (.int v1), some (.int v2), some (.int v3), some (.int v4), some (.int v5), some (.int v6), o7, o8, o9], []) (sh, I, J) Q)
    (k2 : ¬ (¬ v6 = (16 : Int32)) → xG d zm_M_readLengths (101, [some (.ref r0), some (.int v1), some (.int v2), some (.int v3), some (.int v4), some (.int v5), some (.int v6), o7, o8, o9], []) (sh, I, J) Q) :
    xG d zm_M_readLengths (94, [some (.ref r0), some (.int v1), some (.int v2), some (.int v3), some (.int v4), some (.int v5), some (.int v6), o7, o8, o9], []) (sh, I, J) Q := by
  exact xG_N 2 (ps := []) (f1 := (98, [some (.ref r0), some (.int v1), some (.int v2), some (.int v3), some (.int v4), some (.int v5), some (.int v6), o7, o8, o9], [.int (16 : Int32), .int v6])) (h1 := (sh, I, J)) rfl trivial (xG_B rfl rfl k1 k2)
set_option maxRecDepth 100000 in
theorem s_M_readLengths_101 {d : Nat} {Q : xO → xH → Prop} {sh : List xS} {I : Nat → Nat → Int32} {J : Nat → Nat → Int64} {r0 : Nat} {v1 : Int32} {v2 : Int32} {v3 : Int32} {v4 : Int32} {v5 : Int32} {v6 : Int32} {o7 : Option Value} {o8 : Option Value} {o9 : Option Value}
    (ko : xOb sh r0 10)
    (k : xg d qM_bits [.ref r0, .int (2 : Int32)] (sh, I, J) (xI (fun v h1 => xG d zm_M_readLengths (107, [some (.ref r0), some (.int v1), some (.int v2), some (.int v3), some (.int v4), some (.int v5), some (.int v6), o7, o8, o9], [.int v, .int (3 : Int32)]) h1 Q) (fun x h1 => Q (.inr x) h1))) :
    xG d zm_M_readLengths (101, [some (.ref r0), some (.int v1), some (.int v2), some (.int v3), some (.int v4), some (.int v5), some (.int v6), o7, o8, o9], []) (sh, I, J) Q := by
  exact xG_N 3 (ps := []) (f1 := (104, [some (.ref r0), some (.int v1), some (.int v2), some (.int v3), some (.int v4), some (.int v5), some (.int v6), o7, o8, o9], [.int (2 : Int32), .ref r0, .int (3 : Int32)])) (h1 := (sh, I, J)) rfl trivial (xG_Ci rfl rfl (Nat.le_of_ble_eq_true rfl) (Nat.le_of_ble_eq_true rfl) ⟨_, _, rfl, ko⟩ rfl k)
set_option maxRecDepth 100000 in
theorem s_M_readLengths_107 {d : Nat} {Q : xO → xH → Prop} {sh : List xS} {I : Nat → Nat → Int32} {J : Nat → Nat → Int64} {r0 : Nat} {v1 : Int32} {v2 : Int32} {v3 : Int32} {v4 : Int32} {v5 : Int32} {v6 : Int32} {o7 : Option Value} {o8 : Option Value} {o9 : Option Value} {t0 : Int32} {t1 : Int32}
    (k1 : (16 : Int32) ≤ v6 → xG d zm_M_readLengths (151, [some (.ref r0), some (.int v1), some (.int v2), some (.int v3), some (.int v4), some (.int v5), some (.int v6), some (.int (t0 + t1)), o8, o9], []) (sh, I, J) Q)
    (k2 : ¬ ((16 : Int32) ≤ v6) → xG d zm_M_readLengths (146, [some (.ref r0), some (.int v1), some (.int v2), some (.int v3), some (.int v4), some (.int v5), some (.int v6), some (.int (t0 + t1)), o8, o9], []) (sh, I, J) Q) :
    xG d zm_M_readLengths (107, [some (.ref r0), some (.int v1), some (.int v2), some (.int v3), some (.int v4), some (.int v5), some (.int v6), o7, o8, o9], [.int t1, .int t0]) (sh, I, J) Q := by
  exact xG_N 5 (ps := []) (f1 := (143, [some (.ref r0), some (.int v1), some (.int v2), some (.int v3), some (.int v4), some (.int v5), some (.int v6), some (.int (t0 + t1)), o8, o9], [.int (16 : Int32), .int v6])) (h1 := (sh, I, J)) rfl trivial (xG_B rfl rfl k1 k2)
set_option maxRecDepth 100000 in
theorem s_M_readLengths_111 {d : Nat} {Q : xO → xH → Prop} {sh : List xS} {I : Nat → Nat → Int32} {J : Nat → Nat → Int64} {r0 : Nat} {v1 : Int32} {v2 : Int32} {v3 : Int32} {v4 : Int32} {v5 : Int32} {v6 : Int32} {o7 : Option Value} {o8 : Option Value} {o9 : Option Value}
    (k1 : ¬ v6 = (17 : Int32) → xG d zm_M_readLengths (128, [some (.ref r0), some (.int v1), some (.int v2), some (.int v3), some (.int v4), some (.int v5), some (.int v6), o7, o8, o9], []) (sh, I, J) Q)
    (k2 : ¬ (¬ v6 = (17 : Int32)) → xG d zm_M_readLengths (118, [some (.ref r0), some (.int v1), some (.int v2), some (.int v3), some (.int v4), some (.int v5), some (.int v6), o7, o8, o9], []) (sh, I, J) Q) :
    xG d zm_M_readLengths (111, [some (.ref r0), some (.int v1), some (.int v2), some (.int v3), some (.int v4), some (.int v5), some (.int v6), o7, o8, o9], []) (sh, I, J) Q := by
  exact xG_N 2 (ps := []) (f1 := (115, [some (.ref r0), some (.int v1), some (.int v2), some (.int v3), some (.int v4), some (.int v5), some (.int v6), o7, o8, o9], [.int (17 : Int32), .int v6])) (h1 := (sh, I, J)) rfl trivial (xG_B rfl rfl k1 k2)
set_option maxRecDepth 100000 in
theorem s_M_readLengths_118 {d : Nat} {Q : xO → xH → Prop} {sh : List xS} {I : Nat → Nat → Int32} {J : Nat → Nat → Int64} {r0 : Nat} {v1 : Int32} {v2 : Int32} {v3 : Int32} {v4 : Int32} {v5 : Int32} {v6 : Int32} {o7 : Option Value} {o8 : Option Value} {o9 : Option Value}
    (ko : xOb sh r0 10)
    (k : xg d qM_bits [.ref r0, .int (3 : Int32)] (sh, I, J) (xI (fun v h1 => xG d zm_M_readLengths (124, [some (.ref r0), some (.int v1), some (.int v2), some (.int v3), some (.int v4), some (.int v5), some (.int v6), o7, o8, o9], [.int v, .int (3 : Int32)]) h1 Q) (fun x h1 => Q (.inr x) h1))) :
    xG d zm_M_readLengths (118, [some (.ref r0), some (.int v1), some (.int v2), some (.int v3), some (.int v4), some (.int v5), some (.int v6), o7, o8, o9], []) (sh, I, J) Q := by
  exact xG_N 3 (ps := []) (f1 := (121, [some (.ref r0), some (.int v1), some (.int v2), some (.int v3), some (.int v4), some (.int v5), some (.int v6), o7, o8, o9], [.int (3 : Int32), .ref r0, .int (3 : Int32)])) (h1 := (sh, I, J)) rfl trivial (xG_Ci rfl rfl (Nat.le_of_ble_eq_true rfl) (Nat.le_of_ble_eq_true rfl) ⟨_, _, rfl, ko⟩ rfl k)
set_option maxRecDepth 100000 in
theorem s_M_readLengths_124 {d : Nat} {Q : xO → xH → Prop} {sh : List xS} {I : Nat → Nat → Int32} {J : Nat → Nat → Int64} {r0 : Nat} {v1 : Int32} {v2 : Int32} {v3 : Int32} {v4 : Int32} {v5 : Int32} {v6 : Int32} {o7 : Option Value} {o8 : Option Value} {o9 : Option Value} {t0 : Int32} {t1 : Int32}
    (k1 : (16 : Int32) ≤ v6 → xG d zm_M_readLengths (151, [some (.ref r0), some (.int v1), some (.int v2), some (.int v3), some (.int v4), some (.int v5), some (.int v6), some (.int (t0 + t1)), o8, o9], []) (sh, I, J) Q)
    (k2 : ¬ ((16 : Int32) ≤ v6) → xG d zm_M_readLengths (146, [some (.ref r0), some (.int v1), some (.int v2), some (.int v3), some (.int v4), some (.int v5), some (.int v6), some (.int (t0 + t1)), o8, o9], []) (sh, I, J) Q) :
    xG d zm_M_readLengths (124, [some (.ref r0), some (.int v1), some (.int v2), some (.int v3), some (.int v4), some (.int v5), some (.int v6), o7, o8, o9], [.int t1, .int t0]) (sh, I, J) Q := by
  exact xG_N 5 (ps := []) (f1 := (143, [some (.ref r0), some (.int v1), some (.int v2), some (.int v3), some (.int v4), some (.int v5), some (.int v6), some (.int (t0 + t1)), o8, o9], [.int (16 : Int32), .int v6])) (h1 := (sh, I, J)) rfl trivial (xG_B rfl rfl k1 k2)
set_option maxRecDepth 100000 in
theorem s_M_readLengths_128 {d : Nat} {Q : xO → xH → Prop} {sh : List xS} {I : Nat → Nat → Int32} {J : Nat → Nat → Int64} {r0 : Nat} {v1 : Int32} {v2 : Int32} {v3 : Int32} {v4 : Int32} {v5 : Int32} {v6 : Int32} {o7 : Option Value} {o8 : Option Value} {o9 : Option Value}
    (ko : xOb sh r0 10)
    (k : xg d qM_bits [.ref r0, .int (7 : Int32)] (sh, I, J) (xI (fun v h1 => xG d zm_M_readLengths (136, [some (.ref r0), some (.int v1), some (.int v2), some (.int v3), some (.int v4), some (.int v5), some (.int v6), o7, o8, o9], [.int v, .int (11 : Int32)]) h1 Q) (fun x h1 => Q (.inr x) h1))) :
    xG d zm_M_readLengths (128, [some (.ref r0), some (.int v1), some (.int v2), some (.int v3), some (.int v4), some (.int v5), some (.int v6), o7, o8, o9], []) (sh, I, J) Q := by
  exact xG_N 3 (ps := []) (f1 := (133, [some (.ref r0), some (.int v1), some (.int v2), some (.int v3), some (.int v4), some (.int v5), some (.int v6), o7, o8, o9], [.int (7 : Int32), .ref r0, .int (11 : Int32)])) (h1 := (sh, I, J)) rfl trivial (xG_Ci rfl rfl (Nat.le_of_ble_eq_true rfl) (Nat.le_of_ble_eq_true rfl) ⟨_, _, rfl, ko⟩ rfl k)
set_option maxRecDepth 100000 in
theorem s_M_readLengths_136 {d : Nat} {Q : xO → xH → Prop} {sh : List xS} {I : Nat → Nat → Int32} {J : Nat → Nat → Int64} {r0 : Nat} {v1 : Int32} {v2 : Int32} {v3 : Int32} {v4 : Int32} {v5 : Int32} {v6 : Int32} {o7 : Option Value} {o8 : Option Value} {o9 : Option Value} {t0 : Int32} {t1 : Int32}
    (k1 : (16 : Int32) ≤ v6 → xG d zm_M_readLengths (151, [some (.ref r0), some (.int v1), some (.int v2), some (.int v3), some (.int v4), some (.int v5), some (.int v6), some (.int (t0 + t1)), o8, o9], []) (sh, I, J) Q)
    (k2 : ¬ ((16 : Int32) ≤ v6) → xG d zm_M_readLengths (146, [some (.ref r0), some (.int v1), some (.int v2), some (.int v3), some (.int v4), some (.int v5), some (.int v6), some (.int (t0 + t1)), o8, o9], []) (sh, I, J) Q) :
    xG d zm_M_readLengths (136, [some (.ref r0), some (.int v1), some (.int v2), some (.int v3), some (.int v4), some (.int v5), some (.int v6), o7, o8, o9], [.int t1, .int t0]) (sh, I, J) Q := by
  exact xG_N 4 (ps := []) (f1 := (143, [some (.ref r0), some (.int v1), some (.int v2), some (.int v3), some (.int v4), some (.int v5), some (.int v6), some (.int (t0 + t1)), o8, o9], [.int (16 : Int32), .int v6])) (h1 := (sh, I, J)) rfl trivial (xG_B rfl rfl k1 k2)
set_option maxRecDepth 100000 in
theorem s_M_readLengths_146 {d : Nat} {Q : xO → xH → Prop} {sh : List xS} {I : Nat → Nat → Int32} {J : Nat → Nat → Int64} {r0 : Nat} {v1 : Int32} {v2 : Int32} {v3 : Int32} {v4 : Int32} {v5 : Int32} {v6 : Int32} {v7 : Int32} {o8 : Option Value} {o9 : Option Value}
    (k1 : v6 ≤ 0 → xG d zm_M_readLengths (176, [some (.ref r0), some (.int v1), some (.int v2), some (.int v3), some (.int v4), some (.int v5), some (.int v6), some (.int v7), some (.int v6), o9], []) (sh, I, J) Q)
    (k2 : ¬ (v6 ≤ 0) → xG d zm_M_readLengths (171, [some (.ref r0), some (.int v1), some (.int v2), some (.int v3), some (.int v4), some (.int v5), some (.int v6), some (.int v7), some (.int v6), o9], []) (sh, I, J) Q) :
    xG d zm_M_readLengths (146, [some (.ref r0), some (.int v1), some (.int v2), some (.int v3), some (.int v4), some (.int v5), some (.int v6), some (.int v7), o8, o9], []) (sh, I, J) Q := by
  exact xG_N 4 (ps := []) (f1 := (168, [some (.ref r0), some (.int v1), some (.int v2), some (.int v3), some (.int v4), some (.int v5), some (.int v6), some (.int v7), some (.int v6), o9], [.int v6])) (h1 := (sh, I, J)) rfl trivial (xG_B rfl rfl k1 k2)
set_option maxRecDepth 100000 in
theorem s_M_readLengths_151 {d : Nat} {Q : xO → xH → Prop} {sh : List xS} {I : Nat → Nat → Int32} {J : Nat → Nat → Int64} {r0 : Nat} {v1 : Int32} {v2 : Int32} {v3 : Int32} {v4 : Int32} {v5 : Int32} {v6 : Int32} {v7 : Int32} {o8 : Option Value} {o9 : Option Value}
    (k1 : ¬ v6 = (16 : Int32) → xG d zm_M_readLengths (163, [some (.ref r0), some (.int v1), some (.int v2), some (.int v3), some (.int v4), some (.int v5), some (.int v6), some (.int v7), o8, o9], []) (sh, I, J) Q)
    (k2 : ¬ (¬ v6 = (16 : Int32)) → xG d zm_M_readLengths (158, [some (.ref r0), some (.int v1), some (.int v2), some (.int v3), some (.int v4), some (.int v5), some (.int v6), some (.int v7), o8, o9], []) (sh, I, J) Q) :
    xG d zm_M_readLengths (151, [some (.ref r0), some (.int v1), some (.int v2), some (.int v3), some (.int v4), some (.int v5), some (.int v6), some (.int v7), o8, o9], []) (sh, I, J) Q := by
  exact xG_N 2 (ps := []) (f1 := (155, [some (.ref r0), some (.int v1), some (.int v2), some (.int v3), some (.int v4), some (.int v5), some (.int v6), some (.int v7), o8, o9], [.int (16 : Int32), .int v6])) (h1 := (sh, I, J)) rfl trivial (xG_B rfl rfl k1 k2)
set_option maxRecDepth 100000 in
theorem s_M_readLengths_158 {d : Nat} {Q : xO → xH → Prop} {sh : List xS} {I : Nat → Nat → Int32} {J : Nat → Nat → Int64} {r0 : Nat} {v1 : Int32} {v2 : Int32} {v3 : Int32} {v4 : Int32} {v5 : Int32} {v6 : Int32} {v7 : Int32} {o8 : Option Value} {o9 : Option Value}
    (k1 : v4 ≤ 0 → xG d zm_M_readLengths (176, [some (.ref r0), some (.int v1), some (.int v2), some (.int v3), some (.int v4), some (.int v5), some (.int v6), some (.int v7), some (.int v4), o9], []) (sh, I, J) Q)
    (k2 : ¬ (v4 ≤ 0) → xG d zm_M_readLengths (171, [some (.ref r0), some (.int v1), some (.int v2), some (.int v3), some (.int v4), some (.int v5), some (.int v6), some (.int v7), some (.int v4), o9], []) (sh, I, J) Q) :
    xG d zm_M_readLengths (158, [some (.ref r0), some (.int v1), some (.int v2), some (.int v3), some (.int v4), some (.int v5), some (.int v6), some (.int v7), o8, o9], []) (sh, I, J) Q := by
  exact xG_N 4 (ps := []) (f1 := (168, [some (.ref r0), some (.int v1), some (.int v2), some (.int v3), some (.int v4), some (.int v5), some (.int v6), some (.int v7), some (.int v4), o9], [.int v4])) (h1 := (sh, I, J)) rfl trivial (xG_B rfl rfl k1 k2)
set_option maxRecDepth 100000 in
theorem s_M_readLengths_163 {d : Nat} {Q : xO → xH → Prop} {sh : List xS} {I : Nat → Nat → Int32} {J : Nat → Nat → Int64} {r0 : Nat} {v1 : Int32} {v2 : Int32} {v3 : Int32} {v4 : Int32} {v5 : Int32} {v6 : Int32} {v7 : Int32} {o8 : Option Value} {o9 : Option Value}
    (k1 : (0 : Int32) ≤ 0 → xG d zm_M_readLengths (176, [some (.ref r0), some (.int v1), some (.int v2), some (.int v3), some (.int v4), some (.int v5), some (.int v6), some (.int v7), some (.int (0 : Int32)), o9], []) (sh, I, J) Q)
    (k2 : ¬ ((0 : Int32) ≤ 0) → xG d zm_M_readLengths (171, [some (.ref r0), some (.int v1), some (.int v2), some (.int v3), some (.int v4), some (.int v5), some (.int v6), some (.int v7), some (.int (0 : Int32)), o9], []) (sh, I, J) Q) :
    xG d zm_M_readLengths (163, [some (.ref r0), some (.int v1), some (.int v2), some (.int v3), some (.int v4), some (.int v5), some (.int v6), some (.int v7), o8, o9], []) (sh, I, J) Q := by
  exact xG_N 3 (ps := []) (f1 := (168, [some (.ref r0), some (.int v1), some (.int v2), some (.int v3), some (.int v4), some (.int v5), some (.int v6), some (.int v7), some (.int (0 : Int32)), o9], [.int (0 : Int32)])) (h1 := (sh, I, J)) rfl trivial (xG_B rfl rfl k1 k2)
set_option maxRecDepth 100000 in
theorem s_M_readLengths_171 {d : Nat} {Q : xO → xH → Prop} {sh : List xS} {I : Nat → Nat → Int32} {J : Nat → Nat → Int64} {r0 : Nat} {v1 : Int32} {v2 : Int32} {v3 : Int32} {v4 : Int32} {v5 : Int32} {v6 : Int32} {v7 : Int32} {v8 : Int32} {o9 : Option Value}
    (e0 : xOb sh r0 10)
    (k1 : ¬ (I r0 9) = 0 → xG d zm_M_readLengths (197, [some (.ref r0), some (.int v1), some (.int v2), some (.int v3), some (.int v8), some (.int v5), some (.int v6), some (.int v7), some (.int v8), o9], [.ref r0]) (sh, I, J) Q)
    (k2 : ¬ (¬ (I r0 9) = 0) → xG d zm_M_readLengths (188, [some (.ref r0), some (.int v1), some (.int v2), some (.int v3), some (.int v8), some (.int v5), some (.int v6), some (.int v7), some (.int v8), o9], [.ref r0]) (sh, I, J) Q) :
    xG d zm_M_readLengths (171, [some (.ref r0), some (.int v1), some (.int v2), some (.int v3), some (.int v4), some (.int v5), some (.int v6), some (.int v7), some (.int v8), o9], []) (sh, I, J) Q := by
  exact xG_N 6 (ps := [xOb sh r0 10]) (f1 := (185, [some (.ref r0), some (.int v1), some (.int v2), some (.int v3), some (.int v8), some (.int v5), some (.int v6), some (.int v7), some (.int v8), o9], [.int (I r0 9), .ref r0])) (h1 := (sh, I, J)) rfl e0 (xG_B rfl rfl k1 k2)
set_option maxRecDepth 100000 in
theorem s_M_readLengths_176 {d : Nat} {Q : xO → xH → Prop} {sh : List xS} {I : Nat → Nat → Int32} {J : Nat → Nat → Int64} {r0 : Nat} {v1 : Int32} {v2 : Int32} {v3 : Int32} {v4 : Int32} {v5 : Int32} {v6 : Int32} {v7 : Int32} {v8 : Int32} {o9 : Option Value}
    (e0 : xOb sh r0 10)
    (k1 : ¬ (I r0 9) = 0 → xG d zm_M_readLengths (197, [some (.ref r0), some (.int v1), some (.int v2), some (.int v3), some (.int v4), some (.int v5), some (.int v6), some (.int v7), some (.int v8), o9], [.ref r0]) (sh, I, J) Q)
    (k2 : ¬ (¬ (I r0 9) = 0) → xG d zm_M_readLengths (188, [some (.ref r0), some (.int v1), some (.int v2), some (.int v3), some (.int v4), some (.int v5), some (.int v6), some (.int v7), some (.int v8), o9], [.ref r0]) (sh, I, J) Q) :
    xG d zm_M_readLengths (176, [some (.ref r0), some (.int v1), some (.int v2), some (.int v3), some (.int v4), some (.int v5), some (.int v6), some (.int v7), some (.int v8), o9], []) (sh, I, J) Q := by
  exact xG_N 5 (ps := [xOb sh r0 10]) (f1 := (185, [some (.ref r0), some (.int v1), some (.int v2), some (.int v3), some (.int v4), some (.int v5), some (.int v6), some (.int v7), some (.int v8), o9], [.int (I r0 9), .ref r0])) (h1 := (sh, I, J)) rfl e0 (xG_B rfl rfl k1 k2)
set_option maxRecDepth 100000 in
theorem s_M_readLengths_188 {d : Nat} {Q : xO → xH → Prop} {sh : List xS} {I : Nat → Nat → Int32} {J : Nat → Nat → Int64} {r0 : Nat} {v1 : Int32} {v2 : Int32} {v3 : Int32} {v4 : Int32} {v5 : Int32} {v6 : Int32} {v7 : Int32} {v8 : Int32} {o9 : Option Value} {t0 : Nat}
    (k1 : (v5 + v7) ≤ v2 → xG d zm_M_readLengths (201, [some (.ref r0), some (.int v1), some (.int v2), some (.int v3), some (.int v4), some (.int v5), some (.int v6), some (.int v7), some (.int v8), o9], [.ref t0]) (sh, I, J) Q)
    (k2 : ¬ ((v5 + v7) ≤ v2) → xG d zm_M_readLengths (197, [some (.ref r0), some (.int v1), some (.int v2), some (.int v3), some (.int v4), some (.int v5), some (.int v6), some (.int v7), some (.int v8), o9], [.ref t0]) (sh, I, J) Q) :
    xG d zm_M_readLengths (188, [some (.ref r0), some (.int v1), some (.int v2), some (.int v3), some (.int v4), some (.int v5), some (.int v6), some (.int v7), some (.int v8), o9], [.ref t0]) (sh, I, J) Q := by
  exact xG_N 4 (ps := []) (f1 := (194, [some (.ref r0), some (.int v1), some (.int v2), some (.int v3), some (.int v4), some (.int v5), some (.int v6), some (.int v7), some (.int v8), o9], [.int v2, .int (v5 + v7), .ref t0])) (h1 := (sh, I, J)) rfl trivial (xG_B rfl rfl k1 k2)
set_option maxRecDepth 100000 in
theorem s_M_readLengths_197 {d : Nat} {Q : xO → xH → Prop} {sh : List xS} {I : Nat → Nat → Int32} {J : Nat → Nat → Int64} {r0 : Nat} {v1 : Int32} {v2 : Int32} {v3 : Int32} {v4 : Int32} {v5 : Int32} {v6 : Int32} {v7 : Int32} {v8 : Int32} {o9 : Option Value} {t0 : Nat}
    (e0 : xOb sh t0 10)
    (k : xG d zm_M_readLengths (208, [some (.ref r0), some (.int v1), some (.int v2), some (.int v3), some (.int v4), some (.int v5), some (.int v6), some (.int v7), some (.int v8), some (.int (0 : Int32))], []) (sh, xup I t0 9 (1 : Int32), J) Q) :
    xG d zm_M_readLengths (197, [some (.ref r0), some (.int v1), some (.int v2), some (.int v3), some (.int v4), some (.int v5), some (.int v6), some (.int v7), some (.int v8), o9], [.ref t0]) (sh, I, J) Q := by
  exact xG_N 5 (ps := [xOb sh t0 10, ((1 : Int32) : Int32) = 0 ∨ ((1 : Int32) : Int32) = 1]) (f1 := (208, [some (.ref r0), some (.int v1), some (.int v2), some (.int v3), some (.int v4), some (.int v5), some (.int v6), some (.int v7), some (.int v8), some (.int (0 : Int32))], [])) (h1 := (sh, xup I t0 9 (1 : Int32), J)) rfl ⟨e0, (show ((1 : Int32) : Int32) = 0 ∨ ((1 : Int32) : Int32) = 1 by decide)⟩ (k)
set_option maxRecDepth 100000 in
theorem s_M_readLengths_201 {d : Nat} {Q : xO → xH → Prop} {sh : List xS} {I : Nat → Nat → Int32} {J : Nat → Nat → Int64} {r0 : Nat} {v1 : Int32} {v2 : Int32} {v3 : Int32} {v4 : Int32} {v5 : Int32} {v6 : Int32} {v7 : Int32} {v8 : Int32} {o9 : Option Value} {t0 : Nat}
    (e0 : xOb sh t0 10)
    (k : xG d zm_M_readLengths (208, [some (.ref r0), some (.int v1), some (.int v2), some (.int v3), some (.int v4), some (.int v5), some (.int v6), some (.int v7), some (.int v8), some (.int (0 : Int32))], []) (sh, xup I t0 9 (0 : Int32), J) Q) :
    xG d zm_M_readLengths (201, [some (.ref r0), some (.int v1), some (.int v2), some (.int v3), some (.int v4), some (.int v5), some (.int v6), some (.int v7), some (.int v8), o9], [.ref t0]) (sh, I, J) Q := by
  exact xG_N 4 (ps := [xOb sh t0 10, ((0 : Int32) : Int32) = 0 ∨ ((0 : Int32) : Int32) = 1]) (f1 := (208, [some (.ref r0), some (.int v1), some (.int v2), some (.int v3), some (.int v4), some (.int v5), some (.int v6), some (.int v7), some (.int v8), some (.int (0 : Int32))], [])) (h1 := (sh, xup I t0 9 (0 : Int32), J)) rfl ⟨e0, (show ((0 : Int32) : Int32) = 0 ∨ ((0 : Int32) : Int32) = 1 by decide)⟩ (k)
set_option maxRecDepth 100000 in
theorem s_M_readLengths_208 {d : Nat} {Q : xO → xH → Prop} {sh : List xS} {I : Nat → Nat → Int32} {J : Nat → Nat → Int64} {r0 : Nat} {v1 : Int32} {v2 : Int32} {v3 : Int32} {v4 : Int32} {v5 : Int32} {v6 : Int32} {v7 : Int32} {v8 : Int32} {v9 : Int32}
    (k1 : v7 ≤ v9 → xG d zm_M_readLengths (245, [some (.ref r0), some (.int v1), some (.int v2), some (.int v3), some (.int v4), some (.int v5), some (.int v6), some (.int v7), some (.int v8), some (.int v9)], []) (sh, I, J) Q)
    (k2 : ¬ (v7 ≤ v9) → xG d zm_M_readLengths (215, [some (.ref r0), some (.int v1), some (.int v2), some (.int v3), some (.int v4), some (.int v5), some (.int v6), some (.int v7), some (.int v8), some (.int v9)], []) (sh, I, J) Q) :
    xG d zm_M_readLengths (208, [some (.ref r0), some (.int v1), some (.int v2), some (.int v3), some (.int v4), some (.int v5), some (.int v6), some (.int v7), some (.int v8), some (.int v9)], []) (sh, I, J) Q := by
  exact xG_N 2 (ps := []) (f1 := (212, [some (.ref r0), some (.int v1), some (.int v2), some (.int v3), some (.int v4), some (.int v5), some (.int v6), some (.int v7), some (.int v8), some (.int v9)], [.int v7, .int v9])) (h1 := (sh, I, J)) rfl trivial (xG_B rfl rfl k1 k2)
set_option maxRecDepth 100000 in
theorem s_M_readLengths_215 {d : Nat} {Q : xO → xH → Prop} {sh : List xS} {I : Nat → Nat → Int32} {J : Nat → Nat → Int64} {r0 : Nat} {v1 : Int32} {v2 : Int32} {v3 : Int32} {v4 : Int32} {v5 : Int32} {v6 : Int32} {v7 : Int32} {v8 : Int32} {v9 : Int32}
    (e0 : xOb sh r0 10)
    (k1 : ¬ (I r0 9) = 0 → xG d zm_M_readLengths (245, [some (.ref r0), some (.int v1), some (.int v2), some (.int v3), some (.int v4), some (.int v5), some (.int v6), some (.int v7), some (.int v8), some (.int v9)], []) (sh, I, J) Q)
    (k2 : ¬ (¬ (I r0 9) = 0) → xG d zm_M_readLengths (222, [some (.ref r0), some (.int v1), some (.int v2), some (.int v3), some (.int v4), some (.int v5), some (.int v6), some (.int v7), some (.int v8), some (.int v9)], []) (sh, I, J) Q) :
    xG d zm_M_readLengths (215, [some (.ref r0), some (.int v1), some (.int v2), some (.int v3), some (.int v4), some (.int v5), some (.int v6), some (.int v7), some (.int v8), some (.int v9)], []) (sh, I, J) Q := by
  exact xG_N 2 (ps := [xOb sh r0 10]) (f1 := (219, [some (.ref r0), some (.int v1), some (.int v2), some (.int v3), some (.int v4), some (.int v5), some (.int v6), some (.int v7), some (.int v8), some (.int v9)], [.int (I r0 9)])) (h1 := (sh, I, J)) rfl e0 (xG_B rfl rfl k1 k2)
set_option maxRecDepth 100000 in
theorem s_M_readLengths_222 {d : Nat} {Q : xO → xH → Prop} {sh : List xS} {I : Nat → Nat → Int32} {J : Nat → Nat → Int64} {r0 : Nat} {v1 : Int32} {v2 : Int32} {v3 : Int32} {v4 : Int32} {v5 : Int32} {v6 : Int32} {v7 : Int32} {v8 : Int32} {v9 : Int32} {a1 : Nat}
    (e0 : xRr sh r0 10 10 a1)
    (k : xg d qM_base [.int v1] (sh, I, J) (xI (fun v h1 => xG d zm_M_readLengths (230, [some (.ref r0), some (.int v1), some (.int v2), some (.int v3), some (.int v4), some (.int v5), some (.int v6), some (.int v7), some (.int v8), some (.int v9)], [.int v, .ref a1]) h1 Q) (fun x h1 => Q (.inr x) h1))) :
    xG d zm_M_readLengths (222, [some (.ref r0), some (.int v1), some (.int v2), some (.int v3), some (.int v4), some (.int v5), some (.int v6), some (.int v7), some (.int v8), some (.int v9)], []) (sh, I, J) Q := by
  obtain rfl := e0.eq
  exact xG_N 3 (ps := [xRf sh r0 10 10]) (f1 := (227, [some (.ref r0), some (.int v1), some (.int v2), some (.int v3), some (.int v4), some (.int v5), some (.int v6), some (.int v7), some (.int v8), some (.int v9)], [.int v1, .ref (xrf sh r0 10)])) (h1 := (sh, I, J)) rfl e0.rf (xG_Ci rfl rfl (Nat.le_of_ble_eq_true rfl) (Nat.le_of_ble_eq_true rfl) trivial rfl k)
set_option maxRecDepth 100000 in
theorem s_M_readLengths_230 {d : Nat} {Q : xO → xH → Prop} {sh : List xS} {I : Nat → Nat → Int32} {J : Nat → Nat → Int64} {r0 : Nat} {v1 : Int32} {v2 : Int32} {v3 : Int32} {v4 : Int32} {v5 : Int32} {v6 : Int32} {v7 : Int32} {v8 : Int32} {v9 : Int32} {t0 : Nat} {t1 : Int32} {n1 : Nat}
    (e0 : xAr sh t0 .int n1)
    (e1 : 4 ≤ t0)
    (e2 : vp_in (t1 + v5) n1)
    (k : xG d zm_M_readLengths (208, [some (.ref r0), some (.int v1), some (.int v2), some (.int v3), some (.int v4), some (.int (v5 + (1 : Int32))), some (.int v6), some (.int v7), some (.int v8), some (.int (v9 + (1 : Int32)))], []) (sh, xup I t0 (t1 + v5).toNatClampNeg v8, J) Q) :
    xG d zm_M_readLengths (230, [some (.ref r0), some (.int v1), some (.int v2), some (.int v3), some (.int v4), some (.int v5), some (.int v6), some (.int v7), some (.int v8), some (.int v9)], [.int t1, .ref t0]) (sh, I, J) Q := by
  obtain rfl := e0.eq
  exact xG_N 7 (ps := [xW sh t0 .int, vp_in (t1 + v5) (xlen sh t0)]) (f1 := (208, [some (.ref r0), some (.int v1), some (.int v2), some (.int v3), some (.int v4), some (.int (v5 + (1 : Int32))), some (.int v6), some (.int v7), some (.int v8), some (.int (v9 + (1 : Int32)))], [])) (h1 := (sh, xup I t0 (t1 + v5).toNatClampNeg v8, J)) rfl ⟨⟨e0.ar, e1⟩, e2⟩ (k)
set_option maxRecDepth 100000 in
theorem s_M_readLengths_245 {d : Nat} {Q : xO → xH → Prop} {sh : List xS} {I : Nat → Nat → Int32} {J : Nat → Nat → Int64} {r0 : Nat} {v1 : Int32} {v2 : Int32} {v3 : Int32} {v4 : Int32} {v5 : Int32} {v6 : Int32} {v7 : Int32} {v8 : Int32} {v9 : Int32}
    (k : xG d zm_M_readLengths (63, [some (.ref r0), some (.int v1), some (.int v2), some (.int v3), some (.int v4), some (.int v5), some (.int v6), some (.int v7), some (.int v8), some (.int v9)], []) (sh, I, J) Q) :
    xG d zm_M_readLengths (245, [some (.ref r0), some (.int v1), some (.int v2), some (.int v3), some (.int v4), some (.int v5), some (.int v6), some (.int v7), some (.int v8), some (.int v9)], []) (sh, I, J) Q := by
  exact xG_N 1 (ps := []) (f1 := (63, [some (.ref r0), some (.int v1), some (.int v2), some (.int v3), some (.int v4), some (.int v5), some (.int v6), some (.int v7), some (.int v8), some (.int v9)], [])) (h1 := (sh, I, J)) rfl trivial (k)
set_option maxRecDepth 100000 in
theorem s_M_readLengths_248 {d : Nat} {Q : xO → xH → Prop} {sh : List xS} {I : Nat → Nat → Int32} {J : Nat → Nat → Int64} {r0 : Nat} {v1 : Int32} {v2 : Int32} {v3 : Int32} {v4 : Int32} {v5 : Int32} {o6 : Option Value} {o7 : Option Value} {o8 : Option Value} {o9 : Option Value}
    (k : Q (.inl (none)) (sh, I, J)) :
    xG d zm_M_readLengths (248, [some (.ref r0), some (.int v1), some (.int v2), some (.int v3), some (.int v4), some (.int v5), o6, o7, o8, o9], []) (sh, I, J) Q := by
  exact xG_Q rfl rfl trivial k
set_option maxRecDepth 100000 in
theorem s_M_readCode_0 {d : Nat} {Q : xO → xH → Prop} {sh : List xS} {I : Nat → Nat → Int32} {J : Nat → Nat → Int64} {r0 : Nat} {v1 : Int32} {v2 : Int32}
    (ko : xOb sh r0 10)
    (k : xg d qM_wipeLengths [.ref r0, .int v1, .int v2] (sh, I, J) (xU (fun h1 => xG d zm_M_readCode (6, [some (.ref r0), some (.int v1), some (.int v2)], []) h1 Q) (fun x h1 => Q (.inr x) h1))) :
    xG d zm_M_readCode (0, [some (.ref r0), some (.int v1), some (.int v2)], []) (sh, I, J) Q := by
  exact xG_N 3 (ps := []) (f1 := (3, [some (.ref r0), some (.int v1), some (.int v2)], [.int v2, .int v1, .ref r0])) (h1 := (sh, I, J)) rfl trivial (xG_Cu rfl rfl (Nat.le_of_ble_eq_true rfl) (Nat.le_of_ble_eq_true rfl) ⟨_, _, rfl, ko⟩ rfl k)
set_option maxRecDepth 100000 in
theorem s_M_readCode_6 {d : Nat} {Q : xO → xH → Prop} {sh : List xS} {I : Nat → Nat → Int32} {J : Nat → Nat → Int64} {r0 : Nat} {v1 : Int32} {v2 : Int32}
    (ko : xOb sh r0 10)
    (k : xg d qM_bit [.ref r0] (sh, I, J) (xI (fun v h1 => xG d zm_M_readCode (10, [some (.ref r0), some (.int v1), some (.int v2)], [.int v]) h1 Q) (fun x h1 => Q (.inr x) h1))) :
    xG d zm_M_readCode (6, [some (.ref r0), some (.int v1), some (.int v2)], []) (sh, I, J) Q := by
  exact xG_N 1 (ps := []) (f1 := (7, [some (.ref r0), some (.int v1), some (.int v2)], [.ref r0])) (h1 := (sh, I, J)) rfl trivial (xG_Ci rfl rfl (Nat.le_of_ble_eq_true rfl) (Nat.le_of_ble_eq_true rfl) ⟨_, _, rfl, ko⟩ rfl k)
set_option maxRecDepth 100000 in
theorem s_M_readCode_10 {d : Nat} {Q : xO → xH → Prop} {sh : List xS} {I : Nat → Nat → Int32} {J : Nat → Nat → Int64} {r0 : Nat} {v1 : Int32} {v2 : Int32} {t0 : Int32}
    (k1 : ¬ t0 = (1 : Int32) → xG d zm_M_readCode (23, [some (.ref r0), some (.int v1), some (.int v2)], []) (sh, I, J) Q)
    (k2 : ¬ (¬ t0 = (1 : Int32)) → xG d zm_M_readCode (14, [some (.ref r0), some (.int v1), some (.int v2)], []) (sh, I, J) Q) :
    xG d zm_M_readCode (10, [some (.ref r0), some (.int v1), some (.int v2)], [.int t0]) (sh, I, J) Q := by
  exact xG_N 1 (ps := []) (f1 := (11, [some (.ref r0), some (.int v1), some (.int v2)], [.int (1 : Int32), .int t0])) (h1 := (sh, I, J)) rfl trivial (xG_B rfl rfl k1 k2)
set_option maxRecDepth 100000 in
theorem s_M_readCode_14 {d : Nat} {Q : xO → xH → Prop} {sh : List xS} {I : Nat → Nat → Int32} {J : Nat → Nat → Int64} {r0 : Nat} {v1 : Int32} {v2 : Int32}
    (ko : xOb sh r0 10)
    (k : xg d qM_readPlain [.ref r0, .int v1, .int v2] (sh, I, J) (xU (fun h1 => xG d zm_M_readCode (20, [some (.ref r0), some (.int v1), some (.int v2)], []) h1 Q) (fun x h1 => Q (.inr x) h1))) :
    xG d zm_M_readCode (14, [some (.ref r0), some (.int v1), some (.int v2)], []) (sh, I, J) Q := by
  exact xG_N 3 (ps := []) (f1 := (17, [some (.ref r0), some (.int v1), some (.int v2)], [.int v2, .int v1, .ref r0])) (h1 := (sh, I, J)) rfl trivial (xG_Cu rfl rfl (Nat.le_of_ble_eq_true rfl) (Nat.le_of_ble_eq_true rfl) ⟨_, _, rfl, ko⟩ rfl k)
set_option maxRecDepth 100000 in
theorem s_M_readCode_20 {d : Nat} {Q : xO → xH → Prop} {sh : List xS} {I : Nat → Nat → Int32} {J : Nat → Nat → Int64} {r0 : Nat} {v1 : Int32} {v2 : Int32}
    (e0 : xOb sh r0 10)
    (k1 : ¬ (I r0 9) = 0 → xG d zm_M_readCode (41, [some (.ref r0), some (.int v1), some (.int v2)], []) (sh, I, J) Q)
    (k2 : ¬ (¬ (I r0 9) = 0) → xG d zm_M_readCode (36, [some (.ref r0), some (.int v1), some (.int v2)], []) (sh, I, J) Q) :
    xG d zm_M_readCode (20, [some (.ref r0), some (.int v1), some (.int v2)], []) (sh, I, J) Q := by
  exact xG_N 3 (ps := [xOb sh r0 10]) (f1 := (33, [some (.ref r0), some (.int v1), some (.int v2)], [.int (I r0 9)])) (h1 := (sh, I, J)) rfl e0 (xG_B rfl rfl k1 k2)
set_option maxRecDepth 100000 in
theorem s_M_readCode_23 {d : Nat} {Q : xO → xH → Prop} {sh : List xS} {I : Nat → Nat → Int32} {J : Nat → Nat → Int64} {r0 : Nat} {v1 : Int32} {v2 : Int32}
    (ko : xOb sh r0 10)
    (k : xg d qM_readLengths [.ref r0, .int v1, .int v2] (sh, I, J) (xU (fun h1 => xG d zm_M_readCode (29, [some (.ref r0), some (.int v1), some (.int v2)], []) h1 Q) (fun x h1 => Q (.inr x) h1))) :
    xG d zm_M_readCode (23, [some (.ref r0), some (.int v1), some (.int v2)], []) (sh, I, J) Q := by
  exact xG_N 3 (ps := []) (f1 := (26, [some (.ref r0), some (.int v1), some (.int v2)], [.int v2, .int v1, .ref r0])) (h1 := (sh, I, J)) rfl trivial (xG_Cu rfl rfl (Nat.le_of_ble_eq_true rfl) (Nat.le_of_ble_eq_true rfl) ⟨_, _, rfl, ko⟩ rfl k)
set_option maxRecDepth 100000 in
theorem s_M_readCode_29 {d : Nat} {Q : xO → xH → Prop} {sh : List xS} {I : Nat → Nat → Int32} {J : Nat → Nat → Int64} {r0 : Nat} {v1 : Int32} {v2 : Int32}
    (e0 : xOb sh r0 10)
    (k1 : ¬ (I r0 9) = 0 → xG d zm_M_readCode (41, [some (.ref r0), some (.int v1), some (.int v2)], []) (sh, I, J) Q)
    (k2 : ¬ (¬ (I r0 9) = 0) → xG d zm_M_readCode (36, [some (.ref r0), some (.int v1), some (.int v2)], []) (sh, I, J) Q) :
    xG d zm_M_readCode (29, [some (.ref r0), some (.int v1), some (.int v2)], []) (sh, I, J) Q := by
  exact xG_N 2 (ps := [xOb sh r0 10]) (f1 := (33, [some (.ref r0), some (.int v1), some (.int v2)], [.int (I r0 9)])) (h1 := (sh, I, J)) rfl e0 (xG_B rfl rfl k1 k2)
set_option maxRecDepth 100000 in
theorem s_M_readCode_36 {d : Nat} {Q : xO → xH → Prop} {sh : List xS} {I : Nat → Nat → Int32} {J : Nat → Nat → Int64} {r0 : Nat} {v1 : Int32} {v2 : Int32}
    (ko : xOb sh r0 10)
    (k : xg d qM_weigh [.ref r0, .int v1] (sh, I, J) (xU (fun h1 => xG d zm_M_readCode (41, [some (.ref r0), some (.int v1), some (.int v2)], []) h1 Q) (fun x h1 => Q (.inr x) h1))) :
    xG d zm_M_readCode (36, [some (.ref r0), some (.int v1), some (.int v2)], []) (sh, I, J) Q := by
  exact xG_N 2 (ps := []) (f1 := (38, [some (.ref r0), some (.int v1), some (.int v2)], [.int v1, .ref r0])) (h1 := (sh, I, J)) rfl trivial (xG_Cu rfl rfl (Nat.le_of_ble_eq_true rfl) (Nat.le_of_ble_eq_true rfl) ⟨_, _, rfl, ko⟩ rfl k)
set_option maxRecDepth 100000 in
theorem s_M_readCode_41 {d : Nat} {Q : xO → xH → Prop} {sh : List xS} {I : Nat → Nat → Int32} {J : Nat → Nat → Int64} {r0 : Nat} {v1 : Int32} {v2 : Int32}
    (k : Q (.inl (none)) (sh, I, J)) :
    xG d zm_M_readCode (41, [some (.ref r0), some (.int v1), some (.int v2)], []) (sh, I, J) Q := by
  exact xG_Q rfl rfl trivial k
set_option maxRecDepth 100000 in
theorem s_M_readPrefixed_0 {d : Nat} {Q : xO → xH → Prop} {sh : List xS} {I : Nat → Nat → Int32} {J : Nat → Nat → Int64} {r0 : Nat} {v1 : Int32}
    (k1 : (4 : Int32) ≤ v1 → xG d zm_M_readPrefixed (9, [some (.ref r0), some (.int v1), none], []) (sh, I, J) Q)
    (k2 : ¬ ((4 : Int32) ≤ v1) → xG d zm_M_readPrefixed (5, [some (.ref r0), some (.int v1), none], []) (sh, I, J) Q) :
    xG d zm_M_readPrefixed (0, [some (.ref r0), some (.int v1), none], []) (sh, I, J) Q := by
  exact xG_N 2 (ps := []) (f1 := (2, [some (.ref r0), some (.int v1), none], [.int (4 : Int32), .int v1])) (h1 := (sh, I, J)) rfl trivial (xG_B rfl rfl k1 k2)
set_option maxRecDepth 100000 in
theorem s_M_readPrefixed_5 {d : Nat} {Q : xO → xH → Prop} {sh : List xS} {I : Nat → Nat → Int32} {J : Nat → Nat → Int64} {r0 : Nat} {v1 : Int32}
    (k : Q (.inl (some (.int (v1 + (1 : Int32))))) (sh, I, J)) :
    xG d zm_M_readPrefixed (5, [some (.ref r0), some (.int v1), none], []) (sh, I, J) Q := by
  exact xG_N 3 (ps := []) (f1 := (8, [some (.ref r0), some (.int v1), none], [.int (v1 + (1 : Int32))])) (h1 := (sh, I, J)) rfl trivial (xG_Q rfl rfl trivial k)
set_option maxRecDepth 100000 in
theorem s_M_readPrefixed_9 {d : Nat} {Q : xO → xH → Prop} {sh : List xS} {I : Nat → Nat → Int32} {J : Nat → Nat → Int64} {r0 : Nat} {v1 : Int32}
    (ko : xOb sh r0 10)
    (k : xg d qM_bits [.ref r0, .int ((v1 / (2 : Int32)) - (1 : Int32))] (sh, I, J) (xI (fun v h1 => xG d zm_M_readPrefixed (27, [some (.ref r0), some (.int v1), some (.int ((v1 / (2 : Int32)) - (1 : Int32)))], [.int v, .int (((2 : Int32) + (v1 - v1 / (2 : Int32) * (2 : Int32))) <<< (((v1 / (2 : Int32)) - (1 : Int32)) &&& 31))]) h1 Q) (fun x h1 => Q (.inr x) h1))) :
    xG d zm_M_readPrefixed (9, [some (.ref r0), some (.int v1), none], []) (sh, I, J) Q := by
  exact xG_N 15 (ps := [¬ (2 : Int32) = 0, ¬ (2 : Int32) = 0]) (f1 := (24, [some (.ref r0), some (.int v1), some (.int ((v1 / (2 : Int32)) - (1 : Int32)))], [.int ((v1 / (2 : Int32)) - (1 : Int32)), .ref r0, .int (((2 : Int32) + (v1 - v1 / (2 : Int32) * (2 : Int32))) <<< (((v1 / (2 : Int32)) - (1 : Int32)) &&& 31))])) (h1 := (sh, I, J)) rfl ⟨(show ¬ (2 : Int32) = 0 by decide), (show ¬ (2 : Int32) = 0 by decide)⟩ (xG_Ci rfl rfl (Nat.le_of_ble_eq_true rfl) (Nat.le_of_ble_eq_true rfl) ⟨_, _, rfl, ko⟩ rfl k)
set_option maxRecDepth 100000 in
theorem s_M_readPrefixed_27 {d : Nat} {Q : xO → xH → Prop} {sh : List xS} {I : Nat → Nat → Int32} {J : Nat → Nat → Int64} {r0 : Nat} {v1 : Int32} {v2 : Int32} {t0 : Int32} {t1 : Int32}
    (k : Q (.inl (some (.int ((t0 + t1) + (1 : Int32))))) (sh, I, J)) :
    xG d zm_M_readPrefixed (27, [some (.ref r0), some (.int v1), some (.int v2)], [.int t1, .int t0]) (sh, I, J) Q := by
  exact xG_N 3 (ps := []) (f1 := (30, [some (.ref r0), some (.int v1), some (.int v2)], [.int ((t0 + t1) + (1 : Int32))])) (h1 := (sh, I, J)) rfl trivial (xG_Q rfl rfl trivial k)
set_option maxRecDepth 100000 in
theorem s_M_distanceOf_0 {d : Nat} {Q : xO → xH → Prop} {sh : List xS} {I : Nat → Nat → Int32} {J : Nat → Nat → Int64} {v0 : Int32} {v1 : Int32}
    (k1 : v0 ≤ (8 : Int32) → xG d zm_M_distanceOf (11, [some (.int v0), some (.int v1), none, none, none], []) (sh, I, J) Q)
    (k2 : ¬ (v0 ≤ (8 : Int32)) → xG d zm_M_distanceOf (6, [some (.int v0), some (.int v1), none, none, none], []) (sh, I, J) Q) :
    xG d zm_M_distanceOf (0, [some (.int v0), some (.int v1), none, none, none], []) (sh, I, J) Q := by
  exact xG_N 2 (ps := []) (f1 := (3, [some (.int v0), some (.int v1), none, none, none], [.int (8 : Int32), .int v0])) (h1 := (sh, I, J)) rfl trivial (xG_B rfl rfl k1 k2)
set_option maxRecDepth 100000 in
theorem s_M_distanceOf_6 {d : Nat} {Q : xO → xH → Prop} {sh : List xS} {I : Nat → Nat → Int32} {J : Nat → Nat → Int64} {v0 : Int32} {v1 : Int32}
    (k : Q (.inl (some (.int (v0 - (8 : Int32))))) (sh, I, J)) :
    xG d zm_M_distanceOf (6, [some (.int v0), some (.int v1), none, none, none], []) (sh, I, J) Q := by
  exact xG_N 3 (ps := []) (f1 := (10, [some (.int v0), some (.int v1), none, none, none], [.int (v0 - (8 : Int32))])) (h1 := (sh, I, J)) rfl trivial (xG_Q rfl rfl trivial k)
set_option maxRecDepth 100000 in
theorem s_M_distanceOf_11 {d : Nat} {Q : xO → xH → Prop} {sh : List xS} {I : Nat → Nat → Int32} {J : Nat → Nat → Int64} {v0 : Int32} {v1 : Int32}
    (k1 : v0 = (1 : Int32) → xG d zm_M_distanceOf (21, [some (.int v0), some (.int v1), none, none, none], []) (sh, I, J) Q)
    (k2 : ¬ (v0 = (1 : Int32)) → xG d zm_M_distanceOf (16, [some (.int v0), some (.int v1), none, none, none], []) (sh, I, J) Q) :
    xG d zm_M_distanceOf (11, [some (.int v0), some (.int v1), none, none, none], []) (sh, I, J) Q := by
  exact xG_N 2 (ps := []) (f1 := (13, [some (.int v0), some (.int v1), none, none, none], [.int (1 : Int32), .int v0])) (h1 := (sh, I, J)) rfl trivial (xG_B rfl rfl k1 k2)
set_option maxRecDepth 100000 in
theorem s_M_distanceOf_16 {d : Nat} {Q : xO → xH → Prop} {sh : List xS} {I : Nat → Nat → Int32} {J : Nat → Nat → Int64} {v0 : Int32} {v1 : Int32}
    (k1 : ¬ v0 = (5 : Int32) → xG d zm_M_distanceOf (25, [some (.int v0), some (.int v1), none, none, none], []) (sh, I, J) Q)
    (k2 : ¬ (¬ v0 = (5 : Int32)) → xG d zm_M_distanceOf (21, [some (.int v0), some (.int v1), none, none, none], []) (sh, I, J) Q) :
    xG d zm_M_distanceOf (16, [some (.int v0), some (.int v1), none, none, none], []) (sh, I, J) Q := by
  exact xG_N 2 (ps := []) (f1 := (18, [some (.int v0), some (.int v1), none, none, none], [.int (5 : Int32), .int v0])) (h1 := (sh, I, J)) rfl trivial (xG_B rfl rfl k1 k2)
set_option maxRecDepth 100000 in
theorem s_M_distanceOf_21 {d : Nat} {Q : xO → xH → Prop} {sh : List xS} {I : Nat → Nat → Int32} {J : Nat → Nat → Int64} {v0 : Int32} {v1 : Int32}
    (k1 : v0 = (2 : Int32) → xG d zm_M_distanceOf (63, [some (.int v0), some (.int v1), some (.int (0 : Int32)), none, none], []) (sh, I, J) Q)
    (k2 : ¬ (v0 = (2 : Int32)) → xG d zm_M_distanceOf (57, [some (.int v0), some (.int v1), some (.int (0 : Int32)), none, none], []) (sh, I, J) Q) :
    xG d zm_M_distanceOf (21, [some (.int v0), some (.int v1), none, none, none], []) (sh, I, J) Q := by
  exact xG_N 5 (ps := []) (f1 := (54, [some (.int v0), some (.int v1), some (.int (0 : Int32)), none, none], [.int (2 : Int32), .int v0])) (h1 := (sh, I, J)) rfl trivial (xG_B rfl rfl k1 k2)
set_option maxRecDepth 100000 in
theorem s_M_distanceOf_25 {d : Nat} {Q : xO → xH → Prop} {sh : List xS} {I : Nat → Nat → Int32} {J : Nat → Nat → Int64} {v0 : Int32} {v1 : Int32}
    (k1 : v0 = (4 : Int32) → xG d zm_M_distanceOf (36, [some (.int v0), some (.int v1), none, none, none], []) (sh, I, J) Q)
    (k2 : ¬ (v0 = (4 : Int32)) → xG d zm_M_distanceOf (30, [some (.int v0), some (.int v1), none, none, none], []) (sh, I, J) Q) :
    xG d zm_M_distanceOf (25, [some (.int v0), some (.int v1), none, none, none], []) (sh, I, J) Q := by
  exact xG_N 2 (ps := []) (f1 := (27, [some (.int v0), some (.int v1), none, none, none], [.int (4 : Int32), .int v0])) (h1 := (sh, I, J)) rfl trivial (xG_B rfl rfl k1 k2)
set_option maxRecDepth 100000 in
theorem s_M_distanceOf_30 {d : Nat} {Q : xO → xH → Prop} {sh : List xS} {I : Nat → Nat → Int32} {J : Nat → Nat → Int64} {v0 : Int32} {v1 : Int32}
    (k1 : ¬ v0 = (8 : Int32) → xG d zm_M_distanceOf (40, [some (.int v0), some (.int v1), none, none, none], []) (sh, I, J) Q)
    (k2 : ¬ (¬ v0 = (8 : Int32)) → xG d zm_M_distanceOf (36, [some (.int v0), some (.int v1), none, none, none], []) (sh, I, J) Q) :
    xG d zm_M_distanceOf (30, [some (.int v0), some (.int v1), none, none, none], []) (sh, I, J) Q := by
  exact xG_N 2 (ps := []) (f1 := (33, [some (.int v0), some (.int v1), none, none, none], [.int (8 : Int32), .int v0])) (h1 := (sh, I, J)) rfl trivial (xG_B rfl rfl k1 k2)
set_option maxRecDepth 100000 in
theorem s_M_distanceOf_36 {d : Nat} {Q : xO → xH → Prop} {sh : List xS} {I : Nat → Nat → Int32} {J : Nat → Nat → Int64} {v0 : Int32} {v1 : Int32}
    (k1 : v0 = (2 : Int32) → xG d zm_M_distanceOf (63, [some (.int v0), some (.int v1), some (.int (-1 : Int32)), none, none], []) (sh, I, J) Q)
    (k2 : ¬ (v0 = (2 : Int32)) → xG d zm_M_distanceOf (57, [some (.int v0), some (.int v1), some (.int (-1 : Int32)), none, none], []) (sh, I, J) Q) :
    xG d zm_M_distanceOf (36, [some (.int v0), some (.int v1), none, none, none], []) (sh, I, J) Q := by
  exact xG_N 5 (ps := []) (f1 := (54, [some (.int v0), some (.int v1), some (.int (-1 : Int32)), none, none], [.int (2 : Int32), .int v0])) (h1 := (sh, I, J)) rfl trivial (xG_B rfl rfl k1 k2)
set_option maxRecDepth 100000 in
theorem s_M_distanceOf_40 {d : Nat} {Q : xO → xH → Prop} {sh : List xS} {I : Nat → Nat → Int32} {J : Nat → Nat → Int64} {v0 : Int32} {v1 : Int32}
    (k1 : ¬ v0 = (6 : Int32) → xG d zm_M_distanceOf (50, [some (.int v0), some (.int v1), none, none, none], []) (sh, I, J) Q)
    (k2 : ¬ (¬ v0 = (6 : Int32)) → xG d zm_M_distanceOf (46, [some (.int v0), some (.int v1), none, none, none], []) (sh, I, J) Q) :
    xG d zm_M_distanceOf (40, [some (.int v0), some (.int v1), none, none, none], []) (sh, I, J) Q := by
  exact xG_N 2 (ps := []) (f1 := (43, [some (.int v0), some (.int v1), none, none, none], [.int (6 : Int32), .int v0])) (h1 := (sh, I, J)) rfl trivial (xG_B rfl rfl k1 k2)
set_option maxRecDepth 100000 in
theorem s_M_distanceOf_46 {d : Nat} {Q : xO → xH → Prop} {sh : List xS} {I : Nat → Nat → Int32} {J : Nat → Nat → Int64} {v0 : Int32} {v1 : Int32}
    (k1 : v0 = (2 : Int32) → xG d zm_M_distanceOf (63, [some (.int v0), some (.int v1), some (.int (2 : Int32)), none, none], []) (sh, I, J) Q)
    (k2 : ¬ (v0 = (2 : Int32)) → xG d zm_M_distanceOf (57, [some (.int v0), some (.int v1), some (.int (2 : Int32)), none, none], []) (sh, I, J) Q) :
    xG d zm_M_distanceOf (46, [some (.int v0), some (.int v1), none, none, none], []) (sh, I, J) Q := by
  exact xG_N 5 (ps := []) (f1 := (54, [some (.int v0), some (.int v1), some (.int (2 : Int32)), none, none], [.int (2 : Int32), .int v0])) (h1 := (sh, I, J)) rfl trivial (xG_B rfl rfl k1 k2)
set_option maxRecDepth 100000 in
theorem s_M_distanceOf_50 {d : Nat} {Q : xO → xH → Prop} {sh : List xS} {I : Nat → Nat → Int32} {J : Nat → Nat → Int64} {v0 : Int32} {v1 : Int32}
    (k1 : v0 = (2 : Int32) → xG d zm_M_distanceOf (63, [some (.int v0), some (.int v1), some (.int (1 : Int32)), none, none], []) (sh, I, J) Q)
    (k2 : ¬ (v0 = (2 : Int32)) → xG d zm_M_distanceOf (57, [some (.int v0), some (.int v1), some (.int (1 : Int32)), none, none], []) (sh, I, J) Q) :
    xG d zm_M_distanceOf (50, [some (.int v0), some (.int v1), none, none, none], []) (sh, I, J) Q := by
  exact xG_N 4 (ps := []) (f1 := (54, [some (.int v0), some (.int v1), some (.int (1 : Int32)), none, none], [.int (2 : Int32), .int v0])) (h1 := (sh, I, J)) rfl trivial (xG_B rfl rfl k1 k2)
set_option maxRecDepth 100000 in
theorem s_M_distanceOf_57 {d : Nat} {Q : xO → xH → Prop} {sh : List xS} {I : Nat → Nat → Int32} {J : Nat → Nat → Int64} {v0 : Int32} {v1 : Int32} {v2 : Int32}
    (k1 : ¬ v0 = (6 : Int32) → xG d zm_M_distanceOf (67, [some (.int v0), some (.int v1), some (.int v2), none, none], []) (sh, I, J) Q)
    (k2 : ¬ (¬ v0 = (6 : Int32)) → xG d zm_M_distanceOf (63, [some (.int v0), some (.int v1), some (.int v2), none, none], []) (sh, I, J) Q) :
    xG d zm_M_distanceOf (57, [some (.int v0), some (.int v1), some (.int v2), none, none], []) (sh, I, J) Q := by
  exact xG_N 2 (ps := []) (f1 := (60, [some (.int v0), some (.int v1), some (.int v2), none, none], [.int (6 : Int32), .int v0])) (h1 := (sh, I, J)) rfl trivial (xG_B rfl rfl k1 k2)
set_option maxRecDepth 100000 in
theorem s_M_distanceOf_63 {d : Nat} {Q : xO → xH → Prop} {sh : List xS} {I : Nat → Nat → Int32} {J : Nat → Nat → Int64} {v0 : Int32} {v1 : Int32} {v2 : Int32}
    (k1 : (1 : Int32) ≤ (v2 + ((0 : Int32) * v1)) → xG d zm_M_distanceOf (105, [some (.int v0), some (.int v1), some (.int v2), some (.int (0 : Int32)), some (.int (v2 + ((0 : Int32) * v1)))], []) (sh, I, J) Q)
    (k2 : ¬ ((1 : Int32) ≤ (v2 + ((0 : Int32) * v1))) → xG d zm_M_distanceOf (101, [some (.int v0), some (.int v1), some (.int v2), some (.int (0 : Int32)), some (.int (v2 + ((0 : Int32) * v1)))], []) (sh, I, J) Q) :
    xG d zm_M_distanceOf (63, [some (.int v0), some (.int v1), some (.int v2), none, none], []) (sh, I, J) Q := by
  exact xG_N 11 (ps := []) (f1 := (98, [some (.int v0), some (.int v1), some (.int v2), some (.int (0 : Int32)), some (.int (v2 + ((0 : Int32) * v1)))], [.int (1 : Int32), .int (v2 + ((0 : Int32) * v1))])) (h1 := (sh, I, J)) rfl trivial (xG_B rfl rfl k1 k2)
set_option maxRecDepth 100000 in
theorem s_M_distanceOf_67 {d : Nat} {Q : xO → xH → Prop} {sh : List xS} {I : Nat → Nat → Int32} {J : Nat → Nat → Int64} {v0 : Int32} {v1 : Int32} {v2 : Int32}
    (k1 : v0 = (1 : Int32) → xG d zm_M_distanceOf (82, [some (.int v0), some (.int v1), some (.int v2), none, none], []) (sh, I, J) Q)
    (k2 : ¬ (v0 = (1 : Int32)) → xG d zm_M_distanceOf (72, [some (.int v0), some (.int v1), some (.int v2), none, none], []) (sh, I, J) Q) :
    xG d zm_M_distanceOf (67, [some (.int v0), some (.int v1), some (.int v2), none, none], []) (sh, I, J) Q := by
  exact xG_N 2 (ps := []) (f1 := (69, [some (.int v0), some (.int v1), some (.int v2), none, none], [.int (1 : Int32), .int v0])) (h1 := (sh, I, J)) rfl trivial (xG_B rfl rfl k1 k2)
set_option maxRecDepth 100000 in
theorem s_M_distanceOf_72 {d : Nat} {Q : xO → xH → Prop} {sh : List xS} {I : Nat → Nat → Int32} {J : Nat → Nat → Int64} {v0 : Int32} {v1 : Int32} {v2 : Int32}
    (k1 : v0 = (3 : Int32) → xG d zm_M_distanceOf (82, [some (.int v0), some (.int v1), some (.int v2), none, none], []) (sh, I, J) Q)
    (k2 : ¬ (v0 = (3 : Int32)) → xG d zm_M_distanceOf (77, [some (.int v0), some (.int v1), some (.int v2), none, none], []) (sh, I, J) Q) :
    xG d zm_M_distanceOf (72, [some (.int v0), some (.int v1), some (.int v2), none, none], []) (sh, I, J) Q := by
  exact xG_N 2 (ps := []) (f1 := (74, [some (.int v0), some (.int v1), some (.int v2), none, none], [.int (3 : Int32), .int v0])) (h1 := (sh, I, J)) rfl trivial (xG_B rfl rfl k1 k2)
set_option maxRecDepth 100000 in
theorem s_M_distanceOf_77 {d : Nat} {Q : xO → xH → Prop} {sh : List xS} {I : Nat → Nat → Int32} {J : Nat → Nat → Int64} {v0 : Int32} {v1 : Int32} {v2 : Int32}
    (k1 : ¬ v0 = (4 : Int32) → xG d zm_M_distanceOf (86, [some (.int v0), some (.int v1), some (.int v2), none, none], []) (sh, I, J) Q)
    (k2 : ¬ (¬ v0 = (4 : Int32)) → xG d zm_M_distanceOf (82, [some (.int v0), some (.int v1), some (.int v2), none, none], []) (sh, I, J) Q) :
    xG d zm_M_distanceOf (77, [some (.int v0), some (.int v1), some (.int v2), none, none], []) (sh, I, J) Q := by
  exact xG_N 2 (ps := []) (f1 := (79, [some (.int v0), some (.int v1), some (.int v2), none, none], [.int (4 : Int32), .int v0])) (h1 := (sh, I, J)) rfl trivial (xG_B rfl rfl k1 k2)
set_option maxRecDepth 100000 in
theorem s_M_distanceOf_82 {d : Nat} {Q : xO → xH → Prop} {sh : List xS} {I : Nat → Nat → Int32} {J : Nat → Nat → Int64} {v0 : Int32} {v1 : Int32} {v2 : Int32}
    (k1 : (1 : Int32) ≤ (v2 + ((1 : Int32) * v1)) → xG d zm_M_distanceOf (105, [some (.int v0), some (.int v1), some (.int v2), some (.int (1 : Int32)), some (.int (v2 + ((1 : Int32) * v1)))], []) (sh, I, J) Q)
    (k2 : ¬ ((1 : Int32) ≤ (v2 + ((1 : Int32) * v1))) → xG d zm_M_distanceOf (101, [some (.int v0), some (.int v1), some (.int v2), some (.int (1 : Int32)), some (.int (v2 + ((1 : Int32) * v1)))], []) (sh, I, J) Q) :
    xG d zm_M_distanceOf (82, [some (.int v0), some (.int v1), some (.int v2), none, none], []) (sh, I, J) Q := by
  exact xG_N 11 (ps := []) (f1 := (98, [some (.int v0), some (.int v1), some (.int v2), some (.int (1 : Int32)), some (.int (v2 + ((1 : Int32) * v1)))], [.int (1 : Int32), .int (v2 + ((1 : Int32) * v1))])) (h1 := (sh, I, J)) rfl trivial (xG_B rfl rfl k1 k2)
set_option maxRecDepth 100000 in
theorem s_M_distanceOf_86 {d : Nat} {Q : xO → xH → Prop} {sh : List xS} {I : Nat → Nat → Int32} {J : Nat → Nat → Int64} {v0 : Int32} {v1 : Int32} {v2 : Int32}
    (k1 : (1 : Int32) ≤ (v2 + ((2 : Int32) * v1)) → xG d zm_M_distanceOf (105, [some (.int v0), some (.int v1), some (.int v2), some (.int (2 : Int32)), some (.int (v2 + ((2 : Int32) * v1)))], []) (sh, I, J) Q)
    (k2 : ¬ ((1 : Int32) ≤ (v2 + ((2 : Int32) * v1))) → xG d zm_M_distanceOf (101, [some (.int v0), some (.int v1), some (.int v2), some (.int (2 : Int32)), some (.int (v2 + ((2 : Int32) * v1)))], []) (sh, I, J) Q) :
    xG d zm_M_distanceOf (86, [some (.int v0), some (.int v1), some (.int v2), none, none], []) (sh, I, J) Q := by
  exact xG_N 10 (ps := []) (f1 := (98, [some (.int v0), some (.int v1), some (.int v2), some (.int (2 : Int32)), some (.int (v2 + ((2 : Int32) * v1)))], [.int (1 : Int32), .int (v2 + ((2 : Int32) * v1))])) (h1 := (sh, I, J)) rfl trivial (xG_B rfl rfl k1 k2)
set_option maxRecDepth 100000 in
theorem s_M_distanceOf_101 {d : Nat} {Q : xO → xH → Prop} {sh : List xS} {I : Nat → Nat → Int32} {J : Nat → Nat → Int64} {v0 : Int32} {v1 : Int32} {v2 : Int32} {v3 : Int32} {v4 : Int32}
    (k : Q (.inl (some (.int (1 : Int32)))) (sh, I, J)) :
    xG d zm_M_distanceOf (101, [some (.int v0), some (.int v1), some (.int v2), some (.int v3), some (.int v4)], []) (sh, I, J) Q := by
  exact xG_N 2 (ps := []) (f1 := (107, [some (.int v0), some (.int v1), some (.int v2), some (.int v3), some (.int v4)], [.int (1 : Int32)])) (h1 := (sh, I, J)) rfl trivial (xG_Q rfl rfl trivial k)
set_option maxRecDepth 100000 in
theorem s_M_distanceOf_105 {d : Nat} {Q : xO → xH → Prop} {sh : List xS} {I : Nat → Nat → Int32} {J : Nat → Nat → Int64} {v0 : Int32} {v1 : Int32} {v2 : Int32} {v3 : Int32} {v4 : Int32}
    (k : Q (.inl (some (.int v4))) (sh, I, J)) :
    xG d zm_M_distanceOf (105, [some (.int v0), some (.int v1), some (.int v2), some (.int v3), some (.int v4)], []) (sh, I, J) Q := by
  exact xG_N 1 (ps := []) (f1 := (107, [some (.int v0), some (.int v1), some (.int v2), some (.int v3), some (.int v4)], [.int v4])) (h1 := (sh, I, J)) rfl trivial (xG_Q rfl rfl trivial k)
set_option maxRecDepth 100000 in
theorem s_M_cachePlace_0 {d : Nat} {Q : xO → xH → Prop} {sh : List xS} {I : Nat → Nat → Int32} {J : Nat → Nat → Int64} {r0 : Nat} {v1 : Int32} {v2 : Int32}
    (k1 : ¬ v2 = (2 : Int32) → xG d zm_M_cachePlace (10, [some (.ref r0), some (.int v1), some (.int v2), none], []) (sh, I, J) Q)
    (k2 : ¬ (¬ v2 = (2 : Int32)) → xG d zm_M_cachePlace (5, [some (.ref r0), some (.int v1), some (.int v2), none], []) (sh, I, J) Q) :
    xG d zm_M_cachePlace (0, [some (.ref r0), some (.int v1), some (.int v2), none], []) (sh, I, J) Q := by
  exact xG_N 2 (ps := []) (f1 := (2, [some (.ref r0), some (.int v1), some (.int v2), none], [.int (2 : Int32), .int v2])) (h1 := (sh, I, J)) rfl trivial (xG_B rfl rfl k1 k2)
set_option maxRecDepth 100000 in
theorem s_M_cachePlace_5 {d : Nat} {Q : xO → xH → Prop} {sh : List xS} {I : Nat → Nat → Int32} {J : Nat → Nat → Int64} {r0 : Nat} {v1 : Int32} {v2 : Int32}
    (k : Q (.inl (some (.int (xus ((506832829 : Int32) * v1) (31 : Int32))))) (sh, I, J)) :
    xG d zm_M_cachePlace (5, [some (.ref r0), some (.int v1), some (.int v2), none], []) (sh, I, J) Q := by
  exact xG_N 8 (ps := []) (f1 := (40, [some (.ref r0), some (.int v1), some (.int v2), some (.int (31 : Int32))], [.int (xus ((506832829 : Int32) * v1) (31 : Int32))])) (h1 := (sh, I, J)) rfl trivial (xG_Q rfl rfl trivial k)
set_option maxRecDepth 100000 in
theorem s_M_cachePlace_10 {d : Nat} {Q : xO → xH → Prop} {sh : List xS} {I : Nat → Nat → Int32} {J : Nat → Nat → Int64} {r0 : Nat} {v1 : Int32} {v2 : Int32}
    (k1 : ¬ v2 = (4 : Int32) → xG d zm_M_cachePlace (20, [some (.ref r0), some (.int v1), some (.int v2), none], []) (sh, I, J) Q)
    (k2 : ¬ (¬ v2 = (4 : Int32)) → xG d zm_M_cachePlace (15, [some (.ref r0), some (.int v1), some (.int v2), none], []) (sh, I, J) Q) :
    xG d zm_M_cachePlace (10, [some (.ref r0), some (.int v1), some (.int v2), none], []) (sh, I, J) Q := by
  exact xG_N 2 (ps := []) (f1 := (12, [some (.ref r0), some (.int v1), some (.int v2), none], [.int (4 : Int32), .int v2])) (h1 := (sh, I, J)) rfl trivial (xG_B rfl rfl k1 k2)
set_option maxRecDepth 100000 in
theorem s_M_cachePlace_15 {d : Nat} {Q : xO → xH → Prop} {sh : List xS} {I : Nat → Nat → Int32} {J : Nat → Nat → Int64} {r0 : Nat} {v1 : Int32} {v2 : Int32}
    (k : Q (.inl (some (.int (xus ((506832829 : Int32) * v1) (30 : Int32))))) (sh, I, J)) :
    xG d zm_M_cachePlace (15, [some (.ref r0), some (.int v1), some (.int v2), none], []) (sh, I, J) Q := by
  exact xG_N 8 (ps := []) (f1 := (40, [some (.ref r0), some (.int v1), some (.int v2), some (.int (30 : Int32))], [.int (xus ((506832829 : Int32) * v1) (30 : Int32))])) (h1 := (sh, I, J)) rfl trivial (xG_Q rfl rfl trivial k)
set_option maxRecDepth 100000 in
theorem s_M_cachePlace_20 {d : Nat} {Q : xO → xH → Prop} {sh : List xS} {I : Nat → Nat → Int32} {J : Nat → Nat → Int64} {r0 : Nat} {v1 : Int32} {v2 : Int32}
    (k1 : ¬ v2 = (8 : Int32) → xG d zm_M_cachePlace (31, [some (.ref r0), some (.int v1), some (.int v2), none], []) (sh, I, J) Q)
    (k2 : ¬ (¬ v2 = (8 : Int32)) → xG d zm_M_cachePlace (26, [some (.ref r0), some (.int v1), some (.int v2), none], []) (sh, I, J) Q) :
    xG d zm_M_cachePlace (20, [some (.ref r0), some (.int v1), some (.int v2), none], []) (sh, I, J) Q := by
  exact xG_N 2 (ps := []) (f1 := (23, [some (.ref r0), some (.int v1), some (.int v2), none], [.int (8 : Int32), .int v2])) (h1 := (sh, I, J)) rfl trivial (xG_B rfl rfl k1 k2)
set_option maxRecDepth 100000 in
theorem s_M_cachePlace_26 {d : Nat} {Q : xO → xH → Prop} {sh : List xS} {I : Nat → Nat → Int32} {J : Nat → Nat → Int64} {r0 : Nat} {v1 : Int32} {v2 : Int32}
    (k : Q (.inl (some (.int (xus ((506832829 : Int32) * v1) (29 : Int32))))) (sh, I, J)) :
    xG d zm_M_cachePlace (26, [some (.ref r0), some (.int v1), some (.int v2), none], []) (sh, I, J) Q := by
  exact xG_N 8 (ps := []) (f1 := (40, [some (.ref r0), some (.int v1), some (.int v2), some (.int (29 : Int32))], [.int (xus ((506832829 : Int32) * v1) (29 : Int32))])) (h1 := (sh, I, J)) rfl trivial (xG_Q rfl rfl trivial k)
set_option maxRecDepth 100000 in
theorem s_M_cachePlace_31 {d : Nat} {Q : xO → xH → Prop} {sh : List xS} {I : Nat → Nat → Int32} {J : Nat → Nat → Int64} {r0 : Nat} {v1 : Int32} {v2 : Int32}
    (k : Q (.inl (some (.int (xus ((506832829 : Int32) * v1) (28 : Int32))))) (sh, I, J)) :
    xG d zm_M_cachePlace (31, [some (.ref r0), some (.int v1), some (.int v2), none], []) (sh, I, J) Q := by
  exact xG_N 7 (ps := []) (f1 := (40, [some (.ref r0), some (.int v1), some (.int v2), some (.int (28 : Int32))], [.int (xus ((506832829 : Int32) * v1) (28 : Int32))])) (h1 := (sh, I, J)) rfl trivial (xG_Q rfl rfl trivial k)
set_option maxRecDepth 100000 in
theorem s_M_come_0 {d : Nat} {Q : xO → xH → Prop} {sh : List xS} {I : Nat → Nat → Int32} {J : Nat → Nat → Int64} {r0 : Nat} {v1 : Int32} {v2 : Int32} {a1 : Nat} {n2 : Nat}
    (e0 : xRr sh r0 10 14 a1)
    (e1 : xAr sh a1 .int n2)
    (e2 : 4 ≤ a1)
    (e3 : vp_in v1 n2)
    (k1 : ((xup I a1 v1.toNatClampNeg v2) r0 19) ≤ 0 → xG d zm_M_come (29, [some (.ref r0), some (.int v1), some (.int v2)], []) (sh, xup I a1 v1.toNatClampNeg v2, J) Q)
    (k2 : ¬ (((xup I a1 v1.toNatClampNeg v2) r0 19) ≤ 0) → xG d zm_M_come (14, [some (.ref r0), some (.int v1), some (.int v2)], []) (sh, xup I a1 v1.toNatClampNeg v2, J) Q) :
    xG d zm_M_come (0, [some (.ref r0), some (.int v1), some (.int v2)], []) (sh, I, J) Q := by
  obtain rfl := e0.eq
  obtain rfl := e1.eq
  exact xG_N 7 (ps := [xRf sh r0 10 14, xW sh (xrf sh r0 14) .int, vp_in v1 (xlen sh (xrf sh r0 14)), xOb sh r0 10]) (f1 := (11, [some (.ref r0), some (.int v1), some (.int v2)], [.int ((xup I (xrf sh r0 14) v1.toNatClampNeg v2) r0 19)])) (h1 := (sh, xup I (xrf sh r0 14) v1.toNatClampNeg v2, J)) rfl ⟨e0.rf, ⟨e1.ar, e2⟩, e3, e0.ob⟩ (xG_B rfl rfl k1 k2)
set_option maxRecDepth 100000 in
theorem s_M_come_14 {d : Nat} {Q : xO → xH → Prop} {sh : List xS} {I : Nat → Nat → Int32} {J : Nat → Nat → Int64} {r0 : Nat} {v1 : Int32} {v2 : Int32} {a1 : Nat}
    (e0 : xRr sh r0 10 16 a1)
    (k : xg d qM_cachePlace [.ref r0, .int v2, .int (I r0 19)] (sh, I, J) (xI (fun v h1 => xG d zm_M_come (27, [some (.ref r0), some (.int v1), some (.int v2)], [.int v, .ref a1]) h1 Q) (fun x h1 => Q (.inr x) h1))) :
    xG d zm_M_come (14, [some (.ref r0), some (.int v1), some (.int v2)], []) (sh, I, J) Q := by
  obtain rfl := e0.eq
  exact xG_N 6 (ps := [xRf sh r0 10 16, xOb sh r0 10]) (f1 := (24, [some (.ref r0), some (.int v1), some (.int v2)], [.int (I r0 19), .int v2, .ref r0, .ref (xrf sh r0 16)])) (h1 := (sh, I, J)) rfl ⟨e0.rf, e0.ob⟩ (xG_Ci rfl rfl (Nat.le_of_ble_eq_true rfl) (Nat.le_of_ble_eq_true rfl) ⟨_, _, rfl, e0.ob⟩ rfl k)
set_option maxRecDepth 100000 in
theorem s_M_come_27 {d : Nat} {Q : xO → xH → Prop} {sh : List xS} {I : Nat → Nat → Int32} {J : Nat → Nat → Int64} {r0 : Nat} {v1 : Int32} {v2 : Int32} {t0 : Nat} {t1 : Int32} {n1 : Nat}
    (e0 : xAr sh t0 .int n1)
    (e1 : 4 ≤ t0)
    (e2 : vp_in t1 n1)
    (k : Q (.inl (none)) (sh, xup I t0 t1.toNatClampNeg v2, J)) :
    xG d zm_M_come (27, [some (.ref r0), some (.int v1), some (.int v2)], [.int t1, .ref t0]) (sh, I, J) Q := by
  obtain rfl := e0.eq
  exact xG_N 2 (ps := [xW sh t0 .int, vp_in t1 (xlen sh t0)]) (f1 := (29, [some (.ref r0), some (.int v1), some (.int v2)], [])) (h1 := (sh, xup I t0 t1.toNatClampNeg v2, J)) rfl ⟨⟨e0.ar, e1⟩, e2⟩ (xG_Q rfl rfl trivial k)
set_option maxRecDepth 100000 in
theorem s_M_come_29 {d : Nat} {Q : xO → xH → Prop} {sh : List xS} {I : Nat → Nat → Int32} {J : Nat → Nat → Int64} {r0 : Nat} {v1 : Int32} {v2 : Int32}
    (k : Q (.inl (none)) (sh, I, J)) :
    xG d zm_M_come (29, [some (.ref r0), some (.int v1), some (.int v2)], []) (sh, I, J) Q := by
  exact xG_Q rfl rfl trivial k
set_option maxRecDepth 100000 in
theorem s_M_emptyCache_0 {d : Nat} {Q : xO → xH → Prop} {sh : List xS} {I : Nat → Nat → Int32} {J : Nat → Nat → Int64} {r0 : Nat} {v1 : Int32}
    (e0 : xOb sh r0 10)
    (k : xG d zm_M_emptyCache (17, [some (.ref r0), some (.int v1), some (.int (0 : Int32))], []) (sh, xup (xup (xup I r0 19 v1) r0 17 (0 : Int32)) r0 18 (0 : Int32), J) Q) :
    xG d zm_M_emptyCache (0, [some (.ref r0), some (.int v1), none], []) (sh, I, J) Q := by
  exact xG_N 11 (ps := [xOb sh r0 10, xOb sh r0 10, xOb sh r0 10]) (f1 := (17, [some (.ref r0), some (.int v1), some (.int (0 : Int32))], [])) (h1 := (sh, xup (xup (xup I r0 19 v1) r0 17 (0 : Int32)) r0 18 (0 : Int32), J)) rfl ⟨e0, e0, e0⟩ (k)
set_option maxRecDepth 100000 in
theorem s_M_emptyCache_17 {d : Nat} {Q : xO → xH → Prop} {sh : List xS} {I : Nat → Nat → Int32} {J : Nat → Nat → Int64} {r0 : Nat} {v1 : Int32} {v2 : Int32}
    (k1 : (16 : Int32) ≤ v2 → xG d zm_M_emptyCache (36, [some (.ref r0), some (.int v1), some (.int v2)], []) (sh, I, J) Q)
    (k2 : ¬ ((16 : Int32) ≤ v2) → xG d zm_M_emptyCache (23, [some (.ref r0), some (.int v1), some (.int v2)], []) (sh, I, J) Q) :
    xG d zm_M_emptyCache (17, [some (.ref r0), some (.int v1), some (.int v2)], []) (sh, I, J) Q := by
  exact xG_N 2 (ps := []) (f1 := (20, [some (.ref r0), some (.int v1), some (.int v2)], [.int (16 : Int32), .int v2])) (h1 := (sh, I, J)) rfl trivial (xG_B rfl rfl k1 k2)
set_option maxRecDepth 100000 in
theorem s_M_emptyCache_23 {d : Nat} {Q : xO → xH → Prop} {sh : List xS} {I : Nat → Nat → Int32} {J : Nat → Nat → Int64} {r0 : Nat} {v1 : Int32} {v2 : Int32} {a1 : Nat} {n2 : Nat}
    (e0 : xRr sh r0 10 16 a1)
    (e1 : xAr sh a1 .int n2)
    (e2 : 4 ≤ a1)
    (e3 : vp_in v2 n2)
    (k : xG d zm_M_emptyCache (17, [some (.ref r0), some (.int v1), some (.int (v2 + (1 : Int32)))], []) (sh, xup I a1 v2.toNatClampNeg (0 : Int32), J) Q) :
    xG d zm_M_emptyCache (23, [some (.ref r0), some (.int v1), some (.int v2)], []) (sh, I, J) Q := by
  obtain rfl := e0.eq
  obtain rfl := e1.eq
  exact xG_N 7 (ps := [xRf sh r0 10 16, xW sh (xrf sh r0 16) .int, vp_in v2 (xlen sh (xrf sh r0 16))]) (f1 := (17, [some (.ref r0), some (.int v1), some (.int (v2 + (1 : Int32)))], [])) (h1 := (sh, xup I (xrf sh r0 16) v2.toNatClampNeg (0 : Int32), J)) rfl ⟨e0.rf, ⟨e1.ar, e2⟩, e3⟩ (k)
set_option maxRecDepth 100000 in
theorem s_M_emptyCache_36 {d : Nat} {Q : xO → xH → Prop} {sh : List xS} {I : Nat → Nat → Int32} {J : Nat → Nat → Int64} {r0 : Nat} {v1 : Int32} {v2 : Int32}
    (k : Q (.inl (none)) (sh, I, J)) :
    xG d zm_M_emptyCache (36, [some (.ref r0), some (.int v1), some (.int v2)], []) (sh, I, J) Q := by
  exact xG_Q rfl rfl trivial k
set_option maxRecDepth 100000 in
theorem s_M_readCopy_0 {d : Nat} {Q : xO → xH → Prop} {sh : List xS} {I : Nat → Nat → Int32} {J : Nat → Nat → Int64} {r0 : Nat} {v1 : Int32} {v2 : Int32} {v3 : Int32} {v4 : Int32}
    (ko : xOb sh r0 10)
    (k : xg d qM_readPrefixed [.ref r0, .int v2] (sh, I, J) (xI (fun v h1 => xG d zm_M_readCopy (5, [some (.ref r0), some (.int v1), some (.int v2), some (.int v3), some (.int v4), none, none, none], [.int v]) h1 Q) (fun x h1 => Q (.inr x) h1))) :
    xG d zm_M_readCopy (0, [some (.ref r0), some (.int v1), some (.int v2), some (.int v3), some (.int v4), none, none, none], []) (sh, I, J) Q := by
  exact xG_N 2 (ps := []) (f1 := (2, [some (.ref r0), some (.int v1), some (.int v2), some (.int v3), some (.int v4), none, none, none], [.int v2, .ref r0])) (h1 := (sh, I, J)) rfl trivial (xG_Ci rfl rfl (Nat.le_of_ble_eq_true rfl) (Nat.le_of_ble_eq_true rfl) ⟨_, _, rfl, ko⟩ rfl k)
set_option maxRecDepth 100000 in
theorem s_M_readCopy_5 {d : Nat} {Q : xO → xH → Prop} {sh : List xS} {I : Nat → Nat → Int32} {J : Nat → Nat → Int64} {r0 : Nat} {v1 : Int32} {v2 : Int32} {v3 : Int32} {v4 : Int32} {t0 : Int32}
    (e0 : xOb sh r0 10)
    (k1 : (I r0 9) = 0 → xG d zm_M_readCopy (18, [some (.ref r0), some (.int v1), some (.int v2), some (.int v3), some (.int v4), some (.int t0), none, none], []) (sh, I, J) Q)
    (k2 : ¬ ((I r0 9) = 0) → xG d zm_M_readCopy (14, [some (.ref r0), some (.int v1), some (.int v2), some (.int v3), some (.int v4), some (.int t0), none, none], []) (sh, I, J) Q) :
    xG d zm_M_readCopy (5, [some (.ref r0), some (.int v1), some (.int v2), some (.int v3), some (.int v4), none, none, none], [.int t0]) (sh, I, J) Q := by
  exact xG_N 3 (ps := [xOb sh r0 10]) (f1 := (11, [some (.ref r0), some (.int v1), some (.int v2), some (.int v3), some (.int v4), some (.int t0), none, none], [.int (I r0 9)])) (h1 := (sh, I, J)) rfl e0 (xG_B rfl rfl k1 k2)
set_option maxRecDepth 100000 in
theorem s_M_readCopy_14 {d : Nat} {Q : xO → xH → Prop} {sh : List xS} {I : Nat → Nat → Int32} {J : Nat → Nat → Int64} {r0 : Nat} {v1 : Int32} {v2 : Int32} {v3 : Int32} {v4 : Int32} {v5 : Int32}
    (e0 : xOb sh r0 10)
    (k1 : ¬ (I r0 9) = 0 → xG d zm_M_readCopy (56, [some (.ref r0), some (.int v1), some (.int v2), some (.int v3), some (.int v4), some (.int v5), some (.int (1 : Int32)), none], [.ref r0]) (sh, I, J) Q)
    (k2 : ¬ (¬ (I r0 9) = 0) → xG d zm_M_readCopy (41, [some (.ref r0), some (.int v1), some (.int v2), some (.int v3), some (.int v4), some (.int v5), some (.int (1 : Int32)), none], [.ref r0]) (sh, I, J) Q) :
    xG d zm_M_readCopy (14, [some (.ref r0), some (.int v1), some (.int v2), some (.int v3), some (.int v4), some (.int v5), none, none], []) (sh, I, J) Q := by
  exact xG_N 6 (ps := [xOb sh r0 10]) (f1 := (38, [some (.ref r0), some (.int v1), some (.int v2), some (.int v3), some (.int v4), some (.int v5), some (.int (1 : Int32)), none], [.int (I r0 9), .ref r0])) (h1 := (sh, I, J)) rfl e0 (xG_B rfl rfl k1 k2)
set_option maxRecDepth 100000 in
theorem s_M_readCopy_18 {d : Nat} {Q : xO → xH → Prop} {sh : List xS} {I : Nat → Nat → Int32} {J : Nat → Nat → Int64} {r0 : Nat} {v1 : Int32} {v2 : Int32} {v3 : Int32} {v4 : Int32} {v5 : Int32}
    (ko : xOb sh r0 10)
    (k : xg d qM_symbol [.ref r0, .int (4 : Int32)] (sh, I, J) (xI (fun v h1 => xG d zm_M_readCopy (24, [some (.ref r0), some (.int v1), some (.int v2), some (.int v3), some (.int v4), some (.int v5), none, none], [.int v, .ref r0]) h1 Q) (fun x h1 => Q (.inr x) h1))) :
    xG d zm_M_readCopy (18, [some (.ref r0), some (.int v1), some (.int v2), some (.int v3), some (.int v4), some (.int v5), none, none], []) (sh, I, J) Q := by
  exact xG_N 3 (ps := []) (f1 := (21, [some (.ref r0), some (.int v1), some (.int v2), some (.int v3), some (.int v4), some (.int v5), none, none], [.int (4 : Int32), .ref r0, .ref r0])) (h1 := (sh, I, J)) rfl trivial (xG_Ci rfl rfl (Nat.le_of_ble_eq_true rfl) (Nat.le_of_ble_eq_true rfl) ⟨_, _, rfl, ko⟩ rfl k)
set_option maxRecDepth 100000 in
theorem s_M_readCopy_24 {d : Nat} {Q : xO → xH → Prop} {sh : List xS} {I : Nat → Nat → Int32} {J : Nat → Nat → Int64} {r0 : Nat} {v1 : Int32} {v2 : Int32} {v3 : Int32} {v4 : Int32} {v5 : Int32} {t0 : Nat} {t1 : Int32}
    (ko : xOb sh t0 10)
    (k : xg d qM_readPrefixed [.ref t0, .int t1] (sh, I, J) (xI (fun v h1 => xG d zm_M_readCopy (27, [some (.ref r0), some (.int v1), some (.int v2), some (.int v3), some (.int v4), some (.int v5), none, none], [.int v]) h1 Q) (fun x h1 => Q (.inr x) h1))) :
    xG d zm_M_readCopy (24, [some (.ref r0), some (.int v1), some (.int v2), some (.int v3), some (.int v4), some (.int v5), none, none], [.int t1, .ref t0]) (sh, I, J) Q := by
  exact xG_Ci rfl rfl (Nat.le_of_ble_eq_true rfl) (Nat.le_of_ble_eq_true rfl) ⟨_, _, rfl, ko⟩ rfl k
set_option maxRecDepth 100000 in
theorem s_M_readCopy_27 {d : Nat} {Q : xO → xH → Prop} {sh : List xS} {I : Nat → Nat → Int32} {J : Nat → Nat → Int64} {r0 : Nat} {v1 : Int32} {v2 : Int32} {v3 : Int32} {v4 : Int32} {v5 : Int32} {t0 : Int32}
    (k : xg d qM_distanceOf [.int t0, .int v3] (sh, I, J) (xI (fun v h1 => xG d zm_M_readCopy (31, [some (.ref r0), some (.int v1), some (.int v2), some (.int v3), some (.int v4), some (.int v5), none, none], [.int v]) h1 Q) (fun x h1 => Q (.inr x) h1))) :
    xG d zm_M_readCopy (27, [some (.ref r0), some (.int v1), some (.int v2), some (.int v3), some (.int v4), some (.int v5), none, none], [.int t0]) (sh, I, J) Q := by
  exact xG_N 1 (ps := []) (f1 := (28, [some (.ref r0), some (.int v1), some (.int v2), some (.int v3), some (.int v4), some (.int v5), none, none], [.int v3, .int t0])) (h1 := (sh, I, J)) rfl trivial (xG_Ci rfl rfl (Nat.le_of_ble_eq_true rfl) (Nat.le_of_ble_eq_true rfl) trivial rfl k)
set_option maxRecDepth 100000 in
theorem s_M_readCopy_31 {d : Nat} {Q : xO → xH → Prop} {sh : List xS} {I : Nat → Nat → Int32} {J : Nat → Nat → Int64} {r0 : Nat} {v1 : Int32} {v2 : Int32} {v3 : Int32} {v4 : Int32} {v5 : Int32} {t0 : Int32}
    (e0 : xOb sh r0 10)
    (k1 : ¬ (I r0 9) = 0 → xG d zm_M_readCopy (56, [some (.ref r0), some (.int v1), some (.int v2), some (.int v3), some (.int v4), some (.int v5), some (.int t0), none], [.ref r0]) (sh, I, J) Q)
    (k2 : ¬ (¬ (I r0 9) = 0) → xG d zm_M_readCopy (41, [some (.ref r0), some (.int v1), some (.int v2), some (.int v3), some (.int v4), some (.int v5), some (.int t0), none], [.ref r0]) (sh, I, J) Q) :
    xG d zm_M_readCopy (31, [some (.ref r0), some (.int v1), some (.int v2), some (.int v3), some (.int v4), some (.int v5), none, none], [.int t0]) (sh, I, J) Q := by
  exact xG_N 4 (ps := [xOb sh r0 10]) (f1 := (38, [some (.ref r0), some (.int v1), some (.int v2), some (.int v3), some (.int v4), some (.int v5), some (.int t0), none], [.int (I r0 9), .ref r0])) (h1 := (sh, I, J)) rfl e0 (xG_B rfl rfl k1 k2)
set_option maxRecDepth 100000 in
theorem s_M_readCopy_41 {d : Nat} {Q : xO → xH → Prop} {sh : List xS} {I : Nat → Nat → Int32} {J : Nat → Nat → Int64} {r0 : Nat} {v1 : Int32} {v2 : Int32} {v3 : Int32} {v4 : Int32} {v5 : Int32} {v6 : Int32} {t0 : Nat}
    (k1 : v1 < v6 → xG d zm_M_readCopy (56, [some (.ref r0), some (.int v1), some (.int v2), some (.int v3), some (.int v4), some (.int v5), some (.int v6), none], [.ref t0]) (sh, I, J) Q)
    (k2 : ¬ (v1 < v6) → xG d zm_M_readCopy (47, [some (.ref r0), some (.int v1), some (.int v2), some (.int v3), some (.int v4), some (.int v5), some (.int v6), none], [.ref t0]) (sh, I, J) Q) :
    xG d zm_M_readCopy (41, [some (.ref r0), some (.int v1), some (.int v2), some (.int v3), some (.int v4), some (.int v5), some (.int v6), none], [.ref t0]) (sh, I, J) Q := by
  exact xG_N 2 (ps := []) (f1 := (44, [some (.ref r0), some (.int v1), some (.int v2), some (.int v3), some (.int v4), some (.int v5), some (.int v6), none], [.int v1, .int v6, .ref t0])) (h1 := (sh, I, J)) rfl trivial (xG_B rfl rfl k1 k2)
set_option maxRecDepth 100000 in
theorem s_M_readCopy_47 {d : Nat} {Q : xO → xH → Prop} {sh : List xS} {I : Nat → Nat → Int32} {J : Nat → Nat → Int64} {r0 : Nat} {v1 : Int32} {v2 : Int32} {v3 : Int32} {v4 : Int32} {v5 : Int32} {v6 : Int32} {t0 : Nat}
    (k1 : (v1 + v5) ≤ v4 → xG d zm_M_readCopy (60, [some (.ref r0), some (.int v1), some (.int v2), some (.int v3), some (.int v4), some (.int v5), some (.int v6), none], [.ref t0]) (sh, I, J) Q)
    (k2 : ¬ ((v1 + v5) ≤ v4) → xG d zm_M_readCopy (56, [some (.ref r0), some (.int v1), some (.int v2), some (.int v3), some (.int v4), some (.int v5), some (.int v6), none], [.ref t0]) (sh, I, J) Q) :
    xG d zm_M_readCopy (47, [some (.ref r0), some (.int v1), some (.int v2), some (.int v3), some (.int v4), some (.int v5), some (.int v6), none], [.ref t0]) (sh, I, J) Q := by
  exact xG_N 4 (ps := []) (f1 := (53, [some (.ref r0), some (.int v1), some (.int v2), some (.int v3), some (.int v4), some (.int v5), some (.int v6), none], [.int v4, .int (v1 + v5), .ref t0])) (h1 := (sh, I, J)) rfl trivial (xG_B rfl rfl k1 k2)
set_option maxRecDepth 100000 in
theorem s_M_readCopy_56 {d : Nat} {Q : xO → xH → Prop} {sh : List xS} {I : Nat → Nat → Int32} {J : Nat → Nat → Int64} {r0 : Nat} {v1 : Int32} {v2 : Int32} {v3 : Int32} {v4 : Int32} {v5 : Int32} {v6 : Int32} {t0 : Nat}
    (e0 : xOb sh t0 10)
    (e1 : xOb sh r0 10)
    (k : xG d zm_M_readCopy (77, [some (.ref r0), some (.int v1), some (.int v2), some (.int v3), some (.int v4), some (.int v5), some (.int v6), some (.int (0 : Int32))], []) (sh, xup (xup I t0 9 (1 : Int32)) r0 17 (((xup I t0 9 (1 : Int32)) r0 17) + (1 : Int32)), J) Q) :
    xG d zm_M_readCopy (56, [some (.ref r0), some (.int v1), some (.int v2), some (.int v3), some (.int v4), some (.int v5), some (.int v6), none], [.ref t0]) (sh, I, J) Q := by
  exact xG_N 11 (ps := [xOb sh t0 10, ((1 : Int32) : Int32) = 0 ∨ ((1 : Int32) : Int32) = 1, xOb sh r0 10, xOb sh r0 10]) (f1 := (77, [some (.ref r0), some (.int v1), some (.int v2), some (.int v3), some (.int v4), some (.int v5), some (.int v6), some (.int (0 : Int32))], [])) (h1 := (sh, xup (xup I t0 9 (1 : Int32)) r0 17 (((xup I t0 9 (1 : Int32)) r0 17) + (1 : Int32)), J)) rfl ⟨e0, (show ((1 : Int32) : Int32) = 0 ∨ ((1 : Int32) : Int32) = 1 by decide), e1, e1⟩ (k)
set_option maxRecDepth 100000 in
theorem s_M_readCopy_60 {d : Nat} {Q : xO → xH → Prop} {sh : List xS} {I : Nat → Nat → Int32} {J : Nat → Nat → Int64} {r0 : Nat} {v1 : Int32} {v2 : Int32} {v3 : Int32} {v4 : Int32} {v5 : Int32} {v6 : Int32} {t0 : Nat}
    (e0 : xOb sh t0 10)
    (e1 : xOb sh r0 10)
    (k : xG d zm_M_readCopy (77, [some (.ref r0), some (.int v1), some (.int v2), some (.int v3), some (.int v4), some (.int v5), some (.int v6), some (.int (0 : Int32))], []) (sh, xup (xup I t0 9 (0 : Int32)) r0 17 (((xup I t0 9 (0 : Int32)) r0 17) + (1 : Int32)), J) Q) :
    xG d zm_M_readCopy (60, [some (.ref r0), some (.int v1), some (.int v2), some (.int v3), some (.int v4), some (.int v5), some (.int v6), none], [.ref t0]) (sh, I, J) Q := by
  exact xG_N 10 (ps := [xOb sh t0 10, ((0 : Int32) : Int32) = 0 ∨ ((0 : Int32) : Int32) = 1, xOb sh r0 10, xOb sh r0 10]) (f1 := (77, [some (.ref r0), some (.int v1), some (.int v2), some (.int v3), some (.int v4), some (.int v5), some (.int v6), some (.int (0 : Int32))], [])) (h1 := (sh, xup (xup I t0 9 (0 : Int32)) r0 17 (((xup I t0 9 (0 : Int32)) r0 17) + (1 : Int32)), J)) rfl ⟨e0, (show ((0 : Int32) : Int32) = 0 ∨ ((0 : Int32) : Int32) = 1 by decide), e1, e1⟩ (k)
set_option maxRecDepth 100000 in
theorem s_M_readCopy_77 {d : Nat} {Q : xO → xH → Prop} {sh : List xS} {I : Nat → Nat → Int32} {J : Nat → Nat → Int64} {r0 : Nat} {v1 : Int32} {v2 : Int32} {v3 : Int32} {v4 : Int32} {v5 : Int32} {v6 : Int32} {v7 : Int32}
    (k1 : v5 ≤ v7 → xG d zm_M_readCopy (117, [some (.ref r0), some (.int v1), some (.int v2), some (.int v3), some (.int v4), some (.int v5), some (.int v6), some (.int v7)], []) (sh, I, J) Q)
    (k2 : ¬ (v5 ≤ v7) → xG d zm_M_readCopy (84, [some (.ref r0), some (.int v1), some (.int v2), some (.int v3), some (.int v4), some (.int v5), some (.int v6), some (.int v7)], []) (sh, I, J) Q) :
    xG d zm_M_readCopy (77, [some (.ref r0), some (.int v1), some (.int v2), some (.int v3), some (.int v4), some (.int v5), some (.int v6), some (.int v7)], []) (sh, I, J) Q := by
  exact xG_N 2 (ps := []) (f1 := (81, [some (.ref r0), some (.int v1), some (.int v2), some (.int v3), some (.int v4), some (.int v5), some (.int v6), some (.int v7)], [.int v5, .int v7])) (h1 := (sh, I, J)) rfl trivial (xG_B rfl rfl k1 k2)
set_option maxRecDepth 100000 in
theorem s_M_readCopy_84 {d : Nat} {Q : xO → xH → Prop} {sh : List xS} {I : Nat → Nat → Int32} {J : Nat → Nat → Int64} {r0 : Nat} {v1 : Int32} {v2 : Int32} {v3 : Int32} {v4 : Int32} {v5 : Int32} {v6 : Int32} {v7 : Int32}
    (e0 : xOb sh r0 10)
    (k1 : ¬ (I r0 9) = 0 → xG d zm_M_readCopy (117, [some (.ref r0), some (.int v1), some (.int v2), some (.int v3), some (.int v4), some (.int v5), some (.int v6), some (.int v7)], []) (sh, I, J) Q)
    (k2 : ¬ (¬ (I r0 9) = 0) → xG d zm_M_readCopy (91, [some (.ref r0), some (.int v1), some (.int v2), some (.int v3), some (.int v4), some (.int v5), some (.int v6), some (.int v7)], []) (sh, I, J) Q) :
    xG d zm_M_readCopy (84, [some (.ref r0), some (.int v1), some (.int v2), some (.int v3), some (.int v4), some (.int v5), some (.int v6), some (.int v7)], []) (sh, I, J) Q := by
  exact xG_N 2 (ps := [xOb sh r0 10]) (f1 := (88, [some (.ref r0), some (.int v1), some (.int v2), some (.int v3), some (.int v4), some (.int v5), some (.int v6), some (.int v7)], [.int (I r0 9)])) (h1 := (sh, I, J)) rfl e0 (xG_B rfl rfl k1 k2)
set_option maxRecDepth 100000 in
theorem s_M_readCopy_91 {d : Nat} {Q : xO → xH → Prop} {sh : List xS} {I : Nat → Nat → Int32} {J : Nat → Nat → Int64} {r0 : Nat} {v1 : Int32} {v2 : Int32} {v3 : Int32} {v4 : Int32} {v5 : Int32} {v6 : Int32} {v7 : Int32} {a1 : Nat} {n2 : Nat}
    (e0 : xRr sh r0 10 14 a1)
    (e1 : xAr sh a1 .int n2)
    (e2 : vp_in ((v1 + v7) - v6) n2)
    (k : xg d qM_come [.ref r0, .int (v1 + v7), .int (I a1 ((v1 + v7) - v6).toNatClampNeg)] (sh, I, J) (xU (fun h1 => xG d zm_M_readCopy (111, [some (.ref r0), some (.int v1), some (.int v2), some (.int v3), some (.int v4), some (.int v5), some (.int v6), some (.int v7)], []) h1 Q) (fun x h1 => Q (.inr x) h1))) :
    xG d zm_M_readCopy (91, [some (.ref r0), some (.int v1), some (.int v2), some (.int v3), some (.int v4), some (.int v5), some (.int v6), some (.int v7)], []) (sh, I, J) Q := by
  obtain rfl := e0.eq
  obtain rfl := e1.eq
  exact xG_N 12 (ps := [xRf sh r0 10 14, xA sh (xrf sh r0 14) .int, vp_in ((v1 + v7) - v6) (xlen sh (xrf sh r0 14))]) (f1 := (108, [some (.ref r0), some (.int v1), some (.int v2), some (.int v3), some (.int v4), some (.int v5), some (.int v6), some (.int v7)], [.int (I (xrf sh r0 14) ((v1 + v7) - v6).toNatClampNeg), .int (v1 + v7), .ref r0])) (h1 := (sh, I, J)) rfl ⟨e0.rf, e1.ar, e2⟩ (xG_Cu rfl rfl (Nat.le_of_ble_eq_true rfl) (Nat.le_of_ble_eq_true rfl) ⟨_, _, rfl, e0.ob⟩ rfl k)
set_option maxRecDepth 100000 in
theorem s_M_readCopy_111 {d : Nat} {Q : xO → xH → Prop} {sh : List xS} {I : Nat → Nat → Int32} {J : Nat → Nat → Int64} {r0 : Nat} {v1 : Int32} {v2 : Int32} {v3 : Int32} {v4 : Int32} {v5 : Int32} {v6 : Int32} {v7 : Int32}
    (k : xG d zm_M_readCopy (77, [some (.ref r0), some (.int v1), some (.int v2), some (.int v3), some (.int v4), some (.int v5), some (.int v6), some (.int (v7 + (1 : Int32)))], []) (sh, I, J) Q) :
    xG d zm_M_readCopy (111, [some (.ref r0), some (.int v1), some (.int v2), some (.int v3), some (.int v4), some (.int v5), some (.int v6), some (.int v7)], []) (sh, I, J) Q := by
  exact xG_N 2 (ps := []) (f1 := (77, [some (.ref r0), some (.int v1), some (.int v2), some (.int v3), some (.int v4), some (.int v5), some (.int v6), some (.int (v7 + (1 : Int32)))], [])) (h1 := (sh, I, J)) rfl trivial (k)
set_option maxRecDepth 100000 in
theorem s_M_readCopy_117 {d : Nat} {Q : xO → xH → Prop} {sh : List xS} {I : Nat → Nat → Int32} {J : Nat → Nat → Int64} {r0 : Nat} {v1 : Int32} {v2 : Int32} {v3 : Int32} {v4 : Int32} {v5 : Int32} {v6 : Int32} {v7 : Int32}
    (k : Q (.inl (some (.int (v1 + v5)))) (sh, I, J)) :
    xG d zm_M_readCopy (117, [some (.ref r0), some (.int v1), some (.int v2), some (.int v3), some (.int v4), some (.int v5), some (.int v6), some (.int v7)], []) (sh, I, J) Q := by
  exact xG_N 3 (ps := []) (f1 := (121, [some (.ref r0), some (.int v1), some (.int v2), some (.int v3), some (.int v4), some (.int v5), some (.int v6), some (.int v7)], [.int (v1 + v5)])) (h1 := (sh, I, J)) rfl trivial (xG_Q rfl rfl trivial k)
set_option maxRecDepth 100000 in
theorem s_M_readImage_0 {d : Nat} {Q : xO → xH → Prop} {sh : List xS} {I : Nat → Nat → Int32} {J : Nat → Nat → Int64} {r0 : Nat} {v1 : Int32} {v2 : Int32}
    (ko : xOb sh r0 10)
    (k : xg d qM_bit [.ref r0] (sh, I, J) (xI (fun v h1 => xG d zm_M_readImage (5, [some (.ref r0), some (.int v1), some (.int v2), none, none, none, none, none], [.int v, .ref r0]) h1 Q) (fun x h1 => Q (.inr x) h1))) :
    xG d zm_M_readImage (0, [some (.ref r0), some (.int v1), some (.int v2), none, none, none, none, none], []) (sh, I, J) Q := by
  exact xG_N 2 (ps := []) (f1 := (2, [some (.ref r0), some (.int v1), some (.int v2), none, none, none, none, none], [.ref r0, .ref r0])) (h1 := (sh, I, J)) rfl trivial (xG_Ci rfl rfl (Nat.le_of_ble_eq_true rfl) (Nat.le_of_ble_eq_true rfl) ⟨_, _, rfl, ko⟩ rfl k)
set_option maxRecDepth 100000 in
theorem s_M_readImage_5 {d : Nat} {Q : xO → xH → Prop} {sh : List xS} {I : Nat → Nat → Int32} {J : Nat → Nat → Int64} {r0 : Nat} {v1 : Int32} {v2 : Int32} {t0 : Nat} {t1 : Int32}
    (k1 : ¬ t1 = (1 : Int32) → xG d zm_M_readImage (19, [some (.ref r0), some (.int v1), some (.int v2), none, none, none, none, none], [.ref t0]) (sh, I, J) Q)
    (k2 : ¬ (¬ t1 = (1 : Int32)) → xG d zm_M_readImage (9, [some (.ref r0), some (.int v1), some (.int v2), none, none, none, none, none], [.ref t0]) (sh, I, J) Q) :
    xG d zm_M_readImage (5, [some (.ref r0), some (.int v1), some (.int v2), none, none, none, none, none], [.int t1, .ref t0]) (sh, I, J) Q := by
  exact xG_N 1 (ps := []) (f1 := (6, [some (.ref r0), some (.int v1), some (.int v2), none, none, none, none, none], [.int (1 : Int32), .int t1, .ref t0])) (h1 := (sh, I, J)) rfl trivial (xG_B rfl rfl k1 k2)
set_option maxRecDepth 100000 in
theorem s_M_readImage_9 {d : Nat} {Q : xO → xH → Prop} {sh : List xS} {I : Nat → Nat → Int32} {J : Nat → Nat → Int64} {r0 : Nat} {v1 : Int32} {v2 : Int32} {t0 : Nat}
    (ko : xOb sh r0 10)
    (k : xg d qM_bits [.ref r0, .int (2 : Int32)] (sh, I, J) (xI (fun v h1 => xG d zm_M_readImage (15, [some (.ref r0), some (.int v1), some (.int v2), none, none, none, none, none], [.int v, .int (2 : Int32), .ref t0]) h1 Q) (fun x h1 => Q (.inr x) h1))) :
    xG d zm_M_readImage (9, [some (.ref r0), some (.int v1), some (.int v2), none, none, none, none, none], [.ref t0]) (sh, I, J) Q := by
  exact xG_N 3 (ps := []) (f1 := (12, [some (.ref r0), some (.int v1), some (.int v2), none, none, none, none, none], [.int (2 : Int32), .ref r0, .int (2 : Int32), .ref t0])) (h1 := (sh, I, J)) rfl trivial (xG_Ci rfl rfl (Nat.le_of_ble_eq_true rfl) (Nat.le_of_ble_eq_true rfl) ⟨_, _, rfl, ko⟩ rfl k)
set_option maxRecDepth 100000 in
theorem s_M_readImage_15 {d : Nat} {Q : xO → xH → Prop} {sh : List xS} {I : Nat → Nat → Int32} {J : Nat → Nat → Int64} {r0 : Nat} {v1 : Int32} {v2 : Int32} {t0 : Nat} {t1 : Int32} {t2 : Int32}
    (ko : xOb sh t0 10)
    (k : xg d qM_emptyCache [.ref t0, .int (t1 <<< (t2 &&& 31))] (sh, I, J) (xU (fun h1 => xG d zm_M_readImage (23, [some (.ref r0), some (.int v1), some (.int v2), none, none, none, none, none], []) h1 Q) (fun x h1 => Q (.inr x) h1))) :
    xG d zm_M_readImage (15, [some (.ref r0), some (.int v1), some (.int v2), none, none, none, none, none], [.int t2, .int t1, .ref t0]) (sh, I, J) Q := by
  exact xG_N 2 (ps := []) (f1 := (20, [some (.ref r0), some (.int v1), some (.int v2), none, none, none, none, none], [.int (t1 <<< (t2 &&& 31)), .ref t0])) (h1 := (sh, I, J)) rfl trivial (xG_Cu rfl rfl (Nat.le_of_ble_eq_true rfl) (Nat.le_of_ble_eq_true rfl) ⟨_, _, rfl, ko⟩ rfl k)
set_option maxRecDepth 100000 in
theorem s_M_readImage_19 {d : Nat} {Q : xO → xH → Prop} {sh : List xS} {I : Nat → Nat → Int32} {J : Nat → Nat → Int64} {r0 : Nat} {v1 : Int32} {v2 : Int32} {t0 : Nat}
    (ko : xOb sh t0 10)
    (k : xg d qM_emptyCache [.ref t0, .int (0 : Int32)] (sh, I, J) (xU (fun h1 => xG d zm_M_readImage (23, [some (.ref r0), some (.int v1), some (.int v2), none, none, none, none, none], []) h1 Q) (fun x h1 => Q (.inr x) h1))) :
    xG d zm_M_readImage (19, [some (.ref r0), some (.int v1), some (.int v2), none, none, none, none, none], [.ref t0]) (sh, I, J) Q := by
  exact xG_N 1 (ps := []) (f1 := (20, [some (.ref r0), some (.int v1), some (.int v2), none, none, none, none, none], [.int (0 : Int32), .ref t0])) (h1 := (sh, I, J)) rfl trivial (xG_Cu rfl rfl (Nat.le_of_ble_eq_true rfl) (Nat.le_of_ble_eq_true rfl) ⟨_, _, rfl, ko⟩ rfl k)
set_option maxRecDepth 100000 in
theorem s_M_readImage_23 {d : Nat} {Q : xO → xH → Prop} {sh : List xS} {I : Nat → Nat → Int32} {J : Nat → Nat → Int64} {r0 : Nat} {v1 : Int32} {v2 : Int32}
    (e0 : xOb sh r0 10)
    (k : xg d qM_readCode [.ref r0, .int (0 : Int32), .int ((280 : Int32) + (I r0 19))] (sh, I, J) (xU (fun h1 => xG d zm_M_readImage (36, [some (.ref r0), some (.int v1), some (.int v2), none, none, none, none, none], []) h1 Q) (fun x h1 => Q (.inr x) h1))) :
    xG d zm_M_readImage (23, [some (.ref r0), some (.int v1), some (.int v2), none, none, none, none, none], []) (sh, I, J) Q := by
  exact xG_N 6 (ps := [xOb sh r0 10]) (f1 := (33, [some (.ref r0), some (.int v1), some (.int v2), none, none, none, none, none], [.int ((280 : Int32) + (I r0 19)), .int (0 : Int32), .ref r0])) (h1 := (sh, I, J)) rfl e0 (xG_Cu rfl rfl (Nat.le_of_ble_eq_true rfl) (Nat.le_of_ble_eq_true rfl) ⟨_, _, rfl, e0⟩ rfl k)
set_option maxRecDepth 100000 in
theorem s_M_readImage_36 {d : Nat} {Q : xO → xH → Prop} {sh : List xS} {I : Nat → Nat → Int32} {J : Nat → Nat → Int64} {r0 : Nat} {v1 : Int32} {v2 : Int32}
    (k : xG d zm_M_readImage (38, [some (.ref r0), some (.int v1), some (.int v2), some (.int (1 : Int32)), none, none, none, none], []) (sh, I, J) Q) :
    xG d zm_M_readImage (36, [some (.ref r0), some (.int v1), some (.int v2), none, none, none, none, none], []) (sh, I, J) Q := by
  exact xG_N 2 (ps := []) (f1 := (38, [some (.ref r0), some (.int v1), some (.int v2), some (.int (1 : Int32)), none, none, none, none], [])) (h1 := (sh, I, J)) rfl trivial (k)
set_option maxRecDepth 100000 in
theorem s_M_readImage_38 {d : Nat} {Q : xO → xH → Prop} {sh : List xS} {I : Nat → Nat → Int32} {J : Nat → Nat → Int64} {r0 : Nat} {v1 : Int32} {v2 : Int32} {v3 : Int32}
    (k1 : (5 : Int32) ≤ v3 → xG d zm_M_readImage (74, [some (.ref r0), some (.int v1), some (.int v2), some (.int v3), none, none, none, none], []) (sh, I, J) Q)
    (k2 : ¬ ((5 : Int32) ≤ v3) → xG d zm_M_readImage (43, [some (.ref r0), some (.int v1), some (.int v2), some (.int v3), none, none, none, none], []) (sh, I, J) Q) :
    xG d zm_M_readImage (38, [some (.ref r0), some (.int v1), some (.int v2), some (.int v3), none, none, none, none], []) (sh, I, J) Q := by
  exact xG_N 2 (ps := []) (f1 := (40, [some (.ref r0), some (.int v1), some (.int v2), some (.int v3), none, none, none, none], [.int (5 : Int32), .int v3])) (h1 := (sh, I, J)) rfl trivial (xG_B rfl rfl k1 k2)
set_option maxRecDepth 100000 in
theorem s_M_readImage_43 {d : Nat} {Q : xO → xH → Prop} {sh : List xS} {I : Nat → Nat → Int32} {J : Nat → Nat → Int64} {r0 : Nat} {v1 : Int32} {v2 : Int32} {v3 : Int32}
    (e0 : xOb sh r0 10)
    (k1 : ¬ (I r0 9) = 0 → xG d zm_M_readImage (74, [some (.ref r0), some (.int v1), some (.int v2), some (.int v3), none, none, none, none], []) (sh, I, J) Q)
    (k2 : ¬ (¬ (I r0 9) = 0) → xG d zm_M_readImage (50, [some (.ref r0), some (.int v1), some (.int v2), some (.int v3), none, none, none, none], []) (sh, I, J) Q) :
    xG d zm_M_readImage (43, [some (.ref r0), some (.int v1), some (.int v2), some (.int v3), none, none, none, none], []) (sh, I, J) Q := by
  exact xG_N 2 (ps := [xOb sh r0 10]) (f1 := (47, [some (.ref r0), some (.int v1), some (.int v2), some (.int v3), none, none, none, none], [.int (I r0 9)])) (h1 := (sh, I, J)) rfl e0 (xG_B rfl rfl k1 k2)
set_option maxRecDepth 100000 in
theorem s_M_readImage_50 {d : Nat} {Q : xO → xH → Prop} {sh : List xS} {I : Nat → Nat → Int32} {J : Nat → Nat → Int64} {r0 : Nat} {v1 : Int32} {v2 : Int32} {v3 : Int32}
    (k1 : (4 : Int32) ≤ v3 → xG d zm_M_readImage (63, [some (.ref r0), some (.int v1), some (.int v2), some (.int v3), none, none, none, none], [.int v3, .ref r0]) (sh, I, J) Q)
    (k2 : ¬ ((4 : Int32) ≤ v3) → xG d zm_M_readImage (57, [some (.ref r0), some (.int v1), some (.int v2), some (.int v3), none, none, none, none], [.int v3, .ref r0]) (sh, I, J) Q) :
    xG d zm_M_readImage (50, [some (.ref r0), some (.int v1), some (.int v2), some (.int v3), none, none, none, none], []) (sh, I, J) Q := by
  exact xG_N 4 (ps := []) (f1 := (54, [some (.ref r0), some (.int v1), some (.int v2), some (.int v3), none, none, none, none], [.int (4 : Int32), .int v3, .int v3, .ref r0])) (h1 := (sh, I, J)) rfl trivial (xG_B rfl rfl k1 k2)
set_option maxRecDepth 100000 in
theorem s_M_readImage_57 {d : Nat} {Q : xO → xH → Prop} {sh : List xS} {I : Nat → Nat → Int32} {J : Nat → Nat → Int64} {r0 : Nat} {v1 : Int32} {v2 : Int32} {v3 : Int32} {t0 : Nat} {t1 : Int32}
    (ko : xOb sh t0 10)
    (k : xg d qM_readCode [.ref t0, .int t1, .int (256 : Int32)] (sh, I, J) (xU (fun h1 => xG d zm_M_readImage (68, [some (.ref r0), some (.int v1), some (.int v2), some (.int v3), none, none, none, none], []) h1 Q) (fun x h1 => Q (.inr x) h1))) :
    xG d zm_M_readImage (57, [some (.ref r0), some (.int v1), some (.int v2), some (.int v3), none, none, none, none], [.int t1, .ref t0]) (sh, I, J) Q := by
  exact xG_N 2 (ps := []) (f1 := (65, [some (.ref r0), some (.int v1), some (.int v2), some (.int v3), none, none, none, none], [.int (256 : Int32), .int t1, .ref t0])) (h1 := (sh, I, J)) rfl trivial (xG_Cu rfl rfl (Nat.le_of_ble_eq_true rfl) (Nat.le_of_ble_eq_true rfl) ⟨_, _, rfl, ko⟩ rfl k)
set_option maxRecDepth 100000 in
theorem s_M_readImage_63 {d : Nat} {Q : xO → xH → Prop} {sh : List xS} {I : Nat → Nat → Int32} {J : Nat → Nat → Int64} {r0 : Nat} {v1 : Int32} {v2 : Int32} {v3 : Int32} {t0 : Nat} {t1 : Int32}
    (ko : xOb sh t0 10)
    (k : xg d qM_readCode [.ref t0, .int t1, .int (40 : Int32)] (sh, I, J) (xU (fun h1 => xG d zm_M_readImage (68, [some (.ref r0), some (.int v1), some (.int v2), some (.int v3), none, none, none, none], []) h1 Q) (fun x h1 => Q (.inr x) h1))) :
    xG d zm_M_readImage (63, [some (.ref r0), some (.int v1), some (.int v2), some (.int v3), none, none, none, none], [.int t1, .ref t0]) (sh, I, J) Q := by
  exact xG_N 1 (ps := []) (f1 := (65, [some (.ref r0), some (.int v1), some (.int v2), some (.int v3), none, none, none, none], [.int (40 : Int32), .int t1, .ref t0])) (h1 := (sh, I, J)) rfl trivial (xG_Cu rfl rfl (Nat.le_of_ble_eq_true rfl) (Nat.le_of_ble_eq_true rfl) ⟨_, _, rfl, ko⟩ rfl k)
set_option maxRecDepth 100000 in
theorem s_M_readImage_68 {d : Nat} {Q : xO → xH → Prop} {sh : List xS} {I : Nat → Nat → Int32} {J : Nat → Nat → Int64} {r0 : Nat} {v1 : Int32} {v2 : Int32} {v3 : Int32}
    (k : xG d zm_M_readImage (38, [some (.ref r0), some (.int v1), some (.int v2), some (.int (v3 + (1 : Int32))), none, none, none, none], []) (sh, I, J) Q) :
    xG d zm_M_readImage (68, [some (.ref r0), some (.int v1), some (.int v2), some (.int v3), none, none, none, none], []) (sh, I, J) Q := by
  exact xG_N 2 (ps := []) (f1 := (38, [some (.ref r0), some (.int v1), some (.int v2), some (.int (v3 + (1 : Int32))), none, none, none, none], [])) (h1 := (sh, I, J)) rfl trivial (k)
set_option maxRecDepth 100000 in
theorem s_M_readImage_74 {d : Nat} {Q : xO → xH → Prop} {sh : List xS} {I : Nat → Nat → Int32} {J : Nat → Nat → Int64} {r0 : Nat} {v1 : Int32} {v2 : Int32} {v3 : Int32}
    (k : xG d zm_M_readImage (76, [some (.ref r0), some (.int v1), some (.int v2), some (.int (0 : Int32)), none, none, none, none], []) (sh, I, J) Q) :
    xG d zm_M_readImage (74, [some (.ref r0), some (.int v1), some (.int v2), some (.int v3), none, none, none, none], []) (sh, I, J) Q := by
  exact xG_N 2 (ps := []) (f1 := (76, [some (.ref r0), some (.int v1), some (.int v2), some (.int (0 : Int32)), none, none, none, none], [])) (h1 := (sh, I, J)) rfl trivial (k)
set_option maxRecDepth 100000 in
theorem s_M_readImage_76 {d : Nat} {Q : xO → xH → Prop} {sh : List xS} {I : Nat → Nat → Int32} {J : Nat → Nat → Int64} {r0 : Nat} {v1 : Int32} {v2 : Int32} {v3 : Int32} {o4 : Option Value} {o5 : Option Value} {o6 : Option Value} {o7 : Option Value}
    (k1 : (v1 * v2) ≤ v3 → xG d zm_M_readImage (216, [some (.ref r0), some (.int v1), some (.int v2), some (.int v3), o4, o5, o6, o7], []) (sh, I, J) Q)
    (k2 : ¬ ((v1 * v2) ≤ v3) → xG d zm_M_readImage (83, [some (.ref r0), some (.int v1), some (.int v2), some (.int v3), o4, o5, o6, o7], []) (sh, I, J) Q) :
    xG d zm_M_readImage (76, [some (.ref r0), some (.int v1), some (.int v2), some (.int v3), o4, o5, o6, o7], []) (sh, I, J) Q := by
  exact xG_N 4 (ps := []) (f1 := (80, [some (.ref r0), some (.int v1), some (.int v2), some (.int v3), o4, o5, o6, o7], [.int (v1 * v2), .int v3])) (h1 := (sh, I, J)) rfl trivial (xG_B rfl rfl k1 k2)
set_option maxRecDepth 100000 in
theorem s_M_readImage_83 {d : Nat} {Q : xO → xH → Prop} {sh : List xS} {I : Nat → Nat → Int32} {J : Nat → Nat → Int64} {r0 : Nat} {v1 : Int32} {v2 : Int32} {v3 : Int32} {o4 : Option Value} {o5 : Option Value} {o6 : Option Value} {o7 : Option Value}
    (e0 : xOb sh r0 10)
    (k1 : ¬ (I r0 9) = 0 → xG d zm_M_readImage (216, [some (.ref r0), some (.int v1), some (.int v2), some (.int v3), o4, o5, o6, o7], []) (sh, I, J) Q)
    (k2 : ¬ (¬ (I r0 9) = 0) → xG d zm_M_readImage (90, [some (.ref r0), some (.int v1), some (.int v2), some (.int v3), o4, o5, o6, o7], []) (sh, I, J) Q) :
    xG d zm_M_readImage (83, [some (.ref r0), some (.int v1), some (.int v2), some (.int v3), o4, o5, o6, o7], []) (sh, I, J) Q := by
  exact xG_N 2 (ps := [xOb sh r0 10]) (f1 := (87, [some (.ref r0), some (.int v1), some (.int v2), some (.int v3), o4, o5, o6, o7], [.int (I r0 9)])) (h1 := (sh, I, J)) rfl e0 (xG_B rfl rfl k1 k2)
set_option maxRecDepth 100000 in
theorem s_M_readImage_90 {d : Nat} {Q : xO → xH → Prop} {sh : List xS} {I : Nat → Nat → Int32} {J : Nat → Nat → Int64} {r0 : Nat} {v1 : Int32} {v2 : Int32} {v3 : Int32} {o4 : Option Value} {o5 : Option Value} {o6 : Option Value} {o7 : Option Value}
    (ko : xOb sh r0 10)
    (k : xg d qM_symbol [.ref r0, .int (0 : Int32)] (sh, I, J) (xI (fun v h1 => xG d zm_M_readImage (95, [some (.ref r0), some (.int v1), some (.int v2), some (.int v3), o4, o5, o6, o7], [.int v]) h1 Q) (fun x h1 => Q (.inr x) h1))) :
    xG d zm_M_readImage (90, [some (.ref r0), some (.int v1), some (.int v2), some (.int v3), o4, o5, o6, o7], []) (sh, I, J) Q := by
  exact xG_N 2 (ps := []) (f1 := (92, [some (.ref r0), some (.int v1), some (.int v2), some (.int v3), o4, o5, o6, o7], [.int (0 : Int32), .ref r0])) (h1 := (sh, I, J)) rfl trivial (xG_Ci rfl rfl (Nat.le_of_ble_eq_true rfl) (Nat.le_of_ble_eq_true rfl) ⟨_, _, rfl, ko⟩ rfl k)
set_option maxRecDepth 100000 in
theorem s_M_readImage_95 {d : Nat} {Q : xO → xH → Prop} {sh : List xS} {I : Nat → Nat → Int32} {J : Nat → Nat → Int64} {r0 : Nat} {v1 : Int32} {v2 : Int32} {v3 : Int32} {o4 : Option Value} {o5 : Option Value} {o6 : Option Value} {o7 : Option Value} {t0 : Int32}
    (k1 : (256 : Int32) ≤ t0 → xG d zm_M_readImage (157, [some (.ref r0), some (.int v1), some (.int v2), some (.int v3), some (.int t0), o5, o6, o7], []) (sh, I, J) Q)
    (k2 : ¬ ((256 : Int32) ≤ t0) → xG d zm_M_readImage (105, [some (.ref r0), some (.int v1), some (.int v2), some (.int v3), some (.int t0), o5, o6, o7], []) (sh, I, J) Q) :
    xG d zm_M_readImage (95, [some (.ref r0), some (.int v1), some (.int v2), some (.int v3), o4, o5, o6, o7], [.int t0]) (sh, I, J) Q := by
  exact xG_N 3 (ps := []) (f1 := (102, [some (.ref r0), some (.int v1), some (.int v2), some (.int v3), some (.int t0), o5, o6, o7], [.int (256 : Int32), .int t0])) (h1 := (sh, I, J)) rfl trivial (xG_B rfl rfl k1 k2)
set_option maxRecDepth 100000 in
theorem s_M_readImage_105 {d : Nat} {Q : xO → xH → Prop} {sh : List xS} {I : Nat → Nat → Int32} {J : Nat → Nat → Int64} {r0 : Nat} {v1 : Int32} {v2 : Int32} {v3 : Int32} {v4 : Int32} {o5 : Option Value} {o6 : Option Value} {o7 : Option Value}
    (ko : xOb sh r0 10)
    (k : xg d qM_symbol [.ref r0, .int (1 : Int32)] (sh, I, J) (xI (fun v h1 => xG d zm_M_readImage (110, [some (.ref r0), some (.int v1), some (.int v2), some (.int v3), some (.int v4), o5, o6, o7], [.int v]) h1 Q) (fun x h1 => Q (.inr x) h1))) :
    xG d zm_M_readImage (105, [some (.ref r0), some (.int v1), some (.int v2), some (.int v3), some (.int v4), o5, o6, o7], []) (sh, I, J) Q := by
  exact xG_N 2 (ps := []) (f1 := (107, [some (.ref r0), some (.int v1), some (.int v2), some (.int v3), some (.int v4), o5, o6, o7], [.int (1 : Int32), .ref r0])) (h1 := (sh, I, J)) rfl trivial (xG_Ci rfl rfl (Nat.le_of_ble_eq_true rfl) (Nat.le_of_ble_eq_true rfl) ⟨_, _, rfl, ko⟩ rfl k)
set_option maxRecDepth 100000 in
theorem s_M_readImage_110 {d : Nat} {Q : xO → xH → Prop} {sh : List xS} {I : Nat → Nat → Int32} {J : Nat → Nat → Int64} {r0 : Nat} {v1 : Int32} {v2 : Int32} {v3 : Int32} {v4 : Int32} {o5 : Option Value} {o6 : Option Value} {o7 : Option Value} {t0 : Int32}
    (ko : xOb sh r0 10)
    (k : xg d qM_symbol [.ref r0, .int (2 : Int32)] (sh, I, J) (xI (fun v h1 => xG d zm_M_readImage (117, [some (.ref r0), some (.int v1), some (.int v2), some (.int v3), some (.int v4), some (.int t0), o6, o7], [.int v]) h1 Q) (fun x h1 => Q (.inr x) h1))) :
    xG d zm_M_readImage (110, [some (.ref r0), some (.int v1), some (.int v2), some (.int v3), some (.int v4), o5, o6, o7], [.int t0]) (sh, I, J) Q := by
  exact xG_N 3 (ps := []) (f1 := (114, [some (.ref r0), some (.int v1), some (.int v2), some (.int v3), some (.int v4), some (.int t0), o6, o7], [.int (2 : Int32), .ref r0])) (h1 := (sh, I, J)) rfl trivial (xG_Ci rfl rfl (Nat.le_of_ble_eq_true rfl) (Nat.le_of_ble_eq_true rfl) ⟨_, _, rfl, ko⟩ rfl k)
set_option maxRecDepth 100000 in
theorem s_M_readImage_117 {d : Nat} {Q : xO → xH → Prop} {sh : List xS} {I : Nat → Nat → Int32} {J : Nat → Nat → Int64} {r0 : Nat} {v1 : Int32} {v2 : Int32} {v3 : Int32} {v4 : Int32} {v5 : Int32} {o6 : Option Value} {o7 : Option Value} {t0 : Int32}
    (ko : xOb sh r0 10)
    (k : xg d qM_symbol [.ref r0, .int (3 : Int32)] (sh, I, J) (xI (fun v h1 => xG d zm_M_readImage (124, [some (.ref r0), some (.int v1), some (.int v2), some (.int v3), some (.int v4), some (.int v5), some (.int t0), o7], [.int v]) h1 Q) (fun x h1 => Q (.inr x) h1))) :
    xG d zm_M_readImage (117, [some (.ref r0), some (.int v1), some (.int v2), some (.int v3), some (.int v4), some (.int v5), o6, o7], [.int t0]) (sh, I, J) Q := by
  exact xG_N 3 (ps := []) (f1 := (121, [some (.ref r0), some (.int v1), some (.int v2), some (.int v3), some (.int v4), some (.int v5), some (.int t0), o7], [.int (3 : Int32), .ref r0])) (h1 := (sh, I, J)) rfl trivial (xG_Ci rfl rfl (Nat.le_of_ble_eq_true rfl) (Nat.le_of_ble_eq_true rfl) ⟨_, _, rfl, ko⟩ rfl k)
set_option maxRecDepth 100000 in
theorem s_M_readImage_124 {d : Nat} {Q : xO → xH → Prop} {sh : List xS} {I : Nat → Nat → Int32} {J : Nat → Nat → Int64} {r0 : Nat} {v1 : Int32} {v2 : Int32} {v3 : Int32} {v4 : Int32} {v5 : Int32} {v6 : Int32} {o7 : Option Value} {t0 : Int32}
    (ko : xOb sh r0 10)
    (k : xg d qM_come [.ref r0, .int v3, .int ((((t0 <<< ((24 : Int32) &&& 31)) ||| (v5 <<< ((16 : Int32) &&& 31))) ||| (v4 <<< ((8 : Int32) &&& 31))) ||| v6)] (sh, I, J) (xU (fun h1 => xG d zm_M_readImage (151, [some (.ref r0), some (.int v1), some (.int v2), some (.int v3), some (.int v4), some (.int v5), some (.int v6), some (.int t0)], []) h1 Q) (fun x h1 => Q (.inr x) h1))) :
    xG d zm_M_readImage (124, [some (.ref r0), some (.int v1), some (.int v2), some (.int v3), some (.int v4), some (.int v5), some (.int v6), o7], [.int t0]) (sh, I, J) Q := by
  exact xG_N 16 (ps := []) (f1 := (148, [some (.ref r0), some (.int v1), some (.int v2), some (.int v3), some (.int v4), some (.int v5), some (.int v6), some (.int t0)], [.int ((((t0 <<< ((24 : Int32) &&& 31)) ||| (v5 <<< ((16 : Int32) &&& 31))) ||| (v4 <<< ((8 : Int32) &&& 31))) ||| v6), .int v3, .ref r0])) (h1 := (sh, I, J)) rfl trivial (xG_Cu rfl rfl (Nat.le_of_ble_eq_true rfl) (Nat.le_of_ble_eq_true rfl) ⟨_, _, rfl, ko⟩ rfl k)
set_option maxRecDepth 100000 in
theorem s_M_readImage_151 {d : Nat} {Q : xO → xH → Prop} {sh : List xS} {I : Nat → Nat → Int32} {J : Nat → Nat → Int64} {r0 : Nat} {v1 : Int32} {v2 : Int32} {v3 : Int32} {v4 : Int32} {v5 : Int32} {v6 : Int32} {v7 : Int32}
    (k : xG d zm_M_readImage (76, [some (.ref r0), some (.int v1), some (.int v2), some (.int (v3 + (1 : Int32))), some (.int v4), some (.int v5), some (.int v6), some (.int v7)], []) (sh, I, J) Q) :
    xG d zm_M_readImage (151, [some (.ref r0), some (.int v1), some (.int v2), some (.int v3), some (.int v4), some (.int v5), some (.int v6), some (.int v7)], []) (sh, I, J) Q := by
  exact xG_N 3 (ps := []) (f1 := (76, [some (.ref r0), some (.int v1), some (.int v2), some (.int (v3 + (1 : Int32))), some (.int v4), some (.int v5), some (.int v6), some (.int v7)], [])) (h1 := (sh, I, J)) rfl trivial (k)
set_option maxRecDepth 100000 in
theorem s_M_readImage_157 {d : Nat} {Q : xO → xH → Prop} {sh : List xS} {I : Nat → Nat → Int32} {J : Nat → Nat → Int64} {r0 : Nat} {v1 : Int32} {v2 : Int32} {v3 : Int32} {v4 : Int32} {o5 : Option Value} {o6 : Option Value} {o7 : Option Value}
    (k1 : (280 : Int32) ≤ v4 → xG d zm_M_readImage (184, [some (.ref r0), some (.int v1), some (.int v2), some (.int v3), some (.int v4), o5, o6, o7], []) (sh, I, J) Q)
    (k2 : ¬ ((280 : Int32) ≤ v4) → xG d zm_M_readImage (165, [some (.ref r0), some (.int v1), some (.int v2), some (.int v3), some (.int v4), o5, o6, o7], []) (sh, I, J) Q) :
    xG d zm_M_readImage (157, [some (.ref r0), some (.int v1), some (.int v2), some (.int v3), some (.int v4), o5, o6, o7], []) (sh, I, J) Q := by
  exact xG_N 2 (ps := []) (f1 := (162, [some (.ref r0), some (.int v1), some (.int v2), some (.int v3), some (.int v4), o5, o6, o7], [.int (280 : Int32), .int v4])) (h1 := (sh, I, J)) rfl trivial (xG_B rfl rfl k1 k2)
set_option maxRecDepth 100000 in
theorem s_M_readImage_165 {d : Nat} {Q : xO → xH → Prop} {sh : List xS} {I : Nat → Nat → Int32} {J : Nat → Nat → Int64} {r0 : Nat} {v1 : Int32} {v2 : Int32} {v3 : Int32} {v4 : Int32} {o5 : Option Value} {o6 : Option Value} {o7 : Option Value}
    (ko : xOb sh r0 10)
    (k : xg d qM_readCopy [.ref r0, .int v3, .int (v4 - (256 : Int32)), .int v1, .int (v1 * v2)] (sh, I, J) (xI (fun v h1 => xG d zm_M_readImage (180, [some (.ref r0), some (.int v1), some (.int v2), some (.int v3), some (.int v4), o5, o6, o7], [.int v]) h1 Q) (fun x h1 => Q (.inr x) h1))) :
    xG d zm_M_readImage (165, [some (.ref r0), some (.int v1), some (.int v2), some (.int v3), some (.int v4), o5, o6, o7], []) (sh, I, J) Q := by
  exact xG_N 9 (ps := []) (f1 := (177, [some (.ref r0), some (.int v1), some (.int v2), some (.int v3), some (.int v4), o5, o6, o7], [.int (v1 * v2), .int v1, .int (v4 - (256 : Int32)), .int v3, .ref r0])) (h1 := (sh, I, J)) rfl trivial (xG_Ci rfl rfl (Nat.le_of_ble_eq_true rfl) (Nat.le_of_ble_eq_true rfl) ⟨_, _, rfl, ko⟩ rfl k)
set_option maxRecDepth 100000 in
theorem s_M_readImage_180 {d : Nat} {Q : xO → xH → Prop} {sh : List xS} {I : Nat → Nat → Int32} {J : Nat → Nat → Int64} {r0 : Nat} {v1 : Int32} {v2 : Int32} {v3 : Int32} {v4 : Int32} {o5 : Option Value} {o6 : Option Value} {o7 : Option Value} {t0 : Int32}
    (k : xG d zm_M_readImage (76, [some (.ref r0), some (.int v1), some (.int v2), some (.int t0), some (.int v4), o5, o6, o7], []) (sh, I, J) Q) :
    xG d zm_M_readImage (180, [some (.ref r0), some (.int v1), some (.int v2), some (.int v3), some (.int v4), o5, o6, o7], [.int t0]) (sh, I, J) Q := by
  exact xG_N 3 (ps := []) (f1 := (76, [some (.ref r0), some (.int v1), some (.int v2), some (.int t0), some (.int v4), o5, o6, o7], [])) (h1 := (sh, I, J)) rfl trivial (k)
set_option maxRecDepth 100000 in
theorem s_M_readImage_184 {d : Nat} {Q : xO → xH → Prop} {sh : List xS} {I : Nat → Nat → Int32} {J : Nat → Nat → Int64} {r0 : Nat} {v1 : Int32} {v2 : Int32} {v3 : Int32} {v4 : Int32} {o5 : Option Value} {o6 : Option Value} {o7 : Option Value} {a1 : Nat} {n2 : Nat}
    (e0 : xRr sh r0 10 16 a1)
    (e1 : xAr sh a1 .int n2)
    (e2 : vp_in (v4 - (280 : Int32)) n2)
    (k : xg d qM_come [.ref r0, .int v3, .int (I a1 (v4 - (280 : Int32)).toNatClampNeg)] (sh, I, J) (xU (fun h1 => xG d zm_M_readImage (200, [some (.ref r0), some (.int v1), some (.int v2), some (.int v3), some (.int v4), o5, o6, o7], []) h1 Q) (fun x h1 => Q (.inr x) h1))) :
    xG d zm_M_readImage (184, [some (.ref r0), some (.int v1), some (.int v2), some (.int v3), some (.int v4), o5, o6, o7], []) (sh, I, J) Q := by
  obtain rfl := e0.eq
  obtain rfl := e1.eq
  exact xG_N 8 (ps := [xRf sh r0 10 16, xA sh (xrf sh r0 16) .int, vp_in (v4 - (280 : Int32)) (xlen sh (xrf sh r0 16))]) (f1 := (197, [some (.ref r0), some (.int v1), some (.int v2), some (.int v3), some (.int v4), o5, o6, o7], [.int (I (xrf sh r0 16) (v4 - (280 : Int32)).toNatClampNeg), .int v3, .ref r0])) (h1 := (sh, I, J)) rfl ⟨e0.rf, e1.ar, e2⟩ (xG_Cu rfl rfl (Nat.le_of_ble_eq_true rfl) (Nat.le_of_ble_eq_true rfl) ⟨_, _, rfl, e0.ob⟩ rfl k)
set_option maxRecDepth 100000 in
theorem s_M_readImage_200 {d : Nat} {Q : xO → xH → Prop} {sh : List xS} {I : Nat → Nat → Int32} {J : Nat → Nat → Int64} {r0 : Nat} {v1 : Int32} {v2 : Int32} {v3 : Int32} {v4 : Int32} {o5 : Option Value} {o6 : Option Value} {o7 : Option Value}
    (e0 : xOb sh r0 10)
    (k : xG d zm_M_readImage (76, [some (.ref r0), some (.int v1), some (.int v2), some (.int (v3 + (1 : Int32))), some (.int v4), o5, o6, o7], []) (sh, xup I r0 18 ((I r0 18) + (1 : Int32)), J) Q) :
    xG d zm_M_readImage (200, [some (.ref r0), some (.int v1), some (.int v2), some (.int v3), some (.int v4), o5, o6, o7], []) (sh, I, J) Q := by
  exact xG_N 8 (ps := [xOb sh r0 10, xOb sh r0 10]) (f1 := (76, [some (.ref r0), some (.int v1), some (.int v2), some (.int (v3 + (1 : Int32))), some (.int v4), o5, o6, o7], [])) (h1 := (sh, xup I r0 18 ((I r0 18) + (1 : Int32)), J)) rfl ⟨e0, e0⟩ (k)
set_option maxRecDepth 100000 in
theorem s_M_readImage_216 {d : Nat} {Q : xO → xH → Prop} {sh : List xS} {I : Nat → Nat → Int32} {J : Nat → Nat → Int64} {r0 : Nat} {v1 : Int32} {v2 : Int32} {v3 : Int32} {o4 : Option Value} {o5 : Option Value} {o6 : Option Value} {o7 : Option Value}
    (k : Q (.inl (none)) (sh, I, J)) :
    xG d zm_M_readImage (216, [some (.ref r0), some (.int v1), some (.int v2), some (.int v3), o4, o5, o6, o7], []) (sh, I, J) Q := by
  exact xG_Q rfl rfl trivial k
set_option maxRecDepth 100000 in
theorem s_M_blocks_0 {d : Nat} {Q : xO → xH → Prop} {sh : List xS} {I : Nat → Nat → Int32} {J : Nat → Nat → Int64} {v0 : Int32}
    (k : Q (.inl (some (.int ((v0 + (3 : Int32)) / (4 : Int32))))) (sh, I, J)) :
    xG d zm_M_blocks (0, [some (.int v0)], []) (sh, I, J) Q := by
  exact xG_N 5 (ps := [¬ (4 : Int32) = 0]) (f1 := (5, [some (.int v0)], [.int ((v0 + (3 : Int32)) / (4 : Int32))])) (h1 := (sh, I, J)) rfl (show ¬ (4 : Int32) = 0 by decide) (xG_Q rfl rfl trivial k)
set_option maxRecDepth 100000 in
theorem s_M_packed_0 {d : Nat} {Q : xO → xH → Prop} {sh : List xS} {I : Nat → Nat → Int32} {J : Nat → Nat → Int64} {v0 : Int32} {v1 : Int32}
    (k1 : (3 : Int32) ≤ v1 → xG d zm_M_packed (10, [some (.int v0), some (.int v1), none], []) (sh, I, J) Q)
    (k2 : ¬ ((3 : Int32) ≤ v1) → xG d zm_M_packed (5, [some (.int v0), some (.int v1), none], []) (sh, I, J) Q) :
    xG d zm_M_packed (0, [some (.int v0), some (.int v1), none], []) (sh, I, J) Q := by
  exact xG_N 2 (ps := []) (f1 := (2, [some (.int v0), some (.int v1), none], [.int (3 : Int32), .int v1])) (h1 := (sh, I, J)) rfl trivial (xG_B rfl rfl k1 k2)
set_option maxRecDepth 100000 in
theorem s_M_packed_5 {d : Nat} {Q : xO → xH → Prop} {sh : List xS} {I : Nat → Nat → Int32} {J : Nat → Nat → Int64} {v0 : Int32} {v1 : Int32}
    (k : Q (.inl (some (.int (((v0 + (8 : Int32)) - (1 : Int32)) / (8 : Int32))))) (sh, I, J)) :
    xG d zm_M_packed (5, [some (.int v0), some (.int v1), none], []) (sh, I, J) Q := by
  exact xG_N 10 (ps := [¬ (8 : Int32) = 0]) (f1 := (28, [some (.int v0), some (.int v1), some (.int (8 : Int32))], [.int (((v0 + (8 : Int32)) - (1 : Int32)) / (8 : Int32))])) (h1 := (sh, I, J)) rfl (show ¬ (8 : Int32) = 0 by decide) (xG_Q rfl rfl trivial k)
set_option maxRecDepth 100000 in
theorem s_M_packed_10 {d : Nat} {Q : xO → xH → Prop} {sh : List xS} {I : Nat → Nat → Int32} {J : Nat → Nat → Int64} {v0 : Int32} {v1 : Int32}
    (k1 : (5 : Int32) ≤ v1 → xG d zm_M_packed (19, [some (.int v0), some (.int v1), none], []) (sh, I, J) Q)
    (k2 : ¬ ((5 : Int32) ≤ v1) → xG d zm_M_packed (15, [some (.int v0), some (.int v1), none], []) (sh, I, J) Q) :
    xG d zm_M_packed (10, [some (.int v0), some (.int v1), none], []) (sh, I, J) Q := by
  exact xG_N 2 (ps := []) (f1 := (12, [some (.int v0), some (.int v1), none], [.int (5 : Int32), .int v1])) (h1 := (sh, I, J)) rfl trivial (xG_B rfl rfl k1 k2)
set_option maxRecDepth 100000 in
theorem s_M_packed_15 {d : Nat} {Q : xO → xH → Prop} {sh : List xS} {I : Nat → Nat → Int32} {J : Nat → Nat → Int64} {v0 : Int32} {v1 : Int32}
    (k : Q (.inl (some (.int (((v0 + (4 : Int32)) - (1 : Int32)) / (4 : Int32))))) (sh, I, J)) :
    xG d zm_M_packed (15, [some (.int v0), some (.int v1), none], []) (sh, I, J) Q := by
  exact xG_N 10 (ps := [¬ (4 : Int32) = 0]) (f1 := (28, [some (.int v0), some (.int v1), some (.int (4 : Int32))], [.int (((v0 + (4 : Int32)) - (1 : Int32)) / (4 : Int32))])) (h1 := (sh, I, J)) rfl (show ¬ (4 : Int32) = 0 by decide) (xG_Q rfl rfl trivial k)
set_option maxRecDepth 100000 in
theorem s_M_packed_19 {d : Nat} {Q : xO → xH → Prop} {sh : List xS} {I : Nat → Nat → Int32} {J : Nat → Nat → Int64} {v0 : Int32} {v1 : Int32}
    (k : Q (.inl (some (.int (((v0 + (2 : Int32)) - (1 : Int32)) / (2 : Int32))))) (sh, I, J)) :
    xG d zm_M_packed (19, [some (.int v0), some (.int v1), none], []) (sh, I, J) Q := by
  exact xG_N 9 (ps := [¬ (2 : Int32) = 0]) (f1 := (28, [some (.int v0), some (.int v1), some (.int (2 : Int32))], [.int (((v0 + (2 : Int32)) - (1 : Int32)) / (2 : Int32))])) (h1 := (sh, I, J)) rfl (show ¬ (2 : Int32) = 0 by decide) (xG_Q rfl rfl trivial k)
set_option maxRecDepth 100000 in
theorem s_M_hasKind_0 {d : Nat} {Q : xO → xH → Prop} {sh : List xS} {I : Nat → Nat → Int32} {J : Nat → Nat → Int64} {r0 : Nat} {v1 : Int32}
    (k : xG d zm_M_hasKind (4, [some (.ref r0), some (.int v1), some (.int (0 : Int32)), some (.int (0 : Int32))], []) (sh, I, J) Q) :
    xG d zm_M_hasKind (0, [some (.ref r0), some (.int v1), none, none], []) (sh, I, J) Q := by
  exact xG_N 4 (ps := []) (f1 := (4, [some (.ref r0), some (.int v1), some (.int (0 : Int32)), some (.int (0 : Int32))], [])) (h1 := (sh, I, J)) rfl trivial (k)
set_option maxRecDepth 100000 in
theorem s_M_hasKind_4 {d : Nat} {Q : xO → xH → Prop} {sh : List xS} {I : Nat → Nat → Int32} {J : Nat → Nat → Int64} {r0 : Nat} {v1 : Int32} {v2 : Int32} {v3 : Int32}
    (e0 : xOb sh r0 10)
    (k1 : (I r0 22) ≤ v3 → xG d zm_M_hasKind (38, [some (.ref r0), some (.int v1), some (.int v2), some (.int v3)], []) (sh, I, J) Q)
    (k2 : ¬ ((I r0 22) ≤ v3) → xG d zm_M_hasKind (12, [some (.ref r0), some (.int v1), some (.int v2), some (.int v3)], []) (sh, I, J) Q) :
    xG d zm_M_hasKind (4, [some (.ref r0), some (.int v1), some (.int v2), some (.int v3)], []) (sh, I, J) Q := by
  exact xG_N 3 (ps := [xOb sh r0 10]) (f1 := (9, [some (.ref r0), some (.int v1), some (.int v2), some (.int v3)], [.int (I r0 22), .int v3])) (h1 := (sh, I, J)) rfl e0 (xG_B rfl rfl k1 k2)
set_option maxRecDepth 100000 in
theorem s_M_hasKind_12 {d : Nat} {Q : xO → xH → Prop} {sh : List xS} {I : Nat → Nat → Int32} {J : Nat → Nat → Int64} {r0 : Nat} {v1 : Int32} {v2 : Int32} {v3 : Int32}
    (k1 : ¬ v2 = 0 → xG d zm_M_hasKind (26, [some (.ref r0), some (.int v1), some (.int v2), some (.int v3)], []) (sh, I, J) Q)
    (k2 : ¬ (¬ v2 = 0) → xG d zm_M_hasKind (16, [some (.ref r0), some (.int v1), some (.int v2), some (.int v3)], []) (sh, I, J) Q) :
    xG d zm_M_hasKind (12, [some (.ref r0), some (.int v1), some (.int v2), some (.int v3)], []) (sh, I, J) Q := by
  exact xG_N 1 (ps := []) (f1 := (13, [some (.ref r0), some (.int v1), some (.int v2), some (.int v3)], [.int v2])) (h1 := (sh, I, J)) rfl trivial (xG_B rfl rfl k1 k2)
set_option maxRecDepth 100000 in
theorem s_M_hasKind_16 {d : Nat} {Q : xO → xH → Prop} {sh : List xS} {I : Nat → Nat → Int32} {J : Nat → Nat → Int64} {r0 : Nat} {v1 : Int32} {v2 : Int32} {v3 : Int32} {a1 : Nat} {n2 : Nat}
    (e0 : xRr sh r0 10 20 a1)
    (e1 : xAr sh a1 .int n2)
    (e2 : vp_in v3 n2)
    (k1 : ¬ (I a1 v3.toNatClampNeg) = v1 → xG d zm_M_hasKind (30, [some (.ref r0), some (.int v1), some (.int v2), some (.int v3)], []) (sh, I, J) Q)
    (k2 : ¬ (¬ (I a1 v3.toNatClampNeg) = v1) → xG d zm_M_hasKind (26, [some (.ref r0), some (.int v1), some (.int v2), some (.int v3)], []) (sh, I, J) Q) :
    xG d zm_M_hasKind (16, [some (.ref r0), some (.int v1), some (.int v2), some (.int v3)], []) (sh, I, J) Q := by
  obtain rfl := e0.eq
  obtain rfl := e1.eq
  exact xG_N 5 (ps := [xRf sh r0 10 20, xA sh (xrf sh r0 20) .int, vp_in v3 (xlen sh (xrf sh r0 20))]) (f1 := (23, [some (.ref r0), some (.int v1), some (.int v2), some (.int v3)], [.int v1, .int (I (xrf sh r0 20) v3.toNatClampNeg)])) (h1 := (sh, I, J)) rfl ⟨e0.rf, e1.ar, e2⟩ (xG_B rfl rfl k1 k2)
set_option maxRecDepth 100000 in
theorem s_M_hasKind_26 {d : Nat} {Q : xO → xH → Prop} {sh : List xS} {I : Nat → Nat → Int32} {J : Nat → Nat → Int64} {r0 : Nat} {v1 : Int32} {v2 : Int32} {v3 : Int32}
    (k : xG d zm_M_hasKind (4, [some (.ref r0), some (.int v1), some (.int (1 : Int32)), some (.int (v3 + (1 : Int32)))], []) (sh, I, J) Q) :
    xG d zm_M_hasKind (26, [some (.ref r0), some (.int v1), some (.int v2), some (.int v3)], []) (sh, I, J) Q := by
  exact xG_N 5 (ps := []) (f1 := (4, [some (.ref r0), some (.int v1), some (.int (1 : Int32)), some (.int (v3 + (1 : Int32)))], [])) (h1 := (sh, I, J)) rfl trivial (k)
set_option maxRecDepth 100000 in
theorem s_M_hasKind_30 {d : Nat} {Q : xO → xH → Prop} {sh : List xS} {I : Nat → Nat → Int32} {J : Nat → Nat → Int64} {r0 : Nat} {v1 : Int32} {v2 : Int32} {v3 : Int32}
    (k : xG d zm_M_hasKind (4, [some (.ref r0), some (.int v1), some (.int (0 : Int32)), some (.int (v3 + (1 : Int32)))], []) (sh, I, J) Q) :
    xG d zm_M_hasKind (30, [some (.ref r0), some (.int v1), some (.int v2), some (.int v3)], []) (sh, I, J) Q := by
  exact xG_N 4 (ps := []) (f1 := (4, [some (.ref r0), some (.int v1), some (.int (0 : Int32)), some (.int (v3 + (1 : Int32)))], [])) (h1 := (sh, I, J)) rfl trivial (k)
set_option maxRecDepth 100000 in
theorem s_M_hasKind_38 {d : Nat} {Q : xO → xH → Prop} {sh : List xS} {I : Nat → Nat → Int32} {J : Nat → Nat → Int64} {r0 : Nat} {v1 : Int32} {v2 : Int32} {v3 : Int32}
    (kb : v2 = 0 ∨ v2 = 1)
    (k : Q (.inl (some (.int v2))) (sh, I, J)) :
    xG d zm_M_hasKind (38, [some (.ref r0), some (.int v1), some (.int v2), some (.int v3)], []) (sh, I, J) Q := by
  exact xG_N 1 (ps := []) (f1 := (39, [some (.ref r0), some (.int v1), some (.int v2), some (.int v3)], [.int v2])) (h1 := (sh, I, J)) rfl trivial (xG_Q rfl rfl kb k)
set_option maxRecDepth 100000 in
theorem s_M_readTransform_0 {d : Nat} {Q : xO → xH → Prop} {sh : List xS} {I : Nat → Nat → Int32} {J : Nat → Nat → Int64} {r0 : Nat} {v1 : Int32} {v2 : Int32}
    (ko : xOb sh r0 10)
    (k : xg d qM_bits [.ref r0, .int (2 : Int32)] (sh, I, J) (xI (fun v h1 => xG d zm_M_readTransform (5, [some (.ref r0), some (.int v1), some (.int v2), none, none], [.int v]) h1 Q) (fun x h1 => Q (.inr x) h1))) :
    xG d zm_M_readTransform (0, [some (.ref r0), some (.int v1), some (.int v2), none, none], []) (sh, I, J) Q := by
  exact xG_N 2 (ps := []) (f1 := (2, [some (.ref r0), some (.int v1), some (.int v2), none, none], [.int (2 : Int32), .ref r0])) (h1 := (sh, I, J)) rfl trivial (xG_Ci rfl rfl (Nat.le_of_ble_eq_true rfl) (Nat.le_of_ble_eq_true rfl) ⟨_, _, rfl, ko⟩ rfl k)
set_option maxRecDepth 100000 in
theorem s_M_readTransform_5 {d : Nat} {Q : xO → xH → Prop} {sh : List xS} {I : Nat → Nat → Int32} {J : Nat → Nat → Int64} {r0 : Nat} {v1 : Int32} {v2 : Int32} {t0 : Int32}
    (e0 : xOb sh r0 10)
    (k1 : ¬ (I r0 9) = 0 → xG d zm_M_readTransform (22, [some (.ref r0), some (.int v1), some (.int v2), some (.int t0), none], [.ref r0]) (sh, I, J) Q)
    (k2 : ¬ (¬ (I r0 9) = 0) → xG d zm_M_readTransform (14, [some (.ref r0), some (.int v1), some (.int v2), some (.int t0), none], [.ref r0]) (sh, I, J) Q) :
    xG d zm_M_readTransform (5, [some (.ref r0), some (.int v1), some (.int v2), none, none], [.int t0]) (sh, I, J) Q := by
  exact xG_N 4 (ps := [xOb sh r0 10]) (f1 := (11, [some (.ref r0), some (.int v1), some (.int v2), some (.int t0), none], [.int (I r0 9), .ref r0])) (h1 := (sh, I, J)) rfl e0 (xG_B rfl rfl k1 k2)
set_option maxRecDepth 100000 in
theorem s_M_readTransform_14 {d : Nat} {Q : xO → xH → Prop} {sh : List xS} {I : Nat → Nat → Int32} {J : Nat → Nat → Int64} {r0 : Nat} {v1 : Int32} {v2 : Int32} {v3 : Int32} {t0 : Nat}
    (ko : xOb sh r0 10)
    (k : xg d qM_hasKind [.ref r0, .int v3] (sh, I, J) (xI (fun v h1 => xG d zm_M_readTransform (19, [some (.ref r0), some (.int v1), some (.int v2), some (.int v3), none], [.int v, .ref t0]) h1 Q) (fun x h1 => Q (.inr x) h1))) :
    xG d zm_M_readTransform (14, [some (.ref r0), some (.int v1), some (.int v2), some (.int v3), none], [.ref t0]) (sh, I, J) Q := by
  exact xG_N 2 (ps := []) (f1 := (16, [some (.ref r0), some (.int v1), some (.int v2), some (.int v3), none], [.int v3, .ref r0, .ref t0])) (h1 := (sh, I, J)) rfl trivial (xG_Ci rfl rfl (Nat.le_of_ble_eq_true rfl) (Nat.le_of_ble_eq_true rfl) ⟨_, _, rfl, ko⟩ rfl k)
set_option maxRecDepth 100000 in
theorem s_M_readTransform_19 {d : Nat} {Q : xO → xH → Prop} {sh : List xS} {I : Nat → Nat → Int32} {J : Nat → Nat → Int64} {r0 : Nat} {v1 : Int32} {v2 : Int32} {v3 : Int32} {t0 : Nat} {t1 : Int32}
    (k1 : t1 = 0 → xG d zm_M_readTransform (26, [some (.ref r0), some (.int v1), some (.int v2), some (.int v3), none], [.ref t0]) (sh, I, J) Q)
    (k2 : ¬ (t1 = 0) → xG d zm_M_readTransform (22, [some (.ref r0), some (.int v1), some (.int v2), some (.int v3), none], [.ref t0]) (sh, I, J) Q) :
    xG d zm_M_readTransform (19, [some (.ref r0), some (.int v1), some (.int v2), some (.int v3), none], [.int t1, .ref t0]) (sh, I, J) Q := by
  exact xG_B rfl rfl k1 k2
set_option maxRecDepth 100000 in
theorem s_M_readTransform_22 {d : Nat} {Q : xO → xH → Prop} {sh : List xS} {I : Nat → Nat → Int32} {J : Nat → Nat → Int64} {r0 : Nat} {v1 : Int32} {v2 : Int32} {v3 : Int32} {t0 : Nat}
    (e0 : xOb sh t0 10)
    (e1 : xOb sh r0 10)
    (k1 : ((xup I t0 9 (1 : Int32)) r0 9) = 0 → xG d zm_M_readTransform (39, [some (.ref r0), some (.int v1), some (.int v2), some (.int v3), none], []) (sh, xup I t0 9 (1 : Int32), J) Q)
    (k2 : ¬ (((xup I t0 9 (1 : Int32)) r0 9) = 0) → xG d zm_M_readTransform (37, [some (.ref r0), some (.int v1), some (.int v2), some (.int v3), none], []) (sh, xup I t0 9 (1 : Int32), J) Q) :
    xG d zm_M_readTransform (22, [some (.ref r0), some (.int v1), some (.int v2), some (.int v3), none], [.ref t0]) (sh, I, J) Q := by
  exact xG_N 5 (ps := [xOb sh t0 10, ((1 : Int32) : Int32) = 0 ∨ ((1 : Int32) : Int32) = 1, xOb sh r0 10]) (f1 := (34, [some (.ref r0), some (.int v1), some (.int v2), some (.int v3), none], [.int ((xup I t0 9 (1 : Int32)) r0 9)])) (h1 := (sh, xup I t0 9 (1 : Int32), J)) rfl ⟨e0, (show ((1 : Int32) : Int32) = 0 ∨ ((1 : Int32) : Int32) = 1 by decide), e1⟩ (xG_B rfl rfl k1 k2)
set_option maxRecDepth 100000 in
theorem s_M_readTransform_26 {d : Nat} {Q : xO → xH → Prop} {sh : List xS} {I : Nat → Nat → Int32} {J : Nat → Nat → Int64} {r0 : Nat} {v1 : Int32} {v2 : Int32} {v3 : Int32} {t0 : Nat}
    (e0 : xOb sh t0 10)
    (e1 : xOb sh r0 10)
    (k1 : ((xup I t0 9 (0 : Int32)) r0 9) = 0 → xG d zm_M_readTransform (39, [some (.ref r0), some (.int v1), some (.int v2), some (.int v3), none], []) (sh, xup I t0 9 (0 : Int32), J) Q)
    (k2 : ¬ (((xup I t0 9 (0 : Int32)) r0 9) = 0) → xG d zm_M_readTransform (37, [some (.ref r0), some (.int v1), some (.int v2), some (.int v3), none], []) (sh, xup I t0 9 (0 : Int32), J) Q) :
    xG d zm_M_readTransform (26, [some (.ref r0), some (.int v1), some (.int v2), some (.int v3), none], [.ref t0]) (sh, I, J) Q := by
  exact xG_N 4 (ps := [xOb sh t0 10, ((0 : Int32) : Int32) = 0 ∨ ((0 : Int32) : Int32) = 1, xOb sh r0 10]) (f1 := (34, [some (.ref r0), some (.int v1), some (.int v2), some (.int v3), none], [.int ((xup I t0 9 (0 : Int32)) r0 9)])) (h1 := (sh, xup I t0 9 (0 : Int32), J)) rfl ⟨e0, (show ((0 : Int32) : Int32) = 0 ∨ ((0 : Int32) : Int32) = 1 by decide), e1⟩ (xG_B rfl rfl k1 k2)
set_option maxRecDepth 100000 in
theorem s_M_readTransform_37 {d : Nat} {Q : xO → xH → Prop} {sh : List xS} {I : Nat → Nat → Int32} {J : Nat → Nat → Int64} {r0 : Nat} {v1 : Int32} {v2 : Int32} {v3 : Int32}
    (k : Q (.inl (some (.int v1))) (sh, I, J)) :
    xG d zm_M_readTransform (37, [some (.ref r0), some (.int v1), some (.int v2), some (.int v3), none], []) (sh, I, J) Q := by
  exact xG_N 1 (ps := []) (f1 := (38, [some (.ref r0), some (.int v1), some (.int v2), some (.int v3), none], [.int v1])) (h1 := (sh, I, J)) rfl trivial (xG_Q rfl rfl trivial k)
set_option maxRecDepth 100000 in
theorem s_M_readTransform_39 {d : Nat} {Q : xO → xH → Prop} {sh : List xS} {I : Nat → Nat → Int32} {J : Nat → Nat → Int64} {r0 : Nat} {v1 : Int32} {v2 : Int32} {v3 : Int32} {a1 : Nat} {n2 : Nat} {a3 : Nat} {n4 : Nat}
    (e0 : xRr sh r0 10 20 a1)
    (e1 : xAr sh a1 .int n2)
    (e2 : 4 ≤ a1)
    (e3 : vp_in (I r0 22) n2)
    (e4 : xRr sh r0 10 21 a3)
    (e5 : xAr sh a3 .int n4)
    (e6 : 4 ≤ a3)
    (e7 : vp_in ((xup I a1 (I r0 22).toNatClampNeg v3) r0 22) n4)
    (k1 : (2 : Int32) ≤ v3 → xG d zm_M_readTransform (176, [some (.ref r0), some (.int v1), some (.int v2), some (.int v3), none], []) (sh, xup (xup (xup I a1 (I r0 22).toNatClampNeg v3) a3 ((xup I a1 (I r0 22).toNatClampNeg v3) r0 22).toNatClampNeg v1) r0 22 (((xup (xup I a1 (I r0 22).toNatClampNeg v3) a3 ((xup I a1 (I r0 22).toNatClampNeg v3) r0 22).toNatClampNeg v1) r0 22) + (1 : Int32)), J) Q)
    (k2 : ¬ ((2 : Int32) ≤ v3) → xG d zm_M_readTransform (74, [some (.ref r0), some (.int v1), some (.int v2), some (.int v3), none], []) (sh, xup (xup (xup I a1 (I r0 22).toNatClampNeg v3) a3 ((xup I a1 (I r0 22).toNatClampNeg v3) r0 22).toNatClampNeg v1) r0 22 (((xup (xup I a1 (I r0 22).toNatClampNeg v3) a3 ((xup I a1 (I r0 22).toNatClampNeg v3) r0 22).toNatClampNeg v1) r0 22) + (1 : Int32)), J) Q) :
    xG d zm_M_readTransform (39, [some (.ref r0), some (.int v1), some (.int v2), some (.int v3), none], []) (sh, I, J) Q := by
  obtain rfl := e0.eq
  obtain rfl := e1.eq
  obtain rfl := e4.eq
  obtain rfl := e5.eq
  exact xG_N 20 (ps := [xRf sh r0 10 20, xOb sh r0 10, xW sh (xrf sh r0 20) .int, vp_in (I r0 22) (xlen sh (xrf sh r0 20)), xRf sh r0 10 21, xOb sh r0 10, xW sh (xrf sh r0 21) .int, vp_in ((xup I (xrf sh r0 20) (I r0 22).toNatClampNeg v3) r0 22) (xlen sh (xrf sh r0 21)), xOb sh r0 10, xOb sh r0 10]) (f1 := (71, [some (.ref r0), some (.int v1), some (.int v2), some (.int v3), none], [.int (2 : Int32), .int v3])) (h1 := (sh, xup (xup (xup I (xrf sh r0 20) (I r0 22).toNatClampNeg v3) (xrf sh r0 21) ((xup I (xrf sh r0 20) (I r0 22).toNatClampNeg v3) r0 22).toNatClampNeg v1) r0 22 (((xup (xup I (xrf sh r0 20) (I r0 22).toNatClampNeg v3) (xrf sh r0 21) ((xup I (xrf sh r0 20) (I r0 22).toNatClampNeg v3) r0 22).toNatClampNeg v1) r0 22) + (1 : Int32)), J)) rfl ⟨e0.rf, e0.ob, ⟨e1.ar, e2⟩, e3, e4.rf, e0.ob, ⟨e5.ar, e6⟩, e7, e0.ob, e0.ob⟩ (xG_B rfl rfl k1 k2)
set_option maxRecDepth 100000 in
theorem s_M_readTransform_74 {d : Nat} {Q : xO → xH → Prop} {sh : List xS} {I : Nat → Nat → Int32} {J : Nat → Nat → Int64} {r0 : Nat} {v1 : Int32} {v2 : Int32} {v3 : Int32}
    (k : xg d qM_blocks [.int v1] (sh, I, J) (xI (fun v h1 => xG d zm_M_readTransform (79, [some (.ref r0), some (.int v1), some (.int v2), some (.int v3), none], [.int v, .ref r0]) h1 Q) (fun x h1 => Q (.inr x) h1))) :
    xG d zm_M_readTransform (74, [some (.ref r0), some (.int v1), some (.int v2), some (.int v3), none], []) (sh, I, J) Q := by
  exact xG_N 2 (ps := []) (f1 := (76, [some (.ref r0), some (.int v1), some (.int v2), some (.int v3), none], [.int v1, .ref r0])) (h1 := (sh, I, J)) rfl trivial (xG_Ci rfl rfl (Nat.le_of_ble_eq_true rfl) (Nat.le_of_ble_eq_true rfl) trivial rfl k)
set_option maxRecDepth 100000 in
theorem s_M_readTransform_79 {d : Nat} {Q : xO → xH → Prop} {sh : List xS} {I : Nat → Nat → Int32} {J : Nat → Nat → Int64} {r0 : Nat} {v1 : Int32} {v2 : Int32} {v3 : Int32} {t0 : Nat} {t1 : Int32}
    (k : xg d qM_blocks [.int v2] (sh, I, J) (xI (fun v h1 => xG d zm_M_readTransform (83, [some (.ref r0), some (.int v1), some (.int v2), some (.int v3), none], [.int v, .int t1, .ref t0]) h1 Q) (fun x h1 => Q (.inr x) h1))) :
    xG d zm_M_readTransform (79, [some (.ref r0), some (.int v1), some (.int v2), some (.int v3), none], [.int t1, .ref t0]) (sh, I, J) Q := by
  exact xG_N 1 (ps := []) (f1 := (80, [some (.ref r0), some (.int v1), some (.int v2), some (.int v3), none], [.int v2, .int t1, .ref t0])) (h1 := (sh, I, J)) rfl trivial (xG_Ci rfl rfl (Nat.le_of_ble_eq_true rfl) (Nat.le_of_ble_eq_true rfl) trivial rfl k)
set_option maxRecDepth 100000 in
theorem s_M_readTransform_83 {d : Nat} {Q : xO → xH → Prop} {sh : List xS} {I : Nat → Nat → Int32} {J : Nat → Nat → Int64} {r0 : Nat} {v1 : Int32} {v2 : Int32} {v3 : Int32} {t0 : Nat} {t1 : Int32} {t2 : Int32}
    (ko : xOb sh t0 10)
    (k : xg d qM_readImage [.ref t0, .int t1, .int t2] (sh, I, J) (xU (fun h1 => xG d zm_M_readTransform (86, [some (.ref r0), some (.int v1), some (.int v2), some (.int v3), none], []) h1 Q) (fun x h1 => Q (.inr x) h1))) :
    xG d zm_M_readTransform (83, [some (.ref r0), some (.int v1), some (.int v2), some (.int v3), none], [.int t2, .int t1, .ref t0]) (sh, I, J) Q := by
  exact xG_Cu rfl rfl (Nat.le_of_ble_eq_true rfl) (Nat.le_of_ble_eq_true rfl) ⟨_, _, rfl, ko⟩ rfl k
set_option maxRecDepth 100000 in
theorem s_M_readTransform_86 {d : Nat} {Q : xO → xH → Prop} {sh : List xS} {I : Nat → Nat → Int32} {J : Nat → Nat → Int64} {r0 : Nat} {v1 : Int32} {v2 : Int32} {v3 : Int32}
    (k : xG d zm_M_readTransform (89, [some (.ref r0), some (.int v1), some (.int v2), some (.int v3), some (.int (0 : Int32))], []) (sh, I, J) Q) :
    xG d zm_M_readTransform (86, [some (.ref r0), some (.int v1), some (.int v2), some (.int v3), none], []) (sh, I, J) Q := by
  exact xG_N 2 (ps := []) (f1 := (89, [some (.ref r0), some (.int v1), some (.int v2), some (.int v3), some (.int (0 : Int32))], [])) (h1 := (sh, I, J)) rfl trivial (k)
set_option maxRecDepth 100000 in
theorem s_M_readTransform_89 {d : Nat} {Q : xO → xH → Prop} {sh : List xS} {I : Nat → Nat → Int32} {J : Nat → Nat → Int64} {r0 : Nat} {v1 : Int32} {v2 : Int32} {v3 : Int32} {v4 : Int32}
    (k : xg d qM_blocks [.int v1] (sh, I, J) (xI (fun v h1 => xG d zm_M_readTransform (95, [some (.ref r0), some (.int v1), some (.int v2), some (.int v3), some (.int v4)], [.int v, .int v4]) h1 Q) (fun x h1 => Q (.inr x) h1))) :
    xG d zm_M_readTransform (89, [some (.ref r0), some (.int v1), some (.int v2), some (.int v3), some (.int v4)], []) (sh, I, J) Q := by
  exact xG_N 2 (ps := []) (f1 := (92, [some (.ref r0), some (.int v1), some (.int v2), some (.int v3), some (.int v4)], [.int v1, .int v4])) (h1 := (sh, I, J)) rfl trivial (xG_Ci rfl rfl (Nat.le_of_ble_eq_true rfl) (Nat.le_of_ble_eq_true rfl) trivial rfl k)
set_option maxRecDepth 100000 in
theorem s_M_readTransform_95 {d : Nat} {Q : xO → xH → Prop} {sh : List xS} {I : Nat → Nat → Int32} {J : Nat → Nat → Int64} {r0 : Nat} {v1 : Int32} {v2 : Int32} {v3 : Int32} {v4 : Int32} {t0 : Int32} {t1 : Int32}
    (k : xg d qM_blocks [.int v2] (sh, I, J) (xI (fun v h1 => xG d zm_M_readTransform (99, [some (.ref r0), some (.int v1), some (.int v2), some (.int v3), some (.int v4)], [.int v, .int t1, .int t0]) h1 Q) (fun x h1 => Q (.inr x) h1))) :
    xG d zm_M_readTransform (95, [some (.ref r0), some (.int v1), some (.int v2), some (.int v3), some (.int v4)], [.int t1, .int t0]) (sh, I, J) Q := by
  exact xG_N 1 (ps := []) (f1 := (96, [some (.ref r0), some (.int v1), some (.int v2), some (.int v3), some (.int v4)], [.int v2, .int t1, .int t0])) (h1 := (sh, I, J)) rfl trivial (xG_Ci rfl rfl (Nat.le_of_ble_eq_true rfl) (Nat.le_of_ble_eq_true rfl) trivial rfl k)
set_option maxRecDepth 100000 in
theorem s_M_readTransform_99 {d : Nat} {Q : xO → xH → Prop} {sh : List xS} {I : Nat → Nat → Int32} {J : Nat → Nat → Int64} {r0 : Nat} {v1 : Int32} {v2 : Int32} {v3 : Int32} {v4 : Int32} {t0 : Int32} {t1 : Int32} {t2 : Int32}
    (k1 : (t1 * t2) ≤ t0 → xG d zm_M_readTransform (173, [some (.ref r0), some (.int v1), some (.int v2), some (.int v3), some (.int v4)], []) (sh, I, J) Q)
    (k2 : ¬ ((t1 * t2) ≤ t0) → xG d zm_M_readTransform (103, [some (.ref r0), some (.int v1), some (.int v2), some (.int v3), some (.int v4)], []) (sh, I, J) Q) :
    xG d zm_M_readTransform (99, [some (.ref r0), some (.int v1), some (.int v2), some (.int v3), some (.int v4)], [.int t2, .int t1, .int t0]) (sh, I, J) Q := by
  exact xG_N 1 (ps := []) (f1 := (100, [some (.ref r0), some (.int v1), some (.int v2), some (.int v3), some (.int v4)], [.int (t1 * t2), .int t0])) (h1 := (sh, I, J)) rfl trivial (xG_B rfl rfl k1 k2)
set_option maxRecDepth 100000 in
theorem s_M_readTransform_103 {d : Nat} {Q : xO → xH → Prop} {sh : List xS} {I : Nat → Nat → Int32} {J : Nat → Nat → Int64} {r0 : Nat} {v1 : Int32} {v2 : Int32} {v3 : Int32} {v4 : Int32} {a1 : Nat}
    (e0 : xRr sh r0 10 23 a1)
    (k1 : ¬ v3 = 0 → xG d zm_M_readTransform (130, [some (.ref r0), some (.int v1), some (.int v2), some (.int v3), some (.int v4)], [.int v4, .ref a1]) (sh, I, J) Q)
    (k2 : ¬ (¬ v3 = 0) → xG d zm_M_readTransform (113, [some (.ref r0), some (.int v1), some (.int v2), some (.int v3), some (.int v4)], [.int v4, .ref a1]) (sh, I, J) Q) :
    xG d zm_M_readTransform (103, [some (.ref r0), some (.int v1), some (.int v2), some (.int v3), some (.int v4)], []) (sh, I, J) Q := by
  obtain rfl := e0.eq
  exact xG_N 4 (ps := [xRf sh r0 10 23]) (f1 := (110, [some (.ref r0), some (.int v1), some (.int v2), some (.int v3), some (.int v4)], [.int v3, .int v4, .ref (xrf sh r0 23)])) (h1 := (sh, I, J)) rfl e0.rf (xG_B rfl rfl k1 k2)
set_option maxRecDepth 100000 in
theorem s_M_readTransform_113 {d : Nat} {Q : xO → xH → Prop} {sh : List xS} {I : Nat → Nat → Int32} {J : Nat → Nat → Int64} {r0 : Nat} {v1 : Int32} {v2 : Int32} {v3 : Int32} {v4 : Int32} {t0 : Nat} {t1 : Int32} {a1 : Nat} {n2 : Nat}
    (e0 : xRr sh r0 10 14 a1)
    (e1 : xAr sh a1 .int n2)
    (e2 : vp_in v4 n2)
    (k : xg d qM_part [.int (I a1 v4.toNatClampNeg), .int (1 : Int32)] (sh, I, J) (xI (fun v h1 => xG d zm_M_readTransform (124, [some (.ref r0), some (.int v1), some (.int v2), some (.int v3), some (.int v4)], [.int v, .int t1, .ref t0]) h1 Q) (fun x h1 => Q (.inr x) h1))) :
    xG d zm_M_readTransform (113, [some (.ref r0), some (.int v1), some (.int v2), some (.int v3), some (.int v4)], [.int t1, .ref t0]) (sh, I, J) Q := by
  obtain rfl := e0.eq
  obtain rfl := e1.eq
  exact xG_N 5 (ps := [xRf sh r0 10 14, xA sh (xrf sh r0 14) .int, vp_in v4 (xlen sh (xrf sh r0 14))]) (f1 := (121, [some (.ref r0), some (.int v1), some (.int v2), some (.int v3), some (.int v4)], [.int (1 : Int32), .int (I (xrf sh r0 14) v4.toNatClampNeg), .int t1, .ref t0])) (h1 := (sh, I, J)) rfl ⟨e0.rf, e1.ar, e2⟩ (xG_Ci rfl rfl (Nat.le_of_ble_eq_true rfl) (Nat.le_of_ble_eq_true rfl) trivial rfl k)
set_option maxRecDepth 100000 in
theorem s_M_readTransform_124 {d : Nat} {Q : xO → xH → Prop} {sh : List xS} {I : Nat → Nat → Int32} {J : Nat → Nat → Int64} {r0 : Nat} {v1 : Int32} {v2 : Int32} {v3 : Int32} {v4 : Int32} {t0 : Nat} {t1 : Int32} {t2 : Int32} {n1 : Nat} {a2 : Nat}
    (e0 : xAr sh t0 .int n1)
    (e1 : 4 ≤ t0)
    (e2 : vp_in t1 n1)
    (e3 : xRr sh r0 10 24 a2)
    (k1 : ¬ v3 = (1 : Int32) → xG d zm_M_readTransform (159, [some (.ref r0), some (.int v1), some (.int v2), some (.int v3), some (.int v4)], [.int v4, .ref a2]) (sh, xup I t0 t1.toNatClampNeg (t2 - t2 / (16 : Int32) * (16 : Int32)), J) Q)
    (k2 : ¬ (¬ v3 = (1 : Int32)) → xG d zm_M_readTransform (149, [some (.ref r0), some (.int v1), some (.int v2), some (.int v3), some (.int v4)], [.int v4, .ref a2]) (sh, xup I t0 t1.toNatClampNeg (t2 - t2 / (16 : Int32) * (16 : Int32)), J) Q) :
    xG d zm_M_readTransform (124, [some (.ref r0), some (.int v1), some (.int v2), some (.int v3), some (.int v4)], [.int t2, .int t1, .ref t0]) (sh, I, J) Q := by
  obtain rfl := e0.eq
  obtain rfl := e3.eq
  exact xG_N 9 (ps := [¬ (16 : Int32) = 0, xW sh t0 .int, vp_in t1 (xlen sh t0), xRf sh r0 10 24]) (f1 := (146, [some (.ref r0), some (.int v1), some (.int v2), some (.int v3), some (.int v4)], [.int (1 : Int32), .int v3, .int v4, .ref (xrf sh r0 24)])) (h1 := (sh, xup I t0 t1.toNatClampNeg (t2 - t2 / (16 : Int32) * (16 : Int32)), J)) rfl ⟨(show ¬ (16 : Int32) = 0 by decide), ⟨e0.ar, e1⟩, e2, e3.rf⟩ (xG_B rfl rfl k1 k2)
set_option maxRecDepth 100000 in
theorem s_M_readTransform_130 {d : Nat} {Q : xO → xH → Prop} {sh : List xS} {I : Nat → Nat → Int32} {J : Nat → Nat → Int64} {r0 : Nat} {v1 : Int32} {v2 : Int32} {v3 : Int32} {v4 : Int32} {t0 : Nat} {t1 : Int32} {a1 : Nat} {n2 : Nat} {n3 : Nat} {a4 : Nat}
    (e0 : xRr sh r0 10 23 a1)
    (e1 : xAr sh a1 .int n2)
    (e2 : vp_in v4 n2)
    (e3 : xAr sh t0 .int n3)
    (e4 : 4 ≤ t0)
    (e5 : vp_in t1 n3)
    (e6 : xRr sh r0 10 24 a4)
    (k1 : ¬ v3 = (1 : Int32) → xG d zm_M_readTransform (159, [some (.ref r0), some (.int v1), some (.int v2), some (.int v3), some (.int v4)], [.int v4, .ref a4]) (sh, xup I t0 t1.toNatClampNeg (I a1 v4.toNatClampNeg), J) Q)
    (k2 : ¬ (¬ v3 = (1 : Int32)) → xG d zm_M_readTransform (149, [some (.ref r0), some (.int v1), some (.int v2), some (.int v3), some (.int v4)], [.int v4, .ref a4]) (sh, xup I t0 t1.toNatClampNeg (I a1 v4.toNatClampNeg), J) Q) :
    xG d zm_M_readTransform (130, [some (.ref r0), some (.int v1), some (.int v2), some (.int v3), some (.int v4)], [.int t1, .ref t0]) (sh, I, J) Q := by
  obtain rfl := e0.eq
  obtain rfl := e1.eq
  obtain rfl := e3.eq
  obtain rfl := e6.eq
  exact xG_N 10 (ps := [xRf sh r0 10 23, xA sh (xrf sh r0 23) .int, vp_in v4 (xlen sh (xrf sh r0 23)), xW sh t0 .int, vp_in t1 (xlen sh t0), xRf sh r0 10 24]) (f1 := (146, [some (.ref r0), some (.int v1), some (.int v2), some (.int v3), some (.int v4)], [.int (1 : Int32), .int v3, .int v4, .ref (xrf sh r0 24)])) (h1 := (sh, xup I t0 t1.toNatClampNeg (I (xrf sh r0 23) v4.toNatClampNeg), J)) rfl ⟨e0.rf, e1.ar, e2, ⟨e3.ar, e4⟩, e5, e6.rf⟩ (xG_B rfl rfl k1 k2)
set_option maxRecDepth 100000 in
theorem s_M_readTransform_149 {d : Nat} {Q : xO → xH → Prop} {sh : List xS} {I : Nat → Nat → Int32} {J : Nat → Nat → Int64} {r0 : Nat} {v1 : Int32} {v2 : Int32} {v3 : Int32} {v4 : Int32} {t0 : Nat} {t1 : Int32} {a1 : Nat} {n2 : Nat} {n3 : Nat}
    (e0 : xRr sh r0 10 14 a1)
    (e1 : xAr sh a1 .int n2)
    (e2 : vp_in v4 n2)
    (e3 : xAr sh t0 .int n3)
    (e4 : 4 ≤ t0)
    (e5 : vp_in t1 n3)
    (k : xG d zm_M_readTransform (89, [some (.ref r0), some (.int v1), some (.int v2), some (.int v3), some (.int (v4 + (1 : Int32)))], []) (sh, xup I t0 t1.toNatClampNeg (I a1 v4.toNatClampNeg), J) Q) :
    xG d zm_M_readTransform (149, [some (.ref r0), some (.int v1), some (.int v2), some (.int v3), some (.int v4)], [.int t1, .ref t0]) (sh, I, J) Q := by
  obtain rfl := e0.eq
  obtain rfl := e1.eq
  obtain rfl := e3.eq
  exact xG_N 8 (ps := [xRf sh r0 10 14, xA sh (xrf sh r0 14) .int, vp_in v4 (xlen sh (xrf sh r0 14)), xW sh t0 .int, vp_in t1 (xlen sh t0)]) (f1 := (89, [some (.ref r0), some (.int v1), some (.int v2), some (.int v3), some (.int (v4 + (1 : Int32)))], [])) (h1 := (sh, xup I t0 t1.toNatClampNeg (I (xrf sh r0 14) v4.toNatClampNeg), J)) rfl ⟨e0.rf, e1.ar, e2, ⟨e3.ar, e4⟩, e5⟩ (k)
set_option maxRecDepth 100000 in
theorem s_M_readTransform_159 {d : Nat} {Q : xO → xH → Prop} {sh : List xS} {I : Nat → Nat → Int32} {J : Nat → Nat → Int64} {r0 : Nat} {v1 : Int32} {v2 : Int32} {v3 : Int32} {v4 : Int32} {t0 : Nat} {t1 : Int32} {a1 : Nat} {n2 : Nat} {n3 : Nat}
    (e0 : xRr sh r0 10 24 a1)
    (e1 : xAr sh a1 .int n2)
    (e2 : vp_in v4 n2)
    (e3 : xAr sh t0 .int n3)
    (e4 : 4 ≤ t0)
    (e5 : vp_in t1 n3)
    (k : xG d zm_M_readTransform (89, [some (.ref r0), some (.int v1), some (.int v2), some (.int v3), some (.int (v4 + (1 : Int32)))], []) (sh, xup I t0 t1.toNatClampNeg (I a1 v4.toNatClampNeg), J) Q) :
    xG d zm_M_readTransform (159, [some (.ref r0), some (.int v1), some (.int v2), some (.int v3), some (.int v4)], [.int t1, .ref t0]) (sh, I, J) Q := by
  obtain rfl := e0.eq
  obtain rfl := e1.eq
  obtain rfl := e3.eq
  exact xG_N 7 (ps := [xRf sh r0 10 24, xA sh (xrf sh r0 24) .int, vp_in v4 (xlen sh (xrf sh r0 24)), xW sh t0 .int, vp_in t1 (xlen sh t0)]) (f1 := (89, [some (.ref r0), some (.int v1), some (.int v2), some (.int v3), some (.int (v4 + (1 : Int32)))], [])) (h1 := (sh, xup I t0 t1.toNatClampNeg (I (xrf sh r0 24) v4.toNatClampNeg), J)) rfl ⟨e0.rf, e1.ar, e2, ⟨e3.ar, e4⟩, e5⟩ (k)
set_option maxRecDepth 100000 in
theorem s_M_readTransform_173 {d : Nat} {Q : xO → xH → Prop} {sh : List xS} {I : Nat → Nat → Int32} {J : Nat → Nat → Int64} {r0 : Nat} {v1 : Int32} {v2 : Int32} {v3 : Int32} {v4 : Int32}
    (k : Q (.inl (some (.int v1))) (sh, I, J)) :
    xG d zm_M_readTransform (173, [some (.ref r0), some (.int v1), some (.int v2), some (.int v3), some (.int v4)], []) (sh, I, J) Q := by
  exact xG_N 2 (ps := []) (f1 := (269, [some (.ref r0), some (.int v1), some (.int v2), some (.int v3), some (.int v4)], [.int v1])) (h1 := (sh, I, J)) rfl trivial (xG_Q rfl rfl trivial k)
set_option maxRecDepth 100000 in
theorem s_M_readTransform_176 {d : Nat} {Q : xO → xH → Prop} {sh : List xS} {I : Nat → Nat → Int32} {J : Nat → Nat → Int64} {r0 : Nat} {v1 : Int32} {v2 : Int32} {v3 : Int32}
    (k1 : ¬ v3 = (3 : Int32) → xG d zm_M_readTransform (268, [some (.ref r0), some (.int v1), some (.int v2), some (.int v3), none], []) (sh, I, J) Q)
    (k2 : ¬ (¬ v3 = (3 : Int32)) → xG d zm_M_readTransform (181, [some (.ref r0), some (.int v1), some (.int v2), some (.int v3), none], []) (sh, I, J) Q) :
    xG d zm_M_readTransform (176, [some (.ref r0), some (.int v1), some (.int v2), some (.int v3), none], []) (sh, I, J) Q := by
  exact xG_N 2 (ps := []) (f1 := (178, [some (.ref r0), some (.int v1), some (.int v2), some (.int v3), none], [.int (3 : Int32), .int v3])) (h1 := (sh, I, J)) rfl trivial (xG_B rfl rfl k1 k2)
set_option maxRecDepth 100000 in
theorem s_M_readTransform_181 {d : Nat} {Q : xO → xH → Prop} {sh : List xS} {I : Nat → Nat → Int32} {J : Nat → Nat → Int64} {r0 : Nat} {v1 : Int32} {v2 : Int32} {v3 : Int32}
    (ko : xOb sh r0 10)
    (k : xg d qM_bits [.ref r0, .int (4 : Int32)] (sh, I, J) (xI (fun v h1 => xG d zm_M_readTransform (187, [some (.ref r0), some (.int v1), some (.int v2), some (.int v3), none], [.int v, .ref r0]) h1 Q) (fun x h1 => Q (.inr x) h1))) :
    xG d zm_M_readTransform (181, [some (.ref r0), some (.int v1), some (.int v2), some (.int v3), none], []) (sh, I, J) Q := by
  exact xG_N 3 (ps := []) (f1 := (184, [some (.ref r0), some (.int v1), some (.int v2), some (.int v3), none], [.int (4 : Int32), .ref r0, .ref r0])) (h1 := (sh, I, J)) rfl trivial (xG_Ci rfl rfl (Nat.le_of_ble_eq_true rfl) (Nat.le_of_ble_eq_true rfl) ⟨_, _, rfl, ko⟩ rfl k)
set_option maxRecDepth 100000 in
theorem s_M_readTransform_187 {d : Nat} {Q : xO → xH → Prop} {sh : List xS} {I : Nat → Nat → Int32} {J : Nat → Nat → Int64} {r0 : Nat} {v1 : Int32} {v2 : Int32} {v3 : Int32} {t0 : Nat} {t1 : Int32}
    (e0 : xOb sh t0 10)
    (e1 : xOb sh r0 10)
    (k : xg d qM_readImage [.ref r0, .int ((xup I t0 26 (t1 + (1 : Int32))) r0 26), .int (1 : Int32)] (sh, xup I t0 26 (t1 + (1 : Int32)), J) (xU (fun h1 => xG d zm_M_readTransform (201, [some (.ref r0), some (.int v1), some (.int v2), some (.int v3), none], []) h1 Q) (fun x h1 => Q (.inr x) h1))) :
    xG d zm_M_readTransform (187, [some (.ref r0), some (.int v1), some (.int v2), some (.int v3), none], [.int t1, .ref t0]) (sh, I, J) Q := by
  exact xG_N 7 (ps := [xOb sh t0 10, xOb sh r0 10]) (f1 := (198, [some (.ref r0), some (.int v1), some (.int v2), some (.int v3), none], [.int (1 : Int32), .int ((xup I t0 26 (t1 + (1 : Int32))) r0 26), .ref r0])) (h1 := (sh, xup I t0 26 (t1 + (1 : Int32)), J)) rfl ⟨e0, e1⟩ (xG_Cu rfl rfl (Nat.le_of_ble_eq_true rfl) (Nat.le_of_ble_eq_true rfl) ⟨_, _, rfl, e1⟩ rfl k)
set_option maxRecDepth 100000 in
theorem s_M_readTransform_201 {d : Nat} {Q : xO → xH → Prop} {sh : List xS} {I : Nat → Nat → Int32} {J : Nat → Nat → Int64} {r0 : Nat} {v1 : Int32} {v2 : Int32} {v3 : Int32}
    (k : xG d zm_M_readTransform (204, [some (.ref r0), some (.int v1), some (.int v2), some (.int v3), some (.int (0 : Int32))], []) (sh, I, J) Q) :
    xG d zm_M_readTransform (201, [some (.ref r0), some (.int v1), some (.int v2), some (.int v3), none], []) (sh, I, J) Q := by
  exact xG_N 2 (ps := []) (f1 := (204, [some (.ref r0), some (.int v1), some (.int v2), some (.int v3), some (.int (0 : Int32))], [])) (h1 := (sh, I, J)) rfl trivial (k)
set_option maxRecDepth 100000 in
theorem s_M_readTransform_204 {d : Nat} {Q : xO → xH → Prop} {sh : List xS} {I : Nat → Nat → Int32} {J : Nat → Nat → Int64} {r0 : Nat} {v1 : Int32} {v2 : Int32} {v3 : Int32} {v4 : Int32}
    (e0 : xOb sh r0 10)
    (k1 : (I r0 26) ≤ v4 → xG d zm_M_readTransform (259, [some (.ref r0), some (.int v1), some (.int v2), some (.int v3), some (.int v4)], []) (sh, I, J) Q)
    (k2 : ¬ ((I r0 26) ≤ v4) → xG d zm_M_readTransform (213, [some (.ref r0), some (.int v1), some (.int v2), some (.int v3), some (.int v4)], []) (sh, I, J) Q) :
    xG d zm_M_readTransform (204, [some (.ref r0), some (.int v1), some (.int v2), some (.int v3), some (.int v4)], []) (sh, I, J) Q := by
  exact xG_N 3 (ps := [xOb sh r0 10]) (f1 := (210, [some (.ref r0), some (.int v1), some (.int v2), some (.int v3), some (.int v4)], [.int (I r0 26), .int v4])) (h1 := (sh, I, J)) rfl e0 (xG_B rfl rfl k1 k2)
set_option maxRecDepth 100000 in
theorem s_M_readTransform_213 {d : Nat} {Q : xO → xH → Prop} {sh : List xS} {I : Nat → Nat → Int32} {J : Nat → Nat → Int64} {r0 : Nat} {v1 : Int32} {v2 : Int32} {v3 : Int32} {v4 : Int32} {a1 : Nat}
    (e0 : xRr sh r0 10 25 a1)
    (k1 : ¬ v4 = 0 → xG d zm_M_readTransform (233, [some (.ref r0), some (.int v1), some (.int v2), some (.int v3), some (.int v4)], [.int v4, .ref a1]) (sh, I, J) Q)
    (k2 : ¬ (¬ v4 = 0) → xG d zm_M_readTransform (224, [some (.ref r0), some (.int v1), some (.int v2), some (.int v3), some (.int v4)], [.int v4, .ref a1]) (sh, I, J) Q) :
    xG d zm_M_readTransform (213, [some (.ref r0), some (.int v1), some (.int v2), some (.int v3), some (.int v4)], []) (sh, I, J) Q := by
  obtain rfl := e0.eq
  exact xG_N 4 (ps := [xRf sh r0 10 25]) (f1 := (221, [some (.ref r0), some (.int v1), some (.int v2), some (.int v3), some (.int v4)], [.int v4, .int v4, .ref (xrf sh r0 25)])) (h1 := (sh, I, J)) rfl e0.rf (xG_B rfl rfl k1 k2)
set_option maxRecDepth 100000 in
theorem s_M_readTransform_224 {d : Nat} {Q : xO → xH → Prop} {sh : List xS} {I : Nat → Nat → Int32} {J : Nat → Nat → Int64} {r0 : Nat} {v1 : Int32} {v2 : Int32} {v3 : Int32} {v4 : Int32} {t0 : Nat} {t1 : Int32} {a1 : Nat} {n2 : Nat} {n3 : Nat}
    (e0 : xRr sh r0 10 14 a1)
    (e1 : xAr sh a1 .int n2)
    (e2 : vp_in (0 : Int32) n2)
    (e3 : xAr sh t0 .int n3)
    (e4 : 4 ≤ t0)
    (e5 : vp_in t1 n3)
    (k : xG d zm_M_readTransform (204, [some (.ref r0), some (.int v1), some (.int v2), some (.int v3), some (.int (v4 + (1 : Int32)))], []) (sh, xup I t0 t1.toNatClampNeg (I a1 0), J) Q) :
    xG d zm_M_readTransform (224, [some (.ref r0), some (.int v1), some (.int v2), some (.int v3), some (.int v4)], [.int t1, .ref t0]) (sh, I, J) Q := by
  obtain rfl := e0.eq
  obtain rfl := e1.eq
  obtain rfl := e3.eq
  exact xG_N 8 (ps := [xRf sh r0 10 14, xA sh (xrf sh r0 14) .int, vp_in (0 : Int32) (xlen sh (xrf sh r0 14)), xW sh t0 .int, vp_in t1 (xlen sh t0)]) (f1 := (204, [some (.ref r0), some (.int v1), some (.int v2), some (.int v3), some (.int (v4 + (1 : Int32)))], [])) (h1 := (sh, xup I t0 t1.toNatClampNeg (I (xrf sh r0 14) 0), J)) rfl ⟨e0.rf, e1.ar, e2, ⟨e3.ar, e4⟩, e5⟩ (k)
set_option maxRecDepth 100000 in
theorem s_M_readTransform_233 {d : Nat} {Q : xO → xH → Prop} {sh : List xS} {I : Nat → Nat → Int32} {J : Nat → Nat → Int64} {r0 : Nat} {v1 : Int32} {v2 : Int32} {v3 : Int32} {v4 : Int32} {t0 : Nat} {t1 : Int32} {a1 : Nat} {n2 : Nat} {a3 : Nat} {n4 : Nat}
    (e0 : xRr sh r0 10 25 a1)
    (e1 : xAr sh a1 .int n2)
    (e2 : vp_in (v4 - (1 : Int32)) n2)
    (e3 : xRr sh r0 10 14 a3)
    (e4 : xAr sh a3 .int n4)
    (e5 : vp_in v4 n4)
    (k : xg d qM_plus [.int (I a1 (v4 - (1 : Int32)).toNatClampNeg), .int (I a3 v4.toNatClampNeg)] (sh, I, J) (xI (fun v h1 => xG d zm_M_readTransform (252, [some (.ref r0), some (.int v1), some (.int v2), some (.int v3), some (.int v4)], [.int v, .int t1, .ref t0]) h1 Q) (fun x h1 => Q (.inr x) h1))) :
    xG d zm_M_readTransform (233, [some (.ref r0), some (.int v1), some (.int v2), some (.int v3), some (.int v4)], [.int t1, .ref t0]) (sh, I, J) Q := by
  obtain rfl := e0.eq
  obtain rfl := e1.eq
  obtain rfl := e3.eq
  obtain rfl := e4.eq
  exact xG_N 10 (ps := [xRf sh r0 10 25, xA sh (xrf sh r0 25) .int, vp_in (v4 - (1 : Int32)) (xlen sh (xrf sh r0 25)), xRf sh r0 10 14, xA sh (xrf sh r0 14) .int, vp_in v4 (xlen sh (xrf sh r0 14))]) (f1 := (249, [some (.ref r0), some (.int v1), some (.int v2), some (.int v3), some (.int v4)], [.int (I (xrf sh r0 14) v4.toNatClampNeg), .int (I (xrf sh r0 25) (v4 - (1 : Int32)).toNatClampNeg), .int t1, .ref t0])) (h1 := (sh, I, J)) rfl ⟨e0.rf, e1.ar, e2, e3.rf, e4.ar, e5⟩ (xG_Ci rfl rfl (Nat.le_of_ble_eq_true rfl) (Nat.le_of_ble_eq_true rfl) trivial rfl k)
set_option maxRecDepth 100000 in
theorem s_M_readTransform_252 {d : Nat} {Q : xO → xH → Prop} {sh : List xS} {I : Nat → Nat → Int32} {J : Nat → Nat → Int64} {r0 : Nat} {v1 : Int32} {v2 : Int32} {v3 : Int32} {v4 : Int32} {t0 : Nat} {t1 : Int32} {t2 : Int32} {n1 : Nat}
    (e0 : xAr sh t0 .int n1)
    (e1 : 4 ≤ t0)
    (e2 : vp_in t1 n1)
    (k : xG d zm_M_readTransform (204, [some (.ref r0), some (.int v1), some (.int v2), some (.int v3), some (.int (v4 + (1 : Int32)))], []) (sh, xup I t0 t1.toNatClampNeg t2, J) Q) :
    xG d zm_M_readTransform (252, [some (.ref r0), some (.int v1), some (.int v2), some (.int v3), some (.int v4)], [.int t2, .int t1, .ref t0]) (sh, I, J) Q := by
  obtain rfl := e0.eq
  exact xG_N 3 (ps := [xW sh t0 .int, vp_in t1 (xlen sh t0)]) (f1 := (204, [some (.ref r0), some (.int v1), some (.int v2), some (.int v3), some (.int (v4 + (1 : Int32)))], [])) (h1 := (sh, xup I t0 t1.toNatClampNeg t2, J)) rfl ⟨⟨e0.ar, e1⟩, e2⟩ (k)
set_option maxRecDepth 100000 in
theorem s_M_readTransform_259 {d : Nat} {Q : xO → xH → Prop} {sh : List xS} {I : Nat → Nat → Int32} {J : Nat → Nat → Int64} {r0 : Nat} {v1 : Int32} {v2 : Int32} {v3 : Int32} {v4 : Int32}
    (e0 : xOb sh r0 10)
    (k : xg d qM_packed [.int v1, .int (I r0 26)] (sh, I, J) (xI (fun v h1 => xG d zm_M_readTransform (267, [some (.ref r0), some (.int v1), some (.int v2), some (.int v3), some (.int v4)], [.int v]) h1 Q) (fun x h1 => Q (.inr x) h1))) :
    xG d zm_M_readTransform (259, [some (.ref r0), some (.int v1), some (.int v2), some (.int v3), some (.int v4)], []) (sh, I, J) Q := by
  exact xG_N 3 (ps := [xOb sh r0 10]) (f1 := (264, [some (.ref r0), some (.int v1), some (.int v2), some (.int v3), some (.int v4)], [.int (I r0 26), .int v1])) (h1 := (sh, I, J)) rfl e0 (xG_Ci rfl rfl (Nat.le_of_ble_eq_true rfl) (Nat.le_of_ble_eq_true rfl) trivial rfl k)
set_option maxRecDepth 100000 in
theorem s_M_readTransform_267 {d : Nat} {Q : xO → xH → Prop} {sh : List xS} {I : Nat → Nat → Int32} {J : Nat → Nat → Int64} {r0 : Nat} {v1 : Int32} {v2 : Int32} {v3 : Int32} {v4 : Int32} {t0 : Int32}
    (k : Q (.inl (some (.int t0))) (sh, I, J)) :
    xG d zm_M_readTransform (267, [some (.ref r0), some (.int v1), some (.int v2), some (.int v3), some (.int v4)], [.int t0]) (sh, I, J) Q := by
  exact xG_Q rfl rfl trivial k
set_option maxRecDepth 100000 in
theorem s_M_readTransform_268 {d : Nat} {Q : xO → xH → Prop} {sh : List xS} {I : Nat → Nat → Int32} {J : Nat → Nat → Int64} {r0 : Nat} {v1 : Int32} {v2 : Int32} {v3 : Int32} {o4 : Option Value}
    (k : Q (.inl (some (.int v1))) (sh, I, J)) :
    xG d zm_M_readTransform (268, [some (.ref r0), some (.int v1), some (.int v2), some (.int v3), o4], []) (sh, I, J) Q := by
  exact xG_N 1 (ps := []) (f1 := (269, [some (.ref r0), some (.int v1), some (.int v2), some (.int v3), o4], [.int v1])) (h1 := (sh, I, J)) rfl trivial (xG_Q rfl rfl trivial k)
set_option maxRecDepth 100000 in
theorem s_M_signed_0 {d : Nat} {Q : xO → xH → Prop} {sh : List xS} {I : Nat → Nat → Int32} {J : Nat → Nat → Int64} {v0 : Int32}
    (k1 : (v0 &&& (255 : Int32)) ≤ (127 : Int32) → xG d zm_M_signed (22, [some (.int v0)], []) (sh, I, J) Q)
    (k2 : ¬ ((v0 &&& (255 : Int32)) ≤ (127 : Int32)) → xG d zm_M_signed (10, [some (.int v0)], []) (sh, I, J) Q) :
    xG d zm_M_signed (0, [some (.int v0)], []) (sh, I, J) Q := by
  exact xG_N 4 (ps := []) (f1 := (7, [some (.int v0)], [.int (127 : Int32), .int (v0 &&& (255 : Int32))])) (h1 := (sh, I, J)) rfl trivial (xG_B rfl rfl k1 k2)
set_option maxRecDepth 100000 in
theorem s_M_signed_10 {d : Nat} {Q : xO → xH → Prop} {sh : List xS} {I : Nat → Nat → Int32} {J : Nat → Nat → Int64} {v0 : Int32}
    (k : Q (.inl (some (.int ((v0 &&& (255 : Int32)) - (256 : Int32))))) (sh, I, J)) :
    xG d zm_M_signed (10, [some (.int v0)], []) (sh, I, J) Q := by
  exact xG_N 6 (ps := []) (f1 := (27, [some (.int v0)], [.int ((v0 &&& (255 : Int32)) - (256 : Int32))])) (h1 := (sh, I, J)) rfl trivial (xG_Q rfl rfl trivial k)
set_option maxRecDepth 100000 in
theorem s_M_signed_22 {d : Nat} {Q : xO → xH → Prop} {sh : List xS} {I : Nat → Nat → Int32} {J : Nat → Nat → Int64} {v0 : Int32}
    (k : Q (.inl (some (.int (v0 &&& (255 : Int32))))) (sh, I, J)) :
    xG d zm_M_signed (22, [some (.int v0)], []) (sh, I, J) Q := by
  exact xG_N 3 (ps := []) (f1 := (27, [some (.int v0)], [.int (v0 &&& (255 : Int32))])) (h1 := (sh, I, J)) rfl trivial (xG_Q rfl rfl trivial k)
