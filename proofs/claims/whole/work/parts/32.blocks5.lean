/-! Stretches of code, printed (wip/whole/gen_blocks.py). -/
set_option maxRecDepth 100000 in
theorem s_W_size_8 {d : Nat} {Q : xO → xH → Prop} {sh : List xS} {I : Nat → Nat → Int32} {J : Nat → Nat → Int64} {r0 : Nat} {v1 : Int32} {v2 : Int32} {r3 : Nat} {t0 : Nat} {t1 : Int32} {t2 : Int32} {n1 : Nat}
    (e0 : xAr sh t0 .long n1)
    (e1 : 4 ≤ t0)
    (e2 : vp_in t1 n1)
    (k : Q (.inl (some (.int (0 : Int32)))) (sh, I, xupL J t0 t1.toNatClampNeg t2.toInt64)) :
    xG d zm_W_size (8, [some (.ref r0), some (.int v1), some (.int v2), some (.ref r3), none], [.int t2, .int t1, .ref t0]) (sh, I, J) Q := by
  obtain rfl := e0.eq
  exact xG_N 4 (ps := [xW sh t0 .long, vp_in t1 (xlen sh t0)]) (f1 := (18, [some (.ref r0), some (.int v1), some (.int v2), some (.ref r3), none], [.int (0 : Int32)])) (h1 := (sh, I, xupL J t0 t1.toNatClampNeg t2.toInt64)) rfl ⟨⟨e0.ar, e1⟩, e2⟩ (xG_Q rfl rfl trivial k)
set_option maxRecDepth 100000 in
theorem s_W_size_13 {d : Nat} {Q : xO → xH → Prop} {sh : List xS} {I : Nat → Nat → Int32} {J : Nat → Nat → Int64} {r0 : Nat} {v1 : Int32} {v2 : Int32} {r3 : Nat} {t0 : Nat}
    (k : Q (.inl (some (.int (1 : Int32)))) (sh, I, J)) :
    xG d zm_W_size (13, [some (.ref r0), some (.int v1), some (.int v2), some (.ref r3), none], [.ref t0]) (sh, I, J) Q := by
  exact xG_N 2 (ps := []) (f1 := (16, [some (.ref r0), some (.int v1), some (.int v2), some (.ref r3), some (.ref t0)], [.int (1 : Int32)])) (h1 := (sh, I, J)) rfl trivial (xG_Q rfl rfl trivial k)
set_option maxRecDepth 100000 in
theorem s_W_set_10 {d : Nat} {Q : xO → xH → Prop} {sh : List xS} {I : Nat → Nat → Int32} {J : Nat → Nat → Int64} {r0 : Nat} {v1 : Int32} {v2 : Int32} {v3 : Int32} {r4 : Nat} {t0 : Nat} {t1 : Int32} {t2 : Int32} {n1 : Nat}
    (e0 : xAr sh t0 .long n1)
    (e1 : 4 ≤ t0)
    (e2 : vp_in t1 n1)
    (k : Q (.inl (some (.int (0 : Int32)))) (sh, I, xupL J t0 t1.toNatClampNeg t2.toInt64)) :
    xG d zm_W_set (10, [some (.ref r0), some (.int v1), some (.int v2), some (.int v3), some (.ref r4), none], [.int t2, .int t1, .ref t0]) (sh, I, J) Q := by
  obtain rfl := e0.eq
  exact xG_N 4 (ps := [xW sh t0 .long, vp_in t1 (xlen sh t0)]) (f1 := (20, [some (.ref r0), some (.int v1), some (.int v2), some (.int v3), some (.ref r4), none], [.int (0 : Int32)])) (h1 := (sh, I, xupL J t0 t1.toNatClampNeg t2.toInt64)) rfl ⟨⟨e0.ar, e1⟩, e2⟩ (xG_Q rfl rfl trivial k)
set_option maxRecDepth 100000 in
theorem s_W_set_15 {d : Nat} {Q : xO → xH → Prop} {sh : List xS} {I : Nat → Nat → Int32} {J : Nat → Nat → Int64} {r0 : Nat} {v1 : Int32} {v2 : Int32} {v3 : Int32} {r4 : Nat} {t0 : Nat}
    (k : Q (.inl (some (.int (1 : Int32)))) (sh, I, J)) :
    xG d zm_W_set (15, [some (.ref r0), some (.int v1), some (.int v2), some (.int v3), some (.ref r4), none], [.ref t0]) (sh, I, J) Q := by
  exact xG_N 2 (ps := []) (f1 := (18, [some (.ref r0), some (.int v1), some (.int v2), some (.int v3), some (.ref r4), some (.ref t0)], [.int (1 : Int32)])) (h1 := (sh, I, J)) rfl trivial (xG_Q rfl rfl trivial k)
set_option maxRecDepth 100000 in
theorem s_W_pixel_8 {d : Nat} {Q : xO → xH → Prop} {sh : List xS} {I : Nat → Nat → Int32} {J : Nat → Nat → Int64} {r0 : Nat} {v1 : Int32} {v2 : Int32} {r3 : Nat} {t0 : Nat} {t1 : Int32} {t2 : Int32} {n1 : Nat}
    (e0 : xAr sh t0 .long n1)
    (e1 : 4 ≤ t0)
    (e2 : vp_in t1 n1)
    (k : Q (.inl (some (.int (0 : Int32)))) (sh, I, xupL J t0 t1.toNatClampNeg t2.toInt64)) :
    xG d zm_W_pixel (8, [some (.ref r0), some (.int v1), some (.int v2), some (.ref r3), none], [.int t2, .int t1, .ref t0]) (sh, I, J) Q := by
  obtain rfl := e0.eq
  exact xG_N 4 (ps := [xW sh t0 .long, vp_in t1 (xlen sh t0)]) (f1 := (18, [some (.ref r0), some (.int v1), some (.int v2), some (.ref r3), none], [.int (0 : Int32)])) (h1 := (sh, I, xupL J t0 t1.toNatClampNeg t2.toInt64)) rfl ⟨⟨e0.ar, e1⟩, e2⟩ (xG_Q rfl rfl trivial k)
set_option maxRecDepth 100000 in
theorem s_W_pixel_13 {d : Nat} {Q : xO → xH → Prop} {sh : List xS} {I : Nat → Nat → Int32} {J : Nat → Nat → Int64} {r0 : Nat} {v1 : Int32} {v2 : Int32} {r3 : Nat} {t0 : Nat}
    (k : Q (.inl (some (.int (1 : Int32)))) (sh, I, J)) :
    xG d zm_W_pixel (13, [some (.ref r0), some (.int v1), some (.int v2), some (.ref r3), none], [.ref t0]) (sh, I, J) Q := by
  exact xG_N 2 (ps := []) (f1 := (16, [some (.ref r0), some (.int v1), some (.int v2), some (.ref r3), some (.ref t0)], [.int (1 : Int32)])) (h1 := (sh, I, J)) rfl trivial (xG_Q rfl rfl trivial k)
set_option maxRecDepth 100000 in
theorem s_W_flip_7 {d : Nat} {Q : xO → xH → Prop} {sh : List xS} {I : Nat → Nat → Int32} {J : Nat → Nat → Int64} {r0 : Nat} {v1 : Int32} {r2 : Nat} {t0 : Nat} {t1 : Int32} {t2 : Int32} {n1 : Nat}
    (e0 : xAr sh t0 .long n1)
    (e1 : 4 ≤ t0)
    (e2 : vp_in t1 n1)
    (k : Q (.inl (some (.int (0 : Int32)))) (sh, I, xupL J t0 t1.toNatClampNeg t2.toInt64)) :
    xG d zm_W_flip (7, [some (.ref r0), some (.int v1), some (.ref r2), none], [.int t2, .int t1, .ref t0]) (sh, I, J) Q := by
  obtain rfl := e0.eq
  exact xG_N 4 (ps := [xW sh t0 .long, vp_in t1 (xlen sh t0)]) (f1 := (16, [some (.ref r0), some (.int v1), some (.ref r2), none], [.int (0 : Int32)])) (h1 := (sh, I, xupL J t0 t1.toNatClampNeg t2.toInt64)) rfl ⟨⟨e0.ar, e1⟩, e2⟩ (xG_Q rfl rfl trivial k)
set_option maxRecDepth 100000 in
theorem s_W_flip_12 {d : Nat} {Q : xO → xH → Prop} {sh : List xS} {I : Nat → Nat → Int32} {J : Nat → Nat → Int64} {r0 : Nat} {v1 : Int32} {r2 : Nat} {t0 : Nat}
    (k : Q (.inl (some (.int (1 : Int32)))) (sh, I, J)) :
    xG d zm_W_flip (12, [some (.ref r0), some (.int v1), some (.ref r2), none], [.ref t0]) (sh, I, J) Q := by
  exact xG_N 2 (ps := []) (f1 := (14, [some (.ref r0), some (.int v1), some (.ref r2), some (.ref t0)], [.int (1 : Int32)])) (h1 := (sh, I, J)) rfl trivial (xG_Q rfl rfl trivial k)
set_option maxRecDepth 100000 in
theorem s_W_read_6 {d : Nat} {Q : xO → xH → Prop} {sh : List xS} {I : Nat → Nat → Int32} {J : Nat → Nat → Int64} {r0 : Nat} {r1 : Nat} {t0 : Nat} {t1 : Int32} {t2 : Int32} {n1 : Nat}
    (e0 : xAr sh t0 .long n1)
    (e1 : 4 ≤ t0)
    (e2 : vp_in t1 n1)
    (k : Q (.inl (some (.int (0 : Int32)))) (sh, I, xupL J t0 t1.toNatClampNeg t2.toInt64)) :
    xG d zm_W_read (6, [some (.ref r0), some (.ref r1), none], [.int t2, .int t1, .ref t0]) (sh, I, J) Q := by
  obtain rfl := e0.eq
  exact xG_N 4 (ps := [xW sh t0 .long, vp_in t1 (xlen sh t0)]) (f1 := (15, [some (.ref r0), some (.ref r1), none], [.int (0 : Int32)])) (h1 := (sh, I, xupL J t0 t1.toNatClampNeg t2.toInt64)) rfl ⟨⟨e0.ar, e1⟩, e2⟩ (xG_Q rfl rfl trivial k)
set_option maxRecDepth 100000 in
theorem s_W_read_11 {d : Nat} {Q : xO → xH → Prop} {sh : List xS} {I : Nat → Nat → Int32} {J : Nat → Nat → Int64} {r0 : Nat} {r1 : Nat} {t0 : Nat}
    (k : Q (.inl (some (.int (1 : Int32)))) (sh, I, J)) :
    xG d zm_W_read (11, [some (.ref r0), some (.ref r1), none], [.ref t0]) (sh, I, J) Q := by
  exact xG_N 2 (ps := []) (f1 := (13, [some (.ref r0), some (.ref r1), some (.ref t0)], [.int (1 : Int32)])) (h1 := (sh, I, J)) rfl trivial (xG_Q rfl rfl trivial k)
set_option maxRecDepth 100000 in
theorem s_W_write_12 {d : Nat} {Q : xO → xH → Prop} {sh : List xS} {I : Nat → Nat → Int32} {J : Nat → Nat → Int64} {r0 : Nat} {v1 : Int32} {v2 : Int32} {v3 : Int32} {v4 : Int32} {r5 : Nat} {t0 : Nat} {t1 : Int32} {t2 : Int32} {n1 : Nat}
    (e0 : xAr sh t0 .long n1)
    (e1 : 4 ≤ t0)
    (e2 : vp_in t1 n1)
    (k : Q (.inl (some (.int (0 : Int32)))) (sh, I, xupL J t0 t1.toNatClampNeg t2.toInt64)) :
    xG d zm_W_write (12, [some (.ref r0), some (.int v1), some (.int v2), some (.int v3), some (.int v4), some (.ref r5), none], [.int t2, .int t1, .ref t0]) (sh, I, J) Q := by
  obtain rfl := e0.eq
  exact xG_N 4 (ps := [xW sh t0 .long, vp_in t1 (xlen sh t0)]) (f1 := (26, [some (.ref r0), some (.int v1), some (.int v2), some (.int v3), some (.int v4), some (.ref r5), none], [.int (0 : Int32)])) (h1 := (sh, I, xupL J t0 t1.toNatClampNeg t2.toInt64)) rfl ⟨⟨e0.ar, e1⟩, e2⟩ (xG_Q rfl rfl trivial k)
set_option maxRecDepth 100000 in
theorem s_W_write_17 {d : Nat} {Q : xO → xH → Prop} {sh : List xS} {I : Nat → Nat → Int32} {J : Nat → Nat → Int64} {r0 : Nat} {v1 : Int32} {v2 : Int32} {v3 : Int32} {v4 : Int32} {r5 : Nat} {t0 : Nat}
    (k : Q (.inl (some (.int (1 : Int32)))) (sh, I, J)) :
    xG d zm_W_write (17, [some (.ref r0), some (.int v1), some (.int v2), some (.int v3), some (.int v4), some (.ref r5), none], [.ref t0]) (sh, I, J) Q := by
  exact xG_N 2 (ps := []) (f1 := (20, [some (.ref r0), some (.int v1), some (.int v2), some (.int v3), some (.int v4), some (.ref r5), some (.ref t0)], [.int (1 : Int32)])) (h1 := (sh, I, J)) rfl trivial (xG_Q rfl rfl trivial k)
set_option maxRecDepth 100000 in
theorem s_W_write_21 {d : Nat} {Q : xO → xH → Prop} {sh : List xS} {I : Nat → Nat → Int32} {J : Nat → Nat → Int64} {r0 : Nat} {v1 : Int32} {v2 : Int32} {v3 : Int32} {v4 : Int32} {r5 : Nat} {t0 : Nat}
    (k : Q (.inl (some (.int (2 : Int32)))) (sh, I, J)) :
    xG d zm_W_write (21, [some (.ref r0), some (.int v1), some (.int v2), some (.int v3), some (.int v4), some (.ref r5), none], [.ref t0]) (sh, I, J) Q := by
  exact xG_N 2 (ps := []) (f1 := (24, [some (.ref r0), some (.int v1), some (.int v2), some (.int v3), some (.int v4), some (.ref r5), some (.ref t0)], [.int (2 : Int32)])) (h1 := (sh, I, J)) rfl trivial (xG_Q rfl rfl trivial k)
set_option maxRecDepth 100000 in
theorem s_W_law_0 {d : Nat} {Q : xO → xH → Prop} {sh : List xS} {I : Nat → Nat → Int32} {J : Nat → Nat → Int64} {r0 : Nat}
    (k : xG d zm_W_law (3, [some (.ref r0), none, none, none, none, none, none], [.ref sh.length]) (sh ++ [.inr (0, zdf 0)], xzer I sh.length, xzerL J sh.length) Q) :
    xG d zm_W_law (0, [some (.ref r0), none, none, none, none, none, none], []) (sh, I, J) Q := by
  exact xG_N 1 (ps := []) (f1 := (3, [some (.ref r0), none, none, none, none, none, none], [.ref sh.length])) (h1 := (sh ++ [.inr (0, zdf 0)], xzer I sh.length, xzerL J sh.length)) rfl trivial (k)
set_option maxRecDepth 100000 in
theorem s_W_law_3 {d : Nat} {Q : xO → xH → Prop} {sh : List xS} {I : Nat → Nat → Int32} {J : Nat → Nat → Int64} {r0 : Nat} {t0 : Nat}
    (k : xg d qL_init [.ref t0] (sh, I, J) (xU (fun h1 => xG d zm_W_law (7, [some (.ref r0), none, none, none, none, none, none], [.ref t0]) h1 Q) (fun x h1 => Q (.inr x) h1))) :
    xG d zm_W_law (3, [some (.ref r0), none, none, none, none, none, none], [.ref t0]) (sh, I, J) Q := by
  exact xG_N 1 (ps := []) (f1 := (4, [some (.ref r0), none, none, none, none, none, none], [.ref t0, .ref t0])) (h1 := (sh, I, J)) rfl trivial (xG_Cu rfl rfl (Nat.le_of_ble_eq_true rfl) (Nat.le_of_ble_eq_true rfl) ⟨_, _, rfl⟩ rfl k)
set_option maxRecDepth 100000 in
theorem s_W_law_7 {d : Nat} {Q : xO → xH → Prop} {sh : List xS} {I : Nat → Nat → Int32} {J : Nat → Nat → Int64} {r0 : Nat} {t0 : Nat}
    (k : xG d zm_W_law (11, [some (.ref r0), some (.ref t0), none, none, none, none, none], [.ref sh.length]) (sh ++ [.inr (10, zdf 10)], xzer I sh.length, xzerL J sh.length) Q) :
    xG d zm_W_law (7, [some (.ref r0), none, none, none, none, none, none], [.ref t0]) (sh, I, J) Q := by
  exact xG_N 2 (ps := []) (f1 := (11, [some (.ref r0), some (.ref t0), none, none, none, none, none], [.ref sh.length])) (h1 := (sh ++ [.inr (10, zdf 10)], xzer I sh.length, xzerL J sh.length)) rfl trivial (k)
set_option maxRecDepth 100000 in
theorem s_W_law_11 {d : Nat} {Q : xO → xH → Prop} {sh : List xS} {I : Nat → Nat → Int32} {J : Nat → Nat → Int64} {r0 : Nat} {r1 : Nat} {t0 : Nat}
    (k : xg d qM_init [.ref t0] (sh, I, J) (xU (fun h1 => xG d zm_W_law (15, [some (.ref r0), some (.ref r1), none, none, none, none, none], [.ref t0]) h1 Q) (fun x h1 => Q (.inr x) h1))) :
    xG d zm_W_law (11, [some (.ref r0), some (.ref r1), none, none, none, none, none], [.ref t0]) (sh, I, J) Q := by
  exact xG_N 1 (ps := []) (f1 := (12, [some (.ref r0), some (.ref r1), none, none, none, none, none], [.ref t0, .ref t0])) (h1 := (sh, I, J)) rfl trivial (xG_Cu rfl rfl (Nat.le_of_ble_eq_true rfl) (Nat.le_of_ble_eq_true rfl) ⟨_, _, rfl⟩ rfl k)
set_option maxRecDepth 100000 in
theorem s_W_law_15 {d : Nat} {Q : xO → xH → Prop} {sh : List xS} {I : Nat → Nat → Int32} {J : Nat → Nat → Int64} {r0 : Nat} {r1 : Nat} {t0 : Nat}
    (k : xG d zm_W_law (19, [some (.ref r0), some (.ref r1), some (.ref t0), none, none, none, none], [.ref sh.length]) (sh ++ [.inl (.long, ((1 : Int32) : Int32).toNatClampNeg)], xzer I sh.length, xzerL J sh.length) Q) :
    xG d zm_W_law (15, [some (.ref r0), some (.ref r1), none, none, none, none, none], [.ref t0]) (sh, I, J) Q := by
  exact xG_N 3 (ps := [¬ ((1 : Int32) : Int32) < 0, ((1 : Int32) : Int32).toNatClampNeg ≤ 65536, newarray.typeOf .long = .int ∨ newarray.typeOf .long = .boolean ∨ newarray.typeOf .long = .long]) (f1 := (19, [some (.ref r0), some (.ref r1), some (.ref t0), none, none, none, none], [.ref sh.length])) (h1 := (sh ++ [.inl (.long, ((1 : Int32) : Int32).toNatClampNeg)], xzer I sh.length, xzerL J sh.length)) rfl ⟨(show ¬ ((1 : Int32) : Int32) < 0 by decide), (show ((1 : Int32) : Int32).toNatClampNeg ≤ 65536 by decide), Or.inr (Or.inr rfl)⟩ (k)
set_option maxRecDepth 100000 in
theorem s_W_law_19 {d : Nat} {Q : xO → xH → Prop} {sh : List xS} {I : Nat → Nat → Int32} {J : Nat → Nat → Int64} {r0 : Nat} {r1 : Nat} {r2 : Nat} {t0 : Nat}
    (k : xG d zm_W_law (23, [some (.ref r0), some (.ref r1), some (.ref r2), some (.ref t0), some (.int (0 : Int32)), none, none], []) (sh, I, J) Q) :
    xG d zm_W_law (19, [some (.ref r0), some (.ref r1), some (.ref r2), none, none, none, none], [.ref t0]) (sh, I, J) Q := by
  exact xG_N 3 (ps := []) (f1 := (23, [some (.ref r0), some (.ref r1), some (.ref r2), some (.ref t0), some (.int (0 : Int32)), none, none], [])) (h1 := (sh, I, J)) rfl trivial (k)
set_option maxRecDepth 100000 in
theorem s_W_law_23 {d : Nat} {Q : xO → xH → Prop} {sh : List xS} {I : Nat → Nat → Int32} {J : Nat → Nat → Int64} {r0 : Nat} {r1 : Nat} {r2 : Nat} {r3 : Nat} {v4 : Int32} {o5 : Option Value} {o6 : Option Value} {n1 : Nat}
    (e0 : xAr sh r0 .int n1)
    (k1 : ((nI n1) - (5 : Int32)) < v4 → xG d zm_W_law (699, [some (.ref r0), some (.ref r1), some (.ref r2), some (.ref r3), some (.int v4), o5, o6], []) (sh, I, J) Q)
    (k2 : ¬ (((nI n1) - (5 : Int32)) < v4) → xG d zm_W_law (32, [some (.ref r0), some (.ref r1), some (.ref r2), some (.ref r3), some (.int v4), o5, o6], []) (sh, I, J) Q) :
    xG d zm_W_law (23, [some (.ref r0), some (.ref r1), some (.ref r2), some (.ref r3), some (.int v4), o5, o6], []) (sh, I, J) Q := by
  obtain rfl := e0.eq
  exact xG_N 5 (ps := [xA sh r0 .int]) (f1 := (29, [some (.ref r0), some (.ref r1), some (.ref r2), some (.ref r3), some (.int v4), o5, o6], [.int ((nI (xlen sh r0)) - (5 : Int32)), .int v4])) (h1 := (sh, I, J)) rfl e0.ar (xG_B rfl rfl k1 k2)
set_option maxRecDepth 100000 in
theorem s_W_law_32 {d : Nat} {Q : xO → xH → Prop} {sh : List xS} {I : Nat → Nat → Int32} {J : Nat → Nat → Int64} {r0 : Nat} {r1 : Nat} {r2 : Nat} {r3 : Nat} {v4 : Int32} {o5 : Option Value} {o6 : Option Value} {n1 : Nat}
    (e0 : xAr sh r0 .int n1)
    (e1 : vp_in v4 n1)
    (k0 : ((I r0 v4.toNatClampNeg) &&& (15 : Int32)) = (0 : Int32) → xG d zm_W_law (96, [some (.ref r0), some (.ref r1), some (.ref r2), some (.ref r3), some (.int v4), o5, o6], []) (sh, I, J) Q)
    (k1 : ((I r0 v4.toNatClampNeg) &&& (15 : Int32)) = (1 : Int32) → xG d zm_W_law (164, [some (.ref r0), some (.ref r1), some (.ref r2), some (.ref r3), some (.int v4), o5, o6], []) (sh, I, J) Q)
    (k2 : ((I r0 v4.toNatClampNeg) &&& (15 : Int32)) = (2 : Int32) → xG d zm_W_law (244, [some (.ref r0), some (.ref r1), some (.ref r2), some (.ref r3), some (.int v4), o5, o6], []) (sh, I, J) Q)
    (k3 : ((I r0 v4.toNatClampNeg) &&& (15 : Int32)) = (3 : Int32) → xG d zm_W_law (312, [some (.ref r0), some (.ref r1), some (.ref r2), some (.ref r3), some (.int v4), o5, o6], []) (sh, I, J) Q)
    (k4 : ((I r0 v4.toNatClampNeg) &&& (15 : Int32)) = (4 : Int32) → xG d zm_W_law (337, [some (.ref r0), some (.ref r1), some (.ref r2), some (.ref r3), some (.int v4), o5, o6], []) (sh, I, J) Q)
    (k5 : ((I r0 v4.toNatClampNeg) &&& (15 : Int32)) = (5 : Int32) → xG d zm_W_law (406, [some (.ref r0), some (.ref r1), some (.ref r2), some (.ref r3), some (.int v4), o5, o6], []) (sh, I, J) Q)
    (k6 : ((I r0 v4.toNatClampNeg) &&& (15 : Int32)) = (6 : Int32) → xG d zm_W_law (419, [some (.ref r0), some (.ref r1), some (.ref r2), some (.ref r3), some (.int v4), o5, o6], []) (sh, I, J) Q)
    (k7 : ((I r0 v4.toNatClampNeg) &&& (15 : Int32)) = (7 : Int32) → xG d zm_W_law (444, [some (.ref r0), some (.ref r1), some (.ref r2), some (.ref r3), some (.int v4), o5, o6], []) (sh, I, J) Q)
    (k8 : ((I r0 v4.toNatClampNeg) &&& (15 : Int32)) = (8 : Int32) → xG d zm_W_law (500, [some (.ref r0), some (.ref r1), some (.ref r2), some (.ref r3), some (.int v4), o5, o6], []) (sh, I, J) Q)
    (k9 : ((I r0 v4.toNatClampNeg) &&& (15 : Int32)) = (9 : Int32) → xG d zm_W_law (544, [some (.ref r0), some (.ref r1), some (.ref r2), some (.ref r3), some (.int v4), o5, o6], []) (sh, I, J) Q)
    (k10 : ((I r0 v4.toNatClampNeg) &&& (15 : Int32)) = (10 : Int32) → xG d zm_W_law (668, [some (.ref r0), some (.ref r1), some (.ref r2), some (.ref r3), some (.int v4), o5, o6], []) (sh, I, J) Q)
    (kd : (((I r0 v4.toNatClampNeg) &&& (15 : Int32)).toInt < 0 ∨ 10 < ((I r0 v4.toNatClampNeg) &&& (15 : Int32)).toInt) → xG d zm_W_law (693, [some (.ref r0), some (.ref r1), some (.ref r2), some (.ref r3), some (.int v4), o5, o6], []) (sh, I, J) Q) :
    xG d zm_W_law (32, [some (.ref r0), some (.ref r1), some (.ref r2), some (.ref r3), some (.int v4), o5, o6], []) (sh, I, J) Q := by
  obtain rfl := e0.eq
  have key : ∀ x : Int32, (x = (0 : Int32) → xG d zm_W_law (96, [some (.ref r0), some (.ref r1), some (.ref r2), some (.ref r3), some (.int v4), o5, o6], []) (sh, I, J) Q) → (x = (1 : Int32) → xG d zm_W_law (164, [some (.ref r0), some (.ref r1), some (.ref r2), some (.ref r3), some (.int v4), o5, o6], []) (sh, I, J) Q) → (x = (2 : Int32) → xG d zm_W_law (244, [some (.ref r0), some (.ref r1), some (.ref r2), some (.ref r3), some (.int v4), o5, o6], []) (sh, I, J) Q) → (x = (3 : Int32) → xG d zm_W_law (312, [some (.ref r0), some (.ref r1), some (.ref r2), some (.ref r3), some (.int v4), o5, o6], []) (sh, I, J) Q) → (x = (4 : Int32) → xG d zm_W_law (337, [some (.ref r0), some (.ref r1), some (.ref r2), some (.ref r3), some (.int v4), o5, o6], []) (sh, I, J) Q) → (x = (5 : Int32) → xG d zm_W_law (406, [some (.ref r0), some (.ref r1), some (.ref r2), some (.ref r3), some (.int v4), o5, o6], []) (sh, I, J) Q) → (x = (6 : Int32) → xG d zm_W_law (419, [some (.ref r0), some (.ref r1), some (.ref r2), some (.ref r3), some (.int v4), o5, o6], []) (sh, I, J) Q) → (x = (7 : Int32) → xG d zm_W_law (444, [some (.ref r0), some (.ref r1), some (.ref r2), some (.ref r3), some (.int v4), o5, o6], []) (sh, I, J) Q) → (x = (8 : Int32) → xG d zm_W_law (500, [some (.ref r0), some (.ref r1), some (.ref r2), some (.ref r3), some (.int v4), o5, o6], []) (sh, I, J) Q) → (x = (9 : Int32) → xG d zm_W_law (544, [some (.ref r0), some (.ref r1), some (.ref r2), some (.ref r3), some (.int v4), o5, o6], []) (sh, I, J) Q) → (x = (10 : Int32) → xG d zm_W_law (668, [some (.ref r0), some (.ref r1), some (.ref r2), some (.ref r3), some (.int v4), o5, o6], []) (sh, I, J) Q) → ((x.toInt < 0 ∨ 10 < x.toInt) → xG d zm_W_law (693, [some (.ref r0), some (.ref r1), some (.ref r2), some (.ref r3), some (.int v4), o5, o6], []) (sh, I, J) Q) → xG d zm_W_law (39, [some (.ref r0), some (.ref r1), some (.ref r2), some (.ref r3), some (.int v4), o5, o6], [.int x]) (sh, I, J) Q := by
    intro x k0 k1 k2 k3 k4 k5 k6 k7 k8 k9 k10 kd
    by_cases hx : x.toInt < 0 ∨ 10 < x.toInt
    · exact xG_S (t := 693) rfl (Or.elim hx Or.inl (fun h => Or.inr (Or.inl h))) (by unfold xsw; rw [if_pos hx]; rfl) (kd hx)
    · have hc : x.toInt = 0 ∨ x.toInt = 1 ∨ x.toInt = 2 ∨ x.toInt = 3 ∨ x.toInt = 4 ∨ x.toInt = 5 ∨ x.toInt = 6 ∨ x.toInt = 7 ∨ x.toInt = 8 ∨ x.toInt = 9 ∨ x.toInt = 10 := by omega
      rcases hc with hc | hc | hc | hc | hc | hc | hc | hc | hc | hc | hc
      · obtain rfl : x = (0 : Int32) := Int32.toInt_inj.mp (by rw [hc]; rfl)
        exact xG_S (t := 96) rfl (by decide) (by decide) (k0 rfl)
      · obtain rfl : x = (1 : Int32) := Int32.toInt_inj.mp (by rw [hc]; rfl)
        exact xG_S (t := 164) rfl (by decide) (by decide) (k1 rfl)
      · obtain rfl : x = (2 : Int32) := Int32.toInt_inj.mp (by rw [hc]; rfl)
        exact xG_S (t := 244) rfl (by decide) (by decide) (k2 rfl)
      · obtain rfl : x = (3 : Int32) := Int32.toInt_inj.mp (by rw [hc]; rfl)
        exact xG_S (t := 312) rfl (by decide) (by decide) (k3 rfl)
      · obtain rfl : x = (4 : Int32) := Int32.toInt_inj.mp (by rw [hc]; rfl)
        exact xG_S (t := 337) rfl (by decide) (by decide) (k4 rfl)
      · obtain rfl : x = (5 : Int32) := Int32.toInt_inj.mp (by rw [hc]; rfl)
        exact xG_S (t := 406) rfl (by decide) (by decide) (k5 rfl)
      · obtain rfl : x = (6 : Int32) := Int32.toInt_inj.mp (by rw [hc]; rfl)
        exact xG_S (t := 419) rfl (by decide) (by decide) (k6 rfl)
      · obtain rfl : x = (7 : Int32) := Int32.toInt_inj.mp (by rw [hc]; rfl)
        exact xG_S (t := 444) rfl (by decide) (by decide) (k7 rfl)
      · obtain rfl : x = (8 : Int32) := Int32.toInt_inj.mp (by rw [hc]; rfl)
        exact xG_S (t := 500) rfl (by decide) (by decide) (k8 rfl)
      · obtain rfl : x = (9 : Int32) := Int32.toInt_inj.mp (by rw [hc]; rfl)
        exact xG_S (t := 544) rfl (by decide) (by decide) (k9 rfl)
      · obtain rfl : x = (10 : Int32) := Int32.toInt_inj.mp (by rw [hc]; rfl)
        exact xG_S (t := 668) rfl (by decide) (by decide) (k10 rfl)
  exact xG_N 5 (ps := [xA sh r0 .int, vp_in v4 (xlen sh r0)]) (f1 := (39, [some (.ref r0), some (.ref r1), some (.ref r2), some (.ref r3), some (.int v4), o5, o6], [.int ((I r0 v4.toNatClampNeg) &&& (15 : Int32))])) (h1 := (sh, I, J)) rfl ⟨e0.ar, e1⟩ (key _ k0 k1 k2 k3 k4 k5 k6 k7 k8 k9 k10 kd)
set_option maxRecDepth 100000 in
theorem s_W_law_96 {d : Nat} {Q : xO → xH → Prop} {sh : List xS} {I : Nat → Nat → Int32} {J : Nat → Nat → Int64} {r0 : Nat} {r1 : Nat} {r2 : Nat} {r3 : Nat} {v4 : Int32} {o5 : Option Value} {o6 : Option Value} {n1 : Nat}
    (e0 : xAr sh r0 .int n1)
    (e1 : vp_in (v4 + (1 : Int32)) n1)
    (e2 : vp_in (v4 + (2 : Int32)) n1)
    (k : xg d qW_size [.ref r1, .int (I r0 (v4 + (1 : Int32)).toNatClampNeg), .int (I r0 (v4 + (2 : Int32)).toNatClampNeg), .ref r3] (sh, I, J) (xI (fun v h1 => xG d zm_W_law (113, [some (.ref r0), some (.ref r1), some (.ref r2), some (.ref r3), some (.int v4), o5, o6], [.int v]) h1 Q) (fun x h1 => Q (.inr x) h1))) :
    xG d zm_W_law (96, [some (.ref r0), some (.ref r1), some (.ref r2), some (.ref r3), some (.int v4), o5, o6], []) (sh, I, J) Q := by
  obtain rfl := e0.eq
  exact xG_N 12 (ps := [xA sh r0 .int, vp_in (v4 + (1 : Int32)) (xlen sh r0), xA sh r0 .int, vp_in (v4 + (2 : Int32)) (xlen sh r0)]) (f1 := (110, [some (.ref r0), some (.ref r1), some (.ref r2), some (.ref r3), some (.int v4), o5, o6], [.ref r3, .int (I r0 (v4 + (2 : Int32)).toNatClampNeg), .int (I r0 (v4 + (1 : Int32)).toNatClampNeg), .ref r1])) (h1 := (sh, I, J)) rfl ⟨e0.ar, e1, e0.ar, e2⟩ (xG_Ci rfl rfl (Nat.le_of_ble_eq_true rfl) (Nat.le_of_ble_eq_true rfl) trivial rfl k)
set_option maxRecDepth 100000 in
theorem s_W_law_113 {d : Nat} {Q : xO → xH → Prop} {sh : List xS} {I : Nat → Nat → Int32} {J : Nat → Nat → Int64} {r0 : Nat} {r1 : Nat} {r2 : Nat} {r3 : Nat} {v4 : Int32} {o5 : Option Value} {o6 : Option Value} {t0 : Int32} {n1 : Nat}
    (e0 : xAr sh r0 .int n1)
    (e1 : vp_in (v4 + (1 : Int32)) n1)
    (e2 : vp_in (v4 + (2 : Int32)) n1)
    (ko : xOb sh r2 10)
    (k : xg d qM_size [.ref r2, .int (I r0 (v4 + (1 : Int32)).toNatClampNeg), .int (I r0 (v4 + (2 : Int32)).toNatClampNeg)] (sh, I, J) (xI (fun v h1 => xG d zm_W_law (131, [some (.ref r0), some (.ref r1), some (.ref r2), some (.ref r3), some (.int v4), some (.int t0), o6], [.int v]) h1 Q) (fun x h1 => Q (.inr x) h1))) :
    xG d zm_W_law (113, [some (.ref r0), some (.ref r1), some (.ref r2), some (.ref r3), some (.int v4), o5, o6], [.int t0]) (sh, I, J) Q := by
  obtain rfl := e0.eq
  exact xG_N 12 (ps := [xA sh r0 .int, vp_in (v4 + (1 : Int32)) (xlen sh r0), xA sh r0 .int, vp_in (v4 + (2 : Int32)) (xlen sh r0)]) (f1 := (128, [some (.ref r0), some (.ref r1), some (.ref r2), some (.ref r3), some (.int v4), some (.int t0), o6], [.int (I r0 (v4 + (2 : Int32)).toNatClampNeg), .int (I r0 (v4 + (1 : Int32)).toNatClampNeg), .ref r2])) (h1 := (sh, I, J)) rfl ⟨e0.ar, e1, e0.ar, e2⟩ (xG_Ci rfl rfl (Nat.le_of_ble_eq_true rfl) (Nat.le_of_ble_eq_true rfl) ⟨_, _, rfl, ko⟩ rfl k)
set_option maxRecDepth 100000 in
theorem s_W_law_131 {d : Nat} {Q : xO → xH → Prop} {sh : List xS} {I : Nat → Nat → Int32} {J : Nat → Nat → Int64} {r0 : Nat} {r1 : Nat} {r2 : Nat} {r3 : Nat} {v4 : Int32} {v5 : Int32} {o6 : Option Value} {t0 : Int32}
    (ko : xOb sh r2 10)
    (k : xg d qM_thrown [.ref r2] (sh, I, J) (xI (fun v h1 => xG d zm_W_law (137, [some (.ref r0), some (.ref r1), some (.ref r2), some (.ref r3), some (.int v4), some (.int v5), some (.int t0)], [.int v]) h1 Q) (fun x h1 => Q (.inr x) h1))) :
    xG d zm_W_law (131, [some (.ref r0), some (.ref r1), some (.ref r2), some (.ref r3), some (.int v4), some (.int v5), o6], [.int t0]) (sh, I, J) Q := by
  exact xG_N 2 (ps := []) (f1 := (134, [some (.ref r0), some (.ref r1), some (.ref r2), some (.ref r3), some (.int v4), some (.int v5), some (.int t0)], [.ref r2])) (h1 := (sh, I, J)) rfl trivial (xG_Ci rfl rfl (Nat.le_of_ble_eq_true rfl) (Nat.le_of_ble_eq_true rfl) ⟨_, _, rfl, ko⟩ rfl k)
set_option maxRecDepth 100000 in
theorem s_W_law_137 {d : Nat} {Q : xO → xH → Prop} {sh : List xS} {I : Nat → Nat → Int32} {J : Nat → Nat → Int64} {r0 : Nat} {r1 : Nat} {r2 : Nat} {r3 : Nat} {v4 : Int32} {v5 : Int32} {v6 : Int32} {t0 : Int32}
    (k1 : t0 = v5 → xG d zm_W_law (144, [some (.ref r0), some (.ref r1), some (.ref r2), some (.ref r3), some (.int v4), some (.int v5), some (.int v6)], []) (sh, I, J) Q)
    (k2 : ¬ (t0 = v5) → xG d zm_W_law (142, [some (.ref r0), some (.ref r1), some (.ref r2), some (.ref r3), some (.int v4), some (.int v5), some (.int v6)], []) (sh, I, J) Q) :
    xG d zm_W_law (137, [some (.ref r0), some (.ref r1), some (.ref r2), some (.ref r3), some (.int v4), some (.int v5), some (.int v6)], [.int t0]) (sh, I, J) Q := by
  exact xG_N 1 (ps := []) (f1 := (139, [some (.ref r0), some (.ref r1), some (.ref r2), some (.ref r3), some (.int v4), some (.int v5), some (.int v6)], [.int v5, .int t0])) (h1 := (sh, I, J)) rfl trivial (xG_B rfl rfl k1 k2)
set_option maxRecDepth 100000 in
theorem s_W_law_142 {d : Nat} {Q : xO → xH → Prop} {sh : List xS} {I : Nat → Nat → Int32} {J : Nat → Nat → Int64} {r0 : Nat} {r1 : Nat} {r2 : Nat} {r3 : Nat} {v4 : Int32} {v5 : Int32} {v6 : Int32}
    (k : Q (.inl (some (.int (0 : Int32)))) (sh, I, J)) :
    xG d zm_W_law (142, [some (.ref r0), some (.ref r1), some (.ref r2), some (.ref r3), some (.int v4), some (.int v5), some (.int v6)], []) (sh, I, J) Q := by
  exact xG_N 1 (ps := []) (f1 := (143, [some (.ref r0), some (.ref r1), some (.ref r2), some (.ref r3), some (.int v4), some (.int v5), some (.int v6)], [.int (0 : Int32)])) (h1 := (sh, I, J)) rfl trivial (xG_Q rfl rfl (show ((0 : Int32) : Int32) = 0 ∨ ((0 : Int32) : Int32) = 1 by decide) k)
set_option maxRecDepth 100000 in
theorem s_W_law_144 {d : Nat} {Q : xO → xH → Prop} {sh : List xS} {I : Nat → Nat → Int32} {J : Nat → Nat → Int64} {r0 : Nat} {r1 : Nat} {r2 : Nat} {r3 : Nat} {v4 : Int32} {v5 : Int32} {v6 : Int32}
    (k1 : ¬ v5 = 0 → xG d zm_W_law (161, [some (.ref r0), some (.ref r1), some (.ref r2), some (.ref r3), some (.int v4), some (.int v5), some (.int v6)], []) (sh, I, J) Q)
    (k2 : ¬ (¬ v5 = 0) → xG d zm_W_law (149, [some (.ref r0), some (.ref r1), some (.ref r2), some (.ref r3), some (.int v4), some (.int v5), some (.int v6)], []) (sh, I, J) Q) :
    xG d zm_W_law (144, [some (.ref r0), some (.ref r1), some (.ref r2), some (.ref r3), some (.int v4), some (.int v5), some (.int v6)], []) (sh, I, J) Q := by
  exact xG_N 1 (ps := []) (f1 := (146, [some (.ref r0), some (.ref r1), some (.ref r2), some (.ref r3), some (.int v4), some (.int v5), some (.int v6)], [.int v5])) (h1 := (sh, I, J)) rfl trivial (xG_B rfl rfl k1 k2)
set_option maxRecDepth 100000 in
theorem s_W_law_149 {d : Nat} {Q : xO → xH → Prop} {sh : List xS} {I : Nat → Nat → Int32} {J : Nat → Nat → Int64} {r0 : Nat} {r1 : Nat} {r2 : Nat} {r3 : Nat} {v4 : Int32} {v5 : Int32} {v6 : Int32} {n1 : Nat}
    (e0 : xAr sh r3 .long n1)
    (e1 : vp_in (0 : Int32) n1)
    (k1 : (lg_cmp (J r3 0) v6.toInt64) = 0 → xG d zm_W_law (161, [some (.ref r0), some (.ref r1), some (.ref r2), some (.ref r3), some (.int v4), some (.int v5), some (.int v6)], []) (sh, I, J) Q)
    (k2 : ¬ ((lg_cmp (J r3 0) v6.toInt64) = 0) → xG d zm_W_law (159, [some (.ref r0), some (.ref r1), some (.ref r2), some (.ref r3), some (.int v4), some (.int v5), some (.int v6)], []) (sh, I, J) Q) :
    xG d zm_W_law (149, [some (.ref r0), some (.ref r1), some (.ref r2), some (.ref r3), some (.int v4), some (.int v5), some (.int v6)], []) (sh, I, J) Q := by
  obtain rfl := e0.eq
  exact xG_N 6 (ps := [xA sh r3 .long, vp_in (0 : Int32) (xlen sh r3)]) (f1 := (156, [some (.ref r0), some (.ref r1), some (.ref r2), some (.ref r3), some (.int v4), some (.int v5), some (.int v6)], [.int (lg_cmp (J r3 0) v6.toInt64)])) (h1 := (sh, I, J)) rfl ⟨e0.ar, e1⟩ (xG_B rfl rfl k1 k2)
set_option maxRecDepth 100000 in
theorem s_W_law_159 {d : Nat} {Q : xO → xH → Prop} {sh : List xS} {I : Nat → Nat → Int32} {J : Nat → Nat → Int64} {r0 : Nat} {r1 : Nat} {r2 : Nat} {r3 : Nat} {v4 : Int32} {v5 : Int32} {v6 : Int32}
    (k : Q (.inl (some (.int (0 : Int32)))) (sh, I, J)) :
    xG d zm_W_law (159, [some (.ref r0), some (.ref r1), some (.ref r2), some (.ref r3), some (.int v4), some (.int v5), some (.int v6)], []) (sh, I, J) Q := by
  exact xG_N 1 (ps := []) (f1 := (160, [some (.ref r0), some (.ref r1), some (.ref r2), some (.ref r3), some (.int v4), some (.int v5), some (.int v6)], [.int (0 : Int32)])) (h1 := (sh, I, J)) rfl trivial (xG_Q rfl rfl (show ((0 : Int32) : Int32) = 0 ∨ ((0 : Int32) : Int32) = 1 by decide) k)
set_option maxRecDepth 100000 in
theorem s_W_law_161 {d : Nat} {Q : xO → xH → Prop} {sh : List xS} {I : Nat → Nat → Int32} {J : Nat → Nat → Int64} {r0 : Nat} {r1 : Nat} {r2 : Nat} {r3 : Nat} {v4 : Int32} {v5 : Int32} {v6 : Int32}
    (k : xG d zm_W_law (23, [some (.ref r0), some (.ref r1), some (.ref r2), some (.ref r3), some (.int (v4 + (5 : Int32))), some (.int v5), some (.int v6)], []) (sh, I, J) Q) :
    xG d zm_W_law (161, [some (.ref r0), some (.ref r1), some (.ref r2), some (.ref r3), some (.int v4), some (.int v5), some (.int v6)], []) (sh, I, J) Q := by
  exact xG_N 3 (ps := []) (f1 := (23, [some (.ref r0), some (.ref r1), some (.ref r2), some (.ref r3), some (.int (v4 + (5 : Int32))), some (.int v5), some (.int v6)], [])) (h1 := (sh, I, J)) rfl trivial (k)
set_option maxRecDepth 100000 in
theorem s_W_law_164 {d : Nat} {Q : xO → xH → Prop} {sh : List xS} {I : Nat → Nat → Int32} {J : Nat → Nat → Int64} {r0 : Nat} {r1 : Nat} {r2 : Nat} {r3 : Nat} {v4 : Int32} {o5 : Option Value} {o6 : Option Value} {n1 : Nat}
    (e0 : xAr sh r0 .int n1)
    (e1 : vp_in (v4 + (1 : Int32)) n1)
    (e2 : vp_in (v4 + (2 : Int32)) n1)
    (e3 : vp_in (v4 + (3 : Int32)) n1)
    (k : xg d qW_set [.ref r1, .int (I r0 (v4 + (1 : Int32)).toNatClampNeg), .int (I r0 (v4 + (2 : Int32)).toNatClampNeg), .int (I r0 (v4 + (3 : Int32)).toNatClampNeg), .ref r3] (sh, I, J) (xI (fun v h1 => xG d zm_W_law (187, [some (.ref r0), some (.ref r1), some (.ref r2), some (.ref r3), some (.int v4), o5, o6], [.int v]) h1 Q) (fun x h1 => Q (.inr x) h1))) :
    xG d zm_W_law (164, [some (.ref r0), some (.ref r1), some (.ref r2), some (.ref r3), some (.int v4), o5, o6], []) (sh, I, J) Q := by
  obtain rfl := e0.eq
  exact xG_N 17 (ps := [xA sh r0 .int, vp_in (v4 + (1 : Int32)) (xlen sh r0), xA sh r0 .int, vp_in (v4 + (2 : Int32)) (xlen sh r0), xA sh r0 .int, vp_in (v4 + (3 : Int32)) (xlen sh r0)]) (f1 := (184, [some (.ref r0), some (.ref r1), some (.ref r2), some (.ref r3), some (.int v4), o5, o6], [.ref r3, .int (I r0 (v4 + (3 : Int32)).toNatClampNeg), .int (I r0 (v4 + (2 : Int32)).toNatClampNeg), .int (I r0 (v4 + (1 : Int32)).toNatClampNeg), .ref r1])) (h1 := (sh, I, J)) rfl ⟨e0.ar, e1, e0.ar, e2, e0.ar, e3⟩ (xG_Ci rfl rfl (Nat.le_of_ble_eq_true rfl) (Nat.le_of_ble_eq_true rfl) trivial rfl k)
set_option maxRecDepth 100000 in
theorem s_W_law_187 {d : Nat} {Q : xO → xH → Prop} {sh : List xS} {I : Nat → Nat → Int32} {J : Nat → Nat → Int64} {r0 : Nat} {r1 : Nat} {r2 : Nat} {r3 : Nat} {v4 : Int32} {o5 : Option Value} {o6 : Option Value} {t0 : Int32} {n1 : Nat}
    (e0 : xAr sh r0 .int n1)
    (e1 : vp_in (v4 + (1 : Int32)) n1)
    (e2 : vp_in (v4 + (2 : Int32)) n1)
    (e3 : vp_in (v4 + (3 : Int32)) n1)
    (ko : xOb sh r2 10)
    (k : xg d qM_set [.ref r2, .int (I r0 (v4 + (1 : Int32)).toNatClampNeg), .int (I r0 (v4 + (2 : Int32)).toNatClampNeg), .int (I r0 (v4 + (3 : Int32)).toNatClampNeg)] (sh, I, J) (xI (fun v h1 => xG d zm_W_law (211, [some (.ref r0), some (.ref r1), some (.ref r2), some (.ref r3), some (.int v4), some (.int t0), o6], [.int v]) h1 Q) (fun x h1 => Q (.inr x) h1))) :
    xG d zm_W_law (187, [some (.ref r0), some (.ref r1), some (.ref r2), some (.ref r3), some (.int v4), o5, o6], [.int t0]) (sh, I, J) Q := by
  obtain rfl := e0.eq
  exact xG_N 17 (ps := [xA sh r0 .int, vp_in (v4 + (1 : Int32)) (xlen sh r0), xA sh r0 .int, vp_in (v4 + (2 : Int32)) (xlen sh r0), xA sh r0 .int, vp_in (v4 + (3 : Int32)) (xlen sh r0)]) (f1 := (208, [some (.ref r0), some (.ref r1), some (.ref r2), some (.ref r3), some (.int v4), some (.int t0), o6], [.int (I r0 (v4 + (3 : Int32)).toNatClampNeg), .int (I r0 (v4 + (2 : Int32)).toNatClampNeg), .int (I r0 (v4 + (1 : Int32)).toNatClampNeg), .ref r2])) (h1 := (sh, I, J)) rfl ⟨e0.ar, e1, e0.ar, e2, e0.ar, e3⟩ (xG_Ci rfl rfl (Nat.le_of_ble_eq_true rfl) (Nat.le_of_ble_eq_true rfl) ⟨_, _, rfl, ko⟩ rfl k)
set_option maxRecDepth 100000 in
theorem s_W_law_211 {d : Nat} {Q : xO → xH → Prop} {sh : List xS} {I : Nat → Nat → Int32} {J : Nat → Nat → Int64} {r0 : Nat} {r1 : Nat} {r2 : Nat} {r3 : Nat} {v4 : Int32} {v5 : Int32} {o6 : Option Value} {t0 : Int32}
    (ko : xOb sh r2 10)
    (k : xg d qM_thrown [.ref r2] (sh, I, J) (xI (fun v h1 => xG d zm_W_law (217, [some (.ref r0), some (.ref r1), some (.ref r2), some (.ref r3), some (.int v4), some (.int v5), some (.int t0)], [.int v]) h1 Q) (fun x h1 => Q (.inr x) h1))) :
    xG d zm_W_law (211, [some (.ref r0), some (.ref r1), some (.ref r2), some (.ref r3), some (.int v4), some (.int v5), o6], [.int t0]) (sh, I, J) Q := by
  exact xG_N 2 (ps := []) (f1 := (214, [some (.ref r0), some (.ref r1), some (.ref r2), some (.ref r3), some (.int v4), some (.int v5), some (.int t0)], [.ref r2])) (h1 := (sh, I, J)) rfl trivial (xG_Ci rfl rfl (Nat.le_of_ble_eq_true rfl) (Nat.le_of_ble_eq_true rfl) ⟨_, _, rfl, ko⟩ rfl k)
set_option maxRecDepth 100000 in
theorem s_W_law_217 {d : Nat} {Q : xO → xH → Prop} {sh : List xS} {I : Nat → Nat → Int32} {J : Nat → Nat → Int64} {r0 : Nat} {r1 : Nat} {r2 : Nat} {r3 : Nat} {v4 : Int32} {v5 : Int32} {v6 : Int32} {t0 : Int32}
    (k1 : t0 = v5 → xG d zm_W_law (224, [some (.ref r0), some (.ref r1), some (.ref r2), some (.ref r3), some (.int v4), some (.int v5), some (.int v6)], []) (sh, I, J) Q)
    (k2 : ¬ (t0 = v5) → xG d zm_W_law (222, [some (.ref r0), some (.ref r1), some (.ref r2), some (.ref r3), some (.int v4), some (.int v5), some (.int v6)], []) (sh, I, J) Q) :
    xG d zm_W_law (217, [some (.ref r0), some (.ref r1), some (.ref r2), some (.ref r3), some (.int v4), some (.int v5), some (.int v6)], [.int t0]) (sh, I, J) Q := by
  exact xG_N 1 (ps := []) (f1 := (219, [some (.ref r0), some (.ref r1), some (.ref r2), some (.ref r3), some (.int v4), some (.int v5), some (.int v6)], [.int v5, .int t0])) (h1 := (sh, I, J)) rfl trivial (xG_B rfl rfl k1 k2)
set_option maxRecDepth 100000 in
theorem s_W_law_222 {d : Nat} {Q : xO → xH → Prop} {sh : List xS} {I : Nat → Nat → Int32} {J : Nat → Nat → Int64} {r0 : Nat} {r1 : Nat} {r2 : Nat} {r3 : Nat} {v4 : Int32} {v5 : Int32} {v6 : Int32}
    (k : Q (.inl (some (.int (0 : Int32)))) (sh, I, J)) :
    xG d zm_W_law (222, [some (.ref r0), some (.ref r1), some (.ref r2), some (.ref r3), some (.int v4), some (.int v5), some (.int v6)], []) (sh, I, J) Q := by
  exact xG_N 1 (ps := []) (f1 := (223, [some (.ref r0), some (.ref r1), some (.ref r2), some (.ref r3), some (.int v4), some (.int v5), some (.int v6)], [.int (0 : Int32)])) (h1 := (sh, I, J)) rfl trivial (xG_Q rfl rfl (show ((0 : Int32) : Int32) = 0 ∨ ((0 : Int32) : Int32) = 1 by decide) k)
set_option maxRecDepth 100000 in
theorem s_W_law_224 {d : Nat} {Q : xO → xH → Prop} {sh : List xS} {I : Nat → Nat → Int32} {J : Nat → Nat → Int64} {r0 : Nat} {r1 : Nat} {r2 : Nat} {r3 : Nat} {v4 : Int32} {v5 : Int32} {v6 : Int32}
    (k1 : ¬ v5 = 0 → xG d zm_W_law (241, [some (.ref r0), some (.ref r1), some (.ref r2), some (.ref r3), some (.int v4), some (.int v5), some (.int v6)], []) (sh, I, J) Q)
    (k2 : ¬ (¬ v5 = 0) → xG d zm_W_law (229, [some (.ref r0), some (.ref r1), some (.ref r2), some (.ref r3), some (.int v4), some (.int v5), some (.int v6)], []) (sh, I, J) Q) :
    xG d zm_W_law (224, [some (.ref r0), some (.ref r1), some (.ref r2), some (.ref r3), some (.int v4), some (.int v5), some (.int v6)], []) (sh, I, J) Q := by
  exact xG_N 1 (ps := []) (f1 := (226, [some (.ref r0), some (.ref r1), some (.ref r2), some (.ref r3), some (.int v4), some (.int v5), some (.int v6)], [.int v5])) (h1 := (sh, I, J)) rfl trivial (xG_B rfl rfl k1 k2)
set_option maxRecDepth 100000 in
theorem s_W_law_229 {d : Nat} {Q : xO → xH → Prop} {sh : List xS} {I : Nat → Nat → Int32} {J : Nat → Nat → Int64} {r0 : Nat} {r1 : Nat} {r2 : Nat} {r3 : Nat} {v4 : Int32} {v5 : Int32} {v6 : Int32} {n1 : Nat}
    (e0 : xAr sh r3 .long n1)
    (e1 : vp_in (0 : Int32) n1)
    (k1 : (lg_cmp (J r3 0) v6.toInt64) = 0 → xG d zm_W_law (241, [some (.ref r0), some (.ref r1), some (.ref r2), some (.ref r3), some (.int v4), some (.int v5), some (.int v6)], []) (sh, I, J) Q)
    (k2 : ¬ ((lg_cmp (J r3 0) v6.toInt64) = 0) → xG d zm_W_law (239, [some (.ref r0), some (.ref r1), some (.ref r2), some (.ref r3), some (.int v4), some (.int v5), some (.int v6)], []) (sh, I, J) Q) :
    xG d zm_W_law (229, [some (.ref r0), some (.ref r1), some (.ref r2), some (.ref r3), some (.int v4), some (.int v5), some (.int v6)], []) (sh, I, J) Q := by
  obtain rfl := e0.eq
  exact xG_N 6 (ps := [xA sh r3 .long, vp_in (0 : Int32) (xlen sh r3)]) (f1 := (236, [some (.ref r0), some (.ref r1), some (.ref r2), some (.ref r3), some (.int v4), some (.int v5), some (.int v6)], [.int (lg_cmp (J r3 0) v6.toInt64)])) (h1 := (sh, I, J)) rfl ⟨e0.ar, e1⟩ (xG_B rfl rfl k1 k2)
set_option maxRecDepth 100000 in
theorem s_W_law_239 {d : Nat} {Q : xO → xH → Prop} {sh : List xS} {I : Nat → Nat → Int32} {J : Nat → Nat → Int64} {r0 : Nat} {r1 : Nat} {r2 : Nat} {r3 : Nat} {v4 : Int32} {v5 : Int32} {v6 : Int32}
    (k : Q (.inl (some (.int (0 : Int32)))) (sh, I, J)) :
    xG d zm_W_law (239, [some (.ref r0), some (.ref r1), some (.ref r2), some (.ref r3), some (.int v4), some (.int v5), some (.int v6)], []) (sh, I, J) Q := by
  exact xG_N 1 (ps := []) (f1 := (240, [some (.ref r0), some (.ref r1), some (.ref r2), some (.ref r3), some (.int v4), some (.int v5), some (.int v6)], [.int (0 : Int32)])) (h1 := (sh, I, J)) rfl trivial (xG_Q rfl rfl (show ((0 : Int32) : Int32) = 0 ∨ ((0 : Int32) : Int32) = 1 by decide) k)
set_option maxRecDepth 100000 in
theorem s_W_law_241 {d : Nat} {Q : xO → xH → Prop} {sh : List xS} {I : Nat → Nat → Int32} {J : Nat → Nat → Int64} {r0 : Nat} {r1 : Nat} {r2 : Nat} {r3 : Nat} {v4 : Int32} {v5 : Int32} {v6 : Int32}
    (k : xG d zm_W_law (23, [some (.ref r0), some (.ref r1), some (.ref r2), some (.ref r3), some (.int (v4 + (5 : Int32))), some (.int v5), some (.int v6)], []) (sh, I, J) Q) :
    xG d zm_W_law (241, [some (.ref r0), some (.ref r1), some (.ref r2), some (.ref r3), some (.int v4), some (.int v5), some (.int v6)], []) (sh, I, J) Q := by
  exact xG_N 3 (ps := []) (f1 := (23, [some (.ref r0), some (.ref r1), some (.ref r2), some (.ref r3), some (.int (v4 + (5 : Int32))), some (.int v5), some (.int v6)], [])) (h1 := (sh, I, J)) rfl trivial (k)
set_option maxRecDepth 100000 in
theorem s_W_law_244 {d : Nat} {Q : xO → xH → Prop} {sh : List xS} {I : Nat → Nat → Int32} {J : Nat → Nat → Int64} {r0 : Nat} {r1 : Nat} {r2 : Nat} {r3 : Nat} {v4 : Int32} {o5 : Option Value} {o6 : Option Value} {n1 : Nat}
    (e0 : xAr sh r0 .int n1)
    (e1 : vp_in (v4 + (1 : Int32)) n1)
    (e2 : vp_in (v4 + (2 : Int32)) n1)
    (k : xg d qW_pixel [.ref r1, .int (I r0 (v4 + (1 : Int32)).toNatClampNeg), .int (I r0 (v4 + (2 : Int32)).toNatClampNeg), .ref r3] (sh, I, J) (xI (fun v h1 => xG d zm_W_law (261, [some (.ref r0), some (.ref r1), some (.ref r2), some (.ref r3), some (.int v4), o5, o6], [.int v]) h1 Q) (fun x h1 => Q (.inr x) h1))) :
    xG d zm_W_law (244, [some (.ref r0), some (.ref r1), some (.ref r2), some (.ref r3), some (.int v4), o5, o6], []) (sh, I, J) Q := by
  obtain rfl := e0.eq
  exact xG_N 12 (ps := [xA sh r0 .int, vp_in (v4 + (1 : Int32)) (xlen sh r0), xA sh r0 .int, vp_in (v4 + (2 : Int32)) (xlen sh r0)]) (f1 := (258, [some (.ref r0), some (.ref r1), some (.ref r2), some (.ref r3), some (.int v4), o5, o6], [.ref r3, .int (I r0 (v4 + (2 : Int32)).toNatClampNeg), .int (I r0 (v4 + (1 : Int32)).toNatClampNeg), .ref r1])) (h1 := (sh, I, J)) rfl ⟨e0.ar, e1, e0.ar, e2⟩ (xG_Ci rfl rfl (Nat.le_of_ble_eq_true rfl) (Nat.le_of_ble_eq_true rfl) trivial rfl k)
set_option maxRecDepth 100000 in
theorem s_W_law_261 {d : Nat} {Q : xO → xH → Prop} {sh : List xS} {I : Nat → Nat → Int32} {J : Nat → Nat → Int64} {r0 : Nat} {r1 : Nat} {r2 : Nat} {r3 : Nat} {v4 : Int32} {o5 : Option Value} {o6 : Option Value} {t0 : Int32} {n1 : Nat}
    (e0 : xAr sh r0 .int n1)
    (e1 : vp_in (v4 + (1 : Int32)) n1)
    (e2 : vp_in (v4 + (2 : Int32)) n1)
    (ko : xOb sh r2 10)
    (k : xg d qM_pixel [.ref r2, .int (I r0 (v4 + (1 : Int32)).toNatClampNeg), .int (I r0 (v4 + (2 : Int32)).toNatClampNeg)] (sh, I, J) (xI (fun v h1 => xG d zm_W_law (279, [some (.ref r0), some (.ref r1), some (.ref r2), some (.ref r3), some (.int v4), some (.int t0), o6], [.int v]) h1 Q) (fun x h1 => Q (.inr x) h1))) :
    xG d zm_W_law (261, [some (.ref r0), some (.ref r1), some (.ref r2), some (.ref r3), some (.int v4), o5, o6], [.int t0]) (sh, I, J) Q := by
  obtain rfl := e0.eq
  exact xG_N 12 (ps := [xA sh r0 .int, vp_in (v4 + (1 : Int32)) (xlen sh r0), xA sh r0 .int, vp_in (v4 + (2 : Int32)) (xlen sh r0)]) (f1 := (276, [some (.ref r0), some (.ref r1), some (.ref r2), some (.ref r3), some (.int v4), some (.int t0), o6], [.int (I r0 (v4 + (2 : Int32)).toNatClampNeg), .int (I r0 (v4 + (1 : Int32)).toNatClampNeg), .ref r2])) (h1 := (sh, I, J)) rfl ⟨e0.ar, e1, e0.ar, e2⟩ (xG_Ci rfl rfl (Nat.le_of_ble_eq_true rfl) (Nat.le_of_ble_eq_true rfl) ⟨_, _, rfl, ko⟩ rfl k)
set_option maxRecDepth 100000 in
theorem s_W_law_279 {d : Nat} {Q : xO → xH → Prop} {sh : List xS} {I : Nat → Nat → Int32} {J : Nat → Nat → Int64} {r0 : Nat} {r1 : Nat} {r2 : Nat} {r3 : Nat} {v4 : Int32} {v5 : Int32} {o6 : Option Value} {t0 : Int32}
    (ko : xOb sh r2 10)
    (k : xg d qM_thrown [.ref r2] (sh, I, J) (xI (fun v h1 => xG d zm_W_law (285, [some (.ref r0), some (.ref r1), some (.ref r2), some (.ref r3), some (.int v4), some (.int v5), some (.int t0)], [.int v]) h1 Q) (fun x h1 => Q (.inr x) h1))) :
    xG d zm_W_law (279, [some (.ref r0), some (.ref r1), some (.ref r2), some (.ref r3), some (.int v4), some (.int v5), o6], [.int t0]) (sh, I, J) Q := by
  exact xG_N 2 (ps := []) (f1 := (282, [some (.ref r0), some (.ref r1), some (.ref r2), some (.ref r3), some (.int v4), some (.int v5), some (.int t0)], [.ref r2])) (h1 := (sh, I, J)) rfl trivial (xG_Ci rfl rfl (Nat.le_of_ble_eq_true rfl) (Nat.le_of_ble_eq_true rfl) ⟨_, _, rfl, ko⟩ rfl k)
set_option maxRecDepth 100000 in
theorem s_W_law_285 {d : Nat} {Q : xO → xH → Prop} {sh : List xS} {I : Nat → Nat → Int32} {J : Nat → Nat → Int64} {r0 : Nat} {r1 : Nat} {r2 : Nat} {r3 : Nat} {v4 : Int32} {v5 : Int32} {v6 : Int32} {t0 : Int32}
    (k1 : t0 = v5 → xG d zm_W_law (292, [some (.ref r0), some (.ref r1), some (.ref r2), some (.ref r3), some (.int v4), some (.int v5), some (.int v6)], []) (sh, I, J) Q)
    (k2 : ¬ (t0 = v5) → xG d zm_W_law (290, [some (.ref r0), some (.ref r1), some (.ref r2), some (.ref r3), some (.int v4), some (.int v5), some (.int v6)], []) (sh, I, J) Q) :
    xG d zm_W_law (285, [some (.ref r0), some (.ref r1), some (.ref r2), some (.ref r3), some (.int v4), some (.int v5), some (.int v6)], [.int t0]) (sh, I, J) Q := by
  exact xG_N 1 (ps := []) (f1 := (287, [some (.ref r0), some (.ref r1), some (.ref r2), some (.ref r3), some (.int v4), some (.int v5), some (.int v6)], [.int v5, .int t0])) (h1 := (sh, I, J)) rfl trivial (xG_B rfl rfl k1 k2)
set_option maxRecDepth 100000 in
theorem s_W_law_290 {d : Nat} {Q : xO → xH → Prop} {sh : List xS} {I : Nat → Nat → Int32} {J : Nat → Nat → Int64} {r0 : Nat} {r1 : Nat} {r2 : Nat} {r3 : Nat} {v4 : Int32} {v5 : Int32} {v6 : Int32}
    (k : Q (.inl (some (.int (0 : Int32)))) (sh, I, J)) :
    xG d zm_W_law (290, [some (.ref r0), some (.ref r1), some (.ref r2), some (.ref r3), some (.int v4), some (.int v5), some (.int v6)], []) (sh, I, J) Q := by
  exact xG_N 1 (ps := []) (f1 := (291, [some (.ref r0), some (.ref r1), some (.ref r2), some (.ref r3), some (.int v4), some (.int v5), some (.int v6)], [.int (0 : Int32)])) (h1 := (sh, I, J)) rfl trivial (xG_Q rfl rfl (show ((0 : Int32) : Int32) = 0 ∨ ((0 : Int32) : Int32) = 1 by decide) k)
set_option maxRecDepth 100000 in
theorem s_W_law_292 {d : Nat} {Q : xO → xH → Prop} {sh : List xS} {I : Nat → Nat → Int32} {J : Nat → Nat → Int64} {r0 : Nat} {r1 : Nat} {r2 : Nat} {r3 : Nat} {v4 : Int32} {v5 : Int32} {v6 : Int32}
    (k1 : ¬ v5 = 0 → xG d zm_W_law (309, [some (.ref r0), some (.ref r1), some (.ref r2), some (.ref r3), some (.int v4), some (.int v5), some (.int v6)], []) (sh, I, J) Q)
    (k2 : ¬ (¬ v5 = 0) → xG d zm_W_law (297, [some (.ref r0), some (.ref r1), some (.ref r2), some (.ref r3), some (.int v4), some (.int v5), some (.int v6)], []) (sh, I, J) Q) :
    xG d zm_W_law (292, [some (.ref r0), some (.ref r1), some (.ref r2), some (.ref r3), some (.int v4), some (.int v5), some (.int v6)], []) (sh, I, J) Q := by
  exact xG_N 1 (ps := []) (f1 := (294, [some (.ref r0), some (.ref r1), some (.ref r2), some (.ref r3), some (.int v4), some (.int v5), some (.int v6)], [.int v5])) (h1 := (sh, I, J)) rfl trivial (xG_B rfl rfl k1 k2)
set_option maxRecDepth 100000 in
theorem s_W_law_297 {d : Nat} {Q : xO → xH → Prop} {sh : List xS} {I : Nat → Nat → Int32} {J : Nat → Nat → Int64} {r0 : Nat} {r1 : Nat} {r2 : Nat} {r3 : Nat} {v4 : Int32} {v5 : Int32} {v6 : Int32} {n1 : Nat}
    (e0 : xAr sh r3 .long n1)
    (e1 : vp_in (0 : Int32) n1)
    (k1 : (lg_cmp (J r3 0) v6.toInt64) = 0 → xG d zm_W_law (309, [some (.ref r0), some (.ref r1), some (.ref r2), some (.ref r3), some (.int v4), some (.int v5), some (.int v6)], []) (sh, I, J) Q)
    (k2 : ¬ ((lg_cmp (J r3 0) v6.toInt64) = 0) → xG d zm_W_law (307, [some (.ref r0), some (.ref r1), some (.ref r2), some (.ref r3), some (.int v4), some (.int v5), some (.int v6)], []) (sh, I, J) Q) :
    xG d zm_W_law (297, [some (.ref r0), some (.ref r1), some (.ref r2), some (.ref r3), some (.int v4), some (.int v5), some (.int v6)], []) (sh, I, J) Q := by
  obtain rfl := e0.eq
  exact xG_N 6 (ps := [xA sh r3 .long, vp_in (0 : Int32) (xlen sh r3)]) (f1 := (304, [some (.ref r0), some (.ref r1), some (.ref r2), some (.ref r3), some (.int v4), some (.int v5), some (.int v6)], [.int (lg_cmp (J r3 0) v6.toInt64)])) (h1 := (sh, I, J)) rfl ⟨e0.ar, e1⟩ (xG_B rfl rfl k1 k2)
set_option maxRecDepth 100000 in
theorem s_W_law_307 {d : Nat} {Q : xO → xH → Prop} {sh : List xS} {I : Nat → Nat → Int32} {J : Nat → Nat → Int64} {r0 : Nat} {r1 : Nat} {r2 : Nat} {r3 : Nat} {v4 : Int32} {v5 : Int32} {v6 : Int32}
    (k : Q (.inl (some (.int (0 : Int32)))) (sh, I, J)) :
    xG d zm_W_law (307, [some (.ref r0), some (.ref r1), some (.ref r2), some (.ref r3), some (.int v4), some (.int v5), some (.int v6)], []) (sh, I, J) Q := by
  exact xG_N 1 (ps := []) (f1 := (308, [some (.ref r0), some (.ref r1), some (.ref r2), some (.ref r3), some (.int v4), some (.int v5), some (.int v6)], [.int (0 : Int32)])) (h1 := (sh, I, J)) rfl trivial (xG_Q rfl rfl (show ((0 : Int32) : Int32) = 0 ∨ ((0 : Int32) : Int32) = 1 by decide) k)
set_option maxRecDepth 100000 in
theorem s_W_law_309 {d : Nat} {Q : xO → xH → Prop} {sh : List xS} {I : Nat → Nat → Int32} {J : Nat → Nat → Int64} {r0 : Nat} {r1 : Nat} {r2 : Nat} {r3 : Nat} {v4 : Int32} {v5 : Int32} {v6 : Int32}
    (k : xG d zm_W_law (23, [some (.ref r0), some (.ref r1), some (.ref r2), some (.ref r3), some (.int (v4 + (5 : Int32))), some (.int v5), some (.int v6)], []) (sh, I, J) Q) :
    xG d zm_W_law (309, [some (.ref r0), some (.ref r1), some (.ref r2), some (.ref r3), some (.int v4), some (.int v5), some (.int v6)], []) (sh, I, J) Q := by
  exact xG_N 3 (ps := []) (f1 := (23, [some (.ref r0), some (.ref r1), some (.ref r2), some (.ref r3), some (.int (v4 + (5 : Int32))), some (.int v5), some (.int v6)], [])) (h1 := (sh, I, J)) rfl trivial (k)
set_option maxRecDepth 100000 in
theorem s_W_law_312 {d : Nat} {Q : xO → xH → Prop} {sh : List xS} {I : Nat → Nat → Int32} {J : Nat → Nat → Int64} {r0 : Nat} {r1 : Nat} {r2 : Nat} {r3 : Nat} {v4 : Int32} {o5 : Option Value} {o6 : Option Value} {n1 : Nat}
    (e0 : xAr sh r0 .int n1)
    (e1 : vp_in (v4 + (1 : Int32)) n1)
    (ko : xOb sh r1 0)
    (k : xg d qL_measure [.ref r1, .int (I r0 (v4 + (1 : Int32)).toNatClampNeg)] (sh, I, J) (xI (fun v h1 => xG d zm_W_law (322, [some (.ref r0), some (.ref r1), some (.ref r2), some (.ref r3), some (.int v4), o5, o6], [.int v]) h1 Q) (fun x h1 => Q (.inr x) h1))) :
    xG d zm_W_law (312, [some (.ref r0), some (.ref r1), some (.ref r2), some (.ref r3), some (.int v4), o5, o6], []) (sh, I, J) Q := by
  obtain rfl := e0.eq
  exact xG_N 6 (ps := [xA sh r0 .int, vp_in (v4 + (1 : Int32)) (xlen sh r0)]) (f1 := (319, [some (.ref r0), some (.ref r1), some (.ref r2), some (.ref r3), some (.int v4), o5, o6], [.int (I r0 (v4 + (1 : Int32)).toNatClampNeg), .ref r1])) (h1 := (sh, I, J)) rfl ⟨e0.ar, e1⟩ (xG_Ci rfl rfl (Nat.le_of_ble_eq_true rfl) (Nat.le_of_ble_eq_true rfl) ⟨_, _, rfl, ko⟩ rfl k)
set_option maxRecDepth 100000 in
theorem s_W_law_322 {d : Nat} {Q : xO → xH → Prop} {sh : List xS} {I : Nat → Nat → Int32} {J : Nat → Nat → Int64} {r0 : Nat} {r1 : Nat} {r2 : Nat} {r3 : Nat} {v4 : Int32} {o5 : Option Value} {o6 : Option Value} {t0 : Int32} {n1 : Nat}
    (e0 : xAr sh r0 .int n1)
    (e1 : vp_in (v4 + (1 : Int32)) n1)
    (ko : xOb sh r2 10)
    (k : xg d qM_measure [.ref r2, .int (I r0 (v4 + (1 : Int32)).toNatClampNeg)] (sh, I, J) (xI (fun v h1 => xG d zm_W_law (332, [some (.ref r0), some (.ref r1), some (.ref r2), some (.ref r3), some (.int v4), o5, o6], [.int v, .int t0]) h1 Q) (fun x h1 => Q (.inr x) h1))) :
    xG d zm_W_law (322, [some (.ref r0), some (.ref r1), some (.ref r2), some (.ref r3), some (.int v4), o5, o6], [.int t0]) (sh, I, J) Q := by
  obtain rfl := e0.eq
  exact xG_N 6 (ps := [xA sh r0 .int, vp_in (v4 + (1 : Int32)) (xlen sh r0)]) (f1 := (329, [some (.ref r0), some (.ref r1), some (.ref r2), some (.ref r3), some (.int v4), o5, o6], [.int (I r0 (v4 + (1 : Int32)).toNatClampNeg), .ref r2, .int t0])) (h1 := (sh, I, J)) rfl ⟨e0.ar, e1⟩ (xG_Ci rfl rfl (Nat.le_of_ble_eq_true rfl) (Nat.le_of_ble_eq_true rfl) ⟨_, _, rfl, ko⟩ rfl k)
set_option maxRecDepth 100000 in
theorem s_W_law_332 {d : Nat} {Q : xO → xH → Prop} {sh : List xS} {I : Nat → Nat → Int32} {J : Nat → Nat → Int64} {r0 : Nat} {r1 : Nat} {r2 : Nat} {r3 : Nat} {v4 : Int32} {o5 : Option Value} {o6 : Option Value} {t0 : Int32} {t1 : Int32}
    (k1 : t0 = t1 → xG d zm_W_law (693, [some (.ref r0), some (.ref r1), some (.ref r2), some (.ref r3), some (.int v4), o5, o6], []) (sh, I, J) Q)
    (k2 : ¬ (t0 = t1) → xG d zm_W_law (335, [some (.ref r0), some (.ref r1), some (.ref r2), some (.ref r3), some (.int v4), o5, o6], []) (sh, I, J) Q) :
    xG d zm_W_law (332, [some (.ref r0), some (.ref r1), some (.ref r2), some (.ref r3), some (.int v4), o5, o6], [.int t1, .int t0]) (sh, I, J) Q := by
  exact xG_B rfl rfl k1 k2
set_option maxRecDepth 100000 in
theorem s_W_law_335 {d : Nat} {Q : xO → xH → Prop} {sh : List xS} {I : Nat → Nat → Int32} {J : Nat → Nat → Int64} {r0 : Nat} {r1 : Nat} {r2 : Nat} {r3 : Nat} {v4 : Int32} {o5 : Option Value} {o6 : Option Value}
    (k : Q (.inl (some (.int (0 : Int32)))) (sh, I, J)) :
    xG d zm_W_law (335, [some (.ref r0), some (.ref r1), some (.ref r2), some (.ref r3), some (.int v4), o5, o6], []) (sh, I, J) Q := by
  exact xG_N 1 (ps := []) (f1 := (336, [some (.ref r0), some (.ref r1), some (.ref r2), some (.ref r3), some (.int v4), o5, o6], [.int (0 : Int32)])) (h1 := (sh, I, J)) rfl trivial (xG_Q rfl rfl (show ((0 : Int32) : Int32) = 0 ∨ ((0 : Int32) : Int32) = 1 by decide) k)
set_option maxRecDepth 100000 in
theorem s_W_law_337 {d : Nat} {Q : xO → xH → Prop} {sh : List xS} {I : Nat → Nat → Int32} {J : Nat → Nat → Int64} {r0 : Nat} {r1 : Nat} {r2 : Nat} {r3 : Nat} {v4 : Int32} {o5 : Option Value} {o6 : Option Value} {n1 : Nat}
    (e0 : xAr sh r0 .int n1)
    (e1 : vp_in (v4 + (1 : Int32)) n1)
    (e2 : vp_in (v4 + (2 : Int32)) n1)
    (e3 : vp_in (v4 + (3 : Int32)) n1)
    (ko : xOb sh r1 0)
    (k : xg d qL_feed [.ref r1, .long ((((I r0 (v4 + (1 : Int32)).toNatClampNeg).toInt64) <<< ((32 : Int32).toInt64 &&& 63)) ||| (((I r0 (v4 + (2 : Int32)).toNatClampNeg).toInt64) &&& (4294967295 : Int64))), .int (I r0 (v4 + (3 : Int32)).toNatClampNeg)] (sh, I, J) (xI (fun v h1 => xG d zm_W_law (369, [some (.ref r0), some (.ref r1), some (.ref r2), some (.ref r3), some (.int v4), o5, o6], [.int v]) h1 Q) (fun x h1 => Q (.inr x) h1))) :
    xG d zm_W_law (337, [some (.ref r0), some (.ref r1), some (.ref r2), some (.ref r3), some (.int v4), o5, o6], []) (sh, I, J) Q := by
  obtain rfl := e0.eq
  exact xG_N 23 (ps := [xA sh r0 .int, vp_in (v4 + (1 : Int32)) (xlen sh r0), xA sh r0 .int, vp_in (v4 + (2 : Int32)) (xlen sh r0), xA sh r0 .int, vp_in (v4 + (3 : Int32)) (xlen sh r0)]) (f1 := (366, [some (.ref r0), some (.ref r1), some (.ref r2), some (.ref r3), some (.int v4), o5, o6], [.int (I r0 (v4 + (3 : Int32)).toNatClampNeg), .long ((((I r0 (v4 + (1 : Int32)).toNatClampNeg).toInt64) <<< ((32 : Int32).toInt64 &&& 63)) ||| (((I r0 (v4 + (2 : Int32)).toNatClampNeg).toInt64) &&& (4294967295 : Int64))), .ref r1])) (h1 := (sh, I, J)) rfl ⟨e0.ar, e1, e0.ar, e2, e0.ar, e3⟩ (xG_Ci rfl rfl (Nat.le_of_ble_eq_true rfl) (Nat.le_of_ble_eq_true rfl) ⟨_, _, rfl, ko⟩ rfl k)
set_option maxRecDepth 100000 in
theorem s_W_law_369 {d : Nat} {Q : xO → xH → Prop} {sh : List xS} {I : Nat → Nat → Int32} {J : Nat → Nat → Int64} {r0 : Nat} {r1 : Nat} {r2 : Nat} {r3 : Nat} {v4 : Int32} {o5 : Option Value} {o6 : Option Value} {t0 : Int32} {n1 : Nat}
    (e0 : xAr sh r0 .int n1)
    (e1 : vp_in (v4 + (1 : Int32)) n1)
    (e2 : vp_in (v4 + (2 : Int32)) n1)
    (e3 : vp_in (v4 + (3 : Int32)) n1)
    (ko : xOb sh r2 10)
    (k : xg d qM_feed [.ref r2, .long ((((I r0 (v4 + (1 : Int32)).toNatClampNeg).toInt64) <<< ((32 : Int32).toInt64 &&& 63)) ||| (((I r0 (v4 + (2 : Int32)).toNatClampNeg).toInt64) &&& (4294967295 : Int64))), .int (I r0 (v4 + (3 : Int32)).toNatClampNeg)] (sh, I, J) (xI (fun v h1 => xG d zm_W_law (401, [some (.ref r0), some (.ref r1), some (.ref r2), some (.ref r3), some (.int v4), o5, o6], [.int v, .int t0]) h1 Q) (fun x h1 => Q (.inr x) h1))) :
    xG d zm_W_law (369, [some (.ref r0), some (.ref r1), some (.ref r2), some (.ref r3), some (.int v4), o5, o6], [.int t0]) (sh, I, J) Q := by
  obtain rfl := e0.eq
  exact xG_N 23 (ps := [xA sh r0 .int, vp_in (v4 + (1 : Int32)) (xlen sh r0), xA sh r0 .int, vp_in (v4 + (2 : Int32)) (xlen sh r0), xA sh r0 .int, vp_in (v4 + (3 : Int32)) (xlen sh r0)]) (f1 := (398, [some (.ref r0), some (.ref r1), some (.ref r2), some (.ref r3), some (.int v4), o5, o6], [.int (I r0 (v4 + (3 : Int32)).toNatClampNeg), .long ((((I r0 (v4 + (1 : Int32)).toNatClampNeg).toInt64) <<< ((32 : Int32).toInt64 &&& 63)) ||| (((I r0 (v4 + (2 : Int32)).toNatClampNeg).toInt64) &&& (4294967295 : Int64))), .ref r2, .int t0])) (h1 := (sh, I, J)) rfl ⟨e0.ar, e1, e0.ar, e2, e0.ar, e3⟩ (xG_Ci rfl rfl (Nat.le_of_ble_eq_true rfl) (Nat.le_of_ble_eq_true rfl) ⟨_, _, rfl, ko⟩ rfl k)
set_option maxRecDepth 100000 in
theorem s_W_law_401 {d : Nat} {Q : xO → xH → Prop} {sh : List xS} {I : Nat → Nat → Int32} {J : Nat → Nat → Int64} {r0 : Nat} {r1 : Nat} {r2 : Nat} {r3 : Nat} {v4 : Int32} {o5 : Option Value} {o6 : Option Value} {t0 : Int32} {t1 : Int32}
    (k1 : t0 = t1 → xG d zm_W_law (693, [some (.ref r0), some (.ref r1), some (.ref r2), some (.ref r3), some (.int v4), o5, o6], []) (sh, I, J) Q)
    (k2 : ¬ (t0 = t1) → xG d zm_W_law (404, [some (.ref r0), some (.ref r1), some (.ref r2), some (.ref r3), some (.int v4), o5, o6], []) (sh, I, J) Q) :
    xG d zm_W_law (401, [some (.ref r0), some (.ref r1), some (.ref r2), some (.ref r3), some (.int v4), o5, o6], [.int t1, .int t0]) (sh, I, J) Q := by
  exact xG_B rfl rfl k1 k2
set_option maxRecDepth 100000 in
theorem s_W_law_404 {d : Nat} {Q : xO → xH → Prop} {sh : List xS} {I : Nat → Nat → Int32} {J : Nat → Nat → Int64} {r0 : Nat} {r1 : Nat} {r2 : Nat} {r3 : Nat} {v4 : Int32} {o5 : Option Value} {o6 : Option Value}
    (k : Q (.inl (some (.int (0 : Int32)))) (sh, I, J)) :
    xG d zm_W_law (404, [some (.ref r0), some (.ref r1), some (.ref r2), some (.ref r3), some (.int v4), o5, o6], []) (sh, I, J) Q := by
  exact xG_N 1 (ps := []) (f1 := (405, [some (.ref r0), some (.ref r1), some (.ref r2), some (.ref r3), some (.int v4), o5, o6], [.int (0 : Int32)])) (h1 := (sh, I, J)) rfl trivial (xG_Q rfl rfl (show ((0 : Int32) : Int32) = 0 ∨ ((0 : Int32) : Int32) = 1 by decide) k)
set_option maxRecDepth 100000 in
theorem s_W_law_406 {d : Nat} {Q : xO → xH → Prop} {sh : List xS} {I : Nat → Nat → Int32} {J : Nat → Nat → Int64} {r0 : Nat} {r1 : Nat} {r2 : Nat} {r3 : Nat} {v4 : Int32} {o5 : Option Value} {o6 : Option Value}
    (ko : xOb sh r1 0)
    (k : xg d qL_wipe [.ref r1] (sh, I, J) (xI (fun v h1 => xG d zm_W_law (410, [some (.ref r0), some (.ref r1), some (.ref r2), some (.ref r3), some (.int v4), o5, o6], [.int v]) h1 Q) (fun x h1 => Q (.inr x) h1))) :
    xG d zm_W_law (406, [some (.ref r0), some (.ref r1), some (.ref r2), some (.ref r3), some (.int v4), o5, o6], []) (sh, I, J) Q := by
  exact xG_N 1 (ps := []) (f1 := (407, [some (.ref r0), some (.ref r1), some (.ref r2), some (.ref r3), some (.int v4), o5, o6], [.ref r1])) (h1 := (sh, I, J)) rfl trivial (xG_Ci rfl rfl (Nat.le_of_ble_eq_true rfl) (Nat.le_of_ble_eq_true rfl) ⟨_, _, rfl, ko⟩ rfl k)
set_option maxRecDepth 100000 in
theorem s_W_law_410 {d : Nat} {Q : xO → xH → Prop} {sh : List xS} {I : Nat → Nat → Int32} {J : Nat → Nat → Int64} {r0 : Nat} {r1 : Nat} {r2 : Nat} {r3 : Nat} {v4 : Int32} {o5 : Option Value} {o6 : Option Value} {t0 : Int32}
    (ko : xOb sh r2 10)
    (k : xg d qM_wipe [.ref r2] (sh, I, J) (xI (fun v h1 => xG d zm_W_law (414, [some (.ref r0), some (.ref r1), some (.ref r2), some (.ref r3), some (.int v4), o5, o6], [.int v, .int t0]) h1 Q) (fun x h1 => Q (.inr x) h1))) :
    xG d zm_W_law (410, [some (.ref r0), some (.ref r1), some (.ref r2), some (.ref r3), some (.int v4), o5, o6], [.int t0]) (sh, I, J) Q := by
  exact xG_N 1 (ps := []) (f1 := (411, [some (.ref r0), some (.ref r1), some (.ref r2), some (.ref r3), some (.int v4), o5, o6], [.ref r2, .int t0])) (h1 := (sh, I, J)) rfl trivial (xG_Ci rfl rfl (Nat.le_of_ble_eq_true rfl) (Nat.le_of_ble_eq_true rfl) ⟨_, _, rfl, ko⟩ rfl k)
set_option maxRecDepth 100000 in
theorem s_W_law_414 {d : Nat} {Q : xO → xH → Prop} {sh : List xS} {I : Nat → Nat → Int32} {J : Nat → Nat → Int64} {r0 : Nat} {r1 : Nat} {r2 : Nat} {r3 : Nat} {v4 : Int32} {o5 : Option Value} {o6 : Option Value} {t0 : Int32} {t1 : Int32}
    (k1 : t0 = t1 → xG d zm_W_law (693, [some (.ref r0), some (.ref r1), some (.ref r2), some (.ref r3), some (.int v4), o5, o6], []) (sh, I, J) Q)
    (k2 : ¬ (t0 = t1) → xG d zm_W_law (417, [some (.ref r0), some (.ref r1), some (.ref r2), some (.ref r3), some (.int v4), o5, o6], []) (sh, I, J) Q) :
    xG d zm_W_law (414, [some (.ref r0), some (.ref r1), some (.ref r2), some (.ref r3), some (.int v4), o5, o6], [.int t1, .int t0]) (sh, I, J) Q := by
  exact xG_B rfl rfl k1 k2
set_option maxRecDepth 100000 in
theorem s_W_law_417 {d : Nat} {Q : xO → xH → Prop} {sh : List xS} {I : Nat → Nat → Int32} {J : Nat → Nat → Int64} {r0 : Nat} {r1 : Nat} {r2 : Nat} {r3 : Nat} {v4 : Int32} {o5 : Option Value} {o6 : Option Value}
    (k : Q (.inl (some (.int (0 : Int32)))) (sh, I, J)) :
    xG d zm_W_law (417, [some (.ref r0), some (.ref r1), some (.ref r2), some (.ref r3), some (.int v4), o5, o6], []) (sh, I, J) Q := by
  exact xG_N 1 (ps := []) (f1 := (418, [some (.ref r0), some (.ref r1), some (.ref r2), some (.ref r3), some (.int v4), o5, o6], [.int (0 : Int32)])) (h1 := (sh, I, J)) rfl trivial (xG_Q rfl rfl (show ((0 : Int32) : Int32) = 0 ∨ ((0 : Int32) : Int32) = 1 by decide) k)
set_option maxRecDepth 100000 in
theorem s_W_law_419 {d : Nat} {Q : xO → xH → Prop} {sh : List xS} {I : Nat → Nat → Int32} {J : Nat → Nat → Int64} {r0 : Nat} {r1 : Nat} {r2 : Nat} {r3 : Nat} {v4 : Int32} {o5 : Option Value} {o6 : Option Value} {n1 : Nat}
    (e0 : xAr sh r0 .int n1)
    (e1 : vp_in (v4 + (1 : Int32)) n1)
    (ko : xOb sh r1 0)
    (k : xg d qL_byteAt [.ref r1, .int (I r0 (v4 + (1 : Int32)).toNatClampNeg)] (sh, I, J) (xI (fun v h1 => xG d zm_W_law (429, [some (.ref r0), some (.ref r1), some (.ref r2), some (.ref r3), some (.int v4), o5, o6], [.int v]) h1 Q) (fun x h1 => Q (.inr x) h1))) :
    xG d zm_W_law (419, [some (.ref r0), some (.ref r1), some (.ref r2), some (.ref r3), some (.int v4), o5, o6], []) (sh, I, J) Q := by
  obtain rfl := e0.eq
  exact xG_N 6 (ps := [xA sh r0 .int, vp_in (v4 + (1 : Int32)) (xlen sh r0)]) (f1 := (426, [some (.ref r0), some (.ref r1), some (.ref r2), some (.ref r3), some (.int v4), o5, o6], [.int (I r0 (v4 + (1 : Int32)).toNatClampNeg), .ref r1])) (h1 := (sh, I, J)) rfl ⟨e0.ar, e1⟩ (xG_Ci rfl rfl (Nat.le_of_ble_eq_true rfl) (Nat.le_of_ble_eq_true rfl) ⟨_, _, rfl, ko⟩ rfl k)
set_option maxRecDepth 100000 in
theorem s_W_law_429 {d : Nat} {Q : xO → xH → Prop} {sh : List xS} {I : Nat → Nat → Int32} {J : Nat → Nat → Int64} {r0 : Nat} {r1 : Nat} {r2 : Nat} {r3 : Nat} {v4 : Int32} {o5 : Option Value} {o6 : Option Value} {t0 : Int32} {n1 : Nat}
    (e0 : xAr sh r0 .int n1)
    (e1 : vp_in (v4 + (1 : Int32)) n1)
    (ko : xOb sh r2 10)
    (k : xg d qM_byteAt [.ref r2, .int (I r0 (v4 + (1 : Int32)).toNatClampNeg)] (sh, I, J) (xI (fun v h1 => xG d zm_W_law (439, [some (.ref r0), some (.ref r1), some (.ref r2), some (.ref r3), some (.int v4), o5, o6], [.int v, .int t0]) h1 Q) (fun x h1 => Q (.inr x) h1))) :
    xG d zm_W_law (429, [some (.ref r0), some (.ref r1), some (.ref r2), some (.ref r3), some (.int v4), o5, o6], [.int t0]) (sh, I, J) Q := by
  obtain rfl := e0.eq
  exact xG_N 6 (ps := [xA sh r0 .int, vp_in (v4 + (1 : Int32)) (xlen sh r0)]) (f1 := (436, [some (.ref r0), some (.ref r1), some (.ref r2), some (.ref r3), some (.int v4), o5, o6], [.int (I r0 (v4 + (1 : Int32)).toNatClampNeg), .ref r2, .int t0])) (h1 := (sh, I, J)) rfl ⟨e0.ar, e1⟩ (xG_Ci rfl rfl (Nat.le_of_ble_eq_true rfl) (Nat.le_of_ble_eq_true rfl) ⟨_, _, rfl, ko⟩ rfl k)
set_option maxRecDepth 100000 in
theorem s_W_law_439 {d : Nat} {Q : xO → xH → Prop} {sh : List xS} {I : Nat → Nat → Int32} {J : Nat → Nat → Int64} {r0 : Nat} {r1 : Nat} {r2 : Nat} {r3 : Nat} {v4 : Int32} {o5 : Option Value} {o6 : Option Value} {t0 : Int32} {t1 : Int32}
    (k1 : t0 = t1 → xG d zm_W_law (693, [some (.ref r0), some (.ref r1), some (.ref r2), some (.ref r3), some (.int v4), o5, o6], []) (sh, I, J) Q)
    (k2 : ¬ (t0 = t1) → xG d zm_W_law (442, [some (.ref r0), some (.ref r1), some (.ref r2), some (.ref r3), some (.int v4), o5, o6], []) (sh, I, J) Q) :
    xG d zm_W_law (439, [some (.ref r0), some (.ref r1), some (.ref r2), some (.ref r3), some (.int v4), o5, o6], [.int t1, .int t0]) (sh, I, J) Q := by
  exact xG_B rfl rfl k1 k2
set_option maxRecDepth 100000 in
theorem s_W_law_442 {d : Nat} {Q : xO → xH → Prop} {sh : List xS} {I : Nat → Nat → Int32} {J : Nat → Nat → Int64} {r0 : Nat} {r1 : Nat} {r2 : Nat} {r3 : Nat} {v4 : Int32} {o5 : Option Value} {o6 : Option Value}
    (k : Q (.inl (some (.int (0 : Int32)))) (sh, I, J)) :
    xG d zm_W_law (442, [some (.ref r0), some (.ref r1), some (.ref r2), some (.ref r3), some (.int v4), o5, o6], []) (sh, I, J) Q := by
  exact xG_N 1 (ps := []) (f1 := (443, [some (.ref r0), some (.ref r1), some (.ref r2), some (.ref r3), some (.int v4), o5, o6], [.int (0 : Int32)])) (h1 := (sh, I, J)) rfl trivial (xG_Q rfl rfl (show ((0 : Int32) : Int32) = 0 ∨ ((0 : Int32) : Int32) = 1 by decide) k)
set_option maxRecDepth 100000 in
theorem s_W_law_444 {d : Nat} {Q : xO → xH → Prop} {sh : List xS} {I : Nat → Nat → Int32} {J : Nat → Nat → Int64} {r0 : Nat} {r1 : Nat} {r2 : Nat} {r3 : Nat} {v4 : Int32} {o5 : Option Value} {o6 : Option Value} {n1 : Nat}
    (e0 : xAr sh r0 .int n1)
    (e1 : vp_in (v4 + (1 : Int32)) n1)
    (k : xg d qW_flip [.ref r1, .int (I r0 (v4 + (1 : Int32)).toNatClampNeg), .ref r3] (sh, I, J) (xI (fun v h1 => xG d zm_W_law (455, [some (.ref r0), some (.ref r1), some (.ref r2), some (.ref r3), some (.int v4), o5, o6], [.int v]) h1 Q) (fun x h1 => Q (.inr x) h1))) :
    xG d zm_W_law (444, [some (.ref r0), some (.ref r1), some (.ref r2), some (.ref r3), some (.int v4), o5, o6], []) (sh, I, J) Q := by
  obtain rfl := e0.eq
  exact xG_N 7 (ps := [xA sh r0 .int, vp_in (v4 + (1 : Int32)) (xlen sh r0)]) (f1 := (452, [some (.ref r0), some (.ref r1), some (.ref r2), some (.ref r3), some (.int v4), o5, o6], [.ref r3, .int (I r0 (v4 + (1 : Int32)).toNatClampNeg), .ref r1])) (h1 := (sh, I, J)) rfl ⟨e0.ar, e1⟩ (xG_Ci rfl rfl (Nat.le_of_ble_eq_true rfl) (Nat.le_of_ble_eq_true rfl) trivial rfl k)
set_option maxRecDepth 100000 in
theorem s_W_law_455 {d : Nat} {Q : xO → xH → Prop} {sh : List xS} {I : Nat → Nat → Int32} {J : Nat → Nat → Int64} {r0 : Nat} {r1 : Nat} {r2 : Nat} {r3 : Nat} {v4 : Int32} {o5 : Option Value} {o6 : Option Value} {t0 : Int32} {n1 : Nat}
    (e0 : xAr sh r0 .int n1)
    (e1 : vp_in (v4 + (1 : Int32)) n1)
    (ko : xOb sh r2 10)
    (k : xg d qM_flip [.ref r2, .int (I r0 (v4 + (1 : Int32)).toNatClampNeg)] (sh, I, J) (xI (fun v h1 => xG d zm_W_law (467, [some (.ref r0), some (.ref r1), some (.ref r2), some (.ref r3), some (.int v4), some (.int t0), o6], [.int v]) h1 Q) (fun x h1 => Q (.inr x) h1))) :
    xG d zm_W_law (455, [some (.ref r0), some (.ref r1), some (.ref r2), some (.ref r3), some (.int v4), o5, o6], [.int t0]) (sh, I, J) Q := by
  obtain rfl := e0.eq
  exact xG_N 7 (ps := [xA sh r0 .int, vp_in (v4 + (1 : Int32)) (xlen sh r0)]) (f1 := (464, [some (.ref r0), some (.ref r1), some (.ref r2), some (.ref r3), some (.int v4), some (.int t0), o6], [.int (I r0 (v4 + (1 : Int32)).toNatClampNeg), .ref r2])) (h1 := (sh, I, J)) rfl ⟨e0.ar, e1⟩ (xG_Ci rfl rfl (Nat.le_of_ble_eq_true rfl) (Nat.le_of_ble_eq_true rfl) ⟨_, _, rfl, ko⟩ rfl k)
set_option maxRecDepth 100000 in
theorem s_W_law_467 {d : Nat} {Q : xO → xH → Prop} {sh : List xS} {I : Nat → Nat → Int32} {J : Nat → Nat → Int64} {r0 : Nat} {r1 : Nat} {r2 : Nat} {r3 : Nat} {v4 : Int32} {v5 : Int32} {o6 : Option Value} {t0 : Int32}
    (ko : xOb sh r2 10)
    (k : xg d qM_thrown [.ref r2] (sh, I, J) (xI (fun v h1 => xG d zm_W_law (473, [some (.ref r0), some (.ref r1), some (.ref r2), some (.ref r3), some (.int v4), some (.int v5), some (.int t0)], [.int v]) h1 Q) (fun x h1 => Q (.inr x) h1))) :
    xG d zm_W_law (467, [some (.ref r0), some (.ref r1), some (.ref r2), some (.ref r3), some (.int v4), some (.int v5), o6], [.int t0]) (sh, I, J) Q := by
  exact xG_N 2 (ps := []) (f1 := (470, [some (.ref r0), some (.ref r1), some (.ref r2), some (.ref r3), some (.int v4), some (.int v5), some (.int t0)], [.ref r2])) (h1 := (sh, I, J)) rfl trivial (xG_Ci rfl rfl (Nat.le_of_ble_eq_true rfl) (Nat.le_of_ble_eq_true rfl) ⟨_, _, rfl, ko⟩ rfl k)
set_option maxRecDepth 100000 in
theorem s_W_law_473 {d : Nat} {Q : xO → xH → Prop} {sh : List xS} {I : Nat → Nat → Int32} {J : Nat → Nat → Int64} {r0 : Nat} {r1 : Nat} {r2 : Nat} {r3 : Nat} {v4 : Int32} {v5 : Int32} {v6 : Int32} {t0 : Int32}
    (k1 : t0 = v5 → xG d zm_W_law (480, [some (.ref r0), some (.ref r1), some (.ref r2), some (.ref r3), some (.int v4), some (.int v5), some (.int v6)], []) (sh, I, J) Q)
    (k2 : ¬ (t0 = v5) → xG d zm_W_law (478, [some (.ref r0), some (.ref r1), some (.ref r2), some (.ref r3), some (.int v4), some (.int v5), some (.int v6)], []) (sh, I, J) Q) :
    xG d zm_W_law (473, [some (.ref r0), some (.ref r1), some (.ref r2), some (.ref r3), some (.int v4), some (.int v5), some (.int v6)], [.int t0]) (sh, I, J) Q := by
  exact xG_N 1 (ps := []) (f1 := (475, [some (.ref r0), some (.ref r1), some (.ref r2), some (.ref r3), some (.int v4), some (.int v5), some (.int v6)], [.int v5, .int t0])) (h1 := (sh, I, J)) rfl trivial (xG_B rfl rfl k1 k2)
set_option maxRecDepth 100000 in
theorem s_W_law_478 {d : Nat} {Q : xO → xH → Prop} {sh : List xS} {I : Nat → Nat → Int32} {J : Nat → Nat → Int64} {r0 : Nat} {r1 : Nat} {r2 : Nat} {r3 : Nat} {v4 : Int32} {v5 : Int32} {v6 : Int32}
    (k : Q (.inl (some (.int (0 : Int32)))) (sh, I, J)) :
    xG d zm_W_law (478, [some (.ref r0), some (.ref r1), some (.ref r2), some (.ref r3), some (.int v4), some (.int v5), some (.int v6)], []) (sh, I, J) Q := by
  exact xG_N 1 (ps := []) (f1 := (479, [some (.ref r0), some (.ref r1), some (.ref r2), some (.ref r3), some (.int v4), some (.int v5), some (.int v6)], [.int (0 : Int32)])) (h1 := (sh, I, J)) rfl trivial (xG_Q rfl rfl (show ((0 : Int32) : Int32) = 0 ∨ ((0 : Int32) : Int32) = 1 by decide) k)
set_option maxRecDepth 100000 in
theorem s_W_law_480 {d : Nat} {Q : xO → xH → Prop} {sh : List xS} {I : Nat → Nat → Int32} {J : Nat → Nat → Int64} {r0 : Nat} {r1 : Nat} {r2 : Nat} {r3 : Nat} {v4 : Int32} {v5 : Int32} {v6 : Int32}
    (k1 : ¬ v5 = 0 → xG d zm_W_law (497, [some (.ref r0), some (.ref r1), some (.ref r2), some (.ref r3), some (.int v4), some (.int v5), some (.int v6)], []) (sh, I, J) Q)
    (k2 : ¬ (¬ v5 = 0) → xG d zm_W_law (485, [some (.ref r0), some (.ref r1), some (.ref r2), some (.ref r3), some (.int v4), some (.int v5), some (.int v6)], []) (sh, I, J) Q) :
    xG d zm_W_law (480, [some (.ref r0), some (.ref r1), some (.ref r2), some (.ref r3), some (.int v4), some (.int v5), some (.int v6)], []) (sh, I, J) Q := by
  exact xG_N 1 (ps := []) (f1 := (482, [some (.ref r0), some (.ref r1), some (.ref r2), some (.ref r3), some (.int v4), some (.int v5), some (.int v6)], [.int v5])) (h1 := (sh, I, J)) rfl trivial (xG_B rfl rfl k1 k2)
set_option maxRecDepth 100000 in
theorem s_W_law_485 {d : Nat} {Q : xO → xH → Prop} {sh : List xS} {I : Nat → Nat → Int32} {J : Nat → Nat → Int64} {r0 : Nat} {r1 : Nat} {r2 : Nat} {r3 : Nat} {v4 : Int32} {v5 : Int32} {v6 : Int32} {n1 : Nat}
    (e0 : xAr sh r3 .long n1)
    (e1 : vp_in (0 : Int32) n1)
    (k1 : (lg_cmp (J r3 0) v6.toInt64) = 0 → xG d zm_W_law (497, [some (.ref r0), some (.ref r1), some (.ref r2), some (.ref r3), some (.int v4), some (.int v5), some (.int v6)], []) (sh, I, J) Q)
    (k2 : ¬ ((lg_cmp (J r3 0) v6.toInt64) = 0) → xG d zm_W_law (495, [some (.ref r0), some (.ref r1), some (.ref r2), some (.ref r3), some (.int v4), some (.int v5), some (.int v6)], []) (sh, I, J) Q) :
    xG d zm_W_law (485, [some (.ref r0), some (.ref r1), some (.ref r2), some (.ref r3), some (.int v4), some (.int v5), some (.int v6)], []) (sh, I, J) Q := by
  obtain rfl := e0.eq
  exact xG_N 6 (ps := [xA sh r3 .long, vp_in (0 : Int32) (xlen sh r3)]) (f1 := (492, [some (.ref r0), some (.ref r1), some (.ref r2), some (.ref r3), some (.int v4), some (.int v5), some (.int v6)], [.int (lg_cmp (J r3 0) v6.toInt64)])) (h1 := (sh, I, J)) rfl ⟨e0.ar, e1⟩ (xG_B rfl rfl k1 k2)
set_option maxRecDepth 100000 in
theorem s_W_law_495 {d : Nat} {Q : xO → xH → Prop} {sh : List xS} {I : Nat → Nat → Int32} {J : Nat → Nat → Int64} {r0 : Nat} {r1 : Nat} {r2 : Nat} {r3 : Nat} {v4 : Int32} {v5 : Int32} {v6 : Int32}
    (k : Q (.inl (some (.int (0 : Int32)))) (sh, I, J)) :
    xG d zm_W_law (495, [some (.ref r0), some (.ref r1), some (.ref r2), some (.ref r3), some (.int v4), some (.int v5), some (.int v6)], []) (sh, I, J) Q := by
  exact xG_N 1 (ps := []) (f1 := (496, [some (.ref r0), some (.ref r1), some (.ref r2), some (.ref r3), some (.int v4), some (.int v5), some (.int v6)], [.int (0 : Int32)])) (h1 := (sh, I, J)) rfl trivial (xG_Q rfl rfl (show ((0 : Int32) : Int32) = 0 ∨ ((0 : Int32) : Int32) = 1 by decide) k)
set_option maxRecDepth 100000 in
theorem s_W_law_497 {d : Nat} {Q : xO → xH → Prop} {sh : List xS} {I : Nat → Nat → Int32} {J : Nat → Nat → Int64} {r0 : Nat} {r1 : Nat} {r2 : Nat} {r3 : Nat} {v4 : Int32} {v5 : Int32} {v6 : Int32}
    (k : xG d zm_W_law (23, [some (.ref r0), some (.ref r1), some (.ref r2), some (.ref r3), some (.int (v4 + (5 : Int32))), some (.int v5), some (.int v6)], []) (sh, I, J) Q) :
    xG d zm_W_law (497, [some (.ref r0), some (.ref r1), some (.ref r2), some (.ref r3), some (.int v4), some (.int v5), some (.int v6)], []) (sh, I, J) Q := by
  exact xG_N 3 (ps := []) (f1 := (23, [some (.ref r0), some (.ref r1), some (.ref r2), some (.ref r3), some (.int (v4 + (5 : Int32))), some (.int v5), some (.int v6)], [])) (h1 := (sh, I, J)) rfl trivial (k)
set_option maxRecDepth 100000 in
theorem s_W_law_500 {d : Nat} {Q : xO → xH → Prop} {sh : List xS} {I : Nat → Nat → Int32} {J : Nat → Nat → Int64} {r0 : Nat} {r1 : Nat} {r2 : Nat} {r3 : Nat} {v4 : Int32} {o5 : Option Value} {o6 : Option Value}
    (k : xg d qW_read [.ref r1, .ref r3] (sh, I, J) (xI (fun v h1 => xG d zm_W_law (505, [some (.ref r0), some (.ref r1), some (.ref r2), some (.ref r3), some (.int v4), o5, o6], [.int v]) h1 Q) (fun x h1 => Q (.inr x) h1))) :
    xG d zm_W_law (500, [some (.ref r0), some (.ref r1), some (.ref r2), some (.ref r3), some (.int v4), o5, o6], []) (sh, I, J) Q := by
  exact xG_N 2 (ps := []) (f1 := (502, [some (.ref r0), some (.ref r1), some (.ref r2), some (.ref r3), some (.int v4), o5, o6], [.ref r3, .ref r1])) (h1 := (sh, I, J)) rfl trivial (xG_Ci rfl rfl (Nat.le_of_ble_eq_true rfl) (Nat.le_of_ble_eq_true rfl) trivial rfl k)
set_option maxRecDepth 100000 in
theorem s_W_law_505 {d : Nat} {Q : xO → xH → Prop} {sh : List xS} {I : Nat → Nat → Int32} {J : Nat → Nat → Int64} {r0 : Nat} {r1 : Nat} {r2 : Nat} {r3 : Nat} {v4 : Int32} {o5 : Option Value} {o6 : Option Value} {t0 : Int32}
    (ko : xOb sh r2 10)
    (k : xg d qM_read [.ref r2] (sh, I, J) (xI (fun v h1 => xG d zm_W_law (511, [some (.ref r0), some (.ref r1), some (.ref r2), some (.ref r3), some (.int v4), some (.int t0), o6], [.int v]) h1 Q) (fun x h1 => Q (.inr x) h1))) :
    xG d zm_W_law (505, [some (.ref r0), some (.ref r1), some (.ref r2), some (.ref r3), some (.int v4), o5, o6], [.int t0]) (sh, I, J) Q := by
  exact xG_N 2 (ps := []) (f1 := (508, [some (.ref r0), some (.ref r1), some (.ref r2), some (.ref r3), some (.int v4), some (.int t0), o6], [.ref r2])) (h1 := (sh, I, J)) rfl trivial (xG_Ci rfl rfl (Nat.le_of_ble_eq_true rfl) (Nat.le_of_ble_eq_true rfl) ⟨_, _, rfl, ko⟩ rfl k)
set_option maxRecDepth 100000 in
theorem s_W_law_511 {d : Nat} {Q : xO → xH → Prop} {sh : List xS} {I : Nat → Nat → Int32} {J : Nat → Nat → Int64} {r0 : Nat} {r1 : Nat} {r2 : Nat} {r3 : Nat} {v4 : Int32} {v5 : Int32} {o6 : Option Value} {t0 : Int32}
    (ko : xOb sh r2 10)
    (k : xg d qM_thrown [.ref r2] (sh, I, J) (xI (fun v h1 => xG d zm_W_law (517, [some (.ref r0), some (.ref r1), some (.ref r2), some (.ref r3), some (.int v4), some (.int v5), some (.int t0)], [.int v]) h1 Q) (fun x h1 => Q (.inr x) h1))) :
    xG d zm_W_law (511, [some (.ref r0), some (.ref r1), some (.ref r2), some (.ref r3), some (.int v4), some (.int v5), o6], [.int t0]) (sh, I, J) Q := by
  exact xG_N 2 (ps := []) (f1 := (514, [some (.ref r0), some (.ref r1), some (.ref r2), some (.ref r3), some (.int v4), some (.int v5), some (.int t0)], [.ref r2])) (h1 := (sh, I, J)) rfl trivial (xG_Ci rfl rfl (Nat.le_of_ble_eq_true rfl) (Nat.le_of_ble_eq_true rfl) ⟨_, _, rfl, ko⟩ rfl k)
set_option maxRecDepth 100000 in
theorem s_W_law_517 {d : Nat} {Q : xO → xH → Prop} {sh : List xS} {I : Nat → Nat → Int32} {J : Nat → Nat → Int64} {r0 : Nat} {r1 : Nat} {r2 : Nat} {r3 : Nat} {v4 : Int32} {v5 : Int32} {v6 : Int32} {t0 : Int32}
    (k1 : t0 = v5 → xG d zm_W_law (524, [some (.ref r0), some (.ref r1), some (.ref r2), some (.ref r3), some (.int v4), some (.int v5), some (.int v6)], []) (sh, I, J) Q)
    (k2 : ¬ (t0 = v5) → xG d zm_W_law (522, [some (.ref r0), some (.ref r1), some (.ref r2), some (.ref r3), some (.int v4), some (.int v5), some (.int v6)], []) (sh, I, J) Q) :
    xG d zm_W_law (517, [some (.ref r0), some (.ref r1), some (.ref r2), some (.ref r3), some (.int v4), some (.int v5), some (.int v6)], [.int t0]) (sh, I, J) Q := by
  exact xG_N 1 (ps := []) (f1 := (519, [some (.ref r0), some (.ref r1), some (.ref r2), some (.ref r3), some (.int v4), some (.int v5), some (.int v6)], [.int v5, .int t0])) (h1 := (sh, I, J)) rfl trivial (xG_B rfl rfl k1 k2)
set_option maxRecDepth 100000 in
theorem s_W_law_522 {d : Nat} {Q : xO → xH → Prop} {sh : List xS} {I : Nat → Nat → Int32} {J : Nat → Nat → Int64} {r0 : Nat} {r1 : Nat} {r2 : Nat} {r3 : Nat} {v4 : Int32} {v5 : Int32} {v6 : Int32}
    (k : Q (.inl (some (.int (0 : Int32)))) (sh, I, J)) :
    xG d zm_W_law (522, [some (.ref r0), some (.ref r1), some (.ref r2), some (.ref r3), some (.int v4), some (.int v5), some (.int v6)], []) (sh, I, J) Q := by
  exact xG_N 1 (ps := []) (f1 := (523, [some (.ref r0), some (.ref r1), some (.ref r2), some (.ref r3), some (.int v4), some (.int v5), some (.int v6)], [.int (0 : Int32)])) (h1 := (sh, I, J)) rfl trivial (xG_Q rfl rfl (show ((0 : Int32) : Int32) = 0 ∨ ((0 : Int32) : Int32) = 1 by decide) k)
set_option maxRecDepth 100000 in
theorem s_W_law_524 {d : Nat} {Q : xO → xH → Prop} {sh : List xS} {I : Nat → Nat → Int32} {J : Nat → Nat → Int64} {r0 : Nat} {r1 : Nat} {r2 : Nat} {r3 : Nat} {v4 : Int32} {v5 : Int32} {v6 : Int32}
    (k1 : ¬ v5 = 0 → xG d zm_W_law (541, [some (.ref r0), some (.ref r1), some (.ref r2), some (.ref r3), some (.int v4), some (.int v5), some (.int v6)], []) (sh, I, J) Q)
    (k2 : ¬ (¬ v5 = 0) → xG d zm_W_law (529, [some (.ref r0), some (.ref r1), some (.ref r2), some (.ref r3), some (.int v4), some (.int v5), some (.int v6)], []) (sh, I, J) Q) :
    xG d zm_W_law (524, [some (.ref r0), some (.ref r1), some (.ref r2), some (.ref r3), some (.int v4), some (.int v5), some (.int v6)], []) (sh, I, J) Q := by
  exact xG_N 1 (ps := []) (f1 := (526, [some (.ref r0), some (.ref r1), some (.ref r2), some (.ref r3), some (.int v4), some (.int v5), some (.int v6)], [.int v5])) (h1 := (sh, I, J)) rfl trivial (xG_B rfl rfl k1 k2)
set_option maxRecDepth 100000 in
theorem s_W_law_529 {d : Nat} {Q : xO → xH → Prop} {sh : List xS} {I : Nat → Nat → Int32} {J : Nat → Nat → Int64} {r0 : Nat} {r1 : Nat} {r2 : Nat} {r3 : Nat} {v4 : Int32} {v5 : Int32} {v6 : Int32} {n1 : Nat}
    (e0 : xAr sh r3 .long n1)
    (e1 : vp_in (0 : Int32) n1)
    (k1 : (lg_cmp (J r3 0) v6.toInt64) = 0 → xG d zm_W_law (541, [some (.ref r0), some (.ref r1), some (.ref r2), some (.ref r3), some (.int v4), some (.int v5), some (.int v6)], []) (sh, I, J) Q)
    (k2 : ¬ ((lg_cmp (J r3 0) v6.toInt64) = 0) → xG d zm_W_law (539, [some (.ref r0), some (.ref r1), some (.ref r2), some (.ref r3), some (.int v4), some (.int v5), some (.int v6)], []) (sh, I, J) Q) :
    xG d zm_W_law (529, [some (.ref r0), some (.ref r1), some (.ref r2), some (.ref r3), some (.int v4), some (.int v5), some (.int v6)], []) (sh, I, J) Q := by
  obtain rfl := e0.eq
  exact xG_N 6 (ps := [xA sh r3 .long, vp_in (0 : Int32) (xlen sh r3)]) (f1 := (536, [some (.ref r0), some (.ref r1), some (.ref r2), some (.ref r3), some (.int v4), some (.int v5), some (.int v6)], [.int (lg_cmp (J r3 0) v6.toInt64)])) (h1 := (sh, I, J)) rfl ⟨e0.ar, e1⟩ (xG_B rfl rfl k1 k2)
set_option maxRecDepth 100000 in
theorem s_W_law_539 {d : Nat} {Q : xO → xH → Prop} {sh : List xS} {I : Nat → Nat → Int32} {J : Nat → Nat → Int64} {r0 : Nat} {r1 : Nat} {r2 : Nat} {r3 : Nat} {v4 : Int32} {v5 : Int32} {v6 : Int32}
    (k : Q (.inl (some (.int (0 : Int32)))) (sh, I, J)) :
    xG d zm_W_law (539, [some (.ref r0), some (.ref r1), some (.ref r2), some (.ref r3), some (.int v4), some (.int v5), some (.int v6)], []) (sh, I, J) Q := by
  exact xG_N 1 (ps := []) (f1 := (540, [some (.ref r0), some (.ref r1), some (.ref r2), some (.ref r3), some (.int v4), some (.int v5), some (.int v6)], [.int (0 : Int32)])) (h1 := (sh, I, J)) rfl trivial (xG_Q rfl rfl (show ((0 : Int32) : Int32) = 0 ∨ ((0 : Int32) : Int32) = 1 by decide) k)
set_option maxRecDepth 100000 in
theorem s_W_law_541 {d : Nat} {Q : xO → xH → Prop} {sh : List xS} {I : Nat → Nat → Int32} {J : Nat → Nat → Int64} {r0 : Nat} {r1 : Nat} {r2 : Nat} {r3 : Nat} {v4 : Int32} {v5 : Int32} {v6 : Int32}
    (k : xG d zm_W_law (23, [some (.ref r0), some (.ref r1), some (.ref r2), some (.ref r3), some (.int (v4 + (5 : Int32))), some (.int v5), some (.int v6)], []) (sh, I, J) Q) :
    xG d zm_W_law (541, [some (.ref r0), some (.ref r1), some (.ref r2), some (.ref r3), some (.int v4), some (.int v5), some (.int v6)], []) (sh, I, J) Q := by
  exact xG_N 3 (ps := []) (f1 := (23, [some (.ref r0), some (.ref r1), some (.ref r2), some (.ref r3), some (.int (v4 + (5 : Int32))), some (.int v5), some (.int v6)], [])) (h1 := (sh, I, J)) rfl trivial (k)
set_option maxRecDepth 100000 in
theorem s_W_law_544 {d : Nat} {Q : xO → xH → Prop} {sh : List xS} {I : Nat → Nat → Int32} {J : Nat → Nat → Int64} {r0 : Nat} {r1 : Nat} {r2 : Nat} {r3 : Nat} {v4 : Int32} {o5 : Option Value} {o6 : Option Value} {n1 : Nat}
    (e0 : xAr sh r0 .int n1)
    (e1 : vp_in (v4 + (1 : Int32)) n1)
    (k1 : (I r0 (v4 + (1 : Int32)).toNatClampNeg) = 0 → xG d zm_W_law (558, [some (.ref r0), some (.ref r1), some (.ref r2), some (.ref r3), some (.int v4), o5, o6], [.ref r1]) (sh, I, J) Q)
    (k2 : ¬ ((I r0 (v4 + (1 : Int32)).toNatClampNeg) = 0) → xG d zm_W_law (554, [some (.ref r0), some (.ref r1), some (.ref r2), some (.ref r3), some (.int v4), o5, o6], [.ref r1]) (sh, I, J) Q) :
    xG d zm_W_law (544, [some (.ref r0), some (.ref r1), some (.ref r2), some (.ref r3), some (.int v4), o5, o6], []) (sh, I, J) Q := by
  obtain rfl := e0.eq
  exact xG_N 6 (ps := [xA sh r0 .int, vp_in (v4 + (1 : Int32)) (xlen sh r0)]) (f1 := (551, [some (.ref r0), some (.ref r1), some (.ref r2), some (.ref r3), some (.int v4), o5, o6], [.int (I r0 (v4 + (1 : Int32)).toNatClampNeg), .ref r1])) (h1 := (sh, I, J)) rfl ⟨e0.ar, e1⟩ (xG_B rfl rfl k1 k2)
set_option maxRecDepth 100000 in
theorem s_W_law_554 {d : Nat} {Q : xO → xH → Prop} {sh : List xS} {I : Nat → Nat → Int32} {J : Nat → Nat → Int64} {r0 : Nat} {r1 : Nat} {r2 : Nat} {r3 : Nat} {v4 : Int32} {o5 : Option Value} {o6 : Option Value} {t0 : Nat} {n1 : Nat}
    (e0 : xAr sh r0 .int n1)
    (e1 : vp_in (v4 + (2 : Int32)) n1)
    (k1 : (I r0 (v4 + (2 : Int32)).toNatClampNeg) = 0 → xG d zm_W_law (572, [some (.ref r0), some (.ref r1), some (.ref r2), some (.ref r3), some (.int v4), o5, o6], [.int (1 : Int32), .ref t0]) (sh, I, J) Q)
    (k2 : ¬ ((I r0 (v4 + (2 : Int32)).toNatClampNeg) = 0) → xG d zm_W_law (568, [some (.ref r0), some (.ref r1), some (.ref r2), some (.ref r3), some (.int v4), o5, o6], [.int (1 : Int32), .ref t0]) (sh, I, J) Q) :
    xG d zm_W_law (554, [some (.ref r0), some (.ref r1), some (.ref r2), some (.ref r3), some (.int v4), o5, o6], [.ref t0]) (sh, I, J) Q := by
  obtain rfl := e0.eq
  exact xG_N 7 (ps := [xA sh r0 .int, vp_in (v4 + (2 : Int32)) (xlen sh r0)]) (f1 := (565, [some (.ref r0), some (.ref r1), some (.ref r2), some (.ref r3), some (.int v4), o5, o6], [.int (I r0 (v4 + (2 : Int32)).toNatClampNeg), .int (1 : Int32), .ref t0])) (h1 := (sh, I, J)) rfl ⟨e0.ar, e1⟩ (xG_B rfl rfl k1 k2)
set_option maxRecDepth 100000 in
theorem s_W_law_558 {d : Nat} {Q : xO → xH → Prop} {sh : List xS} {I : Nat → Nat → Int32} {J : Nat → Nat → Int64} {r0 : Nat} {r1 : Nat} {r2 : Nat} {r3 : Nat} {v4 : Int32} {o5 : Option Value} {o6 : Option Value} {t0 : Nat} {n1 : Nat}
    (e0 : xAr sh r0 .int n1)
    (e1 : vp_in (v4 + (2 : Int32)) n1)
    (k1 : (I r0 (v4 + (2 : Int32)).toNatClampNeg) = 0 → xG d zm_W_law (572, [some (.ref r0), some (.ref r1), some (.ref r2), some (.ref r3), some (.int v4), o5, o6], [.int (0 : Int32), .ref t0]) (sh, I, J) Q)
    (k2 : ¬ ((I r0 (v4 + (2 : Int32)).toNatClampNeg) = 0) → xG d zm_W_law (568, [some (.ref r0), some (.ref r1), some (.ref r2), some (.ref r3), some (.int v4), o5, o6], [.int (0 : Int32), .ref t0]) (sh, I, J) Q) :
    xG d zm_W_law (558, [some (.ref r0), some (.ref r1), some (.ref r2), some (.ref r3), some (.int v4), o5, o6], [.ref t0]) (sh, I, J) Q := by
  obtain rfl := e0.eq
  exact xG_N 6 (ps := [xA sh r0 .int, vp_in (v4 + (2 : Int32)) (xlen sh r0)]) (f1 := (565, [some (.ref r0), some (.ref r1), some (.ref r2), some (.ref r3), some (.int v4), o5, o6], [.int (I r0 (v4 + (2 : Int32)).toNatClampNeg), .int (0 : Int32), .ref t0])) (h1 := (sh, I, J)) rfl ⟨e0.ar, e1⟩ (xG_B rfl rfl k1 k2)
set_option maxRecDepth 100000 in
theorem s_W_law_568 {d : Nat} {Q : xO → xH → Prop} {sh : List xS} {I : Nat → Nat → Int32} {J : Nat → Nat → Int64} {r0 : Nat} {r1 : Nat} {r2 : Nat} {r3 : Nat} {v4 : Int32} {o5 : Option Value} {o6 : Option Value} {t0 : Nat} {t1 : Int32} {n1 : Nat}
    (e0 : xAr sh r0 .int n1)
    (e1 : vp_in (v4 + (3 : Int32)) n1)
    (e2 : vp_in (v4 + (4 : Int32)) n1)
    (k : xg d qW_write [.ref t0, .int t1, .int (1 : Int32), .int (I r0 (v4 + (3 : Int32)).toNatClampNeg), .int (I r0 (v4 + (4 : Int32)).toNatClampNeg), .ref r3] (sh, I, J) (xI (fun v h1 => xG d zm_W_law (589, [some (.ref r0), some (.ref r1), some (.ref r2), some (.ref r3), some (.int v4), o5, o6], [.int v]) h1 Q) (fun x h1 => Q (.inr x) h1))) :
    xG d zm_W_law (568, [some (.ref r0), some (.ref r1), some (.ref r2), some (.ref r3), some (.int v4), o5, o6], [.int t1, .ref t0]) (sh, I, J) Q := by
  obtain rfl := e0.eq
  exact xG_N 13 (ps := [xA sh r0 .int, vp_in (v4 + (3 : Int32)) (xlen sh r0), xA sh r0 .int, vp_in (v4 + (4 : Int32)) (xlen sh r0)]) (f1 := (586, [some (.ref r0), some (.ref r1), some (.ref r2), some (.ref r3), some (.int v4), o5, o6], [.ref r3, .int (I r0 (v4 + (4 : Int32)).toNatClampNeg), .int (I r0 (v4 + (3 : Int32)).toNatClampNeg), .int (1 : Int32), .int t1, .ref t0])) (h1 := (sh, I, J)) rfl ⟨e0.ar, e1, e0.ar, e2⟩ (xG_Ci rfl rfl (Nat.le_of_ble_eq_true rfl) (Nat.le_of_ble_eq_true rfl) trivial rfl k)
set_option maxRecDepth 100000 in
theorem s_W_law_572 {d : Nat} {Q : xO → xH → Prop} {sh : List xS} {I : Nat → Nat → Int32} {J : Nat → Nat → Int64} {r0 : Nat} {r1 : Nat} {r2 : Nat} {r3 : Nat} {v4 : Int32} {o5 : Option Value} {o6 : Option Value} {t0 : Nat} {t1 : Int32} {n1 : Nat}
    (e0 : xAr sh r0 .int n1)
    (e1 : vp_in (v4 + (3 : Int32)) n1)
    (e2 : vp_in (v4 + (4 : Int32)) n1)
    (k : xg d qW_write [.ref t0, .int t1, .int (0 : Int32), .int (I r0 (v4 + (3 : Int32)).toNatClampNeg), .int (I r0 (v4 + (4 : Int32)).toNatClampNeg), .ref r3] (sh, I, J) (xI (fun v h1 => xG d zm_W_law (589, [some (.ref r0), some (.ref r1), some (.ref r2), some (.ref r3), some (.int v4), o5, o6], [.int v]) h1 Q) (fun x h1 => Q (.inr x) h1))) :
    xG d zm_W_law (572, [some (.ref r0), some (.ref r1), some (.ref r2), some (.ref r3), some (.int v4), o5, o6], [.int t1, .ref t0]) (sh, I, J) Q := by
  obtain rfl := e0.eq
  exact xG_N 12 (ps := [xA sh r0 .int, vp_in (v4 + (3 : Int32)) (xlen sh r0), xA sh r0 .int, vp_in (v4 + (4 : Int32)) (xlen sh r0)]) (f1 := (586, [some (.ref r0), some (.ref r1), some (.ref r2), some (.ref r3), some (.int v4), o5, o6], [.ref r3, .int (I r0 (v4 + (4 : Int32)).toNatClampNeg), .int (I r0 (v4 + (3 : Int32)).toNatClampNeg), .int (0 : Int32), .int t1, .ref t0])) (h1 := (sh, I, J)) rfl ⟨e0.ar, e1, e0.ar, e2⟩ (xG_Ci rfl rfl (Nat.le_of_ble_eq_true rfl) (Nat.le_of_ble_eq_true rfl) trivial rfl k)
set_option maxRecDepth 100000 in
theorem s_W_law_589 {d : Nat} {Q : xO → xH → Prop} {sh : List xS} {I : Nat → Nat → Int32} {J : Nat → Nat → Int64} {r0 : Nat} {r1 : Nat} {r2 : Nat} {r3 : Nat} {v4 : Int32} {o5 : Option Value} {o6 : Option Value} {t0 : Int32} {n1 : Nat}
    (e0 : xAr sh r0 .int n1)
    (e1 : vp_in (v4 + (1 : Int32)) n1)
    (k1 : (I r0 (v4 + (1 : Int32)).toNatClampNeg) = 0 → xG d zm_W_law (605, [some (.ref r0), some (.ref r1), some (.ref r2), some (.ref r3), some (.int v4), some (.int t0), o6], [.ref r2]) (sh, I, J) Q)
    (k2 : ¬ ((I r0 (v4 + (1 : Int32)).toNatClampNeg) = 0) → xG d zm_W_law (601, [some (.ref r0), some (.ref r1), some (.ref r2), some (.ref r3), some (.int v4), some (.int t0), o6], [.ref r2]) (sh, I, J) Q) :
    xG d zm_W_law (589, [some (.ref r0), some (.ref r1), some (.ref r2), some (.ref r3), some (.int v4), o5, o6], [.int t0]) (sh, I, J) Q := by
  obtain rfl := e0.eq
  exact xG_N 7 (ps := [xA sh r0 .int, vp_in (v4 + (1 : Int32)) (xlen sh r0)]) (f1 := (598, [some (.ref r0), some (.ref r1), some (.ref r2), some (.ref r3), some (.int v4), some (.int t0), o6], [.int (I r0 (v4 + (1 : Int32)).toNatClampNeg), .ref r2])) (h1 := (sh, I, J)) rfl ⟨e0.ar, e1⟩ (xG_B rfl rfl k1 k2)
set_option maxRecDepth 100000 in
theorem s_W_law_601 {d : Nat} {Q : xO → xH → Prop} {sh : List xS} {I : Nat → Nat → Int32} {J : Nat → Nat → Int64} {r0 : Nat} {r1 : Nat} {r2 : Nat} {r3 : Nat} {v4 : Int32} {v5 : Int32} {o6 : Option Value} {t0 : Nat} {n1 : Nat}
    (e0 : xAr sh r0 .int n1)
    (e1 : vp_in (v4 + (2 : Int32)) n1)
    (k1 : (I r0 (v4 + (2 : Int32)).toNatClampNeg) = 0 → xG d zm_W_law (619, [some (.ref r0), some (.ref r1), some (.ref r2), some (.ref r3), some (.int v4), some (.int v5), o6], [.int (1 : Int32), .ref t0]) (sh, I, J) Q)
    (k2 : ¬ ((I r0 (v4 + (2 : Int32)).toNatClampNeg) = 0) → xG d zm_W_law (615, [some (.ref r0), some (.ref r1), some (.ref r2), some (.ref r3), some (.int v4), some (.int v5), o6], [.int (1 : Int32), .ref t0]) (sh, I, J) Q) :
    xG d zm_W_law (601, [some (.ref r0), some (.ref r1), some (.ref r2), some (.ref r3), some (.int v4), some (.int v5), o6], [.ref t0]) (sh, I, J) Q := by
  obtain rfl := e0.eq
  exact xG_N 7 (ps := [xA sh r0 .int, vp_in (v4 + (2 : Int32)) (xlen sh r0)]) (f1 := (612, [some (.ref r0), some (.ref r1), some (.ref r2), some (.ref r3), some (.int v4), some (.int v5), o6], [.int (I r0 (v4 + (2 : Int32)).toNatClampNeg), .int (1 : Int32), .ref t0])) (h1 := (sh, I, J)) rfl ⟨e0.ar, e1⟩ (xG_B rfl rfl k1 k2)
set_option maxRecDepth 100000 in
theorem s_W_law_605 {d : Nat} {Q : xO → xH → Prop} {sh : List xS} {I : Nat → Nat → Int32} {J : Nat → Nat → Int64} {r0 : Nat} {r1 : Nat} {r2 : Nat} {r3 : Nat} {v4 : Int32} {v5 : Int32} {o6 : Option Value} {t0 : Nat} {n1 : Nat}
    (e0 : xAr sh r0 .int n1)
    (e1 : vp_in (v4 + (2 : Int32)) n1)
    (k1 : (I r0 (v4 + (2 : Int32)).toNatClampNeg) = 0 → xG d zm_W_law (619, [some (.ref r0), some (.ref r1), some (.ref r2), some (.ref r3), some (.int v4), some (.int v5), o6], [.int (0 : Int32), .ref t0]) (sh, I, J) Q)
    (k2 : ¬ ((I r0 (v4 + (2 : Int32)).toNatClampNeg) = 0) → xG d zm_W_law (615, [some (.ref r0), some (.ref r1), some (.ref r2), some (.ref r3), some (.int v4), some (.int v5), o6], [.int (0 : Int32), .ref t0]) (sh, I, J) Q) :
    xG d zm_W_law (605, [some (.ref r0), some (.ref r1), some (.ref r2), some (.ref r3), some (.int v4), some (.int v5), o6], [.ref t0]) (sh, I, J) Q := by
  obtain rfl := e0.eq
  exact xG_N 6 (ps := [xA sh r0 .int, vp_in (v4 + (2 : Int32)) (xlen sh r0)]) (f1 := (612, [some (.ref r0), some (.ref r1), some (.ref r2), some (.ref r3), some (.int v4), some (.int v5), o6], [.int (I r0 (v4 + (2 : Int32)).toNatClampNeg), .int (0 : Int32), .ref t0])) (h1 := (sh, I, J)) rfl ⟨e0.ar, e1⟩ (xG_B rfl rfl k1 k2)
set_option maxRecDepth 100000 in
theorem s_W_law_615 {d : Nat} {Q : xO → xH → Prop} {sh : List xS} {I : Nat → Nat → Int32} {J : Nat → Nat → Int64} {r0 : Nat} {r1 : Nat} {r2 : Nat} {r3 : Nat} {v4 : Int32} {v5 : Int32} {o6 : Option Value} {t0 : Nat} {t1 : Int32} {n1 : Nat}
    (e0 : xAr sh r0 .int n1)
    (e1 : vp_in (v4 + (3 : Int32)) n1)
    (e2 : vp_in (v4 + (4 : Int32)) n1)
    (ko : xOb sh t0 10)
    (k : xg d qM_write [.ref t0, .int t1, .int (1 : Int32), .int (I r0 (v4 + (3 : Int32)).toNatClampNeg), .int (I r0 (v4 + (4 : Int32)).toNatClampNeg)] (sh, I, J) (xI (fun v h1 => xG d zm_W_law (635, [some (.ref r0), some (.ref r1), some (.ref r2), some (.ref r3), some (.int v4), some (.int v5), o6], [.int v]) h1 Q) (fun x h1 => Q (.inr x) h1))) :
    xG d zm_W_law (615, [some (.ref r0), some (.ref r1), some (.ref r2), some (.ref r3), some (.int v4), some (.int v5), o6], [.int t1, .ref t0]) (sh, I, J) Q := by
  obtain rfl := e0.eq
  exact xG_N 12 (ps := [xA sh r0 .int, vp_in (v4 + (3 : Int32)) (xlen sh r0), xA sh r0 .int, vp_in (v4 + (4 : Int32)) (xlen sh r0)]) (f1 := (632, [some (.ref r0), some (.ref r1), some (.ref r2), some (.ref r3), some (.int v4), some (.int v5), o6], [.int (I r0 (v4 + (4 : Int32)).toNatClampNeg), .int (I r0 (v4 + (3 : Int32)).toNatClampNeg), .int (1 : Int32), .int t1, .ref t0])) (h1 := (sh, I, J)) rfl ⟨e0.ar, e1, e0.ar, e2⟩ (xG_Ci rfl rfl (Nat.le_of_ble_eq_true rfl) (Nat.le_of_ble_eq_true rfl) ⟨_, _, rfl, ko⟩ rfl k)
set_option maxRecDepth 100000 in
theorem s_W_law_619 {d : Nat} {Q : xO → xH → Prop} {sh : List xS} {I : Nat → Nat → Int32} {J : Nat → Nat → Int64} {r0 : Nat} {r1 : Nat} {r2 : Nat} {r3 : Nat} {v4 : Int32} {v5 : Int32} {o6 : Option Value} {t0 : Nat} {t1 : Int32} {n1 : Nat}
    (e0 : xAr sh r0 .int n1)
    (e1 : vp_in (v4 + (3 : Int32)) n1)
    (e2 : vp_in (v4 + (4 : Int32)) n1)
    (ko : xOb sh t0 10)
    (k : xg d qM_write [.ref t0, .int t1, .int (0 : Int32), .int (I r0 (v4 + (3 : Int32)).toNatClampNeg), .int (I r0 (v4 + (4 : Int32)).toNatClampNeg)] (sh, I, J) (xI (fun v h1 => xG d zm_W_law (635, [some (.ref r0), some (.ref r1), some (.ref r2), some (.ref r3), some (.int v4), some (.int v5), o6], [.int v]) h1 Q) (fun x h1 => Q (.inr x) h1))) :
    xG d zm_W_law (619, [some (.ref r0), some (.ref r1), some (.ref r2), some (.ref r3), some (.int v4), some (.int v5), o6], [.int t1, .ref t0]) (sh, I, J) Q := by
  obtain rfl := e0.eq
  exact xG_N 11 (ps := [xA sh r0 .int, vp_in (v4 + (3 : Int32)) (xlen sh r0), xA sh r0 .int, vp_in (v4 + (4 : Int32)) (xlen sh r0)]) (f1 := (632, [some (.ref r0), some (.ref r1), some (.ref r2), some (.ref r3), some (.int v4), some (.int v5), o6], [.int (I r0 (v4 + (4 : Int32)).toNatClampNeg), .int (I r0 (v4 + (3 : Int32)).toNatClampNeg), .int (0 : Int32), .int t1, .ref t0])) (h1 := (sh, I, J)) rfl ⟨e0.ar, e1, e0.ar, e2⟩ (xG_Ci rfl rfl (Nat.le_of_ble_eq_true rfl) (Nat.le_of_ble_eq_true rfl) ⟨_, _, rfl, ko⟩ rfl k)
set_option maxRecDepth 100000 in
theorem s_W_law_635 {d : Nat} {Q : xO → xH → Prop} {sh : List xS} {I : Nat → Nat → Int32} {J : Nat → Nat → Int64} {r0 : Nat} {r1 : Nat} {r2 : Nat} {r3 : Nat} {v4 : Int32} {v5 : Int32} {o6 : Option Value} {t0 : Int32}
    (ko : xOb sh r2 10)
    (k : xg d qM_thrown [.ref r2] (sh, I, J) (xI (fun v h1 => xG d zm_W_law (641, [some (.ref r0), some (.ref r1), some (.ref r2), some (.ref r3), some (.int v4), some (.int v5), some (.int t0)], [.int v]) h1 Q) (fun x h1 => Q (.inr x) h1))) :
    xG d zm_W_law (635, [some (.ref r0), some (.ref r1), some (.ref r2), some (.ref r3), some (.int v4), some (.int v5), o6], [.int t0]) (sh, I, J) Q := by
  exact xG_N 2 (ps := []) (f1 := (638, [some (.ref r0), some (.ref r1), some (.ref r2), some (.ref r3), some (.int v4), some (.int v5), some (.int t0)], [.ref r2])) (h1 := (sh, I, J)) rfl trivial (xG_Ci rfl rfl (Nat.le_of_ble_eq_true rfl) (Nat.le_of_ble_eq_true rfl) ⟨_, _, rfl, ko⟩ rfl k)
set_option maxRecDepth 100000 in
theorem s_W_law_641 {d : Nat} {Q : xO → xH → Prop} {sh : List xS} {I : Nat → Nat → Int32} {J : Nat → Nat → Int64} {r0 : Nat} {r1 : Nat} {r2 : Nat} {r3 : Nat} {v4 : Int32} {v5 : Int32} {v6 : Int32} {t0 : Int32}
    (k1 : t0 = v5 → xG d zm_W_law (648, [some (.ref r0), some (.ref r1), some (.ref r2), some (.ref r3), some (.int v4), some (.int v5), some (.int v6)], []) (sh, I, J) Q)
    (k2 : ¬ (t0 = v5) → xG d zm_W_law (646, [some (.ref r0), some (.ref r1), some (.ref r2), some (.ref r3), some (.int v4), some (.int v5), some (.int v6)], []) (sh, I, J) Q) :
    xG d zm_W_law (641, [some (.ref r0), some (.ref r1), some (.ref r2), some (.ref r3), some (.int v4), some (.int v5), some (.int v6)], [.int t0]) (sh, I, J) Q := by
  exact xG_N 1 (ps := []) (f1 := (643, [some (.ref r0), some (.ref r1), some (.ref r2), some (.ref r3), some (.int v4), some (.int v5), some (.int v6)], [.int v5, .int t0])) (h1 := (sh, I, J)) rfl trivial (xG_B rfl rfl k1 k2)
set_option maxRecDepth 100000 in
theorem s_W_law_646 {d : Nat} {Q : xO → xH → Prop} {sh : List xS} {I : Nat → Nat → Int32} {J : Nat → Nat → Int64} {r0 : Nat} {r1 : Nat} {r2 : Nat} {r3 : Nat} {v4 : Int32} {v5 : Int32} {v6 : Int32}
    (k : Q (.inl (some (.int (0 : Int32)))) (sh, I, J)) :
    xG d zm_W_law (646, [some (.ref r0), some (.ref r1), some (.ref r2), some (.ref r3), some (.int v4), some (.int v5), some (.int v6)], []) (sh, I, J) Q := by
  exact xG_N 1 (ps := []) (f1 := (647, [some (.ref r0), some (.ref r1), some (.ref r2), some (.ref r3), some (.int v4), some (.int v5), some (.int v6)], [.int (0 : Int32)])) (h1 := (sh, I, J)) rfl trivial (xG_Q rfl rfl (show ((0 : Int32) : Int32) = 0 ∨ ((0 : Int32) : Int32) = 1 by decide) k)
set_option maxRecDepth 100000 in
theorem s_W_law_648 {d : Nat} {Q : xO → xH → Prop} {sh : List xS} {I : Nat → Nat → Int32} {J : Nat → Nat → Int64} {r0 : Nat} {r1 : Nat} {r2 : Nat} {r3 : Nat} {v4 : Int32} {v5 : Int32} {v6 : Int32}
    (k1 : ¬ v5 = 0 → xG d zm_W_law (665, [some (.ref r0), some (.ref r1), some (.ref r2), some (.ref r3), some (.int v4), some (.int v5), some (.int v6)], []) (sh, I, J) Q)
    (k2 : ¬ (¬ v5 = 0) → xG d zm_W_law (653, [some (.ref r0), some (.ref r1), some (.ref r2), some (.ref r3), some (.int v4), some (.int v5), some (.int v6)], []) (sh, I, J) Q) :
    xG d zm_W_law (648, [some (.ref r0), some (.ref r1), some (.ref r2), some (.ref r3), some (.int v4), some (.int v5), some (.int v6)], []) (sh, I, J) Q := by
  exact xG_N 1 (ps := []) (f1 := (650, [some (.ref r0), some (.ref r1), some (.ref r2), some (.ref r3), some (.int v4), some (.int v5), some (.int v6)], [.int v5])) (h1 := (sh, I, J)) rfl trivial (xG_B rfl rfl k1 k2)
set_option maxRecDepth 100000 in
theorem s_W_law_653 {d : Nat} {Q : xO → xH → Prop} {sh : List xS} {I : Nat → Nat → Int32} {J : Nat → Nat → Int64} {r0 : Nat} {r1 : Nat} {r2 : Nat} {r3 : Nat} {v4 : Int32} {v5 : Int32} {v6 : Int32} {n1 : Nat}
    (e0 : xAr sh r3 .long n1)
    (e1 : vp_in (0 : Int32) n1)
    (k1 : (lg_cmp (J r3 0) v6.toInt64) = 0 → xG d zm_W_law (665, [some (.ref r0), some (.ref r1), some (.ref r2), some (.ref r3), some (.int v4), some (.int v5), some (.int v6)], []) (sh, I, J) Q)
    (k2 : ¬ ((lg_cmp (J r3 0) v6.toInt64) = 0) → xG d zm_W_law (663, [some (.ref r0), some (.ref r1), some (.ref r2), some (.ref r3), some (.int v4), some (.int v5), some (.int v6)], []) (sh, I, J) Q) :
    xG d zm_W_law (653, [some (.ref r0), some (.ref r1), some (.ref r2), some (.ref r3), some (.int v4), some (.int v5), some (.int v6)], []) (sh, I, J) Q := by
  obtain rfl := e0.eq
  exact xG_N 6 (ps := [xA sh r3 .long, vp_in (0 : Int32) (xlen sh r3)]) (f1 := (660, [some (.ref r0), some (.ref r1), some (.ref r2), some (.ref r3), some (.int v4), some (.int v5), some (.int v6)], [.int (lg_cmp (J r3 0) v6.toInt64)])) (h1 := (sh, I, J)) rfl ⟨e0.ar, e1⟩ (xG_B rfl rfl k1 k2)
set_option maxRecDepth 100000 in
theorem s_W_law_663 {d : Nat} {Q : xO → xH → Prop} {sh : List xS} {I : Nat → Nat → Int32} {J : Nat → Nat → Int64} {r0 : Nat} {r1 : Nat} {r2 : Nat} {r3 : Nat} {v4 : Int32} {v5 : Int32} {v6 : Int32}
    (k : Q (.inl (some (.int (0 : Int32)))) (sh, I, J)) :
    xG d zm_W_law (663, [some (.ref r0), some (.ref r1), some (.ref r2), some (.ref r3), some (.int v4), some (.int v5), some (.int v6)], []) (sh, I, J) Q := by
  exact xG_N 1 (ps := []) (f1 := (664, [some (.ref r0), some (.ref r1), some (.ref r2), some (.ref r3), some (.int v4), some (.int v5), some (.int v6)], [.int (0 : Int32)])) (h1 := (sh, I, J)) rfl trivial (xG_Q rfl rfl (show ((0 : Int32) : Int32) = 0 ∨ ((0 : Int32) : Int32) = 1 by decide) k)
set_option maxRecDepth 100000 in
theorem s_W_law_665 {d : Nat} {Q : xO → xH → Prop} {sh : List xS} {I : Nat → Nat → Int32} {J : Nat → Nat → Int64} {r0 : Nat} {r1 : Nat} {r2 : Nat} {r3 : Nat} {v4 : Int32} {v5 : Int32} {v6 : Int32}
    (k : xG d zm_W_law (23, [some (.ref r0), some (.ref r1), some (.ref r2), some (.ref r3), some (.int (v4 + (5 : Int32))), some (.int v5), some (.int v6)], []) (sh, I, J) Q) :
    xG d zm_W_law (665, [some (.ref r0), some (.ref r1), some (.ref r2), some (.ref r3), some (.int v4), some (.int v5), some (.int v6)], []) (sh, I, J) Q := by
  exact xG_N 3 (ps := []) (f1 := (23, [some (.ref r0), some (.ref r1), some (.ref r2), some (.ref r3), some (.int (v4 + (5 : Int32))), some (.int v5), some (.int v6)], [])) (h1 := (sh, I, J)) rfl trivial (k)
set_option maxRecDepth 100000 in
theorem s_W_law_668 {d : Nat} {Q : xO → xH → Prop} {sh : List xS} {I : Nat → Nat → Int32} {J : Nat → Nat → Int64} {r0 : Nat} {r1 : Nat} {r2 : Nat} {r3 : Nat} {v4 : Int32} {o5 : Option Value} {o6 : Option Value} {n1 : Nat}
    (e0 : xAr sh r0 .int n1)
    (e1 : vp_in (v4 + (1 : Int32)) n1)
    (ko : xOb sh r1 0)
    (k : xg d qL_had [.ref r1, .int (I r0 (v4 + (1 : Int32)).toNatClampNeg)] (sh, I, J) (xI (fun v h1 => xG d zm_W_law (678, [some (.ref r0), some (.ref r1), some (.ref r2), some (.ref r3), some (.int v4), o5, o6], [.int v]) h1 Q) (fun x h1 => Q (.inr x) h1))) :
    xG d zm_W_law (668, [some (.ref r0), some (.ref r1), some (.ref r2), some (.ref r3), some (.int v4), o5, o6], []) (sh, I, J) Q := by
  obtain rfl := e0.eq
  exact xG_N 6 (ps := [xA sh r0 .int, vp_in (v4 + (1 : Int32)) (xlen sh r0)]) (f1 := (675, [some (.ref r0), some (.ref r1), some (.ref r2), some (.ref r3), some (.int v4), o5, o6], [.int (I r0 (v4 + (1 : Int32)).toNatClampNeg), .ref r1])) (h1 := (sh, I, J)) rfl ⟨e0.ar, e1⟩ (xG_Ci rfl rfl (Nat.le_of_ble_eq_true rfl) (Nat.le_of_ble_eq_true rfl) ⟨_, _, rfl, ko⟩ rfl k)
set_option maxRecDepth 100000 in
theorem s_W_law_678 {d : Nat} {Q : xO → xH → Prop} {sh : List xS} {I : Nat → Nat → Int32} {J : Nat → Nat → Int64} {r0 : Nat} {r1 : Nat} {r2 : Nat} {r3 : Nat} {v4 : Int32} {o5 : Option Value} {o6 : Option Value} {t0 : Int32} {n1 : Nat}
    (e0 : xAr sh r0 .int n1)
    (e1 : vp_in (v4 + (1 : Int32)) n1)
    (ko : xOb sh r2 10)
    (k : xg d qM_had [.ref r2, .int (I r0 (v4 + (1 : Int32)).toNatClampNeg)] (sh, I, J) (xI (fun v h1 => xG d zm_W_law (688, [some (.ref r0), some (.ref r1), some (.ref r2), some (.ref r3), some (.int v4), o5, o6], [.int v, .int t0]) h1 Q) (fun x h1 => Q (.inr x) h1))) :
    xG d zm_W_law (678, [some (.ref r0), some (.ref r1), some (.ref r2), some (.ref r3), some (.int v4), o5, o6], [.int t0]) (sh, I, J) Q := by
  obtain rfl := e0.eq
  exact xG_N 6 (ps := [xA sh r0 .int, vp_in (v4 + (1 : Int32)) (xlen sh r0)]) (f1 := (685, [some (.ref r0), some (.ref r1), some (.ref r2), some (.ref r3), some (.int v4), o5, o6], [.int (I r0 (v4 + (1 : Int32)).toNatClampNeg), .ref r2, .int t0])) (h1 := (sh, I, J)) rfl ⟨e0.ar, e1⟩ (xG_Ci rfl rfl (Nat.le_of_ble_eq_true rfl) (Nat.le_of_ble_eq_true rfl) ⟨_, _, rfl, ko⟩ rfl k)
set_option maxRecDepth 100000 in
theorem s_W_law_688 {d : Nat} {Q : xO → xH → Prop} {sh : List xS} {I : Nat → Nat → Int32} {J : Nat → Nat → Int64} {r0 : Nat} {r1 : Nat} {r2 : Nat} {r3 : Nat} {v4 : Int32} {o5 : Option Value} {o6 : Option Value} {t0 : Int32} {t1 : Int32}
    (k1 : t0 = t1 → xG d zm_W_law (693, [some (.ref r0), some (.ref r1), some (.ref r2), some (.ref r3), some (.int v4), o5, o6], []) (sh, I, J) Q)
    (k2 : ¬ (t0 = t1) → xG d zm_W_law (691, [some (.ref r0), some (.ref r1), some (.ref r2), some (.ref r3), some (.int v4), o5, o6], []) (sh, I, J) Q) :
    xG d zm_W_law (688, [some (.ref r0), some (.ref r1), some (.ref r2), some (.ref r3), some (.int v4), o5, o6], [.int t1, .int t0]) (sh, I, J) Q := by
  exact xG_B rfl rfl k1 k2
set_option maxRecDepth 100000 in
theorem s_W_law_691 {d : Nat} {Q : xO → xH → Prop} {sh : List xS} {I : Nat → Nat → Int32} {J : Nat → Nat → Int64} {r0 : Nat} {r1 : Nat} {r2 : Nat} {r3 : Nat} {v4 : Int32} {o5 : Option Value} {o6 : Option Value}
    (k : Q (.inl (some (.int (0 : Int32)))) (sh, I, J)) :
    xG d zm_W_law (691, [some (.ref r0), some (.ref r1), some (.ref r2), some (.ref r3), some (.int v4), o5, o6], []) (sh, I, J) Q := by
  exact xG_N 1 (ps := []) (f1 := (692, [some (.ref r0), some (.ref r1), some (.ref r2), some (.ref r3), some (.int v4), o5, o6], [.int (0 : Int32)])) (h1 := (sh, I, J)) rfl trivial (xG_Q rfl rfl (show ((0 : Int32) : Int32) = 0 ∨ ((0 : Int32) : Int32) = 1 by decide) k)
set_option maxRecDepth 100000 in
theorem s_W_law_693 {d : Nat} {Q : xO → xH → Prop} {sh : List xS} {I : Nat → Nat → Int32} {J : Nat → Nat → Int64} {r0 : Nat} {r1 : Nat} {r2 : Nat} {r3 : Nat} {v4 : Int32} {o5 : Option Value} {o6 : Option Value}
    (k : xG d zm_W_law (23, [some (.ref r0), some (.ref r1), some (.ref r2), some (.ref r3), some (.int (v4 + (5 : Int32))), o5, o6], []) (sh, I, J) Q) :
    xG d zm_W_law (693, [some (.ref r0), some (.ref r1), some (.ref r2), some (.ref r3), some (.int v4), o5, o6], []) (sh, I, J) Q := by
  exact xG_N 2 (ps := []) (f1 := (23, [some (.ref r0), some (.ref r1), some (.ref r2), some (.ref r3), some (.int (v4 + (5 : Int32))), o5, o6], [])) (h1 := (sh, I, J)) rfl trivial (k)
set_option maxRecDepth 100000 in
theorem s_W_law_699 {d : Nat} {Q : xO → xH → Prop} {sh : List xS} {I : Nat → Nat → Int32} {J : Nat → Nat → Int64} {r0 : Nat} {r1 : Nat} {r2 : Nat} {r3 : Nat} {v4 : Int32} {o5 : Option Value} {o6 : Option Value}
    (k : Q (.inl (some (.int (1 : Int32)))) (sh, I, J)) :
    xG d zm_W_law (699, [some (.ref r0), some (.ref r1), some (.ref r2), some (.ref r3), some (.int v4), o5, o6], []) (sh, I, J) Q := by
  exact xG_N 1 (ps := []) (f1 := (700, [some (.ref r0), some (.ref r1), some (.ref r2), some (.ref r3), some (.int v4), o5, o6], [.int (1 : Int32)])) (h1 := (sh, I, J)) rfl trivial (xG_Q rfl rfl (show ((1 : Int32) : Int32) = 0 ∨ ((1 : Int32) : Int32) = 1 by decide) k)
