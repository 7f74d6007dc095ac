/-! Stretches of code, printed (wip/whole/gen_blocks.py). -/
set_option maxRecDepth 100000 in
theorem s_Bits_init_0 {d : Nat} {Q : xO → xH → Prop} {sh : List xS} {I : Nat → Nat → Int32} {J : Nat → Nat → Int64} {r0 : Nat}
    (k : xG d zm_Bits_init (10, [some (.ref r0)], [.ref sh.length, .ref r0]) (sh ++ [.inl (.int, ((700 : Int32) : Int32).toNatClampNeg)], xzer I sh.length, xzerL J sh.length) Q) :
    xG d zm_Bits_init (0, [some (.ref r0)], []) (sh, I, J) Q := by
  exact xG_N 5 (ps := [(([] : List Value).map fun v => v.category).sum ≤ 8, ¬ ((700 : Int32) : Int32) < 0, ((700 : Int32) : Int32).toNatClampNeg ≤ 65536, newarray.typeOf .int = .int ∨ newarray.typeOf .int = .boolean ∨ newarray.typeOf .int = .long]) (f1 := (10, [some (.ref r0)], [.ref sh.length, .ref r0])) (h1 := (sh ++ [.inl (.int, ((700 : Int32) : Int32).toNatClampNeg)], xzer I sh.length, xzerL J sh.length)) rfl ⟨(Nat.le_of_ble_eq_true rfl), (show ¬ ((700 : Int32) : Int32) < 0 by decide), (show ((700 : Int32) : Int32).toNatClampNeg ≤ 65536 by decide), Or.inl rfl⟩ (k)
set_option maxRecDepth 100000 in
theorem s_Bits_init_10 {d : Nat} {Q : xO → xH → Prop} {sh : List xS} {I : Nat → Nat → Int32} {J : Nat → Nat → Int64} {r0 : Nat} {t0 : Nat} {t1 : Nat}
    (e0 : xOb sh t0 1)
    (k : Q (.inl (none)) (xsr sh t0 0 t1, I, J)) :
    xG d zm_Bits_init (10, [some (.ref r0)], [.ref t1, .ref t0]) (sh, I, J) Q := by
  exact xG_N 1 (ps := [xOb sh t0 1, 0 < (zdf 1).length]) (f1 := (13, [some (.ref r0)], [])) (h1 := (xsr sh t0 0 t1, I, J)) rfl ⟨e0, (show 0 < (zdf 1).length by decide)⟩ (xG_Q rfl rfl trivial k)
set_option maxRecDepth 100000 in
theorem s_Bits_clear_0 {d : Nat} {Q : xO → xH → Prop} {sh : List xS} {I : Nat → Nat → Int32} {J : Nat → Nat → Int64} {r0 : Nat}
    (e0 : xOb sh r0 1)
    (k : Q (.inl (none)) (sh, xup I r0 1 (0 : Int32), J)) :
    xG d zm_Bits_clear (0, [some (.ref r0)], []) (sh, I, J) Q := by
  exact xG_N 3 (ps := [xOb sh r0 1]) (f1 := (5, [some (.ref r0)], [])) (h1 := (sh, xup I r0 1 (0 : Int32), J)) rfl e0 (xG_Q rfl rfl trivial k)
set_option maxRecDepth 100000 in
theorem s_Bits_bytesHeld_0 {d : Nat} {Q : xO → xH → Prop} {sh : List xS} {I : Nat → Nat → Int32} {J : Nat → Nat → Int64} {r0 : Nat}
    (e0 : xOb sh r0 1)
    (k : Q (.inl (some (.int (((I r0 1) + (7 : Int32)) / (8 : Int32))))) (sh, I, J)) :
    xG d zm_Bits_bytesHeld (0, [some (.ref r0)], []) (sh, I, J) Q := by
  exact xG_N 6 (ps := [xOb sh r0 1, ¬ (8 : Int32) = 0]) (f1 := (10, [some (.ref r0)], [.int (((I r0 1) + (7 : Int32)) / (8 : Int32))])) (h1 := (sh, I, J)) rfl ⟨e0, (show ¬ (8 : Int32) = 0 by decide)⟩ (xG_Q rfl rfl trivial k)
set_option maxRecDepth 100000 in
theorem s_Bits_bit_0 {d : Nat} {Q : xO → xH → Prop} {sh : List xS} {I : Nat → Nat → Int32} {J : Nat → Nat → Int64} {r0 : Nat}
    (ko : xOb sh r0 1)
    (k : xg d qBits_number [.ref r0, .int (1 : Int32)] (sh, I, J) (xI (fun v h1 => xG d zm_Bits_bit (5, [some (.ref r0)], [.int v]) h1 Q) (fun x h1 => Q (.inr x) h1))) :
    xG d zm_Bits_bit (0, [some (.ref r0)], []) (sh, I, J) Q := by
  exact xG_N 2 (ps := []) (f1 := (2, [some (.ref r0)], [.int (1 : Int32), .ref r0])) (h1 := (sh, I, J)) rfl trivial (xG_Ci rfl rfl (Nat.le_of_ble_eq_true rfl) (Nat.le_of_ble_eq_true rfl) ⟨_, _, rfl, ko⟩ rfl k)
set_option maxRecDepth 100000 in
theorem s_Bits_bit_5 {d : Nat} {Q : xO → xH → Prop} {sh : List xS} {I : Nat → Nat → Int32} {J : Nat → Nat → Int64} {r0 : Nat} {t0 : Int32}
    (k : Q (.inl (some (.int t0))) (sh, I, J)) :
    xG d zm_Bits_bit (5, [some (.ref r0)], [.int t0]) (sh, I, J) Q := by
  exact xG_Q rfl rfl trivial k
set_option maxRecDepth 100000 in
theorem s_Bits_number_0 {d : Nat} {Q : xO → xH → Prop} {sh : List xS} {I : Nat → Nat → Int32} {J : Nat → Nat → Int64} {r0 : Nat} {v1 : Int32}
    (e0 : xOb sh r0 1)
    (k1 : v1 ≤ ((I r0 1) - (I r0 2)) → xG d zm_Bits_number (23, [some (.ref r0), some (.int v1), none, none], []) (sh, I, J) Q)
    (k2 : ¬ (v1 ≤ ((I r0 1) - (I r0 2))) → xG d zm_Bits_number (13, [some (.ref r0), some (.int v1), none, none], []) (sh, I, J) Q) :
    xG d zm_Bits_number (0, [some (.ref r0), some (.int v1), none, none], []) (sh, I, J) Q := by
  exact xG_N 6 (ps := [xOb sh r0 1, xOb sh r0 1]) (f1 := (10, [some (.ref r0), some (.int v1), none, none], [.int ((I r0 1) - (I r0 2)), .int v1])) (h1 := (sh, I, J)) rfl ⟨e0, e0⟩ (xG_B rfl rfl k1 k2)
set_option maxRecDepth 100000 in
theorem s_Bits_number_13 {d : Nat} {Q : xO → xH → Prop} {sh : List xS} {I : Nat → Nat → Int32} {J : Nat → Nat → Int64} {r0 : Nat} {v1 : Int32}
    (k : Q (.inr sh.length) (sh ++ [.inr (100, [])], I, J)) :
    xG d zm_Bits_number (13, [some (.ref r0), some (.int v1), none, none], []) (sh, I, J) Q := by
  exact xG_T rfl rfl rfl (Nat.le_of_ble_eq_true rfl) k
set_option maxRecDepth 100000 in
theorem s_Bits_number_23 {d : Nat} {Q : xO → xH → Prop} {sh : List xS} {I : Nat → Nat → Int32} {J : Nat → Nat → Int64} {r0 : Nat} {v1 : Int32}
    (k : xG d zm_Bits_number (27, [some (.ref r0), some (.int v1), some (.int (0 : Int32)), some (.int (0 : Int32))], []) (sh, I, J) Q) :
    xG d zm_Bits_number (23, [some (.ref r0), some (.int v1), none, none], []) (sh, I, J) Q := by
  exact xG_N 4 (ps := []) (f1 := (27, [some (.ref r0), some (.int v1), some (.int (0 : Int32)), some (.int (0 : Int32))], [])) (h1 := (sh, I, J)) rfl trivial (k)
set_option maxRecDepth 100000 in
theorem s_Bits_number_27 {d : Nat} {Q : xO → xH → Prop} {sh : List xS} {I : Nat → Nat → Int32} {J : Nat → Nat → Int64} {r0 : Nat} {v1 : Int32} {v2 : Int32} {v3 : Int32}
    (k1 : v1 ≤ v3 → xG d zm_Bits_number (75, [some (.ref r0), some (.int v1), some (.int v2), some (.int v3)], []) (sh, I, J) Q)
    (k2 : ¬ (v1 ≤ v3) → xG d zm_Bits_number (32, [some (.ref r0), some (.int v1), some (.int v2), some (.int v3)], []) (sh, I, J) Q) :
    xG d zm_Bits_number (27, [some (.ref r0), some (.int v1), some (.int v2), some (.int v3)], []) (sh, I, J) Q := by
  exact xG_N 2 (ps := []) (f1 := (29, [some (.ref r0), some (.int v1), some (.int v2), some (.int v3)], [.int v1, .int v3])) (h1 := (sh, I, J)) rfl trivial (xG_B rfl rfl k1 k2)
set_option maxRecDepth 100000 in
theorem s_Bits_number_32 {d : Nat} {Q : xO → xH → Prop} {sh : List xS} {I : Nat → Nat → Int32} {J : Nat → Nat → Int64} {r0 : Nat} {v1 : Int32} {v2 : Int32} {v3 : Int32} {a1 : Nat} {n2 : Nat}
    (e0 : xRr sh r0 1 0 a1)
    (e1 : xAr sh a1 .int n2)
    (e2 : vp_in ((I r0 2) / (8 : Int32)) n2)
    (k : xG d zm_Bits_number (27, [some (.ref r0), some (.int v1), some (.int (v2 ||| ((((I a1 ((I r0 2) / (8 : Int32)).toNatClampNeg) >>> (((I r0 2) - (I r0 2) / (8 : Int32) * (8 : Int32)) &&& 31)) &&& (1 : Int32)) <<< (v3 &&& 31)))), some (.int (v3 + (1 : Int32)))], []) (sh, xup I r0 2 ((I r0 2) + (1 : Int32)), J) Q) :
    xG d zm_Bits_number (32, [some (.ref r0), some (.int v1), some (.int v2), some (.int v3)], []) (sh, I, J) Q := by
  obtain rfl := e0.eq
  obtain rfl := e1.eq
  exact xG_N 27 (ps := [xRf sh r0 1 0, xOb sh r0 1, ¬ (8 : Int32) = 0, xA sh (xrf sh r0 0) .int, vp_in ((I r0 2) / (8 : Int32)) (xlen sh (xrf sh r0 0)), xOb sh r0 1, ¬ (8 : Int32) = 0, xOb sh r0 1, xOb sh r0 1]) (f1 := (27, [some (.ref r0), some (.int v1), some (.int (v2 ||| ((((I (xrf sh r0 0) ((I r0 2) / (8 : Int32)).toNatClampNeg) >>> (((I r0 2) - (I r0 2) / (8 : Int32) * (8 : Int32)) &&& 31)) &&& (1 : Int32)) <<< (v3 &&& 31)))), some (.int (v3 + (1 : Int32)))], [])) (h1 := (sh, xup I r0 2 ((I r0 2) + (1 : Int32)), J)) rfl ⟨e0.rf, e0.ob, (show ¬ (8 : Int32) = 0 by decide), e1.ar, e2, e0.ob, (show ¬ (8 : Int32) = 0 by decide), e0.ob, e0.ob⟩ (k)
set_option maxRecDepth 100000 in
theorem s_Bits_number_75 {d : Nat} {Q : xO → xH → Prop} {sh : List xS} {I : Nat → Nat → Int32} {J : Nat → Nat → Int64} {r0 : Nat} {v1 : Int32} {v2 : Int32} {v3 : Int32}
    (k : Q (.inl (some (.int v2))) (sh, I, J)) :
    xG d zm_Bits_number (75, [some (.ref r0), some (.int v1), some (.int v2), some (.int v3)], []) (sh, I, J) Q := by
  exact xG_N 1 (ps := []) (f1 := (76, [some (.ref r0), some (.int v1), some (.int v2), some (.int v3)], [.int v2])) (h1 := (sh, I, J)) rfl trivial (xG_Q rfl rfl trivial k)
set_option maxRecDepth 100000 in
theorem s_Bits_put_0 {d : Nat} {Q : xO → xH → Prop} {sh : List xS} {I : Nat → Nat → Int32} {J : Nat → Nat → Int64} {r0 : Nat} {v1 : Int32} {v2 : Int32}
    (k : xG d zm_Bits_put (2, [some (.ref r0), some (.int v1), some (.int v2), some (.int (0 : Int32))], []) (sh, I, J) Q) :
    xG d zm_Bits_put (0, [some (.ref r0), some (.int v1), some (.int v2), none], []) (sh, I, J) Q := by
  exact xG_N 2 (ps := []) (f1 := (2, [some (.ref r0), some (.int v1), some (.int v2), some (.int (0 : Int32))], [])) (h1 := (sh, I, J)) rfl trivial (k)
set_option maxRecDepth 100000 in
theorem s_Bits_put_2 {d : Nat} {Q : xO → xH → Prop} {sh : List xS} {I : Nat → Nat → Int32} {J : Nat → Nat → Int64} {r0 : Nat} {v1 : Int32} {v2 : Int32} {v3 : Int32}
    (k1 : v2 ≤ v3 → xG d zm_Bits_put (22, [some (.ref r0), some (.int v1), some (.int v2), some (.int v3)], []) (sh, I, J) Q)
    (k2 : ¬ (v2 ≤ v3) → xG d zm_Bits_put (7, [some (.ref r0), some (.int v1), some (.int v2), some (.int v3)], []) (sh, I, J) Q) :
    xG d zm_Bits_put (2, [some (.ref r0), some (.int v1), some (.int v2), some (.int v3)], []) (sh, I, J) Q := by
  exact xG_N 2 (ps := []) (f1 := (4, [some (.ref r0), some (.int v1), some (.int v2), some (.int v3)], [.int v2, .int v3])) (h1 := (sh, I, J)) rfl trivial (xG_B rfl rfl k1 k2)
set_option maxRecDepth 100000 in
theorem s_Bits_put_7 {d : Nat} {Q : xO → xH → Prop} {sh : List xS} {I : Nat → Nat → Int32} {J : Nat → Nat → Int64} {r0 : Nat} {v1 : Int32} {v2 : Int32} {v3 : Int32}
    (ko : xOb sh r0 1)
    (k : xg d qBits_putBit [.ref r0, .int ((v1 >>> (v3 &&& 31)) &&& (1 : Int32))] (sh, I, J) (xU (fun h1 => xG d zm_Bits_put (16, [some (.ref r0), some (.int v1), some (.int v2), some (.int v3)], []) h1 Q) (fun x h1 => Q (.inr x) h1))) :
    xG d zm_Bits_put (7, [some (.ref r0), some (.int v1), some (.int v2), some (.int v3)], []) (sh, I, J) Q := by
  exact xG_N 6 (ps := []) (f1 := (13, [some (.ref r0), some (.int v1), some (.int v2), some (.int v3)], [.int ((v1 >>> (v3 &&& 31)) &&& (1 : Int32)), .ref r0])) (h1 := (sh, I, J)) rfl trivial (xG_Cu rfl rfl (Nat.le_of_ble_eq_true rfl) (Nat.le_of_ble_eq_true rfl) ⟨_, _, rfl, ko⟩ rfl k)
set_option maxRecDepth 100000 in
theorem s_Bits_put_16 {d : Nat} {Q : xO → xH → Prop} {sh : List xS} {I : Nat → Nat → Int32} {J : Nat → Nat → Int64} {r0 : Nat} {v1 : Int32} {v2 : Int32} {v3 : Int32}
    (k : xG d zm_Bits_put (2, [some (.ref r0), some (.int v1), some (.int v2), some (.int (v3 + (1 : Int32)))], []) (sh, I, J) Q) :
    xG d zm_Bits_put (16, [some (.ref r0), some (.int v1), some (.int v2), some (.int v3)], []) (sh, I, J) Q := by
  exact xG_N 2 (ps := []) (f1 := (2, [some (.ref r0), some (.int v1), some (.int v2), some (.int (v3 + (1 : Int32)))], [])) (h1 := (sh, I, J)) rfl trivial (k)
set_option maxRecDepth 100000 in
theorem s_Bits_put_22 {d : Nat} {Q : xO → xH → Prop} {sh : List xS} {I : Nat → Nat → Int32} {J : Nat → Nat → Int64} {r0 : Nat} {v1 : Int32} {v2 : Int32} {v3 : Int32}
    (k : Q (.inl (none)) (sh, I, J)) :
    xG d zm_Bits_put (22, [some (.ref r0), some (.int v1), some (.int v2), some (.int v3)], []) (sh, I, J) Q := by
  exact xG_Q rfl rfl trivial k
set_option maxRecDepth 100000 in
theorem s_Bits_putBit_0 {d : Nat} {Q : xO → xH → Prop} {sh : List xS} {I : Nat → Nat → Int32} {J : Nat → Nat → Int64} {r0 : Nat} {v1 : Int32}
    (e0 : xOb sh r0 1)
    (k1 : (700 : Int32) ≤ ((I r0 1) / (8 : Int32)) → xG d zm_Bits_putBit (53, [some (.ref r0), some (.int v1), some (.int ((I r0 1) / (8 : Int32))), none], []) (sh, I, J) Q)
    (k2 : ¬ ((700 : Int32) ≤ ((I r0 1) / (8 : Int32))) → xG d zm_Bits_putBit (15, [some (.ref r0), some (.int v1), some (.int ((I r0 1) / (8 : Int32))), none], []) (sh, I, J) Q) :
    xG d zm_Bits_putBit (0, [some (.ref r0), some (.int v1), none, none], []) (sh, I, J) Q := by
  exact xG_N 7 (ps := [xOb sh r0 1, ¬ (8 : Int32) = 0]) (f1 := (12, [some (.ref r0), some (.int v1), some (.int ((I r0 1) / (8 : Int32))), none], [.int (700 : Int32), .int ((I r0 1) / (8 : Int32))])) (h1 := (sh, I, J)) rfl ⟨e0, (show ¬ (8 : Int32) = 0 by decide)⟩ (xG_B rfl rfl k1 k2)
set_option maxRecDepth 100000 in
theorem s_Bits_putBit_15 {d : Nat} {Q : xO → xH → Prop} {sh : List xS} {I : Nat → Nat → Int32} {J : Nat → Nat → Int64} {r0 : Nat} {v1 : Int32} {v2 : Int32}
    (e0 : xOb sh r0 1)
    (k1 : ¬ ((I r0 1) - (I r0 1) / (8 : Int32) * (8 : Int32)) = 0 → xG d zm_Bits_putBit (29, [some (.ref r0), some (.int v1), some (.int v2), none], []) (sh, I, J) Q)
    (k2 : ¬ (¬ ((I r0 1) - (I r0 1) / (8 : Int32) * (8 : Int32)) = 0) → xG d zm_Bits_putBit (25, [some (.ref r0), some (.int v1), some (.int v2), none], []) (sh, I, J) Q) :
    xG d zm_Bits_putBit (15, [some (.ref r0), some (.int v1), some (.int v2), none], []) (sh, I, J) Q := by
  exact xG_N 4 (ps := [xOb sh r0 1, ¬ (8 : Int32) = 0]) (f1 := (22, [some (.ref r0), some (.int v1), some (.int v2), none], [.int ((I r0 1) - (I r0 1) / (8 : Int32) * (8 : Int32))])) (h1 := (sh, I, J)) rfl ⟨e0, (show ¬ (8 : Int32) = 0 by decide)⟩ (xG_B rfl rfl k1 k2)
set_option maxRecDepth 100000 in
theorem s_Bits_putBit_25 {d : Nat} {Q : xO → xH → Prop} {sh : List xS} {I : Nat → Nat → Int32} {J : Nat → Nat → Int64} {r0 : Nat} {v1 : Int32} {v2 : Int32} {a1 : Nat} {n2 : Nat}
    (e0 : xRr sh r0 1 0 a1)
    (e1 : xAr sh a1 .int n2)
    (e2 : 4 ≤ a1)
    (e3 : vp_in v2 n2)
    (k : Q (.inl (none)) (sh, xup (xup I a1 v2.toNatClampNeg ((0 : Int32) ||| (v1 <<< (((I r0 1) - (I r0 1) / (8 : Int32) * (8 : Int32)) &&& 31)))) r0 1 (((xup I a1 v2.toNatClampNeg ((0 : Int32) ||| (v1 <<< (((I r0 1) - (I r0 1) / (8 : Int32) * (8 : Int32)) &&& 31)))) r0 1) + (1 : Int32)), J)) :
    xG d zm_Bits_putBit (25, [some (.ref r0), some (.int v1), some (.int v2), none], []) (sh, I, J) Q := by
  obtain rfl := e0.eq
  obtain rfl := e1.eq
  exact xG_N 21 (ps := [xRf sh r0 1 0, xOb sh r0 1, ¬ (8 : Int32) = 0, xW sh (xrf sh r0 0) .int, vp_in v2 (xlen sh (xrf sh r0 0)), xOb sh r0 1, xOb sh r0 1]) (f1 := (63, [some (.ref r0), some (.int v1), some (.int v2), some (.int (0 : Int32))], [])) (h1 := (sh, xup (xup I (xrf sh r0 0) v2.toNatClampNeg ((0 : Int32) ||| (v1 <<< (((I r0 1) - (I r0 1) / (8 : Int32) * (8 : Int32)) &&& 31)))) r0 1 (((xup I (xrf sh r0 0) v2.toNatClampNeg ((0 : Int32) ||| (v1 <<< (((I r0 1) - (I r0 1) / (8 : Int32) * (8 : Int32)) &&& 31)))) r0 1) + (1 : Int32)), J)) rfl ⟨e0.rf, e0.ob, (show ¬ (8 : Int32) = 0 by decide), ⟨e1.ar, e2⟩, e3, e0.ob, e0.ob⟩ (xG_Q rfl rfl trivial k)
set_option maxRecDepth 100000 in
theorem s_Bits_putBit_29 {d : Nat} {Q : xO → xH → Prop} {sh : List xS} {I : Nat → Nat → Int32} {J : Nat → Nat → Int64} {r0 : Nat} {v1 : Int32} {v2 : Int32} {a1 : Nat} {n2 : Nat}
    (e0 : xRr sh r0 1 0 a1)
    (e1 : xAr sh a1 .int n2)
    (e2 : vp_in v2 n2)
    (e3 : 4 ≤ a1)
    (k : Q (.inl (none)) (sh, xup (xup I a1 v2.toNatClampNeg ((I a1 v2.toNatClampNeg) ||| (v1 <<< (((I r0 1) - (I r0 1) / (8 : Int32) * (8 : Int32)) &&& 31)))) r0 1 (((xup I a1 v2.toNatClampNeg ((I a1 v2.toNatClampNeg) ||| (v1 <<< (((I r0 1) - (I r0 1) / (8 : Int32) * (8 : Int32)) &&& 31)))) r0 1) + (1 : Int32)), J)) :
    xG d zm_Bits_putBit (29, [some (.ref r0), some (.int v1), some (.int v2), none], []) (sh, I, J) Q := by
  obtain rfl := e0.eq
  obtain rfl := e1.eq
  exact xG_N 23 (ps := [xRf sh r0 1 0, xA sh (xrf sh r0 0) .int, vp_in v2 (xlen sh (xrf sh r0 0)), xRf sh r0 1 0, xOb sh r0 1, ¬ (8 : Int32) = 0, xW sh (xrf sh r0 0) .int, vp_in v2 (xlen sh (xrf sh r0 0)), xOb sh r0 1, xOb sh r0 1]) (f1 := (63, [some (.ref r0), some (.int v1), some (.int v2), some (.int (I (xrf sh r0 0) v2.toNatClampNeg))], [])) (h1 := (sh, xup (xup I (xrf sh r0 0) v2.toNatClampNeg ((I (xrf sh r0 0) v2.toNatClampNeg) ||| (v1 <<< (((I r0 1) - (I r0 1) / (8 : Int32) * (8 : Int32)) &&& 31)))) r0 1 (((xup I (xrf sh r0 0) v2.toNatClampNeg ((I (xrf sh r0 0) v2.toNatClampNeg) ||| (v1 <<< (((I r0 1) - (I r0 1) / (8 : Int32) * (8 : Int32)) &&& 31)))) r0 1) + (1 : Int32)), J)) rfl ⟨e0.rf, e1.ar, e2, e0.rf, e0.ob, (show ¬ (8 : Int32) = 0 by decide), ⟨e1.ar, e3⟩, e2, e0.ob, e0.ob⟩ (xG_Q rfl rfl trivial k)
set_option maxRecDepth 100000 in
theorem s_Bits_putBit_53 {d : Nat} {Q : xO → xH → Prop} {sh : List xS} {I : Nat → Nat → Int32} {J : Nat → Nat → Int64} {r0 : Nat} {v1 : Int32} {v2 : Int32} {o3 : Option Value}
    (e0 : xOb sh r0 1)
    (k : Q (.inl (none)) (sh, xup I r0 1 ((I r0 1) + (1 : Int32)), J)) :
    xG d zm_Bits_putBit (53, [some (.ref r0), some (.int v1), some (.int v2), o3], []) (sh, I, J) Q := by
  exact xG_N 6 (ps := [xOb sh r0 1, xOb sh r0 1]) (f1 := (63, [some (.ref r0), some (.int v1), some (.int v2), o3], [])) (h1 := (sh, xup I r0 1 ((I r0 1) + (1 : Int32)), J)) rfl ⟨e0, e0⟩ (xG_Q rfl rfl trivial k)
set_option maxRecDepth 100000 in
theorem s_Bits_become_0 {d : Nat} {Q : xO → xH → Prop} {sh : List xS} {I : Nat → Nat → Int32} {J : Nat → Nat → Int64} {r0 : Nat} {r1 : Nat}
    (ko : xOb sh r1 1)
    (k : xg d qBits_bytesHeld [.ref r1] (sh, I, J) (xI (fun v h1 => xG d zm_Bits_become (4, [some (.ref r0), some (.ref r1), none], [.int v]) h1 Q) (fun x h1 => Q (.inr x) h1))) :
    xG d zm_Bits_become (0, [some (.ref r0), some (.ref r1), none], []) (sh, I, J) Q := by
  exact xG_N 1 (ps := []) (f1 := (1, [some (.ref r0), some (.ref r1), none], [.ref r1])) (h1 := (sh, I, J)) rfl trivial (xG_Ci rfl rfl (Nat.le_of_ble_eq_true rfl) (Nat.le_of_ble_eq_true rfl) ⟨_, _, rfl, ko⟩ rfl k)
set_option maxRecDepth 100000 in
theorem s_Bits_become_4 {d : Nat} {Q : xO → xH → Prop} {sh : List xS} {I : Nat → Nat → Int32} {J : Nat → Nat → Int64} {r0 : Nat} {r1 : Nat} {t0 : Int32} {a1 : Nat} {a2 : Nat} {n3 : Nat} {n4 : Nat}
    (e0 : xRr sh r1 1 0 a1)
    (e1 : xRr sh r0 1 0 a2)
    (e2 : xAr sh a1 .int n3)
    (e3 : xAr sh a2 .int n4)
    (e4 : 4 ≤ a1)
    (e5 : 4 ≤ a2)
    (e6 : ¬ (xmin t0 (700 : Int32) : Int32) < 0)
    (e7 : ((0 : Int32) : Int32).toNatClampNeg + (xmin t0 (700 : Int32) : Int32).toNatClampNeg ≤ n3)
    (e8 : ((0 : Int32) : Int32).toNatClampNeg + (xmin t0 (700 : Int32) : Int32).toNatClampNeg ≤ n4)
    (e9 : a1 ≠ a2)
    (k : Q (.inl (none)) (sh, xup (xcpy I a1 ((0 : Int32) : Int32).toNatClampNeg a2 ((0 : Int32) : Int32).toNatClampNeg (xmin t0 (700 : Int32) : Int32).toNatClampNeg) r0 1 ((xmin t0 (700 : Int32)) * (8 : Int32)), J)) :
    xG d zm_Bits_become (4, [some (.ref r0), some (.ref r1), none], [.int t0]) (sh, I, J) Q := by
  obtain rfl := e0.eq
  obtain rfl := e1.eq
  obtain rfl := e2.eq
  obtain rfl := e3.eq
  exact xG_N 16 (ps := [(([] : List Value).map fun v => v.category).sum ≤ 8, xRf sh r1 1 0, xRf sh r0 1 0, (([] : List Value).map fun v => v.category).sum ≤ 8, xW sh (xrf sh r1 0) .int, xW sh (xrf sh r0 0) .int, ¬ ((0 : Int32) : Int32) < 0, ¬ ((0 : Int32) : Int32) < 0, ¬ (xmin t0 (700 : Int32) : Int32) < 0, ((0 : Int32) : Int32).toNatClampNeg + (xmin t0 (700 : Int32) : Int32).toNatClampNeg ≤ (xlen sh (xrf sh r1 0)), ((0 : Int32) : Int32).toNatClampNeg + (xmin t0 (700 : Int32) : Int32).toNatClampNeg ≤ (xlen sh (xrf sh r0 0)), (xrf sh r1 0) ≠ (xrf sh r0 0), xOb sh r0 1]) (f1 := (33, [some (.ref r0), some (.ref r1), some (.int (xmin t0 (700 : Int32)))], [])) (h1 := (sh, xup (xcpy I (xrf sh r1 0) ((0 : Int32) : Int32).toNatClampNeg (xrf sh r0 0) ((0 : Int32) : Int32).toNatClampNeg (xmin t0 (700 : Int32) : Int32).toNatClampNeg) r0 1 ((xmin t0 (700 : Int32)) * (8 : Int32)), J)) rfl ⟨(Nat.le_of_ble_eq_true rfl), e0.rf, e1.rf, (Nat.le_of_ble_eq_true rfl), ⟨e2.ar, e4⟩, ⟨e3.ar, e5⟩, (show ¬ ((0 : Int32) : Int32) < 0 by decide), (show ¬ ((0 : Int32) : Int32) < 0 by decide), e6, e7, e8, e9, e1.ob⟩ (xG_Q rfl rfl trivial k)
set_option maxRecDepth 100000 in
theorem s_Plane_init_0 {d : Nat} {Q : xO → xH → Prop} {sh : List xS} {I : Nat → Nat → Int32} {J : Nat → Nat → Int64} {r0 : Nat} {v1 : Int32}
    (e0 : xOb sh r0 8)
    (e1 : ¬ (v1 : Int32) < 0)
    (e2 : (v1 : Int32).toNatClampNeg ≤ 65536)
    (k : xG d zm_Plane_init (18, [some (.ref r0), some (.int v1)], [.ref sh.length, .ref r0]) (sh ++ [.inl (.int, (v1 : Int32).toNatClampNeg)], xzer (xup (xup I r0 1 (1 : Int32)) r0 2 (1 : Int32)) sh.length, xzerL J sh.length) Q) :
    xG d zm_Plane_init (0, [some (.ref r0), some (.int v1)], []) (sh, I, J) Q := by
  exact xG_N 11 (ps := [(([] : List Value).map fun v => v.category).sum ≤ 8, xOb sh r0 8, xOb sh r0 8, ¬ (v1 : Int32) < 0, (v1 : Int32).toNatClampNeg ≤ 65536, newarray.typeOf .int = .int ∨ newarray.typeOf .int = .boolean ∨ newarray.typeOf .int = .long]) (f1 := (18, [some (.ref r0), some (.int v1)], [.ref sh.length, .ref r0])) (h1 := (sh ++ [.inl (.int, (v1 : Int32).toNatClampNeg)], xzer (xup (xup I r0 1 (1 : Int32)) r0 2 (1 : Int32)) sh.length, xzerL J sh.length)) rfl ⟨(Nat.le_of_ble_eq_true rfl), e0, e0, e1, e2, Or.inl rfl⟩ (k)
set_option maxRecDepth 100000 in
theorem s_Plane_init_18 {d : Nat} {Q : xO → xH → Prop} {sh : List xS} {I : Nat → Nat → Int32} {J : Nat → Nat → Int64} {r0 : Nat} {v1 : Int32} {t0 : Nat} {t1 : Nat}
    (e0 : xOb sh t0 8)
    (k : Q (.inl (none)) (xsr sh t0 0 t1, I, J)) :
    xG d zm_Plane_init (18, [some (.ref r0), some (.int v1)], [.ref t1, .ref t0]) (sh, I, J) Q := by
  exact xG_N 1 (ps := [xOb sh t0 8, 0 < (zdf 8).length]) (f1 := (21, [some (.ref r0), some (.int v1)], [])) (h1 := (xsr sh t0 0 t1, I, J)) rfl ⟨e0, (show 0 < (zdf 8).length by decide)⟩ (xG_Q rfl rfl trivial k)
set_option maxRecDepth 100000 in
theorem s_Plane_shape_0 {d : Nat} {Q : xO → xH → Prop} {sh : List xS} {I : Nat → Nat → Int32} {J : Nat → Nat → Int64} {r0 : Nat} {v1 : Int32} {v2 : Int32}
    (e0 : xOb sh r0 8)
    (k : Q (.inl (none)) (sh, xup (xup I r0 1 v1) r0 2 v2, J)) :
    xG d zm_Plane_shape (0, [some (.ref r0), some (.int v1), some (.int v2)], []) (sh, I, J) Q := by
  exact xG_N 6 (ps := [xOb sh r0 8, xOb sh r0 8]) (f1 := (10, [some (.ref r0), some (.int v1), some (.int v2)], [])) (h1 := (sh, xup (xup I r0 1 v1) r0 2 v2, J)) rfl ⟨e0, e0⟩ (xG_Q rfl rfl trivial k)
set_option maxRecDepth 100000 in
theorem s_Plane_count_0 {d : Nat} {Q : xO → xH → Prop} {sh : List xS} {I : Nat → Nat → Int32} {J : Nat → Nat → Int64} {r0 : Nat}
    (e0 : xOb sh r0 8)
    (k : Q (.inl (some (.int ((I r0 1) * (I r0 2))))) (sh, I, J)) :
    xG d zm_Plane_count (0, [some (.ref r0)], []) (sh, I, J) Q := by
  exact xG_N 5 (ps := [xOb sh r0 8, xOb sh r0 8]) (f1 := (9, [some (.ref r0)], [.int ((I r0 1) * (I r0 2))])) (h1 := (sh, I, J)) rfl ⟨e0, e0⟩ (xG_Q rfl rfl trivial k)
set_option maxRecDepth 100000 in
theorem s_Plane_holds_0 {d : Nat} {Q : xO → xH → Prop} {sh : List xS} {I : Nat → Nat → Int32} {J : Nat → Nat → Int64} {r0 : Nat} {v1 : Int32} {v2 : Int32}
    (k1 : v1 < 0 → xG d zm_Plane_holds (28, [some (.ref r0), some (.int v1), some (.int v2)], []) (sh, I, J) Q)
    (k2 : ¬ (v1 < 0) → xG d zm_Plane_holds (4, [some (.ref r0), some (.int v1), some (.int v2)], []) (sh, I, J) Q) :
    xG d zm_Plane_holds (0, [some (.ref r0), some (.int v1), some (.int v2)], []) (sh, I, J) Q := by
  exact xG_N 1 (ps := []) (f1 := (1, [some (.ref r0), some (.int v1), some (.int v2)], [.int v1])) (h1 := (sh, I, J)) rfl trivial (xG_B rfl rfl k1 k2)
set_option maxRecDepth 100000 in
theorem s_Plane_holds_4 {d : Nat} {Q : xO → xH → Prop} {sh : List xS} {I : Nat → Nat → Int32} {J : Nat → Nat → Int64} {r0 : Nat} {v1 : Int32} {v2 : Int32}
    (e0 : xOb sh r0 8)
    (k1 : (I r0 1) ≤ v1 → xG d zm_Plane_holds (28, [some (.ref r0), some (.int v1), some (.int v2)], []) (sh, I, J) Q)
    (k2 : ¬ ((I r0 1) ≤ v1) → xG d zm_Plane_holds (12, [some (.ref r0), some (.int v1), some (.int v2)], []) (sh, I, J) Q) :
    xG d zm_Plane_holds (4, [some (.ref r0), some (.int v1), some (.int v2)], []) (sh, I, J) Q := by
  exact xG_N 3 (ps := [xOb sh r0 8]) (f1 := (9, [some (.ref r0), some (.int v1), some (.int v2)], [.int (I r0 1), .int v1])) (h1 := (sh, I, J)) rfl e0 (xG_B rfl rfl k1 k2)
set_option maxRecDepth 100000 in
theorem s_Plane_holds_12 {d : Nat} {Q : xO → xH → Prop} {sh : List xS} {I : Nat → Nat → Int32} {J : Nat → Nat → Int64} {r0 : Nat} {v1 : Int32} {v2 : Int32}
    (k1 : v2 < 0 → xG d zm_Plane_holds (28, [some (.ref r0), some (.int v1), some (.int v2)], []) (sh, I, J) Q)
    (k2 : ¬ (v2 < 0) → xG d zm_Plane_holds (16, [some (.ref r0), some (.int v1), some (.int v2)], []) (sh, I, J) Q) :
    xG d zm_Plane_holds (12, [some (.ref r0), some (.int v1), some (.int v2)], []) (sh, I, J) Q := by
  exact xG_N 1 (ps := []) (f1 := (13, [some (.ref r0), some (.int v1), some (.int v2)], [.int v2])) (h1 := (sh, I, J)) rfl trivial (xG_B rfl rfl k1 k2)
set_option maxRecDepth 100000 in
theorem s_Plane_holds_16 {d : Nat} {Q : xO → xH → Prop} {sh : List xS} {I : Nat → Nat → Int32} {J : Nat → Nat → Int64} {r0 : Nat} {v1 : Int32} {v2 : Int32}
    (e0 : xOb sh r0 8)
    (k1 : (I r0 2) ≤ v2 → xG d zm_Plane_holds (28, [some (.ref r0), some (.int v1), some (.int v2)], []) (sh, I, J) Q)
    (k2 : ¬ ((I r0 2) ≤ v2) → xG d zm_Plane_holds (24, [some (.ref r0), some (.int v1), some (.int v2)], []) (sh, I, J) Q) :
    xG d zm_Plane_holds (16, [some (.ref r0), some (.int v1), some (.int v2)], []) (sh, I, J) Q := by
  exact xG_N 3 (ps := [xOb sh r0 8]) (f1 := (21, [some (.ref r0), some (.int v1), some (.int v2)], [.int (I r0 2), .int v2])) (h1 := (sh, I, J)) rfl e0 (xG_B rfl rfl k1 k2)
set_option maxRecDepth 100000 in
theorem s_Plane_holds_24 {d : Nat} {Q : xO → xH → Prop} {sh : List xS} {I : Nat → Nat → Int32} {J : Nat → Nat → Int64} {r0 : Nat} {v1 : Int32} {v2 : Int32}
    (k : Q (.inl (some (.int (1 : Int32)))) (sh, I, J)) :
    xG d zm_Plane_holds (24, [some (.ref r0), some (.int v1), some (.int v2)], []) (sh, I, J) Q := by
  exact xG_N 2 (ps := []) (f1 := (29, [some (.ref r0), some (.int v1), some (.int v2)], [.int (1 : Int32)])) (h1 := (sh, I, J)) rfl trivial (xG_Q rfl rfl (show ((1 : Int32) : Int32) = 0 ∨ ((1 : Int32) : Int32) = 1 by decide) k)
set_option maxRecDepth 100000 in
theorem s_Plane_holds_28 {d : Nat} {Q : xO → xH → Prop} {sh : List xS} {I : Nat → Nat → Int32} {J : Nat → Nat → Int64} {r0 : Nat} {v1 : Int32} {v2 : Int32}
    (k : Q (.inl (some (.int (0 : Int32)))) (sh, I, J)) :
    xG d zm_Plane_holds (28, [some (.ref r0), some (.int v1), some (.int v2)], []) (sh, I, J) Q := by
  exact xG_N 1 (ps := []) (f1 := (29, [some (.ref r0), some (.int v1), some (.int v2)], [.int (0 : Int32)])) (h1 := (sh, I, J)) rfl trivial (xG_Q rfl rfl (show ((0 : Int32) : Int32) = 0 ∨ ((0 : Int32) : Int32) = 1 by decide) k)
set_option maxRecDepth 100000 in
theorem s_Plane_become_0 {d : Nat} {Q : xO → xH → Prop} {sh : List xS} {I : Nat → Nat → Int32} {J : Nat → Nat → Int64} {r0 : Nat} {r1 : Nat}
    (e0 : xOb sh r1 8)
    (ko : xOb sh r0 8)
    (k : xg d qPlane_shape [.ref r0, .int (I r1 1), .int (I r1 2)] (sh, I, J) (xU (fun h1 => xG d zm_Plane_become (12, [some (.ref r0), some (.ref r1)], []) h1 Q) (fun x h1 => Q (.inr x) h1))) :
    xG d zm_Plane_become (0, [some (.ref r0), some (.ref r1)], []) (sh, I, J) Q := by
  exact xG_N 5 (ps := [xOb sh r1 8, xOb sh r1 8]) (f1 := (9, [some (.ref r0), some (.ref r1)], [.int (I r1 2), .int (I r1 1), .ref r0])) (h1 := (sh, I, J)) rfl ⟨e0, e0⟩ (xG_Cu rfl rfl (Nat.le_of_ble_eq_true rfl) (Nat.le_of_ble_eq_true rfl) ⟨_, _, rfl, ko⟩ rfl k)
set_option maxRecDepth 100000 in
theorem s_Plane_become_12 {d : Nat} {Q : xO → xH → Prop} {sh : List xS} {I : Nat → Nat → Int32} {J : Nat → Nat → Int64} {r0 : Nat} {r1 : Nat} {a1 : Nat} {a2 : Nat}
    (e0 : xRr sh r1 8 0 a1)
    (e1 : xRr sh r0 8 0 a2)
    (k : xg d qPlane_count [.ref r1] (sh, I, J) (xI (fun v h1 => xG d zm_Plane_become (26, [some (.ref r0), some (.ref r1)], [.int v, .int (0 : Int32), .ref a2, .int (0 : Int32), .ref a1]) h1 Q) (fun x h1 => Q (.inr x) h1))) :
    xG d zm_Plane_become (12, [some (.ref r0), some (.ref r1)], []) (sh, I, J) Q := by
  obtain rfl := e0.eq
  obtain rfl := e1.eq
  exact xG_N 7 (ps := [xRf sh r1 8 0, xRf sh r0 8 0]) (f1 := (23, [some (.ref r0), some (.ref r1)], [.ref r1, .int (0 : Int32), .ref (xrf sh r0 0), .int (0 : Int32), .ref (xrf sh r1 0)])) (h1 := (sh, I, J)) rfl ⟨e0.rf, e1.rf⟩ (xG_Ci rfl rfl (Nat.le_of_ble_eq_true rfl) (Nat.le_of_ble_eq_true rfl) ⟨_, _, rfl, e0.ob⟩ rfl k)
set_option maxRecDepth 100000 in
theorem s_Plane_become_26 {d : Nat} {Q : xO → xH → Prop} {sh : List xS} {I : Nat → Nat → Int32} {J : Nat → Nat → Int64} {r0 : Nat} {r1 : Nat} {t0 : Nat} {t1 : Int32} {t2 : Nat} {t3 : Int32} {t4 : Int32} {n1 : Nat} {n2 : Nat}
    (e0 : xAr sh t0 .int n1)
    (e1 : xAr sh t2 .int n2)
    (e2 : 4 ≤ t0)
    (e3 : 4 ≤ t2)
    (e4 : ¬ (t1 : Int32) < 0)
    (e5 : ¬ (t3 : Int32) < 0)
    (e6 : ¬ (t4 : Int32) < 0)
    (e7 : (t1 : Int32).toNatClampNeg + (t4 : Int32).toNatClampNeg ≤ n1)
    (e8 : (t3 : Int32).toNatClampNeg + (t4 : Int32).toNatClampNeg ≤ n2)
    (e9 : t0 ≠ t2)
    (k : Q (.inl (none)) (sh, xcpy I t0 (t1 : Int32).toNatClampNeg t2 (t3 : Int32).toNatClampNeg (t4 : Int32).toNatClampNeg, J)) :
    xG d zm_Plane_become (26, [some (.ref r0), some (.ref r1)], [.int t4, .int t3, .ref t2, .int t1, .ref t0]) (sh, I, J) Q := by
  obtain rfl := e0.eq
  obtain rfl := e1.eq
  exact xG_N 1 (ps := [(([] : List Value).map fun v => v.category).sum ≤ 8, xW sh t0 .int, xW sh t2 .int, ¬ (t1 : Int32) < 0, ¬ (t3 : Int32) < 0, ¬ (t4 : Int32) < 0, (t1 : Int32).toNatClampNeg + (t4 : Int32).toNatClampNeg ≤ (xlen sh t0), (t3 : Int32).toNatClampNeg + (t4 : Int32).toNatClampNeg ≤ (xlen sh t2), t0 ≠ t2]) (f1 := (29, [some (.ref r0), some (.ref r1)], [])) (h1 := (sh, xcpy I t0 (t1 : Int32).toNatClampNeg t2 (t3 : Int32).toNatClampNeg (t4 : Int32).toNatClampNeg, J)) rfl ⟨(Nat.le_of_ble_eq_true rfl), ⟨e0.ar, e2⟩, ⟨e1.ar, e3⟩, e4, e5, e6, e7, e8, e9⟩ (xG_Q rfl rfl trivial k)
set_option maxRecDepth 100000 in
theorem s_A_fill_0 {d : Nat} {Q : xO → xH → Prop} {sh : List xS} {I : Nat → Nat → Int32} {J : Nat → Nat → Int64} {r0 : Nat} {v1 : Int32} {n1 : Nat}
    (e0 : xAr sh r0 .int n1)
    (k : xG d zm_A_fill (5, [some (.ref r0), some (.int v1), some (.int (0 : Int32)), some (.int (nI n1))], []) (sh, I, J) Q) :
    xG d zm_A_fill (0, [some (.ref r0), some (.int v1), none, none], []) (sh, I, J) Q := by
  obtain rfl := e0.eq
  exact xG_N 5 (ps := [xA sh r0 .int]) (f1 := (5, [some (.ref r0), some (.int v1), some (.int (0 : Int32)), some (.int (nI (xlen sh r0)))], [])) (h1 := (sh, I, J)) rfl e0.ar (k)
set_option maxRecDepth 100000 in
theorem s_A_fill_5 {d : Nat} {Q : xO → xH → Prop} {sh : List xS} {I : Nat → Nat → Int32} {J : Nat → Nat → Int64} {r0 : Nat} {v1 : Int32} {v2 : Int32} {v3 : Int32}
    (k1 : v3 ≤ v2 → xG d zm_A_fill (20, [some (.ref r0), some (.int v1), some (.int v2), some (.int v3)], []) (sh, I, J) Q)
    (k2 : ¬ (v3 ≤ v2) → xG d zm_A_fill (10, [some (.ref r0), some (.int v1), some (.int v2), some (.int v3)], []) (sh, I, J) Q) :
    xG d zm_A_fill (5, [some (.ref r0), some (.int v1), some (.int v2), some (.int v3)], []) (sh, I, J) Q := by
  exact xG_N 2 (ps := []) (f1 := (7, [some (.ref r0), some (.int v1), some (.int v2), some (.int v3)], [.int v3, .int v2])) (h1 := (sh, I, J)) rfl trivial (xG_B rfl rfl k1 k2)
set_option maxRecDepth 100000 in
theorem s_A_fill_10 {d : Nat} {Q : xO → xH → Prop} {sh : List xS} {I : Nat → Nat → Int32} {J : Nat → Nat → Int64} {r0 : Nat} {v1 : Int32} {v2 : Int32} {v3 : Int32} {n1 : Nat}
    (e0 : xAr sh r0 .int n1)
    (e1 : 4 ≤ r0)
    (e2 : vp_in v2 n1)
    (k : xG d zm_A_fill (5, [some (.ref r0), some (.int v1), some (.int (v2 + (1 : Int32))), some (.int v3)], []) (sh, xup I r0 v2.toNatClampNeg v1, J) Q) :
    xG d zm_A_fill (10, [some (.ref r0), some (.int v1), some (.int v2), some (.int v3)], []) (sh, I, J) Q := by
  obtain rfl := e0.eq
  exact xG_N 6 (ps := [xW sh r0 .int, vp_in v2 (xlen sh r0)]) (f1 := (5, [some (.ref r0), some (.int v1), some (.int (v2 + (1 : Int32))), some (.int v3)], [])) (h1 := (sh, xup I r0 v2.toNatClampNeg v1, J)) rfl ⟨⟨e0.ar, e1⟩, e2⟩ (k)
set_option maxRecDepth 100000 in
theorem s_A_fill_20 {d : Nat} {Q : xO → xH → Prop} {sh : List xS} {I : Nat → Nat → Int32} {J : Nat → Nat → Int64} {r0 : Nat} {v1 : Int32} {v2 : Int32} {v3 : Int32}
    (k : Q (.inl (none)) (sh, I, J)) :
    xG d zm_A_fill (20, [some (.ref r0), some (.int v1), some (.int v2), some (.int v3)], []) (sh, I, J) Q := by
  exact xG_Q rfl rfl trivial k
set_option maxRecDepth 100000 in
theorem s_A_fill2_0 {d : Nat} {Q : xO → xH → Prop} {sh : List xS} {I : Nat → Nat → Int32} {J : Nat → Nat → Int64} {r0 : Nat} {v1 : Int32} {v2 : Int32} {v3 : Int32} {n1 : Nat}
    (e0 : xAr sh r0 .int n1)
    (k : xg d qA_rangeCheck [.int (nI n1), .int v1, .int v2] (sh, I, J) (xU (fun h1 => xG d zm_A_fill2 (7, [some (.ref r0), some (.int v1), some (.int v2), some (.int v3), none], []) h1 Q) (fun x h1 => Q (.inr x) h1))) :
    xG d zm_A_fill2 (0, [some (.ref r0), some (.int v1), some (.int v2), some (.int v3), none], []) (sh, I, J) Q := by
  obtain rfl := e0.eq
  exact xG_N 4 (ps := [xA sh r0 .int]) (f1 := (4, [some (.ref r0), some (.int v1), some (.int v2), some (.int v3), none], [.int v2, .int v1, .int (nI (xlen sh r0))])) (h1 := (sh, I, J)) rfl e0.ar (xG_Cu rfl rfl (Nat.le_of_ble_eq_true rfl) (Nat.le_of_ble_eq_true rfl) trivial rfl k)
set_option maxRecDepth 100000 in
theorem s_A_fill2_7 {d : Nat} {Q : xO → xH → Prop} {sh : List xS} {I : Nat → Nat → Int32} {J : Nat → Nat → Int64} {r0 : Nat} {v1 : Int32} {v2 : Int32} {v3 : Int32}
    (k : xG d zm_A_fill2 (10, [some (.ref r0), some (.int v1), some (.int v2), some (.int v3), some (.int v1)], []) (sh, I, J) Q) :
    xG d zm_A_fill2 (7, [some (.ref r0), some (.int v1), some (.int v2), some (.int v3), none], []) (sh, I, J) Q := by
  exact xG_N 2 (ps := []) (f1 := (10, [some (.ref r0), some (.int v1), some (.int v2), some (.int v3), some (.int v1)], [])) (h1 := (sh, I, J)) rfl trivial (k)
set_option maxRecDepth 100000 in
theorem s_A_fill2_10 {d : Nat} {Q : xO → xH → Prop} {sh : List xS} {I : Nat → Nat → Int32} {J : Nat → Nat → Int64} {r0 : Nat} {v1 : Int32} {v2 : Int32} {v3 : Int32} {v4 : Int32}
    (k1 : v2 ≤ v4 → xG d zm_A_fill2 (27, [some (.ref r0), some (.int v1), some (.int v2), some (.int v3), some (.int v4)], []) (sh, I, J) Q)
    (k2 : ¬ (v2 ≤ v4) → xG d zm_A_fill2 (16, [some (.ref r0), some (.int v1), some (.int v2), some (.int v3), some (.int v4)], []) (sh, I, J) Q) :
    xG d zm_A_fill2 (10, [some (.ref r0), some (.int v1), some (.int v2), some (.int v3), some (.int v4)], []) (sh, I, J) Q := by
  exact xG_N 2 (ps := []) (f1 := (13, [some (.ref r0), some (.int v1), some (.int v2), some (.int v3), some (.int v4)], [.int v2, .int v4])) (h1 := (sh, I, J)) rfl trivial (xG_B rfl rfl k1 k2)
set_option maxRecDepth 100000 in
theorem s_A_fill2_16 {d : Nat} {Q : xO → xH → Prop} {sh : List xS} {I : Nat → Nat → Int32} {J : Nat → Nat → Int64} {r0 : Nat} {v1 : Int32} {v2 : Int32} {v3 : Int32} {v4 : Int32} {n1 : Nat}
    (e0 : xAr sh r0 .int n1)
    (e1 : 4 ≤ r0)
    (e2 : vp_in v4 n1)
    (k : xG d zm_A_fill2 (10, [some (.ref r0), some (.int v1), some (.int v2), some (.int v3), some (.int (v4 + (1 : Int32)))], []) (sh, xup I r0 v4.toNatClampNeg v3, J) Q) :
    xG d zm_A_fill2 (16, [some (.ref r0), some (.int v1), some (.int v2), some (.int v3), some (.int v4)], []) (sh, I, J) Q := by
  obtain rfl := e0.eq
  exact xG_N 6 (ps := [xW sh r0 .int, vp_in v4 (xlen sh r0)]) (f1 := (10, [some (.ref r0), some (.int v1), some (.int v2), some (.int v3), some (.int (v4 + (1 : Int32)))], [])) (h1 := (sh, xup I r0 v4.toNatClampNeg v3, J)) rfl ⟨⟨e0.ar, e1⟩, e2⟩ (k)
set_option maxRecDepth 100000 in
theorem s_A_fill2_27 {d : Nat} {Q : xO → xH → Prop} {sh : List xS} {I : Nat → Nat → Int32} {J : Nat → Nat → Int64} {r0 : Nat} {v1 : Int32} {v2 : Int32} {v3 : Int32} {v4 : Int32}
    (k : Q (.inl (none)) (sh, I, J)) :
    xG d zm_A_fill2 (27, [some (.ref r0), some (.int v1), some (.int v2), some (.int v3), some (.int v4)], []) (sh, I, J) Q := by
  exact xG_Q rfl rfl trivial k
set_option maxRecDepth 100000 in
theorem s_A_rangeCheck_0 {d : Nat} {Q : xO → xH → Prop} {sh : List xS} {I : Nat → Nat → Int32} {J : Nat → Nat → Int64} {v0 : Int32} {v1 : Int32} {v2 : Int32}
    (k1 : v1 ≤ v2 → xG d zm_A_rangeCheck (46, [some (.int v0), some (.int v1), some (.int v2)], []) (sh, I, J) Q)
    (k2 : ¬ (v1 ≤ v2) → xG d zm_A_rangeCheck (5, [some (.int v0), some (.int v1), some (.int v2)], []) (sh, I, J) Q) :
    xG d zm_A_rangeCheck (0, [some (.int v0), some (.int v1), some (.int v2)], []) (sh, I, J) Q := by
  exact xG_N 2 (ps := []) (f1 := (2, [some (.int v0), some (.int v1), some (.int v2)], [.int v2, .int v1])) (h1 := (sh, I, J)) rfl trivial (xG_B rfl rfl k1 k2)
set_option maxRecDepth 100000 in
theorem s_A_rangeCheck_46 {d : Nat} {Q : xO → xH → Prop} {sh : List xS} {I : Nat → Nat → Int32} {J : Nat → Nat → Int64} {v0 : Int32} {v1 : Int32} {v2 : Int32}
    (k1 : 0 ≤ v1 → xG d zm_A_rangeCheck (59, [some (.int v0), some (.int v1), some (.int v2)], []) (sh, I, J) Q)
    (k2 : ¬ (0 ≤ v1) → xG d zm_A_rangeCheck (50, [some (.int v0), some (.int v1), some (.int v2)], []) (sh, I, J) Q) :
    xG d zm_A_rangeCheck (46, [some (.int v0), some (.int v1), some (.int v2)], []) (sh, I, J) Q := by
  exact xG_N 1 (ps := []) (f1 := (47, [some (.int v0), some (.int v1), some (.int v2)], [.int v1])) (h1 := (sh, I, J)) rfl trivial (xG_B rfl rfl k1 k2)
set_option maxRecDepth 100000 in
theorem s_A_rangeCheck_59 {d : Nat} {Q : xO → xH → Prop} {sh : List xS} {I : Nat → Nat → Int32} {J : Nat → Nat → Int64} {v0 : Int32} {v1 : Int32} {v2 : Int32}
    (k1 : v2 ≤ v0 → xG d zm_A_rangeCheck (73, [some (.int v0), some (.int v1), some (.int v2)], []) (sh, I, J) Q)
    (k2 : ¬ (v2 ≤ v0) → xG d zm_A_rangeCheck (64, [some (.int v0), some (.int v1), some (.int v2)], []) (sh, I, J) Q) :
    xG d zm_A_rangeCheck (59, [some (.int v0), some (.int v1), some (.int v2)], []) (sh, I, J) Q := by
  exact xG_N 2 (ps := []) (f1 := (61, [some (.int v0), some (.int v1), some (.int v2)], [.int v0, .int v2])) (h1 := (sh, I, J)) rfl trivial (xG_B rfl rfl k1 k2)
set_option maxRecDepth 100000 in
theorem s_A_rangeCheck_73 {d : Nat} {Q : xO → xH → Prop} {sh : List xS} {I : Nat → Nat → Int32} {J : Nat → Nat → Int64} {v0 : Int32} {v1 : Int32} {v2 : Int32}
    (k : Q (.inl (none)) (sh, I, J)) :
    xG d zm_A_rangeCheck (73, [some (.int v0), some (.int v1), some (.int v2)], []) (sh, I, J) Q := by
  exact xG_Q rfl rfl trivial k
set_option maxRecDepth 100000 in
theorem s_Cache_init_0 {d : Nat} {Q : xO → xH → Prop} {sh : List xS} {I : Nat → Nat → Int32} {J : Nat → Nat → Int64} {r0 : Nat}
    (k : xG d zm_Cache_init (9, [some (.ref r0)], [.ref sh.length, .ref r0]) (sh ++ [.inl (.int, ((16 : Int32) : Int32).toNatClampNeg)], xzer I sh.length, xzerL J sh.length) Q) :
    xG d zm_Cache_init (0, [some (.ref r0)], []) (sh, I, J) Q := by
  exact xG_N 5 (ps := [(([] : List Value).map fun v => v.category).sum ≤ 8, ¬ ((16 : Int32) : Int32) < 0, ((16 : Int32) : Int32).toNatClampNeg ≤ 65536, newarray.typeOf .int = .int ∨ newarray.typeOf .int = .boolean ∨ newarray.typeOf .int = .long]) (f1 := (9, [some (.ref r0)], [.ref sh.length, .ref r0])) (h1 := (sh ++ [.inl (.int, ((16 : Int32) : Int32).toNatClampNeg)], xzer I sh.length, xzerL J sh.length)) rfl ⟨(Nat.le_of_ble_eq_true rfl), (show ¬ ((16 : Int32) : Int32) < 0 by decide), (show ((16 : Int32) : Int32).toNatClampNeg ≤ 65536 by decide), Or.inl rfl⟩ (k)
set_option maxRecDepth 100000 in
theorem s_Cache_init_9 {d : Nat} {Q : xO → xH → Prop} {sh : List xS} {I : Nat → Nat → Int32} {J : Nat → Nat → Int64} {r0 : Nat} {t0 : Nat} {t1 : Nat}
    (e0 : xOb sh t0 2)
    (k : Q (.inl (none)) (xsr sh t0 0 t1, I, J)) :
    xG d zm_Cache_init (9, [some (.ref r0)], [.ref t1, .ref t0]) (sh, I, J) Q := by
  exact xG_N 1 (ps := [xOb sh t0 2, 0 < (zdf 2).length]) (f1 := (12, [some (.ref r0)], [])) (h1 := (xsr sh t0 0 t1, I, J)) rfl ⟨e0, (show 0 < (zdf 2).length by decide)⟩ (xG_Q rfl rfl trivial k)
set_option maxRecDepth 100000 in
theorem s_Cache_open_0 {d : Nat} {Q : xO → xH → Prop} {sh : List xS} {I : Nat → Nat → Int32} {J : Nat → Nat → Int64} {r0 : Nat} {v1 : Int32} {a1 : Nat}
    (e0 : xOb sh r0 2)
    (e1 : xRr sh r0 2 0 a1)
    (k : xg d qA_fill [.ref a1, .int (0 : Int32)] (sh, xup I r0 1 v1, J) (xU (fun h1 => xG d zm_Cache_open (13, [some (.ref r0), some (.int v1)], []) h1 Q) (fun x h1 => Q (.inr x) h1))) :
    xG d zm_Cache_open (0, [some (.ref r0), some (.int v1)], []) (sh, I, J) Q := by
  obtain rfl := e1.eq
  exact xG_N 6 (ps := [xOb sh r0 2, xRf sh r0 2 0]) (f1 := (10, [some (.ref r0), some (.int v1)], [.int (0 : Int32), .ref (xrf sh r0 0)])) (h1 := (sh, xup I r0 1 v1, J)) rfl ⟨e0, e1.rf⟩ (xG_Cu rfl rfl (Nat.le_of_ble_eq_true rfl) (Nat.le_of_ble_eq_true rfl) trivial rfl k)
set_option maxRecDepth 100000 in
theorem s_Cache_open_13 {d : Nat} {Q : xO → xH → Prop} {sh : List xS} {I : Nat → Nat → Int32} {J : Nat → Nat → Int64} {r0 : Nat} {v1 : Int32}
    (k : Q (.inl (none)) (sh, I, J)) :
    xG d zm_Cache_open (13, [some (.ref r0), some (.int v1)], []) (sh, I, J) Q := by
  exact xG_Q rfl rfl trivial k
set_option maxRecDepth 100000 in
theorem s_Cache_colourCount_0 {d : Nat} {Q : xO → xH → Prop} {sh : List xS} {I : Nat → Nat → Int32} {J : Nat → Nat → Int64} {r0 : Nat}
    (e0 : xOb sh r0 2)
    (k1 : ¬ (I r0 1) = 0 → xG d zm_Cache_colourCount (11, [some (.ref r0)], []) (sh, I, J) Q)
    (k2 : ¬ (¬ (I r0 1) = 0) → xG d zm_Cache_colourCount (7, [some (.ref r0)], []) (sh, I, J) Q) :
    xG d zm_Cache_colourCount (0, [some (.ref r0)], []) (sh, I, J) Q := by
  exact xG_N 2 (ps := [xOb sh r0 2]) (f1 := (4, [some (.ref r0)], [.int (I r0 1)])) (h1 := (sh, I, J)) rfl e0 (xG_B rfl rfl k1 k2)
set_option maxRecDepth 100000 in
theorem s_Cache_colourCount_7 {d : Nat} {Q : xO → xH → Prop} {sh : List xS} {I : Nat → Nat → Int32} {J : Nat → Nat → Int64} {r0 : Nat}
    (k : Q (.inl (some (.int (0 : Int32)))) (sh, I, J)) :
    xG d zm_Cache_colourCount (7, [some (.ref r0)], []) (sh, I, J) Q := by
  exact xG_N 2 (ps := []) (f1 := (17, [some (.ref r0)], [.int (0 : Int32)])) (h1 := (sh, I, J)) rfl trivial (xG_Q rfl rfl trivial k)
set_option maxRecDepth 100000 in
theorem s_Cache_colourCount_11 {d : Nat} {Q : xO → xH → Prop} {sh : List xS} {I : Nat → Nat → Int32} {J : Nat → Nat → Int64} {r0 : Nat}
    (e0 : xOb sh r0 2)
    (k : Q (.inl (some (.int ((1 : Int32) <<< ((I r0 1) &&& 31))))) (sh, I, J)) :
    xG d zm_Cache_colourCount (11, [some (.ref r0)], []) (sh, I, J) Q := by
  exact xG_N 4 (ps := [xOb sh r0 2]) (f1 := (17, [some (.ref r0)], [.int ((1 : Int32) <<< ((I r0 1) &&& 31))])) (h1 := (sh, I, J)) rfl e0 (xG_Q rfl rfl trivial k)
set_option maxRecDepth 100000 in
theorem s_Cache_placeOf_0 {d : Nat} {Q : xO → xH → Prop} {sh : List xS} {I : Nat → Nat → Int32} {J : Nat → Nat → Int64} {r0 : Nat} {v1 : Int32}
    (e0 : xOb sh r0 2)
    (k1 : ¬ (I r0 1) = 0 → xG d zm_Cache_placeOf (11, [some (.ref r0), some (.int v1)], []) (sh, I, J) Q)
    (k2 : ¬ (¬ (I r0 1) = 0) → xG d zm_Cache_placeOf (7, [some (.ref r0), some (.int v1)], []) (sh, I, J) Q) :
    xG d zm_Cache_placeOf (0, [some (.ref r0), some (.int v1)], []) (sh, I, J) Q := by
  exact xG_N 2 (ps := [xOb sh r0 2]) (f1 := (4, [some (.ref r0), some (.int v1)], [.int (I r0 1)])) (h1 := (sh, I, J)) rfl e0 (xG_B rfl rfl k1 k2)
set_option maxRecDepth 100000 in
theorem s_Cache_placeOf_7 {d : Nat} {Q : xO → xH → Prop} {sh : List xS} {I : Nat → Nat → Int32} {J : Nat → Nat → Int64} {r0 : Nat} {v1 : Int32}
    (k : Q (.inl (some (.int (0 : Int32)))) (sh, I, J)) :
    xG d zm_Cache_placeOf (7, [some (.ref r0), some (.int v1)], []) (sh, I, J) Q := by
  exact xG_N 2 (ps := []) (f1 := (23, [some (.ref r0), some (.int v1)], [.int (0 : Int32)])) (h1 := (sh, I, J)) rfl trivial (xG_Q rfl rfl trivial k)
set_option maxRecDepth 100000 in
theorem s_Cache_placeOf_11 {d : Nat} {Q : xO → xH → Prop} {sh : List xS} {I : Nat → Nat → Int32} {J : Nat → Nat → Int64} {r0 : Nat} {v1 : Int32}
    (e0 : xOb sh r0 2)
    (k : Q (.inl (some (.int (xus ((506832829 : Int32) * v1) ((32 : Int32) - (I r0 1)))))) (sh, I, J)) :
    xG d zm_Cache_placeOf (11, [some (.ref r0), some (.int v1)], []) (sh, I, J) Q := by
  exact xG_N 8 (ps := [xOb sh r0 2]) (f1 := (23, [some (.ref r0), some (.int v1)], [.int (xus ((506832829 : Int32) * v1) ((32 : Int32) - (I r0 1)))])) (h1 := (sh, I, J)) rfl e0 (xG_Q rfl rfl trivial k)
set_option maxRecDepth 100000 in
theorem s_Cache_has_0 {d : Nat} {Q : xO → xH → Prop} {sh : List xS} {I : Nat → Nat → Int32} {J : Nat → Nat → Int64} {r0 : Nat} {v1 : Int32}
    (e0 : xOb sh r0 2)
    (k1 : (I r0 1) ≤ 0 → xG d zm_Cache_has (25, [some (.ref r0), some (.int v1)], []) (sh, I, J) Q)
    (k2 : ¬ ((I r0 1) ≤ 0) → xG d zm_Cache_has (7, [some (.ref r0), some (.int v1)], []) (sh, I, J) Q) :
    xG d zm_Cache_has (0, [some (.ref r0), some (.int v1)], []) (sh, I, J) Q := by
  exact xG_N 2 (ps := [xOb sh r0 2]) (f1 := (4, [some (.ref r0), some (.int v1)], [.int (I r0 1)])) (h1 := (sh, I, J)) rfl e0 (xG_B rfl rfl k1 k2)
set_option maxRecDepth 100000 in
theorem s_Cache_has_7 {d : Nat} {Q : xO → xH → Prop} {sh : List xS} {I : Nat → Nat → Int32} {J : Nat → Nat → Int64} {r0 : Nat} {v1 : Int32} {a1 : Nat}
    (e0 : xRr sh r0 2 0 a1)
    (k : xg d qCache_placeOf [.ref r0, .int v1] (sh, I, J) (xI (fun v h1 => xG d zm_Cache_has (16, [some (.ref r0), some (.int v1)], [.int v, .ref a1]) h1 Q) (fun x h1 => Q (.inr x) h1))) :
    xG d zm_Cache_has (7, [some (.ref r0), some (.int v1)], []) (sh, I, J) Q := by
  obtain rfl := e0.eq
  exact xG_N 4 (ps := [xRf sh r0 2 0]) (f1 := (13, [some (.ref r0), some (.int v1)], [.int v1, .ref r0, .ref (xrf sh r0 0)])) (h1 := (sh, I, J)) rfl e0.rf (xG_Ci rfl rfl (Nat.le_of_ble_eq_true rfl) (Nat.le_of_ble_eq_true rfl) ⟨_, _, rfl, e0.ob⟩ rfl k)
set_option maxRecDepth 100000 in
theorem s_Cache_has_16 {d : Nat} {Q : xO → xH → Prop} {sh : List xS} {I : Nat → Nat → Int32} {J : Nat → Nat → Int64} {r0 : Nat} {v1 : Int32} {t0 : Nat} {t1 : Int32} {n1 : Nat}
    (e0 : xAr sh t0 .int n1)
    (e1 : vp_in t1 n1)
    (k1 : ¬ (I t0 t1.toNatClampNeg) = v1 → xG d zm_Cache_has (25, [some (.ref r0), some (.int v1)], []) (sh, I, J) Q)
    (k2 : ¬ (¬ (I t0 t1.toNatClampNeg) = v1) → xG d zm_Cache_has (21, [some (.ref r0), some (.int v1)], []) (sh, I, J) Q) :
    xG d zm_Cache_has (16, [some (.ref r0), some (.int v1)], [.int t1, .ref t0]) (sh, I, J) Q := by
  obtain rfl := e0.eq
  exact xG_N 2 (ps := [xA sh t0 .int, vp_in t1 (xlen sh t0)]) (f1 := (18, [some (.ref r0), some (.int v1)], [.int v1, .int (I t0 t1.toNatClampNeg)])) (h1 := (sh, I, J)) rfl ⟨e0.ar, e1⟩ (xG_B rfl rfl k1 k2)
set_option maxRecDepth 100000 in
theorem s_Cache_has_21 {d : Nat} {Q : xO → xH → Prop} {sh : List xS} {I : Nat → Nat → Int32} {J : Nat → Nat → Int64} {r0 : Nat} {v1 : Int32}
    (k : Q (.inl (some (.int (1 : Int32)))) (sh, I, J)) :
    xG d zm_Cache_has (21, [some (.ref r0), some (.int v1)], []) (sh, I, J) Q := by
  exact xG_N 2 (ps := []) (f1 := (26, [some (.ref r0), some (.int v1)], [.int (1 : Int32)])) (h1 := (sh, I, J)) rfl trivial (xG_Q rfl rfl (show ((1 : Int32) : Int32) = 0 ∨ ((1 : Int32) : Int32) = 1 by decide) k)
set_option maxRecDepth 100000 in
theorem s_Cache_has_25 {d : Nat} {Q : xO → xH → Prop} {sh : List xS} {I : Nat → Nat → Int32} {J : Nat → Nat → Int64} {r0 : Nat} {v1 : Int32}
    (k : Q (.inl (some (.int (0 : Int32)))) (sh, I, J)) :
    xG d zm_Cache_has (25, [some (.ref r0), some (.int v1)], []) (sh, I, J) Q := by
  exact xG_N 1 (ps := []) (f1 := (26, [some (.ref r0), some (.int v1)], [.int (0 : Int32)])) (h1 := (sh, I, J)) rfl trivial (xG_Q rfl rfl (show ((0 : Int32) : Int32) = 0 ∨ ((0 : Int32) : Int32) = 1 by decide) k)
set_option maxRecDepth 100000 in
theorem s_Cache_keep_0 {d : Nat} {Q : xO → xH → Prop} {sh : List xS} {I : Nat → Nat → Int32} {J : Nat → Nat → Int64} {r0 : Nat} {v1 : Int32} {a1 : Nat}
    (e0 : xRr sh r0 2 0 a1)
    (k : xg d qCache_placeOf [.ref r0, .int v1] (sh, I, J) (xI (fun v h1 => xG d zm_Cache_keep (9, [some (.ref r0), some (.int v1)], [.int v, .ref a1]) h1 Q) (fun x h1 => Q (.inr x) h1))) :
    xG d zm_Cache_keep (0, [some (.ref r0), some (.int v1)], []) (sh, I, J) Q := by
  obtain rfl := e0.eq
  exact xG_N 4 (ps := [xRf sh r0 2 0]) (f1 := (6, [some (.ref r0), some (.int v1)], [.int v1, .ref r0, .ref (xrf sh r0 0)])) (h1 := (sh, I, J)) rfl e0.rf (xG_Ci rfl rfl (Nat.le_of_ble_eq_true rfl) (Nat.le_of_ble_eq_true rfl) ⟨_, _, rfl, e0.ob⟩ rfl k)
set_option maxRecDepth 100000 in
theorem s_Cache_keep_9 {d : Nat} {Q : xO → xH → Prop} {sh : List xS} {I : Nat → Nat → Int32} {J : Nat → Nat → Int64} {r0 : Nat} {v1 : Int32} {t0 : Nat} {t1 : Int32} {n1 : Nat}
    (e0 : xAr sh t0 .int n1)
    (e1 : 4 ≤ t0)
    (e2 : vp_in t1 n1)
    (k : Q (.inl (none)) (sh, xup I t0 t1.toNatClampNeg v1, J)) :
    xG d zm_Cache_keep (9, [some (.ref r0), some (.int v1)], [.int t1, .ref t0]) (sh, I, J) Q := by
  obtain rfl := e0.eq
  exact xG_N 2 (ps := [xW sh t0 .int, vp_in t1 (xlen sh t0)]) (f1 := (11, [some (.ref r0), some (.int v1)], [])) (h1 := (sh, xup I t0 t1.toNatClampNeg v1, J)) rfl ⟨⟨e0.ar, e1⟩, e2⟩ (xG_Q rfl rfl trivial k)
set_option maxRecDepth 100000 in
theorem s_Code_init_0 {d : Nat} {Q : xO → xH → Prop} {sh : List xS} {I : Nat → Nat → Int32} {J : Nat → Nat → Int64} {r0 : Nat} {v1 : Int32}
    (k : xG d zm_Code_init (9, [some (.ref r0), some (.int v1)], [.ref sh.length, .ref r0]) (sh ++ [.inl (.int, ((16 : Int32) : Int32).toNatClampNeg)], xzer I sh.length, xzerL J sh.length) Q) :
    xG d zm_Code_init (0, [some (.ref r0), some (.int v1)], []) (sh, I, J) Q := by
  exact xG_N 5 (ps := [(([] : List Value).map fun v => v.category).sum ≤ 8, ¬ ((16 : Int32) : Int32) < 0, ((16 : Int32) : Int32).toNatClampNeg ≤ 65536, newarray.typeOf .int = .int ∨ newarray.typeOf .int = .boolean ∨ newarray.typeOf .int = .long]) (f1 := (9, [some (.ref r0), some (.int v1)], [.ref sh.length, .ref r0])) (h1 := (sh ++ [.inl (.int, ((16 : Int32) : Int32).toNatClampNeg)], xzer I sh.length, xzerL J sh.length)) rfl ⟨(Nat.le_of_ble_eq_true rfl), (show ¬ ((16 : Int32) : Int32) < 0 by decide), (show ((16 : Int32) : Int32).toNatClampNeg ≤ 65536 by decide), Or.inl rfl⟩ (k)
set_option maxRecDepth 100000 in
theorem s_Code_init_9 {d : Nat} {Q : xO → xH → Prop} {sh : List xS} {I : Nat → Nat → Int32} {J : Nat → Nat → Int64} {r0 : Nat} {v1 : Int32} {t0 : Nat} {t1 : Nat}
    (e0 : xOb sh t0 3)
    (k : xG d zm_Code_init (17, [some (.ref r0), some (.int v1)], [.ref ((xsr sh t0 3 t1).length), .ref r0]) ((xsr sh t0 3 t1) ++ [.inl (.int, ((16 : Int32) : Int32).toNatClampNeg)], xzer I (xsr sh t0 3 t1).length, xzerL J (xsr sh t0 3 t1).length) Q) :
    xG d zm_Code_init (9, [some (.ref r0), some (.int v1)], [.ref t1, .ref t0]) (sh, I, J) Q := by
  exact xG_N 4 (ps := [xOb sh t0 3, 3 < (zdf 3).length, ¬ ((16 : Int32) : Int32) < 0, ((16 : Int32) : Int32).toNatClampNeg ≤ 65536, newarray.typeOf .int = .int ∨ newarray.typeOf .int = .boolean ∨ newarray.typeOf .int = .long]) (f1 := (17, [some (.ref r0), some (.int v1)], [.ref ((xsr sh t0 3 t1).length), .ref r0])) (h1 := ((xsr sh t0 3 t1) ++ [.inl (.int, ((16 : Int32) : Int32).toNatClampNeg)], xzer I (xsr sh t0 3 t1).length, xzerL J (xsr sh t0 3 t1).length)) rfl ⟨e0, (show 3 < (zdf 3).length by decide), (show ¬ ((16 : Int32) : Int32) < 0 by decide), (show ((16 : Int32) : Int32).toNatClampNeg ≤ 65536 by decide), Or.inl rfl⟩ (k)
set_option maxRecDepth 100000 in
theorem s_Code_init_17 {d : Nat} {Q : xO → xH → Prop} {sh : List xS} {I : Nat → Nat → Int32} {J : Nat → Nat → Int64} {r0 : Nat} {v1 : Int32} {t0 : Nat} {t1 : Nat}
    (e0 : xOb sh t0 3)
    (k : xG d zm_Code_init (25, [some (.ref r0), some (.int v1)], [.ref ((xsr sh t0 4 t1).length), .ref r0]) ((xsr sh t0 4 t1) ++ [.inl (.int, ((16 : Int32) : Int32).toNatClampNeg)], xzer I (xsr sh t0 4 t1).length, xzerL J (xsr sh t0 4 t1).length) Q) :
    xG d zm_Code_init (17, [some (.ref r0), some (.int v1)], [.ref t1, .ref t0]) (sh, I, J) Q := by
  exact xG_N 4 (ps := [xOb sh t0 3, 4 < (zdf 3).length, ¬ ((16 : Int32) : Int32) < 0, ((16 : Int32) : Int32).toNatClampNeg ≤ 65536, newarray.typeOf .int = .int ∨ newarray.typeOf .int = .boolean ∨ newarray.typeOf .int = .long]) (f1 := (25, [some (.ref r0), some (.int v1)], [.ref ((xsr sh t0 4 t1).length), .ref r0])) (h1 := ((xsr sh t0 4 t1) ++ [.inl (.int, ((16 : Int32) : Int32).toNatClampNeg)], xzer I (xsr sh t0 4 t1).length, xzerL J (xsr sh t0 4 t1).length)) rfl ⟨e0, (show 4 < (zdf 3).length by decide), (show ¬ ((16 : Int32) : Int32) < 0 by decide), (show ((16 : Int32) : Int32).toNatClampNeg ≤ 65536 by decide), Or.inl rfl⟩ (k)
set_option maxRecDepth 100000 in
theorem s_Code_init_25 {d : Nat} {Q : xO → xH → Prop} {sh : List xS} {I : Nat → Nat → Int32} {J : Nat → Nat → Int64} {r0 : Nat} {v1 : Int32} {t0 : Nat} {t1 : Nat}
    (e0 : xOb sh t0 3)
    (e1 : ¬ (v1 : Int32) < 0)
    (e2 : (v1 : Int32).toNatClampNeg ≤ 65536)
    (k : xG d zm_Code_init (32, [some (.ref r0), some (.int v1)], [.ref ((xsr sh t0 5 t1).length), .ref r0]) ((xsr sh t0 5 t1) ++ [.inl (.int, (v1 : Int32).toNatClampNeg)], xzer I (xsr sh t0 5 t1).length, xzerL J (xsr sh t0 5 t1).length) Q) :
    xG d zm_Code_init (25, [some (.ref r0), some (.int v1)], [.ref t1, .ref t0]) (sh, I, J) Q := by
  exact xG_N 4 (ps := [xOb sh t0 3, 5 < (zdf 3).length, ¬ (v1 : Int32) < 0, (v1 : Int32).toNatClampNeg ≤ 65536, newarray.typeOf .int = .int ∨ newarray.typeOf .int = .boolean ∨ newarray.typeOf .int = .long]) (f1 := (32, [some (.ref r0), some (.int v1)], [.ref ((xsr sh t0 5 t1).length), .ref r0])) (h1 := ((xsr sh t0 5 t1) ++ [.inl (.int, (v1 : Int32).toNatClampNeg)], xzer I (xsr sh t0 5 t1).length, xzerL J (xsr sh t0 5 t1).length)) rfl ⟨e0, (show 5 < (zdf 3).length by decide), e1, e2, Or.inl rfl⟩ (k)
set_option maxRecDepth 100000 in
theorem s_Code_init_32 {d : Nat} {Q : xO → xH → Prop} {sh : List xS} {I : Nat → Nat → Int32} {J : Nat → Nat → Int64} {r0 : Nat} {v1 : Int32} {t0 : Nat} {t1 : Nat}
    (e0 : xOb sh t0 3)
    (e1 : ¬ (v1 : Int32) < 0)
    (e2 : (v1 : Int32).toNatClampNeg ≤ 65536)
    (k : xG d zm_Code_init (39, [some (.ref r0), some (.int v1)], [.ref ((xsr sh t0 0 t1).length), .ref r0]) ((xsr sh t0 0 t1) ++ [.inl (.int, (v1 : Int32).toNatClampNeg)], xzer I (xsr sh t0 0 t1).length, xzerL J (xsr sh t0 0 t1).length) Q) :
    xG d zm_Code_init (32, [some (.ref r0), some (.int v1)], [.ref t1, .ref t0]) (sh, I, J) Q := by
  exact xG_N 4 (ps := [xOb sh t0 3, 0 < (zdf 3).length, ¬ (v1 : Int32) < 0, (v1 : Int32).toNatClampNeg ≤ 65536, newarray.typeOf .int = .int ∨ newarray.typeOf .int = .boolean ∨ newarray.typeOf .int = .long]) (f1 := (39, [some (.ref r0), some (.int v1)], [.ref ((xsr sh t0 0 t1).length), .ref r0])) (h1 := ((xsr sh t0 0 t1) ++ [.inl (.int, (v1 : Int32).toNatClampNeg)], xzer I (xsr sh t0 0 t1).length, xzerL J (xsr sh t0 0 t1).length)) rfl ⟨e0, (show 0 < (zdf 3).length by decide), e1, e2, Or.inl rfl⟩ (k)
set_option maxRecDepth 100000 in
theorem s_Code_init_39 {d : Nat} {Q : xO → xH → Prop} {sh : List xS} {I : Nat → Nat → Int32} {J : Nat → Nat → Int64} {r0 : Nat} {v1 : Int32} {t0 : Nat} {t1 : Nat}
    (e0 : xOb sh t0 3)
    (e1 : ¬ (v1 : Int32) < 0)
    (e2 : (v1 : Int32).toNatClampNeg ≤ 65536)
    (k : xG d zm_Code_init (46, [some (.ref r0), some (.int v1)], [.ref ((xsr sh t0 1 t1).length), .ref r0]) ((xsr sh t0 1 t1) ++ [.inl (.int, (v1 : Int32).toNatClampNeg)], xzer I (xsr sh t0 1 t1).length, xzerL J (xsr sh t0 1 t1).length) Q) :
    xG d zm_Code_init (39, [some (.ref r0), some (.int v1)], [.ref t1, .ref t0]) (sh, I, J) Q := by
  exact xG_N 4 (ps := [xOb sh t0 3, 1 < (zdf 3).length, ¬ (v1 : Int32) < 0, (v1 : Int32).toNatClampNeg ≤ 65536, newarray.typeOf .int = .int ∨ newarray.typeOf .int = .boolean ∨ newarray.typeOf .int = .long]) (f1 := (46, [some (.ref r0), some (.int v1)], [.ref ((xsr sh t0 1 t1).length), .ref r0])) (h1 := ((xsr sh t0 1 t1) ++ [.inl (.int, (v1 : Int32).toNatClampNeg)], xzer I (xsr sh t0 1 t1).length, xzerL J (xsr sh t0 1 t1).length)) rfl ⟨e0, (show 1 < (zdf 3).length by decide), e1, e2, Or.inl rfl⟩ (k)
set_option maxRecDepth 100000 in
theorem s_Code_init_46 {d : Nat} {Q : xO → xH → Prop} {sh : List xS} {I : Nat → Nat → Int32} {J : Nat → Nat → Int64} {r0 : Nat} {v1 : Int32} {t0 : Nat} {t1 : Nat}
    (e0 : xOb sh t0 3)
    (k : Q (.inl (none)) (xsr sh t0 2 t1, I, J)) :
    xG d zm_Code_init (46, [some (.ref r0), some (.int v1)], [.ref t1, .ref t0]) (sh, I, J) Q := by
  exact xG_N 1 (ps := [xOb sh t0 3, 2 < (zdf 3).length]) (f1 := (49, [some (.ref r0), some (.int v1)], [])) (h1 := (xsr sh t0 2 t1, I, J)) rfl ⟨e0, (show 2 < (zdf 3).length by decide)⟩ (xG_Q rfl rfl trivial k)
set_option maxRecDepth 100000 in
theorem s_Code_clear_0 {d : Nat} {Q : xO → xH → Prop} {sh : List xS} {I : Nat → Nat → Int32} {J : Nat → Nat → Int64} {r0 : Nat} {v1 : Int32} {a1 : Nat}
    (e0 : xOb sh r0 3)
    (e1 : xRr sh r0 3 0 a1)
    (k : xg d qA_fill [.ref a1, .int (0 : Int32)] (sh, xup I r0 6 v1, J) (xU (fun h1 => xG d zm_Code_clear (13, [some (.ref r0), some (.int v1)], []) h1 Q) (fun x h1 => Q (.inr x) h1))) :
    xG d zm_Code_clear (0, [some (.ref r0), some (.int v1)], []) (sh, I, J) Q := by
  obtain rfl := e1.eq
  exact xG_N 6 (ps := [xOb sh r0 3, xRf sh r0 3 0]) (f1 := (10, [some (.ref r0), some (.int v1)], [.int (0 : Int32), .ref (xrf sh r0 0)])) (h1 := (sh, xup I r0 6 v1, J)) rfl ⟨e0, e1.rf⟩ (xG_Cu rfl rfl (Nat.le_of_ble_eq_true rfl) (Nat.le_of_ble_eq_true rfl) trivial rfl k)
set_option maxRecDepth 100000 in
theorem s_Code_clear_13 {d : Nat} {Q : xO → xH → Prop} {sh : List xS} {I : Nat → Nat → Int32} {J : Nat → Nat → Int64} {r0 : Nat} {v1 : Int32}
    (k : Q (.inl (none)) (sh, I, J)) :
    xG d zm_Code_clear (13, [some (.ref r0), some (.int v1)], []) (sh, I, J) Q := by
  exact xG_Q rfl rfl trivial k
set_option maxRecDepth 100000 in
theorem s_Code_arrange_0 {d : Nat} {Q : xO → xH → Prop} {sh : List xS} {I : Nat → Nat → Int32} {J : Nat → Nat → Int64} {r0 : Nat}
    (ko : xOb sh r0 3)
    (k : xg d qCode_countLengths [.ref r0] (sh, I, J) (xU (fun h1 => xG d zm_Code_arrange (4, [some (.ref r0), none, none, none, none, none], []) h1 Q) (fun x h1 => Q (.inr x) h1))) :
    xG d zm_Code_arrange (0, [some (.ref r0), none, none, none, none, none], []) (sh, I, J) Q := by
  exact xG_N 1 (ps := []) (f1 := (1, [some (.ref r0), none, none, none, none, none], [.ref r0])) (h1 := (sh, I, J)) rfl trivial (xG_Cu rfl rfl (Nat.le_of_ble_eq_true rfl) (Nat.le_of_ble_eq_true rfl) ⟨_, _, rfl, ko⟩ rfl k)
set_option maxRecDepth 100000 in
theorem s_Code_arrange_4 {d : Nat} {Q : xO → xH → Prop} {sh : List xS} {I : Nat → Nat → Int32} {J : Nat → Nat → Int64} {r0 : Nat}
    (k : xG d zm_Code_arrange (14, [some (.ref r0), some (.int (0 : Int32)), some (.int (0 : Int32)), some (.int (32768 : Int32)), some (.int (1 : Int32)), none], []) (sh, I, J) Q) :
    xG d zm_Code_arrange (4, [some (.ref r0), none, none, none, none, none], []) (sh, I, J) Q := by
  exact xG_N 8 (ps := []) (f1 := (14, [some (.ref r0), some (.int (0 : Int32)), some (.int (0 : Int32)), some (.int (32768 : Int32)), some (.int (1 : Int32)), none], [])) (h1 := (sh, I, J)) rfl trivial (k)
set_option maxRecDepth 100000 in
theorem s_Code_arrange_14 {d : Nat} {Q : xO → xH → Prop} {sh : List xS} {I : Nat → Nat → Int32} {J : Nat → Nat → Int64} {r0 : Nat} {v1 : Int32} {v2 : Int32} {v3 : Int32} {v4 : Int32}
    (k1 : (15 : Int32) < v4 → xG d zm_Code_arrange (83, [some (.ref r0), some (.int v1), some (.int v2), some (.int v3), some (.int v4), none], []) (sh, I, J) Q)
    (k2 : ¬ ((15 : Int32) < v4) → xG d zm_Code_arrange (21, [some (.ref r0), some (.int v1), some (.int v2), some (.int v3), some (.int v4), none], []) (sh, I, J) Q) :
    xG d zm_Code_arrange (14, [some (.ref r0), some (.int v1), some (.int v2), some (.int v3), some (.int v4), none], []) (sh, I, J) Q := by
  exact xG_N 2 (ps := []) (f1 := (18, [some (.ref r0), some (.int v1), some (.int v2), some (.int v3), some (.int v4), none], [.int (15 : Int32), .int v4])) (h1 := (sh, I, J)) rfl trivial (xG_B rfl rfl k1 k2)
set_option maxRecDepth 100000 in
theorem s_Code_arrange_21 {d : Nat} {Q : xO → xH → Prop} {sh : List xS} {I : Nat → Nat → Int32} {J : Nat → Nat → Int64} {r0 : Nat} {v1 : Int32} {v2 : Int32} {v3 : Int32} {v4 : Int32} {a1 : Nat} {n2 : Nat} {a3 : Nat} {n4 : Nat} {a5 : Nat} {n6 : Nat}
    (e0 : xRr sh r0 3 4 a1)
    (e1 : xAr sh a1 .int n2)
    (e2 : 4 ≤ a1)
    (e3 : vp_in v4 n2)
    (e4 : xRr sh r0 3 5 a3)
    (e5 : xAr sh a3 .int n4)
    (e6 : 4 ≤ a3)
    (e7 : vp_in v4 n4)
    (e8 : xRr sh r0 3 3 a5)
    (e9 : xAr sh a5 .int n6)
    (e10 : vp_in v4 n6)
    (k : xG d zm_Code_arrange (63, [some (.ref r0), some (.int (v1 + ((xup (xup I a1 v4.toNatClampNeg v1) a3 v4.toNatClampNeg (v2 * (2 : Int32))) a5 v4.toNatClampNeg))), some (.int ((v2 * (2 : Int32)) + ((xup (xup I a1 v4.toNatClampNeg v1) a3 v4.toNatClampNeg (v2 * (2 : Int32))) a5 v4.toNatClampNeg))), some (.int v3), some (.int v4), none], [.ref r0, .int v3]) (sh, xup (xup I a1 v4.toNatClampNeg v1) a3 v4.toNatClampNeg (v2 * (2 : Int32)), J) Q) :
    xG d zm_Code_arrange (21, [some (.ref r0), some (.int v1), some (.int v2), some (.int v3), some (.int v4), none], []) (sh, I, J) Q := by
  obtain rfl := e0.eq
  obtain rfl := e1.eq
  obtain rfl := e4.eq
  obtain rfl := e5.eq
  obtain rfl := e8.eq
  obtain rfl := e9.eq
  exact xG_N 30 (ps := [xRf sh r0 3 4, xW sh (xrf sh r0 4) .int, vp_in v4 (xlen sh (xrf sh r0 4)), xRf sh r0 3 5, xW sh (xrf sh r0 5) .int, vp_in v4 (xlen sh (xrf sh r0 5)), xRf sh r0 3 3, xA sh (xrf sh r0 3) .int, vp_in v4 (xlen sh (xrf sh r0 3)), xRf sh r0 3 3, xA sh (xrf sh r0 3) .int, vp_in v4 (xlen sh (xrf sh r0 3))]) (f1 := (63, [some (.ref r0), some (.int (v1 + ((xup (xup I (xrf sh r0 4) v4.toNatClampNeg v1) (xrf sh r0 5) v4.toNatClampNeg (v2 * (2 : Int32))) (xrf sh r0 3) v4.toNatClampNeg))), some (.int ((v2 * (2 : Int32)) + ((xup (xup I (xrf sh r0 4) v4.toNatClampNeg v1) (xrf sh r0 5) v4.toNatClampNeg (v2 * (2 : Int32))) (xrf sh r0 3) v4.toNatClampNeg))), some (.int v3), some (.int v4), none], [.ref r0, .int v3])) (h1 := (sh, xup (xup I (xrf sh r0 4) v4.toNatClampNeg v1) (xrf sh r0 5) v4.toNatClampNeg (v2 * (2 : Int32)), J)) rfl ⟨e0.rf, ⟨e1.ar, e2⟩, e3, e4.rf, ⟨e5.ar, e6⟩, e7, e8.rf, e9.ar, e10, e8.rf, e9.ar, e10⟩ (k)
set_option maxRecDepth 100000 in
theorem s_Code_arrange_83 {d : Nat} {Q : xO → xH → Prop} {sh : List xS} {I : Nat → Nat → Int32} {J : Nat → Nat → Int64} {r0 : Nat} {v1 : Int32} {v2 : Int32} {v3 : Int32} {v4 : Int32}
    (k : xG d zm_Code_arrange (86, [some (.ref r0), some (.int v1), some (.int v2), some (.int v3), some (.int (0 : Int32)), none], []) (sh, I, J) Q) :
    xG d zm_Code_arrange (83, [some (.ref r0), some (.int v1), some (.int v2), some (.int v3), some (.int v4), none], []) (sh, I, J) Q := by
  exact xG_N 2 (ps := []) (f1 := (86, [some (.ref r0), some (.int v1), some (.int v2), some (.int v3), some (.int (0 : Int32)), none], [])) (h1 := (sh, I, J)) rfl trivial (k)
set_option maxRecDepth 100000 in
theorem s_Code_arrange_86 {d : Nat} {Q : xO → xH → Prop} {sh : List xS} {I : Nat → Nat → Int32} {J : Nat → Nat → Int64} {r0 : Nat} {v1 : Int32} {v2 : Int32} {v3 : Int32} {v4 : Int32} {o5 : Option Value}
    (e0 : xOb sh r0 3)
    (k1 : (I r0 6) ≤ v4 → xG d zm_Code_arrange (153, [some (.ref r0), some (.int v1), some (.int v2), some (.int v3), some (.int v4), o5], []) (sh, I, J) Q)
    (k2 : ¬ ((I r0 6) ≤ v4) → xG d zm_Code_arrange (95, [some (.ref r0), some (.int v1), some (.int v2), some (.int v3), some (.int v4), o5], []) (sh, I, J) Q) :
    xG d zm_Code_arrange (86, [some (.ref r0), some (.int v1), some (.int v2), some (.int v3), some (.int v4), o5], []) (sh, I, J) Q := by
  exact xG_N 3 (ps := [xOb sh r0 3]) (f1 := (92, [some (.ref r0), some (.int v1), some (.int v2), some (.int v3), some (.int v4), o5], [.int (I r0 6), .int v4])) (h1 := (sh, I, J)) rfl e0 (xG_B rfl rfl k1 k2)
set_option maxRecDepth 100000 in
theorem s_Code_arrange_95 {d : Nat} {Q : xO → xH → Prop} {sh : List xS} {I : Nat → Nat → Int32} {J : Nat → Nat → Int64} {r0 : Nat} {v1 : Int32} {v2 : Int32} {v3 : Int32} {v4 : Int32} {o5 : Option Value} {a1 : Nat} {n2 : Nat}
    (e0 : xRr sh r0 3 0 a1)
    (e1 : xAr sh a1 .int n2)
    (e2 : vp_in v4 n2)
    (k1 : (I a1 v4.toNatClampNeg) ≤ 0 → xG d zm_Code_arrange (147, [some (.ref r0), some (.int v1), some (.int v2), some (.int v3), some (.int v4), some (.int (I a1 v4.toNatClampNeg))], []) (sh, I, J) Q)
    (k2 : ¬ ((I a1 v4.toNatClampNeg) ≤ 0) → xG d zm_Code_arrange (109, [some (.ref r0), some (.int v1), some (.int v2), some (.int v3), some (.int v4), some (.int (I a1 v4.toNatClampNeg))], []) (sh, I, J) Q) :
    xG d zm_Code_arrange (95, [some (.ref r0), some (.int v1), some (.int v2), some (.int v3), some (.int v4), o5], []) (sh, I, J) Q := by
  obtain rfl := e0.eq
  obtain rfl := e1.eq
  exact xG_N 6 (ps := [xRf sh r0 3 0, xA sh (xrf sh r0 0) .int, vp_in v4 (xlen sh (xrf sh r0 0))]) (f1 := (106, [some (.ref r0), some (.int v1), some (.int v2), some (.int v3), some (.int v4), some (.int (I (xrf sh r0 0) v4.toNatClampNeg))], [.int (I (xrf sh r0 0) v4.toNatClampNeg)])) (h1 := (sh, I, J)) rfl ⟨e0.rf, e1.ar, e2⟩ (xG_B rfl rfl k1 k2)
set_option maxRecDepth 100000 in
theorem s_Code_arrange_109 {d : Nat} {Q : xO → xH → Prop} {sh : List xS} {I : Nat → Nat → Int32} {J : Nat → Nat → Int64} {r0 : Nat} {v1 : Int32} {v2 : Int32} {v3 : Int32} {v4 : Int32} {v5 : Int32} {a1 : Nat} {a2 : Nat} {n3 : Nat} {n4 : Nat} {a5 : Nat} {a6 : Nat} {n7 : Nat} {n8 : Nat}
    (e0 : xRr sh r0 3 2 a1)
    (e1 : xRr sh r0 3 4 a2)
    (e2 : xAr sh a2 .int n3)
    (e3 : vp_in v5 n3)
    (e4 : 4 ≤ a2)
    (e5 : xAr sh a1 .int n4)
    (e6 : 4 ≤ a1)
    (e7 : vp_in (I a2 v5.toNatClampNeg) n4)
    (e8 : xRr sh r0 3 1 a5)
    (e9 : xRr sh r0 3 5 a6)
    (e10 : xAr sh a6 .int n7)
    (e11 : vp_in v5 n7)
    (e12 : 4 ≤ a6)
    (e13 : xAr sh a5 .int n8)
    (e14 : 4 ≤ a5)
    (e15 : vp_in v4 n8)
    (k : xG d zm_Code_arrange (86, [some (.ref r0), some (.int v1), some (.int v2), some (.int v3), some (.int (v4 + (1 : Int32))), some (.int v5)], []) (sh, xup (xup (xup (xup I a2 v5.toNatClampNeg ((I a2 v5.toNatClampNeg) + (1 : Int32))) a1 (I a2 v5.toNatClampNeg).toNatClampNeg v4) a6 v5.toNatClampNeg (((xup (xup I a2 v5.toNatClampNeg ((I a2 v5.toNatClampNeg) + (1 : Int32))) a1 (I a2 v5.toNatClampNeg).toNatClampNeg v4) a6 v5.toNatClampNeg) + (1 : Int32))) a5 v4.toNatClampNeg ((xup (xup I a2 v5.toNatClampNeg ((I a2 v5.toNatClampNeg) + (1 : Int32))) a1 (I a2 v5.toNatClampNeg).toNatClampNeg v4) a6 v5.toNatClampNeg), J) Q) :
    xG d zm_Code_arrange (109, [some (.ref r0), some (.int v1), some (.int v2), some (.int v3), some (.int v4), some (.int v5)], []) (sh, I, J) Q := by
  obtain rfl := e0.eq
  obtain rfl := e1.eq
  obtain rfl := e2.eq
  obtain rfl := e5.eq
  obtain rfl := e8.eq
  obtain rfl := e9.eq
  obtain rfl := e10.eq
  obtain rfl := e13.eq
  exact xG_N 28 (ps := [xRf sh r0 3 2, xRf sh r0 3 4, xA sh (xrf sh r0 4) .int, vp_in v5 (xlen sh (xrf sh r0 4)), xW sh (xrf sh r0 4) .int, vp_in v5 (xlen sh (xrf sh r0 4)), xW sh (xrf sh r0 2) .int, vp_in (I (xrf sh r0 4) v5.toNatClampNeg) (xlen sh (xrf sh r0 2)), xRf sh r0 3 1, xRf sh r0 3 5, xA sh (xrf sh r0 5) .int, vp_in v5 (xlen sh (xrf sh r0 5)), xW sh (xrf sh r0 5) .int, vp_in v5 (xlen sh (xrf sh r0 5)), xW sh (xrf sh r0 1) .int, vp_in v4 (xlen sh (xrf sh r0 1))]) (f1 := (86, [some (.ref r0), some (.int v1), some (.int v2), some (.int v3), some (.int (v4 + (1 : Int32))), some (.int v5)], [])) (h1 := (sh, xup (xup (xup (xup I (xrf sh r0 4) v5.toNatClampNeg ((I (xrf sh r0 4) v5.toNatClampNeg) + (1 : Int32))) (xrf sh r0 2) (I (xrf sh r0 4) v5.toNatClampNeg).toNatClampNeg v4) (xrf sh r0 5) v5.toNatClampNeg (((xup (xup I (xrf sh r0 4) v5.toNatClampNeg ((I (xrf sh r0 4) v5.toNatClampNeg) + (1 : Int32))) (xrf sh r0 2) (I (xrf sh r0 4) v5.toNatClampNeg).toNatClampNeg v4) (xrf sh r0 5) v5.toNatClampNeg) + (1 : Int32))) (xrf sh r0 1) v4.toNatClampNeg ((xup (xup I (xrf sh r0 4) v5.toNatClampNeg ((I (xrf sh r0 4) v5.toNatClampNeg) + (1 : Int32))) (xrf sh r0 2) (I (xrf sh r0 4) v5.toNatClampNeg).toNatClampNeg v4) (xrf sh r0 5) v5.toNatClampNeg), J)) rfl ⟨e0.rf, e1.rf, e2.ar, e3, ⟨e2.ar, e4⟩, e3, ⟨e5.ar, e6⟩, e7, e8.rf, e9.rf, e10.ar, e11, ⟨e10.ar, e12⟩, e11, ⟨e13.ar, e14⟩, e15⟩ (k)
set_option maxRecDepth 100000 in
theorem s_Code_arrange_147 {d : Nat} {Q : xO → xH → Prop} {sh : List xS} {I : Nat → Nat → Int32} {J : Nat → Nat → Int64} {r0 : Nat} {v1 : Int32} {v2 : Int32} {v3 : Int32} {v4 : Int32} {v5 : Int32}
    (k : xG d zm_Code_arrange (86, [some (.ref r0), some (.int v1), some (.int v2), some (.int v3), some (.int (v4 + (1 : Int32))), some (.int v5)], []) (sh, I, J) Q) :
    xG d zm_Code_arrange (147, [some (.ref r0), some (.int v1), some (.int v2), some (.int v3), some (.int v4), some (.int v5)], []) (sh, I, J) Q := by
  exact xG_N 2 (ps := []) (f1 := (86, [some (.ref r0), some (.int v1), some (.int v2), some (.int v3), some (.int (v4 + (1 : Int32))), some (.int v5)], [])) (h1 := (sh, I, J)) rfl trivial (k)
set_option maxRecDepth 100000 in
theorem s_Code_arrange_153 {d : Nat} {Q : xO → xH → Prop} {sh : List xS} {I : Nat → Nat → Int32} {J : Nat → Nat → Int64} {r0 : Nat} {v1 : Int32} {v2 : Int32} {v3 : Int32} {v4 : Int32} {o5 : Option Value}
    (e0 : xOb sh r0 3)
    (k1 : (I r0 7) = (1 : Int32) → xG d zm_Code_arrange (172, [some (.ref r0), some (.int v1), some (.int v2), some (.int v3), some (.int v4), o5], []) (sh, I, J) Q)
    (k2 : ¬ ((I r0 7) = (1 : Int32)) → xG d zm_Code_arrange (161, [some (.ref r0), some (.int v1), some (.int v2), some (.int v3), some (.int v4), o5], []) (sh, I, J) Q) :
    xG d zm_Code_arrange (153, [some (.ref r0), some (.int v1), some (.int v2), some (.int v3), some (.int v4), o5], []) (sh, I, J) Q := by
  exact xG_N 3 (ps := [xOb sh r0 3]) (f1 := (158, [some (.ref r0), some (.int v1), some (.int v2), some (.int v3), some (.int v4), o5], [.int (1 : Int32), .int (I r0 7)])) (h1 := (sh, I, J)) rfl e0 (xG_B rfl rfl k1 k2)
set_option maxRecDepth 100000 in
theorem s_Code_arrange_161 {d : Nat} {Q : xO → xH → Prop} {sh : List xS} {I : Nat → Nat → Int32} {J : Nat → Nat → Int64} {r0 : Nat} {v1 : Int32} {v2 : Int32} {v3 : Int32} {v4 : Int32} {o5 : Option Value}
    (e0 : xOb sh r0 3)
    (k1 : (I r0 7) ≤ 0 → xG d zm_Code_arrange (176, [some (.ref r0), some (.int v1), some (.int v2), some (.int v3), some (.int v4), o5], []) (sh, I, J) Q)
    (k2 : ¬ ((I r0 7) ≤ 0) → xG d zm_Code_arrange (168, [some (.ref r0), some (.int v1), some (.int v2), some (.int v3), some (.int v4), o5], []) (sh, I, J) Q) :
    xG d zm_Code_arrange (161, [some (.ref r0), some (.int v1), some (.int v2), some (.int v3), some (.int v4), o5], []) (sh, I, J) Q := by
  exact xG_N 2 (ps := [xOb sh r0 3]) (f1 := (165, [some (.ref r0), some (.int v1), some (.int v2), some (.int v3), some (.int v4), o5], [.int (I r0 7)])) (h1 := (sh, I, J)) rfl e0 (xG_B rfl rfl k1 k2)
set_option maxRecDepth 100000 in
theorem s_Code_arrange_168 {d : Nat} {Q : xO → xH → Prop} {sh : List xS} {I : Nat → Nat → Int32} {J : Nat → Nat → Int64} {r0 : Nat} {v1 : Int32} {v2 : Int32} {v3 : Int32} {v4 : Int32} {o5 : Option Value}
    (k1 : ¬ v3 = 0 → xG d zm_Code_arrange (176, [some (.ref r0), some (.int v1), some (.int v2), some (.int v3), some (.int v4), o5], []) (sh, I, J) Q)
    (k2 : ¬ (¬ v3 = 0) → xG d zm_Code_arrange (172, [some (.ref r0), some (.int v1), some (.int v2), some (.int v3), some (.int v4), o5], []) (sh, I, J) Q) :
    xG d zm_Code_arrange (168, [some (.ref r0), some (.int v1), some (.int v2), some (.int v3), some (.int v4), o5], []) (sh, I, J) Q := by
  exact xG_N 1 (ps := []) (f1 := (169, [some (.ref r0), some (.int v1), some (.int v2), some (.int v3), some (.int v4), o5], [.int v3])) (h1 := (sh, I, J)) rfl trivial (xG_B rfl rfl k1 k2)
set_option maxRecDepth 100000 in
theorem s_Code_arrange_172 {d : Nat} {Q : xO → xH → Prop} {sh : List xS} {I : Nat → Nat → Int32} {J : Nat → Nat → Int64} {r0 : Nat} {v1 : Int32} {v2 : Int32} {v3 : Int32} {v4 : Int32} {o5 : Option Value}
    (k : Q (.inl (some (.int (1 : Int32)))) (sh, I, J)) :
    xG d zm_Code_arrange (172, [some (.ref r0), some (.int v1), some (.int v2), some (.int v3), some (.int v4), o5], []) (sh, I, J) Q := by
  exact xG_N 2 (ps := []) (f1 := (177, [some (.ref r0), some (.int v1), some (.int v2), some (.int v3), some (.int v4), o5], [.int (1 : Int32)])) (h1 := (sh, I, J)) rfl trivial (xG_Q rfl rfl (show ((1 : Int32) : Int32) = 0 ∨ ((1 : Int32) : Int32) = 1 by decide) k)
set_option maxRecDepth 100000 in
theorem s_Code_arrange_176 {d : Nat} {Q : xO → xH → Prop} {sh : List xS} {I : Nat → Nat → Int32} {J : Nat → Nat → Int64} {r0 : Nat} {v1 : Int32} {v2 : Int32} {v3 : Int32} {v4 : Int32} {o5 : Option Value}
    (k : Q (.inl (some (.int (0 : Int32)))) (sh, I, J)) :
    xG d zm_Code_arrange (176, [some (.ref r0), some (.int v1), some (.int v2), some (.int v3), some (.int v4), o5], []) (sh, I, J) Q := by
  exact xG_N 1 (ps := []) (f1 := (177, [some (.ref r0), some (.int v1), some (.int v2), some (.int v3), some (.int v4), o5], [.int (0 : Int32)])) (h1 := (sh, I, J)) rfl trivial (xG_Q rfl rfl (show ((0 : Int32) : Int32) = 0 ∨ ((0 : Int32) : Int32) = 1 by decide) k)
set_option maxRecDepth 100000 in
theorem s_Code_arrange_63 {d : Nat} {Q : xO → xH → Prop} {sh : List xS} {I : Nat → Nat → Int32} {J : Nat → Nat → Int64} {r0 : Nat} {v1 : Int32} {v2 : Int32} {v3 : Int32} {v4 : Int32} {t0 : Int32} {t1 : Nat} {a1 : Nat} {n2 : Nat}
    (e0 : xRr sh t1 3 3 a1)
    (e1 : xAr sh a1 .int n2)
    (e2 : vp_in v4 n2)
    (k : xG d zm_Code_arrange (14, [some (.ref r0), some (.int v1), some (.int v2), some (.int (t0 - ((I a1 v4.toNatClampNeg) <<< (((15 : Int32) - v4) &&& 31)))), some (.int (v4 + (1 : Int32))), none], []) (sh, I, J) Q) :
    xG d zm_Code_arrange (63, [some (.ref r0), some (.int v1), some (.int v2), some (.int v3), some (.int v4), none], [.ref t1, .int t0]) (sh, I, J) Q := by
  obtain rfl := e0.eq
  obtain rfl := e1.eq
  exact xG_N 11 (ps := [xRf sh t1 3 3, xA sh (xrf sh t1 3) .int, vp_in v4 (xlen sh (xrf sh t1 3))]) (f1 := (14, [some (.ref r0), some (.int v1), some (.int v2), some (.int (t0 - ((I (xrf sh t1 3) v4.toNatClampNeg) <<< (((15 : Int32) - v4) &&& 31)))), some (.int (v4 + (1 : Int32))), none], [])) (h1 := (sh, I, J)) rfl ⟨e0.rf, e1.ar, e2⟩ (k)
set_option maxRecDepth 100000 in
theorem s_Code_countLengths_0 {d : Nat} {Q : xO → xH → Prop} {sh : List xS} {I : Nat → Nat → Int32} {J : Nat → Nat → Int64} {r0 : Nat} {a1 : Nat}
    (e0 : xRr sh r0 3 3 a1)
    (k : xg d qA_fill [.ref a1, .int (0 : Int32)] (sh, I, J) (xU (fun h1 => xG d zm_Code_countLengths (8, [some (.ref r0), none], []) h1 Q) (fun x h1 => Q (.inr x) h1))) :
    xG d zm_Code_countLengths (0, [some (.ref r0), none], []) (sh, I, J) Q := by
  obtain rfl := e0.eq
  exact xG_N 3 (ps := [xRf sh r0 3 3]) (f1 := (5, [some (.ref r0), none], [.int (0 : Int32), .ref (xrf sh r0 3)])) (h1 := (sh, I, J)) rfl e0.rf (xG_Cu rfl rfl (Nat.le_of_ble_eq_true rfl) (Nat.le_of_ble_eq_true rfl) trivial rfl k)
set_option maxRecDepth 100000 in
theorem s_Code_countLengths_8 {d : Nat} {Q : xO → xH → Prop} {sh : List xS} {I : Nat → Nat → Int32} {J : Nat → Nat → Int64} {r0 : Nat}
    (k : xG d zm_Code_countLengths (10, [some (.ref r0), some (.int (0 : Int32))], []) (sh, I, J) Q) :
    xG d zm_Code_countLengths (8, [some (.ref r0), none], []) (sh, I, J) Q := by
  exact xG_N 2 (ps := []) (f1 := (10, [some (.ref r0), some (.int (0 : Int32))], [])) (h1 := (sh, I, J)) rfl trivial (k)
set_option maxRecDepth 100000 in
theorem s_Code_countLengths_10 {d : Nat} {Q : xO → xH → Prop} {sh : List xS} {I : Nat → Nat → Int32} {J : Nat → Nat → Int64} {r0 : Nat} {v1 : Int32}
    (e0 : xOb sh r0 3)
    (k1 : (I r0 6) ≤ v1 → xG d zm_Code_countLengths (39, [some (.ref r0), some (.int v1)], []) (sh, I, J) Q)
    (k2 : ¬ ((I r0 6) ≤ v1) → xG d zm_Code_countLengths (18, [some (.ref r0), some (.int v1)], []) (sh, I, J) Q) :
    xG d zm_Code_countLengths (10, [some (.ref r0), some (.int v1)], []) (sh, I, J) Q := by
  exact xG_N 3 (ps := [xOb sh r0 3]) (f1 := (15, [some (.ref r0), some (.int v1)], [.int (I r0 6), .int v1])) (h1 := (sh, I, J)) rfl e0 (xG_B rfl rfl k1 k2)
set_option maxRecDepth 100000 in
theorem s_Code_countLengths_18 {d : Nat} {Q : xO → xH → Prop} {sh : List xS} {I : Nat → Nat → Int32} {J : Nat → Nat → Int64} {r0 : Nat} {v1 : Int32} {a1 : Nat} {a2 : Nat} {n3 : Nat} {n4 : Nat}
    (e0 : xRr sh r0 3 3 a1)
    (e1 : xRr sh r0 3 0 a2)
    (e2 : xAr sh a2 .int n3)
    (e3 : vp_in v1 n3)
    (e4 : xAr sh a1 .int n4)
    (e5 : vp_in (I a2 v1.toNatClampNeg) n4)
    (e6 : 4 ≤ a1)
    (k : xG d zm_Code_countLengths (10, [some (.ref r0), some (.int (v1 + (1 : Int32)))], []) (sh, xup I a1 (I a2 v1.toNatClampNeg).toNatClampNeg ((I a1 (I a2 v1.toNatClampNeg).toNatClampNeg) + (1 : Int32)), J) Q) :
    xG d zm_Code_countLengths (18, [some (.ref r0), some (.int v1)], []) (sh, I, J) Q := by
  obtain rfl := e0.eq
  obtain rfl := e1.eq
  obtain rfl := e2.eq
  obtain rfl := e4.eq
  exact xG_N 13 (ps := [xRf sh r0 3 3, xRf sh r0 3 0, xA sh (xrf sh r0 0) .int, vp_in v1 (xlen sh (xrf sh r0 0)), xA sh (xrf sh r0 3) .int, vp_in (I (xrf sh r0 0) v1.toNatClampNeg) (xlen sh (xrf sh r0 3)), xW sh (xrf sh r0 3) .int, vp_in (I (xrf sh r0 0) v1.toNatClampNeg) (xlen sh (xrf sh r0 3))]) (f1 := (10, [some (.ref r0), some (.int (v1 + (1 : Int32)))], [])) (h1 := (sh, xup I (xrf sh r0 3) (I (xrf sh r0 0) v1.toNatClampNeg).toNatClampNeg ((I (xrf sh r0 3) (I (xrf sh r0 0) v1.toNatClampNeg).toNatClampNeg) + (1 : Int32)), J)) rfl ⟨e0.rf, e1.rf, e2.ar, e3, e4.ar, e5, ⟨e4.ar, e6⟩, e5⟩ (k)
set_option maxRecDepth 100000 in
theorem s_Code_countLengths_39 {d : Nat} {Q : xO → xH → Prop} {sh : List xS} {I : Nat → Nat → Int32} {J : Nat → Nat → Int64} {r0 : Nat} {v1 : Int32} {a1 : Nat} {n2 : Nat}
    (e0 : xOb sh r0 3)
    (e1 : xRr sh r0 3 3 a1)
    (e2 : xAr sh a1 .int n2)
    (e3 : vp_in (0 : Int32) n2)
    (e4 : 4 ≤ a1)
    (k : Q (.inl (none)) (sh, xup (xup I r0 7 ((I r0 6) - (I a1 0))) a1 0 (0 : Int32), J)) :
    xG d zm_Code_countLengths (39, [some (.ref r0), some (.int v1)], []) (sh, I, J) Q := by
  obtain rfl := e1.eq
  obtain rfl := e2.eq
  exact xG_N 14 (ps := [xOb sh r0 3, xRf sh r0 3 3, xA sh (xrf sh r0 3) .int, vp_in (0 : Int32) (xlen sh (xrf sh r0 3)), xOb sh r0 3, xRf sh r0 3 3, xW sh (xrf sh r0 3) .int, vp_in (0 : Int32) (xlen sh (xrf sh r0 3))]) (f1 := (61, [some (.ref r0), some (.int v1)], [])) (h1 := (sh, xup (xup I r0 7 ((I r0 6) - (I (xrf sh r0 3) 0))) (xrf sh r0 3) 0 (0 : Int32), J)) rfl ⟨e0, e1.rf, e2.ar, e3, e0, e1.rf, ⟨e2.ar, e4⟩, e3⟩ (xG_Q rfl rfl trivial k)
set_option maxRecDepth 100000 in
theorem s_Code_hear_0 {d : Nat} {Q : xO → xH → Prop} {sh : List xS} {I : Nat → Nat → Int32} {J : Nat → Nat → Int64} {r0 : Nat} {r1 : Nat}
    (e0 : xOb sh r0 3)
    (k1 : ¬ (I r0 7) = (1 : Int32) → xG d zm_Code_hear (15, [some (.ref r0), some (.ref r1), none, none, none], []) (sh, I, J) Q)
    (k2 : ¬ (¬ (I r0 7) = (1 : Int32)) → xG d zm_Code_hear (8, [some (.ref r0), some (.ref r1), none, none, none], []) (sh, I, J) Q) :
    xG d zm_Code_hear (0, [some (.ref r0), some (.ref r1), none, none, none], []) (sh, I, J) Q := by
  exact xG_N 3 (ps := [xOb sh r0 3]) (f1 := (5, [some (.ref r0), some (.ref r1), none, none, none], [.int (1 : Int32), .int (I r0 7)])) (h1 := (sh, I, J)) rfl e0 (xG_B rfl rfl k1 k2)
set_option maxRecDepth 100000 in
theorem s_Code_hear_8 {d : Nat} {Q : xO → xH → Prop} {sh : List xS} {I : Nat → Nat → Int32} {J : Nat → Nat → Int64} {r0 : Nat} {r1 : Nat} {a1 : Nat} {n2 : Nat}
    (e0 : xRr sh r0 3 2 a1)
    (e1 : xAr sh a1 .int n2)
    (e2 : vp_in (0 : Int32) n2)
    (k : Q (.inl (some (.int (I a1 0)))) (sh, I, J)) :
    xG d zm_Code_hear (8, [some (.ref r0), some (.ref r1), none, none, none], []) (sh, I, J) Q := by
  obtain rfl := e0.eq
  obtain rfl := e1.eq
  exact xG_N 4 (ps := [xRf sh r0 3 2, xA sh (xrf sh r0 2) .int, vp_in (0 : Int32) (xlen sh (xrf sh r0 2))]) (f1 := (14, [some (.ref r0), some (.ref r1), none, none, none], [.int (I (xrf sh r0 2) 0)])) (h1 := (sh, I, J)) rfl ⟨e0.rf, e1.ar, e2⟩ (xG_Q rfl rfl trivial k)
set_option maxRecDepth 100000 in
theorem s_Code_hear_15 {d : Nat} {Q : xO → xH → Prop} {sh : List xS} {I : Nat → Nat → Int32} {J : Nat → Nat → Int64} {r0 : Nat} {r1 : Nat}
    (k : xG d zm_Code_hear (22, [some (.ref r0), some (.ref r1), some (.int (0 : Int32)), some (.int (0 : Int32)), some (.int (1 : Int32))], []) (sh, I, J) Q) :
    xG d zm_Code_hear (15, [some (.ref r0), some (.ref r1), none, none, none], []) (sh, I, J) Q := by
  exact xG_N 6 (ps := []) (f1 := (22, [some (.ref r0), some (.ref r1), some (.int (0 : Int32)), some (.int (0 : Int32)), some (.int (1 : Int32))], [])) (h1 := (sh, I, J)) rfl trivial (k)
set_option maxRecDepth 100000 in
theorem s_Code_hear_22 {d : Nat} {Q : xO → xH → Prop} {sh : List xS} {I : Nat → Nat → Int32} {J : Nat → Nat → Int64} {r0 : Nat} {r1 : Nat} {v2 : Int32} {v3 : Int32} {v4 : Int32}
    (k1 : (15 : Int32) < v4 → xG d zm_Code_hear (85, [some (.ref r0), some (.ref r1), some (.int v2), some (.int v3), some (.int v4)], []) (sh, I, J) Q)
    (k2 : ¬ ((15 : Int32) < v4) → xG d zm_Code_hear (29, [some (.ref r0), some (.ref r1), some (.int v2), some (.int v3), some (.int v4)], []) (sh, I, J) Q) :
    xG d zm_Code_hear (22, [some (.ref r0), some (.ref r1), some (.int v2), some (.int v3), some (.int v4)], []) (sh, I, J) Q := by
  exact xG_N 2 (ps := []) (f1 := (26, [some (.ref r0), some (.ref r1), some (.int v2), some (.int v3), some (.int v4)], [.int (15 : Int32), .int v4])) (h1 := (sh, I, J)) rfl trivial (xG_B rfl rfl k1 k2)
set_option maxRecDepth 100000 in
theorem s_Code_hear_29 {d : Nat} {Q : xO → xH → Prop} {sh : List xS} {I : Nat → Nat → Int32} {J : Nat → Nat → Int64} {r0 : Nat} {r1 : Nat} {v2 : Int32} {v3 : Int32} {v4 : Int32}
    (ko : xOb sh r1 1)
    (k : xg d qBits_number [.ref r1, .int (1 : Int32)] (sh, I, J) (xI (fun v h1 => xG d zm_Code_hear (37, [some (.ref r0), some (.ref r1), some (.int v2), some (.int v3), some (.int v4)], [.int v, .int (v3 * (2 : Int32))]) h1 Q) (fun x h1 => Q (.inr x) h1))) :
    xG d zm_Code_hear (29, [some (.ref r0), some (.ref r1), some (.int v2), some (.int v3), some (.int v4)], []) (sh, I, J) Q := by
  exact xG_N 5 (ps := []) (f1 := (34, [some (.ref r0), some (.ref r1), some (.int v2), some (.int v3), some (.int v4)], [.int (1 : Int32), .ref r1, .int (v3 * (2 : Int32))])) (h1 := (sh, I, J)) rfl trivial (xG_Ci rfl rfl (Nat.le_of_ble_eq_true rfl) (Nat.le_of_ble_eq_true rfl) ⟨_, _, rfl, ko⟩ rfl k)
set_option maxRecDepth 100000 in
theorem s_Code_hear_37 {d : Nat} {Q : xO → xH → Prop} {sh : List xS} {I : Nat → Nat → Int32} {J : Nat → Nat → Int64} {r0 : Nat} {r1 : Nat} {v2 : Int32} {v3 : Int32} {v4 : Int32} {t0 : Int32} {t1 : Int32} {a1 : Nat} {n2 : Nat}
    (e0 : xRr sh r0 3 3 a1)
    (e1 : xAr sh a1 .int n2)
    (e2 : vp_in v4 n2)
    (k1 : (I a1 v4.toNatClampNeg) ≤ (t0 + t1) → xG d zm_Code_hear (59, [some (.ref r0), some (.ref r1), some (.int v2), some (.int (t0 + t1)), some (.int v4)], []) (sh, I, J) Q)
    (k2 : ¬ ((I a1 v4.toNatClampNeg) ≤ (t0 + t1)) → xG d zm_Code_hear (50, [some (.ref r0), some (.ref r1), some (.int v2), some (.int (t0 + t1)), some (.int v4)], []) (sh, I, J) Q) :
    xG d zm_Code_hear (37, [some (.ref r0), some (.ref r1), some (.int v2), some (.int v3), some (.int v4)], [.int t1, .int t0]) (sh, I, J) Q := by
  obtain rfl := e0.eq
  obtain rfl := e1.eq
  exact xG_N 7 (ps := [xRf sh r0 3 3, xA sh (xrf sh r0 3) .int, vp_in v4 (xlen sh (xrf sh r0 3))]) (f1 := (47, [some (.ref r0), some (.ref r1), some (.int v2), some (.int (t0 + t1)), some (.int v4)], [.int (I (xrf sh r0 3) v4.toNatClampNeg), .int (t0 + t1)])) (h1 := (sh, I, J)) rfl ⟨e0.rf, e1.ar, e2⟩ (xG_B rfl rfl k1 k2)
set_option maxRecDepth 100000 in
theorem s_Code_hear_50 {d : Nat} {Q : xO → xH → Prop} {sh : List xS} {I : Nat → Nat → Int32} {J : Nat → Nat → Int64} {r0 : Nat} {r1 : Nat} {v2 : Int32} {v3 : Int32} {v4 : Int32} {a1 : Nat} {n2 : Nat}
    (e0 : xRr sh r0 3 2 a1)
    (e1 : xAr sh a1 .int n2)
    (e2 : vp_in (v2 + v3) n2)
    (k : Q (.inl (some (.int (I a1 (v2 + v3).toNatClampNeg)))) (sh, I, J)) :
    xG d zm_Code_hear (50, [some (.ref r0), some (.ref r1), some (.int v2), some (.int v3), some (.int v4)], []) (sh, I, J) Q := by
  obtain rfl := e0.eq
  obtain rfl := e1.eq
  exact xG_N 6 (ps := [xRf sh r0 3 2, xA sh (xrf sh r0 2) .int, vp_in (v2 + v3) (xlen sh (xrf sh r0 2))]) (f1 := (58, [some (.ref r0), some (.ref r1), some (.int v2), some (.int v3), some (.int v4)], [.int (I (xrf sh r0 2) (v2 + v3).toNatClampNeg)])) (h1 := (sh, I, J)) rfl ⟨e0.rf, e1.ar, e2⟩ (xG_Q rfl rfl trivial k)
set_option maxRecDepth 100000 in
theorem s_Code_hear_59 {d : Nat} {Q : xO → xH → Prop} {sh : List xS} {I : Nat → Nat → Int32} {J : Nat → Nat → Int64} {r0 : Nat} {r1 : Nat} {v2 : Int32} {v3 : Int32} {v4 : Int32} {a1 : Nat} {n2 : Nat}
    (e0 : xRr sh r0 3 3 a1)
    (e1 : xAr sh a1 .int n2)
    (e2 : vp_in v4 n2)
    (k : xG d zm_Code_hear (22, [some (.ref r0), some (.ref r1), some (.int (v2 + (I a1 v4.toNatClampNeg))), some (.int (v3 - (I a1 v4.toNatClampNeg))), some (.int (v4 + (1 : Int32)))], []) (sh, I, J) Q) :
    xG d zm_Code_hear (59, [some (.ref r0), some (.ref r1), some (.int v2), some (.int v3), some (.int v4)], []) (sh, I, J) Q := by
  obtain rfl := e0.eq
  obtain rfl := e1.eq
  exact xG_N 16 (ps := [xRf sh r0 3 3, xA sh (xrf sh r0 3) .int, vp_in v4 (xlen sh (xrf sh r0 3)), xRf sh r0 3 3, xA sh (xrf sh r0 3) .int, vp_in v4 (xlen sh (xrf sh r0 3))]) (f1 := (22, [some (.ref r0), some (.ref r1), some (.int (v2 + (I (xrf sh r0 3) v4.toNatClampNeg))), some (.int (v3 - (I (xrf sh r0 3) v4.toNatClampNeg))), some (.int (v4 + (1 : Int32)))], [])) (h1 := (sh, I, J)) rfl ⟨e0.rf, e1.ar, e2, e0.rf, e1.ar, e2⟩ (k)
set_option maxRecDepth 100000 in
theorem s_Code_hear_85 {d : Nat} {Q : xO → xH → Prop} {sh : List xS} {I : Nat → Nat → Int32} {J : Nat → Nat → Int64} {r0 : Nat} {r1 : Nat} {v2 : Int32} {v3 : Int32} {v4 : Int32}
    (k : Q (.inr sh.length) (sh ++ [.inr (100, [])], I, J)) :
    xG d zm_Code_hear (85, [some (.ref r0), some (.ref r1), some (.int v2), some (.int v3), some (.int v4)], []) (sh, I, J) Q := by
  exact xG_T rfl rfl rfl (Nat.le_of_ble_eq_true rfl) k
set_option maxRecDepth 100000 in
theorem s_Code_say_0 {d : Nat} {Q : xO → xH → Prop} {sh : List xS} {I : Nat → Nat → Int32} {J : Nat → Nat → Int64} {r0 : Nat} {r1 : Nat} {v2 : Int32}
    (e0 : xOb sh r0 3)
    (k1 : ¬ (I r0 7) = (1 : Int32) → xG d zm_Code_say (12, [some (.ref r0), some (.ref r1), some (.int v2), none, none], []) (sh, I, J) Q)
    (k2 : ¬ (¬ (I r0 7) = (1 : Int32)) → xG d zm_Code_say (8, [some (.ref r0), some (.ref r1), some (.int v2), none, none], []) (sh, I, J) Q) :
    xG d zm_Code_say (0, [some (.ref r0), some (.ref r1), some (.int v2), none, none], []) (sh, I, J) Q := by
  exact xG_N 3 (ps := [xOb sh r0 3]) (f1 := (5, [some (.ref r0), some (.ref r1), some (.int v2), none, none], [.int (1 : Int32), .int (I r0 7)])) (h1 := (sh, I, J)) rfl e0 (xG_B rfl rfl k1 k2)
set_option maxRecDepth 100000 in
theorem s_Code_say_8 {d : Nat} {Q : xO → xH → Prop} {sh : List xS} {I : Nat → Nat → Int32} {J : Nat → Nat → Int64} {r0 : Nat} {r1 : Nat} {v2 : Int32}
    (k : xG d zm_Code_say (24, [some (.ref r0), some (.ref r1), some (.int v2), some (.int (0 : Int32)), some (.int ((0 : Int32) - (1 : Int32)))], []) (sh, I, J) Q) :
    xG d zm_Code_say (8, [some (.ref r0), some (.ref r1), some (.int v2), none, none], []) (sh, I, J) Q := by
  exact xG_N 7 (ps := []) (f1 := (24, [some (.ref r0), some (.ref r1), some (.int v2), some (.int (0 : Int32)), some (.int ((0 : Int32) - (1 : Int32)))], [])) (h1 := (sh, I, J)) rfl trivial (k)
set_option maxRecDepth 100000 in
theorem s_Code_say_12 {d : Nat} {Q : xO → xH → Prop} {sh : List xS} {I : Nat → Nat → Int32} {J : Nat → Nat → Int64} {r0 : Nat} {r1 : Nat} {v2 : Int32} {a1 : Nat} {n2 : Nat}
    (e0 : xRr sh r0 3 0 a1)
    (e1 : xAr sh a1 .int n2)
    (e2 : vp_in v2 n2)
    (k : xG d zm_Code_say (24, [some (.ref r0), some (.ref r1), some (.int v2), some (.int (I a1 v2.toNatClampNeg)), some (.int ((I a1 v2.toNatClampNeg) - (1 : Int32)))], []) (sh, I, J) Q) :
    xG d zm_Code_say (12, [some (.ref r0), some (.ref r1), some (.int v2), none, none], []) (sh, I, J) Q := by
  obtain rfl := e0.eq
  obtain rfl := e1.eq
  exact xG_N 9 (ps := [xRf sh r0 3 0, xA sh (xrf sh r0 0) .int, vp_in v2 (xlen sh (xrf sh r0 0))]) (f1 := (24, [some (.ref r0), some (.ref r1), some (.int v2), some (.int (I (xrf sh r0 0) v2.toNatClampNeg)), some (.int ((I (xrf sh r0 0) v2.toNatClampNeg) - (1 : Int32)))], [])) (h1 := (sh, I, J)) rfl ⟨e0.rf, e1.ar, e2⟩ (k)
set_option maxRecDepth 100000 in
theorem s_Code_say_24 {d : Nat} {Q : xO → xH → Prop} {sh : List xS} {I : Nat → Nat → Int32} {J : Nat → Nat → Int64} {r0 : Nat} {r1 : Nat} {v2 : Int32} {v3 : Int32} {v4 : Int32}
    (k1 : v4 < 0 → xG d zm_Code_say (50, [some (.ref r0), some (.ref r1), some (.int v2), some (.int v3), some (.int v4)], []) (sh, I, J) Q)
    (k2 : ¬ (v4 < 0) → xG d zm_Code_say (29, [some (.ref r0), some (.ref r1), some (.int v2), some (.int v3), some (.int v4)], []) (sh, I, J) Q) :
    xG d zm_Code_say (24, [some (.ref r0), some (.ref r1), some (.int v2), some (.int v3), some (.int v4)], []) (sh, I, J) Q := by
  exact xG_N 1 (ps := []) (f1 := (26, [some (.ref r0), some (.ref r1), some (.int v2), some (.int v3), some (.int v4)], [.int v4])) (h1 := (sh, I, J)) rfl trivial (xG_B rfl rfl k1 k2)
set_option maxRecDepth 100000 in
theorem s_Code_say_29 {d : Nat} {Q : xO → xH → Prop} {sh : List xS} {I : Nat → Nat → Int32} {J : Nat → Nat → Int64} {r0 : Nat} {r1 : Nat} {v2 : Int32} {v3 : Int32} {v4 : Int32} {a1 : Nat} {n2 : Nat}
    (e0 : xRr sh r0 3 1 a1)
    (e1 : xAr sh a1 .int n2)
    (e2 : vp_in v2 n2)
    (ko : xOb sh r1 1)
    (k : xg d qBits_putBit [.ref r1, .int (((I a1 v2.toNatClampNeg) >>> (v4 &&& 31)) &&& (1 : Int32))] (sh, I, J) (xU (fun h1 => xG d zm_Code_say (44, [some (.ref r0), some (.ref r1), some (.int v2), some (.int v3), some (.int v4)], []) h1 Q) (fun x h1 => Q (.inr x) h1))) :
    xG d zm_Code_say (29, [some (.ref r0), some (.ref r1), some (.int v2), some (.int v3), some (.int v4)], []) (sh, I, J) Q := by
  obtain rfl := e0.eq
  obtain rfl := e1.eq
  exact xG_N 9 (ps := [xRf sh r0 3 1, xA sh (xrf sh r0 1) .int, vp_in v2 (xlen sh (xrf sh r0 1))]) (f1 := (41, [some (.ref r0), some (.ref r1), some (.int v2), some (.int v3), some (.int v4)], [.int (((I (xrf sh r0 1) v2.toNatClampNeg) >>> (v4 &&& 31)) &&& (1 : Int32)), .ref r1])) (h1 := (sh, I, J)) rfl ⟨e0.rf, e1.ar, e2⟩ (xG_Cu rfl rfl (Nat.le_of_ble_eq_true rfl) (Nat.le_of_ble_eq_true rfl) ⟨_, _, rfl, ko⟩ rfl k)
set_option maxRecDepth 100000 in
theorem s_Code_say_44 {d : Nat} {Q : xO → xH → Prop} {sh : List xS} {I : Nat → Nat → Int32} {J : Nat → Nat → Int64} {r0 : Nat} {r1 : Nat} {v2 : Int32} {v3 : Int32} {v4 : Int32}
    (k : xG d zm_Code_say (24, [some (.ref r0), some (.ref r1), some (.int v2), some (.int v3), some (.int (v4 + (-1 : Int32)))], []) (sh, I, J) Q) :
    xG d zm_Code_say (44, [some (.ref r0), some (.ref r1), some (.int v2), some (.int v3), some (.int v4)], []) (sh, I, J) Q := by
  exact xG_N 2 (ps := []) (f1 := (24, [some (.ref r0), some (.ref r1), some (.int v2), some (.int v3), some (.int (v4 + (-1 : Int32)))], [])) (h1 := (sh, I, J)) rfl trivial (k)
set_option maxRecDepth 100000 in
theorem s_Code_say_50 {d : Nat} {Q : xO → xH → Prop} {sh : List xS} {I : Nat → Nat → Int32} {J : Nat → Nat → Int64} {r0 : Nat} {r1 : Nat} {v2 : Int32} {v3 : Int32} {v4 : Int32}
    (k : Q (.inl (none)) (sh, I, J)) :
    xG d zm_Code_say (50, [some (.ref r0), some (.ref r1), some (.int v2), some (.int v3), some (.int v4)], []) (sh, I, J) Q := by
  exact xG_Q rfl rfl trivial k
set_option maxRecDepth 100000 in
theorem s_Code_balance_0 {d : Nat} {Q : xO → xH → Prop} {sh : List xS} {I : Nat → Nat → Int32} {J : Nat → Nat → Int64} {r0 : Nat}
    (ko : xOb sh r0 3)
    (k : xg d qCode_countLengths [.ref r0] (sh, I, J) (xU (fun h1 => xG d zm_Code_balance (4, [some (.ref r0), none, none, none], []) h1 Q) (fun x h1 => Q (.inr x) h1))) :
    xG d zm_Code_balance (0, [some (.ref r0), none, none, none], []) (sh, I, J) Q := by
  exact xG_N 1 (ps := []) (f1 := (1, [some (.ref r0), none, none, none], [.ref r0])) (h1 := (sh, I, J)) rfl trivial (xG_Cu rfl rfl (Nat.le_of_ble_eq_true rfl) (Nat.le_of_ble_eq_true rfl) ⟨_, _, rfl, ko⟩ rfl k)
set_option maxRecDepth 100000 in
theorem s_Code_balance_4 {d : Nat} {Q : xO → xH → Prop} {sh : List xS} {I : Nat → Nat → Int32} {J : Nat → Nat → Int64} {r0 : Nat}
    (k : xG d zm_Code_balance (6, [some (.ref r0), some (.int (0 : Int32)), none, none], []) (sh, I, J) Q) :
    xG d zm_Code_balance (4, [some (.ref r0), none, none, none], []) (sh, I, J) Q := by
  exact xG_N 2 (ps := []) (f1 := (6, [some (.ref r0), some (.int (0 : Int32)), none, none], [])) (h1 := (sh, I, J)) rfl trivial (k)
set_option maxRecDepth 100000 in
theorem s_Code_balance_6 {d : Nat} {Q : xO → xH → Prop} {sh : List xS} {I : Nat → Nat → Int32} {J : Nat → Nat → Int64} {r0 : Nat} {v1 : Int32}
    (k1 : (15 : Int32) ≤ v1 → xG d zm_Code_balance (28, [some (.ref r0), some (.int v1), none, none], []) (sh, I, J) Q)
    (k2 : ¬ ((15 : Int32) ≤ v1) → xG d zm_Code_balance (12, [some (.ref r0), some (.int v1), none, none], []) (sh, I, J) Q) :
    xG d zm_Code_balance (6, [some (.ref r0), some (.int v1), none, none], []) (sh, I, J) Q := by
  exact xG_N 2 (ps := []) (f1 := (9, [some (.ref r0), some (.int v1), none, none], [.int (15 : Int32), .int v1])) (h1 := (sh, I, J)) rfl trivial (xG_B rfl rfl k1 k2)
set_option maxRecDepth 100000 in
theorem s_Code_balance_12 {d : Nat} {Q : xO → xH → Prop} {sh : List xS} {I : Nat → Nat → Int32} {J : Nat → Nat → Int64} {r0 : Nat} {v1 : Int32}
    (e0 : xOb sh r0 3)
    (k1 : (I r0 7) ≤ ((1 : Int32) <<< (v1 &&& 31)) → xG d zm_Code_balance (28, [some (.ref r0), some (.int v1), none, none], []) (sh, I, J) Q)
    (k2 : ¬ ((I r0 7) ≤ ((1 : Int32) <<< (v1 &&& 31))) → xG d zm_Code_balance (22, [some (.ref r0), some (.int v1), none, none], []) (sh, I, J) Q) :
    xG d zm_Code_balance (12, [some (.ref r0), some (.int v1), none, none], []) (sh, I, J) Q := by
  exact xG_N 5 (ps := [xOb sh r0 3]) (f1 := (19, [some (.ref r0), some (.int v1), none, none], [.int (I r0 7), .int ((1 : Int32) <<< (v1 &&& 31))])) (h1 := (sh, I, J)) rfl e0 (xG_B rfl rfl k1 k2)
set_option maxRecDepth 100000 in
theorem s_Code_balance_22 {d : Nat} {Q : xO → xH → Prop} {sh : List xS} {I : Nat → Nat → Int32} {J : Nat → Nat → Int64} {r0 : Nat} {v1 : Int32}
    (k : xG d zm_Code_balance (6, [some (.ref r0), some (.int (v1 + (1 : Int32))), none, none], []) (sh, I, J) Q) :
    xG d zm_Code_balance (22, [some (.ref r0), some (.int v1), none, none], []) (sh, I, J) Q := by
  exact xG_N 2 (ps := []) (f1 := (6, [some (.ref r0), some (.int (v1 + (1 : Int32))), none, none], [])) (h1 := (sh, I, J)) rfl trivial (k)
set_option maxRecDepth 100000 in
theorem s_Code_balance_28 {d : Nat} {Q : xO → xH → Prop} {sh : List xS} {I : Nat → Nat → Int32} {J : Nat → Nat → Int64} {r0 : Nat} {v1 : Int32}
    (e0 : xOb sh r0 3)
    (k : xG d zm_Code_balance (39, [some (.ref r0), some (.int v1), some (.int (((1 : Int32) <<< (v1 &&& 31)) - (I r0 7))), some (.int (0 : Int32))], []) (sh, I, J) Q) :
    xG d zm_Code_balance (28, [some (.ref r0), some (.int v1), none, none], []) (sh, I, J) Q := by
  exact xG_N 9 (ps := [xOb sh r0 3]) (f1 := (39, [some (.ref r0), some (.int v1), some (.int (((1 : Int32) <<< (v1 &&& 31)) - (I r0 7))), some (.int (0 : Int32))], [])) (h1 := (sh, I, J)) rfl e0 (k)
set_option maxRecDepth 100000 in
theorem s_Code_balance_39 {d : Nat} {Q : xO → xH → Prop} {sh : List xS} {I : Nat → Nat → Int32} {J : Nat → Nat → Int64} {r0 : Nat} {v1 : Int32} {v2 : Int32} {v3 : Int32}
    (e0 : xOb sh r0 3)
    (k1 : (I r0 6) ≤ v3 → xG d zm_Code_balance (94, [some (.ref r0), some (.int v1), some (.int v2), some (.int v3)], []) (sh, I, J) Q)
    (k2 : ¬ ((I r0 6) ≤ v3) → xG d zm_Code_balance (47, [some (.ref r0), some (.int v1), some (.int v2), some (.int v3)], []) (sh, I, J) Q) :
    xG d zm_Code_balance (39, [some (.ref r0), some (.int v1), some (.int v2), some (.int v3)], []) (sh, I, J) Q := by
  exact xG_N 3 (ps := [xOb sh r0 3]) (f1 := (44, [some (.ref r0), some (.int v1), some (.int v2), some (.int v3)], [.int (I r0 6), .int v3])) (h1 := (sh, I, J)) rfl e0 (xG_B rfl rfl k1 k2)
set_option maxRecDepth 100000 in
theorem s_Code_balance_47 {d : Nat} {Q : xO → xH → Prop} {sh : List xS} {I : Nat → Nat → Int32} {J : Nat → Nat → Int64} {r0 : Nat} {v1 : Int32} {v2 : Int32} {v3 : Int32} {a1 : Nat} {n2 : Nat}
    (e0 : xRr sh r0 3 0 a1)
    (e1 : xAr sh a1 .int n2)
    (e2 : vp_in v3 n2)
    (k1 : (I a1 v3.toNatClampNeg) ≤ 0 → xG d zm_Code_balance (88, [some (.ref r0), some (.int v1), some (.int v2), some (.int v3)], []) (sh, I, J) Q)
    (k2 : ¬ ((I a1 v3.toNatClampNeg) ≤ 0) → xG d zm_Code_balance (56, [some (.ref r0), some (.int v1), some (.int v2), some (.int v3)], []) (sh, I, J) Q) :
    xG d zm_Code_balance (47, [some (.ref r0), some (.int v1), some (.int v2), some (.int v3)], []) (sh, I, J) Q := by
  obtain rfl := e0.eq
  obtain rfl := e1.eq
  exact xG_N 4 (ps := [xRf sh r0 3 0, xA sh (xrf sh r0 0) .int, vp_in v3 (xlen sh (xrf sh r0 0))]) (f1 := (53, [some (.ref r0), some (.int v1), some (.int v2), some (.int v3)], [.int (I (xrf sh r0 0) v3.toNatClampNeg)])) (h1 := (sh, I, J)) rfl ⟨e0.rf, e1.ar, e2⟩ (xG_B rfl rfl k1 k2)
set_option maxRecDepth 100000 in
theorem s_Code_balance_56 {d : Nat} {Q : xO → xH → Prop} {sh : List xS} {I : Nat → Nat → Int32} {J : Nat → Nat → Int64} {r0 : Nat} {v1 : Int32} {v2 : Int32} {v3 : Int32} {a1 : Nat}
    (e0 : xRr sh r0 3 0 a1)
    (k1 : ¬ (I r0 7) = (1 : Int32) → xG d zm_Code_balance (73, [some (.ref r0), some (.int v1), some (.int v2), some (.int v3)], [.int v3, .ref a1]) (sh, I, J) Q)
    (k2 : ¬ (¬ (I r0 7) = (1 : Int32)) → xG d zm_Code_balance (69, [some (.ref r0), some (.int v1), some (.int v2), some (.int v3)], [.int v3, .ref a1]) (sh, I, J) Q) :
    xG d zm_Code_balance (56, [some (.ref r0), some (.int v1), some (.int v2), some (.int v3)], []) (sh, I, J) Q := by
  obtain rfl := e0.eq
  exact xG_N 6 (ps := [xRf sh r0 3 0, xOb sh r0 3]) (f1 := (66, [some (.ref r0), some (.int v1), some (.int v2), some (.int v3)], [.int (1 : Int32), .int (I r0 7), .int v3, .ref (xrf sh r0 0)])) (h1 := (sh, I, J)) rfl ⟨e0.rf, e0.ob⟩ (xG_B rfl rfl k1 k2)
set_option maxRecDepth 100000 in
theorem s_Code_balance_69 {d : Nat} {Q : xO → xH → Prop} {sh : List xS} {I : Nat → Nat → Int32} {J : Nat → Nat → Int64} {r0 : Nat} {v1 : Int32} {v2 : Int32} {v3 : Int32} {t0 : Nat} {t1 : Int32} {n1 : Nat}
    (e0 : xAr sh t0 .int n1)
    (e1 : 4 ≤ t0)
    (e2 : vp_in t1 n1)
    (k : xG d zm_Code_balance (39, [some (.ref r0), some (.int v1), some (.int (v2 + (-1 : Int32))), some (.int (v3 + (1 : Int32)))], []) (sh, xup I t0 t1.toNatClampNeg (1 : Int32), J) Q) :
    xG d zm_Code_balance (69, [some (.ref r0), some (.int v1), some (.int v2), some (.int v3)], [.int t1, .ref t0]) (sh, I, J) Q := by
  obtain rfl := e0.eq
  exact xG_N 6 (ps := [xW sh t0 .int, vp_in t1 (xlen sh t0)]) (f1 := (39, [some (.ref r0), some (.int v1), some (.int (v2 + (-1 : Int32))), some (.int (v3 + (1 : Int32)))], [])) (h1 := (sh, xup I t0 t1.toNatClampNeg (1 : Int32), J)) rfl ⟨⟨e0.ar, e1⟩, e2⟩ (k)
set_option maxRecDepth 100000 in
theorem s_Code_balance_73 {d : Nat} {Q : xO → xH → Prop} {sh : List xS} {I : Nat → Nat → Int32} {J : Nat → Nat → Int64} {r0 : Nat} {v1 : Int32} {v2 : Int32} {v3 : Int32} {t0 : Nat} {t1 : Int32}
    (k1 : v2 ≤ 0 → xG d zm_Code_balance (83, [some (.ref r0), some (.int v1), some (.int v2), some (.int v3)], [.int t1, .ref t0]) (sh, I, J) Q)
    (k2 : ¬ (v2 ≤ 0) → xG d zm_Code_balance (77, [some (.ref r0), some (.int v1), some (.int v2), some (.int v3)], [.int t1, .ref t0]) (sh, I, J) Q) :
    xG d zm_Code_balance (73, [some (.ref r0), some (.int v1), some (.int v2), some (.int v3)], [.int t1, .ref t0]) (sh, I, J) Q := by
  exact xG_N 1 (ps := []) (f1 := (74, [some (.ref r0), some (.int v1), some (.int v2), some (.int v3)], [.int v2, .int t1, .ref t0])) (h1 := (sh, I, J)) rfl trivial (xG_B rfl rfl k1 k2)
set_option maxRecDepth 100000 in
theorem s_Code_balance_77 {d : Nat} {Q : xO → xH → Prop} {sh : List xS} {I : Nat → Nat → Int32} {J : Nat → Nat → Int64} {r0 : Nat} {v1 : Int32} {v2 : Int32} {v3 : Int32} {t0 : Nat} {t1 : Int32} {n1 : Nat}
    (e0 : xAr sh t0 .int n1)
    (e1 : 4 ≤ t0)
    (e2 : vp_in t1 n1)
    (k : xG d zm_Code_balance (39, [some (.ref r0), some (.int v1), some (.int (v2 + (-1 : Int32))), some (.int (v3 + (1 : Int32)))], []) (sh, xup I t0 t1.toNatClampNeg (v1 - (1 : Int32)), J) Q) :
    xG d zm_Code_balance (77, [some (.ref r0), some (.int v1), some (.int v2), some (.int v3)], [.int t1, .ref t0]) (sh, I, J) Q := by
  obtain rfl := e0.eq
  exact xG_N 8 (ps := [xW sh t0 .int, vp_in t1 (xlen sh t0)]) (f1 := (39, [some (.ref r0), some (.int v1), some (.int (v2 + (-1 : Int32))), some (.int (v3 + (1 : Int32)))], [])) (h1 := (sh, xup I t0 t1.toNatClampNeg (v1 - (1 : Int32)), J)) rfl ⟨⟨e0.ar, e1⟩, e2⟩ (k)
set_option maxRecDepth 100000 in
theorem s_Code_balance_83 {d : Nat} {Q : xO → xH → Prop} {sh : List xS} {I : Nat → Nat → Int32} {J : Nat → Nat → Int64} {r0 : Nat} {v1 : Int32} {v2 : Int32} {v3 : Int32} {t0 : Nat} {t1 : Int32} {n1 : Nat}
    (e0 : xAr sh t0 .int n1)
    (e1 : 4 ≤ t0)
    (e2 : vp_in t1 n1)
    (k : xG d zm_Code_balance (39, [some (.ref r0), some (.int v1), some (.int (v2 + (-1 : Int32))), some (.int (v3 + (1 : Int32)))], []) (sh, xup I t0 t1.toNatClampNeg v1, J) Q) :
    xG d zm_Code_balance (83, [some (.ref r0), some (.int v1), some (.int v2), some (.int v3)], [.int t1, .ref t0]) (sh, I, J) Q := by
  obtain rfl := e0.eq
  exact xG_N 5 (ps := [xW sh t0 .int, vp_in t1 (xlen sh t0)]) (f1 := (39, [some (.ref r0), some (.int v1), some (.int (v2 + (-1 : Int32))), some (.int (v3 + (1 : Int32)))], [])) (h1 := (sh, xup I t0 t1.toNatClampNeg v1, J)) rfl ⟨⟨e0.ar, e1⟩, e2⟩ (k)
set_option maxRecDepth 100000 in
theorem s_Code_balance_88 {d : Nat} {Q : xO → xH → Prop} {sh : List xS} {I : Nat → Nat → Int32} {J : Nat → Nat → Int64} {r0 : Nat} {v1 : Int32} {v2 : Int32} {v3 : Int32}
    (k : xG d zm_Code_balance (39, [some (.ref r0), some (.int v1), some (.int v2), some (.int (v3 + (1 : Int32)))], []) (sh, I, J) Q) :
    xG d zm_Code_balance (88, [some (.ref r0), some (.int v1), some (.int v2), some (.int v3)], []) (sh, I, J) Q := by
  exact xG_N 2 (ps := []) (f1 := (39, [some (.ref r0), some (.int v1), some (.int v2), some (.int (v3 + (1 : Int32)))], [])) (h1 := (sh, I, J)) rfl trivial (k)
set_option maxRecDepth 100000 in
theorem s_Code_balance_94 {d : Nat} {Q : xO → xH → Prop} {sh : List xS} {I : Nat → Nat → Int32} {J : Nat → Nat → Int64} {r0 : Nat} {v1 : Int32} {v2 : Int32} {v3 : Int32}
    (k : Q (.inl (none)) (sh, I, J)) :
    xG d zm_Code_balance (94, [some (.ref r0), some (.int v1), some (.int v2), some (.int v3)], []) (sh, I, J) Q := by
  exact xG_Q rfl rfl trivial k
set_option maxRecDepth 100000 in
theorem s_Codes_init_0 {d : Nat} {Q : xO → xH → Prop} {sh : List xS} {I : Nat → Nat → Int32} {J : Nat → Nat → Int64} {r0 : Nat}
    (k : xG d zm_Codes_init (8, [some (.ref r0)], [.ref sh.length, .ref r0]) (sh ++ [.inr (3, zdf 3)], xzer I sh.length, xzerL J sh.length) Q) :
    xG d zm_Codes_init (0, [some (.ref r0)], []) (sh, I, J) Q := by
  exact xG_N 4 (ps := [(([] : List Value).map fun v => v.category).sum ≤ 8]) (f1 := (8, [some (.ref r0)], [.ref sh.length, .ref r0])) (h1 := (sh ++ [.inr (3, zdf 3)], xzer I sh.length, xzerL J sh.length)) rfl (Nat.le_of_ble_eq_true rfl) (k)
set_option maxRecDepth 100000 in
theorem s_Codes_init_8 {d : Nat} {Q : xO → xH → Prop} {sh : List xS} {I : Nat → Nat → Int32} {J : Nat → Nat → Int64} {r0 : Nat} {t0 : Nat} {t1 : Nat}
    (k : xg d qCode_init [.ref t1, .int (296 : Int32)] (sh, I, J) (xU (fun h1 => xG d zm_Codes_init (15, [some (.ref r0)], [.ref t1, .ref t0]) h1 Q) (fun x h1 => Q (.inr x) h1))) :
    xG d zm_Codes_init (8, [some (.ref r0)], [.ref t1, .ref t0]) (sh, I, J) Q := by
  exact xG_N 2 (ps := []) (f1 := (12, [some (.ref r0)], [.int (296 : Int32), .ref t1, .ref t1, .ref t0])) (h1 := (sh, I, J)) rfl trivial (xG_Cu rfl rfl (Nat.le_of_ble_eq_true rfl) (Nat.le_of_ble_eq_true rfl) ⟨_, _, rfl⟩ rfl k)
set_option maxRecDepth 100000 in
theorem s_Codes_init_15 {d : Nat} {Q : xO → xH → Prop} {sh : List xS} {I : Nat → Nat → Int32} {J : Nat → Nat → Int64} {r0 : Nat} {t0 : Nat} {t1 : Nat}
    (e0 : xOb sh t0 5)
    (k : xG d zm_Codes_init (22, [some (.ref r0)], [.ref ((xsr sh t0 0 t1).length), .ref r0]) ((xsr sh t0 0 t1) ++ [.inr (3, zdf 3)], xzer I (xsr sh t0 0 t1).length, xzerL J (xsr sh t0 0 t1).length) Q) :
    xG d zm_Codes_init (15, [some (.ref r0)], [.ref t1, .ref t0]) (sh, I, J) Q := by
  exact xG_N 3 (ps := [xOb sh t0 5, 0 < (zdf 5).length]) (f1 := (22, [some (.ref r0)], [.ref ((xsr sh t0 0 t1).length), .ref r0])) (h1 := ((xsr sh t0 0 t1) ++ [.inr (3, zdf 3)], xzer I (xsr sh t0 0 t1).length, xzerL J (xsr sh t0 0 t1).length)) rfl ⟨e0, (show 0 < (zdf 5).length by decide)⟩ (k)
set_option maxRecDepth 100000 in
theorem s_Codes_init_22 {d : Nat} {Q : xO → xH → Prop} {sh : List xS} {I : Nat → Nat → Int32} {J : Nat → Nat → Int64} {r0 : Nat} {t0 : Nat} {t1 : Nat}
    (k : xg d qCode_init [.ref t1, .int (256 : Int32)] (sh, I, J) (xU (fun h1 => xG d zm_Codes_init (29, [some (.ref r0)], [.ref t1, .ref t0]) h1 Q) (fun x h1 => Q (.inr x) h1))) :
    xG d zm_Codes_init (22, [some (.ref r0)], [.ref t1, .ref t0]) (sh, I, J) Q := by
  exact xG_N 2 (ps := []) (f1 := (26, [some (.ref r0)], [.int (256 : Int32), .ref t1, .ref t1, .ref t0])) (h1 := (sh, I, J)) rfl trivial (xG_Cu rfl rfl (Nat.le_of_ble_eq_true rfl) (Nat.le_of_ble_eq_true rfl) ⟨_, _, rfl⟩ rfl k)
set_option maxRecDepth 100000 in
theorem s_Codes_init_29 {d : Nat} {Q : xO → xH → Prop} {sh : List xS} {I : Nat → Nat → Int32} {J : Nat → Nat → Int64} {r0 : Nat} {t0 : Nat} {t1 : Nat}
    (e0 : xOb sh t0 5)
    (k : xG d zm_Codes_init (36, [some (.ref r0)], [.ref ((xsr sh t0 1 t1).length), .ref r0]) ((xsr sh t0 1 t1) ++ [.inr (3, zdf 3)], xzer I (xsr sh t0 1 t1).length, xzerL J (xsr sh t0 1 t1).length) Q) :
    xG d zm_Codes_init (29, [some (.ref r0)], [.ref t1, .ref t0]) (sh, I, J) Q := by
  exact xG_N 3 (ps := [xOb sh t0 5, 1 < (zdf 5).length]) (f1 := (36, [some (.ref r0)], [.ref ((xsr sh t0 1 t1).length), .ref r0])) (h1 := ((xsr sh t0 1 t1) ++ [.inr (3, zdf 3)], xzer I (xsr sh t0 1 t1).length, xzerL J (xsr sh t0 1 t1).length)) rfl ⟨e0, (show 1 < (zdf 5).length by decide)⟩ (k)
set_option maxRecDepth 100000 in
theorem s_Codes_init_36 {d : Nat} {Q : xO → xH → Prop} {sh : List xS} {I : Nat → Nat → Int32} {J : Nat → Nat → Int64} {r0 : Nat} {t0 : Nat} {t1 : Nat}
    (k : xg d qCode_init [.ref t1, .int (256 : Int32)] (sh, I, J) (xU (fun h1 => xG d zm_Codes_init (43, [some (.ref r0)], [.ref t1, .ref t0]) h1 Q) (fun x h1 => Q (.inr x) h1))) :
    xG d zm_Codes_init (36, [some (.ref r0)], [.ref t1, .ref t0]) (sh, I, J) Q := by
  exact xG_N 2 (ps := []) (f1 := (40, [some (.ref r0)], [.int (256 : Int32), .ref t1, .ref t1, .ref t0])) (h1 := (sh, I, J)) rfl trivial (xG_Cu rfl rfl (Nat.le_of_ble_eq_true rfl) (Nat.le_of_ble_eq_true rfl) ⟨_, _, rfl⟩ rfl k)
set_option maxRecDepth 100000 in
theorem s_Codes_init_43 {d : Nat} {Q : xO → xH → Prop} {sh : List xS} {I : Nat → Nat → Int32} {J : Nat → Nat → Int64} {r0 : Nat} {t0 : Nat} {t1 : Nat}
    (e0 : xOb sh t0 5)
    (k : xG d zm_Codes_init (50, [some (.ref r0)], [.ref ((xsr sh t0 2 t1).length), .ref r0]) ((xsr sh t0 2 t1) ++ [.inr (3, zdf 3)], xzer I (xsr sh t0 2 t1).length, xzerL J (xsr sh t0 2 t1).length) Q) :
    xG d zm_Codes_init (43, [some (.ref r0)], [.ref t1, .ref t0]) (sh, I, J) Q := by
  exact xG_N 3 (ps := [xOb sh t0 5, 2 < (zdf 5).length]) (f1 := (50, [some (.ref r0)], [.ref ((xsr sh t0 2 t1).length), .ref r0])) (h1 := ((xsr sh t0 2 t1) ++ [.inr (3, zdf 3)], xzer I (xsr sh t0 2 t1).length, xzerL J (xsr sh t0 2 t1).length)) rfl ⟨e0, (show 2 < (zdf 5).length by decide)⟩ (k)
set_option maxRecDepth 100000 in
theorem s_Codes_init_50 {d : Nat} {Q : xO → xH → Prop} {sh : List xS} {I : Nat → Nat → Int32} {J : Nat → Nat → Int64} {r0 : Nat} {t0 : Nat} {t1 : Nat}
    (k : xg d qCode_init [.ref t1, .int (256 : Int32)] (sh, I, J) (xU (fun h1 => xG d zm_Codes_init (57, [some (.ref r0)], [.ref t1, .ref t0]) h1 Q) (fun x h1 => Q (.inr x) h1))) :
    xG d zm_Codes_init (50, [some (.ref r0)], [.ref t1, .ref t0]) (sh, I, J) Q := by
  exact xG_N 2 (ps := []) (f1 := (54, [some (.ref r0)], [.int (256 : Int32), .ref t1, .ref t1, .ref t0])) (h1 := (sh, I, J)) rfl trivial (xG_Cu rfl rfl (Nat.le_of_ble_eq_true rfl) (Nat.le_of_ble_eq_true rfl) ⟨_, _, rfl⟩ rfl k)
set_option maxRecDepth 100000 in
theorem s_Codes_init_57 {d : Nat} {Q : xO → xH → Prop} {sh : List xS} {I : Nat → Nat → Int32} {J : Nat → Nat → Int64} {r0 : Nat} {t0 : Nat} {t1 : Nat}
    (e0 : xOb sh t0 5)
    (k : xG d zm_Codes_init (64, [some (.ref r0)], [.ref ((xsr sh t0 3 t1).length), .ref r0]) ((xsr sh t0 3 t1) ++ [.inr (3, zdf 3)], xzer I (xsr sh t0 3 t1).length, xzerL J (xsr sh t0 3 t1).length) Q) :
    xG d zm_Codes_init (57, [some (.ref r0)], [.ref t1, .ref t0]) (sh, I, J) Q := by
  exact xG_N 3 (ps := [xOb sh t0 5, 3 < (zdf 5).length]) (f1 := (64, [some (.ref r0)], [.ref ((xsr sh t0 3 t1).length), .ref r0])) (h1 := ((xsr sh t0 3 t1) ++ [.inr (3, zdf 3)], xzer I (xsr sh t0 3 t1).length, xzerL J (xsr sh t0 3 t1).length)) rfl ⟨e0, (show 3 < (zdf 5).length by decide)⟩ (k)
set_option maxRecDepth 100000 in
theorem s_Codes_init_64 {d : Nat} {Q : xO → xH → Prop} {sh : List xS} {I : Nat → Nat → Int32} {J : Nat → Nat → Int64} {r0 : Nat} {t0 : Nat} {t1 : Nat}
    (k : xg d qCode_init [.ref t1, .int (40 : Int32)] (sh, I, J) (xU (fun h1 => xG d zm_Codes_init (70, [some (.ref r0)], [.ref t1, .ref t0]) h1 Q) (fun x h1 => Q (.inr x) h1))) :
    xG d zm_Codes_init (64, [some (.ref r0)], [.ref t1, .ref t0]) (sh, I, J) Q := by
  exact xG_N 2 (ps := []) (f1 := (67, [some (.ref r0)], [.int (40 : Int32), .ref t1, .ref t1, .ref t0])) (h1 := (sh, I, J)) rfl trivial (xG_Cu rfl rfl (Nat.le_of_ble_eq_true rfl) (Nat.le_of_ble_eq_true rfl) ⟨_, _, rfl⟩ rfl k)
set_option maxRecDepth 100000 in
theorem s_Codes_init_70 {d : Nat} {Q : xO → xH → Prop} {sh : List xS} {I : Nat → Nat → Int32} {J : Nat → Nat → Int64} {r0 : Nat} {t0 : Nat} {t1 : Nat}
    (e0 : xOb sh t0 5)
    (k : Q (.inl (none)) (xsr sh t0 4 t1, I, J)) :
    xG d zm_Codes_init (70, [some (.ref r0)], [.ref t1, .ref t0]) (sh, I, J) Q := by
  exact xG_N 1 (ps := [xOb sh t0 5, 4 < (zdf 5).length]) (f1 := (73, [some (.ref r0)], [])) (h1 := (xsr sh t0 4 t1, I, J)) rfl ⟨e0, (show 4 < (zdf 5).length by decide)⟩ (xG_Q rfl rfl trivial k)
set_option maxRecDepth 100000 in
theorem s_Codes_of_0 {d : Nat} {Q : xO → xH → Prop} {sh : List xS} {I : Nat → Nat → Int32} {J : Nat → Nat → Int64} {r0 : Nat} {v1 : Int32}
    (k0 : v1 = (0 : Int32) → xG d zm_Codes_of (32, [some (.ref r0), some (.int v1)], []) (sh, I, J) Q)
    (k1 : v1 = (1 : Int32) → xG d zm_Codes_of (37, [some (.ref r0), some (.int v1)], []) (sh, I, J) Q)
    (k2 : v1 = (2 : Int32) → xG d zm_Codes_of (42, [some (.ref r0), some (.int v1)], []) (sh, I, J) Q)
    (k3 : v1 = (3 : Int32) → xG d zm_Codes_of (47, [some (.ref r0), some (.int v1)], []) (sh, I, J) Q)
    (kd : (v1.toInt < 0 ∨ 3 < v1.toInt) → xG d zm_Codes_of (52, [some (.ref r0), some (.int v1)], []) (sh, I, J) Q) :
    xG d zm_Codes_of (0, [some (.ref r0), some (.int v1)], []) (sh, I, J) Q := by
  have key : ∀ x : Int32, (x = (0 : Int32) → xG d zm_Codes_of (32, [some (.ref r0), some (.int v1)], []) (sh, I, J) Q) → (x = (1 : Int32) → xG d zm_Codes_of (37, [some (.ref r0), some (.int v1)], []) (sh, I, J) Q) → (x = (2 : Int32) → xG d zm_Codes_of (42, [some (.ref r0), some (.int v1)], []) (sh, I, J) Q) → (x = (3 : Int32) → xG d zm_Codes_of (47, [some (.ref r0), some (.int v1)], []) (sh, I, J) Q) → ((x.toInt < 0 ∨ 3 < x.toInt) → xG d zm_Codes_of (52, [some (.ref r0), some (.int v1)], []) (sh, I, J) Q) → xG d zm_Codes_of (1, [some (.ref r0), some (.int v1)], [.int x]) (sh, I, J) Q := by
    intro x k0 k1 k2 k3 kd
    by_cases hx : x.toInt < 0 ∨ 3 < x.toInt
    · exact xG_S (t := 52) rfl (Or.elim hx Or.inl (fun h => Or.inr (Or.inl h))) (by unfold xsw; rw [if_pos hx]; rfl) (kd hx)
    · have hc : x.toInt = 0 ∨ x.toInt = 1 ∨ x.toInt = 2 ∨ x.toInt = 3 := by omega
      rcases hc with hc | hc | hc | hc
      · obtain rfl : x = (0 : Int32) := Int32.toInt_inj.mp (by rw [hc]; rfl)
        exact xG_S (t := 32) rfl (by decide) (by decide) (k0 rfl)
      · obtain rfl : x = (1 : Int32) := Int32.toInt_inj.mp (by rw [hc]; rfl)
        exact xG_S (t := 37) rfl (by decide) (by decide) (k1 rfl)
      · obtain rfl : x = (2 : Int32) := Int32.toInt_inj.mp (by rw [hc]; rfl)
        exact xG_S (t := 42) rfl (by decide) (by decide) (k2 rfl)
      · obtain rfl : x = (3 : Int32) := Int32.toInt_inj.mp (by rw [hc]; rfl)
        exact xG_S (t := 47) rfl (by decide) (by decide) (k3 rfl)
  exact xG_N 1 (ps := []) (f1 := (1, [some (.ref r0), some (.int v1)], [.int v1])) (h1 := (sh, I, J)) rfl trivial (key _ k0 k1 k2 k3 kd)
set_option maxRecDepth 100000 in
theorem s_Codes_of_32 {d : Nat} {Q : xO → xH → Prop} {sh : List xS} {I : Nat → Nat → Int32} {J : Nat → Nat → Int64} {r0 : Nat} {v1 : Int32} {a1 : Nat}
    (e0 : xRr sh r0 5 0 a1)
    (k : Q (.inl (some (.ref a1))) (sh, I, J)) :
    xG d zm_Codes_of (32, [some (.ref r0), some (.int v1)], []) (sh, I, J) Q := by
  obtain rfl := e0.eq
  exact xG_N 2 (ps := [xRf sh r0 5 0]) (f1 := (36, [some (.ref r0), some (.int v1)], [.ref (xrf sh r0 0)])) (h1 := (sh, I, J)) rfl e0.rf (xG_Q rfl rfl trivial k)
set_option maxRecDepth 100000 in
theorem s_Codes_of_37 {d : Nat} {Q : xO → xH → Prop} {sh : List xS} {I : Nat → Nat → Int32} {J : Nat → Nat → Int64} {r0 : Nat} {v1 : Int32} {a1 : Nat}
    (e0 : xRr sh r0 5 1 a1)
    (k : Q (.inl (some (.ref a1))) (sh, I, J)) :
    xG d zm_Codes_of (37, [some (.ref r0), some (.int v1)], []) (sh, I, J) Q := by
  obtain rfl := e0.eq
  exact xG_N 2 (ps := [xRf sh r0 5 1]) (f1 := (41, [some (.ref r0), some (.int v1)], [.ref (xrf sh r0 1)])) (h1 := (sh, I, J)) rfl e0.rf (xG_Q rfl rfl trivial k)
set_option maxRecDepth 100000 in
theorem s_Codes_of_42 {d : Nat} {Q : xO → xH → Prop} {sh : List xS} {I : Nat → Nat → Int32} {J : Nat → Nat → Int64} {r0 : Nat} {v1 : Int32} {a1 : Nat}
    (e0 : xRr sh r0 5 2 a1)
    (k : Q (.inl (some (.ref a1))) (sh, I, J)) :
    xG d zm_Codes_of (42, [some (.ref r0), some (.int v1)], []) (sh, I, J) Q := by
  obtain rfl := e0.eq
  exact xG_N 2 (ps := [xRf sh r0 5 2]) (f1 := (46, [some (.ref r0), some (.int v1)], [.ref (xrf sh r0 2)])) (h1 := (sh, I, J)) rfl e0.rf (xG_Q rfl rfl trivial k)
set_option maxRecDepth 100000 in
theorem s_Codes_of_47 {d : Nat} {Q : xO → xH → Prop} {sh : List xS} {I : Nat → Nat → Int32} {J : Nat → Nat → Int64} {r0 : Nat} {v1 : Int32} {a1 : Nat}
    (e0 : xRr sh r0 5 3 a1)
    (k : Q (.inl (some (.ref a1))) (sh, I, J)) :
    xG d zm_Codes_of (47, [some (.ref r0), some (.int v1)], []) (sh, I, J) Q := by
  obtain rfl := e0.eq
  exact xG_N 2 (ps := [xRf sh r0 5 3]) (f1 := (51, [some (.ref r0), some (.int v1)], [.ref (xrf sh r0 3)])) (h1 := (sh, I, J)) rfl e0.rf (xG_Q rfl rfl trivial k)
set_option maxRecDepth 100000 in
theorem s_Codes_of_52 {d : Nat} {Q : xO → xH → Prop} {sh : List xS} {I : Nat → Nat → Int32} {J : Nat → Nat → Int64} {r0 : Nat} {v1 : Int32} {a1 : Nat}
    (e0 : xRr sh r0 5 4 a1)
    (k : Q (.inl (some (.ref a1))) (sh, I, J)) :
    xG d zm_Codes_of (52, [some (.ref r0), some (.int v1)], []) (sh, I, J) Q := by
  obtain rfl := e0.eq
  exact xG_N 2 (ps := [xRf sh r0 5 4]) (f1 := (56, [some (.ref r0), some (.int v1)], [.ref (xrf sh r0 4)])) (h1 := (sh, I, J)) rfl e0.rf (xG_Q rfl rfl trivial k)
set_option maxRecDepth 100000 in
theorem s_Codes_clear_0 {d : Nat} {Q : xO → xH → Prop} {sh : List xS} {I : Nat → Nat → Int32} {J : Nat → Nat → Int64} {r0 : Nat} {v1 : Int32} {a1 : Nat}
    (e0 : xRr sh r0 5 0 a1)
    (ko : xOb sh a1 3)
    (k : xg d qCode_clear [.ref a1, .int ((280 : Int32) + v1)] (sh, I, J) (xU (fun h1 => xG d zm_Codes_clear (12, [some (.ref r0), some (.int v1)], []) h1 Q) (fun x h1 => Q (.inr x) h1))) :
    xG d zm_Codes_clear (0, [some (.ref r0), some (.int v1)], []) (sh, I, J) Q := by
  obtain rfl := e0.eq
  exact xG_N 5 (ps := [xRf sh r0 5 0]) (f1 := (9, [some (.ref r0), some (.int v1)], [.int ((280 : Int32) + v1), .ref (xrf sh r0 0)])) (h1 := (sh, I, J)) rfl e0.rf (xG_Cu rfl rfl (Nat.le_of_ble_eq_true rfl) (Nat.le_of_ble_eq_true rfl) ⟨_, _, rfl, ko⟩ rfl k)
set_option maxRecDepth 100000 in
theorem s_Codes_clear_12 {d : Nat} {Q : xO → xH → Prop} {sh : List xS} {I : Nat → Nat → Int32} {J : Nat → Nat → Int64} {r0 : Nat} {v1 : Int32} {a1 : Nat}
    (e0 : xRr sh r0 5 1 a1)
    (ko : xOb sh a1 3)
    (k : xg d qCode_clear [.ref a1, .int (256 : Int32)] (sh, I, J) (xU (fun h1 => xG d zm_Codes_clear (22, [some (.ref r0), some (.int v1)], []) h1 Q) (fun x h1 => Q (.inr x) h1))) :
    xG d zm_Codes_clear (12, [some (.ref r0), some (.int v1)], []) (sh, I, J) Q := by
  obtain rfl := e0.eq
  exact xG_N 3 (ps := [xRf sh r0 5 1]) (f1 := (19, [some (.ref r0), some (.int v1)], [.int (256 : Int32), .ref (xrf sh r0 1)])) (h1 := (sh, I, J)) rfl e0.rf (xG_Cu rfl rfl (Nat.le_of_ble_eq_true rfl) (Nat.le_of_ble_eq_true rfl) ⟨_, _, rfl, ko⟩ rfl k)
set_option maxRecDepth 100000 in
theorem s_Codes_clear_22 {d : Nat} {Q : xO → xH → Prop} {sh : List xS} {I : Nat → Nat → Int32} {J : Nat → Nat → Int64} {r0 : Nat} {v1 : Int32} {a1 : Nat}
    (e0 : xRr sh r0 5 2 a1)
    (ko : xOb sh a1 3)
    (k : xg d qCode_clear [.ref a1, .int (256 : Int32)] (sh, I, J) (xU (fun h1 => xG d zm_Codes_clear (32, [some (.ref r0), some (.int v1)], []) h1 Q) (fun x h1 => Q (.inr x) h1))) :
    xG d zm_Codes_clear (22, [some (.ref r0), some (.int v1)], []) (sh, I, J) Q := by
  obtain rfl := e0.eq
  exact xG_N 3 (ps := [xRf sh r0 5 2]) (f1 := (29, [some (.ref r0), some (.int v1)], [.int (256 : Int32), .ref (xrf sh r0 2)])) (h1 := (sh, I, J)) rfl e0.rf (xG_Cu rfl rfl (Nat.le_of_ble_eq_true rfl) (Nat.le_of_ble_eq_true rfl) ⟨_, _, rfl, ko⟩ rfl k)
set_option maxRecDepth 100000 in
theorem s_Codes_clear_32 {d : Nat} {Q : xO → xH → Prop} {sh : List xS} {I : Nat → Nat → Int32} {J : Nat → Nat → Int64} {r0 : Nat} {v1 : Int32} {a1 : Nat}
    (e0 : xRr sh r0 5 3 a1)
    (ko : xOb sh a1 3)
    (k : xg d qCode_clear [.ref a1, .int (256 : Int32)] (sh, I, J) (xU (fun h1 => xG d zm_Codes_clear (42, [some (.ref r0), some (.int v1)], []) h1 Q) (fun x h1 => Q (.inr x) h1))) :
    xG d zm_Codes_clear (32, [some (.ref r0), some (.int v1)], []) (sh, I, J) Q := by
  obtain rfl := e0.eq
  exact xG_N 3 (ps := [xRf sh r0 5 3]) (f1 := (39, [some (.ref r0), some (.int v1)], [.int (256 : Int32), .ref (xrf sh r0 3)])) (h1 := (sh, I, J)) rfl e0.rf (xG_Cu rfl rfl (Nat.le_of_ble_eq_true rfl) (Nat.le_of_ble_eq_true rfl) ⟨_, _, rfl, ko⟩ rfl k)
set_option maxRecDepth 100000 in
theorem s_Codes_clear_42 {d : Nat} {Q : xO → xH → Prop} {sh : List xS} {I : Nat → Nat → Int32} {J : Nat → Nat → Int64} {r0 : Nat} {v1 : Int32} {a1 : Nat}
    (e0 : xRr sh r0 5 4 a1)
    (ko : xOb sh a1 3)
    (k : xg d qCode_clear [.ref a1, .int (40 : Int32)] (sh, I, J) (xU (fun h1 => xG d zm_Codes_clear (51, [some (.ref r0), some (.int v1)], []) h1 Q) (fun x h1 => Q (.inr x) h1))) :
    xG d zm_Codes_clear (42, [some (.ref r0), some (.int v1)], []) (sh, I, J) Q := by
  obtain rfl := e0.eq
  exact xG_N 3 (ps := [xRf sh r0 5 4]) (f1 := (48, [some (.ref r0), some (.int v1)], [.int (40 : Int32), .ref (xrf sh r0 4)])) (h1 := (sh, I, J)) rfl e0.rf (xG_Cu rfl rfl (Nat.le_of_ble_eq_true rfl) (Nat.le_of_ble_eq_true rfl) ⟨_, _, rfl, ko⟩ rfl k)
set_option maxRecDepth 100000 in
theorem s_Codes_clear_51 {d : Nat} {Q : xO → xH → Prop} {sh : List xS} {I : Nat → Nat → Int32} {J : Nat → Nat → Int64} {r0 : Nat} {v1 : Int32}
    (k : Q (.inl (none)) (sh, I, J)) :
    xG d zm_Codes_clear (51, [some (.ref r0), some (.int v1)], []) (sh, I, J) Q := by
  exact xG_Q rfl rfl trivial k
set_option maxRecDepth 100000 in
theorem s_Codes_bitsBehind_0 {d : Nat} {Q : xO → xH → Prop} {sh : List xS} {I : Nat → Nat → Int32} {J : Nat → Nat → Int64} {v0 : Int32}
    (k1 : (4 : Int32) ≤ v0 → xG d zm_Codes_bitsBehind (9, [some (.int v0)], []) (sh, I, J) Q)
    (k2 : ¬ ((4 : Int32) ≤ v0) → xG d zm_Codes_bitsBehind (5, [some (.int v0)], []) (sh, I, J) Q) :
    xG d zm_Codes_bitsBehind (0, [some (.int v0)], []) (sh, I, J) Q := by
  exact xG_N 2 (ps := []) (f1 := (2, [some (.int v0)], [.int (4 : Int32), .int v0])) (h1 := (sh, I, J)) rfl trivial (xG_B rfl rfl k1 k2)
set_option maxRecDepth 100000 in
theorem s_Codes_bitsBehind_5 {d : Nat} {Q : xO → xH → Prop} {sh : List xS} {I : Nat → Nat → Int32} {J : Nat → Nat → Int64} {v0 : Int32}
    (k : Q (.inl (some (.int (0 : Int32)))) (sh, I, J)) :
    xG d zm_Codes_bitsBehind (5, [some (.int v0)], []) (sh, I, J) Q := by
  exact xG_N 2 (ps := []) (f1 := (14, [some (.int v0)], [.int (0 : Int32)])) (h1 := (sh, I, J)) rfl trivial (xG_Q rfl rfl trivial k)
set_option maxRecDepth 100000 in
theorem s_Codes_bitsBehind_9 {d : Nat} {Q : xO → xH → Prop} {sh : List xS} {I : Nat → Nat → Int32} {J : Nat → Nat → Int64} {v0 : Int32}
    (k : Q (.inl (some (.int ((v0 / (2 : Int32)) - (1 : Int32))))) (sh, I, J)) :
    xG d zm_Codes_bitsBehind (9, [some (.int v0)], []) (sh, I, J) Q := by
  exact xG_N 5 (ps := [¬ (2 : Int32) = 0]) (f1 := (14, [some (.int v0)], [.int ((v0 / (2 : Int32)) - (1 : Int32))])) (h1 := (sh, I, J)) rfl (show ¬ (2 : Int32) = 0 by decide) (xG_Q rfl rfl trivial k)
set_option maxRecDepth 100000 in
theorem s_Codes_leastNumber_0 {d : Nat} {Q : xO → xH → Prop} {sh : List xS} {I : Nat → Nat → Int32} {J : Nat → Nat → Int64} {v0 : Int32}
    (k1 : (4 : Int32) ≤ v0 → xG d zm_Codes_leastNumber (11, [some (.int v0)], []) (sh, I, J) Q)
    (k2 : ¬ ((4 : Int32) ≤ v0) → xG d zm_Codes_leastNumber (5, [some (.int v0)], []) (sh, I, J) Q) :
    xG d zm_Codes_leastNumber (0, [some (.int v0)], []) (sh, I, J) Q := by
  exact xG_N 2 (ps := []) (f1 := (2, [some (.int v0)], [.int (4 : Int32), .int v0])) (h1 := (sh, I, J)) rfl trivial (xG_B rfl rfl k1 k2)
set_option maxRecDepth 100000 in
theorem s_Codes_leastNumber_5 {d : Nat} {Q : xO → xH → Prop} {sh : List xS} {I : Nat → Nat → Int32} {J : Nat → Nat → Int64} {v0 : Int32}
    (k : Q (.inl (some (.int (v0 + (1 : Int32))))) (sh, I, J)) :
    xG d zm_Codes_leastNumber (5, [some (.int v0)], []) (sh, I, J) Q := by
  exact xG_N 4 (ps := []) (f1 := (24, [some (.int v0)], [.int (v0 + (1 : Int32))])) (h1 := (sh, I, J)) rfl trivial (xG_Q rfl rfl trivial k)
set_option maxRecDepth 100000 in
theorem s_Codes_leastNumber_11 {d : Nat} {Q : xO → xH → Prop} {sh : List xS} {I : Nat → Nat → Int32} {J : Nat → Nat → Int64} {v0 : Int32}
    (k : Q (.inl (some (.int ((((2 : Int32) + (v0 - v0 / (2 : Int32) * (2 : Int32))) <<< (((v0 / (2 : Int32)) - (1 : Int32)) &&& 31)) + (1 : Int32))))) (sh, I, J)) :
    xG d zm_Codes_leastNumber (11, [some (.int v0)], []) (sh, I, J) Q := by
  exact xG_N 13 (ps := [¬ (2 : Int32) = 0, ¬ (2 : Int32) = 0]) (f1 := (24, [some (.int v0)], [.int ((((2 : Int32) + (v0 - v0 / (2 : Int32) * (2 : Int32))) <<< (((v0 / (2 : Int32)) - (1 : Int32)) &&& 31)) + (1 : Int32))])) (h1 := (sh, I, J)) rfl ⟨(show ¬ (2 : Int32) = 0 by decide), (show ¬ (2 : Int32) = 0 by decide)⟩ (xG_Q rfl rfl trivial k)
set_option maxRecDepth 100000 in
theorem s_Codes_prefixOf_0 {d : Nat} {Q : xO → xH → Prop} {sh : List xS} {I : Nat → Nat → Int32} {J : Nat → Nat → Int64} {v0 : Int32}
    (k : xG d zm_Codes_prefixOf (2, [some (.int v0), some (.int (0 : Int32))], []) (sh, I, J) Q) :
    xG d zm_Codes_prefixOf (0, [some (.int v0), none], []) (sh, I, J) Q := by
  exact xG_N 2 (ps := []) (f1 := (2, [some (.int v0), some (.int (0 : Int32))], [])) (h1 := (sh, I, J)) rfl trivial (k)
set_option maxRecDepth 100000 in
theorem s_Codes_prefixOf_2 {d : Nat} {Q : xO → xH → Prop} {sh : List xS} {I : Nat → Nat → Int32} {J : Nat → Nat → Int64} {v0 : Int32} {v1 : Int32}
    (k1 : (39 : Int32) ≤ v1 → xG d zm_Codes_prefixOf (24, [some (.int v0), some (.int v1)], []) (sh, I, J) Q)
    (k2 : ¬ ((39 : Int32) ≤ v1) → xG d zm_Codes_prefixOf (8, [some (.int v0), some (.int v1)], []) (sh, I, J) Q) :
    xG d zm_Codes_prefixOf (2, [some (.int v0), some (.int v1)], []) (sh, I, J) Q := by
  exact xG_N 2 (ps := []) (f1 := (5, [some (.int v0), some (.int v1)], [.int (39 : Int32), .int v1])) (h1 := (sh, I, J)) rfl trivial (xG_B rfl rfl k1 k2)
set_option maxRecDepth 100000 in
theorem s_Codes_prefixOf_8 {d : Nat} {Q : xO → xH → Prop} {sh : List xS} {I : Nat → Nat → Int32} {J : Nat → Nat → Int64} {v0 : Int32} {v1 : Int32}
    (k : xg d qCodes_leastNumber [.int (v1 + (1 : Int32))] (sh, I, J) (xI (fun v h1 => xG d zm_Codes_prefixOf (14, [some (.int v0), some (.int v1)], [.int v]) h1 Q) (fun x h1 => Q (.inr x) h1))) :
    xG d zm_Codes_prefixOf (8, [some (.int v0), some (.int v1)], []) (sh, I, J) Q := by
  exact xG_N 3 (ps := []) (f1 := (11, [some (.int v0), some (.int v1)], [.int (v1 + (1 : Int32))])) (h1 := (sh, I, J)) rfl trivial (xG_Ci rfl rfl (Nat.le_of_ble_eq_true rfl) (Nat.le_of_ble_eq_true rfl) trivial rfl k)
set_option maxRecDepth 100000 in
theorem s_Codes_prefixOf_14 {d : Nat} {Q : xO → xH → Prop} {sh : List xS} {I : Nat → Nat → Int32} {J : Nat → Nat → Int64} {v0 : Int32} {v1 : Int32} {t0 : Int32}
    (k1 : v0 < t0 → xG d zm_Codes_prefixOf (24, [some (.int v0), some (.int v1)], []) (sh, I, J) Q)
    (k2 : ¬ (v0 < t0) → xG d zm_Codes_prefixOf (18, [some (.int v0), some (.int v1)], []) (sh, I, J) Q) :
    xG d zm_Codes_prefixOf (14, [some (.int v0), some (.int v1)], [.int t0]) (sh, I, J) Q := by
  exact xG_N 1 (ps := []) (f1 := (15, [some (.int v0), some (.int v1)], [.int v0, .int t0])) (h1 := (sh, I, J)) rfl trivial (xG_B rfl rfl k1 k2)
set_option maxRecDepth 100000 in
theorem s_Codes_prefixOf_18 {d : Nat} {Q : xO → xH → Prop} {sh : List xS} {I : Nat → Nat → Int32} {J : Nat → Nat → Int64} {v0 : Int32} {v1 : Int32}
    (k : xG d zm_Codes_prefixOf (2, [some (.int v0), some (.int (v1 + (1 : Int32)))], []) (sh, I, J) Q) :
    xG d zm_Codes_prefixOf (18, [some (.int v0), some (.int v1)], []) (sh, I, J) Q := by
  exact xG_N 2 (ps := []) (f1 := (2, [some (.int v0), some (.int (v1 + (1 : Int32)))], [])) (h1 := (sh, I, J)) rfl trivial (k)
set_option maxRecDepth 100000 in
theorem s_Codes_prefixOf_24 {d : Nat} {Q : xO → xH → Prop} {sh : List xS} {I : Nat → Nat → Int32} {J : Nat → Nat → Int64} {v0 : Int32} {v1 : Int32}
    (k : Q (.inl (some (.int v1))) (sh, I, J)) :
    xG d zm_Codes_prefixOf (24, [some (.int v0), some (.int v1)], []) (sh, I, J) Q := by
  exact xG_N 1 (ps := []) (f1 := (25, [some (.int v0), some (.int v1)], [.int v1])) (h1 := (sh, I, J)) rfl trivial (xG_Q rfl rfl trivial k)
