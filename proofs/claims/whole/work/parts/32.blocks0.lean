/-! Stretches of code, printed (wip/whole/gen_blocks.py). -/
theorem s_Bits_init_0 {d : Nat} {Q : xO → xH → Prop} {sh : List xS} {I : Nat → Nat → Int32} {J : Nat → Nat → Int64} {r0 : Nat}
    (e0 : xOb (sh ++ [.inl (.int, (700 : Int32).toNatClampNeg)]) r0 1)
    (k : Q (.inl (none)) (xsr (sh ++ [.inl (.int, (700 : Int32).toNatClampNeg)]) r0 0 sh.length, xzer I sh.length, xzerL J sh.length)) :
    xG d zm_Bits_init (0, [some (.ref r0)], []) (sh, I, J) Q := by
  exact xG_N 6 rfl ⟨(by decide), (by decide), (by decide), (by decide), e0, (by decide)⟩ (xG_Q rfl rfl trivial k)
theorem s_Bits_clear_0 {d : Nat} {Q : xO → xH → Prop} {sh : List xS} {I : Nat → Nat → Int32} {J : Nat → Nat → Int64} {r0 : Nat}
    (e0 : xOb sh r0 1)
    (k : Q (.inl (none)) (sh, xup I r0 1 0, J)) :
    xG d zm_Bits_clear (0, [some (.ref r0)], []) (sh, I, J) Q := by
  exact xG_N 3 rfl e0 (xG_Q rfl rfl trivial k)
theorem s_Bits_bytesHeld_0 {d : Nat} {Q : xO → xH → Prop} {sh : List xS} {I : Nat → Nat → Int32} {J : Nat → Nat → Int64} {r0 : Nat}
    (e0 : xOb sh r0 1)
    (k : Q (.inl (some (.int (((I r0 1) + 7) / 8)))) (sh, I, J)) :
    xG d zm_Bits_bytesHeld (0, [some (.ref r0)], []) (sh, I, J) Q := by
  exact xG_N 6 rfl ⟨e0, (by decide)⟩ (xG_Q rfl rfl trivial k)
theorem s_Bits_bit_0 {d : Nat} {Q : xO → xH → Prop} {sh : List xS} {I : Nat → Nat → Int32} {J : Nat → Nat → Int64} {r0 : Nat}
    (ko : xOb sh r0 1)
    (k : xg d qBits_number [.ref r0, .int 1] (sh, I, J) (xI (fun v h1 => xG d zm_Bits_bit (5, [some (.ref r0)], [.int v]) h1 Q) (fun x h1 => Q (.inr x) h1))) :
    xG d zm_Bits_bit (0, [some (.ref r0)], []) (sh, I, J) Q := by
  exact xG_N 2 rfl trivial (xG_Ci rfl rfl (by decide) (by decide) ⟨_, _, rfl, ko⟩ rfl k)
theorem s_Bits_bit_5 {d : Nat} {Q : xO → xH → Prop} {sh : List xS} {I : Nat → Nat → Int32} {J : Nat → Nat → Int64} {r0 : Nat} {t0 : Int32}
    (k : Q (.inl (some (.int t0))) (sh, I, J)) :
    xG d zm_Bits_bit (5, [some (.ref r0)], [.int t0]) (sh, I, J) Q := by
  exact xG_Q rfl rfl trivial k
theorem s_Bits_number_0 {d : Nat} {Q : xO → xH → Prop} {sh : List xS} {I : Nat → Nat → Int32} {J : Nat → Nat → Int64} {r0 : Nat} {v1 : Int32}
    (e0 : xOb sh r0 1)
    (k1 : v1 ≤ ((I r0 1) - (I r0 2)) → xG d zm_Bits_number (23, [some (.ref r0), some (.int v1), none, none], []) (sh, I, J) Q)
    (k2 : ¬ (v1 ≤ ((I r0 1) - (I r0 2))) → xG d zm_Bits_number (13, [some (.ref r0), some (.int v1), none, none], []) (sh, I, J) Q) :
    xG d zm_Bits_number (0, [some (.ref r0), some (.int v1), none, none], []) (sh, I, J) Q := by
  exact xG_N 6 rfl ⟨e0, e0⟩ (xG_B rfl rfl k1 k2)
theorem s_Bits_number_13 {d : Nat} {Q : xO → xH → Prop} {sh : List xS} {I : Nat → Nat → Int32} {J : Nat → Nat → Int64} {r0 : Nat} {v1 : Int32} {o2 : Option Value} {o3 : Option Value}
    (k : Q (.inr sh.length) (sh ++ [.inr (100, [])], I, J)) :
    xG d zm_Bits_number (13, [some (.ref r0), some (.int v1), o2, o3], []) (sh, I, J) Q := by
  exact xG_T rfl rfl rfl (by decide) k
theorem s_Bits_number_23 {d : Nat} {Q : xO → xH → Prop} {sh : List xS} {I : Nat → Nat → Int32} {J : Nat → Nat → Int64} {r0 : Nat} {v1 : Int32} {o2 : Option Value} {o3 : Option Value}
    (k : xG d zm_Bits_number (27, [some (.ref r0), some (.int v1), some (.int 0), some (.int 0)], []) (sh, I, J) Q) :
    xG d zm_Bits_number (23, [some (.ref r0), some (.int v1), o2, o3], []) (sh, I, J) Q := by
  exact xG_N 4 rfl trivial (k)
theorem s_Bits_number_27 {d : Nat} {Q : xO → xH → Prop} {sh : List xS} {I : Nat → Nat → Int32} {J : Nat → Nat → Int64} {r0 : Nat} {v1 : Int32} {v2 : Int32} {v3 : Int32}
    (k1 : v1 ≤ v3 → xG d zm_Bits_number (75, [some (.ref r0), some (.int v1), some (.int v2), some (.int v3)], []) (sh, I, J) Q)
    (k2 : ¬ (v1 ≤ v3) → xG d zm_Bits_number (32, [some (.ref r0), some (.int v1), some (.int v2), some (.int v3)], []) (sh, I, J) Q) :
    xG d zm_Bits_number (27, [some (.ref r0), some (.int v1), some (.int v2), some (.int v3)], []) (sh, I, J) Q := by
  exact xG_N 2 rfl trivial (xG_B rfl rfl k1 k2)
theorem s_Bits_number_32 {d : Nat} {Q : xO → xH → Prop} {sh : List xS} {I : Nat → Nat → Int32} {J : Nat → Nat → Int64} {r0 : Nat} {v1 : Int32} {v2 : Int32} {v3 : Int32} {a1 : Nat} {n2 : Nat}
    (e0 : xRr sh r0 1 0 a1)
    (e1 : xAr sh a1 .int n2)
    (e2 : vp_in ((I r0 2) / 8) n2)
    (k : xG d zm_Bits_number (27, [some (.ref r0), some (.int v1), some (.int (v2 ||| ((((I a1 ((I r0 2) / 8).toNatClampNeg) >>> (((I r0 2) - (I r0 2) / 8 * 8) &&& 31)) &&& 1) <<< (v3 &&& 31)))), some (.int (v3 + 1))], []) (sh, xup I r0 2 ((I r0 2) + 1), J) Q) :
    xG d zm_Bits_number (32, [some (.ref r0), some (.int v1), some (.int v2), some (.int v3)], []) (sh, I, J) Q := by
  obtain rfl := e0.eq
  obtain rfl := e1.eq
  exact xG_N 27 rfl ⟨e0.rf, e0.ob, (by decide), e1.ar, e2, e0.ob, (by decide), e0.ob, e0.ob⟩ (k)
theorem s_Bits_number_75 {d : Nat} {Q : xO → xH → Prop} {sh : List xS} {I : Nat → Nat → Int32} {J : Nat → Nat → Int64} {r0 : Nat} {v1 : Int32} {v2 : Int32} {v3 : Int32}
    (k : Q (.inl (some (.int v2))) (sh, I, J)) :
    xG d zm_Bits_number (75, [some (.ref r0), some (.int v1), some (.int v2), some (.int v3)], []) (sh, I, J) Q := by
  exact xG_N 1 rfl trivial (xG_Q rfl rfl trivial k)
theorem s_Bits_put_0 {d : Nat} {Q : xO → xH → Prop} {sh : List xS} {I : Nat → Nat → Int32} {J : Nat → Nat → Int64} {r0 : Nat} {v1 : Int32} {v2 : Int32}
    (k : xG d zm_Bits_put (2, [some (.ref r0), some (.int v1), some (.int v2), some (.int 0)], []) (sh, I, J) Q) :
    xG d zm_Bits_put (0, [some (.ref r0), some (.int v1), some (.int v2), none], []) (sh, I, J) Q := by
  exact xG_N 2 rfl trivial (k)
theorem s_Bits_put_2 {d : Nat} {Q : xO → xH → Prop} {sh : List xS} {I : Nat → Nat → Int32} {J : Nat → Nat → Int64} {r0 : Nat} {v1 : Int32} {v2 : Int32} {v3 : Int32}
    (k1 : v2 ≤ v3 → xG d zm_Bits_put (22, [some (.ref r0), some (.int v1), some (.int v2), some (.int v3)], []) (sh, I, J) Q)
    (k2 : ¬ (v2 ≤ v3) → xG d zm_Bits_put (7, [some (.ref r0), some (.int v1), some (.int v2), some (.int v3)], []) (sh, I, J) Q) :
    xG d zm_Bits_put (2, [some (.ref r0), some (.int v1), some (.int v2), some (.int v3)], []) (sh, I, J) Q := by
  exact xG_N 2 rfl trivial (xG_B rfl rfl k1 k2)
theorem s_Bits_put_7 {d : Nat} {Q : xO → xH → Prop} {sh : List xS} {I : Nat → Nat → Int32} {J : Nat → Nat → Int64} {r0 : Nat} {v1 : Int32} {v2 : Int32} {v3 : Int32}
    (ko : xOb sh r0 1)
    (k : xg d qBits_putBit [.ref r0, .int ((v1 >>> (v3 &&& 31)) &&& 1)] (sh, I, J) (xU (fun h1 => xG d zm_Bits_put (16, [some (.ref r0), some (.int v1), some (.int v2), some (.int v3)], []) h1 Q) (fun x h1 => Q (.inr x) h1))) :
    xG d zm_Bits_put (7, [some (.ref r0), some (.int v1), some (.int v2), some (.int v3)], []) (sh, I, J) Q := by
  exact xG_N 6 rfl trivial (xG_Cu rfl rfl (by decide) (by decide) ⟨_, _, rfl, ko⟩ rfl k)
theorem s_Bits_put_16 {d : Nat} {Q : xO → xH → Prop} {sh : List xS} {I : Nat → Nat → Int32} {J : Nat → Nat → Int64} {r0 : Nat} {v1 : Int32} {v2 : Int32} {v3 : Int32}
    (k : xG d zm_Bits_put (2, [some (.ref r0), some (.int v1), some (.int v2), some (.int (v3 + 1))], []) (sh, I, J) Q) :
    xG d zm_Bits_put (16, [some (.ref r0), some (.int v1), some (.int v2), some (.int v3)], []) (sh, I, J) Q := by
  exact xG_N 2 rfl trivial (k)
theorem s_Bits_put_22 {d : Nat} {Q : xO → xH → Prop} {sh : List xS} {I : Nat → Nat → Int32} {J : Nat → Nat → Int64} {r0 : Nat} {v1 : Int32} {v2 : Int32} {v3 : Int32}
    (k : Q (.inl (none)) (sh, I, J)) :
    xG d zm_Bits_put (22, [some (.ref r0), some (.int v1), some (.int v2), some (.int v3)], []) (sh, I, J) Q := by
  exact xG_Q rfl rfl trivial k
theorem s_Bits_putBit_0 {d : Nat} {Q : xO → xH → Prop} {sh : List xS} {I : Nat → Nat → Int32} {J : Nat → Nat → Int64} {r0 : Nat} {v1 : Int32}
    (e0 : xOb sh r0 1)
    (k1 : 700 ≤ ((I r0 1) / 8) → xG d zm_Bits_putBit (53, [some (.ref r0), some (.int v1), some (.int ((I r0 1) / 8)), none], []) (sh, I, J) Q)
    (k2 : ¬ (700 ≤ ((I r0 1) / 8)) → xG d zm_Bits_putBit (15, [some (.ref r0), some (.int v1), some (.int ((I r0 1) / 8)), none], []) (sh, I, J) Q) :
    xG d zm_Bits_putBit (0, [some (.ref r0), some (.int v1), none, none], []) (sh, I, J) Q := by
  exact xG_N 7 rfl ⟨e0, (by decide)⟩ (xG_B rfl rfl k1 k2)
theorem s_Bits_putBit_15 {d : Nat} {Q : xO → xH → Prop} {sh : List xS} {I : Nat → Nat → Int32} {J : Nat → Nat → Int64} {r0 : Nat} {v1 : Int32} {v2 : Int32} {o3 : Option Value}
    (e0 : xOb sh r0 1)
    (k1 : ¬ ((I r0 1) - (I r0 1) / 8 * 8) = 0 → xG d zm_Bits_putBit (29, [some (.ref r0), some (.int v1), some (.int v2), o3], []) (sh, I, J) Q)
    (k2 : ¬ (¬ ((I r0 1) - (I r0 1) / 8 * 8) = 0) → xG d zm_Bits_putBit (25, [some (.ref r0), some (.int v1), some (.int v2), o3], []) (sh, I, J) Q) :
    xG d zm_Bits_putBit (15, [some (.ref r0), some (.int v1), some (.int v2), o3], []) (sh, I, J) Q := by
  exact xG_N 4 rfl ⟨e0, (by decide)⟩ (xG_B rfl rfl k1 k2)
theorem s_Bits_putBit_25 {d : Nat} {Q : xO → xH → Prop} {sh : List xS} {I : Nat → Nat → Int32} {J : Nat → Nat → Int64} {r0 : Nat} {v1 : Int32} {v2 : Int32} {o3 : Option Value} {a1 : Nat} {n2 : Nat}
    (e0 : xRr sh r0 1 0 a1)
    (e1 : xAr sh a1 .int n2)
    (e2 : 4 ≤ a1)
    (e3 : vp_in v2 n2)
    (k : Q (.inl (none)) (sh, xup (xup I a1 v2.toNatClampNeg (0 ||| (v1 <<< (((I r0 1) - (I r0 1) / 8 * 8) &&& 31)))) r0 1 (((xup I a1 v2.toNatClampNeg (0 ||| (v1 <<< (((I r0 1) - (I r0 1) / 8 * 8) &&& 31)))) r0 1) + 1), J)) :
    xG d zm_Bits_putBit (25, [some (.ref r0), some (.int v1), some (.int v2), o3], []) (sh, I, J) Q := by
  obtain rfl := e0.eq
  obtain rfl := e1.eq
  exact xG_N 21 rfl ⟨e0.rf, e0.ob, (by decide), ⟨e1.ar, e2⟩, e3, e0.ob, e0.ob⟩ (xG_Q rfl rfl trivial k)
theorem s_Bits_putBit_29 {d : Nat} {Q : xO → xH → Prop} {sh : List xS} {I : Nat → Nat → Int32} {J : Nat → Nat → Int64} {r0 : Nat} {v1 : Int32} {v2 : Int32} {o3 : Option Value} {a1 : Nat} {n2 : Nat}
    (e0 : xRr sh r0 1 0 a1)
    (e1 : xAr sh a1 .int n2)
    (e2 : vp_in v2 n2)
    (e3 : 4 ≤ a1)
    (k : Q (.inl (none)) (sh, xup (xup I a1 v2.toNatClampNeg ((I a1 v2.toNatClampNeg) ||| (v1 <<< (((I r0 1) - (I r0 1) / 8 * 8) &&& 31)))) r0 1 (((xup I a1 v2.toNatClampNeg ((I a1 v2.toNatClampNeg) ||| (v1 <<< (((I r0 1) - (I r0 1) / 8 * 8) &&& 31)))) r0 1) + 1), J)) :
    xG d zm_Bits_putBit (29, [some (.ref r0), some (.int v1), some (.int v2), o3], []) (sh, I, J) Q := by
  obtain rfl := e0.eq
  obtain rfl := e1.eq
  exact xG_N 23 rfl ⟨e0.rf, e1.ar, e2, e0.rf, e0.ob, (by decide), ⟨e1.ar, e3⟩, e2, e0.ob, e0.ob⟩ (xG_Q rfl rfl trivial k)
theorem s_Bits_putBit_53 {d : Nat} {Q : xO → xH → Prop} {sh : List xS} {I : Nat → Nat → Int32} {J : Nat → Nat → Int64} {r0 : Nat} {v1 : Int32} {v2 : Int32} {o3 : Option Value}
    (e0 : xOb sh r0 1)
    (k : Q (.inl (none)) (sh, xup I r0 1 ((I r0 1) + 1), J)) :
    xG d zm_Bits_putBit (53, [some (.ref r0), some (.int v1), some (.int v2), o3], []) (sh, I, J) Q := by
  exact xG_N 6 rfl ⟨e0, e0⟩ (xG_Q rfl rfl trivial k)
theorem s_Bits_become_0 {d : Nat} {Q : xO → xH → Prop} {sh : List xS} {I : Nat → Nat → Int32} {J : Nat → Nat → Int64} {r0 : Nat} {r1 : Nat}
    (ko : xOb sh r1 1)
    (k : xg d qBits_bytesHeld [.ref r1] (sh, I, J) (xI (fun v h1 => xG d zm_Bits_become (4, [some (.ref r0), some (.ref r1), none], [.int v]) h1 Q) (fun x h1 => Q (.inr x) h1))) :
    xG d zm_Bits_become (0, [some (.ref r0), some (.ref r1), none], []) (sh, I, J) Q := by
  exact xG_N 1 rfl trivial (xG_Ci rfl rfl (by decide) (by decide) ⟨_, _, rfl, ko⟩ rfl k)
theorem s_Bits_become_4 {d : Nat} {Q : xO → xH → Prop} {sh : List xS} {I : Nat → Nat → Int32} {J : Nat → Nat → Int64} {r0 : Nat} {r1 : Nat} {o2 : Option Value} {t0 : Int32} {a1 : Nat} {a2 : Nat} {n3 : Nat} {n4 : Nat}
    (e0 : xRr sh r1 1 0 a1)
    (e1 : xRr sh r0 1 0 a2)
    (e2 : xAr sh a1 .int n3)
    (e3 : xAr sh a2 .int n4)
    (e4 : 4 ≤ a1)
    (e5 : 4 ≤ a2)
    (e6 : ¬ (xmin t0 700) < 0)
    (e7 : (0 : Int32).toNatClampNeg + (xmin t0 700 : Int32).toNatClampNeg ≤ n3)
    (e8 : (0 : Int32).toNatClampNeg + (xmin t0 700 : Int32).toNatClampNeg ≤ n4)
    (e9 : a1 ≠ a2)
    (k : Q (.inl (none)) (sh, xup (xcpy I a1 (0 : Int32).toNatClampNeg a2 (0 : Int32).toNatClampNeg (xmin t0 700 : Int32).toNatClampNeg) r0 1 ((xmin t0 700) * 8), J)) :
    xG d zm_Bits_become (4, [some (.ref r0), some (.ref r1), o2], [.int t0]) (sh, I, J) Q := by
  obtain rfl := e0.eq
  obtain rfl := e1.eq
  obtain rfl := e2.eq
  obtain rfl := e3.eq
  exact xG_N 16 rfl ⟨(by decide), e0.rf, e1.rf, (by decide), ⟨e2.ar, e4⟩, ⟨e3.ar, e5⟩, (by decide), (by decide), e6, e7, e8, e9, e1.ob⟩ (xG_Q rfl rfl trivial k)
theorem s_Plane_init_0 {d : Nat} {Q : xO → xH → Prop} {sh : List xS} {I : Nat → Nat → Int32} {J : Nat → Nat → Int64} {r0 : Nat} {v1 : Int32}
    (e0 : xOb sh r0 8)
    (e1 : ¬ v1 < 0)
    (e2 : v1.toNatClampNeg ≤ 65536)
    (e3 : xOb (sh ++ [.inl (.int, (v1 : Int32).toNatClampNeg)]) r0 8)
    (k : Q (.inl (none)) (xsr (sh ++ [.inl (.int, (v1 : Int32).toNatClampNeg)]) r0 0 sh.length, xzer (xup (xup I r0 1 1) r0 2 1) sh.length, xzerL J sh.length)) :
    xG d zm_Plane_init (0, [some (.ref r0), some (.int v1)], []) (sh, I, J) Q := by
  exact xG_N 12 rfl ⟨(by decide), e0, e0, e1, e2, (by decide), e3, (by decide)⟩ (xG_Q rfl rfl trivial k)
theorem s_Plane_shape_0 {d : Nat} {Q : xO → xH → Prop} {sh : List xS} {I : Nat → Nat → Int32} {J : Nat → Nat → Int64} {r0 : Nat} {v1 : Int32} {v2 : Int32}
    (e0 : xOb sh r0 8)
    (k : Q (.inl (none)) (sh, xup (xup I r0 1 v1) r0 2 v2, J)) :
    xG d zm_Plane_shape (0, [some (.ref r0), some (.int v1), some (.int v2)], []) (sh, I, J) Q := by
  exact xG_N 6 rfl ⟨e0, e0⟩ (xG_Q rfl rfl trivial k)
theorem s_Plane_count_0 {d : Nat} {Q : xO → xH → Prop} {sh : List xS} {I : Nat → Nat → Int32} {J : Nat → Nat → Int64} {r0 : Nat}
    (e0 : xOb sh r0 8)
    (k : Q (.inl (some (.int ((I r0 1) * (I r0 2))))) (sh, I, J)) :
    xG d zm_Plane_count (0, [some (.ref r0)], []) (sh, I, J) Q := by
  exact xG_N 5 rfl ⟨e0, e0⟩ (xG_Q rfl rfl trivial k)
theorem s_Plane_holds_0 {d : Nat} {Q : xO → xH → Prop} {sh : List xS} {I : Nat → Nat → Int32} {J : Nat → Nat → Int64} {r0 : Nat} {v1 : Int32} {v2 : Int32}
    (k1 : v1 < 0 → xG d zm_Plane_holds (28, [some (.ref r0), some (.int v1), some (.int v2)], []) (sh, I, J) Q)
    (k2 : ¬ (v1 < 0) → xG d zm_Plane_holds (4, [some (.ref r0), some (.int v1), some (.int v2)], []) (sh, I, J) Q) :
    xG d zm_Plane_holds (0, [some (.ref r0), some (.int v1), some (.int v2)], []) (sh, I, J) Q := by
  exact xG_N 1 rfl trivial (xG_B rfl rfl k1 k2)
theorem s_Plane_holds_4 {d : Nat} {Q : xO → xH → Prop} {sh : List xS} {I : Nat → Nat → Int32} {J : Nat → Nat → Int64} {r0 : Nat} {v1 : Int32} {v2 : Int32}
    (e0 : xOb sh r0 8)
    (k1 : (I r0 1) ≤ v1 → xG d zm_Plane_holds (28, [some (.ref r0), some (.int v1), some (.int v2)], []) (sh, I, J) Q)
    (k2 : ¬ ((I r0 1) ≤ v1) → xG d zm_Plane_holds (12, [some (.ref r0), some (.int v1), some (.int v2)], []) (sh, I, J) Q) :
    xG d zm_Plane_holds (4, [some (.ref r0), some (.int v1), some (.int v2)], []) (sh, I, J) Q := by
  exact xG_N 3 rfl e0 (xG_B rfl rfl k1 k2)
theorem s_Plane_holds_12 {d : Nat} {Q : xO → xH → Prop} {sh : List xS} {I : Nat → Nat → Int32} {J : Nat → Nat → Int64} {r0 : Nat} {v1 : Int32} {v2 : Int32}
    (k1 : v2 < 0 → xG d zm_Plane_holds (28, [some (.ref r0), some (.int v1), some (.int v2)], []) (sh, I, J) Q)
    (k2 : ¬ (v2 < 0) → xG d zm_Plane_holds (16, [some (.ref r0), some (.int v1), some (.int v2)], []) (sh, I, J) Q) :
    xG d zm_Plane_holds (12, [some (.ref r0), some (.int v1), some (.int v2)], []) (sh, I, J) Q := by
  exact xG_N 1 rfl trivial (xG_B rfl rfl k1 k2)
theorem s_Plane_holds_16 {d : Nat} {Q : xO → xH → Prop} {sh : List xS} {I : Nat → Nat → Int32} {J : Nat → Nat → Int64} {r0 : Nat} {v1 : Int32} {v2 : Int32}
    (e0 : xOb sh r0 8)
    (k1 : (I r0 2) ≤ v2 → xG d zm_Plane_holds (28, [some (.ref r0), some (.int v1), some (.int v2)], []) (sh, I, J) Q)
    (k2 : ¬ ((I r0 2) ≤ v2) → xG d zm_Plane_holds (24, [some (.ref r0), some (.int v1), some (.int v2)], []) (sh, I, J) Q) :
    xG d zm_Plane_holds (16, [some (.ref r0), some (.int v1), some (.int v2)], []) (sh, I, J) Q := by
  exact xG_N 3 rfl e0 (xG_B rfl rfl k1 k2)
theorem s_Plane_holds_24 {d : Nat} {Q : xO → xH → Prop} {sh : List xS} {I : Nat → Nat → Int32} {J : Nat → Nat → Int64} {r0 : Nat} {v1 : Int32} {v2 : Int32}
    (k : Q (.inl (some (.int 1))) (sh, I, J)) :
    xG d zm_Plane_holds (24, [some (.ref r0), some (.int v1), some (.int v2)], []) (sh, I, J) Q := by
  exact xG_N 2 rfl trivial (xG_Q rfl rfl (by decide) k)
theorem s_Plane_holds_28 {d : Nat} {Q : xO → xH → Prop} {sh : List xS} {I : Nat → Nat → Int32} {J : Nat → Nat → Int64} {r0 : Nat} {v1 : Int32} {v2 : Int32}
    (k : Q (.inl (some (.int 0))) (sh, I, J)) :
    xG d zm_Plane_holds (28, [some (.ref r0), some (.int v1), some (.int v2)], []) (sh, I, J) Q := by
  exact xG_N 1 rfl trivial (xG_Q rfl rfl (by decide) k)
theorem s_Plane_become_0 {d : Nat} {Q : xO → xH → Prop} {sh : List xS} {I : Nat → Nat → Int32} {J : Nat → Nat → Int64} {r0 : Nat} {r1 : Nat}
    (e0 : xOb sh r1 8)
    (ko : xOb sh r0 8)
    (k : xg d qPlane_shape [.ref r0, .int (I r1 1), .int (I r1 2)] (sh, I, J) (xU (fun h1 => xG d zm_Plane_become (12, [some (.ref r0), some (.ref r1)], []) h1 Q) (fun x h1 => Q (.inr x) h1))) :
    xG d zm_Plane_become (0, [some (.ref r0), some (.ref r1)], []) (sh, I, J) Q := by
  exact xG_N 5 rfl ⟨e0, e0⟩ (xG_Cu rfl rfl (by decide) (by decide) ⟨_, _, rfl, ko⟩ rfl k)
theorem s_Plane_become_12 {d : Nat} {Q : xO → xH → Prop} {sh : List xS} {I : Nat → Nat → Int32} {J : Nat → Nat → Int64} {r0 : Nat} {r1 : Nat} {a1 : Nat} {a2 : Nat}
    (e0 : xRr sh r1 8 0 a1)
    (e1 : xRr sh r0 8 0 a2)
    (k : xg d qPlane_count [.ref r1] (sh, I, J) (xI (fun v h1 => xG d zm_Plane_become (26, [some (.ref r0), some (.ref r1)], [.int v, .int 0, .ref a2, .int 0, .ref a1]) h1 Q) (fun x h1 => Q (.inr x) h1))) :
    xG d zm_Plane_become (12, [some (.ref r0), some (.ref r1)], []) (sh, I, J) Q := by
  obtain rfl := e0.eq
  obtain rfl := e1.eq
  exact xG_N 7 rfl ⟨e0.rf, e1.rf⟩ (xG_Ci rfl rfl (by decide) (by decide) ⟨_, _, rfl, e0.ob⟩ rfl k)
theorem s_Plane_become_26 {d : Nat} {Q : xO → xH → Prop} {sh : List xS} {I : Nat → Nat → Int32} {J : Nat → Nat → Int64} {r0 : Nat} {r1 : Nat} {t0 : Nat} {t1 : Int32} {t2 : Nat} {t3 : Int32} {t4 : Int32} {n1 : Nat} {n2 : Nat}
    (e0 : xAr sh t0 .int n1)
    (e1 : xAr sh t2 .int n2)
    (e2 : 4 ≤ t0)
    (e3 : 4 ≤ t2)
    (e4 : ¬ t1 < 0)
    (e5 : ¬ t3 < 0)
    (e6 : ¬ t4 < 0)
    (e7 : (t1 : Int32).toNatClampNeg + (t4 : Int32).toNatClampNeg ≤ n1)
    (e8 : (t3 : Int32).toNatClampNeg + (t4 : Int32).toNatClampNeg ≤ n2)
    (e9 : t0 ≠ t2)
    (k : Q (.inl (none)) (sh, xcpy I t0 (t1 : Int32).toNatClampNeg t2 (t3 : Int32).toNatClampNeg (t4 : Int32).toNatClampNeg, J)) :
    xG d zm_Plane_become (26, [some (.ref r0), some (.ref r1)], [.int t4, .int t3, .ref t2, .int t1, .ref t0]) (sh, I, J) Q := by
  obtain rfl := e0.eq
  obtain rfl := e1.eq
  exact xG_N 1 rfl ⟨(by decide), ⟨e0.ar, e2⟩, ⟨e1.ar, e3⟩, e4, e5, e6, e7, e8, e9⟩ (xG_Q rfl rfl trivial k)
