/-! write: class and reference. -/
theorem dpr_ag {D D' : Nat → Int32} {h b : Nat} (hd : ∀ j, j < 700 → j < (h + 7) / 8 → D j = D' j) : ∀ j, j < 700 → j < (h + 1 + 7) / 8 → dpr D h b j = dpr D' h b j := by
  intro j hj hj2
  unfold dpr
  by_cases e : h / 8 < 700
  · rw [if_pos e, if_pos e]
    unfold zup
    by_cases e2 : j = h / 8
    · rw [if_pos e2, if_pos e2]
      by_cases e3 : h % 8 = 0
      · rw [if_pos e3, if_pos e3]
      · rw [if_neg e3, if_neg e3, hd (h / 8) e (by omega)]
    · rw [if_neg e2, if_neg e2]
      exact hd j hj (by omega)
  · rw [if_neg e, if_neg e]
    exact hd j hj (by omega)
theorem dprs_ag : ∀ (bs : List Nat) (D D' : Nat → Int32) (h : Nat), (∀ j, j < 700 → j < (h + 7) / 8 → D j = D' j) → ∀ j, j < 700 → j < (h + bs.length + 7) / 8 → dprs D h bs j = dprs D' h bs j
  | [], D, D', h, hd, j, hj, hj2 => hd j hj hj2
  | b :: bs, D, D', h, hd, j, hj, hj2 => by
    show dprs (dpr D h b) (h + 1) bs j = dprs (dpr D' h b) (h + 1) bs j
    rw [List.length_cons] at hj2
    exact dprs_ag bs _ _ (h + 1) (dpr_ag hd) j hj (by rw [show h + 1 + bs.length + 7 = h + (bs.length + 1) + 7 by omega]; exact hj2)
theorem wk_0 (v1 v2 v3 : Int32) : (if hask (wks v1 v2 v3) 0 = true then nI 1 else nI 0) = (if v3 = -1 then nI 0 else nI 1) := by
  by_cases a1 : v1 = nI 0 <;> by_cases a2 : v2 = nI 0 <;> by_cases a3 : v3 = -1 <;> simp [wks, hask, a1, a2, a3]
theorem wk_1 (v1 v2 v3 : Int32) : (if hask (wks v1 v2 v3) 1 = true then nI 1 else nI 0) = nI 0 := by
  by_cases a1 : v1 = nI 0 <;> by_cases a2 : v2 = nI 0 <;> by_cases a3 : v3 = -1 <;> simp [wks, hask, a1, a2, a3]
theorem wk_2 (v1 v2 v3 : Int32) : (if hask (wks v1 v2 v3) 2 = true then nI 1 else nI 0) = (if v2 = nI 0 then nI 0 else nI 1) := by
  by_cases a1 : v1 = nI 0 <;> by_cases a2 : v2 = nI 0 <;> by_cases a3 : v3 = -1 <;> simp [wks, hask, a1, a2, a3]
theorem wk_3 (v1 v2 v3 : Int32) : (if hask (wks v1 v2 v3) 3 = true then nI 1 else nI 0) = (if v1 = nI 0 then nI 0 else nI 1) := by
  by_cases a1 : v1 = nI 0 <;> by_cases a2 : v2 = nI 0 <;> by_cases a3 : v3 = -1 <;> simp [wks, hask, a1, a2, a3]
section PW
variable {c : zC} {J : zK} {T : Nat → zJ → Prop} {w h n b cp ca : Nat} {v1 v2 v3 v4 : Int32}
theorem l_acc {P : Int32 → zJ → Prop} {I3 : zJ} (hb : b ≤ 4) (h49 : I3 49 1 = nI b) (h7 : I3 67 7 = nI cp) (h8 : I3 67 8 = nI ca) (hP : ∀ I4, (∀ a, a ≠ 82 → a ≠ 4 → I4 a = I3 a) → I4 4 9 = nI 1 → I4 82 = rowA (wks v1 v2 v3) b cp ca (I3 82) → P (I3 11 1) I4) :
    (v3 = (-1 : Int32) → ∀ I7 : zJ, I7 = xup (xup I3 82 (nI 0).toNatClampNeg (nI 0)) 82 1 (nI 0) → ((v2 = nI 0 → g_L_write_143 c J v1 (nI 2) I7 P T) ∧ (¬ (v2 = nI 0) → g_L_write_139 c J v1 (nI 2) I7 P T))) ∧ (¬ (v3 = (-1 : Int32)) → ∀ I5 : zJ, I5 = xup (xup I3 82 (nI 0).toNatClampNeg (nI 1)) 82 1 (nI 0) → ((v2 = nI 0 → g_L_write_143 c J v1 (nI 2) I5 P T) ∧ (¬ (v2 = nI 0) → g_L_write_139 c J v1 (nI 2) I5 P T))) := by
  have last : ∀ (x0 x2 x3 : Int32), x0 = (if v3 = -1 then nI 0 else nI 1) → x2 = (if v2 = nI 0 then nI 0 else nI 1) → x3 = (if v1 = nI 0 then nI 0 else nI 1) → ∀ I6, I6 = xup (xup (xup (xup I3 82 0 x0) 82 1 (nI 0)) 82 2 x2) 82 3 x3 → P ((xup (xup (xup (xup I6 82 4 (f_Cache_colourCount I6)) 82 5 (I6 67 7)) 82 6 (I6 67 8)) 4 9 (nI 1)) 11 1) (xup (xup (xup (xup I6 82 4 (f_Cache_colourCount I6)) 82 5 (I6 67 7)) 82 6 (I6 67 8)) 4 9 (nI 1)) := by
    intro x0 x2 x3 e0 e2 e3 I6 e6
    have k : ∀ a, a ≠ 82 → I6 a = I3 a := fun a ha => by rw [e6, xup_r ha, xup_r ha, xup_r ha, xup_r ha]
    have ec : f_Cache_colourCount I6 = nI (zcc b) := by
      unfold f_Cache_colourCount
      rw [k 49 (by decide), h49]
      have key2 : ∀ b, b < 5 → (if nI b = nI 0 then nI 0 else nI 1 <<< (nI b &&& 31)) = nI (zcc b) := by decide
      exact key2 b (by omega)
    rw [ec, k 67 (by decide), h7, h8]
    have e11 : (xup (xup (xup (xup I6 82 4 (nI (zcc b))) 82 5 (nI cp)) 82 6 (nI ca)) 4 9 (nI 1)) 11 1 = I3 11 1 := by
      rw [xup_k (by decide), xup_k (by decide), xup_k (by decide), xup_k (by decide), k 11 (by decide)]
    rw [e11]
    refine hP _ (fun a h4 h5 => ?_) xup_s ?_
    · rw [xup_r h5, xup_r h4, xup_r h4, xup_r h4]
      exact k a h4
    · funext j
      rw [xup_k (by decide)]
      unfold rowA
      by_cases e6' : j = 6
      · subst e6'; rw [xup_s]; rfl
      · rw [xup_i e6']
        by_cases e5 : j = 5
        · subst e5; rw [xup_s]; rfl
        · rw [xup_i e5]
          by_cases e4 : j = 4
          · subst e4; rw [xup_s]; rfl
          · rw [xup_i e4, e6]
            by_cases z3 : j < 4
            · rw [if_pos z3]
              rcases (by omega : j = 0 ∨ j = 1 ∨ j = 2 ∨ j = 3) with z | z | z | z <;> subst z
              · rw [wk_0, xup_i (by decide), xup_i (by decide), xup_i (by decide), xup_s]; exact e0
              · rw [wk_1, xup_i (by decide), xup_i (by decide), xup_s]
              · rw [wk_2, xup_i (by decide), xup_s]; exact e2
              · rw [wk_3, xup_s]; exact e3
            · rw [if_neg z3, if_neg e4, if_neg e5, if_neg e6', xup_i (by omega), xup_i (by omega), xup_i (by omega), xup_i (by omega)]
  have n0 : (nI 0).toNatClampNeg = 0 := nc (by decide)
  have n2 : (nI 2).toNatClampNeg = 2 := nc (by decide)
  have n3 : (nI 3).toNatClampNeg = 3 := nc (by decide)
  have go : ∀ x0, x0 = (if v3 = -1 then nI 0 else nI 1) → ((v2 = nI 0 → g_L_write_143 c J v1 (nI 2) (xup (xup I3 82 0 x0) 82 1 (nI 0)) P T) ∧ (¬ (v2 = nI 0) → g_L_write_139 c J v1 (nI 2) (xup (xup I3 82 0 x0) 82 1 (nI 0)) P T)) := by
    intro x0 hx0
    refine ⟨fun e2 => t_L_write_143 ?_, fun e2 => t_L_write_139 ?_⟩
    · rw [n2, n3]
      exact ⟨by unfold vp_in; decide, nm_e ⟨fun e1 => nm_e (nm_e (last x0 (nI 0) (nI 0) hx0 (by rw [if_pos e2]) (by rw [if_pos e1]) _ rfl)), fun e1 => nm_e (nm_e (last x0 (nI 0) (nI 1) hx0 (by rw [if_pos e2]) (by rw [if_neg e1]) _ rfl))⟩⟩
    · rw [n2, n3]
      exact ⟨by unfold vp_in; decide, nm_e ⟨fun e1 => nm_e (nm_e (last x0 (nI 1) (nI 0) hx0 (by rw [if_neg e2]) (by rw [if_pos e1]) _ rfl)), fun e1 => nm_e (nm_e (last x0 (nI 1) (nI 1) hx0 (by rw [if_neg e2]) (by rw [if_neg e1]) _ rfl))⟩⟩
  rw [n0]
  exact ⟨fun e => nm_e (go _ (by rw [if_pos e])), fun e => nm_e (go _ (by rw [if_neg e]))⟩
theorem p_write {I : zJ} (hp : pub I w h n) : c_L_write c J v1 v2 v3 v4 I (fun v I1 => ∀ c' J', c_M_write c' J' v1 v2 v3 v4 I1 (rOk v) nv) (fun e I1 => (e = 100 ∧ ∀ c' J', c_M_write c' J' v1 v2 v3 v4 I1 (rNo 1) nv) ∨ (e = 102 ∧ ∀ c' J', c_M_write c' J' v1 v2 v3 v4 I1 (rNo 2) nv)) := by
  obtain ⟨p1, p2, p3, p4, p5, p6, p7, p8, p9, p10, p11, p12, p13, p14, p15, p16, p17, p18, p19, p20⟩ := id hp
  have hwh : w * h ≤ 64 := Nat.mul_le_mul p2 p4
  have lt4 : ¬ v4 ≤ nI 4 → nI 4 < v4 := fun z => Int32.not_le.mp z
  have bad : ∀ {I1 : zJ}, pub I1 w h n → rNo 1 (nI 0) (xup I1 83 0 (nI 1)) := fun {I1} z => ⟨xup_s, w, h, n, pub_0 z⟩
  have nz : ∀ {I1 : zJ}, ¬ (xup I1 83 0 (nI 1)) 83 0 ≤ nI 0 := fun {I1} => by rw [xup_s]; decide
  refine t_L_write ⟨fun a1 => Or.inl ⟨rfl, fun c' J' => t_M_write (br_t a1 (nm_e (br_f nz (bad hp))))⟩, fun a1 => ⟨fun a2 => Or.inl ⟨rfl, fun c' J' => t_M_write (br_f a1 (br_t a2 (nm_e (br_f nz (bad hp)))))⟩, fun a2 => ⟨fun a3 => Or.inl ⟨rfl, fun c' J' => t_M_write (br_f a1 (br_f a2 (br_t a3 (nm_e (br_f nz (bad hp))))))⟩, fun a3 => ⟨fun a4 => ?_, fun a4 => Or.inl ⟨rfl, fun c' J' => t_M_write (br_f a1 (br_f a2 (br_f a3 (br_t (lt4 a4) (nm_e (br_f nz (bad hp)))))))⟩⟩⟩⟩⟩
  have a4' : ¬ nI 4 < v4 := fun z => Int32.not_le.mpr z a4
  have hv3 : v3 = -1 ∨ ∃ md, md < 14 ∧ v3 = nI md := by
    by_cases e : v3 < nI 0
    · left
      apply Int32.toInt_inj.mp
      have e1 : ¬ v3.toInt < (-1 : Int32).toInt := fun z => a1 (Int32.lt_iff_toInt_lt.mpr z)
      have e2 := Int32.lt_iff_toInt_lt.mp e
      rw [show (-1 : Int32).toInt = -1 from rfl] at e1 ⊢
      rw [show (nI 0).toInt = 0 from rfl] at e2
      omega
    · right
      obtain ⟨md, _, h13, e1⟩ := z_rng (lo := 0) (hi := 13) e a2 (by decide) (by decide)
      exact ⟨md, by omega, e1⟩
  obtain ⟨b, _, hb, rfl⟩ := z_rng (lo := 0) (hi := 4) a3 a4' (by decide) (by decide)
  have top : ∀ {c' : zC} {J' : zK} {I1 : zJ} {Q : Int32 → zJ → Prop}, I1 83 1 = nI w → I1 83 2 = nI h → I1 84 = I 6 → (¬ v1 = nI 0 → cntp (frs (I 6)) (w * h) ≤ 16) → g_M_write_53 c' J' v1 v2 v3 (nI b) (xup I1 83 0 (nI 0)) Q nv → c_M_write c' J' v1 v2 v3 (nI b) I1 Q nv := by
    intro c' J' I1 Q x1 x2 x84 hc g
    refine t_M_write (br_f a1 (br_f a2 (br_f a3 (br_f a4' ⟨fun e => nm_e (br_t (by rw [xup_s]; decide) g), fun e => ?_⟩))))
    have := hc e
    exact v_diff p2 p4 x1 x2 x84 (br_t (nI_le this (by decide)) (nm_e (br_t (by rw [xup_s]; decide) g)))
  have g63 : ∀ (I7 : zJ) (m : Nat), fr [81] I I7 → (v1 = nI 0 → m = 0) → (¬ v1 = nI 0 → 1 ≤ m ∧ srt (I 6) (w * h) (I7 81) m ∧ m = cntp (frs (I 6)) (w * h)) → m ≤ 16 → g_L_write_63 c J v1 v2 v3 (nI b) (nI m) I7 (fun v I1 => ∀ c' J', c_M_write c' J' v1 v2 v3 (nI b) I1 (rOk v) nv) (fun e I1 => (e = 100 ∧ ∀ c' J', c_M_write c' J' v1 v2 v3 (nI b) I1 (rNo 1) nv) ∨ (e = 102 ∧ ∀ c' J', c_M_write c' J' v1 v2 v3 (nI b) I1 (rNo 2) nv)) := by
    intro I7 m f7 hm0 hm1 hm16
    have hc16 : ¬ v1 = nI 0 → cntp (frs (I 6)) (w * h) ≤ 16 := fun z => by rw [← (hm1 z).2.2]; exact hm16
    refine t_L_write_63 (v_draft (px := I 6) (S := I7 81) p1 p2 p3 p4 hb hm16 hm0 (fun z => (hm1 z).1) hv3 ((f7 1 (by decide)).trans p17) (by rw [f7 5 (by decide)]; exact p6) (by rw [f7 5 (by decide)]; exact p7) (f7 6 (by decide)) rfl fun I2 e x49 x67 x68 => ?_)
    obtain ⟨hlen, hw18, hw10⟩ := wB_len (v1 := v1) (v2 := v2) (v3 := v3) (S := I7 81) (px := I 6) (w := w) (h := h) p1 p2 p4 hb hm16
    have W := fun (c' : zC) (J' : zK) (Q : Int32 → zJ → Prop) (I1 : zJ) => v_writeM (c := c') (J := J') (T := nv) (P := Q) (I := I1) (w := w) (h := h) (n := m) (b := b) (px := I 6) (S := I7 81) (v1 := v1) (v2 := v2) (v3 := v3) p1 p2 p4 p3 hb hm16 hm1 hv3
    generalize nkd (itms b (wpx v1 v2 v3 (I7 81) m w (I 6)) (wW v1 m w * h)) 1 = cp at x67 W
    generalize nkd (itms b (wpx v1 v2 v3 (I7 81) m w (I 6)) (wW v1 m w * h)) 2 = ca at x68 W
    generalize wB v1 v2 v3 b (I7 81) m w h (I 6) = bits at e hlen W
    have lo2 : ∀ a, a ≠ 11 → a ≠ 12 → a ≠ 81 → a ∉ wcS → I2 a = I a := fun a z1 z2 z3 z4 => (e.1 a z1 z2 z4).trans (f7 a (by simp; exact z3))
    have e7 : I2 11 1 = nI bits.length := by rw [e.2.2.1, Nat.zero_add]
    rw [e7, nI_add, pk_div (by omega) (by decide) (by decide)]
    generalize hBe : (bits.length + 7) / 8 = B at W
    refine pk_le B 700 (fun hL => ?_) (fun hL => Or.inr ⟨rfl, fun c' J' => ?_⟩)
    · rw [xmin_n (by omega) (by decide), Nat.min_eq_left hL, nc (n := B) (by omega), nc (n := 0) (by decide), pk_mul]
      refine ⟨nI_nlt (b := 0) (Nat.zero_le _) (by omega), by omega, by omega, by decide, nm_e ?_⟩
      have k3 : ∀ a, a ≠ 9 → a ≠ 10 → (xup (xcpy I2 (11 + 1) 0 (9 + 1) 0 B) 9 1 (nI (B * 8))) a = I2 a := by
        intro a z1 z2
        funext k
        rw [xup_k z1]
        unfold xcpy
        rw [if_neg (fun z => z2 z.1)]
      have k10 : ∀ j, (xup (xcpy I2 (11 + 1) 0 (9 + 1) 0 B) 9 1 (nI (B * 8))) 10 j = if j < B then I2 12 j else I2 10 j := by
        intro j
        rw [xup_k (by decide)]
        unfold xcpy
        by_cases ej : j < B
        · rw [if_pos ⟨rfl, Nat.zero_le _, by omega⟩, if_pos ej, Nat.zero_add, Nat.sub_zero]
        · rw [if_neg (fun z => ej (by have := z.2.2; omega)), if_neg ej]
      have k9 : (xup (xcpy I2 (11 + 1) 0 (9 + 1) 0 B) 9 1 (nI (B * 8))) 9 1 = nI (8 * B) := by rw [xup_s, Nat.mul_comm]
      generalize xup (xcpy I2 (11 + 1) 0 (9 + 1) 0 B) 9 1 (nI (B * 8)) = I3 at k3 k10 k9
      refine l_acc (cp := cp) (ca := ca) hb (by rw [k3 49 (by decide) (by decide)]; exact x49) (by rw [k3 67 (by decide) (by decide)]; exact x67) (by rw [k3 67 (by decide) (by decide)]; exact x68) fun I4 k4 x9 x82 c' J' => ?_
      have e11 : I3 11 1 = nI bits.length := by rw [k3 11 (by decide) (by decide)]; exact e7
      rw [e11]
      have lo : ∀ a, a ≠ 82 → a ≠ 4 → a ≠ 9 → a ≠ 10 → a ≠ 11 → a ≠ 12 → a ≠ 81 → a ∉ wcS → I4 a = I a := fun a z1 z2 z3 z4 z5 z6 z7 z8 => (k4 a z1 z2).trans ((k3 a z3 z4).trans (lo2 a z5 z6 z7 z8))
      have l83 := lo 83 (by decide) (by decide) (by decide) (by decide) (by decide) (by decide) (by decide) (by decide)
      have l84 := lo 84 (by decide) (by decide) (by decide) (by decide) (by decide) (by decide) (by decide) (by decide)
      have l105 := lo 105 (by decide) (by decide) (by decide) (by decide) (by decide) (by decide) (by decide) (by decide)
      refine top (by rw [l83]; exact p8) (by rw [l83]; exact p9) (by rw [l84]; exact p10) hc16 (W c' J' _ _ (by rw [xup_i (by decide), l83]; exact p8) (by rw [xup_i (by decide), l83]; exact p9) (by rw [xup_r (by decide), l84]; exact p10) (fun k hk => by rw [xup_k (by decide), l105]; exact p20 k hk) (fun _ I5 F y0 y5 y85 y34 y104 => ?_) (fun z => absurd (by omega : bits.length ≤ 5600) z))
      have l5 : ∀ a, a < 83 → I5 a = I4 a := fun a ha => by rw [F.1 a (by omega) (by simp; omega), xup_r (by omega)]
      refine ⟨y0, rfl, w, h, B, p1, p2, p3, p4, hL, ?_, ?_, ?_, ?_, ?_, ?_, y5, ?_, ?_, ?_, ?_, ?_, ?_, ?_, fun k hk => ?_⟩
      · rw [l5 5 (by decide), lo 5 (by decide) (by decide) (by decide) (by decide) (by decide) (by decide) (by decide) (by decide)]; exact p6
      · rw [l5 5 (by decide), lo 5 (by decide) (by decide) (by decide) (by decide) (by decide) (by decide) (by decide) (by decide)]; exact p7
      · rw [F.2 1 (by decide), xup_i (by decide), l83]; exact p8
      · rw [F.2 2 (by decide), xup_i (by decide), l83]; exact p9
      · rw [F.1 84 (by decide) (by decide), xup_r (by decide), l84, l5 6 (by decide), lo 6 (by decide) (by decide) (by decide) (by decide) (by decide) (by decide) (by decide) (by decide)]; exact p10
      · rw [l5 9 (by decide), k4 9 (by decide) (by decide)]; exact k9
      · funext j
        rw [y85 j, l5 10 (by decide), k4 10 (by decide) (by decide), k10 j]
        by_cases ej : j < B
        · rw [if_pos ej, if_pos ej, e.2.2.2]
          exact dprs_ag bits _ _ 0 (fun j _ z => absurd z (by omega)) j (by omega) (by omega)
        · rw [if_neg ej, if_neg ej, xup_k (by decide), lo 85 (by decide) (by decide) (by decide) (by decide) (by decide) (by decide) (by decide) (by decide), lo2 10 (by decide) (by decide) (by decide) (by decide), p13]
      · rw [l5 4 (by decide)]; exact Or.inr x9
      · rw [y34, l5 4 (by decide), x9]
      · rw [y104, l5 82 (by decide), x82, xup_r (by decide), lo 104 (by decide) (by decide) (by decide) (by decide) (by decide) (by decide) (by decide) (by decide), k3 82 (by decide) (by decide), lo2 82 (by decide) (by decide) (by decide) (by decide), p16]
      · rw [l5 1 (by decide), lo 1 (by decide) (by decide) (by decide) (by decide) (by decide) (by decide) (by decide) (by decide)]; exact p17
      · rw [l5 2 (by decide), lo 2 (by decide) (by decide) (by decide) (by decide) (by decide) (by decide) (by decide) (by decide)]; exact p18
      · rw [l5 3 (by decide), lo 3 (by decide) (by decide) (by decide) (by decide) (by decide) (by decide) (by decide) (by decide)]; exact p19
      · rw [F.1 105 (by decide) (by decide), xup_r (by decide), l105]; exact p20 k hk
    · have l83 := lo2 83 (by decide) (by decide) (by decide) (by decide)
      have l84 := lo2 84 (by decide) (by decide) (by decide) (by decide)
      have l105 := lo2 105 (by decide) (by decide) (by decide) (by decide)
      refine top (by rw [l83]; exact p8) (by rw [l83]; exact p9) (by rw [l84]; exact p10) hc16 (W c' J' _ _ (by rw [xup_i (by decide), l83]; exact p8) (by rw [xup_i (by decide), l83]; exact p9) (by rw [xup_r (by decide), l84]; exact p10) (fun k hk => by rw [xup_k (by decide), l105]; exact p20 k hk) (fun z => absurd z (by omega)) (fun _ I5 F y0 y5 y34 y85 y104 => ?_))
      have l5 : ∀ a, a < 83 → I5 a = I2 a := fun a ha => by rw [F.1 a (by omega) (by simp; omega), xup_r (by omega)]
      have l6 : ∀ a, a < 83 → a ≠ 11 → a ≠ 12 → a ≠ 81 → a ∉ wcS → I5 a = I a := fun a z0 z1 z2 z3 z4 => (l5 a z0).trans (lo2 a z1 z2 z3 z4)
      refine ⟨y0, w, h, n, p1, p2, p3, p4, p5, ?_, ?_, ?_, ?_, ?_, ?_, ?_, ?_, ?_, ?_, ?_, ?_, ?_, ?_, fun k hk => ?_⟩
      · rw [l6 5 (by decide) (by decide) (by decide) (by decide) (by decide)]; exact p6
      · rw [l6 5 (by decide) (by decide) (by decide) (by decide) (by decide)]; exact p7
      · rw [F.2 1 (by decide), xup_i (by decide), l83]; exact p8
      · rw [F.2 2 (by decide), xup_i (by decide), l83]; exact p9
      · rw [F.1 84 (by decide) (by decide), xup_r (by decide), l84, l6 6 (by decide) (by decide) (by decide) (by decide) (by decide)]; exact p10
      · rw [l6 9 (by decide) (by decide) (by decide) (by decide) (by decide)]; exact p11
      · rw [y5, xup_i (by decide), l83]; exact p12
      · rw [y85, xup_r (by decide), lo2 85 (by decide) (by decide) (by decide) (by decide), l6 10 (by decide) (by decide) (by decide) (by decide) (by decide)]; exact p13
      · rw [l6 4 (by decide) (by decide) (by decide) (by decide) (by decide)]; exact p14
      · rw [y34, xup_i (by decide), l83, l6 4 (by decide) (by decide) (by decide) (by decide) (by decide)]; exact p15
      · rw [y104, xup_r (by decide), lo2 104 (by decide) (by decide) (by decide) (by decide), l6 82 (by decide) (by decide) (by decide) (by decide) (by decide)]; exact p16
      · rw [l6 1 (by decide) (by decide) (by decide) (by decide) (by decide)]; exact p17
      · rw [l6 2 (by decide) (by decide) (by decide) (by decide) (by decide)]; exact p18
      · rw [l6 3 (by decide) (by decide) (by decide) (by decide) (by decide)]; exact p19
      · rw [F.1 105 (by decide) (by decide), xup_r (by decide), l105]; exact p20 k hk
  refine ⟨fun ev => br_t (by decide) (g63 I 0 fr_0 (fun _ => rfl) (fun z => absurd ev z) (by decide)), fun ev => ?_⟩
  refine v_gather p2 p4 p6 p7 rfl fun m I7 f7 hs hm => ?_
  have hm64 : m ≤ 64 := by rw [hm]; exact Nat.le_trans (cntp_le _ _) hwh
  have h1 : 1 ≤ m := by
    obtain ⟨k, hk, _⟩ := hs.2.1 0 (Nat.mul_pos p1 p3)
    omega
  refine pk_le m 16 (fun e => g63 I7 m f7 (fun z => absurd z ev) (fun _ => ⟨h1, hs, hm⟩) e) (fun e => Or.inl ⟨rfl, fun c' J' => ?_⟩)
  have hp7 := pub_81 hp f7
  obtain ⟨_, _, _, _, _, q6, q7, q8, q9, q10, _⟩ := id hp7
  refine t_M_write (br_f a1 (br_f a2 (br_f a3 (br_f a4' (br_f ev (v_diff (px := I 6) p2 p4 q8 q9 (q10.trans (f7 6 (by decide))) (br_f ?_ (nm_e (br_f nz (bad hp7))))))))))
  rw [← hm]
  exact nI_ge (by omega) (by omega)
end PW
