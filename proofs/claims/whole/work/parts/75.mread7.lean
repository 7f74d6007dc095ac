/-! THE REFERENCE READS: from the first bit to the last. -/
section MRE
variable {c : zC} {J : zK} {n : Nat} {B : Nat → Int32} {T : Nat → zJ → Prop}
/-- no stream: eight bits are none -/
theorem v_bits0 {P : Int32 → zJ → Prop} {I : zJ} (hs : mst I B 0) (h8 : I 83 8 = nI 0) (hP : P (nI 0) (xup I 83 9 (nI 1))) : c_M_bits c J (nI 8) I P T := by
  have key : ∀ (m i : Nat) (I2 : zJ), i + m = 8 → mst I2 B 0 → I2 83 8 = nI 0 → (i = 8 → P (nI 0) I2) → (i < 8 → P (nI 0) (xup I2 83 9 (nI 1))) → g_M_bits_4 c J (nI 8) (nI 0) (nI i) I2 P T := by
    intro m
    induction m with
    | zero =>
      intro i I2 hi h1 h2 h3 h4
      obtain rfl : i = 8 := by omega
      exact t_M_bits_4 (br_t (by decide) (h3 rfl))
    | succ m ih =>
      intro i I2 hi h1 h2 h3 h4
      refine t_M_bits_4 (br_f (nI_ge (by omega) (by decide)) (v_M_bit h1 rfl h2 (Nat.le_refl _) (fun z => absurd z (by omega)) (fun _ => ?_)))
      rw [z_bit (m := 0) (b := 0) (Nat.two_pow_pos _) (by omega) (by omega), nI_add, Nat.zero_mul, Nat.add_zero]
      refine ih (i + 1) _ (by omega) (mst_f h1 (by decide)) (by rw [xup_i (by decide)]; exact h2) (fun _ => h4 (by omega)) (fun _ => by rw [xup_2]; exact h4 (by omega))
  exact t_M_bits (key 8 0 I (by decide) hs h8 (fun z => absurd z (by decide)) (fun _ => hP))
set_option maxHeartbeats 2000000 in
theorem m_read {P : Int32 → zJ → Prop} {I : zJ} (hs : mst I B n)
    (hG : ∀ w h f ks b cp ca q I1, pRead B (8 * n) = some (w, h, f, ks, b, cp, ca, q) → mf (mrS ++ [84, 104]) (mrF ++ [1, 2, 34]) I I1 → I1 83 0 = nI 0 → I1 83 1 = nI w → I1 83 2 = nI h → I1 84 = rowP f (I 84) (w * h) → I1 83 34 = nI 1 → I1 104 = rowA ks b cp ca (I 104) → P (nI q) I1)
    (hX : ∀ v I1, pRead B (8 * n) = none → mf mrS mrF I I1 → I1 83 0 = nI 1 → P v I1) : c_M_read c J I P T := by
  have hn := hs.1
  -- behind a fault
  have b91 : ∀ {v1 v2 : Int32} {I2 : zJ} {p : Nat}, pRead B (8 * n) = none → mf mtS mtF I I2 → mrs I2 B n p 1 → g_M_read_91 c J v1 v2 I2 P T := by
    intro v1 v2 I2 p hN f2 r2
    refine t_M_read_91 (br_f (by rw [r2.2.2.2.1]; decide) (nm_e (br_f (by rw [xup_i (by decide), r2.2.2.2.1]; decide) (hX _ _ hN (mf_f (mf_s f2 (by decide) (by decide)) (by decide)) xup_s))))
  have b78 : ∀ {v1 v2 v3 : Int32} {I2 : zJ} {p : Nat}, pRead B (8 * n) = none → mf mtS mtF I I2 → mrs I2 B n p 1 → g_M_read_78 c J v1 v2 v3 I2 P T := fun hN f2 r2 => t_M_read_78 (br_f (by rw [r2.2.2.2.1]; decide) (b91 hN f2 r2))
  have b53 : ∀ {v1 v2 v3 : Int32} {I2 : zJ} {p : Nat}, pRead B (8 * n) = none → mf mtS mtF I I2 → mrs I2 B n p 1 → g_M_read_53 c J v1 v2 v3 I2 P T := fun hN f2 r2 => t_M_read_53 (br_f (by rw [r2.2.2.2.1]; decide) (b78 hN f2 r2))
  have b40 : ∀ {t : Int32} {I2 : zJ} {p : Nat}, pRead B (8 * n) = none → mf mtS mtF I I2 → mrs I2 B n p 1 → g_M_read_40 c J t I2 P T := by
    intro t I2 p hN f2 r2
    refine t_M_read_40 (m_bitsb r2 (by decide) fun v q b1 I3 o3 g3 r3 f3 => ?_)
    obtain rfl : b1 = 1 := o3.elim (fun y => absurd y.2.1 (by decide)) (fun y => y.1)
    exact b53 hN (mf_t f2 (mf_s f3 (by decide) (by decide))) r3
  have bst : ∀ {I2 : zJ} {p : Nat}, pRead B (8 * n) = none → mf mtS mtF I I2 → mrs I2 B n p 1 → c_M_bits c J (nI 3) I2 (fun y7 I6 => g_M_read_40 c J y7 I6 P T) T := by
    intro I2 p hN f2 r2
    refine m_bitsb r2 (by decide) fun v q b1 I3 o3 g3 r3 f3 => ?_
    obtain rfl : b1 = 1 := o3.elim (fun y => absurd y.2.1 (by decide)) (fun y => y.1)
    exact b40 hN (mf_t f2 (mf_s f3 (by decide) (by decide))) r3
  have f0 : mf mtS mtF I (xup (xup (xup I 83 8 (nI 0)) 83 9 (nI 0)) 83 22 (nI 0)) := mf_f (mf_f (mf_f mf_0 (by decide)) (by decide)) (by decide)
  have r0 : mrs (xup (xup (xup I 83 8 (nI 0)) 83 9 (nI 0)) 83 22 (nI 0)) B n 0 0 := ⟨mst_f (mst_f (mst_f hs (by decide)) (by decide)) (by decide), by rw [xup_i (by decide), xup_i (by decide), xup_s], Nat.zero_le _, by rw [xup_i (by decide), xup_s], by decide⟩
  have t0 : (xup (xup (xup I 83 8 (nI 0)) 83 9 (nI 0)) 83 22 (nI 0)) 83 22 = nI 0 := xup_s
  refine t_M_read ?_
  generalize xup (xup (xup I 83 8 (nI 0)) 83 9 (nI 0)) 83 22 (nI 0) = I0 at f0 r0 t0
  by_cases en : n = 0
  · subst en
    have hN : pRead B (8 * 0) = none := by
      have : pNum B (8 * 0) 8 0 = none := if_neg (by decide)
      simp only [pRead, this]
    refine v_bits0 r0.1 r0.2.1 (br_f (by decide) (bst (p := 0) hN ?_ ?_))
    · exact mf_f (mf_f f0 (by decide)) (by decide)
    · rw [xup_2]
      exact ⟨mst_f r0.1 (by decide), by rw [xup_i (by decide)]; exact r0.2.1, Nat.zero_le _, xup_s, by decide⟩
  · have e8 : pNum B (8 * n) 8 0 = some (num B 0 8, 8) := if_pos (by omega)
    refine m_bitsb r0 (by decide) fun m p1 b1 I1 o1 g1 r1 f1 => ?_
    obtain ⟨rfl, e1⟩ : b1 = 0 ∧ pNum B (8 * n) 8 0 = some (m, p1) := o1.elim (fun y => ⟨y.1, y.2.2⟩) (fun y => y.2.elim (fun z => absurd z (by decide)) (fun z => by rw [e8] at z; cases z.2))
    have f1' : mf mtS mtF I I1 := mf_t f0 (mf_s f1 (by decide) (by decide))
    refine pk_eq m 47 (fun em => ?_) (fun em => bst (p := p1) (by simp only [pRead, e1, if_neg em]) (mf_f f1' (by decide)) ⟨mst_f r1.1 (by decide), by rw [xup_i (by decide)]; exact r1.2.1, r1.2.2.1, xup_s, by decide⟩) rfl rfl (by omega)
    rw [xup_id r1.2.2.2.1]
    refine m_bitsb r1 (by decide) fun w p2 b2 I2 o2 g2 r2 f2 => t_M_read_40 (m_bitsb r2 (by decide) fun h p3 b3 I3 o3 g3 r3 f3 => ?_)
    rw [nI_add, nI_add]
    have f3' : mf mtS mtF I I3 := mf_t f1' (mf_t (mf_s f2 (by decide) (by decide)) (mf_s f3 (by decide) (by decide)))
    by_cases eb : b3 = 0
    · subst eb
      obtain ⟨_, rfl, e3⟩ : (0 : Nat) = 0 ∧ b2 = 0 ∧ pNum B (8 * n) 3 p2 = some (h, p3) := o3.elim id (fun y => absurd y.1 (by decide))
      have e2 : pNum B (8 * n) 3 p1 = some (w, p2) := o2.elim (fun y => y.2.2) (fun y => absurd y.1 (by decide))
      have t3 : I3 83 22 = nI 0 := by rw [f3.2 22 (by decide), f2.2 22 (by decide), f1.2 22 (by decide)]; exact t0
      refine l_m53 (w0 := w + 1) (h := h + 1) (F0 := pTrs B (8 * n) (h + 1) 5 ([], (fun _ => 0), (fun _ => 0), (fun _ => 0), 0) (w + 1) p3) (by omega) (by omega) (fun s w1 q b4 V I4 o4 f4 r4 g4 => ?_) 5 ([], (fun _ => 0), (fun _ => 0), (fun _ => 0), 0) (w + 1) p3 I3 rfl mf_0 r3 ⟨t3, fun i q hq => by simp at hq, fun q hq => by simp at hq⟩ ⟨by simp, fun q hq => by simp at hq, rfl, by omega, by omega⟩ rfl
      have f4' : mf mtS mtF I I4 := mf_t f3' f4
      by_cases eb4 : b4 = 0
      · subst eb4
        have e4 : pTrs B (8 * n) (h + 1) 5 ([], (fun _ => 0), (fun _ => 0), (fun _ => 0), 0) (w + 1) p3 = some (s, w1, q) := o4.elim (fun y => y.2.2) (fun y => absurd y.1 (by decide))
        obtain ⟨rfl, m4, t4⟩ := g4 rfl
        have hw1 := t4.2.2.2.1
        have hw8 := t4.2.2.2.2
        have hb64 : w1 * (h + 1) ≤ 64 := Nat.mul_le_mul hw8 (show h + 1 ≤ 8 by omega)
        refine t_M_read_78 (br_t r4.2.2.2.1 (m_img (tot := w1 * (h + 1)) hw1 (by omega) (by omega) rfl hb64 r4 fun f b cp ca q5 b5 I5 o5 f5 r5 g5 => ?_))
        have f5' : mf mtS mtF I I5 := mf_t f4' (mf_s f5 (by decide) (by decide))
        by_cases eb5 : b5 = 0
        · subst eb5
          have e5 : pImg B (8 * n) w1 (w1 * (h + 1)) q = some (f, b, cp, ca, q5) := o5.elim (fun y => y.2.2) (fun y => absurd y.1 (by decide))
          obtain ⟨y91, yb, y19, y17, y18⟩ := g5 rfl
          have m5 : mtr I5 s (h + 1) := mtr_mf m4 f5 (by decide) (by decide) (by decide) (by decide) (by decide) (by decide) (by decide)
          refine t_M_read_91 (br_t r5.2.2.2.1 (nm_e (br_t (by rw [xup_i (by decide)]; exact r5.2.2.2.1) (t_M_read_116 ?_))))
          have fI6 : mf [] [0] I5 (xup I5 83 0 (nI 0)) := mf_f mf_0 (by decide)
          have z0 : (xup I5 83 0 (nI 0)) 83 0 = nI 0 := xup_s
          generalize xup I5 83 0 (nI 0) = I6 at fI6 z0
          have m6 : mtr I6 s (h + 1) := mtr_mf m5 fI6 (by decide) (by decide) (by decide) (by decide) (by decide) (by decide) (by decide)
          refine v_note (ks := s.1) (b := b) (cp := cp) (ca := ca) m6.1 (fun i q hq => (m6.2.1 i q hq).1) (fun q hq => (t4.2.1 q hq).1) (tok_le t4) ((fI6.2 19 (by decide)).trans y19) ((fI6.2 17 (by decide)).trans y17) ((fI6.2 18 (by decide)).trans y18) fun I7 f7 y34 y104 => ?_
          have m7 : mtr I7 s (h + 1) := mtr_mf m6 f7 (by decide) (by decide) (by decide) (by decide) (by decide) (by decide) (by decide)
          rw [m7.1]
          have g7 : ∀ j, j < w1 * (h + 1) → I7 91 j = f j := fun j hj => by rw [f7.1 91 (by decide) (by decide), fI6.1 91 (by decide) (by decide)]; exact y91 j hj
          refine m_undoL (s := s) (w0 := w + 1) (F := undo s (h + 1) s.1 f) (by omega) (by omega) (fun I8 f8 y8 => ?_) s.1.length s.1 w1 f I7 rfl (tok_le t4) t4.2.2.1 t4.2.1 m7.2.1 m7.2.2 fr_0 g7 rfl
          have fI9 : mf [] [1, 2] I8 (xup (xup I8 83 1 (nI (w + 1))) 83 2 (nI (h + 1))) := mf_f (mf_f mf_0 (by decide)) (by decide)
          have z1 : (xup (xup I8 83 1 (nI (w + 1))) 83 2 (nI (h + 1))) 83 1 = nI (w + 1) := by rw [xup_i (by decide), xup_s]
          have z2 : (xup (xup I8 83 1 (nI (w + 1))) 83 2 (nI (h + 1))) 83 2 = nI (h + 1) := xup_s
          generalize xup (xup I8 83 1 (nI (w + 1))) 83 2 (nI (h + 1)) = I9 at fI9 z1 z2
          have f8' : mf mrS [] I7 I8 := ⟨fun a h1 h2 => f8 a (fun z => h2 (by simp at z ⊢; omega)), fun g _ => congrFun (f8 83 (by decide)) g⟩
          refine l_m171 (f := undo s (h + 1) s.1 f) (by omega) (by omega) (fun j hj => by rw [fI9.1 91 (by decide) (by decide)]; exact y8 j hj) (fun I10 f10 y10 => ?_) ((w + 1) * (h + 1)) 0 I9 (by omega) fr_0 (fun j hj => absurd hj (by omega)) (fun _ _ => rfl)
          have fa : mf (mrS ++ [84, 104]) (mrF ++ [1, 2, 34]) I I9 := mf_t (mf_s f5' (by decide) (by decide)) (mf_t (mf_s fI6 (by decide) (by decide)) (mf_t (mf_s f7 (by decide) (by decide)) (mf_t (mf_s f8' (by decide) (by decide)) (mf_s fI9 (by decide) (by decide)))))
          have f10' : mf (mrS ++ [84, 104]) (mrF ++ [1, 2, 34]) I9 I10 := ⟨fun a h1 h2 => f10 a (fun z => h2 (by simp at z ⊢; omega)), fun g _ => congrFun (f10 83 (by decide)) g⟩
          have r83 : ∀ g, I10 83 g = I9 83 g := fun g => congrFun (f10 83 (by decide)) g
          have e83 : I9 83 8 = nI q5 := by rw [fI9.2 8 (by decide), f8'.2 8 (by decide), f7.2 8 (by decide), fI6.2 8 (by decide)]; exact r5.2.1
          rw [e83]
          refine hG (w + 1) (h + 1) (undo s (h + 1) s.1 f) s.1 b cp ca q5 I10 (by simp only [pRead, e1, if_pos em, e2, e3, e4, e5]) (mf_t fa f10') ?_ ?_ ?_ ?_ ?_ ?_
          · rw [r83, fI9.2 0 (by decide), f8'.2 0 (by decide), f7.2 0 (by decide)]; exact z0
          · rw [r83]; exact z1
          · rw [r83]; exact z2
          · rw [y10, fI9.1 84 (by decide) (by decide), f8 84 (by decide), f7.1 84 (by decide) (by decide), fI6.1 84 (by decide) (by decide), f5'.1 84 (by decide) (by decide)]
          · rw [r83, fI9.2 34 (by decide), f8'.2 34 (by decide)]; exact y34
          · rw [f10 104 (by decide), fI9.1 104 (by decide) (by decide), f8 104 (by decide), y104, fI6.1 104 (by decide) (by decide), f5'.1 104 (by decide) (by decide)]
        · obtain rfl : b5 = 1 := by have := r5.2.2.2.2; omega
          have e5 : pImg B (8 * n) w1 (w1 * (h + 1)) q = none := (o5.elim (fun y => absurd y.1 (by decide)) (fun y => y.2)).elim (fun z => absurd z (by decide)) (fun z => z.2)
          exact b91 (by simp only [pRead, e1, if_pos em, e2, e3, e4, e5]) f5' r5
      · obtain rfl : b4 = 1 := by have := r4.2.2.2.2; omega
        have e4 : pTrs B (8 * n) (h + 1) 5 ([], (fun _ => 0), (fun _ => 0), (fun _ => 0), 0) (w + 1) p3 = none := (o4.elim (fun y => absurd y.1 (by decide)) (fun y => y.2)).elim (fun z => absurd z (by decide)) (fun z => z.2)
        exact b78 (by simp only [pRead, e1, if_pos em, e2, e3, e4]) f4' r4
    · obtain rfl : b3 = 1 := by have := r3.2.2.2.2; omega
      refine b53 ?_ f3' r3
      rcases o2 with ⟨rfl, _, e2⟩ | ⟨rfl, o2⟩
      · have e3 : pNum B (8 * n) 3 p2 = none := (o3.elim (fun y => absurd y.1 (by decide)) (fun y => y.2)).elim (fun z => absurd z (by decide)) (fun z => z.2)
        simp only [pRead, e1, if_pos em, e2, e3]
      · have e2 : pNum B (8 * n) 3 p1 = none := o2.elim (fun z => absurd z (by decide)) (fun z => z.2)
        simp only [pRead, e1, if_pos em, e2]
end MRE
