/-! THE CLASS READS: all of it. -/
abbrev rdS : List Nat := trS ++ [7, 8]
/-- the picture's row and the account's behind a reading -/
def rowP (f old : Nat → Int32) (t : Nat) : Nat → Int32 := fun j => if j < t then f j else old j
def rowA (ks : List (Nat × Nat)) (b cp ca : Nat) (old : Nat → Int32) : Nat → Int32 := fun j => if j < 4 then (if hask ks j = true then nI 1 else nI 0) else if j = 4 then nI (zcc b) else if j = 5 then nI cp else if j = 6 then nI ca else old j
section CS
variable {c : zC} {J : zK} {N : Nat} {B : Nat → Int32} {T : Nat → zJ → Prop}
/-- what is left alone by a reading, but for the picture and the account -/
def rdK (I I1 : zJ) : Prop := (∀ a, 83 ≤ a → I1 a = I a) ∧ (∀ f, f ≠ 2 → I1 9 f = I 9 f) ∧ I1 10 = I 10 ∧ I1 1 = I 1 ∧ I1 2 = I 2 ∧ I1 3 = I 3
theorem rdK_cf {I I1 : zJ} (h : cf rdS I I1) : rdK I I1 := by
  refine ⟨fun a ha => h.1 a (by omega) ?_, h.2, h.1 10 (by decide) (by decide), h.1 1 (by decide) (by decide), h.1 2 (by decide) (by decide), h.1 3 (by decide) (by decide)⟩
  simp
  omega
set_option maxHeartbeats 1000000 in
/-- transforms from the ith on -/
theorem l_read75 {P : Int32 → zJ → Prop} {I0 : zJ} {w0 h : Nat} {F0 : Option (zTr × Nat × Nat)} (hh1 : 1 ≤ h) (hh : h ≤ 8)
    (hE : ∀ s w q I1, F0 = some (s, w, q) → cf rdS I0 I1 → cst I1 B N q → ctr I1 s h → tok s w0 w → I1 7 1 = nI w → I1 7 2 = nI h → g_L_read_133 c J I1 P T) (hT : ∀ I1, F0 = none → cf rdS I0 I1 → T 100 I1) :
    ∀ (k i : Nat) (s : zTr) (w p : Nat) (I : zJ), i + k = 5 → s.1.length = i → cf rdS I0 I → cst I B N p → ctr I s h → tok s w0 w → I 7 1 = nI w → I 7 2 = nI h → pTrs B N h k s w p = F0 → g_L_read_75 c J (nI i) I P T := by
  intro k
  induction k with
  | zero =>
    intro i s w p I hi hl hf hst hc ht h1 h2 hF
    have := tok_le ht
    omega
  | succ k ih =>
    intro i s w p I hi hl hf hst hc ht h1 h2 hF
    have hl4 := tok_le ht
    refine t_L_read_75 (br_f (nI_nlt (by omega) (by omega)) (r_bit hst (fun b p1 e1 g1 q1 => ?_) (fun e1 => hT I (by rw [← hF]; simp only [pTrs, e1]) hf)))
    have s1 := cst_q hst q1
    have f1 : cf rdS I0 (xup I 9 2 (nI p1)) := cf_p hf
    have c1 : ctr (xup I 9 2 (nI p1)) s h := by
      obtain ⟨y1, y2, y3⟩ := hc
      exact ⟨by rw [xup_k (by decide)]; exact y1, fun i q hq => by rw [xup_k (by decide)]; exact y2 i q hq, fun q hq => tcl_r (y3 q hq) (xup_k (by decide)) (xup_r (by decide)) (xup_r (by decide)) (xup_r (by decide)) (xup_r (by decide)) (xup_r (by decide)) (xup_r (by decide))⟩
    have a1 : (xup I 9 2 (nI p1)) 7 1 = nI w := by rw [xup_k (by decide)]; exact h1
    have a2 : (xup I 9 2 (nI p1)) 7 2 = nI h := by rw [xup_k (by decide)]; exact h2
    refine pk_eq b 1 (fun eb => ?_) (fun eb => hE s w p1 _ (by rw [← hF]; simp only [pTrs, e1, if_neg eb]) f1 s1 c1 ht a1 a2)
    rw [a1, a2, nI_add]
    refine r_take ht hh1 hh c1 s1 (fun s2 w2 q I1 e2 f2 st2 c2 t2 => ?_) (fun I1 e2 f2 => hT I1 (by rw [← hF]; simp only [pTrs, e1, if_pos eb, e2]) (cf_t f1 (cf_s f2 (by decide))))
    have hl2 : s2.1.length = i + 1 := by
      have : ∃ x, s2.1 = s.1 ++ [x] := by
        clear ih hF hE hT
        unfold pTake at e2
        revert e2
        cases pNum B N 2 p1 with
        | none => intro z; cases z
        | some r =>
          obtain ⟨kd, p2⟩ := r
          dsimp only
          by_cases z1 : hask s.1 kd = true
          · rw [if_pos z1]; intro z; cases z
          · rw [if_neg z1]
            by_cases z2 : kd = 2
            · rw [if_pos z2]; intro z; injection z with z; injection z with z _; exact ⟨_, by rw [← z]⟩
            · rw [if_neg z2]
              by_cases z3 : kd = 3
              · rw [if_pos z3]
                cases pNum B N 4 p2 with
                | none => intro z; cases z
                | some r =>
                  obtain ⟨m, p3⟩ := r
                  dsimp only
                  cases pImg B N (m + 1) (m + 1) p3 with
                  | none => intro z; cases z
                  | some r =>
                    obtain ⟨f, a, b, d, p4⟩ := r
                    intro z; injection z with z; injection z with z _; exact ⟨_, by rw [← z]⟩
              · rw [if_neg z3]
                cases pImg B N (bl w) (bl w * bl h) p2 with
                | none => intro z; cases z
                | some r =>
                  obtain ⟨f, a, b, d, p4⟩ := r
                  dsimp only
                  by_cases z4 : kd = 0
                  · rw [if_pos z4]; intro z; injection z with z; injection z with z _; exact ⟨_, by rw [← z]⟩
                  · rw [if_neg z4]; intro z; injection z with z; injection z with z _; exact ⟨_, by rw [← z]⟩
      obtain ⟨x, hx⟩ := this
      rw [hx, List.length_append, hl]
      rfl
    have r7 : I1 7 = (xup I 9 2 (nI p1)) 7 := f2.1 7 (by decide) (by decide)
    refine ih (i + 1) s2 w2 q (xup I1 7 1 (nI w2)) (by omega) hl2 (cf_u (cf_t f1 (cf_s f2 (by decide))) (by decide) (by decide)) ?_ ?_ t2 xup_s ?_ ?_
    · exact cst_a st2 (xup_r (by decide)) (xup_r (by decide)) (xup_r (by decide)) (xup_r (by decide)) (xup_r (by decide))
    · obtain ⟨y1, y2, y3⟩ := c2
      exact ⟨by rw [xup_k (by decide)]; exact y1, fun i q hq => by rw [xup_k (by decide)]; exact y2 i q hq, fun q hq => tcl_r (y3 q hq) (xup_k (by decide)) (xup_r (by decide)) (xup_r (by decide)) (xup_r (by decide)) (xup_r (by decide)) (xup_r (by decide)) (xup_r (by decide))⟩
    · rw [xup_i (by decide), r7]; exact a2
    · rw [← hF]; simp only [pTrs, e1, if_pos eb, e2]
/-- the account -/
theorem l_read172 {P : Int32 → zJ → Prop} {I0 : zJ} {ks : List (Nat × Nat)} {b cp ca q : Nat} (hb : b ≤ 4) (h1 : I0 51 5 = nI ks.length) (h2 : ∀ i q, ks[i]? = some q → I0 52 i = nI q.1) (h3 : ∀ q, q ∈ ks → q.1 < 4) (hl : ks.length ≤ 4) (h49 : I0 49 1 = nI b) (h593 : I0 59 3 = nI cp) (h594 : I0 59 4 = nI ca) (h92 : I0 9 2 = nI q)
    (hP : ∀ I1, (∀ a, a ≠ 82 → a ≠ 4 → I1 a = I0 a) → I1 4 9 = nI 1 → I1 82 = rowA ks b cp ca (I0 82) → P (nI q) I1) :
    ∀ (n i : Nat) (I : zJ), i + n = 4 → fr [82] I0 I → (∀ j, j < i → I 82 j = if hask ks j = true then nI 1 else nI 0) → (∀ j, i ≤ j → I 82 j = I0 82 j) → g_L_read_172 c J (nI i) I P T := by
  intro n
  induction n with
  | zero =>
    intro i I hi hf ha hb2
    obtain rfl : i = 4 := by omega
    refine t_L_read_172 (br_t (by decide) (nm_e ?_))
    have ec : f_Cache_colourCount I = nI (zcc b) := by
      unfold f_Cache_colourCount
      rw [hf 49 (by decide), h49]
      have key2 : ∀ b, b < 5 → (if nI b = nI 0 then nI 0 else nI 1 <<< (nI b &&& 31)) = nI (zcc b) := by decide
      exact key2 b (by omega)
    rw [ec, hf 59 (by decide), h593, h594]
    have e9 : (xup (xup (xup (xup I 82 4 (nI (zcc b))) 82 5 (nI cp)) 82 6 (nI ca)) 4 9 (nI 1)) 9 2 = nI q := by
      rw [xup_k (by decide), xup_k (by decide), xup_k (by decide), xup_k (by decide), hf 9 (by decide)]; exact h92
    rw [e9]
    refine hP _ (fun a h4 h5 => ?_) xup_s ?_
    · rw [xup_r h5, xup_r h4, xup_r h4, xup_r h4]
      exact hf a (by simp; exact h4)
    · funext j
      rw [xup_k (by decide)]
      unfold rowA
      by_cases e6 : j = 6
      · subst e6; rw [xup_s]; rfl
      · rw [xup_i e6]
        by_cases e5 : j = 5
        · subst e5; rw [xup_s]; rfl
        · rw [xup_i e5]
          by_cases e4 : j = 4
          · subst e4; rw [xup_s]; rfl
          · rw [xup_i e4]
            by_cases e3 : j < 4
            · rw [if_pos e3]; exact ha j e3
            · rw [if_neg e3, if_neg e4, if_neg e5, if_neg e6]; exact hb2 j (by omega)
  | succ n ih =>
    intro i I hi hf ha hb2
    have nx : ∀ v : Int32, v = (if hask ks i = true then nI 1 else nI 0) → g_L_read_172 c J (nI i + nI 1) (xup I 82 (nI i).toNatClampNeg v) P T := by
      intro v hv
      rw [nI_add, nc (by omega)]
      refine ih (i + 1) _ (by omega) (fr_u hf (by decide)) (fun j hj => ?_) (fun j hj => ?_)
      · by_cases e : j = i
        · subst e; rw [xup_s]; exact hv
        · rw [xup_i e]; exact ha j (by omega)
      · rw [xup_i (by omega)]; exact hb2 j (by omega)
    refine t_L_read_172 (br_f (nI_ge (by omega) (by decide)) (v_have (by omega) (by rw [hf 51 (by decide)]; exact h1) (fun j q hq => by rw [hf 52 (by decide)]; exact h2 j q hq) h3 hl (fun e => br_f (by decide) ⟨vp_in_nI (by omega) (by decide), nx _ (by rw [if_pos e])⟩) (fun e => br_t rfl ⟨vp_in_nI (by omega) (by decide), nx _ (by rw [if_neg e])⟩)))
set_option maxHeartbeats 1000000 in
theorem r_read {P : Int32 → zJ → Prop} {I : zJ} (hN : N ≤ 5600) (h1 : I 9 1 = nI N) (hB : I 10 = B) (r1 : I 1 = (fun j => zSO.getD j 0)) (r2 : I 2 = (fun j => zNX.getD j 0)) (r3 : I 3 = fun j => zNY.getD j 0)
    (hP : ∀ w h f ks b cp ca q I1, pRead B N = some (w, h, f, ks, b, cp, ca, q) → 1 ≤ w → w ≤ 8 → 1 ≤ h → h ≤ 8 → rdK I I1 → I1 5 1 = nI w → I1 5 2 = nI h → I1 6 = rowP f (I 6) (w * h) → I1 4 9 = nI 1 → I1 82 = rowA ks b cp ca (I 82) → P (nI q) I1)
    (hT : ∀ I1, pRead B N = none → cf rdS I I1 → T 100 I1) : c_L_read c J I P T := by
  have s0 : cst (xup I 9 2 (nI 0)) B N 0 := ⟨hN, Nat.zero_le _, by rw [xup_i (by decide)]; exact h1, xup_s, by rw [xup_r (by decide)]; exact hB, by rw [xup_r (by decide)]; exact r1, by rw [xup_r (by decide)]; exact r2, by rw [xup_r (by decide)]; exact r3⟩
  refine t_L_read (r_num s0 (by decide) (fun m p1 e1 g1 q1 => ?_) (fun e1 => hT _ (by simp only [pRead, e1]) (cf_p cf_0)))
  rw [xup_2]
  have hst : ∀ q, q ≤ N → cst (xup I 9 2 (nI q)) B N q := fun q hq => by
    have := cst_q s0 hq
    rw [xup_2] at this
    exact this
  refine pk_eq m 47 (fun em => ?_) (fun em => hT _ (by simp only [pRead, e1, if_neg em]) (cf_p cf_0))
  refine r_num (hst p1 q1) (by decide) (fun w p2 e2 g2 q2 => ?_) (fun e2 => hT _ (by simp only [pRead, e1, if_pos em, e2]) (cf_p cf_0))
  rw [xup_2, nI_add]
  have s2 : cst (xup (xup I 9 2 (nI p2)) 7 1 (nI (w + 1))) B N p2 := cst_a (hst p2 q2) (xup_r (by decide)) (xup_r (by decide)) (xup_r (by decide)) (xup_r (by decide)) (xup_r (by decide))
  refine r_num s2 (by decide) (fun h p3 e3 g3 q3 => ?_) (fun e3 => hT _ (by simp only [pRead, e1, if_pos em, e2, e3]) (cf_u (cf_p cf_0) (by decide) (by decide)))
  rw [nI_add]
  refine nm_e ?_
  have s3 : cst (xup (xup (xup (xup (xup I 9 2 (nI p2)) 7 1 (nI (w + 1))) 9 2 (nI p3)) 7 2 (nI (h + 1))) 51 5 (nI 0)) B N p3 := cst_a (cst_q s2 q3) ((xup_r (by decide)).trans (xup_r (by decide))) ((xup_r (by decide)).trans (xup_r (by decide))) ((xup_r (by decide)).trans (xup_r (by decide))) ((xup_r (by decide)).trans (xup_r (by decide))) ((xup_r (by decide)).trans (xup_r (by decide)))
  have f3 : cf rdS I (xup (xup (xup (xup (xup I 9 2 (nI p2)) 7 1 (nI (w + 1))) 9 2 (nI p3)) 7 2 (nI (h + 1))) 51 5 (nI 0)) := cf_u (cf_u (cf_p (cf_u (cf_p cf_0) (by decide) (by decide))) (by decide) (by decide)) (by decide) (by decide)
  have a1 : (xup (xup (xup (xup (xup I 9 2 (nI p2)) 7 1 (nI (w + 1))) 9 2 (nI p3)) 7 2 (nI (h + 1))) 51 5 (nI 0)) 7 1 = nI (w + 1) := by rw [xup_k (by decide), xup_i (by decide), xup_k (by decide), xup_s]
  have a2 : (xup (xup (xup (xup (xup I 9 2 (nI p2)) 7 1 (nI (w + 1))) 9 2 (nI p3)) 7 2 (nI (h + 1))) 51 5 (nI 0)) 7 2 = nI (h + 1) := by rw [xup_k (by decide), xup_s]
  have a3 : (xup (xup (xup (xup (xup I 9 2 (nI p2)) 7 1 (nI (w + 1))) 9 2 (nI p3)) 7 2 (nI (h + 1))) 51 5 (nI 0)) 51 5 = nI 0 := xup_s
  generalize xup (xup (xup (xup (xup I 9 2 (nI p2)) 7 1 (nI (w + 1))) 9 2 (nI p3)) 7 2 (nI (h + 1))) 51 5 (nI 0) = I3 at s3 f3 a1 a2 a3
  refine l_read75 (w0 := w + 1) (h := h + 1) (F0 := pTrs B N (h + 1) 5 ([], (fun _ => 0), (fun _ => 0), (fun _ => 0), 0) (w + 1) p3) (by omega) (by omega) (fun s w1 q I4 e4 f4 s4 c4 t4 y1 y2 => ?_) (fun I4 e4 f4 => hT I4 (by simp only [pRead, e1, if_pos em, e2, e3, e4]) (cf_t f3 f4)) 5 0 ([], (fun _ => 0), (fun _ => 0), (fun _ => 0), 0) (w + 1) p3 I3 (by decide) rfl cf_0 s3 ⟨a3, fun i q hq => by simp at hq, fun q hq => by simp at hq⟩ ⟨by simp, fun q hq => by simp at hq, rfl, by omega, by omega⟩ a1 a2 rfl
  have hw1 := t4.2.2.2.1
  have hw8 := t4.2.2.2.2
  have hb64 : w1 * (h + 1) ≤ 64 := Nat.mul_le_mul hw8 (show h + 1 ≤ 8 by omega)
  refine t_L_read_133 (r_img (tot := w1 * (h + 1)) zpl_7 (Or.inl rfl) (by decide) hw1 (by omega) rfl hb64 y1 y2 s4 (fun f b cp ca q5 I5 e5 f5 s5 r5 hb5 z49 z3 z4 => ?_) (fun I5 e5 f5 => hT I5 (by simp only [pRead, e1, if_pos em, e2, e3, e4, e5]) (cf_t f3 (cf_t f4 (cf_s f5 (by decide))))))
  have r51 : I5 51 = I4 51 := f5.1 51 (by decide) (by decide)
  have r52 : I5 52 = I4 52 := f5.1 52 (by decide) (by decide)
  have tc5 : ∀ q, q ∈ s.1 → tcl I5 s (h + 1) q := fun q hq => tcl_r (c4.2.2 q hq) (by rw [r51]) (f5.1 53 (by decide) (by decide)) (f5.1 54 (by decide) (by decide)) (f5.1 55 (by decide) (by decide)) (f5.1 56 (by decide) (by decide)) (f5.1 57 (by decide) (by decide)) (f5.1 58 (by decide) (by decide))
  have y71 : I5 7 1 = nI w1 := by rw [f5.1 7 (by decide) (by decide)]; exact y1
  have y72 : I5 7 2 = nI (h + 1) := by rw [f5.1 7 (by decide) (by decide)]; exact y2
  refine t_Transforms_undoAll zpl_7 ?_
  rw [r51, c4.1]
  refine r_undo (s := s) (w0 := w + 1) (h := h + 1) (F := undo s (h + 1) s.1 f) (by omega) (by omega) (by omega) (by omega) (fun I6 f6 x1 x2 x3 => ?_) s.1.length s.1 w1 f I5 rfl (tok_le t4) hw1 hw8 t4.2.2.1 t4.2.1 (fun i q hq => by rw [r52]; exact c4.2.1 i q hq) tc5 fr_0 y71 y72 r5 rfl
  have hwh : (w + 1) * (h + 1) ≤ 64 := Nat.mul_le_mul (show w + 1 ≤ 8 by omega) (show h + 1 ≤ 8 by omega)
  have e7 : (xup (xup I6 5 1 (I6 7 1)) 5 2 (I6 7 2)) 7 1 * (xup (xup I6 5 1 (I6 7 1)) 5 2 (I6 7 2)) 7 2 = nI ((w + 1) * (h + 1)) := by
    rw [xup_k (by decide), xup_k (by decide), xup_k (by decide), xup_k (by decide), x1, x2, pk_mul]
  rw [e7, nc (n := 0) (by decide), nc (n := (w + 1) * (h + 1)) (by omega)]
  refine ⟨by decide, by decide, nI_pos (by omega), by omega, by omega, by decide, nm_e ?_⟩
  have ff : cf rdS I I6 := cf_t f3 (cf_t f4 (cf_t (cf_s f5 (by decide)) (cf_fr (fr_s f6 (by decide)) (by decide))))
  have rr : ∀ a, a ≠ 5 → a ≠ 6 → (xcpy (xup (xup I6 5 1 (I6 7 1)) 5 2 (I6 7 2)) (7 + 1) 0 (5 + 1) 0 ((w + 1) * (h + 1))) a = I6 a := by
    intro a h5 h6
    funext j
    unfold xcpy
    rw [if_neg (fun z => h6 z.1), xup_k h5, xup_k h5]
  refine l_read172 (ks := s.1) (b := b) (cp := cp) (ca := ca) (q := q5) hb5 ?_ ?_ (fun q hq => (t4.2.1 q hq).1) (tok_le t4) ?_ ?_ ?_ ?_ (fun I7 f7 y9 y82 => ?_) 4 0 _ (by decide) fr_0 (fun j hj => absurd hj (by omega)) (fun _ _ => rfl)
  · rw [rr 51 (by decide) (by decide), f6 51 (by decide), r51]; exact c4.1
  · intro i q hq
    rw [rr 52 (by decide) (by decide), f6 52 (by decide), r52]; exact c4.2.1 i q hq
  · rw [rr 49 (by decide) (by decide), f6 49 (by decide)]; exact z49
  · rw [rr 59 (by decide) (by decide), f6 59 (by decide)]; exact z3
  · rw [rr 59 (by decide) (by decide), f6 59 (by decide)]; exact z4
  · rw [rr 9 (by decide) (by decide), f6 9 (by decide)]; exact s5.2.2.2.1
  · have kk := rdK_cf ff
    refine hP (w + 1) (h + 1) (undo s (h + 1) s.1 f) s.1 b cp ca q5 I7 (by simp only [pRead, e1, if_pos em, e2, e3, e4, e5]) (by omega) (by omega) (by omega) (by omega) ⟨fun a ha => ?_, fun g hg => ?_, ?_, ?_, ?_, ?_⟩ ?_ ?_ ?_ y9 ?_
    · rw [f7 a (by omega) (by omega), rr a (by omega) (by omega)]; exact kk.1 a ha
    · rw [f7 9 (by decide) (by decide), rr 9 (by decide) (by decide)]; exact kk.2.1 g hg
    · rw [f7 10 (by decide) (by decide), rr 10 (by decide) (by decide)]; exact kk.2.2.1
    · rw [f7 1 (by decide) (by decide), rr 1 (by decide) (by decide)]; exact kk.2.2.2.1
    · rw [f7 2 (by decide) (by decide), rr 2 (by decide) (by decide)]; exact kk.2.2.2.2.1
    · rw [f7 3 (by decide) (by decide), rr 3 (by decide) (by decide)]; exact kk.2.2.2.2.2
    · rw [f7 5 (by decide) (by decide)]
      show (if _ then _ else _) = _
      rw [if_neg (by omega), xup_i (by decide), xup_s]; exact x1
    · rw [f7 5 (by decide) (by decide)]
      show (if _ then _ else _) = _
      rw [if_neg (by omega), xup_s]; exact x2
    · rw [f7 6 (by decide) (by decide)]
      funext j
      have e6 : I6 6 j = I 6 j := congrFun (ff.1 6 (by decide) (by decide)) j
      unfold rowP
      by_cases e : j < (w + 1) * (h + 1)
      · rw [if_pos e]
        show (if _ then _ else _) = _
        rw [if_pos ⟨rfl, Nat.zero_le _, by show j < 0 + (w + 1) * (h + 1); omega⟩, xup_k (by decide), xup_k (by decide)]
        show I6 8 (0 + (j - 0)) = _
        rw [Nat.zero_add, Nat.sub_zero]
        exact x3 j e
      · rw [if_neg e]
        show (if _ then _ else _) = _
        rw [if_neg (fun z => e (by have := z.2.2; simpa using this)), xup_k (by decide), xup_k (by decide)]
        exact e6
    · rw [y82, rr 82 (by decide) (by decide)]
      have : I6 82 = I 82 := ff.1 82 (by decide) (by decide)
      rw [this]
end CS
