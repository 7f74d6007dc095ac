/-! THE REFERENCE READS: all of it. -/
section MRD
variable {c : zC} {J : zK} {n : Nat} {B : Nat → Int32} {T : Nat → zJ → Prop}
set_option maxHeartbeats 1000000 in
theorem m_undoL {P : Int32 → zJ → Prop} {I0 : zJ} {s : zTr} {w0 h : Nat} {v1 : Int32} {F : Nat → Int32} (hh1 : 1 ≤ h) (hh : h ≤ 8) (hP : ∀ I1, fr [91, 92] I0 I1 → (∀ j, j < w0 * h → I1 91 j = F j) → g_M_read_171 c J v1 (nI h) (nI 0) (xup (xup I1 83 1 v1) 83 2 (nI h)) P T) :
    ∀ (m : Nat) (l : List (Nat × Nat)) (wn : Nat) (g : Nat → Int32) (I : zJ), l.length = m → m ≤ 4 → chn s.2.2.2.2 l w0 wn → (∀ q, q ∈ l → q.1 < 4 ∧ 1 ≤ q.2 ∧ q.2 ≤ 8 ∧ (q.1 = 3 → 1 ≤ s.2.2.2.2 ∧ s.2.2.2.2 ≤ 16)) → (∀ i q, l[i]? = some q → I0 94 i = nI q.1 ∧ I0 95 i = nI q.2) → (∀ q, q ∈ l → tml I0 s h q) →
    fr [91, 92] I0 I → (∀ j, j < wn * h → I 91 j = g j) → undo s h l g = F → g_M_read_128 c J v1 (nI h) (nI m - nI 1) I P T := by
  intro m
  induction m with
  | zero =>
    intro l wn g I hl hn4 hch hq h52 htc hf hg hF
    obtain rfl : l = [] := List.eq_nil_of_length_eq_zero hl
    have e : nI 0 - nI 1 = -1 := by decide
    rw [e]
    have hw : w0 = wn := hch
    subst hw
    exact t_M_read_128 (br_t (by decide) (hP I hf (fun j hj => by rw [← hF]; exact hg j hj)))
  | succ m ih =>
    intro l wn g I hl hn4 hch hq h52 htc hf hg hF
    obtain ⟨r, q, rfl, hr⟩ := list_snoc l m hl
    obtain ⟨hc1, hc2⟩ := chn_split _ q r w0 wn hch
    obtain ⟨q4, qw1, qw8, qp⟩ := hq q (by simp)
    have tq := htc q (by simp)
    rw [undo_app] at hF
    obtain ⟨e94, e95⟩ : I 94 m = nI q.1 ∧ I 95 m = nI q.2 := by
      rw [hf 94 (by decide), hf 95 (by decide)]
      refine h52 m q ?_
      rw [List.getElem?_append_right (by omega), hr]
      simp
    have nx : ∀ (g1 : Nat → Int32) (I1 : zJ), fr [91, 92] I0 I1 → (∀ j, j < q.2 * h → I1 91 j = g1 j) → g1 = und s h q g → g_M_read_128 c J v1 (nI h) (nI m + (-1 : Int32)) I1 P T := by
      intro g1 I1 f1 y3 y4
      have e : nI m + (-1 : Int32) = nI m - nI 1 := by
        show nI m + (-1 : Int32) = nI m - (1 : Int32)
        grind
      rw [e]
      refine ih r q.2 g1 I1 hr (by omega) hc1 (fun z hz => hq z (by simp [hz])) (fun i z hz => h52 i z ?_) (fun z hz => htc z (by simp [hz])) f1 y3 (by rw [y4]; exact hF)
      rw [List.getElem?_append_left (List.getElem?_eq_some_iff.mp hz).1]
      exact hz
    rw [show nI (m + 1) - nI 1 = nI m from by rw [pk_sub (by omega), Nat.add_sub_cancel]]
    refine t_M_read_128 (br_f (nI_nlt (Nat.zero_le _) (by omega)) ⟨vp_in_nI (by omega) (by decide), vp_in_nI (by omega) (by decide), ?_⟩)
    rw [nc (by omega), e94, e95]
    by_cases e3 : q.1 = 3
    · rw [if_pos e3] at hc2
      subst hc2
      obtain ⟨t2, t3⟩ := tq.2.2 e3
      rw [e3]
      refine m_undo3 (pa := s.2.2.2.1) (by omega) qw8 hh (qp e3).2 (by rw [hf 83 (by decide)]; exact t2) (fun j hj => by rw [hf 98 (by decide)]; exact t3 j hj) hg fun I1 f1 y3 => ?_
      refine nx _ I1 (fr_t hf f1) y3 ?_
      unfold und
      rw [if_neg (by omega), if_neg (by omega), if_neg (by omega)]
    · rw [if_neg e3] at hc2
      subst hc2
      refine t_M_undo (br_f (by rw [nI_eq (by omega) (by decide)]; exact e3) ?_)
      refine m_undo88 (kind := q.1) (mo := s.2.1) (de := s.2.2.1) (f := g) (if q.1 = 0 then S0 s.2.1 q.2 else if q.1 = 1 then S1 s.2.2.1 q.2 else S2) (by omega) qw8 hh (by omega) (fun e => ⟨fun j hj => by rw [hf 96 (by decide)]; exact tq.1 e j hj, by rw [if_pos e]⟩) (fun e => ⟨fun j hj => by rw [hf 97 (by decide)]; exact tq.2.1 e j hj, by rw [if_neg (by omega), if_pos e]⟩) (fun e => by rw [if_neg (by omega), if_neg (by omega)]) hg fun I1 f1 y3 => ?_
      refine nx _ I1 (fr_t hf (fr_s f1 (by decide))) y3 ?_
      unfold und
      by_cases e0 : q.1 = 0
      · rw [if_pos e0, if_pos e0]
      · rw [if_neg e0, if_neg e0]
        by_cases e1 : q.1 = 1
        · rw [if_pos e1, if_pos e1]
        · rw [if_neg e1, if_neg e1, if_pos (by omega)]
/-- the picture -/
theorem l_m171 {P : Int32 → zJ → Prop} {I0 : zJ} {w h : Nat} {f : Nat → Int32} (hw : w ≤ 8) (hh : h ≤ 8) (hf : ∀ j, j < w * h → I0 91 j = f j) (hP : ∀ I1, fr [84] I0 I1 → I1 84 = rowP f (I0 84) (w * h) → P (I0 83 8) I1) :
    ∀ (m k : Nat) (I : zJ), k + m = w * h → fr [84] I0 I → (∀ j, j < k → I 84 j = f j) → (∀ j, k ≤ j → I 84 j = I0 84 j) → g_M_read_171 c J (nI w) (nI h) (nI k) I P T := by
  have ht : w * h ≤ 64 := Nat.mul_le_mul hw hh
  intro m
  induction m with
  | zero =>
    intro k I hk hfr ha hb
    obtain rfl : k = w * h := by omega
    refine t_M_read_171 ?_
    rw [pk_mul]
    refine br_t (nI_le (Nat.le_refl _) (by omega)) ?_
    rw [hfr 83 (by decide)]
    refine hP I hfr ?_
    funext j
    unfold rowP
    by_cases e : j < w * h
    · rw [if_pos e]; exact ha j e
    · rw [if_neg e]; exact hb j (by omega)
  | succ m ih =>
    intro k I hk hfr ha hb
    refine t_M_read_171 ?_
    rw [pk_mul, nc (by omega), nI_add]
    refine br_f (nI_ge (by omega) (by omega)) ⟨vp_in_nI (by omega) (by decide), vp_in_nI (by omega) (by decide), ih (k + 1) _ (by omega) (fr_u hfr (by decide)) (fun j hj => ?_) (fun j hj => ?_)⟩
    · by_cases e : j = k
      · subst e; rw [xup_s, hfr 91 (by decide)]; exact hf _ (by omega)
      · rw [xup_i e]; exact ha j (by omega)
    · rw [xup_i (by omega)]; exact hb j (by omega)
/-- the account -/
theorem v_note {P : zJ → Prop} {I0 : zJ} {ks : List (Nat × Nat)} {b cp ca : Nat} (h1 : I0 83 22 = nI ks.length) (h2 : ∀ i q, ks[i]? = some q → I0 94 i = nI q.1) (h3 : ∀ q, q ∈ ks → q.1 < 4) (hl : ks.length ≤ 4) (h19 : I0 83 19 = nI (zcc b)) (h17 : I0 83 17 = nI cp) (h18 : I0 83 18 = nI ca)
    (hP : ∀ I1, mf [104] [34] I0 I1 → I1 83 34 = nI 1 → I1 104 = rowA ks b cp ca (I0 104) → P I1) : c_M_note c J I0 P T := by
  have key : ∀ (m i : Nat) (I : zJ), i + m = 4 → mf [104] [34] I0 I → I 83 34 = nI 1 → (∀ j, j < i → I 104 j = if hask ks j = true then nI 1 else nI 0) → (∀ j, i ≤ j → I 104 j = I0 104 j) → g_M_note_7 c J (nI i) I P T := by
    intro m
    induction m with
    | zero =>
      intro i I hi hf h34 ha hb2
      obtain rfl : i = 4 := by omega
      refine t_M_note_7 (br_t (by decide) ?_)
      rw [xup_k (by decide), xup_k (by decide), xup_k (by decide), hf.2 19 (by decide), h19, hf.2 17 (by decide), h17, hf.2 18 (by decide), h18]
      refine hP _ (mf_u (mf_u (mf_u hf (by decide) (by decide)) (by decide) (by decide)) (by decide) (by decide)) (by rw [xup_k (by decide), xup_k (by decide), xup_k (by decide)]; exact h34) ?_
      funext j
      unfold rowA
      by_cases e6 : j = 6
      · subst e6; rw [xup_s]; rfl
      · rw [xup_i e6]
        by_cases e5 : j = 5
        · subst e5; rw [xup_s]; rfl
        · rw [xup_i e5]
          by_cases e4 : j = 4
          · subst e4; rw [xup_s]; rfl
          · rw [xup_i e4]
            by_cases e3 : j < 4
            · rw [if_pos e3]; exact ha j e3
            · rw [if_neg e3, if_neg e4, if_neg e5, if_neg e6]; exact hb2 j (by omega)
    | succ m ih =>
      intro i I hi hf h34 ha hb2
      have nx : ∀ v : Int32, v = (if hask ks i = true then nI 1 else nI 0) → g_M_note_7 c J (nI i + nI 1) (xup I 104 (nI i).toNatClampNeg v) P T := by
        intro v hv
        rw [nI_add, nc (by omega)]
        refine ih (i + 1) _ (by omega) (mf_u hf (by decide) (by decide)) (by rw [xup_k (by decide)]; exact h34) (fun j hj => ?_) (fun j hj => ?_)
        · by_cases e : j = i
          · subst e; rw [xup_s]; exact hv
          · rw [xup_i e]; exact ha j (by omega)
        · rw [xup_i (by omega)]; exact hb2 j (by omega)
      refine t_M_note_7 (br_f (nI_ge (by omega) (by decide)) (v_hasM (by omega) ((hf.2 22 (by decide)).trans h1) (fun j q hq => by rw [hf.1 94 (by decide) (by decide)]; exact h2 j q hq) h3 hl (fun e => br_f (by decide) ⟨vp_in_nI (by omega) (by decide), nx _ (by rw [if_pos e])⟩) (fun e => br_t rfl ⟨vp_in_nI (by omega) (by decide), nx _ (by rw [if_neg e])⟩)))
  exact t_M_note (key 4 0 _ (by decide) (mf_f mf_0 (by decide)) xup_s (fun j hj => absurd hj (by omega)) (fun j _ => by rw [xup_k (by decide)]))
/-- what a reading leaves alone -/
abbrev mrS : List Nat := mtS ++ [92]
abbrev mrF : List Nat := mtF ++ [0]
/-- transforms from here on -/
theorem l_m53 {P : Int32 → zJ → Prop} {I0 : zJ} {w0 h : Nat} {v1 : Int32} {F0 : Option (zTr × Nat × Nat)} (hh1 : 1 ≤ h) (hh : h ≤ 8)
    (hE : ∀ s w q b1 V I1, okb 0 F0 b1 (s, w, q) → mf mtS mtF I0 I1 → mrs I1 B n q b1 → (b1 = 0 → V = nI w ∧ mtr I1 s h ∧ tok s w0 w) → g_M_read_78 c J v1 (nI h) V I1 P T) :
    ∀ (k : Nat) (s : zTr) (w p : Nat) (I : zJ), s.1.length + k = 5 → mf mtS mtF I0 I → mrs I B n p 0 → mtr I s h → tok s w0 w → pTrs B (8 * n) h k s w p = F0 → g_M_read_53 c J v1 (nI h) (nI w) I P T := by
  intro k
  induction k with
  | zero =>
    intro s w p I hl hf hr hm ht hF
    have := tok_le ht
    omega
  | succ k ih =>
    intro s w p I hl hf hr hm ht hF
    refine t_M_read_53 (br_t hr.2.2.2.1 (m_bitb hr fun b p1 b1 I1 o1 g1 r1 f1 => ?_))
    have f1' : mf mtS mtF I0 I1 := mf_t hf (mf_s f1 (by decide) (by decide))
    have m1 : mtr I1 s h := mtr_mf hm f1 (by decide) (by decide) (by decide) (by decide) (by decide) (by decide) (by decide)
    have hbad : pNum B (8 * n) 1 p = none → F0 = none := fun e => by rw [← hF]; simp only [pTrs, e]
    refine pk_eq b 1 (fun eb => ?_) (fun eb => ?_)
    · refine m_take r1 (fun _ => ⟨rfl, rfl, ht, m1⟩) hh1 hh fun s1 w1 q b2 V I2 o2 f2 r2 g2 => ?_
      have f2' : mf mtS mtF I0 I2 := mf_t f1' f2
      have ob : okb 0 (match pTake B (8 * n) s w h p1 with
        | none => none
        | some (s1, w1, p2) => some (s1, w1, p2)) b2 (s1, w1, q) ∨ b2 = 1 := by
        by_cases e : b2 = 1
        · exact Or.inr e
        · refine Or.inl ?_
          rcases o2 with ⟨y1, y2, y3⟩ | ⟨y1, _⟩
          · exact Or.inl ⟨y1, rfl, by rw [y3]⟩
          · exact absurd y1 e
      by_cases e2 : b2 = 0
      · subst e2
        obtain ⟨_, rfl, e3⟩ : (0 : Nat) = 0 ∧ b1 = 0 ∧ pTake B (8 * n) s w h p1 = some (s1, w1, q) := o2.elim id (fun y => absurd y.1 (by decide))
        have e1 : pNum B (8 * n) 1 p = some (b, p1) := o1.elim (fun y => y.2.2) (fun y => absurd y.1 (by decide))
        obtain ⟨rfl, m2, t2⟩ := g2 rfl
        have hl2 : s1.1.length = s.1.length + 1 := by
          have h1 := m2.1
          have : ∃ x, s1.1 = s.1 ++ [x] := by
            clear ih hF hE hbad ob
            unfold pTake at e3
            revert e3
            cases pNum B (8 * n) 2 p1 with
            | none => intro z; cases z
            | some r =>
              obtain ⟨kd, p2⟩ := r
              dsimp only
              by_cases z1 : hask s.1 kd = true
              · rw [if_pos z1]; intro z; cases z
              · rw [if_neg z1]
                by_cases z2 : kd = 2
                · rw [if_pos z2]; intro z; injection z with z; injection z with z _; exact ⟨_, by rw [← z]⟩
                · rw [if_neg z2]
                  by_cases z3 : kd = 3
                  · rw [if_pos z3]
                    cases pNum B (8 * n) 4 p2 with
                    | none => intro z; cases z
                    | some r =>
                      obtain ⟨m, p3⟩ := r
                      dsimp only
                      cases pImg B (8 * n) (m + 1) (m + 1) p3 with
                      | none => intro z; cases z
                      | some r =>
                        obtain ⟨f, a, b, d, p4⟩ := r
                        intro z; injection z with z; injection z with z _; exact ⟨_, by rw [← z]⟩
                  · rw [if_neg z3]
                    cases pImg B (8 * n) (bl w) (bl w * bl h) p2 with
                    | none => intro z; cases z
                    | some r =>
                      obtain ⟨f, a, b, d, p4⟩ := r
                      dsimp only
                      by_cases z4 : kd = 0
                      · rw [if_pos z4]; intro z; injection z with z; injection z with z _; exact ⟨_, by rw [← z]⟩
                      · rw [if_neg z4]; intro z; injection z with z; injection z with z _; exact ⟨_, by rw [← z]⟩
          obtain ⟨x, hx⟩ := this
          rw [hx, List.length_append]
          rfl
        exact ih s1 w1 q I2 (by omega) f2' r2 m2 t2 (by rw [← hF]; simp only [pTrs, e1, if_pos eb, e3])
      · obtain rfl : b2 = 1 := by have := r2.2.2.2.2; omega
        refine t_M_read_53 (br_f (by rw [r2.2.2.2.1]; decide) (hE s1 w1 q 1 V I2 (Or.inr ⟨rfl, Or.inr ⟨rfl, ?_⟩⟩) f2' r2 (fun z => absurd z (by decide))))
        rcases o1 with ⟨rfl, _, e1⟩ | ⟨rfl, o1⟩
        · have e3 : pTake B (8 * n) s w h p1 = none := (o2.elim (fun y => absurd y.1 (by decide)) (fun y => y.2)).elim (fun z => absurd z (by decide)) (fun z => z.2)
          rw [← hF]
          simp only [pTrs, e1, if_pos eb, e3]
        · exact hbad (o1.elim (fun z => absurd z (by decide)) (fun z => z.2))
    · refine hE s w p1 b1 _ I1 ?_ f1' r1 (fun _ => ⟨rfl, m1, ht⟩)
      rcases o1 with ⟨y1, _, e1⟩ | ⟨y1, o1⟩
      · exact Or.inl ⟨y1, rfl, by rw [← hF]; simp only [pTrs, e1, if_neg eb]⟩
      · exact Or.inr ⟨y1, Or.inr ⟨rfl, hbad (o1.elim (fun z => absurd z (by decide)) (fun z => z.2))⟩⟩
end MRD
