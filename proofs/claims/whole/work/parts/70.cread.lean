/-! THE CLASS READS. -/
theorem undo_app (s : zTr) (h : Nat) (q : Nat × Nat) : ∀ (l : List (Nat × Nat)) (f : Nat → Int32), undo s h (l ++ [q]) f = undo s h l (und s h q f)
  | [], _ => rfl
  | r :: l, f => by
    show und s h r (undo s h (l ++ [q]) f) = und s h r (undo s h l (und s h q f))
    rw [undo_app s h q l f]
theorem chn_split (pn : Nat) (q : Nat × Nat) : ∀ (l : List (Nat × Nat)) (a b : Nat), chn pn (l ++ [q]) a b → chn pn l a q.2 ∧ b = (if q.1 = 3 then pkw q.2 pn else q.2)
  | [], _, _, h => ⟨h.1.symm, h.2.symm⟩
  | r :: l, a, b, h => by
    obtain ⟨h1, h2⟩ := chn_split pn q l _ b h.2
    exact ⟨⟨h.1, h1⟩, h2⟩
theorem list_snoc {α : Type} (l : List α) (n : Nat) (h : l.length = n + 1) : ∃ r q, l = r ++ [q] ∧ r.length = n := by
  have hne : l ≠ [] := by
    intro e
    rw [e] at h
    cases h
  refine ⟨l.dropLast, l.getLast hne, (List.dropLast_concat_getLast hne).symm, ?_⟩
  rw [List.length_dropLast, h]
  rfl
section CR
variable {c : zC} {J : zK} {N : Nat} {B : Nat → Int32} {T : Nat → zJ → Prop}
set_option maxHeartbeats 1000000 in
theorem r_undo {P : zJ → Prop} {I0 : zJ} {s : zTr} {w0 h : Nat} {F : Nat → Int32} (hw0 : 1 ≤ w0) (hw08 : w0 ≤ 8) (hh1 : 1 ≤ h) (hh : h ≤ 8) (hP : ∀ I1, fr [7, 8] I0 I1 → I1 7 1 = nI w0 → I1 7 2 = nI h → (∀ j, j < w0 * h → I1 8 j = F j) → P I1) :
    ∀ (n : Nat) (l : List (Nat × Nat)) (wn : Nat) (g : Nat → Int32) (I : zJ), l.length = n → n ≤ 4 → 1 ≤ wn → wn ≤ 8 → chn s.2.2.2.2 l w0 wn → (∀ q, q ∈ l → q.1 < 4 ∧ 1 ≤ q.2 ∧ q.2 ≤ 8 ∧ (q.1 = 3 → 1 ≤ s.2.2.2.2 ∧ s.2.2.2.2 ≤ 16)) → (∀ i q, l[i]? = some q → I0 52 i = nI q.1) → (∀ q, q ∈ l → tcl I0 s h q) →
    fr [7, 8] I0 I → I 7 1 = nI wn → I 7 2 = nI h → (∀ j, j < wn * h → I 8 j = g j) → undo s h l g = F → g_Transforms_undoAll_7 c J 7 (nI n - nI 1) I P T := by
  intro n
  induction n with
  | zero =>
    intro l wn g I hl hn4 hwn hwn8 hch hq h52 htc hf h1 h2 hg hF
    obtain rfl : l = [] := List.eq_nil_of_length_eq_zero hl
    have e : nI 0 - nI 1 = -1 := by decide
    rw [e]
    have hw : w0 = wn := hch
    subst hw
    exact t_Transforms_undoAll_7 zpl_7 (br_t (by decide) (hP I hf h1 h2 (fun j hj => by rw [← hF]; exact hg j hj)))
  | succ n ih =>
    intro l wn g I hl hn4 hwn hwn8 hch hq h52 htc hf h1 h2 hg hF
    obtain ⟨r, q, rfl, hr⟩ := list_snoc l n hl
    obtain ⟨hc1, hc2⟩ := chn_split _ q r w0 wn hch
    obtain ⟨q4, qw1, qw8, qp⟩ := hq q (by simp)
    have tq := htc q (by simp)
    rw [undo_app] at hF
    have e52 : I 52 n = nI q.1 := by
      rw [hf 52 (by decide)]
      refine h52 n q ?_
      rw [List.getElem?_append_right (by omega), hr]
      simp
    have nx : ∀ (g1 : Nat → Int32) (I1 : zJ), fr [7, 8] I0 I1 → I1 7 1 = nI q.2 → I1 7 2 = nI h → (∀ j, j < q.2 * h → I1 8 j = g1 j) → g1 = und s h q g → g_Transforms_undoAll_7 c J 7 (nI n + (-1 : Int32)) I1 P T := by
      intro g1 I1 f1 y1 y2 y3 y4
      have e : nI n + (-1 : Int32) = nI n - nI 1 := by
        show nI n + (-1 : Int32) = nI n - (1 : Int32)
        grind
      rw [e]
      refine ih r q.2 g1 I1 hr (by omega) qw1 qw8 hc1 (fun z hz => hq z (by simp [hz])) (fun i z hz => h52 i z ?_) (fun z hz => htc z (by simp [hz])) f1 y1 y2 y3 (by rw [y4]; exact hF)
      rw [List.getElem?_append_left (List.getElem?_eq_some_iff.mp hz).1]
      exact hz
    rw [show nI (n + 1) - nI 1 = nI n from by rw [pk_sub (by omega), Nat.add_sub_cancel]]
    refine t_Transforms_undoAll_7 zpl_7 (br_f (nI_nlt (Nat.zero_le _) (by omega)) ⟨vp_in_nI (by omega) (by decide), ?_⟩)
    rw [nc (by omega), e52]
    refine ⟨fun e => ?_, fun e => ?_, fun e => ?_, fun e => ?_⟩
    · rw [nI_eq (by omega) (by decide)] at e
      rw [if_neg (by omega)] at hc2
      subst hc2
      obtain ⟨t1, t2⟩ := tq.1 e
      refine r_putOn (mo := s.2.1) (by omega) qw8 (by omega) hh h1 h2 (by rw [hf 53 (by decide)]; exact t1) (fun j hj => by rw [hf 54 (by decide)]; exact t2 j hj) hg fun I1 f1 y1 => ?_
      refine nx _ I1 (fr_t hf (fr_s f1 (by decide))) (by rw [f1 7 (by decide)]; exact h1) (by rw [f1 7 (by decide)]; exact h2) y1 ?_
      unfold und
      rw [if_pos e]
    · rw [nI_eq (by omega) (by decide)] at e
      rw [if_neg (by omega)] at hc2
      subst hc2
      obtain ⟨t1, t2⟩ := tq.2.1 e
      refine r_putTog (de := s.2.2.1) (by omega) qw8 (by omega) hh h1 h2 (by rw [hf 55 (by decide)]; exact t1) (fun j hj => by rw [hf 56 (by decide)]; exact t2 j hj) hg fun I1 f1 y1 => ?_
      refine nx _ I1 (fr_t hf (fr_s f1 (by decide))) (by rw [f1 7 (by decide)]; exact h1) (by rw [f1 7 (by decide)]; exact h2) y1 ?_
      unfold und
      rw [if_neg (by omega), if_pos e]
    · rw [nI_eq (by omega) (by decide)] at e
      rw [if_neg (by omega)] at hc2
      subst hc2
      refine r_green qw8 hh h1 h2 hg fun I1 f1 y1 => ?_
      refine nx _ I1 (fr_t hf (fr_s f1 (by decide))) (by rw [f1 7 (by decide)]; exact h1) (by rw [f1 7 (by decide)]; exact h2) y1 ?_
      unfold und
      rw [if_neg (by omega), if_neg (by omega), if_pos e]
    · rw [nI_toInt (by omega)] at e
      have e3 : q.1 = 3 := by omega
      rw [if_pos e3] at hc2
      subst hc2
      obtain ⟨t1, t2, t3⟩ := tq.2.2 e3
      have ew : I 51 4 = nI q.2 := by rw [hf 51 (by decide)]; exact t1
      rw [ew]
      refine r_unpack (pa := s.2.2.2.1) (by omega) qw8 (by omega) hh (qp e3).2 h1 h2 (by rw [hf 57 (by decide)]; exact t2) (fun j hj => by rw [hf 58 (by decide)]; exact t3 j hj) hg fun I1 f1 y1 y2 y3 => ?_
      refine nx _ I1 (fr_t hf f1) y1 y2 y3 ?_
      unfold und
      rw [if_neg (by omega), if_neg (by omega), if_neg (by omega)]
end CR
