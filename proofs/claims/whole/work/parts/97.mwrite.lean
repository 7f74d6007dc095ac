/-! THE REFERENCE WRITES. -/
abbrev wqS : List Nat := [87, 88, 89, 90, 91, 92, 93, 94, 98, 99, 100, 101, 102, 103]
abbrev wqF : List Nat := [9, 17, 18, 19, 22, 26, 30, 33]
/-- the kinds noted so far -/
def mK (I : zJ) (ks : List (Nat × Nat)) : Prop := I 83 22 = nI ks.length ∧ ∀ i q, ks[i]? = some q → I 94 i = nI q.1
theorem mK_q {S F : List Nat} {x : Nat} {bs : List Nat} {I I1 : zJ} {ks : List (Nat × Nat)} (h : mK I ks) (e : qem S F x bs I I1) (h94 : 94 ∉ S) (h22 : 22 ∉ F) : mK I1 ks := ⟨(e.2.1 22 (by decide) h22).trans h.1, fun i q hq => (congrFun (e.1 94 (by decide) (by decide) h94) i).trans (h.2 i q hq)⟩
theorem mK_m {S F : List Nat} {I I1 : zJ} {ks : List (Nat × Nat)} (h : mK I ks) (e : mf S F I I1) (h94 : 94 ∉ S) (h22 : 22 ∉ F) : mK I1 ks := ⟨(e.2 22 h22).trans h.1, fun i q hq => (congrFun (e.1 94 (by decide) h94) i).trans (h.2 i q hq)⟩
theorem mK_up {I : zJ} {ks : List (Nat × Nat)} {t : Nat} (h : mK I ks) (hl : ks.length < 4) : vp_in (I 83 22) 4 ∧ xup (xup I 94 (I 83 22).toNatClampNeg (nI t)) 83 22 (((xup I 94 (I 83 22).toNatClampNeg (nI t)) 83 22) + nI 1) = xup (xup I 94 ks.length (nI t)) 83 22 (nI (ks.length + 1)) ∧ mK (xup (xup I 94 ks.length (nI t)) 83 22 (nI (ks.length + 1))) (ks ++ [(t, 0)]) := by
  refine ⟨by rw [h.1]; exact vp_in_nI hl (by decide), by rw [xup_k (by decide), h.1, nc (by omega), nI_add], by rw [List.length_append]; exact xup_s, fun i q hq => ?_⟩
  rw [xup_k (by decide)]
  by_cases e : i < ks.length
  · rw [List.getElem?_append_left e] at hq
    rw [xup_i (by omega)]
    exact h.2 i q hq
  · rw [List.getElem?_append_right (by omega)] at hq
    have hi : i - ks.length = 0 := by
      rcases Nat.eq_zero_or_pos (i - ks.length) with z | z
      · exact z
      · rw [List.getElem?_eq_none (by simp only [List.length_cons, List.length_nil]; omega)] at hq
        cases hq
    rw [hi] at hq
    have : i = ks.length := by omega
    rw [this, xup_s]
    injection hq with hq
    rw [← hq]
def wks (v1 v2 v3 : Int32) : List (Nat × Nat) := (if v1 = nI 0 then [] else [(3, 0)]) ++ (if v2 = nI 0 then [] else [(2, 0)]) ++ (if v3 = -1 then [] else [(0, 0)])
theorem wB_len {v1 v2 v3 : Int32} {b n w h : Nat} {S px : Nat → Int32} (hw0 : 1 ≤ w) (hw : w ≤ 8) (hh : h ≤ 8) (hb : b ≤ 4) (h16 : n ≤ 16) : (wB v1 v2 v3 b S n w h px).length ≤ 200000 ∧ wW v1 n w ≤ 8 ∧ 0 < wW v1 n w := by
  have hpw := pkw_le (w := w) (n := n) hw0
  have h8 : wW v1 n w ≤ 8 ∧ 0 < wW v1 n w := by
    unfold wW
    by_cases e : v1 = nI 0
    · rw [if_pos e]; omega
    · rw [if_neg e]; omega
  have ht : wW v1 n w * h ≤ 64 := Nat.mul_le_mul h8.1 hh
  have a1 : (wB1 v1 S n).length ≤ 45010 := by
    unfold wB1
    by_cases e : v1 = nI 0
    · rw [if_pos e]; exact Nat.zero_le _
    · rw [if_neg e]; exact wpB_len h16
  have a2 : (wB2 v2).length ≤ 3 := by
    unfold wB2
    by_cases e : v2 = nI 0
    · rw [if_pos e]; exact Nat.zero_le _
    · rw [if_neg e]; simp only [List.length_append, bsv_len]; omega
  have a3 : (wB3 v3 (wW v1 n w) h).length ≤ 45010 := by
    unfold wB3
    by_cases e : v3 = -1
    · rw [if_pos e]; exact Nat.zero_le _
    · rw [if_neg e]; exact wmB_len h8.1 hh
  have a4 := imB_len (b := b) (f := wpx v1 v2 v3 S n w px) hb ht
  have a0 : (wB0 w h).length = 14 := by unfold wB0; simp only [List.length_append, bsv_len]
  refine ⟨?_, h8⟩
  unfold wB
  simp only [List.length_append, bsv_len]
  omega
section MW
variable {c : zC} {J : zK} {T : Nat → zJ → Prop} {w h n b : Nat} {px S : Nat → Int32} {v1 v2 v3 : Int32}
set_option maxHeartbeats 16000000 in
theorem v_writeM {P : Int32 → zJ → Prop} {I : zJ} (hw0 : 1 ≤ w) (hw : w ≤ 8) (hh : h ≤ 8) (hh0 : 1 ≤ h) (hb : b ≤ 4) (h16 : n ≤ 16) (hn1 : ¬ v1 = nI 0 → 1 ≤ n ∧ srt px (w * h) S n ∧ n = cntp (frs px) (w * h)) (hv3 : v3 = -1 ∨ ∃ md, md < 14 ∧ v3 = nI md) (h1 : I 83 1 = nI w) (h2 : I 83 2 = nI h) (hpx : I 84 = px) (h105 : ∀ k, k < 19 → I 105 k = nI (zord k))
    (hG : (wB v1 v2 v3 b S n w h px).length ≤ 5600 → ∀ I1, mf (85 :: 86 :: 104 :: wqS) (0 :: 5 :: 7 :: 34 :: wqF) I I1 → I1 83 0 = nI 0 → I1 83 5 = nI (((wB v1 v2 v3 b S n w h px).length + 7) / 8) → (∀ j, I1 85 j = if j < ((wB v1 v2 v3 b S n w h px).length + 7) / 8 then dprs (I 86) 0 (wB v1 v2 v3 b S n w h px) j else I 85 j) → I1 83 34 = nI 1 → I1 104 = rowA (wks v1 v2 v3) b (nkd (itms b (wpx v1 v2 v3 S n w px) (wW v1 n w * h)) 1) (nkd (itms b (wpx v1 v2 v3 S n w px) (wW v1 n w * h)) 2) (I 104) → P (nI (wB v1 v2 v3 b S n w h px).length) I1)
    (hX : ¬ (wB v1 v2 v3 b S n w h px).length ≤ 5600 → ∀ I1, mf (85 :: 86 :: 104 :: wqS) (0 :: 5 :: 7 :: 34 :: wqF) I I1 → I1 83 0 = nI 2 → I1 83 5 = I 83 5 → I1 83 34 = I 83 34 → I1 85 = I 85 → I1 104 = I 104 → P (nI 0) I1) : g_M_write_53 c J v1 v2 v3 (nI b) I P T := by
  have hwh : w * h ≤ 64 := Nat.mul_le_mul hw hh
  obtain ⟨hlen, hw18, hw10⟩ := wB_len (v1 := v1) (v2 := v2) (v3 := v3) (S := S) (px := px) hw0 hw hh hb h16
  have hbits : wB v1 v2 v3 b S n w h px = wB0 w h ++ wB1 v1 S n ++ wB2 v2 ++ wB3 v3 (wW v1 n w) h ++ bsv (nI 0) 1 ++ imB b (wpx v1 v2 v3 S n w px) (wW v1 n w * h) := rfl
  have hf3 : wpx v1 v2 v3 S n w px = wf3 v3 (wW v1 n w) (wf2 v2 (wf1 v1 S n w px)) := rfl
  generalize hks : wks v1 v2 v3 = ks at hG
  have hks4 : ks.length ≤ 3 ∧ ∀ q, q ∈ ks → q.1 < 4 := by
    rw [← hks]
    unfold wks
    by_cases a1 : v1 = nI 0 <;> by_cases a2 : v2 = nI 0 <;> by_cases a3 : v3 = -1 <;> simp [a1, a2, a3]
  generalize wB v1 v2 v3 b S n w h px = bits at hG hX hlen hbits
  generalize wpx v1 v2 v3 S n w px = f3 at hG hbits hf3
  generalize hw1 : wW v1 n w = w1 at hG hbits hf3 hw18 hw10
  have htot : w1 * h ≤ 64 := Nat.mul_le_mul hw18 hh
  have bl : ∀ {bs rs : List Nat}, bits = bs ++ rs → bs.length ≤ 200000 := by
    intro bs rs hbs
    have := congrArg List.length hbs
    rw [List.length_append] at this
    omega
  -- the end
  have fin : ∀ I1, qem wqS wqF 0 bits I I1 → mK I1 ks → I1 83 19 = nI (zcc b) → I1 83 17 = nI (nkd (itms b f3 (w1 * h)) 1) → I1 83 18 = nI (nkd (itms b f3 (w1 * h)) 2) → g_M_write_311 c J I1 P T := by
    intro I1 e mk x19 x17 x18
    have e7 : I1 83 7 = nI bits.length := by rw [e.2.2.1, Nat.zero_add]
    refine t_M_write_311 ?_
    rw [e7]
    refine pk_le bits.length 5600 (fun e1 => nm_e ?_) (fun e1 => nm_e ?_)
    · rw [xup_s]
      refine br_t (by decide) ?_
      rw [xup_i (by decide), e7, nI_add, pk_div (by omega) (by decide) (by decide)]
      have g0 : mf [] [0, 5] I1 (xup (xup I1 83 0 (nI 0)) 83 5 (nI ((bits.length + 7) / 8))) := mf_f (mf_f mf_0 (by decide)) (by decide)
      have g5 : (xup (xup I1 83 0 (nI 0)) 83 5 (nI ((bits.length + 7) / 8))) 83 5 = nI ((bits.length + 7) / 8) := xup_s
      have g00 : (xup (xup I1 83 0 (nI 0)) 83 5 (nI ((bits.length + 7) / 8))) 83 0 = nI 0 := by rw [xup_i (by decide), xup_s]
      generalize xup (xup I1 83 0 (nI 0)) 83 5 (nI ((bits.length + 7) / 8)) = I2 at g0 g5 g00
      have hB : (bits.length + 7) / 8 ≤ 700 := by omega
      generalize hBe : (bits.length + 7) / 8 = B at hG hB g5
      have lp : ∀ (r i : Nat) (I3 : zJ), i + r = B → mf [85] [] I2 I3 → (∀ j, I3 85 j = if j < i then I2 86 j else I2 85 j) → g_M_write_356 c J (nI i) I3 P T := by
        intro r
        induction r with
        | zero =>
          intro i I3 hi f3 a3
          obtain rfl : i = B := by omega
          refine t_M_write_356 ?_
          rw [f3.2 5 (by decide), g5]
          refine br_t (nI_le (Nat.le_refl _) (by omega)) ?_
          have mk3 : mK I3 ks := mK_m (mK_m mk g0 (by decide) (by decide)) f3 (by decide) (by decide)
          refine v_note (b := b) mk3.1 mk3.2 hks4.2 (by omega) ((f3.2 19 (by decide)).trans ((g0.2 19 (by decide)).trans x19)) ((f3.2 17 (by decide)).trans ((g0.2 17 (by decide)).trans x17)) ((f3.2 18 (by decide)).trans ((g0.2 18 (by decide)).trans x18)) fun I4 f4 y34 y104 => ?_
          have e47 : I4 83 7 = nI bits.length := by rw [f4.2 7 (by decide), f3.2 7 (by decide), g0.2 7 (by decide)]; exact e7
          rw [e47]
          refine hG e1 I4 ⟨fun a a1 a2 => ?_, fun x hx => ?_⟩ (by rw [f4.2 0 (by decide), f3.2 0 (by decide)]; exact g00) (by rw [f4.2 5 (by decide), f3.2 5 (by decide)]; exact g5) (fun j => ?_) y34 ?_
          · rw [f4.1 a a1 (fun z => a2 (by simp only [List.mem_cons, List.not_mem_nil, or_false] at z; rw [z]; decide)), f3.1 a a1 (fun z => a2 (by simp only [List.mem_cons, List.not_mem_nil, or_false] at z; rw [z]; decide)), g0.1 a a1 (by simp)]
            exact e.1 a a1 (fun z => a2 (by rw [z]; decide)) (fun z => a2 (List.mem_cons_of_mem _ (List.mem_cons_of_mem _ (List.mem_cons_of_mem _ z))))
          · rw [f4.2 x (fun z => hx (by simp only [List.mem_cons, List.not_mem_nil, or_false] at z; rw [z]; decide)), f3.2 x (by simp), g0.2 x (fun z => hx (by simp only [List.mem_cons, List.not_mem_nil, or_false] at z; rcases z with z | z <;> rw [z] <;> decide))]
            exact e.2.1 x (fun z => hx (by rw [z]; decide)) (fun z => hx (List.mem_cons_of_mem _ (List.mem_cons_of_mem _ (List.mem_cons_of_mem _ (List.mem_cons_of_mem _ z)))))
          · rw [f4.1 85 (by decide) (by decide), a3 j, g0.1 86 (by decide) (by decide), g0.1 85 (by decide) (by decide), e.2.2.2, e.1 85 (by decide) (by decide) (by decide)]
          · rw [y104, f3.1 104 (by decide) (by decide), g0.1 104 (by decide) (by decide), e.1 104 (by decide) (by decide) (by decide)]
        | succ r ih =>
          intro i I3 hi f3 a3
          refine t_M_write_356 ?_
          rw [f3.2 5 (by decide), g5]
          refine br_f (nI_ge (by omega) (by omega)) ⟨vp_in_nI (by omega) (by decide), vp_in_nI (by omega) (by decide), ?_⟩
          rw [nc (n := i) (by omega), nI_add]
          refine ih (i + 1) _ (by omega) (mf_u f3 (by decide) (by decide)) fun j => ?_
          by_cases ej : j = i
          · rw [ej, xup_s, if_pos (by omega), f3.1 86 (by decide) (by decide)]
          · rw [xup_i ej, a3 j]
            by_cases ej2 : j < i
            · rw [if_pos ej2, if_pos (by omega)]
            · rw [if_neg ej2, if_neg (by omega)]
      exact lp B 0 I2 (by omega) mf_0 (fun j => by rw [if_neg (by omega)])
    · rw [xup_s]
      refine br_f (by decide) (hX (by omega) _ ⟨fun a a1 a2 => ?_, fun x hx => ?_⟩ xup_s ?_ ?_ ?_ ?_)
      · rw [xup_r a1]
        exact e.1 a a1 (fun z => a2 (by rw [z]; decide)) (fun z => a2 (List.mem_cons_of_mem _ (List.mem_cons_of_mem _ (List.mem_cons_of_mem _ z))))
      · rw [xup_i (fun z => hx (by rw [z]; decide))]
        exact e.2.1 x (fun z => hx (by rw [z]; decide)) (fun z => hx (List.mem_cons_of_mem _ (List.mem_cons_of_mem _ (List.mem_cons_of_mem _ (List.mem_cons_of_mem _ z)))))
      · rw [xup_i (by decide)]; exact e.2.1 5 (by decide) (by decide)
      · rw [xup_i (by decide)]; exact e.2.1 34 (by decide) (by decide)
      · rw [xup_r (by decide)]; exact e.1 85 (by decide) (by decide) (by decide)
      · rw [xup_r (by decide)]; exact e.1 104 (by decide) (by decide) (by decide)
  -- the image
  have st285 : ∀ (I1 : zJ) (bs : List Nat), bits = bs ++ imB b f3 (w1 * h) → qem wqS wqF 0 bs I I1 → mK I1 ks → (∀ j, j < w1 * h → I1 91 j = f3 j) → (∃ b1, b1 < 2 ∧ I1 83 9 = nI b1) → g_M_write_285 c J (nI b) (nI w1) I1 P T := by
    intro I1 bs hbs e mk hf ⟨b1, hb1, e9⟩
    have hbl := bl hbs
    refine t_M_write_285 ?_
    rw [e.2.1 2 (by decide) (by decide), h2, pk_mul]
    have go : ∀ z, z = nI (zcc b) → c_M_putImage c J (nI (w1 * h)) z (nI b) I1 (fun I3 => g_M_write_311 c J I3 P T) T := by
      intro z hz
      rw [hz]
      refine v_putImageM (f := f3) (h := 0 + bs.length) hb htot hf (fun k hk => by rw [e.1 105 (by decide) (by decide) (by decide)]; exact h105 k hk) e.2.2.1 (by omega) e9 hb1 fun I2 q2 x19 x17 x18 _ => fin I2 ?_ (mK_q mk q2 (by decide) (by decide)) x19 x17 x18
      rw [hbs]
      exact qem_t e (qem_s q2 (by decide) (by decide))
    have zk : ∀ b, b < 5 → b ≠ 0 → nI 1 <<< (nI b &&& 31) = nI (zcc b) := by decide
    exact pk_eq b 0 (fun e => go _ (by rw [e]; rfl)) (fun e => go _ (zk b (by omega) e))
  -- the pixels
  have st227 : ∀ (I1 : zJ) (bs : List Nat), bits = bs ++ imB b f3 (w1 * h) → qem wqS wqF 0 bs I I1 → mK I1 ks → (∃ b1, b1 < 2 ∧ I1 83 9 = nI b1) → (¬ v1 = nI 0 → I1 83 26 = nI n ∧ ∀ k, k < n → I1 98 k = S k) → g_M_write_227 c J v1 v2 v3 (nI b) (nI w1) I1 P T := by
    intro I1 bs hbs e mk b9 hS
    have x1 : I1 83 1 = nI w := (e.2.1 1 (by decide) (by decide)).trans h1
    have x2 : I1 83 2 = nI h := (e.2.1 2 (by decide) (by decide)).trans h2
    have x84 : I1 84 = px := (e.1 84 (by decide) (by decide) (by decide)).trans hpx
    have prep : ∀ I2, mf [92] [] I1 I2 → (∀ j, j < w1 * h → I2 92 j = wf1 v1 S n w px j) → c_M_prepare c J (nI w1) v2 v3 I2 (fun I4 => g_M_write_285 c J (nI b) (nI w1) I4 P T) T := by
      intro I2 f2 a2
      refine v_prepM hw10 hw18 hh hv3 ((f2.2 2 (by decide)).trans x2) a2 fun I4 f4 a4 => ?_
      have f24 : mf [91, 92] [] I1 I4 := mf_t (mf_s f2 (by decide) (by decide)) f4
      refine st285 I4 bs hbs (qem_tn e (mf_s f24 (by decide) (by decide)) (by decide) (by decide)) (mK_m mk f24 (by decide) (by decide)) (fun j hj => by rw [a4 j hj, hf3]) ?_
      rw [f24.2 9 (by decide)]
      exact b9
    refine t_M_write_227 ⟨fun ev => ?_, fun ev => ?_⟩
    · have a3 : w1 = w := by rw [← hw1]; exact if_pos ev
      have a2 : wf1 v1 S n w px = px := if_pos ev
      rw [a2] at prep
      have lp : ∀ (r i : Nat) (I2 : zJ), i + r = w * h → mf [92] [] I1 I2 → (∀ j, j < i → I2 92 j = px j) → g_M_write_243 c J v2 v3 (nI b) (nI w1) (nI i) I2 P T := by
        intro r
        induction r with
        | zero =>
          intro i I2 hi f2 b2
          refine t_M_write_243 ?_
          rw [f2.2 1 (by decide), f2.2 2 (by decide), x1, x2, pk_mul]
          exact br_t (nI_le (by omega) (by omega)) (prep I2 f2 (fun j hj => b2 j (by rw [a3] at hj; omega)))
        | succ r ih =>
          intro i I2 hi f2 b2
          refine t_M_write_243 ?_
          rw [f2.2 1 (by decide), f2.2 2 (by decide), x1, x2, pk_mul, nc (n := i) (by omega), nI_add]
          refine br_f (nI_ge (by omega) (by omega)) ⟨vp_in_nI (by omega) (by decide), vp_in_nI (by omega) (by decide), ih (i + 1) _ (by omega) (mf_u f2 (by decide) (by decide)) fun j hj => ?_⟩
          by_cases ej : j = i
          · rw [ej, xup_s, f2.1 84 (by decide) (by decide), x84]
          · rw [xup_i ej]; exact b2 j (by omega)
      exact lp (w * h) 0 I1 (by omega) mf_0 (fun j hj => absurd hj (by omega))
    · have a3 : w1 = pkw w n := by rw [← hw1]; exact if_neg ev
      have a2 : wf1 v1 S n w px = pkd S n w px := if_neg ev
      rw [a2, a3] at prep
      obtain ⟨y26, y98⟩ := hS ev
      exact v_packM (S := S) hw0 hw hh (hn1 ev).1 h16 x1 x2 y26 y98 x84 fun I2 f2 b2 => prep I2 f2 b2
  -- the modes
  have stm : ∀ (I1 : zJ) (bs : List Nat) (k2 : List (Nat × Nat)), bits = bs ++ wB3 v3 w1 h ++ bsv (nI 0) 1 ++ imB b f3 (w1 * h) → qem wqS wqF 0 bs I I1 → mK I1 k2 → ks = k2 ++ (if v3 = -1 then [] else [(0, 0)]) → k2.length ≤ 2 → (∃ b1, b1 < 2 ∧ I1 83 9 = nI b1) → (¬ v1 = nI 0 → I1 83 26 = nI n ∧ ∀ k, k < n → I1 98 k = S k) → ((v3 < nI 0 → g_M_write_221 c J v1 v2 v3 (nI b) (nI w1) I1 P T) ∧ (¬ (v3 < nI 0) → g_M_write_194 c J v1 v2 v3 (nI b) (nI w1) I1 P T)) := by
    intro I1 bs k2 hbs e mk hk hk2 b9 hS
    have hbl : bs.length ≤ 200000 := bl (by rw [hbs, List.append_assoc, List.append_assoc])
    rcases hv3 with e3 | ⟨md, hmd, e3⟩
    · rw [if_pos e3, List.append_nil] at hk
      have ew : wB3 v3 w1 h = [] := if_pos e3
      rw [ew, List.append_nil] at hbs
      refine br_t (by rw [e3]; decide) (t_M_write_221 (v_M_put e.2.2.1 (by omega) ?_))
      have q2 : qem wqS wqF (0 + bs.length) (bsv (nI 0) 1) I1 (em I1 83 7 86 (0 + bs.length) (bsv (nI 0) 1)) := qem_em
      refine st227 _ (bs ++ bsv (nI 0) 1) hbs (qem_t e q2) (by rw [hk]; exact mK_q mk (qem_em (S := []) (F := [])) (by decide) (by decide)) ?_ ?_
      · rw [em_f (by decide) (by decide)]; exact b9
      · intro ev
        rw [em_f (by decide) (by decide), em_r (by decide) (by decide)]
        exact hS ev
    · have e3' : ¬ v3 = -1 := by rw [e3]; exact md_m1 hmd
      rw [if_neg e3'] at hk
      have ew : wB3 v3 w1 h = wmB md w1 h := by unfold wB3; rw [if_neg e3', e3, nc (n := md) (by omega)]
      rw [ew] at hbs
      obtain ⟨b1, hb1, e9⟩ := b9
      refine br_f (by rw [e3]; exact nI_nlt (Nat.zero_le _) (by omega)) (t_M_write_194 ?_)
      rw [show c_M_putModes c J (nI w1) v3 = c_M_putModes c J (nI w1) (nI md) from by rw [e3]]
      refine v_putModM (x := 0 + bs.length) hw18 hh hmd ((e.2.1 2 (by decide) (by decide)).trans h2) (fun k hk => by rw [e.1 105 (by decide) (by decide) (by decide)]; exact h105 k hk) e.2.2.1 (by omega) e9 hb1 fun I2 q2 b2 => ?_
      obtain ⟨u1, u2, u3⟩ := mK_up (t := 0) (mK_q mk q2 (by decide) (by decide)) (by omega)
      refine ⟨u1, ?_⟩
      rw [u2]
      have e2 : qem wqS wqF 0 (bs ++ wmB md w1 h) I (xup (xup I2 94 k2.length (nI 0)) 83 22 (nI (k2.length + 1))) := qem_tn (qem_t e (qem_s q2 (by decide) (by decide))) (mf_f (mf_u mf_0 (by decide) (by decide)) (by decide)) (by decide) (by decide)
      have y9 : (xup (xup I2 94 k2.length (nI 0)) 83 22 (nI (k2.length + 1))) 83 9 = I2 83 9 := by rw [xup_i (by decide), xup_k (by decide)]
      have y26 : (xup (xup I2 94 k2.length (nI 0)) 83 22 (nI (k2.length + 1))) 83 26 = I1 83 26 := by rw [xup_i (by decide), xup_k (by decide)]; exact q2.2.1 26 (by decide) (by decide)
      have y98 : (xup (xup I2 94 k2.length (nI 0)) 83 22 (nI (k2.length + 1))) 98 = I1 98 := by rw [xup_r (by decide), xup_r (by decide)]; exact q2.1 98 (by decide) (by decide) (by decide)
      generalize xup (xup I2 94 k2.length (nI 0)) 83 22 (nI (k2.length + 1)) = I3 at u3 e2 y9 y26 y98
      have hbl2 : (bs ++ wmB md w1 h).length ≤ 200000 := bl (by rw [hbs, List.append_assoc])
      refine v_M_put e2.2.2.1 (by omega) ?_
      have q3 : qem wqS wqF (0 + (bs ++ wmB md w1 h).length) (bsv (nI 0) 1) I3 (em I3 83 7 86 (0 + (bs ++ wmB md w1 h).length) (bsv (nI 0) 1)) := qem_em
      refine st227 _ (bs ++ wmB md w1 h ++ bsv (nI 0) 1) hbs (qem_t e2 q3) (by rw [hk]; exact mK_q u3 (qem_em (S := []) (F := [])) (by decide) (by decide)) ?_ ?_
      · rw [em_f (by decide) (by decide), y9]; exact b2
      · intro ev
        rw [em_f (by decide) (by decide), em_r (by decide) (by decide), y26, y98]
        exact hS ev
  have stm0 : ∀ (I1 : zJ) (bs : List Nat) (k2 : List (Nat × Nat)), bits = bs ++ wB3 v3 w1 h ++ bsv (nI 0) 1 ++ imB b f3 (w1 * h) → qem wqS wqF 0 bs I I1 → mK I1 k2 → ks = k2 ++ (if v3 = -1 then [] else [(0, 0)]) → k2.length ≤ 2 → (∃ b1, b1 < 2 ∧ I1 83 9 = nI b1) → (¬ v1 = nI 0 → I1 83 26 = nI n ∧ ∀ k, k < n → I1 98 k = S k) → ((v1 = nI 0 → ((v3 < nI 0 → g_M_write_221 c J v1 v2 v3 (nI b) (I1 83 1) I1 P T) ∧ (¬ (v3 < nI 0) → g_M_write_194 c J v1 v2 v3 (nI b) (I1 83 1) I1 P T))) ∧ (¬ (v1 = nI 0) → g_M_write_170 c J v1 v2 v3 (nI b) I1 P T)) := by
    intro I1 bs k2 hbs e mk hk hk2 b9 hS
    have x1 : I1 83 1 = nI w := (e.2.1 1 (by decide) (by decide)).trans h1
    have base := stm I1 bs k2 hbs e mk hk hk2 b9 hS
    refine ⟨fun ev => ?_, fun ev => t_M_write_170 ?_⟩
    · have a3 : w1 = w := by rw [← hw1]; exact if_pos ev
      rw [x1, ← a3]
      exact base
    · have a3 : w1 = pkw w n := by rw [← hw1]; exact if_neg ev
      rw [x1, (hS ev).1, f_packed hw h16, ← a3]
      exact base
  -- green
  have stg : ∀ (I1 : zJ) (bs : List Nat) (k1 : List (Nat × Nat)), bits = bs ++ wB2 v2 ++ wB3 v3 w1 h ++ bsv (nI 0) 1 ++ imB b f3 (w1 * h) → qem wqS wqF 0 bs I I1 → mK I1 k1 → ks = k1 ++ (if v2 = nI 0 then [] else [(2, 0)]) ++ (if v3 = -1 then [] else [(0, 0)]) → k1.length ≤ 1 → (∃ b1, b1 < 2 ∧ I1 83 9 = nI b1) → (¬ v1 = nI 0 → I1 83 26 = nI n ∧ ∀ k, k < n → I1 98 k = S k) → ((v2 = nI 0 → g_M_write_166 c J v1 v2 v3 (nI b) I1 P T) ∧ (¬ (v2 = nI 0) → g_M_write_134 c J v1 v2 v3 (nI b) I1 P T)) := by
    intro I1 bs k1 hbs e mk hk hk1 b9 hS
    have hbl : bs.length ≤ 200000 := bl (by rw [hbs, List.append_assoc, List.append_assoc, List.append_assoc])
    refine ⟨fun ev => t_M_write_166 ?_, fun ev => t_M_write_134 ?_⟩
    · have ew : wB2 v2 = [] := if_pos ev
      rw [ew, List.append_nil] at hbs
      rw [if_pos ev, List.append_nil] at hk
      exact stm0 I1 bs k1 hbs e mk hk (by omega) b9 hS
    · have ew : wB2 v2 = bsv (nI 1) 1 ++ bsv (nI 2) 2 := if_neg ev
      rw [ew, ← List.append_assoc] at hbs
      rw [if_neg ev] at hk
      refine v_M_put e.2.2.1 (by omega) (v_M_put em_c (by simp only [bsv_len]; omega) ?_)
      rw [em_app (by decide)]
      have q2 : qem wqS wqF (0 + bs.length) (bsv (nI 1) 1 ++ bsv (nI 2) 2) I1 (em I1 83 7 86 (0 + bs.length) (bsv (nI 1) 1 ++ bsv (nI 2) 2)) := qem_em
      have m2 : mK (em I1 83 7 86 (0 + bs.length) (bsv (nI 1) 1 ++ bsv (nI 2) 2)) k1 := mK_q mk (qem_em (S := []) (F := [])) (by decide) (by decide)
      have z9 : (em I1 83 7 86 (0 + bs.length) (bsv (nI 1) 1 ++ bsv (nI 2) 2)) 83 9 = I1 83 9 := em_f (by decide) (by decide)
      have z26 : (em I1 83 7 86 (0 + bs.length) (bsv (nI 1) 1 ++ bsv (nI 2) 2)) 83 26 = I1 83 26 := em_f (by decide) (by decide)
      have z98 : (em I1 83 7 86 (0 + bs.length) (bsv (nI 1) 1 ++ bsv (nI 2) 2)) 98 = I1 98 := em_r (by decide) (by decide)
      generalize em I1 83 7 86 (0 + bs.length) (bsv (nI 1) 1 ++ bsv (nI 2) 2) = I2 at q2 m2 z9 z26 z98
      obtain ⟨u1, u2, u3⟩ := mK_up (t := 2) m2 (by omega)
      refine ⟨u1, ?_⟩
      rw [u2]
      refine nm_e ?_
      have e2 := qem_tn (qem_t e q2) (I2 := xup (xup I2 94 k1.length (nI 2)) 83 22 (nI (k1.length + 1))) (mf_f (mf_u mf_0 (by decide) (by decide)) (by decide)) (by decide) (by decide)
      rw [← List.append_assoc] at e2
      have y9 : (xup (xup I2 94 k1.length (nI 2)) 83 22 (nI (k1.length + 1))) 83 9 = I1 83 9 := by rw [xup_i (by decide), xup_k (by decide)]; exact z9
      have y26 : (xup (xup I2 94 k1.length (nI 2)) 83 22 (nI (k1.length + 1))) 83 26 = I1 83 26 := by rw [xup_i (by decide), xup_k (by decide)]; exact z26
      have y98 : (xup (xup I2 94 k1.length (nI 2)) 83 22 (nI (k1.length + 1))) 98 = I1 98 := by rw [xup_r (by decide), xup_r (by decide)]; exact z98
      generalize xup (xup I2 94 k1.length (nI 2)) 83 22 (nI (k1.length + 1)) = I3 at u3 e2 y9 y26 y98
      refine stm0 I3 (bs ++ bsv (nI 1) 1 ++ bsv (nI 2) 2) (k1 ++ [(2, 0)]) hbs e2 u3 hk (by simp only [List.length_append, List.length_cons, List.length_nil]; omega) (by rw [y9]; exact b9) ?_
      intro ev2
      rw [y26, y98]
      exact hS ev2
  -- the start
  have e0 : qem wqS wqF 0 [] I (xup (xup (xup I 83 7 (nI 0)) 83 22 (nI 0)) 83 9 (nI 0)) := ⟨fun a a1 _ _ => by rw [xup_r a1, xup_r a1, xup_r a1], fun x x1 x2 => by rw [xup_i (fun z => x2 (by rw [z]; decide)), xup_i (fun z => x2 (by rw [z]; decide)), xup_i x1], by rw [xup_i (by decide), xup_i (by decide), xup_s]; rfl, by rw [xup_r (by decide), xup_r (by decide), xup_r (by decide)]; rfl⟩
  have m0 : mK (xup (xup (xup I 83 7 (nI 0)) 83 22 (nI 0)) 83 9 (nI 0)) [] := ⟨by rw [xup_i (by decide), xup_s]; rfl, fun i q hq => by rw [List.getElem?_nil] at hq; cases hq⟩
  have n0 : (xup (xup (xup I 83 7 (nI 0)) 83 22 (nI 0)) 83 9 (nI 0)) 83 9 = nI 0 := xup_s
  refine t_M_write_53 ?_
  generalize xup (xup (xup I 83 7 (nI 0)) 83 22 (nI 0)) 83 9 (nI 0) = I0 at e0 m0 n0
  refine v_M_put e0.2.2.1 (by simp only [List.length_nil]; omega) ?_
  rw [em_f (by decide) (by decide), e0.2.1 1 (by decide) (by decide), h1, pk_sub hw0]
  refine v_M_put em_c (by simp only [List.length_nil, bsv_len]; omega) ?_
  rw [em_app (by decide), em_f (by decide) (by decide), e0.2.1 2 (by decide) (by decide), h2, pk_sub hh0]
  refine v_M_put em_c (by simp only [List.length_nil, List.length_append, bsv_len]; omega) ?_
  rw [em_app (by decide)]
  have eb0 : bsv (nI 47) 8 ++ bsv (nI (w - 1)) 3 ++ bsv (nI (h - 1)) 3 = wB0 w h := rfl
  rw [eb0]
  have e3 := qem_t (bs := []) (cs := wB0 w h) e0 (qem_em (S := wqS) (F := wqF))
  rw [List.nil_append] at e3
  have m3 : mK (em I0 83 7 86 (0 + ([] : List Nat).length) (wB0 w h)) [] := mK_q m0 (qem_em (S := []) (F := [])) (by decide) (by decide)
  have n3 : (em I0 83 7 86 (0 + ([] : List Nat).length) (wB0 w h)) 83 9 = nI 0 := (em_f (by decide) (by decide)).trans n0
  generalize em I0 83 7 86 (0 + ([] : List Nat).length) (wB0 w h) = I3 at e3 m3 n3
  have hk0 : ks = (if v1 = nI 0 then [] else [(3, 0)]) ++ (if v2 = nI 0 then [] else [(2, 0)]) ++ (if v3 = -1 then [] else [(0, 0)]) := by rw [← hks]; rfl
  refine ⟨fun ev => ?_, fun ev => ?_⟩
  · have ew : wB1 v1 S n = [] := if_pos ev
    rw [ew, List.append_nil] at hbits
    rw [if_pos ev] at hk0
    exact stg I3 (wB0 w h) [] hbits e3 m3 hk0 (by decide) ⟨0, by decide, n3⟩ (fun z => absurd ev z)
  · have ew : wB1 v1 S n = wpB S n := if_neg ev
    rw [ew] at hbits
    rw [if_neg ev] at hk0
    obtain ⟨hn, hs, hc⟩ := hn1 ev
    refine v_findM (S := S) (n := n) hw hh ((e3.2.1 1 (by decide) (by decide)).trans h1) ((e3.2.1 2 (by decide) (by decide)).trans h2) ((e3.1 84 (by decide) (by decide) (by decide)).trans hpx) hs hc h16 fun I4 f4 x26 x98 => ?_
    have e4 := qem_tn e3 (mf_s f4 (S' := wqS) (F' := wqF) (by decide) (by decide)) (by decide) (by decide)
    have lb0 : (wB0 w h).length = 14 := by unfold wB0; simp only [List.length_append, bsv_len]
    refine v_putPalM (x := 0 + (wB0 w h).length) (S := S) hn h16 x26 x98 (fun k hk => by rw [e4.1 105 (by decide) (by decide) (by decide)]; exact h105 k hk) e4.2.2.1 (by omega) ((f4.2 9 (by decide)).trans n3) (by decide) fun I5 q5 b5 => ?_
    obtain ⟨u1, u2, u3⟩ := mK_up (t := 3) (mK_q (mK_m m3 f4 (by decide) (by decide)) q5 (by decide) (by decide)) (by decide)
    refine ⟨u1, ?_⟩
    rw [u2]
    refine nm_e ?_
    have e5 := qem_tn (qem_t e4 (qem_s q5 (S' := wqS) (F' := wqF) (by decide) (by decide))) (I2 := xup (xup I5 94 ([] : List (Nat × Nat)).length (nI 3)) 83 22 (nI (([] : List (Nat × Nat)).length + 1))) (mf_f (mf_u mf_0 (by decide) (by decide)) (by decide)) (by decide) (by decide)
    have y9 : (xup (xup I5 94 ([] : List (Nat × Nat)).length (nI 3)) 83 22 (nI (([] : List (Nat × Nat)).length + 1))) 83 9 = I5 83 9 := by rw [xup_i (by decide), xup_k (by decide)]
    have y26 : (xup (xup I5 94 ([] : List (Nat × Nat)).length (nI 3)) 83 22 (nI (([] : List (Nat × Nat)).length + 1))) 83 26 = I4 83 26 := by rw [xup_i (by decide), xup_k (by decide)]; exact q5.2.1 26 (by decide) (by decide)
    have y98 : (xup (xup I5 94 ([] : List (Nat × Nat)).length (nI 3)) 83 22 (nI (([] : List (Nat × Nat)).length + 1))) 98 = I4 98 := by rw [xup_r (by decide), xup_r (by decide)]; exact q5.1 98 (by decide) (by decide) (by decide)
    generalize xup (xup I5 94 ([] : List (Nat × Nat)).length (nI 3)) 83 22 (nI (([] : List (Nat × Nat)).length + 1)) = I6 at u3 e5 y9 y26 y98
    exact stg I6 (wB0 w h ++ wpB S n) [(3, 0)] hbits e5 u3 hk0 (by decide) (by rw [y9]; exact b5) (fun _ => by rw [y26, y98]; exact ⟨x26, x98⟩)
end MW
