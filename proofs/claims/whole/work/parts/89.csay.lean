/-! THE CLASS SAYS AN IMAGE. -/
def sbh (t : zSy) : Nat := if t.1 = 4 then zbeh t.2.1 else if t.1 = 0 ∧ 256 ≤ t.2.1 ∧ t.2.1 < 280 then zbeh (t.2.1 - 256) else 0
def tB (b : Nat) (ts : List zSy) (t : zSy) : List Nat := symB (cdL (hsy ts t.1) (zsz b t.1)) (zsz b t.1) t.2.1 ++ bsv t.2.2 (sbh t)
def cdsB (b : Nat) (ts : List zSy) : Nat → List Nat
  | 0 => []
  | w + 1 => cdsB b ts w ++ cdB (hsy ts w) (zsz b w)
def hdB (b : Nat) : List Nat := bsv (nI (if b = 0 then 0 else 1)) 1 ++ bsv (nI (b - 1)) (if b = 0 then 0 else 2)
def imT (b : Nat) (ts : List zSy) : List Nat := hdB b ++ cdsB b ts 5 ++ ts.flatMap (tB b ts)
def itms (b : Nat) (f : Nat → Int32) (tot : Nat) : List zIt := mkI b f tot tot 0 (fun _ => nI 0)
def imB (b : Nat) (f : Nat → Int32) (tot : Nat) : List Nat := imT b (sys (itms b f tot))
abbrev csS : List Nat := [14, 15, 16, 17, 18, 19, 20, 21, 22, 23, 24, 25, 26, 27, 28, 29, 30, 31, 32, 33, 34, 35, 36, 37, 38, 39, 40, 41, 42, 43, 44, 45, 46, 47, 48, 49, 50, 51, 52, 53, 54, 55, 56, 57, 58, 59, 60, 61, 62, 63, 64, 65, 66, 67, 68, 69, 70, 71, 72, 73, 74, 75, 76, 77, 78, 79, 80]
theorem cs_in {a : Nat} : a ∈ csS ↔ 14 ≤ a ∧ a < 81 := by
  simp only [csS, List.mem_cons, List.not_mem_nil, or_false]
  omega
theorem cs_no {a : Nat} (h : a < 14 ∨ 80 < a) : a ∉ csS := by rw [cs_in]; omega
theorem hsy_mem {ts : List zSy} {t : zSy} (h : t ∈ ts) : hsy ts t.1 t.2.1 = true := by
  unfold hsy
  rw [List.any_eq_true]
  exact ⟨t, h, by simp⟩
theorem cdL_pos {b : Nat} (hb : b ≤ 4) {ts : List zSy} {t : zSy} (h : t ∈ ts) (hk : okS b t) : 1 ≤ cdL (hsy ts t.1) (zsz b t.1) t.2.1 := by
  have h1 := cntp_lt (q := hsy ts t.1) hk.2 (hsy_mem h)
  have hz := zsz_lx (b := b) hb hk.1
  unfold cdL
  rw [usd_1 (by omega)]
  exact bal_pos (by omega) hk.2 (hsy_mem h)
theorem cdL_le {b : Nat} (hb : b ≤ 4) {ts : List zSy} {w x : Nat} (hw : w < 5) : cdL (hsy ts w) (zsz b w) x ≤ 9 := by
  have hz := zsz_lx (b := b) hb hw
  exact bal_le (by omega)
theorem sbh_le {b : Nat} {t : zSy} (hk : okS b t) : sbh t ≤ 18 := by
  unfold sbh
  by_cases e : t.1 = 4
  · rw [if_pos e]
    refine z_beh_le _ ?_
    have := hk.2
    rw [e] at this
    exact this
  · rw [if_neg e]
    by_cases e2 : t.1 = 0 ∧ 256 ≤ t.2.1 ∧ t.2.1 < 280
    · rw [if_pos e2]; exact z_beh_le _ (by omega)
    · rw [if_neg e2]; omega
theorem tB_len {b : Nat} (hb : b ≤ 4) {ts : List zSy} {t : zSy} (hk : okS b t) : (tB b ts t).length ≤ 33 := by
  unfold tB
  rw [List.length_append, bsv_len]
  have h1 := symB_len (l := cdL (hsy ts t.1) (zsz b t.1)) (s := zsz b t.1) (x := t.2.1) (Nat.le_trans (cdL_le hb hk.1) (by decide))
  have h2 := sbh_le hk
  omega
theorem tsB_len {b : Nat} (hb : b ≤ 4) {ts : List zSy} : ∀ (us : List zSy), (∀ t, t ∈ us → okS b t) → (us.flatMap (tB b ts)).length ≤ 33 * us.length
  | [], _ => Nat.le_refl _
  | t :: us, h => by
    have h1 := tsB_len hb (ts := ts) us fun t ht => h t (List.mem_cons_of_mem _ ht)
    have h2 := tB_len hb (ts := ts) (h t List.mem_cons_self)
    rw [List.flatMap_cons, List.length_append, List.length_cons]
    omega
theorem cdsB_len {b : Nat} (hb : b ≤ 4) (ts : List zSy) : ∀ w, w ≤ 5 → (cdsB b ts w).length ≤ 7001 * w
  | 0, _ => Nat.le_refl _
  | w + 1, h => by
    have h1 := cdsB_len hb ts w (by omega)
    have hz := zsz_lx (b := b) hb (show w < 5 by omega)
    have h2 := cdB_len (U := hsy ts w) (s := zsz b w) (by omega)
    show (cdsB b ts w ++ cdB (hsy ts w) (zsz b w)).length ≤ _
    rw [List.length_append]
    omega
theorem hdB_len (b : Nat) : (hdB b).length ≤ 3 := by
  unfold hdB
  rw [List.length_append, bsv_len, bsv_len]
  by_cases e : b = 0
  · rw [if_pos e]; omega
  · rw [if_neg e]; omega
theorem arr_eq {I I1 : zJ} {o s : Nat} {l : Nat → Nat} (h : arr I o s l) (e : ∀ a, o ≤ a → a ≤ o + 6 → I1 a = I a) : arr I1 o s l := by
  refine ⟨⟨⟨?_, ?_, h.1.1.2.2⟩, ?_, ?_⟩, ?_⟩
  · rw [e o (by omega) (by omega)]; exact h.1.1.1
  · intro k hk; rw [e (o + 4) (by omega) (by omega)]; exact h.1.1.2.1 k hk
  · intro y y1 y2; rw [e (o + 1) (by omega) (by omega)]; exact h.1.2.1 y y1 y2
  · rw [e o (by omega) (by omega)]; exact h.1.2.2
  · intro k k1 k2; rw [e (o + 6) (by omega) (by omega), e (o + 5) (by omega) (by omega)]; exact h.2 k k1 k2
theorem cde_eq {I I1 : zJ} {o s : Nat} {l : Nat → Nat} (h : cde I o s l) (e : ∀ a, o ≤ a → a ≤ o + 6 → I1 a = I a) : cde I1 o s l := by
  refine ⟨?_, ?_, h.2.2⟩
  · rw [e o (by omega) (by omega)]; exact h.1
  · intro k hk; rw [e (o + 4) (by omega) (by omega)]; exact h.2.1 k hk
section SI
variable {c : zC} {J : zK} {T : Nat → zJ → Prop} {P : zJ → Prop} {b h : Nat} {ts : List zSy}
theorem v_behindC {P : Int32 → zJ → Prop} {I : zJ} {t : zSy} (hb : b ≤ 4) (hk : okS b t) (hP : P (nI (sbh t)) I) : c_ImageWriter_bitsBehind c J (nI t.1) (nI t.2.1) I P T := by
  have h1 := hk.1
  have hz := zsz_lx (b := b) hb hk.1
  have h2 := hk.2
  have h3 : t.2.1 < 2 ^ 31 := by omega
  unfold sbh at hP
  refine t_ImageWriter_bitsBehind (pk_eq t.1 4 (fun e => ?_) (fun e => pk_eq t.1 0 (fun e0 => pk_lt t.2.1 256 (fun e1 => ?_) (fun e1 => pk_le 280 t.2.1 (fun e2 => ?_) (fun e2 => br_f (by decide) ?_) rfl rfl (by decide) h3) rfl rfl h3 (by decide)) (fun e0 => ?_) rfl rfl (by omega) (by decide)) rfl rfl (by omega) (by decide))
  · rw [if_pos e] at hP
    rw [e] at h2
    have : t.2.1 < 40 := h2
    rw [f_beh this]
    exact hP
  · rw [if_neg e, if_neg (by omega)] at hP
    exact t_ImageWriter_bitsBehind_32 (br_t rfl hP)
  · rw [if_neg e, if_neg (by omega)] at hP
    exact t_ImageWriter_bitsBehind_32 (br_t rfl hP)
  · rw [if_neg e, if_pos ⟨e0, e1, e2⟩] at hP
    rw [pk_sub e1, f_beh (by omega)]
    exact hP
  · rw [if_neg e, if_neg (by omega)] at hP
    exact t_ImageWriter_bitsBehind_32 (br_t rfl hP)
theorem l_say88 {I0 : zJ} (hb : b ≤ 4) (hok : ∀ t, t ∈ ts → okS b t) (hl : ts.length ≤ 256) (h6 : I0 67 6 = nI ts.length) (hr : ∀ i t, ts[i]? = some t → I0 78 i = nI t.1 ∧ I0 79 i = nI t.2.1 ∧ I0 80 i = t.2.2) (ha : ∀ w, w < 5 → arr I0 (14 + 7 * w) (zsz b w) (cdL (hsy ts w) (zsz b w))) (hh : h + 20000 < 2 ^ 30)
    (hP : P (em I0 11 1 12 h (ts.flatMap (tB b ts)))) : ∀ (us vs : List zSy), vs ++ us = ts → g_ImageWriter_say_88 c J 11 (nI vs.length) (em I0 11 1 12 h (vs.flatMap (tB b ts))) P T := by
  intro us
  induction us with
  | nil =>
    intro vs he
    rw [List.append_nil] at he
    subst he
    refine t_ImageWriter_say_88 zbi_11 ?_
    rw [em_r (by decide) (by decide), h6]
    exact br_t (nI_le (Nat.le_refl _) (by omega)) hP
  | cons t us ih =>
    intro vs he
    have hlen : vs.length < ts.length := by rw [← he, List.length_append, List.length_cons]; omega
    have ht : ts[vs.length]? = some t := by rw [← he, List.getElem?_append_right (Nat.le_refl _), Nat.sub_self]; rfl
    have hm : t ∈ ts := List.mem_of_getElem? ht
    have hk := hok t hm
    have hz := zsz_lx (b := b) hb hk.1
    obtain ⟨r1, r2, r3⟩ := hr _ _ ht
    have vi : vp_in (nI vs.length) 256 := vp_in_nI (by omega) (by decide)
    have hfl := tsB_len hb (ts := ts) vs fun t ht => hok t (by rw [← he]; exact List.mem_append_left _ ht)
    have h15 := Nat.le_trans (cdL_le hb (ts := ts) (x := t.2.1) hk.1) (show 9 ≤ 15 by decide)
    have hsl := symB_len (l := cdL (hsy ts t.1) (zsz b t.1)) (s := zsz b t.1) (x := t.2.1) h15
    have hsb := sbh_le hk
    refine t_ImageWriter_say_88 zbi_11 ?_
    rw [em_r (by decide) (by decide), h6, nc (n := vs.length) (by omega), em_r (by decide) (by decide), r1]
    refine br_f (nI_ge (by omega) (by omega)) ⟨vi, v_ofw hk.1 ⟨zmx t.1, zco_w hk.1, vi, ?_⟩⟩
    rw [em_r (by decide) (by decide), r2]
    refine v_Code_say (zco_w hk.1) (by omega) hz.1 (by omega) (arr_eq (ha t.1 hk.1) fun a a1 a2 => em_r (by omega) (by have := hk.1; omega)) hk.2 (cdL_pos hb hm hk) em_c (by omega) ⟨vi, vi, vi, ?_⟩
    rw [em_app (by decide), em_r (by decide) (by decide), em_r (by decide) (by decide), em_r (by decide) (by decide), r1, r2, r3]
    refine v_behindC hb hk (v_Bits_put zbi_11 em_c (by rw [List.length_append]; omega) ?_)
    rw [em_app (by decide), nI_add]
    have e1 : vs.flatMap (tB b ts) ++ symB (cdL (hsy ts t.1) (zsz b t.1)) (zsz b t.1) t.2.1 ++ bsv t.2.2 (sbh t) = (vs ++ [t]).flatMap (tB b ts) := by
      rw [List.flatMap_append, List.flatMap_cons, List.flatMap_nil, List.append_nil, List.append_assoc]
      rfl
    have := ih (vs ++ [t]) (by rw [List.append_assoc]; exact he)
    rw [e1]
    rw [List.length_append] at this
    exact this
theorem v_sayC {I : zJ} {o m w hh tot : Nat} {f : Nat → Int32} (hp : zpl c o m) (ho : o = 7 ∨ o = 53 ∨ o = 57) (hm : m ≤ 64) (hb : b ≤ 4) (hw : I o 1 = nI w) (hh2 : I o 2 = nI hh) (htot : tot = w * hh) (htm : tot ≤ m) (hf : ∀ k, k < tot → I (o + 1) k = f k) (r1 : I 1 = fun j => zSO.getD j 0) (h1 : I 11 1 = nI h) (hhh : h + 200000 < 2 ^ 30)
    (hP : ∀ I1, cem csS h (imB b f tot) I I1 → I1 49 1 = nI b → I1 67 7 = nI (nkd (itms b f tot) 1) → I1 67 8 = nI (nkd (itms b f tot) 2) → P I1) : c_ImageWriter_say c J 11 o (nI b) I P T := by
  refine t_ImageWriter_say zbi_11 hp (t_Cache_open (v_A_fill zw_50 (by decide) ?_))
  have fI : fr [49, 50] I (xfil (xup I 49 1 (nI b)) 50 0 16 (nI 0)) := fr_fil (fr_u fr_0 (by decide)) (by decide)
  have e49 : (xfil (xup I 49 1 (nI b)) 50 0 16 (nI 0)) 49 1 = nI b := by rw [xfil_r (by decide), xup_s]
  have e50 : ∀ k, k < 16 → (xfil (xup I 49 1 (nI b)) 50 0 16 (nI 0)) 50 k = nI 0 := fun k hk => xfil_in (by omega) hk
  generalize xfil (xup I 49 1 (nI b)) 50 0 16 (nI 0) = I2 at fI e49 e50
  have ec : f_Cache_colourCount I2 = nI (zcc b) := by
    unfold f_Cache_colourCount
    rw [e49]
    have key2 : ∀ b, b < 5 → (if nI b = nI 0 then nI 0 else nI 1 <<< (nI b &&& 31)) = nI (zcc b) := by decide
    exact key2 b (by omega)
  rw [ec]
  refine v_clear5 hb fun I3 f3 d3 => ?_
  have ho' : o ∉ [49, 50] ∧ o + 1 ∉ [49, 50] ∧ o ∉ [14, 18, 21, 25, 28, 32, 35, 39, 42, 46] ∧ o + 1 ∉ [14, 18, 21, 25, 28, 32, 35, 39, 42, 46] := by
    rcases ho with e | e | e <;> subst e <;> decide
  refine v_makeUpC (f := f) hp ho hm hb (by rw [f3 o ho'.2.2.1, fI o ho'.1]; exact hw) (by rw [f3 o ho'.2.2.1, fI o ho'.1]; exact hh2) htot htm (by rw [f3 49 (by decide)]; exact e49) (fun k hk => by rw [f3 50 (by decide)]; exact e50 k hk) (fun k hk => by rw [f3 (o + 1) ho'.2.2.2, fI (o + 1) ho'.2.1]; exact hf k hk) (fun w hw => (d3 w hw).2 (Nat.zero_le _)) fun I4 f4 n4 y7 y8 => ?_
  have f04 : fr csS I I4 := fr_t (fr_s fI (by decide)) (fr_t (fr_s f3 (by decide)) (fr_s f4 (by decide)))
  have x49 : I4 49 1 = nI b := by rw [f4 49 (by decide), f3 49 (by decide)]; exact e49
  have hok : ∀ t, t ∈ sys (itms b f tot) → okS b t := by
    intro t ht
    obtain ⟨y, hy, hyt⟩ := List.mem_flatMap.mp ht
    exact sy_ok hb (mkI_ok hb f (by omega) _ _ _ y hy) t hyt
  unfold imB at hP
  have h67 : I4 67 6 = nI (sys (itms b f tot)).length := n4.1
  have hl256 : (sys (itms b f tot)).length ≤ 256 := by
    have e : ∀ k i C, i ≤ tot → (sys (mkI b f tot k i C)).length ≤ 4 * (tot - i) := by
      intro k
      induction k with
      | zero => intro i C _; exact Nat.zero_le _
      | succ k ih =>
        intro i C hi
        unfold mkI
        by_cases e0 : tot ≤ i
        · rw [if_pos e0]; exact Nat.zero_le _
        · rw [if_neg e0]
          by_cases e1 : 3 ≤ (bst f tot i i).1
          · rw [if_pos e1]
            have h1 := ih (i + (bst f tot i i).1) (kpN b f (bst f tot i i).1 i C) (by have := bst_le f tot i i; omega)
            have h2 := sy_len (1, (bst f tot i i).1, (bst f tot i i).2, nI 0)
            unfold sys at h1 ⊢
            rw [List.flatMap_cons, List.length_append]
            omega
          · rw [if_neg e1]
            have h1 := ih (i + 1) (kpN b f 1 i C) (by omega)
            have h2 := sy_len (if 0 < b ∧ C (hsh b (f i)) = f i then (2, hsh b (f i), 0, nI 0) else (0, 0, 0, f i))
            unfold sys at h1 ⊢
            rw [List.flatMap_cons, List.length_append]
            omega
    have := e tot 0 (fun _ => nI 0) (Nat.zero_le _)
    unfold itms
    omega
  have n4' : cno I4 b (sys (itms b f tot)) := n4
  have y7' : I4 67 7 = nI (nkd (itms b f tot) 1) := y7
  have y8' : I4 67 8 = nI (nkd (itms b f tot) 2) := y8
  generalize nkd (itms b f tot) 1 = N1 at hP y7'
  generalize nkd (itms b f tot) 2 = N2 at hP y8'
  clear n4 y7 y8
  generalize sys (itms b f tot) = ts at hP hok h67 hl256 n4'
  have hdl := hdB_len b
  have h11 : I4 11 1 = nI h := by rw [f04 11 (by decide)]; exact h1
  -- the codes
  have cods : ∀ (n w : Nat) (I5 : zJ), w + n = 5 → cem csS h (hdB b ++ cdsB b ts w) I I5 → I5 67 = I4 67 → I5 78 = I4 78 → I5 79 = I4 79 → I5 80 = I4 80 → I5 49 1 = nI b → (∀ v, v < 5 → (v < w → arr I5 (14 + 7 * v) (zsz b v) (cdL (hsy ts v) (zsz b v))) ∧ (w ≤ v → cde I5 (14 + 7 * v) (zsz b v) (us1 (hsy ts v)))) → g_ImageWriter_say_56 c J 11 (nI w) I5 P T := by
    intro n
    induction n with
    | zero =>
      intro w I5 hw5 ce e67 e78 e79 e80 z49 hc
      obtain rfl : w = 5 := by omega
      have hcl := cdsB_len hb ts 5 (Nat.le_refl _)
      refine t_ImageWriter_say_56 zbi_11 (br_t (by decide) ?_)
      have := l_say88 (c := c) (J := J) (T := T) (P := P) (I0 := I5) (h := h + (hdB b ++ cdsB b ts 5).length) hb hok hl256 (by rw [e67]; exact h67) (fun i t ht => by rw [e78, e79, e80]; exact n4'.2.1 i t ht) (fun w hw => (hc w hw).1 hw) (by rw [List.length_append]; omega) (hP _ (cem_t ce cem_em) (by rw [em_r (by decide) (by decide)]; exact z49) (by rw [em_r (by decide) (by decide), e67]; exact y7') (by rw [em_r (by decide) (by decide), e67]; exact y8')) ts [] rfl
      rw [show ([] : List zSy).flatMap (tB b ts) = [] from rfl, em_0 ce.2.2.1] at this
      exact this
    | succ n ih =>
      intro w I5 hw5 ce e67 e78 e79 e80 z49 hc
      have hz := zsz_lx (b := b) hb (show w < 5 by omega)
      have hcl := cdsB_len hb ts w (by omega)
      refine t_ImageWriter_say_56 zbi_11 (br_f (nI_ge (by omega) (by decide)) (v_ofw (by omega) ⟨zmx w, zco_w (by omega), ?_⟩))
      refine v_CW_say (h := h + (hdB b ++ cdsB b ts w).length) (zco_w (by omega)) (by omega) (by omega) hz.1 hz.2.1 (by omega) (by omega) ((hc w (by omega)).2 (Nat.le_refl _)) (by rw [ce.1 1 (by decide) (by decide) (by decide)]; exact r1) ce.2.2.1 (by rw [List.length_append]; omega) fun I6 c6 a6 => ?_
      rw [nI_add]
      have far : ∀ a, a ≠ 11 → a ≠ 12 → (a < 14 + 7 * w ∨ 14 + 7 * w + 6 < a) → (a < 68 ∨ 77 < a) → I6 a = I5 a := fun a a1 a2 a3 a4 => c6.1 a a1 a2 (by simp; omega)
      refine ih (w + 1) I6 (by omega) ?_ (by rw [far 67 (by decide) (by decide) (by omega) (by omega)]; exact e67) (by rw [far 78 (by decide) (by decide) (by omega) (by omega)]; exact e78) (by rw [far 79 (by decide) (by decide) (by omega) (by omega)]; exact e79) (by rw [far 80 (by decide) (by decide) (by omega) (by omega)]; exact e80) (by rw [far 49 (by decide) (by decide) (by omega) (by omega)]; exact z49) (fun v hv => ⟨fun hvw => ?_, fun hvw => ?_⟩)
      · have := cem_t ce (cem_s c6 (S' := csS) fun a ha => by
          rw [cs_in]
          simp only [cdSx, List.mem_cons, List.not_mem_nil, or_false] at ha
          omega)
        rw [List.append_assoc] at this
        exact this
      · by_cases e : v = w
        · subst e; exact a6
        · exact arr_eq ((hc v hv).1 (by omega)) fun a a1 a2 => far a (by omega) (by omega) (by omega) (by omega)
      · exact cde_eq ((hc v hv).2 (by omega)) fun a a1 a2 => far a (by omega) (by omega) (by omega) (by omega)
  have start : ∀ I5, cem csS h (hdB b) I I5 → I5 = em I4 11 1 12 h (hdB b) → g_ImageWriter_say_56 c J 11 (nI 0) I5 P T := by
    intro I5 c5 e5
    have er : ∀ a, a ≠ 11 → a ≠ 12 → I5 a = I4 a := fun a a1 a2 => by rw [e5]; exact em_r a1 a2
    refine cods 5 0 I5 (by decide) ?_ (er 67 (by decide) (by decide)) (er 78 (by decide) (by decide)) (er 79 (by decide) (by decide)) (er 80 (by decide) (by decide)) (by rw [er 49 (by decide) (by decide)]; exact x49) (fun v hv => ⟨fun z => absurd z (by omega), fun _ => cde_eq (n4'.2.2 v hv) fun a a1 a2 => er a (by omega) (by omega)⟩)
    rw [show cdsB b ts 0 = [] from rfl, List.append_nil]
    exact c5
  have cst : cem csS h (hdB b) I (em I4 11 1 12 h (hdB b)) := cem_nt f04 (by decide) (by decide) h1 cem_em
  refine pk_eq b 0 (fun e => v_Bits_put zbi_11 h11 (by omega) ?_) (fun e => v_Bits_put zbi_11 h11 (by omega) ?_) rfl rfl (by omega) (by decide)
  · have eh : hdB b = bsv (nI 0) 1 := by
      unfold hdB
      rw [if_pos e, if_pos e]
      exact List.append_nil _
    refine t_ImageWriter_say_41 zbi_11 (br_t (nI_le (by omega) (by omega)) ?_)
    rw [eh] at cst start
    exact start _ cst rfl
  · have eh : hdB b = bsv (nI 1) 1 ++ bsv (nI (b - 1)) 2 := by
      unfold hdB
      rw [if_neg e, if_neg e]
    refine t_ImageWriter_say_41 zbi_11 (br_f (nI_nle (by omega) (by omega)) (v_Bits_put zbi_11 em_c (by rw [bsv_len]; omega) ?_))
    rw [em_app (by decide), pk_sub (by omega)]
    rw [eh] at cst start
    exact start _ cst rfl
end SI
