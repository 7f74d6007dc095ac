/-! THE REFERENCE PUTS AN IMAGE: codes, items, all of it. -/
abbrev qiS : List Nat := [87, 88, 89, 90, 93, 99, 100, 101, 102, 103]
abbrev qiF : List Nat := [9, 17, 18, 19, 30, 33]
section MQ
variable {c : zC} {J : zK} {T : Nat → zJ → Prop} {P : zJ → Prop} {b h tot : Nat} {f : Nat → Int32}
theorem mit_mf {S F : List Nat} {I I1 : zJ} {ys : List zIt} (hm : mit I ys) (hf : mf S F I I1) (h1 : 99 ∉ S) (h2 : 100 ∉ S) (h3 : 101 ∉ S) (h4 : 30 ∉ F) : mit I1 ys := ⟨(hf.2 30 h4).trans hm.1, fun i y hy => mrow_eq (hm.2 i y hy) (by rw [hf.1 99 (by decide) h1]) (by rw [hf.1 100 (by decide) h2]) (by rw [hf.1 101 (by decide) h3])⟩
theorem mrd_em {I : zJ} {bs : List Nat} {k s : Nat} {l : Nat → Nat} (hd : mrd I k s l) : mrd (em I 83 7 86 h bs) k s l := by
  obtain ⟨⟨m1, m2, m3, m4, m5⟩, m6⟩ := hd
  exact ⟨⟨m1, m2, m3, by rw [em_r (by decide) (by decide)]; exact m4, fun j hj => by rw [em_r (by decide) (by decide)]; exact m5 j hj⟩, by rw [em_r (by decide) (by decide)]; exact m6⟩
theorem l_items {I0 : zJ} {ys : List zIt} {ts : List zSy} (hts : ts = sys ys) (hb : b ≤ 4) (hok : ∀ y, y ∈ ys → okI b y) (hl : ys.length ≤ 64) (hm : mit I0 ys) (hd : ∀ w, w < 5 → mrd I0 w (zsz b w) (cdL (hsy ts w) (zsz b w))) (hh : h + 20000 < 2 ^ 30)
    (hP : P (em I0 83 7 86 h (ts.flatMap (tB b ts)))) : ∀ (us vs : List zIt), vs ++ us = ys → g_M_putImage_114 c J (nI vs.length) (em I0 83 7 86 h ((sys vs).flatMap (tB b ts))) P T := by
  have hz0 := zcc_le hb
  have z0 : zsz b 0 = 280 + zcc b := hz0.2
  have hin : ∀ y, y ∈ ys → ∀ t, t ∈ sy y → t ∈ ts := fun y hy t ht => by rw [hts]; exact List.mem_flatMap.mpr ⟨y, hy, ht⟩
  -- one symbol
  have sym : ∀ {Q : zJ → Prop} {bs : List Nat} (t : zSy), t ∈ ts → okS b t → bs.length ≤ 15000 → Q (em I0 83 7 86 h (bs ++ symB (cdL (hsy ts t.1) (zsz b t.1)) (zsz b t.1) t.2.1)) → c_M_putSymbol c J (nI t.1) (nI t.2.1) (em I0 83 7 86 h bs) Q T := by
    intro Q bs t ht hk hbs hQ
    have z1 := zsz_lx (b := b) hb hk.1
    refine v_M_putSymbol (mrd_em (hd t.1 hk.1)) hk.2 (cdL_pos hb ht hk) (by omega) em_c (by omega) ?_
    rw [em_app (by decide)]
    exact hQ
  intro us
  induction us with
  | nil =>
    intro vs he
    rw [List.append_nil] at he
    subst he
    refine t_M_putImage_114 ?_
    rw [em_f (by decide) (by decide), hm.1]
    rw [← hts]
    exact br_t (nI_le (Nat.le_refl _) (by omega)) hP
  | cons y us ih =>
    intro vs he
    have hlen : vs.length < ys.length := by rw [← he, List.length_append, List.length_cons]; omega
    have hy : ys[vs.length]? = some y := by rw [← he, List.getElem?_append_right (Nat.le_refl _), Nat.sub_self]; rfl
    have hym : y ∈ ys := List.mem_of_getElem? hy
    have hk := hok y hym
    have hsk := sy_ok hb hk
    obtain ⟨r0, r1, r2, r3⟩ := hm.2 _ _ hy
    have vi : vp_in (nI vs.length) 64 := vp_in_nI (by omega) (by decide)
    have hfl : ((sys vs).flatMap (tB b ts)).length ≤ 33 * (4 * vs.length) := by
      have h1 := tsB_len hb (ts := ts) (sys vs) (fun t ht => by
        obtain ⟨z, hz, hzt⟩ := List.mem_flatMap.mp ht
        exact sy_ok hb (hok z (by rw [← he]; exact List.mem_append_left _ hz)) t hzt)
      have h2 : ∀ zs : List zIt, (sys zs).length ≤ 4 * zs.length := by
        intro zs
        induction zs with
        | nil => exact Nat.le_refl _
        | cons z zs ihz =>
          have := sy_len z
          unfold sys at ihz ⊢
          rw [List.flatMap_cons, List.length_append, List.length_cons]
          omega
      have := h2 vs
      omega
    have nx : ∀ bs, bs = (sys vs).flatMap (tB b ts) ++ (sy y).flatMap (tB b ts) → g_M_putImage_114 c J (nI vs.length + nI 1) (em I0 83 7 86 h bs) P T := by
      intro bs hbs
      rw [nI_add, hbs]
      have := ih (vs ++ [y]) (by rw [List.append_assoc]; exact he)
      rw [List.length_append, sys_app, List.flatMap_append] at this
      exact this
    generalize (sys vs).flatMap (tB b ts) = B at hfl nx
    refine t_M_putImage_114 ?_
    rw [em_f (by decide) (by decide), hm.1, nc (n := vs.length) (by omega), em_r (by decide) (by decide), em_r (by decide) (by decide), r0]
    refine br_f (nI_ge (by omega) (by omega)) ⟨vi, pk_eq y.1 1 (fun e1 => ⟨vi, ?_⟩) (fun e1 => ⟨vi, pk_eq y.1 2 (fun e2 => ⟨vi, ?_⟩) (fun e2 => ⟨vi, ?_⟩) rfl rfl (by have := hk.2.2; omega) (by decide)⟩) rfl rfl (by have := hk.2.2; omega) (by decide)⟩
    · obtain ⟨k1, k2, k3, k4⟩ := hk.1 e1
      obtain ⟨ra, rb⟩ := r1 e1
      have p1 := (pre_lt y.2.1 (by omega)).1
      have p2 := (pre_lt (y.2.2.1 + 8) (by omega)).1
      have es : sy y = [(0, 256 + pre y.2.1, nI (y.2.1 - zlst (pre y.2.1))), (4, pre (y.2.2.1 + 8), nI (y.2.2.1 + 8 - zlst (pre (y.2.2.1 + 8))))] := by unfold sy; rw [if_pos e1]
      have m1 : ((0, 256 + pre y.2.1, nI (y.2.1 - zlst (pre y.2.1))) : zSy) ∈ sy y := by rw [es]; exact List.mem_cons_self
      have m2 : ((4, pre (y.2.2.1 + 8), nI (y.2.2.1 + 8 - zlst (pre (y.2.2.1 + 8)))) : zSy) ∈ sy y := by rw [es]; exact List.mem_cons_of_mem _ List.mem_cons_self
      have sb1 : sbh (0, 256 + pre y.2.1, nI (y.2.1 - zlst (pre y.2.1))) = zbeh (pre y.2.1) := by
        unfold sbh
        rw [if_neg (by decide : ¬ (0 : Nat) = 4), if_pos ⟨rfl, (by omega : 256 ≤ 256 + pre y.2.1), (by omega : 256 + pre y.2.1 < 280)⟩]
        show zbeh (256 + pre y.2.1 - 256) = _
        rw [Nat.add_sub_cancel_left]
      have sb2 : sbh (4, pre (y.2.2.1 + 8), nI (y.2.2.1 + 8 - zlst (pre (y.2.2.1 + 8)))) = zbeh (pre (y.2.2.1 + 8)) := by
        unfold sbh
        rw [if_pos rfl]
      rw [ra]
      refine v_prefixM (by omega) (by omega) ?_
      rw [nI_add]
      have l1 := symB_len (l := cdL (hsy ts 0) (zsz b 0)) (s := zsz b 0) (x := 256 + pre y.2.1) (Nat.le_trans (cdL_le hb (by decide)) (by decide))
      have l2 := symB_len (l := cdL (hsy ts 4) (zsz b 4)) (s := zsz b 4) (x := pre (y.2.2.1 + 8)) (Nat.le_trans (cdL_le hb (by decide)) (by decide))
      have l3 := z_beh_le (pre y.2.1) (by omega)
      have l4 := z_beh_le (pre (y.2.2.1 + 8)) (by omega)
      refine sym _ (hin y hym _ m1) (hsk _ m1) (by omega) ⟨vi, ?_⟩
      rw [em_r (by decide) (by decide), ra]
      refine v_putRest (by omega) (by omega) em_c (by simp only [List.length_append]; omega) ?_
      rw [em_app (by decide)]
      refine ⟨vi, ?_⟩
      rw [em_r (by decide) (by decide), rb, nI_add]
      refine v_prefixM (by omega) (by omega) ?_
      refine sym _ (hin y hym _ m2) (hsk _ m2) (by simp only [List.length_append, bsv_len]; omega) ⟨vi, ?_⟩
      rw [em_r (by decide) (by decide), rb, nI_add]
      refine v_putRest (by omega) (by omega) em_c (by simp only [List.length_append, bsv_len]; omega) ?_
      rw [em_app (by decide)]
      refine nx _ ?_
      rw [es, List.flatMap_cons, List.flatMap_cons, List.flatMap_nil, List.append_nil]
      unfold tB
      rw [sb1, sb2]
      simp only [List.append_assoc]
    · have es : sy y = [(0, 280 + y.2.1, nI 0)] := by unfold sy; rw [if_neg e1, if_pos e2]
      have m1 : ((0, 280 + y.2.1, nI 0) : zSy) ∈ sy y := by rw [es]; exact List.mem_cons_self
      rw [r2 e2, nI_add]
      refine sym _ (hin y hym _ m1) (hsk _ m1) (by omega) (nx _ ?_)
      have sb1 : sbh (0, 280 + y.2.1, nI 0) = 0 := by
        unfold sbh
        rw [if_neg (by decide : ¬ (0 : Nat) = 4), if_neg (by intro z; have : 280 + y.2.1 < 280 := z.2.2; omega)]
      rw [es, List.flatMap_cons, List.flatMap_nil, List.append_nil]
      unfold tB
      rw [sb1, show bsv (nI 0) 0 = [] from rfl, List.append_nil]
    · have e0 : y.1 = 0 := by have := hk.2.2; omega
      have es : sy y = [(0, pN y.2.2.2 1, nI 0), (1, pN y.2.2.2 2, nI 0), (2, pN y.2.2.2 0, nI 0), (3, pN y.2.2.2 3, nI 0)] := by unfold sy; rw [if_neg e1, if_neg e2]
      have n0 := pN_lt y.2.2.2 0
      have n1 := pN_lt y.2.2.2 1
      have n2 := pN_lt y.2.2.2 2
      have n3 := pN_lt y.2.2.2 3
      have q1 : (y.2.2.2 >>> ((nI 8 * nI 1) &&& 31)) &&& nI 255 = nI (pN y.2.2.2 1) := pt_M _ 1 (by decide)
      have q2 : (y.2.2.2 >>> ((nI 8 * nI 2) &&& 31)) &&& nI 255 = nI (pN y.2.2.2 2) := pt_M _ 2 (by decide)
      have q0 : (y.2.2.2 >>> ((nI 8 * nI 0) &&& 31)) &&& nI 255 = nI (pN y.2.2.2 0) := pt_M _ 0 (by decide)
      have q3 : (y.2.2.2 >>> ((nI 8 * nI 3) &&& 31)) &&& nI 255 = nI (pN y.2.2.2 3) := pt_M _ 3 (by decide)
      have m0 : ((0, pN y.2.2.2 1, nI 0) : zSy) ∈ sy y := by rw [es]; simp
      have m1 : ((1, pN y.2.2.2 2, nI 0) : zSy) ∈ sy y := by rw [es]; simp
      have m2 : ((2, pN y.2.2.2 0, nI 0) : zSy) ∈ sy y := by rw [es]; simp
      have m3 : ((3, pN y.2.2.2 3, nI 0) : zSy) ∈ sy y := by rw [es]; simp
      have l0 := symB_len (l := cdL (hsy ts 0) (zsz b 0)) (s := zsz b 0) (x := pN y.2.2.2 1) (Nat.le_trans (cdL_le hb (by decide)) (by decide))
      have l1 := symB_len (l := cdL (hsy ts 1) (zsz b 1)) (s := zsz b 1) (x := pN y.2.2.2 2) (Nat.le_trans (cdL_le hb (by decide)) (by decide))
      have l2 := symB_len (l := cdL (hsy ts 2) (zsz b 2)) (s := zsz b 2) (x := pN y.2.2.2 0) (Nat.le_trans (cdL_le hb (by decide)) (by decide))
      rw [r3 e0, q1]
      refine sym _ (hin y hym _ m0) (hsk _ m0) (by omega) ⟨vi, ?_⟩
      rw [em_r (by decide) (by decide), r3 e0, q2]
      refine sym _ (hin y hym _ m1) (hsk _ m1) (by simp only [List.length_append]; omega) ⟨vi, ?_⟩
      rw [em_r (by decide) (by decide), r3 e0, q0]
      refine sym _ (hin y hym _ m2) (hsk _ m2) (by simp only [List.length_append]; omega) ⟨vi, ?_⟩
      rw [em_r (by decide) (by decide), r3 e0, q3]
      refine sym _ (hin y hym _ m3) (hsk _ m3) (by simp only [List.length_append]; omega) (nx _ ?_)
      have sb0 : sbh (0, pN y.2.2.2 1, nI 0) = 0 := by
        unfold sbh
        rw [if_neg (by decide : ¬ (0 : Nat) = 4), if_neg (by intro z; have : 256 ≤ pN y.2.2.2 1 := z.2.1; omega)]
      rw [es, List.flatMap_cons, List.flatMap_cons, List.flatMap_cons, List.flatMap_cons, List.flatMap_nil, List.append_nil]
      unfold tB
      rw [sb0, show sbh (1, pN y.2.2.2 2, nI 0) = 0 from rfl, show sbh (2, pN y.2.2.2 0, nI 0) = 0 from rfl, show sbh (3, pN y.2.2.2 3, nI 0) = 0 from rfl, show bsv (nI 0) 0 = [] from rfl]
      simp only [List.append_assoc, List.append_nil]
theorem mk_len (b : Nat) (f : Nat → Int32) (tot : Nat) : ∀ k i C, (mkI b f tot k i C).length ≤ k
  | 0, _, _ => Nat.le_refl _
  | k + 1, i, C => by
    unfold mkI
    by_cases e0 : tot ≤ i
    · rw [if_pos e0]; exact Nat.zero_le _
    · rw [if_neg e0]
      by_cases e1 : 3 ≤ (bst f tot i i).1
      · rw [if_pos e1, List.length_cons]
        have := mk_len b f tot k (i + (bst f tot i i).1) (kpN b f (bst f tot i i).1 i C)
        omega
      · rw [if_neg e1, List.length_cons]
        have := mk_len b f tot k (i + 1) (kpN b f 1 i C)
        omega
theorem v_putImageM {I : zJ} {b0 : Nat} (hb : b ≤ 4) (ht : tot ≤ 64) (hf : ∀ k, k < tot → I 91 k = f k) (h105 : ∀ k, k < 19 → I 105 k = nI (zord k)) (h7 : I 83 7 = nI h) (hhh : h + 200000 < 2 ^ 30) (h9 : I 83 9 = nI b0) (hb0 : b0 < 2)
    (hP : ∀ I1, qem qiS qiF h (imB b f tot) I I1 → I1 83 19 = nI (zcc b) → I1 83 17 = nI (nkd (itms b f tot) 1) → I1 83 18 = nI (nkd (itms b f tot) 2) → (∃ b1, b1 < 2 ∧ I1 83 9 = nI b1) → P I1) : c_M_putImage c J (nI tot) (nI (zcc b)) (nI b) I P T := by
  have hdl := hdB_len b
  have hokI : ∀ y, y ∈ itms b f tot → okI b y := fun y hy => mkI_ok hb f ht _ _ _ y hy
  have hil : (itms b f tot).length ≤ 64 := by have := mk_len b f tot tot 0 (fun _ => nI 0); unfold itms; omega
  unfold imB at hP
  have g30 : g_M_putImage_30 c J (nI tot) (nI (zcc b)) (em I 83 7 86 h (hdB b)) P T := by
    refine t_M_putImage_30 (v_empty ?_)
    have q0 : qem qiS qiF h (hdB b) I (em I 83 7 86 h (hdB b)) := qem_em
    have x9 : (em I 83 7 86 h (hdB b)) 83 9 = nI b0 := by rw [em_f (by decide) (by decide)]; exact h9
    generalize em I 83 7 86 h (hdB b) = I0 at q0 x9
    have fI : mf [93] [17, 18, 19] I0 (xfil (xup (xup (xup I0 83 19 (nI (zcc b))) 83 17 (nI 0)) 83 18 (nI 0)) 93 0 16 (nI 0)) := mf_fil (mf_f (mf_f (mf_f mf_0 (by decide)) (by decide)) (by decide)) (by decide) (by decide)
    have x19 : (xfil (xup (xup (xup I0 83 19 (nI (zcc b))) 83 17 (nI 0)) 83 18 (nI 0)) 93 0 16 (nI 0)) 83 19 = nI (zcc b) := by rw [xfil_r (by decide), xup_i (by decide), xup_i (by decide), xup_s]
    have x17 : (xfil (xup (xup (xup I0 83 19 (nI (zcc b))) 83 17 (nI 0)) 83 18 (nI 0)) 93 0 16 (nI 0)) 83 17 = nI 0 := by rw [xfil_r (by decide), xup_i (by decide), xup_s]
    have x18 : (xfil (xup (xup (xup I0 83 19 (nI (zcc b))) 83 17 (nI 0)) 83 18 (nI 0)) 93 0 16 (nI 0)) 83 18 = nI 0 := by rw [xfil_r (by decide), xup_s]
    have x93 : ∀ k, k < 16 → (xfil (xup (xup (xup I0 83 19 (nI (zcc b))) 83 17 (nI 0)) 83 18 (nI 0)) 93 0 16 (nI 0)) 93 k = nI 0 := fun k hk => xfil_in (by omega) hk
    generalize xfil (xup (xup (xup I0 83 19 (nI (zcc b))) 83 17 (nI 0)) 83 18 (nI 0)) 93 0 16 (nI 0) = I1 at fI x19 x17 x18 x93
    have q1 : qem qiS qiF h (hdB b) I I1 := qem_tn q0 (mf_s fI (by decide) (by decide)) (by decide) (by decide)
    refine v_makeUpM (f := f) hb x19 ht x17 x18 (fun k hk => by rw [q1.1 91 (by decide) (by decide) (by decide)]; exact hf k hk) (fun _ => x93) fun I2 f2 m2 y17 y18 => ?_
    have q2 : qem qiS qiF h (hdB b) I I2 := qem_tn q1 (mf_s f2 (by decide) (by decide)) (by decide) (by decide)
    have y19 : I2 83 19 = nI (zcc b) := (f2.2 19 (by decide)).trans x19
    rw [nI_add]
    have f3 : mf [89] [] I2 (xup (xup (xup (xup (xup I2 89 0 (nI (280 + zcc b))) 89 1 (nI 256)) 89 2 (nI 256)) 89 3 (nI 256)) 89 4 (nI 40)) := mf_u (mf_u (mf_u (mf_u (mf_u mf_0 (by decide) (by decide)) (by decide) (by decide)) (by decide) (by decide)) (by decide) (by decide)) (by decide) (by decide)
    have x89 : ∀ w, w < 5 → (xup (xup (xup (xup (xup I2 89 0 (nI (280 + zcc b))) 89 1 (nI 256)) 89 2 (nI 256)) 89 3 (nI 256)) 89 4 (nI 40)) 89 w = nI (zsz b w) := by
      intro w hw
      rcases (by omega : w = 0 ∨ w = 1 ∨ w = 2 ∨ w = 3 ∨ w = 4) with e | e | e | e | e <;> subst e
      · rw [xup_i (by decide), xup_i (by decide), xup_i (by decide), xup_i (by decide), xup_s]; rfl
      · rw [xup_i (by decide), xup_i (by decide), xup_i (by decide), xup_s]; rfl
      · rw [xup_i (by decide), xup_i (by decide), xup_s]; rfl
      · rw [xup_i (by decide), xup_s]; rfl
      · rw [xup_s]; rfl
    generalize xup (xup (xup (xup (xup I2 89 0 (nI (280 + zcc b))) 89 1 (nI 256)) 89 2 (nI 256)) 89 3 (nI 256)) 89 4 (nI 40) = I3 at f3 x89
    have q3 : qem qiS qiF h (hdB b) I I3 := qem_tn q2 (mf_s f3 (by decide) (by decide)) (by decide) (by decide)
    have m3 : mit I3 (itms b f tot) := mit_mf m2 f3 (by decide) (by decide) (by decide) (by decide)
    refine v_useAll hb hokI hil m3 fun I4 f4 u4 => ?_
    have q4 : qem qiS qiF h (hdB b) I I4 := qem_tn q3 (mf_s f4 (by decide) (by decide)) (by decide) (by decide)
    have m4 : mit I4 (itms b f tot) := mit_mf m3 f4 (by decide) (by decide) (by decide) (by decide)
    have z17 : I4 83 17 = nI (nkd (itms b f tot) 1) := by rw [f4.2 17 (by decide), f3.2 17 (by decide)]; exact y17
    have z18 : I4 83 18 = nI (nkd (itms b f tot) 2) := by rw [f4.2 18 (by decide), f3.2 18 (by decide)]; exact y18
    have z19 : I4 83 19 = nI (zcc b) := by rw [f4.2 19 (by decide), f3.2 19 (by decide)]; exact y19
    have z9 : I4 83 9 = nI b0 := by rw [f4.2 9 (by decide), f3.2 9 (by decide), f2.2 9 (by decide), fI.2 9 (by decide)]; exact x9
    generalize hts : sys (itms b f tot) = ts at hP u4
    have cods : ∀ (n w : Nat) (I5 : zJ) (b1 : Nat), w + n = 5 → qem qiS qiF h (hdB b ++ cdsB b ts w) I I5 → mit I5 (itms b f tot) → I5 83 17 = I4 83 17 → I5 83 18 = I4 83 18 → I5 83 19 = I4 83 19 → I5 83 9 = nI b1 → b1 < 2 → (∀ v, v < 5 → (v < w → mrd I5 v (zsz b v) (cdL (hsy ts v) (zsz b v))) ∧ (w ≤ v → mus I5 v (zsz b v) (hsy ts v))) → g_M_putImage_93 c J (nI w) I5 P T := by
      intro n
      induction n with
      | zero =>
        intro w I5 b1 hw5 ce m5 e17 e18 e19 e9 hb1 hc
        obtain rfl : w = 5 := by omega
        have hcl := cdsB_len hb ts 5 (Nat.le_refl _)
        refine t_M_putImage_93 (br_t (by decide) ?_)
        have := l_items (c := c) (J := J) (T := T) (P := P) (I0 := I5) (ts := ts) (h := h + (hdB b ++ cdsB b ts 5).length) hts.symm hb hokI hil m5 (fun w hw => (hc w hw).1 hw) (by rw [List.length_append]; omega) (hP _ (qem_t ce qem_em) (by rw [em_f (by decide) (by decide), e19]; exact z19) (by rw [em_f (by decide) (by decide), e17]; exact z17) (by rw [em_f (by decide) (by decide), e18]; exact z18) ⟨b1, hb1, by rw [em_f (by decide) (by decide)]; exact e9⟩) (itms b f tot) [] rfl
        rw [show (sys []).flatMap (tB b ts) = [] from rfl, em_0 ce.2.2.1] at this
        exact this
      | succ n ih =>
        intro w I5 b1 hw5 ce m5 e17 e18 e19 e9 hb1 hc
        have hw : w < 5 := by omega
        have hz := zsz_lx (b := b) hb hw
        have hzb := zb_lx hw
        have hcl := cdsB_len hb ts w (by omega)
        refine t_M_putImage_93 (br_f (nI_ge (by omega) (by decide)) ?_)
        refine v_M_putCode (h := h + (hdB b ++ cdsB b ts w).length) ((hc w hw).2 (Nat.le_refl _)) hw (by omega) (by omega) (fun k hk => by rw [ce.1 105 (by decide) (by decide) (by decide)]; exact h105 k hk) ce.2.2.1 (by rw [List.length_append]; omega) e9 hb1 fun I6 q6 d6 o6 b6 => ?_
        obtain ⟨b2, hb2, e2⟩ := b6
        rw [nI_add]
        have sep : ∀ v, v < 5 → v ≠ w → ∀ j, j < zsz b v → zb v + j < 1104 ∧ ¬ (zb w ≤ zb v + j ∧ zb v + j < zb w + zsz b w) := by
          intro v hv hvw j hj
          have y1 := zsz_lx (b := b) hb hv
          have y2 := zb_lx hv
          refine ⟨by omega, fun z => hvw ?_⟩
          exact (zb_inj (x := j) (y := zb v + j - zb w) hv hw (by omega) (by omega) (by omega)).1
        refine ih (w + 1) I6 b2 (by omega) ?_ (mit_mf (S := [86, 87, 88, 89, 90, 102, 103]) (F := [7, 9, 33]) m5 ⟨fun a a1 a2 => q6.1 a a1 (fun z => a2 (by rw [z]; decide)) (fun z => a2 (List.mem_cons_of_mem _ z)), fun x hx => q6.2.1 x (fun z => hx (by rw [z]; decide)) (fun z => hx (List.mem_cons_of_mem _ z))⟩ (by decide) (by decide) (by decide) (by decide)) (by rw [q6.2.1 17 (by decide) (by decide)]; exact e17) (by rw [q6.2.1 18 (by decide) (by decide)]; exact e18) (by rw [q6.2.1 19 (by decide) (by decide)]; exact e19) e2 hb2 (fun v hv => ⟨fun hvw => ?_, fun hvw => ?_⟩)
        · have := qem_t ce (qem_s q6 (S' := qiS) (F' := qiF) (by decide) (by decide))
          rw [List.append_assoc] at this
          exact this
        · by_cases e : v = w
          · subst e; exact d6
          · obtain ⟨⟨m1, m2, m3, m4', m5'⟩, m6⟩ := (hc v hv).1 (by omega)
            refine ⟨⟨m1, m2, m3, by rw [o6.2.1 v (by omega)]; exact m4', fun j hj => ?_⟩, by rw [o6.2.2 v (by omega) e]; exact m6⟩
            obtain ⟨s1, s2⟩ := sep v hv e j hj
            rw [(o6.1 _ s1 s2).2]
            exact m5' j hj
        · obtain ⟨m1, m2, m3, m4', m5'⟩ := (hc v hv).2 (by omega)
          refine ⟨m1, m2, m3, by rw [o6.2.1 v (by omega)]; exact m4', fun j hj => ?_⟩
          obtain ⟨s1, s2⟩ := sep v hv (by omega) j hj
          rw [(o6.1 _ s1 s2).1]
          exact m5' j hj
    refine cods 5 0 I4 b0 (by decide) ?_ m4 rfl rfl rfl z9 hb0 (fun v hv => ⟨fun z => absurd z (by omega), fun _ => ?_⟩)
    · rw [show cdsB b ts 0 = [] from rfl, List.append_nil]
      exact q4
    · have y1 := zsz_lx (b := b) hb hv
      have y2 := zb_lx hv
      exact ⟨by omega, by omega, by omega, by rw [f4.1 89 (by decide) (by decide)]; exact x89 v hv, fun j hj => u4 v hv j hj⟩
  refine t_M_putImage (pk_le b 0 (fun e => v_M_put h7 (by omega) ?_) (fun e => v_M_put h7 (by omega) ?_) rfl rfl (by omega) (by decide))
  · obtain rfl : b = 0 := by omega
    refine t_M_putImage_14 (br_t (by decide) (v_M_put em_c (by simp only [bsv_len]; omega) ?_))
    rw [em_app (by decide)]
    exact g30
  · have eh : hdB b = bsv (nI 1) 1 ++ bsv (nI (b - 1)) 2 := by
      unfold hdB
      rw [if_neg (by omega), if_neg (by omega)]
    refine t_M_putImage_14 (br_f (nI_nle (by omega) (by omega)) (v_M_put em_c (by simp only [bsv_len]; omega) ?_))
    rw [em_app (by decide), pk_sub (by omega)]
    rw [eh] at g30
    exact g30
end MQ
