/-! THE CLASS DRAFTS A STREAM. -/
abbrev wcS : List Nat := 7 :: 8 :: csS
theorem wc_cs : ∀ a, a ∈ csS → a ∈ wcS := fun _ h => List.mem_cons_of_mem _ (List.mem_cons_of_mem _ h)
def wB0 (w h : Nat) : List Nat := bsv (nI 47) 8 ++ bsv (nI (w - 1)) 3 ++ bsv (nI (h - 1)) 3
def wB1 (v : Int32) (S : Nat → Int32) (n : Nat) : List Nat := if v = nI 0 then [] else wpB S n
def wB2 (v : Int32) : List Nat := if v = nI 0 then [] else bsv (nI 1) 1 ++ bsv (nI 2) 2
def wB3 (v : Int32) (w1 h : Nat) : List Nat := if v = -1 then [] else wmB v.toNatClampNeg w1 h
def wpx (v1 v2 v3 : Int32) (S : Nat → Int32) (n w : Nat) (px : Nat → Int32) : Nat → Int32 := wf3 v3 (wW v1 n w) (wf2 v2 (wf1 v1 S n w px))
def wB (v1 v2 v3 : Int32) (b : Nat) (S : Nat → Int32) (n w h : Nat) (px : Nat → Int32) : List Nat := wB0 w h ++ wB1 v1 S n ++ wB2 v2 ++ wB3 v3 (wW v1 n w) h ++ bsv (nI 0) 1 ++ imB b (wpx v1 v2 v3 S n w px) (wW v1 n w * h)
theorem imB_len {b tot : Nat} {f : Nat → Int32} (hb : b ≤ 4) (ht : tot ≤ 64) : (imB b f tot).length ≤ 45000 := by
  have hok : ∀ y, y ∈ itms b f tot → okI b y := fun y hy => mkI_ok hb f ht _ _ _ y hy
  have hil : (itms b f tot).length ≤ 64 := by have := mk_len b f tot tot 0 (fun _ => nI 0); unfold itms; omega
  have h2 : ∀ zs : List zIt, (sys zs).length ≤ 4 * zs.length := by
    intro zs
    induction zs with
    | nil => exact Nat.le_refl _
    | cons z zs ihz =>
      have := sy_len z
      unfold sys at ihz ⊢
      rw [List.flatMap_cons, List.length_append, List.length_cons]
      omega
  have h3 := h2 (itms b f tot)
  have h1 := tsB_len hb (ts := sys (itms b f tot)) (sys (itms b f tot)) (fun t ht => by
    obtain ⟨z, hz, hzt⟩ := List.mem_flatMap.mp ht
    exact sy_ok hb (hok z hz) t hzt)
  have h4 := cdsB_len hb (sys (itms b f tot)) 5 (Nat.le_refl _)
  have h5 := hdB_len b
  unfold imB imT
  rw [List.length_append, List.length_append]
  omega
theorem bl_8 {x : Nat} (h : x ≤ 8) : bl x ≤ 2 := by unfold bl; omega
theorem wmB_len {md w h : Nat} (hw : w ≤ 8) (hh : h ≤ 8) : (wmB md w h).length ≤ 45010 := by
  have h1 : bl w * bl h ≤ 2 * 2 := Nat.mul_le_mul (bl_8 hw) (bl_8 hh)
  have := imB_len (b := 0) (tot := bl w * bl h) (f := fun _ => cmo md) (by decide) (by omega)
  unfold wmB
  simp only [List.length_append, bsv_len]
  omega
theorem wpB_len {S : Nat → Int32} {n : Nat} (hn : n ≤ 16) : (wpB S n).length ≤ 45010 := by
  have := imB_len (b := 0) (tot := n) (f := pim S) (by decide) (by omega)
  unfold wpB
  simp only [List.length_append, bsv_len]
  omega
theorem wf3_md {md w : Nat} (hmd : md < 14) {g : Nat → Int32} : wf3 (nI md) w g = fun k => pdif (g k) (pfa g k w md) := by
  unfold wf3
  rw [if_neg (fun z => by
    have := nI_nlt (Nat.zero_le md) (by omega : md < 2 ^ 31)
    rw [z] at this
    exact this (by decide)), nc (n := md) (by omega)]
theorem md_m1 {md : Nat} (hmd : md < 14) : ¬ nI md = (-1 : Int32) := fun z => by
  have := nI_nlt (Nat.zero_le md) (by omega : md < 2 ^ 31)
  rw [z] at this
  exact this (by decide)
section DC
variable {c : zC} {J : zK} {T : Nat → zJ → Prop} {P : zJ → Prop} {w h n b : Nat} {px S : Nat → Int32} {I : zJ} {v1 v2 v3 : Int32}
theorem l_putC {I1 : zJ} {bs : List Nat} {v : Int32} {k : Nat} (e : cem wcS 0 bs I I1) (hl : bs.length + k < 2 ^ 30) (hP : ∀ I2, cem wcS 0 (bs ++ bsv v k) I I2 → fr [11, 12] I1 I2 → P I2) : c_Bits_put c J 11 v (nI k) I1 P T :=
  v_Bits_put zbi_11 (h := 0 + bs.length) e.2.2.1 (by omega) (hP _ (cem_t e cem_em) fun a ha => em_r (fun z => ha (by rw [z]; decide)) (fun z => ha (by rw [z]; decide)))
theorem l_d177 {I1 : zJ} {bs : List Nat} {w1 : Nat} {f : Nat → Int32} (hw : w1 ≤ 8) (hh : h ≤ 8) (hb : b ≤ 4) (r1 : I 1 = fun j => zSO.getD j 0) (e : cem wcS 0 bs I I1) (hl : bs.length ≤ 200000) (h1 : I1 7 1 = nI w1) (h2 : I1 7 2 = nI h) (hf : ∀ j, j < w1 * h → I1 8 j = f j)
    (hP : ∀ I2, cem wcS 0 (bs ++ bsv (nI 0) 1 ++ imB b f (w1 * h)) I I2 → I2 49 1 = nI b → I2 67 7 = nI (nkd (itms b f (w1 * h)) 1) → I2 67 8 = nI (nkd (itms b f (w1 * h)) 2) → P I2) : g_L_draftStream_177 c J (nI b) I1 P T := by
  have htm : w1 * h ≤ 64 := Nat.mul_le_mul hw hh
  refine t_L_draftStream_177 (l_putC e (by omega) fun I2 e2 f2 => ?_)
  refine v_sayC (h := 0 + (bs ++ bsv (nI 0) 1).length) zpl_7 (Or.inl rfl) (Nat.le_refl _) hb (w := w1) (hh := h) (f := f) ((congrFun (f2 7 (by decide)) 1).trans h1) ((congrFun (f2 7 (by decide)) 2).trans h2) rfl htm (fun k hk => (congrFun (f2 8 (by decide)) k).trans (hf k hk)) ((e2.1 1 (by decide) (by decide) (by decide)).trans r1) e2.2.2.1 (by simp only [List.length_append, bsv_len]; omega) fun I3 e3 x49 x7 x8 => hP I3 ?_ x49 x7 x8
  exact cem_t e2 (cem_s e3 wc_cs)
theorem l_d135 {I1 : zJ} {bs : List Nat} {w1 : Nat} {f : Nat → Int32} (hw0 : 0 < w1) (hw : w1 ≤ 8) (hh : h ≤ 8) (hb : b ≤ 4) (hv3 : v3 = -1 ∨ ∃ md, md < 14 ∧ v3 = nI md) (r1 : I 1 = fun j => zSO.getD j 0) (e : cem wcS 0 bs I I1) (hl : bs.length ≤ 100000) (h1 : I1 7 1 = nI w1) (h2 : I1 7 2 = nI h) (hf : ∀ j, j < w1 * h → I1 8 j = f j)
    (hP : ∀ I2, cem wcS 0 (bs ++ wB3 v3 w1 h ++ bsv (nI 0) 1 ++ imB b (wf3 v3 w1 f) (w1 * h)) I I2 → I2 49 1 = nI b → I2 67 7 = nI (nkd (itms b (wf3 v3 w1 f) (w1 * h)) 1) → I2 67 8 = nI (nkd (itms b (wf3 v3 w1 f) (w1 * h)) 2) → P I2) : g_L_draftStream_135 c J v3 (nI b) I1 P T := by
  rcases hv3 with e3 | ⟨md, hmd, e3⟩
  · subst e3
    refine t_L_draftStream_135 (br_t rfl (l_d177 hw hh hb r1 e (by omega) h1 h2 hf fun I2 q1 q2 q3 q4 => hP I2 ?_ q2 q3 q4))
    rw [show wB3 (-1) w1 h = [] from rfl, List.append_nil]
    exact q1
  · subst e3
    have ew : wB3 (nI md) w1 h = wmB md w1 h := by unfold wB3; rw [if_neg (md_m1 hmd), nc (n := md) (by omega)]
    rw [wf3_md hmd, ew] at hP
    have hbb : bl w1 * bl h ≤ 4 := Nat.mul_le_mul (bl_8 hw) (bl_8 hh)
    refine t_L_draftStream_135 (br_f (md_m1 hmd) (t_L_sayKind (l_putC e (by omega) fun I2 e2 f2 => l_putC e2 (by simp only [List.length_append, bsv_len]; omega) fun I3 e3 f3 => ?_)))
    have f13 : fr [11, 12] I1 I3 := fr_t f2 f3
    refine v_modC (w := w1) (h := h) hw hh (by rw [f13 7 (by decide)]; exact h1) (by rw [f13 7 (by decide)]; exact h2) fun I4 f4 m1 m2 m3 => ⟨4, zpl_53, ?_⟩
    have e4 : cem wcS 0 (bs ++ bsv (nI 1) 1 ++ bsv (nI 0) 2) I I4 := cem_tn e3 (fr_s f4 (by decide)) (by decide) (by decide)
    refine v_sayC (h := 0 + (bs ++ bsv (nI 1) 1 ++ bsv (nI 0) 2).length) zpl_53 (Or.inr (Or.inl rfl)) (by decide) (b := 0) (by decide) (w := bl w1) (hh := bl h) (f := fun _ => cmo md) m1 m2 rfl hbb (fun k hk => m3 k (by omega)) ((e4.1 1 (by decide) (by decide) (by decide)).trans r1) e4.2.2.1 (by simp only [List.length_append, bsv_len]; omega) fun I5 e5 _ _ _ => ?_
    have e5' := cem_t e4 (cem_s e5 wc_cs)
    have il := imB_len (b := 0) (tot := bl w1 * bl h) (f := fun _ => cmo md) (by decide) (by omega)
    have k7 : I5 7 = I1 7 := by rw [e5.1 7 (by decide) (by decide) (by decide), f4 7 (by decide), f13 7 (by decide)]
    have k8 : I5 8 = I1 8 := by rw [e5.1 8 (by decide) (by decide) (by decide), f4 8 (by decide), f13 8 (by decide)]
    refine v_offC (f := f) hw0 hw hh (by omega) (by rw [k7]; exact h1) (by rw [k7]; exact h2) (fun j hj => by rw [k8]; exact hf j hj) fun I6 f6 b6 => ?_
    have e6 := cem_tn e5' (fr_s f6 (S' := wcS) (by decide)) (by decide) (by decide)
    refine l_d177 hw hh hb r1 e6 (by simp only [List.length_append, bsv_len]; omega) (by rw [f6 7 (by decide), k7]; exact h1) (by rw [f6 7 (by decide), k7]; exact h2) b6 fun I7 q1 q2 q3 q4 => hP I7 ?_ q2 q3 q4
    unfold wmB
    simp only [List.append_assoc] at q1 ⊢
    exact q1
theorem l_d119 {I1 : zJ} {bs : List Nat} {w1 : Nat} {f : Nat → Int32} (hw0 : 0 < w1) (hw : w1 ≤ 8) (hh : h ≤ 8) (hb : b ≤ 4) (hv3 : v3 = -1 ∨ ∃ md, md < 14 ∧ v3 = nI md) (r1 : I 1 = fun j => zSO.getD j 0) (e : cem wcS 0 bs I I1) (hl : bs.length ≤ 90000) (h1 : I1 7 1 = nI w1) (h2 : I1 7 2 = nI h) (hf : ∀ j, j < w1 * h → I1 8 j = f j)
    (hP : ∀ I2, cem wcS 0 (bs ++ wB2 v2 ++ wB3 v3 w1 h ++ bsv (nI 0) 1 ++ imB b (wf3 v3 w1 (wf2 v2 f)) (w1 * h)) I I2 → I2 49 1 = nI b → I2 67 7 = nI (nkd (itms b (wf3 v3 w1 (wf2 v2 f)) (w1 * h)) 1) → I2 67 8 = nI (nkd (itms b (wf3 v3 w1 (wf2 v2 f)) (w1 * h)) 2) → P I2) : g_L_draftStream_119 c J v2 v3 (nI b) I1 P T := by
  by_cases ev : v2 = nI 0
  · have e2 : wB2 v2 = [] := if_pos ev
    have ef : wf2 v2 f = f := if_pos ev
    rw [e2, ef, List.append_nil] at hP
    exact t_L_draftStream_119 (br_t ev (l_d135 hw0 hw hh hb hv3 r1 e (by omega) h1 h2 hf hP))
  · have e2 : wB2 v2 = bsv (nI 1) 1 ++ bsv (nI 2) 2 := if_neg ev
    have ef : wf2 v2 f = fun k => pgof (f k) := if_neg ev
    rw [e2, ef, ← List.append_assoc] at hP
    refine t_L_draftStream_119 (br_f ev (t_L_sayKind (l_putC e (by omega) fun I2 e2 f2 => l_putC e2 (by simp only [List.length_append, bsv_len]; omega) fun I3 e3 f3 => ?_)))
    have f13 : fr [11, 12] I1 I3 := fr_t f2 f3
    refine v_greenC (f := f) hw hh (by rw [f13 7 (by decide)]; exact h1) (by rw [f13 7 (by decide)]; exact h2) (fun j hj => by rw [f13 8 (by decide)]; exact hf j hj) fun I4 f4 b4 => ?_
    have e4 := cem_tn e3 (fr_s f4 (S' := wcS) (by decide)) (by decide) (by decide)
    exact l_d135 hw0 hw hh hb hv3 r1 e4 (by simp only [List.length_append, bsv_len]; omega) (by rw [f4 7 (by decide), f13 7 (by decide)]; exact h1) (by rw [f4 7 (by decide), f13 7 (by decide)]; exact h2) b4 hP
theorem v_draft (hw0 : 1 ≤ w) (hw : w ≤ 8) (hh0 : 1 ≤ h) (hh : h ≤ 8) (hb : b ≤ 4) (h16 : n ≤ 16) (hn0 : v1 = nI 0 → n = 0) (hn1 : ¬ v1 = nI 0 → 1 ≤ n) (hv3 : v3 = -1 ∨ ∃ md, md < 14 ∧ v3 = nI md) (r1 : I 1 = fun j => zSO.getD j 0) (h1 : I 5 1 = nI w) (h2 : I 5 2 = nI h) (hpx : I 6 = px) (hS : I 81 = S)
    (hP : ∀ I2, cem wcS 0 (wB v1 v2 v3 b S n w h px) I I2 → I2 49 1 = nI b → I2 67 7 = nI (nkd (itms b (wpx v1 v2 v3 S n w px) (wW v1 n w * h)) 1) → I2 67 8 = nI (nkd (itms b (wpx v1 v2 v3 S n w px) (wW v1 n w * h)) 2) → P I2) : c_L_draftStream c J (nI n) v2 v3 (nI b) I P T := by
  have ht : w * h ≤ 64 := Nat.mul_le_mul hw hh
  unfold wB wpx at hP
  refine t_L_draftStream (nm_e ?_)
  have e0 : cem wcS 0 [] I (xup I 11 1 (nI 0)) := ⟨fun a z _ _ => xup_r z, fun f z => xup_i z, xup_s, xup_r (by decide)⟩
  refine l_putC e0 (by decide) fun I2 e2 f2 => ?_
  have x51 : ∀ {I3 : zJ} {bs : List Nat}, cem wcS 0 bs I I3 → I3 5 1 = nI w := fun {I3 bs} z => (congrFun (z.1 5 (by decide) (by decide) (by decide)) 1).trans h1
  have x52 : ∀ {I3 : zJ} {bs : List Nat}, cem wcS 0 bs I I3 → I3 5 2 = nI h := fun {I3 bs} z => (congrFun (z.1 5 (by decide) (by decide) (by decide)) 2).trans h2
  rw [x51 e2, pk_sub hw0]
  refine l_putC e2 (by simp only [List.length_append, bsv_len, List.length_nil]; omega) fun I3 e3 f3 => ?_
  rw [x52 e3, pk_sub hh0]
  refine l_putC e3 (by simp only [List.length_append, bsv_len, List.length_nil]; omega) fun I4 e4 f4 => ?_
  rw [List.nil_append] at e4
  have eb0 : bsv (nI 47) 8 ++ bsv (nI (w - 1)) 3 ++ bsv (nI (h - 1)) 3 = wB0 w h := rfl
  rw [eb0] at e4
  have lb0 : (wB0 w h).length = 14 := by unfold wB0; simp only [List.length_append, bsv_len]
  have y1 : xup (xup I4 7 1 (I4 5 1)) 7 2 (I4 5 2) 5 1 = nI w := by rw [xup_k (by decide), xup_k (by decide)]; exact x51 e4
  have y2 : xup (xup I4 7 1 (I4 5 1)) 7 2 (I4 5 2) 5 2 = nI h := by rw [xup_k (by decide), xup_k (by decide)]; exact x52 e4
  have y3 : ∀ m : Nat, m < 2 ^ 31 → ¬ nI m < 0 := fun m hm => nI_nlt (b := 0) (Nat.zero_le _) hm
  rw [y1, y2, pk_mul, nc (n := 0) (by decide), nc (n := w * h) (by omega)]
  refine ⟨y3 0 (by decide), y3 0 (by decide), y3 _ (by omega), by omega, by omega, by decide, nm_e ?_⟩
  have e5 : cem wcS 0 (wB0 w h) I (xcpy (xup (xup I4 7 1 (I4 5 1)) 7 2 (I4 5 2)) (5 + 1) 0 (7 + 1) 0 (w * h)) := by
    refine cem_tn e4 (fun a ha => ?_) (by decide) (by decide)
    funext k
    unfold xcpy
    rw [if_neg (fun z => ha (by rw [z.1]; decide)), xup_k (fun z => ha (by rw [z]; decide)), xup_k (fun z => ha (by rw [z]; decide))]
  have z71 : (xcpy (xup (xup I4 7 1 (I4 5 1)) 7 2 (I4 5 2)) (5 + 1) 0 (7 + 1) 0 (w * h)) 7 1 = nI w := by
    unfold xcpy
    rw [if_neg (fun z => absurd z.1 (by decide)), xup_i (by decide), xup_s]; exact x51 e4
  have z72 : (xcpy (xup (xup I4 7 1 (I4 5 1)) 7 2 (I4 5 2)) (5 + 1) 0 (7 + 1) 0 (w * h)) 7 2 = nI h := by
    unfold xcpy
    rw [if_neg (fun z => absurd z.1 (by decide)), xup_s]; exact x52 e4
  have z8 : ∀ j, j < w * h → (xcpy (xup (xup I4 7 1 (I4 5 1)) 7 2 (I4 5 2)) (5 + 1) 0 (7 + 1) 0 (w * h)) 8 j = px j := by
    intro j hj
    unfold xcpy
    rw [if_pos ⟨rfl, Nat.zero_le _, by omega⟩, xup_k (by decide), xup_k (by decide), Nat.zero_add, Nat.sub_zero]
    show I4 6 j = px j
    rw [e4.1 6 (by decide) (by decide) (by decide), hpx]
  generalize xcpy (xup (xup I4 7 1 (I4 5 1)) 7 2 (I4 5 2)) (5 + 1) 0 (7 + 1) 0 (w * h) = I5 at e5 z71 z72 z8
  by_cases ev : v1 = nI 0
  · have a1 : wB1 v1 S n = [] := if_pos ev
    have a2 : wf1 v1 S n w px = px := if_pos ev
    have a3 : wW v1 n w = w := if_pos ev
    rw [a1, a2, a3, List.append_nil] at hP
    rw [hn0 ev]
    exact br_t (by decide) (l_d119 hw0 hw hh hb hv3 r1 e5 (by omega) z71 z72 z8 hP)
  · have a1 : wB1 v1 S n = wpB S n := if_neg ev
    have a2 : wf1 v1 S n w px = pkd S n w px := if_neg ev
    have a3 : wW v1 n w = pkw w n := if_neg ev
    rw [a1, a2, a3] at hP
    have hn := hn1 ev
    have hpw := pkw_le (w := w) (n := n) hw0
    refine br_f (nI_nle hn (by omega)) (t_L_sayKind (l_putC e5 (by omega) fun I6 e6 f6 => l_putC e6 (by simp only [List.length_append, bsv_len]; omega) fun I7 e7 f7 => ?_))
    rw [pk_sub hn]
    refine l_putC e7 (by simp only [List.length_append, bsv_len]; omega) fun I8 e8 f8 => ?_
    have f58 : fr [11, 12] I5 I8 := fr_t (fr_t f6 f7) f8
    refine v_palC (S := S) hn h16 ((e8.1 81 (by decide) (by decide) (by decide)).trans hS) fun I9 f9 m1 m2 m3 => ⟨16, zpl_57, ?_⟩
    have e9 := cem_tn e8 (fr_s f9 (S' := wcS) (by decide)) (by decide) (by decide)
    refine v_sayC (h := 0 + (wB0 w h ++ bsv (nI 1) 1 ++ bsv (nI 3) 2 ++ bsv (nI (n - 1)) 4).length) zpl_57 (Or.inr (Or.inr rfl)) (by decide) (b := 0) (by decide) (w := n) (hh := 1) (tot := n) (f := pim S) m1 m2 (Nat.mul_one n).symm h16 m3 ((e9.1 1 (by decide) (by decide) (by decide)).trans r1) e9.2.2.1 (by simp only [List.length_append, bsv_len]; omega) fun I10 e10 _ _ _ => ?_
    have e10' := cem_t e9 (cem_s e10 wc_cs)
    have il := imB_len (b := 0) (tot := n) (f := pim S) (by decide) (by omega)
    have k7 : I10 7 = I5 7 := by rw [e10.1 7 (by decide) (by decide) (by decide), f9 7 (by decide), f58 7 (by decide)]
    have k8 : I10 8 = I5 8 := by rw [e10.1 8 (by decide) (by decide) (by decide), f9 8 (by decide), f58 8 (by decide)]
    refine v_packC (S := S) (f := px) hw0 hw hh0 hh hn h16 (by rw [k7]; exact z71) (by rw [k7]; exact z72) (fun k hk => by rw [e10'.1 81 (by decide) (by decide) (by decide), hS]) (fun j hj => by rw [k8]; exact z8 j hj) fun I11 f11 m1 m2 m3 => ?_
    have e11 := cem_tn e10' (fr_s f11 (S' := wcS) (by decide)) (by decide) (by decide)
    refine l_d119 hpw.2 (Nat.le_trans hpw.1 hw) hh hb hv3 r1 e11 (by simp only [List.length_append, bsv_len]; omega) m1 m2 m3 fun I12 q1 q2 q3 q4 => hP I12 ?_ q2 q3 q4
    unfold wpB
    simp only [List.append_assoc] at q1 ⊢
    exact q1
end DC
