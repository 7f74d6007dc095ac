/-! AN IMAGE READ BY THE REFERENCE: the pixels, the codes, all of it. -/
section MK
variable {c : zC} {J : zK} {n : Nat} {B : Nat → Int32} {T : Nat → zJ → Prop}
/-- a turn of pixels -/
theorem m_turn {P : zJ → Prop} {I : zJ} {b w hh tot i p : Nat} {ls : Nat → Nat → Nat} {f C : Nat → Int32} {cp ca : Nat} (hw : 1 ≤ w) (hw2 : w ≤ 16) (htot : tot = w * hh) (htm : tot ≤ 64) (hi : i < tot) (h0 : mim I b ls) (hr : mrs I B n p 0) (hx : mpx I b i f C cp ca)
    (hK : ∀ nn f1 C1 cp1 ca1 q b1 V I1, okb 0 (pTurn B (8 * n) ls b w tot i f C cp ca p) b1 (nn, f1, C1, cp1, ca1, q) → (b1 = 0 → 1 ≤ nn ∧ i + nn ≤ tot ∧ V = nI (i + nn) ∧ mpx I1 b (i + nn) f1 C1 cp1 ca1) → mf mpS mpF I I1 → mrs I1 B n q b1 → g_M_readImage_76 c J (nI w) (nI hh) V I1 P T) :
    g_M_readImage_76 c J (nI w) (nI hh) (nI i) I P T := by
  have hb := h0.1
  have hcc := zcc_le hb
  refine t_M_readImage_76 ?_
  rw [pk_mul, ← htot]
  refine br_f (nI_ge hi (by omega)) (br_t hr.2.2.2.1 (m_symb hr h0.2.2.1 fun s p1 b1 I1 o1 g1 r1 f1 => ?_))
  have m1 : mim I1 b ls := mim_mf h0 f1 (by decide) (by decide) (by decide) (by decide)
  have f1' : mf mpS mpF I I1 := mf_s f1 (by decide) (by decide)
  have x1 : mpx I1 b i f C cp ca := mpx_mf hx f1 (by decide) (by decide) (by decide) (by decide)
  refine pk_le 256 s (fun e => pk_le 280 s (fun e2 => ?_) (fun e2 => ?_)) (fun e => ?_)
  · -- a colour of the cache
    rw [pk_sub e2, nc (by omega), nI_add]
    refine ⟨vp_in_nI (by omega) (by decide), m_come hb m1.2.1 (by omega) fun I2 f2 g2 => ?_⟩
    have x2 := g2 f C cp ca x1
    have r2 : mrs I2 B n p1 b1 := mrs_mf r1 f2 (by decide) (by decide) (by decide) (by decide) (by decide)
    have fI3 : ∀ {v : Int32}, mf [] [18] I2 (xup I2 83 18 v) := fun {v} => mf_f mf_0 (by decide)
    have b0 : 0 < b := by
      rcases Nat.eq_zero_or_pos b with z | z
      · subst z
        have : zcc 0 = 0 := rfl
        omega
      · exact z
    have eC : I1 93 (s - 280) = C (s - 280) := x1.2.1 b0 _ (by omega)
    rw [eC] at x2
    rw [x2.2.2.2, nI_add]
    refine hK 1 (zup f i (C (s - 280))) (zup C (hsh b (C (s - 280))) (C (s - 280))) cp (ca + 1) p1 b1 _ _ (okb_s o1 (okb_r r1.2.2.2.2 rfl) (fun _ e1 => ?_) (fun e1 => by simp only [pTurn, e1])) (fun _ => ⟨by decide, by omega, rfl, ?_⟩) (mf_t f1' (mf_t (mf_s f2 (by decide) (by decide)) (mf_s fI3 (by decide) (by decide)))) (mrs_mf r2 fI3 (by decide) (by decide) (by decide) (by decide) (by decide))
    · simp only [pTurn, e1, if_neg (show ¬ s < 256 by omega), if_neg (show ¬ s < 280 by omega)]
    · exact ⟨fun k hk => by rw [xup_k (by decide)]; exact x2.1 k hk, fun z k hk => by rw [xup_k (by decide)]; exact x2.2.1 z k hk, by rw [xup_i (by decide)]; exact x2.2.2.1, xup_s⟩
  · -- a copy
    rw [pk_sub e]
    refine m_copy (ls := ls) (f := f) (C := C) (cp := cp) (ca := ca) hw hw2 htm hi (by omega) m1 r1 r1.2.2.2.2 (fun _ => x1) fun v b2 q I2 hE f2 r2 => ?_
    obtain ⟨nn, f3, C3, o2, g2⟩ := hE
    refine hK nn f3 C3 (cp + 1) ca q b2 v I2 (okb_s o1 o2 (fun _ e1 => ?_) (fun e1 => by simp only [pTurn, e1])) g2 (mf_t f1' f2) r2
    simp only [pTurn, e1, if_neg (show ¬ s < 256 by omega), if_pos e2]
  · -- a pixel
    refine m_symb r1 m1.2.2.2.1 fun r p2 b2 I2 o2 g2 r2 f2 => ?_
    have m2 : mim I2 b ls := mim_mf m1 f2 (by decide) (by decide) (by decide) (by decide)
    refine m_symb r2 m2.2.2.2.2.1 fun bl p3 b3 I3 o3 g3 r3 f3 => ?_
    have m3 : mim I3 b ls := mim_mf m2 f3 (by decide) (by decide) (by decide) (by decide)
    refine m_symb r3 m3.2.2.2.2.2.1 fun al p4 b4 I4 o4 g4 r4 f4 => ?_
    have m4 : mim I4 b ls := mim_mf m3 f4 (by decide) (by decide) (by decide) (by decide)
    have ff : mf [] [8, 9] I1 I4 := mf_t f2 (mf_t f3 f4)
    have x4 : mpx I4 b i f C cp ca := mpx_mf x1 ff (by decide) (by decide) (by decide) (by decide)
    have ez : ((nI al <<< (nI 24 &&& 31) ||| nI r <<< (nI 16 &&& 31)) ||| nI s <<< (nI 8 &&& 31)) ||| nI bl = zpx al r s bl := rfl
    rw [ez, nI_add]
    refine m_come hb m4.2.1 (by omega) fun I5 f5 g5 => ?_
    have o4' : okb b3 (match pHear B (8 * n) (ls 3) 256 p3 with
      | none => none
      | some (al, p4) => some (1, zup f i (zpx al r s bl), zup C (hsh b (zpx al r s bl)) (zpx al r s bl), cp, ca, p4)) b4 (1, zup f i (zpx al r s bl), zup C (hsh b (zpx al r s bl)) (zpx al r s bl), cp, ca, p4) :=
      okb_s o4 (okb_r r4.2.2.2.2 rfl) (fun _ e4 => by rw [e4]) (fun e4 => by rw [e4])
    have o3' := okb_s o3 o4' (G := match pHear B (8 * n) (ls 2) 256 p2 with
      | none => none
      | some (bl, p3) => (match pHear B (8 * n) (ls 3) 256 p3 with
        | none => none
        | some (al, p4) => some (1, zup f i (zpx al r s bl), zup C (hsh b (zpx al r s bl)) (zpx al r s bl), cp, ca, p4))) (fun _ e3 => by rw [e3]) (fun e3 => by rw [e3])
    have o2' := okb_s o2 o3' (G := match pHear B (8 * n) (ls 1) 256 p1 with
      | none => none
      | some (r, p2) => (match pHear B (8 * n) (ls 2) 256 p2 with
        | none => none
        | some (bl, p3) => (match pHear B (8 * n) (ls 3) 256 p3 with
          | none => none
          | some (al, p4) => some (1, zup f i (zpx al r s bl), zup C (hsh b (zpx al r s bl)) (zpx al r s bl), cp, ca, p4)))) (fun _ e3 => by rw [e3]) (fun e3 => by rw [e3])
    refine hK 1 (zup f i (zpx al r s bl)) (zup C (hsh b (zpx al r s bl)) (zpx al r s bl)) cp ca p4 b4 _ _ (okb_s o1 o2' (fun _ e1 => ?_) (fun e1 => by simp only [pTurn, e1])) (fun _ => ⟨by decide, by omega, rfl, g5 f C cp ca x4⟩) (mf_t f1' (mf_t (mf_s ff (by decide) (by decide)) (mf_s f5 (by decide) (by decide)))) (mrs_mf r4 f5 (by decide) (by decide) (by decide) (by decide) (by decide))
    simp only [pTurn, e1, if_pos e] <;> rfl
/-- the pixels -/
theorem l_mpixels {P : zJ → Prop} {I0 : zJ} {b w hh tot : Nat} {ls : Nat → Nat → Nat} {F0 : Option ((Nat → Int32) × (Nat → Int32) × Nat × Nat × Nat)} (hw : 1 ≤ w) (hw2 : w ≤ 16) (htot : tot = w * hh) (htm : tot ≤ 64) (h0 : mim I0 b ls)
    (hP : ∀ f1 C1 cp1 ca1 q b1 I1, okb 0 F0 b1 (f1, C1, cp1, ca1, q) → mf mpS mpF I0 I1 → mrs I1 B n q b1 → (b1 = 0 → mpx I1 b tot f1 C1 cp1 ca1) → P I1) :
    ∀ (k i : Nat) (I : zJ) (f C : Nat → Int32) (cp ca p : Nat), tot ≤ i + k → i ≤ tot → mf mpS mpF I0 I → mrs I B n p 0 → mpx I b i f C cp ca → pPix B (8 * n) ls b w tot k i f C cp ca p = F0 → g_M_readImage_76 c J (nI w) (nI hh) (nI i) I P T := by
  intro k
  induction k with
  | zero =>
    intro i I f C cp ca p hk hi hf hr hx he
    obtain rfl : i = tot := by omega
    refine t_M_readImage_76 ?_
    rw [pk_mul, ← htot]
    exact br_t (nI_le (Nat.le_refl _) (by omega)) (hP f C cp ca p 0 I (Or.inl ⟨rfl, rfl, he.symm⟩) hf hr (fun _ => hx))
  | succ k ih =>
    intro i I f C cp ca p hk hi hf hr hx he
    by_cases hlt : i < tot
    · refine m_turn hw hw2 htot htm hlt (mim_mf h0 hf (by decide) (by decide) (by decide) (by decide)) hr hx fun nn f1 C1 cp1 ca1 q b1 V I1 o1 g1 f2 r1 => ?_
      by_cases eb : b1 = 0
      · subst eb
        obtain ⟨y1, y2, rfl, x1⟩ := g1 rfl
        have e1 : pTurn B (8 * n) ls b w tot i f C cp ca p = some (nn, f1, C1, cp1, ca1, q) := o1.elim (fun y => y.2.2) (fun y => absurd y.1 (by decide))
        refine ih (i + nn) I1 f1 C1 cp1 ca1 q (by omega) y2 (mf_t hf f2) r1 x1 ?_
        rw [← he]
        simp only [pPix, if_pos hlt, e1]
      · obtain rfl : b1 = 1 := by have := r1.2.2.2.2; omega
        have e1 : pTurn B (8 * n) ls b w tot i f C cp ca p = none := (o1.elim (fun y => absurd y.1 (by decide)) (fun y => y.2)).elim (fun z => absurd z (by decide)) (fun z => z.2)
        have fin : P I1 := hP f1 C1 cp1 ca1 q 1 I1 (Or.inr ⟨rfl, Or.inr ⟨rfl, by rw [← he]; simp only [pPix, if_pos hlt, e1]⟩⟩) (mf_t hf f2) r1 (fun z => absurd z (by decide))
        exact t_M_readImage_76 ⟨fun _ => fin, fun _ => br_f (by rw [r1.2.2.2.1]; decide) fin⟩
    · obtain rfl : i = tot := by omega
      refine t_M_readImage_76 ?_
      rw [pk_mul, ← htot]
      exact br_t (nI_le (Nat.le_refl _) (by omega)) (hP f C cp ca p 0 I (Or.inl ⟨rfl, rfl, by rw [← he]; simp only [pPix, if_neg hlt]⟩) hf hr (fun _ => hx))
theorem l_empty {P : zJ → Prop} : ∀ (k i : Nat) (I : zJ), i + k = 16 → P (xfil I 93 i 16 (nI 0)) → g_M_emptyCache_17 c J (nI i) I P T := by
  intro k
  induction k with
  | zero =>
    intro i I hi hP
    obtain rfl : i = 16 := by omega
    rw [xfil_0] at hP
    exact t_M_emptyCache_17 (br_t (by decide) hP)
  | succ k ih =>
    intro i I hi hP
    refine t_M_emptyCache_17 (br_f (nI_ge (by omega) (by decide)) ⟨vp_in_nI (by omega) (by decide), ?_⟩)
    rw [nc (by omega), nI_add]
    exact ih (i + 1) _ (by omega) (by rw [xfil_s (by omega)]; exact hP)
theorem v_empty {P : zJ → Prop} {I : zJ} {v : Int32} (hP : P (xfil (xup (xup (xup I 83 19 v) 83 17 (nI 0)) 83 18 (nI 0)) 93 0 16 (nI 0))) : c_M_emptyCache c J v I P T := t_M_emptyCache (l_empty 16 0 _ (by decide) hP)
abbrev mcS : List Nat := [87, 89, 90]
/-- the reference's codes ahead of i -/
def mds (I : zJ) (b i : Nat) (ls : Nat → Nat → Nat) : Prop := ∀ j, j < i → j < 5 → mrd I j (zsz b j) (ls j)
theorem zb_seg {b j : Nat} (hb : b ≤ 4) (h : j < 5) : zb j + zsz b j ≤ 1104 ∧ zsz b j ≤ 300 ∧ 0 < zsz b j := by
  have hz := zsz_le hb h
  refine ⟨?_, by omega, hz.2.2⟩
  match j, h, hz with
  | 0, _, hz => exact Nat.le_trans (Nat.add_le_add_left hz.1 _) (by decide)
  | 1, _, hz => exact Nat.le_trans (Nat.add_le_add_left hz.1 _) (by decide)
  | 2, _, hz => exact Nat.le_trans (Nat.add_le_add_left hz.1 _) (by decide)
  | 3, _, hz => exact Nat.le_trans (Nat.add_le_add_left hz.1 _) (by decide)
  | 4, _, hz => exact Nat.le_trans (Nat.add_le_add_left hz.1 _) (by decide)
theorem zb_apart {b i j : Nat} (hb : b ≤ 4) (hi : i < 5) (hj : j < 5) (hne : i ≠ j) : zb i + zsz b i ≤ zb j ∨ zb j + zsz b j ≤ zb i := by
  have h1 := (zsz_le hb hi).1
  have h2 := (zsz_le hb hj).1
  have key : ∀ i, i < 5 → ∀ j, j < 5 → i ≠ j → zb i + zcm i ≤ zb j ∨ zb j + zcm j ≤ zb i := by decide
  rcases key i hi j hj hne with z | z
  · exact Or.inl (Nat.le_trans (Nat.add_le_add_left h1 _) z)
  · exact Or.inr (Nat.le_trans (Nat.add_le_add_left h2 _) z)
/-- a code that was read stays as another is read -/
theorem mrd_keep {I I1 : zJ} {b i j : Nat} {l : Nat → Nat} (hb : b ≤ 4) (hi : i < 5) (hj : j < 5) (hne : j ≠ i) (h : mrd I j (zsz b j) l) (hk : mkeep i (zsz b i) I I1) : mrd I1 j (zsz b j) l := by
  obtain ⟨⟨y1, y2, y3, y4, y5⟩, y6⟩ := h
  have hs := (zb_seg hb hj).1
  have ha := zb_apart hb hi hj (Ne.symm hne)
  obtain ⟨k1, k2⟩ := hk.2 j (by omega) hne
  refine ⟨⟨y1, y2, y3, by rw [k1]; exact y4, fun t ht => ?_⟩, by rw [k2]; exact y6⟩
  rw [hk.1 (zb j + t) (by omega) (by omega)]
  exact y5 t ht
/-- the other codes -/
theorem l_mcodes {P : zJ → Prop} {I0 : zJ} {b : Nat} {v1 v2 : Int32} {b0 : Nat} {F0 : Option ((Nat → Nat → Nat) × Nat)} (hb : b ≤ 4)
    (hP : ∀ ls1 q b1 I1, okb b0 F0 b1 (ls1, q) → mf mcS [8, 9] I0 I1 → mrs I1 B n q b1 → (b1 = 0 → mds I1 b 5 ls1) → g_M_readImage_76 c J v1 v2 (nI 0) I1 P T) :
    ∀ (k i : Nat) (ls : Nat → Nat → Nat) (I : zJ) (p b1 : Nat), i + k = 5 → 1 ≤ i → mf mcS [8, 9] I0 I → mrs I B n p b1 → (b1 = 0 → mds I b i ls) → (∀ b2 r, okb b1 (pCodes B (8 * n) b k i ls p) b2 r → okb b0 F0 b2 r) → g_M_readImage_38 c J v1 v2 (nI i) I P T := by
  intro k
  induction k with
  | zero =>
    intro i ls I p b1 hi h1 hf hr hd hok
    obtain rfl : i = 5 := by omega
    exact t_M_readImage_38 (br_t (by decide) (hP ls p b1 I (hok b1 (ls, p) (okb_r hr.2.2.2.2 rfl)) hf hr hd))
  | succ k ih =>
    intro i ls I p b1 hi h1 hf hr hd hok
    have hi5 : i < 5 := by omega
    have hseg := zb_seg hb hi5
    refine t_M_readImage_38 (br_f (nI_ge (by omega) (by decide)) ?_)
    by_cases eb : b1 = 0
    · subst eb
      refine br_t hr.2.2.2.1 ?_
      have key : c_M_readCode c J (nI i) (nI (zsz b i)) I (fun I4 => g_M_readImage_38 c J v1 v2 (nI i + nI 1) I4 P T) T := by
        refine m_code hr hi5 hseg.1 hseg.2.1 hseg.2.2 fun l q b2 I1 o1 f1 r1 g1 => ?_
        rw [nI_add]
        refine ih (i + 1) (fun j => if j = i then l else ls j) I1 q b2 (by omega) (by omega) (mf_t hf f1) r1 (fun z => ?_) (fun b3 r o3 => hok b3 r (okb_s o1 o3 (fun _ e1 => by simp only [pCodes, e1]) (fun e1 => by simp only [pCodes, e1])))
        obtain ⟨d1, k1⟩ := g1 z
        intro j hj hj5
        dsimp only
        by_cases e2 : j = i
        · subst e2; rw [if_pos rfl]; exact d1
        · rw [if_neg e2]; exact mrd_keep hb hi5 hj5 e2 (hd rfl j (by omega) hj5) k1
      refine pk_le 4 i (fun e4 => ?_) (fun e4 => ?_)
      · have : zsz b i = 40 := by unfold zsz; rw [if_neg (by omega), if_neg (by omega)]
        rw [this] at key
        exact key
      · have : zsz b i = 256 := by unfold zsz; rw [if_neg (by omega), if_pos e4]
        rw [this] at key
        exact key
    · obtain rfl : b1 = 1 := by have := hr.2.2.2.2; omega
      exact br_f (by rw [hr.2.2.2.1]; decide) (hP ls p 1 I (hok 1 (ls, p) (Or.inr ⟨rfl, Or.inl rfl⟩)) hf hr (fun z => absurd z (by decide)))
/-- an image -/
theorem m_img {P : zJ → Prop} {I : zJ} {w hh tot p b0 : Nat} (hw : 1 ≤ w) (hw2 : w ≤ 16) (hh2 : hh ≤ 8) (htot : tot = w * hh) (htm : tot ≤ 64) (hr : mrs I B n p b0)
    (hP : ∀ f1 b cp ca q b1 I1, okb b0 (pImg B (8 * n) w tot p) b1 (f1, b, cp, ca, q) → mf [87, 89, 90, 91, 93] [8, 9, 17, 18, 19] I I1 → mrs I1 B n q b1 → (b1 = 0 → (∀ k, k < tot → I1 91 k = f1 k) ∧ b ≤ 4 ∧ I1 83 19 = nI (zcc b) ∧ I1 83 17 = nI cp ∧ I1 83 18 = nI ca) → P I1) :
    c_M_readImage c J (nI w) (nI hh) I P T := by
  -- behind the cache's bits
  have key : ∀ (b q b1 : Nat) (I1 : zJ), b ≤ 4 → okb b0 (pBits B (8 * n) p) b1 (b, q) → mf [] [8, 9] I I1 → mrs I1 B n q b1 → c_M_emptyCache c J (nI (zcc b)) I1 (fun I7 => g_M_readImage_23 c J (nI w) (nI hh) I7 P T) T := by
    intro b q b1 I1 hb o1 f1 r1
    refine v_empty ?_
    have fI : mf [93] [17, 18, 19] I1 (xfil (xup (xup (xup I1 83 19 (nI (zcc b))) 83 17 (nI 0)) 83 18 (nI 0)) 93 0 16 (nI 0)) := mf_fil (mf_f (mf_f (mf_f mf_0 (by decide)) (by decide)) (by decide)) (by decide) (by decide)
    have e19 : (xfil (xup (xup (xup I1 83 19 (nI (zcc b))) 83 17 (nI 0)) 83 18 (nI 0)) 93 0 16 (nI 0)) 83 19 = nI (zcc b) := by rw [xfil_r (by decide), xup_i (by decide), xup_i (by decide), xup_s]
    have e17 : (xfil (xup (xup (xup I1 83 19 (nI (zcc b))) 83 17 (nI 0)) 83 18 (nI 0)) 93 0 16 (nI 0)) 83 17 = nI 0 := by rw [xfil_r (by decide), xup_i (by decide), xup_s]
    have e18 : (xfil (xup (xup (xup I1 83 19 (nI (zcc b))) 83 17 (nI 0)) 83 18 (nI 0)) 93 0 16 (nI 0)) 83 18 = nI 0 := by rw [xfil_r (by decide), xup_s]
    have e93 : ∀ k, k < 16 → (xfil (xup (xup (xup I1 83 19 (nI (zcc b))) 83 17 (nI 0)) 83 18 (nI 0)) 93 0 16 (nI 0)) 93 k = nI 0 := fun k hk => xfil_in (by omega) hk
    generalize xfil (xup (xup (xup I1 83 19 (nI (zcc b))) 83 17 (nI 0)) 83 18 (nI 0)) 93 0 16 (nI 0) = I2 at fI e19 e17 e18 e93
    have r2 : mrs I2 B n q b1 := mrs_mf r1 fI (by decide) (by decide) (by decide) (by decide) (by decide)
    have hcc := zcc_le hb
    refine t_M_readImage_23 ?_
    rw [e19, nI_add, ← hcc.2]
    have hseg := zb_seg hb (show 0 < 5 by decide)
    refine m_code r2 (by decide) hseg.1 hseg.2.1 hseg.2.2 fun l q1 b2 I3 o2 f3 r3 g3 => ?_
    refine l_mcodes (b0 := b1) (F0 := pCodes B (8 * n) b 5 0 (fun _ _ => 0) q) (I0 := I2) hb (fun ls q2 b3 I4 o3 f4 r4 d4 => ?_) 4 1 (fun j => if j = 0 then l else fun _ => 0) I3 q1 b2 (by decide) (by decide) f3 r3 (fun z j hj hj5 => ?_) (fun b3 r o3 => okb_s o2 o3 (fun _ e1 => ?_) (fun e1 => ?_))
    · have fa : mf [87, 89, 90, 91, 93] [8, 9, 17, 18, 19] I I4 := mf_t (mf_s f1 (by decide) (by decide)) (mf_t (mf_s fI (by decide) (by decide)) (mf_s f4 (by decide) (by decide)))
      have o4 : okb b0 (match pBits B (8 * n) p with
        | none => none
        | some (b, p1) => (pCodes B (8 * n) b 5 0 (fun _ _ => 0) p1).map fun r => (b, r)) b3 (b, ls, q2) := okb_s o1 (okb_map (g := fun (r : (Nat → Nat → Nat) × Nat) => (b, r)) o3) (fun _ e1 => by rw [e1]) (fun e1 => by rw [e1])
      by_cases eb : b3 = 0
      · subst eb
        obtain ⟨_, rfl, e3⟩ : (0 : Nat) = 0 ∧ b1 = 0 ∧ pCodes B (8 * n) b 5 0 (fun _ _ => 0) q = some (ls, q2) := o3.elim id (fun y => absurd y.1 (by decide))
        obtain ⟨_, rfl, e1⟩ : (0 : Nat) = 0 ∧ b0 = 0 ∧ pBits B (8 * n) p = some (b, q) := o1.elim id (fun y => absurd y.1 (by decide))
        have d5 := d4 rfl
        have d0 := d5 0 (by decide) (by decide)
        rw [hcc.2] at d0
        have i4 : mim I4 b ls := ⟨hb, (f4.2 19 (by decide)).trans e19, d0, d5 1 (by decide) (by decide), d5 2 (by decide) (by decide), d5 3 (by decide) (by decide), d5 4 (by decide) (by decide)⟩
        have x4 : mpx I4 b 0 (fun _ => 0) (fun _ => 0) 0 0 := ⟨fun k hk => absurd hk (by omega), fun _ k hk => by rw [f4.1 93 (by decide) (by decide)]; exact e93 k hk, (f4.2 17 (by decide)).trans e17, (f4.2 18 (by decide)).trans e18⟩
        refine l_mpixels (F0 := pPix B (8 * n) ls b w tot tot 0 (fun _ => 0) (fun _ => 0) 0 0 q2) hw hw2 htot htm i4 (fun f5 C5 cp5 ca5 q5 b5 I5 o5 f6 r5 x5 => ?_) tot 0 I4 _ _ 0 0 q2 (by omega) (by omega) mf_0 r4 x4 rfl
        refine hP f5 b cp5 ca5 q5 b5 I5 ?_ (mf_t fa (mf_s f6 (by decide) (by decide))) r5 (fun z => ⟨(x5 z).1, hb, (f6.2 19 (by decide)).trans i4.2.1, (x5 z).2.2.1, (x5 z).2.2.2⟩)
        refine okb_s o5 (okb_r r5.2.2.2.2 rfl) (fun _ e5 => ?_) (fun e5 => ?_)
        · simp only [pImg, e1, e3, e5]
        · simp only [pImg, e1, e3, e5]
      · obtain rfl : b3 = 1 := by have := r4.2.2.2.2; omega
        have fin : P I4 := by
          refine hP (fun _ => 0) b 0 0 q2 1 I4 ?_ fa r4 (fun z => absurd z (by decide))
          refine Or.inr ⟨rfl, ?_⟩
          rcases o1 with ⟨rfl, rfl, e1⟩ | ⟨rfl, o1⟩
          · refine Or.inr ⟨rfl, ?_⟩
            have e3 : pCodes B (8 * n) b 5 0 (fun _ _ => 0) q = none := (o3.elim (fun y => absurd y.1 (by decide)) (fun y => y.2)).elim (fun z => absurd z (by decide)) (fun z => z.2)
            simp only [pImg, e1, e3]
          · exact o1.imp id fun y => ⟨y.1, by simp only [pImg, y.2]⟩
        refine t_M_readImage_76 ⟨fun _ => fin, fun _ => br_f (by rw [r4.2.2.2.1]; decide) fin⟩
    · obtain rfl : j = 0 := by omega
      exact (g3 z).1
    · rw [pCodes, e1]
    · rw [pCodes, e1]
  refine t_M_readImage (m_bitb hr fun v p1 b1 I1 o1 g1 r1 f1 => pk_eq v 1 (fun ev => ?_) (fun ev => ?_))
  · refine m_bitsb r1 (by decide) fun u p2 b2 I2 o2 g2 r2 f2 => ?_
    have hsh : ∀ u, u < 4 → nI 2 <<< (nI u &&& 31) = nI (zcc (u + 1)) := by decide
    rw [hsh u (by omega)]
    refine key (u + 1) p2 b2 I2 (by omega) (okb_s o1 (okb_map (g := fun (q : Nat × Nat) => (q.1 + 1, q.2)) o2) (fun _ e1 => ?_) (fun e1 => by simp only [pBits, e1])) (mf_t f1 f2) r2
    simp only [pBits, e1, if_pos ev]
  · refine key 0 p1 b1 I1 (by decide) (okb_s o1 (okb_r r1.2.2.2.2 rfl) (fun _ e1 => ?_) (fun e1 => by simp only [pBits, e1])) f1 r1
    simp only [pBits, e1, if_neg ev]
end MK
