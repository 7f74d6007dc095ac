/-! AN IMAGE READ BY THE CLASS: the codes, the pixels, all of it. -/
abbrev zimL : List Nat := [14, 15, 16, 17, 18, 19, 20, 21, 22, 23, 24, 25, 26, 27, 28, 29, 30, 31, 32, 33, 34, 35, 36, 37, 38, 39, 40, 41, 42, 43, 44, 45, 46, 47, 48, 49, 50, 59, 60, 61, 62, 63, 64, 65, 66]
abbrev zimS (o : Nat) : List Nat := (o + 1) :: zimL
def zcm (j : Nat) : Nat := if j = 0 then 296 else if j < 4 then 256 else 40
theorem zco_j {c : zC} {j : Nat} (h : j < 5) : zco c (14 + 7 * j) (zcm j) := by
  match j, h with
  | 0, _ => exact zco_14
  | 1, _ => exact zco_21
  | 2, _ => exact zco_28
  | 3, _ => exact zco_35
  | 4, _ => exact zco_42
theorem zsz_le {b j : Nat} (hb : b ≤ 4) (h : j < 5) : zsz b j ≤ zcm j ∧ zcm j ≤ 300 ∧ 0 < zsz b j := by
  have hc := zcc_le hb
  match j, h with
  | 0, _ => exact ⟨by show 280 + zcc b ≤ 296; omega, by decide, by show 0 < 280 + zcc b; omega⟩
  | 1, _ => exact ⟨Nat.le_refl 256, by decide, by show 0 < 256; decide⟩
  | 2, _ => exact ⟨Nat.le_refl 256, by decide, by show 0 < 256; decide⟩
  | 3, _ => exact ⟨Nat.le_refl 256, by decide, by show 0 < 256; decide⟩
  | 4, _ => exact ⟨Nat.le_refl 40, by decide, by show 0 < 40; decide⟩
theorem zcod_sub {j a : Nat} (hj : j < 5) (h : a ∈ ([14 + 7 * j, 14 + 7 * j + 1, 14 + 7 * j + 2, 14 + 7 * j + 3, 14 + 7 * j + 4, 14 + 7 * j + 5, 14 + 7 * j + 6] ++ zsm)) : a ∈ zimL := by
  match j, hj with
  | 0, _ => revert a; decide
  | 1, _ => revert a; decide
  | 2, _ => revert a; decide
  | 3, _ => revert a; decide
  | 4, _ => revert a; decide
/-- the codes: those ahead of i arranged, the others empty -/
def cds (I : zJ) (b i : Nat) (ls : Nat → Nat → Nat) : Prop := ∀ j, j < 5 → (j < i → arr I (14 + 7 * j) (zsz b j) (ls j)) ∧ (i ≤ j → cde I (14 + 7 * j) (zsz b j) (fun _ => 0))
section RK
variable {c : zC} {J : zK} {N p : Nat} {B : Nat → Int32} {T : Nat → zJ → Prop}
theorem v_of {P : Nat → zJ → Prop} {I : zJ} {i : Nat} (h : i < 5) (hP : P (14 + 7 * i) I) : c_Codes_of c J (nI i) I P T := by
  refine t_Codes_of ⟨fun e => ?_, fun e => ?_, fun e => ?_, fun e => ?_, fun e => ?_⟩
  · rw [nI_eq (by omega) (by decide)] at e; subst e; exact hP
  · rw [nI_eq (by omega) (by decide)] at e; subst e; exact hP
  · rw [nI_eq (by omega) (by decide)] at e; subst e; exact hP
  · rw [nI_eq (by omega) (by decide)] at e; subst e; exact hP
  · rw [nI_toInt (by omega)] at e
    obtain rfl : i = 4 := by omega
    exact hP
/-- the pixels -/
theorem l_pixels {P : zJ → Prop} {I0 : zJ} {o m b w hh tot : Nat} {ls : Nat → Nat → Nat} (hp : zpl c o m) (ho : hop o) (hm : m ≤ 64) (hw : 1 ≤ w) (hw2 : w ≤ 16) (htot : tot = w * hh) (htm : tot ≤ m) (h0 : cim I0 o b w hh ls) :
    ∀ (k i t : Nat) (I : zJ) (f C : Nat → Int32) (cp ca p : Nat), tot ≤ i + k → i ≤ tot → t ≤ i → cf (zpxS o) I0 I → cst I B N p → cpx I o i f C cp ca →
    (∀ f1 C1 cp1 ca1 q I1, pPix B N ls b w tot k i f C cp ca p = some (f1, C1, cp1, ca1, q) → cf (zpxS o) I0 I1 → cst I1 B N q → cpx I1 o tot f1 C1 cp1 ca1 → P I1) →
    (∀ I1, pPix B N ls b w tot k i f C cp ca p = none → cf (zpxS o) I0 I1 → T 100 I1) → g_ImageReader_take_87 c J 9 o (nI tot) (nI i) (nI t) I P T := by
  intro k
  induction k with
  | zero =>
    intro i t I f C cp ca p hk hi ht hf h hx hP hT
    obtain rfl : i = tot := by omega
    have fin : P I := hP f C cp ca p I rfl hf h hx
    exact t_ImageReader_take_87 zbi_9 hp (pk_le i t (fun _ => fin) (fun _ => br_t (nI_le (Nat.le_refl _) (by omega)) fin))
  | succ k ih =>
    intro i t I f C cp ca p hk hi ht hf h hx hP hT
    by_cases hlt : i < tot
    · refine t_ImageReader_take_87 zbi_9 hp (br_f (nI_ge (by omega) (by omega)) (br_f (nI_ge hlt (by omega)) ?_))
      refine r_turn hp ho hm hw hw2 htot htm hlt (cim_cf h0 ho hf) h hx (fun n f1 C1 cp1 ca1 q I1 e g1 g2 f2 h2 x2 => ?_) (fun I1 e f2 => hT I1 ?_ (cf_t hf f2))
      · rw [nI_add, nI_add]
        have unf : pPix B N ls b w tot (k + 1) i f C cp ca p = pPix B N ls b w tot k (i + n) f1 C1 cp1 ca1 q := by
          simp only [pPix, if_pos hlt, e]
        rw [unf] at hP hT
        exact ih (i + n) (t + 1) I1 f1 C1 cp1 ca1 q (by omega) g2 (by omega) (cf_t hf f2) h2 x2 hP hT
      · simp only [pPix, if_pos hlt, e]
    · obtain rfl : i = tot := by omega
      have fin : P I := hP f C cp ca p I (by simp only [pPix, if_neg hlt]) hf h hx
      exact t_ImageReader_take_87 zbi_9 hp (pk_le i t (fun _ => fin) (fun _ => br_t (nI_le (by omega) (by omega)) fin))
/-- the codes, from this one on -/
theorem l_codes {P : zJ → Prop} {I0 : zJ} {o m b : Nat} (hp : zpl c o m) (hb : b ≤ 4)
    : ∀ (k i : Nat) (ls : Nat → Nat → Nat) (I : zJ) (p : Nat), i + k = 5 → cf zimL I0 I → cst I B N p → cds I b i ls →
    (∀ ls1 q I1, pCodes B N b k i ls p = some (ls1, q) → cf zimL I0 I1 → cst I1 B N q → cds I1 b 5 ls1 → I1 50 = I 50 → I1 59 = I 59 → I1 49 = I 49 → g_ImageReader_take_87 c J 9 o ((I1 o 1) * (I1 o 2)) (nI 0) (nI 0) I1 P T) →
    (∀ I1, pCodes B N b k i ls p = none → cf zimL I0 I1 → T 100 I1) → g_ImageReader_take_52 c J 9 o (nI i) I P T := by
  intro k
  induction k with
  | zero =>
    intro i ls I p hi hf h hd hP hT
    obtain rfl : i = 5 := by omega
    exact t_ImageReader_take_52 zbi_9 hp (br_t (by decide) (hP ls p I rfl hf h hd rfl rfl rfl))
  | succ k ih =>
    intro i ls I p hi hf h hd hP hT
    have hi5 : i < 5 := by omega
    have hz := zsz_le hb hi5
    refine t_ImageReader_take_52 zbi_9 hp (br_f (nI_ge (by omega) (by decide)) (v_of hi5 ⟨zcm i, zco_j hi5, ?_⟩))
    refine r_code (zco_j hi5) (by omega) (by omega) hz.1 hz.2.1 ((hd i hi5).2 (Nat.le_refl _)) h (fun l q I1 e f1 h1 a1 => ?_) (fun I1 e f1 => hT I1 (by simp only [pCodes, e]) (cf_t hf (cf_s f1 fun a ha => zcod_sub hi5 ha)))
    rw [nI_add]
    have unf : pCodes B N b (k + 1) i ls p = pCodes B N b k (i + 1) (fun j => if j = i then l else ls j) q := by simp only [pCodes, e]
    rw [unf] at hP hT
    have k50 : I1 50 = I 50 := f1.1 50 (by decide) (by simp; omega)
    have k59 : I1 59 = I 59 := f1.1 59 (by decide) (by simp; omega)
    have k49 : I1 49 = I 49 := f1.1 49 (by decide) (by simp; omega)
    refine ih (i + 1) _ I1 q (by omega) (cf_t hf (cf_s f1 fun a ha => zcod_sub hi5 ha)) h1 ?_ (fun ls1 q1 I2 e2 f2 h2 d2 y1 y2 y3 => hP ls1 q1 I2 e2 f2 h2 d2 (y1.trans k50) (y2.trans k59) (y3.trans k49)) hT
    intro j hj
    refine ⟨fun hji => ?_, fun hji => ?_⟩
    · dsimp only
      by_cases e2 : j = i
      · subst e2; rw [if_pos rfl]; exact a1
      · rw [if_neg e2]
        exact arr_cf ((hd j hj).1 (by omega)) f1 (by omega) (by simp; omega) (by simp; omega) (by simp; omega) (by simp; omega) (by simp; omega)
    · exact cde_cf ((hd j hj).2 (by omega)) f1 (by omega) (by simp; omega) (by simp; omega)
theorem v_clear5 {P : zJ → Prop} {I : zJ} {b : Nat} (hb : b ≤ 4) (hP : ∀ I1, fr [14, 18, 21, 25, 28, 32, 35, 39, 42, 46] I I1 → cds I1 b 0 (fun _ _ => 0) → P I1) : c_Codes_clear c J (nI (zcc b)) I P T := by
  have hc := zcc_le hb
  refine t_Codes_clear ?_
  rw [nI_add]
  refine v_Code_clear zco_14 (by decide) (by omega) fun I1 f1 d1 => v_Code_clear zco_21 (by decide) (by decide) fun I2 f2 d2 => v_Code_clear zco_28 (by decide) (by decide) fun I3 f3 d3 => v_Code_clear zco_35 (by decide) (by decide) fun I4 f4 d4 => v_Code_clear zco_42 (by decide) (by decide) fun I5 f5 d5 => hP I5 ?_ ?_
  · exact fr_t (fr_s f1 (by decide)) (fr_t (fr_s f2 (by decide)) (fr_t (fr_s f3 (by decide)) (fr_t (fr_s f4 (by decide)) (fr_s f5 (by decide)))))
  · intro j hj
    refine ⟨fun z => absurd z (by omega), fun _ => ?_⟩
    match j, hj with
    | 0, _ =>
      rw [hc.2]
      exact cde_fr (cde_fr (cde_fr (cde_fr d1 f2 (by decide) (by decide)) f3 (by decide) (by decide)) f4 (by decide) (by decide)) f5 (by decide) (by decide)
    | 1, _ => exact cde_fr (cde_fr (cde_fr d2 f3 (by decide) (by decide)) f4 (by decide) (by decide)) f5 (by decide) (by decide)
    | 2, _ => exact cde_fr (cde_fr d3 f4 (by decide) (by decide)) f5 (by decide) (by decide)
    | 3, _ => exact cde_fr d4 f5 (by decide) (by decide)
    | 4, _ => exact d5
/-- an image -/
theorem r_img {P : zJ → Prop} {I : zJ} {o m w hh tot : Nat} (hp : zpl c o m) (ho : hop o) (hm : m ≤ 64) (hw : 1 ≤ w) (hw2 : w ≤ 16) (htot : tot = w * hh) (htm : tot ≤ m) (h1 : I o 1 = nI w) (h2 : I o 2 = nI hh) (h : cst I B N p)
    (hP : ∀ f1 b cp ca q I1, pImg B N w tot p = some (f1, b, cp, ca, q) → cf (zimS o) I I1 → cst I1 B N q → (∀ k, k < tot → I1 (o + 1) k = f1 k) → b ≤ 4 → I1 49 1 = nI b → I1 59 3 = nI cp → I1 59 4 = nI ca → P I1)
    (hT : ∀ I1, pImg B N w tot p = none → cf (zimS o) I I1 → T 100 I1) : c_ImageReader_take c J 9 o I P T := by
  have h9 := hop_9 ho
  have hz : ∀ a, a ∈ zimL → a ∈ zimS o := fun a ha => List.mem_cons_of_mem _ ha
  have hox : ∀ a, a = o ∨ a = o + 1 → a ∉ zimL := by
    intro a ha
    unfold hop at ho
    simp
    omega
  -- behind the cache's bits
  have key : ∀ (b q : Nat) (I1 : zJ), b ≤ 4 → pBits B N p = some (b, q) → cf [59] I I1 → I1 59 3 = nI 0 → I1 59 4 = nI 0 → cst I1 B N q → c_Cache_open c J (nI b) I1 (fun I7 => g_ImageReader_take_36 c J 9 o I7 P T) T := by
    intro b q I1 hb eb f1 y3 y4 c1
    refine t_Cache_open (v_A_fill zw_50 (by decide) ?_)
    have fI : fr [49, 50] I1 (xfil (xup I1 49 1 (nI b)) 50 0 16 (nI 0)) := fr_fil (fr_u fr_0 (by decide)) (by decide)
    have e49 : (xfil (xup I1 49 1 (nI b)) 50 0 16 (nI 0)) 49 1 = nI b := by rw [xfil_r (by decide), xup_s]
    have e50 : ∀ k, k < 16 → (xfil (xup I1 49 1 (nI b)) 50 0 16 (nI 0)) 50 k = nI 0 := fun k hk => xfil_in (by omega) hk
    generalize xfil (xup I1 49 1 (nI b)) 50 0 16 (nI 0) = I2 at fI e49 e50
    refine t_ImageReader_take_36 zbi_9 hp ?_
    have ec : f_Cache_colourCount I2 = nI (zcc b) := by
      unfold f_Cache_colourCount
      rw [e49]
      have key2 : ∀ b, b < 5 → (if nI b = nI 0 then nI 0 else nI 1 <<< (nI b &&& 31)) = nI (zcc b) := by decide
      exact key2 b (by omega)
    rw [ec]
    refine v_clear5 hb fun I3 f3 d3 => ?_
    have c3 : cst I3 B N q := cst_fr (cst_fr c1 fI (by decide)) f3 (by decide)
    have cf3 : cf zimL I I3 := cf_t (cf_s f1 (by decide)) (cf_t (cf_fr (fr_s fI (by decide)) (by decide)) (cf_fr (fr_s f3 (by decide)) (by decide)))
    refine l_codes hp hb 5 0 (fun _ _ => 0) I3 q (by decide) cf_0 c3 d3 (fun ls q1 I4 e4 f4 c4 d4 k50 k59 k49 => ?_) (fun I4 e4 f4 => hT I4 ?_ (cf_s (cf_t cf3 f4) hz))
    · have cf4 : cf zimL I I4 := cf_t cf3 f4
      have ew : I4 o 1 = nI w := by rw [cf4.1 o h9.1 (hox _ (Or.inl rfl))]; exact h1
      have eh : I4 o 2 = nI hh := by rw [cf4.1 o h9.1 (hox _ (Or.inl rfl))]; exact h2
      have i4 : cim I4 o b w hh ls := ⟨hb, by rw [k49, f3 49 (by decide)]; exact e49, ew, eh, (d4 0 (by decide)).1 (by decide), (d4 1 (by decide)).1 (by decide), (d4 2 (by decide)).1 (by decide), (d4 3 (by decide)).1 (by decide), (d4 4 (by decide)).1 (by decide)⟩
      have x4 : cpx I4 o 0 (fun _ => 0) (fun _ => 0) 0 0 := by
        refine ⟨fun k hk => absurd hk (by omega), fun k hk => ?_, ?_, ?_⟩
        · rw [k50, f3 50 (by decide)]; exact e50 k hk
        · rw [k59, f3 59 (by decide), fI 59 (by decide)]; exact y3
        · rw [k59, f3 59 (by decide), fI 59 (by decide)]; exact y4
      rw [ew, eh, pk_mul, ← htot]
      have hzp : ∀ a, a ∈ zpxS o → a ∈ zimS o := by
        intro a ha
        simp at ha ⊢
        omega
      refine l_pixels hp ho hm hw hw2 htot htm i4 tot 0 0 I4 (fun _ => 0) (fun _ => 0) 0 0 q1 (by omega) (by omega) (by omega) cf_0 c4 x4 (fun f1 C1 cp1 ca1 q2 I5 e5 f5 c5 x5 => ?_) (fun I5 e5 f5 => hT I5 ?_ (cf_t (cf_s cf4 hz) (cf_s f5 hzp)))
      · exact hP f1 b cp1 ca1 q2 I5 (by simp only [pImg, eb, e4, e5]) (cf_t (cf_s cf4 hz) (cf_s f5 hzp)) c5 x5.1 hb (cim_cf i4 ho f5).2.1 x5.2.2.1 x5.2.2.2
      · simp only [pImg, eb, e4, e5]
    · simp only [pImg, eb, e4]
  have c0 : cst (xup (xup I 59 3 (nI 0)) 59 4 (nI 0)) B N p := cst_u (cst_u h (by decide)) (by decide)
  have fz : cf [59] I (xup (xup I 59 3 (nI 0)) 59 4 (nI 0)) := cf_u (cf_u cf_0 (by decide) (by decide)) (by decide) (by decide)
  refine t_ImageReader_take zbi_9 hp (r_bit c0 (fun v p1 e1 g1 q1 => ?_) (fun e1 => hT _ (by simp only [pImg, pBits, e1]) (cf_s fz (by simp))))
  have c1 := cst_q c0 q1
  refine pk_eq v 1 (fun ev => ?_) (fun ev => ?_)
  · refine r_num c1 (by decide) (fun b p2 e2 g2 q2 => ?_) (fun e2 => hT _ (by simp only [pImg, pBits, e1, if_pos ev, e2]; rfl) (cf_s (cf_p fz) (by simp)))
    rw [xup_2, nI_add]
    refine key (b + 1) p2 _ (by omega) (by simp only [pBits, e1, if_pos ev, e2]; rfl) (cf_p fz) ?_ ?_ (cst_q c0 q2)
    · rw [xup_k (by decide), xup_i (by decide), xup_s]
    · rw [xup_k (by decide), xup_s]
  · refine key 0 p1 _ (by decide) (by simp only [pBits, e1, if_neg ev]) (cf_p fz) ?_ ?_ c1
    · rw [xup_k (by decide), xup_i (by decide), xup_s]
    · rw [xup_k (by decide), xup_s]
end RK
