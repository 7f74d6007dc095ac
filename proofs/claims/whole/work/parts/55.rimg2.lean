/-! AN IMAGE READ BY THE CLASS. -/
section RJ
variable {c : zC} {J : zK} {N p : Nat} {B : Nat → Int32} {T : Nat → zJ → Prop}
theorem zcc_le {b : Nat} (hb : b ≤ 4) : zcc b ≤ 16 ∧ zsz b 0 = 280 + zcc b := by
  match b, hb with
  | 0, _ => exact ⟨by decide, rfl⟩
  | 1, _ => exact ⟨by decide, rfl⟩
  | 2, _ => exact ⟨by decide, rfl⟩
  | 3, _ => exact ⟨by decide, rfl⟩
  | 4, _ => exact ⟨by decide, rfl⟩
theorem r_hear {P : Int32 → zJ → Prop} {I : zJ} {o m s : Nat} {l : Nat → Nat} (hc : zco c o m) (ho : 14 ≤ o) (hs : s ≤ m) (hm : m ≤ 300) (h0 : arr I o s l) (h : cst I B N p)
    (hP : ∀ v q, pHear B N l s p = some (v, q) → v < s → q ≤ N → P (nI v) (xup I 9 2 (nI q))) (hT : ∀ q, q ≤ N → pHear B N l s p = none → T 100 (xup I 9 2 (nI q))) : c_Code_hear c J o 9 I P T :=
  v_Code_hear hc ho zbi_9 hs hm h0 h.1 h.2.2.1 h.2.2.2.1 h.2.2.2.2.1 h.2.1 hP hT
theorem fr_cf {S : List Nat} {I I1 : zJ} (h : fr S I I1) (h9 : 9 ∉ S) : cf S I I1 := cf_fr h h9
/-- a turn of the class's reader -/
theorem r_turn {P : Int32 → zJ → Prop} {I : zJ} {o m b w hh tot i : Nat} {ls : Nat → Nat → Nat} {f C : Nat → Int32} {cp ca : Nat} (hp : zpl c o m) (ho : hop o) (hm : m ≤ 64) (hw : 1 ≤ w) (hw2 : w ≤ 16) (htot : tot = w * hh) (htm : tot ≤ m) (hi : i < tot)
    (h0 : cim I o b w hh ls) (h : cst I B N p) (hx : cpx I o i f C cp ca)
    (hP : ∀ n f1 C1 cp1 ca1 q I1, pTurn B N ls b w tot i f C cp ca p = some (n, f1, C1, cp1, ca1, q) → 1 ≤ n → i + n ≤ tot → cf (zpxS o) I I1 → cst I1 B N q → cpx I1 o (i + n) f1 C1 cp1 ca1 → P (nI n) I1)
    (hT : ∀ I1, pTurn B N ls b w tot i f C cp ca p = none → cf (zpxS o) I I1 → T 100 I1) : c_ImageReader_takePixels c J 9 o (nI i) I P T := by
  have h9 := hop_9 ho
  have hb := h0.1
  have hcc := zcc_le hb
  have hsl : ∀ v, hsh b v < 16 := hsh_lt b hb
  have n9 : (9 : Nat) ∉ zpxS o := hop_n ho (by decide) (by decide)
  have cim_p : ∀ {q : Nat} {I : zJ}, cim I o b w hh ls → cim (xup I 9 2 (nI q)) o b w hh ls := fun h => cim_cf h ho (cf_p cf_0)
  have h14 := h0.2.2.2.2.1
  rw [hcc.2] at h14
  refine t_ImageReader_takePixels zbi_9 hp (r_hear zco_14 (by decide) (by omega) (by decide) h14 h (fun s p1 e1 g1 q1 => ?_) (fun q hq e1 => hT _ (by simp only [pTurn, e1]) (cf_p cf_0)))
  have h1 := cst_q h q1
  have i1 := cim_p (q := p1) h0
  have x1 := cpx_p (q := p1) hx ho
  -- one pixel put
  have one : ∀ {v : Int32} {q ca' : Nat} {I2 : zJ}, cf (zpxS o) I I2 → cst I2 B N q → cim I2 o b w hh ls → cpx I2 o i f C cp ca' → pTurn B N ls b w tot i f C cp ca p = some (1, zup f i v, zup C (hsh b v) v, cp, ca', q) → ∀ I3, I3 = xup (xup I2 (o + 1) i v) 50 (hsh b v) v → P (nI 1) I3 := by
    intro v q ca' I2 f2 h2 i2 x2 e I3 hI3
    subst hI3
    refine hP _ _ _ _ _ q _ e (by decide) (by omega) (cf_u (cf_u f2 (by simp) (by omega)) (by simp) (by decide)) ?_ (px_one ho x2)
    exact cst_px h2 ho (fr_u (fr_u fr_0 (by simp)) (by simp))
  have e49 : ∀ {I2 : zJ} {x : Nat} {v : Int32}, cim I2 o b w hh ls → (xup I2 (o + 1) x v) 49 1 = nI b := fun {I2 x v} i2 => by rw [xup_k (by omega)]; exact i2.2.1
  have at43 : s < 256 ∨ 280 ≤ s → g_ImageReader_takePixels_43 c J 9 o (nI i) (nI s) (xup I 9 2 (nI p1)) P T := by
    intro hs
    refine t_ImageReader_takePixels_43 zbi_9 hp (pk_le 256 s (fun e => ?_) (fun e => ?_))
    · have hs2 : 280 ≤ s := by omega
      have hC : (xup I 9 2 (nI p1)) 50 (s - 280) = C (s - 280) := x1.2.1 _ (by omega)
      have i2 : cim (xup (xup I 9 2 (nI p1)) 59 4 (nI ca + nI 1)) o b w hh ls := cim_cf i1 ho (cf_u cf_0 (by simp) (by decide))
      rw [pk_sub hs2, nc (by omega), nc (by omega), hC, x1.2.2.2, f_place (e49 i2) hb, nc (by have := hsl (C (s - 280)); omega)]
      refine ⟨vp_in_nI (by omega) (by decide), vp_in_nI (by omega) (by omega), vp_in_nI (hsl _) (by decide), ?_⟩
      rw [nI_add] at i2 ⊢
      refine one (q := p1) (ca' := ca + 1) (cf_u (cf_p cf_0) (by simp) (by decide)) (cst_px h1 ho (fr_u fr_0 (by simp))) i2 ?_ ?_
      · obtain ⟨y1, y2, y3, y4⟩ := x1
        exact ⟨fun k hk => by rw [xup_k (by omega)]; exact y1 k hk, fun k hk => by rw [xup_k (by decide)]; exact y2 k hk, by rw [xup_i (by decide)]; exact y3, xup_s⟩
      · simp only [pTurn, e1, if_neg (show ¬ s < 256 by omega), if_neg (show ¬ s < 280 by omega)]
    · refine r_hear zco_21 (by decide) (by decide) (by decide) i1.2.2.2.2.2.1 h1 (fun r p2 e2 g2 q2 => ?_) (fun q hq e2 => hT _ (by simp only [pTurn, e1, if_pos e, e2]) (cf_p (cf_p cf_0)))
      rw [xup_2]
      have h2 := cst_q h q2
      refine r_hear zco_28 (by decide) (by decide) (by decide) (cim_p h0).2.2.2.2.2.2.1 h2 (fun bl p3 e3 g3 q3 => ?_) (fun q hq e3 => hT _ (by simp only [pTurn, e1, if_pos e, e2, e3]) (cf_p (cf_p cf_0)))
      rw [xup_2]
      have h3 := cst_q h q3
      refine r_hear zco_35 (by decide) (by decide) (by decide) (cim_p h0).2.2.2.2.2.2.2.1 h3 (fun al p4 e4 g4 q4 => ?_) (fun q hq e4 => hT _ (by simp only [pTurn, e1, if_pos e, e2, e3, e4]) (cf_p (cf_p cf_0)))
      rw [xup_2]
      have h4 := cst_q h q4
      have i4 := cim_p (q := p4) h0
      rw [nc (by omega)]
      have ez : ((nI al <<< (nI 24 &&& 31) ||| nI r <<< (nI 16 &&& 31)) ||| nI s <<< (nI 8 &&& 31)) ||| nI bl = zpx al r s bl := rfl
      rw [ez, f_place (e49 i4) hb, nc (by have := hsl (zpx al r s bl); omega)]
      refine ⟨vp_in_nI (by omega) (by omega), vp_in_nI (hsl _) (by decide), ?_⟩
      exact one (q := p4) (cf_p cf_0) h4 i4 (cpx_p hx ho) (by simp only [pTurn, e1, if_pos e, e2, e3, e4])
  refine pk_lt s 256 (fun e => at43 (Or.inl e)) (fun e => pk_le 280 s (fun e2 => at43 (Or.inr e2)) (fun e2 => ?_))
  -- a copy
  rw [pk_sub e]
  refine t_ImageReader_takeCopy zbi_9 hp (r_pre h1 (by omega) (fun n p2 e3 g3 g3b q2 => ?_) (fun e3 => hT _ (by simp only [pTurn, e1, if_neg (show ¬ s < 256 by omega), if_pos e2, pCopy, e3]) (cf_p cf_0)))
  rw [xup_2]
  have h2 := cst_q h q2
  refine r_hear zco_42 (by decide) (by decide) (by decide) (cim_p h0).2.2.2.2.2.2.2.2 h2 (fun x p3 e4 g4 q3 => ?_) (fun q hq e4 => hT _ (by simp only [pTurn, e1, if_neg (show ¬ s < 256 by omega), if_pos e2, pCopy, e3, e4]) (cf_p (cf_p cf_0)))
  rw [xup_2]
  have h3 := cst_q h q3
  refine r_pre h3 g4 (fun q p4 e5 g5 g5b q4 => ?_) (fun e5 => hT _ (by simp only [pTurn, e1, if_neg (show ¬ s < 256 by omega), if_pos e2, pCopy, e3, e4, e5]) (cf_p cf_0))
  rw [xup_2]
  have h4 := cst_q h q4
  have i4 := cim_p (q := p4) h0
  have ew : (xup I 9 2 (nI p4)) o 1 = nI w := i4.2.2.1
  have eh : (xup I 9 2 (nI p4)) o 2 = nI hh := i4.2.2.2.1
  have hdp := z_dist_pos q w
  have hdl : zdist q w < 2 ^ 31 := by
    unfold zdist
    by_cases e8 : 8 < q
    · rw [if_pos e8]; omega
    · rw [if_neg e8]
      have : znear q w ≤ 100 := by
        have key : ∀ q, q < 9 → ∀ w, w < 17 → znear q w ≤ 100 := by decide
        exact key q (by omega) w (by omega)
      omega
  rw [ew]
  refine r_dist h4 g5 (by omega) hw hw2 ?_
  rw [ew, eh, pk_mul, ← htot, pk_sub (by omega)]
  have unf : pTurn B N ls b w tot i f C cp ca p = if zdist q w ≤ i ∧ i + n ≤ tot then some (n, (cpL b (zdist q w) n i f C).1, (cpL b (zdist q w) n i f C).2, cp + 1, ca, p4) else none := by
    simp only [pTurn, e1, if_neg (show ¬ s < 256 by omega), if_pos e2, pCopy, e3, e4, e5]
  refine pk_lt i (zdist q w) (fun e6 => hT _ (by rw [unf, if_neg (by omega)]) (cf_p cf_0)) (fun e6 => pk_le n (tot - i) (fun e7 => ?_) (fun e7 => hT _ (by rw [unf, if_neg (by omega)]) (cf_p cf_0)))
  refine l_copy (R := cpL b (zdist q w) n i f C) hp ho hm i4 hdp e6 (by omega) (fun I1 f1 x2 => ?_) n i _ f C rfl (Nat.le_refl _) fr_0 (cpx_p hx ho) rfl
  exact hP _ _ _ _ _ p4 I1 (by rw [unf, if_pos (by omega)]) g3 (by omega) (cf_t (cf_p cf_0) (fr_cf f1 n9)) (cst_px h4 ho f1) x2
end RJ
