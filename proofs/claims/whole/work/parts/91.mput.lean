/-! THE REFERENCE PUTS AN IMAGE. -/
def pe (n : Nat) : Nat := if n < 9 then 1 else if n < 17 then 2 else if n < 33 then 3 else if n < 65 then 4 else 5
theorem pe_a : ∀ n, n < 73 → 5 ≤ n → ∀ j, j < 5 → j < pe n → ¬ (nI (n - 1) >>> ((nI j + nI 2) &&& 31)) ≤ nI 0 := by decide
theorem pe_b : ∀ n, n < 73 → 5 ≤ n → (nI (n - 1) >>> ((nI (pe n) + nI 2) &&& 31)) ≤ nI 0 ∧ (nI 2 * (nI (pe n) + nI 1)) + ((nI (n - 1) >>> (nI (pe n) &&& 31)) &&& nI 1) = nI (pre n) := by decide
theorem pe_c : ∀ n, n < 5 → 1 ≤ n → n - 1 = pre n := by decide
theorem pe_d : ∀ n, n < 73 → 1 ≤ n → 4 ≤ pre n → (nI (n - 1) &&& (nI 1 <<< ((nI (pre n) / nI 2 - nI 1) &&& 31) - nI 1)) = nI (n - zlst (pre n)) := by decide
theorem pe_le (n : Nat) : pe n ≤ 5 ∧ 1 ≤ pe n := by
  unfold pe
  split
  · decide
  · split
    · decide
    · split
      · decide
      · split <;> decide
theorem zb_inj {w v x y : Nat} (hw : w < 5) (hv : v < 5) (hx : x < zmx w) (hy : y < zmx v) (h : zb w + x = zb v + y) : w = v ∧ x = y := by
  have z : zb 0 = 0 ∧ zb 1 = 296 ∧ zb 2 = 552 ∧ zb 3 = 808 ∧ zb 4 = 1064 ∧ zmx 0 = 296 ∧ zmx 1 = 256 ∧ zmx 2 = 256 ∧ zmx 3 = 256 ∧ zmx 4 = 40 := by decide
  obtain ⟨z0, z1, z2, z3, z4, m0, m1, m2, m3, m4⟩ := z
  rcases (by omega : w = 0 ∨ w = 1 ∨ w = 2 ∨ w = 3 ∨ w = 4) with e | e | e | e | e <;> subst e <;> rcases (by omega : v = 0 ∨ v = 1 ∨ v = 2 ∨ v = 3 ∨ v = 4) with e | e | e | e | e <;> subst e <;> omega
theorem zb_lx {w : Nat} (hw : w < 5) : zb w + zmx w ≤ 1104 := by
  rcases (by omega : w = 0 ∨ w = 1 ∨ w = 2 ∨ w = 3 ∨ w = 4) with e | e | e | e | e <;> subst e <;> decide
/-- symbols used, in the reference's rows -/
def mua (I : zJ) (b : Nat) (ts : List zSy) : Prop := ∀ w, w < 5 → ∀ x, x < zsz b w → I 88 (zb w + x) = nI (us1 (hsy ts w) x)
section MP
variable {c : zC} {J : zK} {T : Nat → zJ → Prop} {P : zJ → Prop} {b h n tot : Nat} {f : Nat → Int32}
theorem mua_app {I : zJ} {ts : List zSy} {w x : Nat} {v : Int32} (hb : b ≤ 4) (h : mua I b ts) (hw : w < 5) (hx : x < zsz b w) : mua (xup I 88 (zb w + x) (nI 1)) b (ts ++ [(w, x, v)]) := by
  intro w' hw' x' hx'
  have z1 := zsz_lx (b := b) hb hw
  have z2 := zsz_lx (b := b) hb hw'
  rw [hsy_app]
  by_cases e : w = w' ∧ x' = x
  · rw [if_pos e, e.1, e.2, xup_s]
  · rw [if_neg e, xup_i]
    · exact h w' hw' x' hx'
    · intro z
      obtain ⟨e1, e2⟩ := zb_inj hw' hw (by omega) (by omega) z
      exact e ⟨e1.symm, e2⟩
theorem v_prefixM {P : Int32 → zJ → Prop} {I : zJ} (h1 : 1 ≤ n) (h2 : n < 73) (hP : P (nI (pre n)) I) : c_M_prefixOf c J (nI n) I P T := by
  refine t_M_prefixOf ?_
  rw [pk_sub h1]
  refine pk_le 4 (n - 1) (fun e => ?_) (fun e => ?_) rfl rfl (by decide) (by omega)
  · have hl := pe_le n
    have key : ∀ (r j : Nat), j + r = pe n → g_M_prefixOf_13 c J (nI (n - 1)) (nI j) I P T := by
      intro r
      induction r with
      | zero =>
        intro j hj
        obtain rfl : j = pe n := by omega
        obtain ⟨q1, q2⟩ := pe_b n h2 (by omega)
        refine t_M_prefixOf_13 (br_t q1 ?_)
        rw [q2]
        exact hP
      | succ r ih =>
        intro j hj
        refine t_M_prefixOf_13 (br_f (pe_a n h2 (by omega) j (by omega) (by omega)) ?_)
        rw [nI_add]
        exact ih (j + 1) (by omega)
    exact key (pe n) 0 (by omega)
  · rw [pe_c n (by omega) h1]
    exact hP
theorem v_putRest {I : zJ} (h1 : 1 ≤ n) (h2 : n < 73) (h7 : I 83 7 = nI h) (hh : h + 20 < 2 ^ 30) (hP : P (em I 83 7 86 h (bsv (nI (n - zlst (pre n))) (zbeh (pre n))))) : c_M_putRest c J (nI n) I P T := by
  have hp := (pre_lt n h2).1
  refine t_M_putRest (v_prefixM h1 h2 ?_)
  rw [pk_sub h1]
  refine pk_le 4 (pre n) (fun e => ?_) (fun e => ?_) rfl rfl (by decide) (by omega)
  · have e1 : nI (pre n) / nI 2 - nI 1 = nI (zbeh (pre n)) := z_behA (pre n) (by omega) e
    have hzb := z_beh_le (pre n) (by omega)
    rw [pe_d n h2 h1 e, e1]
    exact v_M_put h7 (by omega) hP
  · have e2 : zbeh (pre n) = 0 := by unfold zbeh; rw [if_pos (by omega)]
    rw [e2] at hP
    exact v_M_put h7 (by omega) hP
theorem v_useAll {I0 : zJ} {ys : List zIt} (hb : b ≤ 4) (hok : ∀ y, y ∈ ys → okI b y) (hl : ys.length ≤ 64) (hm : mit I0 ys)
    (hP : ∀ I1, mf [88] [] I0 I1 → mua I1 b (sys ys) → P I1) : c_M_useAll c J I0 P T := by
  have hz0 := zcc_le hb
  have z0 : zsz b 0 = 280 + zcc b := hz0.2
  have use : ∀ (us vs : List zIt) (I : zJ), vs ++ us = ys → mf [88] [] I0 I → mua I b (sys vs) → g_M_useAll_24 c J (nI vs.length) I P T := by
    intro us
    induction us with
    | nil =>
      intro vs I he f1 u1
      rw [List.append_nil] at he
      subst he
      refine t_M_useAll_24 ?_
      rw [f1.2 30 (by decide), hm.1]
      exact br_t (nI_le (Nat.le_refl _) (by omega)) (hP I f1 u1)
    | cons y us ih =>
      intro vs I he f1 u1
      have hlen : vs.length < ys.length := by rw [← he, List.length_append, List.length_cons]; omega
      have hy : ys[vs.length]? = some y := by rw [← he, List.getElem?_append_right (Nat.le_refl _), Nat.sub_self]; rfl
      have hk := hok y (List.mem_of_getElem? hy)
      obtain ⟨r0, r1, r2, r3⟩ := hm.2 _ _ hy
      have vi : vp_in (nI vs.length) 64 := vp_in_nI (by omega) (by decide)
      have n99 : ∀ {I2 : zJ}, mf [88] [] I0 I2 → I2 99 vs.length = nI y.1 := fun {I2} h2 => by rw [h2.1 99 (by decide) (by decide)]; exact r0
      have nx : ∀ I2, mf [88] [] I0 I2 → mua I2 b (sys vs ++ sy y) → g_M_useAll_24 c J (nI vs.length + nI 1) I2 P T := by
        intro I2 f2 u2
        rw [nI_add]
        have := ih (vs ++ [y]) I2 (by rw [List.append_assoc]; exact he) f2 (by rw [sys_app]; exact u2)
        rw [List.length_append] at this
        exact this
      refine t_M_useAll_24 ?_
      rw [f1.2 30 (by decide), hm.1, nc (n := vs.length) (by omega), n99 f1]
      refine br_f (nI_ge (by omega) (by omega)) ⟨vi, pk_eq y.1 1 (fun e1 => ⟨vi, ?_⟩) (fun e1 => ⟨vi, pk_eq y.1 2 (fun e2 => ⟨vi, ?_⟩) (fun e2 => ⟨vi, ?_⟩) rfl rfl (by have := hk.2.2; omega) (by decide)⟩) rfl rfl (by have := hk.2.2; omega) (by decide)⟩
      · obtain ⟨k1, k2, k3, k4⟩ := hk.1 e1
        obtain ⟨ra, rb⟩ := r1 e1
        have p1 := (pre_lt y.2.1 (by omega)).1
        have p2 := (pre_lt (y.2.2.1 + 8) (by omega)).1
        rw [f1.1 100 (by decide) (by decide), ra]
        refine v_prefixM (by omega) (by omega) ?_
        rw [f_base (k := 0) (by decide), nI_add, nI_add, nc (n := zb 0 + (256 + pre y.2.1)) (by have : zb 0 = 0 := rfl; omega)]
        refine ⟨vp_in_nI (by have : zb 0 = 0 := rfl; omega) (by decide), nm_e ⟨vi, ?_⟩⟩
        rw [xup_k (by decide), f1.1 101 (by decide) (by decide), rb, nI_add]
        refine v_prefixM (by omega) (by omega) ?_
        rw [f_base (k := 4) (by decide), nI_add, nc (n := zb 4 + pre (y.2.2.1 + 8)) (by have : zb 4 = 1064 := rfl; omega)]
        refine ⟨vp_in_nI (by have : zb 4 = 1064 := rfl; omega) (by decide), nm_e (nx _ (mf_u (mf_u f1 (by decide) (by decide)) (by decide) (by decide)) ?_)⟩
        have u2 := mua_app (w := 0) (x := 256 + pre y.2.1) (v := nI (y.2.1 - zlst (pre y.2.1))) hb u1 (by decide) (by omega)
        have u3 := mua_app (w := 4) (x := pre (y.2.2.1 + 8)) (v := nI (y.2.2.1 + 8 - zlst (pre (y.2.2.1 + 8)))) hb u2 (by decide) (by show pre (y.2.2.1 + 8) < 40; omega)
        have es : sy y = [(0, 256 + pre y.2.1, nI (y.2.1 - zlst (pre y.2.1))), (4, pre (y.2.2.1 + 8), nI (y.2.2.1 + 8 - zlst (pre (y.2.2.1 + 8))))] := by unfold sy; rw [if_pos e1]
        rw [es]
        rw [List.append_assoc] at u3
        exact u3
      · have k1 := hk.2.1 e2
        rw [f1.1 100 (by decide) (by decide), r2 e2, f_base (k := 0) (by decide), nI_add, nI_add, nc (n := zb 0 + (280 + y.2.1)) (by have : zb 0 = 0 := rfl; omega)]
        refine ⟨vp_in_nI (by have : zb 0 = 0 := rfl; omega) (by decide), nm_e (nx _ (mf_u f1 (by decide) (by decide)) ?_)⟩
        have u2 := mua_app (w := 0) (x := 280 + y.2.1) (v := nI 0) hb u1 (by decide) (by omega)
        have es : sy y = [(0, 280 + y.2.1, nI 0)] := by unfold sy; rw [if_neg e1, if_pos e2]
        rw [es]
        exact u2
      · have e0 : y.1 = 0 := by have := hk.2.2; omega
        have q : ∀ {I2 : zJ}, mf [88] [] I0 I2 → I2 100 vs.length = y.2.2.2 := fun {I2} h2 => by rw [h2.1 100 (by decide) (by decide)]; exact r3 e0
        have n0 := pN_lt y.2.2.2 0
        have n1 := pN_lt y.2.2.2 1
        have n2 := pN_lt y.2.2.2 2
        have n3 := pN_lt y.2.2.2 3
        have q1 : (y.2.2.2 >>> ((nI 8 * nI 1) &&& 31)) &&& nI 255 = nI (pN y.2.2.2 1) := pt_M _ 1 (by decide)
        have q2 : (y.2.2.2 >>> ((nI 8 * nI 2) &&& 31)) &&& nI 255 = nI (pN y.2.2.2 2) := pt_M _ 2 (by decide)
        have q0 : (y.2.2.2 >>> ((nI 8 * nI 0) &&& 31)) &&& nI 255 = nI (pN y.2.2.2 0) := pt_M _ 0 (by decide)
        have q3 : (y.2.2.2 >>> ((nI 8 * nI 3) &&& 31)) &&& nI 255 = nI (pN y.2.2.2 3) := pt_M _ 3 (by decide)
        have b0 : zb 0 = 0 := rfl
        have b1 : zb 1 = 296 := rfl
        have b2 : zb 2 = 552 := rfl
        have b3 : zb 3 = 808 := rfl
        have g1 := mf_u (i := zb 0 + pN y.2.2.2 1) (v := nI 1) f1 (show 88 ∈ [88] by decide) (by decide)
        have g2 := mf_u (i := zb 1 + pN y.2.2.2 2) (v := nI 1) g1 (show 88 ∈ [88] by decide) (by decide)
        have g3 := mf_u (i := zb 2 + pN y.2.2.2 0) (v := nI 1) g2 (show 88 ∈ [88] by decide) (by decide)
        have g4 := mf_u (i := zb 3 + pN y.2.2.2 3) (v := nI 1) g3 (show 88 ∈ [88] by decide) (by decide)
        rw [q f1, q1, f_base (k := 0) (by decide), nI_add, nc (n := zb 0 + pN y.2.2.2 1) (by omega)]
        refine ⟨vp_in_nI (by omega) (by decide), nm_e ⟨vi, ?_⟩⟩
        rw [q g1, q2, f_base (k := 1) (by decide), nI_add, nc (n := zb 1 + pN y.2.2.2 2) (by omega)]
        refine ⟨vp_in_nI (by omega) (by decide), nm_e ⟨vi, ?_⟩⟩
        rw [q g2, q0, f_base (k := 2) (by decide), nI_add, nc (n := zb 2 + pN y.2.2.2 0) (by omega)]
        refine ⟨vp_in_nI (by omega) (by decide), nm_e ⟨vi, ?_⟩⟩
        rw [q g3, q3, f_base (k := 3) (by decide), nI_add, nc (n := zb 3 + pN y.2.2.2 3) (by omega)]
        refine ⟨vp_in_nI (by omega) (by decide), nm_e (nx _ g4 ?_)⟩
        have u2 := mua_app (w := 0) (x := pN y.2.2.2 1) (v := nI 0) hb u1 (by decide) (by omega)
        have u3 := mua_app (w := 1) (x := pN y.2.2.2 2) (v := nI 0) hb u2 (by decide) (by show pN y.2.2.2 2 < 256; omega)
        have u4 := mua_app (w := 2) (x := pN y.2.2.2 0) (v := nI 0) hb u3 (by decide) (by show pN y.2.2.2 0 < 256; omega)
        have u5 := mua_app (w := 3) (x := pN y.2.2.2 3) (v := nI 0) hb u4 (by decide) (by show pN y.2.2.2 3 < 256; omega)
        have es : sy y = [(0, pN y.2.2.2 1, nI 0), (1, pN y.2.2.2 2, nI 0), (2, pN y.2.2.2 0, nI 0), (3, pN y.2.2.2 3, nI 0)] := by unfold sy; rw [if_neg e1, if_neg e2]
        rw [es]
        simp only [List.append_assoc] at u5
        exact u5
  have wip : ∀ (k i : Nat) (I : zJ), i + k = 1104 → mf [88] [] I0 I → (∀ j, j < i → I 88 j = nI 0) → g_M_useAll_2 c J (nI i) I P T := by
    intro k
    induction k with
    | zero =>
      intro i I hi f1 h1
      obtain rfl : i = 1104 := by omega
      refine t_M_useAll_2 (br_t (by decide) (use ys [] I rfl f1 fun w hw x hx => ?_))
      have z1 := zsz_lx (b := b) hb hw
      have z2 := zb_lx hw
      exact h1 _ (by omega)
    | succ k ih =>
      intro i I hi f1 h1
      refine t_M_useAll_2 (br_f (nI_ge (by omega) (by decide)) ⟨vp_in_nI (by omega) (by decide), ?_⟩)
      rw [nc (n := i) (by omega), nI_add]
      refine ih (i + 1) _ (by omega) (mf_u f1 (by decide) (by decide)) fun j hj => ?_
      by_cases e : j = i
      · rw [e, xup_s]
      · rw [xup_i e]; exact h1 j (by omega)
  exact t_M_useAll (wip 1104 0 I0 (by decide) mf_0 fun j hj => absurd hj (by omega))
end MP
