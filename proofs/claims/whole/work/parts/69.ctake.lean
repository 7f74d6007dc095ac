/-! THE CLASS TAKES TRANSFORMS. -/
def tcl (I : zJ) (s : zTr) (h : Nat) (q : Nat × Nat) : Prop := (q.1 = 0 → I 53 1 = nI (bl q.2) ∧ ∀ j, j < bl q.2 * bl h → I 54 j = s.2.1 j) ∧ (q.1 = 1 → I 55 1 = nI (bl q.2) ∧ ∀ j, j < bl q.2 * bl h → I 56 j = s.2.2.1 j) ∧ (q.1 = 3 → I 51 4 = nI q.2 ∧ I 57 1 = nI s.2.2.2.2 ∧ ∀ j, j < s.2.2.2.2 → I 58 j = s.2.2.2.1 j)
def ctr (I : zJ) (s : zTr) (h : Nat) : Prop := I 51 5 = nI s.1.length ∧ (∀ i q, s.1[i]? = some q → I 52 i = nI q.1) ∧ ∀ q, q ∈ s.1 → tcl I s h q
abbrev trS : List Nat := zimL ++ [51, 52, 53, 54, 55, 56, 57, 58]
section CT
variable {c : zC} {J : zK} {N p : Nat} {B : Nat → Int32} {T : Nat → zJ → Prop}
theorem v_have {P : Int32 → zJ → Prop} {I : zJ} {ks : List (Nat × Nat)} {k : Nat} (hk : k < 2 ^ 31) (h1 : I 51 5 = nI ks.length) (h2 : ∀ i q, ks[i]? = some q → I 52 i = nI q.1) (h3 : ∀ q, q ∈ ks → q.1 < 4) (hl : ks.length ≤ 4) (hT : hask ks k = true → P (nI 1) I) (hF : ¬ hask ks k = true → P (nI 0) I) : c_Transforms_have c J (nI k) I P T := by
  have key : ∀ (n i : Nat), i + n = ks.length → (∀ j q, j < i → ks[j]? = some q → q.1 ≠ k) → g_Transforms_have_2 c J (nI k) (nI i) I P T := by
    intro n
    induction n with
    | zero =>
      intro i hi hn
      refine t_Transforms_have_2 ?_
      rw [h1]
      refine br_t (nI_le (by omega) (by omega)) (hF fun z => ?_)
      obtain ⟨q, hq, e⟩ := hask_t z
      obtain ⟨j, hj⟩ := List.mem_iff_getElem?.mp hq
      have hj2 := (List.getElem?_eq_some_iff.mp hj).1
      exact hn j q (by omega) hj e
    | succ n ih =>
      intro i hi hn
      have hil : i < ks.length := by omega
      have e2 := h2 i _ (List.getElem?_eq_getElem hil)
      have h4 := h3 _ (List.getElem_mem hil)
      refine t_Transforms_have_2 ?_
      rw [h1, nc (by omega), e2, nI_add]
      refine br_f (nI_ge hil (by omega)) ⟨vp_in_nI (by omega) (by decide), pk_eq (ks[i]).1 k (fun e => hT ?_) (fun e => ih (i + 1) (by omega) fun j q hj hq => ?_)⟩
      · unfold hask
        rw [List.any_eq_true]
        exact ⟨_, List.getElem_mem hil, by rw [e]; exact beq_self_eq_true k⟩
      · by_cases ej : j = i
        · subst ej
          rw [List.getElem?_eq_getElem hil] at hq
          injection hq with hq
          rw [← hq]; exact e
        · exact hn j q (by omega) hq
  exact t_Transforms_have (key ks.length 0 (by omega) (fun j q hj => absurd hj (by omega)))
theorem v_sumUp {P : zJ → Prop} {I0 : zJ} {n : Nat} {f : Nat → Int32} (hn : n ≤ 16) (hn1 : 1 ≤ n) (h1 : I0 57 1 = nI n) (hf : ∀ j, j < n → I0 58 j = f j) (hP : ∀ I1, fr [58] I0 I1 → (∀ j, j < n → I1 58 j = psums f j) → P I1) : c_Transforms_sumUpPalette c J I0 P T := by
  have key : ∀ (m i : Nat) (I : zJ), i + m = n → 1 ≤ i → fr [58] I0 I → (∀ j, j < i → I 58 j = psums f j) → (∀ j, i ≤ j → j < n → I 58 j = f j) → g_Transforms_sumUpPalette_2 c J (nI i) I P T := by
    intro m
    induction m with
    | zero =>
      intro i I hi hi1 hfr ha hb
      obtain rfl : i = n := by omega
      refine t_Transforms_sumUpPalette_2 ?_
      rw [hfr 57 (by decide), h1]
      exact br_t (nI_le (Nat.le_refl _) (by omega)) (hP I hfr ha)
    | succ m ih =>
      intro i I hi hi1 hfr ha hb
      refine t_Transforms_sumUpPalette_2 ?_
      rw [hfr 57 (by decide), h1, pk_sub hi1, nc (by omega), nc (by omega), nI_add, ha (i - 1) (by omega), hb i (Nat.le_refl _) (by omega)]
      refine br_f (nI_ge (by omega) (by omega)) ⟨vp_in_nI (by omega) (by decide), vp_in_nI (by omega) (by decide), v_L_sum' ⟨vp_in_nI (by omega) (by decide), ?_⟩⟩
      refine ih (i + 1) _ (by omega) (by omega) (fr_u hfr (by decide)) (fun j hj => ?_) (fun j h3 h4 => ?_)
      · by_cases e : j = i
        · subst e
          obtain ⟨z, rfl⟩ : ∃ z, j = z + 1 := ⟨j - 1, by omega⟩
          rw [xup_s]; rfl
        · rw [xup_i e]; exact ha j (by omega)
      · rw [xup_i (by omega)]; exact hb j (by omega) h4
  refine t_Transforms_sumUpPalette (key (n - 1) 1 I0 (by omega) (Nat.le_refl _) fr_0 (fun j hj => ?_) (fun j _ h4 => hf j h4))
  obtain rfl : j = 0 := by omega
  exact hf 0 (by omega)
theorem z_bl {w : Nat} (hw : w ≤ 8) : ((nI w + nI 4) - nI 1) / nI 4 = nI (bl w) := by
  have key : ∀ w, w < 9 → ((nI w + nI 4) - nI 1) / nI 4 = nI (bl w) := by decide
  exact key w (by omega)
theorem z_pkw {w n : Nat} (hw : w ≤ 8) (hn : n ≤ 16) : ((nI w + (nI 1 <<< (nI (pkg n) &&& 31))) - nI 1) >>> (nI (pkg n) &&& 31) = nI (pkw w n) := by
  have key : ∀ w, w < 9 → ∀ n, n < 17 → ((nI w + (nI 1 <<< (nI (pkg n) &&& 31))) - nI 1) >>> (nI (pkg n) &&& 31) = nI (pkw w n) := by decide
  exact key w (by omega) n (by omega)
theorem bl_pos {w : Nat} (hw : 1 ≤ w) (hw8 : w ≤ 8) : 1 ≤ bl w ∧ bl w ≤ 2 := by unfold bl; omega
/-- the rows of other kinds stay -/
theorem tcl_keep {I I1 : zJ} {s s1 : zTr} {h kind : Nat} {q : Nat × Nat} (h0 : tcl I s h q) (hne : q.1 ≠ kind) (e51 : kind ≠ 3 → I1 51 4 = I 51 4)
    (h00 : kind ≠ 0 → I1 53 = I 53 ∧ I1 54 = I 54 ∧ s1.2.1 = s.2.1) (h11 : kind ≠ 1 → I1 55 = I 55 ∧ I1 56 = I 56 ∧ s1.2.2.1 = s.2.2.1) (h33 : kind ≠ 3 → I1 57 = I 57 ∧ I1 58 = I 58 ∧ s1.2.2.2 = s.2.2.2) : tcl I1 s1 h q := by
  obtain ⟨y0, y1, y3⟩ := h0
  refine ⟨fun e => ?_, fun e => ?_, fun e => ?_⟩
  · obtain ⟨z1, z2, z3⟩ := h00 (fun z => hne (e.trans z.symm))
    rw [z1, z2, z3]; exact y0 e
  · obtain ⟨z1, z2, z3⟩ := h11 (fun z => hne (e.trans z.symm))
    rw [z1, z2, z3]; exact y1 e
  · obtain ⟨z1, z2, z3⟩ := h33 (fun z => hne (e.trans z.symm))
    rw [z1, z2, z3, e51 (fun z => hne (e.trans z.symm))]; exact y3 e
theorem tcl_r {I I1 : zJ} {s : zTr} {h : Nat} {q : Nat × Nat} (h0 : tcl I s h q) (e51 : I1 51 4 = I 51 4) (e53 : I1 53 = I 53) (e54 : I1 54 = I 54) (e55 : I1 55 = I 55) (e56 : I1 56 = I 56) (e57 : I1 57 = I 57) (e58 : I1 58 = I 58) : tcl I1 s h q := by
  unfold tcl
  rw [e51, e53, e54, e55, e56, e57, e58]
  exact h0
/-- the row of kinds, one more -/
theorem ks_app {I1 : zJ} {ks : List (Nat × Nat)} {kind w : Nat} (h2 : ∀ i q, ks[i]? = some q → I1 52 i = nI q.1) (hl : I1 52 ks.length = nI kind) : ∀ i q, (ks ++ [(kind, w)])[i]? = some q → I1 52 i = nI q.1 := by
  intro i q hq
  by_cases e : i < ks.length
  · rw [List.getElem?_append_left e] at hq
    exact h2 i q hq
  · have hi2 := (List.getElem?_eq_some_iff.mp hq).1
    rw [List.length_append] at hi2
    simp at hi2
    obtain rfl : i = ks.length := by omega
    rw [List.getElem?_append_right (Nat.le_refl _)] at hq
    simp at hq
    rw [← hq]; exact hl
set_option maxHeartbeats 4000000 in
theorem r_take {P : Int32 → zJ → Prop} {I : zJ} {s : zTr} {w0 w h : Nat} (ht : tok s w0 w) (hh1 : 1 ≤ h) (hh : h ≤ 8) (hc : ctr I s h) (hst : cst I B N p)
    (hP : ∀ s1 w1 q I1, pTake B N s w h p = some (s1, w1, q) → cf trS I I1 → cst I1 B N q → ctr I1 s1 h → tok s1 w0 w1 → P (nI w1) I1) (hT : ∀ I1, pTake B N s w h p = none → cf trS I I1 → T 100 I1) : c_Transforms_take c J 9 (nI w) (nI h) I P T := by
  obtain ⟨c1, c2, c3⟩ := hc
  have hw1 := ht.2.2.2.1
  have hw8 := ht.2.2.2.2
  have hlen := tok_le ht
  have hk4 : ∀ q, q ∈ s.1 → q.1 < 4 := fun q hq => (ht.2.1 q hq).1
  refine t_Transforms_take zbi_9 (r_num hst (by decide) (fun kind p1 e1 g1 q1 => ?_) (fun e1 => hT _ (by simp only [pTake, e1]) cf_0))
  have s1 := cst_q hst q1
  have cf1 : cf trS I (xup I 9 2 (nI p1)) := cf_p cf_0
  have d1 : (xup I 9 2 (nI p1)) 51 5 = nI s.1.length := by rw [xup_k (by decide)]; exact c1
  have d2 : ∀ i q, s.1[i]? = some q → (xup I 9 2 (nI p1)) 52 i = nI q.1 := fun i q hq => by rw [xup_k (by decide)]; exact c2 i q hq
  have d3 : ∀ q, q ∈ s.1 → tcl (xup I 9 2 (nI p1)) s h q := fun q hq => tcl_r (c3 q hq) (xup_k (by decide)) (xup_r (by decide)) (xup_r (by decide)) (xup_r (by decide)) (xup_r (by decide)) (xup_r (by decide)) (xup_r (by decide))
  generalize xup I 9 2 (nI p1) = I1 at s1 cf1 d1 d2 d3
  refine v_have (by omega) d1 d2 hk4 hlen (fun hk => br_f (by decide) (hT I1 (by simp only [pTake, e1, if_pos hk]) cf1)) (fun hk => br_t rfl ?_)
  have hlt : s.1.length < 4 := by
    apply Classical.byContradiction
    intro z
    exact hk (tok_4 ht (by omega) (by omega))
  have hf := hask_f hk
  rw [d1, nc (by omega)]
  refine br_t (nI_lt hlt (by decide)) ⟨vp_in_nI hlt (by decide), ?_⟩
  rw [xup_k (by decide), d1, nI_add]
  refine nm_e ?_
  -- the kind noted
  have f2 : cf trS I (xup (xup I1 52 s.1.length (nI kind)) 51 5 (nI (s.1.length + 1))) := cf_u (cf_u cf1 (by decide) (by decide)) (by decide) (by decide)
  have s2 : cst (xup (xup I1 52 s.1.length (nI kind)) 51 5 (nI (s.1.length + 1))) B N p1 := cst_u (cst_u s1 (by decide)) (by decide)
  have k1 : (xup (xup I1 52 s.1.length (nI kind)) 51 5 (nI (s.1.length + 1))) 51 5 = nI (s.1.length + 1) := xup_s
  have k2 : ∀ i q, (s.1 ++ [(kind, w)])[i]? = some q → (xup (xup I1 52 s.1.length (nI kind)) 51 5 (nI (s.1.length + 1))) 52 i = nI q.1 := by
    refine ks_app (fun i q hq => ?_) ?_
    · rw [xup_k (by decide), xup_i (by have := (List.getElem?_eq_some_iff.mp hq).1; omega)]; exact d2 i q hq
    · rw [xup_k (by decide), xup_s]
  have k3 : ∀ q, q ∈ s.1 → tcl (xup (xup I1 52 s.1.length (nI kind)) 51 5 (nI (s.1.length + 1))) s h q := fun q hq => tcl_r (d3 q hq) ((xup_i (by decide)).trans (xup_k (by decide))) ((xup_r (by decide)).trans (xup_r (by decide))) ((xup_r (by decide)).trans (xup_r (by decide))) ((xup_r (by decide)).trans (xup_r (by decide))) ((xup_r (by decide)).trans (xup_r (by decide))) ((xup_r (by decide)).trans (xup_r (by decide))) ((xup_r (by decide)).trans (xup_r (by decide)))
  generalize xup (xup I1 52 s.1.length (nI kind)) 51 5 (nI (s.1.length + 1)) = I2 at f2 s2 k1 k2 k3
  have klen : (s.1 ++ [(kind, w)]).length = s.1.length + 1 := by simp
  refine pk_eq kind 2 (fun e2 => ?_) (fun e2 => pk_eq kind 3 (fun e3 => ?_) (fun e3 => ?_))
  · -- green
    have kk3 : kind ≠ 3 := by omega
    refine hP (s.1 ++ [(kind, w)], s.2) w p1 I2 ?_ f2 s2 ⟨by rw [klen]; exact k1, k2, fun q hq => ?_⟩ (tok_app ht (by omega) hk (fun _ => rfl) (fun z => absurd z kk3) (by rw [if_neg kk3]))
    · simp only [pTake, e1, if_neg hk, if_pos e2]
    · rcases List.mem_append.mp hq with hq | hq
      · exact k3 q hq
      · simp at hq
        subst hq
        exact ⟨fun z => by dsimp only at z; omega, fun z => by dsimp only at z; omega, fun z => by dsimp only at z; omega⟩
  · -- a palette
    subst e3
    refine r_num s2 (by decide) (fun m p2 e4 g4 q4 => ?_) (fun e4 => hT _ (by simp only [pTake, e1, if_neg hk, if_neg (show ¬ 3 = 2 by decide), if_true, if_false, e4]) f2)
    rw [nI_add]
    refine nm_e ?_
    have f3 : cf [57] I2 (xup (xup (xup I2 9 2 (nI p2)) 57 1 (nI (m + 1))) 57 2 (nI 1)) := cf_u (cf_u (cf_p cf_0) (by decide) (by decide)) (by decide) (by decide)
    have s3 : cst (xup (xup (xup I2 9 2 (nI p2)) 57 1 (nI (m + 1))) 57 2 (nI 1)) B N p2 := cst_u (cst_u (cst_q s2 q4) (by decide)) (by decide)
    have w1 : (xup (xup (xup I2 9 2 (nI p2)) 57 1 (nI (m + 1))) 57 2 (nI 1)) 57 1 = nI (m + 1) := by rw [xup_i (by decide), xup_s]
    have w2 : (xup (xup (xup I2 9 2 (nI p2)) 57 1 (nI (m + 1))) 57 2 (nI 1)) 57 2 = nI 1 := xup_s
    generalize xup (xup (xup I2 9 2 (nI p2)) 57 1 (nI (m + 1))) 57 2 (nI 1) = I3 at f3 s3 w1 w2
    refine r_img (tot := m + 1) zpl_57 (Or.inr (Or.inr (Or.inr rfl))) (by decide) (by omega) (by omega) (by omega) (by omega) w1 w2 s3 (fun f b cp ca q I4 e5 f4 s4 r4 _ _ _ _ => ?_) (fun I4 e5 f4 => hT I4 (by simp only [pTake, e1, if_neg hk, if_neg (show ¬ 3 = 2 by decide), if_true, if_false, e4, e5]) (cf_t f2 (cf_t (cf_s f3 (by decide)) (cf_s f4 (by decide)))))
    have w4 : I4 57 1 = nI (m + 1) := by rw [f4.1 57 (by decide) (by decide)]; exact w1
    refine v_sumUp (by omega) (by omega) w4 r4 fun I5 f5 r5 => ?_
    have w5 : I5 57 1 = nI (m + 1) := by rw [f5 57 (by decide)]; exact w4
    refine nm_e ?_
    rw [xup_k (by decide), w5, pkg_L (by omega), z_pkw hw8 (by omega)]
    have f6 : cf trS I2 (xup I5 51 4 (nI w)) := cf_u (cf_t (cf_s f3 (by decide)) (cf_t (cf_s f4 (by decide)) (cf_fr (fr_s f5 (by decide)) (by decide)))) (by decide) (by decide)
    have r51 : I5 51 = I2 51 := by rw [f5 51 (by decide), f4.1 51 (by decide) (by decide), f3.1 51 (by decide) (by decide)]
    have r52 : I5 52 = I2 52 := by rw [f5 52 (by decide), f4.1 52 (by decide) (by decide), f3.1 52 (by decide) (by decide)]
    have r53 : I5 53 = I2 53 := by rw [f5 53 (by decide), f4.1 53 (by decide) (by decide), f3.1 53 (by decide) (by decide)]
    have r54 : I5 54 = I2 54 := by rw [f5 54 (by decide), f4.1 54 (by decide) (by decide), f3.1 54 (by decide) (by decide)]
    have r55 : I5 55 = I2 55 := by rw [f5 55 (by decide), f4.1 55 (by decide) (by decide), f3.1 55 (by decide) (by decide)]
    have r56 : I5 56 = I2 56 := by rw [f5 56 (by decide), f4.1 56 (by decide) (by decide), f3.1 56 (by decide) (by decide)]
    refine hP (s.1 ++ [(3, w)], s.2.1, s.2.2.1, psums f, m + 1) (pkw w (m + 1)) q _ ?_ (cf_t f2 f6) (cst_u (cst_fr s4 f5 (by decide)) (by decide)) ⟨?_, ?_, fun y hy => ?_⟩ (tok_app ht (by decide) hk (fun z => absurd rfl z) (fun _ => ⟨by omega, by omega⟩) (by rw [if_pos rfl]))
    · simp only [pTake, e1, if_neg hk, if_neg (show ¬ 3 = 2 by decide), if_true, if_false, e4, e5]
    · rw [xup_i (by decide), r51]
      show I2 51 5 = nI (s.1 ++ [(3, w)]).length
      rw [klen]; exact k1
    · intro i y hy
      rw [xup_k (by decide), r52]; exact k2 i y hy
    · rcases List.mem_append.mp hy with hy | hy
      · refine tcl_keep (kind := 3) (k3 y hy) (hf y hy) (fun z => absurd rfl z) (fun _ => ⟨?_, ?_, rfl⟩) (fun _ => ⟨?_, ?_, rfl⟩) (fun z => absurd rfl z)
        · rw [xup_r (by decide)]; exact r53
        · rw [xup_r (by decide)]; exact r54
        · rw [xup_r (by decide)]; exact r55
        · rw [xup_r (by decide)]; exact r56
      · simp at hy
        subst hy
        refine ⟨fun z => absurd (show (3 : Nat) = 0 from z) (by decide), fun z => absurd (show (3 : Nat) = 1 from z) (by decide), fun _ => ⟨xup_s, by rw [xup_k (by decide)]; exact w5, fun j hj => ?_⟩⟩
        rw [xup_k (by decide)]; exact r5 j hj
  · -- modes or deltas
    have hb := bl_le hw8 hh
    have bw := bl_pos hw1 hw8
    have bh := bl_pos hh1 hh
    have kk3 : kind ≠ 3 := e3
    have k01 : kind = 0 ∨ kind = 1 := by omega
    rw [z_bl hw8, z_bl hh]
    have key : ∀ o, (kind = 0 ∧ o = 53 ∨ kind = 1 ∧ o = 55) → zpl c o 4 → g_Transforms_take_143 c J 9 (nI w) o (xup (xup I2 o 1 (nI (bl w))) o 2 (nI (bl h))) P T := by
      intro o ho hz
      have hop : hop o := by
        unfold hop
        omega
      have h9 := hop_9 hop
      have f3 : cf [o] I2 (xup (xup I2 o 1 (nI (bl w))) o 2 (nI (bl h))) := cf_u (cf_u cf_0 (by simp) (by omega)) (by simp) (by omega)
      have s3 : cst (xup (xup I2 o 1 (nI (bl w))) o 2 (nI (bl h))) B N p1 := cst_u (cst_u s2 (by omega)) (by omega)
      have w1 : (xup (xup I2 o 1 (nI (bl w))) o 2 (nI (bl h))) o 1 = nI (bl w) := by rw [xup_i (by decide), xup_s]
      have w2 : (xup (xup I2 o 1 (nI (bl w))) o 2 (nI (bl h))) o 2 = nI (bl h) := xup_s
      generalize xup (xup I2 o 1 (nI (bl w))) o 2 (nI (bl h)) = I3 at f3 s3 w1 w2
      have sub1 : ∀ a, a ∈ [o] → a ∈ trS := by
        intro a ha
        simp at ha
        subst ha
        rcases ho with ⟨_, rfl⟩ | ⟨_, rfl⟩ <;> decide
      have sub2 : ∀ a, a ∈ zimS o → a ∈ trS := by
        rcases ho with ⟨_, rfl⟩ | ⟨_, rfl⟩ <;> decide
      refine t_Transforms_take_143 zbi_9 hz (r_img (tot := bl w * bl h) hz hop (by decide) (by omega) (by omega) rfl hb w1 w2 s3 (fun f b cp ca q I4 e5 f4 s4 r4 _ _ _ _ => ?_) (fun I4 e5 f4 => hT I4 (by simp only [pTake, e1, if_neg hk, if_neg e2, if_neg e3, e5]) (cf_t f2 (cf_t (cf_s f3 sub1) (cf_s f4 sub2)))))
      have w4 : I4 o 1 = nI (bl w) := by rw [f4.1 o h9.1 (by rcases ho with ⟨_, rfl⟩ | ⟨_, rfl⟩ <;> decide)]; exact w1
      have ff : cf trS I2 I4 := cf_t (cf_s f3 sub1) (cf_s f4 sub2)
      rcases ho with ⟨e0, rfl⟩ | ⟨e0, rfl⟩
      · subst e0
        have r51 : I4 51 = I2 51 := by rw [f4.1 51 (by decide) (by decide), f3.1 51 (by decide) (by decide)]
        have r52 : I4 52 = I2 52 := by rw [f4.1 52 (by decide) (by decide), f3.1 52 (by decide) (by decide)]
        refine hP (s.1 ++ [(0, w)], f, s.2.2.1, s.2.2.2.1, s.2.2.2.2) w q I4 (by simp only [pTake, e1, if_neg hk, if_neg e2, if_neg e3, e5, if_true]) (cf_t f2 ff) s4 ⟨?_, ?_, fun y hy => ?_⟩ (tok_app ht (by decide) hk (fun _ => rfl) (fun z => absurd z (by decide)) (by rw [if_neg (by decide)]))
        · rw [r51]
          show I2 51 5 = nI (s.1 ++ [(0, w)]).length
          rw [klen]; exact k1
        · intro i y hy
          rw [r52]; exact k2 i y hy
        · rcases List.mem_append.mp hy with hy | hy
          · refine tcl_keep (kind := 0) (k3 y hy) (hf y hy) (fun _ => by rw [r51]) (fun z => absurd rfl z) (fun _ => ⟨?_, ?_, rfl⟩) (fun _ => ⟨?_, ?_, rfl⟩)
            · rw [f4.1 55 (by decide) (by decide), f3.1 55 (by decide) (by decide)]
            · rw [f4.1 56 (by decide) (by decide), f3.1 56 (by decide) (by decide)]
            · rw [f4.1 57 (by decide) (by decide), f3.1 57 (by decide) (by decide)]
            · rw [f4.1 58 (by decide) (by decide), f3.1 58 (by decide) (by decide)]
          · simp at hy
            subst hy
            exact ⟨fun _ => ⟨w4, r4⟩, fun z => absurd (show (0 : Nat) = 1 from z) (by decide), fun z => absurd (show (0 : Nat) = 3 from z) (by decide)⟩
      · subst e0
        have r51 : I4 51 = I2 51 := by rw [f4.1 51 (by decide) (by decide), f3.1 51 (by decide) (by decide)]
        have r52 : I4 52 = I2 52 := by rw [f4.1 52 (by decide) (by decide), f3.1 52 (by decide) (by decide)]
        refine hP (s.1 ++ [(1, w)], s.2.1, f, s.2.2.2.1, s.2.2.2.2) w q I4 (by simp only [pTake, e1, if_neg hk, if_neg e2, if_neg e3, e5, if_neg (show ¬ 1 = 0 by decide), if_false]) (cf_t f2 ff) s4 ⟨?_, ?_, fun y hy => ?_⟩ (tok_app ht (by decide) hk (fun _ => rfl) (fun z => absurd z (by decide)) (by rw [if_neg (by decide)]))
        · rw [r51]
          show I2 51 5 = nI (s.1 ++ [(1, w)]).length
          rw [klen]; exact k1
        · intro i y hy
          rw [r52]; exact k2 i y hy
        · rcases List.mem_append.mp hy with hy | hy
          · refine tcl_keep (kind := 1) (k3 y hy) (hf y hy) (fun _ => by rw [r51]) (fun _ => ⟨?_, ?_, rfl⟩) (fun z => absurd rfl z) (fun _ => ⟨?_, ?_, rfl⟩)
            · rw [f4.1 53 (by decide) (by decide), f3.1 53 (by decide) (by decide)]
            · rw [f4.1 54 (by decide) (by decide), f3.1 54 (by decide) (by decide)]
            · rw [f4.1 57 (by decide) (by decide), f3.1 57 (by decide) (by decide)]
            · rw [f4.1 58 (by decide) (by decide), f3.1 58 (by decide) (by decide)]
          · simp at hy
            subst hy
            exact ⟨fun z => absurd (show (1 : Nat) = 0 from z) (by decide), fun _ => ⟨w4, r4⟩, fun z => absurd (show (1 : Nat) = 3 from z) (by decide)⟩
    refine pk_eq kind 0 (fun e0 => nm_e (key 53 (Or.inl ⟨e0, rfl⟩) zpl_53)) (fun e0 => nm_e (key 55 (Or.inr ⟨by omega, rfl⟩) zpl_55))
end CT
