/-! THE REFERENCE TAKES A TRANSFORM. -/
section MTL
variable {c : zC} {J : zK} {n : Nat} {B : Nat → Int32} {T : Nat → zJ → Prop}
theorem tml_keep {I I1 : zJ} {s s1 : zTr} {h kind : Nat} {q : Nat × Nat} (h0 : tml I s h q) (hne : q.1 ≠ kind)
    (h00 : kind ≠ 0 → I1 96 = I 96 ∧ s1.2.1 = s.2.1) (h11 : kind ≠ 1 → I1 97 = I 97 ∧ s1.2.2.1 = s.2.2.1) (h33 : kind ≠ 3 → I1 98 = I 98 ∧ I1 83 26 = I 83 26 ∧ s1.2.2.2 = s.2.2.2) : tml I1 s1 h q := by
  obtain ⟨y0, y1, y3⟩ := h0
  refine ⟨fun e => ?_, fun e => ?_, fun e => ?_⟩
  · obtain ⟨z1, z2⟩ := h00 (fun z => hne (e.trans z.symm))
    rw [z1, z2]; exact y0 e
  · obtain ⟨z1, z2⟩ := h11 (fun z => hne (e.trans z.symm))
    rw [z1, z2]; exact y1 e
  · obtain ⟨z1, z2, z3⟩ := h33 (fun z => hne (e.trans z.symm))
    rw [z1, z2, z3]; exact y3 e
theorem ks_app2 {I1 : zJ} {ks : List (Nat × Nat)} {kind w : Nat} (h2 : ∀ i q, ks[i]? = some q → I1 94 i = nI q.1 ∧ I1 95 i = nI q.2) (hl : I1 94 ks.length = nI kind ∧ I1 95 ks.length = nI w) : ∀ i q, (ks ++ [(kind, w)])[i]? = some q → I1 94 i = nI q.1 ∧ I1 95 i = nI q.2 := by
  intro i q hq
  by_cases e : i < ks.length
  · rw [List.getElem?_append_left e] at hq
    exact h2 i q hq
  · have hi2 := (List.getElem?_eq_some_iff.mp hq).1
    rw [List.length_append] at hi2
    simp at hi2
    obtain rfl : i = ks.length := by omega
    rw [List.getElem?_append_right (Nat.le_refl _)] at hq
    simp at hq
    rw [← hq]; exact hl
set_option maxHeartbeats 4000000 in
theorem m_take {P : Int32 → zJ → Prop} {I : zJ} {s : zTr} {w0 w h p b : Nat} {v1 v2 : Int32} (hr : mrs I B n p b) (hg : b = 0 → v1 = nI w ∧ v2 = nI h ∧ tok s w0 w ∧ mtr I s h) (hh1 : 1 ≤ h) (hh : h ≤ 8)
    (hP : ∀ s1 w1 q b1 V I1, okb b (pTake B (8 * n) s w h p) b1 (s1, w1, q) → mf mtS mtF I I1 → mrs I1 B n q b1 → (b1 = 0 → V = nI w1 ∧ mtr I1 s1 h ∧ tok s1 w0 w1) → P V I1) : c_M_readTransform c J v1 v2 I P T := by
  refine t_M_readTransform (m_bitsb hr (by decide) fun kind p1 b1 I1 o1 g1 r1 f1 => ?_)
  have f1' : mf mtS mtF I I1 := mf_s f1 (by decide) (by decide)
  by_cases eb : b1 = 0
  · subst eb
    obtain ⟨_, rfl, e1⟩ : (0 : Nat) = 0 ∧ b = 0 ∧ pNum B (8 * n) 2 p = some (kind, p1) := o1.elim id (fun y => absurd y.1 (by decide))
    obtain ⟨rfl, rfl, ht, hm0⟩ := hg rfl
    have hm := mtr_mf hm0 f1 (by decide) (by decide) (by decide) (by decide) (by decide) (by decide) (by decide)
    obtain ⟨c1, c2, c3⟩ := hm
    have hw1 := ht.2.2.2.1
    have hw8 := ht.2.2.2.2
    have hlen := tok_le ht
    refine br_t r1.2.2.2.1 (v_hasM (by omega) c1 (fun i q hq => (c2 i q hq).1) (fun q hq => (ht.2.1 q hq).1) hlen (fun hk => br_f (by decide) (nm_e (br_f (by rw [xup_s]; decide) ?_))) (fun hk => br_t rfl (nm_e (br_t xup_s ?_))))
    · have rb : mrs (xup I1 83 9 (nI 1)) B n p1 1 := ⟨mst_f r1.1 (by decide), by rw [xup_i (by decide)]; exact r1.2.1, r1.2.2.1, xup_s, by decide⟩
      exact hP s w p1 1 _ _ (Or.inr ⟨rfl, Or.inr ⟨rfl, by simp only [pTake, e1, if_pos hk]⟩⟩) (mf_f f1' (by decide)) rb (fun z => absurd z (by decide))
    · rw [xup_id r1.2.2.2.1]
      have hlt : s.1.length < 4 := by
        apply Classical.byContradiction
        intro z
        exact hk (tok_4 ht (by omega) (by omega))
      have hf := hask_f hk
      refine t_M_readTransform_39 ?_
      rw [xup_k (by decide), xup_k (by decide), xup_k (by decide), c1, nc (by omega), nI_add]
      refine ⟨vp_in_nI hlt (by decide), vp_in_nI hlt (by decide), nm_e ?_⟩
      have fI2 : mf [94, 95] [22] I1 (xup (xup (xup I1 94 s.1.length (nI kind)) 95 s.1.length (nI w)) 83 22 (nI (s.1.length + 1))) := mf_f (mf_u (mf_u mf_0 (by decide) (by decide)) (by decide) (by decide)) (by decide)
      have k1 : (xup (xup (xup I1 94 s.1.length (nI kind)) 95 s.1.length (nI w)) 83 22 (nI (s.1.length + 1))) 83 22 = nI (s.1.length + 1) := xup_s
      have k2 : ∀ i q, (s.1 ++ [(kind, w)])[i]? = some q → (xup (xup (xup I1 94 s.1.length (nI kind)) 95 s.1.length (nI w)) 83 22 (nI (s.1.length + 1))) 94 i = nI q.1 ∧ (xup (xup (xup I1 94 s.1.length (nI kind)) 95 s.1.length (nI w)) 83 22 (nI (s.1.length + 1))) 95 i = nI q.2 := by
        refine ks_app2 (fun i q hq => ?_) ⟨?_, ?_⟩
        · have hi := (List.getElem?_eq_some_iff.mp hq).1
          rw [xup_k (by decide), xup_k (by decide), xup_i (by omega), xup_k (by decide), xup_i (by omega), xup_k (by decide)]
          exact c2 i q hq
        · rw [xup_k (by decide), xup_k (by decide), xup_s]
        · rw [xup_k (by decide), xup_s]
      have r2 := mrs_mf r1 fI2 (by decide) (by decide) (by decide) (by decide) (by decide)
      have k3 : ∀ q, q ∈ s.1 → tml (xup (xup (xup I1 94 s.1.length (nI kind)) 95 s.1.length (nI w)) 83 22 (nI (s.1.length + 1))) s h q := fun q hq => by
        unfold tml
        rw [fI2.1 96 (by decide) (by decide), fI2.1 97 (by decide) (by decide), fI2.1 98 (by decide) (by decide), fI2.2 26 (by decide)]
        exact c3 q hq
      have klen : (s.1 ++ [(kind, w)]).length = s.1.length + 1 := by simp
      generalize xup (xup (xup I1 94 s.1.length (nI kind)) 95 s.1.length (nI w)) 83 22 (nI (s.1.length + 1)) = I2 at fI2 k1 k2 r2 k3
      have f2 : mf mtS mtF I I2 := mf_t f1' (mf_s fI2 (by decide) (by decide))
      have unf : pTake B (8 * n) s w h p = if kind = 2 then some ((s.1 ++ [(kind, w)], s.2), w, p1)
        else if kind = 3 then (match pNum B (8 * n) 4 p1 with
          | none => none
          | some (m, p2) => (match pImg B (8 * n) (m + 1) (m + 1) p2 with
            | none => none
            | some (f, _, _, _, p3) => some ((s.1 ++ [(kind, w)], s.2.1, s.2.2.1, psums f, m + 1), pkw w (m + 1), p3)))
        else (match pImg B (8 * n) (bl w) (bl w * bl h) p1 with
          | none => none
          | some (f, _, _, _, p2) => if kind = 0 then some ((s.1 ++ [(kind, w)], f, s.2.2.1, s.2.2.2.1, s.2.2.2.2), w, p2) else some ((s.1 ++ [(kind, w)], s.2.1, f, s.2.2.2.1, s.2.2.2.2), w, p2)) := by
        simp only [pTake, e1, if_neg hk]
        rfl
      rw [unf] at hP
      refine pk_le 2 kind (fun e2 => pk_eq kind 3 (fun e3 => ?_) (fun e3 => ?_)) (fun e2 => ?_)
      · -- a palette
        subst e3
        rw [if_neg (by decide), if_pos rfl] at hP
        refine m_bitsb r2 (by decide) fun m p2 b2 I3 o3 g3 r3 f3 => ?_
        rw [xup_s, nI_add]
        have fI4 : mf [] [26] I3 (xup I3 83 26 (nI (m + 1))) := mf_f mf_0 (by decide)
        have r4 := mrs_mf r3 fI4 (by decide) (by decide) (by decide) (by decide) (by decide)
        have e26 : (xup I3 83 26 (nI (m + 1))) 83 26 = nI (m + 1) := xup_s
        generalize xup I3 83 26 (nI (m + 1)) = I4 at fI4 r4 e26
        refine m_img (hh := 1) (tot := m + 1) (by omega) (by omega) (by decide) (by omega) (by omega) r4 fun f bb cp ca q b5 I5 o5 f5 r5 g5 => ?_
        have e26b : I5 83 26 = nI (m + 1) := (f5.2 26 (by decide)).trans e26
        refine l_m204 hw8 (by omega) e26b (fun I6 f6 y6 => ?_) (m + 1) 0 I5 (by omega) mf_0 (fun j hj => absurd hj (by omega))
        have r6 := mrs_mf r5 f6 (by decide) (by decide) (by decide) (by decide) (by decide)
        have ff : mf mtS mtF I2 I6 := mf_t (mf_s f3 (by decide) (by decide)) (mf_t (mf_s fI4 (by decide) (by decide)) (mf_t (mf_s f5 (by decide) (by decide)) (mf_s f6 (by decide) (by decide))))
        refine hP (s.1 ++ [(3, w)], s.2.1, s.2.2.1, psums f, m + 1) (pkw w (m + 1)) q b5 _ I6 (okb_s (b := 0) o3 (H := match pImg B (8 * n) (m + 1) (m + 1) p2 with
            | none => none
            | some (f, _, _, _, p3) => some ((s.1 ++ [(3, w)], s.2.1, s.2.2.1, psums f, m + 1), pkw w (m + 1), p3)) (okb_s o5 (okb_r r5.2.2.2.2 rfl) (fun _ e => by rw [e]) (fun e => by rw [e])) (fun _ e => by rw [e]) (fun e => by rw [e])) (mf_t f2 ff) r6 (fun z => ⟨rfl, ?_, tok_app ht (by decide) hk (fun z => absurd rfl z) (fun _ => ⟨by omega, by omega⟩) (by rw [if_pos rfl])⟩)
        have g91 := (g5 z).1
        refine ⟨?_, fun i y hy => ?_, fun y hy => ?_⟩
        · rw [f6.2 22 (by decide), f5.2 22 (by decide), fI4.2 22 (by decide), f3.2 22 (by decide)]
          show I2 83 22 = nI (s.1 ++ [(3, w)]).length
          rw [klen]; exact k1
        · rw [f6.1 94 (by decide) (by decide), f5.1 94 (by decide) (by decide), fI4.1 94 (by decide) (by decide), f3.1 94 (by decide) (by decide), f6.1 95 (by decide) (by decide), f5.1 95 (by decide) (by decide), fI4.1 95 (by decide) (by decide), f3.1 95 (by decide) (by decide)]
          exact k2 i y hy
        · rcases List.mem_append.mp hy with hy | hy
          · refine tml_keep (kind := 3) (k3 y hy) (hf y hy) (fun _ => ⟨?_, rfl⟩) (fun _ => ⟨?_, rfl⟩) (fun z => absurd rfl z)
            · rw [f6.1 96 (by decide) (by decide), f5.1 96 (by decide) (by decide), fI4.1 96 (by decide) (by decide), f3.1 96 (by decide) (by decide)]
            · rw [f6.1 97 (by decide) (by decide), f5.1 97 (by decide) (by decide), fI4.1 97 (by decide) (by decide), f3.1 97 (by decide) (by decide)]
          · simp at hy
            subst hy
            refine ⟨fun z => absurd (show (3 : Nat) = 0 from z) (by decide), fun z => absurd (show (3 : Nat) = 1 from z) (by decide), fun _ => ⟨(f6.2 26 (by decide)).trans e26b, fun j hj => ?_⟩⟩
            have hs : ∀ j, j < m + 1 → psums (I5 91) j = psums f j := by
              intro j
              induction j with
              | zero => intro hj; exact g91 0 hj
              | succ j ihj =>
                intro hj
                show psum (I5 91 (j + 1)) (psums (I5 91) j) = psum (f (j + 1)) (psums f j)
                rw [g91 (j + 1) hj, ihj (by omega)]
            show I6 98 j = psums f j
            rw [y6 j hj, hs j hj]
      · -- green
        have e4 : kind = 2 := by omega
        rw [if_pos e4] at hP
        refine hP (s.1 ++ [(kind, w)], s.2) w p1 0 _ I2 (Or.inl ⟨rfl, rfl, rfl⟩) f2 r2 (fun _ => ⟨rfl, ⟨?_, k2, fun y hy => ?_⟩, tok_app ht (by omega) hk (fun _ => rfl) (fun z => absurd z e3) (by rw [if_neg e3])⟩)
        · show I2 83 22 = nI (s.1 ++ [(kind, w)]).length
          rw [klen]; exact k1
        · rcases List.mem_append.mp hy with hy | hy
          · exact k3 y hy
          · simp at hy
            subst hy
            exact ⟨fun z => by dsimp only at z; omega, fun z => by dsimp only at z; omega, fun z => by dsimp only at z; omega⟩
      · -- modes or deltas
        have hb := bl_le hw8 hh
        have bw := bl_pos hw1 hw8
        have bh := bl_pos hh1 hh
        rw [if_neg (by omega), if_neg (by omega)] at hP
        rw [z_bl3 hw8, z_bl3 hh]
        refine m_img (tot := bl w * bl h) bw.1 (by omega) (by omega) rfl (by omega) r2 fun f bb cp ca q b5 I5 o5 f5 r5 g5 => ?_
        refine l_m89 hw8 hh e2 (fun I6 f6 y0 y1 => ?_) (bl w * bl h) 0 I5 (by omega) mf_0 (fun _ => ⟨rfl, fun j hj => absurd hj (by omega)⟩) (fun _ => ⟨rfl, fun j hj => absurd hj (by omega)⟩)
        have r6 := mrs_mf r5 f6 (by decide) (by decide) (by decide) (by decide) (by decide)
        have ff : mf mtS mtF I2 I6 := mf_t (mf_s f5 (by decide) (by decide)) (mf_s f6 (by decide) (by decide))
        have z22 : I6 83 22 = nI (s.1.length + 1) := by rw [f6.2 22 (by decide), f5.2 22 (by decide)]; exact k1
        have z94 : I6 94 = I2 94 := by rw [f6.1 94 (by decide) (by decide), f5.1 94 (by decide) (by decide)]
        have z95 : I6 95 = I2 95 := by rw [f6.1 95 (by decide) (by decide), f5.1 95 (by decide) (by decide)]
        have z98 : I6 98 = I2 98 := by rw [f6.1 98 (by decide) (by decide), f5.1 98 (by decide) (by decide)]
        have z26 : I6 83 26 = I2 83 26 := by rw [f6.2 26 (by decide), f5.2 26 (by decide)]
        by_cases e0 : kind = 0
        · subst e0
          obtain ⟨z97, y96⟩ := y0 rfl
          refine hP (s.1 ++ [(0, w)], f, s.2.2.1, s.2.2.2.1, s.2.2.2.2) w q b5 _ I6 (okb_s o5 (okb_r r5.2.2.2.2 rfl) (fun _ e => by rw [e]; exact if_pos rfl) (fun e => by rw [e])) (mf_t f2 ff) r6 (fun z => ⟨rfl, ⟨?_, fun i y hy => by rw [z94, z95]; exact k2 i y hy, fun y hy => ?_⟩, tok_app ht (by decide) hk (fun _ => rfl) (fun z => absurd z (by decide)) (by rw [if_neg (by decide)])⟩)
          · show I6 83 22 = nI (s.1 ++ [(0, w)]).length
            rw [klen]; exact z22
          · have g91 := (g5 z).1
            rcases List.mem_append.mp hy with hy | hy
            · exact tml_keep (kind := 0) (k3 y hy) (hf y hy) (fun z => absurd rfl z) (fun _ => ⟨by rw [z97, f5.1 97 (by decide) (by decide)], rfl⟩) (fun _ => ⟨z98, z26, rfl⟩)
            · simp at hy
              subst hy
              refine ⟨fun _ j hj => ?_, fun z => absurd (show (0 : Nat) = 1 from z) (by decide), fun z => absurd (show (0 : Nat) = 3 from z) (by decide)⟩
              show I6 96 j = nI (pN (f j) 1 % 16)
              rw [y96 j hj, g91 j hj]
        · have e1 : kind = 1 := by omega
          subst e1
          obtain ⟨z96, y97⟩ := y1 rfl
          refine hP (s.1 ++ [(1, w)], s.2.1, f, s.2.2.2.1, s.2.2.2.2) w q b5 _ I6 (okb_s o5 (okb_r r5.2.2.2.2 rfl) (fun _ e => by rw [e]; exact if_neg (by decide)) (fun e => by rw [e])) (mf_t f2 ff) r6 (fun z => ⟨rfl, ⟨?_, fun i y hy => by rw [z94, z95]; exact k2 i y hy, fun y hy => ?_⟩, tok_app ht (by decide) hk (fun _ => rfl) (fun z => absurd z (by decide)) (by rw [if_neg (by decide)])⟩)
          · show I6 83 22 = nI (s.1 ++ [(1, w)]).length
            rw [klen]; exact z22
          · have g91 := (g5 z).1
            rcases List.mem_append.mp hy with hy | hy
            · exact tml_keep (kind := 1) (k3 y hy) (hf y hy) (fun _ => ⟨by rw [z96, f5.1 96 (by decide) (by decide)], rfl⟩) (fun z => absurd rfl z) (fun _ => ⟨z98, z26, rfl⟩)
            · simp at hy
              subst hy
              refine ⟨fun z => absurd (show (1 : Nat) = 0 from z) (by decide), fun _ j hj => ?_, fun z => absurd (show (1 : Nat) = 3 from z) (by decide)⟩
              show I6 97 j = f j
              rw [y97 j hj, g91 j hj]
  · obtain rfl : b1 = 1 := by have := r1.2.2.2.2; omega
    refine br_f (by rw [r1.2.2.2.1]; decide) (nm_e (br_f (by rw [xup_s]; decide) ?_))
    rw [xup_id r1.2.2.2.1]
    refine hP s w p1 1 _ I1 (Or.inr ⟨rfl, ?_⟩) f1' r1 (fun z => absurd z (by decide))
    exact (o1.elim (fun y => absurd y.1 (by decide)) (fun y => y.2)).imp id fun y => ⟨y.1, by simp only [pTake, y.2]⟩
end MTL
