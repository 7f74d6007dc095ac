/-! The law's loop (printed: wip/whole/gen_law.py). -/
theorem lg_self (x : Int64) : lg_cmp x x = 0 := by
  unfold lg_cmp
  first | (simp; done) | (rw [if_neg (fun z => Int64.lt_irrefl z), if_pos rfl]) | (rw [if_neg (Int64.lt_irrefl), if_pos rfl])
section LW
variable {c : zC} {J : zK} {I : zJ} {d d' mid : Nat} {as : List Value} {F : Int32 → xH → Prop} {T : Nat → xH → Prop}
/-- a call that throws nothing -/
theorem l_call {P : Int32 → zJ → Prop} (hd : d' ≤ d) (k : wg c J d' mid as I (kvi P) nv) (hF : ∀ v I1, P v I1 → I1 0 = I 0 → F v (zsc c, I1, J)) : xg d mid as (zsc c, I, J) (xI F T) := by
  obtain ⟨q, ⟨s, I1, J1⟩, hv, hk⟩ := xg_le (wg_low k) hd
  refine ⟨q, (s, I1, J1), hv, ?_⟩
  match q, hk with
  | .inl (some (.int v)), h3 =>
    obtain ⟨e1, e2, h4, h5⟩ := h3
    cases e1; cases e2
    exact hF v I1 h4 h5
  | .inr x, hk =>
    obtain ⟨_, _, _, _, h4⟩ := hk
    exact h4.1.elim
/-- the reference's call behind a helper's -/
theorem l_ref {k : Nat} (hd : d' ≤ d) (hR : (k = 0 ∧ ∃ v : Int32, J 106 0 = v.toInt64 ∧ wg c J d' mid as I (kvi (rOk v)) nv) ∨ (¬ k = 0 ∧ wg c J d' mid as I (kvi (rNo k)) nv)) (hF : ∀ b I2, I2 83 0 = nI k → Pub I2 → I2 0 = I 0 → (k = 0 → J 106 0 = b.toInt64) → F b (zsc c, I2, J)) : xg d mid as (zsc c, I, J) (xI F T) := by
  rcases hR with ⟨h0, v, hv, hw⟩ | ⟨h0, hw⟩
  · exact l_call hd hw fun b I2 h1 h2 => hF b I2 (by rw [h0]; exact h1.1) h1.2.2 h2 (fun _ => by rw [h1.2.1]; exact hv)
  · exact l_call hd hw fun b I2 h1 h2 => hF b I2 h1.1 h1.2 h2 (fun z => absurd z h0)
theorem l_thr (hF : F (I 83 0) (zsc c, I, J)) : xg (d + 1) qM_thrown [.ref 83] (zsc c, I, J) (xI F T) :=
  l_call (Nat.le_add_left _ _) (t_M_thrown (T := nv) (P := fun v I1 => v = I 83 0 ∧ I1 = I) ⟨rfl, rfl⟩) fun v I1 h1 _ => by rw [h1.1, h1.2]; exact hF
end LW
def lI (L : Nat) (xs : Nat → Int32) (j : Nat) (c : zC) (I : zJ) : Prop := c.1 = L ∧ Pub I ∧ I 0 = xs ∧ c.2.length ≤ j ∧ ∀ z, z ∈ c.2 → ∃ e, 100 ≤ e ∧ z = .inr (e, [])
def Qf (L : Nat) : xO → xH → Prop := fun q h' => q = .inl (some (.int (1 : Int32))) ∧ ∃ c : zC, h'.1 = zsc c ∧ c.1 = L ∧ c.2.length ≤ 512 ∧ ∀ z, z ∈ c.2 → ∃ e, 100 ≤ e ∧ z = .inr (e, [])
theorem lI_s {L : Nat} {xs : Nat → Int32} {j : Nat} {c c1 : zC} {I I1 : zJ} (h : lI L xs j c I) (hc : cnx c c1) (hp : Pub I1) (h0 : I1 0 = I 0) : lI L xs (j + 1) c1 I1 := by
  obtain ⟨a1, a2, a3, a4, a5⟩ := h
  refine ⟨hc.1.trans a1, hp, h0.trans a3, ?_, fun z hz => ?_⟩
  · rcases hc.2 with e | ⟨e, _, e2⟩
    · rw [e]; omega
    · rw [e2, List.length_append, List.length_singleton]; omega
  · rcases hc.2 with e | ⟨e, he, e2⟩
    · rw [e] at hz; exact a5 z hz
    · rw [e2] at hz
      rcases List.mem_append.mp hz with y | y
      · exact a5 z y
      · exact ⟨e, he, List.mem_singleton.mp y⟩
theorem w_size
    {L : Nat} {xs : Nat → Int32} {j : Nat} {c : zC} {I : zJ} {J : zK} {o5 o6 : Option Value} (hj : 5 * j + 5 ≤ L) (hL : L ≤ 2560) (hI : lI L xs j c I)
    (nxt : ∀ (c1 : zC) (I1 : zJ) (J1 : zK) (o5 o6 : Option Value), lI L xs (j + 1) c1 I1 → xG 9 zm_W_law (23, [some (.ref 0), some (.ref 4), some (.ref 83), some (.ref 106), some (.int (nI (5 * j) + (5 : Int32))), o5, o6], []) (zsc c1, I1, J1) (Qf L)) : xG 9 zm_W_law (96, [some (.ref 0), some (.ref 4), some (.ref 83), some (.ref 106), some (.int (nI (5 * j))), o5, o6], []) (zsc c, I, J) (Qf L) := by
  obtain ⟨w, h, n, hp⟩ := hI.2.1
  have vp : ∀ {c1 : zC} (t : Nat), t < 5 → c1.1 = L → vp_in (nI (5 * j) + nI t) c1.1 := fun {c1} t ht e => by
    rw [nI_add, e]; exact vp_in_nI (by omega) (by omega)
  have hc1 := hI.1
  refine s_W_law_96 rfl (vp 1 (by decide) hc1) (vp 2 (by decide) hc1) (xg_w (h_size hp) fun q h1 ho => ?_)
  obtain ⟨k, c1, J1, I1, rfl, rfl, hcn, h0, hk3, hR⟩ := ho
  have hc2 : c1.1 = L := hcn.1.trans hc1
  refine s_W_law_113 rfl (vp 1 (by decide) hc2) (vp 2 (by decide) hc2) zo_83 ?_
  rw [h0]
  refine l_ref (k := k) (d' := _) ?_ (hR.imp (fun z => ⟨z.1, z.2.imp fun v y => ⟨y.1, y.2 _ _⟩⟩) (fun z => ⟨z.1, z.2 _ _⟩)) fun b I2 e83 hP2 e0 hJ => ?_
  · decide
  refine s_W_law_131 zo_83 (l_thr ?_)
  rw [e83]
  refine s_W_law_137 (fun _ => s_W_law_144 (fun _ => s_W_law_161 (nxt _ _ _ _ _ (lI_s hI hcn hP2 (e0.trans h0)))) (fun hz => s_W_law_149 (n1 := 1) rfl (by unfold vp_in; decide) (fun _ => s_W_law_161 (nxt _ _ _ _ _ (lI_s hI hcn hP2 (e0.trans h0)))) (fun hx => ?_))) (fun hx => absurd rfl hx)
  have k0 : k = 0 := by
    have hz := Classical.not_not.mp hz
    have : k = 0 ∨ k = 1 ∨ k = 2 := by omega
    rcases this with e | e | e
    · exact e
    · rw [e] at hz; exact absurd hz (by decide)
    · rw [e] at hz; exact absurd hz (by decide)
  rw [hJ k0] at hx
  exact absurd (lg_self _) hx
theorem w_set
    {L : Nat} {xs : Nat → Int32} {j : Nat} {c : zC} {I : zJ} {J : zK} {o5 o6 : Option Value} (hj : 5 * j + 5 ≤ L) (hL : L ≤ 2560) (hI : lI L xs j c I)
    (nxt : ∀ (c1 : zC) (I1 : zJ) (J1 : zK) (o5 o6 : Option Value), lI L xs (j + 1) c1 I1 → xG 9 zm_W_law (23, [some (.ref 0), some (.ref 4), some (.ref 83), some (.ref 106), some (.int (nI (5 * j) + (5 : Int32))), o5, o6], []) (zsc c1, I1, J1) (Qf L)) : xG 9 zm_W_law (164, [some (.ref 0), some (.ref 4), some (.ref 83), some (.ref 106), some (.int (nI (5 * j))), o5, o6], []) (zsc c, I, J) (Qf L) := by
  obtain ⟨w, h, n, hp⟩ := hI.2.1
  have vp : ∀ {c1 : zC} (t : Nat), t < 5 → c1.1 = L → vp_in (nI (5 * j) + nI t) c1.1 := fun {c1} t ht e => by
    rw [nI_add, e]; exact vp_in_nI (by omega) (by omega)
  have hc1 := hI.1
  refine s_W_law_164 rfl (vp 1 (by decide) hc1) (vp 2 (by decide) hc1) (vp 3 (by decide) hc1) (xg_w (h_set hp) fun q h1 ho => ?_)
  obtain ⟨k, c1, J1, I1, rfl, rfl, hcn, h0, hk3, hR⟩ := ho
  have hc2 : c1.1 = L := hcn.1.trans hc1
  refine s_W_law_187 rfl (vp 1 (by decide) hc2) (vp 2 (by decide) hc2) (vp 3 (by decide) hc2) zo_83 ?_
  rw [h0]
  refine l_ref (k := k) (d' := _) ?_ (hR.imp (fun z => ⟨z.1, z.2.imp fun v y => ⟨y.1, y.2 _ _⟩⟩) (fun z => ⟨z.1, z.2 _ _⟩)) fun b I2 e83 hP2 e0 hJ => ?_
  · decide
  refine s_W_law_211 zo_83 (l_thr ?_)
  rw [e83]
  refine s_W_law_217 (fun _ => s_W_law_224 (fun _ => s_W_law_241 (nxt _ _ _ _ _ (lI_s hI hcn hP2 (e0.trans h0)))) (fun hz => s_W_law_229 (n1 := 1) rfl (by unfold vp_in; decide) (fun _ => s_W_law_241 (nxt _ _ _ _ _ (lI_s hI hcn hP2 (e0.trans h0)))) (fun hx => ?_))) (fun hx => absurd rfl hx)
  have k0 : k = 0 := by
    have hz := Classical.not_not.mp hz
    have : k = 0 ∨ k = 1 ∨ k = 2 := by omega
    rcases this with e | e | e
    · exact e
    · rw [e] at hz; exact absurd hz (by decide)
    · rw [e] at hz; exact absurd hz (by decide)
  rw [hJ k0] at hx
  exact absurd (lg_self _) hx
theorem w_pixel
    {L : Nat} {xs : Nat → Int32} {j : Nat} {c : zC} {I : zJ} {J : zK} {o5 o6 : Option Value} (hj : 5 * j + 5 ≤ L) (hL : L ≤ 2560) (hI : lI L xs j c I)
    (nxt : ∀ (c1 : zC) (I1 : zJ) (J1 : zK) (o5 o6 : Option Value), lI L xs (j + 1) c1 I1 → xG 9 zm_W_law (23, [some (.ref 0), some (.ref 4), some (.ref 83), some (.ref 106), some (.int (nI (5 * j) + (5 : Int32))), o5, o6], []) (zsc c1, I1, J1) (Qf L)) : xG 9 zm_W_law (244, [some (.ref 0), some (.ref 4), some (.ref 83), some (.ref 106), some (.int (nI (5 * j))), o5, o6], []) (zsc c, I, J) (Qf L) := by
  obtain ⟨w, h, n, hp⟩ := hI.2.1
  have vp : ∀ {c1 : zC} (t : Nat), t < 5 → c1.1 = L → vp_in (nI (5 * j) + nI t) c1.1 := fun {c1} t ht e => by
    rw [nI_add, e]; exact vp_in_nI (by omega) (by omega)
  have hc1 := hI.1
  refine s_W_law_244 rfl (vp 1 (by decide) hc1) (vp 2 (by decide) hc1) (xg_w (h_pixel hp) fun q h1 ho => ?_)
  obtain ⟨k, c1, J1, I1, rfl, rfl, hcn, h0, hk3, hR⟩ := ho
  have hc2 : c1.1 = L := hcn.1.trans hc1
  refine s_W_law_261 rfl (vp 1 (by decide) hc2) (vp 2 (by decide) hc2) zo_83 ?_
  rw [h0]
  refine l_ref (k := k) (d' := _) ?_ (hR.imp (fun z => ⟨z.1, z.2.imp fun v y => ⟨y.1, y.2 _ _⟩⟩) (fun z => ⟨z.1, z.2 _ _⟩)) fun b I2 e83 hP2 e0 hJ => ?_
  · decide
  refine s_W_law_279 zo_83 (l_thr ?_)
  rw [e83]
  refine s_W_law_285 (fun _ => s_W_law_292 (fun _ => s_W_law_309 (nxt _ _ _ _ _ (lI_s hI hcn hP2 (e0.trans h0)))) (fun hz => s_W_law_297 (n1 := 1) rfl (by unfold vp_in; decide) (fun _ => s_W_law_309 (nxt _ _ _ _ _ (lI_s hI hcn hP2 (e0.trans h0)))) (fun hx => ?_))) (fun hx => absurd rfl hx)
  have k0 : k = 0 := by
    have hz := Classical.not_not.mp hz
    have : k = 0 ∨ k = 1 ∨ k = 2 := by omega
    rcases this with e | e | e
    · exact e
    · rw [e] at hz; exact absurd hz (by decide)
    · rw [e] at hz; exact absurd hz (by decide)
  rw [hJ k0] at hx
  exact absurd (lg_self _) hx
theorem w_flip
    {L : Nat} {xs : Nat → Int32} {j : Nat} {c : zC} {I : zJ} {J : zK} {o5 o6 : Option Value} (hj : 5 * j + 5 ≤ L) (hL : L ≤ 2560) (hI : lI L xs j c I)
    (nxt : ∀ (c1 : zC) (I1 : zJ) (J1 : zK) (o5 o6 : Option Value), lI L xs (j + 1) c1 I1 → xG 9 zm_W_law (23, [some (.ref 0), some (.ref 4), some (.ref 83), some (.ref 106), some (.int (nI (5 * j) + (5 : Int32))), o5, o6], []) (zsc c1, I1, J1) (Qf L)) : xG 9 zm_W_law (444, [some (.ref 0), some (.ref 4), some (.ref 83), some (.ref 106), some (.int (nI (5 * j))), o5, o6], []) (zsc c, I, J) (Qf L) := by
  obtain ⟨w, h, n, hp⟩ := hI.2.1
  have vp : ∀ {c1 : zC} (t : Nat), t < 5 → c1.1 = L → vp_in (nI (5 * j) + nI t) c1.1 := fun {c1} t ht e => by
    rw [nI_add, e]; exact vp_in_nI (by omega) (by omega)
  have hc1 := hI.1
  refine s_W_law_444 rfl (vp 1 (by decide) hc1) (xg_w (h_flip hp) fun q h1 ho => ?_)
  obtain ⟨k, c1, J1, I1, rfl, rfl, hcn, h0, hk3, hR⟩ := ho
  have hc2 : c1.1 = L := hcn.1.trans hc1
  refine s_W_law_455 rfl (vp 1 (by decide) hc2) zo_83 ?_
  rw [h0]
  refine l_ref (k := k) (d' := _) ?_ (hR.imp (fun z => ⟨z.1, z.2.imp fun v y => ⟨y.1, y.2 _ _⟩⟩) (fun z => ⟨z.1, z.2 _ _⟩)) fun b I2 e83 hP2 e0 hJ => ?_
  · decide
  refine s_W_law_467 zo_83 (l_thr ?_)
  rw [e83]
  refine s_W_law_473 (fun _ => s_W_law_480 (fun _ => s_W_law_497 (nxt _ _ _ _ _ (lI_s hI hcn hP2 (e0.trans h0)))) (fun hz => s_W_law_485 (n1 := 1) rfl (by unfold vp_in; decide) (fun _ => s_W_law_497 (nxt _ _ _ _ _ (lI_s hI hcn hP2 (e0.trans h0)))) (fun hx => ?_))) (fun hx => absurd rfl hx)
  have k0 : k = 0 := by
    have hz := Classical.not_not.mp hz
    have : k = 0 ∨ k = 1 ∨ k = 2 := by omega
    rcases this with e | e | e
    · exact e
    · rw [e] at hz; exact absurd hz (by decide)
    · rw [e] at hz; exact absurd hz (by decide)
  rw [hJ k0] at hx
  exact absurd (lg_self _) hx
theorem w_read
    {L : Nat} {xs : Nat → Int32} {j : Nat} {c : zC} {I : zJ} {J : zK} {o5 o6 : Option Value} (hj : 5 * j + 5 ≤ L) (hL : L ≤ 2560) (hI : lI L xs j c I)
    (nxt : ∀ (c1 : zC) (I1 : zJ) (J1 : zK) (o5 o6 : Option Value), lI L xs (j + 1) c1 I1 → xG 9 zm_W_law (23, [some (.ref 0), some (.ref 4), some (.ref 83), some (.ref 106), some (.int (nI (5 * j) + (5 : Int32))), o5, o6], []) (zsc c1, I1, J1) (Qf L)) : xG 9 zm_W_law (500, [some (.ref 0), some (.ref 4), some (.ref 83), some (.ref 106), some (.int (nI (5 * j))), o5, o6], []) (zsc c, I, J) (Qf L) := by
  obtain ⟨w, h, n, hp⟩ := hI.2.1
  have vp : ∀ {c1 : zC} (t : Nat), t < 5 → c1.1 = L → vp_in (nI (5 * j) + nI t) c1.1 := fun {c1} t ht e => by
    rw [nI_add, e]; exact vp_in_nI (by omega) (by omega)
  have hc1 := hI.1
  refine s_W_law_500   (xg_w (h_read hp) fun q h1 ho => ?_)
  obtain ⟨k, c1, J1, I1, rfl, rfl, hcn, h0, hk3, hR⟩ := ho
  have hc2 : c1.1 = L := hcn.1.trans hc1
  refine s_W_law_505   zo_83 ?_
  skip
  refine l_ref (k := k) (d' := _) ?_ (hR.imp (fun z => ⟨z.1, z.2.imp fun v y => ⟨y.1, y.2 _ _⟩⟩) (fun z => ⟨z.1, z.2 _ _⟩)) fun b I2 e83 hP2 e0 hJ => ?_
  · decide
  refine s_W_law_511 zo_83 (l_thr ?_)
  rw [e83]
  refine s_W_law_517 (fun _ => s_W_law_524 (fun _ => s_W_law_541 (nxt _ _ _ _ _ (lI_s hI hcn hP2 (e0.trans h0)))) (fun hz => s_W_law_529 (n1 := 1) rfl (by unfold vp_in; decide) (fun _ => s_W_law_541 (nxt _ _ _ _ _ (lI_s hI hcn hP2 (e0.trans h0)))) (fun hx => ?_))) (fun hx => absurd rfl hx)
  have k0 : k = 0 := by
    have hz := Classical.not_not.mp hz
    have : k = 0 ∨ k = 1 ∨ k = 2 := by omega
    rcases this with e | e | e
    · exact e
    · rw [e] at hz; exact absurd hz (by decide)
    · rw [e] at hz; exact absurd hz (by decide)
  rw [hJ k0] at hx
  exact absurd (lg_self _) hx
theorem w_measure
    {L : Nat} {xs : Nat → Int32} {j : Nat} {c : zC} {I : zJ} {J : zK} {o5 o6 : Option Value} (hj : 5 * j + 5 ≤ L) (hL : L ≤ 2560) (hI : lI L xs j c I)
    (nxt : ∀ (c1 : zC) (I1 : zJ) (J1 : zK) (o5 o6 : Option Value), lI L xs (j + 1) c1 I1 → xG 9 zm_W_law (23, [some (.ref 0), some (.ref 4), some (.ref 83), some (.ref 106), some (.int (nI (5 * j) + (5 : Int32))), o5, o6], []) (zsc c1, I1, J1) (Qf L)) : xG 9 zm_W_law (312, [some (.ref 0), some (.ref 4), some (.ref 83), some (.ref 106), some (.int (nI (5 * j))), o5, o6], []) (zsc c, I, J) (Qf L) := by
  obtain ⟨w, h, n, hp⟩ := hI.2.1
  have vp : ∀ {c1 : zC} (t : Nat), t < 5 → c1.1 = L → vp_in (nI (5 * j) + nI t) c1.1 := fun {c1} t ht e => by
    rw [nI_add, e]; exact vp_in_nI (by omega) (by omega)
  have hc1 := hI.1
  refine s_W_law_312 rfl (vp 1 (by decide) hc1) zo_4 (l_call (by decide) (p_measure hp) fun v I1 hv h0 => ?_)
  refine s_W_law_322 rfl (vp 1 (by decide) hc1) zo_83 ?_
  rw [h0]
  refine l_call (by decide) (hv c J) fun b I2 hb e0 => ?_
  obtain ⟨-, hb1, hP2⟩ := hb
  exact s_W_law_332 (fun _ => s_W_law_693 (nxt _ _ _ _ _ (lI_s hI ⟨rfl, Or.inl rfl⟩ hP2 (e0.trans h0)))) (fun hx => absurd hb1.symm hx)
theorem w_feed
    {L : Nat} {xs : Nat → Int32} {j : Nat} {c : zC} {I : zJ} {J : zK} {o5 o6 : Option Value} (hj : 5 * j + 5 ≤ L) (hL : L ≤ 2560) (hI : lI L xs j c I)
    (nxt : ∀ (c1 : zC) (I1 : zJ) (J1 : zK) (o5 o6 : Option Value), lI L xs (j + 1) c1 I1 → xG 9 zm_W_law (23, [some (.ref 0), some (.ref 4), some (.ref 83), some (.ref 106), some (.int (nI (5 * j) + (5 : Int32))), o5, o6], []) (zsc c1, I1, J1) (Qf L)) : xG 9 zm_W_law (337, [some (.ref 0), some (.ref 4), some (.ref 83), some (.ref 106), some (.int (nI (5 * j))), o5, o6], []) (zsc c, I, J) (Qf L) := by
  obtain ⟨w, h, n, hp⟩ := hI.2.1
  have vp : ∀ {c1 : zC} (t : Nat), t < 5 → c1.1 = L → vp_in (nI (5 * j) + nI t) c1.1 := fun {c1} t ht e => by
    rw [nI_add, e]; exact vp_in_nI (by omega) (by omega)
  have hc1 := hI.1
  refine s_W_law_337 rfl (vp 1 (by decide) hc1) (vp 2 (by decide) hc1) (vp 3 (by decide) hc1) zo_4 (l_call (by decide) (p_feed hp) fun v I1 hv h0 => ?_)
  refine s_W_law_369 rfl (vp 1 (by decide) hc1) (vp 2 (by decide) hc1) (vp 3 (by decide) hc1) zo_83 ?_
  rw [h0]
  refine l_call (by decide) (hv c J) fun b I2 hb e0 => ?_
  obtain ⟨-, hb1, hP2⟩ := hb
  exact s_W_law_401 (fun _ => s_W_law_693 (nxt _ _ _ _ _ (lI_s hI ⟨rfl, Or.inl rfl⟩ hP2 (e0.trans h0)))) (fun hx => absurd hb1.symm hx)
theorem w_wipe
    {L : Nat} {xs : Nat → Int32} {j : Nat} {c : zC} {I : zJ} {J : zK} {o5 o6 : Option Value} (hj : 5 * j + 5 ≤ L) (hL : L ≤ 2560) (hI : lI L xs j c I)
    (nxt : ∀ (c1 : zC) (I1 : zJ) (J1 : zK) (o5 o6 : Option Value), lI L xs (j + 1) c1 I1 → xG 9 zm_W_law (23, [some (.ref 0), some (.ref 4), some (.ref 83), some (.ref 106), some (.int (nI (5 * j) + (5 : Int32))), o5, o6], []) (zsc c1, I1, J1) (Qf L)) : xG 9 zm_W_law (406, [some (.ref 0), some (.ref 4), some (.ref 83), some (.ref 106), some (.int (nI (5 * j))), o5, o6], []) (zsc c, I, J) (Qf L) := by
  obtain ⟨w, h, n, hp⟩ := hI.2.1
  have vp : ∀ {c1 : zC} (t : Nat), t < 5 → c1.1 = L → vp_in (nI (5 * j) + nI t) c1.1 := fun {c1} t ht e => by
    rw [nI_add, e]; exact vp_in_nI (by omega) (by omega)
  have hc1 := hI.1
  refine s_W_law_406   zo_4 (l_call (by decide) (p_wipe hp) fun v I1 hv h0 => ?_)
  refine s_W_law_410   zo_83 ?_
  skip
  refine l_call (by decide) (hv c J) fun b I2 hb e0 => ?_
  obtain ⟨-, hb1, hP2⟩ := hb
  exact s_W_law_414 (fun _ => s_W_law_693 (nxt _ _ _ _ _ (lI_s hI ⟨rfl, Or.inl rfl⟩ hP2 (e0.trans h0)))) (fun hx => absurd hb1.symm hx)
theorem w_byteAt
    {L : Nat} {xs : Nat → Int32} {j : Nat} {c : zC} {I : zJ} {J : zK} {o5 o6 : Option Value} (hj : 5 * j + 5 ≤ L) (hL : L ≤ 2560) (hI : lI L xs j c I)
    (nxt : ∀ (c1 : zC) (I1 : zJ) (J1 : zK) (o5 o6 : Option Value), lI L xs (j + 1) c1 I1 → xG 9 zm_W_law (23, [some (.ref 0), some (.ref 4), some (.ref 83), some (.ref 106), some (.int (nI (5 * j) + (5 : Int32))), o5, o6], []) (zsc c1, I1, J1) (Qf L)) : xG 9 zm_W_law (419, [some (.ref 0), some (.ref 4), some (.ref 83), some (.ref 106), some (.int (nI (5 * j))), o5, o6], []) (zsc c, I, J) (Qf L) := by
  obtain ⟨w, h, n, hp⟩ := hI.2.1
  have vp : ∀ {c1 : zC} (t : Nat), t < 5 → c1.1 = L → vp_in (nI (5 * j) + nI t) c1.1 := fun {c1} t ht e => by
    rw [nI_add, e]; exact vp_in_nI (by omega) (by omega)
  have hc1 := hI.1
  refine s_W_law_419 rfl (vp 1 (by decide) hc1) zo_4 (l_call (by decide) (p_byteAt hp) fun v I1 hv h0 => ?_)
  refine s_W_law_429 rfl (vp 1 (by decide) hc1) zo_83 ?_
  rw [h0]
  refine l_call (by decide) (hv c J) fun b I2 hb e0 => ?_
  obtain ⟨-, hb1, hP2⟩ := hb
  exact s_W_law_439 (fun _ => s_W_law_693 (nxt _ _ _ _ _ (lI_s hI ⟨rfl, Or.inl rfl⟩ hP2 (e0.trans h0)))) (fun hx => absurd hb1.symm hx)
theorem w_had
    {L : Nat} {xs : Nat → Int32} {j : Nat} {c : zC} {I : zJ} {J : zK} {o5 o6 : Option Value} (hj : 5 * j + 5 ≤ L) (hL : L ≤ 2560) (hI : lI L xs j c I)
    (nxt : ∀ (c1 : zC) (I1 : zJ) (J1 : zK) (o5 o6 : Option Value), lI L xs (j + 1) c1 I1 → xG 9 zm_W_law (23, [some (.ref 0), some (.ref 4), some (.ref 83), some (.ref 106), some (.int (nI (5 * j) + (5 : Int32))), o5, o6], []) (zsc c1, I1, J1) (Qf L)) : xG 9 zm_W_law (668, [some (.ref 0), some (.ref 4), some (.ref 83), some (.ref 106), some (.int (nI (5 * j))), o5, o6], []) (zsc c, I, J) (Qf L) := by
  obtain ⟨w, h, n, hp⟩ := hI.2.1
  have vp : ∀ {c1 : zC} (t : Nat), t < 5 → c1.1 = L → vp_in (nI (5 * j) + nI t) c1.1 := fun {c1} t ht e => by
    rw [nI_add, e]; exact vp_in_nI (by omega) (by omega)
  have hc1 := hI.1
  refine s_W_law_668 rfl (vp 1 (by decide) hc1) zo_4 (l_call (by decide) (p_had hp) fun v I1 hv h0 => ?_)
  refine s_W_law_678 rfl (vp 1 (by decide) hc1) zo_83 ?_
  rw [h0]
  refine l_call (by decide) (hv c J) fun b I2 hb e0 => ?_
  obtain ⟨-, hb1, hP2⟩ := hb
  exact s_W_law_688 (fun _ => s_W_law_693 (nxt _ _ _ _ _ (lI_s hI ⟨rfl, Or.inl rfl⟩ hP2 (e0.trans h0)))) (fun hx => absurd hb1.symm hx)
theorem w_write
    {L : Nat} {xs : Nat → Int32} {j : Nat} {c : zC} {I : zJ} {J : zK} {o5 o6 : Option Value} (hj : 5 * j + 5 ≤ L) (hL : L ≤ 2560) (hI : lI L xs j c I)
    (nxt : ∀ (c1 : zC) (I1 : zJ) (J1 : zK) (o5 o6 : Option Value), lI L xs (j + 1) c1 I1 → xG 9 zm_W_law (23, [some (.ref 0), some (.ref 4), some (.ref 83), some (.ref 106), some (.int (nI (5 * j) + (5 : Int32))), o5, o6], []) (zsc c1, I1, J1) (Qf L)) : xG 9 zm_W_law (544, [some (.ref 0), some (.ref 4), some (.ref 83), some (.ref 106), some (.int (nI (5 * j))), o5, o6], []) (zsc c, I, J) (Qf L) := by
  obtain ⟨w, h, n, hp⟩ := hI.2.1
  have vp : ∀ {c1 : zC} (t : Nat), t < 5 → c1.1 = L → vp_in (nI (5 * j) + nI t) c1.1 := fun {c1} t ht e => by
    rw [nI_add, e]; exact vp_in_nI (by omega) (by omega)
  have hc1 := hI.1
  have x1 : I 0 (nI (5 * j) + (1 : Int32)).toNatClampNeg = 0 ∨ ¬ I 0 (nI (5 * j) + (1 : Int32)).toNatClampNeg = 0 := Classical.em _
  have x2 : I 0 (nI (5 * j) + (2 : Int32)).toNatClampNeg = 0 ∨ ¬ I 0 (nI (5 * j) + (2 : Int32)).toNatClampNeg = 0 := Classical.em _
  rcases x1 with a1 | a1 <;> rcases x2 with a2 | a2
  · refine s_W_law_544 rfl (vp 1 (by decide) hc1) (fun _ => s_W_law_558 rfl (vp 2 (by decide) hc1) (fun _ => s_W_law_572 rfl (vp 3 (by decide) hc1) (vp 4 (by decide) hc1) (xg_w (h_write hp) fun q h1 ho => ?_)) (fun z => absurd a2 z)) (fun z => absurd a1 z)
    obtain ⟨k, c1, J1, I1, rfl, rfl, hcn, h0, hk3, hR⟩ := ho
    have hc2 : c1.1 = L := hcn.1.trans hc1
    rw [← h0] at a1 a2
    refine s_W_law_589 rfl (vp 1 (by decide) hc2) (fun _ => s_W_law_605 rfl (vp 2 (by decide) hc2) (fun _ => s_W_law_619 rfl (vp 3 (by decide) hc2) (vp 4 (by decide) hc2) zo_83 ?_) (fun z => absurd a2 z)) (fun z => absurd a1 z)
    rw [h0]
    refine l_ref (k := k) (d' := _) ?_ (hR.imp (fun z => ⟨z.1, z.2.imp fun v y => ⟨y.1, y.2 _ _⟩⟩) (fun z => ⟨z.1, z.2 _ _⟩)) fun b I2 e83 hP2 e0 hJ => ?_
    · decide
    refine s_W_law_635 zo_83 (l_thr ?_)
    rw [e83]
    refine s_W_law_641 (fun _ => s_W_law_648 (fun _ => s_W_law_665 (nxt _ _ _ _ _ (lI_s hI hcn hP2 (e0.trans h0)))) (fun hz => s_W_law_653 (n1 := 1) rfl (by unfold vp_in; decide) (fun _ => s_W_law_665 (nxt _ _ _ _ _ (lI_s hI hcn hP2 (e0.trans h0)))) (fun hx => ?_))) (fun hx => absurd rfl hx)
    have k0 : k = 0 := by
      have hz := Classical.not_not.mp hz
      have : k = 0 ∨ k = 1 ∨ k = 2 := by omega
      rcases this with e | e | e
      · exact e
      · rw [e] at hz; exact absurd hz (by decide)
      · rw [e] at hz; exact absurd hz (by decide)
    rw [hJ k0] at hx
    exact absurd (lg_self _) hx
  · refine s_W_law_544 rfl (vp 1 (by decide) hc1) (fun _ => s_W_law_558 rfl (vp 2 (by decide) hc1) (fun z => absurd z a2) (fun _ => s_W_law_568 rfl (vp 3 (by decide) hc1) (vp 4 (by decide) hc1) (xg_w (h_write hp) fun q h1 ho => ?_))) (fun z => absurd a1 z)
    obtain ⟨k, c1, J1, I1, rfl, rfl, hcn, h0, hk3, hR⟩ := ho
    have hc2 : c1.1 = L := hcn.1.trans hc1
    rw [← h0] at a1 a2
    refine s_W_law_589 rfl (vp 1 (by decide) hc2) (fun _ => s_W_law_605 rfl (vp 2 (by decide) hc2) (fun z => absurd z a2) (fun _ => s_W_law_615 rfl (vp 3 (by decide) hc2) (vp 4 (by decide) hc2) zo_83 ?_)) (fun z => absurd a1 z)
    rw [h0]
    refine l_ref (k := k) (d' := _) ?_ (hR.imp (fun z => ⟨z.1, z.2.imp fun v y => ⟨y.1, y.2 _ _⟩⟩) (fun z => ⟨z.1, z.2 _ _⟩)) fun b I2 e83 hP2 e0 hJ => ?_
    · decide
    refine s_W_law_635 zo_83 (l_thr ?_)
    rw [e83]
    refine s_W_law_641 (fun _ => s_W_law_648 (fun _ => s_W_law_665 (nxt _ _ _ _ _ (lI_s hI hcn hP2 (e0.trans h0)))) (fun hz => s_W_law_653 (n1 := 1) rfl (by unfold vp_in; decide) (fun _ => s_W_law_665 (nxt _ _ _ _ _ (lI_s hI hcn hP2 (e0.trans h0)))) (fun hx => ?_))) (fun hx => absurd rfl hx)
    have k0 : k = 0 := by
      have hz := Classical.not_not.mp hz
      have : k = 0 ∨ k = 1 ∨ k = 2 := by omega
      rcases this with e | e | e
      · exact e
      · rw [e] at hz; exact absurd hz (by decide)
      · rw [e] at hz; exact absurd hz (by decide)
    rw [hJ k0] at hx
    exact absurd (lg_self _) hx
  · refine s_W_law_544 rfl (vp 1 (by decide) hc1) (fun z => absurd z a1) (fun _ => s_W_law_554 rfl (vp 2 (by decide) hc1) (fun _ => s_W_law_572 rfl (vp 3 (by decide) hc1) (vp 4 (by decide) hc1) (xg_w (h_write hp) fun q h1 ho => ?_)) (fun z => absurd a2 z))
    obtain ⟨k, c1, J1, I1, rfl, rfl, hcn, h0, hk3, hR⟩ := ho
    have hc2 : c1.1 = L := hcn.1.trans hc1
    rw [← h0] at a1 a2
    refine s_W_law_589 rfl (vp 1 (by decide) hc2) (fun z => absurd z a1) (fun _ => s_W_law_601 rfl (vp 2 (by decide) hc2) (fun _ => s_W_law_619 rfl (vp 3 (by decide) hc2) (vp 4 (by decide) hc2) zo_83 ?_) (fun z => absurd a2 z))
    rw [h0]
    refine l_ref (k := k) (d' := _) ?_ (hR.imp (fun z => ⟨z.1, z.2.imp fun v y => ⟨y.1, y.2 _ _⟩⟩) (fun z => ⟨z.1, z.2 _ _⟩)) fun b I2 e83 hP2 e0 hJ => ?_
    · decide
    refine s_W_law_635 zo_83 (l_thr ?_)
    rw [e83]
    refine s_W_law_641 (fun _ => s_W_law_648 (fun _ => s_W_law_665 (nxt _ _ _ _ _ (lI_s hI hcn hP2 (e0.trans h0)))) (fun hz => s_W_law_653 (n1 := 1) rfl (by unfold vp_in; decide) (fun _ => s_W_law_665 (nxt _ _ _ _ _ (lI_s hI hcn hP2 (e0.trans h0)))) (fun hx => ?_))) (fun hx => absurd rfl hx)
    have k0 : k = 0 := by
      have hz := Classical.not_not.mp hz
      have : k = 0 ∨ k = 1 ∨ k = 2 := by omega
      rcases this with e | e | e
      · exact e
      · rw [e] at hz; exact absurd hz (by decide)
      · rw [e] at hz; exact absurd hz (by decide)
    rw [hJ k0] at hx
    exact absurd (lg_self _) hx
  · refine s_W_law_544 rfl (vp 1 (by decide) hc1) (fun z => absurd z a1) (fun _ => s_W_law_554 rfl (vp 2 (by decide) hc1) (fun z => absurd z a2) (fun _ => s_W_law_568 rfl (vp 3 (by decide) hc1) (vp 4 (by decide) hc1) (xg_w (h_write hp) fun q h1 ho => ?_)))
    obtain ⟨k, c1, J1, I1, rfl, rfl, hcn, h0, hk3, hR⟩ := ho
    have hc2 : c1.1 = L := hcn.1.trans hc1
    rw [← h0] at a1 a2
    refine s_W_law_589 rfl (vp 1 (by decide) hc2) (fun z => absurd z a1) (fun _ => s_W_law_601 rfl (vp 2 (by decide) hc2) (fun z => absurd z a2) (fun _ => s_W_law_615 rfl (vp 3 (by decide) hc2) (vp 4 (by decide) hc2) zo_83 ?_))
    rw [h0]
    refine l_ref (k := k) (d' := _) ?_ (hR.imp (fun z => ⟨z.1, z.2.imp fun v y => ⟨y.1, y.2 _ _⟩⟩) (fun z => ⟨z.1, z.2 _ _⟩)) fun b I2 e83 hP2 e0 hJ => ?_
    · decide
    refine s_W_law_635 zo_83 (l_thr ?_)
    rw [e83]
    refine s_W_law_641 (fun _ => s_W_law_648 (fun _ => s_W_law_665 (nxt _ _ _ _ _ (lI_s hI hcn hP2 (e0.trans h0)))) (fun hz => s_W_law_653 (n1 := 1) rfl (by unfold vp_in; decide) (fun _ => s_W_law_665 (nxt _ _ _ _ _ (lI_s hI hcn hP2 (e0.trans h0)))) (fun hx => ?_))) (fun hx => absurd rfl hx)
    have k0 : k = 0 := by
      have hz := Classical.not_not.mp hz
      have : k = 0 ∨ k = 1 ∨ k = 2 := by omega
      rcases this with e | e | e
      · exact e
      · rw [e] at hz; exact absurd hz (by decide)
      · rw [e] at hz; exact absurd hz (by decide)
    rw [hJ k0] at hx
    exact absurd (lg_self _) hx
theorem l_law {L : Nat} {xs : Nat → Int32} (hL : L ≤ 2560) : ∀ (r j : Nat) (c : zC) (I : zJ) (J : zK) (o5 o6 : Option Value), j + r = 512 → lI L xs j c I → xG 9 zm_W_law (23, [some (.ref 0), some (.ref 4), some (.ref 83), some (.ref 106), some (.int (nI (5 * j))), o5, o6], []) (zsc c, I, J) (Qf L) := by
  intro r
  induction r with
  | zero =>
    intro j c I J o5 o6 hj hI
    refine s_W_law_23 (n1 := c.1) rfl (fun _ => s_W_law_699 ⟨rfl, c, rfl, hI.1, Nat.le_trans hI.2.2.2.1 (by omega), hI.2.2.2.2⟩) (fun hx => absurd ?_ hx)
    apply Int32.lt_iff_toInt_lt.mpr
    show (nI c.1 - nI 5).toInt < (nI (5 * j)).toInt
    rw [hI.1, pk_sub_toInt (by omega) (by decide), nI_toInt (by omega)]
    omega
  | succ r ih =>
    intro j c I J o5 o6 hj hI
    refine s_W_law_23 (n1 := c.1) rfl (fun _ => s_W_law_699 ⟨rfl, c, rfl, hI.1, Nat.le_trans hI.2.2.2.1 (by omega), hI.2.2.2.2⟩) (fun hx => ?_)
    have h5 : 5 * j + 5 ≤ L := by
      rcases Nat.lt_or_ge L (5 * j + 5) with z | z
      · exfalso
        refine hx (Int32.lt_iff_toInt_lt.mpr ?_)
        show (nI c.1 - nI 5).toInt < (nI (5 * j)).toInt
        rw [hI.1, pk_sub_toInt (by omega) (by decide), nI_toInt (by omega)]
        omega
      · exact z
    have e5 : nI (5 * j) + (5 : Int32) = nI (5 * (j + 1)) := by
      show nI (5 * j) + nI 5 = _
      rw [nI_add, show 5 * j + 5 = 5 * (j + 1) by omega]
    have nxt : ∀ (c1 : zC) (I1 : zJ) (J1 : zK) (o5 o6 : Option Value), lI L xs (j + 1) c1 I1 → xG 9 zm_W_law (23, [some (.ref 0), some (.ref 4), some (.ref 83), some (.ref 106), some (.int (nI (5 * j) + (5 : Int32))), o5, o6], []) (zsc c1, I1, J1) (Qf L) := by
      intro c1 I1 J1 p5 p6 h1
      rw [e5]
      exact ih (j + 1) c1 I1 J1 p5 p6 (by omega) h1
    exact s_W_law_32 (n1 := c.1) rfl (by rw [hI.1]; exact vp_in_nI (by omega) (by omega)) (fun _ => w_size h5 hL hI nxt) (fun _ => w_set h5 hL hI nxt) (fun _ => w_pixel h5 hL hI nxt) (fun _ => w_measure h5 hL hI nxt) (fun _ => w_feed h5 hL hI nxt) (fun _ => w_wipe h5 hL hI nxt) (fun _ => w_byteAt h5 hL hI nxt) (fun _ => w_flip h5 hL hI nxt) (fun _ => w_read h5 hL hI nxt) (fun _ => w_write h5 hL hI nxt) (fun _ => w_had h5 hL hI nxt)
      (fun _ => s_W_law_693 (nxt _ _ _ _ _ (lI_s hI ⟨rfl, Or.inl rfl⟩ hI.2.1 rfl)))
