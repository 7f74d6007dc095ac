/-! The law's run in the pure machine; the claim. -/
theorem z_end (L : Nat) : zS_124 L ++ [.inl (.long, 1)] = zsc (L, []) := rfl
set_option maxRecDepth 100000 in
theorem z_pub (xs : Nat → Int32) : pub (xzer (zI_106 xs) 106) 1 1 0 := by
  refine ⟨by decide, by decide, by decide, by decide, by decide, rfl, rfl, rfl, rfl, ?_, rfl, rfl, ?_, Or.inl rfl, rfl, ?_, ?_, ?_, ?_, ?_⟩
  · funext k; rfl
  · funext k; rfl
  · funext k; rfl
  · funext k; rfl
  · funext k; rfl
  · funext k; rfl
  · intro k hk
    rcases (by omega : k = 0 ∨ k = 1 ∨ k = 2 ∨ k = 3 ∨ k = 4 ∨ k = 5 ∨ k = 6 ∨ k = 7 ∨ k = 8 ∨ k = 9 ∨ k = 10 ∨ k = 11 ∨ k = 12 ∨ k = 13 ∨ k = 14 ∨ k = 15 ∨ k = 16 ∨ k = 17 ∨ k = 18) with e | e | e | e | e | e | e | e | e | e | e | e | e | e | e | e | e | e | e <;> subst e <;> rfl
set_option maxRecDepth 100000 in
theorem z_row0 (xs : Nat → Int32) : (xzer (zI_106 xs) 106) 0 = xs := by
  funext k
  rfl
theorem z_sz {X : xX} (hX : X.cl = zcl) : xsl X zsh1 ≤ 20000 := by
  unfold xsl xsz
  rw [hX]
  decide +kernel
theorem z_thr {X : xX} : ∀ (zs : List xS), (∀ z, z ∈ zs → ∃ e, 100 ≤ e ∧ z = .inr (e, [])) → xsl X zs ≤ 6 * zs.length
  | [], _ => Nat.le_refl _
  | z :: zs, h => by
    have h1 := z_thr (X := X) zs fun y hy => h y (List.mem_cons_of_mem _ hy)
    obtain ⟨e, he, ez⟩ := h z List.mem_cons_self
    have h2 : xsz X z = 6 := by
      rw [ez]
      show (if 100 ≤ e then 6 else _) = 6
      rw [if_pos he]
    unfold xsl at h1 ⊢
    rw [List.map_cons, List.sum_cons, List.length_cons, h2]
    omega
theorem z_pure : zPure := by
  intro L xs hL
  have main : xG 9 zm_W_law (0, [some (.ref 0), none, none, none, none, none, none], []) (zh0 L xs) (Qf L) := by
    refine s_W_law_0 ?_
    show xG 9 zm_W_law (3, [some (.ref 0), none, none, none, none, none, none], [.ref 4]) (zS_1 L, zI_1 xs, _) _
    refine s_W_law_3 (zj_L_init fun J1 => ?_)
    refine s_W_law_7 ?_
    show xG 9 zm_W_law (11, [some (.ref 0), some (.ref 4), none, none, none, none, none], [.ref 83]) (zS_101 L, zI_81 xs, _) _
    refine s_W_law_11 (zj_M_init fun J2 => ?_)
    refine s_W_law_15 ?_
    show xG 9 zm_W_law (19, [some (.ref 0), some (.ref 4), some (.ref 83), none, none, none, none], [.ref 106]) (zsc (L, []), xzer (zI_106 xs) 106, _) _
    refine s_W_law_19 ?_
    exact l_law hL 512 0 (L, []) _ _ none none (by decide) ⟨rfl, ⟨1, 1, 0, z_pub xs⟩, z_row0 xs, Nat.le_refl _, fun z hz => by cases hz⟩
  obtain ⟨k, o, h', hr, ho, c, hc, hcL, hl, hz⟩ := main
  subst ho
  refine ⟨k, h', hr, ?_, fun X hX => ?_⟩
  · rw [hc]
    unfold zsc
    rw [List.length_cons, List.length_append]
    have : zsh1.length = 106 := rfl
    omega
  · rw [hc]
    have h1 := z_sz hX
    have h2 := z_thr (X := X) c.2 hz
    have h3 : xsl X (zsc c) = L + (xsl X zsh1 + xsl X c.2) := by
      unfold zsc xsl
      rw [List.map_cons, List.sum_cons, List.map_append, List.sum_append, ← hcL]
      rfl
    have h4 : L ≤ xsl X (zh0 L xs).1 := by
      show L ≤ (([.inl (.int, L), .inl (.int, 19), .inl (.int, 8), .inl (.int, 8)] : List xS).map (xsz X)).sum
      rw [List.map_cons, List.sum_cons]
      exact Nat.le_add_right L _
    omega
theorem i_vc : Claimed_1_1 ∧ Claimed_1_2 := i_vc_open z_pure
