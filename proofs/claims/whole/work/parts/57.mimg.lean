/-! AN IMAGE READ BY THE REFERENCE: prefixes, distances, pixels that come. -/
theorem z_behA : ∀ x, x < 40 → 4 ≤ x → (nI x / nI 2) - nI 1 = nI (zbeh x) := by decide
theorem z_lstA : ∀ x, x < 40 → 4 ≤ x → ((nI 2 + (nI x - nI x / nI 2 * nI 2)) <<< (((nI x / nI 2) - nI 1) &&& 31)) = nI (zlst x - 1) := by decide
theorem okb_map {α β : Type} {b b1 : Nat} {F : Option α} {r : α} {g : α → β} (h : okb b F b1 r) : okb b (F.map g) b1 (g r) := by
  rcases h with ⟨h1, h2, h3⟩ | ⟨h1, h2⟩
  · exact Or.inl ⟨h1, h2, by rw [h3]; rfl⟩
  · exact Or.inr ⟨h1, h2.imp id fun y => ⟨y.1, by rw [y.2]; rfl⟩⟩
/-- nothing heard, nothing lost -/
theorem okb_r {α : Type} {b : Nat} {F : Option α} {r : α} (hb : b < 2) (h : F = some r) : okb b F b r := by
  by_cases e : b = 0
  · exact Or.inl ⟨e, e, h⟩
  · exact Or.inr ⟨by omega, Or.inl (by omega)⟩
/-- one thing behind another -/
theorem okb_s {α β : Type} {b b1 b2 : Nat} {F : Option α} {r : α} {G : Option β} {H : Option β} {s : β} (h : okb b F b1 r) (h2 : okb b1 H b2 s) (hs : b1 = 0 → F = some r → G = H) (hn : F = none → G = none) : okb b G b2 s := by
  rcases h with ⟨rfl, rfl, e⟩ | ⟨rfl, h⟩
  · rw [hs rfl e]; exact h2
  · rcases h2 with ⟨_, z, _⟩ | ⟨z, _⟩
    · cases z
    · exact Or.inr ⟨z, h.imp id fun y => ⟨y.1, hn y.2⟩⟩
section MI
variable {c : zC} {J : zK} {n : Nat} {B : Nat → Int32} {T : Nat → zJ → Prop}
theorem m_pre {P : Int32 → zJ → Prop} {p b x : Nat} {I : zJ} (h : mrs I B n p b) (hx : x < 40) (hP : ∀ v q b1 I1, okb b (pPre B (8 * n) x p) b1 (v, q) → 1 ≤ v → v < 2 ^ 21 → mrs I1 B n q b1 → mf [] [8, 9] I I1 → P (nI v) I1) : c_M_readPrefixed c J (nI x) I P T := by
  have b1 := z_beh_le x hx
  have b2 := z_lst_le x hx
  refine t_M_readPrefixed (pk_le 4 x (fun e => ?_) (fun e => ?_))
  · rw [z_behA x hx e]
    refine m_bitsb h (by omega) fun v q b3 I1 o1 g1 r1 f1 => ?_
    have e2 := z_lstA x hx e
    rw [z_behA x hx e] at e2
    rw [e2, nI_add, nI_add]
    have h18 : (2 : Nat) ^ zbeh x ≤ 2 ^ 18 := Nat.pow_le_pow_right (by decide) b1
    rw [show zlst x - 1 + v + 1 = zlst x + v by omega]
    exact hP _ q b3 I1 (okb_map (g := fun (q : Nat × Nat) => (zlst x + q.1, q.2)) o1) (by omega) (by omega) r1 f1
  · rw [nI_add]
    have e1 : pPre B (8 * n) x p = some (x + 1, p) := by
      have hz : zbeh x = 0 := by unfold zbeh; rw [if_pos e]
      have hl : zlst x = x + 1 := by unfold zlst; rw [if_pos e]
      unfold pPre pNum
      rw [hz, hl, if_pos (by have := h.2.2.1; omega)]
      rfl
    exact hP _ p b I (okb_r h.2.2.2.2 e1) (by omega) (by omega) h mf_0
theorem z_nearM : ∀ w, w < 17 → w = 0 ∨ ((if nI 1 ≤ nI 0 + nI 1 * nI w then nI 0 + nI 1 * nI w else nI 1) = nI (max 1 (znear 1 w)) ∧ (if nI 1 ≤ nI 1 + nI 0 * nI w then nI 1 + nI 0 * nI w else nI 1) = nI (max 1 (znear 2 w)) ∧ (if nI 1 ≤ nI 1 + nI 1 * nI w then nI 1 + nI 1 * nI w else nI 1) = nI (max 1 (znear 3 w)) ∧
    (if nI 1 ≤ -1 + nI 1 * nI w then -1 + nI 1 * nI w else nI 1) = nI (max 1 (znear 4 w)) ∧ (if nI 1 ≤ nI 0 + nI 2 * nI w then nI 0 + nI 2 * nI w else nI 1) = nI (max 1 (znear 5 w)) ∧ (if nI 1 ≤ nI 2 + nI 0 * nI w then nI 2 + nI 0 * nI w else nI 1) = nI (max 1 (znear 6 w)) ∧
    (if nI 1 ≤ nI 1 + nI 2 * nI w then nI 1 + nI 2 * nI w else nI 1) = nI (max 1 (znear 7 w)) ∧ (if nI 1 ≤ -1 + nI 2 * nI w then -1 + nI 2 * nI w else nI 1) = nI (max 1 (znear 8 w))) := by decide
theorem br_if {P : Int32 → zJ → Prop} {I : zJ} {V : Int32} (h : P (if nI 1 ≤ V then V else nI 1) I) : (nI 1 ≤ V → P V I) ∧ (¬ (nI 1 ≤ V) → P (nI 1) I) := by
  by_cases e : nI 1 ≤ V
  · rw [if_pos e] at h; exact br_t e h
  · rw [if_neg e] at h; exact br_f e h
theorem m_dist {P : Int32 → zJ → Prop} {k w : Nat} {I : zJ} (hk : 1 ≤ k) (hk2 : k < 2 ^ 31) (hw : 1 ≤ w) (hw2 : w ≤ 16) (hP : P (nI (zdist k w)) I) : c_M_distanceOf c J (nI k) (nI w) I P T := by
  unfold zdist at hP
  refine t_M_distanceOf (pk_le k 8 (fun e => ?_) (fun e => ?_))
  · obtain ⟨a1, a2, a3, a4, a5, a6, a7, a8⟩ := (z_nearM w (by omega)).resolve_left (by omega)
    rw [if_neg (by omega)] at hP
    match k, hk, e with
    | 1, _, _ => exact br_t rfl (t_M_distanceOf_21 (br_f (by decide) (t_M_distanceOf_57 (br_f (by decide) (br_t rfl (br_if (by rw [a1]; exact hP)))))))
    | 2, _, _ => exact br_f (by decide) (br_f (by decide) (br_f (by decide) (br_f (by decide) (br_f (by decide) (br_t rfl (br_if (by rw [a2]; exact hP)))))))
    | 3, _, _ => exact br_f (by decide) (br_f (by decide) (br_f (by decide) (br_f (by decide) (br_f (by decide) (br_f (by decide) (t_M_distanceOf_57 (br_f (by decide) (br_f (by decide) (br_t rfl (br_if (by rw [a3]; exact hP)))))))))))
    | 4, _, _ => exact br_f (by decide) (br_f (by decide) (br_t rfl (t_M_distanceOf_36 (br_f (by decide) (t_M_distanceOf_57 (br_f (by decide) (br_f (by decide) (br_f (by decide) (br_t rfl (br_if (by rw [a4]; exact hP)))))))))))
    | 5, _, _ => exact br_f (by decide) (br_t rfl (t_M_distanceOf_21 (br_f (by decide) (t_M_distanceOf_57 (br_f (by decide) (br_f (by decide) (br_f (by decide) (br_f (by decide) (br_if (by rw [a5]; exact hP))))))))))
    | 6, _, _ => exact br_f (by decide) (br_f (by decide) (br_f (by decide) (br_f (by decide) (br_t rfl (br_f (by decide) (t_M_distanceOf_57 (br_t rfl (br_if (by rw [a6]; exact hP)))))))))
    | 7, _, _ => exact br_f (by decide) (br_f (by decide) (br_f (by decide) (br_f (by decide) (br_f (by decide) (br_f (by decide) (t_M_distanceOf_57 (br_f (by decide) (br_f (by decide) (br_f (by decide) (br_f (by decide) (br_if (by rw [a7]; exact hP))))))))))))
    | 8, _, _ => exact br_f (by decide) (br_f (by decide) (br_f (by decide) (br_t rfl (t_M_distanceOf_36 (br_f (by decide) (t_M_distanceOf_57 (br_f (by decide) (br_f (by decide) (br_f (by decide) (br_f (by decide) (br_if (by rw [a8]; exact hP))))))))))))
    | k + 9, _, e => omega
  · rw [if_pos e] at hP
    rw [pk_sub (by omega)]
    exact hP
/-- the reference's pixels so far, the cache, copies and cached ones -/
def mpx (I : zJ) (b i : Nat) (f C : Nat → Int32) (cp ca : Nat) : Prop := (∀ k, k < i → I 91 k = f k) ∧ (0 < b → ∀ k, k < 16 → I 93 k = C k) ∧ I 83 17 = nI cp ∧ I 83 18 = nI ca
/-- codes and cache are set up -/
def mim (I : zJ) (b : Nat) (ls : Nat → Nat → Nat) : Prop := b ≤ 4 ∧ I 83 19 = nI (zcc b) ∧ mrd I 0 (280 + zcc b) (ls 0) ∧ mrd I 1 256 (ls 1) ∧ mrd I 2 256 (ls 2) ∧ mrd I 3 256 (ls 3) ∧ mrd I 4 40 (ls 4)
theorem mim_mf {S F : List Nat} {I I1 : zJ} {b : Nat} {ls : Nat → Nat → Nat} (h : mim I b ls) (hf : mf S F I I1) (h1 : 87 ∉ S) (h2 : 89 ∉ S) (h3 : 90 ∉ S) (h4 : 19 ∉ F) : mim I1 b ls := by
  obtain ⟨y0, y1, y2, y3, y4, y5, y6⟩ := h
  exact ⟨y0, (hf.2 19 h4).trans y1, mrd_mf y2 hf h1 h2 h3, mrd_mf y3 hf h1 h2 h3, mrd_mf y4 hf h1 h2 h3, mrd_mf y5 hf h1 h2 h3, mrd_mf y6 hf h1 h2 h3⟩
theorem mpx_mf {S F : List Nat} {I I1 : zJ} {b i : Nat} {f C : Nat → Int32} {cp ca : Nat} (h : mpx I b i f C cp ca) (hf : mf S F I I1) (h1 : 91 ∉ S) (h2 : 93 ∉ S) (h3 : 17 ∉ F) (h4 : 18 ∉ F) : mpx I1 b i f C cp ca := by
  unfold mpx
  rw [hf.1 91 (by decide) h1, hf.1 93 (by decide) h2, hf.2 17 h3, hf.2 18 h4]
  exact h
/-- a pixel comes -/
theorem m_come {P : zJ → Prop} {I : zJ} {b i : Nat} {v : Int32} (hb : b ≤ 4) (h19 : I 83 19 = nI (zcc b)) (hi : i < 64) (hP : ∀ I1, mf [91, 93] [] I I1 → (∀ f C cp ca, mpx I b i f C cp ca → mpx I1 b (i + 1) (zup f i v) (zup C (hsh b v) v) cp ca) → P I1) : c_M_come c J (nI i) v I P T := by
  have hsl := hsh_lt b hb v
  have hcc := (zcc_le hb).1
  refine t_M_come ⟨vp_in_nI hi (by decide), ?_⟩
  rw [nc (by omega)]
  refine nm_e ?_
  have e19 : (xup I 91 i v) 83 19 = nI (zcc b) := by rw [xup_k (by decide)]; exact h19
  have row : ∀ {I1 : zJ} {f : Nat → Int32}, I1 91 = (xup I 91 i v) 91 → (∀ k, k < i → I 91 k = f k) → ∀ k, k < i + 1 → I1 91 k = zup f i v k := by
    intro I1 f e h k hk
    rw [e]
    unfold zup
    by_cases e2 : k = i
    · subst e2; rw [xup_s, if_pos rfl]
    · rw [xup_i e2, if_neg e2]; exact h k (by omega)
  rw [e19]
  refine pk_le (zcc b) 0 (fun e => hP _ (mf_u mf_0 (by decide) (by decide)) fun f C cp ca hx => ?_) (fun e => ?_)
  · refine ⟨row rfl hx.1, fun z => ?_, ?_, ?_⟩
    · unfold zcc at e
      rw [if_neg (by omega)] at e
      have := Nat.two_pow_pos b
      omega
    · rw [xup_k (by decide)]; exact hx.2.2.1
    · rw [xup_k (by decide)]; exact hx.2.2.2
  · have hb0 : 0 < b := by
      rcases Nat.eq_zero_or_pos b with z | z
      · subst z; exact absurd e (by decide)
      · exact z
    have ez : zcc b = 2 ^ b := by unfold zcc; rw [if_neg (by omega)]
    rw [ez, f_mplace hb hb0, nc (by omega)]
    refine ⟨vp_in_nI hsl (by decide), hP _ (mf_u (mf_u mf_0 (by decide) (by decide)) (by decide) (by decide)) fun f C cp ca hx => ?_⟩
    refine ⟨row (xup_r (by decide)) hx.1, fun _ k hk => ?_, ?_, ?_⟩
    · unfold zup
      by_cases e2 : k = hsh b v
      · subst e2; rw [xup_s, if_pos rfl]
      · rw [xup_i e2, if_neg e2, xup_k (by decide)]; exact hx.2.1 hb0 k hk
    · rw [xup_k (by decide), xup_k (by decide)]; exact hx.2.2.1
    · rw [xup_k (by decide), xup_k (by decide)]; exact hx.2.2.2
end MI
