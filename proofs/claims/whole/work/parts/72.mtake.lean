/-! THE REFERENCE TAKES TRANSFORMS. -/
def tml (I : zJ) (s : zTr) (h : Nat) (q : Nat × Nat) : Prop := (q.1 = 0 → ∀ j, j < bl q.2 * bl h → I 96 j = nI (pN (s.2.1 j) 1 % 16)) ∧ (q.1 = 1 → ∀ j, j < bl q.2 * bl h → I 97 j = s.2.2.1 j) ∧ (q.1 = 3 → I 83 26 = nI s.2.2.2.2 ∧ ∀ j, j < s.2.2.2.2 → I 98 j = s.2.2.2.1 j)
def mtr (I : zJ) (s : zTr) (h : Nat) : Prop := I 83 22 = nI s.1.length ∧ (∀ i q, s.1[i]? = some q → I 94 i = nI q.1 ∧ I 95 i = nI q.2) ∧ ∀ q, q ∈ s.1 → tml I s h q
abbrev mtS : List Nat := [87, 89, 90, 91, 93, 94, 95, 96, 97, 98]
abbrev mtF : List Nat := [8, 9, 17, 18, 19, 22, 26]
theorem mtr_mf {S F : List Nat} {I I1 : zJ} {s : zTr} {h : Nat} (hm : mtr I s h) (hf : mf S F I I1) (h1 : 94 ∉ S) (h2 : 95 ∉ S) (h3 : 96 ∉ S) (h4 : 97 ∉ S) (h5 : 98 ∉ S) (h6 : 22 ∉ F) (h7 : 26 ∉ F) : mtr I1 s h := by
  unfold mtr tml
  rw [hf.1 94 (by decide) h1, hf.1 95 (by decide) h2, hf.1 96 (by decide) h3, hf.1 97 (by decide) h4, hf.1 98 (by decide) h5, hf.2 22 h6, hf.2 26 h7]
  exact hm
section MTK
variable {c : zC} {J : zK} {n : Nat} {B : Nat → Int32} {T : Nat → zJ → Prop}
theorem v_hasM {P : Int32 → zJ → Prop} {I : zJ} {ks : List (Nat × Nat)} {k : Nat} (hk : k < 2 ^ 31) (h1 : I 83 22 = nI ks.length) (h2 : ∀ i q, ks[i]? = some q → I 94 i = nI q.1) (h3 : ∀ q, q ∈ ks → q.1 < 4) (hl : ks.length ≤ 4) (hT : hask ks k = true → P (nI 1) I) (hF : ¬ hask ks k = true → P (nI 0) I) : c_M_hasKind c J (nI k) I P T := by
  have key : ∀ (m i b : Nat), i + m = ks.length → (b = 1 ∧ (∃ j q, j < i ∧ ks[j]? = some q ∧ q.1 = k) ∨ b = 0 ∧ ¬ ∃ j q, j < i ∧ ks[j]? = some q ∧ q.1 = k) → g_M_hasKind_4 c J (nI k) (nI b) (nI i) I P T := by
    intro m
    induction m with
    | zero =>
      intro i b hi hb
      refine t_M_hasKind_4 ?_
      rw [h1]
      refine br_t (nI_le (by omega) (by omega)) ?_
      rcases hb with ⟨rfl, e⟩ | ⟨rfl, e⟩
      · refine ⟨by decide, hT ?_⟩
        obtain ⟨j, q, hj, hq, ek⟩ := e
        unfold hask
        rw [List.any_eq_true]
        exact ⟨q, List.mem_of_getElem? hq, by rw [ek]; exact beq_self_eq_true k⟩
      · refine ⟨by decide, hF fun z => e ?_⟩
        obtain ⟨q, hq, ek⟩ := hask_t z
        obtain ⟨j, hj⟩ := List.mem_iff_getElem?.mp hq
        have hj2 := (List.getElem?_eq_some_iff.mp hj).1
        exact ⟨j, q, by omega, hj, ek⟩
    | succ m ih =>
      intro i b hi hb
      have hil : i < ks.length := by omega
      have hgi := List.getElem?_eq_getElem hil
      have e2 := h2 i _ hgi
      have h4 := h3 _ (List.getElem_mem hil)
      refine t_M_hasKind_4 ?_
      rw [h1, nc (by omega), e2, nI_add]
      refine br_f (nI_ge hil (by omega)) ?_
      rcases hb with ⟨rfl, e⟩ | ⟨rfl, e⟩
      · obtain ⟨j, q, hj, hq, ek⟩ := e
        exact br_f (by decide) (ih (i + 1) 1 (by omega) (Or.inl ⟨rfl, j, q, by omega, hq, ek⟩))
      · refine br_t rfl ⟨vp_in_nI (by omega) (by decide), pk_eq (ks[i]).1 k (fun ek => ih (i + 1) 1 (by omega) (Or.inl ⟨rfl, i, _, by omega, hgi, ek⟩)) (fun ek => ih (i + 1) 0 (by omega) (Or.inr ⟨rfl, ?_⟩))⟩
        rintro ⟨j, q, hj, hq, ek2⟩
        by_cases ej : j = i
        · subst ej
          rw [hgi] at hq
          injection hq with hq
          rw [← hq] at ek2
          exact ek ek2
        · exact e ⟨j, q, by omega, hq, ek2⟩
  exact t_M_hasKind (key ks.length 0 0 (by omega) (Or.inr ⟨rfl, by rintro ⟨j, q, hj, _⟩; omega⟩))
theorem z_bl3 {w : Nat} (hw : w ≤ 8) : (nI w + nI 3) / nI 4 = nI (bl w) := by
  have key : ∀ w, w < 9 → (nI w + nI 3) / nI 4 = nI (bl w) := by decide
  exact key w (by omega)
/-- modes or deltas kept -/
theorem l_m89 {P : Int32 → zJ → Prop} {I0 : zJ} {w h kind : Nat} (hw : w ≤ 8) (hh : h ≤ 8) (hk : kind < 2)
    (hP : ∀ I1, mf [96, 97] [] I0 I1 → (kind = 0 → I1 97 = I0 97 ∧ ∀ j, j < bl w * bl h → I1 96 j = nI (pN (I0 91 j) 1 % 16)) → (kind = 1 → I1 96 = I0 96 ∧ ∀ j, j < bl w * bl h → I1 97 j = I0 91 j) → P (nI w) I1) :
    ∀ (m k : Nat) (I : zJ), k + m = bl w * bl h → mf [96, 97] [] I0 I → (kind = 0 → I 97 = I0 97 ∧ ∀ j, j < k → I 96 j = nI (pN (I0 91 j) 1 % 16)) → (kind = 1 → I 96 = I0 96 ∧ ∀ j, j < k → I 97 j = I0 91 j) → g_M_readTransform_89 c J (nI w) (nI h) (nI kind) (nI k) I P T := by
  have hb4 := bl_le hw hh
  intro m
  induction m with
  | zero =>
    intro k I hk2 hf h0 h1
    obtain rfl : k = bl w * bl h := by omega
    refine t_M_readTransform_89 ?_
    rw [z_bl3 hw, z_bl3 hh, pk_mul]
    exact br_t (nI_le (Nat.le_refl _) (by omega)) (hP I hf h0 h1)
  | succ m ih =>
    intro k I hk2 hf h0 h1
    have r91 : I 91 = I0 91 := hf.1 91 (by decide) (by decide)
    refine t_M_readTransform_89 ?_
    rw [z_bl3 hw, z_bl3 hh, pk_mul, nc (by omega), nI_add]
    refine br_f (nI_ge (by omega) (by omega)) (pk_eq kind 0 (fun e => ⟨vp_in_nI (by omega) (by decide), vp_in_nI (by omega) (by decide), nm_e (br_f (by rw [nI_eq (by omega) (by decide)]; omega) ⟨vp_in_nI (by omega) (by decide), vp_in_nI (by omega) (by decide), ?_⟩)⟩) (fun e => ⟨vp_in_nI (by omega) (by decide), vp_in_nI (by omega) (by decide), nm_e (br_t (by rw [nI_eq (by omega) (by decide)]; omega) ⟨vp_in_nI (by omega) (by decide), vp_in_nI (by omega) (by decide), ?_⟩)⟩))
    · rw [xup_id rfl]
      have ev : ((I 91 k >>> (nI 8 * nI 1 &&& 31)) &&& nI 255) - ((I 91 k >>> (nI 8 * nI 1 &&& 31)) &&& nI 255) / nI 16 * nI 16 = nI (pN (I0 91 k) 1 % 16) := by
        rw [show (I 91 k >>> (nI 8 * nI 1 &&& 31)) &&& nI 255 = pt (I 91 k) 1 from pt_M _ 1 (by decide), r91]
        exact pk_rem (Nat.lt_trans (pN_lt _ _) (by decide)) (by decide) (by decide)
      rw [ev]
      refine ih (k + 1) _ (by omega) (mf_u hf (by decide) (by decide)) (fun _ => ⟨?_, fun j hj => ?_⟩) (fun z => by omega)
      · rw [xup_r (by decide)]; exact (h0 e).1
      · by_cases ej : j = k
        · subst ej; rw [xup_s]
        · rw [xup_i ej]; exact (h0 e).2 j (by omega)
    · rw [xup_id rfl]
      refine ih (k + 1) _ (by omega) (mf_u hf (by decide) (by decide)) (fun z => absurd z e) (fun z => ⟨?_, fun j hj => ?_⟩)
      · rw [xup_r (by decide)]; exact (h1 z).1
      · by_cases ej : j = k
        · subst ej; rw [xup_s, r91]
        · rw [xup_i ej]; exact (h1 z).2 j (by omega)
/-- the palette's colours summed up -/
theorem l_m204 {P : Int32 → zJ → Prop} {I0 : zJ} {w pn : Nat} (hw : w ≤ 8) (hn : pn ≤ 16) (h26 : I0 83 26 = nI pn) (hP : ∀ I1, mf [98] [] I0 I1 → (∀ j, j < pn → I1 98 j = psums (I0 91) j) → P (nI (pkw w pn)) I1) :
    ∀ (m k : Nat) (I : zJ), k + m = pn → mf [98] [] I0 I → (∀ j, j < k → I 98 j = psums (I0 91) j) → g_M_readTransform_204 c J (nI w) (nI k) I P T := by
  intro m
  induction m with
  | zero =>
    intro k I hk hf hj
    obtain rfl : k = pn := by omega
    refine t_M_readTransform_204 ?_
    rw [hf.2 26 (by decide), h26, f_packed hw hn]
    exact br_t (nI_le (Nat.le_refl _) (by omega)) (hP I hf hj)
  | succ m ih =>
    intro k I hk hf hj
    have r91 : I 91 = I0 91 := hf.1 91 (by decide) (by decide)
    refine t_M_readTransform_204 ?_
    rw [hf.2 26 (by decide), h26, nI_add, nc (by omega)]
    refine br_f (nI_ge (by omega) (by omega)) (pk_eq k 0 (fun e => ⟨vp_in_nI (by omega) (by decide), ?_⟩) (fun e => ?_))
    · subst e
      refine ih 1 _ (by omega) (mf_u hf (by decide) (by decide)) (fun j hj2 => ?_)
      obtain rfl : j = 0 := by omega
      rw [xup_s, r91]; rfl
    · rw [pk_sub (by omega), nc (by omega), hj (k - 1) (by omega), r91]
      refine ⟨vp_in_nI (by omega) (by decide), vp_in_nI (by omega) (by decide), v_M_plus' ⟨vp_in_nI (by omega) (by decide), ih (k + 1) _ (by omega) (mf_u hf (by decide) (by decide)) (fun j hj2 => ?_)⟩⟩
      by_cases ej : j = k
      · subst ej
        obtain ⟨z, rfl⟩ : ∃ z, j = z + 1 := ⟨j - 1, by omega⟩
        rw [xup_s, psum_c]; rfl
      · rw [xup_i ej]; exact hj j (by omega)
end MTK
