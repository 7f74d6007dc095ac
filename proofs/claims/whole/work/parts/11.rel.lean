/-! WHAT A HEAP IS TO THE PURE MACHINE'S. Places 0 .. 3 stood before the law's start, place k ≥ 4 is the cell made k - 4 cells behind the start. -/
def xad (s0 : State) (pre : Nat → Nat) (k : Nat) : Nat := if k < 4 then pre k else s0.heap.size + (k - 4)
def xva (ad : Nat → Nat) (v : Value) : Value := match v with
  | .ref k => .ref (ad k)
  | w => w
def xfv (ad : Nat → Nat) (rs : List Value) (I : Nat → Int32) (j : Nat) : Value := match rs[j]? with
  | some (.int _) => .int (I j)
  | some v => xva ad v
  | none => .null
def xav (ty : FieldType) (I : Nat → Int32) (J : Nat → Int64) (j : Nat) : Value := match ty with
  | .long => .long (J j)
  | _ => .int (I j)
/-- the fixed things: the law's start, the addresses before it, classes and slots, array classes, names of exceptions, fields at the making -/
abbrev xX : Type := State × (Nat → Nat) × va_G × List vw_C × (FieldType → ClassId) × (Nat → String) × xD
abbrev xX.s (X : xX) : State := X.1
abbrev xX.ad (X : xX) : Nat → Nat := xad X.1 X.2.1
abbrev xX.D (X : xX) : va_G := X.2.2.1
abbrev xX.cl (X : xX) : List vw_C := X.2.2.2.1
abbrev xX.ca (X : xX) : FieldType → ClassId := X.2.2.2.2.1
abbrev xX.ex (X : xX) : Nat → String := X.2.2.2.2.2.1
abbrev xX.df (X : xX) : xD := X.2.2.2.2.2.2
def xcell (X : xX) (H : Heap) (k : Nat) (z : xS) (I : Nat → Int32) (J : Nat → Int64) : Prop := match z with
  | .inl q => (k < 4 → q.1 = .int ∧ ∃ cell : Cell, H[X.ad k]? = some cell ∧ X.s.isArrayOf cell .int ∧ cell.vm ≠ .unknown ∧ cell.slots.size.toInt32 = nI q.2 ∧ q.2 ≤ cell.slots.size ∧ ∀ j, j < q.2 → cell.slots[j]? = some (.int (I j))) ∧
      (4 ≤ k → H[X.ad k]? = some (arrV (X.ca q.1) q.2 (xav q.1 I J)))
  | .inr q => 4 ≤ k ∧ (100 ≤ q.1 → ∃ ce : Cell, H[X.ad k]? = some ce ∧ ce.vm = .none ∧ X.s.vm.findClass (X.ex q.1) = some ce.cls) ∧
      (q.1 < 100 → q.2.length = (X.df q.1).length ∧ (∀ (j : Nat) (x : Int32), (X.df q.1)[j]? = some (Value.int x) → q.2[j]? = some (Value.int x)) ∧ ∃ r : vw_C, X.cl[q.1]? = some r ∧ t_OB (X.ad k) (X.D.1 q.1) r.2.2 (X.D.2 q.1) H (xfv X.ad q.2 I))
def xsz (X : xX) (z : xS) : Nat := match z with
  | .inl q => q.2
  | .inr q => if 100 ≤ q.1 then 6 else match X.cl[q.1]? with
    | some r => r.2.2
    | none => 0
def xsl (X : xX) (sh : List xS) : Nat := (sh.map (xsz X)).sum
def xRel (X : xX) (h : xH) (H : Heap) : Prop :=
  4 ≤ h.1.length ∧ H.size + 4 = X.s.heap.size + h.1.length ∧ (∀ q : Nat, q < X.s.heap.size → H[q]? = X.s.heap[q]?) ∧ (∀ k, k < 4 → X.ad k < X.s.heap.size) ∧ ∀ (k : Nat) (z : xS), h.1[k]? = some z → xcell X H k z (h.2.1 k) (h.2.2 k)
theorem xad_hi {X : xX} {k : Nat} (h : 4 ≤ k) : X.ad k = X.s.heap.size + (k - 4) := by
  show xad _ _ _ = _
  unfold xad
  rw [if_neg (by omega)]
theorem xad_ne {X : xX} {h : xH} {H : Heap} (hR : xRel X h H) {a k : Nat} (ha : 4 ≤ a) (hk : k ≠ a) : X.ad k ≠ X.ad a := by
  rw [xad_hi ha]
  by_cases h4 : k < 4
  · have := hR.2.2.2.1 k h4
    omega
  · rw [xad_hi (by omega)]
    omega
theorem xcell_kept {X : xX} {H H' : Heap} {k : Nat} {z : xS} {I : Nat → Int32} {J : Nat → Int64} (h : xcell X H k z I J) (e : H'[X.ad k]? = H[X.ad k]?) : xcell X H' k z I J := by
  unfold xcell at h ⊢
  cases z with
  | inl q =>
    dsimp only at h ⊢
    rw [e]
    exact h
  | inr q =>
    dsimp only at h ⊢
    refine ⟨h.1, fun g => by rw [e]; exact h.2.1 g, fun g => ?_⟩
    obtain ⟨h1, h2, r, h3, h4⟩ := h.2.2 g
    exact ⟨h1, h2, r, h3, h4.kept e⟩
/-- one cell is written -/
theorem xRel_set {X : xX} {h h' : xH} {H H' : Heap} {a : Nat} {z : xS} (hR : xRel X h H) (ha : 4 ≤ a) (hl : h'.1.length = h.1.length) (hs : ∀ k, k ≠ a → h'.1[k]? = h.1[k]? ∧ h'.2.1 k = h.2.1 k ∧ h'.2.2 k = h.2.2 k)
    (hz : h'.1[a]? = some z) (hc : xcell X H' a z (h'.2.1 a) (h'.2.2 a)) (e2 : H'.size = H.size) (e3 : ∀ q : Nat, q ≠ X.ad a → H'[q]? = H[q]?) : xRel X h' H' := by
  obtain ⟨r1, r2, r3, r4, r5⟩ := hR
  refine ⟨by omega, by omega, fun q hq => ?_, r4, fun k z' hz' => ?_⟩
  · rw [e3 q (by rw [xad_hi ha]; omega)]
    exact r3 q hq
  · by_cases hk : k = a
    · subst hk
      cases hz.symm.trans hz'
      exact hc
    · obtain ⟨g1, g2, g3⟩ := hs k hk
      rw [g1] at hz'
      rw [g2, g3]
      exact xcell_kept (r5 k z' hz') (e3 _ (xad_ne (X := X) (h := h) (H := H) ⟨r1, r2, r3, r4, r5⟩ ha hk))
/-- one cell more -/
theorem xRel_add {X : xX} {h h' : xH} {H H' : Heap} {z : xS} (hR : xRel X h H) (hl : h'.1 = h.1 ++ [z]) (hs : ∀ k, k < h.1.length → h'.2.1 k = h.2.1 k ∧ h'.2.2 k = h.2.2 k)
    (hc : xcell X H' h.1.length z (h'.2.1 h.1.length) (h'.2.2 h.1.length)) (e2 : H'.size = H.size + 1) (e3 : ∀ q : Nat, q < H.size → H'[q]? = H[q]?) : xRel X h' H' := by
  obtain ⟨r1, r2, r3, r4, r5⟩ := hR
  refine ⟨by rw [hl]; simp; omega, by rw [hl]; simp; omega, fun q hq => ?_, r4, fun k z' hz' => ?_⟩
  · rw [e3 q (by omega)]
    exact r3 q hq
  · rw [hl] at hz'
    by_cases hk : k < h.1.length
    · rw [List.getElem?_append_left hk] at hz'
      obtain ⟨g2, g3⟩ := hs k hk
      rw [g2, g3]
      refine xcell_kept (r5 k z' hz') (e3 _ ?_)
      by_cases h4 : k < 4
      · have := r4 k h4
        omega
      · rw [xad_hi (by omega)]
        omega
    · have hke : k = h.1.length := by
        have := (List.getElem?_eq_some_iff.mp hz').1
        simp at this
        omega
      subst hke
      rw [List.getElem?_append_right (Nat.le_refl _)] at hz'
      simp at hz'
      subst hz'
      exact hc
theorem xad_new {X : xX} {h : xH} {H : Heap} (hR : xRel X h H) : X.ad h.1.length = H.size := by
  obtain ⟨r1, r2, -⟩ := hR
  rw [xad_hi r1]
  omega
/-- a row's cell, for reading -/
theorem xrow {X : xX} {s : State} (hal : X.s.vm.Alike s.vm) {h : xH} {H : Heap} (hR : xRel X h H) (hca : ∀ ty, ty = .int ∨ ty = .boolean ∨ ty = .long → ArrOfT X.s (X.ca ty) ty) {a : Nat} {ty : FieldType} (hty : ty = .int ∨ ty = .boolean ∨ ty = .long) (ha : xA h.1 a ty) :
    ∃ cell : Cell, H[X.ad a]? = some cell ∧ s.isArrayOf cell ty ∧ cell.vm ≠ .unknown ∧ cell.slots.size.toInt32 = nI (xlen h.1 a) ∧ xlen h.1 a ≤ cell.slots.size ∧ ∀ j, j < xlen h.1 a → cell.slots[j]? = some (xav ty (h.2.1 a) (h.2.2 a) j) := by
  have hc := hR.2.2.2.2 a _ ha
  unfold xcell at hc
  by_cases h4 : a < 4
  · obtain ⟨q1, cell, c1, c2, c3, c4, c5, c6⟩ := hc.1 h4
    subst q1
    exact ⟨cell, c1, State.isArrayOf_alike hal c2, c3, c4, c5, fun j hj => c6 j hj⟩
  · have c1 := hc.2 (by omega)
    refine ⟨_, c1, State.isArrayOf_alike hal (hca ty hty _ _), (fun h => by cases h), (by rw [arrV_size]; rfl), (by rw [arrV_size]; exact Nat.le_refl _), fun j hj => arrV_read _ _ hj⟩
