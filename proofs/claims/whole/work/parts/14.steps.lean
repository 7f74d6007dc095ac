/-! Locals; the library's calls; static rows. -/
def xlv (ad : Nat → Nat) : Nat → List (Option Value) → List (Nat × Value)
  | _, [] => []
  | i, none :: r => xlv ad (i + 1) r
  | i, some v :: r => (i, xva ad v) :: xlv ad (i + 1) r
theorem xlv_mem {ad : Nat → Nat} {L : List (Option Value)} : ∀ {i : Nat} {q : Nat × Value}, q ∈ xlv ad i L ↔ ∃ (k : Nat) (v : Value), L[k]? = some (some v) ∧ q = (i + k, xva ad v) := by
  induction L with
  | nil => intro i q; simp [xlv]
  | cons a r ih =>
    intro i q
    cases a with
    | none =>
      simp only [xlv, ih]
      constructor
      · rintro ⟨k, v, h1, h2⟩
        exact ⟨k + 1, v, by simpa using h1, by rw [h2]; congr 1; omega⟩
      · rintro ⟨k, v, h1, h2⟩
        cases k with
        | zero => simp at h1
        | succ k => exact ⟨k, v, by simpa using h1, by rw [h2]; congr 1; omega⟩
    | some w =>
      simp only [xlv, List.mem_cons, ih]
      constructor
      · rintro (h | ⟨k, v, h1, h2⟩)
        · exact ⟨0, w, by simp, by rw [h]; simp⟩
        · exact ⟨k + 1, v, by simpa using h1, by rw [h2]; congr 1; omega⟩
      · rintro ⟨k, v, h1, h2⟩
        cases k with
        | zero =>
          simp at h1
          subst h1
          exact Or.inl (by rw [h2]; simp)
        | succ k => exact Or.inr ⟨k, v, by simpa using h1, by rw [h2]; congr 1; omega⟩
theorem xld_at {ad : Nat → Nat} {L : List (Option Value)} {ls : Array Slot} {n i : Nat} {v : Value} (h : lv_has ls n (xlv ad 0 L)) (hi : xld L i = some v) : ls[i]? = some (.val (xva ad v)) := by
  have hL : L[i]? = some (some v) := by
    unfold xld at hi
    split at hi
    · rename_i w hw; rw [hw]; cases hi; rfl
    · cases hi
  exact h.2.2 (i, xva ad v) (xlv_mem.mpr ⟨i, v, hL, by simp⟩)
theorem xnl_lt {L : List (Option Value)} {i : Nat} (h : xnl L i = true) : i < L.length := by
  unfold xnl at h
  split at h
  · cases h
  · rename_i hi; exact (List.getElem?_eq_some_iff.mp hi).1
  · rename_i hi; exact (List.getElem?_eq_some_iff.mp hi).1
theorem xva_cat (ad : Nat → Nat) (v : Value) : (xva ad v).category = v.category := by cases v <;> rfl
theorem xst_has {ad : Nat → Nat} {L : List (Option Value)} {ls : Array Slot} {n i : Nat} {v : Value} (hn : xnl L i = true)
    (h : lv_has ls n ((i, xva ad v) :: (xlv ad 0 L).filter (fun q => !(q.1 == i) && !(q.1 + 1 == i && q.2.category == 2)))) : lv_has ls n (xlv ad 0 (L.set i (some v))) := by
  refine ⟨h.1, h.2.1, fun q hq => h.2.2 q ?_⟩
  obtain ⟨k, w, hk, rfl⟩ := xlv_mem.mp hq
  by_cases hki : k = i
  · subst hki
    rw [List.getElem?_set_self (xnl_lt hn)] at hk
    cases hk
    simp
  · rw [List.getElem?_set_ne (Ne.symm hki)] at hk
    refine List.mem_cons_of_mem _ (List.mem_filter.mpr ⟨xlv_mem.mpr ⟨k, w, hk, rfl⟩, ?_⟩)
    have h1 : ¬ (0 + k = i) := by omega
    by_cases h2 : 0 + k + 1 = i
    · have hw : w.category ≠ 2 := by
        unfold xnl at hn
        cases i with
        | zero => omega
        | succ j =>
          have hj : k = j := by omega
          subst hj
          cases hL : L[k + 1]? with
          | none => rw [hL] at hn; cases hn
          | some z =>
            rw [hL] at hn
            dsimp only at hn
            rw [hk] at hn
            cases w <;> first | (intro h9; cases h9; done) | (cases hn; done) | (simp [Value.category]; done)
      have hw2 : ¬ (xva ad w).category = 2 := by rw [xva_cat]; exact hw
      simp [h1, hw2]
      omega
    · simp [h1, h2]
      omega
section XO
variable {l : Launch} {p : Program} {e : Env} {R : Room} {s : State} {m : MethodId} {args : Array Value} {below : List Frame} {meth : Method} {c : Code} {H : Heap} {locs : List Loc} {cells slots : Nat} {Q : State → Prop}
variable {X : xX} {cc : ByteArray} {pc : Nat} {ls : Array Slot} {rest : List Value} {h : xH}
/-- a static row, by its link -/
def xSta (X : xX) (own : String) (k a : Nat) : Prop := ∃ C n d : String, va_Z C n d (.ref (X.ad a)) (fun q => X.s.heap.size ≤ q) X.s X.s.heap ∧ (xk X (.fieldLink own k C n d) ∨ ∃ host : String, xk X (.fieldLinkNest own k C n d host))
theorem x_gets (hexec : p.tables.exec = Jvm.exec) (hb : c.code = cc) (hW : X.s.WarmedH s.vm) (hR : xRel X h H) {own : String} (hown : s.vm.findClass own = some m.cls) {k a : Nat} (hS : xSta X own k a) (hdg : decode cc pc = .ok (.getstatic k, 3))
    (kk : W p l e R s m args below meth c H locs cells slots Q (F0 m (pc + 3) ls (.ref (X.ad a) :: rest))) : W p l e R s m args below meth c H locs cells slots Q (F0 m pc ls rest) := by
  obtain ⟨C, n, d, hZ, hl⟩ := hS
  obtain ⟨cf, kf, fi, f, a1, cell, h1, h2, h3, h4, h5, h6, h7, h8⟩ := va_Z.moved hW.alike hZ
  have h5' : H[a1]? = some cell := by rw [hR.2.2.1 a1 (Array.getElem?_eq_some_iff.mp h5).1]; exact h5
  rcases hl with hl | ⟨host, hl⟩
  · exact W.gets hexec hb hown (hl s args hW) h1 h2 h3 h4 h5' (fun e => by rw [e] at h6; cases h6) h7 rfl hdg kk
  · exact va_WgetsN hexec hb hown (hl s args hW) h1 h2 h3 h4 h5' (fun e => by rw [e] at h6; cases h6) h7 rfl hdg kk
/-- the library's words -/
def xLib (X : xX) : Prop := xk X (.native arraycopyName) ∧ xk X (.static arraycopyName) ∧ xk X (.initialized "java/lang/System") ∧
  xk X (.static Lib.Math.min.name) ∧ xk X (.static Lib.Math.max.name) ∧ xk X (.static Lib.Math.abs.name) ∧ xk X (.initialized "java/lang/Math") ∧
  xk X (.code Lib.Math.min.name Lib.Math.min.code 2 (some .int)) ∧ xk X (.code Lib.Math.max.name Lib.Math.max.code 2 (some .int)) ∧ xk X (.code Lib.Math.abs.name Lib.Math.abs.code 1 (some .int)) ∧
  xk X (.instanceMethod Lib.objectInit) ∧ xk X (.code Lib.objectInit ⟨#[0xb1]⟩ 1 none)
theorem x_copy (hexec : p.tables.exec = Jvm.exec) (hb : c.code = cc) (hml : c.maxLocals = ls.size) (hC : xCtx X) (hB : xLib X) (hW : X.s.WarmedH s.vm) (hR : xRel X h H) {own : String} (hown : s.vm.findClass own = some m.cls) {k a b : Nat} {sp dp n : Int32} (hl : xk X (.methodLink own k arraycopyName)) (ha : xW h.1 a .int) (hb2 : xW h.1 b .int)
    (h1 : ¬ sp < 0) (h2 : ¬ dp < 0) (h3 : ¬ n < 0) (h4 : sp.toNatClampNeg + n.toNatClampNeg ≤ xlen h.1 a) (h5 : dp.toNatClampNeg + n.toNatClampNeg ≤ xlen h.1 b)
    (hframes : 1 ≤ R.frames) (hlocals : (rest.map fun v => v.category).sum + 18 ≤ R.locals) (hdg : decode cc pc = .ok (.invokestatic k, 3))
    (kk : ∀ (H1 : Heap) (L : List Loc), (∀ q ∈ L, X.s.heap.size ≤ q.base) → xRel X (h.1, xcpy h.2.1 a sp.toNatClampNeg b dp.toNatClampNeg n.toNatClampNeg, h.2.2) H1 → W p l e R s m args below meth c H1 (locs ++ L) cells slots Q (F0 m (pc + 3) ls rest)) :
    W p l e R s m args below meth c H locs cells slots Q (F0 m pc ls (.int n :: .int dp :: .ref (X.ad b) :: .int sp :: .ref (X.ad a) :: rest)) := by
  have nn : ∀ z : Int32, ¬ z < 0 → z.toInt = (z.toNatClampNeg : Int) := by
    intro z hz
    have hz0 : (0 : Int) ≤ z.toInt := by
      have := Int32.not_lt.mp hz
      simpa using Int32.le_iff_toInt_le.mp this
    show z.toInt = ((z.toInt.toNat : Nat) : Int)
    omega
  obtain ⟨hc0, hi0⟩ := x_wrow hC hW hR (Or.inl rfl) ha
  obtain ⟨hc1, hi1⟩ := x_wrow hC hW hR (Or.inl rfl) hb2
  intro T hT Y
  obtain ⟨-, k0, hk0, cm0, hkk0⟩ := hi0
  obtain ⟨-, k1, hk1, cm1, hkk1⟩ := hi1
  obtain ⟨vm', Y', step⟩ := Y.arraycopy hexec hown (hl s args hW) (hB.1 s args hW) (hB.2.1 s args hW) (hB.2.2.1 s args hW) (src := X.ad a) (dst := X.ad b) (srcPos := sp) (destPos := dp) (n := n) (by rw [hT]; exact hc0) (by rw [hT]; exact hc1)
    (fun _ h => by cases h) (fun _ h => by cases h) (fun h => by cases h) (fun h => by cases h) hk0 hk1 hkk0 hkk1 (by decide) h1 h2 h3
    (by rw [nn sp h1, nn n h3, arrV_size]; omega)
    (by rw [nn dp h2, nn n h3, arrV_size]; omega)
    (fun vm₁ _ i hi => by
      have e : (arrV (X.ca .int) (xlen h.1 a) (xav .int (h.2.1 a) (h.2.2 a))).slots.getD (sp.toNatClampNeg + i) .null = .int (h.2.1 a (sp.toNatClampNeg + i)) := by
        rw [Array.getD_eq_getD_getElem?, arrV_read _ _ (by omega)]
        rfl
      refine ⟨?_, ?_⟩
      · rw [e]; rfl
      · rw [e]; exact trivial)
    (g := F0 m pc ls (.int n :: .int dp :: .ref (X.ad b) :: .int sp :: .ref (X.ad a) :: rest)) rfl (by rw [hml]) (rest := rest) rfl (by rw [hb]; exact hdg) hframes (by show 2 * 0 + _ + (7 + 11) ≤ _; omega)
  have e1 : copied (arrV (X.ca .int) (xlen h.1 a) (xav .int (h.2.1 a) (h.2.2 a))) (arrV (X.ca .int) (xlen h.1 b) (xav .int (h.2.1 b) (h.2.2 b))) sp dp n = arrV (X.ca .int) (xlen h.1 b) (fun j => .int (va_cpy (h.2.1 a) (h.2.1 b) sp.toNatClampNeg dp.toNatClampNeg n.toNatClampNeg j)) := va_copied (fun z => .int z) (X.ca .int) (X.ca .int) (h.2.1 a) (h.2.1 b) h4
  rw [e1] at Y' step
  have hlt : X.ad b < H.size := (Array.getElem?_eq_some_iff.mp hc1).1
  have hres := kk (H.setIfInBounds (X.ad b) (arrV (X.ca .int) (xlen h.1 b) (fun j => .int (va_cpy (h.2.1 a) (h.2.1 b) sp.toNatClampNeg dp.toNatClampNeg n.toNatClampNeg j)))) _ ?_ ?_ _ ?_ Y'
  · obtain ⟨t, a1, b1⟩ := hres
    exact ⟨t, step t a1, b1⟩
  · intro q hq
    obtain ⟨z, -, hz⟩ := List.mem_map.mp hq
    rw [← hz]
    show X.s.heap.size ≤ X.ad b
    rw [xad_hi hb2.2]
    omega
  · refine x_rowset hR hb2 (fun k hk => ?_) (fun _ _ => rfl) ?_ (by simp) (fun q hq => by simp [Array.getElem?_setIfInBounds, Ne.symm hq])
    · funext i
      unfold xcpy
      rw [if_neg (fun q => hk q.1)]
    · have : (H.setIfInBounds (X.ad b) (arrV (X.ca .int) (xlen h.1 b) (fun j => .int (va_cpy (h.2.1 a) (h.2.1 b) sp.toNatClampNeg dp.toNatClampNeg n.toNatClampNeg j))))[X.ad b]? = some (arrV (X.ca .int) (xlen h.1 b) (fun j => .int (va_cpy (h.2.1 a) (h.2.1 b) sp.toNatClampNeg dp.toNatClampNeg n.toNatClampNeg j))) := by simp [Array.getElem?_setIfInBounds, hlt]
      rw [this]
      congr 2
      funext i
      unfold xav xcpy va_cpy
      simp
  · rw [← hT]; rfl
end XO
