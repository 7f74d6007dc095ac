/-! The steps that touch cells. -/
/-- a word that holds in all that comes behind the law's start -/
def xk (X : xX) (w : Cond) : Prop := ∀ (s : State) (args : Array Value), X.s.WarmedH s.vm → w.before args s = true
/-- a class of ours -/
def xCls (X : xX) (ci : Nat) (C : String) (T : u_T) (N : Nat) (ty : Nat → FieldType) : Prop :=
  ci < 100 ∧ X.cl[ci]? = some (C, T, N) ∧ (∀ w ∈ u_ws C T N, xk X w) ∧ (∀ k, k < N → parseFieldDescriptor (T k).2.2.1 = some (ty k)) ∧ (∀ a, a < N → ∀ b, b < N → a ≠ b → (T a).2.1 ≠ (T b).2.1) ∧ (X.df ci).length = N ∧
  ∀ k, k < N → (X.df ci)[k]? = some (defaultValue (ty k))
/-- a field, by its link: 0 int, 1 reference (final), 2 boolean -/
def xFld (X : xX) (own : String) (k ci sl t : Nat) : Prop := ∃ (C : String) (T : u_T) (N : Nat) (ty : Nat → FieldType), xCls X ci C T N ty ∧ sl < N ∧ xk X (.fieldLink own k C (T sl).2.1 (T sl).2.2.1) ∧ (T sl).1 = C ∧
  (t ≠ 1 → (X.df ci)[sl]? = some (.int 0) ∧ (T sl).2.2.2 = false ∧ ((t = 0 ∧ ty sl = .int) ∨ (t = 2 ∧ ty sl = .boolean))) ∧ (t = 1 → own = C ∨ True) ∧ (t = 1 → (X.df ci)[sl]? = some .null) ∧
  (t = 1 → (T sl).2.2.2 = true ∧ ∀ a : Addr, narrow (ty sl) (.ref a) = .ref a ∧ fits (ty sl) (.ref a) = true)
/-- what the context gives -/
def xCtx (X : xX) : Prop := va_K X.D X.cl [] X.s ∧ (∀ ty, ty = .int ∨ ty = .boolean ∨ ty = .long → ArrOfT X.s (X.ca ty) ty ∧ X.s.vm.findClass ("[" ++ ty.toString) = some (X.ca ty) ∧ xk X (.arrayClass ty))
section XM
variable {l : Launch} {p : Program} {e : Env} {R : Room} {s : State} {m : MethodId} {args : Array Value} {below : List Frame} {meth : Method} {c : Code} {H : Heap} {locs : List Loc} {cells slots : Nat} {Q : State → Prop}
variable {X : xX} {cc : ByteArray} {pc : Nat} {ls : Array Slot} {rest : List Value} {h : xH}
theorem x_obj (hC : xCtx X) (hW : X.s.WarmedH s.vm) (hR : xRel X h H) {o ci : Nat} {rs : List Value} (ho : h.1[o]? = some (.inr (ci, rs))) {C : String} {T : u_T} {N : Nat} {ty : Nat → FieldType} (hc : xCls X ci C T N ty) :
    4 ≤ o ∧ rs.length = N ∧ (∀ (j : Nat) (x : Int32), (X.df ci)[j]? = some (Value.int x) → rs[j]? = some (Value.int x)) ∧ ∃ cell : Cell, H[X.ad o]? = some cell ∧ cell.cls = X.D.1 ci ∧ cell.vm = .none ∧ (∀ k, k < N → cell.slots[X.D.2 ci k]? = some (xfv X.ad rs (h.2.1 o) k)) ∧
      (∃ kC : Class, s.vm.findClass C = some (X.D.1 ci) ∧ s.vm.classes[X.D.1 ci]? = some kC ∧ kC.kind = .ordinary) ∧
      (∀ k, k < N → SlotIs s (T k).1 (T k).2.1 (T k).2.2.1 (X.D.2 ci k)) ∧ ∀ x y, x < N → y < N → x ≠ y → (X.D.2 ci) x ≠ (X.D.2 ci) y := by
  obtain ⟨h100, hcl, hws, hty, hnm, hdl, hdf⟩ := hc
  have hcell := hR.2.2.2.2 o _ ho
  unfold xcell at hcell
  obtain ⟨g4, -, g3⟩ := hcell
  obtain ⟨g5, g6, r, g7, cell, q1, q2, q3, q4⟩ := g3 h100
  cases hcl.symm.trans g7
  have hK : va_K X.D X.cl [] s := va_K.moved hW.alike hC.1
  obtain ⟨hS, hfc, kC, hkC, hkind⟩ := hK.1 ci _ hcl
  refine ⟨g4, by rw [g5, hdl], g6, cell, q1, q2, q3, q4, ⟨kC, hfc, hkC, hkind⟩, hS, ?_⟩
  exact va_apart (args := #[]) (own := C) (fun w hw => hws w hw s #[] hW) (fun w hw => hw) ty hty hnm hK hcl
theorem x_getf (hexec : p.tables.exec = Jvm.exec) (hb : c.code = cc) (hC : xCtx X) (hW : X.s.WarmedH s.vm) (hR : xRel X h H) {own : String} (hown : s.vm.findClass own = some m.cls) {k ci sl t o : Nat} (hF : xFld X own k ci sl t) {rs : List Value} (ho : h.1[o]? = some (.inr (ci, rs)))
    (hdg : decode cc pc = .ok (.getfield k, 3)) (kk : W p l e R s m args below meth c H locs cells slots Q (F0 m (pc + 3) ls (xfv X.ad rs (h.2.1 o) sl :: rest))) : W p l e R s m args below meth c H locs cells slots Q (F0 m pc ls (.ref (X.ad o) :: rest)) := by
  obtain ⟨C, T, N, ty, hc, hsl, hlk, hdecl, -⟩ := hF
  obtain ⟨-, -, -, cell, q1, q2, q3, q4, ⟨kC, hfc, hkC, hkind⟩, hS, -⟩ := x_obj hC hW hR ho hc
  obtain ⟨cf, kf, fi, f, hi, hsl'⟩ := hS sl hsl
  rw [hdecl] at hi
  refine W.getf hexec hb hown (hlk s args hW) hi (u_facts (args := args) hfc hkC (by have := u_lays (args := args) (fun w hw => hc.2.2.1 w hw s args hW) (fun w hw => hw) hsl; rw [hdecl] at this; exact this) hi).1 q1 (by rw [q3]; exact fun h => by cases h) (v := xfv X.ad rs (h.2.1 o) sl) ?_ rfl rfl hdg kk
  rw [hsl', q4 sl hsl]
theorem x_xfv_int {ad : Nat → Nat} {rs : List Value} {I : Nat → Int32} {j : Nat} {x : Int32} (hj : rs[j]? = some (Value.int x)) : xfv ad rs I j = .int (I j) := by
  unfold xfv; rw [hj]
theorem x_xfv_eq {ad : Nat → Nat} {rs : List Value} {I I' : Nat → Int32} {j : Nat} (hj : I j = I' j) : xfv ad rs I j = xfv ad rs I' j := by
  unfold xfv; rw [hj]
theorem x_getI (hexec : p.tables.exec = Jvm.exec) (hb : c.code = cc) (hC : xCtx X) (hW : X.s.WarmedH s.vm) (hR : xRel X h H) {own : String} (hown : s.vm.findClass own = some m.cls) {k ci sl t o : Nat} (hF : xFld X own k ci sl t) (ht : t ≠ 1) (ho : xOb h.1 o ci)
    (hdg : decode cc pc = .ok (.getfield k, 3)) (kk : W p l e R s m args below meth c H locs cells slots Q (F0 m (pc + 3) ls (.int (h.2.1 o sl) :: rest))) : W p l e R s m args below meth c H locs cells slots Q (F0 m pc ls (.ref (X.ad o) :: rest)) := by
  obtain ⟨rs, hrs⟩ := ho
  refine x_getf hexec hb hC hW hR hown hF hrs hdg ?_
  obtain ⟨C, T, N, ty, hc, hsl, hlk, hdecl, h1, -⟩ := hF
  obtain ⟨-, -, g6, -⟩ := x_obj hC hW hR hrs hc
  rw [x_xfv_int (g6 sl 0 (h1 ht).1)]
  exact kk
theorem x_getR (hexec : p.tables.exec = Jvm.exec) (hb : c.code = cc) (hC : xCtx X) (hW : X.s.WarmedH s.vm) (hR : xRel X h H) {own : String} (hown : s.vm.findClass own = some m.cls) {k ci sl t o : Nat} (hF : xFld X own k ci sl t) (ho : xRf h.1 o ci sl)
    (hdg : decode cc pc = .ok (.getfield k, 3)) (kk : W p l e R s m args below meth c H locs cells slots Q (F0 m (pc + 3) ls (.ref (X.ad (xrf h.1 o sl)) :: rest))) : W p l e R s m args below meth c H locs cells slots Q (F0 m pc ls (.ref (X.ad o) :: rest)) := by
  obtain ⟨rs, hrs, hsl⟩ := ho
  refine x_getf hexec hb hC hW hR hown hF hrs hdg ?_
  have : xfv X.ad rs (h.2.1 o) sl = .ref (X.ad (xrf h.1 o sl)) := by unfold xfv; rw [hsl]; rfl
  rw [this]
  exact kk
/-- an int or a boolean is put -/
theorem x_putI (hexec : p.tables.exec = Jvm.exec) (hb : c.code = cc) (hC : xCtx X) (hW : X.s.WarmedH s.vm) (hR : xRel X h H) {own : String} (hown : s.vm.findClass own = some m.cls) {k ci sl t o : Nat} (hF : xFld X own k ci sl t) (ht : t ≠ 1) (ho : xOb h.1 o ci) {x : Int32} (hx : t = 2 → x = 0 ∨ x = 1)
    (hdg : decode cc pc = .ok (.putfield k, 3)) (kk : ∀ (H1 : Heap) (q : Loc), X.s.heap.size ≤ q.base → xRel X (h.1, xup h.2.1 o sl x, h.2.2) H1 → W p l e R s m args below meth c H1 (locs ++ [q]) cells slots Q (F0 m (pc + 3) ls rest)) :
    W p l e R s m args below meth c H locs cells slots Q (F0 m pc ls (.int x :: .ref (X.ad o) :: rest)) := by
  obtain ⟨rs, hrs⟩ := ho
  obtain ⟨C, T, N, ty, hc, hsl, hlk, hdecl, h1, -⟩ := hF
  obtain ⟨h4, hlen, g6, cell, q1, q2, q3, q4, ⟨kC, hfc, hkC, hkind⟩, hS, hap⟩ := x_obj hC hW hR hrs hc
  obtain ⟨cf, kf, fi, f, hi, hsl'⟩ := hS sl hsl
  have hts : ∀ w ∈ u_ws C T N, w.before args s = true := fun w hw => hc.2.2.1 w hw s args hW
  have hlay := hts _ (u_in_lay hsl)
  unfold u_lay at hlay
  obtain ⟨hd1, hd2, hd3⟩ := h1 ht
  rw [if_neg (by rw [hd2]; decide)] at hlay
  have hst := (u_facts (args := args) hfc hkC (u_lays (args := args) hts (fun w hw => hw) hsl) hi).1
  have hnf : narrow (ty sl) (.int x) = .int x ∧ fits (ty sl) (.int x) = true := by
    rcases hd3 with ⟨-, e⟩ | ⟨t2, e⟩
    · rw [e]; exact ⟨rfl, rfl⟩
    · rw [e]
      rcases hx t2 with rfl | rfl
      · exact ⟨by decide +kernel, by decide +kernel⟩
      · exact ⟨by decide +kernel, by decide +kernel⟩
  have h6 := u_store (args := args) hfc hkC hkind hlay hi (hc.2.2.2.1 sl hsl) hnf.1 hnf.2
  rw [hdecl] at hi
  refine W.putK hexec hb (f := f) ⟨hown, hlk s args hW, ⟨_, _, _, hi⟩, hst⟩ (by rw [q2]; exact h6) q1 q3 (by rw [hsl']; exact k2_hasslot (q4 sl hsl)) rfl rfl hdg fun H' e1 e2 e3 => ?_
  rw [hsl'] at e1 ⊢
  refine kk H' _ (by show X.s.heap.size ≤ X.ad o; rw [xad_hi h4]; omega) ?_
  refine xRel_set (a := o) (z := .inr (ci, rs)) hR h4 rfl (fun k hk => ⟨rfl, funext fun b => by show (if k = o ∧ b = sl then x else h.2.1 k b) = _; rw [if_neg (fun q => hk q.1)], rfl⟩) hrs ?_ e2 e3
  have hz := hR.2.2.2.2 o _ hrs
  unfold xcell at hz ⊢
  refine ⟨h4, fun h9 => absurd h9 (by have := hc.1; show ¬ 100 ≤ ci; omega), fun h9 => ?_⟩
  obtain ⟨z1, z2, r, z3, -⟩ := hz.2.2 h9
  cases hc.2.1.symm.trans z3
  refine ⟨z1, z2, _, z3, t_OB.to (V := updV (xfv X.ad rs (h.2.1 o)) sl (.int x)) ⟨_, e1, q2, q3, t_set q4 hap hsl _⟩ (fun j hj => ?_)⟩
  unfold updV
  by_cases hjs : j = sl
  · subst hjs
    rw [if_pos rfl, x_xfv_int (g6 j 0 hd1)]
    show _ = Value.int (xup h.2.1 o j x o j)
    unfold xup
    rw [if_pos ⟨rfl, rfl⟩]
  · rw [if_neg hjs]
    exact x_xfv_eq (by show h.2.1 o j = xup h.2.1 o sl x o j; unfold xup; rw [if_neg (fun q => hjs q.2)])
/-- a reference is put, at the making -/
theorem x_putR (hexec : p.tables.exec = Jvm.exec) (hb : c.code = cc) (hC : xCtx X) (hW : X.s.WarmedH s.vm) (hR : xRel X h H) {own : String} (hown : s.vm.findClass own = some m.cls) (hin : meth.name = "<init>") {k ci sl o q : Nat} (hF : xFld X own k ci sl 1) (hoC : ∀ C T N ty, xCls X ci C T N ty → own = C) (ho : xOb h.1 o ci)
    (hdg : decode cc pc = .ok (.putfield k, 3)) (kk : ∀ (H1 : Heap) (z : Loc), X.s.heap.size ≤ z.base → xRel X (xsr h.1 o sl q, h.2.1, h.2.2) H1 → W p l e R s m args below meth c H1 (locs ++ [z]) cells slots Q (F0 m (pc + 3) ls rest)) :
    W p l e R s m args below meth c H locs cells slots Q (F0 m pc ls (.ref (X.ad q) :: .ref (X.ad o) :: rest)) := by
  obtain ⟨rs, hrs⟩ := ho
  obtain ⟨C, T, N, ty, hc, hsl, hlk, hdecl, -, -, hnl, hfz⟩ := hF
  obtain ⟨h4, hlen, g6, cell, q1, q2, q3, q4, ⟨kC, hfc, hkC, hkind⟩, hS, hap⟩ := x_obj hC hW hR hrs hc
  obtain ⟨cf, kf, fi, f, hi, hsl'⟩ := hS sl hsl
  have hts : ∀ w ∈ u_ws C T N, w.before args s = true := fun w hw => hc.2.2.1 w hw s args hW
  have hlay := hts _ (u_in_lay hsl)
  unfold u_lay at hlay
  obtain ⟨hd2, hd3⟩ := hfz rfl
  rw [if_pos hd2] at hlay
  have hst := (u_facts (args := args) hfc hkC (u_lays (args := args) hts (fun w hw => hw) hsl) hi).1
  have hcf : m.cls = cf := by
    obtain ⟨_, _, c', _, _, _, -, -, hf', -, -, -, hown2, -⟩ := Cond.laysFinal_spec hlay
    have e1 : c' = cf := by have := hi.symm.trans hf'; simp at this; exact this.1.symm
    rw [hdecl, ← hoC C T N ty hc] at hown2
    rw [← e1]; exact Option.some.inj (hown.symm.trans hown2)
  have h6 := u_fits (args := args) hfc hkC hkind (Or.inr hlay) hi (hc.2.2.2.1 sl hsl) (hd3 (X.ad q)).1 (hd3 (X.ad q)).2
  rw [hdecl] at hi
  refine W.putFinK hexec hb hown (hlk s args hW) hi hst hcf hin (by rw [q2]; exact h6) q1 q3 (by rw [hsl']; exact k2_hasslot (q4 sl hsl)) rfl rfl hdg fun H' e1 e2 e3 => ?_
  rw [hsl'] at e1 ⊢
  refine kk H' _ (by show X.s.heap.size ≤ X.ad o; rw [xad_hi h4]; omega) ?_
  have hol : o < h.1.length := (List.getElem?_eq_some_iff.mp hrs).1
  have hsr : xsr h.1 o sl q = h.1.set o (.inr (ci, rs.set sl (.ref q))) := by unfold xsr; rw [hrs]
  rw [hsr]
  refine xRel_set (a := o) (z := .inr (ci, rs.set sl (.ref q))) hR h4 (by simp) (fun k hk => ⟨by simp [List.getElem?_set, Ne.symm hk], rfl, rfl⟩) (by simp [List.getElem?_set, hol]) ?_ e2 e3
  have hz := hR.2.2.2.2 o _ hrs
  unfold xcell at hz ⊢
  refine ⟨h4, fun h9 => absurd h9 (by have := hc.1; show ¬ 100 ≤ ci; omega), fun h9 => ?_⟩
  obtain ⟨z1, z2, r, z3, -⟩ := hz.2.2 h9
  cases hc.2.1.symm.trans z3
  have hne : ∀ (j : Nat) (x : Int32), (X.df ci)[j]? = some (Value.int x) → j ≠ sl := fun j x hj e => by
    subst e
    rw [hnl rfl] at hj
    cases hj
  refine ⟨by simpa using z1, fun j x hj => ?_, _, z3, t_OB.to (V := updV (xfv X.ad rs (h.2.1 o)) sl (.ref (X.ad q))) ⟨_, e1, q2, q3, t_set q4 hap hsl _⟩ (fun j hj => ?_)⟩
  · show (rs.set sl (.ref q))[j]? = _
    rw [List.getElem?_set_ne (Ne.symm (hne j x hj))]
    exact z2 j x hj
  · unfold updV
    by_cases hjs : j = sl
    · subst hjs
      rw [if_pos rfl]
      unfold xfv
      have : (rs.set j (Value.ref q))[j]? = some (.ref q) := by rw [List.getElem?_set_self (by rw [hlen]; exact hsl)]
      simp only [this]
      rfl
    · rw [if_neg hjs]
      unfold xfv
      have : (rs.set sl (Value.ref q))[j]? = rs[j]? := by rw [List.getElem?_set_ne (Ne.symm hjs)]
      simp only [this]
end XM
