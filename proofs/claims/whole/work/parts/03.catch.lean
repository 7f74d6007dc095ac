section XD
variable {l : Launch} {p : Program} {e : Env} {R : Room} {s : State} {m : MethodId} {args : Array Value} {below : List Frame} {meth : Method} {c : Code} {H : Heap} {locs : List Loc} {cells slots : Nat} {Q : State → Prop}

/-- the search in a table whose first entry covers the pc and links to a class that takes the object -/
theorem xfind {s : State} {f : JFrame} {a : Addr} {meth : Method} {c : Code} (hm : s.vm.method? f.method = some meth) (hc : meth.code = some c) {x : ExceptionTableEntry} {suf : List ExceptionTableEntry} (hsplit : c.exceptionTable.toList = x :: suf)
    (hx : covers x f.pc = true) (h0 : x.catchType ≠ 0) {k : ClassId} {cell : Cell} (hl : s.vm.ClassLinks e.platform f.method.cls x.catchType k) (hcell : s.heap[a]? = some cell) (hobj : ∀ z, cell.vm ≠ .statics z)
    (hk : ∃ q, s.vm.classes[cell.cls]? = some q) (hkc : ∃ q, s.vm.classes[k]? = some q) (hfit : s.vm.assignable cell.cls k = true)
    (Q : Handler → Pre) (E : CtlPost) (d : Bool) (acts : List Action) :
    wp (findHandler f a) Q E e d acts s ↔ Q (.found x.handlerPc) d acts (s.setVm (s.vm.noted f.method.cls x.catchType (.cls k))) := by
  rw [W.findHandler_eq hm hc, hsplit]
  simp only [covers] at hx
  obtain ⟨ha, ht⟩ := (resolveClass_links e.toSetting hl).op (op := VmOp.resolveClass f.method.cls x.catchType) rfl
  have hal : s.vm.Alike (s.vm.noted f.method.cls x.catchType (.cls k)) := (Vm.Alike.refl s.vm).noted _ _ _
  obtain ⟨k1, hk1⟩ := hk
  obtain ⟨k2, hk2⟩ := hkc
  obtain ⟨k1', hk1', -⟩ := hal.2.2 _ _ hk1
  obtain ⟨k2', hk2', -⟩ := hal.2.2 _ _ hk2
  have hfit' : (s.vm.noted f.method.cls x.catchType (.cls k)).assignable cell.cls k = true := by rw [hal.assignable]; exact hfit
  simp [findHandler.go, hx, h0, ha, ht, hcell, hobj, hk1', hk2', hfit', VmOp.dirties, VmOp.acts]

/-- the search in a table whose first entry covers the pc and doesn't take the object, and whose second does -/
theorem xfind2 {s : State} {f : JFrame} {a : Addr} {meth : Method} {c : Code} (hm : s.vm.method? f.method = some meth) (hc : meth.code = some c) {x y : ExceptionTableEntry} {suf : List ExceptionTableEntry} (hsplit : c.exceptionTable.toList = x :: y :: suf)
    (hx : covers x f.pc = true) (hy : covers y f.pc = true) (h0 : x.catchType ≠ 0) (h02 : y.catchType ≠ 0) {k k2 : ClassId} {cell : Cell} (hl : s.vm.ClassLinks e.platform f.method.cls x.catchType k) (hl2 : (s.vm.noted f.method.cls x.catchType (.cls k)).ClassLinks e.platform f.method.cls y.catchType k2) (hcell : s.heap[a]? = some cell) (hobj : ∀ z, cell.vm ≠ .statics z)
    (hk : ∃ q, s.vm.classes[cell.cls]? = some q) (hkc : ∃ q, s.vm.classes[k]? = some q) (hkc2 : ∃ q, s.vm.classes[k2]? = some q) (hno : s.vm.assignable cell.cls k = false) (hfit : s.vm.assignable cell.cls k2 = true)
    (Q : Handler → Pre) (E : CtlPost) (d : Bool) (acts : List Action) :
    wp (findHandler f a) Q E e d acts s ↔ Q (.found y.handlerPc) d acts (s.setVm ((s.vm.noted f.method.cls x.catchType (.cls k)).noted f.method.cls y.catchType (.cls k2))) := by
  rw [W.findHandler_eq hm hc, hsplit]
  simp only [covers] at hx hy
  obtain ⟨ha, ht⟩ := (resolveClass_links e.toSetting hl).op (op := VmOp.resolveClass f.method.cls x.catchType) rfl
  obtain ⟨ha2, ht2⟩ := (resolveClass_links e.toSetting hl2).op (op := VmOp.resolveClass f.method.cls y.catchType) rfl
  have hal : s.vm.Alike (s.vm.noted f.method.cls x.catchType (.cls k)) := (Vm.Alike.refl s.vm).noted _ _ _
  have hal2 : s.vm.Alike ((s.vm.noted f.method.cls x.catchType (.cls k)).noted f.method.cls y.catchType (.cls k2)) := hal.noted _ _ _
  obtain ⟨k1, hk1⟩ := hk
  obtain ⟨k3, hk3⟩ := hkc
  obtain ⟨k4, hk4⟩ := hkc2
  obtain ⟨k1', hk1', -⟩ := hal.2.2 _ _ hk1
  obtain ⟨k3', hk3', -⟩ := hal.2.2 _ _ hk3
  obtain ⟨k1'', hk1'', -⟩ := hal2.2.2 _ _ hk1
  obtain ⟨k4', hk4', -⟩ := hal2.2.2 _ _ hk4
  have hno' : (s.vm.noted f.method.cls x.catchType (.cls k)).assignable cell.cls k = false := by rw [hal.assignable]; exact hno
  have hfit' : ((s.vm.noted f.method.cls x.catchType (.cls k)).noted f.method.cls y.catchType (.cls k2)).assignable cell.cls k2 = true := by rw [hal2.assignable]; exact hfit
  simp [findHandler.go, hx, hy, h0, h02, ha, ht, ha2, ht2, hcell, hobj, hk1', hk3', hk1'', hk4', hno', hfit', VmOp.dirties, VmOp.acts]
  exact Iff.rfl

theorem xcaught {s target : State} {tb : Tables} {g : JFrame} {c : Code} {a : Addr} (h : At s g.method c below) {pc : Nat} {vm' : Vm}
    (hfind : ∀ (Q : Handler → Pre) (E : CtlPost) (d : Bool) (acts : List Action), wp (findHandler g a) Q E e d acts ((s.setTop g).pushFrame (.throwing a)) ↔ Q (.found pc) d acts (((s.setTop g).pushFrame (.throwing a)).setVm vm'))
    (hrest : Steps tb e below ((s.setVm vm').setTop { g with pc := pc, stack := [.ref a] }) target) :
    Steps tb e below ((s.setTop g).pushFrame (.throwing a)) target := by
  obtain ⟨hgo, hw⟩ := h.throwing a
  refine Steps.head hgo hw ?_
  have hone : ∀ r, (stepThrowing e ((s.setTop g).pushFrame (.throwing a)) a (.java g :: r)).Is ((((s.setTop g).pushFrame (.throwing a)).setVm vm').setFrames (.java { g with pc := pc, stack := [.ref a] } :: r)) [] := by
    intro r
    simp only [stepThrowing, searchFrame, vmDo]
    generalize hr : Sem.go _ e false [] ((s.setTop g).pushFrame (.throwing a)) = res
    obtain ⟨as, rfl, ha⟩ := Sem.eq_ok_of hr (a := Handler.found pc) (s' := ((s.setTop g).pushFrame (.throwing a)).setVm vm') (acts' := []) (by simp [hfind _ _ _ _])
    exact ⟨rfl, ha⟩
  rw [stepThread_throwing (frames_entered h.top _), (hone _).1]
  obtain ⟨g₀, hg⟩ := Option.isSome_iff_exists.mp h.top
  obtain ⟨r, hr⟩ := State.topJava?_eq_some.mp hg
  have hr' : (s.setVm vm').frames = .java g₀ :: r := hr
  rw [State.setTop_of_frames _ hr'] at hrest
  have hsw : ∀ (u : State) (F G : List Frame), ((u.setFrames F).setVm vm').setFrames G = (u.setVm vm').setFrames G := fun u F G => by
    have h1 : (u.setFrames F).setVm vm' = (u.setVm vm').setFrames F := rfl
    rw [h1, State.setFrames_setFrames]
  rw [hr, List.tail_cons, State.pushFrame, hsw, State.setTop_of_frames _ hr, hsw]
  exact hrest

/-- caught by the first entry of the method's own table, which names the thrown object's own class -/
theorem xT_catch {own name : String} {x : ExceptionTableEntry} {suf : List ExceptionTableEntry} {ce : Cell} {q : Addr} {pc : Nat} {ls : Array Slot} {rest : List Value} (hown : s.vm.findClass own = some m.cls) (hsplit : c.exceptionTable.toList = x :: suf)
    (hx : covers x pc = true) (h0 : x.catchType ≠ 0) (hlink : (Cond.classLink own x.catchType name).before args s = true) (hcast : (Cond.castable name name).before args s = true)
    (hcell : H[q]? = some ce) (hv : ce.vm = .none) (hcl : s.vm.findClass name = some ce.cls)
    (kk : W p l e R s m args below meth c H locs cells slots Q (F0 m x.handlerPc ls [.ref q])) : xT p l e R s m args below meth c H locs cells slots Q (F0 m pc ls rest) q := by
  intro T hT X
  have hpl : e.platform.magicAccessors = ({} : Platform).magicAccessors := by rw [X.admits.platform]
  obtain ⟨c3, c4, hc3, hc4, hasg⟩ := Cond.castable_spec hcast
  cases Option.some.inj (hc3.symm.trans hcl)
  cases Option.some.inj (hc4.symm.trans hcl)
  obtain ⟨c5, hc5, hcl5⟩ := Cond.classLink_spec hown hlink e.platform hpl
  cases Option.some.inj (hc5.symm.trans hcl)
  obtain ⟨dk, _, _, kt, hd, _, _, _, _, hkt, _, hopen⟩ := hcl5.here
  have hal := X.warmed.alike
  obtain ⟨kt', hkt', -⟩ := hal.2.2 _ _ hkt
  have hW' := X.warmed.noted hd hopen (State.rightAt_cls hcl5)
  have X' := X.noted hW'
  obtain ⟨t, a1, b1⟩ := kk (T.setVm (T.vm.noted m.cls x.catchType (Resolved.cls ce.cls))) hT X'
  refine ⟨t, xcaught (g := F0 m pc ls rest) X.here (fun Q E d acts => ?_) a1, b1⟩
  have hfv : ((T.setTop (F0 m pc ls rest)).pushFrame (.throwing q)).vm = T.vm := throwing_vm _ _ _
  have hfh : ((T.setTop (F0 m pc ls rest)).pushFrame (.throwing q)).heap = T.heap := throwing_heap _ _ _
  have := xfind (e := e) (s := (T.setTop (F0 m pc ls rest)).pushFrame (.throwing q)) (f := F0 m pc ls rest) (a := q) (meth := meth) (c := c) (by rw [hfv]; exact X.method') X.code hsplit hx h0 (k := ce.cls) (cell := ce)
    (by rw [hfv]; exact X.warmed.classLinks hcl5) (by rw [hfh, hT]; exact hcell) (fun z h => by rw [hv] at h; cases h) ⟨kt', by rw [hfv]; exact hkt'⟩ ⟨kt', by rw [hfv]; exact hkt'⟩ (by rw [hfv, hal.assignable]; exact hasg) Q E d acts
  rw [hfv] at this
  exact this
/-- caught by the second entry of the method's own table, which names the thrown object's own class; the first names one that the object is none of -/
theorem xT_catch2 {own name name2 : String} {x y : ExceptionTableEntry} {suf : List ExceptionTableEntry} {ce : Cell} {q : Addr} {pc : Nat} {ls : Array Slot} {rest : List Value} (hown : s.vm.findClass own = some m.cls) (hsplit : c.exceptionTable.toList = x :: y :: suf)
    (hx : covers x pc = true) (hy : covers y pc = true) (h0 : x.catchType ≠ 0) (h02 : y.catchType ≠ 0) (hlink : (Cond.classLink own x.catchType name).before args s = true) (hlink2 : (Cond.classLink own y.catchType name2).before args s = true) (hcast : (Cond.castable name2 name2).before args s = true)
    (hno : ∀ c1 c2, s.vm.findClass name2 = some c1 → s.vm.findClass name = some c2 → s.vm.assignable c1 c2 = false)
    (hcell : H[q]? = some ce) (hv : ce.vm = .none) (hcl : s.vm.findClass name2 = some ce.cls)
    (kk : W p l e R s m args below meth c H locs cells slots Q (F0 m y.handlerPc ls [.ref q])) : xT p l e R s m args below meth c H locs cells slots Q (F0 m pc ls rest) q := by
  intro T hT X
  have hpl : e.platform.magicAccessors = ({} : Platform).magicAccessors := by rw [X.admits.platform]
  obtain ⟨c3, c4, hc3, hc4, hasg⟩ := Cond.castable_spec hcast
  cases Option.some.inj (hc3.symm.trans hcl)
  cases Option.some.inj (hc4.symm.trans hcl)
  obtain ⟨k1, hc5, hcl5⟩ := Cond.classLink_spec hown hlink e.platform hpl
  obtain ⟨k2, hc6, hcl6⟩ := Cond.classLink_spec hown hlink2 e.platform hpl
  cases Option.some.inj (hc6.symm.trans hcl)
  obtain ⟨dk, _, _, kt, hd, _, _, _, _, hkt, _, hopen⟩ := hcl5.here
  obtain ⟨dk2, _, _, kt2, hd2, _, _, _, _, hkt2, _, hopen2⟩ := hcl6.here
  have hal := X.warmed.alike
  obtain ⟨kt', hkt', -⟩ := hal.2.2 _ _ hkt
  obtain ⟨kt2', hkt2', -⟩ := hal.2.2 _ _ hkt2
  have hW1 := X.warmed.noted hd hopen (State.rightAt_cls hcl5)
  have X1 := X.noted hW1
  have hW2 := X1.warmed.noted hd2 hopen2 (State.rightAt_cls hcl6)
  have X2 := X1.noted hW2
  obtain ⟨t, a1, b1⟩ := kk ((T.setVm (T.vm.noted m.cls x.catchType (Resolved.cls k1))).setVm ((T.vm.noted m.cls x.catchType (Resolved.cls k1)).noted m.cls y.catchType (Resolved.cls ce.cls))) hT X2
  refine ⟨t, xcaught (g := F0 m pc ls rest) (vm' := (T.vm.noted m.cls x.catchType (Resolved.cls k1)).noted m.cls y.catchType (Resolved.cls ce.cls)) X.here (fun Q E d acts => ?_) a1, b1⟩
  have hfv : ((T.setTop (F0 m pc ls rest)).pushFrame (.throwing q)).vm = T.vm := throwing_vm _ _ _
  have hfh : ((T.setTop (F0 m pc ls rest)).pushFrame (.throwing q)).heap = T.heap := throwing_heap _ _ _
  have := xfind2 (e := e) (s := (T.setTop (F0 m pc ls rest)).pushFrame (.throwing q)) (f := F0 m pc ls rest) (a := q) (meth := meth) (c := c) (by rw [hfv]; exact X.method') X.code hsplit hx hy h0 h02 (k := k1) (k2 := ce.cls) (cell := ce)
    (by rw [hfv]; exact X.warmed.classLinks hcl5) (by rw [hfv]; exact X1.warmed.classLinks hcl6) (by rw [hfh, hT]; exact hcell) (fun z h => by rw [hv] at h; cases h) ⟨kt2', by rw [hfv]; exact hkt2'⟩ ⟨kt', by rw [hfv]; exact hkt'⟩ ⟨kt2', by rw [hfv]; exact hkt2'⟩ (by rw [hfv, hal.assignable]; exact hno _ _ hcl hc5) (by rw [hfv, hal.assignable]; exact hasg) Q E d acts
  rw [hfv] at this
  exact this
end XD
