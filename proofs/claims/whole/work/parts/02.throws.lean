section XB
variable {l : Launch} {p : Program} {e : Env} {R : Room} {s : State} {m : MethodId} {args : Array Value} {below : List Frame} {meth : Method} {c : Code} {H : Heap} {locs : List Loc} {cells slots : Nat} {Q : State → Prop}

theorem xhears {T : State} (hW : s.WarmedH T.vm) (h : s.hears m below = true) {fs : List Frame} : (T.setFrames fs).hears m below = true := by
  have hal := hW.alike
  have hc : ∀ q, (T.setFrames fs).code? q = s.code? q := fun q => by rw [State.code?_eq, State.code?_eq]; show Option.bind (T.vm.method? q) _ = _; rw [hal.method?]
  have hm : (T.setFrames fs).vm.method? m = s.vm.method? m := by show T.vm.method? m = _; rw [hal.method?]
  unfold State.hears at h ⊢
  rw [hm]
  simp only [hc]
  exact h

/-- the walk seen from here: the state at hand is the start -/
theorem xrebase {T : State} (X : Stand p l e R s m args below meth c T locs cells slots) {R' : Room} (h1 : R'.frames ≤ R.frames) (h2 : R'.locals ≤ R.locals) (h3 : cells + R'.cells ≤ R.cells) (h4 : slots + R'.slots ≤ R.slots) :
    Stand p l e R' (T.setFrames (.invoking m args :: below)) m args below meth c T [] 0 0 := by
  obtain ⟨g₀, hfr⟩ := X.frames_eq
  have hcur : T.cur < T.threads.size := State.cur_lt_of_frames hfr
  have hF : (T.setFrames (.invoking m args :: below)).frames = .invoking m args :: below := State.frames_setFrames _ hcur
  obtain ⟨t, ht, -⟩ := State.frames_cons hF
  have hm' : T.vm.method? m = some meth := X.method'
  have hroom := X.room
  have hsz := X.heapSize
  have hus := X.used
  refine ⟨X.admits, X.cas, X.clock, hF, ?_, xhears X.warmed X.hears, hm', X.code, X.here, X.tail, State.WarmedH.refl _, by rw [State.stackLimits_setFrames], by rw [State.stackBytes_setFrames], ?_⟩
  · have hU : (T.setFrames (.invoking m args :: below)).localsInUse = s.localsInUse := by
      rw [State.localsInUse_invoking hF (meth := meth) (c := c) hm' X.code, State.localsInUse_invoking X.frames X.method X.code]
    have hlen : s.frames.length = (T.setFrames (.invoking m args :: below)).frames.length := by rw [X.frames, hF]
    simp only [State.hasRoom, Bool.and_eq_true, decide_eq_true_eq] at hroom ⊢
    rw [hU, ← hlen, State.stackLimits_setFrames, State.stackBytes_setFrames, X.limits, X.bytes]
    obtain ⟨⟨⟨⟨a0, a1, a2, a3, a4, a5⟩, b1⟩, b2⟩, b3⟩ := hroom
    refine ⟨⟨⟨⟨by omega, by omega, by omega, by omega, by omega, a5⟩, ?_⟩, ?_⟩, X.book⟩
    · show T.heap.size + R'.cells ≤ _; omega
    · show T.slotsUsed + R'.slots ≤ _; omega
  · have h := (State.sameButNew.refl (T.setFrames (.invoking m args :: below)) ht).setFrames T.frames (State.cur_lt_of_frames hF)
    obtain ⟨t2, ht2, -⟩ := State.frames_cons hfr
    rw [State.setFrames_setFrames, State.setFrames_self ht2] at h
    exact h
end XB
section XC
variable {l : Launch} {p : Program} {e : Env} {R : Room} {s : State} {m : MethodId} {args : Array Value} {below : List Frame} {meth : Method} {c : Code} {H : Heap} {locs : List Loc} {cells slots : Nat} {Q : State → Prop}

/-- 'throw new X("text")' out of the method: new; dup; ldc; invokespecial; athrow. All older cells stay as they are; the new one is at the heap's end. -/
theorem xthrow {Qc : Array Value → State → Outcome → State → Prop} {free : Addr → Prop} {cc : ByteArray} (hexec : p.tables.exec = Jvm.exec) (hb : c.code = cc) (htr : e.platform.stackTraces = false) {own cls tx : String} {names : List String} {ik is ic : Nat} {sa : Addr}
    (hown : s.vm.findClass own = some m.cls) (hcls : Bundle.fit cls = true) (hnames : ∀ n ∈ names, Bundle.fit n = true)
    (hk : (Cond.classLink own ik cls).before args s = true) (hini : (Cond.initialized cls).before args s = true) (hin6 : (Cond.instantiable cls 6).before args s = true) (hstr : vk_R own is tx sa s)
    (hat : ∀ U : State, U.heap = H → s.WarmedH U.vm → ∀ a ∈ Bundle.ownAtoms own ic cls names, a.before args U = true)
    {pc : Nat} {ls : Array Slot} {rest : List Value} (hsize : ls.size = c.maxLocals)
    (d0 : decode cc pc = .ok (.new ik, 3)) (d3 : decode cc (pc + 3) = .ok (.dup, 1)) (d4 : decode cc (pc + 4) = .ok (.ldc is, 2)) (d6 : decode cc (pc + 6) = .ok (.invokespecial ic, 3)) (d9 : decode cc (pc + 9) = .ok (.athrow, 1))
    (hout : ∀ x ∈ c.exceptionTable.toList, covers x (pc + 9) = false) (hlocks : meth.locks = false)
    (hRf : names.length + 3 < R.frames) (hRl : (rest.map fun v => v.category).sum + (13 * (names.length + 1) + 43) ≤ R.locals) (hRc : cells + 1 ≤ R.cells) (hRs : slots + 6 ≤ R.slots)
    (hq : ∀ (t : State) (ce : Cell), s.WarmedH t.vm → t.heap.size = H.size + 1 → (∀ q, q < H.size → t.heap[q]? = H[q]?) → t.heap[H.size]? = some ce → ce.vm = .none → s.vm.findClass cls = some ce.cls → Qc args s (.threw H.size) t)
    (hfree : ∀ q ∈ locs, free q.base) :
    W p l e R s m args below meth c H locs cells slots (xMQ below Qc args s (cells + 1) (slots + 6) free) (F0 m pc ls rest) := by
  intro T hT X
  subst hb
  have hR0 : R.cells - cells + cells = R.cells := by omega
  have X0 := xrebase X (R' := { frames := R.frames, locals := R.locals, cells := 1, slots := 6 }) (Nat.le_refl _) (Nat.le_refl _) hRc hRs
  have hWs : s.WarmedH (T.setFrames (.invoking m args :: below)).vm := X.warmed
  have hsh : (T.setFrames (.invoking m args :: below)).heap = H := hT
  generalize hs' : T.setFrames (.invoking m args :: below) = s' at X0 hWs hsh
  have hal : s.vm.Alike s'.vm := hWs.alike
  have hown' : s'.vm.findClass own = some m.cls := by rw [hal.findClass]; exact hown
  have at' := hat s' hsh hWs
  have key : W p l e { frames := R.frames, locals := R.locals, cells := 1, slots := 6 } s' m args below meth c H [] 0 0
      (fun U => U.status = .running ∧ Ended U below (.threw H.size) ∧ s'.WarmedH U.vm ∧ s'.sameButNew ({ U with vm := s'.vm } : State) [] 1 6 ∧ ∃ ce, U.heap[H.size]? = some ce ∧ Bundle.OwnCell args s' cls H.size (.ref sa) ce) (F0 m pc ls rest) := by
    refine W.newc hexec rfl hown' (word_at hWs (Or.inl rfl) hk) (word_at hWs (Or.inl rfl) hin6) (word_at hWs (Or.inl rfl) hini) (g := F0 m pc ls rest) rfl d0 (Nat.le_refl _) (Nat.le_refl _) fun cC kC h1 h2 h3 h4 => ?_
    refine lv_dup hexec rfl d3 rfl ?_
    refine va_ldcS hexec rfl hown' (vk_R.warm hWs hstr) d4 ?_
    intro T1 hT1 X1
    obtain ⟨U, hst, hrun, hend, hW, hsame, ce, hce, hoc⟩ := X1.ctorThrowS hexec htr (own := own) (cls := cls) (names := names) (ic := ic) hown' hcls hnames at' (fun x hx => absurd hx List.not_mem_nil)
      (a := H.size) h1 h2 (by rw [hT1]; simp [freshCell]) (by rw [hsh]; exact Nat.le_refl _) (msg := .ref sa) rfl (g := F0 m (pc + 6) ls (.ref sa :: .ref H.size :: .ref H.size :: rest)) rfl hsize rfl rfl (rest := rest) rfl d6 d9 hout hRf
      (by show 2 * 0 + _ + _ ≤ R.locals; simp only [List.map_cons, List.sum_cons]; show 2 * 0 + (1 + _) + _ ≤ _; omega) (hlocks := hlocks)
    exact ⟨U, hst, hrun, hend, hW, hsame, ce, hce, hoc⟩
  obtain ⟨U, hst, hrun, hend, hW, hsame, ce, hce, hoc⟩ := key T hT X0
  have hWU : s.WarmedH U.vm := State.WarmedH.trans hWs hW
  have hold : ∀ q, q < H.size → U.heap[q]? = H[q]? := fun q hq' => by
    have hc : s'.heap[q]? = some H[q] := by rw [hsh]; exact Array.getElem?_eq_getElem hq'
    have := hsame.old_cell hc
    rw [show U.heap[q]? = some H[q] from this, Array.getElem?_eq_getElem hq']
  have hlt : H.size < U.heap.size := (Array.getElem?_eq_some_iff.mp hce).1
  have hle : U.heap.size ≤ s'.heap.size + 1 := hsame.2.2.1
  rw [hsh] at hle
  refine ⟨U, hst, .threw H.size, hrun, hend, hq U ce hWU (by omega) hold hce hoc.vm (by rw [← hal.findClass]; exact hoc.cls), locs ++ [], ⟨hWU, ?_⟩, by simpa using hfree⟩
  have hTs : T.sameButNew (U.setVm T.vm) [] 1 6 := by
    have h1 : s'.sameButNew (U.setVm s'.vm) [] 1 6 := hsame
    obtain ⟨e1, e2, e3, e4, e5, e6⟩ := h1
    subst hs'
    refine ⟨?_, e2, e3, e4, e5, e6⟩
    have e1' : U.setVm T.vm = { (T.setFrames (.invoking m args :: below)).setFrames U.frames with heap := U.heap, slotsUsed := U.slotsUsed } := e1
    rw [State.setFrames_setFrames] at e1'
    exact e1'
  exact X.same.trans (hTs.setVm s.vm)
end XC
