/-! A run of the pure machine is a contract of the machine. -/
def xroom (d n z : Nat) : Room := { frames := d + 6, cells := n, slots := z, locals := 31 * d + 100 }
abbrev xMI : Type := MethodName × ByteArray × Option FieldType × List (Nat × Nat × Nat × Nat)
def xcond (q : xMI) (maxL : Nat) : Cond := match q.2.2.2 with
  | [] => .code q.1 q.2.1 maxL q.2.2.1
  | hh => .codeWith q.1 q.2.1 maxL q.2.2.1 hh
def xPc (X : xX) (as : List Value) (h : xH) : Array Value → State → Prop := fun v U => v = (as.map (xva X.ad)).toArray ∧ X.s.WarmedH U.vm ∧ xRel X h U.heap
def xout (X : xX) (o : xO) (out : Outcome) : Prop := match o with
  | .inl v => out = .returned (v.map (xva X.ad))
  | .inr x => out = .threw (X.ad x)
def xQc (X : xX) (o : xO) (h' : xH) : Array Value → State → Outcome → State → Prop := fun _ _ out t => xout X o out ∧ xRel X h' t.heap
/-- calls and throws, by their links -/
def xLm (X : xX) (mi : Nat → xMI) (own : String) (k : Nat) (q : xL) : Prop :=
  (q.1 = 3 → (∃ np, (parseMethodDescriptor (mi q.2.1).1.desc).map (fun z => z.parameters.length) = some np ∧ (q.2.2.2.1 < 2 → q.2.2.1 = np) ∧ (2 ≤ q.2.2.2.1 → q.2.2.1 = np + 1)) ∧
    (q.2.2.2.1 = 0 → xk X (.methodLink own k (mi q.2.1).1) ∧ xk X (.static (mi q.2.1).1)) ∧
    (q.2.2.2.1 = 1 → xk X (.static (mi q.2.1).1) ∧ ∃ host : String, xk X (.methodLinkNest own k (mi q.2.1).1 host)) ∧
    (q.2.2.2.1 = 2 → xk X (.methodLink own k (mi q.2.1).1) ∧ xk X (.instanceMethod (mi q.2.1).1) ∧ xk X (.selects (mi q.2.1).1.cls (mi q.2.1).1 (mi q.2.1).1) ∧ ∃ T N ty, xCls X q.2.2.2.2.toNat (mi q.2.1).1.cls T N ty) ∧
    (q.2.2.2.1 = 4 → xk X (.methodLink own k (mi q.2.1).1) ∧ xk X (.instanceMethod (mi q.2.1).1) ∧ (mi q.2.1).1.name = "<init>" ∧ (mi q.2.1).2.2.1 = none ∧ (mi q.2.1).2.2.2 = []) ∧
    (q.2.2.2.1 = 5 → xk X (.instanceMethod (mi q.2.1).1) ∧ (mi q.2.1).1.name = "<init>" ∧ (mi q.2.1).2.2.1 = none ∧ (mi q.2.1).2.2.2 = [] ∧ ∃ host : String, xk X (.methodLinkNest own k (mi q.2.1).1 host))) ∧
  (q.1 = 7 → 100 ≤ q.2.1 ∧ xk X (.classLink own k (X.ex q.2.1)) ∧ xk X (.initialized (X.ex q.2.1)) ∧ xk X (.instantiable (X.ex q.2.1) 6) ∧ Bundle.fit (X.ex q.2.1) = true) ∧
  (q.1 = 8 → ∃ tx sa, vk_R own k tx sa X.s) ∧
  (q.1 = 14 → ∃ names : List String, names.length ≤ 2 ∧ (∀ n ∈ names, Bundle.fit n = true) ∧ ∀ (U : State) (args : Array Value), (∀ q : Nat, q < X.s.heap.size → U.heap[q]? = X.s.heap[q]?) → X.s.WarmedH U.vm → ∀ a ∈ Bundle.ownAtoms own k (X.ex q.2.1) names, a.before args U = true)
/-- no object of the one class is one of the other -/
def xNa (X : xX) (e2 e1 : Nat) : Prop := ∀ c1 c2, X.s.vm.findClass (X.ex e2) = some c1 → X.s.vm.findClass (X.ex e1) = some c2 → X.s.vm.assignable c1 c2 = false
/-- the second handler of the same stretch -/
def xH2 (X : xX) (own : String) (a b e : Nat) (suf : List (Nat × Nat × Nat × Nat)) : Prop := ∃ ct2 suf2, suf = (a, b, e / 1000000, ct2) :: suf2 ∧ ct2 ≠ 0 ∧ 100 ≤ e / 1000 % 1000 ∧ xk X (.classLink own ct2 (X.ex (e / 1000 % 1000))) ∧ xk X (.castable (X.ex (e / 1000 % 1000)) (X.ex (e / 1000 % 1000))) ∧ xNa X (e / 1000 % 1000) (e % 1000)
/-- a method of the table -/
def xMt (X : xX) (lk : Nat → Nat → Option xL) (mi : Nat → xMI) (mid : Nat) (M : xM) : Prop :=
  plainName (mi mid).1.cls = true ∧ ((mi mid).1.cls ≠ "java/lang/invoke/MethodHandle" ∧ (mi mid).1.cls ≠ "java/lang/invoke/VarHandle") ∧ xk X (.initialized (mi mid).1.cls) ∧
  (∀ pc i len, xcd M.2.1 pc = some (i, len) → decode (mi mid).2.1 pc = .ok (i, len)) ∧ M.2.2.1 ≤ 12 ∧
  ((M.2.2.2.1 = 0 ∧ (mi mid).2.2.1 = none) ∨ (M.2.2.2.1 = 1 ∧ (mi mid).2.2.1 = some .int) ∨ (M.2.2.2.1 = 2 ∧ (mi mid).2.2.1 = some .boolean) ∨ (M.2.2.2.1 = 3 ∧ ∃ n, (mi mid).2.2.1 = some (.object n))) ∧
  (M.2.2.2.2.1 = true → (mi mid).1.name = "<init>") ∧ xk X (xcond (mi mid) M.2.2.1) ∧
  (M.2.2.2.2.2 = none → (mi mid).2.2.2 = []) ∧
  (∀ a b t e, M.2.2.2.2.2 = some (a, b, t, e) → ∃ ct suf, (mi mid).2.2.2 = (a, b, t, ct) :: suf ∧ ct ≠ 0 ∧ 100 ≤ e % 1000 ∧ xk X (.classLink (mi mid).1.cls ct (X.ex (e % 1000))) ∧ xk X (.castable (X.ex (e % 1000)) (X.ex (e % 1000))) ∧ (1000 ≤ e → xH2 X (mi mid).1.cls a b e suf)) ∧
  ∀ k q, lk M.1 k = some q → xLk X (mi mid).1.cls k q ∧ xLm X mi (mi mid).1.cls k q
theorem xcond_spec {q : xMI} {maxL : Nat} {s : State} {args : Array Value} (h : (xcond q maxL).before args s = true) :
    ∃ m meth c, s.methodNamed? q.1 = some m ∧ s.vm.method? m = some meth ∧ meth.code = some c ∧ c.code = q.2.1 ∧ c.maxLocals = maxL ∧ c.exceptionTable.toList.map (fun h => (h.startPc, h.endPc, h.handlerPc, h.catchType)) = q.2.2.2 ∧ meth.sig.returnType = q.2.2.1 ∧ meth.locks = false ∧ parseMethodDescriptor q.1.desc = some meth.sig := by
  obtain ⟨y, cc, ret, hh⟩ := q
  cases hh with
  | nil =>
    have h : (Cond.code y cc maxL ret).before args s = true := h
    obtain ⟨m, hn⟩ := Cond.code_named h
    obtain ⟨meth, c, h1, h2, h3, h4, h5, h6, h7, h8⟩ := Cond.code_spec hn h
    refine ⟨m, meth, c, hn, h1, h2, h3, h4, ?_, h5, h6, h8⟩
    have : c.exceptionTable.toList = [] := by
      have h0 : c.exceptionTable.size = 0 := by simpa [Array.isEmpty] using h7
      exact List.eq_nil_of_length_eq_zero (by simpa using h0)
    rw [this]; rfl
  | cons a r =>
    have h : (Cond.codeWith y cc maxL ret (a :: r)).before args s = true := h
    exact Cond.codeWith_spec h
theorem xMet_of {l : Launch} {q : xMI} {maxL : Nat} {rm : Room} {Pc : Array Value → State → Prop} {Qc : Array Value → State → Outcome → State → Prop} {free : Addr → Prop} (hy : plainName q.1.cls = true)
    (body : ∀ p e s m args below meth c s₁, BodyLoose p l q.1 (headSpec [xcond q maxL] rm) q.2.1 maxL q.2.2.1 e s m args below meth c s₁ → c.maxLocals = maxL → Pc args s →
      W p l e rm s m args below meth c s.heap [] 0 0 (xMQ below Qc args s rm.cells rm.slots free) (entryFrame m args maxL)) : xMet l q.1 [xcond q maxL] rm Pc Qc free := by
  obtain ⟨y, cc, ret, hh⟩ := q
  cases hh with
  | nil => exact xMet_ofW hy rfl body
  | cons a r => exact xMet_ofWW hy rfl body
