/-! The tables' words, as what holds in all that comes. -/
abbrev zX (s0 : State) (pre : Nat → Nat) (D : va_G) (ca : FieldType → ClassId) : xX := (s0, pre, D, zcl, ca, zex, zdf)
def zH (s0 : State) : Prop := ∃ a0 : Array Value, ∀ w ∈ lw_tbl, w.before a0 s0 = true
section ZA
variable {X : xX}
theorem zt {i : Nat} {w : Cond} (h : tables_1[i]? = some w) : w ∈ lw_tbl := List.mem_append_right _ (List.mem_of_getElem? h)
theorem zs {i : Nat} {q : MethodName × Nat} (h : lw_privs[i]? = some q) : Cond.selects q.1.cls q.1 q.1 ∈ lw_tbl := List.mem_append_left _ (List.mem_map.mpr ⟨q, List.mem_of_getElem? h, rfl⟩)
theorem zk (hts : zH X.s) {w : Cond} (hm : w ∈ lw_tbl) (hg : goodWord w = true) : xk X w := fun s args hW => by
  obtain ⟨a0, h⟩ := hts
  exact word_at hW (good_of_word hg) (h w hm)
theorem zkM (hts : zH X.s) {a : String} {i : Nat} {y : MethodName} {h : String} (hm : Cond.methodLinkNest a i y h ∈ lw_tbl) : xk X (.methodLinkNest a i y h) := fun s args hW => by
  obtain ⟨a0, h⟩ := hts
  exact va_Nw.use rfl (va_Nw.warmM hW (va_Nw.of rfl (h _ hm)))
theorem zkF (hts : zH X.s) {a : String} {i : Nat} {b n d h : String} (hm : Cond.fieldLinkNest a i b n d h ∈ lw_tbl) : xk X (.fieldLinkNest a i b n d h) := fun s args hW => by
  obtain ⟨a0, h⟩ := hts
  exact va_Nw.use rfl (va_Nw.warmF hW (va_Nw.of rfl (h _ hm)))
theorem zkC (hts : zH X.s) {a b : String} (hm : Cond.castable a b ∈ lw_tbl) : xk X (.castable a b) := fun s args hW => by
  obtain ⟨a0, h⟩ := hts
  exact va_Nw.use rfl (va_Nw.warmC hW (va_Nw.of rfl (h _ hm)))
theorem zkD (hts : zH X.s) {y : MethodName} (hm : Cond.declares y ∈ lw_tbl) : xk X (.declares y) := fun s args hW => by
  obtain ⟨a0, h⟩ := hts
  exact va_Nw.use rfl (va_Nw.warmD hW (va_Nw.of rfl (h _ hm)))
theorem zkG (hts : zH X.s) {ws : List Cond} (hG : GoodIn lw_tbl ws) : ∀ w ∈ ws, xk X w := fun w hw s args hW => by
  obtain ⟨a0, h⟩ := hts
  exact word_at hW (hG w hw).2 (h w (hG w hw).1)
theorem zstr (hts : zH X.s) {own tx : String} {k : Nat} (hm : Cond.stringRef own k tx ∈ lw_tbl) : ∃ tx sa, vk_R own k tx sa X.s := by
  obtain ⟨a0, h⟩ := hts
  have h1 := h _ hm
  have hcur : ∃ cur, X.s.vm.findClass own = some cur := by
    have h2 := h1
    simp only [Cond.before, Cond.holds, Cond.value] at h2
    cases hc : X.s.vm.findClass own with
    | none => simp [hc] at h2
    | some cur => exact ⟨cur, rfl⟩
  obtain ⟨cur, hcur⟩ := hcur
  obtain ⟨k9, cf, i, a', hk, hcf, hcp, -, hr, hev'⟩ := Cond.stringRef_spec hcur h1
  exact ⟨tx, a', h1, hev'⟩
variable {mi : Nat → xMI} {own : String} {k : Nat}
theorem zn {a b : Nat} {P : Prop} (h : a ≠ b) : a = b → P := fun e => absurd e h
theorem zL1 {ci sl t : Nat} {v : Int} (hF : xFld X own k ci sl t) (h2 : v = 1 → ∀ C T N ty, xCls X ci C T N ty → own = C) : xLk X own k (1, ci, sl, t, v) ∧ xLm X mi own k (1, ci, sl, t, v) :=
  ⟨⟨fun _ => ⟨hF, h2⟩, zn (Nat.ne_of_beq_eq_false rfl), zn (Nat.ne_of_beq_eq_false rfl), zn (Nat.ne_of_beq_eq_false rfl), zn (Nat.ne_of_beq_eq_false rfl), zn (Nat.ne_of_beq_eq_false rfl), zn (Nat.ne_of_beq_eq_false rfl), zn (Nat.ne_of_beq_eq_false rfl), zn (Nat.ne_of_beq_eq_false rfl), zn (Nat.ne_of_beq_eq_false rfl)⟩, zn (Nat.ne_of_beq_eq_false rfl), zn (Nat.ne_of_beq_eq_false rfl), zn (Nat.ne_of_beq_eq_false rfl), zn (Nat.ne_of_beq_eq_false rfl)⟩
theorem zL2 {a b c : Nat} {v : Int} (hF : xSta X own k a) : xLk X own k (2, a, b, c, v) ∧ xLm X mi own k (2, a, b, c, v) :=
  ⟨⟨zn (Nat.ne_of_beq_eq_false rfl), fun _ => hF, zn (Nat.ne_of_beq_eq_false rfl), zn (Nat.ne_of_beq_eq_false rfl), zn (Nat.ne_of_beq_eq_false rfl), zn (Nat.ne_of_beq_eq_false rfl), zn (Nat.ne_of_beq_eq_false rfl), zn (Nat.ne_of_beq_eq_false rfl), zn (Nat.ne_of_beq_eq_false rfl), zn (Nat.ne_of_beq_eq_false rfl)⟩, zn (Nat.ne_of_beq_eq_false rfl), zn (Nat.ne_of_beq_eq_false rfl), zn (Nat.ne_of_beq_eq_false rfl), zn (Nat.ne_of_beq_eq_false rfl)⟩
theorem zL4 {a b c : Nat} {v : Int} (hF : xk X (.constant own k (Int32.ofInt v))) : xLk X own k (4, a, b, c, v) ∧ xLm X mi own k (4, a, b, c, v) :=
  ⟨⟨zn (Nat.ne_of_beq_eq_false rfl), zn (Nat.ne_of_beq_eq_false rfl), fun _ => hF, zn (Nat.ne_of_beq_eq_false rfl), zn (Nat.ne_of_beq_eq_false rfl), zn (Nat.ne_of_beq_eq_false rfl), zn (Nat.ne_of_beq_eq_false rfl), zn (Nat.ne_of_beq_eq_false rfl), zn (Nat.ne_of_beq_eq_false rfl), zn (Nat.ne_of_beq_eq_false rfl)⟩, zn (Nat.ne_of_beq_eq_false rfl), zn (Nat.ne_of_beq_eq_false rfl), zn (Nat.ne_of_beq_eq_false rfl), zn (Nat.ne_of_beq_eq_false rfl)⟩
theorem zL5 {a b c : Nat} {v : Int} (hF : xk X (.constantLong own k (Int64.ofInt v))) : xLk X own k (5, a, b, c, v) ∧ xLm X mi own k (5, a, b, c, v) :=
  ⟨⟨zn (Nat.ne_of_beq_eq_false rfl), zn (Nat.ne_of_beq_eq_false rfl), zn (Nat.ne_of_beq_eq_false rfl), fun _ => hF, zn (Nat.ne_of_beq_eq_false rfl), zn (Nat.ne_of_beq_eq_false rfl), zn (Nat.ne_of_beq_eq_false rfl), zn (Nat.ne_of_beq_eq_false rfl), zn (Nat.ne_of_beq_eq_false rfl), zn (Nat.ne_of_beq_eq_false rfl)⟩, zn (Nat.ne_of_beq_eq_false rfl), zn (Nat.ne_of_beq_eq_false rfl), zn (Nat.ne_of_beq_eq_false rfl), zn (Nat.ne_of_beq_eq_false rfl)⟩
theorem zL6 {a b c : Nat} {v : Int} (hF : ∃ C T N ty, xCls X a C T N ty ∧ xk X (.classLink own k C) ∧ xk X (.instantiable C N) ∧ xk X (.initialized C) ∧ ∀ j, j < N → ty j = .int ∨ ty j = .boolean ∨ defaultValue (ty j) = .null) : xLk X own k (6, a, b, c, v) ∧ xLm X mi own k (6, a, b, c, v) :=
  ⟨⟨zn (Nat.ne_of_beq_eq_false rfl), zn (Nat.ne_of_beq_eq_false rfl), zn (Nat.ne_of_beq_eq_false rfl), zn (Nat.ne_of_beq_eq_false rfl), fun _ => hF, zn (Nat.ne_of_beq_eq_false rfl), zn (Nat.ne_of_beq_eq_false rfl), zn (Nat.ne_of_beq_eq_false rfl), zn (Nat.ne_of_beq_eq_false rfl), zn (Nat.ne_of_beq_eq_false rfl)⟩, zn (Nat.ne_of_beq_eq_false rfl), zn (Nat.ne_of_beq_eq_false rfl), zn (Nat.ne_of_beq_eq_false rfl), zn (Nat.ne_of_beq_eq_false rfl)⟩
theorem zL9 {a b c : Nat} {v : Int} (hF : xk X (.methodLink own k Lib.objectInit)) : xLk X own k (9, a, b, c, v) ∧ xLm X mi own k (9, a, b, c, v) :=
  ⟨⟨zn (Nat.ne_of_beq_eq_false rfl), zn (Nat.ne_of_beq_eq_false rfl), zn (Nat.ne_of_beq_eq_false rfl), zn (Nat.ne_of_beq_eq_false rfl), zn (Nat.ne_of_beq_eq_false rfl), fun _ => hF, zn (Nat.ne_of_beq_eq_false rfl), zn (Nat.ne_of_beq_eq_false rfl), zn (Nat.ne_of_beq_eq_false rfl), zn (Nat.ne_of_beq_eq_false rfl)⟩, zn (Nat.ne_of_beq_eq_false rfl), zn (Nat.ne_of_beq_eq_false rfl), zn (Nat.ne_of_beq_eq_false rfl), zn (Nat.ne_of_beq_eq_false rfl)⟩
theorem zL10 {a b c : Nat} {v : Int} (hF : xk X (.methodLink own k Lib.Math.min.name)) : xLk X own k (10, a, b, c, v) ∧ xLm X mi own k (10, a, b, c, v) :=
  ⟨⟨zn (Nat.ne_of_beq_eq_false rfl), zn (Nat.ne_of_beq_eq_false rfl), zn (Nat.ne_of_beq_eq_false rfl), zn (Nat.ne_of_beq_eq_false rfl), zn (Nat.ne_of_beq_eq_false rfl), zn (Nat.ne_of_beq_eq_false rfl), fun _ => hF, zn (Nat.ne_of_beq_eq_false rfl), zn (Nat.ne_of_beq_eq_false rfl), zn (Nat.ne_of_beq_eq_false rfl)⟩, zn (Nat.ne_of_beq_eq_false rfl), zn (Nat.ne_of_beq_eq_false rfl), zn (Nat.ne_of_beq_eq_false rfl), zn (Nat.ne_of_beq_eq_false rfl)⟩
theorem zL11 {a b c : Nat} {v : Int} (hF : xk X (.methodLink own k Lib.Math.max.name)) : xLk X own k (11, a, b, c, v) ∧ xLm X mi own k (11, a, b, c, v) :=
  ⟨⟨zn (Nat.ne_of_beq_eq_false rfl), zn (Nat.ne_of_beq_eq_false rfl), zn (Nat.ne_of_beq_eq_false rfl), zn (Nat.ne_of_beq_eq_false rfl), zn (Nat.ne_of_beq_eq_false rfl), zn (Nat.ne_of_beq_eq_false rfl), zn (Nat.ne_of_beq_eq_false rfl), fun _ => hF, zn (Nat.ne_of_beq_eq_false rfl), zn (Nat.ne_of_beq_eq_false rfl)⟩, zn (Nat.ne_of_beq_eq_false rfl), zn (Nat.ne_of_beq_eq_false rfl), zn (Nat.ne_of_beq_eq_false rfl), zn (Nat.ne_of_beq_eq_false rfl)⟩
theorem zL12 {a b c : Nat} {v : Int} (hF : xk X (.methodLink own k Lib.Math.abs.name)) : xLk X own k (12, a, b, c, v) ∧ xLm X mi own k (12, a, b, c, v) :=
  ⟨⟨zn (Nat.ne_of_beq_eq_false rfl), zn (Nat.ne_of_beq_eq_false rfl), zn (Nat.ne_of_beq_eq_false rfl), zn (Nat.ne_of_beq_eq_false rfl), zn (Nat.ne_of_beq_eq_false rfl), zn (Nat.ne_of_beq_eq_false rfl), zn (Nat.ne_of_beq_eq_false rfl), zn (Nat.ne_of_beq_eq_false rfl), fun _ => hF, zn (Nat.ne_of_beq_eq_false rfl)⟩, zn (Nat.ne_of_beq_eq_false rfl), zn (Nat.ne_of_beq_eq_false rfl), zn (Nat.ne_of_beq_eq_false rfl), zn (Nat.ne_of_beq_eq_false rfl)⟩
theorem zL13 {a b c : Nat} {v : Int} (hF : xk X (.methodLink own k arraycopyName)) : xLk X own k (13, a, b, c, v) ∧ xLm X mi own k (13, a, b, c, v) :=
  ⟨⟨zn (Nat.ne_of_beq_eq_false rfl), zn (Nat.ne_of_beq_eq_false rfl), zn (Nat.ne_of_beq_eq_false rfl), zn (Nat.ne_of_beq_eq_false rfl), zn (Nat.ne_of_beq_eq_false rfl), zn (Nat.ne_of_beq_eq_false rfl), zn (Nat.ne_of_beq_eq_false rfl), zn (Nat.ne_of_beq_eq_false rfl), zn (Nat.ne_of_beq_eq_false rfl), fun _ => hF⟩, zn (Nat.ne_of_beq_eq_false rfl), zn (Nat.ne_of_beq_eq_false rfl), zn (Nat.ne_of_beq_eq_false rfl), zn (Nat.ne_of_beq_eq_false rfl)⟩
theorem zL7 {a b c : Nat} {v : Int} (hF : 100 ≤ a ∧ xk X (.classLink own k (X.ex a)) ∧ xk X (.initialized (X.ex a)) ∧ xk X (.instantiable (X.ex a) 6) ∧ Bundle.fit (X.ex a) = true) : xLk X own k (7, a, b, c, v) ∧ xLm X mi own k (7, a, b, c, v) :=
  ⟨⟨zn (Nat.ne_of_beq_eq_false rfl), zn (Nat.ne_of_beq_eq_false rfl), zn (Nat.ne_of_beq_eq_false rfl), zn (Nat.ne_of_beq_eq_false rfl), zn (Nat.ne_of_beq_eq_false rfl), zn (Nat.ne_of_beq_eq_false rfl), zn (Nat.ne_of_beq_eq_false rfl), zn (Nat.ne_of_beq_eq_false rfl), zn (Nat.ne_of_beq_eq_false rfl), zn (Nat.ne_of_beq_eq_false rfl)⟩, zn (Nat.ne_of_beq_eq_false rfl), fun _ => hF, zn (Nat.ne_of_beq_eq_false rfl), zn (Nat.ne_of_beq_eq_false rfl)⟩
theorem zL8 {a b c : Nat} {v : Int} (hF : ∃ tx sa, vk_R own k tx sa X.s) : xLk X own k (8, a, b, c, v) ∧ xLm X mi own k (8, a, b, c, v) :=
  ⟨⟨zn (Nat.ne_of_beq_eq_false rfl), zn (Nat.ne_of_beq_eq_false rfl), zn (Nat.ne_of_beq_eq_false rfl), zn (Nat.ne_of_beq_eq_false rfl), zn (Nat.ne_of_beq_eq_false rfl), zn (Nat.ne_of_beq_eq_false rfl), zn (Nat.ne_of_beq_eq_false rfl), zn (Nat.ne_of_beq_eq_false rfl), zn (Nat.ne_of_beq_eq_false rfl), zn (Nat.ne_of_beq_eq_false rfl)⟩, zn (Nat.ne_of_beq_eq_false rfl), zn (Nat.ne_of_beq_eq_false rfl), fun _ => hF, zn (Nat.ne_of_beq_eq_false rfl)⟩
/-- the words of a throw hold in all that comes, where nothing old was written -/
def zT (X : xX) (own : String) (k a : Nat) : Prop := ∃ names : List String, names.length ≤ 2 ∧ (∀ n ∈ names, Bundle.fit n = true) ∧ ∀ (U : State) (args : Array Value), (∀ q : Nat, q < X.s.heap.size → U.heap[q]? = X.s.heap[q]?) → X.s.WarmedH U.vm → ∀ z ∈ Bundle.ownAtoms own k (X.ex a) names, z.before args U = true
theorem zL14 {a b c : Nat} {v : Int} (hF : zT X own k a) : xLk X own k (14, a, b, c, v) ∧ xLm X mi own k (14, a, b, c, v) :=
  ⟨⟨zn (Nat.ne_of_beq_eq_false rfl), zn (Nat.ne_of_beq_eq_false rfl), zn (Nat.ne_of_beq_eq_false rfl), zn (Nat.ne_of_beq_eq_false rfl), zn (Nat.ne_of_beq_eq_false rfl), zn (Nat.ne_of_beq_eq_false rfl), zn (Nat.ne_of_beq_eq_false rfl), zn (Nat.ne_of_beq_eq_false rfl), zn (Nat.ne_of_beq_eq_false rfl), zn (Nat.ne_of_beq_eq_false rfl)⟩, zn (Nat.ne_of_beq_eq_false rfl), zn (Nat.ne_of_beq_eq_false rfl), zn (Nat.ne_of_beq_eq_false rfl), fun _ => hF⟩
theorem zL3 {a b c : Nat} {v : Int} (hF : (3 = 3 → (∃ np, (parseMethodDescriptor (mi a).1.desc).map (fun z => z.parameters.length) = some np ∧ (c < 2 → b = np) ∧ (2 ≤ c → b = np + 1)) ∧
    (c = 0 → xk X (.methodLink own k (mi a).1) ∧ xk X (.static (mi a).1)) ∧
    (c = 1 → xk X (.static (mi a).1) ∧ ∃ host : String, xk X (.methodLinkNest own k (mi a).1 host)) ∧
    (c = 2 → xk X (.methodLink own k (mi a).1) ∧ xk X (.instanceMethod (mi a).1) ∧ xk X (.selects (mi a).1.cls (mi a).1 (mi a).1) ∧ ∃ T N ty, xCls X v.toNat (mi a).1.cls T N ty) ∧
    (c = 4 → xk X (.methodLink own k (mi a).1) ∧ xk X (.instanceMethod (mi a).1) ∧ (mi a).1.name = "<init>" ∧ (mi a).2.2.1 = none ∧ (mi a).2.2.2 = []) ∧
    (c = 5 → xk X (.instanceMethod (mi a).1) ∧ (mi a).1.name = "<init>" ∧ (mi a).2.2.1 = none ∧ (mi a).2.2.2 = [] ∧ ∃ host : String, xk X (.methodLinkNest own k (mi a).1 host)))) : xLk X own k (3, a, b, c, v) ∧ xLm X mi own k (3, a, b, c, v) :=
  ⟨⟨zn (Nat.ne_of_beq_eq_false rfl), zn (Nat.ne_of_beq_eq_false rfl), zn (Nat.ne_of_beq_eq_false rfl), zn (Nat.ne_of_beq_eq_false rfl), zn (Nat.ne_of_beq_eq_false rfl), zn (Nat.ne_of_beq_eq_false rfl), zn (Nat.ne_of_beq_eq_false rfl), zn (Nat.ne_of_beq_eq_false rfl), zn (Nat.ne_of_beq_eq_false rfl), zn (Nat.ne_of_beq_eq_false rfl)⟩, fun _ => hF rfl, zn (Nat.ne_of_beq_eq_false rfl), zn (Nat.ne_of_beq_eq_false rfl), zn (Nat.ne_of_beq_eq_false rfl)⟩
theorem zC0 {a b : Nat} {v : Int} (np : Nat) (h : (parseMethodDescriptor (mi a).1.desc).map (fun z => z.parameters.length) = some np) (hb : b = np) (h1 : xk X (.methodLink own k (mi a).1)) (h2 : xk X (.static (mi a).1)) : xLk X own k (3, a, b, 0, v) ∧ xLm X mi own k (3, a, b, 0, v) :=
  zL3 fun _ => ⟨⟨np, h, fun _ => hb, fun h => absurd h (by decide)⟩, fun _ => ⟨h1, h2⟩, zn (Nat.ne_of_beq_eq_false rfl), zn (Nat.ne_of_beq_eq_false rfl), zn (Nat.ne_of_beq_eq_false rfl), zn (Nat.ne_of_beq_eq_false rfl)⟩
theorem zC1 {a b : Nat} {v : Int} (np : Nat) (host : String) (h : (parseMethodDescriptor (mi a).1.desc).map (fun z => z.parameters.length) = some np) (hb : b = np) (h1 : xk X (.methodLinkNest own k (mi a).1 host)) (h2 : xk X (.static (mi a).1)) : xLk X own k (3, a, b, 1, v) ∧ xLm X mi own k (3, a, b, 1, v) :=
  zL3 fun _ => ⟨⟨np, h, fun _ => hb, fun h => absurd h (by decide)⟩, zn (Nat.ne_of_beq_eq_false rfl), fun _ => ⟨h2, host, h1⟩, zn (Nat.ne_of_beq_eq_false rfl), zn (Nat.ne_of_beq_eq_false rfl), zn (Nat.ne_of_beq_eq_false rfl)⟩
theorem zC2 {a b : Nat} {v : Int} (np : Nat) (h : (parseMethodDescriptor (mi a).1.desc).map (fun z => z.parameters.length) = some np) (hb : b = np + 1) (h1 : xk X (.methodLink own k (mi a).1)) (h2 : xk X (.instanceMethod (mi a).1)) (h3 : xk X (.selects (mi a).1.cls (mi a).1 (mi a).1)) (h4 : ∃ T N ty, xCls X v.toNat (mi a).1.cls T N ty) : xLk X own k (3, a, b, 2, v) ∧ xLm X mi own k (3, a, b, 2, v) :=
  zL3 fun _ => ⟨⟨np, h, fun h => absurd h (by decide), fun _ => hb⟩, zn (Nat.ne_of_beq_eq_false rfl), zn (Nat.ne_of_beq_eq_false rfl), fun _ => ⟨h1, h2, h3, h4⟩, zn (Nat.ne_of_beq_eq_false rfl), zn (Nat.ne_of_beq_eq_false rfl)⟩
theorem zC4 {a b : Nat} {v : Int} (np : Nat) (h : (parseMethodDescriptor (mi a).1.desc).map (fun z => z.parameters.length) = some np) (hb : b = np + 1) (h1 : xk X (.methodLink own k (mi a).1)) (h2 : xk X (.instanceMethod (mi a).1)) (h3 : (mi a).1.name = "<init>") (h4 : (mi a).2.2.1 = none) (h5 : (mi a).2.2.2 = []) : xLk X own k (3, a, b, 4, v) ∧ xLm X mi own k (3, a, b, 4, v) :=
  zL3 fun _ => ⟨⟨np, h, fun h => absurd h (by decide), fun _ => hb⟩, zn (Nat.ne_of_beq_eq_false rfl), zn (Nat.ne_of_beq_eq_false rfl), zn (Nat.ne_of_beq_eq_false rfl), fun _ => ⟨h1, h2, h3, h4, h5⟩, zn (Nat.ne_of_beq_eq_false rfl)⟩
theorem zC5 {a b : Nat} {v : Int} (np : Nat) (host : String) (h : (parseMethodDescriptor (mi a).1.desc).map (fun z => z.parameters.length) = some np) (hb : b = np + 1) (h1 : xk X (.methodLinkNest own k (mi a).1 host)) (h2 : xk X (.instanceMethod (mi a).1)) (h3 : (mi a).1.name = "<init>") (h4 : (mi a).2.2.1 = none) (h5 : (mi a).2.2.2 = []) : xLk X own k (3, a, b, 5, v) ∧ xLm X mi own k (3, a, b, 5, v) :=
  zL3 fun _ => ⟨⟨np, h, fun h => absurd h (by decide), fun _ => hb⟩, zn (Nat.ne_of_beq_eq_false rfl), zn (Nat.ne_of_beq_eq_false rfl), zn (Nat.ne_of_beq_eq_false rfl), zn (Nat.ne_of_beq_eq_false rfl), fun _ => ⟨h2, h3, h4, h5, host, h1⟩⟩
/-- links by a list -/
theorem zlook {P : Nat → xL → Prop} {l : List (Nat × xL)} (h : ∀ q ∈ l, P q.1 q.2) : ∀ k q, l.lookup k = some q → P k q := by
  intro k q hl
  induction l with
  | nil => cases hl
  | cons a r ih =>
    obtain ⟨p0, q0⟩ := a
    rw [List.lookup_cons] at hl
    split at hl
    · rename_i he
      have he2 : k = p0 := by simpa using he
      cases hl
      rw [he2]
      exact h (p0, _) List.mem_cons_self
    · exact ih (fun q hq => h q (List.mem_cons_of_mem _ hq)) hl
end ZA
