/-! Rows of numbers, new cells, static rows. -/
section XN
variable {l : Launch} {p : Program} {e : Env} {R : Room} {s : State} {m : MethodId} {args : Array Value} {below : List Frame} {meth : Method} {c : Code} {H : Heap} {locs : List Loc} {cells slots : Nat} {Q : State → Prop}
variable {X : xX} {cc : ByteArray} {pc : Nat} {ls : Array Slot} {rest : List Value} {h : xH}
theorem x_in {j : Int32} {n z : Nat} (h : vp_in j n) (hz : n ≤ z) : ¬ (j < 0 ∨ z ≤ j.toNatClampNeg) := fun q => h (q.elim Or.inl fun q => Or.inr (Nat.le_trans hz q))
theorem x_lt {j : Int32} {n : Nat} (h : vp_in j n) : j.toNatClampNeg < n := Nat.not_le.mp fun q => h (Or.inr q)
theorem x_iald (hexec : p.tables.exec = Jvm.exec) (hb : c.code = cc) (hC : xCtx X) (hW : X.s.WarmedH s.vm) (hR : xRel X h H) {a : Nat} {j : Int32} (ha : xA h.1 a .int) (hj : vp_in j (xlen h.1 a)) (hdg : decode cc pc = .ok (.iaload, 1))
    (kk : W p l e R s m args below meth c H locs cells slots Q (F0 m (pc + 1) ls (.int (h.2.1 a j.toNatClampNeg) :: rest))) : W p l e R s m args below meth c H locs cells slots Q (F0 m pc ls (.int j :: .ref (X.ad a) :: rest)) := by
  obtain ⟨cell, c1, c2, c3, c4, c5, c6⟩ := xrow hW.alike hR (fun ty h => (hC.2 ty h).1) (Or.inl rfl) ha
  exact W.iald hexec hb c1 c2 c3 (x_in hj c5) (c6 _ (x_lt hj)) rfl rfl hdg kk
theorem x_zald (hexec : p.tables.exec = Jvm.exec) (hb : c.code = cc) (hC : xCtx X) (hW : X.s.WarmedH s.vm) (hR : xRel X h H) {a : Nat} {j : Int32} (ha : xA h.1 a .boolean) (hj : vp_in j (xlen h.1 a)) (hdg : decode cc pc = .ok (.baload, 1))
    (kk : W p l e R s m args below meth c H locs cells slots Q (F0 m (pc + 1) ls (.int (h.2.1 a j.toNatClampNeg) :: rest))) : W p l e R s m args below meth c H locs cells slots Q (F0 m pc ls (.int j :: .ref (X.ad a) :: rest)) := by
  obtain ⟨cell, c1, c2, c3, c4, c5, c6⟩ := xrow hW.alike hR (fun ty h => (hC.2 ty h).1) (Or.inr (Or.inl rfl)) ha
  exact W.zald hexec hb c1 c2 c3 (x_in hj c5) (c6 _ (x_lt hj)) rfl rfl hdg kk
theorem x_lald (hexec : p.tables.exec = Jvm.exec) (hb : c.code = cc) (hC : xCtx X) (hW : X.s.WarmedH s.vm) (hR : xRel X h H) {a : Nat} {j : Int32} (ha : xA h.1 a .long) (hj : vp_in j (xlen h.1 a)) (hdg : decode cc pc = .ok (.laload, 1))
    (kk : W p l e R s m args below meth c H locs cells slots Q (F0 m (pc + 1) ls (.long (h.2.2 a j.toNatClampNeg) :: rest))) : W p l e R s m args below meth c H locs cells slots Q (F0 m pc ls (.int j :: .ref (X.ad a) :: rest)) := by
  obtain ⟨cell, c1, c2, c3, c4, c5, c6⟩ := xrow hW.alike hR (fun ty h => (hC.2 ty h).1) (Or.inr (Or.inr rfl)) ha
  exact W.lald hexec hb c1 c2 c3 (x_in hj c5) (c6 _ (x_lt hj)) rfl rfl hdg kk
theorem x_alen (hexec : p.tables.exec = Jvm.exec) (hb : c.code = cc) (hC : xCtx X) (hW : X.s.WarmedH s.vm) (hR : xRel X h H) {a : Nat} (ha : xA h.1 a .int) (hdg : decode cc pc = .ok (.arraylength, 1))
    (kk : W p l e R s m args below meth c H locs cells slots Q (F0 m (pc + 1) ls (.int (nI (xlen h.1 a)) :: rest))) : W p l e R s m args below meth c H locs cells slots Q (F0 m pc ls (.ref (X.ad a) :: rest)) := by
  obtain ⟨cell, c1, c2, c3, c4, c5, c6⟩ := xrow hW.alike hR (fun ty h => (hC.2 ty h).1) (Or.inl rfl) ha
  exact W.alen hexec hb c1 c2 c4 rfl rfl hdg kk
/-- a row's cell, for writing -/
theorem x_wrow (hC : xCtx X) (hW : X.s.WarmedH s.vm) (hR : xRel X h H) {a : Nat} {ty : FieldType} (hty : ty = .int ∨ ty = .boolean ∨ ty = .long) (ha : xW h.1 a ty) :
    H[X.ad a]? = some (arrV (X.ca ty) (xlen h.1 a) (xav ty (h.2.1 a) (h.2.2 a))) ∧ s.isArrayOf (arrV (X.ca ty) (xlen h.1 a) (xav ty (h.2.1 a) (h.2.2 a))) ty := by
  have hc := hR.2.2.2.2 a _ ha.1
  unfold xcell at hc
  exact ⟨hc.2 ha.2, State.isArrayOf_alike hW.alike ((hC.2 ty hty).1 _ _)⟩
theorem x_rowset {a : Nat} {ty : FieldType} {I : Nat → Nat → Int32} {J : Nat → Nat → Int64} (hR : xRel X h H) (ha : xW h.1 a ty) {H' : Heap} (hI : ∀ k, k ≠ a → I k = h.2.1 k) (hJ : ∀ k, k ≠ a → J k = h.2.2 k)
    (e1 : H'[X.ad a]? = some (arrV (X.ca ty) (xlen h.1 a) (xav ty (I a) (J a)))) (e2 : H'.size = H.size) (e3 : ∀ q : Nat, q ≠ X.ad a → H'[q]? = H[q]?) : xRel X (h.1, I, J) H' := by
  refine xRel_set (h' := (h.1, I, J)) hR ha.2 rfl (fun k hk => ⟨rfl, hI k hk, hJ k hk⟩) ha.1 ?_ e2 e3
  have h4 := ha.2
  unfold xcell
  exact ⟨fun h9 => absurd h9 (by omega), fun _ => e1⟩
theorem x_xav_up {I : Nat → Nat → Int32} {J : Nat → Nat → Int64} {a j : Nat} {x : Int32} {ty : FieldType} (hty : ty ≠ .long) : updV (xav ty (I a) (J a)) j (.int x) = xav ty (xup I a j x a) (J a) := by
  funext b
  have h1 : ∀ (I' : Nat → Int32), xav ty I' (J a) b = .int (I' b) := fun I' => by cases ty <;> first | rfl | exact absurd rfl hty
  unfold updV
  rw [h1, h1]
  unfold xup
  by_cases hb : b = j
  · rw [if_pos hb, if_pos ⟨rfl, hb⟩]
  · rw [if_neg hb, if_neg (fun q => hb q.2)]
theorem x_xup_ne {I : Nat → Nat → Int32} {a j k : Nat} {x : Int32} (hk : k ≠ a) : xup I a j x k = I k := by
  funext b; unfold xup; rw [if_neg (fun q => hk q.1)]
theorem x_iast (hexec : p.tables.exec = Jvm.exec) (hb : c.code = cc) (hC : xCtx X) (hW : X.s.WarmedH s.vm) (hR : xRel X h H) {a : Nat} {j x : Int32} (ha : xW h.1 a .int) (hj : vp_in j (xlen h.1 a)) (hdg : decode cc pc = .ok (.iastore, 1))
    (kk : ∀ (H1 : Heap) (q : Loc), X.s.heap.size ≤ q.base → xRel X (h.1, xup h.2.1 a j.toNatClampNeg x, h.2.2) H1 → W p l e R s m args below meth c H1 (locs ++ [q]) cells slots Q (F0 m (pc + 1) ls rest)) :
    W p l e R s m args below meth c H locs cells slots Q (F0 m pc ls (.int x :: .int j :: .ref (X.ad a) :: rest)) := by
  obtain ⟨c1, c2⟩ := x_wrow hC hW hR (Or.inl rfl) ha
  refine W.iast hexec hb c1 c2 (fun h => by cases h) (x_in hj (by rw [arrV_size]; exact Nat.le_refl _)) rfl rfl hdg fun H' e1 e2 e3 => ?_
  refine kk H' _ (by show X.s.heap.size ≤ X.ad a; rw [xad_hi ha.2]; omega) (x_rowset hR ha (fun k hk => x_xup_ne hk) (fun _ _ => rfl) ?_ e2 e3)
  rw [e1, arrV_store, x_xav_up (fun h => by cases h)]
theorem x_zast (hexec : p.tables.exec = Jvm.exec) (hb : c.code = cc) (hC : xCtx X) (hW : X.s.WarmedH s.vm) (hR : xRel X h H) {a : Nat} {j x : Int32} (ha : xW h.1 a .boolean) (hj : vp_in j (xlen h.1 a)) (hx : x = 0 ∨ x = 1) (hdg : decode cc pc = .ok (.bastore, 1))
    (kk : ∀ (H1 : Heap) (q : Loc), X.s.heap.size ≤ q.base → xRel X (h.1, xup h.2.1 a j.toNatClampNeg x, h.2.2) H1 → W p l e R s m args below meth c H1 (locs ++ [q]) cells slots Q (F0 m (pc + 1) ls rest)) :
    W p l e R s m args below meth c H locs cells slots Q (F0 m pc ls (.int x :: .int j :: .ref (X.ad a) :: rest)) := by
  obtain ⟨c1, c2⟩ := x_wrow hC hW hR (Or.inr (Or.inl rfl)) ha
  have hn : narrow .boolean (.int x) = .int x := by rcases hx with rfl | rfl <;> decide +kernel
  refine W.zast hexec hb c1 c2 (fun h => by cases h) (x_in hj (by rw [arrV_size]; exact Nat.le_refl _)) rfl rfl hdg fun H' e1 e2 e3 => ?_
  refine kk H' _ (by show X.s.heap.size ≤ X.ad a; rw [xad_hi ha.2]; omega) (x_rowset hR ha (fun k hk => x_xup_ne hk) (fun _ _ => rfl) ?_ e2 e3)
  rw [e1, hn, arrV_store, x_xav_up (fun h => by cases h)]
theorem x_last (hexec : p.tables.exec = Jvm.exec) (hb : c.code = cc) (hC : xCtx X) (hW : X.s.WarmedH s.vm) (hR : xRel X h H) {a : Nat} {j : Int32} {x : Int64} (ha : xW h.1 a .long) (hj : vp_in j (xlen h.1 a)) (hdg : decode cc pc = .ok (.lastore, 1))
    (kk : ∀ (H1 : Heap) (q : Loc), X.s.heap.size ≤ q.base → xRel X (h.1, h.2.1, xupL h.2.2 a j.toNatClampNeg x) H1 → W p l e R s m args below meth c H1 (locs ++ [q]) cells slots Q (F0 m (pc + 1) ls rest)) :
    W p l e R s m args below meth c H locs cells slots Q (F0 m pc ls (.long x :: .int j :: .ref (X.ad a) :: rest)) := by
  obtain ⟨c1, c2⟩ := x_wrow hC hW hR (Or.inr (Or.inr rfl)) ha
  refine W.last hexec hb c1 c2 (fun h => by cases h) (x_in hj (by rw [arrV_size]; exact Nat.le_refl _)) rfl rfl hdg fun H' e1 e2 e3 => ?_
  refine kk H' _ (by show X.s.heap.size ≤ X.ad a; rw [xad_hi ha.2]; omega) (x_rowset hR ha (fun _ _ => rfl) (fun k hk => by funext b; unfold xupL; rw [if_neg (fun q => hk q.1)]) ?_ e2 e3)
  rw [e1, arrV_store]
  congr 2
  funext b
  unfold updV xav xupL
  by_cases hb : b = j.toNatClampNeg
  · simp [hb]
  · simp [hb]
theorem x_zer_ne {I : Nat → Nat → Int32} {n k : Nat} (hk : k < n) : xzer I n k = I k := by
  funext b; unfold xzer; rw [if_neg (by omega)]
theorem x_zerL_ne {I : Nat → Nat → Int64} {n k : Nat} (hk : k < n) : xzerL I n k = I k := by
  funext b; unfold xzerL; rw [if_neg (by omega)]
/-- a new row -/
theorem x_newa (hexec : p.tables.exec = Jvm.exec) (hb : c.code = cc) (hC : xCtx X) (hW : X.s.WarmedH s.vm) (hR : xRel X h H) {t : ArrayType} (ht : newarray.typeOf t = .int ∨ newarray.typeOf t = .boolean ∨ newarray.typeOf t = .long) {n : Int32} (hn : ¬ n < 0) (hn2 : n.toNatClampNeg ≤ 65536) (hdg : decode cc pc = .ok (.newarray t, 2))
    (hcells : cells + 1 ≤ R.cells) (hslots : slots + n.toNatClampNeg ≤ R.slots)
    (kk : ∀ (H1 : Heap), xRel X (h.1 ++ [.inl (newarray.typeOf t, n.toNatClampNeg)], xzer h.2.1 h.1.length, xzerL h.2.2 h.1.length) H1 → W p l e R s m args below meth c H1 locs (cells + 1) (slots + n.toNatClampNeg) Q (F0 m (pc + 2) ls (.ref (X.ad h.1.length) :: rest))) :
    W p l e R s m args below meth c H locs cells slots Q (F0 m pc ls (.int n :: rest)) := by
  obtain ⟨a1, a2, a3⟩ := hC.2 _ ht
  have hcb : n.toNatClampNeg * componentBytes (newarray.typeOf t) ≤ 536870912 := by
    have : componentBytes (newarray.typeOf t) ≤ 8 := by cases t <;> decide
    calc n.toNatClampNeg * componentBytes (newarray.typeOf t) ≤ 65536 * 8 := Nat.mul_le_mul hn2 this
      _ ≤ 536870912 := by decide
  refine va_newaK hexec hb (a3 s args hW) rfl hdg rfl hn rfl hcb hcells hslots rfl fun H1 cA e1 z1 o1 hAr hNm => ?_
  have hcA : cA = X.ca (newarray.typeOf t) := by
    have := hNm
    rw [hW.alike.findClass] at this
    exact Option.some.inj (this.symm.trans a2)
  subst hcA
  have hk := kk H1 ?_
  · rw [xad_new hR] at hk
    exact hk
  · refine xRel_add (z := .inl (newarray.typeOf t, n.toNatClampNeg)) hR rfl (fun k hk => ⟨x_zer_ne hk, x_zerL_ne hk⟩) ?_ z1 o1
    unfold xcell
    have h4 := hR.1
    refine ⟨fun h9 => absurd h9 (by omega), fun _ => ?_⟩
    rw [xad_new hR, e1]
    congr 2
    funext b
    have z9 : xzer h.2.1 h.1.length h.1.length b = 0 := by unfold xzer; rw [if_pos rfl]
    have z8 : xzerL h.2.2 h.1.length h.1.length b = 0 := by unfold xzerL; rw [if_pos rfl]
    show defaultValue _ = xav (newarray.typeOf t) (xzer h.2.1 h.1.length h.1.length) (xzerL h.2.2 h.1.length h.1.length) b
    rcases ht with e | e | e
    · rw [e]; unfold xav; rw [z9]; rfl
    · rw [e]; unfold xav; rw [z9]; rfl
    · rw [e]; unfold xav; rw [z8]; rfl
/-- a new object -/
theorem x_new (hexec : p.tables.exec = Jvm.exec) (hb : c.code = cc) (hC : xCtx X) (hW : X.s.WarmedH s.vm) (hR : xRel X h H) {own : String} (hown : s.vm.findClass own = some m.cls) {k ci N : Nat} {C : String} {T : u_T} {ty : Nat → FieldType} (hc : xCls X ci C T N ty)
    (hk : xk X (.classLink own k C)) (hi : xk X (.instantiable C N)) (hini : xk X (.initialized C)) (hty : ∀ j, j < N → ty j = .int ∨ ty j = .boolean ∨ defaultValue (ty j) = .null) (hdg : decode cc pc = .ok (.new k, 3))
    (hcells : cells + 1 ≤ R.cells) (hslots : slots + N ≤ R.slots)
    (kk : ∀ (H1 : Heap), xRel X (h.1 ++ [.inr (ci, X.df ci)], xzer h.2.1 h.1.length, xzerL h.2.2 h.1.length) H1 → W p l e R s m args below meth c H1 locs (cells + 1) (slots + N) Q (F0 m (pc + 3) ls (.ref (X.ad h.1.length) :: rest))) :
    W p l e R s m args below meth c H locs cells slots Q (F0 m pc ls rest) := by
  have hK : va_K X.D X.cl [] s := va_K.moved hW.alike hC.1
  have hKn := hK.1 ci _ hc.2.1
  refine W.newcK hexec hb hown (hk s args hW) (hi s args hW) (hini s args hW) rfl hdg hcells hslots hKn.2.1 rfl fun H1 kC hkC e1 z1 o1 => ?_
  have hk := kk H1 ?_
  · rw [xad_new hR] at hk
    exact hk
  · refine xRel_add (z := .inr (ci, X.df ci)) hR rfl (fun k hk => ⟨x_zer_ne hk, x_zerL_ne hk⟩) ?_ z1 o1
    unfold xcell
    refine ⟨hR.1, fun h9 => absurd h9 (by have := hc.1; show ¬ 100 ≤ ci; omega), fun _ => ⟨rfl, fun _ _ q => q, _, hc.2.1, ?_⟩⟩
    rw [xad_new hR]
    refine (u_born (args := args) ty (fun w hw => hc.2.2.1 w hw s args hW) (fun w hw => hw) hKn hkC e1 hc.2.2.2.1).to (fun j hj => ?_)
    have hd := hc.2.2.2.2.2.2 j hj
    have z9 : xzer h.2.1 h.1.length h.1.length j = 0 := by unfold xzer; rw [if_pos rfl]
    unfold xfv
    simp only [hd]
    rcases hty j hj with e | e | e
    · rw [e]; show Value.int 0 = Value.int (xzer h.2.1 h.1.length h.1.length j); rw [z9]
    · rw [e]; show Value.int 0 = Value.int (xzer h.2.1 h.1.length h.1.length j); rw [z9]
    · rw [e]; rfl
end XN
