section XR
variable {l : Launch} {X : xX} {lk : Nat → Nat → Option xL} {mt : Nat → Option xM} {mi : Nat → xMI}
def xAft (o : xO) (K : Option Value → Prop) (T : Nat → Prop) : Prop := match o with
  | .inl v => K v
  | .inr x => T x
def xCon (l : Launch) (X : xX) (mi : Nat → xMI) (mt : Nat → Option xM) (d mid : Nat) (as : List Value) (h : xH) (o : xO) (h' : xH) : Prop := ∀ M, mt mid = some M →
  xMet l (mi mid).1 [xcond (mi mid) M.2.2.1] (xroom d (h'.1.length - h.1.length) (xsl X h'.1 - xsl X h.1)) (xPc X as h) (xQc X o h') (fun a => X.s.heap.size ≤ a)
theorem xinv {p : Program} {e : Env} {R : Room} {s : State} {m : MethodId} {args : Array Value} {below : List Frame} {meth : Method} {c : Code} {H : Heap} {locs : List Loc} {cells slots : Nat} {cc : ByteArray} {pc : Nat} {ls : Array Slot} {h : xH} {own : String}
    (hexec : p.tables.exec = Jvm.exec) (hb : c.code = cc) (hC : xCtx X) (hW : X.s.WarmedH s.vm) (hR : xRel X h H) (hown : s.vm.findClass own = some m.cls) {lk1 : Nat → Option xL} (hT : ∀ k q, lk1 k = some q → xLm X mi own k q) {i : Instr} (hdg : decode cc pc = .ok (i, 3)) {mid n : Nat} (hK : xK lk1 i = some (mid, n))
    {M : xM} (hMt : xMt X lk mi mid M) {as rest : List Value} (hn : as.length = n) (hrc : xrc lk1 i as h.1) {mk : MethodId} {methY : Method} (h1 : s.methodNamed? (mi mid).1 = some mk) (h2 : s.vm.method? mk = some methY) (h3 : parseMethodDescriptor (mi mid).1.desc = some methY.sig)
    {T : State} (hTh : T.heap = H) (Y : Stand p l e R s m args below meth c T locs cells slots) :
    xInv p l e R s m args below meth c T locs cells slots (F0 m pc ls ((as.map (xva X.ad)).reverse ++ rest)) rest mk (as.map (xva X.ad)).toArray := by
  subst hb
  obtain ⟨m1, m2, m3, m4, m5, m6, m7, m8, m9, m10, m11⟩ := hMt
  have hnp : ∀ {np : Nat}, (parseMethodDescriptor (mi mid).1.desc).map (fun z => z.parameters.length) = some np → methY.sig.parameters.length = np := fun {np} hq => by
    rw [h3] at hq
    exact Option.some.inj hq
  have hcdG : (mi mid).2.2.2 = [] → (mi mid).2.2.1 = none → (Cond.code (mi mid).1 (mi mid).2.1 M.2.2.1 none).before args s = true := fun q1 q2 => by
    have q3 := m8 s args hW
    unfold xcond at q3
    rw [q1, q2] at q3
    exact q3
  unfold xK at hK
  unfold xrc at hrc
  split at hK
  · split at hK
    · rename_i hlk
      simp only [Option.some.injEq, Prod.mk.injEq] at hK
      obtain ⟨rfl, rfl⟩ := hK
      obtain ⟨⟨np, g1, g2, -⟩, g3, -⟩ := (hT _ _ hlk).1 rfl
      exact xInvS Y hexec hown ((g3 rfl).1 s args hW) ((g3 rfl).2 s args hW) (m3 s args hW) m2 h1 h2 rfl (by rw [List.length_map, hn, hnp g1]; exact g2 (by show 0 < 2; decide)) rfl hdg
    · rename_i hlk
      simp only [Option.some.injEq, Prod.mk.injEq] at hK
      obtain ⟨rfl, rfl⟩ := hK
      obtain ⟨⟨np, g1, g2, -⟩, -, g3, -⟩ := (hT _ _ hlk).1 rfl
      obtain ⟨g4, host, g5⟩ := g3 rfl
      exact xInvSN Y hexec hown (g5 s args hW) (g4 s args hW) (m3 s args hW) m2 h1 h2 rfl (by rw [List.length_map, hn, hnp g1]; exact g2 (by show 1 < 2; decide)) rfl hdg
    · cases hK
  · split at hK
    · rename_i hlk
      simp only [Option.some.injEq, Prod.mk.injEq] at hK
      obtain ⟨rfl, rfl⟩ := hK
      obtain ⟨⟨np, g1, -, g2⟩, -, -, g3, -⟩ := (hT _ _ hlk).1 rfl
      obtain ⟨g4, g5, g6, TT, N, ty, g7⟩ := g3 rfl
      dsimp only at hrc
      rw [hlk] at hrc
      obtain ⟨o, r, rfl, rs, hrs⟩ := hrc
      obtain ⟨-, -, -, cell, q1, q2, q3, -, ⟨kC, hfc, -⟩, -⟩ := x_obj hC hW hR hrs g7
      have hlen : r.length + 1 = np + 1 := by have g9 := g2 (by show 2 ≤ 2; decide); dsimp only at g9; simp only [List.length_cons] at hn; omega
      have key := xInvV (c := c) Y hexec hown (g4 s args hW) (g5 s args hW) (g6 s args hW) m2 h1 h2 (by rw [hTh]; exact q1) (by rw [q3]; rfl) (by rw [q2]; exact hfc) (g := F0 m pc ls ((r.map (xva X.ad)).reverse ++ .ref (X.ad o) :: rest)) rfl (argsL := r.map (xva X.ad)) (rest := rest) (by rw [List.length_map, hnp g1]; omega) rfl hdg
      simpa [xva] using key
    · cases hK
  · split at hK
    · rename_i hlk
      simp only [Option.some.injEq, Prod.mk.injEq] at hK
      obtain ⟨rfl, rfl⟩ := hK
      obtain ⟨⟨np, g1, -, g2⟩, -, -, -, g3, -⟩ := (hT _ _ hlk).1 rfl
      obtain ⟨g4, g5, g6, g7, g8⟩ := g3 rfl
      obtain ⟨o, r, rfl⟩ := hrc
      have hlen : r.length + 1 = np + 1 := by have g9 := g2 (by show 2 ≤ 4; decide); dsimp only at g9; simp only [List.length_cons] at hn; omega
      have hcd := hcdG g8 g7
      have key := xInvI (c := c) Y hexec hown g6 (g4 s args hW) (g5 s args hW) hcd m2 h1 (g := F0 m pc ls ((r.map (xva X.ad)).reverse ++ .ref (X.ad o) :: rest)) rfl (a := X.ad o) (argsL := r.map (xva X.ad)) (rest := rest) (fun sig hs => by rw [List.length_map]; have := hnp g1; rw [h3] at hs; cases hs; omega) rfl hdg
      simpa [xva] using key
    · rename_i hlk
      simp only [Option.some.injEq, Prod.mk.injEq] at hK
      obtain ⟨rfl, rfl⟩ := hK
      obtain ⟨⟨np, g1, -, g2⟩, -, -, -, -, g3⟩ := (hT _ _ hlk).1 rfl
      obtain ⟨g5, g6, g7, g8, host, g4⟩ := g3 rfl
      obtain ⟨o, r, rfl⟩ := hrc
      have hlen : r.length + 1 = np + 1 := by have g9 := g2 (by show 2 ≤ 5; decide); dsimp only at g9; simp only [List.length_cons] at hn; omega
      have hcd := hcdG g8 g7
      have key := xInvIN (c := c) Y hexec hown g6 (g4 s args hW) (g5 s args hW) hcd m2 h1 (g := F0 m pc ls ((r.map (xva X.ad)).reverse ++ .ref (X.ad o) :: rest)) rfl (a := X.ad o) (argsL := r.map (xva X.ad)) (rest := rest) (fun sig hs => by rw [List.length_map]; have := hnp g1; rw [h3] at hs; cases hs; omega) rfl hdg
      simpa [xva] using key
    · cases hK
  · cases hK
/-- a call, by the contract of the pure run -/
theorem xcallP {p : Program} {e : Env} {R : Room} {s : State} {m : MethodId} {args : Array Value} {below : List Frame} {meth : Method} {c : Code} {H : Heap} {locs : List Loc} {cells slots : Nat} {Q : State → Prop} {cc : ByteArray} {pc : Nat} {ls : Array Slot} {h : xH} {own : String}
    (hexec : p.tables.exec = Jvm.exec) (hb : c.code = cc) (hml : c.maxLocals = ls.size) (hC : xCtx X) (hW : X.s.WarmedH s.vm) (hR : xRel X h H) (hown : s.vm.findClass own = some m.cls) {lk1 : Nat → Option xL} (hT : ∀ k q, lk1 k = some q → xLm X mi own k q) {i : Instr} (hdg : decode cc pc = .ok (i, 3)) {mid n d : Nat} (hK : xK lk1 i = some (mid, n))
    {M : xM} (hmid : mt mid = some M) (hMt : xMt X lk mi mid M) {st : List Value} (hn : n ≤ st.length) (h8 : ((st.drop n).map fun v => v.category).sum ≤ 8) (hrc : xrc lk1 i (st.take n).reverse h.1) {o1 : xO} {h1 : xH} (hcon : xCon l X mi mt d mid (st.take n).reverse h o1 h1)
    (hfr : d + 6 + 1 ≤ R.frames) (hlo : 8 + (12 + 11) + (31 * d + 100) ≤ R.locals) (hce : cells + (h1.1.length - h.1.length) ≤ R.cells) (hsl : slots + (xsl X h1.1 - xsl X h.1) ≤ R.slots) (hlocs : ∀ q ∈ locs, X.s.heap.size ≤ q.base)
    (kk : ∀ (H1 : Heap) (locs1 : List Loc), xRel X h1 H1 → (∀ q ∈ locs1, X.s.heap.size ≤ q.base) → xAft o1
      (fun v => W p l e R s m args below meth c H1 locs1 (cells + (h1.1.length - h.1.length)) (slots + (xsl X h1.1 - xsl X h.1)) Q (F0 m (pc + 3) ls ((v.toList ++ st.drop n).map (xva X.ad))))
      (fun x => xT p l e R s m args below meth c H1 locs1 (cells + (h1.1.length - h.1.length)) (slots + (xsl X h1.1 - xsl X h.1)) Q (F0 m pc ls ((st.drop n).map (xva X.ad))) (X.ad x))) :
    W p l e R s m args below meth c H locs cells slots Q (F0 m pc ls (st.map (xva X.ad))) := by
  have hm8 := hMt.2.2.2.2.2.2.2.1
  obtain ⟨mk, methY, cY, e1, e2, e3, e4, e5, e6, e7, e8, e9⟩ := xcond_spec (hm8 s args hW)
  obtain ⟨kY, hkY, -⟩ := className_of_methodNamed e1
  have hinitY : kY.init = .initialized := Cond.initialized_spec (findClass_of_methodNamed e1) hkY (hMt.2.2.1 s args hW)
  have hst : st.map (xva X.ad) = (((st.take n).reverse.map (xva X.ad))).reverse ++ (st.drop n).map (xva X.ad) := by
    rw [← List.map_reverse, List.reverse_reverse, ← List.map_append, List.take_append_drop]
  rw [hst]
  refine xcallW (maxL := M.2.2.1) (hcon M hmid) hfr (by show 8 + (M.2.2.1 + 11) + (31 * d + 100) ≤ _; have := hMt.2.2.2.2.1; omega) hce hsl e1 e2 e3 e5 hkY hinitY (a := ((st.take n).reverse.map (xva X.ad)).toArray) (fun U hU => atoms_intro fun w hw => by rw [List.mem_singleton.mp hw]; exact hm8 U _ (State.WarmedH.trans hW hU)) (by rw [hml]) (by rw [hb]; exact hdg) (by rw [xcat_map]; exact h8)
    (fun T hTh Y => xinv hexec hb hC hW hR hown hT hdg hK hMt (by simp; omega) hrc e1 e2 e9 hTh Y) (fun U g hU hWU => ⟨rfl, State.WarmedH.trans hW hWU, by show xRel X h U.heap; rw [hU]; exact hR⟩) ?_
  intro o st0 t L hst0 hw0 hwt hq hL
  obtain ⟨ho, hRt⟩ := hq
  have hk := kk t.heap (locs ++ L) hRt (fun q hq9 => (List.mem_append.mp hq9).elim (hlocs q) (hL q))
  cases o1 with
  | inl v =>
    have ho : o = .returned (v.map (xva X.ad)) := ho
    subst ho
    have : (v.map (xva X.ad)).toList ++ (st.drop n).map (xva X.ad) = (v.toList ++ st.drop n).map (xva X.ad) := by cases v <;> simp
    dsimp only
    rw [this]
    exact hk
  | inr x =>
    have ho : o = .threw (X.ad x) := ho
    subst ho
    exact hk
theorem xret_W {p : Program} {e : Env} {R : Room} {s : State} {m : MethodId} {args : Array Value} {below : List Frame} {meth : Method} {c : Code} {H : Heap} {locs : List Loc} {cells slots : Nat} {cc : ByteArray} {pc : Nat} {ls : Array Slot} {h : xH} {rk : Nat} {rt : Option FieldType}
    (hexec : p.tables.exec = Jvm.exec) (hb : c.code = cc) (hret : meth.sig.returnType = rt) (hlocks : meth.locks = false) (hrk : (rk = 0 ∧ rt = none) ∨ (rk = 1 ∧ rt = some .int) ∨ (rk = 2 ∧ rt = some .boolean) ∨ (rk = 3 ∧ ∃ n, rt = some (.object n)))
    {i : Instr} {st : List Value} {ps : List Prop} {v : Option Value} (hdg : decode cc pc = .ok (i, 1)) (hQ : xQ rk i st = some (ps, v)) (hps : xAll ps) (hR : xRel X h H) (hlocs : ∀ q ∈ locs, X.s.heap.size ≤ q.base) :
    W p l e R s m args below meth c H locs cells slots (xMQ below (xQc X (.inl v) h) args s cells slots (fun a => X.s.heap.size ≤ a)) (F0 m pc ls (st.map (xva X.ad))) := by
  refine xW_mono (fun t => xMQ_of) ?_
  have hq : ∀ t : State, t.heap = H → s.WarmedH t.vm → xQc X (.inl v) h args s (.returned (v.map (xva X.ad))) t := fun t ht _ => ⟨rfl, by rw [ht]; exact hR⟩
  unfold xQ at hQ
  split at hQ
  · simp only [Option.some.injEq, Prod.mk.injEq] at hQ
    obtain ⟨rfl, rfl⟩ := hQ
    rcases hrk with ⟨-, h2⟩ | ⟨h1, -⟩ | ⟨h1, -⟩ | ⟨h1, -⟩
    · exact W.vret hexec hb (hret.trans h2) hq hlocs hdg hlocks
    · cases h1
    · cases h1
    · cases h1
  · simp only [Option.some.injEq, Prod.mk.injEq] at hQ
    obtain ⟨rfl, rfl⟩ := hQ
    rcases hrk with ⟨h1, -⟩ | ⟨-, h2⟩ | ⟨h1, -⟩ | ⟨h1, -⟩
    · cases h1
    · exact W.iret hexec hb (hret.trans h2) hq hlocs hdg hlocks
    · cases h1
    · cases h1
  · simp only [Option.some.injEq, Prod.mk.injEq] at hQ
    obtain ⟨rfl, rfl⟩ := hQ
    rcases hrk with ⟨h1, -⟩ | ⟨h1, -⟩ | ⟨-, h2⟩ | ⟨h1, -⟩
    · cases h1
    · cases h1
    · exact W.zret hexec hb (hret.trans h2) (by rcases hps with rfl | rfl <;> decide +kernel) hq hlocs hdg hlocks
    · cases h1
  · simp only [Option.some.injEq, Prod.mk.injEq] at hQ
    obtain ⟨rfl, rfl⟩ := hQ
    rcases hrk with ⟨h1, -⟩ | ⟨h1, -⟩ | ⟨h1, -⟩ | ⟨-, n, h2⟩
    · cases h1
    · cases h1
    · cases h1
    · exact W.aret hexec hb (hret.trans h2) (Or.inl ⟨n, rfl⟩) (Or.inr ⟨_, rfl⟩) hq hlocs hdg hlocks
  · cases hQ
set_option maxHeartbeats 8000000 in
theorem xbody (htr : ∀ e, l.admits e → e.platform.stackTraces = false) (hC : xCtx X) (hB : xLib X) (hM : ∀ mid M, mt mid = some M → xMt X lk mi mid M) {d : Nat} (ih : ∀ mid as h o h', xV lk X.df mt d mid as h o h' → xCon l X mi mt d mid as h o h')
    {mid : Nat} {M : xM} (m4 : ∀ pc i len, xcd M.2.1 pc = some (i, len) → decode (mi mid).2.1 pc = .ok (i, len)) (m7 : M.2.2.2.2.1 = true → (mi mid).1.name = "<init>") (m9 : M.2.2.2.2.2 = none → (mi mid).2.2.2 = [])
    (m10 : ∀ a b t e, M.2.2.2.2.2 = some (a, b, t, e) → ∃ ct suf, (mi mid).2.2.2 = (a, b, t, ct) :: suf ∧ ct ≠ 0 ∧ 100 ≤ e % 1000 ∧ xk X (.classLink (mi mid).1.cls ct (X.ex (e % 1000))) ∧ xk X (.castable (X.ex (e % 1000)) (X.ex (e % 1000))) ∧ (1000 ≤ e → xH2 X (mi mid).1.cls a b e suf)) (m11 : ∀ k q, lk M.1 k = some q → xLk X (mi mid).1.cls k q ∧ xLm X mi (mi mid).1.cls k q)
    {h' : xH} {o : xO} {p : Program} {e : Env} {s : State} {m : MethodId} {args : Array Value} {below : List Frame} {meth : Method} {c : Code}
    (hexec : p.tables.exec = Jvm.exec) (hb : c.code = (mi mid).2.1) (hml : c.maxLocals = M.2.2.1) (hown : s.vm.findClass (mi mid).1.cls = some m.cls) (hret : meth.sig.returnType = (mi mid).2.2.1) (hlocks : meth.locks = false) (hname : meth.name = (mi mid).1.name)
    (htab : c.exceptionTable.toList.map (fun h => (h.startPc, h.endPc, h.handlerPc, h.catchType)) = (mi mid).2.2.2) (hW : X.s.WarmedH s.vm) {n0 z0 : Nat} {R : Room} {Q : State → Prop} (hRf : d + 1 + 6 ≤ R.frames) (hRl : 31 * (d + 1) + 100 ≤ R.locals) (hnR : h'.1.length ≤ R.cells + n0) (hzR : xsl X h'.1 ≤ R.slots + z0)
    (hth : ∀ x, o = .inr x → R.cells + n0 = h'.1.length ∧ R.slots + z0 = xsl X h'.1 ∧ Q = xMQ below (xQc X o h') args s R.cells R.slots (fun a => X.s.heap.size ≤ a))
    (hfin : ∀ (i : Instr) (pc : Nat) (st : List Value) (ps : List Prop) (v : Option Value) (H : Heap) (ls : Array Slot) (locs : List Loc) (cells slots : Nat), o = .inl v → decode (mi mid).2.1 pc = .ok (i, 1) → xQ M.2.2.2.1 i st = some (ps, v) → xAll ps → xRel X h' H → (∀ q ∈ locs, X.s.heap.size ≤ q.base) → cells + n0 = h'.1.length → slots + z0 = xsl X h'.1 →
      W p l e R s m args below meth c H locs cells slots Q (F0 m pc ls (st.map (xva X.ad)))) :
    ∀ (k : Nat) (f : xF) (h : xH) (H : Heap) (ls : Array Slot) (locs : List Loc) (cells slots : Nat), xR lk X.df (xV lk X.df mt d) M k f h o h' → xRel X h H → lv_has ls M.2.2.1 (xlv X.ad 0 f.2.1) → f.2.1.length = M.2.2.1 → (∀ q ∈ locs, X.s.heap.size ≤ q.base) → cells + n0 = h.1.length → slots + z0 = xsl X h.1 →
      W p l e R s m args below meth c H locs cells slots Q (F0 m f.1 ls (f.2.2.map (xva X.ad))) := by
  intro k
  induction k with
  | zero => intro f h H ls locs cells slots hr; exact hr.elim
  | succ k ihk =>
    intro f h H ls locs cells slots hr hR hL hLn hlocs hce hsl
    obtain ⟨i, len, hcd, hr⟩ := hr
    have hdg := m4 _ _ _ hcd
    rcases hr with ⟨ps, f1, h1, hE, hps, hr⟩ | ⟨b, t, r, hBr, hk1, hk2⟩ | ⟨mid', n, hK, hlen3, hn, h8, hrc, hr⟩ | ⟨ps, v, hQ, hlen1, hps, rfl, rfl⟩ | ⟨ex, hTh, hlen3, hnone, h8, rfl, rfl⟩
    · have hmono := xR_mono (X := X) (xV_mono d) k _ _ _ _ hr
      exact xstep hexec hb hml hC hB (fun k q hq => (m11 k q hq).1) hW hown (fun q => by rw [hname]; exact m7 q) (by omega) (by omega) hdg hE hps hR hL hLn hlocs hce hsl (by omega) (by omega)
        (fun H1 ls1 locs1 c1 s1 r1 r2 r3 r4 r5 r6 => ihk f1 h1 H1 ls1 locs1 c1 s1 hr r1 r2 r3 r4 r5 r6)
    · exact xbranch hexec hb hdg hBr (fun hb9 => ihk _ _ H ls locs cells slots (hk1 hb9) hR hL hLn hlocs hce hsl) (fun hb9 => ihk _ _ H ls locs cells slots (hk2 hb9) hR hL hLn hlocs hce hsl)
    · subst hlen3
      have hlsz : c.maxLocals = ls.size := by rw [hml]; exact hL.1.symm
      have callIt : ∀ (o1 : xO) (h1 : xH), xV lk X.df mt d mid' (f.2.2.take n).reverse h o1 h1 → h1.1.length ≤ h'.1.length → xsl X h1.1 ≤ xsl X h'.1 →
          (∀ (H1 : Heap) (locs1 : List Loc) (c1 s1 : Nat), c1 + n0 = h1.1.length → s1 + z0 = xsl X h1.1 → xRel X h1 H1 → (∀ q ∈ locs1, X.s.heap.size ≤ q.base) → xAft o1
            (fun v => W p l e R s m args below meth c H1 locs1 c1 s1 Q (F0 m (f.1 + 3) ls ((v.toList ++ f.2.2.drop n).map (xva X.ad))))
            (fun x => xT p l e R s m args below meth c H1 locs1 c1 s1 Q (F0 m f.1 ls ((f.2.2.drop n).map (xva X.ad))) (X.ad x))) →
          W p l e R s m args below meth c H locs cells slots Q (F0 m f.1 ls (f.2.2.map (xva X.ad))) := by
        intro o1 h1 hv hl1 hl2 kk
        have hmono := xV_mono (X := X) d _ _ _ _ _ hv
        have hcon := ih _ _ _ _ _ hv
        obtain ⟨M', hM'⟩ : ∃ M', mt mid' = some M' := by
          cases d with
          | zero => exact hv.elim
          | succ d => obtain ⟨M', h9, -⟩ := hv; exact ⟨M', h9⟩
        exact xcallP hexec hb hlsz hC hW hR hown (fun k q hq => (m11 k q hq).2) hdg hK hM' (hM mid' M' hM') hn h8 hrc hcon (by omega) (by omega) (by omega) (by omega) hlocs
          (fun H1 locs1 r1 r2 => kk H1 locs1 _ _ (by omega) (by omega) r1 r2)
      rcases hr with ⟨v, h1, hv, hr⟩ | ⟨x, h1, hv, hnone, rfl, rfl⟩ | ⟨x, h1, a, b, t, ec, hv, hsome, ha, hb9, hxc, hr⟩ | ⟨x, h1, a, b, t, ec, hv, hsome, ha, hb9, hec, hxc, hr⟩
      · have hmono := xR_mono (X := X) (xV_mono d) k _ _ _ _ hr
        exact callIt (.inl v) h1 hv hmono.1 hmono.2 (fun H1 locs1 c1 s1 r1 r2 r3 r4 => ihk _ _ H1 ls locs1 c1 s1 hr r3 hL hLn r4 r1 r2)
      · refine callIt (.inr x) h' hv (Nat.le_refl _) (Nat.le_refl _) (fun H1 locs1 c1 s1 r1 r2 r3 r4 => ?_)
        obtain ⟨g1, g2, rfl⟩ := hth x rfl
        obtain rfl : c1 = R.cells := by omega
        obtain rfl : s1 = R.slots := by omega
        have hnil : c.exceptionTable.toList = [] := by
          rw [m9 hnone] at htab
          exact List.map_eq_nil_iff.mp htab
        exact xT_out rfl rfl rfl (fun z hz => by rw [hnil] at hz; cases hz) hlocks (fun t ht _ => ⟨rfl, by rw [ht]; exact r3⟩) r4
      · have hmono := xR_mono (X := X) (xV_mono d) k _ _ _ _ hr
        refine callIt (.inr x) h1 hv hmono.1 hmono.2 (fun H1 locs1 c1 s1 r1 r2 r3 r4 => ?_)
        obtain ⟨ct, suf, t1, t2, t3, t4, t5, -⟩ := m10 a b t ec hsome
        rw [t1] at htab
        obtain ⟨x0, suf0, hx0, hx1, -⟩ : ∃ x0 suf0, c.exceptionTable.toList = x0 :: suf0 ∧ (x0.startPc, x0.endPc, x0.handlerPc, x0.catchType) = (a, b, t, ct) ∧ True := by
          cases hz : c.exceptionTable.toList with
          | nil => rw [hz] at htab; cases htab
          | cons x0 suf0 =>
            rw [hz] at htab
            simp only [List.map_cons, List.cons.injEq] at htab
            exact ⟨x0, suf0, rfl, htab.1, trivial⟩
        simp only [Prod.mk.injEq] at hx1
        obtain ⟨rfl, rfl, rfl, rfl⟩ := hx1
        obtain ⟨rs, hrs⟩ : ∃ rs, h1.1[x]? = some (.inr (ec % 1000, rs)) := by
          unfold xcl at hxc
          split at hxc
          · rename_i c9 rs9 h9
            cases hxc
            exact ⟨_, h9⟩
          · cases hxc
        have hcell := r3.2.2.2.2 x _ hrs
        unfold xcell at hcell
        obtain ⟨ce, w1, w2, w3⟩ := hcell.2.1 t3
        have hres := ihk _ _ H1 ls locs1 c1 s1 hr r3 hL hLn r4 r1 r2
        exact xT_catch hown hx0 (by unfold covers; simp [ha, hb9]) t2 (t4 s args hW) (t5 s args hW) w1 w2 (by rw [hW.alike.findClass]; exact w3) hres
      · have hmono := xR_mono (X := X) (xV_mono d) k _ _ _ _ hr
        refine callIt (.inr x) h1 hv hmono.1 hmono.2 (fun H1 locs1 c1 s1 r1 r2 r3 r4 => ?_)
        obtain ⟨ct, suf, t1, t2, t3, t4, t5, t6⟩ := m10 a b t ec hsome
        obtain ⟨ct2, suf2, q1, q2, q3, q4, q5, q6⟩ := t6 hec
        rw [t1, q1] at htab
        obtain ⟨x0, y0, suf0, hx0, hx1, hx2⟩ : ∃ x0 y0 suf0, c.exceptionTable.toList = x0 :: y0 :: suf0 ∧ (x0.startPc, x0.endPc, x0.handlerPc, x0.catchType) = (a, b, t, ct) ∧ (y0.startPc, y0.endPc, y0.handlerPc, y0.catchType) = (a, b, ec / 1000000, ct2) := by
          cases hz : c.exceptionTable.toList with
          | nil => rw [hz] at htab; cases htab
          | cons x0 suf0 =>
            rw [hz] at htab
            simp only [List.map_cons, List.cons.injEq] at htab
            cases suf0 with
            | nil => cases htab.2
            | cons y0 suf0 =>
              simp only [List.map_cons, List.cons.injEq] at htab
              exact ⟨x0, y0, suf0, rfl, htab.1, htab.2.1⟩
        simp only [Prod.mk.injEq] at hx1 hx2
        obtain ⟨e1, e2, e3, e4⟩ := hx1
        obtain ⟨g1, g2, g3, g4⟩ := hx2
        obtain ⟨rs, hrs⟩ : ∃ rs, h1.1[x]? = some (.inr (ec / 1000 % 1000, rs)) := by
          unfold xcl at hxc
          split at hxc
          · rename_i c9 rs9 h9
            cases hxc
            exact ⟨_, h9⟩
          · cases hxc
        have hcell := r3.2.2.2.2 x _ hrs
        unfold xcell at hcell
        obtain ⟨ce, w1, w2, w3⟩ := hcell.2.1 q3
        have hres := ihk _ _ H1 ls locs1 c1 s1 hr r3 hL hLn r4 r1 r2
        dsimp only at hres
        rw [← g3] at hres
        exact xT_catch2 hown hx0 (by unfold covers; simp [e1, e2, ha, hb9]) (by unfold covers; simp [g1, g2, ha, hb9]) (by rw [e4]; exact t2) (by rw [g4]; exact q2) (by rw [e4]; exact t4 s args hW) (by rw [g4]; exact q4 s args hW) (q5 s args hW)
          (fun c1 c2 f1 f2 => by rw [hW.alike.assignable]; exact q6 c1 c2 (by rw [← hW.alike.findClass]; exact f1) (by rw [← hW.alike.findClass]; exact f2)) w1 w2 (by rw [hW.alike.findClass]; exact w3) hres
    · subst hlen1
      exact hfin i f.1 f.2.2 ps v H ls locs cells slots rfl hdg hQ hps hR hlocs hce hsl
    · subst hlen3
      unfold xTh at hTh
      split at hTh
      · rename_i k1 a1 c1 e3 e4 e6 e9
        split at hTh
        · rename_i ex1 _ _ _ _ _ _ _ ex2 _ _ _ l1 l2 l3
          split at hTh
          · rename_i hee
            have hx1 := Option.some.inj hTh
            subst hee
            subst hx1
            obtain ⟨x1, x2, x3, x4, x5⟩ := (m11 _ _ l1).2.2.1 rfl
            obtain ⟨tx, sa, hvk⟩ := (m11 _ _ l2).2.2.2.1 rfl
            obtain ⟨names, y1, y2, y3⟩ := (m11 _ _ l3).2.2.2.2 rfl
            dsimp only at x1 x2 x3 x4 x5 y3
            have hzz : xsz X (.inr (ex1, [])) = 6 := by unfold xsz; dsimp only; rw [if_pos x1]
            obtain ⟨g1, g2, rfl⟩ := hth _ rfl
            simp only [xsl_add, hzz] at g2
            simp only [List.length_append, List.length_singleton] at g1
            have gc : cells + 1 = R.cells := by omega
            have gs : slots + 6 = R.slots := by omega
            rw [← gc, ← gs]
            have hnil : c.exceptionTable.toList = [] := by
              rw [m9 hnone] at htab
              exact List.map_eq_nil_iff.mp htab
            intro T hT Y
            have key := xthrow (l := l) (p := p) (e := e) (R := R) (s := s) (m := m) (args := args) (below := below) (meth := meth) (c := c) (H := H) (locs := locs) (cells := cells) (slots := slots)
              (Qc := xQc X (.inr h.1.length) (h.1 ++ [.inr (ex1, [])], h.2)) (free := fun a => X.s.heap.size ≤ a) hexec hb (htr e Y.admits) (own := (mi mid).1.cls) (cls := X.ex ex1) (tx := tx) (names := names) hown x5 y2 (x2 s args hW) (x3 s args hW) (x4 s args hW) (vk_R.warm hW hvk)
              (fun U hU hWU => y3 U args (fun q hq => by rw [hU]; exact hR.2.2.1 q hq) (State.WarmedH.trans hW hWU)) (pc := f.1) (ls := ls) (rest := f.2.2.map (xva X.ad)) (by rw [hml]; exact hL.1) hdg (m4 _ _ _ e3) (m4 _ _ _ e4) (m4 _ _ _ e6) (m4 _ _ _ e9)
              (fun z hz => by rw [hnil] at hz; cases hz) hlocks (by omega) (by rw [xcat_map]; omega) (by omega) (by omega)
              (fun t ce hWt hts hold hce9 hvm hcl => by
                refine ⟨by show _ = Outcome.threw (X.ad h.1.length); rw [xad_new hR], ?_⟩
                refine xRel_add (z := .inr (ex1, [])) hR rfl (fun _ _ => ⟨rfl, rfl⟩) ?_ hts hold
                unfold xcell
                refine ⟨hR.1, fun _ => ⟨ce, by rw [xad_new hR]; exact hce9, hvm, by rw [← hW.alike.findClass]; exact hcl⟩, fun h9 => absurd h9 (by show ¬ ex1 < 100; omega)⟩) hlocs
            exact key T hT Y
          · cases hTh
        · cases hTh
      · cases hTh
theorem xlv_none (ad : Nat → Nat) (k : Nat) : ∀ i, xlv ad i (List.replicate k none) = [] := by
  induction k with
  | zero => intro i; rfl
  | succ k ih => intro i; exact ih (i + 1)
theorem lg_sl_c (v : Value) (r : List Value) : lg_sl (v :: r) = (if v.category = 2 then [.val v, .second] else [.val v]) ++ lg_sl r := rfl
theorem xent_args (ad : Nat → Nat) (k : Nat) : ∀ (as : List Value) (i : Nat), xlv ad i (xent as ++ List.replicate k none) = lv_args i (as.map (xva ad)) ∧ (lg_sl (as.map (xva ad))).length = (xent as).length := by
  intro as
  induction as with
  | nil => intro i; exact ⟨xlv_none ad k i, rfl⟩
  | cons v r ih =>
    intro i
    cases v <;> (refine ⟨?_, ?_⟩
                 · simp only [xent, List.cons_append, xlv, List.map_cons, lv_args, xva, Value.category, (ih _).1]
                   simp
                 · have h9 := (ih 0).2
                   simp only [xent, List.map_cons, List.length_cons, ← h9]
                   rw [lg_sl_c, List.length_append]
                   simp only [xva, Value.category]
                   first | exact Nat.add_comm 1 _ | exact Nat.add_comm 2 _)
/-- A RUN OF THE PURE MACHINE IS A CONTRACT OF THE MACHINE -/
theorem xsound (htr : ∀ e, l.admits e → e.platform.stackTraces = false) (hC : xCtx X) (hB : xLib X) (hM : ∀ mid M, mt mid = some M → xMt X lk mi mid M) : ∀ (d mid : Nat) (as : List Value) (h : xH) (o : xO) (h' : xH), xV lk X.df mt d mid as h o h' → xCon l X mi mt d mid as h o h' := by
  intro d
  induction d with
  | zero => intro mid as h o h' hr; exact hr.elim
  | succ d ih =>
    intro mid as h o h' hr M hmid
    have hmono := xV_mono (X := X) (d + 1) _ _ _ _ _ hr
    obtain ⟨M9, hM9, hlen, k, hr⟩ := hr
    cases hmid.symm.trans hM9
    have hMt := hM mid M hmid
    refine xMet_of hMt.1 ?_
    intro p e s m args below meth c s₁ B hml hP
    obtain ⟨rfl, hW, hR⟩ := hP
    obtain ⟨m9, meth9, c9, e1, e2, e3, e4, e5, e6, e7, e8, e9⟩ := xcond_spec (hMt.2.2.2.2.2.2.2.1 s ((as.map (xva X.ad)).toArray) hW)
    cases B.named.symm.trans e1
    cases B.method.symm.trans e2
    have hc9 : c9 = c := by
      have h1 := (Stand.of_body B).code
      exact Option.some.inj (e3.symm.trans h1)
    subst hc9
    have hl := lv_entry (as.map (xva X.ad)) (n := M.2.2.1) (by rw [(xent_args X.ad 0 as 0).2]; exact hlen)
    rw [lg_entry_eq]
    generalize (lg_sl (as.map (xva X.ad)) ++ List.replicate (M.2.2.1 - (lg_sl (as.map (xva X.ad))).length) Slot.unset).toArray = ls at hl ⊢
    have key := xbody htr hC hB hM ih hMt.2.2.2.1 hMt.2.2.2.2.2.2.1 hMt.2.2.2.2.2.2.2.2.1 hMt.2.2.2.2.2.2.2.2.2.1 hMt.2.2.2.2.2.2.2.2.2.2 (h' := h') (o := o) (p := p) (e := e) (s := s) (m := m) (args := (as.map (xva X.ad)).toArray) (below := below) (meth := meth) (c := c9) B.exec B.bytes hml (findClass_of_methodNamed B.named) B.returns B.notSynchronized (name_of_methodNamed B.named B.method).1 e6 hW
      (n0 := h.1.length) (z0 := xsl X h.1) (R := xroom (d + 1) (h'.1.length - h.1.length) (xsl X h'.1 - xsl X h.1)) (Q := xMQ below (xQc X o h') ((as.map (xva X.ad)).toArray) s (h'.1.length - h.1.length) (xsl X h'.1 - xsl X h.1) (fun a => X.s.heap.size ≤ a)) (Nat.le_refl _) (Nat.le_refl _) (by show _ ≤ h'.1.length - h.1.length + _; omega) (by show _ ≤ xsl X h'.1 - xsl X h.1 + _; omega)
      (fun x hx => ⟨by show h'.1.length - h.1.length + _ = _; omega, by show xsl X h'.1 - xsl X h.1 + _ = _; omega, rfl⟩)
      (fun i pc st ps v H ls locs cells slots ho hdg hQ hps hR hlocs hce hsl => by
        subst ho
        obtain rfl : cells = h'.1.length - h.1.length := by omega
        obtain rfl : slots = xsl X h'.1 - xsl X h.1 := by omega
        exact xret_W B.exec B.bytes B.returns B.notSynchronized hMt.2.2.2.2.2.1 hdg hQ hps hR hlocs) k _ h s.heap ls [] 0 0 hr hR (by rw [(xent_args X.ad _ as 0).1]; exact hl) (by simp; omega) (fun q hq => by cases hq) (by omega) (by omega)
    exact key
end XR
