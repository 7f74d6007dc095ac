/-! The law's start, as the pure machine's. -/
def zSO : List Int32 := [17, 18, 0, 1, 2, 3, 4, 5, 16, 6, 7, 8, 9, 10, 11, 12, 13, 14, 15]
def zNX : List Int32 := [0, 1, 1, -1, 0, 2, 1, -1]
def zNY : List Int32 := [1, 0, 1, 1, 2, 0, 2, 2]
def zI0 (xs : Nat → Int32) : Nat → Nat → Int32 := fun k i => match k with
  | 0 => xs i
  | 1 => zSO.getD i 0
  | 2 => zNX.getD i 0
  | 3 => zNY.getD i 0
  | _ => 0
def zh0 (L : Nat) (xs : Nat → Int32) : xH := ([.inl (.int, L), .inl (.int, 19), .inl (.int, 8), .inl (.int, 8)], zI0 xs, fun _ _ => 0)
/-- WHAT IS LEFT TO PROVE, in the pure machine alone -/
def zPure : Prop := ∀ (L : Nat) (xs : Nat → Int32), L ≤ 2560 → ∃ (k : Nat) (h' : xH), xR zlk zdf (xV zlk zdf zmt 9) zm_W_law k (0, [some (.ref 0), none, none, none, none, none, none], []) (zh0 L xs) (.inl (some (.int 1))) h' ∧ h'.1.length ≤ 601024 + 4 ∧ ∀ X : xX, X.cl = zcl → xsl X h'.1 ≤ 7293034 + xsl X (zh0 L xs).1
theorem z_row {s : State} {args : Array Value} {n : String} {N : Nat} {f : Nat → Int32} (hN : N < 2 ^ 31) (harr : (Cond.arrayOf (.static "LosslessPixels" n "[I") .int).before args s = true) (hlen : (Cond.eq (.length (.static "LosslessPixels" n "[I")) (.int (Int32.ofNat N))).before args s = true)
    (hel : ∀ j : Nat, j < N → (Cond.eq (.elem (.static "LosslessPixels" n "[I") (.int (Int32.ofNat j))) (.int (f j))).before args s = true) : ∃ t : Nat, (Term.static "LosslessPixels" n "[I").eval args s none [] s = some (.ref t) ∧ va_T .int t N (fun j => .int (f j)) (fun q => s.heap.size ≤ q) s s.heap := by
  have eqi : ∀ {tm : Term} {z : Int32}, (Cond.eq tm (.int z)).before args s = true → tm.eval args s none [] s = some (.int z) := by
    intro tm z h
    cases hv : tm.eval args s none [] s with
    | none => simp [Cond.before, Cond.holds, Cond.value, hv] at h
    | some v =>
      simp [Cond.before, Cond.holds, Cond.value, hv] at h
      cases v <;> simp_all [Term.eval]
  exact va_Tof hN harr (eqi hlen) (fun j hj => eqi (hel j hj)) (fun a ha => Nat.not_le.mpr ha)
/-! THE CLAIM OUT OF ONE WALK OF THE LAW'S BODY. Your part is whole_start (and what it stands on); all else here is the same for every law, but numbers. -/
def R_law : String := "LosslessPixelsLaw"
def lw_P (b : Addr) (xs : List Int32) (args : Array Value) (s : State) : Prop := args = #[.ref b] ∧ s.IntsAt b xs ∧ xs.length ≤ 2560 ∧ (Jvm.Cond.and given_1 narrow_1).before args s = true
def lw_Q (_ : Array Value) (s : State) (o : Outcome) (t : State) : Prop := o = .returned (some (.int 1)) ∧ Framed s o t [] 601024 7293034
def lw_Z (below : List Frame) (a : Array Value) (s : State) : State → Prop := fun t => ∃ o, t.status = .running ∧ Ended t below o ∧ lw_Q a s o t
/-- the law's own end, with 1 on the stack, nothing written that was there before, its room as the claim has it -/
theorem lw_ret {p : Program} {l : Launch} {e : Env} {s : State} {m : MethodId} {below : List Frame} {meth : Method} {c : Code} {b : Nat} (hx : p.tables.exec = Jvm.exec) (hb : c.code = code) (hr : meth.sig.returnType = ret) (hlocks : meth.locks = false) {pc : Nat} {H : Heap} {ls : Array Slot} (hdg : decode code pc = .ok (.ireturn, 1)) : W p l e room_1 s m #[Value.ref b] below meth c H [] 601024 7293034 (lw_Z below #[Value.ref b] s) (F0 m pc ls [.int 1]) := by
  intro T hT X
  obtain ⟨fs, hret, hrun, hended, hW, hframe⟩ := X.leave (v := some (.int 1)) (hlocks := hlocks) (fun h => by rw [hr] at h; cases h)
  have hmeth' : T.vm.method? m = some meth := X.method'
  refine ⟨T.setFrames fs, ?_, .returned (some (.int 1)), hrun, hended, rfl, ⟨_, rfl⟩, hW, hframe⟩
  jvm_step X.here [X.here.top, hx, hb, hdg, hmeth', hr, ret, narrow_b1]
  (try refine ⟨rfl, ?_⟩); (try refine ⟨rfl, ?_⟩)
  first | (intro acts; rw [hret _ acts rfl rfl rfl]) | rw [hret _ _ rfl rfl rfl]
  exact Steps.refl _
/-- what holds at the law's entry: the machine, the code, the tables' words (any of lw_tbl by 'hts w (by decide +kernel)'), the script of L ints xs at the cell b, what the Statement gives of the start (any of its parts by flat_of_before) -/
def lw_At (p : Program) (s : State) (m : MethodId) (meth : Method) (c : Code) (b L : Nat) (xs : Nat → Int32) : Prop :=
  p.tables.exec = Jvm.exec ∧ c.code = code ∧ meth.sig.returnType = ret ∧ c.maxLocals = 7 ∧ s.vm.findClass R_law = some m.cls ∧ (∀ w ∈ lw_tbl, w.before #[Value.ref b] s = true) ∧ va_X b L xs s s.heap ∧ b < s.heap.size ∧ meth.locks = false ∧ (Jvm.Cond.and given_1 narrow_1).before #[Value.ref b] s = true
/-- a static row's cell, as the pure machine's place k -/
theorem z_cell {X : xX} {k N : Nat} {f : Nat → Int32} {J : Nat → Int64} (hk : k < 4) (h : va_T .int (X.ad k) N (fun j => .int (f j)) (fun q => X.s.heap.size ≤ q) X.s X.s.heap) : xcell X X.s.heap k (.inl (.int, N)) f J := by
  obtain ⟨cell, h1, h2, h3, h4, h5, h6, -⟩ := h
  exact ⟨fun _ => ⟨rfl, cell, h1, h2, h3, h5, h4, h6⟩, fun h9 => absurd hk (by omega)⟩
def zpre (b t1 t2 t3 : Nat) : Nat → Nat := fun k => match k with
  | 0 => b
  | 1 => t1
  | 2 => t2
  | _ => t3
theorem z_rel {s : State} {D : va_G} {ca : FieldType → ClassId} {b t1 t2 t3 L : Nat} {xs : Nat → Int32} (hb : b < s.heap.size) (hX : va_X b L xs s s.heap)
    (h1 : va_T .int t1 19 (fun j => .int (zSO.getD j 0)) (fun q => s.heap.size ≤ q) s s.heap) (h2 : va_T .int t2 8 (fun j => .int (zNX.getD j 0)) (fun q => s.heap.size ≤ q) s s.heap) (h3 : va_T .int t3 8 (fun j => .int (zNY.getD j 0)) (fun q => s.heap.size ≤ q) s s.heap) :
    xRel (zX s (zpre b t1 t2 t3) D ca) (zh0 L xs) s.heap := by
  have lt : ∀ {t N : Nat} {f : Nat → Value}, va_T .int t N f (fun q => s.heap.size ≤ q) s s.heap → t < s.heap.size := by
    intro t N f h
    obtain ⟨cell, g1, -⟩ := h
    exact (Array.getElem?_eq_some_iff.mp g1).1
  refine ⟨Nat.le_refl _, rfl, fun q _ => rfl, fun k hk => ?_, fun k z hz => ?_⟩
  · match k, hk with
    | 0, _ => exact hb
    | 1, _ => exact lt h1
    | 2, _ => exact lt h2
    | 3, _ => exact lt h3
    | n + 4, hk => omega
  · match k, hz with
    | 0, hz =>
      cases hz
      obtain ⟨scr, g1, g2, g3, g4, g5⟩ := hX
      exact ⟨fun _ => ⟨rfl, scr, g1, g2, g3, by rw [g4]; rfl, Nat.le_of_eq g4.symm, g5⟩, fun h9 => absurd h9 (by omega)⟩
    | 1, hz => cases hz; exact z_cell (X := zX s (zpre b t1 t2 t3) D ca) (k := 1) (by omega) h1
    | 2, hz => cases hz; exact z_cell (X := zX s (zpre b t1 t2 t3) D ca) (k := 2) (by omega) h2
    | 3, hz => cases hz; exact z_cell (X := zX s (zpre b t1 t2 t3) D ca) (k := 3) (by omega) h3
    | n + 4, hz => cases hz
theorem z_so : ∀ j : Nat, j < 19 → Cond.eq (.elem (.static "LosslessPixels" "SMALL_ORDER" "[I") (.int (Int32.ofNat j))) (.int (zSO.getD j 0)) ∈ flatC (Jvm.Cond.and given_1 narrow_1) := by decide +kernel
theorem z_nx : ∀ j : Nat, j < 8 → Cond.eq (.elem (.static "LosslessPixels" "NEAR_X" "[I") (.int (Int32.ofNat j))) (.int (zNX.getD j 0)) ∈ flatC (Jvm.Cond.and given_1 narrow_1) := by decide +kernel
theorem z_ny : ∀ j : Nat, j < 8 → Cond.eq (.elem (.static "LosslessPixels" "NEAR_Y" "[I") (.int (Int32.ofNat j))) (.int (zNY.getD j 0)) ∈ flatC (Jvm.Cond.and given_1 narrow_1) := by decide +kernel
theorem z_rows {s : State} {args : Array Value} (h : (Jvm.Cond.and given_1 narrow_1).before args s = true) (hts : ∀ w ∈ lw_tbl, w.before args s = true) (b : Nat) : ∃ t1 t2 t3 : Nat, zSt s (zpre b t1 t2 t3) ∧ va_T .int t1 19 (fun j => .int (zSO.getD j 0)) (fun q => s.heap.size ≤ q) s s.heap ∧ va_T .int t2 8 (fun j => .int (zNX.getD j 0)) (fun q => s.heap.size ≤ q) s s.heap ∧ va_T .int t3 8 (fun j => .int (zNY.getD j 0)) (fun q => s.heap.size ≤ q) s s.heap := by
  have hs := flat_of_before _ h
  obtain ⟨t1, e1, g1⟩ := z_row (f := fun j => zSO.getD j 0) (N := 19) (by decide) (hs _ (by decide +kernel)) (hs _ (by decide +kernel)) (fun j hj => hs _ (z_so j hj))
  obtain ⟨t2, e2, g2⟩ := z_row (f := fun j => zNX.getD j 0) (N := 8) (by decide) (hs _ (by decide +kernel)) (hs _ (by decide +kernel)) (fun j hj => hs _ (z_nx j hj))
  obtain ⟨t3, e3, g3⟩ := z_row (f := fun j => zNY.getD j 0) (N := 8) (by decide) (hs _ (by decide +kernel)) (hs _ (by decide +kernel)) (fun j hj => hs _ (z_ny j hj))
  exact ⟨t1, t2, t3, ⟨va_Zref (hts _ (by decide +kernel)) (hts _ (by decide +kernel)) e1 (fun a ha => Nat.not_le.mpr ha), va_Zref (hts _ (by decide +kernel)) (hts _ (by decide +kernel)) e2 (fun a ha => Nat.not_le.mpr ha), va_Zref (hts _ (by decide +kernel)) (hts _ (by decide +kernel)) e3 (fun a ha => Nat.not_le.mpr ha)⟩, g1, g2, g3⟩
theorem z_nar {s : State} {args : Array Value} (h : (Jvm.Cond.and given_1 narrow_1).before args s = true) : zN s := by
  have hs := flat_of_before _ h
  exact ⟨args, hs _ (by decide +kernel), hs _ (by decide +kernel)⟩
theorem xQ_one {i : Instr} {st : List Value} {ps : List Prop} (h : xQ 2 i st = some (ps, some (.int 1))) : i = .ireturn ∧ st = [.int 1] := by
  unfold xQ at h
  split at h
  · simp at h
  · rename_i h9; exact absurd h9 (by decide)
  · simp at h
    obtain ⟨-, rfl⟩ := h
    exact ⟨rfl, rfl⟩
  · simp at h
  · simp at h
set_option maxHeartbeats 4000000 in
/-- the law's body at the machine, out of its run in the pure machine -/
theorem whole_start_open (hpure : zPure) {p : Program} (l : Launch) (hl : l.flags = flags0) {e : Env} {s : State} {m : MethodId} {below : List Frame} {meth : Method} {c : Code} {b L : Nat} {xs : Nat → Int32} (hL : L ≤ 2560) (hA : lw_At p s m meth c b L xs) (hname : meth.name = "law") (htab : c.exceptionTable.toList = []) :
    W p l e room_1 s m #[Value.ref b] below meth c s.heap [] 0 0 (lw_Z below #[Value.ref b] s) (entryFrame m ([Value.ref b] : List Value).toArray 7) := by
  obtain ⟨hx, hb, hr, hml, hown, hts, hX, hbl, hlocks, hgv⟩ := hA
  obtain ⟨k, h', hrun, hlen, hslots⟩ := hpure L xs hL
  have hH : zH s := ⟨_, hts⟩
  obtain ⟨t1, t2, t3, hst, g1, g2, g3⟩ := z_rows hgv hts b
  obtain ⟨D, ca, hC⟩ := z_ctx hH
  have hC := hC (zpre b t1 t2 t3)
  have hB : xLib (zX s (zpre b t1 t2 t3) D ca) := z_lib hH
  have hth : zTh (zX s (zpre b t1 t2 t3) D ca) := z_th hH (z_nar hgv) (flat_of_before _ hgv _ (by decide +kernel))
  have hM := zMall hH hst hth
  have htr : ∀ e, l.admits e → e.platform.stackTraces = false := fun e he => Launch.traces_off hl he
  have hR : xRel (zX s (zpre b t1 t2 t3) D ca) (zh0 L xs) s.heap := z_rel hbl hX g1 g2 g3
  have hv := lv_entry (([Value.ref 0] : List Value).map (xva (zX s (zpre b t1 t2 t3) D ca).ad)) (n := 7) (by rw [(xent_args (zX s (zpre b t1 t2 t3) D ca).ad 0 [Value.ref 0] 0).2]; decide)
  rw [lg_entry_eq]
  show W p l e room_1 s m #[Value.ref b] below meth c s.heap [] 0 0 (lw_Z below #[Value.ref b] s) (F0 m 0 ((lg_sl (([Value.ref 0] : List Value).map (xva (zX s (zpre b t1 t2 t3) D ca).ad)) ++ List.replicate (7 - (lg_sl (([Value.ref 0] : List Value).map (xva (zX s (zpre b t1 t2 t3) D ca).ad))).length) Slot.unset).toArray) [])
  generalize (lg_sl (([Value.ref 0] : List Value).map (xva (zX s (zpre b t1 t2 t3) D ca).ad)) ++ List.replicate (7 - (lg_sl (([Value.ref 0] : List Value).map (xva (zX s (zpre b t1 t2 t3) D ca).ad))).length) Slot.unset).toArray = ls at hv ⊢
  have key := xbody htr hC hB hM (d := 9) (xsound htr hC hB hM 9) (mid := qW_law) (M := zm_W_law) (xcd_ok zd_W_law) (fun h => absurd h (by decide)) (fun _ => rfl) (fun a b t e h => by have h9 : (none : Option (Nat × Nat × Nat × Nat)) = some (a, b, t, e) := h; cases h9) (zcast rfl rfl (zlc13 hH hst hth))
    (h' := h') (o := .inl (some (.int 1))) (p := p) (e := e) (s := s) (m := m) (args := #[Value.ref b]) (below := below) (meth := meth) (c := c) hx hb hml hown hr hlocks hname (by rw [htab]; rfl) (State.WarmedH.refl s)
    (n0 := 4) (z0 := xsl (zX s (zpre b t1 t2 t3) D ca) (zh0 L xs).1) (R := room_1) (Q := lw_Z below #[Value.ref b] s) (by decide) (by decide) hlen (hslots _ rfl) (fun x hx => by cases hx)
    (fun i pc st ps v H ls locs cells slots ho hdg hQ hps hR' hlocs hce hsl => by
      cases ho
      obtain ⟨rfl, rfl⟩ := xQ_one hQ
      refine W.forget (locs := []) hlocs (W.widen (k := 601024) (n := 7293034) (by omega) ?_ (lw_ret hx hb hr hlocks hdg))
      have := hslots (zX s (zpre b t1 t2 t3) D ca) rfl
      omega)
  exact key k _ (zh0 L xs) s.heap ls [] 0 0 hrun hR (by rw [← (xent_args (zX s (zpre b t1 t2 t3) D ca).ad 6 [Value.ref 0] 0).1] at hv; exact hv) rfl (fun q hq => by cases hq) rfl (Nat.zero_add _)
