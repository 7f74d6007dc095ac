/-! One instruction of the pure machine is one of the machine. -/
/-- what a link of a class must be -/
def xLk (X : xX) (own : String) (k : Nat) (q : xL) : Prop :=
  (q.1 = 1 → xFld X own k q.2.1 q.2.2.1 q.2.2.2.1 ∧ (q.2.2.2.2 = 1 → ∀ C T N ty, xCls X q.2.1 C T N ty → own = C)) ∧
  (q.1 = 2 → xSta X own k q.2.1) ∧ (q.1 = 4 → xk X (.constant own k (Int32.ofInt q.2.2.2.2))) ∧ (q.1 = 5 → xk X (.constantLong own k (Int64.ofInt q.2.2.2.2))) ∧
  (q.1 = 6 → ∃ C T N ty, xCls X q.2.1 C T N ty ∧ xk X (.classLink own k C) ∧ xk X (.instantiable C N) ∧ xk X (.initialized C) ∧ ∀ j, j < N → ty j = .int ∨ ty j = .boolean ∨ defaultValue (ty j) = .null) ∧
  (q.1 = 9 → xk X (.methodLink own k Lib.objectInit)) ∧ (q.1 = 10 → xk X (.methodLink own k Lib.Math.min.name)) ∧ (q.1 = 11 → xk X (.methodLink own k Lib.Math.max.name)) ∧ (q.1 = 12 → xk X (.methodLink own k Lib.Math.abs.name)) ∧ (q.1 = 13 → xk X (.methodLink own k arraycopyName))
theorem xsl_add (X : xX) (sh : List xS) (z : xS) : xsl X (sh ++ [z]) = xsl X sh + xsz X z := by simp [xsl]
theorem xsl_sr (X : xX) (sh : List xS) (o k q : Nat) : xsl X (xsr sh o k q) = xsl X sh ∧ (xsr sh o k q).length = sh.length := by
  unfold xsr
  split
  · rename_i z hz
    have ho := (List.getElem?_eq_some_iff.mp hz)
    obtain ⟨ho, he⟩ := ho
    refine ⟨?_, by simp⟩
    unfold xsl
    have e : (sh.set o (.inr (z.1, z.2.set k (.ref q)))).map (xsz X) = sh.map (xsz X) := by
      refine List.ext_getElem? fun i => ?_
      rw [List.getElem?_map, List.getElem?_map]
      by_cases hi : o = i
      · subst hi
        rw [List.getElem?_set_self ho, hz]
        rfl
      · rw [List.getElem?_set_ne hi]
    rw [e]
  · exact ⟨rfl, rfl⟩
theorem xsz_obj {X : xX} {ci : Nat} {C : String} {T : u_T} {N : Nat} {ty : Nat → FieldType} (hc : xCls X ci C T N ty) (rs : List Value) : xsz X (.inr (ci, rs)) = N := by
  unfold xsz
  simp only [hc.2.1]
  rw [if_neg (by have := hc.1; omega)]
theorem xtg_eq {pc : Nat} {off : Int} {t : Nat} (h : xtg pc off = some t) : (pc : Int) + off = (t : Int) := by
  unfold xtg at h
  split at h
  · rename_i n hn; cases h; rw [hn]; rfl
  · cases h
theorem xcat_map (ad : Nat → Nat) (r : List Value) : ((r.map (xva ad)).map fun v => v.category).sum = (r.map fun v => v.category).sum := by
  rw [List.map_map]; congr 1; exact List.map_congr_left fun v _ => xva_cat ad v
section XP
variable {l : Launch} {p : Program} {e : Env} {R : Room} {s : State} {m : MethodId} {args : Array Value} {below : List Frame} {meth : Method} {c : Code} {H : Heap} {locs : List Loc} {cells slots : Nat} {Q : State → Prop}
variable {X : xX} {cc : ByteArray} {pc : Nat} {ls : Array Slot} {h : xH}
set_option maxHeartbeats 8000000 in
theorem xstep (hexec : p.tables.exec = Jvm.exec) (hb : c.code = cc) {nL : Nat} (hml : c.maxLocals = nL) (hC : xCtx X) (hB : xLib X) {lk : Nat → Option xL} {own : String} (hT : ∀ k q, lk k = some q → xLk X own k q) (hW : X.s.WarmedH s.vm) (hown : s.vm.findClass own = some m.cls) {ctor : Bool} (hctor : ctor = true → meth.name = "<init>")
    (hfr : 1 ≤ R.frames) (hlo : 40 ≤ R.locals) {i : Instr} {len : Nat} (hdg : decode cc pc = .ok (i, len)) {L : List (Option Value)} {st : List Value} {ps : List Prop} {f1 : xF} {h1 : xH} (hE : xE lk X.df ctor i len pc L st h = some (ps, f1, h1)) (hps : xAll ps)
    (hR : xRel X h H) (hL : lv_has ls nL (xlv X.ad 0 L)) (hLn : L.length = nL) (hlocs : ∀ q ∈ locs, X.s.heap.size ≤ q.base) {n0 z0 : Nat} (hce : cells + n0 = h.1.length) (hsl : slots + z0 = xsl X h.1) (hce1 : h1.1.length ≤ R.cells + n0) (hsl1 : xsl X h1.1 ≤ R.slots + z0)
    (kk : ∀ (H1 : Heap) (ls1 : Array Slot) (locs1 : List Loc) (cells1 slots1 : Nat), xRel X h1 H1 → lv_has ls1 nL (xlv X.ad 0 f1.2.1) → f1.2.1.length = nL → (∀ q ∈ locs1, X.s.heap.size ≤ q.base) → cells1 + n0 = h1.1.length → slots1 + z0 = xsl X h1.1 → W p l e R s m args below meth c H1 locs1 cells1 slots1 Q (F0 m f1.1 ls1 (f1.2.2.map (xva X.ad)))) :
    W p l e R s m args below meth c H locs cells slots Q (F0 m pc ls (st.map (xva X.ad))) := by
  have hls : ls.size = nL := hL.1
  have hmls : c.maxLocals = ls.size := by rw [hml, hls]
  have hone : ∀ {z : Loc}, X.s.heap.size ≤ z.base → ∀ q ∈ locs ++ [z], X.s.heap.size ≤ q.base := fun {z} hz q hq => by
    rcases List.mem_append.mp hq with h9 | h9
    · exact hlocs q h9
    · rw [List.mem_singleton.mp h9]; exact hz
  unfold xE at hE
  split at hE
  · simp only [Option.some.injEq, Prod.mk.injEq] at hE
    obtain ⟨rfl, rfl, rfl⟩ := hE
    exact lv_iconst hexec hb hdg rfl (kk H ls locs cells slots hR hL hLn hlocs hce hsl)
  · simp only [Option.some.injEq, Prod.mk.injEq] at hE
    obtain ⟨rfl, rfl, rfl⟩ := hE
    exact lv_bipush hexec hb hdg rfl (kk H ls locs cells slots hR hL hLn hlocs hce hsl)
  · simp only [Option.some.injEq, Prod.mk.injEq] at hE
    obtain ⟨rfl, rfl, rfl⟩ := hE
    exact lv_sipush hexec hb hdg rfl (kk H ls locs cells slots hR hL hLn hlocs hce hsl)
  · split at hE
    · rename_i hlk
      simp only [Option.some.injEq, Prod.mk.injEq] at hE
      obtain ⟨rfl, rfl, rfl⟩ := hE
      exact lv_ldc hexec hb hown (((hT _ _ hlk).2.2.1 rfl) s args hW) hdg (kk H ls locs cells slots hR hL hLn hlocs hce hsl)
    · cases hE
  · split at hE
    · rename_i hlk
      simp only [Option.some.injEq, Prod.mk.injEq] at hE
      obtain ⟨rfl, rfl, rfl⟩ := hE
      exact lv_ldcw hexec hb hown (((hT _ _ hlk).2.2.1 rfl) s args hW) hdg (kk H ls locs cells slots hR hL hLn hlocs hce hsl)
    · cases hE
  · split at hE
    · rename_i hlk
      simp only [Option.some.injEq, Prod.mk.injEq] at hE
      obtain ⟨rfl, rfl, rfl⟩ := hE
      exact lv_ldc2 hexec hb hown (((hT _ _ hlk).2.2.2.1 rfl) s args hW) hdg (kk H ls locs cells slots hR hL hLn hlocs hce hsl)
    · cases hE
  · split at hE
    · rename_i hld
      simp only [Option.some.injEq, Prod.mk.injEq] at hE
      obtain ⟨rfl, rfl, rfl⟩ := hE
      exact lv_iload_n hexec hb hdg rfl (xld_at hL hld) (kk H ls locs cells slots hR hL hLn hlocs hce hsl)
    · cases hE
  · split at hE
    · rename_i hld
      simp only [Option.some.injEq, Prod.mk.injEq] at hE
      obtain ⟨rfl, rfl, rfl⟩ := hE
      exact lv_iload hexec hb hdg (xld_at hL hld) (kk H ls locs cells slots hR hL hLn hlocs hce hsl)
    · cases hE
  · split at hE
    · rename_i hld
      simp only [Option.some.injEq, Prod.mk.injEq] at hE
      obtain ⟨rfl, rfl, rfl⟩ := hE
      exact lv_lload_n hexec hb hdg rfl (xld_at hL hld) (kk H ls locs cells slots hR hL hLn hlocs hce hsl)
    · cases hE
  · split at hE
    · rename_i hld
      simp only [Option.some.injEq, Prod.mk.injEq] at hE
      obtain ⟨rfl, rfl, rfl⟩ := hE
      exact lv_aload_n hexec hb hdg rfl (xld_at hL hld) (kk H ls locs cells slots hR hL hLn hlocs hce hsl)
    · cases hE
  · split at hE
    · rename_i hld
      simp only [Option.some.injEq, Prod.mk.injEq] at hE
      obtain ⟨rfl, rfl, rfl⟩ := hE
      exact lv_aload hexec hb hdg (xld_at hL hld) (kk H ls locs cells slots hR hL hLn hlocs hce hsl)
    · cases hE
  · split at hE
    · rename_i hnl
      simp only [Option.some.injEq, Prod.mk.injEq] at hE
      obtain ⟨rfl, rfl, rfl⟩ := hE
      refine lv_istore_n hexec hb hdg rfl hL (by rw [← hLn]; exact xnl_lt hnl) rfl (fun ls' hl' => ?_)
      exact kk H ls' locs cells slots hR (xst_has hnl hl') (by simpa using hLn) hlocs hce hsl
    · cases hE
  · split at hE
    · rename_i hnl
      simp only [Option.some.injEq, Prod.mk.injEq] at hE
      obtain ⟨rfl, rfl, rfl⟩ := hE
      refine lv_istore hexec hb hdg hL (by rw [← hLn]; exact xnl_lt hnl) rfl (fun ls' hl' => ?_)
      exact kk H ls' locs cells slots hR (xst_has hnl hl') (by simpa using hLn) hlocs hce hsl
    · cases hE
  · split at hE
    · rename_i hnl
      simp only [Option.some.injEq, Prod.mk.injEq] at hE
      obtain ⟨rfl, rfl, rfl⟩ := hE
      refine lv_astore_n hexec hb hdg rfl hL (by rw [← hLn]; exact xnl_lt hnl) rfl (fun ls' hl' => ?_)
      exact kk H ls' locs cells slots hR (xst_has hnl hl') (by simpa using hLn) hlocs hce hsl
    · cases hE
  · split at hE
    · rename_i hnl
      simp only [Option.some.injEq, Prod.mk.injEq] at hE
      obtain ⟨rfl, rfl, rfl⟩ := hE
      refine lv_astore hexec hb hdg hL (by rw [← hLn]; exact xnl_lt hnl) rfl (fun ls' hl' => ?_)
      exact kk H ls' locs cells slots hR (xst_has hnl hl') (by simpa using hLn) hlocs hce hsl
    · cases hE
  · split at hE
    · rename_i hld hnl
      simp only [Option.some.injEq, Prod.mk.injEq] at hE
      obtain ⟨rfl, rfl, rfl⟩ := hE
      obtain ⟨kx, hkx⟩ := List.getElem?_of_mem (xlv_mem.mpr ⟨_, _, (by have := hld; unfold xld at this; split at this <;> first | (rename_i hw; cases this; exact hw) | cases this), rfl⟩ : (_ : Nat × Value) ∈ xlv X.ad 0 L)
      refine lv_iinc hexec hb hdg hL (by rw [hkx]; simp; rfl) rfl (by rw [← hLn]; exact xnl_lt hnl) rfl (fun ls' hl' => ?_)
      exact kk H ls' locs cells slots hR (xst_has hnl hl') (by simpa using hLn) hlocs hce hsl
    · cases hE
  · split at hE
    · simp only [Option.some.injEq, Prod.mk.injEq] at hE
      obtain ⟨rfl, rfl, rfl⟩ := hE
      exact lv_iadd hexec hb hdg (kk H ls locs cells slots hR hL hLn hlocs hce hsl)
    · cases hE
  · split at hE
    · simp only [Option.some.injEq, Prod.mk.injEq] at hE
      obtain ⟨rfl, rfl, rfl⟩ := hE
      exact lv_isub hexec hb hdg (kk H ls locs cells slots hR hL hLn hlocs hce hsl)
    · cases hE
  · split at hE
    · simp only [Option.some.injEq, Prod.mk.injEq] at hE
      obtain ⟨rfl, rfl, rfl⟩ := hE
      exact lv_imul hexec hb hdg (kk H ls locs cells slots hR hL hLn hlocs hce hsl)
    · cases hE
  · split at hE
    · simp only [Option.some.injEq, Prod.mk.injEq] at hE
      obtain ⟨rfl, rfl, rfl⟩ := hE
      exact lv_idiv hexec hb hdg hps (kk H ls locs cells slots hR hL hLn hlocs hce hsl)
    · cases hE
  · split at hE
    · simp only [Option.some.injEq, Prod.mk.injEq] at hE
      obtain ⟨rfl, rfl, rfl⟩ := hE
      exact lv_irem hexec hb hdg hps (kk H ls locs cells slots hR hL hLn hlocs hce hsl)
    · cases hE
  · split at hE
    · simp only [Option.some.injEq, Prod.mk.injEq] at hE
      obtain ⟨rfl, rfl, rfl⟩ := hE
      exact lv_ineg hexec hb hdg (kk H ls locs cells slots hR hL hLn hlocs hce hsl)
    · cases hE
  · split at hE
    · simp only [Option.some.injEq, Prod.mk.injEq] at hE
      obtain ⟨rfl, rfl, rfl⟩ := hE
      exact lv_iand hexec hb hdg (kk H ls locs cells slots hR hL hLn hlocs hce hsl)
    · cases hE
  · split at hE
    · simp only [Option.some.injEq, Prod.mk.injEq] at hE
      obtain ⟨rfl, rfl, rfl⟩ := hE
      exact lv_ior hexec hb hdg (kk H ls locs cells slots hR hL hLn hlocs hce hsl)
    · cases hE
  · split at hE
    · simp only [Option.some.injEq, Prod.mk.injEq] at hE
      obtain ⟨rfl, rfl, rfl⟩ := hE
      exact lv_ixor hexec hb hdg (kk H ls locs cells slots hR hL hLn hlocs hce hsl)
    · cases hE
  · split at hE
    · simp only [Option.some.injEq, Prod.mk.injEq] at hE
      obtain ⟨rfl, rfl, rfl⟩ := hE
      exact lv_ishl hexec hb hdg (kk H ls locs cells slots hR hL hLn hlocs hce hsl)
    · cases hE
  · split at hE
    · simp only [Option.some.injEq, Prod.mk.injEq] at hE
      obtain ⟨rfl, rfl, rfl⟩ := hE
      exact lv_ishr hexec hb hdg (kk H ls locs cells slots hR hL hLn hlocs hce hsl)
    · cases hE
  · split at hE
    · simp only [Option.some.injEq, Prod.mk.injEq] at hE
      obtain ⟨rfl, rfl, rfl⟩ := hE
      exact lv_iushr hexec hb hdg rfl (kk H ls locs cells slots hR hL hLn hlocs hce hsl)
    · cases hE
  · split at hE
    · simp only [Option.some.injEq, Prod.mk.injEq] at hE
      obtain ⟨rfl, rfl, rfl⟩ := hE
      exact lv_i2l hexec hb hdg rfl (kk H ls locs cells slots hR hL hLn hlocs hce hsl)
    · cases hE
  · split at hE
    · simp only [Option.some.injEq, Prod.mk.injEq] at hE
      obtain ⟨rfl, rfl, rfl⟩ := hE
      exact lv_l2i hexec hb hdg rfl (kk H ls locs cells slots hR hL hLn hlocs hce hsl)
    · cases hE
  · split at hE
    · simp only [Option.some.injEq, Prod.mk.injEq] at hE
      obtain ⟨rfl, rfl, rfl⟩ := hE
      exact lv_i2b hexec hb hdg rfl (kk H ls locs cells slots hR hL hLn hlocs hce hsl)
    · cases hE
  · split at hE
    · simp only [Option.some.injEq, Prod.mk.injEq] at hE
      obtain ⟨rfl, rfl, rfl⟩ := hE
      exact lv_land hexec hb hdg (kk H ls locs cells slots hR hL hLn hlocs hce hsl)
    · cases hE
  · split at hE
    · simp only [Option.some.injEq, Prod.mk.injEq] at hE
      obtain ⟨rfl, rfl, rfl⟩ := hE
      exact lv_lor hexec hb hdg (kk H ls locs cells slots hR hL hLn hlocs hce hsl)
    · cases hE
  · split at hE
    · simp only [Option.some.injEq, Prod.mk.injEq] at hE
      obtain ⟨rfl, rfl, rfl⟩ := hE
      exact lv_lshl hexec hb hdg rfl (kk H ls locs cells slots hR hL hLn hlocs hce hsl)
    · cases hE
  · split at hE
    · simp only [Option.some.injEq, Prod.mk.injEq] at hE
      obtain ⟨rfl, rfl, rfl⟩ := hE
      exact lv_lshr hexec hb hdg rfl (kk H ls locs cells slots hR hL hLn hlocs hce hsl)
    · cases hE
  · split at hE
    · simp only [Option.some.injEq, Prod.mk.injEq] at hE
      obtain ⟨rfl, rfl, rfl⟩ := hE
      exact lv_lushr hexec hb hdg rfl (kk H ls locs cells slots hR hL hLn hlocs hce hsl)
    · cases hE
  · split at hE
    · simp only [Option.some.injEq, Prod.mk.injEq] at hE
      obtain ⟨rfl, rfl, rfl⟩ := hE
      exact W.lcmp hexec hb hdg (kk H ls locs cells slots hR hL hLn hlocs hce hsl)
    · cases hE
  · split at hE
    · simp only [Option.some.injEq, Prod.mk.injEq] at hE
      obtain ⟨rfl, rfl, rfl⟩ := hE
      exact lv_dup hexec hb hdg rfl (kk H ls locs cells slots hR hL hLn hlocs hce hsl)
    · simp only [Option.some.injEq, Prod.mk.injEq] at hE
      obtain ⟨rfl, rfl, rfl⟩ := hE
      exact lv_dup hexec hb hdg rfl (kk H ls locs cells slots hR hL hLn hlocs hce hsl)
    · cases hE
  · split at hE
    · simp only [Option.some.injEq, Prod.mk.injEq] at hE
      obtain ⟨rfl, rfl, rfl⟩ := hE
      exact lv_dup2_11 hexec hb hdg rfl rfl (kk H ls locs cells slots hR hL hLn hlocs hce hsl)
    · cases hE
  · split at hE
    · simp only [Option.some.injEq, Prod.mk.injEq] at hE
      obtain ⟨rfl, rfl, rfl⟩ := hE
      exact lv_dup_x2 hexec hb hdg rfl rfl rfl (kk H ls locs cells slots hR hL hLn hlocs hce hsl)
    · cases hE
  · split at hE
    · simp only [Option.some.injEq, Prod.mk.injEq] at hE
      obtain ⟨rfl, rfl, rfl⟩ := hE
      exact lv_pop hexec hb hdg rfl (kk H ls locs cells slots hR hL hLn hlocs hce hsl)
    · simp only [Option.some.injEq, Prod.mk.injEq] at hE
      obtain ⟨rfl, rfl, rfl⟩ := hE
      exact lv_pop hexec hb hdg rfl (kk H ls locs cells slots hR hL hLn hlocs hce hsl)
    · cases hE
  · split at hE
    · rename_i ht
      simp only [Option.some.injEq, Prod.mk.injEq] at hE
      obtain ⟨rfl, rfl, rfl⟩ := hE
      exact lv_goto hexec hb hdg (xtg_eq ht) (kk H ls locs cells slots hR hL hLn hlocs hce hsl)
    · cases hE
  · split at hE
    · rename_i d lo hi offs st9 x r
      simp only [Option.some.injEq, Prod.mk.injEq] at hE
      obtain ⟨rfl, rfl, rfl⟩ := hE
      obtain ⟨hp1, hp2⟩ := hps
      have ht : (pc : Int) + xsw d lo hi offs x.toInt = ((((pc : Int) + xsw d lo hi offs x.toInt).toNat : Nat) : Int) := by rw [Int.toNat_of_nonneg hp2]
      have hk9 := kk H ls locs cells slots hR hL hLn hlocs hce hsl
      by_cases h1 : x.toInt < lo ∨ hi < x.toInt
      · have e9 : xsw d lo hi offs x.toInt = d := by unfold xsw; rw [if_pos h1]
        rw [e9] at ht hk9
        exact lv_tableOut hexec hb hdg h1 ht hk9
      · have hin : (x.toInt - lo).toNat < offs.size := by
          rcases hp1 with h2 | h2 | h2
          · exact absurd (Or.inl h2) h1
          · exact absurd (Or.inr h2) h1
          · exact h2
        have e9 : offs[(x.toInt - lo).toNat]? = some (xsw d lo hi offs x.toInt) := by
          unfold xsw
          rw [if_neg h1, List.getD_eq_getElem?_getD]
          simp [hin]
        exact lv_tableIn hexec hb hdg (fun q => h1 (Or.inl q)) (fun q => h1 (Or.inr q)) e9 ht hk9
    · cases hE
  · split at hE
    · rename_i hlk
      simp only [Option.some.injEq, Prod.mk.injEq] at hE
      obtain ⟨rfl, rfl, rfl⟩ := hE
      exact x_getR hexec hb hC hW hR hown ((hT _ _ hlk).1 rfl).1 hps hdg (kk H ls locs cells slots hR hL hLn hlocs hce hsl)
    · rename_i hne hlk
      simp only [Option.some.injEq, Prod.mk.injEq] at hE
      obtain ⟨rfl, rfl, rfl⟩ := hE
      exact x_getI hexec hb hC hW hR hown ((hT _ _ hlk).1 rfl).1 (by first | exact hne | exact fun q => hne q | exact fun q => by subst q; exact hne rfl) hps hdg (kk H ls locs cells slots hR hL hLn hlocs hce hsl)
    · cases hE
  · split at hE
    · rename_i hlk
      simp only [Option.some.injEq, Prod.mk.injEq] at hE
      obtain ⟨rfl, rfl, rfl⟩ := hE
      exact x_putI hexec hb hC hW hR hown ((hT _ _ hlk).1 rfl).1 (by show (0 : Nat) ≠ 1; decide) hps (fun q => absurd q (by show ¬ (0 : Nat) = 2; decide)) hdg (fun H1 q hq hR1 => kk H1 ls _ cells slots hR1 hL hLn (hone hq) hce hsl)
    · rename_i hlk
      simp only [Option.some.injEq, Prod.mk.injEq] at hE
      obtain ⟨rfl, rfl, rfl⟩ := hE
      exact x_putI hexec hb hC hW hR hown ((hT _ _ hlk).1 rfl).1 (by show (2 : Nat) ≠ 1; decide) hps.1 (fun _ => hps.2) hdg (fun H1 q hq hR1 => kk H1 ls _ cells slots hR1 hL hLn (hone hq) hce hsl)
    · rename_i hlk
      split at hE
      · simp only [Option.some.injEq, Prod.mk.injEq] at hE
        obtain ⟨rfl, rfl, rfl⟩ := hE
        exact x_putR hexec hb hC hW hR hown (hctor rfl) ((hT _ _ hlk).1 rfl).1 (((hT _ _ hlk).1 rfl).2 rfl) hps.1 hdg (fun H1 q hq hR1 => kk H1 ls _ cells slots hR1 hL hLn (hone hq) (by rw [hce]; exact (xsl_sr X _ _ _ _).2.symm) (by rw [hsl]; exact (xsl_sr X _ _ _ _).1.symm))
      · cases hE
    · cases hE
  · split at hE
    · rename_i hlk
      simp only [Option.some.injEq, Prod.mk.injEq] at hE
      obtain ⟨rfl, rfl, rfl⟩ := hE
      exact x_gets hexec hb hW hR hown ((hT _ _ hlk).2.1 rfl) hdg (kk H ls locs cells slots hR hL hLn hlocs hce hsl)
    · cases hE
  · split at hE
    · simp only [Option.some.injEq, Prod.mk.injEq] at hE
      obtain ⟨rfl, rfl, rfl⟩ := hE
      exact x_iald hexec hb hC hW hR hps.1 hps.2 hdg (kk H ls locs cells slots hR hL hLn hlocs hce hsl)
    · cases hE
  · split at hE
    · simp only [Option.some.injEq, Prod.mk.injEq] at hE
      obtain ⟨rfl, rfl, rfl⟩ := hE
      exact x_iast hexec hb hC hW hR hps.1 hps.2 hdg (fun H1 q hq hR1 => kk H1 ls _ cells slots hR1 hL hLn (hone hq) hce hsl)
    · cases hE
  · split at hE
    · simp only [Option.some.injEq, Prod.mk.injEq] at hE
      obtain ⟨rfl, rfl, rfl⟩ := hE
      exact x_zald hexec hb hC hW hR hps.1 hps.2 hdg (kk H ls locs cells slots hR hL hLn hlocs hce hsl)
    · cases hE
  · split at hE
    · simp only [Option.some.injEq, Prod.mk.injEq] at hE
      obtain ⟨rfl, rfl, rfl⟩ := hE
      exact x_zast hexec hb hC hW hR hps.1 hps.2.1 hps.2.2 hdg (fun H1 q hq hR1 => kk H1 ls _ cells slots hR1 hL hLn (hone hq) hce hsl)
    · cases hE
  · split at hE
    · simp only [Option.some.injEq, Prod.mk.injEq] at hE
      obtain ⟨rfl, rfl, rfl⟩ := hE
      exact x_lald hexec hb hC hW hR hps.1 hps.2 hdg (kk H ls locs cells slots hR hL hLn hlocs hce hsl)
    · cases hE
  · split at hE
    · simp only [Option.some.injEq, Prod.mk.injEq] at hE
      obtain ⟨rfl, rfl, rfl⟩ := hE
      exact x_last hexec hb hC hW hR hps.1 hps.2 hdg (fun H1 q hq hR1 => kk H1 ls _ cells slots hR1 hL hLn (hone hq) hce hsl)
    · cases hE
  · split at hE
    · simp only [Option.some.injEq, Prod.mk.injEq] at hE
      obtain ⟨rfl, rfl, rfl⟩ := hE
      exact x_alen hexec hb hC hW hR hps hdg (kk H ls locs cells slots hR hL hLn hlocs hce hsl)
    · cases hE
  · split at hE
    · rename_i hlk
      simp only [Option.some.injEq, Prod.mk.injEq] at hE
      obtain ⟨rfl, rfl, rfl⟩ := hE
      obtain ⟨C, T, N, ty, hc, hk1, hk2, hk3, hty⟩ := (hT _ _ hlk).2.2.2.2.1 rfl
      dsimp only at hc
      rw [xsl_add, xsz_obj hc] at hsl1
      simp at hce1
      refine x_new hexec hb hC hW hR hown hc hk1 hk2 hk3 hty hdg (by omega) (by omega) (fun H1 hR1 => ?_)
      exact kk H1 ls locs (cells + 1) (slots + N) hR1 hL hLn hlocs (by simp; omega) (by rw [xsl_add, xsz_obj hc]; omega)
    · cases hE
  · split at hE
    · rename_i t st9 n r
      simp only [Option.some.injEq, Prod.mk.injEq] at hE
      obtain ⟨rfl, rfl, rfl⟩ := hE
      have hz : xsz X (.inl (newarray.typeOf t, n.toNatClampNeg)) = n.toNatClampNeg := rfl
      rw [xsl_add, hz] at hsl1
      simp at hce1
      refine x_newa hexec hb hC hW hR hps.2.2 hps.1 hps.2.1 hdg (by omega) (by omega) (fun H1 hR1 => ?_)
      exact kk H1 ls locs (cells + 1) (slots + n.toNatClampNeg) hR1 hL hLn hlocs (by simp; omega) (by rw [xsl_add, hz]; omega)
    · cases hE
  · split at hE
    · rename_i hlk
      simp only [Option.some.injEq, Prod.mk.injEq] at hE
      obtain ⟨rfl, rfl, rfl⟩ := hE
      exact W.objInit hexec hb hown (((hT _ _ hlk).2.2.2.2.2.1 rfl) s args hW) (hB.2.2.2.2.2.2.2.2.2.2.1 s args hW) (hB.2.2.2.2.2.2.2.2.2.2.2 s args hW) (g := F0 m pc ls _) rfl (by rw [hml]; exact hls) rfl hdg hfr (by show 2 * 0 + _ + 12 ≤ _; rw [xcat_map]; have := hps; unfold xAll at this; omega) (kk H ls locs cells slots hR hL hLn hlocs hce hsl)
    · cases hE
  · split at hE
    · rename_i hlk
      simp only [Option.some.injEq, Prod.mk.injEq] at hE
      obtain ⟨rfl, rfl, rfl⟩ := hE
      exact va_mmin hexec hb hmls hown (((hT _ _ hlk).2.2.2.2.2.2.1 rfl) s args hW) (hB.2.2.2.1 s args hW) (hB.2.2.2.2.2.2.1 s args hW) (hB.2.2.2.2.2.2.2.1 s args hW) hfr (by rw [xcat_map]; have := hps; unfold xAll at this; omega) (by omega) (by omega) hdg (kk H ls locs cells slots hR hL hLn hlocs hce hsl)
    · rename_i hlk
      simp only [Option.some.injEq, Prod.mk.injEq] at hE
      obtain ⟨rfl, rfl, rfl⟩ := hE
      exact va_mmax hexec hb hmls hown (((hT _ _ hlk).2.2.2.2.2.2.2.1 rfl) s args hW) (hB.2.2.2.2.1 s args hW) (hB.2.2.2.2.2.2.1 s args hW) (hB.2.2.2.2.2.2.2.2.1 s args hW) hfr (by rw [xcat_map]; have := hps; unfold xAll at this; omega) (by omega) (by omega) hdg (kk H ls locs cells slots hR hL hLn hlocs hce hsl)
    · rename_i hlk
      simp only [Option.some.injEq, Prod.mk.injEq] at hE
      obtain ⟨rfl, rfl, rfl⟩ := hE
      exact va_mabs hexec hb hmls hown (((hT _ _ hlk).2.2.2.2.2.2.2.2.1 rfl) s args hW) (hB.2.2.2.2.2.1 s args hW) (hB.2.2.2.2.2.2.1 s args hW) (hB.2.2.2.2.2.2.2.2.2.1 s args hW) hfr (by rw [xcat_map]; have := hps; unfold xAll at this; omega) (by omega) (by omega) hdg (kk H ls locs cells slots hR hL hLn hlocs hce hsl)
    · rename_i hlk
      simp only [Option.some.injEq, Prod.mk.injEq] at hE
      obtain ⟨rfl, rfl, rfl⟩ := hE
      obtain ⟨p0, p1, p2, p3, p4, p5, p6, p7, p8⟩ := hps
      exact x_copy hexec hb hmls hC hB hW hR hown ((hT _ _ hlk).2.2.2.2.2.2.2.2.2 rfl) p1 p2 p3 p4 p5 p6 p7 hfr (by rw [xcat_map]; omega) hdg (fun H1 L hq hR1 => kk H1 ls _ cells slots hR1 hL hLn (fun q hq9 => (List.mem_append.mp hq9).elim (hlocs q) (hq q)) hce hsl)
    · cases hE
  · cases hE
end XP
