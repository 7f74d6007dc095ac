section ZC
variable {s0 : State} {pre : Nat → Nat} {D : va_G} {ca : FieldType → ClassId}
theorem z_known (hts : zH s0) {C : String} {T : u_T} {N : Nat} (hw : ∀ w ∈ u_ws C T N, xk (zX s0 pre D ca) w) (hm : Cond.instantiable C N ∈ lw_tbl) : ∃ (cC : ClassId) (iS : Nat → Nat), u_Kn s0 C T N cC iS := by
  refine u_known (args := #[]) (ws := u_ws C T N) (n := N) (fun w h => hw w h s0 #[] (State.WarmedH.refl s0)) (fun w h => h) ?_
  exact zk (X := zX s0 pre D ca) hts hm rfl s0 #[] (State.WarmedH.refl s0)
theorem z_arr (hts : zH s0) {ty : FieldType} (hm : Cond.arrayClass ty ∈ lw_tbl) : ∃ cA : ClassId, s0.vm.findClass ("[" ++ ty.toString) = some cA ∧ ArrOfT s0 cA ty := by
  obtain ⟨a0, h⟩ := hts
  obtain ⟨cA, kA, comp, h1, h2, h3⟩ := Cond.arrayClass_spec (h _ hm)
  exact ⟨cA, h1, fun n z => ⟨fun k h => (by cases h), kA, h2, comp, h3⟩⟩
theorem z_K (hts : zH s0) : ∃ D : va_G, va_K D zcl [] s0 := by
  have pre0 : Nat → Nat := fun _ => 0
  have D0 : va_G := (fun _ => 0, fun _ _ => 0)
  have ca0 : FieldType → ClassId := fun _ => 0
  obtain ⟨c0, t0, h0⟩ := z_known (pre := pre0) (D := D0) (ca := ca0) hts (zw0 hts) (by decide +kernel)
  obtain ⟨c1, t1, h1⟩ := z_known (pre := pre0) (D := D0) (ca := ca0) hts (zw1 hts) (by decide +kernel)
  obtain ⟨c2, t2, h2⟩ := z_known (pre := pre0) (D := D0) (ca := ca0) hts (zw2 hts) (by decide +kernel)
  obtain ⟨c3, t3, h3⟩ := z_known (pre := pre0) (D := D0) (ca := ca0) hts (zw3 hts) (by decide +kernel)
  obtain ⟨c4, t4, h4⟩ := z_known (pre := pre0) (D := D0) (ca := ca0) hts (zw4 hts) (by decide +kernel)
  obtain ⟨c5, t5, h5⟩ := z_known (pre := pre0) (D := D0) (ca := ca0) hts (zw5 hts) (by decide +kernel)
  obtain ⟨c6, t6, h6⟩ := z_known (pre := pre0) (D := D0) (ca := ca0) hts (zw6 hts) (by decide +kernel)
  obtain ⟨c7, t7, h7⟩ := z_known (pre := pre0) (D := D0) (ca := ca0) hts (zw7 hts) (by decide +kernel)
  obtain ⟨c8, t8, h8⟩ := z_known (pre := pre0) (D := D0) (ca := ca0) hts (zw8 hts) (by decide +kernel)
  obtain ⟨c9, t9, h9⟩ := z_known (pre := pre0) (D := D0) (ca := ca0) hts (zw9 hts) (by decide +kernel)
  obtain ⟨c10, t10, h10⟩ := z_known (pre := pre0) (D := D0) (ca := ca0) hts (zw10 hts) (by decide +kernel)
  refine ⟨(fun i => [c0, c1, c2, c3, c4, c5, c6, c7, c8, c9, c10].getD i 0, fun i => [t0, t1, t2, t3, t4, t5, t6, t7, t8, t9, t10].getD i (fun _ => 0)), fun c q hq => ?_, fun k q hq => by simp at hq⟩
  match c, hq with
  | 0, hq => cases hq; exact h0
  | 1, hq => cases hq; exact h1
  | 2, hq => cases hq; exact h2
  | 3, hq => cases hq; exact h3
  | 4, hq => cases hq; exact h4
  | 5, hq => cases hq; exact h5
  | 6, hq => cases hq; exact h6
  | 7, hq => cases hq; exact h7
  | 8, hq => cases hq; exact h8
  | 9, hq => cases hq; exact h9
  | 10, hq => cases hq; exact h10
  | n + 11, hq => cases hq
theorem z_lib (hts : zH s0) : xLib (zX s0 pre D ca) :=
  ⟨zk hts (by decide +kernel) (by decide +kernel), zk hts (by decide +kernel) (by decide +kernel), zk hts (by decide +kernel) (by decide +kernel), zk hts (by decide +kernel) (by decide +kernel), zk hts (by decide +kernel) (by decide +kernel), zk hts (by decide +kernel) (by decide +kernel), zk hts (by decide +kernel) (by decide +kernel), zk hts (by decide +kernel) (by decide +kernel), zk hts (by decide +kernel) (by decide +kernel), zk hts (by decide +kernel) (by decide +kernel), zk hts (by decide +kernel) (by decide +kernel), zk hts (by decide +kernel) (by decide +kernel)⟩
theorem z_na {args : Array Value} {a b : String} (h : (Cond.not (.castable a b)).before args s0 = true) {c1 c2 : ClassId} (h1 : s0.vm.findClass a = some c1) (h2 : s0.vm.findClass b = some c2) : s0.vm.assignable c1 c2 = false := by
  cases h3 : s0.vm.assignable c1 c2 with
  | false => rfl
  | true =>
    exfalso
    simp [Cond.before, Cond.holds, Cond.value, h1, h2, h3] at h
theorem z_th (hts : zH s0) (hN : zN s0) {args : Array Value} (hno : (Cond.not (.castable "java/lang/IllegalStateException" "java/lang/IllegalArgumentException")).before args s0 = true) : zTh (zX s0 pre D ca) :=
  ⟨zT_of hts hN (cls := "java/lang/IllegalArgumentException") rfl (by decide +kernel), zT_of hts hN (cls := "java/lang/IndexOutOfBoundsException") rfl (by decide +kernel), zT_of hts hN (cls := "java/lang/IllegalStateException") rfl (by decide +kernel), zT_of hts hN (cls := "java/lang/IllegalArgumentException") rfl (by decide +kernel), zT_of hts hN (cls := "java/lang/IllegalArgumentException") rfl (by decide +kernel), zT_of hts hN (cls := "java/lang/IllegalArgumentException") rfl (by decide +kernel), zT_of hts hN (cls := "java/lang/IllegalArgumentException") rfl (by decide +kernel), fun _ _ h1 h2 => z_na hno h1 h2⟩
theorem z_ctx (hts : zH s0) : ∃ (D : va_G) (ca : FieldType → ClassId), ∀ pre : Nat → Nat, xCtx (zX s0 pre D ca) := by
  obtain ⟨D, hK⟩ := z_K hts
  obtain ⟨cI, i1, i2⟩ := z_arr hts (ty := .int) (by decide +kernel)
  obtain ⟨cZ, b1, b2⟩ := z_arr hts (ty := .boolean) (by decide +kernel)
  obtain ⟨cJ, j1, j2⟩ := z_arr hts (ty := .long) (by decide +kernel)
  refine ⟨D, fun ty => match ty with
    | .int => cI
    | .boolean => cZ
    | _ => cJ, fun pre => ⟨hK, fun ty hty => ?_⟩⟩
  rcases hty with rfl | rfl | rfl
  · exact ⟨i2, i1, zk hts (by decide +kernel) rfl⟩
  · exact ⟨b2, b1, zk hts (by decide +kernel) rfl⟩
  · exact ⟨j2, j1, zk hts (by decide +kernel) rfl⟩
end ZC
