/-! The context at the law's start: classes, array classes, static rows, the words of throws. -/
section ZB
variable {X : xX}
theorem z_lays (hts : zH X.s) {C n d : String} (hm : Cond.laysStatic C n d ∈ lw_tbl) {U : State} (hold : ∀ q : Nat, q < X.s.heap.size → U.heap[q]? = X.s.heap[q]?) (hW : X.s.WarmedH U.vm) (args : Array Value) : (Cond.laysStatic C n d).before args U = true := by
  obtain ⟨a0, h⟩ := hts
  obtain ⟨c, k, i, f, a, cell, h1, h2, h3, h4, h5, h6, h7, h8, h9⟩ := Cond.laysStatic_spec (h _ hm)
  obtain ⟨k', hi', he⟩ := State.fieldFound?_setVm hW.alike h2
  show (Cond.laysStatic C n d).holds args U none U [] = true
  exact Cond.laysStatic_of (by rw [hW.alike.findClass]; exact h1) hi' h3 (by rw [he]; exact h4) (by rw [hold a (Array.getElem?_eq_some_iff.mp h5).1]; exact h5) h6 h7 h8 (by rw [he]; exact h9)
theorem z_isref (hts : zH X.s) {C n d : String} (hm : Cond.laysStatic C n d ∈ lw_tbl) (hi : Cond.initialized C ∈ lw_tbl) {a1 : Array Value} (hr : (Cond.isRef (.static C n d)).before a1 X.s = true) {U : State} (hold : ∀ q : Nat, q < X.s.heap.size → U.heap[q]? = X.s.heap[q]?) (hW : X.s.WarmedH U.vm) (args : Array Value) : (Cond.isRef (.static C n d)).before args U = true := by
  have hz : va_Zq C n d (fun q => X.s.heap.size ≤ q) X.s X.s.heap := va_Zqof (z_lays hts hm (fun _ _ => rfl) (State.WarmedH.refl _) a1) (zk (X := X) hts hi rfl X.s a1 (State.WarmedH.refl _)) hr (fun a ha => Nat.not_le.mpr ha)
  have hz2 := va_Zq.moved hW.alike hz
  have key : ∀ v : Value, v.isRef = true → va_Z C n d v (fun q => X.s.heap.size ≤ q) U X.s.heap → (Cond.isRef (.static C n d)).before args U = true := by
    intro v hv hZ
    obtain ⟨cf, kf, fi, f, a, cell, h1, h2, h3, h4, h5, h6, h7, -⟩ := hZ
    have h5' : U.heap[a]? = some cell := by rw [hold a (Array.getElem?_eq_some_iff.mp h5).1]; exact h5
    have he : (Term.static C n d).eval args U none [] U = some v := by
      simp [Term.eval, State.fieldNamed?, h1, h2, h4, h5', h6, h7]
    simp only [Cond.before, Cond.holds, Cond.value, he]
    cases v <;> simp_all [Value.isRef]
  rcases hz2 with h9 | ⟨t, h9⟩
  · exact key _ rfl h9
  · exact key _ rfl h9
def zsp (w : Cond) : Bool := match w with
  | .declares _ => true
  | .castable _ _ => true
  | _ => false
def zck (w : Cond) : Bool := (decide (w ∈ lw_tbl) && (goodWord w || zsp w)) || decide (w = .laysStatic Bundle.tN "UNASSIGNED_STACK" Bundle.steD) || decide (w = .laysStatic Bundle.tN "SUPPRESSED_SENTINEL" Bundle.listD) || decide (w = .isRef (.static Bundle.tN "UNASSIGNED_STACK" Bundle.steD)) || decide (w = .isRef (.static Bundle.tN "SUPPRESSED_SENTINEL" Bundle.listD))
/-- what the Statement says of two static fields -/
def zN (s0 : State) : Prop := ∃ a1 : Array Value, (Cond.isRef (.static Bundle.tN "UNASSIGNED_STACK" Bundle.steD)).before a1 s0 = true ∧ (Cond.isRef (.static Bundle.tN "SUPPRESSED_SENTINEL" Bundle.listD)).before a1 s0 = true
theorem zck_ok (hts : zH X.s) (hN : zN X.s) {w : Cond} (hw : zck w = true) {U : State} (hold : ∀ q : Nat, q < X.s.heap.size → U.heap[q]? = X.s.heap[q]?) (hW : X.s.WarmedH U.vm) (args : Array Value) : w.before args U = true := by
  obtain ⟨a1, n1, n2⟩ := hN
  simp only [zck, Bool.or_eq_true, Bool.and_eq_true, decide_eq_true_eq] at hw
  rcases hw with (((⟨hm, hg | hg⟩ | rfl) | rfl) | rfl) | rfl
  · exact zk hts hm hg U args hW
  · unfold zsp at hg
    split at hg
    · exact zkD hts hm U args hW
    · exact zkC hts hm U args hW
    · cases hg
  · exact z_lays hts (by decide +kernel) hold hW args
  · exact z_lays hts (by decide +kernel) hold hW args
  · exact z_isref hts (by decide +kernel) (by decide +kernel) n1 hold hW args
  · exact z_isref hts (by decide +kernel) (by decide +kernel) n2 hold hW args
theorem zT_of (hts : zH X.s) (hN : zN X.s) {own : String} {k a : Nat} {cls : String} (hc : X.ex a = cls) (h : (Bundle.ownAtoms own k cls ["java/lang/RuntimeException", "java/lang/Exception"]).all zck = true) : zT X own k a := by
  refine ⟨["java/lang/RuntimeException", "java/lang/Exception"], by decide, by decide +kernel, fun U args hold hW z hz => ?_⟩
  rw [hc] at hz
  exact zck_ok hts hN (List.all_eq_true.mp h z hz) hold hW args
end ZB
