/-! RUNS OF THE PURE MACHINE, by rules. -/
/-- n plain steps at once -/
def xN (lk : Nat → Nat → Option xL) (df : xD) (M : xM) : Nat → xF → xH → Option (List Prop × xF × xH)
  | 0, f, h => some ([], f, h)
  | n + 1, f, h => match xcd M.2.1 f.1 with
    | none => none
    | some q => match xE (lk M.1) df M.2.2.2.2.1 q.1 q.2 f.1 f.2.1 f.2.2 h with
      | none => none
      | some r => match xN lk df M n r.2.1 r.2.2 with
        | none => none
        | some t => some (r.1 ++ t.1, t.2.1, t.2.2)
/-- a run of the method from here, to an end that keeps Q -/
def xG (d : Nat) (M : xM) (f : xF) (h : xH) (Q : xO → xH → Prop) : Prop := ∃ k o h', xR zlk zdf (xV zlk zdf zmt d) M k f h o h' ∧ Q o h'
/-- a call's run, to an end that keeps Q -/
def xg (d mid : Nat) (as : List Value) (h : xH) (Q : xO → xH → Prop) : Prop := ∃ o h', xV zlk zdf zmt d mid as h o h' ∧ Q o h'
/-- an end with an int; with a reference; with nothing; or by a throw -/
def xI (P : Int32 → xH → Prop) (T : Nat → xH → Prop) : xO → xH → Prop := fun o h => match o with
  | .inl (some (.int v)) => P v h
  | .inr x => T x h
  | _ => False
def xP (P : Nat → xH → Prop) (T : Nat → xH → Prop) : xO → xH → Prop := fun o h => match o with
  | .inl (some (.ref v)) => P v h
  | .inr x => T x h
  | _ => False
def xU (P : xH → Prop) (T : Nat → xH → Prop) : xO → xH → Prop := fun o h => match o with
  | .inl none => P h
  | .inr x => T x h
  | _ => False
def xmin (x y : Int32) : Int32 := if y < x then y else x
def xmax (x y : Int32) : Int32 := if x < y then y else x
def xabs (x : Int32) : Int32 := if 0 ≤ x then x else 0 - x
def xus (x y : Int32) : Int32 := (x.toUInt32 >>> (y.toUInt32 &&& Int32.toUInt32 31)).toInt32
def xusL (x : Int64) (y : Int32) : Int64 := (x.toUInt64 >>> (y.toInt64.toUInt64 &&& Int64.toUInt64 63)).toInt64
/-- an object's reference field -/
def xRr (sh : List xS) (o ci k a : Nat) : Prop := ∃ rs, sh[o]? = some (.inr (ci, rs)) ∧ rs[k]? = some (.ref a)
/-- a row, its type, its length -/
def xAr (sh : List xS) (a : Nat) (ty : FieldType) (n : Nat) : Prop := sh[a]? = some (.inl (ty, n))
theorem xRr.eq {sh : List xS} {o ci k a : Nat} (h : xRr sh o ci k a) : xrf sh o k = a := by
  obtain ⟨rs, h1, h2⟩ := h
  unfold xrf
  rw [h1]
  dsimp only
  rw [h2]
theorem xRr.ob {sh : List xS} {o ci k a : Nat} (h : xRr sh o ci k a) : xOb sh o ci := ⟨h.choose, h.choose_spec.1⟩
theorem xRr.rf {sh : List xS} {o ci k : Nat} (h : xRr sh o ci k (xrf sh o k)) : xRf sh o ci k := h
theorem xAr.eq {sh : List xS} {a n : Nat} {ty : FieldType} (h : xAr sh a ty n) : xlen sh a = n := by
  unfold xAr at h
  unfold xlen
  rw [h]
theorem xAr.ar {sh : List xS} {a : Nat} {ty : FieldType} (h : xAr sh a ty (xlen sh a)) : xA sh a ty := h
theorem xAll_app : ∀ (a b : List Prop), xAll (a ++ b) → xAll a ∧ xAll b
  | [], b, h => ⟨trivial, h⟩
  | [p], [], h => ⟨h, trivial⟩
  | [p], q :: b, h => ⟨h.1, h.2⟩
  | p :: q :: a, b, h => by
    have h2 := xAll_app (q :: a) b h.2
    exact ⟨⟨h.1, h2.1⟩, h2.2⟩
theorem xG_N {d : Nat} {M : xM} {Q : xO → xH → Prop} : ∀ (n : Nat) {f f1 : xF} {h h1 : xH} {ps : List Prop}, xN zlk zdf M n f h = some (ps, f1, h1) → xAll ps → xG d M f1 h1 Q → xG d M f h Q := by
  intro n
  induction n with
  | zero => intro f f1 h h1 ps e _ k; cases e; exact k
  | succ n ih =>
    intro f f1 h h1 ps e hp k
    unfold xN at e
    cases hc : xcd M.2.1 f.1 with
    | none => rw [hc] at e; cases e
    | some q =>
      rw [hc] at e
      dsimp only at e
      cases he : xE (zlk M.1) zdf M.2.2.2.2.1 q.1 q.2 f.1 f.2.1 f.2.2 h with
      | none => rw [he] at e; cases e
      | some r =>
        rw [he] at e
        dsimp only at e
        cases hn : xN zlk zdf M n r.2.1 r.2.2 with
        | none => rw [hn] at e; cases e
        | some t =>
          rw [hn] at e
          cases e
          obtain ⟨h1, h2⟩ := xAll_app _ _ hp
          obtain ⟨k9, o, h', hr, hQ⟩ := ih hn h2 k
          exact ⟨k9 + 1, o, h', ⟨q.1, q.2, hc, Or.inl ⟨r.1, r.2.1, r.2.2, he, h1, hr⟩⟩, hQ⟩
/-- more steps, deeper calls, do no harm -/
theorem xR_more {C C' : Nat → List Value → xH → xO → xH → Prop} (hC : ∀ mid as h o h', C mid as h o h' → C' mid as h o h') {M : xM} : ∀ (k : Nat) (f : xF) (h : xH) (o : xO) (h' : xH), xR zlk zdf C M k f h o h' → ∀ j, k ≤ j → xR zlk zdf C' M j f h o h' := by
  intro k
  induction k with
  | zero => intro f h o h' hr; exact hr.elim
  | succ k ih =>
    intro f h o h' hr j hj
    obtain ⟨j, rfl⟩ : ∃ j', j = j' + 1 := ⟨j - 1, by omega⟩
    have hj : k ≤ j := by omega
    obtain ⟨i, len, hcd, hr⟩ := hr
    refine ⟨i, len, hcd, ?_⟩
    rcases hr with ⟨ps, f1, h1, hE, hps, hr⟩ | ⟨b, t, r, hBr, hk1, hk2⟩ | ⟨mid', n, hK, hlen3, hn, h8, hrc, hr⟩ | hr | hr
    · exact Or.inl ⟨ps, f1, h1, hE, hps, ih _ _ _ _ hr j hj⟩
    · exact Or.inr (Or.inl ⟨b, t, r, hBr, fun z => ih _ _ _ _ (hk1 z) j hj, fun z => ih _ _ _ _ (hk2 z) j hj⟩)
    · refine Or.inr (Or.inr (Or.inl ⟨mid', n, hK, hlen3, hn, h8, hrc, ?_⟩))
      rcases hr with ⟨v, h1, hv, hr⟩ | ⟨x, h1, hv, hnone, e1, e2⟩ | ⟨x, h1, a, b, t, ec, hv, hsome, ha, hb9, hxc, hr⟩ | ⟨x, h1, a, b, t, ec, hv, hsome, ha, hb9, hec, hxc, hr⟩
      · exact Or.inl ⟨v, h1, hC _ _ _ _ _ hv, ih _ _ _ _ hr j hj⟩
      · exact Or.inr (Or.inl ⟨x, h1, hC _ _ _ _ _ hv, hnone, e1, e2⟩)
      · exact Or.inr (Or.inr (Or.inl ⟨x, h1, a, b, t, ec, hC _ _ _ _ _ hv, hsome, ha, hb9, hxc, ih _ _ _ _ hr j hj⟩))
      · exact Or.inr (Or.inr (Or.inr ⟨x, h1, a, b, t, ec, hC _ _ _ _ _ hv, hsome, ha, hb9, hec, hxc, ih _ _ _ _ hr j hj⟩))
    · exact Or.inr (Or.inr (Or.inr (Or.inl hr)))
    · exact Or.inr (Or.inr (Or.inr (Or.inr hr)))
theorem xV_more : ∀ (d mid : Nat) (as : List Value) (h : xH) (o : xO) (h' : xH), xV zlk zdf zmt d mid as h o h' → xV zlk zdf zmt (d + 1) mid as h o h' := by
  intro d
  induction d with
  | zero => intro mid as h o h' hr; exact hr.elim
  | succ d ih =>
    intro mid as h o h' hr
    obtain ⟨M, h1, h2, k, h3⟩ := hr
    exact ⟨M, h1, h2, k, xR_more ih k _ _ _ _ h3 k (Nat.le_refl _)⟩
theorem xg_up {d mid : Nat} {as : List Value} {h : xH} {Q : xO → xH → Prop} (k : xg d mid as h Q) : xg (d + 1) mid as h Q := by
  obtain ⟨o, h', h1, h2⟩ := k
  exact ⟨o, h', xV_more _ _ _ _ _ _ h1, h2⟩
theorem xg_le {d e mid : Nat} {as : List Value} {h : xH} {Q : xO → xH → Prop} (k : xg d mid as h Q) (hde : d ≤ e) : xg e mid as h Q := by
  obtain ⟨j, rfl⟩ : ∃ j, e = d + j := ⟨e - d, by omega⟩
  clear hde
  induction j with
  | zero => exact k
  | succ j ih => exact xg_up ih
theorem xg_w {d mid : Nat} {as : List Value} {h : xH} {Q Q' : xO → xH → Prop} (k : xg d mid as h Q) (hQ : ∀ o h', Q o h' → Q' o h') : xg d mid as h Q' := by
  obtain ⟨o, h', h1, h2⟩ := k
  exact ⟨o, h', h1, hQ _ _ h2⟩
/-- a call's run out of its method's -/
theorem xg_of {d mid : Nat} {M : xM} {as : List Value} {h : xH} {Q : xO → xH → Prop} (hM : zmt mid = some M) (hl : (xent as).length ≤ M.2.2.1) (k : xG d M (0, xent as ++ List.replicate (M.2.2.1 - (xent as).length) none, []) h Q) : xg (d + 1) mid as h Q := by
  obtain ⟨k, o, h', h1, h2⟩ := k
  exact ⟨o, h', ⟨M, hM, hl, k, h1⟩, h2⟩
section XG
variable {d : Nat} {M : xM} {Q : xO → xH → Prop} {pc : Nat} {L : List (Option Value)} {st : List Value} {h : xH} {i : Instr}
theorem xG_B {len : Nat} {b : Prop} {t : Nat} {r : List Value} (hc : xcd M.2.1 pc = some (i, len)) (e : xB i len pc st = some (b, t, r)) (k1 : b → xG d M (t, L, r) h Q) (k2 : ¬ b → xG d M (pc + 3, L, r) h Q) : xG d M (pc, L, st) h Q := by
  by_cases hb : b
  · obtain ⟨k, o, h', h1, h2⟩ := k1 hb
    exact ⟨k + 1, o, h', ⟨i, len, hc, Or.inr (Or.inl ⟨b, t, r, e, fun _ => h1, fun z => absurd hb z⟩)⟩, h2⟩
  · obtain ⟨k, o, h', h1, h2⟩ := k2 hb
    exact ⟨k + 1, o, h', ⟨i, len, hc, Or.inr (Or.inl ⟨b, t, r, e, fun z => absurd z hb, fun _ => h1⟩)⟩, h2⟩
theorem xG_Q {ps : List Prop} {v : Option Value} (hc : xcd M.2.1 pc = some (i, 1)) (e : xQ M.2.2.2.1 i st = some (ps, v)) (hp : xAll ps) (k : Q (.inl v) h) : xG d M (pc, L, st) h Q :=
  ⟨1, _, _, ⟨i, 1, hc, Or.inr (Or.inr (Or.inr (Or.inl ⟨ps, v, e, rfl, hp, rfl, rfl⟩)))⟩, k⟩
theorem xG_T {e : Nat} (hc : xcd M.2.1 pc = some (i, 3)) (ht : xTh (zlk M.1) M.2.1 pc i = some e) (hn : M.2.2.2.2.2 = none) (h8 : (st.map fun v => v.category).sum ≤ 8) (k : Q (.inr h.1.length) (h.1 ++ [.inr (e, [])], h.2)) : xG d M (pc, L, st) h Q :=
  ⟨1, _, _, ⟨i, 3, hc, Or.inr (Or.inr (Or.inr (Or.inr ⟨e, ht, rfl, hn, h8, rfl, rfl⟩)))⟩, k⟩
/-- a switch -/
theorem xG_S {dflt lo hi : Int} {offs : Array Int} {len : Nat} {x : Int32} {r : List Value} {t : Nat} (hc : xcd M.2.1 pc = some (.tableswitch dflt lo hi offs, len)) (h1 : x.toInt < lo ∨ hi < x.toInt ∨ (x.toInt - lo).toNat < offs.size) (ht : (pc : Int) + xsw dflt lo hi offs x.toInt = (t : Int)) (k : xG d M (t, L, r) h Q) : xG d M (pc, L, .int x :: r) h Q := by
  obtain ⟨k, o, h', g1, g2⟩ := k
  refine ⟨k + 1, o, h', ⟨_, len, hc, Or.inl ⟨_, _, _, rfl, ⟨h1, by rw [ht]; exact Int.natCast_nonneg t⟩, ?_⟩⟩, g2⟩
  rw [ht, Int.toNat_natCast]
  exact g1
variable {mid n : Nat} {as : List Value}
/-- a call, no handler about -/
theorem xG_C {as rest : List Value} (hc : xcd M.2.1 pc = some (i, 3)) (hK : xK (zlk M.1) i = some (mid, n)) (hn : n ≤ st.length) (h8 : ((st.drop n).map fun v => v.category).sum ≤ 8) (hrc : xrc (zlk M.1) i (st.take n).reverse h.1) (hx : M.2.2.2.2.2 = none)
    (k : xg d mid (st.take n).reverse h (fun o h1 => match o with
      | .inl v => xG d M (pc + 3, L, v.toList ++ st.drop n) h1 Q
      | .inr x => Q (.inr x) h1)) : xG d M (pc, L, st) h Q := by
  obtain ⟨o, h1, hv, hk⟩ := k
  cases o with
  | inl v =>
    obtain ⟨k, o, h', g1, g2⟩ := hk
    exact ⟨k + 1, o, h', ⟨i, 3, hc, Or.inr (Or.inr (Or.inl ⟨mid, n, hK, rfl, hn, h8, hrc, Or.inl ⟨v, h1, hv, g1⟩⟩))⟩, g2⟩
  | inr x => exact ⟨1, _, _, ⟨i, 3, hc, Or.inr (Or.inr (Or.inl ⟨mid, n, hK, rfl, hn, h8, hrc, Or.inr (Or.inl ⟨x, h1, hv, hx, rfl, rfl⟩)⟩))⟩, hk⟩
theorem xG_Ci (hc : xcd M.2.1 pc = some (i, 3)) (hK : xK (zlk M.1) i = some (mid, n)) (hn : n ≤ st.length) (h8 : ((st.drop n).map fun v => v.category).sum ≤ 8) (hrc : xrc (zlk M.1) i (st.take n).reverse h.1) (hx : M.2.2.2.2.2 = none)
    (k : xg d mid (st.take n).reverse h (xI (fun v h1 => xG d M (pc + 3, L, .int v :: st.drop n) h1 Q) (fun x h1 => Q (.inr x) h1))) : xG d M (pc, L, st) h Q := by
  refine xG_C (as := []) (rest := []) hc hK hn h8 hrc hx (xg_w k fun o h1 ho => ?_)
  match o, ho with
  | .inl (some (.int v)), ho => exact ho
  | .inr x, ho => exact ho
theorem xG_Cp (hc : xcd M.2.1 pc = some (i, 3)) (hK : xK (zlk M.1) i = some (mid, n)) (hn : n ≤ st.length) (h8 : ((st.drop n).map fun v => v.category).sum ≤ 8) (hrc : xrc (zlk M.1) i (st.take n).reverse h.1) (hx : M.2.2.2.2.2 = none)
    (k : xg d mid (st.take n).reverse h (xP (fun v h1 => xG d M (pc + 3, L, .ref v :: st.drop n) h1 Q) (fun x h1 => Q (.inr x) h1))) : xG d M (pc, L, st) h Q := by
  refine xG_C (as := []) (rest := []) hc hK hn h8 hrc hx (xg_w k fun o h1 ho => ?_)
  match o, ho with
  | .inl (some (.ref v)), ho => exact ho
  | .inr x, ho => exact ho
theorem xG_Cu (hc : xcd M.2.1 pc = some (i, 3)) (hK : xK (zlk M.1) i = some (mid, n)) (hn : n ≤ st.length) (h8 : ((st.drop n).map fun v => v.category).sum ≤ 8) (hrc : xrc (zlk M.1) i (st.take n).reverse h.1) (hx : M.2.2.2.2.2 = none)
    (k : xg d mid (st.take n).reverse h (xU (fun h1 => xG d M (pc + 3, L, st.drop n) h1 Q) (fun x h1 => Q (.inr x) h1))) : xG d M (pc, L, st) h Q := by
  refine xG_C (as := []) (rest := []) hc hK hn h8 hrc hx (xg_w k fun o h1 ho => ?_)
  match o, ho with
  | .inl none, ho => exact ho
  | .inr x, ho => exact ho
end XG
