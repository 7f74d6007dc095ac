/-! Branches; a run only grows the heap. -/
section XQ
variable {l : Launch} {p : Program} {e : Env} {R : Room} {s : State} {m : MethodId} {args : Array Value} {below : List Frame} {meth : Method} {c : Code} {H : Heap} {locs : List Loc} {cells slots : Nat} {Q : State → Prop}
theorem xbranch {cc : ByteArray} {pc : Nat} {ls : Array Slot} {ad : Nat → Nat} (hexec : p.tables.exec = Jvm.exec) (hb : c.code = cc) {i : Instr} {len t : Nat} {st r : List Value} {b : Prop} (hdg : decode cc pc = .ok (i, len)) (hB : xB i len pc st = some (b, t, r))
    (k1 : b → W p l e R s m args below meth c H locs cells slots Q (F0 m t ls (r.map (xva ad)))) (k2 : ¬ b → W p l e R s m args below meth c H locs cells slots Q (F0 m (pc + 3) ls (r.map (xva ad)))) :
    W p l e R s m args below meth c H locs cells slots Q (F0 m pc ls (st.map (xva ad))) := by
  unfold xB at hB
  split at hB
  · obtain ⟨t9, ht, he⟩ := Option.map_eq_some_iff.mp hB
    simp only [Prod.mk.injEq] at he
    obtain ⟨rfl, rfl, rfl⟩ := he
    exact lv_if_eq hexec hb hdg (xtg_eq ht) k1 k2
  · obtain ⟨t9, ht, he⟩ := Option.map_eq_some_iff.mp hB
    simp only [Prod.mk.injEq] at he
    obtain ⟨rfl, rfl, rfl⟩ := he
    exact lv_if_ne hexec hb hdg (xtg_eq ht) k1 (fun h9 => k2 (fun n => n h9))
  · obtain ⟨t9, ht, he⟩ := Option.map_eq_some_iff.mp hB
    simp only [Prod.mk.injEq] at he
    obtain ⟨rfl, rfl, rfl⟩ := he
    exact lv_if_lt hexec hb hdg (xtg_eq ht) k1 k2
  · obtain ⟨t9, ht, he⟩ := Option.map_eq_some_iff.mp hB
    simp only [Prod.mk.injEq] at he
    obtain ⟨rfl, rfl, rfl⟩ := he
    exact lv_if_ge hexec hb hdg (xtg_eq ht) k1 k2
  · obtain ⟨t9, ht, he⟩ := Option.map_eq_some_iff.mp hB
    simp only [Prod.mk.injEq] at he
    obtain ⟨rfl, rfl, rfl⟩ := he
    exact lv_if_gt hexec hb hdg (xtg_eq ht) k1 k2
  · obtain ⟨t9, ht, he⟩ := Option.map_eq_some_iff.mp hB
    simp only [Prod.mk.injEq] at he
    obtain ⟨rfl, rfl, rfl⟩ := he
    exact lv_if_le hexec hb hdg (xtg_eq ht) k1 k2
  · obtain ⟨t9, ht, he⟩ := Option.map_eq_some_iff.mp hB
    simp only [Prod.mk.injEq] at he
    obtain ⟨rfl, rfl, rfl⟩ := he
    exact lv_icmp_eq hexec hb hdg (xtg_eq ht) k1 k2
  · obtain ⟨t9, ht, he⟩ := Option.map_eq_some_iff.mp hB
    simp only [Prod.mk.injEq] at he
    obtain ⟨rfl, rfl, rfl⟩ := he
    exact lv_icmp_ne hexec hb hdg (xtg_eq ht) k1 (fun h9 => k2 (fun n => n h9))
  · obtain ⟨t9, ht, he⟩ := Option.map_eq_some_iff.mp hB
    simp only [Prod.mk.injEq] at he
    obtain ⟨rfl, rfl, rfl⟩ := he
    exact lv_icmp_lt hexec hb hdg (xtg_eq ht) k1 k2
  · obtain ⟨t9, ht, he⟩ := Option.map_eq_some_iff.mp hB
    simp only [Prod.mk.injEq] at he
    obtain ⟨rfl, rfl, rfl⟩ := he
    exact lv_icmp_ge hexec hb hdg (xtg_eq ht) k1 k2
  · obtain ⟨t9, ht, he⟩ := Option.map_eq_some_iff.mp hB
    simp only [Prod.mk.injEq] at he
    obtain ⟨rfl, rfl, rfl⟩ := he
    exact lv_icmp_gt hexec hb hdg (xtg_eq ht) k1 k2
  · obtain ⟨t9, ht, he⟩ := Option.map_eq_some_iff.mp hB
    simp only [Prod.mk.injEq] at he
    obtain ⟨rfl, rfl, rfl⟩ := he
    exact lv_icmp_le hexec hb hdg (xtg_eq ht) k1 k2
  · cases hB
end XQ
set_option maxHeartbeats 4000000 in
theorem xE_mono {X : xX} {lk : Nat → Option xL} {df : xD} {ctor : Bool} {i : Instr} {len pc : Nat} {L : List (Option Value)} {st : List Value} {h h1 : xH} {ps : List Prop} {f1 : xF} (hE : xE lk df ctor i len pc L st h = some (ps, f1, h1)) :
    h.1.length ≤ h1.1.length ∧ xsl X h.1 ≤ xsl X h1.1 := by
  unfold xE at hE
  split at hE <;> (repeat' split at hE) <;> (first
    | (cases hE; done)
    | (simp only [Option.some.injEq, Prod.mk.injEq] at hE; obtain ⟨-, -, rfl⟩ := hE; first
      | exact ⟨Nat.le_refl _, Nat.le_refl _⟩
      | (refine ⟨?_, ?_⟩
         · rw [(xsl_sr X _ _ _ _).2]; exact Nat.le_refl _
         · rw [(xsl_sr X _ _ _ _).1]; exact Nat.le_refl _)
      | exact ⟨by simp, by rw [xsl_add]; omega⟩))
theorem xR_mono {X : xX} {lk : Nat → Nat → Option xL} {df : xD} {C : Nat → List Value → xH → xO → xH → Prop} {M : xM} (hC : ∀ mid as h o h', C mid as h o h' → h.1.length ≤ h'.1.length ∧ xsl X h.1 ≤ xsl X h'.1) :
    ∀ (k : Nat) (f : xF) (h : xH) (o : xO) (h' : xH), xR lk df C M k f h o h' → h.1.length ≤ h'.1.length ∧ xsl X h.1 ≤ xsl X h'.1 := by
  intro k
  induction k with
  | zero => intro f h o h' hr; exact hr.elim
  | succ k ih =>
    intro f h o h' hr
    obtain ⟨i, len, -, hr⟩ := hr
    rcases hr with ⟨ps, f1, h1, hE, -, hr⟩ | ⟨b, t, r, -, hk1, hk2⟩ | ⟨mid, n, -, -, -, -, -, hr⟩ | ⟨ps, v, -, -, -, -, rfl⟩ | ⟨e, -, -, -, -, -, rfl⟩
    · have a := xE_mono (X := X) hE
      have b := ih _ _ _ _ hr
      exact ⟨Nat.le_trans a.1 b.1, Nat.le_trans a.2 b.2⟩
    · by_cases hb : b
      · exact ih _ _ _ _ (hk1 hb)
      · exact ih _ _ _ _ (hk2 hb)
    · rcases hr with ⟨v, h1, hc, hr⟩ | ⟨x, h1, hc, -, -, rfl⟩ | ⟨x, h1, a, b, t, c, hc, -, -, -, -, hr⟩ | ⟨x, h1, a, b, t, c, hc, -, -, -, -, -, hr⟩
      · have a := hC _ _ _ _ _ hc
        have b := ih _ _ _ _ hr
        exact ⟨Nat.le_trans a.1 b.1, Nat.le_trans a.2 b.2⟩
      · exact hC _ _ _ _ _ hc
      · have a := hC _ _ _ _ _ hc
        have b := ih _ _ _ _ hr
        exact ⟨Nat.le_trans a.1 b.1, Nat.le_trans a.2 b.2⟩
      · have a := hC _ _ _ _ _ hc
        have b := ih _ _ _ _ hr
        exact ⟨Nat.le_trans a.1 b.1, Nat.le_trans a.2 b.2⟩
    · exact ⟨Nat.le_refl _, Nat.le_refl _⟩
    · exact ⟨by simp, by rw [xsl_add]; omega⟩
theorem xV_mono {X : xX} {lk : Nat → Nat → Option xL} {df : xD} {mt : Nat → Option xM} : ∀ (d mid : Nat) (as : List Value) (h : xH) (o : xO) (h' : xH), xV lk df mt d mid as h o h' → h.1.length ≤ h'.1.length ∧ xsl X h.1 ≤ xsl X h'.1 := by
  intro d
  induction d with
  | zero => intro mid as h o h' hr; exact hr.elim
  | succ d ih =>
    intro mid as h o h' hr
    obtain ⟨M, -, -, k, hr⟩ := hr
    exact xR_mono ih k _ _ _ _ hr
