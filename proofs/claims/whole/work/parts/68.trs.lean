/-! THE TRANSFORMS OF A STREAM, as both programs hear them. -/
/-- kinds and widths in their order; modes, deltas, palette, how many colours -/
abbrev zTr : Type := List (Nat × Nat) × (Nat → Int32) × (Nat → Int32) × (Nat → Int32) × Nat
def psums (f : Nat → Int32) : Nat → Int32
  | 0 => f 0
  | k + 1 => psum (f (k + 1)) (psums f k)
theorem psum_c (a b : Int32) : psum a b = psum b a := by
  unfold psum
  have e : (fun k => (pt a k + pt b k) &&& nI 255) = fun k => (pt b k + pt a k) &&& nI 255 := by
    funext k
    rw [Int32.add_comm]
  rw [e]
def hask (ks : List (Nat × Nat)) (k : Nat) : Bool := ks.any fun q => q.1 == k
def pTake (B : Nat → Int32) (N : Nat) (s : zTr) (w h p : Nat) : Option (zTr × Nat × Nat) :=
  match pNum B N 2 p with
  | none => none
  | some (kind, p1) => if hask s.1 kind = true then none else
    if kind = 2 then some ((s.1 ++ [(kind, w)], s.2), w, p1)
    else if kind = 3 then (match pNum B N 4 p1 with
      | none => none
      | some (m, p2) => (match pImg B N (m + 1) (m + 1) p2 with
        | none => none
        | some (f, _, _, _, p3) => some ((s.1 ++ [(kind, w)], s.2.1, s.2.2.1, psums f, m + 1), pkw w (m + 1), p3)))
    else (match pImg B N (bl w) (bl w * bl h) p1 with
      | none => none
      | some (f, _, _, _, p2) => if kind = 0 then some ((s.1 ++ [(kind, w)], f, s.2.2.1, s.2.2.2.1, s.2.2.2.2), w, p2) else some ((s.1 ++ [(kind, w)], s.2.1, f, s.2.2.2.1, s.2.2.2.2), w, p2))
/-- all transforms from here on -/
def pTrs (B : Nat → Int32) (N h : Nat) : Nat → zTr → Nat → Nat → Option (zTr × Nat × Nat)
  | 0, s, w, p => some (s, w, p)
  | k + 1, s, w, p => match pNum B N 1 p with
    | none => none
    | some (b, p1) => if b = 1 then (match pTake B N s w h p1 with
      | none => none
      | some (s1, w1, p2) => pTrs B N h k s1 w1 p2) else some (s, w, p1)
/-- one undone; all undone -/
def und (s : zTr) (h : Nat) (q : Nat × Nat) (f : Nat → Int32) : Nat → Int32 :=
  if q.1 = 0 then rasL (S0 s.2.1 q.2) (q.2 * h) 0 f else if q.1 = 1 then rasL (S1 s.2.2.1 q.2) (q.2 * h) 0 f else if q.1 = 2 then rasL S2 (q.2 * h) 0 f else fun k => punp s.2.2.2.1 s.2.2.2.2 q.2 k f
def undo (s : zTr) (h : Nat) : List (Nat × Nat) → (Nat → Int32) → (Nat → Int32)
  | [], f => f
  | q :: r, f => und s h q (undo s h r f)
/-- the widths fit each other -/
def chn (pn : Nat) : List (Nat × Nat) → Nat → Nat → Prop
  | [], a, b => a = b
  | q :: r, a, b => q.2 = a ∧ chn pn r (if q.1 = 3 then pkw q.2 pn else q.2) b
/-- a good list of transforms: kinds below 4, each once; widths 1 to 8; the palette's colours -/
def tok (s : zTr) (w0 w : Nat) : Prop := (s.1.map Prod.fst).Nodup ∧ (∀ q, q ∈ s.1 → q.1 < 4 ∧ 1 ≤ q.2 ∧ q.2 ≤ 8 ∧ (q.1 = 3 → 1 ≤ s.2.2.2.2 ∧ s.2.2.2.2 ≤ 16)) ∧ chn s.2.2.2.2 s.1 w0 w ∧ 1 ≤ w ∧ w ≤ 8
/-- the stream's picture: (width, height, pixels, kinds, cache's bits, copies, cached, place) -/
def pRead (B : Nat → Int32) (N : Nat) : Option (Nat × Nat × (Nat → Int32) × List (Nat × Nat) × Nat × Nat × Nat × Nat) :=
  match pNum B N 8 0 with
  | none => none
  | some (m, p1) => if m = 47 then (match pNum B N 3 p1 with
    | none => none
    | some (w, p2) => (match pNum B N 3 p2 with
      | none => none
      | some (h, p3) => (match pTrs B N (h + 1) 5 ([], (fun _ => 0), (fun _ => 0), (fun _ => 0), 0) (w + 1) p3 with
        | none => none
        | some (s, w1, p4) => (match pImg B N w1 (w1 * (h + 1)) p4 with
          | none => none
          | some (f, b, cp, ca, p5) => some (w + 1, h + 1, undo s (h + 1) s.1 f, s.1, b, cp, ca, p5))))) else none
theorem chn_app (pn : Nat) (q : Nat × Nat) : ∀ (ks : List (Nat × Nat)) (a b : Nat), chn pn ks a b → q.2 = b → chn pn (ks ++ [q]) a (if q.1 = 3 then pkw q.2 pn else q.2)
  | [], a, b, h, e => ⟨e.trans h.symm, rfl⟩
  | r :: ks, a, b, h, e => ⟨h.1, chn_app pn q ks _ b h.2 e⟩
theorem chn_pn {pn pn' : Nat} : ∀ (ks : List (Nat × Nat)) (a b : Nat), (∀ q, q ∈ ks → q.1 ≠ 3) → chn pn ks a b → chn pn' ks a b
  | [], _, _, _, h => h
  | r :: ks, a, b, hk, h => by
    have h3 := hk r (List.mem_cons_self ..)
    refine ⟨h.1, ?_⟩
    have := chn_pn (pn' := pn') ks _ b (fun q hq => hk q (List.mem_cons_of_mem _ hq)) h.2
    rw [if_neg h3] at this ⊢
    exact this
theorem hask_f {ks : List (Nat × Nat)} {k : Nat} (h : ¬ hask ks k = true) : ∀ q, q ∈ ks → q.1 ≠ k := by
  intro q hq e
  apply h
  unfold hask
  rw [List.any_eq_true]
  exact ⟨q, hq, by rw [e]; exact beq_self_eq_true k⟩
theorem hask_t {ks : List (Nat × Nat)} {k : Nat} (h : hask ks k = true) : ∃ q, q ∈ ks ∧ q.1 = k := by
  unfold hask at h
  rw [List.any_eq_true] at h
  obtain ⟨q, hq, e⟩ := h
  exact ⟨q, hq, eq_of_beq e⟩
/-- a transform more -/
theorem tok_app {s : zTr} {w0 w kind w1 : Nat} {mo de pa : Nat → Int32} {pn : Nat} (h : tok s w0 w) (hk : kind < 4) (hn : ¬ hask s.1 kind = true) (hpn : kind ≠ 3 → pn = s.2.2.2.2) (h3 : kind = 3 → 1 ≤ pn ∧ pn ≤ 16) (hw1 : w1 = if kind = 3 then pkw w pn else w) : tok (s.1 ++ [(kind, w)], mo, de, pa, pn) w0 w1 := by
  obtain ⟨h1, h2, h4, h5, h6⟩ := h
  have hf := hask_f hn
  refine ⟨?_, ?_, ?_, ?_⟩
  · rw [List.map_append]
    refine List.nodup_append.mpr ⟨h1, by simp, ?_⟩
    intro a ha b hb
    simp at hb
    obtain ⟨q, hq, rfl⟩ := List.mem_map.mp ha
    rw [hb]
    exact hf q hq
  · intro q hq
    rcases List.mem_append.mp hq with hq | hq
    · obtain ⟨y1, y2, y3, y4⟩ := h2 q hq
      refine ⟨y1, y2, y3, fun e => ?_⟩
      by_cases ek : kind = 3
      · exact h3 ek
      · show 1 ≤ pn ∧ pn ≤ 16
        rw [hpn ek]
        exact y4 e
    · simp at hq
      subst hq
      exact ⟨hk, h5, h6, fun e => h3 e⟩
  · show chn pn (s.1 ++ [(kind, w)]) w0 w1
    rw [hw1]
    refine chn_app pn (kind, w) s.1 w0 w ?_ rfl
    by_cases ek : kind = 3
    · exact chn_pn s.1 w0 w (fun q hq e => hf q hq (e.trans ek.symm)) h4
    · rw [hpn ek]; exact h4
  · by_cases ek : kind = 3
    · rw [if_pos ek] at hw1
      rw [hw1]
      have := pkw_le (n := pn) (show 0 < w by omega)
      omega
    · rw [if_neg ek] at hw1
      omega
theorem four : ∀ a b c d : Fin 4, a ≠ b → a ≠ c → a ≠ d → b ≠ c → b ≠ d → c ≠ d → ∀ k : Fin 4, k = a ∨ k = b ∨ k = c ∨ k = d := by decide
/-- no fifth kind -/
theorem tok_4 {s : zTr} {w0 w kind : Nat} (h : tok s w0 w) (hk : kind < 4) (hl : 4 ≤ s.1.length) : hask s.1 kind = true := by
  obtain ⟨h1, h2, -⟩ := h
  apply Classical.byContradiction
  intro hn
  have hf := hask_f hn
  match hs : s.1, hl with
  | a :: b :: c :: d :: r, _ =>
    rw [hs] at h1 h2 hf
    simp at h1
    have a4 := (h2 a (by simp)).1
    have b4 := (h2 b (by simp)).1
    have c4 := (h2 c (by simp)).1
    have d4 := (h2 d (by simp)).1
    have fa := hf a (by simp)
    have fb := hf b (by simp)
    have fc := hf c (by simp)
    have fd := hf d (by simp)
    obtain ⟨⟨n1, n2, n3, -⟩, ⟨n4, n5, -⟩, ⟨n6, -⟩, -⟩ := h1
    omega
theorem tok_le {s : zTr} {w0 w : Nat} (h : tok s w0 w) : s.1.length ≤ 4 := by
  apply Classical.byContradiction
  intro hl
  obtain ⟨h1, h2, -⟩ := h
  match hs : s.1, hl with
  | [], hl => simp at hl
  | [_], hl => simp at hl
  | [_, _], hl => simp at hl
  | [_, _, _], hl => simp at hl
  | [_, _, _, _], hl => simp at hl
  | a :: b :: c :: d :: e :: r, _ =>
    rw [hs] at h1 h2
    simp at h1
    have a4 := (h2 a (by simp)).1
    have b4 := (h2 b (by simp)).1
    have c4 := (h2 c (by simp)).1
    have d4 := (h2 d (by simp)).1
    have e4 := (h2 e (by simp)).1
    obtain ⟨⟨n1, n2, n3, m1, -⟩, ⟨n4, n5, m2, -⟩, ⟨n6, m3, -⟩, ⟨m4, -⟩, -⟩ := h1
    omega
