/-! SHAPES behind the two constructors; runs in terms of the ints alone (printed: wip/whole/gen_trees.py, facts_head.txt). -/
abbrev zJ : Type := Nat → Nat → Int32
abbrev zK : Type := Nat → Nat → Int64
abbrev zC : Type := Nat × List xS
def zsh1 : List xS := [.inl (.int, 19), .inl (.int, 8), .inl (.int, 8), .inr (0, [.ref 5, .ref 7, .ref 9, .ref 11, .ref 51, .ref 59, .ref 67, .ref 81, .ref 82, .int 0]), .inr (8, [.ref 6, .int 0, .int 0]), .inl (.int, 64), .inr (8, [.ref 8, .int 0, .int 0]), .inl (.int, 64), .inr (1, [.ref 10, .int 0, .int 0]), .inl (.int, 700), .inr (1, [.ref 12, .int 0, .int 0]), .inl (.int, 700), .inr (5, [.ref 14, .ref 21, .ref 28, .ref 35, .ref 42]), .inr (3, [.ref 18, .ref 19, .ref 20, .ref 15, .ref 16, .ref 17, .int 0, .int 0]), .inl (.int, 16), .inl (.int, 16), .inl (.int, 16), .inl (.int, 296), .inl (.int, 296), .inl (.int, 296), .inr (3, [.ref 25, .ref 26, .ref 27, .ref 22, .ref 23, .ref 24, .int 0, .int 0]), .inl (.int, 16), .inl (.int, 16), .inl (.int, 16), .inl (.int, 256), .inl (.int, 256), .inl (.int, 256), .inr (3, [.ref 32, .ref 33, .ref 34, .ref 29, .ref 30, .ref 31, .int 0, .int 0]), .inl (.int, 16), .inl (.int, 16), .inl (.int, 16), .inl (.int, 256), .inl (.int, 256), .inl (.int, 256), .inr (3, [.ref 39, .ref 40, .ref 41, .ref 36, .ref 37, .ref 38, .int 0, .int 0]), .inl (.int, 16), .inl (.int, 16), .inl (.int, 16), .inl (.int, 256), .inl (.int, 256), .inl (.int, 256), .inr (3, [.ref 46, .ref 47, .ref 48, .ref 43, .ref 44, .ref 45, .int 0, .int 0]), .inl (.int, 16), .inl (.int, 16), .inl (.int, 16), .inl (.int, 40), .inl (.int, 40), .inl (.int, 40), .inr (2, [.ref 50, .int 0]), .inl (.int, 16), .inr (9, [.ref 52, .ref 53, .ref 55, .ref 57, .int 0, .int 0]), .inl (.int, 4), .inr (8, [.ref 54, .int 0, .int 0]), .inl (.int, 4), .inr (8, [.ref 56, .int 0, .int 0]), .inl (.int, 4), .inr (8, [.ref 58, .int 0, .int 0]), .inl (.int, 16), .inr (6, [.ref 13, .ref 49, .ref 60, .int 0, .int 0]), .inr (3, [.ref 64, .ref 65, .ref 66, .ref 61, .ref 62, .ref 63, .int 0, .int 0]), .inl (.int, 16), .inl (.int, 16), .inl (.int, 16), .inl (.int, 19), .inl (.int, 19), .inl (.int, 19), .inr (7, [.ref 13, .ref 49, .ref 68, .ref 78, .ref 79, .ref 80, .int 0, .int 0, .int 0, .int 0, .int 0]), .inr (4, [.ref 69, .ref 76, .ref 77, .int 0]), .inr (3, [.ref 73, .ref 74, .ref 75, .ref 70, .ref 71, .ref 72, .int 0, .int 0]), .inl (.int, 16), .inl (.int, 16), .inl (.int, 16), .inl (.int, 19), .inl (.int, 19), .inl (.int, 19), .inl (.int, 296), .inl (.int, 296), .inl (.int, 256), .inl (.int, 256), .inl (.int, 256), .inl (.int, 64), .inl (.int, 7), .inr (10, [.int 0, .int 0, .int 0, .ref 84, .ref 85, .int 0, .ref 86, .int 0, .int 0, .int 0, .ref 87, .ref 88, .ref 89, .ref 90, .ref 91, .ref 92, .ref 93, .int 0, .int 0, .int 0, .ref 94, .ref 95, .int 0, .ref 96, .ref 97, .ref 98, .int 0, .ref 99, .ref 100, .ref 101, .int 0, .ref 102, .ref 103, .int 0, .int 0, .ref 104, .ref 105]), .inl (.int, 64), .inl (.int, 700), .inl (.int, 700), .inl (.int, 1123), .inl (.boolean, 1123), .inl (.int, 6), .inl (.int, 6), .inl (.int, 64), .inl (.int, 64), .inl (.int, 16), .inl (.int, 4), .inl (.int, 4), .inl (.int, 4), .inl (.int, 4), .inl (.int, 16), .inl (.int, 64), .inl (.int, 64), .inl (.int, 64), .inl (.int, 296), .inl (.int, 296), .inl (.int, 7), .inl (.int, 19), .inl (.long, 1)]
/-- the shapes: the script's row, those given and made, and what was thrown -/
def zsc (c : zC) : List xS := .inl (.int, c.1) :: (zsh1 ++ c.2)
def kvi (P : Int32 → zJ → Prop) : Option Value → zJ → Prop := fun v I => match v with
  | some (.int x) => P x I
  | _ => False
def kvr (P : Nat → zJ → Prop) : Option Value → zJ → Prop := fun v I => match v with
  | some (.ref x) => P x I
  | _ => False
def kvu (P : zJ → Prop) : Option Value → zJ → Prop := fun v I => match v with
  | none => P I
  | _ => False
/-- an end that leaves the shapes, or throws one more object -/
def wO (c : zC) (J : zK) (P : Option Value → zJ → Prop) (T : Nat → zJ → Prop) : xO → xH → Prop := fun o h => match o with
  | .inl v => h.1 = zsc c ∧ h.2.2 = J ∧ P v h.2.1
  | .inr x => x = (zsc c).length ∧ ∃ cl, h.1 = zsc c ++ [.inr (cl, [])] ∧ h.2.2 = J ∧ T cl h.2.1
def wG (c : zC) (J : zK) (d : Nat) (M : xM) (f : xF) (I : zJ) (P : Option Value → zJ → Prop) (T : Nat → zJ → Prop) : Prop := xG d M f (zsc c, I, J) (wO c J P T)
def wg (c : zC) (J : zK) (d mid : Nat) (as : List Value) (I : zJ) (P : Option Value → zJ → Prop) (T : Nat → zJ → Prop) : Prop := xg d mid as (zsc c, I, J) (wO c J P T)
section WW
variable {c : zC} {J : zK} {d d' mid : Nat} {as : List Value} {I I2 : zJ} {T : Nat → zJ → Prop} {P : Option Value → zJ → Prop}
theorem w_ci {R : Int32 → zJ → Prop} {F : Int32 → xH → Prop} (hd : d' ≤ d) (k : wg c J d' mid as I (kvi R) T) (f : ∀ v I1, R v I1 → F v (zsc c, I1, J)) : xg d mid as (zsc c, I, J) (xI F (fun x h1 => wO c J P T (.inr x) h1)) := by
  obtain ⟨o, ⟨s, I1, J1⟩, hv, hk⟩ := xg_le k hd
  refine ⟨o, (s, I1, J1), hv, ?_⟩
  match o, hk with
  | .inl (some (.int v)), h3 =>
    obtain ⟨e1, e2, h4⟩ := h3
    cases e1; cases e2
    exact f v I1 h4
  | .inr x, hk => exact hk
theorem w_cr {R : Nat → zJ → Prop} {F : Nat → xH → Prop} (hd : d' ≤ d) (k : wg c J d' mid as I (kvr R) T) (f : ∀ v I1, R v I1 → F v (zsc c, I1, J)) : xg d mid as (zsc c, I, J) (xP F (fun x h1 => wO c J P T (.inr x) h1)) := by
  obtain ⟨o, ⟨s, I1, J1⟩, hv, hk⟩ := xg_le k hd
  refine ⟨o, (s, I1, J1), hv, ?_⟩
  match o, hk with
  | .inl (some (.ref v)), h3 =>
    obtain ⟨e1, e2, h4⟩ := h3
    cases e1; cases e2
    exact f v I1 h4
  | .inr x, hk => exact hk
theorem w_cu {R : zJ → Prop} {F : xH → Prop} (hd : d' ≤ d) (k : wg c J d' mid as I (kvu R) T) (f : ∀ I1, R I1 → F (zsc c, I1, J)) : xg d mid as (zsc c, I, J) (xU F (fun x h1 => wO c J P T (.inr x) h1)) := by
  obtain ⟨o, ⟨s, I1, J1⟩, hv, hk⟩ := xg_le k hd
  refine ⟨o, (s, I1, J1), hv, ?_⟩
  match o, hk with
  | .inl none, h3 =>
    obtain ⟨e1, e2, h4⟩ := h3
    cases e1; cases e2
    exact f I1 h4
  | .inr x, hk => exact hk
theorem w_ei {v : Int32} {F : Int32 → xH → Prop} (hd : d' ≤ d) (k : wg c J d' mid as I (kvi fun v1 I1 => v1 = v ∧ I1 = I2) T) (f : F v (zsc c, I2, J)) : xg d mid as (zsc c, I, J) (xI F (fun x h1 => wO c J P T (.inr x) h1)) :=
  w_ci hd k fun _ _ h => by rw [h.1, h.2]; exact f
theorem w_eu {F : xH → Prop} (hd : d' ≤ d) (k : wg c J d' mid as I (kvu fun I1 => I1 = I2) T) (f : F (zsc c, I2, J)) : xg d mid as (zsc c, I, J) (xU F (fun x h1 => wO c J P T (.inr x) h1)) :=
  w_cu hd k fun _ h => by rw [h]; exact f
/-- a weaker end -/
theorem wg_w {P' : Option Value → zJ → Prop} {T' : Nat → zJ → Prop} (k : wg c J d mid as I P T) (hP : ∀ v I1, P v I1 → P' v I1) (hT : ∀ v I1, T v I1 → T' v I1) : wg c J d mid as I P' T' := by
  refine xg_w k fun o h1 ho => ?_
  match o, ho with
  | .inl v, ⟨e1, e2, hk⟩ => exact ⟨e1, e2, hP _ _ hk⟩
  | .inr x, ⟨e1, cl, e2, e3, hk⟩ => exact ⟨e1, cl, e2, e3, hT _ _ hk⟩
theorem wi_w {R R' : Int32 → zJ → Prop} {T' : Nat → zJ → Prop} (k : wg c J d mid as I (kvi R) T) (hP : ∀ v I1, R v I1 → R' v I1) (hT : ∀ v I1, T v I1 → T' v I1) : wg c J d mid as I (kvi R') T' :=
  wg_w k (fun v I1 h => match v, h with
    | some (.int x), h => hP x I1 h) hT
theorem wr_w {R R' : Nat → zJ → Prop} {T' : Nat → zJ → Prop} (k : wg c J d mid as I (kvr R) T) (hP : ∀ v I1, R v I1 → R' v I1) (hT : ∀ v I1, T v I1 → T' v I1) : wg c J d mid as I (kvr R') T' :=
  wg_w k (fun v I1 h => match v, h with
    | some (.ref x), h => hP x I1 h) hT
theorem wu_w {R R' : zJ → Prop} {T' : Nat → zJ → Prop} (k : wg c J d mid as I (kvu R) T) (hP : ∀ I1, R I1 → R' I1) (hT : ∀ v I1, T v I1 → T' v I1) : wg c J d mid as I (kvu R') T' :=
  wg_w k (fun v I1 h => match v, h with
    | none, h => hP I1 h) hT
end WW
/-- a plane, its row behind it -/
def zpl (c : zC) (o n : Nat) : Prop := xRr (zsc c) o 8 0 (o + 1) ∧ xAr (zsc c) (o + 1) .int n ∧ 4 ≤ o
def zbi (c : zC) (o : Nat) : Prop := xRr (zsc c) o 1 0 (o + 1) ∧ xAr (zsc c) (o + 1) .int 700 ∧ 4 ≤ o
def zar (c : zC) (a n : Nat) : Prop := xAr (zsc c) a .int n ∧ 4 ≤ a
def zco (c : zC) (o n : Nat) : Prop := (∃ rs, (zsc c)[o]? = some (.inr (3, rs)) ∧ rs[0]? = some (.ref (o + 4)) ∧ rs[1]? = some (.ref (o + 5)) ∧ rs[2]? = some (.ref (o + 6)) ∧ rs[3]? = some (.ref (o + 1)) ∧ rs[4]? = some (.ref (o + 2)) ∧ rs[5]? = some (.ref (o + 3))) ∧ xAr (zsc c) (o + 1) .int 16 ∧ xAr (zsc c) (o + 2) .int 16 ∧ xAr (zsc c) (o + 3) .int 16 ∧ xAr (zsc c) (o + 4) .int n ∧ xAr (zsc c) (o + 5) .int n ∧ xAr (zsc c) (o + 6) .int n ∧ 4 ≤ o
section ZO
variable {c : zC} {o n : Nat}
theorem zpl_ob (h : zpl c o n) : xOb (zsc c) o 8 := h.1.ob
theorem zpl_r0 (h : zpl c o n) : xRr (zsc c) o 8 0 (o + 1) := h.1
theorem zpl_a1 (h : zpl c o n) : xAr (zsc c) (o + 1) .int n := h.2.1
theorem zpl_g1 (h : zpl c o n) : 4 ≤ o + 1 := Nat.le_succ_of_le h.2.2
theorem zbi_ob (h : zbi c o) : xOb (zsc c) o 1 := h.1.ob
theorem zbi_r0 (h : zbi c o) : xRr (zsc c) o 1 0 (o + 1) := h.1
theorem zbi_a1 (h : zbi c o) : xAr (zsc c) (o + 1) .int 700 := h.2.1
theorem zbi_g1 (h : zbi c o) : 4 ≤ o + 1 := Nat.le_succ_of_le h.2.2
theorem zco_ob (h : zco c o n) : xOb (zsc c) o 3 := ⟨_, h.1.choose_spec.1⟩
theorem zco_r0 (h : zco c o n) : xRr (zsc c) o 3 0 (o + 4) := ⟨_, h.1.choose_spec.1, h.1.choose_spec.2.1⟩
theorem zco_r1 (h : zco c o n) : xRr (zsc c) o 3 1 (o + 5) := ⟨_, h.1.choose_spec.1, h.1.choose_spec.2.2.1⟩
theorem zco_r2 (h : zco c o n) : xRr (zsc c) o 3 2 (o + 6) := ⟨_, h.1.choose_spec.1, h.1.choose_spec.2.2.2.1⟩
theorem zco_r3 (h : zco c o n) : xRr (zsc c) o 3 3 (o + 1) := ⟨_, h.1.choose_spec.1, h.1.choose_spec.2.2.2.2.1⟩
theorem zco_r4 (h : zco c o n) : xRr (zsc c) o 3 4 (o + 2) := ⟨_, h.1.choose_spec.1, h.1.choose_spec.2.2.2.2.2.1⟩
theorem zco_r5 (h : zco c o n) : xRr (zsc c) o 3 5 (o + 3) := ⟨_, h.1.choose_spec.1, h.1.choose_spec.2.2.2.2.2.2⟩
theorem zco_a1 (h : zco c o n) : xAr (zsc c) (o + 1) .int 16 := h.2.1
theorem zco_a2 (h : zco c o n) : xAr (zsc c) (o + 2) .int 16 := h.2.2.1
theorem zco_a3 (h : zco c o n) : xAr (zsc c) (o + 3) .int 16 := h.2.2.2.1
theorem zco_a4 (h : zco c o n) : xAr (zsc c) (o + 4) .int n := h.2.2.2.2.1
theorem zco_a5 (h : zco c o n) : xAr (zsc c) (o + 5) .int n := h.2.2.2.2.2.1
theorem zco_a6 (h : zco c o n) : xAr (zsc c) (o + 6) .int n := h.2.2.2.2.2.2.1
theorem zco_g1 (h : zco c o n) : 4 ≤ o + 1 := Nat.le_trans h.2.2.2.2.2.2.2 (Nat.le_add_right _ _)
theorem zco_g2 (h : zco c o n) : 4 ≤ o + 2 := Nat.le_trans h.2.2.2.2.2.2.2 (Nat.le_add_right _ _)
theorem zco_g3 (h : zco c o n) : 4 ≤ o + 3 := Nat.le_trans h.2.2.2.2.2.2.2 (Nat.le_add_right _ _)
theorem zco_g4 (h : zco c o n) : 4 ≤ o + 4 := Nat.le_trans h.2.2.2.2.2.2.2 (Nat.le_add_right _ _)
theorem zco_g5 (h : zco c o n) : 4 ≤ o + 5 := Nat.le_trans h.2.2.2.2.2.2.2 (Nat.le_add_right _ _)
theorem zco_g6 (h : zco c o n) : 4 ≤ o + 6 := Nat.le_trans h.2.2.2.2.2.2.2 (Nat.le_add_right _ _)
end ZO
theorem zr_4_0 {c : zC} : xRr (zsc c) 4 0 0 5 := ⟨_, rfl, rfl⟩
theorem zo_5 {c : zC} : xOb (zsc c) 5 8 := ⟨_, rfl⟩
theorem zpl_5 {c : zC} : zpl c 5 64 := ⟨⟨_, rfl, rfl⟩, rfl, by decide⟩
theorem zr_5_0 {c : zC} : xRr (zsc c) 5 8 0 6 := ⟨_, rfl, rfl⟩
theorem zw_6 {c : zC} : zar c 6 64 := ⟨rfl, by decide⟩
theorem za_6 {c : zC} : xAr (zsc c) 6 .int 64 := rfl
theorem zr_4_7 {c : zC} : xRr (zsc c) 4 0 7 81 := ⟨_, rfl, rfl⟩
theorem za_81 {c : zC} : xAr (zsc c) 81 .int 64 := rfl
theorem zo_4 {c : zC} : xOb (zsc c) 4 0 := ⟨_, rfl⟩
theorem zr_4_2 {c : zC} : xRr (zsc c) 4 0 2 9 := ⟨_, rfl, rfl⟩
theorem zo_9 {c : zC} : xOb (zsc c) 9 1 := ⟨_, rfl⟩
theorem zbi_9 {c : zC} : zbi c 9 := ⟨⟨_, rfl, rfl⟩, rfl, by decide⟩
theorem zr_9_0 {c : zC} : xRr (zsc c) 9 1 0 10 := ⟨_, rfl, rfl⟩
theorem za_10 {c : zC} : xAr (zsc c) 10 .int 700 := rfl
theorem zo_51 {c : zC} : xOb (zsc c) 51 9 := ⟨_, rfl⟩
theorem zr_51_0 {c : zC} : xRr (zsc c) 51 9 0 52 := ⟨_, rfl, rfl⟩
theorem za_52 {c : zC} : xAr (zsc c) 52 .int 4 := rfl
theorem zo_49 {c : zC} : xOb (zsc c) 49 2 := ⟨_, rfl⟩
theorem zr_49_0 {c : zC} : xRr (zsc c) 49 2 0 50 := ⟨_, rfl, rfl⟩
theorem zw_50 {c : zC} : zar c 50 16 := ⟨rfl, by decide⟩
theorem zr_13_0 {c : zC} : xRr (zsc c) 13 5 0 14 := ⟨_, rfl, rfl⟩
theorem zo_14 {c : zC} : xOb (zsc c) 14 3 := ⟨_, rfl⟩
theorem zco_14 {c : zC} : zco c 14 296 := ⟨⟨_, rfl, rfl, rfl, rfl, rfl, rfl, rfl⟩, rfl, rfl, rfl, rfl, rfl, rfl, by decide⟩
theorem zr_13_1 {c : zC} : xRr (zsc c) 13 5 1 21 := ⟨_, rfl, rfl⟩
theorem zo_21 {c : zC} : xOb (zsc c) 21 3 := ⟨_, rfl⟩
theorem zco_21 {c : zC} : zco c 21 256 := ⟨⟨_, rfl, rfl, rfl, rfl, rfl, rfl, rfl⟩, rfl, rfl, rfl, rfl, rfl, rfl, by decide⟩
theorem zr_13_2 {c : zC} : xRr (zsc c) 13 5 2 28 := ⟨_, rfl, rfl⟩
theorem zo_28 {c : zC} : xOb (zsc c) 28 3 := ⟨_, rfl⟩
theorem zco_28 {c : zC} : zco c 28 256 := ⟨⟨_, rfl, rfl, rfl, rfl, rfl, rfl, rfl⟩, rfl, rfl, rfl, rfl, rfl, rfl, by decide⟩
theorem zr_13_3 {c : zC} : xRr (zsc c) 13 5 3 35 := ⟨_, rfl, rfl⟩
theorem zo_35 {c : zC} : xOb (zsc c) 35 3 := ⟨_, rfl⟩
theorem zco_35 {c : zC} : zco c 35 256 := ⟨⟨_, rfl, rfl, rfl, rfl, rfl, rfl, rfl⟩, rfl, rfl, rfl, rfl, rfl, rfl, by decide⟩
theorem zr_13_4 {c : zC} : xRr (zsc c) 13 5 4 42 := ⟨_, rfl, rfl⟩
theorem zo_42 {c : zC} : xOb (zsc c) 42 3 := ⟨_, rfl⟩
theorem zco_42 {c : zC} : zco c 42 40 := ⟨⟨_, rfl, rfl, rfl, rfl, rfl, rfl, rfl⟩, rfl, rfl, rfl, rfl, rfl, rfl, by decide⟩
theorem zr_59_2 {c : zC} : xRr (zsc c) 59 6 2 60 := ⟨_, rfl, rfl⟩
theorem zo_60 {c : zC} : xOb (zsc c) 60 3 := ⟨_, rfl⟩
theorem zco_60 {c : zC} : zco c 60 19 := ⟨⟨_, rfl, rfl, rfl, rfl, rfl, rfl, rfl⟩, rfl, rfl, rfl, rfl, rfl, rfl, by decide⟩
theorem zr_60_0 {c : zC} : xRr (zsc c) 60 3 0 64 := ⟨_, rfl, rfl⟩
theorem za_1 {c : zC} : xAr (zsc c) 1 .int 19 := rfl
theorem za_64 {c : zC} : xAr (zsc c) 64 .int 19 := rfl
theorem zo_59 {c : zC} : xOb (zsc c) 59 6 := ⟨_, rfl⟩
theorem za_2 {c : zC} : xAr (zsc c) 2 .int 8 := rfl
theorem za_3 {c : zC} : xAr (zsc c) 3 .int 8 := rfl
theorem za_50 {c : zC} : xAr (zsc c) 50 .int 16 := rfl
theorem zr_59_1 {c : zC} : xRr (zsc c) 59 6 1 49 := ⟨_, rfl, rfl⟩
theorem zr_59_0 {c : zC} : xRr (zsc c) 59 6 0 13 := ⟨_, rfl, rfl⟩
theorem zo_13 {c : zC} : xOb (zsc c) 13 5 := ⟨_, rfl⟩
theorem zr_51_3 {c : zC} : xRr (zsc c) 51 9 3 57 := ⟨_, rfl, rfl⟩
theorem zo_57 {c : zC} : xOb (zsc c) 57 8 := ⟨_, rfl⟩
theorem zr_57_0 {c : zC} : xRr (zsc c) 57 8 0 58 := ⟨_, rfl, rfl⟩
theorem za_58 {c : zC} : xAr (zsc c) 58 .int 16 := rfl
theorem zr_51_2 {c : zC} : xRr (zsc c) 51 9 2 55 := ⟨_, rfl, rfl⟩
theorem zpl_55 {c : zC} : zpl c 55 4 := ⟨⟨_, rfl, rfl⟩, rfl, by decide⟩
theorem zr_51_1 {c : zC} : xRr (zsc c) 51 9 1 53 := ⟨_, rfl, rfl⟩
theorem zpl_53 {c : zC} : zpl c 53 4 := ⟨⟨_, rfl, rfl⟩, rfl, by decide⟩
theorem zpl_57 {c : zC} : zpl c 57 16 := ⟨⟨_, rfl, rfl⟩, rfl, by decide⟩
theorem zr_4_8 {c : zC} : xRr (zsc c) 4 0 8 82 := ⟨_, rfl, rfl⟩
theorem za_82 {c : zC} : xAr (zsc c) 82 .int 7 := rfl
theorem zr_4_1 {c : zC} : xRr (zsc c) 4 0 1 7 := ⟨_, rfl, rfl⟩
theorem zr_4_4 {c : zC} : xRr (zsc c) 4 0 4 51 := ⟨_, rfl, rfl⟩
theorem zr_4_5 {c : zC} : xRr (zsc c) 4 0 5 59 := ⟨_, rfl, rfl⟩
theorem zo_7 {c : zC} : xOb (zsc c) 7 8 := ⟨_, rfl⟩
theorem zpl_7 {c : zC} : zpl c 7 64 := ⟨⟨_, rfl, rfl⟩, rfl, by decide⟩
theorem zr_4_3 {c : zC} : xRr (zsc c) 4 0 3 11 := ⟨_, rfl, rfl⟩
theorem zo_11 {c : zC} : xOb (zsc c) 11 1 := ⟨_, rfl⟩
theorem zbi_11 {c : zC} : zbi c 11 := ⟨⟨_, rfl, rfl⟩, rfl, by decide⟩
theorem zo_67 {c : zC} : xOb (zsc c) 67 7 := ⟨_, rfl⟩
theorem zr_67_3 {c : zC} : xRr (zsc c) 67 7 3 78 := ⟨_, rfl, rfl⟩
theorem za_78 {c : zC} : xAr (zsc c) 78 .int 256 := rfl
theorem zr_67_4 {c : zC} : xRr (zsc c) 67 7 4 79 := ⟨_, rfl, rfl⟩
theorem za_79 {c : zC} : xAr (zsc c) 79 .int 256 := rfl
theorem zr_67_5 {c : zC} : xRr (zsc c) 67 7 5 80 := ⟨_, rfl, rfl⟩
theorem za_80 {c : zC} : xAr (zsc c) 80 .int 256 := rfl
theorem zr_67_0 {c : zC} : xRr (zsc c) 67 7 0 13 := ⟨_, rfl, rfl⟩
theorem zr_67_1 {c : zC} : xRr (zsc c) 67 7 1 49 := ⟨_, rfl, rfl⟩
theorem zr_68_1 {c : zC} : xRr (zsc c) 68 4 1 76 := ⟨_, rfl, rfl⟩
theorem za_76 {c : zC} : xAr (zsc c) 76 .int 296 := rfl
theorem zr_68_2 {c : zC} : xRr (zsc c) 68 4 2 77 := ⟨_, rfl, rfl⟩
theorem za_77 {c : zC} : xAr (zsc c) 77 .int 296 := rfl
theorem zr_68_0 {c : zC} : xRr (zsc c) 68 4 0 69 := ⟨_, rfl, rfl⟩
theorem zr_69_0 {c : zC} : xRr (zsc c) 69 3 0 73 := ⟨_, rfl, rfl⟩
theorem za_73 {c : zC} : xAr (zsc c) 73 .int 19 := rfl
theorem zo_68 {c : zC} : xOb (zsc c) 68 4 := ⟨_, rfl⟩
theorem zo_69 {c : zC} : xOb (zsc c) 69 3 := ⟨_, rfl⟩
theorem zco_69 {c : zC} : zco c 69 19 := ⟨⟨_, rfl, rfl, rfl, rfl, rfl, rfl, rfl⟩, rfl, rfl, rfl, rfl, rfl, rfl, by decide⟩
theorem zr_67_2 {c : zC} : xRr (zsc c) 67 7 2 68 := ⟨_, rfl, rfl⟩
theorem zr_53_0 {c : zC} : xRr (zsc c) 53 8 0 54 := ⟨_, rfl, rfl⟩
theorem zw_54 {c : zC} : zar c 54 4 := ⟨rfl, by decide⟩
theorem zr_4_6 {c : zC} : xRr (zsc c) 4 0 6 67 := ⟨_, rfl, rfl⟩
theorem zw_81 {c : zC} : zar c 81 64 := ⟨rfl, by decide⟩
theorem zo_83 {c : zC} : xOb (zsc c) 83 10 := ⟨_, rfl⟩
theorem zr_83_3 {c : zC} : xRr (zsc c) 83 10 3 84 := ⟨_, rfl, rfl⟩
theorem za_84 {c : zC} : xAr (zsc c) 84 .int 64 := rfl
theorem zr_83_4 {c : zC} : xRr (zsc c) 83 10 4 85 := ⟨_, rfl, rfl⟩
theorem za_85 {c : zC} : xAr (zsc c) 85 .int 700 := rfl
theorem zr_83_14 {c : zC} : xRr (zsc c) 83 10 14 91 := ⟨_, rfl, rfl⟩
theorem za_91 {c : zC} : xAr (zsc c) 91 .int 64 := rfl
theorem zr_83_12 {c : zC} : xRr (zsc c) 83 10 12 89 := ⟨_, rfl, rfl⟩
theorem za_89 {c : zC} : xAr (zsc c) 89 .int 6 := rfl
theorem zr_83_10 {c : zC} : xRr (zsc c) 83 10 10 87 := ⟨_, rfl, rfl⟩
theorem za_87 {c : zC} : xAr (zsc c) 87 .int 1123 := rfl
theorem zr_83_13 {c : zC} : xRr (zsc c) 83 10 13 90 := ⟨_, rfl, rfl⟩
theorem za_90 {c : zC} : xAr (zsc c) 90 .int 6 := rfl
theorem zr_83_36 {c : zC} : xRr (zsc c) 83 10 36 105 := ⟨_, rfl, rfl⟩
theorem za_105 {c : zC} : xAr (zsc c) 105 .int 19 := rfl
theorem zr_83_16 {c : zC} : xRr (zsc c) 83 10 16 93 := ⟨_, rfl, rfl⟩
theorem za_93 {c : zC} : xAr (zsc c) 93 .int 16 := rfl
theorem zr_83_20 {c : zC} : xRr (zsc c) 83 10 20 94 := ⟨_, rfl, rfl⟩
theorem za_94 {c : zC} : xAr (zsc c) 94 .int 4 := rfl
theorem zr_83_21 {c : zC} : xRr (zsc c) 83 10 21 95 := ⟨_, rfl, rfl⟩
theorem za_95 {c : zC} : xAr (zsc c) 95 .int 4 := rfl
theorem zr_83_23 {c : zC} : xRr (zsc c) 83 10 23 96 := ⟨_, rfl, rfl⟩
theorem za_96 {c : zC} : xAr (zsc c) 96 .int 4 := rfl
theorem zr_83_24 {c : zC} : xRr (zsc c) 83 10 24 97 := ⟨_, rfl, rfl⟩
theorem za_97 {c : zC} : xAr (zsc c) 97 .int 4 := rfl
theorem zr_83_25 {c : zC} : xRr (zsc c) 83 10 25 98 := ⟨_, rfl, rfl⟩
theorem za_98 {c : zC} : xAr (zsc c) 98 .int 16 := rfl
theorem zr_83_15 {c : zC} : xRr (zsc c) 83 10 15 92 := ⟨_, rfl, rfl⟩
theorem za_92 {c : zC} : xAr (zsc c) 92 .int 64 := rfl
theorem zr_83_35 {c : zC} : xRr (zsc c) 83 10 35 104 := ⟨_, rfl, rfl⟩
theorem za_104 {c : zC} : xAr (zsc c) 104 .int 7 := rfl
theorem zr_83_6 {c : zC} : xRr (zsc c) 83 10 6 86 := ⟨_, rfl, rfl⟩
theorem za_86 {c : zC} : xAr (zsc c) 86 .int 700 := rfl
theorem zr_83_11 {c : zC} : xRr (zsc c) 83 10 11 88 := ⟨_, rfl, rfl⟩
theorem za_88 {c : zC} : xAr (zsc c) 88 .boolean 1123 := rfl
theorem zr_83_31 {c : zC} : xRr (zsc c) 83 10 31 102 := ⟨_, rfl, rfl⟩
theorem za_102 {c : zC} : xAr (zsc c) 102 .int 296 := rfl
theorem zr_83_32 {c : zC} : xRr (zsc c) 83 10 32 103 := ⟨_, rfl, rfl⟩
theorem za_103 {c : zC} : xAr (zsc c) 103 .int 296 := rfl
theorem zr_83_27 {c : zC} : xRr (zsc c) 83 10 27 99 := ⟨_, rfl, rfl⟩
theorem za_99 {c : zC} : xAr (zsc c) 99 .int 64 := rfl
theorem zr_83_28 {c : zC} : xRr (zsc c) 83 10 28 100 := ⟨_, rfl, rfl⟩
theorem za_100 {c : zC} : xAr (zsc c) 100 .int 64 := rfl
theorem zr_83_29 {c : zC} : xRr (zsc c) 83 10 29 101 := ⟨_, rfl, rfl⟩
theorem za_101 {c : zC} : xAr (zsc c) 101 .int 64 := rfl
