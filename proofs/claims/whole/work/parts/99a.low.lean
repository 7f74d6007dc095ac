/-! The first four places are never written; calls with a handler about. -/
def xlo (h h1 : xH) : Prop := ∀ a, a < 4 → (∃ q, h.1[a]? = some (.inl q)) → h1.2.1 a = h.2.1 a ∧ h1.1[a]? = h.1[a]?
section LO
variable {h h1 h2 : xH} {o ci sl a j b sp dp n q : Nat} {x : Int32} {ty : FieldType} {z : xS} {K : Nat → Nat → Int64}
theorem xlo_l : xlo h (h.1, h.2.1, K) := fun _ _ _ => ⟨rfl, rfl⟩
theorem xlo_t (e1 : xlo h h1) (e2 : xlo h1 h2) : xlo h h2 := fun a ha hq => by
  have k1 := e1 a ha hq
  have k2 := e2 a ha (by rw [k1.2]; exact hq)
  exact ⟨k2.1.trans k1.1, k2.2.trans k1.2⟩
theorem xlo_ob (hb : xOb h.1 o ci) (ha : ∃ q, h.1[a]? = some (.inl q)) : a ≠ o := fun e => by
  obtain ⟨rs, h3⟩ := hb
  obtain ⟨q, h4⟩ := ha
  rw [e, h3] at h4
  cases h4
theorem xlo_f (hb : xOb h.1 o ci) : xlo h (h.1, xup h.2.1 o sl x, K) := fun a _ hq => ⟨xup_r (xlo_ob hb hq), rfl⟩
theorem xlo_a (hb : xW h.1 o ty) : xlo h (h.1, xup h.2.1 o sl x, K) := fun a ha _ => ⟨xup_r (fun e => by have := hb.2; omega), rfl⟩
theorem xlo_r (hb : xOb h.1 o ci) : xlo h (xsr h.1 o sl q, h.2.1, K) := fun a _ hq => by
  refine ⟨rfl, ?_⟩
  have hne := xlo_ob hb hq
  unfold xsr
  split
  · exact List.getElem?_set_ne (fun e => hne e.symm)
  · rfl
theorem xlo_n : xlo h (h.1 ++ [z], xzer h.2.1 h.1.length, K) := fun a _ hq => by
  obtain ⟨q, hq⟩ := hq
  have hl := (List.getElem?_eq_some_iff.mp hq).1
  refine ⟨?_, List.getElem?_append_left hl⟩
  funext k
  show (if a = h.1.length then (0 : Int32) else h.2.1 a k) = h.2.1 a k
  rw [if_neg (by omega)]
theorem xlo_e {K : (Nat → Nat → Int32) × (Nat → Nat → Int64)} (hk : K.1 = h.2.1) : xlo h (h.1 ++ [z], K) := fun a _ hq => by
  obtain ⟨q, hq⟩ := hq
  have hl := (List.getElem?_eq_some_iff.mp hq).1
  exact ⟨by show K.1 a = _; rw [hk], List.getElem?_append_left hl⟩
theorem xlo_c (hb : xW h.1 b ty) : xlo h (h.1, xcpy h.2.1 a sp b dp n, K) := fun x hx _ => by
  refine ⟨?_, rfl⟩
  funext k
  show (if x = b ∧ dp ≤ k ∧ k < dp + n then h.2.1 a (sp + (k - dp)) else h.2.1 x k) = h.2.1 x k
  rw [if_neg (fun z => by have := hb.2; omega)]
end LO
set_option maxHeartbeats 4000000 in
theorem xE_low {lk : Nat → Option xL} {df : xD} {ctor : Bool} {i : Instr} {len pc : Nat} {L : List (Option Value)} {st : List Value} {h h1 : xH} {ps : List Prop} {f1 : xF} (hE : xE lk df ctor i len pc L st h = some (ps, f1, h1)) (hp : xAll ps) : xlo h h1 := by
  unfold xE at hE
  split at hE <;> (repeat' split at hE) <;> (first
    | (cases hE; done)
    | (simp only [Option.some.injEq, Prod.mk.injEq] at hE; obtain ⟨rfl, -, rfl⟩ := hE; first
      | exact xlo_l
      | exact xlo_f hp
      | exact xlo_f hp.1
      | exact xlo_a hp.1
      | exact xlo_r hp.1
      | exact xlo_n
      | exact xlo_c hp.2.2.1))
theorem xR_low {lk : Nat → Nat → Option xL} {df : xD} {C : Nat → List Value → xH → xO → xH → Prop} {M : xM} (hC : ∀ mid as h o h', C mid as h o h' → xlo h h') :
    ∀ (k : Nat) (f : xF) (h : xH) (o : xO) (h' : xH), xR lk df C M k f h o h' → xlo h h' := by
  intro k
  induction k with
  | zero => intro f h o h' hr; exact hr.elim
  | succ k ih =>
    intro f h o h' hr
    obtain ⟨i, len, -, hr⟩ := hr
    rcases hr with ⟨ps, f1, h1, hE, hps, hr⟩ | ⟨b, t, r, -, hk1, hk2⟩ | ⟨mid, n, -, -, -, -, -, hr⟩ | ⟨ps, v, -, -, -, -, rfl⟩ | ⟨e, -, -, -, -, -, rfl⟩
    · exact xlo_t (xE_low hE hps) (ih _ _ _ _ hr)
    · by_cases hb : b
      · exact ih _ _ _ _ (hk1 hb)
      · exact ih _ _ _ _ (hk2 hb)
    · rcases hr with ⟨v, h1, hc, hr⟩ | ⟨x, h1, hc, -, -, rfl⟩ | ⟨x, h1, a, b, t, c, hc, -, -, -, -, hr⟩ | ⟨x, h1, a, b, t, c, hc, -, -, -, -, -, hr⟩
      · exact xlo_t (hC _ _ _ _ _ hc) (ih _ _ _ _ hr)
      · exact hC _ _ _ _ _ hc
      · exact xlo_t (hC _ _ _ _ _ hc) (ih _ _ _ _ hr)
      · exact xlo_t (hC _ _ _ _ _ hc) (ih _ _ _ _ hr)
    · exact fun _ _ _ => ⟨rfl, rfl⟩
    · exact xlo_e rfl
theorem xV_low {lk : Nat → Nat → Option xL} {df : xD} {mt : Nat → Option xM} : ∀ (d mid : Nat) (as : List Value) (h : xH) (o : xO) (h' : xH), xV lk df mt d mid as h o h' → xlo h h' := by
  intro d
  induction d with
  | zero => intro mid as h o h' hr; exact hr.elim
  | succ d ih =>
    intro mid as h o h' hr
    obtain ⟨M, -, -, k, hr⟩ := hr
    exact xR_low ih k _ _ _ _ hr
/-- a call leaves the script as it is -/
theorem wg_low {c : zC} {J : zK} {d mid : Nat} {as : List Value} {I : zJ} {P : Int32 → zJ → Prop} {T : Nat → zJ → Prop} (k : wg c J d mid as I (kvi P) T) : wg c J d mid as I (kvi fun v I1 => P v I1 ∧ I1 0 = I 0) (fun e I1 => T e I1 ∧ I1 0 = I 0) := by
  obtain ⟨o, h', hv, hQ⟩ := k
  have hl := (xV_low d _ _ _ _ _ hv 0 (by decide) ⟨_, rfl⟩).1
  refine ⟨o, h', hv, ?_⟩
  match o, hQ with
  | .inl (some (.int v)), ⟨e1, e2, h3⟩ => exact ⟨e1, e2, h3, hl⟩
  | .inr x, ⟨e1, cl, e2, e3, h3⟩ => exact ⟨e1, cl, e2, e3, h3, hl⟩
theorem zsc_app (c : zC) (z : xS) : zsc c ++ [z] = zsc (c.1, c.2 ++ [z]) := by
  unfold zsc
  rw [List.cons_append, List.append_assoc]
/-- a call, a handler about -/
theorem xG_H {d d' : Nat} {M : xM} {Q : xO → xH → Prop} {pc : Nat} {L : List (Option Value)} {st : List Value} {i : Instr} {mid n a b t ec : Nat} {c : zC} {I : zJ} {J : zK} {P : Int32 → zJ → Prop} {T : Nat → zJ → Prop} (hc : xcd M.2.1 pc = some (i, 3)) (hK : xK (zlk M.1) i = some (mid, n)) (hn : n ≤ st.length) (h8 : ((st.drop n).map fun v => v.category).sum ≤ 8) (hrc : xrc (zlk M.1) i (st.take n).reverse (zsc c))
    (hx : M.2.2.2.2.2 = some (a, b, t, ec)) (ha : a ≤ pc) (hb : pc < b) (hd : d' ≤ d) (k : wg c J d' mid (st.take n).reverse I (kvi P) T)
    (ret : ∀ v I1, P v I1 → xG d M (pc + 3, L, .int v :: st.drop n) (zsc c, I1, J) Q)
    (thr : ∀ e I1, T e I1 → (e = ec % 1000 ∧ xG d M (t, L, [.ref (zsc c).length]) (zsc (c.1, c.2 ++ [.inr (e, [])]), I1, J) Q) ∨ (1000 ≤ ec ∧ e = ec / 1000 % 1000 ∧ xG d M (ec / 1000000, L, [.ref (zsc c).length]) (zsc (c.1, c.2 ++ [.inr (e, [])]), I1, J) Q)) : xG d M (pc, L, st) (zsc c, I, J) Q := by
  obtain ⟨o, ⟨s, I1, J1⟩, hv, hk⟩ := xg_le k hd
  match o, hk with
  | .inl (some (.int v)), hq =>
    obtain ⟨e1, e2, hq2⟩ := hq
    cases e1; cases e2
    obtain ⟨k, o, h', g1, g2⟩ := ret v I1 hq2
    exact ⟨k + 1, o, h', ⟨i, 3, hc, Or.inr (Or.inr (Or.inl ⟨mid, n, hK, rfl, hn, h8, hrc, Or.inl ⟨_, _, hv, g1⟩⟩))⟩, g2⟩
  | .inr x, hq =>
    obtain ⟨e1, e, e2, e3, hq2⟩ := hq
    have e2 : s = zsc c ++ [.inr (e, [])] := e2
    have e3 : J1 = J := e3
    subst e1 e2 e3
    have hcl : xcl (zsc c ++ [.inr (e, [])]) (zsc c).length = some e := by
      unfold xcl
      rw [List.getElem?_append_right (Nat.le_refl _), Nat.sub_self]
      rfl
    rw [zsc_app] at hv hcl
    rcases thr e I1 hq2 with ⟨h1, k, o, h', g1, g2⟩ | ⟨h0, h1, k, o, h', g1, g2⟩
    · exact ⟨k + 1, o, h', ⟨i, 3, hc, Or.inr (Or.inr (Or.inl ⟨mid, n, hK, rfl, hn, h8, hrc, Or.inr (Or.inr (Or.inl ⟨_, _, a, b, t, ec, hv, hx, ha, hb, by rw [← h1]; exact hcl, g1⟩))⟩))⟩, g2⟩
    · exact ⟨k + 1, o, h', ⟨i, 3, hc, Or.inr (Or.inr (Or.inl ⟨mid, n, hK, rfl, hn, h8, hrc, Or.inr (Or.inr (Or.inr ⟨_, _, a, b, t, ec, hv, hx, ha, hb, h0, by rw [← h1]; exact hcl, g1⟩))⟩))⟩, g2⟩
/-- what the law's helpers leave: their answer, the shapes grown by at most one thrown object, and what the reference will do -/
def cnx (c c1 : zC) : Prop := c1.1 = c.1 ∧ (c1.2 = c.2 ∨ ∃ e, 100 ≤ e ∧ c1.2 = c.2 ++ [.inr (e, [])])
def hE (c : zC) (I : zJ) (R : (Int32 → zJ → Prop) → zJ → Prop) : xO → xH → Prop := fun o h1 => ∃ (k : Nat) (c1 : zC) (J1 : zK) (I1 : zJ), o = .inl (some (.int (nI k))) ∧ h1 = (zsc c1, I1, J1) ∧ cnx c c1 ∧ I1 0 = I 0 ∧ k < 3 ∧ ((k = 0 ∧ ∃ v : Int32, J1 106 0 = v.toInt64 ∧ R (rOk v) I1) ∨ (¬ k = 0 ∧ R (rNo k) I1))
theorem hE_0 {c : zC} {I I1 : zJ} {J : zK} {R : (Int32 → zJ → Prop) → zJ → Prop} {v : Int32} (hR : R (rOk v) I1) (h0 : I1 0 = I 0) : hE c I R (.inl (some (.int (0 : Int32)))) (zsc c, I1, xupL J 106 (0 : Int32).toNatClampNeg v.toInt64) :=
  ⟨0, c, _, I1, rfl, rfl, ⟨rfl, Or.inl rfl⟩, h0, by decide, Or.inl ⟨rfl, v, if_pos ⟨rfl, rfl⟩, hR⟩⟩
theorem hE_1 {c : zC} {I I1 : zJ} {J : zK} {R : (Int32 → zJ → Prop) → zJ → Prop} {e : Nat} (he : 100 ≤ e) (hR : R (rNo 1) I1) (h0 : I1 0 = I 0) : hE c I R (.inl (some (.int (1 : Int32)))) (zsc (c.1, c.2 ++ [.inr (e, [])]), I1, J) :=
  ⟨1, _, _, I1, rfl, rfl, ⟨rfl, Or.inr ⟨e, he, rfl⟩⟩, h0, by decide, Or.inr ⟨by decide, hR⟩⟩
theorem hE_2 {c : zC} {I I1 : zJ} {J : zK} {R : (Int32 → zJ → Prop) → zJ → Prop} {e : Nat} (he : 100 ≤ e) (hR : R (rNo 2) I1) (h0 : I1 0 = I 0) : hE c I R (.inl (some (.int (2 : Int32)))) (zsc (c.1, c.2 ++ [.inr (e, [])]), I1, J) :=
  ⟨2, _, _, I1, rfl, rfl, ⟨rfl, Or.inr ⟨e, he, rfl⟩⟩, h0, by decide, Or.inr ⟨by decide, hR⟩⟩
section HP
variable {c : zC} {J : zK} {I : zJ} {w h n : Nat} {v1 v2 v3 v4 : Int32}
theorem h_size (hp : pub I w h n) : xg 9 qW_size [.ref 4, .int v1, .int v2, .ref 106] (zsc c, I, J) (hE c I fun Q I1 => ∀ c' J', c_M_size c' J' v1 v2 I1 Q nv) :=
  xg_of (M := zm_W_size) rfl (Nat.le_of_ble_eq_true rfl) (xG_N 5 (ps := []) (f1 := (5, [some (.ref 4), some (.int v1), some (.int v2), some (.ref 106), none], [.int v2, .int v1, .ref 4, .int (0 : Int32), .ref 106])) (h1 := (zsc c, I, J)) rfl trivial
    (xG_H (a := 0) (b := 10) (t := 13) (ec := 100) rfl rfl (Nat.le_of_ble_eq_true rfl) (Nat.le_of_ble_eq_true rfl) ⟨4, _, rfl, _, rfl⟩ rfl (by decide) (by decide) (by decide) (wg_low (p_size hp))
      (fun v I1 hv => s_W_size_8 (n1 := 1) rfl (by decide) (by unfold vp_in; decide) (hE_0 hv.1 hv.2))
      (fun e I1 he => Or.inl ⟨he.1.1, s_W_size_13 (hE_1 (by rw [he.1.1]; decide) he.1.2 he.2)⟩)))
theorem h_set (hp : pub I w h n) : xg 9 qW_set [.ref 4, .int v1, .int v2, .int v3, .ref 106] (zsc c, I, J) (hE c I fun Q I1 => ∀ c' J', c_M_set c' J' v1 v2 v3 I1 Q nv) :=
  xg_of (M := zm_W_set) rfl (Nat.le_of_ble_eq_true rfl) (xG_N 6 (ps := []) (f1 := (7, [some (.ref 4), some (.int v1), some (.int v2), some (.int v3), some (.ref 106), none], [.int v3, .int v2, .int v1, .ref 4, .int (0 : Int32), .ref 106])) (h1 := (zsc c, I, J)) rfl trivial
    (xG_H (a := 0) (b := 12) (t := 15) (ec := 101) rfl rfl (Nat.le_of_ble_eq_true rfl) (Nat.le_of_ble_eq_true rfl) ⟨4, _, rfl, _, rfl⟩ rfl (by decide) (by decide) (by decide) (wg_low (p_set hp))
      (fun v I1 hv => s_W_set_10 (n1 := 1) rfl (by decide) (by unfold vp_in; decide) (hE_0 hv.1 hv.2))
      (fun e I1 he => Or.inl ⟨he.1.1, s_W_set_15 (hE_1 (by rw [he.1.1]; decide) he.1.2 he.2)⟩)))
theorem h_pixel (hp : pub I w h n) : xg 9 qW_pixel [.ref 4, .int v1, .int v2, .ref 106] (zsc c, I, J) (hE c I fun Q I1 => ∀ c' J', c_M_pixel c' J' v1 v2 I1 Q nv) :=
  xg_of (M := zm_W_pixel) rfl (Nat.le_of_ble_eq_true rfl) (xG_N 5 (ps := []) (f1 := (5, [some (.ref 4), some (.int v1), some (.int v2), some (.ref 106), none], [.int v2, .int v1, .ref 4, .int (0 : Int32), .ref 106])) (h1 := (zsc c, I, J)) rfl trivial
    (xG_H (a := 0) (b := 10) (t := 13) (ec := 101) rfl rfl (Nat.le_of_ble_eq_true rfl) (Nat.le_of_ble_eq_true rfl) ⟨4, _, rfl, _, rfl⟩ rfl (by decide) (by decide) (by decide) (wg_low (p_pixel hp))
      (fun v I1 hv => s_W_pixel_8 (n1 := 1) rfl (by decide) (by unfold vp_in; decide) (hE_0 hv.1 hv.2))
      (fun e I1 he => Or.inl ⟨he.1.1, s_W_pixel_13 (hE_1 (by rw [he.1.1]; decide) he.1.2 he.2)⟩)))
theorem h_flip (hp : pub I w h n) : xg 9 qW_flip [.ref 4, .int v1, .ref 106] (zsc c, I, J) (hE c I fun Q I1 => ∀ c' J', c_M_flip c' J' v1 I1 Q nv) :=
  xg_of (M := zm_W_flip) rfl (Nat.le_of_ble_eq_true rfl) (xG_N 4 (ps := []) (f1 := (4, [some (.ref 4), some (.int v1), some (.ref 106), none], [.int v1, .ref 4, .int (0 : Int32), .ref 106])) (h1 := (zsc c, I, J)) rfl trivial
    (xG_H (a := 0) (b := 9) (t := 12) (ec := 101) rfl rfl (Nat.le_of_ble_eq_true rfl) (Nat.le_of_ble_eq_true rfl) ⟨4, _, rfl, _, rfl⟩ rfl (by decide) (by decide) (by decide) (wg_low (p_flip hp))
      (fun v I1 hv => s_W_flip_7 (n1 := 1) rfl (by decide) (by unfold vp_in; decide) (hE_0 hv.1 hv.2))
      (fun e I1 he => Or.inl ⟨he.1.1, s_W_flip_12 (hE_1 (by rw [he.1.1]; decide) he.1.2 he.2)⟩)))
theorem h_read (hp : pub I w h n) : xg 9 qW_read [.ref 4, .ref 106] (zsc c, I, J) (hE c I fun Q I1 => ∀ c' J', c_M_read c' J' I1 Q nv) :=
  xg_of (M := zm_W_read) rfl (Nat.le_of_ble_eq_true rfl) (xG_N 3 (ps := []) (f1 := (3, [some (.ref 4), some (.ref 106), none], [.ref 4, .int (0 : Int32), .ref 106])) (h1 := (zsc c, I, J)) rfl trivial
    (xG_H (a := 0) (b := 8) (t := 11) (ec := 100) rfl rfl (Nat.le_of_ble_eq_true rfl) (Nat.le_of_ble_eq_true rfl) ⟨4, _, rfl, _, rfl⟩ rfl (by decide) (by decide) (by decide) (wg_low (p_read hp))
      (fun v I1 hv => s_W_read_6 (n1 := 1) rfl (by decide) (by unfold vp_in; decide) (hE_0 hv.1 hv.2))
      (fun e I1 he => Or.inl ⟨he.1.1, s_W_read_11 (hE_1 (by rw [he.1.1]; decide) he.1.2 he.2)⟩)))
theorem h_write (hp : pub I w h n) : xg 9 qW_write [.ref 4, .int v1, .int v2, .int v3, .int v4, .ref 106] (zsc c, I, J) (hE c I fun Q I1 => ∀ c' J', c_M_write c' J' v1 v2 v3 v4 I1 Q nv) :=
  xg_of (M := zm_W_write) rfl (Nat.le_of_ble_eq_true rfl) (xG_N 7 (ps := []) (f1 := (9, [some (.ref 4), some (.int v1), some (.int v2), some (.int v3), some (.int v4), some (.ref 106), none], [.int v4, .int v3, .int v2, .int v1, .ref 4, .int (0 : Int32), .ref 106])) (h1 := (zsc c, I, J)) rfl trivial
    (xG_H (a := 0) (b := 14) (t := 17) (ec := 21102100) rfl rfl (Nat.le_of_ble_eq_true rfl) (Nat.le_of_ble_eq_true rfl) ⟨4, _, rfl, _, rfl⟩ rfl (by decide) (by decide) (by decide) (wg_low (p_write hp))
      (fun v I1 hv => s_W_write_12 (n1 := 1) rfl (by decide) (by unfold vp_in; decide) (hE_0 hv.1 hv.2))
      (fun e I1 he => by
        rcases he.1 with hz | hz
        · exact Or.inl ⟨hz.1, s_W_write_17 (hE_1 (by rw [hz.1]; decide) hz.2 he.2)⟩
        · exact Or.inr ⟨by decide, hz.1, s_W_write_21 (hE_2 (by rw [hz.1]; decide) hz.2 he.2)⟩)))
end HP
