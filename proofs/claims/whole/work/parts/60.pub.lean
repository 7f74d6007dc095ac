/-! THE PUBLIC STATE, of class and reference at once; the simple calls. -/
def pub (I : zJ) (w h n : Nat) : Prop := 1 ≤ w ∧ w ≤ 8 ∧ 1 ≤ h ∧ h ≤ 8 ∧ n ≤ 700 ∧ I 5 1 = nI w ∧ I 5 2 = nI h ∧ I 83 1 = nI w ∧ I 83 2 = nI h ∧ I 84 = I 6 ∧ I 9 1 = nI (8 * n) ∧ I 83 5 = nI n ∧ I 85 = I 10 ∧ (I 4 9 = nI 0 ∨ I 4 9 = nI 1) ∧ I 83 34 = I 4 9 ∧ I 104 = I 82 ∧
  I 1 = (fun j => zSO.getD j 0) ∧ I 2 = (fun j => zNX.getD j 0) ∧ I 3 = (fun j => zNY.getD j 0) ∧ ∀ k, k < 19 → I 105 k = nI (zord k)
def Pub (I : zJ) : Prop := ∃ w h n, pub I w h n
/-- never -/
abbrev nv : Nat → zJ → Prop := fun _ _ => False
/-- the reference's end: no fault, this answer; a fault of this number -/
abbrev rOk (v : Int32) : Int32 → zJ → Prop := fun b I => I 83 0 = nI 0 ∧ b = v ∧ Pub I
abbrev rNo (k : Nat) : Int32 → zJ → Prop := fun _ I => I 83 0 = nI k ∧ Pub I
theorem z_rng {x : Int32} {lo hi : Nat} (h1 : ¬ x < nI lo) (h2 : ¬ nI hi < x) (hl : lo < 2 ^ 31) (hh : hi < 2 ^ 31) : ∃ a, lo ≤ a ∧ a ≤ hi ∧ x = nI a := by
  have e1 : ¬ x.toInt < (nI lo).toInt := fun z => h1 (Int32.lt_iff_toInt_lt.mpr z)
  have e2 : ¬ (nI hi).toInt < x.toInt := fun z => h2 (Int32.lt_iff_toInt_lt.mpr z)
  rw [nI_toInt hl] at e1
  rw [nI_toInt hh] at e2
  refine ⟨x.toInt.toNat, by omega, by omega, ?_⟩
  apply Int32.toInt_inj.mp
  rw [nI_toInt (by omega)]
  omega
theorem z_idx {x y w h : Nat} (hx : x < w) (hy : y < h) (hw : w ≤ 8) (hh : h ≤ 8) : y * w + x < 64 := by
  have h1 : (y + 1) * w ≤ 8 * 8 := Nat.mul_le_mul (by omega) hw
  rw [Nat.add_mul, Nat.one_mul] at h1
  omega
section PB
variable {c : zC} {J : zK} {I : zJ} {w h n : Nat}
/-- the reference's 'thrown' alone -/
theorem pub_0 {v : Int32} (hp : pub I w h n) : pub (xup I 83 0 v) w h n := by
  obtain ⟨p1, p2, p3, p4, p5, p6, p7, p8, p9, p10, p11, p12, p13, p14, p15, p16, p17, p18, p19, p20⟩ := hp
  exact ⟨p1, p2, p3, p4, p5, by simp [xup, p6], by simp [xup, p7], by simp [xup, p8], by simp [xup, p9], by funext k; simp [xup, p10], by simp [xup, p11], by simp [xup, p12], by funext k; simp [xup, p13], by simpa [xup] using p14, by simp [xup, p15], by funext k; simp [xup, p16], by funext k; simp [xup, p17], by funext k; simp [xup, p18], by funext k; simp [xup, p19], fun k hk => by simpa [xup] using p20 k hk⟩
theorem l_M_size {P : Int32 → zJ → Prop} {T : Nat → zJ → Prop} {v1 v2 : Int32} : ∀ (k i : Nat) (I : zJ), i + k = 64 → P (v1 * v2) (xfil I 84 i 64 (nI 0)) → g_M_size_52 c J v1 v2 (nI i) I P T := by
  intro k
  induction k with
  | zero =>
    intro i I hi hP
    obtain rfl : i = 64 := by omega
    rw [xfil_0] at hP
    exact t_M_size_52 (br_t (by decide) hP)
  | succ k ih =>
    intro i I hi hP
    refine t_M_size_52 (br_f (nI_ge (by omega) (by decide)) ⟨vp_in_nI (by omega) (by decide), ?_⟩)
    rw [nc (by omega), nI_add]
    exact ih (i + 1) _ (by omega) (by rw [xfil_s (by omega)]; exact hP)
theorem p_size {v1 v2 : Int32} (hp : pub I w h n) : c_L_size c J v1 v2 I (fun v I1 => ∀ c' J', c_M_size c' J' v1 v2 I1 (rOk v) nv) (fun e I1 => e = 100 ∧ ∀ c' J', c_M_size c' J' v1 v2 I1 (rNo 1) nv) := by
  have bad : ∀ {c' : zC} {J' : zK}, g_M_size_23 c' J' v1 v2 I (rNo 1) nv := fun {c' J'} => t_M_size_23 (nm_e (br_f (by rw [xup_s]; decide) ⟨xup_s, w, h, n, pub_0 hp⟩))
  refine t_L_size ⟨fun h1 => ⟨rfl, fun c' J' => t_M_size (br_t h1 bad)⟩, fun h1 => ⟨fun h2 => ⟨rfl, fun c' J' => t_M_size (br_f h1 (br_t h2 bad))⟩, fun h2 => ⟨fun h3 => ⟨rfl, fun c' J' => t_M_size (br_f h1 (br_f h2 (br_t h3 bad)))⟩, fun h3 => ⟨fun h4 => ?_, fun h4 => ⟨rfl, fun c' J' => t_M_size (br_f h1 (br_f h2 (br_f h3 (br_f h4 bad))))⟩⟩⟩⟩⟩
  obtain ⟨a, ha1, ha8, rfl⟩ := z_rng h1 h2 (by decide) (by decide)
  obtain ⟨b, hb1, hb8, rfl⟩ := z_rng (x := v2) (lo := 1) (hi := 8) h3 (fun z => by
    have e1 := Int32.lt_iff_toInt_lt.mp z
    have e2 := Int32.le_iff_toInt_le.mp h4
    omega) (by decide) (by decide)
  refine nm_e (v_A_fill zw_6 (by decide) fun c' J' => t_M_size (br_f h1 (br_f h2 (br_f h3 (br_t h4 (nm_e (br_t (by rw [xup_s]; decide) (l_M_size 64 0 _ (by decide) ?_))))))))
  obtain ⟨p1, p2, p3, p4, p5, p6, p7, p8, p9, p10, p11, p12, p13, p14, p15, p16, p17, p18, p19, p20⟩ := hp
  have er : xfil (xup (xup (xup (xfil (xup (xup I 5 1 (nI a)) 5 2 (nI b)) 6 0 64 (nI 0)) 83 0 (nI 0)) 83 1 (nI a)) 83 2 (nI b)) 84 0 64 (nI 0) 84 = xfil (xup (xup (xup (xfil (xup (xup I 5 1 (nI a)) 5 2 (nI b)) 6 0 64 (nI 0)) 83 0 (nI 0)) 83 1 (nI a)) 83 2 (nI b)) 84 0 64 (nI 0) 6 := by
    funext k
    simp [xfil, xup, p10]
  exact ⟨by simp [xfil, xup], by simp [xfil, xup], a, b, n, ha1, ha8, hb1, hb8, p5, by simp [xfil, xup], by simp [xfil, xup], by simp [xfil, xup], by simp [xfil, xup], er, by simp [xfil, xup, p11], by simp [xfil, xup, p12], by funext k; simp [xfil, xup, p13], by simpa [xfil, xup] using p14, by simp [xfil, xup, p15], by funext k; simp [xfil, xup, p16],
    by funext k; simp [xfil, xup, p17], by funext k; simp [xfil, xup, p18], by funext k; simp [xfil, xup, p19], fun k hk => by simpa [xfil, xup] using p20 k hk⟩
theorem z_holds {v1 v2 : Int32} {o : Nat} (h1 : I o 1 = nI w) (h2 : I o 2 = nI h) (hw : w ≤ 8) (hh : h ≤ 8) (hne : ¬ f_Plane_holds o v1 v2 I = nI 0) : ∃ x y, x < w ∧ y < h ∧ v1 = nI x ∧ v2 = nI y := by
  unfold f_Plane_holds at hne
  rw [h1, h2] at hne
  by_cases e1 : v1 < nI 0
  · rw [if_pos e1] at hne; exact absurd rfl hne
  · rw [if_neg e1] at hne
    by_cases e2 : nI w ≤ v1
    · rw [if_pos e2] at hne; exact absurd rfl hne
    · rw [if_neg e2] at hne
      by_cases e3 : v2 < nI 0
      · rw [if_pos e3] at hne; exact absurd rfl hne
      · rw [if_neg e3] at hne
        by_cases e4 : nI h ≤ v2
        · rw [if_pos e4] at hne; exact absurd rfl hne
        · obtain ⟨x, hx, rfl⟩ := nI_of (x := v1) e1
          obtain ⟨y, hy, rfl⟩ := nI_of (x := v2) e3
          rw [nI_leI (by omega) hx] at e2
          rw [nI_leI (by omega) hy] at e4
          exact ⟨x, y, by omega, by omega, rfl, rfl⟩
theorem z_isPix {v1 v2 : Int32} {I1 : zJ} (h1 : I1 83 1 = I 5 1) (h2 : I1 83 2 = I 5 2) : f_M_isPixel v1 v2 I1 = f_Plane_holds 5 v1 v2 I := by
  unfold f_M_isPixel f_Plane_holds
  rw [h1, h2]
theorem p_set {v1 v2 v3 : Int32} (hp : pub I w h n) : c_L_set c J v1 v2 v3 I (fun v I1 => ∀ c' J', c_M_set c' J' v1 v2 v3 I1 (rOk v) nv) (fun e I1 => e = 101 ∧ ∀ c' J', c_M_set c' J' v1 v2 v3 I1 (rNo 1) nv) := by
  obtain ⟨p1, p2, p3, p4, p5, p6, p7, p8, p9, p10, p11, p12, p13, p14, p15, p16, p17, p18, p19, p20⟩ := id hp
  refine t_L_set ⟨fun e => ⟨rfl, fun c' J' => t_M_set (br_t (by rw [z_isPix (I := I) (by rw [p8, p6]) (by rw [p9, p7])]; exact e) (nm_e (br_f (by rw [xup_s]; decide) ⟨xup_s, w, h, n, pub_0 hp⟩)))⟩, fun e => ?_⟩
  obtain ⟨x, y, hx, hy, rfl, rfl⟩ := z_holds p6 p7 p2 p4 e
  have hi := z_idx hx hy p2 p4
  rw [p6, pk_mul, nI_add, nc (by omega)]
  refine ⟨vp_in_nI hi (by decide), fun c' J' => t_M_set (br_f (by rw [z_isPix (I := I) (by rw [xup_k (by decide), p8, p6]) (by rw [xup_k (by decide), p9, p7])]; exact e) (nm_e (br_t (by rw [xup_s]; decide) ?_)))⟩
  rw [xup_i (by decide), xup_k (by decide), p8, pk_mul, nI_add, nc (by omega)]
  refine ⟨vp_in_nI hi (by decide), ?_⟩
  exact ⟨by simp [xup], by simp [xup, p10], w, h, n, p1, p2, p3, p4, p5, by simp [xup, p6], by simp [xup, p7], by simp [xup, p8], by simp [xup, p9], by funext k; simp [xup, p10], by simp [xup, p11], by simp [xup, p12], by funext k; simp [xup, p13], by simpa [xup] using p14, by simp [xup, p15], by funext k; simp [xup, p16], by funext k; simp [xup, p17], by funext k; simp [xup, p18], by funext k; simp [xup, p19], fun k hk => by simpa [xup] using p20 k hk⟩
theorem p_pixel {v1 v2 : Int32} (hp : pub I w h n) : c_L_pixel c J v1 v2 I (fun v I1 => ∀ c' J', c_M_pixel c' J' v1 v2 I1 (rOk v) nv) (fun e I1 => e = 101 ∧ ∀ c' J', c_M_pixel c' J' v1 v2 I1 (rNo 1) nv) := by
  obtain ⟨p1, p2, p3, p4, p5, p6, p7, p8, p9, p10, p11, p12, p13, p14, p15, p16, p17, p18, p19, p20⟩ := id hp
  refine t_L_pixel ⟨fun e => ⟨rfl, fun c' J' => t_M_pixel (br_t (by rw [z_isPix (I := I) (by rw [p8, p6]) (by rw [p9, p7])]; exact e) (nm_e (br_f (by rw [xup_s]; decide) ⟨xup_s, w, h, n, pub_0 hp⟩)))⟩, fun e => ?_⟩
  obtain ⟨x, y, hx, hy, rfl, rfl⟩ := z_holds p6 p7 p2 p4 e
  have hi := z_idx hx hy p2 p4
  rw [p6, pk_mul, nI_add, nc (by omega)]
  refine ⟨vp_in_nI hi (by decide), fun c' J' => t_M_pixel (br_f (by rw [z_isPix (I := I) (by rw [p8, p6]) (by rw [p9, p7])]; exact e) (nm_e (br_t (by rw [xup_s]; decide) ?_)))⟩
  rw [xup_i (by decide), p8, pk_mul, nI_add, nc (by omega)]
  exact ⟨vp_in_nI hi (by decide), xup_s, by rw [xup_k (by decide), p10], w, h, n, pub_0 hp⟩
theorem p_byteAt {v1 : Int32} (hp : pub I w h n) : c_L_byteAt c J v1 I (fun v I1 => ∀ c' J', c_M_byteAt c' J' v1 I1 (rOk v) nv) nv := by
  obtain ⟨p1, p2, p3, p4, p5, p6, p7, p8, p9, p10, p11, p12, p13, p14, p15, p16, p17, p18, p19, p20⟩ := id hp
  refine t_L_byteAt ?_
  rw [p11, nI_add, pk_div (by omega) (by decide) (by decide), show (8 * n + 7) / 8 = n by omega]
  refine ⟨fun h1 c' J' => t_M_byteAt (nm_e (br_t h1 ⟨xup_s, rfl, w, h, n, pub_0 hp⟩)), fun h1 => ?_⟩
  obtain ⟨x, hx, rfl⟩ := nI_of (x := v1) h1
  refine pk_lt x n (fun e => ?_) (fun e c' J' => t_M_byteAt (nm_e (br_f h1 ?_)))
  · rw [nc hx]
    refine ⟨vp_in_nI (by omega) (by decide), fun c' J' => t_M_byteAt (nm_e (br_f h1 ?_))⟩
    rw [xup_i (by decide), p12, nc hx]
    exact br_f (nI_ge e (by omega)) ⟨vp_in_nI (by omega) (by decide), xup_s, by rw [xup_k (by decide), p13], w, h, n, pub_0 hp⟩
  · rw [xup_i (by decide), p12]
    exact br_t (nI_le e hx) ⟨xup_s, rfl, w, h, n, pub_0 hp⟩
theorem p_had {v1 : Int32} (hp : pub I w h n) : c_L_had c J v1 I (fun v I1 => ∀ c' J', c_M_had c' J' v1 I1 (rOk v) nv) nv := by
  obtain ⟨p1, p2, p3, p4, p5, p6, p7, p8, p9, p10, p11, p12, p13, p14, p15, p16, p17, p18, p19, p20⟩ := id hp
  have e34 : xup I 83 0 (nI 0) 83 34 = I 4 9 := by rw [xup_i (by decide)]; exact p15
  have fin : ∀ {c' : zC} {J' : zK} {v : Int32}, rOk v v (xup I 83 0 (nI 0)) := ⟨xup_s, rfl, w, h, n, pub_0 hp⟩
  refine t_L_had ⟨fun h1 c' J' => t_M_had (nm_e (br_t (by rw [e34]; exact h1) (fin (c' := c') (J' := J')))), fun h1 => ⟨fun h2 c' J' => t_M_had (nm_e (br_f (by rw [e34]; exact h1) (br_t h2 (fin (c' := c') (J' := J'))))), fun h2 => ?_⟩⟩
  obtain ⟨x, hx, rfl⟩ := nI_of (x := v1) h2
  refine pk_lt x 7 (fun e => ?_) (fun e c' J' => t_M_had (nm_e (br_f (by rw [e34]; exact h1) (br_f h2 (br_t (nI_le e hx) (fin (c' := c') (J' := J')))))))
  rw [nc hx]
  refine ⟨vp_in_nI e (by decide), fun c' J' => t_M_had (nm_e (br_f (by rw [e34]; exact h1) (br_f h2 (br_f (nI_ge e (by decide)) ⟨vp_in_nI e (by decide), ?_⟩))))⟩
  rw [nc hx]
  exact ⟨xup_s, by rw [xup_k (by decide), p16], w, h, n, pub_0 hp⟩
theorem p_wipe (hp : pub I w h n) : c_L_wipe c J I (fun v I1 => ∀ c' J', c_M_wipe c' J' I1 (rOk v) nv) nv := by
  obtain ⟨p1, p2, p3, p4, p5, p6, p7, p8, p9, p10, p11, p12, p13, p14, p15, p16, p17, p18, p19, p20⟩ := id hp
  refine t_L_wipe (nm_e fun c' J' => t_M_wipe ?_)
  rw [p11, nI_add, pk_div (by omega) (by decide) (by decide), show (8 * n + 7) / 8 = n by omega]
  exact ⟨by simp [xup], by simp [xup, p12], w, h, 0, p1, p2, p3, p4, by decide, by simp [xup, p6], by simp [xup, p7], by simp [xup, p8], by simp [xup, p9], by funext k; simp [xup, p10], by simp [xup], by simp [xup], by funext k; simp [xup, p13], by simpa [xup] using p14, by simp [xup, p15], by funext k; simp [xup, p16], by funext k; simp [xup, p17], by funext k; simp [xup, p18], by funext k; simp [xup, p19], fun k hk => by simpa [xup] using p20 k hk⟩
theorem p_flip {v1 : Int32} (hp : pub I w h n) : c_L_flip c J v1 I (fun v I1 => ∀ c' J', c_M_flip c' J' v1 I1 (rOk v) nv) (fun e I1 => e = 101 ∧ ∀ c' J', c_M_flip c' J' v1 I1 (rNo 1) nv) := by
  obtain ⟨p1, p2, p3, p4, p5, p6, p7, p8, p9, p10, p11, p12, p13, p14, p15, p16, p17, p18, p19, p20⟩ := id hp
  have bad : ∀ {c' : zC} {J' : zK}, g_M_flip_16 c' J' v1 I (rNo 1) nv := fun {c' J'} => t_M_flip_16 (nm_e (br_f (by rw [xup_s]; decide) ⟨xup_s, w, h, n, pub_0 hp⟩))
  refine t_L_flip ⟨fun h1 => ⟨rfl, fun c' J' => t_M_flip (br_t h1 bad)⟩, fun h1 => ?_⟩
  obtain ⟨x, hx, rfl⟩ := nI_of (x := v1) h1
  rw [p11]
  refine pk_lt x (8 * n) (fun e => ?_) (fun e => ⟨rfl, fun c' J' => t_M_flip (br_f h1 ?_)⟩)
  · rw [pk_rem hx (by decide) (by decide), pk_div hx (by decide) (by decide), nc (by omega)]
    refine ⟨vp_in_nI (by omega) (by decide), fun c' J' => t_M_flip (br_f h1 ?_)⟩
    rw [xup_k (by decide), p12, pk_mul, pk_rem hx (by decide) (by decide), pk_div hx (by decide) (by decide), nc (by omega)]
    refine br_t (nI_lt e (by omega)) (nm_e (br_t (by rw [xup_s]; decide) ⟨vp_in_nI (by omega) (by decide), nm_e ?_⟩))
    exact ⟨by simp [xup], by simp [xup, p13], w, h, n, p1, p2, p3, p4, p5, by simp [xup, p6], by simp [xup, p7], by simp [xup, p8], by simp [xup, p9], by funext k; simp [xup, p10], by simp [xup, p11], by simp [xup, p12], by funext k; simp [xup, p13], by simpa [xup] using p14, by simp [xup, p15], by funext k; simp [xup, p16], by funext k; simp [xup, p17], by funext k; simp [xup, p18], by funext k; simp [xup, p19], fun k hk => by simpa [xup] using p20 k hk⟩
  · rw [p12, pk_mul]
    exact br_f (nI_nlt e (by omega)) bad
end PB
