/-! The listing is what the bytes decode to. -/
theorem xcd_ok {cd : xC} {b : ByteArray} (h : ∀ q ∈ cd, decode b q.1 = .ok q.2) : ∀ pc i len, xcd cd pc = some (i, len) → decode b pc = .ok (i, len) := by
  intro pc i len hl
  unfold xcd at hl
  induction cd with
  | nil => cases hl
  | cons a r ih =>
    obtain ⟨p0, q0⟩ := a
    rw [List.lookup_cons] at hl
    split at hl
    · rename_i he
      have he2 : pc = p0 := by simpa using he
      cases hl
      rw [he2]
      exact h (p0, _) List.mem_cons_self
    · exact ih (fun q hq => h q (List.mem_cons_of_mem _ hq)) hl
set_option maxRecDepth 100000 in
theorem zd_L_init : ∀ q ∈ zc_L_init, decode prog_1_method_1_code q.1 = .ok q.2 := by decide +kernel
set_option maxRecDepth 100000 in
theorem zd_L_size : ∀ q ∈ zc_L_size, decode prog_1_method_2_code q.1 = .ok q.2 := by decide +kernel
set_option maxRecDepth 100000 in
theorem zd_L_set : ∀ q ∈ zc_L_set, decode prog_1_method_3_code q.1 = .ok q.2 := by decide +kernel
set_option maxRecDepth 100000 in
theorem zd_L_pixel : ∀ q ∈ zc_L_pixel, decode prog_1_method_4_code q.1 = .ok q.2 := by decide +kernel
set_option maxRecDepth 100000 in
theorem zd_L_measure : ∀ q ∈ zc_L_measure, decode prog_1_method_5_code q.1 = .ok q.2 := by decide +kernel
set_option maxRecDepth 100000 in
theorem zd_L_feed : ∀ q ∈ zc_L_feed, decode prog_1_method_6_code q.1 = .ok q.2 := by decide +kernel
set_option maxRecDepth 100000 in
theorem zd_L_wipe : ∀ q ∈ zc_L_wipe, decode prog_1_method_7_code q.1 = .ok q.2 := by decide +kernel
set_option maxRecDepth 100000 in
theorem zd_L_byteAt : ∀ q ∈ zc_L_byteAt, decode prog_1_method_8_code q.1 = .ok q.2 := by decide +kernel
set_option maxRecDepth 100000 in
theorem zd_L_flip : ∀ q ∈ zc_L_flip, decode prog_1_method_9_code q.1 = .ok q.2 := by decide +kernel
set_option maxRecDepth 100000 in
theorem zd_L_read : ∀ q ∈ zc_L_read, decode prog_1_method_10_code q.1 = .ok q.2 := by decide +kernel
set_option maxRecDepth 100000 in
theorem zd_L_write : ∀ q ∈ zc_L_write, decode prog_1_method_11_code q.1 = .ok q.2 := by decide +kernel
set_option maxRecDepth 100000 in
theorem zd_L_had : ∀ q ∈ zc_L_had, decode prog_1_method_12_code q.1 = .ok q.2 := by decide +kernel
set_option maxRecDepth 100000 in
theorem zd_L_closeAccount : ∀ q ∈ zc_L_closeAccount, decode prog_1_method_13_code q.1 = .ok q.2 := by decide +kernel
set_option maxRecDepth 100000 in
theorem zd_L_gatherColours : ∀ q ∈ zc_L_gatherColours, decode prog_1_method_14_code q.1 = .ok q.2 := by decide +kernel
set_option maxRecDepth 100000 in
theorem zd_L_isLess : ∀ q ∈ zc_L_isLess, decode prog_1_method_15_code q.1 = .ok q.2 := by decide +kernel
set_option maxRecDepth 100000 in
theorem zd_L_draftStream : ∀ q ∈ zc_L_draftStream, decode prog_1_method_16_code q.1 = .ok q.2 := by decide +kernel
set_option maxRecDepth 100000 in
theorem zd_L_sayKind : ∀ q ∈ zc_L_sayKind, decode prog_1_method_17_code q.1 = .ok q.2 := by decide +kernel
set_option maxRecDepth 100000 in
theorem zd_L_part : ∀ q ∈ zc_L_part, decode prog_1_method_18_code q.1 = .ok q.2 := by decide +kernel
set_option maxRecDepth 100000 in
theorem zd_L_sum : ∀ q ∈ zc_L_sum, decode prog_1_method_19_code q.1 = .ok q.2 := by decide +kernel
set_option maxRecDepth 100000 in
theorem zd_L_difference : ∀ q ∈ zc_L_difference, decode prog_1_method_20_code q.1 = .ok q.2 := by decide +kernel
set_option maxRecDepth 100000 in
theorem zd_L_average : ∀ q ∈ zc_L_average, decode prog_1_method_21_code q.1 = .ok q.2 := by decide +kernel
set_option maxRecDepth 100000 in
theorem zd_L_clamp : ∀ q ∈ zc_L_clamp, decode prog_1_method_22_code q.1 = .ok q.2 := by decide +kernel
set_option maxRecDepth 100000 in
theorem zd_M_init : ∀ q ∈ zc_M_init, decode prog_14_method_1_code q.1 = .ok q.2 := by decide +kernel
set_option maxRecDepth 100000 in
theorem zd_M_thrown : ∀ q ∈ zc_M_thrown, decode prog_14_method_2_code q.1 = .ok q.2 := by decide +kernel
set_option maxRecDepth 100000 in
theorem zd_M_size : ∀ q ∈ zc_M_size, decode prog_14_method_3_code q.1 = .ok q.2 := by decide +kernel
set_option maxRecDepth 100000 in
theorem zd_M_isPixel : ∀ q ∈ zc_M_isPixel, decode prog_14_method_4_code q.1 = .ok q.2 := by decide +kernel
set_option maxRecDepth 100000 in
theorem zd_M_set : ∀ q ∈ zc_M_set, decode prog_14_method_5_code q.1 = .ok q.2 := by decide +kernel
set_option maxRecDepth 100000 in
theorem zd_M_pixel : ∀ q ∈ zc_M_pixel, decode prog_14_method_6_code q.1 = .ok q.2 := by decide +kernel
set_option maxRecDepth 100000 in
theorem zd_M_differentColours : ∀ q ∈ zc_M_differentColours, decode prog_14_method_7_code q.1 = .ok q.2 := by decide +kernel
set_option maxRecDepth 100000 in
theorem zd_M_measure : ∀ q ∈ zc_M_measure, decode prog_14_method_8_code q.1 = .ok q.2 := by decide +kernel
set_option maxRecDepth 100000 in
theorem zd_M_feed : ∀ q ∈ zc_M_feed, decode prog_14_method_9_code q.1 = .ok q.2 := by decide +kernel
set_option maxRecDepth 100000 in
theorem zd_M_wipe : ∀ q ∈ zc_M_wipe, decode prog_14_method_10_code q.1 = .ok q.2 := by decide +kernel
set_option maxRecDepth 100000 in
theorem zd_M_byteAt : ∀ q ∈ zc_M_byteAt, decode prog_14_method_11_code q.1 = .ok q.2 := by decide +kernel
set_option maxRecDepth 100000 in
theorem zd_M_flip : ∀ q ∈ zc_M_flip, decode prog_14_method_12_code q.1 = .ok q.2 := by decide +kernel
set_option maxRecDepth 100000 in
theorem zd_M_part : ∀ q ∈ zc_M_part, decode prog_14_method_13_code q.1 = .ok q.2 := by decide +kernel
set_option maxRecDepth 100000 in
theorem zd_M_plus : ∀ q ∈ zc_M_plus, decode prog_14_method_14_code q.1 = .ok q.2 := by decide +kernel
set_option maxRecDepth 100000 in
theorem zd_M_minus : ∀ q ∈ zc_M_minus, decode prog_14_method_15_code q.1 = .ok q.2 := by decide +kernel
set_option maxRecDepth 100000 in
theorem zd_M_half : ∀ q ∈ zc_M_half, decode prog_14_method_16_code q.1 = .ok q.2 := by decide +kernel
set_option maxRecDepth 100000 in
theorem zd_M_kept : ∀ q ∈ zc_M_kept, decode prog_14_method_17_code q.1 = .ok q.2 := by decide +kernel
set_option maxRecDepth 100000 in
theorem zd_M_far : ∀ q ∈ zc_M_far, decode prog_14_method_18_code q.1 = .ok q.2 := by decide +kernel
set_option maxRecDepth 100000 in
theorem zd_M_chosen : ∀ q ∈ zc_M_chosen, decode prog_14_method_19_code q.1 = .ok q.2 := by decide +kernel
set_option maxRecDepth 100000 in
theorem zd_M_bent : ∀ q ∈ zc_M_bent, decode prog_14_method_20_code q.1 = .ok q.2 := by decide +kernel
set_option maxRecDepth 100000 in
theorem zd_M_foretold : ∀ q ∈ zc_M_foretold, decode prog_14_method_21_code q.1 = .ok q.2 := by decide +kernel
