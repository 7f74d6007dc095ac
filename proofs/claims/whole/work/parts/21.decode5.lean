set_option maxRecDepth 100000 in
theorem zd_A_fill : ∀ q ∈ zc_A_fill, decode prog_24_method_103_code q.1 = .ok q.2 := by decide +kernel
set_option maxRecDepth 100000 in
theorem zd_A_fill2 : ∀ q ∈ zc_A_fill2, decode prog_24_method_104_code q.1 = .ok q.2 := by decide +kernel
set_option maxRecDepth 100000 in
theorem zd_A_rangeCheck : ∀ q ∈ zc_A_rangeCheck, decode prog_24_method_30_code q.1 = .ok q.2 := by decide +kernel
