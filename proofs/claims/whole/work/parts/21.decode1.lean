set_option maxRecDepth 100000 in
theorem zd_M_foretoldAt : ∀ q ∈ zc_M_foretoldAt, decode prog_14_method_22_code q.1 = .ok q.2 := by decide +kernel
set_option maxRecDepth 100000 in
theorem zd_M_base : ∀ q ∈ zc_M_base, decode prog_14_method_23_code q.1 = .ok q.2 := by decide +kernel
set_option maxRecDepth 100000 in
theorem zd_M_many : ∀ q ∈ zc_M_many, decode prog_14_method_24_code q.1 = .ok q.2 := by decide +kernel
set_option maxRecDepth 100000 in
theorem zd_M_weigh : ∀ q ∈ zc_M_weigh, decode prog_14_method_25_code q.1 = .ok q.2 := by decide +kernel
set_option maxRecDepth 100000 in
theorem zd_M_bit : ∀ q ∈ zc_M_bit, decode prog_14_method_26_code q.1 = .ok q.2 := by decide +kernel
set_option maxRecDepth 100000 in
theorem zd_M_bits : ∀ q ∈ zc_M_bits, decode prog_14_method_27_code q.1 = .ok q.2 := by decide +kernel
set_option maxRecDepth 100000 in
theorem zd_M_symbolAt : ∀ q ∈ zc_M_symbolAt, decode prog_14_method_28_code q.1 = .ok q.2 := by decide +kernel
set_option maxRecDepth 100000 in
theorem zd_M_symbol : ∀ q ∈ zc_M_symbol, decode prog_14_method_29_code q.1 = .ok q.2 := by decide +kernel
set_option maxRecDepth 100000 in
theorem zd_M_wipeLengths : ∀ q ∈ zc_M_wipeLengths, decode prog_14_method_30_code q.1 = .ok q.2 := by decide +kernel
set_option maxRecDepth 100000 in
theorem zd_M_readPlain : ∀ q ∈ zc_M_readPlain, decode prog_14_method_31_code q.1 = .ok q.2 := by decide +kernel
set_option maxRecDepth 100000 in
theorem zd_M_readLengths : ∀ q ∈ zc_M_readLengths, decode prog_14_method_32_code q.1 = .ok q.2 := by decide +kernel
set_option maxRecDepth 100000 in
theorem zd_M_readCode : ∀ q ∈ zc_M_readCode, decode prog_14_method_33_code q.1 = .ok q.2 := by decide +kernel
set_option maxRecDepth 100000 in
theorem zd_M_readPrefixed : ∀ q ∈ zc_M_readPrefixed, decode prog_14_method_34_code q.1 = .ok q.2 := by decide +kernel
set_option maxRecDepth 100000 in
theorem zd_M_distanceOf : ∀ q ∈ zc_M_distanceOf, decode prog_14_method_35_code q.1 = .ok q.2 := by decide +kernel
set_option maxRecDepth 100000 in
theorem zd_M_cachePlace : ∀ q ∈ zc_M_cachePlace, decode prog_14_method_36_code q.1 = .ok q.2 := by decide +kernel
set_option maxRecDepth 100000 in
theorem zd_M_come : ∀ q ∈ zc_M_come, decode prog_14_method_37_code q.1 = .ok q.2 := by decide +kernel
set_option maxRecDepth 100000 in
theorem zd_M_emptyCache : ∀ q ∈ zc_M_emptyCache, decode prog_14_method_38_code q.1 = .ok q.2 := by decide +kernel
set_option maxRecDepth 100000 in
theorem zd_M_readCopy : ∀ q ∈ zc_M_readCopy, decode prog_14_method_39_code q.1 = .ok q.2 := by decide +kernel
set_option maxRecDepth 100000 in
theorem zd_M_readImage : ∀ q ∈ zc_M_readImage, decode prog_14_method_40_code q.1 = .ok q.2 := by decide +kernel
set_option maxRecDepth 100000 in
theorem zd_M_blocks : ∀ q ∈ zc_M_blocks, decode prog_14_method_41_code q.1 = .ok q.2 := by decide +kernel
set_option maxRecDepth 100000 in
theorem zd_M_packed : ∀ q ∈ zc_M_packed, decode prog_14_method_42_code q.1 = .ok q.2 := by decide +kernel
set_option maxRecDepth 100000 in
theorem zd_M_hasKind : ∀ q ∈ zc_M_hasKind, decode prog_14_method_43_code q.1 = .ok q.2 := by decide +kernel
set_option maxRecDepth 100000 in
theorem zd_M_readTransform : ∀ q ∈ zc_M_readTransform, decode prog_14_method_44_code q.1 = .ok q.2 := by decide +kernel
set_option maxRecDepth 100000 in
theorem zd_M_signed : ∀ q ∈ zc_M_signed, decode prog_14_method_45_code q.1 = .ok q.2 := by decide +kernel
set_option maxRecDepth 100000 in
theorem zd_M_delta : ∀ q ∈ zc_M_delta, decode prog_14_method_46_code q.1 = .ok q.2 := by decide +kernel
set_option maxRecDepth 100000 in
theorem zd_M_parted : ∀ q ∈ zc_M_parted, decode prog_14_method_47_code q.1 = .ok q.2 := by decide +kernel
set_option maxRecDepth 100000 in
theorem zd_M_greened : ∀ q ∈ zc_M_greened, decode prog_14_method_48_code q.1 = .ok q.2 := by decide +kernel
set_option maxRecDepth 100000 in
theorem zd_M_unpacked : ∀ q ∈ zc_M_unpacked, decode prog_14_method_49_code q.1 = .ok q.2 := by decide +kernel
set_option maxRecDepth 100000 in
theorem zd_M_undo : ∀ q ∈ zc_M_undo, decode prog_14_method_50_code q.1 = .ok q.2 := by decide +kernel
set_option maxRecDepth 100000 in
theorem zd_M_note : ∀ q ∈ zc_M_note, decode prog_14_method_51_code q.1 = .ok q.2 := by decide +kernel
set_option maxRecDepth 100000 in
theorem zd_M_read : ∀ q ∈ zc_M_read, decode prog_14_method_52_code q.1 = .ok q.2 := by decide +kernel
