set_option maxRecDepth 100000 in
theorem zd_M_put : ∀ q ∈ zc_M_put, decode prog_14_method_53_code q.1 = .ok q.2 := by decide +kernel
set_option maxRecDepth 100000 in
theorem zd_M_usedOf : ∀ q ∈ zc_M_usedOf, decode prog_14_method_54_code q.1 = .ok q.2 := by decide +kernel
set_option maxRecDepth 100000 in
theorem zd_M_giveLengths : ∀ q ∈ zc_M_giveLengths, decode prog_14_method_55_code q.1 = .ok q.2 := by decide +kernel
set_option maxRecDepth 100000 in
theorem zd_M_putSymbol : ∀ q ∈ zc_M_putSymbol, decode prog_14_method_56_code q.1 = .ok q.2 := by decide +kernel
set_option maxRecDepth 100000 in
theorem zd_M_say : ∀ q ∈ zc_M_say, decode prog_14_method_57_code q.1 = .ok q.2 := by decide +kernel
set_option maxRecDepth 100000 in
theorem zd_M_sayZeros : ∀ q ∈ zc_M_sayZeros, decode prog_14_method_58_code q.1 = .ok q.2 := by decide +kernel
set_option maxRecDepth 100000 in
theorem zd_M_putLengths : ∀ q ∈ zc_M_putLengths, decode prog_14_method_59_code q.1 = .ok q.2 := by decide +kernel
set_option maxRecDepth 100000 in
theorem zd_M_putCode : ∀ q ∈ zc_M_putCode, decode prog_14_method_60_code q.1 = .ok q.2 := by decide +kernel
set_option maxRecDepth 100000 in
theorem zd_M_prefixOf : ∀ q ∈ zc_M_prefixOf, decode prog_14_method_61_code q.1 = .ok q.2 := by decide +kernel
set_option maxRecDepth 100000 in
theorem zd_M_putRest : ∀ q ∈ zc_M_putRest, decode prog_14_method_62_code q.1 = .ok q.2 := by decide +kernel
set_option maxRecDepth 100000 in
theorem zd_M_run : ∀ q ∈ zc_M_run, decode prog_14_method_63_code q.1 = .ok q.2 := by decide +kernel
set_option maxRecDepth 100000 in
theorem zd_M_makeUp : ∀ q ∈ zc_M_makeUp, decode prog_14_method_64_code q.1 = .ok q.2 := by decide +kernel
set_option maxRecDepth 100000 in
theorem zd_M_use : ∀ q ∈ zc_M_use, decode prog_14_method_65_code q.1 = .ok q.2 := by decide +kernel
set_option maxRecDepth 100000 in
theorem zd_M_useAll : ∀ q ∈ zc_M_useAll, decode prog_14_method_66_code q.1 = .ok q.2 := by decide +kernel
set_option maxRecDepth 100000 in
theorem zd_M_putImage : ∀ q ∈ zc_M_putImage, decode prog_14_method_67_code q.1 = .ok q.2 := by decide +kernel
set_option maxRecDepth 100000 in
theorem zd_M_isLess : ∀ q ∈ zc_M_isLess, decode prog_14_method_68_code q.1 = .ok q.2 := by decide +kernel
set_option maxRecDepth 100000 in
theorem zd_M_findColours : ∀ q ∈ zc_M_findColours, decode prog_14_method_69_code q.1 = .ok q.2 := by decide +kernel
set_option maxRecDepth 100000 in
theorem zd_M_numberOf : ∀ q ∈ zc_M_numberOf, decode prog_14_method_70_code q.1 = .ok q.2 := by decide +kernel
set_option maxRecDepth 100000 in
theorem zd_M_pack : ∀ q ∈ zc_M_pack, decode prog_14_method_71_code q.1 = .ok q.2 := by decide +kernel
set_option maxRecDepth 100000 in
theorem zd_M_putPalette : ∀ q ∈ zc_M_putPalette, decode prog_14_method_72_code q.1 = .ok q.2 := by decide +kernel
set_option maxRecDepth 100000 in
theorem zd_M_putModes : ∀ q ∈ zc_M_putModes, decode prog_14_method_73_code q.1 = .ok q.2 := by decide +kernel
set_option maxRecDepth 100000 in
theorem zd_M_prepare : ∀ q ∈ zc_M_prepare, decode prog_14_method_74_code q.1 = .ok q.2 := by decide +kernel
set_option maxRecDepth 100000 in
theorem zd_M_write : ∀ q ∈ zc_M_write, decode prog_14_method_75_code q.1 = .ok q.2 := by decide +kernel
