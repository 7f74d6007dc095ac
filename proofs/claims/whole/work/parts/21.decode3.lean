set_option maxRecDepth 100000 in
theorem zd_M_had : ∀ q ∈ zc_M_had, decode prog_14_method_76_code q.1 = .ok q.2 := by decide +kernel
set_option maxRecDepth 100000 in
theorem zd_Bits_init : ∀ q ∈ zc_Bits_init, decode prog_2_method_1_code q.1 = .ok q.2 := by decide +kernel
set_option maxRecDepth 100000 in
theorem zd_Bits_clear : ∀ q ∈ zc_Bits_clear, decode prog_2_method_2_code q.1 = .ok q.2 := by decide +kernel
set_option maxRecDepth 100000 in
theorem zd_Bits_bytesHeld : ∀ q ∈ zc_Bits_bytesHeld, decode prog_2_method_3_code q.1 = .ok q.2 := by decide +kernel
set_option maxRecDepth 100000 in
theorem zd_Bits_bit : ∀ q ∈ zc_Bits_bit, decode prog_2_method_4_code q.1 = .ok q.2 := by decide +kernel
set_option maxRecDepth 100000 in
theorem zd_Bits_number : ∀ q ∈ zc_Bits_number, decode prog_2_method_5_code q.1 = .ok q.2 := by decide +kernel
set_option maxRecDepth 100000 in
theorem zd_Bits_put : ∀ q ∈ zc_Bits_put, decode prog_2_method_6_code q.1 = .ok q.2 := by decide +kernel
set_option maxRecDepth 100000 in
theorem zd_Bits_putBit : ∀ q ∈ zc_Bits_putBit, decode prog_2_method_7_code q.1 = .ok q.2 := by decide +kernel
set_option maxRecDepth 100000 in
theorem zd_Bits_become : ∀ q ∈ zc_Bits_become, decode prog_2_method_8_code q.1 = .ok q.2 := by decide +kernel
set_option maxRecDepth 100000 in
theorem zd_Cache_init : ∀ q ∈ zc_Cache_init, decode prog_3_method_1_code q.1 = .ok q.2 := by decide +kernel
set_option maxRecDepth 100000 in
theorem zd_Cache_open : ∀ q ∈ zc_Cache_open, decode prog_3_method_2_code q.1 = .ok q.2 := by decide +kernel
set_option maxRecDepth 100000 in
theorem zd_Cache_colourCount : ∀ q ∈ zc_Cache_colourCount, decode prog_3_method_3_code q.1 = .ok q.2 := by decide +kernel
set_option maxRecDepth 100000 in
theorem zd_Cache_placeOf : ∀ q ∈ zc_Cache_placeOf, decode prog_3_method_4_code q.1 = .ok q.2 := by decide +kernel
set_option maxRecDepth 100000 in
theorem zd_Cache_has : ∀ q ∈ zc_Cache_has, decode prog_3_method_5_code q.1 = .ok q.2 := by decide +kernel
set_option maxRecDepth 100000 in
theorem zd_Cache_keep : ∀ q ∈ zc_Cache_keep, decode prog_3_method_6_code q.1 = .ok q.2 := by decide +kernel
set_option maxRecDepth 100000 in
theorem zd_Code_init : ∀ q ∈ zc_Code_init, decode prog_4_method_1_code q.1 = .ok q.2 := by decide +kernel
set_option maxRecDepth 100000 in
theorem zd_Code_clear : ∀ q ∈ zc_Code_clear, decode prog_4_method_2_code q.1 = .ok q.2 := by decide +kernel
set_option maxRecDepth 100000 in
theorem zd_Code_arrange : ∀ q ∈ zc_Code_arrange, decode prog_4_method_3_code q.1 = .ok q.2 := by decide +kernel
set_option maxRecDepth 100000 in
theorem zd_Code_countLengths : ∀ q ∈ zc_Code_countLengths, decode prog_4_method_4_code q.1 = .ok q.2 := by decide +kernel
set_option maxRecDepth 100000 in
theorem zd_Code_hear : ∀ q ∈ zc_Code_hear, decode prog_4_method_5_code q.1 = .ok q.2 := by decide +kernel
set_option maxRecDepth 100000 in
theorem zd_Code_say : ∀ q ∈ zc_Code_say, decode prog_4_method_6_code q.1 = .ok q.2 := by decide +kernel
set_option maxRecDepth 100000 in
theorem zd_Code_balance : ∀ q ∈ zc_Code_balance, decode prog_4_method_7_code q.1 = .ok q.2 := by decide +kernel
set_option maxRecDepth 100000 in
theorem zd_CodeWriter_init : ∀ q ∈ zc_CodeWriter_init, decode prog_5_method_1_code q.1 = .ok q.2 := by decide +kernel
set_option maxRecDepth 100000 in
theorem zd_CodeWriter_say : ∀ q ∈ zc_CodeWriter_say, decode prog_5_method_2_code q.1 = .ok q.2 := by decide +kernel
set_option maxRecDepth 100000 in
theorem zd_CodeWriter_sayFew : ∀ q ∈ zc_CodeWriter_sayFew, decode prog_5_method_3_code q.1 = .ok q.2 := by decide +kernel
set_option maxRecDepth 100000 in
theorem zd_CodeWriter_gatherLengths : ∀ q ∈ zc_CodeWriter_gatherLengths, decode prog_5_method_4_code q.1 = .ok q.2 := by decide +kernel
set_option maxRecDepth 100000 in
theorem zd_CodeWriter_gatherZeros : ∀ q ∈ zc_CodeWriter_gatherZeros, decode prog_5_method_5_code q.1 = .ok q.2 := by decide +kernel
set_option maxRecDepth 100000 in
theorem zd_CodeWriter_gather : ∀ q ∈ zc_CodeWriter_gather, decode prog_5_method_6_code q.1 = .ok q.2 := by decide +kernel
set_option maxRecDepth 100000 in
theorem zd_CodeWriter_saySmall : ∀ q ∈ zc_CodeWriter_saySmall, decode prog_5_method_7_code q.1 = .ok q.2 := by decide +kernel
set_option maxRecDepth 100000 in
theorem zd_CodeWriter_sayLengths : ∀ q ∈ zc_CodeWriter_sayLengths, decode prog_5_method_8_code q.1 = .ok q.2 := by decide +kernel
set_option maxRecDepth 100000 in
theorem zd_Codes_init : ∀ q ∈ zc_Codes_init, decode prog_6_method_1_code q.1 = .ok q.2 := by decide +kernel
set_option maxRecDepth 100000 in
theorem zd_Codes_of : ∀ q ∈ zc_Codes_of, decode prog_6_method_2_code q.1 = .ok q.2 := by decide +kernel
set_option maxRecDepth 100000 in
theorem zd_Codes_clear : ∀ q ∈ zc_Codes_clear, decode prog_6_method_3_code q.1 = .ok q.2 := by decide +kernel
set_option maxRecDepth 100000 in
theorem zd_Codes_bitsBehind : ∀ q ∈ zc_Codes_bitsBehind, decode prog_6_method_4_code q.1 = .ok q.2 := by decide +kernel
set_option maxRecDepth 100000 in
theorem zd_Codes_leastNumber : ∀ q ∈ zc_Codes_leastNumber, decode prog_6_method_5_code q.1 = .ok q.2 := by decide +kernel
set_option maxRecDepth 100000 in
theorem zd_Codes_prefixOf : ∀ q ∈ zc_Codes_prefixOf, decode prog_6_method_6_code q.1 = .ok q.2 := by decide +kernel
set_option maxRecDepth 100000 in
theorem zd_Colours_putTogether : ∀ q ∈ zc_Colours_putTogether, decode prog_7_method_2_code q.1 = .ok q.2 := by decide +kernel
set_option maxRecDepth 100000 in
theorem zd_Colours_together : ∀ q ∈ zc_Colours_together, decode prog_7_method_3_code q.1 = .ok q.2 := by decide +kernel
set_option maxRecDepth 100000 in
theorem zd_Colours_delta : ∀ q ∈ zc_Colours_delta, decode prog_7_method_4_code q.1 = .ok q.2 := by decide +kernel
set_option maxRecDepth 100000 in
theorem zd_Colours_putGreenOn : ∀ q ∈ zc_Colours_putGreenOn, decode prog_7_method_5_code q.1 = .ok q.2 := by decide +kernel
set_option maxRecDepth 100000 in
theorem zd_Colours_takeGreenOff : ∀ q ∈ zc_Colours_takeGreenOff, decode prog_7_method_6_code q.1 = .ok q.2 := by decide +kernel
set_option maxRecDepth 100000 in
theorem zd_Colours_greenForOthers : ∀ q ∈ zc_Colours_greenForOthers, decode prog_7_method_7_code q.1 = .ok q.2 := by decide +kernel
set_option maxRecDepth 100000 in
theorem zd_Colours_packing : ∀ q ∈ zc_Colours_packing, decode prog_7_method_8_code q.1 = .ok q.2 := by decide +kernel
set_option maxRecDepth 100000 in
theorem zd_Colours_packedWidth : ∀ q ∈ zc_Colours_packedWidth, decode prog_7_method_9_code q.1 = .ok q.2 := by decide +kernel
set_option maxRecDepth 100000 in
theorem zd_Colours_pack : ∀ q ∈ zc_Colours_pack, decode prog_7_method_10_code q.1 = .ok q.2 := by decide +kernel
set_option maxRecDepth 100000 in
theorem zd_Colours_numberOf : ∀ q ∈ zc_Colours_numberOf, decode prog_7_method_11_code q.1 = .ok q.2 := by decide +kernel
set_option maxRecDepth 100000 in
theorem zd_Colours_unpack : ∀ q ∈ zc_Colours_unpack, decode prog_7_method_12_code q.1 = .ok q.2 := by decide +kernel
set_option maxRecDepth 100000 in
theorem zd_Foretelling_putOn : ∀ q ∈ zc_Foretelling_putOn, decode prog_8_method_2_code q.1 = .ok q.2 := by decide +kernel
set_option maxRecDepth 100000 in
theorem zd_Foretelling_takeOff : ∀ q ∈ zc_Foretelling_takeOff, decode prog_8_method_3_code q.1 = .ok q.2 := by decide +kernel
set_option maxRecDepth 100000 in
theorem zd_Foretelling_blockOf : ∀ q ∈ zc_Foretelling_blockOf, decode prog_8_method_4_code q.1 = .ok q.2 := by decide +kernel
set_option maxRecDepth 100000 in
theorem zd_Foretelling_foretold : ∀ q ∈ zc_Foretelling_foretold, decode prog_8_method_5_code q.1 = .ok q.2 := by decide +kernel
set_option maxRecDepth 100000 in
theorem zd_Foretelling_byMode : ∀ q ∈ zc_Foretelling_byMode, decode prog_8_method_6_code q.1 = .ok q.2 := by decide +kernel
