set_option maxRecDepth 100000 in
theorem zd_Foretelling_nearer : ∀ q ∈ zc_Foretelling_nearer, decode prog_8_method_7_code q.1 = .ok q.2 := by decide +kernel
set_option maxRecDepth 100000 in
theorem zd_Foretelling_slope : ∀ q ∈ zc_Foretelling_slope, decode prog_8_method_8_code q.1 = .ok q.2 := by decide +kernel
set_option maxRecDepth 100000 in
theorem zd_Foretelling_halfSlope : ∀ q ∈ zc_Foretelling_halfSlope, decode prog_8_method_9_code q.1 = .ok q.2 := by decide +kernel
set_option maxRecDepth 100000 in
theorem zd_ImageReader_init : ∀ q ∈ zc_ImageReader_init, decode prog_9_method_1_code q.1 = .ok q.2 := by decide +kernel
set_option maxRecDepth 100000 in
theorem zd_ImageReader_take : ∀ q ∈ zc_ImageReader_take, decode prog_9_method_2_code q.1 = .ok q.2 := by decide +kernel
set_option maxRecDepth 100000 in
theorem zd_ImageReader_takePixels : ∀ q ∈ zc_ImageReader_takePixels, decode prog_9_method_3_code q.1 = .ok q.2 := by decide +kernel
set_option maxRecDepth 100000 in
theorem zd_ImageReader_takeCopy : ∀ q ∈ zc_ImageReader_takeCopy, decode prog_9_method_4_code q.1 = .ok q.2 := by decide +kernel
set_option maxRecDepth 100000 in
theorem zd_ImageReader_takeNumber : ∀ q ∈ zc_ImageReader_takeNumber, decode prog_9_method_5_code q.1 = .ok q.2 := by decide +kernel
set_option maxRecDepth 100000 in
theorem zd_ImageReader_distanceOf : ∀ q ∈ zc_ImageReader_distanceOf, decode prog_9_method_6_code q.1 = .ok q.2 := by decide +kernel
set_option maxRecDepth 100000 in
theorem zd_ImageReader_takeCode : ∀ q ∈ zc_ImageReader_takeCode, decode prog_9_method_7_code q.1 = .ok q.2 := by decide +kernel
set_option maxRecDepth 100000 in
theorem zd_ImageReader_takeFew : ∀ q ∈ zc_ImageReader_takeFew, decode prog_9_method_8_code q.1 = .ok q.2 := by decide +kernel
set_option maxRecDepth 100000 in
theorem zd_ImageReader_takeSmall : ∀ q ∈ zc_ImageReader_takeSmall, decode prog_9_method_9_code q.1 = .ok q.2 := by decide +kernel
set_option maxRecDepth 100000 in
theorem zd_ImageReader_takeLengths : ∀ q ∈ zc_ImageReader_takeLengths, decode prog_9_method_10_code q.1 = .ok q.2 := by decide +kernel
set_option maxRecDepth 100000 in
theorem zd_ImageReader_takeTimes : ∀ q ∈ zc_ImageReader_takeTimes, decode prog_9_method_11_code q.1 = .ok q.2 := by decide +kernel
set_option maxRecDepth 100000 in
theorem zd_ImageWriter_init : ∀ q ∈ zc_ImageWriter_init, decode prog_10_method_1_code q.1 = .ok q.2 := by decide +kernel
set_option maxRecDepth 100000 in
theorem zd_ImageWriter_say : ∀ q ∈ zc_ImageWriter_say, decode prog_10_method_2_code q.1 = .ok q.2 := by decide +kernel
set_option maxRecDepth 100000 in
theorem zd_ImageWriter_bitsBehind : ∀ q ∈ zc_ImageWriter_bitsBehind, decode prog_10_method_3_code q.1 = .ok q.2 := by decide +kernel
set_option maxRecDepth 100000 in
theorem zd_ImageWriter_makeUp : ∀ q ∈ zc_ImageWriter_makeUp, decode prog_10_method_4_code q.1 = .ok q.2 := by decide +kernel
set_option maxRecDepth 100000 in
theorem zd_ImageWriter_findCopy : ∀ q ∈ zc_ImageWriter_findCopy, decode prog_10_method_5_code q.1 = .ok q.2 := by decide +kernel
set_option maxRecDepth 100000 in
theorem zd_ImageWriter_noteCopy : ∀ q ∈ zc_ImageWriter_noteCopy, decode prog_10_method_6_code q.1 = .ok q.2 := by decide +kernel
set_option maxRecDepth 100000 in
theorem zd_ImageWriter_notePixel : ∀ q ∈ zc_ImageWriter_notePixel, decode prog_10_method_7_code q.1 = .ok q.2 := by decide +kernel
set_option maxRecDepth 100000 in
theorem zd_ImageWriter_note : ∀ q ∈ zc_ImageWriter_note, decode prog_10_method_8_code q.1 = .ok q.2 := by decide +kernel
set_option maxRecDepth 100000 in
theorem zd_Plane_init : ∀ q ∈ zc_Plane_init, decode prog_11_method_1_code q.1 = .ok q.2 := by decide +kernel
set_option maxRecDepth 100000 in
theorem zd_Plane_shape : ∀ q ∈ zc_Plane_shape, decode prog_11_method_2_code q.1 = .ok q.2 := by decide +kernel
set_option maxRecDepth 100000 in
theorem zd_Plane_count : ∀ q ∈ zc_Plane_count, decode prog_11_method_3_code q.1 = .ok q.2 := by decide +kernel
set_option maxRecDepth 100000 in
theorem zd_Plane_holds : ∀ q ∈ zc_Plane_holds, decode prog_11_method_4_code q.1 = .ok q.2 := by decide +kernel
set_option maxRecDepth 100000 in
theorem zd_Plane_become : ∀ q ∈ zc_Plane_become, decode prog_11_method_5_code q.1 = .ok q.2 := by decide +kernel
set_option maxRecDepth 100000 in
theorem zd_Transforms_init : ∀ q ∈ zc_Transforms_init, decode prog_12_method_1_code q.1 = .ok q.2 := by decide +kernel
set_option maxRecDepth 100000 in
theorem zd_Transforms_clear : ∀ q ∈ zc_Transforms_clear, decode prog_12_method_2_code q.1 = .ok q.2 := by decide +kernel
set_option maxRecDepth 100000 in
theorem zd_Transforms_have : ∀ q ∈ zc_Transforms_have, decode prog_12_method_3_code q.1 = .ok q.2 := by decide +kernel
set_option maxRecDepth 100000 in
theorem zd_Transforms_take : ∀ q ∈ zc_Transforms_take, decode prog_12_method_4_code q.1 = .ok q.2 := by decide +kernel
set_option maxRecDepth 100000 in
theorem zd_Transforms_sumUpPalette : ∀ q ∈ zc_Transforms_sumUpPalette, decode prog_12_method_5_code q.1 = .ok q.2 := by decide +kernel
set_option maxRecDepth 100000 in
theorem zd_Transforms_shapeBlocks : ∀ q ∈ zc_Transforms_shapeBlocks, decode prog_12_method_6_code q.1 = .ok q.2 := by decide +kernel
set_option maxRecDepth 100000 in
theorem zd_Transforms_undoAll : ∀ q ∈ zc_Transforms_undoAll, decode prog_12_method_7_code q.1 = .ok q.2 := by decide +kernel
set_option maxRecDepth 100000 in
theorem zd_Transforms_paletteImage : ∀ q ∈ zc_Transforms_paletteImage, decode prog_12_method_8_code q.1 = .ok q.2 := by decide +kernel
set_option maxRecDepth 100000 in
theorem zd_Transforms_modeImage : ∀ q ∈ zc_Transforms_modeImage, decode prog_12_method_9_code q.1 = .ok q.2 := by decide +kernel
set_option maxRecDepth 100000 in
theorem zd_W_size : ∀ q ∈ zc_W_size, decode method_3_code q.1 = .ok q.2 := by decide +kernel
set_option maxRecDepth 100000 in
theorem zd_W_set : ∀ q ∈ zc_W_set, decode method_4_code q.1 = .ok q.2 := by decide +kernel
set_option maxRecDepth 100000 in
theorem zd_W_pixel : ∀ q ∈ zc_W_pixel, decode method_5_code q.1 = .ok q.2 := by decide +kernel
set_option maxRecDepth 100000 in
theorem zd_W_flip : ∀ q ∈ zc_W_flip, decode method_6_code q.1 = .ok q.2 := by decide +kernel
set_option maxRecDepth 100000 in
theorem zd_W_read : ∀ q ∈ zc_W_read, decode method_7_code q.1 = .ok q.2 := by decide +kernel
set_option maxRecDepth 100000 in
theorem zd_W_write : ∀ q ∈ zc_W_write, decode method_8_code q.1 = .ok q.2 := by decide +kernel
set_option maxRecDepth 100000 in
theorem zd_A_fill : ∀ q ∈ zc_A_fill, decode prog_24_method_103_code q.1 = .ok q.2 := by decide +kernel
set_option maxRecDepth 100000 in
theorem zd_A_fill2 : ∀ q ∈ zc_A_fill2, decode prog_24_method_104_code q.1 = .ok q.2 := by decide +kernel
set_option maxRecDepth 100000 in
theorem zd_A_rangeCheck : ∀ q ∈ zc_A_rangeCheck, decode prog_24_method_30_code q.1 = .ok q.2 := by decide +kernel
set_option maxRecDepth 100000 in
theorem zd_W_law : ∀ q ∈ zc_W_law, decode code q.1 = .ok q.2 := by decide +kernel
