/-! Classes and their fields. -/
set_option maxRecDepth 20000 in
theorem zw0 {s0 : State} {pre : Nat → Nat} {D : va_G} {ca : FieldType → ClassId} (hts : zH s0) : ∀ w ∈ u_ws zR0 zT0 10, xk (zX s0 pre D ca) w := by
  show ∀ w ∈ [u_lay zR0 zT0 0, u_lay zR0 zT0 1, u_lay zR0 zT0 2, u_lay zR0 zT0 3, u_lay zR0 zT0 4, u_lay zR0 zT0 5, u_lay zR0 zT0 6, u_lay zR0 zT0 7, u_lay zR0 zT0 8, u_lay zR0 zT0 9], xk (zX s0 pre D ca) w
  exact List.forall_mem_cons.mpr ⟨(zk hts (zt (i := 289) (by decide +kernel)) (by decide +kernel)),
    List.forall_mem_cons.mpr ⟨(zk hts (zt (i := 291) (by decide +kernel)) (by decide +kernel)),
    List.forall_mem_cons.mpr ⟨(zk hts (zt (i := 293) (by decide +kernel)) (by decide +kernel)),
    List.forall_mem_cons.mpr ⟨(zk hts (zt (i := 295) (by decide +kernel)) (by decide +kernel)),
    List.forall_mem_cons.mpr ⟨(zk hts (zt (i := 297) (by decide +kernel)) (by decide +kernel)),
    List.forall_mem_cons.mpr ⟨(zk hts (zt (i := 299) (by decide +kernel)) (by decide +kernel)),
    List.forall_mem_cons.mpr ⟨(zk hts (zt (i := 301) (by decide +kernel)) (by decide +kernel)),
    List.forall_mem_cons.mpr ⟨(zk hts (zt (i := 303) (by decide +kernel)) (by decide +kernel)),
    List.forall_mem_cons.mpr ⟨(zk hts (zt (i := 305) (by decide +kernel)) (by decide +kernel)),
    List.forall_mem_cons.mpr ⟨(zk hts (zt (i := 307) (by decide +kernel)) (by decide +kernel)),
    fun _ h => nomatch h⟩⟩⟩⟩⟩⟩⟩⟩⟩⟩
theorem zcls0 {s0 : State} {pre : Nat → Nat} {D : va_G} {ca : FieldType → ClassId} (hts : zH s0) : xCls (zX s0 pre D ca) 0 zR0 zT0 10 zy0 := ⟨by decide, rfl, zw0 hts, by decide +kernel, by decide +kernel, rfl, by show ∀ k, k < 10 → (zdf 0)[k]? = some (defaultValue (zy0 k)); decide +kernel⟩
set_option maxRecDepth 20000 in
theorem zw1 {s0 : State} {pre : Nat → Nat} {D : va_G} {ca : FieldType → ClassId} (hts : zH s0) : ∀ w ∈ u_ws zR1 zT1 3, xk (zX s0 pre D ca) w := by
  show ∀ w ∈ [u_lay zR1 zT1 0, u_lay zR1 zT1 1, u_lay zR1 zT1 2], xk (zX s0 pre D ca) w
  exact List.forall_mem_cons.mpr ⟨(zk hts (zt (i := 75) (by decide +kernel)) (by decide +kernel)),
    List.forall_mem_cons.mpr ⟨(zk hts (zt (i := 77) (by decide +kernel)) (by decide +kernel)),
    List.forall_mem_cons.mpr ⟨(zk hts (zt (i := 79) (by decide +kernel)) (by decide +kernel)),
    fun _ h => nomatch h⟩⟩⟩
theorem zcls1 {s0 : State} {pre : Nat → Nat} {D : va_G} {ca : FieldType → ClassId} (hts : zH s0) : xCls (zX s0 pre D ca) 1 zR1 zT1 3 zy1 := ⟨by decide, rfl, zw1 hts, by decide +kernel, by decide +kernel, rfl, by show ∀ k, k < 3 → (zdf 1)[k]? = some (defaultValue (zy1 k)); decide +kernel⟩
set_option maxRecDepth 20000 in
theorem zw2 {s0 : State} {pre : Nat → Nat} {D : va_G} {ca : FieldType → ClassId} (hts : zH s0) : ∀ w ∈ u_ws zR2 zT2 2, xk (zX s0 pre D ca) w := by
  show ∀ w ∈ [u_lay zR2 zT2 0, u_lay zR2 zT2 1], xk (zX s0 pre D ca) w
  exact List.forall_mem_cons.mpr ⟨(zk hts (zt (i := 156) (by decide +kernel)) (by decide +kernel)),
    List.forall_mem_cons.mpr ⟨(zk hts (zt (i := 158) (by decide +kernel)) (by decide +kernel)),
    fun _ h => nomatch h⟩⟩
theorem zcls2 {s0 : State} {pre : Nat → Nat} {D : va_G} {ca : FieldType → ClassId} (hts : zH s0) : xCls (zX s0 pre D ca) 2 zR2 zT2 2 zy2 := ⟨by decide, rfl, zw2 hts, by decide +kernel, by decide +kernel, rfl, by show ∀ k, k < 2 → (zdf 2)[k]? = some (defaultValue (zy2 k)); decide +kernel⟩
set_option maxRecDepth 20000 in
theorem zw3 {s0 : State} {pre : Nat → Nat} {D : va_G} {ca : FieldType → ClassId} (hts : zH s0) : ∀ w ∈ u_ws zR3 zT3 8, xk (zX s0 pre D ca) w := by
  show ∀ w ∈ [u_lay zR3 zT3 0, u_lay zR3 zT3 1, u_lay zR3 zT3 2, u_lay zR3 zT3 3, u_lay zR3 zT3 4, u_lay zR3 zT3 5, u_lay zR3 zT3 6, u_lay zR3 zT3 7], xk (zX s0 pre D ca) w
  exact List.forall_mem_cons.mpr ⟨(zk hts (zt (i := 109) (by decide +kernel)) (by decide +kernel)),
    List.forall_mem_cons.mpr ⟨(zk hts (zt (i := 111) (by decide +kernel)) (by decide +kernel)),
    List.forall_mem_cons.mpr ⟨(zk hts (zt (i := 113) (by decide +kernel)) (by decide +kernel)),
    List.forall_mem_cons.mpr ⟨(zk hts (zt (i := 115) (by decide +kernel)) (by decide +kernel)),
    List.forall_mem_cons.mpr ⟨(zk hts (zt (i := 117) (by decide +kernel)) (by decide +kernel)),
    List.forall_mem_cons.mpr ⟨(zk hts (zt (i := 119) (by decide +kernel)) (by decide +kernel)),
    List.forall_mem_cons.mpr ⟨(zk hts (zt (i := 121) (by decide +kernel)) (by decide +kernel)),
    List.forall_mem_cons.mpr ⟨(zk hts (zt (i := 123) (by decide +kernel)) (by decide +kernel)),
    fun _ h => nomatch h⟩⟩⟩⟩⟩⟩⟩⟩
theorem zcls3 {s0 : State} {pre : Nat → Nat} {D : va_G} {ca : FieldType → ClassId} (hts : zH s0) : xCls (zX s0 pre D ca) 3 zR3 zT3 8 zy3 := ⟨by decide, rfl, zw3 hts, by decide +kernel, by decide +kernel, rfl, by show ∀ k, k < 8 → (zdf 3)[k]? = some (defaultValue (zy3 k)); decide +kernel⟩
set_option maxRecDepth 20000 in
theorem zw4 {s0 : State} {pre : Nat → Nat} {D : va_G} {ca : FieldType → ClassId} (hts : zH s0) : ∀ w ∈ u_ws zR4 zT4 4, xk (zX s0 pre D ca) w := by
  show ∀ w ∈ [u_lay zR4 zT4 0, u_lay zR4 zT4 1, u_lay zR4 zT4 2, u_lay zR4 zT4 3], xk (zX s0 pre D ca) w
  exact List.forall_mem_cons.mpr ⟨(zk hts (zt (i := 233) (by decide +kernel)) (by decide +kernel)),
    List.forall_mem_cons.mpr ⟨(zk hts (zt (i := 235) (by decide +kernel)) (by decide +kernel)),
    List.forall_mem_cons.mpr ⟨(zk hts (zt (i := 237) (by decide +kernel)) (by decide +kernel)),
    List.forall_mem_cons.mpr ⟨(zk hts (zt (i := 239) (by decide +kernel)) (by decide +kernel)),
    fun _ h => nomatch h⟩⟩⟩⟩
theorem zcls4 {s0 : State} {pre : Nat → Nat} {D : va_G} {ca : FieldType → ClassId} (hts : zH s0) : xCls (zX s0 pre D ca) 4 zR4 zT4 4 zy4 := ⟨by decide, rfl, zw4 hts, by decide +kernel, by decide +kernel, rfl, by show ∀ k, k < 4 → (zdf 4)[k]? = some (defaultValue (zy4 k)); decide +kernel⟩
set_option maxRecDepth 20000 in
theorem zw5 {s0 : State} {pre : Nat → Nat} {D : va_G} {ca : FieldType → ClassId} (hts : zH s0) : ∀ w ∈ u_ws zR5 zT5 5, xk (zX s0 pre D ca) w := by
  show ∀ w ∈ [u_lay zR5 zT5 0, u_lay zR5 zT5 1, u_lay zR5 zT5 2, u_lay zR5 zT5 3, u_lay zR5 zT5 4], xk (zX s0 pre D ca) w
  exact List.forall_mem_cons.mpr ⟨(zk hts (zt (i := 136) (by decide +kernel)) (by decide +kernel)),
    List.forall_mem_cons.mpr ⟨(zk hts (zt (i := 138) (by decide +kernel)) (by decide +kernel)),
    List.forall_mem_cons.mpr ⟨(zk hts (zt (i := 140) (by decide +kernel)) (by decide +kernel)),
    List.forall_mem_cons.mpr ⟨(zk hts (zt (i := 142) (by decide +kernel)) (by decide +kernel)),
    List.forall_mem_cons.mpr ⟨(zk hts (zt (i := 144) (by decide +kernel)) (by decide +kernel)),
    fun _ h => nomatch h⟩⟩⟩⟩⟩
theorem zcls5 {s0 : State} {pre : Nat → Nat} {D : va_G} {ca : FieldType → ClassId} (hts : zH s0) : xCls (zX s0 pre D ca) 5 zR5 zT5 5 zy5 := ⟨by decide, rfl, zw5 hts, by decide +kernel, by decide +kernel, rfl, by show ∀ k, k < 5 → (zdf 5)[k]? = some (defaultValue (zy5 k)); decide +kernel⟩
set_option maxRecDepth 20000 in
theorem zw6 {s0 : State} {pre : Nat → Nat} {D : va_G} {ca : FieldType → ClassId} (hts : zH s0) : ∀ w ∈ u_ws zR6 zT6 5, xk (zX s0 pre D ca) w := by
  show ∀ w ∈ [u_lay zR6 zT6 0, u_lay zR6 zT6 1, u_lay zR6 zT6 2, u_lay zR6 zT6 3, u_lay zR6 zT6 4], xk (zX s0 pre D ca) w
  exact List.forall_mem_cons.mpr ⟨(zk hts (zt (i := 204) (by decide +kernel)) (by decide +kernel)),
    List.forall_mem_cons.mpr ⟨(zk hts (zt (i := 206) (by decide +kernel)) (by decide +kernel)),
    List.forall_mem_cons.mpr ⟨(zk hts (zt (i := 208) (by decide +kernel)) (by decide +kernel)),
    List.forall_mem_cons.mpr ⟨(zk hts (zt (i := 210) (by decide +kernel)) (by decide +kernel)),
    List.forall_mem_cons.mpr ⟨(zk hts (zt (i := 212) (by decide +kernel)) (by decide +kernel)),
    fun _ h => nomatch h⟩⟩⟩⟩⟩
theorem zcls6 {s0 : State} {pre : Nat → Nat} {D : va_G} {ca : FieldType → ClassId} (hts : zH s0) : xCls (zX s0 pre D ca) 6 zR6 zT6 5 zy6 := ⟨by decide, rfl, zw6 hts, by decide +kernel, by decide +kernel, rfl, by show ∀ k, k < 5 → (zdf 6)[k]? = some (defaultValue (zy6 k)); decide +kernel⟩
set_option maxRecDepth 20000 in
theorem zw7 {s0 : State} {pre : Nat → Nat} {D : va_G} {ca : FieldType → ClassId} (hts : zH s0) : ∀ w ∈ u_ws zR7 zT7 11, xk (zX s0 pre D ca) w := by
  show ∀ w ∈ [u_lay zR7 zT7 0, u_lay zR7 zT7 1, u_lay zR7 zT7 2, u_lay zR7 zT7 3, u_lay zR7 zT7 4, u_lay zR7 zT7 5, u_lay zR7 zT7 6, u_lay zR7 zT7 7, u_lay zR7 zT7 8, u_lay zR7 zT7 9, u_lay zR7 zT7 10], xk (zX s0 pre D ca) w
  exact List.forall_mem_cons.mpr ⟨(zk hts (zt (i := 256) (by decide +kernel)) (by decide +kernel)),
    List.forall_mem_cons.mpr ⟨(zk hts (zt (i := 258) (by decide +kernel)) (by decide +kernel)),
    List.forall_mem_cons.mpr ⟨(zk hts (zt (i := 260) (by decide +kernel)) (by decide +kernel)),
    List.forall_mem_cons.mpr ⟨(zk hts (zt (i := 262) (by decide +kernel)) (by decide +kernel)),
    List.forall_mem_cons.mpr ⟨(zk hts (zt (i := 264) (by decide +kernel)) (by decide +kernel)),
    List.forall_mem_cons.mpr ⟨(zk hts (zt (i := 266) (by decide +kernel)) (by decide +kernel)),
    List.forall_mem_cons.mpr ⟨(zk hts (zt (i := 268) (by decide +kernel)) (by decide +kernel)),
    List.forall_mem_cons.mpr ⟨(zk hts (zt (i := 270) (by decide +kernel)) (by decide +kernel)),
    List.forall_mem_cons.mpr ⟨(zk hts (zt (i := 272) (by decide +kernel)) (by decide +kernel)),
    List.forall_mem_cons.mpr ⟨(zk hts (zt (i := 274) (by decide +kernel)) (by decide +kernel)),
    List.forall_mem_cons.mpr ⟨(zk hts (zt (i := 276) (by decide +kernel)) (by decide +kernel)),
    fun _ h => nomatch h⟩⟩⟩⟩⟩⟩⟩⟩⟩⟩⟩
theorem zcls7 {s0 : State} {pre : Nat → Nat} {D : va_G} {ca : FieldType → ClassId} (hts : zH s0) : xCls (zX s0 pre D ca) 7 zR7 zT7 11 zy7 := ⟨by decide, rfl, zw7 hts, by decide +kernel, by decide +kernel, rfl, by show ∀ k, k < 11 → (zdf 7)[k]? = some (defaultValue (zy7 k)); decide +kernel⟩
set_option maxRecDepth 20000 in
theorem zw8 {s0 : State} {pre : Nat → Nat} {D : va_G} {ca : FieldType → ClassId} (hts : zH s0) : ∀ w ∈ u_ws zR8 zT8 3, xk (zX s0 pre D ca) w := by
  show ∀ w ∈ [u_lay zR8 zT8 0, u_lay zR8 zT8 1, u_lay zR8 zT8 2], xk (zX s0 pre D ca) w
  exact List.forall_mem_cons.mpr ⟨(zk hts (zt (i := 55) (by decide +kernel)) (by decide +kernel)),
    List.forall_mem_cons.mpr ⟨(zk hts (zt (i := 57) (by decide +kernel)) (by decide +kernel)),
    List.forall_mem_cons.mpr ⟨(zk hts (zt (i := 59) (by decide +kernel)) (by decide +kernel)),
    fun _ h => nomatch h⟩⟩⟩
theorem zcls8 {s0 : State} {pre : Nat → Nat} {D : va_G} {ca : FieldType → ClassId} (hts : zH s0) : xCls (zX s0 pre D ca) 8 zR8 zT8 3 zy8 := ⟨by decide, rfl, zw8 hts, by decide +kernel, by decide +kernel, rfl, by show ∀ k, k < 3 → (zdf 8)[k]? = some (defaultValue (zy8 k)); decide +kernel⟩
set_option maxRecDepth 20000 in
theorem zw9 {s0 : State} {pre : Nat → Nat} {D : va_G} {ca : FieldType → ClassId} (hts : zH s0) : ∀ w ∈ u_ws zR9 zT9 6, xk (zX s0 pre D ca) w := by
  show ∀ w ∈ [u_lay zR9 zT9 0, u_lay zR9 zT9 1, u_lay zR9 zT9 2, u_lay zR9 zT9 3, u_lay zR9 zT9 4, u_lay zR9 zT9 5], xk (zX s0 pre D ca) w
  exact List.forall_mem_cons.mpr ⟨(zk hts (zt (i := 175) (by decide +kernel)) (by decide +kernel)),
    List.forall_mem_cons.mpr ⟨(zk hts (zt (i := 177) (by decide +kernel)) (by decide +kernel)),
    List.forall_mem_cons.mpr ⟨(zk hts (zt (i := 179) (by decide +kernel)) (by decide +kernel)),
    List.forall_mem_cons.mpr ⟨(zk hts (zt (i := 181) (by decide +kernel)) (by decide +kernel)),
    List.forall_mem_cons.mpr ⟨(zk hts (zt (i := 183) (by decide +kernel)) (by decide +kernel)),
    List.forall_mem_cons.mpr ⟨(zk hts (zt (i := 185) (by decide +kernel)) (by decide +kernel)),
    fun _ h => nomatch h⟩⟩⟩⟩⟩⟩
theorem zcls9 {s0 : State} {pre : Nat → Nat} {D : va_G} {ca : FieldType → ClassId} (hts : zH s0) : xCls (zX s0 pre D ca) 9 zR9 zT9 6 zy9 := ⟨by decide, rfl, zw9 hts, by decide +kernel, by decide +kernel, rfl, by show ∀ k, k < 6 → (zdf 9)[k]? = some (defaultValue (zy9 k)); decide +kernel⟩
set_option maxRecDepth 20000 in
theorem zw10 {s0 : State} {pre : Nat → Nat} {D : va_G} {ca : FieldType → ClassId} (hts : zH s0) : ∀ w ∈ u_ws zR10 zT10 37, xk (zX s0 pre D ca) w := by
  show ∀ w ∈ [u_lay zR10 zT10 0, u_lay zR10 zT10 1, u_lay zR10 zT10 2, u_lay zR10 zT10 3, u_lay zR10 zT10 4, u_lay zR10 zT10 5, u_lay zR10 zT10 6, u_lay zR10 zT10 7, u_lay zR10 zT10 8, u_lay zR10 zT10 9, u_lay zR10 zT10 10, u_lay zR10 zT10 11, u_lay zR10 zT10 12, u_lay zR10 zT10 13, u_lay zR10 zT10 14, u_lay zR10 zT10 15, u_lay zR10 zT10 16, u_lay zR10 zT10 17, u_lay zR10 zT10 18, u_lay zR10 zT10 19, u_lay zR10 zT10 20, u_lay zR10 zT10 21, u_lay zR10 zT10 22, u_lay zR10 zT10 23, u_lay zR10 zT10 24, u_lay zR10 zT10 25, u_lay zR10 zT10 26, u_lay zR10 zT10 27, u_lay zR10 zT10 28, u_lay zR10 zT10 29, u_lay zR10 zT10 30, u_lay zR10 zT10 31, u_lay zR10 zT10 32, u_lay zR10 zT10 33, u_lay zR10 zT10 34, u_lay zR10 zT10 35, u_lay zR10 zT10 36], xk (zX s0 pre D ca) w
  exact List.forall_mem_cons.mpr ⟨(zk hts (zt (i := 938) (by decide +kernel)) (by decide +kernel)),
    List.forall_mem_cons.mpr ⟨(zk hts (zt (i := 940) (by decide +kernel)) (by decide +kernel)),
    List.forall_mem_cons.mpr ⟨(zk hts (zt (i := 942) (by decide +kernel)) (by decide +kernel)),
    List.forall_mem_cons.mpr ⟨(zk hts (zt (i := 944) (by decide +kernel)) (by decide +kernel)),
    List.forall_mem_cons.mpr ⟨(zk hts (zt (i := 946) (by decide +kernel)) (by decide +kernel)),
    List.forall_mem_cons.mpr ⟨(zk hts (zt (i := 948) (by decide +kernel)) (by decide +kernel)),
    List.forall_mem_cons.mpr ⟨(zk hts (zt (i := 950) (by decide +kernel)) (by decide +kernel)),
    List.forall_mem_cons.mpr ⟨(zk hts (zt (i := 952) (by decide +kernel)) (by decide +kernel)),
    List.forall_mem_cons.mpr ⟨(zk hts (zt (i := 954) (by decide +kernel)) (by decide +kernel)),
    List.forall_mem_cons.mpr ⟨(zk hts (zt (i := 956) (by decide +kernel)) (by decide +kernel)),
    List.forall_mem_cons.mpr ⟨(zk hts (zt (i := 958) (by decide +kernel)) (by decide +kernel)),
    List.forall_mem_cons.mpr ⟨(zk hts (zt (i := 960) (by decide +kernel)) (by decide +kernel)),
    List.forall_mem_cons.mpr ⟨(zk hts (zt (i := 962) (by decide +kernel)) (by decide +kernel)),
    List.forall_mem_cons.mpr ⟨(zk hts (zt (i := 964) (by decide +kernel)) (by decide +kernel)),
    List.forall_mem_cons.mpr ⟨(zk hts (zt (i := 966) (by decide +kernel)) (by decide +kernel)),
    List.forall_mem_cons.mpr ⟨(zk hts (zt (i := 968) (by decide +kernel)) (by decide +kernel)),
    List.forall_mem_cons.mpr ⟨(zk hts (zt (i := 970) (by decide +kernel)) (by decide +kernel)),
    List.forall_mem_cons.mpr ⟨(zk hts (zt (i := 972) (by decide +kernel)) (by decide +kernel)),
    List.forall_mem_cons.mpr ⟨(zk hts (zt (i := 974) (by decide +kernel)) (by decide +kernel)),
    List.forall_mem_cons.mpr ⟨(zk hts (zt (i := 976) (by decide +kernel)) (by decide +kernel)),
    List.forall_mem_cons.mpr ⟨(zk hts (zt (i := 978) (by decide +kernel)) (by decide +kernel)),
    List.forall_mem_cons.mpr ⟨(zk hts (zt (i := 980) (by decide +kernel)) (by decide +kernel)),
    List.forall_mem_cons.mpr ⟨(zk hts (zt (i := 982) (by decide +kernel)) (by decide +kernel)),
    List.forall_mem_cons.mpr ⟨(zk hts (zt (i := 984) (by decide +kernel)) (by decide +kernel)),
    List.forall_mem_cons.mpr ⟨(zk hts (zt (i := 986) (by decide +kernel)) (by decide +kernel)),
    List.forall_mem_cons.mpr ⟨(zk hts (zt (i := 988) (by decide +kernel)) (by decide +kernel)),
    List.forall_mem_cons.mpr ⟨(zk hts (zt (i := 990) (by decide +kernel)) (by decide +kernel)),
    List.forall_mem_cons.mpr ⟨(zk hts (zt (i := 992) (by decide +kernel)) (by decide +kernel)),
    List.forall_mem_cons.mpr ⟨(zk hts (zt (i := 994) (by decide +kernel)) (by decide +kernel)),
    List.forall_mem_cons.mpr ⟨(zk hts (zt (i := 996) (by decide +kernel)) (by decide +kernel)),
    List.forall_mem_cons.mpr ⟨(zk hts (zt (i := 998) (by decide +kernel)) (by decide +kernel)),
    List.forall_mem_cons.mpr ⟨(zk hts (zt (i := 1000) (by decide +kernel)) (by decide +kernel)),
    List.forall_mem_cons.mpr ⟨(zk hts (zt (i := 1002) (by decide +kernel)) (by decide +kernel)),
    List.forall_mem_cons.mpr ⟨(zk hts (zt (i := 1004) (by decide +kernel)) (by decide +kernel)),
    List.forall_mem_cons.mpr ⟨(zk hts (zt (i := 1006) (by decide +kernel)) (by decide +kernel)),
    List.forall_mem_cons.mpr ⟨(zk hts (zt (i := 1008) (by decide +kernel)) (by decide +kernel)),
    List.forall_mem_cons.mpr ⟨(zk hts (zt (i := 1010) (by decide +kernel)) (by decide +kernel)),
    fun _ h => nomatch h⟩⟩⟩⟩⟩⟩⟩⟩⟩⟩⟩⟩⟩⟩⟩⟩⟩⟩⟩⟩⟩⟩⟩⟩⟩⟩⟩⟩⟩⟩⟩⟩⟩⟩⟩⟩⟩
theorem zcls10 {s0 : State} {pre : Nat → Nat} {D : va_G} {ca : FieldType → ClassId} (hts : zH s0) : xCls (zX s0 pre D ca) 10 zR10 zT10 37 zy10 := ⟨by decide, rfl, zw10 hts, by decide +kernel, by decide +kernel, rfl, by show ∀ k, k < 37 → (zdf 10)[k]? = some (defaultValue (zy10 k)); decide +kernel⟩
