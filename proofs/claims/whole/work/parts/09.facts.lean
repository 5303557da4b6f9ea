/-! facts that a program lays: links, objects, callees -/
theorem bigm {w : Cond} (i : Nat) (h : lw_tbl[i]? = some w) (g : goodWord w = true) : w ∈ BIG := List.mem_filter.mpr ⟨List.mem_of_getElem? h, g⟩
abbrev AF : AL := (120, 24063, fun _ _ => true)
def rmd (d : Nat) : Room := { frames := d, cells := 0, slots := 0, locals := 100 * d }
set_option maxRecDepth 100000 in
theorem fl_X6_9 : FL RX6 9 6 0 := ⟨_, _, _, rfl, by decide, rfl, bigm 66 (by decide +kernel) rfl⟩
set_option maxRecDepth 100000 in
theorem fl_X6_15 : FL RX6 15 6 1 := ⟨_, _, _, rfl, by decide, rfl, bigm 67 (by decide +kernel) rfl⟩
set_option maxRecDepth 100000 in
theorem fl_X11_112 : FL RX11 112 6 1 := ⟨_, _, _, rfl, by decide, rfl, bigm 68 (by decide +kernel) rfl⟩
set_option maxRecDepth 100000 in
theorem fl_X6_25 : FL RX6 25 6 2 := ⟨_, _, _, rfl, by decide, rfl, bigm 69 (by decide +kernel) rfl⟩
set_option maxRecDepth 100000 in
theorem fl_X11_145 : FL RX11 145 6 2 := ⟨_, _, _, rfl, by decide, rfl, bigm 70 (by decide +kernel) rfl⟩
set_option maxRecDepth 100000 in
theorem fl_X4_9 : FL RX4 9 4 0 := ⟨_, _, _, rfl, by decide, rfl, bigm 95 (by decide +kernel) rfl⟩
set_option maxRecDepth 100000 in
theorem fl_X4_15 : FL RX4 15 4 1 := ⟨_, _, _, rfl, by decide, rfl, bigm 96 (by decide +kernel) rfl⟩
set_option maxRecDepth 100000 in
theorem fl_X10_45 : FL RX10 45 4 1 := ⟨_, _, _, rfl, by decide, rfl, bigm 97 (by decide +kernel) rfl⟩
set_option maxRecDepth 100000 in
theorem fl_X11_173 : FL RX11 173 4 1 := ⟨_, _, _, rfl, by decide, rfl, bigm 98 (by decide +kernel) rfl⟩
set_option maxRecDepth 100000 in
theorem fl_X4_18 : FL RX4 18 4 2 := ⟨_, _, _, rfl, by decide, rfl, bigm 99 (by decide +kernel) rfl⟩
set_option maxRecDepth 100000 in
theorem fl_X9_33 : FL RX9 33 9 0 := ⟨_, _, _, rfl, by decide, rfl, bigm 119 (by decide +kernel) rfl⟩
set_option maxRecDepth 100000 in
theorem fl_X11_119 : FL RX11 119 9 0 := ⟨_, _, _, rfl, by decide, rfl, bigm 120 (by decide +kernel) rfl⟩
set_option maxRecDepth 100000 in
theorem fl_X1_62 : FL RX1 62 9 0 := ⟨_, _, _, rfl, by decide, rfl, bigm 121 (by decide +kernel) rfl⟩
set_option maxRecDepth 100000 in
theorem fl_X9_11 : FL RX9 11 9 1 := ⟨_, _, _, rfl, by decide, rfl, bigm 122 (by decide +kernel) rfl⟩
set_option maxRecDepth 100000 in
theorem fl_X11_122 : FL RX11 122 9 1 := ⟨_, _, _, rfl, by decide, rfl, bigm 123 (by decide +kernel) rfl⟩
set_option maxRecDepth 100000 in
theorem fl_X5_43 : FL RX5 43 9 1 := ⟨_, _, _, rfl, by decide, rfl, bigm 124 (by decide +kernel) rfl⟩
set_option maxRecDepth 100000 in
theorem fl_X9_16 : FL RX9 16 9 2 := ⟨_, _, _, rfl, by decide, rfl, bigm 125 (by decide +kernel) rfl⟩
set_option maxRecDepth 100000 in
theorem fl_X1_67 : FL RX1 67 9 2 := ⟨_, _, _, rfl, by decide, rfl, bigm 126 (by decide +kernel) rfl⟩
set_option maxRecDepth 100000 in
theorem fl_X5_38 : FL RX5 38 9 2 := ⟨_, _, _, rfl, by decide, rfl, bigm 127 (by decide +kernel) rfl⟩
set_option maxRecDepth 100000 in
theorem fl_X11_179 : FL RX11 179 9 2 := ⟨_, _, _, rfl, by decide, rfl, bigm 128 (by decide +kernel) rfl⟩
set_option maxRecDepth 100000 in
theorem fl_X9_19 : FL RX9 19 9 3 := ⟨_, _, _, rfl, by decide, rfl, bigm 129 (by decide +kernel) rfl⟩
set_option maxRecDepth 100000 in
theorem fl_X1_71 : FL RX1 71 9 3 := ⟨_, _, _, rfl, by decide, rfl, bigm 130 (by decide +kernel) rfl⟩
set_option maxRecDepth 100000 in
theorem fl_X11_226 : FL RX11 226 9 3 := ⟨_, _, _, rfl, by decide, rfl, bigm 131 (by decide +kernel) rfl⟩
set_option maxRecDepth 100000 in
theorem fl_X9_23 : FL RX9 23 9 4 := ⟨_, _, _, rfl, by decide, rfl, bigm 132 (by decide +kernel) rfl⟩
set_option maxRecDepth 100000 in
theorem fl_X9_26 : FL RX9 26 9 5 := ⟨_, _, _, rfl, by decide, rfl, bigm 133 (by decide +kernel) rfl⟩
set_option maxRecDepth 100000 in
theorem fl_X5_34 : FL RX5 34 5 0 := ⟨_, _, _, rfl, by decide, rfl, bigm 154 (by decide +kernel) rfl⟩
set_option maxRecDepth 100000 in
theorem fl_X11_137 : FL RX11 137 5 0 := ⟨_, _, _, rfl, by decide, rfl, bigm 155 (by decide +kernel) rfl⟩
set_option maxRecDepth 100000 in
theorem fl_X10_66 : FL RX10 66 5 0 := ⟨_, _, _, rfl, by decide, rfl, bigm 156 (by decide +kernel) rfl⟩
set_option maxRecDepth 100000 in
theorem fl_X5_9 : FL RX5 9 5 1 := ⟨_, _, _, rfl, by decide, rfl, bigm 157 (by decide +kernel) rfl⟩
set_option maxRecDepth 100000 in
theorem fl_X0_27 : FL RX0 27 5 1 := ⟨_, _, _, rfl, by decide, rfl, bigm 158 (by decide +kernel) rfl⟩
set_option maxRecDepth 100000 in
theorem fl_X2_39 : FL RX2 39 5 1 := ⟨_, _, _, rfl, by decide, rfl, bigm 159 (by decide +kernel) rfl⟩
set_option maxRecDepth 100000 in
theorem fl_X11_160 : FL RX11 160 5 1 := ⟨_, _, _, rfl, by decide, rfl, bigm 160 (by decide +kernel) rfl⟩
set_option maxRecDepth 100000 in
theorem fl_X5_17 : FL RX5 17 5 2 := ⟨_, _, _, rfl, by decide, rfl, bigm 161 (by decide +kernel) rfl⟩
set_option maxRecDepth 100000 in
theorem fl_X0_32 : FL RX0 32 5 2 := ⟨_, _, _, rfl, by decide, rfl, bigm 162 (by decide +kernel) rfl⟩
set_option maxRecDepth 100000 in
theorem fl_X11_138 : FL RX11 138 5 2 := ⟨_, _, _, rfl, by decide, rfl, bigm 163 (by decide +kernel) rfl⟩
set_option maxRecDepth 100000 in
theorem fl_X2_44 : FL RX2 44 5 2 := ⟨_, _, _, rfl, by decide, rfl, bigm 164 (by decide +kernel) rfl⟩
set_option maxRecDepth 100000 in
theorem fl_X5_20 : FL RX5 20 5 3 := ⟨_, _, _, rfl, by decide, rfl, bigm 165 (by decide +kernel) rfl⟩
set_option maxRecDepth 100000 in
theorem fl_X10_57 : FL RX10 57 5 3 := ⟨_, _, _, rfl, by decide, rfl, bigm 166 (by decide +kernel) rfl⟩
set_option maxRecDepth 100000 in
theorem fl_X11_170 : FL RX11 170 5 3 := ⟨_, _, _, rfl, by decide, rfl, bigm 167 (by decide +kernel) rfl⟩
set_option maxRecDepth 100000 in
theorem fl_X5_23 : FL RX5 23 5 4 := ⟨_, _, _, rfl, by decide, rfl, bigm 168 (by decide +kernel) rfl⟩
set_option maxRecDepth 100000 in
theorem fl_X5_26 : FL RX5 26 5 5 := ⟨_, _, _, rfl, by decide, rfl, bigm 169 (by decide +kernel) rfl⟩
set_option maxRecDepth 100000 in
theorem fl_X5_30 : FL RX5 30 5 6 := ⟨_, _, _, rfl, by decide, rfl, bigm 170 (by decide +kernel) rfl⟩
set_option maxRecDepth 100000 in
theorem fl_X2_11 : FL RX2 11 2 0 := ⟨_, _, _, rfl, by decide, rfl, bigm 197 (by decide +kernel) rfl⟩
set_option maxRecDepth 100000 in
theorem fl_X11_187 : FL RX11 187 2 0 := ⟨_, _, _, rfl, by decide, rfl, bigm 198 (by decide +kernel) rfl⟩
set_option maxRecDepth 100000 in
theorem fl_X2_16 : FL RX2 16 2 1 := ⟨_, _, _, rfl, by decide, rfl, bigm 199 (by decide +kernel) rfl⟩
set_option maxRecDepth 100000 in
theorem fl_X11_195 : FL RX11 195 2 1 := ⟨_, _, _, rfl, by decide, rfl, bigm 200 (by decide +kernel) rfl⟩
set_option maxRecDepth 100000 in
theorem fl_X2_19 : FL RX2 19 2 2 := ⟨_, _, _, rfl, by decide, rfl, bigm 201 (by decide +kernel) rfl⟩
set_option maxRecDepth 100000 in
theorem fl_X11_198 : FL RX11 198 2 2 := ⟨_, _, _, rfl, by decide, rfl, bigm 202 (by decide +kernel) rfl⟩
set_option maxRecDepth 100000 in
theorem fl_X1_9 : FL RX1 9 1 0 := ⟨_, _, _, rfl, by decide, rfl, bigm 216 (by decide +kernel) rfl⟩
set_option maxRecDepth 100000 in
theorem fl_X11_223 : FL RX11 223 1 0 := ⟨_, _, _, rfl, by decide, rfl, bigm 217 (by decide +kernel) rfl⟩
set_option maxRecDepth 100000 in
theorem fl_X1_49 : FL RX1 49 1 1 := ⟨_, _, _, rfl, by decide, rfl, bigm 218 (by decide +kernel) rfl⟩
set_option maxRecDepth 100000 in
theorem fl_X11_220 : FL RX11 220 1 1 := ⟨_, _, _, rfl, by decide, rfl, bigm 219 (by decide +kernel) rfl⟩
set_option maxRecDepth 100000 in
theorem fl_X1_15 : FL RX1 15 1 2 := ⟨_, _, _, rfl, by decide, rfl, bigm 220 (by decide +kernel) rfl⟩
set_option maxRecDepth 100000 in
theorem fl_X1_18 : FL RX1 18 1 3 := ⟨_, _, _, rfl, by decide, rfl, bigm 221 (by decide +kernel) rfl⟩
set_option maxRecDepth 100000 in
theorem fl_X1_39 : FL RX1 39 1 4 := ⟨_, _, _, rfl, by decide, rfl, bigm 222 (by decide +kernel) rfl⟩
set_option maxRecDepth 100000 in
theorem fl_X1_42 : FL RX1 42 1 5 := ⟨_, _, _, rfl, by decide, rfl, bigm 223 (by decide +kernel) rfl⟩
set_option maxRecDepth 100000 in
theorem fl_X1_35 : FL RX1 35 1 6 := ⟨_, _, _, rfl, by decide, rfl, bigm 224 (by decide +kernel) rfl⟩
set_option maxRecDepth 100000 in
theorem fl_X1_21 : FL RX1 21 1 7 := ⟨_, _, _, rfl, by decide, rfl, bigm 225 (by decide +kernel) rfl⟩
set_option maxRecDepth 100000 in
theorem fl_X1_25 : FL RX1 25 1 8 := ⟨_, _, _, rfl, by decide, rfl, bigm 226 (by decide +kernel) rfl⟩
set_option maxRecDepth 100000 in
theorem fl_X10_33 : FL RX10 33 10 0 := ⟨_, _, _, rfl, by decide, rfl, bigm 252 (by decide +kernel) rfl⟩
set_option maxRecDepth 100000 in
theorem fl_X11_232 : FL RX11 232 10 0 := ⟨_, _, _, rfl, by decide, rfl, bigm 253 (by decide +kernel) rfl⟩
set_option maxRecDepth 100000 in
theorem fl_X10_9 : FL RX10 9 10 1 := ⟨_, _, _, rfl, by decide, rfl, bigm 254 (by decide +kernel) rfl⟩
set_option maxRecDepth 100000 in
theorem fl_X10_15 : FL RX10 15 10 2 := ⟨_, _, _, rfl, by decide, rfl, bigm 255 (by decide +kernel) rfl⟩
set_option maxRecDepth 100000 in
theorem fl_X11_270 : FL RX11 270 10 2 := ⟨_, _, _, rfl, by decide, rfl, bigm 256 (by decide +kernel) rfl⟩
set_option maxRecDepth 100000 in
theorem fl_X10_18 : FL RX10 18 10 3 := ⟨_, _, _, rfl, by decide, rfl, bigm 257 (by decide +kernel) rfl⟩
set_option maxRecDepth 100000 in
theorem fl_X11_263 : FL RX11 263 10 3 := ⟨_, _, _, rfl, by decide, rfl, bigm 258 (by decide +kernel) rfl⟩
set_option maxRecDepth 100000 in
theorem fl_X10_21 : FL RX10 21 10 4 := ⟨_, _, _, rfl, by decide, rfl, bigm 259 (by decide +kernel) rfl⟩
set_option maxRecDepth 100000 in
theorem fl_X10_25 : FL RX10 25 10 5 := ⟨_, _, _, rfl, by decide, rfl, bigm 260 (by decide +kernel) rfl⟩
set_option maxRecDepth 100000 in
theorem fl_X10_29 : FL RX10 29 10 6 := ⟨_, _, _, rfl, by decide, rfl, bigm 261 (by decide +kernel) rfl⟩
set_option maxRecDepth 100000 in
theorem fl_X8_9 : FL RX8 9 8 0 := ⟨_, _, _, rfl, by decide, rfl, bigm 283 (by decide +kernel) rfl⟩
set_option maxRecDepth 100000 in
theorem fl_X10_54 : FL RX10 54 8 0 := ⟨_, _, _, rfl, by decide, rfl, bigm 284 (by decide +kernel) rfl⟩
set_option maxRecDepth 100000 in
theorem fl_X11_244 : FL RX11 244 8 0 := ⟨_, _, _, rfl, by decide, rfl, bigm 285 (by decide +kernel) rfl⟩
set_option maxRecDepth 100000 in
theorem fl_X8_15 : FL RX8 15 8 1 := ⟨_, _, _, rfl, by decide, rfl, bigm 286 (by decide +kernel) rfl⟩
set_option maxRecDepth 100000 in
theorem fl_X10_42 : FL RX10 42 8 1 := ⟨_, _, _, rfl, by decide, rfl, bigm 287 (by decide +kernel) rfl⟩
set_option maxRecDepth 100000 in
theorem fl_X11_240 : FL RX11 240 8 1 := ⟨_, _, _, rfl, by decide, rfl, bigm 288 (by decide +kernel) rfl⟩
set_option maxRecDepth 100000 in
theorem fl_X8_19 : FL RX8 19 8 2 := ⟨_, _, _, rfl, by decide, rfl, bigm 289 (by decide +kernel) rfl⟩
set_option maxRecDepth 100000 in
theorem fl_X10_63 : FL RX10 63 8 2 := ⟨_, _, _, rfl, by decide, rfl, bigm 290 (by decide +kernel) rfl⟩
set_option maxRecDepth 100000 in
theorem fl_X7_15 : FL RX7 15 7 0 := ⟨_, _, _, rfl, by decide, rfl, bigm 304 (by decide +kernel) rfl⟩
set_option maxRecDepth 100000 in
theorem fl_X11_273 : FL RX11 273 7 0 := ⟨_, _, _, rfl, by decide, rfl, bigm 305 (by decide +kernel) rfl⟩
set_option maxRecDepth 100000 in
theorem fl_X7_9 : FL RX7 9 7 1 := ⟨_, _, _, rfl, by decide, rfl, bigm 306 (by decide +kernel) rfl⟩
set_option maxRecDepth 100000 in
theorem fl_X0_23 : FL RX0 23 0 0 := ⟨_, _, _, rfl, by decide, rfl, bigm 318 (by decide +kernel) rfl⟩
set_option maxRecDepth 100000 in
theorem fl_X11_282 : FL RX11 282 0 0 := ⟨_, _, _, rfl, by decide, rfl, bigm 319 (by decide +kernel) rfl⟩
set_option maxRecDepth 100000 in
theorem fl_X0_9 : FL RX0 9 0 1 := ⟨_, _, _, rfl, by decide, rfl, bigm 320 (by decide +kernel) rfl⟩
set_option maxRecDepth 100000 in
theorem fl_X0_15 : FL RX0 15 0 2 := ⟨_, _, _, rfl, by decide, rfl, bigm 321 (by decide +kernel) rfl⟩
set_option maxRecDepth 100000 in
theorem fl_X0_19 : FL RX0 19 0 3 := ⟨_, _, _, rfl, by decide, rfl, bigm 322 (by decide +kernel) rfl⟩
set_option maxRecDepth 100000 in
theorem fl_X11_290 : FL RX11 290 3 0 := ⟨_, _, _, rfl, by decide, rfl, bigm 340 (by decide +kernel) rfl⟩
set_option maxRecDepth 100000 in
theorem fl_X11_294 : FL RX11 294 3 1 := ⟨_, _, _, rfl, by decide, rfl, bigm 341 (by decide +kernel) rfl⟩
set_option maxRecDepth 100000 in
theorem fl_X11_296 : FL RX11 296 3 2 := ⟨_, _, _, rfl, by decide, rfl, bigm 342 (by decide +kernel) rfl⟩
set_option maxRecDepth 100000 in
theorem fl_X11_298 : FL RX11 298 3 3 := ⟨_, _, _, rfl, by decide, rfl, bigm 343 (by decide +kernel) rfl⟩
set_option maxRecDepth 100000 in
theorem fl_X11_301 : FL RX11 301 3 4 := ⟨_, _, _, rfl, by decide, rfl, bigm 344 (by decide +kernel) rfl⟩
set_option maxRecDepth 100000 in
theorem fl_X3_12 : FL RX3 12 3 5 := ⟨_, _, _, rfl, by decide, rfl, bigm 345 (by decide +kernel) rfl⟩
set_option maxRecDepth 100000 in
theorem fl_X11_304 : FL RX11 304 3 5 := ⟨_, _, _, rfl, by decide, rfl, bigm 346 (by decide +kernel) rfl⟩
set_option maxRecDepth 100000 in
theorem fl_X3_18 : FL RX3 18 3 6 := ⟨_, _, _, rfl, by decide, rfl, bigm 347 (by decide +kernel) rfl⟩
set_option maxRecDepth 100000 in
theorem fl_X11_309 : FL RX11 309 3 6 := ⟨_, _, _, rfl, by decide, rfl, bigm 348 (by decide +kernel) rfl⟩
set_option maxRecDepth 100000 in
theorem fl_X11_12 : FL RX11 12 11 0 := ⟨_, _, _, rfl, by decide, rfl, bigm 364 (by decide +kernel) rfl⟩
set_option maxRecDepth 100000 in
theorem fl_X11_19 : FL RX11 19 11 1 := ⟨_, _, _, rfl, by decide, rfl, bigm 365 (by decide +kernel) rfl⟩
set_option maxRecDepth 100000 in
theorem fl_X11_28 : FL RX11 28 11 2 := ⟨_, _, _, rfl, by decide, rfl, bigm 366 (by decide +kernel) rfl⟩
set_option maxRecDepth 100000 in
theorem fl_X11_37 : FL RX11 37 11 3 := ⟨_, _, _, rfl, by decide, rfl, bigm 367 (by decide +kernel) rfl⟩
set_option maxRecDepth 100000 in
theorem fl_X11_44 : FL RX11 44 11 4 := ⟨_, _, _, rfl, by decide, rfl, bigm 368 (by decide +kernel) rfl⟩
set_option maxRecDepth 100000 in
theorem fl_X11_53 : FL RX11 53 11 5 := ⟨_, _, _, rfl, by decide, rfl, bigm 369 (by decide +kernel) rfl⟩
set_option maxRecDepth 100000 in
theorem fl_X11_62 : FL RX11 62 11 6 := ⟨_, _, _, rfl, by decide, rfl, bigm 370 (by decide +kernel) rfl⟩
set_option maxRecDepth 100000 in
theorem fl_X11_69 : FL RX11 69 11 7 := ⟨_, _, _, rfl, by decide, rfl, bigm 371 (by decide +kernel) rfl⟩
set_option maxRecDepth 100000 in
theorem fl_X11_76 : FL RX11 76 11 8 := ⟨_, _, _, rfl, by decide, rfl, bigm 372 (by decide +kernel) rfl⟩
set_option maxRecDepth 100000 in
theorem fl_X11_85 : FL RX11 85 11 9 := ⟨_, _, _, rfl, by decide, rfl, bigm 373 (by decide +kernel) rfl⟩
set_option maxRecDepth 100000 in
theorem fl_X11_92 : FL RX11 92 11 10 := ⟨_, _, _, rfl, by decide, rfl, bigm 374 (by decide +kernel) rfl⟩
set_option maxRecDepth 100000 in
theorem fl_X11_96 : FL RX11 96 11 11 := ⟨_, _, _, rfl, by decide, rfl, bigm 375 (by decide +kernel) rfl⟩
set_option maxRecDepth 100000 in
theorem fl_X11_100 : FL RX11 100 11 12 := ⟨_, _, _, rfl, by decide, rfl, bigm 376 (by decide +kernel) rfl⟩
set_option maxRecDepth 100000 in
theorem fl_X12_7 : FL RX12 7 12 0 := ⟨_, _, _, rfl, by decide, rfl, bigm 797 (by decide +kernel) rfl⟩
set_option maxRecDepth 100000 in
theorem fl_X12_13 : FL RX12 13 12 1 := ⟨_, _, _, rfl, by decide, rfl, bigm 798 (by decide +kernel) rfl⟩
set_option maxRecDepth 100000 in
theorem fl_X12_16 : FL RX12 16 12 2 := ⟨_, _, _, rfl, by decide, rfl, bigm 799 (by decide +kernel) rfl⟩
set_option maxRecDepth 100000 in
theorem fl_X12_214 : FL RX12 214 12 3 := ⟨_, _, _, rfl, by decide, rfl, bigm 800 (by decide +kernel) rfl⟩
set_option maxRecDepth 100000 in
theorem fl_X12_19 : FL RX12 19 12 4 := ⟨_, _, _, rfl, by decide, rfl, bigm 801 (by decide +kernel) rfl⟩
set_option maxRecDepth 100000 in
theorem fl_X12_22 : FL RX12 22 12 5 := ⟨_, _, _, rfl, by decide, rfl, bigm 802 (by decide +kernel) rfl⟩
set_option maxRecDepth 100000 in
theorem fl_X12_69 : FL RX12 69 12 6 := ⟨_, _, _, rfl, by decide, rfl, bigm 803 (by decide +kernel) rfl⟩
set_option maxRecDepth 100000 in
theorem fl_X12_75 : FL RX12 75 12 7 := ⟨_, _, _, rfl, by decide, rfl, bigm 804 (by decide +kernel) rfl⟩
set_option maxRecDepth 100000 in
theorem fl_X12_82 : FL RX12 82 12 8 := ⟨_, _, _, rfl, by decide, rfl, bigm 805 (by decide +kernel) rfl⟩
set_option maxRecDepth 100000 in
theorem fl_X12_25 : FL RX12 25 12 9 := ⟨_, _, _, rfl, by decide, rfl, bigm 806 (by decide +kernel) rfl⟩
set_option maxRecDepth 100000 in
theorem fl_X12_28 : FL RX12 28 12 10 := ⟨_, _, _, rfl, by decide, rfl, bigm 807 (by decide +kernel) rfl⟩
set_option maxRecDepth 100000 in
theorem fl_X12_31 : FL RX12 31 12 11 := ⟨_, _, _, rfl, by decide, rfl, bigm 808 (by decide +kernel) rfl⟩
set_option maxRecDepth 100000 in
theorem fl_X12_34 : FL RX12 34 12 12 := ⟨_, _, _, rfl, by decide, rfl, bigm 809 (by decide +kernel) rfl⟩
set_option maxRecDepth 100000 in
theorem fl_X12_37 : FL RX12 37 12 13 := ⟨_, _, _, rfl, by decide, rfl, bigm 810 (by decide +kernel) rfl⟩
set_option maxRecDepth 100000 in
theorem fl_X12_162 : FL RX12 162 12 14 := ⟨_, _, _, rfl, by decide, rfl, bigm 811 (by decide +kernel) rfl⟩
set_option maxRecDepth 100000 in
theorem fl_X12_155 : FL RX12 155 12 15 := ⟨_, _, _, rfl, by decide, rfl, bigm 812 (by decide +kernel) rfl⟩
set_option maxRecDepth 100000 in
theorem fl_X12_152 : FL RX12 152 12 16 := ⟨_, _, _, rfl, by decide, rfl, bigm 813 (by decide +kernel) rfl⟩
set_option maxRecDepth 100000 in
theorem fl_X12_40 : FL RX12 40 12 17 := ⟨_, _, _, rfl, by decide, rfl, bigm 814 (by decide +kernel) rfl⟩
set_option maxRecDepth 100000 in
theorem fl_X12_43 : FL RX12 43 12 18 := ⟨_, _, _, rfl, by decide, rfl, bigm 815 (by decide +kernel) rfl⟩
set_option maxRecDepth 100000 in
theorem fl_X12_46 : FL RX12 46 12 19 := ⟨_, _, _, rfl, by decide, rfl, bigm 816 (by decide +kernel) rfl⟩
set_option maxRecDepth 100000 in
theorem fl_X12_49 : FL RX12 49 12 20 := ⟨_, _, _, rfl, by decide, rfl, bigm 817 (by decide +kernel) rfl⟩
set_option maxRecDepth 100000 in
theorem fl_X12_52 : FL RX12 52 12 21 := ⟨_, _, _, rfl, by decide, rfl, bigm 818 (by decide +kernel) rfl⟩
set_option maxRecDepth 100000 in
theorem fl_X12_178 : FL RX12 178 12 22 := ⟨_, _, _, rfl, by decide, rfl, bigm 819 (by decide +kernel) rfl⟩
set_option maxRecDepth 100000 in
theorem fl_X12_55 : FL RX12 55 12 23 := ⟨_, _, _, rfl, by decide, rfl, bigm 820 (by decide +kernel) rfl⟩
set_option maxRecDepth 100000 in
theorem fl_X12_205 : FL RX12 205 12 24 := ⟨_, _, _, rfl, by decide, rfl, bigm 821 (by decide +kernel) rfl⟩
set_option maxRecDepth 100000 in
theorem fl_X12_58 : FL RX12 58 12 25 := ⟨_, _, _, rfl, by decide, rfl, bigm 822 (by decide +kernel) rfl⟩
set_option maxRecDepth 100000 in
theorem fl_X12_211 : FL RX12 211 12 26 := ⟨_, _, _, rfl, by decide, rfl, bigm 823 (by decide +kernel) rfl⟩
theorem or_0_0 : OR 0 11 0 1 := ⟨rfl, by decide, rfl, by decide⟩
theorem or_0_1 : OR 0 11 1 3 := ⟨rfl, by decide, rfl, by decide⟩
theorem or_0_2 : OR 0 11 2 7 := ⟨rfl, by decide, rfl, by decide⟩
theorem or_0_3 : OR 0 11 3 36 := ⟨rfl, by decide, rfl, by decide⟩
theorem or_0_4 : OR 0 11 4 61 := ⟨rfl, by decide, rfl, by decide⟩
theorem or_0_5 : OR 0 11 5 73 := ⟨rfl, by decide, rfl, by decide⟩
theorem or_0_6 : OR 0 11 6 77 := ⟨rfl, by decide, rfl, by decide⟩
theorem or_0_7 : OR 0 11 7 81 := ⟨rfl, by decide, rfl, by decide⟩
theorem or_0_8 : OR 0 11 8 83 := ⟨rfl, by decide, rfl, by decide⟩
theorem or_0_9 : OR 0 11 9 85 := ⟨rfl, by decide, rfl, by decide⟩
theorem or_0_10 : OR 0 11 10 87 := ⟨rfl, by decide, rfl, by decide⟩
theorem or_0_11 : OR 0 11 11 101 := ⟨rfl, by decide, rfl, by decide⟩
theorem oi_0_12 : OI 0 11 12 := ⟨rfl, by decide, rfl, by decide⟩
theorem or_1_0 : OR 1 6 0 2 := ⟨rfl, by decide, rfl, by decide⟩
theorem oi_1_1 : OI 1 6 1 := ⟨rfl, by decide, rfl, by decide⟩
theorem oi_1_2 : OI 1 6 2 := ⟨rfl, by decide, rfl, by decide⟩
theorem ia_2 : IA 2 16 := ⟨rfl, rfl, by decide⟩
theorem or_3_0 : OR 3 4 0 4 := ⟨rfl, by decide, rfl, by decide⟩
theorem or_3_1 : OR 3 4 1 5 := ⟨rfl, by decide, rfl, by decide⟩
theorem or_3_2 : OR 3 4 2 6 := ⟨rfl, by decide, rfl, by decide⟩
theorem ia_4 : IA 4 4320 := ⟨rfl, rfl, by decide⟩
theorem ia_5 : IA 5 720 := ⟨rfl, rfl, by decide⟩
theorem ia_6 : IA 6 6 := ⟨rfl, rfl, by decide⟩
theorem oi_7_0 : OI 7 9 0 := ⟨rfl, by decide, rfl, by decide⟩
theorem or_7_1 : OR 7 9 1 8 := ⟨rfl, by decide, rfl, by decide⟩
theorem or_7_2 : OR 7 9 2 21 := ⟨rfl, by decide, rfl, by decide⟩
theorem or_7_3 : OR 7 9 3 34 := ⟨rfl, by decide, rfl, by decide⟩
theorem or_7_4 : OR 7 9 4 35 := ⟨rfl, by decide, rfl, by decide⟩
theorem or_7_5 : OR 7 9 5 3 := ⟨rfl, by decide, rfl, by decide⟩
theorem ig_8 : IG 8 12 := ⟨rfl, rfl, by decide⟩
set_option maxRecDepth 100000 in
theorem gi_8 : ∀ j, j < 12 → IA (8 + 1 + j) 6 := by unfold IA; decide +kernel
theorem gl_8 : ∀ j, j < 12 → 8 + 1 + j < AF.1 := fun j h => by show 8 + 1 + j < 120; omega
theorem ia_9 : IA 9 6 := ⟨rfl, rfl, by decide⟩
theorem ia_10 : IA 10 6 := ⟨rfl, rfl, by decide⟩
theorem ia_11 : IA 11 6 := ⟨rfl, rfl, by decide⟩
theorem ia_12 : IA 12 6 := ⟨rfl, rfl, by decide⟩
theorem ia_13 : IA 13 6 := ⟨rfl, rfl, by decide⟩
theorem ia_14 : IA 14 6 := ⟨rfl, rfl, by decide⟩
theorem ia_15 : IA 15 6 := ⟨rfl, rfl, by decide⟩
theorem ia_16 : IA 16 6 := ⟨rfl, rfl, by decide⟩
theorem ia_17 : IA 17 6 := ⟨rfl, rfl, by decide⟩
theorem ia_18 : IA 18 6 := ⟨rfl, rfl, by decide⟩
theorem ia_19 : IA 19 6 := ⟨rfl, rfl, by decide⟩
theorem ia_20 : IA 20 6 := ⟨rfl, rfl, by decide⟩
theorem ig_21 : IG 21 12 := ⟨rfl, rfl, by decide⟩
set_option maxRecDepth 100000 in
theorem gi_21 : ∀ j, j < 12 → IA (21 + 1 + j) 720 := by unfold IA; decide +kernel
theorem gl_21 : ∀ j, j < 12 → 21 + 1 + j < AF.1 := fun j h => by show 21 + 1 + j < 120; omega
theorem ia_22 : IA 22 720 := ⟨rfl, rfl, by decide⟩
theorem ia_23 : IA 23 720 := ⟨rfl, rfl, by decide⟩
theorem ia_24 : IA 24 720 := ⟨rfl, rfl, by decide⟩
theorem ia_25 : IA 25 720 := ⟨rfl, rfl, by decide⟩
theorem ia_26 : IA 26 720 := ⟨rfl, rfl, by decide⟩
theorem ia_27 : IA 27 720 := ⟨rfl, rfl, by decide⟩
theorem ia_28 : IA 28 720 := ⟨rfl, rfl, by decide⟩
theorem ia_29 : IA 29 720 := ⟨rfl, rfl, by decide⟩
theorem ia_30 : IA 30 720 := ⟨rfl, rfl, by decide⟩
theorem ia_31 : IA 31 720 := ⟨rfl, rfl, by decide⟩
theorem ia_32 : IA 32 720 := ⟨rfl, rfl, by decide⟩
theorem ia_33 : IA 33 720 := ⟨rfl, rfl, by decide⟩
theorem ia_34 : IA 34 720 := ⟨rfl, rfl, by decide⟩
theorem ia_35 : IA 35 720 := ⟨rfl, rfl, by decide⟩
theorem oi_36_0 : OI 36 5 0 := ⟨rfl, by decide, rfl, by decide⟩
theorem or_36_1 : OR 36 5 1 37 := ⟨rfl, by decide, rfl, by decide⟩
theorem or_36_2 : OR 36 5 2 38 := ⟨rfl, by decide, rfl, by decide⟩
theorem or_36_3 : OR 36 5 3 49 := ⟨rfl, by decide, rfl, by decide⟩
theorem or_36_4 : OR 36 5 4 60 := ⟨rfl, by decide, rfl, by decide⟩
theorem or_36_5 : OR 36 5 5 7 := ⟨rfl, by decide, rfl, by decide⟩
theorem or_36_6 : OR 36 5 6 3 := ⟨rfl, by decide, rfl, by decide⟩
theorem ia_37 : IA 37 10 := ⟨rfl, rfl, by decide⟩
theorem ig_38 : IG 38 10 := ⟨rfl, rfl, by decide⟩
set_option maxRecDepth 100000 in
theorem gi_38 : ∀ j, j < 10 → IA (38 + 1 + j) 8 := by unfold IA; decide +kernel
theorem gl_38 : ∀ j, j < 10 → 38 + 1 + j < AF.1 := fun j h => by show 38 + 1 + j < 120; omega
theorem ia_39 : IA 39 8 := ⟨rfl, rfl, by decide⟩
theorem ia_40 : IA 40 8 := ⟨rfl, rfl, by decide⟩
theorem ia_41 : IA 41 8 := ⟨rfl, rfl, by decide⟩
theorem ia_42 : IA 42 8 := ⟨rfl, rfl, by decide⟩
theorem ia_43 : IA 43 8 := ⟨rfl, rfl, by decide⟩
theorem ia_44 : IA 44 8 := ⟨rfl, rfl, by decide⟩
theorem ia_45 : IA 45 8 := ⟨rfl, rfl, by decide⟩
theorem ia_46 : IA 46 8 := ⟨rfl, rfl, by decide⟩
theorem ia_47 : IA 47 8 := ⟨rfl, rfl, by decide⟩
theorem ia_48 : IA 48 8 := ⟨rfl, rfl, by decide⟩
theorem ig_49 : IG 49 10 := ⟨rfl, rfl, by decide⟩
set_option maxRecDepth 100000 in
theorem gi_49 : ∀ j, j < 10 → IA (49 + 1 + j) 720 := by unfold IA; decide +kernel
theorem gl_49 : ∀ j, j < 10 → 49 + 1 + j < AF.1 := fun j h => by show 49 + 1 + j < 120; omega
theorem ia_50 : IA 50 720 := ⟨rfl, rfl, by decide⟩
theorem ia_51 : IA 51 720 := ⟨rfl, rfl, by decide⟩
theorem ia_52 : IA 52 720 := ⟨rfl, rfl, by decide⟩
theorem ia_53 : IA 53 720 := ⟨rfl, rfl, by decide⟩
theorem ia_54 : IA 54 720 := ⟨rfl, rfl, by decide⟩
theorem ia_55 : IA 55 720 := ⟨rfl, rfl, by decide⟩
theorem ia_56 : IA 56 720 := ⟨rfl, rfl, by decide⟩
theorem ia_57 : IA 57 720 := ⟨rfl, rfl, by decide⟩
theorem ia_58 : IA 58 720 := ⟨rfl, rfl, by decide⟩
theorem ia_59 : IA 59 720 := ⟨rfl, rfl, by decide⟩
theorem ia_60 : IA 60 6 := ⟨rfl, rfl, by decide⟩
theorem or_61_0 : OR 61 2 0 62 := ⟨rfl, by decide, rfl, by decide⟩
theorem or_61_1 : OR 61 2 1 65 := ⟨rfl, by decide, rfl, by decide⟩
theorem or_61_2 : OR 61 2 2 72 := ⟨rfl, by decide, rfl, by decide⟩
theorem ig_62 : IG 62 2 := ⟨rfl, rfl, by decide⟩
set_option maxRecDepth 100000 in
theorem gi_62 : ∀ j, j < 2 → IA (62 + 1 + j) 6 := by unfold IA; decide +kernel
theorem gl_62 : ∀ j, j < 2 → 62 + 1 + j < AF.1 := fun j h => by show 62 + 1 + j < 120; omega
theorem ia_63 : IA 63 6 := ⟨rfl, rfl, by decide⟩
theorem ia_64 : IA 64 6 := ⟨rfl, rfl, by decide⟩
theorem ig_65 : IG 65 6 := ⟨rfl, rfl, by decide⟩
set_option maxRecDepth 100000 in
theorem gi_65 : ∀ j, j < 6 → IA (65 + 1 + j) 6 := by unfold IA; decide +kernel
theorem gl_65 : ∀ j, j < 6 → 65 + 1 + j < AF.1 := fun j h => by show 65 + 1 + j < 120; omega
theorem ia_66 : IA 66 6 := ⟨rfl, rfl, by decide⟩
theorem ia_67 : IA 67 6 := ⟨rfl, rfl, by decide⟩
theorem ia_68 : IA 68 6 := ⟨rfl, rfl, by decide⟩
theorem ia_69 : IA 69 6 := ⟨rfl, rfl, by decide⟩
theorem ia_70 : IA 70 6 := ⟨rfl, rfl, by decide⟩
theorem ia_71 : IA 71 6 := ⟨rfl, rfl, by decide⟩
theorem ia_72 : IA 72 2 := ⟨rfl, rfl, by decide⟩
theorem or_73_0 : OR 73 1 0 74 := ⟨rfl, by decide, rfl, by decide⟩
theorem oi_73_1 : OI 73 1 1 := ⟨rfl, by decide, rfl, by decide⟩
theorem or_73_2 : OR 73 1 2 75 := ⟨rfl, by decide, rfl, by decide⟩
theorem or_73_3 : OR 73 1 3 76 := ⟨rfl, by decide, rfl, by decide⟩
theorem oi_73_4 : OI 73 1 4 := ⟨rfl, by decide, rfl, by decide⟩
theorem oi_73_5 : OI 73 1 5 := ⟨rfl, by decide, rfl, by decide⟩
theorem oi_73_6 : OI 73 1 6 := ⟨rfl, by decide, rfl, by decide⟩
theorem or_73_7 : OR 73 1 7 7 := ⟨rfl, by decide, rfl, by decide⟩
theorem or_73_8 : OR 73 1 8 61 := ⟨rfl, by decide, rfl, by decide⟩
theorem ia_74 : IA 74 5 := ⟨rfl, rfl, by decide⟩
theorem ia_75 : IA 75 5 := ⟨rfl, rfl, by decide⟩
theorem ia_76 : IA 76 5 := ⟨rfl, rfl, by decide⟩
theorem oi_77_0 : OI 77 10 0 := ⟨rfl, by decide, rfl, by decide⟩
theorem or_77_1 : OR 77 10 1 78 := ⟨rfl, by decide, rfl, by decide⟩
theorem or_77_2 : OR 77 10 2 79 := ⟨rfl, by decide, rfl, by decide⟩
theorem or_77_3 : OR 77 10 3 80 := ⟨rfl, by decide, rfl, by decide⟩
theorem or_77_4 : OR 77 10 4 3 := ⟨rfl, by decide, rfl, by decide⟩
theorem or_77_5 : OR 77 10 5 36 := ⟨rfl, by decide, rfl, by decide⟩
theorem or_77_6 : OR 77 10 6 61 := ⟨rfl, by decide, rfl, by decide⟩
theorem ia_78 : IA 78 4 := ⟨rfl, rfl, by decide⟩
theorem ia_79 : IA 79 4 := ⟨rfl, rfl, by decide⟩
theorem ia_80 : IA 80 4 := ⟨rfl, rfl, by decide⟩
theorem or_81_0 : OR 81 8 0 82 := ⟨rfl, by decide, rfl, by decide⟩
theorem oi_81_1 : OI 81 8 1 := ⟨rfl, by decide, rfl, by decide⟩
theorem oi_81_2 : OI 81 8 2 := ⟨rfl, by decide, rfl, by decide⟩
theorem ia_82 : IA 82 4 := ⟨rfl, rfl, by decide⟩
theorem oi_83_0 : OI 83 7 0 := ⟨rfl, by decide, rfl, by decide⟩
theorem or_83_1 : OR 83 7 1 84 := ⟨rfl, by decide, rfl, by decide⟩
theorem ia_84 : IA 84 5 := ⟨rfl, rfl, by decide⟩
theorem oi_85_0 : OI 85 0 0 := ⟨rfl, by decide, rfl, by decide⟩
theorem or_85_1 : OR 85 0 1 86 := ⟨rfl, by decide, rfl, by decide⟩
theorem or_85_2 : OR 85 0 2 36 := ⟨rfl, by decide, rfl, by decide⟩
theorem or_85_3 : OR 85 0 3 61 := ⟨rfl, by decide, rfl, by decide⟩
theorem ia_86 : IA 86 8 := ⟨rfl, rfl, by decide⟩
theorem oi_87_0 : OI 87 3 0 := ⟨rfl, by decide, rfl, by decide⟩
theorem oi_87_1 : OI 87 3 1 := ⟨rfl, by decide, rfl, by decide⟩
theorem oi_87_2 : OI 87 3 2 := ⟨rfl, by decide, rfl, by decide⟩
theorem oi_87_3 : OI 87 3 3 := ⟨rfl, by decide, rfl, by decide⟩
theorem oi_87_4 : OI 87 3 4 := ⟨rfl, by decide, rfl, by decide⟩
theorem or_87_5 : OR 87 3 5 88 := ⟨rfl, by decide, rfl, by decide⟩
theorem or_87_6 : OR 87 3 6 100 := ⟨rfl, by decide, rfl, by decide⟩
theorem or_88_0 : OR 88 2 0 89 := ⟨rfl, by decide, rfl, by decide⟩
theorem or_88_1 : OR 88 2 1 92 := ⟨rfl, by decide, rfl, by decide⟩
theorem or_88_2 : OR 88 2 2 99 := ⟨rfl, by decide, rfl, by decide⟩
theorem ig_89 : IG 89 2 := ⟨rfl, rfl, by decide⟩
set_option maxRecDepth 100000 in
theorem gi_89 : ∀ j, j < 2 → IA (89 + 1 + j) 6 := by unfold IA; decide +kernel
theorem gl_89 : ∀ j, j < 2 → 89 + 1 + j < AF.1 := fun j h => by show 89 + 1 + j < 120; omega
theorem ia_90 : IA 90 6 := ⟨rfl, rfl, by decide⟩
theorem ia_91 : IA 91 6 := ⟨rfl, rfl, by decide⟩
theorem ig_92 : IG 92 6 := ⟨rfl, rfl, by decide⟩
set_option maxRecDepth 100000 in
theorem gi_92 : ∀ j, j < 6 → IA (92 + 1 + j) 6 := by unfold IA; decide +kernel
theorem gl_92 : ∀ j, j < 6 → 92 + 1 + j < AF.1 := fun j h => by show 92 + 1 + j < 120; omega
theorem ia_93 : IA 93 6 := ⟨rfl, rfl, by decide⟩
theorem ia_94 : IA 94 6 := ⟨rfl, rfl, by decide⟩
theorem ia_95 : IA 95 6 := ⟨rfl, rfl, by decide⟩
theorem ia_96 : IA 96 6 := ⟨rfl, rfl, by decide⟩
theorem ia_97 : IA 97 6 := ⟨rfl, rfl, by decide⟩
theorem ia_98 : IA 98 6 := ⟨rfl, rfl, by decide⟩
theorem ia_99 : IA 99 2 := ⟨rfl, rfl, by decide⟩
theorem ia_100 : IA 100 4 := ⟨rfl, rfl, by decide⟩
theorem ia_101 : IA 101 7 := ⟨rfl, rfl, by decide⟩
theorem or_102_0 : OR 102 12 0 103 := ⟨rfl, by decide, rfl, by decide⟩
theorem or_102_1 : OR 102 12 1 104 := ⟨rfl, by decide, rfl, by decide⟩
theorem or_102_2 : OR 102 12 2 105 := ⟨rfl, by decide, rfl, by decide⟩
theorem oi_102_3 : OI 102 12 3 := ⟨rfl, by decide, rfl, by decide⟩
theorem or_102_4 : OR 102 12 4 106 := ⟨rfl, by decide, rfl, by decide⟩
theorem or_102_5 : OR 102 12 5 107 := ⟨rfl, by decide, rfl, by decide⟩
theorem oi_102_6 : OI 102 12 6 := ⟨rfl, by decide, rfl, by decide⟩
theorem oi_102_7 : OI 102 12 7 := ⟨rfl, by decide, rfl, by decide⟩
theorem oi_102_8 : OI 102 12 8 := ⟨rfl, by decide, rfl, by decide⟩
theorem or_102_9 : OR 102 12 9 108 := ⟨rfl, by decide, rfl, by decide⟩
theorem or_102_10 : OR 102 12 10 109 := ⟨rfl, by decide, rfl, by decide⟩
theorem or_102_11 : OR 102 12 11 110 := ⟨rfl, by decide, rfl, by decide⟩
theorem or_102_12 : OR 102 12 12 111 := ⟨rfl, by decide, rfl, by decide⟩
theorem or_102_13 : OR 102 12 13 112 := ⟨rfl, by decide, rfl, by decide⟩
theorem oi_102_14 : OI 102 12 14 := ⟨rfl, by decide, rfl, by decide⟩
theorem oi_102_15 : OI 102 12 15 := ⟨rfl, by decide, rfl, by decide⟩
theorem oi_102_16 : OI 102 12 16 := ⟨rfl, by decide, rfl, by decide⟩
theorem or_102_17 : OR 102 12 17 113 := ⟨rfl, by decide, rfl, by decide⟩
theorem or_102_18 : OR 102 12 18 114 := ⟨rfl, by decide, rfl, by decide⟩
theorem or_102_19 : OR 102 12 19 115 := ⟨rfl, by decide, rfl, by decide⟩
theorem or_102_20 : OR 102 12 20 116 := ⟨rfl, by decide, rfl, by decide⟩
theorem or_102_21 : OR 102 12 21 117 := ⟨rfl, by decide, rfl, by decide⟩
theorem oi_102_22 : OI 102 12 22 := ⟨rfl, by decide, rfl, by decide⟩
theorem or_102_23 : OR 102 12 23 118 := ⟨rfl, by decide, rfl, by decide⟩
theorem oi_102_24 : OI 102 12 24 := ⟨rfl, by decide, rfl, by decide⟩
theorem or_102_25 : OR 102 12 25 119 := ⟨rfl, by decide, rfl, by decide⟩
theorem oi_102_26 : OI 102 12 26 := ⟨rfl, by decide, rfl, by decide⟩
theorem ia_103 : IA 103 7 := ⟨rfl, rfl, by decide⟩
theorem ia_104 : IA 104 197 := ⟨rfl, rfl, by decide⟩
theorem ia_105 : IA 105 197 := ⟨rfl, rfl, by decide⟩
theorem ia_106 : IA 106 16 := ⟨rfl, rfl, by decide⟩
theorem ia_107 : IA 107 9 := ⟨rfl, rfl, by decide⟩
theorem ia_108 : IA 108 6 := ⟨rfl, rfl, by decide⟩
theorem ia_109 : IA 109 6 := ⟨rfl, rfl, by decide⟩
theorem ia_110 : IA 110 6 := ⟨rfl, rfl, by decide⟩
theorem ia_111 : IA 111 6 := ⟨rfl, rfl, by decide⟩
theorem ia_112 : IA 112 36 := ⟨rfl, rfl, by decide⟩
theorem ia_113 : IA 113 720 := ⟨rfl, rfl, by decide⟩
theorem ia_114 : IA 114 6 := ⟨rfl, rfl, by decide⟩
theorem ia_115 : IA 115 6 := ⟨rfl, rfl, by decide⟩
theorem ia_116 : IA 116 6 := ⟨rfl, rfl, by decide⟩
theorem ia_117 : IA 117 4 := ⟨rfl, rfl, by decide⟩
theorem ia_118 : IA 118 5 := ⟨rfl, rfl, by decide⟩
theorem ia_119 : IA 119 8 := ⟨rfl, rfl, by decide⟩
set_option maxRecDepth 100000 in
theorem fp_0_0 (v : Int32) : FP 0 0 v := ⟨_, _, _, .int, rfl, rfl, by decide +kernel, rfl, rfl⟩
set_option maxRecDepth 100000 in
theorem fp_1_1 (v : Int32) : FP 1 1 v := ⟨_, _, _, .int, rfl, rfl, by decide +kernel, rfl, rfl⟩
set_option maxRecDepth 100000 in
theorem fp_1_4 (v : Int32) : FP 1 4 v := ⟨_, _, _, .int, rfl, rfl, by decide +kernel, rfl, rfl⟩
set_option maxRecDepth 100000 in
theorem fp_1_5 (v : Int32) : FP 1 5 v := ⟨_, _, _, .int, rfl, rfl, by decide +kernel, rfl, rfl⟩
set_option maxRecDepth 100000 in
theorem fp_1_6 (v : Int32) : FP 1 6 v := ⟨_, _, _, .int, rfl, rfl, by decide +kernel, rfl, rfl⟩
set_option maxRecDepth 100000 in
theorem fp_3_0_0 : FP 3 0 (nI 0) := ⟨_, _, _, .boolean, rfl, rfl, by decide +kernel, by decide +kernel, by decide +kernel⟩
set_option maxRecDepth 100000 in
theorem fp_3_0_1 : FP 3 0 (nI 1) := ⟨_, _, _, .boolean, rfl, rfl, by decide +kernel, by decide +kernel, by decide +kernel⟩
set_option maxRecDepth 100000 in
theorem fp_3_1 (v : Int32) : FP 3 1 v := ⟨_, _, _, .int, rfl, rfl, by decide +kernel, rfl, rfl⟩
set_option maxRecDepth 100000 in
theorem fp_3_2 (v : Int32) : FP 3 2 v := ⟨_, _, _, .int, rfl, rfl, by decide +kernel, rfl, rfl⟩
set_option maxRecDepth 100000 in
theorem fp_3_3 (v : Int32) : FP 3 3 v := ⟨_, _, _, .int, rfl, rfl, by decide +kernel, rfl, rfl⟩
set_option maxRecDepth 100000 in
theorem fp_3_4 (v : Int32) : FP 3 4 v := ⟨_, _, _, .int, rfl, rfl, by decide +kernel, rfl, rfl⟩
set_option maxRecDepth 100000 in
theorem fp_5_0 (v : Int32) : FP 5 0 v := ⟨_, _, _, .int, rfl, rfl, by decide +kernel, rfl, rfl⟩
set_option maxRecDepth 100000 in
theorem fp_6_1 (v : Int32) : FP 6 1 v := ⟨_, _, _, .int, rfl, rfl, by decide +kernel, rfl, rfl⟩
set_option maxRecDepth 100000 in
theorem fp_6_2 (v : Int32) : FP 6 2 v := ⟨_, _, _, .int, rfl, rfl, by decide +kernel, rfl, rfl⟩
set_option maxRecDepth 100000 in
theorem fp_7_0 (v : Int32) : FP 7 0 v := ⟨_, _, _, .int, rfl, rfl, by decide +kernel, rfl, rfl⟩
set_option maxRecDepth 100000 in
theorem fp_8_1 (v : Int32) : FP 8 1 v := ⟨_, _, _, .int, rfl, rfl, by decide +kernel, rfl, rfl⟩
set_option maxRecDepth 100000 in
theorem fp_8_2 (v : Int32) : FP 8 2 v := ⟨_, _, _, .int, rfl, rfl, by decide +kernel, rfl, rfl⟩
set_option maxRecDepth 100000 in
theorem fp_9_0 (v : Int32) : FP 9 0 v := ⟨_, _, _, .int, rfl, rfl, by decide +kernel, rfl, rfl⟩
set_option maxRecDepth 100000 in
theorem fp_10_0 (v : Int32) : FP 10 0 v := ⟨_, _, _, .int, rfl, rfl, by decide +kernel, rfl, rfl⟩
set_option maxRecDepth 100000 in
theorem fp_11_12 (v : Int32) : FP 11 12 v := ⟨_, _, _, .int, rfl, rfl, by decide +kernel, rfl, rfl⟩
set_option maxRecDepth 100000 in
theorem fp_12_3_0 : FP 12 3 (nI 0) := ⟨_, _, _, .boolean, rfl, rfl, by decide +kernel, by decide +kernel, by decide +kernel⟩
set_option maxRecDepth 100000 in
theorem fp_12_3_1 : FP 12 3 (nI 1) := ⟨_, _, _, .boolean, rfl, rfl, by decide +kernel, by decide +kernel, by decide +kernel⟩
set_option maxRecDepth 100000 in
theorem fp_12_6 (v : Int32) : FP 12 6 v := ⟨_, _, _, .int, rfl, rfl, by decide +kernel, rfl, rfl⟩
set_option maxRecDepth 100000 in
theorem fp_12_7 (v : Int32) : FP 12 7 v := ⟨_, _, _, .int, rfl, rfl, by decide +kernel, rfl, rfl⟩
set_option maxRecDepth 100000 in
theorem fp_12_8 (v : Int32) : FP 12 8 v := ⟨_, _, _, .int, rfl, rfl, by decide +kernel, rfl, rfl⟩
set_option maxRecDepth 100000 in
theorem fp_12_14 (v : Int32) : FP 12 14 v := ⟨_, _, _, .int, rfl, rfl, by decide +kernel, rfl, rfl⟩
set_option maxRecDepth 100000 in
theorem fp_12_15 (v : Int32) : FP 12 15 v := ⟨_, _, _, .int, rfl, rfl, by decide +kernel, rfl, rfl⟩
set_option maxRecDepth 100000 in
theorem fp_12_16 (v : Int32) : FP 12 16 v := ⟨_, _, _, .int, rfl, rfl, by decide +kernel, rfl, rfl⟩
set_option maxRecDepth 100000 in
theorem fp_12_22 (v : Int32) : FP 12 22 v := ⟨_, _, _, .int, rfl, rfl, by decide +kernel, rfl, rfl⟩
set_option maxRecDepth 100000 in
theorem fp_12_24 (v : Int32) : FP 12 24 v := ⟨_, _, _, .int, rfl, rfl, by decide +kernel, rfl, rfl⟩
set_option maxRecDepth 100000 in
theorem fp_12_26 (v : Int32) : FP 12 26 v := ⟨_, _, _, .int, rfl, rfl, by decide +kernel, rfl, rfl⟩
set_option maxRecDepth 100000 in
theorem lkb_X0_init : LKB yX0_init cX0_init 3 none 2 := ⟨bigm 316 (by decide +kernel) rfl, bigm 47 (by decide +kernel) rfl, by decide +kernel, by decide +kernel, by decide +kernel⟩
set_option maxRecDepth 100000 in
theorem ins_X0_init : Cond.instanceMethod yX0_init ∈ BIG := bigm 315 (by decide +kernel) rfl
set_option maxRecDepth 100000 in
theorem lkb_X0_add : LKB yX0_add cX0_add 2 none 1 := ⟨bigm 747 (by decide +kernel) rfl, bigm 47 (by decide +kernel) rfl, by decide +kernel, by decide +kernel, by decide +kernel⟩
set_option maxRecDepth 100000 in
theorem ins_X0_add : Cond.instanceMethod yX0_add ∈ BIG := bigm 745 (by decide +kernel) rfl
set_option maxRecDepth 100000 in
theorem sel_X0_add : Cond.selects yX0_add.cls yX0_add yX0_add ∈ BIG := bigm 746 (by decide +kernel) rfl
theorem vir_X0_add {k : Nat} {A : AL} (h : k < A.1) (h2 : k < nObj) (h3 : (tb k).1 = 2) : VIR yX0_add k A := ⟨ins_X0_add, sel_X0_add, h, h2, 0, _, _, rfl, h3⟩
set_option maxRecDepth 100000 in
theorem lkb_X0_firstAbove : LKB yX0_firstAbove cX0_firstAbove 5 (some .int) 2 := ⟨bigm 755 (by decide +kernel) rfl, bigm 47 (by decide +kernel) rfl, by decide +kernel, by decide +kernel, by decide +kernel⟩
set_option maxRecDepth 100000 in
theorem ins_X0_firstAbove : Cond.instanceMethod yX0_firstAbove ∈ BIG := bigm 753 (by decide +kernel) rfl
set_option maxRecDepth 100000 in
theorem sel_X0_firstAbove : Cond.selects yX0_firstAbove.cls yX0_firstAbove yX0_firstAbove ∈ BIG := bigm 754 (by decide +kernel) rfl
theorem vir_X0_firstAbove {k : Nat} {A : AL} (h : k < A.1) (h2 : k < nObj) (h3 : (tb k).1 = 2) : VIR yX0_firstAbove k A := ⟨ins_X0_firstAbove, sel_X0_firstAbove, h, h2, 0, _, _, rfl, h3⟩
set_option maxRecDepth 100000 in
theorem lkb_X0_allAbove : LKB yX0_allAbove cX0_allAbove 5 (some .int) 1 := ⟨bigm 765 (by decide +kernel) rfl, bigm 47 (by decide +kernel) rfl, by decide +kernel, by decide +kernel, by decide +kernel⟩
set_option maxRecDepth 100000 in
theorem ins_X0_allAbove : Cond.instanceMethod yX0_allAbove ∈ BIG := bigm 763 (by decide +kernel) rfl
set_option maxRecDepth 100000 in
theorem sel_X0_allAbove : Cond.selects yX0_allAbove.cls yX0_allAbove yX0_allAbove ∈ BIG := bigm 764 (by decide +kernel) rfl
theorem vir_X0_allAbove {k : Nat} {A : AL} (h : k < A.1) (h2 : k < nObj) (h3 : (tb k).1 = 2) : VIR yX0_allAbove k A := ⟨ins_X0_allAbove, sel_X0_allAbove, h, h2, 0, _, _, rfl, h3⟩
set_option maxRecDepth 100000 in
theorem lkb_X1_init : LKB yX1_init cX1_init 3 none 2 := ⟨bigm 214 (by decide +kernel) rfl, bigm 43 (by decide +kernel) rfl, by decide +kernel, by decide +kernel, by decide +kernel⟩
set_option maxRecDepth 100000 in
theorem ins_X1_init : Cond.instanceMethod yX1_init ∈ BIG := bigm 213 (by decide +kernel) rfl
set_option maxRecDepth 100000 in
theorem lkb_X1_leastTime : LKB yX1_leastTime cX1_leastTime 3 (some .int) 2 := ⟨bigm 598 (by decide +kernel) rfl, bigm 43 (by decide +kernel) rfl, by decide +kernel, by decide +kernel, by decide +kernel⟩
set_option maxRecDepth 100000 in
theorem ins_X1_leastTime : Cond.instanceMethod yX1_leastTime ∈ BIG := bigm 596 (by decide +kernel) rfl
set_option maxRecDepth 100000 in
theorem sel_X1_leastTime : Cond.selects yX1_leastTime.cls yX1_leastTime yX1_leastTime ∈ BIG := bigm 597 (by decide +kernel) rfl
theorem vir_X1_leastTime {k : Nat} {A : AL} (h : k < A.1) (h2 : k < nObj) (h3 : (tb k).1 = 3) : VIR yX1_leastTime k A := ⟨ins_X1_leastTime, sel_X1_leastTime, h, h2, 1, _, _, rfl, h3⟩
set_option maxRecDepth 100000 in
theorem lkb_X1_search : LKB yX1_search cX1_search 7 none 4 := ⟨bigm 604 (by decide +kernel) rfl, bigm 43 (by decide +kernel) rfl, by decide +kernel, by decide +kernel, by decide +kernel⟩
set_option maxRecDepth 100000 in
theorem sta_X1_search : Cond.static yX1_search ∈ BIG := bigm 603 (by decide +kernel) rfl
set_option maxRecDepth 100000 in
theorem lkb_X1_look : LKB yX1_look cX1_look 3 none 2 := ⟨bigm 608 (by decide +kernel) rfl, bigm 43 (by decide +kernel) rfl, by decide +kernel, by decide +kernel, by decide +kernel⟩
set_option maxRecDepth 100000 in
theorem ins_X1_look : Cond.instanceMethod yX1_look ∈ BIG := bigm 607 (by decide +kernel) rfl
set_option maxRecDepth 100000 in
theorem sel_X1_look : Cond.selects yX1_look.cls yX1_look yX1_look ∈ BIG := bigm 4 (by decide +kernel) rfl
theorem vir_X1_look {k : Nat} {A : AL} (h : k < A.1) (h2 : k < nObj) (h3 : (tb k).1 = 3) : VIR yX1_look k A := ⟨ins_X1_look, sel_X1_look, h, h2, 1, _, _, rfl, h3⟩
set_option maxRecDepth 100000 in
theorem lkb_X2_init : LKB yX2_init cX2_init 2 none 0 := ⟨bigm 190 (by decide +kernel) rfl, bigm 42 (by decide +kernel) rfl, by decide +kernel, by decide +kernel, by decide +kernel⟩
set_option maxRecDepth 100000 in
theorem ins_X2_init : Cond.instanceMethod yX2_init ∈ BIG := bigm 189 (by decide +kernel) rfl
set_option maxRecDepth 100000 in
theorem lkb_X2_forget : LKB yX2_forget cX2_forget 3 none 1 := ⟨bigm 196 (by decide +kernel) rfl, bigm 42 (by decide +kernel) rfl, by decide +kernel, by decide +kernel, by decide +kernel⟩
set_option maxRecDepth 100000 in
theorem ins_X2_forget : Cond.instanceMethod yX2_forget ∈ BIG := bigm 194 (by decide +kernel) rfl
set_option maxRecDepth 100000 in
theorem sel_X2_forget : Cond.selects yX2_forget.cls yX2_forget yX2_forget ∈ BIG := bigm 195 (by decide +kernel) rfl
theorem vir_X2_forget {k : Nat} {A : AL} (h : k < A.1) (h2 : k < nObj) (h3 : (tb k).1 = 4) : VIR yX2_forget k A := ⟨ins_X2_forget, sel_X2_forget, h, h2, 2, _, _, rfl, h3⟩
set_option maxRecDepth 100000 in
theorem lkb_X2_copy : LKB yX2_copy cX2_copy 3 none 1 := ⟨bigm 775 (by decide +kernel) rfl, bigm 42 (by decide +kernel) rfl, by decide +kernel, by decide +kernel, by decide +kernel⟩
set_option maxRecDepth 100000 in
theorem ins_X2_copy : Cond.instanceMethod yX2_copy ∈ BIG := bigm 773 (by decide +kernel) rfl
set_option maxRecDepth 100000 in
theorem sel_X2_copy : Cond.selects yX2_copy.cls yX2_copy yX2_copy ∈ BIG := bigm 774 (by decide +kernel) rfl
theorem vir_X2_copy {k : Nat} {A : AL} (h : k < A.1) (h2 : k < nObj) (h3 : (tb k).1 = 4) : VIR yX2_copy k A := ⟨ins_X2_copy, sel_X2_copy, h, h2, 2, _, _, rfl, h3⟩
set_option maxRecDepth 100000 in
theorem lkb_X2_takes : LKB yX2_takes cX2_takes 4 (some .int) 2 := ⟨bigm 568 (by decide +kernel) rfl, bigm 42 (by decide +kernel) rfl, by decide +kernel, by decide +kernel, by decide +kernel⟩
set_option maxRecDepth 100000 in
theorem ins_X2_takes : Cond.instanceMethod yX2_takes ∈ BIG := bigm 566 (by decide +kernel) rfl
set_option maxRecDepth 100000 in
theorem sel_X2_takes : Cond.selects yX2_takes.cls yX2_takes yX2_takes ∈ BIG := bigm 567 (by decide +kernel) rfl
theorem vir_X2_takes {k : Nat} {A : AL} (h : k < A.1) (h2 : k < nObj) (h3 : (tb k).1 = 4) : VIR yX2_takes k A := ⟨ins_X2_takes, sel_X2_takes, h, h2, 2, _, _, rfl, h3⟩
set_option maxRecDepth 100000 in
theorem lkb_X2_rowTime : LKB yX2_rowTime cX2_rowTime 5 (some .int) 2 := ⟨bigm 563 (by decide +kernel) rfl, bigm 42 (by decide +kernel) rfl, by decide +kernel, by decide +kernel, by decide +kernel⟩
set_option maxRecDepth 100000 in
theorem ins_X2_rowTime : Cond.instanceMethod yX2_rowTime ∈ BIG := bigm 561 (by decide +kernel) rfl
set_option maxRecDepth 100000 in
theorem sel_X2_rowTime : Cond.selects yX2_rowTime.cls yX2_rowTime yX2_rowTime ∈ BIG := bigm 562 (by decide +kernel) rfl
theorem vir_X2_rowTime {k : Nat} {A : AL} (h : k < A.1) (h2 : k < nObj) (h3 : (tb k).1 = 4) : VIR yX2_rowTime k A := ⟨ins_X2_rowTime, sel_X2_rowTime, h, h2, 2, _, _, rfl, h3⟩
set_option maxRecDepth 100000 in
theorem lkb_X2_kindOf : LKB yX2_kindOf cX2_kindOf 4 (some .int) 2 := ⟨bigm 555 (by decide +kernel) rfl, bigm 42 (by decide +kernel) rfl, by decide +kernel, by decide +kernel, by decide +kernel⟩
set_option maxRecDepth 100000 in
theorem ins_X2_kindOf : Cond.instanceMethod yX2_kindOf ∈ BIG := bigm 553 (by decide +kernel) rfl
set_option maxRecDepth 100000 in
theorem sel_X2_kindOf : Cond.selects yX2_kindOf.cls yX2_kindOf yX2_kindOf ∈ BIG := bigm 554 (by decide +kernel) rfl
theorem vir_X2_kindOf {k : Nat} {A : AL} (h : k < A.1) (h2 : k < nObj) (h3 : (tb k).1 = 4) : VIR yX2_kindOf k A := ⟨ins_X2_kindOf, sel_X2_kindOf, h, h2, 2, _, _, rfl, h3⟩
set_option maxRecDepth 100000 in
theorem lkb_X2_locksDrawn : LKB yX2_locksDrawn cX2_locksDrawn 6 (some .int) 2 := ⟨bigm 581 (by decide +kernel) rfl, bigm 42 (by decide +kernel) rfl, by decide +kernel, by decide +kernel, by decide +kernel⟩
set_option maxRecDepth 100000 in
theorem ins_X2_locksDrawn : Cond.instanceMethod yX2_locksDrawn ∈ BIG := bigm 579 (by decide +kernel) rfl
set_option maxRecDepth 100000 in
theorem sel_X2_locksDrawn : Cond.selects yX2_locksDrawn.cls yX2_locksDrawn yX2_locksDrawn ∈ BIG := bigm 580 (by decide +kernel) rfl
theorem vir_X2_locksDrawn {k : Nat} {A : AL} (h : k < A.1) (h2 : k < nObj) (h3 : (tb k).1 = 4) : VIR yX2_locksDrawn k A := ⟨ins_X2_locksDrawn, sel_X2_locksDrawn, h, h2, 2, _, _, rfl, h3⟩
set_option maxRecDepth 100000 in
theorem lkb_X3_init : LKB yX3_init cX3_init 1 none 0 := ⟨bigm 336 (by decide +kernel) rfl, bigm 48 (by decide +kernel) rfl, by decide +kernel, by decide +kernel, by decide +kernel⟩
set_option maxRecDepth 100000 in
theorem ins_X3_init : Cond.instanceMethod yX3_init ∈ BIG := bigm 335 (by decide +kernel) rfl
set_option maxRecDepth 100000 in
theorem lkb_X4_init : LKB yX4_init cX4_init 2 none 0 := ⟨bigm 83 (by decide +kernel) rfl, bigm 38 (by decide +kernel) rfl, by decide +kernel, by decide +kernel, by decide +kernel⟩
set_option maxRecDepth 100000 in
theorem ins_X4_init : Cond.instanceMethod yX4_init ∈ BIG := bigm 82 (by decide +kernel) rfl
set_option maxRecDepth 100000 in
theorem lkb_X4_layOut : LKB yX4_layOut cX4_layOut 7 none 1 := ⟨bigm 88 (by decide +kernel) rfl, bigm 38 (by decide +kernel) rfl, by decide +kernel, by decide +kernel, by decide +kernel⟩
set_option maxRecDepth 100000 in
theorem ins_X4_layOut : Cond.instanceMethod yX4_layOut ∈ BIG := bigm 87 (by decide +kernel) rfl
set_option maxRecDepth 100000 in
theorem sel_X4_layOut : Cond.selects yX4_layOut.cls yX4_layOut yX4_layOut ∈ BIG := bigm 0 (by decide +kernel) rfl
theorem vir_X4_layOut {k : Nat} {A : AL} (h : k < A.1) (h2 : k < nObj) (h3 : (tb k).1 = 6) : VIR yX4_layOut k A := ⟨ins_X4_layOut, sel_X4_layOut, h, h2, 4, _, _, rfl, h3⟩
set_option maxRecDepth 100000 in
theorem lkb_X4_nthOf : LKB yX4_nthOf cX4_nthOf 4 (some .int) 2 := ⟨bigm 94 (by decide +kernel) rfl, bigm 38 (by decide +kernel) rfl, by decide +kernel, by decide +kernel, by decide +kernel⟩
set_option maxRecDepth 100000 in
theorem sta_X4_nthOf : Cond.static yX4_nthOf ∈ BIG := bigm 93 (by decide +kernel) rfl
set_option maxRecDepth 100000 in
theorem lkb_X4_piece : LKB yX4_piece cX4_piece 3 (some .int) 2 := ⟨bigm 443 (by decide +kernel) rfl, bigm 38 (by decide +kernel) rfl, by decide +kernel, by decide +kernel, by decide +kernel⟩
set_option maxRecDepth 100000 in
theorem ins_X4_piece : Cond.instanceMethod yX4_piece ∈ BIG := bigm 441 (by decide +kernel) rfl
set_option maxRecDepth 100000 in
theorem sel_X4_piece : Cond.selects yX4_piece.cls yX4_piece yX4_piece ∈ BIG := bigm 442 (by decide +kernel) rfl
theorem vir_X4_piece {k : Nat} {A : AL} (h : k < A.1) (h2 : k < nObj) (h3 : (tb k).1 = 6) : VIR yX4_piece k A := ⟨ins_X4_piece, sel_X4_piece, h, h2, 4, _, _, rfl, h3⟩
set_option maxRecDepth 100000 in
theorem lkb_X4_numberOf : LKB yX4_numberOf cX4_numberOf 6 (some .int) 1 := ⟨bigm 447 (by decide +kernel) rfl, bigm 38 (by decide +kernel) rfl, by decide +kernel, by decide +kernel, by decide +kernel⟩
set_option maxRecDepth 100000 in
theorem ins_X4_numberOf : Cond.instanceMethod yX4_numberOf ∈ BIG := bigm 445 (by decide +kernel) rfl
set_option maxRecDepth 100000 in
theorem sel_X4_numberOf : Cond.selects yX4_numberOf.cls yX4_numberOf yX4_numberOf ∈ BIG := bigm 446 (by decide +kernel) rfl
theorem vir_X4_numberOf {k : Nat} {A : AL} (h : k < A.1) (h2 : k < nObj) (h3 : (tb k).1 = 6) : VIR yX4_numberOf k A := ⟨ins_X4_numberOf, sel_X4_numberOf, h, h2, 4, _, _, rfl, h3⟩
set_option maxRecDepth 100000 in
theorem lkb_X4_moved : LKB yX4_moved cX4_moved 4 (some .int) 2 := ⟨bigm 439 (by decide +kernel) rfl, bigm 38 (by decide +kernel) rfl, by decide +kernel, by decide +kernel, by decide +kernel⟩
set_option maxRecDepth 100000 in
theorem ins_X4_moved : Cond.instanceMethod yX4_moved ∈ BIG := bigm 437 (by decide +kernel) rfl
set_option maxRecDepth 100000 in
theorem sel_X4_moved : Cond.selects yX4_moved.cls yX4_moved yX4_moved ∈ BIG := bigm 438 (by decide +kernel) rfl
theorem vir_X4_moved {k : Nat} {A : AL} (h : k < A.1) (h2 : k < nObj) (h3 : (tb k).1 = 6) : VIR yX4_moved k A := ⟨ins_X4_moved, sel_X4_moved, h, h2, 4, _, _, rfl, h3⟩
set_option maxRecDepth 100000 in
theorem lkb_X5_init : LKB yX5_init cX5_init 3 none 2 := ⟨bigm 151 (by decide +kernel) rfl, bigm 41 (by decide +kernel) rfl, by decide +kernel, by decide +kernel, by decide +kernel⟩
set_option maxRecDepth 100000 in
theorem ins_X5_init : Cond.instanceMethod yX5_init ∈ BIG := bigm 150 (by decide +kernel) rfl
set_option maxRecDepth 100000 in
theorem lkb_X5_has : LKB yX5_has cX5_has 2 (some .boolean) 1 := ⟨bigm 482 (by decide +kernel) rfl, bigm 41 (by decide +kernel) rfl, by decide +kernel, by decide +kernel, by decide +kernel⟩
set_option maxRecDepth 100000 in
theorem ins_X5_has : Cond.instanceMethod yX5_has ∈ BIG := bigm 480 (by decide +kernel) rfl
set_option maxRecDepth 100000 in
theorem sel_X5_has : Cond.selects yX5_has.cls yX5_has yX5_has ∈ BIG := bigm 481 (by decide +kernel) rfl
theorem vir_X5_has {k : Nat} {A : AL} (h : k < A.1) (h2 : k < nObj) (h3 : (tb k).1 = 7) : VIR yX5_has k A := ⟨ins_X5_has, sel_X5_has, h, h2, 5, _, _, rfl, h3⟩
set_option maxRecDepth 100000 in
theorem lkb_X5_hasMove : LKB yX5_hasMove cX5_hasMove 3 (some .boolean) 2 := ⟨bigm 486 (by decide +kernel) rfl, bigm 41 (by decide +kernel) rfl, by decide +kernel, by decide +kernel, by decide +kernel⟩
set_option maxRecDepth 100000 in
theorem ins_X5_hasMove : Cond.instanceMethod yX5_hasMove ∈ BIG := bigm 484 (by decide +kernel) rfl
set_option maxRecDepth 100000 in
theorem sel_X5_hasMove : Cond.selects yX5_hasMove.cls yX5_hasMove yX5_hasMove ∈ BIG := bigm 485 (by decide +kernel) rfl
theorem vir_X5_hasMove {k : Nat} {A : AL} (h : k < A.1) (h2 : k < nObj) (h3 : (tb k).1 = 7) : VIR yX5_hasMove k A := ⟨ins_X5_hasMove, sel_X5_hasMove, h, h2, 5, _, _, rfl, h3⟩
set_option maxRecDepth 100000 in
theorem lkb_X5_takeRead : LKB yX5_takeRead cX5_takeRead 5 none 1 := ⟨bigm 465 (by decide +kernel) rfl, bigm 41 (by decide +kernel) rfl, by decide +kernel, by decide +kernel, by decide +kernel⟩
set_option maxRecDepth 100000 in
theorem ins_X5_takeRead : Cond.instanceMethod yX5_takeRead ∈ BIG := bigm 463 (by decide +kernel) rfl
set_option maxRecDepth 100000 in
theorem sel_X5_takeRead : Cond.selects yX5_takeRead.cls yX5_takeRead yX5_takeRead ∈ BIG := bigm 464 (by decide +kernel) rfl
theorem vir_X5_takeRead {k : Nat} {A : AL} (h : k < A.1) (h2 : k < nObj) (h3 : (tb k).1 = 7) : VIR yX5_takeRead k A := ⟨ins_X5_takeRead, sel_X5_takeRead, h, h2, 5, _, _, rfl, h3⟩
set_option maxRecDepth 100000 in
theorem lkb_X5_ahead : LKB yX5_ahead cX5_ahead 3 (some .int) 2 := ⟨bigm 551 (by decide +kernel) rfl, bigm 41 (by decide +kernel) rfl, by decide +kernel, by decide +kernel, by decide +kernel⟩
set_option maxRecDepth 100000 in
theorem ins_X5_ahead : Cond.instanceMethod yX5_ahead ∈ BIG := bigm 549 (by decide +kernel) rfl
set_option maxRecDepth 100000 in
theorem sel_X5_ahead : Cond.selects yX5_ahead.cls yX5_ahead yX5_ahead ∈ BIG := bigm 550 (by decide +kernel) rfl
theorem vir_X5_ahead {k : Nat} {A : AL} (h : k < A.1) (h2 : k < nObj) (h3 : (tb k).1 = 7) : VIR yX5_ahead k A := ⟨ins_X5_ahead, sel_X5_ahead, h, h2, 5, _, _, rfl, h3⟩
set_option maxRecDepth 100000 in
theorem lkb_X5_goal : LKB yX5_goal cX5_goal 5 (some .int) 2 := ⟨bigm 494 (by decide +kernel) rfl, bigm 41 (by decide +kernel) rfl, by decide +kernel, by decide +kernel, by decide +kernel⟩
set_option maxRecDepth 100000 in
theorem ins_X5_goal : Cond.instanceMethod yX5_goal ∈ BIG := bigm 492 (by decide +kernel) rfl
set_option maxRecDepth 100000 in
theorem sel_X5_goal : Cond.selects yX5_goal.cls yX5_goal yX5_goal ∈ BIG := bigm 493 (by decide +kernel) rfl
theorem vir_X5_goal {k : Nat} {A : AL} (h : k < A.1) (h2 : k < nObj) (h3 : (tb k).1 = 7) : VIR yX5_goal k A := ⟨ins_X5_goal, sel_X5_goal, h, h2, 5, _, _, rfl, h3⟩
set_option maxRecDepth 100000 in
theorem lkb_X5_solvedFrom : LKB yX5_solvedFrom cX5_solvedFrom 3 (some .int) 1 := ⟨bigm 592 (by decide +kernel) rfl, bigm 41 (by decide +kernel) rfl, by decide +kernel, by decide +kernel, by decide +kernel⟩
set_option maxRecDepth 100000 in
theorem ins_X5_solvedFrom : Cond.instanceMethod yX5_solvedFrom ∈ BIG := bigm 590 (by decide +kernel) rfl
set_option maxRecDepth 100000 in
theorem sel_X5_solvedFrom : Cond.selects yX5_solvedFrom.cls yX5_solvedFrom yX5_solvedFrom ∈ BIG := bigm 591 (by decide +kernel) rfl
theorem vir_X5_solvedFrom {k : Nat} {A : AL} (h : k < A.1) (h2 : k < nObj) (h3 : (tb k).1 = 7) : VIR yX5_solvedFrom k A := ⟨ins_X5_solvedFrom, sel_X5_solvedFrom, h, h2, 5, _, _, rfl, h3⟩
set_option maxRecDepth 100000 in
theorem lkb_X6_init : LKB yX6_init cX6_init 1 none 0 := ⟨bigm 64 (by decide +kernel) rfl, bigm 37 (by decide +kernel) rfl, by decide +kernel, by decide +kernel, by decide +kernel⟩
set_option maxRecDepth 100000 in
theorem ins_X6_init : Cond.instanceMethod yX6_init ∈ BIG := bigm 63 (by decide +kernel) rfl
set_option maxRecDepth 100000 in
theorem lkb_X6_add : LKB yX6_add cX6_add 5 none 2 := ⟨bigm 418 (by decide +kernel) rfl, bigm 37 (by decide +kernel) rfl, by decide +kernel, by decide +kernel, by decide +kernel⟩
set_option maxRecDepth 100000 in
theorem ins_X6_add : Cond.instanceMethod yX6_add ∈ BIG := bigm 416 (by decide +kernel) rfl
set_option maxRecDepth 100000 in
theorem sel_X6_add : Cond.selects yX6_add.cls yX6_add yX6_add ∈ BIG := bigm 417 (by decide +kernel) rfl
theorem vir_X6_add {k : Nat} {A : AL} (h : k < A.1) (h2 : k < nObj) (h3 : (tb k).1 = 8) : VIR yX6_add k A := ⟨ins_X6_add, sel_X6_add, h, h2, 6, _, _, rfl, h3⟩
set_option maxRecDepth 100000 in
theorem lkb_X6_readTurn : LKB yX6_readTurn cX6_readTurn 9 (some .int) 1 := ⟨bigm 427 (by decide +kernel) rfl, bigm 37 (by decide +kernel) rfl, by decide +kernel, by decide +kernel, by decide +kernel⟩
set_option maxRecDepth 100000 in
theorem ins_X6_readTurn : Cond.instanceMethod yX6_readTurn ∈ BIG := bigm 425 (by decide +kernel) rfl
set_option maxRecDepth 100000 in
theorem sel_X6_readTurn : Cond.selects yX6_readTurn.cls yX6_readTurn yX6_readTurn ∈ BIG := bigm 426 (by decide +kernel) rfl
theorem vir_X6_readTurn {k : Nat} {A : AL} (h : k < A.1) (h2 : k < nObj) (h3 : (tb k).1 = 8) : VIR yX6_readTurn k A := ⟨ins_X6_readTurn, sel_X6_readTurn, h, h2, 6, _, _, rfl, h3⟩
set_option maxRecDepth 100000 in
theorem lkb_X6_readRow : LKB yX6_readRow cX6_readRow 5 (some .int) 2 := ⟨bigm 461 (by decide +kernel) rfl, bigm 37 (by decide +kernel) rfl, by decide +kernel, by decide +kernel, by decide +kernel⟩
set_option maxRecDepth 100000 in
theorem ins_X6_readRow : Cond.instanceMethod yX6_readRow ∈ BIG := bigm 459 (by decide +kernel) rfl
set_option maxRecDepth 100000 in
theorem sel_X6_readRow : Cond.selects yX6_readRow.cls yX6_readRow yX6_readRow ∈ BIG := bigm 460 (by decide +kernel) rfl
theorem vir_X6_readRow {k : Nat} {A : AL} (h : k < A.1) (h2 : k < nObj) (h3 : (tb k).1 = 8) : VIR yX6_readRow k A := ⟨ins_X6_readRow, sel_X6_readRow, h, h2, 6, _, _, rfl, h3⟩
set_option maxRecDepth 100000 in
theorem lkb_X7_init : LKB yX7_init cX7_init 1 none 0 := ⟨bigm 302 (by decide +kernel) rfl, bigm 46 (by decide +kernel) rfl, by decide +kernel, by decide +kernel, by decide +kernel⟩
set_option maxRecDepth 100000 in
theorem ins_X7_init : Cond.instanceMethod yX7_init ∈ BIG := bigm 301 (by decide +kernel) rfl
set_option maxRecDepth 100000 in
theorem lkb_X7_add : LKB yX7_add cX7_add 3 none 1 := ⟨bigm 723 (by decide +kernel) rfl, bigm 46 (by decide +kernel) rfl, by decide +kernel, by decide +kernel, by decide +kernel⟩
set_option maxRecDepth 100000 in
theorem ins_X7_add : Cond.instanceMethod yX7_add ∈ BIG := bigm 721 (by decide +kernel) rfl
set_option maxRecDepth 100000 in
theorem sel_X7_add : Cond.selects yX7_add.cls yX7_add yX7_add ∈ BIG := bigm 722 (by decide +kernel) rfl
theorem vir_X7_add {k : Nat} {A : AL} (h : k < A.1) (h2 : k < nObj) (h3 : (tb k).1 = 9) : VIR yX7_add k A := ⟨ins_X7_add, sel_X7_add, h, h2, 7, _, _, rfl, h3⟩
set_option maxRecDepth 100000 in
theorem lkb_X7_middleThree : LKB yX7_middleThree cX7_middleThree 1 (some .int) 0 := ⟨bigm 731 (by decide +kernel) rfl, bigm 46 (by decide +kernel) rfl, by decide +kernel, by decide +kernel, by decide +kernel⟩
set_option maxRecDepth 100000 in
theorem ins_X7_middleThree : Cond.instanceMethod yX7_middleThree ∈ BIG := bigm 729 (by decide +kernel) rfl
set_option maxRecDepth 100000 in
theorem sel_X7_middleThree : Cond.selects yX7_middleThree.cls yX7_middleThree yX7_middleThree ∈ BIG := bigm 730 (by decide +kernel) rfl
theorem vir_X7_middleThree {k : Nat} {A : AL} (h : k < A.1) (h2 : k < nObj) (h3 : (tb k).1 = 9) : VIR yX7_middleThree k A := ⟨ins_X7_middleThree, sel_X7_middleThree, h, h2, 7, _, _, rfl, h3⟩
set_option maxRecDepth 100000 in
theorem lkb_X7_greatestFifth : LKB yX7_greatestFifth cX7_greatestFifth 3 (some .int) 1 := ⟨bigm 739 (by decide +kernel) rfl, bigm 46 (by decide +kernel) rfl, by decide +kernel, by decide +kernel, by decide +kernel⟩
set_option maxRecDepth 100000 in
theorem ins_X7_greatestFifth : Cond.instanceMethod yX7_greatestFifth ∈ BIG := bigm 737 (by decide +kernel) rfl
set_option maxRecDepth 100000 in
theorem sel_X7_greatestFifth : Cond.selects yX7_greatestFifth.cls yX7_greatestFifth yX7_greatestFifth ∈ BIG := bigm 738 (by decide +kernel) rfl
theorem vir_X7_greatestFifth {k : Nat} {A : AL} (h : k < A.1) (h2 : k < nObj) (h3 : (tb k).1 = 9) : VIR yX7_greatestFifth k A := ⟨ins_X7_greatestFifth, sel_X7_greatestFifth, h, h2, 7, _, _, rfl, h3⟩
set_option maxRecDepth 100000 in
theorem lkb_X8_init : LKB yX8_init cX8_init 1 none 0 := ⟨bigm 281 (by decide +kernel) rfl, bigm 45 (by decide +kernel) rfl, by decide +kernel, by decide +kernel, by decide +kernel⟩
set_option maxRecDepth 100000 in
theorem ins_X8_init : Cond.instanceMethod yX8_init ∈ BIG := bigm 280 (by decide +kernel) rfl
set_option maxRecDepth 100000 in
theorem lkb_X8_begin : LKB yX8_begin cX8_begin 2 none 0 := ⟨bigm 648 (by decide +kernel) rfl, bigm 45 (by decide +kernel) rfl, by decide +kernel, by decide +kernel, by decide +kernel⟩
set_option maxRecDepth 100000 in
theorem ins_X8_begin : Cond.instanceMethod yX8_begin ∈ BIG := bigm 646 (by decide +kernel) rfl
set_option maxRecDepth 100000 in
theorem sel_X8_begin : Cond.selects yX8_begin.cls yX8_begin yX8_begin ∈ BIG := bigm 647 (by decide +kernel) rfl
theorem vir_X8_begin {k : Nat} {A : AL} (h : k < A.1) (h2 : k < nObj) (h3 : (tb k).1 = 10) : VIR yX8_begin k A := ⟨ins_X8_begin, sel_X8_begin, h, h2, 8, _, _, rfl, h3⟩
set_option maxRecDepth 100000 in
theorem lkb_X8_solved : LKB yX8_solved cX8_solved 1 (some .boolean) 0 := ⟨bigm 673 (by decide +kernel) rfl, bigm 45 (by decide +kernel) rfl, by decide +kernel, by decide +kernel, by decide +kernel⟩
set_option maxRecDepth 100000 in
theorem ins_X8_solved : Cond.instanceMethod yX8_solved ∈ BIG := bigm 671 (by decide +kernel) rfl
set_option maxRecDepth 100000 in
theorem sel_X8_solved : Cond.selects yX8_solved.cls yX8_solved yX8_solved ∈ BIG := bigm 672 (by decide +kernel) rfl
theorem vir_X8_solved {k : Nat} {A : AL} (h : k < A.1) (h2 : k < nObj) (h3 : (tb k).1 = 10) : VIR yX8_solved k A := ⟨ins_X8_solved, sel_X8_solved, h, h2, 8, _, _, rfl, h3⟩
set_option maxRecDepth 100000 in
theorem lkb_X8_comesTo : LKB yX8_comesTo cX8_comesTo 2 (some .boolean) 1 := ⟨bigm 686 (by decide +kernel) rfl, bigm 45 (by decide +kernel) rfl, by decide +kernel, by decide +kernel, by decide +kernel⟩
set_option maxRecDepth 100000 in
theorem ins_X8_comesTo : Cond.instanceMethod yX8_comesTo ∈ BIG := bigm 684 (by decide +kernel) rfl
set_option maxRecDepth 100000 in
theorem sel_X8_comesTo : Cond.selects yX8_comesTo.cls yX8_comesTo yX8_comesTo ∈ BIG := bigm 685 (by decide +kernel) rfl
theorem vir_X8_comesTo {k : Nat} {A : AL} (h : k < A.1) (h2 : k < nObj) (h3 : (tb k).1 = 10) : VIR yX8_comesTo k A := ⟨ins_X8_comesTo, sel_X8_comesTo, h, h2, 8, _, _, rfl, h3⟩
set_option maxRecDepth 100000 in
theorem lkb_X8_needsNone : LKB yX8_needsNone cX8_needsNone 2 (some .boolean) 1 := ⟨bigm 690 (by decide +kernel) rfl, bigm 45 (by decide +kernel) rfl, by decide +kernel, by decide +kernel, by decide +kernel⟩
set_option maxRecDepth 100000 in
theorem ins_X8_needsNone : Cond.instanceMethod yX8_needsNone ∈ BIG := bigm 688 (by decide +kernel) rfl
set_option maxRecDepth 100000 in
theorem sel_X8_needsNone : Cond.selects yX8_needsNone.cls yX8_needsNone yX8_needsNone ∈ BIG := bigm 689 (by decide +kernel) rfl
theorem vir_X8_needsNone {k : Nat} {A : AL} (h : k < A.1) (h2 : k < nObj) (h3 : (tb k).1 = 10) : VIR yX8_needsNone k A := ⟨ins_X8_needsNone, sel_X8_needsNone, h, h2, 8, _, _, rfl, h3⟩
set_option maxRecDepth 100000 in
theorem lkb_X9_init : LKB yX9_init cX9_init 2 none 1 := ⟨bigm 111 (by decide +kernel) rfl, bigm 40 (by decide +kernel) rfl, by decide +kernel, by decide +kernel, by decide +kernel⟩
set_option maxRecDepth 100000 in
theorem ins_X9_init : Cond.instanceMethod yX9_init ∈ BIG := bigm 110 (by decide +kernel) rfl
set_option maxRecDepth 100000 in
theorem lkb_X9_has : LKB yX9_has cX9_has 2 (some .boolean) 1 := ⟨bigm 531 (by decide +kernel) rfl, bigm 40 (by decide +kernel) rfl, by decide +kernel, by decide +kernel, by decide +kernel⟩
set_option maxRecDepth 100000 in
theorem ins_X9_has : Cond.instanceMethod yX9_has ∈ BIG := bigm 529 (by decide +kernel) rfl
set_option maxRecDepth 100000 in
theorem sel_X9_has : Cond.selects yX9_has.cls yX9_has yX9_has ∈ BIG := bigm 530 (by decide +kernel) rfl
theorem vir_X9_has {k : Nat} {A : AL} (h : k < A.1) (h2 : k < nObj) (h3 : (tb k).1 = 11) : VIR yX9_has k A := ⟨ins_X9_has, sel_X9_has, h, h2, 9, _, _, rfl, h3⟩
set_option maxRecDepth 100000 in
theorem lkb_X9_hasMove : LKB yX9_hasMove cX9_hasMove 2 (some .boolean) 1 := ⟨bigm 473 (by decide +kernel) rfl, bigm 40 (by decide +kernel) rfl, by decide +kernel, by decide +kernel, by decide +kernel⟩
set_option maxRecDepth 100000 in
theorem ins_X9_hasMove : Cond.instanceMethod yX9_hasMove ∈ BIG := bigm 471 (by decide +kernel) rfl
set_option maxRecDepth 100000 in
theorem sel_X9_hasMove : Cond.selects yX9_hasMove.cls yX9_hasMove yX9_hasMove ∈ BIG := bigm 472 (by decide +kernel) rfl
theorem vir_X9_hasMove {k : Nat} {A : AL} (h : k < A.1) (h2 : k < nObj) (h3 : (tb k).1 = 11) : VIR yX9_hasMove k A := ⟨ins_X9_hasMove, sel_X9_hasMove, h, h2, 9, _, _, rfl, h3⟩
set_option maxRecDepth 100000 in
theorem lkb_X9_takeRead : LKB yX9_takeRead cX9_takeRead 5 none 0 := ⟨bigm 435 (by decide +kernel) rfl, bigm 40 (by decide +kernel) rfl, by decide +kernel, by decide +kernel, by decide +kernel⟩
set_option maxRecDepth 100000 in
theorem ins_X9_takeRead : Cond.instanceMethod yX9_takeRead ∈ BIG := bigm 433 (by decide +kernel) rfl
set_option maxRecDepth 100000 in
theorem sel_X9_takeRead : Cond.selects yX9_takeRead.cls yX9_takeRead yX9_takeRead ∈ BIG := bigm 434 (by decide +kernel) rfl
theorem vir_X9_takeRead {k : Nat} {A : AL} (h : k < A.1) (h2 : k < nObj) (h3 : (tb k).1 = 11) : VIR yX9_takeRead k A := ⟨ins_X9_takeRead, sel_X9_takeRead, h, h2, 9, _, _, rfl, h3⟩
set_option maxRecDepth 100000 in
theorem lkb_X9_goBackTo : LKB yX9_goBackTo cX9_goBackTo 2 none 1 := ⟨bigm 785 (by decide +kernel) rfl, bigm 40 (by decide +kernel) rfl, by decide +kernel, by decide +kernel, by decide +kernel⟩
set_option maxRecDepth 100000 in
theorem ins_X9_goBackTo : Cond.instanceMethod yX9_goBackTo ∈ BIG := bigm 783 (by decide +kernel) rfl
set_option maxRecDepth 100000 in
theorem sel_X9_goBackTo : Cond.selects yX9_goBackTo.cls yX9_goBackTo yX9_goBackTo ∈ BIG := bigm 784 (by decide +kernel) rfl
theorem vir_X9_goBackTo {k : Nat} {A : AL} (h : k < A.1) (h2 : k < nObj) (h3 : (tb k).1 = 11) : VIR yX9_goBackTo k A := ⟨ins_X9_goBackTo, sel_X9_goBackTo, h, h2, 9, _, _, rfl, h3⟩
set_option maxRecDepth 100000 in
theorem lkb_X9_measure : LKB yX9_measure cX9_measure 6 none 0 := ⟨bigm 118 (by decide +kernel) rfl, bigm 40 (by decide +kernel) rfl, by decide +kernel, by decide +kernel, by decide +kernel⟩
set_option maxRecDepth 100000 in
theorem ins_X9_measure : Cond.instanceMethod yX9_measure ∈ BIG := bigm 117 (by decide +kernel) rfl
set_option maxRecDepth 100000 in
theorem sel_X9_measure : Cond.selects yX9_measure.cls yX9_measure yX9_measure ∈ BIG := bigm 1 (by decide +kernel) rfl
theorem vir_X9_measure {k : Nat} {A : AL} (h : k < A.1) (h2 : k < nObj) (h3 : (tb k).1 = 11) : VIR yX9_measure k A := ⟨ins_X9_measure, sel_X9_measure, h, h2, 9, _, _, rfl, h3⟩
set_option maxRecDepth 100000 in
theorem lkb_X9_firstTowardsSolved : LKB yX9_firstTowardsSolved cX9_firstTowardsSolved 3 (some .int) 1 := ⟨bigm 628 (by decide +kernel) rfl, bigm 40 (by decide +kernel) rfl, by decide +kernel, by decide +kernel, by decide +kernel⟩
set_option maxRecDepth 100000 in
theorem ins_X9_firstTowardsSolved : Cond.instanceMethod yX9_firstTowardsSolved ∈ BIG := bigm 626 (by decide +kernel) rfl
set_option maxRecDepth 100000 in
theorem sel_X9_firstTowardsSolved : Cond.selects yX9_firstTowardsSolved.cls yX9_firstTowardsSolved yX9_firstTowardsSolved ∈ BIG := bigm 627 (by decide +kernel) rfl
theorem vir_X9_firstTowardsSolved {k : Nat} {A : AL} (h : k < A.1) (h2 : k < nObj) (h3 : (tb k).1 = 11) : VIR yX9_firstTowardsSolved k A := ⟨ins_X9_firstTowardsSolved, sel_X9_firstTowardsSolved, h, h2, 9, _, _, rfl, h3⟩
set_option maxRecDepth 100000 in
theorem lkb_X10_init : LKB yX10_init cX10_init 4 none 3 := ⟨bigm 250 (by decide +kernel) rfl, bigm 44 (by decide +kernel) rfl, by decide +kernel, by decide +kernel, by decide +kernel⟩
set_option maxRecDepth 100000 in
theorem ins_X10_init : Cond.instanceMethod yX10_init ∈ BIG := bigm 249 (by decide +kernel) rfl
set_option maxRecDepth 100000 in
theorem lkb_X10_has : LKB yX10_has cX10_has 2 (some .boolean) 1 := ⟨bigm 660 (by decide +kernel) rfl, bigm 44 (by decide +kernel) rfl, by decide +kernel, by decide +kernel, by decide +kernel⟩
set_option maxRecDepth 100000 in
theorem ins_X10_has : Cond.instanceMethod yX10_has ∈ BIG := bigm 658 (by decide +kernel) rfl
set_option maxRecDepth 100000 in
theorem sel_X10_has : Cond.selects yX10_has.cls yX10_has yX10_has ∈ BIG := bigm 659 (by decide +kernel) rfl
theorem vir_X10_has {k : Nat} {A : AL} (h : k < A.1) (h2 : k < nObj) (h3 : (tb k).1 = 12) : VIR yX10_has k A := ⟨ins_X10_has, sel_X10_has, h, h2, 10, _, _, rfl, h3⟩
set_option maxRecDepth 100000 in
theorem lkb_X10_add : LKB yX10_add cX10_add 3 none 2 := ⟨bigm 636 (by decide +kernel) rfl, bigm 44 (by decide +kernel) rfl, by decide +kernel, by decide +kernel, by decide +kernel⟩
set_option maxRecDepth 100000 in
theorem ins_X10_add : Cond.instanceMethod yX10_add ∈ BIG := bigm 634 (by decide +kernel) rfl
set_option maxRecDepth 100000 in
theorem sel_X10_add : Cond.selects yX10_add.cls yX10_add yX10_add ∈ BIG := bigm 635 (by decide +kernel) rfl
theorem vir_X10_add {k : Nat} {A : AL} (h : k < A.1) (h2 : k < nObj) (h3 : (tb k).1 = 12) : VIR yX10_add k A := ⟨ins_X10_add, sel_X10_add, h, h2, 10, _, _, rfl, h3⟩
set_option maxRecDepth 100000 in
theorem lkb_X10_tryFrom : LKB yX10_tryFrom cX10_tryFrom 7 none 2 := ⟨bigm 644 (by decide +kernel) rfl, bigm 44 (by decide +kernel) rfl, by decide +kernel, by decide +kernel, by decide +kernel⟩
set_option maxRecDepth 100000 in
theorem ins_X10_tryFrom : Cond.instanceMethod yX10_tryFrom ∈ BIG := bigm 642 (by decide +kernel) rfl
set_option maxRecDepth 100000 in
theorem sel_X10_tryFrom : Cond.selects yX10_tryFrom.cls yX10_tryFrom yX10_tryFrom ∈ BIG := bigm 643 (by decide +kernel) rfl
theorem vir_X10_tryFrom {k : Nat} {A : AL} (h : k < A.1) (h2 : k < nObj) (h3 : (tb k).1 = 12) : VIR yX10_tryFrom k A := ⟨ins_X10_tryFrom, sel_X10_tryFrom, h, h2, 10, _, _, rfl, h3⟩
set_option maxRecDepth 100000 in
theorem lkb_X10_leastRow : LKB yX10_leastRow cX10_leastRow 5 (some .int) 3 := ⟨bigm 652 (by decide +kernel) rfl, bigm 44 (by decide +kernel) rfl, by decide +kernel, by decide +kernel, by decide +kernel⟩
set_option maxRecDepth 100000 in
theorem ins_X10_leastRow : Cond.instanceMethod yX10_leastRow ∈ BIG := bigm 651 (by decide +kernel) rfl
set_option maxRecDepth 100000 in
theorem sel_X10_leastRow : Cond.selects yX10_leastRow.cls yX10_leastRow yX10_leastRow ∈ BIG := bigm 5 (by decide +kernel) rfl
theorem vir_X10_leastRow {k : Nat} {A : AL} (h : k < A.1) (h2 : k < nObj) (h3 : (tb k).1 = 12) : VIR yX10_leastRow k A := ⟨ins_X10_leastRow, sel_X10_leastRow, h, h2, 10, _, _, rfl, h3⟩
set_option maxRecDepth 100000 in
theorem lkb_X10_solved : LKB yX10_solved cX10_solved 4 (some .int) 1 := ⟨bigm 668 (by decide +kernel) rfl, bigm 44 (by decide +kernel) rfl, by decide +kernel, by decide +kernel, by decide +kernel⟩
set_option maxRecDepth 100000 in
theorem ins_X10_solved : Cond.instanceMethod yX10_solved ∈ BIG := bigm 666 (by decide +kernel) rfl
set_option maxRecDepth 100000 in
theorem sel_X10_solved : Cond.selects yX10_solved.cls yX10_solved yX10_solved ∈ BIG := bigm 667 (by decide +kernel) rfl
theorem vir_X10_solved {k : Nat} {A : AL} (h : k < A.1) (h2 : k < nObj) (h3 : (tb k).1 = 12) : VIR yX10_solved k A := ⟨ins_X10_solved, sel_X10_solved, h, h2, 10, _, _, rfl, h3⟩
set_option maxRecDepth 100000 in
theorem lkb_X10_sumOf : LKB yX10_sumOf cX10_sumOf 7 (some .int) 2 := ⟨bigm 705 (by decide +kernel) rfl, bigm 44 (by decide +kernel) rfl, by decide +kernel, by decide +kernel, by decide +kernel⟩
set_option maxRecDepth 100000 in
theorem ins_X10_sumOf : Cond.instanceMethod yX10_sumOf ∈ BIG := bigm 703 (by decide +kernel) rfl
set_option maxRecDepth 100000 in
theorem sel_X10_sumOf : Cond.selects yX10_sumOf.cls yX10_sumOf yX10_sumOf ∈ BIG := bigm 704 (by decide +kernel) rfl
theorem vir_X10_sumOf {k : Nat} {A : AL} (h : k < A.1) (h2 : k < nObj) (h3 : (tb k).1 = 12) : VIR yX10_sumOf k A := ⟨ins_X10_sumOf, sel_X10_sumOf, h, h2, 10, _, _, rfl, h3⟩
set_option maxRecDepth 100000 in
theorem lkb_X11_init : LKB yX11_init cX11_init 1 none 0 := ⟨bigm 56 (by decide +kernel) rfl, bigm 36 (by decide +kernel) rfl, by decide +kernel, by decide +kernel, by decide +kernel⟩
set_option maxRecDepth 100000 in
theorem ins_X11_init : Cond.instanceMethod yX11_init ∈ BIG := bigm 55 (by decide +kernel) rfl
set_option maxRecDepth 100000 in
theorem lkb_X11_feed : LKB yX11_feed cX11_feed 5 (some .int) 2 := ⟨bigm 407 (by decide +kernel) rfl, bigm 36 (by decide +kernel) rfl, by decide +kernel, by decide +kernel, by decide +kernel⟩
set_option maxRecDepth 100000 in
theorem ins_X11_feed : Cond.instanceMethod yX11_feed ∈ BIG := bigm 405 (by decide +kernel) rfl
set_option maxRecDepth 100000 in
theorem sel_X11_feed : Cond.selects yX11_feed.cls yX11_feed yX11_feed ∈ BIG := bigm 406 (by decide +kernel) rfl
theorem vir_X11_feed {k : Nat} {A : AL} (h : k < A.1) (h2 : k < nObj) (h3 : (tb k).1 = 13) : VIR yX11_feed k A := ⟨ins_X11_feed, sel_X11_feed, h, h2, 11, _, _, rfl, h3⟩
set_option maxRecDepth 100000 in
theorem lkb_X11_turn : LKB yX11_turn cX11_turn 2 (some .int) 0 := ⟨bigm 423 (by decide +kernel) rfl, bigm 36 (by decide +kernel) rfl, by decide +kernel, by decide +kernel, by decide +kernel⟩
set_option maxRecDepth 100000 in
theorem ins_X11_turn : Cond.instanceMethod yX11_turn ∈ BIG := bigm 421 (by decide +kernel) rfl
set_option maxRecDepth 100000 in
theorem sel_X11_turn : Cond.selects yX11_turn.cls yX11_turn yX11_turn ∈ BIG := bigm 422 (by decide +kernel) rfl
theorem vir_X11_turn {k : Nat} {A : AL} (h : k < A.1) (h2 : k < nObj) (h3 : (tb k).1 = 13) : VIR yX11_turn k A := ⟨ins_X11_turn, sel_X11_turn, h, h2, 11, _, _, rfl, h3⟩
set_option maxRecDepth 100000 in
theorem lkb_X11_row : LKB yX11_row cX11_row 2 (some .int) 0 := ⟨bigm 457 (by decide +kernel) rfl, bigm 36 (by decide +kernel) rfl, by decide +kernel, by decide +kernel, by decide +kernel⟩
set_option maxRecDepth 100000 in
theorem ins_X11_row : Cond.instanceMethod yX11_row ∈ BIG := bigm 455 (by decide +kernel) rfl
set_option maxRecDepth 100000 in
theorem sel_X11_row : Cond.selects yX11_row.cls yX11_row yX11_row ∈ BIG := bigm 456 (by decide +kernel) rfl
theorem vir_X11_row {k : Nat} {A : AL} (h : k < A.1) (h2 : k < nObj) (h3 : (tb k).1 = 13) : VIR yX11_row k A := ⟨ins_X11_row, sel_X11_row, h, h2, 11, _, _, rfl, h3⟩
set_option maxRecDepth 100000 in
theorem lkb_X11_goes : LKB yX11_goes cX11_goes 3 (some .int) 2 := ⟨bigm 469 (by decide +kernel) rfl, bigm 36 (by decide +kernel) rfl, by decide +kernel, by decide +kernel, by decide +kernel⟩
set_option maxRecDepth 100000 in
theorem ins_X11_goes : Cond.instanceMethod yX11_goes ∈ BIG := bigm 467 (by decide +kernel) rfl
set_option maxRecDepth 100000 in
theorem sel_X11_goes : Cond.selects yX11_goes.cls yX11_goes yX11_goes ∈ BIG := bigm 468 (by decide +kernel) rfl
theorem vir_X11_goes {k : Nat} {A : AL} (h : k < A.1) (h2 : k < nObj) (h3 : (tb k).1 = 13) : VIR yX11_goes k A := ⟨ins_X11_goes, sel_X11_goes, h, h2, 11, _, _, rfl, h3⟩
set_option maxRecDepth 100000 in
theorem lkb_X11_rowOf : LKB yX11_rowOf cX11_rowOf 3 (some .int) 2 := ⟨bigm 478 (by decide +kernel) rfl, bigm 36 (by decide +kernel) rfl, by decide +kernel, by decide +kernel, by decide +kernel⟩
set_option maxRecDepth 100000 in
theorem ins_X11_rowOf : Cond.instanceMethod yX11_rowOf ∈ BIG := bigm 476 (by decide +kernel) rfl
set_option maxRecDepth 100000 in
theorem sel_X11_rowOf : Cond.selects yX11_rowOf.cls yX11_rowOf yX11_rowOf ∈ BIG := bigm 477 (by decide +kernel) rfl
theorem vir_X11_rowOf {k : Nat} {A : AL} (h : k < A.1) (h2 : k < nObj) (h3 : (tb k).1 = 13) : VIR yX11_rowOf k A := ⟨ins_X11_rowOf, sel_X11_rowOf, h, h2, 11, _, _, rfl, h3⟩
set_option maxRecDepth 100000 in
theorem lkb_X11_does : LKB yX11_does cX11_does 3 (some .int) 2 := ⟨bigm 490 (by decide +kernel) rfl, bigm 36 (by decide +kernel) rfl, by decide +kernel, by decide +kernel, by decide +kernel⟩
set_option maxRecDepth 100000 in
theorem ins_X11_does : Cond.instanceMethod yX11_does ∈ BIG := bigm 488 (by decide +kernel) rfl
set_option maxRecDepth 100000 in
theorem sel_X11_does : Cond.selects yX11_does.cls yX11_does yX11_does ∈ BIG := bigm 489 (by decide +kernel) rfl
theorem vir_X11_does {k : Nat} {A : AL} (h : k < A.1) (h2 : k < nObj) (h3 : (tb k).1 = 13) : VIR yX11_does k A := ⟨ins_X11_does, sel_X11_does, h, h2, 11, _, _, rfl, h3⟩
set_option maxRecDepth 100000 in
theorem lkb_X11_order : LKB yX11_order cX11_order 4 (some .int) 1 := ⟨bigm 498 (by decide +kernel) rfl, bigm 36 (by decide +kernel) rfl, by decide +kernel, by decide +kernel, by decide +kernel⟩
set_option maxRecDepth 100000 in
theorem ins_X11_order : Cond.instanceMethod yX11_order ∈ BIG := bigm 496 (by decide +kernel) rfl
set_option maxRecDepth 100000 in
theorem sel_X11_order : Cond.selects yX11_order.cls yX11_order yX11_order ∈ BIG := bigm 497 (by decide +kernel) rfl
theorem vir_X11_order {k : Nat} {A : AL} (h : k < A.1) (h2 : k < nObj) (h3 : (tb k).1 = 13) : VIR yX11_order k A := ⟨ins_X11_order, sel_X11_order, h, h2, 11, _, _, rfl, h3⟩
set_option maxRecDepth 100000 in
theorem lkb_X11_keeps : LKB yX11_keeps cX11_keeps 2 (some .int) 1 := ⟨bigm 502 (by decide +kernel) rfl, bigm 36 (by decide +kernel) rfl, by decide +kernel, by decide +kernel, by decide +kernel⟩
set_option maxRecDepth 100000 in
theorem ins_X11_keeps : Cond.instanceMethod yX11_keeps ∈ BIG := bigm 500 (by decide +kernel) rfl
set_option maxRecDepth 100000 in
theorem sel_X11_keeps : Cond.selects yX11_keeps.cls yX11_keeps yX11_keeps ∈ BIG := bigm 501 (by decide +kernel) rfl
theorem vir_X11_keeps {k : Nat} {A : AL} (h : k < A.1) (h2 : k < nObj) (h3 : (tb k).1 = 13) : VIR yX11_keeps k A := ⟨ins_X11_keeps, sel_X11_keeps, h, h2, 11, _, _, rfl, h3⟩
set_option maxRecDepth 100000 in
theorem lkb_X11_now : LKB yX11_now cX11_now 2 (some .int) 1 := ⟨bigm 506 (by decide +kernel) rfl, bigm 36 (by decide +kernel) rfl, by decide +kernel, by decide +kernel, by decide +kernel⟩
set_option maxRecDepth 100000 in
theorem ins_X11_now : Cond.instanceMethod yX11_now ∈ BIG := bigm 504 (by decide +kernel) rfl
set_option maxRecDepth 100000 in
theorem sel_X11_now : Cond.selects yX11_now.cls yX11_now yX11_now ∈ BIG := bigm 505 (by decide +kernel) rfl
theorem vir_X11_now {k : Nat} {A : AL} (h : k < A.1) (h2 : k < nObj) (h3 : (tb k).1 = 13) : VIR yX11_now k A := ⟨ins_X11_now, sel_X11_now, h, h2, 11, _, _, rfl, h3⟩
set_option maxRecDepth 100000 in
theorem lkb_X11_make : LKB yX11_make cX11_make 2 (some .int) 1 := ⟨bigm 511 (by decide +kernel) rfl, bigm 36 (by decide +kernel) rfl, by decide +kernel, by decide +kernel, by decide +kernel⟩
set_option maxRecDepth 100000 in
theorem ins_X11_make : Cond.instanceMethod yX11_make ∈ BIG := bigm 509 (by decide +kernel) rfl
set_option maxRecDepth 100000 in
theorem sel_X11_make : Cond.selects yX11_make.cls yX11_make yX11_make ∈ BIG := bigm 510 (by decide +kernel) rfl
theorem vir_X11_make {k : Nat} {A : AL} (h : k < A.1) (h2 : k < nObj) (h3 : (tb k).1 = 13) : VIR yX11_make k A := ⟨ins_X11_make, sel_X11_make, h, h2, 11, _, _, rfl, h3⟩
set_option maxRecDepth 100000 in
theorem lkb_X11_makeRow : LKB yX11_makeRow cX11_makeRow 2 (some .int) 1 := ⟨bigm 519 (by decide +kernel) rfl, bigm 36 (by decide +kernel) rfl, by decide +kernel, by decide +kernel, by decide +kernel⟩
set_option maxRecDepth 100000 in
theorem ins_X11_makeRow : Cond.instanceMethod yX11_makeRow ∈ BIG := bigm 517 (by decide +kernel) rfl
set_option maxRecDepth 100000 in
theorem sel_X11_makeRow : Cond.selects yX11_makeRow.cls yX11_makeRow yX11_makeRow ∈ BIG := bigm 518 (by decide +kernel) rfl
theorem vir_X11_makeRow {k : Nat} {A : AL} (h : k < A.1) (h2 : k < nObj) (h3 : (tb k).1 = 13) : VIR yX11_makeRow k A := ⟨ins_X11_makeRow, sel_X11_makeRow, h, h2, 11, _, _, rfl, h3⟩
set_option maxRecDepth 100000 in
theorem lkb_X11_put : LKB yX11_put cX11_put 3 (some .int) 1 := ⟨bigm 523 (by decide +kernel) rfl, bigm 36 (by decide +kernel) rfl, by decide +kernel, by decide +kernel, by decide +kernel⟩
set_option maxRecDepth 100000 in
theorem ins_X11_put : Cond.instanceMethod yX11_put ∈ BIG := bigm 521 (by decide +kernel) rfl
set_option maxRecDepth 100000 in
theorem sel_X11_put : Cond.selects yX11_put.cls yX11_put yX11_put ∈ BIG := bigm 522 (by decide +kernel) rfl
theorem vir_X11_put {k : Nat} {A : AL} (h : k < A.1) (h2 : k < nObj) (h3 : (tb k).1 = 13) : VIR yX11_put k A := ⟨ins_X11_put, sel_X11_put, h, h2, 11, _, _, rfl, h3⟩
set_option maxRecDepth 100000 in
theorem lkb_X11_time : LKB yX11_time cX11_time 5 (some .int) 3 := ⟨bigm 527 (by decide +kernel) rfl, bigm 36 (by decide +kernel) rfl, by decide +kernel, by decide +kernel, by decide +kernel⟩
set_option maxRecDepth 100000 in
theorem ins_X11_time : Cond.instanceMethod yX11_time ∈ BIG := bigm 525 (by decide +kernel) rfl
set_option maxRecDepth 100000 in
theorem sel_X11_time : Cond.selects yX11_time.cls yX11_time yX11_time ∈ BIG := bigm 526 (by decide +kernel) rfl
theorem vir_X11_time {k : Nat} {A : AL} (h : k < A.1) (h2 : k < nObj) (h3 : (tb k).1 = 13) : VIR yX11_time k A := ⟨ins_X11_time, sel_X11_time, h, h2, 11, _, _, rfl, h3⟩
set_option maxRecDepth 100000 in
theorem lkb_X11_after : LKB yX11_after cX11_after 5 (some .int) 3 := ⟨bigm 538 (by decide +kernel) rfl, bigm 36 (by decide +kernel) rfl, by decide +kernel, by decide +kernel, by decide +kernel⟩
set_option maxRecDepth 100000 in
theorem ins_X11_after : Cond.instanceMethod yX11_after ∈ BIG := bigm 536 (by decide +kernel) rfl
set_option maxRecDepth 100000 in
theorem sel_X11_after : Cond.selects yX11_after.cls yX11_after yX11_after ∈ BIG := bigm 537 (by decide +kernel) rfl
theorem vir_X11_after {k : Nat} {A : AL} (h : k < A.1) (h2 : k < nObj) (h3 : (tb k).1 = 13) : VIR yX11_after k A := ⟨ins_X11_after, sel_X11_after, h, h2, 11, _, _, rfl, h3⟩
set_option maxRecDepth 100000 in
theorem lkb_X11_locks : LKB yX11_locks cX11_locks 4 (some .int) 2 := ⟨bigm 543 (by decide +kernel) rfl, bigm 36 (by decide +kernel) rfl, by decide +kernel, by decide +kernel, by decide +kernel⟩
set_option maxRecDepth 100000 in
theorem ins_X11_locks : Cond.instanceMethod yX11_locks ∈ BIG := bigm 541 (by decide +kernel) rfl
set_option maxRecDepth 100000 in
theorem sel_X11_locks : Cond.selects yX11_locks.cls yX11_locks yX11_locks ∈ BIG := bigm 542 (by decide +kernel) rfl
theorem vir_X11_locks {k : Nat} {A : AL} (h : k < A.1) (h2 : k < nObj) (h3 : (tb k).1 = 13) : VIR yX11_locks k A := ⟨ins_X11_locks, sel_X11_locks, h, h2, 11, _, _, rfl, h3⟩
set_option maxRecDepth 100000 in
theorem lkb_X11_kind : LKB yX11_kind cX11_kind 3 (some .int) 2 := ⟨bigm 547 (by decide +kernel) rfl, bigm 36 (by decide +kernel) rfl, by decide +kernel, by decide +kernel, by decide +kernel⟩
set_option maxRecDepth 100000 in
theorem ins_X11_kind : Cond.instanceMethod yX11_kind ∈ BIG := bigm 545 (by decide +kernel) rfl
set_option maxRecDepth 100000 in
theorem sel_X11_kind : Cond.selects yX11_kind.cls yX11_kind yX11_kind ∈ BIG := bigm 546 (by decide +kernel) rfl
theorem vir_X11_kind {k : Nat} {A : AL} (h : k < A.1) (h2 : k < nObj) (h3 : (tb k).1 = 13) : VIR yX11_kind k A := ⟨ins_X11_kind, sel_X11_kind, h, h2, 11, _, _, rfl, h3⟩
set_option maxRecDepth 100000 in
theorem lkb_X11_seconds : LKB yX11_seconds cX11_seconds 2 (some .int) 1 := ⟨bigm 559 (by decide +kernel) rfl, bigm 36 (by decide +kernel) rfl, by decide +kernel, by decide +kernel, by decide +kernel⟩
set_option maxRecDepth 100000 in
theorem ins_X11_seconds : Cond.instanceMethod yX11_seconds ∈ BIG := bigm 557 (by decide +kernel) rfl
set_option maxRecDepth 100000 in
theorem sel_X11_seconds : Cond.selects yX11_seconds.cls yX11_seconds yX11_seconds ∈ BIG := bigm 558 (by decide +kernel) rfl
theorem vir_X11_seconds {k : Nat} {A : AL} (h : k < A.1) (h2 : k < nObj) (h3 : (tb k).1 = 13) : VIR yX11_seconds k A := ⟨ins_X11_seconds, sel_X11_seconds, h, h2, 11, _, _, rfl, h3⟩
set_option maxRecDepth 100000 in
theorem lkb_X11_mean : LKB yX11_mean cX11_mean 2 (some .int) 1 := ⟨bigm 573 (by decide +kernel) rfl, bigm 36 (by decide +kernel) rfl, by decide +kernel, by decide +kernel, by decide +kernel⟩
set_option maxRecDepth 100000 in
theorem ins_X11_mean : Cond.instanceMethod yX11_mean ∈ BIG := bigm 571 (by decide +kernel) rfl
set_option maxRecDepth 100000 in
theorem sel_X11_mean : Cond.selects yX11_mean.cls yX11_mean yX11_mean ∈ BIG := bigm 572 (by decide +kernel) rfl
theorem vir_X11_mean {k : Nat} {A : AL} (h : k < A.1) (h2 : k < nObj) (h3 : (tb k).1 = 13) : VIR yX11_mean k A := ⟨ins_X11_mean, sel_X11_mean, h, h2, 11, _, _, rfl, h3⟩
set_option maxRecDepth 100000 in
theorem lkb_X11_drawn : LKB yX11_drawn cX11_drawn 3 (some .int) 2 := ⟨bigm 577 (by decide +kernel) rfl, bigm 36 (by decide +kernel) rfl, by decide +kernel, by decide +kernel, by decide +kernel⟩
set_option maxRecDepth 100000 in
theorem ins_X11_drawn : Cond.instanceMethod yX11_drawn ∈ BIG := bigm 575 (by decide +kernel) rfl
set_option maxRecDepth 100000 in
theorem sel_X11_drawn : Cond.selects yX11_drawn.cls yX11_drawn yX11_drawn ∈ BIG := bigm 576 (by decide +kernel) rfl
theorem vir_X11_drawn {k : Nat} {A : AL} (h : k < A.1) (h2 : k < nObj) (h3 : (tb k).1 = 13) : VIR yX11_drawn k A := ⟨ins_X11_drawn, sel_X11_drawn, h, h2, 11, _, _, rfl, h3⟩
set_option maxRecDepth 100000 in
theorem lkb_X11_better : LKB yX11_better cX11_better 5 (some .int) 2 := ⟨bigm 588 (by decide +kernel) rfl, bigm 36 (by decide +kernel) rfl, by decide +kernel, by decide +kernel, by decide +kernel⟩
set_option maxRecDepth 100000 in
theorem ins_X11_better : Cond.instanceMethod yX11_better ∈ BIG := bigm 586 (by decide +kernel) rfl
set_option maxRecDepth 100000 in
theorem sel_X11_better : Cond.selects yX11_better.cls yX11_better yX11_better ∈ BIG := bigm 587 (by decide +kernel) rfl
theorem vir_X11_better {k : Nat} {A : AL} (h : k < A.1) (h2 : k < nObj) (h3 : (tb k).1 = 13) : VIR yX11_better k A := ⟨ins_X11_better, sel_X11_better, h, h2, 11, _, _, rfl, h3⟩
set_option maxRecDepth 100000 in
theorem lkb_X11_found : LKB yX11_found cX11_found 2 (some .int) 1 := ⟨bigm 616 (by decide +kernel) rfl, bigm 36 (by decide +kernel) rfl, by decide +kernel, by decide +kernel, by decide +kernel⟩
set_option maxRecDepth 100000 in
theorem ins_X11_found : Cond.instanceMethod yX11_found ∈ BIG := bigm 614 (by decide +kernel) rfl
set_option maxRecDepth 100000 in
theorem sel_X11_found : Cond.selects yX11_found.cls yX11_found yX11_found ∈ BIG := bigm 615 (by decide +kernel) rfl
theorem vir_X11_found {k : Nat} {A : AL} (h : k < A.1) (h2 : k < nObj) (h3 : (tb k).1 = 13) : VIR yX11_found k A := ⟨ins_X11_found, sel_X11_found, h, h2, 11, _, _, rfl, h3⟩
set_option maxRecDepth 100000 in
theorem lkb_X11_fewest : LKB yX11_fewest cX11_fewest 1 (some .int) 0 := ⟨bigm 620 (by decide +kernel) rfl, bigm 36 (by decide +kernel) rfl, by decide +kernel, by decide +kernel, by decide +kernel⟩
set_option maxRecDepth 100000 in
theorem ins_X11_fewest : Cond.instanceMethod yX11_fewest ∈ BIG := bigm 618 (by decide +kernel) rfl
set_option maxRecDepth 100000 in
theorem sel_X11_fewest : Cond.selects yX11_fewest.cls yX11_fewest yX11_fewest ∈ BIG := bigm 619 (by decide +kernel) rfl
theorem vir_X11_fewest {k : Nat} {A : AL} (h : k < A.1) (h2 : k < nObj) (h3 : (tb k).1 = 13) : VIR yX11_fewest k A := ⟨ins_X11_fewest, sel_X11_fewest, h, h2, 11, _, _, rfl, h3⟩
set_option maxRecDepth 100000 in
theorem lkb_X11_first : LKB yX11_first cX11_first 1 (some .int) 0 := ⟨bigm 624 (by decide +kernel) rfl, bigm 36 (by decide +kernel) rfl, by decide +kernel, by decide +kernel, by decide +kernel⟩
set_option maxRecDepth 100000 in
theorem ins_X11_first : Cond.instanceMethod yX11_first ∈ BIG := bigm 622 (by decide +kernel) rfl
set_option maxRecDepth 100000 in
theorem sel_X11_first : Cond.selects yX11_first.cls yX11_first yX11_first ∈ BIG := bigm 623 (by decide +kernel) rfl
theorem vir_X11_first {k : Nat} {A : AL} (h : k < A.1) (h2 : k < nObj) (h3 : (tb k).1 = 13) : VIR yX11_first k A := ⟨ins_X11_first, sel_X11_first, h, h2, 11, _, _, rfl, h3⟩
set_option maxRecDepth 100000 in
theorem lkb_X11_step : LKB yX11_step cX11_step 3 (some .int) 2 := ⟨bigm 632 (by decide +kernel) rfl, bigm 36 (by decide +kernel) rfl, by decide +kernel, by decide +kernel, by decide +kernel⟩
set_option maxRecDepth 100000 in
theorem ins_X11_step : Cond.instanceMethod yX11_step ∈ BIG := bigm 630 (by decide +kernel) rfl
set_option maxRecDepth 100000 in
theorem sel_X11_step : Cond.selects yX11_step.cls yX11_step yX11_step ∈ BIG := bigm 631 (by decide +kernel) rfl
theorem vir_X11_step {k : Nat} {A : AL} (h : k < A.1) (h2 : k < nObj) (h3 : (tb k).1 = 13) : VIR yX11_step k A := ⟨ins_X11_step, sel_X11_step, h, h2, 11, _, _, rfl, h3⟩
set_option maxRecDepth 100000 in
theorem lkb_X11_tried : LKB yX11_tried cX11_tried 1 (some .int) 0 := ⟨bigm 640 (by decide +kernel) rfl, bigm 36 (by decide +kernel) rfl, by decide +kernel, by decide +kernel, by decide +kernel⟩
set_option maxRecDepth 100000 in
theorem ins_X11_tried : Cond.instanceMethod yX11_tried ∈ BIG := bigm 638 (by decide +kernel) rfl
set_option maxRecDepth 100000 in
theorem sel_X11_tried : Cond.selects yX11_tried.cls yX11_tried yX11_tried ∈ BIG := bigm 639 (by decide +kernel) rfl
theorem vir_X11_tried {k : Nat} {A : AL} (h : k < A.1) (h2 : k < nObj) (h3 : (tb k).1 = 13) : VIR yX11_tried k A := ⟨ins_X11_tried, sel_X11_tried, h, h2, 11, _, _, rfl, h3⟩
set_option maxRecDepth 100000 in
theorem lkb_X11_triedRow : LKB yX11_triedRow cX11_triedRow 2 (some .int) 1 := ⟨bigm 656 (by decide +kernel) rfl, bigm 36 (by decide +kernel) rfl, by decide +kernel, by decide +kernel, by decide +kernel⟩
set_option maxRecDepth 100000 in
theorem ins_X11_triedRow : Cond.instanceMethod yX11_triedRow ∈ BIG := bigm 654 (by decide +kernel) rfl
set_option maxRecDepth 100000 in
theorem sel_X11_triedRow : Cond.selects yX11_triedRow.cls yX11_triedRow yX11_triedRow ∈ BIG := bigm 655 (by decide +kernel) rfl
theorem vir_X11_triedRow {k : Nat} {A : AL} (h : k < A.1) (h2 : k < nObj) (h3 : (tb k).1 = 13) : VIR yX11_triedRow k A := ⟨ins_X11_triedRow, sel_X11_triedRow, h, h2, 11, _, _, rfl, h3⟩
set_option maxRecDepth 100000 in
theorem lkb_X11_solves : LKB yX11_solves cX11_solves 1 (some .int) 0 := ⟨bigm 664 (by decide +kernel) rfl, bigm 36 (by decide +kernel) rfl, by decide +kernel, by decide +kernel, by decide +kernel⟩
set_option maxRecDepth 100000 in
theorem ins_X11_solves : Cond.instanceMethod yX11_solves ∈ BIG := bigm 662 (by decide +kernel) rfl
set_option maxRecDepth 100000 in
theorem sel_X11_solves : Cond.selects yX11_solves.cls yX11_solves yX11_solves ∈ BIG := bigm 663 (by decide +kernel) rfl
theorem vir_X11_solves {k : Nat} {A : AL} (h : k < A.1) (h2 : k < nObj) (h3 : (tb k).1 = 13) : VIR yX11_solves k A := ⟨ins_X11_solves, sel_X11_solves, h, h2, 11, _, _, rfl, h3⟩
set_option maxRecDepth 100000 in
theorem lkb_X11_lacks : LKB yX11_lacks cX11_lacks 2 (some .int) 0 := ⟨bigm 677 (by decide +kernel) rfl, bigm 36 (by decide +kernel) rfl, by decide +kernel, by decide +kernel, by decide +kernel⟩
set_option maxRecDepth 100000 in
theorem ins_X11_lacks : Cond.instanceMethod yX11_lacks ∈ BIG := bigm 675 (by decide +kernel) rfl
set_option maxRecDepth 100000 in
theorem sel_X11_lacks : Cond.selects yX11_lacks.cls yX11_lacks yX11_lacks ∈ BIG := bigm 676 (by decide +kernel) rfl
theorem vir_X11_lacks {k : Nat} {A : AL} (h : k < A.1) (h2 : k < nObj) (h3 : (tb k).1 = 13) : VIR yX11_lacks k A := ⟨ins_X11_lacks, sel_X11_lacks, h, h2, 11, _, _, rfl, h3⟩
set_option maxRecDepth 100000 in
theorem lkb_X11_luck : LKB yX11_luck cX11_luck 6 (some .int) 2 := ⟨bigm 682 (by decide +kernel) rfl, bigm 36 (by decide +kernel) rfl, by decide +kernel, by decide +kernel, by decide +kernel⟩
set_option maxRecDepth 100000 in
theorem ins_X11_luck : Cond.instanceMethod yX11_luck ∈ BIG := bigm 680 (by decide +kernel) rfl
set_option maxRecDepth 100000 in
theorem sel_X11_luck : Cond.selects yX11_luck.cls yX11_luck yX11_luck ∈ BIG := bigm 681 (by decide +kernel) rfl
theorem vir_X11_luck {k : Nat} {A : AL} (h : k < A.1) (h2 : k < nObj) (h3 : (tb k).1 = 13) : VIR yX11_luck k A := ⟨ins_X11_luck, sel_X11_luck, h, h2, 11, _, _, rfl, h3⟩
set_option maxRecDepth 100000 in
theorem lkb_X11_see : LKB yX11_see cX11_see 4 (some .int) 2 := ⟨bigm 697 (by decide +kernel) rfl, bigm 36 (by decide +kernel) rfl, by decide +kernel, by decide +kernel, by decide +kernel⟩
set_option maxRecDepth 100000 in
theorem ins_X11_see : Cond.instanceMethod yX11_see ∈ BIG := bigm 695 (by decide +kernel) rfl
set_option maxRecDepth 100000 in
theorem sel_X11_see : Cond.selects yX11_see.cls yX11_see yX11_see ∈ BIG := bigm 696 (by decide +kernel) rfl
theorem vir_X11_see {k : Nat} {A : AL} (h : k < A.1) (h2 : k < nObj) (h3 : (tb k).1 = 13) : VIR yX11_see k A := ⟨ins_X11_see, sel_X11_see, h, h2, 11, _, _, rfl, h3⟩
set_option maxRecDepth 100000 in
theorem lkb_X11_sum : LKB yX11_sum cX11_sum 3 (some .int) 1 := ⟨bigm 701 (by decide +kernel) rfl, bigm 36 (by decide +kernel) rfl, by decide +kernel, by decide +kernel, by decide +kernel⟩
set_option maxRecDepth 100000 in
theorem ins_X11_sum : Cond.instanceMethod yX11_sum ∈ BIG := bigm 699 (by decide +kernel) rfl
set_option maxRecDepth 100000 in
theorem sel_X11_sum : Cond.selects yX11_sum.cls yX11_sum yX11_sum ∈ BIG := bigm 700 (by decide +kernel) rfl
theorem vir_X11_sum {k : Nat} {A : AL} (h : k < A.1) (h2 : k < nObj) (h3 : (tb k).1 = 13) : VIR yX11_sum k A := ⟨ins_X11_sum, sel_X11_sum, h, h2, 11, _, _, rfl, h3⟩
set_option maxRecDepth 100000 in
theorem lkb_X11_bestPace : LKB yX11_bestPace cX11_bestPace 5 (some .int) 0 := ⟨bigm 711 (by decide +kernel) rfl, bigm 36 (by decide +kernel) rfl, by decide +kernel, by decide +kernel, by decide +kernel⟩
set_option maxRecDepth 100000 in
theorem ins_X11_bestPace : Cond.instanceMethod yX11_bestPace ∈ BIG := bigm 709 (by decide +kernel) rfl
set_option maxRecDepth 100000 in
theorem sel_X11_bestPace : Cond.selects yX11_bestPace.cls yX11_bestPace yX11_bestPace ∈ BIG := bigm 710 (by decide +kernel) rfl
theorem vir_X11_bestPace {k : Nat} {A : AL} (h : k < A.1) (h2 : k < nObj) (h3 : (tb k).1 = 13) : VIR yX11_bestPace k A := ⟨ins_X11_bestPace, sel_X11_bestPace, h, h2, 11, _, _, rfl, h3⟩
set_option maxRecDepth 100000 in
theorem lkb_X11_learn : LKB yX11_learn cX11_learn 7 (some .int) 1 := ⟨bigm 715 (by decide +kernel) rfl, bigm 36 (by decide +kernel) rfl, by decide +kernel, by decide +kernel, by decide +kernel⟩
set_option maxRecDepth 100000 in
theorem ins_X11_learn : Cond.instanceMethod yX11_learn ∈ BIG := bigm 713 (by decide +kernel) rfl
set_option maxRecDepth 100000 in
theorem sel_X11_learn : Cond.selects yX11_learn.cls yX11_learn yX11_learn ∈ BIG := bigm 714 (by decide +kernel) rfl
theorem vir_X11_learn {k : Nat} {A : AL} (h : k < A.1) (h2 : k < nObj) (h3 : (tb k).1 = 13) : VIR yX11_learn k A := ⟨ins_X11_learn, sel_X11_learn, h, h2, 11, _, _, rfl, h3⟩
set_option maxRecDepth 100000 in
theorem lkb_X11_five : LKB yX11_five cX11_five 3 (some .int) 1 := ⟨bigm 719 (by decide +kernel) rfl, bigm 36 (by decide +kernel) rfl, by decide +kernel, by decide +kernel, by decide +kernel⟩
set_option maxRecDepth 100000 in
theorem ins_X11_five : Cond.instanceMethod yX11_five ∈ BIG := bigm 717 (by decide +kernel) rfl
set_option maxRecDepth 100000 in
theorem sel_X11_five : Cond.selects yX11_five.cls yX11_five yX11_five ∈ BIG := bigm 718 (by decide +kernel) rfl
theorem vir_X11_five {k : Nat} {A : AL} (h : k < A.1) (h2 : k < nObj) (h3 : (tb k).1 = 13) : VIR yX11_five k A := ⟨ins_X11_five, sel_X11_five, h, h2, 11, _, _, rfl, h3⟩
set_option maxRecDepth 100000 in
theorem lkb_X11_middle : LKB yX11_middle cX11_middle 3 (some .int) 1 := ⟨bigm 727 (by decide +kernel) rfl, bigm 36 (by decide +kernel) rfl, by decide +kernel, by decide +kernel, by decide +kernel⟩
set_option maxRecDepth 100000 in
theorem ins_X11_middle : Cond.instanceMethod yX11_middle ∈ BIG := bigm 725 (by decide +kernel) rfl
set_option maxRecDepth 100000 in
theorem sel_X11_middle : Cond.selects yX11_middle.cls yX11_middle yX11_middle ∈ BIG := bigm 726 (by decide +kernel) rfl
theorem vir_X11_middle {k : Nat} {A : AL} (h : k < A.1) (h2 : k < nObj) (h3 : (tb k).1 = 13) : VIR yX11_middle k A := ⟨ins_X11_middle, sel_X11_middle, h, h2, 11, _, _, rfl, h3⟩
set_option maxRecDepth 100000 in
theorem lkb_X11_need : LKB yX11_need cX11_need 3 (some .int) 1 := ⟨bigm 735 (by decide +kernel) rfl, bigm 36 (by decide +kernel) rfl, by decide +kernel, by decide +kernel, by decide +kernel⟩
set_option maxRecDepth 100000 in
theorem ins_X11_need : Cond.instanceMethod yX11_need ∈ BIG := bigm 733 (by decide +kernel) rfl
set_option maxRecDepth 100000 in
theorem sel_X11_need : Cond.selects yX11_need.cls yX11_need yX11_need ∈ BIG := bigm 734 (by decide +kernel) rfl
theorem vir_X11_need {k : Nat} {A : AL} (h : k < A.1) (h2 : k < nObj) (h3 : (tb k).1 = 13) : VIR yX11_need k A := ⟨ins_X11_need, sel_X11_need, h, h2, 11, _, _, rfl, h3⟩
set_option maxRecDepth 100000 in
theorem lkb_X11_film : LKB yX11_film cX11_film 3 (some .int) 1 := ⟨bigm 743 (by decide +kernel) rfl, bigm 36 (by decide +kernel) rfl, by decide +kernel, by decide +kernel, by decide +kernel⟩
set_option maxRecDepth 100000 in
theorem ins_X11_film : Cond.instanceMethod yX11_film ∈ BIG := bigm 741 (by decide +kernel) rfl
set_option maxRecDepth 100000 in
theorem sel_X11_film : Cond.selects yX11_film.cls yX11_film yX11_film ∈ BIG := bigm 742 (by decide +kernel) rfl
theorem vir_X11_film {k : Nat} {A : AL} (h : k < A.1) (h2 : k < nObj) (h3 : (tb k).1 = 13) : VIR yX11_film k A := ⟨ins_X11_film, sel_X11_film, h, h2, 11, _, _, rfl, h3⟩
set_option maxRecDepth 100000 in
theorem lkb_X11_held : LKB yX11_held cX11_held 4 (some .int) 2 := ⟨bigm 751 (by decide +kernel) rfl, bigm 36 (by decide +kernel) rfl, by decide +kernel, by decide +kernel, by decide +kernel⟩
set_option maxRecDepth 100000 in
theorem ins_X11_held : Cond.instanceMethod yX11_held ∈ BIG := bigm 749 (by decide +kernel) rfl
set_option maxRecDepth 100000 in
theorem sel_X11_held : Cond.selects yX11_held.cls yX11_held yX11_held ∈ BIG := bigm 750 (by decide +kernel) rfl
theorem vir_X11_held {k : Nat} {A : AL} (h : k < A.1) (h2 : k < nObj) (h3 : (tb k).1 = 13) : VIR yX11_held k A := ⟨ins_X11_held, sel_X11_held, h, h2, 11, _, _, rfl, h3⟩
set_option maxRecDepth 100000 in
theorem lkb_X11_heldUp : LKB yX11_heldUp cX11_heldUp 3 (some .int) 1 := ⟨bigm 761 (by decide +kernel) rfl, bigm 36 (by decide +kernel) rfl, by decide +kernel, by decide +kernel, by decide +kernel⟩
set_option maxRecDepth 100000 in
theorem ins_X11_heldUp : Cond.instanceMethod yX11_heldUp ∈ BIG := bigm 759 (by decide +kernel) rfl
set_option maxRecDepth 100000 in
theorem sel_X11_heldUp : Cond.selects yX11_heldUp.cls yX11_heldUp yX11_heldUp ∈ BIG := bigm 760 (by decide +kernel) rfl
theorem vir_X11_heldUp {k : Nat} {A : AL} (h : k < A.1) (h2 : k < nObj) (h3 : (tb k).1 = 13) : VIR yX11_heldUp k A := ⟨ins_X11_heldUp, sel_X11_heldUp, h, h2, 11, _, _, rfl, h3⟩
set_option maxRecDepth 100000 in
theorem lkb_X11_image : LKB yX11_image cX11_image 1 (some .int) 0 := ⟨bigm 771 (by decide +kernel) rfl, bigm 36 (by decide +kernel) rfl, by decide +kernel, by decide +kernel, by decide +kernel⟩
set_option maxRecDepth 100000 in
theorem ins_X11_image : Cond.instanceMethod yX11_image ∈ BIG := bigm 769 (by decide +kernel) rfl
set_option maxRecDepth 100000 in
theorem sel_X11_image : Cond.selects yX11_image.cls yX11_image yX11_image ∈ BIG := bigm 770 (by decide +kernel) rfl
theorem vir_X11_image {k : Nat} {A : AL} (h : k < A.1) (h2 : k < nObj) (h3 : (tb k).1 = 13) : VIR yX11_image k A := ⟨ins_X11_image, sel_X11_image, h, h2, 11, _, _, rfl, h3⟩
set_option maxRecDepth 100000 in
theorem lkb_X11_on : LKB yX11_on cX11_on 1 (some .int) 0 := ⟨bigm 781 (by decide +kernel) rfl, bigm 36 (by decide +kernel) rfl, by decide +kernel, by decide +kernel, by decide +kernel⟩
set_option maxRecDepth 100000 in
theorem ins_X11_on : Cond.instanceMethod yX11_on ∈ BIG := bigm 779 (by decide +kernel) rfl
set_option maxRecDepth 100000 in
theorem sel_X11_on : Cond.selects yX11_on.cls yX11_on yX11_on ∈ BIG := bigm 780 (by decide +kernel) rfl
theorem vir_X11_on {k : Nat} {A : AL} (h : k < A.1) (h2 : k < nObj) (h3 : (tb k).1 = 13) : VIR yX11_on k A := ⟨ins_X11_on, sel_X11_on, h, h2, 11, _, _, rfl, h3⟩
set_option maxRecDepth 100000 in
theorem lkb_X11_count : LKB yX11_count cX11_count 2 (some .int) 1 := ⟨bigm 789 (by decide +kernel) rfl, bigm 36 (by decide +kernel) rfl, by decide +kernel, by decide +kernel, by decide +kernel⟩
set_option maxRecDepth 100000 in
theorem ins_X11_count : Cond.instanceMethod yX11_count ∈ BIG := bigm 787 (by decide +kernel) rfl
set_option maxRecDepth 100000 in
theorem sel_X11_count : Cond.selects yX11_count.cls yX11_count yX11_count ∈ BIG := bigm 788 (by decide +kernel) rfl
theorem vir_X11_count {k : Nat} {A : AL} (h : k < A.1) (h2 : k < nObj) (h3 : (tb k).1 = 13) : VIR yX11_count k A := ⟨ins_X11_count, sel_X11_count, h, h2, 11, _, _, rfl, h3⟩
set_option maxRecDepth 100000 in
theorem lkb_X11_refuse : LKB yX11_refuse cX11_refuse 3 (some .int) 1 := ⟨bigm 414 (by decide +kernel) rfl, bigm 36 (by decide +kernel) rfl, by decide +kernel, by decide +kernel, by decide +kernel⟩
set_option maxRecDepth 100000 in
theorem ins_X11_refuse : Cond.instanceMethod yX11_refuse ∈ BIG := bigm 413 (by decide +kernel) rfl
set_option maxRecDepth 100000 in
theorem sel_X11_refuse : Cond.selects yX11_refuse.cls yX11_refuse yX11_refuse ∈ BIG := bigm 2 (by decide +kernel) rfl
theorem vir_X11_refuse {k : Nat} {A : AL} (h : k < A.1) (h2 : k < nObj) (h3 : (tb k).1 = 13) : VIR yX11_refuse k A := ⟨ins_X11_refuse, sel_X11_refuse, h, h2, 11, _, _, rfl, h3⟩
set_option maxRecDepth 100000 in
theorem lkb_X11_solvedNow : LKB yX11_solvedNow cX11_solvedNow 1 (some .int) 0 := ⟨bigm 515 (by decide +kernel) rfl, bigm 36 (by decide +kernel) rfl, by decide +kernel, by decide +kernel, by decide +kernel⟩
set_option maxRecDepth 100000 in
theorem ins_X11_solvedNow : Cond.instanceMethod yX11_solvedNow ∈ BIG := bigm 514 (by decide +kernel) rfl
set_option maxRecDepth 100000 in
theorem sel_X11_solvedNow : Cond.selects yX11_solvedNow.cls yX11_solvedNow yX11_solvedNow ∈ BIG := bigm 3 (by decide +kernel) rfl
theorem vir_X11_solvedNow {k : Nat} {A : AL} (h : k < A.1) (h2 : k < nObj) (h3 : (tb k).1 = 13) : VIR yX11_solvedNow k A := ⟨ins_X11_solvedNow, sel_X11_solvedNow, h, h2, 11, _, _, rfl, h3⟩
set_option maxRecDepth 100000 in
theorem lkb_X11_isPlace : LKB yX11_isPlace cX11_isPlace 1 (some .boolean) 1 := ⟨bigm 430 (by decide +kernel) rfl, bigm 36 (by decide +kernel) rfl, by decide +kernel, by decide +kernel, by decide +kernel⟩
set_option maxRecDepth 100000 in
theorem sta_X11_isPlace : Cond.static yX11_isPlace ∈ BIG := bigm 429 (by decide +kernel) rfl
set_option maxRecDepth 100000 in
theorem lkb_X11_outside : LKB yX11_outside cX11_outside 3 (some .int) 3 := ⟨bigm 410 (by decide +kernel) rfl, bigm 36 (by decide +kernel) rfl, by decide +kernel, by decide +kernel, by decide +kernel⟩
set_option maxRecDepth 100000 in
theorem sta_X11_outside : Cond.static yX11_outside ∈ BIG := bigm 409 (by decide +kernel) rfl
set_option maxRecDepth 100000 in
theorem lkb_X11_exchange : LKB yX11_exchange cX11_exchange 4 (some .int) 3 := ⟨bigm 534 (by decide +kernel) rfl, bigm 36 (by decide +kernel) rfl, by decide +kernel, by decide +kernel, by decide +kernel⟩
set_option maxRecDepth 100000 in
theorem sta_X11_exchange : Cond.static yX11_exchange ∈ BIG := bigm 533 (by decide +kernel) rfl
set_option maxRecDepth 100000 in
theorem lkb_X11_leastTerms : LKB yX11_leastTerms cX11_leastTerms 4 (some .int) 3 := ⟨bigm 693 (by decide +kernel) rfl, bigm 36 (by decide +kernel) rfl, by decide +kernel, by decide +kernel, by decide +kernel⟩
set_option maxRecDepth 100000 in
theorem sta_X11_leastTerms : Cond.static yX11_leastTerms ∈ BIG := bigm 692 (by decide +kernel) rfl
set_option maxRecDepth 100000 in
theorem lkb_X12_init : LKB yX12_init cX12_init 2 none 0 := ⟨bigm 795 (by decide +kernel) rfl, bigm 49 (by decide +kernel) rfl, by decide +kernel, by decide +kernel, by decide +kernel⟩
set_option maxRecDepth 100000 in
theorem ins_X12_init : Cond.instanceMethod yX12_init ∈ BIG := bigm 794 (by decide +kernel) rfl
set_option maxRecDepth 100000 in
theorem lkb_X12_refuse : LKB yX12_refuse cX12_refuse 2 (some .int) 1 := ⟨bigm 886 (by decide +kernel) rfl, bigm 49 (by decide +kernel) rfl, by decide +kernel, by decide +kernel, by decide +kernel⟩
set_option maxRecDepth 100000 in
theorem ins_X12_refuse : Cond.instanceMethod yX12_refuse ∈ BIG := bigm 885 (by decide +kernel) rfl
set_option maxRecDepth 100000 in
theorem sel_X12_refuse : Cond.selects yX12_refuse.cls yX12_refuse yX12_refuse ∈ BIG := bigm 6 (by decide +kernel) rfl
theorem vir_X12_refuse {k : Nat} {A : AL} (h : k < A.1) (h2 : k < nObj) (h3 : (tb k).1 = 14) : VIR yX12_refuse k A := ⟨ins_X12_refuse, sel_X12_refuse, h, h2, 12, _, _, rfl, h3⟩
set_option maxRecDepth 100000 in
theorem lkb_X12_isIn : LKB yX12_isIn cX12_isIn 2 (some .boolean) 2 := ⟨bigm 914 (by decide +kernel) rfl, bigm 49 (by decide +kernel) rfl, by decide +kernel, by decide +kernel, by decide +kernel⟩
set_option maxRecDepth 100000 in
theorem sta_X12_isIn : Cond.static yX12_isIn ∈ BIG := bigm 913 (by decide +kernel) rfl
set_option maxRecDepth 100000 in
theorem lkb_X12_within : LKB yX12_within cX12_within 3 (some .int) 3 := ⟨bigm 991 (by decide +kernel) rfl, bigm 49 (by decide +kernel) rfl, by decide +kernel, by decide +kernel, by decide +kernel⟩
set_option maxRecDepth 100000 in
theorem sta_X12_within : Cond.static yX12_within ∈ BIG := bigm 990 (by decide +kernel) rfl
set_option maxRecDepth 100000 in
theorem lkb_X12_isMove : LKB yX12_isMove cX12_isMove 2 (some .boolean) 1 := ⟨bigm 922 (by decide +kernel) rfl, bigm 49 (by decide +kernel) rfl, by decide +kernel, by decide +kernel, by decide +kernel⟩
set_option maxRecDepth 100000 in
theorem ins_X12_isMove : Cond.instanceMethod yX12_isMove ∈ BIG := bigm 921 (by decide +kernel) rfl
set_option maxRecDepth 100000 in
theorem sel_X12_isMove : Cond.selects yX12_isMove.cls yX12_isMove yX12_isMove ∈ BIG := bigm 11 (by decide +kernel) rfl
theorem vir_X12_isMove {k : Nat} {A : AL} (h : k < A.1) (h2 : k < nObj) (h3 : (tb k).1 = 14) : VIR yX12_isMove k A := ⟨ins_X12_isMove, sel_X12_isMove, h, h2, 12, _, _, rfl, h3⟩
set_option maxRecDepth 100000 in
theorem lkb_X12_isRow : LKB yX12_isRow cX12_isRow 2 (some .boolean) 1 := ⟨bigm 937 (by decide +kernel) rfl, bigm 49 (by decide +kernel) rfl, by decide +kernel, by decide +kernel, by decide +kernel⟩
set_option maxRecDepth 100000 in
theorem ins_X12_isRow : Cond.instanceMethod yX12_isRow ∈ BIG := bigm 936 (by decide +kernel) rfl
set_option maxRecDepth 100000 in
theorem sel_X12_isRow : Cond.selects yX12_isRow.cls yX12_isRow yX12_isRow ∈ BIG := bigm 13 (by decide +kernel) rfl
theorem vir_X12_isRow {k : Nat} {A : AL} (h : k < A.1) (h2 : k < nObj) (h3 : (tb k).1 = 14) : VIR yX12_isRow k A := ⟨ins_X12_isRow, sel_X12_isRow, h, h2, 12, _, _, rfl, h3⟩
set_option maxRecDepth 100000 in
theorem lkb_X12_isStep : LKB yX12_isStep cX12_isStep 2 (some .boolean) 1 := ⟨bigm 1105 (by decide +kernel) rfl, bigm 49 (by decide +kernel) rfl, by decide +kernel, by decide +kernel, by decide +kernel⟩
set_option maxRecDepth 100000 in
theorem ins_X12_isStep : Cond.instanceMethod yX12_isStep ∈ BIG := bigm 1104 (by decide +kernel) rfl
set_option maxRecDepth 100000 in
theorem sel_X12_isStep : Cond.selects yX12_isStep.cls yX12_isStep yX12_isStep ∈ BIG := bigm 30 (by decide +kernel) rfl
theorem vir_X12_isStep {k : Nat} {A : AL} (h : k < A.1) (h2 : k < nObj) (h3 : (tb k).1 = 14) : VIR yX12_isStep k A := ⟨ins_X12_isStep, sel_X12_isStep, h, h2, 12, _, _, rfl, h3⟩
set_option maxRecDepth 100000 in
theorem lkb_X12_isPlace : LKB yX12_isPlace cX12_isPlace 1 (some .boolean) 1 := ⟨bigm 925 (by decide +kernel) rfl, bigm 49 (by decide +kernel) rfl, by decide +kernel, by decide +kernel, by decide +kernel⟩
set_option maxRecDepth 100000 in
theorem sta_X12_isPlace : Cond.static yX12_isPlace ∈ BIG := bigm 924 (by decide +kernel) rfl
set_option maxRecDepth 100000 in
theorem lkb_X12_feed : LKB yX12_feed cX12_feed 5 (some .int) 2 := ⟨bigm 882 (by decide +kernel) rfl, bigm 49 (by decide +kernel) rfl, by decide +kernel, by decide +kernel, by decide +kernel⟩
set_option maxRecDepth 100000 in
theorem ins_X12_feed : Cond.instanceMethod yX12_feed ∈ BIG := bigm 880 (by decide +kernel) rfl
set_option maxRecDepth 100000 in
theorem sel_X12_feed : Cond.selects yX12_feed.cls yX12_feed yX12_feed ∈ BIG := bigm 881 (by decide +kernel) rfl
theorem vir_X12_feed {k : Nat} {A : AL} (h : k < A.1) (h2 : k < nObj) (h3 : (tb k).1 = 14) : VIR yX12_feed k A := ⟨ins_X12_feed, sel_X12_feed, h, h2, 12, _, _, rfl, h3⟩
set_option maxRecDepth 100000 in
theorem lkb_X12_sign : LKB yX12_sign cX12_sign 1 (some .int) 0 := ⟨bigm 903 (by decide +kernel) rfl, bigm 49 (by decide +kernel) rfl, by decide +kernel, by decide +kernel, by decide +kernel⟩
set_option maxRecDepth 100000 in
theorem ins_X12_sign : Cond.instanceMethod yX12_sign ∈ BIG := bigm 902 (by decide +kernel) rfl
set_option maxRecDepth 100000 in
theorem sel_X12_sign : Cond.selects yX12_sign.cls yX12_sign yX12_sign ∈ BIG := bigm 9 (by decide +kernel) rfl
theorem vir_X12_sign {k : Nat} {A : AL} (h : k < A.1) (h2 : k < nObj) (h3 : (tb k).1 = 14) : VIR yX12_sign k A := ⟨ins_X12_sign, sel_X12_sign, h, h2, 12, _, _, rfl, h3⟩
set_option maxRecDepth 100000 in
theorem lkb_X12_readsRing : LKB yX12_readsRing cX12_readsRing 5 (some .boolean) 0 := ⟨bigm 899 (by decide +kernel) rfl, bigm 49 (by decide +kernel) rfl, by decide +kernel, by decide +kernel, by decide +kernel⟩
set_option maxRecDepth 100000 in
theorem ins_X12_readsRing : Cond.instanceMethod yX12_readsRing ∈ BIG := bigm 898 (by decide +kernel) rfl
set_option maxRecDepth 100000 in
theorem sel_X12_readsRing : Cond.selects yX12_readsRing.cls yX12_readsRing yX12_readsRing ∈ BIG := bigm 8 (by decide +kernel) rfl
theorem vir_X12_readsRing {k : Nat} {A : AL} (h : k < A.1) (h2 : k < nObj) (h3 : (tb k).1 = 14) : VIR yX12_readsRing k A := ⟨ins_X12_readsRing, sel_X12_readsRing, h, h2, 12, _, _, rfl, h3⟩
set_option maxRecDepth 100000 in
theorem lkb_X12_readsTurn : LKB yX12_readsTurn cX12_readsTurn 2 (some .boolean) 0 := ⟨bigm 895 (by decide +kernel) rfl, bigm 49 (by decide +kernel) rfl, by decide +kernel, by decide +kernel, by decide +kernel⟩
set_option maxRecDepth 100000 in
theorem ins_X12_readsTurn : Cond.instanceMethod yX12_readsTurn ∈ BIG := bigm 894 (by decide +kernel) rfl
set_option maxRecDepth 100000 in
theorem sel_X12_readsTurn : Cond.selects yX12_readsTurn.cls yX12_readsTurn yX12_readsTurn ∈ BIG := bigm 7 (by decide +kernel) rfl
theorem vir_X12_readsTurn {k : Nat} {A : AL} (h : k < A.1) (h2 : k < nObj) (h3 : (tb k).1 = 14) : VIR yX12_readsTurn k A := ⟨ins_X12_readsTurn, sel_X12_readsTurn, h, h2, 12, _, _, rfl, h3⟩
set_option maxRecDepth 100000 in
theorem lkb_X12_turn : LKB yX12_turn cX12_turn 3 (some .int) 0 := ⟨bigm 891 (by decide +kernel) rfl, bigm 49 (by decide +kernel) rfl, by decide +kernel, by decide +kernel, by decide +kernel⟩
set_option maxRecDepth 100000 in
theorem ins_X12_turn : Cond.instanceMethod yX12_turn ∈ BIG := bigm 889 (by decide +kernel) rfl
set_option maxRecDepth 100000 in
theorem sel_X12_turn : Cond.selects yX12_turn.cls yX12_turn yX12_turn ∈ BIG := bigm 890 (by decide +kernel) rfl
theorem vir_X12_turn {k : Nat} {A : AL} (h : k < A.1) (h2 : k < nObj) (h3 : (tb k).1 = 14) : VIR yX12_turn k A := ⟨ins_X12_turn, sel_X12_turn, h, h2, 12, _, _, rfl, h3⟩
set_option maxRecDepth 100000 in
theorem lkb_X12_readsRow : LKB yX12_readsRow cX12_readsRow 4 (some .boolean) 0 := ⟨bigm 911 (by decide +kernel) rfl, bigm 49 (by decide +kernel) rfl, by decide +kernel, by decide +kernel, by decide +kernel⟩
set_option maxRecDepth 100000 in
theorem ins_X12_readsRow : Cond.instanceMethod yX12_readsRow ∈ BIG := bigm 910 (by decide +kernel) rfl
set_option maxRecDepth 100000 in
theorem sel_X12_readsRow : Cond.selects yX12_readsRow.cls yX12_readsRow yX12_readsRow ∈ BIG := bigm 10 (by decide +kernel) rfl
theorem vir_X12_readsRow {k : Nat} {A : AL} (h : k < A.1) (h2 : k < nObj) (h3 : (tb k).1 = 14) : VIR yX12_readsRow k A := ⟨ins_X12_readsRow, sel_X12_readsRow, h, h2, 12, _, _, rfl, h3⟩
set_option maxRecDepth 100000 in
theorem lkb_X12_row : LKB yX12_row cX12_row 3 (some .int) 0 := ⟨bigm 907 (by decide +kernel) rfl, bigm 49 (by decide +kernel) rfl, by decide +kernel, by decide +kernel, by decide +kernel⟩
set_option maxRecDepth 100000 in
theorem ins_X12_row : Cond.instanceMethod yX12_row ∈ BIG := bigm 905 (by decide +kernel) rfl
set_option maxRecDepth 100000 in
theorem sel_X12_row : Cond.selects yX12_row.cls yX12_row yX12_row ∈ BIG := bigm 906 (by decide +kernel) rfl
theorem vir_X12_row {k : Nat} {A : AL} (h : k < A.1) (h2 : k < nObj) (h3 : (tb k).1 = 14) : VIR yX12_row k A := ⟨ins_X12_row, sel_X12_row, h, h2, 12, _, _, rfl, h3⟩
set_option maxRecDepth 100000 in
theorem lkb_X12_goesTo : LKB yX12_goesTo cX12_goesTo 5 (some .int) 2 := ⟨bigm 929 (by decide +kernel) rfl, bigm 49 (by decide +kernel) rfl, by decide +kernel, by decide +kernel, by decide +kernel⟩
set_option maxRecDepth 100000 in
theorem ins_X12_goesTo : Cond.instanceMethod yX12_goesTo ∈ BIG := bigm 928 (by decide +kernel) rfl
set_option maxRecDepth 100000 in
theorem sel_X12_goesTo : Cond.selects yX12_goesTo.cls yX12_goesTo yX12_goesTo ∈ BIG := bigm 12 (by decide +kernel) rfl
theorem vir_X12_goesTo {k : Nat} {A : AL} (h : k < A.1) (h2 : k < nObj) (h3 : (tb k).1 = 14) : VIR yX12_goesTo k A := ⟨ins_X12_goesTo, sel_X12_goesTo, h, h2, 12, _, _, rfl, h3⟩
set_option maxRecDepth 100000 in
theorem lkb_X12_goes : LKB yX12_goes cX12_goes 3 (some .int) 2 := ⟨bigm 918 (by decide +kernel) rfl, bigm 49 (by decide +kernel) rfl, by decide +kernel, by decide +kernel, by decide +kernel⟩
set_option maxRecDepth 100000 in
theorem ins_X12_goes : Cond.instanceMethod yX12_goes ∈ BIG := bigm 916 (by decide +kernel) rfl
set_option maxRecDepth 100000 in
theorem sel_X12_goes : Cond.selects yX12_goes.cls yX12_goes yX12_goes ∈ BIG := bigm 917 (by decide +kernel) rfl
theorem vir_X12_goes {k : Nat} {A : AL} (h : k < A.1) (h2 : k < nObj) (h3 : (tb k).1 = 14) : VIR yX12_goes k A := ⟨ins_X12_goes, sel_X12_goes, h, h2, 12, _, _, rfl, h3⟩
set_option maxRecDepth 100000 in
theorem lkb_X12_size : LKB yX12_size cX12_size 2 (some .int) 1 := ⟨bigm 941 (by decide +kernel) rfl, bigm 49 (by decide +kernel) rfl, by decide +kernel, by decide +kernel, by decide +kernel⟩
set_option maxRecDepth 100000 in
theorem ins_X12_size : Cond.instanceMethod yX12_size ∈ BIG := bigm 940 (by decide +kernel) rfl
set_option maxRecDepth 100000 in
theorem sel_X12_size : Cond.selects yX12_size.cls yX12_size yX12_size ∈ BIG := bigm 14 (by decide +kernel) rfl
theorem vir_X12_size {k : Nat} {A : AL} (h : k < A.1) (h2 : k < nObj) (h3 : (tb k).1 = 14) : VIR yX12_size k A := ⟨ins_X12_size, sel_X12_size, h, h2, 12, _, _, rfl, h3⟩
set_option maxRecDepth 100000 in
theorem lkb_X12_moveOf : LKB yX12_moveOf cX12_moveOf 3 (some .int) 2 := ⟨bigm 945 (by decide +kernel) rfl, bigm 49 (by decide +kernel) rfl, by decide +kernel, by decide +kernel, by decide +kernel⟩
set_option maxRecDepth 100000 in
theorem ins_X12_moveOf : Cond.instanceMethod yX12_moveOf ∈ BIG := bigm 944 (by decide +kernel) rfl
set_option maxRecDepth 100000 in
theorem sel_X12_moveOf : Cond.selects yX12_moveOf.cls yX12_moveOf yX12_moveOf ∈ BIG := bigm 15 (by decide +kernel) rfl
theorem vir_X12_moveOf {k : Nat} {A : AL} (h : k < A.1) (h2 : k < nObj) (h3 : (tb k).1 = 14) : VIR yX12_moveOf k A := ⟨ins_X12_moveOf, sel_X12_moveOf, h, h2, 12, _, _, rfl, h3⟩
set_option maxRecDepth 100000 in
theorem lkb_X12_rowOf : LKB yX12_rowOf cX12_rowOf 3 (some .int) 2 := ⟨bigm 933 (by decide +kernel) rfl, bigm 49 (by decide +kernel) rfl, by decide +kernel, by decide +kernel, by decide +kernel⟩
set_option maxRecDepth 100000 in
theorem ins_X12_rowOf : Cond.instanceMethod yX12_rowOf ∈ BIG := bigm 931 (by decide +kernel) rfl
set_option maxRecDepth 100000 in
theorem sel_X12_rowOf : Cond.selects yX12_rowOf.cls yX12_rowOf yX12_rowOf ∈ BIG := bigm 932 (by decide +kernel) rfl
theorem vir_X12_rowOf {k : Nat} {A : AL} (h : k < A.1) (h2 : k < nObj) (h3 : (tb k).1 = 14) : VIR yX12_rowOf k A := ⟨ins_X12_rowOf, sel_X12_rowOf, h, h2, 12, _, _, rfl, h3⟩
set_option maxRecDepth 100000 in
theorem lkb_X12_doesTo : LKB yX12_doesTo cX12_doesTo 5 (some .int) 2 := ⟨bigm 953 (by decide +kernel) rfl, bigm 49 (by decide +kernel) rfl, by decide +kernel, by decide +kernel, by decide +kernel⟩
set_option maxRecDepth 100000 in
theorem ins_X12_doesTo : Cond.instanceMethod yX12_doesTo ∈ BIG := bigm 952 (by decide +kernel) rfl
set_option maxRecDepth 100000 in
theorem sel_X12_doesTo : Cond.selects yX12_doesTo.cls yX12_doesTo yX12_doesTo ∈ BIG := bigm 16 (by decide +kernel) rfl
theorem vir_X12_doesTo {k : Nat} {A : AL} (h : k < A.1) (h2 : k < nObj) (h3 : (tb k).1 = 14) : VIR yX12_doesTo k A := ⟨ins_X12_doesTo, sel_X12_doesTo, h, h2, 12, _, _, rfl, h3⟩
set_option maxRecDepth 100000 in
theorem lkb_X12_does : LKB yX12_does cX12_does 3 (some .int) 2 := ⟨bigm 949 (by decide +kernel) rfl, bigm 49 (by decide +kernel) rfl, by decide +kernel, by decide +kernel, by decide +kernel⟩
set_option maxRecDepth 100000 in
theorem ins_X12_does : Cond.instanceMethod yX12_does ∈ BIG := bigm 947 (by decide +kernel) rfl
set_option maxRecDepth 100000 in
theorem sel_X12_does : Cond.selects yX12_does.cls yX12_does yX12_does ∈ BIG := bigm 948 (by decide +kernel) rfl
theorem vir_X12_does {k : Nat} {A : AL} (h : k < A.1) (h2 : k < nObj) (h3 : (tb k).1 = 14) : VIR yX12_does k A := ⟨ins_X12_does, sel_X12_does, h, h2, 12, _, _, rfl, h3⟩
set_option maxRecDepth 100000 in
theorem lkb_X12_order : LKB yX12_order cX12_order 5 (some .int) 1 := ⟨bigm 957 (by decide +kernel) rfl, bigm 49 (by decide +kernel) rfl, by decide +kernel, by decide +kernel, by decide +kernel⟩
set_option maxRecDepth 100000 in
theorem ins_X12_order : Cond.instanceMethod yX12_order ∈ BIG := bigm 955 (by decide +kernel) rfl
set_option maxRecDepth 100000 in
theorem sel_X12_order : Cond.selects yX12_order.cls yX12_order yX12_order ∈ BIG := bigm 956 (by decide +kernel) rfl
theorem vir_X12_order {k : Nat} {A : AL} (h : k < A.1) (h2 : k < nObj) (h3 : (tb k).1 = 14) : VIR yX12_order k A := ⟨ins_X12_order, sel_X12_order, h, h2, 12, _, _, rfl, h3⟩
set_option maxRecDepth 100000 in
theorem lkb_X12_keeps : LKB yX12_keeps cX12_keeps 4 (some .int) 1 := ⟨bigm 961 (by decide +kernel) rfl, bigm 49 (by decide +kernel) rfl, by decide +kernel, by decide +kernel, by decide +kernel⟩
set_option maxRecDepth 100000 in
theorem ins_X12_keeps : Cond.instanceMethod yX12_keeps ∈ BIG := bigm 959 (by decide +kernel) rfl
set_option maxRecDepth 100000 in
theorem sel_X12_keeps : Cond.selects yX12_keeps.cls yX12_keeps yX12_keeps ∈ BIG := bigm 960 (by decide +kernel) rfl
theorem vir_X12_keeps {k : Nat} {A : AL} (h : k < A.1) (h2 : k < nObj) (h3 : (tb k).1 = 14) : VIR yX12_keeps k A := ⟨ins_X12_keeps, sel_X12_keeps, h, h2, 12, _, _, rfl, h3⟩
set_option maxRecDepth 100000 in
theorem lkb_X12_now : LKB yX12_now cX12_now 2 (some .int) 1 := ⟨bigm 965 (by decide +kernel) rfl, bigm 49 (by decide +kernel) rfl, by decide +kernel, by decide +kernel, by decide +kernel⟩
set_option maxRecDepth 100000 in
theorem ins_X12_now : Cond.instanceMethod yX12_now ∈ BIG := bigm 963 (by decide +kernel) rfl
set_option maxRecDepth 100000 in
theorem sel_X12_now : Cond.selects yX12_now.cls yX12_now yX12_now ∈ BIG := bigm 964 (by decide +kernel) rfl
theorem vir_X12_now {k : Nat} {A : AL} (h : k < A.1) (h2 : k < nObj) (h3 : (tb k).1 = 14) : VIR yX12_now k A := ⟨ins_X12_now, sel_X12_now, h, h2, 12, _, _, rfl, h3⟩
set_option maxRecDepth 100000 in
theorem lkb_X12_makes : LKB yX12_makes cX12_makes 5 none 3 := ⟨bigm 973 (by decide +kernel) rfl, bigm 49 (by decide +kernel) rfl, by decide +kernel, by decide +kernel, by decide +kernel⟩
set_option maxRecDepth 100000 in
theorem ins_X12_makes : Cond.instanceMethod yX12_makes ∈ BIG := bigm 972 (by decide +kernel) rfl
set_option maxRecDepth 100000 in
theorem sel_X12_makes : Cond.selects yX12_makes.cls yX12_makes yX12_makes ∈ BIG := bigm 17 (by decide +kernel) rfl
theorem vir_X12_makes {k : Nat} {A : AL} (h : k < A.1) (h2 : k < nObj) (h3 : (tb k).1 = 14) : VIR yX12_makes k A := ⟨ins_X12_makes, sel_X12_makes, h, h2, 12, _, _, rfl, h3⟩
set_option maxRecDepth 100000 in
theorem lkb_X12_makesRow : LKB yX12_makesRow cX12_makesRow 5 none 3 := ⟨bigm 984 (by decide +kernel) rfl, bigm 49 (by decide +kernel) rfl, by decide +kernel, by decide +kernel, by decide +kernel⟩
set_option maxRecDepth 100000 in
theorem ins_X12_makesRow : Cond.instanceMethod yX12_makesRow ∈ BIG := bigm 983 (by decide +kernel) rfl
set_option maxRecDepth 100000 in
theorem sel_X12_makesRow : Cond.selects yX12_makesRow.cls yX12_makesRow yX12_makesRow ∈ BIG := bigm 18 (by decide +kernel) rfl
theorem vir_X12_makesRow {k : Nat} {A : AL} (h : k < A.1) (h2 : k < nObj) (h3 : (tb k).1 = 14) : VIR yX12_makesRow k A := ⟨ins_X12_makesRow, sel_X12_makesRow, h, h2, 12, _, _, rfl, h3⟩
set_option maxRecDepth 100000 in
theorem lkb_X12_isSolved : LKB yX12_isSolved cX12_isSolved 3 (some .boolean) 2 := ⟨bigm 976 (by decide +kernel) rfl, bigm 49 (by decide +kernel) rfl, by decide +kernel, by decide +kernel, by decide +kernel⟩
set_option maxRecDepth 100000 in
theorem sta_X12_isSolved : Cond.static yX12_isSolved ∈ BIG := bigm 975 (by decide +kernel) rfl
set_option maxRecDepth 100000 in
theorem lkb_X12_make : LKB yX12_make cX12_make 2 (some .int) 1 := ⟨bigm 969 (by decide +kernel) rfl, bigm 49 (by decide +kernel) rfl, by decide +kernel, by decide +kernel, by decide +kernel⟩
set_option maxRecDepth 100000 in
theorem ins_X12_make : Cond.instanceMethod yX12_make ∈ BIG := bigm 967 (by decide +kernel) rfl
set_option maxRecDepth 100000 in
theorem sel_X12_make : Cond.selects yX12_make.cls yX12_make yX12_make ∈ BIG := bigm 968 (by decide +kernel) rfl
theorem vir_X12_make {k : Nat} {A : AL} (h : k < A.1) (h2 : k < nObj) (h3 : (tb k).1 = 14) : VIR yX12_make k A := ⟨ins_X12_make, sel_X12_make, h, h2, 12, _, _, rfl, h3⟩
set_option maxRecDepth 100000 in
theorem lkb_X12_makeRow : LKB yX12_makeRow cX12_makeRow 2 (some .int) 1 := ⟨bigm 980 (by decide +kernel) rfl, bigm 49 (by decide +kernel) rfl, by decide +kernel, by decide +kernel, by decide +kernel⟩
set_option maxRecDepth 100000 in
theorem ins_X12_makeRow : Cond.instanceMethod yX12_makeRow ∈ BIG := bigm 978 (by decide +kernel) rfl
set_option maxRecDepth 100000 in
theorem sel_X12_makeRow : Cond.selects yX12_makeRow.cls yX12_makeRow yX12_makeRow ∈ BIG := bigm 979 (by decide +kernel) rfl
theorem vir_X12_makeRow {k : Nat} {A : AL} (h : k < A.1) (h2 : k < nObj) (h3 : (tb k).1 = 14) : VIR yX12_makeRow k A := ⟨ins_X12_makeRow, sel_X12_makeRow, h, h2, 12, _, _, rfl, h3⟩
set_option maxRecDepth 100000 in
theorem lkb_X12_puts : LKB yX12_puts cX12_puts 9 none 3 := ⟨bigm 994 (by decide +kernel) rfl, bigm 49 (by decide +kernel) rfl, by decide +kernel, by decide +kernel, by decide +kernel⟩
set_option maxRecDepth 100000 in
theorem sta_X12_puts : Cond.static yX12_puts ∈ BIG := bigm 993 (by decide +kernel) rfl
set_option maxRecDepth 100000 in
theorem lkb_X12_numberOf : LKB yX12_numberOf cX12_numberOf 6 (some .int) 2 := ⟨bigm 1065 (by decide +kernel) rfl, bigm 49 (by decide +kernel) rfl, by decide +kernel, by decide +kernel, by decide +kernel⟩
set_option maxRecDepth 100000 in
theorem sta_X12_numberOf : Cond.static yX12_numberOf ∈ BIG := bigm 1064 (by decide +kernel) rfl
set_option maxRecDepth 100000 in
theorem lkb_X12_put : LKB yX12_put cX12_put 3 (some .int) 1 := ⟨bigm 988 (by decide +kernel) rfl, bigm 49 (by decide +kernel) rfl, by decide +kernel, by decide +kernel, by decide +kernel⟩
set_option maxRecDepth 100000 in
theorem ins_X12_put : Cond.instanceMethod yX12_put ∈ BIG := bigm 986 (by decide +kernel) rfl
set_option maxRecDepth 100000 in
theorem sel_X12_put : Cond.selects yX12_put.cls yX12_put yX12_put ∈ BIG := bigm 987 (by decide +kernel) rfl
theorem vir_X12_put {k : Nat} {A : AL} (h : k < A.1) (h2 : k < nObj) (h3 : (tb k).1 = 14) : VIR yX12_put k A := ⟨ins_X12_put, sel_X12_put, h, h2, 12, _, _, rfl, h3⟩
set_option maxRecDepth 100000 in
theorem lkb_X12_time : LKB yX12_time cX12_time 7 (some .int) 3 := ⟨bigm 998 (by decide +kernel) rfl, bigm 49 (by decide +kernel) rfl, by decide +kernel, by decide +kernel, by decide +kernel⟩
set_option maxRecDepth 100000 in
theorem ins_X12_time : Cond.instanceMethod yX12_time ∈ BIG := bigm 996 (by decide +kernel) rfl
set_option maxRecDepth 100000 in
theorem sel_X12_time : Cond.selects yX12_time.cls yX12_time yX12_time ∈ BIG := bigm 997 (by decide +kernel) rfl
theorem vir_X12_time {k : Nat} {A : AL} (h : k < A.1) (h2 : k < nObj) (h3 : (tb k).1 = 14) : VIR yX12_time k A := ⟨ins_X12_time, sel_X12_time, h, h2, 12, _, _, rfl, h3⟩
set_option maxRecDepth 100000 in
theorem lkb_X12_after : LKB yX12_after cX12_after 6 (some .int) 3 := ⟨bigm 1002 (by decide +kernel) rfl, bigm 49 (by decide +kernel) rfl, by decide +kernel, by decide +kernel, by decide +kernel⟩
set_option maxRecDepth 100000 in
theorem ins_X12_after : Cond.instanceMethod yX12_after ∈ BIG := bigm 1000 (by decide +kernel) rfl
set_option maxRecDepth 100000 in
theorem sel_X12_after : Cond.selects yX12_after.cls yX12_after yX12_after ∈ BIG := bigm 1001 (by decide +kernel) rfl
theorem vir_X12_after {k : Nat} {A : AL} (h : k < A.1) (h2 : k < nObj) (h3 : (tb k).1 = 14) : VIR yX12_after k A := ⟨ins_X12_after, sel_X12_after, h, h2, 12, _, _, rfl, h3⟩
set_option maxRecDepth 100000 in
theorem lkb_X12_locks : LKB yX12_locks cX12_locks 5 (some .int) 2 := ⟨bigm 1007 (by decide +kernel) rfl, bigm 49 (by decide +kernel) rfl, by decide +kernel, by decide +kernel, by decide +kernel⟩
set_option maxRecDepth 100000 in
theorem ins_X12_locks : Cond.instanceMethod yX12_locks ∈ BIG := bigm 1005 (by decide +kernel) rfl
set_option maxRecDepth 100000 in
theorem sel_X12_locks : Cond.selects yX12_locks.cls yX12_locks yX12_locks ∈ BIG := bigm 1006 (by decide +kernel) rfl
theorem vir_X12_locks {k : Nat} {A : AL} (h : k < A.1) (h2 : k < nObj) (h3 : (tb k).1 = 14) : VIR yX12_locks k A := ⟨ins_X12_locks, sel_X12_locks, h, h2, 12, _, _, rfl, h3⟩
set_option maxRecDepth 100000 in
theorem lkb_X12_afterOf : LKB yX12_afterOf cX12_afterOf 3 (some .int) 2 := ⟨bigm 1015 (by decide +kernel) rfl, bigm 49 (by decide +kernel) rfl, by decide +kernel, by decide +kernel, by decide +kernel⟩
set_option maxRecDepth 100000 in
theorem ins_X12_afterOf : Cond.instanceMethod yX12_afterOf ∈ BIG := bigm 1014 (by decide +kernel) rfl
set_option maxRecDepth 100000 in
theorem sel_X12_afterOf : Cond.selects yX12_afterOf.cls yX12_afterOf yX12_afterOf ∈ BIG := bigm 19 (by decide +kernel) rfl
theorem vir_X12_afterOf {k : Nat} {A : AL} (h : k < A.1) (h2 : k < nObj) (h3 : (tb k).1 = 14) : VIR yX12_afterOf k A := ⟨ins_X12_afterOf, sel_X12_afterOf, h, h2, 12, _, _, rfl, h3⟩
set_option maxRecDepth 100000 in
theorem lkb_X12_takes : LKB yX12_takes cX12_takes 4 (some .int) 2 := ⟨bigm 1031 (by decide +kernel) rfl, bigm 49 (by decide +kernel) rfl, by decide +kernel, by decide +kernel, by decide +kernel⟩
set_option maxRecDepth 100000 in
theorem ins_X12_takes : Cond.instanceMethod yX12_takes ∈ BIG := bigm 1030 (by decide +kernel) rfl
set_option maxRecDepth 100000 in
theorem sel_X12_takes : Cond.selects yX12_takes.cls yX12_takes yX12_takes ∈ BIG := bigm 22 (by decide +kernel) rfl
theorem vir_X12_takes {k : Nat} {A : AL} (h : k < A.1) (h2 : k < nObj) (h3 : (tb k).1 = 14) : VIR yX12_takes k A := ⟨ins_X12_takes, sel_X12_takes, h, h2, 12, _, _, rfl, h3⟩
set_option maxRecDepth 100000 in
theorem lkb_X12_takesOf : LKB yX12_takesOf cX12_takesOf 3 (some .int) 2 := ⟨bigm 1027 (by decide +kernel) rfl, bigm 49 (by decide +kernel) rfl, by decide +kernel, by decide +kernel, by decide +kernel⟩
set_option maxRecDepth 100000 in
theorem ins_X12_takesOf : Cond.instanceMethod yX12_takesOf ∈ BIG := bigm 1026 (by decide +kernel) rfl
set_option maxRecDepth 100000 in
theorem sel_X12_takesOf : Cond.selects yX12_takesOf.cls yX12_takesOf yX12_takesOf ∈ BIG := bigm 21 (by decide +kernel) rfl
theorem vir_X12_takesOf {k : Nat} {A : AL} (h : k < A.1) (h2 : k < nObj) (h3 : (tb k).1 = 14) : VIR yX12_takesOf k A := ⟨ins_X12_takesOf, sel_X12_takesOf, h, h2, 12, _, _, rfl, h3⟩
set_option maxRecDepth 100000 in
theorem lkb_X12_kind : LKB yX12_kind cX12_kind 6 (some .int) 2 := ⟨bigm 1011 (by decide +kernel) rfl, bigm 49 (by decide +kernel) rfl, by decide +kernel, by decide +kernel, by decide +kernel⟩
set_option maxRecDepth 100000 in
theorem ins_X12_kind : Cond.instanceMethod yX12_kind ∈ BIG := bigm 1009 (by decide +kernel) rfl
set_option maxRecDepth 100000 in
theorem sel_X12_kind : Cond.selects yX12_kind.cls yX12_kind yX12_kind ∈ BIG := bigm 1010 (by decide +kernel) rfl
theorem vir_X12_kind {k : Nat} {A : AL} (h : k < A.1) (h2 : k < nObj) (h3 : (tb k).1 = 14) : VIR yX12_kind k A := ⟨ins_X12_kind, sel_X12_kind, h, h2, 12, _, _, rfl, h3⟩
set_option maxRecDepth 100000 in
theorem lkb_X12_secondsOf : LKB yX12_secondsOf cX12_secondsOf 4 (some .int) 1 := ⟨bigm 1023 (by decide +kernel) rfl, bigm 49 (by decide +kernel) rfl, by decide +kernel, by decide +kernel, by decide +kernel⟩
set_option maxRecDepth 100000 in
theorem ins_X12_secondsOf : Cond.instanceMethod yX12_secondsOf ∈ BIG := bigm 1022 (by decide +kernel) rfl
set_option maxRecDepth 100000 in
theorem sel_X12_secondsOf : Cond.selects yX12_secondsOf.cls yX12_secondsOf yX12_secondsOf ∈ BIG := bigm 20 (by decide +kernel) rfl
theorem vir_X12_secondsOf {k : Nat} {A : AL} (h : k < A.1) (h2 : k < nObj) (h3 : (tb k).1 = 14) : VIR yX12_secondsOf k A := ⟨ins_X12_secondsOf, sel_X12_secondsOf, h, h2, 12, _, _, rfl, h3⟩
set_option maxRecDepth 100000 in
theorem lkb_X12_seconds : LKB yX12_seconds cX12_seconds 2 (some .int) 1 := ⟨bigm 1019 (by decide +kernel) rfl, bigm 49 (by decide +kernel) rfl, by decide +kernel, by decide +kernel, by decide +kernel⟩
set_option maxRecDepth 100000 in
theorem ins_X12_seconds : Cond.instanceMethod yX12_seconds ∈ BIG := bigm 1017 (by decide +kernel) rfl
set_option maxRecDepth 100000 in
theorem sel_X12_seconds : Cond.selects yX12_seconds.cls yX12_seconds yX12_seconds ∈ BIG := bigm 1018 (by decide +kernel) rfl
theorem vir_X12_seconds {k : Nat} {A : AL} (h : k < A.1) (h2 : k < nObj) (h3 : (tb k).1 = 14) : VIR yX12_seconds k A := ⟨ins_X12_seconds, sel_X12_seconds, h, h2, 12, _, _, rfl, h3⟩
set_option maxRecDepth 100000 in
theorem lkb_X12_mean : LKB yX12_mean cX12_mean 2 (some .int) 1 := ⟨bigm 1035 (by decide +kernel) rfl, bigm 49 (by decide +kernel) rfl, by decide +kernel, by decide +kernel, by decide +kernel⟩
set_option maxRecDepth 100000 in
theorem ins_X12_mean : Cond.instanceMethod yX12_mean ∈ BIG := bigm 1033 (by decide +kernel) rfl
set_option maxRecDepth 100000 in
theorem sel_X12_mean : Cond.selects yX12_mean.cls yX12_mean yX12_mean ∈ BIG := bigm 1034 (by decide +kernel) rfl
theorem vir_X12_mean {k : Nat} {A : AL} (h : k < A.1) (h2 : k < nObj) (h3 : (tb k).1 = 14) : VIR yX12_mean k A := ⟨ins_X12_mean, sel_X12_mean, h, h2, 12, _, _, rfl, h3⟩
set_option maxRecDepth 100000 in
theorem lkb_X12_drawn : LKB yX12_drawn cX12_drawn 6 (some .int) 2 := ⟨bigm 1039 (by decide +kernel) rfl, bigm 49 (by decide +kernel) rfl, by decide +kernel, by decide +kernel, by decide +kernel⟩
set_option maxRecDepth 100000 in
theorem ins_X12_drawn : Cond.instanceMethod yX12_drawn ∈ BIG := bigm 1037 (by decide +kernel) rfl
set_option maxRecDepth 100000 in
theorem sel_X12_drawn : Cond.selects yX12_drawn.cls yX12_drawn yX12_drawn ∈ BIG := bigm 1038 (by decide +kernel) rfl
theorem vir_X12_drawn {k : Nat} {A : AL} (h : k < A.1) (h2 : k < nObj) (h3 : (tb k).1 = 14) : VIR yX12_drawn k A := ⟨ins_X12_drawn, sel_X12_drawn, h, h2, 12, _, _, rfl, h3⟩
set_option maxRecDepth 100000 in
theorem lkb_X12_tries : LKB yX12_tries cX12_tries 6 none 3 := ⟨bigm 1050 (by decide +kernel) rfl, bigm 49 (by decide +kernel) rfl, by decide +kernel, by decide +kernel, by decide +kernel⟩
set_option maxRecDepth 100000 in
theorem ins_X12_tries : Cond.instanceMethod yX12_tries ∈ BIG := bigm 1049 (by decide +kernel) rfl
set_option maxRecDepth 100000 in
theorem sel_X12_tries : Cond.selects yX12_tries.cls yX12_tries yX12_tries ∈ BIG := bigm 23 (by decide +kernel) rfl
theorem vir_X12_tries {k : Nat} {A : AL} (h : k < A.1) (h2 : k < nObj) (h3 : (tb k).1 = 14) : VIR yX12_tries k A := ⟨ins_X12_tries, sel_X12_tries, h, h2, 12, _, _, rfl, h3⟩
set_option maxRecDepth 100000 in
theorem lkb_X12_better : LKB yX12_better cX12_better 5 (some .int) 2 := ⟨bigm 1046 (by decide +kernel) rfl, bigm 49 (by decide +kernel) rfl, by decide +kernel, by decide +kernel, by decide +kernel⟩
set_option maxRecDepth 100000 in
theorem ins_X12_better : Cond.instanceMethod yX12_better ∈ BIG := bigm 1044 (by decide +kernel) rfl
set_option maxRecDepth 100000 in
theorem sel_X12_better : Cond.selects yX12_better.cls yX12_better yX12_better ∈ BIG := bigm 1045 (by decide +kernel) rfl
theorem vir_X12_better {k : Nat} {A : AL} (h : k < A.1) (h2 : k < nObj) (h3 : (tb k).1 = 14) : VIR yX12_better k A := ⟨ins_X12_better, sel_X12_better, h, h2, 12, _, _, rfl, h3⟩
set_option maxRecDepth 100000 in
theorem lkb_X12_found : LKB yX12_found cX12_found 2 (some .int) 1 := ⟨bigm 1054 (by decide +kernel) rfl, bigm 49 (by decide +kernel) rfl, by decide +kernel, by decide +kernel, by decide +kernel⟩
set_option maxRecDepth 100000 in
theorem ins_X12_found : Cond.instanceMethod yX12_found ∈ BIG := bigm 1052 (by decide +kernel) rfl
set_option maxRecDepth 100000 in
theorem sel_X12_found : Cond.selects yX12_found.cls yX12_found yX12_found ∈ BIG := bigm 1053 (by decide +kernel) rfl
theorem vir_X12_found {k : Nat} {A : AL} (h : k < A.1) (h2 : k < nObj) (h3 : (tb k).1 = 14) : VIR yX12_found k A := ⟨ins_X12_found, sel_X12_found, h, h2, 12, _, _, rfl, h3⟩
set_option maxRecDepth 100000 in
theorem lkb_X12_findFar : LKB yX12_findFar cX12_findFar 6 none 0 := ⟨bigm 1062 (by decide +kernel) rfl, bigm 49 (by decide +kernel) rfl, by decide +kernel, by decide +kernel, by decide +kernel⟩
set_option maxRecDepth 100000 in
theorem ins_X12_findFar : Cond.instanceMethod yX12_findFar ∈ BIG := bigm 1061 (by decide +kernel) rfl
set_option maxRecDepth 100000 in
theorem sel_X12_findFar : Cond.selects yX12_findFar.cls yX12_findFar yX12_findFar ∈ BIG := bigm 24 (by decide +kernel) rfl
theorem vir_X12_findFar {k : Nat} {A : AL} (h : k < A.1) (h2 : k < nObj) (h3 : (tb k).1 = 14) : VIR yX12_findFar k A := ⟨ins_X12_findFar, sel_X12_findFar, h, h2, 12, _, _, rfl, h3⟩
set_option maxRecDepth 100000 in
theorem lkb_X12_fewest : LKB yX12_fewest cX12_fewest 1 (some .int) 0 := ⟨bigm 1058 (by decide +kernel) rfl, bigm 49 (by decide +kernel) rfl, by decide +kernel, by decide +kernel, by decide +kernel⟩
set_option maxRecDepth 100000 in
theorem ins_X12_fewest : Cond.instanceMethod yX12_fewest ∈ BIG := bigm 1056 (by decide +kernel) rfl
set_option maxRecDepth 100000 in
theorem sel_X12_fewest : Cond.selects yX12_fewest.cls yX12_fewest yX12_fewest ∈ BIG := bigm 1057 (by decide +kernel) rfl
theorem vir_X12_fewest {k : Nat} {A : AL} (h : k < A.1) (h2 : k < nObj) (h3 : (tb k).1 = 14) : VIR yX12_fewest k A := ⟨ins_X12_fewest, sel_X12_fewest, h, h2, 12, _, _, rfl, h3⟩
set_option maxRecDepth 100000 in
theorem lkb_X12_first : LKB yX12_first cX12_first 4 (some .int) 0 := ⟨bigm 1069 (by decide +kernel) rfl, bigm 49 (by decide +kernel) rfl, by decide +kernel, by decide +kernel, by decide +kernel⟩
set_option maxRecDepth 100000 in
theorem ins_X12_first : Cond.instanceMethod yX12_first ∈ BIG := bigm 1067 (by decide +kernel) rfl
set_option maxRecDepth 100000 in
theorem sel_X12_first : Cond.selects yX12_first.cls yX12_first yX12_first ∈ BIG := bigm 1068 (by decide +kernel) rfl
theorem vir_X12_first {k : Nat} {A : AL} (h : k < A.1) (h2 : k < nObj) (h3 : (tb k).1 = 14) : VIR yX12_first k A := ⟨ins_X12_first, sel_X12_first, h, h2, 12, _, _, rfl, h3⟩
set_option maxRecDepth 100000 in
theorem lkb_X12_step : LKB yX12_step cX12_step 4 (some .int) 2 := ⟨bigm 1073 (by decide +kernel) rfl, bigm 49 (by decide +kernel) rfl, by decide +kernel, by decide +kernel, by decide +kernel⟩
set_option maxRecDepth 100000 in
theorem ins_X12_step : Cond.instanceMethod yX12_step ∈ BIG := bigm 1071 (by decide +kernel) rfl
set_option maxRecDepth 100000 in
theorem sel_X12_step : Cond.selects yX12_step.cls yX12_step yX12_step ∈ BIG := bigm 1072 (by decide +kernel) rfl
theorem vir_X12_step {k : Nat} {A : AL} (h : k < A.1) (h2 : k < nObj) (h3 : (tb k).1 = 14) : VIR yX12_step k A := ⟨ins_X12_step, sel_X12_step, h, h2, 12, _, _, rfl, h3⟩
set_option maxRecDepth 100000 in
theorem lkb_X12_stepOf : LKB yX12_stepOf cX12_stepOf 3 (some .int) 2 := ⟨bigm 1093 (by decide +kernel) rfl, bigm 49 (by decide +kernel) rfl, by decide +kernel, by decide +kernel, by decide +kernel⟩
set_option maxRecDepth 100000 in
theorem ins_X12_stepOf : Cond.instanceMethod yX12_stepOf ∈ BIG := bigm 1092 (by decide +kernel) rfl
set_option maxRecDepth 100000 in
theorem sel_X12_stepOf : Cond.selects yX12_stepOf.cls yX12_stepOf yX12_stepOf ∈ BIG := bigm 28 (by decide +kernel) rfl
theorem vir_X12_stepOf {k : Nat} {A : AL} (h : k < A.1) (h2 : k < nObj) (h3 : (tb k).1 = 14) : VIR yX12_stepOf k A := ⟨ins_X12_stepOf, sel_X12_stepOf, h, h2, 12, _, _, rfl, h3⟩
set_option maxRecDepth 100000 in
theorem lkb_X12_isDone : LKB yX12_isDone cX12_isDone 5 (some .boolean) 2 := ⟨bigm 1089 (by decide +kernel) rfl, bigm 49 (by decide +kernel) rfl, by decide +kernel, by decide +kernel, by decide +kernel⟩
set_option maxRecDepth 100000 in
theorem ins_X12_isDone : Cond.instanceMethod yX12_isDone ∈ BIG := bigm 1088 (by decide +kernel) rfl
set_option maxRecDepth 100000 in
theorem sel_X12_isDone : Cond.selects yX12_isDone.cls yX12_isDone yX12_isDone ∈ BIG := bigm 27 (by decide +kernel) rfl
theorem vir_X12_isDone {k : Nat} {A : AL} (h : k < A.1) (h2 : k < nObj) (h3 : (tb k).1 = 14) : VIR yX12_isDone k A := ⟨ins_X12_isDone, sel_X12_isDone, h, h2, 12, _, _, rfl, h3⟩
set_option maxRecDepth 100000 in
theorem lkb_X12_rowFor : LKB yX12_rowFor cX12_rowFor 4 (some .int) 1 := ⟨bigm 1097 (by decide +kernel) rfl, bigm 49 (by decide +kernel) rfl, by decide +kernel, by decide +kernel, by decide +kernel⟩
set_option maxRecDepth 100000 in
theorem ins_X12_rowFor : Cond.instanceMethod yX12_rowFor ∈ BIG := bigm 1096 (by decide +kernel) rfl
set_option maxRecDepth 100000 in
theorem sel_X12_rowFor : Cond.selects yX12_rowFor.cls yX12_rowFor yX12_rowFor ∈ BIG := bigm 29 (by decide +kernel) rfl
theorem vir_X12_rowFor {k : Nat} {A : AL} (h : k < A.1) (h2 : k < nObj) (h3 : (tb k).1 = 14) : VIR yX12_rowFor k A := ⟨ins_X12_rowFor, sel_X12_rowFor, h, h2, 12, _, _, rfl, h3⟩
set_option maxRecDepth 100000 in
theorem lkb_X12_goesOn : LKB yX12_goesOn cX12_goesOn 2 none 0 := ⟨bigm 1085 (by decide +kernel) rfl, bigm 49 (by decide +kernel) rfl, by decide +kernel, by decide +kernel, by decide +kernel⟩
set_option maxRecDepth 100000 in
theorem ins_X12_goesOn : Cond.instanceMethod yX12_goesOn ∈ BIG := bigm 1084 (by decide +kernel) rfl
set_option maxRecDepth 100000 in
theorem sel_X12_goesOn : Cond.selects yX12_goesOn.cls yX12_goesOn yX12_goesOn ∈ BIG := bigm 26 (by decide +kernel) rfl
theorem vir_X12_goesOn {k : Nat} {A : AL} (h : k < A.1) (h2 : k < nObj) (h3 : (tb k).1 = 14) : VIR yX12_goesOn k A := ⟨ins_X12_goesOn, sel_X12_goesOn, h, h2, 12, _, _, rfl, h3⟩
set_option maxRecDepth 100000 in
theorem lkb_X12_triesNow : LKB yX12_triesNow cX12_triesNow 2 none 0 := ⟨bigm 1081 (by decide +kernel) rfl, bigm 49 (by decide +kernel) rfl, by decide +kernel, by decide +kernel, by decide +kernel⟩
set_option maxRecDepth 100000 in
theorem ins_X12_triesNow : Cond.instanceMethod yX12_triesNow ∈ BIG := bigm 1080 (by decide +kernel) rfl
set_option maxRecDepth 100000 in
theorem sel_X12_triesNow : Cond.selects yX12_triesNow.cls yX12_triesNow yX12_triesNow ∈ BIG := bigm 25 (by decide +kernel) rfl
theorem vir_X12_triesNow {k : Nat} {A : AL} (h : k < A.1) (h2 : k < nObj) (h3 : (tb k).1 = 14) : VIR yX12_triesNow k A := ⟨ins_X12_triesNow, sel_X12_triesNow, h, h2, 12, _, _, rfl, h3⟩
set_option maxRecDepth 100000 in
theorem lkb_X12_tried : LKB yX12_tried cX12_tried 1 (some .int) 0 := ⟨bigm 1077 (by decide +kernel) rfl, bigm 49 (by decide +kernel) rfl, by decide +kernel, by decide +kernel, by decide +kernel⟩
set_option maxRecDepth 100000 in
theorem ins_X12_tried : Cond.instanceMethod yX12_tried ∈ BIG := bigm 1075 (by decide +kernel) rfl
set_option maxRecDepth 100000 in
theorem sel_X12_tried : Cond.selects yX12_tried.cls yX12_tried yX12_tried ∈ BIG := bigm 1076 (by decide +kernel) rfl
theorem vir_X12_tried {k : Nat} {A : AL} (h : k < A.1) (h2 : k < nObj) (h3 : (tb k).1 = 14) : VIR yX12_tried k A := ⟨ins_X12_tried, sel_X12_tried, h, h2, 12, _, _, rfl, h3⟩
set_option maxRecDepth 100000 in
theorem lkb_X12_triedRow : LKB yX12_triedRow cX12_triedRow 2 (some .int) 1 := ⟨bigm 1101 (by decide +kernel) rfl, bigm 49 (by decide +kernel) rfl, by decide +kernel, by decide +kernel, by decide +kernel⟩
set_option maxRecDepth 100000 in
theorem ins_X12_triedRow : Cond.instanceMethod yX12_triedRow ∈ BIG := bigm 1099 (by decide +kernel) rfl
set_option maxRecDepth 100000 in
theorem sel_X12_triedRow : Cond.selects yX12_triedRow.cls yX12_triedRow yX12_triedRow ∈ BIG := bigm 1100 (by decide +kernel) rfl
theorem vir_X12_triedRow {k : Nat} {A : AL} (h : k < A.1) (h2 : k < nObj) (h3 : (tb k).1 = 14) : VIR yX12_triedRow k A := ⟨ins_X12_triedRow, sel_X12_triedRow, h, h2, 12, _, _, rfl, h3⟩
set_option maxRecDepth 100000 in
theorem lkb_X12_solvesFrom : LKB yX12_solvesFrom cX12_solvesFrom 2 (some .boolean) 1 := ⟨bigm 1117 (by decide +kernel) rfl, bigm 49 (by decide +kernel) rfl, by decide +kernel, by decide +kernel, by decide +kernel⟩
set_option maxRecDepth 100000 in
theorem ins_X12_solvesFrom : Cond.instanceMethod yX12_solvesFrom ∈ BIG := bigm 1116 (by decide +kernel) rfl
set_option maxRecDepth 100000 in
theorem sel_X12_solvesFrom : Cond.selects yX12_solvesFrom.cls yX12_solvesFrom yX12_solvesFrom ∈ BIG := bigm 32 (by decide +kernel) rfl
theorem vir_X12_solvesFrom {k : Nat} {A : AL} (h : k < A.1) (h2 : k < nObj) (h3 : (tb k).1 = 14) : VIR yX12_solvesFrom k A := ⟨ins_X12_solvesFrom, sel_X12_solvesFrom, h, h2, 12, _, _, rfl, h3⟩
set_option maxRecDepth 100000 in
theorem lkb_X12_solvesOf : LKB yX12_solvesOf cX12_solvesOf 3 (some .int) 0 := ⟨bigm 1113 (by decide +kernel) rfl, bigm 49 (by decide +kernel) rfl, by decide +kernel, by decide +kernel, by decide +kernel⟩
set_option maxRecDepth 100000 in
theorem ins_X12_solvesOf : Cond.instanceMethod yX12_solvesOf ∈ BIG := bigm 1112 (by decide +kernel) rfl
set_option maxRecDepth 100000 in
theorem sel_X12_solvesOf : Cond.selects yX12_solvesOf.cls yX12_solvesOf yX12_solvesOf ∈ BIG := bigm 31 (by decide +kernel) rfl
theorem vir_X12_solvesOf {k : Nat} {A : AL} (h : k < A.1) (h2 : k < nObj) (h3 : (tb k).1 = 14) : VIR yX12_solvesOf k A := ⟨ins_X12_solvesOf, sel_X12_solvesOf, h, h2, 12, _, _, rfl, h3⟩
set_option maxRecDepth 100000 in
theorem lkb_X12_solves : LKB yX12_solves cX12_solves 1 (some .int) 0 := ⟨bigm 1109 (by decide +kernel) rfl, bigm 49 (by decide +kernel) rfl, by decide +kernel, by decide +kernel, by decide +kernel⟩
set_option maxRecDepth 100000 in
theorem ins_X12_solves : Cond.instanceMethod yX12_solves ∈ BIG := bigm 1107 (by decide +kernel) rfl
set_option maxRecDepth 100000 in
theorem sel_X12_solves : Cond.selects yX12_solves.cls yX12_solves yX12_solves ∈ BIG := bigm 1108 (by decide +kernel) rfl
theorem vir_X12_solves {k : Nat} {A : AL} (h : k < A.1) (h2 : k < nObj) (h3 : (tb k).1 = 14) : VIR yX12_solves k A := ⟨ins_X12_solves, sel_X12_solves, h, h2, 12, _, _, rfl, h3⟩
set_option maxRecDepth 100000 in
theorem lkb_X12_lacks : LKB yX12_lacks cX12_lacks 2 (some .int) 0 := ⟨bigm 1121 (by decide +kernel) rfl, bigm 49 (by decide +kernel) rfl, by decide +kernel, by decide +kernel, by decide +kernel⟩
set_option maxRecDepth 100000 in
theorem ins_X12_lacks : Cond.instanceMethod yX12_lacks ∈ BIG := bigm 1119 (by decide +kernel) rfl
set_option maxRecDepth 100000 in
theorem sel_X12_lacks : Cond.selects yX12_lacks.cls yX12_lacks yX12_lacks ∈ BIG := bigm 1120 (by decide +kernel) rfl
theorem vir_X12_lacks {k : Nat} {A : AL} (h : k < A.1) (h2 : k < nObj) (h3 : (tb k).1 = 14) : VIR yX12_lacks k A := ⟨ins_X12_lacks, sel_X12_lacks, h, h2, 12, _, _, rfl, h3⟩
set_option maxRecDepth 100000 in
theorem lkb_X12_common : LKB yX12_common cX12_common 2 (some .int) 2 := ⟨bigm 1128 (by decide +kernel) rfl, bigm 49 (by decide +kernel) rfl, by decide +kernel, by decide +kernel, by decide +kernel⟩
set_option maxRecDepth 100000 in
theorem sta_X12_common : Cond.static yX12_common ∈ BIG := bigm 1127 (by decide +kernel) rfl
set_option maxRecDepth 100000 in
theorem lkb_X12_luck : LKB yX12_luck cX12_luck 6 (some .int) 2 := ⟨bigm 1125 (by decide +kernel) rfl, bigm 49 (by decide +kernel) rfl, by decide +kernel, by decide +kernel, by decide +kernel⟩
set_option maxRecDepth 100000 in
theorem ins_X12_luck : Cond.instanceMethod yX12_luck ∈ BIG := bigm 1123 (by decide +kernel) rfl
set_option maxRecDepth 100000 in
theorem sel_X12_luck : Cond.selects yX12_luck.cls yX12_luck yX12_luck ∈ BIG := bigm 1124 (by decide +kernel) rfl
theorem vir_X12_luck {k : Nat} {A : AL} (h : k < A.1) (h2 : k < nObj) (h3 : (tb k).1 = 14) : VIR yX12_luck k A := ⟨ins_X12_luck, sel_X12_luck, h, h2, 12, _, _, rfl, h3⟩
set_option maxRecDepth 100000 in
theorem lkb_X12_see : LKB yX12_see cX12_see 5 (some .int) 2 := ⟨bigm 1132 (by decide +kernel) rfl, bigm 49 (by decide +kernel) rfl, by decide +kernel, by decide +kernel, by decide +kernel⟩
set_option maxRecDepth 100000 in
theorem ins_X12_see : Cond.instanceMethod yX12_see ∈ BIG := bigm 1130 (by decide +kernel) rfl
set_option maxRecDepth 100000 in
theorem sel_X12_see : Cond.selects yX12_see.cls yX12_see yX12_see ∈ BIG := bigm 1131 (by decide +kernel) rfl
theorem vir_X12_see {k : Nat} {A : AL} (h : k < A.1) (h2 : k < nObj) (h3 : (tb k).1 = 14) : VIR yX12_see k A := ⟨ins_X12_see, sel_X12_see, h, h2, 12, _, _, rfl, h3⟩
set_option maxRecDepth 100000 in
theorem lkb_X12_sumBy : LKB yX12_sumBy cX12_sumBy 6 (some .int) 1 := ⟨bigm 1140 (by decide +kernel) rfl, bigm 49 (by decide +kernel) rfl, by decide +kernel, by decide +kernel, by decide +kernel⟩
set_option maxRecDepth 100000 in
theorem ins_X12_sumBy : Cond.instanceMethod yX12_sumBy ∈ BIG := bigm 1139 (by decide +kernel) rfl
set_option maxRecDepth 100000 in
theorem sel_X12_sumBy : Cond.selects yX12_sumBy.cls yX12_sumBy yX12_sumBy ∈ BIG := bigm 33 (by decide +kernel) rfl
theorem vir_X12_sumBy {k : Nat} {A : AL} (h : k < A.1) (h2 : k < nObj) (h3 : (tb k).1 = 14) : VIR yX12_sumBy k A := ⟨ins_X12_sumBy, sel_X12_sumBy, h, h2, 12, _, _, rfl, h3⟩
set_option maxRecDepth 100000 in
theorem lkb_X12_sum : LKB yX12_sum cX12_sum 3 (some .int) 1 := ⟨bigm 1136 (by decide +kernel) rfl, bigm 49 (by decide +kernel) rfl, by decide +kernel, by decide +kernel, by decide +kernel⟩
set_option maxRecDepth 100000 in
theorem ins_X12_sum : Cond.instanceMethod yX12_sum ∈ BIG := bigm 1134 (by decide +kernel) rfl
set_option maxRecDepth 100000 in
theorem sel_X12_sum : Cond.selects yX12_sum.cls yX12_sum yX12_sum ∈ BIG := bigm 1135 (by decide +kernel) rfl
theorem vir_X12_sum {k : Nat} {A : AL} (h : k < A.1) (h2 : k < nObj) (h3 : (tb k).1 = 14) : VIR yX12_sum k A := ⟨ins_X12_sum, sel_X12_sum, h, h2, 12, _, _, rfl, h3⟩
set_option maxRecDepth 100000 in
theorem lkb_X12_bestPace : LKB yX12_bestPace cX12_bestPace 5 (some .int) 0 := ⟨bigm 1144 (by decide +kernel) rfl, bigm 49 (by decide +kernel) rfl, by decide +kernel, by decide +kernel, by decide +kernel⟩
set_option maxRecDepth 100000 in
theorem ins_X12_bestPace : Cond.instanceMethod yX12_bestPace ∈ BIG := bigm 1142 (by decide +kernel) rfl
set_option maxRecDepth 100000 in
theorem sel_X12_bestPace : Cond.selects yX12_bestPace.cls yX12_bestPace yX12_bestPace ∈ BIG := bigm 1143 (by decide +kernel) rfl
theorem vir_X12_bestPace {k : Nat} {A : AL} (h : k < A.1) (h2 : k < nObj) (h3 : (tb k).1 = 14) : VIR yX12_bestPace k A := ⟨ins_X12_bestPace, sel_X12_bestPace, h, h2, 12, _, _, rfl, h3⟩
set_option maxRecDepth 100000 in
theorem lkb_X12_learn : LKB yX12_learn cX12_learn 7 (some .int) 1 := ⟨bigm 1148 (by decide +kernel) rfl, bigm 49 (by decide +kernel) rfl, by decide +kernel, by decide +kernel, by decide +kernel⟩
set_option maxRecDepth 100000 in
theorem ins_X12_learn : Cond.instanceMethod yX12_learn ∈ BIG := bigm 1146 (by decide +kernel) rfl
set_option maxRecDepth 100000 in
theorem sel_X12_learn : Cond.selects yX12_learn.cls yX12_learn yX12_learn ∈ BIG := bigm 1147 (by decide +kernel) rfl
theorem vir_X12_learn {k : Nat} {A : AL} (h : k < A.1) (h2 : k < nObj) (h3 : (tb k).1 = 14) : VIR yX12_learn k A := ⟨ins_X12_learn, sel_X12_learn, h, h2, 12, _, _, rfl, h3⟩
set_option maxRecDepth 100000 in
theorem lkb_X12_five : LKB yX12_five cX12_five 3 (some .int) 1 := ⟨bigm 1152 (by decide +kernel) rfl, bigm 49 (by decide +kernel) rfl, by decide +kernel, by decide +kernel, by decide +kernel⟩
set_option maxRecDepth 100000 in
theorem ins_X12_five : Cond.instanceMethod yX12_five ∈ BIG := bigm 1150 (by decide +kernel) rfl
set_option maxRecDepth 100000 in
theorem sel_X12_five : Cond.selects yX12_five.cls yX12_five yX12_five ∈ BIG := bigm 1151 (by decide +kernel) rfl
theorem vir_X12_five {k : Nat} {A : AL} (h : k < A.1) (h2 : k < nObj) (h3 : (tb k).1 = 14) : VIR yX12_five k A := ⟨ins_X12_five, sel_X12_five, h, h2, 12, _, _, rfl, h3⟩
set_option maxRecDepth 100000 in
theorem lkb_X12_middleSum : LKB yX12_middleSum cX12_middleSum 5 (some .int) 0 := ⟨bigm 1160 (by decide +kernel) rfl, bigm 49 (by decide +kernel) rfl, by decide +kernel, by decide +kernel, by decide +kernel⟩
set_option maxRecDepth 100000 in
theorem ins_X12_middleSum : Cond.instanceMethod yX12_middleSum ∈ BIG := bigm 1159 (by decide +kernel) rfl
set_option maxRecDepth 100000 in
theorem sel_X12_middleSum : Cond.selects yX12_middleSum.cls yX12_middleSum yX12_middleSum ∈ BIG := bigm 34 (by decide +kernel) rfl
theorem vir_X12_middleSum {k : Nat} {A : AL} (h : k < A.1) (h2 : k < nObj) (h3 : (tb k).1 = 14) : VIR yX12_middleSum k A := ⟨ins_X12_middleSum, sel_X12_middleSum, h, h2, 12, _, _, rfl, h3⟩
set_option maxRecDepth 100000 in
theorem lkb_X12_middle : LKB yX12_middle cX12_middle 3 (some .int) 1 := ⟨bigm 1156 (by decide +kernel) rfl, bigm 49 (by decide +kernel) rfl, by decide +kernel, by decide +kernel, by decide +kernel⟩
set_option maxRecDepth 100000 in
theorem ins_X12_middle : Cond.instanceMethod yX12_middle ∈ BIG := bigm 1154 (by decide +kernel) rfl
set_option maxRecDepth 100000 in
theorem sel_X12_middle : Cond.selects yX12_middle.cls yX12_middle yX12_middle ∈ BIG := bigm 1155 (by decide +kernel) rfl
theorem vir_X12_middle {k : Nat} {A : AL} (h : k < A.1) (h2 : k < nObj) (h3 : (tb k).1 = 14) : VIR yX12_middle k A := ⟨ins_X12_middle, sel_X12_middle, h, h2, 12, _, _, rfl, h3⟩
set_option maxRecDepth 100000 in
theorem lkb_X12_need : LKB yX12_need cX12_need 4 (some .int) 1 := ⟨bigm 1164 (by decide +kernel) rfl, bigm 49 (by decide +kernel) rfl, by decide +kernel, by decide +kernel, by decide +kernel⟩
set_option maxRecDepth 100000 in
theorem ins_X12_need : Cond.instanceMethod yX12_need ∈ BIG := bigm 1162 (by decide +kernel) rfl
set_option maxRecDepth 100000 in
theorem sel_X12_need : Cond.selects yX12_need.cls yX12_need yX12_need ∈ BIG := bigm 1163 (by decide +kernel) rfl
theorem vir_X12_need {k : Nat} {A : AL} (h : k < A.1) (h2 : k < nObj) (h3 : (tb k).1 = 14) : VIR yX12_need k A := ⟨ins_X12_need, sel_X12_need, h, h2, 12, _, _, rfl, h3⟩
set_option maxRecDepth 100000 in
theorem lkb_X12_film : LKB yX12_film cX12_film 3 (some .int) 1 := ⟨bigm 1168 (by decide +kernel) rfl, bigm 49 (by decide +kernel) rfl, by decide +kernel, by decide +kernel, by decide +kernel⟩
set_option maxRecDepth 100000 in
theorem ins_X12_film : Cond.instanceMethod yX12_film ∈ BIG := bigm 1166 (by decide +kernel) rfl
set_option maxRecDepth 100000 in
theorem sel_X12_film : Cond.selects yX12_film.cls yX12_film yX12_film ∈ BIG := bigm 1167 (by decide +kernel) rfl
theorem vir_X12_film {k : Nat} {A : AL} (h : k < A.1) (h2 : k < nObj) (h3 : (tb k).1 = 14) : VIR yX12_film k A := ⟨ins_X12_film, sel_X12_film, h, h2, 12, _, _, rfl, h3⟩
set_option maxRecDepth 100000 in
theorem lkb_X12_held : LKB yX12_held cX12_held 5 (some .int) 2 := ⟨bigm 1172 (by decide +kernel) rfl, bigm 49 (by decide +kernel) rfl, by decide +kernel, by decide +kernel, by decide +kernel⟩
set_option maxRecDepth 100000 in
theorem ins_X12_held : Cond.instanceMethod yX12_held ∈ BIG := bigm 1170 (by decide +kernel) rfl
set_option maxRecDepth 100000 in
theorem sel_X12_held : Cond.selects yX12_held.cls yX12_held yX12_held ∈ BIG := bigm 1171 (by decide +kernel) rfl
theorem vir_X12_held {k : Nat} {A : AL} (h : k < A.1) (h2 : k < nObj) (h3 : (tb k).1 = 14) : VIR yX12_held k A := ⟨ins_X12_held, sel_X12_held, h, h2, 12, _, _, rfl, h3⟩
set_option maxRecDepth 100000 in
theorem lkb_X12_heldUp : LKB yX12_heldUp cX12_heldUp 5 (some .int) 1 := ⟨bigm 1176 (by decide +kernel) rfl, bigm 49 (by decide +kernel) rfl, by decide +kernel, by decide +kernel, by decide +kernel⟩
set_option maxRecDepth 100000 in
theorem ins_X12_heldUp : Cond.instanceMethod yX12_heldUp ∈ BIG := bigm 1174 (by decide +kernel) rfl
set_option maxRecDepth 100000 in
theorem sel_X12_heldUp : Cond.selects yX12_heldUp.cls yX12_heldUp yX12_heldUp ∈ BIG := bigm 1175 (by decide +kernel) rfl
theorem vir_X12_heldUp {k : Nat} {A : AL} (h : k < A.1) (h2 : k < nObj) (h3 : (tb k).1 = 14) : VIR yX12_heldUp k A := ⟨ins_X12_heldUp, sel_X12_heldUp, h, h2, 12, _, _, rfl, h3⟩
set_option maxRecDepth 100000 in
theorem lkb_X12_image : LKB yX12_image cX12_image 2 (some .int) 0 := ⟨bigm 1180 (by decide +kernel) rfl, bigm 49 (by decide +kernel) rfl, by decide +kernel, by decide +kernel, by decide +kernel⟩
set_option maxRecDepth 100000 in
theorem ins_X12_image : Cond.instanceMethod yX12_image ∈ BIG := bigm 1178 (by decide +kernel) rfl
set_option maxRecDepth 100000 in
theorem sel_X12_image : Cond.selects yX12_image.cls yX12_image yX12_image ∈ BIG := bigm 1179 (by decide +kernel) rfl
theorem vir_X12_image {k : Nat} {A : AL} (h : k < A.1) (h2 : k < nObj) (h3 : (tb k).1 = 14) : VIR yX12_image k A := ⟨ins_X12_image, sel_X12_image, h, h2, 12, _, _, rfl, h3⟩
set_option maxRecDepth 100000 in
theorem lkb_X12_on : LKB yX12_on cX12_on 2 (some .int) 0 := ⟨bigm 1184 (by decide +kernel) rfl, bigm 49 (by decide +kernel) rfl, by decide +kernel, by decide +kernel, by decide +kernel⟩
set_option maxRecDepth 100000 in
theorem ins_X12_on : Cond.instanceMethod yX12_on ∈ BIG := bigm 1182 (by decide +kernel) rfl
set_option maxRecDepth 100000 in
theorem sel_X12_on : Cond.selects yX12_on.cls yX12_on yX12_on ∈ BIG := bigm 1183 (by decide +kernel) rfl
theorem vir_X12_on {k : Nat} {A : AL} (h : k < A.1) (h2 : k < nObj) (h3 : (tb k).1 = 14) : VIR yX12_on k A := ⟨ins_X12_on, sel_X12_on, h, h2, 12, _, _, rfl, h3⟩
set_option maxRecDepth 100000 in
theorem lkb_X12_count : LKB yX12_count cX12_count 4 (some .int) 1 := ⟨bigm 1188 (by decide +kernel) rfl, bigm 49 (by decide +kernel) rfl, by decide +kernel, by decide +kernel, by decide +kernel⟩
set_option maxRecDepth 100000 in
theorem ins_X12_count : Cond.instanceMethod yX12_count ∈ BIG := bigm 1186 (by decide +kernel) rfl
set_option maxRecDepth 100000 in
theorem sel_X12_count : Cond.selects yX12_count.cls yX12_count yX12_count ∈ BIG := bigm 1187 (by decide +kernel) rfl
theorem vir_X12_count {k : Nat} {A : AL} (h : k < A.1) (h2 : k < nObj) (h3 : (tb k).1 = 14) : VIR yX12_count k A := ⟨ins_X12_count, sel_X12_count, h, h2, 12, _, _, rfl, h3⟩
set_option maxRecDepth 100000 in
theorem lkb_J6_bitCount_0f7a4 : LKB yJ6_bitCount_0f7a4 cJ6_bitCount_0f7a4 1 (some .int) 1 := ⟨bigm 450 (by decide +kernel) rfl, bigm 50 (by decide +kernel) rfl, by decide +kernel, by decide +kernel, by decide +kernel⟩
set_option maxRecDepth 100000 in
theorem sta_J6_bitCount_0f7a4 : Cond.static yJ6_bitCount_0f7a4 ∈ BIG := bigm 449 (by decide +kernel) rfl
set_option maxRecDepth 100000 in
theorem lnk_L_9 : LNK RL 9 yX11_init := Or.inl (bigm 54 (by decide +kernel) rfl)
set_option maxRecDepth 100000 in
theorem lob_X11_3 : Cond.methodLink RX11 3 Lib.objectInit ∈ BIG := bigm 57 (by decide +kernel) rfl
set_option maxRecDepth 100000 in
theorem lob_X6_3 : Cond.methodLink RX6 3 Lib.objectInit ∈ BIG := bigm 65 (by decide +kernel) rfl
set_option maxRecDepth 100000 in
theorem lnk_X11_18 : LNK RX11 18 yX4_init := Or.inl (bigm 81 (by decide +kernel) rfl)
set_option maxRecDepth 100000 in
theorem lob_X4_3 : Cond.methodLink RX4 3 Lib.objectInit ∈ BIG := bigm 84 (by decide +kernel) rfl
set_option maxRecDepth 100000 in
theorem lnk_X4_21 : LNK RX4 21 yX4_layOut := Or.inl (bigm 85 (by decide +kernel) rfl)
set_option maxRecDepth 100000 in
theorem lnk_X4_25 : LNK RX4 25 yJ9_max_7cf53 := Or.inl (bigm 89 (by decide +kernel) rfl)
set_option maxRecDepth 100000 in
theorem lmm_X4_25 : Cond.methodLink RX4 25 Lib.Math.max.name ∈ BIG := bigm 89 (by decide +kernel) rfl
set_option maxRecDepth 100000 in
theorem lnk_X4_31 : LNK RX4 31 yX4_nthOf := Or.inl (bigm 92 (by decide +kernel) rfl)
set_option maxRecDepth 100000 in
theorem lnk_X11_25 : LNK RX11 25 yX9_init := Or.inl (bigm 109 (by decide +kernel) rfl)
set_option maxRecDepth 100000 in
theorem lob_X9_3 : Cond.methodLink RX9 3 Lib.objectInit ∈ BIG := bigm 112 (by decide +kernel) rfl
set_option maxRecDepth 100000 in
theorem lnk_X9_30 : LNK RX9 30 yX9_measure := Or.inl (bigm 115 (by decide +kernel) rfl)
set_option maxRecDepth 100000 in
theorem lnk_X11_34 : LNK RX11 34 yX5_init := Or.inl (bigm 149 (by decide +kernel) rfl)
set_option maxRecDepth 100000 in
theorem lob_X5_3 : Cond.methodLink RX5 3 Lib.objectInit ∈ BIG := bigm 152 (by decide +kernel) rfl
set_option maxRecDepth 100000 in
theorem lnk_X11_43 : LNK RX11 43 yX2_init := Or.inl (bigm 188 (by decide +kernel) rfl)
set_option maxRecDepth 100000 in
theorem lob_X2_3 : Cond.methodLink RX2 3 Lib.objectInit ∈ BIG := bigm 191 (by decide +kernel) rfl
set_option maxRecDepth 100000 in
theorem lnk_X2_23 : LNK RX2 23 yX2_forget := Or.inl (bigm 193 (by decide +kernel) rfl)
set_option maxRecDepth 100000 in
theorem lnk_X11_50 : LNK RX11 50 yX1_init := Or.inl (bigm 212 (by decide +kernel) rfl)
set_option maxRecDepth 100000 in
theorem lob_X1_3 : Cond.methodLink RX1 3 Lib.objectInit ∈ BIG := bigm 215 (by decide +kernel) rfl
set_option maxRecDepth 100000 in
theorem lnk_X11_59 : LNK RX11 59 yX10_init := Or.inl (bigm 248 (by decide +kernel) rfl)
set_option maxRecDepth 100000 in
theorem lob_X10_3 : Cond.methodLink RX10 3 Lib.objectInit ∈ BIG := bigm 251 (by decide +kernel) rfl
set_option maxRecDepth 100000 in
theorem lob_X8_3 : Cond.methodLink RX8 3 Lib.objectInit ∈ BIG := bigm 282 (by decide +kernel) rfl
set_option maxRecDepth 100000 in
theorem lob_X7_3 : Cond.methodLink RX7 3 Lib.objectInit ∈ BIG := bigm 303 (by decide +kernel) rfl
set_option maxRecDepth 100000 in
theorem lnk_X11_82 : LNK RX11 82 yX0_init := Or.inl (bigm 314 (by decide +kernel) rfl)
set_option maxRecDepth 100000 in
theorem lob_X0_3 : Cond.methodLink RX0 3 Lib.objectInit ∈ BIG := bigm 317 (by decide +kernel) rfl
set_option maxRecDepth 100000 in
theorem lob_X3_3 : Cond.methodLink RX3 3 Lib.objectInit ∈ BIG := bigm 337 (by decide +kernel) rfl
set_option maxRecDepth 100000 in
theorem lnk_X3_11 : LNK RX3 11 yX2_init := Or.inl (bigm 339 (by decide +kernel) rfl)
set_option maxRecDepth 100000 in
theorem lnk_L_15 : LNK RL 15 yX11_feed := Or.inl (bigm 404 (by decide +kernel) rfl)
set_option maxRecDepth 100000 in
theorem lnk_X11_104 : LNK RX11 104 yX11_outside := Or.inl (bigm 408 (by decide +kernel) rfl)
set_option maxRecDepth 100000 in
theorem lnk_X11_108 : LNK RX11 108 yX11_refuse := Or.inl (bigm 411 (by decide +kernel) rfl)
set_option maxRecDepth 100000 in
theorem lnk_X11_115 : LNK RX11 115 yX6_add := Or.inl (bigm 415 (by decide +kernel) rfl)
set_option maxRecDepth 100000 in
theorem lnk_L_20 : LNK RL 20 yX11_turn := Or.inl (bigm 420 (by decide +kernel) rfl)
set_option maxRecDepth 100000 in
theorem lnk_X11_126 : LNK RX11 126 yX6_readTurn := Or.inl (bigm 424 (by decide +kernel) rfl)
set_option maxRecDepth 100000 in
theorem lnk_X11_130 : LNK RX11 130 yX2_forget := Or.inl (bigm 431 (by decide +kernel) rfl)
set_option maxRecDepth 100000 in
theorem lnk_X11_134 : LNK RX11 134 yX9_takeRead := Or.inl (bigm 432 (by decide +kernel) rfl)
set_option maxRecDepth 100000 in
theorem lnk_X9_37 : LNK RX9 37 yX4_moved := Or.inl (bigm 436 (by decide +kernel) rfl)
set_option maxRecDepth 100000 in
theorem lnk_X4_40 : LNK RX4 40 yX4_piece := Or.inl (bigm 440 (by decide +kernel) rfl)
set_option maxRecDepth 100000 in
theorem lnk_X4_43 : LNK RX4 43 yX4_numberOf := Or.inl (bigm 444 (by decide +kernel) rfl)
set_option maxRecDepth 100000 in
theorem lnk_X4_34 : LNK RX4 34 yJ6_bitCount_0f7a4 := Or.inl (bigm 448 (by decide +kernel) rfl)
set_option maxRecDepth 100000 in
theorem lnk_L_25 : LNK RL 25 yX11_row := Or.inl (bigm 454 (by decide +kernel) rfl)
set_option maxRecDepth 100000 in
theorem lnk_X11_141 : LNK RX11 141 yX6_readRow := Or.inl (bigm 458 (by decide +kernel) rfl)
set_option maxRecDepth 100000 in
theorem lnk_X11_148 : LNK RX11 148 yX5_takeRead := Or.inl (bigm 462 (by decide +kernel) rfl)
set_option maxRecDepth 100000 in
theorem lnk_L_29 : LNK RL 29 yX11_goes := Or.inl (bigm 466 (by decide +kernel) rfl)
set_option maxRecDepth 100000 in
theorem lnk_X11_150 : LNK RX11 150 yX9_hasMove := Or.inl (bigm 470 (by decide +kernel) rfl)
set_option maxRecDepth 100000 in
theorem lnk_X11_154 : LNK RX11 154 yX11_isPlace := Or.inl (bigm 474 (by decide +kernel) rfl)
set_option maxRecDepth 100000 in
theorem lnk_L_34 : LNK RL 34 yX11_rowOf := Or.inl (bigm 475 (by decide +kernel) rfl)
set_option maxRecDepth 100000 in
theorem lnk_X11_157 : LNK RX11 157 yX5_has := Or.inl (bigm 479 (by decide +kernel) rfl)
set_option maxRecDepth 100000 in
theorem lnk_X11_163 : LNK RX11 163 yX5_hasMove := Or.inl (bigm 483 (by decide +kernel) rfl)
set_option maxRecDepth 100000 in
theorem lnk_L_38 : LNK RL 38 yX11_does := Or.inl (bigm 487 (by decide +kernel) rfl)
set_option maxRecDepth 100000 in
theorem lnk_X11_166 : LNK RX11 166 yX5_goal := Or.inl (bigm 491 (by decide +kernel) rfl)
set_option maxRecDepth 100000 in
theorem lnk_L_42 : LNK RL 42 yX11_order := Or.inl (bigm 495 (by decide +kernel) rfl)
set_option maxRecDepth 100000 in
theorem lnk_L_47 : LNK RL 47 yX11_keeps := Or.inl (bigm 499 (by decide +kernel) rfl)
set_option maxRecDepth 100000 in
theorem lnk_L_51 : LNK RL 51 yX11_now := Or.inl (bigm 503 (by decide +kernel) rfl)
set_option maxRecDepth 100000 in
theorem lnk_X11_176 : LNK RX11 176 yX4_piece := Or.inl (bigm 507 (by decide +kernel) rfl)
set_option maxRecDepth 100000 in
theorem lnk_L_55 : LNK RL 55 yX11_make := Or.inl (bigm 508 (by decide +kernel) rfl)
set_option maxRecDepth 100000 in
theorem lnk_X11_182 : LNK RX11 182 yX11_solvedNow := Or.inl (bigm 512 (by decide +kernel) rfl)
set_option maxRecDepth 100000 in
theorem lnk_L_59 : LNK RL 59 yX11_makeRow := Or.inl (bigm 516 (by decide +kernel) rfl)
set_option maxRecDepth 100000 in
theorem lnk_L_63 : LNK RL 63 yX11_put := Or.inl (bigm 520 (by decide +kernel) rfl)
set_option maxRecDepth 100000 in
theorem lnk_L_67 : LNK RL 67 yX11_time := Or.inl (bigm 524 (by decide +kernel) rfl)
set_option maxRecDepth 100000 in
theorem lnk_X11_186 : LNK RX11 186 yX9_has := Or.inl (bigm 528 (by decide +kernel) rfl)
set_option maxRecDepth 100000 in
theorem lnk_X11_190 : LNK RX11 190 yX11_exchange := Or.inl (bigm 532 (by decide +kernel) rfl)
set_option maxRecDepth 100000 in
theorem lnk_L_72 : LNK RL 72 yX11_after := Or.inl (bigm 535 (by decide +kernel) rfl)
set_option maxRecDepth 100000 in
theorem lnk_L_76 : LNK RL 76 yX11_locks := Or.inl (bigm 540 (by decide +kernel) rfl)
set_option maxRecDepth 100000 in
theorem lnk_L_80 : LNK RL 80 yX11_kind := Or.inl (bigm 544 (by decide +kernel) rfl)
set_option maxRecDepth 100000 in
theorem lnk_X11_201 : LNK RX11 201 yX5_ahead := Or.inl (bigm 548 (by decide +kernel) rfl)
set_option maxRecDepth 100000 in
theorem lnk_X11_204 : LNK RX11 204 yX2_kindOf := Or.inl (bigm 552 (by decide +kernel) rfl)
set_option maxRecDepth 100000 in
theorem lnk_L_84 : LNK RL 84 yX11_seconds := Or.inl (bigm 556 (by decide +kernel) rfl)
set_option maxRecDepth 100000 in
theorem lnk_X11_207 : LNK RX11 207 yX2_rowTime := Or.inl (bigm 560 (by decide +kernel) rfl)
set_option maxRecDepth 100000 in
theorem lnk_X2_47 : LNK RX2 47 yX5_ahead := Or.inl (bigm 564 (by decide +kernel) rfl)
set_option maxRecDepth 100000 in
theorem lnk_X2_50 : LNK RX2 50 yX2_takes := Or.inl (bigm 565 (by decide +kernel) rfl)
set_option maxRecDepth 100000 in
theorem lnk_X2_33 : LNK RX2 33 yJ9_max_7cf53 := Or.inl (bigm 569 (by decide +kernel) rfl)
set_option maxRecDepth 100000 in
theorem lmm_X2_33 : Cond.methodLink RX2 33 Lib.Math.max.name ∈ BIG := bigm 569 (by decide +kernel) rfl
set_option maxRecDepth 100000 in
theorem lnk_L_88 : LNK RL 88 yX11_mean := Or.inl (bigm 570 (by decide +kernel) rfl)
set_option maxRecDepth 100000 in
theorem lnk_L_92 : LNK RL 92 yX11_drawn := Or.inl (bigm 574 (by decide +kernel) rfl)
set_option maxRecDepth 100000 in
theorem lnk_X11_211 : LNK RX11 211 yX2_locksDrawn := Or.inl (bigm 578 (by decide +kernel) rfl)
set_option maxRecDepth 100000 in
theorem lnk_L_96 : LNK RL 96 yX11_better := Or.inl (bigm 585 (by decide +kernel) rfl)
set_option maxRecDepth 100000 in
theorem lnk_X11_214 : LNK RX11 214 yX5_solvedFrom := Or.inl (bigm 589 (by decide +kernel) rfl)
set_option maxRecDepth 100000 in
theorem lnk_X5_46 : LNK RX5 46 yX5_goal := Or.inl (bigm 593 (by decide +kernel) rfl)
set_option maxRecDepth 100000 in
theorem lnk_X5_50 : LNK RX5 50 yX4_numberOf := Or.inl (bigm 594 (by decide +kernel) rfl)
set_option maxRecDepth 100000 in
theorem lnk_X11_217 : LNK RX11 217 yX1_leastTime := Or.inl (bigm 595 (by decide +kernel) rfl)
set_option maxRecDepth 100000 in
theorem lnk_X1_29 : LNK RX1 29 yJ9_min_7cf53 := Or.inl (bigm 599 (by decide +kernel) rfl)
set_option maxRecDepth 100000 in
theorem lmm_X1_29 : Cond.methodLink RX1 29 Lib.Math.min.name ∈ BIG := bigm 599 (by decide +kernel) rfl
set_option maxRecDepth 100000 in
theorem lnk_X1_45 : LNK RX1 45 yX1_search := Or.inl (bigm 602 (by decide +kernel) rfl)
set_option maxRecDepth 100000 in
theorem lnk_X1_58 : LNK RX1 58 yX1_look := Or.inl (bigm 605 (by decide +kernel) rfl)
set_option maxRecDepth 100000 in
theorem lcp_X1_52 : Cond.methodLink RX1 52 arraycopyName ∈ BIG := bigm 609 (by decide +kernel) rfl
set_option maxRecDepth 100000 in
theorem lnk_X1_74 : LNK RX1 74 yX2_takes := Or.inl (bigm 612 (by decide +kernel) rfl)
set_option maxRecDepth 100000 in
theorem lnk_L_100 : LNK RL 100 yX11_found := Or.inl (bigm 613 (by decide +kernel) rfl)
set_option maxRecDepth 100000 in
theorem lnk_L_104 : LNK RL 104 yX11_fewest := Or.inl (bigm 617 (by decide +kernel) rfl)
set_option maxRecDepth 100000 in
theorem lnk_L_108 : LNK RL 108 yX11_first := Or.inl (bigm 621 (by decide +kernel) rfl)
set_option maxRecDepth 100000 in
theorem lnk_X11_229 : LNK RX11 229 yX9_firstTowardsSolved := Or.inl (bigm 625 (by decide +kernel) rfl)
set_option maxRecDepth 100000 in
theorem lnk_L_112 : LNK RL 112 yX11_step := Or.inl (bigm 629 (by decide +kernel) rfl)
set_option maxRecDepth 100000 in
theorem lnk_X11_233 : LNK RX11 233 yX10_add := Or.inl (bigm 633 (by decide +kernel) rfl)
set_option maxRecDepth 100000 in
theorem lnk_L_116 : LNK RL 116 yX11_tried := Or.inl (bigm 637 (by decide +kernel) rfl)
set_option maxRecDepth 100000 in
theorem lnk_X11_236 : LNK RX11 236 yX10_tryFrom := Or.inl (bigm 641 (by decide +kernel) rfl)
set_option maxRecDepth 100000 in
theorem lnk_X10_37 : LNK RX10 37 yX8_begin := Or.inl (bigm 645 (by decide +kernel) rfl)
set_option maxRecDepth 100000 in
theorem lnk_X10_50 : LNK RX10 50 yX10_leastRow := Or.inl (bigm 649 (by decide +kernel) rfl)
set_option maxRecDepth 100000 in
theorem lnk_L_120 : LNK RL 120 yX11_triedRow := Or.inl (bigm 653 (by decide +kernel) rfl)
set_option maxRecDepth 100000 in
theorem lnk_X11_243 : LNK RX11 243 yX10_has := Or.inl (bigm 657 (by decide +kernel) rfl)
set_option maxRecDepth 100000 in
theorem lnk_L_124 : LNK RL 124 yX11_solves := Or.inl (bigm 661 (by decide +kernel) rfl)
set_option maxRecDepth 100000 in
theorem lnk_X11_247 : LNK RX11 247 yX10_solved := Or.inl (bigm 665 (by decide +kernel) rfl)
set_option maxRecDepth 100000 in
theorem lnk_X10_67 : LNK RX10 67 yX10_tryFrom := Or.inl (bigm 669 (by decide +kernel) rfl)
set_option maxRecDepth 100000 in
theorem lnk_X10_71 : LNK RX10 71 yX8_solved := Or.inl (bigm 670 (by decide +kernel) rfl)
set_option maxRecDepth 100000 in
theorem lnk_L_128 : LNK RL 128 yX11_lacks := Or.inl (bigm 674 (by decide +kernel) rfl)
set_option maxRecDepth 100000 in
theorem lnk_X11_251 : LNK RX11 251 yX8_solved := Or.inl (bigm 678 (by decide +kernel) rfl)
set_option maxRecDepth 100000 in
theorem lnk_L_132 : LNK RL 132 yX11_luck := Or.inl (bigm 679 (by decide +kernel) rfl)
set_option maxRecDepth 100000 in
theorem lnk_X11_254 : LNK RX11 254 yX8_comesTo := Or.inl (bigm 683 (by decide +kernel) rfl)
set_option maxRecDepth 100000 in
theorem lnk_X11_257 : LNK RX11 257 yX8_needsNone := Or.inl (bigm 687 (by decide +kernel) rfl)
set_option maxRecDepth 100000 in
theorem lnk_X11_260 : LNK RX11 260 yX11_leastTerms := Or.inl (bigm 691 (by decide +kernel) rfl)
set_option maxRecDepth 100000 in
theorem lnk_L_136 : LNK RL 136 yX11_see := Or.inl (bigm 694 (by decide +kernel) rfl)
set_option maxRecDepth 100000 in
theorem lnk_L_140 : LNK RL 140 yX11_sum := Or.inl (bigm 698 (by decide +kernel) rfl)
set_option maxRecDepth 100000 in
theorem lnk_X11_266 : LNK RX11 266 yX10_sumOf := Or.inl (bigm 702 (by decide +kernel) rfl)
set_option maxRecDepth 100000 in
theorem lnk_X10_75 : LNK RX10 75 yJ9_max_7cf53 := Or.inl (bigm 706 (by decide +kernel) rfl)
set_option maxRecDepth 100000 in
theorem lmm_X10_75 : Cond.methodLink RX10 75 Lib.Math.max.name ∈ BIG := bigm 706 (by decide +kernel) rfl
set_option maxRecDepth 100000 in
theorem lnk_X10_81 : LNK RX10 81 yX2_rowTime := Or.inl (bigm 707 (by decide +kernel) rfl)
set_option maxRecDepth 100000 in
theorem lnk_L_144 : LNK RL 144 yX11_bestPace := Or.inl (bigm 708 (by decide +kernel) rfl)
set_option maxRecDepth 100000 in
theorem lnk_L_148 : LNK RL 148 yX11_learn := Or.inl (bigm 712 (by decide +kernel) rfl)
set_option maxRecDepth 100000 in
theorem lnk_L_152 : LNK RL 152 yX11_five := Or.inl (bigm 716 (by decide +kernel) rfl)
set_option maxRecDepth 100000 in
theorem lnk_X11_274 : LNK RX11 274 yX7_add := Or.inl (bigm 720 (by decide +kernel) rfl)
set_option maxRecDepth 100000 in
theorem lnk_L_156 : LNK RL 156 yX11_middle := Or.inl (bigm 724 (by decide +kernel) rfl)
set_option maxRecDepth 100000 in
theorem lnk_X11_276 : LNK RX11 276 yX7_middleThree := Or.inl (bigm 728 (by decide +kernel) rfl)
set_option maxRecDepth 100000 in
theorem lnk_L_160 : LNK RL 160 yX11_need := Or.inl (bigm 732 (by decide +kernel) rfl)
set_option maxRecDepth 100000 in
theorem lnk_X11_279 : LNK RX11 279 yX7_greatestFifth := Or.inl (bigm 736 (by decide +kernel) rfl)
set_option maxRecDepth 100000 in
theorem lnk_L_164 : LNK RL 164 yX11_film := Or.inl (bigm 740 (by decide +kernel) rfl)
set_option maxRecDepth 100000 in
theorem lnk_X11_283 : LNK RX11 283 yX0_add := Or.inl (bigm 744 (by decide +kernel) rfl)
set_option maxRecDepth 100000 in
theorem lnk_L_168 : LNK RL 168 yX11_held := Or.inl (bigm 748 (by decide +kernel) rfl)
set_option maxRecDepth 100000 in
theorem lnk_X11_284 : LNK RX11 284 yX0_firstAbove := Or.inl (bigm 752 (by decide +kernel) rfl)
set_option maxRecDepth 100000 in
theorem lnk_X0_36 : LNK RX0 36 yX5_ahead := Or.inl (bigm 756 (by decide +kernel) rfl)
set_option maxRecDepth 100000 in
theorem lnk_X0_40 : LNK RX0 40 yX2_takes := Or.inl (bigm 757 (by decide +kernel) rfl)
set_option maxRecDepth 100000 in
theorem lnk_L_172 : LNK RL 172 yX11_heldUp := Or.inl (bigm 758 (by decide +kernel) rfl)
set_option maxRecDepth 100000 in
theorem lnk_X11_287 : LNK RX11 287 yX0_allAbove := Or.inl (bigm 762 (by decide +kernel) rfl)
set_option maxRecDepth 100000 in
theorem lnk_X0_45 : LNK RX0 45 yX5_hasMove := Or.inl (bigm 766 (by decide +kernel) rfl)
set_option maxRecDepth 100000 in
theorem lnk_X0_49 : LNK RX0 49 yJ9_max_7cf53 := Or.inl (bigm 767 (by decide +kernel) rfl)
set_option maxRecDepth 100000 in
theorem lmm_X0_49 : Cond.methodLink RX0 49 Lib.Math.max.name ∈ BIG := bigm 767 (by decide +kernel) rfl
set_option maxRecDepth 100000 in
theorem lnk_L_176 : LNK RL 176 yX11_image := Or.inl (bigm 768 (by decide +kernel) rfl)
set_option maxRecDepth 100000 in
theorem lnk_X11_305 : LNK RX11 305 yX2_copy := Or.inl (bigm 772 (by decide +kernel) rfl)
set_option maxRecDepth 100000 in
theorem lcp_X2_27 : Cond.methodLink RX2 27 arraycopyName ∈ BIG := bigm 776 (by decide +kernel) rfl
set_option maxRecDepth 100000 in
theorem lcp_X11_310 : Cond.methodLink RX11 310 arraycopyName ∈ BIG := bigm 777 (by decide +kernel) rfl
set_option maxRecDepth 100000 in
theorem lnk_L_180 : LNK RL 180 yX11_on := Or.inl (bigm 778 (by decide +kernel) rfl)
set_option maxRecDepth 100000 in
theorem lnk_X11_316 : LNK RX11 316 yX9_goBackTo := Or.inl (bigm 782 (by decide +kernel) rfl)
set_option maxRecDepth 100000 in
theorem lnk_L_184 : LNK RL 184 yX11_count := Or.inl (bigm 786 (by decide +kernel) rfl)
set_option maxRecDepth 100000 in
theorem lnk_X11_319 : LNK RX11 319 yJ6_bitCount_0f7a4 := Or.inl (bigm 790 (by decide +kernel) rfl)
set_option maxRecDepth 100000 in
theorem lnk_L_12 : LNK RL 12 yX12_init := Or.inl (bigm 793 (by decide +kernel) rfl)
set_option maxRecDepth 100000 in
theorem lob_X12_1 : Cond.methodLink RX12 1 Lib.objectInit ∈ BIG := bigm 796 (by decide +kernel) rfl
set_option maxRecDepth 100000 in
theorem lnk_L_19 : LNK RL 19 yX12_feed := Or.inl (bigm 879 (by decide +kernel) rfl)
set_option maxRecDepth 100000 in
theorem lnk_X12_65 : LNK RX12 65 yX12_refuse := Or.inl (bigm 883 (by decide +kernel) rfl)
set_option maxRecDepth 100000 in
theorem lnk_L_24 : LNK RL 24 yX12_turn := Or.inl (bigm 888 (by decide +kernel) rfl)
set_option maxRecDepth 100000 in
theorem lnk_X12_89 : LNK RX12 89 yX12_readsTurn := Or.inl (bigm 892 (by decide +kernel) rfl)
set_option maxRecDepth 100000 in
theorem lnk_X12_85 : LNK RX12 85 yX12_readsRing := Or.inl (bigm 896 (by decide +kernel) rfl)
set_option maxRecDepth 100000 in
theorem lnk_X12_78 : LNK RX12 78 yX12_sign := Or.inl (bigm 900 (by decide +kernel) rfl)
set_option maxRecDepth 100000 in
theorem lnk_L_28 : LNK RL 28 yX12_row := Or.inl (bigm 904 (by decide +kernel) rfl)
set_option maxRecDepth 100000 in
theorem lnk_X12_92 : LNK RX12 92 yX12_readsRow := Or.inl (bigm 908 (by decide +kernel) rfl)
set_option maxRecDepth 100000 in
theorem lnk_X12_61 : LNK RX12 61 yX12_isIn := Or.inl (bigm 912 (by decide +kernel) rfl)
set_option maxRecDepth 100000 in
theorem lnk_L_33 : LNK RL 33 yX12_goes := Or.inl (bigm 915 (by decide +kernel) rfl)
set_option maxRecDepth 100000 in
theorem lnk_X12_95 : LNK RX12 95 yX12_isMove := Or.inl (bigm 919 (by decide +kernel) rfl)
set_option maxRecDepth 100000 in
theorem lnk_X12_99 : LNK RX12 99 yX12_isPlace := Or.inl (bigm 923 (by decide +kernel) rfl)
set_option maxRecDepth 100000 in
theorem lnk_X12_102 : LNK RX12 102 yX12_goesTo := Or.inl (bigm 926 (by decide +kernel) rfl)
set_option maxRecDepth 100000 in
theorem lnk_L_37 : LNK RL 37 yX12_rowOf := Or.inl (bigm 930 (by decide +kernel) rfl)
set_option maxRecDepth 100000 in
theorem lnk_X12_106 : LNK RX12 106 yX12_isRow := Or.inl (bigm 934 (by decide +kernel) rfl)
set_option maxRecDepth 100000 in
theorem lnk_X12_109 : LNK RX12 109 yX12_size := Or.inl (bigm 938 (by decide +kernel) rfl)
set_option maxRecDepth 100000 in
theorem lnk_X12_112 : LNK RX12 112 yX12_moveOf := Or.inl (bigm 942 (by decide +kernel) rfl)
set_option maxRecDepth 100000 in
theorem lnk_L_41 : LNK RL 41 yX12_does := Or.inl (bigm 946 (by decide +kernel) rfl)
set_option maxRecDepth 100000 in
theorem lnk_X12_115 : LNK RX12 115 yX12_doesTo := Or.inl (bigm 950 (by decide +kernel) rfl)
set_option maxRecDepth 100000 in
theorem lnk_L_46 : LNK RL 46 yX12_order := Or.inl (bigm 954 (by decide +kernel) rfl)
set_option maxRecDepth 100000 in
theorem lnk_L_50 : LNK RL 50 yX12_keeps := Or.inl (bigm 958 (by decide +kernel) rfl)
set_option maxRecDepth 100000 in
theorem lnk_L_54 : LNK RL 54 yX12_now := Or.inl (bigm 962 (by decide +kernel) rfl)
set_option maxRecDepth 100000 in
theorem lnk_L_58 : LNK RL 58 yX12_make := Or.inl (bigm 966 (by decide +kernel) rfl)
set_option maxRecDepth 100000 in
theorem lnk_X12_118 : LNK RX12 118 yX12_makes := Or.inl (bigm 970 (by decide +kernel) rfl)
set_option maxRecDepth 100000 in
theorem lnk_X12_122 : LNK RX12 122 yX12_isSolved := Or.inl (bigm 974 (by decide +kernel) rfl)
set_option maxRecDepth 100000 in
theorem lnk_L_62 : LNK RL 62 yX12_makeRow := Or.inl (bigm 977 (by decide +kernel) rfl)
set_option maxRecDepth 100000 in
theorem lnk_X12_126 : LNK RX12 126 yX12_makesRow := Or.inl (bigm 981 (by decide +kernel) rfl)
set_option maxRecDepth 100000 in
theorem lnk_L_66 : LNK RL 66 yX12_put := Or.inl (bigm 985 (by decide +kernel) rfl)
set_option maxRecDepth 100000 in
theorem lnk_X12_129 : LNK RX12 129 yX12_within := Or.inl (bigm 989 (by decide +kernel) rfl)
set_option maxRecDepth 100000 in
theorem lnk_X12_133 : LNK RX12 133 yX12_puts := Or.inl (bigm 992 (by decide +kernel) rfl)
set_option maxRecDepth 100000 in
theorem lnk_L_71 : LNK RL 71 yX12_time := Or.inl (bigm 995 (by decide +kernel) rfl)
set_option maxRecDepth 100000 in
theorem lnk_L_75 : LNK RL 75 yX12_after := Or.inl (bigm 999 (by decide +kernel) rfl)
set_option maxRecDepth 100000 in
theorem lnk_L_79 : LNK RL 79 yX12_locks := Or.inl (bigm 1004 (by decide +kernel) rfl)
set_option maxRecDepth 100000 in
theorem lnk_L_83 : LNK RL 83 yX12_kind := Or.inl (bigm 1008 (by decide +kernel) rfl)
set_option maxRecDepth 100000 in
theorem lnk_X12_137 : LNK RX12 137 yX12_afterOf := Or.inl (bigm 1012 (by decide +kernel) rfl)
set_option maxRecDepth 100000 in
theorem lnk_L_87 : LNK RL 87 yX12_seconds := Or.inl (bigm 1016 (by decide +kernel) rfl)
set_option maxRecDepth 100000 in
theorem lnk_X12_146 : LNK RX12 146 yX12_secondsOf := Or.inl (bigm 1020 (by decide +kernel) rfl)
set_option maxRecDepth 100000 in
theorem lnk_X12_143 : LNK RX12 143 yX12_takesOf := Or.inl (bigm 1024 (by decide +kernel) rfl)
set_option maxRecDepth 100000 in
theorem lnk_X12_140 : LNK RX12 140 yX12_takes := Or.inl (bigm 1028 (by decide +kernel) rfl)
set_option maxRecDepth 100000 in
theorem lnk_L_91 : LNK RL 91 yX12_mean := Or.inl (bigm 1032 (by decide +kernel) rfl)
set_option maxRecDepth 100000 in
theorem lnk_L_95 : LNK RL 95 yX12_drawn := Or.inl (bigm 1036 (by decide +kernel) rfl)
set_option maxRecDepth 100000 in
theorem lnk_L_99 : LNK RL 99 yX12_better := Or.inl (bigm 1043 (by decide +kernel) rfl)
set_option maxRecDepth 100000 in
theorem lnk_X12_158 : LNK RX12 158 yX12_tries := Or.inl (bigm 1047 (by decide +kernel) rfl)
set_option maxRecDepth 100000 in
theorem lnk_L_103 : LNK RL 103 yX12_found := Or.inl (bigm 1051 (by decide +kernel) rfl)
set_option maxRecDepth 100000 in
theorem lnk_L_107 : LNK RL 107 yX12_fewest := Or.inl (bigm 1055 (by decide +kernel) rfl)
set_option maxRecDepth 100000 in
theorem lnk_X12_169 : LNK RX12 169 yX12_findFar := Or.inl (bigm 1059 (by decide +kernel) rfl)
set_option maxRecDepth 100000 in
theorem lnk_X12_165 : LNK RX12 165 yX12_numberOf := Or.inl (bigm 1063 (by decide +kernel) rfl)
set_option maxRecDepth 100000 in
theorem lnk_L_111 : LNK RL 111 yX12_first := Or.inl (bigm 1066 (by decide +kernel) rfl)
set_option maxRecDepth 100000 in
theorem lnk_L_115 : LNK RL 115 yX12_step := Or.inl (bigm 1070 (by decide +kernel) rfl)
set_option maxRecDepth 100000 in
theorem lnk_L_119 : LNK RL 119 yX12_tried := Or.inl (bigm 1074 (by decide +kernel) rfl)
set_option maxRecDepth 100000 in
theorem lnk_X12_187 : LNK RX12 187 yX12_triesNow := Or.inl (bigm 1078 (by decide +kernel) rfl)
set_option maxRecDepth 100000 in
theorem lnk_X12_184 : LNK RX12 184 yX12_goesOn := Or.inl (bigm 1082 (by decide +kernel) rfl)
set_option maxRecDepth 100000 in
theorem lnk_X12_175 : LNK RX12 175 yX12_isDone := Or.inl (bigm 1086 (by decide +kernel) rfl)
set_option maxRecDepth 100000 in
theorem lnk_X12_172 : LNK RX12 172 yX12_stepOf := Or.inl (bigm 1090 (by decide +kernel) rfl)
set_option maxRecDepth 100000 in
theorem lnk_X12_181 : LNK RX12 181 yX12_rowFor := Or.inl (bigm 1094 (by decide +kernel) rfl)
set_option maxRecDepth 100000 in
theorem lnk_L_123 : LNK RL 123 yX12_triedRow := Or.inl (bigm 1098 (by decide +kernel) rfl)
set_option maxRecDepth 100000 in
theorem lnk_X12_190 : LNK RX12 190 yX12_isStep := Or.inl (bigm 1102 (by decide +kernel) rfl)
set_option maxRecDepth 100000 in
theorem lnk_L_127 : LNK RL 127 yX12_solves := Or.inl (bigm 1106 (by decide +kernel) rfl)
set_option maxRecDepth 100000 in
theorem lnk_X12_196 : LNK RX12 196 yX12_solvesOf := Or.inl (bigm 1110 (by decide +kernel) rfl)
set_option maxRecDepth 100000 in
theorem lnk_X12_193 : LNK RX12 193 yX12_solvesFrom := Or.inl (bigm 1114 (by decide +kernel) rfl)
set_option maxRecDepth 100000 in
theorem lnk_L_131 : LNK RL 131 yX12_lacks := Or.inl (bigm 1118 (by decide +kernel) rfl)
set_option maxRecDepth 100000 in
theorem lnk_L_135 : LNK RL 135 yX12_luck := Or.inl (bigm 1122 (by decide +kernel) rfl)
set_option maxRecDepth 100000 in
theorem lnk_X12_199 : LNK RX12 199 yX12_common := Or.inl (bigm 1126 (by decide +kernel) rfl)
set_option maxRecDepth 100000 in
theorem lnk_L_139 : LNK RL 139 yX12_see := Or.inl (bigm 1129 (by decide +kernel) rfl)
set_option maxRecDepth 100000 in
theorem lnk_L_143 : LNK RL 143 yX12_sum := Or.inl (bigm 1133 (by decide +kernel) rfl)
set_option maxRecDepth 100000 in
theorem lnk_X12_202 : LNK RX12 202 yX12_sumBy := Or.inl (bigm 1137 (by decide +kernel) rfl)
set_option maxRecDepth 100000 in
theorem lnk_L_147 : LNK RL 147 yX12_bestPace := Or.inl (bigm 1141 (by decide +kernel) rfl)
set_option maxRecDepth 100000 in
theorem lnk_L_151 : LNK RL 151 yX12_learn := Or.inl (bigm 1145 (by decide +kernel) rfl)
set_option maxRecDepth 100000 in
theorem lnk_L_155 : LNK RL 155 yX12_five := Or.inl (bigm 1149 (by decide +kernel) rfl)
set_option maxRecDepth 100000 in
theorem lnk_L_159 : LNK RL 159 yX12_middle := Or.inl (bigm 1153 (by decide +kernel) rfl)
set_option maxRecDepth 100000 in
theorem lnk_X12_208 : LNK RX12 208 yX12_middleSum := Or.inl (bigm 1157 (by decide +kernel) rfl)
set_option maxRecDepth 100000 in
theorem lnk_L_163 : LNK RL 163 yX12_need := Or.inl (bigm 1161 (by decide +kernel) rfl)
set_option maxRecDepth 100000 in
theorem lnk_L_167 : LNK RL 167 yX12_film := Or.inl (bigm 1165 (by decide +kernel) rfl)
set_option maxRecDepth 100000 in
theorem lnk_L_171 : LNK RL 171 yX12_held := Or.inl (bigm 1169 (by decide +kernel) rfl)
set_option maxRecDepth 100000 in
theorem lnk_L_175 : LNK RL 175 yX12_heldUp := Or.inl (bigm 1173 (by decide +kernel) rfl)
set_option maxRecDepth 100000 in
theorem lnk_L_179 : LNK RL 179 yX12_image := Or.inl (bigm 1177 (by decide +kernel) rfl)
set_option maxRecDepth 100000 in
theorem lnk_L_183 : LNK RL 183 yX12_on := Or.inl (bigm 1181 (by decide +kernel) rfl)
set_option maxRecDepth 100000 in
theorem lnk_L_187 : LNK RL 187 yX12_count := Or.inl (bigm 1185 (by decide +kernel) rfl)
set_option maxRecDepth 100000 in
theorem lnk_X11_11 : LNK RX11 11 yX6_init := Or.inr ⟨"TurnedInSix", by decide +kernel⟩
set_option maxRecDepth 100000 in
theorem lnk_X11_68 : LNK RX11 68 yX8_init := Or.inr ⟨"TurnedInSix", by decide +kernel⟩
set_option maxRecDepth 100000 in
theorem lnk_X11_75 : LNK RX11 75 yX7_init := Or.inr ⟨"TurnedInSix", by decide +kernel⟩
set_option maxRecDepth 100000 in
theorem lnk_X11_91 : LNK RX11 91 yX3_init := Or.inr ⟨"TurnedInSix", by decide +kernel⟩
set_option maxRecDepth 100000 in
theorem lnk_X6_21 : LNK RX6 21 yX11_isPlace := Or.inr ⟨"TurnedInSix", by decide +kernel⟩
set_option maxRecDepth 100000 in
theorem lct_X6_19 : Cond.constantLong RX6 19 255 ∈ BIG := bigm 419 (by decide +kernel) rfl
set_option maxRecDepth 100000 in
theorem lct_J6_265 : Cond.constant RJ6 265 1431655765 ∈ BIG := bigm 451 (by decide +kernel) rfl
set_option maxRecDepth 100000 in
theorem lct_J6_266 : Cond.constant RJ6 266 858993459 ∈ BIG := bigm 452 (by decide +kernel) rfl
set_option maxRecDepth 100000 in
theorem lct_J6_267 : Cond.constant RJ6 267 252645135 ∈ BIG := bigm 453 (by decide +kernel) rfl
set_option maxRecDepth 100000 in
theorem lct_X11_194 : Cond.constant RX11 194 1000000000 ∈ BIG := bigm 539 (by decide +kernel) rfl
set_option maxRecDepth 100000 in
theorem lct_X2_53 : Cond.constant RX2 53 1664525 ∈ BIG := bigm 582 (by decide +kernel) rfl
set_option maxRecDepth 100000 in
theorem lct_X2_54 : Cond.constant RX2 54 1013904223 ∈ BIG := bigm 583 (by decide +kernel) rfl
set_option maxRecDepth 100000 in
theorem lct_X2_55 : Cond.constant RX2 55 2147483647 ∈ BIG := bigm 584 (by decide +kernel) rfl
set_option maxRecDepth 100000 in
theorem lct_X12_73 : Cond.constantLong RX12 73 255 ∈ BIG := bigm 887 (by decide +kernel) rfl
set_option maxRecDepth 100000 in
theorem lct_X12_136 : Cond.constant RX12 136 1000000000 ∈ BIG := bigm 1003 (by decide +kernel) rfl
set_option maxRecDepth 100000 in
theorem lct_X12_149 : Cond.constant RX12 149 1664525 ∈ BIG := bigm 1040 (by decide +kernel) rfl
set_option maxRecDepth 100000 in
theorem lct_X12_150 : Cond.constant RX12 150 1013904223 ∈ BIG := bigm 1041 (by decide +kernel) rfl
set_option maxRecDepth 100000 in
theorem lct_X12_151 : Cond.constant RX12 151 2147483647 ∈ BIG := bigm 1042 (by decide +kernel) rfl
set_option maxRecDepth 100000 in
theorem lct_L_13 : Cond.constantLong RL 13 4294967295 ∈ BIG := bigm 1189 (by decide +kernel) rfl
