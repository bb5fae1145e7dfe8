set_option maxRecDepth 20000 in
theorem q_137 : Cond.initialized RX4 ∈ lw_gd := mem_gd (List.mem_of_getElem? (i := 137) (by decide +kernel)) rfl
set_option maxRecDepth 20000 in
theorem q_742 : Cond.fieldLink RX4 9 "EyeTrainer$Law" "code" "[I" ∈ lw_gd := mem_gd (List.mem_of_getElem? (i := 742) (by decide +kernel)) rfl
set_option maxRecDepth 20000 in
theorem q_789 : Cond.code yX4_valueBy cX4_valueBy 10 (some .int) ∈ lw_gd := mem_gd (List.mem_of_getElem? (i := 789) (by decide +kernel)) rfl
set_option maxRecDepth 20000 in
theorem q_790 : Cond.constantLong RX4 19 (1000000) ∈ lw_gd := mem_gd (List.mem_of_getElem? (i := 790) (by decide +kernel)) rfl
set_option maxRecDepth 20000 in
theorem q_791 : Cond.constant RX4 21 (1000000) ∈ lw_gd := mem_gd (List.mem_of_getElem? (i := 791) (by decide +kernel)) rfl
set_option maxRecDepth 20000 in
theorem q_792 : Cond.constantLong RX4 22 (-1000000) ∈ lw_gd := mem_gd (List.mem_of_getElem? (i := 792) (by decide +kernel)) rfl
set_option maxRecDepth 20000 in
theorem q_793 : Cond.constant RX4 24 (-1000000) ∈ lw_gd := mem_gd (List.mem_of_getElem? (i := 793) (by decide +kernel)) rfl
theorem dX4_valueBy_0 : decode cX4_valueBy 0 = .ok (.iconst 0, 1) := by decide +kernel
theorem dX4_valueBy_1 : decode cX4_valueBy 1 = .ok (.istore_n 3, 1) := by decide +kernel
theorem dX4_valueBy_2 : decode cX4_valueBy 2 = .ok (.iconst 0, 1) := by decide +kernel
theorem dX4_valueBy_3 : decode cX4_valueBy 3 = .ok (.istore 4, 2) := by decide +kernel
theorem dX4_valueBy_5 : decode cX4_valueBy 5 = .ok (.iconst 0, 1) := by decide +kernel
theorem dX4_valueBy_6 : decode cX4_valueBy 6 = .ok (.istore 5, 2) := by decide +kernel
theorem dX4_valueBy_8 : decode cX4_valueBy 8 = .ok (.iload 5, 2) := by decide +kernel
theorem dX4_valueBy_10 : decode cX4_valueBy 10 = .ok (.aload_n 0, 1) := by decide +kernel
theorem dX4_valueBy_11 : decode cX4_valueBy 11 = .ok (.getfield 9, 3) := by decide +kernel
theorem dX4_valueBy_14 : decode cX4_valueBy 14 = .ok (.arraylength, 1) := by decide +kernel
theorem dX4_valueBy_15 : decode cX4_valueBy 15 = .ok (.if_icmp .ge 340, 3) := by decide +kernel
theorem dX4_valueBy_18 : decode cX4_valueBy 18 = .ok (.aload_n 0, 1) := by decide +kernel
theorem dX4_valueBy_19 : decode cX4_valueBy 19 = .ok (.getfield 9, 3) := by decide +kernel
theorem dX4_valueBy_22 : decode cX4_valueBy 22 = .ok (.iload 5, 2) := by decide +kernel
theorem dX4_valueBy_24 : decode cX4_valueBy 24 = .ok (.iaload, 1) := by decide +kernel
theorem dX4_valueBy_25 : decode cX4_valueBy 25 = .ok (.bipush 15, 2) := by decide +kernel
theorem dX4_valueBy_27 : decode cX4_valueBy 27 = .ok (.iand, 1) := by decide +kernel
theorem dX4_valueBy_28 : decode cX4_valueBy 28 = .ok (.istore 6, 2) := by decide +kernel
theorem dX4_valueBy_30 : decode cX4_valueBy 30 = .ok (.aload_n 0, 1) := by decide +kernel
theorem dX4_valueBy_31 : decode cX4_valueBy 31 = .ok (.getfield 9, 3) := by decide +kernel
theorem dX4_valueBy_34 : decode cX4_valueBy 34 = .ok (.iload 5, 2) := by decide +kernel
theorem dX4_valueBy_36 : decode cX4_valueBy 36 = .ok (.iaload, 1) := by decide +kernel
theorem dX4_valueBy_37 : decode cX4_valueBy 37 = .ok (.iconst 4, 1) := by decide +kernel
theorem dX4_valueBy_38 : decode cX4_valueBy 38 = .ok (.ishr, 1) := by decide +kernel
theorem dX4_valueBy_39 : decode cX4_valueBy 39 = .ok (.istore 7, 2) := by decide +kernel
theorem dX4_valueBy_41 : decode cX4_valueBy 41 = .ok (.iload 6, 2) := by decide +kernel
theorem dX4_valueBy_43 : decode cX4_valueBy 43 = .ok (.iconst 1, 1) := by decide +kernel
theorem dX4_valueBy_44 : decode cX4_valueBy 44 = .ok (.if_icmp .gt 39, 3) := by decide +kernel
theorem dX4_valueBy_47 : decode cX4_valueBy 47 = .ok (.iload 4, 2) := by decide +kernel
theorem dX4_valueBy_49 : decode cX4_valueBy 49 = .ok (.aload_n 2, 1) := by decide +kernel
theorem dX4_valueBy_50 : decode cX4_valueBy 50 = .ok (.arraylength, 1) := by decide +kernel
theorem dX4_valueBy_51 : decode cX4_valueBy 51 = .ok (.if_icmp .ge 32, 3) := by decide +kernel
theorem dX4_valueBy_54 : decode cX4_valueBy 54 = .ok (.aload_n 2, 1) := by decide +kernel
theorem dX4_valueBy_55 : decode cX4_valueBy 55 = .ok (.iload 4, 2) := by decide +kernel
theorem dX4_valueBy_57 : decode cX4_valueBy 57 = .ok (.iload_n 3, 1) := by decide +kernel
theorem dX4_valueBy_58 : decode cX4_valueBy 58 = .ok (.iastore, 1) := by decide +kernel
theorem dX4_valueBy_59 : decode cX4_valueBy 59 = .ok (.iinc 4 1, 3) := by decide +kernel
theorem dX4_valueBy_62 : decode cX4_valueBy 62 = .ok (.iload 6, 2) := by decide +kernel
theorem dX4_valueBy_64 : decode cX4_valueBy 64 = .ok (.ifCond .ne 8, 3) := by decide +kernel
theorem dX4_valueBy_67 : decode cX4_valueBy 67 = .ok (.iload 7, 2) := by decide +kernel
theorem dX4_valueBy_69 : decode cX4_valueBy 69 = .ok (.goto 10, 3) := by decide +kernel
theorem dX4_valueBy_72 : decode cX4_valueBy 72 = .ok (.aload_n 1, 1) := by decide +kernel
theorem dX4_valueBy_73 : decode cX4_valueBy 73 = .ok (.iload 7, 2) := by decide +kernel
theorem dX4_valueBy_75 : decode cX4_valueBy 75 = .ok (.bipush 7, 2) := by decide +kernel
theorem dX4_valueBy_77 : decode cX4_valueBy 77 = .ok (.iand, 1) := by decide +kernel
theorem dX4_valueBy_78 : decode cX4_valueBy 78 = .ok (.iaload, 1) := by decide +kernel
theorem dX4_valueBy_79 : decode cX4_valueBy 79 = .ok (.istore_n 3, 1) := by decide +kernel
theorem dX4_valueBy_80 : decode cX4_valueBy 80 = .ok (.goto 269, 3) := by decide +kernel
theorem dX4_valueBy_83 : decode cX4_valueBy 83 = .ok (.iload 6, 2) := by decide +kernel
theorem dX4_valueBy_85 : decode cX4_valueBy 85 = .ok (.bipush 8, 2) := by decide +kernel
theorem dX4_valueBy_87 : decode cX4_valueBy 87 = .ok (.if_icmp .ne 10, 3) := by decide +kernel
theorem dX4_valueBy_90 : decode cX4_valueBy 90 = .ok (.iconst 1, 1) := by decide +kernel
theorem dX4_valueBy_91 : decode cX4_valueBy 91 = .ok (.iload_n 3, 1) := by decide +kernel
theorem dX4_valueBy_92 : decode cX4_valueBy 92 = .ok (.isub, 1) := by decide +kernel
theorem dX4_valueBy_93 : decode cX4_valueBy 93 = .ok (.istore_n 3, 1) := by decide +kernel
theorem dX4_valueBy_94 : decode cX4_valueBy 94 = .ok (.goto 255, 3) := by decide +kernel
theorem dX4_valueBy_97 : decode cX4_valueBy 97 = .ok (.iload 6, 2) := by decide +kernel
theorem dX4_valueBy_99 : decode cX4_valueBy 99 = .ok (.bipush 12, 2) := by decide +kernel
theorem dX4_valueBy_101 : decode cX4_valueBy 101 = .ok (.if_icmp .eq 25, 3) := by decide +kernel
theorem dX4_valueBy_104 : decode cX4_valueBy 104 = .ok (.iload 6, 2) := by decide +kernel
theorem dX4_valueBy_106 : decode cX4_valueBy 106 = .ok (.bipush 9, 2) := by decide +kernel
theorem dX4_valueBy_108 : decode cX4_valueBy 108 = .ok (.if_icmp .ne 7, 3) := by decide +kernel
theorem dX4_valueBy_111 : decode cX4_valueBy 111 = .ok (.iload_n 3, 1) := by decide +kernel
theorem dX4_valueBy_112 : decode cX4_valueBy 112 = .ok (.ifCond .eq 14, 3) := by decide +kernel
theorem dX4_valueBy_115 : decode cX4_valueBy 115 = .ok (.iload 6, 2) := by decide +kernel
theorem dX4_valueBy_117 : decode cX4_valueBy 117 = .ok (.bipush 10, 2) := by decide +kernel
theorem dX4_valueBy_119 : decode cX4_valueBy 119 = .ok (.if_icmp .ne 28, 3) := by decide +kernel
theorem dX4_valueBy_122 : decode cX4_valueBy 122 = .ok (.iload_n 3, 1) := by decide +kernel
theorem dX4_valueBy_123 : decode cX4_valueBy 123 = .ok (.ifCond .eq 24, 3) := by decide +kernel
theorem dX4_valueBy_126 : decode cX4_valueBy 126 = .ok (.iload 7, 2) := by decide +kernel
theorem dX4_valueBy_128 : decode cX4_valueBy 128 = .ok (.iload 5, 2) := by decide +kernel
theorem dX4_valueBy_130 : decode cX4_valueBy 130 = .ok (.if_icmp .le 10, 3) := by decide +kernel
theorem dX4_valueBy_133 : decode cX4_valueBy 133 = .ok (.iload 7, 2) := by decide +kernel
theorem dX4_valueBy_135 : decode cX4_valueBy 135 = .ok (.iconst 1, 1) := by decide +kernel
theorem dX4_valueBy_136 : decode cX4_valueBy 136 = .ok (.isub, 1) := by decide +kernel
theorem dX4_valueBy_137 : decode cX4_valueBy 137 = .ok (.goto 5, 3) := by decide +kernel
theorem dX4_valueBy_140 : decode cX4_valueBy 140 = .ok (.iload 5, 2) := by decide +kernel
theorem dX4_valueBy_142 : decode cX4_valueBy 142 = .ok (.istore 5, 2) := by decide +kernel
theorem dX4_valueBy_144 : decode cX4_valueBy 144 = .ok (.goto 205, 3) := by decide +kernel
theorem dX4_valueBy_147 : decode cX4_valueBy 147 = .ok (.iload 4, 2) := by decide +kernel
theorem dX4_valueBy_149 : decode cX4_valueBy 149 = .ok (.ifCond .le 200, 3) := by decide +kernel
theorem dX4_valueBy_152 : decode cX4_valueBy 152 = .ok (.iinc 4 (-1), 3) := by decide +kernel
theorem dX4_valueBy_155 : decode cX4_valueBy 155 = .ok (.aload_n 2, 1) := by decide +kernel
theorem dX4_valueBy_156 : decode cX4_valueBy 156 = .ok (.iload 4, 2) := by decide +kernel
theorem dX4_valueBy_158 : decode cX4_valueBy 158 = .ok (.iaload, 1) := by decide +kernel
theorem dX4_valueBy_159 : decode cX4_valueBy 159 = .ok (.i2l, 1) := by decide +kernel
theorem dX4_valueBy_160 : decode cX4_valueBy 160 = .ok (.lstore 8, 2) := by decide +kernel
theorem dX4_valueBy_162 : decode cX4_valueBy 162 = .ok (.iload 6, 2) := by decide +kernel
theorem dX4_valueBy_164 : decode cX4_valueBy 164 = .ok (.tableswitch 124 2 7 #[40, 50, 60, 70, 88, 106], 40) := by decide +kernel
theorem dX4_valueBy_204 : decode cX4_valueBy 204 = .ok (.lload 8, 2) := by decide +kernel
theorem dX4_valueBy_206 : decode cX4_valueBy 206 = .ok (.iload_n 3, 1) := by decide +kernel
theorem dX4_valueBy_207 : decode cX4_valueBy 207 = .ok (.i2l, 1) := by decide +kernel
theorem dX4_valueBy_208 : decode cX4_valueBy 208 = .ok (.ladd, 1) := by decide +kernel
theorem dX4_valueBy_209 : decode cX4_valueBy 209 = .ok (.lstore 8, 2) := by decide +kernel
theorem dX4_valueBy_211 : decode cX4_valueBy 211 = .ok (.goto 106, 3) := by decide +kernel
theorem dX4_valueBy_214 : decode cX4_valueBy 214 = .ok (.lload 8, 2) := by decide +kernel
theorem dX4_valueBy_216 : decode cX4_valueBy 216 = .ok (.iload_n 3, 1) := by decide +kernel
theorem dX4_valueBy_217 : decode cX4_valueBy 217 = .ok (.i2l, 1) := by decide +kernel
theorem dX4_valueBy_218 : decode cX4_valueBy 218 = .ok (.lsub, 1) := by decide +kernel
theorem dX4_valueBy_219 : decode cX4_valueBy 219 = .ok (.lstore 8, 2) := by decide +kernel
theorem dX4_valueBy_221 : decode cX4_valueBy 221 = .ok (.goto 96, 3) := by decide +kernel
theorem dX4_valueBy_224 : decode cX4_valueBy 224 = .ok (.lload 8, 2) := by decide +kernel
theorem dX4_valueBy_226 : decode cX4_valueBy 226 = .ok (.iload_n 3, 1) := by decide +kernel
theorem dX4_valueBy_227 : decode cX4_valueBy 227 = .ok (.i2l, 1) := by decide +kernel
theorem dX4_valueBy_228 : decode cX4_valueBy 228 = .ok (.lmul, 1) := by decide +kernel
theorem dX4_valueBy_229 : decode cX4_valueBy 229 = .ok (.lstore 8, 2) := by decide +kernel
theorem dX4_valueBy_231 : decode cX4_valueBy 231 = .ok (.goto 86, 3) := by decide +kernel
theorem dX4_valueBy_234 : decode cX4_valueBy 234 = .ok (.lload 8, 2) := by decide +kernel
theorem dX4_valueBy_236 : decode cX4_valueBy 236 = .ok (.iload_n 3, 1) := by decide +kernel
theorem dX4_valueBy_237 : decode cX4_valueBy 237 = .ok (.i2l, 1) := by decide +kernel
theorem dX4_valueBy_238 : decode cX4_valueBy 238 = .ok (.lcmp, 1) := by decide +kernel
theorem dX4_valueBy_239 : decode cX4_valueBy 239 = .ok (.ifCond .ne 7, 3) := by decide +kernel
theorem dX4_valueBy_242 : decode cX4_valueBy 242 = .ok (.lconst 1, 1) := by decide +kernel
theorem dX4_valueBy_243 : decode cX4_valueBy 243 = .ok (.goto 4, 3) := by decide +kernel
theorem dX4_valueBy_246 : decode cX4_valueBy 246 = .ok (.lconst 0, 1) := by decide +kernel
theorem dX4_valueBy_247 : decode cX4_valueBy 247 = .ok (.lstore 8, 2) := by decide +kernel
theorem dX4_valueBy_249 : decode cX4_valueBy 249 = .ok (.goto 68, 3) := by decide +kernel
theorem dX4_valueBy_252 : decode cX4_valueBy 252 = .ok (.lload 8, 2) := by decide +kernel
theorem dX4_valueBy_254 : decode cX4_valueBy 254 = .ok (.iload_n 3, 1) := by decide +kernel
theorem dX4_valueBy_255 : decode cX4_valueBy 255 = .ok (.i2l, 1) := by decide +kernel
theorem dX4_valueBy_256 : decode cX4_valueBy 256 = .ok (.lcmp, 1) := by decide +kernel
theorem dX4_valueBy_257 : decode cX4_valueBy 257 = .ok (.ifCond .ge 7, 3) := by decide +kernel
theorem dX4_valueBy_260 : decode cX4_valueBy 260 = .ok (.lconst 1, 1) := by decide +kernel
theorem dX4_valueBy_261 : decode cX4_valueBy 261 = .ok (.goto 4, 3) := by decide +kernel
theorem dX4_valueBy_264 : decode cX4_valueBy 264 = .ok (.lconst 0, 1) := by decide +kernel
theorem dX4_valueBy_265 : decode cX4_valueBy 265 = .ok (.lstore 8, 2) := by decide +kernel
theorem dX4_valueBy_267 : decode cX4_valueBy 267 = .ok (.goto 50, 3) := by decide +kernel
theorem dX4_valueBy_270 : decode cX4_valueBy 270 = .ok (.lload 8, 2) := by decide +kernel
theorem dX4_valueBy_272 : decode cX4_valueBy 272 = .ok (.iload_n 3, 1) := by decide +kernel
theorem dX4_valueBy_273 : decode cX4_valueBy 273 = .ok (.i2l, 1) := by decide +kernel
theorem dX4_valueBy_274 : decode cX4_valueBy 274 = .ok (.lcmp, 1) := by decide +kernel
theorem dX4_valueBy_275 : decode cX4_valueBy 275 = .ok (.ifCond .le 7, 3) := by decide +kernel
theorem dX4_valueBy_278 : decode cX4_valueBy 278 = .ok (.lconst 1, 1) := by decide +kernel
theorem dX4_valueBy_279 : decode cX4_valueBy 279 = .ok (.goto 4, 3) := by decide +kernel
theorem dX4_valueBy_282 : decode cX4_valueBy 282 = .ok (.lconst 0, 1) := by decide +kernel
theorem dX4_valueBy_283 : decode cX4_valueBy 283 = .ok (.lstore 8, 2) := by decide +kernel
theorem dX4_valueBy_285 : decode cX4_valueBy 285 = .ok (.goto 32, 3) := by decide +kernel
theorem dX4_valueBy_288 : decode cX4_valueBy 288 = .ok (.iload 6, 2) := by decide +kernel
theorem dX4_valueBy_290 : decode cX4_valueBy 290 = .ok (.bipush 11, 2) := by decide +kernel
theorem dX4_valueBy_292 : decode cX4_valueBy 292 = .ok (.if_icmp .ne 21, 3) := by decide +kernel
theorem dX4_valueBy_295 : decode cX4_valueBy 295 = .ok (.iload_n 3, 1) := by decide +kernel
theorem dX4_valueBy_296 : decode cX4_valueBy 296 = .ok (.ifCond .ne 17, 3) := by decide +kernel
theorem dX4_valueBy_299 : decode cX4_valueBy 299 = .ok (.iload 7, 2) := by decide +kernel
theorem dX4_valueBy_301 : decode cX4_valueBy 301 = .ok (.iload 5, 2) := by decide +kernel
theorem dX4_valueBy_303 : decode cX4_valueBy 303 = .ok (.if_icmp .le 10, 3) := by decide +kernel
theorem dX4_valueBy_306 : decode cX4_valueBy 306 = .ok (.iload 7, 2) := by decide +kernel
theorem dX4_valueBy_308 : decode cX4_valueBy 308 = .ok (.iconst 1, 1) := by decide +kernel
theorem dX4_valueBy_309 : decode cX4_valueBy 309 = .ok (.isub, 1) := by decide +kernel
theorem dX4_valueBy_310 : decode cX4_valueBy 310 = .ok (.goto 5, 3) := by decide +kernel
theorem dX4_valueBy_313 : decode cX4_valueBy 313 = .ok (.iload 5, 2) := by decide +kernel
theorem dX4_valueBy_315 : decode cX4_valueBy 315 = .ok (.istore 5, 2) := by decide +kernel
theorem dX4_valueBy_317 : decode cX4_valueBy 317 = .ok (.lload 8, 2) := by decide +kernel
theorem dX4_valueBy_319 : decode cX4_valueBy 319 = .ok (.ldc2_w 19, 3) := by decide +kernel
theorem dX4_valueBy_322 : decode cX4_valueBy 322 = .ok (.lcmp, 1) := by decide +kernel
theorem dX4_valueBy_323 : decode cX4_valueBy 323 = .ok (.ifCond .le 8, 3) := by decide +kernel
theorem dX4_valueBy_326 : decode cX4_valueBy 326 = .ok (.ldc 21, 2) := by decide +kernel
theorem dX4_valueBy_328 : decode cX4_valueBy 328 = .ok (.goto 20, 3) := by decide +kernel
theorem dX4_valueBy_331 : decode cX4_valueBy 331 = .ok (.lload 8, 2) := by decide +kernel
theorem dX4_valueBy_333 : decode cX4_valueBy 333 = .ok (.ldc2_w 22, 3) := by decide +kernel
theorem dX4_valueBy_336 : decode cX4_valueBy 336 = .ok (.lcmp, 1) := by decide +kernel
theorem dX4_valueBy_337 : decode cX4_valueBy 337 = .ok (.ifCond .ge 8, 3) := by decide +kernel
theorem dX4_valueBy_340 : decode cX4_valueBy 340 = .ok (.ldc 24, 2) := by decide +kernel
theorem dX4_valueBy_342 : decode cX4_valueBy 342 = .ok (.goto 6, 3) := by decide +kernel
theorem dX4_valueBy_345 : decode cX4_valueBy 345 = .ok (.lload 8, 2) := by decide +kernel
theorem dX4_valueBy_347 : decode cX4_valueBy 347 = .ok (.l2i, 1) := by decide +kernel
theorem dX4_valueBy_348 : decode cX4_valueBy 348 = .ok (.istore_n 3, 1) := by decide +kernel
theorem dX4_valueBy_349 : decode cX4_valueBy 349 = .ok (.iinc 5 1, 3) := by decide +kernel
theorem dX4_valueBy_352 : decode cX4_valueBy 352 = .ok (.goto (-344), 3) := by decide +kernel
theorem dX4_valueBy_355 : decode cX4_valueBy 355 = .ok (.iload_n 3, 1) := by decide +kernel
theorem dX4_valueBy_356 : decode cX4_valueBy 356 = .ok (.ireturn, 1) := by decide +kernel
theorem wX4_valueBy : Mw yX4_valueBy cX4_valueBy 10 (some .int) 2 := ⟨q_789, q_137, by decide, ⟨by decide +kernel, by decide +kernel⟩, by decide +kernel, by decide +kernel⟩
-- a loop of EyeTrainer$Law.valueBy at 8
def jX4_valueBy_317 (T : Sh) (M : Me) (x0 : Nat) (x1 : Nat) (x2 : Nat) (x4 : Int32) (x5 : Int32) (x8 : Int64) : Option ((Int32 × Int32 × Int32 × Me) ⊕ ((Int32 × Me))) :=
  if (lg_cmp x8 (1000000 : Int64)) ≤ 0 then (if 0 ≤ (lg_cmp x8 (-1000000 : Int64)) then (lt (Int64.toInt32 x8) fun v31 => lt (x5 + (1 : Int32)) fun v32 => some (.inl (v31, x4, v32, M))) else (lt (x5 + (1 : Int32)) fun v33 => some (.inl ((-1000000 : Int32), x4, v33, M)))) else (lt (x5 + (1 : Int32)) fun v34 => some (.inl ((1000000 : Int32), x4, v34, M)))
def jX4_valueBy_247 (T : Sh) (M : Me) (x0 : Nat) (x1 : Nat) (x2 : Nat) (x4 : Int32) (x5 : Int32) (s0 : Int64) : Option ((Int32 × Int32 × Int32 × Me) ⊕ ((Int32 × Me))) :=
  jX4_valueBy_317 T M x0 x1 x2 x4 x5 s0
def jX4_valueBy_265 (T : Sh) (M : Me) (x0 : Nat) (x1 : Nat) (x2 : Nat) (x4 : Int32) (x5 : Int32) (s0 : Int64) : Option ((Int32 × Int32 × Int32 × Me) ⊕ ((Int32 × Me))) :=
  jX4_valueBy_317 T M x0 x1 x2 x4 x5 s0
def jX4_valueBy_283 (T : Sh) (M : Me) (x0 : Nat) (x1 : Nat) (x2 : Nat) (x4 : Int32) (x5 : Int32) (s0 : Int64) : Option ((Int32 × Int32 × Int32 × Me) ⊕ ((Int32 × Me))) :=
  jX4_valueBy_317 T M x0 x1 x2 x4 x5 s0
def jX4_valueBy_315 (T : Sh) (M : Me) (x0 : Nat) (x1 : Nat) (x2 : Nat) (x4 : Int32) (x8 : Int64) (s0 : Int32) : Option ((Int32 × Int32 × Int32 × Me) ⊕ ((Int32 × Me))) :=
  jX4_valueBy_317 T M x0 x1 x2 x4 s0 x8
def jX4_valueBy_313 (T : Sh) (M : Me) (x0 : Nat) (x1 : Nat) (x2 : Nat) (x4 : Int32) (x5 : Int32) (x8 : Int64) : Option ((Int32 × Int32 × Int32 × Me) ⊕ ((Int32 × Me))) :=
  jX4_valueBy_315 T M x0 x1 x2 x4 x8 x5
def jX4_valueBy_147 (T : Sh) (M : Me) (x0 : Nat) (x1 : Nat) (x2 : Nat) (x3 : Int32) (x4 : Int32) (x5 : Int32) (x6 : Int32) (x7 : Int32) : Option ((Int32 × Int32 × Int32 × Me) ⊕ ((Int32 × Me))) :=
  if x4 ≤ 0 then (lt (x5 + (1 : Int32)) fun v23 => some (.inl (x3, x4, v23, M))) else (lt (x4 + (-1 : Int32)) fun v24 => gd (kd T x2 = 13) <| gv v24 (ln T x2) <| lt (Int32.toInt64 (gI M x2 (Int32.toNatClampNeg v24))) fun v27 => if x6 = (2 : Int32) then (lt (v27 + (Int32.toInt64 x3)) fun v28 => jX4_valueBy_317 T M x0 x1 x2 v24 x5 v28) else (if x6 = (3 : Int32) then (lt (v27 - (Int32.toInt64 x3)) fun v35 => jX4_valueBy_317 T M x0 x1 x2 v24 x5 v35) else (if x6 = (4 : Int32) then (lt (v27 * (Int32.toInt64 x3)) fun v36 => jX4_valueBy_317 T M x0 x1 x2 v24 x5 v36) else (if x6 = (5 : Int32) then (if (lg_cmp v27 (Int32.toInt64 x3)) = 0 then (jX4_valueBy_247 T M x0 x1 x2 v24 x5 (1 : Int64)) else (jX4_valueBy_247 T M x0 x1 x2 v24 x5 (0 : Int64))) else (if x6 = (6 : Int32) then (if 0 ≤ (lg_cmp v27 (Int32.toInt64 x3)) then (jX4_valueBy_265 T M x0 x1 x2 v24 x5 (0 : Int64)) else (jX4_valueBy_265 T M x0 x1 x2 v24 x5 (1 : Int64))) else (if x6 = (7 : Int32) then (if (lg_cmp v27 (Int32.toInt64 x3)) ≤ 0 then (jX4_valueBy_283 T M x0 x1 x2 v24 x5 (0 : Int64)) else (jX4_valueBy_283 T M x0 x1 x2 v24 x5 (1 : Int64))) else (if x6 = (11 : Int32) then (if x3 = 0 then (if x7 ≤ x5 then (jX4_valueBy_313 T M x0 x1 x2 v24 x5 v27) else (jX4_valueBy_315 T M x0 x1 x2 v24 v27 (x7 - (1 : Int32)))) else (jX4_valueBy_313 T M x0 x1 x2 v24 x5 v27)) else (jX4_valueBy_313 T M x0 x1 x2 v24 x5 v27))))))))
def jX4_valueBy_115 (T : Sh) (M : Me) (x0 : Nat) (x1 : Nat) (x2 : Nat) (x3 : Int32) (x4 : Int32) (x5 : Int32) (x6 : Int32) (x7 : Int32) : Option ((Int32 × Int32 × Int32 × Me) ⊕ ((Int32 × Me))) :=
  if x6 = (10 : Int32) then (if x3 = 0 then (jX4_valueBy_147 T M x0 x1 x2 x3 x4 x5 x6 x7) else (if x7 ≤ x5 then (lt (x5 + (1 : Int32)) fun v46 => some (.inl (x3, x4, v46, M))) else (lt (x7 - (1 : Int32)) fun v47 => lt (v47 + (1 : Int32)) fun v48 => some (.inl (x3, x4, v48, M))))) else (jX4_valueBy_147 T M x0 x1 x2 x3 x4 x5 x6 x7)
def jX4_valueBy_83 (T : Sh) (M : Me) (x0 : Nat) (x1 : Nat) (x2 : Nat) (x3 : Int32) (x4 : Int32) (x5 : Int32) (x6 : Int32) (x7 : Int32) : Option ((Int32 × Int32 × Int32 × Me) ⊕ ((Int32 × Me))) :=
  if x6 = (8 : Int32) then (lt ((1 : Int32) - x3) fun v54 => lt (x5 + (1 : Int32)) fun v55 => some (.inl (v54, x4, v55, M))) else (if x6 = (12 : Int32) then (if x7 ≤ x5 then (lt (x5 + (1 : Int32)) fun v17 => some (.inl (x3, x4, v17, M))) else (lt (x7 - (1 : Int32)) fun v18 => lt (v18 + (1 : Int32)) fun v19 => some (.inl (x3, x4, v19, M)))) else (if x6 = (9 : Int32) then (if x3 = 0 then (if x7 ≤ x5 then (lt (x5 + (1 : Int32)) fun v51 => some (.inl (x3, x4, v51, M))) else (lt (x7 - (1 : Int32)) fun v52 => lt (v52 + (1 : Int32)) fun v53 => some (.inl (x3, x4, v53, M)))) else (jX4_valueBy_115 T M x0 x1 x2 x3 x4 x5 x6 x7)) else (jX4_valueBy_115 T M x0 x1 x2 x3 x4 x5 x6 x7)))
def bX4_valueBy_8 (T : Sh) (x0 : Nat) (x1 : Nat) (x2 : Nat) (x3 : Int32) (x4 : Int32) (x5 : Int32) (M : Me) : Option ((Int32 × Int32 × Int32 × Me) ⊕ ((Int32 × Me))) :=
  gd (kd T x0 = 3) <| Option.bind (gR M x0 0) fun a2 => gd (kd T a2 = 13) <| if (nI (ln T a2)) ≤ x5 then (some (.inr (x3, M))) else (Option.bind (gR M x0 0) fun a5 => gd (kd T a5 = 13) <| gv x5 (ln T a5) <| lt ((gI M a5 (Int32.toNatClampNeg x5)) &&& (15 : Int32)) fun v8 => Option.bind (gR M x0 0) fun a9 => gd (kd T a9 = 13) <| gv x5 (ln T a9) <| lt ((gI M a9 (Int32.toNatClampNeg x5)) >>> ((4 : Int32) &&& 31)) fun v12 => if (1 : Int32) < v8 then (jX4_valueBy_83 T M x0 x1 x2 x3 x4 x5 v8 v12) else (gd (kd T x2 = 13) <| if (nI (ln T x2)) ≤ x4 then (jX4_valueBy_83 T M x0 x1 x2 x3 x4 x5 v8 v12) else (gv x4 (ln T x2) <| lt (pI M x2 (Int32.toNatClampNeg x4) x3) fun M59 => lt (x4 + (1 : Int32)) fun v60 => if v8 = 0 then (lt (x5 + (1 : Int32)) fun v66 => some (.inl (v12, v60, v66, M59))) else (gd (kd T x1 = 13) <| gv (v12 &&& (7 : Int32)) (ln T x1) <| lt (gI M59 x1 (Int32.toNatClampNeg (v12 &&& (7 : Int32)))) fun v64 => lt (x5 + (1 : Int32)) fun v65 => some (.inl (v64, v60, v65, M59))))))
def PX4_valueBy_8 (X : Fx) (B : Bx) (Z : Nat × Nat × Nat × Nat) (Q : State → Prop) (T : Sh) (x0 : Nat) (x1 : Nat) (x2 : Nat) (s : Int32 × Int32 × Int32 × Me) : Prop := G X B 10 Z Q 8 [(0, .ref (x0)), (1, .ref (x1)), (2, .ref (x2)), (3, .int (s.1)), (4, .int (s.2.1)), (5, .int (s.2.2.1))] [] T s.2.2.2
def EX4_valueBy_8 (X : Fx) (B : Bx) (Z : Nat × Nat × Nat × Nat) (Q : State → Prop) (T : Sh) (x0 : Nat) (x1 : Nat) (x2 : Nat) (r : (Int32 × Me)) : Prop := G X B 10 Z Q 355 [(3, .int (r.1))] [] T r.2
set_option maxHeartbeats 4000000 in
theorem tjX4_valueBy_317 {X : Fx} {B : Bx} {Z : Nat × Nat × Nat × Nat} {Q : State → Prop} {d : Nat} {T : Sh} {M : Me} {x0 : Nat} {x1 : Nat} {x2 : Nat} {x4 : Int32} {x5 : Int32} {x8 : Int64} {o : (Int32 × Int32 × Int32 × Me) ⊕ ((Int32 × Me))} (C : Cx X B cX4_valueBy 10 RX4 d Z) (hd : 0 ≤ d) (h : jX4_valueBy_317 T M x0 x1 x2 x4 x5 x8 = some o) (hE : lpE (PX4_valueBy_8 X B Z Q T x0 x1 x2) (EX4_valueBy_8 X B Z Q T x0 x1 x2) o) : G X B 10 Z Q 317 [(0, .ref (x0)), (1, .ref (x1)), (2, .ref (x2)), (4, .int (x4)), (5, .int (x5)), (8, .long (x8))] [] T M := by
  unfold jX4_valueBy_317 at h
  refine g_lload (pc := 317) C dX4_valueBy_317 5 rfl ?_
  refine g_ldc2 (pc := 319) C dX4_valueBy_319 q_790 ?_
  refine g_lcmp (pc := 322) C dX4_valueBy_322 ?_
  refine g_if_le (pc := 323) (tgt := 331) C dX4_valueBy_323 (by decide) (fun c29 => ?_) (fun c29 => ?_)
  · replace h := ifp c29 h
    refine g_lload (pc := 331) C dX4_valueBy_331 5 rfl ?_
    refine g_ldc2 (pc := 333) C dX4_valueBy_333 q_792 ?_
    refine g_lcmp (pc := 336) C dX4_valueBy_336 ?_
    refine g_if_ge (pc := 337) (tgt := 345) C dX4_valueBy_337 (by decide) (fun c30 => ?_) (fun c30 => ?_)
    · replace h := ifp c30 h
      refine g_lload (pc := 345) C dX4_valueBy_345 5 rfl ?_
      refine g_l2i (pc := 347) C dX4_valueBy_347 ?_
      refine g_topi (fun v31 ev31 => ?_)
      replace h := lt_at ev31 h
      refine g_istore_n (pc := 348) (lo2 := [(3, .int (v31)), (0, .ref (x0)), (1, .ref (x1)), (2, .ref (x2)), (4, .int (x4)), (5, .int (x5)), (8, .long (x8))]) C dX4_valueBy_348 rfl (by decide) rfl ?_
      obtain ⟨v32, ev32⟩ : ∃ y : Int32, y = x5 + (1 : Int32) := ⟨_, rfl⟩
      replace h := lt_at ev32 h
      refine g_iinc (pc := 349) (v := v32) (k := 5) (lo2 := [(5, .int (v32)), (3, .int (v31)), (0, .ref (x0)), (1, .ref (x1)), (2, .ref (x2)), (4, .int (x4)), (8, .long (x8))]) C dX4_valueBy_349 rfl (by rw [ev32]; rfl) (by decide) rfl ?_
      refine g_goto (pc := 352) (tgt := 8) C dX4_valueBy_352 (by decide) ?_
      obtain rfl := Option.some.inj h
      exact g_sub [2, 3, 4, 1, 5, 0] rfl (show G X B 10 Z Q 8 [(0, .ref (x0)), (1, .ref (x1)), (2, .ref (x2)), (3, .int (v31)), (4, .int (x4)), (5, .int (v32))] [] T M from hE)
    · replace h := ifn c30 h
      refine g_ldc (pc := 340) C dX4_valueBy_340 q_793 ?_
      refine g_goto (pc := 342) (tgt := 348) C dX4_valueBy_342 (by decide) ?_
      refine g_istore_n (pc := 348) (lo2 := [(3, .int ((-1000000 : Int32))), (0, .ref (x0)), (1, .ref (x1)), (2, .ref (x2)), (4, .int (x4)), (5, .int (x5)), (8, .long (x8))]) C dX4_valueBy_348 rfl (by decide) rfl ?_
      obtain ⟨v33, ev33⟩ : ∃ y : Int32, y = x5 + (1 : Int32) := ⟨_, rfl⟩
      replace h := lt_at ev33 h
      refine g_iinc (pc := 349) (v := v33) (k := 5) (lo2 := [(5, .int (v33)), (3, .int ((-1000000 : Int32))), (0, .ref (x0)), (1, .ref (x1)), (2, .ref (x2)), (4, .int (x4)), (8, .long (x8))]) C dX4_valueBy_349 rfl (by rw [ev33]; rfl) (by decide) rfl ?_
      refine g_goto (pc := 352) (tgt := 8) C dX4_valueBy_352 (by decide) ?_
      obtain rfl := Option.some.inj h
      exact g_sub [2, 3, 4, 1, 5, 0] rfl (show G X B 10 Z Q 8 [(0, .ref (x0)), (1, .ref (x1)), (2, .ref (x2)), (3, .int ((-1000000 : Int32))), (4, .int (x4)), (5, .int (v33))] [] T M from hE)
  · replace h := ifn c29 h
    refine g_ldc (pc := 326) C dX4_valueBy_326 q_791 ?_
    refine g_goto (pc := 328) (tgt := 348) C dX4_valueBy_328 (by decide) ?_
    refine g_istore_n (pc := 348) (lo2 := [(3, .int ((1000000 : Int32))), (0, .ref (x0)), (1, .ref (x1)), (2, .ref (x2)), (4, .int (x4)), (5, .int (x5)), (8, .long (x8))]) C dX4_valueBy_348 rfl (by decide) rfl ?_
    obtain ⟨v34, ev34⟩ : ∃ y : Int32, y = x5 + (1 : Int32) := ⟨_, rfl⟩
    replace h := lt_at ev34 h
    refine g_iinc (pc := 349) (v := v34) (k := 5) (lo2 := [(5, .int (v34)), (3, .int ((1000000 : Int32))), (0, .ref (x0)), (1, .ref (x1)), (2, .ref (x2)), (4, .int (x4)), (8, .long (x8))]) C dX4_valueBy_349 rfl (by rw [ev34]; rfl) (by decide) rfl ?_
    refine g_goto (pc := 352) (tgt := 8) C dX4_valueBy_352 (by decide) ?_
    obtain rfl := Option.some.inj h
    exact g_sub [2, 3, 4, 1, 5, 0] rfl (show G X B 10 Z Q 8 [(0, .ref (x0)), (1, .ref (x1)), (2, .ref (x2)), (3, .int ((1000000 : Int32))), (4, .int (x4)), (5, .int (v34))] [] T M from hE)
set_option maxHeartbeats 4000000 in
theorem tjX4_valueBy_247 {X : Fx} {B : Bx} {Z : Nat × Nat × Nat × Nat} {Q : State → Prop} {d : Nat} {T : Sh} {M : Me} {x0 : Nat} {x1 : Nat} {x2 : Nat} {x4 : Int32} {x5 : Int32} {s0 : Int64} {o : (Int32 × Int32 × Int32 × Me) ⊕ ((Int32 × Me))} (C : Cx X B cX4_valueBy 10 RX4 d Z) (hd : 0 ≤ d) (h : jX4_valueBy_247 T M x0 x1 x2 x4 x5 s0 = some o) (hE : lpE (PX4_valueBy_8 X B Z Q T x0 x1 x2) (EX4_valueBy_8 X B Z Q T x0 x1 x2) o) : G X B 10 Z Q 247 [(0, .ref (x0)), (1, .ref (x1)), (2, .ref (x2)), (4, .int (x4)), (5, .int (x5))] [.long (s0)] T M := by
  unfold jX4_valueBy_247 at h
  refine g_lstore (pc := 247) (lo2 := [(8, .long (s0)), (0, .ref (x0)), (1, .ref (x1)), (2, .ref (x2)), (4, .int (x4)), (5, .int (x5))]) C dX4_valueBy_247 (by decide) rfl ?_
  refine g_goto (pc := 249) (tgt := 317) C dX4_valueBy_249 (by decide) ?_
  exact g_sub [1, 2, 3, 4, 5, 0] rfl (tjX4_valueBy_317 C hd h hE)
set_option maxHeartbeats 4000000 in
theorem tjX4_valueBy_265 {X : Fx} {B : Bx} {Z : Nat × Nat × Nat × Nat} {Q : State → Prop} {d : Nat} {T : Sh} {M : Me} {x0 : Nat} {x1 : Nat} {x2 : Nat} {x4 : Int32} {x5 : Int32} {s0 : Int64} {o : (Int32 × Int32 × Int32 × Me) ⊕ ((Int32 × Me))} (C : Cx X B cX4_valueBy 10 RX4 d Z) (hd : 0 ≤ d) (h : jX4_valueBy_265 T M x0 x1 x2 x4 x5 s0 = some o) (hE : lpE (PX4_valueBy_8 X B Z Q T x0 x1 x2) (EX4_valueBy_8 X B Z Q T x0 x1 x2) o) : G X B 10 Z Q 265 [(0, .ref (x0)), (1, .ref (x1)), (2, .ref (x2)), (4, .int (x4)), (5, .int (x5))] [.long (s0)] T M := by
  unfold jX4_valueBy_265 at h
  refine g_lstore (pc := 265) (lo2 := [(8, .long (s0)), (0, .ref (x0)), (1, .ref (x1)), (2, .ref (x2)), (4, .int (x4)), (5, .int (x5))]) C dX4_valueBy_265 (by decide) rfl ?_
  refine g_goto (pc := 267) (tgt := 317) C dX4_valueBy_267 (by decide) ?_
  exact g_sub [1, 2, 3, 4, 5, 0] rfl (tjX4_valueBy_317 C hd h hE)
set_option maxHeartbeats 4000000 in
theorem tjX4_valueBy_283 {X : Fx} {B : Bx} {Z : Nat × Nat × Nat × Nat} {Q : State → Prop} {d : Nat} {T : Sh} {M : Me} {x0 : Nat} {x1 : Nat} {x2 : Nat} {x4 : Int32} {x5 : Int32} {s0 : Int64} {o : (Int32 × Int32 × Int32 × Me) ⊕ ((Int32 × Me))} (C : Cx X B cX4_valueBy 10 RX4 d Z) (hd : 0 ≤ d) (h : jX4_valueBy_283 T M x0 x1 x2 x4 x5 s0 = some o) (hE : lpE (PX4_valueBy_8 X B Z Q T x0 x1 x2) (EX4_valueBy_8 X B Z Q T x0 x1 x2) o) : G X B 10 Z Q 283 [(0, .ref (x0)), (1, .ref (x1)), (2, .ref (x2)), (4, .int (x4)), (5, .int (x5))] [.long (s0)] T M := by
  unfold jX4_valueBy_283 at h
  refine g_lstore (pc := 283) (lo2 := [(8, .long (s0)), (0, .ref (x0)), (1, .ref (x1)), (2, .ref (x2)), (4, .int (x4)), (5, .int (x5))]) C dX4_valueBy_283 (by decide) rfl ?_
  refine g_goto (pc := 285) (tgt := 317) C dX4_valueBy_285 (by decide) ?_
  exact g_sub [1, 2, 3, 4, 5, 0] rfl (tjX4_valueBy_317 C hd h hE)
set_option maxHeartbeats 4000000 in
theorem tjX4_valueBy_315 {X : Fx} {B : Bx} {Z : Nat × Nat × Nat × Nat} {Q : State → Prop} {d : Nat} {T : Sh} {M : Me} {x0 : Nat} {x1 : Nat} {x2 : Nat} {x4 : Int32} {x8 : Int64} {s0 : Int32} {o : (Int32 × Int32 × Int32 × Me) ⊕ ((Int32 × Me))} (C : Cx X B cX4_valueBy 10 RX4 d Z) (hd : 0 ≤ d) (h : jX4_valueBy_315 T M x0 x1 x2 x4 x8 s0 = some o) (hE : lpE (PX4_valueBy_8 X B Z Q T x0 x1 x2) (EX4_valueBy_8 X B Z Q T x0 x1 x2) o) : G X B 10 Z Q 315 [(0, .ref (x0)), (1, .ref (x1)), (2, .ref (x2)), (4, .int (x4)), (8, .long (x8))] [.int (s0)] T M := by
  unfold jX4_valueBy_315 at h
  refine g_istore (pc := 315) (lo2 := [(5, .int (s0)), (0, .ref (x0)), (1, .ref (x1)), (2, .ref (x2)), (4, .int (x4)), (8, .long (x8))]) C dX4_valueBy_315 (by decide) rfl ?_
  exact g_sub [1, 2, 3, 4, 0, 5] rfl (tjX4_valueBy_317 C hd h hE)
set_option maxHeartbeats 4000000 in
theorem tjX4_valueBy_313 {X : Fx} {B : Bx} {Z : Nat × Nat × Nat × Nat} {Q : State → Prop} {d : Nat} {T : Sh} {M : Me} {x0 : Nat} {x1 : Nat} {x2 : Nat} {x4 : Int32} {x5 : Int32} {x8 : Int64} {o : (Int32 × Int32 × Int32 × Me) ⊕ ((Int32 × Me))} (C : Cx X B cX4_valueBy 10 RX4 d Z) (hd : 0 ≤ d) (h : jX4_valueBy_313 T M x0 x1 x2 x4 x5 x8 = some o) (hE : lpE (PX4_valueBy_8 X B Z Q T x0 x1 x2) (EX4_valueBy_8 X B Z Q T x0 x1 x2) o) : G X B 10 Z Q 313 [(0, .ref (x0)), (1, .ref (x1)), (2, .ref (x2)), (4, .int (x4)), (5, .int (x5)), (8, .long (x8))] [] T M := by
  unfold jX4_valueBy_313 at h
  refine g_iload (pc := 313) C dX4_valueBy_313 4 rfl ?_
  exact g_sub [0, 1, 2, 3, 5] rfl (tjX4_valueBy_315 C hd h hE)
set_option maxHeartbeats 4000000 in
theorem tjX4_valueBy_147 {X : Fx} {B : Bx} {Z : Nat × Nat × Nat × Nat} {Q : State → Prop} {d : Nat} {T : Sh} {M : Me} {x0 : Nat} {x1 : Nat} {x2 : Nat} {x3 : Int32} {x4 : Int32} {x5 : Int32} {x6 : Int32} {x7 : Int32} {o : (Int32 × Int32 × Int32 × Me) ⊕ ((Int32 × Me))} (C : Cx X B cX4_valueBy 10 RX4 d Z) (hd : 0 ≤ d) (h : jX4_valueBy_147 T M x0 x1 x2 x3 x4 x5 x6 x7 = some o) (hE : lpE (PX4_valueBy_8 X B Z Q T x0 x1 x2) (EX4_valueBy_8 X B Z Q T x0 x1 x2) o) : G X B 10 Z Q 147 [(0, .ref (x0)), (1, .ref (x1)), (2, .ref (x2)), (3, .int (x3)), (4, .int (x4)), (5, .int (x5)), (6, .int (x6)), (7, .int (x7))] [] T M := by
  unfold jX4_valueBy_147 at h
  refine g_iload (pc := 147) C dX4_valueBy_147 4 rfl ?_
  refine g_if_le (pc := 149) (tgt := 349) C dX4_valueBy_149 (by decide) (fun c22 => ?_) (fun c22 => ?_)
  · replace h := ifp c22 h
    obtain ⟨v23, ev23⟩ : ∃ y : Int32, y = x5 + (1 : Int32) := ⟨_, rfl⟩
    replace h := lt_at ev23 h
    refine g_iinc (pc := 349) (v := v23) (k := 5) (lo2 := [(5, .int (v23)), (0, .ref (x0)), (1, .ref (x1)), (2, .ref (x2)), (3, .int (x3)), (4, .int (x4)), (6, .int (x6)), (7, .int (x7))]) C dX4_valueBy_349 rfl (by rw [ev23]; rfl) (by decide) rfl ?_
    refine g_goto (pc := 352) (tgt := 8) C dX4_valueBy_352 (by decide) ?_
    obtain rfl := Option.some.inj h
    exact g_sub [1, 2, 3, 4, 5, 0] rfl (show G X B 10 Z Q 8 [(0, .ref (x0)), (1, .ref (x1)), (2, .ref (x2)), (3, .int (x3)), (4, .int (x4)), (5, .int (v23))] [] T M from hE)
  · replace h := ifn c22 h
    obtain ⟨v24, ev24⟩ : ∃ y : Int32, y = x4 + (-1 : Int32) := ⟨_, rfl⟩
    replace h := lt_at ev24 h
    refine g_iinc (pc := 152) (v := v24) (k := 4) (lo2 := [(4, .int (v24)), (0, .ref (x0)), (1, .ref (x1)), (2, .ref (x2)), (3, .int (x3)), (5, .int (x5)), (6, .int (x6)), (7, .int (x7))]) C dX4_valueBy_152 rfl (by rw [ev24]; rfl) (by decide) rfl ?_
    refine g_aload_n (pc := 155) C dX4_valueBy_155 rfl 3 rfl ?_
    refine g_iload (pc := 156) C dX4_valueBy_156 0 rfl ?_
    replace h := gd_some h; obtain ⟨hk25, h⟩ := h
    replace h := gv_some h; obtain ⟨hi26, h⟩ := h
    refine g_iald (pc := 158) C dX4_valueBy_158 hk25 hi26 ?_
    refine g_i2l (pc := 159) C dX4_valueBy_159 ?_
    refine g_topl (fun v27 ev27 => ?_)
    replace h := lt_at ev27 h
    refine g_lstore (pc := 160) (lo2 := [(8, .long (v27)), (4, .int (v24)), (0, .ref (x0)), (1, .ref (x1)), (2, .ref (x2)), (3, .int (x3)), (5, .int (x5)), (6, .int (x6)), (7, .int (x7))]) C dX4_valueBy_160 (by decide) rfl ?_
    refine g_iload (pc := 162) C dX4_valueBy_162 7 rfl ?_
    by_cases cw43_0 : x6 = (2 : Int32)
    · replace h := ifp cw43_0 h
      have hq : x6.toInt = 2 := by rw [cw43_0]; rfl
      refine g_tswIn (off := 40) (tgt := 204) C dX4_valueBy_164 (by rw [hq]; decide) (by rw [hq]; decide) (by rw [hq]; rfl) (by decide) ?_
      refine g_lload (pc := 204) C dX4_valueBy_204 0 rfl ?_
      refine g_iload_n (pc := 206) C dX4_valueBy_206 rfl 5 rfl ?_
      refine g_i2l (pc := 207) C dX4_valueBy_207 ?_
      refine g_ladd (pc := 208) C dX4_valueBy_208 ?_
      refine g_topl (fun v28 ev28 => ?_)
      replace h := lt_at ev28 h
      refine g_lstore (pc := 209) (lo2 := [(8, .long (v28)), (4, .int (v24)), (0, .ref (x0)), (1, .ref (x1)), (2, .ref (x2)), (3, .int (x3)), (5, .int (x5)), (6, .int (x6)), (7, .int (x7))]) C dX4_valueBy_209 (by decide) rfl ?_
      refine g_goto (pc := 211) (tgt := 317) C dX4_valueBy_211 (by decide) ?_
      exact g_sub [2, 3, 4, 1, 6, 0] rfl (tjX4_valueBy_317 C hd h hE)
    · replace h := ifn cw43_0 h
      by_cases cw43_1 : x6 = (3 : Int32)
      · replace h := ifp cw43_1 h
        have hq : x6.toInt = 3 := by rw [cw43_1]; rfl
        refine g_tswIn (off := 50) (tgt := 214) C dX4_valueBy_164 (by rw [hq]; decide) (by rw [hq]; decide) (by rw [hq]; rfl) (by decide) ?_
        refine g_lload (pc := 214) C dX4_valueBy_214 0 rfl ?_
        refine g_iload_n (pc := 216) C dX4_valueBy_216 rfl 5 rfl ?_
        refine g_i2l (pc := 217) C dX4_valueBy_217 ?_
        refine g_lsub (pc := 218) C dX4_valueBy_218 ?_
        refine g_topl (fun v35 ev35 => ?_)
        replace h := lt_at ev35 h
        refine g_lstore (pc := 219) (lo2 := [(8, .long (v35)), (4, .int (v24)), (0, .ref (x0)), (1, .ref (x1)), (2, .ref (x2)), (3, .int (x3)), (5, .int (x5)), (6, .int (x6)), (7, .int (x7))]) C dX4_valueBy_219 (by decide) rfl ?_
        refine g_goto (pc := 221) (tgt := 317) C dX4_valueBy_221 (by decide) ?_
        exact g_sub [2, 3, 4, 1, 6, 0] rfl (tjX4_valueBy_317 C hd h hE)
      · replace h := ifn cw43_1 h
        by_cases cw43_2 : x6 = (4 : Int32)
        · replace h := ifp cw43_2 h
          have hq : x6.toInt = 4 := by rw [cw43_2]; rfl
          refine g_tswIn (off := 60) (tgt := 224) C dX4_valueBy_164 (by rw [hq]; decide) (by rw [hq]; decide) (by rw [hq]; rfl) (by decide) ?_
          refine g_lload (pc := 224) C dX4_valueBy_224 0 rfl ?_
          refine g_iload_n (pc := 226) C dX4_valueBy_226 rfl 5 rfl ?_
          refine g_i2l (pc := 227) C dX4_valueBy_227 ?_
          refine g_lmul (pc := 228) C dX4_valueBy_228 ?_
          refine g_topl (fun v36 ev36 => ?_)
          replace h := lt_at ev36 h
          refine g_lstore (pc := 229) (lo2 := [(8, .long (v36)), (4, .int (v24)), (0, .ref (x0)), (1, .ref (x1)), (2, .ref (x2)), (3, .int (x3)), (5, .int (x5)), (6, .int (x6)), (7, .int (x7))]) C dX4_valueBy_229 (by decide) rfl ?_
          refine g_goto (pc := 231) (tgt := 317) C dX4_valueBy_231 (by decide) ?_
          exact g_sub [2, 3, 4, 1, 6, 0] rfl (tjX4_valueBy_317 C hd h hE)
        · replace h := ifn cw43_2 h
          by_cases cw43_3 : x6 = (5 : Int32)
          · replace h := ifp cw43_3 h
            have hq : x6.toInt = 5 := by rw [cw43_3]; rfl
            refine g_tswIn (off := 70) (tgt := 234) C dX4_valueBy_164 (by rw [hq]; decide) (by rw [hq]; decide) (by rw [hq]; rfl) (by decide) ?_
            refine g_lload (pc := 234) C dX4_valueBy_234 0 rfl ?_
            refine g_iload_n (pc := 236) C dX4_valueBy_236 rfl 5 rfl ?_
            refine g_i2l (pc := 237) C dX4_valueBy_237 ?_
            refine g_lcmp (pc := 238) C dX4_valueBy_238 ?_
            refine g_if_ne (pc := 239) (tgt := 246) C dX4_valueBy_239 (by decide) (fun c37 => ?_) (fun c37 => ?_)
            · replace h := ifn c37 h
              refine g_lconst (pc := 246) (v := 0) C dX4_valueBy_246 rfl ?_
              exact g_sub [2, 3, 4, 1, 6] rfl (tjX4_valueBy_247 C hd h hE)
            · replace h := ifp c37 h
              refine g_lconst (pc := 242) (v := 1) C dX4_valueBy_242 rfl ?_
              refine g_goto (pc := 243) (tgt := 247) C dX4_valueBy_243 (by decide) ?_
              exact g_sub [2, 3, 4, 1, 6] rfl (tjX4_valueBy_247 C hd h hE)
          · replace h := ifn cw43_3 h
            by_cases cw43_4 : x6 = (6 : Int32)
            · replace h := ifp cw43_4 h
              have hq : x6.toInt = 6 := by rw [cw43_4]; rfl
              refine g_tswIn (off := 88) (tgt := 252) C dX4_valueBy_164 (by rw [hq]; decide) (by rw [hq]; decide) (by rw [hq]; rfl) (by decide) ?_
              refine g_lload (pc := 252) C dX4_valueBy_252 0 rfl ?_
              refine g_iload_n (pc := 254) C dX4_valueBy_254 rfl 5 rfl ?_
              refine g_i2l (pc := 255) C dX4_valueBy_255 ?_
              refine g_lcmp (pc := 256) C dX4_valueBy_256 ?_
              refine g_if_ge (pc := 257) (tgt := 264) C dX4_valueBy_257 (by decide) (fun c38 => ?_) (fun c38 => ?_)
              · replace h := ifp c38 h
                refine g_lconst (pc := 264) (v := 0) C dX4_valueBy_264 rfl ?_
                exact g_sub [2, 3, 4, 1, 6] rfl (tjX4_valueBy_265 C hd h hE)
              · replace h := ifn c38 h
                refine g_lconst (pc := 260) (v := 1) C dX4_valueBy_260 rfl ?_
                refine g_goto (pc := 261) (tgt := 265) C dX4_valueBy_261 (by decide) ?_
                exact g_sub [2, 3, 4, 1, 6] rfl (tjX4_valueBy_265 C hd h hE)
            · replace h := ifn cw43_4 h
              by_cases cw43_5 : x6 = (7 : Int32)
              · replace h := ifp cw43_5 h
                have hq : x6.toInt = 7 := by rw [cw43_5]; rfl
                refine g_tswIn (off := 106) (tgt := 270) C dX4_valueBy_164 (by rw [hq]; decide) (by rw [hq]; decide) (by rw [hq]; rfl) (by decide) ?_
                refine g_lload (pc := 270) C dX4_valueBy_270 0 rfl ?_
                refine g_iload_n (pc := 272) C dX4_valueBy_272 rfl 5 rfl ?_
                refine g_i2l (pc := 273) C dX4_valueBy_273 ?_
                refine g_lcmp (pc := 274) C dX4_valueBy_274 ?_
                refine g_if_le (pc := 275) (tgt := 282) C dX4_valueBy_275 (by decide) (fun c39 => ?_) (fun c39 => ?_)
                · replace h := ifp c39 h
                  refine g_lconst (pc := 282) (v := 0) C dX4_valueBy_282 rfl ?_
                  exact g_sub [2, 3, 4, 1, 6] rfl (tjX4_valueBy_283 C hd h hE)
                · replace h := ifn c39 h
                  refine g_lconst (pc := 278) (v := 1) C dX4_valueBy_278 rfl ?_
                  refine g_goto (pc := 279) (tgt := 283) C dX4_valueBy_279 (by decide) ?_
                  exact g_sub [2, 3, 4, 1, 6] rfl (tjX4_valueBy_283 C hd h hE)
              · replace h := ifn cw43_5 h
                refine g_tswOut (tgt := 288) C dX4_valueBy_164 (by
                    have := sw_ne cw43_0 (i := 2) rfl
                    have := sw_ne cw43_1 (i := 3) rfl
                    have := sw_ne cw43_2 (i := 4) rfl
                    have := sw_ne cw43_3 (i := 5) rfl
                    have := sw_ne cw43_4 (i := 6) rfl
                    have := sw_ne cw43_5 (i := 7) rfl
                    omega) (by decide) ?_
                refine g_iload (pc := 288) C dX4_valueBy_288 7 rfl ?_
                refine g_bipush (pc := 290) (v := 11) C dX4_valueBy_290 (by decide) ?_
                refine g_icmp_ne (pc := 292) (tgt := 313) C dX4_valueBy_292 (by decide) (fun c40 => ?_) (fun c40 => ?_)
                · replace h := ifn c40 h
                  exact g_sub [2, 3, 4, 1, 6, 0] rfl (tjX4_valueBy_313 C hd h hE)
                · replace h := ifp c40 h
                  refine g_iload_n (pc := 295) C dX4_valueBy_295 rfl 5 rfl ?_
                  refine g_if_ne (pc := 296) (tgt := 313) C dX4_valueBy_296 (by decide) (fun c41 => ?_) (fun c41 => ?_)
                  · replace h := ifn c41 h
                    exact g_sub [2, 3, 4, 1, 6, 0] rfl (tjX4_valueBy_313 C hd h hE)
                  · replace h := ifp c41 h
                    refine g_iload (pc := 299) C dX4_valueBy_299 8 rfl ?_
                    refine g_iload (pc := 301) C dX4_valueBy_301 6 rfl ?_
                    refine g_icmp_le (pc := 303) (tgt := 313) C dX4_valueBy_303 (by decide) (fun c42 => ?_) (fun c42 => ?_)
                    · replace h := ifp c42 h
                      exact g_sub [2, 3, 4, 1, 6, 0] rfl (tjX4_valueBy_313 C hd h hE)
                    · replace h := ifn c42 h
                      refine g_iload (pc := 306) C dX4_valueBy_306 8 rfl ?_
                      refine g_iconst (pc := 308) (v := 1) C dX4_valueBy_308 (by decide) ?_
                      refine g_isub (pc := 309) C dX4_valueBy_309 ?_
                      refine g_goto (pc := 310) (tgt := 315) C dX4_valueBy_310 (by decide) ?_
                      exact g_sub [2, 3, 4, 1, 0] rfl (tjX4_valueBy_315 C hd h hE)
set_option maxHeartbeats 4000000 in
theorem tjX4_valueBy_115 {X : Fx} {B : Bx} {Z : Nat × Nat × Nat × Nat} {Q : State → Prop} {d : Nat} {T : Sh} {M : Me} {x0 : Nat} {x1 : Nat} {x2 : Nat} {x3 : Int32} {x4 : Int32} {x5 : Int32} {x6 : Int32} {x7 : Int32} {o : (Int32 × Int32 × Int32 × Me) ⊕ ((Int32 × Me))} (C : Cx X B cX4_valueBy 10 RX4 d Z) (hd : 0 ≤ d) (h : jX4_valueBy_115 T M x0 x1 x2 x3 x4 x5 x6 x7 = some o) (hE : lpE (PX4_valueBy_8 X B Z Q T x0 x1 x2) (EX4_valueBy_8 X B Z Q T x0 x1 x2) o) : G X B 10 Z Q 115 [(0, .ref (x0)), (1, .ref (x1)), (2, .ref (x2)), (3, .int (x3)), (4, .int (x4)), (5, .int (x5)), (6, .int (x6)), (7, .int (x7))] [] T M := by
  unfold jX4_valueBy_115 at h
  refine g_iload (pc := 115) C dX4_valueBy_115 6 rfl ?_
  refine g_bipush (pc := 117) (v := 10) C dX4_valueBy_117 (by decide) ?_
  refine g_icmp_ne (pc := 119) (tgt := 147) C dX4_valueBy_119 (by decide) (fun c21 => ?_) (fun c21 => ?_)
  · replace h := ifn c21 h
    exact g_sub [0, 1, 2, 3, 4, 5, 6, 7] rfl (tjX4_valueBy_147 C hd h hE)
  · replace h := ifp c21 h
    refine g_iload_n (pc := 122) C dX4_valueBy_122 rfl 3 rfl ?_
    refine g_if_eq (pc := 123) (tgt := 147) C dX4_valueBy_123 (by decide) (fun c44 => ?_) (fun c44 => ?_)
    · replace h := ifp c44 h
      exact g_sub [0, 1, 2, 3, 4, 5, 6, 7] rfl (tjX4_valueBy_147 C hd h hE)
    · replace h := ifn c44 h
      refine g_iload (pc := 126) C dX4_valueBy_126 7 rfl ?_
      refine g_iload (pc := 128) C dX4_valueBy_128 5 rfl ?_
      refine g_icmp_le (pc := 130) (tgt := 140) C dX4_valueBy_130 (by decide) (fun c45 => ?_) (fun c45 => ?_)
      · replace h := ifp c45 h
        refine g_iload (pc := 140) C dX4_valueBy_140 5 rfl ?_
        refine g_istore (pc := 142) (lo2 := [(5, .int (x5)), (0, .ref (x0)), (1, .ref (x1)), (2, .ref (x2)), (3, .int (x3)), (4, .int (x4)), (6, .int (x6)), (7, .int (x7))]) C dX4_valueBy_142 (by decide) rfl ?_
        refine g_goto (pc := 144) (tgt := 349) C dX4_valueBy_144 (by decide) ?_
        obtain ⟨v46, ev46⟩ : ∃ y : Int32, y = x5 + (1 : Int32) := ⟨_, rfl⟩
        replace h := lt_at ev46 h
        refine g_iinc (pc := 349) (v := v46) (k := 0) (lo2 := [(5, .int (v46)), (0, .ref (x0)), (1, .ref (x1)), (2, .ref (x2)), (3, .int (x3)), (4, .int (x4)), (6, .int (x6)), (7, .int (x7))]) C dX4_valueBy_349 rfl (by rw [ev46]; rfl) (by decide) rfl ?_
        refine g_goto (pc := 352) (tgt := 8) C dX4_valueBy_352 (by decide) ?_
        obtain rfl := Option.some.inj h
        exact g_sub [1, 2, 3, 4, 5, 0] rfl (show G X B 10 Z Q 8 [(0, .ref (x0)), (1, .ref (x1)), (2, .ref (x2)), (3, .int (x3)), (4, .int (x4)), (5, .int (v46))] [] T M from hE)
      · replace h := ifn c45 h
        refine g_iload (pc := 133) C dX4_valueBy_133 7 rfl ?_
        refine g_iconst (pc := 135) (v := 1) C dX4_valueBy_135 (by decide) ?_
        refine g_isub (pc := 136) C dX4_valueBy_136 ?_
        refine g_goto (pc := 137) (tgt := 142) C dX4_valueBy_137 (by decide) ?_
        refine g_topi (fun v47 ev47 => ?_)
        replace h := lt_at ev47 h
        refine g_istore (pc := 142) (lo2 := [(5, .int (v47)), (0, .ref (x0)), (1, .ref (x1)), (2, .ref (x2)), (3, .int (x3)), (4, .int (x4)), (6, .int (x6)), (7, .int (x7))]) C dX4_valueBy_142 (by decide) rfl ?_
        refine g_goto (pc := 144) (tgt := 349) C dX4_valueBy_144 (by decide) ?_
        obtain ⟨v48, ev48⟩ : ∃ y : Int32, y = v47 + (1 : Int32) := ⟨_, rfl⟩
        replace h := lt_at ev48 h
        refine g_iinc (pc := 349) (v := v48) (k := 0) (lo2 := [(5, .int (v48)), (0, .ref (x0)), (1, .ref (x1)), (2, .ref (x2)), (3, .int (x3)), (4, .int (x4)), (6, .int (x6)), (7, .int (x7))]) C dX4_valueBy_349 rfl (by rw [ev48]; rfl) (by decide) rfl ?_
        refine g_goto (pc := 352) (tgt := 8) C dX4_valueBy_352 (by decide) ?_
        obtain rfl := Option.some.inj h
        exact g_sub [1, 2, 3, 4, 5, 0] rfl (show G X B 10 Z Q 8 [(0, .ref (x0)), (1, .ref (x1)), (2, .ref (x2)), (3, .int (x3)), (4, .int (x4)), (5, .int (v48))] [] T M from hE)
set_option maxHeartbeats 4000000 in
theorem tjX4_valueBy_83 {X : Fx} {B : Bx} {Z : Nat × Nat × Nat × Nat} {Q : State → Prop} {d : Nat} {T : Sh} {M : Me} {x0 : Nat} {x1 : Nat} {x2 : Nat} {x3 : Int32} {x4 : Int32} {x5 : Int32} {x6 : Int32} {x7 : Int32} {o : (Int32 × Int32 × Int32 × Me) ⊕ ((Int32 × Me))} (C : Cx X B cX4_valueBy 10 RX4 d Z) (hd : 0 ≤ d) (h : jX4_valueBy_83 T M x0 x1 x2 x3 x4 x5 x6 x7 = some o) (hE : lpE (PX4_valueBy_8 X B Z Q T x0 x1 x2) (EX4_valueBy_8 X B Z Q T x0 x1 x2) o) : G X B 10 Z Q 83 [(0, .ref (x0)), (1, .ref (x1)), (2, .ref (x2)), (3, .int (x3)), (4, .int (x4)), (5, .int (x5)), (6, .int (x6)), (7, .int (x7))] [] T M := by
  unfold jX4_valueBy_83 at h
  refine g_iload (pc := 83) C dX4_valueBy_83 6 rfl ?_
  refine g_bipush (pc := 85) (v := 8) C dX4_valueBy_85 (by decide) ?_
  refine g_icmp_ne (pc := 87) (tgt := 97) C dX4_valueBy_87 (by decide) (fun c14 => ?_) (fun c14 => ?_)
  · replace h := ifn c14 h
    refine g_iload (pc := 97) C dX4_valueBy_97 6 rfl ?_
    refine g_bipush (pc := 99) (v := 12) C dX4_valueBy_99 (by decide) ?_
    refine g_icmp_eq (pc := 101) (tgt := 126) C dX4_valueBy_101 (by decide) (fun c15 => ?_) (fun c15 => ?_)
    · replace h := ifp c15 h
      refine g_iload (pc := 126) C dX4_valueBy_126 7 rfl ?_
      refine g_iload (pc := 128) C dX4_valueBy_128 5 rfl ?_
      refine g_icmp_le (pc := 130) (tgt := 140) C dX4_valueBy_130 (by decide) (fun c16 => ?_) (fun c16 => ?_)
      · replace h := ifp c16 h
        refine g_iload (pc := 140) C dX4_valueBy_140 5 rfl ?_
        refine g_istore (pc := 142) (lo2 := [(5, .int (x5)), (0, .ref (x0)), (1, .ref (x1)), (2, .ref (x2)), (3, .int (x3)), (4, .int (x4)), (6, .int (x6)), (7, .int (x7))]) C dX4_valueBy_142 (by decide) rfl ?_
        refine g_goto (pc := 144) (tgt := 349) C dX4_valueBy_144 (by decide) ?_
        obtain ⟨v17, ev17⟩ : ∃ y : Int32, y = x5 + (1 : Int32) := ⟨_, rfl⟩
        replace h := lt_at ev17 h
        refine g_iinc (pc := 349) (v := v17) (k := 0) (lo2 := [(5, .int (v17)), (0, .ref (x0)), (1, .ref (x1)), (2, .ref (x2)), (3, .int (x3)), (4, .int (x4)), (6, .int (x6)), (7, .int (x7))]) C dX4_valueBy_349 rfl (by rw [ev17]; rfl) (by decide) rfl ?_
        refine g_goto (pc := 352) (tgt := 8) C dX4_valueBy_352 (by decide) ?_
        obtain rfl := Option.some.inj h
        exact g_sub [1, 2, 3, 4, 5, 0] rfl (show G X B 10 Z Q 8 [(0, .ref (x0)), (1, .ref (x1)), (2, .ref (x2)), (3, .int (x3)), (4, .int (x4)), (5, .int (v17))] [] T M from hE)
      · replace h := ifn c16 h
        refine g_iload (pc := 133) C dX4_valueBy_133 7 rfl ?_
        refine g_iconst (pc := 135) (v := 1) C dX4_valueBy_135 (by decide) ?_
        refine g_isub (pc := 136) C dX4_valueBy_136 ?_
        refine g_goto (pc := 137) (tgt := 142) C dX4_valueBy_137 (by decide) ?_
        refine g_topi (fun v18 ev18 => ?_)
        replace h := lt_at ev18 h
        refine g_istore (pc := 142) (lo2 := [(5, .int (v18)), (0, .ref (x0)), (1, .ref (x1)), (2, .ref (x2)), (3, .int (x3)), (4, .int (x4)), (6, .int (x6)), (7, .int (x7))]) C dX4_valueBy_142 (by decide) rfl ?_
        refine g_goto (pc := 144) (tgt := 349) C dX4_valueBy_144 (by decide) ?_
        obtain ⟨v19, ev19⟩ : ∃ y : Int32, y = v18 + (1 : Int32) := ⟨_, rfl⟩
        replace h := lt_at ev19 h
        refine g_iinc (pc := 349) (v := v19) (k := 0) (lo2 := [(5, .int (v19)), (0, .ref (x0)), (1, .ref (x1)), (2, .ref (x2)), (3, .int (x3)), (4, .int (x4)), (6, .int (x6)), (7, .int (x7))]) C dX4_valueBy_349 rfl (by rw [ev19]; rfl) (by decide) rfl ?_
        refine g_goto (pc := 352) (tgt := 8) C dX4_valueBy_352 (by decide) ?_
        obtain rfl := Option.some.inj h
        exact g_sub [1, 2, 3, 4, 5, 0] rfl (show G X B 10 Z Q 8 [(0, .ref (x0)), (1, .ref (x1)), (2, .ref (x2)), (3, .int (x3)), (4, .int (x4)), (5, .int (v19))] [] T M from hE)
    · replace h := ifn c15 h
      refine g_iload (pc := 104) C dX4_valueBy_104 6 rfl ?_
      refine g_bipush (pc := 106) (v := 9) C dX4_valueBy_106 (by decide) ?_
      refine g_icmp_ne (pc := 108) (tgt := 115) C dX4_valueBy_108 (by decide) (fun c20 => ?_) (fun c20 => ?_)
      · replace h := ifn c20 h
        exact g_sub [0, 1, 2, 3, 4, 5, 6, 7] rfl (tjX4_valueBy_115 C hd h hE)
      · replace h := ifp c20 h
        refine g_iload_n (pc := 111) C dX4_valueBy_111 rfl 3 rfl ?_
        refine g_if_eq (pc := 112) (tgt := 126) C dX4_valueBy_112 (by decide) (fun c49 => ?_) (fun c49 => ?_)
        · replace h := ifp c49 h
          refine g_iload (pc := 126) C dX4_valueBy_126 7 rfl ?_
          refine g_iload (pc := 128) C dX4_valueBy_128 5 rfl ?_
          refine g_icmp_le (pc := 130) (tgt := 140) C dX4_valueBy_130 (by decide) (fun c50 => ?_) (fun c50 => ?_)
          · replace h := ifp c50 h
            refine g_iload (pc := 140) C dX4_valueBy_140 5 rfl ?_
            refine g_istore (pc := 142) (lo2 := [(5, .int (x5)), (0, .ref (x0)), (1, .ref (x1)), (2, .ref (x2)), (3, .int (x3)), (4, .int (x4)), (6, .int (x6)), (7, .int (x7))]) C dX4_valueBy_142 (by decide) rfl ?_
            refine g_goto (pc := 144) (tgt := 349) C dX4_valueBy_144 (by decide) ?_
            obtain ⟨v51, ev51⟩ : ∃ y : Int32, y = x5 + (1 : Int32) := ⟨_, rfl⟩
            replace h := lt_at ev51 h
            refine g_iinc (pc := 349) (v := v51) (k := 0) (lo2 := [(5, .int (v51)), (0, .ref (x0)), (1, .ref (x1)), (2, .ref (x2)), (3, .int (x3)), (4, .int (x4)), (6, .int (x6)), (7, .int (x7))]) C dX4_valueBy_349 rfl (by rw [ev51]; rfl) (by decide) rfl ?_
            refine g_goto (pc := 352) (tgt := 8) C dX4_valueBy_352 (by decide) ?_
            obtain rfl := Option.some.inj h
            exact g_sub [1, 2, 3, 4, 5, 0] rfl (show G X B 10 Z Q 8 [(0, .ref (x0)), (1, .ref (x1)), (2, .ref (x2)), (3, .int (x3)), (4, .int (x4)), (5, .int (v51))] [] T M from hE)
          · replace h := ifn c50 h
            refine g_iload (pc := 133) C dX4_valueBy_133 7 rfl ?_
            refine g_iconst (pc := 135) (v := 1) C dX4_valueBy_135 (by decide) ?_
            refine g_isub (pc := 136) C dX4_valueBy_136 ?_
            refine g_goto (pc := 137) (tgt := 142) C dX4_valueBy_137 (by decide) ?_
            refine g_topi (fun v52 ev52 => ?_)
            replace h := lt_at ev52 h
            refine g_istore (pc := 142) (lo2 := [(5, .int (v52)), (0, .ref (x0)), (1, .ref (x1)), (2, .ref (x2)), (3, .int (x3)), (4, .int (x4)), (6, .int (x6)), (7, .int (x7))]) C dX4_valueBy_142 (by decide) rfl ?_
            refine g_goto (pc := 144) (tgt := 349) C dX4_valueBy_144 (by decide) ?_
            obtain ⟨v53, ev53⟩ : ∃ y : Int32, y = v52 + (1 : Int32) := ⟨_, rfl⟩
            replace h := lt_at ev53 h
            refine g_iinc (pc := 349) (v := v53) (k := 0) (lo2 := [(5, .int (v53)), (0, .ref (x0)), (1, .ref (x1)), (2, .ref (x2)), (3, .int (x3)), (4, .int (x4)), (6, .int (x6)), (7, .int (x7))]) C dX4_valueBy_349 rfl (by rw [ev53]; rfl) (by decide) rfl ?_
            refine g_goto (pc := 352) (tgt := 8) C dX4_valueBy_352 (by decide) ?_
            obtain rfl := Option.some.inj h
            exact g_sub [1, 2, 3, 4, 5, 0] rfl (show G X B 10 Z Q 8 [(0, .ref (x0)), (1, .ref (x1)), (2, .ref (x2)), (3, .int (x3)), (4, .int (x4)), (5, .int (v53))] [] T M from hE)
        · replace h := ifn c49 h
          exact g_sub [0, 1, 2, 3, 4, 5, 6, 7] rfl (tjX4_valueBy_115 C hd h hE)
  · replace h := ifp c14 h
    refine g_iconst (pc := 90) (v := 1) C dX4_valueBy_90 (by decide) ?_
    refine g_iload_n (pc := 91) C dX4_valueBy_91 rfl 3 rfl ?_
    refine g_isub (pc := 92) C dX4_valueBy_92 ?_
    refine g_topi (fun v54 ev54 => ?_)
    replace h := lt_at ev54 h
    refine g_istore_n (pc := 93) (lo2 := [(3, .int (v54)), (0, .ref (x0)), (1, .ref (x1)), (2, .ref (x2)), (4, .int (x4)), (5, .int (x5)), (6, .int (x6)), (7, .int (x7))]) C dX4_valueBy_93 rfl (by decide) rfl ?_
    refine g_goto (pc := 94) (tgt := 349) C dX4_valueBy_94 (by decide) ?_
    obtain ⟨v55, ev55⟩ : ∃ y : Int32, y = x5 + (1 : Int32) := ⟨_, rfl⟩
    replace h := lt_at ev55 h
    refine g_iinc (pc := 349) (v := v55) (k := 5) (lo2 := [(5, .int (v55)), (3, .int (v54)), (0, .ref (x0)), (1, .ref (x1)), (2, .ref (x2)), (4, .int (x4)), (6, .int (x6)), (7, .int (x7))]) C dX4_valueBy_349 rfl (by rw [ev55]; rfl) (by decide) rfl ?_
    refine g_goto (pc := 352) (tgt := 8) C dX4_valueBy_352 (by decide) ?_
    obtain rfl := Option.some.inj h
    exact g_sub [2, 3, 4, 1, 5, 0] rfl (show G X B 10 Z Q 8 [(0, .ref (x0)), (1, .ref (x1)), (2, .ref (x2)), (3, .int (v54)), (4, .int (x4)), (5, .int (v55))] [] T M from hE)
set_option maxHeartbeats 4000000 in
theorem tbX4_valueBy_8 {X : Fx} {B : Bx} {Z : Nat × Nat × Nat × Nat} {Q : State → Prop} {d : Nat} {T : Sh} (C : Cx X B cX4_valueBy 10 RX4 d Z) (hd : 0 ≤ d) {x0 : Nat} {x1 : Nat} {x2 : Nat} : ∀ (s : Int32 × Int32 × Int32 × Me) (o : (Int32 × Int32 × Int32 × Me) ⊕ ((Int32 × Me))), bX4_valueBy_8 T x0 x1 x2 s.1 s.2.1 s.2.2.1 s.2.2.2 = some o → lpE (PX4_valueBy_8 X B Z Q T x0 x1 x2) (EX4_valueBy_8 X B Z Q T x0 x1 x2) o → PX4_valueBy_8 X B Z Q T x0 x1 x2 s := by
  rintro ⟨x3, x4, x5, M⟩ o h hE
  replace h : bX4_valueBy_8 T x0 x1 x2 x3 x4 x5 M = some o := h
  unfold bX4_valueBy_8 at h
  show G X B 10 Z Q 8 [(0, .ref (x0)), (1, .ref (x1)), (2, .ref (x2)), (3, .int (x3)), (4, .int (x4)), (5, .int (x5))] [] T M
  refine g_iload (pc := 8) C dX4_valueBy_8 5 rfl ?_
  refine g_aload_n (pc := 10) C dX4_valueBy_10 rfl 0 rfl ?_
  replace h := gd_some h; obtain ⟨hk1, h⟩ := h
  refine g_get (pc := 11) (v := va_rf (gR M x0 0)) C dX4_valueBy_11 kX4 hk1 0 (by decide) q_742 rfl ?_
  replace h := bnd h; obtain ⟨a2, ea2, h⟩ := h
  refine g_refq ea2 ?_
  replace h := gd_some h; obtain ⟨hk3, h⟩ := h
  refine g_alen13 (pc := 14) C dX4_valueBy_14 hk3 ?_
  refine g_icmp_ge (pc := 15) (tgt := 355) C dX4_valueBy_15 (by decide) (fun c4 => ?_) (fun c4 => ?_)
  · replace h := ifp c4 h
    obtain rfl := Option.some.inj h
    exact g_sub [3] rfl (show G X B 10 Z Q 355 [(3, .int (x3))] [] T M from hE)
  · replace h := ifn c4 h
    refine g_aload_n (pc := 18) C dX4_valueBy_18 rfl 0 rfl ?_
    refine g_get (pc := 19) (v := va_rf (gR M x0 0)) C dX4_valueBy_19 kX4 hk1 0 (by decide) q_742 rfl ?_
    replace h := bnd h; obtain ⟨a5, ea5, h⟩ := h
    refine g_refq ea5 ?_
    refine g_iload (pc := 22) C dX4_valueBy_22 5 rfl ?_
    replace h := gd_some h; obtain ⟨hk6, h⟩ := h
    replace h := gv_some h; obtain ⟨hi7, h⟩ := h
    refine g_iald (pc := 24) C dX4_valueBy_24 hk6 hi7 ?_
    refine g_bipush (pc := 25) (v := 15) C dX4_valueBy_25 (by decide) ?_
    refine g_iand (pc := 27) C dX4_valueBy_27 ?_
    refine g_topi (fun v8 ev8 => ?_)
    replace h := lt_at ev8 h
    refine g_istore (pc := 28) (lo2 := [(6, .int (v8)), (0, .ref (x0)), (1, .ref (x1)), (2, .ref (x2)), (3, .int (x3)), (4, .int (x4)), (5, .int (x5))]) C dX4_valueBy_28 (by decide) rfl ?_
    refine g_aload_n (pc := 30) C dX4_valueBy_30 rfl 1 rfl ?_
    refine g_get (pc := 31) (v := va_rf (gR M x0 0)) C dX4_valueBy_31 kX4 hk1 0 (by decide) q_742 rfl ?_
    replace h := bnd h; obtain ⟨a9, ea9, h⟩ := h
    refine g_refq ea9 ?_
    refine g_iload (pc := 34) C dX4_valueBy_34 6 rfl ?_
    replace h := gd_some h; obtain ⟨hk10, h⟩ := h
    replace h := gv_some h; obtain ⟨hi11, h⟩ := h
    refine g_iald (pc := 36) C dX4_valueBy_36 hk10 hi11 ?_
    refine g_iconst (pc := 37) (v := 4) C dX4_valueBy_37 (by decide) ?_
    refine g_ishr (pc := 38) C dX4_valueBy_38 ?_
    refine g_topi (fun v12 ev12 => ?_)
    replace h := lt_at ev12 h
    refine g_istore (pc := 39) (lo2 := [(7, .int (v12)), (6, .int (v8)), (0, .ref (x0)), (1, .ref (x1)), (2, .ref (x2)), (3, .int (x3)), (4, .int (x4)), (5, .int (x5))]) C dX4_valueBy_39 (by decide) rfl ?_
    refine g_iload (pc := 41) C dX4_valueBy_41 1 rfl ?_
    refine g_iconst (pc := 43) (v := 1) C dX4_valueBy_43 (by decide) ?_
    refine g_icmp_gt (pc := 44) (tgt := 83) C dX4_valueBy_44 (by decide) (fun c13 => ?_) (fun c13 => ?_)
    · replace h := ifp c13 h
      exact g_sub [2, 3, 4, 5, 6, 7, 1, 0] rfl (tjX4_valueBy_83 C hd h hE)
    · replace h := ifn c13 h
      refine g_iload (pc := 47) C dX4_valueBy_47 6 rfl ?_
      refine g_aload_n (pc := 49) C dX4_valueBy_49 rfl 4 rfl ?_
      replace h := gd_some h; obtain ⟨hk56, h⟩ := h
      refine g_alen13 (pc := 50) C dX4_valueBy_50 hk56 ?_
      refine g_icmp_ge (pc := 51) (tgt := 83) C dX4_valueBy_51 (by decide) (fun c57 => ?_) (fun c57 => ?_)
      · replace h := ifp c57 h
        exact g_sub [2, 3, 4, 5, 6, 7, 1, 0] rfl (tjX4_valueBy_83 C hd h hE)
      · replace h := ifn c57 h
        refine g_aload_n (pc := 54) C dX4_valueBy_54 rfl 4 rfl ?_
        refine g_iload (pc := 55) C dX4_valueBy_55 6 rfl ?_
        refine g_iload_n (pc := 57) C dX4_valueBy_57 rfl 5 rfl ?_
        replace h := gv_some h; obtain ⟨hi58, h⟩ := h
        refine g_iast (pc := 58) C dX4_valueBy_58 hk56 hi58 ?_
        refine g_mem (fun M59 eM59 => ?_)
        replace h := lt_at eM59 h
        obtain ⟨v60, ev60⟩ : ∃ y : Int32, y = x4 + (1 : Int32) := ⟨_, rfl⟩
        replace h := lt_at ev60 h
        refine g_iinc (pc := 59) (v := v60) (k := 6) (lo2 := [(4, .int (v60)), (7, .int (v12)), (6, .int (v8)), (0, .ref (x0)), (1, .ref (x1)), (2, .ref (x2)), (3, .int (x3)), (5, .int (x5))]) C dX4_valueBy_59 rfl (by rw [ev60]; rfl) (by decide) rfl ?_
        refine g_iload (pc := 62) C dX4_valueBy_62 2 rfl ?_
        refine g_if_ne (pc := 64) (tgt := 72) C dX4_valueBy_64 (by decide) (fun c61 => ?_) (fun c61 => ?_)
        · replace h := ifn c61 h
          refine g_aload_n (pc := 72) C dX4_valueBy_72 rfl 4 rfl ?_
          refine g_iload (pc := 73) C dX4_valueBy_73 1 rfl ?_
          refine g_bipush (pc := 75) (v := 7) C dX4_valueBy_75 (by decide) ?_
          refine g_iand (pc := 77) C dX4_valueBy_77 ?_
          replace h := gd_some h; obtain ⟨hk62, h⟩ := h
          replace h := gv_some h; obtain ⟨hi63, h⟩ := h
          refine g_iald (pc := 78) C dX4_valueBy_78 hk62 hi63 ?_
          refine g_topi (fun v64 ev64 => ?_)
          replace h := lt_at ev64 h
          refine g_istore_n (pc := 79) (lo2 := [(3, .int (v64)), (4, .int (v60)), (7, .int (v12)), (6, .int (v8)), (0, .ref (x0)), (1, .ref (x1)), (2, .ref (x2)), (5, .int (x5))]) C dX4_valueBy_79 rfl (by decide) rfl ?_
          refine g_goto (pc := 80) (tgt := 349) C dX4_valueBy_80 (by decide) ?_
          obtain ⟨v65, ev65⟩ : ∃ y : Int32, y = x5 + (1 : Int32) := ⟨_, rfl⟩
          replace h := lt_at ev65 h
          refine g_iinc (pc := 349) (v := v65) (k := 7) (lo2 := [(5, .int (v65)), (3, .int (v64)), (4, .int (v60)), (7, .int (v12)), (6, .int (v8)), (0, .ref (x0)), (1, .ref (x1)), (2, .ref (x2))]) C dX4_valueBy_349 rfl (by rw [ev65]; rfl) (by decide) rfl ?_
          refine g_goto (pc := 352) (tgt := 8) C dX4_valueBy_352 (by decide) ?_
          obtain rfl := Option.some.inj h
          exact g_sub [5, 6, 7, 1, 2, 0] rfl (show G X B 10 Z Q 8 [(0, .ref (x0)), (1, .ref (x1)), (2, .ref (x2)), (3, .int (v64)), (4, .int (v60)), (5, .int (v65))] [] T M59 from hE)
        · replace h := ifp c61 h
          refine g_iload (pc := 67) C dX4_valueBy_67 1 rfl ?_
          refine g_goto (pc := 69) (tgt := 79) C dX4_valueBy_69 (by decide) ?_
          refine g_istore_n (pc := 79) (lo2 := [(3, .int (v12)), (4, .int (v60)), (7, .int (v12)), (6, .int (v8)), (0, .ref (x0)), (1, .ref (x1)), (2, .ref (x2)), (5, .int (x5))]) C dX4_valueBy_79 rfl (by decide) rfl ?_
          refine g_goto (pc := 80) (tgt := 349) C dX4_valueBy_80 (by decide) ?_
          obtain ⟨v66, ev66⟩ : ∃ y : Int32, y = x5 + (1 : Int32) := ⟨_, rfl⟩
          replace h := lt_at ev66 h
          refine g_iinc (pc := 349) (v := v66) (k := 7) (lo2 := [(5, .int (v66)), (3, .int (v12)), (4, .int (v60)), (7, .int (v12)), (6, .int (v8)), (0, .ref (x0)), (1, .ref (x1)), (2, .ref (x2))]) C dX4_valueBy_349 rfl (by rw [ev66]; rfl) (by decide) rfl ?_
          refine g_goto (pc := 352) (tgt := 8) C dX4_valueBy_352 (by decide) ?_
          obtain rfl := Option.some.inj h
          exact g_sub [5, 6, 7, 1, 2, 0] rfl (show G X B 10 Z Q 8 [(0, .ref (x0)), (1, .ref (x1)), (2, .ref (x2)), (3, .int (v12)), (4, .int (v60)), (5, .int (v66))] [] T M59 from hE)
/-- EyeTrainer$Law.valueBy([I[I)I -/
def fX4_valueBy (T : Sh) (M : Me) (x0 : Nat) (x1 : Nat) (x2 : Nat) : Option (Int32 × Me) :=
  (lp FU (fun s => bX4_valueBy_8 T x0 x1 x2 s.1 s.2.1 s.2.2.1 s.2.2.2) ((0 : Int32), (0 : Int32), (0 : Int32), M)).bind (un2 fun x3_67 M68 => some (x3_67, M68))
set_option maxHeartbeats 4000000 in
theorem kX4_valueBy {l : Launch} {B : Bx} {d : Nat} (hd : 0 ≤ d) {T : Sh} {M : Me} {x0 : Nat} {x1 : Nat} {x2 : Nat} {r : Int32} {M' : Me} (h : fX4_valueBy T M x0 x1 x2 = some (r, M')) : Kt l B yX4_valueBy cX4_valueBy 10 (some .int) d [.ref (x0), .ref (x1), .ref (x2)] T M (some (.int r)) T M' := by
  refine kt_of wX4_valueBy (Nat.le_refl _) (Nat.le_refl _) (Nat.le_of_ble_eq_true rfl) (fun X C hR hlx hin => ?_)
  subst hlx
  replace C : Cx X B cX4_valueBy 10 RX4 d (tp T, sl T, tp T, sl T) := C
  unfold fX4_valueBy at h
  show G X B 10 _ _ 0 [(0, .ref (x0)), (1, .ref (x1)), (2, .ref (x2))] [] T M
  refine g_iconst (pc := 0) (v := 0) C dX4_valueBy_0 (by decide) ?_
  refine g_istore_n (pc := 1) (lo2 := [(3, .int ((0 : Int32))), (0, .ref (x0)), (1, .ref (x1)), (2, .ref (x2))]) C dX4_valueBy_1 rfl (by decide) rfl ?_
  refine g_iconst (pc := 2) (v := 0) C dX4_valueBy_2 (by decide) ?_
  refine g_istore (pc := 3) (lo2 := [(4, .int ((0 : Int32))), (3, .int ((0 : Int32))), (0, .ref (x0)), (1, .ref (x1)), (2, .ref (x2))]) C dX4_valueBy_3 (by decide) rfl ?_
  refine g_iconst (pc := 5) (v := 0) C dX4_valueBy_5 (by decide) ?_
  refine g_istore (pc := 6) (lo2 := [(5, .int ((0 : Int32))), (4, .int ((0 : Int32))), (3, .int ((0 : Int32))), (0, .ref (x0)), (1, .ref (x1)), (2, .ref (x2))]) C dX4_valueBy_6 (by decide) rfl ?_
  replace h := bnd2 h; obtain ⟨x3_67, M68, h1, h⟩ := h
  refine g_sub [3, 4, 5, 2, 1, 0] rfl ?_
  refine lp_G2 (P := PX4_valueBy_8 X B _ _ T x0 x1 x2) (E := EX4_valueBy_8 X B _ _ T x0 x1 x2) (tbX4_valueBy_8 C hd) h1 ?_
  show G X B 10 _ _ 355 [(3, .int (x3_67))] [] T M68
  refine g_iload_n (pc := 355) C dX4_valueBy_355 rfl 0 rfl ?_
  obtain ⟨rfl, rfl⟩ := Prod.mk.inj (Option.some.inj h)
  exact g_iret C hR dX4_valueBy_356
