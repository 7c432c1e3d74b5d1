theorem ra_p {ty : FieldType} (h : ∀ s c, va_RA s c ty = (s.vm.findClass ("[" ++ ty.toString) = some c)) : ∀ (s : State) (c1 c2 : ClassId), va_RA s c1 ty → va_RA s c2 ty → c1 = c2 := fun s c1 c2 h1 h2 => by rw [h] at h1 h2; exact Option.some.inj (h1.symm.trans h2)
theorem qa_int : Cond.arrayClass .int ∈ gtw := gtw_in (List.mem_of_getElem? (i := 157) (by decide +kernel)) (by decide +kernel)
theorem qa_byte : Cond.arrayClass .byte ∈ gtw := gtw_in (List.mem_of_getElem? (i := 1076) (by decide +kernel)) (by decide +kernel)
theorem qa_boolean : Cond.arrayClass .boolean ∈ gtw := gtw_in (List.mem_of_getElem? (i := 202) (by decide +kernel)) (by decide +kernel)
theorem qa_long : Cond.arrayClass .long ∈ gtw := gtw_in (List.mem_of_getElem? (i := 263) (by decide +kernel)) (by decide +kernel)
theorem qo_i : Cond.instanceMethod Lib.objectInit ∈ gtw := gtw_in (List.mem_of_getElem? (i := 124) (by decide +kernel)) (by decide +kernel)
theorem qo_c : Cond.code Lib.objectInit ⟨#[0xb1]⟩ 1 none ∈ gtw := gtw_in (List.mem_of_getElem? (i := 125) (by decide +kernel)) (by decide +kernel)
theorem dfX0 : ∀ j, j < 5 → defaultValue (tyX0 j) = vp_V [.null, .null, .null, .null, .int 0] j := fun j hj => by
  match j, hj with
  | 0, _ => rfl
  | 1, _ => rfl
  | 2, _ => rfl
  | 3, _ => rfl
  | 4, _ => rfl
  | j + 5, h => exact absurd h (by omega)
theorem dfX1 : ∀ j, j < 5 → defaultValue (tyX1 j) = vp_V [.int 0, .null, .null, .null, .null] j := fun j hj => by
  match j, hj with
  | 0, _ => rfl
  | 1, _ => rfl
  | 2, _ => rfl
  | 3, _ => rfl
  | 4, _ => rfl
  | j + 5, h => exact absurd h (by omega)
theorem dfX2 : ∀ j, j < 4 → defaultValue (tyX2 j) = vp_V [.int 0, .int 0, .int 0, .int 0] j := fun j hj => by
  match j, hj with
  | 0, _ => rfl
  | 1, _ => rfl
  | 2, _ => rfl
  | 3, _ => rfl
  | j + 4, h => exact absurd h (by omega)
theorem dfX3 : ∀ j, j < 4 → defaultValue (tyX3 j) = vp_V [.int 0, .int 0, .int 0, .null] j := fun j hj => by
  match j, hj with
  | 0, _ => rfl
  | 1, _ => rfl
  | 2, _ => rfl
  | 3, _ => rfl
  | j + 4, h => exact absurd h (by omega)
theorem dfX4 : ∀ j, j < 11 → defaultValue (tyX4 j) = vp_V [.int 0, .null, .null, .null, .null, .null, .null, .int 0, .null, .null, .int 0] j := fun j hj => by
  match j, hj with
  | 0, _ => rfl
  | 1, _ => rfl
  | 2, _ => rfl
  | 3, _ => rfl
  | 4, _ => rfl
  | 5, _ => rfl
  | 6, _ => rfl
  | 7, _ => rfl
  | 8, _ => rfl
  | 9, _ => rfl
  | 10, _ => rfl
  | j + 11, h => exact absurd h (by omega)
theorem dfX5 : ∀ j, j < 2 → defaultValue (tyX5 j) = vp_V [.null, .int 0] j := fun j hj => by
  match j, hj with
  | 0, _ => rfl
  | 1, _ => rfl
  | j + 2, h => exact absurd h (by omega)
theorem dfX6 : ∀ j, j < 2 → defaultValue (tyX6 j) = vp_V [.null, .int 0] j := fun j hj => by
  match j, hj with
  | 0, _ => rfl
  | 1, _ => rfl
  | j + 2, h => exact absurd h (by omega)
theorem dfX7 : ∀ j, j < 5 → defaultValue (tyX7 j) = vp_V [.null, .null, .null, .int 0, .int 0] j := fun j hj => by
  match j, hj with
  | 0, _ => rfl
  | 1, _ => rfl
  | 2, _ => rfl
  | 3, _ => rfl
  | 4, _ => rfl
  | j + 5, h => exact absurd h (by omega)
theorem dfX8 : ∀ j, j < 4 → defaultValue (tyX8 j) = vp_V [.null, .null, .null, .int 0] j := fun j hj => by
  match j, hj with
  | 0, _ => rfl
  | 1, _ => rfl
  | 2, _ => rfl
  | 3, _ => rfl
  | j + 4, h => exact absurd h (by omega)
theorem dfX9 : ∀ j, j < 2 → defaultValue (tyX9 j) = vp_V [.null, .int 0] j := fun j hj => by
  match j, hj with
  | 0, _ => rfl
  | 1, _ => rfl
  | j + 2, h => exact absurd h (by omega)
theorem dfX10 : ∀ j, j < 13 → defaultValue (tyX10 j) = vp_V [.null, .null, .null, .null, .null, .null, .null, .null, .null, .null, .null, .null, .null] j := fun j hj => by
  match j, hj with
  | 0, _ => rfl
  | 1, _ => rfl
  | 2, _ => rfl
  | 3, _ => rfl
  | 4, _ => rfl
  | 5, _ => rfl
  | 6, _ => rfl
  | 7, _ => rfl
  | 8, _ => rfl
  | 9, _ => rfl
  | 10, _ => rfl
  | 11, _ => rfl
  | 12, _ => rfl
  | j + 13, h => exact absurd h (by omega)
theorem dfX11 : ∀ j, j < 32 → defaultValue (tyX11 j) = vp_V [.null, .null, .int 0, .null, .int 0, .int 0, .int 0, .int 0, .int 0, .null, .null, .null, .null, .int 0, .int 0, .null, .int 0, .int 0, .int 0, .null, .null, .null, .null, .int 0, .null, .int 0, .null, .null, .int 0, .int 0, .null, .null] j := fun j hj => by
  match j, hj with
  | 0, _ => rfl
  | 1, _ => rfl
  | 2, _ => rfl
  | 3, _ => rfl
  | 4, _ => rfl
  | 5, _ => rfl
  | 6, _ => rfl
  | 7, _ => rfl
  | 8, _ => rfl
  | 9, _ => rfl
  | 10, _ => rfl
  | 11, _ => rfl
  | 12, _ => rfl
  | 13, _ => rfl
  | 14, _ => rfl
  | 15, _ => rfl
  | 16, _ => rfl
  | 17, _ => rfl
  | 18, _ => rfl
  | 19, _ => rfl
  | 20, _ => rfl
  | 21, _ => rfl
  | 22, _ => rfl
  | 23, _ => rfl
  | 24, _ => rfl
  | 25, _ => rfl
  | 26, _ => rfl
  | 27, _ => rfl
  | 28, _ => rfl
  | 29, _ => rfl
  | 30, _ => rfl
  | 31, _ => rfl
  | j + 32, h => exact absurd h (by omega)
theorem qc_138 : Cond.methodLink RX3 3 Lib.objectInit ∈ gtw := gtw_in (List.mem_of_getElem? (i := 138) (by decide +kernel)) (by decide +kernel)
theorem qc_146 : Cond.fieldLink RX3 9 RX3 "flow" "[I" ∈ gtw := gtw_in (List.mem_of_getElem? (i := 146) (by decide +kernel)) (by decide +kernel)
theorem qc_131 : Cond.methodLink RX1 3 Lib.objectInit ∈ gtw := gtw_in (List.mem_of_getElem? (i := 131) (by decide +kernel)) (by decide +kernel)
theorem qc_158 : Cond.fieldLink RX1 9 RX1 "members" "I" ∈ gtw := gtw_in (List.mem_of_getElem? (i := 158) (by decide +kernel)) (by decide +kernel)
theorem qc_163 : Cond.fieldLink RX1 15 RX1 "limit" "[I" ∈ gtw := gtw_in (List.mem_of_getElem? (i := 163) (by decide +kernel)) (by decide +kernel)
theorem qc_166 : Cond.fieldLink RX1 19 RX1 "debt" "[I" ∈ gtw := gtw_in (List.mem_of_getElem? (i := 166) (by decide +kernel)) (by decide +kernel)
theorem qc_169 : Cond.fieldLink RX1 22 RX1 "stock" "[I" ∈ gtw := gtw_in (List.mem_of_getElem? (i := 169) (by decide +kernel)) (by decide +kernel)
theorem qc_132 : Cond.classLink RX1 25 "TrustClub$Holding" ∈ gtw := gtw_in (List.mem_of_getElem? (i := 132) (by decide +kernel)) (by decide +kernel)
theorem qc_172 : Cond.fieldLink RX1 27 RX1 "holdings" "[LTrustClub$Holding;" ∈ gtw := gtw_in (List.mem_of_getElem? (i := 172) (by decide +kernel)) (by decide +kernel)
theorem qc_134 : Cond.instantiable RX3 4 ∈ gtw := gtw_in (List.mem_of_getElem? (i := 134) (by decide +kernel)) (by decide +kernel)
theorem qc_96 : Cond.initialized RX3 ∈ gtw := gtw_in (List.mem_of_getElem? (i := 96) (by decide +kernel)) (by decide +kernel)
theorem qc_136 : Cond.instanceMethod yX3_init ∈ gtw := gtw_in (List.mem_of_getElem? (i := 136) (by decide +kernel)) (by decide +kernel)
theorem qc_137 : Cond.code yX3_init cX3_init 1 none ∈ gtw := gtw_in (List.mem_of_getElem? (i := 137) (by decide +kernel)) (by decide +kernel)
theorem qc_135 : Cond.methodLink RX1 31 yX3_init ∈ gtw := gtw_in (List.mem_of_getElem? (i := 135) (by decide +kernel)) (by decide +kernel)
theorem cwi_1_31 : CWI RX1 31 yX3_init cX3_init 1 := ⟨qc_135, qc_136, qc_137, qc_96, rfl, ⟨by decide, by decide, by decide +kernel⟩⟩
theorem qc_208 : Cond.methodLink RX9 3 Lib.objectInit ∈ gtw := gtw_in (List.mem_of_getElem? (i := 208) (by decide +kernel)) (by decide +kernel)
theorem qc_209 : Cond.fieldLink RX9 9 RX9 "signs" "[I" ∈ gtw := gtw_in (List.mem_of_getElem? (i := 209) (by decide +kernel)) (by decide +kernel)
theorem qc_223 : Cond.methodLink RX0 3 Lib.objectInit ∈ gtw := gtw_in (List.mem_of_getElem? (i := 223) (by decide +kernel)) (by decide +kernel)
theorem qc_224 : Cond.fieldLink RX0 9 RX0 "kind" "[I" ∈ gtw := gtw_in (List.mem_of_getElem? (i := 224) (by decide +kernel)) (by decide +kernel)
theorem qc_226 : Cond.fieldLink RX0 15 RX0 "first" "[I" ∈ gtw := gtw_in (List.mem_of_getElem? (i := 226) (by decide +kernel)) (by decide +kernel)
theorem qc_229 : Cond.fieldLink RX0 18 RX0 "second" "[I" ∈ gtw := gtw_in (List.mem_of_getElem? (i := 229) (by decide +kernel)) (by decide +kernel)
theorem qc_232 : Cond.fieldLink RX0 21 RX0 "number" "[I" ∈ gtw := gtw_in (List.mem_of_getElem? (i := 232) (by decide +kernel)) (by decide +kernel)
theorem qc_253 : Cond.methodLink RX5 3 Lib.objectInit ∈ gtw := gtw_in (List.mem_of_getElem? (i := 253) (by decide +kernel)) (by decide +kernel)
theorem qc_254 : Cond.fieldLink RX5 9 RX5 "numbers" "[J" ∈ gtw := gtw_in (List.mem_of_getElem? (i := 254) (by decide +kernel)) (by decide +kernel)
theorem qc_269 : Cond.methodLink RX4 3 Lib.objectInit ∈ gtw := gtw_in (List.mem_of_getElem? (i := 269) (by decide +kernel)) (by decide +kernel)
theorem qc_271 : Cond.fieldLink RX4 9 RX4 "space" "[I" ∈ gtw := gtw_in (List.mem_of_getElem? (i := 271) (by decide +kernel)) (by decide +kernel)
theorem qc_273 : Cond.fieldLink RX4 15 RX4 "spaceAtFirst" "[I" ∈ gtw := gtw_in (List.mem_of_getElem? (i := 273) (by decide +kernel)) (by decide +kernel)
theorem qc_274 : Cond.fieldLink RX4 18 RX4 "spaceSaved" "[I" ∈ gtw := gtw_in (List.mem_of_getElem? (i := 274) (by decide +kernel)) (by decide +kernel)
theorem qc_275 : Cond.fieldLink RX4 21 RX4 "distance" "[I" ∈ gtw := gtw_in (List.mem_of_getElem? (i := 275) (by decide +kernel)) (by decide +kernel)
theorem qc_276 : Cond.fieldLink RX4 24 RX4 "queue" "[I" ∈ gtw := gtw_in (List.mem_of_getElem? (i := 276) (by decide +kernel)) (by decide +kernel)
theorem qc_277 : Cond.fieldLink RX4 27 RX4 "path" "[I" ∈ gtw := gtw_in (List.mem_of_getElem? (i := 277) (by decide +kernel)) (by decide +kernel)
theorem qc_280 : Cond.fieldLink RX4 30 RX4 "partLengths" "[I" ∈ gtw := gtw_in (List.mem_of_getElem? (i := 280) (by decide +kernel)) (by decide +kernel)
theorem qc_282 : Cond.fieldLink RX4 33 RX4 "partSums" "[I" ∈ gtw := gtw_in (List.mem_of_getElem? (i := 282) (by decide +kernel)) (by decide +kernel)
theorem qc_314 : Cond.methodLink RX8 3 Lib.objectInit ∈ gtw := gtw_in (List.mem_of_getElem? (i := 314) (by decide +kernel)) (by decide +kernel)
theorem qc_315 : Cond.classLink RX8 9 ("[" ++ (FieldType.array .int).toString) ∈ gtw := gtw_in (List.mem_of_getElem? (i := 315) (by decide +kernel)) (by decide +kernel)
theorem qc_317 : Cond.fieldLink RX8 11 RX8 "spaceAhead" "[[I" ∈ gtw := gtw_in (List.mem_of_getElem? (i := 317) (by decide +kernel)) (by decide +kernel)
theorem qc_318 : Cond.fieldLink RX8 16 RX8 "order" "[I" ∈ gtw := gtw_in (List.mem_of_getElem? (i := 318) (by decide +kernel)) (by decide +kernel)
theorem qc_319 : Cond.fieldLink RX8 20 RX8 "firstFound" "[I" ∈ gtw := gtw_in (List.mem_of_getElem? (i := 319) (by decide +kernel)) (by decide +kernel)
theorem qc_337 : Cond.methodLink RX7 3 Lib.objectInit ∈ gtw := gtw_in (List.mem_of_getElem? (i := 337) (by decide +kernel)) (by decide +kernel)
theorem qc_338 : Cond.fieldLink RX7 9 RX7 "distance" "[I" ∈ gtw := gtw_in (List.mem_of_getElem? (i := 338) (by decide +kernel)) (by decide +kernel)
theorem qc_339 : Cond.fieldLink RX7 15 RX7 "queue" "[I" ∈ gtw := gtw_in (List.mem_of_getElem? (i := 339) (by decide +kernel)) (by decide +kernel)
theorem qc_340 : Cond.fieldLink RX7 18 RX7 "path" "[I" ∈ gtw := gtw_in (List.mem_of_getElem? (i := 340) (by decide +kernel)) (by decide +kernel)
theorem qc_361 : Cond.methodLink RX2 3 Lib.objectInit ∈ gtw := gtw_in (List.mem_of_getElem? (i := 361) (by decide +kernel)) (by decide +kernel)
theorem qc_191 : Cond.methodLink RX6 3 Lib.objectInit ∈ gtw := gtw_in (List.mem_of_getElem? (i := 191) (by decide +kernel)) (by decide +kernel)
theorem qc_192 : Cond.classLink RX6 9 "TrustClub$Books" ∈ gtw := gtw_in (List.mem_of_getElem? (i := 192) (by decide +kernel)) (by decide +kernel)
theorem qc_194 : Cond.fieldLink RX6 11 RX6 "stack" "[LTrustClub$Books;" ∈ gtw := gtw_in (List.mem_of_getElem? (i := 194) (by decide +kernel)) (by decide +kernel)
theorem qc_127 : Cond.instantiable RX1 5 ∈ gtw := gtw_in (List.mem_of_getElem? (i := 127) (by decide +kernel)) (by decide +kernel)
theorem qc_95 : Cond.initialized RX1 ∈ gtw := gtw_in (List.mem_of_getElem? (i := 95) (by decide +kernel)) (by decide +kernel)
theorem qc_129 : Cond.instanceMethod yX1_init ∈ gtw := gtw_in (List.mem_of_getElem? (i := 129) (by decide +kernel)) (by decide +kernel)
theorem qc_130 : Cond.code yX1_init cX1_init 2 none ∈ gtw := gtw_in (List.mem_of_getElem? (i := 130) (by decide +kernel)) (by decide +kernel)
theorem qc_193 : Cond.methodLink RX6 17 yX1_init ∈ gtw := gtw_in (List.mem_of_getElem? (i := 193) (by decide +kernel)) (by decide +kernel)
theorem cwi_6_17 : CWI RX6 17 yX1_init cX1_init 2 := ⟨qc_193, qc_129, qc_130, qc_95, rfl, ⟨by decide, by decide, by decide +kernel⟩⟩
theorem qc_123 : Cond.methodLink RX10 3 Lib.objectInit ∈ gtw := gtw_in (List.mem_of_getElem? (i := 123) (by decide +kernel)) (by decide +kernel)
theorem qc_126 : Cond.classLink RX10 9 RX1 ∈ gtw := gtw_in (List.mem_of_getElem? (i := 126) (by decide +kernel)) (by decide +kernel)
theorem qc_128 : Cond.methodLink RX10 11 yX1_init ∈ gtw := gtw_in (List.mem_of_getElem? (i := 128) (by decide +kernel)) (by decide +kernel)
theorem cwi_10_11 : CWI RX10 11 yX1_init cX1_init 2 := ⟨qc_128, qc_129, qc_130, qc_95, rfl, ⟨by decide, by decide, by decide +kernel⟩⟩
theorem qc_379 : Cond.fieldLink RX10 12 RX10 "books" "LTrustClub$Books;" ∈ gtw := gtw_in (List.mem_of_getElem? (i := 379) (by decide +kernel)) (by decide +kernel)
theorem qc_380 : Cond.fieldLink RX10 16 RX10 "before" "LTrustClub$Books;" ∈ gtw := gtw_in (List.mem_of_getElem? (i := 380) (by decide +kernel)) (by decide +kernel)
theorem qc_381 : Cond.fieldLink RX10 19 RX10 "trial" "LTrustClub$Books;" ∈ gtw := gtw_in (List.mem_of_getElem? (i := 381) (by decide +kernel)) (by decide +kernel)
theorem qc_382 : Cond.fieldLink RX10 22 RX10 "kept" "[LTrustClub$Books;" ∈ gtw := gtw_in (List.mem_of_getElem? (i := 382) (by decide +kernel)) (by decide +kernel)
theorem qc_383 : Cond.fieldLink RX10 26 RX10 "isKept" "[Z" ∈ gtw := gtw_in (List.mem_of_getElem? (i := 383) (by decide +kernel)) (by decide +kernel)
theorem qc_186 : Cond.classLink RX10 30 RX6 ∈ gtw := gtw_in (List.mem_of_getElem? (i := 186) (by decide +kernel)) (by decide +kernel)
theorem qc_187 : Cond.instantiable RX6 2 ∈ gtw := gtw_in (List.mem_of_getElem? (i := 187) (by decide +kernel)) (by decide +kernel)
theorem qc_97 : Cond.initialized RX6 ∈ gtw := gtw_in (List.mem_of_getElem? (i := 97) (by decide +kernel)) (by decide +kernel)
theorem qc_189 : Cond.instanceMethod yX6_init ∈ gtw := gtw_in (List.mem_of_getElem? (i := 189) (by decide +kernel)) (by decide +kernel)
theorem qc_190 : Cond.code yX6_init cX6_init 2 none ∈ gtw := gtw_in (List.mem_of_getElem? (i := 190) (by decide +kernel)) (by decide +kernel)
theorem qc_188 : Cond.methodLink RX10 32 yX6_init ∈ gtw := gtw_in (List.mem_of_getElem? (i := 188) (by decide +kernel)) (by decide +kernel)
theorem cwi_10_32 : CWI RX10 32 yX6_init cX6_init 2 := ⟨qc_188, qc_189, qc_190, qc_97, rfl, ⟨by decide, by decide, by decide +kernel⟩⟩
theorem qc_384 : Cond.fieldLink RX10 33 RX10 "past" "LTrustClub$Past;" ∈ gtw := gtw_in (List.mem_of_getElem? (i := 384) (by decide +kernel)) (by decide +kernel)
theorem qc_203 : Cond.classLink RX10 37 RX9 ∈ gtw := gtw_in (List.mem_of_getElem? (i := 203) (by decide +kernel)) (by decide +kernel)
theorem qc_204 : Cond.instantiable RX9 2 ∈ gtw := gtw_in (List.mem_of_getElem? (i := 204) (by decide +kernel)) (by decide +kernel)
theorem qc_98 : Cond.initialized RX9 ∈ gtw := gtw_in (List.mem_of_getElem? (i := 98) (by decide +kernel)) (by decide +kernel)
theorem qc_206 : Cond.instanceMethod yX9_init ∈ gtw := gtw_in (List.mem_of_getElem? (i := 206) (by decide +kernel)) (by decide +kernel)
theorem qc_207 : Cond.code yX9_init cX9_init 1 none ∈ gtw := gtw_in (List.mem_of_getElem? (i := 207) (by decide +kernel)) (by decide +kernel)
theorem qc_205 : Cond.methodLink RX10 39 yX9_init ∈ gtw := gtw_in (List.mem_of_getElem? (i := 205) (by decide +kernel)) (by decide +kernel)
theorem cwi_10_39 : CWI RX10 39 yX9_init cX9_init 1 := ⟨qc_205, qc_206, qc_207, qc_98, rfl, ⟨by decide, by decide, by decide +kernel⟩⟩
theorem qc_385 : Cond.fieldLink RX10 40 RX10 "text" "LTrustClub$Text;" ∈ gtw := gtw_in (List.mem_of_getElem? (i := 385) (by decide +kernel)) (by decide +kernel)
theorem qc_218 : Cond.classLink RX10 44 RX0 ∈ gtw := gtw_in (List.mem_of_getElem? (i := 218) (by decide +kernel)) (by decide +kernel)
theorem qc_219 : Cond.instantiable RX0 5 ∈ gtw := gtw_in (List.mem_of_getElem? (i := 219) (by decide +kernel)) (by decide +kernel)
theorem qc_99 : Cond.initialized RX0 ∈ gtw := gtw_in (List.mem_of_getElem? (i := 99) (by decide +kernel)) (by decide +kernel)
theorem qc_221 : Cond.instanceMethod yX0_init ∈ gtw := gtw_in (List.mem_of_getElem? (i := 221) (by decide +kernel)) (by decide +kernel)
theorem qc_222 : Cond.code yX0_init cX0_init 1 none ∈ gtw := gtw_in (List.mem_of_getElem? (i := 222) (by decide +kernel)) (by decide +kernel)
theorem qc_220 : Cond.methodLink RX10 46 yX0_init ∈ gtw := gtw_in (List.mem_of_getElem? (i := 220) (by decide +kernel)) (by decide +kernel)
theorem cwi_10_46 : CWI RX10 46 yX0_init cX0_init 1 := ⟨qc_220, qc_221, qc_222, qc_99, rfl, ⟨by decide, by decide, by decide +kernel⟩⟩
theorem qc_386 : Cond.fieldLink RX10 47 RX10 "acts" "LTrustClub$Acts;" ∈ gtw := gtw_in (List.mem_of_getElem? (i := 386) (by decide +kernel)) (by decide +kernel)
theorem qc_248 : Cond.classLink RX10 51 RX5 ∈ gtw := gtw_in (List.mem_of_getElem? (i := 248) (by decide +kernel)) (by decide +kernel)
theorem qc_249 : Cond.instantiable RX5 2 ∈ gtw := gtw_in (List.mem_of_getElem? (i := 249) (by decide +kernel)) (by decide +kernel)
theorem qc_100 : Cond.initialized RX5 ∈ gtw := gtw_in (List.mem_of_getElem? (i := 100) (by decide +kernel)) (by decide +kernel)
theorem qc_251 : Cond.instanceMethod yX5_init ∈ gtw := gtw_in (List.mem_of_getElem? (i := 251) (by decide +kernel)) (by decide +kernel)
theorem qc_252 : Cond.code yX5_init cX5_init 1 none ∈ gtw := gtw_in (List.mem_of_getElem? (i := 252) (by decide +kernel)) (by decide +kernel)
theorem qc_250 : Cond.methodLink RX10 53 yX5_init ∈ gtw := gtw_in (List.mem_of_getElem? (i := 250) (by decide +kernel)) (by decide +kernel)
theorem cwi_10_53 : CWI RX10 53 yX5_init cX5_init 1 := ⟨qc_250, qc_251, qc_252, qc_100, rfl, ⟨by decide, by decide, by decide +kernel⟩⟩
theorem qc_387 : Cond.fieldLink RX10 54 RX10 "told" "LTrustClub$Numbers;" ∈ gtw := gtw_in (List.mem_of_getElem? (i := 387) (by decide +kernel)) (by decide +kernel)
theorem qc_264 : Cond.classLink RX10 58 RX4 ∈ gtw := gtw_in (List.mem_of_getElem? (i := 264) (by decide +kernel)) (by decide +kernel)
theorem qc_265 : Cond.instantiable RX4 11 ∈ gtw := gtw_in (List.mem_of_getElem? (i := 265) (by decide +kernel)) (by decide +kernel)
theorem qc_101 : Cond.initialized RX4 ∈ gtw := gtw_in (List.mem_of_getElem? (i := 101) (by decide +kernel)) (by decide +kernel)
theorem qc_267 : Cond.instanceMethod yX4_init ∈ gtw := gtw_in (List.mem_of_getElem? (i := 267) (by decide +kernel)) (by decide +kernel)
theorem qc_268 : Cond.code yX4_init cX4_init 1 none ∈ gtw := gtw_in (List.mem_of_getElem? (i := 268) (by decide +kernel)) (by decide +kernel)
theorem qc_266 : Cond.methodLink RX10 60 yX4_init ∈ gtw := gtw_in (List.mem_of_getElem? (i := 266) (by decide +kernel)) (by decide +kernel)
theorem cwi_10_60 : CWI RX10 60 yX4_init cX4_init 1 := ⟨qc_266, qc_267, qc_268, qc_101, rfl, ⟨by decide, by decide, by decide +kernel⟩⟩
theorem qc_388 : Cond.fieldLink RX10 61 RX10 "network" "LTrustClub$Network;" ∈ gtw := gtw_in (List.mem_of_getElem? (i := 388) (by decide +kernel)) (by decide +kernel)
theorem qc_309 : Cond.classLink RX10 65 RX8 ∈ gtw := gtw_in (List.mem_of_getElem? (i := 309) (by decide +kernel)) (by decide +kernel)
theorem qc_310 : Cond.instantiable RX8 4 ∈ gtw := gtw_in (List.mem_of_getElem? (i := 310) (by decide +kernel)) (by decide +kernel)
theorem qc_102 : Cond.initialized RX8 ∈ gtw := gtw_in (List.mem_of_getElem? (i := 102) (by decide +kernel)) (by decide +kernel)
theorem qc_312 : Cond.instanceMethod yX8_init ∈ gtw := gtw_in (List.mem_of_getElem? (i := 312) (by decide +kernel)) (by decide +kernel)
theorem qc_313 : Cond.code yX8_init cX8_init 1 none ∈ gtw := gtw_in (List.mem_of_getElem? (i := 313) (by decide +kernel)) (by decide +kernel)
theorem qc_311 : Cond.methodLink RX10 67 yX8_init ∈ gtw := gtw_in (List.mem_of_getElem? (i := 311) (by decide +kernel)) (by decide +kernel)
theorem cwi_10_67 : CWI RX10 67 yX8_init cX8_init 1 := ⟨qc_311, qc_312, qc_313, qc_102, rfl, ⟨by decide, by decide, by decide +kernel⟩⟩
theorem qc_389 : Cond.fieldLink RX10 68 RX10 "sequences" "LTrustClub$Sequences;" ∈ gtw := gtw_in (List.mem_of_getElem? (i := 389) (by decide +kernel)) (by decide +kernel)
theorem qc_332 : Cond.classLink RX10 72 RX7 ∈ gtw := gtw_in (List.mem_of_getElem? (i := 332) (by decide +kernel)) (by decide +kernel)
theorem qc_333 : Cond.instantiable RX7 5 ∈ gtw := gtw_in (List.mem_of_getElem? (i := 333) (by decide +kernel)) (by decide +kernel)
theorem qc_103 : Cond.initialized RX7 ∈ gtw := gtw_in (List.mem_of_getElem? (i := 103) (by decide +kernel)) (by decide +kernel)
theorem qc_335 : Cond.instanceMethod yX7_init ∈ gtw := gtw_in (List.mem_of_getElem? (i := 335) (by decide +kernel)) (by decide +kernel)
theorem qc_336 : Cond.code yX7_init cX7_init 1 none ∈ gtw := gtw_in (List.mem_of_getElem? (i := 336) (by decide +kernel)) (by decide +kernel)
theorem qc_334 : Cond.methodLink RX10 74 yX7_init ∈ gtw := gtw_in (List.mem_of_getElem? (i := 334) (by decide +kernel)) (by decide +kernel)
theorem cwi_10_74 : CWI RX10 74 yX7_init cX7_init 1 := ⟨qc_334, qc_335, qc_336, qc_103, rfl, ⟨by decide, by decide, by decide +kernel⟩⟩
theorem qc_390 : Cond.fieldLink RX10 75 RX10 "ringSearch" "LTrustClub$Rings;" ∈ gtw := gtw_in (List.mem_of_getElem? (i := 390) (by decide +kernel)) (by decide +kernel)
theorem qc_356 : Cond.classLink RX10 79 RX2 ∈ gtw := gtw_in (List.mem_of_getElem? (i := 356) (by decide +kernel)) (by decide +kernel)
theorem qc_357 : Cond.instantiable RX2 4 ∈ gtw := gtw_in (List.mem_of_getElem? (i := 357) (by decide +kernel)) (by decide +kernel)
theorem qc_104 : Cond.initialized RX2 ∈ gtw := gtw_in (List.mem_of_getElem? (i := 104) (by decide +kernel)) (by decide +kernel)
theorem qc_359 : Cond.instanceMethod yX2_init ∈ gtw := gtw_in (List.mem_of_getElem? (i := 359) (by decide +kernel)) (by decide +kernel)
theorem qc_360 : Cond.code yX2_init cX2_init 1 none ∈ gtw := gtw_in (List.mem_of_getElem? (i := 360) (by decide +kernel)) (by decide +kernel)
theorem cwi_10_81 : CWIN RX10 81 yX2_init cX2_init 1 := ⟨by simp [nwL, RX10], qc_359, qc_360, qc_104, rfl, ⟨by decide, by decide, by decide +kernel⟩⟩
theorem qc_391 : Cond.fieldLink RX10 82 RX10 "failing" "LTrustClub$Failing;" ∈ gtw := gtw_in (List.mem_of_getElem? (i := 391) (by decide +kernel)) (by decide +kernel)
theorem qc_1102 : Cond.methodLink RX11 3 Lib.objectInit ∈ gtw := gtw_in (List.mem_of_getElem? (i := 1102) (by decide +kernel)) (by decide +kernel)
theorem qc_1103 : Cond.fieldLink RX11 9 RX11 "now" "[I" ∈ gtw := gtw_in (List.mem_of_getElem? (i := 1103) (by decide +kernel)) (by decide +kernel)
theorem qc_1104 : Cond.fieldLink RX11 13 RX11 "text" "[B" ∈ gtw := gtw_in (List.mem_of_getElem? (i := 1104) (by decide +kernel)) (by decide +kernel)
theorem qc_1106 : Cond.fieldLink RX11 17 RX11 "row" "[J" ∈ gtw := gtw_in (List.mem_of_getElem? (i := 1106) (by decide +kernel)) (by decide +kernel)
theorem qc_1112 : Cond.fieldLink RX11 21 RX11 "read" "[I" ∈ gtw := gtw_in (List.mem_of_getElem? (i := 1112) (by decide +kernel)) (by decide +kernel)
theorem qc_1113 : Cond.fieldLink RX11 24 RX11 "told" "[I" ∈ gtw := gtw_in (List.mem_of_getElem? (i := 1113) (by decide +kernel)) (by decide +kernel)
theorem qc_1114 : Cond.fieldLink RX11 27 RX11 "far" "[I" ∈ gtw := gtw_in (List.mem_of_getElem? (i := 1114) (by decide +kernel)) (by decide +kernel)
theorem qc_1115 : Cond.fieldLink RX11 30 RX11 "found" "[I" ∈ gtw := gtw_in (List.mem_of_getElem? (i := 1115) (by decide +kernel)) (by decide +kernel)
theorem qc_1117 : Cond.fieldLink RX11 33 RX11 "barred" "I" ∈ gtw := gtw_in (List.mem_of_getElem? (i := 1117) (by decide +kernel)) (by decide +kernel)
theorem qc_1118 : Cond.fieldLink RX11 37 RX11 "aside" "[I" ∈ gtw := gtw_in (List.mem_of_getElem? (i := 1118) (by decide +kernel)) (by decide +kernel)
theorem qc_1122 : Cond.fieldLink RX11 40 RX11 "ring" "[I" ∈ gtw := gtw_in (List.mem_of_getElem? (i := 1122) (by decide +kernel)) (by decide +kernel)
theorem qc_1123 : Cond.fieldLink RX11 43 RX11 "order" "[I" ∈ gtw := gtw_in (List.mem_of_getElem? (i := 1123) (by decide +kernel)) (by decide +kernel)
theorem qc_1124 : Cond.fieldLink RX11 46 RX11 "firstOrder" "[I" ∈ gtw := gtw_in (List.mem_of_getElem? (i := 1124) (by decide +kernel)) (by decide +kernel)
theorem qc_1125 : Cond.fieldLink RX11 49 RX11 "orderStart" "[I" ∈ gtw := gtw_in (List.mem_of_getElem? (i := 1125) (by decide +kernel)) (by decide +kernel)
theorem qc_1127 : Cond.fieldLink RX11 52 RX11 "flows" "[I" ∈ gtw := gtw_in (List.mem_of_getElem? (i := 1127) (by decide +kernel)) (by decide +kernel)
theorem qc_1129 : Cond.fieldLink RX11 55 RX11 "undos" "[I" ∈ gtw := gtw_in (List.mem_of_getElem? (i := 1129) (by decide +kernel)) (by decide +kernel)
theorem qc_1130 : Cond.fieldLink RX11 58 RX11 "was" "[I" ∈ gtw := gtw_in (List.mem_of_getElem? (i := 1130) (by decide +kernel)) (by decide +kernel)
theorem qc_1133 : Cond.fieldLink RX11 61 RX11 "kept" "[I" ∈ gtw := gtw_in (List.mem_of_getElem? (i := 1133) (by decide +kernel)) (by decide +kernel)
theorem qc_1134 : Cond.fieldLink RX11 64 RX11 "isKept" "[Z" ∈ gtw := gtw_in (List.mem_of_getElem? (i := 1134) (by decide +kernel)) (by decide +kernel)
