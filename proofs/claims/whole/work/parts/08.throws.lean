/-! the words of each throw -/
set_option maxRecDepth 100000 in
theorem tw_263 : ∀ w ∈ vx_atS RX8 267 "java/lang/ArithmeticException" ["java/lang/RuntimeException", "java/lang/Exception"], w ∈ AW ∨ w ∈ NW := by decide +kernel
set_option maxRecDepth 100000 in
theorem tw_263g : ∀ w ∈ Cond.classLink RX8 263 "java/lang/ArithmeticException" :: Cond.initialized "java/lang/ArithmeticException" :: vx_atS RX8 267 "java/lang/ArithmeticException" ["java/lang/RuntimeException", "java/lang/Exception"], vx_ot w = true := by decide +kernel
theorem tw_263k : Cond.classLink RX8 263 "java/lang/ArithmeticException" ∈ AW := AW_in 1015 (by decide +kernel) (by decide +kernel)
theorem tw_263i : Cond.initialized "java/lang/ArithmeticException" ∈ AW := AW_in 27 (by decide +kernel) (by decide +kernel)
theorem th_X8_263_265 : rv_thw RX8 "java/lang/ArithmeticException" "no day has a rest before it" ["java/lang/RuntimeException", "java/lang/Exception"] 263 265 267 := ⟨by decide +kernel, by decide +kernel, tw_263k, tw_263i, by decide +kernel, tw_263, tw_263g⟩
set_option maxRecDepth 100000 in
theorem tw_217 : ∀ w ∈ vx_atS RX8 221 "java/lang/IllegalArgumentException" ["java/lang/RuntimeException", "java/lang/Exception"], w ∈ AW ∨ w ∈ NW := by decide +kernel
set_option maxRecDepth 100000 in
theorem tw_217g : ∀ w ∈ Cond.classLink RX8 217 "java/lang/IllegalArgumentException" :: Cond.initialized "java/lang/IllegalArgumentException" :: vx_atS RX8 221 "java/lang/IllegalArgumentException" ["java/lang/RuntimeException", "java/lang/Exception"], vx_ot w = true := by decide +kernel
theorem tw_217k : Cond.classLink RX8 217 "java/lang/IllegalArgumentException" ∈ AW := AW_in 550 (by decide +kernel) (by decide +kernel)
theorem tw_217i : Cond.initialized "java/lang/IllegalArgumentException" ∈ AW := AW_in 15 (by decide +kernel) (by decide +kernel)
theorem th_X8_217_219 : rv_thw RX8 "java/lang/IllegalArgumentException" "both persons are the same" ["java/lang/RuntimeException", "java/lang/Exception"] 217 219 221 := ⟨by decide +kernel, by decide +kernel, tw_217k, tw_217i, by decide +kernel, tw_217, tw_217g⟩
theorem th_X8_217_283 : rv_thw RX8 "java/lang/IllegalArgumentException" "out of range" ["java/lang/RuntimeException", "java/lang/Exception"] 217 283 221 := ⟨by decide +kernel, by decide +kernel, tw_217k, tw_217i, by decide +kernel, tw_217, tw_217g⟩
set_option maxRecDepth 100000 in
theorem tw_76 : ∀ w ∈ vx_atS RX8 80 "java/lang/IllegalStateException" ["java/lang/RuntimeException", "java/lang/Exception"], w ∈ AW ∨ w ∈ NW := by decide +kernel
set_option maxRecDepth 100000 in
theorem tw_76g : ∀ w ∈ Cond.classLink RX8 76 "java/lang/IllegalStateException" :: Cond.initialized "java/lang/IllegalStateException" :: vx_atS RX8 80 "java/lang/IllegalStateException" ["java/lang/RuntimeException", "java/lang/Exception"], vx_ot w = true := by decide +kernel
theorem tw_76k : Cond.classLink RX8 76 "java/lang/IllegalStateException" ∈ AW := AW_in 467 (by decide +kernel) (by decide +kernel)
theorem tw_76i : Cond.initialized "java/lang/IllegalStateException" ∈ AW := AW_in 14 (by decide +kernel) (by decide +kernel)
theorem th_X8_76_78 : rv_thw RX8 "java/lang/IllegalStateException" "there are 4 persons" ["java/lang/RuntimeException", "java/lang/Exception"] 76 78 80 := ⟨by decide +kernel, by decide +kernel, tw_76k, tw_76i, by decide +kernel, tw_76, tw_76g⟩
theorem th_X8_76_90 : rv_thw RX8 "java/lang/IllegalStateException" "there are 3 shifts" ["java/lang/RuntimeException", "java/lang/Exception"] 76 90 80 := ⟨by decide +kernel, by decide +kernel, tw_76k, tw_76i, by decide +kernel, tw_76, tw_76g⟩
theorem th_X8_76_148 : rv_thw RX8 "java/lang/IllegalStateException" "the person is free on the day" ["java/lang/RuntimeException", "java/lang/Exception"] 76 148 80 := ⟨by decide +kernel, by decide +kernel, tw_76k, tw_76i, by decide +kernel, tw_76, tw_76g⟩
set_option maxRecDepth 100000 in
theorem tw_271 : ∀ w ∈ vx_atS RX8 275 "java/lang/IndexOutOfBoundsException" ["java/lang/RuntimeException", "java/lang/Exception"], w ∈ AW ∨ w ∈ NW := by decide +kernel
set_option maxRecDepth 100000 in
theorem tw_271g : ∀ w ∈ Cond.classLink RX8 271 "java/lang/IndexOutOfBoundsException" :: Cond.initialized "java/lang/IndexOutOfBoundsException" :: vx_atS RX8 275 "java/lang/IndexOutOfBoundsException" ["java/lang/RuntimeException", "java/lang/Exception"], vx_ot w = true := by decide +kernel
theorem tw_271k : Cond.classLink RX8 271 "java/lang/IndexOutOfBoundsException" ∈ AW := AW_in 643 (by decide +kernel) (by decide +kernel)
theorem tw_271i : Cond.initialized "java/lang/IndexOutOfBoundsException" ∈ AW := AW_in 17 (by decide +kernel) (by decide +kernel)
theorem th_X8_271_273 : rv_thw RX8 "java/lang/IndexOutOfBoundsException" "no such person" ["java/lang/RuntimeException", "java/lang/Exception"] 271 273 275 := ⟨by decide +kernel, by decide +kernel, tw_271k, tw_271i, by decide +kernel, tw_271, tw_271g⟩
theorem th_X8_271_276 : rv_thw RX8 "java/lang/IndexOutOfBoundsException" "no such day" ["java/lang/RuntimeException", "java/lang/Exception"] 271 276 275 := ⟨by decide +kernel, by decide +kernel, tw_271k, tw_271i, by decide +kernel, tw_271, tw_271g⟩
set_option maxRecDepth 100000 in
theorem tw_226 : ∀ w ∈ vx_atS RX8 230 "java/lang/UnsupportedOperationException" ["java/lang/RuntimeException", "java/lang/Exception"], w ∈ AW ∨ w ∈ NW := by decide +kernel
set_option maxRecDepth 100000 in
theorem tw_226g : ∀ w ∈ Cond.classLink RX8 226 "java/lang/UnsupportedOperationException" :: Cond.initialized "java/lang/UnsupportedOperationException" :: vx_atS RX8 230 "java/lang/UnsupportedOperationException" ["java/lang/RuntimeException", "java/lang/Exception"], vx_ot w = true := by decide +kernel
theorem tw_226k : Cond.classLink RX8 226 "java/lang/UnsupportedOperationException" ∈ AW := AW_in 909 (by decide +kernel) (by decide +kernel)
theorem tw_226i : Cond.initialized "java/lang/UnsupportedOperationException" ∈ AW := AW_in 26 (by decide +kernel) (by decide +kernel)
theorem th_X8_226_228 : rv_thw RX8 "java/lang/UnsupportedOperationException" "the exchange would bring a breach" ["java/lang/RuntimeException", "java/lang/Exception"] 226 228 230 := ⟨by decide +kernel, by decide +kernel, tw_226k, tw_226i, by decide +kernel, tw_226, tw_226g⟩
set_option maxRecDepth 100000 in
theorem tw_160 : ∀ w ∈ nx_atF RX8 164 "java/util/NoSuchElementException" "java/lang/RuntimeException" 13 prog_32_method_4_code ["java/lang/Exception"], w ∈ AW ∨ w ∈ NW := by decide +kernel
set_option maxRecDepth 100000 in
theorem tw_160g : ∀ w ∈ Cond.classLink RX8 160 "java/util/NoSuchElementException" :: Cond.initialized "java/util/NoSuchElementException" :: nx_atF RX8 164 "java/util/NoSuchElementException" "java/lang/RuntimeException" 13 prog_32_method_4_code ["java/lang/Exception"], vx_ot w = true := by decide +kernel
theorem tw_160k : Cond.classLink RX8 160 "java/util/NoSuchElementException" ∈ AW := AW_in 587 (by decide +kernel) (by decide +kernel)
theorem tw_160i : Cond.initialized "java/util/NoSuchElementException" ∈ AW := AW_in 16 (by decide +kernel) (by decide +kernel)
theorem tw_160e : decode prog_32_method_4_code 0 = .ok (.aload_n 0, 1) ∧ decode prog_32_method_4_code 1 = .ok (.aload_n 1, 1) ∧ decode prog_32_method_4_code 2 = .ok (.invokespecial 13, 3) ∧ decode prog_32_method_4_code 5 = .ok (.return_, 1) := ⟨by decide +kernel, by decide +kernel, by decide +kernel, by decide +kernel⟩
theorem th_X8_160_162 : rv_thn RX8 "java/util/NoSuchElementException" "no shift for the day, or for no earlier day" "java/lang/RuntimeException" ["java/lang/Exception"] 160 162 164 13 prog_32_method_4_code := ⟨by decide +kernel, by decide +kernel, by decide +kernel, tw_160e, tw_160k, tw_160i, by decide +kernel, tw_160, tw_160g⟩
theorem th_X8_160_215 : rv_thn RX8 "java/util/NoSuchElementException" "no person has a breach" "java/lang/RuntimeException" ["java/lang/Exception"] 160 215 164 13 prog_32_method_4_code := ⟨by decide +kernel, by decide +kernel, by decide +kernel, tw_160e, tw_160k, tw_160i, by decide +kernel, tw_160, tw_160g⟩
theorem th_X8_160_234 : rv_thn RX8 "java/util/NoSuchElementException" "no exchange leaves fewer breaches" "java/lang/RuntimeException" ["java/lang/Exception"] 160 234 164 13 prog_32_method_4_code := ⟨by decide +kernel, by decide +kernel, by decide +kernel, tw_160e, tw_160k, tw_160i, by decide +kernel, tw_160, tw_160g⟩
theorem th_X8_160_281 : rv_thn RX8 "java/util/NoSuchElementException" "no such shift" "java/lang/RuntimeException" ["java/lang/Exception"] 160 281 164 13 prog_32_method_4_code := ⟨by decide +kernel, by decide +kernel, by decide +kernel, tw_160e, tw_160k, tw_160i, by decide +kernel, tw_160, tw_160g⟩
theorem th_X8_160_285 : rv_thn RX8 "java/util/NoSuchElementException" "no such change" "java/lang/RuntimeException" ["java/lang/Exception"] 160 285 164 13 prog_32_method_4_code := ⟨by decide +kernel, by decide +kernel, by decide +kernel, tw_160e, tw_160k, tw_160i, by decide +kernel, tw_160, tw_160g⟩
theorem th_X8_160_287 : rv_thn RX8 "java/util/NoSuchElementException" "no set of at most 2 changes mends the roster" "java/lang/RuntimeException" ["java/lang/Exception"] 160 287 164 13 prog_32_method_4_code := ⟨by decide +kernel, by decide +kernel, by decide +kernel, tw_160e, tw_160k, tw_160i, by decide +kernel, tw_160, tw_160g⟩
theorem th_X8_160_292 : rv_thn RX8 "java/util/NoSuchElementException" "no such breach" "java/lang/RuntimeException" ["java/lang/Exception"] 160 292 164 13 prog_32_method_4_code := ⟨by decide +kernel, by decide +kernel, by decide +kernel, tw_160e, tw_160k, tw_160i, by decide +kernel, tw_160, tw_160g⟩
