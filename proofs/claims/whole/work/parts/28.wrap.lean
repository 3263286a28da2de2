/-! the law's wrappers: each calls the class and tells by a number what was thrown -/
def rv_ans {α : Type} (Es : List String) (o : String ⊕ α) (b : α) (k : Int32) : Prop := (o = .inr b ∧ k = 0) ∨ ∃ (j : Nat) (E : String), Es[j]? = some E ∧ o = .inl E ∧ k = nI (j + 1)
theorem rv_ans_r {α : Type} {Es : List String} {o : String ⊕ α} {b t : α} {k : Int32} (h : rv_ans Es o b k) (e : o = .inr t) : t = b ∧ k = 0 := by
  rcases h with ⟨e2, hk⟩ | ⟨j, E, -, e2, -⟩
  · rw [e] at e2
    cases e2
    exact ⟨rfl, hk⟩
  · rw [e] at e2
    cases e2
theorem rv_ans_l {α : Type} {Es : List String} {o : String ⊕ α} {b : α} {E : String} {k : Int32} (h : rv_ans Es o b k) (e : o = .inl E) : ∃ j : Nat, Es[j]? = some E ∧ k = nI (j + 1) := by
  rcases h with ⟨e2, hk⟩ | ⟨j, E2, hj, e2, hk⟩
  · rw [e] at e2
    cases e2
  · rw [e] at e2
    cases e2
    exact ⟨j, hj, hk⟩
theorem wk_L_13 : Cond.classLink RL 13 "java/lang/IllegalStateException" ∈ AW := AW_in 462 (by decide +kernel) (by decide +kernel)
theorem wq_L_13 : Cond.castable "java/lang/IllegalStateException" "java/lang/IllegalStateException" ∈ NW := NW_in 469 (by decide +kernel) (by decide +kernel)
theorem wk_L_19 : Cond.classLink RL 19 "java/lang/IllegalArgumentException" ∈ AW := AW_in 542 (by decide +kernel) (by decide +kernel)
theorem wq_L_19 : Cond.castable "java/lang/IllegalArgumentException" "java/lang/IllegalArgumentException" ∈ NW := NW_in 552 (by decide +kernel) (by decide +kernel)
theorem wk_L_25 : Cond.classLink RL 25 "java/util/NoSuchElementException" ∈ AW := AW_in 574 (by decide +kernel) (by decide +kernel)
theorem wq_L_25 : Cond.castable "java/util/NoSuchElementException" "java/util/NoSuchElementException" ∈ NW := NW_in 589 (by decide +kernel) (by decide +kernel)
theorem wk_L_31 : Cond.classLink RL 31 "java/lang/IndexOutOfBoundsException" ∈ AW := AW_in 607 (by decide +kernel) (by decide +kernel)
theorem wq_L_31 : Cond.castable "java/lang/IndexOutOfBoundsException" "java/lang/IndexOutOfBoundsException" ∈ NW := NW_in 645 (by decide +kernel) (by decide +kernel)
theorem wk_L_97 : Cond.classLink RL 97 "java/lang/UnsupportedOperationException" ∈ AW := AW_in 888 (by decide +kernel) (by decide +kernel)
theorem wq_L_97 : Cond.castable "java/lang/UnsupportedOperationException" "java/lang/UnsupportedOperationException" ∈ NW := NW_in 911 (by decide +kernel) (by decide +kernel)
theorem wk_L_125 : Cond.classLink RL 125 "java/lang/ArithmeticException" ∈ AW := AW_in 997 (by decide +kernel) (by decide +kernel)
theorem wq_L_125 : Cond.castable "java/lang/ArithmeticException" "java/lang/ArithmeticException" ∈ NW := NW_in 1009 (by decide +kernel) (by decide +kernel)
theorem wcw_addPerson : Cond.codeWith yL_addPerson cL_addPerson 3 (some .int) [(0, 8, 11, 13)] ∈ AW := AW_in 461 (by decide +kernel) (by decide +kernel)
theorem w_addPerson {l : Launch} {D : va_G} {ta : Nat → ClassId} {ad : Nat → Nat} (hl9 : l.stackTraces = false) {μ μ2 : Mem} {o : String ⊕ Int32} (hx : f_X8_addPerson μ = some (o, μ2)) {b : Int32} {k : Int32} (ha : rv_ans ["java/lang/IllegalStateException"] o b k) (oa : Nat) (u : Nat → Int64) : rv_CW l D (rv_T ta) yL_addPerson cL_addPerson 3 (some .int) [(0, 8, 11, 13)] 2 1 6 [.ref (ad 0), .ref oa] ((oa, .inl (ta 2, 1, .inr (.inl (u)))) :: wx ta ad μ) (fun v w => ∃ u2 : Nat → Int64, v = some (.int k) ∧ w = (oa, .inl (ta 2, 1, .inr (.inl (u2)))) :: wx ta ad μ2 ∧ (k = 0 → u2 0 = Int32.toInt64 b)) := by
  refine rv_Wof (own := RL) (lv := [(0, .ref (ad 0)), (1, .ref oa)]) rfl (by decide) (rv_le rfl) rfl ?_
  refine rv_aload_n dL_addPerson_0 rfl 1 rfl ?_
  refine rv_iconst (v := 0) dL_addPerson_1 (by decide) ?_
  refine rv_aload_n dL_addPerson_2 rfl 0 rfl ?_
  refine rv_xcallV (rest := [.int 0, .ref oa]) (rv_CXframe (wr := [(oa, .inl (ta 2, 1, .inr (.inl (u))))]) (ct_X8_addPerson hl9 hx) [1, 2, 3, 4, 5, 6, 7, 8, 9, 10, 11, 12, 13, 14, 15, 16, 17, 18, 19, 20, 21, 22, 23, 24, 25, 26] [0] rfl rfl rfl rfl (by decide +kernel)) wm_L_7 wi_X8_addPerson wl_X8_addPerson wc_X8_addPerson wz_X8 rfl np_X8_addPerson ⟨rv_le rfl, rv_le rfl⟩ ⟨rv_le rfl, rv_le rfl⟩ dL_addPerson_3 rfl (rv_le rfl) 1 (wx_0 ta ad μ) cl_X8 (fun E w9 h9 => ?_) (fun v9 w9 h9 => ?_)
  · obtain ⟨w8, ⟨e8, rfl⟩, rfl⟩ := h9
    obtain ⟨j, hj, rfl⟩ := rv_ans_l ha e8
    match j, hj with
  | 0, hj =>
    obtain rfl := Option.some.inj hj
    refine rv_catch (name := "java/lang/IllegalStateException") [] ⟨0, 8, 11, 13⟩ [] rfl (fun z hz => nomatch hz) (by decide) (by decide) wk_L_13 wq_L_13 (fun q9 => ?_)
    refine rv_astore_n (lv2 := [(2, .ref q9), (0, .ref (ad 0)), (1, .ref oa)]) dL_addPerson_11 rfl (by decide) rfl ?_
    refine rv_iconst (v := 1) dL_addPerson_12 (by decide) ?_
    exact rv_iret rfl dL_addPerson_13 (rv_le rfl) (rv_le rfl) ⟨u, rfl, rfl, fun h => absurd h (by decide)⟩
  | j + 1, hj => exact absurd hj (by simp)
  · obtain ⟨w8, ⟨t, e8, rfl, rfl⟩, rfl⟩ := h9
    obtain ⟨rfl, rfl⟩ := rv_ans_r ha e8
    refine rv_i2l dL_addPerson_6 rfl ?_
    refine rv_last (ws2 := (oa, .inl (ta 2, 1, .inr (.inl (vp_updL u 0 (Int32.toInt64 t))))) :: wx ta ad μ2) dL_addPerson_7 2 rfl 0 rfl (rv_inP (by decide)) rfl ?_
    refine rv_goto (tgt := 14) dL_addPerson_8 (by decide) ?_
    refine rv_iconst (v := 0) dL_addPerson_14 (by decide) ?_
    exact rv_iret rfl dL_addPerson_15 (rv_le rfl) (rv_le rfl) ⟨_, rfl, rfl, fun _ => rfl⟩
theorem wcw_addShift : Cond.codeWith yL_addShift cL_addShift 5 (some .int) [(0, 10, 13, 19), (0, 10, 17, 13)] ∈ AW := AW_in 541 (by decide +kernel) (by decide +kernel)
theorem w_addShift {l : Launch} {D : va_G} {ta : Nat → ClassId} {ad : Nat → Nat} (hl9 : l.stackTraces = false) {μ μ2 : Mem} {x1 : Int32} {x2 : Int32} {o : String ⊕ Int32} (hx : f_X8_addShift μ x1 x2 = some (o, μ2)) {b : Int32} {k : Int32} (ha : rv_ans ["java/lang/IllegalArgumentException", "java/lang/IllegalStateException"] o b k) (oa : Nat) (u : Nat → Int64) : rv_CW l D (rv_T ta) yL_addShift cL_addShift 5 (some .int) [(0, 10, 13, 19), (0, 10, 17, 13)] 3 3 18 [.ref (ad 0), .int x1, .int x2, .ref oa] ((oa, .inl (ta 2, 1, .inr (.inl (u)))) :: wx ta ad μ) (fun v w => ∃ u2 : Nat → Int64, v = some (.int k) ∧ w = (oa, .inl (ta 2, 1, .inr (.inl (u2)))) :: wx ta ad μ2 ∧ (k = 0 → u2 0 = Int32.toInt64 b)) := by
  refine rv_Wof (own := RL) (lv := [(0, .ref (ad 0)), (1, .int x1), (2, .int x2), (3, .ref oa)]) rfl (by decide) (rv_le rfl) rfl ?_
  refine rv_aload_n dL_addShift_0 rfl 3 rfl ?_
  refine rv_iconst (v := 0) dL_addShift_1 (by decide) ?_
  refine rv_aload_n dL_addShift_2 rfl 0 rfl ?_
  refine rv_iload_n dL_addShift_3 rfl 1 rfl ?_
  refine rv_iload_n dL_addShift_4 rfl 2 rfl ?_
  refine rv_xcallV (rest := [.int 0, .ref oa]) (rv_CXframe (wr := [(oa, .inl (ta 2, 1, .inr (.inl (u))))]) (ct_X8_addShift hl9 hx) [1, 2, 3, 4, 5, 6, 7, 8, 9, 10, 11, 12, 13, 14, 15, 16, 17, 18, 19, 20, 21, 22, 23, 24, 25, 26] [0] rfl rfl rfl rfl (by decide +kernel)) wm_L_15 wi_X8_addShift wl_X8_addShift wc_X8_addShift wz_X8 rfl np_X8_addShift ⟨rv_le rfl, rv_le rfl⟩ ⟨rv_le rfl, rv_le rfl⟩ dL_addShift_5 rfl (rv_le rfl) 1 (wx_0 ta ad μ) cl_X8 (fun E w9 h9 => ?_) (fun v9 w9 h9 => ?_)
  · obtain ⟨w8, ⟨e8, rfl⟩, rfl⟩ := h9
    obtain ⟨j, hj, rfl⟩ := rv_ans_l ha e8
    match j, hj with
  | 0, hj =>
    obtain rfl := Option.some.inj hj
    refine rv_catch (name := "java/lang/IllegalArgumentException") [] ⟨0, 10, 13, 19⟩ [⟨0, 10, 17, 13⟩] rfl (fun z hz => nomatch hz) (by decide) (by decide) wk_L_19 wq_L_19 (fun q9 => ?_)
    refine rv_astore (lv2 := [(4, .ref q9), (0, .ref (ad 0)), (1, .int x1), (2, .int x2), (3, .ref oa)]) dL_addShift_13 (by decide) rfl ?_
    refine rv_iconst (v := 1) dL_addShift_15 (by decide) ?_
    exact rv_iret rfl dL_addShift_16 (rv_le rfl) (rv_le rfl) ⟨u, rfl, rfl, fun h => absurd h (by decide)⟩
  | 1, hj =>
    obtain rfl := Option.some.inj hj
    refine rv_catch (name := "java/lang/IllegalStateException") [⟨0, 10, 13, 19⟩] ⟨0, 10, 17, 13⟩ [] rfl (fun z hz => by
      obtain rfl := List.mem_singleton.mp hz
      exact ⟨by decide, _, wk_L_19, by decide +kernel⟩) (by decide) (by decide) wk_L_13 wq_L_13 (fun q9 => ?_)
    refine rv_astore (lv2 := [(4, .ref q9), (0, .ref (ad 0)), (1, .int x1), (2, .int x2), (3, .ref oa)]) dL_addShift_17 (by decide) rfl ?_
    refine rv_iconst (v := 2) dL_addShift_19 (by decide) ?_
    exact rv_iret rfl dL_addShift_20 (rv_le rfl) (rv_le rfl) ⟨u, rfl, rfl, fun h => absurd h (by decide)⟩
  | j + 2, hj => exact absurd hj (by simp)
  · obtain ⟨w8, ⟨t, e8, rfl, rfl⟩, rfl⟩ := h9
    obtain ⟨rfl, rfl⟩ := rv_ans_r ha e8
    refine rv_i2l dL_addShift_8 rfl ?_
    refine rv_last (ws2 := (oa, .inl (ta 2, 1, .inr (.inl (vp_updL u 0 (Int32.toInt64 t))))) :: wx ta ad μ2) dL_addShift_9 2 rfl 0 rfl (rv_inP (by decide)) rfl ?_
    refine rv_goto (tgt := 21) dL_addShift_10 (by decide) ?_
    refine rv_iconst (v := 0) dL_addShift_21 (by decide) ?_
    exact rv_iret rfl dL_addShift_22 (rv_le rfl) (rv_le rfl) ⟨_, rfl, rfl, fun _ => rfl⟩
theorem wcw_isNight : Cond.codeWith yL_isNight cL_isNight 4 (some .int) [(0, 16, 19, 25)] ∈ AW := AW_in 573 (by decide +kernel) (by decide +kernel)
theorem w_isNight {l : Launch} {D : va_G} {ta : Nat → ClassId} {ad : Nat → Nat} (hl9 : l.stackTraces = false) {μ : Mem} {x1 : Int32} {o : String ⊕ Int32} (hx : f_X8_isNight μ x1 = some o) {b : Int32} {k : Int32} (ha : rv_ans ["java/util/NoSuchElementException"] o b k) (oa : Nat) (u : Nat → Int64) : rv_CW l D (rv_T ta) yL_isNight cL_isNight 4 (some .int) [(0, 16, 19, 25)] 4 1 6 [.ref (ad 0), .int x1, .ref oa] ((oa, .inl (ta 2, 1, .inr (.inl (u)))) :: wx ta ad μ) (fun v w => ∃ u2 : Nat → Int64, v = some (.int k) ∧ w = (oa, .inl (ta 2, 1, .inr (.inl (u2)))) :: wx ta ad μ ∧ (k = 0 → u2 0 = (if b = 0 then 0 else 1))) := by
  refine rv_Wof (own := RL) (lv := [(0, .ref (ad 0)), (1, .int x1), (2, .ref oa)]) rfl (by decide) (rv_le rfl) rfl ?_
  refine rv_aload_n dL_isNight_0 rfl 2 rfl ?_
  refine rv_iconst (v := 0) dL_isNight_1 (by decide) ?_
  refine rv_aload_n dL_isNight_2 rfl 0 rfl ?_
  refine rv_iload_n dL_isNight_3 rfl 1 rfl ?_
  refine rv_xcallV (rest := [.int 0, .ref oa]) (rv_CXframe (wr := [(oa, .inl (ta 2, 1, .inr (.inl (u))))]) (ct_X8_isNight hl9 hx) [1, 2, 3, 4, 5, 6, 7, 8, 9, 10, 11, 12, 13, 14, 15, 16, 17, 18, 19, 20, 21, 22, 23, 24, 25, 26] [0] rfl rfl rfl rfl (by decide +kernel)) wm_L_21 wi_X8_isNight wl_X8_isNight wc_X8_isNight wz_X8 rfl np_X8_isNight ⟨rv_le rfl, rv_le rfl⟩ ⟨rv_le rfl, rv_le rfl⟩ dL_isNight_4 rfl (rv_le rfl) 1 (wx_0 ta ad μ) cl_X8 (fun E w9 h9 => ?_) (fun v9 w9 h9 => ?_)
  · obtain ⟨w8, ⟨e8, rfl⟩, rfl⟩ := h9
    obtain ⟨j, hj, rfl⟩ := rv_ans_l ha e8
    match j, hj with
  | 0, hj =>
    obtain rfl := Option.some.inj hj
    refine rv_catch (name := "java/util/NoSuchElementException") [] ⟨0, 16, 19, 25⟩ [] rfl (fun z hz => nomatch hz) (by decide) (by decide) wk_L_25 wq_L_25 (fun q9 => ?_)
    refine rv_astore_n (lv2 := [(3, .ref q9), (0, .ref (ad 0)), (1, .int x1), (2, .ref oa)]) dL_isNight_19 rfl (by decide) rfl ?_
    refine rv_iconst (v := 1) dL_isNight_20 (by decide) ?_
    exact rv_iret rfl dL_isNight_21 (rv_le rfl) (rv_le rfl) ⟨u, rfl, rfl, fun h => absurd h (by decide)⟩
  | j + 1, hj => exact absurd hj (by simp)
  · obtain ⟨w8, ⟨t, e8, rfl, rfl⟩, rfl⟩ := h9
    obtain ⟨rfl, rfl⟩ := rv_ans_r ha e8
    refine rv_if_eq (tgt := 14) dL_isNight_7 (by decide) (fun hc => ?_) (fun hc => ?_)
    · refine rv_lconst (v := 0) dL_isNight_14 (by decide) ?_
      refine rv_last (ws2 := (oa, .inl (ta 2, 1, .inr (.inl (vp_updL u 0 (0))))) :: wx ta ad μ) dL_isNight_15 2 rfl 0 rfl (rv_inP (by decide)) rfl ?_
      refine rv_goto (tgt := 22) dL_isNight_16 (by decide) ?_
      refine rv_iconst (v := 0) dL_isNight_22 (by decide) ?_
      exact rv_iret rfl dL_isNight_23 (rv_le rfl) (rv_le rfl) ⟨_, rfl, rfl, fun _ => by rw [if_pos hc]; rfl⟩
    · refine rv_lconst (v := 1) dL_isNight_10 (by decide) ?_
      refine rv_goto (tgt := 15) dL_isNight_11 (by decide) ?_
      refine rv_last (ws2 := (oa, .inl (ta 2, 1, .inr (.inl (vp_updL u 0 (1))))) :: wx ta ad μ) dL_isNight_15 2 rfl 0 rfl (rv_inP (by decide)) rfl ?_
      refine rv_goto (tgt := 22) dL_isNight_16 (by decide) ?_
      refine rv_iconst (v := 0) dL_isNight_22 (by decide) ?_
      exact rv_iret rfl dL_isNight_23 (rv_le rfl) (rv_le rfl) ⟨_, rfl, rfl, fun _ => by rw [if_neg hc]; rfl⟩
theorem wcw_teach : Cond.codeWith yL_teach cL_teach 5 (some .int) [(0, 17, 20, 31), (0, 17, 24, 25)] ∈ AW := AW_in 606 (by decide +kernel) (by decide +kernel)
theorem w_teach {l : Launch} {D : va_G} {ta : Nat → ClassId} {ad : Nat → Nat} (hl9 : l.stackTraces = false) {μ μ2 : Mem} {x1 : Int32} {x2 : Int32} {o : String ⊕ Int32} (hx : f_X8_teach μ x1 x2 = some (o, μ2)) {b : Int32} {k : Int32} (ha : rv_ans ["java/lang/IndexOutOfBoundsException", "java/util/NoSuchElementException"] o b k) (oa : Nat) (u : Nat → Int64) : rv_CW l D (rv_T ta) yL_teach cL_teach 5 (some .int) [(0, 17, 20, 31), (0, 17, 24, 25)] 4 2 12 [.ref (ad 0), .int x1, .int x2, .ref oa] ((oa, .inl (ta 2, 1, .inr (.inl (u)))) :: wx ta ad μ) (fun v w => ∃ u2 : Nat → Int64, v = some (.int k) ∧ w = (oa, .inl (ta 2, 1, .inr (.inl (u2)))) :: wx ta ad μ2 ∧ (k = 0 → u2 0 = (if b = 0 then 0 else 1))) := by
  refine rv_Wof (own := RL) (lv := [(0, .ref (ad 0)), (1, .int x1), (2, .int x2), (3, .ref oa)]) rfl (by decide) (rv_le rfl) rfl ?_
  refine rv_aload_n dL_teach_0 rfl 3 rfl ?_
  refine rv_iconst (v := 0) dL_teach_1 (by decide) ?_
  refine rv_aload_n dL_teach_2 rfl 0 rfl ?_
  refine rv_iload_n dL_teach_3 rfl 1 rfl ?_
  refine rv_iload_n dL_teach_4 rfl 2 rfl ?_
  refine rv_xcallV (rest := [.int 0, .ref oa]) (rv_CXframe (wr := [(oa, .inl (ta 2, 1, .inr (.inl (u))))]) (ct_X8_teach hl9 hx) [1, 2, 3, 4, 5, 6, 7, 8, 9, 10, 11, 12, 13, 14, 15, 16, 17, 18, 19, 20, 21, 22, 23, 24, 25, 26] [0] rfl rfl rfl rfl (by decide +kernel)) wm_L_27 wi_X8_teach wl_X8_teach wc_X8_teach wz_X8 rfl np_X8_teach ⟨rv_le rfl, rv_le rfl⟩ ⟨rv_le rfl, rv_le rfl⟩ dL_teach_5 rfl (rv_le rfl) 1 (wx_0 ta ad μ) cl_X8 (fun E w9 h9 => ?_) (fun v9 w9 h9 => ?_)
  · obtain ⟨w8, ⟨e8, rfl⟩, rfl⟩ := h9
    obtain ⟨j, hj, rfl⟩ := rv_ans_l ha e8
    match j, hj with
  | 0, hj =>
    obtain rfl := Option.some.inj hj
    refine rv_catch (name := "java/lang/IndexOutOfBoundsException") [] ⟨0, 17, 20, 31⟩ [⟨0, 17, 24, 25⟩] rfl (fun z hz => nomatch hz) (by decide) (by decide) wk_L_31 wq_L_31 (fun q9 => ?_)
    refine rv_astore (lv2 := [(4, .ref q9), (0, .ref (ad 0)), (1, .int x1), (2, .int x2), (3, .ref oa)]) dL_teach_20 (by decide) rfl ?_
    refine rv_iconst (v := 1) dL_teach_22 (by decide) ?_
    exact rv_iret rfl dL_teach_23 (rv_le rfl) (rv_le rfl) ⟨u, rfl, rfl, fun h => absurd h (by decide)⟩
  | 1, hj =>
    obtain rfl := Option.some.inj hj
    refine rv_catch (name := "java/util/NoSuchElementException") [⟨0, 17, 20, 31⟩] ⟨0, 17, 24, 25⟩ [] rfl (fun z hz => by
      obtain rfl := List.mem_singleton.mp hz
      exact ⟨by decide, _, wk_L_31, by decide +kernel⟩) (by decide) (by decide) wk_L_25 wq_L_25 (fun q9 => ?_)
    refine rv_astore (lv2 := [(4, .ref q9), (0, .ref (ad 0)), (1, .int x1), (2, .int x2), (3, .ref oa)]) dL_teach_24 (by decide) rfl ?_
    refine rv_iconst (v := 2) dL_teach_26 (by decide) ?_
    exact rv_iret rfl dL_teach_27 (rv_le rfl) (rv_le rfl) ⟨u, rfl, rfl, fun h => absurd h (by decide)⟩
  | j + 2, hj => exact absurd hj (by simp)
  · obtain ⟨w8, ⟨t, e8, rfl, rfl⟩, rfl⟩ := h9
    obtain ⟨rfl, rfl⟩ := rv_ans_r ha e8
    refine rv_if_eq (tgt := 15) dL_teach_8 (by decide) (fun hc => ?_) (fun hc => ?_)
    · refine rv_lconst (v := 0) dL_teach_15 (by decide) ?_
      refine rv_last (ws2 := (oa, .inl (ta 2, 1, .inr (.inl (vp_updL u 0 (0))))) :: wx ta ad μ2) dL_teach_16 2 rfl 0 rfl (rv_inP (by decide)) rfl ?_
      refine rv_goto (tgt := 28) dL_teach_17 (by decide) ?_
      refine rv_iconst (v := 0) dL_teach_28 (by decide) ?_
      exact rv_iret rfl dL_teach_29 (rv_le rfl) (rv_le rfl) ⟨_, rfl, rfl, fun _ => by rw [if_pos hc]; rfl⟩
    · refine rv_lconst (v := 1) dL_teach_11 (by decide) ?_
      refine rv_goto (tgt := 16) dL_teach_12 (by decide) ?_
      refine rv_last (ws2 := (oa, .inl (ta 2, 1, .inr (.inl (vp_updL u 0 (1))))) :: wx ta ad μ2) dL_teach_16 2 rfl 0 rfl (rv_inP (by decide)) rfl ?_
      refine rv_goto (tgt := 28) dL_teach_17 (by decide) ?_
      refine rv_iconst (v := 0) dL_teach_28 (by decide) ?_
      exact rv_iret rfl dL_teach_29 (rv_le rfl) (rv_le rfl) ⟨_, rfl, rfl, fun _ => by rw [if_neg hc]; rfl⟩
theorem wcw_setRest : Cond.codeWith yL_setRest cL_setRest 4 (some .int) [(0, 9, 12, 19)] ∈ AW := AW_in 663 (by decide +kernel) (by decide +kernel)
theorem w_setRest {l : Launch} {D : va_G} {ta : Nat → ClassId} {ad : Nat → Nat} (hl9 : l.stackTraces = false) {μ μ2 : Mem} {x1 : Int32} {o : String ⊕ Int32} (hx : f_X8_setRest μ x1 = some (o, μ2)) {b : Int32} {k : Int32} (ha : rv_ans ["java/lang/IllegalArgumentException"] o b k) (oa : Nat) (u : Nat → Int64) : rv_CW l D (rv_T ta) yL_setRest cL_setRest 4 (some .int) [(0, 9, 12, 19)] 3 1 6 [.ref (ad 0), .int x1, .ref oa] ((oa, .inl (ta 2, 1, .inr (.inl (u)))) :: wx ta ad μ) (fun v w => ∃ u2 : Nat → Int64, v = some (.int k) ∧ w = (oa, .inl (ta 2, 1, .inr (.inl (u2)))) :: wx ta ad μ2 ∧ (k = 0 → u2 0 = Int32.toInt64 b)) := by
  refine rv_Wof (own := RL) (lv := [(0, .ref (ad 0)), (1, .int x1), (2, .ref oa)]) rfl (by decide) (rv_le rfl) rfl ?_
  refine rv_aload_n dL_setRest_0 rfl 2 rfl ?_
  refine rv_iconst (v := 0) dL_setRest_1 (by decide) ?_
  refine rv_aload_n dL_setRest_2 rfl 0 rfl ?_
  refine rv_iload_n dL_setRest_3 rfl 1 rfl ?_
  refine rv_xcallV (rest := [.int 0, .ref oa]) (rv_CXframe (wr := [(oa, .inl (ta 2, 1, .inr (.inl (u))))]) (ct_X8_setRest hl9 hx) [1, 2, 3, 4, 5, 6, 7, 8, 9, 10, 11, 12, 13, 14, 15, 16, 17, 18, 19, 20, 21, 22, 23, 24, 25, 26] [0] rfl rfl rfl rfl (by decide +kernel)) wm_L_33 wi_X8_setRest wl_X8_setRest wc_X8_setRest wz_X8 rfl np_X8_setRest ⟨rv_le rfl, rv_le rfl⟩ ⟨rv_le rfl, rv_le rfl⟩ dL_setRest_4 rfl (rv_le rfl) 1 (wx_0 ta ad μ) cl_X8 (fun E w9 h9 => ?_) (fun v9 w9 h9 => ?_)
  · obtain ⟨w8, ⟨e8, rfl⟩, rfl⟩ := h9
    obtain ⟨j, hj, rfl⟩ := rv_ans_l ha e8
    match j, hj with
  | 0, hj =>
    obtain rfl := Option.some.inj hj
    refine rv_catch (name := "java/lang/IllegalArgumentException") [] ⟨0, 9, 12, 19⟩ [] rfl (fun z hz => nomatch hz) (by decide) (by decide) wk_L_19 wq_L_19 (fun q9 => ?_)
    refine rv_astore_n (lv2 := [(3, .ref q9), (0, .ref (ad 0)), (1, .int x1), (2, .ref oa)]) dL_setRest_12 rfl (by decide) rfl ?_
    refine rv_iconst (v := 1) dL_setRest_13 (by decide) ?_
    exact rv_iret rfl dL_setRest_14 (rv_le rfl) (rv_le rfl) ⟨u, rfl, rfl, fun h => absurd h (by decide)⟩
  | j + 1, hj => exact absurd hj (by simp)
  · obtain ⟨w8, ⟨t, e8, rfl, rfl⟩, rfl⟩ := h9
    obtain ⟨rfl, rfl⟩ := rv_ans_r ha e8
    refine rv_i2l dL_setRest_7 rfl ?_
    refine rv_last (ws2 := (oa, .inl (ta 2, 1, .inr (.inl (vp_updL u 0 (Int32.toInt64 t))))) :: wx ta ad μ2) dL_setRest_8 2 rfl 0 rfl (rv_inP (by decide)) rfl ?_
    refine rv_goto (tgt := 15) dL_setRest_9 (by decide) ?_
    refine rv_iconst (v := 0) dL_setRest_15 (by decide) ?_
    exact rv_iret rfl dL_setRest_16 (rv_le rfl) (rv_le rfl) ⟨_, rfl, rfl, fun _ => rfl⟩
theorem wcw_setNights : Cond.codeWith yL_setNights cL_setNights 4 (some .int) [(0, 9, 12, 19)] ∈ AW := AW_in 670 (by decide +kernel) (by decide +kernel)
theorem w_setNights {l : Launch} {D : va_G} {ta : Nat → ClassId} {ad : Nat → Nat} (hl9 : l.stackTraces = false) {μ μ2 : Mem} {x1 : Int32} {o : String ⊕ Int32} (hx : f_X8_setNights μ x1 = some (o, μ2)) {b : Int32} {k : Int32} (ha : rv_ans ["java/lang/IllegalArgumentException"] o b k) (oa : Nat) (u : Nat → Int64) : rv_CW l D (rv_T ta) yL_setNights cL_setNights 4 (some .int) [(0, 9, 12, 19)] 3 1 6 [.ref (ad 0), .int x1, .ref oa] ((oa, .inl (ta 2, 1, .inr (.inl (u)))) :: wx ta ad μ) (fun v w => ∃ u2 : Nat → Int64, v = some (.int k) ∧ w = (oa, .inl (ta 2, 1, .inr (.inl (u2)))) :: wx ta ad μ2 ∧ (k = 0 → u2 0 = Int32.toInt64 b)) := by
  refine rv_Wof (own := RL) (lv := [(0, .ref (ad 0)), (1, .int x1), (2, .ref oa)]) rfl (by decide) (rv_le rfl) rfl ?_
  refine rv_aload_n dL_setNights_0 rfl 2 rfl ?_
  refine rv_iconst (v := 0) dL_setNights_1 (by decide) ?_
  refine rv_aload_n dL_setNights_2 rfl 0 rfl ?_
  refine rv_iload_n dL_setNights_3 rfl 1 rfl ?_
  refine rv_xcallV (rest := [.int 0, .ref oa]) (rv_CXframe (wr := [(oa, .inl (ta 2, 1, .inr (.inl (u))))]) (ct_X8_setNights hl9 hx) [1, 2, 3, 4, 5, 6, 7, 8, 9, 10, 11, 12, 13, 14, 15, 16, 17, 18, 19, 20, 21, 22, 23, 24, 25, 26] [0] rfl rfl rfl rfl (by decide +kernel)) wm_L_37 wi_X8_setNights wl_X8_setNights wc_X8_setNights wz_X8 rfl np_X8_setNights ⟨rv_le rfl, rv_le rfl⟩ ⟨rv_le rfl, rv_le rfl⟩ dL_setNights_4 rfl (rv_le rfl) 1 (wx_0 ta ad μ) cl_X8 (fun E w9 h9 => ?_) (fun v9 w9 h9 => ?_)
  · obtain ⟨w8, ⟨e8, rfl⟩, rfl⟩ := h9
    obtain ⟨j, hj, rfl⟩ := rv_ans_l ha e8
    match j, hj with
  | 0, hj =>
    obtain rfl := Option.some.inj hj
    refine rv_catch (name := "java/lang/IllegalArgumentException") [] ⟨0, 9, 12, 19⟩ [] rfl (fun z hz => nomatch hz) (by decide) (by decide) wk_L_19 wq_L_19 (fun q9 => ?_)
    refine rv_astore_n (lv2 := [(3, .ref q9), (0, .ref (ad 0)), (1, .int x1), (2, .ref oa)]) dL_setNights_12 rfl (by decide) rfl ?_
    refine rv_iconst (v := 1) dL_setNights_13 (by decide) ?_
    exact rv_iret rfl dL_setNights_14 (rv_le rfl) (rv_le rfl) ⟨u, rfl, rfl, fun h => absurd h (by decide)⟩
  | j + 1, hj => exact absurd hj (by simp)
  · obtain ⟨w8, ⟨t, e8, rfl, rfl⟩, rfl⟩ := h9
    obtain ⟨rfl, rfl⟩ := rv_ans_r ha e8
    refine rv_i2l dL_setNights_7 rfl ?_
    refine rv_last (ws2 := (oa, .inl (ta 2, 1, .inr (.inl (vp_updL u 0 (Int32.toInt64 t))))) :: wx ta ad μ2) dL_setNights_8 2 rfl 0 rfl (rv_inP (by decide)) rfl ?_
    refine rv_goto (tgt := 15) dL_setNights_9 (by decide) ?_
    refine rv_iconst (v := 0) dL_setNights_15 (by decide) ?_
    exact rv_iret rfl dL_setNights_16 (rv_le rfl) (rv_le rfl) ⟨_, rfl, rfl, fun _ => rfl⟩
theorem wcw_setRun : Cond.codeWith yL_setRun cL_setRun 4 (some .int) [(0, 9, 12, 19)] ∈ AW := AW_in 677 (by decide +kernel) (by decide +kernel)
theorem w_setRun {l : Launch} {D : va_G} {ta : Nat → ClassId} {ad : Nat → Nat} (hl9 : l.stackTraces = false) {μ μ2 : Mem} {x1 : Int32} {o : String ⊕ Int32} (hx : f_X8_setRun μ x1 = some (o, μ2)) {b : Int32} {k : Int32} (ha : rv_ans ["java/lang/IllegalArgumentException"] o b k) (oa : Nat) (u : Nat → Int64) : rv_CW l D (rv_T ta) yL_setRun cL_setRun 4 (some .int) [(0, 9, 12, 19)] 3 1 6 [.ref (ad 0), .int x1, .ref oa] ((oa, .inl (ta 2, 1, .inr (.inl (u)))) :: wx ta ad μ) (fun v w => ∃ u2 : Nat → Int64, v = some (.int k) ∧ w = (oa, .inl (ta 2, 1, .inr (.inl (u2)))) :: wx ta ad μ2 ∧ (k = 0 → u2 0 = Int32.toInt64 b)) := by
  refine rv_Wof (own := RL) (lv := [(0, .ref (ad 0)), (1, .int x1), (2, .ref oa)]) rfl (by decide) (rv_le rfl) rfl ?_
  refine rv_aload_n dL_setRun_0 rfl 2 rfl ?_
  refine rv_iconst (v := 0) dL_setRun_1 (by decide) ?_
  refine rv_aload_n dL_setRun_2 rfl 0 rfl ?_
  refine rv_iload_n dL_setRun_3 rfl 1 rfl ?_
  refine rv_xcallV (rest := [.int 0, .ref oa]) (rv_CXframe (wr := [(oa, .inl (ta 2, 1, .inr (.inl (u))))]) (ct_X8_setRun hl9 hx) [1, 2, 3, 4, 5, 6, 7, 8, 9, 10, 11, 12, 13, 14, 15, 16, 17, 18, 19, 20, 21, 22, 23, 24, 25, 26] [0] rfl rfl rfl rfl (by decide +kernel)) wm_L_40 wi_X8_setRun wl_X8_setRun wc_X8_setRun wz_X8 rfl np_X8_setRun ⟨rv_le rfl, rv_le rfl⟩ ⟨rv_le rfl, rv_le rfl⟩ dL_setRun_4 rfl (rv_le rfl) 1 (wx_0 ta ad μ) cl_X8 (fun E w9 h9 => ?_) (fun v9 w9 h9 => ?_)
  · obtain ⟨w8, ⟨e8, rfl⟩, rfl⟩ := h9
    obtain ⟨j, hj, rfl⟩ := rv_ans_l ha e8
    match j, hj with
  | 0, hj =>
    obtain rfl := Option.some.inj hj
    refine rv_catch (name := "java/lang/IllegalArgumentException") [] ⟨0, 9, 12, 19⟩ [] rfl (fun z hz => nomatch hz) (by decide) (by decide) wk_L_19 wq_L_19 (fun q9 => ?_)
    refine rv_astore_n (lv2 := [(3, .ref q9), (0, .ref (ad 0)), (1, .int x1), (2, .ref oa)]) dL_setRun_12 rfl (by decide) rfl ?_
    refine rv_iconst (v := 1) dL_setRun_13 (by decide) ?_
    exact rv_iret rfl dL_setRun_14 (rv_le rfl) (rv_le rfl) ⟨u, rfl, rfl, fun h => absurd h (by decide)⟩
  | j + 1, hj => exact absurd hj (by simp)
  · obtain ⟨w8, ⟨t, e8, rfl, rfl⟩, rfl⟩ := h9
    obtain ⟨rfl, rfl⟩ := rv_ans_r ha e8
    refine rv_i2l dL_setRun_7 rfl ?_
    refine rv_last (ws2 := (oa, .inl (ta 2, 1, .inr (.inl (vp_updL u 0 (Int32.toInt64 t))))) :: wx ta ad μ2) dL_setRun_8 2 rfl 0 rfl (rv_inP (by decide)) rfl ?_
    refine rv_goto (tgt := 15) dL_setRun_9 (by decide) ?_
    refine rv_iconst (v := 0) dL_setRun_15 (by decide) ?_
    exact rv_iret rfl dL_setRun_16 (rv_le rfl) (rv_le rfl) ⟨_, rfl, rfl, fun _ => rfl⟩
theorem wcw_setHours : Cond.codeWith yL_setHours cL_setHours 5 (some .int) [(0, 10, 13, 19)] ∈ AW := AW_in 684 (by decide +kernel) (by decide +kernel)
theorem w_setHours {l : Launch} {D : va_G} {ta : Nat → ClassId} {ad : Nat → Nat} (hl9 : l.stackTraces = false) {μ μ2 : Mem} {x1 : Int32} {x2 : Int32} {o : String ⊕ Int32} (hx : f_X8_setHours μ x1 x2 = some (o, μ2)) {b : Int32} {k : Int32} (ha : rv_ans ["java/lang/IllegalArgumentException"] o b k) (oa : Nat) (u : Nat → Int64) : rv_CW l D (rv_T ta) yL_setHours cL_setHours 5 (some .int) [(0, 10, 13, 19)] 3 2 12 [.ref (ad 0), .int x1, .int x2, .ref oa] ((oa, .inl (ta 2, 1, .inr (.inl (u)))) :: wx ta ad μ) (fun v w => ∃ u2 : Nat → Int64, v = some (.int k) ∧ w = (oa, .inl (ta 2, 1, .inr (.inl (u2)))) :: wx ta ad μ2 ∧ (k = 0 → u2 0 = Int32.toInt64 b)) := by
  refine rv_Wof (own := RL) (lv := [(0, .ref (ad 0)), (1, .int x1), (2, .int x2), (3, .ref oa)]) rfl (by decide) (rv_le rfl) rfl ?_
  refine rv_aload_n dL_setHours_0 rfl 3 rfl ?_
  refine rv_iconst (v := 0) dL_setHours_1 (by decide) ?_
  refine rv_aload_n dL_setHours_2 rfl 0 rfl ?_
  refine rv_iload_n dL_setHours_3 rfl 1 rfl ?_
  refine rv_iload_n dL_setHours_4 rfl 2 rfl ?_
  refine rv_xcallV (rest := [.int 0, .ref oa]) (rv_CXframe (wr := [(oa, .inl (ta 2, 1, .inr (.inl (u))))]) (ct_X8_setHours hl9 hx) [1, 2, 3, 4, 5, 6, 7, 8, 9, 10, 11, 12, 13, 14, 15, 16, 17, 18, 19, 20, 21, 22, 23, 24, 25, 26] [0] rfl rfl rfl rfl (by decide +kernel)) wm_L_43 wi_X8_setHours wl_X8_setHours wc_X8_setHours wz_X8 rfl np_X8_setHours ⟨rv_le rfl, rv_le rfl⟩ ⟨rv_le rfl, rv_le rfl⟩ dL_setHours_5 rfl (rv_le rfl) 1 (wx_0 ta ad μ) cl_X8 (fun E w9 h9 => ?_) (fun v9 w9 h9 => ?_)
  · obtain ⟨w8, ⟨e8, rfl⟩, rfl⟩ := h9
    obtain ⟨j, hj, rfl⟩ := rv_ans_l ha e8
    match j, hj with
  | 0, hj =>
    obtain rfl := Option.some.inj hj
    refine rv_catch (name := "java/lang/IllegalArgumentException") [] ⟨0, 10, 13, 19⟩ [] rfl (fun z hz => nomatch hz) (by decide) (by decide) wk_L_19 wq_L_19 (fun q9 => ?_)
    refine rv_astore (lv2 := [(4, .ref q9), (0, .ref (ad 0)), (1, .int x1), (2, .int x2), (3, .ref oa)]) dL_setHours_13 (by decide) rfl ?_
    refine rv_iconst (v := 1) dL_setHours_15 (by decide) ?_
    exact rv_iret rfl dL_setHours_16 (rv_le rfl) (rv_le rfl) ⟨u, rfl, rfl, fun h => absurd h (by decide)⟩
  | j + 1, hj => exact absurd hj (by simp)
  · obtain ⟨w8, ⟨t, e8, rfl, rfl⟩, rfl⟩ := h9
    obtain ⟨rfl, rfl⟩ := rv_ans_r ha e8
    refine rv_i2l dL_setHours_8 rfl ?_
    refine rv_last (ws2 := (oa, .inl (ta 2, 1, .inr (.inl (vp_updL u 0 (Int32.toInt64 t))))) :: wx ta ad μ2) dL_setHours_9 2 rfl 0 rfl (rv_inP (by decide)) rfl ?_
    refine rv_goto (tgt := 17) dL_setHours_10 (by decide) ?_
    refine rv_iconst (v := 0) dL_setHours_17 (by decide) ?_
    exact rv_iret rfl dL_setHours_18 (rv_le rfl) (rv_le rfl) ⟨_, rfl, rfl, fun _ => rfl⟩
theorem wcw_setDemand : Cond.codeWith yL_setDemand cL_setDemand 6 (some .int) [(0, 12, 15, 31), (0, 12, 19, 25), (0, 12, 23, 19)] ∈ AW := AW_in 691 (by decide +kernel) (by decide +kernel)
theorem w_setDemand {l : Launch} {D : va_G} {ta : Nat → ClassId} {ad : Nat → Nat} (hl9 : l.stackTraces = false) {μ μ2 : Mem} {x1 : Int32} {x2 : Int32} {x3 : Int32} {o : String ⊕ Int32} (hx : f_X8_setDemand μ x1 x2 x3 = some (o, μ2)) {b : Int32} {k : Int32} (ha : rv_ans ["java/lang/IndexOutOfBoundsException", "java/util/NoSuchElementException", "java/lang/IllegalArgumentException"] o b k) (oa : Nat) (u : Nat → Int64) : rv_CW l D (rv_T ta) yL_setDemand cL_setDemand 6 (some .int) [(0, 12, 15, 31), (0, 12, 19, 25), (0, 12, 23, 19)] 4 3 18 [.ref (ad 0), .int x1, .int x2, .int x3, .ref oa] ((oa, .inl (ta 2, 1, .inr (.inl (u)))) :: wx ta ad μ) (fun v w => ∃ u2 : Nat → Int64, v = some (.int k) ∧ w = (oa, .inl (ta 2, 1, .inr (.inl (u2)))) :: wx ta ad μ2 ∧ (k = 0 → u2 0 = Int32.toInt64 b)) := by
  refine rv_Wof (own := RL) (lv := [(0, .ref (ad 0)), (1, .int x1), (2, .int x2), (3, .int x3), (4, .ref oa)]) rfl (by decide) (rv_le rfl) rfl ?_
  refine rv_aload dL_setDemand_0 4 rfl ?_
  refine rv_iconst (v := 0) dL_setDemand_2 (by decide) ?_
  refine rv_aload_n dL_setDemand_3 rfl 0 rfl ?_
  refine rv_iload_n dL_setDemand_4 rfl 1 rfl ?_
  refine rv_iload_n dL_setDemand_5 rfl 2 rfl ?_
  refine rv_iload_n dL_setDemand_6 rfl 3 rfl ?_
  refine rv_xcallV (rest := [.int 0, .ref oa]) (rv_CXframe (wr := [(oa, .inl (ta 2, 1, .inr (.inl (u))))]) (ct_X8_setDemand hl9 hx) [1, 2, 3, 4, 5, 6, 7, 8, 9, 10, 11, 12, 13, 14, 15, 16, 17, 18, 19, 20, 21, 22, 23, 24, 25, 26] [0] rfl rfl rfl rfl (by decide +kernel)) wm_L_46 wi_X8_setDemand wl_X8_setDemand wc_X8_setDemand wz_X8 rfl np_X8_setDemand ⟨rv_le rfl, rv_le rfl⟩ ⟨rv_le rfl, rv_le rfl⟩ dL_setDemand_7 rfl (rv_le rfl) 1 (wx_0 ta ad μ) cl_X8 (fun E w9 h9 => ?_) (fun v9 w9 h9 => ?_)
  · obtain ⟨w8, ⟨e8, rfl⟩, rfl⟩ := h9
    obtain ⟨j, hj, rfl⟩ := rv_ans_l ha e8
    match j, hj with
  | 0, hj =>
    obtain rfl := Option.some.inj hj
    refine rv_catch (name := "java/lang/IndexOutOfBoundsException") [] ⟨0, 12, 15, 31⟩ [⟨0, 12, 19, 25⟩, ⟨0, 12, 23, 19⟩] rfl (fun z hz => nomatch hz) (by decide) (by decide) wk_L_31 wq_L_31 (fun q9 => ?_)
    refine rv_astore (lv2 := [(5, .ref q9), (0, .ref (ad 0)), (1, .int x1), (2, .int x2), (3, .int x3), (4, .ref oa)]) dL_setDemand_15 (by decide) rfl ?_
    refine rv_iconst (v := 1) dL_setDemand_17 (by decide) ?_
    exact rv_iret rfl dL_setDemand_18 (rv_le rfl) (rv_le rfl) ⟨u, rfl, rfl, fun h => absurd h (by decide)⟩
  | 1, hj =>
    obtain rfl := Option.some.inj hj
    refine rv_catch (name := "java/util/NoSuchElementException") [⟨0, 12, 15, 31⟩] ⟨0, 12, 19, 25⟩ [⟨0, 12, 23, 19⟩] rfl (fun z hz => by
      obtain rfl := List.mem_singleton.mp hz
      exact ⟨by decide, _, wk_L_31, by decide +kernel⟩) (by decide) (by decide) wk_L_25 wq_L_25 (fun q9 => ?_)
    refine rv_astore (lv2 := [(5, .ref q9), (0, .ref (ad 0)), (1, .int x1), (2, .int x2), (3, .int x3), (4, .ref oa)]) dL_setDemand_19 (by decide) rfl ?_
    refine rv_iconst (v := 2) dL_setDemand_21 (by decide) ?_
    exact rv_iret rfl dL_setDemand_22 (rv_le rfl) (rv_le rfl) ⟨u, rfl, rfl, fun h => absurd h (by decide)⟩
  | 2, hj =>
    obtain rfl := Option.some.inj hj
    refine rv_catch (name := "java/lang/IllegalArgumentException") [⟨0, 12, 15, 31⟩, ⟨0, 12, 19, 25⟩] ⟨0, 12, 23, 19⟩ [] rfl (fun z hz => by
      simp only [List.mem_cons, List.not_mem_nil, or_false] at hz
      rcases hz with rfl | rfl
      · exact ⟨by decide, _, wk_L_31, by decide +kernel⟩
      · exact ⟨by decide, _, wk_L_25, by decide +kernel⟩) (by decide) (by decide) wk_L_19 wq_L_19 (fun q9 => ?_)
    refine rv_astore (lv2 := [(5, .ref q9), (0, .ref (ad 0)), (1, .int x1), (2, .int x2), (3, .int x3), (4, .ref oa)]) dL_setDemand_23 (by decide) rfl ?_
    refine rv_iconst (v := 3) dL_setDemand_25 (by decide) ?_
    exact rv_iret rfl dL_setDemand_26 (rv_le rfl) (rv_le rfl) ⟨u, rfl, rfl, fun h => absurd h (by decide)⟩
  | j + 3, hj => exact absurd hj (by simp)
  · obtain ⟨w8, ⟨t, e8, rfl, rfl⟩, rfl⟩ := h9
    obtain ⟨rfl, rfl⟩ := rv_ans_r ha e8
    refine rv_i2l dL_setDemand_10 rfl ?_
    refine rv_last (ws2 := (oa, .inl (ta 2, 1, .inr (.inl (vp_updL u 0 (Int32.toInt64 t))))) :: wx ta ad μ2) dL_setDemand_11 2 rfl 0 rfl (rv_inP (by decide)) rfl ?_
    refine rv_goto (tgt := 27) dL_setDemand_12 (by decide) ?_
    refine rv_iconst (v := 0) dL_setDemand_27 (by decide) ?_
    exact rv_iret rfl dL_setDemand_28 (rv_le rfl) (rv_le rfl) ⟨_, rfl, rfl, fun _ => rfl⟩
theorem wcw_assign : Cond.codeWith yL_assign cL_assign 6 (some .int) [(0, 12, 15, 31), (0, 12, 19, 25)] ∈ AW := AW_in 707 (by decide +kernel) (by decide +kernel)
theorem w_assign {l : Launch} {D : va_G} {ta : Nat → ClassId} {ad : Nat → Nat} (hl9 : l.stackTraces = false) {μ μ2 : Mem} {x1 : Int32} {x2 : Int32} {x3 : Int32} {o : String ⊕ Int32} (hx : f_X8_assign μ x1 x2 x3 = some (o, μ2)) {b : Int32} {k : Int32} (ha : rv_ans ["java/lang/IndexOutOfBoundsException", "java/util/NoSuchElementException"] o b k) (oa : Nat) (u : Nat → Int64) : rv_CW l D (rv_T ta) yL_assign cL_assign 6 (some .int) [(0, 12, 15, 31), (0, 12, 19, 25)] 5 3 18 [.ref (ad 0), .int x1, .int x2, .int x3, .ref oa] ((oa, .inl (ta 2, 1, .inr (.inl (u)))) :: wx ta ad μ) (fun v w => ∃ u2 : Nat → Int64, v = some (.int k) ∧ w = (oa, .inl (ta 2, 1, .inr (.inl (u2)))) :: wx ta ad μ2 ∧ (k = 0 → u2 0 = Int32.toInt64 b)) := by
  refine rv_Wof (own := RL) (lv := [(0, .ref (ad 0)), (1, .int x1), (2, .int x2), (3, .int x3), (4, .ref oa)]) rfl (by decide) (rv_le rfl) rfl ?_
  refine rv_aload dL_assign_0 4 rfl ?_
  refine rv_iconst (v := 0) dL_assign_2 (by decide) ?_
  refine rv_aload_n dL_assign_3 rfl 0 rfl ?_
  refine rv_iload_n dL_assign_4 rfl 1 rfl ?_
  refine rv_iload_n dL_assign_5 rfl 2 rfl ?_
  refine rv_iload_n dL_assign_6 rfl 3 rfl ?_
  refine rv_xcallV (rest := [.int 0, .ref oa]) (rv_CXframe (wr := [(oa, .inl (ta 2, 1, .inr (.inl (u))))]) (ct_X8_assign hl9 hx) [1, 2, 3, 4, 5, 6, 7, 8, 9, 10, 11, 12, 13, 14, 15, 16, 17, 18, 19, 20, 21, 22, 23, 24, 25, 26] [0] rfl rfl rfl rfl (by decide +kernel)) wm_L_50 wi_X8_assign wl_X8_assign wc_X8_assign wz_X8 rfl np_X8_assign ⟨rv_le rfl, rv_le rfl⟩ ⟨rv_le rfl, rv_le rfl⟩ dL_assign_7 rfl (rv_le rfl) 1 (wx_0 ta ad μ) cl_X8 (fun E w9 h9 => ?_) (fun v9 w9 h9 => ?_)
  · obtain ⟨w8, ⟨e8, rfl⟩, rfl⟩ := h9
    obtain ⟨j, hj, rfl⟩ := rv_ans_l ha e8
    match j, hj with
  | 0, hj =>
    obtain rfl := Option.some.inj hj
    refine rv_catch (name := "java/lang/IndexOutOfBoundsException") [] ⟨0, 12, 15, 31⟩ [⟨0, 12, 19, 25⟩] rfl (fun z hz => nomatch hz) (by decide) (by decide) wk_L_31 wq_L_31 (fun q9 => ?_)
    refine rv_astore (lv2 := [(5, .ref q9), (0, .ref (ad 0)), (1, .int x1), (2, .int x2), (3, .int x3), (4, .ref oa)]) dL_assign_15 (by decide) rfl ?_
    refine rv_iconst (v := 1) dL_assign_17 (by decide) ?_
    exact rv_iret rfl dL_assign_18 (rv_le rfl) (rv_le rfl) ⟨u, rfl, rfl, fun h => absurd h (by decide)⟩
  | 1, hj =>
    obtain rfl := Option.some.inj hj
    refine rv_catch (name := "java/util/NoSuchElementException") [⟨0, 12, 15, 31⟩] ⟨0, 12, 19, 25⟩ [] rfl (fun z hz => by
      obtain rfl := List.mem_singleton.mp hz
      exact ⟨by decide, _, wk_L_31, by decide +kernel⟩) (by decide) (by decide) wk_L_25 wq_L_25 (fun q9 => ?_)
    refine rv_astore (lv2 := [(5, .ref q9), (0, .ref (ad 0)), (1, .int x1), (2, .int x2), (3, .int x3), (4, .ref oa)]) dL_assign_19 (by decide) rfl ?_
    refine rv_iconst (v := 2) dL_assign_21 (by decide) ?_
    exact rv_iret rfl dL_assign_22 (rv_le rfl) (rv_le rfl) ⟨u, rfl, rfl, fun h => absurd h (by decide)⟩
  | j + 2, hj => exact absurd hj (by simp)
  · obtain ⟨w8, ⟨t, e8, rfl, rfl⟩, rfl⟩ := h9
    obtain ⟨rfl, rfl⟩ := rv_ans_r ha e8
    refine rv_i2l dL_assign_10 rfl ?_
    refine rv_last (ws2 := (oa, .inl (ta 2, 1, .inr (.inl (vp_updL u 0 (Int32.toInt64 t))))) :: wx ta ad μ2) dL_assign_11 2 rfl 0 rfl (rv_inP (by decide)) rfl ?_
    refine rv_goto (tgt := 23) dL_assign_12 (by decide) ?_
    refine rv_iconst (v := 0) dL_assign_23 (by decide) ?_
    exact rv_iret rfl dL_assign_24 (rv_le rfl) (rv_le rfl) ⟨_, rfl, rfl, fun _ => rfl⟩
theorem wcw_free : Cond.codeWith yL_free cL_free 5 (some .int) [(0, 10, 13, 31), (0, 10, 17, 13)] ∈ AW := AW_in 717 (by decide +kernel) (by decide +kernel)
theorem w_free {l : Launch} {D : va_G} {ta : Nat → ClassId} {ad : Nat → Nat} (hl9 : l.stackTraces = false) {μ μ2 : Mem} {x1 : Int32} {x2 : Int32} {o : String ⊕ Int32} (hx : f_X8_free μ x1 x2 = some (o, μ2)) {b : Int32} {k : Int32} (ha : rv_ans ["java/lang/IndexOutOfBoundsException", "java/lang/IllegalStateException"] o b k) (oa : Nat) (u : Nat → Int64) : rv_CW l D (rv_T ta) yL_free cL_free 5 (some .int) [(0, 10, 13, 31), (0, 10, 17, 13)] 5 3 18 [.ref (ad 0), .int x1, .int x2, .ref oa] ((oa, .inl (ta 2, 1, .inr (.inl (u)))) :: wx ta ad μ) (fun v w => ∃ u2 : Nat → Int64, v = some (.int k) ∧ w = (oa, .inl (ta 2, 1, .inr (.inl (u2)))) :: wx ta ad μ2 ∧ (k = 0 → u2 0 = Int32.toInt64 b)) := by
  refine rv_Wof (own := RL) (lv := [(0, .ref (ad 0)), (1, .int x1), (2, .int x2), (3, .ref oa)]) rfl (by decide) (rv_le rfl) rfl ?_
  refine rv_aload_n dL_free_0 rfl 3 rfl ?_
  refine rv_iconst (v := 0) dL_free_1 (by decide) ?_
  refine rv_aload_n dL_free_2 rfl 0 rfl ?_
  refine rv_iload_n dL_free_3 rfl 1 rfl ?_
  refine rv_iload_n dL_free_4 rfl 2 rfl ?_
  refine rv_xcallV (rest := [.int 0, .ref oa]) (rv_CXframe (wr := [(oa, .inl (ta 2, 1, .inr (.inl (u))))]) (ct_X8_free hl9 hx) [1, 2, 3, 4, 5, 6, 7, 8, 9, 10, 11, 12, 13, 14, 15, 16, 17, 18, 19, 20, 21, 22, 23, 24, 25, 26] [0] rfl rfl rfl rfl (by decide +kernel)) wm_L_53 wi_X8_free wl_X8_free wc_X8_free wz_X8 rfl np_X8_free ⟨rv_le rfl, rv_le rfl⟩ ⟨rv_le rfl, rv_le rfl⟩ dL_free_5 rfl (rv_le rfl) 1 (wx_0 ta ad μ) cl_X8 (fun E w9 h9 => ?_) (fun v9 w9 h9 => ?_)
  · obtain ⟨w8, ⟨e8, rfl⟩, rfl⟩ := h9
    obtain ⟨j, hj, rfl⟩ := rv_ans_l ha e8
    match j, hj with
  | 0, hj =>
    obtain rfl := Option.some.inj hj
    refine rv_catch (name := "java/lang/IndexOutOfBoundsException") [] ⟨0, 10, 13, 31⟩ [⟨0, 10, 17, 13⟩] rfl (fun z hz => nomatch hz) (by decide) (by decide) wk_L_31 wq_L_31 (fun q9 => ?_)
    refine rv_astore (lv2 := [(4, .ref q9), (0, .ref (ad 0)), (1, .int x1), (2, .int x2), (3, .ref oa)]) dL_free_13 (by decide) rfl ?_
    refine rv_iconst (v := 1) dL_free_15 (by decide) ?_
    exact rv_iret rfl dL_free_16 (rv_le rfl) (rv_le rfl) ⟨u, rfl, rfl, fun h => absurd h (by decide)⟩
  | 1, hj =>
    obtain rfl := Option.some.inj hj
    refine rv_catch (name := "java/lang/IllegalStateException") [⟨0, 10, 13, 31⟩] ⟨0, 10, 17, 13⟩ [] rfl (fun z hz => by
      obtain rfl := List.mem_singleton.mp hz
      exact ⟨by decide, _, wk_L_31, by decide +kernel⟩) (by decide) (by decide) wk_L_13 wq_L_13 (fun q9 => ?_)
    refine rv_astore (lv2 := [(4, .ref q9), (0, .ref (ad 0)), (1, .int x1), (2, .int x2), (3, .ref oa)]) dL_free_17 (by decide) rfl ?_
    refine rv_iconst (v := 2) dL_free_19 (by decide) ?_
    exact rv_iret rfl dL_free_20 (rv_le rfl) (rv_le rfl) ⟨u, rfl, rfl, fun h => absurd h (by decide)⟩
  | j + 2, hj => exact absurd hj (by simp)
  · obtain ⟨w8, ⟨t, e8, rfl, rfl⟩, rfl⟩ := h9
    obtain ⟨rfl, rfl⟩ := rv_ans_r ha e8
    refine rv_i2l dL_free_8 rfl ?_
    refine rv_last (ws2 := (oa, .inl (ta 2, 1, .inr (.inl (vp_updL u 0 (Int32.toInt64 t))))) :: wx ta ad μ2) dL_free_9 2 rfl 0 rfl (rv_inP (by decide)) rfl ?_
    refine rv_goto (tgt := 21) dL_free_10 (by decide) ?_
    refine rv_iconst (v := 0) dL_free_21 (by decide) ?_
    exact rv_iret rfl dL_free_22 (rv_le rfl) (rv_le rfl) ⟨_, rfl, rfl, fun _ => rfl⟩
theorem wcw_setAbsent : Cond.codeWith yL_setAbsent cL_setAbsent 6 (some .int) [(0, 19, 22, 31)] ∈ AW := AW_in 725 (by decide +kernel) (by decide +kernel)
theorem w_setAbsent {l : Launch} {D : va_G} {ta : Nat → ClassId} {ad : Nat → Nat} (hl9 : l.stackTraces = false) {μ μ2 : Mem} {x1 : Int32} {x2 : Int32} {x3 : Int32} {o : String ⊕ Int32} (hx : f_X8_setAbsent μ x1 x2 x3 = some (o, μ2)) {b : Int32} {k : Int32} (ha : rv_ans ["java/lang/IndexOutOfBoundsException"] o b k) (oa : Nat) (u : Nat → Int64) : rv_CW l D (rv_T ta) yL_setAbsent cL_setAbsent 6 (some .int) [(0, 19, 22, 31)] 4 2 12 [.ref (ad 0), .int x1, .int x2, .int x3, .ref oa] ((oa, .inl (ta 2, 1, .inr (.inl (u)))) :: wx ta ad μ) (fun v w => ∃ u2 : Nat → Int64, v = some (.int k) ∧ w = (oa, .inl (ta 2, 1, .inr (.inl (u2)))) :: wx ta ad μ2 ∧ (k = 0 → u2 0 = (if b = 0 then 0 else 1))) := by
  refine rv_Wof (own := RL) (lv := [(0, .ref (ad 0)), (1, .int x1), (2, .int x2), (3, .int x3), (4, .ref oa)]) rfl (by decide) (rv_le rfl) rfl ?_
  refine rv_aload dL_setAbsent_0 4 rfl ?_
  refine rv_iconst (v := 0) dL_setAbsent_2 (by decide) ?_
  refine rv_aload_n dL_setAbsent_3 rfl 0 rfl ?_
  refine rv_iload_n dL_setAbsent_4 rfl 1 rfl ?_
  refine rv_iload_n dL_setAbsent_5 rfl 2 rfl ?_
  refine rv_iload_n dL_setAbsent_6 rfl 3 rfl ?_
  refine rv_xcallV (rest := [.int 0, .ref oa]) (rv_CXframe (wr := [(oa, .inl (ta 2, 1, .inr (.inl (u))))]) (ct_X8_setAbsent hl9 hx) [1, 2, 3, 4, 5, 6, 7, 8, 9, 10, 11, 12, 13, 14, 15, 16, 17, 18, 19, 20, 21, 22, 23, 24, 25, 26] [0] rfl rfl rfl rfl (by decide +kernel)) wm_L_56 wi_X8_setAbsent wl_X8_setAbsent wc_X8_setAbsent wz_X8 rfl np_X8_setAbsent ⟨rv_le rfl, rv_le rfl⟩ ⟨rv_le rfl, rv_le rfl⟩ dL_setAbsent_7 rfl (rv_le rfl) 1 (wx_0 ta ad μ) cl_X8 (fun E w9 h9 => ?_) (fun v9 w9 h9 => ?_)
  · obtain ⟨w8, ⟨e8, rfl⟩, rfl⟩ := h9
    obtain ⟨j, hj, rfl⟩ := rv_ans_l ha e8
    match j, hj with
  | 0, hj =>
    obtain rfl := Option.some.inj hj
    refine rv_catch (name := "java/lang/IndexOutOfBoundsException") [] ⟨0, 19, 22, 31⟩ [] rfl (fun z hz => nomatch hz) (by decide) (by decide) wk_L_31 wq_L_31 (fun q9 => ?_)
    refine rv_astore (lv2 := [(5, .ref q9), (0, .ref (ad 0)), (1, .int x1), (2, .int x2), (3, .int x3), (4, .ref oa)]) dL_setAbsent_22 (by decide) rfl ?_
    refine rv_iconst (v := 1) dL_setAbsent_24 (by decide) ?_
    exact rv_iret rfl dL_setAbsent_25 (rv_le rfl) (rv_le rfl) ⟨u, rfl, rfl, fun h => absurd h (by decide)⟩
  | j + 1, hj => exact absurd hj (by simp)
  · obtain ⟨w8, ⟨t, e8, rfl, rfl⟩, rfl⟩ := h9
    obtain ⟨rfl, rfl⟩ := rv_ans_r ha e8
    refine rv_if_eq (tgt := 17) dL_setAbsent_10 (by decide) (fun hc => ?_) (fun hc => ?_)
    · refine rv_lconst (v := 0) dL_setAbsent_17 (by decide) ?_
      refine rv_last (ws2 := (oa, .inl (ta 2, 1, .inr (.inl (vp_updL u 0 (0))))) :: wx ta ad μ2) dL_setAbsent_18 2 rfl 0 rfl (rv_inP (by decide)) rfl ?_
      refine rv_goto (tgt := 26) dL_setAbsent_19 (by decide) ?_
      refine rv_iconst (v := 0) dL_setAbsent_26 (by decide) ?_
      exact rv_iret rfl dL_setAbsent_27 (rv_le rfl) (rv_le rfl) ⟨_, rfl, rfl, fun _ => by rw [if_pos hc]; rfl⟩
    · refine rv_lconst (v := 1) dL_setAbsent_13 (by decide) ?_
      refine rv_goto (tgt := 18) dL_setAbsent_14 (by decide) ?_
      refine rv_last (ws2 := (oa, .inl (ta 2, 1, .inr (.inl (vp_updL u 0 (1))))) :: wx ta ad μ2) dL_setAbsent_18 2 rfl 0 rfl (rv_inP (by decide)) rfl ?_
      refine rv_goto (tgt := 26) dL_setAbsent_19 (by decide) ?_
      refine rv_iconst (v := 0) dL_setAbsent_26 (by decide) ?_
      exact rv_iret rfl dL_setAbsent_27 (rv_le rfl) (rv_le rfl) ⟨_, rfl, rfl, fun _ => by rw [if_neg hc]; rfl⟩
theorem wcw_shiftOf : Cond.codeWith yL_shiftOf cL_shiftOf 5 (some .int) [(0, 10, 13, 31)] ∈ AW := AW_in 737 (by decide +kernel) (by decide +kernel)
theorem w_shiftOf {l : Launch} {D : va_G} {ta : Nat → ClassId} {ad : Nat → Nat} (hl9 : l.stackTraces = false) {μ : Mem} {x1 : Int32} {x2 : Int32} {o : String ⊕ Int32} (hx : f_X8_shiftOf μ x1 x2 = some o) {b : Int32} {k : Int32} (ha : rv_ans ["java/lang/IndexOutOfBoundsException"] o b k) (oa : Nat) (u : Nat → Int64) : rv_CW l D (rv_T ta) yL_shiftOf cL_shiftOf 5 (some .int) [(0, 10, 13, 31)] 4 2 12 [.ref (ad 0), .int x1, .int x2, .ref oa] ((oa, .inl (ta 2, 1, .inr (.inl (u)))) :: wx ta ad μ) (fun v w => ∃ u2 : Nat → Int64, v = some (.int k) ∧ w = (oa, .inl (ta 2, 1, .inr (.inl (u2)))) :: wx ta ad μ ∧ (k = 0 → u2 0 = Int32.toInt64 b)) := by
  refine rv_Wof (own := RL) (lv := [(0, .ref (ad 0)), (1, .int x1), (2, .int x2), (3, .ref oa)]) rfl (by decide) (rv_le rfl) rfl ?_
  refine rv_aload_n dL_shiftOf_0 rfl 3 rfl ?_
  refine rv_iconst (v := 0) dL_shiftOf_1 (by decide) ?_
  refine rv_aload_n dL_shiftOf_2 rfl 0 rfl ?_
  refine rv_iload_n dL_shiftOf_3 rfl 1 rfl ?_
  refine rv_iload_n dL_shiftOf_4 rfl 2 rfl ?_
  refine rv_xcallV (rest := [.int 0, .ref oa]) (rv_CXframe (wr := [(oa, .inl (ta 2, 1, .inr (.inl (u))))]) (ct_X8_shiftOf hl9 hx) [1, 2, 3, 4, 5, 6, 7, 8, 9, 10, 11, 12, 13, 14, 15, 16, 17, 18, 19, 20, 21, 22, 23, 24, 25, 26] [0] rfl rfl rfl rfl (by decide +kernel)) wm_L_60 wi_X8_shiftOf wl_X8_shiftOf wc_X8_shiftOf wz_X8 rfl np_X8_shiftOf ⟨rv_le rfl, rv_le rfl⟩ ⟨rv_le rfl, rv_le rfl⟩ dL_shiftOf_5 rfl (rv_le rfl) 1 (wx_0 ta ad μ) cl_X8 (fun E w9 h9 => ?_) (fun v9 w9 h9 => ?_)
  · obtain ⟨w8, ⟨e8, rfl⟩, rfl⟩ := h9
    obtain ⟨j, hj, rfl⟩ := rv_ans_l ha e8
    match j, hj with
  | 0, hj =>
    obtain rfl := Option.some.inj hj
    refine rv_catch (name := "java/lang/IndexOutOfBoundsException") [] ⟨0, 10, 13, 31⟩ [] rfl (fun z hz => nomatch hz) (by decide) (by decide) wk_L_31 wq_L_31 (fun q9 => ?_)
    refine rv_astore (lv2 := [(4, .ref q9), (0, .ref (ad 0)), (1, .int x1), (2, .int x2), (3, .ref oa)]) dL_shiftOf_13 (by decide) rfl ?_
    refine rv_iconst (v := 1) dL_shiftOf_15 (by decide) ?_
    exact rv_iret rfl dL_shiftOf_16 (rv_le rfl) (rv_le rfl) ⟨u, rfl, rfl, fun h => absurd h (by decide)⟩
  | j + 1, hj => exact absurd hj (by simp)
  · obtain ⟨w8, ⟨t, e8, rfl, rfl⟩, rfl⟩ := h9
    obtain ⟨rfl, rfl⟩ := rv_ans_r ha e8
    refine rv_i2l dL_shiftOf_8 rfl ?_
    refine rv_last (ws2 := (oa, .inl (ta 2, 1, .inr (.inl (vp_updL u 0 (Int32.toInt64 t))))) :: wx ta ad μ) dL_shiftOf_9 2 rfl 0 rfl (rv_inP (by decide)) rfl ?_
    refine rv_goto (tgt := 17) dL_shiftOf_10 (by decide) ?_
    refine rv_iconst (v := 0) dL_shiftOf_17 (by decide) ?_
    exact rv_iret rfl dL_shiftOf_18 (rv_le rfl) (rv_le rfl) ⟨_, rfl, rfl, fun _ => rfl⟩
theorem wcw_restBefore : Cond.codeWith yL_restBefore cL_restBefore 5 (some .int) [(0, 10, 13, 31), (0, 10, 17, 25)] ∈ AW := AW_in 744 (by decide +kernel) (by decide +kernel)
theorem w_restBefore {l : Launch} {D : va_G} {ta : Nat → ClassId} {ad : Nat → Nat} (hl9 : l.stackTraces = false) {μ : Mem} {x1 : Int32} {x2 : Int32} {o : String ⊕ Int32} (hx : f_X8_restBefore μ x1 x2 = some o) {b : Int32} {k : Int32} (ha : rv_ans ["java/lang/IndexOutOfBoundsException", "java/util/NoSuchElementException"] o b k) (oa : Nat) (u : Nat → Int64) : rv_CW l D (rv_T ta) yL_restBefore cL_restBefore 5 (some .int) [(0, 10, 13, 31), (0, 10, 17, 25)] 6 3 18 [.ref (ad 0), .int x1, .int x2, .ref oa] ((oa, .inl (ta 2, 1, .inr (.inl (u)))) :: wx ta ad μ) (fun v w => ∃ u2 : Nat → Int64, v = some (.int k) ∧ w = (oa, .inl (ta 2, 1, .inr (.inl (u2)))) :: wx ta ad μ ∧ (k = 0 → u2 0 = Int32.toInt64 b)) := by
  refine rv_Wof (own := RL) (lv := [(0, .ref (ad 0)), (1, .int x1), (2, .int x2), (3, .ref oa)]) rfl (by decide) (rv_le rfl) rfl ?_
  refine rv_aload_n dL_restBefore_0 rfl 3 rfl ?_
  refine rv_iconst (v := 0) dL_restBefore_1 (by decide) ?_
  refine rv_aload_n dL_restBefore_2 rfl 0 rfl ?_
  refine rv_iload_n dL_restBefore_3 rfl 1 rfl ?_
  refine rv_iload_n dL_restBefore_4 rfl 2 rfl ?_
  refine rv_xcallV (rest := [.int 0, .ref oa]) (rv_CXframe (wr := [(oa, .inl (ta 2, 1, .inr (.inl (u))))]) (ct_X8_restBefore hl9 hx) [1, 2, 3, 4, 5, 6, 7, 8, 9, 10, 11, 12, 13, 14, 15, 16, 17, 18, 19, 20, 21, 22, 23, 24, 25, 26] [0] rfl rfl rfl rfl (by decide +kernel)) wm_L_63 wi_X8_restBefore wl_X8_restBefore wc_X8_restBefore wz_X8 rfl np_X8_restBefore ⟨rv_le rfl, rv_le rfl⟩ ⟨rv_le rfl, rv_le rfl⟩ dL_restBefore_5 rfl (rv_le rfl) 1 (wx_0 ta ad μ) cl_X8 (fun E w9 h9 => ?_) (fun v9 w9 h9 => ?_)
  · obtain ⟨w8, ⟨e8, rfl⟩, rfl⟩ := h9
    obtain ⟨j, hj, rfl⟩ := rv_ans_l ha e8
    match j, hj with
  | 0, hj =>
    obtain rfl := Option.some.inj hj
    refine rv_catch (name := "java/lang/IndexOutOfBoundsException") [] ⟨0, 10, 13, 31⟩ [⟨0, 10, 17, 25⟩] rfl (fun z hz => nomatch hz) (by decide) (by decide) wk_L_31 wq_L_31 (fun q9 => ?_)
    refine rv_astore (lv2 := [(4, .ref q9), (0, .ref (ad 0)), (1, .int x1), (2, .int x2), (3, .ref oa)]) dL_restBefore_13 (by decide) rfl ?_
    refine rv_iconst (v := 1) dL_restBefore_15 (by decide) ?_
    exact rv_iret rfl dL_restBefore_16 (rv_le rfl) (rv_le rfl) ⟨u, rfl, rfl, fun h => absurd h (by decide)⟩
  | 1, hj =>
    obtain rfl := Option.some.inj hj
    refine rv_catch (name := "java/util/NoSuchElementException") [⟨0, 10, 13, 31⟩] ⟨0, 10, 17, 25⟩ [] rfl (fun z hz => by
      obtain rfl := List.mem_singleton.mp hz
      exact ⟨by decide, _, wk_L_31, by decide +kernel⟩) (by decide) (by decide) wk_L_25 wq_L_25 (fun q9 => ?_)
    refine rv_astore (lv2 := [(4, .ref q9), (0, .ref (ad 0)), (1, .int x1), (2, .int x2), (3, .ref oa)]) dL_restBefore_17 (by decide) rfl ?_
    refine rv_iconst (v := 2) dL_restBefore_19 (by decide) ?_
    exact rv_iret rfl dL_restBefore_20 (rv_le rfl) (rv_le rfl) ⟨u, rfl, rfl, fun h => absurd h (by decide)⟩
  | j + 2, hj => exact absurd hj (by simp)
  · obtain ⟨w8, ⟨t, e8, rfl, rfl⟩, rfl⟩ := h9
    obtain ⟨rfl, rfl⟩ := rv_ans_r ha e8
    refine rv_i2l dL_restBefore_8 rfl ?_
    refine rv_last (ws2 := (oa, .inl (ta 2, 1, .inr (.inl (vp_updL u 0 (Int32.toInt64 t))))) :: wx ta ad μ) dL_restBefore_9 2 rfl 0 rfl (rv_inP (by decide)) rfl ?_
    refine rv_goto (tgt := 21) dL_restBefore_10 (by decide) ?_
    refine rv_iconst (v := 0) dL_restBefore_21 (by decide) ?_
    exact rv_iret rfl dL_restBefore_22 (rv_le rfl) (rv_le rfl) ⟨_, rfl, rfl, fun _ => rfl⟩
theorem wcw_longestNights : Cond.codeWith yL_longestNights cL_longestNights 4 (some .int) [(0, 9, 12, 31)] ∈ AW := AW_in 758 (by decide +kernel) (by decide +kernel)
theorem w_longestNights {l : Launch} {D : va_G} {ta : Nat → ClassId} {ad : Nat → Nat} (hl9 : l.stackTraces = false) {μ : Mem} {x1 : Int32} {o : String ⊕ Int32} (hx : f_X8_longestNights μ x1 = some o) {b : Int32} {k : Int32} (ha : rv_ans ["java/lang/IndexOutOfBoundsException"] o b k) (oa : Nat) (u : Nat → Int64) : rv_CW l D (rv_T ta) yL_longestNights cL_longestNights 4 (some .int) [(0, 9, 12, 31)] 6 1 6 [.ref (ad 0), .int x1, .ref oa] ((oa, .inl (ta 2, 1, .inr (.inl (u)))) :: wx ta ad μ) (fun v w => ∃ u2 : Nat → Int64, v = some (.int k) ∧ w = (oa, .inl (ta 2, 1, .inr (.inl (u2)))) :: wx ta ad μ ∧ (k = 0 → u2 0 = Int32.toInt64 b)) := by
  refine rv_Wof (own := RL) (lv := [(0, .ref (ad 0)), (1, .int x1), (2, .ref oa)]) rfl (by decide) (rv_le rfl) rfl ?_
  refine rv_aload_n dL_longestNights_0 rfl 2 rfl ?_
  refine rv_iconst (v := 0) dL_longestNights_1 (by decide) ?_
  refine rv_aload_n dL_longestNights_2 rfl 0 rfl ?_
  refine rv_iload_n dL_longestNights_3 rfl 1 rfl ?_
  refine rv_xcallV (rest := [.int 0, .ref oa]) (rv_CXframe (wr := [(oa, .inl (ta 2, 1, .inr (.inl (u))))]) (ct_X8_longestNights hl9 hx) [1, 2, 3, 4, 5, 6, 7, 8, 9, 10, 11, 12, 13, 14, 15, 16, 17, 18, 19, 20, 21, 22, 23, 24, 25, 26] [0] rfl rfl rfl rfl (by decide +kernel)) wm_L_66 wi_X8_longestNights wl_X8_longestNights wc_X8_longestNights wz_X8 rfl np_X8_longestNights ⟨rv_le rfl, rv_le rfl⟩ ⟨rv_le rfl, rv_le rfl⟩ dL_longestNights_4 rfl (rv_le rfl) 1 (wx_0 ta ad μ) cl_X8 (fun E w9 h9 => ?_) (fun v9 w9 h9 => ?_)
  · obtain ⟨w8, ⟨e8, rfl⟩, rfl⟩ := h9
    obtain ⟨j, hj, rfl⟩ := rv_ans_l ha e8
    match j, hj with
  | 0, hj =>
    obtain rfl := Option.some.inj hj
    refine rv_catch (name := "java/lang/IndexOutOfBoundsException") [] ⟨0, 9, 12, 31⟩ [] rfl (fun z hz => nomatch hz) (by decide) (by decide) wk_L_31 wq_L_31 (fun q9 => ?_)
    refine rv_astore_n (lv2 := [(3, .ref q9), (0, .ref (ad 0)), (1, .int x1), (2, .ref oa)]) dL_longestNights_12 rfl (by decide) rfl ?_
    refine rv_iconst (v := 1) dL_longestNights_13 (by decide) ?_
    exact rv_iret rfl dL_longestNights_14 (rv_le rfl) (rv_le rfl) ⟨u, rfl, rfl, fun h => absurd h (by decide)⟩
  | j + 1, hj => exact absurd hj (by simp)
  · obtain ⟨w8, ⟨t, e8, rfl, rfl⟩, rfl⟩ := h9
    obtain ⟨rfl, rfl⟩ := rv_ans_r ha e8
    refine rv_i2l dL_longestNights_7 rfl ?_
    refine rv_last (ws2 := (oa, .inl (ta 2, 1, .inr (.inl (vp_updL u 0 (Int32.toInt64 t))))) :: wx ta ad μ) dL_longestNights_8 2 rfl 0 rfl (rv_inP (by decide)) rfl ?_
    refine rv_goto (tgt := 15) dL_longestNights_9 (by decide) ?_
    refine rv_iconst (v := 0) dL_longestNights_15 (by decide) ?_
    exact rv_iret rfl dL_longestNights_16 (rv_le rfl) (rv_le rfl) ⟨_, rfl, rfl, fun _ => rfl⟩
theorem wcw_longestByRows : Cond.codeWith yL_longestByRows cL_longestByRows 4 (some .int) [(0, 9, 12, 31)] ∈ AW := AW_in 765 (by decide +kernel) (by decide +kernel)
theorem w_longestByRows {l : Launch} {D : va_G} {ta : Nat → ClassId} {ad : Nat → Nat} (hl9 : l.stackTraces = false) {μ : Mem} {x1 : Int32} {o : String ⊕ Int32} (hx : f_X8_longestByRows μ x1 = some o) {b : Int32} {k : Int32} (ha : rv_ans ["java/lang/IndexOutOfBoundsException"] o b k) (oa : Nat) (u : Nat → Int64) : rv_CW l D (rv_T ta) yL_longestByRows cL_longestByRows 4 (some .int) [(0, 9, 12, 31)] 7 1 6 [.ref (ad 0), .int x1, .ref oa] ((oa, .inl (ta 2, 1, .inr (.inl (u)))) :: wx ta ad μ) (fun v w => ∃ u2 : Nat → Int64, v = some (.int k) ∧ w = (oa, .inl (ta 2, 1, .inr (.inl (u2)))) :: wx ta ad μ ∧ (k = 0 → u2 0 = Int32.toInt64 b)) := by
  refine rv_Wof (own := RL) (lv := [(0, .ref (ad 0)), (1, .int x1), (2, .ref oa)]) rfl (by decide) (rv_le rfl) rfl ?_
  refine rv_aload_n dL_longestByRows_0 rfl 2 rfl ?_
  refine rv_iconst (v := 0) dL_longestByRows_1 (by decide) ?_
  refine rv_aload_n dL_longestByRows_2 rfl 0 rfl ?_
  refine rv_iload_n dL_longestByRows_3 rfl 1 rfl ?_
  refine rv_xcallV (rest := [.int 0, .ref oa]) (rv_CXframe (wr := [(oa, .inl (ta 2, 1, .inr (.inl (u))))]) (ct_X8_longestByRows hl9 hx) [1, 2, 3, 4, 5, 6, 7, 8, 9, 10, 11, 12, 13, 14, 15, 16, 17, 18, 19, 20, 21, 22, 23, 24, 25, 26] [0] rfl rfl rfl rfl (by decide +kernel)) wm_L_69 wi_X8_longestByRows wl_X8_longestByRows wc_X8_longestByRows wz_X8 rfl np_X8_longestByRows ⟨rv_le rfl, rv_le rfl⟩ ⟨rv_le rfl, rv_le rfl⟩ dL_longestByRows_4 rfl (rv_le rfl) 1 (wx_0 ta ad μ) cl_X8 (fun E w9 h9 => ?_) (fun v9 w9 h9 => ?_)
  · obtain ⟨w8, ⟨e8, rfl⟩, rfl⟩ := h9
    obtain ⟨j, hj, rfl⟩ := rv_ans_l ha e8
    match j, hj with
  | 0, hj =>
    obtain rfl := Option.some.inj hj
    refine rv_catch (name := "java/lang/IndexOutOfBoundsException") [] ⟨0, 9, 12, 31⟩ [] rfl (fun z hz => nomatch hz) (by decide) (by decide) wk_L_31 wq_L_31 (fun q9 => ?_)
    refine rv_astore_n (lv2 := [(3, .ref q9), (0, .ref (ad 0)), (1, .int x1), (2, .ref oa)]) dL_longestByRows_12 rfl (by decide) rfl ?_
    refine rv_iconst (v := 1) dL_longestByRows_13 (by decide) ?_
    exact rv_iret rfl dL_longestByRows_14 (rv_le rfl) (rv_le rfl) ⟨u, rfl, rfl, fun h => absurd h (by decide)⟩
  | j + 1, hj => exact absurd hj (by simp)
  · obtain ⟨w8, ⟨t, e8, rfl, rfl⟩, rfl⟩ := h9
    obtain ⟨rfl, rfl⟩ := rv_ans_r ha e8
    refine rv_i2l dL_longestByRows_7 rfl ?_
    refine rv_last (ws2 := (oa, .inl (ta 2, 1, .inr (.inl (vp_updL u 0 (Int32.toInt64 t))))) :: wx ta ad μ) dL_longestByRows_8 2 rfl 0 rfl (rv_inP (by decide)) rfl ?_
    refine rv_goto (tgt := 15) dL_longestByRows_9 (by decide) ?_
    refine rv_iconst (v := 0) dL_longestByRows_15 (by decide) ?_
    exact rv_iret rfl dL_longestByRows_16 (rv_le rfl) (rv_le rfl) ⟨_, rfl, rfl, fun _ => rfl⟩
theorem wcw_peak : Cond.codeWith yL_peak cL_peak 4 (some .int) [(0, 9, 12, 31)] ∈ AW := AW_in 772 (by decide +kernel) (by decide +kernel)
theorem w_peak {l : Launch} {D : va_G} {ta : Nat → ClassId} {ad : Nat → Nat} (hl9 : l.stackTraces = false) {μ : Mem} {x1 : Int32} {o : String ⊕ Int32} (hx : f_X8_peak μ x1 = some o) {b : Int32} {k : Int32} (ha : rv_ans ["java/lang/IndexOutOfBoundsException"] o b k) (oa : Nat) (u : Nat → Int64) : rv_CW l D (rv_T ta) yL_peak cL_peak 4 (some .int) [(0, 9, 12, 31)] 6 1 6 [.ref (ad 0), .int x1, .ref oa] ((oa, .inl (ta 2, 1, .inr (.inl (u)))) :: wx ta ad μ) (fun v w => ∃ u2 : Nat → Int64, v = some (.int k) ∧ w = (oa, .inl (ta 2, 1, .inr (.inl (u2)))) :: wx ta ad μ ∧ (k = 0 → u2 0 = Int32.toInt64 b)) := by
  refine rv_Wof (own := RL) (lv := [(0, .ref (ad 0)), (1, .int x1), (2, .ref oa)]) rfl (by decide) (rv_le rfl) rfl ?_
  refine rv_aload_n dL_peak_0 rfl 2 rfl ?_
  refine rv_iconst (v := 0) dL_peak_1 (by decide) ?_
  refine rv_aload_n dL_peak_2 rfl 0 rfl ?_
  refine rv_iload_n dL_peak_3 rfl 1 rfl ?_
  refine rv_xcallV (rest := [.int 0, .ref oa]) (rv_CXframe (wr := [(oa, .inl (ta 2, 1, .inr (.inl (u))))]) (ct_X8_peak hl9 hx) [1, 2, 3, 4, 5, 6, 7, 8, 9, 10, 11, 12, 13, 14, 15, 16, 17, 18, 19, 20, 21, 22, 23, 24, 25, 26] [0] rfl rfl rfl rfl (by decide +kernel)) wm_L_72 wi_X8_peak wl_X8_peak wc_X8_peak wz_X8 rfl np_X8_peak ⟨rv_le rfl, rv_le rfl⟩ ⟨rv_le rfl, rv_le rfl⟩ dL_peak_4 rfl (rv_le rfl) 1 (wx_0 ta ad μ) cl_X8 (fun E w9 h9 => ?_) (fun v9 w9 h9 => ?_)
  · obtain ⟨w8, ⟨e8, rfl⟩, rfl⟩ := h9
    obtain ⟨j, hj, rfl⟩ := rv_ans_l ha e8
    match j, hj with
  | 0, hj =>
    obtain rfl := Option.some.inj hj
    refine rv_catch (name := "java/lang/IndexOutOfBoundsException") [] ⟨0, 9, 12, 31⟩ [] rfl (fun z hz => nomatch hz) (by decide) (by decide) wk_L_31 wq_L_31 (fun q9 => ?_)
    refine rv_astore_n (lv2 := [(3, .ref q9), (0, .ref (ad 0)), (1, .int x1), (2, .ref oa)]) dL_peak_12 rfl (by decide) rfl ?_
    refine rv_iconst (v := 1) dL_peak_13 (by decide) ?_
    exact rv_iret rfl dL_peak_14 (rv_le rfl) (rv_le rfl) ⟨u, rfl, rfl, fun h => absurd h (by decide)⟩
  | j + 1, hj => exact absurd hj (by simp)
  · obtain ⟨w8, ⟨t, e8, rfl, rfl⟩, rfl⟩ := h9
    obtain ⟨rfl, rfl⟩ := rv_ans_r ha e8
    refine rv_i2l dL_peak_7 rfl ?_
    refine rv_last (ws2 := (oa, .inl (ta 2, 1, .inr (.inl (vp_updL u 0 (Int32.toInt64 t))))) :: wx ta ad μ) dL_peak_8 2 rfl 0 rfl (rv_inP (by decide)) rfl ?_
    refine rv_goto (tgt := 15) dL_peak_9 (by decide) ?_
    refine rv_iconst (v := 0) dL_peak_15 (by decide) ?_
    exact rv_iret rfl dL_peak_16 (rv_le rfl) (rv_le rfl) ⟨_, rfl, rfl, fun _ => rfl⟩
theorem wcw_peakByAdding : Cond.codeWith yL_peakByAdding cL_peakByAdding 4 (some .int) [(0, 9, 12, 31)] ∈ AW := AW_in 779 (by decide +kernel) (by decide +kernel)
theorem w_peakByAdding {l : Launch} {D : va_G} {ta : Nat → ClassId} {ad : Nat → Nat} (hl9 : l.stackTraces = false) {μ : Mem} {x1 : Int32} {o : String ⊕ Int32} (hx : f_X8_peakByAdding μ x1 = some o) {b : Int32} {k : Int32} (ha : rv_ans ["java/lang/IndexOutOfBoundsException"] o b k) (oa : Nat) (u : Nat → Int64) : rv_CW l D (rv_T ta) yL_peakByAdding cL_peakByAdding 4 (some .int) [(0, 9, 12, 31)] 6 1 6 [.ref (ad 0), .int x1, .ref oa] ((oa, .inl (ta 2, 1, .inr (.inl (u)))) :: wx ta ad μ) (fun v w => ∃ u2 : Nat → Int64, v = some (.int k) ∧ w = (oa, .inl (ta 2, 1, .inr (.inl (u2)))) :: wx ta ad μ ∧ (k = 0 → u2 0 = Int32.toInt64 b)) := by
  refine rv_Wof (own := RL) (lv := [(0, .ref (ad 0)), (1, .int x1), (2, .ref oa)]) rfl (by decide) (rv_le rfl) rfl ?_
  refine rv_aload_n dL_peakByAdding_0 rfl 2 rfl ?_
  refine rv_iconst (v := 0) dL_peakByAdding_1 (by decide) ?_
  refine rv_aload_n dL_peakByAdding_2 rfl 0 rfl ?_
  refine rv_iload_n dL_peakByAdding_3 rfl 1 rfl ?_
  refine rv_xcallV (rest := [.int 0, .ref oa]) (rv_CXframe (wr := [(oa, .inl (ta 2, 1, .inr (.inl (u))))]) (ct_X8_peakByAdding hl9 hx) [1, 2, 3, 4, 5, 6, 7, 8, 9, 10, 11, 12, 13, 14, 15, 16, 17, 18, 19, 20, 21, 22, 23, 24, 25, 26] [0] rfl rfl rfl rfl (by decide +kernel)) wm_L_75 wi_X8_peakByAdding wl_X8_peakByAdding wc_X8_peakByAdding wz_X8 rfl np_X8_peakByAdding ⟨rv_le rfl, rv_le rfl⟩ ⟨rv_le rfl, rv_le rfl⟩ dL_peakByAdding_4 rfl (rv_le rfl) 1 (wx_0 ta ad μ) cl_X8 (fun E w9 h9 => ?_) (fun v9 w9 h9 => ?_)
  · obtain ⟨w8, ⟨e8, rfl⟩, rfl⟩ := h9
    obtain ⟨j, hj, rfl⟩ := rv_ans_l ha e8
    match j, hj with
  | 0, hj =>
    obtain rfl := Option.some.inj hj
    refine rv_catch (name := "java/lang/IndexOutOfBoundsException") [] ⟨0, 9, 12, 31⟩ [] rfl (fun z hz => nomatch hz) (by decide) (by decide) wk_L_31 wq_L_31 (fun q9 => ?_)
    refine rv_astore_n (lv2 := [(3, .ref q9), (0, .ref (ad 0)), (1, .int x1), (2, .ref oa)]) dL_peakByAdding_12 rfl (by decide) rfl ?_
    refine rv_iconst (v := 1) dL_peakByAdding_13 (by decide) ?_
    exact rv_iret rfl dL_peakByAdding_14 (rv_le rfl) (rv_le rfl) ⟨u, rfl, rfl, fun h => absurd h (by decide)⟩
  | j + 1, hj => exact absurd hj (by simp)
  · obtain ⟨w8, ⟨t, e8, rfl, rfl⟩, rfl⟩ := h9
    obtain ⟨rfl, rfl⟩ := rv_ans_r ha e8
    refine rv_i2l dL_peakByAdding_7 rfl ?_
    refine rv_last (ws2 := (oa, .inl (ta 2, 1, .inr (.inl (vp_updL u 0 (Int32.toInt64 t))))) :: wx ta ad μ) dL_peakByAdding_8 2 rfl 0 rfl (rv_inP (by decide)) rfl ?_
    refine rv_goto (tgt := 15) dL_peakByAdding_9 (by decide) ?_
    refine rv_iconst (v := 0) dL_peakByAdding_15 (by decide) ?_
    exact rv_iret rfl dL_peakByAdding_16 (rv_le rfl) (rv_le rfl) ⟨_, rfl, rfl, fun _ => rfl⟩
theorem wcw_breachKind : Cond.codeWith yL_breachKind cL_breachKind 4 (some .int) [(0, 9, 12, 25)] ∈ AW := AW_in 786 (by decide +kernel) (by decide +kernel)
theorem w_breachKind {l : Launch} {D : va_G} {ta : Nat → ClassId} {ad : Nat → Nat} (hl9 : l.stackTraces = false) {μ μ2 : Mem} {x1 : Int32} {o : String ⊕ Int32} (hx : f_X8_breachKind μ x1 = some (o, μ2)) {b : Int32} {k : Int32} (ha : rv_ans ["java/util/NoSuchElementException"] o b k) (oa : Nat) (u : Nat → Int64) : rv_CW l D (rv_T ta) yL_breachKind cL_breachKind 4 (some .int) [(0, 9, 12, 25)] 7 4 24 [.ref (ad 0), .int x1, .ref oa] ((oa, .inl (ta 2, 1, .inr (.inl (u)))) :: wx ta ad μ) (fun v w => ∃ u2 : Nat → Int64, v = some (.int k) ∧ w = (oa, .inl (ta 2, 1, .inr (.inl (u2)))) :: wx ta ad μ2 ∧ (k = 0 → u2 0 = Int32.toInt64 b)) := by
  refine rv_Wof (own := RL) (lv := [(0, .ref (ad 0)), (1, .int x1), (2, .ref oa)]) rfl (by decide) (rv_le rfl) rfl ?_
  refine rv_aload_n dL_breachKind_0 rfl 2 rfl ?_
  refine rv_iconst (v := 0) dL_breachKind_1 (by decide) ?_
  refine rv_aload_n dL_breachKind_2 rfl 0 rfl ?_
  refine rv_iload_n dL_breachKind_3 rfl 1 rfl ?_
  refine rv_xcallV (rest := [.int 0, .ref oa]) (rv_CXframe (wr := [(oa, .inl (ta 2, 1, .inr (.inl (u))))]) (ct_X8_breachKind hl9 hx) [1, 2, 3, 4, 5, 6, 7, 8, 9, 10, 11, 12, 13, 14, 15, 16, 17, 18, 19, 20, 21, 22, 23, 24, 25, 26] [0] rfl rfl rfl rfl (by decide +kernel)) wm_L_78 wi_X8_breachKind wl_X8_breachKind wc_X8_breachKind wz_X8 rfl np_X8_breachKind ⟨rv_le rfl, rv_le rfl⟩ ⟨rv_le rfl, rv_le rfl⟩ dL_breachKind_4 rfl (rv_le rfl) 1 (wx_0 ta ad μ) cl_X8 (fun E w9 h9 => ?_) (fun v9 w9 h9 => ?_)
  · obtain ⟨w8, ⟨e8, rfl⟩, rfl⟩ := h9
    obtain ⟨j, hj, rfl⟩ := rv_ans_l ha e8
    match j, hj with
  | 0, hj =>
    obtain rfl := Option.some.inj hj
    refine rv_catch (name := "java/util/NoSuchElementException") [] ⟨0, 9, 12, 25⟩ [] rfl (fun z hz => nomatch hz) (by decide) (by decide) wk_L_25 wq_L_25 (fun q9 => ?_)
    refine rv_astore_n (lv2 := [(3, .ref q9), (0, .ref (ad 0)), (1, .int x1), (2, .ref oa)]) dL_breachKind_12 rfl (by decide) rfl ?_
    refine rv_iconst (v := 1) dL_breachKind_13 (by decide) ?_
    exact rv_iret rfl dL_breachKind_14 (rv_le rfl) (rv_le rfl) ⟨u, rfl, rfl, fun h => absurd h (by decide)⟩
  | j + 1, hj => exact absurd hj (by simp)
  · obtain ⟨w8, ⟨t, e8, rfl, rfl⟩, rfl⟩ := h9
    obtain ⟨rfl, rfl⟩ := rv_ans_r ha e8
    refine rv_i2l dL_breachKind_7 rfl ?_
    refine rv_last (ws2 := (oa, .inl (ta 2, 1, .inr (.inl (vp_updL u 0 (Int32.toInt64 t))))) :: wx ta ad μ2) dL_breachKind_8 2 rfl 0 rfl (rv_inP (by decide)) rfl ?_
    refine rv_goto (tgt := 15) dL_breachKind_9 (by decide) ?_
    refine rv_iconst (v := 0) dL_breachKind_15 (by decide) ?_
    exact rv_iret rfl dL_breachKind_16 (rv_le rfl) (rv_le rfl) ⟨_, rfl, rfl, fun _ => rfl⟩
theorem wcw_breachPerson : Cond.codeWith yL_breachPerson cL_breachPerson 4 (some .int) [(0, 9, 12, 25)] ∈ AW := AW_in 849 (by decide +kernel) (by decide +kernel)
theorem w_breachPerson {l : Launch} {D : va_G} {ta : Nat → ClassId} {ad : Nat → Nat} (hl9 : l.stackTraces = false) {μ μ2 : Mem} {x1 : Int32} {o : String ⊕ Int32} (hx : f_X8_breachPerson μ x1 = some (o, μ2)) {b : Int32} {k : Int32} (ha : rv_ans ["java/util/NoSuchElementException"] o b k) (oa : Nat) (u : Nat → Int64) : rv_CW l D (rv_T ta) yL_breachPerson cL_breachPerson 4 (some .int) [(0, 9, 12, 25)] 7 1 6 [.ref (ad 0), .int x1, .ref oa] ((oa, .inl (ta 2, 1, .inr (.inl (u)))) :: wx ta ad μ) (fun v w => ∃ u2 : Nat → Int64, v = some (.int k) ∧ w = (oa, .inl (ta 2, 1, .inr (.inl (u2)))) :: wx ta ad μ2 ∧ (k = 0 → u2 0 = Int32.toInt64 b)) := by
  refine rv_Wof (own := RL) (lv := [(0, .ref (ad 0)), (1, .int x1), (2, .ref oa)]) rfl (by decide) (rv_le rfl) rfl ?_
  refine rv_aload_n dL_breachPerson_0 rfl 2 rfl ?_
  refine rv_iconst (v := 0) dL_breachPerson_1 (by decide) ?_
  refine rv_aload_n dL_breachPerson_2 rfl 0 rfl ?_
  refine rv_iload_n dL_breachPerson_3 rfl 1 rfl ?_
  refine rv_xcallV (rest := [.int 0, .ref oa]) (rv_CXframe (wr := [(oa, .inl (ta 2, 1, .inr (.inl (u))))]) (ct_X8_breachPerson hl9 hx) [1, 2, 3, 4, 5, 6, 7, 8, 9, 10, 11, 12, 13, 14, 15, 16, 17, 18, 19, 20, 21, 22, 23, 24, 25, 26] [0] rfl rfl rfl rfl (by decide +kernel)) wm_L_82 wi_X8_breachPerson wl_X8_breachPerson wc_X8_breachPerson wz_X8 rfl np_X8_breachPerson ⟨rv_le rfl, rv_le rfl⟩ ⟨rv_le rfl, rv_le rfl⟩ dL_breachPerson_4 rfl (rv_le rfl) 1 (wx_0 ta ad μ) cl_X8 (fun E w9 h9 => ?_) (fun v9 w9 h9 => ?_)
  · obtain ⟨w8, ⟨e8, rfl⟩, rfl⟩ := h9
    obtain ⟨j, hj, rfl⟩ := rv_ans_l ha e8
    match j, hj with
  | 0, hj =>
    obtain rfl := Option.some.inj hj
    refine rv_catch (name := "java/util/NoSuchElementException") [] ⟨0, 9, 12, 25⟩ [] rfl (fun z hz => nomatch hz) (by decide) (by decide) wk_L_25 wq_L_25 (fun q9 => ?_)
    refine rv_astore_n (lv2 := [(3, .ref q9), (0, .ref (ad 0)), (1, .int x1), (2, .ref oa)]) dL_breachPerson_12 rfl (by decide) rfl ?_
    refine rv_iconst (v := 1) dL_breachPerson_13 (by decide) ?_
    exact rv_iret rfl dL_breachPerson_14 (rv_le rfl) (rv_le rfl) ⟨u, rfl, rfl, fun h => absurd h (by decide)⟩
  | j + 1, hj => exact absurd hj (by simp)
  · obtain ⟨w8, ⟨t, e8, rfl, rfl⟩, rfl⟩ := h9
    obtain ⟨rfl, rfl⟩ := rv_ans_r ha e8
    refine rv_i2l dL_breachPerson_7 rfl ?_
    refine rv_last (ws2 := (oa, .inl (ta 2, 1, .inr (.inl (vp_updL u 0 (Int32.toInt64 t))))) :: wx ta ad μ2) dL_breachPerson_8 2 rfl 0 rfl (rv_inP (by decide)) rfl ?_
    refine rv_goto (tgt := 15) dL_breachPerson_9 (by decide) ?_
    refine rv_iconst (v := 0) dL_breachPerson_15 (by decide) ?_
    exact rv_iret rfl dL_breachPerson_16 (rv_le rfl) (rv_le rfl) ⟨_, rfl, rfl, fun _ => rfl⟩
theorem wcw_breachDay : Cond.codeWith yL_breachDay cL_breachDay 4 (some .int) [(0, 9, 12, 25)] ∈ AW := AW_in 857 (by decide +kernel) (by decide +kernel)
theorem w_breachDay {l : Launch} {D : va_G} {ta : Nat → ClassId} {ad : Nat → Nat} (hl9 : l.stackTraces = false) {μ μ2 : Mem} {x1 : Int32} {o : String ⊕ Int32} (hx : f_X8_breachDay μ x1 = some (o, μ2)) {b : Int32} {k : Int32} (ha : rv_ans ["java/util/NoSuchElementException"] o b k) (oa : Nat) (u : Nat → Int64) : rv_CW l D (rv_T ta) yL_breachDay cL_breachDay 4 (some .int) [(0, 9, 12, 25)] 7 1 6 [.ref (ad 0), .int x1, .ref oa] ((oa, .inl (ta 2, 1, .inr (.inl (u)))) :: wx ta ad μ) (fun v w => ∃ u2 : Nat → Int64, v = some (.int k) ∧ w = (oa, .inl (ta 2, 1, .inr (.inl (u2)))) :: wx ta ad μ2 ∧ (k = 0 → u2 0 = Int32.toInt64 b)) := by
  refine rv_Wof (own := RL) (lv := [(0, .ref (ad 0)), (1, .int x1), (2, .ref oa)]) rfl (by decide) (rv_le rfl) rfl ?_
  refine rv_aload_n dL_breachDay_0 rfl 2 rfl ?_
  refine rv_iconst (v := 0) dL_breachDay_1 (by decide) ?_
  refine rv_aload_n dL_breachDay_2 rfl 0 rfl ?_
  refine rv_iload_n dL_breachDay_3 rfl 1 rfl ?_
  refine rv_xcallV (rest := [.int 0, .ref oa]) (rv_CXframe (wr := [(oa, .inl (ta 2, 1, .inr (.inl (u))))]) (ct_X8_breachDay hl9 hx) [1, 2, 3, 4, 5, 6, 7, 8, 9, 10, 11, 12, 13, 14, 15, 16, 17, 18, 19, 20, 21, 22, 23, 24, 25, 26] [0] rfl rfl rfl rfl (by decide +kernel)) wm_L_85 wi_X8_breachDay wl_X8_breachDay wc_X8_breachDay wz_X8 rfl np_X8_breachDay ⟨rv_le rfl, rv_le rfl⟩ ⟨rv_le rfl, rv_le rfl⟩ dL_breachDay_4 rfl (rv_le rfl) 1 (wx_0 ta ad μ) cl_X8 (fun E w9 h9 => ?_) (fun v9 w9 h9 => ?_)
  · obtain ⟨w8, ⟨e8, rfl⟩, rfl⟩ := h9
    obtain ⟨j, hj, rfl⟩ := rv_ans_l ha e8
    match j, hj with
  | 0, hj =>
    obtain rfl := Option.some.inj hj
    refine rv_catch (name := "java/util/NoSuchElementException") [] ⟨0, 9, 12, 25⟩ [] rfl (fun z hz => nomatch hz) (by decide) (by decide) wk_L_25 wq_L_25 (fun q9 => ?_)
    refine rv_astore_n (lv2 := [(3, .ref q9), (0, .ref (ad 0)), (1, .int x1), (2, .ref oa)]) dL_breachDay_12 rfl (by decide) rfl ?_
    refine rv_iconst (v := 1) dL_breachDay_13 (by decide) ?_
    exact rv_iret rfl dL_breachDay_14 (rv_le rfl) (rv_le rfl) ⟨u, rfl, rfl, fun h => absurd h (by decide)⟩
  | j + 1, hj => exact absurd hj (by simp)
  · obtain ⟨w8, ⟨t, e8, rfl, rfl⟩, rfl⟩ := h9
    obtain ⟨rfl, rfl⟩ := rv_ans_r ha e8
    refine rv_i2l dL_breachDay_7 rfl ?_
    refine rv_last (ws2 := (oa, .inl (ta 2, 1, .inr (.inl (vp_updL u 0 (Int32.toInt64 t))))) :: wx ta ad μ2) dL_breachDay_8 2 rfl 0 rfl (rv_inP (by decide)) rfl ?_
    refine rv_goto (tgt := 15) dL_breachDay_9 (by decide) ?_
    refine rv_iconst (v := 0) dL_breachDay_15 (by decide) ?_
    exact rv_iret rfl dL_breachDay_16 (rv_le rfl) (rv_le rfl) ⟨_, rfl, rfl, fun _ => rfl⟩
theorem wcw_breachShift : Cond.codeWith yL_breachShift cL_breachShift 4 (some .int) [(0, 9, 12, 25)] ∈ AW := AW_in 865 (by decide +kernel) (by decide +kernel)
theorem w_breachShift {l : Launch} {D : va_G} {ta : Nat → ClassId} {ad : Nat → Nat} (hl9 : l.stackTraces = false) {μ μ2 : Mem} {x1 : Int32} {o : String ⊕ Int32} (hx : f_X8_breachShift μ x1 = some (o, μ2)) {b : Int32} {k : Int32} (ha : rv_ans ["java/util/NoSuchElementException"] o b k) (oa : Nat) (u : Nat → Int64) : rv_CW l D (rv_T ta) yL_breachShift cL_breachShift 4 (some .int) [(0, 9, 12, 25)] 7 1 6 [.ref (ad 0), .int x1, .ref oa] ((oa, .inl (ta 2, 1, .inr (.inl (u)))) :: wx ta ad μ) (fun v w => ∃ u2 : Nat → Int64, v = some (.int k) ∧ w = (oa, .inl (ta 2, 1, .inr (.inl (u2)))) :: wx ta ad μ2 ∧ (k = 0 → u2 0 = Int32.toInt64 b)) := by
  refine rv_Wof (own := RL) (lv := [(0, .ref (ad 0)), (1, .int x1), (2, .ref oa)]) rfl (by decide) (rv_le rfl) rfl ?_
  refine rv_aload_n dL_breachShift_0 rfl 2 rfl ?_
  refine rv_iconst (v := 0) dL_breachShift_1 (by decide) ?_
  refine rv_aload_n dL_breachShift_2 rfl 0 rfl ?_
  refine rv_iload_n dL_breachShift_3 rfl 1 rfl ?_
  refine rv_xcallV (rest := [.int 0, .ref oa]) (rv_CXframe (wr := [(oa, .inl (ta 2, 1, .inr (.inl (u))))]) (ct_X8_breachShift hl9 hx) [1, 2, 3, 4, 5, 6, 7, 8, 9, 10, 11, 12, 13, 14, 15, 16, 17, 18, 19, 20, 21, 22, 23, 24, 25, 26] [0] rfl rfl rfl rfl (by decide +kernel)) wm_L_88 wi_X8_breachShift wl_X8_breachShift wc_X8_breachShift wz_X8 rfl np_X8_breachShift ⟨rv_le rfl, rv_le rfl⟩ ⟨rv_le rfl, rv_le rfl⟩ dL_breachShift_4 rfl (rv_le rfl) 1 (wx_0 ta ad μ) cl_X8 (fun E w9 h9 => ?_) (fun v9 w9 h9 => ?_)
  · obtain ⟨w8, ⟨e8, rfl⟩, rfl⟩ := h9
    obtain ⟨j, hj, rfl⟩ := rv_ans_l ha e8
    match j, hj with
  | 0, hj =>
    obtain rfl := Option.some.inj hj
    refine rv_catch (name := "java/util/NoSuchElementException") [] ⟨0, 9, 12, 25⟩ [] rfl (fun z hz => nomatch hz) (by decide) (by decide) wk_L_25 wq_L_25 (fun q9 => ?_)
    refine rv_astore_n (lv2 := [(3, .ref q9), (0, .ref (ad 0)), (1, .int x1), (2, .ref oa)]) dL_breachShift_12 rfl (by decide) rfl ?_
    refine rv_iconst (v := 1) dL_breachShift_13 (by decide) ?_
    exact rv_iret rfl dL_breachShift_14 (rv_le rfl) (rv_le rfl) ⟨u, rfl, rfl, fun h => absurd h (by decide)⟩
  | j + 1, hj => exact absurd hj (by simp)
  · obtain ⟨w8, ⟨t, e8, rfl, rfl⟩, rfl⟩ := h9
    obtain ⟨rfl, rfl⟩ := rv_ans_r ha e8
    refine rv_i2l dL_breachShift_7 rfl ?_
    refine rv_last (ws2 := (oa, .inl (ta 2, 1, .inr (.inl (vp_updL u 0 (Int32.toInt64 t))))) :: wx ta ad μ2) dL_breachShift_8 2 rfl 0 rfl (rv_inP (by decide)) rfl ?_
    refine rv_goto (tgt := 15) dL_breachShift_9 (by decide) ?_
    refine rv_iconst (v := 0) dL_breachShift_15 (by decide) ?_
    exact rv_iret rfl dL_breachShift_16 (rv_le rfl) (rv_le rfl) ⟨_, rfl, rfl, fun _ => rfl⟩
theorem wcw_mostBreaches : Cond.codeWith yL_mostBreaches cL_mostBreaches 3 (some .int) [(0, 8, 11, 25)] ∈ AW := AW_in 875 (by decide +kernel) (by decide +kernel)
theorem w_mostBreaches {l : Launch} {D : va_G} {ta : Nat → ClassId} {ad : Nat → Nat} (hl9 : l.stackTraces = false) {μ μ2 : Mem} {o : String ⊕ Int32} (hx : f_X8_mostBreaches μ = some (o, μ2)) {b : Int32} {k : Int32} (ha : rv_ans ["java/util/NoSuchElementException"] o b k) (oa : Nat) (u : Nat → Int64) : rv_CW l D (rv_T ta) yL_mostBreaches cL_mostBreaches 3 (some .int) [(0, 8, 11, 25)] 6 1 6 [.ref (ad 0), .ref oa] ((oa, .inl (ta 2, 1, .inr (.inl (u)))) :: wx ta ad μ) (fun v w => ∃ u2 : Nat → Int64, v = some (.int k) ∧ w = (oa, .inl (ta 2, 1, .inr (.inl (u2)))) :: wx ta ad μ2 ∧ (k = 0 → u2 0 = Int32.toInt64 b)) := by
  refine rv_Wof (own := RL) (lv := [(0, .ref (ad 0)), (1, .ref oa)]) rfl (by decide) (rv_le rfl) rfl ?_
  refine rv_aload_n dL_mostBreaches_0 rfl 1 rfl ?_
  refine rv_iconst (v := 0) dL_mostBreaches_1 (by decide) ?_
  refine rv_aload_n dL_mostBreaches_2 rfl 0 rfl ?_
  refine rv_xcallV (rest := [.int 0, .ref oa]) (rv_CXframe (wr := [(oa, .inl (ta 2, 1, .inr (.inl (u))))]) (ct_X8_mostBreaches hl9 hx) [1, 2, 3, 4, 5, 6, 7, 8, 9, 10, 11, 12, 13, 14, 15, 16, 17, 18, 19, 20, 21, 22, 23, 24, 25, 26] [0] rfl rfl rfl rfl (by decide +kernel)) wm_L_91 wi_X8_mostBreaches wl_X8_mostBreaches wc_X8_mostBreaches wz_X8 rfl np_X8_mostBreaches ⟨rv_le rfl, rv_le rfl⟩ ⟨rv_le rfl, rv_le rfl⟩ dL_mostBreaches_3 rfl (rv_le rfl) 1 (wx_0 ta ad μ) cl_X8 (fun E w9 h9 => ?_) (fun v9 w9 h9 => ?_)
  · obtain ⟨w8, ⟨e8, rfl⟩, rfl⟩ := h9
    obtain ⟨j, hj, rfl⟩ := rv_ans_l ha e8
    match j, hj with
  | 0, hj =>
    obtain rfl := Option.some.inj hj
    refine rv_catch (name := "java/util/NoSuchElementException") [] ⟨0, 8, 11, 25⟩ [] rfl (fun z hz => nomatch hz) (by decide) (by decide) wk_L_25 wq_L_25 (fun q9 => ?_)
    refine rv_astore_n (lv2 := [(2, .ref q9), (0, .ref (ad 0)), (1, .ref oa)]) dL_mostBreaches_11 rfl (by decide) rfl ?_
    refine rv_iconst (v := 1) dL_mostBreaches_12 (by decide) ?_
    exact rv_iret rfl dL_mostBreaches_13 (rv_le rfl) (rv_le rfl) ⟨u, rfl, rfl, fun h => absurd h (by decide)⟩
  | j + 1, hj => exact absurd hj (by simp)
  · obtain ⟨w8, ⟨t, e8, rfl, rfl⟩, rfl⟩ := h9
    obtain ⟨rfl, rfl⟩ := rv_ans_r ha e8
    refine rv_i2l dL_mostBreaches_6 rfl ?_
    refine rv_last (ws2 := (oa, .inl (ta 2, 1, .inr (.inl (vp_updL u 0 (Int32.toInt64 t))))) :: wx ta ad μ2) dL_mostBreaches_7 2 rfl 0 rfl (rv_inP (by decide)) rfl ?_
    refine rv_goto (tgt := 14) dL_mostBreaches_8 (by decide) ?_
    refine rv_iconst (v := 0) dL_mostBreaches_14 (by decide) ?_
    exact rv_iret rfl dL_mostBreaches_15 (rv_le rfl) (rv_le rfl) ⟨_, rfl, rfl, fun _ => rfl⟩
theorem wcw_swap : Cond.codeWith yL_swap cL_swap 6 (some .int) [(0, 12, 15, 31), (0, 12, 19, 19), (0, 12, 23, 97)] ∈ AW := AW_in 887 (by decide +kernel) (by decide +kernel)
theorem w_swap {l : Launch} {D : va_G} {ta : Nat → ClassId} {ad : Nat → Nat} (hl9 : l.stackTraces = false) {μ μ2 : Mem} {x1 : Int32} {x2 : Int32} {x3 : Int32} {o : String ⊕ Int32} (hx : f_X8_swap μ x1 x2 x3 = some (o, μ2)) {b : Int32} {k : Int32} (ha : rv_ans ["java/lang/IndexOutOfBoundsException", "java/lang/IllegalArgumentException", "java/lang/UnsupportedOperationException"] o b k) (oa : Nat) (u : Nat → Int64) : rv_CW l D (rv_T ta) yL_swap cL_swap 6 (some .int) [(0, 12, 15, 31), (0, 12, 19, 19), (0, 12, 23, 97)] 7 4 24 [.ref (ad 0), .int x1, .int x2, .int x3, .ref oa] ((oa, .inl (ta 2, 1, .inr (.inl (u)))) :: wx ta ad μ) (fun v w => ∃ u2 : Nat → Int64, v = some (.int k) ∧ w = (oa, .inl (ta 2, 1, .inr (.inl (u2)))) :: wx ta ad μ2 ∧ (k = 0 → u2 0 = Int32.toInt64 b)) := by
  refine rv_Wof (own := RL) (lv := [(0, .ref (ad 0)), (1, .int x1), (2, .int x2), (3, .int x3), (4, .ref oa)]) rfl (by decide) (rv_le rfl) rfl ?_
  refine rv_aload dL_swap_0 4 rfl ?_
  refine rv_iconst (v := 0) dL_swap_2 (by decide) ?_
  refine rv_aload_n dL_swap_3 rfl 0 rfl ?_
  refine rv_iload_n dL_swap_4 rfl 1 rfl ?_
  refine rv_iload_n dL_swap_5 rfl 2 rfl ?_
  refine rv_iload_n dL_swap_6 rfl 3 rfl ?_
  refine rv_xcallV (rest := [.int 0, .ref oa]) (rv_CXframe (wr := [(oa, .inl (ta 2, 1, .inr (.inl (u))))]) (ct_X8_swap hl9 hx) [1, 2, 3, 4, 5, 6, 7, 8, 9, 10, 11, 12, 13, 14, 15, 16, 17, 18, 19, 20, 21, 22, 23, 24, 25, 26] [0] rfl rfl rfl rfl (by decide +kernel)) wm_L_94 wi_X8_swap wl_X8_swap wc_X8_swap wz_X8 rfl np_X8_swap ⟨rv_le rfl, rv_le rfl⟩ ⟨rv_le rfl, rv_le rfl⟩ dL_swap_7 rfl (rv_le rfl) 1 (wx_0 ta ad μ) cl_X8 (fun E w9 h9 => ?_) (fun v9 w9 h9 => ?_)
  · obtain ⟨w8, ⟨e8, rfl⟩, rfl⟩ := h9
    obtain ⟨j, hj, rfl⟩ := rv_ans_l ha e8
    match j, hj with
  | 0, hj =>
    obtain rfl := Option.some.inj hj
    refine rv_catch (name := "java/lang/IndexOutOfBoundsException") [] ⟨0, 12, 15, 31⟩ [⟨0, 12, 19, 19⟩, ⟨0, 12, 23, 97⟩] rfl (fun z hz => nomatch hz) (by decide) (by decide) wk_L_31 wq_L_31 (fun q9 => ?_)
    refine rv_astore (lv2 := [(5, .ref q9), (0, .ref (ad 0)), (1, .int x1), (2, .int x2), (3, .int x3), (4, .ref oa)]) dL_swap_15 (by decide) rfl ?_
    refine rv_iconst (v := 1) dL_swap_17 (by decide) ?_
    exact rv_iret rfl dL_swap_18 (rv_le rfl) (rv_le rfl) ⟨u, rfl, rfl, fun h => absurd h (by decide)⟩
  | 1, hj =>
    obtain rfl := Option.some.inj hj
    refine rv_catch (name := "java/lang/IllegalArgumentException") [⟨0, 12, 15, 31⟩] ⟨0, 12, 19, 19⟩ [⟨0, 12, 23, 97⟩] rfl (fun z hz => by
      obtain rfl := List.mem_singleton.mp hz
      exact ⟨by decide, _, wk_L_31, by decide +kernel⟩) (by decide) (by decide) wk_L_19 wq_L_19 (fun q9 => ?_)
    refine rv_astore (lv2 := [(5, .ref q9), (0, .ref (ad 0)), (1, .int x1), (2, .int x2), (3, .int x3), (4, .ref oa)]) dL_swap_19 (by decide) rfl ?_
    refine rv_iconst (v := 2) dL_swap_21 (by decide) ?_
    exact rv_iret rfl dL_swap_22 (rv_le rfl) (rv_le rfl) ⟨u, rfl, rfl, fun h => absurd h (by decide)⟩
  | 2, hj =>
    obtain rfl := Option.some.inj hj
    refine rv_catch (name := "java/lang/UnsupportedOperationException") [⟨0, 12, 15, 31⟩, ⟨0, 12, 19, 19⟩] ⟨0, 12, 23, 97⟩ [] rfl (fun z hz => by
      simp only [List.mem_cons, List.not_mem_nil, or_false] at hz
      rcases hz with rfl | rfl
      · exact ⟨by decide, _, wk_L_31, by decide +kernel⟩
      · exact ⟨by decide, _, wk_L_19, by decide +kernel⟩) (by decide) (by decide) wk_L_97 wq_L_97 (fun q9 => ?_)
    refine rv_astore (lv2 := [(5, .ref q9), (0, .ref (ad 0)), (1, .int x1), (2, .int x2), (3, .int x3), (4, .ref oa)]) dL_swap_23 (by decide) rfl ?_
    refine rv_iconst (v := 3) dL_swap_25 (by decide) ?_
    exact rv_iret rfl dL_swap_26 (rv_le rfl) (rv_le rfl) ⟨u, rfl, rfl, fun h => absurd h (by decide)⟩
  | j + 3, hj => exact absurd hj (by simp)
  · obtain ⟨w8, ⟨t, e8, rfl, rfl⟩, rfl⟩ := h9
    obtain ⟨rfl, rfl⟩ := rv_ans_r ha e8
    refine rv_i2l dL_swap_10 rfl ?_
    refine rv_last (ws2 := (oa, .inl (ta 2, 1, .inr (.inl (vp_updL u 0 (Int32.toInt64 t))))) :: wx ta ad μ2) dL_swap_11 2 rfl 0 rfl (rv_inP (by decide)) rfl ?_
    refine rv_goto (tgt := 27) dL_swap_12 (by decide) ?_
    refine rv_iconst (v := 0) dL_swap_27 (by decide) ?_
    exact rv_iret rfl dL_swap_28 (rv_le rfl) (rv_le rfl) ⟨_, rfl, rfl, fun _ => rfl⟩
theorem wcw_partner : Cond.codeWith yL_partner cL_partner 5 (some .int) [(0, 10, 13, 31), (0, 10, 17, 25)] ∈ AW := AW_in 927 (by decide +kernel) (by decide +kernel)
theorem w_partner {l : Launch} {D : va_G} {ta : Nat → ClassId} {ad : Nat → Nat} (hl9 : l.stackTraces = false) {μ μ2 : Mem} {x1 : Int32} {x2 : Int32} {o : String ⊕ Int32} (hx : f_X8_partner μ x1 x2 = some (o, μ2)) {b : Int32} {k : Int32} (ha : rv_ans ["java/lang/IndexOutOfBoundsException", "java/util/NoSuchElementException"] o b k) (oa : Nat) (u : Nat → Int64) : rv_CW l D (rv_T ta) yL_partner cL_partner 5 (some .int) [(0, 10, 13, 31), (0, 10, 17, 25)] 7 3 18 [.ref (ad 0), .int x1, .int x2, .ref oa] ((oa, .inl (ta 2, 1, .inr (.inl (u)))) :: wx ta ad μ) (fun v w => ∃ u2 : Nat → Int64, v = some (.int k) ∧ w = (oa, .inl (ta 2, 1, .inr (.inl (u2)))) :: wx ta ad μ2 ∧ (k = 0 → u2 0 = Int32.toInt64 b)) := by
  refine rv_Wof (own := RL) (lv := [(0, .ref (ad 0)), (1, .int x1), (2, .int x2), (3, .ref oa)]) rfl (by decide) (rv_le rfl) rfl ?_
  refine rv_aload_n dL_partner_0 rfl 3 rfl ?_
  refine rv_iconst (v := 0) dL_partner_1 (by decide) ?_
  refine rv_aload_n dL_partner_2 rfl 0 rfl ?_
  refine rv_iload_n dL_partner_3 rfl 1 rfl ?_
  refine rv_iload_n dL_partner_4 rfl 2 rfl ?_
  refine rv_xcallV (rest := [.int 0, .ref oa]) (rv_CXframe (wr := [(oa, .inl (ta 2, 1, .inr (.inl (u))))]) (ct_X8_partner hl9 hx) [1, 2, 3, 4, 5, 6, 7, 8, 9, 10, 11, 12, 13, 14, 15, 16, 17, 18, 19, 20, 21, 22, 23, 24, 25, 26] [0] rfl rfl rfl rfl (by decide +kernel)) wm_L_99 wi_X8_partner wl_X8_partner wc_X8_partner wz_X8 rfl np_X8_partner ⟨rv_le rfl, rv_le rfl⟩ ⟨rv_le rfl, rv_le rfl⟩ dL_partner_5 rfl (rv_le rfl) 1 (wx_0 ta ad μ) cl_X8 (fun E w9 h9 => ?_) (fun v9 w9 h9 => ?_)
  · obtain ⟨w8, ⟨e8, rfl⟩, rfl⟩ := h9
    obtain ⟨j, hj, rfl⟩ := rv_ans_l ha e8
    match j, hj with
  | 0, hj =>
    obtain rfl := Option.some.inj hj
    refine rv_catch (name := "java/lang/IndexOutOfBoundsException") [] ⟨0, 10, 13, 31⟩ [⟨0, 10, 17, 25⟩] rfl (fun z hz => nomatch hz) (by decide) (by decide) wk_L_31 wq_L_31 (fun q9 => ?_)
    refine rv_astore (lv2 := [(4, .ref q9), (0, .ref (ad 0)), (1, .int x1), (2, .int x2), (3, .ref oa)]) dL_partner_13 (by decide) rfl ?_
    refine rv_iconst (v := 1) dL_partner_15 (by decide) ?_
    exact rv_iret rfl dL_partner_16 (rv_le rfl) (rv_le rfl) ⟨u, rfl, rfl, fun h => absurd h (by decide)⟩
  | 1, hj =>
    obtain rfl := Option.some.inj hj
    refine rv_catch (name := "java/util/NoSuchElementException") [⟨0, 10, 13, 31⟩] ⟨0, 10, 17, 25⟩ [] rfl (fun z hz => by
      obtain rfl := List.mem_singleton.mp hz
      exact ⟨by decide, _, wk_L_31, by decide +kernel⟩) (by decide) (by decide) wk_L_25 wq_L_25 (fun q9 => ?_)
    refine rv_astore (lv2 := [(4, .ref q9), (0, .ref (ad 0)), (1, .int x1), (2, .int x2), (3, .ref oa)]) dL_partner_17 (by decide) rfl ?_
    refine rv_iconst (v := 2) dL_partner_19 (by decide) ?_
    exact rv_iret rfl dL_partner_20 (rv_le rfl) (rv_le rfl) ⟨u, rfl, rfl, fun h => absurd h (by decide)⟩
  | j + 2, hj => exact absurd hj (by simp)
  · obtain ⟨w8, ⟨t, e8, rfl, rfl⟩, rfl⟩ := h9
    obtain ⟨rfl, rfl⟩ := rv_ans_r ha e8
    refine rv_i2l dL_partner_8 rfl ?_
    refine rv_last (ws2 := (oa, .inl (ta 2, 1, .inr (.inl (vp_updL u 0 (Int32.toInt64 t))))) :: wx ta ad μ2) dL_partner_9 2 rfl 0 rfl (rv_inP (by decide)) rfl ?_
    refine rv_goto (tgt := 21) dL_partner_10 (by decide) ?_
    refine rv_iconst (v := 0) dL_partner_21 (by decide) ?_
    exact rv_iret rfl dL_partner_22 (rv_le rfl) (rv_le rfl) ⟨_, rfl, rfl, fun _ => rfl⟩
theorem wcw_leastChanges : Cond.codeWith yL_leastChanges cL_leastChanges 3 (some .int) [(0, 8, 11, 25)] ∈ AW := AW_in 935 (by decide +kernel) (by decide +kernel)
theorem w_leastChanges {l : Launch} {D : va_G} {ta : Nat → ClassId} {ad : Nat → Nat} (hl9 : l.stackTraces = false) {μ μ2 : Mem} {o : String ⊕ Int32} (hx : f_X8_leastChanges μ = some (o, μ2)) {b : Int32} {k : Int32} (ha : rv_ans ["java/util/NoSuchElementException"] o b k) (oa : Nat) (u : Nat → Int64) : rv_CW l D (rv_T ta) yL_leastChanges cL_leastChanges 3 (some .int) [(0, 8, 11, 25)] 8 1 6 [.ref (ad 0), .ref oa] ((oa, .inl (ta 2, 1, .inr (.inl (u)))) :: wx ta ad μ) (fun v w => ∃ u2 : Nat → Int64, v = some (.int k) ∧ w = (oa, .inl (ta 2, 1, .inr (.inl (u2)))) :: wx ta ad μ2 ∧ (k = 0 → u2 0 = Int32.toInt64 b)) := by
  refine rv_Wof (own := RL) (lv := [(0, .ref (ad 0)), (1, .ref oa)]) rfl (by decide) (rv_le rfl) rfl ?_
  refine rv_aload_n dL_leastChanges_0 rfl 1 rfl ?_
  refine rv_iconst (v := 0) dL_leastChanges_1 (by decide) ?_
  refine rv_aload_n dL_leastChanges_2 rfl 0 rfl ?_
  refine rv_xcallV (rest := [.int 0, .ref oa]) (rv_CXframe (wr := [(oa, .inl (ta 2, 1, .inr (.inl (u))))]) (ct_X8_leastChanges hl9 hx) [1, 2, 3, 4, 5, 6, 7, 8, 9, 10, 11, 12, 13, 14, 15, 16, 17, 18, 19, 20, 21, 22, 23, 24, 25, 26] [0] rfl rfl rfl rfl (by decide +kernel)) wm_L_102 wi_X8_leastChanges wl_X8_leastChanges wc_X8_leastChanges wz_X8 rfl np_X8_leastChanges ⟨rv_le rfl, rv_le rfl⟩ ⟨rv_le rfl, rv_le rfl⟩ dL_leastChanges_3 rfl (rv_le rfl) 1 (wx_0 ta ad μ) cl_X8 (fun E w9 h9 => ?_) (fun v9 w9 h9 => ?_)
  · obtain ⟨w8, ⟨e8, rfl⟩, rfl⟩ := h9
    obtain ⟨j, hj, rfl⟩ := rv_ans_l ha e8
    match j, hj with
  | 0, hj =>
    obtain rfl := Option.some.inj hj
    refine rv_catch (name := "java/util/NoSuchElementException") [] ⟨0, 8, 11, 25⟩ [] rfl (fun z hz => nomatch hz) (by decide) (by decide) wk_L_25 wq_L_25 (fun q9 => ?_)
    refine rv_astore_n (lv2 := [(2, .ref q9), (0, .ref (ad 0)), (1, .ref oa)]) dL_leastChanges_11 rfl (by decide) rfl ?_
    refine rv_iconst (v := 1) dL_leastChanges_12 (by decide) ?_
    exact rv_iret rfl dL_leastChanges_13 (rv_le rfl) (rv_le rfl) ⟨u, rfl, rfl, fun h => absurd h (by decide)⟩
  | j + 1, hj => exact absurd hj (by simp)
  · obtain ⟨w8, ⟨t, e8, rfl, rfl⟩, rfl⟩ := h9
    obtain ⟨rfl, rfl⟩ := rv_ans_r ha e8
    refine rv_i2l dL_leastChanges_6 rfl ?_
    refine rv_last (ws2 := (oa, .inl (ta 2, 1, .inr (.inl (vp_updL u 0 (Int32.toInt64 t))))) :: wx ta ad μ2) dL_leastChanges_7 2 rfl 0 rfl (rv_inP (by decide)) rfl ?_
    refine rv_goto (tgt := 14) dL_leastChanges_8 (by decide) ?_
    refine rv_iconst (v := 0) dL_leastChanges_14 (by decide) ?_
    exact rv_iret rfl dL_leastChanges_15 (rv_le rfl) (rv_le rfl) ⟨_, rfl, rfl, fun _ => rfl⟩
theorem wcw_leastByTrial : Cond.codeWith yL_leastByTrial cL_leastByTrial 3 (some .int) [(0, 8, 11, 25)] ∈ AW := AW_in 946 (by decide +kernel) (by decide +kernel)
theorem w_leastByTrial {l : Launch} {D : va_G} {ta : Nat → ClassId} {ad : Nat → Nat} (hl9 : l.stackTraces = false) {μ μ2 : Mem} {o : String ⊕ Int32} (hx : f_X8_leastByTrial μ = some (o, μ2)) {b : Int32} {k : Int32} (ha : rv_ans ["java/util/NoSuchElementException"] o b k) (oa : Nat) (u : Nat → Int64) : rv_CW l D (rv_T ta) yL_leastByTrial cL_leastByTrial 3 (some .int) [(0, 8, 11, 25)] 8 1 6 [.ref (ad 0), .ref oa] ((oa, .inl (ta 2, 1, .inr (.inl (u)))) :: wx ta ad μ) (fun v w => ∃ u2 : Nat → Int64, v = some (.int k) ∧ w = (oa, .inl (ta 2, 1, .inr (.inl (u2)))) :: wx ta ad μ2 ∧ (k = 0 → u2 0 = Int32.toInt64 b)) := by
  refine rv_Wof (own := RL) (lv := [(0, .ref (ad 0)), (1, .ref oa)]) rfl (by decide) (rv_le rfl) rfl ?_
  refine rv_aload_n dL_leastByTrial_0 rfl 1 rfl ?_
  refine rv_iconst (v := 0) dL_leastByTrial_1 (by decide) ?_
  refine rv_aload_n dL_leastByTrial_2 rfl 0 rfl ?_
  refine rv_xcallV (rest := [.int 0, .ref oa]) (rv_CXframe (wr := [(oa, .inl (ta 2, 1, .inr (.inl (u))))]) (ct_X8_leastByTrial hl9 hx) [1, 2, 3, 4, 5, 6, 7, 8, 9, 10, 11, 12, 13, 14, 15, 16, 17, 18, 19, 20, 21, 22, 23, 24, 25, 26] [0] rfl rfl rfl rfl (by decide +kernel)) wm_L_105 wi_X8_leastByTrial wl_X8_leastByTrial wc_X8_leastByTrial wz_X8 rfl np_X8_leastByTrial ⟨rv_le rfl, rv_le rfl⟩ ⟨rv_le rfl, rv_le rfl⟩ dL_leastByTrial_3 rfl (rv_le rfl) 1 (wx_0 ta ad μ) cl_X8 (fun E w9 h9 => ?_) (fun v9 w9 h9 => ?_)
  · obtain ⟨w8, ⟨e8, rfl⟩, rfl⟩ := h9
    obtain ⟨j, hj, rfl⟩ := rv_ans_l ha e8
    match j, hj with
  | 0, hj =>
    obtain rfl := Option.some.inj hj
    refine rv_catch (name := "java/util/NoSuchElementException") [] ⟨0, 8, 11, 25⟩ [] rfl (fun z hz => nomatch hz) (by decide) (by decide) wk_L_25 wq_L_25 (fun q9 => ?_)
    refine rv_astore_n (lv2 := [(2, .ref q9), (0, .ref (ad 0)), (1, .ref oa)]) dL_leastByTrial_11 rfl (by decide) rfl ?_
    refine rv_iconst (v := 1) dL_leastByTrial_12 (by decide) ?_
    exact rv_iret rfl dL_leastByTrial_13 (rv_le rfl) (rv_le rfl) ⟨u, rfl, rfl, fun h => absurd h (by decide)⟩
  | j + 1, hj => exact absurd hj (by simp)
  · obtain ⟨w8, ⟨t, e8, rfl, rfl⟩, rfl⟩ := h9
    obtain ⟨rfl, rfl⟩ := rv_ans_r ha e8
    refine rv_i2l dL_leastByTrial_6 rfl ?_
    refine rv_last (ws2 := (oa, .inl (ta 2, 1, .inr (.inl (vp_updL u 0 (Int32.toInt64 t))))) :: wx ta ad μ2) dL_leastByTrial_7 2 rfl 0 rfl (rv_inP (by decide)) rfl ?_
    refine rv_goto (tgt := 14) dL_leastByTrial_8 (by decide) ?_
    refine rv_iconst (v := 0) dL_leastByTrial_14 (by decide) ?_
    exact rv_iret rfl dL_leastByTrial_15 (rv_le rfl) (rv_le rfl) ⟨_, rfl, rfl, fun _ => rfl⟩
theorem wcw_mend : Cond.codeWith yL_mend cL_mend 3 (some .int) [(0, 8, 11, 25)] ∈ AW := AW_in 953 (by decide +kernel) (by decide +kernel)
theorem w_mend {l : Launch} {D : va_G} {ta : Nat → ClassId} {ad : Nat → Nat} (hl9 : l.stackTraces = false) {μ μ2 : Mem} {o : String ⊕ Int32} (hx : f_X8_mend μ = some (o, μ2)) {b : Int32} {k : Int32} (ha : rv_ans ["java/util/NoSuchElementException"] o b k) (oa : Nat) (u : Nat → Int64) : rv_CW l D (rv_T ta) yL_mend cL_mend 3 (some .int) [(0, 8, 11, 25)] 8 1 6 [.ref (ad 0), .ref oa] ((oa, .inl (ta 2, 1, .inr (.inl (u)))) :: wx ta ad μ) (fun v w => ∃ u2 : Nat → Int64, v = some (.int k) ∧ w = (oa, .inl (ta 2, 1, .inr (.inl (u2)))) :: wx ta ad μ2 ∧ (k = 0 → u2 0 = Int32.toInt64 b)) := by
  refine rv_Wof (own := RL) (lv := [(0, .ref (ad 0)), (1, .ref oa)]) rfl (by decide) (rv_le rfl) rfl ?_
  refine rv_aload_n dL_mend_0 rfl 1 rfl ?_
  refine rv_iconst (v := 0) dL_mend_1 (by decide) ?_
  refine rv_aload_n dL_mend_2 rfl 0 rfl ?_
  refine rv_xcallV (rest := [.int 0, .ref oa]) (rv_CXframe (wr := [(oa, .inl (ta 2, 1, .inr (.inl (u))))]) (ct_X8_mend hl9 hx) [1, 2, 3, 4, 5, 6, 7, 8, 9, 10, 11, 12, 13, 14, 15, 16, 17, 18, 19, 20, 21, 22, 23, 24, 25, 26] [0] rfl rfl rfl rfl (by decide +kernel)) wm_L_108 wi_X8_mend wl_X8_mend wc_X8_mend wz_X8 rfl np_X8_mend ⟨rv_le rfl, rv_le rfl⟩ ⟨rv_le rfl, rv_le rfl⟩ dL_mend_3 rfl (rv_le rfl) 1 (wx_0 ta ad μ) cl_X8 (fun E w9 h9 => ?_) (fun v9 w9 h9 => ?_)
  · obtain ⟨w8, ⟨e8, rfl⟩, rfl⟩ := h9
    obtain ⟨j, hj, rfl⟩ := rv_ans_l ha e8
    match j, hj with
  | 0, hj =>
    obtain rfl := Option.some.inj hj
    refine rv_catch (name := "java/util/NoSuchElementException") [] ⟨0, 8, 11, 25⟩ [] rfl (fun z hz => nomatch hz) (by decide) (by decide) wk_L_25 wq_L_25 (fun q9 => ?_)
    refine rv_astore_n (lv2 := [(2, .ref q9), (0, .ref (ad 0)), (1, .ref oa)]) dL_mend_11 rfl (by decide) rfl ?_
    refine rv_iconst (v := 1) dL_mend_12 (by decide) ?_
    exact rv_iret rfl dL_mend_13 (rv_le rfl) (rv_le rfl) ⟨u, rfl, rfl, fun h => absurd h (by decide)⟩
  | j + 1, hj => exact absurd hj (by simp)
  · obtain ⟨w8, ⟨t, e8, rfl, rfl⟩, rfl⟩ := h9
    obtain ⟨rfl, rfl⟩ := rv_ans_r ha e8
    refine rv_i2l dL_mend_6 rfl ?_
    refine rv_last (ws2 := (oa, .inl (ta 2, 1, .inr (.inl (vp_updL u 0 (Int32.toInt64 t))))) :: wx ta ad μ2) dL_mend_7 2 rfl 0 rfl (rv_inP (by decide)) rfl ?_
    refine rv_goto (tgt := 14) dL_mend_8 (by decide) ?_
    refine rv_iconst (v := 0) dL_mend_14 (by decide) ?_
    exact rv_iret rfl dL_mend_15 (rv_le rfl) (rv_le rfl) ⟨_, rfl, rfl, fun _ => rfl⟩
theorem wcw_changedCell : Cond.codeWith yL_changedCell cL_changedCell 4 (some .int) [(0, 9, 12, 25)] ∈ AW := AW_in 969 (by decide +kernel) (by decide +kernel)
theorem w_changedCell {l : Launch} {D : va_G} {ta : Nat → ClassId} {ad : Nat → Nat} (hl9 : l.stackTraces = false) {μ : Mem} {x1 : Int32} {o : String ⊕ Int32} (hx : f_X8_changedCell μ x1 = some o) {b : Int32} {k : Int32} (ha : rv_ans ["java/util/NoSuchElementException"] o b k) (oa : Nat) (u : Nat → Int64) : rv_CW l D (rv_T ta) yL_changedCell cL_changedCell 4 (some .int) [(0, 9, 12, 25)] 3 1 6 [.ref (ad 0), .int x1, .ref oa] ((oa, .inl (ta 2, 1, .inr (.inl (u)))) :: wx ta ad μ) (fun v w => ∃ u2 : Nat → Int64, v = some (.int k) ∧ w = (oa, .inl (ta 2, 1, .inr (.inl (u2)))) :: wx ta ad μ ∧ (k = 0 → u2 0 = Int32.toInt64 b)) := by
  refine rv_Wof (own := RL) (lv := [(0, .ref (ad 0)), (1, .int x1), (2, .ref oa)]) rfl (by decide) (rv_le rfl) rfl ?_
  refine rv_aload_n dL_changedCell_0 rfl 2 rfl ?_
  refine rv_iconst (v := 0) dL_changedCell_1 (by decide) ?_
  refine rv_aload_n dL_changedCell_2 rfl 0 rfl ?_
  refine rv_iload_n dL_changedCell_3 rfl 1 rfl ?_
  refine rv_xcallV (rest := [.int 0, .ref oa]) (rv_CXframe (wr := [(oa, .inl (ta 2, 1, .inr (.inl (u))))]) (ct_X8_changedCell hl9 hx) [1, 2, 3, 4, 5, 6, 7, 8, 9, 10, 11, 12, 13, 14, 15, 16, 17, 18, 19, 20, 21, 22, 23, 24, 25, 26] [0] rfl rfl rfl rfl (by decide +kernel)) wm_L_111 wi_X8_changedCell wl_X8_changedCell wc_X8_changedCell wz_X8 rfl np_X8_changedCell ⟨rv_le rfl, rv_le rfl⟩ ⟨rv_le rfl, rv_le rfl⟩ dL_changedCell_4 rfl (rv_le rfl) 1 (wx_0 ta ad μ) cl_X8 (fun E w9 h9 => ?_) (fun v9 w9 h9 => ?_)
  · obtain ⟨w8, ⟨e8, rfl⟩, rfl⟩ := h9
    obtain ⟨j, hj, rfl⟩ := rv_ans_l ha e8
    match j, hj with
  | 0, hj =>
    obtain rfl := Option.some.inj hj
    refine rv_catch (name := "java/util/NoSuchElementException") [] ⟨0, 9, 12, 25⟩ [] rfl (fun z hz => nomatch hz) (by decide) (by decide) wk_L_25 wq_L_25 (fun q9 => ?_)
    refine rv_astore_n (lv2 := [(3, .ref q9), (0, .ref (ad 0)), (1, .int x1), (2, .ref oa)]) dL_changedCell_12 rfl (by decide) rfl ?_
    refine rv_iconst (v := 1) dL_changedCell_13 (by decide) ?_
    exact rv_iret rfl dL_changedCell_14 (rv_le rfl) (rv_le rfl) ⟨u, rfl, rfl, fun h => absurd h (by decide)⟩
  | j + 1, hj => exact absurd hj (by simp)
  · obtain ⟨w8, ⟨t, e8, rfl, rfl⟩, rfl⟩ := h9
    obtain ⟨rfl, rfl⟩ := rv_ans_r ha e8
    refine rv_i2l dL_changedCell_7 rfl ?_
    refine rv_last (ws2 := (oa, .inl (ta 2, 1, .inr (.inl (vp_updL u 0 (Int32.toInt64 t))))) :: wx ta ad μ) dL_changedCell_8 2 rfl 0 rfl (rv_inP (by decide)) rfl ?_
    refine rv_goto (tgt := 15) dL_changedCell_9 (by decide) ?_
    refine rv_iconst (v := 0) dL_changedCell_15 (by decide) ?_
    exact rv_iret rfl dL_changedCell_16 (rv_le rfl) (rv_le rfl) ⟨_, rfl, rfl, fun _ => rfl⟩
theorem wcw_changedValue : Cond.codeWith yL_changedValue cL_changedValue 4 (some .int) [(0, 9, 12, 25)] ∈ AW := AW_in 981 (by decide +kernel) (by decide +kernel)
theorem w_changedValue {l : Launch} {D : va_G} {ta : Nat → ClassId} {ad : Nat → Nat} (hl9 : l.stackTraces = false) {μ : Mem} {x1 : Int32} {o : String ⊕ Int32} (hx : f_X8_changedValue μ x1 = some o) {b : Int32} {k : Int32} (ha : rv_ans ["java/util/NoSuchElementException"] o b k) (oa : Nat) (u : Nat → Int64) : rv_CW l D (rv_T ta) yL_changedValue cL_changedValue 4 (some .int) [(0, 9, 12, 25)] 3 1 6 [.ref (ad 0), .int x1, .ref oa] ((oa, .inl (ta 2, 1, .inr (.inl (u)))) :: wx ta ad μ) (fun v w => ∃ u2 : Nat → Int64, v = some (.int k) ∧ w = (oa, .inl (ta 2, 1, .inr (.inl (u2)))) :: wx ta ad μ ∧ (k = 0 → u2 0 = Int32.toInt64 b)) := by
  refine rv_Wof (own := RL) (lv := [(0, .ref (ad 0)), (1, .int x1), (2, .ref oa)]) rfl (by decide) (rv_le rfl) rfl ?_
  refine rv_aload_n dL_changedValue_0 rfl 2 rfl ?_
  refine rv_iconst (v := 0) dL_changedValue_1 (by decide) ?_
  refine rv_aload_n dL_changedValue_2 rfl 0 rfl ?_
  refine rv_iload_n dL_changedValue_3 rfl 1 rfl ?_
  refine rv_xcallV (rest := [.int 0, .ref oa]) (rv_CXframe (wr := [(oa, .inl (ta 2, 1, .inr (.inl (u))))]) (ct_X8_changedValue hl9 hx) [1, 2, 3, 4, 5, 6, 7, 8, 9, 10, 11, 12, 13, 14, 15, 16, 17, 18, 19, 20, 21, 22, 23, 24, 25, 26] [0] rfl rfl rfl rfl (by decide +kernel)) wm_L_114 wi_X8_changedValue wl_X8_changedValue wc_X8_changedValue wz_X8 rfl np_X8_changedValue ⟨rv_le rfl, rv_le rfl⟩ ⟨rv_le rfl, rv_le rfl⟩ dL_changedValue_4 rfl (rv_le rfl) 1 (wx_0 ta ad μ) cl_X8 (fun E w9 h9 => ?_) (fun v9 w9 h9 => ?_)
  · obtain ⟨w8, ⟨e8, rfl⟩, rfl⟩ := h9
    obtain ⟨j, hj, rfl⟩ := rv_ans_l ha e8
    match j, hj with
  | 0, hj =>
    obtain rfl := Option.some.inj hj
    refine rv_catch (name := "java/util/NoSuchElementException") [] ⟨0, 9, 12, 25⟩ [] rfl (fun z hz => nomatch hz) (by decide) (by decide) wk_L_25 wq_L_25 (fun q9 => ?_)
    refine rv_astore_n (lv2 := [(3, .ref q9), (0, .ref (ad 0)), (1, .int x1), (2, .ref oa)]) dL_changedValue_12 rfl (by decide) rfl ?_
    refine rv_iconst (v := 1) dL_changedValue_13 (by decide) ?_
    exact rv_iret rfl dL_changedValue_14 (rv_le rfl) (rv_le rfl) ⟨u, rfl, rfl, fun h => absurd h (by decide)⟩
  | j + 1, hj => exact absurd hj (by simp)
  · obtain ⟨w8, ⟨t, e8, rfl, rfl⟩, rfl⟩ := h9
    obtain ⟨rfl, rfl⟩ := rv_ans_r ha e8
    refine rv_i2l dL_changedValue_7 rfl ?_
    refine rv_last (ws2 := (oa, .inl (ta 2, 1, .inr (.inl (vp_updL u 0 (Int32.toInt64 t))))) :: wx ta ad μ) dL_changedValue_8 2 rfl 0 rfl (rv_inP (by decide)) rfl ?_
    refine rv_goto (tgt := 15) dL_changedValue_9 (by decide) ?_
    refine rv_iconst (v := 0) dL_changedValue_15 (by decide) ?_
    exact rv_iret rfl dL_changedValue_16 (rv_le rfl) (rv_le rfl) ⟨_, rfl, rfl, fun _ => rfl⟩
theorem wcw_workShare : Cond.codeWith yL_workShare cL_workShare 4 (some .int) [(0, 9, 12, 31)] ∈ AW := AW_in 988 (by decide +kernel) (by decide +kernel)
theorem w_workShare {l : Launch} {D : va_G} {ta : Nat → ClassId} {ad : Nat → Nat} (hl9 : l.stackTraces = false) {μ : Mem} {x1 : Int32} {o : String ⊕ UInt32} (hx : f_X8_workShare μ x1 = some o) {b : UInt32} {k : Int32} (ha : rv_ans ["java/lang/IndexOutOfBoundsException"] o b k) (hn : ∀ t, o = .inr t → rv_nn64 (FP.f2d t) = true) (oa : Nat) (u : Nat → UInt64) : rv_CW l D (rv_T ta) yL_workShare cL_workShare 4 (some .int) [(0, 9, 12, 31)] 4 1 6 [.ref (ad 0), .int x1, .ref oa] ((oa, .inl (ta 4, 1, .inr (.inr (.inr (.inl (u)))))) :: wx ta ad μ) (fun v w => ∃ u2 : Nat → UInt64, v = some (.int k) ∧ w = (oa, .inl (ta 4, 1, .inr (.inr (.inr (.inl (u2)))))) :: wx ta ad μ ∧ (k = 0 → u2 0 = FP.f2d b)) := by
  refine rv_Wof (own := RL) (lv := [(0, .ref (ad 0)), (1, .int x1), (2, .ref oa)]) rfl (by decide) (rv_le rfl) rfl ?_
  refine rv_aload_n dL_workShare_0 rfl 2 rfl ?_
  refine rv_iconst (v := 0) dL_workShare_1 (by decide) ?_
  refine rv_aload_n dL_workShare_2 rfl 0 rfl ?_
  refine rv_iload_n dL_workShare_3 rfl 1 rfl ?_
  refine rv_xcallV (rest := [.int 0, .ref oa]) (rv_CXframe (wr := [(oa, .inl (ta 4, 1, .inr (.inr (.inr (.inl (u))))))]) (ct_X8_workShare hl9 hx) [1, 2, 3, 4, 5, 6, 7, 8, 9, 10, 11, 12, 13, 14, 15, 16, 17, 18, 19, 20, 21, 22, 23, 24, 25, 26] [0] rfl rfl rfl rfl (by decide +kernel)) wm_L_117 wi_X8_workShare wl_X8_workShare wc_X8_workShare wz_X8 rfl np_X8_workShare ⟨rv_le rfl, rv_le rfl⟩ ⟨rv_le rfl, rv_le rfl⟩ dL_workShare_4 rfl (rv_le rfl) 1 (wx_0 ta ad μ) cl_X8 (fun E w9 h9 => ?_) (fun v9 w9 h9 => ?_)
  · obtain ⟨w8, ⟨e8, rfl⟩, rfl⟩ := h9
    obtain ⟨j, hj, rfl⟩ := rv_ans_l ha e8
    match j, hj with
  | 0, hj =>
    obtain rfl := Option.some.inj hj
    refine rv_catch (name := "java/lang/IndexOutOfBoundsException") [] ⟨0, 9, 12, 31⟩ [] rfl (fun z hz => nomatch hz) (by decide) (by decide) wk_L_31 wq_L_31 (fun q9 => ?_)
    refine rv_astore_n (lv2 := [(3, .ref q9), (0, .ref (ad 0)), (1, .int x1), (2, .ref oa)]) dL_workShare_12 rfl (by decide) rfl ?_
    refine rv_iconst (v := 1) dL_workShare_13 (by decide) ?_
    exact rv_iret rfl dL_workShare_14 (rv_le rfl) (rv_le rfl) ⟨u, rfl, rfl, fun h => absurd h (by decide)⟩
  | j + 1, hj => exact absurd hj (by simp)
  · obtain ⟨w8, ⟨t, e8, rfl, rfl⟩, rfl⟩ := h9
    obtain ⟨rfl, rfl⟩ := rv_ans_r ha e8
    refine rv_f2d dL_workShare_7 (rv_nn64P (hn t e8)) ?_
    refine rv_dast (ws2 := (oa, .inl (ta 4, 1, .inr (.inr (.inr (.inl (vf_upd u 0 (FP.f2d t))))))) :: wx ta ad μ) dL_workShare_8 4 rfl 0 rfl (rv_inP (by decide)) rfl ?_
    refine rv_goto (tgt := 15) dL_workShare_9 (by decide) ?_
    refine rv_iconst (v := 0) dL_workShare_15 (by decide) ?_
    exact rv_iret rfl dL_workShare_16 (rv_le rfl) (rv_le rfl) ⟨_, rfl, rfl, fun _ => rfl⟩
theorem wcw_meanRest : Cond.codeWith yL_meanRest cL_meanRest 4 (some .int) [(0, 8, 11, 31), (0, 8, 14, 125)] ∈ AW := AW_in 996 (by decide +kernel) (by decide +kernel)
theorem w_meanRest {l : Launch} {D : va_G} {ta : Nat → ClassId} {ad : Nat → Nat} (hl9 : l.stackTraces = false) {μ : Mem} {x1 : Int32} {o : String ⊕ UInt64} (hx : f_X8_meanRest μ x1 = some o) {b : UInt64} {k : Int32} (ha : rv_ans ["java/lang/IndexOutOfBoundsException", "java/lang/ArithmeticException"] o b k) (oa : Nat) (u : Nat → UInt64) : rv_CW l D (rv_T ta) yL_meanRest cL_meanRest 4 (some .int) [(0, 8, 11, 31), (0, 8, 14, 125)] 6 2 12 [.ref (ad 0), .int x1, .ref oa] ((oa, .inl (ta 4, 1, .inr (.inr (.inr (.inl (u)))))) :: wx ta ad μ) (fun v w => ∃ u2 : Nat → UInt64, v = some (.int k) ∧ w = (oa, .inl (ta 4, 1, .inr (.inr (.inr (.inl (u2)))))) :: wx ta ad μ ∧ (k = 0 → u2 0 = b)) := by
  refine rv_Wof (own := RL) (lv := [(0, .ref (ad 0)), (1, .int x1), (2, .ref oa)]) rfl (by decide) (rv_le rfl) rfl ?_
  refine rv_aload_n dL_meanRest_0 rfl 2 rfl ?_
  refine rv_iconst (v := 0) dL_meanRest_1 (by decide) ?_
  refine rv_aload_n dL_meanRest_2 rfl 0 rfl ?_
  refine rv_iload_n dL_meanRest_3 rfl 1 rfl ?_
  refine rv_xcallV (rest := [.int 0, .ref oa]) (rv_CXframe (wr := [(oa, .inl (ta 4, 1, .inr (.inr (.inr (.inl (u))))))]) (ct_X8_meanRest hl9 hx) [1, 2, 3, 4, 5, 6, 7, 8, 9, 10, 11, 12, 13, 14, 15, 16, 17, 18, 19, 20, 21, 22, 23, 24, 25, 26] [0] rfl rfl rfl rfl (by decide +kernel)) wm_L_121 wi_X8_meanRest wl_X8_meanRest wc_X8_meanRest wz_X8 rfl np_X8_meanRest ⟨rv_le rfl, rv_le rfl⟩ ⟨rv_le rfl, rv_le rfl⟩ dL_meanRest_4 rfl (rv_le rfl) 1 (wx_0 ta ad μ) cl_X8 (fun E w9 h9 => ?_) (fun v9 w9 h9 => ?_)
  · obtain ⟨w8, ⟨e8, rfl⟩, rfl⟩ := h9
    obtain ⟨j, hj, rfl⟩ := rv_ans_l ha e8
    match j, hj with
  | 0, hj =>
    obtain rfl := Option.some.inj hj
    refine rv_catch (name := "java/lang/IndexOutOfBoundsException") [] ⟨0, 8, 11, 31⟩ [⟨0, 8, 14, 125⟩] rfl (fun z hz => nomatch hz) (by decide) (by decide) wk_L_31 wq_L_31 (fun q9 => ?_)
    refine rv_astore_n (lv2 := [(3, .ref q9), (0, .ref (ad 0)), (1, .int x1), (2, .ref oa)]) dL_meanRest_11 rfl (by decide) rfl ?_
    refine rv_iconst (v := 1) dL_meanRest_12 (by decide) ?_
    exact rv_iret rfl dL_meanRest_13 (rv_le rfl) (rv_le rfl) ⟨u, rfl, rfl, fun h => absurd h (by decide)⟩
  | 1, hj =>
    obtain rfl := Option.some.inj hj
    refine rv_catch (name := "java/lang/ArithmeticException") [⟨0, 8, 11, 31⟩] ⟨0, 8, 14, 125⟩ [] rfl (fun z hz => by
      obtain rfl := List.mem_singleton.mp hz
      exact ⟨by decide, _, wk_L_31, by decide +kernel⟩) (by decide) (by decide) wk_L_125 wq_L_125 (fun q9 => ?_)
    refine rv_astore_n (lv2 := [(3, .ref q9), (0, .ref (ad 0)), (1, .int x1), (2, .ref oa)]) dL_meanRest_14 rfl (by decide) rfl ?_
    refine rv_iconst (v := 2) dL_meanRest_15 (by decide) ?_
    exact rv_iret rfl dL_meanRest_16 (rv_le rfl) (rv_le rfl) ⟨u, rfl, rfl, fun h => absurd h (by decide)⟩
  | j + 2, hj => exact absurd hj (by simp)
  · obtain ⟨w8, ⟨t, e8, rfl, rfl⟩, rfl⟩ := h9
    obtain ⟨rfl, rfl⟩ := rv_ans_r ha e8
    refine rv_dast (ws2 := (oa, .inl (ta 4, 1, .inr (.inr (.inr (.inl (vf_upd u 0 (t))))))) :: wx ta ad μ) dL_meanRest_7 4 rfl 0 rfl (rv_inP (by decide)) rfl ?_
    refine rv_goto (tgt := 17) dL_meanRest_8 (by decide) ?_
    refine rv_iconst (v := 0) dL_meanRest_17 (by decide) ?_
    exact rv_iret rfl dL_meanRest_18 (rv_le rfl) (rv_le rfl) ⟨_, rfl, rfl, fun _ => rfl⟩
