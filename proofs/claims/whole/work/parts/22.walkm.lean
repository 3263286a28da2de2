/-! the walks: each contract out of its mirrored function, printed by gen.py -/
theorem ct_X9_thrown {l : Launch} {D : va_G} {ta : Nat → ClassId} {ad : Nat → Nat} {μ : Mem} {r : Int32} (h : f_X9_thrown μ = some r) : rv_C l D (rv_T ta) yX9_thrown cX9_thrown 1 (some .int) 1 0 0 [.ref (ad 0)] (wm ta ad μ) (rv_F (rv_vI r) (wm ta ad μ)) := by
  refine rv_Cof2 (own := RX9) (lv := [(0, .ref (ad 0))]) rfl (by decide) (rv_le rfl) rfl ?_
  unfold f_X9_thrown at h
  refine rv_aload_n dX9_thrown_0 rfl 0 rfl ?_
  refine gf_X9_73 dX9_thrown_1 0 (wm_0 ta ad μ) rfl ?_
  obtain rfl := Option.some.inj h
  exact rv_iret rfl dX9_thrown_4 (rv_le rfl) (rv_le rfl) ⟨rfl, rfl⟩
theorem ct_X9_in {l : Launch} {D : va_G} {ta : Nat → ClassId} {ws : va_W} {x0 : Int32} {x1 : Int32} {x2 : Int32} {r : Int32} (h : f_X9_in x0 x1 x2 = some r) : rv_C l D (rv_T ta) yX9_in cX9_in 3 (some .boolean) 1 0 0 [.int x0, .int x1, .int x2] ws (rv_F (rv_vI r) ws) := by
  refine rv_Cof2 (own := RX9) (lv := [(0, .int x0), (1, .int x1), (2, .int x2)]) rfl (by decide) (rv_le rfl) rfl ?_
  unfold f_X9_in at h
  refine rv_iload_n dX9_in_0 rfl 0 rfl ?_
  refine rv_iload_n dX9_in_1 rfl 1 rfl ?_
  refine rv_icmp_lt (tgt := 14) dX9_in_2 (by decide) (fun hc1 => ?_) (fun hc1 => ?_)
  · replace h := rv_ift hc1 h
    refine rv_iconst (v := 0) dX9_in_14 (by decide) ?_
    obtain rfl := Option.some.inj h
    exact rv_zret rfl rfl dX9_in_15 (rv_le rfl) (rv_le rfl) ⟨rfl, rfl⟩
  · replace h := rv_iff hc1 h
    refine rv_iload_n dX9_in_5 rfl 0 rfl ?_
    refine rv_iload_n dX9_in_6 rfl 2 rfl ?_
    refine rv_icmp_gt (tgt := 14) dX9_in_7 (by decide) (fun hc2 => ?_) (fun hc2 => ?_)
    · replace h := rv_ift hc2 h
      refine rv_iconst (v := 0) dX9_in_14 (by decide) ?_
      obtain rfl := Option.some.inj h
      exact rv_zret rfl rfl dX9_in_15 (rv_le rfl) (rv_le rfl) ⟨rfl, rfl⟩
    · replace h := rv_iff hc2 h
      refine rv_iconst (v := 1) dX9_in_10 (by decide) ?_
      refine rv_goto (tgt := 15) dX9_in_11 (by decide) ?_
      obtain rfl := Option.some.inj h
      exact rv_zret rfl rfl dX9_in_15 (rv_le rfl) (rv_le rfl) ⟨rfl, rfl⟩
theorem ct_X9_goesOn {l : Launch} {D : va_G} {ta : Nat → ClassId} {ad : Nat → Nat} {μ : Mem} {x1 : Int32} {r : (Int32) × Mem} (h : f_X9_goesOn μ x1 = some r) : rv_C l D (rv_T ta) yX9_goesOn cX9_goesOn 2 (some .boolean) 1 0 0 [.ref (ad 0), .int x1] (wm ta ad μ) (rv_F (rv_vI r.1) (wm ta ad r.2)) := by
  refine rv_Cof2 (own := RX9) (lv := [(0, .ref (ad 0)), (1, .int x1)]) rfl (by decide) (rv_le rfl) rfl ?_
  unfold f_X9_goesOn at h
  refine rv_aload_n dX9_goesOn_0 rfl 0 rfl ?_
  refine rv_iload_n dX9_goesOn_1 rfl 1 rfl ?_
  refine pf_X9_73 dX9_goesOn_2 0 (wm_0 ta ad μ) (rv_le rfl) (wm_f0_0 ta ad μ x1) ?_
  refine rv_iload_n dX9_goesOn_5 rfl 1 rfl ?_
  refine rv_if_ne (tgt := 13) dX9_goesOn_6 (by decide) (fun hc1 => ?_) (fun hc1 => ?_)
  · replace h := rv_iff hc1 h
    refine rv_iconst (v := 0) dX9_goesOn_13 (by decide) ?_
    obtain rfl := Option.some.inj h
    exact rv_zret rfl rfl dX9_goesOn_14 (rv_le rfl) (rv_le rfl) ⟨rfl, rfl⟩
  · replace h := rv_ift hc1 h
    refine rv_iconst (v := 1) dX9_goesOn_9 (by decide) ?_
    refine rv_goto (tgt := 14) dX9_goesOn_10 (by decide) ?_
    obtain rfl := Option.some.inj h
    exact rv_zret rfl rfl dX9_goesOn_14 (rv_le rfl) (rv_le rfl) ⟨rfl, rfl⟩
theorem ct_X9_isPerson {l : Launch} {D : va_G} {ta : Nat → ClassId} {ad : Nat → Nat} {μ : Mem} {x1 : Int32} {r : Int32} (h : f_X9_isPerson μ x1 = some r) : rv_C l D (rv_T ta) yX9_isPerson cX9_isPerson 2 (some .boolean) 2 0 0 [.ref (ad 0), .int x1] (wm ta ad μ) (rv_F (rv_vI r) (wm ta ad μ)) := by
  refine rv_Cof2 (own := RX9) (lv := [(0, .ref (ad 0)), (1, .int x1)]) rfl (by decide) (rv_le rfl) rfl ?_
  unfold f_X9_isPerson at h
  refine rv_iload_n dX9_isPerson_0 rfl 1 rfl ?_
  refine rv_iconst (v := 0) dX9_isPerson_1 (by decide) ?_
  refine rv_aload_n dX9_isPerson_2 rfl 0 rfl ?_
  refine gf_X9_76 dX9_isPerson_3 0 (wm_0 ta ad μ) rfl ?_
  refine rv_iconst (v := 1) dX9_isPerson_6 (by decide) ?_
  refine rv_isub dX9_isPerson_7 ?_
  obtain ⟨r1, hr1, h⟩ := rv_bind h
  refine rv_callS1 (rest := []) (ct_X9_in hr1) wm_X9_79 ws_X9_in wc_X9_in wz_X9 np_X9_in dX9_isPerson_8 rfl ⟨rv_le rfl, rv_le rfl⟩ ⟨rv_le rfl, rv_le rfl⟩ (rv_le rfl) ?_
  obtain ⟨hi2, h⟩ := rv_ifn h
  obtain rfl := Option.some.inj h
  exact rv_zret rfl (rv_bzP hi2) dX9_isPerson_11 (rv_le rfl) (rv_le rfl) ⟨rfl, rfl⟩
theorem ct_X9_isDay {l : Launch} {D : va_G} {ta : Nat → ClassId} {ws : va_W} {x0 : Int32} {r : Int32} (h : f_X9_isDay x0 = some r) : rv_C l D (rv_T ta) yX9_isDay cX9_isDay 1 (some .boolean) 2 0 0 [.int x0] ws (rv_F (rv_vI r) ws) := by
  refine rv_Cof2 (own := RX9) (lv := [(0, .int x0)]) rfl (by decide) (rv_le rfl) rfl ?_
  unfold f_X9_isDay at h
  refine rv_iload_n dX9_isDay_0 rfl 0 rfl ?_
  refine rv_iconst (v := 0) dX9_isDay_1 (by decide) ?_
  refine rv_bipush (v := 7) dX9_isDay_2 (by decide) ?_
  obtain ⟨r1, hr1, h⟩ := rv_bind h
  refine rv_callS1 (rest := []) (ct_X9_in hr1) wm_X9_79 ws_X9_in wc_X9_in wz_X9 np_X9_in dX9_isDay_4 rfl ⟨rv_le rfl, rv_le rfl⟩ ⟨rv_le rfl, rv_le rfl⟩ (rv_le rfl) ?_
  obtain ⟨hi2, h⟩ := rv_ifn h
  obtain rfl := Option.some.inj h
  exact rv_zret rfl (rv_bzP hi2) dX9_isDay_7 (rv_le rfl) (rv_le rfl) ⟨rfl, rfl⟩
theorem ct_X9_isShift {l : Launch} {D : va_G} {ta : Nat → ClassId} {ad : Nat → Nat} {μ : Mem} {x1 : Int32} {r : Int32} (h : f_X9_isShift μ x1 = some r) : rv_C l D (rv_T ta) yX9_isShift cX9_isShift 2 (some .boolean) 2 0 0 [.ref (ad 0), .int x1] (wm ta ad μ) (rv_F (rv_vI r) (wm ta ad μ)) := by
  refine rv_Cof2 (own := RX9) (lv := [(0, .ref (ad 0)), (1, .int x1)]) rfl (by decide) (rv_le rfl) rfl ?_
  unfold f_X9_isShift at h
  refine rv_iload_n dX9_isShift_0 rfl 1 rfl ?_
  refine rv_iconst (v := 0) dX9_isShift_1 (by decide) ?_
  refine rv_aload_n dX9_isShift_2 rfl 0 rfl ?_
  refine gf_X9_83 dX9_isShift_3 0 (wm_0 ta ad μ) rfl ?_
  refine rv_iconst (v := 1) dX9_isShift_6 (by decide) ?_
  refine rv_isub dX9_isShift_7 ?_
  obtain ⟨r1, hr1, h⟩ := rv_bind h
  refine rv_callS1 (rest := []) (ct_X9_in hr1) wm_X9_79 ws_X9_in wc_X9_in wz_X9 np_X9_in dX9_isShift_8 rfl ⟨rv_le rfl, rv_le rfl⟩ ⟨rv_le rfl, rv_le rfl⟩ (rv_le rfl) ?_
  obtain ⟨hi2, h⟩ := rv_ifn h
  obtain rfl := Option.some.inj h
  exact rv_zret rfl (rv_bzP hi2) dX9_isShift_11 (rv_le rfl) (rv_le rfl) ⟨rfl, rfl⟩
theorem ct_X9_at {l : Launch} {D : va_G} {ta : Nat → ClassId} {ad : Nat → Nat} {μ : Mem} {x1 : Int32} {x2 : Int32} {r : Int32} (h : f_X9_at μ x1 x2 = some r) : rv_C l D (rv_T ta) yX9_at cX9_at 3 (some .int) 1 0 0 [.ref (ad 0), .int x1, .int x2] (wm ta ad μ) (rv_F (rv_vI r) (wm ta ad μ)) := by
  refine rv_Cof2 (own := RX9) (lv := [(0, .ref (ad 0)), (1, .int x1), (2, .int x2)]) rfl (by decide) (rv_le rfl) rfl ?_
  unfold f_X9_at at h
  refine rv_aload_n dX9_at_0 rfl 0 rfl ?_
  refine gf_X9_16 dX9_at_1 0 (wm_0 ta ad μ) rfl ?_
  refine rv_bipush (v := 8) dX9_at_4 (by decide) ?_
  refine rv_iload_n dX9_at_6 rfl 1 rfl ?_
  refine rv_imul dX9_at_7 ?_
  refine rv_iload_n dX9_at_8 rfl 2 rfl ?_
  refine rv_iadd dX9_at_9 ?_
  obtain ⟨hi1, h⟩ := rv_ifn h
  refine rv_iald dX9_at_10 0 rfl 3 (wm_3 ta ad μ) (rv_inP hi1) ?_
  obtain rfl := Option.some.inj h
  exact rv_iret rfl dX9_at_11 (rv_le rfl) (rv_le rfl) ⟨rfl, rfl⟩
theorem ct_X9_isNightShift {l : Launch} {D : va_G} {ta : Nat → ClassId} {ad : Nat → Nat} {μ : Mem} {x1 : Int32} {r : Int32} (h : f_X9_isNightShift μ x1 = some r) : rv_C l D (rv_T ta) yX9_isNightShift cX9_isNightShift 2 (some .boolean) 1 0 0 [.ref (ad 0), .int x1] (wm ta ad μ) (rv_F (rv_vI r) (wm ta ad μ)) := by
  refine rv_Cof2 (own := RX9) (lv := [(0, .ref (ad 0)), (1, .int x1)]) rfl (by decide) (rv_le rfl) rfl ?_
  unfold f_X9_isNightShift at h
  refine rv_aload_n dX9_isNightShift_0 rfl 0 rfl ?_
  refine gf_X9_9 dX9_isNightShift_1 0 (wm_0 ta ad μ) rfl ?_
  refine rv_iload_n dX9_isNightShift_4 rfl 1 rfl ?_
  obtain ⟨hi1, h⟩ := rv_ifn h
  refine rv_iald dX9_isNightShift_5 0 rfl 1 (wm_1 ta ad μ) (rv_inP hi1) ?_
  refine rv_aload_n dX9_isNightShift_6 rfl 0 rfl ?_
  refine gf_X9_13 dX9_isNightShift_7 0 (wm_0 ta ad μ) rfl ?_
  refine rv_iload_n dX9_isNightShift_10 rfl 1 rfl ?_
  obtain ⟨hi2, h⟩ := rv_ifn h
  refine rv_iald dX9_isNightShift_11 0 rfl 2 (wm_2 ta ad μ) (rv_inP hi2) ?_
  refine rv_iadd dX9_isNightShift_12 ?_
  refine rv_sipush (v := 1620) dX9_isNightShift_13 (by decide) ?_
  refine rv_icmp_le (tgt := 23) dX9_isNightShift_16 (by decide) (fun hc3 => ?_) (fun hc3 => ?_)
  · replace h := rv_ift hc3 h
    refine rv_iconst (v := 0) dX9_isNightShift_23 (by decide) ?_
    obtain rfl := Option.some.inj h
    exact rv_zret rfl rfl dX9_isNightShift_24 (rv_le rfl) (rv_le rfl) ⟨rfl, rfl⟩
  · replace h := rv_iff hc3 h
    refine rv_iconst (v := 1) dX9_isNightShift_19 (by decide) ?_
    refine rv_goto (tgt := 24) dX9_isNightShift_20 (by decide) ?_
    obtain rfl := Option.some.inj h
    exact rv_zret rfl rfl dX9_isNightShift_24 (rv_le rfl) (rv_le rfl) ⟨rfl, rfl⟩
theorem vB_X9_lastBefore_4 {l : Launch} {D : va_G} {ta : Nat → ClassId} {ad : Nat → Nat} {μ : Mem} {x1 : Int32} {k4 : Int32 → Option (Int32)} (hk4 : ∀ {x3 : Int32} {r : Int32}, k4 x3 = some r → rv_V l D (rv_T ta) RX9 cX9_lastBefore 4 (some .int) ("", []) (rv_rm 2 0 0) (rv_M D (rv_F (rv_vI r) (wm ta ad μ)) 0 0) 0 0 (wm ta ad μ) 4 [(0, .ref (ad 0)), (1, .int x1), (3, .int x3)] []) {x3 : Int32} {r : Int32} (h : B_X9_lastBefore_4 μ x1 k4 x3 = some r) : rv_V l D (rv_T ta) RX9 cX9_lastBefore 4 (some .int) ("", []) (rv_rm 2 0 0) (rv_M D (rv_F (rv_vI r) (wm ta ad μ)) 0 0) 0 0 (wm ta ad μ) 4 [(0, .ref (ad 0)), (1, .int x1), (3, .int x3)] [] := by
  unfold B_X9_lastBefore_4 at h
  refine rv_iload_n dX9_lastBefore_4 rfl 2 rfl ?_
  refine rv_if_lt (tgt := 24) dX9_lastBefore_5 (by decide) (fun hc1 => ?_) (fun hc1 => ?_)
  · replace h := rv_ift hc1 h
    refine rv_iload_n dX9_lastBefore_24 rfl 2 rfl ?_
    obtain rfl := Option.some.inj h
    exact rv_iret rfl dX9_lastBefore_25 (rv_le rfl) (rv_le rfl) ⟨rfl, rfl⟩
  · replace h := rv_iff hc1 h
    refine rv_aload_n dX9_lastBefore_8 rfl 0 rfl ?_
    refine rv_iload_n dX9_lastBefore_9 rfl 1 rfl ?_
    refine rv_iload_n dX9_lastBefore_10 rfl 2 rfl ?_
    obtain ⟨r2, hr2, h⟩ := rv_bind h
    refine rv_callV1 (rest := []) (ct_X9_at hr2) wm_X9_86 wi_X9_at wl_X9_at wc_X9_at wz_X9 rfl np_X9_at dX9_lastBefore_11 rfl ⟨rv_le rfl, rv_le rfl⟩ ⟨rv_le rfl, rv_le rfl⟩ (rv_le rfl) 0 (wm_0 ta ad μ) cl_X9 ?_
    refine rv_iconst (v := (-1)) dX9_lastBefore_14 (by decide) ?_
    refine rv_icmp_ne (tgt := 24) dX9_lastBefore_15 (by decide) (fun hc3 => ?_) (fun hc3 => ?_)
    · replace h := rv_iff hc3 h
      refine rv_iload_n dX9_lastBefore_24 rfl 2 rfl ?_
      obtain rfl := Option.some.inj h
      exact rv_iret rfl dX9_lastBefore_25 (rv_le rfl) (rv_le rfl) ⟨rfl, rfl⟩
    · replace h := rv_ift hc3 h
      refine rv_iinc (v := (x3 + (-1))) (lv2 := [(3, .int (x3 + (-1))), (0, .ref (ad 0)), (1, .int x1)]) dX9_lastBefore_18 2 rfl rfl (by decide) rfl ?_
      refine rv_goto (tgt := 4) dX9_lastBefore_21 (by decide) ?_
      refine rv_sub [1, 2, 0] rfl ?_
      exact hk4 h
theorem vh_X9_lastBefore_4 {l : Launch} {D : va_G} {ta : Nat → ClassId} {ad : Nat → Nat} {μ : Mem} {x1 : Int32} {n : Nat} {x3 : Int32} {r : Int32} (h : rv_loop (B_X9_lastBefore_4 μ x1) (fun _ => none) n x3 = some r) : rv_V l D (rv_T ta) RX9 cX9_lastBefore 4 (some .int) ("", []) (rv_rm 2 0 0) (rv_M D (rv_F (rv_vI r) (wm ta ad μ)) 0 0) 0 0 (wm ta ad μ) 4 [(0, .ref (ad 0)), (1, .int x1), (3, .int x3)] [] := by
  induction n generalizing x3 r with
  | zero => cases h
  | succ n ih => exact vB_X9_lastBefore_4 (fun h9 => ih h9) h
theorem ct_X9_lastBefore {l : Launch} {D : va_G} {ta : Nat → ClassId} {ad : Nat → Nat} {μ : Mem} {x1 : Int32} {x2 : Int32} {r : Int32} (h : f_X9_lastBefore μ x1 x2 = some r) : rv_C l D (rv_T ta) yX9_lastBefore cX9_lastBefore 4 (some .int) 2 0 0 [.ref (ad 0), .int x1, .int x2] (wm ta ad μ) (rv_F (rv_vI r) (wm ta ad μ)) := by
  refine rv_Cof2 (own := RX9) (lv := [(0, .ref (ad 0)), (1, .int x1), (2, .int x2)]) rfl (by decide) (rv_le rfl) rfl ?_
  unfold f_X9_lastBefore at h
  refine rv_iload_n dX9_lastBefore_0 rfl 2 rfl ?_
  refine rv_iconst (v := 1) dX9_lastBefore_1 (by decide) ?_
  refine rv_isub dX9_lastBefore_2 ?_
  refine rv_istore_n (lv2 := [(3, .int (x2 - 1)), (0, .ref (ad 0)), (1, .int x1), (2, .int x2)]) dX9_lastBefore_3 rfl (by decide) rfl ?_
  refine rv_sub [1, 2, 0] rfl ?_
  exact vh_X9_lastBefore_4 h
theorem ct_X9_minutesBefore {l : Launch} {D : va_G} {ta : Nat → ClassId} {ad : Nat → Nat} {μ : Mem} {x1 : Int32} {x2 : Int32} {r : Int32} (h : f_X9_minutesBefore μ x1 x2 = some r) : rv_C l D (rv_T ta) yX9_minutesBefore cX9_minutesBefore 4 (some .int) 3 0 0 [.ref (ad 0), .int x1, .int x2] (wm ta ad μ) (rv_F (rv_vI r) (wm ta ad μ)) := by
  refine rv_Cof2 (own := RX9) (lv := [(0, .ref (ad 0)), (1, .int x1), (2, .int x2)]) rfl (by decide) (rv_le rfl) rfl ?_
  unfold f_X9_minutesBefore at h
  refine rv_aload_n dX9_minutesBefore_0 rfl 0 rfl ?_
  refine rv_iload_n dX9_minutesBefore_1 rfl 1 rfl ?_
  refine rv_iload_n dX9_minutesBefore_2 rfl 2 rfl ?_
  obtain ⟨r1, hr1, h⟩ := rv_bind h
  refine rv_callV1 (rest := []) (ct_X9_lastBefore hr1) wm_X9_90 wi_X9_lastBefore wl_X9_lastBefore wc_X9_lastBefore wz_X9 rfl np_X9_lastBefore dX9_minutesBefore_3 rfl ⟨rv_le rfl, rv_le rfl⟩ ⟨rv_le rfl, rv_le rfl⟩ (rv_le rfl) 0 (wm_0 ta ad μ) cl_X9 ?_
  refine rv_istore_n (lv2 := [(3, .int r1), (0, .ref (ad 0)), (1, .int x1), (2, .int x2)]) dX9_minutesBefore_6 rfl (by decide) rfl ?_
  refine rv_sipush (v := 1440) dX9_minutesBefore_7 (by decide) ?_
  refine rv_iload_n dX9_minutesBefore_10 rfl 3 rfl ?_
  refine rv_iload_n dX9_minutesBefore_11 rfl 0 rfl ?_
  refine rv_isub dX9_minutesBefore_12 ?_
  refine rv_imul dX9_minutesBefore_13 ?_
  refine rv_aload_n dX9_minutesBefore_14 rfl 1 rfl ?_
  refine gf_X9_9 dX9_minutesBefore_15 0 (wm_0 ta ad μ) rfl ?_
  refine rv_aload_n dX9_minutesBefore_18 rfl 1 rfl ?_
  refine rv_iload_n dX9_minutesBefore_19 rfl 2 rfl ?_
  refine rv_iload_n dX9_minutesBefore_20 rfl 3 rfl ?_
  obtain ⟨r2, hr2, h⟩ := rv_bind h
  refine rv_callV1 (rest := [.ref (ad 1), .int (1440 * (x2 - r1))]) (ct_X9_at hr2) wm_X9_86 wi_X9_at wl_X9_at wc_X9_at wz_X9 rfl np_X9_at dX9_minutesBefore_21 rfl ⟨rv_le rfl, rv_le rfl⟩ ⟨rv_le rfl, rv_le rfl⟩ (rv_le rfl) 0 (wm_0 ta ad μ) cl_X9 ?_
  obtain ⟨hi3, h⟩ := rv_ifn h
  refine rv_iald dX9_minutesBefore_24 0 rfl 1 (wm_1 ta ad μ) (rv_inP hi3) ?_
  refine rv_iadd dX9_minutesBefore_25 ?_
  refine rv_aload_n dX9_minutesBefore_26 rfl 1 rfl ?_
  refine gf_X9_9 dX9_minutesBefore_27 0 (wm_0 ta ad μ) rfl ?_
  refine rv_aload_n dX9_minutesBefore_30 rfl 1 rfl ?_
  refine rv_iload_n dX9_minutesBefore_31 rfl 2 rfl ?_
  refine rv_iload_n dX9_minutesBefore_32 rfl 0 rfl ?_
  obtain ⟨r4, hr4, h⟩ := rv_bind h
  refine rv_callV1 (rest := [.ref (ad 1), .int ((1440 * (x2 - r1)) + (μ.1 1 (Int32.toNatClampNeg r2)))]) (ct_X9_at hr4) wm_X9_86 wi_X9_at wl_X9_at wc_X9_at wz_X9 rfl np_X9_at dX9_minutesBefore_33 rfl ⟨rv_le rfl, rv_le rfl⟩ ⟨rv_le rfl, rv_le rfl⟩ (rv_le rfl) 0 (wm_0 ta ad μ) cl_X9 ?_
  obtain ⟨hi5, h⟩ := rv_ifn h
  refine rv_iald dX9_minutesBefore_36 0 rfl 1 (wm_1 ta ad μ) (rv_inP hi5) ?_
  refine rv_isub dX9_minutesBefore_37 ?_
  refine rv_aload_n dX9_minutesBefore_38 rfl 1 rfl ?_
  refine gf_X9_13 dX9_minutesBefore_39 0 (wm_0 ta ad μ) rfl ?_
  refine rv_aload_n dX9_minutesBefore_42 rfl 1 rfl ?_
  refine rv_iload_n dX9_minutesBefore_43 rfl 2 rfl ?_
  refine rv_iload_n dX9_minutesBefore_44 rfl 0 rfl ?_
  obtain ⟨r6, hr6, h⟩ := rv_bind h
  refine rv_callV1 (rest := [.ref (ad 2), .int (((1440 * (x2 - r1)) + (μ.1 1 (Int32.toNatClampNeg r2))) - (μ.1 1 (Int32.toNatClampNeg r4)))]) (ct_X9_at hr6) wm_X9_86 wi_X9_at wl_X9_at wc_X9_at wz_X9 rfl np_X9_at dX9_minutesBefore_45 rfl ⟨rv_le rfl, rv_le rfl⟩ ⟨rv_le rfl, rv_le rfl⟩ (rv_le rfl) 0 (wm_0 ta ad μ) cl_X9 ?_
  obtain ⟨hi7, h⟩ := rv_ifn h
  refine rv_iald dX9_minutesBefore_48 0 rfl 2 (wm_2 ta ad μ) (rv_inP hi7) ?_
  refine rv_isub dX9_minutesBefore_49 ?_
  obtain rfl := Option.some.inj h
  exact rv_iret rfl dX9_minutesBefore_50 (rv_le rfl) (rv_le rfl) ⟨rfl, rfl⟩
theorem ct_X9_isRestShort {l : Launch} {D : va_G} {ta : Nat → ClassId} {ad : Nat → Nat} {μ : Mem} {x1 : Int32} {x2 : Int32} {r : Int32} (h : f_X9_isRestShort μ x1 x2 = some r) : rv_C l D (rv_T ta) yX9_isRestShort cX9_isRestShort 3 (some .boolean) 4 0 0 [.ref (ad 0), .int x1, .int x2] (wm ta ad μ) (rv_F (rv_vI r) (wm ta ad μ)) := by
  refine rv_Cof2 (own := RX9) (lv := [(0, .ref (ad 0)), (1, .int x1), (2, .int x2)]) rfl (by decide) (rv_le rfl) rfl ?_
  unfold f_X9_isRestShort at h
  refine rv_aload_n dX9_isRestShort_0 rfl 0 rfl ?_
  refine rv_iload_n dX9_isRestShort_1 rfl 1 rfl ?_
  refine rv_iload_n dX9_isRestShort_2 rfl 2 rfl ?_
  obtain ⟨r1, hr1, h⟩ := rv_bind h
  refine rv_callV1 (rest := []) (ct_X9_at hr1) wm_X9_86 wi_X9_at wl_X9_at wc_X9_at wz_X9 rfl np_X9_at dX9_isRestShort_3 rfl ⟨rv_le rfl, rv_le rfl⟩ ⟨rv_le rfl, rv_le rfl⟩ (rv_le rfl) 0 (wm_0 ta ad μ) cl_X9 ?_
  refine rv_iconst (v := (-1)) dX9_isRestShort_6 (by decide) ?_
  refine rv_icmp_eq (tgt := 37) dX9_isRestShort_7 (by decide) (fun hc2 => ?_) (fun hc2 => ?_)
  · replace h := rv_ift hc2 h
    refine rv_iconst (v := 0) dX9_isRestShort_37 (by decide) ?_
    obtain rfl := Option.some.inj h
    exact rv_zret rfl rfl dX9_isRestShort_38 (rv_le rfl) (rv_le rfl) ⟨rfl, rfl⟩
  · replace h := rv_iff hc2 h
    refine rv_aload_n dX9_isRestShort_10 rfl 0 rfl ?_
    refine rv_iload_n dX9_isRestShort_11 rfl 1 rfl ?_
    refine rv_iload_n dX9_isRestShort_12 rfl 2 rfl ?_
    obtain ⟨r3, hr3, h⟩ := rv_bind h
    refine rv_callV1 (rest := []) (ct_X9_lastBefore hr3) wm_X9_90 wi_X9_lastBefore wl_X9_lastBefore wc_X9_lastBefore wz_X9 rfl np_X9_lastBefore dX9_isRestShort_13 rfl ⟨rv_le rfl, rv_le rfl⟩ ⟨rv_le rfl, rv_le rfl⟩ (rv_le rfl) 0 (wm_0 ta ad μ) cl_X9 ?_
    refine rv_iconst (v := (-1)) dX9_isRestShort_16 (by decide) ?_
    refine rv_icmp_eq (tgt := 37) dX9_isRestShort_17 (by decide) (fun hc4 => ?_) (fun hc4 => ?_)
    · replace h := rv_ift hc4 h
      refine rv_iconst (v := 0) dX9_isRestShort_37 (by decide) ?_
      obtain rfl := Option.some.inj h
      exact rv_zret rfl rfl dX9_isRestShort_38 (rv_le rfl) (rv_le rfl) ⟨rfl, rfl⟩
    · replace h := rv_iff hc4 h
      refine rv_aload_n dX9_isRestShort_20 rfl 0 rfl ?_
      refine rv_iload_n dX9_isRestShort_21 rfl 1 rfl ?_
      refine rv_iload_n dX9_isRestShort_22 rfl 2 rfl ?_
      obtain ⟨r5, hr5, h⟩ := rv_bind h
      refine rv_callV1 (rest := []) (ct_X9_minutesBefore hr5) wm_X9_93 wi_X9_minutesBefore wl_X9_minutesBefore wc_X9_minutesBefore wz_X9 rfl np_X9_minutesBefore dX9_isRestShort_23 rfl ⟨rv_le rfl, rv_le rfl⟩ ⟨rv_le rfl, rv_le rfl⟩ (rv_le rfl) 0 (wm_0 ta ad μ) cl_X9 ?_
      refine rv_aload_n dX9_isRestShort_26 rfl 0 rfl ?_
      refine gf_X9_29 dX9_isRestShort_27 0 (wm_0 ta ad μ) rfl ?_
      refine rv_icmp_ge (tgt := 37) dX9_isRestShort_30 (by decide) (fun hc6 => ?_) (fun hc6 => ?_)
      · replace h := rv_ift hc6 h
        refine rv_iconst (v := 0) dX9_isRestShort_37 (by decide) ?_
        obtain rfl := Option.some.inj h
        exact rv_zret rfl rfl dX9_isRestShort_38 (rv_le rfl) (rv_le rfl) ⟨rfl, rfl⟩
      · replace h := rv_iff hc6 h
        refine rv_iconst (v := 1) dX9_isRestShort_33 (by decide) ?_
        refine rv_goto (tgt := 38) dX9_isRestShort_34 (by decide) ?_
        obtain rfl := Option.some.inj h
        exact rv_zret rfl rfl dX9_isRestShort_38 (rv_le rfl) (rv_le rfl) ⟨rfl, rfl⟩
theorem vb_X9_isRow_63 {l : Launch} {D : va_G} {ta : Nat → ClassId} {ad : Nat → Nat} {μ : Mem} {x1 : Int32} {x2 : Int32} {x4 : Int32} {x6 : Int32} {s0 : Int32} {k17 : Int32 → Int32 → Option (Int32)} (hk17 : ∀ {x5 : Int32} {x6 : Int32} {r : Int32}, k17 x5 x6 = some r → rv_V l D (rv_T ta) RX9 cX9_isRow 7 (some .boolean) ("", []) (rv_rm 2 0 0) (rv_M D (rv_F (rv_vI r) (wm ta ad μ)) 0 0) 0 0 (wm ta ad μ) 17 [(0, .ref (ad 0)), (1, .int x1), (2, .int x2), (4, .int x4), (5, .int x5), (6, .int x6)] []) {r : Int32} (h : b_X9_isRow_63 μ k17 x1 x2 x4 x6 s0 = some r) : rv_V l D (rv_T ta) RX9 cX9_isRow 7 (some .boolean) ("", []) (rv_rm 2 0 0) (rv_M D (rv_F (rv_vI r) (wm ta ad μ)) 0 0) 0 0 (wm ta ad μ) 63 [(0, .ref (ad 0)), (1, .int x1), (2, .int x2), (4, .int x4), (6, .int x6)] [.int s0] := by
  unfold b_X9_isRow_63 at h
  refine rv_istore (lv2 := [(5, .int s0), (0, .ref (ad 0)), (1, .int x1), (2, .int x2), (4, .int x4), (6, .int x6)]) dX9_isRow_63 (by decide) rfl ?_
  refine rv_iinc (v := (x6 + 1)) (lv2 := [(6, .int (x6 + 1)), (5, .int s0), (0, .ref (ad 0)), (1, .int x1), (2, .int x2), (4, .int x4)]) dX9_isRow_65 5 rfl rfl (by decide) rfl ?_
  refine rv_goto (tgt := 17) dX9_isRow_68 (by decide) ?_
  refine rv_sub [2, 3, 4, 5, 1, 0] rfl ?_
  exact hk17 h
theorem vb_X9_isRow_62 {l : Launch} {D : va_G} {ta : Nat → ClassId} {ad : Nat → Nat} {μ : Mem} {x1 : Int32} {x2 : Int32} {x4 : Int32} {x6 : Int32} {k17 : Int32 → Int32 → Option (Int32)} (hk17 : ∀ {x5 : Int32} {x6 : Int32} {r : Int32}, k17 x5 x6 = some r → rv_V l D (rv_T ta) RX9 cX9_isRow 7 (some .boolean) ("", []) (rv_rm 2 0 0) (rv_M D (rv_F (rv_vI r) (wm ta ad μ)) 0 0) 0 0 (wm ta ad μ) 17 [(0, .ref (ad 0)), (1, .int x1), (2, .int x2), (4, .int x4), (5, .int x5), (6, .int x6)] []) {r : Int32} (h : b_X9_isRow_62 μ k17 x1 x2 x4 x6 = some r) : rv_V l D (rv_T ta) RX9 cX9_isRow 7 (some .boolean) ("", []) (rv_rm 2 0 0) (rv_M D (rv_F (rv_vI r) (wm ta ad μ)) 0 0) 0 0 (wm ta ad μ) 62 [(0, .ref (ad 0)), (1, .int x1), (2, .int x2), (4, .int x4), (6, .int x6)] [] := by
  unfold b_X9_isRow_62 at h
  refine rv_iconst (v := 0) dX9_isRow_62 (by decide) ?_
  exact vb_X9_isRow_63 hk17 h
theorem vB_X9_isRow_17 {l : Launch} {D : va_G} {ta : Nat → ClassId} {ad : Nat → Nat} {μ : Mem} {x1 : Int32} {x2 : Int32} {x4 : Int32} {k17 : Int32 → Int32 → Option (Int32)} (hk17 : ∀ {x5 : Int32} {x6 : Int32} {r : Int32}, k17 x5 x6 = some r → rv_V l D (rv_T ta) RX9 cX9_isRow 7 (some .boolean) ("", []) (rv_rm 2 0 0) (rv_M D (rv_F (rv_vI r) (wm ta ad μ)) 0 0) 0 0 (wm ta ad μ) 17 [(0, .ref (ad 0)), (1, .int x1), (2, .int x2), (4, .int x4), (5, .int x5), (6, .int x6)] []) {x5 : Int32} {x6 : Int32} {r : Int32} (h : B_X9_isRow_17 μ x1 x2 x4 k17 x5 x6 = some r) : rv_V l D (rv_T ta) RX9 cX9_isRow 7 (some .boolean) ("", []) (rv_rm 2 0 0) (rv_M D (rv_F (rv_vI r) (wm ta ad μ)) 0 0) 0 0 (wm ta ad μ) 17 [(0, .ref (ad 0)), (1, .int x1), (2, .int x2), (4, .int x4), (5, .int x5), (6, .int x6)] [] := by
  unfold B_X9_isRow_17 at h
  refine rv_iload dX9_isRow_17 4 rfl ?_
  refine rv_if_eq (tgt := 71) dX9_isRow_19 (by decide) (fun hc2 => ?_) (fun hc2 => ?_)
  · replace h := rv_ift hc2 h
    refine rv_iload dX9_isRow_71 4 rfl ?_
    obtain ⟨hi3, h⟩ := rv_ifn h
    obtain rfl := Option.some.inj h
    exact rv_zret rfl (rv_bzP hi3) dX9_isRow_73 (rv_le rfl) (rv_le rfl) ⟨rfl, rfl⟩
  · replace h := rv_iff hc2 h
    refine rv_iload dX9_isRow_22 5 rfl ?_
    refine rv_iload_n dX9_isRow_24 rfl 2 rfl ?_
    refine rv_icmp_gt (tgt := 71) dX9_isRow_25 (by decide) (fun hc4 => ?_) (fun hc4 => ?_)
    · replace h := rv_ift hc4 h
      refine rv_iload dX9_isRow_71 4 rfl ?_
      obtain ⟨hi5, h⟩ := rv_ifn h
      obtain rfl := Option.some.inj h
      exact rv_zret rfl (rv_bzP hi5) dX9_isRow_73 (rv_le rfl) (rv_le rfl) ⟨rfl, rfl⟩
    · replace h := rv_iff hc4 h
      refine rv_aload_n dX9_isRow_28 rfl 0 rfl ?_
      refine rv_iload_n dX9_isRow_29 rfl 1 rfl ?_
      refine rv_iload dX9_isRow_30 5 rfl ?_
      obtain ⟨r6, hr6, h⟩ := rv_bind h
      refine rv_callV1 (rest := []) (ct_X9_at hr6) wm_X9_86 wi_X9_at wl_X9_at wc_X9_at wz_X9 rfl np_X9_at dX9_isRow_32 rfl ⟨rv_le rfl, rv_le rfl⟩ ⟨rv_le rfl, rv_le rfl⟩ (rv_le rfl) 0 (wm_0 ta ad μ) cl_X9 ?_
      refine rv_iconst (v := (-1)) dX9_isRow_35 (by decide) ?_
      refine rv_icmp_eq (tgt := 62) dX9_isRow_36 (by decide) (fun hc7 => ?_) (fun hc7 => ?_)
      · replace h := rv_ift hc7 h
        refine rv_sub [0, 1, 2, 3, 5] rfl ?_
        exact vb_X9_isRow_62 hk17 h
      · replace h := rv_iff hc7 h
        refine rv_iload dX9_isRow_39 3 rfl ?_
        refine rv_if_eq (tgt := 58) dX9_isRow_41 (by decide) (fun hc8 => ?_) (fun hc8 => ?_)
        · replace h := rv_ift hc8 h
          refine rv_iconst (v := 1) dX9_isRow_58 (by decide) ?_
          refine rv_goto (tgt := 63) dX9_isRow_59 (by decide) ?_
          refine rv_sub [0, 1, 2, 3, 5] rfl ?_
          exact vb_X9_isRow_63 hk17 h
        · replace h := rv_iff hc8 h
          refine rv_aload_n dX9_isRow_44 rfl 0 rfl ?_
          refine rv_aload_n dX9_isRow_45 rfl 0 rfl ?_
          refine rv_iload_n dX9_isRow_46 rfl 1 rfl ?_
          refine rv_iload dX9_isRow_47 5 rfl ?_
          obtain ⟨r9, hr9, h⟩ := rv_bind h
          refine rv_callV1 (rest := [.ref (ad 0)]) (ct_X9_at hr9) wm_X9_86 wi_X9_at wl_X9_at wc_X9_at wz_X9 rfl np_X9_at dX9_isRow_49 rfl ⟨rv_le rfl, rv_le rfl⟩ ⟨rv_le rfl, rv_le rfl⟩ (rv_le rfl) 0 (wm_0 ta ad μ) cl_X9 ?_
          obtain ⟨r10, hr10, h⟩ := rv_bind h
          refine rv_callV1 (rest := []) (ct_X9_isNightShift hr10) wm_X9_96 wi_X9_isNightShift wl_X9_isNightShift wc_X9_isNightShift wz_X9 rfl np_X9_isNightShift dX9_isRow_52 rfl ⟨rv_le rfl, rv_le rfl⟩ ⟨rv_le rfl, rv_le rfl⟩ (rv_le rfl) 0 (wm_0 ta ad μ) cl_X9 ?_
          refine rv_if_eq (tgt := 62) dX9_isRow_55 (by decide) (fun hc11 => ?_) (fun hc11 => ?_)
          · replace h := rv_ift hc11 h
            refine rv_sub [0, 1, 2, 3, 5] rfl ?_
            exact vb_X9_isRow_62 hk17 h
          · replace h := rv_iff hc11 h
            refine rv_iconst (v := 1) dX9_isRow_58 (by decide) ?_
            refine rv_goto (tgt := 63) dX9_isRow_59 (by decide) ?_
            refine rv_sub [0, 1, 2, 3, 5] rfl ?_
            exact vb_X9_isRow_63 hk17 h
theorem vh_X9_isRow_17 {l : Launch} {D : va_G} {ta : Nat → ClassId} {ad : Nat → Nat} {μ : Mem} {x1 : Int32} {x2 : Int32} {x4 : Int32} {n : Nat} {x5 : Int32} {x6 : Int32} {r : Int32} (h : rv_loop (B_X9_isRow_17 μ x1 x2 x4) (fun _ _ => none) n x5 x6 = some r) : rv_V l D (rv_T ta) RX9 cX9_isRow 7 (some .boolean) ("", []) (rv_rm 2 0 0) (rv_M D (rv_F (rv_vI r) (wm ta ad μ)) 0 0) 0 0 (wm ta ad μ) 17 [(0, .ref (ad 0)), (1, .int x1), (2, .int x2), (4, .int x4), (5, .int x5), (6, .int x6)] [] := by
  induction n generalizing x5 x6 r with
  | zero => cases h
  | succ n ih => exact vB_X9_isRow_17 (fun h9 => ih h9) h
theorem vb_X9_isRow_10 {l : Launch} {D : va_G} {ta : Nat → ClassId} {ad : Nat → Nat} {μ : Mem} {x1 : Int32} {x2 : Int32} {x3 : Int32} {x4 : Int32} {s0 : Int32} {r : Int32} (h : b_X9_isRow_10 μ x1 x2 x3 x4 s0 = some r) : rv_V l D (rv_T ta) RX9 cX9_isRow 7 (some .boolean) ("", []) (rv_rm 2 0 0) (rv_M D (rv_F (rv_vI r) (wm ta ad μ)) 0 0) 0 0 (wm ta ad μ) 10 [(0, .ref (ad 0)), (1, .int x1), (2, .int x2), (3, .int x3), (4, .int x4)] [.int s0] := by
  unfold b_X9_isRow_10 at h
  refine rv_istore (lv2 := [(5, .int s0), (0, .ref (ad 0)), (1, .int x1), (2, .int x2), (3, .int x3), (4, .int x4)]) dX9_isRow_10 (by decide) rfl ?_
  refine rv_iload_n dX9_isRow_12 rfl 3 rfl ?_
  refine rv_iload_n dX9_isRow_13 rfl 4 rfl ?_
  refine rv_isub dX9_isRow_14 ?_
  refine rv_istore (lv2 := [(6, .int (x2 - x3)), (5, .int s0), (0, .ref (ad 0)), (1, .int x1), (2, .int x2), (3, .int x3), (4, .int x4)]) dX9_isRow_15 (by decide) rfl ?_
  refine rv_sub [2, 3, 4, 6, 1, 0] rfl ?_
  exact vh_X9_isRow_17 h
theorem ct_X9_isRow {l : Launch} {D : va_G} {ta : Nat → ClassId} {ad : Nat → Nat} {μ : Mem} {x1 : Int32} {x2 : Int32} {x3 : Int32} {x4 : Int32} {r : Int32} (h : f_X9_isRow μ x1 x2 x3 x4 = some r) : rv_C l D (rv_T ta) yX9_isRow cX9_isRow 7 (some .boolean) 2 0 0 [.ref (ad 0), .int x1, .int x2, .int x3, .int x4] (wm ta ad μ) (rv_F (rv_vI r) (wm ta ad μ)) := by
  refine rv_Cof2 (own := RX9) (lv := [(0, .ref (ad 0)), (1, .int x1), (2, .int x2), (3, .int x3), (4, .int x4)]) rfl (by decide) (rv_le rfl) rfl ?_
  unfold f_X9_isRow at h
  refine rv_iload_n dX9_isRow_0 rfl 2 rfl ?_
  refine rv_iload_n dX9_isRow_1 rfl 3 rfl ?_
  refine rv_icmp_lt (tgt := 9) dX9_isRow_2 (by decide) (fun hc1 => ?_) (fun hc1 => ?_)
  · replace h := rv_ift hc1 h
    refine rv_iconst (v := 0) dX9_isRow_9 (by decide) ?_
    exact vb_X9_isRow_10 h
  · replace h := rv_iff hc1 h
    refine rv_iconst (v := 1) dX9_isRow_5 (by decide) ?_
    refine rv_goto (tgt := 10) dX9_isRow_6 (by decide) ?_
    exact vb_X9_isRow_10 h
theorem vb_X9_sumFrom_43 {l : Launch} {D : va_G} {ta : Nat → ClassId} {ad : Nat → Nat} {μ : Mem} {x1 : Int32} {x2 : Int32} {x3 : Int32} {x5 : Int32} {s0 : Int32} {s1 : Int32} {k6 : Int32 → Int32 → Option (Int32)} (hk6 : ∀ {x4 : Int32} {x5 : Int32} {r : Int32}, k6 x4 x5 = some r → rv_V l D (rv_T ta) RX9 cX9_sumFrom 6 (some .int) ("", []) (rv_rm 2 0 0) (rv_M D (rv_F (rv_vI r) (wm ta ad μ)) 0 0) 0 0 (wm ta ad μ) 6 [(0, .ref (ad 0)), (1, .int x1), (2, .int x2), (3, .int x3), (4, .int x4), (5, .int x5)] []) {r : Int32} (h : b_X9_sumFrom_43 μ k6 x1 x2 x3 x5 s0 s1 = some r) : rv_V l D (rv_T ta) RX9 cX9_sumFrom 6 (some .int) ("", []) (rv_rm 2 0 0) (rv_M D (rv_F (rv_vI r) (wm ta ad μ)) 0 0) 0 0 (wm ta ad μ) 43 [(0, .ref (ad 0)), (1, .int x1), (2, .int x2), (3, .int x3), (5, .int x5)] [.int s1, .int s0] := by
  unfold b_X9_sumFrom_43 at h
  refine rv_iadd dX9_sumFrom_43 ?_
  refine rv_istore (lv2 := [(4, .int (s0 + s1)), (0, .ref (ad 0)), (1, .int x1), (2, .int x2), (3, .int x3), (5, .int x5)]) dX9_sumFrom_44 (by decide) rfl ?_
  refine rv_iinc (v := (x5 + 1)) (lv2 := [(5, .int (x5 + 1)), (4, .int (s0 + s1)), (0, .ref (ad 0)), (1, .int x1), (2, .int x2), (3, .int x3)]) dX9_sumFrom_46 5 rfl rfl (by decide) rfl ?_
  refine rv_goto (tgt := 6) dX9_sumFrom_49 (by decide) ?_
  refine rv_sub [2, 3, 4, 5, 1, 0] rfl ?_
  exact hk6 h
theorem vB_X9_sumFrom_6 {l : Launch} {D : va_G} {ta : Nat → ClassId} {ad : Nat → Nat} {μ : Mem} {x1 : Int32} {x2 : Int32} {x3 : Int32} {k6 : Int32 → Int32 → Option (Int32)} (hk6 : ∀ {x4 : Int32} {x5 : Int32} {r : Int32}, k6 x4 x5 = some r → rv_V l D (rv_T ta) RX9 cX9_sumFrom 6 (some .int) ("", []) (rv_rm 2 0 0) (rv_M D (rv_F (rv_vI r) (wm ta ad μ)) 0 0) 0 0 (wm ta ad μ) 6 [(0, .ref (ad 0)), (1, .int x1), (2, .int x2), (3, .int x3), (4, .int x4), (5, .int x5)] []) {x4 : Int32} {x5 : Int32} {r : Int32} (h : B_X9_sumFrom_6 μ x1 x2 x3 k6 x4 x5 = some r) : rv_V l D (rv_T ta) RX9 cX9_sumFrom 6 (some .int) ("", []) (rv_rm 2 0 0) (rv_M D (rv_F (rv_vI r) (wm ta ad μ)) 0 0) 0 0 (wm ta ad μ) 6 [(0, .ref (ad 0)), (1, .int x1), (2, .int x2), (3, .int x3), (4, .int x4), (5, .int x5)] [] := by
  unfold B_X9_sumFrom_6 at h
  refine rv_iload dX9_sumFrom_6 5 rfl ?_
  refine rv_iload_n dX9_sumFrom_8 rfl 2 rfl ?_
  refine rv_iload_n dX9_sumFrom_9 rfl 3 rfl ?_
  refine rv_iadd dX9_sumFrom_10 ?_
  refine rv_icmp_ge (tgt := 52) dX9_sumFrom_11 (by decide) (fun hc1 => ?_) (fun hc1 => ?_)
  · replace h := rv_ift hc1 h
    refine rv_iload dX9_sumFrom_52 4 rfl ?_
    obtain rfl := Option.some.inj h
    exact rv_iret rfl dX9_sumFrom_54 (rv_le rfl) (rv_le rfl) ⟨rfl, rfl⟩
  · replace h := rv_iff hc1 h
    refine rv_iload dX9_sumFrom_14 4 rfl ?_
    refine rv_aload_n dX9_sumFrom_16 rfl 0 rfl ?_
    refine rv_iload_n dX9_sumFrom_17 rfl 1 rfl ?_
    refine rv_iload dX9_sumFrom_18 5 rfl ?_
    obtain ⟨r2, hr2, h⟩ := rv_bind h
    refine rv_callV1 (rest := [.int x4]) (ct_X9_at hr2) wm_X9_86 wi_X9_at wl_X9_at wc_X9_at wz_X9 rfl np_X9_at dX9_sumFrom_20 rfl ⟨rv_le rfl, rv_le rfl⟩ ⟨rv_le rfl, rv_le rfl⟩ (rv_le rfl) 0 (wm_0 ta ad μ) cl_X9 ?_
    refine rv_iconst (v := (-1)) dX9_sumFrom_23 (by decide) ?_
    refine rv_icmp_ne (tgt := 31) dX9_sumFrom_24 (by decide) (fun hc3 => ?_) (fun hc3 => ?_)
    · replace h := rv_iff hc3 h
      refine rv_aload_n dX9_sumFrom_31 rfl 0 rfl ?_
      refine gf_X9_13 dX9_sumFrom_32 0 (wm_0 ta ad μ) rfl ?_
      refine rv_aload_n dX9_sumFrom_35 rfl 0 rfl ?_
      refine rv_iload_n dX9_sumFrom_36 rfl 1 rfl ?_
      refine rv_iload dX9_sumFrom_37 5 rfl ?_
      obtain ⟨r4, hr4, h⟩ := rv_bind h
      refine rv_callV1 (rest := [.ref (ad 2), .int x4]) (ct_X9_at hr4) wm_X9_86 wi_X9_at wl_X9_at wc_X9_at wz_X9 rfl np_X9_at dX9_sumFrom_39 rfl ⟨rv_le rfl, rv_le rfl⟩ ⟨rv_le rfl, rv_le rfl⟩ (rv_le rfl) 0 (wm_0 ta ad μ) cl_X9 ?_
      obtain ⟨hi5, h⟩ := rv_ifn h
      refine rv_iald dX9_sumFrom_42 0 rfl 2 (wm_2 ta ad μ) (rv_inP hi5) ?_
      refine rv_sub [0, 1, 2, 3, 5] rfl ?_
      exact vb_X9_sumFrom_43 hk6 h
    · replace h := rv_ift hc3 h
      refine rv_iconst (v := 0) dX9_sumFrom_27 (by decide) ?_
      refine rv_goto (tgt := 43) dX9_sumFrom_28 (by decide) ?_
      refine rv_sub [0, 1, 2, 3, 5] rfl ?_
      exact vb_X9_sumFrom_43 hk6 h
theorem vh_X9_sumFrom_6 {l : Launch} {D : va_G} {ta : Nat → ClassId} {ad : Nat → Nat} {μ : Mem} {x1 : Int32} {x2 : Int32} {x3 : Int32} {n : Nat} {x4 : Int32} {x5 : Int32} {r : Int32} (h : rv_loop (B_X9_sumFrom_6 μ x1 x2 x3) (fun _ _ => none) n x4 x5 = some r) : rv_V l D (rv_T ta) RX9 cX9_sumFrom 6 (some .int) ("", []) (rv_rm 2 0 0) (rv_M D (rv_F (rv_vI r) (wm ta ad μ)) 0 0) 0 0 (wm ta ad μ) 6 [(0, .ref (ad 0)), (1, .int x1), (2, .int x2), (3, .int x3), (4, .int x4), (5, .int x5)] [] := by
  induction n generalizing x4 x5 r with
  | zero => cases h
  | succ n ih => exact vB_X9_sumFrom_6 (fun h9 => ih h9) h
theorem ct_X9_sumFrom {l : Launch} {D : va_G} {ta : Nat → ClassId} {ad : Nat → Nat} {μ : Mem} {x1 : Int32} {x2 : Int32} {x3 : Int32} {r : Int32} (h : f_X9_sumFrom μ x1 x2 x3 = some r) : rv_C l D (rv_T ta) yX9_sumFrom cX9_sumFrom 6 (some .int) 2 0 0 [.ref (ad 0), .int x1, .int x2, .int x3] (wm ta ad μ) (rv_F (rv_vI r) (wm ta ad μ)) := by
  refine rv_Cof2 (own := RX9) (lv := [(0, .ref (ad 0)), (1, .int x1), (2, .int x2), (3, .int x3)]) rfl (by decide) (rv_le rfl) rfl ?_
  unfold f_X9_sumFrom at h
  refine rv_iconst (v := 0) dX9_sumFrom_0 (by decide) ?_
  refine rv_istore (lv2 := [(4, .int 0), (0, .ref (ad 0)), (1, .int x1), (2, .int x2), (3, .int x3)]) dX9_sumFrom_1 (by decide) rfl ?_
  refine rv_iload_n dX9_sumFrom_3 rfl 3 rfl ?_
  refine rv_istore (lv2 := [(5, .int x2), (4, .int 0), (0, .ref (ad 0)), (1, .int x1), (2, .int x2), (3, .int x3)]) dX9_sumFrom_4 (by decide) rfl ?_
  refine rv_sub [2, 3, 4, 5, 1, 0] rfl ?_
  exact vh_X9_sumFrom_6 h
theorem vb_X9_onShift_31 {l : Launch} {D : va_G} {ta : Nat → ClassId} {ad : Nat → Nat} {μ : Mem} {x1 : Int32} {x2 : Int32} {x4 : Int32} {s0 : Int32} {s1 : Int32} {k5 : Int32 → Int32 → Option (Int32)} (hk5 : ∀ {x3 : Int32} {x4 : Int32} {r : Int32}, k5 x3 x4 = some r → rv_V l D (rv_T ta) RX9 cX9_onShift 5 (some .int) ("", []) (rv_rm 2 0 0) (rv_M D (rv_F (rv_vI r) (wm ta ad μ)) 0 0) 0 0 (wm ta ad μ) 5 [(0, .ref (ad 0)), (1, .int x1), (2, .int x2), (3, .int x3), (4, .int x4)] []) {r : Int32} (h : b_X9_onShift_31 μ k5 x1 x2 x4 s0 s1 = some r) : rv_V l D (rv_T ta) RX9 cX9_onShift 5 (some .int) ("", []) (rv_rm 2 0 0) (rv_M D (rv_F (rv_vI r) (wm ta ad μ)) 0 0) 0 0 (wm ta ad μ) 31 [(0, .ref (ad 0)), (1, .int x1), (2, .int x2), (4, .int x4)] [.int s1, .int s0] := by
  unfold b_X9_onShift_31 at h
  refine rv_iadd dX9_onShift_31 ?_
  refine rv_istore_n (lv2 := [(3, .int (s0 + s1)), (0, .ref (ad 0)), (1, .int x1), (2, .int x2), (4, .int x4)]) dX9_onShift_32 rfl (by decide) rfl ?_
  refine rv_iinc (v := (x4 + 1)) (lv2 := [(4, .int (x4 + 1)), (3, .int (s0 + s1)), (0, .ref (ad 0)), (1, .int x1), (2, .int x2)]) dX9_onShift_33 4 rfl rfl (by decide) rfl ?_
  refine rv_goto (tgt := 5) dX9_onShift_36 (by decide) ?_
  refine rv_sub [2, 3, 4, 1, 0] rfl ?_
  exact hk5 h
theorem vB_X9_onShift_5 {l : Launch} {D : va_G} {ta : Nat → ClassId} {ad : Nat → Nat} {μ : Mem} {x1 : Int32} {x2 : Int32} {k5 : Int32 → Int32 → Option (Int32)} (hk5 : ∀ {x3 : Int32} {x4 : Int32} {r : Int32}, k5 x3 x4 = some r → rv_V l D (rv_T ta) RX9 cX9_onShift 5 (some .int) ("", []) (rv_rm 2 0 0) (rv_M D (rv_F (rv_vI r) (wm ta ad μ)) 0 0) 0 0 (wm ta ad μ) 5 [(0, .ref (ad 0)), (1, .int x1), (2, .int x2), (3, .int x3), (4, .int x4)] []) {x3 : Int32} {x4 : Int32} {r : Int32} (h : B_X9_onShift_5 μ x1 x2 k5 x3 x4 = some r) : rv_V l D (rv_T ta) RX9 cX9_onShift 5 (some .int) ("", []) (rv_rm 2 0 0) (rv_M D (rv_F (rv_vI r) (wm ta ad μ)) 0 0) 0 0 (wm ta ad μ) 5 [(0, .ref (ad 0)), (1, .int x1), (2, .int x2), (3, .int x3), (4, .int x4)] [] := by
  unfold B_X9_onShift_5 at h
  refine rv_iload dX9_onShift_5 4 rfl ?_
  refine rv_aload_n dX9_onShift_7 rfl 0 rfl ?_
  refine gf_X9_76 dX9_onShift_8 0 (wm_0 ta ad μ) rfl ?_
  refine rv_icmp_ge (tgt := 39) dX9_onShift_11 (by decide) (fun hc1 => ?_) (fun hc1 => ?_)
  · replace h := rv_ift hc1 h
    refine rv_iload_n dX9_onShift_39 rfl 3 rfl ?_
    obtain rfl := Option.some.inj h
    exact rv_iret rfl dX9_onShift_40 (rv_le rfl) (rv_le rfl) ⟨rfl, rfl⟩
  · replace h := rv_iff hc1 h
    refine rv_iload_n dX9_onShift_14 rfl 3 rfl ?_
    refine rv_aload_n dX9_onShift_15 rfl 0 rfl ?_
    refine rv_iload dX9_onShift_16 4 rfl ?_
    refine rv_iload_n dX9_onShift_18 rfl 1 rfl ?_
    obtain ⟨r2, hr2, h⟩ := rv_bind h
    refine rv_callV1 (rest := [.int x3]) (ct_X9_at hr2) wm_X9_86 wi_X9_at wl_X9_at wc_X9_at wz_X9 rfl np_X9_at dX9_onShift_19 rfl ⟨rv_le rfl, rv_le rfl⟩ ⟨rv_le rfl, rv_le rfl⟩ (rv_le rfl) 0 (wm_0 ta ad μ) cl_X9 ?_
    refine rv_iload_n dX9_onShift_22 rfl 2 rfl ?_
    refine rv_icmp_ne (tgt := 30) dX9_onShift_23 (by decide) (fun hc3 => ?_) (fun hc3 => ?_)
    · replace h := rv_iff hc3 h
      refine rv_iconst (v := 0) dX9_onShift_30 (by decide) ?_
      refine rv_sub [0, 1, 2, 4] rfl ?_
      exact vb_X9_onShift_31 hk5 h
    · replace h := rv_ift hc3 h
      refine rv_iconst (v := 1) dX9_onShift_26 (by decide) ?_
      refine rv_goto (tgt := 31) dX9_onShift_27 (by decide) ?_
      refine rv_sub [0, 1, 2, 4] rfl ?_
      exact vb_X9_onShift_31 hk5 h
theorem vh_X9_onShift_5 {l : Launch} {D : va_G} {ta : Nat → ClassId} {ad : Nat → Nat} {μ : Mem} {x1 : Int32} {x2 : Int32} {n : Nat} {x3 : Int32} {x4 : Int32} {r : Int32} (h : rv_loop (B_X9_onShift_5 μ x1 x2) (fun _ _ => none) n x3 x4 = some r) : rv_V l D (rv_T ta) RX9 cX9_onShift 5 (some .int) ("", []) (rv_rm 2 0 0) (rv_M D (rv_F (rv_vI r) (wm ta ad μ)) 0 0) 0 0 (wm ta ad μ) 5 [(0, .ref (ad 0)), (1, .int x1), (2, .int x2), (3, .int x3), (4, .int x4)] [] := by
  induction n generalizing x3 x4 r with
  | zero => cases h
  | succ n ih => exact vB_X9_onShift_5 (fun h9 => ih h9) h
theorem ct_X9_onShift {l : Launch} {D : va_G} {ta : Nat → ClassId} {ad : Nat → Nat} {μ : Mem} {x1 : Int32} {x2 : Int32} {r : Int32} (h : f_X9_onShift μ x1 x2 = some r) : rv_C l D (rv_T ta) yX9_onShift cX9_onShift 5 (some .int) 2 0 0 [.ref (ad 0), .int x1, .int x2] (wm ta ad μ) (rv_F (rv_vI r) (wm ta ad μ)) := by
  refine rv_Cof2 (own := RX9) (lv := [(0, .ref (ad 0)), (1, .int x1), (2, .int x2)]) rfl (by decide) (rv_le rfl) rfl ?_
  unfold f_X9_onShift at h
  refine rv_iconst (v := 0) dX9_onShift_0 (by decide) ?_
  refine rv_istore_n (lv2 := [(3, .int 0), (0, .ref (ad 0)), (1, .int x1), (2, .int x2)]) dX9_onShift_1 rfl (by decide) rfl ?_
  refine rv_iconst (v := 0) dX9_onShift_2 (by decide) ?_
  refine rv_istore (lv2 := [(4, .int 0), (3, .int 0), (0, .ref (ad 0)), (1, .int x1), (2, .int x2)]) dX9_onShift_3 (by decide) rfl ?_
  refine rv_sub [2, 3, 4, 1, 0] rfl ?_
  exact vh_X9_onShift_5 h
theorem ct_X9_isBreach {l : Launch} {D : va_G} {ta : Nat → ClassId} {ad : Nat → Nat} {μ : Mem} {x1 : Int32} {x2 : Int32} {x3 : Int32} {r : Int32} (h : f_X9_isBreach μ x1 x2 x3 = some r) : rv_C l D (rv_T ta) yX9_isBreach cX9_isBreach 5 (some .boolean) 5 0 0 [.ref (ad 0), .int x1, .int x2, .int x3] (wm ta ad μ) (rv_F (rv_vI r) (wm ta ad μ)) := by
  refine rv_Cof2 (own := RX9) (lv := [(0, .ref (ad 0)), (1, .int x1), (2, .int x2), (3, .int x3)]) rfl (by decide) (rv_le rfl) rfl ?_
  unfold f_X9_isBreach at h
  refine rv_aload_n dX9_isBreach_0 rfl 0 rfl ?_
  refine rv_iload_n dX9_isBreach_1 rfl 2 rfl ?_
  refine rv_iload_n dX9_isBreach_2 rfl 3 rfl ?_
  obtain ⟨r1, hr1, h⟩ := rv_bind h
  refine rv_callV1 (rest := []) (ct_X9_at hr1) wm_X9_86 wi_X9_at wl_X9_at wc_X9_at wz_X9 rfl np_X9_at dX9_isBreach_3 rfl ⟨rv_le rfl, rv_le rfl⟩ ⟨rv_le rfl, rv_le rfl⟩ (rv_le rfl) 0 (wm_0 ta ad μ) cl_X9 ?_
  refine rv_istore (lv2 := [(4, .int r1), (0, .ref (ad 0)), (1, .int x1), (2, .int x2), (3, .int x3)]) dX9_isBreach_6 (by decide) rfl ?_
  refine rv_iload_n dX9_isBreach_8 rfl 2 rfl ?_
  by_cases hc2 : x1 = 0
  · replace h := rv_ift hc2 h
    refine rv_tabIn (off := 35) (tgt := 44) dX9_isBreach_9 0 hc2 (by decide) (by decide) rfl (by decide) ?_
    refine rv_iload dX9_isBreach_44 0 rfl ?_
    refine rv_iconst (v := (-1)) dX9_isBreach_46 (by decide) ?_
    refine rv_icmp_eq (tgt := 68) dX9_isBreach_47 (by decide) (fun hc3 => ?_) (fun hc3 => ?_)
    · replace h := rv_ift hc3 h
      refine rv_iconst (v := 0) dX9_isBreach_68 (by decide) ?_
      obtain rfl := Option.some.inj h
      exact rv_zret rfl rfl dX9_isBreach_69 (rv_le rfl) (rv_le rfl) ⟨rfl, rfl⟩
    · replace h := rv_iff hc3 h
      refine rv_aload_n dX9_isBreach_50 rfl 1 rfl ?_
      refine gf_X9_19 dX9_isBreach_51 0 (wm_0 ta ad μ) rfl ?_
      refine rv_bipush (v := 8) dX9_isBreach_54 (by decide) ?_
      refine rv_iload_n dX9_isBreach_56 rfl 3 rfl ?_
      refine rv_imul dX9_isBreach_57 ?_
      refine rv_iload_n dX9_isBreach_58 rfl 4 rfl ?_
      refine rv_iadd dX9_isBreach_59 ?_
      obtain ⟨hi4, h⟩ := rv_ifn h
      refine rv_zald dX9_isBreach_60 1 rfl 4 (wm_4 ta ad μ) (rv_inP hi4) ?_
      refine rv_if_eq (tgt := 68) dX9_isBreach_61 (by decide) (fun hc5 => ?_) (fun hc5 => ?_)
      · replace h := rv_ift hc5 h
        refine rv_iconst (v := 0) dX9_isBreach_68 (by decide) ?_
        obtain rfl := Option.some.inj h
        exact rv_zret rfl rfl dX9_isBreach_69 (rv_le rfl) (rv_le rfl) ⟨rfl, rfl⟩
      · replace h := rv_iff hc5 h
        refine rv_iconst (v := 1) dX9_isBreach_64 (by decide) ?_
        refine rv_goto (tgt := 69) dX9_isBreach_65 (by decide) ?_
        obtain rfl := Option.some.inj h
        exact rv_zret rfl rfl dX9_isBreach_69 (rv_le rfl) (rv_le rfl) ⟨rfl, rfl⟩
  · replace h := rv_iff hc2 h
    by_cases hc6 : x1 = 1
    · replace h := rv_ift hc6 h
      refine rv_tabIn (off := 61) (tgt := 70) dX9_isBreach_9 1 hc6 (by decide) (by decide) rfl (by decide) ?_
      refine rv_iload dX9_isBreach_70 0 rfl ?_
      refine rv_iconst (v := (-1)) dX9_isBreach_72 (by decide) ?_
      refine rv_icmp_eq (tgt := 94) dX9_isBreach_73 (by decide) (fun hc7 => ?_) (fun hc7 => ?_)
      · replace h := rv_ift hc7 h
        refine rv_iconst (v := 0) dX9_isBreach_94 (by decide) ?_
        obtain rfl := Option.some.inj h
        exact rv_zret rfl rfl dX9_isBreach_95 (rv_le rfl) (rv_le rfl) ⟨rfl, rfl⟩
      · replace h := rv_iff hc7 h
        refine rv_aload_n dX9_isBreach_76 rfl 1 rfl ?_
        refine gf_X9_23 dX9_isBreach_77 0 (wm_0 ta ad μ) rfl ?_
        refine rv_iconst (v := 3) dX9_isBreach_80 (by decide) ?_
        refine rv_iload_n dX9_isBreach_81 rfl 3 rfl ?_
        refine rv_imul dX9_isBreach_82 ?_
        refine rv_iload dX9_isBreach_83 0 rfl ?_
        refine rv_iadd dX9_isBreach_85 ?_
        obtain ⟨hi8, h⟩ := rv_ifn h
        refine rv_zald dX9_isBreach_86 1 rfl 5 (wm_5 ta ad μ) (rv_inP hi8) ?_
        refine rv_if_ne (tgt := 94) dX9_isBreach_87 (by decide) (fun hc9 => ?_) (fun hc9 => ?_)
        · replace h := rv_iff hc9 h
          refine rv_iconst (v := 0) dX9_isBreach_94 (by decide) ?_
          obtain rfl := Option.some.inj h
          exact rv_zret rfl rfl dX9_isBreach_95 (rv_le rfl) (rv_le rfl) ⟨rfl, rfl⟩
        · replace h := rv_ift hc9 h
          refine rv_iconst (v := 1) dX9_isBreach_90 (by decide) ?_
          refine rv_goto (tgt := 95) dX9_isBreach_91 (by decide) ?_
          obtain rfl := Option.some.inj h
          exact rv_zret rfl rfl dX9_isBreach_95 (rv_le rfl) (rv_le rfl) ⟨rfl, rfl⟩
    · replace h := rv_iff hc6 h
      by_cases hc10 : x1 = 2
      · replace h := rv_ift hc10 h
        refine rv_tabIn (off := 87) (tgt := 96) dX9_isBreach_9 2 hc10 (by decide) (by decide) rfl (by decide) ?_
        refine rv_aload_n dX9_isBreach_96 rfl 1 rfl ?_
        refine rv_iload_n dX9_isBreach_97 rfl 3 rfl ?_
        refine rv_iload_n dX9_isBreach_98 rfl 4 rfl ?_
        obtain ⟨r11, hr11, h⟩ := rv_bind h
        refine rv_callV1 (rest := []) (ct_X9_isRestShort hr11) wm_X9_100 wi_X9_isRestShort wl_X9_isRestShort wc_X9_isRestShort wz_X9 rfl np_X9_isRestShort dX9_isBreach_99 rfl ⟨rv_le rfl, rv_le rfl⟩ ⟨rv_le rfl, rv_le rfl⟩ (rv_le rfl) 0 (wm_0 ta ad μ) cl_X9 ?_
        obtain ⟨hi12, h⟩ := rv_ifn h
        obtain rfl := Option.some.inj h
        exact rv_zret rfl (rv_bzP hi12) dX9_isBreach_102 (rv_le rfl) (rv_le rfl) ⟨rfl, rfl⟩
      · replace h := rv_iff hc10 h
        by_cases hc13 : x1 = 3
        · replace h := rv_ift hc13 h
          refine rv_tabIn (off := 94) (tgt := 103) dX9_isBreach_9 3 hc13 (by decide) (by decide) rfl (by decide) ?_
          refine rv_aload_n dX9_isBreach_103 rfl 1 rfl ?_
          refine rv_iload_n dX9_isBreach_104 rfl 3 rfl ?_
          refine rv_iload_n dX9_isBreach_105 rfl 4 rfl ?_
          refine rv_aload_n dX9_isBreach_106 rfl 1 rfl ?_
          refine gf_X9_33 dX9_isBreach_107 0 (wm_0 ta ad μ) rfl ?_
          refine rv_iconst (v := 1) dX9_isBreach_110 (by decide) ?_
          obtain ⟨r14, hr14, h⟩ := rv_bind h
          refine rv_callV1 (rest := []) (ct_X9_isRow hr14) wm_X9_104 wi_X9_isRow wl_X9_isRow wc_X9_isRow wz_X9 rfl np_X9_isRow dX9_isBreach_111 rfl ⟨rv_le rfl, rv_le rfl⟩ ⟨rv_le rfl, rv_le rfl⟩ (rv_le rfl) 0 (wm_0 ta ad μ) cl_X9 ?_
          obtain ⟨hi15, h⟩ := rv_ifn h
          obtain rfl := Option.some.inj h
          exact rv_zret rfl (rv_bzP hi15) dX9_isBreach_114 (rv_le rfl) (rv_le rfl) ⟨rfl, rfl⟩
        · replace h := rv_iff hc13 h
          by_cases hc16 : x1 = 4
          · replace h := rv_ift hc16 h
            refine rv_tabIn (off := 106) (tgt := 115) dX9_isBreach_9 4 hc16 (by decide) (by decide) rfl (by decide) ?_
            refine rv_aload_n dX9_isBreach_115 rfl 1 rfl ?_
            refine rv_iload_n dX9_isBreach_116 rfl 3 rfl ?_
            refine rv_iload_n dX9_isBreach_117 rfl 4 rfl ?_
            refine rv_aload_n dX9_isBreach_118 rfl 1 rfl ?_
            refine gf_X9_36 dX9_isBreach_119 0 (wm_0 ta ad μ) rfl ?_
            refine rv_iconst (v := 0) dX9_isBreach_122 (by decide) ?_
            obtain ⟨r17, hr17, h⟩ := rv_bind h
            refine rv_callV1 (rest := []) (ct_X9_isRow hr17) wm_X9_104 wi_X9_isRow wl_X9_isRow wc_X9_isRow wz_X9 rfl np_X9_isRow dX9_isBreach_123 rfl ⟨rv_le rfl, rv_le rfl⟩ ⟨rv_le rfl, rv_le rfl⟩ (rv_le rfl) 0 (wm_0 ta ad μ) cl_X9 ?_
            obtain ⟨hi18, h⟩ := rv_ifn h
            obtain rfl := Option.some.inj h
            exact rv_zret rfl (rv_bzP hi18) dX9_isBreach_126 (rv_le rfl) (rv_le rfl) ⟨rfl, rfl⟩
          · replace h := rv_iff hc16 h
            refine rv_tabOut (tgt := 127) dX9_isBreach_9 ?_ (by decide) ?_
            · have e0 := rv_icn hc2
              have e1 := rv_icn hc6
              have e2 := rv_icn hc10
              have e3 := rv_icn hc13
              have e4 := rv_icn hc16
              clear h
              simp only [show (0 : Int32).toInt = 0 from by decide, show (1 : Int32).toInt = 1 from by decide, show (2 : Int32).toInt = 2 from by decide, show (3 : Int32).toInt = 3 from by decide, show (4 : Int32).toInt = 4 from by decide] at *
              omega
            · refine rv_iload_n dX9_isBreach_127 rfl 4 rfl ?_
              refine rv_aload_n dX9_isBreach_128 rfl 1 rfl ?_
              refine gf_X9_39 dX9_isBreach_129 0 (wm_0 ta ad μ) rfl ?_
              refine rv_iadd dX9_isBreach_132 ?_
              refine rv_bipush (v := 8) dX9_isBreach_133 (by decide) ?_
              refine rv_icmp_gt (tgt := 159) dX9_isBreach_135 (by decide) (fun hc19 => ?_) (fun hc19 => ?_)
              · replace h := rv_ift hc19 h
                refine rv_iconst (v := 0) dX9_isBreach_159 (by decide) ?_
                obtain rfl := Option.some.inj h
                exact rv_zret rfl rfl dX9_isBreach_160 (rv_le rfl) (rv_le rfl) ⟨rfl, rfl⟩
              · replace h := rv_iff hc19 h
                refine rv_aload_n dX9_isBreach_138 rfl 1 rfl ?_
                refine rv_iload_n dX9_isBreach_139 rfl 3 rfl ?_
                refine rv_iload_n dX9_isBreach_140 rfl 4 rfl ?_
                refine rv_aload_n dX9_isBreach_141 rfl 1 rfl ?_
                refine gf_X9_39 dX9_isBreach_142 0 (wm_0 ta ad μ) rfl ?_
                obtain ⟨r20, hr20, h⟩ := rv_bind h
                refine rv_callV1 (rest := []) (ct_X9_sumFrom hr20) wm_X9_108 wi_X9_sumFrom wl_X9_sumFrom wc_X9_sumFrom wz_X9 rfl np_X9_sumFrom dX9_isBreach_145 rfl ⟨rv_le rfl, rv_le rfl⟩ ⟨rv_le rfl, rv_le rfl⟩ (rv_le rfl) 0 (wm_0 ta ad μ) cl_X9 ?_
                refine rv_aload_n dX9_isBreach_148 rfl 1 rfl ?_
                refine gf_X9_42 dX9_isBreach_149 0 (wm_0 ta ad μ) rfl ?_
                refine rv_icmp_le (tgt := 159) dX9_isBreach_152 (by decide) (fun hc21 => ?_) (fun hc21 => ?_)
                · replace h := rv_ift hc21 h
                  refine rv_iconst (v := 0) dX9_isBreach_159 (by decide) ?_
                  obtain rfl := Option.some.inj h
                  exact rv_zret rfl rfl dX9_isBreach_160 (rv_le rfl) (rv_le rfl) ⟨rfl, rfl⟩
                · replace h := rv_iff hc21 h
                  refine rv_iconst (v := 1) dX9_isBreach_155 (by decide) ?_
                  refine rv_goto (tgt := 160) dX9_isBreach_156 (by decide) ?_
                  obtain rfl := Option.some.inj h
                  exact rv_zret rfl rfl dX9_isBreach_160 (rv_le rfl) (rv_le rfl) ⟨rfl, rfl⟩
theorem ct_X9_letter {l : Launch} {D : va_G} {ta : Nat → ClassId} {ws : va_W} {x0 : Int32} {r : Int32} (h : f_X9_letter x0 = some r) : rv_C l D (rv_T ta) yX9_letter cX9_letter 1 (some .char) 1 0 0 [.int x0] ws (rv_F (rv_vI r) ws) := by
  refine rv_Cof2 (own := RX9) (lv := [(0, .int x0)]) rfl (by decide) (rv_le rfl) rfl ?_
  unfold f_X9_letter at h
  refine rv_iload_n dX9_letter_0 rfl 0 rfl ?_
  refine rv_if_ne (tgt := 9) dX9_letter_1 (by decide) (fun hc1 => ?_) (fun hc1 => ?_)
  · replace h := rv_iff hc1 h
    refine rv_iload_n dX9_letter_9 rfl 0 rfl ?_
    refine rv_iconst (v := 1) dX9_letter_10 (by decide) ?_
    refine rv_icmp_ne (tgt := 19) dX9_letter_11 (by decide) (fun hc2 => ?_) (fun hc2 => ?_)
    · replace h := rv_iff hc2 h
      refine rv_iload_n dX9_letter_19 rfl 0 rfl ?_
      refine rv_iconst (v := 2) dX9_letter_20 (by decide) ?_
      refine rv_icmp_ne (tgt := 29) dX9_letter_21 (by decide) (fun hc3 => ?_) (fun hc3 => ?_)
      · replace h := rv_iff hc3 h
        refine rv_iload_n dX9_letter_29 rfl 0 rfl ?_
        refine rv_iconst (v := 3) dX9_letter_30 (by decide) ?_
        refine rv_icmp_ne (tgt := 39) dX9_letter_31 (by decide) (fun hc4 => ?_) (fun hc4 => ?_)
        · replace h := rv_iff hc4 h
          refine rv_iload_n dX9_letter_39 rfl 0 rfl ?_
          refine rv_iconst (v := 4) dX9_letter_40 (by decide) ?_
          refine rv_icmp_ne (tgt := 49) dX9_letter_41 (by decide) (fun hc5 => ?_) (fun hc5 => ?_)
          · replace h := rv_iff hc5 h
            refine rv_bipush (v := 104) dX9_letter_49 (by decide) ?_
            obtain rfl := Option.some.inj h
            exact rv_zret rfl rfl dX9_letter_51 (rv_le rfl) (rv_le rfl) ⟨rfl, rfl⟩
          · replace h := rv_ift hc5 h
            refine rv_bipush (v := 119) dX9_letter_44 (by decide) ?_
            refine rv_goto (tgt := 51) dX9_letter_46 (by decide) ?_
            obtain rfl := Option.some.inj h
            exact rv_zret rfl rfl dX9_letter_51 (rv_le rfl) (rv_le rfl) ⟨rfl, rfl⟩
        · replace h := rv_ift hc4 h
          refine rv_bipush (v := 110) dX9_letter_34 (by decide) ?_
          refine rv_goto (tgt := 51) dX9_letter_36 (by decide) ?_
          obtain rfl := Option.some.inj h
          exact rv_zret rfl rfl dX9_letter_51 (rv_le rfl) (rv_le rfl) ⟨rfl, rfl⟩
      · replace h := rv_ift hc3 h
        refine rv_bipush (v := 114) dX9_letter_24 (by decide) ?_
        refine rv_goto (tgt := 51) dX9_letter_26 (by decide) ?_
        obtain rfl := Option.some.inj h
        exact rv_zret rfl rfl dX9_letter_51 (rv_le rfl) (rv_le rfl) ⟨rfl, rfl⟩
    · replace h := rv_ift hc2 h
      refine rv_bipush (v := 107) dX9_letter_14 (by decide) ?_
      refine rv_goto (tgt := 51) dX9_letter_16 (by decide) ?_
      obtain rfl := Option.some.inj h
      exact rv_zret rfl rfl dX9_letter_51 (rv_le rfl) (rv_le rfl) ⟨rfl, rfl⟩
  · replace h := rv_ift hc1 h
    refine rv_bipush (v := 97) dX9_letter_4 (by decide) ?_
    refine rv_goto (tgt := 51) dX9_letter_6 (by decide) ?_
    obtain rfl := Option.some.inj h
    exact rv_zret rfl rfl dX9_letter_51 (rv_le rfl) (rv_le rfl) ⟨rfl, rfl⟩
theorem ct_X9_tells {l : Launch} {D : va_G} {ta : Nat → ClassId} {ad : Nat → Nat} {μ : Mem} {x1 : Int32} {x2 : Int32} {x3 : Int32} {x4 : Int32} {r : (Unit) × Mem} (h : f_X9_tells μ x1 x2 x3 x4 = some r) : rv_C l D (rv_T ta) yX9_tells cX9_tells 5 none 1 0 0 [.ref (ad 0), .int x1, .int x2, .int x3, .int x4] (wm ta ad μ) (rv_F (rv_vU r.1) (wm ta ad r.2)) := by
  refine rv_Cof2 (own := RX9) (lv := [(0, .ref (ad 0)), (1, .int x1), (2, .int x2), (3, .int x3), (4, .int x4)]) rfl (by decide) (rv_le rfl) rfl ?_
  unfold f_X9_tells at h
  refine rv_aload_n dX9_tells_0 rfl 0 rfl ?_
  refine gf_X9_45 dX9_tells_1 0 (wm_0 ta ad μ) rfl ?_
  refine rv_aload_n dX9_tells_4 rfl 0 rfl ?_
  refine gf_X9_112 dX9_tells_5 0 (wm_0 ta ad μ) rfl ?_
  refine rv_iload_n dX9_tells_8 rfl 1 rfl ?_
  obtain ⟨hi1, h⟩ := rv_ifn h
  refine rv_cast dX9_tells_9 3 rfl 7 (wm_7 ta ad μ) (rv_inP hi1) (wm_s7 ta ad μ _ _) ?_
  refine rv_aload_n dX9_tells_10 rfl 0 rfl ?_
  refine gf_X9_49 dX9_tells_11 0 (wm_0 ta ad (mu_up μ 7 (Int32.toNatClampNeg (μ.1 0 14)) (vp_nar .char x1))) rfl ?_
  refine rv_aload_n dX9_tells_14 rfl 0 rfl ?_
  refine gf_X9_112 dX9_tells_15 0 (wm_0 ta ad (mu_up μ 7 (Int32.toNatClampNeg (μ.1 0 14)) (vp_nar .char x1))) rfl ?_
  refine rv_iload_n dX9_tells_18 rfl 2 rfl ?_
  obtain ⟨hi2, h⟩ := rv_ifn h
  refine rv_iast dX9_tells_19 0 rfl 8 (wm_8 ta ad (mu_up μ 7 (Int32.toNatClampNeg (μ.1 0 14)) (vp_nar .char x1))) (rv_inP hi2) (wm_s8 ta ad (mu_up μ 7 (Int32.toNatClampNeg (μ.1 0 14)) (vp_nar .char x1)) _ _) ?_
  refine rv_aload_n dX9_tells_20 rfl 0 rfl ?_
  refine gf_X9_52 dX9_tells_21 0 (wm_0 ta ad (mu_up (mu_up μ 7 (Int32.toNatClampNeg (μ.1 0 14)) (vp_nar .char x1)) 8 (Int32.toNatClampNeg ((mu_up μ 7 (Int32.toNatClampNeg (μ.1 0 14)) (vp_nar .char x1)).1 0 14)) x2)) rfl ?_
  refine rv_aload_n dX9_tells_24 rfl 0 rfl ?_
  refine gf_X9_112 dX9_tells_25 0 (wm_0 ta ad (mu_up (mu_up μ 7 (Int32.toNatClampNeg (μ.1 0 14)) (vp_nar .char x1)) 8 (Int32.toNatClampNeg ((mu_up μ 7 (Int32.toNatClampNeg (μ.1 0 14)) (vp_nar .char x1)).1 0 14)) x2)) rfl ?_
  refine rv_iload_n dX9_tells_28 rfl 3 rfl ?_
  obtain ⟨hi3, h⟩ := rv_ifn h
  refine rv_iast dX9_tells_29 0 rfl 9 (wm_9 ta ad (mu_up (mu_up μ 7 (Int32.toNatClampNeg (μ.1 0 14)) (vp_nar .char x1)) 8 (Int32.toNatClampNeg ((mu_up μ 7 (Int32.toNatClampNeg (μ.1 0 14)) (vp_nar .char x1)).1 0 14)) x2)) (rv_inP hi3) (wm_s9 ta ad (mu_up (mu_up μ 7 (Int32.toNatClampNeg (μ.1 0 14)) (vp_nar .char x1)) 8 (Int32.toNatClampNeg ((mu_up μ 7 (Int32.toNatClampNeg (μ.1 0 14)) (vp_nar .char x1)).1 0 14)) x2) _ _) ?_
  refine rv_aload_n dX9_tells_30 rfl 0 rfl ?_
  refine gf_X9_55 dX9_tells_31 0 (wm_0 ta ad (mu_up (mu_up (mu_up μ 7 (Int32.toNatClampNeg (μ.1 0 14)) (vp_nar .char x1)) 8 (Int32.toNatClampNeg ((mu_up μ 7 (Int32.toNatClampNeg (μ.1 0 14)) (vp_nar .char x1)).1 0 14)) x2) 9 (Int32.toNatClampNeg ((mu_up (mu_up μ 7 (Int32.toNatClampNeg (μ.1 0 14)) (vp_nar .char x1)) 8 (Int32.toNatClampNeg ((mu_up μ 7 (Int32.toNatClampNeg (μ.1 0 14)) (vp_nar .char x1)).1 0 14)) x2).1 0 14)) x3)) rfl ?_
  refine rv_aload_n dX9_tells_34 rfl 0 rfl ?_
  refine gf_X9_112 dX9_tells_35 0 (wm_0 ta ad (mu_up (mu_up (mu_up μ 7 (Int32.toNatClampNeg (μ.1 0 14)) (vp_nar .char x1)) 8 (Int32.toNatClampNeg ((mu_up μ 7 (Int32.toNatClampNeg (μ.1 0 14)) (vp_nar .char x1)).1 0 14)) x2) 9 (Int32.toNatClampNeg ((mu_up (mu_up μ 7 (Int32.toNatClampNeg (μ.1 0 14)) (vp_nar .char x1)) 8 (Int32.toNatClampNeg ((mu_up μ 7 (Int32.toNatClampNeg (μ.1 0 14)) (vp_nar .char x1)).1 0 14)) x2).1 0 14)) x3)) rfl ?_
  refine rv_iload dX9_tells_38 4 rfl ?_
  obtain ⟨hi4, h⟩ := rv_ifn h
  refine rv_iast dX9_tells_40 0 rfl 10 (wm_10 ta ad (mu_up (mu_up (mu_up μ 7 (Int32.toNatClampNeg (μ.1 0 14)) (vp_nar .char x1)) 8 (Int32.toNatClampNeg ((mu_up μ 7 (Int32.toNatClampNeg (μ.1 0 14)) (vp_nar .char x1)).1 0 14)) x2) 9 (Int32.toNatClampNeg ((mu_up (mu_up μ 7 (Int32.toNatClampNeg (μ.1 0 14)) (vp_nar .char x1)) 8 (Int32.toNatClampNeg ((mu_up μ 7 (Int32.toNatClampNeg (μ.1 0 14)) (vp_nar .char x1)).1 0 14)) x2).1 0 14)) x3)) (rv_inP hi4) (wm_s10 ta ad (mu_up (mu_up (mu_up μ 7 (Int32.toNatClampNeg (μ.1 0 14)) (vp_nar .char x1)) 8 (Int32.toNatClampNeg ((mu_up μ 7 (Int32.toNatClampNeg (μ.1 0 14)) (vp_nar .char x1)).1 0 14)) x2) 9 (Int32.toNatClampNeg ((mu_up (mu_up μ 7 (Int32.toNatClampNeg (μ.1 0 14)) (vp_nar .char x1)) 8 (Int32.toNatClampNeg ((mu_up μ 7 (Int32.toNatClampNeg (μ.1 0 14)) (vp_nar .char x1)).1 0 14)) x2).1 0 14)) x3) _ _) ?_
  refine rv_aload_n dX9_tells_41 rfl 0 rfl ?_
  refine rv_dup dX9_tells_42 rfl ?_
  refine gf_X9_112 dX9_tells_43 0 (wm_0 ta ad (mu_up (mu_up (mu_up (mu_up μ 7 (Int32.toNatClampNeg (μ.1 0 14)) (vp_nar .char x1)) 8 (Int32.toNatClampNeg ((mu_up μ 7 (Int32.toNatClampNeg (μ.1 0 14)) (vp_nar .char x1)).1 0 14)) x2) 9 (Int32.toNatClampNeg ((mu_up (mu_up μ 7 (Int32.toNatClampNeg (μ.1 0 14)) (vp_nar .char x1)) 8 (Int32.toNatClampNeg ((mu_up μ 7 (Int32.toNatClampNeg (μ.1 0 14)) (vp_nar .char x1)).1 0 14)) x2).1 0 14)) x3) 10 (Int32.toNatClampNeg ((mu_up (mu_up (mu_up μ 7 (Int32.toNatClampNeg (μ.1 0 14)) (vp_nar .char x1)) 8 (Int32.toNatClampNeg ((mu_up μ 7 (Int32.toNatClampNeg (μ.1 0 14)) (vp_nar .char x1)).1 0 14)) x2) 9 (Int32.toNatClampNeg ((mu_up (mu_up μ 7 (Int32.toNatClampNeg (μ.1 0 14)) (vp_nar .char x1)) 8 (Int32.toNatClampNeg ((mu_up μ 7 (Int32.toNatClampNeg (μ.1 0 14)) (vp_nar .char x1)).1 0 14)) x2).1 0 14)) x3).1 0 14)) x4)) rfl ?_
  refine rv_iconst (v := 1) dX9_tells_46 (by decide) ?_
  refine rv_iadd dX9_tells_47 ?_
  refine pf_X9_112 dX9_tells_48 0 (wm_0 ta ad (mu_up (mu_up (mu_up (mu_up μ 7 (Int32.toNatClampNeg (μ.1 0 14)) (vp_nar .char x1)) 8 (Int32.toNatClampNeg ((mu_up μ 7 (Int32.toNatClampNeg (μ.1 0 14)) (vp_nar .char x1)).1 0 14)) x2) 9 (Int32.toNatClampNeg ((mu_up (mu_up μ 7 (Int32.toNatClampNeg (μ.1 0 14)) (vp_nar .char x1)) 8 (Int32.toNatClampNeg ((mu_up μ 7 (Int32.toNatClampNeg (μ.1 0 14)) (vp_nar .char x1)).1 0 14)) x2).1 0 14)) x3) 10 (Int32.toNatClampNeg ((mu_up (mu_up (mu_up μ 7 (Int32.toNatClampNeg (μ.1 0 14)) (vp_nar .char x1)) 8 (Int32.toNatClampNeg ((mu_up μ 7 (Int32.toNatClampNeg (μ.1 0 14)) (vp_nar .char x1)).1 0 14)) x2) 9 (Int32.toNatClampNeg ((mu_up (mu_up μ 7 (Int32.toNatClampNeg (μ.1 0 14)) (vp_nar .char x1)) 8 (Int32.toNatClampNeg ((mu_up μ 7 (Int32.toNatClampNeg (μ.1 0 14)) (vp_nar .char x1)).1 0 14)) x2).1 0 14)) x3).1 0 14)) x4)) (rv_le rfl) (wm_f0_14 ta ad (mu_up (mu_up (mu_up (mu_up μ 7 (Int32.toNatClampNeg (μ.1 0 14)) (vp_nar .char x1)) 8 (Int32.toNatClampNeg ((mu_up μ 7 (Int32.toNatClampNeg (μ.1 0 14)) (vp_nar .char x1)).1 0 14)) x2) 9 (Int32.toNatClampNeg ((mu_up (mu_up μ 7 (Int32.toNatClampNeg (μ.1 0 14)) (vp_nar .char x1)) 8 (Int32.toNatClampNeg ((mu_up μ 7 (Int32.toNatClampNeg (μ.1 0 14)) (vp_nar .char x1)).1 0 14)) x2).1 0 14)) x3) 10 (Int32.toNatClampNeg ((mu_up (mu_up (mu_up μ 7 (Int32.toNatClampNeg (μ.1 0 14)) (vp_nar .char x1)) 8 (Int32.toNatClampNeg ((mu_up μ 7 (Int32.toNatClampNeg (μ.1 0 14)) (vp_nar .char x1)).1 0 14)) x2) 9 (Int32.toNatClampNeg ((mu_up (mu_up μ 7 (Int32.toNatClampNeg (μ.1 0 14)) (vp_nar .char x1)) 8 (Int32.toNatClampNeg ((mu_up μ 7 (Int32.toNatClampNeg (μ.1 0 14)) (vp_nar .char x1)).1 0 14)) x2).1 0 14)) x3).1 0 14)) x4) (((mu_up (mu_up (mu_up (mu_up μ 7 (Int32.toNatClampNeg (μ.1 0 14)) (vp_nar .char x1)) 8 (Int32.toNatClampNeg ((mu_up μ 7 (Int32.toNatClampNeg (μ.1 0 14)) (vp_nar .char x1)).1 0 14)) x2) 9 (Int32.toNatClampNeg ((mu_up (mu_up μ 7 (Int32.toNatClampNeg (μ.1 0 14)) (vp_nar .char x1)) 8 (Int32.toNatClampNeg ((mu_up μ 7 (Int32.toNatClampNeg (μ.1 0 14)) (vp_nar .char x1)).1 0 14)) x2).1 0 14)) x3) 10 (Int32.toNatClampNeg ((mu_up (mu_up (mu_up μ 7 (Int32.toNatClampNeg (μ.1 0 14)) (vp_nar .char x1)) 8 (Int32.toNatClampNeg ((mu_up μ 7 (Int32.toNatClampNeg (μ.1 0 14)) (vp_nar .char x1)).1 0 14)) x2) 9 (Int32.toNatClampNeg ((mu_up (mu_up μ 7 (Int32.toNatClampNeg (μ.1 0 14)) (vp_nar .char x1)) 8 (Int32.toNatClampNeg ((mu_up μ 7 (Int32.toNatClampNeg (μ.1 0 14)) (vp_nar .char x1)).1 0 14)) x2).1 0 14)) x3).1 0 14)) x4).1 0 14) + 1)) ?_
  obtain rfl := Option.some.inj h
  exact rv_vret rfl dX9_tells_51 (rv_le rfl) (rv_le rfl) ⟨rfl, rfl⟩
theorem vB_X9_tellsAll_80 {l : Launch} {D : va_G} {ta : Nat → ClassId} {ad : Nat → Nat} {x1 : Int32} {k72 : Mem → Int32 → Option ((Unit) × Mem)} (hk72 : ∀ {μ : Mem} {x1 : Int32} {r : (Unit) × Mem}, k72 μ x1 = some r → rv_V l D (rv_T ta) RX9 cX9_tellsAll 4 none ("", []) (rv_rm 6 0 0) (rv_M D (rv_F (rv_vU r.1) (wm ta ad r.2)) 0 0) 0 0 (wm ta ad μ) 72 [(0, .ref (ad 0)), (1, .int x1)] []) {k80 : Mem → Int32 → Option ((Unit) × Mem)} (hk80 : ∀ {μ : Mem} {x2 : Int32} {r : (Unit) × Mem}, k80 μ x2 = some r → rv_V l D (rv_T ta) RX9 cX9_tellsAll 4 none ("", []) (rv_rm 6 0 0) (rv_M D (rv_F (rv_vU r.1) (wm ta ad r.2)) 0 0) 0 0 (wm ta ad μ) 80 [(0, .ref (ad 0)), (1, .int x1), (2, .int x2)] []) {μ : Mem} {x2 : Int32} {r : (Unit) × Mem} (h : B_X9_tellsAll_80 x1 k72 k80 μ x2 = some r) : rv_V l D (rv_T ta) RX9 cX9_tellsAll 4 none ("", []) (rv_rm 6 0 0) (rv_M D (rv_F (rv_vU r.1) (wm ta ad r.2)) 0 0) 0 0 (wm ta ad μ) 80 [(0, .ref (ad 0)), (1, .int x1), (2, .int x2)] [] := by
  unfold B_X9_tellsAll_80 at h
  refine rv_iload_n dX9_tellsAll_80 rfl 2 rfl ?_
  refine rv_aload_n dX9_tellsAll_81 rfl 0 rfl ?_
  refine gf_X9_83 dX9_tellsAll_82 0 (wm_0 ta ad μ) rfl ?_
  refine rv_icmp_ge (tgt := 122) dX9_tellsAll_85 (by decide) (fun hc3 => ?_) (fun hc3 => ?_)
  · replace h := rv_ift hc3 h
    refine rv_iinc (v := (x1 + 1)) (lv2 := [(1, .int (x1 + 1)), (0, .ref (ad 0)), (2, .int x2)]) dX9_tellsAll_122 1 rfl rfl (by decide) rfl ?_
    refine rv_goto (tgt := 72) dX9_tellsAll_125 (by decide) ?_
    refine rv_sub [1, 0] rfl ?_
    exact hk72 h
  · replace h := rv_iff hc3 h
    refine rv_aload_n dX9_tellsAll_88 rfl 0 rfl ?_
    refine rv_iload_n dX9_tellsAll_89 rfl 1 rfl ?_
    refine rv_iload_n dX9_tellsAll_90 rfl 2 rfl ?_
    obtain ⟨r4, hr4, h⟩ := rv_bind h
    refine rv_callV1 (rest := []) (ct_X9_onShift hr4) wm_X9_126 wi_X9_onShift wl_X9_onShift wc_X9_onShift wz_X9 rfl np_X9_onShift dX9_tellsAll_91 rfl ⟨rv_le rfl, rv_le rfl⟩ ⟨rv_le rfl, rv_le rfl⟩ (rv_le rfl) 0 (wm_0 ta ad μ) cl_X9 ?_
    refine rv_aload_n dX9_tellsAll_94 rfl 0 rfl ?_
    refine gf_X9_26 dX9_tellsAll_95 0 (wm_0 ta ad μ) rfl ?_
    refine rv_iconst (v := 3) dX9_tellsAll_98 (by decide) ?_
    refine rv_iload_n dX9_tellsAll_99 rfl 1 rfl ?_
    refine rv_imul dX9_tellsAll_100 ?_
    refine rv_iload_n dX9_tellsAll_101 rfl 2 rfl ?_
    refine rv_iadd dX9_tellsAll_102 ?_
    obtain ⟨hi5, h⟩ := rv_ifn h
    refine rv_iald dX9_tellsAll_103 0 rfl 6 (wm_6 ta ad μ) (rv_inP hi5) ?_
    refine rv_icmp_ge (tgt := 116) dX9_tellsAll_104 (by decide) (fun hc6 => ?_) (fun hc6 => ?_)
    · replace h := rv_ift hc6 h
      refine rv_iinc (v := (x2 + 1)) (lv2 := [(2, .int (x2 + 1)), (0, .ref (ad 0)), (1, .int x1)]) dX9_tellsAll_116 2 rfl rfl (by decide) rfl ?_
      refine rv_goto (tgt := 80) dX9_tellsAll_119 (by decide) ?_
      refine rv_sub [1, 2, 0] rfl ?_
      exact hk80 h
    · replace h := rv_iff hc6 h
      refine rv_aload_n dX9_tellsAll_107 rfl 0 rfl ?_
      refine rv_bipush (v := 100) dX9_tellsAll_108 (by decide) ?_
      refine rv_iconst (v := (-1)) dX9_tellsAll_110 (by decide) ?_
      refine rv_iload_n dX9_tellsAll_111 rfl 1 rfl ?_
      refine rv_iload_n dX9_tellsAll_112 rfl 2 rfl ?_
      obtain ⟨r7, hr7, h⟩ := rv_bind h
      refine rv_callV0 (rest := []) (ct_X9_tells hr7) wm_X9_122 wi_X9_tells wl_X9_tells wc_X9_tells wz_X9 rfl np_X9_tells dX9_tellsAll_113 rfl ⟨rv_le rfl, rv_le rfl⟩ ⟨rv_le rfl, rv_le rfl⟩ (rv_le rfl) 0 (wm_0 ta ad μ) cl_X9 ?_
      refine rv_iinc (v := (x2 + 1)) (lv2 := [(2, .int (x2 + 1)), (0, .ref (ad 0)), (1, .int x1)]) dX9_tellsAll_116 2 rfl rfl (by decide) rfl ?_
      refine rv_goto (tgt := 80) dX9_tellsAll_119 (by decide) ?_
      refine rv_sub [1, 2, 0] rfl ?_
      exact hk80 h
theorem vh_X9_tellsAll_80 {l : Launch} {D : va_G} {ta : Nat → ClassId} {ad : Nat → Nat} {x1 : Int32} {k72 : Mem → Int32 → Option ((Unit) × Mem)} (hk72 : ∀ {μ : Mem} {x1 : Int32} {r : (Unit) × Mem}, k72 μ x1 = some r → rv_V l D (rv_T ta) RX9 cX9_tellsAll 4 none ("", []) (rv_rm 6 0 0) (rv_M D (rv_F (rv_vU r.1) (wm ta ad r.2)) 0 0) 0 0 (wm ta ad μ) 72 [(0, .ref (ad 0)), (1, .int x1)] []) {n : Nat} {μ : Mem} {x2 : Int32} {r : (Unit) × Mem} (h : rv_loop (B_X9_tellsAll_80 x1 k72) (fun _ _ => none) n μ x2 = some r) : rv_V l D (rv_T ta) RX9 cX9_tellsAll 4 none ("", []) (rv_rm 6 0 0) (rv_M D (rv_F (rv_vU r.1) (wm ta ad r.2)) 0 0) 0 0 (wm ta ad μ) 80 [(0, .ref (ad 0)), (1, .int x1), (2, .int x2)] [] := by
  induction n generalizing μ x2 r with
  | zero => cases h
  | succ n ih => exact vB_X9_tellsAll_80 hk72 (fun h9 => ih h9) h
theorem vB_X9_tellsAll_72 {l : Launch} {D : va_G} {ta : Nat → ClassId} {ad : Nat → Nat} {k72 : Mem → Int32 → Option ((Unit) × Mem)} (hk72 : ∀ {μ : Mem} {x1 : Int32} {r : (Unit) × Mem}, k72 μ x1 = some r → rv_V l D (rv_T ta) RX9 cX9_tellsAll 4 none ("", []) (rv_rm 6 0 0) (rv_M D (rv_F (rv_vU r.1) (wm ta ad r.2)) 0 0) 0 0 (wm ta ad μ) 72 [(0, .ref (ad 0)), (1, .int x1)] []) {μ : Mem} {x1 : Int32} {r : (Unit) × Mem} (h : B_X9_tellsAll_72 k72 μ x1 = some r) : rv_V l D (rv_T ta) RX9 cX9_tellsAll 4 none ("", []) (rv_rm 6 0 0) (rv_M D (rv_F (rv_vU r.1) (wm ta ad r.2)) 0 0) 0 0 (wm ta ad μ) 72 [(0, .ref (ad 0)), (1, .int x1)] [] := by
  unfold B_X9_tellsAll_72 at h
  refine rv_iload_n dX9_tellsAll_72 rfl 1 rfl ?_
  refine rv_bipush (v := 8) dX9_tellsAll_73 (by decide) ?_
  refine rv_icmp_ge (tgt := 128) dX9_tellsAll_75 (by decide) (fun hc2 => ?_) (fun hc2 => ?_)
  · replace h := rv_ift hc2 h
    obtain rfl := Option.some.inj h
    exact rv_vret rfl dX9_tellsAll_128 (rv_le rfl) (rv_le rfl) ⟨rfl, rfl⟩
  · replace h := rv_iff hc2 h
    refine rv_iconst (v := 0) dX9_tellsAll_78 (by decide) ?_
    refine rv_istore_n (lv2 := [(2, .int 0), (0, .ref (ad 0)), (1, .int x1)]) dX9_tellsAll_79 rfl (by decide) rfl ?_
    refine rv_sub [1, 2, 0] rfl ?_
    exact vh_X9_tellsAll_80 hk72 h
theorem vh_X9_tellsAll_72 {l : Launch} {D : va_G} {ta : Nat → ClassId} {ad : Nat → Nat} {n : Nat} {μ : Mem} {x1 : Int32} {r : (Unit) × Mem} (h : rv_loop (B_X9_tellsAll_72) (fun _ _ => none) n μ x1 = some r) : rv_V l D (rv_T ta) RX9 cX9_tellsAll 4 none ("", []) (rv_rm 6 0 0) (rv_M D (rv_F (rv_vU r.1) (wm ta ad r.2)) 0 0) 0 0 (wm ta ad μ) 72 [(0, .ref (ad 0)), (1, .int x1)] [] := by
  induction n generalizing μ x1 r with
  | zero => cases h
  | succ n ih => exact vB_X9_tellsAll_72 (fun h9 => ih h9) h
theorem vB_X9_tellsAll_25 {l : Launch} {D : va_G} {ta : Nat → ClassId} {ad : Nat → Nat} {x1 : Int32} {x2 : Int32} {k7 : Mem → Int32 → Option ((Unit) × Mem)} {k15 : Mem → Int32 → Option ((Unit) × Mem)} (hk7 : ∀ {μ : Mem} {x1 : Int32} {r : (Unit) × Mem}, k7 μ x1 = some r → rv_V l D (rv_T ta) RX9 cX9_tellsAll 4 none ("", []) (rv_rm 6 0 0) (rv_M D (rv_F (rv_vU r.1) (wm ta ad r.2)) 0 0) 0 0 (wm ta ad μ) 7 [(0, .ref (ad 0)), (1, .int x1)] []) (hk15 : ∀ {μ : Mem} {x2 : Int32} {r : (Unit) × Mem}, k15 μ x2 = some r → rv_V l D (rv_T ta) RX9 cX9_tellsAll 4 none ("", []) (rv_rm 6 0 0) (rv_M D (rv_F (rv_vU r.1) (wm ta ad r.2)) 0 0) 0 0 (wm ta ad μ) 15 [(0, .ref (ad 0)), (1, .int x1), (2, .int x2)] []) {k25 : Mem → Int32 → Option ((Unit) × Mem)} (hk25 : ∀ {μ : Mem} {x3 : Int32} {r : (Unit) × Mem}, k25 μ x3 = some r → rv_V l D (rv_T ta) RX9 cX9_tellsAll 4 none ("", []) (rv_rm 6 0 0) (rv_M D (rv_F (rv_vU r.1) (wm ta ad r.2)) 0 0) 0 0 (wm ta ad μ) 25 [(0, .ref (ad 0)), (1, .int x1), (2, .int x2), (3, .int x3)] []) {μ : Mem} {x3 : Int32} {r : (Unit) × Mem} (h : B_X9_tellsAll_25 x1 x2 k7 k15 k25 μ x3 = some r) : rv_V l D (rv_T ta) RX9 cX9_tellsAll 4 none ("", []) (rv_rm 6 0 0) (rv_M D (rv_F (rv_vU r.1) (wm ta ad r.2)) 0 0) 0 0 (wm ta ad μ) 25 [(0, .ref (ad 0)), (1, .int x1), (2, .int x2), (3, .int x3)] [] := by
  unfold B_X9_tellsAll_25 at h
  refine rv_iload_n dX9_tellsAll_25 rfl 3 rfl ?_
  refine rv_bipush (v := 8) dX9_tellsAll_26 (by decide) ?_
  refine rv_icmp_ge (tgt := 58) dX9_tellsAll_28 (by decide) (fun hc9 => ?_) (fun hc9 => ?_)
  · replace h := rv_ift hc9 h
    refine rv_iinc (v := (x2 + 1)) (lv2 := [(2, .int (x2 + 1)), (0, .ref (ad 0)), (1, .int x1), (3, .int x3)]) dX9_tellsAll_58 2 rfl rfl (by decide) rfl ?_
    refine rv_goto (tgt := 15) dX9_tellsAll_61 (by decide) ?_
    refine rv_sub [1, 2, 0] rfl ?_
    exact hk15 h
  · replace h := rv_iff hc9 h
    refine rv_aload_n dX9_tellsAll_31 rfl 0 rfl ?_
    refine rv_iload_n dX9_tellsAll_32 rfl 1 rfl ?_
    refine rv_iload_n dX9_tellsAll_33 rfl 2 rfl ?_
    refine rv_iload_n dX9_tellsAll_34 rfl 3 rfl ?_
    obtain ⟨r10, hr10, h⟩ := rv_bind h
    refine rv_callV1 (rest := []) (ct_X9_isBreach hr10) wm_X9_115 wi_X9_isBreach wl_X9_isBreach wc_X9_isBreach wz_X9 rfl np_X9_isBreach dX9_tellsAll_35 rfl ⟨rv_le rfl, rv_le rfl⟩ ⟨rv_le rfl, rv_le rfl⟩ (rv_le rfl) 0 (wm_0 ta ad μ) cl_X9 ?_
    refine rv_if_eq (tgt := 52) dX9_tellsAll_38 (by decide) (fun hc11 => ?_) (fun hc11 => ?_)
    · replace h := rv_ift hc11 h
      refine rv_iinc (v := (x3 + 1)) (lv2 := [(3, .int (x3 + 1)), (0, .ref (ad 0)), (1, .int x1), (2, .int x2)]) dX9_tellsAll_52 3 rfl rfl (by decide) rfl ?_
      refine rv_goto (tgt := 25) dX9_tellsAll_55 (by decide) ?_
      refine rv_sub [1, 2, 3, 0] rfl ?_
      exact hk25 h
    · replace h := rv_iff hc11 h
      refine rv_aload_n dX9_tellsAll_41 rfl 0 rfl ?_
      refine rv_iload_n dX9_tellsAll_42 rfl 1 rfl ?_
      obtain ⟨r12, hr12, h⟩ := rv_bind h
      refine rv_callS1 (rest := [.ref (ad 0)]) (ct_X9_letter hr12) wm_X9_118 ws_X9_letter wc_X9_letter wz_X9 np_X9_letter dX9_tellsAll_43 rfl ⟨rv_le rfl, rv_le rfl⟩ ⟨rv_le rfl, rv_le rfl⟩ (rv_le rfl) ?_
      refine rv_iload_n dX9_tellsAll_46 rfl 2 rfl ?_
      refine rv_iload_n dX9_tellsAll_47 rfl 3 rfl ?_
      refine rv_iconst (v := (-1)) dX9_tellsAll_48 (by decide) ?_
      obtain ⟨r13, hr13, h⟩ := rv_bind h
      refine rv_callV0 (rest := []) (ct_X9_tells hr13) wm_X9_122 wi_X9_tells wl_X9_tells wc_X9_tells wz_X9 rfl np_X9_tells dX9_tellsAll_49 rfl ⟨rv_le rfl, rv_le rfl⟩ ⟨rv_le rfl, rv_le rfl⟩ (rv_le rfl) 0 (wm_0 ta ad μ) cl_X9 ?_
      refine rv_iinc (v := (x3 + 1)) (lv2 := [(3, .int (x3 + 1)), (0, .ref (ad 0)), (1, .int x1), (2, .int x2)]) dX9_tellsAll_52 3 rfl rfl (by decide) rfl ?_
      refine rv_goto (tgt := 25) dX9_tellsAll_55 (by decide) ?_
      refine rv_sub [1, 2, 3, 0] rfl ?_
      exact hk25 h
theorem vh_X9_tellsAll_25 {l : Launch} {D : va_G} {ta : Nat → ClassId} {ad : Nat → Nat} {x1 : Int32} {x2 : Int32} {k7 : Mem → Int32 → Option ((Unit) × Mem)} {k15 : Mem → Int32 → Option ((Unit) × Mem)} (hk7 : ∀ {μ : Mem} {x1 : Int32} {r : (Unit) × Mem}, k7 μ x1 = some r → rv_V l D (rv_T ta) RX9 cX9_tellsAll 4 none ("", []) (rv_rm 6 0 0) (rv_M D (rv_F (rv_vU r.1) (wm ta ad r.2)) 0 0) 0 0 (wm ta ad μ) 7 [(0, .ref (ad 0)), (1, .int x1)] []) (hk15 : ∀ {μ : Mem} {x2 : Int32} {r : (Unit) × Mem}, k15 μ x2 = some r → rv_V l D (rv_T ta) RX9 cX9_tellsAll 4 none ("", []) (rv_rm 6 0 0) (rv_M D (rv_F (rv_vU r.1) (wm ta ad r.2)) 0 0) 0 0 (wm ta ad μ) 15 [(0, .ref (ad 0)), (1, .int x1), (2, .int x2)] []) {n : Nat} {μ : Mem} {x3 : Int32} {r : (Unit) × Mem} (h : rv_loop (B_X9_tellsAll_25 x1 x2 k7 k15) (fun _ _ => none) n μ x3 = some r) : rv_V l D (rv_T ta) RX9 cX9_tellsAll 4 none ("", []) (rv_rm 6 0 0) (rv_M D (rv_F (rv_vU r.1) (wm ta ad r.2)) 0 0) 0 0 (wm ta ad μ) 25 [(0, .ref (ad 0)), (1, .int x1), (2, .int x2), (3, .int x3)] [] := by
  induction n generalizing μ x3 r with
  | zero => cases h
  | succ n ih => exact vB_X9_tellsAll_25 hk7 hk15 (fun h9 => ih h9) h
theorem vB_X9_tellsAll_15 {l : Launch} {D : va_G} {ta : Nat → ClassId} {ad : Nat → Nat} {x1 : Int32} {k7 : Mem → Int32 → Option ((Unit) × Mem)} (hk7 : ∀ {μ : Mem} {x1 : Int32} {r : (Unit) × Mem}, k7 μ x1 = some r → rv_V l D (rv_T ta) RX9 cX9_tellsAll 4 none ("", []) (rv_rm 6 0 0) (rv_M D (rv_F (rv_vU r.1) (wm ta ad r.2)) 0 0) 0 0 (wm ta ad μ) 7 [(0, .ref (ad 0)), (1, .int x1)] []) {k15 : Mem → Int32 → Option ((Unit) × Mem)} (hk15 : ∀ {μ : Mem} {x2 : Int32} {r : (Unit) × Mem}, k15 μ x2 = some r → rv_V l D (rv_T ta) RX9 cX9_tellsAll 4 none ("", []) (rv_rm 6 0 0) (rv_M D (rv_F (rv_vU r.1) (wm ta ad r.2)) 0 0) 0 0 (wm ta ad μ) 15 [(0, .ref (ad 0)), (1, .int x1), (2, .int x2)] []) {μ : Mem} {x2 : Int32} {r : (Unit) × Mem} (h : B_X9_tellsAll_15 x1 k7 k15 μ x2 = some r) : rv_V l D (rv_T ta) RX9 cX9_tellsAll 4 none ("", []) (rv_rm 6 0 0) (rv_M D (rv_F (rv_vU r.1) (wm ta ad r.2)) 0 0) 0 0 (wm ta ad μ) 15 [(0, .ref (ad 0)), (1, .int x1), (2, .int x2)] [] := by
  unfold B_X9_tellsAll_15 at h
  refine rv_iload_n dX9_tellsAll_15 rfl 2 rfl ?_
  refine rv_aload_n dX9_tellsAll_16 rfl 0 rfl ?_
  refine gf_X9_76 dX9_tellsAll_17 0 (wm_0 ta ad μ) rfl ?_
  refine rv_icmp_ge (tgt := 64) dX9_tellsAll_20 (by decide) (fun hc8 => ?_) (fun hc8 => ?_)
  · replace h := rv_ift hc8 h
    refine rv_iinc (v := (x1 + 1)) (lv2 := [(1, .int (x1 + 1)), (0, .ref (ad 0)), (2, .int x2)]) dX9_tellsAll_64 1 rfl rfl (by decide) rfl ?_
    refine rv_goto (tgt := 7) dX9_tellsAll_67 (by decide) ?_
    refine rv_sub [1, 0] rfl ?_
    exact hk7 h
  · replace h := rv_iff hc8 h
    refine rv_iconst (v := 0) dX9_tellsAll_23 (by decide) ?_
    refine rv_istore_n (lv2 := [(3, .int 0), (0, .ref (ad 0)), (1, .int x1), (2, .int x2)]) dX9_tellsAll_24 rfl (by decide) rfl ?_
    refine rv_sub [1, 2, 3, 0] rfl ?_
    exact vh_X9_tellsAll_25 hk7 hk15 h
theorem vh_X9_tellsAll_15 {l : Launch} {D : va_G} {ta : Nat → ClassId} {ad : Nat → Nat} {x1 : Int32} {k7 : Mem → Int32 → Option ((Unit) × Mem)} (hk7 : ∀ {μ : Mem} {x1 : Int32} {r : (Unit) × Mem}, k7 μ x1 = some r → rv_V l D (rv_T ta) RX9 cX9_tellsAll 4 none ("", []) (rv_rm 6 0 0) (rv_M D (rv_F (rv_vU r.1) (wm ta ad r.2)) 0 0) 0 0 (wm ta ad μ) 7 [(0, .ref (ad 0)), (1, .int x1)] []) {n : Nat} {μ : Mem} {x2 : Int32} {r : (Unit) × Mem} (h : rv_loop (B_X9_tellsAll_15 x1 k7) (fun _ _ => none) n μ x2 = some r) : rv_V l D (rv_T ta) RX9 cX9_tellsAll 4 none ("", []) (rv_rm 6 0 0) (rv_M D (rv_F (rv_vU r.1) (wm ta ad r.2)) 0 0) 0 0 (wm ta ad μ) 15 [(0, .ref (ad 0)), (1, .int x1), (2, .int x2)] [] := by
  induction n generalizing μ x2 r with
  | zero => cases h
  | succ n ih => exact vB_X9_tellsAll_15 hk7 (fun h9 => ih h9) h
theorem vB_X9_tellsAll_7 {l : Launch} {D : va_G} {ta : Nat → ClassId} {ad : Nat → Nat} {k7 : Mem → Int32 → Option ((Unit) × Mem)} (hk7 : ∀ {μ : Mem} {x1 : Int32} {r : (Unit) × Mem}, k7 μ x1 = some r → rv_V l D (rv_T ta) RX9 cX9_tellsAll 4 none ("", []) (rv_rm 6 0 0) (rv_M D (rv_F (rv_vU r.1) (wm ta ad r.2)) 0 0) 0 0 (wm ta ad μ) 7 [(0, .ref (ad 0)), (1, .int x1)] []) {μ : Mem} {x1 : Int32} {r : (Unit) × Mem} (h : B_X9_tellsAll_7 k7 μ x1 = some r) : rv_V l D (rv_T ta) RX9 cX9_tellsAll 4 none ("", []) (rv_rm 6 0 0) (rv_M D (rv_F (rv_vU r.1) (wm ta ad r.2)) 0 0) 0 0 (wm ta ad μ) 7 [(0, .ref (ad 0)), (1, .int x1)] [] := by
  unfold B_X9_tellsAll_7 at h
  refine rv_iload_n dX9_tellsAll_7 rfl 1 rfl ?_
  refine rv_bipush (v := 6) dX9_tellsAll_8 (by decide) ?_
  refine rv_icmp_ge (tgt := 70) dX9_tellsAll_10 (by decide) (fun hc1 => ?_) (fun hc1 => ?_)
  · replace h := rv_ift hc1 h
    refine rv_iconst (v := 0) dX9_tellsAll_70 (by decide) ?_
    refine rv_istore_n (lv2 := [(1, .int 0), (0, .ref (ad 0))]) dX9_tellsAll_71 rfl (by decide) rfl ?_
    refine rv_sub [1, 0] rfl ?_
    exact vh_X9_tellsAll_72 h
  · replace h := rv_iff hc1 h
    refine rv_iconst (v := 0) dX9_tellsAll_13 (by decide) ?_
    refine rv_istore_n (lv2 := [(2, .int 0), (0, .ref (ad 0)), (1, .int x1)]) dX9_tellsAll_14 rfl (by decide) rfl ?_
    refine rv_sub [1, 2, 0] rfl ?_
    exact vh_X9_tellsAll_15 hk7 h
theorem vh_X9_tellsAll_7 {l : Launch} {D : va_G} {ta : Nat → ClassId} {ad : Nat → Nat} {n : Nat} {μ : Mem} {x1 : Int32} {r : (Unit) × Mem} (h : rv_loop (B_X9_tellsAll_7) (fun _ _ => none) n μ x1 = some r) : rv_V l D (rv_T ta) RX9 cX9_tellsAll 4 none ("", []) (rv_rm 6 0 0) (rv_M D (rv_F (rv_vU r.1) (wm ta ad r.2)) 0 0) 0 0 (wm ta ad μ) 7 [(0, .ref (ad 0)), (1, .int x1)] [] := by
  induction n generalizing μ x1 r with
  | zero => cases h
  | succ n ih => exact vB_X9_tellsAll_7 (fun h9 => ih h9) h
theorem ct_X9_tellsAll {l : Launch} {D : va_G} {ta : Nat → ClassId} {ad : Nat → Nat} {μ : Mem} {r : (Unit) × Mem} (h : f_X9_tellsAll μ = some r) : rv_C l D (rv_T ta) yX9_tellsAll cX9_tellsAll 4 none 6 0 0 [.ref (ad 0)] (wm ta ad μ) (rv_F (rv_vU r.1) (wm ta ad r.2)) := by
  refine rv_Cof2 (own := RX9) (lv := [(0, .ref (ad 0))]) rfl (by decide) (rv_le rfl) rfl ?_
  unfold f_X9_tellsAll at h
  refine rv_aload_n dX9_tellsAll_0 rfl 0 rfl ?_
  refine rv_iconst (v := 0) dX9_tellsAll_1 (by decide) ?_
  refine pf_X9_112 dX9_tellsAll_2 0 (wm_0 ta ad μ) (rv_le rfl) (wm_f0_14 ta ad μ 0) ?_
  refine rv_iconst (v := 0) dX9_tellsAll_5 (by decide) ?_
  refine rv_istore_n (lv2 := [(1, .int 0), (0, .ref (ad 0))]) dX9_tellsAll_6 rfl (by decide) rfl ?_
  refine rv_sub [1, 0] rfl ?_
  exact vh_X9_tellsAll_7 h
theorem vB_X9_isLawful_61 {l : Launch} {D : va_G} {ta : Nat → ClassId} {ad : Nat → Nat} {μ : Mem} {x1 : Int32} {k53 : Int32 → Option (Int32)} (hk53 : ∀ {x1 : Int32} {r : Int32}, k53 x1 = some r → rv_V l D (rv_T ta) RX9 cX9_isLawful 3 (some .boolean) ("", []) (rv_rm 6 0 0) (rv_M D (rv_F (rv_vI r) (wm ta ad μ)) 0 0) 0 0 (wm ta ad μ) 53 [(0, .ref (ad 0)), (1, .int x1)] []) {k61 : Int32 → Option (Int32)} (hk61 : ∀ {x2 : Int32} {r : Int32}, k61 x2 = some r → rv_V l D (rv_T ta) RX9 cX9_isLawful 3 (some .boolean) ("", []) (rv_rm 6 0 0) (rv_M D (rv_F (rv_vI r) (wm ta ad μ)) 0 0) 0 0 (wm ta ad μ) 61 [(0, .ref (ad 0)), (1, .int x1), (2, .int x2)] []) {x2 : Int32} {r : Int32} (h : B_X9_isLawful_61 μ x1 k53 k61 x2 = some r) : rv_V l D (rv_T ta) RX9 cX9_isLawful 3 (some .boolean) ("", []) (rv_rm 6 0 0) (rv_M D (rv_F (rv_vI r) (wm ta ad μ)) 0 0) 0 0 (wm ta ad μ) 61 [(0, .ref (ad 0)), (1, .int x1), (2, .int x2)] [] := by
  unfold B_X9_isLawful_61 at h
  refine rv_iload_n dX9_isLawful_61 rfl 2 rfl ?_
  refine rv_bipush (v := 8) dX9_isLawful_62 (by decide) ?_
  refine rv_aload_n dX9_isLawful_64 rfl 0 rfl ?_
  refine gf_X9_76 dX9_isLawful_65 0 (wm_0 ta ad μ) rfl ?_
  refine rv_imul dX9_isLawful_68 ?_
  refine rv_icmp_ge (tgt := 96) dX9_isLawful_69 (by decide) (fun hc3 => ?_) (fun hc3 => ?_)
  · replace h := rv_ift hc3 h
    refine rv_iinc (v := (x1 + 1)) (lv2 := [(1, .int (x1 + 1)), (0, .ref (ad 0)), (2, .int x2)]) dX9_isLawful_96 1 rfl rfl (by decide) rfl ?_
    refine rv_goto (tgt := 53) dX9_isLawful_99 (by decide) ?_
    refine rv_sub [1, 0] rfl ?_
    exact hk53 h
  · replace h := rv_iff hc3 h
    refine rv_aload_n dX9_isLawful_72 rfl 0 rfl ?_
    refine rv_iload_n dX9_isLawful_73 rfl 1 rfl ?_
    refine rv_iload_n dX9_isLawful_74 rfl 2 rfl ?_
    refine rv_bipush (v := 8) dX9_isLawful_75 (by decide) ?_
    refine rv_idiv dX9_isLawful_77 (by decide) ?_
    refine rv_iload_n dX9_isLawful_78 rfl 2 rfl ?_
    refine rv_bipush (v := 8) dX9_isLawful_79 (by decide) ?_
    refine rv_irem dX9_isLawful_81 (by decide) ?_
    obtain ⟨r4, hr4, h⟩ := rv_bind h
    refine rv_callV1 (rest := []) (ct_X9_isBreach hr4) wm_X9_115 wi_X9_isBreach wl_X9_isBreach wc_X9_isBreach wz_X9 rfl np_X9_isBreach dX9_isLawful_82 rfl ⟨rv_le rfl, rv_le rfl⟩ ⟨rv_le rfl, rv_le rfl⟩ (rv_le rfl) 0 (wm_0 ta ad μ) cl_X9 ?_
    refine rv_if_eq (tgt := 90) dX9_isLawful_85 (by decide) (fun hc5 => ?_) (fun hc5 => ?_)
    · replace h := rv_ift hc5 h
      refine rv_iinc (v := (x2 + 1)) (lv2 := [(2, .int (x2 + 1)), (0, .ref (ad 0)), (1, .int x1)]) dX9_isLawful_90 2 rfl rfl (by decide) rfl ?_
      refine rv_goto (tgt := 61) dX9_isLawful_93 (by decide) ?_
      refine rv_sub [1, 2, 0] rfl ?_
      exact hk61 h
    · replace h := rv_iff hc5 h
      refine rv_iconst (v := 0) dX9_isLawful_88 (by decide) ?_
      obtain rfl := Option.some.inj h
      exact rv_zret rfl rfl dX9_isLawful_89 (rv_le rfl) (rv_le rfl) ⟨rfl, rfl⟩
theorem vh_X9_isLawful_61 {l : Launch} {D : va_G} {ta : Nat → ClassId} {ad : Nat → Nat} {μ : Mem} {x1 : Int32} {k53 : Int32 → Option (Int32)} (hk53 : ∀ {x1 : Int32} {r : Int32}, k53 x1 = some r → rv_V l D (rv_T ta) RX9 cX9_isLawful 3 (some .boolean) ("", []) (rv_rm 6 0 0) (rv_M D (rv_F (rv_vI r) (wm ta ad μ)) 0 0) 0 0 (wm ta ad μ) 53 [(0, .ref (ad 0)), (1, .int x1)] []) {n : Nat} {x2 : Int32} {r : Int32} (h : rv_loop (B_X9_isLawful_61 μ x1 k53) (fun _ => none) n x2 = some r) : rv_V l D (rv_T ta) RX9 cX9_isLawful 3 (some .boolean) ("", []) (rv_rm 6 0 0) (rv_M D (rv_F (rv_vI r) (wm ta ad μ)) 0 0) 0 0 (wm ta ad μ) 61 [(0, .ref (ad 0)), (1, .int x1), (2, .int x2)] [] := by
  induction n generalizing x2 r with
  | zero => cases h
  | succ n ih => exact vB_X9_isLawful_61 hk53 (fun h9 => ih h9) h
theorem vB_X9_isLawful_53 {l : Launch} {D : va_G} {ta : Nat → ClassId} {ad : Nat → Nat} {μ : Mem} {k53 : Int32 → Option (Int32)} (hk53 : ∀ {x1 : Int32} {r : Int32}, k53 x1 = some r → rv_V l D (rv_T ta) RX9 cX9_isLawful 3 (some .boolean) ("", []) (rv_rm 6 0 0) (rv_M D (rv_F (rv_vI r) (wm ta ad μ)) 0 0) 0 0 (wm ta ad μ) 53 [(0, .ref (ad 0)), (1, .int x1)] []) {x1 : Int32} {r : Int32} (h : B_X9_isLawful_53 μ k53 x1 = some r) : rv_V l D (rv_T ta) RX9 cX9_isLawful 3 (some .boolean) ("", []) (rv_rm 6 0 0) (rv_M D (rv_F (rv_vI r) (wm ta ad μ)) 0 0) 0 0 (wm ta ad μ) 53 [(0, .ref (ad 0)), (1, .int x1)] [] := by
  unfold B_X9_isLawful_53 at h
  refine rv_iload_n dX9_isLawful_53 rfl 1 rfl ?_
  refine rv_bipush (v := 6) dX9_isLawful_54 (by decide) ?_
  refine rv_icmp_ge (tgt := 102) dX9_isLawful_56 (by decide) (fun hc2 => ?_) (fun hc2 => ?_)
  · replace h := rv_ift hc2 h
    refine rv_iconst (v := 1) dX9_isLawful_102 (by decide) ?_
    obtain rfl := Option.some.inj h
    exact rv_zret rfl rfl dX9_isLawful_103 (rv_le rfl) (rv_le rfl) ⟨rfl, rfl⟩
  · replace h := rv_iff hc2 h
    refine rv_iconst (v := 0) dX9_isLawful_59 (by decide) ?_
    refine rv_istore_n (lv2 := [(2, .int 0), (0, .ref (ad 0)), (1, .int x1)]) dX9_isLawful_60 rfl (by decide) rfl ?_
    refine rv_sub [1, 2, 0] rfl ?_
    exact vh_X9_isLawful_61 hk53 h
theorem vh_X9_isLawful_53 {l : Launch} {D : va_G} {ta : Nat → ClassId} {ad : Nat → Nat} {μ : Mem} {n : Nat} {x1 : Int32} {r : Int32} (h : rv_loop (B_X9_isLawful_53 μ) (fun _ => none) n x1 = some r) : rv_V l D (rv_T ta) RX9 cX9_isLawful 3 (some .boolean) ("", []) (rv_rm 6 0 0) (rv_M D (rv_F (rv_vI r) (wm ta ad μ)) 0 0) 0 0 (wm ta ad μ) 53 [(0, .ref (ad 0)), (1, .int x1)] [] := by
  induction n generalizing x1 r with
  | zero => cases h
  | succ n ih => exact vB_X9_isLawful_53 (fun h9 => ih h9) h
theorem vB_X9_isLawful_10 {l : Launch} {D : va_G} {ta : Nat → ClassId} {ad : Nat → Nat} {μ : Mem} {x1 : Int32} {k2 : Int32 → Option (Int32)} (hk2 : ∀ {x1 : Int32} {r : Int32}, k2 x1 = some r → rv_V l D (rv_T ta) RX9 cX9_isLawful 3 (some .boolean) ("", []) (rv_rm 6 0 0) (rv_M D (rv_F (rv_vI r) (wm ta ad μ)) 0 0) 0 0 (wm ta ad μ) 2 [(0, .ref (ad 0)), (1, .int x1)] []) {k10 : Int32 → Option (Int32)} (hk10 : ∀ {x2 : Int32} {r : Int32}, k10 x2 = some r → rv_V l D (rv_T ta) RX9 cX9_isLawful 3 (some .boolean) ("", []) (rv_rm 6 0 0) (rv_M D (rv_F (rv_vI r) (wm ta ad μ)) 0 0) 0 0 (wm ta ad μ) 10 [(0, .ref (ad 0)), (1, .int x1), (2, .int x2)] []) {x2 : Int32} {r : Int32} (h : B_X9_isLawful_10 μ x1 k2 k10 x2 = some r) : rv_V l D (rv_T ta) RX9 cX9_isLawful 3 (some .boolean) ("", []) (rv_rm 6 0 0) (rv_M D (rv_F (rv_vI r) (wm ta ad μ)) 0 0) 0 0 (wm ta ad μ) 10 [(0, .ref (ad 0)), (1, .int x1), (2, .int x2)] [] := by
  unfold B_X9_isLawful_10 at h
  refine rv_iload_n dX9_isLawful_10 rfl 2 rfl ?_
  refine rv_aload_n dX9_isLawful_11 rfl 0 rfl ?_
  refine gf_X9_83 dX9_isLawful_12 0 (wm_0 ta ad μ) rfl ?_
  refine rv_icmp_ge (tgt := 45) dX9_isLawful_15 (by decide) (fun hc6 => ?_) (fun hc6 => ?_)
  · replace h := rv_ift hc6 h
    refine rv_iinc (v := (x1 + 1)) (lv2 := [(1, .int (x1 + 1)), (0, .ref (ad 0)), (2, .int x2)]) dX9_isLawful_45 1 rfl rfl (by decide) rfl ?_
    refine rv_goto (tgt := 2) dX9_isLawful_48 (by decide) ?_
    refine rv_sub [1, 0] rfl ?_
    exact hk2 h
  · replace h := rv_iff hc6 h
    refine rv_aload_n dX9_isLawful_18 rfl 0 rfl ?_
    refine rv_iload_n dX9_isLawful_19 rfl 1 rfl ?_
    refine rv_iload_n dX9_isLawful_20 rfl 2 rfl ?_
    obtain ⟨r7, hr7, h⟩ := rv_bind h
    refine rv_callV1 (rest := []) (ct_X9_onShift hr7) wm_X9_126 wi_X9_onShift wl_X9_onShift wc_X9_onShift wz_X9 rfl np_X9_onShift dX9_isLawful_21 rfl ⟨rv_le rfl, rv_le rfl⟩ ⟨rv_le rfl, rv_le rfl⟩ (rv_le rfl) 0 (wm_0 ta ad μ) cl_X9 ?_
    refine rv_aload_n dX9_isLawful_24 rfl 0 rfl ?_
    refine gf_X9_26 dX9_isLawful_25 0 (wm_0 ta ad μ) rfl ?_
    refine rv_iconst (v := 3) dX9_isLawful_28 (by decide) ?_
    refine rv_iload_n dX9_isLawful_29 rfl 1 rfl ?_
    refine rv_imul dX9_isLawful_30 ?_
    refine rv_iload_n dX9_isLawful_31 rfl 2 rfl ?_
    refine rv_iadd dX9_isLawful_32 ?_
    obtain ⟨hi8, h⟩ := rv_ifn h
    refine rv_iald dX9_isLawful_33 0 rfl 6 (wm_6 ta ad μ) (rv_inP hi8) ?_
    refine rv_icmp_ge (tgt := 39) dX9_isLawful_34 (by decide) (fun hc9 => ?_) (fun hc9 => ?_)
    · replace h := rv_ift hc9 h
      refine rv_iinc (v := (x2 + 1)) (lv2 := [(2, .int (x2 + 1)), (0, .ref (ad 0)), (1, .int x1)]) dX9_isLawful_39 2 rfl rfl (by decide) rfl ?_
      refine rv_goto (tgt := 10) dX9_isLawful_42 (by decide) ?_
      refine rv_sub [1, 2, 0] rfl ?_
      exact hk10 h
    · replace h := rv_iff hc9 h
      refine rv_iconst (v := 0) dX9_isLawful_37 (by decide) ?_
      obtain rfl := Option.some.inj h
      exact rv_zret rfl rfl dX9_isLawful_38 (rv_le rfl) (rv_le rfl) ⟨rfl, rfl⟩
theorem vh_X9_isLawful_10 {l : Launch} {D : va_G} {ta : Nat → ClassId} {ad : Nat → Nat} {μ : Mem} {x1 : Int32} {k2 : Int32 → Option (Int32)} (hk2 : ∀ {x1 : Int32} {r : Int32}, k2 x1 = some r → rv_V l D (rv_T ta) RX9 cX9_isLawful 3 (some .boolean) ("", []) (rv_rm 6 0 0) (rv_M D (rv_F (rv_vI r) (wm ta ad μ)) 0 0) 0 0 (wm ta ad μ) 2 [(0, .ref (ad 0)), (1, .int x1)] []) {n : Nat} {x2 : Int32} {r : Int32} (h : rv_loop (B_X9_isLawful_10 μ x1 k2) (fun _ => none) n x2 = some r) : rv_V l D (rv_T ta) RX9 cX9_isLawful 3 (some .boolean) ("", []) (rv_rm 6 0 0) (rv_M D (rv_F (rv_vI r) (wm ta ad μ)) 0 0) 0 0 (wm ta ad μ) 10 [(0, .ref (ad 0)), (1, .int x1), (2, .int x2)] [] := by
  induction n generalizing x2 r with
  | zero => cases h
  | succ n ih => exact vB_X9_isLawful_10 hk2 (fun h9 => ih h9) h
theorem vB_X9_isLawful_2 {l : Launch} {D : va_G} {ta : Nat → ClassId} {ad : Nat → Nat} {μ : Mem} {k2 : Int32 → Option (Int32)} (hk2 : ∀ {x1 : Int32} {r : Int32}, k2 x1 = some r → rv_V l D (rv_T ta) RX9 cX9_isLawful 3 (some .boolean) ("", []) (rv_rm 6 0 0) (rv_M D (rv_F (rv_vI r) (wm ta ad μ)) 0 0) 0 0 (wm ta ad μ) 2 [(0, .ref (ad 0)), (1, .int x1)] []) {x1 : Int32} {r : Int32} (h : B_X9_isLawful_2 μ k2 x1 = some r) : rv_V l D (rv_T ta) RX9 cX9_isLawful 3 (some .boolean) ("", []) (rv_rm 6 0 0) (rv_M D (rv_F (rv_vI r) (wm ta ad μ)) 0 0) 0 0 (wm ta ad μ) 2 [(0, .ref (ad 0)), (1, .int x1)] [] := by
  unfold B_X9_isLawful_2 at h
  refine rv_iload_n dX9_isLawful_2 rfl 1 rfl ?_
  refine rv_bipush (v := 8) dX9_isLawful_3 (by decide) ?_
  refine rv_icmp_ge (tgt := 51) dX9_isLawful_5 (by decide) (fun hc1 => ?_) (fun hc1 => ?_)
  · replace h := rv_ift hc1 h
    refine rv_iconst (v := 0) dX9_isLawful_51 (by decide) ?_
    refine rv_istore_n (lv2 := [(1, .int 0), (0, .ref (ad 0))]) dX9_isLawful_52 rfl (by decide) rfl ?_
    refine rv_sub [1, 0] rfl ?_
    exact vh_X9_isLawful_53 h
  · replace h := rv_iff hc1 h
    refine rv_iconst (v := 0) dX9_isLawful_8 (by decide) ?_
    refine rv_istore_n (lv2 := [(2, .int 0), (0, .ref (ad 0)), (1, .int x1)]) dX9_isLawful_9 rfl (by decide) rfl ?_
    refine rv_sub [1, 2, 0] rfl ?_
    exact vh_X9_isLawful_10 hk2 h
theorem vh_X9_isLawful_2 {l : Launch} {D : va_G} {ta : Nat → ClassId} {ad : Nat → Nat} {μ : Mem} {n : Nat} {x1 : Int32} {r : Int32} (h : rv_loop (B_X9_isLawful_2 μ) (fun _ => none) n x1 = some r) : rv_V l D (rv_T ta) RX9 cX9_isLawful 3 (some .boolean) ("", []) (rv_rm 6 0 0) (rv_M D (rv_F (rv_vI r) (wm ta ad μ)) 0 0) 0 0 (wm ta ad μ) 2 [(0, .ref (ad 0)), (1, .int x1)] [] := by
  induction n generalizing x1 r with
  | zero => cases h
  | succ n ih => exact vB_X9_isLawful_2 (fun h9 => ih h9) h
theorem ct_X9_isLawful {l : Launch} {D : va_G} {ta : Nat → ClassId} {ad : Nat → Nat} {μ : Mem} {r : Int32} (h : f_X9_isLawful μ = some r) : rv_C l D (rv_T ta) yX9_isLawful cX9_isLawful 3 (some .boolean) 6 0 0 [.ref (ad 0)] (wm ta ad μ) (rv_F (rv_vI r) (wm ta ad μ)) := by
  refine rv_Cof2 (own := RX9) (lv := [(0, .ref (ad 0))]) rfl (by decide) (rv_le rfl) rfl ?_
  unfold f_X9_isLawful at h
  refine rv_iconst (v := 0) dX9_isLawful_0 (by decide) ?_
  refine rv_istore_n (lv2 := [(1, .int 0), (0, .ref (ad 0))]) dX9_isLawful_1 rfl (by decide) rfl ?_
  refine rv_sub [1, 0] rfl ?_
  exact vh_X9_isLawful_2 h
theorem vB_X9_placeOf_33 {l : Launch} {D : va_G} {ta : Nat → ClassId} {ad : Nat → Nat} {μ : Mem} {x1 : Int32} {k33 : Int32 → Option (Int32)} (hk33 : ∀ {x2 : Int32} {r : Int32}, k33 x2 = some r → rv_V l D (rv_T ta) RX9 cX9_placeOf 3 (some .int) ("", []) (rv_rm 2 0 0) (rv_M D (rv_F (rv_vI r) (wm ta ad μ)) 0 0) 0 0 (wm ta ad μ) 33 [(0, .ref (ad 0)), (1, .int x1), (2, .int x2)] []) {x2 : Int32} {r : Int32} (h : B_X9_placeOf_33 μ x1 k33 x2 = some r) : rv_V l D (rv_T ta) RX9 cX9_placeOf 3 (some .int) ("", []) (rv_rm 2 0 0) (rv_M D (rv_F (rv_vI r) (wm ta ad μ)) 0 0) 0 0 (wm ta ad μ) 33 [(0, .ref (ad 0)), (1, .int x1), (2, .int x2)] [] := by
  unfold B_X9_placeOf_33 at h
  refine rv_iload_n dX9_placeOf_33 rfl 2 rfl ?_
  obtain ⟨r3, hr3, h⟩ := rv_bind h
  refine rv_callS1 (rest := []) (ct_X9_letter hr3) wm_X9_118 ws_X9_letter wc_X9_letter wz_X9 np_X9_letter dX9_placeOf_34 rfl ⟨rv_le rfl, rv_le rfl⟩ ⟨rv_le rfl, rv_le rfl⟩ (rv_le rfl) ?_
  refine rv_aload_n dX9_placeOf_37 rfl 0 rfl ?_
  refine gf_X9_45 dX9_placeOf_38 0 (wm_0 ta ad μ) rfl ?_
  refine rv_iload_n dX9_placeOf_41 rfl 1 rfl ?_
  obtain ⟨hi4, h⟩ := rv_ifn h
  refine rv_cald dX9_placeOf_42 3 rfl 7 (wm_7 ta ad μ) (rv_inP hi4) ?_
  refine rv_icmp_eq (tgt := 52) dX9_placeOf_43 (by decide) (fun hc5 => ?_) (fun hc5 => ?_)
  · replace h := rv_ift hc5 h
    refine rv_bipush (v := 32) dX9_placeOf_52 (by decide) ?_
    refine rv_iload_n dX9_placeOf_54 rfl 2 rfl ?_
    refine rv_imul dX9_placeOf_55 ?_
    refine rv_bipush (v := 8) dX9_placeOf_56 (by decide) ?_
    refine rv_aload_n dX9_placeOf_58 rfl 0 rfl ?_
    refine gf_X9_49 dX9_placeOf_59 0 (wm_0 ta ad μ) rfl ?_
    refine rv_iload_n dX9_placeOf_62 rfl 1 rfl ?_
    obtain ⟨hi6, h⟩ := rv_ifn h
    refine rv_iald dX9_placeOf_63 0 rfl 8 (wm_8 ta ad μ) (rv_inP hi6) ?_
    refine rv_imul dX9_placeOf_64 ?_
    refine rv_iadd dX9_placeOf_65 ?_
    refine rv_aload_n dX9_placeOf_66 rfl 0 rfl ?_
    refine gf_X9_52 dX9_placeOf_67 0 (wm_0 ta ad μ) rfl ?_
    refine rv_iload_n dX9_placeOf_70 rfl 1 rfl ?_
    obtain ⟨hi7, h⟩ := rv_ifn h
    refine rv_iald dX9_placeOf_71 0 rfl 9 (wm_9 ta ad μ) (rv_inP hi7) ?_
    refine rv_iadd dX9_placeOf_72 ?_
    obtain rfl := Option.some.inj h
    exact rv_iret rfl dX9_placeOf_73 (rv_le rfl) (rv_le rfl) ⟨rfl, rfl⟩
  · replace h := rv_iff hc5 h
    refine rv_iinc (v := (x2 + 1)) (lv2 := [(2, .int (x2 + 1)), (0, .ref (ad 0)), (1, .int x1)]) dX9_placeOf_46 2 rfl rfl (by decide) rfl ?_
    refine rv_goto (tgt := 33) dX9_placeOf_49 (by decide) ?_
    refine rv_sub [1, 2, 0] rfl ?_
    exact hk33 h
theorem vh_X9_placeOf_33 {l : Launch} {D : va_G} {ta : Nat → ClassId} {ad : Nat → Nat} {μ : Mem} {x1 : Int32} {n : Nat} {x2 : Int32} {r : Int32} (h : rv_loop (B_X9_placeOf_33 μ x1) (fun _ => none) n x2 = some r) : rv_V l D (rv_T ta) RX9 cX9_placeOf 3 (some .int) ("", []) (rv_rm 2 0 0) (rv_M D (rv_F (rv_vI r) (wm ta ad μ)) 0 0) 0 0 (wm ta ad μ) 33 [(0, .ref (ad 0)), (1, .int x1), (2, .int x2)] [] := by
  induction n generalizing x2 r with
  | zero => cases h
  | succ n ih => exact vB_X9_placeOf_33 (fun h9 => ih h9) h
theorem ct_X9_placeOf {l : Launch} {D : va_G} {ta : Nat → ClassId} {ad : Nat → Nat} {μ : Mem} {x1 : Int32} {r : Int32} (h : f_X9_placeOf μ x1 = some r) : rv_C l D (rv_T ta) yX9_placeOf cX9_placeOf 3 (some .int) 2 0 0 [.ref (ad 0), .int x1] (wm ta ad μ) (rv_F (rv_vI r) (wm ta ad μ)) := by
  refine rv_Cof2 (own := RX9) (lv := [(0, .ref (ad 0)), (1, .int x1)]) rfl (by decide) (rv_le rfl) rfl ?_
  unfold f_X9_placeOf at h
  refine rv_aload_n dX9_placeOf_0 rfl 0 rfl ?_
  refine gf_X9_45 dX9_placeOf_1 0 (wm_0 ta ad μ) rfl ?_
  refine rv_iload_n dX9_placeOf_4 rfl 1 rfl ?_
  obtain ⟨hi1, h⟩ := rv_ifn h
  refine rv_cald dX9_placeOf_5 3 rfl 7 (wm_7 ta ad μ) (rv_inP hi1) ?_
  refine rv_bipush (v := 100) dX9_placeOf_6 (by decide) ?_
  refine rv_icmp_ne (tgt := 31) dX9_placeOf_8 (by decide) (fun hc2 => ?_) (fun hc2 => ?_)
  · replace h := rv_iff hc2 h
    refine rv_iconst (v := 0) dX9_placeOf_31 (by decide) ?_
    refine rv_istore_n (lv2 := [(2, .int 0), (0, .ref (ad 0)), (1, .int x1)]) dX9_placeOf_32 rfl (by decide) rfl ?_
    refine rv_sub [1, 2, 0] rfl ?_
    exact vh_X9_placeOf_33 h
  · replace h := rv_ift hc2 h
    refine rv_sipush (v := 192) dX9_placeOf_11 (by decide) ?_
    refine rv_iconst (v := 3) dX9_placeOf_14 (by decide) ?_
    refine rv_aload_n dX9_placeOf_15 rfl 0 rfl ?_
    refine gf_X9_52 dX9_placeOf_16 0 (wm_0 ta ad μ) rfl ?_
    refine rv_iload_n dX9_placeOf_19 rfl 1 rfl ?_
    obtain ⟨hi8, h⟩ := rv_ifn h
    refine rv_iald dX9_placeOf_20 0 rfl 9 (wm_9 ta ad μ) (rv_inP hi8) ?_
    refine rv_imul dX9_placeOf_21 ?_
    refine rv_iadd dX9_placeOf_22 ?_
    refine rv_aload_n dX9_placeOf_23 rfl 0 rfl ?_
    refine gf_X9_55 dX9_placeOf_24 0 (wm_0 ta ad μ) rfl ?_
    refine rv_iload_n dX9_placeOf_27 rfl 1 rfl ?_
    obtain ⟨hi9, h⟩ := rv_ifn h
    refine rv_iald dX9_placeOf_28 0 rfl 10 (wm_10 ta ad μ) (rv_inP hi9) ?_
    refine rv_iadd dX9_placeOf_29 ?_
    obtain rfl := Option.some.inj h
    exact rv_iret rfl dX9_placeOf_30 (rv_le rfl) (rv_le rfl) ⟨rfl, rfl⟩
theorem vb_X9_addPerson_14 {l : Launch} {D : va_G} {ta : Nat → ClassId} {ad : Nat → Nat} {μ : Mem} {s1 : Int32} {r : (Int32) × Mem} (h : b_X9_addPerson_14 μ s1 = some r) : rv_V l D (rv_T ta) RX9 cX9_addPerson 1 (some .int) ("", []) (rv_rm 2 0 0) (rv_M D (rv_F (rv_vI r.1) (wm ta ad r.2)) 0 0) 0 0 (wm ta ad μ) 14 [(0, .ref (ad 0))] [.int s1, .ref (ad 0)] := by
  unfold b_X9_addPerson_14 at h
  obtain ⟨r2, hr2, h⟩ := rv_bind h
  refine rv_callV1 (rest := []) (ct_X9_goesOn hr2) wm_X9_129 wi_X9_goesOn wl_X9_goesOn wc_X9_goesOn wz_X9 rfl np_X9_goesOn dX9_addPerson_14 rfl ⟨rv_le rfl, rv_le rfl⟩ ⟨rv_le rfl, rv_le rfl⟩ (rv_le rfl) 0 (wm_0 ta ad μ) cl_X9 ?_
  refine rv_if_ne (tgt := 22) dX9_addPerson_17 (by decide) (fun hc3 => ?_) (fun hc3 => ?_)
  · replace h := rv_iff hc3 h
    refine rv_aload_n dX9_addPerson_22 rfl 0 rfl ?_
    refine rv_dup dX9_addPerson_23 rfl ?_
    refine gf_X9_76 dX9_addPerson_24 0 (wm_0 ta ad r2.2) rfl ?_
    refine rv_iconst (v := 1) dX9_addPerson_27 (by decide) ?_
    refine rv_iadd dX9_addPerson_28 ?_
    refine pf_X9_76 dX9_addPerson_29 0 (wm_0 ta ad r2.2) (rv_le rfl) (wm_f0_1 ta ad r2.2 ((r2.2.1 0 1) + 1)) ?_
    refine rv_aload_n dX9_addPerson_32 rfl 0 rfl ?_
    refine gf_X9_76 dX9_addPerson_33 0 (wm_0 ta ad (mu_up r2.2 0 1 ((r2.2.1 0 1) + 1))) rfl ?_
    refine rv_iconst (v := 1) dX9_addPerson_36 (by decide) ?_
    refine rv_isub dX9_addPerson_37 ?_
    obtain rfl := Option.some.inj h
    exact rv_iret rfl dX9_addPerson_38 (rv_le rfl) (rv_le rfl) ⟨rfl, rfl⟩
  · replace h := rv_ift hc3 h
    refine rv_iconst (v := 0) dX9_addPerson_20 (by decide) ?_
    obtain rfl := Option.some.inj h
    exact rv_iret rfl dX9_addPerson_21 (rv_le rfl) (rv_le rfl) ⟨rfl, rfl⟩
theorem ct_X9_addPerson {l : Launch} {D : va_G} {ta : Nat → ClassId} {ad : Nat → Nat} {μ : Mem} {r : (Int32) × Mem} (h : f_X9_addPerson μ = some r) : rv_C l D (rv_T ta) yX9_addPerson cX9_addPerson 1 (some .int) 2 0 0 [.ref (ad 0)] (wm ta ad μ) (rv_F (rv_vI r.1) (wm ta ad r.2)) := by
  refine rv_Cof2 (own := RX9) (lv := [(0, .ref (ad 0))]) rfl (by decide) (rv_le rfl) rfl ?_
  unfold f_X9_addPerson at h
  refine rv_aload_n dX9_addPerson_0 rfl 0 rfl ?_
  refine rv_aload_n dX9_addPerson_1 rfl 0 rfl ?_
  refine gf_X9_76 dX9_addPerson_2 0 (wm_0 ta ad μ) rfl ?_
  refine rv_iconst (v := 4) dX9_addPerson_5 (by decide) ?_
  refine rv_icmp_ne (tgt := 13) dX9_addPerson_6 (by decide) (fun hc1 => ?_) (fun hc1 => ?_)
  · replace h := rv_iff hc1 h
    refine rv_iconst (v := 0) dX9_addPerson_13 (by decide) ?_
    exact vb_X9_addPerson_14 h
  · replace h := rv_ift hc1 h
    refine rv_iconst (v := 1) dX9_addPerson_9 (by decide) ?_
    refine rv_goto (tgt := 14) dX9_addPerson_10 (by decide) ?_
    exact vb_X9_addPerson_14 h
theorem vb_X9_addShift_40 {l : Launch} {D : va_G} {ta : Nat → ClassId} {ad : Nat → Nat} {μ : Mem} {x1 : Int32} {x2 : Int32} {s1 : Int32} {r : (Int32) × Mem} (h : b_X9_addShift_40 μ x1 x2 s1 = some r) : rv_V l D (rv_T ta) RX9 cX9_addShift 3 (some .int) ("", []) (rv_rm 2 0 0) (rv_M D (rv_F (rv_vI r.1) (wm ta ad r.2)) 0 0) 0 0 (wm ta ad μ) 40 [(0, .ref (ad 0)), (1, .int x1), (2, .int x2)] [.int s1, .ref (ad 0)] := by
  unfold b_X9_addShift_40 at h
  obtain ⟨r3, hr3, h⟩ := rv_bind h
  refine rv_callV1 (rest := []) (ct_X9_goesOn hr3) wm_X9_129 wi_X9_goesOn wl_X9_goesOn wc_X9_goesOn wz_X9 rfl np_X9_goesOn dX9_addShift_40 rfl ⟨rv_le rfl, rv_le rfl⟩ ⟨rv_le rfl, rv_le rfl⟩ (rv_le rfl) 0 (wm_0 ta ad μ) cl_X9 ?_
  refine rv_if_ne (tgt := 48) dX9_addShift_43 (by decide) (fun hc4 => ?_) (fun hc4 => ?_)
  · replace h := rv_iff hc4 h
    refine rv_aload_n dX9_addShift_48 rfl 0 rfl ?_
    refine gf_X9_9 dX9_addShift_49 0 (wm_0 ta ad r3.2) rfl ?_
    refine rv_aload_n dX9_addShift_52 rfl 0 rfl ?_
    refine gf_X9_83 dX9_addShift_53 0 (wm_0 ta ad r3.2) rfl ?_
    refine rv_iload_n dX9_addShift_56 rfl 1 rfl ?_
    obtain ⟨hi5, h⟩ := rv_ifn h
    refine rv_iast dX9_addShift_57 0 rfl 1 (wm_1 ta ad r3.2) (rv_inP hi5) (wm_s1 ta ad r3.2 _ _) ?_
    refine rv_aload_n dX9_addShift_58 rfl 0 rfl ?_
    refine gf_X9_13 dX9_addShift_59 0 (wm_0 ta ad (mu_up r3.2 1 (Int32.toNatClampNeg (r3.2.1 0 2)) x1)) rfl ?_
    refine rv_aload_n dX9_addShift_62 rfl 0 rfl ?_
    refine gf_X9_83 dX9_addShift_63 0 (wm_0 ta ad (mu_up r3.2 1 (Int32.toNatClampNeg (r3.2.1 0 2)) x1)) rfl ?_
    refine rv_iload_n dX9_addShift_66 rfl 2 rfl ?_
    obtain ⟨hi6, h⟩ := rv_ifn h
    refine rv_iast dX9_addShift_67 0 rfl 2 (wm_2 ta ad (mu_up r3.2 1 (Int32.toNatClampNeg (r3.2.1 0 2)) x1)) (rv_inP hi6) (wm_s2 ta ad (mu_up r3.2 1 (Int32.toNatClampNeg (r3.2.1 0 2)) x1) _ _) ?_
    refine rv_aload_n dX9_addShift_68 rfl 0 rfl ?_
    refine rv_dup dX9_addShift_69 rfl ?_
    refine gf_X9_83 dX9_addShift_70 0 (wm_0 ta ad (mu_up (mu_up r3.2 1 (Int32.toNatClampNeg (r3.2.1 0 2)) x1) 2 (Int32.toNatClampNeg ((mu_up r3.2 1 (Int32.toNatClampNeg (r3.2.1 0 2)) x1).1 0 2)) x2)) rfl ?_
    refine rv_iconst (v := 1) dX9_addShift_73 (by decide) ?_
    refine rv_iadd dX9_addShift_74 ?_
    refine pf_X9_83 dX9_addShift_75 0 (wm_0 ta ad (mu_up (mu_up r3.2 1 (Int32.toNatClampNeg (r3.2.1 0 2)) x1) 2 (Int32.toNatClampNeg ((mu_up r3.2 1 (Int32.toNatClampNeg (r3.2.1 0 2)) x1).1 0 2)) x2)) (rv_le rfl) (wm_f0_2 ta ad (mu_up (mu_up r3.2 1 (Int32.toNatClampNeg (r3.2.1 0 2)) x1) 2 (Int32.toNatClampNeg ((mu_up r3.2 1 (Int32.toNatClampNeg (r3.2.1 0 2)) x1).1 0 2)) x2) (((mu_up (mu_up r3.2 1 (Int32.toNatClampNeg (r3.2.1 0 2)) x1) 2 (Int32.toNatClampNeg ((mu_up r3.2 1 (Int32.toNatClampNeg (r3.2.1 0 2)) x1).1 0 2)) x2).1 0 2) + 1)) ?_
    refine rv_aload_n dX9_addShift_78 rfl 0 rfl ?_
    refine gf_X9_83 dX9_addShift_79 0 (wm_0 ta ad (mu_up (mu_up (mu_up r3.2 1 (Int32.toNatClampNeg (r3.2.1 0 2)) x1) 2 (Int32.toNatClampNeg ((mu_up r3.2 1 (Int32.toNatClampNeg (r3.2.1 0 2)) x1).1 0 2)) x2) 0 2 (((mu_up (mu_up r3.2 1 (Int32.toNatClampNeg (r3.2.1 0 2)) x1) 2 (Int32.toNatClampNeg ((mu_up r3.2 1 (Int32.toNatClampNeg (r3.2.1 0 2)) x1).1 0 2)) x2).1 0 2) + 1))) rfl ?_
    refine rv_iconst (v := 1) dX9_addShift_82 (by decide) ?_
    refine rv_isub dX9_addShift_83 ?_
    obtain rfl := Option.some.inj h
    exact rv_iret rfl dX9_addShift_84 (rv_le rfl) (rv_le rfl) ⟨rfl, rfl⟩
  · replace h := rv_ift hc4 h
    refine rv_iconst (v := 0) dX9_addShift_46 (by decide) ?_
    obtain rfl := Option.some.inj h
    exact rv_iret rfl dX9_addShift_47 (rv_le rfl) (rv_le rfl) ⟨rfl, rfl⟩
theorem ct_X9_addShift {l : Launch} {D : va_G} {ta : Nat → ClassId} {ad : Nat → Nat} {μ : Mem} {x1 : Int32} {x2 : Int32} {r : (Int32) × Mem} (h : f_X9_addShift μ x1 x2 = some r) : rv_C l D (rv_T ta) yX9_addShift cX9_addShift 3 (some .int) 2 0 0 [.ref (ad 0), .int x1, .int x2] (wm ta ad μ) (rv_F (rv_vI r.1) (wm ta ad r.2)) := by
  refine rv_Cof2 (own := RX9) (lv := [(0, .ref (ad 0)), (1, .int x1), (2, .int x2)]) rfl (by decide) (rv_le rfl) rfl ?_
  unfold f_X9_addShift at h
  refine rv_aload_n dX9_addShift_0 rfl 0 rfl ?_
  refine rv_iload_n dX9_addShift_1 rfl 1 rfl ?_
  refine rv_iconst (v := 0) dX9_addShift_2 (by decide) ?_
  refine rv_sipush (v := 1439) dX9_addShift_3 (by decide) ?_
  obtain ⟨r1, hr1, h⟩ := rv_bind h
  refine rv_callS1 (rest := [.ref (ad 0)]) (ct_X9_in hr1) wm_X9_79 ws_X9_in wc_X9_in wz_X9 np_X9_in dX9_addShift_6 rfl ⟨rv_le rfl, rv_le rfl⟩ ⟨rv_le rfl, rv_le rfl⟩ (rv_le rfl) ?_
  refine rv_if_eq (tgt := 23) dX9_addShift_9 (by decide) (fun hc2 => ?_) (fun hc2 => ?_)
  · replace h := rv_ift hc2 h
    refine rv_iconst (v := 1) dX9_addShift_23 (by decide) ?_
    refine rv_goto (tgt := 40) dX9_addShift_24 (by decide) ?_
    exact vb_X9_addShift_40 h
  · replace h := rv_iff hc2 h
    refine rv_iload_n dX9_addShift_12 rfl 2 rfl ?_
    refine rv_iconst (v := 1) dX9_addShift_13 (by decide) ?_
    refine rv_sipush (v := 720) dX9_addShift_14 (by decide) ?_
    obtain ⟨r7, hr7, h⟩ := rv_bind h
    refine rv_callS1 (rest := [.ref (ad 0)]) (ct_X9_in hr7) wm_X9_79 ws_X9_in wc_X9_in wz_X9 np_X9_in dX9_addShift_17 rfl ⟨rv_le rfl, rv_le rfl⟩ ⟨rv_le rfl, rv_le rfl⟩ (rv_le rfl) ?_
    refine rv_if_ne (tgt := 27) dX9_addShift_20 (by decide) (fun hc8 => ?_) (fun hc8 => ?_)
    · replace h := rv_iff hc8 h
      refine rv_aload_n dX9_addShift_27 rfl 0 rfl ?_
      refine gf_X9_83 dX9_addShift_28 0 (wm_0 ta ad μ) rfl ?_
      refine rv_iconst (v := 3) dX9_addShift_31 (by decide) ?_
      refine rv_icmp_ne (tgt := 39) dX9_addShift_32 (by decide) (fun hc9 => ?_) (fun hc9 => ?_)
      · replace h := rv_iff hc9 h
        refine rv_iconst (v := 0) dX9_addShift_39 (by decide) ?_
        exact vb_X9_addShift_40 h
      · replace h := rv_ift hc9 h
        refine rv_iconst (v := 2) dX9_addShift_35 (by decide) ?_
        refine rv_goto (tgt := 40) dX9_addShift_36 (by decide) ?_
        exact vb_X9_addShift_40 h
    · replace h := rv_ift hc8 h
      refine rv_iconst (v := 1) dX9_addShift_23 (by decide) ?_
      refine rv_goto (tgt := 40) dX9_addShift_24 (by decide) ?_
      exact vb_X9_addShift_40 h
theorem vb_X9_isNight_14 {l : Launch} {D : va_G} {ta : Nat → ClassId} {ad : Nat → Nat} {μ : Mem} {x1 : Int32} {s1 : Int32} {r : (Int32) × Mem} (h : b_X9_isNight_14 μ x1 s1 = some r) : rv_V l D (rv_T ta) RX9 cX9_isNight 2 (some .boolean) ("", []) (rv_rm 3 0 0) (rv_M D (rv_F (rv_vI r.1) (wm ta ad r.2)) 0 0) 0 0 (wm ta ad μ) 14 [(0, .ref (ad 0)), (1, .int x1)] [.int s1, .ref (ad 0)] := by
  unfold b_X9_isNight_14 at h
  obtain ⟨r3, hr3, h⟩ := rv_bind h
  refine rv_callV1 (rest := []) (ct_X9_goesOn hr3) wm_X9_129 wi_X9_goesOn wl_X9_goesOn wc_X9_goesOn wz_X9 rfl np_X9_goesOn dX9_isNight_14 rfl ⟨rv_le rfl, rv_le rfl⟩ ⟨rv_le rfl, rv_le rfl⟩ (rv_le rfl) 0 (wm_0 ta ad μ) cl_X9 ?_
  refine rv_if_eq (tgt := 32) dX9_isNight_17 (by decide) (fun hc4 => ?_) (fun hc4 => ?_)
  · replace h := rv_ift hc4 h
    refine rv_iconst (v := 0) dX9_isNight_32 (by decide) ?_
    obtain rfl := Option.some.inj h
    exact rv_zret rfl rfl dX9_isNight_33 (rv_le rfl) (rv_le rfl) ⟨rfl, rfl⟩
  · replace h := rv_iff hc4 h
    refine rv_aload_n dX9_isNight_20 rfl 0 rfl ?_
    refine rv_iload_n dX9_isNight_21 rfl 1 rfl ?_
    obtain ⟨r5, hr5, h⟩ := rv_bind h
    refine rv_callV1 (rest := []) (ct_X9_isNightShift hr5) wm_X9_96 wi_X9_isNightShift wl_X9_isNightShift wc_X9_isNightShift wz_X9 rfl np_X9_isNightShift dX9_isNight_22 rfl ⟨rv_le rfl, rv_le rfl⟩ ⟨rv_le rfl, rv_le rfl⟩ (rv_le rfl) 0 (wm_0 ta ad r3.2) cl_X9 ?_
    refine rv_if_eq (tgt := 32) dX9_isNight_25 (by decide) (fun hc6 => ?_) (fun hc6 => ?_)
    · replace h := rv_ift hc6 h
      refine rv_iconst (v := 0) dX9_isNight_32 (by decide) ?_
      obtain rfl := Option.some.inj h
      exact rv_zret rfl rfl dX9_isNight_33 (rv_le rfl) (rv_le rfl) ⟨rfl, rfl⟩
    · replace h := rv_iff hc6 h
      refine rv_iconst (v := 1) dX9_isNight_28 (by decide) ?_
      refine rv_goto (tgt := 33) dX9_isNight_29 (by decide) ?_
      obtain rfl := Option.some.inj h
      exact rv_zret rfl rfl dX9_isNight_33 (rv_le rfl) (rv_le rfl) ⟨rfl, rfl⟩
theorem ct_X9_isNight {l : Launch} {D : va_G} {ta : Nat → ClassId} {ad : Nat → Nat} {μ : Mem} {x1 : Int32} {r : (Int32) × Mem} (h : f_X9_isNight μ x1 = some r) : rv_C l D (rv_T ta) yX9_isNight cX9_isNight 2 (some .boolean) 3 0 0 [.ref (ad 0), .int x1] (wm ta ad μ) (rv_F (rv_vI r.1) (wm ta ad r.2)) := by
  refine rv_Cof2 (own := RX9) (lv := [(0, .ref (ad 0)), (1, .int x1)]) rfl (by decide) (rv_le rfl) rfl ?_
  unfold f_X9_isNight at h
  refine rv_aload_n dX9_isNight_0 rfl 0 rfl ?_
  refine rv_aload_n dX9_isNight_1 rfl 0 rfl ?_
  refine rv_iload_n dX9_isNight_2 rfl 1 rfl ?_
  obtain ⟨r1, hr1, h⟩ := rv_bind h
  refine rv_callV1 (rest := [.ref (ad 0)]) (ct_X9_isShift hr1) wm_X9_132 wi_X9_isShift wl_X9_isShift wc_X9_isShift wz_X9 rfl np_X9_isShift dX9_isNight_3 rfl ⟨rv_le rfl, rv_le rfl⟩ ⟨rv_le rfl, rv_le rfl⟩ (rv_le rfl) 0 (wm_0 ta ad μ) cl_X9 ?_
  refine rv_if_eq (tgt := 13) dX9_isNight_6 (by decide) (fun hc2 => ?_) (fun hc2 => ?_)
  · replace h := rv_ift hc2 h
    refine rv_iconst (v := 1) dX9_isNight_13 (by decide) ?_
    exact vb_X9_isNight_14 h
  · replace h := rv_iff hc2 h
    refine rv_iconst (v := 0) dX9_isNight_9 (by decide) ?_
    refine rv_goto (tgt := 14) dX9_isNight_10 (by decide) ?_
    exact vb_X9_isNight_14 h
theorem vb_X9_teach_26 {l : Launch} {D : va_G} {ta : Nat → ClassId} {ad : Nat → Nat} {μ : Mem} {x1 : Int32} {x2 : Int32} {s1 : Int32} {r : (Int32) × Mem} (h : b_X9_teach_26 μ x1 x2 s1 = some r) : rv_V l D (rv_T ta) RX9 cX9_teach 4 (some .boolean) ("", []) (rv_rm 3 0 0) (rv_M D (rv_F (rv_vI r.1) (wm ta ad r.2)) 0 0) 0 0 (wm ta ad μ) 26 [(0, .ref (ad 0)), (1, .int x1), (2, .int x2)] [.int s1, .ref (ad 0)] := by
  unfold b_X9_teach_26 at h
  obtain ⟨r5, hr5, h⟩ := rv_bind h
  refine rv_callV1 (rest := []) (ct_X9_goesOn hr5) wm_X9_129 wi_X9_goesOn wl_X9_goesOn wc_X9_goesOn wz_X9 rfl np_X9_goesOn dX9_teach_26 rfl ⟨rv_le rfl, rv_le rfl⟩ ⟨rv_le rfl, rv_le rfl⟩ (rv_le rfl) 0 (wm_0 ta ad μ) cl_X9 ?_
  refine rv_if_ne (tgt := 34) dX9_teach_29 (by decide) (fun hc6 => ?_) (fun hc6 => ?_)
  · replace h := rv_iff hc6 h
    refine rv_aload_n dX9_teach_34 rfl 0 rfl ?_
    refine gf_X9_23 dX9_teach_35 0 (wm_0 ta ad r5.2) rfl ?_
    refine rv_iconst (v := 3) dX9_teach_38 (by decide) ?_
    refine rv_iload_n dX9_teach_39 rfl 1 rfl ?_
    refine rv_imul dX9_teach_40 ?_
    refine rv_iload_n dX9_teach_41 rfl 2 rfl ?_
    refine rv_iadd dX9_teach_42 ?_
    obtain ⟨hi7, h⟩ := rv_ifn h
    refine rv_zald dX9_teach_43 1 rfl 5 (wm_5 ta ad r5.2) (rv_inP hi7) ?_
    refine rv_istore_n (lv2 := [(3, .int (r5.2.1 5 (Int32.toNatClampNeg ((3 * x1) + x2)))), (0, .ref (ad 0)), (1, .int x1), (2, .int x2)]) dX9_teach_44 rfl (by decide) rfl ?_
    refine rv_aload_n dX9_teach_45 rfl 1 rfl ?_
    refine gf_X9_23 dX9_teach_46 0 (wm_0 ta ad r5.2) rfl ?_
    refine rv_iconst (v := 3) dX9_teach_49 (by decide) ?_
    refine rv_iload_n dX9_teach_50 rfl 2 rfl ?_
    refine rv_imul dX9_teach_51 ?_
    refine rv_iload_n dX9_teach_52 rfl 3 rfl ?_
    refine rv_iadd dX9_teach_53 ?_
    refine rv_iconst (v := 1) dX9_teach_54 (by decide) ?_
    obtain ⟨hi8, h⟩ := rv_ifn h
    refine rv_zast dX9_teach_55 1 rfl 5 (wm_5 ta ad r5.2) (rv_inP hi8) (wm_s5 ta ad r5.2 _ _) ?_
    refine rv_iload_n dX9_teach_56 rfl 0 rfl ?_
    refine rv_if_ne (tgt := 64) dX9_teach_57 (by decide) (fun hc9 => ?_) (fun hc9 => ?_)
    · replace h := rv_iff hc9 h
      refine rv_iconst (v := 0) dX9_teach_64 (by decide) ?_
      obtain rfl := Option.some.inj h
      exact rv_zret rfl rfl dX9_teach_65 (rv_le rfl) (rv_le rfl) ⟨rfl, rfl⟩
    · replace h := rv_ift hc9 h
      refine rv_iconst (v := 1) dX9_teach_60 (by decide) ?_
      refine rv_goto (tgt := 65) dX9_teach_61 (by decide) ?_
      obtain rfl := Option.some.inj h
      exact rv_zret rfl rfl dX9_teach_65 (rv_le rfl) (rv_le rfl) ⟨rfl, rfl⟩
  · replace h := rv_ift hc6 h
    refine rv_iconst (v := 0) dX9_teach_32 (by decide) ?_
    obtain rfl := Option.some.inj h
    exact rv_zret rfl rfl dX9_teach_33 (rv_le rfl) (rv_le rfl) ⟨rfl, rfl⟩
theorem ct_X9_teach {l : Launch} {D : va_G} {ta : Nat → ClassId} {ad : Nat → Nat} {μ : Mem} {x1 : Int32} {x2 : Int32} {r : (Int32) × Mem} (h : f_X9_teach μ x1 x2 = some r) : rv_C l D (rv_T ta) yX9_teach cX9_teach 4 (some .boolean) 3 0 0 [.ref (ad 0), .int x1, .int x2] (wm ta ad μ) (rv_F (rv_vI r.1) (wm ta ad r.2)) := by
  refine rv_Cof2 (own := RX9) (lv := [(0, .ref (ad 0)), (1, .int x1), (2, .int x2)]) rfl (by decide) (rv_le rfl) rfl ?_
  unfold f_X9_teach at h
  refine rv_aload_n dX9_teach_0 rfl 0 rfl ?_
  refine rv_aload_n dX9_teach_1 rfl 0 rfl ?_
  refine rv_iload_n dX9_teach_2 rfl 1 rfl ?_
  obtain ⟨r1, hr1, h⟩ := rv_bind h
  refine rv_callV1 (rest := [.ref (ad 0)]) (ct_X9_isPerson hr1) wm_X9_135 wi_X9_isPerson wl_X9_isPerson wc_X9_isPerson wz_X9 rfl np_X9_isPerson dX9_teach_3 rfl ⟨rv_le rfl, rv_le rfl⟩ ⟨rv_le rfl, rv_le rfl⟩ (rv_le rfl) 0 (wm_0 ta ad μ) cl_X9 ?_
  refine rv_if_ne (tgt := 13) dX9_teach_6 (by decide) (fun hc2 => ?_) (fun hc2 => ?_)
  · replace h := rv_iff hc2 h
    refine rv_aload_n dX9_teach_13 rfl 0 rfl ?_
    refine rv_iload_n dX9_teach_14 rfl 2 rfl ?_
    obtain ⟨r3, hr3, h⟩ := rv_bind h
    refine rv_callV1 (rest := [.ref (ad 0)]) (ct_X9_isShift hr3) wm_X9_132 wi_X9_isShift wl_X9_isShift wc_X9_isShift wz_X9 rfl np_X9_isShift dX9_teach_15 rfl ⟨rv_le rfl, rv_le rfl⟩ ⟨rv_le rfl, rv_le rfl⟩ (rv_le rfl) 0 (wm_0 ta ad μ) cl_X9 ?_
    refine rv_if_ne (tgt := 25) dX9_teach_18 (by decide) (fun hc4 => ?_) (fun hc4 => ?_)
    · replace h := rv_iff hc4 h
      refine rv_iconst (v := 0) dX9_teach_25 (by decide) ?_
      exact vb_X9_teach_26 h
    · replace h := rv_ift hc4 h
      refine rv_iconst (v := 2) dX9_teach_21 (by decide) ?_
      refine rv_goto (tgt := 26) dX9_teach_22 (by decide) ?_
      exact vb_X9_teach_26 h
  · replace h := rv_ift hc2 h
    refine rv_iconst (v := 1) dX9_teach_9 (by decide) ?_
    refine rv_goto (tgt := 26) dX9_teach_10 (by decide) ?_
    exact vb_X9_teach_26 h
theorem vb_X9_setRest_37 {l : Launch} {D : va_G} {ta : Nat → ClassId} {ad : Nat → Nat} {μ : Mem} {x2 : Int32} {s1 : Int32} {r : (Int32) × Mem} (h : b_X9_setRest_37 μ x2 s1 = some r) : rv_V l D (rv_T ta) RX9 cX9_setRest 3 (some .int) ("", []) (rv_rm 2 0 0) (rv_M D (rv_F (rv_vI r.1) (wm ta ad r.2)) 0 0) 0 0 (wm ta ad μ) 37 [(2, .int x2)] [.int s1, .ref (ad 0)] := by
  unfold b_X9_setRest_37 at h
  refine pf_X9_29 dX9_setRest_37 0 (wm_0 ta ad μ) (rv_le rfl) (wm_f0_9 ta ad μ s1) ?_
  refine rv_iload_n dX9_setRest_40 rfl 0 rfl ?_
  obtain rfl := Option.some.inj h
  exact rv_iret rfl dX9_setRest_41 (rv_le rfl) (rv_le rfl) ⟨rfl, rfl⟩
theorem vb_X9_setRest_23 {l : Launch} {D : va_G} {ta : Nat → ClassId} {ad : Nat → Nat} {μ : Mem} {x1 : Int32} {x2 : Int32} {s2 : Int32} {r : (Int32) × Mem} (h : b_X9_setRest_23 μ x1 x2 s2 = some r) : rv_V l D (rv_T ta) RX9 cX9_setRest 3 (some .int) ("", []) (rv_rm 2 0 0) (rv_M D (rv_F (rv_vI r.1) (wm ta ad r.2)) 0 0) 0 0 (wm ta ad μ) 23 [(0, .ref (ad 0)), (1, .int x1), (2, .int x2)] [.int s2, .ref (ad 0), .ref (ad 0)] := by
  unfold b_X9_setRest_23 at h
  obtain ⟨r3, hr3, h⟩ := rv_bind h
  refine rv_callV1 (rest := [.ref (ad 0)]) (ct_X9_goesOn hr3) wm_X9_129 wi_X9_goesOn wl_X9_goesOn wc_X9_goesOn wz_X9 rfl np_X9_goesOn dX9_setRest_23 rfl ⟨rv_le rfl, rv_le rfl⟩ ⟨rv_le rfl, rv_le rfl⟩ (rv_le rfl) 0 (wm_0 ta ad μ) cl_X9 ?_
  refine rv_if_eq (tgt := 33) dX9_setRest_26 (by decide) (fun hc4 => ?_) (fun hc4 => ?_)
  · replace h := rv_ift hc4 h
    refine rv_aload_n dX9_setRest_33 rfl 0 rfl ?_
    refine gf_X9_29 dX9_setRest_34 0 (wm_0 ta ad r3.2) rfl ?_
    refine rv_sub [2] rfl ?_
    exact vb_X9_setRest_37 h
  · replace h := rv_iff hc4 h
    refine rv_iload_n dX9_setRest_29 rfl 1 rfl ?_
    refine rv_goto (tgt := 37) dX9_setRest_30 (by decide) ?_
    refine rv_sub [2] rfl ?_
    exact vb_X9_setRest_37 h
theorem ct_X9_setRest {l : Launch} {D : va_G} {ta : Nat → ClassId} {ad : Nat → Nat} {μ : Mem} {x1 : Int32} {r : (Int32) × Mem} (h : f_X9_setRest μ x1 = some r) : rv_C l D (rv_T ta) yX9_setRest cX9_setRest 3 (some .int) 2 0 0 [.ref (ad 0), .int x1] (wm ta ad μ) (rv_F (rv_vI r.1) (wm ta ad r.2)) := by
  refine rv_Cof2 (own := RX9) (lv := [(0, .ref (ad 0)), (1, .int x1)]) rfl (by decide) (rv_le rfl) rfl ?_
  unfold f_X9_setRest at h
  refine rv_aload_n dX9_setRest_0 rfl 0 rfl ?_
  refine gf_X9_29 dX9_setRest_1 0 (wm_0 ta ad μ) rfl ?_
  refine rv_istore_n (lv2 := [(2, .int (μ.1 0 9)), (0, .ref (ad 0)), (1, .int x1)]) dX9_setRest_4 rfl (by decide) rfl ?_
  refine rv_aload_n dX9_setRest_5 rfl 1 rfl ?_
  refine rv_aload_n dX9_setRest_6 rfl 1 rfl ?_
  refine rv_iload_n dX9_setRest_7 rfl 2 rfl ?_
  refine rv_iconst (v := 0) dX9_setRest_8 (by decide) ?_
  refine rv_sipush (v := 2000) dX9_setRest_9 (by decide) ?_
  obtain ⟨r1, hr1, h⟩ := rv_bind h
  refine rv_callS1 (rest := [.ref (ad 0), .ref (ad 0)]) (ct_X9_in hr1) wm_X9_79 ws_X9_in wc_X9_in wz_X9 np_X9_in dX9_setRest_12 rfl ⟨rv_le rfl, rv_le rfl⟩ ⟨rv_le rfl, rv_le rfl⟩ (rv_le rfl) ?_
  refine rv_if_eq (tgt := 22) dX9_setRest_15 (by decide) (fun hc2 => ?_) (fun hc2 => ?_)
  · replace h := rv_ift hc2 h
    refine rv_iconst (v := 1) dX9_setRest_22 (by decide) ?_
    refine rv_sub [1, 2, 0] rfl ?_
    exact vb_X9_setRest_23 h
  · replace h := rv_iff hc2 h
    refine rv_iconst (v := 0) dX9_setRest_18 (by decide) ?_
    refine rv_goto (tgt := 23) dX9_setRest_19 (by decide) ?_
    refine rv_sub [1, 2, 0] rfl ?_
    exact vb_X9_setRest_23 h
theorem vb_X9_setNights_36 {l : Launch} {D : va_G} {ta : Nat → ClassId} {ad : Nat → Nat} {μ : Mem} {x2 : Int32} {s1 : Int32} {r : (Int32) × Mem} (h : b_X9_setNights_36 μ x2 s1 = some r) : rv_V l D (rv_T ta) RX9 cX9_setNights 3 (some .int) ("", []) (rv_rm 2 0 0) (rv_M D (rv_F (rv_vI r.1) (wm ta ad r.2)) 0 0) 0 0 (wm ta ad μ) 36 [(2, .int x2)] [.int s1, .ref (ad 0)] := by
  unfold b_X9_setNights_36 at h
  refine pf_X9_33 dX9_setNights_36 0 (wm_0 ta ad μ) (rv_le rfl) (wm_f0_10 ta ad μ s1) ?_
  refine rv_iload_n dX9_setNights_39 rfl 0 rfl ?_
  obtain rfl := Option.some.inj h
  exact rv_iret rfl dX9_setNights_40 (rv_le rfl) (rv_le rfl) ⟨rfl, rfl⟩
theorem vb_X9_setNights_22 {l : Launch} {D : va_G} {ta : Nat → ClassId} {ad : Nat → Nat} {μ : Mem} {x1 : Int32} {x2 : Int32} {s2 : Int32} {r : (Int32) × Mem} (h : b_X9_setNights_22 μ x1 x2 s2 = some r) : rv_V l D (rv_T ta) RX9 cX9_setNights 3 (some .int) ("", []) (rv_rm 2 0 0) (rv_M D (rv_F (rv_vI r.1) (wm ta ad r.2)) 0 0) 0 0 (wm ta ad μ) 22 [(0, .ref (ad 0)), (1, .int x1), (2, .int x2)] [.int s2, .ref (ad 0), .ref (ad 0)] := by
  unfold b_X9_setNights_22 at h
  obtain ⟨r3, hr3, h⟩ := rv_bind h
  refine rv_callV1 (rest := [.ref (ad 0)]) (ct_X9_goesOn hr3) wm_X9_129 wi_X9_goesOn wl_X9_goesOn wc_X9_goesOn wz_X9 rfl np_X9_goesOn dX9_setNights_22 rfl ⟨rv_le rfl, rv_le rfl⟩ ⟨rv_le rfl, rv_le rfl⟩ (rv_le rfl) 0 (wm_0 ta ad μ) cl_X9 ?_
  refine rv_if_eq (tgt := 32) dX9_setNights_25 (by decide) (fun hc4 => ?_) (fun hc4 => ?_)
  · replace h := rv_ift hc4 h
    refine rv_aload_n dX9_setNights_32 rfl 0 rfl ?_
    refine gf_X9_33 dX9_setNights_33 0 (wm_0 ta ad r3.2) rfl ?_
    refine rv_sub [2] rfl ?_
    exact vb_X9_setNights_36 h
  · replace h := rv_iff hc4 h
    refine rv_iload_n dX9_setNights_28 rfl 1 rfl ?_
    refine rv_goto (tgt := 36) dX9_setNights_29 (by decide) ?_
    refine rv_sub [2] rfl ?_
    exact vb_X9_setNights_36 h
theorem ct_X9_setNights {l : Launch} {D : va_G} {ta : Nat → ClassId} {ad : Nat → Nat} {μ : Mem} {x1 : Int32} {r : (Int32) × Mem} (h : f_X9_setNights μ x1 = some r) : rv_C l D (rv_T ta) yX9_setNights cX9_setNights 3 (some .int) 2 0 0 [.ref (ad 0), .int x1] (wm ta ad μ) (rv_F (rv_vI r.1) (wm ta ad r.2)) := by
  refine rv_Cof2 (own := RX9) (lv := [(0, .ref (ad 0)), (1, .int x1)]) rfl (by decide) (rv_le rfl) rfl ?_
  unfold f_X9_setNights at h
  refine rv_aload_n dX9_setNights_0 rfl 0 rfl ?_
  refine gf_X9_33 dX9_setNights_1 0 (wm_0 ta ad μ) rfl ?_
  refine rv_istore_n (lv2 := [(2, .int (μ.1 0 10)), (0, .ref (ad 0)), (1, .int x1)]) dX9_setNights_4 rfl (by decide) rfl ?_
  refine rv_aload_n dX9_setNights_5 rfl 1 rfl ?_
  refine rv_aload_n dX9_setNights_6 rfl 1 rfl ?_
  refine rv_iload_n dX9_setNights_7 rfl 2 rfl ?_
  refine rv_iconst (v := 1) dX9_setNights_8 (by decide) ?_
  refine rv_bipush (v := 8) dX9_setNights_9 (by decide) ?_
  obtain ⟨r1, hr1, h⟩ := rv_bind h
  refine rv_callS1 (rest := [.ref (ad 0), .ref (ad 0)]) (ct_X9_in hr1) wm_X9_79 ws_X9_in wc_X9_in wz_X9 np_X9_in dX9_setNights_11 rfl ⟨rv_le rfl, rv_le rfl⟩ ⟨rv_le rfl, rv_le rfl⟩ (rv_le rfl) ?_
  refine rv_if_eq (tgt := 21) dX9_setNights_14 (by decide) (fun hc2 => ?_) (fun hc2 => ?_)
  · replace h := rv_ift hc2 h
    refine rv_iconst (v := 1) dX9_setNights_21 (by decide) ?_
    refine rv_sub [1, 2, 0] rfl ?_
    exact vb_X9_setNights_22 h
  · replace h := rv_iff hc2 h
    refine rv_iconst (v := 0) dX9_setNights_17 (by decide) ?_
    refine rv_goto (tgt := 22) dX9_setNights_18 (by decide) ?_
    refine rv_sub [1, 2, 0] rfl ?_
    exact vb_X9_setNights_22 h
theorem vb_X9_setRun_36 {l : Launch} {D : va_G} {ta : Nat → ClassId} {ad : Nat → Nat} {μ : Mem} {x2 : Int32} {s1 : Int32} {r : (Int32) × Mem} (h : b_X9_setRun_36 μ x2 s1 = some r) : rv_V l D (rv_T ta) RX9 cX9_setRun 3 (some .int) ("", []) (rv_rm 2 0 0) (rv_M D (rv_F (rv_vI r.1) (wm ta ad r.2)) 0 0) 0 0 (wm ta ad μ) 36 [(2, .int x2)] [.int s1, .ref (ad 0)] := by
  unfold b_X9_setRun_36 at h
  refine pf_X9_36 dX9_setRun_36 0 (wm_0 ta ad μ) (rv_le rfl) (wm_f0_11 ta ad μ s1) ?_
  refine rv_iload_n dX9_setRun_39 rfl 0 rfl ?_
  obtain rfl := Option.some.inj h
  exact rv_iret rfl dX9_setRun_40 (rv_le rfl) (rv_le rfl) ⟨rfl, rfl⟩
theorem vb_X9_setRun_22 {l : Launch} {D : va_G} {ta : Nat → ClassId} {ad : Nat → Nat} {μ : Mem} {x1 : Int32} {x2 : Int32} {s2 : Int32} {r : (Int32) × Mem} (h : b_X9_setRun_22 μ x1 x2 s2 = some r) : rv_V l D (rv_T ta) RX9 cX9_setRun 3 (some .int) ("", []) (rv_rm 2 0 0) (rv_M D (rv_F (rv_vI r.1) (wm ta ad r.2)) 0 0) 0 0 (wm ta ad μ) 22 [(0, .ref (ad 0)), (1, .int x1), (2, .int x2)] [.int s2, .ref (ad 0), .ref (ad 0)] := by
  unfold b_X9_setRun_22 at h
  obtain ⟨r3, hr3, h⟩ := rv_bind h
  refine rv_callV1 (rest := [.ref (ad 0)]) (ct_X9_goesOn hr3) wm_X9_129 wi_X9_goesOn wl_X9_goesOn wc_X9_goesOn wz_X9 rfl np_X9_goesOn dX9_setRun_22 rfl ⟨rv_le rfl, rv_le rfl⟩ ⟨rv_le rfl, rv_le rfl⟩ (rv_le rfl) 0 (wm_0 ta ad μ) cl_X9 ?_
  refine rv_if_eq (tgt := 32) dX9_setRun_25 (by decide) (fun hc4 => ?_) (fun hc4 => ?_)
  · replace h := rv_ift hc4 h
    refine rv_aload_n dX9_setRun_32 rfl 0 rfl ?_
    refine gf_X9_36 dX9_setRun_33 0 (wm_0 ta ad r3.2) rfl ?_
    refine rv_sub [2] rfl ?_
    exact vb_X9_setRun_36 h
  · replace h := rv_iff hc4 h
    refine rv_iload_n dX9_setRun_28 rfl 1 rfl ?_
    refine rv_goto (tgt := 36) dX9_setRun_29 (by decide) ?_
    refine rv_sub [2] rfl ?_
    exact vb_X9_setRun_36 h
theorem ct_X9_setRun {l : Launch} {D : va_G} {ta : Nat → ClassId} {ad : Nat → Nat} {μ : Mem} {x1 : Int32} {r : (Int32) × Mem} (h : f_X9_setRun μ x1 = some r) : rv_C l D (rv_T ta) yX9_setRun cX9_setRun 3 (some .int) 2 0 0 [.ref (ad 0), .int x1] (wm ta ad μ) (rv_F (rv_vI r.1) (wm ta ad r.2)) := by
  refine rv_Cof2 (own := RX9) (lv := [(0, .ref (ad 0)), (1, .int x1)]) rfl (by decide) (rv_le rfl) rfl ?_
  unfold f_X9_setRun at h
  refine rv_aload_n dX9_setRun_0 rfl 0 rfl ?_
  refine gf_X9_36 dX9_setRun_1 0 (wm_0 ta ad μ) rfl ?_
  refine rv_istore_n (lv2 := [(2, .int (μ.1 0 11)), (0, .ref (ad 0)), (1, .int x1)]) dX9_setRun_4 rfl (by decide) rfl ?_
  refine rv_aload_n dX9_setRun_5 rfl 1 rfl ?_
  refine rv_aload_n dX9_setRun_6 rfl 1 rfl ?_
  refine rv_iload_n dX9_setRun_7 rfl 2 rfl ?_
  refine rv_iconst (v := 1) dX9_setRun_8 (by decide) ?_
  refine rv_bipush (v := 8) dX9_setRun_9 (by decide) ?_
  obtain ⟨r1, hr1, h⟩ := rv_bind h
  refine rv_callS1 (rest := [.ref (ad 0), .ref (ad 0)]) (ct_X9_in hr1) wm_X9_79 ws_X9_in wc_X9_in wz_X9 np_X9_in dX9_setRun_11 rfl ⟨rv_le rfl, rv_le rfl⟩ ⟨rv_le rfl, rv_le rfl⟩ (rv_le rfl) ?_
  refine rv_if_eq (tgt := 21) dX9_setRun_14 (by decide) (fun hc2 => ?_) (fun hc2 => ?_)
  · replace h := rv_ift hc2 h
    refine rv_iconst (v := 1) dX9_setRun_21 (by decide) ?_
    refine rv_sub [1, 2, 0] rfl ?_
    exact vb_X9_setRun_22 h
  · replace h := rv_iff hc2 h
    refine rv_iconst (v := 0) dX9_setRun_17 (by decide) ?_
    refine rv_goto (tgt := 22) dX9_setRun_18 (by decide) ?_
    refine rv_sub [1, 2, 0] rfl ?_
    exact vb_X9_setRun_22 h
theorem vb_X9_setHours_32 {l : Launch} {D : va_G} {ta : Nat → ClassId} {ad : Nat → Nat} {μ : Mem} {x1 : Int32} {x2 : Int32} {x3 : Int32} {s1 : Int32} {r : (Int32) × Mem} (h : b_X9_setHours_32 μ x1 x2 x3 s1 = some r) : rv_V l D (rv_T ta) RX9 cX9_setHours 4 (some .int) ("", []) (rv_rm 2 0 0) (rv_M D (rv_F (rv_vI r.1) (wm ta ad r.2)) 0 0) 0 0 (wm ta ad μ) 32 [(0, .ref (ad 0)), (1, .int x1), (2, .int x2), (3, .int x3)] [.int s1, .ref (ad 0)] := by
  unfold b_X9_setHours_32 at h
  obtain ⟨r3, hr3, h⟩ := rv_bind h
  refine rv_callV1 (rest := []) (ct_X9_goesOn hr3) wm_X9_129 wi_X9_goesOn wl_X9_goesOn wc_X9_goesOn wz_X9 rfl np_X9_goesOn dX9_setHours_32 rfl ⟨rv_le rfl, rv_le rfl⟩ ⟨rv_le rfl, rv_le rfl⟩ (rv_le rfl) 0 (wm_0 ta ad μ) cl_X9 ?_
  refine rv_if_eq (tgt := 48) dX9_setHours_35 (by decide) (fun hc4 => ?_) (fun hc4 => ?_)
  · replace h := rv_ift hc4 h
    refine rv_iload_n dX9_setHours_48 rfl 3 rfl ?_
    obtain rfl := Option.some.inj h
    exact rv_iret rfl dX9_setHours_49 (rv_le rfl) (rv_le rfl) ⟨rfl, rfl⟩
  · replace h := rv_iff hc4 h
    refine rv_aload_n dX9_setHours_38 rfl 0 rfl ?_
    refine rv_iload_n dX9_setHours_39 rfl 1 rfl ?_
    refine pf_X9_39 dX9_setHours_40 0 (wm_0 ta ad r3.2) (rv_le rfl) (wm_f0_12 ta ad r3.2 x1) ?_
    refine rv_aload_n dX9_setHours_43 rfl 0 rfl ?_
    refine rv_iload_n dX9_setHours_44 rfl 2 rfl ?_
    refine pf_X9_42 dX9_setHours_45 0 (wm_0 ta ad (mu_up r3.2 0 12 x1)) (rv_le rfl) (wm_f0_13 ta ad (mu_up r3.2 0 12 x1) x2) ?_
    refine rv_iload_n dX9_setHours_48 rfl 3 rfl ?_
    obtain rfl := Option.some.inj h
    exact rv_iret rfl dX9_setHours_49 (rv_le rfl) (rv_le rfl) ⟨rfl, rfl⟩
theorem vb_X9_setHours_31 {l : Launch} {D : va_G} {ta : Nat → ClassId} {ad : Nat → Nat} {μ : Mem} {x1 : Int32} {x2 : Int32} {x3 : Int32} {r : (Int32) × Mem} (h : b_X9_setHours_31 μ x1 x2 x3 = some r) : rv_V l D (rv_T ta) RX9 cX9_setHours 4 (some .int) ("", []) (rv_rm 2 0 0) (rv_M D (rv_F (rv_vI r.1) (wm ta ad r.2)) 0 0) 0 0 (wm ta ad μ) 31 [(0, .ref (ad 0)), (1, .int x1), (2, .int x2), (3, .int x3)] [.ref (ad 0)] := by
  unfold b_X9_setHours_31 at h
  refine rv_iconst (v := 1) dX9_setHours_31 (by decide) ?_
  exact vb_X9_setHours_32 h
theorem ct_X9_setHours {l : Launch} {D : va_G} {ta : Nat → ClassId} {ad : Nat → Nat} {μ : Mem} {x1 : Int32} {x2 : Int32} {r : (Int32) × Mem} (h : f_X9_setHours μ x1 x2 = some r) : rv_C l D (rv_T ta) yX9_setHours cX9_setHours 4 (some .int) 2 0 0 [.ref (ad 0), .int x1, .int x2] (wm ta ad μ) (rv_F (rv_vI r.1) (wm ta ad r.2)) := by
  refine rv_Cof2 (own := RX9) (lv := [(0, .ref (ad 0)), (1, .int x1), (2, .int x2)]) rfl (by decide) (rv_le rfl) rfl ?_
  unfold f_X9_setHours at h
  refine rv_aload_n dX9_setHours_0 rfl 0 rfl ?_
  refine gf_X9_42 dX9_setHours_1 0 (wm_0 ta ad μ) rfl ?_
  refine rv_istore_n (lv2 := [(3, .int (μ.1 0 13)), (0, .ref (ad 0)), (1, .int x1), (2, .int x2)]) dX9_setHours_4 rfl (by decide) rfl ?_
  refine rv_aload_n dX9_setHours_5 rfl 1 rfl ?_
  refine rv_iload_n dX9_setHours_6 rfl 2 rfl ?_
  refine rv_iconst (v := 1) dX9_setHours_7 (by decide) ?_
  refine rv_bipush (v := 8) dX9_setHours_8 (by decide) ?_
  obtain ⟨r1, hr1, h⟩ := rv_bind h
  refine rv_callS1 (rest := [.ref (ad 0)]) (ct_X9_in hr1) wm_X9_79 ws_X9_in wc_X9_in wz_X9 np_X9_in dX9_setHours_10 rfl ⟨rv_le rfl, rv_le rfl⟩ ⟨rv_le rfl, rv_le rfl⟩ (rv_le rfl) ?_
  refine rv_if_eq (tgt := 31) dX9_setHours_13 (by decide) (fun hc2 => ?_) (fun hc2 => ?_)
  · replace h := rv_ift hc2 h
    refine rv_sub [1, 2, 3, 0] rfl ?_
    exact vb_X9_setHours_31 h
  · replace h := rv_iff hc2 h
    refine rv_iload_n dX9_setHours_16 rfl 3 rfl ?_
    refine rv_iconst (v := 0) dX9_setHours_17 (by decide) ?_
    refine rv_sipush (v := 6000) dX9_setHours_18 (by decide) ?_
    obtain ⟨r5, hr5, h⟩ := rv_bind h
    refine rv_callS1 (rest := [.ref (ad 0)]) (ct_X9_in hr5) wm_X9_79 ws_X9_in wc_X9_in wz_X9 np_X9_in dX9_setHours_21 rfl ⟨rv_le rfl, rv_le rfl⟩ ⟨rv_le rfl, rv_le rfl⟩ (rv_le rfl) ?_
    refine rv_if_eq (tgt := 31) dX9_setHours_24 (by decide) (fun hc6 => ?_) (fun hc6 => ?_)
    · replace h := rv_ift hc6 h
      refine rv_sub [1, 2, 3, 0] rfl ?_
      exact vb_X9_setHours_31 h
    · replace h := rv_iff hc6 h
      refine rv_iconst (v := 0) dX9_setHours_27 (by decide) ?_
      refine rv_goto (tgt := 32) dX9_setHours_28 (by decide) ?_
      refine rv_sub [1, 2, 3, 0] rfl ?_
      exact vb_X9_setHours_32 h
theorem vb_X9_setDemand_38 {l : Launch} {D : va_G} {ta : Nat → ClassId} {ad : Nat → Nat} {μ : Mem} {x1 : Int32} {x2 : Int32} {x3 : Int32} {s1 : Int32} {r : (Int32) × Mem} (h : b_X9_setDemand_38 μ x1 x2 x3 s1 = some r) : rv_V l D (rv_T ta) RX9 cX9_setDemand 5 (some .int) ("", []) (rv_rm 3 0 0) (rv_M D (rv_F (rv_vI r.1) (wm ta ad r.2)) 0 0) 0 0 (wm ta ad μ) 38 [(0, .ref (ad 0)), (1, .int x1), (2, .int x2), (3, .int x3)] [.int s1, .ref (ad 0)] := by
  unfold b_X9_setDemand_38 at h
  obtain ⟨r7, hr7, h⟩ := rv_bind h
  refine rv_callV1 (rest := []) (ct_X9_goesOn hr7) wm_X9_129 wi_X9_goesOn wl_X9_goesOn wc_X9_goesOn wz_X9 rfl np_X9_goesOn dX9_setDemand_38 rfl ⟨rv_le rfl, rv_le rfl⟩ ⟨rv_le rfl, rv_le rfl⟩ (rv_le rfl) 0 (wm_0 ta ad μ) cl_X9 ?_
  refine rv_if_ne (tgt := 46) dX9_setDemand_41 (by decide) (fun hc8 => ?_) (fun hc8 => ?_)
  · replace h := rv_iff hc8 h
    refine rv_aload_n dX9_setDemand_46 rfl 0 rfl ?_
    refine gf_X9_26 dX9_setDemand_47 0 (wm_0 ta ad r7.2) rfl ?_
    refine rv_iconst (v := 3) dX9_setDemand_50 (by decide) ?_
    refine rv_iload_n dX9_setDemand_51 rfl 1 rfl ?_
    refine rv_imul dX9_setDemand_52 ?_
    refine rv_iload_n dX9_setDemand_53 rfl 2 rfl ?_
    refine rv_iadd dX9_setDemand_54 ?_
    obtain ⟨hi9, h⟩ := rv_ifn h
    refine rv_iald dX9_setDemand_55 0 rfl 6 (wm_6 ta ad r7.2) (rv_inP hi9) ?_
    refine rv_istore (lv2 := [(4, .int (r7.2.1 6 (Int32.toNatClampNeg ((3 * x1) + x2)))), (0, .ref (ad 0)), (1, .int x1), (2, .int x2), (3, .int x3)]) dX9_setDemand_56 (by decide) rfl ?_
    refine rv_aload_n dX9_setDemand_58 rfl 1 rfl ?_
    refine gf_X9_26 dX9_setDemand_59 0 (wm_0 ta ad r7.2) rfl ?_
    refine rv_iconst (v := 3) dX9_setDemand_62 (by decide) ?_
    refine rv_iload_n dX9_setDemand_63 rfl 2 rfl ?_
    refine rv_imul dX9_setDemand_64 ?_
    refine rv_iload_n dX9_setDemand_65 rfl 3 rfl ?_
    refine rv_iadd dX9_setDemand_66 ?_
    refine rv_iload_n dX9_setDemand_67 rfl 4 rfl ?_
    obtain ⟨hi10, h⟩ := rv_ifn h
    refine rv_iast dX9_setDemand_68 0 rfl 6 (wm_6 ta ad r7.2) (rv_inP hi10) (wm_s6 ta ad r7.2 _ _) ?_
    refine rv_iload dX9_setDemand_69 0 rfl ?_
    obtain rfl := Option.some.inj h
    exact rv_iret rfl dX9_setDemand_71 (rv_le rfl) (rv_le rfl) ⟨rfl, rfl⟩
  · replace h := rv_ift hc8 h
    refine rv_iconst (v := 0) dX9_setDemand_44 (by decide) ?_
    obtain rfl := Option.some.inj h
    exact rv_iret rfl dX9_setDemand_45 (rv_le rfl) (rv_le rfl) ⟨rfl, rfl⟩
theorem ct_X9_setDemand {l : Launch} {D : va_G} {ta : Nat → ClassId} {ad : Nat → Nat} {μ : Mem} {x1 : Int32} {x2 : Int32} {x3 : Int32} {r : (Int32) × Mem} (h : f_X9_setDemand μ x1 x2 x3 = some r) : rv_C l D (rv_T ta) yX9_setDemand cX9_setDemand 5 (some .int) 3 0 0 [.ref (ad 0), .int x1, .int x2, .int x3] (wm ta ad μ) (rv_F (rv_vI r.1) (wm ta ad r.2)) := by
  refine rv_Cof2 (own := RX9) (lv := [(0, .ref (ad 0)), (1, .int x1), (2, .int x2), (3, .int x3)]) rfl (by decide) (rv_le rfl) rfl ?_
  unfold f_X9_setDemand at h
  refine rv_aload_n dX9_setDemand_0 rfl 0 rfl ?_
  refine rv_iload_n dX9_setDemand_1 rfl 1 rfl ?_
  obtain ⟨r1, hr1, h⟩ := rv_bind h
  refine rv_callS1 (rest := [.ref (ad 0)]) (ct_X9_isDay hr1) wm_X9_138 ws_X9_isDay wc_X9_isDay wz_X9 np_X9_isDay dX9_setDemand_2 rfl ⟨rv_le rfl, rv_le rfl⟩ ⟨rv_le rfl, rv_le rfl⟩ (rv_le rfl) ?_
  refine rv_if_ne (tgt := 12) dX9_setDemand_5 (by decide) (fun hc2 => ?_) (fun hc2 => ?_)
  · replace h := rv_iff hc2 h
    refine rv_aload_n dX9_setDemand_12 rfl 0 rfl ?_
    refine rv_iload_n dX9_setDemand_13 rfl 2 rfl ?_
    obtain ⟨r3, hr3, h⟩ := rv_bind h
    refine rv_callV1 (rest := [.ref (ad 0)]) (ct_X9_isShift hr3) wm_X9_132 wi_X9_isShift wl_X9_isShift wc_X9_isShift wz_X9 rfl np_X9_isShift dX9_setDemand_14 rfl ⟨rv_le rfl, rv_le rfl⟩ ⟨rv_le rfl, rv_le rfl⟩ (rv_le rfl) 0 (wm_0 ta ad μ) cl_X9 ?_
    refine rv_if_ne (tgt := 24) dX9_setDemand_17 (by decide) (fun hc4 => ?_) (fun hc4 => ?_)
    · replace h := rv_iff hc4 h
      refine rv_iload_n dX9_setDemand_24 rfl 3 rfl ?_
      refine rv_iconst (v := 0) dX9_setDemand_25 (by decide) ?_
      refine rv_iconst (v := 4) dX9_setDemand_26 (by decide) ?_
      obtain ⟨r5, hr5, h⟩ := rv_bind h
      refine rv_callS1 (rest := [.ref (ad 0)]) (ct_X9_in hr5) wm_X9_79 ws_X9_in wc_X9_in wz_X9 np_X9_in dX9_setDemand_27 rfl ⟨rv_le rfl, rv_le rfl⟩ ⟨rv_le rfl, rv_le rfl⟩ (rv_le rfl) ?_
      refine rv_if_ne (tgt := 37) dX9_setDemand_30 (by decide) (fun hc6 => ?_) (fun hc6 => ?_)
      · replace h := rv_iff hc6 h
        refine rv_iconst (v := 0) dX9_setDemand_37 (by decide) ?_
        exact vb_X9_setDemand_38 h
      · replace h := rv_ift hc6 h
        refine rv_iconst (v := 3) dX9_setDemand_33 (by decide) ?_
        refine rv_goto (tgt := 38) dX9_setDemand_34 (by decide) ?_
        exact vb_X9_setDemand_38 h
    · replace h := rv_ift hc4 h
      refine rv_iconst (v := 2) dX9_setDemand_20 (by decide) ?_
      refine rv_goto (tgt := 38) dX9_setDemand_21 (by decide) ?_
      exact vb_X9_setDemand_38 h
  · replace h := rv_ift hc2 h
    refine rv_iconst (v := 1) dX9_setDemand_8 (by decide) ?_
    refine rv_goto (tgt := 38) dX9_setDemand_9 (by decide) ?_
    exact vb_X9_setDemand_38 h
theorem vb_X9_assign_33 {l : Launch} {D : va_G} {ta : Nat → ClassId} {ad : Nat → Nat} {μ : Mem} {x1 : Int32} {x2 : Int32} {x3 : Int32} {s1 : Int32} {r : (Int32) × Mem} (h : b_X9_assign_33 μ x1 x2 x3 s1 = some r) : rv_V l D (rv_T ta) RX9 cX9_assign 5 (some .int) ("", []) (rv_rm 3 0 0) (rv_M D (rv_F (rv_vI r.1) (wm ta ad r.2)) 0 0) 0 0 (wm ta ad μ) 33 [(0, .ref (ad 0)), (1, .int x1), (2, .int x2), (3, .int x3)] [.int s1, .ref (ad 0)] := by
  unfold b_X9_assign_33 at h
  obtain ⟨r3, hr3, h⟩ := rv_bind h
  refine rv_callV1 (rest := []) (ct_X9_goesOn hr3) wm_X9_129 wi_X9_goesOn wl_X9_goesOn wc_X9_goesOn wz_X9 rfl np_X9_goesOn dX9_assign_33 rfl ⟨rv_le rfl, rv_le rfl⟩ ⟨rv_le rfl, rv_le rfl⟩ (rv_le rfl) 0 (wm_0 ta ad μ) cl_X9 ?_
  refine rv_if_ne (tgt := 41) dX9_assign_36 (by decide) (fun hc4 => ?_) (fun hc4 => ?_)
  · replace h := rv_iff hc4 h
    refine rv_aload_n dX9_assign_41 rfl 0 rfl ?_
    refine rv_iload_n dX9_assign_42 rfl 1 rfl ?_
    refine rv_iload_n dX9_assign_43 rfl 2 rfl ?_
    obtain ⟨r5, hr5, h⟩ := rv_bind h
    refine rv_callV1 (rest := []) (ct_X9_at hr5) wm_X9_86 wi_X9_at wl_X9_at wc_X9_at wz_X9 rfl np_X9_at dX9_assign_44 rfl ⟨rv_le rfl, rv_le rfl⟩ ⟨rv_le rfl, rv_le rfl⟩ (rv_le rfl) 0 (wm_0 ta ad r3.2) cl_X9 ?_
    refine rv_istore (lv2 := [(4, .int r5), (0, .ref (ad 0)), (1, .int x1), (2, .int x2), (3, .int x3)]) dX9_assign_47 (by decide) rfl ?_
    refine rv_aload_n dX9_assign_49 rfl 1 rfl ?_
    refine gf_X9_16 dX9_assign_50 0 (wm_0 ta ad r3.2) rfl ?_
    refine rv_bipush (v := 8) dX9_assign_53 (by decide) ?_
    refine rv_iload_n dX9_assign_55 rfl 2 rfl ?_
    refine rv_imul dX9_assign_56 ?_
    refine rv_iload_n dX9_assign_57 rfl 3 rfl ?_
    refine rv_iadd dX9_assign_58 ?_
    refine rv_iload_n dX9_assign_59 rfl 4 rfl ?_
    obtain ⟨hi6, h⟩ := rv_ifn h
    refine rv_iast dX9_assign_60 0 rfl 3 (wm_3 ta ad r3.2) (rv_inP hi6) (wm_s3 ta ad r3.2 _ _) ?_
    refine rv_iload dX9_assign_61 0 rfl ?_
    obtain rfl := Option.some.inj h
    exact rv_iret rfl dX9_assign_63 (rv_le rfl) (rv_le rfl) ⟨rfl, rfl⟩
  · replace h := rv_ift hc4 h
    refine rv_iconst (v := 0) dX9_assign_39 (by decide) ?_
    obtain rfl := Option.some.inj h
    exact rv_iret rfl dX9_assign_40 (rv_le rfl) (rv_le rfl) ⟨rfl, rfl⟩
theorem ct_X9_assign {l : Launch} {D : va_G} {ta : Nat → ClassId} {ad : Nat → Nat} {μ : Mem} {x1 : Int32} {x2 : Int32} {x3 : Int32} {r : (Int32) × Mem} (h : f_X9_assign μ x1 x2 x3 = some r) : rv_C l D (rv_T ta) yX9_assign cX9_assign 5 (some .int) 3 0 0 [.ref (ad 0), .int x1, .int x2, .int x3] (wm ta ad μ) (rv_F (rv_vI r.1) (wm ta ad r.2)) := by
  refine rv_Cof2 (own := RX9) (lv := [(0, .ref (ad 0)), (1, .int x1), (2, .int x2), (3, .int x3)]) rfl (by decide) (rv_le rfl) rfl ?_
  unfold f_X9_assign at h
  refine rv_aload_n dX9_assign_0 rfl 0 rfl ?_
  refine rv_aload_n dX9_assign_1 rfl 0 rfl ?_
  refine rv_iload_n dX9_assign_2 rfl 1 rfl ?_
  obtain ⟨r1, hr1, h⟩ := rv_bind h
  refine rv_callV1 (rest := [.ref (ad 0)]) (ct_X9_isPerson hr1) wm_X9_135 wi_X9_isPerson wl_X9_isPerson wc_X9_isPerson wz_X9 rfl np_X9_isPerson dX9_assign_3 rfl ⟨rv_le rfl, rv_le rfl⟩ ⟨rv_le rfl, rv_le rfl⟩ (rv_le rfl) 0 (wm_0 ta ad μ) cl_X9 ?_
  refine rv_if_eq (tgt := 16) dX9_assign_6 (by decide) (fun hc2 => ?_) (fun hc2 => ?_)
  · replace h := rv_ift hc2 h
    refine rv_iconst (v := 1) dX9_assign_16 (by decide) ?_
    refine rv_goto (tgt := 33) dX9_assign_17 (by decide) ?_
    exact vb_X9_assign_33 h
  · replace h := rv_iff hc2 h
    refine rv_iload_n dX9_assign_9 rfl 2 rfl ?_
    obtain ⟨r7, hr7, h⟩ := rv_bind h
    refine rv_callS1 (rest := [.ref (ad 0)]) (ct_X9_isDay hr7) wm_X9_138 ws_X9_isDay wc_X9_isDay wz_X9 np_X9_isDay dX9_assign_10 rfl ⟨rv_le rfl, rv_le rfl⟩ ⟨rv_le rfl, rv_le rfl⟩ (rv_le rfl) ?_
    refine rv_if_ne (tgt := 20) dX9_assign_13 (by decide) (fun hc8 => ?_) (fun hc8 => ?_)
    · replace h := rv_iff hc8 h
      refine rv_aload_n dX9_assign_20 rfl 0 rfl ?_
      refine rv_iload_n dX9_assign_21 rfl 3 rfl ?_
      obtain ⟨r9, hr9, h⟩ := rv_bind h
      refine rv_callV1 (rest := [.ref (ad 0)]) (ct_X9_isShift hr9) wm_X9_132 wi_X9_isShift wl_X9_isShift wc_X9_isShift wz_X9 rfl np_X9_isShift dX9_assign_22 rfl ⟨rv_le rfl, rv_le rfl⟩ ⟨rv_le rfl, rv_le rfl⟩ (rv_le rfl) 0 (wm_0 ta ad μ) cl_X9 ?_
      refine rv_if_ne (tgt := 32) dX9_assign_25 (by decide) (fun hc10 => ?_) (fun hc10 => ?_)
      · replace h := rv_iff hc10 h
        refine rv_iconst (v := 0) dX9_assign_32 (by decide) ?_
        exact vb_X9_assign_33 h
      · replace h := rv_ift hc10 h
        refine rv_iconst (v := 2) dX9_assign_28 (by decide) ?_
        refine rv_goto (tgt := 33) dX9_assign_29 (by decide) ?_
        exact vb_X9_assign_33 h
    · replace h := rv_ift hc8 h
      refine rv_iconst (v := 1) dX9_assign_16 (by decide) ?_
      refine rv_goto (tgt := 33) dX9_assign_17 (by decide) ?_
      exact vb_X9_assign_33 h
theorem vb_X9_free_40 {l : Launch} {D : va_G} {ta : Nat → ClassId} {ad : Nat → Nat} {μ : Mem} {x1 : Int32} {x2 : Int32} {s0 : Int32} {r : (Int32) × Mem} (h : b_X9_free_40 μ x1 x2 s0 = some r) : rv_V l D (rv_T ta) RX9 cX9_free 5 (some .int) ("", []) (rv_rm 3 0 0) (rv_M D (rv_F (rv_vI r.1) (wm ta ad r.2)) 0 0) 0 0 (wm ta ad μ) 40 [(0, .ref (ad 0)), (1, .int x1), (2, .int x2)] [.int s0] := by
  unfold b_X9_free_40 at h
  refine rv_istore_n (lv2 := [(3, .int s0), (0, .ref (ad 0)), (1, .int x1), (2, .int x2)]) dX9_free_40 rfl (by decide) rfl ?_
  refine rv_aload_n dX9_free_41 rfl 1 rfl ?_
  refine rv_iload_n dX9_free_42 rfl 0 rfl ?_
  obtain ⟨r4, hr4, h⟩ := rv_bind h
  refine rv_callV1 (rest := []) (ct_X9_goesOn hr4) wm_X9_129 wi_X9_goesOn wl_X9_goesOn wc_X9_goesOn wz_X9 rfl np_X9_goesOn dX9_free_43 rfl ⟨rv_le rfl, rv_le rfl⟩ ⟨rv_le rfl, rv_le rfl⟩ (rv_le rfl) 0 (wm_0 ta ad μ) cl_X9 ?_
  refine rv_if_ne (tgt := 51) dX9_free_46 (by decide) (fun hc5 => ?_) (fun hc5 => ?_)
  · replace h := rv_iff hc5 h
    refine rv_aload_n dX9_free_51 rfl 1 rfl ?_
    refine rv_iload_n dX9_free_52 rfl 2 rfl ?_
    refine rv_iload_n dX9_free_53 rfl 3 rfl ?_
    obtain ⟨r6, hr6, h⟩ := rv_bind h
    refine rv_callV1 (rest := []) (ct_X9_at hr6) wm_X9_86 wi_X9_at wl_X9_at wc_X9_at wz_X9 rfl np_X9_at dX9_free_54 rfl ⟨rv_le rfl, rv_le rfl⟩ ⟨rv_le rfl, rv_le rfl⟩ (rv_le rfl) 0 (wm_0 ta ad r4.2) cl_X9 ?_
    refine rv_istore (lv2 := [(4, .int r6), (3, .int s0), (0, .ref (ad 0)), (1, .int x1), (2, .int x2)]) dX9_free_57 (by decide) rfl ?_
    refine rv_aload_n dX9_free_59 rfl 2 rfl ?_
    refine gf_X9_16 dX9_free_60 0 (wm_0 ta ad r4.2) rfl ?_
    refine rv_bipush (v := 8) dX9_free_63 (by decide) ?_
    refine rv_iload_n dX9_free_65 rfl 3 rfl ?_
    refine rv_imul dX9_free_66 ?_
    refine rv_iload_n dX9_free_67 rfl 4 rfl ?_
    refine rv_iadd dX9_free_68 ?_
    refine rv_iconst (v := (-1)) dX9_free_69 (by decide) ?_
    obtain ⟨hi7, h⟩ := rv_ifn h
    refine rv_iast dX9_free_70 0 rfl 3 (wm_3 ta ad r4.2) (rv_inP hi7) (wm_s3 ta ad r4.2 _ _) ?_
    refine rv_iload dX9_free_71 0 rfl ?_
    obtain rfl := Option.some.inj h
    exact rv_iret rfl dX9_free_73 (rv_le rfl) (rv_le rfl) ⟨rfl, rfl⟩
  · replace h := rv_ift hc5 h
    refine rv_iconst (v := 0) dX9_free_49 (by decide) ?_
    obtain rfl := Option.some.inj h
    exact rv_iret rfl dX9_free_50 (rv_le rfl) (rv_le rfl) ⟨rfl, rfl⟩
theorem vb_X9_free_39 {l : Launch} {D : va_G} {ta : Nat → ClassId} {ad : Nat → Nat} {μ : Mem} {x1 : Int32} {x2 : Int32} {x3 : Int32} {r : (Int32) × Mem} (h : b_X9_free_39 μ x1 x2 x3 = some r) : rv_V l D (rv_T ta) RX9 cX9_free 5 (some .int) ("", []) (rv_rm 3 0 0) (rv_M D (rv_F (rv_vI r.1) (wm ta ad r.2)) 0 0) 0 0 (wm ta ad μ) 39 [(0, .ref (ad 0)), (1, .int x1), (2, .int x2), (3, .int x3)] [] := by
  unfold b_X9_free_39 at h
  refine rv_iload_n dX9_free_39 rfl 3 rfl ?_
  refine rv_sub [0, 1, 2] rfl ?_
  exact vb_X9_free_40 h
theorem vb_X9_free_20 {l : Launch} {D : va_G} {ta : Nat → ClassId} {ad : Nat → Nat} {μ : Mem} {x1 : Int32} {x2 : Int32} {s0 : Int32} {r : (Int32) × Mem} (h : b_X9_free_20 μ x1 x2 s0 = some r) : rv_V l D (rv_T ta) RX9 cX9_free 5 (some .int) ("", []) (rv_rm 3 0 0) (rv_M D (rv_F (rv_vI r.1) (wm ta ad r.2)) 0 0) 0 0 (wm ta ad μ) 20 [(0, .ref (ad 0)), (1, .int x1), (2, .int x2)] [.int s0] := by
  unfold b_X9_free_20 at h
  refine rv_istore_n (lv2 := [(3, .int s0), (0, .ref (ad 0)), (1, .int x1), (2, .int x2)]) dX9_free_20 rfl (by decide) rfl ?_
  refine rv_iload_n dX9_free_21 rfl 0 rfl ?_
  refine rv_if_ne (tgt := 39) dX9_free_22 (by decide) (fun hc3 => ?_) (fun hc3 => ?_)
  · replace h := rv_iff hc3 h
    refine rv_sub [1, 2, 3, 0] rfl ?_
    exact vb_X9_free_39 h
  · replace h := rv_ift hc3 h
    refine rv_aload_n dX9_free_25 rfl 1 rfl ?_
    refine rv_iload_n dX9_free_26 rfl 2 rfl ?_
    refine rv_iload_n dX9_free_27 rfl 3 rfl ?_
    obtain ⟨r8, hr8, h⟩ := rv_bind h
    refine rv_callV1 (rest := []) (ct_X9_at hr8) wm_X9_86 wi_X9_at wl_X9_at wc_X9_at wz_X9 rfl np_X9_at dX9_free_28 rfl ⟨rv_le rfl, rv_le rfl⟩ ⟨rv_le rfl, rv_le rfl⟩ (rv_le rfl) 0 (wm_0 ta ad μ) cl_X9 ?_
    refine rv_iconst (v := (-1)) dX9_free_31 (by decide) ?_
    refine rv_icmp_ne (tgt := 39) dX9_free_32 (by decide) (fun hc9 => ?_) (fun hc9 => ?_)
    · replace h := rv_iff hc9 h
      refine rv_sub [1, 2, 3, 0] rfl ?_
      exact vb_X9_free_39 h
    · replace h := rv_ift hc9 h
      refine rv_iconst (v := 2) dX9_free_35 (by decide) ?_
      refine rv_goto (tgt := 40) dX9_free_36 (by decide) ?_
      refine rv_sub [1, 2, 3] rfl ?_
      exact vb_X9_free_40 h
theorem ct_X9_free {l : Launch} {D : va_G} {ta : Nat → ClassId} {ad : Nat → Nat} {μ : Mem} {x1 : Int32} {x2 : Int32} {r : (Int32) × Mem} (h : f_X9_free μ x1 x2 = some r) : rv_C l D (rv_T ta) yX9_free cX9_free 5 (some .int) 3 0 0 [.ref (ad 0), .int x1, .int x2] (wm ta ad μ) (rv_F (rv_vI r.1) (wm ta ad r.2)) := by
  refine rv_Cof2 (own := RX9) (lv := [(0, .ref (ad 0)), (1, .int x1), (2, .int x2)]) rfl (by decide) (rv_le rfl) rfl ?_
  unfold f_X9_free at h
  refine rv_aload_n dX9_free_0 rfl 0 rfl ?_
  refine rv_iload_n dX9_free_1 rfl 1 rfl ?_
  obtain ⟨r1, hr1, h⟩ := rv_bind h
  refine rv_callV1 (rest := []) (ct_X9_isPerson hr1) wm_X9_135 wi_X9_isPerson wl_X9_isPerson wc_X9_isPerson wz_X9 rfl np_X9_isPerson dX9_free_2 rfl ⟨rv_le rfl, rv_le rfl⟩ ⟨rv_le rfl, rv_le rfl⟩ (rv_le rfl) 0 (wm_0 ta ad μ) cl_X9 ?_
  refine rv_if_eq (tgt := 15) dX9_free_5 (by decide) (fun hc2 => ?_) (fun hc2 => ?_)
  · replace h := rv_ift hc2 h
    refine rv_iconst (v := 1) dX9_free_15 (by decide) ?_
    refine rv_goto (tgt := 20) dX9_free_16 (by decide) ?_
    exact vb_X9_free_20 h
  · replace h := rv_iff hc2 h
    refine rv_iload_n dX9_free_8 rfl 2 rfl ?_
    obtain ⟨r10, hr10, h⟩ := rv_bind h
    refine rv_callS1 (rest := []) (ct_X9_isDay hr10) wm_X9_138 ws_X9_isDay wc_X9_isDay wz_X9 np_X9_isDay dX9_free_9 rfl ⟨rv_le rfl, rv_le rfl⟩ ⟨rv_le rfl, rv_le rfl⟩ (rv_le rfl) ?_
    refine rv_if_ne (tgt := 19) dX9_free_12 (by decide) (fun hc11 => ?_) (fun hc11 => ?_)
    · replace h := rv_iff hc11 h
      refine rv_iconst (v := 0) dX9_free_19 (by decide) ?_
      exact vb_X9_free_20 h
    · replace h := rv_ift hc11 h
      refine rv_iconst (v := 1) dX9_free_15 (by decide) ?_
      refine rv_goto (tgt := 20) dX9_free_16 (by decide) ?_
      exact vb_X9_free_20 h
theorem vb_X9_setAbsent_21 {l : Launch} {D : va_G} {ta : Nat → ClassId} {ad : Nat → Nat} {μ : Mem} {x1 : Int32} {x2 : Int32} {x3 : Int32} {s1 : Int32} {r : (Int32) × Mem} (h : b_X9_setAbsent_21 μ x1 x2 x3 s1 = some r) : rv_V l D (rv_T ta) RX9 cX9_setAbsent 5 (some .boolean) ("", []) (rv_rm 3 0 0) (rv_M D (rv_F (rv_vI r.1) (wm ta ad r.2)) 0 0) 0 0 (wm ta ad μ) 21 [(0, .ref (ad 0)), (1, .int x1), (2, .int x2), (3, .int x3)] [.int s1, .ref (ad 0)] := by
  unfold b_X9_setAbsent_21 at h
  obtain ⟨r3, hr3, h⟩ := rv_bind h
  refine rv_callV1 (rest := []) (ct_X9_goesOn hr3) wm_X9_129 wi_X9_goesOn wl_X9_goesOn wc_X9_goesOn wz_X9 rfl np_X9_goesOn dX9_setAbsent_21 rfl ⟨rv_le rfl, rv_le rfl⟩ ⟨rv_le rfl, rv_le rfl⟩ (rv_le rfl) 0 (wm_0 ta ad μ) cl_X9 ?_
  refine rv_if_ne (tgt := 29) dX9_setAbsent_24 (by decide) (fun hc4 => ?_) (fun hc4 => ?_)
  · replace h := rv_iff hc4 h
    refine rv_aload_n dX9_setAbsent_29 rfl 0 rfl ?_
    refine gf_X9_19 dX9_setAbsent_30 0 (wm_0 ta ad r3.2) rfl ?_
    refine rv_bipush (v := 8) dX9_setAbsent_33 (by decide) ?_
    refine rv_iload_n dX9_setAbsent_35 rfl 1 rfl ?_
    refine rv_imul dX9_setAbsent_36 ?_
    refine rv_iload_n dX9_setAbsent_37 rfl 2 rfl ?_
    refine rv_iadd dX9_setAbsent_38 ?_
    obtain ⟨hi5, h⟩ := rv_ifn h
    refine rv_zald dX9_setAbsent_39 1 rfl 4 (wm_4 ta ad r3.2) (rv_inP hi5) ?_
    refine rv_istore (lv2 := [(4, .int (r3.2.1 4 (Int32.toNatClampNeg ((8 * x1) + x2)))), (0, .ref (ad 0)), (1, .int x1), (2, .int x2), (3, .int x3)]) dX9_setAbsent_40 (by decide) rfl ?_
    refine rv_aload_n dX9_setAbsent_42 rfl 1 rfl ?_
    refine gf_X9_19 dX9_setAbsent_43 0 (wm_0 ta ad r3.2) rfl ?_
    refine rv_bipush (v := 8) dX9_setAbsent_46 (by decide) ?_
    refine rv_iload_n dX9_setAbsent_48 rfl 2 rfl ?_
    refine rv_imul dX9_setAbsent_49 ?_
    refine rv_iload_n dX9_setAbsent_50 rfl 3 rfl ?_
    refine rv_iadd dX9_setAbsent_51 ?_
    refine rv_iload_n dX9_setAbsent_52 rfl 4 rfl ?_
    obtain ⟨hi6, h⟩ := rv_ifn h
    refine rv_zast dX9_setAbsent_53 1 rfl 4 (wm_4 ta ad r3.2) (rv_inP hi6) (wm_s4 ta ad r3.2 _ _) ?_
    refine rv_iload dX9_setAbsent_54 0 rfl ?_
    obtain ⟨hi7, h⟩ := rv_ifn h
    obtain rfl := Option.some.inj h
    exact rv_zret rfl (rv_bzP hi7) dX9_setAbsent_56 (rv_le rfl) (rv_le rfl) ⟨rfl, rfl⟩
  · replace h := rv_ift hc4 h
    refine rv_iconst (v := 0) dX9_setAbsent_27 (by decide) ?_
    obtain rfl := Option.some.inj h
    exact rv_zret rfl rfl dX9_setAbsent_28 (rv_le rfl) (rv_le rfl) ⟨rfl, rfl⟩
theorem ct_X9_setAbsent {l : Launch} {D : va_G} {ta : Nat → ClassId} {ad : Nat → Nat} {μ : Mem} {x1 : Int32} {x2 : Int32} {x3 : Int32} {r : (Int32) × Mem} (h : f_X9_setAbsent μ x1 x2 x3 = some r) : rv_C l D (rv_T ta) yX9_setAbsent cX9_setAbsent 5 (some .boolean) 3 0 0 [.ref (ad 0), .int x1, .int x2, .int x3] (wm ta ad μ) (rv_F (rv_vI r.1) (wm ta ad r.2)) := by
  refine rv_Cof2 (own := RX9) (lv := [(0, .ref (ad 0)), (1, .int x1), (2, .int x2), (3, .int x3)]) rfl (by decide) (rv_le rfl) rfl ?_
  unfold f_X9_setAbsent at h
  refine rv_aload_n dX9_setAbsent_0 rfl 0 rfl ?_
  refine rv_aload_n dX9_setAbsent_1 rfl 0 rfl ?_
  refine rv_iload_n dX9_setAbsent_2 rfl 1 rfl ?_
  obtain ⟨r1, hr1, h⟩ := rv_bind h
  refine rv_callV1 (rest := [.ref (ad 0)]) (ct_X9_isPerson hr1) wm_X9_135 wi_X9_isPerson wl_X9_isPerson wc_X9_isPerson wz_X9 rfl np_X9_isPerson dX9_setAbsent_3 rfl ⟨rv_le rfl, rv_le rfl⟩ ⟨rv_le rfl, rv_le rfl⟩ (rv_le rfl) 0 (wm_0 ta ad μ) cl_X9 ?_
  refine rv_if_eq (tgt := 16) dX9_setAbsent_6 (by decide) (fun hc2 => ?_) (fun hc2 => ?_)
  · replace h := rv_ift hc2 h
    refine rv_iconst (v := 1) dX9_setAbsent_16 (by decide) ?_
    refine rv_goto (tgt := 21) dX9_setAbsent_17 (by decide) ?_
    exact vb_X9_setAbsent_21 h
  · replace h := rv_iff hc2 h
    refine rv_iload_n dX9_setAbsent_9 rfl 2 rfl ?_
    obtain ⟨r8, hr8, h⟩ := rv_bind h
    refine rv_callS1 (rest := [.ref (ad 0)]) (ct_X9_isDay hr8) wm_X9_138 ws_X9_isDay wc_X9_isDay wz_X9 np_X9_isDay dX9_setAbsent_10 rfl ⟨rv_le rfl, rv_le rfl⟩ ⟨rv_le rfl, rv_le rfl⟩ (rv_le rfl) ?_
    refine rv_if_ne (tgt := 20) dX9_setAbsent_13 (by decide) (fun hc9 => ?_) (fun hc9 => ?_)
    · replace h := rv_iff hc9 h
      refine rv_iconst (v := 0) dX9_setAbsent_20 (by decide) ?_
      exact vb_X9_setAbsent_21 h
    · replace h := rv_ift hc9 h
      refine rv_iconst (v := 1) dX9_setAbsent_16 (by decide) ?_
      refine rv_goto (tgt := 21) dX9_setAbsent_17 (by decide) ?_
      exact vb_X9_setAbsent_21 h
theorem vb_X9_shiftOf_21 {l : Launch} {D : va_G} {ta : Nat → ClassId} {ad : Nat → Nat} {μ : Mem} {x1 : Int32} {x2 : Int32} {s1 : Int32} {r : (Int32) × Mem} (h : b_X9_shiftOf_21 μ x1 x2 s1 = some r) : rv_V l D (rv_T ta) RX9 cX9_shiftOf 3 (some .int) ("", []) (rv_rm 3 0 0) (rv_M D (rv_F (rv_vI r.1) (wm ta ad r.2)) 0 0) 0 0 (wm ta ad μ) 21 [(0, .ref (ad 0)), (1, .int x1), (2, .int x2)] [.int s1, .ref (ad 0)] := by
  unfold b_X9_shiftOf_21 at h
  obtain ⟨r3, hr3, h⟩ := rv_bind h
  refine rv_callV1 (rest := []) (ct_X9_goesOn hr3) wm_X9_129 wi_X9_goesOn wl_X9_goesOn wc_X9_goesOn wz_X9 rfl np_X9_goesOn dX9_shiftOf_21 rfl ⟨rv_le rfl, rv_le rfl⟩ ⟨rv_le rfl, rv_le rfl⟩ (rv_le rfl) 0 (wm_0 ta ad μ) cl_X9 ?_
  refine rv_if_eq (tgt := 36) dX9_shiftOf_24 (by decide) (fun hc4 => ?_) (fun hc4 => ?_)
  · replace h := rv_ift hc4 h
    refine rv_iconst (v := 0) dX9_shiftOf_36 (by decide) ?_
    obtain rfl := Option.some.inj h
    exact rv_iret rfl dX9_shiftOf_37 (rv_le rfl) (rv_le rfl) ⟨rfl, rfl⟩
  · replace h := rv_iff hc4 h
    refine rv_aload_n dX9_shiftOf_27 rfl 0 rfl ?_
    refine rv_iload_n dX9_shiftOf_28 rfl 1 rfl ?_
    refine rv_iload_n dX9_shiftOf_29 rfl 2 rfl ?_
    obtain ⟨r5, hr5, h⟩ := rv_bind h
    refine rv_callV1 (rest := []) (ct_X9_at hr5) wm_X9_86 wi_X9_at wl_X9_at wc_X9_at wz_X9 rfl np_X9_at dX9_shiftOf_30 rfl ⟨rv_le rfl, rv_le rfl⟩ ⟨rv_le rfl, rv_le rfl⟩ (rv_le rfl) 0 (wm_0 ta ad r3.2) cl_X9 ?_
    refine rv_goto (tgt := 37) dX9_shiftOf_33 (by decide) ?_
    obtain rfl := Option.some.inj h
    exact rv_iret rfl dX9_shiftOf_37 (rv_le rfl) (rv_le rfl) ⟨rfl, rfl⟩
theorem ct_X9_shiftOf {l : Launch} {D : va_G} {ta : Nat → ClassId} {ad : Nat → Nat} {μ : Mem} {x1 : Int32} {x2 : Int32} {r : (Int32) × Mem} (h : f_X9_shiftOf μ x1 x2 = some r) : rv_C l D (rv_T ta) yX9_shiftOf cX9_shiftOf 3 (some .int) 3 0 0 [.ref (ad 0), .int x1, .int x2] (wm ta ad μ) (rv_F (rv_vI r.1) (wm ta ad r.2)) := by
  refine rv_Cof2 (own := RX9) (lv := [(0, .ref (ad 0)), (1, .int x1), (2, .int x2)]) rfl (by decide) (rv_le rfl) rfl ?_
  unfold f_X9_shiftOf at h
  refine rv_aload_n dX9_shiftOf_0 rfl 0 rfl ?_
  refine rv_aload_n dX9_shiftOf_1 rfl 0 rfl ?_
  refine rv_iload_n dX9_shiftOf_2 rfl 1 rfl ?_
  obtain ⟨r1, hr1, h⟩ := rv_bind h
  refine rv_callV1 (rest := [.ref (ad 0)]) (ct_X9_isPerson hr1) wm_X9_135 wi_X9_isPerson wl_X9_isPerson wc_X9_isPerson wz_X9 rfl np_X9_isPerson dX9_shiftOf_3 rfl ⟨rv_le rfl, rv_le rfl⟩ ⟨rv_le rfl, rv_le rfl⟩ (rv_le rfl) 0 (wm_0 ta ad μ) cl_X9 ?_
  refine rv_if_eq (tgt := 16) dX9_shiftOf_6 (by decide) (fun hc2 => ?_) (fun hc2 => ?_)
  · replace h := rv_ift hc2 h
    refine rv_iconst (v := 1) dX9_shiftOf_16 (by decide) ?_
    refine rv_goto (tgt := 21) dX9_shiftOf_17 (by decide) ?_
    exact vb_X9_shiftOf_21 h
  · replace h := rv_iff hc2 h
    refine rv_iload_n dX9_shiftOf_9 rfl 2 rfl ?_
    obtain ⟨r6, hr6, h⟩ := rv_bind h
    refine rv_callS1 (rest := [.ref (ad 0)]) (ct_X9_isDay hr6) wm_X9_138 ws_X9_isDay wc_X9_isDay wz_X9 np_X9_isDay dX9_shiftOf_10 rfl ⟨rv_le rfl, rv_le rfl⟩ ⟨rv_le rfl, rv_le rfl⟩ (rv_le rfl) ?_
    refine rv_if_ne (tgt := 20) dX9_shiftOf_13 (by decide) (fun hc7 => ?_) (fun hc7 => ?_)
    · replace h := rv_iff hc7 h
      refine rv_iconst (v := 0) dX9_shiftOf_20 (by decide) ?_
      exact vb_X9_shiftOf_21 h
    · replace h := rv_ift hc7 h
      refine rv_iconst (v := 1) dX9_shiftOf_16 (by decide) ?_
      refine rv_goto (tgt := 21) dX9_shiftOf_17 (by decide) ?_
      exact vb_X9_shiftOf_21 h
theorem vb_X9_restBefore_50 {l : Launch} {D : va_G} {ta : Nat → ClassId} {ad : Nat → Nat} {μ : Mem} {x1 : Int32} {x2 : Int32} {s0 : Int32} {r : (Int32) × Mem} (h : b_X9_restBefore_50 μ x1 x2 s0 = some r) : rv_V l D (rv_T ta) RX9 cX9_restBefore 4 (some .int) ("", []) (rv_rm 4 0 0) (rv_M D (rv_F (rv_vI r.1) (wm ta ad r.2)) 0 0) 0 0 (wm ta ad μ) 50 [(0, .ref (ad 0)), (1, .int x1), (2, .int x2)] [.int s0] := by
  unfold b_X9_restBefore_50 at h
  refine rv_istore_n (lv2 := [(3, .int s0), (0, .ref (ad 0)), (1, .int x1), (2, .int x2)]) dX9_restBefore_50 rfl (by decide) rfl ?_
  refine rv_aload_n dX9_restBefore_51 rfl 1 rfl ?_
  refine rv_iload_n dX9_restBefore_52 rfl 0 rfl ?_
  obtain ⟨r4, hr4, h⟩ := rv_bind h
  refine rv_callV1 (rest := []) (ct_X9_goesOn hr4) wm_X9_129 wi_X9_goesOn wl_X9_goesOn wc_X9_goesOn wz_X9 rfl np_X9_goesOn dX9_restBefore_53 rfl ⟨rv_le rfl, rv_le rfl⟩ ⟨rv_le rfl, rv_le rfl⟩ (rv_le rfl) 0 (wm_0 ta ad μ) cl_X9 ?_
  refine rv_if_eq (tgt := 68) dX9_restBefore_56 (by decide) (fun hc5 => ?_) (fun hc5 => ?_)
  · replace h := rv_ift hc5 h
    refine rv_iconst (v := 0) dX9_restBefore_68 (by decide) ?_
    obtain rfl := Option.some.inj h
    exact rv_iret rfl dX9_restBefore_69 (rv_le rfl) (rv_le rfl) ⟨rfl, rfl⟩
  · replace h := rv_iff hc5 h
    refine rv_aload_n dX9_restBefore_59 rfl 1 rfl ?_
    refine rv_iload_n dX9_restBefore_60 rfl 2 rfl ?_
    refine rv_iload_n dX9_restBefore_61 rfl 3 rfl ?_
    obtain ⟨r6, hr6, h⟩ := rv_bind h
    refine rv_callV1 (rest := []) (ct_X9_minutesBefore hr6) wm_X9_93 wi_X9_minutesBefore wl_X9_minutesBefore wc_X9_minutesBefore wz_X9 rfl np_X9_minutesBefore dX9_restBefore_62 rfl ⟨rv_le rfl, rv_le rfl⟩ ⟨rv_le rfl, rv_le rfl⟩ (rv_le rfl) 0 (wm_0 ta ad r4.2) cl_X9 ?_
    refine rv_goto (tgt := 69) dX9_restBefore_65 (by decide) ?_
    obtain rfl := Option.some.inj h
    exact rv_iret rfl dX9_restBefore_69 (rv_le rfl) (rv_le rfl) ⟨rfl, rfl⟩
theorem vb_X9_restBefore_49 {l : Launch} {D : va_G} {ta : Nat → ClassId} {ad : Nat → Nat} {μ : Mem} {x1 : Int32} {x2 : Int32} {x3 : Int32} {r : (Int32) × Mem} (h : b_X9_restBefore_49 μ x1 x2 x3 = some r) : rv_V l D (rv_T ta) RX9 cX9_restBefore 4 (some .int) ("", []) (rv_rm 4 0 0) (rv_M D (rv_F (rv_vI r.1) (wm ta ad r.2)) 0 0) 0 0 (wm ta ad μ) 49 [(0, .ref (ad 0)), (1, .int x1), (2, .int x2), (3, .int x3)] [] := by
  unfold b_X9_restBefore_49 at h
  refine rv_iload_n dX9_restBefore_49 rfl 3 rfl ?_
  refine rv_sub [0, 1, 2] rfl ?_
  exact vb_X9_restBefore_50 h
theorem vb_X9_restBefore_20 {l : Launch} {D : va_G} {ta : Nat → ClassId} {ad : Nat → Nat} {μ : Mem} {x1 : Int32} {x2 : Int32} {s0 : Int32} {r : (Int32) × Mem} (h : b_X9_restBefore_20 μ x1 x2 s0 = some r) : rv_V l D (rv_T ta) RX9 cX9_restBefore 4 (some .int) ("", []) (rv_rm 4 0 0) (rv_M D (rv_F (rv_vI r.1) (wm ta ad r.2)) 0 0) 0 0 (wm ta ad μ) 20 [(0, .ref (ad 0)), (1, .int x1), (2, .int x2)] [.int s0] := by
  unfold b_X9_restBefore_20 at h
  refine rv_istore_n (lv2 := [(3, .int s0), (0, .ref (ad 0)), (1, .int x1), (2, .int x2)]) dX9_restBefore_20 rfl (by decide) rfl ?_
  refine rv_iload_n dX9_restBefore_21 rfl 0 rfl ?_
  refine rv_if_ne (tgt := 49) dX9_restBefore_22 (by decide) (fun hc3 => ?_) (fun hc3 => ?_)
  · replace h := rv_iff hc3 h
    refine rv_sub [1, 2, 3, 0] rfl ?_
    exact vb_X9_restBefore_49 h
  · replace h := rv_ift hc3 h
    refine rv_aload_n dX9_restBefore_25 rfl 1 rfl ?_
    refine rv_iload_n dX9_restBefore_26 rfl 2 rfl ?_
    refine rv_iload_n dX9_restBefore_27 rfl 3 rfl ?_
    obtain ⟨r7, hr7, h⟩ := rv_bind h
    refine rv_callV1 (rest := []) (ct_X9_at hr7) wm_X9_86 wi_X9_at wl_X9_at wc_X9_at wz_X9 rfl np_X9_at dX9_restBefore_28 rfl ⟨rv_le rfl, rv_le rfl⟩ ⟨rv_le rfl, rv_le rfl⟩ (rv_le rfl) 0 (wm_0 ta ad μ) cl_X9 ?_
    refine rv_iconst (v := (-1)) dX9_restBefore_31 (by decide) ?_
    refine rv_icmp_eq (tgt := 45) dX9_restBefore_32 (by decide) (fun hc8 => ?_) (fun hc8 => ?_)
    · replace h := rv_ift hc8 h
      refine rv_iconst (v := 2) dX9_restBefore_45 (by decide) ?_
      refine rv_goto (tgt := 50) dX9_restBefore_46 (by decide) ?_
      refine rv_sub [1, 2, 3] rfl ?_
      exact vb_X9_restBefore_50 h
    · replace h := rv_iff hc8 h
      refine rv_aload_n dX9_restBefore_35 rfl 1 rfl ?_
      refine rv_iload_n dX9_restBefore_36 rfl 2 rfl ?_
      refine rv_iload_n dX9_restBefore_37 rfl 3 rfl ?_
      obtain ⟨r9, hr9, h⟩ := rv_bind h
      refine rv_callV1 (rest := []) (ct_X9_lastBefore hr9) wm_X9_90 wi_X9_lastBefore wl_X9_lastBefore wc_X9_lastBefore wz_X9 rfl np_X9_lastBefore dX9_restBefore_38 rfl ⟨rv_le rfl, rv_le rfl⟩ ⟨rv_le rfl, rv_le rfl⟩ (rv_le rfl) 0 (wm_0 ta ad μ) cl_X9 ?_
      refine rv_iconst (v := (-1)) dX9_restBefore_41 (by decide) ?_
      refine rv_icmp_ne (tgt := 49) dX9_restBefore_42 (by decide) (fun hc10 => ?_) (fun hc10 => ?_)
      · replace h := rv_iff hc10 h
        refine rv_sub [1, 2, 3, 0] rfl ?_
        exact vb_X9_restBefore_49 h
      · replace h := rv_ift hc10 h
        refine rv_iconst (v := 2) dX9_restBefore_45 (by decide) ?_
        refine rv_goto (tgt := 50) dX9_restBefore_46 (by decide) ?_
        refine rv_sub [1, 2, 3] rfl ?_
        exact vb_X9_restBefore_50 h
theorem ct_X9_restBefore {l : Launch} {D : va_G} {ta : Nat → ClassId} {ad : Nat → Nat} {μ : Mem} {x1 : Int32} {x2 : Int32} {r : (Int32) × Mem} (h : f_X9_restBefore μ x1 x2 = some r) : rv_C l D (rv_T ta) yX9_restBefore cX9_restBefore 4 (some .int) 4 0 0 [.ref (ad 0), .int x1, .int x2] (wm ta ad μ) (rv_F (rv_vI r.1) (wm ta ad r.2)) := by
  refine rv_Cof2 (own := RX9) (lv := [(0, .ref (ad 0)), (1, .int x1), (2, .int x2)]) rfl (by decide) (rv_le rfl) rfl ?_
  unfold f_X9_restBefore at h
  refine rv_aload_n dX9_restBefore_0 rfl 0 rfl ?_
  refine rv_iload_n dX9_restBefore_1 rfl 1 rfl ?_
  obtain ⟨r1, hr1, h⟩ := rv_bind h
  refine rv_callV1 (rest := []) (ct_X9_isPerson hr1) wm_X9_135 wi_X9_isPerson wl_X9_isPerson wc_X9_isPerson wz_X9 rfl np_X9_isPerson dX9_restBefore_2 rfl ⟨rv_le rfl, rv_le rfl⟩ ⟨rv_le rfl, rv_le rfl⟩ (rv_le rfl) 0 (wm_0 ta ad μ) cl_X9 ?_
  refine rv_if_eq (tgt := 15) dX9_restBefore_5 (by decide) (fun hc2 => ?_) (fun hc2 => ?_)
  · replace h := rv_ift hc2 h
    refine rv_iconst (v := 1) dX9_restBefore_15 (by decide) ?_
    refine rv_goto (tgt := 20) dX9_restBefore_16 (by decide) ?_
    exact vb_X9_restBefore_20 h
  · replace h := rv_iff hc2 h
    refine rv_iload_n dX9_restBefore_8 rfl 2 rfl ?_
    obtain ⟨r11, hr11, h⟩ := rv_bind h
    refine rv_callS1 (rest := []) (ct_X9_isDay hr11) wm_X9_138 ws_X9_isDay wc_X9_isDay wz_X9 np_X9_isDay dX9_restBefore_9 rfl ⟨rv_le rfl, rv_le rfl⟩ ⟨rv_le rfl, rv_le rfl⟩ (rv_le rfl) ?_
    refine rv_if_ne (tgt := 19) dX9_restBefore_12 (by decide) (fun hc12 => ?_) (fun hc12 => ?_)
    · replace h := rv_iff hc12 h
      refine rv_iconst (v := 0) dX9_restBefore_19 (by decide) ?_
      exact vb_X9_restBefore_20 h
    · replace h := rv_ift hc12 h
      refine rv_iconst (v := 1) dX9_restBefore_15 (by decide) ?_
      refine rv_goto (tgt := 20) dX9_restBefore_16 (by decide) ?_
      exact vb_X9_restBefore_20 h
theorem vb_X9_rowOf_57 {l : Launch} {D : va_G} {ta : Nat → ClassId} {ad : Nat → Nat} {μ : Mem} {x1 : Int32} {x3 : Int32} {x4 : Int32} {s0 : Int32} {k7 : Int32 → Int32 → Int32 → Option (Int32)} (hk7 : ∀ {x2 : Int32} {x3 : Int32} {x4 : Int32} {r : Int32}, k7 x2 x3 x4 = some r → rv_V l D (rv_T ta) RX9 cX9_rowOf 5 (some .int) ("", []) (rv_rm 2 0 0) (rv_M D (rv_F (rv_vI r) (wm ta ad μ)) 0 0) 0 0 (wm ta ad μ) 7 [(0, .ref (ad 0)), (1, .int x1), (2, .int x2), (3, .int x3), (4, .int x4)] []) {r : Int32} (h : b_X9_rowOf_57 μ k7 x1 x3 x4 s0 = some r) : rv_V l D (rv_T ta) RX9 cX9_rowOf 5 (some .int) ("", []) (rv_rm 2 0 0) (rv_M D (rv_F (rv_vI r) (wm ta ad μ)) 0 0) 0 0 (wm ta ad μ) 57 [(0, .ref (ad 0)), (1, .int x1), (3, .int x3), (4, .int x4)] [.int s0] := by
  unfold b_X9_rowOf_57 at h
  refine rv_istore_n (lv2 := [(2, .int s0), (0, .ref (ad 0)), (1, .int x1), (3, .int x3), (4, .int x4)]) dX9_rowOf_57 rfl (by decide) rfl ?_
  refine rv_iinc (v := (x4 + 1)) (lv2 := [(4, .int (x4 + 1)), (2, .int s0), (0, .ref (ad 0)), (1, .int x1), (3, .int x3)]) dX9_rowOf_58 4 rfl rfl (by decide) rfl ?_
  refine rv_goto (tgt := 7) dX9_rowOf_61 (by decide) ?_
  refine rv_sub [2, 3, 1, 4, 0] rfl ?_
  exact hk7 h
theorem vb_X9_rowOf_46 {l : Launch} {D : va_G} {ta : Nat → ClassId} {ad : Nat → Nat} {μ : Mem} {x1 : Int32} {x2 : Int32} {x4 : Int32} {s0 : Int32} {k7 : Int32 → Int32 → Int32 → Option (Int32)} (hk7 : ∀ {x2 : Int32} {x3 : Int32} {x4 : Int32} {r : Int32}, k7 x2 x3 x4 = some r → rv_V l D (rv_T ta) RX9 cX9_rowOf 5 (some .int) ("", []) (rv_rm 2 0 0) (rv_M D (rv_F (rv_vI r) (wm ta ad μ)) 0 0) 0 0 (wm ta ad μ) 7 [(0, .ref (ad 0)), (1, .int x1), (2, .int x2), (3, .int x3), (4, .int x4)] []) {r : Int32} (h : b_X9_rowOf_46 μ k7 x1 x2 x4 s0 = some r) : rv_V l D (rv_T ta) RX9 cX9_rowOf 5 (some .int) ("", []) (rv_rm 2 0 0) (rv_M D (rv_F (rv_vI r) (wm ta ad μ)) 0 0) 0 0 (wm ta ad μ) 46 [(0, .ref (ad 0)), (1, .int x1), (2, .int x2), (4, .int x4)] [.int s0] := by
  unfold b_X9_rowOf_46 at h
  refine rv_istore_n (lv2 := [(3, .int s0), (0, .ref (ad 0)), (1, .int x1), (2, .int x2), (4, .int x4)]) dX9_rowOf_46 rfl (by decide) rfl ?_
  refine rv_iload_n dX9_rowOf_47 rfl 0 rfl ?_
  refine rv_iload_n dX9_rowOf_48 rfl 3 rfl ?_
  refine rv_icmp_le (tgt := 56) dX9_rowOf_49 (by decide) (fun hc4 => ?_) (fun hc4 => ?_)
  · replace h := rv_ift hc4 h
    refine rv_iload_n dX9_rowOf_56 rfl 3 rfl ?_
    refine rv_sub [1, 2, 0, 4] rfl ?_
    exact vb_X9_rowOf_57 hk7 h
  · replace h := rv_iff hc4 h
    refine rv_iload_n dX9_rowOf_52 rfl 0 rfl ?_
    refine rv_goto (tgt := 57) dX9_rowOf_53 (by decide) ?_
    refine rv_sub [1, 2, 0, 4] rfl ?_
    exact vb_X9_rowOf_57 hk7 h
theorem vb_X9_rowOf_45 {l : Launch} {D : va_G} {ta : Nat → ClassId} {ad : Nat → Nat} {μ : Mem} {x1 : Int32} {x2 : Int32} {x4 : Int32} {k7 : Int32 → Int32 → Int32 → Option (Int32)} (hk7 : ∀ {x2 : Int32} {x3 : Int32} {x4 : Int32} {r : Int32}, k7 x2 x3 x4 = some r → rv_V l D (rv_T ta) RX9 cX9_rowOf 5 (some .int) ("", []) (rv_rm 2 0 0) (rv_M D (rv_F (rv_vI r) (wm ta ad μ)) 0 0) 0 0 (wm ta ad μ) 7 [(0, .ref (ad 0)), (1, .int x1), (2, .int x2), (3, .int x3), (4, .int x4)] []) {r : Int32} (h : b_X9_rowOf_45 μ k7 x1 x2 x4 = some r) : rv_V l D (rv_T ta) RX9 cX9_rowOf 5 (some .int) ("", []) (rv_rm 2 0 0) (rv_M D (rv_F (rv_vI r) (wm ta ad μ)) 0 0) 0 0 (wm ta ad μ) 45 [(0, .ref (ad 0)), (1, .int x1), (2, .int x2), (4, .int x4)] [] := by
  unfold b_X9_rowOf_45 at h
  refine rv_iconst (v := 0) dX9_rowOf_45 (by decide) ?_
  exact vb_X9_rowOf_46 hk7 h
theorem vB_X9_rowOf_7 {l : Launch} {D : va_G} {ta : Nat → ClassId} {ad : Nat → Nat} {μ : Mem} {x1 : Int32} {k7 : Int32 → Int32 → Int32 → Option (Int32)} (hk7 : ∀ {x2 : Int32} {x3 : Int32} {x4 : Int32} {r : Int32}, k7 x2 x3 x4 = some r → rv_V l D (rv_T ta) RX9 cX9_rowOf 5 (some .int) ("", []) (rv_rm 2 0 0) (rv_M D (rv_F (rv_vI r) (wm ta ad μ)) 0 0) 0 0 (wm ta ad μ) 7 [(0, .ref (ad 0)), (1, .int x1), (2, .int x2), (3, .int x3), (4, .int x4)] []) {x2 : Int32} {x3 : Int32} {x4 : Int32} {r : Int32} (h : B_X9_rowOf_7 μ x1 k7 x2 x3 x4 = some r) : rv_V l D (rv_T ta) RX9 cX9_rowOf 5 (some .int) ("", []) (rv_rm 2 0 0) (rv_M D (rv_F (rv_vI r) (wm ta ad μ)) 0 0) 0 0 (wm ta ad μ) 7 [(0, .ref (ad 0)), (1, .int x1), (2, .int x2), (3, .int x3), (4, .int x4)] [] := by
  unfold B_X9_rowOf_7 at h
  refine rv_iload dX9_rowOf_7 4 rfl ?_
  refine rv_bipush (v := 8) dX9_rowOf_9 (by decide) ?_
  refine rv_icmp_ge (tgt := 64) dX9_rowOf_11 (by decide) (fun hc1 => ?_) (fun hc1 => ?_)
  · replace h := rv_ift hc1 h
    refine rv_iload_n dX9_rowOf_64 rfl 2 rfl ?_
    obtain rfl := Option.some.inj h
    exact rv_iret rfl dX9_rowOf_65 (rv_le rfl) (rv_le rfl) ⟨rfl, rfl⟩
  · replace h := rv_iff hc1 h
    refine rv_aload_n dX9_rowOf_14 rfl 0 rfl ?_
    refine rv_iload_n dX9_rowOf_15 rfl 1 rfl ?_
    refine rv_iload dX9_rowOf_16 4 rfl ?_
    obtain ⟨r2, hr2, h⟩ := rv_bind h
    refine rv_callV1 (rest := []) (ct_X9_at hr2) wm_X9_86 wi_X9_at wl_X9_at wc_X9_at wz_X9 rfl np_X9_at dX9_rowOf_18 rfl ⟨rv_le rfl, rv_le rfl⟩ ⟨rv_le rfl, rv_le rfl⟩ (rv_le rfl) 0 (wm_0 ta ad μ) cl_X9 ?_
    refine rv_iconst (v := (-1)) dX9_rowOf_21 (by decide) ?_
    refine rv_icmp_eq (tgt := 45) dX9_rowOf_22 (by decide) (fun hc3 => ?_) (fun hc3 => ?_)
    · replace h := rv_ift hc3 h
      refine rv_sub [0, 1, 2, 4] rfl ?_
      exact vb_X9_rowOf_45 hk7 h
    · replace h := rv_iff hc3 h
      refine rv_aload_n dX9_rowOf_25 rfl 0 rfl ?_
      refine rv_aload_n dX9_rowOf_26 rfl 0 rfl ?_
      refine rv_iload_n dX9_rowOf_27 rfl 1 rfl ?_
      refine rv_iload dX9_rowOf_28 4 rfl ?_
      obtain ⟨r5, hr5, h⟩ := rv_bind h
      refine rv_callV1 (rest := [.ref (ad 0)]) (ct_X9_at hr5) wm_X9_86 wi_X9_at wl_X9_at wc_X9_at wz_X9 rfl np_X9_at dX9_rowOf_30 rfl ⟨rv_le rfl, rv_le rfl⟩ ⟨rv_le rfl, rv_le rfl⟩ (rv_le rfl) 0 (wm_0 ta ad μ) cl_X9 ?_
      obtain ⟨r6, hr6, h⟩ := rv_bind h
      refine rv_callV1 (rest := []) (ct_X9_isNightShift hr6) wm_X9_96 wi_X9_isNightShift wl_X9_isNightShift wc_X9_isNightShift wz_X9 rfl np_X9_isNightShift dX9_rowOf_33 rfl ⟨rv_le rfl, rv_le rfl⟩ ⟨rv_le rfl, rv_le rfl⟩ (rv_le rfl) 0 (wm_0 ta ad μ) cl_X9 ?_
      refine rv_if_eq (tgt := 45) dX9_rowOf_36 (by decide) (fun hc7 => ?_) (fun hc7 => ?_)
      · replace h := rv_ift hc7 h
        refine rv_sub [0, 1, 2, 4] rfl ?_
        exact vb_X9_rowOf_45 hk7 h
      · replace h := rv_iff hc7 h
        refine rv_iload_n dX9_rowOf_39 rfl 3 rfl ?_
        refine rv_iconst (v := 1) dX9_rowOf_40 (by decide) ?_
        refine rv_iadd dX9_rowOf_41 ?_
        refine rv_goto (tgt := 46) dX9_rowOf_42 (by decide) ?_
        refine rv_sub [0, 1, 2, 4] rfl ?_
        exact vb_X9_rowOf_46 hk7 h
theorem vh_X9_rowOf_7 {l : Launch} {D : va_G} {ta : Nat → ClassId} {ad : Nat → Nat} {μ : Mem} {x1 : Int32} {n : Nat} {x2 : Int32} {x3 : Int32} {x4 : Int32} {r : Int32} (h : rv_loop (B_X9_rowOf_7 μ x1) (fun _ _ _ => none) n x2 x3 x4 = some r) : rv_V l D (rv_T ta) RX9 cX9_rowOf 5 (some .int) ("", []) (rv_rm 2 0 0) (rv_M D (rv_F (rv_vI r) (wm ta ad μ)) 0 0) 0 0 (wm ta ad μ) 7 [(0, .ref (ad 0)), (1, .int x1), (2, .int x2), (3, .int x3), (4, .int x4)] [] := by
  induction n generalizing x2 x3 x4 r with
  | zero => cases h
  | succ n ih => exact vB_X9_rowOf_7 (fun h9 => ih h9) h
theorem ct_X9_rowOf {l : Launch} {D : va_G} {ta : Nat → ClassId} {ad : Nat → Nat} {μ : Mem} {x1 : Int32} {r : Int32} (h : f_X9_rowOf μ x1 = some r) : rv_C l D (rv_T ta) yX9_rowOf cX9_rowOf 5 (some .int) 2 0 0 [.ref (ad 0), .int x1] (wm ta ad μ) (rv_F (rv_vI r) (wm ta ad μ)) := by
  refine rv_Cof2 (own := RX9) (lv := [(0, .ref (ad 0)), (1, .int x1)]) rfl (by decide) (rv_le rfl) rfl ?_
  unfold f_X9_rowOf at h
  refine rv_iconst (v := 0) dX9_rowOf_0 (by decide) ?_
  refine rv_istore_n (lv2 := [(2, .int 0), (0, .ref (ad 0)), (1, .int x1)]) dX9_rowOf_1 rfl (by decide) rfl ?_
  refine rv_iconst (v := 0) dX9_rowOf_2 (by decide) ?_
  refine rv_istore_n (lv2 := [(3, .int 0), (2, .int 0), (0, .ref (ad 0)), (1, .int x1)]) dX9_rowOf_3 rfl (by decide) rfl ?_
  refine rv_iconst (v := 0) dX9_rowOf_4 (by decide) ?_
  refine rv_istore (lv2 := [(4, .int 0), (3, .int 0), (2, .int 0), (0, .ref (ad 0)), (1, .int x1)]) dX9_rowOf_5 (by decide) rfl ?_
  refine rv_sub [3, 4, 2, 1, 0] rfl ?_
  exact vh_X9_rowOf_7 h
theorem vb_X9_longestNights_14 {l : Launch} {D : va_G} {ta : Nat → ClassId} {ad : Nat → Nat} {μ : Mem} {x1 : Int32} {s1 : Int32} {r : (Int32) × Mem} (h : b_X9_longestNights_14 μ x1 s1 = some r) : rv_V l D (rv_T ta) RX9 cX9_longestNights 2 (some .int) ("", []) (rv_rm 3 0 0) (rv_M D (rv_F (rv_vI r.1) (wm ta ad r.2)) 0 0) 0 0 (wm ta ad μ) 14 [(0, .ref (ad 0)), (1, .int x1)] [.int s1, .ref (ad 0)] := by
  unfold b_X9_longestNights_14 at h
  obtain ⟨r3, hr3, h⟩ := rv_bind h
  refine rv_callV1 (rest := []) (ct_X9_goesOn hr3) wm_X9_129 wi_X9_goesOn wl_X9_goesOn wc_X9_goesOn wz_X9 rfl np_X9_goesOn dX9_longestNights_14 rfl ⟨rv_le rfl, rv_le rfl⟩ ⟨rv_le rfl, rv_le rfl⟩ (rv_le rfl) 0 (wm_0 ta ad μ) cl_X9 ?_
  refine rv_if_eq (tgt := 28) dX9_longestNights_17 (by decide) (fun hc4 => ?_) (fun hc4 => ?_)
  · replace h := rv_ift hc4 h
    refine rv_iconst (v := 0) dX9_longestNights_28 (by decide) ?_
    obtain rfl := Option.some.inj h
    exact rv_iret rfl dX9_longestNights_29 (rv_le rfl) (rv_le rfl) ⟨rfl, rfl⟩
  · replace h := rv_iff hc4 h
    refine rv_aload_n dX9_longestNights_20 rfl 0 rfl ?_
    refine rv_iload_n dX9_longestNights_21 rfl 1 rfl ?_
    obtain ⟨r5, hr5, h⟩ := rv_bind h
    refine rv_callV1 (rest := []) (ct_X9_rowOf hr5) wm_X9_141 wi_X9_rowOf wl_X9_rowOf wc_X9_rowOf wz_X9 rfl np_X9_rowOf dX9_longestNights_22 rfl ⟨rv_le rfl, rv_le rfl⟩ ⟨rv_le rfl, rv_le rfl⟩ (rv_le rfl) 0 (wm_0 ta ad r3.2) cl_X9 ?_
    refine rv_goto (tgt := 29) dX9_longestNights_25 (by decide) ?_
    obtain rfl := Option.some.inj h
    exact rv_iret rfl dX9_longestNights_29 (rv_le rfl) (rv_le rfl) ⟨rfl, rfl⟩
theorem ct_X9_longestNights {l : Launch} {D : va_G} {ta : Nat → ClassId} {ad : Nat → Nat} {μ : Mem} {x1 : Int32} {r : (Int32) × Mem} (h : f_X9_longestNights μ x1 = some r) : rv_C l D (rv_T ta) yX9_longestNights cX9_longestNights 2 (some .int) 3 0 0 [.ref (ad 0), .int x1] (wm ta ad μ) (rv_F (rv_vI r.1) (wm ta ad r.2)) := by
  refine rv_Cof2 (own := RX9) (lv := [(0, .ref (ad 0)), (1, .int x1)]) rfl (by decide) (rv_le rfl) rfl ?_
  unfold f_X9_longestNights at h
  refine rv_aload_n dX9_longestNights_0 rfl 0 rfl ?_
  refine rv_aload_n dX9_longestNights_1 rfl 0 rfl ?_
  refine rv_iload_n dX9_longestNights_2 rfl 1 rfl ?_
  obtain ⟨r1, hr1, h⟩ := rv_bind h
  refine rv_callV1 (rest := [.ref (ad 0)]) (ct_X9_isPerson hr1) wm_X9_135 wi_X9_isPerson wl_X9_isPerson wc_X9_isPerson wz_X9 rfl np_X9_isPerson dX9_longestNights_3 rfl ⟨rv_le rfl, rv_le rfl⟩ ⟨rv_le rfl, rv_le rfl⟩ (rv_le rfl) 0 (wm_0 ta ad μ) cl_X9 ?_
  refine rv_if_eq (tgt := 13) dX9_longestNights_6 (by decide) (fun hc2 => ?_) (fun hc2 => ?_)
  · replace h := rv_ift hc2 h
    refine rv_iconst (v := 1) dX9_longestNights_13 (by decide) ?_
    exact vb_X9_longestNights_14 h
  · replace h := rv_iff hc2 h
    refine rv_iconst (v := 0) dX9_longestNights_9 (by decide) ?_
    refine rv_goto (tgt := 14) dX9_longestNights_10 (by decide) ?_
    exact vb_X9_longestNights_14 h
theorem ct_X9_longestByRows {l : Launch} {D : va_G} {ta : Nat → ClassId} {ad : Nat → Nat} {μ : Mem} {x1 : Int32} {r : (Int32) × Mem} (h : f_X9_longestByRows μ x1 = some r) : rv_C l D (rv_T ta) yX9_longestByRows cX9_longestByRows 2 (some .int) 4 0 0 [.ref (ad 0), .int x1] (wm ta ad μ) (rv_F (rv_vI r.1) (wm ta ad r.2)) := by
  refine rv_Cof2 (own := RX9) (lv := [(0, .ref (ad 0)), (1, .int x1)]) rfl (by decide) (rv_le rfl) rfl ?_
  unfold f_X9_longestByRows at h
  refine rv_aload_n dX9_longestByRows_0 rfl 0 rfl ?_
  refine rv_iload_n dX9_longestByRows_1 rfl 1 rfl ?_
  obtain ⟨r1, hr1, h⟩ := rv_bind h
  refine rv_callV1 (rest := []) (ct_X9_longestNights hr1) wm_X9_145 wi_X9_longestNights wl_X9_longestNights wc_X9_longestNights wz_X9 rfl np_X9_longestNights dX9_longestByRows_2 rfl ⟨rv_le rfl, rv_le rfl⟩ ⟨rv_le rfl, rv_le rfl⟩ (rv_le rfl) 0 (wm_0 ta ad μ) cl_X9 ?_
  obtain rfl := Option.some.inj h
  exact rv_iret rfl dX9_longestByRows_5 (rv_le rfl) (rv_le rfl) ⟨rfl, rfl⟩
theorem vb_X9_peak_61 {l : Launch} {D : va_G} {ta : Nat → ClassId} {ad : Nat → Nat} {μ : Mem} {x1 : Int32} {x3 : Int32} {s0 : Int32} {k26 : Int32 → Int32 → Option ((Int32) × Mem)} (hk26 : ∀ {x2 : Int32} {x3 : Int32} {r : (Int32) × Mem}, k26 x2 x3 = some r → rv_V l D (rv_T ta) RX9 cX9_peak 5 (some .int) ("", []) (rv_rm 3 0 0) (rv_M D (rv_F (rv_vI r.1) (wm ta ad r.2)) 0 0) 0 0 (wm ta ad μ) 26 [(0, .ref (ad 0)), (1, .int x1), (2, .int x2), (3, .int x3)] []) {r : (Int32) × Mem} (h : b_X9_peak_61 μ k26 x1 x3 s0 = some r) : rv_V l D (rv_T ta) RX9 cX9_peak 5 (some .int) ("", []) (rv_rm 3 0 0) (rv_M D (rv_F (rv_vI r.1) (wm ta ad r.2)) 0 0) 0 0 (wm ta ad μ) 61 [(0, .ref (ad 0)), (1, .int x1), (3, .int x3)] [.int s0] := by
  unfold b_X9_peak_61 at h
  refine rv_istore_n (lv2 := [(2, .int s0), (0, .ref (ad 0)), (1, .int x1), (3, .int x3)]) dX9_peak_61 rfl (by decide) rfl ?_
  refine rv_iinc (v := (x3 + 1)) (lv2 := [(3, .int (x3 + 1)), (2, .int s0), (0, .ref (ad 0)), (1, .int x1)]) dX9_peak_62 3 rfl rfl (by decide) rfl ?_
  refine rv_goto (tgt := 26) dX9_peak_65 (by decide) ?_
  refine rv_sub [2, 3, 1, 0] rfl ?_
  exact hk26 h
theorem vB_X9_peak_26 {l : Launch} {D : va_G} {ta : Nat → ClassId} {ad : Nat → Nat} {μ : Mem} {x1 : Int32} {k26 : Int32 → Int32 → Option ((Int32) × Mem)} (hk26 : ∀ {x2 : Int32} {x3 : Int32} {r : (Int32) × Mem}, k26 x2 x3 = some r → rv_V l D (rv_T ta) RX9 cX9_peak 5 (some .int) ("", []) (rv_rm 3 0 0) (rv_M D (rv_F (rv_vI r.1) (wm ta ad r.2)) 0 0) 0 0 (wm ta ad μ) 26 [(0, .ref (ad 0)), (1, .int x1), (2, .int x2), (3, .int x3)] []) {x2 : Int32} {x3 : Int32} {r : (Int32) × Mem} (h : B_X9_peak_26 μ x1 k26 x2 x3 = some r) : rv_V l D (rv_T ta) RX9 cX9_peak 5 (some .int) ("", []) (rv_rm 3 0 0) (rv_M D (rv_F (rv_vI r.1) (wm ta ad r.2)) 0 0) 0 0 (wm ta ad μ) 26 [(0, .ref (ad 0)), (1, .int x1), (2, .int x2), (3, .int x3)] [] := by
  unfold B_X9_peak_26 at h
  refine rv_iload_n dX9_peak_26 rfl 3 rfl ?_
  refine rv_aload_n dX9_peak_27 rfl 0 rfl ?_
  refine gf_X9_39 dX9_peak_28 0 (wm_0 ta ad μ) rfl ?_
  refine rv_iadd dX9_peak_31 ?_
  refine rv_bipush (v := 8) dX9_peak_32 (by decide) ?_
  refine rv_icmp_gt (tgt := 68) dX9_peak_34 (by decide) (fun hc5 => ?_) (fun hc5 => ?_)
  · replace h := rv_ift hc5 h
    refine rv_iload_n dX9_peak_68 rfl 2 rfl ?_
    obtain rfl := Option.some.inj h
    exact rv_iret rfl dX9_peak_69 (rv_le rfl) (rv_le rfl) ⟨rfl, rfl⟩
  · replace h := rv_iff hc5 h
    refine rv_aload_n dX9_peak_37 rfl 0 rfl ?_
    refine rv_iload_n dX9_peak_38 rfl 1 rfl ?_
    refine rv_iload_n dX9_peak_39 rfl 3 rfl ?_
    refine rv_aload_n dX9_peak_40 rfl 0 rfl ?_
    refine gf_X9_39 dX9_peak_41 0 (wm_0 ta ad μ) rfl ?_
    obtain ⟨r6, hr6, h⟩ := rv_bind h
    refine rv_callV1 (rest := []) (ct_X9_sumFrom hr6) wm_X9_108 wi_X9_sumFrom wl_X9_sumFrom wc_X9_sumFrom wz_X9 rfl np_X9_sumFrom dX9_peak_44 rfl ⟨rv_le rfl, rv_le rfl⟩ ⟨rv_le rfl, rv_le rfl⟩ (rv_le rfl) 0 (wm_0 ta ad μ) cl_X9 ?_
    refine rv_istore (lv2 := [(4, .int r6), (0, .ref (ad 0)), (1, .int x1), (2, .int x2), (3, .int x3)]) dX9_peak_47 (by decide) rfl ?_
    refine rv_iload dX9_peak_49 0 rfl ?_
    refine rv_iload_n dX9_peak_51 rfl 3 rfl ?_
    refine rv_icmp_le (tgt := 60) dX9_peak_52 (by decide) (fun hc7 => ?_) (fun hc7 => ?_)
    · replace h := rv_ift hc7 h
      refine rv_iload_n dX9_peak_60 rfl 3 rfl ?_
      refine rv_sub [1, 2, 4] rfl ?_
      exact vb_X9_peak_61 hk26 h
    · replace h := rv_iff hc7 h
      refine rv_iload dX9_peak_55 0 rfl ?_
      refine rv_goto (tgt := 61) dX9_peak_57 (by decide) ?_
      refine rv_sub [1, 2, 4] rfl ?_
      exact vb_X9_peak_61 hk26 h
theorem vh_X9_peak_26 {l : Launch} {D : va_G} {ta : Nat → ClassId} {ad : Nat → Nat} {μ : Mem} {x1 : Int32} {n : Nat} {x2 : Int32} {x3 : Int32} {r : (Int32) × Mem} (h : rv_loop (B_X9_peak_26 μ x1) (fun _ _ => none) n x2 x3 = some r) : rv_V l D (rv_T ta) RX9 cX9_peak 5 (some .int) ("", []) (rv_rm 3 0 0) (rv_M D (rv_F (rv_vI r.1) (wm ta ad r.2)) 0 0) 0 0 (wm ta ad μ) 26 [(0, .ref (ad 0)), (1, .int x1), (2, .int x2), (3, .int x3)] [] := by
  induction n generalizing x2 x3 r with
  | zero => cases h
  | succ n ih => exact vB_X9_peak_26 (fun h9 => ih h9) h
theorem vb_X9_peak_14 {l : Launch} {D : va_G} {ta : Nat → ClassId} {ad : Nat → Nat} {μ : Mem} {x1 : Int32} {s1 : Int32} {r : (Int32) × Mem} (h : b_X9_peak_14 μ x1 s1 = some r) : rv_V l D (rv_T ta) RX9 cX9_peak 5 (some .int) ("", []) (rv_rm 3 0 0) (rv_M D (rv_F (rv_vI r.1) (wm ta ad r.2)) 0 0) 0 0 (wm ta ad μ) 14 [(0, .ref (ad 0)), (1, .int x1)] [.int s1, .ref (ad 0)] := by
  unfold b_X9_peak_14 at h
  obtain ⟨r3, hr3, h⟩ := rv_bind h
  refine rv_callV1 (rest := []) (ct_X9_goesOn hr3) wm_X9_129 wi_X9_goesOn wl_X9_goesOn wc_X9_goesOn wz_X9 rfl np_X9_goesOn dX9_peak_14 rfl ⟨rv_le rfl, rv_le rfl⟩ ⟨rv_le rfl, rv_le rfl⟩ (rv_le rfl) 0 (wm_0 ta ad μ) cl_X9 ?_
  refine rv_if_ne (tgt := 22) dX9_peak_17 (by decide) (fun hc4 => ?_) (fun hc4 => ?_)
  · replace h := rv_iff hc4 h
    refine rv_iconst (v := 0) dX9_peak_22 (by decide) ?_
    refine rv_istore_n (lv2 := [(2, .int 0), (0, .ref (ad 0)), (1, .int x1)]) dX9_peak_23 rfl (by decide) rfl ?_
    refine rv_iconst (v := 0) dX9_peak_24 (by decide) ?_
    refine rv_istore_n (lv2 := [(3, .int 0), (2, .int 0), (0, .ref (ad 0)), (1, .int x1)]) dX9_peak_25 rfl (by decide) rfl ?_
    refine rv_sub [2, 3, 1, 0] rfl ?_
    exact vh_X9_peak_26 h
  · replace h := rv_ift hc4 h
    refine rv_iconst (v := 0) dX9_peak_20 (by decide) ?_
    obtain rfl := Option.some.inj h
    exact rv_iret rfl dX9_peak_21 (rv_le rfl) (rv_le rfl) ⟨rfl, rfl⟩
theorem ct_X9_peak {l : Launch} {D : va_G} {ta : Nat → ClassId} {ad : Nat → Nat} {μ : Mem} {x1 : Int32} {r : (Int32) × Mem} (h : f_X9_peak μ x1 = some r) : rv_C l D (rv_T ta) yX9_peak cX9_peak 5 (some .int) 3 0 0 [.ref (ad 0), .int x1] (wm ta ad μ) (rv_F (rv_vI r.1) (wm ta ad r.2)) := by
  refine rv_Cof2 (own := RX9) (lv := [(0, .ref (ad 0)), (1, .int x1)]) rfl (by decide) (rv_le rfl) rfl ?_
  unfold f_X9_peak at h
  refine rv_aload_n dX9_peak_0 rfl 0 rfl ?_
  refine rv_aload_n dX9_peak_1 rfl 0 rfl ?_
  refine rv_iload_n dX9_peak_2 rfl 1 rfl ?_
  obtain ⟨r1, hr1, h⟩ := rv_bind h
  refine rv_callV1 (rest := [.ref (ad 0)]) (ct_X9_isPerson hr1) wm_X9_135 wi_X9_isPerson wl_X9_isPerson wc_X9_isPerson wz_X9 rfl np_X9_isPerson dX9_peak_3 rfl ⟨rv_le rfl, rv_le rfl⟩ ⟨rv_le rfl, rv_le rfl⟩ (rv_le rfl) 0 (wm_0 ta ad μ) cl_X9 ?_
  refine rv_if_eq (tgt := 13) dX9_peak_6 (by decide) (fun hc2 => ?_) (fun hc2 => ?_)
  · replace h := rv_ift hc2 h
    refine rv_iconst (v := 1) dX9_peak_13 (by decide) ?_
    exact vb_X9_peak_14 h
  · replace h := rv_iff hc2 h
    refine rv_iconst (v := 0) dX9_peak_9 (by decide) ?_
    refine rv_goto (tgt := 14) dX9_peak_10 (by decide) ?_
    exact vb_X9_peak_14 h
theorem ct_X9_peakByAdding {l : Launch} {D : va_G} {ta : Nat → ClassId} {ad : Nat → Nat} {μ : Mem} {x1 : Int32} {r : (Int32) × Mem} (h : f_X9_peakByAdding μ x1 = some r) : rv_C l D (rv_T ta) yX9_peakByAdding cX9_peakByAdding 2 (some .int) 4 0 0 [.ref (ad 0), .int x1] (wm ta ad μ) (rv_F (rv_vI r.1) (wm ta ad r.2)) := by
  refine rv_Cof2 (own := RX9) (lv := [(0, .ref (ad 0)), (1, .int x1)]) rfl (by decide) (rv_le rfl) rfl ?_
  unfold f_X9_peakByAdding at h
  refine rv_aload_n dX9_peakByAdding_0 rfl 0 rfl ?_
  refine rv_iload_n dX9_peakByAdding_1 rfl 1 rfl ?_
  obtain ⟨r1, hr1, h⟩ := rv_bind h
  refine rv_callV1 (rest := []) (ct_X9_peak hr1) wm_X9_148 wi_X9_peak wl_X9_peak wc_X9_peak wz_X9 rfl np_X9_peak dX9_peakByAdding_2 rfl ⟨rv_le rfl, rv_le rfl⟩ ⟨rv_le rfl, rv_le rfl⟩ (rv_le rfl) 0 (wm_0 ta ad μ) cl_X9 ?_
  obtain rfl := Option.some.inj h
  exact rv_iret rfl dX9_peakByAdding_5 (rv_le rfl) (rv_le rfl) ⟨rfl, rfl⟩
theorem ct_X9_breaches {l : Launch} {D : va_G} {ta : Nat → ClassId} {ad : Nat → Nat} {μ : Mem} {r : (Int32) × Mem} (h : f_X9_breaches μ = some r) : rv_C l D (rv_T ta) yX9_breaches cX9_breaches 1 (some .int) 7 0 0 [.ref (ad 0)] (wm ta ad μ) (rv_F (rv_vI r.1) (wm ta ad r.2)) := by
  refine rv_Cof2 (own := RX9) (lv := [(0, .ref (ad 0))]) rfl (by decide) (rv_le rfl) rfl ?_
  unfold f_X9_breaches at h
  refine rv_aload_n dX9_breaches_0 rfl 0 rfl ?_
  refine rv_iconst (v := 0) dX9_breaches_1 (by decide) ?_
  refine pf_X9_73 dX9_breaches_2 0 (wm_0 ta ad μ) (rv_le rfl) (wm_f0_0 ta ad μ 0) ?_
  refine rv_aload_n dX9_breaches_5 rfl 0 rfl ?_
  obtain ⟨r1, hr1, h⟩ := rv_bind h
  refine rv_callV0 (rest := []) (ct_X9_tellsAll hr1) wm_X9_151 wi_X9_tellsAll wl_X9_tellsAll wc_X9_tellsAll wz_X9 rfl np_X9_tellsAll dX9_breaches_6 rfl ⟨rv_le rfl, rv_le rfl⟩ ⟨rv_le rfl, rv_le rfl⟩ (rv_le rfl) 0 (wm_0 ta ad (mu_up μ 0 0 0)) cl_X9 ?_
  refine rv_aload_n dX9_breaches_9 rfl 0 rfl ?_
  refine gf_X9_112 dX9_breaches_10 0 (wm_0 ta ad r1.2) rfl ?_
  obtain rfl := Option.some.inj h
  exact rv_iret rfl dX9_breaches_13 (rv_le rfl) (rv_le rfl) ⟨rfl, rfl⟩
theorem vb_X9_tells__24 {l : Launch} {D : va_G} {ta : Nat → ClassId} {ad : Nat → Nat} {μ : Mem} {s1 : Int32} {r : (Int32) × Mem} (h : b_X9_tells__24 μ s1 = some r) : rv_V l D (rv_T ta) RX9 cX9_tells_ 2 (some .boolean) ("", []) (rv_rm 7 0 0) (rv_M D (rv_F (rv_vI r.1) (wm ta ad r.2)) 0 0) 0 0 (wm ta ad μ) 24 [] [.int s1, .ref (ad 0)] := by
  unfold b_X9_tells__24 at h
  obtain ⟨r4, hr4, h⟩ := rv_bind h
  refine rv_callV1 (rest := []) (ct_X9_goesOn hr4) wm_X9_129 wi_X9_goesOn wl_X9_goesOn wc_X9_goesOn wz_X9 rfl np_X9_goesOn dX9_tells__24 rfl ⟨rv_le rfl, rv_le rfl⟩ ⟨rv_le rfl, rv_le rfl⟩ (rv_le rfl) 0 (wm_0 ta ad μ) cl_X9 ?_
  obtain ⟨hi5, h⟩ := rv_ifn h
  obtain rfl := Option.some.inj h
  exact rv_zret rfl (rv_bzP hi5) dX9_tells__27 (rv_le rfl) (rv_le rfl) ⟨rfl, rfl⟩
theorem ct_X9_tells_ {l : Launch} {D : va_G} {ta : Nat → ClassId} {ad : Nat → Nat} {μ : Mem} {x1 : Int32} {r : (Int32) × Mem} (h : f_X9_tells_ μ x1 = some r) : rv_C l D (rv_T ta) yX9_tells_ cX9_tells_ 2 (some .boolean) 7 0 0 [.ref (ad 0), .int x1] (wm ta ad μ) (rv_F (rv_vI r.1) (wm ta ad r.2)) := by
  refine rv_Cof2 (own := RX9) (lv := [(0, .ref (ad 0)), (1, .int x1)]) rfl (by decide) (rv_le rfl) rfl ?_
  unfold f_X9_tells_ at h
  refine rv_aload_n dX9_tells__0 rfl 0 rfl ?_
  obtain ⟨r1, hr1, h⟩ := rv_bind h
  refine rv_callV0 (rest := []) (ct_X9_tellsAll hr1) wm_X9_151 wi_X9_tellsAll wl_X9_tellsAll wc_X9_tellsAll wz_X9 rfl np_X9_tellsAll dX9_tells__1 rfl ⟨rv_le rfl, rv_le rfl⟩ ⟨rv_le rfl, rv_le rfl⟩ (rv_le rfl) 0 (wm_0 ta ad μ) cl_X9 ?_
  refine rv_aload_n dX9_tells__4 rfl 0 rfl ?_
  refine rv_iload_n dX9_tells__5 rfl 1 rfl ?_
  refine rv_iconst (v := 0) dX9_tells__6 (by decide) ?_
  refine rv_aload_n dX9_tells__7 rfl 0 rfl ?_
  refine gf_X9_112 dX9_tells__8 0 (wm_0 ta ad r1.2) rfl ?_
  refine rv_iconst (v := 1) dX9_tells__11 (by decide) ?_
  refine rv_isub dX9_tells__12 ?_
  obtain ⟨r2, hr2, h⟩ := rv_bind h
  refine rv_callS1 (rest := [.ref (ad 0)]) (ct_X9_in hr2) wm_X9_79 ws_X9_in wc_X9_in wz_X9 np_X9_in dX9_tells__13 rfl ⟨rv_le rfl, rv_le rfl⟩ ⟨rv_le rfl, rv_le rfl⟩ (rv_le rfl) ?_
  refine rv_if_eq (tgt := 23) dX9_tells__16 (by decide) (fun hc3 => ?_) (fun hc3 => ?_)
  · replace h := rv_ift hc3 h
    refine rv_iconst (v := 1) dX9_tells__23 (by decide) ?_
    refine rv_sub [] rfl ?_
    exact vb_X9_tells__24 h
  · replace h := rv_iff hc3 h
    refine rv_iconst (v := 0) dX9_tells__19 (by decide) ?_
    refine rv_goto (tgt := 24) dX9_tells__20 (by decide) ?_
    refine rv_sub [] rfl ?_
    exact vb_X9_tells__24 h
theorem ct_X9_breachKind {l : Launch} {D : va_G} {ta : Nat → ClassId} {ad : Nat → Nat} {μ : Mem} {x1 : Int32} {r : (Int32) × Mem} (h : f_X9_breachKind μ x1 = some r) : rv_C l D (rv_T ta) yX9_breachKind cX9_breachKind 2 (some .char) 8 0 0 [.ref (ad 0), .int x1] (wm ta ad μ) (rv_F (rv_vI r.1) (wm ta ad r.2)) := by
  refine rv_Cof2 (own := RX9) (lv := [(0, .ref (ad 0)), (1, .int x1)]) rfl (by decide) (rv_le rfl) rfl ?_
  unfold f_X9_breachKind at h
  refine rv_aload_n dX9_breachKind_0 rfl 0 rfl ?_
  refine rv_iload_n dX9_breachKind_1 rfl 1 rfl ?_
  obtain ⟨r1, hr1, h⟩ := rv_bind h
  refine rv_callV1 (rest := []) (ct_X9_tells_ hr1) wm_X9_154 wi_X9_tells_ wl_X9_tells_ wc_X9_tells_ wz_X9 rfl np_X9_tells_ dX9_breachKind_2 rfl ⟨rv_le rfl, rv_le rfl⟩ ⟨rv_le rfl, rv_le rfl⟩ (rv_le rfl) 0 (wm_0 ta ad μ) cl_X9 ?_
  refine rv_if_eq (tgt := 17) dX9_breachKind_5 (by decide) (fun hc2 => ?_) (fun hc2 => ?_)
  · replace h := rv_ift hc2 h
    refine rv_iconst (v := 0) dX9_breachKind_17 (by decide) ?_
    obtain rfl := Option.some.inj h
    exact rv_zret rfl rfl dX9_breachKind_18 (rv_le rfl) (rv_le rfl) ⟨rfl, rfl⟩
  · replace h := rv_iff hc2 h
    refine rv_aload_n dX9_breachKind_8 rfl 0 rfl ?_
    refine gf_X9_45 dX9_breachKind_9 0 (wm_0 ta ad r1.2) rfl ?_
    refine rv_iload_n dX9_breachKind_12 rfl 1 rfl ?_
    obtain ⟨hi3, h⟩ := rv_ifn h
    refine rv_cald dX9_breachKind_13 3 rfl 7 (wm_7 ta ad r1.2) (rv_inP hi3) ?_
    refine rv_goto (tgt := 18) dX9_breachKind_14 (by decide) ?_
    obtain ⟨hi4, h⟩ := rv_ifn h
    obtain rfl := Option.some.inj h
    exact rv_zret rfl (rv_bcP hi4) dX9_breachKind_18 (rv_le rfl) (rv_le rfl) ⟨rfl, rfl⟩
theorem ct_X9_breachPerson {l : Launch} {D : va_G} {ta : Nat → ClassId} {ad : Nat → Nat} {μ : Mem} {x1 : Int32} {r : (Int32) × Mem} (h : f_X9_breachPerson μ x1 = some r) : rv_C l D (rv_T ta) yX9_breachPerson cX9_breachPerson 2 (some .int) 8 0 0 [.ref (ad 0), .int x1] (wm ta ad μ) (rv_F (rv_vI r.1) (wm ta ad r.2)) := by
  refine rv_Cof2 (own := RX9) (lv := [(0, .ref (ad 0)), (1, .int x1)]) rfl (by decide) (rv_le rfl) rfl ?_
  unfold f_X9_breachPerson at h
  refine rv_aload_n dX9_breachPerson_0 rfl 0 rfl ?_
  refine rv_iload_n dX9_breachPerson_1 rfl 1 rfl ?_
  obtain ⟨r1, hr1, h⟩ := rv_bind h
  refine rv_callV1 (rest := []) (ct_X9_tells_ hr1) wm_X9_154 wi_X9_tells_ wl_X9_tells_ wc_X9_tells_ wz_X9 rfl np_X9_tells_ dX9_breachPerson_2 rfl ⟨rv_le rfl, rv_le rfl⟩ ⟨rv_le rfl, rv_le rfl⟩ (rv_le rfl) 0 (wm_0 ta ad μ) cl_X9 ?_
  refine rv_if_eq (tgt := 17) dX9_breachPerson_5 (by decide) (fun hc2 => ?_) (fun hc2 => ?_)
  · replace h := rv_ift hc2 h
    refine rv_iconst (v := 0) dX9_breachPerson_17 (by decide) ?_
    obtain rfl := Option.some.inj h
    exact rv_iret rfl dX9_breachPerson_18 (rv_le rfl) (rv_le rfl) ⟨rfl, rfl⟩
  · replace h := rv_iff hc2 h
    refine rv_aload_n dX9_breachPerson_8 rfl 0 rfl ?_
    refine gf_X9_49 dX9_breachPerson_9 0 (wm_0 ta ad r1.2) rfl ?_
    refine rv_iload_n dX9_breachPerson_12 rfl 1 rfl ?_
    obtain ⟨hi3, h⟩ := rv_ifn h
    refine rv_iald dX9_breachPerson_13 0 rfl 8 (wm_8 ta ad r1.2) (rv_inP hi3) ?_
    refine rv_goto (tgt := 18) dX9_breachPerson_14 (by decide) ?_
    obtain rfl := Option.some.inj h
    exact rv_iret rfl dX9_breachPerson_18 (rv_le rfl) (rv_le rfl) ⟨rfl, rfl⟩
theorem ct_X9_breachDay {l : Launch} {D : va_G} {ta : Nat → ClassId} {ad : Nat → Nat} {μ : Mem} {x1 : Int32} {r : (Int32) × Mem} (h : f_X9_breachDay μ x1 = some r) : rv_C l D (rv_T ta) yX9_breachDay cX9_breachDay 2 (some .int) 8 0 0 [.ref (ad 0), .int x1] (wm ta ad μ) (rv_F (rv_vI r.1) (wm ta ad r.2)) := by
  refine rv_Cof2 (own := RX9) (lv := [(0, .ref (ad 0)), (1, .int x1)]) rfl (by decide) (rv_le rfl) rfl ?_
  unfold f_X9_breachDay at h
  refine rv_aload_n dX9_breachDay_0 rfl 0 rfl ?_
  refine rv_iload_n dX9_breachDay_1 rfl 1 rfl ?_
  obtain ⟨r1, hr1, h⟩ := rv_bind h
  refine rv_callV1 (rest := []) (ct_X9_tells_ hr1) wm_X9_154 wi_X9_tells_ wl_X9_tells_ wc_X9_tells_ wz_X9 rfl np_X9_tells_ dX9_breachDay_2 rfl ⟨rv_le rfl, rv_le rfl⟩ ⟨rv_le rfl, rv_le rfl⟩ (rv_le rfl) 0 (wm_0 ta ad μ) cl_X9 ?_
  refine rv_if_eq (tgt := 17) dX9_breachDay_5 (by decide) (fun hc2 => ?_) (fun hc2 => ?_)
  · replace h := rv_ift hc2 h
    refine rv_iconst (v := 0) dX9_breachDay_17 (by decide) ?_
    obtain rfl := Option.some.inj h
    exact rv_iret rfl dX9_breachDay_18 (rv_le rfl) (rv_le rfl) ⟨rfl, rfl⟩
  · replace h := rv_iff hc2 h
    refine rv_aload_n dX9_breachDay_8 rfl 0 rfl ?_
    refine gf_X9_52 dX9_breachDay_9 0 (wm_0 ta ad r1.2) rfl ?_
    refine rv_iload_n dX9_breachDay_12 rfl 1 rfl ?_
    obtain ⟨hi3, h⟩ := rv_ifn h
    refine rv_iald dX9_breachDay_13 0 rfl 9 (wm_9 ta ad r1.2) (rv_inP hi3) ?_
    refine rv_goto (tgt := 18) dX9_breachDay_14 (by decide) ?_
    obtain rfl := Option.some.inj h
    exact rv_iret rfl dX9_breachDay_18 (rv_le rfl) (rv_le rfl) ⟨rfl, rfl⟩
theorem ct_X9_breachShift {l : Launch} {D : va_G} {ta : Nat → ClassId} {ad : Nat → Nat} {μ : Mem} {x1 : Int32} {r : (Int32) × Mem} (h : f_X9_breachShift μ x1 = some r) : rv_C l D (rv_T ta) yX9_breachShift cX9_breachShift 2 (some .int) 8 0 0 [.ref (ad 0), .int x1] (wm ta ad μ) (rv_F (rv_vI r.1) (wm ta ad r.2)) := by
  refine rv_Cof2 (own := RX9) (lv := [(0, .ref (ad 0)), (1, .int x1)]) rfl (by decide) (rv_le rfl) rfl ?_
  unfold f_X9_breachShift at h
  refine rv_aload_n dX9_breachShift_0 rfl 0 rfl ?_
  refine rv_iload_n dX9_breachShift_1 rfl 1 rfl ?_
  obtain ⟨r1, hr1, h⟩ := rv_bind h
  refine rv_callV1 (rest := []) (ct_X9_tells_ hr1) wm_X9_154 wi_X9_tells_ wl_X9_tells_ wc_X9_tells_ wz_X9 rfl np_X9_tells_ dX9_breachShift_2 rfl ⟨rv_le rfl, rv_le rfl⟩ ⟨rv_le rfl, rv_le rfl⟩ (rv_le rfl) 0 (wm_0 ta ad μ) cl_X9 ?_
  refine rv_if_eq (tgt := 17) dX9_breachShift_5 (by decide) (fun hc2 => ?_) (fun hc2 => ?_)
  · replace h := rv_ift hc2 h
    refine rv_iconst (v := 0) dX9_breachShift_17 (by decide) ?_
    obtain rfl := Option.some.inj h
    exact rv_iret rfl dX9_breachShift_18 (rv_le rfl) (rv_le rfl) ⟨rfl, rfl⟩
  · replace h := rv_iff hc2 h
    refine rv_aload_n dX9_breachShift_8 rfl 0 rfl ?_
    refine gf_X9_55 dX9_breachShift_9 0 (wm_0 ta ad r1.2) rfl ?_
    refine rv_iload_n dX9_breachShift_12 rfl 1 rfl ?_
    obtain ⟨hi3, h⟩ := rv_ifn h
    refine rv_iald dX9_breachShift_13 0 rfl 10 (wm_10 ta ad r1.2) (rv_inP hi3) ?_
    refine rv_goto (tgt := 18) dX9_breachShift_14 (by decide) ?_
    obtain rfl := Option.some.inj h
    exact rv_iret rfl dX9_breachShift_18 (rv_le rfl) (rv_le rfl) ⟨rfl, rfl⟩
theorem vb_X9_breachesOf_28 {l : Launch} {D : va_G} {ta : Nat → ClassId} {ad : Nat → Nat} {μ : Mem} {x1 : Int32} {x3 : Int32} {s0 : Int32} {s1 : Int32} {k4 : Int32 → Int32 → Option (Int32)} (hk4 : ∀ {x2 : Int32} {x3 : Int32} {r : Int32}, k4 x2 x3 = some r → rv_V l D (rv_T ta) RX9 cX9_breachesOf 4 (some .int) ("", []) (rv_rm 1 0 0) (rv_M D (rv_F (rv_vI r) (wm ta ad μ)) 0 0) 0 0 (wm ta ad μ) 4 [(0, .ref (ad 0)), (1, .int x1), (2, .int x2), (3, .int x3)] []) {r : Int32} (h : b_X9_breachesOf_28 μ k4 x1 x3 s0 s1 = some r) : rv_V l D (rv_T ta) RX9 cX9_breachesOf 4 (some .int) ("", []) (rv_rm 1 0 0) (rv_M D (rv_F (rv_vI r) (wm ta ad μ)) 0 0) 0 0 (wm ta ad μ) 28 [(0, .ref (ad 0)), (1, .int x1), (3, .int x3)] [.int s1, .int s0] := by
  unfold b_X9_breachesOf_28 at h
  refine rv_iadd dX9_breachesOf_28 ?_
  refine rv_istore_n (lv2 := [(2, .int (s0 + s1)), (0, .ref (ad 0)), (1, .int x1), (3, .int x3)]) dX9_breachesOf_29 rfl (by decide) rfl ?_
  refine rv_iinc (v := (x3 + 1)) (lv2 := [(3, .int (x3 + 1)), (2, .int (s0 + s1)), (0, .ref (ad 0)), (1, .int x1)]) dX9_breachesOf_30 3 rfl rfl (by decide) rfl ?_
  refine rv_goto (tgt := 4) dX9_breachesOf_33 (by decide) ?_
  refine rv_sub [2, 3, 1, 0] rfl ?_
  exact hk4 h
theorem vB_X9_breachesOf_4 {l : Launch} {D : va_G} {ta : Nat → ClassId} {ad : Nat → Nat} {μ : Mem} {x1 : Int32} {k4 : Int32 → Int32 → Option (Int32)} (hk4 : ∀ {x2 : Int32} {x3 : Int32} {r : Int32}, k4 x2 x3 = some r → rv_V l D (rv_T ta) RX9 cX9_breachesOf 4 (some .int) ("", []) (rv_rm 1 0 0) (rv_M D (rv_F (rv_vI r) (wm ta ad μ)) 0 0) 0 0 (wm ta ad μ) 4 [(0, .ref (ad 0)), (1, .int x1), (2, .int x2), (3, .int x3)] []) {x2 : Int32} {x3 : Int32} {r : Int32} (h : B_X9_breachesOf_4 μ x1 k4 x2 x3 = some r) : rv_V l D (rv_T ta) RX9 cX9_breachesOf 4 (some .int) ("", []) (rv_rm 1 0 0) (rv_M D (rv_F (rv_vI r) (wm ta ad μ)) 0 0) 0 0 (wm ta ad μ) 4 [(0, .ref (ad 0)), (1, .int x1), (2, .int x2), (3, .int x3)] [] := by
  unfold B_X9_breachesOf_4 at h
  refine rv_iload_n dX9_breachesOf_4 rfl 3 rfl ?_
  refine rv_aload_n dX9_breachesOf_5 rfl 0 rfl ?_
  refine gf_X9_112 dX9_breachesOf_6 0 (wm_0 ta ad μ) rfl ?_
  refine rv_icmp_ge (tgt := 36) dX9_breachesOf_9 (by decide) (fun hc1 => ?_) (fun hc1 => ?_)
  · replace h := rv_ift hc1 h
    refine rv_iload_n dX9_breachesOf_36 rfl 2 rfl ?_
    obtain rfl := Option.some.inj h
    exact rv_iret rfl dX9_breachesOf_37 (rv_le rfl) (rv_le rfl) ⟨rfl, rfl⟩
  · replace h := rv_iff hc1 h
    refine rv_iload_n dX9_breachesOf_12 rfl 2 rfl ?_
    refine rv_aload_n dX9_breachesOf_13 rfl 0 rfl ?_
    refine gf_X9_49 dX9_breachesOf_14 0 (wm_0 ta ad μ) rfl ?_
    refine rv_iload_n dX9_breachesOf_17 rfl 3 rfl ?_
    obtain ⟨hi2, h⟩ := rv_ifn h
    refine rv_iald dX9_breachesOf_18 0 rfl 8 (wm_8 ta ad μ) (rv_inP hi2) ?_
    refine rv_iload_n dX9_breachesOf_19 rfl 1 rfl ?_
    refine rv_icmp_ne (tgt := 27) dX9_breachesOf_20 (by decide) (fun hc3 => ?_) (fun hc3 => ?_)
    · replace h := rv_iff hc3 h
      refine rv_iconst (v := 0) dX9_breachesOf_27 (by decide) ?_
      refine rv_sub [0, 1, 3] rfl ?_
      exact vb_X9_breachesOf_28 hk4 h
    · replace h := rv_ift hc3 h
      refine rv_iconst (v := 1) dX9_breachesOf_23 (by decide) ?_
      refine rv_goto (tgt := 28) dX9_breachesOf_24 (by decide) ?_
      refine rv_sub [0, 1, 3] rfl ?_
      exact vb_X9_breachesOf_28 hk4 h
theorem vh_X9_breachesOf_4 {l : Launch} {D : va_G} {ta : Nat → ClassId} {ad : Nat → Nat} {μ : Mem} {x1 : Int32} {n : Nat} {x2 : Int32} {x3 : Int32} {r : Int32} (h : rv_loop (B_X9_breachesOf_4 μ x1) (fun _ _ => none) n x2 x3 = some r) : rv_V l D (rv_T ta) RX9 cX9_breachesOf 4 (some .int) ("", []) (rv_rm 1 0 0) (rv_M D (rv_F (rv_vI r) (wm ta ad μ)) 0 0) 0 0 (wm ta ad μ) 4 [(0, .ref (ad 0)), (1, .int x1), (2, .int x2), (3, .int x3)] [] := by
  induction n generalizing x2 x3 r with
  | zero => cases h
  | succ n ih => exact vB_X9_breachesOf_4 (fun h9 => ih h9) h
theorem ct_X9_breachesOf {l : Launch} {D : va_G} {ta : Nat → ClassId} {ad : Nat → Nat} {μ : Mem} {x1 : Int32} {r : Int32} (h : f_X9_breachesOf μ x1 = some r) : rv_C l D (rv_T ta) yX9_breachesOf cX9_breachesOf 4 (some .int) 1 0 0 [.ref (ad 0), .int x1] (wm ta ad μ) (rv_F (rv_vI r) (wm ta ad μ)) := by
  refine rv_Cof2 (own := RX9) (lv := [(0, .ref (ad 0)), (1, .int x1)]) rfl (by decide) (rv_le rfl) rfl ?_
  unfold f_X9_breachesOf at h
  refine rv_iconst (v := 0) dX9_breachesOf_0 (by decide) ?_
  refine rv_istore_n (lv2 := [(2, .int 0), (0, .ref (ad 0)), (1, .int x1)]) dX9_breachesOf_1 rfl (by decide) rfl ?_
  refine rv_iconst (v := 0) dX9_breachesOf_2 (by decide) ?_
  refine rv_istore_n (lv2 := [(3, .int 0), (2, .int 0), (0, .ref (ad 0)), (1, .int x1)]) dX9_breachesOf_3 rfl (by decide) rfl ?_
  refine rv_sub [2, 3, 1, 0] rfl ?_
  exact vh_X9_breachesOf_4 h
theorem vb_X9_mostBreaches_87 {l : Launch} {D : va_G} {ta : Nat → ClassId} {ad : Nat → Nat} {μ : Mem} {x1 : Int32} {s1 : Int32} {r : (Int32) × Mem} (h : b_X9_mostBreaches_87 μ x1 s1 = some r) : rv_V l D (rv_T ta) RX9 cX9_mostBreaches 4 (some .int) ("", []) (rv_rm 7 0 0) (rv_M D (rv_F (rv_vI r.1) (wm ta ad r.2)) 0 0) 0 0 (wm ta ad μ) 87 [(1, .int x1)] [.int s1, .ref (ad 0)] := by
  unfold b_X9_mostBreaches_87 at h
  obtain ⟨r4, hr4, h⟩ := rv_bind h
  refine rv_callV1 (rest := []) (ct_X9_goesOn hr4) wm_X9_129 wi_X9_goesOn wl_X9_goesOn wc_X9_goesOn wz_X9 rfl np_X9_goesOn dX9_mostBreaches_87 rfl ⟨rv_le rfl, rv_le rfl⟩ ⟨rv_le rfl, rv_le rfl⟩ (rv_le rfl) 0 (wm_0 ta ad μ) cl_X9 ?_
  refine rv_if_eq (tgt := 97) dX9_mostBreaches_90 (by decide) (fun hc5 => ?_) (fun hc5 => ?_)
  · replace h := rv_ift hc5 h
    refine rv_iconst (v := 0) dX9_mostBreaches_97 (by decide) ?_
    obtain rfl := Option.some.inj h
    exact rv_iret rfl dX9_mostBreaches_98 (rv_le rfl) (rv_le rfl) ⟨rfl, rfl⟩
  · replace h := rv_iff hc5 h
    refine rv_iload_n dX9_mostBreaches_93 rfl 0 rfl ?_
    refine rv_goto (tgt := 98) dX9_mostBreaches_94 (by decide) ?_
    obtain rfl := Option.some.inj h
    exact rv_iret rfl dX9_mostBreaches_98 (rv_le rfl) (rv_le rfl) ⟨rfl, rfl⟩
theorem vb_X9_mostBreaches_69 {l : Launch} {D : va_G} {ta : Nat → ClassId} {ad : Nat → Nat} {μ : Mem} {x2 : Int32} {s0 : Int32} {k8 : Int32 → Int32 → Option ((Int32) × Mem)} (hk8 : ∀ {x1 : Int32} {x2 : Int32} {r : (Int32) × Mem}, k8 x1 x2 = some r → rv_V l D (rv_T ta) RX9 cX9_mostBreaches 4 (some .int) ("", []) (rv_rm 7 0 0) (rv_M D (rv_F (rv_vI r.1) (wm ta ad r.2)) 0 0) 0 0 (wm ta ad μ) 8 [(0, .ref (ad 0)), (1, .int x1), (2, .int x2)] []) {r : (Int32) × Mem} (h : b_X9_mostBreaches_69 μ k8 x2 s0 = some r) : rv_V l D (rv_T ta) RX9 cX9_mostBreaches 4 (some .int) ("", []) (rv_rm 7 0 0) (rv_M D (rv_F (rv_vI r.1) (wm ta ad r.2)) 0 0) 0 0 (wm ta ad μ) 69 [(0, .ref (ad 0)), (2, .int x2)] [.int s0] := by
  unfold b_X9_mostBreaches_69 at h
  refine rv_istore_n (lv2 := [(1, .int s0), (0, .ref (ad 0)), (2, .int x2)]) dX9_mostBreaches_69 rfl (by decide) rfl ?_
  refine rv_iinc (v := (x2 + 1)) (lv2 := [(2, .int (x2 + 1)), (1, .int s0), (0, .ref (ad 0))]) dX9_mostBreaches_70 2 rfl rfl (by decide) rfl ?_
  refine rv_goto (tgt := 8) dX9_mostBreaches_73 (by decide) ?_
  refine rv_sub [2, 1, 0] rfl ?_
  exact hk8 h
theorem vb_X9_mostBreaches_54 {l : Launch} {D : va_G} {ta : Nat → ClassId} {ad : Nat → Nat} {μ : Mem} {x1 : Int32} {x2 : Int32} {s0 : Int32} {k8 : Int32 → Int32 → Option ((Int32) × Mem)} (hk8 : ∀ {x1 : Int32} {x2 : Int32} {r : (Int32) × Mem}, k8 x1 x2 = some r → rv_V l D (rv_T ta) RX9 cX9_mostBreaches 4 (some .int) ("", []) (rv_rm 7 0 0) (rv_M D (rv_F (rv_vI r.1) (wm ta ad r.2)) 0 0) 0 0 (wm ta ad μ) 8 [(0, .ref (ad 0)), (1, .int x1), (2, .int x2)] []) {r : (Int32) × Mem} (h : b_X9_mostBreaches_54 μ k8 x1 x2 s0 = some r) : rv_V l D (rv_T ta) RX9 cX9_mostBreaches 4 (some .int) ("", []) (rv_rm 7 0 0) (rv_M D (rv_F (rv_vI r.1) (wm ta ad r.2)) 0 0) 0 0 (wm ta ad μ) 54 [(0, .ref (ad 0)), (1, .int x1), (2, .int x2)] [.int s0] := by
  unfold b_X9_mostBreaches_54 at h
  refine rv_istore_n (lv2 := [(3, .int s0), (0, .ref (ad 0)), (1, .int x1), (2, .int x2)]) dX9_mostBreaches_54 rfl (by decide) rfl ?_
  refine rv_iload_n dX9_mostBreaches_55 rfl 0 rfl ?_
  refine rv_if_eq (tgt := 68) dX9_mostBreaches_56 (by decide) (fun hc8 => ?_) (fun hc8 => ?_)
  · replace h := rv_ift hc8 h
    refine rv_iload_n dX9_mostBreaches_68 rfl 2 rfl ?_
    refine rv_sub [1, 3] rfl ?_
    exact vb_X9_mostBreaches_69 hk8 h
  · replace h := rv_iff hc8 h
    refine rv_aload_n dX9_mostBreaches_59 rfl 1 rfl ?_
    refine gf_X9_49 dX9_mostBreaches_60 0 (wm_0 ta ad μ) rfl ?_
    refine rv_iload_n dX9_mostBreaches_63 rfl 3 rfl ?_
    obtain ⟨hi9, h⟩ := rv_ifn h
    refine rv_iald dX9_mostBreaches_64 0 rfl 8 (wm_8 ta ad μ) (rv_inP hi9) ?_
    refine rv_goto (tgt := 69) dX9_mostBreaches_65 (by decide) ?_
    refine rv_sub [1, 3] rfl ?_
    exact vb_X9_mostBreaches_69 hk8 h
theorem vb_X9_mostBreaches_53 {l : Launch} {D : va_G} {ta : Nat → ClassId} {ad : Nat → Nat} {μ : Mem} {x1 : Int32} {x2 : Int32} {k8 : Int32 → Int32 → Option ((Int32) × Mem)} (hk8 : ∀ {x1 : Int32} {x2 : Int32} {r : (Int32) × Mem}, k8 x1 x2 = some r → rv_V l D (rv_T ta) RX9 cX9_mostBreaches 4 (some .int) ("", []) (rv_rm 7 0 0) (rv_M D (rv_F (rv_vI r.1) (wm ta ad r.2)) 0 0) 0 0 (wm ta ad μ) 8 [(0, .ref (ad 0)), (1, .int x1), (2, .int x2)] []) {r : (Int32) × Mem} (h : b_X9_mostBreaches_53 μ k8 x1 x2 = some r) : rv_V l D (rv_T ta) RX9 cX9_mostBreaches 4 (some .int) ("", []) (rv_rm 7 0 0) (rv_M D (rv_F (rv_vI r.1) (wm ta ad r.2)) 0 0) 0 0 (wm ta ad μ) 53 [(0, .ref (ad 0)), (1, .int x1), (2, .int x2)] [] := by
  unfold b_X9_mostBreaches_53 at h
  refine rv_iconst (v := 0) dX9_mostBreaches_53 (by decide) ?_
  exact vb_X9_mostBreaches_54 hk8 h
theorem vB_X9_mostBreaches_8 {l : Launch} {D : va_G} {ta : Nat → ClassId} {ad : Nat → Nat} {μ : Mem} {k8 : Int32 → Int32 → Option ((Int32) × Mem)} (hk8 : ∀ {x1 : Int32} {x2 : Int32} {r : (Int32) × Mem}, k8 x1 x2 = some r → rv_V l D (rv_T ta) RX9 cX9_mostBreaches 4 (some .int) ("", []) (rv_rm 7 0 0) (rv_M D (rv_F (rv_vI r.1) (wm ta ad r.2)) 0 0) 0 0 (wm ta ad μ) 8 [(0, .ref (ad 0)), (1, .int x1), (2, .int x2)] []) {x1 : Int32} {x2 : Int32} {r : (Int32) × Mem} (h : B_X9_mostBreaches_8 μ k8 x1 x2 = some r) : rv_V l D (rv_T ta) RX9 cX9_mostBreaches 4 (some .int) ("", []) (rv_rm 7 0 0) (rv_M D (rv_F (rv_vI r.1) (wm ta ad r.2)) 0 0) 0 0 (wm ta ad μ) 8 [(0, .ref (ad 0)), (1, .int x1), (2, .int x2)] [] := by
  unfold B_X9_mostBreaches_8 at h
  refine rv_iload_n dX9_mostBreaches_8 rfl 2 rfl ?_
  refine rv_aload_n dX9_mostBreaches_9 rfl 0 rfl ?_
  refine gf_X9_112 dX9_mostBreaches_10 0 (wm_0 ta ad μ) rfl ?_
  refine rv_icmp_ge (tgt := 76) dX9_mostBreaches_13 (by decide) (fun hc2 => ?_) (fun hc2 => ?_)
  · replace h := rv_ift hc2 h
    refine rv_aload_n dX9_mostBreaches_76 rfl 0 rfl ?_
    refine rv_iload_n dX9_mostBreaches_77 rfl 1 rfl ?_
    refine rv_iconst (v := (-1)) dX9_mostBreaches_78 (by decide) ?_
    refine rv_icmp_ne (tgt := 86) dX9_mostBreaches_79 (by decide) (fun hc3 => ?_) (fun hc3 => ?_)
    · replace h := rv_iff hc3 h
      refine rv_iconst (v := 0) dX9_mostBreaches_86 (by decide) ?_
      refine rv_sub [1] rfl ?_
      exact vb_X9_mostBreaches_87 h
    · replace h := rv_ift hc3 h
      refine rv_iconst (v := 1) dX9_mostBreaches_82 (by decide) ?_
      refine rv_goto (tgt := 87) dX9_mostBreaches_83 (by decide) ?_
      refine rv_sub [1] rfl ?_
      exact vb_X9_mostBreaches_87 h
  · replace h := rv_iff hc2 h
    refine rv_aload_n dX9_mostBreaches_16 rfl 0 rfl ?_
    refine gf_X9_49 dX9_mostBreaches_17 0 (wm_0 ta ad μ) rfl ?_
    refine rv_iload_n dX9_mostBreaches_20 rfl 2 rfl ?_
    obtain ⟨hi6, h⟩ := rv_ifn h
    refine rv_iald dX9_mostBreaches_21 0 rfl 8 (wm_8 ta ad μ) (rv_inP hi6) ?_
    refine rv_iconst (v := (-1)) dX9_mostBreaches_22 (by decide) ?_
    refine rv_icmp_eq (tgt := 53) dX9_mostBreaches_23 (by decide) (fun hc7 => ?_) (fun hc7 => ?_)
    · replace h := rv_ift hc7 h
      exact vb_X9_mostBreaches_53 hk8 h
    · replace h := rv_iff hc7 h
      refine rv_iload_n dX9_mostBreaches_26 rfl 1 rfl ?_
      refine rv_iconst (v := (-1)) dX9_mostBreaches_27 (by decide) ?_
      refine rv_icmp_eq (tgt := 49) dX9_mostBreaches_28 (by decide) (fun hc10 => ?_) (fun hc10 => ?_)
      · replace h := rv_ift hc10 h
        refine rv_iconst (v := 1) dX9_mostBreaches_49 (by decide) ?_
        refine rv_goto (tgt := 54) dX9_mostBreaches_50 (by decide) ?_
        exact vb_X9_mostBreaches_54 hk8 h
      · replace h := rv_iff hc10 h
        refine rv_aload_n dX9_mostBreaches_31 rfl 0 rfl ?_
        refine rv_aload_n dX9_mostBreaches_32 rfl 0 rfl ?_
        refine gf_X9_49 dX9_mostBreaches_33 0 (wm_0 ta ad μ) rfl ?_
        refine rv_iload_n dX9_mostBreaches_36 rfl 2 rfl ?_
        obtain ⟨hi11, h⟩ := rv_ifn h
        refine rv_iald dX9_mostBreaches_37 0 rfl 8 (wm_8 ta ad μ) (rv_inP hi11) ?_
        obtain ⟨r12, hr12, h⟩ := rv_bind h
        refine rv_callV1 (rest := []) (ct_X9_breachesOf hr12) wm_X9_156 wi_X9_breachesOf wl_X9_breachesOf wc_X9_breachesOf wz_X9 rfl np_X9_breachesOf dX9_mostBreaches_38 rfl ⟨rv_le rfl, rv_le rfl⟩ ⟨rv_le rfl, rv_le rfl⟩ (rv_le rfl) 0 (wm_0 ta ad μ) cl_X9 ?_
        refine rv_aload_n dX9_mostBreaches_41 rfl 0 rfl ?_
        refine rv_iload_n dX9_mostBreaches_42 rfl 1 rfl ?_
        obtain ⟨r13, hr13, h⟩ := rv_bind h
        refine rv_callV1 (rest := [.int r12]) (ct_X9_breachesOf hr13) wm_X9_156 wi_X9_breachesOf wl_X9_breachesOf wc_X9_breachesOf wz_X9 rfl np_X9_breachesOf dX9_mostBreaches_43 rfl ⟨rv_le rfl, rv_le rfl⟩ ⟨rv_le rfl, rv_le rfl⟩ (rv_le rfl) 0 (wm_0 ta ad μ) cl_X9 ?_
        refine rv_icmp_le (tgt := 53) dX9_mostBreaches_46 (by decide) (fun hc14 => ?_) (fun hc14 => ?_)
        · replace h := rv_ift hc14 h
          exact vb_X9_mostBreaches_53 hk8 h
        · replace h := rv_iff hc14 h
          refine rv_iconst (v := 1) dX9_mostBreaches_49 (by decide) ?_
          refine rv_goto (tgt := 54) dX9_mostBreaches_50 (by decide) ?_
          exact vb_X9_mostBreaches_54 hk8 h
theorem vh_X9_mostBreaches_8 {l : Launch} {D : va_G} {ta : Nat → ClassId} {ad : Nat → Nat} {μ : Mem} {n : Nat} {x1 : Int32} {x2 : Int32} {r : (Int32) × Mem} (h : rv_loop (B_X9_mostBreaches_8 μ) (fun _ _ => none) n x1 x2 = some r) : rv_V l D (rv_T ta) RX9 cX9_mostBreaches 4 (some .int) ("", []) (rv_rm 7 0 0) (rv_M D (rv_F (rv_vI r.1) (wm ta ad r.2)) 0 0) 0 0 (wm ta ad μ) 8 [(0, .ref (ad 0)), (1, .int x1), (2, .int x2)] [] := by
  induction n generalizing x1 x2 r with
  | zero => cases h
  | succ n ih => exact vB_X9_mostBreaches_8 (fun h9 => ih h9) h
theorem ct_X9_mostBreaches {l : Launch} {D : va_G} {ta : Nat → ClassId} {ad : Nat → Nat} {μ : Mem} {r : (Int32) × Mem} (h : f_X9_mostBreaches μ = some r) : rv_C l D (rv_T ta) yX9_mostBreaches cX9_mostBreaches 4 (some .int) 7 0 0 [.ref (ad 0)] (wm ta ad μ) (rv_F (rv_vI r.1) (wm ta ad r.2)) := by
  refine rv_Cof2 (own := RX9) (lv := [(0, .ref (ad 0))]) rfl (by decide) (rv_le rfl) rfl ?_
  unfold f_X9_mostBreaches at h
  refine rv_aload_n dX9_mostBreaches_0 rfl 0 rfl ?_
  obtain ⟨r1, hr1, h⟩ := rv_bind h
  refine rv_callV0 (rest := []) (ct_X9_tellsAll hr1) wm_X9_151 wi_X9_tellsAll wl_X9_tellsAll wc_X9_tellsAll wz_X9 rfl np_X9_tellsAll dX9_mostBreaches_1 rfl ⟨rv_le rfl, rv_le rfl⟩ ⟨rv_le rfl, rv_le rfl⟩ (rv_le rfl) 0 (wm_0 ta ad μ) cl_X9 ?_
  refine rv_iconst (v := (-1)) dX9_mostBreaches_4 (by decide) ?_
  refine rv_istore_n (lv2 := [(1, .int (-1)), (0, .ref (ad 0))]) dX9_mostBreaches_5 rfl (by decide) rfl ?_
  refine rv_iconst (v := 0) dX9_mostBreaches_6 (by decide) ?_
  refine rv_istore_n (lv2 := [(2, .int 0), (1, .int (-1)), (0, .ref (ad 0))]) dX9_mostBreaches_7 rfl (by decide) rfl ?_
  refine rv_sub [2, 1, 0] rfl ?_
  exact vh_X9_mostBreaches_8 h
theorem ct_X9_exchanges {l : Launch} {D : va_G} {ta : Nat → ClassId} {ad : Nat → Nat} {μ : Mem} {x1 : Int32} {x2 : Int32} {x3 : Int32} {r : (Unit) × Mem} (h : f_X9_exchanges μ x1 x2 x3 = some r) : rv_C l D (rv_T ta) yX9_exchanges cX9_exchanges 5 none 2 0 0 [.ref (ad 0), .int x1, .int x2, .int x3] (wm ta ad μ) (rv_F (rv_vU r.1) (wm ta ad r.2)) := by
  refine rv_Cof2 (own := RX9) (lv := [(0, .ref (ad 0)), (1, .int x1), (2, .int x2), (3, .int x3)]) rfl (by decide) (rv_le rfl) rfl ?_
  unfold f_X9_exchanges at h
  refine rv_aload_n dX9_exchanges_0 rfl 0 rfl ?_
  refine rv_iload_n dX9_exchanges_1 rfl 1 rfl ?_
  refine rv_iload_n dX9_exchanges_2 rfl 3 rfl ?_
  obtain ⟨r1, hr1, h⟩ := rv_bind h
  refine rv_callV1 (rest := []) (ct_X9_at hr1) wm_X9_86 wi_X9_at wl_X9_at wc_X9_at wz_X9 rfl np_X9_at dX9_exchanges_3 rfl ⟨rv_le rfl, rv_le rfl⟩ ⟨rv_le rfl, rv_le rfl⟩ (rv_le rfl) 0 (wm_0 ta ad μ) cl_X9 ?_
  refine rv_istore (lv2 := [(4, .int r1), (0, .ref (ad 0)), (1, .int x1), (2, .int x2), (3, .int x3)]) dX9_exchanges_6 (by decide) rfl ?_
  refine rv_aload_n dX9_exchanges_8 rfl 1 rfl ?_
  refine gf_X9_16 dX9_exchanges_9 0 (wm_0 ta ad μ) rfl ?_
  refine rv_bipush (v := 8) dX9_exchanges_12 (by decide) ?_
  refine rv_iload_n dX9_exchanges_14 rfl 2 rfl ?_
  refine rv_imul dX9_exchanges_15 ?_
  refine rv_iload_n dX9_exchanges_16 rfl 4 rfl ?_
  refine rv_iadd dX9_exchanges_17 ?_
  refine rv_aload_n dX9_exchanges_18 rfl 1 rfl ?_
  refine rv_iload_n dX9_exchanges_19 rfl 3 rfl ?_
  refine rv_iload_n dX9_exchanges_20 rfl 4 rfl ?_
  obtain ⟨r2, hr2, h⟩ := rv_bind h
  refine rv_callV1 (rest := [.int ((8 * x1) + x3), .ref (ad 3)]) (ct_X9_at hr2) wm_X9_86 wi_X9_at wl_X9_at wc_X9_at wz_X9 rfl np_X9_at dX9_exchanges_21 rfl ⟨rv_le rfl, rv_le rfl⟩ ⟨rv_le rfl, rv_le rfl⟩ (rv_le rfl) 0 (wm_0 ta ad μ) cl_X9 ?_
  obtain ⟨hi3, h⟩ := rv_ifn h
  refine rv_iast dX9_exchanges_24 0 rfl 3 (wm_3 ta ad μ) (rv_inP hi3) (wm_s3 ta ad μ _ _) ?_
  refine rv_aload_n dX9_exchanges_25 rfl 1 rfl ?_
  refine gf_X9_16 dX9_exchanges_26 0 (wm_0 ta ad (mu_up μ 3 (Int32.toNatClampNeg ((8 * x1) + x3)) r2)) rfl ?_
  refine rv_bipush (v := 8) dX9_exchanges_29 (by decide) ?_
  refine rv_iload_n dX9_exchanges_31 rfl 3 rfl ?_
  refine rv_imul dX9_exchanges_32 ?_
  refine rv_iload_n dX9_exchanges_33 rfl 4 rfl ?_
  refine rv_iadd dX9_exchanges_34 ?_
  refine rv_iload dX9_exchanges_35 0 rfl ?_
  obtain ⟨hi4, h⟩ := rv_ifn h
  refine rv_iast dX9_exchanges_37 0 rfl 3 (wm_3 ta ad (mu_up μ 3 (Int32.toNatClampNeg ((8 * x1) + x3)) r2)) (rv_inP hi4) (wm_s3 ta ad (mu_up μ 3 (Int32.toNatClampNeg ((8 * x1) + x3)) r2) _ _) ?_
  obtain rfl := Option.some.inj h
  exact rv_vret rfl dX9_exchanges_38 (rv_le rfl) (rv_le rfl) ⟨rfl, rfl⟩
theorem vb_X9_isFair_118 {l : Launch} {D : va_G} {ta : Nat → ClassId} {ad : Nat → Nat} {μ : Mem} {x5 : Int32} {s0 : Int32} {k85 : Int32 → Int32 → Option ((Int32) × Mem)} (hk85 : ∀ {x4 : Int32} {x5 : Int32} {r : (Int32) × Mem}, k85 x4 x5 = some r → rv_V l D (rv_T ta) RX9 cX9_isFair 6 (some .boolean) ("", []) (rv_rm 7 0 0) (rv_M D (rv_F (rv_vI r.1) (wm ta ad r.2)) 0 0) 0 0 (wm ta ad μ) 85 [(0, .ref (ad 0)), (4, .int x4), (5, .int x5)] []) {r : (Int32) × Mem} (h : b_X9_isFair_118 μ k85 x5 s0 = some r) : rv_V l D (rv_T ta) RX9 cX9_isFair 6 (some .boolean) ("", []) (rv_rm 7 0 0) (rv_M D (rv_F (rv_vI r.1) (wm ta ad r.2)) 0 0) 0 0 (wm ta ad μ) 118 [(0, .ref (ad 0)), (5, .int x5)] [.int s0] := by
  unfold b_X9_isFair_118 at h
  refine rv_istore (lv2 := [(4, .int s0), (0, .ref (ad 0)), (5, .int x5)]) dX9_isFair_118 (by decide) rfl ?_
  refine rv_iinc (v := (x5 + 1)) (lv2 := [(5, .int (x5 + 1)), (4, .int s0), (0, .ref (ad 0))]) dX9_isFair_120 2 rfl rfl (by decide) rfl ?_
  refine rv_goto (tgt := 85) dX9_isFair_123 (by decide) ?_
  refine rv_sub [2, 1, 0] rfl ?_
  exact hk85 h
theorem vb_X9_isFair_117 {l : Launch} {D : va_G} {ta : Nat → ClassId} {ad : Nat → Nat} {μ : Mem} {x5 : Int32} {k85 : Int32 → Int32 → Option ((Int32) × Mem)} (hk85 : ∀ {x4 : Int32} {x5 : Int32} {r : (Int32) × Mem}, k85 x4 x5 = some r → rv_V l D (rv_T ta) RX9 cX9_isFair 6 (some .boolean) ("", []) (rv_rm 7 0 0) (rv_M D (rv_F (rv_vI r.1) (wm ta ad r.2)) 0 0) 0 0 (wm ta ad μ) 85 [(0, .ref (ad 0)), (4, .int x4), (5, .int x5)] []) {r : (Int32) × Mem} (h : b_X9_isFair_117 μ k85 x5 = some r) : rv_V l D (rv_T ta) RX9 cX9_isFair 6 (some .boolean) ("", []) (rv_rm 7 0 0) (rv_M D (rv_F (rv_vI r.1) (wm ta ad r.2)) 0 0) 0 0 (wm ta ad μ) 117 [(0, .ref (ad 0)), (5, .int x5)] [] := by
  unfold b_X9_isFair_117 at h
  refine rv_iconst (v := 0) dX9_isFair_117 (by decide) ?_
  exact vb_X9_isFair_118 hk85 h
theorem vB_X9_isFair_85 {l : Launch} {D : va_G} {ta : Nat → ClassId} {ad : Nat → Nat} {μ : Mem} {k85 : Int32 → Int32 → Option ((Int32) × Mem)} (hk85 : ∀ {x4 : Int32} {x5 : Int32} {r : (Int32) × Mem}, k85 x4 x5 = some r → rv_V l D (rv_T ta) RX9 cX9_isFair 6 (some .boolean) ("", []) (rv_rm 7 0 0) (rv_M D (rv_F (rv_vI r.1) (wm ta ad r.2)) 0 0) 0 0 (wm ta ad μ) 85 [(0, .ref (ad 0)), (4, .int x4), (5, .int x5)] []) {x4 : Int32} {x5 : Int32} {r : (Int32) × Mem} (h : B_X9_isFair_85 μ k85 x4 x5 = some r) : rv_V l D (rv_T ta) RX9 cX9_isFair 6 (some .boolean) ("", []) (rv_rm 7 0 0) (rv_M D (rv_F (rv_vI r.1) (wm ta ad r.2)) 0 0) 0 0 (wm ta ad μ) 85 [(0, .ref (ad 0)), (4, .int x4), (5, .int x5)] [] := by
  unfold B_X9_isFair_85 at h
  refine rv_iload dX9_isFair_85 2 rfl ?_
  refine rv_aload_n dX9_isFair_87 rfl 0 rfl ?_
  refine gf_X9_112 dX9_isFair_88 0 (wm_0 ta ad μ) rfl ?_
  refine rv_icmp_ge (tgt := 126) dX9_isFair_91 (by decide) (fun hc7 => ?_) (fun hc7 => ?_)
  · replace h := rv_ift hc7 h
    refine rv_iload dX9_isFair_126 1 rfl ?_
    obtain ⟨hi8, h⟩ := rv_ifn h
    obtain rfl := Option.some.inj h
    exact rv_zret rfl (rv_bzP hi8) dX9_isFair_128 (rv_le rfl) (rv_le rfl) ⟨rfl, rfl⟩
  · replace h := rv_iff hc7 h
    refine rv_iload dX9_isFair_94 1 rfl ?_
    refine rv_if_eq (tgt := 117) dX9_isFair_96 (by decide) (fun hc9 => ?_) (fun hc9 => ?_)
    · replace h := rv_ift hc9 h
      refine rv_sub [0, 2] rfl ?_
      exact vb_X9_isFair_117 hk85 h
    · replace h := rv_iff hc9 h
      refine rv_aload_n dX9_isFair_99 rfl 0 rfl ?_
      refine gf_X9_58 dX9_isFair_100 0 (wm_0 ta ad μ) rfl ?_
      refine rv_aload_n dX9_isFair_103 rfl 0 rfl ?_
      refine rv_iload dX9_isFair_104 2 rfl ?_
      obtain ⟨r10, hr10, h⟩ := rv_bind h
      refine rv_callV1 (rest := [.ref (ad 11)]) (ct_X9_placeOf hr10) wm_X9_159 wi_X9_placeOf wl_X9_placeOf wc_X9_placeOf wz_X9 rfl np_X9_placeOf dX9_isFair_106 rfl ⟨rv_le rfl, rv_le rfl⟩ ⟨rv_le rfl, rv_le rfl⟩ (rv_le rfl) 0 (wm_0 ta ad μ) cl_X9 ?_
      obtain ⟨hi11, h⟩ := rv_ifn h
      refine rv_zald dX9_isFair_109 1 rfl 11 (wm_11 ta ad μ) (rv_inP hi11) ?_
      refine rv_if_eq (tgt := 117) dX9_isFair_110 (by decide) (fun hc12 => ?_) (fun hc12 => ?_)
      · replace h := rv_ift hc12 h
        refine rv_sub [0, 2] rfl ?_
        exact vb_X9_isFair_117 hk85 h
      · replace h := rv_iff hc12 h
        refine rv_iconst (v := 1) dX9_isFair_113 (by decide) ?_
        refine rv_goto (tgt := 118) dX9_isFair_114 (by decide) ?_
        refine rv_sub [0, 2] rfl ?_
        exact vb_X9_isFair_118 hk85 h
theorem vh_X9_isFair_85 {l : Launch} {D : va_G} {ta : Nat → ClassId} {ad : Nat → Nat} {μ : Mem} {n : Nat} {x4 : Int32} {x5 : Int32} {r : (Int32) × Mem} (h : rv_loop (B_X9_isFair_85 μ) (fun _ _ => none) n x4 x5 = some r) : rv_V l D (rv_T ta) RX9 cX9_isFair 6 (some .boolean) ("", []) (rv_rm 7 0 0) (rv_M D (rv_F (rv_vI r.1) (wm ta ad r.2)) 0 0) 0 0 (wm ta ad μ) 85 [(0, .ref (ad 0)), (4, .int x4), (5, .int x5)] [] := by
  induction n generalizing x4 x5 r with
  | zero => cases h
  | succ n ih => exact vB_X9_isFair_85 (fun h9 => ih h9) h
theorem vB_X9_isFair_34 {l : Launch} {D : va_G} {ta : Nat → ClassId} {ad : Nat → Nat} {x1 : Int32} {x2 : Int32} {x3 : Int32} {k34 : Mem → Int32 → Option ((Int32) × Mem)} (hk34 : ∀ {μ : Mem} {x4 : Int32} {r : (Int32) × Mem}, k34 μ x4 = some r → rv_V l D (rv_T ta) RX9 cX9_isFair 6 (some .boolean) ("", []) (rv_rm 7 0 0) (rv_M D (rv_F (rv_vI r.1) (wm ta ad r.2)) 0 0) 0 0 (wm ta ad μ) 34 [(0, .ref (ad 0)), (1, .int x1), (2, .int x2), (3, .int x3), (4, .int x4)] []) {μ : Mem} {x4 : Int32} {r : (Int32) × Mem} (h : B_X9_isFair_34 x1 x2 x3 k34 μ x4 = some r) : rv_V l D (rv_T ta) RX9 cX9_isFair 6 (some .boolean) ("", []) (rv_rm 7 0 0) (rv_M D (rv_F (rv_vI r.1) (wm ta ad r.2)) 0 0) 0 0 (wm ta ad μ) 34 [(0, .ref (ad 0)), (1, .int x1), (2, .int x2), (3, .int x3), (4, .int x4)] [] := by
  unfold B_X9_isFair_34 at h
  refine rv_iload dX9_isFair_34 4 rfl ?_
  refine rv_aload_n dX9_isFair_36 rfl 0 rfl ?_
  refine gf_X9_112 dX9_isFair_37 0 (wm_0 ta ad μ) rfl ?_
  refine rv_icmp_ge (tgt := 61) dX9_isFair_40 (by decide) (fun hc3 => ?_) (fun hc3 => ?_)
  · replace h := rv_ift hc3 h
    refine rv_aload_n dX9_isFair_61 rfl 0 rfl ?_
    refine rv_iload_n dX9_isFair_62 rfl 1 rfl ?_
    refine rv_iload_n dX9_isFair_63 rfl 2 rfl ?_
    refine rv_iload_n dX9_isFair_64 rfl 3 rfl ?_
    obtain ⟨r4, hr4, h⟩ := rv_bind h
    refine rv_callV0 (rest := []) (ct_X9_exchanges hr4) wm_X9_162 wi_X9_exchanges wl_X9_exchanges wc_X9_exchanges wz_X9 rfl np_X9_exchanges dX9_isFair_65 rfl ⟨rv_le rfl, rv_le rfl⟩ ⟨rv_le rfl, rv_le rfl⟩ (rv_le rfl) 0 (wm_0 ta ad μ) cl_X9 ?_
    refine rv_aload_n dX9_isFair_68 rfl 0 rfl ?_
    obtain ⟨r5, hr5, h⟩ := rv_bind h
    refine rv_callV0 (rest := []) (ct_X9_tellsAll hr5) wm_X9_151 wi_X9_tellsAll wl_X9_tellsAll wc_X9_tellsAll wz_X9 rfl np_X9_tellsAll dX9_isFair_69 rfl ⟨rv_le rfl, rv_le rfl⟩ ⟨rv_le rfl, rv_le rfl⟩ (rv_le rfl) 0 (wm_0 ta ad r4.2) cl_X9 ?_
    refine rv_aload_n dX9_isFair_72 rfl 0 rfl ?_
    refine rv_iload_n dX9_isFair_73 rfl 1 rfl ?_
    refine rv_iload_n dX9_isFair_74 rfl 2 rfl ?_
    refine rv_iload_n dX9_isFair_75 rfl 3 rfl ?_
    obtain ⟨r6, hr6, h⟩ := rv_bind h
    refine rv_callV0 (rest := []) (ct_X9_exchanges hr6) wm_X9_162 wi_X9_exchanges wl_X9_exchanges wc_X9_exchanges wz_X9 rfl np_X9_exchanges dX9_isFair_76 rfl ⟨rv_le rfl, rv_le rfl⟩ ⟨rv_le rfl, rv_le rfl⟩ (rv_le rfl) 0 (wm_0 ta ad r5.2) cl_X9 ?_
    refine rv_iconst (v := 1) dX9_isFair_79 (by decide) ?_
    refine rv_istore (lv2 := [(4, .int 1), (0, .ref (ad 0)), (1, .int x1), (2, .int x2), (3, .int x3)]) dX9_isFair_80 (by decide) rfl ?_
    refine rv_iconst (v := 0) dX9_isFair_82 (by decide) ?_
    refine rv_istore (lv2 := [(5, .int 0), (4, .int 1), (0, .ref (ad 0)), (1, .int x1), (2, .int x2), (3, .int x3)]) dX9_isFair_83 (by decide) rfl ?_
    refine rv_sub [2, 1, 0] rfl ?_
    exact vh_X9_isFair_85 h
  · replace h := rv_iff hc3 h
    refine rv_aload_n dX9_isFair_43 rfl 0 rfl ?_
    refine gf_X9_58 dX9_isFair_44 0 (wm_0 ta ad μ) rfl ?_
    refine rv_aload_n dX9_isFair_47 rfl 0 rfl ?_
    refine rv_iload dX9_isFair_48 4 rfl ?_
    obtain ⟨r13, hr13, h⟩ := rv_bind h
    refine rv_callV1 (rest := [.ref (ad 11)]) (ct_X9_placeOf hr13) wm_X9_159 wi_X9_placeOf wl_X9_placeOf wc_X9_placeOf wz_X9 rfl np_X9_placeOf dX9_isFair_50 rfl ⟨rv_le rfl, rv_le rfl⟩ ⟨rv_le rfl, rv_le rfl⟩ (rv_le rfl) 0 (wm_0 ta ad μ) cl_X9 ?_
    refine rv_iconst (v := 1) dX9_isFair_53 (by decide) ?_
    obtain ⟨hi14, h⟩ := rv_ifn h
    refine rv_zast dX9_isFair_54 1 rfl 11 (wm_11 ta ad μ) (rv_inP hi14) (wm_s11 ta ad μ _ _) ?_
    refine rv_iinc (v := (x4 + 1)) (lv2 := [(4, .int (x4 + 1)), (0, .ref (ad 0)), (1, .int x1), (2, .int x2), (3, .int x3)]) dX9_isFair_55 4 rfl rfl (by decide) rfl ?_
    refine rv_goto (tgt := 34) dX9_isFair_58 (by decide) ?_
    refine rv_sub [1, 2, 3, 4, 0] rfl ?_
    exact hk34 h
theorem vh_X9_isFair_34 {l : Launch} {D : va_G} {ta : Nat → ClassId} {ad : Nat → Nat} {x1 : Int32} {x2 : Int32} {x3 : Int32} {n : Nat} {μ : Mem} {x4 : Int32} {r : (Int32) × Mem} (h : rv_loop (B_X9_isFair_34 x1 x2 x3) (fun _ _ => none) n μ x4 = some r) : rv_V l D (rv_T ta) RX9 cX9_isFair 6 (some .boolean) ("", []) (rv_rm 7 0 0) (rv_M D (rv_F (rv_vI r.1) (wm ta ad r.2)) 0 0) 0 0 (wm ta ad μ) 34 [(0, .ref (ad 0)), (1, .int x1), (2, .int x2), (3, .int x3), (4, .int x4)] [] := by
  induction n generalizing μ x4 r with
  | zero => cases h
  | succ n ih => exact vB_X9_isFair_34 (fun h9 => ih h9) h
theorem vB_X9_isFair_7 {l : Launch} {D : va_G} {ta : Nat → ClassId} {ad : Nat → Nat} {x1 : Int32} {x2 : Int32} {x3 : Int32} {k7 : Mem → Int32 → Option ((Int32) × Mem)} (hk7 : ∀ {μ : Mem} {x4 : Int32} {r : (Int32) × Mem}, k7 μ x4 = some r → rv_V l D (rv_T ta) RX9 cX9_isFair 6 (some .boolean) ("", []) (rv_rm 7 0 0) (rv_M D (rv_F (rv_vI r.1) (wm ta ad r.2)) 0 0) 0 0 (wm ta ad μ) 7 [(0, .ref (ad 0)), (1, .int x1), (2, .int x2), (3, .int x3), (4, .int x4)] []) {μ : Mem} {x4 : Int32} {r : (Int32) × Mem} (h : B_X9_isFair_7 x1 x2 x3 k7 μ x4 = some r) : rv_V l D (rv_T ta) RX9 cX9_isFair 6 (some .boolean) ("", []) (rv_rm 7 0 0) (rv_M D (rv_F (rv_vI r.1) (wm ta ad r.2)) 0 0) 0 0 (wm ta ad μ) 7 [(0, .ref (ad 0)), (1, .int x1), (2, .int x2), (3, .int x3), (4, .int x4)] [] := by
  unfold B_X9_isFair_7 at h
  refine rv_iload dX9_isFair_7 4 rfl ?_
  refine rv_aload_n dX9_isFair_9 rfl 0 rfl ?_
  refine gf_X9_58 dX9_isFair_10 0 (wm_0 ta ad μ) rfl ?_
  refine rv_alen (v := 216) dX9_isFair_13 1 rfl 11 (wm_11 ta ad μ) rfl ?_
  refine rv_icmp_ge (tgt := 31) dX9_isFair_14 (by decide) (fun hc2 => ?_) (fun hc2 => ?_)
  · replace h := rv_ift hc2 h
    refine rv_iconst (v := 0) dX9_isFair_31 (by decide) ?_
    refine rv_istore (lv2 := [(4, .int 0), (0, .ref (ad 0)), (1, .int x1), (2, .int x2), (3, .int x3)]) dX9_isFair_32 (by decide) rfl ?_
    refine rv_sub [1, 2, 3, 4, 0] rfl ?_
    exact vh_X9_isFair_34 h
  · replace h := rv_iff hc2 h
    refine rv_aload_n dX9_isFair_17 rfl 0 rfl ?_
    refine gf_X9_58 dX9_isFair_18 0 (wm_0 ta ad μ) rfl ?_
    refine rv_iload dX9_isFair_21 4 rfl ?_
    refine rv_iconst (v := 0) dX9_isFair_23 (by decide) ?_
    obtain ⟨hi15, h⟩ := rv_ifn h
    refine rv_zast dX9_isFair_24 1 rfl 11 (wm_11 ta ad μ) (rv_inP hi15) (wm_s11 ta ad μ _ _) ?_
    refine rv_iinc (v := (x4 + 1)) (lv2 := [(4, .int (x4 + 1)), (0, .ref (ad 0)), (1, .int x1), (2, .int x2), (3, .int x3)]) dX9_isFair_25 4 rfl rfl (by decide) rfl ?_
    refine rv_goto (tgt := 7) dX9_isFair_28 (by decide) ?_
    refine rv_sub [1, 2, 3, 4, 0] rfl ?_
    exact hk7 h
theorem vh_X9_isFair_7 {l : Launch} {D : va_G} {ta : Nat → ClassId} {ad : Nat → Nat} {x1 : Int32} {x2 : Int32} {x3 : Int32} {n : Nat} {μ : Mem} {x4 : Int32} {r : (Int32) × Mem} (h : rv_loop (B_X9_isFair_7 x1 x2 x3) (fun _ _ => none) n μ x4 = some r) : rv_V l D (rv_T ta) RX9 cX9_isFair 6 (some .boolean) ("", []) (rv_rm 7 0 0) (rv_M D (rv_F (rv_vI r.1) (wm ta ad r.2)) 0 0) 0 0 (wm ta ad μ) 7 [(0, .ref (ad 0)), (1, .int x1), (2, .int x2), (3, .int x3), (4, .int x4)] [] := by
  induction n generalizing μ x4 r with
  | zero => cases h
  | succ n ih => exact vB_X9_isFair_7 (fun h9 => ih h9) h
theorem ct_X9_isFair {l : Launch} {D : va_G} {ta : Nat → ClassId} {ad : Nat → Nat} {μ : Mem} {x1 : Int32} {x2 : Int32} {x3 : Int32} {r : (Int32) × Mem} (h : f_X9_isFair μ x1 x2 x3 = some r) : rv_C l D (rv_T ta) yX9_isFair cX9_isFair 6 (some .boolean) 7 0 0 [.ref (ad 0), .int x1, .int x2, .int x3] (wm ta ad μ) (rv_F (rv_vI r.1) (wm ta ad r.2)) := by
  refine rv_Cof2 (own := RX9) (lv := [(0, .ref (ad 0)), (1, .int x1), (2, .int x2), (3, .int x3)]) rfl (by decide) (rv_le rfl) rfl ?_
  unfold f_X9_isFair at h
  refine rv_aload_n dX9_isFair_0 rfl 0 rfl ?_
  obtain ⟨r1, hr1, h⟩ := rv_bind h
  refine rv_callV0 (rest := []) (ct_X9_tellsAll hr1) wm_X9_151 wi_X9_tellsAll wl_X9_tellsAll wc_X9_tellsAll wz_X9 rfl np_X9_tellsAll dX9_isFair_1 rfl ⟨rv_le rfl, rv_le rfl⟩ ⟨rv_le rfl, rv_le rfl⟩ (rv_le rfl) 0 (wm_0 ta ad μ) cl_X9 ?_
  refine rv_iconst (v := 0) dX9_isFair_4 (by decide) ?_
  refine rv_istore (lv2 := [(4, .int 0), (0, .ref (ad 0)), (1, .int x1), (2, .int x2), (3, .int x3)]) dX9_isFair_5 (by decide) rfl ?_
  refine rv_sub [1, 2, 3, 4, 0] rfl ?_
  exact vh_X9_isFair_7 h
theorem vb_X9_swap_60 {l : Launch} {D : va_G} {ta : Nat → ClassId} {ad : Nat → Nat} {μ : Mem} {x1 : Int32} {x2 : Int32} {x3 : Int32} {s0 : Int32} {r : (Int32) × Mem} (h : b_X9_swap_60 μ x1 x2 x3 s0 = some r) : rv_V l D (rv_T ta) RX9 cX9_swap 5 (some .int) ("", []) (rv_rm 8 0 0) (rv_M D (rv_F (rv_vI r.1) (wm ta ad r.2)) 0 0) 0 0 (wm ta ad μ) 60 [(0, .ref (ad 0)), (1, .int x1), (2, .int x2), (3, .int x3)] [.int s0] := by
  unfold b_X9_swap_60 at h
  refine rv_istore (lv2 := [(4, .int s0), (0, .ref (ad 0)), (1, .int x1), (2, .int x2), (3, .int x3)]) dX9_swap_60 (by decide) rfl ?_
  refine rv_aload_n dX9_swap_62 rfl 1 rfl ?_
  refine rv_iload dX9_swap_63 0 rfl ?_
  obtain ⟨r4, hr4, h⟩ := rv_bind h
  refine rv_callV1 (rest := []) (ct_X9_goesOn hr4) wm_X9_129 wi_X9_goesOn wl_X9_goesOn wc_X9_goesOn wz_X9 rfl np_X9_goesOn dX9_swap_65 rfl ⟨rv_le rfl, rv_le rfl⟩ ⟨rv_le rfl, rv_le rfl⟩ (rv_le rfl) 0 (wm_0 ta ad μ) cl_X9 ?_
  refine rv_if_ne (tgt := 73) dX9_swap_68 (by decide) (fun hc5 => ?_) (fun hc5 => ?_)
  · replace h := rv_iff hc5 h
    refine rv_aload_n dX9_swap_73 rfl 1 rfl ?_
    refine rv_iload_n dX9_swap_74 rfl 2 rfl ?_
    refine rv_iload_n dX9_swap_75 rfl 3 rfl ?_
    refine rv_iload_n dX9_swap_76 rfl 4 rfl ?_
    obtain ⟨r6, hr6, h⟩ := rv_bind h
    refine rv_callV0 (rest := []) (ct_X9_exchanges hr6) wm_X9_162 wi_X9_exchanges wl_X9_exchanges wc_X9_exchanges wz_X9 rfl np_X9_exchanges dX9_swap_77 rfl ⟨rv_le rfl, rv_le rfl⟩ ⟨rv_le rfl, rv_le rfl⟩ (rv_le rfl) 0 (wm_0 ta ad r4.2) cl_X9 ?_
    refine rv_aload_n dX9_swap_80 rfl 1 rfl ?_
    obtain ⟨r7, hr7, h⟩ := rv_bind h
    refine rv_callV0 (rest := []) (ct_X9_tellsAll hr7) wm_X9_151 wi_X9_tellsAll wl_X9_tellsAll wc_X9_tellsAll wz_X9 rfl np_X9_tellsAll dX9_swap_81 rfl ⟨rv_le rfl, rv_le rfl⟩ ⟨rv_le rfl, rv_le rfl⟩ (rv_le rfl) 0 (wm_0 ta ad r6.2) cl_X9 ?_
    refine rv_aload_n dX9_swap_84 rfl 1 rfl ?_
    refine gf_X9_112 dX9_swap_85 0 (wm_0 ta ad r7.2) rfl ?_
    obtain rfl := Option.some.inj h
    exact rv_iret rfl dX9_swap_88 (rv_le rfl) (rv_le rfl) ⟨rfl, rfl⟩
  · replace h := rv_ift hc5 h
    refine rv_iconst (v := 0) dX9_swap_71 (by decide) ?_
    obtain rfl := Option.some.inj h
    exact rv_iret rfl dX9_swap_72 (rv_le rfl) (rv_le rfl) ⟨rfl, rfl⟩
theorem vb_X9_swap_58 {l : Launch} {D : va_G} {ta : Nat → ClassId} {ad : Nat → Nat} {μ : Mem} {x1 : Int32} {x2 : Int32} {x3 : Int32} {x4 : Int32} {r : (Int32) × Mem} (h : b_X9_swap_58 μ x1 x2 x3 x4 = some r) : rv_V l D (rv_T ta) RX9 cX9_swap 5 (some .int) ("", []) (rv_rm 8 0 0) (rv_M D (rv_F (rv_vI r.1) (wm ta ad r.2)) 0 0) 0 0 (wm ta ad μ) 58 [(0, .ref (ad 0)), (1, .int x1), (2, .int x2), (3, .int x3), (4, .int x4)] [] := by
  unfold b_X9_swap_58 at h
  refine rv_iload dX9_swap_58 4 rfl ?_
  refine rv_sub [0, 1, 2, 3] rfl ?_
  exact vb_X9_swap_60 h
theorem vb_X9_swap_37 {l : Launch} {D : va_G} {ta : Nat → ClassId} {ad : Nat → Nat} {μ : Mem} {x1 : Int32} {x2 : Int32} {x3 : Int32} {s0 : Int32} {r : (Int32) × Mem} (h : b_X9_swap_37 μ x1 x2 x3 s0 = some r) : rv_V l D (rv_T ta) RX9 cX9_swap 5 (some .int) ("", []) (rv_rm 8 0 0) (rv_M D (rv_F (rv_vI r.1) (wm ta ad r.2)) 0 0) 0 0 (wm ta ad μ) 37 [(0, .ref (ad 0)), (1, .int x1), (2, .int x2), (3, .int x3)] [.int s0] := by
  unfold b_X9_swap_37 at h
  refine rv_istore (lv2 := [(4, .int s0), (0, .ref (ad 0)), (1, .int x1), (2, .int x2), (3, .int x3)]) dX9_swap_37 (by decide) rfl ?_
  refine rv_iload dX9_swap_39 0 rfl ?_
  refine rv_if_ne (tgt := 58) dX9_swap_41 (by decide) (fun hc3 => ?_) (fun hc3 => ?_)
  · replace h := rv_iff hc3 h
    refine rv_sub [1, 2, 3, 4, 0] rfl ?_
    exact vb_X9_swap_58 h
  · replace h := rv_ift hc3 h
    refine rv_aload_n dX9_swap_44 rfl 1 rfl ?_
    refine rv_iload_n dX9_swap_45 rfl 2 rfl ?_
    refine rv_iload_n dX9_swap_46 rfl 3 rfl ?_
    refine rv_iload_n dX9_swap_47 rfl 4 rfl ?_
    obtain ⟨r8, hr8, h⟩ := rv_bind h
    refine rv_callV1 (rest := []) (ct_X9_isFair hr8) wm_X9_166 wi_X9_isFair wl_X9_isFair wc_X9_isFair wz_X9 rfl np_X9_isFair dX9_swap_48 rfl ⟨rv_le rfl, rv_le rfl⟩ ⟨rv_le rfl, rv_le rfl⟩ (rv_le rfl) 0 (wm_0 ta ad μ) cl_X9 ?_
    refine rv_if_ne (tgt := 58) dX9_swap_51 (by decide) (fun hc9 => ?_) (fun hc9 => ?_)
    · replace h := rv_iff hc9 h
      refine rv_sub [1, 2, 3, 4, 0] rfl ?_
      exact vb_X9_swap_58 h
    · replace h := rv_ift hc9 h
      refine rv_iconst (v := 3) dX9_swap_54 (by decide) ?_
      refine rv_goto (tgt := 60) dX9_swap_55 (by decide) ?_
      refine rv_sub [1, 2, 3, 4] rfl ?_
      exact vb_X9_swap_60 h
theorem ct_X9_swap {l : Launch} {D : va_G} {ta : Nat → ClassId} {ad : Nat → Nat} {μ : Mem} {x1 : Int32} {x2 : Int32} {x3 : Int32} {r : (Int32) × Mem} (h : f_X9_swap μ x1 x2 x3 = some r) : rv_C l D (rv_T ta) yX9_swap cX9_swap 5 (some .int) 8 0 0 [.ref (ad 0), .int x1, .int x2, .int x3] (wm ta ad μ) (rv_F (rv_vI r.1) (wm ta ad r.2)) := by
  refine rv_Cof2 (own := RX9) (lv := [(0, .ref (ad 0)), (1, .int x1), (2, .int x2), (3, .int x3)]) rfl (by decide) (rv_le rfl) rfl ?_
  unfold f_X9_swap at h
  refine rv_aload_n dX9_swap_0 rfl 0 rfl ?_
  refine rv_iload_n dX9_swap_1 rfl 1 rfl ?_
  obtain ⟨r1, hr1, h⟩ := rv_bind h
  refine rv_callV1 (rest := []) (ct_X9_isPerson hr1) wm_X9_135 wi_X9_isPerson wl_X9_isPerson wc_X9_isPerson wz_X9 rfl np_X9_isPerson dX9_swap_2 rfl ⟨rv_le rfl, rv_le rfl⟩ ⟨rv_le rfl, rv_le rfl⟩ (rv_le rfl) 0 (wm_0 ta ad μ) cl_X9 ?_
  refine rv_if_eq (tgt := 23) dX9_swap_5 (by decide) (fun hc2 => ?_) (fun hc2 => ?_)
  · replace h := rv_ift hc2 h
    refine rv_iconst (v := 1) dX9_swap_23 (by decide) ?_
    refine rv_goto (tgt := 37) dX9_swap_24 (by decide) ?_
    exact vb_X9_swap_37 h
  · replace h := rv_iff hc2 h
    refine rv_aload_n dX9_swap_8 rfl 0 rfl ?_
    refine rv_iload_n dX9_swap_9 rfl 2 rfl ?_
    obtain ⟨r10, hr10, h⟩ := rv_bind h
    refine rv_callV1 (rest := []) (ct_X9_isPerson hr10) wm_X9_135 wi_X9_isPerson wl_X9_isPerson wc_X9_isPerson wz_X9 rfl np_X9_isPerson dX9_swap_10 rfl ⟨rv_le rfl, rv_le rfl⟩ ⟨rv_le rfl, rv_le rfl⟩ (rv_le rfl) 0 (wm_0 ta ad μ) cl_X9 ?_
    refine rv_if_eq (tgt := 23) dX9_swap_13 (by decide) (fun hc11 => ?_) (fun hc11 => ?_)
    · replace h := rv_ift hc11 h
      refine rv_iconst (v := 1) dX9_swap_23 (by decide) ?_
      refine rv_goto (tgt := 37) dX9_swap_24 (by decide) ?_
      exact vb_X9_swap_37 h
    · replace h := rv_iff hc11 h
      refine rv_iload_n dX9_swap_16 rfl 3 rfl ?_
      obtain ⟨r12, hr12, h⟩ := rv_bind h
      refine rv_callS1 (rest := []) (ct_X9_isDay hr12) wm_X9_138 ws_X9_isDay wc_X9_isDay wz_X9 np_X9_isDay dX9_swap_17 rfl ⟨rv_le rfl, rv_le rfl⟩ ⟨rv_le rfl, rv_le rfl⟩ (rv_le rfl) ?_
      refine rv_if_ne (tgt := 27) dX9_swap_20 (by decide) (fun hc13 => ?_) (fun hc13 => ?_)
      · replace h := rv_iff hc13 h
        refine rv_iload_n dX9_swap_27 rfl 1 rfl ?_
        refine rv_iload_n dX9_swap_28 rfl 2 rfl ?_
        refine rv_icmp_ne (tgt := 36) dX9_swap_29 (by decide) (fun hc14 => ?_) (fun hc14 => ?_)
        · replace h := rv_iff hc14 h
          refine rv_iconst (v := 0) dX9_swap_36 (by decide) ?_
          exact vb_X9_swap_37 h
        · replace h := rv_ift hc14 h
          refine rv_iconst (v := 2) dX9_swap_32 (by decide) ?_
          refine rv_goto (tgt := 37) dX9_swap_33 (by decide) ?_
          exact vb_X9_swap_37 h
      · replace h := rv_ift hc13 h
        refine rv_iconst (v := 1) dX9_swap_23 (by decide) ?_
        refine rv_goto (tgt := 37) dX9_swap_24 (by decide) ?_
        exact vb_X9_swap_37 h
theorem vB_X9_partnerOf_12 {l : Launch} {D : va_G} {ta : Nat → ClassId} {ad : Nat → Nat} {x1 : Int32} {x2 : Int32} {x3 : Int32} {k12 : Mem → Int32 → Option ((Int32) × Mem)} (hk12 : ∀ {μ : Mem} {x4 : Int32} {r : (Int32) × Mem}, k12 μ x4 = some r → rv_V l D (rv_T ta) RX9 cX9_partnerOf 5 (some .int) ("", []) (rv_rm 8 0 0) (rv_M D (rv_F (rv_vI r.1) (wm ta ad r.2)) 0 0) 0 0 (wm ta ad μ) 12 [(0, .ref (ad 0)), (1, .int x1), (2, .int x2), (3, .int x3), (4, .int x4)] []) {μ : Mem} {x4 : Int32} {r : (Int32) × Mem} (h : B_X9_partnerOf_12 x1 x2 x3 k12 μ x4 = some r) : rv_V l D (rv_T ta) RX9 cX9_partnerOf 5 (some .int) ("", []) (rv_rm 8 0 0) (rv_M D (rv_F (rv_vI r.1) (wm ta ad r.2)) 0 0) 0 0 (wm ta ad μ) 12 [(0, .ref (ad 0)), (1, .int x1), (2, .int x2), (3, .int x3), (4, .int x4)] [] := by
  unfold B_X9_partnerOf_12 at h
  refine rv_iload dX9_partnerOf_12 4 rfl ?_
  refine rv_aload_n dX9_partnerOf_14 rfl 0 rfl ?_
  refine gf_X9_76 dX9_partnerOf_15 0 (wm_0 ta ad μ) rfl ?_
  refine rv_icmp_ge (tgt := 55) dX9_partnerOf_18 (by decide) (fun hc2 => ?_) (fun hc2 => ?_)
  · replace h := rv_ift hc2 h
    refine rv_iconst (v := (-1)) dX9_partnerOf_55 (by decide) ?_
    obtain rfl := Option.some.inj h
    exact rv_iret rfl dX9_partnerOf_56 (rv_le rfl) (rv_le rfl) ⟨rfl, rfl⟩
  · replace h := rv_iff hc2 h
    refine rv_iload dX9_partnerOf_21 4 rfl ?_
    refine rv_iload_n dX9_partnerOf_23 rfl 1 rfl ?_
    refine rv_icmp_eq (tgt := 49) dX9_partnerOf_24 (by decide) (fun hc3 => ?_) (fun hc3 => ?_)
    · replace h := rv_ift hc3 h
      refine rv_iinc (v := (x4 + 1)) (lv2 := [(4, .int (x4 + 1)), (0, .ref (ad 0)), (1, .int x1), (2, .int x2), (3, .int x3)]) dX9_partnerOf_49 4 rfl rfl (by decide) rfl ?_
      refine rv_goto (tgt := 12) dX9_partnerOf_52 (by decide) ?_
      refine rv_sub [1, 2, 3, 4, 0] rfl ?_
      exact hk12 h
    · replace h := rv_iff hc3 h
      refine rv_aload_n dX9_partnerOf_27 rfl 0 rfl ?_
      refine rv_iload_n dX9_partnerOf_28 rfl 1 rfl ?_
      refine rv_iload dX9_partnerOf_29 4 rfl ?_
      refine rv_iload_n dX9_partnerOf_31 rfl 2 rfl ?_
      obtain ⟨r4, hr4, h⟩ := rv_bind h
      refine rv_callV1 (rest := []) (ct_X9_isFair hr4) wm_X9_166 wi_X9_isFair wl_X9_isFair wc_X9_isFair wz_X9 rfl np_X9_isFair dX9_partnerOf_32 rfl ⟨rv_le rfl, rv_le rfl⟩ ⟨rv_le rfl, rv_le rfl⟩ (rv_le rfl) 0 (wm_0 ta ad μ) cl_X9 ?_
      refine rv_if_eq (tgt := 49) dX9_partnerOf_35 (by decide) (fun hc5 => ?_) (fun hc5 => ?_)
      · replace h := rv_ift hc5 h
        refine rv_iinc (v := (x4 + 1)) (lv2 := [(4, .int (x4 + 1)), (0, .ref (ad 0)), (1, .int x1), (2, .int x2), (3, .int x3)]) dX9_partnerOf_49 4 rfl rfl (by decide) rfl ?_
        refine rv_goto (tgt := 12) dX9_partnerOf_52 (by decide) ?_
        refine rv_sub [1, 2, 3, 4, 0] rfl ?_
        exact hk12 h
      · replace h := rv_iff hc5 h
        refine rv_aload_n dX9_partnerOf_38 rfl 0 rfl ?_
        refine gf_X9_112 dX9_partnerOf_39 0 (wm_0 ta ad r4.2) rfl ?_
        refine rv_iload_n dX9_partnerOf_42 rfl 3 rfl ?_
        refine rv_icmp_ge (tgt := 49) dX9_partnerOf_43 (by decide) (fun hc6 => ?_) (fun hc6 => ?_)
        · replace h := rv_ift hc6 h
          refine rv_iinc (v := (x4 + 1)) (lv2 := [(4, .int (x4 + 1)), (0, .ref (ad 0)), (1, .int x1), (2, .int x2), (3, .int x3)]) dX9_partnerOf_49 4 rfl rfl (by decide) rfl ?_
          refine rv_goto (tgt := 12) dX9_partnerOf_52 (by decide) ?_
          refine rv_sub [1, 2, 3, 4, 0] rfl ?_
          exact hk12 h
        · replace h := rv_iff hc6 h
          refine rv_iload dX9_partnerOf_46 4 rfl ?_
          obtain rfl := Option.some.inj h
          exact rv_iret rfl dX9_partnerOf_48 (rv_le rfl) (rv_le rfl) ⟨rfl, rfl⟩
theorem vh_X9_partnerOf_12 {l : Launch} {D : va_G} {ta : Nat → ClassId} {ad : Nat → Nat} {x1 : Int32} {x2 : Int32} {x3 : Int32} {n : Nat} {μ : Mem} {x4 : Int32} {r : (Int32) × Mem} (h : rv_loop (B_X9_partnerOf_12 x1 x2 x3) (fun _ _ => none) n μ x4 = some r) : rv_V l D (rv_T ta) RX9 cX9_partnerOf 5 (some .int) ("", []) (rv_rm 8 0 0) (rv_M D (rv_F (rv_vI r.1) (wm ta ad r.2)) 0 0) 0 0 (wm ta ad μ) 12 [(0, .ref (ad 0)), (1, .int x1), (2, .int x2), (3, .int x3), (4, .int x4)] [] := by
  induction n generalizing μ x4 r with
  | zero => cases h
  | succ n ih => exact vB_X9_partnerOf_12 (fun h9 => ih h9) h
theorem ct_X9_partnerOf {l : Launch} {D : va_G} {ta : Nat → ClassId} {ad : Nat → Nat} {μ : Mem} {x1 : Int32} {x2 : Int32} {r : (Int32) × Mem} (h : f_X9_partnerOf μ x1 x2 = some r) : rv_C l D (rv_T ta) yX9_partnerOf cX9_partnerOf 5 (some .int) 8 0 0 [.ref (ad 0), .int x1, .int x2] (wm ta ad μ) (rv_F (rv_vI r.1) (wm ta ad r.2)) := by
  refine rv_Cof2 (own := RX9) (lv := [(0, .ref (ad 0)), (1, .int x1), (2, .int x2)]) rfl (by decide) (rv_le rfl) rfl ?_
  unfold f_X9_partnerOf at h
  refine rv_aload_n dX9_partnerOf_0 rfl 0 rfl ?_
  obtain ⟨r1, hr1, h⟩ := rv_bind h
  refine rv_callV0 (rest := []) (ct_X9_tellsAll hr1) wm_X9_151 wi_X9_tellsAll wl_X9_tellsAll wc_X9_tellsAll wz_X9 rfl np_X9_tellsAll dX9_partnerOf_1 rfl ⟨rv_le rfl, rv_le rfl⟩ ⟨rv_le rfl, rv_le rfl⟩ (rv_le rfl) 0 (wm_0 ta ad μ) cl_X9 ?_
  refine rv_aload_n dX9_partnerOf_4 rfl 0 rfl ?_
  refine gf_X9_112 dX9_partnerOf_5 0 (wm_0 ta ad r1.2) rfl ?_
  refine rv_istore_n (lv2 := [(3, .int (r1.2.1 0 14)), (0, .ref (ad 0)), (1, .int x1), (2, .int x2)]) dX9_partnerOf_8 rfl (by decide) rfl ?_
  refine rv_iconst (v := 0) dX9_partnerOf_9 (by decide) ?_
  refine rv_istore (lv2 := [(4, .int 0), (3, .int (r1.2.1 0 14)), (0, .ref (ad 0)), (1, .int x1), (2, .int x2)]) dX9_partnerOf_10 (by decide) rfl ?_
  refine rv_sub [2, 3, 4, 1, 0] rfl ?_
  exact vh_X9_partnerOf_12 h
theorem vb_X9_partner_53 {l : Launch} {D : va_G} {ta : Nat → ClassId} {ad : Nat → Nat} {μ : Mem} {x4 : Int32} {s1 : Int32} {r : (Int32) × Mem} (h : b_X9_partner_53 μ x4 s1 = some r) : rv_V l D (rv_T ta) RX9 cX9_partner 5 (some .int) ("", []) (rv_rm 9 0 0) (rv_M D (rv_F (rv_vI r.1) (wm ta ad r.2)) 0 0) 0 0 (wm ta ad μ) 53 [(4, .int x4)] [.int s1, .ref (ad 0)] := by
  unfold b_X9_partner_53 at h
  obtain ⟨r5, hr5, h⟩ := rv_bind h
  refine rv_callV1 (rest := []) (ct_X9_goesOn hr5) wm_X9_129 wi_X9_goesOn wl_X9_goesOn wc_X9_goesOn wz_X9 rfl np_X9_goesOn dX9_partner_53 rfl ⟨rv_le rfl, rv_le rfl⟩ ⟨rv_le rfl, rv_le rfl⟩ (rv_le rfl) 0 (wm_0 ta ad μ) cl_X9 ?_
  refine rv_if_eq (tgt := 64) dX9_partner_56 (by decide) (fun hc6 => ?_) (fun hc6 => ?_)
  · replace h := rv_ift hc6 h
    refine rv_iconst (v := 0) dX9_partner_64 (by decide) ?_
    obtain rfl := Option.some.inj h
    exact rv_iret rfl dX9_partner_65 (rv_le rfl) (rv_le rfl) ⟨rfl, rfl⟩
  · replace h := rv_iff hc6 h
    refine rv_iload dX9_partner_59 0 rfl ?_
    refine rv_goto (tgt := 65) dX9_partner_61 (by decide) ?_
    obtain rfl := Option.some.inj h
    exact rv_iret rfl dX9_partner_65 (rv_le rfl) (rv_le rfl) ⟨rfl, rfl⟩
theorem vb_X9_partner_52 {l : Launch} {D : va_G} {ta : Nat → ClassId} {ad : Nat → Nat} {μ : Mem} {x3 : Int32} {x4 : Int32} {r : (Int32) × Mem} (h : b_X9_partner_52 μ x3 x4 = some r) : rv_V l D (rv_T ta) RX9 cX9_partner 5 (some .int) ("", []) (rv_rm 9 0 0) (rv_M D (rv_F (rv_vI r.1) (wm ta ad r.2)) 0 0) 0 0 (wm ta ad μ) 52 [(3, .int x3), (4, .int x4)] [.ref (ad 0)] := by
  unfold b_X9_partner_52 at h
  refine rv_iload_n dX9_partner_52 rfl 0 rfl ?_
  refine rv_sub [1] rfl ?_
  exact vb_X9_partner_53 h
theorem vb_X9_partner_35 {l : Launch} {D : va_G} {ta : Nat → ClassId} {ad : Nat → Nat} {μ : Mem} {x3 : Int32} {s0 : Int32} {r : (Int32) × Mem} (h : b_X9_partner_35 μ x3 s0 = some r) : rv_V l D (rv_T ta) RX9 cX9_partner 5 (some .int) ("", []) (rv_rm 9 0 0) (rv_M D (rv_F (rv_vI r.1) (wm ta ad r.2)) 0 0) 0 0 (wm ta ad μ) 35 [(0, .ref (ad 0)), (3, .int x3)] [.int s0] := by
  unfold b_X9_partner_35 at h
  refine rv_istore (lv2 := [(4, .int s0), (0, .ref (ad 0)), (3, .int x3)]) dX9_partner_35 (by decide) rfl ?_
  refine rv_aload_n dX9_partner_37 rfl 1 rfl ?_
  refine rv_iload_n dX9_partner_38 rfl 2 rfl ?_
  refine rv_if_ne (tgt := 52) dX9_partner_39 (by decide) (fun hc4 => ?_) (fun hc4 => ?_)
  · replace h := rv_iff hc4 h
    refine rv_sub [2, 0] rfl ?_
    exact vb_X9_partner_52 h
  · replace h := rv_ift hc4 h
    refine rv_iload dX9_partner_42 0 rfl ?_
    refine rv_iconst (v := (-1)) dX9_partner_44 (by decide) ?_
    refine rv_icmp_ne (tgt := 52) dX9_partner_45 (by decide) (fun hc7 => ?_) (fun hc7 => ?_)
    · replace h := rv_iff hc7 h
      refine rv_sub [2, 0] rfl ?_
      exact vb_X9_partner_52 h
    · replace h := rv_ift hc7 h
      refine rv_iconst (v := 2) dX9_partner_48 (by decide) ?_
      refine rv_goto (tgt := 53) dX9_partner_49 (by decide) ?_
      refine rv_sub [0] rfl ?_
      exact vb_X9_partner_53 h
theorem vb_X9_partner_20 {l : Launch} {D : va_G} {ta : Nat → ClassId} {ad : Nat → Nat} {μ : Mem} {x1 : Int32} {x2 : Int32} {s0 : Int32} {r : (Int32) × Mem} (h : b_X9_partner_20 μ x1 x2 s0 = some r) : rv_V l D (rv_T ta) RX9 cX9_partner 5 (some .int) ("", []) (rv_rm 9 0 0) (rv_M D (rv_F (rv_vI r.1) (wm ta ad r.2)) 0 0) 0 0 (wm ta ad μ) 20 [(0, .ref (ad 0)), (1, .int x1), (2, .int x2)] [.int s0] := by
  unfold b_X9_partner_20 at h
  refine rv_istore_n (lv2 := [(3, .int s0), (0, .ref (ad 0)), (1, .int x1), (2, .int x2)]) dX9_partner_20 rfl (by decide) rfl ?_
  refine rv_iload_n dX9_partner_21 rfl 0 rfl ?_
  refine rv_if_ne (tgt := 34) dX9_partner_22 (by decide) (fun hc3 => ?_) (fun hc3 => ?_)
  · replace h := rv_iff hc3 h
    refine rv_iconst (v := (-1)) dX9_partner_34 (by decide) ?_
    refine rv_sub [1, 0] rfl ?_
    exact vb_X9_partner_35 h
  · replace h := rv_ift hc3 h
    refine rv_aload_n dX9_partner_25 rfl 1 rfl ?_
    refine rv_iload_n dX9_partner_26 rfl 2 rfl ?_
    refine rv_iload_n dX9_partner_27 rfl 3 rfl ?_
    obtain ⟨r8, hr8, h⟩ := rv_bind h
    refine rv_callV1 (rest := []) (ct_X9_partnerOf hr8) wm_X9_169 wi_X9_partnerOf wl_X9_partnerOf wc_X9_partnerOf wz_X9 rfl np_X9_partnerOf dX9_partner_28 rfl ⟨rv_le rfl, rv_le rfl⟩ ⟨rv_le rfl, rv_le rfl⟩ (rv_le rfl) 0 (wm_0 ta ad μ) cl_X9 ?_
    refine rv_goto (tgt := 35) dX9_partner_31 (by decide) ?_
    refine rv_sub [1, 0] rfl ?_
    exact vb_X9_partner_35 h
theorem ct_X9_partner {l : Launch} {D : va_G} {ta : Nat → ClassId} {ad : Nat → Nat} {μ : Mem} {x1 : Int32} {x2 : Int32} {r : (Int32) × Mem} (h : f_X9_partner μ x1 x2 = some r) : rv_C l D (rv_T ta) yX9_partner cX9_partner 5 (some .int) 9 0 0 [.ref (ad 0), .int x1, .int x2] (wm ta ad μ) (rv_F (rv_vI r.1) (wm ta ad r.2)) := by
  refine rv_Cof2 (own := RX9) (lv := [(0, .ref (ad 0)), (1, .int x1), (2, .int x2)]) rfl (by decide) (rv_le rfl) rfl ?_
  unfold f_X9_partner at h
  refine rv_aload_n dX9_partner_0 rfl 0 rfl ?_
  refine rv_iload_n dX9_partner_1 rfl 1 rfl ?_
  obtain ⟨r1, hr1, h⟩ := rv_bind h
  refine rv_callV1 (rest := []) (ct_X9_isPerson hr1) wm_X9_135 wi_X9_isPerson wl_X9_isPerson wc_X9_isPerson wz_X9 rfl np_X9_isPerson dX9_partner_2 rfl ⟨rv_le rfl, rv_le rfl⟩ ⟨rv_le rfl, rv_le rfl⟩ (rv_le rfl) 0 (wm_0 ta ad μ) cl_X9 ?_
  refine rv_if_eq (tgt := 15) dX9_partner_5 (by decide) (fun hc2 => ?_) (fun hc2 => ?_)
  · replace h := rv_ift hc2 h
    refine rv_iconst (v := 1) dX9_partner_15 (by decide) ?_
    refine rv_goto (tgt := 20) dX9_partner_16 (by decide) ?_
    exact vb_X9_partner_20 h
  · replace h := rv_iff hc2 h
    refine rv_iload_n dX9_partner_8 rfl 2 rfl ?_
    obtain ⟨r9, hr9, h⟩ := rv_bind h
    refine rv_callS1 (rest := []) (ct_X9_isDay hr9) wm_X9_138 ws_X9_isDay wc_X9_isDay wz_X9 np_X9_isDay dX9_partner_9 rfl ⟨rv_le rfl, rv_le rfl⟩ ⟨rv_le rfl, rv_le rfl⟩ (rv_le rfl) ?_
    refine rv_if_ne (tgt := 19) dX9_partner_12 (by decide) (fun hc10 => ?_) (fun hc10 => ?_)
    · replace h := rv_iff hc10 h
      refine rv_iconst (v := 0) dX9_partner_19 (by decide) ?_
      exact vb_X9_partner_20 h
    · replace h := rv_ift hc10 h
      refine rv_iconst (v := 1) dX9_partner_15 (by decide) ?_
      refine rv_goto (tgt := 20) dX9_partner_16 (by decide) ?_
      exact vb_X9_partner_20 h
theorem vB_X9_mends_L0_37 {l : Launch} {D : va_G} {ta : Nat → ClassId} {ad : Nat → Nat} {x1 : Int32} {x2 : Int32} {x4 : Int32} {x5 : Int32} {k13 : Mem → Int32 → Option ((Int32) × Mem)} (hk13 : ∀ {μ : Mem} {x4 : Int32} {r : (Int32) × Mem}, k13 μ x4 = some r → rv_V l D (rv_T ta) RX9 cX9_mends 8 (some .boolean) ("", []) (rv_rm 7 0 0) (rv_M D (rv_F (rv_vI r.1) (wm ta ad r.2)) 0 0) 0 0 (wm ta ad μ) 13 [(0, .ref (ad 0)), (1, .int x1), (2, .int x2), (4, .int x4)] []) {k37 : Mem → Int32 → Option ((Int32) × Mem)} (hk37 : ∀ {μ : Mem} {x6 : Int32} {r : (Int32) × Mem}, k37 μ x6 = some r → rv_V l D (rv_T ta) RX9 cX9_mends 8 (some .boolean) ("", []) (rv_rm 7 0 0) (rv_M D (rv_F (rv_vI r.1) (wm ta ad r.2)) 0 0) 0 0 (wm ta ad μ) 37 [(0, .ref (ad 0)), (1, .int x1), (2, .int x2), (4, .int x4), (5, .int x5), (6, .int x6)] []) {μ : Mem} {x6 : Int32} {r : (Int32) × Mem} (h : B_X9_mends_L0_37 x1 x2 x4 x5 k13 k37 μ x6 = some r) : rv_V l D (rv_T ta) RX9 cX9_mends 8 (some .boolean) ("", []) (rv_rm 7 0 0) (rv_M D (rv_F (rv_vI r.1) (wm ta ad r.2)) 0 0) 0 0 (wm ta ad μ) 37 [(0, .ref (ad 0)), (1, .int x1), (2, .int x2), (4, .int x4), (5, .int x5), (6, .int x6)] [] := by
  unfold B_X9_mends_L0_37 at h
  refine rv_iload dX9_mends_37 5 rfl ?_
  refine rv_aload_n dX9_mends_39 rfl 0 rfl ?_
  refine gf_X9_83 dX9_mends_40 0 (wm_0 ta ad μ) rfl ?_
  refine rv_icmp_gt (tgt := 121) dX9_mends_43 (by decide) (fun hc4 => ?_) (fun hc4 => ?_)
  · replace h := rv_ift hc4 h
    refine rv_iinc (v := (x4 + 1)) (lv2 := [(4, .int (x4 + 1)), (0, .ref (ad 0)), (1, .int x1), (2, .int x2), (5, .int x5), (6, .int x6)]) dX9_mends_121 3 rfl rfl (by decide) rfl ?_
    refine rv_goto (tgt := 13) dX9_mends_124 (by decide) ?_
    refine rv_sub [1, 2, 3, 0] rfl ?_
    exact hk13 h
  · replace h := rv_iff hc4 h
    refine rv_iload dX9_mends_46 5 rfl ?_
    refine rv_iconst (v := 1) dX9_mends_48 (by decide) ?_
    refine rv_isub dX9_mends_49 ?_
    refine rv_iload dX9_mends_50 4 rfl ?_
    refine rv_icmp_ne (tgt := 58) dX9_mends_52 (by decide) (fun hc5 => ?_) (fun hc5 => ?_)
    · replace h := rv_iff hc5 h
      refine rv_aload_n dX9_mends_58 rfl 0 rfl ?_
      refine gf_X9_16 dX9_mends_59 0 (wm_0 ta ad μ) rfl ?_
      refine rv_iload dX9_mends_62 3 rfl ?_
      refine rv_iload dX9_mends_64 5 rfl ?_
      refine rv_iconst (v := 1) dX9_mends_66 (by decide) ?_
      refine rv_isub dX9_mends_67 ?_
      obtain ⟨hi6, h⟩ := rv_ifn h
      refine rv_iast dX9_mends_68 0 rfl 3 (wm_3 ta ad μ) (rv_inP hi6) (wm_s3 ta ad μ _ _) ?_
      refine rv_aload_n dX9_mends_69 rfl 0 rfl ?_
      refine gf_X9_61 dX9_mends_70 0 (wm_0 ta ad (mu_up μ 3 (Int32.toNatClampNeg x4) (x6 - 1))) rfl ?_
      refine rv_iload_n dX9_mends_73 rfl 1 rfl ?_
      refine rv_iload dX9_mends_74 3 rfl ?_
      obtain ⟨hi7, h⟩ := rv_ifn h
      refine rv_iast dX9_mends_76 0 rfl 12 (wm_12 ta ad (mu_up μ 3 (Int32.toNatClampNeg x4) (x6 - 1))) (rv_inP hi7) (wm_s12 ta ad (mu_up μ 3 (Int32.toNatClampNeg x4) (x6 - 1)) _ _) ?_
      refine rv_aload_n dX9_mends_77 rfl 0 rfl ?_
      refine gf_X9_64 dX9_mends_78 0 (wm_0 ta ad (mu_up (mu_up μ 3 (Int32.toNatClampNeg x4) (x6 - 1)) 12 (Int32.toNatClampNeg x1) x4)) rfl ?_
      refine rv_iload_n dX9_mends_81 rfl 1 rfl ?_
      refine rv_iload dX9_mends_82 5 rfl ?_
      obtain ⟨hi8, h⟩ := rv_ifn h
      refine rv_iast dX9_mends_84 0 rfl 13 (wm_13 ta ad (mu_up (mu_up μ 3 (Int32.toNatClampNeg x4) (x6 - 1)) 12 (Int32.toNatClampNeg x1) x4)) (rv_inP hi8) (wm_s13 ta ad (mu_up (mu_up μ 3 (Int32.toNatClampNeg x4) (x6 - 1)) 12 (Int32.toNatClampNeg x1) x4) _ _) ?_
      refine rv_aload_n dX9_mends_85 rfl 0 rfl ?_
      refine rv_iload_n dX9_mends_86 rfl 1 rfl ?_
      refine rv_iconst (v := 1) dX9_mends_87 (by decide) ?_
      refine rv_iadd dX9_mends_88 ?_
      refine rv_iload_n dX9_mends_89 rfl 2 rfl ?_
      refine rv_iload dX9_mends_90 3 rfl ?_
      refine rv_iconst (v := 1) dX9_mends_92 (by decide) ?_
      refine rv_iadd dX9_mends_93 ?_
      cases h
    · replace h := rv_ift hc5 h
      refine rv_goto (tgt := 115) dX9_mends_55 (by decide) ?_
      refine rv_iinc (v := (x6 + 1)) (lv2 := [(6, .int (x6 + 1)), (0, .ref (ad 0)), (1, .int x1), (2, .int x2), (4, .int x4), (5, .int x5)]) dX9_mends_115 5 rfl rfl (by decide) rfl ?_
      refine rv_goto (tgt := 37) dX9_mends_118 (by decide) ?_
      refine rv_sub [1, 2, 3, 4, 5, 0] rfl ?_
      exact hk37 h
theorem vh_X9_mends_L0_37 {l : Launch} {D : va_G} {ta : Nat → ClassId} {ad : Nat → Nat} {x1 : Int32} {x2 : Int32} {x4 : Int32} {x5 : Int32} {k13 : Mem → Int32 → Option ((Int32) × Mem)} (hk13 : ∀ {μ : Mem} {x4 : Int32} {r : (Int32) × Mem}, k13 μ x4 = some r → rv_V l D (rv_T ta) RX9 cX9_mends 8 (some .boolean) ("", []) (rv_rm 7 0 0) (rv_M D (rv_F (rv_vI r.1) (wm ta ad r.2)) 0 0) 0 0 (wm ta ad μ) 13 [(0, .ref (ad 0)), (1, .int x1), (2, .int x2), (4, .int x4)] []) {n : Nat} {μ : Mem} {x6 : Int32} {r : (Int32) × Mem} (h : rv_loop (B_X9_mends_L0_37 x1 x2 x4 x5 k13) (fun _ _ => none) n μ x6 = some r) : rv_V l D (rv_T ta) RX9 cX9_mends 8 (some .boolean) ("", []) (rv_rm 7 0 0) (rv_M D (rv_F (rv_vI r.1) (wm ta ad r.2)) 0 0) 0 0 (wm ta ad μ) 37 [(0, .ref (ad 0)), (1, .int x1), (2, .int x2), (4, .int x4), (5, .int x5), (6, .int x6)] [] := by
  induction n generalizing μ x6 r with
  | zero => cases h
  | succ n ih => exact vB_X9_mends_L0_37 hk13 (fun h9 => ih h9) h
theorem vB_X9_mends_L0_13 {l : Launch} {D : va_G} {ta : Nat → ClassId} {ad : Nat → Nat} {x1 : Int32} {x2 : Int32} {k13 : Mem → Int32 → Option ((Int32) × Mem)} (hk13 : ∀ {μ : Mem} {x4 : Int32} {r : (Int32) × Mem}, k13 μ x4 = some r → rv_V l D (rv_T ta) RX9 cX9_mends 8 (some .boolean) ("", []) (rv_rm 7 0 0) (rv_M D (rv_F (rv_vI r.1) (wm ta ad r.2)) 0 0) 0 0 (wm ta ad μ) 13 [(0, .ref (ad 0)), (1, .int x1), (2, .int x2), (4, .int x4)] []) {μ : Mem} {x4 : Int32} {r : (Int32) × Mem} (h : B_X9_mends_L0_13 x1 x2 k13 μ x4 = some r) : rv_V l D (rv_T ta) RX9 cX9_mends 8 (some .boolean) ("", []) (rv_rm 7 0 0) (rv_M D (rv_F (rv_vI r.1) (wm ta ad r.2)) 0 0) 0 0 (wm ta ad μ) 13 [(0, .ref (ad 0)), (1, .int x1), (2, .int x2), (4, .int x4)] [] := by
  unfold B_X9_mends_L0_13 at h
  refine rv_iload dX9_mends_13 3 rfl ?_
  refine rv_bipush (v := 8) dX9_mends_15 (by decide) ?_
  refine rv_aload_n dX9_mends_17 rfl 0 rfl ?_
  refine gf_X9_76 dX9_mends_18 0 (wm_0 ta ad μ) rfl ?_
  refine rv_imul dX9_mends_21 ?_
  refine rv_icmp_ge (tgt := 127) dX9_mends_22 (by decide) (fun hc2 => ?_) (fun hc2 => ?_)
  · replace h := rv_ift hc2 h
    refine rv_iconst (v := 0) dX9_mends_127 (by decide) ?_
    obtain rfl := Option.some.inj h
    exact rv_zret rfl rfl dX9_mends_128 (rv_le rfl) (rv_le rfl) ⟨rfl, rfl⟩
  · replace h := rv_iff hc2 h
    refine rv_aload_n dX9_mends_25 rfl 0 rfl ?_
    refine gf_X9_16 dX9_mends_26 0 (wm_0 ta ad μ) rfl ?_
    refine rv_iload dX9_mends_29 3 rfl ?_
    obtain ⟨hi3, h⟩ := rv_ifn h
    refine rv_iald dX9_mends_31 0 rfl 3 (wm_3 ta ad μ) (rv_inP hi3) ?_
    refine rv_istore (lv2 := [(5, .int (μ.1 3 (Int32.toNatClampNeg x4))), (0, .ref (ad 0)), (1, .int x1), (2, .int x2), (4, .int x4)]) dX9_mends_32 (by decide) rfl ?_
    refine rv_iconst (v := 0) dX9_mends_34 (by decide) ?_
    refine rv_istore (lv2 := [(6, .int 0), (5, .int (μ.1 3 (Int32.toNatClampNeg x4))), (0, .ref (ad 0)), (1, .int x1), (2, .int x2), (4, .int x4)]) dX9_mends_35 (by decide) rfl ?_
    refine rv_sub [2, 3, 4, 5, 1, 0] rfl ?_
    exact vh_X9_mends_L0_37 hk13 h
theorem vh_X9_mends_L0_13 {l : Launch} {D : va_G} {ta : Nat → ClassId} {ad : Nat → Nat} {x1 : Int32} {x2 : Int32} {n : Nat} {μ : Mem} {x4 : Int32} {r : (Int32) × Mem} (h : rv_loop (B_X9_mends_L0_13 x1 x2) (fun _ _ => none) n μ x4 = some r) : rv_V l D (rv_T ta) RX9 cX9_mends 8 (some .boolean) ("", []) (rv_rm 7 0 0) (rv_M D (rv_F (rv_vI r.1) (wm ta ad r.2)) 0 0) 0 0 (wm ta ad μ) 13 [(0, .ref (ad 0)), (1, .int x1), (2, .int x2), (4, .int x4)] [] := by
  induction n generalizing μ x4 r with
  | zero => cases h
  | succ n ih => exact vB_X9_mends_L0_13 (fun h9 => ih h9) h
theorem ct_X9_mends_L0 {l : Launch} {D : va_G} {ta : Nat → ClassId} {ad : Nat → Nat} {μ : Mem} {x1 : Int32} {x2 : Int32} {x3 : Int32} {r : (Int32) × Mem} (h : f_X9_mends_L0 μ x1 x2 x3 = some r) : rv_C l D (rv_T ta) yX9_mends cX9_mends 8 (some .boolean) 7 0 0 [.ref (ad 0), .int x1, .int x2, .int x3] (wm ta ad μ) (rv_F (rv_vI r.1) (wm ta ad r.2)) := by
  refine rv_Cof2 (own := RX9) (lv := [(0, .ref (ad 0)), (1, .int x1), (2, .int x2), (3, .int x3)]) rfl (by decide) (rv_le rfl) rfl ?_
  unfold f_X9_mends_L0 at h
  refine rv_iload_n dX9_mends_0 rfl 1 rfl ?_
  refine rv_iload_n dX9_mends_1 rfl 2 rfl ?_
  refine rv_icmp_ne (tgt := 10) dX9_mends_2 (by decide) (fun hc1 => ?_) (fun hc1 => ?_)
  · replace h := rv_iff hc1 h
    refine rv_iload_n dX9_mends_10 rfl 3 rfl ?_
    refine rv_istore (lv2 := [(4, .int x3), (0, .ref (ad 0)), (1, .int x1), (2, .int x2), (3, .int x3)]) dX9_mends_11 (by decide) rfl ?_
    refine rv_sub [1, 2, 3, 0] rfl ?_
    exact vh_X9_mends_L0_13 h
  · replace h := rv_ift hc1 h
    refine rv_aload_n dX9_mends_5 rfl 0 rfl ?_
    obtain ⟨r9, hr9, h⟩ := rv_bind h
    refine rv_callV1 (rest := []) (ct_X9_isLawful hr9) wm_X9_172 wi_X9_isLawful wl_X9_isLawful wc_X9_isLawful wz_X9 rfl np_X9_isLawful dX9_mends_6 rfl ⟨rv_le rfl, rv_le rfl⟩ ⟨rv_le rfl, rv_le rfl⟩ (rv_le rfl) 0 (wm_0 ta ad μ) cl_X9 ?_
    obtain ⟨hi10, h⟩ := rv_ifn h
    obtain rfl := Option.some.inj h
    exact rv_zret rfl (rv_bzP hi10) dX9_mends_9 (rv_le rfl) (rv_le rfl) ⟨rfl, rfl⟩
theorem vB_X9_mends_L1_37 {l : Launch} {D : va_G} {ta : Nat → ClassId} {ad : Nat → Nat} {x1 : Int32} {x2 : Int32} {x4 : Int32} {x5 : Int32} {k13 : Mem → Int32 → Option ((Int32) × Mem)} (hk13 : ∀ {μ : Mem} {x4 : Int32} {r : (Int32) × Mem}, k13 μ x4 = some r → rv_V l D (rv_T ta) RX9 cX9_mends 8 (some .boolean) ("", []) (rv_rm 8 0 0) (rv_M D (rv_F (rv_vI r.1) (wm ta ad r.2)) 0 0) 0 0 (wm ta ad μ) 13 [(0, .ref (ad 0)), (1, .int x1), (2, .int x2), (4, .int x4)] []) {k37 : Mem → Int32 → Option ((Int32) × Mem)} (hk37 : ∀ {μ : Mem} {x6 : Int32} {r : (Int32) × Mem}, k37 μ x6 = some r → rv_V l D (rv_T ta) RX9 cX9_mends 8 (some .boolean) ("", []) (rv_rm 8 0 0) (rv_M D (rv_F (rv_vI r.1) (wm ta ad r.2)) 0 0) 0 0 (wm ta ad μ) 37 [(0, .ref (ad 0)), (1, .int x1), (2, .int x2), (4, .int x4), (5, .int x5), (6, .int x6)] []) {μ : Mem} {x6 : Int32} {r : (Int32) × Mem} (h : B_X9_mends_L1_37 x1 x2 x4 x5 k13 k37 μ x6 = some r) : rv_V l D (rv_T ta) RX9 cX9_mends 8 (some .boolean) ("", []) (rv_rm 8 0 0) (rv_M D (rv_F (rv_vI r.1) (wm ta ad r.2)) 0 0) 0 0 (wm ta ad μ) 37 [(0, .ref (ad 0)), (1, .int x1), (2, .int x2), (4, .int x4), (5, .int x5), (6, .int x6)] [] := by
  unfold B_X9_mends_L1_37 at h
  refine rv_iload dX9_mends_37 5 rfl ?_
  refine rv_aload_n dX9_mends_39 rfl 0 rfl ?_
  refine gf_X9_83 dX9_mends_40 0 (wm_0 ta ad μ) rfl ?_
  refine rv_icmp_gt (tgt := 121) dX9_mends_43 (by decide) (fun hc4 => ?_) (fun hc4 => ?_)
  · replace h := rv_ift hc4 h
    refine rv_iinc (v := (x4 + 1)) (lv2 := [(4, .int (x4 + 1)), (0, .ref (ad 0)), (1, .int x1), (2, .int x2), (5, .int x5), (6, .int x6)]) dX9_mends_121 3 rfl rfl (by decide) rfl ?_
    refine rv_goto (tgt := 13) dX9_mends_124 (by decide) ?_
    refine rv_sub [1, 2, 3, 0] rfl ?_
    exact hk13 h
  · replace h := rv_iff hc4 h
    refine rv_iload dX9_mends_46 5 rfl ?_
    refine rv_iconst (v := 1) dX9_mends_48 (by decide) ?_
    refine rv_isub dX9_mends_49 ?_
    refine rv_iload dX9_mends_50 4 rfl ?_
    refine rv_icmp_ne (tgt := 58) dX9_mends_52 (by decide) (fun hc5 => ?_) (fun hc5 => ?_)
    · replace h := rv_iff hc5 h
      refine rv_aload_n dX9_mends_58 rfl 0 rfl ?_
      refine gf_X9_16 dX9_mends_59 0 (wm_0 ta ad μ) rfl ?_
      refine rv_iload dX9_mends_62 3 rfl ?_
      refine rv_iload dX9_mends_64 5 rfl ?_
      refine rv_iconst (v := 1) dX9_mends_66 (by decide) ?_
      refine rv_isub dX9_mends_67 ?_
      obtain ⟨hi6, h⟩ := rv_ifn h
      refine rv_iast dX9_mends_68 0 rfl 3 (wm_3 ta ad μ) (rv_inP hi6) (wm_s3 ta ad μ _ _) ?_
      refine rv_aload_n dX9_mends_69 rfl 0 rfl ?_
      refine gf_X9_61 dX9_mends_70 0 (wm_0 ta ad (mu_up μ 3 (Int32.toNatClampNeg x4) (x6 - 1))) rfl ?_
      refine rv_iload_n dX9_mends_73 rfl 1 rfl ?_
      refine rv_iload dX9_mends_74 3 rfl ?_
      obtain ⟨hi7, h⟩ := rv_ifn h
      refine rv_iast dX9_mends_76 0 rfl 12 (wm_12 ta ad (mu_up μ 3 (Int32.toNatClampNeg x4) (x6 - 1))) (rv_inP hi7) (wm_s12 ta ad (mu_up μ 3 (Int32.toNatClampNeg x4) (x6 - 1)) _ _) ?_
      refine rv_aload_n dX9_mends_77 rfl 0 rfl ?_
      refine gf_X9_64 dX9_mends_78 0 (wm_0 ta ad (mu_up (mu_up μ 3 (Int32.toNatClampNeg x4) (x6 - 1)) 12 (Int32.toNatClampNeg x1) x4)) rfl ?_
      refine rv_iload_n dX9_mends_81 rfl 1 rfl ?_
      refine rv_iload dX9_mends_82 5 rfl ?_
      obtain ⟨hi8, h⟩ := rv_ifn h
      refine rv_iast dX9_mends_84 0 rfl 13 (wm_13 ta ad (mu_up (mu_up μ 3 (Int32.toNatClampNeg x4) (x6 - 1)) 12 (Int32.toNatClampNeg x1) x4)) (rv_inP hi8) (wm_s13 ta ad (mu_up (mu_up μ 3 (Int32.toNatClampNeg x4) (x6 - 1)) 12 (Int32.toNatClampNeg x1) x4) _ _) ?_
      refine rv_aload_n dX9_mends_85 rfl 0 rfl ?_
      refine rv_iload_n dX9_mends_86 rfl 1 rfl ?_
      refine rv_iconst (v := 1) dX9_mends_87 (by decide) ?_
      refine rv_iadd dX9_mends_88 ?_
      refine rv_iload_n dX9_mends_89 rfl 2 rfl ?_
      refine rv_iload dX9_mends_90 3 rfl ?_
      refine rv_iconst (v := 1) dX9_mends_92 (by decide) ?_
      refine rv_iadd dX9_mends_93 ?_
      obtain ⟨r9, hr9, h⟩ := rv_bind h
      refine rv_callV1 (rest := []) (ct_X9_mends_L0 hr9) wm_X9_176 wi_X9_mends wl_X9_mends wc_X9_mends wz_X9 rfl np_X9_mends dX9_mends_94 rfl ⟨rv_le rfl, rv_le rfl⟩ ⟨rv_le rfl, rv_le rfl⟩ (rv_le rfl) 0 (wm_0 ta ad (mu_up (mu_up (mu_up μ 3 (Int32.toNatClampNeg x4) (x6 - 1)) 12 (Int32.toNatClampNeg x1) x4) 13 (Int32.toNatClampNeg x1) x6)) cl_X9 ?_
      refine rv_istore (lv2 := [(7, .int r9.1), (0, .ref (ad 0)), (1, .int x1), (2, .int x2), (4, .int x4), (5, .int x5), (6, .int x6)]) dX9_mends_97 (by decide) rfl ?_
      refine rv_aload_n dX9_mends_99 rfl 1 rfl ?_
      refine gf_X9_16 dX9_mends_100 0 (wm_0 ta ad r9.2) rfl ?_
      refine rv_iload dX9_mends_103 4 rfl ?_
      refine rv_iload dX9_mends_105 5 rfl ?_
      obtain ⟨hi10, h⟩ := rv_ifn h
      refine rv_iast dX9_mends_107 0 rfl 3 (wm_3 ta ad r9.2) (rv_inP hi10) (wm_s3 ta ad r9.2 _ _) ?_
      refine rv_iload dX9_mends_108 0 rfl ?_
      refine rv_if_eq (tgt := 115) dX9_mends_110 (by decide) (fun hc11 => ?_) (fun hc11 => ?_)
      · replace h := rv_ift hc11 h
        refine rv_iinc (v := (x6 + 1)) (lv2 := [(6, .int (x6 + 1)), (7, .int r9.1), (0, .ref (ad 0)), (1, .int x1), (2, .int x2), (4, .int x4), (5, .int x5)]) dX9_mends_115 6 rfl rfl (by decide) rfl ?_
        refine rv_goto (tgt := 37) dX9_mends_118 (by decide) ?_
        refine rv_sub [2, 3, 4, 5, 6, 0] rfl ?_
        exact hk37 h
      · replace h := rv_iff hc11 h
        refine rv_iconst (v := 1) dX9_mends_113 (by decide) ?_
        obtain rfl := Option.some.inj h
        exact rv_zret rfl rfl dX9_mends_114 (rv_le rfl) (rv_le rfl) ⟨rfl, rfl⟩
    · replace h := rv_ift hc5 h
      refine rv_goto (tgt := 115) dX9_mends_55 (by decide) ?_
      refine rv_iinc (v := (x6 + 1)) (lv2 := [(6, .int (x6 + 1)), (0, .ref (ad 0)), (1, .int x1), (2, .int x2), (4, .int x4), (5, .int x5)]) dX9_mends_115 5 rfl rfl (by decide) rfl ?_
      refine rv_goto (tgt := 37) dX9_mends_118 (by decide) ?_
      refine rv_sub [1, 2, 3, 4, 5, 0] rfl ?_
      exact hk37 h
theorem vh_X9_mends_L1_37 {l : Launch} {D : va_G} {ta : Nat → ClassId} {ad : Nat → Nat} {x1 : Int32} {x2 : Int32} {x4 : Int32} {x5 : Int32} {k13 : Mem → Int32 → Option ((Int32) × Mem)} (hk13 : ∀ {μ : Mem} {x4 : Int32} {r : (Int32) × Mem}, k13 μ x4 = some r → rv_V l D (rv_T ta) RX9 cX9_mends 8 (some .boolean) ("", []) (rv_rm 8 0 0) (rv_M D (rv_F (rv_vI r.1) (wm ta ad r.2)) 0 0) 0 0 (wm ta ad μ) 13 [(0, .ref (ad 0)), (1, .int x1), (2, .int x2), (4, .int x4)] []) {n : Nat} {μ : Mem} {x6 : Int32} {r : (Int32) × Mem} (h : rv_loop (B_X9_mends_L1_37 x1 x2 x4 x5 k13) (fun _ _ => none) n μ x6 = some r) : rv_V l D (rv_T ta) RX9 cX9_mends 8 (some .boolean) ("", []) (rv_rm 8 0 0) (rv_M D (rv_F (rv_vI r.1) (wm ta ad r.2)) 0 0) 0 0 (wm ta ad μ) 37 [(0, .ref (ad 0)), (1, .int x1), (2, .int x2), (4, .int x4), (5, .int x5), (6, .int x6)] [] := by
  induction n generalizing μ x6 r with
  | zero => cases h
  | succ n ih => exact vB_X9_mends_L1_37 hk13 (fun h9 => ih h9) h
theorem vB_X9_mends_L1_13 {l : Launch} {D : va_G} {ta : Nat → ClassId} {ad : Nat → Nat} {x1 : Int32} {x2 : Int32} {k13 : Mem → Int32 → Option ((Int32) × Mem)} (hk13 : ∀ {μ : Mem} {x4 : Int32} {r : (Int32) × Mem}, k13 μ x4 = some r → rv_V l D (rv_T ta) RX9 cX9_mends 8 (some .boolean) ("", []) (rv_rm 8 0 0) (rv_M D (rv_F (rv_vI r.1) (wm ta ad r.2)) 0 0) 0 0 (wm ta ad μ) 13 [(0, .ref (ad 0)), (1, .int x1), (2, .int x2), (4, .int x4)] []) {μ : Mem} {x4 : Int32} {r : (Int32) × Mem} (h : B_X9_mends_L1_13 x1 x2 k13 μ x4 = some r) : rv_V l D (rv_T ta) RX9 cX9_mends 8 (some .boolean) ("", []) (rv_rm 8 0 0) (rv_M D (rv_F (rv_vI r.1) (wm ta ad r.2)) 0 0) 0 0 (wm ta ad μ) 13 [(0, .ref (ad 0)), (1, .int x1), (2, .int x2), (4, .int x4)] [] := by
  unfold B_X9_mends_L1_13 at h
  refine rv_iload dX9_mends_13 3 rfl ?_
  refine rv_bipush (v := 8) dX9_mends_15 (by decide) ?_
  refine rv_aload_n dX9_mends_17 rfl 0 rfl ?_
  refine gf_X9_76 dX9_mends_18 0 (wm_0 ta ad μ) rfl ?_
  refine rv_imul dX9_mends_21 ?_
  refine rv_icmp_ge (tgt := 127) dX9_mends_22 (by decide) (fun hc2 => ?_) (fun hc2 => ?_)
  · replace h := rv_ift hc2 h
    refine rv_iconst (v := 0) dX9_mends_127 (by decide) ?_
    obtain rfl := Option.some.inj h
    exact rv_zret rfl rfl dX9_mends_128 (rv_le rfl) (rv_le rfl) ⟨rfl, rfl⟩
  · replace h := rv_iff hc2 h
    refine rv_aload_n dX9_mends_25 rfl 0 rfl ?_
    refine gf_X9_16 dX9_mends_26 0 (wm_0 ta ad μ) rfl ?_
    refine rv_iload dX9_mends_29 3 rfl ?_
    obtain ⟨hi3, h⟩ := rv_ifn h
    refine rv_iald dX9_mends_31 0 rfl 3 (wm_3 ta ad μ) (rv_inP hi3) ?_
    refine rv_istore (lv2 := [(5, .int (μ.1 3 (Int32.toNatClampNeg x4))), (0, .ref (ad 0)), (1, .int x1), (2, .int x2), (4, .int x4)]) dX9_mends_32 (by decide) rfl ?_
    refine rv_iconst (v := 0) dX9_mends_34 (by decide) ?_
    refine rv_istore (lv2 := [(6, .int 0), (5, .int (μ.1 3 (Int32.toNatClampNeg x4))), (0, .ref (ad 0)), (1, .int x1), (2, .int x2), (4, .int x4)]) dX9_mends_35 (by decide) rfl ?_
    refine rv_sub [2, 3, 4, 5, 1, 0] rfl ?_
    exact vh_X9_mends_L1_37 hk13 h
theorem vh_X9_mends_L1_13 {l : Launch} {D : va_G} {ta : Nat → ClassId} {ad : Nat → Nat} {x1 : Int32} {x2 : Int32} {n : Nat} {μ : Mem} {x4 : Int32} {r : (Int32) × Mem} (h : rv_loop (B_X9_mends_L1_13 x1 x2) (fun _ _ => none) n μ x4 = some r) : rv_V l D (rv_T ta) RX9 cX9_mends 8 (some .boolean) ("", []) (rv_rm 8 0 0) (rv_M D (rv_F (rv_vI r.1) (wm ta ad r.2)) 0 0) 0 0 (wm ta ad μ) 13 [(0, .ref (ad 0)), (1, .int x1), (2, .int x2), (4, .int x4)] [] := by
  induction n generalizing μ x4 r with
  | zero => cases h
  | succ n ih => exact vB_X9_mends_L1_13 (fun h9 => ih h9) h
theorem ct_X9_mends_L1 {l : Launch} {D : va_G} {ta : Nat → ClassId} {ad : Nat → Nat} {μ : Mem} {x1 : Int32} {x2 : Int32} {x3 : Int32} {r : (Int32) × Mem} (h : f_X9_mends_L1 μ x1 x2 x3 = some r) : rv_C l D (rv_T ta) yX9_mends cX9_mends 8 (some .boolean) 8 0 0 [.ref (ad 0), .int x1, .int x2, .int x3] (wm ta ad μ) (rv_F (rv_vI r.1) (wm ta ad r.2)) := by
  refine rv_Cof2 (own := RX9) (lv := [(0, .ref (ad 0)), (1, .int x1), (2, .int x2), (3, .int x3)]) rfl (by decide) (rv_le rfl) rfl ?_
  unfold f_X9_mends_L1 at h
  refine rv_iload_n dX9_mends_0 rfl 1 rfl ?_
  refine rv_iload_n dX9_mends_1 rfl 2 rfl ?_
  refine rv_icmp_ne (tgt := 10) dX9_mends_2 (by decide) (fun hc1 => ?_) (fun hc1 => ?_)
  · replace h := rv_iff hc1 h
    refine rv_iload_n dX9_mends_10 rfl 3 rfl ?_
    refine rv_istore (lv2 := [(4, .int x3), (0, .ref (ad 0)), (1, .int x1), (2, .int x2), (3, .int x3)]) dX9_mends_11 (by decide) rfl ?_
    refine rv_sub [1, 2, 3, 0] rfl ?_
    exact vh_X9_mends_L1_13 h
  · replace h := rv_ift hc1 h
    refine rv_aload_n dX9_mends_5 rfl 0 rfl ?_
    obtain ⟨r12, hr12, h⟩ := rv_bind h
    refine rv_callV1 (rest := []) (ct_X9_isLawful hr12) wm_X9_172 wi_X9_isLawful wl_X9_isLawful wc_X9_isLawful wz_X9 rfl np_X9_isLawful dX9_mends_6 rfl ⟨rv_le rfl, rv_le rfl⟩ ⟨rv_le rfl, rv_le rfl⟩ (rv_le rfl) 0 (wm_0 ta ad μ) cl_X9 ?_
    obtain ⟨hi13, h⟩ := rv_ifn h
    obtain rfl := Option.some.inj h
    exact rv_zret rfl (rv_bzP hi13) dX9_mends_9 (rv_le rfl) (rv_le rfl) ⟨rfl, rfl⟩
theorem vB_X9_mends_L2_37 {l : Launch} {D : va_G} {ta : Nat → ClassId} {ad : Nat → Nat} {x1 : Int32} {x2 : Int32} {x4 : Int32} {x5 : Int32} {k13 : Mem → Int32 → Option ((Int32) × Mem)} (hk13 : ∀ {μ : Mem} {x4 : Int32} {r : (Int32) × Mem}, k13 μ x4 = some r → rv_V l D (rv_T ta) RX9 cX9_mends 8 (some .boolean) ("", []) (rv_rm 9 0 0) (rv_M D (rv_F (rv_vI r.1) (wm ta ad r.2)) 0 0) 0 0 (wm ta ad μ) 13 [(0, .ref (ad 0)), (1, .int x1), (2, .int x2), (4, .int x4)] []) {k37 : Mem → Int32 → Option ((Int32) × Mem)} (hk37 : ∀ {μ : Mem} {x6 : Int32} {r : (Int32) × Mem}, k37 μ x6 = some r → rv_V l D (rv_T ta) RX9 cX9_mends 8 (some .boolean) ("", []) (rv_rm 9 0 0) (rv_M D (rv_F (rv_vI r.1) (wm ta ad r.2)) 0 0) 0 0 (wm ta ad μ) 37 [(0, .ref (ad 0)), (1, .int x1), (2, .int x2), (4, .int x4), (5, .int x5), (6, .int x6)] []) {μ : Mem} {x6 : Int32} {r : (Int32) × Mem} (h : B_X9_mends_L2_37 x1 x2 x4 x5 k13 k37 μ x6 = some r) : rv_V l D (rv_T ta) RX9 cX9_mends 8 (some .boolean) ("", []) (rv_rm 9 0 0) (rv_M D (rv_F (rv_vI r.1) (wm ta ad r.2)) 0 0) 0 0 (wm ta ad μ) 37 [(0, .ref (ad 0)), (1, .int x1), (2, .int x2), (4, .int x4), (5, .int x5), (6, .int x6)] [] := by
  unfold B_X9_mends_L2_37 at h
  refine rv_iload dX9_mends_37 5 rfl ?_
  refine rv_aload_n dX9_mends_39 rfl 0 rfl ?_
  refine gf_X9_83 dX9_mends_40 0 (wm_0 ta ad μ) rfl ?_
  refine rv_icmp_gt (tgt := 121) dX9_mends_43 (by decide) (fun hc4 => ?_) (fun hc4 => ?_)
  · replace h := rv_ift hc4 h
    refine rv_iinc (v := (x4 + 1)) (lv2 := [(4, .int (x4 + 1)), (0, .ref (ad 0)), (1, .int x1), (2, .int x2), (5, .int x5), (6, .int x6)]) dX9_mends_121 3 rfl rfl (by decide) rfl ?_
    refine rv_goto (tgt := 13) dX9_mends_124 (by decide) ?_
    refine rv_sub [1, 2, 3, 0] rfl ?_
    exact hk13 h
  · replace h := rv_iff hc4 h
    refine rv_iload dX9_mends_46 5 rfl ?_
    refine rv_iconst (v := 1) dX9_mends_48 (by decide) ?_
    refine rv_isub dX9_mends_49 ?_
    refine rv_iload dX9_mends_50 4 rfl ?_
    refine rv_icmp_ne (tgt := 58) dX9_mends_52 (by decide) (fun hc5 => ?_) (fun hc5 => ?_)
    · replace h := rv_iff hc5 h
      refine rv_aload_n dX9_mends_58 rfl 0 rfl ?_
      refine gf_X9_16 dX9_mends_59 0 (wm_0 ta ad μ) rfl ?_
      refine rv_iload dX9_mends_62 3 rfl ?_
      refine rv_iload dX9_mends_64 5 rfl ?_
      refine rv_iconst (v := 1) dX9_mends_66 (by decide) ?_
      refine rv_isub dX9_mends_67 ?_
      obtain ⟨hi6, h⟩ := rv_ifn h
      refine rv_iast dX9_mends_68 0 rfl 3 (wm_3 ta ad μ) (rv_inP hi6) (wm_s3 ta ad μ _ _) ?_
      refine rv_aload_n dX9_mends_69 rfl 0 rfl ?_
      refine gf_X9_61 dX9_mends_70 0 (wm_0 ta ad (mu_up μ 3 (Int32.toNatClampNeg x4) (x6 - 1))) rfl ?_
      refine rv_iload_n dX9_mends_73 rfl 1 rfl ?_
      refine rv_iload dX9_mends_74 3 rfl ?_
      obtain ⟨hi7, h⟩ := rv_ifn h
      refine rv_iast dX9_mends_76 0 rfl 12 (wm_12 ta ad (mu_up μ 3 (Int32.toNatClampNeg x4) (x6 - 1))) (rv_inP hi7) (wm_s12 ta ad (mu_up μ 3 (Int32.toNatClampNeg x4) (x6 - 1)) _ _) ?_
      refine rv_aload_n dX9_mends_77 rfl 0 rfl ?_
      refine gf_X9_64 dX9_mends_78 0 (wm_0 ta ad (mu_up (mu_up μ 3 (Int32.toNatClampNeg x4) (x6 - 1)) 12 (Int32.toNatClampNeg x1) x4)) rfl ?_
      refine rv_iload_n dX9_mends_81 rfl 1 rfl ?_
      refine rv_iload dX9_mends_82 5 rfl ?_
      obtain ⟨hi8, h⟩ := rv_ifn h
      refine rv_iast dX9_mends_84 0 rfl 13 (wm_13 ta ad (mu_up (mu_up μ 3 (Int32.toNatClampNeg x4) (x6 - 1)) 12 (Int32.toNatClampNeg x1) x4)) (rv_inP hi8) (wm_s13 ta ad (mu_up (mu_up μ 3 (Int32.toNatClampNeg x4) (x6 - 1)) 12 (Int32.toNatClampNeg x1) x4) _ _) ?_
      refine rv_aload_n dX9_mends_85 rfl 0 rfl ?_
      refine rv_iload_n dX9_mends_86 rfl 1 rfl ?_
      refine rv_iconst (v := 1) dX9_mends_87 (by decide) ?_
      refine rv_iadd dX9_mends_88 ?_
      refine rv_iload_n dX9_mends_89 rfl 2 rfl ?_
      refine rv_iload dX9_mends_90 3 rfl ?_
      refine rv_iconst (v := 1) dX9_mends_92 (by decide) ?_
      refine rv_iadd dX9_mends_93 ?_
      obtain ⟨r9, hr9, h⟩ := rv_bind h
      refine rv_callV1 (rest := []) (ct_X9_mends_L1 hr9) wm_X9_176 wi_X9_mends wl_X9_mends wc_X9_mends wz_X9 rfl np_X9_mends dX9_mends_94 rfl ⟨rv_le rfl, rv_le rfl⟩ ⟨rv_le rfl, rv_le rfl⟩ (rv_le rfl) 0 (wm_0 ta ad (mu_up (mu_up (mu_up μ 3 (Int32.toNatClampNeg x4) (x6 - 1)) 12 (Int32.toNatClampNeg x1) x4) 13 (Int32.toNatClampNeg x1) x6)) cl_X9 ?_
      refine rv_istore (lv2 := [(7, .int r9.1), (0, .ref (ad 0)), (1, .int x1), (2, .int x2), (4, .int x4), (5, .int x5), (6, .int x6)]) dX9_mends_97 (by decide) rfl ?_
      refine rv_aload_n dX9_mends_99 rfl 1 rfl ?_
      refine gf_X9_16 dX9_mends_100 0 (wm_0 ta ad r9.2) rfl ?_
      refine rv_iload dX9_mends_103 4 rfl ?_
      refine rv_iload dX9_mends_105 5 rfl ?_
      obtain ⟨hi10, h⟩ := rv_ifn h
      refine rv_iast dX9_mends_107 0 rfl 3 (wm_3 ta ad r9.2) (rv_inP hi10) (wm_s3 ta ad r9.2 _ _) ?_
      refine rv_iload dX9_mends_108 0 rfl ?_
      refine rv_if_eq (tgt := 115) dX9_mends_110 (by decide) (fun hc11 => ?_) (fun hc11 => ?_)
      · replace h := rv_ift hc11 h
        refine rv_iinc (v := (x6 + 1)) (lv2 := [(6, .int (x6 + 1)), (7, .int r9.1), (0, .ref (ad 0)), (1, .int x1), (2, .int x2), (4, .int x4), (5, .int x5)]) dX9_mends_115 6 rfl rfl (by decide) rfl ?_
        refine rv_goto (tgt := 37) dX9_mends_118 (by decide) ?_
        refine rv_sub [2, 3, 4, 5, 6, 0] rfl ?_
        exact hk37 h
      · replace h := rv_iff hc11 h
        refine rv_iconst (v := 1) dX9_mends_113 (by decide) ?_
        obtain rfl := Option.some.inj h
        exact rv_zret rfl rfl dX9_mends_114 (rv_le rfl) (rv_le rfl) ⟨rfl, rfl⟩
    · replace h := rv_ift hc5 h
      refine rv_goto (tgt := 115) dX9_mends_55 (by decide) ?_
      refine rv_iinc (v := (x6 + 1)) (lv2 := [(6, .int (x6 + 1)), (0, .ref (ad 0)), (1, .int x1), (2, .int x2), (4, .int x4), (5, .int x5)]) dX9_mends_115 5 rfl rfl (by decide) rfl ?_
      refine rv_goto (tgt := 37) dX9_mends_118 (by decide) ?_
      refine rv_sub [1, 2, 3, 4, 5, 0] rfl ?_
      exact hk37 h
theorem vh_X9_mends_L2_37 {l : Launch} {D : va_G} {ta : Nat → ClassId} {ad : Nat → Nat} {x1 : Int32} {x2 : Int32} {x4 : Int32} {x5 : Int32} {k13 : Mem → Int32 → Option ((Int32) × Mem)} (hk13 : ∀ {μ : Mem} {x4 : Int32} {r : (Int32) × Mem}, k13 μ x4 = some r → rv_V l D (rv_T ta) RX9 cX9_mends 8 (some .boolean) ("", []) (rv_rm 9 0 0) (rv_M D (rv_F (rv_vI r.1) (wm ta ad r.2)) 0 0) 0 0 (wm ta ad μ) 13 [(0, .ref (ad 0)), (1, .int x1), (2, .int x2), (4, .int x4)] []) {n : Nat} {μ : Mem} {x6 : Int32} {r : (Int32) × Mem} (h : rv_loop (B_X9_mends_L2_37 x1 x2 x4 x5 k13) (fun _ _ => none) n μ x6 = some r) : rv_V l D (rv_T ta) RX9 cX9_mends 8 (some .boolean) ("", []) (rv_rm 9 0 0) (rv_M D (rv_F (rv_vI r.1) (wm ta ad r.2)) 0 0) 0 0 (wm ta ad μ) 37 [(0, .ref (ad 0)), (1, .int x1), (2, .int x2), (4, .int x4), (5, .int x5), (6, .int x6)] [] := by
  induction n generalizing μ x6 r with
  | zero => cases h
  | succ n ih => exact vB_X9_mends_L2_37 hk13 (fun h9 => ih h9) h
theorem vB_X9_mends_L2_13 {l : Launch} {D : va_G} {ta : Nat → ClassId} {ad : Nat → Nat} {x1 : Int32} {x2 : Int32} {k13 : Mem → Int32 → Option ((Int32) × Mem)} (hk13 : ∀ {μ : Mem} {x4 : Int32} {r : (Int32) × Mem}, k13 μ x4 = some r → rv_V l D (rv_T ta) RX9 cX9_mends 8 (some .boolean) ("", []) (rv_rm 9 0 0) (rv_M D (rv_F (rv_vI r.1) (wm ta ad r.2)) 0 0) 0 0 (wm ta ad μ) 13 [(0, .ref (ad 0)), (1, .int x1), (2, .int x2), (4, .int x4)] []) {μ : Mem} {x4 : Int32} {r : (Int32) × Mem} (h : B_X9_mends_L2_13 x1 x2 k13 μ x4 = some r) : rv_V l D (rv_T ta) RX9 cX9_mends 8 (some .boolean) ("", []) (rv_rm 9 0 0) (rv_M D (rv_F (rv_vI r.1) (wm ta ad r.2)) 0 0) 0 0 (wm ta ad μ) 13 [(0, .ref (ad 0)), (1, .int x1), (2, .int x2), (4, .int x4)] [] := by
  unfold B_X9_mends_L2_13 at h
  refine rv_iload dX9_mends_13 3 rfl ?_
  refine rv_bipush (v := 8) dX9_mends_15 (by decide) ?_
  refine rv_aload_n dX9_mends_17 rfl 0 rfl ?_
  refine gf_X9_76 dX9_mends_18 0 (wm_0 ta ad μ) rfl ?_
  refine rv_imul dX9_mends_21 ?_
  refine rv_icmp_ge (tgt := 127) dX9_mends_22 (by decide) (fun hc2 => ?_) (fun hc2 => ?_)
  · replace h := rv_ift hc2 h
    refine rv_iconst (v := 0) dX9_mends_127 (by decide) ?_
    obtain rfl := Option.some.inj h
    exact rv_zret rfl rfl dX9_mends_128 (rv_le rfl) (rv_le rfl) ⟨rfl, rfl⟩
  · replace h := rv_iff hc2 h
    refine rv_aload_n dX9_mends_25 rfl 0 rfl ?_
    refine gf_X9_16 dX9_mends_26 0 (wm_0 ta ad μ) rfl ?_
    refine rv_iload dX9_mends_29 3 rfl ?_
    obtain ⟨hi3, h⟩ := rv_ifn h
    refine rv_iald dX9_mends_31 0 rfl 3 (wm_3 ta ad μ) (rv_inP hi3) ?_
    refine rv_istore (lv2 := [(5, .int (μ.1 3 (Int32.toNatClampNeg x4))), (0, .ref (ad 0)), (1, .int x1), (2, .int x2), (4, .int x4)]) dX9_mends_32 (by decide) rfl ?_
    refine rv_iconst (v := 0) dX9_mends_34 (by decide) ?_
    refine rv_istore (lv2 := [(6, .int 0), (5, .int (μ.1 3 (Int32.toNatClampNeg x4))), (0, .ref (ad 0)), (1, .int x1), (2, .int x2), (4, .int x4)]) dX9_mends_35 (by decide) rfl ?_
    refine rv_sub [2, 3, 4, 5, 1, 0] rfl ?_
    exact vh_X9_mends_L2_37 hk13 h
theorem vh_X9_mends_L2_13 {l : Launch} {D : va_G} {ta : Nat → ClassId} {ad : Nat → Nat} {x1 : Int32} {x2 : Int32} {n : Nat} {μ : Mem} {x4 : Int32} {r : (Int32) × Mem} (h : rv_loop (B_X9_mends_L2_13 x1 x2) (fun _ _ => none) n μ x4 = some r) : rv_V l D (rv_T ta) RX9 cX9_mends 8 (some .boolean) ("", []) (rv_rm 9 0 0) (rv_M D (rv_F (rv_vI r.1) (wm ta ad r.2)) 0 0) 0 0 (wm ta ad μ) 13 [(0, .ref (ad 0)), (1, .int x1), (2, .int x2), (4, .int x4)] [] := by
  induction n generalizing μ x4 r with
  | zero => cases h
  | succ n ih => exact vB_X9_mends_L2_13 (fun h9 => ih h9) h
theorem ct_X9_mends_L2 {l : Launch} {D : va_G} {ta : Nat → ClassId} {ad : Nat → Nat} {μ : Mem} {x1 : Int32} {x2 : Int32} {x3 : Int32} {r : (Int32) × Mem} (h : f_X9_mends_L2 μ x1 x2 x3 = some r) : rv_C l D (rv_T ta) yX9_mends cX9_mends 8 (some .boolean) 9 0 0 [.ref (ad 0), .int x1, .int x2, .int x3] (wm ta ad μ) (rv_F (rv_vI r.1) (wm ta ad r.2)) := by
  refine rv_Cof2 (own := RX9) (lv := [(0, .ref (ad 0)), (1, .int x1), (2, .int x2), (3, .int x3)]) rfl (by decide) (rv_le rfl) rfl ?_
  unfold f_X9_mends_L2 at h
  refine rv_iload_n dX9_mends_0 rfl 1 rfl ?_
  refine rv_iload_n dX9_mends_1 rfl 2 rfl ?_
  refine rv_icmp_ne (tgt := 10) dX9_mends_2 (by decide) (fun hc1 => ?_) (fun hc1 => ?_)
  · replace h := rv_iff hc1 h
    refine rv_iload_n dX9_mends_10 rfl 3 rfl ?_
    refine rv_istore (lv2 := [(4, .int x3), (0, .ref (ad 0)), (1, .int x1), (2, .int x2), (3, .int x3)]) dX9_mends_11 (by decide) rfl ?_
    refine rv_sub [1, 2, 3, 0] rfl ?_
    exact vh_X9_mends_L2_13 h
  · replace h := rv_ift hc1 h
    refine rv_aload_n dX9_mends_5 rfl 0 rfl ?_
    obtain ⟨r12, hr12, h⟩ := rv_bind h
    refine rv_callV1 (rest := []) (ct_X9_isLawful hr12) wm_X9_172 wi_X9_isLawful wl_X9_isLawful wc_X9_isLawful wz_X9 rfl np_X9_isLawful dX9_mends_6 rfl ⟨rv_le rfl, rv_le rfl⟩ ⟨rv_le rfl, rv_le rfl⟩ (rv_le rfl) 0 (wm_0 ta ad μ) cl_X9 ?_
    obtain ⟨hi13, h⟩ := rv_ifn h
    obtain rfl := Option.some.inj h
    exact rv_zret rfl (rv_bzP hi13) dX9_mends_9 (rv_le rfl) (rv_le rfl) ⟨rfl, rfl⟩
theorem vb_X9_leastSize_23 {l : Launch} {D : va_G} {ta : Nat → ClassId} {ad : Nat → Nat} {μ : Mem} {x1 : Int32} {r : (Int32) × Mem} (h : b_X9_leastSize_23 μ x1 = some r) : rv_V l D (rv_T ta) RX9 cX9_leastSize 2 (some .int) ("", []) (rv_rm 10 0 0) (rv_M D (rv_F (rv_vI r.1) (wm ta ad r.2)) 0 0) 0 0 (wm ta ad μ) 23 [(1, .int x1)] [] := by
  unfold b_X9_leastSize_23 at h
  refine rv_iload_n dX9_leastSize_23 rfl 0 rfl ?_
  refine rv_iconst (v := 3) dX9_leastSize_24 (by decide) ?_
  refine rv_icmp_ge (tgt := 32) dX9_leastSize_25 (by decide) (fun hc2 => ?_) (fun hc2 => ?_)
  · replace h := rv_ift hc2 h
    refine rv_iconst (v := (-1)) dX9_leastSize_32 (by decide) ?_
    obtain rfl := Option.some.inj h
    exact rv_iret rfl dX9_leastSize_33 (rv_le rfl) (rv_le rfl) ⟨rfl, rfl⟩
  · replace h := rv_iff hc2 h
    refine rv_iload_n dX9_leastSize_28 rfl 0 rfl ?_
    refine rv_goto (tgt := 33) dX9_leastSize_29 (by decide) ?_
    obtain rfl := Option.some.inj h
    exact rv_iret rfl dX9_leastSize_33 (rv_le rfl) (rv_le rfl) ⟨rfl, rfl⟩
theorem vB_X9_leastSize_2 {l : Launch} {D : va_G} {ta : Nat → ClassId} {ad : Nat → Nat} {k2 : Mem → Int32 → Option ((Int32) × Mem)} (hk2 : ∀ {μ : Mem} {x1 : Int32} {r : (Int32) × Mem}, k2 μ x1 = some r → rv_V l D (rv_T ta) RX9 cX9_leastSize 2 (some .int) ("", []) (rv_rm 10 0 0) (rv_M D (rv_F (rv_vI r.1) (wm ta ad r.2)) 0 0) 0 0 (wm ta ad μ) 2 [(0, .ref (ad 0)), (1, .int x1)] []) {μ : Mem} {x1 : Int32} {r : (Int32) × Mem} (h : B_X9_leastSize_2 k2 μ x1 = some r) : rv_V l D (rv_T ta) RX9 cX9_leastSize 2 (some .int) ("", []) (rv_rm 10 0 0) (rv_M D (rv_F (rv_vI r.1) (wm ta ad r.2)) 0 0) 0 0 (wm ta ad μ) 2 [(0, .ref (ad 0)), (1, .int x1)] [] := by
  unfold B_X9_leastSize_2 at h
  refine rv_iload_n dX9_leastSize_2 rfl 1 rfl ?_
  refine rv_iconst (v := 3) dX9_leastSize_3 (by decide) ?_
  refine rv_icmp_ge (tgt := 23) dX9_leastSize_4 (by decide) (fun hc1 => ?_) (fun hc1 => ?_)
  · replace h := rv_ift hc1 h
    refine rv_sub [1] rfl ?_
    exact vb_X9_leastSize_23 h
  · replace h := rv_iff hc1 h
    refine rv_aload_n dX9_leastSize_7 rfl 0 rfl ?_
    refine rv_iconst (v := 0) dX9_leastSize_8 (by decide) ?_
    refine rv_iload_n dX9_leastSize_9 rfl 1 rfl ?_
    refine rv_iconst (v := 0) dX9_leastSize_10 (by decide) ?_
    obtain ⟨r3, hr3, h⟩ := rv_bind h
    refine rv_callV1 (rest := []) (ct_X9_mends_L2 hr3) wm_X9_176 wi_X9_mends wl_X9_mends wc_X9_mends wz_X9 rfl np_X9_mends dX9_leastSize_11 rfl ⟨rv_le rfl, rv_le rfl⟩ ⟨rv_le rfl, rv_le rfl⟩ (rv_le rfl) 0 (wm_0 ta ad μ) cl_X9 ?_
    refine rv_if_ne (tgt := 23) dX9_leastSize_14 (by decide) (fun hc4 => ?_) (fun hc4 => ?_)
    · replace h := rv_iff hc4 h
      refine rv_sub [1] rfl ?_
      exact vb_X9_leastSize_23 h
    · replace h := rv_ift hc4 h
      refine rv_iinc (v := (x1 + 1)) (lv2 := [(1, .int (x1 + 1)), (0, .ref (ad 0))]) dX9_leastSize_17 1 rfl rfl (by decide) rfl ?_
      refine rv_goto (tgt := 2) dX9_leastSize_20 (by decide) ?_
      refine rv_sub [1, 0] rfl ?_
      exact hk2 h
theorem vh_X9_leastSize_2 {l : Launch} {D : va_G} {ta : Nat → ClassId} {ad : Nat → Nat} {n : Nat} {μ : Mem} {x1 : Int32} {r : (Int32) × Mem} (h : rv_loop (B_X9_leastSize_2) (fun _ _ => none) n μ x1 = some r) : rv_V l D (rv_T ta) RX9 cX9_leastSize 2 (some .int) ("", []) (rv_rm 10 0 0) (rv_M D (rv_F (rv_vI r.1) (wm ta ad r.2)) 0 0) 0 0 (wm ta ad μ) 2 [(0, .ref (ad 0)), (1, .int x1)] [] := by
  induction n generalizing μ x1 r with
  | zero => cases h
  | succ n ih => exact vB_X9_leastSize_2 (fun h9 => ih h9) h
theorem ct_X9_leastSize {l : Launch} {D : va_G} {ta : Nat → ClassId} {ad : Nat → Nat} {μ : Mem} {r : (Int32) × Mem} (h : f_X9_leastSize μ = some r) : rv_C l D (rv_T ta) yX9_leastSize cX9_leastSize 2 (some .int) 10 0 0 [.ref (ad 0)] (wm ta ad μ) (rv_F (rv_vI r.1) (wm ta ad r.2)) := by
  refine rv_Cof2 (own := RX9) (lv := [(0, .ref (ad 0))]) rfl (by decide) (rv_le rfl) rfl ?_
  unfold f_X9_leastSize at h
  refine rv_iconst (v := 0) dX9_leastSize_0 (by decide) ?_
  refine rv_istore_n (lv2 := [(1, .int 0), (0, .ref (ad 0))]) dX9_leastSize_1 rfl (by decide) rfl ?_
  refine rv_sub [1, 0] rfl ?_
  exact vh_X9_leastSize_2 h
theorem vb_X9_leastChanges_16 {l : Launch} {D : va_G} {ta : Nat → ClassId} {ad : Nat → Nat} {μ : Mem} {x1 : Int32} {s1 : Int32} {r : (Int32) × Mem} (h : b_X9_leastChanges_16 μ x1 s1 = some r) : rv_V l D (rv_T ta) RX9 cX9_leastChanges 2 (some .int) ("", []) (rv_rm 11 0 0) (rv_M D (rv_F (rv_vI r.1) (wm ta ad r.2)) 0 0) 0 0 (wm ta ad μ) 16 [(1, .int x1)] [.int s1, .ref (ad 0)] := by
  unfold b_X9_leastChanges_16 at h
  obtain ⟨r3, hr3, h⟩ := rv_bind h
  refine rv_callV1 (rest := []) (ct_X9_goesOn hr3) wm_X9_129 wi_X9_goesOn wl_X9_goesOn wc_X9_goesOn wz_X9 rfl np_X9_goesOn dX9_leastChanges_16 rfl ⟨rv_le rfl, rv_le rfl⟩ ⟨rv_le rfl, rv_le rfl⟩ (rv_le rfl) 0 (wm_0 ta ad μ) cl_X9 ?_
  refine rv_if_eq (tgt := 26) dX9_leastChanges_19 (by decide) (fun hc4 => ?_) (fun hc4 => ?_)
  · replace h := rv_ift hc4 h
    refine rv_iconst (v := 0) dX9_leastChanges_26 (by decide) ?_
    obtain rfl := Option.some.inj h
    exact rv_iret rfl dX9_leastChanges_27 (rv_le rfl) (rv_le rfl) ⟨rfl, rfl⟩
  · replace h := rv_iff hc4 h
    refine rv_iload_n dX9_leastChanges_22 rfl 0 rfl ?_
    refine rv_goto (tgt := 27) dX9_leastChanges_23 (by decide) ?_
    obtain rfl := Option.some.inj h
    exact rv_iret rfl dX9_leastChanges_27 (rv_le rfl) (rv_le rfl) ⟨rfl, rfl⟩
theorem ct_X9_leastChanges {l : Launch} {D : va_G} {ta : Nat → ClassId} {ad : Nat → Nat} {μ : Mem} {r : (Int32) × Mem} (h : f_X9_leastChanges μ = some r) : rv_C l D (rv_T ta) yX9_leastChanges cX9_leastChanges 2 (some .int) 11 0 0 [.ref (ad 0)] (wm ta ad μ) (rv_F (rv_vI r.1) (wm ta ad r.2)) := by
  refine rv_Cof2 (own := RX9) (lv := [(0, .ref (ad 0))]) rfl (by decide) (rv_le rfl) rfl ?_
  unfold f_X9_leastChanges at h
  refine rv_aload_n dX9_leastChanges_0 rfl 0 rfl ?_
  obtain ⟨r1, hr1, h⟩ := rv_bind h
  refine rv_callV1 (rest := []) (ct_X9_leastSize hr1) wm_X9_179 wi_X9_leastSize wl_X9_leastSize wc_X9_leastSize wz_X9 rfl np_X9_leastSize dX9_leastChanges_1 rfl ⟨rv_le rfl, rv_le rfl⟩ ⟨rv_le rfl, rv_le rfl⟩ (rv_le rfl) 0 (wm_0 ta ad μ) cl_X9 ?_
  refine rv_istore_n (lv2 := [(1, .int r1.1), (0, .ref (ad 0))]) dX9_leastChanges_4 rfl (by decide) rfl ?_
  refine rv_aload_n dX9_leastChanges_5 rfl 1 rfl ?_
  refine rv_iload_n dX9_leastChanges_6 rfl 0 rfl ?_
  refine rv_iconst (v := (-1)) dX9_leastChanges_7 (by decide) ?_
  refine rv_icmp_ne (tgt := 15) dX9_leastChanges_8 (by decide) (fun hc2 => ?_) (fun hc2 => ?_)
  · replace h := rv_iff hc2 h
    refine rv_iconst (v := 0) dX9_leastChanges_15 (by decide) ?_
    refine rv_sub [0] rfl ?_
    exact vb_X9_leastChanges_16 h
  · replace h := rv_ift hc2 h
    refine rv_iconst (v := 1) dX9_leastChanges_11 (by decide) ?_
    refine rv_goto (tgt := 16) dX9_leastChanges_12 (by decide) ?_
    refine rv_sub [0] rfl ?_
    exact vb_X9_leastChanges_16 h
theorem ct_X9_leastByTrial {l : Launch} {D : va_G} {ta : Nat → ClassId} {ad : Nat → Nat} {μ : Mem} {r : (Int32) × Mem} (h : f_X9_leastByTrial μ = some r) : rv_C l D (rv_T ta) yX9_leastByTrial cX9_leastByTrial 1 (some .int) 12 0 0 [.ref (ad 0)] (wm ta ad μ) (rv_F (rv_vI r.1) (wm ta ad r.2)) := by
  refine rv_Cof2 (own := RX9) (lv := [(0, .ref (ad 0))]) rfl (by decide) (rv_le rfl) rfl ?_
  unfold f_X9_leastByTrial at h
  refine rv_aload_n dX9_leastByTrial_0 rfl 0 rfl ?_
  obtain ⟨r1, hr1, h⟩ := rv_bind h
  refine rv_callV1 (rest := []) (ct_X9_leastChanges hr1) wm_X9_183 wi_X9_leastChanges wl_X9_leastChanges wc_X9_leastChanges wz_X9 rfl np_X9_leastChanges dX9_leastByTrial_1 rfl ⟨rv_le rfl, rv_le rfl⟩ ⟨rv_le rfl, rv_le rfl⟩ (rv_le rfl) 0 (wm_0 ta ad μ) cl_X9 ?_
  obtain rfl := Option.some.inj h
  exact rv_iret rfl dX9_leastByTrial_4 (rv_le rfl) (rv_le rfl) ⟨rfl, rfl⟩
theorem vB_X9_mend_31 {l : Launch} {D : va_G} {ta : Nat → ClassId} {ad : Nat → Nat} {x1 : Int32} {k31 : Mem → Int32 → Option ((Int32) × Mem)} (hk31 : ∀ {μ : Mem} {x2 : Int32} {r : (Int32) × Mem}, k31 μ x2 = some r → rv_V l D (rv_T ta) RX9 cX9_mend 3 (some .int) ("", []) (rv_rm 11 0 0) (rv_M D (rv_F (rv_vI r.1) (wm ta ad r.2)) 0 0) 0 0 (wm ta ad μ) 31 [(0, .ref (ad 0)), (1, .int x1), (2, .int x2)] []) {μ : Mem} {x2 : Int32} {r : (Int32) × Mem} (h : B_X9_mend_31 x1 k31 μ x2 = some r) : rv_V l D (rv_T ta) RX9 cX9_mend 3 (some .int) ("", []) (rv_rm 11 0 0) (rv_M D (rv_F (rv_vI r.1) (wm ta ad r.2)) 0 0) 0 0 (wm ta ad μ) 31 [(0, .ref (ad 0)), (1, .int x1), (2, .int x2)] [] := by
  unfold B_X9_mend_31 at h
  refine rv_iload_n dX9_mend_31 rfl 2 rfl ?_
  refine rv_iload_n dX9_mend_32 rfl 1 rfl ?_
  refine rv_icmp_ge (tgt := 85) dX9_mend_33 (by decide) (fun hc5 => ?_) (fun hc5 => ?_)
  · replace h := rv_ift hc5 h
    refine rv_iload_n dX9_mend_85 rfl 1 rfl ?_
    obtain rfl := Option.some.inj h
    exact rv_iret rfl dX9_mend_86 (rv_le rfl) (rv_le rfl) ⟨rfl, rfl⟩
  · replace h := rv_iff hc5 h
    refine rv_aload_n dX9_mend_36 rfl 0 rfl ?_
    refine gf_X9_67 dX9_mend_37 0 (wm_0 ta ad μ) rfl ?_
    refine rv_iload_n dX9_mend_40 rfl 2 rfl ?_
    refine rv_aload_n dX9_mend_41 rfl 0 rfl ?_
    refine gf_X9_61 dX9_mend_42 0 (wm_0 ta ad μ) rfl ?_
    refine rv_iload_n dX9_mend_45 rfl 2 rfl ?_
    obtain ⟨hi6, h⟩ := rv_ifn h
    refine rv_iald dX9_mend_46 0 rfl 12 (wm_12 ta ad μ) (rv_inP hi6) ?_
    obtain ⟨hi7, h⟩ := rv_ifn h
    refine rv_iast dX9_mend_47 0 rfl 14 (wm_14 ta ad μ) (rv_inP hi7) (wm_s14 ta ad μ _ _) ?_
    refine rv_aload_n dX9_mend_48 rfl 0 rfl ?_
    refine gf_X9_70 dX9_mend_49 0 (wm_0 ta ad (mu_up μ 14 (Int32.toNatClampNeg x2) (μ.1 12 (Int32.toNatClampNeg x2)))) rfl ?_
    refine rv_iload_n dX9_mend_52 rfl 2 rfl ?_
    refine rv_aload_n dX9_mend_53 rfl 0 rfl ?_
    refine gf_X9_64 dX9_mend_54 0 (wm_0 ta ad (mu_up μ 14 (Int32.toNatClampNeg x2) (μ.1 12 (Int32.toNatClampNeg x2)))) rfl ?_
    refine rv_iload_n dX9_mend_57 rfl 2 rfl ?_
    obtain ⟨hi8, h⟩ := rv_ifn h
    refine rv_iald dX9_mend_58 0 rfl 13 (wm_13 ta ad (mu_up μ 14 (Int32.toNatClampNeg x2) (μ.1 12 (Int32.toNatClampNeg x2)))) (rv_inP hi8) ?_
    obtain ⟨hi9, h⟩ := rv_ifn h
    refine rv_iast dX9_mend_59 0 rfl 15 (wm_15 ta ad (mu_up μ 14 (Int32.toNatClampNeg x2) (μ.1 12 (Int32.toNatClampNeg x2)))) (rv_inP hi9) (wm_s15 ta ad (mu_up μ 14 (Int32.toNatClampNeg x2) (μ.1 12 (Int32.toNatClampNeg x2))) _ _) ?_
    refine rv_aload_n dX9_mend_60 rfl 0 rfl ?_
    refine gf_X9_16 dX9_mend_61 0 (wm_0 ta ad (mu_up (mu_up μ 14 (Int32.toNatClampNeg x2) (μ.1 12 (Int32.toNatClampNeg x2))) 15 (Int32.toNatClampNeg x2) ((mu_up μ 14 (Int32.toNatClampNeg x2) (μ.1 12 (Int32.toNatClampNeg x2))).1 13 (Int32.toNatClampNeg x2)))) rfl ?_
    refine rv_aload_n dX9_mend_64 rfl 0 rfl ?_
    refine gf_X9_61 dX9_mend_65 0 (wm_0 ta ad (mu_up (mu_up μ 14 (Int32.toNatClampNeg x2) (μ.1 12 (Int32.toNatClampNeg x2))) 15 (Int32.toNatClampNeg x2) ((mu_up μ 14 (Int32.toNatClampNeg x2) (μ.1 12 (Int32.toNatClampNeg x2))).1 13 (Int32.toNatClampNeg x2)))) rfl ?_
    refine rv_iload_n dX9_mend_68 rfl 2 rfl ?_
    obtain ⟨hi10, h⟩ := rv_ifn h
    refine rv_iald dX9_mend_69 0 rfl 12 (wm_12 ta ad (mu_up (mu_up μ 14 (Int32.toNatClampNeg x2) (μ.1 12 (Int32.toNatClampNeg x2))) 15 (Int32.toNatClampNeg x2) ((mu_up μ 14 (Int32.toNatClampNeg x2) (μ.1 12 (Int32.toNatClampNeg x2))).1 13 (Int32.toNatClampNeg x2)))) (rv_inP hi10) ?_
    refine rv_aload_n dX9_mend_70 rfl 0 rfl ?_
    refine gf_X9_64 dX9_mend_71 0 (wm_0 ta ad (mu_up (mu_up μ 14 (Int32.toNatClampNeg x2) (μ.1 12 (Int32.toNatClampNeg x2))) 15 (Int32.toNatClampNeg x2) ((mu_up μ 14 (Int32.toNatClampNeg x2) (μ.1 12 (Int32.toNatClampNeg x2))).1 13 (Int32.toNatClampNeg x2)))) rfl ?_
    refine rv_iload_n dX9_mend_74 rfl 2 rfl ?_
    obtain ⟨hi11, h⟩ := rv_ifn h
    refine rv_iald dX9_mend_75 0 rfl 13 (wm_13 ta ad (mu_up (mu_up μ 14 (Int32.toNatClampNeg x2) (μ.1 12 (Int32.toNatClampNeg x2))) 15 (Int32.toNatClampNeg x2) ((mu_up μ 14 (Int32.toNatClampNeg x2) (μ.1 12 (Int32.toNatClampNeg x2))).1 13 (Int32.toNatClampNeg x2)))) (rv_inP hi11) ?_
    refine rv_iconst (v := 1) dX9_mend_76 (by decide) ?_
    refine rv_isub dX9_mend_77 ?_
    obtain ⟨hi12, h⟩ := rv_ifn h
    refine rv_iast dX9_mend_78 0 rfl 3 (wm_3 ta ad (mu_up (mu_up μ 14 (Int32.toNatClampNeg x2) (μ.1 12 (Int32.toNatClampNeg x2))) 15 (Int32.toNatClampNeg x2) ((mu_up μ 14 (Int32.toNatClampNeg x2) (μ.1 12 (Int32.toNatClampNeg x2))).1 13 (Int32.toNatClampNeg x2)))) (rv_inP hi12) (wm_s3 ta ad (mu_up (mu_up μ 14 (Int32.toNatClampNeg x2) (μ.1 12 (Int32.toNatClampNeg x2))) 15 (Int32.toNatClampNeg x2) ((mu_up μ 14 (Int32.toNatClampNeg x2) (μ.1 12 (Int32.toNatClampNeg x2))).1 13 (Int32.toNatClampNeg x2))) _ _) ?_
    refine rv_iinc (v := (x2 + 1)) (lv2 := [(2, .int (x2 + 1)), (0, .ref (ad 0)), (1, .int x1)]) dX9_mend_79 2 rfl rfl (by decide) rfl ?_
    refine rv_goto (tgt := 31) dX9_mend_82 (by decide) ?_
    refine rv_sub [1, 2, 0] rfl ?_
    exact hk31 h
theorem vh_X9_mend_31 {l : Launch} {D : va_G} {ta : Nat → ClassId} {ad : Nat → Nat} {x1 : Int32} {n : Nat} {μ : Mem} {x2 : Int32} {r : (Int32) × Mem} (h : rv_loop (B_X9_mend_31 x1) (fun _ _ => none) n μ x2 = some r) : rv_V l D (rv_T ta) RX9 cX9_mend 3 (some .int) ("", []) (rv_rm 11 0 0) (rv_M D (rv_F (rv_vI r.1) (wm ta ad r.2)) 0 0) 0 0 (wm ta ad μ) 31 [(0, .ref (ad 0)), (1, .int x1), (2, .int x2)] [] := by
  induction n generalizing μ x2 r with
  | zero => cases h
  | succ n ih => exact vB_X9_mend_31 (fun h9 => ih h9) h
theorem vb_X9_mend_16 {l : Launch} {D : va_G} {ta : Nat → ClassId} {ad : Nat → Nat} {μ : Mem} {x1 : Int32} {s1 : Int32} {r : (Int32) × Mem} (h : b_X9_mend_16 μ x1 s1 = some r) : rv_V l D (rv_T ta) RX9 cX9_mend 3 (some .int) ("", []) (rv_rm 11 0 0) (rv_M D (rv_F (rv_vI r.1) (wm ta ad r.2)) 0 0) 0 0 (wm ta ad μ) 16 [(0, .ref (ad 0)), (1, .int x1)] [.int s1, .ref (ad 0)] := by
  unfold b_X9_mend_16 at h
  obtain ⟨r3, hr3, h⟩ := rv_bind h
  refine rv_callV1 (rest := []) (ct_X9_goesOn hr3) wm_X9_129 wi_X9_goesOn wl_X9_goesOn wc_X9_goesOn wz_X9 rfl np_X9_goesOn dX9_mend_16 rfl ⟨rv_le rfl, rv_le rfl⟩ ⟨rv_le rfl, rv_le rfl⟩ (rv_le rfl) 0 (wm_0 ta ad μ) cl_X9 ?_
  refine rv_if_ne (tgt := 24) dX9_mend_19 (by decide) (fun hc4 => ?_) (fun hc4 => ?_)
  · replace h := rv_iff hc4 h
    refine rv_aload_n dX9_mend_24 rfl 0 rfl ?_
    refine rv_iload_n dX9_mend_25 rfl 1 rfl ?_
    refine pf_X9_186 dX9_mend_26 0 (wm_0 ta ad r3.2) (rv_le rfl) (wm_f0_22 ta ad r3.2 x1) ?_
    refine rv_iconst (v := 0) dX9_mend_29 (by decide) ?_
    refine rv_istore_n (lv2 := [(2, .int 0), (0, .ref (ad 0)), (1, .int x1)]) dX9_mend_30 rfl (by decide) rfl ?_
    refine rv_sub [1, 2, 0] rfl ?_
    exact vh_X9_mend_31 h
  · replace h := rv_ift hc4 h
    refine rv_iconst (v := 0) dX9_mend_22 (by decide) ?_
    obtain rfl := Option.some.inj h
    exact rv_iret rfl dX9_mend_23 (rv_le rfl) (rv_le rfl) ⟨rfl, rfl⟩
theorem ct_X9_mend {l : Launch} {D : va_G} {ta : Nat → ClassId} {ad : Nat → Nat} {μ : Mem} {r : (Int32) × Mem} (h : f_X9_mend μ = some r) : rv_C l D (rv_T ta) yX9_mend cX9_mend 3 (some .int) 11 0 0 [.ref (ad 0)] (wm ta ad μ) (rv_F (rv_vI r.1) (wm ta ad r.2)) := by
  refine rv_Cof2 (own := RX9) (lv := [(0, .ref (ad 0))]) rfl (by decide) (rv_le rfl) rfl ?_
  unfold f_X9_mend at h
  refine rv_aload_n dX9_mend_0 rfl 0 rfl ?_
  obtain ⟨r1, hr1, h⟩ := rv_bind h
  refine rv_callV1 (rest := []) (ct_X9_leastSize hr1) wm_X9_179 wi_X9_leastSize wl_X9_leastSize wc_X9_leastSize wz_X9 rfl np_X9_leastSize dX9_mend_1 rfl ⟨rv_le rfl, rv_le rfl⟩ ⟨rv_le rfl, rv_le rfl⟩ (rv_le rfl) 0 (wm_0 ta ad μ) cl_X9 ?_
  refine rv_istore_n (lv2 := [(1, .int r1.1), (0, .ref (ad 0))]) dX9_mend_4 rfl (by decide) rfl ?_
  refine rv_aload_n dX9_mend_5 rfl 1 rfl ?_
  refine rv_iload_n dX9_mend_6 rfl 0 rfl ?_
  refine rv_iconst (v := (-1)) dX9_mend_7 (by decide) ?_
  refine rv_icmp_ne (tgt := 15) dX9_mend_8 (by decide) (fun hc2 => ?_) (fun hc2 => ?_)
  · replace h := rv_iff hc2 h
    refine rv_iconst (v := 0) dX9_mend_15 (by decide) ?_
    refine rv_sub [1, 0] rfl ?_
    exact vb_X9_mend_16 h
  · replace h := rv_ift hc2 h
    refine rv_iconst (v := 1) dX9_mend_11 (by decide) ?_
    refine rv_goto (tgt := 16) dX9_mend_12 (by decide) ?_
    refine rv_sub [1, 0] rfl ?_
    exact vb_X9_mend_16 h
theorem vb_X9_changedCell_20 {l : Launch} {D : va_G} {ta : Nat → ClassId} {ad : Nat → Nat} {μ : Mem} {x1 : Int32} {s1 : Int32} {r : (Int32) × Mem} (h : b_X9_changedCell_20 μ x1 s1 = some r) : rv_V l D (rv_T ta) RX9 cX9_changedCell 2 (some .int) ("", []) (rv_rm 2 0 0) (rv_M D (rv_F (rv_vI r.1) (wm ta ad r.2)) 0 0) 0 0 (wm ta ad μ) 20 [(0, .ref (ad 0)), (1, .int x1)] [.int s1, .ref (ad 0)] := by
  unfold b_X9_changedCell_20 at h
  obtain ⟨r3, hr3, h⟩ := rv_bind h
  refine rv_callV1 (rest := []) (ct_X9_goesOn hr3) wm_X9_129 wi_X9_goesOn wl_X9_goesOn wc_X9_goesOn wz_X9 rfl np_X9_goesOn dX9_changedCell_20 rfl ⟨rv_le rfl, rv_le rfl⟩ ⟨rv_le rfl, rv_le rfl⟩ (rv_le rfl) 0 (wm_0 ta ad μ) cl_X9 ?_
  refine rv_if_eq (tgt := 35) dX9_changedCell_23 (by decide) (fun hc4 => ?_) (fun hc4 => ?_)
  · replace h := rv_ift hc4 h
    refine rv_iconst (v := 0) dX9_changedCell_35 (by decide) ?_
    obtain rfl := Option.some.inj h
    exact rv_iret rfl dX9_changedCell_36 (rv_le rfl) (rv_le rfl) ⟨rfl, rfl⟩
  · replace h := rv_iff hc4 h
    refine rv_aload_n dX9_changedCell_26 rfl 0 rfl ?_
    refine gf_X9_67 dX9_changedCell_27 0 (wm_0 ta ad r3.2) rfl ?_
    refine rv_iload_n dX9_changedCell_30 rfl 1 rfl ?_
    obtain ⟨hi5, h⟩ := rv_ifn h
    refine rv_iald dX9_changedCell_31 0 rfl 14 (wm_14 ta ad r3.2) (rv_inP hi5) ?_
    refine rv_goto (tgt := 36) dX9_changedCell_32 (by decide) ?_
    obtain rfl := Option.some.inj h
    exact rv_iret rfl dX9_changedCell_36 (rv_le rfl) (rv_le rfl) ⟨rfl, rfl⟩
theorem ct_X9_changedCell {l : Launch} {D : va_G} {ta : Nat → ClassId} {ad : Nat → Nat} {μ : Mem} {x1 : Int32} {r : (Int32) × Mem} (h : f_X9_changedCell μ x1 = some r) : rv_C l D (rv_T ta) yX9_changedCell cX9_changedCell 2 (some .int) 2 0 0 [.ref (ad 0), .int x1] (wm ta ad μ) (rv_F (rv_vI r.1) (wm ta ad r.2)) := by
  refine rv_Cof2 (own := RX9) (lv := [(0, .ref (ad 0)), (1, .int x1)]) rfl (by decide) (rv_le rfl) rfl ?_
  unfold f_X9_changedCell at h
  refine rv_aload_n dX9_changedCell_0 rfl 0 rfl ?_
  refine rv_iload_n dX9_changedCell_1 rfl 1 rfl ?_
  refine rv_iconst (v := 0) dX9_changedCell_2 (by decide) ?_
  refine rv_aload_n dX9_changedCell_3 rfl 0 rfl ?_
  refine gf_X9_186 dX9_changedCell_4 0 (wm_0 ta ad μ) rfl ?_
  refine rv_iconst (v := 1) dX9_changedCell_7 (by decide) ?_
  refine rv_isub dX9_changedCell_8 ?_
  obtain ⟨r1, hr1, h⟩ := rv_bind h
  refine rv_callS1 (rest := [.ref (ad 0)]) (ct_X9_in hr1) wm_X9_79 ws_X9_in wc_X9_in wz_X9 np_X9_in dX9_changedCell_9 rfl ⟨rv_le rfl, rv_le rfl⟩ ⟨rv_le rfl, rv_le rfl⟩ (rv_le rfl) ?_
  refine rv_if_eq (tgt := 19) dX9_changedCell_12 (by decide) (fun hc2 => ?_) (fun hc2 => ?_)
  · replace h := rv_ift hc2 h
    refine rv_iconst (v := 1) dX9_changedCell_19 (by decide) ?_
    exact vb_X9_changedCell_20 h
  · replace h := rv_iff hc2 h
    refine rv_iconst (v := 0) dX9_changedCell_15 (by decide) ?_
    refine rv_goto (tgt := 20) dX9_changedCell_16 (by decide) ?_
    exact vb_X9_changedCell_20 h
theorem vb_X9_changedValue_20 {l : Launch} {D : va_G} {ta : Nat → ClassId} {ad : Nat → Nat} {μ : Mem} {x1 : Int32} {s1 : Int32} {r : (Int32) × Mem} (h : b_X9_changedValue_20 μ x1 s1 = some r) : rv_V l D (rv_T ta) RX9 cX9_changedValue 2 (some .int) ("", []) (rv_rm 2 0 0) (rv_M D (rv_F (rv_vI r.1) (wm ta ad r.2)) 0 0) 0 0 (wm ta ad μ) 20 [(0, .ref (ad 0)), (1, .int x1)] [.int s1, .ref (ad 0)] := by
  unfold b_X9_changedValue_20 at h
  obtain ⟨r3, hr3, h⟩ := rv_bind h
  refine rv_callV1 (rest := []) (ct_X9_goesOn hr3) wm_X9_129 wi_X9_goesOn wl_X9_goesOn wc_X9_goesOn wz_X9 rfl np_X9_goesOn dX9_changedValue_20 rfl ⟨rv_le rfl, rv_le rfl⟩ ⟨rv_le rfl, rv_le rfl⟩ (rv_le rfl) 0 (wm_0 ta ad μ) cl_X9 ?_
  refine rv_if_eq (tgt := 35) dX9_changedValue_23 (by decide) (fun hc4 => ?_) (fun hc4 => ?_)
  · replace h := rv_ift hc4 h
    refine rv_iconst (v := 0) dX9_changedValue_35 (by decide) ?_
    obtain rfl := Option.some.inj h
    exact rv_iret rfl dX9_changedValue_36 (rv_le rfl) (rv_le rfl) ⟨rfl, rfl⟩
  · replace h := rv_iff hc4 h
    refine rv_aload_n dX9_changedValue_26 rfl 0 rfl ?_
    refine gf_X9_70 dX9_changedValue_27 0 (wm_0 ta ad r3.2) rfl ?_
    refine rv_iload_n dX9_changedValue_30 rfl 1 rfl ?_
    obtain ⟨hi5, h⟩ := rv_ifn h
    refine rv_iald dX9_changedValue_31 0 rfl 15 (wm_15 ta ad r3.2) (rv_inP hi5) ?_
    refine rv_goto (tgt := 36) dX9_changedValue_32 (by decide) ?_
    obtain rfl := Option.some.inj h
    exact rv_iret rfl dX9_changedValue_36 (rv_le rfl) (rv_le rfl) ⟨rfl, rfl⟩
theorem ct_X9_changedValue {l : Launch} {D : va_G} {ta : Nat → ClassId} {ad : Nat → Nat} {μ : Mem} {x1 : Int32} {r : (Int32) × Mem} (h : f_X9_changedValue μ x1 = some r) : rv_C l D (rv_T ta) yX9_changedValue cX9_changedValue 2 (some .int) 2 0 0 [.ref (ad 0), .int x1] (wm ta ad μ) (rv_F (rv_vI r.1) (wm ta ad r.2)) := by
  refine rv_Cof2 (own := RX9) (lv := [(0, .ref (ad 0)), (1, .int x1)]) rfl (by decide) (rv_le rfl) rfl ?_
  unfold f_X9_changedValue at h
  refine rv_aload_n dX9_changedValue_0 rfl 0 rfl ?_
  refine rv_iload_n dX9_changedValue_1 rfl 1 rfl ?_
  refine rv_iconst (v := 0) dX9_changedValue_2 (by decide) ?_
  refine rv_aload_n dX9_changedValue_3 rfl 0 rfl ?_
  refine gf_X9_186 dX9_changedValue_4 0 (wm_0 ta ad μ) rfl ?_
  refine rv_iconst (v := 1) dX9_changedValue_7 (by decide) ?_
  refine rv_isub dX9_changedValue_8 ?_
  obtain ⟨r1, hr1, h⟩ := rv_bind h
  refine rv_callS1 (rest := [.ref (ad 0)]) (ct_X9_in hr1) wm_X9_79 ws_X9_in wc_X9_in wz_X9 np_X9_in dX9_changedValue_9 rfl ⟨rv_le rfl, rv_le rfl⟩ ⟨rv_le rfl, rv_le rfl⟩ (rv_le rfl) ?_
  refine rv_if_eq (tgt := 19) dX9_changedValue_12 (by decide) (fun hc2 => ?_) (fun hc2 => ?_)
  · replace h := rv_ift hc2 h
    refine rv_iconst (v := 1) dX9_changedValue_19 (by decide) ?_
    exact vb_X9_changedValue_20 h
  · replace h := rv_iff hc2 h
    refine rv_iconst (v := 0) dX9_changedValue_15 (by decide) ?_
    refine rv_goto (tgt := 20) dX9_changedValue_16 (by decide) ?_
    exact vb_X9_changedValue_20 h
theorem vB_X9_minutes_9 {l : Launch} {D : va_G} {ta : Nat → ClassId} {ad : Nat → Nat} {μ : Mem} {k9 : Int64 → Int32 → Option ((Int64) × Mem)} (hk9 : ∀ {x1 : Int64} {x3 : Int32} {r : (Int64) × Mem}, k9 x1 x3 = some r → rv_V l D (rv_T ta) RX9 cX9_minutes 4 (some .long) ("", []) (rv_rm 3 0 0) (rv_M D (rv_F (rv_vL r.1) (wm ta ad r.2)) 0 0) 0 0 (wm ta ad μ) 9 [(0, .ref (ad 0)), (1, .long x1), (3, .int x3)] []) {x1 : Int64} {x3 : Int32} {r : (Int64) × Mem} (h : B_X9_minutes_9 μ k9 x1 x3 = some r) : rv_V l D (rv_T ta) RX9 cX9_minutes 4 (some .long) ("", []) (rv_rm 3 0 0) (rv_M D (rv_F (rv_vL r.1) (wm ta ad r.2)) 0 0) 0 0 (wm ta ad μ) 9 [(0, .ref (ad 0)), (1, .long x1), (3, .int x3)] [] := by
  unfold B_X9_minutes_9 at h
  refine rv_iload_n dX9_minutes_9 rfl 2 rfl ?_
  refine rv_aload_n dX9_minutes_10 rfl 0 rfl ?_
  refine gf_X9_76 dX9_minutes_11 0 (wm_0 ta ad μ) rfl ?_
  refine rv_icmp_ge (tgt := 35) dX9_minutes_14 (by decide) (fun hc1 => ?_) (fun hc1 => ?_)
  · replace h := rv_ift hc1 h
    refine rv_lload_n dX9_minutes_35 rfl 1 rfl ?_
    obtain rfl := Option.some.inj h
    exact rv_lret rfl dX9_minutes_36 (rv_le rfl) (rv_le rfl) ⟨rfl, rfl⟩
  · replace h := rv_iff hc1 h
    refine rv_lload_n dX9_minutes_17 rfl 1 rfl ?_
    refine rv_aload_n dX9_minutes_18 rfl 0 rfl ?_
    refine rv_iload_n dX9_minutes_19 rfl 2 rfl ?_
    refine rv_iconst (v := 0) dX9_minutes_20 (by decide) ?_
    refine rv_bipush (v := 8) dX9_minutes_21 (by decide) ?_
    obtain ⟨r2, hr2, h⟩ := rv_bind h
    refine rv_callV1 (rest := [.long x1]) (ct_X9_sumFrom hr2) wm_X9_108 wi_X9_sumFrom wl_X9_sumFrom wc_X9_sumFrom wz_X9 rfl np_X9_sumFrom dX9_minutes_23 rfl ⟨rv_le rfl, rv_le rfl⟩ ⟨rv_le rfl, rv_le rfl⟩ (rv_le rfl) 0 (wm_0 ta ad μ) cl_X9 ?_
    refine rv_i2l dX9_minutes_26 rfl ?_
    refine rv_ladd dX9_minutes_27 ?_
    refine rv_lstore_n (lv2 := [(1, .long (x1 + (Int32.toInt64 r2))), (0, .ref (ad 0)), (3, .int x3)]) dX9_minutes_28 rfl (by decide) rfl ?_
    refine rv_iinc (v := (x3 + 1)) (lv2 := [(3, .int (x3 + 1)), (1, .long (x1 + (Int32.toInt64 r2))), (0, .ref (ad 0))]) dX9_minutes_29 2 rfl rfl (by decide) rfl ?_
    refine rv_goto (tgt := 9) dX9_minutes_32 (by decide) ?_
    refine rv_sub [2, 1, 0] rfl ?_
    exact hk9 h
theorem vh_X9_minutes_9 {l : Launch} {D : va_G} {ta : Nat → ClassId} {ad : Nat → Nat} {μ : Mem} {n : Nat} {x1 : Int64} {x3 : Int32} {r : (Int64) × Mem} (h : rv_loop (B_X9_minutes_9 μ) (fun _ _ => none) n x1 x3 = some r) : rv_V l D (rv_T ta) RX9 cX9_minutes 4 (some .long) ("", []) (rv_rm 3 0 0) (rv_M D (rv_F (rv_vL r.1) (wm ta ad r.2)) 0 0) 0 0 (wm ta ad μ) 9 [(0, .ref (ad 0)), (1, .long x1), (3, .int x3)] [] := by
  induction n generalizing x1 x3 r with
  | zero => cases h
  | succ n ih => exact vB_X9_minutes_9 (fun h9 => ih h9) h
theorem ct_X9_minutes {l : Launch} {D : va_G} {ta : Nat → ClassId} {ad : Nat → Nat} {μ : Mem} {r : (Int64) × Mem} (h : f_X9_minutes μ = some r) : rv_C l D (rv_T ta) yX9_minutes cX9_minutes 4 (some .long) 3 0 0 [.ref (ad 0)] (wm ta ad μ) (rv_F (rv_vL r.1) (wm ta ad r.2)) := by
  refine rv_Cof2 (own := RX9) (lv := [(0, .ref (ad 0))]) rfl (by decide) (rv_le rfl) rfl ?_
  unfold f_X9_minutes at h
  refine rv_aload_n dX9_minutes_0 rfl 0 rfl ?_
  refine rv_iconst (v := 0) dX9_minutes_1 (by decide) ?_
  refine pf_X9_73 dX9_minutes_2 0 (wm_0 ta ad μ) (rv_le rfl) (wm_f0_0 ta ad μ 0) ?_
  refine rv_lconst (v := 0) dX9_minutes_5 (by decide) ?_
  refine rv_lstore_n (lv2 := [(1, .long 0), (0, .ref (ad 0))]) dX9_minutes_6 rfl (by decide) rfl ?_
  refine rv_iconst (v := 0) dX9_minutes_7 (by decide) ?_
  refine rv_istore_n (lv2 := [(3, .int 0), (1, .long 0), (0, .ref (ad 0))]) dX9_minutes_8 rfl (by decide) rfl ?_
  refine rv_sub [2, 1, 0] rfl ?_
  exact vh_X9_minutes_9 h
theorem vb_X9_workShare_56 {l : Launch} {D : va_G} {ta : Nat → ClassId} {ad : Nat → Nat} {μ : Mem} {x2 : Int32} {s1 : Int32} {r : (UInt32) × Mem} (h : b_X9_workShare_56 μ x2 s1 = some r) : rv_V l D (rv_T ta) RX9 cX9_workShare 4 (some .float) ("", []) (rv_rm 3 0 0) (rv_M D (rv_F (rv_vF r.1) (wm ta ad r.2)) 0 0) 0 0 (wm ta ad μ) 56 [(2, .int x2)] [.int s1, .ref (ad 0)] := by
  unfold b_X9_workShare_56 at h
  obtain ⟨r4, hr4, h⟩ := rv_bind h
  refine rv_callV1 (rest := []) (ct_X9_goesOn hr4) wm_X9_129 wi_X9_goesOn wl_X9_goesOn wc_X9_goesOn wz_X9 rfl np_X9_goesOn dX9_workShare_56 rfl ⟨rv_le rfl, rv_le rfl⟩ ⟨rv_le rfl, rv_le rfl⟩ (rv_le rfl) 0 (wm_0 ta ad μ) cl_X9 ?_
  refine rv_if_eq (tgt := 70) dX9_workShare_59 (by decide) (fun hc5 => ?_) (fun hc5 => ?_)
  · replace h := rv_ift hc5 h
    refine rv_fconst0 dX9_workShare_70 ?_
    obtain rfl := Option.some.inj h
    exact rv_fret rfl dX9_workShare_71 (rv_le rfl) (rv_le rfl) ⟨rfl, rfl⟩
  · replace h := rv_iff hc5 h
    refine rv_iload_n dX9_workShare_62 rfl 0 rfl ?_
    refine rv_i2f dX9_workShare_63 ?_
    refine rv_ldcf wk_X9_189 dX9_workShare_64 ?_
    obtain ⟨hi6, h⟩ := rv_ifn h
    refine rv_fdiv dX9_workShare_66 (rv_nn32P hi6) ?_
    refine rv_goto (tgt := 71) dX9_workShare_67 (by decide) ?_
    obtain rfl := Option.some.inj h
    exact rv_fret rfl dX9_workShare_71 (rv_le rfl) (rv_le rfl) ⟨rfl, rfl⟩
theorem vb_X9_workShare_42 {l : Launch} {D : va_G} {ta : Nat → ClassId} {ad : Nat → Nat} {μ : Mem} {x1 : Int32} {x2 : Int32} {r : (UInt32) × Mem} (h : b_X9_workShare_42 μ x1 x2 = some r) : rv_V l D (rv_T ta) RX9 cX9_workShare 4 (some .float) ("", []) (rv_rm 3 0 0) (rv_M D (rv_F (rv_vF r.1) (wm ta ad r.2)) 0 0) 0 0 (wm ta ad μ) 42 [(0, .ref (ad 0)), (1, .int x1), (2, .int x2)] [] := by
  unfold b_X9_workShare_42 at h
  refine rv_aload_n dX9_workShare_42 rfl 0 rfl ?_
  refine rv_aload_n dX9_workShare_43 rfl 0 rfl ?_
  refine rv_iload_n dX9_workShare_44 rfl 1 rfl ?_
  obtain ⟨r2, hr2, h⟩ := rv_bind h
  refine rv_callV1 (rest := [.ref (ad 0)]) (ct_X9_isPerson hr2) wm_X9_135 wi_X9_isPerson wl_X9_isPerson wc_X9_isPerson wz_X9 rfl np_X9_isPerson dX9_workShare_45 rfl ⟨rv_le rfl, rv_le rfl⟩ ⟨rv_le rfl, rv_le rfl⟩ (rv_le rfl) 0 (wm_0 ta ad μ) cl_X9 ?_
  refine rv_if_eq (tgt := 55) dX9_workShare_48 (by decide) (fun hc3 => ?_) (fun hc3 => ?_)
  · replace h := rv_ift hc3 h
    refine rv_iconst (v := 1) dX9_workShare_55 (by decide) ?_
    refine rv_sub [2] rfl ?_
    exact vb_X9_workShare_56 h
  · replace h := rv_iff hc3 h
    refine rv_iconst (v := 0) dX9_workShare_51 (by decide) ?_
    refine rv_goto (tgt := 56) dX9_workShare_52 (by decide) ?_
    refine rv_sub [2] rfl ?_
    exact vb_X9_workShare_56 h
theorem vb_X9_workShare_34 {l : Launch} {D : va_G} {ta : Nat → ClassId} {ad : Nat → Nat} {μ : Mem} {x1 : Int32} {x3 : Int32} {s0 : Int32} {s1 : Int32} {k4 : Int32 → Int32 → Option ((UInt32) × Mem)} (hk4 : ∀ {x2 : Int32} {x3 : Int32} {r : (UInt32) × Mem}, k4 x2 x3 = some r → rv_V l D (rv_T ta) RX9 cX9_workShare 4 (some .float) ("", []) (rv_rm 3 0 0) (rv_M D (rv_F (rv_vF r.1) (wm ta ad r.2)) 0 0) 0 0 (wm ta ad μ) 4 [(0, .ref (ad 0)), (1, .int x1), (2, .int x2), (3, .int x3)] []) {r : (UInt32) × Mem} (h : b_X9_workShare_34 μ k4 x1 x3 s0 s1 = some r) : rv_V l D (rv_T ta) RX9 cX9_workShare 4 (some .float) ("", []) (rv_rm 3 0 0) (rv_M D (rv_F (rv_vF r.1) (wm ta ad r.2)) 0 0) 0 0 (wm ta ad μ) 34 [(0, .ref (ad 0)), (1, .int x1), (3, .int x3)] [.int s1, .int s0] := by
  unfold b_X9_workShare_34 at h
  refine rv_iadd dX9_workShare_34 ?_
  refine rv_istore_n (lv2 := [(2, .int (s0 + s1)), (0, .ref (ad 0)), (1, .int x1), (3, .int x3)]) dX9_workShare_35 rfl (by decide) rfl ?_
  refine rv_iinc (v := (x3 + 1)) (lv2 := [(3, .int (x3 + 1)), (2, .int (s0 + s1)), (0, .ref (ad 0)), (1, .int x1)]) dX9_workShare_36 3 rfl rfl (by decide) rfl ?_
  refine rv_goto (tgt := 4) dX9_workShare_39 (by decide) ?_
  refine rv_sub [2, 3, 1, 0] rfl ?_
  exact hk4 h
theorem vB_X9_workShare_4 {l : Launch} {D : va_G} {ta : Nat → ClassId} {ad : Nat → Nat} {μ : Mem} {x1 : Int32} {k4 : Int32 → Int32 → Option ((UInt32) × Mem)} (hk4 : ∀ {x2 : Int32} {x3 : Int32} {r : (UInt32) × Mem}, k4 x2 x3 = some r → rv_V l D (rv_T ta) RX9 cX9_workShare 4 (some .float) ("", []) (rv_rm 3 0 0) (rv_M D (rv_F (rv_vF r.1) (wm ta ad r.2)) 0 0) 0 0 (wm ta ad μ) 4 [(0, .ref (ad 0)), (1, .int x1), (2, .int x2), (3, .int x3)] []) {x2 : Int32} {x3 : Int32} {r : (UInt32) × Mem} (h : B_X9_workShare_4 μ x1 k4 x2 x3 = some r) : rv_V l D (rv_T ta) RX9 cX9_workShare 4 (some .float) ("", []) (rv_rm 3 0 0) (rv_M D (rv_F (rv_vF r.1) (wm ta ad r.2)) 0 0) 0 0 (wm ta ad μ) 4 [(0, .ref (ad 0)), (1, .int x1), (2, .int x2), (3, .int x3)] [] := by
  unfold B_X9_workShare_4 at h
  refine rv_iload_n dX9_workShare_4 rfl 3 rfl ?_
  refine rv_bipush (v := 8) dX9_workShare_5 (by decide) ?_
  refine rv_icmp_ge (tgt := 42) dX9_workShare_7 (by decide) (fun hc1 => ?_) (fun hc1 => ?_)
  · replace h := rv_ift hc1 h
    refine rv_sub [0, 1, 2] rfl ?_
    exact vb_X9_workShare_42 h
  · replace h := rv_iff hc1 h
    refine rv_aload_n dX9_workShare_10 rfl 0 rfl ?_
    refine rv_iload_n dX9_workShare_11 rfl 1 rfl ?_
    obtain ⟨r7, hr7, h⟩ := rv_bind h
    refine rv_callV1 (rest := []) (ct_X9_isPerson hr7) wm_X9_135 wi_X9_isPerson wl_X9_isPerson wc_X9_isPerson wz_X9 rfl np_X9_isPerson dX9_workShare_12 rfl ⟨rv_le rfl, rv_le rfl⟩ ⟨rv_le rfl, rv_le rfl⟩ (rv_le rfl) 0 (wm_0 ta ad μ) cl_X9 ?_
    refine rv_if_eq (tgt := 42) dX9_workShare_15 (by decide) (fun hc8 => ?_) (fun hc8 => ?_)
    · replace h := rv_ift hc8 h
      refine rv_sub [0, 1, 2] rfl ?_
      exact vb_X9_workShare_42 h
    · replace h := rv_iff hc8 h
      refine rv_iload_n dX9_workShare_18 rfl 2 rfl ?_
      refine rv_aload_n dX9_workShare_19 rfl 0 rfl ?_
      refine rv_iload_n dX9_workShare_20 rfl 1 rfl ?_
      refine rv_iload_n dX9_workShare_21 rfl 3 rfl ?_
      obtain ⟨r9, hr9, h⟩ := rv_bind h
      refine rv_callV1 (rest := [.int x2]) (ct_X9_at hr9) wm_X9_86 wi_X9_at wl_X9_at wc_X9_at wz_X9 rfl np_X9_at dX9_workShare_22 rfl ⟨rv_le rfl, rv_le rfl⟩ ⟨rv_le rfl, rv_le rfl⟩ (rv_le rfl) 0 (wm_0 ta ad μ) cl_X9 ?_
      refine rv_iconst (v := (-1)) dX9_workShare_25 (by decide) ?_
      refine rv_icmp_ne (tgt := 33) dX9_workShare_26 (by decide) (fun hc10 => ?_) (fun hc10 => ?_)
      · replace h := rv_iff hc10 h
        refine rv_iconst (v := 1) dX9_workShare_33 (by decide) ?_
        refine rv_sub [0, 1, 3] rfl ?_
        exact vb_X9_workShare_34 hk4 h
      · replace h := rv_ift hc10 h
        refine rv_iconst (v := 0) dX9_workShare_29 (by decide) ?_
        refine rv_goto (tgt := 34) dX9_workShare_30 (by decide) ?_
        refine rv_sub [0, 1, 3] rfl ?_
        exact vb_X9_workShare_34 hk4 h
theorem vh_X9_workShare_4 {l : Launch} {D : va_G} {ta : Nat → ClassId} {ad : Nat → Nat} {μ : Mem} {x1 : Int32} {n : Nat} {x2 : Int32} {x3 : Int32} {r : (UInt32) × Mem} (h : rv_loop (B_X9_workShare_4 μ x1) (fun _ _ => none) n x2 x3 = some r) : rv_V l D (rv_T ta) RX9 cX9_workShare 4 (some .float) ("", []) (rv_rm 3 0 0) (rv_M D (rv_F (rv_vF r.1) (wm ta ad r.2)) 0 0) 0 0 (wm ta ad μ) 4 [(0, .ref (ad 0)), (1, .int x1), (2, .int x2), (3, .int x3)] [] := by
  induction n generalizing x2 x3 r with
  | zero => cases h
  | succ n ih => exact vB_X9_workShare_4 (fun h9 => ih h9) h
theorem ct_X9_workShare {l : Launch} {D : va_G} {ta : Nat → ClassId} {ad : Nat → Nat} {μ : Mem} {x1 : Int32} {r : (UInt32) × Mem} (h : f_X9_workShare μ x1 = some r) : rv_C l D (rv_T ta) yX9_workShare cX9_workShare 4 (some .float) 3 0 0 [.ref (ad 0), .int x1] (wm ta ad μ) (rv_F (rv_vF r.1) (wm ta ad r.2)) := by
  refine rv_Cof2 (own := RX9) (lv := [(0, .ref (ad 0)), (1, .int x1)]) rfl (by decide) (rv_le rfl) rfl ?_
  unfold f_X9_workShare at h
  refine rv_iconst (v := 0) dX9_workShare_0 (by decide) ?_
  refine rv_istore_n (lv2 := [(2, .int 0), (0, .ref (ad 0)), (1, .int x1)]) dX9_workShare_1 rfl (by decide) rfl ?_
  refine rv_iconst (v := 0) dX9_workShare_2 (by decide) ?_
  refine rv_istore_n (lv2 := [(3, .int 0), (2, .int 0), (0, .ref (ad 0)), (1, .int x1)]) dX9_workShare_3 rfl (by decide) rfl ?_
  refine rv_sub [2, 3, 1, 0] rfl ?_
  exact vh_X9_workShare_4 h
theorem vb_X9_meanRest_85 {l : Launch} {D : va_G} {ta : Nat → ClassId} {ad : Nat → Nat} {μ : Mem} {x2 : Int32} {x3 : Int32} {s1 : Int32} {r : (UInt64) × Mem} (h : b_X9_meanRest_85 μ x2 x3 s1 = some r) : rv_V l D (rv_T ta) RX9 cX9_meanRest 5 (some .double) ("", []) (rv_rm 4 0 0) (rv_M D (rv_F (rv_vD r.1) (wm ta ad r.2)) 0 0) 0 0 (wm ta ad μ) 85 [(2, .int x2), (3, .int x3)] [.int s1, .ref (ad 0)] := by
  unfold b_X9_meanRest_85 at h
  obtain ⟨r5, hr5, h⟩ := rv_bind h
  refine rv_callV1 (rest := []) (ct_X9_goesOn hr5) wm_X9_129 wi_X9_goesOn wl_X9_goesOn wc_X9_goesOn wz_X9 rfl np_X9_goesOn dX9_meanRest_85 rfl ⟨rv_le rfl, rv_le rfl⟩ ⟨rv_le rfl, rv_le rfl⟩ (rv_le rfl) 0 (wm_0 ta ad μ) cl_X9 ?_
  refine rv_if_eq (tgt := 99) dX9_meanRest_88 (by decide) (fun hc6 => ?_) (fun hc6 => ?_)
  · replace h := rv_ift hc6 h
    refine rv_dconst0 dX9_meanRest_99 ?_
    obtain rfl := Option.some.inj h
    exact rv_dret rfl dX9_meanRest_100 (rv_le rfl) (rv_le rfl) ⟨rfl, rfl⟩
  · replace h := rv_iff hc6 h
    refine rv_iload_n dX9_meanRest_91 rfl 0 rfl ?_
    refine rv_i2d dX9_meanRest_92 ?_
    refine rv_iload_n dX9_meanRest_93 rfl 1 rfl ?_
    refine rv_i2d dX9_meanRest_94 ?_
    obtain ⟨hi7, h⟩ := rv_ifn h
    refine rv_ddiv dX9_meanRest_95 (rv_nn64P hi7) ?_
    refine rv_goto (tgt := 100) dX9_meanRest_96 (by decide) ?_
    obtain rfl := Option.some.inj h
    exact rv_dret rfl dX9_meanRest_100 (rv_le rfl) (rv_le rfl) ⟨rfl, rfl⟩
theorem vb_X9_meanRest_63 {l : Launch} {D : va_G} {ta : Nat → ClassId} {ad : Nat → Nat} {μ : Mem} {x1 : Int32} {x2 : Int32} {x3 : Int32} {r : (UInt64) × Mem} (h : b_X9_meanRest_63 μ x1 x2 x3 = some r) : rv_V l D (rv_T ta) RX9 cX9_meanRest 5 (some .double) ("", []) (rv_rm 4 0 0) (rv_M D (rv_F (rv_vD r.1) (wm ta ad r.2)) 0 0) 0 0 (wm ta ad μ) 63 [(0, .ref (ad 0)), (1, .int x1), (2, .int x2), (3, .int x3)] [] := by
  unfold b_X9_meanRest_63 at h
  refine rv_aload_n dX9_meanRest_63 rfl 0 rfl ?_
  refine rv_aload_n dX9_meanRest_64 rfl 0 rfl ?_
  refine rv_iload_n dX9_meanRest_65 rfl 1 rfl ?_
  obtain ⟨r2, hr2, h⟩ := rv_bind h
  refine rv_callV1 (rest := [.ref (ad 0)]) (ct_X9_isPerson hr2) wm_X9_135 wi_X9_isPerson wl_X9_isPerson wc_X9_isPerson wz_X9 rfl np_X9_isPerson dX9_meanRest_66 rfl ⟨rv_le rfl, rv_le rfl⟩ ⟨rv_le rfl, rv_le rfl⟩ (rv_le rfl) 0 (wm_0 ta ad μ) cl_X9 ?_
  refine rv_if_ne (tgt := 76) dX9_meanRest_69 (by decide) (fun hc3 => ?_) (fun hc3 => ?_)
  · replace h := rv_iff hc3 h
    refine rv_iload_n dX9_meanRest_76 rfl 3 rfl ?_
    refine rv_if_ne (tgt := 84) dX9_meanRest_77 (by decide) (fun hc4 => ?_) (fun hc4 => ?_)
    · replace h := rv_iff hc4 h
      refine rv_iconst (v := 0) dX9_meanRest_84 (by decide) ?_
      refine rv_sub [2, 3] rfl ?_
      exact vb_X9_meanRest_85 h
    · replace h := rv_ift hc4 h
      refine rv_iconst (v := 2) dX9_meanRest_80 (by decide) ?_
      refine rv_goto (tgt := 85) dX9_meanRest_81 (by decide) ?_
      refine rv_sub [2, 3] rfl ?_
      exact vb_X9_meanRest_85 h
  · replace h := rv_ift hc3 h
    refine rv_iconst (v := 1) dX9_meanRest_72 (by decide) ?_
    refine rv_goto (tgt := 85) dX9_meanRest_73 (by decide) ?_
    refine rv_sub [2, 3] rfl ?_
    exact vb_X9_meanRest_85 h
theorem vB_X9_meanRest_7 {l : Launch} {D : va_G} {ta : Nat → ClassId} {ad : Nat → Nat} {μ : Mem} {x1 : Int32} {k7 : Int32 → Int32 → Int32 → Option ((UInt64) × Mem)} (hk7 : ∀ {x2 : Int32} {x3 : Int32} {x4 : Int32} {r : (UInt64) × Mem}, k7 x2 x3 x4 = some r → rv_V l D (rv_T ta) RX9 cX9_meanRest 5 (some .double) ("", []) (rv_rm 4 0 0) (rv_M D (rv_F (rv_vD r.1) (wm ta ad r.2)) 0 0) 0 0 (wm ta ad μ) 7 [(0, .ref (ad 0)), (1, .int x1), (2, .int x2), (3, .int x3), (4, .int x4)] []) {x2 : Int32} {x3 : Int32} {x4 : Int32} {r : (UInt64) × Mem} (h : B_X9_meanRest_7 μ x1 k7 x2 x3 x4 = some r) : rv_V l D (rv_T ta) RX9 cX9_meanRest 5 (some .double) ("", []) (rv_rm 4 0 0) (rv_M D (rv_F (rv_vD r.1) (wm ta ad r.2)) 0 0) 0 0 (wm ta ad μ) 7 [(0, .ref (ad 0)), (1, .int x1), (2, .int x2), (3, .int x3), (4, .int x4)] [] := by
  unfold B_X9_meanRest_7 at h
  refine rv_iload dX9_meanRest_7 4 rfl ?_
  refine rv_bipush (v := 8) dX9_meanRest_9 (by decide) ?_
  refine rv_icmp_ge (tgt := 63) dX9_meanRest_11 (by decide) (fun hc1 => ?_) (fun hc1 => ?_)
  · replace h := rv_ift hc1 h
    refine rv_sub [0, 1, 2, 3] rfl ?_
    exact vb_X9_meanRest_63 h
  · replace h := rv_iff hc1 h
    refine rv_aload_n dX9_meanRest_14 rfl 0 rfl ?_
    refine rv_iload_n dX9_meanRest_15 rfl 1 rfl ?_
    obtain ⟨r8, hr8, h⟩ := rv_bind h
    refine rv_callV1 (rest := []) (ct_X9_isPerson hr8) wm_X9_135 wi_X9_isPerson wl_X9_isPerson wc_X9_isPerson wz_X9 rfl np_X9_isPerson dX9_meanRest_16 rfl ⟨rv_le rfl, rv_le rfl⟩ ⟨rv_le rfl, rv_le rfl⟩ (rv_le rfl) 0 (wm_0 ta ad μ) cl_X9 ?_
    refine rv_if_eq (tgt := 63) dX9_meanRest_19 (by decide) (fun hc9 => ?_) (fun hc9 => ?_)
    · replace h := rv_ift hc9 h
      refine rv_sub [0, 1, 2, 3] rfl ?_
      exact vb_X9_meanRest_63 h
    · replace h := rv_iff hc9 h
      refine rv_aload_n dX9_meanRest_22 rfl 0 rfl ?_
      refine rv_iload_n dX9_meanRest_23 rfl 1 rfl ?_
      refine rv_iload dX9_meanRest_24 4 rfl ?_
      obtain ⟨r10, hr10, h⟩ := rv_bind h
      refine rv_callV1 (rest := []) (ct_X9_at hr10) wm_X9_86 wi_X9_at wl_X9_at wc_X9_at wz_X9 rfl np_X9_at dX9_meanRest_26 rfl ⟨rv_le rfl, rv_le rfl⟩ ⟨rv_le rfl, rv_le rfl⟩ (rv_le rfl) 0 (wm_0 ta ad μ) cl_X9 ?_
      refine rv_iconst (v := (-1)) dX9_meanRest_29 (by decide) ?_
      refine rv_icmp_eq (tgt := 57) dX9_meanRest_30 (by decide) (fun hc11 => ?_) (fun hc11 => ?_)
      · replace h := rv_ift hc11 h
        refine rv_iinc (v := (x4 + 1)) (lv2 := [(4, .int (x4 + 1)), (0, .ref (ad 0)), (1, .int x1), (2, .int x2), (3, .int x3)]) dX9_meanRest_57 4 rfl rfl (by decide) rfl ?_
        refine rv_goto (tgt := 7) dX9_meanRest_60 (by decide) ?_
        refine rv_sub [1, 2, 3, 4, 0] rfl ?_
        exact hk7 h
      · replace h := rv_iff hc11 h
        refine rv_aload_n dX9_meanRest_33 rfl 0 rfl ?_
        refine rv_iload_n dX9_meanRest_34 rfl 1 rfl ?_
        refine rv_iload dX9_meanRest_35 4 rfl ?_
        obtain ⟨r12, hr12, h⟩ := rv_bind h
        refine rv_callV1 (rest := []) (ct_X9_lastBefore hr12) wm_X9_90 wi_X9_lastBefore wl_X9_lastBefore wc_X9_lastBefore wz_X9 rfl np_X9_lastBefore dX9_meanRest_37 rfl ⟨rv_le rfl, rv_le rfl⟩ ⟨rv_le rfl, rv_le rfl⟩ (rv_le rfl) 0 (wm_0 ta ad μ) cl_X9 ?_
        refine rv_iconst (v := (-1)) dX9_meanRest_40 (by decide) ?_
        refine rv_icmp_eq (tgt := 57) dX9_meanRest_41 (by decide) (fun hc13 => ?_) (fun hc13 => ?_)
        · replace h := rv_ift hc13 h
          refine rv_iinc (v := (x4 + 1)) (lv2 := [(4, .int (x4 + 1)), (0, .ref (ad 0)), (1, .int x1), (2, .int x2), (3, .int x3)]) dX9_meanRest_57 4 rfl rfl (by decide) rfl ?_
          refine rv_goto (tgt := 7) dX9_meanRest_60 (by decide) ?_
          refine rv_sub [1, 2, 3, 4, 0] rfl ?_
          exact hk7 h
        · replace h := rv_iff hc13 h
          refine rv_iload_n dX9_meanRest_44 rfl 2 rfl ?_
          refine rv_aload_n dX9_meanRest_45 rfl 0 rfl ?_
          refine rv_iload_n dX9_meanRest_46 rfl 1 rfl ?_
          refine rv_iload dX9_meanRest_47 4 rfl ?_
          obtain ⟨r14, hr14, h⟩ := rv_bind h
          refine rv_callV1 (rest := [.int x2]) (ct_X9_minutesBefore hr14) wm_X9_93 wi_X9_minutesBefore wl_X9_minutesBefore wc_X9_minutesBefore wz_X9 rfl np_X9_minutesBefore dX9_meanRest_49 rfl ⟨rv_le rfl, rv_le rfl⟩ ⟨rv_le rfl, rv_le rfl⟩ (rv_le rfl) 0 (wm_0 ta ad μ) cl_X9 ?_
          refine rv_iadd dX9_meanRest_52 ?_
          refine rv_istore_n (lv2 := [(2, .int (x2 + r14)), (0, .ref (ad 0)), (1, .int x1), (3, .int x3), (4, .int x4)]) dX9_meanRest_53 rfl (by decide) rfl ?_
          refine rv_iinc (v := (x3 + 1)) (lv2 := [(3, .int (x3 + 1)), (2, .int (x2 + r14)), (0, .ref (ad 0)), (1, .int x1), (4, .int x4)]) dX9_meanRest_54 3 rfl rfl (by decide) rfl ?_
          refine rv_iinc (v := (x4 + 1)) (lv2 := [(4, .int (x4 + 1)), (3, .int (x3 + 1)), (2, .int (x2 + r14)), (0, .ref (ad 0)), (1, .int x1)]) dX9_meanRest_57 4 rfl rfl (by decide) rfl ?_
          refine rv_goto (tgt := 7) dX9_meanRest_60 (by decide) ?_
          refine rv_sub [3, 4, 2, 1, 0] rfl ?_
          exact hk7 h
theorem vh_X9_meanRest_7 {l : Launch} {D : va_G} {ta : Nat → ClassId} {ad : Nat → Nat} {μ : Mem} {x1 : Int32} {n : Nat} {x2 : Int32} {x3 : Int32} {x4 : Int32} {r : (UInt64) × Mem} (h : rv_loop (B_X9_meanRest_7 μ x1) (fun _ _ _ => none) n x2 x3 x4 = some r) : rv_V l D (rv_T ta) RX9 cX9_meanRest 5 (some .double) ("", []) (rv_rm 4 0 0) (rv_M D (rv_F (rv_vD r.1) (wm ta ad r.2)) 0 0) 0 0 (wm ta ad μ) 7 [(0, .ref (ad 0)), (1, .int x1), (2, .int x2), (3, .int x3), (4, .int x4)] [] := by
  induction n generalizing x2 x3 x4 r with
  | zero => cases h
  | succ n ih => exact vB_X9_meanRest_7 (fun h9 => ih h9) h
theorem ct_X9_meanRest {l : Launch} {D : va_G} {ta : Nat → ClassId} {ad : Nat → Nat} {μ : Mem} {x1 : Int32} {r : (UInt64) × Mem} (h : f_X9_meanRest μ x1 = some r) : rv_C l D (rv_T ta) yX9_meanRest cX9_meanRest 5 (some .double) 4 0 0 [.ref (ad 0), .int x1] (wm ta ad μ) (rv_F (rv_vD r.1) (wm ta ad r.2)) := by
  refine rv_Cof2 (own := RX9) (lv := [(0, .ref (ad 0)), (1, .int x1)]) rfl (by decide) (rv_le rfl) rfl ?_
  unfold f_X9_meanRest at h
  refine rv_iconst (v := 0) dX9_meanRest_0 (by decide) ?_
  refine rv_istore_n (lv2 := [(2, .int 0), (0, .ref (ad 0)), (1, .int x1)]) dX9_meanRest_1 rfl (by decide) rfl ?_
  refine rv_iconst (v := 0) dX9_meanRest_2 (by decide) ?_
  refine rv_istore_n (lv2 := [(3, .int 0), (2, .int 0), (0, .ref (ad 0)), (1, .int x1)]) dX9_meanRest_3 rfl (by decide) rfl ?_
  refine rv_iconst (v := 0) dX9_meanRest_4 (by decide) ?_
  refine rv_istore (lv2 := [(4, .int 0), (3, .int 0), (2, .int 0), (0, .ref (ad 0)), (1, .int x1)]) dX9_meanRest_5 (by decide) rfl ?_
  refine rv_sub [3, 4, 2, 1, 0] rfl ?_
  exact vh_X9_meanRest_7 h
theorem ct_X9_isSound {l : Launch} {D : va_G} {ta : Nat → ClassId} {ad : Nat → Nat} {μ : Mem} {r : (Int32) × Mem} (h : f_X9_isSound μ = some r) : rv_C l D (rv_T ta) yX9_isSound cX9_isSound 1 (some .boolean) 1 0 0 [.ref (ad 0)] (wm ta ad μ) (rv_F (rv_vI r.1) (wm ta ad r.2)) := by
  refine rv_Cof2 (own := RX9) (lv := [(0, .ref (ad 0))]) rfl (by decide) (rv_le rfl) rfl ?_
  unfold f_X9_isSound at h
  refine rv_aload_n dX9_isSound_0 rfl 0 rfl ?_
  refine rv_iconst (v := 0) dX9_isSound_1 (by decide) ?_
  refine pf_X9_73 dX9_isSound_2 0 (wm_0 ta ad μ) (rv_le rfl) (wm_f0_0 ta ad μ 0) ?_
  refine rv_iconst (v := 1) dX9_isSound_5 (by decide) ?_
  obtain rfl := Option.some.inj h
  exact rv_zret rfl rfl dX9_isSound_6 (rv_le rfl) (rv_le rfl) ⟨rfl, rfl⟩
