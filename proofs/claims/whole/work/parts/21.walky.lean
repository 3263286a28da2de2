/-! the walks: each contract out of its mirrored function, printed by gen.py -/
theorem ct_X8_addPerson {l : Launch} {D : va_G} {ta : Nat → ClassId} {ad : Nat → Nat} {μ : Mem} {r : (String ⊕ Int32) × Mem} (hl9 : l.stackTraces = false) (h : f_X8_addPerson μ = some r) : rv_CX l D (rv_T ta) yX8_addPerson cX8_addPerson 1 (some .int) 1 1 6 [.ref (ad 0)] (wx ta ad μ) (rv_FX rv_vI r.1 (wx ta ad r.2)) (rv_GX r.1 (wx ta ad r.2)) := by
  refine rv_CXof2 (own := RX8) (lv := [(0, .ref (ad 0))]) rfl (by decide) (rv_le rfl) rfl ?_
  unfold f_X8_addPerson at h
  refine rv_aload_n dX8_addPerson_0 rfl 0 rfl ?_
  refine gf_X8_26 dX8_addPerson_1 0 (wx_0 ta ad μ) rfl ?_
  refine gf_X8_72 dX8_addPerson_4 6 (wx_6 ta ad μ) rfl ?_
  refine rv_iconst (v := 4) dX8_addPerson_7 (by decide) ?_
  refine rv_icmp_lt (tgt := 21) dX8_addPerson_8 (by decide) (fun hc1 => ?_) (fun hc1 => ?_)
  · replace h := rv_ift hc1 h
    refine rv_aload_n dX8_addPerson_21 rfl 0 rfl ?_
    refine gf_X8_26 dX8_addPerson_22 0 (wx_0 ta ad μ) rfl ?_
    refine rv_dup dX8_addPerson_25 rfl ?_
    refine gf_X8_72 dX8_addPerson_26 6 (wx_6 ta ad μ) rfl ?_
    refine rv_iconst (v := 1) dX8_addPerson_29 (by decide) ?_
    refine rv_iadd dX8_addPerson_30 ?_
    refine pf_X8_72 dX8_addPerson_31 6 (wx_6 ta ad μ) (rv_le rfl) (wx_f6_4 ta ad μ ((μ.1 6 4) + 1)) ?_
    refine rv_aload_n dX8_addPerson_34 rfl 0 rfl ?_
    refine gf_X8_26 dX8_addPerson_35 0 (wx_0 ta ad (mu_up μ 6 4 ((μ.1 6 4) + 1))) rfl ?_
    refine gf_X8_72 dX8_addPerson_38 6 (wx_6 ta ad (mu_up μ 6 4 ((μ.1 6 4) + 1))) rfl ?_
    refine rv_iconst (v := 1) dX8_addPerson_41 (by decide) ?_
    refine rv_isub dX8_addPerson_42 ?_
    obtain rfl := Option.some.inj h
    exact rv_iretX rfl dX8_addPerson_43 (rv_le rfl) (rv_le rfl) ⟨_, rfl, rfl, rfl⟩
  · replace h := rv_iff hc1 h
    obtain rfl := Option.some.inj h
    exact rv_throwS hl9 th_X8_76_78 dX8_addPerson_11 dX8_addPerson_14 dX8_addPerson_15 dX8_addPerson_17 dX8_addPerson_20 (rv_le rfl) (rv_le rfl) (rv_le rfl) (rv_le rfl) (rv_le rfl) (rv_le rfl) rfl ⟨rfl, rfl⟩
theorem vb_X8_requireRange_10 {l : Launch} {D : va_G} {ta : Nat → ClassId} {ws : va_W} (hl9 : l.stackTraces = false) {r : String ⊕ Unit} (h : b_X8_requireRange_10 = some r) : rv_V l D (rv_T ta) RX8 cX8_requireRange 3 none ("", []) (rv_rm 1 1 6) (rv_X D (rv_FX rv_vU r ws) (rv_GX r ws) 1 6) 0 0 ws 10 [] [] := by
  unfold b_X8_requireRange_10 at h
  obtain rfl := Option.some.inj h
  exact rv_throwW hl9 th_X8_217_283 dX8_requireRange_10 dX8_requireRange_13 dX8_requireRange_14 dX8_requireRange_17 dX8_requireRange_20 (rv_le rfl) (rv_le rfl) (rv_le rfl) (rv_le rfl) (rv_le rfl) (rv_le rfl) rfl ⟨rfl, rfl⟩
theorem ct_X8_requireRange {l : Launch} {D : va_G} {ta : Nat → ClassId} {ws : va_W} {x0 : Int32} {x1 : Int32} {x2 : Int32} {r : String ⊕ Unit} (hl9 : l.stackTraces = false) (h : f_X8_requireRange x0 x1 x2 = some r) : rv_CX l D (rv_T ta) yX8_requireRange cX8_requireRange 3 none 1 1 6 [.int x0, .int x1, .int x2] ws (rv_FX rv_vU r ws) (rv_GX r ws) := by
  refine rv_CXof2 (own := RX8) (lv := [(0, .int x0), (1, .int x1), (2, .int x2)]) rfl (by decide) (rv_le rfl) rfl ?_
  unfold f_X8_requireRange at h
  refine rv_iload_n dX8_requireRange_0 rfl 0 rfl ?_
  refine rv_iload_n dX8_requireRange_1 rfl 1 rfl ?_
  refine rv_icmp_lt (tgt := 10) dX8_requireRange_2 (by decide) (fun hc1 => ?_) (fun hc1 => ?_)
  · replace h := rv_ift hc1 h
    refine rv_sub [] rfl ?_
    exact vb_X8_requireRange_10 hl9 h
  · replace h := rv_iff hc1 h
    refine rv_iload_n dX8_requireRange_5 rfl 0 rfl ?_
    refine rv_iload_n dX8_requireRange_6 rfl 2 rfl ?_
    refine rv_icmp_le (tgt := 21) dX8_requireRange_7 (by decide) (fun hc2 => ?_) (fun hc2 => ?_)
    · replace h := rv_ift hc2 h
      obtain rfl := Option.some.inj h
      exact rv_vretX rfl dX8_requireRange_21 (rv_le rfl) (rv_le rfl) ⟨_, rfl, rfl, rfl⟩
    · replace h := rv_iff hc2 h
      refine rv_sub [] rfl ?_
      exact vb_X8_requireRange_10 hl9 h
theorem ct_X8_addShift {l : Launch} {D : va_G} {ta : Nat → ClassId} {ad : Nat → Nat} {μ : Mem} {x1 : Int32} {x2 : Int32} {r : (String ⊕ Int32) × Mem} (hl9 : l.stackTraces = false) (h : f_X8_addShift μ x1 x2 = some r) : rv_CX l D (rv_T ta) yX8_addShift cX8_addShift 3 (some .int) 2 3 18 [.ref (ad 0), .int x1, .int x2] (wx ta ad μ) (rv_FX rv_vI r.1 (wx ta ad r.2)) (rv_GX r.1 (wx ta ad r.2)) := by
  refine rv_CXof2 (own := RX8) (lv := [(0, .ref (ad 0)), (1, .int x1), (2, .int x2)]) rfl (by decide) (rv_le rfl) rfl ?_
  unfold f_X8_addShift at h
  refine rv_iload_n dX8_addShift_0 rfl 1 rfl ?_
  refine rv_iconst (v := 0) dX8_addShift_1 (by decide) ?_
  refine rv_sipush (v := 1439) dX8_addShift_2 (by decide) ?_
  obtain ⟨r1, hr1, h⟩ := rv_bind h
  refine rv_xcallSU (rest := []) (ct_X8_requireRange hl9 hr1) wm_X8_83 ws_X8_requireRange wc_X8_requireRange wz_X8 np_X8_requireRange dX8_addShift_5 rfl ⟨rv_le rfl, rv_le rfl⟩ ⟨rv_le rfl, rv_le rfl⟩ (rv_le rfl) (fun E9 h8 => ?_) (fun t2 et2 => ?_)
  · obtain rfl := rv_thm_l h8 h
    exact rv_out rfl (rv_le rfl) (rv_le rfl) ⟨rfl, rfl⟩
  · replace h := rv_thm_r et2 h
    refine rv_iload_n dX8_addShift_8 rfl 2 rfl ?_
    refine rv_iconst (v := 1) dX8_addShift_9 (by decide) ?_
    refine rv_sipush (v := 720) dX8_addShift_10 (by decide) ?_
    obtain ⟨r3, hr3, h⟩ := rv_bind h
    refine rv_xcallSU (rest := []) (ct_X8_requireRange hl9 hr3) wm_X8_83 ws_X8_requireRange wc_X8_requireRange wz_X8 np_X8_requireRange dX8_addShift_13 rfl ⟨rv_le rfl, rv_le rfl⟩ ⟨rv_le rfl, rv_le rfl⟩ (rv_le rfl) (fun E9 h8 => ?_) (fun t4 et4 => ?_)
    · obtain rfl := rv_thm_l h8 h
      exact rv_out rfl (rv_le rfl) (rv_le rfl) ⟨rfl, rfl⟩
    · replace h := rv_thm_r et4 h
      refine rv_aload_n dX8_addShift_16 rfl 0 rfl ?_
      refine gf_X8_12 dX8_addShift_17 0 (wx_0 ta ad μ) rfl ?_
      refine gf_X8_87 dX8_addShift_20 1 (wx_1 ta ad μ) rfl ?_
      refine rv_iconst (v := 3) dX8_addShift_23 (by decide) ?_
      refine rv_icmp_lt (tgt := 37) dX8_addShift_24 (by decide) (fun hc5 => ?_) (fun hc5 => ?_)
      · replace h := rv_ift hc5 h
        refine rv_aload_n dX8_addShift_37 rfl 0 rfl ?_
        refine gf_X8_12 dX8_addShift_38 0 (wx_0 ta ad μ) rfl ?_
        refine rv_iload_n dX8_addShift_41 rfl 1 rfl ?_
        refine rv_iload_n dX8_addShift_42 rfl 2 rfl ?_
        obtain ⟨r6, hr6, h⟩ := rv_bind h
        refine rv_callV1 (rest := []) (ct_X7_append hr6) wm_X8_92 wi_X7_append wl_X7_append wc_X7_append wz_X7 rfl np_X7_append dX8_addShift_43 rfl ⟨rv_le rfl, rv_le rfl⟩ ⟨rv_le rfl, rv_le rfl⟩ (rv_le rfl) 1 (wx_1 ta ad μ) cl_X7 ?_
        obtain rfl := Option.some.inj h
        exact rv_iretX rfl dX8_addShift_46 (rv_le rfl) (rv_le rfl) ⟨_, rfl, rfl, rfl⟩
      · replace h := rv_iff hc5 h
        obtain rfl := Option.some.inj h
        exact rv_throwS hl9 th_X8_76_90 dX8_addShift_27 dX8_addShift_30 dX8_addShift_31 dX8_addShift_33 dX8_addShift_36 (rv_le rfl) (rv_le rfl) (rv_le rfl) (rv_le rfl) (rv_le rfl) (rv_le rfl) rfl ⟨rfl, rfl⟩
theorem ct_X8_requireShift {l : Launch} {D : va_G} {ta : Nat → ClassId} {ad : Nat → Nat} {μ : Mem} {x1 : Int32} {r : String ⊕ Unit} (hl9 : l.stackTraces = false) (h : f_X8_requireShift μ x1 = some r) : rv_CX l D (rv_T ta) yX8_requireShift cX8_requireShift 2 none 2 1 6 [.ref (ad 0), .int x1] (wx ta ad μ) (rv_FX rv_vU r (wx ta ad μ)) (rv_GX r (wx ta ad μ)) := by
  refine rv_CXof2 (own := RX8) (lv := [(0, .ref (ad 0)), (1, .int x1)]) rfl (by decide) (rv_le rfl) rfl ?_
  unfold f_X8_requireShift at h
  refine rv_aload_n dX8_requireShift_0 rfl 0 rfl ?_
  refine gf_X8_12 dX8_requireShift_1 0 (wx_0 ta ad μ) rfl ?_
  refine rv_iload_n dX8_requireShift_4 rfl 1 rfl ?_
  obtain ⟨r1, hr1, h⟩ := rv_bind h
  refine rv_callV1 (rest := []) (ct_X7_has hr1) wm_X8_278 wi_X7_has wl_X7_has wc_X7_has wz_X7 rfl np_X7_has dX8_requireShift_5 rfl ⟨rv_le rfl, rv_le rfl⟩ ⟨rv_le rfl, rv_le rfl⟩ (rv_le rfl) 1 (wx_1 ta ad μ) cl_X7 ?_
  refine rv_if_ne (tgt := 22) dX8_requireShift_8 (by decide) (fun hc2 => ?_) (fun hc2 => ?_)
  · replace h := rv_iff hc2 h
    obtain rfl := Option.some.inj h
    exact rv_vretX rfl dX8_requireShift_22 (rv_le rfl) (rv_le rfl) ⟨_, rfl, rfl, rfl⟩
  · replace h := rv_ift hc2 h
    obtain rfl := Option.some.inj h
    exact rv_throwNW hl9 th_X8_160_281 dX8_requireShift_11 dX8_requireShift_14 dX8_requireShift_15 dX8_requireShift_18 dX8_requireShift_21 (rv_le rfl) (rv_le rfl) (rv_le rfl) (rv_le rfl) (rv_le rfl) (rv_le rfl) rfl ⟨rfl, rfl⟩
theorem ct_X8_isNight {l : Launch} {D : va_G} {ta : Nat → ClassId} {ad : Nat → Nat} {μ : Mem} {x1 : Int32} {r : String ⊕ Int32} (hl9 : l.stackTraces = false) (h : f_X8_isNight μ x1 = some r) : rv_CX l D (rv_T ta) yX8_isNight cX8_isNight 2 (some .boolean) 3 1 6 [.ref (ad 0), .int x1] (wx ta ad μ) (rv_FX rv_vI r (wx ta ad μ)) (rv_GX r (wx ta ad μ)) := by
  refine rv_CXof2 (own := RX8) (lv := [(0, .ref (ad 0)), (1, .int x1)]) rfl (by decide) (rv_le rfl) rfl ?_
  unfold f_X8_isNight at h
  refine rv_aload_n dX8_isNight_0 rfl 0 rfl ?_
  refine rv_iload_n dX8_isNight_1 rfl 1 rfl ?_
  obtain ⟨r1, hr1, h⟩ := rv_bind h
  refine rv_xcallVU (rest := []) (ct_X8_requireShift hl9 hr1) wm_X8_96 wi_X8_requireShift wl_X8_requireShift wc_X8_requireShift wz_X8 rfl np_X8_requireShift dX8_isNight_2 rfl ⟨rv_le rfl, rv_le rfl⟩ ⟨rv_le rfl, rv_le rfl⟩ (rv_le rfl) 0 (wx_0 ta ad μ) cl_X8 (fun E9 h8 => ?_) (fun t2 et2 => ?_)
  · obtain rfl := rv_thr_l h8 h
    exact rv_out rfl (rv_le rfl) (rv_le rfl) ⟨rfl, rfl⟩
  · replace h := rv_thr_r et2 h
    refine rv_aload_n dX8_isNight_5 rfl 0 rfl ?_
    refine gf_X8_12 dX8_isNight_6 0 (wx_0 ta ad μ) rfl ?_
    refine rv_iload_n dX8_isNight_9 rfl 1 rfl ?_
    obtain ⟨r3, hr3, h⟩ := rv_bind h
    refine rv_callV1 (rest := []) (ct_X7_holdsNight hr3) wm_X8_100 wi_X7_holdsNight wl_X7_holdsNight wc_X7_holdsNight wz_X7 rfl np_X7_holdsNight dX8_isNight_10 rfl ⟨rv_le rfl, rv_le rfl⟩ ⟨rv_le rfl, rv_le rfl⟩ (rv_le rfl) 1 (wx_1 ta ad μ) cl_X7 ?_
    obtain ⟨hi4, h⟩ := rv_ifn h
    obtain rfl := Option.some.inj h
    exact rv_zretX rfl (rv_bzP hi4) dX8_isNight_13 (rv_le rfl) (rv_le rfl) ⟨_, rfl, rfl, rfl⟩
theorem ct_X8_requirePerson {l : Launch} {D : va_G} {ta : Nat → ClassId} {ad : Nat → Nat} {μ : Mem} {x1 : Int32} {r : String ⊕ Unit} (hl9 : l.stackTraces = false) (h : f_X8_requirePerson μ x1 = some r) : rv_CX l D (rv_T ta) yX8_requirePerson cX8_requirePerson 2 none 2 1 6 [.ref (ad 0), .int x1] (wx ta ad μ) (rv_FX rv_vU r (wx ta ad μ)) (rv_GX r (wx ta ad μ)) := by
  refine rv_CXof2 (own := RX8) (lv := [(0, .ref (ad 0)), (1, .int x1)]) rfl (by decide) (rv_le rfl) rfl ?_
  unfold f_X8_requirePerson at h
  refine rv_aload_n dX8_requirePerson_0 rfl 0 rfl ?_
  refine gf_X8_26 dX8_requirePerson_1 0 (wx_0 ta ad μ) rfl ?_
  refine rv_iload_n dX8_requirePerson_4 rfl 1 rfl ?_
  obtain ⟨r1, hr1, h⟩ := rv_bind h
  refine rv_callV1 (rest := []) (ct_X5_hasPerson hr1) wm_X8_268 wi_X5_hasPerson wl_X5_hasPerson wc_X5_hasPerson wz_X5 rfl np_X5_hasPerson dX8_requirePerson_5 rfl ⟨rv_le rfl, rv_le rfl⟩ ⟨rv_le rfl, rv_le rfl⟩ (rv_le rfl) 6 (wx_6 ta ad μ) cl_X5 ?_
  refine rv_if_ne (tgt := 22) dX8_requirePerson_8 (by decide) (fun hc2 => ?_) (fun hc2 => ?_)
  · replace h := rv_iff hc2 h
    obtain rfl := Option.some.inj h
    exact rv_vretX rfl dX8_requirePerson_22 (rv_le rfl) (rv_le rfl) ⟨_, rfl, rfl, rfl⟩
  · replace h := rv_ift hc2 h
    obtain rfl := Option.some.inj h
    exact rv_throwW hl9 th_X8_271_273 dX8_requirePerson_11 dX8_requirePerson_14 dX8_requirePerson_15 dX8_requirePerson_18 dX8_requirePerson_21 (rv_le rfl) (rv_le rfl) (rv_le rfl) (rv_le rfl) (rv_le rfl) (rv_le rfl) rfl ⟨rfl, rfl⟩
theorem vb_X8_teach_27 {l : Launch} {D : va_G} {ta : Nat → ClassId} {ad : Nat → Nat} (hl9 : l.stackTraces = false) {μ : Mem} {x1 : Int32} {x2 : Int32} {s0 : Int32} {r : (String ⊕ Int32) × Mem} (h : b_X8_teach_27 μ x1 x2 s0 = some r) : rv_V l D (rv_T ta) RX8 cX8_teach 4 (some .boolean) ("", []) (rv_rm 3 2 12) (rv_X D (rv_FX rv_vI r.1 (wx ta ad r.2)) (rv_GX r.1 (wx ta ad r.2)) 2 12) 2 12 (wx ta ad μ) 27 [(0, .ref (ad 0)), (1, .int x1), (2, .int x2)] [.int s0] := by
  unfold b_X8_teach_27 at h
  refine rv_istore_n (lv2 := [(3, .int s0), (0, .ref (ad 0)), (1, .int x1), (2, .int x2)]) dX8_teach_27 rfl (by decide) rfl ?_
  refine rv_aload_n dX8_teach_28 rfl 1 rfl ?_
  refine gf_X8_26 dX8_teach_29 0 (wx_0 ta ad μ) rfl ?_
  refine rv_iload_n dX8_teach_32 rfl 2 rfl ?_
  refine rv_iload_n dX8_teach_33 rfl 3 rfl ?_
  obtain ⟨r7, hr7, h⟩ := rv_bind h
  refine rv_callV0 (rest := []) (ct_X5_putSkill hr7) wm_X8_111 wi_X5_putSkill wl_X5_putSkill wc_X5_putSkill wz_X5 rfl np_X5_putSkill dX8_teach_34 rfl ⟨rv_le rfl, rv_le rfl⟩ ⟨rv_le rfl, rv_le rfl⟩ (rv_le rfl) 6 (wx_6 ta ad μ) cl_X5 ?_
  refine rv_iload_n dX8_teach_37 rfl 0 rfl ?_
  obtain ⟨hi8, h⟩ := rv_ifn h
  obtain rfl := Option.some.inj h
  exact rv_zretX rfl (rv_bzP hi8) dX8_teach_38 (rv_le rfl) (rv_le rfl) ⟨_, rfl, rfl, rfl⟩
theorem ct_X8_teach {l : Launch} {D : va_G} {ta : Nat → ClassId} {ad : Nat → Nat} {μ : Mem} {x1 : Int32} {x2 : Int32} {r : (String ⊕ Int32) × Mem} (hl9 : l.stackTraces = false) (h : f_X8_teach μ x1 x2 = some r) : rv_CX l D (rv_T ta) yX8_teach cX8_teach 4 (some .boolean) 3 2 12 [.ref (ad 0), .int x1, .int x2] (wx ta ad μ) (rv_FX rv_vI r.1 (wx ta ad r.2)) (rv_GX r.1 (wx ta ad r.2)) := by
  refine rv_CXof2 (own := RX8) (lv := [(0, .ref (ad 0)), (1, .int x1), (2, .int x2)]) rfl (by decide) (rv_le rfl) rfl ?_
  unfold f_X8_teach at h
  refine rv_aload_n dX8_teach_0 rfl 0 rfl ?_
  refine rv_iload_n dX8_teach_1 rfl 1 rfl ?_
  obtain ⟨r1, hr1, h⟩ := rv_bind h
  refine rv_xcallVU (rest := []) (ct_X8_requirePerson hl9 hr1) wm_X8_104 wi_X8_requirePerson wl_X8_requirePerson wc_X8_requirePerson wz_X8 rfl np_X8_requirePerson dX8_teach_2 rfl ⟨rv_le rfl, rv_le rfl⟩ ⟨rv_le rfl, rv_le rfl⟩ (rv_le rfl) 0 (wx_0 ta ad μ) cl_X8 (fun E9 h8 => ?_) (fun t2 et2 => ?_)
  · obtain rfl := rv_thm_l h8 h
    exact rv_out rfl (rv_le rfl) (rv_le rfl) ⟨rfl, rfl⟩
  · replace h := rv_thm_r et2 h
    refine rv_aload_n dX8_teach_5 rfl 0 rfl ?_
    refine rv_iload_n dX8_teach_6 rfl 2 rfl ?_
    obtain ⟨r3, hr3, h⟩ := rv_bind h
    refine rv_xcallVU (rest := []) (ct_X8_requireShift hl9 hr3) wm_X8_96 wi_X8_requireShift wl_X8_requireShift wc_X8_requireShift wz_X8 rfl np_X8_requireShift dX8_teach_7 rfl ⟨rv_le rfl, rv_le rfl⟩ ⟨rv_le rfl, rv_le rfl⟩ (rv_le rfl) 0 (wx_0 ta ad μ) cl_X8 (fun E9 h8 => ?_) (fun t4 et4 => ?_)
    · obtain rfl := rv_thm_l h8 h
      exact rv_out rfl (rv_le rfl) (rv_le rfl) ⟨rfl, rfl⟩
    · replace h := rv_thm_r et4 h
      refine rv_aload_n dX8_teach_10 rfl 0 rfl ?_
      refine gf_X8_26 dX8_teach_11 0 (wx_0 ta ad μ) rfl ?_
      refine rv_iload_n dX8_teach_14 rfl 1 rfl ?_
      refine rv_iload_n dX8_teach_15 rfl 2 rfl ?_
      obtain ⟨r5, hr5, h⟩ := rv_bind h
      refine rv_callV1 (rest := []) (ct_X5_hasSkill hr5) wm_X8_107 wi_X5_hasSkill wl_X5_hasSkill wc_X5_hasSkill wz_X5 rfl np_X5_hasSkill dX8_teach_16 rfl ⟨rv_le rfl, rv_le rfl⟩ ⟨rv_le rfl, rv_le rfl⟩ (rv_le rfl) 6 (wx_6 ta ad μ) cl_X5 ?_
      refine rv_if_ne (tgt := 26) dX8_teach_19 (by decide) (fun hc6 => ?_) (fun hc6 => ?_)
      · replace h := rv_iff hc6 h
        refine rv_iconst (v := 0) dX8_teach_26 (by decide) ?_
        exact vb_X8_teach_27 hl9 h
      · replace h := rv_ift hc6 h
        refine rv_iconst (v := 1) dX8_teach_22 (by decide) ?_
        refine rv_goto (tgt := 27) dX8_teach_23 (by decide) ?_
        exact vb_X8_teach_27 hl9 h
theorem ct_X8_setRest {l : Launch} {D : va_G} {ta : Nat → ClassId} {ad : Nat → Nat} {μ : Mem} {x1 : Int32} {r : (String ⊕ Int32) × Mem} (hl9 : l.stackTraces = false) (h : f_X8_setRest μ x1 = some r) : rv_CX l D (rv_T ta) yX8_setRest cX8_setRest 3 (some .int) 2 1 6 [.ref (ad 0), .int x1] (wx ta ad μ) (rv_FX rv_vI r.1 (wx ta ad r.2)) (rv_GX r.1 (wx ta ad r.2)) := by
  refine rv_CXof2 (own := RX8) (lv := [(0, .ref (ad 0)), (1, .int x1)]) rfl (by decide) (rv_le rfl) rfl ?_
  unfold f_X8_setRest at h
  refine rv_iload_n dX8_setRest_0 rfl 1 rfl ?_
  refine rv_iconst (v := 0) dX8_setRest_1 (by decide) ?_
  refine rv_sipush (v := 2000) dX8_setRest_2 (by decide) ?_
  obtain ⟨r1, hr1, h⟩ := rv_bind h
  refine rv_xcallSU (rest := []) (ct_X8_requireRange hl9 hr1) wm_X8_83 ws_X8_requireRange wc_X8_requireRange wz_X8 np_X8_requireRange dX8_setRest_5 rfl ⟨rv_le rfl, rv_le rfl⟩ ⟨rv_le rfl, rv_le rfl⟩ (rv_le rfl) (fun E9 h8 => ?_) (fun t2 et2 => ?_)
  · obtain rfl := rv_thm_l h8 h
    exact rv_out rfl (rv_le rfl) (rv_le rfl) ⟨rfl, rfl⟩
  · replace h := rv_thm_r et2 h
    refine rv_aload_n dX8_setRest_8 rfl 0 rfl ?_
    refine gf_X8_19 dX8_setRest_9 0 (wx_0 ta ad μ) rfl ?_
    refine gf_X8_115 dX8_setRest_12 4 (wx_4 ta ad μ) rfl ?_
    refine rv_istore_n (lv2 := [(2, .int (μ.1 4 1)), (0, .ref (ad 0)), (1, .int x1)]) dX8_setRest_15 rfl (by decide) rfl ?_
    refine rv_aload_n dX8_setRest_16 rfl 1 rfl ?_
    refine gf_X8_19 dX8_setRest_17 0 (wx_0 ta ad μ) rfl ?_
    refine rv_iload_n dX8_setRest_20 rfl 2 rfl ?_
    refine pf_X8_115 dX8_setRest_21 4 (wx_4 ta ad μ) (rv_le rfl) (wx_f4_1 ta ad μ x1) ?_
    refine rv_iload_n dX8_setRest_24 rfl 0 rfl ?_
    obtain rfl := Option.some.inj h
    exact rv_iretX rfl dX8_setRest_25 (rv_le rfl) (rv_le rfl) ⟨_, rfl, rfl, rfl⟩
theorem ct_X8_setNights {l : Launch} {D : va_G} {ta : Nat → ClassId} {ad : Nat → Nat} {μ : Mem} {x1 : Int32} {r : (String ⊕ Int32) × Mem} (hl9 : l.stackTraces = false) (h : f_X8_setNights μ x1 = some r) : rv_CX l D (rv_T ta) yX8_setNights cX8_setNights 3 (some .int) 2 1 6 [.ref (ad 0), .int x1] (wx ta ad μ) (rv_FX rv_vI r.1 (wx ta ad r.2)) (rv_GX r.1 (wx ta ad r.2)) := by
  refine rv_CXof2 (own := RX8) (lv := [(0, .ref (ad 0)), (1, .int x1)]) rfl (by decide) (rv_le rfl) rfl ?_
  unfold f_X8_setNights at h
  refine rv_iload_n dX8_setNights_0 rfl 1 rfl ?_
  refine rv_iconst (v := 1) dX8_setNights_1 (by decide) ?_
  refine rv_bipush (v := 8) dX8_setNights_2 (by decide) ?_
  obtain ⟨r1, hr1, h⟩ := rv_bind h
  refine rv_xcallSU (rest := []) (ct_X8_requireRange hl9 hr1) wm_X8_83 ws_X8_requireRange wc_X8_requireRange wz_X8 np_X8_requireRange dX8_setNights_4 rfl ⟨rv_le rfl, rv_le rfl⟩ ⟨rv_le rfl, rv_le rfl⟩ (rv_le rfl) (fun E9 h8 => ?_) (fun t2 et2 => ?_)
  · obtain rfl := rv_thm_l h8 h
    exact rv_out rfl (rv_le rfl) (rv_le rfl) ⟨rfl, rfl⟩
  · replace h := rv_thm_r et2 h
    refine rv_aload_n dX8_setNights_7 rfl 0 rfl ?_
    refine gf_X8_19 dX8_setNights_8 0 (wx_0 ta ad μ) rfl ?_
    refine gf_X8_118 dX8_setNights_11 4 (wx_4 ta ad μ) rfl ?_
    refine rv_istore_n (lv2 := [(2, .int (μ.1 4 2)), (0, .ref (ad 0)), (1, .int x1)]) dX8_setNights_14 rfl (by decide) rfl ?_
    refine rv_aload_n dX8_setNights_15 rfl 1 rfl ?_
    refine gf_X8_19 dX8_setNights_16 0 (wx_0 ta ad μ) rfl ?_
    refine rv_iload_n dX8_setNights_19 rfl 2 rfl ?_
    refine pf_X8_118 dX8_setNights_20 4 (wx_4 ta ad μ) (rv_le rfl) (wx_f4_2 ta ad μ x1) ?_
    refine rv_iload_n dX8_setNights_23 rfl 0 rfl ?_
    obtain rfl := Option.some.inj h
    exact rv_iretX rfl dX8_setNights_24 (rv_le rfl) (rv_le rfl) ⟨_, rfl, rfl, rfl⟩
theorem ct_X8_setRun {l : Launch} {D : va_G} {ta : Nat → ClassId} {ad : Nat → Nat} {μ : Mem} {x1 : Int32} {r : (String ⊕ Int32) × Mem} (hl9 : l.stackTraces = false) (h : f_X8_setRun μ x1 = some r) : rv_CX l D (rv_T ta) yX8_setRun cX8_setRun 3 (some .int) 2 1 6 [.ref (ad 0), .int x1] (wx ta ad μ) (rv_FX rv_vI r.1 (wx ta ad r.2)) (rv_GX r.1 (wx ta ad r.2)) := by
  refine rv_CXof2 (own := RX8) (lv := [(0, .ref (ad 0)), (1, .int x1)]) rfl (by decide) (rv_le rfl) rfl ?_
  unfold f_X8_setRun at h
  refine rv_iload_n dX8_setRun_0 rfl 1 rfl ?_
  refine rv_iconst (v := 1) dX8_setRun_1 (by decide) ?_
  refine rv_bipush (v := 8) dX8_setRun_2 (by decide) ?_
  obtain ⟨r1, hr1, h⟩ := rv_bind h
  refine rv_xcallSU (rest := []) (ct_X8_requireRange hl9 hr1) wm_X8_83 ws_X8_requireRange wc_X8_requireRange wz_X8 np_X8_requireRange dX8_setRun_4 rfl ⟨rv_le rfl, rv_le rfl⟩ ⟨rv_le rfl, rv_le rfl⟩ (rv_le rfl) (fun E9 h8 => ?_) (fun t2 et2 => ?_)
  · obtain rfl := rv_thm_l h8 h
    exact rv_out rfl (rv_le rfl) (rv_le rfl) ⟨rfl, rfl⟩
  · replace h := rv_thm_r et2 h
    refine rv_aload_n dX8_setRun_7 rfl 0 rfl ?_
    refine gf_X8_19 dX8_setRun_8 0 (wx_0 ta ad μ) rfl ?_
    refine gf_X8_121 dX8_setRun_11 4 (wx_4 ta ad μ) rfl ?_
    refine rv_istore_n (lv2 := [(2, .int (μ.1 4 3)), (0, .ref (ad 0)), (1, .int x1)]) dX8_setRun_14 rfl (by decide) rfl ?_
    refine rv_aload_n dX8_setRun_15 rfl 1 rfl ?_
    refine gf_X8_19 dX8_setRun_16 0 (wx_0 ta ad μ) rfl ?_
    refine rv_iload_n dX8_setRun_19 rfl 2 rfl ?_
    refine pf_X8_121 dX8_setRun_20 4 (wx_4 ta ad μ) (rv_le rfl) (wx_f4_3 ta ad μ x1) ?_
    refine rv_iload_n dX8_setRun_23 rfl 0 rfl ?_
    obtain rfl := Option.some.inj h
    exact rv_iretX rfl dX8_setRun_24 (rv_le rfl) (rv_le rfl) ⟨_, rfl, rfl, rfl⟩
theorem ct_X8_setHours {l : Launch} {D : va_G} {ta : Nat → ClassId} {ad : Nat → Nat} {μ : Mem} {x1 : Int32} {x2 : Int32} {r : (String ⊕ Int32) × Mem} (hl9 : l.stackTraces = false) (h : f_X8_setHours μ x1 x2 = some r) : rv_CX l D (rv_T ta) yX8_setHours cX8_setHours 4 (some .int) 2 2 12 [.ref (ad 0), .int x1, .int x2] (wx ta ad μ) (rv_FX rv_vI r.1 (wx ta ad r.2)) (rv_GX r.1 (wx ta ad r.2)) := by
  refine rv_CXof2 (own := RX8) (lv := [(0, .ref (ad 0)), (1, .int x1), (2, .int x2)]) rfl (by decide) (rv_le rfl) rfl ?_
  unfold f_X8_setHours at h
  refine rv_iload_n dX8_setHours_0 rfl 1 rfl ?_
  refine rv_iconst (v := 1) dX8_setHours_1 (by decide) ?_
  refine rv_bipush (v := 8) dX8_setHours_2 (by decide) ?_
  obtain ⟨r1, hr1, h⟩ := rv_bind h
  refine rv_xcallSU (rest := []) (ct_X8_requireRange hl9 hr1) wm_X8_83 ws_X8_requireRange wc_X8_requireRange wz_X8 np_X8_requireRange dX8_setHours_4 rfl ⟨rv_le rfl, rv_le rfl⟩ ⟨rv_le rfl, rv_le rfl⟩ (rv_le rfl) (fun E9 h8 => ?_) (fun t2 et2 => ?_)
  · obtain rfl := rv_thm_l h8 h
    exact rv_out rfl (rv_le rfl) (rv_le rfl) ⟨rfl, rfl⟩
  · replace h := rv_thm_r et2 h
    refine rv_iload_n dX8_setHours_7 rfl 2 rfl ?_
    refine rv_iconst (v := 0) dX8_setHours_8 (by decide) ?_
    refine rv_sipush (v := 6000) dX8_setHours_9 (by decide) ?_
    obtain ⟨r3, hr3, h⟩ := rv_bind h
    refine rv_xcallSU (rest := []) (ct_X8_requireRange hl9 hr3) wm_X8_83 ws_X8_requireRange wc_X8_requireRange wz_X8 np_X8_requireRange dX8_setHours_12 rfl ⟨rv_le rfl, rv_le rfl⟩ ⟨rv_le rfl, rv_le rfl⟩ (rv_le rfl) (fun E9 h8 => ?_) (fun t4 et4 => ?_)
    · obtain rfl := rv_thm_l h8 h
      exact rv_out rfl (rv_le rfl) (rv_le rfl) ⟨rfl, rfl⟩
    · replace h := rv_thm_r et4 h
      refine rv_aload_n dX8_setHours_15 rfl 0 rfl ?_
      refine gf_X8_19 dX8_setHours_16 0 (wx_0 ta ad μ) rfl ?_
      refine gf_X8_124 dX8_setHours_19 4 (wx_4 ta ad μ) rfl ?_
      refine rv_istore_n (lv2 := [(3, .int (μ.1 4 5)), (0, .ref (ad 0)), (1, .int x1), (2, .int x2)]) dX8_setHours_22 rfl (by decide) rfl ?_
      refine rv_aload_n dX8_setHours_23 rfl 1 rfl ?_
      refine gf_X8_19 dX8_setHours_24 0 (wx_0 ta ad μ) rfl ?_
      refine rv_iload_n dX8_setHours_27 rfl 2 rfl ?_
      refine pf_X8_127 dX8_setHours_28 4 (wx_4 ta ad μ) (rv_le rfl) (wx_f4_4 ta ad μ x1) ?_
      refine rv_aload_n dX8_setHours_31 rfl 1 rfl ?_
      refine gf_X8_19 dX8_setHours_32 0 (wx_0 ta ad (mu_up μ 4 4 x1)) rfl ?_
      refine rv_iload_n dX8_setHours_35 rfl 3 rfl ?_
      refine pf_X8_124 dX8_setHours_36 4 (wx_4 ta ad (mu_up μ 4 4 x1)) (rv_le rfl) (wx_f4_5 ta ad (mu_up μ 4 4 x1) x2) ?_
      refine rv_iload_n dX8_setHours_39 rfl 0 rfl ?_
      obtain rfl := Option.some.inj h
      exact rv_iretX rfl dX8_setHours_40 (rv_le rfl) (rv_le rfl) ⟨_, rfl, rfl, rfl⟩
theorem vb_X8_requireDay_10 {l : Launch} {D : va_G} {ta : Nat → ClassId} {ws : va_W} (hl9 : l.stackTraces = false) {r : String ⊕ Unit} (h : b_X8_requireDay_10 = some r) : rv_V l D (rv_T ta) RX8 cX8_requireDay 1 none ("", []) (rv_rm 1 1 6) (rv_X D (rv_FX rv_vU r ws) (rv_GX r ws) 1 6) 0 0 ws 10 [] [] := by
  unfold b_X8_requireDay_10 at h
  obtain rfl := Option.some.inj h
  exact rv_throwW hl9 th_X8_271_276 dX8_requireDay_10 dX8_requireDay_13 dX8_requireDay_14 dX8_requireDay_17 dX8_requireDay_20 (rv_le rfl) (rv_le rfl) (rv_le rfl) (rv_le rfl) (rv_le rfl) (rv_le rfl) rfl ⟨rfl, rfl⟩
theorem ct_X8_requireDay {l : Launch} {D : va_G} {ta : Nat → ClassId} {ws : va_W} {x0 : Int32} {r : String ⊕ Unit} (hl9 : l.stackTraces = false) (h : f_X8_requireDay x0 = some r) : rv_CX l D (rv_T ta) yX8_requireDay cX8_requireDay 1 none 1 1 6 [.int x0] ws (rv_FX rv_vU r ws) (rv_GX r ws) := by
  refine rv_CXof2 (own := RX8) (lv := [(0, .int x0)]) rfl (by decide) (rv_le rfl) rfl ?_
  unfold f_X8_requireDay at h
  refine rv_iload_n dX8_requireDay_0 rfl 0 rfl ?_
  refine rv_if_lt (tgt := 10) dX8_requireDay_1 (by decide) (fun hc1 => ?_) (fun hc1 => ?_)
  · replace h := rv_ift hc1 h
    refine rv_sub [] rfl ?_
    exact vb_X8_requireDay_10 hl9 h
  · replace h := rv_iff hc1 h
    refine rv_iload_n dX8_requireDay_4 rfl 0 rfl ?_
    refine rv_bipush (v := 8) dX8_requireDay_5 (by decide) ?_
    refine rv_icmp_lt (tgt := 21) dX8_requireDay_7 (by decide) (fun hc2 => ?_) (fun hc2 => ?_)
    · replace h := rv_ift hc2 h
      obtain rfl := Option.some.inj h
      exact rv_vretX rfl dX8_requireDay_21 (rv_le rfl) (rv_le rfl) ⟨_, rfl, rfl, rfl⟩
    · replace h := rv_iff hc2 h
      refine rv_sub [] rfl ?_
      exact vb_X8_requireDay_10 hl9 h
theorem ct_X8_setDemand {l : Launch} {D : va_G} {ta : Nat → ClassId} {ad : Nat → Nat} {μ : Mem} {x1 : Int32} {x2 : Int32} {x3 : Int32} {r : (String ⊕ Int32) × Mem} (hl9 : l.stackTraces = false) (h : f_X8_setDemand μ x1 x2 x3 = some r) : rv_CX l D (rv_T ta) yX8_setDemand cX8_setDemand 5 (some .int) 3 3 18 [.ref (ad 0), .int x1, .int x2, .int x3] (wx ta ad μ) (rv_FX rv_vI r.1 (wx ta ad r.2)) (rv_GX r.1 (wx ta ad r.2)) := by
  refine rv_CXof2 (own := RX8) (lv := [(0, .ref (ad 0)), (1, .int x1), (2, .int x2), (3, .int x3)]) rfl (by decide) (rv_le rfl) rfl ?_
  unfold f_X8_setDemand at h
  refine rv_iload_n dX8_setDemand_0 rfl 1 rfl ?_
  obtain ⟨r1, hr1, h⟩ := rv_bind h
  refine rv_xcallSU (rest := []) (ct_X8_requireDay hl9 hr1) wm_X8_130 ws_X8_requireDay wc_X8_requireDay wz_X8 np_X8_requireDay dX8_setDemand_1 rfl ⟨rv_le rfl, rv_le rfl⟩ ⟨rv_le rfl, rv_le rfl⟩ (rv_le rfl) (fun E9 h8 => ?_) (fun t2 et2 => ?_)
  · obtain rfl := rv_thm_l h8 h
    exact rv_out rfl (rv_le rfl) (rv_le rfl) ⟨rfl, rfl⟩
  · replace h := rv_thm_r et2 h
    refine rv_aload_n dX8_setDemand_4 rfl 0 rfl ?_
    refine rv_iload_n dX8_setDemand_5 rfl 2 rfl ?_
    obtain ⟨r3, hr3, h⟩ := rv_bind h
    refine rv_xcallVU (rest := []) (ct_X8_requireShift hl9 hr3) wm_X8_96 wi_X8_requireShift wl_X8_requireShift wc_X8_requireShift wz_X8 rfl np_X8_requireShift dX8_setDemand_6 rfl ⟨rv_le rfl, rv_le rfl⟩ ⟨rv_le rfl, rv_le rfl⟩ (rv_le rfl) 0 (wx_0 ta ad μ) cl_X8 (fun E9 h8 => ?_) (fun t4 et4 => ?_)
    · obtain rfl := rv_thm_l h8 h
      exact rv_out rfl (rv_le rfl) (rv_le rfl) ⟨rfl, rfl⟩
    · replace h := rv_thm_r et4 h
      refine rv_iload_n dX8_setDemand_9 rfl 3 rfl ?_
      refine rv_iconst (v := 0) dX8_setDemand_10 (by decide) ?_
      refine rv_iconst (v := 4) dX8_setDemand_11 (by decide) ?_
      obtain ⟨r5, hr5, h⟩ := rv_bind h
      refine rv_xcallSU (rest := []) (ct_X8_requireRange hl9 hr5) wm_X8_83 ws_X8_requireRange wc_X8_requireRange wz_X8 np_X8_requireRange dX8_setDemand_12 rfl ⟨rv_le rfl, rv_le rfl⟩ ⟨rv_le rfl, rv_le rfl⟩ (rv_le rfl) (fun E9 h8 => ?_) (fun t6 et6 => ?_)
      · obtain rfl := rv_thm_l h8 h
        exact rv_out rfl (rv_le rfl) (rv_le rfl) ⟨rfl, rfl⟩
      · replace h := rv_thm_r et6 h
        refine rv_aload_n dX8_setDemand_15 rfl 0 rfl ?_
        refine gf_X8_19 dX8_setDemand_16 0 (wx_0 ta ad μ) rfl ?_
        refine rv_iload_n dX8_setDemand_19 rfl 1 rfl ?_
        refine rv_iload_n dX8_setDemand_20 rfl 2 rfl ?_
        obtain ⟨r7, hr7, h⟩ := rv_bind h
        refine rv_callV1 (rest := []) (ct_X6_demandAt hr7) wm_X8_133 wi_X6_demandAt wl_X6_demandAt wc_X6_demandAt wz_X6 rfl np_X6_demandAt dX8_setDemand_21 rfl ⟨rv_le rfl, rv_le rfl⟩ ⟨rv_le rfl, rv_le rfl⟩ (rv_le rfl) 4 (wx_4 ta ad μ) cl_X6 ?_
        refine rv_istore (lv2 := [(4, .int r7), (0, .ref (ad 0)), (1, .int x1), (2, .int x2), (3, .int x3)]) dX8_setDemand_24 (by decide) rfl ?_
        refine rv_aload_n dX8_setDemand_26 rfl 1 rfl ?_
        refine gf_X8_19 dX8_setDemand_27 0 (wx_0 ta ad μ) rfl ?_
        refine rv_iload_n dX8_setDemand_30 rfl 2 rfl ?_
        refine rv_iload_n dX8_setDemand_31 rfl 3 rfl ?_
        refine rv_iload_n dX8_setDemand_32 rfl 4 rfl ?_
        obtain ⟨r8, hr8, h⟩ := rv_bind h
        refine rv_callV0 (rest := []) (ct_X6_putDemand hr8) wm_X8_136 wi_X6_putDemand wl_X6_putDemand wc_X6_putDemand wz_X6 rfl np_X6_putDemand dX8_setDemand_33 rfl ⟨rv_le rfl, rv_le rfl⟩ ⟨rv_le rfl, rv_le rfl⟩ (rv_le rfl) 4 (wx_4 ta ad μ) cl_X6 ?_
        refine rv_iload dX8_setDemand_36 0 rfl ?_
        obtain rfl := Option.some.inj h
        exact rv_iretX rfl dX8_setDemand_38 (rv_le rfl) (rv_le rfl) ⟨_, rfl, rfl, rfl⟩
theorem ct_X8_assign {l : Launch} {D : va_G} {ta : Nat → ClassId} {ad : Nat → Nat} {μ : Mem} {x1 : Int32} {x2 : Int32} {x3 : Int32} {r : (String ⊕ Int32) × Mem} (hl9 : l.stackTraces = false) (h : f_X8_assign μ x1 x2 x3 = some r) : rv_CX l D (rv_T ta) yX8_assign cX8_assign 5 (some .int) 4 3 18 [.ref (ad 0), .int x1, .int x2, .int x3] (wx ta ad μ) (rv_FX rv_vI r.1 (wx ta ad r.2)) (rv_GX r.1 (wx ta ad r.2)) := by
  refine rv_CXof2 (own := RX8) (lv := [(0, .ref (ad 0)), (1, .int x1), (2, .int x2), (3, .int x3)]) rfl (by decide) (rv_le rfl) rfl ?_
  unfold f_X8_assign at h
  refine rv_aload_n dX8_assign_0 rfl 0 rfl ?_
  refine rv_iload_n dX8_assign_1 rfl 1 rfl ?_
  obtain ⟨r1, hr1, h⟩ := rv_bind h
  refine rv_xcallVU (rest := []) (ct_X8_requirePerson hl9 hr1) wm_X8_104 wi_X8_requirePerson wl_X8_requirePerson wc_X8_requirePerson wz_X8 rfl np_X8_requirePerson dX8_assign_2 rfl ⟨rv_le rfl, rv_le rfl⟩ ⟨rv_le rfl, rv_le rfl⟩ (rv_le rfl) 0 (wx_0 ta ad μ) cl_X8 (fun E9 h8 => ?_) (fun t2 et2 => ?_)
  · obtain rfl := rv_thm_l h8 h
    exact rv_out rfl (rv_le rfl) (rv_le rfl) ⟨rfl, rfl⟩
  · replace h := rv_thm_r et2 h
    refine rv_iload_n dX8_assign_5 rfl 2 rfl ?_
    obtain ⟨r3, hr3, h⟩ := rv_bind h
    refine rv_xcallSU (rest := []) (ct_X8_requireDay hl9 hr3) wm_X8_130 ws_X8_requireDay wc_X8_requireDay wz_X8 np_X8_requireDay dX8_assign_6 rfl ⟨rv_le rfl, rv_le rfl⟩ ⟨rv_le rfl, rv_le rfl⟩ (rv_le rfl) (fun E9 h8 => ?_) (fun t4 et4 => ?_)
    · obtain rfl := rv_thm_l h8 h
      exact rv_out rfl (rv_le rfl) (rv_le rfl) ⟨rfl, rfl⟩
    · replace h := rv_thm_r et4 h
      refine rv_aload_n dX8_assign_9 rfl 0 rfl ?_
      refine rv_iload_n dX8_assign_10 rfl 3 rfl ?_
      obtain ⟨r5, hr5, h⟩ := rv_bind h
      refine rv_xcallVU (rest := []) (ct_X8_requireShift hl9 hr5) wm_X8_96 wi_X8_requireShift wl_X8_requireShift wc_X8_requireShift wz_X8 rfl np_X8_requireShift dX8_assign_11 rfl ⟨rv_le rfl, rv_le rfl⟩ ⟨rv_le rfl, rv_le rfl⟩ (rv_le rfl) 0 (wx_0 ta ad μ) cl_X8 (fun E9 h8 => ?_) (fun t6 et6 => ?_)
      · obtain rfl := rv_thm_l h8 h
        exact rv_out rfl (rv_le rfl) (rv_le rfl) ⟨rfl, rfl⟩
      · replace h := rv_thm_r et6 h
        refine rv_aload_n dX8_assign_14 rfl 0 rfl ?_
        refine gf_X8_26 dX8_assign_15 0 (wx_0 ta ad μ) rfl ?_
        refine rv_iload_n dX8_assign_18 rfl 1 rfl ?_
        refine rv_iload_n dX8_assign_19 rfl 2 rfl ?_
        obtain ⟨r7, hr7, h⟩ := rv_bind h
        refine rv_callV1 (rest := []) (ct_X5_shiftAt hr7) wm_X8_139 wi_X5_shiftAt wl_X5_shiftAt wc_X5_shiftAt wz_X5 rfl np_X5_shiftAt dX8_assign_20 rfl ⟨rv_le rfl, rv_le rfl⟩ ⟨rv_le rfl, rv_le rfl⟩ (rv_le rfl) 6 (wx_6 ta ad μ) cl_X5 ?_
        refine rv_istore (lv2 := [(4, .int r7), (0, .ref (ad 0)), (1, .int x1), (2, .int x2), (3, .int x3)]) dX8_assign_23 (by decide) rfl ?_
        refine rv_aload_n dX8_assign_25 rfl 1 rfl ?_
        refine gf_X8_26 dX8_assign_26 0 (wx_0 ta ad μ) rfl ?_
        refine rv_iload_n dX8_assign_29 rfl 2 rfl ?_
        refine rv_iload_n dX8_assign_30 rfl 3 rfl ?_
        obtain ⟨r8, hr8, h⟩ := rv_bind h
        refine rv_callS1 (rest := [.ref (ad 6)]) (ct_X8_cellOf hr8) wm_X8_142 ws_X8_cellOf wc_X8_cellOf wz_X8 np_X8_cellOf dX8_assign_31 rfl ⟨rv_le rfl, rv_le rfl⟩ ⟨rv_le rfl, rv_le rfl⟩ (rv_le rfl) ?_
        refine rv_iload_n dX8_assign_34 rfl 4 rfl ?_
        refine rv_iconst (v := 1) dX8_assign_35 (by decide) ?_
        refine rv_iadd dX8_assign_36 ?_
        obtain ⟨r9, hr9, h⟩ := rv_bind h
        refine rv_callV0 (rest := []) (ct_X5_put hr9) wm_X8_145 wi_X5_put wl_X5_put wc_X5_put wz_X5 rfl np_X5_put dX8_assign_37 rfl ⟨rv_le rfl, rv_le rfl⟩ ⟨rv_le rfl, rv_le rfl⟩ (rv_le rfl) 6 (wx_6 ta ad μ) cl_X5 ?_
        refine rv_iload dX8_assign_40 0 rfl ?_
        obtain rfl := Option.some.inj h
        exact rv_iretX rfl dX8_assign_42 (rv_le rfl) (rv_le rfl) ⟨_, rfl, rfl, rfl⟩
theorem ct_X8_free {l : Launch} {D : va_G} {ta : Nat → ClassId} {ad : Nat → Nat} {μ : Mem} {x1 : Int32} {x2 : Int32} {r : (String ⊕ Int32) × Mem} (hl9 : l.stackTraces = false) (h : f_X8_free μ x1 x2 = some r) : rv_CX l D (rv_T ta) yX8_free cX8_free 4 (some .int) 4 3 18 [.ref (ad 0), .int x1, .int x2] (wx ta ad μ) (rv_FX rv_vI r.1 (wx ta ad r.2)) (rv_GX r.1 (wx ta ad r.2)) := by
  refine rv_CXof2 (own := RX8) (lv := [(0, .ref (ad 0)), (1, .int x1), (2, .int x2)]) rfl (by decide) (rv_le rfl) rfl ?_
  unfold f_X8_free at h
  refine rv_aload_n dX8_free_0 rfl 0 rfl ?_
  refine rv_iload_n dX8_free_1 rfl 1 rfl ?_
  obtain ⟨r1, hr1, h⟩ := rv_bind h
  refine rv_xcallVU (rest := []) (ct_X8_requirePerson hl9 hr1) wm_X8_104 wi_X8_requirePerson wl_X8_requirePerson wc_X8_requirePerson wz_X8 rfl np_X8_requirePerson dX8_free_2 rfl ⟨rv_le rfl, rv_le rfl⟩ ⟨rv_le rfl, rv_le rfl⟩ (rv_le rfl) 0 (wx_0 ta ad μ) cl_X8 (fun E9 h8 => ?_) (fun t2 et2 => ?_)
  · obtain rfl := rv_thm_l h8 h
    exact rv_out rfl (rv_le rfl) (rv_le rfl) ⟨rfl, rfl⟩
  · replace h := rv_thm_r et2 h
    refine rv_iload_n dX8_free_5 rfl 2 rfl ?_
    obtain ⟨r3, hr3, h⟩ := rv_bind h
    refine rv_xcallSU (rest := []) (ct_X8_requireDay hl9 hr3) wm_X8_130 ws_X8_requireDay wc_X8_requireDay wz_X8 np_X8_requireDay dX8_free_6 rfl ⟨rv_le rfl, rv_le rfl⟩ ⟨rv_le rfl, rv_le rfl⟩ (rv_le rfl) (fun E9 h8 => ?_) (fun t4 et4 => ?_)
    · obtain rfl := rv_thm_l h8 h
      exact rv_out rfl (rv_le rfl) (rv_le rfl) ⟨rfl, rfl⟩
    · replace h := rv_thm_r et4 h
      refine rv_aload_n dX8_free_9 rfl 0 rfl ?_
      refine gf_X8_26 dX8_free_10 0 (wx_0 ta ad μ) rfl ?_
      refine rv_iload_n dX8_free_13 rfl 1 rfl ?_
      refine rv_iload_n dX8_free_14 rfl 2 rfl ?_
      obtain ⟨r5, hr5, h⟩ := rv_bind h
      refine rv_callV1 (rest := []) (ct_X5_shiftAt hr5) wm_X8_139 wi_X5_shiftAt wl_X5_shiftAt wc_X5_shiftAt wz_X5 rfl np_X5_shiftAt dX8_free_15 rfl ⟨rv_le rfl, rv_le rfl⟩ ⟨rv_le rfl, rv_le rfl⟩ (rv_le rfl) 6 (wx_6 ta ad μ) cl_X5 ?_
      refine rv_istore_n (lv2 := [(3, .int r5), (0, .ref (ad 0)), (1, .int x1), (2, .int x2)]) dX8_free_18 rfl (by decide) rfl ?_
      refine rv_iload_n dX8_free_19 rfl 0 rfl ?_
      refine rv_iconst (v := (-1)) dX8_free_20 (by decide) ?_
      refine rv_icmp_ne (tgt := 34) dX8_free_21 (by decide) (fun hc6 => ?_) (fun hc6 => ?_)
      · replace h := rv_iff hc6 h
        refine rv_aload_n dX8_free_34 rfl 1 rfl ?_
        refine gf_X8_26 dX8_free_35 0 (wx_0 ta ad μ) rfl ?_
        refine rv_iload_n dX8_free_38 rfl 2 rfl ?_
        refine rv_iload_n dX8_free_39 rfl 3 rfl ?_
        obtain ⟨r7, hr7, h⟩ := rv_bind h
        refine rv_callS1 (rest := [.ref (ad 6)]) (ct_X8_cellOf hr7) wm_X8_142 ws_X8_cellOf wc_X8_cellOf wz_X8 np_X8_cellOf dX8_free_40 rfl ⟨rv_le rfl, rv_le rfl⟩ ⟨rv_le rfl, rv_le rfl⟩ (rv_le rfl) ?_
        refine rv_iconst (v := 0) dX8_free_43 (by decide) ?_
        obtain ⟨r8, hr8, h⟩ := rv_bind h
        refine rv_callV0 (rest := []) (ct_X5_put hr8) wm_X8_145 wi_X5_put wl_X5_put wc_X5_put wz_X5 rfl np_X5_put dX8_free_44 rfl ⟨rv_le rfl, rv_le rfl⟩ ⟨rv_le rfl, rv_le rfl⟩ (rv_le rfl) 6 (wx_6 ta ad μ) cl_X5 ?_
        refine rv_iload_n dX8_free_47 rfl 0 rfl ?_
        obtain rfl := Option.some.inj h
        exact rv_iretX rfl dX8_free_48 (rv_le rfl) (rv_le rfl) ⟨_, rfl, rfl, rfl⟩
      · replace h := rv_ift hc6 h
        obtain rfl := Option.some.inj h
        exact rv_throwS hl9 th_X8_76_148 dX8_free_24 dX8_free_27 dX8_free_28 dX8_free_30 dX8_free_33 (rv_le rfl) (rv_le rfl) (rv_le rfl) (rv_le rfl) (rv_le rfl) (rv_le rfl) rfl ⟨rfl, rfl⟩
theorem ct_X8_setAbsent {l : Launch} {D : va_G} {ta : Nat → ClassId} {ad : Nat → Nat} {μ : Mem} {x1 : Int32} {x2 : Int32} {x3 : Int32} {r : (String ⊕ Int32) × Mem} (hl9 : l.stackTraces = false) (h : f_X8_setAbsent μ x1 x2 x3 = some r) : rv_CX l D (rv_T ta) yX8_setAbsent cX8_setAbsent 5 (some .boolean) 3 2 12 [.ref (ad 0), .int x1, .int x2, .int x3] (wx ta ad μ) (rv_FX rv_vI r.1 (wx ta ad r.2)) (rv_GX r.1 (wx ta ad r.2)) := by
  refine rv_CXof2 (own := RX8) (lv := [(0, .ref (ad 0)), (1, .int x1), (2, .int x2), (3, .int x3)]) rfl (by decide) (rv_le rfl) rfl ?_
  unfold f_X8_setAbsent at h
  refine rv_aload_n dX8_setAbsent_0 rfl 0 rfl ?_
  refine rv_iload_n dX8_setAbsent_1 rfl 1 rfl ?_
  obtain ⟨r1, hr1, h⟩ := rv_bind h
  refine rv_xcallVU (rest := []) (ct_X8_requirePerson hl9 hr1) wm_X8_104 wi_X8_requirePerson wl_X8_requirePerson wc_X8_requirePerson wz_X8 rfl np_X8_requirePerson dX8_setAbsent_2 rfl ⟨rv_le rfl, rv_le rfl⟩ ⟨rv_le rfl, rv_le rfl⟩ (rv_le rfl) 0 (wx_0 ta ad μ) cl_X8 (fun E9 h8 => ?_) (fun t2 et2 => ?_)
  · obtain rfl := rv_thm_l h8 h
    exact rv_out rfl (rv_le rfl) (rv_le rfl) ⟨rfl, rfl⟩
  · replace h := rv_thm_r et2 h
    refine rv_iload_n dX8_setAbsent_5 rfl 2 rfl ?_
    obtain ⟨r3, hr3, h⟩ := rv_bind h
    refine rv_xcallSU (rest := []) (ct_X8_requireDay hl9 hr3) wm_X8_130 ws_X8_requireDay wc_X8_requireDay wz_X8 np_X8_requireDay dX8_setAbsent_6 rfl ⟨rv_le rfl, rv_le rfl⟩ ⟨rv_le rfl, rv_le rfl⟩ (rv_le rfl) (fun E9 h8 => ?_) (fun t4 et4 => ?_)
    · obtain rfl := rv_thm_l h8 h
      exact rv_out rfl (rv_le rfl) (rv_le rfl) ⟨rfl, rfl⟩
    · replace h := rv_thm_r et4 h
      refine rv_aload_n dX8_setAbsent_9 rfl 0 rfl ?_
      refine gf_X8_26 dX8_setAbsent_10 0 (wx_0 ta ad μ) rfl ?_
      refine rv_iload_n dX8_setAbsent_13 rfl 1 rfl ?_
      refine rv_iload_n dX8_setAbsent_14 rfl 2 rfl ?_
      obtain ⟨r5, hr5, h⟩ := rv_bind h
      refine rv_callV1 (rest := []) (ct_X5_isAway hr5) wm_X8_150 wi_X5_isAway wl_X5_isAway wc_X5_isAway wz_X5 rfl np_X5_isAway dX8_setAbsent_15 rfl ⟨rv_le rfl, rv_le rfl⟩ ⟨rv_le rfl, rv_le rfl⟩ (rv_le rfl) 6 (wx_6 ta ad μ) cl_X5 ?_
      refine rv_istore (lv2 := [(4, .int r5), (0, .ref (ad 0)), (1, .int x1), (2, .int x2), (3, .int x3)]) dX8_setAbsent_18 (by decide) rfl ?_
      refine rv_aload_n dX8_setAbsent_20 rfl 1 rfl ?_
      refine gf_X8_26 dX8_setAbsent_21 0 (wx_0 ta ad μ) rfl ?_
      refine rv_iload_n dX8_setAbsent_24 rfl 2 rfl ?_
      refine rv_iload_n dX8_setAbsent_25 rfl 3 rfl ?_
      refine rv_iload_n dX8_setAbsent_26 rfl 4 rfl ?_
      obtain ⟨r6, hr6, h⟩ := rv_bind h
      refine rv_callV0 (rest := []) (ct_X5_putAway hr6) wm_X8_153 wi_X5_putAway wl_X5_putAway wc_X5_putAway wz_X5 rfl np_X5_putAway dX8_setAbsent_27 rfl ⟨rv_le rfl, rv_le rfl⟩ ⟨rv_le rfl, rv_le rfl⟩ (rv_le rfl) 6 (wx_6 ta ad μ) cl_X5 ?_
      refine rv_iload dX8_setAbsent_30 0 rfl ?_
      obtain ⟨hi7, h⟩ := rv_ifn h
      obtain rfl := Option.some.inj h
      exact rv_zretX rfl (rv_bzP hi7) dX8_setAbsent_32 (rv_le rfl) (rv_le rfl) ⟨_, rfl, rfl, rfl⟩
theorem ct_X8_shiftOf {l : Launch} {D : va_G} {ta : Nat → ClassId} {ad : Nat → Nat} {μ : Mem} {x1 : Int32} {x2 : Int32} {r : String ⊕ Int32} (hl9 : l.stackTraces = false) (h : f_X8_shiftOf μ x1 x2 = some r) : rv_CX l D (rv_T ta) yX8_shiftOf cX8_shiftOf 3 (some .int) 3 2 12 [.ref (ad 0), .int x1, .int x2] (wx ta ad μ) (rv_FX rv_vI r (wx ta ad μ)) (rv_GX r (wx ta ad μ)) := by
  refine rv_CXof2 (own := RX8) (lv := [(0, .ref (ad 0)), (1, .int x1), (2, .int x2)]) rfl (by decide) (rv_le rfl) rfl ?_
  unfold f_X8_shiftOf at h
  refine rv_aload_n dX8_shiftOf_0 rfl 0 rfl ?_
  refine rv_iload_n dX8_shiftOf_1 rfl 1 rfl ?_
  obtain ⟨r1, hr1, h⟩ := rv_bind h
  refine rv_xcallVU (rest := []) (ct_X8_requirePerson hl9 hr1) wm_X8_104 wi_X8_requirePerson wl_X8_requirePerson wc_X8_requirePerson wz_X8 rfl np_X8_requirePerson dX8_shiftOf_2 rfl ⟨rv_le rfl, rv_le rfl⟩ ⟨rv_le rfl, rv_le rfl⟩ (rv_le rfl) 0 (wx_0 ta ad μ) cl_X8 (fun E9 h8 => ?_) (fun t2 et2 => ?_)
  · obtain rfl := rv_thr_l h8 h
    exact rv_out rfl (rv_le rfl) (rv_le rfl) ⟨rfl, rfl⟩
  · replace h := rv_thr_r et2 h
    refine rv_iload_n dX8_shiftOf_5 rfl 2 rfl ?_
    obtain ⟨r3, hr3, h⟩ := rv_bind h
    refine rv_xcallSU (rest := []) (ct_X8_requireDay hl9 hr3) wm_X8_130 ws_X8_requireDay wc_X8_requireDay wz_X8 np_X8_requireDay dX8_shiftOf_6 rfl ⟨rv_le rfl, rv_le rfl⟩ ⟨rv_le rfl, rv_le rfl⟩ (rv_le rfl) (fun E9 h8 => ?_) (fun t4 et4 => ?_)
    · obtain rfl := rv_thr_l h8 h
      exact rv_out rfl (rv_le rfl) (rv_le rfl) ⟨rfl, rfl⟩
    · replace h := rv_thr_r et4 h
      refine rv_aload_n dX8_shiftOf_9 rfl 0 rfl ?_
      refine gf_X8_26 dX8_shiftOf_10 0 (wx_0 ta ad μ) rfl ?_
      refine rv_iload_n dX8_shiftOf_13 rfl 1 rfl ?_
      refine rv_iload_n dX8_shiftOf_14 rfl 2 rfl ?_
      obtain ⟨r5, hr5, h⟩ := rv_bind h
      refine rv_callV1 (rest := []) (ct_X5_shiftAt hr5) wm_X8_139 wi_X5_shiftAt wl_X5_shiftAt wc_X5_shiftAt wz_X5 rfl np_X5_shiftAt dX8_shiftOf_15 rfl ⟨rv_le rfl, rv_le rfl⟩ ⟨rv_le rfl, rv_le rfl⟩ (rv_le rfl) 6 (wx_6 ta ad μ) cl_X5 ?_
      obtain rfl := Option.some.inj h
      exact rv_iretX rfl dX8_shiftOf_18 (rv_le rfl) (rv_le rfl) ⟨_, rfl, rfl, rfl⟩
theorem ct_X8_restBefore {l : Launch} {D : va_G} {ta : Nat → ClassId} {ad : Nat → Nat} {μ : Mem} {x1 : Int32} {x2 : Int32} {r : String ⊕ Int32} (hl9 : l.stackTraces = false) (h : f_X8_restBefore μ x1 x2 = some r) : rv_CX l D (rv_T ta) yX8_restBefore cX8_restBefore 4 (some .int) 5 3 18 [.ref (ad 0), .int x1, .int x2] (wx ta ad μ) (rv_FX rv_vI r (wx ta ad μ)) (rv_GX r (wx ta ad μ)) := by
  refine rv_CXof2 (own := RX8) (lv := [(0, .ref (ad 0)), (1, .int x1), (2, .int x2)]) rfl (by decide) (rv_le rfl) rfl ?_
  unfold f_X8_restBefore at h
  refine rv_aload_n dX8_restBefore_0 rfl 0 rfl ?_
  refine rv_iload_n dX8_restBefore_1 rfl 1 rfl ?_
  obtain ⟨r1, hr1, h⟩ := rv_bind h
  refine rv_xcallVU (rest := []) (ct_X8_requirePerson hl9 hr1) wm_X8_104 wi_X8_requirePerson wl_X8_requirePerson wc_X8_requirePerson wz_X8 rfl np_X8_requirePerson dX8_restBefore_2 rfl ⟨rv_le rfl, rv_le rfl⟩ ⟨rv_le rfl, rv_le rfl⟩ (rv_le rfl) 0 (wx_0 ta ad μ) cl_X8 (fun E9 h8 => ?_) (fun t2 et2 => ?_)
  · obtain rfl := rv_thr_l h8 h
    exact rv_out rfl (rv_le rfl) (rv_le rfl) ⟨rfl, rfl⟩
  · replace h := rv_thr_r et2 h
    refine rv_iload_n dX8_restBefore_5 rfl 2 rfl ?_
    obtain ⟨r3, hr3, h⟩ := rv_bind h
    refine rv_xcallSU (rest := []) (ct_X8_requireDay hl9 hr3) wm_X8_130 ws_X8_requireDay wc_X8_requireDay wz_X8 np_X8_requireDay dX8_restBefore_6 rfl ⟨rv_le rfl, rv_le rfl⟩ ⟨rv_le rfl, rv_le rfl⟩ (rv_le rfl) (fun E9 h8 => ?_) (fun t4 et4 => ?_)
    · obtain rfl := rv_thr_l h8 h
      exact rv_out rfl (rv_le rfl) (rv_le rfl) ⟨rfl, rfl⟩
    · replace h := rv_thr_r et4 h
      refine rv_aload_n dX8_restBefore_9 rfl 0 rfl ?_
      refine gf_X8_35 dX8_restBefore_10 0 (wx_0 ta ad μ) rfl ?_
      refine rv_iload_n dX8_restBefore_13 rfl 1 rfl ?_
      refine rv_iload_n dX8_restBefore_14 rfl 2 rfl ?_
      obtain ⟨r5, hr5, h⟩ := rv_bind h
      refine rv_callV1 (rest := []) (ct_X3_restAt hr5) wm_X8_157 wi_X3_restAt wl_X3_restAt wc_X3_restAt wz_X3 rfl np_X3_restAt dX8_restBefore_15 rfl ⟨rv_le rfl, rv_le rfl⟩ ⟨rv_le rfl, rv_le rfl⟩ (rv_le rfl) 11 (wx_11 ta ad μ) cl_X3 ?_
      refine rv_istore_n (lv2 := [(3, .int r5), (0, .ref (ad 0)), (1, .int x1), (2, .int x2)]) dX8_restBefore_18 rfl (by decide) rfl ?_
      refine rv_iload_n dX8_restBefore_19 rfl 0 rfl ?_
      refine rv_sipush (v := (-1440)) dX8_restBefore_20 (by decide) ?_
      refine rv_icmp_ne (tgt := 36) dX8_restBefore_23 (by decide) (fun hc6 => ?_) (fun hc6 => ?_)
      · replace h := rv_iff hc6 h
        refine rv_iload_n dX8_restBefore_36 rfl 0 rfl ?_
        obtain rfl := Option.some.inj h
        exact rv_iretX rfl dX8_restBefore_37 (rv_le rfl) (rv_le rfl) ⟨_, rfl, rfl, rfl⟩
      · replace h := rv_ift hc6 h
        obtain rfl := Option.some.inj h
        exact rv_throwN hl9 th_X8_160_162 dX8_restBefore_26 dX8_restBefore_29 dX8_restBefore_30 dX8_restBefore_32 dX8_restBefore_35 (rv_le rfl) (rv_le rfl) (rv_le rfl) (rv_le rfl) (rv_le rfl) (rv_le rfl) rfl ⟨rfl, rfl⟩
theorem ct_X8_longestNights {l : Launch} {D : va_G} {ta : Nat → ClassId} {ad : Nat → Nat} {μ : Mem} {x1 : Int32} {r : String ⊕ Int32} (hl9 : l.stackTraces = false) (h : f_X8_longestNights μ x1 = some r) : rv_CX l D (rv_T ta) yX8_longestNights cX8_longestNights 2 (some .int) 5 1 6 [.ref (ad 0), .int x1] (wx ta ad μ) (rv_FX rv_vI r (wx ta ad μ)) (rv_GX r (wx ta ad μ)) := by
  refine rv_CXof2 (own := RX8) (lv := [(0, .ref (ad 0)), (1, .int x1)]) rfl (by decide) (rv_le rfl) rfl ?_
  unfold f_X8_longestNights at h
  refine rv_aload_n dX8_longestNights_0 rfl 0 rfl ?_
  refine rv_iload_n dX8_longestNights_1 rfl 1 rfl ?_
  obtain ⟨r1, hr1, h⟩ := rv_bind h
  refine rv_xcallVU (rest := []) (ct_X8_requirePerson hl9 hr1) wm_X8_104 wi_X8_requirePerson wl_X8_requirePerson wc_X8_requirePerson wz_X8 rfl np_X8_requirePerson dX8_longestNights_2 rfl ⟨rv_le rfl, rv_le rfl⟩ ⟨rv_le rfl, rv_le rfl⟩ (rv_le rfl) 0 (wx_0 ta ad μ) cl_X8 (fun E9 h8 => ?_) (fun t2 et2 => ?_)
  · obtain rfl := rv_thr_l h8 h
    exact rv_out rfl (rv_le rfl) (rv_le rfl) ⟨rfl, rfl⟩
  · replace h := rv_thr_r et2 h
    refine rv_aload_n dX8_longestNights_5 rfl 0 rfl ?_
    refine gf_X8_35 dX8_longestNights_6 0 (wx_0 ta ad μ) rfl ?_
    refine rv_iload_n dX8_longestNights_9 rfl 1 rfl ?_
    obtain ⟨r3, hr3, h⟩ := rv_bind h
    refine rv_callV1 (rest := []) (ct_X3_nightsByCounting hr3) wm_X8_165 wi_X3_nightsByCounting wl_X3_nightsByCounting wc_X3_nightsByCounting wz_X3 rfl np_X3_nightsByCounting dX8_longestNights_10 rfl ⟨rv_le rfl, rv_le rfl⟩ ⟨rv_le rfl, rv_le rfl⟩ (rv_le rfl) 11 (wx_11 ta ad μ) cl_X3 ?_
    obtain rfl := Option.some.inj h
    exact rv_iretX rfl dX8_longestNights_13 (rv_le rfl) (rv_le rfl) ⟨_, rfl, rfl, rfl⟩
theorem ct_X8_longestByRows {l : Launch} {D : va_G} {ta : Nat → ClassId} {ad : Nat → Nat} {μ : Mem} {x1 : Int32} {r : String ⊕ Int32} (hl9 : l.stackTraces = false) (h : f_X8_longestByRows μ x1 = some r) : rv_CX l D (rv_T ta) yX8_longestByRows cX8_longestByRows 2 (some .int) 6 1 6 [.ref (ad 0), .int x1] (wx ta ad μ) (rv_FX rv_vI r (wx ta ad μ)) (rv_GX r (wx ta ad μ)) := by
  refine rv_CXof2 (own := RX8) (lv := [(0, .ref (ad 0)), (1, .int x1)]) rfl (by decide) (rv_le rfl) rfl ?_
  unfold f_X8_longestByRows at h
  refine rv_aload_n dX8_longestByRows_0 rfl 0 rfl ?_
  refine rv_iload_n dX8_longestByRows_1 rfl 1 rfl ?_
  obtain ⟨r1, hr1, h⟩ := rv_bind h
  refine rv_xcallVU (rest := []) (ct_X8_requirePerson hl9 hr1) wm_X8_104 wi_X8_requirePerson wl_X8_requirePerson wc_X8_requirePerson wz_X8 rfl np_X8_requirePerson dX8_longestByRows_2 rfl ⟨rv_le rfl, rv_le rfl⟩ ⟨rv_le rfl, rv_le rfl⟩ (rv_le rfl) 0 (wx_0 ta ad μ) cl_X8 (fun E9 h8 => ?_) (fun t2 et2 => ?_)
  · obtain rfl := rv_thr_l h8 h
    exact rv_out rfl (rv_le rfl) (rv_le rfl) ⟨rfl, rfl⟩
  · replace h := rv_thr_r et2 h
    refine rv_aload_n dX8_longestByRows_5 rfl 0 rfl ?_
    refine gf_X8_35 dX8_longestByRows_6 0 (wx_0 ta ad μ) rfl ?_
    refine rv_iload_n dX8_longestByRows_9 rfl 1 rfl ?_
    obtain ⟨r3, hr3, h⟩ := rv_bind h
    refine rv_callV1 (rest := []) (ct_X3_nightsByTryingRows hr3) wm_X8_169 wi_X3_nightsByTryingRows wl_X3_nightsByTryingRows wc_X3_nightsByTryingRows wz_X3 rfl np_X3_nightsByTryingRows dX8_longestByRows_10 rfl ⟨rv_le rfl, rv_le rfl⟩ ⟨rv_le rfl, rv_le rfl⟩ (rv_le rfl) 11 (wx_11 ta ad μ) cl_X3 ?_
    obtain rfl := Option.some.inj h
    exact rv_iretX rfl dX8_longestByRows_13 (rv_le rfl) (rv_le rfl) ⟨_, rfl, rfl, rfl⟩
theorem ct_X8_peak {l : Launch} {D : va_G} {ta : Nat → ClassId} {ad : Nat → Nat} {μ : Mem} {x1 : Int32} {r : String ⊕ Int32} (hl9 : l.stackTraces = false) (h : f_X8_peak μ x1 = some r) : rv_CX l D (rv_T ta) yX8_peak cX8_peak 2 (some .int) 5 1 6 [.ref (ad 0), .int x1] (wx ta ad μ) (rv_FX rv_vI r (wx ta ad μ)) (rv_GX r (wx ta ad μ)) := by
  refine rv_CXof2 (own := RX8) (lv := [(0, .ref (ad 0)), (1, .int x1)]) rfl (by decide) (rv_le rfl) rfl ?_
  unfold f_X8_peak at h
  refine rv_aload_n dX8_peak_0 rfl 0 rfl ?_
  refine rv_iload_n dX8_peak_1 rfl 1 rfl ?_
  obtain ⟨r1, hr1, h⟩ := rv_bind h
  refine rv_xcallVU (rest := []) (ct_X8_requirePerson hl9 hr1) wm_X8_104 wi_X8_requirePerson wl_X8_requirePerson wc_X8_requirePerson wz_X8 rfl np_X8_requirePerson dX8_peak_2 rfl ⟨rv_le rfl, rv_le rfl⟩ ⟨rv_le rfl, rv_le rfl⟩ (rv_le rfl) 0 (wx_0 ta ad μ) cl_X8 (fun E9 h8 => ?_) (fun t2 et2 => ?_)
  · obtain rfl := rv_thr_l h8 h
    exact rv_out rfl (rv_le rfl) (rv_le rfl) ⟨rfl, rfl⟩
  · replace h := rv_thr_r et2 h
    refine rv_aload_n dX8_peak_5 rfl 0 rfl ?_
    refine gf_X8_35 dX8_peak_6 0 (wx_0 ta ad μ) rfl ?_
    refine rv_iload_n dX8_peak_9 rfl 1 rfl ?_
    obtain ⟨r3, hr3, h⟩ := rv_bind h
    refine rv_callV1 (rest := []) (ct_X3_sumByMoving hr3) wm_X8_172 wi_X3_sumByMoving wl_X3_sumByMoving wc_X3_sumByMoving wz_X3 rfl np_X3_sumByMoving dX8_peak_10 rfl ⟨rv_le rfl, rv_le rfl⟩ ⟨rv_le rfl, rv_le rfl⟩ (rv_le rfl) 11 (wx_11 ta ad μ) cl_X3 ?_
    obtain rfl := Option.some.inj h
    exact rv_iretX rfl dX8_peak_13 (rv_le rfl) (rv_le rfl) ⟨_, rfl, rfl, rfl⟩
theorem ct_X8_peakByAdding {l : Launch} {D : va_G} {ta : Nat → ClassId} {ad : Nat → Nat} {μ : Mem} {x1 : Int32} {r : String ⊕ Int32} (hl9 : l.stackTraces = false) (h : f_X8_peakByAdding μ x1 = some r) : rv_CX l D (rv_T ta) yX8_peakByAdding cX8_peakByAdding 2 (some .int) 5 1 6 [.ref (ad 0), .int x1] (wx ta ad μ) (rv_FX rv_vI r (wx ta ad μ)) (rv_GX r (wx ta ad μ)) := by
  refine rv_CXof2 (own := RX8) (lv := [(0, .ref (ad 0)), (1, .int x1)]) rfl (by decide) (rv_le rfl) rfl ?_
  unfold f_X8_peakByAdding at h
  refine rv_aload_n dX8_peakByAdding_0 rfl 0 rfl ?_
  refine rv_iload_n dX8_peakByAdding_1 rfl 1 rfl ?_
  obtain ⟨r1, hr1, h⟩ := rv_bind h
  refine rv_xcallVU (rest := []) (ct_X8_requirePerson hl9 hr1) wm_X8_104 wi_X8_requirePerson wl_X8_requirePerson wc_X8_requirePerson wz_X8 rfl np_X8_requirePerson dX8_peakByAdding_2 rfl ⟨rv_le rfl, rv_le rfl⟩ ⟨rv_le rfl, rv_le rfl⟩ (rv_le rfl) 0 (wx_0 ta ad μ) cl_X8 (fun E9 h8 => ?_) (fun t2 et2 => ?_)
  · obtain rfl := rv_thr_l h8 h
    exact rv_out rfl (rv_le rfl) (rv_le rfl) ⟨rfl, rfl⟩
  · replace h := rv_thr_r et2 h
    refine rv_aload_n dX8_peakByAdding_5 rfl 0 rfl ?_
    refine gf_X8_35 dX8_peakByAdding_6 0 (wx_0 ta ad μ) rfl ?_
    refine rv_iload_n dX8_peakByAdding_9 rfl 1 rfl ?_
    obtain ⟨r3, hr3, h⟩ := rv_bind h
    refine rv_callV1 (rest := []) (ct_X3_sumByAddingAnew hr3) wm_X8_175 wi_X3_sumByAddingAnew wl_X3_sumByAddingAnew wc_X3_sumByAddingAnew wz_X3 rfl np_X3_sumByAddingAnew dX8_peakByAdding_10 rfl ⟨rv_le rfl, rv_le rfl⟩ ⟨rv_le rfl, rv_le rfl⟩ (rv_le rfl) 11 (wx_11 ta ad μ) cl_X3 ?_
    obtain rfl := Option.some.inj h
    exact rv_iretX rfl dX8_peakByAdding_13 (rv_le rfl) (rv_le rfl) ⟨_, rfl, rfl, rfl⟩
theorem ct_X8_breaches {l : Launch} {D : va_G} {ta : Nat → ClassId} {ad : Nat → Nat} {μ : Mem} {r : (Int32) × Mem} (h : f_X8_breaches μ = some r) : rv_C l D (rv_T ta) yX8_breaches cX8_breaches 1 (some .int) 5 0 0 [.ref (ad 0)] (wx ta ad μ) (rv_F (rv_vI r.1) (wx ta ad r.2)) := by
  refine rv_Cof2 (own := RX8) (lv := [(0, .ref (ad 0))]) rfl (by decide) (rv_le rfl) rfl ?_
  unfold f_X8_breaches at h
  refine rv_aload_n dX8_breaches_0 rfl 0 rfl ?_
  refine gf_X8_42 dX8_breaches_1 0 (wx_0 ta ad μ) rfl ?_
  refine rv_aload_n dX8_breaches_4 rfl 0 rfl ?_
  refine gf_X8_49 dX8_breaches_5 0 (wx_0 ta ad μ) rfl ?_
  obtain ⟨r1, hr1, h⟩ := rv_bind h
  refine rv_callV0 (rest := []) (ct_X1_look_13 hr1) wm_X8_178 wi_X1_look wl_X1_look wc_X1_look wz_X1 rfl np_X1_look dX8_breaches_8 rfl ⟨rv_le rfl, rv_le rfl⟩ ⟨rv_le rfl, rv_le rfl⟩ (rv_le rfl) 12 (wx_12 ta ad μ) cl_X1 ?_
  refine rv_aload_n dX8_breaches_11 rfl 0 rfl ?_
  refine gf_X8_49 dX8_breaches_12 0 (wx_0 ta ad r1.2) rfl ?_
  obtain ⟨r2, hr2, h⟩ := rv_bind h
  refine rv_callV1 (rest := []) (ct_X2_size_13 hr2) wm_X8_182 wi_X2_size wl_X2_size wc_X2_size wz_X2 rfl np_X2_size dX8_breaches_15 rfl ⟨rv_le rfl, rv_le rfl⟩ ⟨rv_le rfl, rv_le rfl⟩ (rv_le rfl) 13 (wx_13 ta ad r1.2) cl_X2 ?_
  obtain rfl := Option.some.inj h
  exact rv_iret rfl dX8_breaches_18 (rv_le rfl) (rv_le rfl) ⟨rfl, rfl⟩
theorem ct_X8_requireBreach {l : Launch} {D : va_G} {ta : Nat → ClassId} {ad : Nat → Nat} {μ : Mem} {x1 : Int32} {r : (String ⊕ Int32) × Mem} (hl9 : l.stackTraces = false) (h : f_X8_requireBreach μ x1 = some r) : rv_CX l D (rv_T ta) yX8_requireBreach cX8_requireBreach 3 (some .int) 5 1 6 [.ref (ad 0), .int x1] (wx ta ad μ) (rv_FX rv_vI r.1 (wx ta ad r.2)) (rv_GX r.1 (wx ta ad r.2)) := by
  refine rv_CXof2 (own := RX8) (lv := [(0, .ref (ad 0)), (1, .int x1)]) rfl (by decide) (rv_le rfl) rfl ?_
  unfold f_X8_requireBreach at h
  refine rv_aload_n dX8_requireBreach_0 rfl 0 rfl ?_
  refine gf_X8_42 dX8_requireBreach_1 0 (wx_0 ta ad μ) rfl ?_
  refine rv_aload_n dX8_requireBreach_4 rfl 0 rfl ?_
  refine gf_X8_49 dX8_requireBreach_5 0 (wx_0 ta ad μ) rfl ?_
  obtain ⟨r1, hr1, h⟩ := rv_bind h
  refine rv_callV0 (rest := []) (ct_X1_look_13 hr1) wm_X8_178 wi_X1_look wl_X1_look wc_X1_look wz_X1 rfl np_X1_look dX8_requireBreach_8 rfl ⟨rv_le rfl, rv_le rfl⟩ ⟨rv_le rfl, rv_le rfl⟩ (rv_le rfl) 12 (wx_12 ta ad μ) cl_X1 ?_
  refine rv_aload_n dX8_requireBreach_11 rfl 0 rfl ?_
  refine gf_X8_49 dX8_requireBreach_12 0 (wx_0 ta ad r1.2) rfl ?_
  refine rv_iload_n dX8_requireBreach_15 rfl 1 rfl ?_
  obtain ⟨r2, hr2, h⟩ := rv_bind h
  refine rv_callV1 (rest := []) (ct_X2_breachAt_13 hr2) wm_X8_289 wi_X2_breachAt wl_X2_breachAt wc_X2_breachAt wz_X2 rfl np_X2_breachAt dX8_requireBreach_16 rfl ⟨rv_le rfl, rv_le rfl⟩ ⟨rv_le rfl, rv_le rfl⟩ (rv_le rfl) 13 (wx_13 ta ad r1.2) cl_X2 ?_
  refine rv_istore_n (lv2 := [(2, .int r2), (0, .ref (ad 0)), (1, .int x1)]) dX8_requireBreach_19 rfl (by decide) rfl ?_
  refine rv_iload_n dX8_requireBreach_20 rfl 0 rfl ?_
  refine rv_iconst (v := (-1)) dX8_requireBreach_21 (by decide) ?_
  refine rv_icmp_ne (tgt := 36) dX8_requireBreach_22 (by decide) (fun hc3 => ?_) (fun hc3 => ?_)
  · replace h := rv_iff hc3 h
    refine rv_iload_n dX8_requireBreach_36 rfl 0 rfl ?_
    obtain rfl := Option.some.inj h
    exact rv_iretX rfl dX8_requireBreach_37 (rv_le rfl) (rv_le rfl) ⟨_, rfl, rfl, rfl⟩
  · replace h := rv_ift hc3 h
    obtain rfl := Option.some.inj h
    exact rv_throwNW hl9 th_X8_160_292 dX8_requireBreach_25 dX8_requireBreach_28 dX8_requireBreach_29 dX8_requireBreach_32 dX8_requireBreach_35 (rv_le rfl) (rv_le rfl) (rv_le rfl) (rv_le rfl) (rv_le rfl) (rv_le rfl) rfl ⟨rfl, rfl⟩
theorem ct_X8_breachPerson {l : Launch} {D : va_G} {ta : Nat → ClassId} {ad : Nat → Nat} {μ : Mem} {x1 : Int32} {r : (String ⊕ Int32) × Mem} (hl9 : l.stackTraces = false) (h : f_X8_breachPerson μ x1 = some r) : rv_CX l D (rv_T ta) yX8_breachPerson cX8_breachPerson 2 (some .int) 6 1 6 [.ref (ad 0), .int x1] (wx ta ad μ) (rv_FX rv_vI r.1 (wx ta ad r.2)) (rv_GX r.1 (wx ta ad r.2)) := by
  refine rv_CXof2 (own := RX8) (lv := [(0, .ref (ad 0)), (1, .int x1)]) rfl (by decide) (rv_le rfl) rfl ?_
  unfold f_X8_breachPerson at h
  refine rv_aload_n dX8_breachPerson_0 rfl 0 rfl ?_
  refine rv_iload_n dX8_breachPerson_1 rfl 1 rfl ?_
  obtain ⟨r1, hr1, h⟩ := rv_bind h
  refine rv_xcallVI (rest := []) (ct_X8_requireBreach hl9 hr1) wm_X8_186 wi_X8_requireBreach wl_X8_requireBreach wc_X8_requireBreach wz_X8 rfl np_X8_requireBreach dX8_breachPerson_2 rfl ⟨rv_le rfl, rv_le rfl⟩ ⟨rv_le rfl, rv_le rfl⟩ (rv_le rfl) 0 (wx_0 ta ad μ) cl_X8 (fun E9 h8 => ?_) (fun t2 et2 => ?_)
  · obtain rfl := rv_thm_l h8 h
    exact rv_out rfl (rv_le rfl) (rv_le rfl) ⟨rfl, rfl⟩
  · replace h := rv_thm_r et2 h
    obtain ⟨r3, hr3, h⟩ := rv_bind h
    refine rv_callS1 (rest := []) (ct_X8_personOf hr3) wm_X8_203 ws_X8_personOf wc_X8_personOf wz_X8 np_X8_personOf dX8_breachPerson_5 rfl ⟨rv_le rfl, rv_le rfl⟩ ⟨rv_le rfl, rv_le rfl⟩ (rv_le rfl) ?_
    obtain rfl := Option.some.inj h
    exact rv_iretX rfl dX8_breachPerson_8 (rv_le rfl) (rv_le rfl) ⟨_, rfl, rfl, rfl⟩
theorem ct_X8_breachDay {l : Launch} {D : va_G} {ta : Nat → ClassId} {ad : Nat → Nat} {μ : Mem} {x1 : Int32} {r : (String ⊕ Int32) × Mem} (hl9 : l.stackTraces = false) (h : f_X8_breachDay μ x1 = some r) : rv_CX l D (rv_T ta) yX8_breachDay cX8_breachDay 2 (some .int) 6 1 6 [.ref (ad 0), .int x1] (wx ta ad μ) (rv_FX rv_vI r.1 (wx ta ad r.2)) (rv_GX r.1 (wx ta ad r.2)) := by
  refine rv_CXof2 (own := RX8) (lv := [(0, .ref (ad 0)), (1, .int x1)]) rfl (by decide) (rv_le rfl) rfl ?_
  unfold f_X8_breachDay at h
  refine rv_aload_n dX8_breachDay_0 rfl 0 rfl ?_
  refine rv_iload_n dX8_breachDay_1 rfl 1 rfl ?_
  obtain ⟨r1, hr1, h⟩ := rv_bind h
  refine rv_xcallVI (rest := []) (ct_X8_requireBreach hl9 hr1) wm_X8_186 wi_X8_requireBreach wl_X8_requireBreach wc_X8_requireBreach wz_X8 rfl np_X8_requireBreach dX8_breachDay_2 rfl ⟨rv_le rfl, rv_le rfl⟩ ⟨rv_le rfl, rv_le rfl⟩ (rv_le rfl) 0 (wx_0 ta ad μ) cl_X8 (fun E9 h8 => ?_) (fun t2 et2 => ?_)
  · obtain rfl := rv_thm_l h8 h
    exact rv_out rfl (rv_le rfl) (rv_le rfl) ⟨rfl, rfl⟩
  · replace h := rv_thm_r et2 h
    obtain ⟨r3, hr3, h⟩ := rv_bind h
    refine rv_callS1 (rest := []) (ct_X8_dayOf hr3) wm_X8_206 ws_X8_dayOf wc_X8_dayOf wz_X8 np_X8_dayOf dX8_breachDay_5 rfl ⟨rv_le rfl, rv_le rfl⟩ ⟨rv_le rfl, rv_le rfl⟩ (rv_le rfl) ?_
    obtain rfl := Option.some.inj h
    exact rv_iretX rfl dX8_breachDay_8 (rv_le rfl) (rv_le rfl) ⟨_, rfl, rfl, rfl⟩
theorem ct_X8_breachShift {l : Launch} {D : va_G} {ta : Nat → ClassId} {ad : Nat → Nat} {μ : Mem} {x1 : Int32} {r : (String ⊕ Int32) × Mem} (hl9 : l.stackTraces = false) (h : f_X8_breachShift μ x1 = some r) : rv_CX l D (rv_T ta) yX8_breachShift cX8_breachShift 2 (some .int) 6 1 6 [.ref (ad 0), .int x1] (wx ta ad μ) (rv_FX rv_vI r.1 (wx ta ad r.2)) (rv_GX r.1 (wx ta ad r.2)) := by
  refine rv_CXof2 (own := RX8) (lv := [(0, .ref (ad 0)), (1, .int x1)]) rfl (by decide) (rv_le rfl) rfl ?_
  unfold f_X8_breachShift at h
  refine rv_aload_n dX8_breachShift_0 rfl 0 rfl ?_
  refine rv_iload_n dX8_breachShift_1 rfl 1 rfl ?_
  obtain ⟨r1, hr1, h⟩ := rv_bind h
  refine rv_xcallVI (rest := []) (ct_X8_requireBreach hl9 hr1) wm_X8_186 wi_X8_requireBreach wl_X8_requireBreach wc_X8_requireBreach wz_X8 rfl np_X8_requireBreach dX8_breachShift_2 rfl ⟨rv_le rfl, rv_le rfl⟩ ⟨rv_le rfl, rv_le rfl⟩ (rv_le rfl) 0 (wx_0 ta ad μ) cl_X8 (fun E9 h8 => ?_) (fun t2 et2 => ?_)
  · obtain rfl := rv_thm_l h8 h
    exact rv_out rfl (rv_le rfl) (rv_le rfl) ⟨rfl, rfl⟩
  · replace h := rv_thm_r et2 h
    obtain ⟨r3, hr3, h⟩ := rv_bind h
    refine rv_callS1 (rest := []) (ct_X8_shiftIn hr3) wm_X8_209 ws_X8_shiftIn wc_X8_shiftIn wz_X8 np_X8_shiftIn dX8_breachShift_5 rfl ⟨rv_le rfl, rv_le rfl⟩ ⟨rv_le rfl, rv_le rfl⟩ (rv_le rfl) ?_
    obtain rfl := Option.some.inj h
    exact rv_iretX rfl dX8_breachShift_8 (rv_le rfl) (rv_le rfl) ⟨_, rfl, rfl, rfl⟩
theorem ct_X8_mostBreaches {l : Launch} {D : va_G} {ta : Nat → ClassId} {ad : Nat → Nat} {μ : Mem} {r : (String ⊕ Int32) × Mem} (hl9 : l.stackTraces = false) (h : f_X8_mostBreaches μ = some r) : rv_CX l D (rv_T ta) yX8_mostBreaches cX8_mostBreaches 2 (some .int) 5 1 6 [.ref (ad 0)] (wx ta ad μ) (rv_FX rv_vI r.1 (wx ta ad r.2)) (rv_GX r.1 (wx ta ad r.2)) := by
  refine rv_CXof2 (own := RX8) (lv := [(0, .ref (ad 0))]) rfl (by decide) (rv_le rfl) rfl ?_
  unfold f_X8_mostBreaches at h
  refine rv_aload_n dX8_mostBreaches_0 rfl 0 rfl ?_
  refine gf_X8_42 dX8_mostBreaches_1 0 (wx_0 ta ad μ) rfl ?_
  refine rv_aload_n dX8_mostBreaches_4 rfl 0 rfl ?_
  refine gf_X8_49 dX8_mostBreaches_5 0 (wx_0 ta ad μ) rfl ?_
  obtain ⟨r1, hr1, h⟩ := rv_bind h
  refine rv_callV0 (rest := []) (ct_X1_look_13 hr1) wm_X8_178 wi_X1_look wl_X1_look wc_X1_look wz_X1 rfl np_X1_look dX8_mostBreaches_8 rfl ⟨rv_le rfl, rv_le rfl⟩ ⟨rv_le rfl, rv_le rfl⟩ (rv_le rfl) 12 (wx_12 ta ad μ) cl_X1 ?_
  refine rv_aload_n dX8_mostBreaches_11 rfl 0 rfl ?_
  refine gf_X8_49 dX8_mostBreaches_12 0 (wx_0 ta ad r1.2) rfl ?_
  obtain ⟨r2, hr2, h⟩ := rv_bind h
  refine rv_callV1 (rest := []) (ct_X2_mostBurdened_13 hr2) wm_X8_212 wi_X2_mostBurdened wl_X2_mostBurdened wc_X2_mostBurdened wz_X2 rfl np_X2_mostBurdened dX8_mostBreaches_15 rfl ⟨rv_le rfl, rv_le rfl⟩ ⟨rv_le rfl, rv_le rfl⟩ (rv_le rfl) 13 (wx_13 ta ad r1.2) cl_X2 ?_
  refine rv_istore_n (lv2 := [(1, .int r2), (0, .ref (ad 0))]) dX8_mostBreaches_18 rfl (by decide) rfl ?_
  refine rv_iload_n dX8_mostBreaches_19 rfl 0 rfl ?_
  refine rv_iconst (v := (-1)) dX8_mostBreaches_20 (by decide) ?_
  refine rv_icmp_ne (tgt := 34) dX8_mostBreaches_21 (by decide) (fun hc3 => ?_) (fun hc3 => ?_)
  · replace h := rv_iff hc3 h
    refine rv_iload_n dX8_mostBreaches_34 rfl 0 rfl ?_
    obtain rfl := Option.some.inj h
    exact rv_iretX rfl dX8_mostBreaches_35 (rv_le rfl) (rv_le rfl) ⟨_, rfl, rfl, rfl⟩
  · replace h := rv_ift hc3 h
    obtain rfl := Option.some.inj h
    exact rv_throwN hl9 th_X8_160_215 dX8_mostBreaches_24 dX8_mostBreaches_27 dX8_mostBreaches_28 dX8_mostBreaches_30 dX8_mostBreaches_33 (rv_le rfl) (rv_le rfl) (rv_le rfl) (rv_le rfl) (rv_le rfl) (rv_le rfl) rfl ⟨rfl, rfl⟩
theorem ct_X8_sizeAfterExchange {l : Launch} {D : va_G} {ta : Nat → ClassId} {ad : Nat → Nat} {μ : Mem} {x1 : Int32} {x2 : Int32} {x3 : Int32} {r : (Int32) × Mem} (h : f_X8_sizeAfterExchange μ x1 x2 x3 = some r) : rv_C l D (rv_T ta) yX8_sizeAfterExchange cX8_sizeAfterExchange 4 (some .int) 5 0 0 [.ref (ad 0), .int x1, .int x2, .int x3] (wx ta ad μ) (rv_F (rv_vI r.1) (wx ta ad r.2)) := by
  refine rv_Cof2 (own := RX8) (lv := [(0, .ref (ad 0)), (1, .int x1), (2, .int x2), (3, .int x3)]) rfl (by decide) (rv_le rfl) rfl ?_
  unfold f_X8_sizeAfterExchange at h
  refine rv_aload_n dX8_sizeAfterExchange_0 rfl 0 rfl ?_
  refine gf_X8_26 dX8_sizeAfterExchange_1 0 (wx_0 ta ad μ) rfl ?_
  refine rv_iload_n dX8_sizeAfterExchange_4 rfl 1 rfl ?_
  refine rv_iload_n dX8_sizeAfterExchange_5 rfl 2 rfl ?_
  refine rv_iload_n dX8_sizeAfterExchange_6 rfl 3 rfl ?_
  obtain ⟨r1, hr1, h⟩ := rv_bind h
  refine rv_callV0 (rest := []) (ct_X5_exchange hr1) wm_X8_231 wi_X5_exchange wl_X5_exchange wc_X5_exchange wz_X5 rfl np_X5_exchange dX8_sizeAfterExchange_7 rfl ⟨rv_le rfl, rv_le rfl⟩ ⟨rv_le rfl, rv_le rfl⟩ (rv_le rfl) 6 (wx_6 ta ad μ) cl_X5 ?_
  refine rv_aload_n dX8_sizeAfterExchange_10 rfl 0 rfl ?_
  refine gf_X8_42 dX8_sizeAfterExchange_11 0 (wx_0 ta ad r1.2) rfl ?_
  refine rv_aload_n dX8_sizeAfterExchange_14 rfl 0 rfl ?_
  refine gf_X8_53 dX8_sizeAfterExchange_15 0 (wx_0 ta ad r1.2) rfl ?_
  obtain ⟨r2, hr2, h⟩ := rv_bind h
  refine rv_callV0 (rest := []) (ct_X1_look_15 hr2) wm_X8_178 wi_X1_look wl_X1_look wc_X1_look wz_X1 rfl np_X1_look dX8_sizeAfterExchange_18 rfl ⟨rv_le rfl, rv_le rfl⟩ ⟨rv_le rfl, rv_le rfl⟩ (rv_le rfl) 12 (wx_12 ta ad r1.2) cl_X1 ?_
  refine rv_aload_n dX8_sizeAfterExchange_21 rfl 0 rfl ?_
  refine gf_X8_26 dX8_sizeAfterExchange_22 0 (wx_0 ta ad r2.2) rfl ?_
  refine rv_iload_n dX8_sizeAfterExchange_25 rfl 1 rfl ?_
  refine rv_iload_n dX8_sizeAfterExchange_26 rfl 2 rfl ?_
  refine rv_iload_n dX8_sizeAfterExchange_27 rfl 3 rfl ?_
  obtain ⟨r3, hr3, h⟩ := rv_bind h
  refine rv_callV0 (rest := []) (ct_X5_exchange hr3) wm_X8_231 wi_X5_exchange wl_X5_exchange wc_X5_exchange wz_X5 rfl np_X5_exchange dX8_sizeAfterExchange_28 rfl ⟨rv_le rfl, rv_le rfl⟩ ⟨rv_le rfl, rv_le rfl⟩ (rv_le rfl) 6 (wx_6 ta ad r2.2) cl_X5 ?_
  refine rv_aload_n dX8_sizeAfterExchange_31 rfl 0 rfl ?_
  refine gf_X8_53 dX8_sizeAfterExchange_32 0 (wx_0 ta ad r3.2) rfl ?_
  refine rv_aload_n dX8_sizeAfterExchange_35 rfl 0 rfl ?_
  refine gf_X8_49 dX8_sizeAfterExchange_36 0 (wx_0 ta ad r3.2) rfl ?_
  obtain ⟨r4, hr4, h⟩ := rv_bind h
  refine rv_callV1 (rest := []) (ct_X2_isPartOf_15_13 hr4) wm_X8_294 wi_X2_isPartOf wl_X2_isPartOf wc_X2_isPartOf wz_X2 rfl np_X2_isPartOf dX8_sizeAfterExchange_39 rfl ⟨rv_le rfl, rv_le rfl⟩ ⟨rv_le rfl, rv_le rfl⟩ (rv_le rfl) 15 (wx_15 ta ad r3.2) cl_X2 ?_
  refine rv_if_eq (tgt := 55) dX8_sizeAfterExchange_42 (by decide) (fun hc5 => ?_) (fun hc5 => ?_)
  · replace h := rv_ift hc5 h
    refine rv_iconst (v := (-1)) dX8_sizeAfterExchange_55 (by decide) ?_
    obtain rfl := Option.some.inj h
    exact rv_iret rfl dX8_sizeAfterExchange_56 (rv_le rfl) (rv_le rfl) ⟨rfl, rfl⟩
  · replace h := rv_iff hc5 h
    refine rv_aload_n dX8_sizeAfterExchange_45 rfl 0 rfl ?_
    refine gf_X8_53 dX8_sizeAfterExchange_46 0 (wx_0 ta ad r3.2) rfl ?_
    obtain ⟨r6, hr6, h⟩ := rv_bind h
    refine rv_callV1 (rest := []) (ct_X2_size_15 hr6) wm_X8_182 wi_X2_size wl_X2_size wc_X2_size wz_X2 rfl np_X2_size dX8_sizeAfterExchange_49 rfl ⟨rv_le rfl, rv_le rfl⟩ ⟨rv_le rfl, rv_le rfl⟩ (rv_le rfl) 15 (wx_15 ta ad r3.2) cl_X2 ?_
    refine rv_goto (tgt := 56) dX8_sizeAfterExchange_52 (by decide) ?_
    obtain rfl := Option.some.inj h
    exact rv_iret rfl dX8_sizeAfterExchange_56 (rv_le rfl) (rv_le rfl) ⟨rfl, rfl⟩
theorem ct_X8_swap {l : Launch} {D : va_G} {ta : Nat → ClassId} {ad : Nat → Nat} {μ : Mem} {x1 : Int32} {x2 : Int32} {x3 : Int32} {r : (String ⊕ Int32) × Mem} (hl9 : l.stackTraces = false) (h : f_X8_swap μ x1 x2 x3 = some r) : rv_CX l D (rv_T ta) yX8_swap cX8_swap 5 (some .int) 6 4 24 [.ref (ad 0), .int x1, .int x2, .int x3] (wx ta ad μ) (rv_FX rv_vI r.1 (wx ta ad r.2)) (rv_GX r.1 (wx ta ad r.2)) := by
  refine rv_CXof2 (own := RX8) (lv := [(0, .ref (ad 0)), (1, .int x1), (2, .int x2), (3, .int x3)]) rfl (by decide) (rv_le rfl) rfl ?_
  unfold f_X8_swap at h
  refine rv_aload_n dX8_swap_0 rfl 0 rfl ?_
  refine rv_iload_n dX8_swap_1 rfl 1 rfl ?_
  obtain ⟨r1, hr1, h⟩ := rv_bind h
  refine rv_xcallVU (rest := []) (ct_X8_requirePerson hl9 hr1) wm_X8_104 wi_X8_requirePerson wl_X8_requirePerson wc_X8_requirePerson wz_X8 rfl np_X8_requirePerson dX8_swap_2 rfl ⟨rv_le rfl, rv_le rfl⟩ ⟨rv_le rfl, rv_le rfl⟩ (rv_le rfl) 0 (wx_0 ta ad μ) cl_X8 (fun E9 h8 => ?_) (fun t2 et2 => ?_)
  · obtain rfl := rv_thm_l h8 h
    exact rv_out rfl (rv_le rfl) (rv_le rfl) ⟨rfl, rfl⟩
  · replace h := rv_thm_r et2 h
    refine rv_aload_n dX8_swap_5 rfl 0 rfl ?_
    refine rv_iload_n dX8_swap_6 rfl 2 rfl ?_
    obtain ⟨r3, hr3, h⟩ := rv_bind h
    refine rv_xcallVU (rest := []) (ct_X8_requirePerson hl9 hr3) wm_X8_104 wi_X8_requirePerson wl_X8_requirePerson wc_X8_requirePerson wz_X8 rfl np_X8_requirePerson dX8_swap_7 rfl ⟨rv_le rfl, rv_le rfl⟩ ⟨rv_le rfl, rv_le rfl⟩ (rv_le rfl) 0 (wx_0 ta ad μ) cl_X8 (fun E9 h8 => ?_) (fun t4 et4 => ?_)
    · obtain rfl := rv_thm_l h8 h
      exact rv_out rfl (rv_le rfl) (rv_le rfl) ⟨rfl, rfl⟩
    · replace h := rv_thm_r et4 h
      refine rv_iload_n dX8_swap_10 rfl 3 rfl ?_
      obtain ⟨r5, hr5, h⟩ := rv_bind h
      refine rv_xcallSU (rest := []) (ct_X8_requireDay hl9 hr5) wm_X8_130 ws_X8_requireDay wc_X8_requireDay wz_X8 np_X8_requireDay dX8_swap_11 rfl ⟨rv_le rfl, rv_le rfl⟩ ⟨rv_le rfl, rv_le rfl⟩ (rv_le rfl) (fun E9 h8 => ?_) (fun t6 et6 => ?_)
      · obtain rfl := rv_thm_l h8 h
        exact rv_out rfl (rv_le rfl) (rv_le rfl) ⟨rfl, rfl⟩
      · replace h := rv_thm_r et6 h
        refine rv_iload_n dX8_swap_14 rfl 1 rfl ?_
        refine rv_iload_n dX8_swap_15 rfl 2 rfl ?_
        refine rv_icmp_ne (tgt := 29) dX8_swap_16 (by decide) (fun hc7 => ?_) (fun hc7 => ?_)
        · replace h := rv_iff hc7 h
          refine rv_aload_n dX8_swap_29 rfl 0 rfl ?_
          refine gf_X8_42 dX8_swap_30 0 (wx_0 ta ad μ) rfl ?_
          refine rv_aload_n dX8_swap_33 rfl 0 rfl ?_
          refine gf_X8_49 dX8_swap_34 0 (wx_0 ta ad μ) rfl ?_
          obtain ⟨r8, hr8, h⟩ := rv_bind h
          refine rv_callV0 (rest := []) (ct_X1_look_13 hr8) wm_X8_178 wi_X1_look wl_X1_look wc_X1_look wz_X1 rfl np_X1_look dX8_swap_37 rfl ⟨rv_le rfl, rv_le rfl⟩ ⟨rv_le rfl, rv_le rfl⟩ (rv_le rfl) 12 (wx_12 ta ad μ) cl_X1 ?_
          refine rv_aload_n dX8_swap_40 rfl 0 rfl ?_
          refine rv_iload_n dX8_swap_41 rfl 1 rfl ?_
          refine rv_iload_n dX8_swap_42 rfl 2 rfl ?_
          refine rv_iload_n dX8_swap_43 rfl 3 rfl ?_
          obtain ⟨r9, hr9, h⟩ := rv_bind h
          refine rv_callV1 (rest := []) (ct_X8_sizeAfterExchange hr9) wm_X8_222 wi_X8_sizeAfterExchange wl_X8_sizeAfterExchange wc_X8_sizeAfterExchange wz_X8 rfl np_X8_sizeAfterExchange dX8_swap_44 rfl ⟨rv_le rfl, rv_le rfl⟩ ⟨rv_le rfl, rv_le rfl⟩ (rv_le rfl) 0 (wx_0 ta ad r8.2) cl_X8 ?_
          refine rv_istore (lv2 := [(4, .int r9.1), (0, .ref (ad 0)), (1, .int x1), (2, .int x2), (3, .int x3)]) dX8_swap_47 (by decide) rfl ?_
          refine rv_iload dX8_swap_49 0 rfl ?_
          refine rv_iconst (v := (-1)) dX8_swap_51 (by decide) ?_
          refine rv_icmp_ne (tgt := 65) dX8_swap_52 (by decide) (fun hc10 => ?_) (fun hc10 => ?_)
          · replace h := rv_iff hc10 h
            refine rv_aload_n dX8_swap_65 rfl 1 rfl ?_
            refine gf_X8_26 dX8_swap_66 0 (wx_0 ta ad r9.2) rfl ?_
            refine rv_iload_n dX8_swap_69 rfl 2 rfl ?_
            refine rv_iload_n dX8_swap_70 rfl 3 rfl ?_
            refine rv_iload_n dX8_swap_71 rfl 4 rfl ?_
            obtain ⟨r11, hr11, h⟩ := rv_bind h
            refine rv_callV0 (rest := []) (ct_X5_exchange hr11) wm_X8_231 wi_X5_exchange wl_X5_exchange wc_X5_exchange wz_X5 rfl np_X5_exchange dX8_swap_72 rfl ⟨rv_le rfl, rv_le rfl⟩ ⟨rv_le rfl, rv_le rfl⟩ (rv_le rfl) 6 (wx_6 ta ad r9.2) cl_X5 ?_
            refine rv_iload dX8_swap_75 0 rfl ?_
            obtain rfl := Option.some.inj h
            exact rv_iretX rfl dX8_swap_77 (rv_le rfl) (rv_le rfl) ⟨_, rfl, rfl, rfl⟩
          · replace h := rv_ift hc10 h
            obtain rfl := Option.some.inj h
            exact rv_throwS hl9 th_X8_226_228 dX8_swap_55 dX8_swap_58 dX8_swap_59 dX8_swap_61 dX8_swap_64 (rv_le rfl) (rv_le rfl) (rv_le rfl) (rv_le rfl) (rv_le rfl) (rv_le rfl) rfl ⟨rfl, rfl⟩
        · replace h := rv_ift hc7 h
          obtain rfl := Option.some.inj h
          exact rv_throwS hl9 th_X8_217_219 dX8_swap_19 dX8_swap_22 dX8_swap_23 dX8_swap_25 dX8_swap_28 (rv_le rfl) (rv_le rfl) (rv_le rfl) (rv_le rfl) (rv_le rfl) (rv_le rfl) rfl ⟨rfl, rfl⟩
theorem vb_X8_partner_61 {l : Launch} {D : va_G} {ta : Nat → ClassId} {ad : Nat → Nat} (hl9 : l.stackTraces = false) {μ : Mem} {x1 : Int32} {x2 : Int32} {x3 : Int32} {x4 : Int32} {s0 : Int32} {k31 : Mem → Int32 → Option ((String ⊕ Int32) × Mem)} (hk31 : ∀ {μ : Mem} {x4 : Int32} {r : (String ⊕ Int32) × Mem}, k31 μ x4 = some r → rv_V l D (rv_T ta) RX8 cX8_partner 6 (some .int) ("", []) (rv_rm 6 3 18) (rv_X D (rv_FX rv_vI r.1 (wx ta ad r.2)) (rv_GX r.1 (wx ta ad r.2)) 3 18) 2 12 (wx ta ad μ) 31 [(0, .ref (ad 0)), (1, .int x1), (2, .int x2), (3, .int x3), (4, .int x4)] []) {r : (String ⊕ Int32) × Mem} (h : b_X8_partner_61 μ k31 x1 x2 x3 x4 s0 = some r) : rv_V l D (rv_T ta) RX8 cX8_partner 6 (some .int) ("", []) (rv_rm 6 3 18) (rv_X D (rv_FX rv_vI r.1 (wx ta ad r.2)) (rv_GX r.1 (wx ta ad r.2)) 3 18) 2 12 (wx ta ad μ) 61 [(0, .ref (ad 0)), (1, .int x1), (2, .int x2), (3, .int x3), (4, .int x4)] [.int s0] := by
  unfold b_X8_partner_61 at h
  refine rv_istore (lv2 := [(5, .int s0), (0, .ref (ad 0)), (1, .int x1), (2, .int x2), (3, .int x3), (4, .int x4)]) dX8_partner_61 (by decide) rfl ?_
  refine rv_iload dX8_partner_63 0 rfl ?_
  refine rv_iconst (v := (-1)) dX8_partner_65 (by decide) ?_
  refine rv_icmp_eq (tgt := 78) dX8_partner_66 (by decide) (fun hc10 => ?_) (fun hc10 => ?_)
  · replace h := rv_ift hc10 h
    refine rv_iinc (v := (x4 + 1)) (lv2 := [(4, .int (x4 + 1)), (5, .int s0), (0, .ref (ad 0)), (1, .int x1), (2, .int x2), (3, .int x3)]) dX8_partner_78 5 rfl rfl (by decide) rfl ?_
    refine rv_goto (tgt := 31) dX8_partner_81 (by decide) ?_
    refine rv_sub [2, 3, 4, 5, 0] rfl ?_
    exact hk31 h
  · replace h := rv_iff hc10 h
    refine rv_iload dX8_partner_69 0 rfl ?_
    refine rv_iload_n dX8_partner_71 rfl 4 rfl ?_
    refine rv_icmp_ge (tgt := 78) dX8_partner_72 (by decide) (fun hc11 => ?_) (fun hc11 => ?_)
    · replace h := rv_ift hc11 h
      refine rv_iinc (v := (x4 + 1)) (lv2 := [(4, .int (x4 + 1)), (5, .int s0), (0, .ref (ad 0)), (1, .int x1), (2, .int x2), (3, .int x3)]) dX8_partner_78 5 rfl rfl (by decide) rfl ?_
      refine rv_goto (tgt := 31) dX8_partner_81 (by decide) ?_
      refine rv_sub [2, 3, 4, 5, 0] rfl ?_
      exact hk31 h
    · replace h := rv_iff hc11 h
      refine rv_iload dX8_partner_75 5 rfl ?_
      obtain rfl := Option.some.inj h
      exact rv_iretX rfl dX8_partner_77 (rv_le rfl) (rv_le rfl) ⟨_, rfl, rfl, rfl⟩
theorem vB_X8_partner_31 {l : Launch} {D : va_G} {ta : Nat → ClassId} {ad : Nat → Nat} (hl9 : l.stackTraces = false) {x1 : Int32} {x2 : Int32} {x3 : Int32} {k31 : Mem → Int32 → Option ((String ⊕ Int32) × Mem)} (hk31 : ∀ {μ : Mem} {x4 : Int32} {r : (String ⊕ Int32) × Mem}, k31 μ x4 = some r → rv_V l D (rv_T ta) RX8 cX8_partner 6 (some .int) ("", []) (rv_rm 6 3 18) (rv_X D (rv_FX rv_vI r.1 (wx ta ad r.2)) (rv_GX r.1 (wx ta ad r.2)) 3 18) 2 12 (wx ta ad μ) 31 [(0, .ref (ad 0)), (1, .int x1), (2, .int x2), (3, .int x3), (4, .int x4)] []) {μ : Mem} {x4 : Int32} {r : (String ⊕ Int32) × Mem} (h : B_X8_partner_31 x1 x2 x3 k31 μ x4 = some r) : rv_V l D (rv_T ta) RX8 cX8_partner 6 (some .int) ("", []) (rv_rm 6 3 18) (rv_X D (rv_FX rv_vI r.1 (wx ta ad r.2)) (rv_GX r.1 (wx ta ad r.2)) 3 18) 2 12 (wx ta ad μ) 31 [(0, .ref (ad 0)), (1, .int x1), (2, .int x2), (3, .int x3), (4, .int x4)] [] := by
  unfold B_X8_partner_31 at h
  refine rv_iload dX8_partner_31 4 rfl ?_
  refine rv_aload_n dX8_partner_33 rfl 0 rfl ?_
  refine gf_X8_26 dX8_partner_34 0 (wx_0 ta ad μ) rfl ?_
  refine gf_X8_72 dX8_partner_37 6 (wx_6 ta ad μ) rfl ?_
  refine rv_icmp_ge (tgt := 84) dX8_partner_40 (by decide) (fun hc7 => ?_) (fun hc7 => ?_)
  · replace h := rv_ift hc7 h
    obtain rfl := Option.some.inj h
    exact rv_throwN hl9 th_X8_160_234 dX8_partner_84 dX8_partner_87 dX8_partner_88 dX8_partner_90 dX8_partner_93 (rv_le rfl) (rv_le rfl) (rv_le rfl) (rv_le rfl) (rv_le rfl) (rv_le rfl) rfl ⟨rfl, rfl⟩
  · replace h := rv_iff hc7 h
    refine rv_iload dX8_partner_43 4 rfl ?_
    refine rv_iload_n dX8_partner_45 rfl 1 rfl ?_
    refine rv_icmp_ne (tgt := 53) dX8_partner_46 (by decide) (fun hc8 => ?_) (fun hc8 => ?_)
    · replace h := rv_iff hc8 h
      refine rv_aload_n dX8_partner_53 rfl 0 rfl ?_
      refine rv_iload_n dX8_partner_54 rfl 1 rfl ?_
      refine rv_iload dX8_partner_55 4 rfl ?_
      refine rv_iload_n dX8_partner_57 rfl 2 rfl ?_
      obtain ⟨r9, hr9, h⟩ := rv_bind h
      refine rv_callV1 (rest := []) (ct_X8_sizeAfterExchange hr9) wm_X8_222 wi_X8_sizeAfterExchange wl_X8_sizeAfterExchange wc_X8_sizeAfterExchange wz_X8 rfl np_X8_sizeAfterExchange dX8_partner_58 rfl ⟨rv_le rfl, rv_le rfl⟩ ⟨rv_le rfl, rv_le rfl⟩ (rv_le rfl) 0 (wx_0 ta ad μ) cl_X8 ?_
      exact vb_X8_partner_61 hl9 hk31 h
    · replace h := rv_ift hc8 h
      refine rv_iconst (v := (-1)) dX8_partner_49 (by decide) ?_
      refine rv_goto (tgt := 61) dX8_partner_50 (by decide) ?_
      exact vb_X8_partner_61 hl9 hk31 h
theorem vh_X8_partner_31 {l : Launch} {D : va_G} {ta : Nat → ClassId} {ad : Nat → Nat} (hl9 : l.stackTraces = false) {x1 : Int32} {x2 : Int32} {x3 : Int32} {n : Nat} {μ : Mem} {x4 : Int32} {r : (String ⊕ Int32) × Mem} (h : rv_loop (B_X8_partner_31 x1 x2 x3) (fun _ _ => none) n μ x4 = some r) : rv_V l D (rv_T ta) RX8 cX8_partner 6 (some .int) ("", []) (rv_rm 6 3 18) (rv_X D (rv_FX rv_vI r.1 (wx ta ad r.2)) (rv_GX r.1 (wx ta ad r.2)) 3 18) 2 12 (wx ta ad μ) 31 [(0, .ref (ad 0)), (1, .int x1), (2, .int x2), (3, .int x3), (4, .int x4)] [] := by
  induction n generalizing μ x4 r with
  | zero => cases h
  | succ n ih => exact vB_X8_partner_31 hl9 (fun h9 => ih h9) h
theorem ct_X8_partner {l : Launch} {D : va_G} {ta : Nat → ClassId} {ad : Nat → Nat} {μ : Mem} {x1 : Int32} {x2 : Int32} {r : (String ⊕ Int32) × Mem} (hl9 : l.stackTraces = false) (h : f_X8_partner μ x1 x2 = some r) : rv_CX l D (rv_T ta) yX8_partner cX8_partner 6 (some .int) 6 3 18 [.ref (ad 0), .int x1, .int x2] (wx ta ad μ) (rv_FX rv_vI r.1 (wx ta ad r.2)) (rv_GX r.1 (wx ta ad r.2)) := by
  refine rv_CXof2 (own := RX8) (lv := [(0, .ref (ad 0)), (1, .int x1), (2, .int x2)]) rfl (by decide) (rv_le rfl) rfl ?_
  unfold f_X8_partner at h
  refine rv_aload_n dX8_partner_0 rfl 0 rfl ?_
  refine rv_iload_n dX8_partner_1 rfl 1 rfl ?_
  obtain ⟨r1, hr1, h⟩ := rv_bind h
  refine rv_xcallVU (rest := []) (ct_X8_requirePerson hl9 hr1) wm_X8_104 wi_X8_requirePerson wl_X8_requirePerson wc_X8_requirePerson wz_X8 rfl np_X8_requirePerson dX8_partner_2 rfl ⟨rv_le rfl, rv_le rfl⟩ ⟨rv_le rfl, rv_le rfl⟩ (rv_le rfl) 0 (wx_0 ta ad μ) cl_X8 (fun E9 h8 => ?_) (fun t2 et2 => ?_)
  · obtain rfl := rv_thm_l h8 h
    exact rv_out rfl (rv_le rfl) (rv_le rfl) ⟨rfl, rfl⟩
  · replace h := rv_thm_r et2 h
    refine rv_iload_n dX8_partner_5 rfl 2 rfl ?_
    obtain ⟨r3, hr3, h⟩ := rv_bind h
    refine rv_xcallSU (rest := []) (ct_X8_requireDay hl9 hr3) wm_X8_130 ws_X8_requireDay wc_X8_requireDay wz_X8 np_X8_requireDay dX8_partner_6 rfl ⟨rv_le rfl, rv_le rfl⟩ ⟨rv_le rfl, rv_le rfl⟩ (rv_le rfl) (fun E9 h8 => ?_) (fun t4 et4 => ?_)
    · obtain rfl := rv_thm_l h8 h
      exact rv_out rfl (rv_le rfl) (rv_le rfl) ⟨rfl, rfl⟩
    · replace h := rv_thm_r et4 h
      refine rv_aload_n dX8_partner_9 rfl 0 rfl ?_
      refine gf_X8_42 dX8_partner_10 0 (wx_0 ta ad μ) rfl ?_
      refine rv_aload_n dX8_partner_13 rfl 0 rfl ?_
      refine gf_X8_49 dX8_partner_14 0 (wx_0 ta ad μ) rfl ?_
      obtain ⟨r5, hr5, h⟩ := rv_bind h
      refine rv_callV0 (rest := []) (ct_X1_look_13 hr5) wm_X8_178 wi_X1_look wl_X1_look wc_X1_look wz_X1 rfl np_X1_look dX8_partner_17 rfl ⟨rv_le rfl, rv_le rfl⟩ ⟨rv_le rfl, rv_le rfl⟩ (rv_le rfl) 12 (wx_12 ta ad μ) cl_X1 ?_
      refine rv_aload_n dX8_partner_20 rfl 0 rfl ?_
      refine gf_X8_49 dX8_partner_21 0 (wx_0 ta ad r5.2) rfl ?_
      obtain ⟨r6, hr6, h⟩ := rv_bind h
      refine rv_callV1 (rest := []) (ct_X2_size_13 hr6) wm_X8_182 wi_X2_size wl_X2_size wc_X2_size wz_X2 rfl np_X2_size dX8_partner_24 rfl ⟨rv_le rfl, rv_le rfl⟩ ⟨rv_le rfl, rv_le rfl⟩ (rv_le rfl) 13 (wx_13 ta ad r5.2) cl_X2 ?_
      refine rv_istore_n (lv2 := [(3, .int r6), (0, .ref (ad 0)), (1, .int x1), (2, .int x2)]) dX8_partner_27 rfl (by decide) rfl ?_
      refine rv_iconst (v := 0) dX8_partner_28 (by decide) ?_
      refine rv_istore (lv2 := [(4, .int 0), (3, .int r6), (0, .ref (ad 0)), (1, .int x1), (2, .int x2)]) dX8_partner_29 (by decide) rfl ?_
      refine rv_sub [2, 3, 4, 1, 0] rfl ?_
      exact vh_X8_partner_31 hl9 h
theorem ct_X8_requireSize {l : Launch} {D : va_G} {ta : Nat → ClassId} {ws : va_W} {x0 : Int32} {r : String ⊕ Int32} (hl9 : l.stackTraces = false) (h : f_X8_requireSize x0 = some r) : rv_CX l D (rv_T ta) yX8_requireSize cX8_requireSize 1 (some .int) 1 1 6 [.int x0] ws (rv_FX rv_vI r ws) (rv_GX r ws) := by
  refine rv_CXof2 (own := RX8) (lv := [(0, .int x0)]) rfl (by decide) (rv_le rfl) rfl ?_
  unfold f_X8_requireSize at h
  refine rv_iload_n dX8_requireSize_0 rfl 0 rfl ?_
  refine rv_iconst (v := (-1)) dX8_requireSize_1 (by decide) ?_
  refine rv_icmp_ne (tgt := 16) dX8_requireSize_2 (by decide) (fun hc1 => ?_) (fun hc1 => ?_)
  · replace h := rv_iff hc1 h
    refine rv_iload_n dX8_requireSize_16 rfl 0 rfl ?_
    obtain rfl := Option.some.inj h
    exact rv_iretX rfl dX8_requireSize_17 (rv_le rfl) (rv_le rfl) ⟨_, rfl, rfl, rfl⟩
  · replace h := rv_ift hc1 h
    obtain rfl := Option.some.inj h
    exact rv_throwNW hl9 th_X8_160_287 dX8_requireSize_5 dX8_requireSize_8 dX8_requireSize_9 dX8_requireSize_12 dX8_requireSize_15 (rv_le rfl) (rv_le rfl) (rv_le rfl) (rv_le rfl) (rv_le rfl) (rv_le rfl) rfl ⟨rfl, rfl⟩
theorem ct_X8_leastChanges {l : Launch} {D : va_G} {ta : Nat → ClassId} {ad : Nat → Nat} {μ : Mem} {r : (String ⊕ Int32) × Mem} (hl9 : l.stackTraces = false) (h : f_X8_leastChanges μ = some r) : rv_CX l D (rv_T ta) yX8_leastChanges cX8_leastChanges 1 (some .int) 7 1 6 [.ref (ad 0)] (wx ta ad μ) (rv_FX rv_vI r.1 (wx ta ad r.2)) (rv_GX r.1 (wx ta ad r.2)) := by
  refine rv_CXof2 (own := RX8) (lv := [(0, .ref (ad 0))]) rfl (by decide) (rv_le rfl) rfl ?_
  unfold f_X8_leastChanges at h
  refine rv_aload_n dX8_leastChanges_0 rfl 0 rfl ?_
  refine gf_X8_61 dX8_leastChanges_1 0 (wx_0 ta ad μ) rfl ?_
  refine rv_iconst (v := 1) dX8_leastChanges_4 (by decide) ?_
  obtain ⟨r1, hr1, h⟩ := rv_bind h
  refine rv_callV1 (rest := []) (ct_X4_seek hr1) wm_X8_236 wi_X4_seek wl_X4_seek wc_X4_seek wz_X4 rfl np_X4_seek dX8_leastChanges_5 rfl ⟨rv_le rfl, rv_le rfl⟩ ⟨rv_le rfl, rv_le rfl⟩ (rv_le rfl) 17 (wx_17 ta ad μ) cl_X4 ?_
  obtain ⟨r2, hr2, h⟩ := rv_bind h
  refine rv_xcallSI (rest := []) (ct_X8_requireSize hl9 hr2) wm_X8_240 ws_X8_requireSize wc_X8_requireSize wz_X8 np_X8_requireSize dX8_leastChanges_8 rfl ⟨rv_le rfl, rv_le rfl⟩ ⟨rv_le rfl, rv_le rfl⟩ (rv_le rfl) (fun E9 h8 => ?_) (fun t3 et3 => ?_)
  · obtain rfl := rv_thm_l h8 h
    exact rv_out rfl (rv_le rfl) (rv_le rfl) ⟨rfl, rfl⟩
  · replace h := rv_thm_r et3 h
    obtain rfl := Option.some.inj h
    exact rv_iretX rfl dX8_leastChanges_11 (rv_le rfl) (rv_le rfl) ⟨_, rfl, rfl, rfl⟩
theorem ct_X8_leastByTrial {l : Launch} {D : va_G} {ta : Nat → ClassId} {ad : Nat → Nat} {μ : Mem} {r : (String ⊕ Int32) × Mem} (hl9 : l.stackTraces = false) (h : f_X8_leastByTrial μ = some r) : rv_CX l D (rv_T ta) yX8_leastByTrial cX8_leastByTrial 1 (some .int) 7 1 6 [.ref (ad 0)] (wx ta ad μ) (rv_FX rv_vI r.1 (wx ta ad r.2)) (rv_GX r.1 (wx ta ad r.2)) := by
  refine rv_CXof2 (own := RX8) (lv := [(0, .ref (ad 0))]) rfl (by decide) (rv_le rfl) rfl ?_
  unfold f_X8_leastByTrial at h
  refine rv_aload_n dX8_leastByTrial_0 rfl 0 rfl ?_
  refine gf_X8_61 dX8_leastByTrial_1 0 (wx_0 ta ad μ) rfl ?_
  refine rv_iconst (v := 0) dX8_leastByTrial_4 (by decide) ?_
  obtain ⟨r1, hr1, h⟩ := rv_bind h
  refine rv_callV1 (rest := []) (ct_X4_seek hr1) wm_X8_236 wi_X4_seek wl_X4_seek wc_X4_seek wz_X4 rfl np_X4_seek dX8_leastByTrial_5 rfl ⟨rv_le rfl, rv_le rfl⟩ ⟨rv_le rfl, rv_le rfl⟩ (rv_le rfl) 17 (wx_17 ta ad μ) cl_X4 ?_
  obtain ⟨r2, hr2, h⟩ := rv_bind h
  refine rv_xcallSI (rest := []) (ct_X8_requireSize hl9 hr2) wm_X8_240 ws_X8_requireSize wc_X8_requireSize wz_X8 np_X8_requireSize dX8_leastByTrial_8 rfl ⟨rv_le rfl, rv_le rfl⟩ ⟨rv_le rfl, rv_le rfl⟩ (rv_le rfl) (fun E9 h8 => ?_) (fun t3 et3 => ?_)
  · obtain rfl := rv_thm_l h8 h
    exact rv_out rfl (rv_le rfl) (rv_le rfl) ⟨rfl, rfl⟩
  · replace h := rv_thm_r et3 h
    obtain rfl := Option.some.inj h
    exact rv_iretX rfl dX8_leastByTrial_11 (rv_le rfl) (rv_le rfl) ⟨_, rfl, rfl, rfl⟩
theorem vB_X8_mend_22 {l : Launch} {D : va_G} {ta : Nat → ClassId} {ad : Nat → Nat} (hl9 : l.stackTraces = false) {x1 : Int32} {k22 : Mem → Int32 → Option ((String ⊕ Int32) × Mem)} (hk22 : ∀ {μ : Mem} {x2 : Int32} {r : (String ⊕ Int32) × Mem}, k22 μ x2 = some r → rv_V l D (rv_T ta) RX8 cX8_mend 3 (some .int) ("", []) (rv_rm 7 1 6) (rv_X D (rv_FX rv_vI r.1 (wx ta ad r.2)) (rv_GX r.1 (wx ta ad r.2)) 1 6) 1 6 (wx ta ad μ) 22 [(0, .ref (ad 0)), (1, .int x1), (2, .int x2)] []) {μ : Mem} {x2 : Int32} {r : (String ⊕ Int32) × Mem} (h : B_X8_mend_22 x1 k22 μ x2 = some r) : rv_V l D (rv_T ta) RX8 cX8_mend 3 (some .int) ("", []) (rv_rm 7 1 6) (rv_X D (rv_FX rv_vI r.1 (wx ta ad r.2)) (rv_GX r.1 (wx ta ad r.2)) 1 6) 1 6 (wx ta ad μ) 22 [(0, .ref (ad 0)), (1, .int x1), (2, .int x2)] [] := by
  unfold B_X8_mend_22 at h
  refine rv_iload_n dX8_mend_22 rfl 2 rfl ?_
  refine rv_iload_n dX8_mend_23 rfl 1 rfl ?_
  refine rv_icmp_ge (tgt := 86) dX8_mend_24 (by decide) (fun hc4 => ?_) (fun hc4 => ?_)
  · replace h := rv_ift hc4 h
    refine rv_iload_n dX8_mend_86 rfl 1 rfl ?_
    obtain rfl := Option.some.inj h
    exact rv_iretX rfl dX8_mend_87 (rv_le rfl) (rv_le rfl) ⟨_, rfl, rfl, rfl⟩
  · replace h := rv_iff hc4 h
    refine rv_aload_n dX8_mend_27 rfl 0 rfl ?_
    refine gf_X8_68 dX8_mend_28 0 (wx_0 ta ad μ) rfl ?_
    refine rv_iload_n dX8_mend_31 rfl 2 rfl ?_
    refine rv_aload_n dX8_mend_32 rfl 0 rfl ?_
    refine gf_X8_61 dX8_mend_33 0 (wx_0 ta ad μ) rfl ?_
    refine gf_X8_245 dX8_mend_36 17 (wx_17 ta ad μ) rfl ?_
    refine rv_iload_n dX8_mend_39 rfl 2 rfl ?_
    obtain ⟨r5, hr5, h⟩ := rv_bind h
    refine rv_callV1 (rest := [.int x2, .ref (ad 23)]) (ct_X0_cellAt_20 hr5) wm_X8_248 wi_X0_cellAt wl_X0_cellAt wc_X0_cellAt wz_X0 rfl np_X0_cellAt dX8_mend_40 rfl ⟨rv_le rfl, rv_le rfl⟩ ⟨rv_le rfl, rv_le rfl⟩ (rv_le rfl) 20 (wx_20 ta ad μ) cl_X0 ?_
    refine rv_aload_n dX8_mend_43 rfl 0 rfl ?_
    refine gf_X8_61 dX8_mend_44 0 (wx_0 ta ad μ) rfl ?_
    refine gf_X8_245 dX8_mend_47 17 (wx_17 ta ad μ) rfl ?_
    refine rv_iload_n dX8_mend_50 rfl 2 rfl ?_
    obtain ⟨r6, hr6, h⟩ := rv_bind h
    refine rv_callV1 (rest := [.int r5, .int x2, .ref (ad 23)]) (ct_X0_valueAt_20 hr6) wm_X8_251 wi_X0_valueAt wl_X0_valueAt wc_X0_valueAt wz_X0 rfl np_X0_valueAt dX8_mend_51 rfl ⟨rv_le rfl, rv_le rfl⟩ ⟨rv_le rfl, rv_le rfl⟩ (rv_le rfl) 20 (wx_20 ta ad μ) cl_X0 ?_
    obtain ⟨r7, hr7, h⟩ := rv_bind h
    refine rv_callV0 (rest := []) (ct_X0_put_23 hr7) wm_X8_254 wi_X0_put wl_X0_put wc_X0_put wz_X0 rfl np_X0_put dX8_mend_54 rfl ⟨rv_le rfl, rv_le rfl⟩ ⟨rv_le rfl, rv_le rfl⟩ (rv_le rfl) 23 (wx_23 ta ad μ) cl_X0 ?_
    refine rv_aload_n dX8_mend_57 rfl 0 rfl ?_
    refine gf_X8_26 dX8_mend_58 0 (wx_0 ta ad r7.2) rfl ?_
    refine rv_aload_n dX8_mend_61 rfl 0 rfl ?_
    refine gf_X8_68 dX8_mend_62 0 (wx_0 ta ad r7.2) rfl ?_
    refine rv_iload_n dX8_mend_65 rfl 2 rfl ?_
    obtain ⟨r8, hr8, h⟩ := rv_bind h
    refine rv_callV1 (rest := [.ref (ad 6)]) (ct_X0_cellAt_23 hr8) wm_X8_248 wi_X0_cellAt wl_X0_cellAt wc_X0_cellAt wz_X0 rfl np_X0_cellAt dX8_mend_66 rfl ⟨rv_le rfl, rv_le rfl⟩ ⟨rv_le rfl, rv_le rfl⟩ (rv_le rfl) 23 (wx_23 ta ad r7.2) cl_X0 ?_
    refine rv_aload_n dX8_mend_69 rfl 0 rfl ?_
    refine gf_X8_68 dX8_mend_70 0 (wx_0 ta ad r7.2) rfl ?_
    refine rv_iload_n dX8_mend_73 rfl 2 rfl ?_
    obtain ⟨r9, hr9, h⟩ := rv_bind h
    refine rv_callV1 (rest := [.int r8, .ref (ad 6)]) (ct_X0_valueAt_23 hr9) wm_X8_251 wi_X0_valueAt wl_X0_valueAt wc_X0_valueAt wz_X0 rfl np_X0_valueAt dX8_mend_74 rfl ⟨rv_le rfl, rv_le rfl⟩ ⟨rv_le rfl, rv_le rfl⟩ (rv_le rfl) 23 (wx_23 ta ad r7.2) cl_X0 ?_
    obtain ⟨r10, hr10, h⟩ := rv_bind h
    refine rv_callV0 (rest := []) (ct_X5_put hr10) wm_X8_145 wi_X5_put wl_X5_put wc_X5_put wz_X5 rfl np_X5_put dX8_mend_77 rfl ⟨rv_le rfl, rv_le rfl⟩ ⟨rv_le rfl, rv_le rfl⟩ (rv_le rfl) 6 (wx_6 ta ad r7.2) cl_X5 ?_
    refine rv_iinc (v := (x2 + 1)) (lv2 := [(2, .int (x2 + 1)), (0, .ref (ad 0)), (1, .int x1)]) dX8_mend_80 2 rfl rfl (by decide) rfl ?_
    refine rv_goto (tgt := 22) dX8_mend_83 (by decide) ?_
    refine rv_sub [1, 2, 0] rfl ?_
    exact hk22 h
theorem vh_X8_mend_22 {l : Launch} {D : va_G} {ta : Nat → ClassId} {ad : Nat → Nat} (hl9 : l.stackTraces = false) {x1 : Int32} {n : Nat} {μ : Mem} {x2 : Int32} {r : (String ⊕ Int32) × Mem} (h : rv_loop (B_X8_mend_22 x1) (fun _ _ => none) n μ x2 = some r) : rv_V l D (rv_T ta) RX8 cX8_mend 3 (some .int) ("", []) (rv_rm 7 1 6) (rv_X D (rv_FX rv_vI r.1 (wx ta ad r.2)) (rv_GX r.1 (wx ta ad r.2)) 1 6) 1 6 (wx ta ad μ) 22 [(0, .ref (ad 0)), (1, .int x1), (2, .int x2)] [] := by
  induction n generalizing μ x2 r with
  | zero => cases h
  | succ n ih => exact vB_X8_mend_22 hl9 (fun h9 => ih h9) h
theorem ct_X8_mend {l : Launch} {D : va_G} {ta : Nat → ClassId} {ad : Nat → Nat} {μ : Mem} {r : (String ⊕ Int32) × Mem} (hl9 : l.stackTraces = false) (h : f_X8_mend μ = some r) : rv_CX l D (rv_T ta) yX8_mend cX8_mend 3 (some .int) 7 1 6 [.ref (ad 0)] (wx ta ad μ) (rv_FX rv_vI r.1 (wx ta ad r.2)) (rv_GX r.1 (wx ta ad r.2)) := by
  refine rv_CXof2 (own := RX8) (lv := [(0, .ref (ad 0))]) rfl (by decide) (rv_le rfl) rfl ?_
  unfold f_X8_mend at h
  refine rv_aload_n dX8_mend_0 rfl 0 rfl ?_
  refine gf_X8_61 dX8_mend_1 0 (wx_0 ta ad μ) rfl ?_
  refine rv_iconst (v := 0) dX8_mend_4 (by decide) ?_
  obtain ⟨r1, hr1, h⟩ := rv_bind h
  refine rv_callV1 (rest := []) (ct_X4_seek hr1) wm_X8_236 wi_X4_seek wl_X4_seek wc_X4_seek wz_X4 rfl np_X4_seek dX8_mend_5 rfl ⟨rv_le rfl, rv_le rfl⟩ ⟨rv_le rfl, rv_le rfl⟩ (rv_le rfl) 17 (wx_17 ta ad μ) cl_X4 ?_
  obtain ⟨r2, hr2, h⟩ := rv_bind h
  refine rv_xcallSI (rest := []) (ct_X8_requireSize hl9 hr2) wm_X8_240 ws_X8_requireSize wc_X8_requireSize wz_X8 np_X8_requireSize dX8_mend_8 rfl ⟨rv_le rfl, rv_le rfl⟩ ⟨rv_le rfl, rv_le rfl⟩ (rv_le rfl) (fun E9 h8 => ?_) (fun t3 et3 => ?_)
  · obtain rfl := rv_thm_l h8 h
    exact rv_out rfl (rv_le rfl) (rv_le rfl) ⟨rfl, rfl⟩
  · replace h := rv_thm_r et3 h
    refine rv_istore_n (lv2 := [(1, .int t3), (0, .ref (ad 0))]) dX8_mend_11 rfl (by decide) rfl ?_
    refine rv_aload_n dX8_mend_12 rfl 1 rfl ?_
    refine gf_X8_68 dX8_mend_13 0 (wx_0 ta ad r1.2) rfl ?_
    refine rv_iload_n dX8_mend_16 rfl 0 rfl ?_
    refine pf_X8_243 dX8_mend_17 23 (wx_23 ta ad r1.2) (rv_le rfl) (wx_f23_2 ta ad r1.2 t3) ?_
    refine rv_iconst (v := 0) dX8_mend_20 (by decide) ?_
    refine rv_istore_n (lv2 := [(2, .int 0), (1, .int t3), (0, .ref (ad 0))]) dX8_mend_21 rfl (by decide) rfl ?_
    refine rv_sub [2, 1, 0] rfl ?_
    exact vh_X8_mend_22 hl9 h
theorem vb_X8_requireChange_15 {l : Launch} {D : va_G} {ta : Nat → ClassId} {ad : Nat → Nat} (hl9 : l.stackTraces = false) {μ : Mem} {r : String ⊕ Unit} (h : b_X8_requireChange_15 μ = some r) : rv_V l D (rv_T ta) RX8 cX8_requireChange 2 none ("", []) (rv_rm 1 1 6) (rv_X D (rv_FX rv_vU r (wx ta ad μ)) (rv_GX r (wx ta ad μ)) 1 6) 0 0 (wx ta ad μ) 15 [] [] := by
  unfold b_X8_requireChange_15 at h
  obtain rfl := Option.some.inj h
  exact rv_throwNW hl9 th_X8_160_285 dX8_requireChange_15 dX8_requireChange_18 dX8_requireChange_19 dX8_requireChange_22 dX8_requireChange_25 (rv_le rfl) (rv_le rfl) (rv_le rfl) (rv_le rfl) (rv_le rfl) (rv_le rfl) rfl ⟨rfl, rfl⟩
theorem ct_X8_requireChange {l : Launch} {D : va_G} {ta : Nat → ClassId} {ad : Nat → Nat} {μ : Mem} {x1 : Int32} {r : String ⊕ Unit} (hl9 : l.stackTraces = false) (h : f_X8_requireChange μ x1 = some r) : rv_CX l D (rv_T ta) yX8_requireChange cX8_requireChange 2 none 1 1 6 [.ref (ad 0), .int x1] (wx ta ad μ) (rv_FX rv_vU r (wx ta ad μ)) (rv_GX r (wx ta ad μ)) := by
  refine rv_CXof2 (own := RX8) (lv := [(0, .ref (ad 0)), (1, .int x1)]) rfl (by decide) (rv_le rfl) rfl ?_
  unfold f_X8_requireChange at h
  refine rv_iload_n dX8_requireChange_0 rfl 1 rfl ?_
  refine rv_if_lt (tgt := 15) dX8_requireChange_1 (by decide) (fun hc1 => ?_) (fun hc1 => ?_)
  · replace h := rv_ift hc1 h
    refine rv_sub [] rfl ?_
    exact vb_X8_requireChange_15 hl9 h
  · replace h := rv_iff hc1 h
    refine rv_iload_n dX8_requireChange_4 rfl 1 rfl ?_
    refine rv_aload_n dX8_requireChange_5 rfl 0 rfl ?_
    refine gf_X8_68 dX8_requireChange_6 0 (wx_0 ta ad μ) rfl ?_
    refine gf_X8_243 dX8_requireChange_9 23 (wx_23 ta ad μ) rfl ?_
    refine rv_icmp_lt (tgt := 26) dX8_requireChange_12 (by decide) (fun hc2 => ?_) (fun hc2 => ?_)
    · replace h := rv_ift hc2 h
      obtain rfl := Option.some.inj h
      exact rv_vretX rfl dX8_requireChange_26 (rv_le rfl) (rv_le rfl) ⟨_, rfl, rfl, rfl⟩
    · replace h := rv_iff hc2 h
      refine rv_sub [] rfl ?_
      exact vb_X8_requireChange_15 hl9 h
theorem ct_X8_changedCell {l : Launch} {D : va_G} {ta : Nat → ClassId} {ad : Nat → Nat} {μ : Mem} {x1 : Int32} {r : String ⊕ Int32} (hl9 : l.stackTraces = false) (h : f_X8_changedCell μ x1 = some r) : rv_CX l D (rv_T ta) yX8_changedCell cX8_changedCell 2 (some .int) 2 1 6 [.ref (ad 0), .int x1] (wx ta ad μ) (rv_FX rv_vI r (wx ta ad μ)) (rv_GX r (wx ta ad μ)) := by
  refine rv_CXof2 (own := RX8) (lv := [(0, .ref (ad 0)), (1, .int x1)]) rfl (by decide) (rv_le rfl) rfl ?_
  unfold f_X8_changedCell at h
  refine rv_aload_n dX8_changedCell_0 rfl 0 rfl ?_
  refine rv_iload_n dX8_changedCell_1 rfl 1 rfl ?_
  obtain ⟨r1, hr1, h⟩ := rv_bind h
  refine rv_xcallVU (rest := []) (ct_X8_requireChange hl9 hr1) wm_X8_256 wi_X8_requireChange wl_X8_requireChange wc_X8_requireChange wz_X8 rfl np_X8_requireChange dX8_changedCell_2 rfl ⟨rv_le rfl, rv_le rfl⟩ ⟨rv_le rfl, rv_le rfl⟩ (rv_le rfl) 0 (wx_0 ta ad μ) cl_X8 (fun E9 h8 => ?_) (fun t2 et2 => ?_)
  · obtain rfl := rv_thr_l h8 h
    exact rv_out rfl (rv_le rfl) (rv_le rfl) ⟨rfl, rfl⟩
  · replace h := rv_thr_r et2 h
    refine rv_aload_n dX8_changedCell_5 rfl 0 rfl ?_
    refine gf_X8_68 dX8_changedCell_6 0 (wx_0 ta ad μ) rfl ?_
    refine rv_iload_n dX8_changedCell_9 rfl 1 rfl ?_
    obtain ⟨r3, hr3, h⟩ := rv_bind h
    refine rv_callV1 (rest := []) (ct_X0_cellAt_23 hr3) wm_X8_248 wi_X0_cellAt wl_X0_cellAt wc_X0_cellAt wz_X0 rfl np_X0_cellAt dX8_changedCell_10 rfl ⟨rv_le rfl, rv_le rfl⟩ ⟨rv_le rfl, rv_le rfl⟩ (rv_le rfl) 23 (wx_23 ta ad μ) cl_X0 ?_
    obtain rfl := Option.some.inj h
    exact rv_iretX rfl dX8_changedCell_13 (rv_le rfl) (rv_le rfl) ⟨_, rfl, rfl, rfl⟩
theorem ct_X8_changedValue {l : Launch} {D : va_G} {ta : Nat → ClassId} {ad : Nat → Nat} {μ : Mem} {x1 : Int32} {r : String ⊕ Int32} (hl9 : l.stackTraces = false) (h : f_X8_changedValue μ x1 = some r) : rv_CX l D (rv_T ta) yX8_changedValue cX8_changedValue 2 (some .int) 2 1 6 [.ref (ad 0), .int x1] (wx ta ad μ) (rv_FX rv_vI r (wx ta ad μ)) (rv_GX r (wx ta ad μ)) := by
  refine rv_CXof2 (own := RX8) (lv := [(0, .ref (ad 0)), (1, .int x1)]) rfl (by decide) (rv_le rfl) rfl ?_
  unfold f_X8_changedValue at h
  refine rv_aload_n dX8_changedValue_0 rfl 0 rfl ?_
  refine rv_iload_n dX8_changedValue_1 rfl 1 rfl ?_
  obtain ⟨r1, hr1, h⟩ := rv_bind h
  refine rv_xcallVU (rest := []) (ct_X8_requireChange hl9 hr1) wm_X8_256 wi_X8_requireChange wl_X8_requireChange wc_X8_requireChange wz_X8 rfl np_X8_requireChange dX8_changedValue_2 rfl ⟨rv_le rfl, rv_le rfl⟩ ⟨rv_le rfl, rv_le rfl⟩ (rv_le rfl) 0 (wx_0 ta ad μ) cl_X8 (fun E9 h8 => ?_) (fun t2 et2 => ?_)
  · obtain rfl := rv_thr_l h8 h
    exact rv_out rfl (rv_le rfl) (rv_le rfl) ⟨rfl, rfl⟩
  · replace h := rv_thr_r et2 h
    refine rv_aload_n dX8_changedValue_5 rfl 0 rfl ?_
    refine gf_X8_68 dX8_changedValue_6 0 (wx_0 ta ad μ) rfl ?_
    refine rv_iload_n dX8_changedValue_9 rfl 1 rfl ?_
    obtain ⟨r3, hr3, h⟩ := rv_bind h
    refine rv_callV1 (rest := []) (ct_X0_valueAt_23 hr3) wm_X8_251 wi_X0_valueAt wl_X0_valueAt wc_X0_valueAt wz_X0 rfl np_X0_valueAt dX8_changedValue_10 rfl ⟨rv_le rfl, rv_le rfl⟩ ⟨rv_le rfl, rv_le rfl⟩ (rv_le rfl) 23 (wx_23 ta ad μ) cl_X0 ?_
    obtain rfl := Option.some.inj h
    exact rv_iretX rfl dX8_changedValue_13 (rv_le rfl) (rv_le rfl) ⟨_, rfl, rfl, rfl⟩
theorem vB_X8_minutes_18 {l : Launch} {D : va_G} {ta : Nat → ClassId} {ad : Nat → Nat} {μ : Mem} {x3 : Int32} {k4 : Int64 → Int32 → Option (Int64)} (hk4 : ∀ {x1 : Int64} {x3 : Int32} {r : Int64}, k4 x1 x3 = some r → rv_V l D (rv_T ta) RX8 cX8_minutes 5 (some .long) ("", []) (rv_rm 4 0 0) (rv_M D (rv_F (rv_vL r) (wx ta ad μ)) 0 0) 0 0 (wx ta ad μ) 4 [(0, .ref (ad 0)), (1, .long x1), (3, .int x3)] []) {k18 : Int64 → Int32 → Option (Int64)} (hk18 : ∀ {x1 : Int64} {x4 : Int32} {r : Int64}, k18 x1 x4 = some r → rv_V l D (rv_T ta) RX8 cX8_minutes 5 (some .long) ("", []) (rv_rm 4 0 0) (rv_M D (rv_F (rv_vL r) (wx ta ad μ)) 0 0) 0 0 (wx ta ad μ) 18 [(0, .ref (ad 0)), (1, .long x1), (3, .int x3), (4, .int x4)] []) {x1 : Int64} {x4 : Int32} {r : Int64} (h : B_X8_minutes_18 μ x3 k4 k18 x1 x4 = some r) : rv_V l D (rv_T ta) RX8 cX8_minutes 5 (some .long) ("", []) (rv_rm 4 0 0) (rv_M D (rv_F (rv_vL r) (wx ta ad μ)) 0 0) 0 0 (wx ta ad μ) 18 [(0, .ref (ad 0)), (1, .long x1), (3, .int x3), (4, .int x4)] [] := by
  unfold B_X8_minutes_18 at h
  refine rv_iload dX8_minutes_18 3 rfl ?_
  refine rv_bipush (v := 8) dX8_minutes_20 (by decide) ?_
  refine rv_icmp_ge (tgt := 45) dX8_minutes_22 (by decide) (fun hc2 => ?_) (fun hc2 => ?_)
  · replace h := rv_ift hc2 h
    refine rv_iinc (v := (x3 + 1)) (lv2 := [(3, .int (x3 + 1)), (0, .ref (ad 0)), (1, .long x1), (4, .int x4)]) dX8_minutes_45 2 rfl rfl (by decide) rfl ?_
    refine rv_goto (tgt := 4) dX8_minutes_48 (by decide) ?_
    refine rv_sub [1, 2, 0] rfl ?_
    exact hk4 h
  · replace h := rv_iff hc2 h
    refine rv_lload_n dX8_minutes_25 rfl 1 rfl ?_
    refine rv_aload_n dX8_minutes_26 rfl 0 rfl ?_
    refine gf_X8_35 dX8_minutes_27 0 (wx_0 ta ad μ) rfl ?_
    refine rv_iload_n dX8_minutes_30 rfl 2 rfl ?_
    refine rv_iload dX8_minutes_31 3 rfl ?_
    obtain ⟨r3, hr3, h⟩ := rv_bind h
    refine rv_callV1 (rest := [.long x1]) (ct_X3_minutesAt hr3) wm_X8_259 wi_X3_minutesAt wl_X3_minutesAt wc_X3_minutesAt wz_X3 rfl np_X3_minutesAt dX8_minutes_33 rfl ⟨rv_le rfl, rv_le rfl⟩ ⟨rv_le rfl, rv_le rfl⟩ (rv_le rfl) 11 (wx_11 ta ad μ) cl_X3 ?_
    refine rv_i2l dX8_minutes_36 rfl ?_
    refine rv_ladd dX8_minutes_37 ?_
    refine rv_lstore_n (lv2 := [(1, .long (x1 + (Int32.toInt64 r3))), (0, .ref (ad 0)), (3, .int x3), (4, .int x4)]) dX8_minutes_38 rfl (by decide) rfl ?_
    refine rv_iinc (v := (x4 + 1)) (lv2 := [(4, .int (x4 + 1)), (1, .long (x1 + (Int32.toInt64 r3))), (0, .ref (ad 0)), (3, .int x3)]) dX8_minutes_39 3 rfl rfl (by decide) rfl ?_
    refine rv_goto (tgt := 18) dX8_minutes_42 (by decide) ?_
    refine rv_sub [2, 1, 3, 0] rfl ?_
    exact hk18 h
theorem vh_X8_minutes_18 {l : Launch} {D : va_G} {ta : Nat → ClassId} {ad : Nat → Nat} {μ : Mem} {x3 : Int32} {k4 : Int64 → Int32 → Option (Int64)} (hk4 : ∀ {x1 : Int64} {x3 : Int32} {r : Int64}, k4 x1 x3 = some r → rv_V l D (rv_T ta) RX8 cX8_minutes 5 (some .long) ("", []) (rv_rm 4 0 0) (rv_M D (rv_F (rv_vL r) (wx ta ad μ)) 0 0) 0 0 (wx ta ad μ) 4 [(0, .ref (ad 0)), (1, .long x1), (3, .int x3)] []) {n : Nat} {x1 : Int64} {x4 : Int32} {r : Int64} (h : rv_loop (B_X8_minutes_18 μ x3 k4) (fun _ _ => none) n x1 x4 = some r) : rv_V l D (rv_T ta) RX8 cX8_minutes 5 (some .long) ("", []) (rv_rm 4 0 0) (rv_M D (rv_F (rv_vL r) (wx ta ad μ)) 0 0) 0 0 (wx ta ad μ) 18 [(0, .ref (ad 0)), (1, .long x1), (3, .int x3), (4, .int x4)] [] := by
  induction n generalizing x1 x4 r with
  | zero => cases h
  | succ n ih => exact vB_X8_minutes_18 hk4 (fun h9 => ih h9) h
theorem vB_X8_minutes_4 {l : Launch} {D : va_G} {ta : Nat → ClassId} {ad : Nat → Nat} {μ : Mem} {k4 : Int64 → Int32 → Option (Int64)} (hk4 : ∀ {x1 : Int64} {x3 : Int32} {r : Int64}, k4 x1 x3 = some r → rv_V l D (rv_T ta) RX8 cX8_minutes 5 (some .long) ("", []) (rv_rm 4 0 0) (rv_M D (rv_F (rv_vL r) (wx ta ad μ)) 0 0) 0 0 (wx ta ad μ) 4 [(0, .ref (ad 0)), (1, .long x1), (3, .int x3)] []) {x1 : Int64} {x3 : Int32} {r : Int64} (h : B_X8_minutes_4 μ k4 x1 x3 = some r) : rv_V l D (rv_T ta) RX8 cX8_minutes 5 (some .long) ("", []) (rv_rm 4 0 0) (rv_M D (rv_F (rv_vL r) (wx ta ad μ)) 0 0) 0 0 (wx ta ad μ) 4 [(0, .ref (ad 0)), (1, .long x1), (3, .int x3)] [] := by
  unfold B_X8_minutes_4 at h
  refine rv_iload_n dX8_minutes_4 rfl 2 rfl ?_
  refine rv_aload_n dX8_minutes_5 rfl 0 rfl ?_
  refine gf_X8_26 dX8_minutes_6 0 (wx_0 ta ad μ) rfl ?_
  refine gf_X8_72 dX8_minutes_9 6 (wx_6 ta ad μ) rfl ?_
  refine rv_icmp_ge (tgt := 51) dX8_minutes_12 (by decide) (fun hc1 => ?_) (fun hc1 => ?_)
  · replace h := rv_ift hc1 h
    refine rv_lload_n dX8_minutes_51 rfl 1 rfl ?_
    obtain rfl := Option.some.inj h
    exact rv_lret rfl dX8_minutes_52 (rv_le rfl) (rv_le rfl) ⟨rfl, rfl⟩
  · replace h := rv_iff hc1 h
    refine rv_iconst (v := 0) dX8_minutes_15 (by decide) ?_
    refine rv_istore (lv2 := [(4, .int 0), (0, .ref (ad 0)), (1, .long x1), (3, .int x3)]) dX8_minutes_16 (by decide) rfl ?_
    refine rv_sub [1, 2, 3, 0] rfl ?_
    exact vh_X8_minutes_18 hk4 h
theorem vh_X8_minutes_4 {l : Launch} {D : va_G} {ta : Nat → ClassId} {ad : Nat → Nat} {μ : Mem} {n : Nat} {x1 : Int64} {x3 : Int32} {r : Int64} (h : rv_loop (B_X8_minutes_4 μ) (fun _ _ => none) n x1 x3 = some r) : rv_V l D (rv_T ta) RX8 cX8_minutes 5 (some .long) ("", []) (rv_rm 4 0 0) (rv_M D (rv_F (rv_vL r) (wx ta ad μ)) 0 0) 0 0 (wx ta ad μ) 4 [(0, .ref (ad 0)), (1, .long x1), (3, .int x3)] [] := by
  induction n generalizing x1 x3 r with
  | zero => cases h
  | succ n ih => exact vB_X8_minutes_4 (fun h9 => ih h9) h
theorem ct_X8_minutes {l : Launch} {D : va_G} {ta : Nat → ClassId} {ad : Nat → Nat} {μ : Mem} {r : Int64} (h : f_X8_minutes μ = some r) : rv_C l D (rv_T ta) yX8_minutes cX8_minutes 5 (some .long) 4 0 0 [.ref (ad 0)] (wx ta ad μ) (rv_F (rv_vL r) (wx ta ad μ)) := by
  refine rv_Cof2 (own := RX8) (lv := [(0, .ref (ad 0))]) rfl (by decide) (rv_le rfl) rfl ?_
  unfold f_X8_minutes at h
  refine rv_lconst (v := 0) dX8_minutes_0 (by decide) ?_
  refine rv_lstore_n (lv2 := [(1, .long 0), (0, .ref (ad 0))]) dX8_minutes_1 rfl (by decide) rfl ?_
  refine rv_iconst (v := 0) dX8_minutes_2 (by decide) ?_
  refine rv_istore_n (lv2 := [(3, .int 0), (1, .long 0), (0, .ref (ad 0))]) dX8_minutes_3 rfl (by decide) rfl ?_
  refine rv_sub [2, 1, 0] rfl ?_
  exact vh_X8_minutes_4 h
theorem vB_X8_workShare_9 {l : Launch} {D : va_G} {ta : Nat → ClassId} {ad : Nat → Nat} (hl9 : l.stackTraces = false) {μ : Mem} {x1 : Int32} {k9 : Int32 → Int32 → Option (String ⊕ UInt32)} (hk9 : ∀ {x2 : Int32} {x3 : Int32} {r : String ⊕ UInt32}, k9 x2 x3 = some r → rv_V l D (rv_T ta) RX8 cX8_workShare 4 (some .float) ("", []) (rv_rm 3 1 6) (rv_X D (rv_FX rv_vF r (wx ta ad μ)) (rv_GX r (wx ta ad μ)) 1 6) 1 6 (wx ta ad μ) 9 [(0, .ref (ad 0)), (1, .int x1), (2, .int x2), (3, .int x3)] []) {x2 : Int32} {x3 : Int32} {r : String ⊕ UInt32} (h : B_X8_workShare_9 μ x1 k9 x2 x3 = some r) : rv_V l D (rv_T ta) RX8 cX8_workShare 4 (some .float) ("", []) (rv_rm 3 1 6) (rv_X D (rv_FX rv_vF r (wx ta ad μ)) (rv_GX r (wx ta ad μ)) 1 6) 1 6 (wx ta ad μ) 9 [(0, .ref (ad 0)), (1, .int x1), (2, .int x2), (3, .int x3)] [] := by
  unfold B_X8_workShare_9 at h
  refine rv_iload_n dX8_workShare_9 rfl 3 rfl ?_
  refine rv_bipush (v := 8) dX8_workShare_10 (by decide) ?_
  refine rv_icmp_ge (tgt := 37) dX8_workShare_12 (by decide) (fun hc3 => ?_) (fun hc3 => ?_)
  · replace h := rv_ift hc3 h
    refine rv_iload_n dX8_workShare_37 rfl 2 rfl ?_
    refine rv_i2f dX8_workShare_38 ?_
    refine rv_ldcfW wk_X8_262 dX8_workShare_39 ?_
    obtain ⟨hi4, h⟩ := rv_ifn h
    refine rv_fdiv dX8_workShare_42 (rv_nn32P hi4) ?_
    obtain rfl := Option.some.inj h
    exact rv_fretX rfl dX8_workShare_43 (rv_le rfl) (rv_le rfl) ⟨_, rfl, rfl, rfl⟩
  · replace h := rv_iff hc3 h
    refine rv_aload_n dX8_workShare_15 rfl 0 rfl ?_
    refine gf_X8_26 dX8_workShare_16 0 (wx_0 ta ad μ) rfl ?_
    refine rv_iload_n dX8_workShare_19 rfl 1 rfl ?_
    refine rv_iload_n dX8_workShare_20 rfl 3 rfl ?_
    obtain ⟨r5, hr5, h⟩ := rv_bind h
    refine rv_callV1 (rest := []) (ct_X5_shiftAt hr5) wm_X8_139 wi_X5_shiftAt wl_X5_shiftAt wc_X5_shiftAt wz_X5 rfl np_X5_shiftAt dX8_workShare_21 rfl ⟨rv_le rfl, rv_le rfl⟩ ⟨rv_le rfl, rv_le rfl⟩ (rv_le rfl) 6 (wx_6 ta ad μ) cl_X5 ?_
    refine rv_iconst (v := (-1)) dX8_workShare_24 (by decide) ?_
    refine rv_icmp_eq (tgt := 31) dX8_workShare_25 (by decide) (fun hc6 => ?_) (fun hc6 => ?_)
    · replace h := rv_ift hc6 h
      refine rv_iinc (v := (x3 + 1)) (lv2 := [(3, .int (x3 + 1)), (0, .ref (ad 0)), (1, .int x1), (2, .int x2)]) dX8_workShare_31 3 rfl rfl (by decide) rfl ?_
      refine rv_goto (tgt := 9) dX8_workShare_34 (by decide) ?_
      refine rv_sub [1, 2, 3, 0] rfl ?_
      exact hk9 h
    · replace h := rv_iff hc6 h
      refine rv_iinc (v := (x2 + 1)) (lv2 := [(2, .int (x2 + 1)), (0, .ref (ad 0)), (1, .int x1), (3, .int x3)]) dX8_workShare_28 2 rfl rfl (by decide) rfl ?_
      refine rv_iinc (v := (x3 + 1)) (lv2 := [(3, .int (x3 + 1)), (2, .int (x2 + 1)), (0, .ref (ad 0)), (1, .int x1)]) dX8_workShare_31 3 rfl rfl (by decide) rfl ?_
      refine rv_goto (tgt := 9) dX8_workShare_34 (by decide) ?_
      refine rv_sub [2, 3, 1, 0] rfl ?_
      exact hk9 h
theorem vh_X8_workShare_9 {l : Launch} {D : va_G} {ta : Nat → ClassId} {ad : Nat → Nat} (hl9 : l.stackTraces = false) {μ : Mem} {x1 : Int32} {n : Nat} {x2 : Int32} {x3 : Int32} {r : String ⊕ UInt32} (h : rv_loop (B_X8_workShare_9 μ x1) (fun _ _ => none) n x2 x3 = some r) : rv_V l D (rv_T ta) RX8 cX8_workShare 4 (some .float) ("", []) (rv_rm 3 1 6) (rv_X D (rv_FX rv_vF r (wx ta ad μ)) (rv_GX r (wx ta ad μ)) 1 6) 1 6 (wx ta ad μ) 9 [(0, .ref (ad 0)), (1, .int x1), (2, .int x2), (3, .int x3)] [] := by
  induction n generalizing x2 x3 r with
  | zero => cases h
  | succ n ih => exact vB_X8_workShare_9 hl9 (fun h9 => ih h9) h
theorem ct_X8_workShare {l : Launch} {D : va_G} {ta : Nat → ClassId} {ad : Nat → Nat} {μ : Mem} {x1 : Int32} {r : String ⊕ UInt32} (hl9 : l.stackTraces = false) (h : f_X8_workShare μ x1 = some r) : rv_CX l D (rv_T ta) yX8_workShare cX8_workShare 4 (some .float) 3 1 6 [.ref (ad 0), .int x1] (wx ta ad μ) (rv_FX rv_vF r (wx ta ad μ)) (rv_GX r (wx ta ad μ)) := by
  refine rv_CXof2 (own := RX8) (lv := [(0, .ref (ad 0)), (1, .int x1)]) rfl (by decide) (rv_le rfl) rfl ?_
  unfold f_X8_workShare at h
  refine rv_aload_n dX8_workShare_0 rfl 0 rfl ?_
  refine rv_iload_n dX8_workShare_1 rfl 1 rfl ?_
  obtain ⟨r1, hr1, h⟩ := rv_bind h
  refine rv_xcallVU (rest := []) (ct_X8_requirePerson hl9 hr1) wm_X8_104 wi_X8_requirePerson wl_X8_requirePerson wc_X8_requirePerson wz_X8 rfl np_X8_requirePerson dX8_workShare_2 rfl ⟨rv_le rfl, rv_le rfl⟩ ⟨rv_le rfl, rv_le rfl⟩ (rv_le rfl) 0 (wx_0 ta ad μ) cl_X8 (fun E9 h8 => ?_) (fun t2 et2 => ?_)
  · obtain rfl := rv_thr_l h8 h
    exact rv_out rfl (rv_le rfl) (rv_le rfl) ⟨rfl, rfl⟩
  · replace h := rv_thr_r et2 h
    refine rv_iconst (v := 0) dX8_workShare_5 (by decide) ?_
    refine rv_istore_n (lv2 := [(2, .int 0), (0, .ref (ad 0)), (1, .int x1)]) dX8_workShare_6 rfl (by decide) rfl ?_
    refine rv_iconst (v := 0) dX8_workShare_7 (by decide) ?_
    refine rv_istore_n (lv2 := [(3, .int 0), (2, .int 0), (0, .ref (ad 0)), (1, .int x1)]) dX8_workShare_8 rfl (by decide) rfl ?_
    refine rv_sub [2, 3, 1, 0] rfl ?_
    exact vh_X8_workShare_9 hl9 h
theorem vB_X8_meanRest_12 {l : Launch} {D : va_G} {ta : Nat → ClassId} {ad : Nat → Nat} (hl9 : l.stackTraces = false) {μ : Mem} {x1 : Int32} {k12 : Int32 → Int32 → Int32 → Option (String ⊕ UInt64)} (hk12 : ∀ {x2 : Int32} {x3 : Int32} {x4 : Int32} {r : String ⊕ UInt64}, k12 x2 x3 x4 = some r → rv_V l D (rv_T ta) RX8 cX8_meanRest 6 (some .double) ("", []) (rv_rm 5 2 12) (rv_X D (rv_FX rv_vD r (wx ta ad μ)) (rv_GX r (wx ta ad μ)) 2 12) 1 6 (wx ta ad μ) 12 [(0, .ref (ad 0)), (1, .int x1), (2, .int x2), (3, .int x3), (4, .int x4)] []) {x2 : Int32} {x3 : Int32} {x4 : Int32} {r : String ⊕ UInt64} (h : B_X8_meanRest_12 μ x1 k12 x2 x3 x4 = some r) : rv_V l D (rv_T ta) RX8 cX8_meanRest 6 (some .double) ("", []) (rv_rm 5 2 12) (rv_X D (rv_FX rv_vD r (wx ta ad μ)) (rv_GX r (wx ta ad μ)) 2 12) 1 6 (wx ta ad μ) 12 [(0, .ref (ad 0)), (1, .int x1), (2, .int x2), (3, .int x3), (4, .int x4)] [] := by
  unfold B_X8_meanRest_12 at h
  refine rv_iload dX8_meanRest_12 4 rfl ?_
  refine rv_bipush (v := 8) dX8_meanRest_14 (by decide) ?_
  refine rv_icmp_ge (tgt := 53) dX8_meanRest_16 (by decide) (fun hc3 => ?_) (fun hc3 => ?_)
  · replace h := rv_ift hc3 h
    refine rv_iload_n dX8_meanRest_53 rfl 3 rfl ?_
    refine rv_if_ne (tgt := 68) dX8_meanRest_54 (by decide) (fun hc4 => ?_) (fun hc4 => ?_)
    · replace h := rv_iff hc4 h
      refine rv_iload_n dX8_meanRest_68 rfl 2 rfl ?_
      refine rv_i2d dX8_meanRest_69 ?_
      refine rv_iload_n dX8_meanRest_70 rfl 3 rfl ?_
      refine rv_i2d dX8_meanRest_71 ?_
      obtain ⟨hi5, h⟩ := rv_ifn h
      refine rv_ddiv dX8_meanRest_72 (rv_nn64P hi5) ?_
      obtain rfl := Option.some.inj h
      exact rv_dretX rfl dX8_meanRest_73 (rv_le rfl) (rv_le rfl) ⟨_, rfl, rfl, rfl⟩
    · replace h := rv_ift hc4 h
      obtain rfl := Option.some.inj h
      exact rv_throwW hl9 th_X8_263_265 dX8_meanRest_57 dX8_meanRest_60 dX8_meanRest_61 dX8_meanRest_64 dX8_meanRest_67 (rv_le rfl) (rv_le rfl) (rv_le rfl) (rv_le rfl) (rv_le rfl) (rv_le rfl) rfl ⟨rfl, rfl⟩
  · replace h := rv_iff hc3 h
    refine rv_aload_n dX8_meanRest_19 rfl 0 rfl ?_
    refine gf_X8_35 dX8_meanRest_20 0 (wx_0 ta ad μ) rfl ?_
    refine rv_iload_n dX8_meanRest_23 rfl 1 rfl ?_
    refine rv_iload dX8_meanRest_24 4 rfl ?_
    obtain ⟨r6, hr6, h⟩ := rv_bind h
    refine rv_callV1 (rest := []) (ct_X3_restAt hr6) wm_X8_157 wi_X3_restAt wl_X3_restAt wc_X3_restAt wz_X3 rfl np_X3_restAt dX8_meanRest_26 rfl ⟨rv_le rfl, rv_le rfl⟩ ⟨rv_le rfl, rv_le rfl⟩ (rv_le rfl) 11 (wx_11 ta ad μ) cl_X3 ?_
    refine rv_istore (lv2 := [(5, .int r6), (0, .ref (ad 0)), (1, .int x1), (2, .int x2), (3, .int x3), (4, .int x4)]) dX8_meanRest_29 (by decide) rfl ?_
    refine rv_iload dX8_meanRest_31 0 rfl ?_
    refine rv_sipush (v := (-1440)) dX8_meanRest_33 (by decide) ?_
    refine rv_icmp_eq (tgt := 47) dX8_meanRest_36 (by decide) (fun hc7 => ?_) (fun hc7 => ?_)
    · replace h := rv_ift hc7 h
      refine rv_iinc (v := (x4 + 1)) (lv2 := [(4, .int (x4 + 1)), (5, .int r6), (0, .ref (ad 0)), (1, .int x1), (2, .int x2), (3, .int x3)]) dX8_meanRest_47 5 rfl rfl (by decide) rfl ?_
      refine rv_goto (tgt := 12) dX8_meanRest_50 (by decide) ?_
      refine rv_sub [2, 3, 4, 5, 0] rfl ?_
      exact hk12 h
    · replace h := rv_iff hc7 h
      refine rv_iload_n dX8_meanRest_39 rfl 3 rfl ?_
      refine rv_iload dX8_meanRest_40 0 rfl ?_
      refine rv_iadd dX8_meanRest_42 ?_
      refine rv_istore_n (lv2 := [(2, .int (x2 + r6)), (5, .int r6), (0, .ref (ad 0)), (1, .int x1), (3, .int x3), (4, .int x4)]) dX8_meanRest_43 rfl (by decide) rfl ?_
      refine rv_iinc (v := (x3 + 1)) (lv2 := [(3, .int (x3 + 1)), (2, .int (x2 + r6)), (5, .int r6), (0, .ref (ad 0)), (1, .int x1), (4, .int x4)]) dX8_meanRest_44 4 rfl rfl (by decide) rfl ?_
      refine rv_iinc (v := (x4 + 1)) (lv2 := [(4, .int (x4 + 1)), (3, .int (x3 + 1)), (2, .int (x2 + r6)), (5, .int r6), (0, .ref (ad 0)), (1, .int x1)]) dX8_meanRest_47 5 rfl rfl (by decide) rfl ?_
      refine rv_goto (tgt := 12) dX8_meanRest_50 (by decide) ?_
      refine rv_sub [4, 5, 2, 1, 0] rfl ?_
      exact hk12 h
theorem vh_X8_meanRest_12 {l : Launch} {D : va_G} {ta : Nat → ClassId} {ad : Nat → Nat} (hl9 : l.stackTraces = false) {μ : Mem} {x1 : Int32} {n : Nat} {x2 : Int32} {x3 : Int32} {x4 : Int32} {r : String ⊕ UInt64} (h : rv_loop (B_X8_meanRest_12 μ x1) (fun _ _ _ => none) n x2 x3 x4 = some r) : rv_V l D (rv_T ta) RX8 cX8_meanRest 6 (some .double) ("", []) (rv_rm 5 2 12) (rv_X D (rv_FX rv_vD r (wx ta ad μ)) (rv_GX r (wx ta ad μ)) 2 12) 1 6 (wx ta ad μ) 12 [(0, .ref (ad 0)), (1, .int x1), (2, .int x2), (3, .int x3), (4, .int x4)] [] := by
  induction n generalizing x2 x3 x4 r with
  | zero => cases h
  | succ n ih => exact vB_X8_meanRest_12 hl9 (fun h9 => ih h9) h
theorem ct_X8_meanRest {l : Launch} {D : va_G} {ta : Nat → ClassId} {ad : Nat → Nat} {μ : Mem} {x1 : Int32} {r : String ⊕ UInt64} (hl9 : l.stackTraces = false) (h : f_X8_meanRest μ x1 = some r) : rv_CX l D (rv_T ta) yX8_meanRest cX8_meanRest 6 (some .double) 5 2 12 [.ref (ad 0), .int x1] (wx ta ad μ) (rv_FX rv_vD r (wx ta ad μ)) (rv_GX r (wx ta ad μ)) := by
  refine rv_CXof2 (own := RX8) (lv := [(0, .ref (ad 0)), (1, .int x1)]) rfl (by decide) (rv_le rfl) rfl ?_
  unfold f_X8_meanRest at h
  refine rv_aload_n dX8_meanRest_0 rfl 0 rfl ?_
  refine rv_iload_n dX8_meanRest_1 rfl 1 rfl ?_
  obtain ⟨r1, hr1, h⟩ := rv_bind h
  refine rv_xcallVU (rest := []) (ct_X8_requirePerson hl9 hr1) wm_X8_104 wi_X8_requirePerson wl_X8_requirePerson wc_X8_requirePerson wz_X8 rfl np_X8_requirePerson dX8_meanRest_2 rfl ⟨rv_le rfl, rv_le rfl⟩ ⟨rv_le rfl, rv_le rfl⟩ (rv_le rfl) 0 (wx_0 ta ad μ) cl_X8 (fun E9 h8 => ?_) (fun t2 et2 => ?_)
  · obtain rfl := rv_thr_l h8 h
    exact rv_out rfl (rv_le rfl) (rv_le rfl) ⟨rfl, rfl⟩
  · replace h := rv_thr_r et2 h
    refine rv_iconst (v := 0) dX8_meanRest_5 (by decide) ?_
    refine rv_istore_n (lv2 := [(2, .int 0), (0, .ref (ad 0)), (1, .int x1)]) dX8_meanRest_6 rfl (by decide) rfl ?_
    refine rv_iconst (v := 0) dX8_meanRest_7 (by decide) ?_
    refine rv_istore_n (lv2 := [(3, .int 0), (2, .int 0), (0, .ref (ad 0)), (1, .int x1)]) dX8_meanRest_8 rfl (by decide) rfl ?_
    refine rv_iconst (v := 0) dX8_meanRest_9 (by decide) ?_
    refine rv_istore (lv2 := [(4, .int 0), (3, .int 0), (2, .int 0), (0, .ref (ad 0)), (1, .int x1)]) dX8_meanRest_10 (by decide) rfl ?_
    refine rv_sub [3, 4, 2, 1, 0] rfl ?_
    exact vh_X8_meanRest_12 hl9 h
theorem vB_X8_isSound_2 {l : Launch} {D : va_G} {ta : Nat → ClassId} {ad : Nat → Nat} {μ : Mem} {k2 : Int32 → Option ((Int32) × Mem)} (hk2 : ∀ {x1 : Int32} {r : (Int32) × Mem}, k2 x1 = some r → rv_V l D (rv_T ta) RX8 cX8_isSound 2 (some .boolean) ("", []) (rv_rm 7 0 0) (rv_M D (rv_F (rv_vI r.1) (wx ta ad r.2)) 0 0) 0 0 (wx ta ad μ) 2 [(0, .ref (ad 0)), (1, .int x1)] []) {x1 : Int32} {r : (Int32) × Mem} (h : B_X8_isSound_2 μ k2 x1 = some r) : rv_V l D (rv_T ta) RX8 cX8_isSound 2 (some .boolean) ("", []) (rv_rm 7 0 0) (rv_M D (rv_F (rv_vI r.1) (wx ta ad r.2)) 0 0) 0 0 (wx ta ad μ) 2 [(0, .ref (ad 0)), (1, .int x1)] [] := by
  unfold B_X8_isSound_2 at h
  refine rv_iload_n dX8_isSound_2 rfl 1 rfl ?_
  refine rv_aload_n dX8_isSound_3 rfl 0 rfl ?_
  refine gf_X8_26 dX8_isSound_4 0 (wx_0 ta ad μ) rfl ?_
  refine gf_X8_72 dX8_isSound_7 6 (wx_6 ta ad μ) rfl ?_
  refine rv_icmp_ge (tgt := 59) dX8_isSound_10 (by decide) (fun hc1 => ?_) (fun hc1 => ?_)
  · replace h := rv_ift hc1 h
    refine rv_aload_n dX8_isSound_59 rfl 0 rfl ?_
    refine gf_X8_61 dX8_isSound_60 0 (wx_0 ta ad μ) rfl ?_
    refine rv_iconst (v := 1) dX8_isSound_63 (by decide) ?_
    obtain ⟨r2, hr2, h⟩ := rv_bind h
    refine rv_callV1 (rest := []) (ct_X4_seek hr2) wm_X8_236 wi_X4_seek wl_X4_seek wc_X4_seek wz_X4 rfl np_X4_seek dX8_isSound_64 rfl ⟨rv_le rfl, rv_le rfl⟩ ⟨rv_le rfl, rv_le rfl⟩ (rv_le rfl) 17 (wx_17 ta ad μ) cl_X4 ?_
    refine rv_aload_n dX8_isSound_67 rfl 0 rfl ?_
    refine gf_X8_61 dX8_isSound_68 0 (wx_0 ta ad r2.2) rfl ?_
    refine rv_iconst (v := 0) dX8_isSound_71 (by decide) ?_
    obtain ⟨r3, hr3, h⟩ := rv_bind h
    refine rv_callV1 (rest := [.int r2.1]) (ct_X4_seek hr3) wm_X8_236 wi_X4_seek wl_X4_seek wc_X4_seek wz_X4 rfl np_X4_seek dX8_isSound_72 rfl ⟨rv_le rfl, rv_le rfl⟩ ⟨rv_le rfl, rv_le rfl⟩ (rv_le rfl) 17 (wx_17 ta ad r2.2) cl_X4 ?_
    refine rv_icmp_ne (tgt := 82) dX8_isSound_75 (by decide) (fun hc4 => ?_) (fun hc4 => ?_)
    · replace h := rv_iff hc4 h
      refine rv_iconst (v := 0) dX8_isSound_82 (by decide) ?_
      obtain rfl := Option.some.inj h
      exact rv_zret rfl rfl dX8_isSound_83 (rv_le rfl) (rv_le rfl) ⟨rfl, rfl⟩
    · replace h := rv_ift hc4 h
      refine rv_iconst (v := 1) dX8_isSound_78 (by decide) ?_
      refine rv_goto (tgt := 83) dX8_isSound_79 (by decide) ?_
      obtain rfl := Option.some.inj h
      exact rv_zret rfl rfl dX8_isSound_83 (rv_le rfl) (rv_le rfl) ⟨rfl, rfl⟩
  · replace h := rv_iff hc1 h
    refine rv_aload_n dX8_isSound_13 rfl 0 rfl ?_
    refine gf_X8_35 dX8_isSound_14 0 (wx_0 ta ad μ) rfl ?_
    refine rv_iload_n dX8_isSound_17 rfl 1 rfl ?_
    obtain ⟨r5, hr5, h⟩ := rv_bind h
    refine rv_callV1 (rest := []) (ct_X3_nightsByCounting hr5) wm_X8_165 wi_X3_nightsByCounting wl_X3_nightsByCounting wc_X3_nightsByCounting wz_X3 rfl np_X3_nightsByCounting dX8_isSound_18 rfl ⟨rv_le rfl, rv_le rfl⟩ ⟨rv_le rfl, rv_le rfl⟩ (rv_le rfl) 11 (wx_11 ta ad μ) cl_X3 ?_
    refine rv_aload_n dX8_isSound_21 rfl 0 rfl ?_
    refine gf_X8_35 dX8_isSound_22 0 (wx_0 ta ad μ) rfl ?_
    refine rv_iload_n dX8_isSound_25 rfl 1 rfl ?_
    obtain ⟨r6, hr6, h⟩ := rv_bind h
    refine rv_callV1 (rest := [.int r5]) (ct_X3_nightsByTryingRows hr6) wm_X8_169 wi_X3_nightsByTryingRows wl_X3_nightsByTryingRows wc_X3_nightsByTryingRows wz_X3 rfl np_X3_nightsByTryingRows dX8_isSound_26 rfl ⟨rv_le rfl, rv_le rfl⟩ ⟨rv_le rfl, rv_le rfl⟩ (rv_le rfl) 11 (wx_11 ta ad μ) cl_X3 ?_
    refine rv_icmp_ne (tgt := 51) dX8_isSound_29 (by decide) (fun hc7 => ?_) (fun hc7 => ?_)
    · replace h := rv_iff hc7 h
      refine rv_iconst (v := 0) dX8_isSound_51 (by decide) ?_
      obtain rfl := Option.some.inj h
      exact rv_zret rfl rfl dX8_isSound_52 (rv_le rfl) (rv_le rfl) ⟨rfl, rfl⟩
    · replace h := rv_ift hc7 h
      refine rv_aload_n dX8_isSound_32 rfl 0 rfl ?_
      refine gf_X8_35 dX8_isSound_33 0 (wx_0 ta ad μ) rfl ?_
      refine rv_iload_n dX8_isSound_36 rfl 1 rfl ?_
      obtain ⟨r8, hr8, h⟩ := rv_bind h
      refine rv_callV1 (rest := []) (ct_X3_sumByMoving hr8) wm_X8_172 wi_X3_sumByMoving wl_X3_sumByMoving wc_X3_sumByMoving wz_X3 rfl np_X3_sumByMoving dX8_isSound_37 rfl ⟨rv_le rfl, rv_le rfl⟩ ⟨rv_le rfl, rv_le rfl⟩ (rv_le rfl) 11 (wx_11 ta ad μ) cl_X3 ?_
      refine rv_aload_n dX8_isSound_40 rfl 0 rfl ?_
      refine gf_X8_35 dX8_isSound_41 0 (wx_0 ta ad μ) rfl ?_
      refine rv_iload_n dX8_isSound_44 rfl 1 rfl ?_
      obtain ⟨r9, hr9, h⟩ := rv_bind h
      refine rv_callV1 (rest := [.int r8]) (ct_X3_sumByAddingAnew hr9) wm_X8_175 wi_X3_sumByAddingAnew wl_X3_sumByAddingAnew wc_X3_sumByAddingAnew wz_X3 rfl np_X3_sumByAddingAnew dX8_isSound_45 rfl ⟨rv_le rfl, rv_le rfl⟩ ⟨rv_le rfl, rv_le rfl⟩ (rv_le rfl) 11 (wx_11 ta ad μ) cl_X3 ?_
      refine rv_icmp_eq (tgt := 53) dX8_isSound_48 (by decide) (fun hc10 => ?_) (fun hc10 => ?_)
      · replace h := rv_ift hc10 h
        refine rv_iinc (v := (x1 + 1)) (lv2 := [(1, .int (x1 + 1)), (0, .ref (ad 0))]) dX8_isSound_53 1 rfl rfl (by decide) rfl ?_
        refine rv_goto (tgt := 2) dX8_isSound_56 (by decide) ?_
        refine rv_sub [1, 0] rfl ?_
        exact hk2 h
      · replace h := rv_iff hc10 h
        refine rv_iconst (v := 0) dX8_isSound_51 (by decide) ?_
        obtain rfl := Option.some.inj h
        exact rv_zret rfl rfl dX8_isSound_52 (rv_le rfl) (rv_le rfl) ⟨rfl, rfl⟩
theorem vh_X8_isSound_2 {l : Launch} {D : va_G} {ta : Nat → ClassId} {ad : Nat → Nat} {μ : Mem} {n : Nat} {x1 : Int32} {r : (Int32) × Mem} (h : rv_loop (B_X8_isSound_2 μ) (fun _ => none) n x1 = some r) : rv_V l D (rv_T ta) RX8 cX8_isSound 2 (some .boolean) ("", []) (rv_rm 7 0 0) (rv_M D (rv_F (rv_vI r.1) (wx ta ad r.2)) 0 0) 0 0 (wx ta ad μ) 2 [(0, .ref (ad 0)), (1, .int x1)] [] := by
  induction n generalizing x1 r with
  | zero => cases h
  | succ n ih => exact vB_X8_isSound_2 (fun h9 => ih h9) h
theorem ct_X8_isSound {l : Launch} {D : va_G} {ta : Nat → ClassId} {ad : Nat → Nat} {μ : Mem} {r : (Int32) × Mem} (h : f_X8_isSound μ = some r) : rv_C l D (rv_T ta) yX8_isSound cX8_isSound 2 (some .boolean) 7 0 0 [.ref (ad 0)] (wx ta ad μ) (rv_F (rv_vI r.1) (wx ta ad r.2)) := by
  refine rv_Cof2 (own := RX8) (lv := [(0, .ref (ad 0))]) rfl (by decide) (rv_le rfl) rfl ?_
  unfold f_X8_isSound at h
  refine rv_iconst (v := 0) dX8_isSound_0 (by decide) ?_
  refine rv_istore_n (lv2 := [(1, .int 0), (0, .ref (ad 0))]) dX8_isSound_1 rfl (by decide) rfl ?_
  refine rv_sub [1, 0] rfl ?_
  exact vh_X8_isSound_2 h
