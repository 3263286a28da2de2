/-! the walks: each contract out of its mirrored function, printed by gen.py -/
theorem ct_X0_put_20 {l : Launch} {D : va_G} {ta : Nat → ClassId} {ad : Nat → Nat} {μ : Mem} {x1 : Int32} {x2 : Int32} {x3 : Int32} {r : (Unit) × Mem} (h : f_X0_put 20 μ x1 x2 x3 = some r) : rv_C l D (rv_T ta) yX0_put cX0_put 4 none 1 0 0 [.ref (ad 20), .int x1, .int x2, .int x3] (wx ta ad μ) (rv_F (rv_vU r.1) (wx ta ad r.2)) := by
  refine rv_Cof2 (own := RX0) (lv := [(0, .ref (ad 20)), (1, .int x1), (2, .int x2), (3, .int x3)]) rfl (by decide) (rv_le rfl) rfl ?_
  unfold f_X0_put at h
  refine rv_iload_n dX0_put_0 rfl 1 rfl ?_
  refine rv_if_lt (tgt := 23) dX0_put_1 (by decide) (fun hc1 => ?_) (fun hc1 => ?_)
  · replace h := rv_ift hc1 h
    obtain rfl := Option.some.inj h
    exact rv_vret rfl dX0_put_23 (rv_le rfl) (rv_le rfl) ⟨rfl, rfl⟩
  · replace h := rv_iff hc1 h
    refine rv_iload_n dX0_put_4 rfl 1 rfl ?_
    refine rv_iconst (v := 2) dX0_put_5 (by decide) ?_
    refine rv_icmp_ge (tgt := 23) dX0_put_6 (by decide) (fun hc2 => ?_) (fun hc2 => ?_)
    · replace h := rv_ift hc2 h
      obtain rfl := Option.some.inj h
      exact rv_vret rfl dX0_put_23 (rv_le rfl) (rv_le rfl) ⟨rfl, rfl⟩
    · replace h := rv_iff hc2 h
      refine rv_aload_n dX0_put_9 rfl 0 rfl ?_
      refine gf_X0_9 dX0_put_10 20 (wx_20 ta ad μ) rfl ?_
      refine rv_iload_n dX0_put_13 rfl 1 rfl ?_
      refine rv_iload_n dX0_put_14 rfl 2 rfl ?_
      obtain ⟨hi3, h⟩ := rv_ifn h
      refine rv_iast dX0_put_15 0 rfl 21 (wx_21 ta ad μ) (rv_inP hi3) (wx_s21 ta ad μ _ _) ?_
      refine rv_aload_n dX0_put_16 rfl 0 rfl ?_
      refine gf_X0_15 dX0_put_17 20 (wx_20 ta ad (mu_up μ 21 (Int32.toNatClampNeg x1) x2)) rfl ?_
      refine rv_iload_n dX0_put_20 rfl 1 rfl ?_
      refine rv_iload_n dX0_put_21 rfl 3 rfl ?_
      obtain ⟨hi4, h⟩ := rv_ifn h
      refine rv_iast dX0_put_22 0 rfl 22 (wx_22 ta ad (mu_up μ 21 (Int32.toNatClampNeg x1) x2)) (rv_inP hi4) (wx_s22 ta ad (mu_up μ 21 (Int32.toNatClampNeg x1) x2) _ _) ?_
      obtain rfl := Option.some.inj h
      exact rv_vret rfl dX0_put_23 (rv_le rfl) (rv_le rfl) ⟨rfl, rfl⟩
theorem ct_X0_put_23 {l : Launch} {D : va_G} {ta : Nat → ClassId} {ad : Nat → Nat} {μ : Mem} {x1 : Int32} {x2 : Int32} {x3 : Int32} {r : (Unit) × Mem} (h : f_X0_put 23 μ x1 x2 x3 = some r) : rv_C l D (rv_T ta) yX0_put cX0_put 4 none 1 0 0 [.ref (ad 23), .int x1, .int x2, .int x3] (wx ta ad μ) (rv_F (rv_vU r.1) (wx ta ad r.2)) := by
  refine rv_Cof2 (own := RX0) (lv := [(0, .ref (ad 23)), (1, .int x1), (2, .int x2), (3, .int x3)]) rfl (by decide) (rv_le rfl) rfl ?_
  unfold f_X0_put at h
  refine rv_iload_n dX0_put_0 rfl 1 rfl ?_
  refine rv_if_lt (tgt := 23) dX0_put_1 (by decide) (fun hc1 => ?_) (fun hc1 => ?_)
  · replace h := rv_ift hc1 h
    obtain rfl := Option.some.inj h
    exact rv_vret rfl dX0_put_23 (rv_le rfl) (rv_le rfl) ⟨rfl, rfl⟩
  · replace h := rv_iff hc1 h
    refine rv_iload_n dX0_put_4 rfl 1 rfl ?_
    refine rv_iconst (v := 2) dX0_put_5 (by decide) ?_
    refine rv_icmp_ge (tgt := 23) dX0_put_6 (by decide) (fun hc2 => ?_) (fun hc2 => ?_)
    · replace h := rv_ift hc2 h
      obtain rfl := Option.some.inj h
      exact rv_vret rfl dX0_put_23 (rv_le rfl) (rv_le rfl) ⟨rfl, rfl⟩
    · replace h := rv_iff hc2 h
      refine rv_aload_n dX0_put_9 rfl 0 rfl ?_
      refine gf_X0_9 dX0_put_10 23 (wx_23 ta ad μ) rfl ?_
      refine rv_iload_n dX0_put_13 rfl 1 rfl ?_
      refine rv_iload_n dX0_put_14 rfl 2 rfl ?_
      obtain ⟨hi3, h⟩ := rv_ifn h
      refine rv_iast dX0_put_15 0 rfl 24 (wx_24 ta ad μ) (rv_inP hi3) (wx_s24 ta ad μ _ _) ?_
      refine rv_aload_n dX0_put_16 rfl 0 rfl ?_
      refine gf_X0_15 dX0_put_17 23 (wx_23 ta ad (mu_up μ 24 (Int32.toNatClampNeg x1) x2)) rfl ?_
      refine rv_iload_n dX0_put_20 rfl 1 rfl ?_
      refine rv_iload_n dX0_put_21 rfl 3 rfl ?_
      obtain ⟨hi4, h⟩ := rv_ifn h
      refine rv_iast dX0_put_22 0 rfl 25 (wx_25 ta ad (mu_up μ 24 (Int32.toNatClampNeg x1) x2)) (rv_inP hi4) (wx_s25 ta ad (mu_up μ 24 (Int32.toNatClampNeg x1) x2) _ _) ?_
      obtain rfl := Option.some.inj h
      exact rv_vret rfl dX0_put_23 (rv_le rfl) (rv_le rfl) ⟨rfl, rfl⟩
theorem ct_X0_cellAt_20 {l : Launch} {D : va_G} {ta : Nat → ClassId} {ad : Nat → Nat} {μ : Mem} {x1 : Int32} {r : Int32} (h : f_X0_cellAt 20 μ x1 = some r) : rv_C l D (rv_T ta) yX0_cellAt cX0_cellAt 2 (some .int) 1 0 0 [.ref (ad 20), .int x1] (wx ta ad μ) (rv_F (rv_vI r) (wx ta ad μ)) := by
  refine rv_Cof2 (own := RX0) (lv := [(0, .ref (ad 20)), (1, .int x1)]) rfl (by decide) (rv_le rfl) rfl ?_
  unfold f_X0_cellAt at h
  refine rv_iload_n dX0_cellAt_0 rfl 1 rfl ?_
  refine rv_if_lt (tgt := 18) dX0_cellAt_1 (by decide) (fun hc1 => ?_) (fun hc1 => ?_)
  · replace h := rv_ift hc1 h
    refine rv_iconst (v := (-1)) dX0_cellAt_18 (by decide) ?_
    obtain rfl := Option.some.inj h
    exact rv_iret rfl dX0_cellAt_19 (rv_le rfl) (rv_le rfl) ⟨rfl, rfl⟩
  · replace h := rv_iff hc1 h
    refine rv_iload_n dX0_cellAt_4 rfl 1 rfl ?_
    refine rv_iconst (v := 2) dX0_cellAt_5 (by decide) ?_
    refine rv_icmp_ge (tgt := 18) dX0_cellAt_6 (by decide) (fun hc2 => ?_) (fun hc2 => ?_)
    · replace h := rv_ift hc2 h
      refine rv_iconst (v := (-1)) dX0_cellAt_18 (by decide) ?_
      obtain rfl := Option.some.inj h
      exact rv_iret rfl dX0_cellAt_19 (rv_le rfl) (rv_le rfl) ⟨rfl, rfl⟩
    · replace h := rv_iff hc2 h
      refine rv_aload_n dX0_cellAt_9 rfl 0 rfl ?_
      refine gf_X0_9 dX0_cellAt_10 20 (wx_20 ta ad μ) rfl ?_
      refine rv_iload_n dX0_cellAt_13 rfl 1 rfl ?_
      obtain ⟨hi3, h⟩ := rv_ifn h
      refine rv_iald dX0_cellAt_14 0 rfl 21 (wx_21 ta ad μ) (rv_inP hi3) ?_
      refine rv_goto (tgt := 19) dX0_cellAt_15 (by decide) ?_
      obtain rfl := Option.some.inj h
      exact rv_iret rfl dX0_cellAt_19 (rv_le rfl) (rv_le rfl) ⟨rfl, rfl⟩
theorem ct_X0_cellAt_23 {l : Launch} {D : va_G} {ta : Nat → ClassId} {ad : Nat → Nat} {μ : Mem} {x1 : Int32} {r : Int32} (h : f_X0_cellAt 23 μ x1 = some r) : rv_C l D (rv_T ta) yX0_cellAt cX0_cellAt 2 (some .int) 1 0 0 [.ref (ad 23), .int x1] (wx ta ad μ) (rv_F (rv_vI r) (wx ta ad μ)) := by
  refine rv_Cof2 (own := RX0) (lv := [(0, .ref (ad 23)), (1, .int x1)]) rfl (by decide) (rv_le rfl) rfl ?_
  unfold f_X0_cellAt at h
  refine rv_iload_n dX0_cellAt_0 rfl 1 rfl ?_
  refine rv_if_lt (tgt := 18) dX0_cellAt_1 (by decide) (fun hc1 => ?_) (fun hc1 => ?_)
  · replace h := rv_ift hc1 h
    refine rv_iconst (v := (-1)) dX0_cellAt_18 (by decide) ?_
    obtain rfl := Option.some.inj h
    exact rv_iret rfl dX0_cellAt_19 (rv_le rfl) (rv_le rfl) ⟨rfl, rfl⟩
  · replace h := rv_iff hc1 h
    refine rv_iload_n dX0_cellAt_4 rfl 1 rfl ?_
    refine rv_iconst (v := 2) dX0_cellAt_5 (by decide) ?_
    refine rv_icmp_ge (tgt := 18) dX0_cellAt_6 (by decide) (fun hc2 => ?_) (fun hc2 => ?_)
    · replace h := rv_ift hc2 h
      refine rv_iconst (v := (-1)) dX0_cellAt_18 (by decide) ?_
      obtain rfl := Option.some.inj h
      exact rv_iret rfl dX0_cellAt_19 (rv_le rfl) (rv_le rfl) ⟨rfl, rfl⟩
    · replace h := rv_iff hc2 h
      refine rv_aload_n dX0_cellAt_9 rfl 0 rfl ?_
      refine gf_X0_9 dX0_cellAt_10 23 (wx_23 ta ad μ) rfl ?_
      refine rv_iload_n dX0_cellAt_13 rfl 1 rfl ?_
      obtain ⟨hi3, h⟩ := rv_ifn h
      refine rv_iald dX0_cellAt_14 0 rfl 24 (wx_24 ta ad μ) (rv_inP hi3) ?_
      refine rv_goto (tgt := 19) dX0_cellAt_15 (by decide) ?_
      obtain rfl := Option.some.inj h
      exact rv_iret rfl dX0_cellAt_19 (rv_le rfl) (rv_le rfl) ⟨rfl, rfl⟩
theorem ct_X0_valueAt_20 {l : Launch} {D : va_G} {ta : Nat → ClassId} {ad : Nat → Nat} {μ : Mem} {x1 : Int32} {r : Int32} (h : f_X0_valueAt 20 μ x1 = some r) : rv_C l D (rv_T ta) yX0_valueAt cX0_valueAt 2 (some .int) 1 0 0 [.ref (ad 20), .int x1] (wx ta ad μ) (rv_F (rv_vI r) (wx ta ad μ)) := by
  refine rv_Cof2 (own := RX0) (lv := [(0, .ref (ad 20)), (1, .int x1)]) rfl (by decide) (rv_le rfl) rfl ?_
  unfold f_X0_valueAt at h
  refine rv_iload_n dX0_valueAt_0 rfl 1 rfl ?_
  refine rv_if_lt (tgt := 18) dX0_valueAt_1 (by decide) (fun hc1 => ?_) (fun hc1 => ?_)
  · replace h := rv_ift hc1 h
    refine rv_iconst (v := 0) dX0_valueAt_18 (by decide) ?_
    obtain rfl := Option.some.inj h
    exact rv_iret rfl dX0_valueAt_19 (rv_le rfl) (rv_le rfl) ⟨rfl, rfl⟩
  · replace h := rv_iff hc1 h
    refine rv_iload_n dX0_valueAt_4 rfl 1 rfl ?_
    refine rv_iconst (v := 2) dX0_valueAt_5 (by decide) ?_
    refine rv_icmp_ge (tgt := 18) dX0_valueAt_6 (by decide) (fun hc2 => ?_) (fun hc2 => ?_)
    · replace h := rv_ift hc2 h
      refine rv_iconst (v := 0) dX0_valueAt_18 (by decide) ?_
      obtain rfl := Option.some.inj h
      exact rv_iret rfl dX0_valueAt_19 (rv_le rfl) (rv_le rfl) ⟨rfl, rfl⟩
    · replace h := rv_iff hc2 h
      refine rv_aload_n dX0_valueAt_9 rfl 0 rfl ?_
      refine gf_X0_15 dX0_valueAt_10 20 (wx_20 ta ad μ) rfl ?_
      refine rv_iload_n dX0_valueAt_13 rfl 1 rfl ?_
      obtain ⟨hi3, h⟩ := rv_ifn h
      refine rv_iald dX0_valueAt_14 0 rfl 22 (wx_22 ta ad μ) (rv_inP hi3) ?_
      refine rv_goto (tgt := 19) dX0_valueAt_15 (by decide) ?_
      obtain rfl := Option.some.inj h
      exact rv_iret rfl dX0_valueAt_19 (rv_le rfl) (rv_le rfl) ⟨rfl, rfl⟩
theorem ct_X0_valueAt_23 {l : Launch} {D : va_G} {ta : Nat → ClassId} {ad : Nat → Nat} {μ : Mem} {x1 : Int32} {r : Int32} (h : f_X0_valueAt 23 μ x1 = some r) : rv_C l D (rv_T ta) yX0_valueAt cX0_valueAt 2 (some .int) 1 0 0 [.ref (ad 23), .int x1] (wx ta ad μ) (rv_F (rv_vI r) (wx ta ad μ)) := by
  refine rv_Cof2 (own := RX0) (lv := [(0, .ref (ad 23)), (1, .int x1)]) rfl (by decide) (rv_le rfl) rfl ?_
  unfold f_X0_valueAt at h
  refine rv_iload_n dX0_valueAt_0 rfl 1 rfl ?_
  refine rv_if_lt (tgt := 18) dX0_valueAt_1 (by decide) (fun hc1 => ?_) (fun hc1 => ?_)
  · replace h := rv_ift hc1 h
    refine rv_iconst (v := 0) dX0_valueAt_18 (by decide) ?_
    obtain rfl := Option.some.inj h
    exact rv_iret rfl dX0_valueAt_19 (rv_le rfl) (rv_le rfl) ⟨rfl, rfl⟩
  · replace h := rv_iff hc1 h
    refine rv_iload_n dX0_valueAt_4 rfl 1 rfl ?_
    refine rv_iconst (v := 2) dX0_valueAt_5 (by decide) ?_
    refine rv_icmp_ge (tgt := 18) dX0_valueAt_6 (by decide) (fun hc2 => ?_) (fun hc2 => ?_)
    · replace h := rv_ift hc2 h
      refine rv_iconst (v := 0) dX0_valueAt_18 (by decide) ?_
      obtain rfl := Option.some.inj h
      exact rv_iret rfl dX0_valueAt_19 (rv_le rfl) (rv_le rfl) ⟨rfl, rfl⟩
    · replace h := rv_iff hc2 h
      refine rv_aload_n dX0_valueAt_9 rfl 0 rfl ?_
      refine gf_X0_15 dX0_valueAt_10 23 (wx_23 ta ad μ) rfl ?_
      refine rv_iload_n dX0_valueAt_13 rfl 1 rfl ?_
      obtain ⟨hi3, h⟩ := rv_ifn h
      refine rv_iald dX0_valueAt_14 0 rfl 25 (wx_25 ta ad μ) (rv_inP hi3) ?_
      refine rv_goto (tgt := 19) dX0_valueAt_15 (by decide) ?_
      obtain rfl := Option.some.inj h
      exact rv_iret rfl dX0_valueAt_19 (rv_le rfl) (rv_le rfl) ⟨rfl, rfl⟩
theorem ct_X8_cellOf {l : Launch} {D : va_G} {ta : Nat → ClassId} {ws : va_W} {x0 : Int32} {x1 : Int32} {r : Int32} (h : f_X8_cellOf x0 x1 = some r) : rv_C l D (rv_T ta) yX8_cellOf cX8_cellOf 2 (some .int) 1 0 0 [.int x0, .int x1] ws (rv_F (rv_vI r) ws) := by
  refine rv_Cof2 (own := RX8) (lv := [(0, .int x0), (1, .int x1)]) rfl (by decide) (rv_le rfl) rfl ?_
  unfold f_X8_cellOf at h
  refine rv_iload_n dX8_cellOf_0 rfl 0 rfl ?_
  refine rv_if_lt (tgt := 28) dX8_cellOf_1 (by decide) (fun hc1 => ?_) (fun hc1 => ?_)
  · replace h := rv_ift hc1 h
    refine rv_iconst (v := (-1)) dX8_cellOf_28 (by decide) ?_
    obtain rfl := Option.some.inj h
    exact rv_iret rfl dX8_cellOf_29 (rv_le rfl) (rv_le rfl) ⟨rfl, rfl⟩
  · replace h := rv_iff hc1 h
    refine rv_iload_n dX8_cellOf_4 rfl 0 rfl ?_
    refine rv_iconst (v := 4) dX8_cellOf_5 (by decide) ?_
    refine rv_icmp_ge (tgt := 28) dX8_cellOf_6 (by decide) (fun hc2 => ?_) (fun hc2 => ?_)
    · replace h := rv_ift hc2 h
      refine rv_iconst (v := (-1)) dX8_cellOf_28 (by decide) ?_
      obtain rfl := Option.some.inj h
      exact rv_iret rfl dX8_cellOf_29 (rv_le rfl) (rv_le rfl) ⟨rfl, rfl⟩
    · replace h := rv_iff hc2 h
      refine rv_iload_n dX8_cellOf_9 rfl 1 rfl ?_
      refine rv_if_lt (tgt := 28) dX8_cellOf_10 (by decide) (fun hc3 => ?_) (fun hc3 => ?_)
      · replace h := rv_ift hc3 h
        refine rv_iconst (v := (-1)) dX8_cellOf_28 (by decide) ?_
        obtain rfl := Option.some.inj h
        exact rv_iret rfl dX8_cellOf_29 (rv_le rfl) (rv_le rfl) ⟨rfl, rfl⟩
      · replace h := rv_iff hc3 h
        refine rv_iload_n dX8_cellOf_13 rfl 1 rfl ?_
        refine rv_bipush (v := 8) dX8_cellOf_14 (by decide) ?_
        refine rv_icmp_ge (tgt := 28) dX8_cellOf_16 (by decide) (fun hc4 => ?_) (fun hc4 => ?_)
        · replace h := rv_ift hc4 h
          refine rv_iconst (v := (-1)) dX8_cellOf_28 (by decide) ?_
          obtain rfl := Option.some.inj h
          exact rv_iret rfl dX8_cellOf_29 (rv_le rfl) (rv_le rfl) ⟨rfl, rfl⟩
        · replace h := rv_iff hc4 h
          refine rv_iload_n dX8_cellOf_19 rfl 0 rfl ?_
          refine rv_bipush (v := 8) dX8_cellOf_20 (by decide) ?_
          refine rv_imul dX8_cellOf_22 ?_
          refine rv_iload_n dX8_cellOf_23 rfl 1 rfl ?_
          refine rv_iadd dX8_cellOf_24 ?_
          refine rv_goto (tgt := 29) dX8_cellOf_25 (by decide) ?_
          obtain rfl := Option.some.inj h
          exact rv_iret rfl dX8_cellOf_29 (rv_le rfl) (rv_le rfl) ⟨rfl, rfl⟩
theorem ct_X5_shiftAt {l : Launch} {D : va_G} {ta : Nat → ClassId} {ad : Nat → Nat} {μ : Mem} {x1 : Int32} {x2 : Int32} {r : Int32} (h : f_X5_shiftAt μ x1 x2 = some r) : rv_C l D (rv_T ta) yX5_shiftAt cX5_shiftAt 4 (some .int) 2 0 0 [.ref (ad 6), .int x1, .int x2] (wx ta ad μ) (rv_F (rv_vI r) (wx ta ad μ)) := by
  refine rv_Cof2 (own := RX5) (lv := [(0, .ref (ad 6)), (1, .int x1), (2, .int x2)]) rfl (by decide) (rv_le rfl) rfl ?_
  unfold f_X5_shiftAt at h
  refine rv_iload_n dX5_shiftAt_0 rfl 1 rfl ?_
  refine rv_iload_n dX5_shiftAt_1 rfl 2 rfl ?_
  obtain ⟨r1, hr1, h⟩ := rv_bind h
  refine rv_callSN1 (rest := []) (ct_X8_cellOf hr1) wm_X5_29 ws_X8_cellOf wc_X8_cellOf wz_X8 np_X8_cellOf dX5_shiftAt_2 rfl ⟨rv_le rfl, rv_le rfl⟩ ⟨rv_le rfl, rv_le rfl⟩ (rv_le rfl) ?_
  refine rv_istore_n (lv2 := [(3, .int r1), (0, .ref (ad 6)), (1, .int x1), (2, .int x2)]) dX5_shiftAt_5 rfl (by decide) rfl ?_
  refine rv_iload_n dX5_shiftAt_6 rfl 0 rfl ?_
  refine rv_if_lt (tgt := 27) dX5_shiftAt_7 (by decide) (fun hc2 => ?_) (fun hc2 => ?_)
  · replace h := rv_ift hc2 h
    refine rv_iconst (v := (-1)) dX5_shiftAt_27 (by decide) ?_
    obtain rfl := Option.some.inj h
    exact rv_iret rfl dX5_shiftAt_28 (rv_le rfl) (rv_le rfl) ⟨rfl, rfl⟩
  · replace h := rv_iff hc2 h
    refine rv_iload_n dX5_shiftAt_10 rfl 0 rfl ?_
    refine rv_bipush (v := 32) dX5_shiftAt_11 (by decide) ?_
    refine rv_icmp_ge (tgt := 27) dX5_shiftAt_13 (by decide) (fun hc3 => ?_) (fun hc3 => ?_)
    · replace h := rv_ift hc3 h
      refine rv_iconst (v := (-1)) dX5_shiftAt_27 (by decide) ?_
      obtain rfl := Option.some.inj h
      exact rv_iret rfl dX5_shiftAt_28 (rv_le rfl) (rv_le rfl) ⟨rfl, rfl⟩
    · replace h := rv_iff hc3 h
      refine rv_aload_n dX5_shiftAt_16 rfl 1 rfl ?_
      refine gf_X5_9 dX5_shiftAt_17 6 (wx_6 ta ad μ) rfl ?_
      refine rv_iload_n dX5_shiftAt_20 rfl 0 rfl ?_
      obtain ⟨hi4, h⟩ := rv_ifn h
      refine rv_iald dX5_shiftAt_21 0 rfl 7 (wx_7 ta ad μ) (rv_inP hi4) ?_
      refine rv_iconst (v := 1) dX5_shiftAt_22 (by decide) ?_
      refine rv_isub dX5_shiftAt_23 ?_
      refine rv_goto (tgt := 28) dX5_shiftAt_24 (by decide) ?_
      obtain rfl := Option.some.inj h
      exact rv_iret rfl dX5_shiftAt_28 (rv_le rfl) (rv_le rfl) ⟨rfl, rfl⟩
theorem ct_X7_holdsNight {l : Launch} {D : va_G} {ta : Nat → ClassId} {ad : Nat → Nat} {μ : Mem} {x1 : Int32} {r : Int32} (h : f_X7_holdsNight μ x1 = some r) : rv_C l D (rv_T ta) yX7_holdsNight cX7_holdsNight 2 (some .boolean) 1 0 0 [.ref (ad 1), .int x1] (wx ta ad μ) (rv_F (rv_vI r) (wx ta ad μ)) := by
  refine rv_Cof2 (own := RX7) (lv := [(0, .ref (ad 1)), (1, .int x1)]) rfl (by decide) (rv_le rfl) rfl ?_
  unfold f_X7_holdsNight at h
  refine rv_iload_n dX7_holdsNight_0 rfl 1 rfl ?_
  refine rv_if_lt (tgt := 32) dX7_holdsNight_1 (by decide) (fun hc1 => ?_) (fun hc1 => ?_)
  · replace h := rv_ift hc1 h
    refine rv_iconst (v := 0) dX7_holdsNight_32 (by decide) ?_
    obtain rfl := Option.some.inj h
    exact rv_zret rfl rfl dX7_holdsNight_33 (rv_le rfl) (rv_le rfl) ⟨rfl, rfl⟩
  · replace h := rv_iff hc1 h
    refine rv_iload_n dX7_holdsNight_4 rfl 1 rfl ?_
    refine rv_iconst (v := 3) dX7_holdsNight_5 (by decide) ?_
    refine rv_icmp_ge (tgt := 32) dX7_holdsNight_6 (by decide) (fun hc2 => ?_) (fun hc2 => ?_)
    · replace h := rv_ift hc2 h
      refine rv_iconst (v := 0) dX7_holdsNight_32 (by decide) ?_
      obtain rfl := Option.some.inj h
      exact rv_zret rfl rfl dX7_holdsNight_33 (rv_le rfl) (rv_le rfl) ⟨rfl, rfl⟩
    · replace h := rv_iff hc2 h
      refine rv_aload_n dX7_holdsNight_9 rfl 0 rfl ?_
      refine gf_X7_9 dX7_holdsNight_10 1 (wx_1 ta ad μ) rfl ?_
      refine rv_iload_n dX7_holdsNight_13 rfl 1 rfl ?_
      obtain ⟨hi3, h⟩ := rv_ifn h
      refine rv_iald dX7_holdsNight_14 0 rfl 2 (wx_2 ta ad μ) (rv_inP hi3) ?_
      refine rv_aload_n dX7_holdsNight_15 rfl 0 rfl ?_
      refine gf_X7_15 dX7_holdsNight_16 1 (wx_1 ta ad μ) rfl ?_
      refine rv_iload_n dX7_holdsNight_19 rfl 1 rfl ?_
      obtain ⟨hi4, h⟩ := rv_ifn h
      refine rv_iald dX7_holdsNight_20 0 rfl 3 (wx_3 ta ad μ) (rv_inP hi4) ?_
      refine rv_iadd dX7_holdsNight_21 ?_
      refine rv_sipush (v := 1620) dX7_holdsNight_22 (by decide) ?_
      refine rv_icmp_le (tgt := 32) dX7_holdsNight_25 (by decide) (fun hc5 => ?_) (fun hc5 => ?_)
      · replace h := rv_ift hc5 h
        refine rv_iconst (v := 0) dX7_holdsNight_32 (by decide) ?_
        obtain rfl := Option.some.inj h
        exact rv_zret rfl rfl dX7_holdsNight_33 (rv_le rfl) (rv_le rfl) ⟨rfl, rfl⟩
      · replace h := rv_iff hc5 h
        refine rv_iconst (v := 1) dX7_holdsNight_28 (by decide) ?_
        refine rv_goto (tgt := 33) dX7_holdsNight_29 (by decide) ?_
        obtain rfl := Option.some.inj h
        exact rv_zret rfl rfl dX7_holdsNight_33 (rv_le rfl) (rv_le rfl) ⟨rfl, rfl⟩
theorem ct_X7_lengthOf {l : Launch} {D : va_G} {ta : Nat → ClassId} {ad : Nat → Nat} {μ : Mem} {x1 : Int32} {r : Int32} (h : f_X7_lengthOf μ x1 = some r) : rv_C l D (rv_T ta) yX7_lengthOf cX7_lengthOf 2 (some .int) 1 0 0 [.ref (ad 1), .int x1] (wx ta ad μ) (rv_F (rv_vI r) (wx ta ad μ)) := by
  refine rv_Cof2 (own := RX7) (lv := [(0, .ref (ad 1)), (1, .int x1)]) rfl (by decide) (rv_le rfl) rfl ?_
  unfold f_X7_lengthOf at h
  refine rv_iload_n dX7_lengthOf_0 rfl 1 rfl ?_
  refine rv_if_lt (tgt := 18) dX7_lengthOf_1 (by decide) (fun hc1 => ?_) (fun hc1 => ?_)
  · replace h := rv_ift hc1 h
    refine rv_iconst (v := 0) dX7_lengthOf_18 (by decide) ?_
    obtain rfl := Option.some.inj h
    exact rv_iret rfl dX7_lengthOf_19 (rv_le rfl) (rv_le rfl) ⟨rfl, rfl⟩
  · replace h := rv_iff hc1 h
    refine rv_iload_n dX7_lengthOf_4 rfl 1 rfl ?_
    refine rv_iconst (v := 3) dX7_lengthOf_5 (by decide) ?_
    refine rv_icmp_ge (tgt := 18) dX7_lengthOf_6 (by decide) (fun hc2 => ?_) (fun hc2 => ?_)
    · replace h := rv_ift hc2 h
      refine rv_iconst (v := 0) dX7_lengthOf_18 (by decide) ?_
      obtain rfl := Option.some.inj h
      exact rv_iret rfl dX7_lengthOf_19 (rv_le rfl) (rv_le rfl) ⟨rfl, rfl⟩
    · replace h := rv_iff hc2 h
      refine rv_aload_n dX7_lengthOf_9 rfl 0 rfl ?_
      refine gf_X7_15 dX7_lengthOf_10 1 (wx_1 ta ad μ) rfl ?_
      refine rv_iload_n dX7_lengthOf_13 rfl 1 rfl ?_
      obtain ⟨hi3, h⟩ := rv_ifn h
      refine rv_iald dX7_lengthOf_14 0 rfl 3 (wx_3 ta ad μ) (rv_inP hi3) ?_
      refine rv_goto (tgt := 19) dX7_lengthOf_15 (by decide) ?_
      obtain rfl := Option.some.inj h
      exact rv_iret rfl dX7_lengthOf_19 (rv_le rfl) (rv_le rfl) ⟨rfl, rfl⟩
theorem ct_X1_bitIf {l : Launch} {D : va_G} {ta : Nat → ClassId} {ws : va_W} {x0 : Int32} {x1 : Int32} {x2 : Int32} {r : Int64} (h : f_X1_bitIf x0 x1 x2 = some r) : rv_C l D (rv_T ta) yX1_bitIf cX1_bitIf 3 (some .long) 1 0 0 [.int x0, .int x1, .int x2] ws (rv_F (rv_vL r) ws) := by
  refine rv_Cof2 (own := RX1) (lv := [(0, .int x0), (1, .int x1), (2, .int x2)]) rfl (by decide) (rv_le rfl) rfl ?_
  unfold f_X1_bitIf at h
  refine rv_iload_n dX1_bitIf_0 rfl 0 rfl ?_
  refine rv_if_eq (tgt := 15) dX1_bitIf_1 (by decide) (fun hc1 => ?_) (fun hc1 => ?_)
  · replace h := rv_ift hc1 h
    refine rv_lconst (v := 0) dX1_bitIf_15 (by decide) ?_
    obtain rfl := Option.some.inj h
    exact rv_lret rfl dX1_bitIf_16 (rv_le rfl) (rv_le rfl) ⟨rfl, rfl⟩
  · replace h := rv_iff hc1 h
    refine rv_lconst (v := 1) dX1_bitIf_4 (by decide) ?_
    refine rv_iload_n dX1_bitIf_5 rfl 1 rfl ?_
    refine rv_bipush (v := 8) dX1_bitIf_6 (by decide) ?_
    refine rv_imul dX1_bitIf_8 ?_
    refine rv_iload_n dX1_bitIf_9 rfl 2 rfl ?_
    refine rv_iadd dX1_bitIf_10 ?_
    refine rv_lshl dX1_bitIf_11 rfl ?_
    refine rv_goto (tgt := 16) dX1_bitIf_12 (by decide) ?_
    obtain rfl := Option.some.inj h
    exact rv_lret rfl dX1_bitIf_16 (rv_le rfl) (rv_le rfl) ⟨rfl, rfl⟩
theorem ct_X7_startOf {l : Launch} {D : va_G} {ta : Nat → ClassId} {ad : Nat → Nat} {μ : Mem} {x1 : Int32} {r : Int32} (h : f_X7_startOf μ x1 = some r) : rv_C l D (rv_T ta) yX7_startOf cX7_startOf 2 (some .int) 1 0 0 [.ref (ad 1), .int x1] (wx ta ad μ) (rv_F (rv_vI r) (wx ta ad μ)) := by
  refine rv_Cof2 (own := RX7) (lv := [(0, .ref (ad 1)), (1, .int x1)]) rfl (by decide) (rv_le rfl) rfl ?_
  unfold f_X7_startOf at h
  refine rv_iload_n dX7_startOf_0 rfl 1 rfl ?_
  refine rv_if_lt (tgt := 18) dX7_startOf_1 (by decide) (fun hc1 => ?_) (fun hc1 => ?_)
  · replace h := rv_ift hc1 h
    refine rv_iconst (v := 0) dX7_startOf_18 (by decide) ?_
    obtain rfl := Option.some.inj h
    exact rv_iret rfl dX7_startOf_19 (rv_le rfl) (rv_le rfl) ⟨rfl, rfl⟩
  · replace h := rv_iff hc1 h
    refine rv_iload_n dX7_startOf_4 rfl 1 rfl ?_
    refine rv_iconst (v := 3) dX7_startOf_5 (by decide) ?_
    refine rv_icmp_ge (tgt := 18) dX7_startOf_6 (by decide) (fun hc2 => ?_) (fun hc2 => ?_)
    · replace h := rv_ift hc2 h
      refine rv_iconst (v := 0) dX7_startOf_18 (by decide) ?_
      obtain rfl := Option.some.inj h
      exact rv_iret rfl dX7_startOf_19 (rv_le rfl) (rv_le rfl) ⟨rfl, rfl⟩
    · replace h := rv_iff hc2 h
      refine rv_aload_n dX7_startOf_9 rfl 0 rfl ?_
      refine gf_X7_9 dX7_startOf_10 1 (wx_1 ta ad μ) rfl ?_
      refine rv_iload_n dX7_startOf_13 rfl 1 rfl ?_
      obtain ⟨hi3, h⟩ := rv_ifn h
      refine rv_iald dX7_startOf_14 0 rfl 2 (wx_2 ta ad μ) (rv_inP hi3) ?_
      refine rv_goto (tgt := 19) dX7_startOf_15 (by decide) ?_
      obtain rfl := Option.some.inj h
      exact rv_iret rfl dX7_startOf_19 (rv_le rfl) (rv_le rfl) ⟨rfl, rfl⟩
theorem ct_X5_isAway {l : Launch} {D : va_G} {ta : Nat → ClassId} {ad : Nat → Nat} {μ : Mem} {x1 : Int32} {x2 : Int32} {r : Int32} (h : f_X5_isAway μ x1 x2 = some r) : rv_C l D (rv_T ta) yX5_isAway cX5_isAway 4 (some .boolean) 2 0 0 [.ref (ad 6), .int x1, .int x2] (wx ta ad μ) (rv_F (rv_vI r) (wx ta ad μ)) := by
  refine rv_Cof2 (own := RX5) (lv := [(0, .ref (ad 6)), (1, .int x1), (2, .int x2)]) rfl (by decide) (rv_le rfl) rfl ?_
  unfold f_X5_isAway at h
  refine rv_iload_n dX5_isAway_0 rfl 1 rfl ?_
  refine rv_iload_n dX5_isAway_1 rfl 2 rfl ?_
  obtain ⟨r1, hr1, h⟩ := rv_bind h
  refine rv_callSN1 (rest := []) (ct_X8_cellOf hr1) wm_X5_29 ws_X8_cellOf wc_X8_cellOf wz_X8 np_X8_cellOf dX5_isAway_2 rfl ⟨rv_le rfl, rv_le rfl⟩ ⟨rv_le rfl, rv_le rfl⟩ (rv_le rfl) ?_
  refine rv_istore_n (lv2 := [(3, .int r1), (0, .ref (ad 6)), (1, .int x1), (2, .int x2)]) dX5_isAway_5 rfl (by decide) rfl ?_
  refine rv_iload_n dX5_isAway_6 rfl 0 rfl ?_
  refine rv_if_lt (tgt := 29) dX5_isAway_7 (by decide) (fun hc2 => ?_) (fun hc2 => ?_)
  · replace h := rv_ift hc2 h
    refine rv_iconst (v := 0) dX5_isAway_29 (by decide) ?_
    obtain rfl := Option.some.inj h
    exact rv_zret rfl rfl dX5_isAway_30 (rv_le rfl) (rv_le rfl) ⟨rfl, rfl⟩
  · replace h := rv_iff hc2 h
    refine rv_iload_n dX5_isAway_10 rfl 0 rfl ?_
    refine rv_bipush (v := 32) dX5_isAway_11 (by decide) ?_
    refine rv_icmp_ge (tgt := 29) dX5_isAway_13 (by decide) (fun hc3 => ?_) (fun hc3 => ?_)
    · replace h := rv_ift hc3 h
      refine rv_iconst (v := 0) dX5_isAway_29 (by decide) ?_
      obtain rfl := Option.some.inj h
      exact rv_zret rfl rfl dX5_isAway_30 (rv_le rfl) (rv_le rfl) ⟨rfl, rfl⟩
    · replace h := rv_iff hc3 h
      refine rv_aload_n dX5_isAway_16 rfl 1 rfl ?_
      refine gf_X5_15 dX5_isAway_17 6 (wx_6 ta ad μ) rfl ?_
      refine rv_iload_n dX5_isAway_20 rfl 0 rfl ?_
      obtain ⟨hi4, h⟩ := rv_ifn h
      refine rv_zald dX5_isAway_21 1 rfl 8 (wx_8 ta ad μ) (rv_inP hi4) ?_
      refine rv_if_eq (tgt := 29) dX5_isAway_22 (by decide) (fun hc5 => ?_) (fun hc5 => ?_)
      · replace h := rv_ift hc5 h
        refine rv_iconst (v := 0) dX5_isAway_29 (by decide) ?_
        obtain rfl := Option.some.inj h
        exact rv_zret rfl rfl dX5_isAway_30 (rv_le rfl) (rv_le rfl) ⟨rfl, rfl⟩
      · replace h := rv_iff hc5 h
        refine rv_iconst (v := 1) dX5_isAway_25 (by decide) ?_
        refine rv_goto (tgt := 30) dX5_isAway_26 (by decide) ?_
        obtain rfl := Option.some.inj h
        exact rv_zret rfl rfl dX5_isAway_30 (rv_le rfl) (rv_le rfl) ⟨rfl, rfl⟩
theorem ct_X8_skillOf {l : Launch} {D : va_G} {ta : Nat → ClassId} {ws : va_W} {x0 : Int32} {x1 : Int32} {r : Int32} (h : f_X8_skillOf x0 x1 = some r) : rv_C l D (rv_T ta) yX8_skillOf cX8_skillOf 2 (some .int) 1 0 0 [.int x0, .int x1] ws (rv_F (rv_vI r) ws) := by
  refine rv_Cof2 (own := RX8) (lv := [(0, .int x0), (1, .int x1)]) rfl (by decide) (rv_le rfl) rfl ?_
  unfold f_X8_skillOf at h
  refine rv_iload_n dX8_skillOf_0 rfl 0 rfl ?_
  refine rv_if_lt (tgt := 26) dX8_skillOf_1 (by decide) (fun hc1 => ?_) (fun hc1 => ?_)
  · replace h := rv_ift hc1 h
    refine rv_iconst (v := (-1)) dX8_skillOf_26 (by decide) ?_
    obtain rfl := Option.some.inj h
    exact rv_iret rfl dX8_skillOf_27 (rv_le rfl) (rv_le rfl) ⟨rfl, rfl⟩
  · replace h := rv_iff hc1 h
    refine rv_iload_n dX8_skillOf_4 rfl 0 rfl ?_
    refine rv_iconst (v := 4) dX8_skillOf_5 (by decide) ?_
    refine rv_icmp_ge (tgt := 26) dX8_skillOf_6 (by decide) (fun hc2 => ?_) (fun hc2 => ?_)
    · replace h := rv_ift hc2 h
      refine rv_iconst (v := (-1)) dX8_skillOf_26 (by decide) ?_
      obtain rfl := Option.some.inj h
      exact rv_iret rfl dX8_skillOf_27 (rv_le rfl) (rv_le rfl) ⟨rfl, rfl⟩
    · replace h := rv_iff hc2 h
      refine rv_iload_n dX8_skillOf_9 rfl 1 rfl ?_
      refine rv_if_lt (tgt := 26) dX8_skillOf_10 (by decide) (fun hc3 => ?_) (fun hc3 => ?_)
      · replace h := rv_ift hc3 h
        refine rv_iconst (v := (-1)) dX8_skillOf_26 (by decide) ?_
        obtain rfl := Option.some.inj h
        exact rv_iret rfl dX8_skillOf_27 (rv_le rfl) (rv_le rfl) ⟨rfl, rfl⟩
      · replace h := rv_iff hc3 h
        refine rv_iload_n dX8_skillOf_13 rfl 1 rfl ?_
        refine rv_iconst (v := 3) dX8_skillOf_14 (by decide) ?_
        refine rv_icmp_ge (tgt := 26) dX8_skillOf_15 (by decide) (fun hc4 => ?_) (fun hc4 => ?_)
        · replace h := rv_ift hc4 h
          refine rv_iconst (v := (-1)) dX8_skillOf_26 (by decide) ?_
          obtain rfl := Option.some.inj h
          exact rv_iret rfl dX8_skillOf_27 (rv_le rfl) (rv_le rfl) ⟨rfl, rfl⟩
        · replace h := rv_iff hc4 h
          refine rv_iload_n dX8_skillOf_18 rfl 0 rfl ?_
          refine rv_iconst (v := 3) dX8_skillOf_19 (by decide) ?_
          refine rv_imul dX8_skillOf_20 ?_
          refine rv_iload_n dX8_skillOf_21 rfl 1 rfl ?_
          refine rv_iadd dX8_skillOf_22 ?_
          refine rv_goto (tgt := 27) dX8_skillOf_23 (by decide) ?_
          obtain rfl := Option.some.inj h
          exact rv_iret rfl dX8_skillOf_27 (rv_le rfl) (rv_le rfl) ⟨rfl, rfl⟩
theorem ct_X5_hasSkill {l : Launch} {D : va_G} {ta : Nat → ClassId} {ad : Nat → Nat} {μ : Mem} {x1 : Int32} {x2 : Int32} {r : Int32} (h : f_X5_hasSkill μ x1 x2 = some r) : rv_C l D (rv_T ta) yX5_hasSkill cX5_hasSkill 4 (some .boolean) 2 0 0 [.ref (ad 6), .int x1, .int x2] (wx ta ad μ) (rv_F (rv_vI r) (wx ta ad μ)) := by
  refine rv_Cof2 (own := RX5) (lv := [(0, .ref (ad 6)), (1, .int x1), (2, .int x2)]) rfl (by decide) (rv_le rfl) rfl ?_
  unfold f_X5_hasSkill at h
  refine rv_iload_n dX5_hasSkill_0 rfl 1 rfl ?_
  refine rv_iload_n dX5_hasSkill_1 rfl 2 rfl ?_
  obtain ⟨r1, hr1, h⟩ := rv_bind h
  refine rv_callSN1 (rest := []) (ct_X8_skillOf hr1) wm_X5_47 ws_X8_skillOf wc_X8_skillOf wz_X8 np_X8_skillOf dX5_hasSkill_2 rfl ⟨rv_le rfl, rv_le rfl⟩ ⟨rv_le rfl, rv_le rfl⟩ (rv_le rfl) ?_
  refine rv_istore_n (lv2 := [(3, .int r1), (0, .ref (ad 6)), (1, .int x1), (2, .int x2)]) dX5_hasSkill_5 rfl (by decide) rfl ?_
  refine rv_iload_n dX5_hasSkill_6 rfl 0 rfl ?_
  refine rv_if_lt (tgt := 32) dX5_hasSkill_7 (by decide) (fun hc2 => ?_) (fun hc2 => ?_)
  · replace h := rv_ift hc2 h
    refine rv_iconst (v := 0) dX5_hasSkill_32 (by decide) ?_
    obtain rfl := Option.some.inj h
    exact rv_zret rfl rfl dX5_hasSkill_33 (rv_le rfl) (rv_le rfl) ⟨rfl, rfl⟩
  · replace h := rv_iff hc2 h
    refine rv_iload_n dX5_hasSkill_10 rfl 0 rfl ?_
    refine rv_aload_n dX5_hasSkill_11 rfl 1 rfl ?_
    refine gf_X5_19 dX5_hasSkill_12 6 (wx_6 ta ad μ) rfl ?_
    refine rv_alen (v := 12) dX5_hasSkill_15 1 rfl 9 (wx_9 ta ad μ) rfl ?_
    refine rv_icmp_ge (tgt := 32) dX5_hasSkill_16 (by decide) (fun hc3 => ?_) (fun hc3 => ?_)
    · replace h := rv_ift hc3 h
      refine rv_iconst (v := 0) dX5_hasSkill_32 (by decide) ?_
      obtain rfl := Option.some.inj h
      exact rv_zret rfl rfl dX5_hasSkill_33 (rv_le rfl) (rv_le rfl) ⟨rfl, rfl⟩
    · replace h := rv_iff hc3 h
      refine rv_aload_n dX5_hasSkill_19 rfl 1 rfl ?_
      refine gf_X5_19 dX5_hasSkill_20 6 (wx_6 ta ad μ) rfl ?_
      refine rv_iload_n dX5_hasSkill_23 rfl 0 rfl ?_
      obtain ⟨hi4, h⟩ := rv_ifn h
      refine rv_zald dX5_hasSkill_24 1 rfl 9 (wx_9 ta ad μ) (rv_inP hi4) ?_
      refine rv_if_eq (tgt := 32) dX5_hasSkill_25 (by decide) (fun hc5 => ?_) (fun hc5 => ?_)
      · replace h := rv_ift hc5 h
        refine rv_iconst (v := 0) dX5_hasSkill_32 (by decide) ?_
        obtain rfl := Option.some.inj h
        exact rv_zret rfl rfl dX5_hasSkill_33 (rv_le rfl) (rv_le rfl) ⟨rfl, rfl⟩
      · replace h := rv_iff hc5 h
        refine rv_iconst (v := 1) dX5_hasSkill_28 (by decide) ?_
        refine rv_goto (tgt := 33) dX5_hasSkill_29 (by decide) ?_
        obtain rfl := Option.some.inj h
        exact rv_zret rfl rfl dX5_hasSkill_33 (rv_le rfl) (rv_le rfl) ⟨rfl, rfl⟩
theorem vb_X1_breachesOf_289 {l : Launch} {D : va_G} {ta : Nat → ClassId} {ad : Nat → Nat} {μ : Mem} {x1 : Int32} {x4 : Int32} {x5 : Int32} {x6 : Int32} {x8 : Int32} {x9 : Int32} {x11 : Int32} {s0 : Int64} {s1 : Int64} {s2 : Int32} {k19 : Int64 → Int32 → Int32 → Int32 → Int32 → Int32 → Option (Int64)} (hk19 : ∀ {x2 : Int64} {x4 : Int32} {x5 : Int32} {x6 : Int32} {x7 : Int32} {x8 : Int32} {r : Int64}, k19 x2 x4 x5 x6 x7 x8 = some r → rv_V l D (rv_T ta) RX1 cX1_breachesOf 12 (some .long) ("", []) (rv_rm 3 0 0) (rv_M D (rv_F (rv_vL r) (wx ta ad μ)) 0 0) 0 0 (wx ta ad μ) 19 [(0, .ref (ad 12)), (1, .int x1), (2, .long x2), (4, .int x4), (5, .int x5), (6, .int x6), (7, .int x7), (8, .int x8)] []) {r : Int64} (h : b_X1_breachesOf_289 μ k19 x1 x4 x5 x6 x8 x9 x11 s0 s1 s2 = some r) : rv_V l D (rv_T ta) RX1 cX1_breachesOf 12 (some .long) ("", []) (rv_rm 3 0 0) (rv_M D (rv_F (rv_vL r) (wx ta ad μ)) 0 0) 0 0 (wx ta ad μ) 289 [(0, .ref (ad 12)), (1, .int x1), (4, .int x4), (5, .int x5), (6, .int x6), (8, .int x8), (9, .int x9), (11, .int x11)] [.int s2, .long s1, .long s0] := by
  unfold b_X1_breachesOf_289 at h
  refine rv_iconst (v := 2) dX1_breachesOf_289 (by decide) ?_
  refine rv_iload dX1_breachesOf_290 5 rfl ?_
  obtain ⟨r23, hr23, h⟩ := rv_bind h
  refine rv_callS1 (rest := [.long s1, .long s0]) (ct_X1_bitIf hr23) wm_X1_65 ws_X1_bitIf wc_X1_bitIf wz_X1 np_X1_bitIf dX1_breachesOf_292 rfl ⟨rv_le rfl, rv_le rfl⟩ ⟨rv_le rfl, rv_le rfl⟩ (rv_le rfl) ?_
  refine rv_lor dX1_breachesOf_295 ?_
  refine rv_lor dX1_breachesOf_296 ?_
  refine rv_lstore_n (lv2 := [(2, .long (s0 ||| (s1 ||| r23))), (0, .ref (ad 12)), (1, .int x1), (4, .int x4), (5, .int x5), (6, .int x6), (8, .int x8), (9, .int x9), (11, .int x11)]) dX1_breachesOf_297 rfl (by decide) rfl ?_
  refine rv_iload dX1_breachesOf_298 8 rfl ?_
  refine rv_aload_n dX1_breachesOf_300 rfl 1 rfl ?_
  refine gf_X1_9 dX1_breachesOf_301 12 (wx_12 ta ad μ) rfl ?_
  refine rv_iload dX1_breachesOf_304 7 rfl ?_
  obtain ⟨r24, hr24, h⟩ := rv_bind h
  refine rv_callV1 (rest := [.int x11]) (ct_X7_lengthOf hr24) wm_X1_59 wi_X7_lengthOf wl_X7_lengthOf wc_X7_lengthOf wz_X7 rfl np_X7_lengthOf dX1_breachesOf_306 rfl ⟨rv_le rfl, rv_le rfl⟩ ⟨rv_le rfl, rv_le rfl⟩ (rv_le rfl) 1 (wx_1 ta ad μ) cl_X7 ?_
  refine rv_iadd dX1_breachesOf_309 ?_
  refine rv_istore (lv2 := [(7, .int (x11 + r24)), (2, .long (s0 ||| (s1 ||| r23))), (0, .ref (ad 12)), (1, .int x1), (4, .int x4), (5, .int x5), (6, .int x6), (8, .int x8), (9, .int x9), (11, .int x11)]) dX1_breachesOf_310 (by decide) rfl ?_
  refine rv_iinc (v := (x8 + 1)) (lv2 := [(8, .int (x8 + 1)), (7, .int (x11 + r24)), (2, .long (s0 ||| (s1 ||| r23))), (0, .ref (ad 12)), (1, .int x1), (4, .int x4), (5, .int x5), (6, .int x6), (9, .int x9), (11, .int x11)]) dX1_breachesOf_312 7 rfl rfl (by decide) rfl ?_
  refine rv_goto (tgt := 19) dX1_breachesOf_315 (by decide) ?_
  refine rv_sub [3, 4, 2, 5, 6, 7, 1, 0] rfl ?_
  exact hk19 h
theorem vb_X1_breachesOf_262 {l : Launch} {D : va_G} {ta : Nat → ClassId} {ad : Nat → Nat} {μ : Mem} {x1 : Int32} {x4 : Int32} {x5 : Int32} {x6 : Int32} {x7 : Int32} {x8 : Int32} {x9 : Int32} {x11 : Int32} {s0 : Int64} {s1 : Int64} {s2 : Int32} {k19 : Int64 → Int32 → Int32 → Int32 → Int32 → Int32 → Option (Int64)} (hk19 : ∀ {x2 : Int64} {x4 : Int32} {x5 : Int32} {x6 : Int32} {x7 : Int32} {x8 : Int32} {r : Int64}, k19 x2 x4 x5 x6 x7 x8 = some r → rv_V l D (rv_T ta) RX1 cX1_breachesOf 12 (some .long) ("", []) (rv_rm 3 0 0) (rv_M D (rv_F (rv_vL r) (wx ta ad μ)) 0 0) 0 0 (wx ta ad μ) 19 [(0, .ref (ad 12)), (1, .int x1), (2, .long x2), (4, .int x4), (5, .int x5), (6, .int x6), (7, .int x7), (8, .int x8)] []) {r : Int64} (h : b_X1_breachesOf_262 μ k19 x1 x4 x5 x6 x7 x8 x9 x11 s0 s1 s2 = some r) : rv_V l D (rv_T ta) RX1 cX1_breachesOf 12 (some .long) ("", []) (rv_rm 3 0 0) (rv_M D (rv_F (rv_vL r) (wx ta ad μ)) 0 0) 0 0 (wx ta ad μ) 262 [(0, .ref (ad 12)), (1, .int x1), (4, .int x4), (5, .int x5), (6, .int x6), (7, .int x7), (8, .int x8), (9, .int x9), (11, .int x11)] [.int s2, .long s1, .long s0] := by
  unfold b_X1_breachesOf_262 at h
  refine rv_iconst (v := 1) dX1_breachesOf_262 (by decide) ?_
  refine rv_iload dX1_breachesOf_263 6 rfl ?_
  obtain ⟨r21, hr21, h⟩ := rv_bind h
  refine rv_callS1 (rest := [.long s1, .long s0]) (ct_X1_bitIf hr21) wm_X1_65 ws_X1_bitIf wc_X1_bitIf wz_X1 np_X1_bitIf dX1_breachesOf_265 rfl ⟨rv_le rfl, rv_le rfl⟩ ⟨rv_le rfl, rv_le rfl⟩ (rv_le rfl) ?_
  refine rv_lor dX1_breachesOf_268 ?_
  refine rv_iload dX1_breachesOf_269 8 rfl ?_
  refine rv_iload dX1_breachesOf_271 5 rfl ?_
  refine rv_isub dX1_breachesOf_273 ?_
  refine rv_aload_n dX1_breachesOf_274 rfl 0 rfl ?_
  refine gf_X1_15 dX1_breachesOf_275 12 (wx_12 ta ad μ) rfl ?_
  refine gf_X1_85 dX1_breachesOf_278 4 (wx_4 ta ad μ) rfl ?_
  refine rv_icmp_ge (tgt := 288) dX1_breachesOf_281 (by decide) (fun hc22 => ?_) (fun hc22 => ?_)
  · replace h := rv_ift hc22 h
    refine rv_iconst (v := 0) dX1_breachesOf_288 (by decide) ?_
    refine rv_sub [0, 1, 2, 3, 4, 6, 7, 8] rfl ?_
    exact vb_X1_breachesOf_289 hk19 h
  · replace h := rv_iff hc22 h
    refine rv_iconst (v := 1) dX1_breachesOf_284 (by decide) ?_
    refine rv_goto (tgt := 289) dX1_breachesOf_285 (by decide) ?_
    refine rv_sub [0, 1, 2, 3, 4, 6, 7, 8] rfl ?_
    exact vb_X1_breachesOf_289 hk19 h
theorem vb_X1_breachesOf_194 {l : Launch} {D : va_G} {ta : Nat → ClassId} {ad : Nat → Nat} {μ : Mem} {x1 : Int32} {x4 : Int32} {x5 : Int32} {x6 : Int32} {x7 : Int32} {x8 : Int32} {x9 : Int32} {x10 : Int32} {s0 : Int64} {s1 : Int64} {s2 : Int32} {k19 : Int64 → Int32 → Int32 → Int32 → Int32 → Int32 → Option (Int64)} (hk19 : ∀ {x2 : Int64} {x4 : Int32} {x5 : Int32} {x6 : Int32} {x7 : Int32} {x8 : Int32} {r : Int64}, k19 x2 x4 x5 x6 x7 x8 = some r → rv_V l D (rv_T ta) RX1 cX1_breachesOf 12 (some .long) ("", []) (rv_rm 3 0 0) (rv_M D (rv_F (rv_vL r) (wx ta ad μ)) 0 0) 0 0 (wx ta ad μ) 19 [(0, .ref (ad 12)), (1, .int x1), (2, .long x2), (4, .int x4), (5, .int x5), (6, .int x6), (7, .int x7), (8, .int x8)] []) {r : Int64} (h : b_X1_breachesOf_194 μ k19 x1 x4 x5 x6 x7 x8 x9 x10 s0 s1 s2 = some r) : rv_V l D (rv_T ta) RX1 cX1_breachesOf 12 (some .long) ("", []) (rv_rm 3 0 0) (rv_M D (rv_F (rv_vL r) (wx ta ad μ)) 0 0) 0 0 (wx ta ad μ) 194 [(0, .ref (ad 12)), (1, .int x1), (4, .int x4), (5, .int x5), (6, .int x6), (7, .int x7), (8, .int x8), (9, .int x9), (10, .int x10)] [.int s2, .long s1, .long s0] := by
  unfold b_X1_breachesOf_194 at h
  refine rv_iconst (v := 5) dX1_breachesOf_194 (by decide) ?_
  refine rv_iload dX1_breachesOf_195 8 rfl ?_
  obtain ⟨r14, hr14, h⟩ := rv_bind h
  refine rv_callS1 (rest := [.long s1, .long s0]) (ct_X1_bitIf hr14) wm_X1_65 ws_X1_bitIf wc_X1_bitIf wz_X1 np_X1_bitIf dX1_breachesOf_197 rfl ⟨rv_le rfl, rv_le rfl⟩ ⟨rv_le rfl, rv_le rfl⟩ (rv_le rfl) ?_
  refine rv_lor dX1_breachesOf_200 ?_
  refine rv_lor dX1_breachesOf_201 ?_
  refine rv_lstore_n (lv2 := [(2, .long (s0 ||| (s1 ||| r14))), (0, .ref (ad 12)), (1, .int x1), (4, .int x4), (5, .int x5), (6, .int x6), (7, .int x7), (8, .int x8), (9, .int x9), (10, .int x10)]) dX1_breachesOf_202 rfl (by decide) rfl ?_
  refine rv_iload dX1_breachesOf_203 8 rfl ?_
  refine rv_iconst (v := (-1)) dX1_breachesOf_205 (by decide) ?_
  refine rv_icmp_eq (tgt := 312) dX1_breachesOf_206 (by decide) (fun hc15 => ?_) (fun hc15 => ?_)
  · replace h := rv_ift hc15 h
    refine rv_iinc (v := (x8 + 1)) (lv2 := [(8, .int (x8 + 1)), (2, .long (s0 ||| (s1 ||| r14))), (0, .ref (ad 12)), (1, .int x1), (4, .int x4), (5, .int x5), (6, .int x6), (7, .int x7), (9, .int x9), (10, .int x10)]) dX1_breachesOf_312 7 rfl rfl (by decide) rfl ?_
    refine rv_goto (tgt := 19) dX1_breachesOf_315 (by decide) ?_
    refine rv_sub [2, 3, 1, 4, 5, 6, 7, 0] rfl ?_
    exact hk19 h
  · replace h := rv_iff hc15 h
    refine rv_iload dX1_breachesOf_209 7 rfl ?_
    refine rv_sipush (v := 1440) dX1_breachesOf_211 (by decide) ?_
    refine rv_imul dX1_breachesOf_214 ?_
    refine rv_aload_n dX1_breachesOf_215 rfl 1 rfl ?_
    refine gf_X1_9 dX1_breachesOf_216 12 (wx_12 ta ad μ) rfl ?_
    refine rv_iload dX1_breachesOf_219 8 rfl ?_
    obtain ⟨r16, hr16, h⟩ := rv_bind h
    refine rv_callV1 (rest := [.int (x8 * 1440)]) (ct_X7_startOf hr16) wm_X1_75 wi_X7_startOf wl_X7_startOf wc_X7_startOf wz_X7 rfl np_X7_startOf dX1_breachesOf_221 rfl ⟨rv_le rfl, rv_le rfl⟩ ⟨rv_le rfl, rv_le rfl⟩ (rv_le rfl) 1 (wx_1 ta ad μ) cl_X7 ?_
    refine rv_iadd dX1_breachesOf_224 ?_
    refine rv_istore (lv2 := [(11, .int ((x8 * 1440) + r16)), (2, .long (s0 ||| (s1 ||| r14))), (0, .ref (ad 12)), (1, .int x1), (4, .int x4), (5, .int x5), (6, .int x6), (7, .int x7), (8, .int x8), (9, .int x9), (10, .int x10)]) dX1_breachesOf_225 (by decide) rfl ?_
    refine rv_lload_n dX1_breachesOf_227 rfl 1 rfl ?_
    refine rv_aload_n dX1_breachesOf_228 rfl 2 rfl ?_
    refine gf_X1_19 dX1_breachesOf_229 12 (wx_12 ta ad μ) rfl ?_
    refine rv_iload_n dX1_breachesOf_232 rfl 3 rfl ?_
    refine rv_iload dX1_breachesOf_233 8 rfl ?_
    obtain ⟨r17, hr17, h⟩ := rv_bind h
    refine rv_callV1 (rest := [.long (s0 ||| (s1 ||| r14))]) (ct_X5_isAway hr17) wm_X1_78 wi_X5_isAway wl_X5_isAway wc_X5_isAway wz_X5 rfl np_X5_isAway dX1_breachesOf_235 rfl ⟨rv_le rfl, rv_le rfl⟩ ⟨rv_le rfl, rv_le rfl⟩ (rv_le rfl) 6 (wx_6 ta ad μ) cl_X5 ?_
    refine rv_iconst (v := 0) dX1_breachesOf_238 (by decide) ?_
    refine rv_iload dX1_breachesOf_239 8 rfl ?_
    obtain ⟨r18, hr18, h⟩ := rv_bind h
    refine rv_callS1 (rest := [.long (s0 ||| (s1 ||| r14))]) (ct_X1_bitIf hr18) wm_X1_65 ws_X1_bitIf wc_X1_bitIf wz_X1 np_X1_bitIf dX1_breachesOf_241 rfl ⟨rv_le rfl, rv_le rfl⟩ ⟨rv_le rfl, rv_le rfl⟩ (rv_le rfl) ?_
    refine rv_aload_n dX1_breachesOf_244 rfl 2 rfl ?_
    refine gf_X1_19 dX1_breachesOf_245 12 (wx_12 ta ad μ) rfl ?_
    refine rv_iload_n dX1_breachesOf_248 rfl 3 rfl ?_
    refine rv_iload dX1_breachesOf_249 9 rfl ?_
    obtain ⟨r19, hr19, h⟩ := rv_bind h
    refine rv_callV1 (rest := [.long r18, .long (s0 ||| (s1 ||| r14))]) (ct_X5_hasSkill hr19) wm_X1_82 wi_X5_hasSkill wl_X5_hasSkill wc_X5_hasSkill wz_X5 rfl np_X5_hasSkill dX1_breachesOf_251 rfl ⟨rv_le rfl, rv_le rfl⟩ ⟨rv_le rfl, rv_le rfl⟩ (rv_le rfl) 6 (wx_6 ta ad μ) cl_X5 ?_
    refine rv_if_ne (tgt := 261) dX1_breachesOf_254 (by decide) (fun hc20 => ?_) (fun hc20 => ?_)
    · replace h := rv_iff hc20 h
      refine rv_iconst (v := 0) dX1_breachesOf_261 (by decide) ?_
      refine rv_sub [2, 3, 4, 5, 6, 7, 8, 9, 0] rfl ?_
      exact vb_X1_breachesOf_262 hk19 h
    · replace h := rv_ift hc20 h
      refine rv_iconst (v := 1) dX1_breachesOf_257 (by decide) ?_
      refine rv_goto (tgt := 262) dX1_breachesOf_258 (by decide) ?_
      refine rv_sub [2, 3, 4, 5, 6, 7, 8, 9, 0] rfl ?_
      exact vb_X1_breachesOf_262 hk19 h
theorem vb_X1_breachesOf_193 {l : Launch} {D : va_G} {ta : Nat → ClassId} {ad : Nat → Nat} {μ : Mem} {x1 : Int32} {x4 : Int32} {x5 : Int32} {x6 : Int32} {x7 : Int32} {x8 : Int32} {x9 : Int32} {x10 : Int32} {s0 : Int64} {s1 : Int64} {k19 : Int64 → Int32 → Int32 → Int32 → Int32 → Int32 → Option (Int64)} (hk19 : ∀ {x2 : Int64} {x4 : Int32} {x5 : Int32} {x6 : Int32} {x7 : Int32} {x8 : Int32} {r : Int64}, k19 x2 x4 x5 x6 x7 x8 = some r → rv_V l D (rv_T ta) RX1 cX1_breachesOf 12 (some .long) ("", []) (rv_rm 3 0 0) (rv_M D (rv_F (rv_vL r) (wx ta ad μ)) 0 0) 0 0 (wx ta ad μ) 19 [(0, .ref (ad 12)), (1, .int x1), (2, .long x2), (4, .int x4), (5, .int x5), (6, .int x6), (7, .int x7), (8, .int x8)] []) {r : Int64} (h : b_X1_breachesOf_193 μ k19 x1 x4 x5 x6 x7 x8 x9 x10 s0 s1 = some r) : rv_V l D (rv_T ta) RX1 cX1_breachesOf 12 (some .long) ("", []) (rv_rm 3 0 0) (rv_M D (rv_F (rv_vL r) (wx ta ad μ)) 0 0) 0 0 (wx ta ad μ) 193 [(0, .ref (ad 12)), (1, .int x1), (4, .int x4), (5, .int x5), (6, .int x6), (7, .int x7), (8, .int x8), (9, .int x9), (10, .int x10)] [.long s1, .long s0] := by
  unfold b_X1_breachesOf_193 at h
  refine rv_iconst (v := 0) dX1_breachesOf_193 (by decide) ?_
  exact vb_X1_breachesOf_194 hk19 h
theorem vb_X1_breachesOf_165 {l : Launch} {D : va_G} {ta : Nat → ClassId} {ad : Nat → Nat} {μ : Mem} {x1 : Int32} {x4 : Int32} {x5 : Int32} {x6 : Int32} {x7 : Int32} {x8 : Int32} {x9 : Int32} {x10 : Int32} {s0 : Int64} {s1 : Int64} {s2 : Int32} {k19 : Int64 → Int32 → Int32 → Int32 → Int32 → Int32 → Option (Int64)} (hk19 : ∀ {x2 : Int64} {x4 : Int32} {x5 : Int32} {x6 : Int32} {x7 : Int32} {x8 : Int32} {r : Int64}, k19 x2 x4 x5 x6 x7 x8 = some r → rv_V l D (rv_T ta) RX1 cX1_breachesOf 12 (some .long) ("", []) (rv_rm 3 0 0) (rv_M D (rv_F (rv_vL r) (wx ta ad μ)) 0 0) 0 0 (wx ta ad μ) 19 [(0, .ref (ad 12)), (1, .int x1), (2, .long x2), (4, .int x4), (5, .int x5), (6, .int x6), (7, .int x7), (8, .int x8)] []) {r : Int64} (h : b_X1_breachesOf_165 μ k19 x1 x4 x5 x6 x7 x8 x9 x10 s0 s1 s2 = some r) : rv_V l D (rv_T ta) RX1 cX1_breachesOf 12 (some .long) ("", []) (rv_rm 3 0 0) (rv_M D (rv_F (rv_vL r) (wx ta ad μ)) 0 0) 0 0 (wx ta ad μ) 165 [(0, .ref (ad 12)), (1, .int x1), (4, .int x4), (5, .int x5), (6, .int x6), (7, .int x7), (8, .int x8), (9, .int x9), (10, .int x10)] [.int s2, .long s1, .long s0] := by
  unfold b_X1_breachesOf_165 at h
  refine rv_iconst (v := 4) dX1_breachesOf_165 (by decide) ?_
  refine rv_iload dX1_breachesOf_166 6 rfl ?_
  obtain ⟨r12, hr12, h⟩ := rv_bind h
  refine rv_callS1 (rest := [.long s1, .long s0]) (ct_X1_bitIf hr12) wm_X1_65 ws_X1_bitIf wc_X1_bitIf wz_X1 np_X1_bitIf dX1_breachesOf_168 rfl ⟨rv_le rfl, rv_le rfl⟩ ⟨rv_le rfl, rv_le rfl⟩ (rv_le rfl) ?_
  refine rv_lor dX1_breachesOf_171 ?_
  refine rv_iload dX1_breachesOf_172 8 rfl ?_
  refine rv_if_lt (tgt := 193) dX1_breachesOf_174 (by decide) (fun hc13 => ?_) (fun hc13 => ?_)
  · replace h := rv_ift hc13 h
    exact vb_X1_breachesOf_193 hk19 h
  · replace h := rv_iff hc13 h
    refine rv_iload dX1_breachesOf_177 4 rfl ?_
    refine rv_aload_n dX1_breachesOf_179 rfl 0 rfl ?_
    refine gf_X1_15 dX1_breachesOf_180 12 (wx_12 ta ad μ) rfl ?_
    refine gf_X1_72 dX1_breachesOf_183 4 (wx_4 ta ad μ) rfl ?_
    refine rv_icmp_le (tgt := 193) dX1_breachesOf_186 (by decide) (fun hc25 => ?_) (fun hc25 => ?_)
    · replace h := rv_ift hc25 h
      exact vb_X1_breachesOf_193 hk19 h
    · replace h := rv_iff hc25 h
      refine rv_iconst (v := 1) dX1_breachesOf_189 (by decide) ?_
      refine rv_goto (tgt := 194) dX1_breachesOf_190 (by decide) ?_
      exact vb_X1_breachesOf_194 hk19 h
theorem vb_X1_breachesOf_142 {l : Launch} {D : va_G} {ta : Nat → ClassId} {ad : Nat → Nat} {μ : Mem} {x1 : Int32} {x4 : Int32} {x5 : Int32} {x6 : Int32} {x7 : Int32} {x8 : Int32} {x9 : Int32} {x10 : Int32} {s0 : Int64} {s1 : Int32} {k19 : Int64 → Int32 → Int32 → Int32 → Int32 → Int32 → Option (Int64)} (hk19 : ∀ {x2 : Int64} {x4 : Int32} {x5 : Int32} {x6 : Int32} {x7 : Int32} {x8 : Int32} {r : Int64}, k19 x2 x4 x5 x6 x7 x8 = some r → rv_V l D (rv_T ta) RX1 cX1_breachesOf 12 (some .long) ("", []) (rv_rm 3 0 0) (rv_M D (rv_F (rv_vL r) (wx ta ad μ)) 0 0) 0 0 (wx ta ad μ) 19 [(0, .ref (ad 12)), (1, .int x1), (2, .long x2), (4, .int x4), (5, .int x5), (6, .int x6), (7, .int x7), (8, .int x8)] []) {r : Int64} (h : b_X1_breachesOf_142 μ k19 x1 x4 x5 x6 x7 x8 x9 x10 s0 s1 = some r) : rv_V l D (rv_T ta) RX1 cX1_breachesOf 12 (some .long) ("", []) (rv_rm 3 0 0) (rv_M D (rv_F (rv_vL r) (wx ta ad μ)) 0 0) 0 0 (wx ta ad μ) 142 [(0, .ref (ad 12)), (1, .int x1), (4, .int x4), (5, .int x5), (6, .int x6), (7, .int x7), (8, .int x8), (9, .int x9), (10, .int x10)] [.int s1, .long s0] := by
  unfold b_X1_breachesOf_142 at h
  refine rv_iconst (v := 3) dX1_breachesOf_142 (by decide) ?_
  refine rv_iload dX1_breachesOf_143 6 rfl ?_
  obtain ⟨r10, hr10, h⟩ := rv_bind h
  refine rv_callS1 (rest := [.long s0]) (ct_X1_bitIf hr10) wm_X1_65 ws_X1_bitIf wc_X1_bitIf wz_X1 np_X1_bitIf dX1_breachesOf_145 rfl ⟨rv_le rfl, rv_le rfl⟩ ⟨rv_le rfl, rv_le rfl⟩ (rv_le rfl) ?_
  refine rv_iload dX1_breachesOf_148 2 rfl ?_
  refine rv_aload_n dX1_breachesOf_150 rfl 0 rfl ?_
  refine gf_X1_15 dX1_breachesOf_151 12 (wx_12 ta ad μ) rfl ?_
  refine gf_X1_69 dX1_breachesOf_154 4 (wx_4 ta ad μ) rfl ?_
  refine rv_icmp_le (tgt := 164) dX1_breachesOf_157 (by decide) (fun hc11 => ?_) (fun hc11 => ?_)
  · replace h := rv_ift hc11 h
    refine rv_iconst (v := 0) dX1_breachesOf_164 (by decide) ?_
    exact vb_X1_breachesOf_165 hk19 h
  · replace h := rv_iff hc11 h
    refine rv_iconst (v := 1) dX1_breachesOf_160 (by decide) ?_
    refine rv_goto (tgt := 165) dX1_breachesOf_161 (by decide) ?_
    exact vb_X1_breachesOf_165 hk19 h
theorem vb_X1_breachesOf_88 {l : Launch} {D : va_G} {ta : Nat → ClassId} {ad : Nat → Nat} {μ : Mem} {x1 : Int32} {x2 : Int64} {x4 : Int32} {x6 : Int32} {x7 : Int32} {x8 : Int32} {x9 : Int32} {x10 : Int32} {s0 : Int32} {k19 : Int64 → Int32 → Int32 → Int32 → Int32 → Int32 → Option (Int64)} (hk19 : ∀ {x2 : Int64} {x4 : Int32} {x5 : Int32} {x6 : Int32} {x7 : Int32} {x8 : Int32} {r : Int64}, k19 x2 x4 x5 x6 x7 x8 = some r → rv_V l D (rv_T ta) RX1 cX1_breachesOf 12 (some .long) ("", []) (rv_rm 3 0 0) (rv_M D (rv_F (rv_vL r) (wx ta ad μ)) 0 0) 0 0 (wx ta ad μ) 19 [(0, .ref (ad 12)), (1, .int x1), (2, .long x2), (4, .int x4), (5, .int x5), (6, .int x6), (7, .int x7), (8, .int x8)] []) {r : Int64} (h : b_X1_breachesOf_88 μ k19 x1 x2 x4 x6 x7 x8 x9 x10 s0 = some r) : rv_V l D (rv_T ta) RX1 cX1_breachesOf 12 (some .long) ("", []) (rv_rm 3 0 0) (rv_M D (rv_F (rv_vL r) (wx ta ad μ)) 0 0) 0 0 (wx ta ad μ) 88 [(0, .ref (ad 12)), (1, .int x1), (2, .long x2), (4, .int x4), (6, .int x6), (7, .int x7), (8, .int x8), (9, .int x9), (10, .int x10)] [.int s0] := by
  unfold b_X1_breachesOf_88 at h
  refine rv_istore (lv2 := [(5, .int s0), (0, .ref (ad 12)), (1, .int x1), (2, .long x2), (4, .int x4), (6, .int x6), (7, .int x7), (8, .int x8), (9, .int x9), (10, .int x10)]) dX1_breachesOf_88 (by decide) rfl ?_
  refine rv_iload dX1_breachesOf_90 5 rfl ?_
  refine rv_aload_n dX1_breachesOf_92 rfl 1 rfl ?_
  refine gf_X1_9 dX1_breachesOf_93 12 (wx_12 ta ad μ) rfl ?_
  refine rv_iload dX1_breachesOf_96 8 rfl ?_
  obtain ⟨r6, hr6, h⟩ := rv_bind h
  refine rv_callV1 (rest := [.int x6]) (ct_X7_lengthOf hr6) wm_X1_59 wi_X7_lengthOf wl_X7_lengthOf wc_X7_lengthOf wz_X7 rfl np_X7_lengthOf dX1_breachesOf_98 rfl ⟨rv_le rfl, rv_le rfl⟩ ⟨rv_le rfl, rv_le rfl⟩ (rv_le rfl) 1 (wx_1 ta ad μ) cl_X7 ?_
  refine rv_aload_n dX1_breachesOf_101 rfl 1 rfl ?_
  refine gf_X1_9 dX1_breachesOf_102 12 (wx_12 ta ad μ) rfl ?_
  refine rv_aload_n dX1_breachesOf_105 rfl 1 rfl ?_
  refine gf_X1_19 dX1_breachesOf_106 12 (wx_12 ta ad μ) rfl ?_
  refine rv_iload_n dX1_breachesOf_109 rfl 2 rfl ?_
  refine rv_iload dX1_breachesOf_110 9 rfl ?_
  refine rv_iconst (v := 1) dX1_breachesOf_112 (by decide) ?_
  refine rv_isub dX1_breachesOf_113 ?_
  obtain ⟨r7, hr7, h⟩ := rv_bind h
  refine rv_callV1 (rest := [.ref (ad 1), .int r6, .int x6]) (ct_X5_shiftAt hr7) wm_X1_41 wi_X5_shiftAt wl_X5_shiftAt wc_X5_shiftAt wz_X5 rfl np_X5_shiftAt dX1_breachesOf_114 rfl ⟨rv_le rfl, rv_le rfl⟩ ⟨rv_le rfl, rv_le rfl⟩ (rv_le rfl) 6 (wx_6 ta ad μ) cl_X5 ?_
  obtain ⟨r8, hr8, h⟩ := rv_bind h
  refine rv_callV1 (rest := [.int r6, .int x6]) (ct_X7_lengthOf hr8) wm_X1_59 wi_X7_lengthOf wl_X7_lengthOf wc_X7_lengthOf wz_X7 rfl np_X7_lengthOf dX1_breachesOf_117 rfl ⟨rv_le rfl, rv_le rfl⟩ ⟨rv_le rfl, rv_le rfl⟩ (rv_le rfl) 1 (wx_1 ta ad μ) cl_X7 ?_
  refine rv_isub dX1_breachesOf_120 ?_
  refine rv_iadd dX1_breachesOf_121 ?_
  refine rv_istore (lv2 := [(6, .int (x6 + (r6 - r8))), (5, .int s0), (0, .ref (ad 12)), (1, .int x1), (2, .long x2), (4, .int x4), (7, .int x7), (8, .int x8), (9, .int x9), (10, .int x10)]) dX1_breachesOf_122 (by decide) rfl ?_
  refine rv_lload_n dX1_breachesOf_124 rfl 4 rfl ?_
  refine rv_iload dX1_breachesOf_125 1 rfl ?_
  refine rv_aload_n dX1_breachesOf_127 rfl 2 rfl ?_
  refine gf_X1_15 dX1_breachesOf_128 12 (wx_12 ta ad μ) rfl ?_
  refine gf_X1_62 dX1_breachesOf_131 4 (wx_4 ta ad μ) rfl ?_
  refine rv_icmp_le (tgt := 141) dX1_breachesOf_134 (by decide) (fun hc9 => ?_) (fun hc9 => ?_)
  · replace h := rv_ift hc9 h
    refine rv_iconst (v := 0) dX1_breachesOf_141 (by decide) ?_
    refine rv_sub [2, 3, 5, 1, 0, 6, 7, 8, 9] rfl ?_
    exact vb_X1_breachesOf_142 hk19 h
  · replace h := rv_iff hc9 h
    refine rv_iconst (v := 1) dX1_breachesOf_137 (by decide) ?_
    refine rv_goto (tgt := 142) dX1_breachesOf_138 (by decide) ?_
    refine rv_sub [2, 3, 5, 1, 0, 6, 7, 8, 9] rfl ?_
    exact vb_X1_breachesOf_142 hk19 h
theorem vb_X1_breachesOf_66 {l : Launch} {D : va_G} {ta : Nat → ClassId} {ad : Nat → Nat} {μ : Mem} {x1 : Int32} {x2 : Int64} {x5 : Int32} {x6 : Int32} {x7 : Int32} {x8 : Int32} {x9 : Int32} {x10 : Int32} {s0 : Int32} {k19 : Int64 → Int32 → Int32 → Int32 → Int32 → Int32 → Option (Int64)} (hk19 : ∀ {x2 : Int64} {x4 : Int32} {x5 : Int32} {x6 : Int32} {x7 : Int32} {x8 : Int32} {r : Int64}, k19 x2 x4 x5 x6 x7 x8 = some r → rv_V l D (rv_T ta) RX1 cX1_breachesOf 12 (some .long) ("", []) (rv_rm 3 0 0) (rv_M D (rv_F (rv_vL r) (wx ta ad μ)) 0 0) 0 0 (wx ta ad μ) 19 [(0, .ref (ad 12)), (1, .int x1), (2, .long x2), (4, .int x4), (5, .int x5), (6, .int x6), (7, .int x7), (8, .int x8)] []) {r : Int64} (h : b_X1_breachesOf_66 μ k19 x1 x2 x5 x6 x7 x8 x9 x10 s0 = some r) : rv_V l D (rv_T ta) RX1 cX1_breachesOf 12 (some .long) ("", []) (rv_rm 3 0 0) (rv_M D (rv_F (rv_vL r) (wx ta ad μ)) 0 0) 0 0 (wx ta ad μ) 66 [(0, .ref (ad 12)), (1, .int x1), (2, .long x2), (5, .int x5), (6, .int x6), (7, .int x7), (8, .int x8), (9, .int x9), (10, .int x10)] [.int s0] := by
  unfold b_X1_breachesOf_66 at h
  refine rv_istore (lv2 := [(4, .int s0), (0, .ref (ad 12)), (1, .int x1), (2, .long x2), (5, .int x5), (6, .int x6), (7, .int x7), (8, .int x8), (9, .int x9), (10, .int x10)]) dX1_breachesOf_66 (by decide) rfl ?_
  refine rv_aload_n dX1_breachesOf_68 rfl 1 rfl ?_
  refine gf_X1_9 dX1_breachesOf_69 12 (wx_12 ta ad μ) rfl ?_
  refine rv_iload dX1_breachesOf_72 8 rfl ?_
  obtain ⟨r4, hr4, h⟩ := rv_bind h
  refine rv_callV1 (rest := []) (ct_X7_holdsNight hr4) wm_X1_53 wi_X7_holdsNight wl_X7_holdsNight wc_X7_holdsNight wz_X7 rfl np_X7_holdsNight dX1_breachesOf_74 rfl ⟨rv_le rfl, rv_le rfl⟩ ⟨rv_le rfl, rv_le rfl⟩ (rv_le rfl) 1 (wx_1 ta ad μ) cl_X7 ?_
  refine rv_if_eq (tgt := 87) dX1_breachesOf_77 (by decide) (fun hc5 => ?_) (fun hc5 => ?_)
  · replace h := rv_ift hc5 h
    refine rv_iconst (v := 0) dX1_breachesOf_87 (by decide) ?_
    refine rv_sub [1, 2, 3, 0, 5, 6, 7, 8, 9] rfl ?_
    exact vb_X1_breachesOf_88 hk19 h
  · replace h := rv_iff hc5 h
    refine rv_iload dX1_breachesOf_80 4 rfl ?_
    refine rv_iconst (v := 1) dX1_breachesOf_82 (by decide) ?_
    refine rv_iadd dX1_breachesOf_83 ?_
    refine rv_goto (tgt := 88) dX1_breachesOf_84 (by decide) ?_
    refine rv_sub [1, 2, 3, 0, 5, 6, 7, 8, 9] rfl ?_
    exact vb_X1_breachesOf_88 hk19 h
theorem vB_X1_breachesOf_19 {l : Launch} {D : va_G} {ta : Nat → ClassId} {ad : Nat → Nat} {μ : Mem} {x1 : Int32} {k19 : Int64 → Int32 → Int32 → Int32 → Int32 → Int32 → Option (Int64)} (hk19 : ∀ {x2 : Int64} {x4 : Int32} {x5 : Int32} {x6 : Int32} {x7 : Int32} {x8 : Int32} {r : Int64}, k19 x2 x4 x5 x6 x7 x8 = some r → rv_V l D (rv_T ta) RX1 cX1_breachesOf 12 (some .long) ("", []) (rv_rm 3 0 0) (rv_M D (rv_F (rv_vL r) (wx ta ad μ)) 0 0) 0 0 (wx ta ad μ) 19 [(0, .ref (ad 12)), (1, .int x1), (2, .long x2), (4, .int x4), (5, .int x5), (6, .int x6), (7, .int x7), (8, .int x8)] []) {x2 : Int64} {x4 : Int32} {x5 : Int32} {x6 : Int32} {x7 : Int32} {x8 : Int32} {r : Int64} (h : B_X1_breachesOf_19 μ x1 k19 x2 x4 x5 x6 x7 x8 = some r) : rv_V l D (rv_T ta) RX1 cX1_breachesOf 12 (some .long) ("", []) (rv_rm 3 0 0) (rv_M D (rv_F (rv_vL r) (wx ta ad μ)) 0 0) 0 0 (wx ta ad μ) 19 [(0, .ref (ad 12)), (1, .int x1), (2, .long x2), (4, .int x4), (5, .int x5), (6, .int x6), (7, .int x7), (8, .int x8)] [] := by
  unfold B_X1_breachesOf_19 at h
  refine rv_iload dX1_breachesOf_19 7 rfl ?_
  refine rv_bipush (v := 8) dX1_breachesOf_21 (by decide) ?_
  refine rv_icmp_ge (tgt := 318) dX1_breachesOf_23 (by decide) (fun hc1 => ?_) (fun hc1 => ?_)
  · replace h := rv_ift hc1 h
    refine rv_lload_n dX1_breachesOf_318 rfl 2 rfl ?_
    obtain rfl := Option.some.inj h
    exact rv_lret rfl dX1_breachesOf_319 (rv_le rfl) (rv_le rfl) ⟨rfl, rfl⟩
  · replace h := rv_iff hc1 h
    refine rv_aload_n dX1_breachesOf_26 rfl 0 rfl ?_
    refine gf_X1_19 dX1_breachesOf_27 12 (wx_12 ta ad μ) rfl ?_
    refine rv_iload_n dX1_breachesOf_30 rfl 1 rfl ?_
    refine rv_iload dX1_breachesOf_31 7 rfl ?_
    obtain ⟨r2, hr2, h⟩ := rv_bind h
    refine rv_callV1 (rest := []) (ct_X5_shiftAt hr2) wm_X1_41 wi_X5_shiftAt wl_X5_shiftAt wc_X5_shiftAt wz_X5 rfl np_X5_shiftAt dX1_breachesOf_33 rfl ⟨rv_le rfl, rv_le rfl⟩ ⟨rv_le rfl, rv_le rfl⟩ (rv_le rfl) 6 (wx_6 ta ad μ) cl_X5 ?_
    refine rv_istore (lv2 := [(9, .int r2), (0, .ref (ad 12)), (1, .int x1), (2, .long x2), (4, .int x4), (5, .int x5), (6, .int x6), (7, .int x7), (8, .int x8)]) dX1_breachesOf_36 (by decide) rfl ?_
    refine rv_iload dX1_breachesOf_38 8 rfl ?_
    refine rv_aload_n dX1_breachesOf_40 rfl 1 rfl ?_
    refine gf_X1_15 dX1_breachesOf_41 12 (wx_12 ta ad μ) rfl ?_
    refine gf_X1_47 dX1_breachesOf_44 4 (wx_4 ta ad μ) rfl ?_
    refine rv_isub dX1_breachesOf_47 ?_
    refine rv_iconst (v := 1) dX1_breachesOf_48 (by decide) ?_
    refine rv_iadd dX1_breachesOf_49 ?_
    refine rv_istore (lv2 := [(10, .int ((x8 - (μ.1 4 4)) + 1)), (9, .int r2), (0, .ref (ad 12)), (1, .int x1), (2, .long x2), (4, .int x4), (5, .int x5), (6, .int x6), (7, .int x7), (8, .int x8)]) dX1_breachesOf_50 (by decide) rfl ?_
    refine rv_iload dX1_breachesOf_52 1 rfl ?_
    refine rv_iconst (v := (-1)) dX1_breachesOf_54 (by decide) ?_
    refine rv_icmp_ne (tgt := 62) dX1_breachesOf_55 (by decide) (fun hc3 => ?_) (fun hc3 => ?_)
    · replace h := rv_iff hc3 h
      refine rv_iload dX1_breachesOf_62 5 rfl ?_
      refine rv_iconst (v := 1) dX1_breachesOf_64 (by decide) ?_
      refine rv_iadd dX1_breachesOf_65 ?_
      refine rv_sub [2, 3, 4, 6, 7, 8, 9, 1, 0] rfl ?_
      exact vb_X1_breachesOf_66 hk19 h
    · replace h := rv_ift hc3 h
      refine rv_iconst (v := 0) dX1_breachesOf_58 (by decide) ?_
      refine rv_goto (tgt := 66) dX1_breachesOf_59 (by decide) ?_
      refine rv_sub [2, 3, 4, 6, 7, 8, 9, 1, 0] rfl ?_
      exact vb_X1_breachesOf_66 hk19 h
theorem vh_X1_breachesOf_19 {l : Launch} {D : va_G} {ta : Nat → ClassId} {ad : Nat → Nat} {μ : Mem} {x1 : Int32} {n : Nat} {x2 : Int64} {x4 : Int32} {x5 : Int32} {x6 : Int32} {x7 : Int32} {x8 : Int32} {r : Int64} (h : rv_loop (B_X1_breachesOf_19 μ x1) (fun _ _ _ _ _ _ => none) n x2 x4 x5 x6 x7 x8 = some r) : rv_V l D (rv_T ta) RX1 cX1_breachesOf 12 (some .long) ("", []) (rv_rm 3 0 0) (rv_M D (rv_F (rv_vL r) (wx ta ad μ)) 0 0) 0 0 (wx ta ad μ) 19 [(0, .ref (ad 12)), (1, .int x1), (2, .long x2), (4, .int x4), (5, .int x5), (6, .int x6), (7, .int x7), (8, .int x8)] [] := by
  induction n generalizing x2 x4 x5 x6 x7 x8 r with
  | zero => cases h
  | succ n ih => exact vB_X1_breachesOf_19 (fun h9 => ih h9) h
theorem ct_X1_breachesOf {l : Launch} {D : va_G} {ta : Nat → ClassId} {ad : Nat → Nat} {μ : Mem} {x1 : Int32} {r : Int64} (h : f_X1_breachesOf μ x1 = some r) : rv_C l D (rv_T ta) yX1_breachesOf cX1_breachesOf 12 (some .long) 3 0 0 [.ref (ad 12), .int x1] (wx ta ad μ) (rv_F (rv_vL r) (wx ta ad μ)) := by
  refine rv_Cof2 (own := RX1) (lv := [(0, .ref (ad 12)), (1, .int x1)]) rfl (by decide) (rv_le rfl) rfl ?_
  unfold f_X1_breachesOf at h
  refine rv_lconst (v := 0) dX1_breachesOf_0 (by decide) ?_
  refine rv_lstore_n (lv2 := [(2, .long 0), (0, .ref (ad 12)), (1, .int x1)]) dX1_breachesOf_1 rfl (by decide) rfl ?_
  refine rv_iconst (v := 0) dX1_breachesOf_2 (by decide) ?_
  refine rv_istore (lv2 := [(4, .int 0), (2, .long 0), (0, .ref (ad 12)), (1, .int x1)]) dX1_breachesOf_3 (by decide) rfl ?_
  refine rv_iconst (v := 0) dX1_breachesOf_5 (by decide) ?_
  refine rv_istore (lv2 := [(5, .int 0), (4, .int 0), (2, .long 0), (0, .ref (ad 12)), (1, .int x1)]) dX1_breachesOf_6 (by decide) rfl ?_
  refine rv_iconst (v := 0) dX1_breachesOf_8 (by decide) ?_
  refine rv_istore (lv2 := [(6, .int 0), (5, .int 0), (4, .int 0), (2, .long 0), (0, .ref (ad 12)), (1, .int x1)]) dX1_breachesOf_9 (by decide) rfl ?_
  refine rv_sipush (v := (-2000)) dX1_breachesOf_11 (by decide) ?_
  refine rv_istore (lv2 := [(7, .int (-2000)), (6, .int 0), (5, .int 0), (4, .int 0), (2, .long 0), (0, .ref (ad 12)), (1, .int x1)]) dX1_breachesOf_14 (by decide) rfl ?_
  refine rv_iconst (v := 0) dX1_breachesOf_16 (by decide) ?_
  refine rv_istore (lv2 := [(8, .int 0), (7, .int (-2000)), (6, .int 0), (5, .int 0), (4, .int 0), (2, .long 0), (0, .ref (ad 12)), (1, .int x1)]) dX1_breachesOf_17 (by decide) rfl ?_
  refine rv_sub [6, 7, 5, 4, 3, 2, 1, 0] rfl ?_
  exact vh_X1_breachesOf_19 h
theorem ct_X2_putRow_13 {l : Launch} {D : va_G} {ta : Nat → ClassId} {ad : Nat → Nat} {μ : Mem} {x1 : Int32} {x2 : Int64} {r : (Unit) × Mem} (h : f_X2_putRow 13 μ x1 x2 = some r) : rv_C l D (rv_T ta) yX2_putRow cX2_putRow 4 none 1 0 0 [.ref (ad 13), .int x1, .long x2] (wx ta ad μ) (rv_F (rv_vU r.1) (wx ta ad r.2)) := by
  refine rv_Cof2 (own := RX2) (lv := [(0, .ref (ad 13)), (1, .int x1), (2, .long x2)]) rfl (by decide) (rv_le rfl) rfl ?_
  unfold f_X2_putRow at h
  refine rv_iload_n dX2_putRow_0 rfl 1 rfl ?_
  refine rv_if_lt (tgt := 16) dX2_putRow_1 (by decide) (fun hc1 => ?_) (fun hc1 => ?_)
  · replace h := rv_ift hc1 h
    obtain rfl := Option.some.inj h
    exact rv_vret rfl dX2_putRow_16 (rv_le rfl) (rv_le rfl) ⟨rfl, rfl⟩
  · replace h := rv_iff hc1 h
    refine rv_iload_n dX2_putRow_4 rfl 1 rfl ?_
    refine rv_iconst (v := 4) dX2_putRow_5 (by decide) ?_
    refine rv_icmp_ge (tgt := 16) dX2_putRow_6 (by decide) (fun hc2 => ?_) (fun hc2 => ?_)
    · replace h := rv_ift hc2 h
      obtain rfl := Option.some.inj h
      exact rv_vret rfl dX2_putRow_16 (rv_le rfl) (rv_le rfl) ⟨rfl, rfl⟩
    · replace h := rv_iff hc2 h
      refine rv_aload_n dX2_putRow_9 rfl 0 rfl ?_
      refine gf_X2_9 dX2_putRow_10 13 (wx_13 ta ad μ) rfl ?_
      refine rv_iload_n dX2_putRow_13 rfl 1 rfl ?_
      refine rv_lload_n dX2_putRow_14 rfl 2 rfl ?_
      obtain ⟨hi3, h⟩ := rv_ifn h
      refine rv_last dX2_putRow_15 2 rfl 14 (wx_14 ta ad μ) (rv_inP hi3) (wx_s14 ta ad μ _ _) ?_
      obtain rfl := Option.some.inj h
      exact rv_vret rfl dX2_putRow_16 (rv_le rfl) (rv_le rfl) ⟨rfl, rfl⟩
theorem ct_X2_putRow_15 {l : Launch} {D : va_G} {ta : Nat → ClassId} {ad : Nat → Nat} {μ : Mem} {x1 : Int32} {x2 : Int64} {r : (Unit) × Mem} (h : f_X2_putRow 15 μ x1 x2 = some r) : rv_C l D (rv_T ta) yX2_putRow cX2_putRow 4 none 1 0 0 [.ref (ad 15), .int x1, .long x2] (wx ta ad μ) (rv_F (rv_vU r.1) (wx ta ad r.2)) := by
  refine rv_Cof2 (own := RX2) (lv := [(0, .ref (ad 15)), (1, .int x1), (2, .long x2)]) rfl (by decide) (rv_le rfl) rfl ?_
  unfold f_X2_putRow at h
  refine rv_iload_n dX2_putRow_0 rfl 1 rfl ?_
  refine rv_if_lt (tgt := 16) dX2_putRow_1 (by decide) (fun hc1 => ?_) (fun hc1 => ?_)
  · replace h := rv_ift hc1 h
    obtain rfl := Option.some.inj h
    exact rv_vret rfl dX2_putRow_16 (rv_le rfl) (rv_le rfl) ⟨rfl, rfl⟩
  · replace h := rv_iff hc1 h
    refine rv_iload_n dX2_putRow_4 rfl 1 rfl ?_
    refine rv_iconst (v := 4) dX2_putRow_5 (by decide) ?_
    refine rv_icmp_ge (tgt := 16) dX2_putRow_6 (by decide) (fun hc2 => ?_) (fun hc2 => ?_)
    · replace h := rv_ift hc2 h
      obtain rfl := Option.some.inj h
      exact rv_vret rfl dX2_putRow_16 (rv_le rfl) (rv_le rfl) ⟨rfl, rfl⟩
    · replace h := rv_iff hc2 h
      refine rv_aload_n dX2_putRow_9 rfl 0 rfl ?_
      refine gf_X2_9 dX2_putRow_10 15 (wx_15 ta ad μ) rfl ?_
      refine rv_iload_n dX2_putRow_13 rfl 1 rfl ?_
      refine rv_lload_n dX2_putRow_14 rfl 2 rfl ?_
      obtain ⟨hi3, h⟩ := rv_ifn h
      refine rv_last dX2_putRow_15 2 rfl 16 (wx_16 ta ad μ) (rv_inP hi3) (wx_s16 ta ad μ _ _) ?_
      obtain rfl := Option.some.inj h
      exact rv_vret rfl dX2_putRow_16 (rv_le rfl) (rv_le rfl) ⟨rfl, rfl⟩
theorem ct_X2_putRow_18 {l : Launch} {D : va_G} {ta : Nat → ClassId} {ad : Nat → Nat} {μ : Mem} {x1 : Int32} {x2 : Int64} {r : (Unit) × Mem} (h : f_X2_putRow 18 μ x1 x2 = some r) : rv_C l D (rv_T ta) yX2_putRow cX2_putRow 4 none 1 0 0 [.ref (ad 18), .int x1, .long x2] (wx ta ad μ) (rv_F (rv_vU r.1) (wx ta ad r.2)) := by
  refine rv_Cof2 (own := RX2) (lv := [(0, .ref (ad 18)), (1, .int x1), (2, .long x2)]) rfl (by decide) (rv_le rfl) rfl ?_
  unfold f_X2_putRow at h
  refine rv_iload_n dX2_putRow_0 rfl 1 rfl ?_
  refine rv_if_lt (tgt := 16) dX2_putRow_1 (by decide) (fun hc1 => ?_) (fun hc1 => ?_)
  · replace h := rv_ift hc1 h
    obtain rfl := Option.some.inj h
    exact rv_vret rfl dX2_putRow_16 (rv_le rfl) (rv_le rfl) ⟨rfl, rfl⟩
  · replace h := rv_iff hc1 h
    refine rv_iload_n dX2_putRow_4 rfl 1 rfl ?_
    refine rv_iconst (v := 4) dX2_putRow_5 (by decide) ?_
    refine rv_icmp_ge (tgt := 16) dX2_putRow_6 (by decide) (fun hc2 => ?_) (fun hc2 => ?_)
    · replace h := rv_ift hc2 h
      obtain rfl := Option.some.inj h
      exact rv_vret rfl dX2_putRow_16 (rv_le rfl) (rv_le rfl) ⟨rfl, rfl⟩
    · replace h := rv_iff hc2 h
      refine rv_aload_n dX2_putRow_9 rfl 0 rfl ?_
      refine gf_X2_9 dX2_putRow_10 18 (wx_18 ta ad μ) rfl ?_
      refine rv_iload_n dX2_putRow_13 rfl 1 rfl ?_
      refine rv_lload_n dX2_putRow_14 rfl 2 rfl ?_
      obtain ⟨hi3, h⟩ := rv_ifn h
      refine rv_last dX2_putRow_15 2 rfl 19 (wx_19 ta ad μ) (rv_inP hi3) (wx_s19 ta ad μ _ _) ?_
      obtain rfl := Option.some.inj h
      exact rv_vret rfl dX2_putRow_16 (rv_le rfl) (rv_le rfl) ⟨rfl, rfl⟩
theorem ct_X8_postOf {l : Launch} {D : va_G} {ta : Nat → ClassId} {ws : va_W} {x0 : Int32} {x1 : Int32} {r : Int32} (h : f_X8_postOf x0 x1 = some r) : rv_C l D (rv_T ta) yX8_postOf cX8_postOf 2 (some .int) 1 0 0 [.int x0, .int x1] ws (rv_F (rv_vI r) ws) := by
  refine rv_Cof2 (own := RX8) (lv := [(0, .int x0), (1, .int x1)]) rfl (by decide) (rv_le rfl) rfl ?_
  unfold f_X8_postOf at h
  refine rv_iload_n dX8_postOf_0 rfl 0 rfl ?_
  refine rv_if_lt (tgt := 27) dX8_postOf_1 (by decide) (fun hc1 => ?_) (fun hc1 => ?_)
  · replace h := rv_ift hc1 h
    refine rv_iconst (v := (-1)) dX8_postOf_27 (by decide) ?_
    obtain rfl := Option.some.inj h
    exact rv_iret rfl dX8_postOf_28 (rv_le rfl) (rv_le rfl) ⟨rfl, rfl⟩
  · replace h := rv_iff hc1 h
    refine rv_iload_n dX8_postOf_4 rfl 0 rfl ?_
    refine rv_bipush (v := 8) dX8_postOf_5 (by decide) ?_
    refine rv_icmp_ge (tgt := 27) dX8_postOf_7 (by decide) (fun hc2 => ?_) (fun hc2 => ?_)
    · replace h := rv_ift hc2 h
      refine rv_iconst (v := (-1)) dX8_postOf_27 (by decide) ?_
      obtain rfl := Option.some.inj h
      exact rv_iret rfl dX8_postOf_28 (rv_le rfl) (rv_le rfl) ⟨rfl, rfl⟩
    · replace h := rv_iff hc2 h
      refine rv_iload_n dX8_postOf_10 rfl 1 rfl ?_
      refine rv_if_lt (tgt := 27) dX8_postOf_11 (by decide) (fun hc3 => ?_) (fun hc3 => ?_)
      · replace h := rv_ift hc3 h
        refine rv_iconst (v := (-1)) dX8_postOf_27 (by decide) ?_
        obtain rfl := Option.some.inj h
        exact rv_iret rfl dX8_postOf_28 (rv_le rfl) (rv_le rfl) ⟨rfl, rfl⟩
      · replace h := rv_iff hc3 h
        refine rv_iload_n dX8_postOf_14 rfl 1 rfl ?_
        refine rv_iconst (v := 3) dX8_postOf_15 (by decide) ?_
        refine rv_icmp_ge (tgt := 27) dX8_postOf_16 (by decide) (fun hc4 => ?_) (fun hc4 => ?_)
        · replace h := rv_ift hc4 h
          refine rv_iconst (v := (-1)) dX8_postOf_27 (by decide) ?_
          obtain rfl := Option.some.inj h
          exact rv_iret rfl dX8_postOf_28 (rv_le rfl) (rv_le rfl) ⟨rfl, rfl⟩
        · replace h := rv_iff hc4 h
          refine rv_iload_n dX8_postOf_19 rfl 0 rfl ?_
          refine rv_iconst (v := 3) dX8_postOf_20 (by decide) ?_
          refine rv_imul dX8_postOf_21 ?_
          refine rv_iload_n dX8_postOf_22 rfl 1 rfl ?_
          refine rv_iadd dX8_postOf_23 ?_
          refine rv_goto (tgt := 28) dX8_postOf_24 (by decide) ?_
          obtain rfl := Option.some.inj h
          exact rv_iret rfl dX8_postOf_28 (rv_le rfl) (rv_le rfl) ⟨rfl, rfl⟩
theorem ct_X5_staffAt {l : Launch} {D : va_G} {ta : Nat → ClassId} {ad : Nat → Nat} {μ : Mem} {x1 : Int32} {x2 : Int32} {r : Int32} (h : f_X5_staffAt μ x1 x2 = some r) : rv_C l D (rv_T ta) yX5_staffAt cX5_staffAt 4 (some .int) 2 0 0 [.ref (ad 6), .int x1, .int x2] (wx ta ad μ) (rv_F (rv_vI r) (wx ta ad μ)) := by
  refine rv_Cof2 (own := RX5) (lv := [(0, .ref (ad 6)), (1, .int x1), (2, .int x2)]) rfl (by decide) (rv_le rfl) rfl ?_
  unfold f_X5_staffAt at h
  refine rv_iload_n dX5_staffAt_0 rfl 1 rfl ?_
  refine rv_iload_n dX5_staffAt_1 rfl 2 rfl ?_
  obtain ⟨r1, hr1, h⟩ := rv_bind h
  refine rv_callSN1 (rest := []) (ct_X8_postOf hr1) wm_X5_37 ws_X8_postOf wc_X8_postOf wz_X8 np_X8_postOf dX5_staffAt_2 rfl ⟨rv_le rfl, rv_le rfl⟩ ⟨rv_le rfl, rv_le rfl⟩ (rv_le rfl) ?_
  refine rv_istore_n (lv2 := [(3, .int r1), (0, .ref (ad 6)), (1, .int x1), (2, .int x2)]) dX5_staffAt_5 rfl (by decide) rfl ?_
  refine rv_iload_n dX5_staffAt_6 rfl 0 rfl ?_
  refine rv_if_lt (tgt := 25) dX5_staffAt_7 (by decide) (fun hc2 => ?_) (fun hc2 => ?_)
  · replace h := rv_ift hc2 h
    refine rv_iconst (v := 0) dX5_staffAt_25 (by decide) ?_
    obtain rfl := Option.some.inj h
    exact rv_iret rfl dX5_staffAt_26 (rv_le rfl) (rv_le rfl) ⟨rfl, rfl⟩
  · replace h := rv_iff hc2 h
    refine rv_iload_n dX5_staffAt_10 rfl 0 rfl ?_
    refine rv_bipush (v := 24) dX5_staffAt_11 (by decide) ?_
    refine rv_icmp_ge (tgt := 25) dX5_staffAt_13 (by decide) (fun hc3 => ?_) (fun hc3 => ?_)
    · replace h := rv_ift hc3 h
      refine rv_iconst (v := 0) dX5_staffAt_25 (by decide) ?_
      obtain rfl := Option.some.inj h
      exact rv_iret rfl dX5_staffAt_26 (rv_le rfl) (rv_le rfl) ⟨rfl, rfl⟩
    · replace h := rv_iff hc3 h
      refine rv_aload_n dX5_staffAt_16 rfl 1 rfl ?_
      refine gf_X5_22 dX5_staffAt_17 6 (wx_6 ta ad μ) rfl ?_
      refine rv_iload_n dX5_staffAt_20 rfl 0 rfl ?_
      obtain ⟨hi4, h⟩ := rv_ifn h
      refine rv_iald dX5_staffAt_21 0 rfl 10 (wx_10 ta ad μ) (rv_inP hi4) ?_
      refine rv_goto (tgt := 26) dX5_staffAt_22 (by decide) ?_
      obtain rfl := Option.some.inj h
      exact rv_iret rfl dX5_staffAt_26 (rv_le rfl) (rv_le rfl) ⟨rfl, rfl⟩
theorem ct_X6_demandAt {l : Launch} {D : va_G} {ta : Nat → ClassId} {ad : Nat → Nat} {μ : Mem} {x1 : Int32} {x2 : Int32} {r : Int32} (h : f_X6_demandAt μ x1 x2 = some r) : rv_C l D (rv_T ta) yX6_demandAt cX6_demandAt 4 (some .int) 2 0 0 [.ref (ad 4), .int x1, .int x2] (wx ta ad μ) (rv_F (rv_vI r) (wx ta ad μ)) := by
  refine rv_Cof2 (own := RX6) (lv := [(0, .ref (ad 4)), (1, .int x1), (2, .int x2)]) rfl (by decide) (rv_le rfl) rfl ?_
  unfold f_X6_demandAt at h
  refine rv_iload_n dX6_demandAt_0 rfl 1 rfl ?_
  refine rv_iload_n dX6_demandAt_1 rfl 2 rfl ?_
  obtain ⟨r1, hr1, h⟩ := rv_bind h
  refine rv_callSN1 (rest := []) (ct_X8_postOf hr1) wm_X6_31 ws_X8_postOf wc_X8_postOf wz_X8 np_X8_postOf dX6_demandAt_2 rfl ⟨rv_le rfl, rv_le rfl⟩ ⟨rv_le rfl, rv_le rfl⟩ (rv_le rfl) ?_
  refine rv_istore_n (lv2 := [(3, .int r1), (0, .ref (ad 4)), (1, .int x1), (2, .int x2)]) dX6_demandAt_5 rfl (by decide) rfl ?_
  refine rv_iload_n dX6_demandAt_6 rfl 0 rfl ?_
  refine rv_if_lt (tgt := 25) dX6_demandAt_7 (by decide) (fun hc2 => ?_) (fun hc2 => ?_)
  · replace h := rv_ift hc2 h
    refine rv_iconst (v := 0) dX6_demandAt_25 (by decide) ?_
    obtain rfl := Option.some.inj h
    exact rv_iret rfl dX6_demandAt_26 (rv_le rfl) (rv_le rfl) ⟨rfl, rfl⟩
  · replace h := rv_iff hc2 h
    refine rv_iload_n dX6_demandAt_10 rfl 0 rfl ?_
    refine rv_bipush (v := 24) dX6_demandAt_11 (by decide) ?_
    refine rv_icmp_ge (tgt := 25) dX6_demandAt_13 (by decide) (fun hc3 => ?_) (fun hc3 => ?_)
    · replace h := rv_ift hc3 h
      refine rv_iconst (v := 0) dX6_demandAt_25 (by decide) ?_
      obtain rfl := Option.some.inj h
      exact rv_iret rfl dX6_demandAt_26 (rv_le rfl) (rv_le rfl) ⟨rfl, rfl⟩
    · replace h := rv_iff hc3 h
      refine rv_aload_n dX6_demandAt_16 rfl 1 rfl ?_
      refine gf_X6_9 dX6_demandAt_17 4 (wx_4 ta ad μ) rfl ?_
      refine rv_iload_n dX6_demandAt_20 rfl 0 rfl ?_
      obtain ⟨hi4, h⟩ := rv_ifn h
      refine rv_iald dX6_demandAt_21 0 rfl 5 (wx_5 ta ad μ) (rv_inP hi4) ?_
      refine rv_goto (tgt := 26) dX6_demandAt_22 (by decide) ?_
      obtain rfl := Option.some.inj h
      exact rv_iret rfl dX6_demandAt_26 (rv_le rfl) (rv_le rfl) ⟨rfl, rfl⟩
theorem vB_X1_shortagesOf_4 {l : Launch} {D : va_G} {ta : Nat → ClassId} {ad : Nat → Nat} {μ : Mem} {x1 : Int32} {k4 : Int32 → Int32 → Option (Int32)} (hk4 : ∀ {x2 : Int32} {x3 : Int32} {r : Int32}, k4 x2 x3 = some r → rv_V l D (rv_T ta) RX1 cX1_shortagesOf 4 (some .int) ("", []) (rv_rm 3 0 0) (rv_M D (rv_F (rv_vI r) (wx ta ad μ)) 0 0) 0 0 (wx ta ad μ) 4 [(0, .ref (ad 12)), (1, .int x1), (2, .int x2), (3, .int x3)] []) {x2 : Int32} {x3 : Int32} {r : Int32} (h : B_X1_shortagesOf_4 μ x1 k4 x2 x3 = some r) : rv_V l D (rv_T ta) RX1 cX1_shortagesOf 4 (some .int) ("", []) (rv_rm 3 0 0) (rv_M D (rv_F (rv_vI r) (wx ta ad μ)) 0 0) 0 0 (wx ta ad μ) 4 [(0, .ref (ad 12)), (1, .int x1), (2, .int x2), (3, .int x3)] [] := by
  unfold B_X1_shortagesOf_4 at h
  refine rv_iload_n dX1_shortagesOf_4 rfl 3 rfl ?_
  refine rv_iconst (v := 3) dX1_shortagesOf_5 (by decide) ?_
  refine rv_icmp_ge (tgt := 42) dX1_shortagesOf_6 (by decide) (fun hc1 => ?_) (fun hc1 => ?_)
  · replace h := rv_ift hc1 h
    refine rv_iload_n dX1_shortagesOf_42 rfl 2 rfl ?_
    obtain rfl := Option.some.inj h
    exact rv_iret rfl dX1_shortagesOf_43 (rv_le rfl) (rv_le rfl) ⟨rfl, rfl⟩
  · replace h := rv_iff hc1 h
    refine rv_aload_n dX1_shortagesOf_9 rfl 0 rfl ?_
    refine gf_X1_19 dX1_shortagesOf_10 12 (wx_12 ta ad μ) rfl ?_
    refine rv_iload_n dX1_shortagesOf_13 rfl 1 rfl ?_
    refine rv_iload_n dX1_shortagesOf_14 rfl 3 rfl ?_
    obtain ⟨r2, hr2, h⟩ := rv_bind h
    refine rv_callV1 (rest := []) (ct_X5_staffAt hr2) wm_X1_88 wi_X5_staffAt wl_X5_staffAt wc_X5_staffAt wz_X5 rfl np_X5_staffAt dX1_shortagesOf_15 rfl ⟨rv_le rfl, rv_le rfl⟩ ⟨rv_le rfl, rv_le rfl⟩ (rv_le rfl) 6 (wx_6 ta ad μ) cl_X5 ?_
    refine rv_aload_n dX1_shortagesOf_18 rfl 0 rfl ?_
    refine gf_X1_15 dX1_shortagesOf_19 12 (wx_12 ta ad μ) rfl ?_
    refine rv_iload_n dX1_shortagesOf_22 rfl 1 rfl ?_
    refine rv_iload_n dX1_shortagesOf_23 rfl 3 rfl ?_
    obtain ⟨r3, hr3, h⟩ := rv_bind h
    refine rv_callV1 (rest := [.int r2]) (ct_X6_demandAt hr3) wm_X1_91 wi_X6_demandAt wl_X6_demandAt wc_X6_demandAt wz_X6 rfl np_X6_demandAt dX1_shortagesOf_24 rfl ⟨rv_le rfl, rv_le rfl⟩ ⟨rv_le rfl, rv_le rfl⟩ (rv_le rfl) 4 (wx_4 ta ad μ) cl_X6 ?_
    refine rv_icmp_ge (tgt := 36) dX1_shortagesOf_27 (by decide) (fun hc4 => ?_) (fun hc4 => ?_)
    · replace h := rv_ift hc4 h
      refine rv_iinc (v := (x3 + 1)) (lv2 := [(3, .int (x3 + 1)), (0, .ref (ad 12)), (1, .int x1), (2, .int x2)]) dX1_shortagesOf_36 3 rfl rfl (by decide) rfl ?_
      refine rv_goto (tgt := 4) dX1_shortagesOf_39 (by decide) ?_
      refine rv_sub [1, 2, 3, 0] rfl ?_
      exact hk4 h
    · replace h := rv_iff hc4 h
      refine rv_iload_n dX1_shortagesOf_30 rfl 2 rfl ?_
      refine rv_iconst (v := 1) dX1_shortagesOf_31 (by decide) ?_
      refine rv_iload_n dX1_shortagesOf_32 rfl 3 rfl ?_
      refine rv_ishl dX1_shortagesOf_33 ?_
      refine rv_ior dX1_shortagesOf_34 ?_
      refine rv_istore_n (lv2 := [(2, .int (x2 ||| (1 <<< (x3 &&& 31)))), (0, .ref (ad 12)), (1, .int x1), (3, .int x3)]) dX1_shortagesOf_35 rfl (by decide) rfl ?_
      refine rv_iinc (v := (x3 + 1)) (lv2 := [(3, .int (x3 + 1)), (2, .int (x2 ||| (1 <<< (x3 &&& 31)))), (0, .ref (ad 12)), (1, .int x1)]) dX1_shortagesOf_36 3 rfl rfl (by decide) rfl ?_
      refine rv_goto (tgt := 4) dX1_shortagesOf_39 (by decide) ?_
      refine rv_sub [2, 3, 1, 0] rfl ?_
      exact hk4 h
theorem vh_X1_shortagesOf_4 {l : Launch} {D : va_G} {ta : Nat → ClassId} {ad : Nat → Nat} {μ : Mem} {x1 : Int32} {n : Nat} {x2 : Int32} {x3 : Int32} {r : Int32} (h : rv_loop (B_X1_shortagesOf_4 μ x1) (fun _ _ => none) n x2 x3 = some r) : rv_V l D (rv_T ta) RX1 cX1_shortagesOf 4 (some .int) ("", []) (rv_rm 3 0 0) (rv_M D (rv_F (rv_vI r) (wx ta ad μ)) 0 0) 0 0 (wx ta ad μ) 4 [(0, .ref (ad 12)), (1, .int x1), (2, .int x2), (3, .int x3)] [] := by
  induction n generalizing x2 x3 r with
  | zero => cases h
  | succ n ih => exact vB_X1_shortagesOf_4 (fun h9 => ih h9) h
theorem ct_X1_shortagesOf {l : Launch} {D : va_G} {ta : Nat → ClassId} {ad : Nat → Nat} {μ : Mem} {x1 : Int32} {r : Int32} (h : f_X1_shortagesOf μ x1 = some r) : rv_C l D (rv_T ta) yX1_shortagesOf cX1_shortagesOf 4 (some .int) 3 0 0 [.ref (ad 12), .int x1] (wx ta ad μ) (rv_F (rv_vI r) (wx ta ad μ)) := by
  refine rv_Cof2 (own := RX1) (lv := [(0, .ref (ad 12)), (1, .int x1)]) rfl (by decide) (rv_le rfl) rfl ?_
  unfold f_X1_shortagesOf at h
  refine rv_iconst (v := 0) dX1_shortagesOf_0 (by decide) ?_
  refine rv_istore_n (lv2 := [(2, .int 0), (0, .ref (ad 12)), (1, .int x1)]) dX1_shortagesOf_1 rfl (by decide) rfl ?_
  refine rv_iconst (v := 0) dX1_shortagesOf_2 (by decide) ?_
  refine rv_istore_n (lv2 := [(3, .int 0), (2, .int 0), (0, .ref (ad 12)), (1, .int x1)]) dX1_shortagesOf_3 rfl (by decide) rfl ?_
  refine rv_sub [2, 3, 1, 0] rfl ?_
  exact vh_X1_shortagesOf_4 h
theorem ct_X2_putShortages_13 {l : Launch} {D : va_G} {ta : Nat → ClassId} {ad : Nat → Nat} {μ : Mem} {x1 : Int32} {x2 : Int32} {r : (Unit) × Mem} (h : f_X2_putShortages 13 μ x1 x2 = some r) : rv_C l D (rv_T ta) yX2_putShortages cX2_putShortages 3 none 2 0 0 [.ref (ad 13), .int x1, .int x2] (wx ta ad μ) (rv_F (rv_vU r.1) (wx ta ad r.2)) := by
  refine rv_Cof2 (own := RX2) (lv := [(0, .ref (ad 13)), (1, .int x1), (2, .int x2)]) rfl (by decide) (rv_le rfl) rfl ?_
  unfold f_X2_putShortages at h
  refine rv_aload_n dX2_putShortages_0 rfl 0 rfl ?_
  refine rv_aload_n dX2_putShortages_1 rfl 0 rfl ?_
  refine gf_X2_15 dX2_putShortages_2 13 (wx_13 ta ad μ) rfl ?_
  refine rv_bipush (v := 7) dX2_putShortages_5 (by decide) ?_
  refine rv_iload_n dX2_putShortages_7 rfl 1 rfl ?_
  refine rv_iconst (v := 0) dX2_putShortages_8 (by decide) ?_
  obtain ⟨r1, hr1, h⟩ := rv_bind h
  refine rv_callSN1 (rest := [.int 7, .int (μ.1 13 1), .ref (ad 13)]) (ct_X8_postOf hr1) wm_X2_19 ws_X8_postOf wc_X8_postOf wz_X8 np_X8_postOf dX2_putShortages_9 rfl ⟨rv_le rfl, rv_le rfl⟩ ⟨rv_le rfl, rv_le rfl⟩ (rv_le rfl) ?_
  refine rv_ishl dX2_putShortages_12 ?_
  refine rv_iconst (v := (-1)) dX2_putShortages_13 (by decide) ?_
  refine rv_ixor dX2_putShortages_14 ?_
  refine rv_iand dX2_putShortages_15 ?_
  refine rv_iload_n dX2_putShortages_16 rfl 2 rfl ?_
  refine rv_iload_n dX2_putShortages_17 rfl 1 rfl ?_
  refine rv_iconst (v := 0) dX2_putShortages_18 (by decide) ?_
  obtain ⟨r2, hr2, h⟩ := rv_bind h
  refine rv_callSN1 (rest := [.int x2, .int ((μ.1 13 1) &&& ((7 <<< (r1 &&& 31)) ^^^ (-1))), .ref (ad 13)]) (ct_X8_postOf hr2) wm_X2_19 ws_X8_postOf wc_X8_postOf wz_X8 np_X8_postOf dX2_putShortages_19 rfl ⟨rv_le rfl, rv_le rfl⟩ ⟨rv_le rfl, rv_le rfl⟩ (rv_le rfl) ?_
  refine rv_ishl dX2_putShortages_22 ?_
  refine rv_ior dX2_putShortages_23 ?_
  refine pf_X2_15 dX2_putShortages_24 13 (wx_13 ta ad μ) (rv_le rfl) (wx_f13_1 ta ad μ (((μ.1 13 1) &&& ((7 <<< (r1 &&& 31)) ^^^ (-1))) ||| (x2 <<< (r2 &&& 31)))) ?_
  obtain rfl := Option.some.inj h
  exact rv_vret rfl dX2_putShortages_27 (rv_le rfl) (rv_le rfl) ⟨rfl, rfl⟩
theorem ct_X2_putShortages_15 {l : Launch} {D : va_G} {ta : Nat → ClassId} {ad : Nat → Nat} {μ : Mem} {x1 : Int32} {x2 : Int32} {r : (Unit) × Mem} (h : f_X2_putShortages 15 μ x1 x2 = some r) : rv_C l D (rv_T ta) yX2_putShortages cX2_putShortages 3 none 2 0 0 [.ref (ad 15), .int x1, .int x2] (wx ta ad μ) (rv_F (rv_vU r.1) (wx ta ad r.2)) := by
  refine rv_Cof2 (own := RX2) (lv := [(0, .ref (ad 15)), (1, .int x1), (2, .int x2)]) rfl (by decide) (rv_le rfl) rfl ?_
  unfold f_X2_putShortages at h
  refine rv_aload_n dX2_putShortages_0 rfl 0 rfl ?_
  refine rv_aload_n dX2_putShortages_1 rfl 0 rfl ?_
  refine gf_X2_15 dX2_putShortages_2 15 (wx_15 ta ad μ) rfl ?_
  refine rv_bipush (v := 7) dX2_putShortages_5 (by decide) ?_
  refine rv_iload_n dX2_putShortages_7 rfl 1 rfl ?_
  refine rv_iconst (v := 0) dX2_putShortages_8 (by decide) ?_
  obtain ⟨r1, hr1, h⟩ := rv_bind h
  refine rv_callSN1 (rest := [.int 7, .int (μ.1 15 1), .ref (ad 15)]) (ct_X8_postOf hr1) wm_X2_19 ws_X8_postOf wc_X8_postOf wz_X8 np_X8_postOf dX2_putShortages_9 rfl ⟨rv_le rfl, rv_le rfl⟩ ⟨rv_le rfl, rv_le rfl⟩ (rv_le rfl) ?_
  refine rv_ishl dX2_putShortages_12 ?_
  refine rv_iconst (v := (-1)) dX2_putShortages_13 (by decide) ?_
  refine rv_ixor dX2_putShortages_14 ?_
  refine rv_iand dX2_putShortages_15 ?_
  refine rv_iload_n dX2_putShortages_16 rfl 2 rfl ?_
  refine rv_iload_n dX2_putShortages_17 rfl 1 rfl ?_
  refine rv_iconst (v := 0) dX2_putShortages_18 (by decide) ?_
  obtain ⟨r2, hr2, h⟩ := rv_bind h
  refine rv_callSN1 (rest := [.int x2, .int ((μ.1 15 1) &&& ((7 <<< (r1 &&& 31)) ^^^ (-1))), .ref (ad 15)]) (ct_X8_postOf hr2) wm_X2_19 ws_X8_postOf wc_X8_postOf wz_X8 np_X8_postOf dX2_putShortages_19 rfl ⟨rv_le rfl, rv_le rfl⟩ ⟨rv_le rfl, rv_le rfl⟩ (rv_le rfl) ?_
  refine rv_ishl dX2_putShortages_22 ?_
  refine rv_ior dX2_putShortages_23 ?_
  refine pf_X2_15 dX2_putShortages_24 15 (wx_15 ta ad μ) (rv_le rfl) (wx_f15_1 ta ad μ (((μ.1 15 1) &&& ((7 <<< (r1 &&& 31)) ^^^ (-1))) ||| (x2 <<< (r2 &&& 31)))) ?_
  obtain rfl := Option.some.inj h
  exact rv_vret rfl dX2_putShortages_27 (rv_le rfl) (rv_le rfl) ⟨rfl, rfl⟩
theorem ct_X2_putShortages_18 {l : Launch} {D : va_G} {ta : Nat → ClassId} {ad : Nat → Nat} {μ : Mem} {x1 : Int32} {x2 : Int32} {r : (Unit) × Mem} (h : f_X2_putShortages 18 μ x1 x2 = some r) : rv_C l D (rv_T ta) yX2_putShortages cX2_putShortages 3 none 2 0 0 [.ref (ad 18), .int x1, .int x2] (wx ta ad μ) (rv_F (rv_vU r.1) (wx ta ad r.2)) := by
  refine rv_Cof2 (own := RX2) (lv := [(0, .ref (ad 18)), (1, .int x1), (2, .int x2)]) rfl (by decide) (rv_le rfl) rfl ?_
  unfold f_X2_putShortages at h
  refine rv_aload_n dX2_putShortages_0 rfl 0 rfl ?_
  refine rv_aload_n dX2_putShortages_1 rfl 0 rfl ?_
  refine gf_X2_15 dX2_putShortages_2 18 (wx_18 ta ad μ) rfl ?_
  refine rv_bipush (v := 7) dX2_putShortages_5 (by decide) ?_
  refine rv_iload_n dX2_putShortages_7 rfl 1 rfl ?_
  refine rv_iconst (v := 0) dX2_putShortages_8 (by decide) ?_
  obtain ⟨r1, hr1, h⟩ := rv_bind h
  refine rv_callSN1 (rest := [.int 7, .int (μ.1 18 1), .ref (ad 18)]) (ct_X8_postOf hr1) wm_X2_19 ws_X8_postOf wc_X8_postOf wz_X8 np_X8_postOf dX2_putShortages_9 rfl ⟨rv_le rfl, rv_le rfl⟩ ⟨rv_le rfl, rv_le rfl⟩ (rv_le rfl) ?_
  refine rv_ishl dX2_putShortages_12 ?_
  refine rv_iconst (v := (-1)) dX2_putShortages_13 (by decide) ?_
  refine rv_ixor dX2_putShortages_14 ?_
  refine rv_iand dX2_putShortages_15 ?_
  refine rv_iload_n dX2_putShortages_16 rfl 2 rfl ?_
  refine rv_iload_n dX2_putShortages_17 rfl 1 rfl ?_
  refine rv_iconst (v := 0) dX2_putShortages_18 (by decide) ?_
  obtain ⟨r2, hr2, h⟩ := rv_bind h
  refine rv_callSN1 (rest := [.int x2, .int ((μ.1 18 1) &&& ((7 <<< (r1 &&& 31)) ^^^ (-1))), .ref (ad 18)]) (ct_X8_postOf hr2) wm_X2_19 ws_X8_postOf wc_X8_postOf wz_X8 np_X8_postOf dX2_putShortages_19 rfl ⟨rv_le rfl, rv_le rfl⟩ ⟨rv_le rfl, rv_le rfl⟩ (rv_le rfl) ?_
  refine rv_ishl dX2_putShortages_22 ?_
  refine rv_ior dX2_putShortages_23 ?_
  refine pf_X2_15 dX2_putShortages_24 18 (wx_18 ta ad μ) (rv_le rfl) (wx_f18_1 ta ad μ (((μ.1 18 1) &&& ((7 <<< (r1 &&& 31)) ^^^ (-1))) ||| (x2 <<< (r2 &&& 31)))) ?_
  obtain rfl := Option.some.inj h
  exact rv_vret rfl dX2_putShortages_27 (rv_le rfl) (rv_le rfl) ⟨rfl, rfl⟩
theorem vB_X1_look_13_25 {l : Launch} {D : va_G} {ta : Nat → ClassId} {ad : Nat → Nat} {k25 : Mem → Int32 → Option ((Unit) × Mem)} (hk25 : ∀ {μ : Mem} {x2 : Int32} {r : (Unit) × Mem}, k25 μ x2 = some r → rv_V l D (rv_T ta) RX1 cX1_look 3 none ("", []) (rv_rm 4 0 0) (rv_M D (rv_F (rv_vU r.1) (wx ta ad r.2)) 0 0) 0 0 (wx ta ad μ) 25 [(0, .ref (ad 12)), (1, .ref (ad 13)), (2, .int x2)] []) {μ : Mem} {x2 : Int32} {r : (Unit) × Mem} (h : B_X1_look_25 13 k25 μ x2 = some r) : rv_V l D (rv_T ta) RX1 cX1_look 3 none ("", []) (rv_rm 4 0 0) (rv_M D (rv_F (rv_vU r.1) (wx ta ad r.2)) 0 0) 0 0 (wx ta ad μ) 25 [(0, .ref (ad 12)), (1, .ref (ad 13)), (2, .int x2)] [] := by
  unfold B_X1_look_25 at h
  refine rv_iload_n dX1_look_25 rfl 2 rfl ?_
  refine rv_bipush (v := 8) dX1_look_26 (by decide) ?_
  refine rv_icmp_ge (tgt := 47) dX1_look_28 (by decide) (fun hc2 => ?_) (fun hc2 => ?_)
  · replace h := rv_ift hc2 h
    obtain rfl := Option.some.inj h
    exact rv_vret rfl dX1_look_47 (rv_le rfl) (rv_le rfl) ⟨rfl, rfl⟩
  · replace h := rv_iff hc2 h
    refine rv_aload_n dX1_look_31 rfl 1 rfl ?_
    refine rv_iload_n dX1_look_32 rfl 2 rfl ?_
    refine rv_aload_n dX1_look_33 rfl 0 rfl ?_
    refine rv_iload_n dX1_look_34 rfl 2 rfl ?_
    obtain ⟨r3, hr3, h⟩ := rv_bind h
    refine rv_callV1 (rest := [.int x2, .ref (ad 13)]) (ct_X1_shortagesOf hr3) wm_X1_33 wi_X1_shortagesOf wl_X1_shortagesOf wc_X1_shortagesOf wz_X1 rfl np_X1_shortagesOf dX1_look_35 rfl ⟨rv_le rfl, rv_le rfl⟩ ⟨rv_le rfl, rv_le rfl⟩ (rv_le rfl) 12 (wx_12 ta ad μ) cl_X1 ?_
    obtain ⟨r4, hr4, h⟩ := rv_bind h
    refine rv_callV0 (rest := []) (ct_X2_putShortages_13 hr4) wm_X1_37 wi_X2_putShortages wl_X2_putShortages wc_X2_putShortages wz_X2 rfl np_X2_putShortages dX1_look_38 rfl ⟨rv_le rfl, rv_le rfl⟩ ⟨rv_le rfl, rv_le rfl⟩ (rv_le rfl) 13 (wx_13 ta ad μ) cl_X2 ?_
    refine rv_iinc (v := (x2 + 1)) (lv2 := [(2, .int (x2 + 1)), (0, .ref (ad 12)), (1, .ref (ad 13))]) dX1_look_41 2 rfl rfl (by decide) rfl ?_
    refine rv_goto (tgt := 25) dX1_look_44 (by decide) ?_
    refine rv_sub [1, 2, 0] rfl ?_
    exact hk25 h
theorem vh_X1_look_13_25 {l : Launch} {D : va_G} {ta : Nat → ClassId} {ad : Nat → Nat} {n : Nat} {μ : Mem} {x2 : Int32} {r : (Unit) × Mem} (h : rv_loop (B_X1_look_25 13) (fun _ _ => none) n μ x2 = some r) : rv_V l D (rv_T ta) RX1 cX1_look 3 none ("", []) (rv_rm 4 0 0) (rv_M D (rv_F (rv_vU r.1) (wx ta ad r.2)) 0 0) 0 0 (wx ta ad μ) 25 [(0, .ref (ad 12)), (1, .ref (ad 13)), (2, .int x2)] [] := by
  induction n generalizing μ x2 r with
  | zero => cases h
  | succ n ih => exact vB_X1_look_13_25 (fun h9 => ih h9) h
theorem vB_X1_look_13_2 {l : Launch} {D : va_G} {ta : Nat → ClassId} {ad : Nat → Nat} {k2 : Mem → Int32 → Option ((Unit) × Mem)} (hk2 : ∀ {μ : Mem} {x2 : Int32} {r : (Unit) × Mem}, k2 μ x2 = some r → rv_V l D (rv_T ta) RX1 cX1_look 3 none ("", []) (rv_rm 4 0 0) (rv_M D (rv_F (rv_vU r.1) (wx ta ad r.2)) 0 0) 0 0 (wx ta ad μ) 2 [(0, .ref (ad 12)), (1, .ref (ad 13)), (2, .int x2)] []) {μ : Mem} {x2 : Int32} {r : (Unit) × Mem} (h : B_X1_look_2 13 k2 μ x2 = some r) : rv_V l D (rv_T ta) RX1 cX1_look 3 none ("", []) (rv_rm 4 0 0) (rv_M D (rv_F (rv_vU r.1) (wx ta ad r.2)) 0 0) 0 0 (wx ta ad μ) 2 [(0, .ref (ad 12)), (1, .ref (ad 13)), (2, .int x2)] [] := by
  unfold B_X1_look_2 at h
  refine rv_iload_n dX1_look_2 rfl 2 rfl ?_
  refine rv_iconst (v := 4) dX1_look_3 (by decide) ?_
  refine rv_icmp_ge (tgt := 23) dX1_look_4 (by decide) (fun hc1 => ?_) (fun hc1 => ?_)
  · replace h := rv_ift hc1 h
    refine rv_iconst (v := 0) dX1_look_23 (by decide) ?_
    refine rv_istore_n (lv2 := [(2, .int 0), (0, .ref (ad 12)), (1, .ref (ad 13))]) dX1_look_24 rfl (by decide) rfl ?_
    refine rv_sub [1, 2, 0] rfl ?_
    exact vh_X1_look_13_25 h
  · replace h := rv_iff hc1 h
    refine rv_aload_n dX1_look_7 rfl 1 rfl ?_
    refine rv_iload_n dX1_look_8 rfl 2 rfl ?_
    refine rv_aload_n dX1_look_9 rfl 0 rfl ?_
    refine rv_iload_n dX1_look_10 rfl 2 rfl ?_
    obtain ⟨r5, hr5, h⟩ := rv_bind h
    refine rv_callV1 (rest := [.int x2, .ref (ad 13)]) (ct_X1_breachesOf hr5) wm_X1_23 wi_X1_breachesOf wl_X1_breachesOf wc_X1_breachesOf wz_X1 rfl np_X1_breachesOf dX1_look_11 rfl ⟨rv_le rfl, rv_le rfl⟩ ⟨rv_le rfl, rv_le rfl⟩ (rv_le rfl) 12 (wx_12 ta ad μ) cl_X1 ?_
    obtain ⟨r6, hr6, h⟩ := rv_bind h
    refine rv_callV0 (rest := []) (ct_X2_putRow_13 hr6) wm_X1_27 wi_X2_putRow wl_X2_putRow wc_X2_putRow wz_X2 rfl np_X2_putRow dX1_look_14 rfl ⟨rv_le rfl, rv_le rfl⟩ ⟨rv_le rfl, rv_le rfl⟩ (rv_le rfl) 13 (wx_13 ta ad μ) cl_X2 ?_
    refine rv_iinc (v := (x2 + 1)) (lv2 := [(2, .int (x2 + 1)), (0, .ref (ad 12)), (1, .ref (ad 13))]) dX1_look_17 2 rfl rfl (by decide) rfl ?_
    refine rv_goto (tgt := 2) dX1_look_20 (by decide) ?_
    refine rv_sub [1, 2, 0] rfl ?_
    exact hk2 h
theorem vh_X1_look_13_2 {l : Launch} {D : va_G} {ta : Nat → ClassId} {ad : Nat → Nat} {n : Nat} {μ : Mem} {x2 : Int32} {r : (Unit) × Mem} (h : rv_loop (B_X1_look_2 13) (fun _ _ => none) n μ x2 = some r) : rv_V l D (rv_T ta) RX1 cX1_look 3 none ("", []) (rv_rm 4 0 0) (rv_M D (rv_F (rv_vU r.1) (wx ta ad r.2)) 0 0) 0 0 (wx ta ad μ) 2 [(0, .ref (ad 12)), (1, .ref (ad 13)), (2, .int x2)] [] := by
  induction n generalizing μ x2 r with
  | zero => cases h
  | succ n ih => exact vB_X1_look_13_2 (fun h9 => ih h9) h
theorem ct_X1_look_13 {l : Launch} {D : va_G} {ta : Nat → ClassId} {ad : Nat → Nat} {μ : Mem} {r : (Unit) × Mem} (h : f_X1_look 13 μ = some r) : rv_C l D (rv_T ta) yX1_look cX1_look 3 none 4 0 0 [.ref (ad 12), .ref (ad 13)] (wx ta ad μ) (rv_F (rv_vU r.1) (wx ta ad r.2)) := by
  refine rv_Cof2 (own := RX1) (lv := [(0, .ref (ad 12)), (1, .ref (ad 13))]) rfl (by decide) (rv_le rfl) rfl ?_
  unfold f_X1_look at h
  refine rv_iconst (v := 0) dX1_look_0 (by decide) ?_
  refine rv_istore_n (lv2 := [(2, .int 0), (0, .ref (ad 12)), (1, .ref (ad 13))]) dX1_look_1 rfl (by decide) rfl ?_
  refine rv_sub [1, 2, 0] rfl ?_
  exact vh_X1_look_13_2 h
theorem vB_X1_look_15_25 {l : Launch} {D : va_G} {ta : Nat → ClassId} {ad : Nat → Nat} {k25 : Mem → Int32 → Option ((Unit) × Mem)} (hk25 : ∀ {μ : Mem} {x2 : Int32} {r : (Unit) × Mem}, k25 μ x2 = some r → rv_V l D (rv_T ta) RX1 cX1_look 3 none ("", []) (rv_rm 4 0 0) (rv_M D (rv_F (rv_vU r.1) (wx ta ad r.2)) 0 0) 0 0 (wx ta ad μ) 25 [(0, .ref (ad 12)), (1, .ref (ad 15)), (2, .int x2)] []) {μ : Mem} {x2 : Int32} {r : (Unit) × Mem} (h : B_X1_look_25 15 k25 μ x2 = some r) : rv_V l D (rv_T ta) RX1 cX1_look 3 none ("", []) (rv_rm 4 0 0) (rv_M D (rv_F (rv_vU r.1) (wx ta ad r.2)) 0 0) 0 0 (wx ta ad μ) 25 [(0, .ref (ad 12)), (1, .ref (ad 15)), (2, .int x2)] [] := by
  unfold B_X1_look_25 at h
  refine rv_iload_n dX1_look_25 rfl 2 rfl ?_
  refine rv_bipush (v := 8) dX1_look_26 (by decide) ?_
  refine rv_icmp_ge (tgt := 47) dX1_look_28 (by decide) (fun hc2 => ?_) (fun hc2 => ?_)
  · replace h := rv_ift hc2 h
    obtain rfl := Option.some.inj h
    exact rv_vret rfl dX1_look_47 (rv_le rfl) (rv_le rfl) ⟨rfl, rfl⟩
  · replace h := rv_iff hc2 h
    refine rv_aload_n dX1_look_31 rfl 1 rfl ?_
    refine rv_iload_n dX1_look_32 rfl 2 rfl ?_
    refine rv_aload_n dX1_look_33 rfl 0 rfl ?_
    refine rv_iload_n dX1_look_34 rfl 2 rfl ?_
    obtain ⟨r3, hr3, h⟩ := rv_bind h
    refine rv_callV1 (rest := [.int x2, .ref (ad 15)]) (ct_X1_shortagesOf hr3) wm_X1_33 wi_X1_shortagesOf wl_X1_shortagesOf wc_X1_shortagesOf wz_X1 rfl np_X1_shortagesOf dX1_look_35 rfl ⟨rv_le rfl, rv_le rfl⟩ ⟨rv_le rfl, rv_le rfl⟩ (rv_le rfl) 12 (wx_12 ta ad μ) cl_X1 ?_
    obtain ⟨r4, hr4, h⟩ := rv_bind h
    refine rv_callV0 (rest := []) (ct_X2_putShortages_15 hr4) wm_X1_37 wi_X2_putShortages wl_X2_putShortages wc_X2_putShortages wz_X2 rfl np_X2_putShortages dX1_look_38 rfl ⟨rv_le rfl, rv_le rfl⟩ ⟨rv_le rfl, rv_le rfl⟩ (rv_le rfl) 15 (wx_15 ta ad μ) cl_X2 ?_
    refine rv_iinc (v := (x2 + 1)) (lv2 := [(2, .int (x2 + 1)), (0, .ref (ad 12)), (1, .ref (ad 15))]) dX1_look_41 2 rfl rfl (by decide) rfl ?_
    refine rv_goto (tgt := 25) dX1_look_44 (by decide) ?_
    refine rv_sub [1, 2, 0] rfl ?_
    exact hk25 h
theorem vh_X1_look_15_25 {l : Launch} {D : va_G} {ta : Nat → ClassId} {ad : Nat → Nat} {n : Nat} {μ : Mem} {x2 : Int32} {r : (Unit) × Mem} (h : rv_loop (B_X1_look_25 15) (fun _ _ => none) n μ x2 = some r) : rv_V l D (rv_T ta) RX1 cX1_look 3 none ("", []) (rv_rm 4 0 0) (rv_M D (rv_F (rv_vU r.1) (wx ta ad r.2)) 0 0) 0 0 (wx ta ad μ) 25 [(0, .ref (ad 12)), (1, .ref (ad 15)), (2, .int x2)] [] := by
  induction n generalizing μ x2 r with
  | zero => cases h
  | succ n ih => exact vB_X1_look_15_25 (fun h9 => ih h9) h
theorem vB_X1_look_15_2 {l : Launch} {D : va_G} {ta : Nat → ClassId} {ad : Nat → Nat} {k2 : Mem → Int32 → Option ((Unit) × Mem)} (hk2 : ∀ {μ : Mem} {x2 : Int32} {r : (Unit) × Mem}, k2 μ x2 = some r → rv_V l D (rv_T ta) RX1 cX1_look 3 none ("", []) (rv_rm 4 0 0) (rv_M D (rv_F (rv_vU r.1) (wx ta ad r.2)) 0 0) 0 0 (wx ta ad μ) 2 [(0, .ref (ad 12)), (1, .ref (ad 15)), (2, .int x2)] []) {μ : Mem} {x2 : Int32} {r : (Unit) × Mem} (h : B_X1_look_2 15 k2 μ x2 = some r) : rv_V l D (rv_T ta) RX1 cX1_look 3 none ("", []) (rv_rm 4 0 0) (rv_M D (rv_F (rv_vU r.1) (wx ta ad r.2)) 0 0) 0 0 (wx ta ad μ) 2 [(0, .ref (ad 12)), (1, .ref (ad 15)), (2, .int x2)] [] := by
  unfold B_X1_look_2 at h
  refine rv_iload_n dX1_look_2 rfl 2 rfl ?_
  refine rv_iconst (v := 4) dX1_look_3 (by decide) ?_
  refine rv_icmp_ge (tgt := 23) dX1_look_4 (by decide) (fun hc1 => ?_) (fun hc1 => ?_)
  · replace h := rv_ift hc1 h
    refine rv_iconst (v := 0) dX1_look_23 (by decide) ?_
    refine rv_istore_n (lv2 := [(2, .int 0), (0, .ref (ad 12)), (1, .ref (ad 15))]) dX1_look_24 rfl (by decide) rfl ?_
    refine rv_sub [1, 2, 0] rfl ?_
    exact vh_X1_look_15_25 h
  · replace h := rv_iff hc1 h
    refine rv_aload_n dX1_look_7 rfl 1 rfl ?_
    refine rv_iload_n dX1_look_8 rfl 2 rfl ?_
    refine rv_aload_n dX1_look_9 rfl 0 rfl ?_
    refine rv_iload_n dX1_look_10 rfl 2 rfl ?_
    obtain ⟨r5, hr5, h⟩ := rv_bind h
    refine rv_callV1 (rest := [.int x2, .ref (ad 15)]) (ct_X1_breachesOf hr5) wm_X1_23 wi_X1_breachesOf wl_X1_breachesOf wc_X1_breachesOf wz_X1 rfl np_X1_breachesOf dX1_look_11 rfl ⟨rv_le rfl, rv_le rfl⟩ ⟨rv_le rfl, rv_le rfl⟩ (rv_le rfl) 12 (wx_12 ta ad μ) cl_X1 ?_
    obtain ⟨r6, hr6, h⟩ := rv_bind h
    refine rv_callV0 (rest := []) (ct_X2_putRow_15 hr6) wm_X1_27 wi_X2_putRow wl_X2_putRow wc_X2_putRow wz_X2 rfl np_X2_putRow dX1_look_14 rfl ⟨rv_le rfl, rv_le rfl⟩ ⟨rv_le rfl, rv_le rfl⟩ (rv_le rfl) 15 (wx_15 ta ad μ) cl_X2 ?_
    refine rv_iinc (v := (x2 + 1)) (lv2 := [(2, .int (x2 + 1)), (0, .ref (ad 12)), (1, .ref (ad 15))]) dX1_look_17 2 rfl rfl (by decide) rfl ?_
    refine rv_goto (tgt := 2) dX1_look_20 (by decide) ?_
    refine rv_sub [1, 2, 0] rfl ?_
    exact hk2 h
theorem vh_X1_look_15_2 {l : Launch} {D : va_G} {ta : Nat → ClassId} {ad : Nat → Nat} {n : Nat} {μ : Mem} {x2 : Int32} {r : (Unit) × Mem} (h : rv_loop (B_X1_look_2 15) (fun _ _ => none) n μ x2 = some r) : rv_V l D (rv_T ta) RX1 cX1_look 3 none ("", []) (rv_rm 4 0 0) (rv_M D (rv_F (rv_vU r.1) (wx ta ad r.2)) 0 0) 0 0 (wx ta ad μ) 2 [(0, .ref (ad 12)), (1, .ref (ad 15)), (2, .int x2)] [] := by
  induction n generalizing μ x2 r with
  | zero => cases h
  | succ n ih => exact vB_X1_look_15_2 (fun h9 => ih h9) h
theorem ct_X1_look_15 {l : Launch} {D : va_G} {ta : Nat → ClassId} {ad : Nat → Nat} {μ : Mem} {r : (Unit) × Mem} (h : f_X1_look 15 μ = some r) : rv_C l D (rv_T ta) yX1_look cX1_look 3 none 4 0 0 [.ref (ad 12), .ref (ad 15)] (wx ta ad μ) (rv_F (rv_vU r.1) (wx ta ad r.2)) := by
  refine rv_Cof2 (own := RX1) (lv := [(0, .ref (ad 12)), (1, .ref (ad 15))]) rfl (by decide) (rv_le rfl) rfl ?_
  unfold f_X1_look at h
  refine rv_iconst (v := 0) dX1_look_0 (by decide) ?_
  refine rv_istore_n (lv2 := [(2, .int 0), (0, .ref (ad 12)), (1, .ref (ad 15))]) dX1_look_1 rfl (by decide) rfl ?_
  refine rv_sub [1, 2, 0] rfl ?_
  exact vh_X1_look_15_2 h
theorem vB_X1_look_18_25 {l : Launch} {D : va_G} {ta : Nat → ClassId} {ad : Nat → Nat} {k25 : Mem → Int32 → Option ((Unit) × Mem)} (hk25 : ∀ {μ : Mem} {x2 : Int32} {r : (Unit) × Mem}, k25 μ x2 = some r → rv_V l D (rv_T ta) RX1 cX1_look 3 none ("", []) (rv_rm 4 0 0) (rv_M D (rv_F (rv_vU r.1) (wx ta ad r.2)) 0 0) 0 0 (wx ta ad μ) 25 [(0, .ref (ad 12)), (1, .ref (ad 18)), (2, .int x2)] []) {μ : Mem} {x2 : Int32} {r : (Unit) × Mem} (h : B_X1_look_25 18 k25 μ x2 = some r) : rv_V l D (rv_T ta) RX1 cX1_look 3 none ("", []) (rv_rm 4 0 0) (rv_M D (rv_F (rv_vU r.1) (wx ta ad r.2)) 0 0) 0 0 (wx ta ad μ) 25 [(0, .ref (ad 12)), (1, .ref (ad 18)), (2, .int x2)] [] := by
  unfold B_X1_look_25 at h
  refine rv_iload_n dX1_look_25 rfl 2 rfl ?_
  refine rv_bipush (v := 8) dX1_look_26 (by decide) ?_
  refine rv_icmp_ge (tgt := 47) dX1_look_28 (by decide) (fun hc2 => ?_) (fun hc2 => ?_)
  · replace h := rv_ift hc2 h
    obtain rfl := Option.some.inj h
    exact rv_vret rfl dX1_look_47 (rv_le rfl) (rv_le rfl) ⟨rfl, rfl⟩
  · replace h := rv_iff hc2 h
    refine rv_aload_n dX1_look_31 rfl 1 rfl ?_
    refine rv_iload_n dX1_look_32 rfl 2 rfl ?_
    refine rv_aload_n dX1_look_33 rfl 0 rfl ?_
    refine rv_iload_n dX1_look_34 rfl 2 rfl ?_
    obtain ⟨r3, hr3, h⟩ := rv_bind h
    refine rv_callV1 (rest := [.int x2, .ref (ad 18)]) (ct_X1_shortagesOf hr3) wm_X1_33 wi_X1_shortagesOf wl_X1_shortagesOf wc_X1_shortagesOf wz_X1 rfl np_X1_shortagesOf dX1_look_35 rfl ⟨rv_le rfl, rv_le rfl⟩ ⟨rv_le rfl, rv_le rfl⟩ (rv_le rfl) 12 (wx_12 ta ad μ) cl_X1 ?_
    obtain ⟨r4, hr4, h⟩ := rv_bind h
    refine rv_callV0 (rest := []) (ct_X2_putShortages_18 hr4) wm_X1_37 wi_X2_putShortages wl_X2_putShortages wc_X2_putShortages wz_X2 rfl np_X2_putShortages dX1_look_38 rfl ⟨rv_le rfl, rv_le rfl⟩ ⟨rv_le rfl, rv_le rfl⟩ (rv_le rfl) 18 (wx_18 ta ad μ) cl_X2 ?_
    refine rv_iinc (v := (x2 + 1)) (lv2 := [(2, .int (x2 + 1)), (0, .ref (ad 12)), (1, .ref (ad 18))]) dX1_look_41 2 rfl rfl (by decide) rfl ?_
    refine rv_goto (tgt := 25) dX1_look_44 (by decide) ?_
    refine rv_sub [1, 2, 0] rfl ?_
    exact hk25 h
theorem vh_X1_look_18_25 {l : Launch} {D : va_G} {ta : Nat → ClassId} {ad : Nat → Nat} {n : Nat} {μ : Mem} {x2 : Int32} {r : (Unit) × Mem} (h : rv_loop (B_X1_look_25 18) (fun _ _ => none) n μ x2 = some r) : rv_V l D (rv_T ta) RX1 cX1_look 3 none ("", []) (rv_rm 4 0 0) (rv_M D (rv_F (rv_vU r.1) (wx ta ad r.2)) 0 0) 0 0 (wx ta ad μ) 25 [(0, .ref (ad 12)), (1, .ref (ad 18)), (2, .int x2)] [] := by
  induction n generalizing μ x2 r with
  | zero => cases h
  | succ n ih => exact vB_X1_look_18_25 (fun h9 => ih h9) h
theorem vB_X1_look_18_2 {l : Launch} {D : va_G} {ta : Nat → ClassId} {ad : Nat → Nat} {k2 : Mem → Int32 → Option ((Unit) × Mem)} (hk2 : ∀ {μ : Mem} {x2 : Int32} {r : (Unit) × Mem}, k2 μ x2 = some r → rv_V l D (rv_T ta) RX1 cX1_look 3 none ("", []) (rv_rm 4 0 0) (rv_M D (rv_F (rv_vU r.1) (wx ta ad r.2)) 0 0) 0 0 (wx ta ad μ) 2 [(0, .ref (ad 12)), (1, .ref (ad 18)), (2, .int x2)] []) {μ : Mem} {x2 : Int32} {r : (Unit) × Mem} (h : B_X1_look_2 18 k2 μ x2 = some r) : rv_V l D (rv_T ta) RX1 cX1_look 3 none ("", []) (rv_rm 4 0 0) (rv_M D (rv_F (rv_vU r.1) (wx ta ad r.2)) 0 0) 0 0 (wx ta ad μ) 2 [(0, .ref (ad 12)), (1, .ref (ad 18)), (2, .int x2)] [] := by
  unfold B_X1_look_2 at h
  refine rv_iload_n dX1_look_2 rfl 2 rfl ?_
  refine rv_iconst (v := 4) dX1_look_3 (by decide) ?_
  refine rv_icmp_ge (tgt := 23) dX1_look_4 (by decide) (fun hc1 => ?_) (fun hc1 => ?_)
  · replace h := rv_ift hc1 h
    refine rv_iconst (v := 0) dX1_look_23 (by decide) ?_
    refine rv_istore_n (lv2 := [(2, .int 0), (0, .ref (ad 12)), (1, .ref (ad 18))]) dX1_look_24 rfl (by decide) rfl ?_
    refine rv_sub [1, 2, 0] rfl ?_
    exact vh_X1_look_18_25 h
  · replace h := rv_iff hc1 h
    refine rv_aload_n dX1_look_7 rfl 1 rfl ?_
    refine rv_iload_n dX1_look_8 rfl 2 rfl ?_
    refine rv_aload_n dX1_look_9 rfl 0 rfl ?_
    refine rv_iload_n dX1_look_10 rfl 2 rfl ?_
    obtain ⟨r5, hr5, h⟩ := rv_bind h
    refine rv_callV1 (rest := [.int x2, .ref (ad 18)]) (ct_X1_breachesOf hr5) wm_X1_23 wi_X1_breachesOf wl_X1_breachesOf wc_X1_breachesOf wz_X1 rfl np_X1_breachesOf dX1_look_11 rfl ⟨rv_le rfl, rv_le rfl⟩ ⟨rv_le rfl, rv_le rfl⟩ (rv_le rfl) 12 (wx_12 ta ad μ) cl_X1 ?_
    obtain ⟨r6, hr6, h⟩ := rv_bind h
    refine rv_callV0 (rest := []) (ct_X2_putRow_18 hr6) wm_X1_27 wi_X2_putRow wl_X2_putRow wc_X2_putRow wz_X2 rfl np_X2_putRow dX1_look_14 rfl ⟨rv_le rfl, rv_le rfl⟩ ⟨rv_le rfl, rv_le rfl⟩ (rv_le rfl) 18 (wx_18 ta ad μ) cl_X2 ?_
    refine rv_iinc (v := (x2 + 1)) (lv2 := [(2, .int (x2 + 1)), (0, .ref (ad 12)), (1, .ref (ad 18))]) dX1_look_17 2 rfl rfl (by decide) rfl ?_
    refine rv_goto (tgt := 2) dX1_look_20 (by decide) ?_
    refine rv_sub [1, 2, 0] rfl ?_
    exact hk2 h
theorem vh_X1_look_18_2 {l : Launch} {D : va_G} {ta : Nat → ClassId} {ad : Nat → Nat} {n : Nat} {μ : Mem} {x2 : Int32} {r : (Unit) × Mem} (h : rv_loop (B_X1_look_2 18) (fun _ _ => none) n μ x2 = some r) : rv_V l D (rv_T ta) RX1 cX1_look 3 none ("", []) (rv_rm 4 0 0) (rv_M D (rv_F (rv_vU r.1) (wx ta ad r.2)) 0 0) 0 0 (wx ta ad μ) 2 [(0, .ref (ad 12)), (1, .ref (ad 18)), (2, .int x2)] [] := by
  induction n generalizing μ x2 r with
  | zero => cases h
  | succ n ih => exact vB_X1_look_18_2 (fun h9 => ih h9) h
theorem ct_X1_look_18 {l : Launch} {D : va_G} {ta : Nat → ClassId} {ad : Nat → Nat} {μ : Mem} {r : (Unit) × Mem} (h : f_X1_look 18 μ = some r) : rv_C l D (rv_T ta) yX1_look cX1_look 3 none 4 0 0 [.ref (ad 12), .ref (ad 18)] (wx ta ad μ) (rv_F (rv_vU r.1) (wx ta ad r.2)) := by
  refine rv_Cof2 (own := RX1) (lv := [(0, .ref (ad 12)), (1, .ref (ad 18))]) rfl (by decide) (rv_le rfl) rfl ?_
  unfold f_X1_look at h
  refine rv_iconst (v := 0) dX1_look_0 (by decide) ?_
  refine rv_istore_n (lv2 := [(2, .int 0), (0, .ref (ad 12)), (1, .ref (ad 18))]) dX1_look_1 rfl (by decide) rfl ?_
  refine rv_sub [1, 2, 0] rfl ?_
  exact vh_X1_look_18_2 h
theorem ct_X2_daysOf_13 {l : Launch} {D : va_G} {ta : Nat → ClassId} {ad : Nat → Nat} {μ : Mem} {x1 : Int32} {x2 : Int32} {r : Int32} (h : f_X2_daysOf 13 μ x1 x2 = some r) : rv_C l D (rv_T ta) yX2_daysOf cX2_daysOf 3 (some .int) 1 0 0 [.ref (ad 13), .int x1, .int x2] (wx ta ad μ) (rv_F (rv_vI r) (wx ta ad μ)) := by
  refine rv_Cof2 (own := RX2) (lv := [(0, .ref (ad 13)), (1, .int x1), (2, .int x2)]) rfl (by decide) (rv_le rfl) rfl ?_
  unfold f_X2_daysOf at h
  refine rv_iload_n dX2_daysOf_0 rfl 2 rfl ?_
  refine rv_if_lt (tgt := 28) dX2_daysOf_1 (by decide) (fun hc1 => ?_) (fun hc1 => ?_)
  · replace h := rv_ift hc1 h
    refine rv_iconst (v := 0) dX2_daysOf_28 (by decide) ?_
    obtain rfl := Option.some.inj h
    exact rv_iret rfl dX2_daysOf_29 (rv_le rfl) (rv_le rfl) ⟨rfl, rfl⟩
  · replace h := rv_iff hc1 h
    refine rv_iload_n dX2_daysOf_4 rfl 2 rfl ?_
    refine rv_iconst (v := 4) dX2_daysOf_5 (by decide) ?_
    refine rv_icmp_ge (tgt := 28) dX2_daysOf_6 (by decide) (fun hc2 => ?_) (fun hc2 => ?_)
    · replace h := rv_ift hc2 h
      refine rv_iconst (v := 0) dX2_daysOf_28 (by decide) ?_
      obtain rfl := Option.some.inj h
      exact rv_iret rfl dX2_daysOf_29 (rv_le rfl) (rv_le rfl) ⟨rfl, rfl⟩
    · replace h := rv_iff hc2 h
      refine rv_aload_n dX2_daysOf_9 rfl 0 rfl ?_
      refine gf_X2_9 dX2_daysOf_10 13 (wx_13 ta ad μ) rfl ?_
      refine rv_iload_n dX2_daysOf_13 rfl 2 rfl ?_
      obtain ⟨hi3, h⟩ := rv_ifn h
      refine rv_lald dX2_daysOf_14 2 rfl 14 (wx_14 ta ad μ) (rv_inP hi3) ?_
      refine rv_iload_n dX2_daysOf_15 rfl 1 rfl ?_
      refine rv_bipush (v := 8) dX2_daysOf_16 (by decide) ?_
      refine rv_imul dX2_daysOf_18 ?_
      refine rv_lushr dX2_daysOf_19 rfl ?_
      refine rv_l2i dX2_daysOf_20 rfl ?_
      refine rv_sipush (v := 255) dX2_daysOf_21 (by decide) ?_
      refine rv_iand dX2_daysOf_24 ?_
      refine rv_goto (tgt := 29) dX2_daysOf_25 (by decide) ?_
      obtain rfl := Option.some.inj h
      exact rv_iret rfl dX2_daysOf_29 (rv_le rfl) (rv_le rfl) ⟨rfl, rfl⟩
theorem ct_X2_daysOf_15 {l : Launch} {D : va_G} {ta : Nat → ClassId} {ad : Nat → Nat} {μ : Mem} {x1 : Int32} {x2 : Int32} {r : Int32} (h : f_X2_daysOf 15 μ x1 x2 = some r) : rv_C l D (rv_T ta) yX2_daysOf cX2_daysOf 3 (some .int) 1 0 0 [.ref (ad 15), .int x1, .int x2] (wx ta ad μ) (rv_F (rv_vI r) (wx ta ad μ)) := by
  refine rv_Cof2 (own := RX2) (lv := [(0, .ref (ad 15)), (1, .int x1), (2, .int x2)]) rfl (by decide) (rv_le rfl) rfl ?_
  unfold f_X2_daysOf at h
  refine rv_iload_n dX2_daysOf_0 rfl 2 rfl ?_
  refine rv_if_lt (tgt := 28) dX2_daysOf_1 (by decide) (fun hc1 => ?_) (fun hc1 => ?_)
  · replace h := rv_ift hc1 h
    refine rv_iconst (v := 0) dX2_daysOf_28 (by decide) ?_
    obtain rfl := Option.some.inj h
    exact rv_iret rfl dX2_daysOf_29 (rv_le rfl) (rv_le rfl) ⟨rfl, rfl⟩
  · replace h := rv_iff hc1 h
    refine rv_iload_n dX2_daysOf_4 rfl 2 rfl ?_
    refine rv_iconst (v := 4) dX2_daysOf_5 (by decide) ?_
    refine rv_icmp_ge (tgt := 28) dX2_daysOf_6 (by decide) (fun hc2 => ?_) (fun hc2 => ?_)
    · replace h := rv_ift hc2 h
      refine rv_iconst (v := 0) dX2_daysOf_28 (by decide) ?_
      obtain rfl := Option.some.inj h
      exact rv_iret rfl dX2_daysOf_29 (rv_le rfl) (rv_le rfl) ⟨rfl, rfl⟩
    · replace h := rv_iff hc2 h
      refine rv_aload_n dX2_daysOf_9 rfl 0 rfl ?_
      refine gf_X2_9 dX2_daysOf_10 15 (wx_15 ta ad μ) rfl ?_
      refine rv_iload_n dX2_daysOf_13 rfl 2 rfl ?_
      obtain ⟨hi3, h⟩ := rv_ifn h
      refine rv_lald dX2_daysOf_14 2 rfl 16 (wx_16 ta ad μ) (rv_inP hi3) ?_
      refine rv_iload_n dX2_daysOf_15 rfl 1 rfl ?_
      refine rv_bipush (v := 8) dX2_daysOf_16 (by decide) ?_
      refine rv_imul dX2_daysOf_18 ?_
      refine rv_lushr dX2_daysOf_19 rfl ?_
      refine rv_l2i dX2_daysOf_20 rfl ?_
      refine rv_sipush (v := 255) dX2_daysOf_21 (by decide) ?_
      refine rv_iand dX2_daysOf_24 ?_
      refine rv_goto (tgt := 29) dX2_daysOf_25 (by decide) ?_
      obtain rfl := Option.some.inj h
      exact rv_iret rfl dX2_daysOf_29 (rv_le rfl) (rv_le rfl) ⟨rfl, rfl⟩
theorem ct_X2_daysOf_18 {l : Launch} {D : va_G} {ta : Nat → ClassId} {ad : Nat → Nat} {μ : Mem} {x1 : Int32} {x2 : Int32} {r : Int32} (h : f_X2_daysOf 18 μ x1 x2 = some r) : rv_C l D (rv_T ta) yX2_daysOf cX2_daysOf 3 (some .int) 1 0 0 [.ref (ad 18), .int x1, .int x2] (wx ta ad μ) (rv_F (rv_vI r) (wx ta ad μ)) := by
  refine rv_Cof2 (own := RX2) (lv := [(0, .ref (ad 18)), (1, .int x1), (2, .int x2)]) rfl (by decide) (rv_le rfl) rfl ?_
  unfold f_X2_daysOf at h
  refine rv_iload_n dX2_daysOf_0 rfl 2 rfl ?_
  refine rv_if_lt (tgt := 28) dX2_daysOf_1 (by decide) (fun hc1 => ?_) (fun hc1 => ?_)
  · replace h := rv_ift hc1 h
    refine rv_iconst (v := 0) dX2_daysOf_28 (by decide) ?_
    obtain rfl := Option.some.inj h
    exact rv_iret rfl dX2_daysOf_29 (rv_le rfl) (rv_le rfl) ⟨rfl, rfl⟩
  · replace h := rv_iff hc1 h
    refine rv_iload_n dX2_daysOf_4 rfl 2 rfl ?_
    refine rv_iconst (v := 4) dX2_daysOf_5 (by decide) ?_
    refine rv_icmp_ge (tgt := 28) dX2_daysOf_6 (by decide) (fun hc2 => ?_) (fun hc2 => ?_)
    · replace h := rv_ift hc2 h
      refine rv_iconst (v := 0) dX2_daysOf_28 (by decide) ?_
      obtain rfl := Option.some.inj h
      exact rv_iret rfl dX2_daysOf_29 (rv_le rfl) (rv_le rfl) ⟨rfl, rfl⟩
    · replace h := rv_iff hc2 h
      refine rv_aload_n dX2_daysOf_9 rfl 0 rfl ?_
      refine gf_X2_9 dX2_daysOf_10 18 (wx_18 ta ad μ) rfl ?_
      refine rv_iload_n dX2_daysOf_13 rfl 2 rfl ?_
      obtain ⟨hi3, h⟩ := rv_ifn h
      refine rv_lald dX2_daysOf_14 2 rfl 19 (wx_19 ta ad μ) (rv_inP hi3) ?_
      refine rv_iload_n dX2_daysOf_15 rfl 1 rfl ?_
      refine rv_bipush (v := 8) dX2_daysOf_16 (by decide) ?_
      refine rv_imul dX2_daysOf_18 ?_
      refine rv_lushr dX2_daysOf_19 rfl ?_
      refine rv_l2i dX2_daysOf_20 rfl ?_
      refine rv_sipush (v := 255) dX2_daysOf_21 (by decide) ?_
      refine rv_iand dX2_daysOf_24 ?_
      refine rv_goto (tgt := 29) dX2_daysOf_25 (by decide) ?_
      obtain rfl := Option.some.inj h
      exact rv_iret rfl dX2_daysOf_29 (rv_le rfl) (rv_le rfl) ⟨rfl, rfl⟩
theorem vb_J6_bitCount_0f7a4_41 {l : Launch} {D : va_G} {ta : Nat → ClassId} {ws : va_W} {x0 : Int32} {r : Int32} (h : b_J6_bitCount_0f7a4_41 x0 = some r) : rv_V l D (rv_T ta) RJ6 cJ6_bitCount_0f7a4 1 (some .int) ("", []) (rv_rm 1 0 0) (rv_M D (rv_F (rv_vI r) ws) 0 0) 0 0 ws 41 [(0, .int x0)] [] := by
  unfold b_J6_bitCount_0f7a4_41 at h
  refine rv_iload_n dJ6_bitCount_0f7a4_41 rfl 0 rfl ?_
  refine rv_iload_n dJ6_bitCount_0f7a4_42 rfl 0 rfl ?_
  refine rv_bipush (v := 16) dJ6_bitCount_0f7a4_43 (by decide) ?_
  refine rv_iushr dJ6_bitCount_0f7a4_45 rfl ?_
  refine rv_iadd dJ6_bitCount_0f7a4_46 ?_
  refine rv_istore_n (lv2 := [(0, .int (x0 + ((x0.toUInt32 >>> (Int32.toUInt32 16 &&& Int32.toUInt32 31)).toInt32)))]) dJ6_bitCount_0f7a4_47 rfl (by decide) rfl ?_
  refine rv_iload_n dJ6_bitCount_0f7a4_48 rfl 0 rfl ?_
  refine rv_bipush (v := 63) dJ6_bitCount_0f7a4_49 (by decide) ?_
  refine rv_iand dJ6_bitCount_0f7a4_51 ?_
  obtain rfl := Option.some.inj h
  exact rv_iret rfl dJ6_bitCount_0f7a4_52 (rv_le rfl) (rv_le rfl) ⟨rfl, rfl⟩
theorem vb_J6_bitCount_0f7a4_24 {l : Launch} {D : va_G} {ta : Nat → ClassId} {ws : va_W} {x0 : Int32} {r : Int32} (h : b_J6_bitCount_0f7a4_24 x0 = some r) : rv_V l D (rv_T ta) RJ6 cJ6_bitCount_0f7a4 1 (some .int) ("", []) (rv_rm 1 0 0) (rv_M D (rv_F (rv_vI r) ws) 0 0) 0 0 ws 24 [(0, .int x0)] [] := by
  unfold b_J6_bitCount_0f7a4_24 at h
  refine rv_iload_n dJ6_bitCount_0f7a4_24 rfl 0 rfl ?_
  refine rv_iload_n dJ6_bitCount_0f7a4_25 rfl 0 rfl ?_
  refine rv_iconst (v := 4) dJ6_bitCount_0f7a4_26 (by decide) ?_
  refine rv_iushr dJ6_bitCount_0f7a4_27 rfl ?_
  refine rv_iadd dJ6_bitCount_0f7a4_28 ?_
  refine rv_ldc_w wk_J6_267 dJ6_bitCount_0f7a4_29 ?_
  refine rv_iand dJ6_bitCount_0f7a4_32 ?_
  refine rv_istore_n (lv2 := [(0, .int ((x0 + ((x0.toUInt32 >>> (Int32.toUInt32 4 &&& Int32.toUInt32 31)).toInt32)) &&& 252645135))]) dJ6_bitCount_0f7a4_33 rfl (by decide) rfl ?_
  refine rv_iload_n dJ6_bitCount_0f7a4_34 rfl 0 rfl ?_
  refine rv_iload_n dJ6_bitCount_0f7a4_35 rfl 0 rfl ?_
  refine rv_bipush (v := 8) dJ6_bitCount_0f7a4_36 (by decide) ?_
  refine rv_iushr dJ6_bitCount_0f7a4_38 rfl ?_
  refine rv_iadd dJ6_bitCount_0f7a4_39 ?_
  refine rv_istore_n (lv2 := [(0, .int (((x0 + ((x0.toUInt32 >>> (Int32.toUInt32 4 &&& Int32.toUInt32 31)).toInt32)) &&& 252645135) + ((((x0 + ((x0.toUInt32 >>> (Int32.toUInt32 4 &&& Int32.toUInt32 31)).toInt32)) &&& 252645135).toUInt32 >>> (Int32.toUInt32 8 &&& Int32.toUInt32 31)).toInt32)))]) dJ6_bitCount_0f7a4_40 rfl (by decide) rfl ?_
  exact vb_J6_bitCount_0f7a4_41 h
theorem ct_J6_bitCount_0f7a4 {l : Launch} {D : va_G} {ta : Nat → ClassId} {ws : va_W} {x0 : Int32} {r : Int32} (h : f_J6_bitCount_0f7a4 x0 = some r) : rv_C l D (rv_T ta) yJ6_bitCount_0f7a4 cJ6_bitCount_0f7a4 1 (some .int) 1 0 0 [.int x0] ws (rv_F (rv_vI r) ws) := by
  refine rv_Cof2 (own := RJ6) (lv := [(0, .int x0)]) rfl (by decide) (rv_le rfl) rfl ?_
  unfold f_J6_bitCount_0f7a4 at h
  refine rv_iload_n dJ6_bitCount_0f7a4_0 rfl 0 rfl ?_
  refine rv_iload_n dJ6_bitCount_0f7a4_1 rfl 0 rfl ?_
  refine rv_iconst (v := 1) dJ6_bitCount_0f7a4_2 (by decide) ?_
  refine rv_iushr dJ6_bitCount_0f7a4_3 rfl ?_
  refine rv_ldc_w wk_J6_265 dJ6_bitCount_0f7a4_4 ?_
  refine rv_iand dJ6_bitCount_0f7a4_7 ?_
  refine rv_isub dJ6_bitCount_0f7a4_8 ?_
  refine rv_istore_n (lv2 := [(0, .int (x0 - (((x0.toUInt32 >>> (Int32.toUInt32 1 &&& Int32.toUInt32 31)).toInt32) &&& 1431655765)))]) dJ6_bitCount_0f7a4_9 rfl (by decide) rfl ?_
  refine rv_iload_n dJ6_bitCount_0f7a4_10 rfl 0 rfl ?_
  refine rv_ldc_w wk_J6_266 dJ6_bitCount_0f7a4_11 ?_
  refine rv_iand dJ6_bitCount_0f7a4_14 ?_
  refine rv_iload_n dJ6_bitCount_0f7a4_15 rfl 0 rfl ?_
  refine rv_iconst (v := 2) dJ6_bitCount_0f7a4_16 (by decide) ?_
  refine rv_iushr dJ6_bitCount_0f7a4_17 rfl ?_
  refine rv_ldc_w wk_J6_266 dJ6_bitCount_0f7a4_18 ?_
  refine rv_iand dJ6_bitCount_0f7a4_21 ?_
  refine rv_iadd dJ6_bitCount_0f7a4_22 ?_
  refine rv_istore_n (lv2 := [(0, .int (((x0 - (((x0.toUInt32 >>> (Int32.toUInt32 1 &&& Int32.toUInt32 31)).toInt32) &&& 1431655765)) &&& 858993459) + ((((x0 - (((x0.toUInt32 >>> (Int32.toUInt32 1 &&& Int32.toUInt32 31)).toInt32) &&& 1431655765)).toUInt32 >>> (Int32.toUInt32 2 &&& Int32.toUInt32 31)).toInt32) &&& 858993459)))]) dJ6_bitCount_0f7a4_23 rfl (by decide) rfl ?_
  exact vb_J6_bitCount_0f7a4_24 h
theorem vb_J13_bitCount_95d88_55 {l : Launch} {D : va_G} {ta : Nat → ClassId} {ws : va_W} {x0 : Int64} {r : Int32} (h : b_J13_bitCount_95d88_55 x0 = some r) : rv_V l D (rv_T ta) RJ13 cJ13_bitCount_95d88 2 (some .int) ("", []) (rv_rm 1 0 0) (rv_M D (rv_F (rv_vI r) ws) 0 0) 0 0 ws 55 [(0, .long x0)] [] := by
  unfold b_J13_bitCount_95d88_55 at h
  refine rv_lload_n dJ13_bitCount_95d88_55 rfl 0 rfl ?_
  refine rv_l2i dJ13_bitCount_95d88_56 rfl ?_
  refine rv_bipush (v := 127) dJ13_bitCount_95d88_57 (by decide) ?_
  refine rv_iand dJ13_bitCount_95d88_59 ?_
  obtain rfl := Option.some.inj h
  exact rv_iret rfl dJ13_bitCount_95d88_60 (rv_le rfl) (rv_le rfl) ⟨rfl, rfl⟩
theorem vb_J13_bitCount_95d88_41 {l : Launch} {D : va_G} {ta : Nat → ClassId} {ws : va_W} {x0 : Int64} {r : Int32} (h : b_J13_bitCount_95d88_41 x0 = some r) : rv_V l D (rv_T ta) RJ13 cJ13_bitCount_95d88 2 (some .int) ("", []) (rv_rm 1 0 0) (rv_M D (rv_F (rv_vI r) ws) 0 0) 0 0 ws 41 [(0, .long x0)] [] := by
  unfold b_J13_bitCount_95d88_41 at h
  refine rv_lload_n dJ13_bitCount_95d88_41 rfl 0 rfl ?_
  refine rv_lload_n dJ13_bitCount_95d88_42 rfl 0 rfl ?_
  refine rv_bipush (v := 16) dJ13_bitCount_95d88_43 (by decide) ?_
  refine rv_lushr dJ13_bitCount_95d88_45 rfl ?_
  refine rv_ladd dJ13_bitCount_95d88_46 ?_
  refine rv_lstore_n (lv2 := [(0, .long (x0 + ((x0.toUInt64 >>> ((Int32.toInt64 16).toUInt64 &&& Int64.toUInt64 63)).toInt64)))]) dJ13_bitCount_95d88_47 rfl (by decide) rfl ?_
  refine rv_lload_n dJ13_bitCount_95d88_48 rfl 0 rfl ?_
  refine rv_lload_n dJ13_bitCount_95d88_49 rfl 0 rfl ?_
  refine rv_bipush (v := 32) dJ13_bitCount_95d88_50 (by decide) ?_
  refine rv_lushr dJ13_bitCount_95d88_52 rfl ?_
  refine rv_ladd dJ13_bitCount_95d88_53 ?_
  refine rv_lstore_n (lv2 := [(0, .long ((x0 + ((x0.toUInt64 >>> ((Int32.toInt64 16).toUInt64 &&& Int64.toUInt64 63)).toInt64)) + (((x0 + ((x0.toUInt64 >>> ((Int32.toInt64 16).toUInt64 &&& Int64.toUInt64 63)).toInt64)).toUInt64 >>> ((Int32.toInt64 32).toUInt64 &&& Int64.toUInt64 63)).toInt64)))]) dJ13_bitCount_95d88_54 rfl (by decide) rfl ?_
  exact vb_J13_bitCount_95d88_55 h
theorem vb_J13_bitCount_95d88_24 {l : Launch} {D : va_G} {ta : Nat → ClassId} {ws : va_W} {x0 : Int64} {r : Int32} (h : b_J13_bitCount_95d88_24 x0 = some r) : rv_V l D (rv_T ta) RJ13 cJ13_bitCount_95d88 2 (some .int) ("", []) (rv_rm 1 0 0) (rv_M D (rv_F (rv_vI r) ws) 0 0) 0 0 ws 24 [(0, .long x0)] [] := by
  unfold b_J13_bitCount_95d88_24 at h
  refine rv_lload_n dJ13_bitCount_95d88_24 rfl 0 rfl ?_
  refine rv_lload_n dJ13_bitCount_95d88_25 rfl 0 rfl ?_
  refine rv_iconst (v := 4) dJ13_bitCount_95d88_26 (by decide) ?_
  refine rv_lushr dJ13_bitCount_95d88_27 rfl ?_
  refine rv_ladd dJ13_bitCount_95d88_28 ?_
  refine rv_ldc2 wk_J13_318 dJ13_bitCount_95d88_29 ?_
  refine rv_land dJ13_bitCount_95d88_32 ?_
  refine rv_lstore_n (lv2 := [(0, .long ((x0 + ((x0.toUInt64 >>> ((Int32.toInt64 4).toUInt64 &&& Int64.toUInt64 63)).toInt64)) &&& 1085102592571150095))]) dJ13_bitCount_95d88_33 rfl (by decide) rfl ?_
  refine rv_lload_n dJ13_bitCount_95d88_34 rfl 0 rfl ?_
  refine rv_lload_n dJ13_bitCount_95d88_35 rfl 0 rfl ?_
  refine rv_bipush (v := 8) dJ13_bitCount_95d88_36 (by decide) ?_
  refine rv_lushr dJ13_bitCount_95d88_38 rfl ?_
  refine rv_ladd dJ13_bitCount_95d88_39 ?_
  refine rv_lstore_n (lv2 := [(0, .long (((x0 + ((x0.toUInt64 >>> ((Int32.toInt64 4).toUInt64 &&& Int64.toUInt64 63)).toInt64)) &&& 1085102592571150095) + ((((x0 + ((x0.toUInt64 >>> ((Int32.toInt64 4).toUInt64 &&& Int64.toUInt64 63)).toInt64)) &&& 1085102592571150095).toUInt64 >>> ((Int32.toInt64 8).toUInt64 &&& Int64.toUInt64 63)).toInt64)))]) dJ13_bitCount_95d88_40 rfl (by decide) rfl ?_
  exact vb_J13_bitCount_95d88_41 h
theorem ct_J13_bitCount_95d88 {l : Launch} {D : va_G} {ta : Nat → ClassId} {ws : va_W} {x0 : Int64} {r : Int32} (h : f_J13_bitCount_95d88 x0 = some r) : rv_C l D (rv_T ta) yJ13_bitCount_95d88 cJ13_bitCount_95d88 2 (some .int) 1 0 0 [.long x0] ws (rv_F (rv_vI r) ws) := by
  refine rv_Cof2 (own := RJ13) (lv := [(0, .long x0)]) rfl (by decide) (rv_le rfl) rfl ?_
  unfold f_J13_bitCount_95d88 at h
  refine rv_lload_n dJ13_bitCount_95d88_0 rfl 0 rfl ?_
  refine rv_lload_n dJ13_bitCount_95d88_1 rfl 0 rfl ?_
  refine rv_iconst (v := 1) dJ13_bitCount_95d88_2 (by decide) ?_
  refine rv_lushr dJ13_bitCount_95d88_3 rfl ?_
  refine rv_ldc2 wk_J13_314 dJ13_bitCount_95d88_4 ?_
  refine rv_land dJ13_bitCount_95d88_7 ?_
  refine rv_lsub dJ13_bitCount_95d88_8 ?_
  refine rv_lstore_n (lv2 := [(0, .long (x0 - (((x0.toUInt64 >>> ((Int32.toInt64 1).toUInt64 &&& Int64.toUInt64 63)).toInt64) &&& 6148914691236517205)))]) dJ13_bitCount_95d88_9 rfl (by decide) rfl ?_
  refine rv_lload_n dJ13_bitCount_95d88_10 rfl 0 rfl ?_
  refine rv_ldc2 wk_J13_316 dJ13_bitCount_95d88_11 ?_
  refine rv_land dJ13_bitCount_95d88_14 ?_
  refine rv_lload_n dJ13_bitCount_95d88_15 rfl 0 rfl ?_
  refine rv_iconst (v := 2) dJ13_bitCount_95d88_16 (by decide) ?_
  refine rv_lushr dJ13_bitCount_95d88_17 rfl ?_
  refine rv_ldc2 wk_J13_316 dJ13_bitCount_95d88_18 ?_
  refine rv_land dJ13_bitCount_95d88_21 ?_
  refine rv_ladd dJ13_bitCount_95d88_22 ?_
  refine rv_lstore_n (lv2 := [(0, .long (((x0 - (((x0.toUInt64 >>> ((Int32.toInt64 1).toUInt64 &&& Int64.toUInt64 63)).toInt64) &&& 6148914691236517205)) &&& 3689348814741910323) + ((((x0 - (((x0.toUInt64 >>> ((Int32.toInt64 1).toUInt64 &&& Int64.toUInt64 63)).toInt64) &&& 6148914691236517205)).toUInt64 >>> ((Int32.toInt64 2).toUInt64 &&& Int64.toUInt64 63)).toInt64) &&& 3689348814741910323)))]) dJ13_bitCount_95d88_23 rfl (by decide) rfl ?_
  exact vb_J13_bitCount_95d88_24 h
theorem vB_X2_size_13_10 {l : Launch} {D : va_G} {ta : Nat → ClassId} {ad : Nat → Nat} {μ : Mem} {k10 : Int32 → Int32 → Option (Int32)} (hk10 : ∀ {x1 : Int32} {x2 : Int32} {r : Int32}, k10 x1 x2 = some r → rv_V l D (rv_T ta) RX2 cX2_size 3 (some .int) ("", []) (rv_rm 2 0 0) (rv_M D (rv_F (rv_vI r) (wx ta ad μ)) 0 0) 0 0 (wx ta ad μ) 10 [(0, .ref (ad 13)), (1, .int x1), (2, .int x2)] []) {x1 : Int32} {x2 : Int32} {r : Int32} (h : B_X2_size_10 13 μ k10 x1 x2 = some r) : rv_V l D (rv_T ta) RX2 cX2_size 3 (some .int) ("", []) (rv_rm 2 0 0) (rv_M D (rv_F (rv_vI r) (wx ta ad μ)) 0 0) 0 0 (wx ta ad μ) 10 [(0, .ref (ad 13)), (1, .int x1), (2, .int x2)] [] := by
  unfold B_X2_size_10 at h
  refine rv_iload_n dX2_size_10 rfl 2 rfl ?_
  refine rv_iconst (v := 4) dX2_size_11 (by decide) ?_
  refine rv_icmp_ge (tgt := 33) dX2_size_12 (by decide) (fun hc2 => ?_) (fun hc2 => ?_)
  · replace h := rv_ift hc2 h
    refine rv_iload_n dX2_size_33 rfl 1 rfl ?_
    obtain rfl := Option.some.inj h
    exact rv_iret rfl dX2_size_34 (rv_le rfl) (rv_le rfl) ⟨rfl, rfl⟩
  · replace h := rv_iff hc2 h
    refine rv_iload_n dX2_size_15 rfl 1 rfl ?_
    refine rv_aload_n dX2_size_16 rfl 0 rfl ?_
    refine gf_X2_9 dX2_size_17 13 (wx_13 ta ad μ) rfl ?_
    refine rv_iload_n dX2_size_20 rfl 2 rfl ?_
    obtain ⟨hi3, h⟩ := rv_ifn h
    refine rv_lald dX2_size_21 2 rfl 14 (wx_14 ta ad μ) (rv_inP hi3) ?_
    obtain ⟨r4, hr4, h⟩ := rv_bind h
    refine rv_callS1 (rest := [.int x1]) (ct_J13_bitCount_95d88 hr4) wm_X2_29 ws_J13_bitCount_95d88 wc_J13_bitCount_95d88 wz_J13 np_J13_bitCount_95d88 dX2_size_22 rfl ⟨rv_le rfl, rv_le rfl⟩ ⟨rv_le rfl, rv_le rfl⟩ (rv_le rfl) ?_
    refine rv_iadd dX2_size_25 ?_
    refine rv_istore_n (lv2 := [(1, .int (x1 + r4)), (0, .ref (ad 13)), (2, .int x2)]) dX2_size_26 rfl (by decide) rfl ?_
    refine rv_iinc (v := (x2 + 1)) (lv2 := [(2, .int (x2 + 1)), (1, .int (x1 + r4)), (0, .ref (ad 13))]) dX2_size_27 2 rfl rfl (by decide) rfl ?_
    refine rv_goto (tgt := 10) dX2_size_30 (by decide) ?_
    refine rv_sub [2, 1, 0] rfl ?_
    exact hk10 h
theorem vh_X2_size_13_10 {l : Launch} {D : va_G} {ta : Nat → ClassId} {ad : Nat → Nat} {μ : Mem} {n : Nat} {x1 : Int32} {x2 : Int32} {r : Int32} (h : rv_loop (B_X2_size_10 13 μ) (fun _ _ => none) n x1 x2 = some r) : rv_V l D (rv_T ta) RX2 cX2_size 3 (some .int) ("", []) (rv_rm 2 0 0) (rv_M D (rv_F (rv_vI r) (wx ta ad μ)) 0 0) 0 0 (wx ta ad μ) 10 [(0, .ref (ad 13)), (1, .int x1), (2, .int x2)] [] := by
  induction n generalizing x1 x2 r with
  | zero => cases h
  | succ n ih => exact vB_X2_size_13_10 (fun h9 => ih h9) h
theorem ct_X2_size_13 {l : Launch} {D : va_G} {ta : Nat → ClassId} {ad : Nat → Nat} {μ : Mem} {r : Int32} (h : f_X2_size 13 μ = some r) : rv_C l D (rv_T ta) yX2_size cX2_size 3 (some .int) 2 0 0 [.ref (ad 13)] (wx ta ad μ) (rv_F (rv_vI r) (wx ta ad μ)) := by
  refine rv_Cof2 (own := RX2) (lv := [(0, .ref (ad 13))]) rfl (by decide) (rv_le rfl) rfl ?_
  unfold f_X2_size at h
  refine rv_aload_n dX2_size_0 rfl 0 rfl ?_
  refine gf_X2_15 dX2_size_1 13 (wx_13 ta ad μ) rfl ?_
  obtain ⟨r1, hr1, h⟩ := rv_bind h
  refine rv_callS1 (rest := []) (ct_J6_bitCount_0f7a4 hr1) wm_X2_23 ws_J6_bitCount_0f7a4 wc_J6_bitCount_0f7a4 wz_J6 np_J6_bitCount_0f7a4 dX2_size_4 rfl ⟨rv_le rfl, rv_le rfl⟩ ⟨rv_le rfl, rv_le rfl⟩ (rv_le rfl) ?_
  refine rv_istore_n (lv2 := [(1, .int r1), (0, .ref (ad 13))]) dX2_size_7 rfl (by decide) rfl ?_
  refine rv_iconst (v := 0) dX2_size_8 (by decide) ?_
  refine rv_istore_n (lv2 := [(2, .int 0), (1, .int r1), (0, .ref (ad 13))]) dX2_size_9 rfl (by decide) rfl ?_
  refine rv_sub [2, 1, 0] rfl ?_
  exact vh_X2_size_13_10 h
theorem vB_X2_size_15_10 {l : Launch} {D : va_G} {ta : Nat → ClassId} {ad : Nat → Nat} {μ : Mem} {k10 : Int32 → Int32 → Option (Int32)} (hk10 : ∀ {x1 : Int32} {x2 : Int32} {r : Int32}, k10 x1 x2 = some r → rv_V l D (rv_T ta) RX2 cX2_size 3 (some .int) ("", []) (rv_rm 2 0 0) (rv_M D (rv_F (rv_vI r) (wx ta ad μ)) 0 0) 0 0 (wx ta ad μ) 10 [(0, .ref (ad 15)), (1, .int x1), (2, .int x2)] []) {x1 : Int32} {x2 : Int32} {r : Int32} (h : B_X2_size_10 15 μ k10 x1 x2 = some r) : rv_V l D (rv_T ta) RX2 cX2_size 3 (some .int) ("", []) (rv_rm 2 0 0) (rv_M D (rv_F (rv_vI r) (wx ta ad μ)) 0 0) 0 0 (wx ta ad μ) 10 [(0, .ref (ad 15)), (1, .int x1), (2, .int x2)] [] := by
  unfold B_X2_size_10 at h
  refine rv_iload_n dX2_size_10 rfl 2 rfl ?_
  refine rv_iconst (v := 4) dX2_size_11 (by decide) ?_
  refine rv_icmp_ge (tgt := 33) dX2_size_12 (by decide) (fun hc2 => ?_) (fun hc2 => ?_)
  · replace h := rv_ift hc2 h
    refine rv_iload_n dX2_size_33 rfl 1 rfl ?_
    obtain rfl := Option.some.inj h
    exact rv_iret rfl dX2_size_34 (rv_le rfl) (rv_le rfl) ⟨rfl, rfl⟩
  · replace h := rv_iff hc2 h
    refine rv_iload_n dX2_size_15 rfl 1 rfl ?_
    refine rv_aload_n dX2_size_16 rfl 0 rfl ?_
    refine gf_X2_9 dX2_size_17 15 (wx_15 ta ad μ) rfl ?_
    refine rv_iload_n dX2_size_20 rfl 2 rfl ?_
    obtain ⟨hi3, h⟩ := rv_ifn h
    refine rv_lald dX2_size_21 2 rfl 16 (wx_16 ta ad μ) (rv_inP hi3) ?_
    obtain ⟨r4, hr4, h⟩ := rv_bind h
    refine rv_callS1 (rest := [.int x1]) (ct_J13_bitCount_95d88 hr4) wm_X2_29 ws_J13_bitCount_95d88 wc_J13_bitCount_95d88 wz_J13 np_J13_bitCount_95d88 dX2_size_22 rfl ⟨rv_le rfl, rv_le rfl⟩ ⟨rv_le rfl, rv_le rfl⟩ (rv_le rfl) ?_
    refine rv_iadd dX2_size_25 ?_
    refine rv_istore_n (lv2 := [(1, .int (x1 + r4)), (0, .ref (ad 15)), (2, .int x2)]) dX2_size_26 rfl (by decide) rfl ?_
    refine rv_iinc (v := (x2 + 1)) (lv2 := [(2, .int (x2 + 1)), (1, .int (x1 + r4)), (0, .ref (ad 15))]) dX2_size_27 2 rfl rfl (by decide) rfl ?_
    refine rv_goto (tgt := 10) dX2_size_30 (by decide) ?_
    refine rv_sub [2, 1, 0] rfl ?_
    exact hk10 h
theorem vh_X2_size_15_10 {l : Launch} {D : va_G} {ta : Nat → ClassId} {ad : Nat → Nat} {μ : Mem} {n : Nat} {x1 : Int32} {x2 : Int32} {r : Int32} (h : rv_loop (B_X2_size_10 15 μ) (fun _ _ => none) n x1 x2 = some r) : rv_V l D (rv_T ta) RX2 cX2_size 3 (some .int) ("", []) (rv_rm 2 0 0) (rv_M D (rv_F (rv_vI r) (wx ta ad μ)) 0 0) 0 0 (wx ta ad μ) 10 [(0, .ref (ad 15)), (1, .int x1), (2, .int x2)] [] := by
  induction n generalizing x1 x2 r with
  | zero => cases h
  | succ n ih => exact vB_X2_size_15_10 (fun h9 => ih h9) h
theorem ct_X2_size_15 {l : Launch} {D : va_G} {ta : Nat → ClassId} {ad : Nat → Nat} {μ : Mem} {r : Int32} (h : f_X2_size 15 μ = some r) : rv_C l D (rv_T ta) yX2_size cX2_size 3 (some .int) 2 0 0 [.ref (ad 15)] (wx ta ad μ) (rv_F (rv_vI r) (wx ta ad μ)) := by
  refine rv_Cof2 (own := RX2) (lv := [(0, .ref (ad 15))]) rfl (by decide) (rv_le rfl) rfl ?_
  unfold f_X2_size at h
  refine rv_aload_n dX2_size_0 rfl 0 rfl ?_
  refine gf_X2_15 dX2_size_1 15 (wx_15 ta ad μ) rfl ?_
  obtain ⟨r1, hr1, h⟩ := rv_bind h
  refine rv_callS1 (rest := []) (ct_J6_bitCount_0f7a4 hr1) wm_X2_23 ws_J6_bitCount_0f7a4 wc_J6_bitCount_0f7a4 wz_J6 np_J6_bitCount_0f7a4 dX2_size_4 rfl ⟨rv_le rfl, rv_le rfl⟩ ⟨rv_le rfl, rv_le rfl⟩ (rv_le rfl) ?_
  refine rv_istore_n (lv2 := [(1, .int r1), (0, .ref (ad 15))]) dX2_size_7 rfl (by decide) rfl ?_
  refine rv_iconst (v := 0) dX2_size_8 (by decide) ?_
  refine rv_istore_n (lv2 := [(2, .int 0), (1, .int r1), (0, .ref (ad 15))]) dX2_size_9 rfl (by decide) rfl ?_
  refine rv_sub [2, 1, 0] rfl ?_
  exact vh_X2_size_15_10 h
theorem vB_X2_size_18_10 {l : Launch} {D : va_G} {ta : Nat → ClassId} {ad : Nat → Nat} {μ : Mem} {k10 : Int32 → Int32 → Option (Int32)} (hk10 : ∀ {x1 : Int32} {x2 : Int32} {r : Int32}, k10 x1 x2 = some r → rv_V l D (rv_T ta) RX2 cX2_size 3 (some .int) ("", []) (rv_rm 2 0 0) (rv_M D (rv_F (rv_vI r) (wx ta ad μ)) 0 0) 0 0 (wx ta ad μ) 10 [(0, .ref (ad 18)), (1, .int x1), (2, .int x2)] []) {x1 : Int32} {x2 : Int32} {r : Int32} (h : B_X2_size_10 18 μ k10 x1 x2 = some r) : rv_V l D (rv_T ta) RX2 cX2_size 3 (some .int) ("", []) (rv_rm 2 0 0) (rv_M D (rv_F (rv_vI r) (wx ta ad μ)) 0 0) 0 0 (wx ta ad μ) 10 [(0, .ref (ad 18)), (1, .int x1), (2, .int x2)] [] := by
  unfold B_X2_size_10 at h
  refine rv_iload_n dX2_size_10 rfl 2 rfl ?_
  refine rv_iconst (v := 4) dX2_size_11 (by decide) ?_
  refine rv_icmp_ge (tgt := 33) dX2_size_12 (by decide) (fun hc2 => ?_) (fun hc2 => ?_)
  · replace h := rv_ift hc2 h
    refine rv_iload_n dX2_size_33 rfl 1 rfl ?_
    obtain rfl := Option.some.inj h
    exact rv_iret rfl dX2_size_34 (rv_le rfl) (rv_le rfl) ⟨rfl, rfl⟩
  · replace h := rv_iff hc2 h
    refine rv_iload_n dX2_size_15 rfl 1 rfl ?_
    refine rv_aload_n dX2_size_16 rfl 0 rfl ?_
    refine gf_X2_9 dX2_size_17 18 (wx_18 ta ad μ) rfl ?_
    refine rv_iload_n dX2_size_20 rfl 2 rfl ?_
    obtain ⟨hi3, h⟩ := rv_ifn h
    refine rv_lald dX2_size_21 2 rfl 19 (wx_19 ta ad μ) (rv_inP hi3) ?_
    obtain ⟨r4, hr4, h⟩ := rv_bind h
    refine rv_callS1 (rest := [.int x1]) (ct_J13_bitCount_95d88 hr4) wm_X2_29 ws_J13_bitCount_95d88 wc_J13_bitCount_95d88 wz_J13 np_J13_bitCount_95d88 dX2_size_22 rfl ⟨rv_le rfl, rv_le rfl⟩ ⟨rv_le rfl, rv_le rfl⟩ (rv_le rfl) ?_
    refine rv_iadd dX2_size_25 ?_
    refine rv_istore_n (lv2 := [(1, .int (x1 + r4)), (0, .ref (ad 18)), (2, .int x2)]) dX2_size_26 rfl (by decide) rfl ?_
    refine rv_iinc (v := (x2 + 1)) (lv2 := [(2, .int (x2 + 1)), (1, .int (x1 + r4)), (0, .ref (ad 18))]) dX2_size_27 2 rfl rfl (by decide) rfl ?_
    refine rv_goto (tgt := 10) dX2_size_30 (by decide) ?_
    refine rv_sub [2, 1, 0] rfl ?_
    exact hk10 h
theorem vh_X2_size_18_10 {l : Launch} {D : va_G} {ta : Nat → ClassId} {ad : Nat → Nat} {μ : Mem} {n : Nat} {x1 : Int32} {x2 : Int32} {r : Int32} (h : rv_loop (B_X2_size_10 18 μ) (fun _ _ => none) n x1 x2 = some r) : rv_V l D (rv_T ta) RX2 cX2_size 3 (some .int) ("", []) (rv_rm 2 0 0) (rv_M D (rv_F (rv_vI r) (wx ta ad μ)) 0 0) 0 0 (wx ta ad μ) 10 [(0, .ref (ad 18)), (1, .int x1), (2, .int x2)] [] := by
  induction n generalizing x1 x2 r with
  | zero => cases h
  | succ n ih => exact vB_X2_size_18_10 (fun h9 => ih h9) h
theorem ct_X2_size_18 {l : Launch} {D : va_G} {ta : Nat → ClassId} {ad : Nat → Nat} {μ : Mem} {r : Int32} (h : f_X2_size 18 μ = some r) : rv_C l D (rv_T ta) yX2_size cX2_size 3 (some .int) 2 0 0 [.ref (ad 18)] (wx ta ad μ) (rv_F (rv_vI r) (wx ta ad μ)) := by
  refine rv_Cof2 (own := RX2) (lv := [(0, .ref (ad 18))]) rfl (by decide) (rv_le rfl) rfl ?_
  unfold f_X2_size at h
  refine rv_aload_n dX2_size_0 rfl 0 rfl ?_
  refine gf_X2_15 dX2_size_1 18 (wx_18 ta ad μ) rfl ?_
  obtain ⟨r1, hr1, h⟩ := rv_bind h
  refine rv_callS1 (rest := []) (ct_J6_bitCount_0f7a4 hr1) wm_X2_23 ws_J6_bitCount_0f7a4 wc_J6_bitCount_0f7a4 wz_J6 np_J6_bitCount_0f7a4 dX2_size_4 rfl ⟨rv_le rfl, rv_le rfl⟩ ⟨rv_le rfl, rv_le rfl⟩ (rv_le rfl) ?_
  refine rv_istore_n (lv2 := [(1, .int r1), (0, .ref (ad 18))]) dX2_size_7 rfl (by decide) rfl ?_
  refine rv_iconst (v := 0) dX2_size_8 (by decide) ?_
  refine rv_istore_n (lv2 := [(2, .int 0), (1, .int r1), (0, .ref (ad 18))]) dX2_size_9 rfl (by decide) rfl ?_
  refine rv_sub [2, 1, 0] rfl ?_
  exact vh_X2_size_18_10 h
theorem vB_X2_isClearBesides_18_2 {l : Launch} {D : va_G} {ta : Nat → ClassId} {ad : Nat → Nat} {μ : Mem} {x1 : Int32} {x2 : Int32} {k2 : Int32 → Option (Int32)} (hk2 : ∀ {x3 : Int32} {r : Int32}, k2 x3 = some r → rv_V l D (rv_T ta) RX2 cX2_isClearBesides 4 (some .boolean) ("", []) (rv_rm 2 0 0) (rv_M D (rv_F (rv_vI r) (wx ta ad μ)) 0 0) 0 0 (wx ta ad μ) 2 [(0, .ref (ad 18)), (1, .int x1), (2, .int x2), (3, .int x3)] []) {x3 : Int32} {r : Int32} (h : B_X2_isClearBesides_2 18 μ x1 x2 k2 x3 = some r) : rv_V l D (rv_T ta) RX2 cX2_isClearBesides 4 (some .boolean) ("", []) (rv_rm 2 0 0) (rv_M D (rv_F (rv_vI r) (wx ta ad μ)) 0 0) 0 0 (wx ta ad μ) 2 [(0, .ref (ad 18)), (1, .int x1), (2, .int x2), (3, .int x3)] [] := by
  unfold B_X2_isClearBesides_2 at h
  refine rv_iload_n dX2_isClearBesides_2 rfl 3 rfl ?_
  refine rv_iconst (v := 4) dX2_isClearBesides_3 (by decide) ?_
  refine rv_icmp_ge (tgt := 31) dX2_isClearBesides_4 (by decide) (fun hc1 => ?_) (fun hc1 => ?_)
  · replace h := rv_ift hc1 h
    refine rv_aload_n dX2_isClearBesides_31 rfl 0 rfl ?_
    refine gf_X2_15 dX2_isClearBesides_32 18 (wx_18 ta ad μ) rfl ?_
    refine rv_bipush (v := 7) dX2_isClearBesides_35 (by decide) ?_
    refine rv_iload_n dX2_isClearBesides_37 rfl 2 rfl ?_
    refine rv_iconst (v := 0) dX2_isClearBesides_38 (by decide) ?_
    obtain ⟨r2, hr2, h⟩ := rv_bind h
    refine rv_callSN1 (rest := [.int 7, .int (μ.1 18 1)]) (ct_X8_postOf hr2) wm_X2_19 ws_X8_postOf wc_X8_postOf wz_X8 np_X8_postOf dX2_isClearBesides_39 rfl ⟨rv_le rfl, rv_le rfl⟩ ⟨rv_le rfl, rv_le rfl⟩ (rv_le rfl) ?_
    refine rv_ishl dX2_isClearBesides_42 ?_
    refine rv_iconst (v := (-1)) dX2_isClearBesides_43 (by decide) ?_
    refine rv_ixor dX2_isClearBesides_44 ?_
    refine rv_iand dX2_isClearBesides_45 ?_
    refine rv_if_ne (tgt := 53) dX2_isClearBesides_46 (by decide) (fun hc3 => ?_) (fun hc3 => ?_)
    · replace h := rv_iff hc3 h
      refine rv_iconst (v := 0) dX2_isClearBesides_53 (by decide) ?_
      obtain rfl := Option.some.inj h
      exact rv_zret rfl rfl dX2_isClearBesides_54 (rv_le rfl) (rv_le rfl) ⟨rfl, rfl⟩
    · replace h := rv_ift hc3 h
      refine rv_iconst (v := 1) dX2_isClearBesides_49 (by decide) ?_
      refine rv_goto (tgt := 54) dX2_isClearBesides_50 (by decide) ?_
      obtain rfl := Option.some.inj h
      exact rv_zret rfl rfl dX2_isClearBesides_54 (rv_le rfl) (rv_le rfl) ⟨rfl, rfl⟩
  · replace h := rv_iff hc1 h
    refine rv_iload_n dX2_isClearBesides_7 rfl 3 rfl ?_
    refine rv_iload_n dX2_isClearBesides_8 rfl 1 rfl ?_
    refine rv_icmp_eq (tgt := 25) dX2_isClearBesides_9 (by decide) (fun hc4 => ?_) (fun hc4 => ?_)
    · replace h := rv_ift hc4 h
      refine rv_iinc (v := (x3 + 1)) (lv2 := [(3, .int (x3 + 1)), (0, .ref (ad 18)), (1, .int x1), (2, .int x2)]) dX2_isClearBesides_25 3 rfl rfl (by decide) rfl ?_
      refine rv_goto (tgt := 2) dX2_isClearBesides_28 (by decide) ?_
      refine rv_sub [1, 2, 3, 0] rfl ?_
      exact hk2 h
    · replace h := rv_iff hc4 h
      refine rv_aload_n dX2_isClearBesides_12 rfl 0 rfl ?_
      refine gf_X2_9 dX2_isClearBesides_13 18 (wx_18 ta ad μ) rfl ?_
      refine rv_iload_n dX2_isClearBesides_16 rfl 3 rfl ?_
      obtain ⟨hi5, h⟩ := rv_ifn h
      refine rv_lald dX2_isClearBesides_17 2 rfl 19 (wx_19 ta ad μ) (rv_inP hi5) ?_
      refine rv_lconst (v := 0) dX2_isClearBesides_18 (by decide) ?_
      refine rv_lcmp dX2_isClearBesides_19 ?_
      refine rv_if_eq (tgt := 25) dX2_isClearBesides_20 (by decide) (fun hc6 => ?_) (fun hc6 => ?_)
      · replace h := rv_ift hc6 h
        refine rv_iinc (v := (x3 + 1)) (lv2 := [(3, .int (x3 + 1)), (0, .ref (ad 18)), (1, .int x1), (2, .int x2)]) dX2_isClearBesides_25 3 rfl rfl (by decide) rfl ?_
        refine rv_goto (tgt := 2) dX2_isClearBesides_28 (by decide) ?_
        refine rv_sub [1, 2, 3, 0] rfl ?_
        exact hk2 h
      · replace h := rv_iff hc6 h
        refine rv_iconst (v := 0) dX2_isClearBesides_23 (by decide) ?_
        obtain rfl := Option.some.inj h
        exact rv_zret rfl rfl dX2_isClearBesides_24 (rv_le rfl) (rv_le rfl) ⟨rfl, rfl⟩
theorem vh_X2_isClearBesides_18_2 {l : Launch} {D : va_G} {ta : Nat → ClassId} {ad : Nat → Nat} {μ : Mem} {x1 : Int32} {x2 : Int32} {n : Nat} {x3 : Int32} {r : Int32} (h : rv_loop (B_X2_isClearBesides_2 18 μ x1 x2) (fun _ => none) n x3 = some r) : rv_V l D (rv_T ta) RX2 cX2_isClearBesides 4 (some .boolean) ("", []) (rv_rm 2 0 0) (rv_M D (rv_F (rv_vI r) (wx ta ad μ)) 0 0) 0 0 (wx ta ad μ) 2 [(0, .ref (ad 18)), (1, .int x1), (2, .int x2), (3, .int x3)] [] := by
  induction n generalizing x3 r with
  | zero => cases h
  | succ n ih => exact vB_X2_isClearBesides_18_2 (fun h9 => ih h9) h
theorem ct_X2_isClearBesides_18 {l : Launch} {D : va_G} {ta : Nat → ClassId} {ad : Nat → Nat} {μ : Mem} {x1 : Int32} {x2 : Int32} {r : Int32} (h : f_X2_isClearBesides 18 μ x1 x2 = some r) : rv_C l D (rv_T ta) yX2_isClearBesides cX2_isClearBesides 4 (some .boolean) 2 0 0 [.ref (ad 18), .int x1, .int x2] (wx ta ad μ) (rv_F (rv_vI r) (wx ta ad μ)) := by
  refine rv_Cof2 (own := RX2) (lv := [(0, .ref (ad 18)), (1, .int x1), (2, .int x2)]) rfl (by decide) (rv_le rfl) rfl ?_
  unfold f_X2_isClearBesides at h
  refine rv_iconst (v := 0) dX2_isClearBesides_0 (by decide) ?_
  refine rv_istore_n (lv2 := [(3, .int 0), (0, .ref (ad 18)), (1, .int x1), (2, .int x2)]) dX2_isClearBesides_1 rfl (by decide) rfl ?_
  refine rv_sub [1, 2, 3, 0] rfl ?_
  exact vh_X2_isClearBesides_18_2 h
theorem vB_X2_isPartOf_15_13_2 {l : Launch} {D : va_G} {ta : Nat → ClassId} {ad : Nat → Nat} {μ : Mem} {k2 : Int32 → Option (Int32)} (hk2 : ∀ {x2 : Int32} {r : Int32}, k2 x2 = some r → rv_V l D (rv_T ta) RX2 cX2_isPartOf 3 (some .boolean) ("", []) (rv_rm 1 0 0) (rv_M D (rv_F (rv_vI r) (wx ta ad μ)) 0 0) 0 0 (wx ta ad μ) 2 [(0, .ref (ad 15)), (1, .ref (ad 13)), (2, .int x2)] []) {x2 : Int32} {r : Int32} (h : B_X2_isPartOf_2 15 13 μ k2 x2 = some r) : rv_V l D (rv_T ta) RX2 cX2_isPartOf 3 (some .boolean) ("", []) (rv_rm 1 0 0) (rv_M D (rv_F (rv_vI r) (wx ta ad μ)) 0 0) 0 0 (wx ta ad μ) 2 [(0, .ref (ad 15)), (1, .ref (ad 13)), (2, .int x2)] [] := by
  unfold B_X2_isPartOf_2 at h
  refine rv_iload_n dX2_isPartOf_2 rfl 2 rfl ?_
  refine rv_iconst (v := 4) dX2_isPartOf_3 (by decide) ?_
  refine rv_icmp_ge (tgt := 37) dX2_isPartOf_4 (by decide) (fun hc1 => ?_) (fun hc1 => ?_)
  · replace h := rv_ift hc1 h
    refine rv_aload_n dX2_isPartOf_37 rfl 0 rfl ?_
    refine gf_X2_15 dX2_isPartOf_38 15 (wx_15 ta ad μ) rfl ?_
    refine rv_aload_n dX2_isPartOf_41 rfl 1 rfl ?_
    refine gf_X2_15 dX2_isPartOf_42 13 (wx_13 ta ad μ) rfl ?_
    refine rv_iconst (v := (-1)) dX2_isPartOf_45 (by decide) ?_
    refine rv_ixor dX2_isPartOf_46 ?_
    refine rv_iand dX2_isPartOf_47 ?_
    refine rv_if_ne (tgt := 55) dX2_isPartOf_48 (by decide) (fun hc2 => ?_) (fun hc2 => ?_)
    · replace h := rv_iff hc2 h
      refine rv_iconst (v := 0) dX2_isPartOf_55 (by decide) ?_
      obtain rfl := Option.some.inj h
      exact rv_zret rfl rfl dX2_isPartOf_56 (rv_le rfl) (rv_le rfl) ⟨rfl, rfl⟩
    · replace h := rv_ift hc2 h
      refine rv_iconst (v := 1) dX2_isPartOf_51 (by decide) ?_
      refine rv_goto (tgt := 56) dX2_isPartOf_52 (by decide) ?_
      obtain rfl := Option.some.inj h
      exact rv_zret rfl rfl dX2_isPartOf_56 (rv_le rfl) (rv_le rfl) ⟨rfl, rfl⟩
  · replace h := rv_iff hc1 h
    refine rv_aload_n dX2_isPartOf_7 rfl 0 rfl ?_
    refine gf_X2_9 dX2_isPartOf_8 15 (wx_15 ta ad μ) rfl ?_
    refine rv_iload_n dX2_isPartOf_11 rfl 2 rfl ?_
    obtain ⟨hi3, h⟩ := rv_ifn h
    refine rv_lald dX2_isPartOf_12 2 rfl 16 (wx_16 ta ad μ) (rv_inP hi3) ?_
    refine rv_aload_n dX2_isPartOf_13 rfl 1 rfl ?_
    refine gf_X2_9 dX2_isPartOf_14 13 (wx_13 ta ad μ) rfl ?_
    refine rv_iload_n dX2_isPartOf_17 rfl 2 rfl ?_
    obtain ⟨hi4, h⟩ := rv_ifn h
    refine rv_lald dX2_isPartOf_18 2 rfl 14 (wx_14 ta ad μ) (rv_inP hi4) ?_
    refine rv_ldc2 wk_X2_34 dX2_isPartOf_19 ?_
    refine rv_lxor dX2_isPartOf_22 ?_
    refine rv_land dX2_isPartOf_23 ?_
    refine rv_lconst (v := 0) dX2_isPartOf_24 (by decide) ?_
    refine rv_lcmp dX2_isPartOf_25 ?_
    refine rv_if_eq (tgt := 31) dX2_isPartOf_26 (by decide) (fun hc5 => ?_) (fun hc5 => ?_)
    · replace h := rv_ift hc5 h
      refine rv_iinc (v := (x2 + 1)) (lv2 := [(2, .int (x2 + 1)), (0, .ref (ad 15)), (1, .ref (ad 13))]) dX2_isPartOf_31 2 rfl rfl (by decide) rfl ?_
      refine rv_goto (tgt := 2) dX2_isPartOf_34 (by decide) ?_
      refine rv_sub [1, 2, 0] rfl ?_
      exact hk2 h
    · replace h := rv_iff hc5 h
      refine rv_iconst (v := 0) dX2_isPartOf_29 (by decide) ?_
      obtain rfl := Option.some.inj h
      exact rv_zret rfl rfl dX2_isPartOf_30 (rv_le rfl) (rv_le rfl) ⟨rfl, rfl⟩
theorem vh_X2_isPartOf_15_13_2 {l : Launch} {D : va_G} {ta : Nat → ClassId} {ad : Nat → Nat} {μ : Mem} {n : Nat} {x2 : Int32} {r : Int32} (h : rv_loop (B_X2_isPartOf_2 15 13 μ) (fun _ => none) n x2 = some r) : rv_V l D (rv_T ta) RX2 cX2_isPartOf 3 (some .boolean) ("", []) (rv_rm 1 0 0) (rv_M D (rv_F (rv_vI r) (wx ta ad μ)) 0 0) 0 0 (wx ta ad μ) 2 [(0, .ref (ad 15)), (1, .ref (ad 13)), (2, .int x2)] [] := by
  induction n generalizing x2 r with
  | zero => cases h
  | succ n ih => exact vB_X2_isPartOf_15_13_2 (fun h9 => ih h9) h
theorem ct_X2_isPartOf_15_13 {l : Launch} {D : va_G} {ta : Nat → ClassId} {ad : Nat → Nat} {μ : Mem} {r : Int32} (h : f_X2_isPartOf 15 13 μ = some r) : rv_C l D (rv_T ta) yX2_isPartOf cX2_isPartOf 3 (some .boolean) 1 0 0 [.ref (ad 15), .ref (ad 13)] (wx ta ad μ) (rv_F (rv_vI r) (wx ta ad μ)) := by
  refine rv_Cof2 (own := RX2) (lv := [(0, .ref (ad 15)), (1, .ref (ad 13))]) rfl (by decide) (rv_le rfl) rfl ?_
  unfold f_X2_isPartOf at h
  refine rv_iconst (v := 0) dX2_isPartOf_0 (by decide) ?_
  refine rv_istore_n (lv2 := [(2, .int 0), (0, .ref (ad 15)), (1, .ref (ad 13))]) dX2_isPartOf_1 rfl (by decide) rfl ?_
  refine rv_sub [1, 2, 0] rfl ?_
  exact vh_X2_isPartOf_15_13_2 h
theorem vB_X2_placeOfBit_4 {l : Launch} {D : va_G} {ta : Nat → ClassId} {ws : va_W} {x0 : Int32} {k4 : Int32 → Int32 → Option (Int32)} (hk4 : ∀ {x2 : Int32} {x3 : Int32} {r : Int32}, k4 x2 x3 = some r → rv_V l D (rv_T ta) RX2 cX2_placeOfBit 4 (some .int) ("", []) (rv_rm 1 0 0) (rv_M D (rv_F (rv_vI r) ws) 0 0) 0 0 ws 4 [(0, .int x0), (2, .int x2), (3, .int x3)] []) {x2 : Int32} {x3 : Int32} {r : Int32} (h : B_X2_placeOfBit_4 x0 k4 x2 x3 = some r) : rv_V l D (rv_T ta) RX2 cX2_placeOfBit 4 (some .int) ("", []) (rv_rm 1 0 0) (rv_M D (rv_F (rv_vI r) ws) 0 0) 0 0 ws 4 [(0, .int x0), (2, .int x2), (3, .int x3)] [] := by
  unfold B_X2_placeOfBit_4 at h
  refine rv_iload_n dX2_placeOfBit_4 rfl 2 rfl ?_
  refine rv_bipush (v := 24) dX2_placeOfBit_5 (by decide) ?_
  refine rv_icmp_ge (tgt := 34) dX2_placeOfBit_7 (by decide) (fun hc1 => ?_) (fun hc1 => ?_)
  · replace h := rv_ift hc1 h
    refine rv_iconst (v := (-1)) dX2_placeOfBit_34 (by decide) ?_
    obtain rfl := Option.some.inj h
    exact rv_iret rfl dX2_placeOfBit_35 (rv_le rfl) (rv_le rfl) ⟨rfl, rfl⟩
  · replace h := rv_iff hc1 h
    refine rv_iload_n dX2_placeOfBit_10 rfl 0 rfl ?_
    refine rv_iload_n dX2_placeOfBit_11 rfl 2 rfl ?_
    refine rv_iushr dX2_placeOfBit_12 rfl ?_
    refine rv_iconst (v := 1) dX2_placeOfBit_13 (by decide) ?_
    refine rv_iand dX2_placeOfBit_14 ?_
    refine rv_iconst (v := 1) dX2_placeOfBit_15 (by decide) ?_
    refine rv_icmp_ne (tgt := 28) dX2_placeOfBit_16 (by decide) (fun hc2 => ?_) (fun hc2 => ?_)
    · replace h := rv_iff hc2 h
      refine rv_iinc (v := (x3 + 1)) (lv2 := [(3, .int (x3 + 1)), (0, .int x0), (2, .int x2)]) dX2_placeOfBit_28 2 rfl rfl (by decide) rfl ?_
      refine rv_goto (tgt := 4) dX2_placeOfBit_31 (by decide) ?_
      refine rv_sub [1, 2, 0] rfl ?_
      exact hk4 h
    · replace h := rv_ift hc2 h
      refine rv_iload_n dX2_placeOfBit_19 rfl 1 rfl ?_
      refine rv_if_ne (tgt := 25) dX2_placeOfBit_20 (by decide) (fun hc3 => ?_) (fun hc3 => ?_)
      · replace h := rv_iff hc3 h
        refine rv_iinc (v := (x2 + (-1))) (lv2 := [(2, .int (x2 + (-1))), (0, .int x0), (3, .int x3)]) dX2_placeOfBit_25 1 rfl rfl (by decide) rfl ?_
        refine rv_iinc (v := (x3 + 1)) (lv2 := [(3, .int (x3 + 1)), (2, .int (x2 + (-1))), (0, .int x0)]) dX2_placeOfBit_28 2 rfl rfl (by decide) rfl ?_
        refine rv_goto (tgt := 4) dX2_placeOfBit_31 (by decide) ?_
        refine rv_sub [2, 1, 0] rfl ?_
        exact hk4 h
      · replace h := rv_ift hc3 h
        refine rv_iload_n dX2_placeOfBit_23 rfl 2 rfl ?_
        obtain rfl := Option.some.inj h
        exact rv_iret rfl dX2_placeOfBit_24 (rv_le rfl) (rv_le rfl) ⟨rfl, rfl⟩
theorem vh_X2_placeOfBit_4 {l : Launch} {D : va_G} {ta : Nat → ClassId} {ws : va_W} {x0 : Int32} {n : Nat} {x2 : Int32} {x3 : Int32} {r : Int32} (h : rv_loop (B_X2_placeOfBit_4 x0) (fun _ _ => none) n x2 x3 = some r) : rv_V l D (rv_T ta) RX2 cX2_placeOfBit 4 (some .int) ("", []) (rv_rm 1 0 0) (rv_M D (rv_F (rv_vI r) ws) 0 0) 0 0 ws 4 [(0, .int x0), (2, .int x2), (3, .int x3)] [] := by
  induction n generalizing x2 x3 r with
  | zero => cases h
  | succ n ih => exact vB_X2_placeOfBit_4 (fun h9 => ih h9) h
theorem ct_X2_placeOfBit {l : Launch} {D : va_G} {ta : Nat → ClassId} {ws : va_W} {x0 : Int32} {x1 : Int32} {r : Int32} (h : f_X2_placeOfBit x0 x1 = some r) : rv_C l D (rv_T ta) yX2_placeOfBit cX2_placeOfBit 4 (some .int) 1 0 0 [.int x0, .int x1] ws (rv_F (rv_vI r) ws) := by
  refine rv_Cof2 (own := RX2) (lv := [(0, .int x0), (1, .int x1)]) rfl (by decide) (rv_le rfl) rfl ?_
  unfold f_X2_placeOfBit at h
  refine rv_iload_n dX2_placeOfBit_0 rfl 1 rfl ?_
  refine rv_istore_n (lv2 := [(2, .int x1), (0, .int x0), (1, .int x1)]) dX2_placeOfBit_1 rfl (by decide) rfl ?_
  refine rv_iconst (v := 0) dX2_placeOfBit_2 (by decide) ?_
  refine rv_istore_n (lv2 := [(3, .int 0), (2, .int x1), (0, .int x0), (1, .int x1)]) dX2_placeOfBit_3 rfl (by decide) rfl ?_
  refine rv_sub [2, 1, 0] rfl ?_
  exact vh_X2_placeOfBit_4 h
theorem ct_X8_breachOf {l : Launch} {D : va_G} {ta : Nat → ClassId} {ws : va_W} {x0 : Int32} {x1 : Int32} {x2 : Int32} {x3 : Int32} {r : Int32} (h : f_X8_breachOf x0 x1 x2 x3 = some r) : rv_C l D (rv_T ta) yX8_breachOf cX8_breachOf 4 (some .int) 1 0 0 [.int x0, .int x1, .int x2, .int x3] ws (rv_F (rv_vI r) ws) := by
  refine rv_Cof2 (own := RX8) (lv := [(0, .int x0), (1, .int x1), (2, .int x2), (3, .int x3)]) rfl (by decide) (rv_le rfl) rfl ?_
  unfold f_X8_breachOf at h
  refine rv_iload_n dX8_breachOf_0 rfl 0 rfl ?_
  refine rv_iconst (v := 5) dX8_breachOf_1 (by decide) ?_
  refine rv_imul dX8_breachOf_2 ?_
  refine rv_iload_n dX8_breachOf_3 rfl 1 rfl ?_
  refine rv_iadd dX8_breachOf_4 ?_
  refine rv_iconst (v := 1) dX8_breachOf_5 (by decide) ?_
  refine rv_iadd dX8_breachOf_6 ?_
  refine rv_bipush (v := 8) dX8_breachOf_7 (by decide) ?_
  refine rv_imul dX8_breachOf_9 ?_
  refine rv_iload_n dX8_breachOf_10 rfl 2 rfl ?_
  refine rv_iadd dX8_breachOf_11 ?_
  refine rv_iconst (v := 4) dX8_breachOf_12 (by decide) ?_
  refine rv_imul dX8_breachOf_13 ?_
  refine rv_iload_n dX8_breachOf_14 rfl 3 rfl ?_
  refine rv_iadd dX8_breachOf_15 ?_
  refine rv_iconst (v := 1) dX8_breachOf_16 (by decide) ?_
  refine rv_iadd dX8_breachOf_17 ?_
  obtain rfl := Option.some.inj h
  exact rv_iret rfl dX8_breachOf_18 (rv_le rfl) (rv_le rfl) ⟨rfl, rfl⟩
theorem vB_X2_breachAt_13_19 {l : Launch} {D : va_G} {ta : Nat → ClassId} {ad : Nat → Nat} {μ : Mem} {x3 : Int32} {k10 : Int32 → Int32 → Option (Int32)} (hk10 : ∀ {x2 : Int32} {x3 : Int32} {r : Int32}, k10 x2 x3 = some r → rv_V l D (rv_T ta) RX2 cX2_breachAt 6 (some .int) ("", []) (rv_rm 2 0 0) (rv_M D (rv_F (rv_vI r) (wx ta ad μ)) 0 0) 0 0 (wx ta ad μ) 10 [(0, .ref (ad 13)), (2, .int x2), (3, .int x3)] []) {k19 : Int32 → Int32 → Option (Int32)} (hk19 : ∀ {x2 : Int32} {x4 : Int32} {r : Int32}, k19 x2 x4 = some r → rv_V l D (rv_T ta) RX2 cX2_breachAt 6 (some .int) ("", []) (rv_rm 2 0 0) (rv_M D (rv_F (rv_vI r) (wx ta ad μ)) 0 0) 0 0 (wx ta ad μ) 19 [(0, .ref (ad 13)), (2, .int x2), (3, .int x3), (4, .int x4)] []) {x2 : Int32} {x4 : Int32} {r : Int32} (h : B_X2_breachAt_19 13 μ x3 k10 k19 x2 x4 = some r) : rv_V l D (rv_T ta) RX2 cX2_breachAt 6 (some .int) ("", []) (rv_rm 2 0 0) (rv_M D (rv_F (rv_vI r) (wx ta ad μ)) 0 0) 0 0 (wx ta ad μ) 19 [(0, .ref (ad 13)), (2, .int x2), (3, .int x3), (4, .int x4)] [] := by
  unfold B_X2_breachAt_19 at h
  refine rv_iload dX2_breachAt_19 3 rfl ?_
  refine rv_iconst (v := 4) dX2_breachAt_21 (by decide) ?_
  refine rv_icmp_ge (tgt := 71) dX2_breachAt_22 (by decide) (fun hc6 => ?_) (fun hc6 => ?_)
  · replace h := rv_ift hc6 h
    refine rv_iinc (v := (x3 + 1)) (lv2 := [(3, .int (x3 + 1)), (0, .ref (ad 13)), (2, .int x2), (4, .int x4)]) dX2_breachAt_71 2 rfl rfl (by decide) rfl ?_
    refine rv_goto (tgt := 10) dX2_breachAt_74 (by decide) ?_
    refine rv_sub [1, 2, 0] rfl ?_
    exact hk10 h
  · replace h := rv_iff hc6 h
    refine rv_aload_n dX2_breachAt_25 rfl 0 rfl ?_
    refine rv_iload_n dX2_breachAt_26 rfl 2 rfl ?_
    refine rv_iload dX2_breachAt_27 3 rfl ?_
    obtain ⟨r7, hr7, h⟩ := rv_bind h
    refine rv_callV1 (rest := []) (ct_X2_daysOf_13 hr7) wm_X2_36 wi_X2_daysOf wl_X2_daysOf wc_X2_daysOf wz_X2 rfl np_X2_daysOf dX2_breachAt_29 rfl ⟨rv_le rfl, rv_le rfl⟩ ⟨rv_le rfl, rv_le rfl⟩ (rv_le rfl) 13 (wx_13 ta ad μ) cl_X2 ?_
    refine rv_istore (lv2 := [(5, .int r7), (0, .ref (ad 13)), (2, .int x2), (3, .int x3), (4, .int x4)]) dX2_breachAt_32 (by decide) rfl ?_
    refine rv_iload_n dX2_breachAt_34 rfl 2 rfl ?_
    refine rv_iload dX2_breachAt_35 0 rfl ?_
    obtain ⟨r8, hr8, h⟩ := rv_bind h
    refine rv_callS1 (rest := [.int x2]) (ct_J6_bitCount_0f7a4 hr8) wm_X2_23 ws_J6_bitCount_0f7a4 wc_J6_bitCount_0f7a4 wz_J6 np_J6_bitCount_0f7a4 dX2_breachAt_37 rfl ⟨rv_le rfl, rv_le rfl⟩ ⟨rv_le rfl, rv_le rfl⟩ (rv_le rfl) ?_
    refine rv_icmp_ge (tgt := 57) dX2_breachAt_40 (by decide) (fun hc9 => ?_) (fun hc9 => ?_)
    · replace h := rv_ift hc9 h
      refine rv_iload_n dX2_breachAt_57 rfl 2 rfl ?_
      refine rv_iload dX2_breachAt_58 0 rfl ?_
      obtain ⟨r10, hr10, h⟩ := rv_bind h
      refine rv_callS1 (rest := [.int x2]) (ct_J6_bitCount_0f7a4 hr10) wm_X2_23 ws_J6_bitCount_0f7a4 wc_J6_bitCount_0f7a4 wz_J6 np_J6_bitCount_0f7a4 dX2_breachAt_60 rfl ⟨rv_le rfl, rv_le rfl⟩ ⟨rv_le rfl, rv_le rfl⟩ (rv_le rfl) ?_
      refine rv_isub dX2_breachAt_63 ?_
      refine rv_istore_n (lv2 := [(2, .int (x2 - r10)), (5, .int r7), (0, .ref (ad 13)), (3, .int x3), (4, .int x4)]) dX2_breachAt_64 rfl (by decide) rfl ?_
      refine rv_iinc (v := (x4 + 1)) (lv2 := [(4, .int (x4 + 1)), (2, .int (x2 - r10)), (5, .int r7), (0, .ref (ad 13)), (3, .int x3)]) dX2_breachAt_65 4 rfl rfl (by decide) rfl ?_
      refine rv_goto (tgt := 19) dX2_breachAt_68 (by decide) ?_
      refine rv_sub [3, 1, 4, 0] rfl ?_
      exact hk19 h
    · replace h := rv_iff hc9 h
      refine rv_iload_n dX2_breachAt_43 rfl 3 rfl ?_
      refine rv_iload dX2_breachAt_44 4 rfl ?_
      refine rv_iload dX2_breachAt_46 0 rfl ?_
      refine rv_iload_n dX2_breachAt_48 rfl 2 rfl ?_
      obtain ⟨r11, hr11, h⟩ := rv_bind h
      refine rv_callS1 (rest := [.int x4, .int x3]) (ct_X2_placeOfBit hr11) wm_X2_39 ws_X2_placeOfBit wc_X2_placeOfBit wz_X2 np_X2_placeOfBit dX2_breachAt_49 rfl ⟨rv_le rfl, rv_le rfl⟩ ⟨rv_le rfl, rv_le rfl⟩ (rv_le rfl) ?_
      refine rv_iconst (v := (-1)) dX2_breachAt_52 (by decide) ?_
      obtain ⟨r12, hr12, h⟩ := rv_bind h
      refine rv_callSN1 (rest := []) (ct_X8_breachOf hr12) wm_X2_42 ws_X8_breachOf wc_X8_breachOf wz_X8 np_X8_breachOf dX2_breachAt_53 rfl ⟨rv_le rfl, rv_le rfl⟩ ⟨rv_le rfl, rv_le rfl⟩ (rv_le rfl) ?_
      obtain rfl := Option.some.inj h
      exact rv_iret rfl dX2_breachAt_56 (rv_le rfl) (rv_le rfl) ⟨rfl, rfl⟩
theorem vh_X2_breachAt_13_19 {l : Launch} {D : va_G} {ta : Nat → ClassId} {ad : Nat → Nat} {μ : Mem} {x3 : Int32} {k10 : Int32 → Int32 → Option (Int32)} (hk10 : ∀ {x2 : Int32} {x3 : Int32} {r : Int32}, k10 x2 x3 = some r → rv_V l D (rv_T ta) RX2 cX2_breachAt 6 (some .int) ("", []) (rv_rm 2 0 0) (rv_M D (rv_F (rv_vI r) (wx ta ad μ)) 0 0) 0 0 (wx ta ad μ) 10 [(0, .ref (ad 13)), (2, .int x2), (3, .int x3)] []) {n : Nat} {x2 : Int32} {x4 : Int32} {r : Int32} (h : rv_loop (B_X2_breachAt_19 13 μ x3 k10) (fun _ _ => none) n x2 x4 = some r) : rv_V l D (rv_T ta) RX2 cX2_breachAt 6 (some .int) ("", []) (rv_rm 2 0 0) (rv_M D (rv_F (rv_vI r) (wx ta ad μ)) 0 0) 0 0 (wx ta ad μ) 19 [(0, .ref (ad 13)), (2, .int x2), (3, .int x3), (4, .int x4)] [] := by
  induction n generalizing x2 x4 r with
  | zero => cases h
  | succ n ih => exact vB_X2_breachAt_13_19 hk10 (fun h9 => ih h9) h
theorem vB_X2_breachAt_13_10 {l : Launch} {D : va_G} {ta : Nat → ClassId} {ad : Nat → Nat} {μ : Mem} {k10 : Int32 → Int32 → Option (Int32)} (hk10 : ∀ {x2 : Int32} {x3 : Int32} {r : Int32}, k10 x2 x3 = some r → rv_V l D (rv_T ta) RX2 cX2_breachAt 6 (some .int) ("", []) (rv_rm 2 0 0) (rv_M D (rv_F (rv_vI r) (wx ta ad μ)) 0 0) 0 0 (wx ta ad μ) 10 [(0, .ref (ad 13)), (2, .int x2), (3, .int x3)] []) {x2 : Int32} {x3 : Int32} {r : Int32} (h : B_X2_breachAt_10 13 μ k10 x2 x3 = some r) : rv_V l D (rv_T ta) RX2 cX2_breachAt 6 (some .int) ("", []) (rv_rm 2 0 0) (rv_M D (rv_F (rv_vI r) (wx ta ad μ)) 0 0) 0 0 (wx ta ad μ) 10 [(0, .ref (ad 13)), (2, .int x2), (3, .int x3)] [] := by
  unfold B_X2_breachAt_10 at h
  refine rv_iload_n dX2_breachAt_10 rfl 2 rfl ?_
  refine rv_bipush (v := 6) dX2_breachAt_11 (by decide) ?_
  refine rv_icmp_ge (tgt := 77) dX2_breachAt_13 (by decide) (fun hc2 => ?_) (fun hc2 => ?_)
  · replace h := rv_ift hc2 h
    refine rv_aload_n dX2_breachAt_77 rfl 0 rfl ?_
    refine gf_X2_15 dX2_breachAt_78 13 (wx_13 ta ad μ) rfl ?_
    refine rv_iload_n dX2_breachAt_81 rfl 1 rfl ?_
    obtain ⟨r3, hr3, h⟩ := rv_bind h
    refine rv_callS1 (rest := []) (ct_X2_placeOfBit hr3) wm_X2_39 ws_X2_placeOfBit wc_X2_placeOfBit wz_X2 np_X2_placeOfBit dX2_breachAt_82 rfl ⟨rv_le rfl, rv_le rfl⟩ ⟨rv_le rfl, rv_le rfl⟩ (rv_le rfl) ?_
    refine rv_istore_n (lv2 := [(3, .int r3), (0, .ref (ad 13)), (2, .int x2)]) dX2_breachAt_85 rfl (by decide) rfl ?_
    refine rv_iload_n dX2_breachAt_86 rfl 0 rfl ?_
    refine rv_iconst (v := (-1)) dX2_breachAt_87 (by decide) ?_
    refine rv_icmp_ne (tgt := 95) dX2_breachAt_88 (by decide) (fun hc4 => ?_) (fun hc4 => ?_)
    · replace h := rv_iff hc4 h
      refine rv_bipush (v := 6) dX2_breachAt_95 (by decide) ?_
      refine rv_iconst (v := (-1)) dX2_breachAt_97 (by decide) ?_
      refine rv_iload_n dX2_breachAt_98 rfl 0 rfl ?_
      refine rv_iconst (v := 3) dX2_breachAt_99 (by decide) ?_
      refine rv_idiv dX2_breachAt_100 (by decide) ?_
      refine rv_iload_n dX2_breachAt_101 rfl 0 rfl ?_
      refine rv_iconst (v := 3) dX2_breachAt_102 (by decide) ?_
      refine rv_irem dX2_breachAt_103 (by decide) ?_
      obtain ⟨r5, hr5, h⟩ := rv_bind h
      refine rv_callSN1 (rest := []) (ct_X8_breachOf hr5) wm_X2_42 ws_X8_breachOf wc_X8_breachOf wz_X8 np_X8_breachOf dX2_breachAt_104 rfl ⟨rv_le rfl, rv_le rfl⟩ ⟨rv_le rfl, rv_le rfl⟩ (rv_le rfl) ?_
      obtain rfl := Option.some.inj h
      exact rv_iret rfl dX2_breachAt_107 (rv_le rfl) (rv_le rfl) ⟨rfl, rfl⟩
    · replace h := rv_ift hc4 h
      refine rv_iconst (v := (-1)) dX2_breachAt_91 (by decide) ?_
      refine rv_goto (tgt := 107) dX2_breachAt_92 (by decide) ?_
      obtain rfl := Option.some.inj h
      exact rv_iret rfl dX2_breachAt_107 (rv_le rfl) (rv_le rfl) ⟨rfl, rfl⟩
  · replace h := rv_iff hc2 h
    refine rv_iconst (v := 0) dX2_breachAt_16 (by decide) ?_
    refine rv_istore (lv2 := [(4, .int 0), (0, .ref (ad 13)), (2, .int x2), (3, .int x3)]) dX2_breachAt_17 (by decide) rfl ?_
    refine rv_sub [1, 2, 3, 0] rfl ?_
    exact vh_X2_breachAt_13_19 hk10 h
theorem vh_X2_breachAt_13_10 {l : Launch} {D : va_G} {ta : Nat → ClassId} {ad : Nat → Nat} {μ : Mem} {n : Nat} {x2 : Int32} {x3 : Int32} {r : Int32} (h : rv_loop (B_X2_breachAt_10 13 μ) (fun _ _ => none) n x2 x3 = some r) : rv_V l D (rv_T ta) RX2 cX2_breachAt 6 (some .int) ("", []) (rv_rm 2 0 0) (rv_M D (rv_F (rv_vI r) (wx ta ad μ)) 0 0) 0 0 (wx ta ad μ) 10 [(0, .ref (ad 13)), (2, .int x2), (3, .int x3)] [] := by
  induction n generalizing x2 x3 r with
  | zero => cases h
  | succ n ih => exact vB_X2_breachAt_13_10 (fun h9 => ih h9) h
theorem ct_X2_breachAt_13 {l : Launch} {D : va_G} {ta : Nat → ClassId} {ad : Nat → Nat} {μ : Mem} {x1 : Int32} {r : Int32} (h : f_X2_breachAt 13 μ x1 = some r) : rv_C l D (rv_T ta) yX2_breachAt cX2_breachAt 6 (some .int) 2 0 0 [.ref (ad 13), .int x1] (wx ta ad μ) (rv_F (rv_vI r) (wx ta ad μ)) := by
  refine rv_Cof2 (own := RX2) (lv := [(0, .ref (ad 13)), (1, .int x1)]) rfl (by decide) (rv_le rfl) rfl ?_
  unfold f_X2_breachAt at h
  refine rv_iload_n dX2_breachAt_0 rfl 1 rfl ?_
  refine rv_if_ge (tgt := 6) dX2_breachAt_1 (by decide) (fun hc1 => ?_) (fun hc1 => ?_)
  · replace h := rv_ift hc1 h
    refine rv_iload_n dX2_breachAt_6 rfl 1 rfl ?_
    refine rv_istore_n (lv2 := [(2, .int x1), (0, .ref (ad 13)), (1, .int x1)]) dX2_breachAt_7 rfl (by decide) rfl ?_
    refine rv_iconst (v := 0) dX2_breachAt_8 (by decide) ?_
    refine rv_istore_n (lv2 := [(3, .int 0), (2, .int x1), (0, .ref (ad 13)), (1, .int x1)]) dX2_breachAt_9 rfl (by decide) rfl ?_
    refine rv_sub [2, 1, 0] rfl ?_
    exact vh_X2_breachAt_13_10 h
  · replace h := rv_iff hc1 h
    refine rv_iconst (v := (-1)) dX2_breachAt_4 (by decide) ?_
    obtain rfl := Option.some.inj h
    exact rv_iret rfl dX2_breachAt_5 (rv_le rfl) (rv_le rfl) ⟨rfl, rfl⟩
theorem vB_X2_breachAt_18_19 {l : Launch} {D : va_G} {ta : Nat → ClassId} {ad : Nat → Nat} {μ : Mem} {x3 : Int32} {k10 : Int32 → Int32 → Option (Int32)} (hk10 : ∀ {x2 : Int32} {x3 : Int32} {r : Int32}, k10 x2 x3 = some r → rv_V l D (rv_T ta) RX2 cX2_breachAt 6 (some .int) ("", []) (rv_rm 2 0 0) (rv_M D (rv_F (rv_vI r) (wx ta ad μ)) 0 0) 0 0 (wx ta ad μ) 10 [(0, .ref (ad 18)), (2, .int x2), (3, .int x3)] []) {k19 : Int32 → Int32 → Option (Int32)} (hk19 : ∀ {x2 : Int32} {x4 : Int32} {r : Int32}, k19 x2 x4 = some r → rv_V l D (rv_T ta) RX2 cX2_breachAt 6 (some .int) ("", []) (rv_rm 2 0 0) (rv_M D (rv_F (rv_vI r) (wx ta ad μ)) 0 0) 0 0 (wx ta ad μ) 19 [(0, .ref (ad 18)), (2, .int x2), (3, .int x3), (4, .int x4)] []) {x2 : Int32} {x4 : Int32} {r : Int32} (h : B_X2_breachAt_19 18 μ x3 k10 k19 x2 x4 = some r) : rv_V l D (rv_T ta) RX2 cX2_breachAt 6 (some .int) ("", []) (rv_rm 2 0 0) (rv_M D (rv_F (rv_vI r) (wx ta ad μ)) 0 0) 0 0 (wx ta ad μ) 19 [(0, .ref (ad 18)), (2, .int x2), (3, .int x3), (4, .int x4)] [] := by
  unfold B_X2_breachAt_19 at h
  refine rv_iload dX2_breachAt_19 3 rfl ?_
  refine rv_iconst (v := 4) dX2_breachAt_21 (by decide) ?_
  refine rv_icmp_ge (tgt := 71) dX2_breachAt_22 (by decide) (fun hc6 => ?_) (fun hc6 => ?_)
  · replace h := rv_ift hc6 h
    refine rv_iinc (v := (x3 + 1)) (lv2 := [(3, .int (x3 + 1)), (0, .ref (ad 18)), (2, .int x2), (4, .int x4)]) dX2_breachAt_71 2 rfl rfl (by decide) rfl ?_
    refine rv_goto (tgt := 10) dX2_breachAt_74 (by decide) ?_
    refine rv_sub [1, 2, 0] rfl ?_
    exact hk10 h
  · replace h := rv_iff hc6 h
    refine rv_aload_n dX2_breachAt_25 rfl 0 rfl ?_
    refine rv_iload_n dX2_breachAt_26 rfl 2 rfl ?_
    refine rv_iload dX2_breachAt_27 3 rfl ?_
    obtain ⟨r7, hr7, h⟩ := rv_bind h
    refine rv_callV1 (rest := []) (ct_X2_daysOf_18 hr7) wm_X2_36 wi_X2_daysOf wl_X2_daysOf wc_X2_daysOf wz_X2 rfl np_X2_daysOf dX2_breachAt_29 rfl ⟨rv_le rfl, rv_le rfl⟩ ⟨rv_le rfl, rv_le rfl⟩ (rv_le rfl) 18 (wx_18 ta ad μ) cl_X2 ?_
    refine rv_istore (lv2 := [(5, .int r7), (0, .ref (ad 18)), (2, .int x2), (3, .int x3), (4, .int x4)]) dX2_breachAt_32 (by decide) rfl ?_
    refine rv_iload_n dX2_breachAt_34 rfl 2 rfl ?_
    refine rv_iload dX2_breachAt_35 0 rfl ?_
    obtain ⟨r8, hr8, h⟩ := rv_bind h
    refine rv_callS1 (rest := [.int x2]) (ct_J6_bitCount_0f7a4 hr8) wm_X2_23 ws_J6_bitCount_0f7a4 wc_J6_bitCount_0f7a4 wz_J6 np_J6_bitCount_0f7a4 dX2_breachAt_37 rfl ⟨rv_le rfl, rv_le rfl⟩ ⟨rv_le rfl, rv_le rfl⟩ (rv_le rfl) ?_
    refine rv_icmp_ge (tgt := 57) dX2_breachAt_40 (by decide) (fun hc9 => ?_) (fun hc9 => ?_)
    · replace h := rv_ift hc9 h
      refine rv_iload_n dX2_breachAt_57 rfl 2 rfl ?_
      refine rv_iload dX2_breachAt_58 0 rfl ?_
      obtain ⟨r10, hr10, h⟩ := rv_bind h
      refine rv_callS1 (rest := [.int x2]) (ct_J6_bitCount_0f7a4 hr10) wm_X2_23 ws_J6_bitCount_0f7a4 wc_J6_bitCount_0f7a4 wz_J6 np_J6_bitCount_0f7a4 dX2_breachAt_60 rfl ⟨rv_le rfl, rv_le rfl⟩ ⟨rv_le rfl, rv_le rfl⟩ (rv_le rfl) ?_
      refine rv_isub dX2_breachAt_63 ?_
      refine rv_istore_n (lv2 := [(2, .int (x2 - r10)), (5, .int r7), (0, .ref (ad 18)), (3, .int x3), (4, .int x4)]) dX2_breachAt_64 rfl (by decide) rfl ?_
      refine rv_iinc (v := (x4 + 1)) (lv2 := [(4, .int (x4 + 1)), (2, .int (x2 - r10)), (5, .int r7), (0, .ref (ad 18)), (3, .int x3)]) dX2_breachAt_65 4 rfl rfl (by decide) rfl ?_
      refine rv_goto (tgt := 19) dX2_breachAt_68 (by decide) ?_
      refine rv_sub [3, 1, 4, 0] rfl ?_
      exact hk19 h
    · replace h := rv_iff hc9 h
      refine rv_iload_n dX2_breachAt_43 rfl 3 rfl ?_
      refine rv_iload dX2_breachAt_44 4 rfl ?_
      refine rv_iload dX2_breachAt_46 0 rfl ?_
      refine rv_iload_n dX2_breachAt_48 rfl 2 rfl ?_
      obtain ⟨r11, hr11, h⟩ := rv_bind h
      refine rv_callS1 (rest := [.int x4, .int x3]) (ct_X2_placeOfBit hr11) wm_X2_39 ws_X2_placeOfBit wc_X2_placeOfBit wz_X2 np_X2_placeOfBit dX2_breachAt_49 rfl ⟨rv_le rfl, rv_le rfl⟩ ⟨rv_le rfl, rv_le rfl⟩ (rv_le rfl) ?_
      refine rv_iconst (v := (-1)) dX2_breachAt_52 (by decide) ?_
      obtain ⟨r12, hr12, h⟩ := rv_bind h
      refine rv_callSN1 (rest := []) (ct_X8_breachOf hr12) wm_X2_42 ws_X8_breachOf wc_X8_breachOf wz_X8 np_X8_breachOf dX2_breachAt_53 rfl ⟨rv_le rfl, rv_le rfl⟩ ⟨rv_le rfl, rv_le rfl⟩ (rv_le rfl) ?_
      obtain rfl := Option.some.inj h
      exact rv_iret rfl dX2_breachAt_56 (rv_le rfl) (rv_le rfl) ⟨rfl, rfl⟩
theorem vh_X2_breachAt_18_19 {l : Launch} {D : va_G} {ta : Nat → ClassId} {ad : Nat → Nat} {μ : Mem} {x3 : Int32} {k10 : Int32 → Int32 → Option (Int32)} (hk10 : ∀ {x2 : Int32} {x3 : Int32} {r : Int32}, k10 x2 x3 = some r → rv_V l D (rv_T ta) RX2 cX2_breachAt 6 (some .int) ("", []) (rv_rm 2 0 0) (rv_M D (rv_F (rv_vI r) (wx ta ad μ)) 0 0) 0 0 (wx ta ad μ) 10 [(0, .ref (ad 18)), (2, .int x2), (3, .int x3)] []) {n : Nat} {x2 : Int32} {x4 : Int32} {r : Int32} (h : rv_loop (B_X2_breachAt_19 18 μ x3 k10) (fun _ _ => none) n x2 x4 = some r) : rv_V l D (rv_T ta) RX2 cX2_breachAt 6 (some .int) ("", []) (rv_rm 2 0 0) (rv_M D (rv_F (rv_vI r) (wx ta ad μ)) 0 0) 0 0 (wx ta ad μ) 19 [(0, .ref (ad 18)), (2, .int x2), (3, .int x3), (4, .int x4)] [] := by
  induction n generalizing x2 x4 r with
  | zero => cases h
  | succ n ih => exact vB_X2_breachAt_18_19 hk10 (fun h9 => ih h9) h
theorem vB_X2_breachAt_18_10 {l : Launch} {D : va_G} {ta : Nat → ClassId} {ad : Nat → Nat} {μ : Mem} {k10 : Int32 → Int32 → Option (Int32)} (hk10 : ∀ {x2 : Int32} {x3 : Int32} {r : Int32}, k10 x2 x3 = some r → rv_V l D (rv_T ta) RX2 cX2_breachAt 6 (some .int) ("", []) (rv_rm 2 0 0) (rv_M D (rv_F (rv_vI r) (wx ta ad μ)) 0 0) 0 0 (wx ta ad μ) 10 [(0, .ref (ad 18)), (2, .int x2), (3, .int x3)] []) {x2 : Int32} {x3 : Int32} {r : Int32} (h : B_X2_breachAt_10 18 μ k10 x2 x3 = some r) : rv_V l D (rv_T ta) RX2 cX2_breachAt 6 (some .int) ("", []) (rv_rm 2 0 0) (rv_M D (rv_F (rv_vI r) (wx ta ad μ)) 0 0) 0 0 (wx ta ad μ) 10 [(0, .ref (ad 18)), (2, .int x2), (3, .int x3)] [] := by
  unfold B_X2_breachAt_10 at h
  refine rv_iload_n dX2_breachAt_10 rfl 2 rfl ?_
  refine rv_bipush (v := 6) dX2_breachAt_11 (by decide) ?_
  refine rv_icmp_ge (tgt := 77) dX2_breachAt_13 (by decide) (fun hc2 => ?_) (fun hc2 => ?_)
  · replace h := rv_ift hc2 h
    refine rv_aload_n dX2_breachAt_77 rfl 0 rfl ?_
    refine gf_X2_15 dX2_breachAt_78 18 (wx_18 ta ad μ) rfl ?_
    refine rv_iload_n dX2_breachAt_81 rfl 1 rfl ?_
    obtain ⟨r3, hr3, h⟩ := rv_bind h
    refine rv_callS1 (rest := []) (ct_X2_placeOfBit hr3) wm_X2_39 ws_X2_placeOfBit wc_X2_placeOfBit wz_X2 np_X2_placeOfBit dX2_breachAt_82 rfl ⟨rv_le rfl, rv_le rfl⟩ ⟨rv_le rfl, rv_le rfl⟩ (rv_le rfl) ?_
    refine rv_istore_n (lv2 := [(3, .int r3), (0, .ref (ad 18)), (2, .int x2)]) dX2_breachAt_85 rfl (by decide) rfl ?_
    refine rv_iload_n dX2_breachAt_86 rfl 0 rfl ?_
    refine rv_iconst (v := (-1)) dX2_breachAt_87 (by decide) ?_
    refine rv_icmp_ne (tgt := 95) dX2_breachAt_88 (by decide) (fun hc4 => ?_) (fun hc4 => ?_)
    · replace h := rv_iff hc4 h
      refine rv_bipush (v := 6) dX2_breachAt_95 (by decide) ?_
      refine rv_iconst (v := (-1)) dX2_breachAt_97 (by decide) ?_
      refine rv_iload_n dX2_breachAt_98 rfl 0 rfl ?_
      refine rv_iconst (v := 3) dX2_breachAt_99 (by decide) ?_
      refine rv_idiv dX2_breachAt_100 (by decide) ?_
      refine rv_iload_n dX2_breachAt_101 rfl 0 rfl ?_
      refine rv_iconst (v := 3) dX2_breachAt_102 (by decide) ?_
      refine rv_irem dX2_breachAt_103 (by decide) ?_
      obtain ⟨r5, hr5, h⟩ := rv_bind h
      refine rv_callSN1 (rest := []) (ct_X8_breachOf hr5) wm_X2_42 ws_X8_breachOf wc_X8_breachOf wz_X8 np_X8_breachOf dX2_breachAt_104 rfl ⟨rv_le rfl, rv_le rfl⟩ ⟨rv_le rfl, rv_le rfl⟩ (rv_le rfl) ?_
      obtain rfl := Option.some.inj h
      exact rv_iret rfl dX2_breachAt_107 (rv_le rfl) (rv_le rfl) ⟨rfl, rfl⟩
    · replace h := rv_ift hc4 h
      refine rv_iconst (v := (-1)) dX2_breachAt_91 (by decide) ?_
      refine rv_goto (tgt := 107) dX2_breachAt_92 (by decide) ?_
      obtain rfl := Option.some.inj h
      exact rv_iret rfl dX2_breachAt_107 (rv_le rfl) (rv_le rfl) ⟨rfl, rfl⟩
  · replace h := rv_iff hc2 h
    refine rv_iconst (v := 0) dX2_breachAt_16 (by decide) ?_
    refine rv_istore (lv2 := [(4, .int 0), (0, .ref (ad 18)), (2, .int x2), (3, .int x3)]) dX2_breachAt_17 (by decide) rfl ?_
    refine rv_sub [1, 2, 3, 0] rfl ?_
    exact vh_X2_breachAt_18_19 hk10 h
theorem vh_X2_breachAt_18_10 {l : Launch} {D : va_G} {ta : Nat → ClassId} {ad : Nat → Nat} {μ : Mem} {n : Nat} {x2 : Int32} {x3 : Int32} {r : Int32} (h : rv_loop (B_X2_breachAt_10 18 μ) (fun _ _ => none) n x2 x3 = some r) : rv_V l D (rv_T ta) RX2 cX2_breachAt 6 (some .int) ("", []) (rv_rm 2 0 0) (rv_M D (rv_F (rv_vI r) (wx ta ad μ)) 0 0) 0 0 (wx ta ad μ) 10 [(0, .ref (ad 18)), (2, .int x2), (3, .int x3)] [] := by
  induction n generalizing x2 x3 r with
  | zero => cases h
  | succ n ih => exact vB_X2_breachAt_18_10 (fun h9 => ih h9) h
theorem ct_X2_breachAt_18 {l : Launch} {D : va_G} {ta : Nat → ClassId} {ad : Nat → Nat} {μ : Mem} {x1 : Int32} {r : Int32} (h : f_X2_breachAt 18 μ x1 = some r) : rv_C l D (rv_T ta) yX2_breachAt cX2_breachAt 6 (some .int) 2 0 0 [.ref (ad 18), .int x1] (wx ta ad μ) (rv_F (rv_vI r) (wx ta ad μ)) := by
  refine rv_Cof2 (own := RX2) (lv := [(0, .ref (ad 18)), (1, .int x1)]) rfl (by decide) (rv_le rfl) rfl ?_
  unfold f_X2_breachAt at h
  refine rv_iload_n dX2_breachAt_0 rfl 1 rfl ?_
  refine rv_if_ge (tgt := 6) dX2_breachAt_1 (by decide) (fun hc1 => ?_) (fun hc1 => ?_)
  · replace h := rv_ift hc1 h
    refine rv_iload_n dX2_breachAt_6 rfl 1 rfl ?_
    refine rv_istore_n (lv2 := [(2, .int x1), (0, .ref (ad 18)), (1, .int x1)]) dX2_breachAt_7 rfl (by decide) rfl ?_
    refine rv_iconst (v := 0) dX2_breachAt_8 (by decide) ?_
    refine rv_istore_n (lv2 := [(3, .int 0), (2, .int x1), (0, .ref (ad 18)), (1, .int x1)]) dX2_breachAt_9 rfl (by decide) rfl ?_
    refine rv_sub [2, 1, 0] rfl ?_
    exact vh_X2_breachAt_18_10 h
  · replace h := rv_iff hc1 h
    refine rv_iconst (v := (-1)) dX2_breachAt_4 (by decide) ?_
    obtain rfl := Option.some.inj h
    exact rv_iret rfl dX2_breachAt_5 (rv_le rfl) (rv_le rfl) ⟨rfl, rfl⟩
theorem vB_X2_mostBurdened_13_15 {l : Launch} {D : va_G} {ta : Nat → ClassId} {ad : Nat → Nat} {μ : Mem} {x3 : Int32} {k6 : Int32 → Int32 → Int32 → Option (Int32)} (hk6 : ∀ {x1 : Int32} {x2 : Int32} {x3 : Int32} {r : Int32}, k6 x1 x2 x3 = some r → rv_V l D (rv_T ta) RX2 cX2_mostBurdened 5 (some .int) ("", []) (rv_rm 2 0 0) (rv_M D (rv_F (rv_vI r) (wx ta ad μ)) 0 0) 0 0 (wx ta ad μ) 6 [(0, .ref (ad 13)), (1, .int x1), (2, .int x2), (3, .int x3)] []) {k15 : Int32 → Int32 → Int32 → Option (Int32)} (hk15 : ∀ {x1 : Int32} {x2 : Int32} {x4 : Int32} {r : Int32}, k15 x1 x2 x4 = some r → rv_V l D (rv_T ta) RX2 cX2_mostBurdened 5 (some .int) ("", []) (rv_rm 2 0 0) (rv_M D (rv_F (rv_vI r) (wx ta ad μ)) 0 0) 0 0 (wx ta ad μ) 15 [(0, .ref (ad 13)), (1, .int x1), (2, .int x2), (3, .int x3), (4, .int x4)] []) {x1 : Int32} {x2 : Int32} {x4 : Int32} {r : Int32} (h : B_X2_mostBurdened_15 13 μ x3 k6 k15 x1 x2 x4 = some r) : rv_V l D (rv_T ta) RX2 cX2_mostBurdened 5 (some .int) ("", []) (rv_rm 2 0 0) (rv_M D (rv_F (rv_vI r) (wx ta ad μ)) 0 0) 0 0 (wx ta ad μ) 15 [(0, .ref (ad 13)), (1, .int x1), (2, .int x2), (3, .int x3), (4, .int x4)] [] := by
  unfold B_X2_mostBurdened_15 at h
  refine rv_iload dX2_mostBurdened_15 4 rfl ?_
  refine rv_iconst (v := 4) dX2_mostBurdened_17 (by decide) ?_
  refine rv_icmp_ge (tgt := 65) dX2_mostBurdened_18 (by decide) (fun hc2 => ?_) (fun hc2 => ?_)
  · replace h := rv_ift hc2 h
    refine rv_iinc (v := (x3 + 1)) (lv2 := [(3, .int (x3 + 1)), (0, .ref (ad 13)), (1, .int x1), (2, .int x2), (4, .int x4)]) dX2_mostBurdened_65 3 rfl rfl (by decide) rfl ?_
    refine rv_goto (tgt := 6) dX2_mostBurdened_68 (by decide) ?_
    refine rv_sub [1, 2, 3, 0] rfl ?_
    exact hk6 h
  · replace h := rv_iff hc2 h
    refine rv_aload_n dX2_mostBurdened_21 rfl 0 rfl ?_
    refine rv_iload_n dX2_mostBurdened_22 rfl 3 rfl ?_
    refine rv_iload dX2_mostBurdened_23 4 rfl ?_
    obtain ⟨r3, hr3, h⟩ := rv_bind h
    refine rv_callV1 (rest := []) (ct_X2_daysOf_13 hr3) wm_X2_36 wi_X2_daysOf wl_X2_daysOf wc_X2_daysOf wz_X2 rfl np_X2_daysOf dX2_mostBurdened_25 rfl ⟨rv_le rfl, rv_le rfl⟩ ⟨rv_le rfl, rv_le rfl⟩ (rv_le rfl) 13 (wx_13 ta ad μ) cl_X2 ?_
    refine rv_if_eq (tgt := 59) dX2_mostBurdened_28 (by decide) (fun hc4 => ?_) (fun hc4 => ?_)
    · replace h := rv_ift hc4 h
      refine rv_iinc (v := (x4 + 1)) (lv2 := [(4, .int (x4 + 1)), (0, .ref (ad 13)), (1, .int x1), (2, .int x2), (3, .int x3)]) dX2_mostBurdened_59 4 rfl rfl (by decide) rfl ?_
      refine rv_goto (tgt := 15) dX2_mostBurdened_62 (by decide) ?_
      refine rv_sub [1, 2, 3, 4, 0] rfl ?_
      exact hk15 h
    · replace h := rv_iff hc4 h
      refine rv_aload_n dX2_mostBurdened_31 rfl 0 rfl ?_
      refine gf_X2_9 dX2_mostBurdened_32 13 (wx_13 ta ad μ) rfl ?_
      refine rv_iload dX2_mostBurdened_35 4 rfl ?_
      obtain ⟨hi5, h⟩ := rv_ifn h
      refine rv_lald dX2_mostBurdened_37 2 rfl 14 (wx_14 ta ad μ) (rv_inP hi5) ?_
      obtain ⟨r6, hr6, h⟩ := rv_bind h
      refine rv_callS1 (rest := []) (ct_J13_bitCount_95d88 hr6) wm_X2_29 ws_J13_bitCount_95d88 wc_J13_bitCount_95d88 wz_J13 np_J13_bitCount_95d88 dX2_mostBurdened_38 rfl ⟨rv_le rfl, rv_le rfl⟩ ⟨rv_le rfl, rv_le rfl⟩ (rv_le rfl) ?_
      refine rv_iload_n dX2_mostBurdened_41 rfl 1 rfl ?_
      refine rv_icmp_le (tgt := 59) dX2_mostBurdened_42 (by decide) (fun hc7 => ?_) (fun hc7 => ?_)
      · replace h := rv_ift hc7 h
        refine rv_iinc (v := (x4 + 1)) (lv2 := [(4, .int (x4 + 1)), (0, .ref (ad 13)), (1, .int x1), (2, .int x2), (3, .int x3)]) dX2_mostBurdened_59 4 rfl rfl (by decide) rfl ?_
        refine rv_goto (tgt := 15) dX2_mostBurdened_62 (by decide) ?_
        refine rv_sub [1, 2, 3, 4, 0] rfl ?_
        exact hk15 h
      · replace h := rv_iff hc7 h
        refine rv_aload_n dX2_mostBurdened_45 rfl 0 rfl ?_
        refine gf_X2_9 dX2_mostBurdened_46 13 (wx_13 ta ad μ) rfl ?_
        refine rv_iload dX2_mostBurdened_49 4 rfl ?_
        obtain ⟨hi8, h⟩ := rv_ifn h
        refine rv_lald dX2_mostBurdened_51 2 rfl 14 (wx_14 ta ad μ) (rv_inP hi8) ?_
        obtain ⟨r9, hr9, h⟩ := rv_bind h
        refine rv_callS1 (rest := []) (ct_J13_bitCount_95d88 hr9) wm_X2_29 ws_J13_bitCount_95d88 wc_J13_bitCount_95d88 wz_J13 np_J13_bitCount_95d88 dX2_mostBurdened_52 rfl ⟨rv_le rfl, rv_le rfl⟩ ⟨rv_le rfl, rv_le rfl⟩ (rv_le rfl) ?_
        refine rv_istore_n (lv2 := [(1, .int r9), (0, .ref (ad 13)), (2, .int x2), (3, .int x3), (4, .int x4)]) dX2_mostBurdened_55 rfl (by decide) rfl ?_
        refine rv_iload dX2_mostBurdened_56 4 rfl ?_
        refine rv_istore_n (lv2 := [(2, .int x4), (1, .int r9), (0, .ref (ad 13)), (3, .int x3), (4, .int x4)]) dX2_mostBurdened_58 rfl (by decide) rfl ?_
        refine rv_iinc (v := (x4 + 1)) (lv2 := [(4, .int (x4 + 1)), (2, .int x4), (1, .int r9), (0, .ref (ad 13)), (3, .int x3)]) dX2_mostBurdened_59 4 rfl rfl (by decide) rfl ?_
        refine rv_goto (tgt := 15) dX2_mostBurdened_62 (by decide) ?_
        refine rv_sub [3, 2, 1, 4, 0] rfl ?_
        exact hk15 h
theorem vh_X2_mostBurdened_13_15 {l : Launch} {D : va_G} {ta : Nat → ClassId} {ad : Nat → Nat} {μ : Mem} {x3 : Int32} {k6 : Int32 → Int32 → Int32 → Option (Int32)} (hk6 : ∀ {x1 : Int32} {x2 : Int32} {x3 : Int32} {r : Int32}, k6 x1 x2 x3 = some r → rv_V l D (rv_T ta) RX2 cX2_mostBurdened 5 (some .int) ("", []) (rv_rm 2 0 0) (rv_M D (rv_F (rv_vI r) (wx ta ad μ)) 0 0) 0 0 (wx ta ad μ) 6 [(0, .ref (ad 13)), (1, .int x1), (2, .int x2), (3, .int x3)] []) {n : Nat} {x1 : Int32} {x2 : Int32} {x4 : Int32} {r : Int32} (h : rv_loop (B_X2_mostBurdened_15 13 μ x3 k6) (fun _ _ _ => none) n x1 x2 x4 = some r) : rv_V l D (rv_T ta) RX2 cX2_mostBurdened 5 (some .int) ("", []) (rv_rm 2 0 0) (rv_M D (rv_F (rv_vI r) (wx ta ad μ)) 0 0) 0 0 (wx ta ad μ) 15 [(0, .ref (ad 13)), (1, .int x1), (2, .int x2), (3, .int x3), (4, .int x4)] [] := by
  induction n generalizing x1 x2 x4 r with
  | zero => cases h
  | succ n ih => exact vB_X2_mostBurdened_13_15 hk6 (fun h9 => ih h9) h
theorem vB_X2_mostBurdened_13_6 {l : Launch} {D : va_G} {ta : Nat → ClassId} {ad : Nat → Nat} {μ : Mem} {k6 : Int32 → Int32 → Int32 → Option (Int32)} (hk6 : ∀ {x1 : Int32} {x2 : Int32} {x3 : Int32} {r : Int32}, k6 x1 x2 x3 = some r → rv_V l D (rv_T ta) RX2 cX2_mostBurdened 5 (some .int) ("", []) (rv_rm 2 0 0) (rv_M D (rv_F (rv_vI r) (wx ta ad μ)) 0 0) 0 0 (wx ta ad μ) 6 [(0, .ref (ad 13)), (1, .int x1), (2, .int x2), (3, .int x3)] []) {x1 : Int32} {x2 : Int32} {x3 : Int32} {r : Int32} (h : B_X2_mostBurdened_6 13 μ k6 x1 x2 x3 = some r) : rv_V l D (rv_T ta) RX2 cX2_mostBurdened 5 (some .int) ("", []) (rv_rm 2 0 0) (rv_M D (rv_F (rv_vI r) (wx ta ad μ)) 0 0) 0 0 (wx ta ad μ) 6 [(0, .ref (ad 13)), (1, .int x1), (2, .int x2), (3, .int x3)] [] := by
  unfold B_X2_mostBurdened_6 at h
  refine rv_iload_n dX2_mostBurdened_6 rfl 3 rfl ?_
  refine rv_bipush (v := 6) dX2_mostBurdened_7 (by decide) ?_
  refine rv_icmp_ge (tgt := 71) dX2_mostBurdened_9 (by decide) (fun hc1 => ?_) (fun hc1 => ?_)
  · replace h := rv_ift hc1 h
    refine rv_iload_n dX2_mostBurdened_71 rfl 2 rfl ?_
    obtain rfl := Option.some.inj h
    exact rv_iret rfl dX2_mostBurdened_72 (rv_le rfl) (rv_le rfl) ⟨rfl, rfl⟩
  · replace h := rv_iff hc1 h
    refine rv_iconst (v := 0) dX2_mostBurdened_12 (by decide) ?_
    refine rv_istore (lv2 := [(4, .int 0), (0, .ref (ad 13)), (1, .int x1), (2, .int x2), (3, .int x3)]) dX2_mostBurdened_13 (by decide) rfl ?_
    refine rv_sub [1, 2, 3, 4, 0] rfl ?_
    exact vh_X2_mostBurdened_13_15 hk6 h
theorem vh_X2_mostBurdened_13_6 {l : Launch} {D : va_G} {ta : Nat → ClassId} {ad : Nat → Nat} {μ : Mem} {n : Nat} {x1 : Int32} {x2 : Int32} {x3 : Int32} {r : Int32} (h : rv_loop (B_X2_mostBurdened_6 13 μ) (fun _ _ _ => none) n x1 x2 x3 = some r) : rv_V l D (rv_T ta) RX2 cX2_mostBurdened 5 (some .int) ("", []) (rv_rm 2 0 0) (rv_M D (rv_F (rv_vI r) (wx ta ad μ)) 0 0) 0 0 (wx ta ad μ) 6 [(0, .ref (ad 13)), (1, .int x1), (2, .int x2), (3, .int x3)] [] := by
  induction n generalizing x1 x2 x3 r with
  | zero => cases h
  | succ n ih => exact vB_X2_mostBurdened_13_6 (fun h9 => ih h9) h
theorem ct_X2_mostBurdened_13 {l : Launch} {D : va_G} {ta : Nat → ClassId} {ad : Nat → Nat} {μ : Mem} {r : Int32} (h : f_X2_mostBurdened 13 μ = some r) : rv_C l D (rv_T ta) yX2_mostBurdened cX2_mostBurdened 5 (some .int) 2 0 0 [.ref (ad 13)] (wx ta ad μ) (rv_F (rv_vI r) (wx ta ad μ)) := by
  refine rv_Cof2 (own := RX2) (lv := [(0, .ref (ad 13))]) rfl (by decide) (rv_le rfl) rfl ?_
  unfold f_X2_mostBurdened at h
  refine rv_iconst (v := 0) dX2_mostBurdened_0 (by decide) ?_
  refine rv_istore_n (lv2 := [(1, .int 0), (0, .ref (ad 13))]) dX2_mostBurdened_1 rfl (by decide) rfl ?_
  refine rv_iconst (v := (-1)) dX2_mostBurdened_2 (by decide) ?_
  refine rv_istore_n (lv2 := [(2, .int (-1)), (1, .int 0), (0, .ref (ad 13))]) dX2_mostBurdened_3 rfl (by decide) rfl ?_
  refine rv_iconst (v := 0) dX2_mostBurdened_4 (by decide) ?_
  refine rv_istore_n (lv2 := [(3, .int 0), (2, .int (-1)), (1, .int 0), (0, .ref (ad 13))]) dX2_mostBurdened_5 rfl (by decide) rfl ?_
  refine rv_sub [3, 2, 1, 0] rfl ?_
  exact vh_X2_mostBurdened_13_6 h
theorem ct_X3_minutesAt {l : Launch} {D : va_G} {ta : Nat → ClassId} {ad : Nat → Nat} {μ : Mem} {x1 : Int32} {x2 : Int32} {r : Int32} (h : f_X3_minutesAt μ x1 x2 = some r) : rv_C l D (rv_T ta) yX3_minutesAt cX3_minutesAt 3 (some .int) 3 0 0 [.ref (ad 11), .int x1, .int x2] (wx ta ad μ) (rv_F (rv_vI r) (wx ta ad μ)) := by
  refine rv_Cof2 (own := RX3) (lv := [(0, .ref (ad 11)), (1, .int x1), (2, .int x2)]) rfl (by decide) (rv_le rfl) rfl ?_
  unfold f_X3_minutesAt at h
  refine rv_aload_n dX3_minutesAt_0 rfl 0 rfl ?_
  refine gf_X3_9 dX3_minutesAt_1 11 (wx_11 ta ad μ) rfl ?_
  refine rv_aload_n dX3_minutesAt_4 rfl 0 rfl ?_
  refine gf_X3_19 dX3_minutesAt_5 11 (wx_11 ta ad μ) rfl ?_
  refine rv_iload_n dX3_minutesAt_8 rfl 1 rfl ?_
  refine rv_iload_n dX3_minutesAt_9 rfl 2 rfl ?_
  obtain ⟨r1, hr1, h⟩ := rv_bind h
  refine rv_callV1 (rest := [.ref (ad 1)]) (ct_X5_shiftAt hr1) wm_X3_23 wi_X5_shiftAt wl_X5_shiftAt wc_X5_shiftAt wz_X5 rfl np_X5_shiftAt dX3_minutesAt_10 rfl ⟨rv_le rfl, rv_le rfl⟩ ⟨rv_le rfl, rv_le rfl⟩ (rv_le rfl) 6 (wx_6 ta ad μ) cl_X5 ?_
  obtain ⟨r2, hr2, h⟩ := rv_bind h
  refine rv_callV1 (rest := []) (ct_X7_lengthOf hr2) wm_X3_29 wi_X7_lengthOf wl_X7_lengthOf wc_X7_lengthOf wz_X7 rfl np_X7_lengthOf dX3_minutesAt_13 rfl ⟨rv_le rfl, rv_le rfl⟩ ⟨rv_le rfl, rv_le rfl⟩ (rv_le rfl) 1 (wx_1 ta ad μ) cl_X7 ?_
  obtain rfl := Option.some.inj h
  exact rv_iret rfl dX3_minutesAt_16 (rv_le rfl) (rv_le rfl) ⟨rfl, rfl⟩
theorem ct_X3_isNightAt {l : Launch} {D : va_G} {ta : Nat → ClassId} {ad : Nat → Nat} {μ : Mem} {x1 : Int32} {x2 : Int32} {r : Int32} (h : f_X3_isNightAt μ x1 x2 = some r) : rv_C l D (rv_T ta) yX3_isNightAt cX3_isNightAt 3 (some .boolean) 3 0 0 [.ref (ad 11), .int x1, .int x2] (wx ta ad μ) (rv_F (rv_vI r) (wx ta ad μ)) := by
  refine rv_Cof2 (own := RX3) (lv := [(0, .ref (ad 11)), (1, .int x1), (2, .int x2)]) rfl (by decide) (rv_le rfl) rfl ?_
  unfold f_X3_isNightAt at h
  refine rv_aload_n dX3_isNightAt_0 rfl 0 rfl ?_
  refine gf_X3_9 dX3_isNightAt_1 11 (wx_11 ta ad μ) rfl ?_
  refine rv_aload_n dX3_isNightAt_4 rfl 0 rfl ?_
  refine gf_X3_19 dX3_isNightAt_5 11 (wx_11 ta ad μ) rfl ?_
  refine rv_iload_n dX3_isNightAt_8 rfl 1 rfl ?_
  refine rv_iload_n dX3_isNightAt_9 rfl 2 rfl ?_
  obtain ⟨r1, hr1, h⟩ := rv_bind h
  refine rv_callV1 (rest := [.ref (ad 1)]) (ct_X5_shiftAt hr1) wm_X3_23 wi_X5_shiftAt wl_X5_shiftAt wc_X5_shiftAt wz_X5 rfl np_X5_shiftAt dX3_isNightAt_10 rfl ⟨rv_le rfl, rv_le rfl⟩ ⟨rv_le rfl, rv_le rfl⟩ (rv_le rfl) 6 (wx_6 ta ad μ) cl_X5 ?_
  obtain ⟨r2, hr2, h⟩ := rv_bind h
  refine rv_callV1 (rest := []) (ct_X7_holdsNight hr2) wm_X3_35 wi_X7_holdsNight wl_X7_holdsNight wc_X7_holdsNight wz_X7 rfl np_X7_holdsNight dX3_isNightAt_13 rfl ⟨rv_le rfl, rv_le rfl⟩ ⟨rv_le rfl, rv_le rfl⟩ (rv_le rfl) 1 (wx_1 ta ad μ) cl_X7 ?_
  obtain ⟨hi3, h⟩ := rv_ifn h
  obtain rfl := Option.some.inj h
  exact rv_zret rfl (rv_bzP hi3) dX3_isNightAt_16 (rv_le rfl) (rv_le rfl) ⟨rfl, rfl⟩
theorem vB_X3_dayWorkedBefore_4 {l : Launch} {D : va_G} {ta : Nat → ClassId} {ad : Nat → Nat} {μ : Mem} {x1 : Int32} {k4 : Int32 → Option (Int32)} (hk4 : ∀ {x3 : Int32} {r : Int32}, k4 x3 = some r → rv_V l D (rv_T ta) RX3 cX3_dayWorkedBefore 4 (some .int) ("", []) (rv_rm 3 0 0) (rv_M D (rv_F (rv_vI r) (wx ta ad μ)) 0 0) 0 0 (wx ta ad μ) 4 [(0, .ref (ad 11)), (1, .int x1), (3, .int x3)] []) {x3 : Int32} {r : Int32} (h : B_X3_dayWorkedBefore_4 μ x1 k4 x3 = some r) : rv_V l D (rv_T ta) RX3 cX3_dayWorkedBefore 4 (some .int) ("", []) (rv_rm 3 0 0) (rv_M D (rv_F (rv_vI r) (wx ta ad μ)) 0 0) 0 0 (wx ta ad μ) 4 [(0, .ref (ad 11)), (1, .int x1), (3, .int x3)] [] := by
  unfold B_X3_dayWorkedBefore_4 at h
  refine rv_iload_n dX3_dayWorkedBefore_4 rfl 2 rfl ?_
  refine rv_if_lt (tgt := 29) dX3_dayWorkedBefore_5 (by decide) (fun hc1 => ?_) (fun hc1 => ?_)
  · replace h := rv_ift hc1 h
    refine rv_iconst (v := (-1)) dX3_dayWorkedBefore_29 (by decide) ?_
    obtain rfl := Option.some.inj h
    exact rv_iret rfl dX3_dayWorkedBefore_30 (rv_le rfl) (rv_le rfl) ⟨rfl, rfl⟩
  · replace h := rv_iff hc1 h
    refine rv_aload_n dX3_dayWorkedBefore_8 rfl 0 rfl ?_
    refine gf_X3_19 dX3_dayWorkedBefore_9 11 (wx_11 ta ad μ) rfl ?_
    refine rv_iload_n dX3_dayWorkedBefore_12 rfl 1 rfl ?_
    refine rv_iload_n dX3_dayWorkedBefore_13 rfl 2 rfl ?_
    obtain ⟨r2, hr2, h⟩ := rv_bind h
    refine rv_callV1 (rest := []) (ct_X5_shiftAt hr2) wm_X3_23 wi_X5_shiftAt wl_X5_shiftAt wc_X5_shiftAt wz_X5 rfl np_X5_shiftAt dX3_dayWorkedBefore_14 rfl ⟨rv_le rfl, rv_le rfl⟩ ⟨rv_le rfl, rv_le rfl⟩ (rv_le rfl) 6 (wx_6 ta ad μ) cl_X5 ?_
    refine rv_iconst (v := (-1)) dX3_dayWorkedBefore_17 (by decide) ?_
    refine rv_icmp_eq (tgt := 23) dX3_dayWorkedBefore_18 (by decide) (fun hc3 => ?_) (fun hc3 => ?_)
    · replace h := rv_ift hc3 h
      refine rv_iinc (v := (x3 + (-1))) (lv2 := [(3, .int (x3 + (-1))), (0, .ref (ad 11)), (1, .int x1)]) dX3_dayWorkedBefore_23 2 rfl rfl (by decide) rfl ?_
      refine rv_goto (tgt := 4) dX3_dayWorkedBefore_26 (by decide) ?_
      refine rv_sub [1, 2, 0] rfl ?_
      exact hk4 h
    · replace h := rv_iff hc3 h
      refine rv_iload_n dX3_dayWorkedBefore_21 rfl 2 rfl ?_
      obtain rfl := Option.some.inj h
      exact rv_iret rfl dX3_dayWorkedBefore_22 (rv_le rfl) (rv_le rfl) ⟨rfl, rfl⟩
theorem vh_X3_dayWorkedBefore_4 {l : Launch} {D : va_G} {ta : Nat → ClassId} {ad : Nat → Nat} {μ : Mem} {x1 : Int32} {n : Nat} {x3 : Int32} {r : Int32} (h : rv_loop (B_X3_dayWorkedBefore_4 μ x1) (fun _ => none) n x3 = some r) : rv_V l D (rv_T ta) RX3 cX3_dayWorkedBefore 4 (some .int) ("", []) (rv_rm 3 0 0) (rv_M D (rv_F (rv_vI r) (wx ta ad μ)) 0 0) 0 0 (wx ta ad μ) 4 [(0, .ref (ad 11)), (1, .int x1), (3, .int x3)] [] := by
  induction n generalizing x3 r with
  | zero => cases h
  | succ n ih => exact vB_X3_dayWorkedBefore_4 (fun h9 => ih h9) h
theorem ct_X3_dayWorkedBefore {l : Launch} {D : va_G} {ta : Nat → ClassId} {ad : Nat → Nat} {μ : Mem} {x1 : Int32} {x2 : Int32} {r : Int32} (h : f_X3_dayWorkedBefore μ x1 x2 = some r) : rv_C l D (rv_T ta) yX3_dayWorkedBefore cX3_dayWorkedBefore 4 (some .int) 3 0 0 [.ref (ad 11), .int x1, .int x2] (wx ta ad μ) (rv_F (rv_vI r) (wx ta ad μ)) := by
  refine rv_Cof2 (own := RX3) (lv := [(0, .ref (ad 11)), (1, .int x1), (2, .int x2)]) rfl (by decide) (rv_le rfl) rfl ?_
  unfold f_X3_dayWorkedBefore at h
  refine rv_iload_n dX3_dayWorkedBefore_0 rfl 2 rfl ?_
  refine rv_iconst (v := 1) dX3_dayWorkedBefore_1 (by decide) ?_
  refine rv_isub dX3_dayWorkedBefore_2 ?_
  refine rv_istore_n (lv2 := [(3, .int (x2 - 1)), (0, .ref (ad 11)), (1, .int x1), (2, .int x2)]) dX3_dayWorkedBefore_3 rfl (by decide) rfl ?_
  refine rv_sub [1, 2, 0] rfl ?_
  exact vh_X3_dayWorkedBefore_4 h
theorem ct_X3_restAt {l : Launch} {D : va_G} {ta : Nat → ClassId} {ad : Nat → Nat} {μ : Mem} {x1 : Int32} {x2 : Int32} {r : Int32} (h : f_X3_restAt μ x1 x2 = some r) : rv_C l D (rv_T ta) yX3_restAt cX3_restAt 7 (some .int) 4 0 0 [.ref (ad 11), .int x1, .int x2] (wx ta ad μ) (rv_F (rv_vI r) (wx ta ad μ)) := by
  refine rv_Cof2 (own := RX3) (lv := [(0, .ref (ad 11)), (1, .int x1), (2, .int x2)]) rfl (by decide) (rv_le rfl) rfl ?_
  unfold f_X3_restAt at h
  refine rv_aload_n dX3_restAt_0 rfl 0 rfl ?_
  refine gf_X3_19 dX3_restAt_1 11 (wx_11 ta ad μ) rfl ?_
  refine rv_iload_n dX3_restAt_4 rfl 1 rfl ?_
  refine rv_iload_n dX3_restAt_5 rfl 2 rfl ?_
  obtain ⟨r1, hr1, h⟩ := rv_bind h
  refine rv_callV1 (rest := []) (ct_X5_shiftAt hr1) wm_X3_23 wi_X5_shiftAt wl_X5_shiftAt wc_X5_shiftAt wz_X5 rfl np_X5_shiftAt dX3_restAt_6 rfl ⟨rv_le rfl, rv_le rfl⟩ ⟨rv_le rfl, rv_le rfl⟩ (rv_le rfl) 6 (wx_6 ta ad μ) cl_X5 ?_
  refine rv_istore_n (lv2 := [(3, .int r1), (0, .ref (ad 11)), (1, .int x1), (2, .int x2)]) dX3_restAt_9 rfl (by decide) rfl ?_
  refine rv_aload_n dX3_restAt_10 rfl 1 rfl ?_
  refine rv_iload_n dX3_restAt_11 rfl 2 rfl ?_
  refine rv_iload_n dX3_restAt_12 rfl 3 rfl ?_
  obtain ⟨r2, hr2, h⟩ := rv_bind h
  refine rv_callV1 (rest := []) (ct_X3_dayWorkedBefore hr2) wm_X3_39 wi_X3_dayWorkedBefore wl_X3_dayWorkedBefore wc_X3_dayWorkedBefore wz_X3 rfl np_X3_dayWorkedBefore dX3_restAt_13 rfl ⟨rv_le rfl, rv_le rfl⟩ ⟨rv_le rfl, rv_le rfl⟩ (rv_le rfl) 11 (wx_11 ta ad μ) cl_X3 ?_
  refine rv_istore (lv2 := [(4, .int r2), (3, .int r1), (0, .ref (ad 11)), (1, .int x1), (2, .int x2)]) dX3_restAt_16 (by decide) rfl ?_
  refine rv_iload_n dX3_restAt_18 rfl 1 rfl ?_
  refine rv_iconst (v := (-1)) dX3_restAt_19 (by decide) ?_
  refine rv_icmp_eq (tgt := 29) dX3_restAt_20 (by decide) (fun hc3 => ?_) (fun hc3 => ?_)
  · replace h := rv_ift hc3 h
    refine rv_sipush (v := (-1440)) dX3_restAt_29 (by decide) ?_
    obtain rfl := Option.some.inj h
    exact rv_iret rfl dX3_restAt_32 (rv_le rfl) (rv_le rfl) ⟨rfl, rfl⟩
  · replace h := rv_iff hc3 h
    refine rv_iload dX3_restAt_23 0 rfl ?_
    refine rv_iconst (v := (-1)) dX3_restAt_25 (by decide) ?_
    refine rv_icmp_ne (tgt := 33) dX3_restAt_26 (by decide) (fun hc4 => ?_) (fun hc4 => ?_)
    · replace h := rv_iff hc4 h
      refine rv_aload_n dX3_restAt_33 rfl 2 rfl ?_
      refine gf_X3_19 dX3_restAt_34 11 (wx_11 ta ad μ) rfl ?_
      refine rv_iload_n dX3_restAt_37 rfl 3 rfl ?_
      refine rv_iload dX3_restAt_38 0 rfl ?_
      obtain ⟨r5, hr5, h⟩ := rv_bind h
      refine rv_callV1 (rest := []) (ct_X5_shiftAt hr5) wm_X3_23 wi_X5_shiftAt wl_X5_shiftAt wc_X5_shiftAt wz_X5 rfl np_X5_shiftAt dX3_restAt_40 rfl ⟨rv_le rfl, rv_le rfl⟩ ⟨rv_le rfl, rv_le rfl⟩ (rv_le rfl) 6 (wx_6 ta ad μ) cl_X5 ?_
      refine rv_istore (lv2 := [(5, .int r5), (4, .int r2), (3, .int r1), (0, .ref (ad 11)), (1, .int x1), (2, .int x2)]) dX3_restAt_43 (by decide) rfl ?_
      refine rv_iload dX3_restAt_45 1 rfl ?_
      refine rv_sipush (v := 1440) dX3_restAt_47 (by decide) ?_
      refine rv_imul dX3_restAt_50 ?_
      refine rv_aload_n dX3_restAt_51 rfl 3 rfl ?_
      refine gf_X3_9 dX3_restAt_52 11 (wx_11 ta ad μ) rfl ?_
      refine rv_iload dX3_restAt_55 0 rfl ?_
      obtain ⟨r6, hr6, h⟩ := rv_bind h
      refine rv_callV1 (rest := [.int (r2 * 1440)]) (ct_X7_startOf hr6) wm_X3_42 wi_X7_startOf wl_X7_startOf wc_X7_startOf wz_X7 rfl np_X7_startOf dX3_restAt_57 rfl ⟨rv_le rfl, rv_le rfl⟩ ⟨rv_le rfl, rv_le rfl⟩ (rv_le rfl) 1 (wx_1 ta ad μ) cl_X7 ?_
      refine rv_iadd dX3_restAt_60 ?_
      refine rv_aload_n dX3_restAt_61 rfl 3 rfl ?_
      refine gf_X3_9 dX3_restAt_62 11 (wx_11 ta ad μ) rfl ?_
      refine rv_iload dX3_restAt_65 0 rfl ?_
      obtain ⟨r7, hr7, h⟩ := rv_bind h
      refine rv_callV1 (rest := [.int ((r2 * 1440) + r6)]) (ct_X7_lengthOf hr7) wm_X3_29 wi_X7_lengthOf wl_X7_lengthOf wc_X7_lengthOf wz_X7 rfl np_X7_lengthOf dX3_restAt_67 rfl ⟨rv_le rfl, rv_le rfl⟩ ⟨rv_le rfl, rv_le rfl⟩ (rv_le rfl) 1 (wx_1 ta ad μ) cl_X7 ?_
      refine rv_iadd dX3_restAt_70 ?_
      refine rv_istore (lv2 := [(6, .int (((r2 * 1440) + r6) + r7)), (5, .int r5), (4, .int r2), (3, .int r1), (0, .ref (ad 11)), (1, .int x1), (2, .int x2)]) dX3_restAt_71 (by decide) rfl ?_
      refine rv_iload_n dX3_restAt_73 rfl 6 rfl ?_
      refine rv_sipush (v := 1440) dX3_restAt_74 (by decide) ?_
      refine rv_imul dX3_restAt_77 ?_
      refine rv_aload_n dX3_restAt_78 rfl 4 rfl ?_
      refine gf_X3_9 dX3_restAt_79 11 (wx_11 ta ad μ) rfl ?_
      refine rv_iload_n dX3_restAt_82 rfl 3 rfl ?_
      obtain ⟨r8, hr8, h⟩ := rv_bind h
      refine rv_callV1 (rest := [.int (x2 * 1440)]) (ct_X7_startOf hr8) wm_X3_42 wi_X7_startOf wl_X7_startOf wc_X7_startOf wz_X7 rfl np_X7_startOf dX3_restAt_83 rfl ⟨rv_le rfl, rv_le rfl⟩ ⟨rv_le rfl, rv_le rfl⟩ (rv_le rfl) 1 (wx_1 ta ad μ) cl_X7 ?_
      refine rv_iadd dX3_restAt_86 ?_
      refine rv_iload dX3_restAt_87 0 rfl ?_
      refine rv_isub dX3_restAt_89 ?_
      obtain rfl := Option.some.inj h
      exact rv_iret rfl dX3_restAt_90 (rv_le rfl) (rv_le rfl) ⟨rfl, rfl⟩
    · replace h := rv_ift hc4 h
      refine rv_sipush (v := (-1440)) dX3_restAt_29 (by decide) ?_
      obtain rfl := Option.some.inj h
      exact rv_iret rfl dX3_restAt_32 (rv_le rfl) (rv_le rfl) ⟨rfl, rfl⟩
theorem vb_X3_nightsByCounting_31 {l : Launch} {D : va_G} {ta : Nat → ClassId} {ad : Nat → Nat} {μ : Mem} {x1 : Int32} {x2 : Int32} {x4 : Int32} {s0 : Int32} {k7 : Int32 → Int32 → Int32 → Option (Int32)} (hk7 : ∀ {x2 : Int32} {x3 : Int32} {x4 : Int32} {r : Int32}, k7 x2 x3 x4 = some r → rv_V l D (rv_T ta) RX3 cX3_nightsByCounting 5 (some .int) ("", []) (rv_rm 4 0 0) (rv_M D (rv_F (rv_vI r) (wx ta ad μ)) 0 0) 0 0 (wx ta ad μ) 7 [(0, .ref (ad 11)), (1, .int x1), (2, .int x2), (3, .int x3), (4, .int x4)] []) {r : Int32} (h : b_X3_nightsByCounting_31 μ k7 x1 x2 x4 s0 = some r) : rv_V l D (rv_T ta) RX3 cX3_nightsByCounting 5 (some .int) ("", []) (rv_rm 4 0 0) (rv_M D (rv_F (rv_vI r) (wx ta ad μ)) 0 0) 0 0 (wx ta ad μ) 31 [(0, .ref (ad 11)), (1, .int x1), (2, .int x2), (4, .int x4)] [.int s0] := by
  unfold b_X3_nightsByCounting_31 at h
  refine rv_istore_n (lv2 := [(3, .int s0), (0, .ref (ad 11)), (1, .int x1), (2, .int x2), (4, .int x4)]) dX3_nightsByCounting_31 rfl (by decide) rfl ?_
  refine rv_iload_n dX3_nightsByCounting_32 rfl 3 rfl ?_
  refine rv_iload_n dX3_nightsByCounting_33 rfl 0 rfl ?_
  refine rv_mmax wm_X3_49 ws_max wz_max wc_max (rv_le rfl) (rv_le rfl) (rv_le rfl) (rv_le rfl) dX3_nightsByCounting_34 ?_
  refine rv_istore_n (lv2 := [(2, .int (if x2 < s0 then s0 else x2)), (3, .int s0), (0, .ref (ad 11)), (1, .int x1), (4, .int x4)]) dX3_nightsByCounting_37 rfl (by decide) rfl ?_
  refine rv_iinc (v := (x4 + 1)) (lv2 := [(4, .int (x4 + 1)), (2, .int (if x2 < s0 then s0 else x2)), (3, .int s0), (0, .ref (ad 11)), (1, .int x1)]) dX3_nightsByCounting_38 4 rfl rfl (by decide) rfl ?_
  refine rv_goto (tgt := 7) dX3_nightsByCounting_41 (by decide) ?_
  refine rv_sub [3, 4, 1, 2, 0] rfl ?_
  exact hk7 h
theorem vB_X3_nightsByCounting_7 {l : Launch} {D : va_G} {ta : Nat → ClassId} {ad : Nat → Nat} {μ : Mem} {x1 : Int32} {k7 : Int32 → Int32 → Int32 → Option (Int32)} (hk7 : ∀ {x2 : Int32} {x3 : Int32} {x4 : Int32} {r : Int32}, k7 x2 x3 x4 = some r → rv_V l D (rv_T ta) RX3 cX3_nightsByCounting 5 (some .int) ("", []) (rv_rm 4 0 0) (rv_M D (rv_F (rv_vI r) (wx ta ad μ)) 0 0) 0 0 (wx ta ad μ) 7 [(0, .ref (ad 11)), (1, .int x1), (2, .int x2), (3, .int x3), (4, .int x4)] []) {x2 : Int32} {x3 : Int32} {x4 : Int32} {r : Int32} (h : B_X3_nightsByCounting_7 μ x1 k7 x2 x3 x4 = some r) : rv_V l D (rv_T ta) RX3 cX3_nightsByCounting 5 (some .int) ("", []) (rv_rm 4 0 0) (rv_M D (rv_F (rv_vI r) (wx ta ad μ)) 0 0) 0 0 (wx ta ad μ) 7 [(0, .ref (ad 11)), (1, .int x1), (2, .int x2), (3, .int x3), (4, .int x4)] [] := by
  unfold B_X3_nightsByCounting_7 at h
  refine rv_iload dX3_nightsByCounting_7 4 rfl ?_
  refine rv_bipush (v := 8) dX3_nightsByCounting_9 (by decide) ?_
  refine rv_icmp_ge (tgt := 44) dX3_nightsByCounting_11 (by decide) (fun hc1 => ?_) (fun hc1 => ?_)
  · replace h := rv_ift hc1 h
    refine rv_iload_n dX3_nightsByCounting_44 rfl 2 rfl ?_
    obtain rfl := Option.some.inj h
    exact rv_iret rfl dX3_nightsByCounting_45 (rv_le rfl) (rv_le rfl) ⟨rfl, rfl⟩
  · replace h := rv_iff hc1 h
    refine rv_aload_n dX3_nightsByCounting_14 rfl 0 rfl ?_
    refine rv_iload_n dX3_nightsByCounting_15 rfl 1 rfl ?_
    refine rv_iload dX3_nightsByCounting_16 4 rfl ?_
    obtain ⟨r2, hr2, h⟩ := rv_bind h
    refine rv_callV1 (rest := []) (ct_X3_isNightAt hr2) wm_X3_45 wi_X3_isNightAt wl_X3_isNightAt wc_X3_isNightAt wz_X3 rfl np_X3_isNightAt dX3_nightsByCounting_18 rfl ⟨rv_le rfl, rv_le rfl⟩ ⟨rv_le rfl, rv_le rfl⟩ (rv_le rfl) 11 (wx_11 ta ad μ) cl_X3 ?_
    refine rv_if_eq (tgt := 30) dX3_nightsByCounting_21 (by decide) (fun hc3 => ?_) (fun hc3 => ?_)
    · replace h := rv_ift hc3 h
      refine rv_iconst (v := 0) dX3_nightsByCounting_30 (by decide) ?_
      refine rv_sub [0, 1, 2, 4] rfl ?_
      exact vb_X3_nightsByCounting_31 hk7 h
    · replace h := rv_iff hc3 h
      refine rv_iload_n dX3_nightsByCounting_24 rfl 3 rfl ?_
      refine rv_iconst (v := 1) dX3_nightsByCounting_25 (by decide) ?_
      refine rv_iadd dX3_nightsByCounting_26 ?_
      refine rv_goto (tgt := 31) dX3_nightsByCounting_27 (by decide) ?_
      refine rv_sub [0, 1, 2, 4] rfl ?_
      exact vb_X3_nightsByCounting_31 hk7 h
theorem vh_X3_nightsByCounting_7 {l : Launch} {D : va_G} {ta : Nat → ClassId} {ad : Nat → Nat} {μ : Mem} {x1 : Int32} {n : Nat} {x2 : Int32} {x3 : Int32} {x4 : Int32} {r : Int32} (h : rv_loop (B_X3_nightsByCounting_7 μ x1) (fun _ _ _ => none) n x2 x3 x4 = some r) : rv_V l D (rv_T ta) RX3 cX3_nightsByCounting 5 (some .int) ("", []) (rv_rm 4 0 0) (rv_M D (rv_F (rv_vI r) (wx ta ad μ)) 0 0) 0 0 (wx ta ad μ) 7 [(0, .ref (ad 11)), (1, .int x1), (2, .int x2), (3, .int x3), (4, .int x4)] [] := by
  induction n generalizing x2 x3 x4 r with
  | zero => cases h
  | succ n ih => exact vB_X3_nightsByCounting_7 (fun h9 => ih h9) h
theorem ct_X3_nightsByCounting {l : Launch} {D : va_G} {ta : Nat → ClassId} {ad : Nat → Nat} {μ : Mem} {x1 : Int32} {r : Int32} (h : f_X3_nightsByCounting μ x1 = some r) : rv_C l D (rv_T ta) yX3_nightsByCounting cX3_nightsByCounting 5 (some .int) 4 0 0 [.ref (ad 11), .int x1] (wx ta ad μ) (rv_F (rv_vI r) (wx ta ad μ)) := by
  refine rv_Cof2 (own := RX3) (lv := [(0, .ref (ad 11)), (1, .int x1)]) rfl (by decide) (rv_le rfl) rfl ?_
  unfold f_X3_nightsByCounting at h
  refine rv_iconst (v := 0) dX3_nightsByCounting_0 (by decide) ?_
  refine rv_istore_n (lv2 := [(2, .int 0), (0, .ref (ad 11)), (1, .int x1)]) dX3_nightsByCounting_1 rfl (by decide) rfl ?_
  refine rv_iconst (v := 0) dX3_nightsByCounting_2 (by decide) ?_
  refine rv_istore_n (lv2 := [(3, .int 0), (2, .int 0), (0, .ref (ad 11)), (1, .int x1)]) dX3_nightsByCounting_3 rfl (by decide) rfl ?_
  refine rv_iconst (v := 0) dX3_nightsByCounting_4 (by decide) ?_
  refine rv_istore (lv2 := [(4, .int 0), (3, .int 0), (2, .int 0), (0, .ref (ad 11)), (1, .int x1)]) dX3_nightsByCounting_5 (by decide) rfl ?_
  refine rv_sub [3, 4, 2, 1, 0] rfl ?_
  exact vh_X3_nightsByCounting_7 h
theorem vB_X3_isRowOfNights_3 {l : Launch} {D : va_G} {ta : Nat → ClassId} {ad : Nat → Nat} {μ : Mem} {x1 : Int32} {x3 : Int32} {k3 : Int32 → Option (Int32)} (hk3 : ∀ {x4 : Int32} {r : Int32}, k3 x4 = some r → rv_V l D (rv_T ta) RX3 cX3_isRowOfNights 5 (some .boolean) ("", []) (rv_rm 4 0 0) (rv_M D (rv_F (rv_vI r) (wx ta ad μ)) 0 0) 0 0 (wx ta ad μ) 3 [(0, .ref (ad 11)), (1, .int x1), (3, .int x3), (4, .int x4)] []) {x4 : Int32} {r : Int32} (h : B_X3_isRowOfNights_3 μ x1 x3 k3 x4 = some r) : rv_V l D (rv_T ta) RX3 cX3_isRowOfNights 5 (some .boolean) ("", []) (rv_rm 4 0 0) (rv_M D (rv_F (rv_vI r) (wx ta ad μ)) 0 0) 0 0 (wx ta ad μ) 3 [(0, .ref (ad 11)), (1, .int x1), (3, .int x3), (4, .int x4)] [] := by
  unfold B_X3_isRowOfNights_3 at h
  refine rv_iload dX3_isRowOfNights_3 3 rfl ?_
  refine rv_iload_n dX3_isRowOfNights_5 rfl 2 rfl ?_
  refine rv_icmp_gt (tgt := 27) dX3_isRowOfNights_6 (by decide) (fun hc1 => ?_) (fun hc1 => ?_)
  · replace h := rv_ift hc1 h
    refine rv_iconst (v := 1) dX3_isRowOfNights_27 (by decide) ?_
    obtain rfl := Option.some.inj h
    exact rv_zret rfl rfl dX3_isRowOfNights_28 (rv_le rfl) (rv_le rfl) ⟨rfl, rfl⟩
  · replace h := rv_iff hc1 h
    refine rv_aload_n dX3_isRowOfNights_9 rfl 0 rfl ?_
    refine rv_iload_n dX3_isRowOfNights_10 rfl 1 rfl ?_
    refine rv_iload dX3_isRowOfNights_11 3 rfl ?_
    obtain ⟨r2, hr2, h⟩ := rv_bind h
    refine rv_callV1 (rest := []) (ct_X3_isNightAt hr2) wm_X3_45 wi_X3_isNightAt wl_X3_isNightAt wc_X3_isNightAt wz_X3 rfl np_X3_isNightAt dX3_isRowOfNights_13 rfl ⟨rv_le rfl, rv_le rfl⟩ ⟨rv_le rfl, rv_le rfl⟩ (rv_le rfl) 11 (wx_11 ta ad μ) cl_X3 ?_
    refine rv_if_ne (tgt := 21) dX3_isRowOfNights_16 (by decide) (fun hc3 => ?_) (fun hc3 => ?_)
    · replace h := rv_iff hc3 h
      refine rv_iinc (v := (x4 + 1)) (lv2 := [(4, .int (x4 + 1)), (0, .ref (ad 11)), (1, .int x1), (3, .int x3)]) dX3_isRowOfNights_21 3 rfl rfl (by decide) rfl ?_
      refine rv_goto (tgt := 3) dX3_isRowOfNights_24 (by decide) ?_
      refine rv_sub [1, 2, 3, 0] rfl ?_
      exact hk3 h
    · replace h := rv_ift hc3 h
      refine rv_iconst (v := 0) dX3_isRowOfNights_19 (by decide) ?_
      obtain rfl := Option.some.inj h
      exact rv_zret rfl rfl dX3_isRowOfNights_20 (rv_le rfl) (rv_le rfl) ⟨rfl, rfl⟩
theorem vh_X3_isRowOfNights_3 {l : Launch} {D : va_G} {ta : Nat → ClassId} {ad : Nat → Nat} {μ : Mem} {x1 : Int32} {x3 : Int32} {n : Nat} {x4 : Int32} {r : Int32} (h : rv_loop (B_X3_isRowOfNights_3 μ x1 x3) (fun _ => none) n x4 = some r) : rv_V l D (rv_T ta) RX3 cX3_isRowOfNights 5 (some .boolean) ("", []) (rv_rm 4 0 0) (rv_M D (rv_F (rv_vI r) (wx ta ad μ)) 0 0) 0 0 (wx ta ad μ) 3 [(0, .ref (ad 11)), (1, .int x1), (3, .int x3), (4, .int x4)] [] := by
  induction n generalizing x4 r with
  | zero => cases h
  | succ n ih => exact vB_X3_isRowOfNights_3 (fun h9 => ih h9) h
theorem ct_X3_isRowOfNights {l : Launch} {D : va_G} {ta : Nat → ClassId} {ad : Nat → Nat} {μ : Mem} {x1 : Int32} {x2 : Int32} {x3 : Int32} {r : Int32} (h : f_X3_isRowOfNights μ x1 x2 x3 = some r) : rv_C l D (rv_T ta) yX3_isRowOfNights cX3_isRowOfNights 5 (some .boolean) 4 0 0 [.ref (ad 11), .int x1, .int x2, .int x3] (wx ta ad μ) (rv_F (rv_vI r) (wx ta ad μ)) := by
  refine rv_Cof2 (own := RX3) (lv := [(0, .ref (ad 11)), (1, .int x1), (2, .int x2), (3, .int x3)]) rfl (by decide) (rv_le rfl) rfl ?_
  unfold f_X3_isRowOfNights at h
  refine rv_iload_n dX3_isRowOfNights_0 rfl 2 rfl ?_
  refine rv_istore (lv2 := [(4, .int x2), (0, .ref (ad 11)), (1, .int x1), (2, .int x2), (3, .int x3)]) dX3_isRowOfNights_1 (by decide) rfl ?_
  refine rv_sub [1, 2, 4, 0] rfl ?_
  exact vh_X3_isRowOfNights_3 h
theorem vB_X3_nightsByTryingRows_13 {l : Launch} {D : va_G} {ta : Nat → ClassId} {ad : Nat → Nat} {μ : Mem} {x1 : Int32} {x3 : Int32} {k4 : Int32 → Int32 → Option (Int32)} (hk4 : ∀ {x2 : Int32} {x3 : Int32} {r : Int32}, k4 x2 x3 = some r → rv_V l D (rv_T ta) RX3 cX3_nightsByTryingRows 5 (some .int) ("", []) (rv_rm 5 0 0) (rv_M D (rv_F (rv_vI r) (wx ta ad μ)) 0 0) 0 0 (wx ta ad μ) 4 [(0, .ref (ad 11)), (1, .int x1), (2, .int x2), (3, .int x3)] []) {k13 : Int32 → Int32 → Option (Int32)} (hk13 : ∀ {x2 : Int32} {x4 : Int32} {r : Int32}, k13 x2 x4 = some r → rv_V l D (rv_T ta) RX3 cX3_nightsByTryingRows 5 (some .int) ("", []) (rv_rm 5 0 0) (rv_M D (rv_F (rv_vI r) (wx ta ad μ)) 0 0) 0 0 (wx ta ad μ) 13 [(0, .ref (ad 11)), (1, .int x1), (2, .int x2), (3, .int x3), (4, .int x4)] []) {x2 : Int32} {x4 : Int32} {r : Int32} (h : B_X3_nightsByTryingRows_13 μ x1 x3 k4 k13 x2 x4 = some r) : rv_V l D (rv_T ta) RX3 cX3_nightsByTryingRows 5 (some .int) ("", []) (rv_rm 5 0 0) (rv_M D (rv_F (rv_vI r) (wx ta ad μ)) 0 0) 0 0 (wx ta ad μ) 13 [(0, .ref (ad 11)), (1, .int x1), (2, .int x2), (3, .int x3), (4, .int x4)] [] := by
  unfold B_X3_nightsByTryingRows_13 at h
  refine rv_iload dX3_nightsByTryingRows_13 4 rfl ?_
  refine rv_bipush (v := 8) dX3_nightsByTryingRows_15 (by decide) ?_
  refine rv_icmp_ge (tgt := 48) dX3_nightsByTryingRows_17 (by decide) (fun hc2 => ?_) (fun hc2 => ?_)
  · replace h := rv_ift hc2 h
    refine rv_iinc (v := (x3 + 1)) (lv2 := [(3, .int (x3 + 1)), (0, .ref (ad 11)), (1, .int x1), (2, .int x2), (4, .int x4)]) dX3_nightsByTryingRows_48 3 rfl rfl (by decide) rfl ?_
    refine rv_goto (tgt := 4) dX3_nightsByTryingRows_51 (by decide) ?_
    refine rv_sub [1, 2, 3, 0] rfl ?_
    exact hk4 h
  · replace h := rv_iff hc2 h
    refine rv_aload_n dX3_nightsByTryingRows_20 rfl 0 rfl ?_
    refine rv_iload_n dX3_nightsByTryingRows_21 rfl 1 rfl ?_
    refine rv_iload_n dX3_nightsByTryingRows_22 rfl 3 rfl ?_
    refine rv_iload dX3_nightsByTryingRows_23 4 rfl ?_
    obtain ⟨r3, hr3, h⟩ := rv_bind h
    refine rv_callV1 (rest := []) (ct_X3_isRowOfNights hr3) wm_X3_54 wi_X3_isRowOfNights wl_X3_isRowOfNights wc_X3_isRowOfNights wz_X3 rfl np_X3_isRowOfNights dX3_nightsByTryingRows_25 rfl ⟨rv_le rfl, rv_le rfl⟩ ⟨rv_le rfl, rv_le rfl⟩ (rv_le rfl) 11 (wx_11 ta ad μ) cl_X3 ?_
    refine rv_if_eq (tgt := 42) dX3_nightsByTryingRows_28 (by decide) (fun hc4 => ?_) (fun hc4 => ?_)
    · replace h := rv_ift hc4 h
      refine rv_iinc (v := (x4 + 1)) (lv2 := [(4, .int (x4 + 1)), (0, .ref (ad 11)), (1, .int x1), (2, .int x2), (3, .int x3)]) dX3_nightsByTryingRows_42 4 rfl rfl (by decide) rfl ?_
      refine rv_goto (tgt := 13) dX3_nightsByTryingRows_45 (by decide) ?_
      refine rv_sub [1, 2, 3, 4, 0] rfl ?_
      exact hk13 h
    · replace h := rv_iff hc4 h
      refine rv_iload_n dX3_nightsByTryingRows_31 rfl 2 rfl ?_
      refine rv_iload dX3_nightsByTryingRows_32 4 rfl ?_
      refine rv_iload_n dX3_nightsByTryingRows_34 rfl 3 rfl ?_
      refine rv_isub dX3_nightsByTryingRows_35 ?_
      refine rv_iconst (v := 1) dX3_nightsByTryingRows_36 (by decide) ?_
      refine rv_iadd dX3_nightsByTryingRows_37 ?_
      refine rv_mmax wm_X3_49 ws_max wz_max wc_max (rv_le rfl) (rv_le rfl) (rv_le rfl) (rv_le rfl) dX3_nightsByTryingRows_38 ?_
      refine rv_istore_n (lv2 := [(2, .int (if x2 < ((x4 - x3) + 1) then ((x4 - x3) + 1) else x2)), (0, .ref (ad 11)), (1, .int x1), (3, .int x3), (4, .int x4)]) dX3_nightsByTryingRows_41 rfl (by decide) rfl ?_
      refine rv_iinc (v := (x4 + 1)) (lv2 := [(4, .int (x4 + 1)), (2, .int (if x2 < ((x4 - x3) + 1) then ((x4 - x3) + 1) else x2)), (0, .ref (ad 11)), (1, .int x1), (3, .int x3)]) dX3_nightsByTryingRows_42 4 rfl rfl (by decide) rfl ?_
      refine rv_goto (tgt := 13) dX3_nightsByTryingRows_45 (by decide) ?_
      refine rv_sub [2, 3, 1, 4, 0] rfl ?_
      exact hk13 h
theorem vh_X3_nightsByTryingRows_13 {l : Launch} {D : va_G} {ta : Nat → ClassId} {ad : Nat → Nat} {μ : Mem} {x1 : Int32} {x3 : Int32} {k4 : Int32 → Int32 → Option (Int32)} (hk4 : ∀ {x2 : Int32} {x3 : Int32} {r : Int32}, k4 x2 x3 = some r → rv_V l D (rv_T ta) RX3 cX3_nightsByTryingRows 5 (some .int) ("", []) (rv_rm 5 0 0) (rv_M D (rv_F (rv_vI r) (wx ta ad μ)) 0 0) 0 0 (wx ta ad μ) 4 [(0, .ref (ad 11)), (1, .int x1), (2, .int x2), (3, .int x3)] []) {n : Nat} {x2 : Int32} {x4 : Int32} {r : Int32} (h : rv_loop (B_X3_nightsByTryingRows_13 μ x1 x3 k4) (fun _ _ => none) n x2 x4 = some r) : rv_V l D (rv_T ta) RX3 cX3_nightsByTryingRows 5 (some .int) ("", []) (rv_rm 5 0 0) (rv_M D (rv_F (rv_vI r) (wx ta ad μ)) 0 0) 0 0 (wx ta ad μ) 13 [(0, .ref (ad 11)), (1, .int x1), (2, .int x2), (3, .int x3), (4, .int x4)] [] := by
  induction n generalizing x2 x4 r with
  | zero => cases h
  | succ n ih => exact vB_X3_nightsByTryingRows_13 hk4 (fun h9 => ih h9) h
theorem vB_X3_nightsByTryingRows_4 {l : Launch} {D : va_G} {ta : Nat → ClassId} {ad : Nat → Nat} {μ : Mem} {x1 : Int32} {k4 : Int32 → Int32 → Option (Int32)} (hk4 : ∀ {x2 : Int32} {x3 : Int32} {r : Int32}, k4 x2 x3 = some r → rv_V l D (rv_T ta) RX3 cX3_nightsByTryingRows 5 (some .int) ("", []) (rv_rm 5 0 0) (rv_M D (rv_F (rv_vI r) (wx ta ad μ)) 0 0) 0 0 (wx ta ad μ) 4 [(0, .ref (ad 11)), (1, .int x1), (2, .int x2), (3, .int x3)] []) {x2 : Int32} {x3 : Int32} {r : Int32} (h : B_X3_nightsByTryingRows_4 μ x1 k4 x2 x3 = some r) : rv_V l D (rv_T ta) RX3 cX3_nightsByTryingRows 5 (some .int) ("", []) (rv_rm 5 0 0) (rv_M D (rv_F (rv_vI r) (wx ta ad μ)) 0 0) 0 0 (wx ta ad μ) 4 [(0, .ref (ad 11)), (1, .int x1), (2, .int x2), (3, .int x3)] [] := by
  unfold B_X3_nightsByTryingRows_4 at h
  refine rv_iload_n dX3_nightsByTryingRows_4 rfl 3 rfl ?_
  refine rv_bipush (v := 8) dX3_nightsByTryingRows_5 (by decide) ?_
  refine rv_icmp_ge (tgt := 54) dX3_nightsByTryingRows_7 (by decide) (fun hc1 => ?_) (fun hc1 => ?_)
  · replace h := rv_ift hc1 h
    refine rv_iload_n dX3_nightsByTryingRows_54 rfl 2 rfl ?_
    obtain rfl := Option.some.inj h
    exact rv_iret rfl dX3_nightsByTryingRows_55 (rv_le rfl) (rv_le rfl) ⟨rfl, rfl⟩
  · replace h := rv_iff hc1 h
    refine rv_iload_n dX3_nightsByTryingRows_10 rfl 3 rfl ?_
    refine rv_istore (lv2 := [(4, .int x3), (0, .ref (ad 11)), (1, .int x1), (2, .int x2), (3, .int x3)]) dX3_nightsByTryingRows_11 (by decide) rfl ?_
    refine rv_sub [1, 2, 3, 4, 0] rfl ?_
    exact vh_X3_nightsByTryingRows_13 hk4 h
theorem vh_X3_nightsByTryingRows_4 {l : Launch} {D : va_G} {ta : Nat → ClassId} {ad : Nat → Nat} {μ : Mem} {x1 : Int32} {n : Nat} {x2 : Int32} {x3 : Int32} {r : Int32} (h : rv_loop (B_X3_nightsByTryingRows_4 μ x1) (fun _ _ => none) n x2 x3 = some r) : rv_V l D (rv_T ta) RX3 cX3_nightsByTryingRows 5 (some .int) ("", []) (rv_rm 5 0 0) (rv_M D (rv_F (rv_vI r) (wx ta ad μ)) 0 0) 0 0 (wx ta ad μ) 4 [(0, .ref (ad 11)), (1, .int x1), (2, .int x2), (3, .int x3)] [] := by
  induction n generalizing x2 x3 r with
  | zero => cases h
  | succ n ih => exact vB_X3_nightsByTryingRows_4 (fun h9 => ih h9) h
theorem ct_X3_nightsByTryingRows {l : Launch} {D : va_G} {ta : Nat → ClassId} {ad : Nat → Nat} {μ : Mem} {x1 : Int32} {r : Int32} (h : f_X3_nightsByTryingRows μ x1 = some r) : rv_C l D (rv_T ta) yX3_nightsByTryingRows cX3_nightsByTryingRows 5 (some .int) 5 0 0 [.ref (ad 11), .int x1] (wx ta ad μ) (rv_F (rv_vI r) (wx ta ad μ)) := by
  refine rv_Cof2 (own := RX3) (lv := [(0, .ref (ad 11)), (1, .int x1)]) rfl (by decide) (rv_le rfl) rfl ?_
  unfold f_X3_nightsByTryingRows at h
  refine rv_iconst (v := 0) dX3_nightsByTryingRows_0 (by decide) ?_
  refine rv_istore_n (lv2 := [(2, .int 0), (0, .ref (ad 11)), (1, .int x1)]) dX3_nightsByTryingRows_1 rfl (by decide) rfl ?_
  refine rv_iconst (v := 0) dX3_nightsByTryingRows_2 (by decide) ?_
  refine rv_istore_n (lv2 := [(3, .int 0), (2, .int 0), (0, .ref (ad 11)), (1, .int x1)]) dX3_nightsByTryingRows_3 rfl (by decide) rfl ?_
  refine rv_sub [2, 3, 1, 0] rfl ?_
  exact vh_X3_nightsByTryingRows_4 h
theorem vB_X3_sumByMoving_7 {l : Launch} {D : va_G} {ta : Nat → ClassId} {ad : Nat → Nat} {μ : Mem} {x1 : Int32} {k7 : Int32 → Int32 → Int32 → Option (Int32)} (hk7 : ∀ {x2 : Int32} {x3 : Int32} {x4 : Int32} {r : Int32}, k7 x2 x3 x4 = some r → rv_V l D (rv_T ta) RX3 cX3_sumByMoving 5 (some .int) ("", []) (rv_rm 4 0 0) (rv_M D (rv_F (rv_vI r) (wx ta ad μ)) 0 0) 0 0 (wx ta ad μ) 7 [(0, .ref (ad 11)), (1, .int x1), (2, .int x2), (3, .int x3), (4, .int x4)] []) {x2 : Int32} {x3 : Int32} {x4 : Int32} {r : Int32} (h : B_X3_sumByMoving_7 μ x1 k7 x2 x3 x4 = some r) : rv_V l D (rv_T ta) RX3 cX3_sumByMoving 5 (some .int) ("", []) (rv_rm 4 0 0) (rv_M D (rv_F (rv_vI r) (wx ta ad μ)) 0 0) 0 0 (wx ta ad μ) 7 [(0, .ref (ad 11)), (1, .int x1), (2, .int x2), (3, .int x3), (4, .int x4)] [] := by
  unfold B_X3_sumByMoving_7 at h
  refine rv_iload dX3_sumByMoving_7 4 rfl ?_
  refine rv_bipush (v := 8) dX3_sumByMoving_9 (by decide) ?_
  refine rv_icmp_ge (tgt := 66) dX3_sumByMoving_11 (by decide) (fun hc1 => ?_) (fun hc1 => ?_)
  · replace h := rv_ift hc1 h
    refine rv_iload_n dX3_sumByMoving_66 rfl 2 rfl ?_
    obtain rfl := Option.some.inj h
    exact rv_iret rfl dX3_sumByMoving_67 (rv_le rfl) (rv_le rfl) ⟨rfl, rfl⟩
  · replace h := rv_iff hc1 h
    refine rv_iload_n dX3_sumByMoving_14 rfl 3 rfl ?_
    refine rv_aload_n dX3_sumByMoving_15 rfl 0 rfl ?_
    refine rv_iload_n dX3_sumByMoving_16 rfl 1 rfl ?_
    refine rv_iload dX3_sumByMoving_17 4 rfl ?_
    obtain ⟨r2, hr2, h⟩ := rv_bind h
    refine rv_callV1 (rest := [.int x3]) (ct_X3_minutesAt hr2) wm_X3_58 wi_X3_minutesAt wl_X3_minutesAt wc_X3_minutesAt wz_X3 rfl np_X3_minutesAt dX3_sumByMoving_19 rfl ⟨rv_le rfl, rv_le rfl⟩ ⟨rv_le rfl, rv_le rfl⟩ (rv_le rfl) 11 (wx_11 ta ad μ) cl_X3 ?_
    refine rv_aload_n dX3_sumByMoving_22 rfl 0 rfl ?_
    refine rv_iload_n dX3_sumByMoving_23 rfl 1 rfl ?_
    refine rv_iload dX3_sumByMoving_24 4 rfl ?_
    refine rv_aload_n dX3_sumByMoving_26 rfl 0 rfl ?_
    refine gf_X3_15 dX3_sumByMoving_27 11 (wx_11 ta ad μ) rfl ?_
    refine gf_X3_61 dX3_sumByMoving_30 4 (wx_4 ta ad μ) rfl ?_
    refine rv_isub dX3_sumByMoving_33 ?_
    obtain ⟨r3, hr3, h⟩ := rv_bind h
    refine rv_callV1 (rest := [.int r2, .int x3]) (ct_X3_minutesAt hr3) wm_X3_58 wi_X3_minutesAt wl_X3_minutesAt wc_X3_minutesAt wz_X3 rfl np_X3_minutesAt dX3_sumByMoving_34 rfl ⟨rv_le rfl, rv_le rfl⟩ ⟨rv_le rfl, rv_le rfl⟩ (rv_le rfl) 11 (wx_11 ta ad μ) cl_X3 ?_
    refine rv_isub dX3_sumByMoving_37 ?_
    refine rv_iadd dX3_sumByMoving_38 ?_
    refine rv_istore_n (lv2 := [(3, .int (x3 + (r2 - r3))), (0, .ref (ad 11)), (1, .int x1), (2, .int x2), (4, .int x4)]) dX3_sumByMoving_39 rfl (by decide) rfl ?_
    refine rv_iload dX3_sumByMoving_40 4 rfl ?_
    refine rv_aload_n dX3_sumByMoving_42 rfl 1 rfl ?_
    refine gf_X3_15 dX3_sumByMoving_43 11 (wx_11 ta ad μ) rfl ?_
    refine gf_X3_61 dX3_sumByMoving_46 4 (wx_4 ta ad μ) rfl ?_
    refine rv_iconst (v := 1) dX3_sumByMoving_49 (by decide) ?_
    refine rv_isub dX3_sumByMoving_50 ?_
    refine rv_icmp_lt (tgt := 60) dX3_sumByMoving_51 (by decide) (fun hc4 => ?_) (fun hc4 => ?_)
    · replace h := rv_ift hc4 h
      refine rv_iinc (v := (x4 + 1)) (lv2 := [(4, .int (x4 + 1)), (3, .int (x3 + (r2 - r3))), (0, .ref (ad 11)), (1, .int x1), (2, .int x2)]) dX3_sumByMoving_60 4 rfl rfl (by decide) rfl ?_
      refine rv_goto (tgt := 7) dX3_sumByMoving_63 (by decide) ?_
      refine rv_sub [2, 3, 4, 1, 0] rfl ?_
      exact hk7 h
    · replace h := rv_iff hc4 h
      refine rv_iload_n dX3_sumByMoving_54 rfl 3 rfl ?_
      refine rv_iload_n dX3_sumByMoving_55 rfl 0 rfl ?_
      refine rv_mmax wm_X3_49 ws_max wz_max wc_max (rv_le rfl) (rv_le rfl) (rv_le rfl) (rv_le rfl) dX3_sumByMoving_56 ?_
      refine rv_istore_n (lv2 := [(2, .int (if x2 < (x3 + (r2 - r3)) then (x3 + (r2 - r3)) else x2)), (3, .int (x3 + (r2 - r3))), (0, .ref (ad 11)), (1, .int x1), (4, .int x4)]) dX3_sumByMoving_59 rfl (by decide) rfl ?_
      refine rv_iinc (v := (x4 + 1)) (lv2 := [(4, .int (x4 + 1)), (2, .int (if x2 < (x3 + (r2 - r3)) then (x3 + (r2 - r3)) else x2)), (3, .int (x3 + (r2 - r3))), (0, .ref (ad 11)), (1, .int x1)]) dX3_sumByMoving_60 4 rfl rfl (by decide) rfl ?_
      refine rv_goto (tgt := 7) dX3_sumByMoving_63 (by decide) ?_
      refine rv_sub [3, 4, 1, 2, 0] rfl ?_
      exact hk7 h
theorem vh_X3_sumByMoving_7 {l : Launch} {D : va_G} {ta : Nat → ClassId} {ad : Nat → Nat} {μ : Mem} {x1 : Int32} {n : Nat} {x2 : Int32} {x3 : Int32} {x4 : Int32} {r : Int32} (h : rv_loop (B_X3_sumByMoving_7 μ x1) (fun _ _ _ => none) n x2 x3 x4 = some r) : rv_V l D (rv_T ta) RX3 cX3_sumByMoving 5 (some .int) ("", []) (rv_rm 4 0 0) (rv_M D (rv_F (rv_vI r) (wx ta ad μ)) 0 0) 0 0 (wx ta ad μ) 7 [(0, .ref (ad 11)), (1, .int x1), (2, .int x2), (3, .int x3), (4, .int x4)] [] := by
  induction n generalizing x2 x3 x4 r with
  | zero => cases h
  | succ n ih => exact vB_X3_sumByMoving_7 (fun h9 => ih h9) h
theorem ct_X3_sumByMoving {l : Launch} {D : va_G} {ta : Nat → ClassId} {ad : Nat → Nat} {μ : Mem} {x1 : Int32} {r : Int32} (h : f_X3_sumByMoving μ x1 = some r) : rv_C l D (rv_T ta) yX3_sumByMoving cX3_sumByMoving 5 (some .int) 4 0 0 [.ref (ad 11), .int x1] (wx ta ad μ) (rv_F (rv_vI r) (wx ta ad μ)) := by
  refine rv_Cof2 (own := RX3) (lv := [(0, .ref (ad 11)), (1, .int x1)]) rfl (by decide) (rv_le rfl) rfl ?_
  unfold f_X3_sumByMoving at h
  refine rv_iconst (v := 0) dX3_sumByMoving_0 (by decide) ?_
  refine rv_istore_n (lv2 := [(2, .int 0), (0, .ref (ad 11)), (1, .int x1)]) dX3_sumByMoving_1 rfl (by decide) rfl ?_
  refine rv_iconst (v := 0) dX3_sumByMoving_2 (by decide) ?_
  refine rv_istore_n (lv2 := [(3, .int 0), (2, .int 0), (0, .ref (ad 11)), (1, .int x1)]) dX3_sumByMoving_3 rfl (by decide) rfl ?_
  refine rv_iconst (v := 0) dX3_sumByMoving_4 (by decide) ?_
  refine rv_istore (lv2 := [(4, .int 0), (3, .int 0), (2, .int 0), (0, .ref (ad 11)), (1, .int x1)]) dX3_sumByMoving_5 (by decide) rfl ?_
  refine rv_sub [3, 4, 2, 1, 0] rfl ?_
  exact vh_X3_sumByMoving_7 h
theorem vB_X3_sumByAddingAnew_24 {l : Launch} {D : va_G} {ta : Nat → ClassId} {ad : Nat → Nat} {μ : Mem} {x1 : Int32} {x2 : Int32} {x3 : Int32} {k4 : Int32 → Int32 → Option (Int32)} (hk4 : ∀ {x2 : Int32} {x3 : Int32} {r : Int32}, k4 x2 x3 = some r → rv_V l D (rv_T ta) RX3 cX3_sumByAddingAnew 6 (some .int) ("", []) (rv_rm 4 0 0) (rv_M D (rv_F (rv_vI r) (wx ta ad μ)) 0 0) 0 0 (wx ta ad μ) 4 [(0, .ref (ad 11)), (1, .int x1), (2, .int x2), (3, .int x3)] []) {k24 : Int32 → Int32 → Option (Int32)} (hk24 : ∀ {x4 : Int32} {x5 : Int32} {r : Int32}, k24 x4 x5 = some r → rv_V l D (rv_T ta) RX3 cX3_sumByAddingAnew 6 (some .int) ("", []) (rv_rm 4 0 0) (rv_M D (rv_F (rv_vI r) (wx ta ad μ)) 0 0) 0 0 (wx ta ad μ) 24 [(0, .ref (ad 11)), (1, .int x1), (2, .int x2), (3, .int x3), (4, .int x4), (5, .int x5)] []) {x4 : Int32} {x5 : Int32} {r : Int32} (h : B_X3_sumByAddingAnew_24 μ x1 x2 x3 k4 k24 x4 x5 = some r) : rv_V l D (rv_T ta) RX3 cX3_sumByAddingAnew 6 (some .int) ("", []) (rv_rm 4 0 0) (rv_M D (rv_F (rv_vI r) (wx ta ad μ)) 0 0) 0 0 (wx ta ad μ) 24 [(0, .ref (ad 11)), (1, .int x1), (2, .int x2), (3, .int x3), (4, .int x4), (5, .int x5)] [] := by
  unfold B_X3_sumByAddingAnew_24 at h
  refine rv_iload dX3_sumByAddingAnew_24 5 rfl ?_
  refine rv_iload_n dX3_sumByAddingAnew_26 rfl 3 rfl ?_
  refine rv_aload_n dX3_sumByAddingAnew_27 rfl 0 rfl ?_
  refine gf_X3_15 dX3_sumByAddingAnew_28 11 (wx_11 ta ad μ) rfl ?_
  refine gf_X3_61 dX3_sumByAddingAnew_31 4 (wx_4 ta ad μ) rfl ?_
  refine rv_iadd dX3_sumByAddingAnew_34 ?_
  refine rv_icmp_ge (tgt := 56) dX3_sumByAddingAnew_35 (by decide) (fun hc2 => ?_) (fun hc2 => ?_)
  · replace h := rv_ift hc2 h
    refine rv_iload_n dX3_sumByAddingAnew_56 rfl 2 rfl ?_
    refine rv_iload dX3_sumByAddingAnew_57 4 rfl ?_
    refine rv_mmax wm_X3_49 ws_max wz_max wc_max (rv_le rfl) (rv_le rfl) (rv_le rfl) (rv_le rfl) dX3_sumByAddingAnew_59 ?_
    refine rv_istore_n (lv2 := [(2, .int (if x2 < x4 then x4 else x2)), (0, .ref (ad 11)), (1, .int x1), (3, .int x3), (4, .int x4), (5, .int x5)]) dX3_sumByAddingAnew_62 rfl (by decide) rfl ?_
    refine rv_iinc (v := (x3 + 1)) (lv2 := [(3, .int (x3 + 1)), (2, .int (if x2 < x4 then x4 else x2)), (0, .ref (ad 11)), (1, .int x1), (4, .int x4), (5, .int x5)]) dX3_sumByAddingAnew_63 3 rfl rfl (by decide) rfl ?_
    refine rv_goto (tgt := 4) dX3_sumByAddingAnew_66 (by decide) ?_
    refine rv_sub [2, 3, 1, 0] rfl ?_
    exact hk4 h
  · replace h := rv_iff hc2 h
    refine rv_iload dX3_sumByAddingAnew_38 4 rfl ?_
    refine rv_aload_n dX3_sumByAddingAnew_40 rfl 0 rfl ?_
    refine rv_iload_n dX3_sumByAddingAnew_41 rfl 1 rfl ?_
    refine rv_iload dX3_sumByAddingAnew_42 5 rfl ?_
    obtain ⟨r3, hr3, h⟩ := rv_bind h
    refine rv_callV1 (rest := [.int x4]) (ct_X3_minutesAt hr3) wm_X3_58 wi_X3_minutesAt wl_X3_minutesAt wc_X3_minutesAt wz_X3 rfl np_X3_minutesAt dX3_sumByAddingAnew_44 rfl ⟨rv_le rfl, rv_le rfl⟩ ⟨rv_le rfl, rv_le rfl⟩ (rv_le rfl) 11 (wx_11 ta ad μ) cl_X3 ?_
    refine rv_iadd dX3_sumByAddingAnew_47 ?_
    refine rv_istore (lv2 := [(4, .int (x4 + r3)), (0, .ref (ad 11)), (1, .int x1), (2, .int x2), (3, .int x3), (5, .int x5)]) dX3_sumByAddingAnew_48 (by decide) rfl ?_
    refine rv_iinc (v := (x5 + 1)) (lv2 := [(5, .int (x5 + 1)), (4, .int (x4 + r3)), (0, .ref (ad 11)), (1, .int x1), (2, .int x2), (3, .int x3)]) dX3_sumByAddingAnew_50 5 rfl rfl (by decide) rfl ?_
    refine rv_goto (tgt := 24) dX3_sumByAddingAnew_53 (by decide) ?_
    refine rv_sub [2, 3, 4, 5, 1, 0] rfl ?_
    exact hk24 h
theorem vh_X3_sumByAddingAnew_24 {l : Launch} {D : va_G} {ta : Nat → ClassId} {ad : Nat → Nat} {μ : Mem} {x1 : Int32} {x2 : Int32} {x3 : Int32} {k4 : Int32 → Int32 → Option (Int32)} (hk4 : ∀ {x2 : Int32} {x3 : Int32} {r : Int32}, k4 x2 x3 = some r → rv_V l D (rv_T ta) RX3 cX3_sumByAddingAnew 6 (some .int) ("", []) (rv_rm 4 0 0) (rv_M D (rv_F (rv_vI r) (wx ta ad μ)) 0 0) 0 0 (wx ta ad μ) 4 [(0, .ref (ad 11)), (1, .int x1), (2, .int x2), (3, .int x3)] []) {n : Nat} {x4 : Int32} {x5 : Int32} {r : Int32} (h : rv_loop (B_X3_sumByAddingAnew_24 μ x1 x2 x3 k4) (fun _ _ => none) n x4 x5 = some r) : rv_V l D (rv_T ta) RX3 cX3_sumByAddingAnew 6 (some .int) ("", []) (rv_rm 4 0 0) (rv_M D (rv_F (rv_vI r) (wx ta ad μ)) 0 0) 0 0 (wx ta ad μ) 24 [(0, .ref (ad 11)), (1, .int x1), (2, .int x2), (3, .int x3), (4, .int x4), (5, .int x5)] [] := by
  induction n generalizing x4 x5 r with
  | zero => cases h
  | succ n ih => exact vB_X3_sumByAddingAnew_24 hk4 (fun h9 => ih h9) h
theorem vB_X3_sumByAddingAnew_4 {l : Launch} {D : va_G} {ta : Nat → ClassId} {ad : Nat → Nat} {μ : Mem} {x1 : Int32} {k4 : Int32 → Int32 → Option (Int32)} (hk4 : ∀ {x2 : Int32} {x3 : Int32} {r : Int32}, k4 x2 x3 = some r → rv_V l D (rv_T ta) RX3 cX3_sumByAddingAnew 6 (some .int) ("", []) (rv_rm 4 0 0) (rv_M D (rv_F (rv_vI r) (wx ta ad μ)) 0 0) 0 0 (wx ta ad μ) 4 [(0, .ref (ad 11)), (1, .int x1), (2, .int x2), (3, .int x3)] []) {x2 : Int32} {x3 : Int32} {r : Int32} (h : B_X3_sumByAddingAnew_4 μ x1 k4 x2 x3 = some r) : rv_V l D (rv_T ta) RX3 cX3_sumByAddingAnew 6 (some .int) ("", []) (rv_rm 4 0 0) (rv_M D (rv_F (rv_vI r) (wx ta ad μ)) 0 0) 0 0 (wx ta ad μ) 4 [(0, .ref (ad 11)), (1, .int x1), (2, .int x2), (3, .int x3)] [] := by
  unfold B_X3_sumByAddingAnew_4 at h
  refine rv_iload_n dX3_sumByAddingAnew_4 rfl 3 rfl ?_
  refine rv_aload_n dX3_sumByAddingAnew_5 rfl 0 rfl ?_
  refine gf_X3_15 dX3_sumByAddingAnew_6 11 (wx_11 ta ad μ) rfl ?_
  refine gf_X3_61 dX3_sumByAddingAnew_9 4 (wx_4 ta ad μ) rfl ?_
  refine rv_iadd dX3_sumByAddingAnew_12 ?_
  refine rv_bipush (v := 8) dX3_sumByAddingAnew_13 (by decide) ?_
  refine rv_icmp_gt (tgt := 69) dX3_sumByAddingAnew_15 (by decide) (fun hc1 => ?_) (fun hc1 => ?_)
  · replace h := rv_ift hc1 h
    refine rv_iload_n dX3_sumByAddingAnew_69 rfl 2 rfl ?_
    obtain rfl := Option.some.inj h
    exact rv_iret rfl dX3_sumByAddingAnew_70 (rv_le rfl) (rv_le rfl) ⟨rfl, rfl⟩
  · replace h := rv_iff hc1 h
    refine rv_iconst (v := 0) dX3_sumByAddingAnew_18 (by decide) ?_
    refine rv_istore (lv2 := [(4, .int 0), (0, .ref (ad 11)), (1, .int x1), (2, .int x2), (3, .int x3)]) dX3_sumByAddingAnew_19 (by decide) rfl ?_
    refine rv_iload_n dX3_sumByAddingAnew_21 rfl 4 rfl ?_
    refine rv_istore (lv2 := [(5, .int x3), (4, .int 0), (0, .ref (ad 11)), (1, .int x1), (2, .int x2), (3, .int x3)]) dX3_sumByAddingAnew_22 (by decide) rfl ?_
    refine rv_sub [2, 3, 4, 5, 1, 0] rfl ?_
    exact vh_X3_sumByAddingAnew_24 hk4 h
theorem vh_X3_sumByAddingAnew_4 {l : Launch} {D : va_G} {ta : Nat → ClassId} {ad : Nat → Nat} {μ : Mem} {x1 : Int32} {n : Nat} {x2 : Int32} {x3 : Int32} {r : Int32} (h : rv_loop (B_X3_sumByAddingAnew_4 μ x1) (fun _ _ => none) n x2 x3 = some r) : rv_V l D (rv_T ta) RX3 cX3_sumByAddingAnew 6 (some .int) ("", []) (rv_rm 4 0 0) (rv_M D (rv_F (rv_vI r) (wx ta ad μ)) 0 0) 0 0 (wx ta ad μ) 4 [(0, .ref (ad 11)), (1, .int x1), (2, .int x2), (3, .int x3)] [] := by
  induction n generalizing x2 x3 r with
  | zero => cases h
  | succ n ih => exact vB_X3_sumByAddingAnew_4 (fun h9 => ih h9) h
theorem ct_X3_sumByAddingAnew {l : Launch} {D : va_G} {ta : Nat → ClassId} {ad : Nat → Nat} {μ : Mem} {x1 : Int32} {r : Int32} (h : f_X3_sumByAddingAnew μ x1 = some r) : rv_C l D (rv_T ta) yX3_sumByAddingAnew cX3_sumByAddingAnew 6 (some .int) 4 0 0 [.ref (ad 11), .int x1] (wx ta ad μ) (rv_F (rv_vI r) (wx ta ad μ)) := by
  refine rv_Cof2 (own := RX3) (lv := [(0, .ref (ad 11)), (1, .int x1)]) rfl (by decide) (rv_le rfl) rfl ?_
  unfold f_X3_sumByAddingAnew at h
  refine rv_iconst (v := 0) dX3_sumByAddingAnew_0 (by decide) ?_
  refine rv_istore_n (lv2 := [(2, .int 0), (0, .ref (ad 11)), (1, .int x1)]) dX3_sumByAddingAnew_1 rfl (by decide) rfl ?_
  refine rv_iconst (v := 0) dX3_sumByAddingAnew_2 (by decide) ?_
  refine rv_istore_n (lv2 := [(3, .int 0), (2, .int 0), (0, .ref (ad 11)), (1, .int x1)]) dX3_sumByAddingAnew_3 rfl (by decide) rfl ?_
  refine rv_sub [2, 3, 1, 0] rfl ?_
  exact vh_X3_sumByAddingAnew_4 h
theorem ct_X8_dayOf {l : Launch} {D : va_G} {ta : Nat → ClassId} {ws : va_W} {x0 : Int32} {r : Int32} (h : f_X8_dayOf x0 = some r) : rv_C l D (rv_T ta) yX8_dayOf cX8_dayOf 1 (some .int) 1 0 0 [.int x0] ws (rv_F (rv_vI r) ws) := by
  refine rv_Cof2 (own := RX8) (lv := [(0, .int x0)]) rfl (by decide) (rv_le rfl) rfl ?_
  unfold f_X8_dayOf at h
  refine rv_iload_n dX8_dayOf_0 rfl 0 rfl ?_
  refine rv_iconst (v := 4) dX8_dayOf_1 (by decide) ?_
  refine rv_idiv dX8_dayOf_2 (by decide) ?_
  refine rv_bipush (v := 8) dX8_dayOf_3 (by decide) ?_
  refine rv_irem dX8_dayOf_5 (by decide) ?_
  obtain rfl := Option.some.inj h
  exact rv_iret rfl dX8_dayOf_6 (rv_le rfl) (rv_le rfl) ⟨rfl, rfl⟩
theorem ct_X8_personOf {l : Launch} {D : va_G} {ta : Nat → ClassId} {ws : va_W} {x0 : Int32} {r : Int32} (h : f_X8_personOf x0 = some r) : rv_C l D (rv_T ta) yX8_personOf cX8_personOf 1 (some .int) 1 0 0 [.int x0] ws (rv_F (rv_vI r) ws) := by
  refine rv_Cof2 (own := RX8) (lv := [(0, .int x0)]) rfl (by decide) (rv_le rfl) rfl ?_
  unfold f_X8_personOf at h
  refine rv_iload_n dX8_personOf_0 rfl 0 rfl ?_
  refine rv_bipush (v := 32) dX8_personOf_1 (by decide) ?_
  refine rv_idiv dX8_personOf_3 (by decide) ?_
  refine rv_iconst (v := 5) dX8_personOf_4 (by decide) ?_
  refine rv_irem dX8_personOf_5 (by decide) ?_
  refine rv_iconst (v := 1) dX8_personOf_6 (by decide) ?_
  refine rv_isub dX8_personOf_7 ?_
  obtain rfl := Option.some.inj h
  exact rv_iret rfl dX8_personOf_8 (rv_le rfl) (rv_le rfl) ⟨rfl, rfl⟩
theorem ct_X8_kindOf {l : Launch} {D : va_G} {ta : Nat → ClassId} {ws : va_W} {x0 : Int32} {r : Int32} (h : f_X8_kindOf x0 = some r) : rv_C l D (rv_T ta) yX8_kindOf cX8_kindOf 1 (some .int) 1 0 0 [.int x0] ws (rv_F (rv_vI r) ws) := by
  refine rv_Cof2 (own := RX8) (lv := [(0, .int x0)]) rfl (by decide) (rv_le rfl) rfl ?_
  unfold f_X8_kindOf at h
  refine rv_iload_n dX8_kindOf_0 rfl 0 rfl ?_
  refine rv_sipush (v := 160) dX8_kindOf_1 (by decide) ?_
  refine rv_idiv dX8_kindOf_4 (by decide) ?_
  obtain rfl := Option.some.inj h
  exact rv_iret rfl dX8_kindOf_5 (rv_le rfl) (rv_le rfl) ⟨rfl, rfl⟩
theorem vB_X4_cellsOf_9 {l : Launch} {D : va_G} {ta : Nat → ClassId} {ws : va_W} {x0 : Int32} {x2 : Int32} {k9 : Int32 → Int32 → Option (Int32)} (hk9 : ∀ {x3 : Int32} {x4 : Int32} {r : Int32}, k9 x3 x4 = some r → rv_V l D (rv_T ta) RX4 cX4_cellsOf 5 (some .int) ("", []) (rv_rm 2 0 0) (rv_M D (rv_F (rv_vI r) ws) 0 0) 0 0 ws 9 [(0, .int x0), (2, .int x2), (3, .int x3), (4, .int x4)] []) {x3 : Int32} {x4 : Int32} {r : Int32} (h : B_X4_cellsOf_9 x0 x2 k9 x3 x4 = some r) : rv_V l D (rv_T ta) RX4 cX4_cellsOf 5 (some .int) ("", []) (rv_rm 2 0 0) (rv_M D (rv_F (rv_vI r) ws) 0 0) 0 0 ws 9 [(0, .int x0), (2, .int x2), (3, .int x3), (4, .int x4)] [] := by
  unfold B_X4_cellsOf_9 at h
  refine rv_iload dX4_cellsOf_9 3 rfl ?_
  refine rv_iload_n dX4_cellsOf_11 rfl 1 rfl ?_
  refine rv_icmp_gt (tgt := 39) dX4_cellsOf_12 (by decide) (fun hc1 => ?_) (fun hc1 => ?_)
  · replace h := rv_ift hc1 h
    refine rv_iload_n dX4_cellsOf_39 rfl 2 rfl ?_
    obtain rfl := Option.some.inj h
    exact rv_iret rfl dX4_cellsOf_40 (rv_le rfl) (rv_le rfl) ⟨rfl, rfl⟩
  · replace h := rv_iff hc1 h
    refine rv_iload dX4_cellsOf_15 3 rfl ?_
    refine rv_bipush (v := 8) dX4_cellsOf_17 (by decide) ?_
    refine rv_icmp_ge (tgt := 39) dX4_cellsOf_19 (by decide) (fun hc2 => ?_) (fun hc2 => ?_)
    · replace h := rv_ift hc2 h
      refine rv_iload_n dX4_cellsOf_39 rfl 2 rfl ?_
      obtain rfl := Option.some.inj h
      exact rv_iret rfl dX4_cellsOf_40 (rv_le rfl) (rv_le rfl) ⟨rfl, rfl⟩
    · replace h := rv_iff hc2 h
      refine rv_iload_n dX4_cellsOf_22 rfl 2 rfl ?_
      refine rv_iconst (v := 1) dX4_cellsOf_23 (by decide) ?_
      refine rv_iload_n dX4_cellsOf_24 rfl 0 rfl ?_
      refine rv_iload dX4_cellsOf_25 3 rfl ?_
      obtain ⟨r3, hr3, h⟩ := rv_bind h
      refine rv_callSN1 (rest := [.int 1, .int x3]) (ct_X8_cellOf hr3) wm_X4_155 ws_X8_cellOf wc_X8_cellOf wz_X8 np_X8_cellOf dX4_cellsOf_27 rfl ⟨rv_le rfl, rv_le rfl⟩ ⟨rv_le rfl, rv_le rfl⟩ (rv_le rfl) ?_
      refine rv_ishl dX4_cellsOf_30 ?_
      refine rv_ior dX4_cellsOf_31 ?_
      refine rv_istore_n (lv2 := [(3, .int (x3 ||| (1 <<< (r3 &&& 31)))), (0, .int x0), (2, .int x2), (4, .int x4)]) dX4_cellsOf_32 rfl (by decide) rfl ?_
      refine rv_iinc (v := (x4 + 1)) (lv2 := [(4, .int (x4 + 1)), (3, .int (x3 ||| (1 <<< (r3 &&& 31)))), (0, .int x0), (2, .int x2)]) dX4_cellsOf_33 3 rfl rfl (by decide) rfl ?_
      refine rv_goto (tgt := 9) dX4_cellsOf_36 (by decide) ?_
      refine rv_sub [2, 3, 1, 0] rfl ?_
      exact hk9 h
theorem vh_X4_cellsOf_9 {l : Launch} {D : va_G} {ta : Nat → ClassId} {ws : va_W} {x0 : Int32} {x2 : Int32} {n : Nat} {x3 : Int32} {x4 : Int32} {r : Int32} (h : rv_loop (B_X4_cellsOf_9 x0 x2) (fun _ _ => none) n x3 x4 = some r) : rv_V l D (rv_T ta) RX4 cX4_cellsOf 5 (some .int) ("", []) (rv_rm 2 0 0) (rv_M D (rv_F (rv_vI r) ws) 0 0) 0 0 ws 9 [(0, .int x0), (2, .int x2), (3, .int x3), (4, .int x4)] [] := by
  induction n generalizing x3 x4 r with
  | zero => cases h
  | succ n ih => exact vB_X4_cellsOf_9 (fun h9 => ih h9) h
theorem ct_X4_cellsOf {l : Launch} {D : va_G} {ta : Nat → ClassId} {ws : va_W} {x0 : Int32} {x1 : Int32} {x2 : Int32} {r : Int32} (h : f_X4_cellsOf x0 x1 x2 = some r) : rv_C l D (rv_T ta) yX4_cellsOf cX4_cellsOf 5 (some .int) 2 0 0 [.int x0, .int x1, .int x2] ws (rv_F (rv_vI r) ws) := by
  refine rv_Cof2 (own := RX4) (lv := [(0, .int x0), (1, .int x1), (2, .int x2)]) rfl (by decide) (rv_le rfl) rfl ?_
  unfold f_X4_cellsOf at h
  refine rv_iconst (v := 0) dX4_cellsOf_0 (by decide) ?_
  refine rv_istore_n (lv2 := [(3, .int 0), (0, .int x0), (1, .int x1), (2, .int x2)]) dX4_cellsOf_1 rfl (by decide) rfl ?_
  refine rv_iload_n dX4_cellsOf_2 rfl 2 rfl ?_
  refine rv_iconst (v := 0) dX4_cellsOf_3 (by decide) ?_
  refine rv_mmax wm_X4_150 ws_max wz_max wc_max (rv_le rfl) (rv_le rfl) (rv_le rfl) (rv_le rfl) dX4_cellsOf_4 ?_
  refine rv_istore (lv2 := [(4, .int (if x1 < 0 then 0 else x1)), (3, .int 0), (0, .int x0), (1, .int x1), (2, .int x2)]) dX4_cellsOf_7 (by decide) rfl ?_
  refine rv_sub [2, 4, 1, 0] rfl ?_
  exact vh_X4_cellsOf_9 h
theorem vB_X4_cellsOfDay_4 {l : Launch} {D : va_G} {ta : Nat → ClassId} {ws : va_W} {x0 : Int32} {k4 : Int32 → Int32 → Option (Int32)} (hk4 : ∀ {x1 : Int32} {x2 : Int32} {r : Int32}, k4 x1 x2 = some r → rv_V l D (rv_T ta) RX4 cX4_cellsOfDay 3 (some .int) ("", []) (rv_rm 2 0 0) (rv_M D (rv_F (rv_vI r) ws) 0 0) 0 0 ws 4 [(0, .int x0), (1, .int x1), (2, .int x2)] []) {x1 : Int32} {x2 : Int32} {r : Int32} (h : B_X4_cellsOfDay_4 x0 k4 x1 x2 = some r) : rv_V l D (rv_T ta) RX4 cX4_cellsOfDay 3 (some .int) ("", []) (rv_rm 2 0 0) (rv_M D (rv_F (rv_vI r) ws) 0 0) 0 0 ws 4 [(0, .int x0), (1, .int x1), (2, .int x2)] [] := by
  unfold B_X4_cellsOfDay_4 at h
  refine rv_iload_n dX4_cellsOfDay_4 rfl 2 rfl ?_
  refine rv_iconst (v := 4) dX4_cellsOfDay_5 (by decide) ?_
  refine rv_icmp_ge (tgt := 25) dX4_cellsOfDay_6 (by decide) (fun hc1 => ?_) (fun hc1 => ?_)
  · replace h := rv_ift hc1 h
    refine rv_iload_n dX4_cellsOfDay_25 rfl 1 rfl ?_
    obtain rfl := Option.some.inj h
    exact rv_iret rfl dX4_cellsOfDay_26 (rv_le rfl) (rv_le rfl) ⟨rfl, rfl⟩
  · replace h := rv_iff hc1 h
    refine rv_iload_n dX4_cellsOfDay_9 rfl 1 rfl ?_
    refine rv_iconst (v := 1) dX4_cellsOfDay_10 (by decide) ?_
    refine rv_iload_n dX4_cellsOfDay_11 rfl 2 rfl ?_
    refine rv_iload_n dX4_cellsOfDay_12 rfl 0 rfl ?_
    obtain ⟨r2, hr2, h⟩ := rv_bind h
    refine rv_callSN1 (rest := [.int 1, .int x1]) (ct_X8_cellOf hr2) wm_X4_155 ws_X8_cellOf wc_X8_cellOf wz_X8 np_X8_cellOf dX4_cellsOfDay_13 rfl ⟨rv_le rfl, rv_le rfl⟩ ⟨rv_le rfl, rv_le rfl⟩ (rv_le rfl) ?_
    refine rv_ishl dX4_cellsOfDay_16 ?_
    refine rv_ior dX4_cellsOfDay_17 ?_
    refine rv_istore_n (lv2 := [(1, .int (x1 ||| (1 <<< (r2 &&& 31)))), (0, .int x0), (2, .int x2)]) dX4_cellsOfDay_18 rfl (by decide) rfl ?_
    refine rv_iinc (v := (x2 + 1)) (lv2 := [(2, .int (x2 + 1)), (1, .int (x1 ||| (1 <<< (r2 &&& 31)))), (0, .int x0)]) dX4_cellsOfDay_19 2 rfl rfl (by decide) rfl ?_
    refine rv_goto (tgt := 4) dX4_cellsOfDay_22 (by decide) ?_
    refine rv_sub [2, 1, 0] rfl ?_
    exact hk4 h
theorem vh_X4_cellsOfDay_4 {l : Launch} {D : va_G} {ta : Nat → ClassId} {ws : va_W} {x0 : Int32} {n : Nat} {x1 : Int32} {x2 : Int32} {r : Int32} (h : rv_loop (B_X4_cellsOfDay_4 x0) (fun _ _ => none) n x1 x2 = some r) : rv_V l D (rv_T ta) RX4 cX4_cellsOfDay 3 (some .int) ("", []) (rv_rm 2 0 0) (rv_M D (rv_F (rv_vI r) ws) 0 0) 0 0 ws 4 [(0, .int x0), (1, .int x1), (2, .int x2)] [] := by
  induction n generalizing x1 x2 r with
  | zero => cases h
  | succ n ih => exact vB_X4_cellsOfDay_4 (fun h9 => ih h9) h
theorem ct_X4_cellsOfDay {l : Launch} {D : va_G} {ta : Nat → ClassId} {ws : va_W} {x0 : Int32} {r : Int32} (h : f_X4_cellsOfDay x0 = some r) : rv_C l D (rv_T ta) yX4_cellsOfDay cX4_cellsOfDay 3 (some .int) 2 0 0 [.int x0] ws (rv_F (rv_vI r) ws) := by
  refine rv_Cof2 (own := RX4) (lv := [(0, .int x0)]) rfl (by decide) (rv_le rfl) rfl ?_
  unfold f_X4_cellsOfDay at h
  refine rv_iconst (v := 0) dX4_cellsOfDay_0 (by decide) ?_
  refine rv_istore_n (lv2 := [(1, .int 0), (0, .int x0)]) dX4_cellsOfDay_1 rfl (by decide) rfl ?_
  refine rv_iconst (v := 0) dX4_cellsOfDay_2 (by decide) ?_
  refine rv_istore_n (lv2 := [(2, .int 0), (1, .int 0), (0, .int x0)]) dX4_cellsOfDay_3 rfl (by decide) rfl ?_
  refine rv_sub [2, 1, 0] rfl ?_
  exact vh_X4_cellsOfDay_4 h
theorem ct_X4_touching {l : Launch} {D : va_G} {ta : Nat → ClassId} {ad : Nat → Nat} {μ : Mem} {x1 : Int32} {r : Int32} (h : f_X4_touching μ x1 = some r) : rv_C l D (rv_T ta) yX4_touching cX4_touching 4 (some .int) 4 0 0 [.ref (ad 17), .int x1] (wx ta ad μ) (rv_F (rv_vI r) (wx ta ad μ)) := by
  refine rv_Cof2 (own := RX4) (lv := [(0, .ref (ad 17)), (1, .int x1)]) rfl (by decide) (rv_le rfl) rfl ?_
  unfold f_X4_touching at h
  refine rv_iload_n dX4_touching_0 rfl 1 rfl ?_
  obtain ⟨r1, hr1, h⟩ := rv_bind h
  refine rv_callSN1 (rest := []) (ct_X8_dayOf hr1) wm_X4_117 ws_X8_dayOf wc_X8_dayOf wz_X8 np_X8_dayOf dX4_touching_1 rfl ⟨rv_le rfl, rv_le rfl⟩ ⟨rv_le rfl, rv_le rfl⟩ (rv_le rfl) ?_
  refine rv_istore_n (lv2 := [(2, .int r1), (0, .ref (ad 17)), (1, .int x1)]) dX4_touching_4 rfl (by decide) rfl ?_
  refine rv_iload_n dX4_touching_5 rfl 2 rfl ?_
  obtain ⟨r2, hr2, h⟩ := rv_bind h
  refine rv_callSN1 (rest := []) (ct_X8_personOf hr2) wm_X4_120 ws_X8_personOf wc_X8_personOf wz_X8 np_X8_personOf dX4_touching_6 rfl ⟨rv_le rfl, rv_le rfl⟩ ⟨rv_le rfl, rv_le rfl⟩ (rv_le rfl) ?_
  refine rv_istore_n (lv2 := [(3, .int r2), (2, .int r1), (0, .ref (ad 17)), (1, .int x1)]) dX4_touching_9 rfl (by decide) rfl ?_
  refine rv_iload_n dX4_touching_10 rfl 3 rfl ?_
  obtain ⟨r3, hr3, h⟩ := rv_bind h
  refine rv_callSN1 (rest := []) (ct_X8_kindOf hr3) wm_X4_123 ws_X8_kindOf wc_X8_kindOf wz_X8 np_X8_kindOf dX4_touching_11 rfl ⟨rv_le rfl, rv_le rfl⟩ ⟨rv_le rfl, rv_le rfl⟩ (rv_le rfl) ?_
  by_cases hc4 : r3 = 2
  · replace h := rv_ift hc4 h
    refine rv_tabIn (off := 34) (tgt := 48) dX4_touching_14 2 hc4 (by decide) (by decide) rfl (by decide) ?_
    refine rv_iload_n dX4_touching_48 rfl 0 rfl ?_
    refine rv_aload_n dX4_touching_49 rfl 2 rfl ?_
    refine gf_X4_37 dX4_touching_50 17 (wx_17 ta ad μ) rfl ?_
    refine rv_iload_n dX4_touching_53 rfl 0 rfl ?_
    refine rv_iload_n dX4_touching_54 rfl 1 rfl ?_
    obtain ⟨r5, hr5, h⟩ := rv_bind h
    refine rv_callV1 (rest := [.int r2]) (ct_X3_dayWorkedBefore hr5) wm_X4_126 wi_X3_dayWorkedBefore wl_X3_dayWorkedBefore wc_X3_dayWorkedBefore wz_X3 rfl np_X3_dayWorkedBefore dX4_touching_55 rfl ⟨rv_le rfl, rv_le rfl⟩ ⟨rv_le rfl, rv_le rfl⟩ (rv_le rfl) 11 (wx_11 ta ad μ) cl_X3 ?_
    refine rv_iload_n dX4_touching_58 rfl 1 rfl ?_
    obtain ⟨r6, hr6, h⟩ := rv_bind h
    refine rv_callS1 (rest := []) (ct_X4_cellsOf hr6) wm_X4_132 ws_X4_cellsOf wc_X4_cellsOf wz_X4 np_X4_cellsOf dX4_touching_59 rfl ⟨rv_le rfl, rv_le rfl⟩ ⟨rv_le rfl, rv_le rfl⟩ (rv_le rfl) ?_
    obtain rfl := Option.some.inj h
    exact rv_iret rfl dX4_touching_62 (rv_le rfl) (rv_le rfl) ⟨rfl, rfl⟩
  · replace h := rv_iff hc4 h
    by_cases hc7 : r3 = 3
    · replace h := rv_ift hc7 h
      refine rv_tabIn (off := 49) (tgt := 63) dX4_touching_14 3 hc7 (by decide) (by decide) rfl (by decide) ?_
      refine rv_iload_n dX4_touching_63 rfl 0 rfl ?_
      refine rv_iload_n dX4_touching_64 rfl 1 rfl ?_
      refine rv_aload_n dX4_touching_65 rfl 2 rfl ?_
      refine gf_X4_29 dX4_touching_66 17 (wx_17 ta ad μ) rfl ?_
      refine gf_X4_136 dX4_touching_69 4 (wx_4 ta ad μ) rfl ?_
      refine rv_isub dX4_touching_72 ?_
      refine rv_iload_n dX4_touching_73 rfl 1 rfl ?_
      obtain ⟨r8, hr8, h⟩ := rv_bind h
      refine rv_callS1 (rest := []) (ct_X4_cellsOf hr8) wm_X4_132 ws_X4_cellsOf wc_X4_cellsOf wz_X4 np_X4_cellsOf dX4_touching_74 rfl ⟨rv_le rfl, rv_le rfl⟩ ⟨rv_le rfl, rv_le rfl⟩ (rv_le rfl) ?_
      obtain rfl := Option.some.inj h
      exact rv_iret rfl dX4_touching_77 (rv_le rfl) (rv_le rfl) ⟨rfl, rfl⟩
    · replace h := rv_iff hc7 h
      by_cases hc9 : r3 = 4
      · replace h := rv_ift hc9 h
        refine rv_tabIn (off := 64) (tgt := 78) dX4_touching_14 4 hc9 (by decide) (by decide) rfl (by decide) ?_
        refine rv_iload_n dX4_touching_78 rfl 0 rfl ?_
        refine rv_iload_n dX4_touching_79 rfl 1 rfl ?_
        refine rv_aload_n dX4_touching_80 rfl 2 rfl ?_
        refine gf_X4_29 dX4_touching_81 17 (wx_17 ta ad μ) rfl ?_
        refine gf_X4_141 dX4_touching_84 4 (wx_4 ta ad μ) rfl ?_
        refine rv_isub dX4_touching_87 ?_
        refine rv_iload_n dX4_touching_88 rfl 1 rfl ?_
        obtain ⟨r10, hr10, h⟩ := rv_bind h
        refine rv_callS1 (rest := []) (ct_X4_cellsOf hr10) wm_X4_132 ws_X4_cellsOf wc_X4_cellsOf wz_X4 np_X4_cellsOf dX4_touching_89 rfl ⟨rv_le rfl, rv_le rfl⟩ ⟨rv_le rfl, rv_le rfl⟩ (rv_le rfl) ?_
        obtain rfl := Option.some.inj h
        exact rv_iret rfl dX4_touching_92 (rv_le rfl) (rv_le rfl) ⟨rfl, rfl⟩
      · replace h := rv_iff hc9 h
        by_cases hc11 : r3 = 5
        · replace h := rv_ift hc11 h
          refine rv_tabIn (off := 79) (tgt := 93) dX4_touching_14 5 hc11 (by decide) (by decide) rfl (by decide) ?_
          refine rv_iload_n dX4_touching_93 rfl 0 rfl ?_
          refine rv_iload_n dX4_touching_94 rfl 1 rfl ?_
          refine rv_iload_n dX4_touching_95 rfl 1 rfl ?_
          refine rv_aload_n dX4_touching_96 rfl 2 rfl ?_
          refine gf_X4_29 dX4_touching_97 17 (wx_17 ta ad μ) rfl ?_
          refine gf_X4_144 dX4_touching_100 4 (wx_4 ta ad μ) rfl ?_
          refine rv_iadd dX4_touching_103 ?_
          refine rv_iconst (v := 1) dX4_touching_104 (by decide) ?_
          refine rv_isub dX4_touching_105 ?_
          obtain ⟨r12, hr12, h⟩ := rv_bind h
          refine rv_callS1 (rest := []) (ct_X4_cellsOf hr12) wm_X4_132 ws_X4_cellsOf wc_X4_cellsOf wz_X4 np_X4_cellsOf dX4_touching_106 rfl ⟨rv_le rfl, rv_le rfl⟩ ⟨rv_le rfl, rv_le rfl⟩ (rv_le rfl) ?_
          obtain rfl := Option.some.inj h
          exact rv_iret rfl dX4_touching_109 (rv_le rfl) (rv_le rfl) ⟨rfl, rfl⟩
        · replace h := rv_iff hc11 h
          by_cases hc13 : r3 = 6
          · replace h := rv_ift hc13 h
            refine rv_tabIn (off := 96) (tgt := 110) dX4_touching_14 6 hc13 (by decide) (by decide) rfl (by decide) ?_
            refine rv_iload_n dX4_touching_110 rfl 1 rfl ?_
            obtain ⟨r14, hr14, h⟩ := rv_bind h
            refine rv_callS1 (rest := []) (ct_X4_cellsOfDay hr14) wm_X4_147 ws_X4_cellsOfDay wc_X4_cellsOfDay wz_X4 np_X4_cellsOfDay dX4_touching_111 rfl ⟨rv_le rfl, rv_le rfl⟩ ⟨rv_le rfl, rv_le rfl⟩ (rv_le rfl) ?_
            obtain rfl := Option.some.inj h
            exact rv_iret rfl dX4_touching_114 (rv_le rfl) (rv_le rfl) ⟨rfl, rfl⟩
          · replace h := rv_iff hc13 h
            refine rv_tabOut (tgt := 115) dX4_touching_14 ?_ (by decide) ?_
            · have e0 := rv_icn hc4
              have e1 := rv_icn hc7
              have e2 := rv_icn hc9
              have e3 := rv_icn hc11
              have e4 := rv_icn hc13
              clear h
              simp only [show (2 : Int32).toInt = 2 from by decide, show (3 : Int32).toInt = 3 from by decide, show (4 : Int32).toInt = 4 from by decide, show (5 : Int32).toInt = 5 from by decide, show (6 : Int32).toInt = 6 from by decide] at *
              omega
            · refine rv_iload_n dX4_touching_115 rfl 0 rfl ?_
              refine rv_iload_n dX4_touching_116 rfl 1 rfl ?_
              refine rv_iload_n dX4_touching_117 rfl 1 rfl ?_
              obtain ⟨r15, hr15, h⟩ := rv_bind h
              refine rv_callS1 (rest := []) (ct_X4_cellsOf hr15) wm_X4_132 ws_X4_cellsOf wc_X4_cellsOf wz_X4 np_X4_cellsOf dX4_touching_118 rfl ⟨rv_le rfl, rv_le rfl⟩ ⟨rv_le rfl, rv_le rfl⟩ (rv_le rfl) ?_
              obtain rfl := Option.some.inj h
              exact rv_iret rfl dX4_touching_121 (rv_le rfl) (rv_le rfl) ⟨rfl, rfl⟩
theorem ct_X4_has {l : Launch} {D : va_G} {ta : Nat → ClassId} {ws : va_W} {x0 : Int32} {x1 : Int32} {r : Int32} (h : f_X4_has x0 x1 = some r) : rv_C l D (rv_T ta) yX4_has cX4_has 2 (some .boolean) 1 0 0 [.int x0, .int x1] ws (rv_F (rv_vI r) ws) := by
  refine rv_Cof2 (own := RX4) (lv := [(0, .int x0), (1, .int x1)]) rfl (by decide) (rv_le rfl) rfl ?_
  unfold f_X4_has at h
  refine rv_iload_n dX4_has_0 rfl 0 rfl ?_
  refine rv_iload_n dX4_has_1 rfl 1 rfl ?_
  refine rv_iushr dX4_has_2 rfl ?_
  refine rv_iconst (v := 1) dX4_has_3 (by decide) ?_
  refine rv_iand dX4_has_4 ?_
  refine rv_iconst (v := 1) dX4_has_5 (by decide) ?_
  refine rv_icmp_ne (tgt := 13) dX4_has_6 (by decide) (fun hc1 => ?_) (fun hc1 => ?_)
  · replace h := rv_iff hc1 h
    refine rv_iconst (v := 0) dX4_has_13 (by decide) ?_
    obtain rfl := Option.some.inj h
    exact rv_zret rfl rfl dX4_has_14 (rv_le rfl) (rv_le rfl) ⟨rfl, rfl⟩
  · replace h := rv_ift hc1 h
    refine rv_iconst (v := 1) dX4_has_9 (by decide) ?_
    refine rv_goto (tgt := 14) dX4_has_10 (by decide) ?_
    obtain rfl := Option.some.inj h
    exact rv_zret rfl rfl dX4_has_14 (rv_le rfl) (rv_le rfl) ⟨rfl, rfl⟩
theorem ct_X5_valueAt {l : Launch} {D : va_G} {ta : Nat → ClassId} {ad : Nat → Nat} {μ : Mem} {x1 : Int32} {r : Int32} (h : f_X5_valueAt μ x1 = some r) : rv_C l D (rv_T ta) yX5_valueAt cX5_valueAt 2 (some .int) 1 0 0 [.ref (ad 6), .int x1] (wx ta ad μ) (rv_F (rv_vI r) (wx ta ad μ)) := by
  refine rv_Cof2 (own := RX5) (lv := [(0, .ref (ad 6)), (1, .int x1)]) rfl (by decide) (rv_le rfl) rfl ?_
  unfold f_X5_valueAt at h
  refine rv_iload_n dX5_valueAt_0 rfl 1 rfl ?_
  refine rv_if_lt (tgt := 19) dX5_valueAt_1 (by decide) (fun hc1 => ?_) (fun hc1 => ?_)
  · replace h := rv_ift hc1 h
    refine rv_iconst (v := 0) dX5_valueAt_19 (by decide) ?_
    obtain rfl := Option.some.inj h
    exact rv_iret rfl dX5_valueAt_20 (rv_le rfl) (rv_le rfl) ⟨rfl, rfl⟩
  · replace h := rv_iff hc1 h
    refine rv_iload_n dX5_valueAt_4 rfl 1 rfl ?_
    refine rv_bipush (v := 32) dX5_valueAt_5 (by decide) ?_
    refine rv_icmp_ge (tgt := 19) dX5_valueAt_7 (by decide) (fun hc2 => ?_) (fun hc2 => ?_)
    · replace h := rv_ift hc2 h
      refine rv_iconst (v := 0) dX5_valueAt_19 (by decide) ?_
      obtain rfl := Option.some.inj h
      exact rv_iret rfl dX5_valueAt_20 (rv_le rfl) (rv_le rfl) ⟨rfl, rfl⟩
    · replace h := rv_iff hc2 h
      refine rv_aload_n dX5_valueAt_10 rfl 0 rfl ?_
      refine gf_X5_9 dX5_valueAt_11 6 (wx_6 ta ad μ) rfl ?_
      refine rv_iload_n dX5_valueAt_14 rfl 1 rfl ?_
      obtain ⟨hi3, h⟩ := rv_ifn h
      refine rv_iald dX5_valueAt_15 0 rfl 7 (wx_7 ta ad μ) (rv_inP hi3) ?_
      refine rv_goto (tgt := 20) dX5_valueAt_16 (by decide) ?_
      obtain rfl := Option.some.inj h
      exact rv_iret rfl dX5_valueAt_20 (rv_le rfl) (rv_le rfl) ⟨rfl, rfl⟩
theorem ct_X5_countStaff {l : Launch} {D : va_G} {ta : Nat → ClassId} {ad : Nat → Nat} {μ : Mem} {x1 : Int32} {x2 : Int32} {x3 : Int32} {r : (Unit) × Mem} (h : f_X5_countStaff μ x1 x2 x3 = some r) : rv_C l D (rv_T ta) yX5_countStaff cX5_countStaff 5 none 2 0 0 [.ref (ad 6), .int x1, .int x2, .int x3] (wx ta ad μ) (rv_F (rv_vU r.1) (wx ta ad r.2)) := by
  refine rv_Cof2 (own := RX5) (lv := [(0, .ref (ad 6)), (1, .int x1), (2, .int x2), (3, .int x3)]) rfl (by decide) (rv_le rfl) rfl ?_
  unfold f_X5_countStaff at h
  refine rv_iload_n dX5_countStaff_0 rfl 1 rfl ?_
  refine rv_iload_n dX5_countStaff_1 rfl 2 rfl ?_
  obtain ⟨r1, hr1, h⟩ := rv_bind h
  refine rv_callSN1 (rest := []) (ct_X8_postOf hr1) wm_X5_37 ws_X8_postOf wc_X8_postOf wz_X8 np_X8_postOf dX5_countStaff_2 rfl ⟨rv_le rfl, rv_le rfl⟩ ⟨rv_le rfl, rv_le rfl⟩ (rv_le rfl) ?_
  refine rv_istore (lv2 := [(4, .int r1), (0, .ref (ad 6)), (1, .int x1), (2, .int x2), (3, .int x3)]) dX5_countStaff_5 (by decide) rfl ?_
  refine rv_iload dX5_countStaff_7 0 rfl ?_
  refine rv_if_lt (tgt := 30) dX5_countStaff_9 (by decide) (fun hc2 => ?_) (fun hc2 => ?_)
  · replace h := rv_ift hc2 h
    obtain rfl := Option.some.inj h
    exact rv_vret rfl dX5_countStaff_30 (rv_le rfl) (rv_le rfl) ⟨rfl, rfl⟩
  · replace h := rv_iff hc2 h
    refine rv_iload dX5_countStaff_12 0 rfl ?_
    refine rv_bipush (v := 24) dX5_countStaff_14 (by decide) ?_
    refine rv_icmp_ge (tgt := 30) dX5_countStaff_16 (by decide) (fun hc3 => ?_) (fun hc3 => ?_)
    · replace h := rv_ift hc3 h
      obtain rfl := Option.some.inj h
      exact rv_vret rfl dX5_countStaff_30 (rv_le rfl) (rv_le rfl) ⟨rfl, rfl⟩
    · replace h := rv_iff hc3 h
      refine rv_aload_n dX5_countStaff_19 rfl 1 rfl ?_
      refine gf_X5_22 dX5_countStaff_20 6 (wx_6 ta ad μ) rfl ?_
      refine rv_iload dX5_countStaff_23 0 rfl ?_
      refine rv_dup2 dX5_countStaff_25 rfl rfl ?_
      obtain ⟨hi4, h⟩ := rv_ifn h
      refine rv_iald dX5_countStaff_26 0 rfl 10 (wx_10 ta ad μ) (rv_inP hi4) ?_
      refine rv_iload_n dX5_countStaff_27 rfl 4 rfl ?_
      refine rv_iadd dX5_countStaff_28 ?_
      obtain ⟨hi5, h⟩ := rv_ifn h
      refine rv_iast dX5_countStaff_29 0 rfl 10 (wx_10 ta ad μ) (rv_inP hi5) (wx_s10 ta ad μ _ _) ?_
      obtain rfl := Option.some.inj h
      exact rv_vret rfl dX5_countStaff_30 (rv_le rfl) (rv_le rfl) ⟨rfl, rfl⟩
theorem ct_X5_put {l : Launch} {D : va_G} {ta : Nat → ClassId} {ad : Nat → Nat} {μ : Mem} {x1 : Int32} {x2 : Int32} {r : (Unit) × Mem} (h : f_X5_put μ x1 x2 = some r) : rv_C l D (rv_T ta) yX5_put cX5_put 3 none 3 0 0 [.ref (ad 6), .int x1, .int x2] (wx ta ad μ) (rv_F (rv_vU r.1) (wx ta ad r.2)) := by
  refine rv_Cof2 (own := RX5) (lv := [(0, .ref (ad 6)), (1, .int x1), (2, .int x2)]) rfl (by decide) (rv_le rfl) rfl ?_
  unfold f_X5_put at h
  refine rv_iload_n dX5_put_0 rfl 1 rfl ?_
  refine rv_if_lt (tgt := 19) dX5_put_1 (by decide) (fun hc1 => ?_) (fun hc1 => ?_)
  · replace h := rv_ift hc1 h
    obtain rfl := Option.some.inj h
    exact rv_vret rfl dX5_put_19 (rv_le rfl) (rv_le rfl) ⟨rfl, rfl⟩
  · replace h := rv_iff hc1 h
    refine rv_iload_n dX5_put_4 rfl 1 rfl ?_
    refine rv_bipush (v := 32) dX5_put_5 (by decide) ?_
    refine rv_icmp_ge (tgt := 19) dX5_put_7 (by decide) (fun hc2 => ?_) (fun hc2 => ?_)
    · replace h := rv_ift hc2 h
      obtain rfl := Option.some.inj h
      exact rv_vret rfl dX5_put_19 (rv_le rfl) (rv_le rfl) ⟨rfl, rfl⟩
    · replace h := rv_iff hc2 h
      refine rv_iload_n dX5_put_10 rfl 2 rfl ?_
      refine rv_if_lt (tgt := 19) dX5_put_11 (by decide) (fun hc3 => ?_) (fun hc3 => ?_)
      · replace h := rv_ift hc3 h
        obtain rfl := Option.some.inj h
        exact rv_vret rfl dX5_put_19 (rv_le rfl) (rv_le rfl) ⟨rfl, rfl⟩
      · replace h := rv_iff hc3 h
        refine rv_iload_n dX5_put_14 rfl 2 rfl ?_
        refine rv_iconst (v := 3) dX5_put_15 (by decide) ?_
        refine rv_icmp_le (tgt := 20) dX5_put_16 (by decide) (fun hc4 => ?_) (fun hc4 => ?_)
        · replace h := rv_ift hc4 h
          refine rv_aload_n dX5_put_20 rfl 0 rfl ?_
          refine rv_iload_n dX5_put_21 rfl 1 rfl ?_
          refine rv_bipush (v := 8) dX5_put_22 (by decide) ?_
          refine rv_irem dX5_put_24 (by decide) ?_
          refine rv_aload_n dX5_put_25 rfl 0 rfl ?_
          refine gf_X5_9 dX5_put_26 6 (wx_6 ta ad μ) rfl ?_
          refine rv_iload_n dX5_put_29 rfl 1 rfl ?_
          obtain ⟨hi5, h⟩ := rv_ifn h
          refine rv_iald dX5_put_30 0 rfl 7 (wx_7 ta ad μ) (rv_inP hi5) ?_
          refine rv_iconst (v := 1) dX5_put_31 (by decide) ?_
          refine rv_isub dX5_put_32 ?_
          refine rv_iconst (v := (-1)) dX5_put_33 (by decide) ?_
          obtain ⟨r6, hr6, h⟩ := rv_bind h
          refine rv_callV0 (rest := []) (ct_X5_countStaff hr6) wm_X5_33 wi_X5_countStaff wl_X5_countStaff wc_X5_countStaff wz_X5 rfl np_X5_countStaff dX5_put_34 rfl ⟨rv_le rfl, rv_le rfl⟩ ⟨rv_le rfl, rv_le rfl⟩ (rv_le rfl) 6 (wx_6 ta ad μ) cl_X5 ?_
          refine rv_aload_n dX5_put_37 rfl 0 rfl ?_
          refine gf_X5_9 dX5_put_38 6 (wx_6 ta ad r6.2) rfl ?_
          refine rv_iload_n dX5_put_41 rfl 1 rfl ?_
          refine rv_iload_n dX5_put_42 rfl 2 rfl ?_
          obtain ⟨hi7, h⟩ := rv_ifn h
          refine rv_iast dX5_put_43 0 rfl 7 (wx_7 ta ad r6.2) (rv_inP hi7) (wx_s7 ta ad r6.2 _ _) ?_
          refine rv_aload_n dX5_put_44 rfl 0 rfl ?_
          refine rv_iload_n dX5_put_45 rfl 1 rfl ?_
          refine rv_bipush (v := 8) dX5_put_46 (by decide) ?_
          refine rv_irem dX5_put_48 (by decide) ?_
          refine rv_iload_n dX5_put_49 rfl 2 rfl ?_
          refine rv_iconst (v := 1) dX5_put_50 (by decide) ?_
          refine rv_isub dX5_put_51 ?_
          refine rv_iconst (v := 1) dX5_put_52 (by decide) ?_
          obtain ⟨r8, hr8, h⟩ := rv_bind h
          refine rv_callV0 (rest := []) (ct_X5_countStaff hr8) wm_X5_33 wi_X5_countStaff wl_X5_countStaff wc_X5_countStaff wz_X5 rfl np_X5_countStaff dX5_put_53 rfl ⟨rv_le rfl, rv_le rfl⟩ ⟨rv_le rfl, rv_le rfl⟩ (rv_le rfl) 6 (wx_6 ta ad (mu_up r6.2 7 (Int32.toNatClampNeg x1) x2)) cl_X5 ?_
          obtain rfl := Option.some.inj h
          exact rv_vret rfl dX5_put_56 (rv_le rfl) (rv_le rfl) ⟨rfl, rfl⟩
        · replace h := rv_iff hc4 h
          obtain rfl := Option.some.inj h
          exact rv_vret rfl dX5_put_19 (rv_le rfl) (rv_le rfl) ⟨rfl, rfl⟩
theorem vb_X4_findLast_142 {l : Launch} {D : va_G} {ta : Nat → ClassId} {ad : Nat → Nat} {μ : Mem} {x1 : Int32} {x2 : Int32} {x3 : Int32} {x5 : Int32} {x6 : Int32} {x7 : Int32} {s0 : Int32} {k2 : Mem → Int32 → Option ((Int32) × Mem)} {k80 : Mem → Int32 → Option ((Int32) × Mem)} (hk2 : ∀ {μ : Mem} {x3 : Int32} {r : (Int32) × Mem}, k2 μ x3 = some r → rv_V l D (rv_T ta) RX4 cX4_findLast 9 (some .boolean) ("", []) (rv_rm 4 0 0) (rv_M D (rv_F (rv_vI r.1) (wx ta ad r.2)) 0 0) 0 0 (wx ta ad μ) 2 [(0, .ref (ad 17)), (1, .int x1), (2, .int x2), (3, .int x3)] []) (hk80 : ∀ {μ : Mem} {x7 : Int32} {r : (Int32) × Mem}, k80 μ x7 = some r → rv_V l D (rv_T ta) RX4 cX4_findLast 9 (some .boolean) ("", []) (rv_rm 4 0 0) (rv_M D (rv_F (rv_vI r.1) (wx ta ad r.2)) 0 0) 0 0 (wx ta ad μ) 80 [(0, .ref (ad 17)), (1, .int x1), (2, .int x2), (3, .int x3), (5, .int x5), (6, .int x6), (7, .int x7)] []) {r : (Int32) × Mem} (h : b_X4_findLast_142 μ k2 k80 x1 x2 x3 x5 x6 x7 s0 = some r) : rv_V l D (rv_T ta) RX4 cX4_findLast 9 (some .boolean) ("", []) (rv_rm 4 0 0) (rv_M D (rv_F (rv_vI r.1) (wx ta ad r.2)) 0 0) 0 0 (wx ta ad μ) 142 [(0, .ref (ad 17)), (1, .int x1), (2, .int x2), (3, .int x3), (5, .int x5), (6, .int x6), (7, .int x7)] [.int s0] := by
  unfold b_X4_findLast_142 at h
  refine rv_istore (lv2 := [(8, .int s0), (0, .ref (ad 17)), (1, .int x1), (2, .int x2), (3, .int x3), (5, .int x5), (6, .int x6), (7, .int x7)]) dX4_findLast_142 (by decide) rfl ?_
  refine rv_aload_n dX4_findLast_144 rfl 1 rfl ?_
  refine gf_X4_33 dX4_findLast_145 17 (wx_17 ta ad μ) rfl ?_
  refine rv_iload_n dX4_findLast_148 rfl 4 rfl ?_
  refine rv_iload dX4_findLast_149 5 rfl ?_
  obtain ⟨r11, hr11, h⟩ := rv_bind h
  refine rv_callV0 (rest := []) (ct_X5_put hr11) wm_X4_98 wi_X5_put wl_X5_put wc_X5_put wz_X5 rfl np_X5_put dX4_findLast_151 rfl ⟨rv_le rfl, rv_le rfl⟩ ⟨rv_le rfl, rv_le rfl⟩ (rv_le rfl) 6 (wx_6 ta ad μ) cl_X5 ?_
  refine rv_iload dX4_findLast_154 0 rfl ?_
  refine rv_if_eq (tgt := 172) dX4_findLast_156 (by decide) (fun hc12 => ?_) (fun hc12 => ?_)
  · replace h := rv_ift hc12 h
    refine rv_iinc (v := (x7 + 1)) (lv2 := [(7, .int (x7 + 1)), (8, .int s0), (0, .ref (ad 17)), (1, .int x1), (2, .int x2), (3, .int x3), (5, .int x5), (6, .int x6)]) dX4_findLast_172 7 rfl rfl (by decide) rfl ?_
    refine rv_goto (tgt := 80) dX4_findLast_175 (by decide) ?_
    refine rv_sub [2, 3, 4, 5, 6, 7, 0] rfl ?_
    exact hk80 h
  · replace h := rv_iff hc12 h
    refine rv_aload_n dX4_findLast_159 rfl 1 rfl ?_
    refine gf_X4_21 dX4_findLast_160 17 (wx_17 ta ad r11.2) rfl ?_
    refine rv_iload_n dX4_findLast_163 rfl 3 rfl ?_
    refine rv_iload_n dX4_findLast_164 rfl 4 rfl ?_
    refine rv_iload dX4_findLast_165 7 rfl ?_
    obtain ⟨r13, hr13, h⟩ := rv_bind h
    refine rv_callV0 (rest := []) (ct_X0_put_20 hr13) wm_X4_94 wi_X0_put wl_X0_put wc_X0_put wz_X0 rfl np_X0_put dX4_findLast_167 rfl ⟨rv_le rfl, rv_le rfl⟩ ⟨rv_le rfl, rv_le rfl⟩ (rv_le rfl) 20 (wx_20 ta ad r11.2) cl_X0 ?_
    refine rv_iconst (v := 1) dX4_findLast_170 (by decide) ?_
    obtain rfl := Option.some.inj h
    exact rv_zret rfl rfl dX4_findLast_171 (rv_le rfl) (rv_le rfl) ⟨rfl, rfl⟩
theorem vb_X4_findLast_141 {l : Launch} {D : va_G} {ta : Nat → ClassId} {ad : Nat → Nat} {μ : Mem} {x1 : Int32} {x2 : Int32} {x3 : Int32} {x5 : Int32} {x6 : Int32} {x7 : Int32} {k2 : Mem → Int32 → Option ((Int32) × Mem)} {k80 : Mem → Int32 → Option ((Int32) × Mem)} (hk2 : ∀ {μ : Mem} {x3 : Int32} {r : (Int32) × Mem}, k2 μ x3 = some r → rv_V l D (rv_T ta) RX4 cX4_findLast 9 (some .boolean) ("", []) (rv_rm 4 0 0) (rv_M D (rv_F (rv_vI r.1) (wx ta ad r.2)) 0 0) 0 0 (wx ta ad μ) 2 [(0, .ref (ad 17)), (1, .int x1), (2, .int x2), (3, .int x3)] []) (hk80 : ∀ {μ : Mem} {x7 : Int32} {r : (Int32) × Mem}, k80 μ x7 = some r → rv_V l D (rv_T ta) RX4 cX4_findLast 9 (some .boolean) ("", []) (rv_rm 4 0 0) (rv_M D (rv_F (rv_vI r.1) (wx ta ad r.2)) 0 0) 0 0 (wx ta ad μ) 80 [(0, .ref (ad 17)), (1, .int x1), (2, .int x2), (3, .int x3), (5, .int x5), (6, .int x6), (7, .int x7)] []) {r : (Int32) × Mem} (h : b_X4_findLast_141 μ k2 k80 x1 x2 x3 x5 x6 x7 = some r) : rv_V l D (rv_T ta) RX4 cX4_findLast 9 (some .boolean) ("", []) (rv_rm 4 0 0) (rv_M D (rv_F (rv_vI r.1) (wx ta ad r.2)) 0 0) 0 0 (wx ta ad μ) 141 [(0, .ref (ad 17)), (1, .int x1), (2, .int x2), (3, .int x3), (5, .int x5), (6, .int x6), (7, .int x7)] [] := by
  unfold b_X4_findLast_141 at h
  refine rv_iconst (v := 0) dX4_findLast_141 (by decide) ?_
  exact vb_X4_findLast_142 hk2 hk80 h
theorem vB_X4_findLast_80 {l : Launch} {D : va_G} {ta : Nat → ClassId} {ad : Nat → Nat} {x1 : Int32} {x2 : Int32} {x3 : Int32} {x5 : Int32} {x6 : Int32} {k2 : Mem → Int32 → Option ((Int32) × Mem)} (hk2 : ∀ {μ : Mem} {x3 : Int32} {r : (Int32) × Mem}, k2 μ x3 = some r → rv_V l D (rv_T ta) RX4 cX4_findLast 9 (some .boolean) ("", []) (rv_rm 4 0 0) (rv_M D (rv_F (rv_vI r.1) (wx ta ad r.2)) 0 0) 0 0 (wx ta ad μ) 2 [(0, .ref (ad 17)), (1, .int x1), (2, .int x2), (3, .int x3)] []) {k80 : Mem → Int32 → Option ((Int32) × Mem)} (hk80 : ∀ {μ : Mem} {x7 : Int32} {r : (Int32) × Mem}, k80 μ x7 = some r → rv_V l D (rv_T ta) RX4 cX4_findLast 9 (some .boolean) ("", []) (rv_rm 4 0 0) (rv_M D (rv_F (rv_vI r.1) (wx ta ad r.2)) 0 0) 0 0 (wx ta ad μ) 80 [(0, .ref (ad 17)), (1, .int x1), (2, .int x2), (3, .int x3), (5, .int x5), (6, .int x6), (7, .int x7)] []) {μ : Mem} {x7 : Int32} {r : (Int32) × Mem} (h : B_X4_findLast_80 x1 x2 x3 x5 x6 k2 k80 μ x7 = some r) : rv_V l D (rv_T ta) RX4 cX4_findLast 9 (some .boolean) ("", []) (rv_rm 4 0 0) (rv_M D (rv_F (rv_vI r.1) (wx ta ad r.2)) 0 0) 0 0 (wx ta ad μ) 80 [(0, .ref (ad 17)), (1, .int x1), (2, .int x2), (3, .int x3), (5, .int x5), (6, .int x6), (7, .int x7)] [] := by
  unfold B_X4_findLast_80 at h
  refine rv_iload dX4_findLast_80 6 rfl ?_
  refine rv_iload dX4_findLast_82 5 rfl ?_
  refine rv_icmp_gt (tgt := 178) dX4_findLast_84 (by decide) (fun hc6 => ?_) (fun hc6 => ?_)
  · replace h := rv_ift hc6 h
    refine rv_iinc (v := (x3 + 1)) (lv2 := [(3, .int (x3 + 1)), (0, .ref (ad 17)), (1, .int x1), (2, .int x2), (5, .int x5), (6, .int x6), (7, .int x7)]) dX4_findLast_178 3 rfl rfl (by decide) rfl ?_
    refine rv_goto (tgt := 2) dX4_findLast_181 (by decide) ?_
    refine rv_sub [1, 2, 3, 0] rfl ?_
    exact hk2 h
  · replace h := rv_iff hc6 h
    refine rv_iload dX4_findLast_87 6 rfl ?_
    refine rv_iload dX4_findLast_89 4 rfl ?_
    refine rv_icmp_ne (tgt := 97) dX4_findLast_91 (by decide) (fun hc7 => ?_) (fun hc7 => ?_)
    · replace h := rv_iff hc7 h
      refine rv_aload_n dX4_findLast_97 rfl 0 rfl ?_
      refine gf_X4_33 dX4_findLast_98 17 (wx_17 ta ad μ) rfl ?_
      refine rv_iload_n dX4_findLast_101 rfl 3 rfl ?_
      refine rv_iload dX4_findLast_102 6 rfl ?_
      obtain ⟨r8, hr8, h⟩ := rv_bind h
      refine rv_callV0 (rest := []) (ct_X5_put hr8) wm_X4_98 wi_X5_put wl_X5_put wc_X5_put wz_X5 rfl np_X5_put dX4_findLast_104 rfl ⟨rv_le rfl, rv_le rfl⟩ ⟨rv_le rfl, rv_le rfl⟩ (rv_le rfl) 6 (wx_6 ta ad μ) cl_X5 ?_
      refine rv_aload_n dX4_findLast_107 rfl 0 rfl ?_
      refine gf_X4_41 dX4_findLast_108 17 (wx_17 ta ad r8.2) rfl ?_
      refine rv_iload_n dX4_findLast_111 rfl 3 rfl ?_
      refine rv_bipush (v := 8) dX4_findLast_112 (by decide) ?_
      refine rv_irem dX4_findLast_114 (by decide) ?_
      obtain ⟨r9, hr9, h⟩ := rv_bind h
      refine rv_callV1 (rest := []) (ct_X1_shortagesOf hr9) wm_X4_108 wi_X1_shortagesOf wl_X1_shortagesOf wc_X1_shortagesOf wz_X1 rfl np_X1_shortagesOf dX4_findLast_115 rfl ⟨rv_le rfl, rv_le rfl⟩ ⟨rv_le rfl, rv_le rfl⟩ (rv_le rfl) 12 (wx_12 ta ad r8.2) cl_X1 ?_
      refine rv_if_ne (tgt := 141) dX4_findLast_118 (by decide) (fun hc10 => ?_) (fun hc10 => ?_)
      · replace h := rv_iff hc10 h
        exact vb_X4_findLast_141 hk2 hk80 h
      · replace h := rv_ift hc10 h
        refine rv_aload_n dX4_findLast_121 rfl 0 rfl ?_
        refine gf_X4_41 dX4_findLast_122 17 (wx_17 ta ad r8.2) rfl ?_
        refine rv_iload_n dX4_findLast_125 rfl 3 rfl ?_
        refine rv_bipush (v := 8) dX4_findLast_126 (by decide) ?_
        refine rv_idiv dX4_findLast_128 (by decide) ?_
        obtain ⟨r14, hr14, h⟩ := rv_bind h
        refine rv_callV1 (rest := []) (ct_X1_breachesOf hr14) wm_X4_100 wi_X1_breachesOf wl_X1_breachesOf wc_X1_breachesOf wz_X1 rfl np_X1_breachesOf dX4_findLast_129 rfl ⟨rv_le rfl, rv_le rfl⟩ ⟨rv_le rfl, rv_le rfl⟩ (rv_le rfl) 12 (wx_12 ta ad r8.2) cl_X1 ?_
        refine rv_lconst (v := 0) dX4_findLast_132 (by decide) ?_
        refine rv_lcmp dX4_findLast_133 ?_
        refine rv_if_ne (tgt := 141) dX4_findLast_134 (by decide) (fun hc15 => ?_) (fun hc15 => ?_)
        · replace h := rv_iff hc15 h
          exact vb_X4_findLast_141 hk2 hk80 h
        · replace h := rv_ift hc15 h
          refine rv_iconst (v := 1) dX4_findLast_137 (by decide) ?_
          refine rv_goto (tgt := 142) dX4_findLast_138 (by decide) ?_
          exact vb_X4_findLast_142 hk2 hk80 h
    · replace h := rv_ift hc7 h
      refine rv_goto (tgt := 172) dX4_findLast_94 (by decide) ?_
      refine rv_iinc (v := (x7 + 1)) (lv2 := [(7, .int (x7 + 1)), (0, .ref (ad 17)), (1, .int x1), (2, .int x2), (3, .int x3), (5, .int x5), (6, .int x6)]) dX4_findLast_172 6 rfl rfl (by decide) rfl ?_
      refine rv_goto (tgt := 80) dX4_findLast_175 (by decide) ?_
      refine rv_sub [1, 2, 3, 4, 5, 6, 0] rfl ?_
      exact hk80 h
theorem vh_X4_findLast_80 {l : Launch} {D : va_G} {ta : Nat → ClassId} {ad : Nat → Nat} {x1 : Int32} {x2 : Int32} {x3 : Int32} {x5 : Int32} {x6 : Int32} {k2 : Mem → Int32 → Option ((Int32) × Mem)} (hk2 : ∀ {μ : Mem} {x3 : Int32} {r : (Int32) × Mem}, k2 μ x3 = some r → rv_V l D (rv_T ta) RX4 cX4_findLast 9 (some .boolean) ("", []) (rv_rm 4 0 0) (rv_M D (rv_F (rv_vI r.1) (wx ta ad r.2)) 0 0) 0 0 (wx ta ad μ) 2 [(0, .ref (ad 17)), (1, .int x1), (2, .int x2), (3, .int x3)] []) {n : Nat} {μ : Mem} {x7 : Int32} {r : (Int32) × Mem} (h : rv_loop (B_X4_findLast_80 x1 x2 x3 x5 x6 k2) (fun _ _ => none) n μ x7 = some r) : rv_V l D (rv_T ta) RX4 cX4_findLast 9 (some .boolean) ("", []) (rv_rm 4 0 0) (rv_M D (rv_F (rv_vI r.1) (wx ta ad r.2)) 0 0) 0 0 (wx ta ad μ) 80 [(0, .ref (ad 17)), (1, .int x1), (2, .int x2), (3, .int x3), (5, .int x5), (6, .int x6), (7, .int x7)] [] := by
  induction n generalizing μ x7 r with
  | zero => cases h
  | succ n ih => exact vB_X4_findLast_80 hk2 (fun h9 => ih h9) h
theorem vb_X4_findLast_75 {l : Launch} {D : va_G} {ta : Nat → ClassId} {ad : Nat → Nat} {μ : Mem} {x1 : Int32} {x2 : Int32} {x3 : Int32} {x5 : Int32} {s0 : Int32} {k2 : Mem → Int32 → Option ((Int32) × Mem)} (hk2 : ∀ {μ : Mem} {x3 : Int32} {r : (Int32) × Mem}, k2 μ x3 = some r → rv_V l D (rv_T ta) RX4 cX4_findLast 9 (some .boolean) ("", []) (rv_rm 4 0 0) (rv_M D (rv_F (rv_vI r.1) (wx ta ad r.2)) 0 0) 0 0 (wx ta ad μ) 2 [(0, .ref (ad 17)), (1, .int x1), (2, .int x2), (3, .int x3)] []) {r : (Int32) × Mem} (h : b_X4_findLast_75 μ k2 x1 x2 x3 x5 s0 = some r) : rv_V l D (rv_T ta) RX4 cX4_findLast 9 (some .boolean) ("", []) (rv_rm 4 0 0) (rv_M D (rv_F (rv_vI r.1) (wx ta ad r.2)) 0 0) 0 0 (wx ta ad μ) 75 [(0, .ref (ad 17)), (1, .int x1), (2, .int x2), (3, .int x3), (5, .int x5)] [.int s0] := by
  unfold b_X4_findLast_75 at h
  refine rv_istore (lv2 := [(6, .int s0), (0, .ref (ad 17)), (1, .int x1), (2, .int x2), (3, .int x3), (5, .int x5)]) dX4_findLast_75 (by decide) rfl ?_
  refine rv_iconst (v := 0) dX4_findLast_77 (by decide) ?_
  refine rv_istore (lv2 := [(7, .int 0), (6, .int s0), (0, .ref (ad 17)), (1, .int x1), (2, .int x2), (3, .int x3), (5, .int x5)]) dX4_findLast_78 (by decide) rfl ?_
  refine rv_sub [2, 3, 4, 5, 6, 1, 0] rfl ?_
  exact vh_X4_findLast_80 hk2 h
theorem vb_X4_findLast_47 {l : Launch} {D : va_G} {ta : Nat → ClassId} {ad : Nat → Nat} {μ : Mem} {x1 : Int32} {x2 : Int32} {x3 : Int32} {s0 : Int32} {k2 : Mem → Int32 → Option ((Int32) × Mem)} (hk2 : ∀ {μ : Mem} {x3 : Int32} {r : (Int32) × Mem}, k2 μ x3 = some r → rv_V l D (rv_T ta) RX4 cX4_findLast 9 (some .boolean) ("", []) (rv_rm 4 0 0) (rv_M D (rv_F (rv_vI r.1) (wx ta ad r.2)) 0 0) 0 0 (wx ta ad μ) 2 [(0, .ref (ad 17)), (1, .int x1), (2, .int x2), (3, .int x3)] []) {r : (Int32) × Mem} (h : b_X4_findLast_47 μ k2 x1 x2 x3 s0 = some r) : rv_V l D (rv_T ta) RX4 cX4_findLast 9 (some .boolean) ("", []) (rv_rm 4 0 0) (rv_M D (rv_F (rv_vI r.1) (wx ta ad r.2)) 0 0) 0 0 (wx ta ad μ) 47 [(0, .ref (ad 17)), (1, .int x1), (2, .int x2), (3, .int x3)] [.int s0] := by
  unfold b_X4_findLast_47 at h
  refine rv_istore (lv2 := [(4, .int s0), (0, .ref (ad 17)), (1, .int x1), (2, .int x2), (3, .int x3)]) dX4_findLast_47 (by decide) rfl ?_
  refine rv_aload_n dX4_findLast_49 rfl 1 rfl ?_
  refine gf_X4_33 dX4_findLast_50 17 (wx_17 ta ad μ) rfl ?_
  refine rv_iload_n dX4_findLast_53 rfl 4 rfl ?_
  obtain ⟨r4, hr4, h⟩ := rv_bind h
  refine rv_callV1 (rest := []) (ct_X5_valueAt hr4) wm_X4_76 wi_X5_valueAt wl_X5_valueAt wc_X5_valueAt wz_X5 rfl np_X5_valueAt dX4_findLast_54 rfl ⟨rv_le rfl, rv_le rfl⟩ ⟨rv_le rfl, rv_le rfl⟩ (rv_le rfl) 6 (wx_6 ta ad μ) cl_X5 ?_
  refine rv_istore (lv2 := [(5, .int r4), (4, .int s0), (0, .ref (ad 17)), (1, .int x1), (2, .int x2), (3, .int x3)]) dX4_findLast_57 (by decide) rfl ?_
  refine rv_iload dX4_findLast_59 1 rfl ?_
  refine rv_if_eq (tgt := 74) dX4_findLast_61 (by decide) (fun hc5 => ?_) (fun hc5 => ?_)
  · replace h := rv_ift hc5 h
    refine rv_iconst (v := (-1)) dX4_findLast_74 (by decide) ?_
    refine rv_sub [2, 3, 4, 5, 0] rfl ?_
    exact vb_X4_findLast_75 hk2 h
  · replace h := rv_iff hc5 h
    refine rv_aload_n dX4_findLast_64 rfl 2 rfl ?_
    refine gf_X4_25 dX4_findLast_65 17 (wx_17 ta ad μ) rfl ?_
    refine gf_X4_82 dX4_findLast_68 1 (wx_1 ta ad μ) rfl ?_
    refine rv_goto (tgt := 75) dX4_findLast_71 (by decide) ?_
    refine rv_sub [2, 3, 4, 5, 0] rfl ?_
    exact vb_X4_findLast_75 hk2 h
theorem vb_X4_findLast_46 {l : Launch} {D : va_G} {ta : Nat → ClassId} {ad : Nat → Nat} {μ : Mem} {x1 : Int32} {x2 : Int32} {x3 : Int32} {k2 : Mem → Int32 → Option ((Int32) × Mem)} (hk2 : ∀ {μ : Mem} {x3 : Int32} {r : (Int32) × Mem}, k2 μ x3 = some r → rv_V l D (rv_T ta) RX4 cX4_findLast 9 (some .boolean) ("", []) (rv_rm 4 0 0) (rv_M D (rv_F (rv_vI r.1) (wx ta ad r.2)) 0 0) 0 0 (wx ta ad μ) 2 [(0, .ref (ad 17)), (1, .int x1), (2, .int x2), (3, .int x3)] []) {r : (Int32) × Mem} (h : b_X4_findLast_46 μ k2 x1 x2 x3 = some r) : rv_V l D (rv_T ta) RX4 cX4_findLast 9 (some .boolean) ("", []) (rv_rm 4 0 0) (rv_M D (rv_F (rv_vI r.1) (wx ta ad r.2)) 0 0) 0 0 (wx ta ad μ) 46 [(0, .ref (ad 17)), (1, .int x1), (2, .int x2), (3, .int x3)] [] := by
  unfold b_X4_findLast_46 at h
  refine rv_iconst (v := 0) dX4_findLast_46 (by decide) ?_
  exact vb_X4_findLast_47 hk2 h
theorem vB_X4_findLast_2 {l : Launch} {D : va_G} {ta : Nat → ClassId} {ad : Nat → Nat} {x1 : Int32} {x2 : Int32} {k2 : Mem → Int32 → Option ((Int32) × Mem)} (hk2 : ∀ {μ : Mem} {x3 : Int32} {r : (Int32) × Mem}, k2 μ x3 = some r → rv_V l D (rv_T ta) RX4 cX4_findLast 9 (some .boolean) ("", []) (rv_rm 4 0 0) (rv_M D (rv_F (rv_vI r.1) (wx ta ad r.2)) 0 0) 0 0 (wx ta ad μ) 2 [(0, .ref (ad 17)), (1, .int x1), (2, .int x2), (3, .int x3)] []) {μ : Mem} {x3 : Int32} {r : (Int32) × Mem} (h : B_X4_findLast_2 x1 x2 k2 μ x3 = some r) : rv_V l D (rv_T ta) RX4 cX4_findLast 9 (some .boolean) ("", []) (rv_rm 4 0 0) (rv_M D (rv_F (rv_vI r.1) (wx ta ad r.2)) 0 0) 0 0 (wx ta ad μ) 2 [(0, .ref (ad 17)), (1, .int x1), (2, .int x2), (3, .int x3)] [] := by
  unfold B_X4_findLast_2 at h
  refine rv_iload_n dX4_findLast_2 rfl 3 rfl ?_
  refine rv_aload_n dX4_findLast_3 rfl 0 rfl ?_
  refine gf_X4_33 dX4_findLast_4 17 (wx_17 ta ad μ) rfl ?_
  refine gf_X4_70 dX4_findLast_7 6 (wx_6 ta ad μ) rfl ?_
  refine rv_bipush (v := 8) dX4_findLast_10 (by decide) ?_
  refine rv_imul dX4_findLast_12 ?_
  refine rv_icmp_ge (tgt := 184) dX4_findLast_13 (by decide) (fun hc1 => ?_) (fun hc1 => ?_)
  · replace h := rv_ift hc1 h
    refine rv_iconst (v := 0) dX4_findLast_184 (by decide) ?_
    obtain rfl := Option.some.inj h
    exact rv_zret rfl rfl dX4_findLast_185 (rv_le rfl) (rv_le rfl) ⟨rfl, rfl⟩
  · replace h := rv_iff hc1 h
    refine rv_iload_n dX4_findLast_16 rfl 1 rfl ?_
    refine rv_iload_n dX4_findLast_17 rfl 3 rfl ?_
    obtain ⟨r2, hr2, h⟩ := rv_bind h
    refine rv_callS1 (rest := []) (ct_X4_has hr2) wm_X4_79 ws_X4_has wc_X4_has wz_X4 np_X4_has dX4_findLast_18 rfl ⟨rv_le rfl, rv_le rfl⟩ ⟨rv_le rfl, rv_le rfl⟩ (rv_le rfl) ?_
    refine rv_if_eq (tgt := 46) dX4_findLast_21 (by decide) (fun hc3 => ?_) (fun hc3 => ?_)
    · replace h := rv_ift hc3 h
      exact vb_X4_findLast_46 hk2 h
    · replace h := rv_iff hc3 h
      refine rv_aload_n dX4_findLast_24 rfl 0 rfl ?_
      refine gf_X4_12 dX4_findLast_25 17 (wx_17 ta ad μ) rfl ?_
      refine rv_iload_n dX4_findLast_28 rfl 3 rfl ?_
      refine rv_bipush (v := 8) dX4_findLast_29 (by decide) ?_
      refine rv_idiv dX4_findLast_31 (by decide) ?_
      refine rv_iload_n dX4_findLast_32 rfl 3 rfl ?_
      refine rv_bipush (v := 8) dX4_findLast_33 (by decide) ?_
      refine rv_irem dX4_findLast_35 (by decide) ?_
      obtain ⟨r16, hr16, h⟩ := rv_bind h
      refine rv_callV1 (rest := []) (ct_X2_isClearBesides_18 hr16) wm_X4_114 wi_X2_isClearBesides wl_X2_isClearBesides wc_X2_isClearBesides wz_X2 rfl np_X2_isClearBesides dX4_findLast_36 rfl ⟨rv_le rfl, rv_le rfl⟩ ⟨rv_le rfl, rv_le rfl⟩ (rv_le rfl) 18 (wx_18 ta ad μ) cl_X2 ?_
      refine rv_if_eq (tgt := 46) dX4_findLast_39 (by decide) (fun hc17 => ?_) (fun hc17 => ?_)
      · replace h := rv_ift hc17 h
        exact vb_X4_findLast_46 hk2 h
      · replace h := rv_iff hc17 h
        refine rv_iconst (v := 1) dX4_findLast_42 (by decide) ?_
        refine rv_goto (tgt := 47) dX4_findLast_43 (by decide) ?_
        exact vb_X4_findLast_47 hk2 h
theorem vh_X4_findLast_2 {l : Launch} {D : va_G} {ta : Nat → ClassId} {ad : Nat → Nat} {x1 : Int32} {x2 : Int32} {n : Nat} {μ : Mem} {x3 : Int32} {r : (Int32) × Mem} (h : rv_loop (B_X4_findLast_2 x1 x2) (fun _ _ => none) n μ x3 = some r) : rv_V l D (rv_T ta) RX4 cX4_findLast 9 (some .boolean) ("", []) (rv_rm 4 0 0) (rv_M D (rv_F (rv_vI r.1) (wx ta ad r.2)) 0 0) 0 0 (wx ta ad μ) 2 [(0, .ref (ad 17)), (1, .int x1), (2, .int x2), (3, .int x3)] [] := by
  induction n generalizing μ x3 r with
  | zero => cases h
  | succ n ih => exact vB_X4_findLast_2 (fun h9 => ih h9) h
theorem ct_X4_findLast {l : Launch} {D : va_G} {ta : Nat → ClassId} {ad : Nat → Nat} {μ : Mem} {x1 : Int32} {x2 : Int32} {r : (Int32) × Mem} (h : f_X4_findLast μ x1 x2 = some r) : rv_C l D (rv_T ta) yX4_findLast cX4_findLast 9 (some .boolean) 4 0 0 [.ref (ad 17), .int x1, .int x2] (wx ta ad μ) (rv_F (rv_vI r.1) (wx ta ad r.2)) := by
  refine rv_Cof2 (own := RX4) (lv := [(0, .ref (ad 17)), (1, .int x1), (2, .int x2)]) rfl (by decide) (rv_le rfl) rfl ?_
  unfold f_X4_findLast at h
  refine rv_iconst (v := 0) dX4_findLast_0 (by decide) ?_
  refine rv_istore_n (lv2 := [(3, .int 0), (0, .ref (ad 17)), (1, .int x1), (2, .int x2)]) dX4_findLast_1 rfl (by decide) rfl ?_
  refine rv_sub [1, 2, 3, 0] rfl ?_
  exact vh_X4_findLast_2 h
theorem ct_X4_change {l : Launch} {D : va_G} {ta : Nat → ClassId} {ad : Nat → Nat} {μ : Mem} {x1 : Int32} {x2 : Int32} {r : (Unit) × Mem} (h : f_X4_change μ x1 x2 = some r) : rv_C l D (rv_T ta) yX4_change cX4_change 3 none 4 0 0 [.ref (ad 17), .int x1, .int x2] (wx ta ad μ) (rv_F (rv_vU r.1) (wx ta ad r.2)) := by
  refine rv_Cof2 (own := RX4) (lv := [(0, .ref (ad 17)), (1, .int x1), (2, .int x2)]) rfl (by decide) (rv_le rfl) rfl ?_
  unfold f_X4_change at h
  refine rv_aload_n dX4_change_0 rfl 0 rfl ?_
  refine gf_X4_33 dX4_change_1 17 (wx_17 ta ad μ) rfl ?_
  refine rv_iload_n dX4_change_4 rfl 1 rfl ?_
  refine rv_iload_n dX4_change_5 rfl 2 rfl ?_
  obtain ⟨r1, hr1, h⟩ := rv_bind h
  refine rv_callV0 (rest := []) (ct_X5_put hr1) wm_X4_98 wi_X5_put wl_X5_put wc_X5_put wz_X5 rfl np_X5_put dX4_change_6 rfl ⟨rv_le rfl, rv_le rfl⟩ ⟨rv_le rfl, rv_le rfl⟩ (rv_le rfl) 6 (wx_6 ta ad μ) cl_X5 ?_
  refine rv_aload_n dX4_change_9 rfl 0 rfl ?_
  refine gf_X4_12 dX4_change_10 17 (wx_17 ta ad r1.2) rfl ?_
  refine rv_iload_n dX4_change_13 rfl 1 rfl ?_
  refine rv_bipush (v := 8) dX4_change_14 (by decide) ?_
  refine rv_idiv dX4_change_16 (by decide) ?_
  refine rv_aload_n dX4_change_17 rfl 0 rfl ?_
  refine gf_X4_41 dX4_change_18 17 (wx_17 ta ad r1.2) rfl ?_
  refine rv_iload_n dX4_change_21 rfl 1 rfl ?_
  refine rv_bipush (v := 8) dX4_change_22 (by decide) ?_
  refine rv_idiv dX4_change_24 (by decide) ?_
  obtain ⟨r2, hr2, h⟩ := rv_bind h
  refine rv_callV1 (rest := [.int (x1 / 8), .ref (ad 18)]) (ct_X1_breachesOf hr2) wm_X4_100 wi_X1_breachesOf wl_X1_breachesOf wc_X1_breachesOf wz_X1 rfl np_X1_breachesOf dX4_change_25 rfl ⟨rv_le rfl, rv_le rfl⟩ ⟨rv_le rfl, rv_le rfl⟩ (rv_le rfl) 12 (wx_12 ta ad r1.2) cl_X1 ?_
  obtain ⟨r3, hr3, h⟩ := rv_bind h
  refine rv_callV0 (rest := []) (ct_X2_putRow_18 hr3) wm_X4_104 wi_X2_putRow wl_X2_putRow wc_X2_putRow wz_X2 rfl np_X2_putRow dX4_change_28 rfl ⟨rv_le rfl, rv_le rfl⟩ ⟨rv_le rfl, rv_le rfl⟩ (rv_le rfl) 18 (wx_18 ta ad r1.2) cl_X2 ?_
  refine rv_aload_n dX4_change_31 rfl 0 rfl ?_
  refine gf_X4_12 dX4_change_32 17 (wx_17 ta ad r3.2) rfl ?_
  refine rv_iload_n dX4_change_35 rfl 1 rfl ?_
  refine rv_bipush (v := 8) dX4_change_36 (by decide) ?_
  refine rv_irem dX4_change_38 (by decide) ?_
  refine rv_aload_n dX4_change_39 rfl 0 rfl ?_
  refine gf_X4_41 dX4_change_40 17 (wx_17 ta ad r3.2) rfl ?_
  refine rv_iload_n dX4_change_43 rfl 1 rfl ?_
  refine rv_bipush (v := 8) dX4_change_44 (by decide) ?_
  refine rv_irem dX4_change_46 (by decide) ?_
  obtain ⟨r4, hr4, h⟩ := rv_bind h
  refine rv_callV1 (rest := [.int (x1 - x1 / 8 * 8), .ref (ad 18)]) (ct_X1_shortagesOf hr4) wm_X4_108 wi_X1_shortagesOf wl_X1_shortagesOf wc_X1_shortagesOf wz_X1 rfl np_X1_shortagesOf dX4_change_47 rfl ⟨rv_le rfl, rv_le rfl⟩ ⟨rv_le rfl, rv_le rfl⟩ (rv_le rfl) 12 (wx_12 ta ad r3.2) cl_X1 ?_
  obtain ⟨r5, hr5, h⟩ := rv_bind h
  refine rv_callV0 (rest := []) (ct_X2_putShortages_18 hr5) wm_X4_111 wi_X2_putShortages wl_X2_putShortages wc_X2_putShortages wz_X2 rfl np_X2_putShortages dX4_change_50 rfl ⟨rv_le rfl, rv_le rfl⟩ ⟨rv_le rfl, rv_le rfl⟩ (rv_le rfl) 18 (wx_18 ta ad r3.2) cl_X2 ?_
  obtain rfl := Option.some.inj h
  exact rv_vret rfl dX4_change_53 (rv_le rfl) (rv_le rfl) ⟨rfl, rfl⟩
theorem ct_X4_cellsAfter {l : Launch} {D : va_G} {ta : Nat → ClassId} {ws : va_W} {x0 : Int32} {r : Int32} (h : f_X4_cellsAfter x0 = some r) : rv_C l D (rv_T ta) yX4_cellsAfter cX4_cellsAfter 1 (some .int) 1 0 0 [.int x0] ws (rv_F (rv_vI r) ws) := by
  refine rv_Cof2 (own := RX4) (lv := [(0, .int x0)]) rfl (by decide) (rv_le rfl) rfl ?_
  unfold f_X4_cellsAfter at h
  refine rv_iconst (v := (-1)) dX4_cellsAfter_0 (by decide) ?_
  refine rv_iload_n dX4_cellsAfter_1 rfl 0 rfl ?_
  refine rv_ishl dX4_cellsAfter_2 ?_
  refine rv_iconst (v := 1) dX4_cellsAfter_3 (by decide) ?_
  refine rv_ishl dX4_cellsAfter_4 ?_
  obtain rfl := Option.some.inj h
  exact rv_iret rfl dX4_cellsAfter_5 (rv_le rfl) (rv_le rfl) ⟨rfl, rfl⟩
theorem vb_X4_findTwo_103 {l : Launch} {D : va_G} {ta : Nat → ClassId} {ad : Nat → Nat} {μ : Mem} {x1 : Int32} {x2 : Int32} {x3 : Int32} {x4 : Int32} {x5 : Int32} {x6 : Int32} {s0 : Int32} {k2 : Mem → Int32 → Option ((Int32) × Mem)} {k50 : Mem → Int32 → Option ((Int32) × Mem)} (hk2 : ∀ {μ : Mem} {x3 : Int32} {r : (Int32) × Mem}, k2 μ x3 = some r → rv_V l D (rv_T ta) RX4 cX4_findTwo 9 (some .boolean) ("", []) (rv_rm 5 0 0) (rv_M D (rv_F (rv_vI r.1) (wx ta ad r.2)) 0 0) 0 0 (wx ta ad μ) 2 [(0, .ref (ad 17)), (1, .int x1), (2, .int x2), (3, .int x3)] []) (hk50 : ∀ {μ : Mem} {x6 : Int32} {r : (Int32) × Mem}, k50 μ x6 = some r → rv_V l D (rv_T ta) RX4 cX4_findTwo 9 (some .boolean) ("", []) (rv_rm 5 0 0) (rv_M D (rv_F (rv_vI r.1) (wx ta ad r.2)) 0 0) 0 0 (wx ta ad μ) 50 [(0, .ref (ad 17)), (1, .int x1), (2, .int x2), (3, .int x3), (4, .int x4), (5, .int x5), (6, .int x6)] []) {r : (Int32) × Mem} (h : b_X4_findTwo_103 μ k2 k50 x1 x2 x3 x4 x5 x6 s0 = some r) : rv_V l D (rv_T ta) RX4 cX4_findTwo 9 (some .boolean) ("", []) (rv_rm 5 0 0) (rv_M D (rv_F (rv_vI r.1) (wx ta ad r.2)) 0 0) 0 0 (wx ta ad μ) 103 [(0, .ref (ad 17)), (1, .int x1), (2, .int x2), (3, .int x3), (4, .int x4), (5, .int x5), (6, .int x6)] [.int s0] := by
  unfold b_X4_findTwo_103 at h
  refine rv_istore (lv2 := [(7, .int s0), (0, .ref (ad 17)), (1, .int x1), (2, .int x2), (3, .int x3), (4, .int x4), (5, .int x5), (6, .int x6)]) dX4_findTwo_103 (by decide) rfl ?_
  refine rv_aload_n dX4_findTwo_105 rfl 1 rfl ?_
  refine rv_iload dX4_findTwo_106 0 rfl ?_
  refine rv_iconst (v := 1) dX4_findTwo_108 (by decide) ?_
  obtain ⟨r10, hr10, h⟩ := rv_bind h
  refine rv_callV1 (rest := []) (ct_X4_findLast hr10) wm_X4_62 wi_X4_findLast wl_X4_findLast wc_X4_findLast wz_X4 rfl np_X4_findLast dX4_findTwo_109 rfl ⟨rv_le rfl, rv_le rfl⟩ ⟨rv_le rfl, rv_le rfl⟩ (rv_le rfl) 17 (wx_17 ta ad μ) cl_X4 ?_
  refine rv_istore (lv2 := [(8, .int r10.1), (7, .int s0), (0, .ref (ad 17)), (1, .int x1), (2, .int x2), (3, .int x3), (4, .int x4), (5, .int x5), (6, .int x6)]) dX4_findTwo_112 (by decide) rfl ?_
  refine rv_aload_n dX4_findTwo_114 rfl 2 rfl ?_
  refine rv_iload_n dX4_findTwo_115 rfl 5 rfl ?_
  refine rv_iload dX4_findTwo_116 6 rfl ?_
  obtain ⟨r11, hr11, h⟩ := rv_bind h
  refine rv_callV0 (rest := []) (ct_X4_change hr11) wm_X4_87 wi_X4_change wl_X4_change wc_X4_change wz_X4 rfl np_X4_change dX4_findTwo_118 rfl ⟨rv_le rfl, rv_le rfl⟩ ⟨rv_le rfl, rv_le rfl⟩ (rv_le rfl) 17 (wx_17 ta ad r10.2) cl_X4 ?_
  refine rv_iload dX4_findTwo_121 0 rfl ?_
  refine rv_if_eq (tgt := 139) dX4_findTwo_123 (by decide) (fun hc12 => ?_) (fun hc12 => ?_)
  · replace h := rv_ift hc12 h
    refine rv_iinc (v := (x6 + 1)) (lv2 := [(6, .int (x6 + 1)), (8, .int r10.1), (7, .int s0), (0, .ref (ad 17)), (1, .int x1), (2, .int x2), (3, .int x3), (4, .int x4), (5, .int x5)]) dX4_findTwo_139 8 rfl rfl (by decide) rfl ?_
    refine rv_goto (tgt := 50) dX4_findTwo_142 (by decide) ?_
    refine rv_sub [3, 4, 5, 6, 7, 8, 0] rfl ?_
    exact hk50 h
  · replace h := rv_iff hc12 h
    refine rv_aload_n dX4_findTwo_126 rfl 2 rfl ?_
    refine gf_X4_21 dX4_findTwo_127 17 (wx_17 ta ad r11.2) rfl ?_
    refine rv_iconst (v := 0) dX4_findTwo_130 (by decide) ?_
    refine rv_iload_n dX4_findTwo_131 rfl 5 rfl ?_
    refine rv_iload dX4_findTwo_132 8 rfl ?_
    obtain ⟨r13, hr13, h⟩ := rv_bind h
    refine rv_callV0 (rest := []) (ct_X0_put_20 hr13) wm_X4_94 wi_X0_put wl_X0_put wc_X0_put wz_X0 rfl np_X0_put dX4_findTwo_134 rfl ⟨rv_le rfl, rv_le rfl⟩ ⟨rv_le rfl, rv_le rfl⟩ (rv_le rfl) 20 (wx_20 ta ad r11.2) cl_X0 ?_
    refine rv_iconst (v := 1) dX4_findTwo_137 (by decide) ?_
    obtain rfl := Option.some.inj h
    exact rv_zret rfl rfl dX4_findTwo_138 (rv_le rfl) (rv_le rfl) ⟨rfl, rfl⟩
theorem vB_X4_findTwo_50 {l : Launch} {D : va_G} {ta : Nat → ClassId} {ad : Nat → Nat} {x1 : Int32} {x2 : Int32} {x3 : Int32} {x4 : Int32} {x5 : Int32} {k2 : Mem → Int32 → Option ((Int32) × Mem)} (hk2 : ∀ {μ : Mem} {x3 : Int32} {r : (Int32) × Mem}, k2 μ x3 = some r → rv_V l D (rv_T ta) RX4 cX4_findTwo 9 (some .boolean) ("", []) (rv_rm 5 0 0) (rv_M D (rv_F (rv_vI r.1) (wx ta ad r.2)) 0 0) 0 0 (wx ta ad μ) 2 [(0, .ref (ad 17)), (1, .int x1), (2, .int x2), (3, .int x3)] []) {k50 : Mem → Int32 → Option ((Int32) × Mem)} (hk50 : ∀ {μ : Mem} {x6 : Int32} {r : (Int32) × Mem}, k50 μ x6 = some r → rv_V l D (rv_T ta) RX4 cX4_findTwo 9 (some .boolean) ("", []) (rv_rm 5 0 0) (rv_M D (rv_F (rv_vI r.1) (wx ta ad r.2)) 0 0) 0 0 (wx ta ad μ) 50 [(0, .ref (ad 17)), (1, .int x1), (2, .int x2), (3, .int x3), (4, .int x4), (5, .int x5), (6, .int x6)] []) {μ : Mem} {x6 : Int32} {r : (Int32) × Mem} (h : B_X4_findTwo_50 x1 x2 x3 x4 x5 k2 k50 μ x6 = some r) : rv_V l D (rv_T ta) RX4 cX4_findTwo 9 (some .boolean) ("", []) (rv_rm 5 0 0) (rv_M D (rv_F (rv_vI r.1) (wx ta ad r.2)) 0 0) 0 0 (wx ta ad μ) 50 [(0, .ref (ad 17)), (1, .int x1), (2, .int x2), (3, .int x3), (4, .int x4), (5, .int x5), (6, .int x6)] [] := by
  unfold B_X4_findTwo_50 at h
  refine rv_iload dX4_findTwo_50 6 rfl ?_
  refine rv_iload dX4_findTwo_52 5 rfl ?_
  refine rv_icmp_gt (tgt := 145) dX4_findTwo_54 (by decide) (fun hc5 => ?_) (fun hc5 => ?_)
  · replace h := rv_ift hc5 h
    refine rv_iinc (v := (x3 + 1)) (lv2 := [(3, .int (x3 + 1)), (0, .ref (ad 17)), (1, .int x1), (2, .int x2), (4, .int x4), (5, .int x5), (6, .int x6)]) dX4_findTwo_145 3 rfl rfl (by decide) rfl ?_
    refine rv_goto (tgt := 2) dX4_findTwo_148 (by decide) ?_
    refine rv_sub [1, 2, 3, 0] rfl ?_
    exact hk2 h
  · replace h := rv_iff hc5 h
    refine rv_iload dX4_findTwo_57 6 rfl ?_
    refine rv_iload dX4_findTwo_59 4 rfl ?_
    refine rv_icmp_ne (tgt := 67) dX4_findTwo_61 (by decide) (fun hc6 => ?_) (fun hc6 => ?_)
    · replace h := rv_iff hc6 h
      refine rv_aload_n dX4_findTwo_67 rfl 0 rfl ?_
      refine rv_iload_n dX4_findTwo_68 rfl 3 rfl ?_
      refine rv_iload dX4_findTwo_69 6 rfl ?_
      obtain ⟨r7, hr7, h⟩ := rv_bind h
      refine rv_callV0 (rest := []) (ct_X4_change hr7) wm_X4_87 wi_X4_change wl_X4_change wc_X4_change wz_X4 rfl np_X4_change dX4_findTwo_71 rfl ⟨rv_le rfl, rv_le rfl⟩ ⟨rv_le rfl, rv_le rfl⟩ (rv_le rfl) 17 (wx_17 ta ad μ) cl_X4 ?_
      refine rv_iload_n dX4_findTwo_74 rfl 2 rfl ?_
      refine rv_if_eq (tgt := 99) dX4_findTwo_75 (by decide) (fun hc8 => ?_) (fun hc8 => ?_)
      · replace h := rv_ift hc8 h
        refine rv_iload_n dX4_findTwo_99 rfl 3 rfl ?_
        obtain ⟨r9, hr9, h⟩ := rv_bind h
        refine rv_callS1 (rest := []) (ct_X4_cellsAfter hr9) wm_X4_91 ws_X4_cellsAfter wc_X4_cellsAfter wz_X4 np_X4_cellsAfter dX4_findTwo_100 rfl ⟨rv_le rfl, rv_le rfl⟩ ⟨rv_le rfl, rv_le rfl⟩ (rv_le rfl) ?_
        exact vb_X4_findTwo_103 hk2 hk50 h
      · replace h := rv_iff hc8 h
        refine rv_aload_n dX4_findTwo_78 rfl 0 rfl ?_
        refine rv_aload_n dX4_findTwo_79 rfl 0 rfl ?_
        refine gf_X4_12 dX4_findTwo_80 17 (wx_17 ta ad r7.2) rfl ?_
        refine rv_iconst (v := 0) dX4_findTwo_83 (by decide) ?_
        obtain ⟨r14, hr14, h⟩ := rv_bind h
        refine rv_callV1 (rest := [.ref (ad 17)]) (ct_X2_breachAt_18 hr14) wm_X4_55 wi_X2_breachAt wl_X2_breachAt wc_X2_breachAt wz_X2 rfl np_X2_breachAt dX4_findTwo_84 rfl ⟨rv_le rfl, rv_le rfl⟩ ⟨rv_le rfl, rv_le rfl⟩ (rv_le rfl) 18 (wx_18 ta ad r7.2) cl_X2 ?_
        obtain ⟨r15, hr15, h⟩ := rv_bind h
        refine rv_callV1 (rest := []) (ct_X4_touching hr15) wm_X4_59 wi_X4_touching wl_X4_touching wc_X4_touching wz_X4 rfl np_X4_touching dX4_findTwo_87 rfl ⟨rv_le rfl, rv_le rfl⟩ ⟨rv_le rfl, rv_le rfl⟩ (rv_le rfl) 17 (wx_17 ta ad r7.2) cl_X4 ?_
        refine rv_iconst (v := 1) dX4_findTwo_90 (by decide) ?_
        refine rv_iload_n dX4_findTwo_91 rfl 3 rfl ?_
        refine rv_ishl dX4_findTwo_92 ?_
        refine rv_iconst (v := (-1)) dX4_findTwo_93 (by decide) ?_
        refine rv_ixor dX4_findTwo_94 ?_
        refine rv_iand dX4_findTwo_95 ?_
        refine rv_goto (tgt := 103) dX4_findTwo_96 (by decide) ?_
        exact vb_X4_findTwo_103 hk2 hk50 h
    · replace h := rv_ift hc6 h
      refine rv_goto (tgt := 139) dX4_findTwo_64 (by decide) ?_
      refine rv_iinc (v := (x6 + 1)) (lv2 := [(6, .int (x6 + 1)), (0, .ref (ad 17)), (1, .int x1), (2, .int x2), (3, .int x3), (4, .int x4), (5, .int x5)]) dX4_findTwo_139 6 rfl rfl (by decide) rfl ?_
      refine rv_goto (tgt := 50) dX4_findTwo_142 (by decide) ?_
      refine rv_sub [1, 2, 3, 4, 5, 6, 0] rfl ?_
      exact hk50 h
theorem vh_X4_findTwo_50 {l : Launch} {D : va_G} {ta : Nat → ClassId} {ad : Nat → Nat} {x1 : Int32} {x2 : Int32} {x3 : Int32} {x4 : Int32} {x5 : Int32} {k2 : Mem → Int32 → Option ((Int32) × Mem)} (hk2 : ∀ {μ : Mem} {x3 : Int32} {r : (Int32) × Mem}, k2 μ x3 = some r → rv_V l D (rv_T ta) RX4 cX4_findTwo 9 (some .boolean) ("", []) (rv_rm 5 0 0) (rv_M D (rv_F (rv_vI r.1) (wx ta ad r.2)) 0 0) 0 0 (wx ta ad μ) 2 [(0, .ref (ad 17)), (1, .int x1), (2, .int x2), (3, .int x3)] []) {n : Nat} {μ : Mem} {x6 : Int32} {r : (Int32) × Mem} (h : rv_loop (B_X4_findTwo_50 x1 x2 x3 x4 x5 k2) (fun _ _ => none) n μ x6 = some r) : rv_V l D (rv_T ta) RX4 cX4_findTwo 9 (some .boolean) ("", []) (rv_rm 5 0 0) (rv_M D (rv_F (rv_vI r.1) (wx ta ad r.2)) 0 0) 0 0 (wx ta ad μ) 50 [(0, .ref (ad 17)), (1, .int x1), (2, .int x2), (3, .int x3), (4, .int x4), (5, .int x5), (6, .int x6)] [] := by
  induction n generalizing μ x6 r with
  | zero => cases h
  | succ n ih => exact vB_X4_findTwo_50 hk2 (fun h9 => ih h9) h
theorem vb_X4_findTwo_45 {l : Launch} {D : va_G} {ta : Nat → ClassId} {ad : Nat → Nat} {μ : Mem} {x1 : Int32} {x2 : Int32} {x3 : Int32} {x4 : Int32} {s0 : Int32} {k2 : Mem → Int32 → Option ((Int32) × Mem)} (hk2 : ∀ {μ : Mem} {x3 : Int32} {r : (Int32) × Mem}, k2 μ x3 = some r → rv_V l D (rv_T ta) RX4 cX4_findTwo 9 (some .boolean) ("", []) (rv_rm 5 0 0) (rv_M D (rv_F (rv_vI r.1) (wx ta ad r.2)) 0 0) 0 0 (wx ta ad μ) 2 [(0, .ref (ad 17)), (1, .int x1), (2, .int x2), (3, .int x3)] []) {r : (Int32) × Mem} (h : b_X4_findTwo_45 μ k2 x1 x2 x3 x4 s0 = some r) : rv_V l D (rv_T ta) RX4 cX4_findTwo 9 (some .boolean) ("", []) (rv_rm 5 0 0) (rv_M D (rv_F (rv_vI r.1) (wx ta ad r.2)) 0 0) 0 0 (wx ta ad μ) 45 [(0, .ref (ad 17)), (1, .int x1), (2, .int x2), (3, .int x3), (4, .int x4)] [.int s0] := by
  unfold b_X4_findTwo_45 at h
  refine rv_istore (lv2 := [(5, .int s0), (0, .ref (ad 17)), (1, .int x1), (2, .int x2), (3, .int x3), (4, .int x4)]) dX4_findTwo_45 (by decide) rfl ?_
  refine rv_iconst (v := 0) dX4_findTwo_47 (by decide) ?_
  refine rv_istore (lv2 := [(6, .int 0), (5, .int s0), (0, .ref (ad 17)), (1, .int x1), (2, .int x2), (3, .int x3), (4, .int x4)]) dX4_findTwo_48 (by decide) rfl ?_
  refine rv_sub [2, 3, 4, 5, 6, 1, 0] rfl ?_
  exact vh_X4_findTwo_50 hk2 h
theorem vB_X4_findTwo_2 {l : Launch} {D : va_G} {ta : Nat → ClassId} {ad : Nat → Nat} {x1 : Int32} {x2 : Int32} {k2 : Mem → Int32 → Option ((Int32) × Mem)} (hk2 : ∀ {μ : Mem} {x3 : Int32} {r : (Int32) × Mem}, k2 μ x3 = some r → rv_V l D (rv_T ta) RX4 cX4_findTwo 9 (some .boolean) ("", []) (rv_rm 5 0 0) (rv_M D (rv_F (rv_vI r.1) (wx ta ad r.2)) 0 0) 0 0 (wx ta ad μ) 2 [(0, .ref (ad 17)), (1, .int x1), (2, .int x2), (3, .int x3)] []) {μ : Mem} {x3 : Int32} {r : (Int32) × Mem} (h : B_X4_findTwo_2 x1 x2 k2 μ x3 = some r) : rv_V l D (rv_T ta) RX4 cX4_findTwo 9 (some .boolean) ("", []) (rv_rm 5 0 0) (rv_M D (rv_F (rv_vI r.1) (wx ta ad r.2)) 0 0) 0 0 (wx ta ad μ) 2 [(0, .ref (ad 17)), (1, .int x1), (2, .int x2), (3, .int x3)] [] := by
  unfold B_X4_findTwo_2 at h
  refine rv_iload_n dX4_findTwo_2 rfl 3 rfl ?_
  refine rv_aload_n dX4_findTwo_3 rfl 0 rfl ?_
  refine gf_X4_33 dX4_findTwo_4 17 (wx_17 ta ad μ) rfl ?_
  refine gf_X4_70 dX4_findTwo_7 6 (wx_6 ta ad μ) rfl ?_
  refine rv_bipush (v := 8) dX4_findTwo_10 (by decide) ?_
  refine rv_imul dX4_findTwo_12 ?_
  refine rv_icmp_ge (tgt := 151) dX4_findTwo_13 (by decide) (fun hc1 => ?_) (fun hc1 => ?_)
  · replace h := rv_ift hc1 h
    refine rv_iconst (v := 0) dX4_findTwo_151 (by decide) ?_
    obtain rfl := Option.some.inj h
    exact rv_zret rfl rfl dX4_findTwo_152 (rv_le rfl) (rv_le rfl) ⟨rfl, rfl⟩
  · replace h := rv_iff hc1 h
    refine rv_aload_n dX4_findTwo_16 rfl 0 rfl ?_
    refine gf_X4_33 dX4_findTwo_17 17 (wx_17 ta ad μ) rfl ?_
    refine rv_iload_n dX4_findTwo_20 rfl 3 rfl ?_
    obtain ⟨r2, hr2, h⟩ := rv_bind h
    refine rv_callV1 (rest := []) (ct_X5_valueAt hr2) wm_X4_76 wi_X5_valueAt wl_X5_valueAt wc_X5_valueAt wz_X5 rfl np_X5_valueAt dX4_findTwo_21 rfl ⟨rv_le rfl, rv_le rfl⟩ ⟨rv_le rfl, rv_le rfl⟩ (rv_le rfl) 6 (wx_6 ta ad μ) cl_X5 ?_
    refine rv_istore (lv2 := [(4, .int r2), (0, .ref (ad 17)), (1, .int x1), (2, .int x2), (3, .int x3)]) dX4_findTwo_24 (by decide) rfl ?_
    refine rv_iload_n dX4_findTwo_26 rfl 2 rfl ?_
    refine rv_iload_n dX4_findTwo_27 rfl 4 rfl ?_
    obtain ⟨r3, hr3, h⟩ := rv_bind h
    refine rv_callS1 (rest := []) (ct_X4_has hr3) wm_X4_79 ws_X4_has wc_X4_has wz_X4 np_X4_has dX4_findTwo_28 rfl ⟨rv_le rfl, rv_le rfl⟩ ⟨rv_le rfl, rv_le rfl⟩ (rv_le rfl) ?_
    refine rv_if_eq (tgt := 44) dX4_findTwo_31 (by decide) (fun hc4 => ?_) (fun hc4 => ?_)
    · replace h := rv_ift hc4 h
      refine rv_iconst (v := (-1)) dX4_findTwo_44 (by decide) ?_
      refine rv_sub [1, 2, 3, 4, 0] rfl ?_
      exact vb_X4_findTwo_45 hk2 h
    · replace h := rv_iff hc4 h
      refine rv_aload_n dX4_findTwo_34 rfl 1 rfl ?_
      refine gf_X4_25 dX4_findTwo_35 17 (wx_17 ta ad μ) rfl ?_
      refine gf_X4_82 dX4_findTwo_38 1 (wx_1 ta ad μ) rfl ?_
      refine rv_goto (tgt := 45) dX4_findTwo_41 (by decide) ?_
      refine rv_sub [1, 2, 3, 4, 0] rfl ?_
      exact vb_X4_findTwo_45 hk2 h
theorem vh_X4_findTwo_2 {l : Launch} {D : va_G} {ta : Nat → ClassId} {ad : Nat → Nat} {x1 : Int32} {x2 : Int32} {n : Nat} {μ : Mem} {x3 : Int32} {r : (Int32) × Mem} (h : rv_loop (B_X4_findTwo_2 x1 x2) (fun _ _ => none) n μ x3 = some r) : rv_V l D (rv_T ta) RX4 cX4_findTwo 9 (some .boolean) ("", []) (rv_rm 5 0 0) (rv_M D (rv_F (rv_vI r.1) (wx ta ad r.2)) 0 0) 0 0 (wx ta ad μ) 2 [(0, .ref (ad 17)), (1, .int x1), (2, .int x2), (3, .int x3)] [] := by
  induction n generalizing μ x3 r with
  | zero => cases h
  | succ n ih => exact vB_X4_findTwo_2 (fun h9 => ih h9) h
theorem ct_X4_findTwo {l : Launch} {D : va_G} {ta : Nat → ClassId} {ad : Nat → Nat} {μ : Mem} {x1 : Int32} {x2 : Int32} {r : (Int32) × Mem} (h : f_X4_findTwo μ x1 x2 = some r) : rv_C l D (rv_T ta) yX4_findTwo cX4_findTwo 9 (some .boolean) 5 0 0 [.ref (ad 17), .int x1, .int x2] (wx ta ad μ) (rv_F (rv_vI r.1) (wx ta ad r.2)) := by
  refine rv_Cof2 (own := RX4) (lv := [(0, .ref (ad 17)), (1, .int x1), (2, .int x2)]) rfl (by decide) (rv_le rfl) rfl ?_
  unfold f_X4_findTwo at h
  refine rv_iconst (v := 0) dX4_findTwo_0 (by decide) ?_
  refine rv_istore_n (lv2 := [(3, .int 0), (0, .ref (ad 17)), (1, .int x1), (2, .int x2)]) dX4_findTwo_1 rfl (by decide) rfl ?_
  refine rv_sub [1, 2, 3, 0] rfl ?_
  exact vh_X4_findTwo_2 h
theorem vb_X4_seek_43 {l : Launch} {D : va_G} {ta : Nat → ClassId} {ad : Nat → Nat} {μ : Mem} {x1 : Int32} {s0 : Int32} {r : (Int32) × Mem} (h : b_X4_seek_43 μ x1 s0 = some r) : rv_V l D (rv_T ta) RX4 cX4_seek 3 (some .int) ("", []) (rv_rm 6 0 0) (rv_M D (rv_F (rv_vI r.1) (wx ta ad r.2)) 0 0) 0 0 (wx ta ad μ) 43 [(0, .ref (ad 17)), (1, .int x1)] [.int s0] := by
  unfold b_X4_seek_43 at h
  refine rv_istore_n (lv2 := [(2, .int s0), (0, .ref (ad 17)), (1, .int x1)]) dX4_seek_43 rfl (by decide) rfl ?_
  refine rv_aload_n dX4_seek_44 rfl 1 rfl ?_
  refine rv_iload_n dX4_seek_45 rfl 0 rfl ?_
  refine rv_iconst (v := 0) dX4_seek_46 (by decide) ?_
  obtain ⟨r5, hr5, h⟩ := rv_bind h
  refine rv_callV1 (rest := []) (ct_X4_findLast hr5) wm_X4_62 wi_X4_findLast wl_X4_findLast wc_X4_findLast wz_X4 rfl np_X4_findLast dX4_seek_47 rfl ⟨rv_le rfl, rv_le rfl⟩ ⟨rv_le rfl, rv_le rfl⟩ (rv_le rfl) 17 (wx_17 ta ad μ) cl_X4 ?_
  refine rv_if_eq (tgt := 55) dX4_seek_50 (by decide) (fun hc6 => ?_) (fun hc6 => ?_)
  · replace h := rv_ift hc6 h
    refine rv_aload_n dX4_seek_55 rfl 1 rfl ?_
    refine rv_iload_n dX4_seek_56 rfl 0 rfl ?_
    refine rv_iload_n dX4_seek_57 rfl 2 rfl ?_
    obtain ⟨r7, hr7, h⟩ := rv_bind h
    refine rv_callV1 (rest := []) (ct_X4_findTwo hr7) wm_X4_66 wi_X4_findTwo wl_X4_findTwo wc_X4_findTwo wz_X4 rfl np_X4_findTwo dX4_seek_58 rfl ⟨rv_le rfl, rv_le rfl⟩ ⟨rv_le rfl, rv_le rfl⟩ (rv_le rfl) 17 (wx_17 ta ad r5.2) cl_X4 ?_
    refine rv_if_eq (tgt := 68) dX4_seek_61 (by decide) (fun hc8 => ?_) (fun hc8 => ?_)
    · replace h := rv_ift hc8 h
      refine rv_iconst (v := (-1)) dX4_seek_68 (by decide) ?_
      obtain rfl := Option.some.inj h
      exact rv_iret rfl dX4_seek_69 (rv_le rfl) (rv_le rfl) ⟨rfl, rfl⟩
    · replace h := rv_iff hc8 h
      refine rv_iconst (v := 2) dX4_seek_64 (by decide) ?_
      refine rv_goto (tgt := 69) dX4_seek_65 (by decide) ?_
      obtain rfl := Option.some.inj h
      exact rv_iret rfl dX4_seek_69 (rv_le rfl) (rv_le rfl) ⟨rfl, rfl⟩
  · replace h := rv_iff hc6 h
    refine rv_iconst (v := 1) dX4_seek_53 (by decide) ?_
    obtain rfl := Option.some.inj h
    exact rv_iret rfl dX4_seek_54 (rv_le rfl) (rv_le rfl) ⟨rfl, rfl⟩
theorem ct_X4_seek {l : Launch} {D : va_G} {ta : Nat → ClassId} {ad : Nat → Nat} {μ : Mem} {x1 : Int32} {r : (Int32) × Mem} (h : f_X4_seek μ x1 = some r) : rv_C l D (rv_T ta) yX4_seek cX4_seek 3 (some .int) 6 0 0 [.ref (ad 17), .int x1] (wx ta ad μ) (rv_F (rv_vI r.1) (wx ta ad r.2)) := by
  refine rv_Cof2 (own := RX4) (lv := [(0, .ref (ad 17)), (1, .int x1)]) rfl (by decide) (rv_le rfl) rfl ?_
  unfold f_X4_seek at h
  refine rv_aload_n dX4_seek_0 rfl 0 rfl ?_
  refine gf_X4_41 dX4_seek_1 17 (wx_17 ta ad μ) rfl ?_
  refine rv_aload_n dX4_seek_4 rfl 0 rfl ?_
  refine gf_X4_12 dX4_seek_5 17 (wx_17 ta ad μ) rfl ?_
  obtain ⟨r1, hr1, h⟩ := rv_bind h
  refine rv_callV0 (rest := []) (ct_X1_look_18 hr1) wm_X4_45 wi_X1_look wl_X1_look wc_X1_look wz_X1 rfl np_X1_look dX4_seek_8 rfl ⟨rv_le rfl, rv_le rfl⟩ ⟨rv_le rfl, rv_le rfl⟩ (rv_le rfl) 12 (wx_12 ta ad μ) cl_X1 ?_
  refine rv_aload_n dX4_seek_11 rfl 0 rfl ?_
  refine gf_X4_12 dX4_seek_12 17 (wx_17 ta ad r1.2) rfl ?_
  obtain ⟨r2, hr2, h⟩ := rv_bind h
  refine rv_callV1 (rest := []) (ct_X2_size_18 hr2) wm_X4_51 wi_X2_size wl_X2_size wc_X2_size wz_X2 rfl np_X2_size dX4_seek_15 rfl ⟨rv_le rfl, rv_le rfl⟩ ⟨rv_le rfl, rv_le rfl⟩ (rv_le rfl) 18 (wx_18 ta ad r1.2) cl_X2 ?_
  refine rv_if_ne (tgt := 23) dX4_seek_18 (by decide) (fun hc3 => ?_) (fun hc3 => ?_)
  · replace h := rv_iff hc3 h
    refine rv_iload_n dX4_seek_23 rfl 1 rfl ?_
    refine rv_if_eq (tgt := 42) dX4_seek_24 (by decide) (fun hc4 => ?_) (fun hc4 => ?_)
    · replace h := rv_ift hc4 h
      refine rv_iconst (v := (-1)) dX4_seek_42 (by decide) ?_
      exact vb_X4_seek_43 h
    · replace h := rv_iff hc4 h
      refine rv_aload_n dX4_seek_27 rfl 0 rfl ?_
      refine rv_aload_n dX4_seek_28 rfl 0 rfl ?_
      refine gf_X4_12 dX4_seek_29 17 (wx_17 ta ad r1.2) rfl ?_
      refine rv_iconst (v := 0) dX4_seek_32 (by decide) ?_
      obtain ⟨r9, hr9, h⟩ := rv_bind h
      refine rv_callV1 (rest := [.ref (ad 17)]) (ct_X2_breachAt_18 hr9) wm_X4_55 wi_X2_breachAt wl_X2_breachAt wc_X2_breachAt wz_X2 rfl np_X2_breachAt dX4_seek_33 rfl ⟨rv_le rfl, rv_le rfl⟩ ⟨rv_le rfl, rv_le rfl⟩ (rv_le rfl) 18 (wx_18 ta ad r1.2) cl_X2 ?_
      obtain ⟨r10, hr10, h⟩ := rv_bind h
      refine rv_callV1 (rest := []) (ct_X4_touching hr10) wm_X4_59 wi_X4_touching wl_X4_touching wc_X4_touching wz_X4 rfl np_X4_touching dX4_seek_36 rfl ⟨rv_le rfl, rv_le rfl⟩ ⟨rv_le rfl, rv_le rfl⟩ (rv_le rfl) 17 (wx_17 ta ad r1.2) cl_X4 ?_
      refine rv_goto (tgt := 43) dX4_seek_39 (by decide) ?_
      exact vb_X4_seek_43 h
  · replace h := rv_ift hc3 h
    refine rv_iconst (v := 0) dX4_seek_21 (by decide) ?_
    obtain rfl := Option.some.inj h
    exact rv_iret rfl dX4_seek_22 (rv_le rfl) (rv_le rfl) ⟨rfl, rfl⟩
theorem ct_X5_hasPerson {l : Launch} {D : va_G} {ta : Nat → ClassId} {ad : Nat → Nat} {μ : Mem} {x1 : Int32} {r : Int32} (h : f_X5_hasPerson μ x1 = some r) : rv_C l D (rv_T ta) yX5_hasPerson cX5_hasPerson 2 (some .boolean) 1 0 0 [.ref (ad 6), .int x1] (wx ta ad μ) (rv_F (rv_vI r) (wx ta ad μ)) := by
  refine rv_Cof2 (own := RX5) (lv := [(0, .ref (ad 6)), (1, .int x1)]) rfl (by decide) (rv_le rfl) rfl ?_
  unfold f_X5_hasPerson at h
  refine rv_iload_n dX5_hasPerson_0 rfl 1 rfl ?_
  refine rv_if_lt (tgt := 21) dX5_hasPerson_1 (by decide) (fun hc1 => ?_) (fun hc1 => ?_)
  · replace h := rv_ift hc1 h
    refine rv_iconst (v := 0) dX5_hasPerson_21 (by decide) ?_
    obtain rfl := Option.some.inj h
    exact rv_zret rfl rfl dX5_hasPerson_22 (rv_le rfl) (rv_le rfl) ⟨rfl, rfl⟩
  · replace h := rv_iff hc1 h
    refine rv_iload_n dX5_hasPerson_4 rfl 1 rfl ?_
    refine rv_aload_n dX5_hasPerson_5 rfl 0 rfl ?_
    refine gf_X5_25 dX5_hasPerson_6 6 (wx_6 ta ad μ) rfl ?_
    refine rv_icmp_ge (tgt := 21) dX5_hasPerson_9 (by decide) (fun hc2 => ?_) (fun hc2 => ?_)
    · replace h := rv_ift hc2 h
      refine rv_iconst (v := 0) dX5_hasPerson_21 (by decide) ?_
      obtain rfl := Option.some.inj h
      exact rv_zret rfl rfl dX5_hasPerson_22 (rv_le rfl) (rv_le rfl) ⟨rfl, rfl⟩
    · replace h := rv_iff hc2 h
      refine rv_iload_n dX5_hasPerson_12 rfl 1 rfl ?_
      refine rv_iconst (v := 4) dX5_hasPerson_13 (by decide) ?_
      refine rv_icmp_ge (tgt := 21) dX5_hasPerson_14 (by decide) (fun hc3 => ?_) (fun hc3 => ?_)
      · replace h := rv_ift hc3 h
        refine rv_iconst (v := 0) dX5_hasPerson_21 (by decide) ?_
        obtain rfl := Option.some.inj h
        exact rv_zret rfl rfl dX5_hasPerson_22 (rv_le rfl) (rv_le rfl) ⟨rfl, rfl⟩
      · replace h := rv_iff hc3 h
        refine rv_iconst (v := 1) dX5_hasPerson_17 (by decide) ?_
        refine rv_goto (tgt := 22) dX5_hasPerson_18 (by decide) ?_
        obtain rfl := Option.some.inj h
        exact rv_zret rfl rfl dX5_hasPerson_22 (rv_le rfl) (rv_le rfl) ⟨rfl, rfl⟩
theorem ct_X5_exchange {l : Launch} {D : va_G} {ta : Nat → ClassId} {ad : Nat → Nat} {μ : Mem} {x1 : Int32} {x2 : Int32} {x3 : Int32} {r : (Unit) × Mem} (h : f_X5_exchange μ x1 x2 x3 = some r) : rv_C l D (rv_T ta) yX5_exchange cX5_exchange 6 none 4 0 0 [.ref (ad 6), .int x1, .int x2, .int x3] (wx ta ad μ) (rv_F (rv_vU r.1) (wx ta ad r.2)) := by
  refine rv_Cof2 (own := RX5) (lv := [(0, .ref (ad 6)), (1, .int x1), (2, .int x2), (3, .int x3)]) rfl (by decide) (rv_le rfl) rfl ?_
  unfold f_X5_exchange at h
  refine rv_aload_n dX5_exchange_0 rfl 0 rfl ?_
  refine rv_iload_n dX5_exchange_1 rfl 1 rfl ?_
  refine rv_iload_n dX5_exchange_2 rfl 3 rfl ?_
  obtain ⟨r1, hr1, h⟩ := rv_bind h
  refine rv_callV1 (rest := []) (ct_X5_shiftAt hr1) wm_X5_40 wi_X5_shiftAt wl_X5_shiftAt wc_X5_shiftAt wz_X5 rfl np_X5_shiftAt dX5_exchange_3 rfl ⟨rv_le rfl, rv_le rfl⟩ ⟨rv_le rfl, rv_le rfl⟩ (rv_le rfl) 6 (wx_6 ta ad μ) cl_X5 ?_
  refine rv_iconst (v := 1) dX5_exchange_6 (by decide) ?_
  refine rv_iadd dX5_exchange_7 ?_
  refine rv_istore (lv2 := [(4, .int (r1 + 1)), (0, .ref (ad 6)), (1, .int x1), (2, .int x2), (3, .int x3)]) dX5_exchange_8 (by decide) rfl ?_
  refine rv_aload_n dX5_exchange_10 rfl 1 rfl ?_
  refine rv_iload_n dX5_exchange_11 rfl 3 rfl ?_
  refine rv_iload_n dX5_exchange_12 rfl 4 rfl ?_
  obtain ⟨r2, hr2, h⟩ := rv_bind h
  refine rv_callV1 (rest := []) (ct_X5_shiftAt hr2) wm_X5_40 wi_X5_shiftAt wl_X5_shiftAt wc_X5_shiftAt wz_X5 rfl np_X5_shiftAt dX5_exchange_13 rfl ⟨rv_le rfl, rv_le rfl⟩ ⟨rv_le rfl, rv_le rfl⟩ (rv_le rfl) 6 (wx_6 ta ad μ) cl_X5 ?_
  refine rv_iconst (v := 1) dX5_exchange_16 (by decide) ?_
  refine rv_iadd dX5_exchange_17 ?_
  refine rv_istore (lv2 := [(5, .int (r2 + 1)), (4, .int (r1 + 1)), (0, .ref (ad 6)), (1, .int x1), (2, .int x2), (3, .int x3)]) dX5_exchange_18 (by decide) rfl ?_
  refine rv_aload_n dX5_exchange_20 rfl 2 rfl ?_
  refine rv_iload_n dX5_exchange_21 rfl 3 rfl ?_
  refine rv_iload_n dX5_exchange_22 rfl 5 rfl ?_
  obtain ⟨r3, hr3, h⟩ := rv_bind h
  refine rv_callSN1 (rest := [.ref (ad 6)]) (ct_X8_cellOf hr3) wm_X5_29 ws_X8_cellOf wc_X8_cellOf wz_X8 np_X8_cellOf dX5_exchange_23 rfl ⟨rv_le rfl, rv_le rfl⟩ ⟨rv_le rfl, rv_le rfl⟩ (rv_le rfl) ?_
  refine rv_iload dX5_exchange_26 0 rfl ?_
  obtain ⟨r4, hr4, h⟩ := rv_bind h
  refine rv_callV0 (rest := []) (ct_X5_put hr4) wm_X5_43 wi_X5_put wl_X5_put wc_X5_put wz_X5 rfl np_X5_put dX5_exchange_28 rfl ⟨rv_le rfl, rv_le rfl⟩ ⟨rv_le rfl, rv_le rfl⟩ (rv_le rfl) 6 (wx_6 ta ad μ) cl_X5 ?_
  refine rv_aload_n dX5_exchange_31 rfl 2 rfl ?_
  refine rv_iload_n dX5_exchange_32 rfl 4 rfl ?_
  refine rv_iload_n dX5_exchange_33 rfl 5 rfl ?_
  obtain ⟨r5, hr5, h⟩ := rv_bind h
  refine rv_callSN1 (rest := [.ref (ad 6)]) (ct_X8_cellOf hr5) wm_X5_29 ws_X8_cellOf wc_X8_cellOf wz_X8 np_X8_cellOf dX5_exchange_34 rfl ⟨rv_le rfl, rv_le rfl⟩ ⟨rv_le rfl, rv_le rfl⟩ (rv_le rfl) ?_
  refine rv_iload dX5_exchange_37 1 rfl ?_
  obtain ⟨r6, hr6, h⟩ := rv_bind h
  refine rv_callV0 (rest := []) (ct_X5_put hr6) wm_X5_43 wi_X5_put wl_X5_put wc_X5_put wz_X5 rfl np_X5_put dX5_exchange_39 rfl ⟨rv_le rfl, rv_le rfl⟩ ⟨rv_le rfl, rv_le rfl⟩ (rv_le rfl) 6 (wx_6 ta ad r4.2) cl_X5 ?_
  obtain rfl := Option.some.inj h
  exact rv_vret rfl dX5_exchange_42 (rv_le rfl) (rv_le rfl) ⟨rfl, rfl⟩
theorem ct_X5_putAway {l : Launch} {D : va_G} {ta : Nat → ClassId} {ad : Nat → Nat} {μ : Mem} {x1 : Int32} {x2 : Int32} {x3 : Int32} {r : (Unit) × Mem} (h : f_X5_putAway μ x1 x2 x3 = some r) : rv_C l D (rv_T ta) yX5_putAway cX5_putAway 5 none 2 0 0 [.ref (ad 6), .int x1, .int x2, .int x3] (wx ta ad μ) (rv_F (rv_vU r.1) (wx ta ad r.2)) := by
  refine rv_Cof2 (own := RX5) (lv := [(0, .ref (ad 6)), (1, .int x1), (2, .int x2), (3, .int x3)]) rfl (by decide) (rv_le rfl) rfl ?_
  unfold f_X5_putAway at h
  refine rv_iload_n dX5_putAway_0 rfl 1 rfl ?_
  refine rv_iload_n dX5_putAway_1 rfl 2 rfl ?_
  obtain ⟨r1, hr1, h⟩ := rv_bind h
  refine rv_callSN1 (rest := []) (ct_X8_cellOf hr1) wm_X5_29 ws_X8_cellOf wc_X8_cellOf wz_X8 np_X8_cellOf dX5_putAway_2 rfl ⟨rv_le rfl, rv_le rfl⟩ ⟨rv_le rfl, rv_le rfl⟩ (rv_le rfl) ?_
  refine rv_istore (lv2 := [(4, .int r1), (0, .ref (ad 6)), (1, .int x1), (2, .int x2), (3, .int x3)]) dX5_putAway_5 (by decide) rfl ?_
  refine rv_iload dX5_putAway_7 0 rfl ?_
  refine rv_if_lt (tgt := 27) dX5_putAway_9 (by decide) (fun hc2 => ?_) (fun hc2 => ?_)
  · replace h := rv_ift hc2 h
    obtain rfl := Option.some.inj h
    exact rv_vret rfl dX5_putAway_27 (rv_le rfl) (rv_le rfl) ⟨rfl, rfl⟩
  · replace h := rv_iff hc2 h
    refine rv_iload dX5_putAway_12 0 rfl ?_
    refine rv_bipush (v := 32) dX5_putAway_14 (by decide) ?_
    refine rv_icmp_ge (tgt := 27) dX5_putAway_16 (by decide) (fun hc3 => ?_) (fun hc3 => ?_)
    · replace h := rv_ift hc3 h
      obtain rfl := Option.some.inj h
      exact rv_vret rfl dX5_putAway_27 (rv_le rfl) (rv_le rfl) ⟨rfl, rfl⟩
    · replace h := rv_iff hc3 h
      refine rv_aload_n dX5_putAway_19 rfl 1 rfl ?_
      refine gf_X5_15 dX5_putAway_20 6 (wx_6 ta ad μ) rfl ?_
      refine rv_iload dX5_putAway_23 0 rfl ?_
      refine rv_iload_n dX5_putAway_25 rfl 4 rfl ?_
      obtain ⟨hi4, h⟩ := rv_ifn h
      refine rv_zast dX5_putAway_26 1 rfl 8 (wx_8 ta ad μ) (rv_inP hi4) (wx_s8 ta ad μ _ _) ?_
      obtain rfl := Option.some.inj h
      exact rv_vret rfl dX5_putAway_27 (rv_le rfl) (rv_le rfl) ⟨rfl, rfl⟩
theorem ct_X5_putSkill {l : Launch} {D : va_G} {ta : Nat → ClassId} {ad : Nat → Nat} {μ : Mem} {x1 : Int32} {x2 : Int32} {r : (Unit) × Mem} (h : f_X5_putSkill μ x1 x2 = some r) : rv_C l D (rv_T ta) yX5_putSkill cX5_putSkill 4 none 2 0 0 [.ref (ad 6), .int x1, .int x2] (wx ta ad μ) (rv_F (rv_vU r.1) (wx ta ad r.2)) := by
  refine rv_Cof2 (own := RX5) (lv := [(0, .ref (ad 6)), (1, .int x1), (2, .int x2)]) rfl (by decide) (rv_le rfl) rfl ?_
  unfold f_X5_putSkill at h
  refine rv_iload_n dX5_putSkill_0 rfl 1 rfl ?_
  refine rv_iload_n dX5_putSkill_1 rfl 2 rfl ?_
  obtain ⟨r1, hr1, h⟩ := rv_bind h
  refine rv_callSN1 (rest := []) (ct_X8_skillOf hr1) wm_X5_47 ws_X8_skillOf wc_X8_skillOf wz_X8 np_X8_skillOf dX5_putSkill_2 rfl ⟨rv_le rfl, rv_le rfl⟩ ⟨rv_le rfl, rv_le rfl⟩ (rv_le rfl) ?_
  refine rv_istore_n (lv2 := [(3, .int r1), (0, .ref (ad 6)), (1, .int x1), (2, .int x2)]) dX5_putSkill_5 rfl (by decide) rfl ?_
  refine rv_iload_n dX5_putSkill_6 rfl 0 rfl ?_
  refine rv_if_lt (tgt := 26) dX5_putSkill_7 (by decide) (fun hc2 => ?_) (fun hc2 => ?_)
  · replace h := rv_ift hc2 h
    obtain rfl := Option.some.inj h
    exact rv_vret rfl dX5_putSkill_26 (rv_le rfl) (rv_le rfl) ⟨rfl, rfl⟩
  · replace h := rv_iff hc2 h
    refine rv_iload_n dX5_putSkill_10 rfl 0 rfl ?_
    refine rv_aload_n dX5_putSkill_11 rfl 1 rfl ?_
    refine gf_X5_19 dX5_putSkill_12 6 (wx_6 ta ad μ) rfl ?_
    refine rv_alen (v := 12) dX5_putSkill_15 1 rfl 9 (wx_9 ta ad μ) rfl ?_
    refine rv_icmp_ge (tgt := 26) dX5_putSkill_16 (by decide) (fun hc3 => ?_) (fun hc3 => ?_)
    · replace h := rv_ift hc3 h
      obtain rfl := Option.some.inj h
      exact rv_vret rfl dX5_putSkill_26 (rv_le rfl) (rv_le rfl) ⟨rfl, rfl⟩
    · replace h := rv_iff hc3 h
      refine rv_aload_n dX5_putSkill_19 rfl 1 rfl ?_
      refine gf_X5_19 dX5_putSkill_20 6 (wx_6 ta ad μ) rfl ?_
      refine rv_iload_n dX5_putSkill_23 rfl 0 rfl ?_
      refine rv_iconst (v := 1) dX5_putSkill_24 (by decide) ?_
      obtain ⟨hi4, h⟩ := rv_ifn h
      refine rv_zast dX5_putSkill_25 1 rfl 9 (wx_9 ta ad μ) (rv_inP hi4) (wx_s9 ta ad μ _ _) ?_
      obtain rfl := Option.some.inj h
      exact rv_vret rfl dX5_putSkill_26 (rv_le rfl) (rv_le rfl) ⟨rfl, rfl⟩
theorem ct_X6_putDemand {l : Launch} {D : va_G} {ta : Nat → ClassId} {ad : Nat → Nat} {μ : Mem} {x1 : Int32} {x2 : Int32} {x3 : Int32} {r : (Unit) × Mem} (h : f_X6_putDemand μ x1 x2 x3 = some r) : rv_C l D (rv_T ta) yX6_putDemand cX6_putDemand 5 none 2 0 0 [.ref (ad 4), .int x1, .int x2, .int x3] (wx ta ad μ) (rv_F (rv_vU r.1) (wx ta ad r.2)) := by
  refine rv_Cof2 (own := RX6) (lv := [(0, .ref (ad 4)), (1, .int x1), (2, .int x2), (3, .int x3)]) rfl (by decide) (rv_le rfl) rfl ?_
  unfold f_X6_putDemand at h
  refine rv_iload_n dX6_putDemand_0 rfl 1 rfl ?_
  refine rv_iload_n dX6_putDemand_1 rfl 2 rfl ?_
  obtain ⟨r1, hr1, h⟩ := rv_bind h
  refine rv_callSN1 (rest := []) (ct_X8_postOf hr1) wm_X6_31 ws_X8_postOf wc_X8_postOf wz_X8 np_X8_postOf dX6_putDemand_2 rfl ⟨rv_le rfl, rv_le rfl⟩ ⟨rv_le rfl, rv_le rfl⟩ (rv_le rfl) ?_
  refine rv_istore (lv2 := [(4, .int r1), (0, .ref (ad 4)), (1, .int x1), (2, .int x2), (3, .int x3)]) dX6_putDemand_5 (by decide) rfl ?_
  refine rv_iload dX6_putDemand_7 0 rfl ?_
  refine rv_if_lt (tgt := 27) dX6_putDemand_9 (by decide) (fun hc2 => ?_) (fun hc2 => ?_)
  · replace h := rv_ift hc2 h
    obtain rfl := Option.some.inj h
    exact rv_vret rfl dX6_putDemand_27 (rv_le rfl) (rv_le rfl) ⟨rfl, rfl⟩
  · replace h := rv_iff hc2 h
    refine rv_iload dX6_putDemand_12 0 rfl ?_
    refine rv_bipush (v := 24) dX6_putDemand_14 (by decide) ?_
    refine rv_icmp_ge (tgt := 27) dX6_putDemand_16 (by decide) (fun hc3 => ?_) (fun hc3 => ?_)
    · replace h := rv_ift hc3 h
      obtain rfl := Option.some.inj h
      exact rv_vret rfl dX6_putDemand_27 (rv_le rfl) (rv_le rfl) ⟨rfl, rfl⟩
    · replace h := rv_iff hc3 h
      refine rv_aload_n dX6_putDemand_19 rfl 1 rfl ?_
      refine gf_X6_9 dX6_putDemand_20 4 (wx_4 ta ad μ) rfl ?_
      refine rv_iload dX6_putDemand_23 0 rfl ?_
      refine rv_iload_n dX6_putDemand_25 rfl 4 rfl ?_
      obtain ⟨hi4, h⟩ := rv_ifn h
      refine rv_iast dX6_putDemand_26 0 rfl 5 (wx_5 ta ad μ) (rv_inP hi4) (wx_s5 ta ad μ _ _) ?_
      obtain rfl := Option.some.inj h
      exact rv_vret rfl dX6_putDemand_27 (rv_le rfl) (rv_le rfl) ⟨rfl, rfl⟩
theorem ct_X7_has {l : Launch} {D : va_G} {ta : Nat → ClassId} {ad : Nat → Nat} {μ : Mem} {x1 : Int32} {r : Int32} (h : f_X7_has μ x1 = some r) : rv_C l D (rv_T ta) yX7_has cX7_has 2 (some .boolean) 1 0 0 [.ref (ad 1), .int x1] (wx ta ad μ) (rv_F (rv_vI r) (wx ta ad μ)) := by
  refine rv_Cof2 (own := RX7) (lv := [(0, .ref (ad 1)), (1, .int x1)]) rfl (by decide) (rv_le rfl) rfl ?_
  unfold f_X7_has at h
  refine rv_iload_n dX7_has_0 rfl 1 rfl ?_
  refine rv_if_lt (tgt := 21) dX7_has_1 (by decide) (fun hc1 => ?_) (fun hc1 => ?_)
  · replace h := rv_ift hc1 h
    refine rv_iconst (v := 0) dX7_has_21 (by decide) ?_
    obtain rfl := Option.some.inj h
    exact rv_zret rfl rfl dX7_has_22 (rv_le rfl) (rv_le rfl) ⟨rfl, rfl⟩
  · replace h := rv_iff hc1 h
    refine rv_iload_n dX7_has_4 rfl 1 rfl ?_
    refine rv_aload_n dX7_has_5 rfl 0 rfl ?_
    refine gf_X7_18 dX7_has_6 1 (wx_1 ta ad μ) rfl ?_
    refine rv_icmp_ge (tgt := 21) dX7_has_9 (by decide) (fun hc2 => ?_) (fun hc2 => ?_)
    · replace h := rv_ift hc2 h
      refine rv_iconst (v := 0) dX7_has_21 (by decide) ?_
      obtain rfl := Option.some.inj h
      exact rv_zret rfl rfl dX7_has_22 (rv_le rfl) (rv_le rfl) ⟨rfl, rfl⟩
    · replace h := rv_iff hc2 h
      refine rv_iload_n dX7_has_12 rfl 1 rfl ?_
      refine rv_iconst (v := 3) dX7_has_13 (by decide) ?_
      refine rv_icmp_ge (tgt := 21) dX7_has_14 (by decide) (fun hc3 => ?_) (fun hc3 => ?_)
      · replace h := rv_ift hc3 h
        refine rv_iconst (v := 0) dX7_has_21 (by decide) ?_
        obtain rfl := Option.some.inj h
        exact rv_zret rfl rfl dX7_has_22 (rv_le rfl) (rv_le rfl) ⟨rfl, rfl⟩
      · replace h := rv_iff hc3 h
        refine rv_iconst (v := 1) dX7_has_17 (by decide) ?_
        refine rv_goto (tgt := 22) dX7_has_18 (by decide) ?_
        obtain rfl := Option.some.inj h
        exact rv_zret rfl rfl dX7_has_22 (rv_le rfl) (rv_le rfl) ⟨rfl, rfl⟩
theorem ct_X7_append {l : Launch} {D : va_G} {ta : Nat → ClassId} {ad : Nat → Nat} {μ : Mem} {x1 : Int32} {x2 : Int32} {r : (Int32) × Mem} (h : f_X7_append μ x1 x2 = some r) : rv_C l D (rv_T ta) yX7_append cX7_append 3 (some .int) 1 0 0 [.ref (ad 1), .int x1, .int x2] (wx ta ad μ) (rv_F (rv_vI r.1) (wx ta ad r.2)) := by
  refine rv_Cof2 (own := RX7) (lv := [(0, .ref (ad 1)), (1, .int x1), (2, .int x2)]) rfl (by decide) (rv_le rfl) rfl ?_
  unfold f_X7_append at h
  refine rv_aload_n dX7_append_0 rfl 0 rfl ?_
  refine gf_X7_18 dX7_append_1 1 (wx_1 ta ad μ) rfl ?_
  refine rv_if_lt (tgt := 15) dX7_append_4 (by decide) (fun hc1 => ?_) (fun hc1 => ?_)
  · replace h := rv_ift hc1 h
    refine rv_iconst (v := (-1)) dX7_append_15 (by decide) ?_
    obtain rfl := Option.some.inj h
    exact rv_iret rfl dX7_append_16 (rv_le rfl) (rv_le rfl) ⟨rfl, rfl⟩
  · replace h := rv_iff hc1 h
    refine rv_aload_n dX7_append_7 rfl 0 rfl ?_
    refine gf_X7_18 dX7_append_8 1 (wx_1 ta ad μ) rfl ?_
    refine rv_iconst (v := 3) dX7_append_11 (by decide) ?_
    refine rv_icmp_lt (tgt := 17) dX7_append_12 (by decide) (fun hc2 => ?_) (fun hc2 => ?_)
    · replace h := rv_ift hc2 h
      refine rv_aload_n dX7_append_17 rfl 0 rfl ?_
      refine gf_X7_9 dX7_append_18 1 (wx_1 ta ad μ) rfl ?_
      refine rv_aload_n dX7_append_21 rfl 0 rfl ?_
      refine gf_X7_18 dX7_append_22 1 (wx_1 ta ad μ) rfl ?_
      refine rv_iload_n dX7_append_25 rfl 1 rfl ?_
      obtain ⟨hi3, h⟩ := rv_ifn h
      refine rv_iast dX7_append_26 0 rfl 2 (wx_2 ta ad μ) (rv_inP hi3) (wx_s2 ta ad μ _ _) ?_
      refine rv_aload_n dX7_append_27 rfl 0 rfl ?_
      refine gf_X7_15 dX7_append_28 1 (wx_1 ta ad (mu_up μ 2 (Int32.toNatClampNeg (μ.1 1 2)) x1)) rfl ?_
      refine rv_aload_n dX7_append_31 rfl 0 rfl ?_
      refine gf_X7_18 dX7_append_32 1 (wx_1 ta ad (mu_up μ 2 (Int32.toNatClampNeg (μ.1 1 2)) x1)) rfl ?_
      refine rv_iload_n dX7_append_35 rfl 2 rfl ?_
      obtain ⟨hi4, h⟩ := rv_ifn h
      refine rv_iast dX7_append_36 0 rfl 3 (wx_3 ta ad (mu_up μ 2 (Int32.toNatClampNeg (μ.1 1 2)) x1)) (rv_inP hi4) (wx_s3 ta ad (mu_up μ 2 (Int32.toNatClampNeg (μ.1 1 2)) x1) _ _) ?_
      refine rv_aload_n dX7_append_37 rfl 0 rfl ?_
      refine rv_dup dX7_append_38 rfl ?_
      refine gf_X7_18 dX7_append_39 1 (wx_1 ta ad (mu_up (mu_up μ 2 (Int32.toNatClampNeg (μ.1 1 2)) x1) 3 (Int32.toNatClampNeg ((mu_up μ 2 (Int32.toNatClampNeg (μ.1 1 2)) x1).1 1 2)) x2)) rfl ?_
      refine rv_iconst (v := 1) dX7_append_42 (by decide) ?_
      refine rv_iadd dX7_append_43 ?_
      refine pf_X7_18 dX7_append_44 1 (wx_1 ta ad (mu_up (mu_up μ 2 (Int32.toNatClampNeg (μ.1 1 2)) x1) 3 (Int32.toNatClampNeg ((mu_up μ 2 (Int32.toNatClampNeg (μ.1 1 2)) x1).1 1 2)) x2)) (rv_le rfl) (wx_f1_2 ta ad (mu_up (mu_up μ 2 (Int32.toNatClampNeg (μ.1 1 2)) x1) 3 (Int32.toNatClampNeg ((mu_up μ 2 (Int32.toNatClampNeg (μ.1 1 2)) x1).1 1 2)) x2) (((mu_up (mu_up μ 2 (Int32.toNatClampNeg (μ.1 1 2)) x1) 3 (Int32.toNatClampNeg ((mu_up μ 2 (Int32.toNatClampNeg (μ.1 1 2)) x1).1 1 2)) x2).1 1 2) + 1)) ?_
      refine rv_aload_n dX7_append_47 rfl 0 rfl ?_
      refine gf_X7_18 dX7_append_48 1 (wx_1 ta ad (mu_up (mu_up (mu_up μ 2 (Int32.toNatClampNeg (μ.1 1 2)) x1) 3 (Int32.toNatClampNeg ((mu_up μ 2 (Int32.toNatClampNeg (μ.1 1 2)) x1).1 1 2)) x2) 1 2 (((mu_up (mu_up μ 2 (Int32.toNatClampNeg (μ.1 1 2)) x1) 3 (Int32.toNatClampNeg ((mu_up μ 2 (Int32.toNatClampNeg (μ.1 1 2)) x1).1 1 2)) x2).1 1 2) + 1))) rfl ?_
      refine rv_iconst (v := 1) dX7_append_51 (by decide) ?_
      refine rv_isub dX7_append_52 ?_
      obtain rfl := Option.some.inj h
      exact rv_iret rfl dX7_append_53 (rv_le rfl) (rv_le rfl) ⟨rfl, rfl⟩
    · replace h := rv_iff hc2 h
      refine rv_iconst (v := (-1)) dX7_append_15 (by decide) ?_
      obtain rfl := Option.some.inj h
      exact rv_iret rfl dX7_append_16 (rv_le rfl) (rv_le rfl) ⟨rfl, rfl⟩
theorem ct_X8_shiftIn {l : Launch} {D : va_G} {ta : Nat → ClassId} {ws : va_W} {x0 : Int32} {r : Int32} (h : f_X8_shiftIn x0 = some r) : rv_C l D (rv_T ta) yX8_shiftIn cX8_shiftIn 1 (some .int) 1 0 0 [.int x0] ws (rv_F (rv_vI r) ws) := by
  refine rv_Cof2 (own := RX8) (lv := [(0, .int x0)]) rfl (by decide) (rv_le rfl) rfl ?_
  unfold f_X8_shiftIn at h
  refine rv_iload_n dX8_shiftIn_0 rfl 0 rfl ?_
  refine rv_iconst (v := 4) dX8_shiftIn_1 (by decide) ?_
  refine rv_irem dX8_shiftIn_2 (by decide) ?_
  refine rv_iconst (v := 1) dX8_shiftIn_3 (by decide) ?_
  refine rv_isub dX8_shiftIn_4 ?_
  obtain rfl := Option.some.inj h
  exact rv_iret rfl dX8_shiftIn_5 (rv_le rfl) (rv_le rfl) ⟨rfl, rfl⟩
