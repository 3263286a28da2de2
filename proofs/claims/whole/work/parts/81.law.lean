/-! the law: its cases, its loop -/
def lwA (ta : Nat → ClassId) (ad bd : Nat → Nat) (oa od : Nat) (μ ν : Mem) (u : Nat → Int64) (v : Nat → UInt64) : va_W := (od, .inl (ta 4, 1, .inr (.inr (.inr (.inl v))))) :: (oa, .inl (ta 2, 1, .inr (.inl u))) :: (wx ta ad μ ++ wm ta bd ν)
def lwB (ta : Nat → ClassId) (ad bd : Nat → Nat) (oa od : Nat) (μ ν : Mem) (u : Nat → Int64) (v : Nat → UInt64) : va_W := (oa, .inl (ta 2, 1, .inr (.inl u))) :: (od, .inl (ta 4, 1, .inr (.inr (.inr (.inl v))))) :: (wx ta ad μ ++ wm ta bd ν)
theorem fc_w (ta : Nat → ClassId) (ad bd : Nat → Nat) (oa od : Nat) (μ ν : Mem) (u : Nat → Int64) (v : Nat → UInt64) : ([1, 2, 3, 4, 5, 6, 7, 8, 9, 10, 11, 12, 13, 14, 15, 16, 17, 18, 19, 20, 21, 22, 23, 24, 25, 26, 27] : List Nat).map (fun i => ((lwA ta ad bd oa od μ ν u v) : va_W)[i]?) = (((oa, .inl (ta 2, 1, .inr (.inl u))) :: wx ta ad μ) : va_W).map some := rfl
theorem fr_w (ta : Nat → ClassId) (ad bd : Nat → Nat) (oa od : Nat) (μ ν : Mem) (u : Nat → Int64) (v : Nat → UInt64) : ([0, 28, 29, 30, 31, 32, 33, 34, 35, 36, 37, 38, 39, 40, 41, 42, 43] : List Nat).map (fun i => ((lwA ta ad bd oa od μ ν u v) : va_W)[i]?) = (((od, .inl (ta 4, 1, .inr (.inr (.inr (.inl v))))) :: wm ta bd ν) : va_W).map some := rfl
theorem fl_w {l : Launch} {D : va_G} {tys : List (ClassId × FieldType)} {y : MethodName} {cc : ByteArray} {nL : Nat} {ret : Option FieldType} {tb : List (Nat × Nat × Nat × Nat)} {d mc ms : Nat} {av : List Value} {F : Option Value → va_W → Prop} {ta : Nat → ClassId} {ad bd : Nat → Nat} {oa od : Nat} {μ ν : Mem} {u : Nat → Int64} {v : Nat → UInt64} (h : rv_CW l D tys y cc nL ret tb d mc ms av ((oa, .inl (ta 2, 1, .inr (.inl u))) :: wx ta ad μ) F) : rv_CW l D tys y cc nL ret tb d mc ms av (lwA ta ad bd oa od μ ν u v) (fun v9 w => ∃ w1, F v9 w1 ∧ w = ((od, .inl (ta 4, 1, .inr (.inr (.inr (.inl v))))) :: wm ta bd ν) ++ w1) := rv_CWframe h [1, 2, 3, 4, 5, 6, 7, 8, 9, 10, 11, 12, 13, 14, 15, 16, 17, 18, 19, 20, 21, 22, 23, 24, 25, 26, 27] [0, 28, 29, 30, 31, 32, 33, 34, 35, 36, 37, 38, 39, 40, 41, 42, 43] (fc_w ta ad bd oa od μ ν u v) (fr_w ta ad bd oa od μ ν u v) rfl rfl (by decide +kernel)
theorem fc_d (ta : Nat → ClassId) (ad bd : Nat → Nat) (oa od : Nat) (μ ν : Mem) (u : Nat → Int64) (v : Nat → UInt64) : ([0, 2, 3, 4, 5, 6, 7, 8, 9, 10, 11, 12, 13, 14, 15, 16, 17, 18, 19, 20, 21, 22, 23, 24, 25, 26, 27] : List Nat).map (fun i => ((lwA ta ad bd oa od μ ν u v) : va_W)[i]?) = (((od, .inl (ta 4, 1, .inr (.inr (.inr (.inl v))))) :: wx ta ad μ) : va_W).map some := rfl
theorem fr_d (ta : Nat → ClassId) (ad bd : Nat → Nat) (oa od : Nat) (μ ν : Mem) (u : Nat → Int64) (v : Nat → UInt64) : ([1, 28, 29, 30, 31, 32, 33, 34, 35, 36, 37, 38, 39, 40, 41, 42, 43] : List Nat).map (fun i => ((lwA ta ad bd oa od μ ν u v) : va_W)[i]?) = (((oa, .inl (ta 2, 1, .inr (.inl u))) :: wm ta bd ν) : va_W).map some := rfl
theorem fl_d {l : Launch} {D : va_G} {tys : List (ClassId × FieldType)} {y : MethodName} {cc : ByteArray} {nL : Nat} {ret : Option FieldType} {tb : List (Nat × Nat × Nat × Nat)} {d mc ms : Nat} {av : List Value} {F : Option Value → va_W → Prop} {ta : Nat → ClassId} {ad bd : Nat → Nat} {oa od : Nat} {μ ν : Mem} {u : Nat → Int64} {v : Nat → UInt64} (h : rv_CW l D tys y cc nL ret tb d mc ms av ((od, .inl (ta 4, 1, .inr (.inr (.inr (.inl v))))) :: wx ta ad μ) F) : rv_CW l D tys y cc nL ret tb d mc ms av (lwA ta ad bd oa od μ ν u v) (fun v9 w => ∃ w1, F v9 w1 ∧ w = ((oa, .inl (ta 2, 1, .inr (.inl u))) :: wm ta bd ν) ++ w1) := rv_CWframe h [0, 2, 3, 4, 5, 6, 7, 8, 9, 10, 11, 12, 13, 14, 15, 16, 17, 18, 19, 20, 21, 22, 23, 24, 25, 26, 27] [1, 28, 29, 30, 31, 32, 33, 34, 35, 36, 37, 38, 39, 40, 41, 42, 43] (fc_d ta ad bd oa od μ ν u v) (fr_d ta ad bd oa od μ ν u v) rfl rfl (by decide +kernel)
theorem fc_x (ta : Nat → ClassId) (ad bd : Nat → Nat) (oa od : Nat) (μ ν : Mem) (u : Nat → Int64) (v : Nat → UInt64) : ([2, 3, 4, 5, 6, 7, 8, 9, 10, 11, 12, 13, 14, 15, 16, 17, 18, 19, 20, 21, 22, 23, 24, 25, 26, 27] : List Nat).map (fun i => ((lwA ta ad bd oa od μ ν u v) : va_W)[i]?) = ((wx ta ad μ) : va_W).map some := rfl
theorem fr_x (ta : Nat → ClassId) (ad bd : Nat → Nat) (oa od : Nat) (μ ν : Mem) (u : Nat → Int64) (v : Nat → UInt64) : ([0, 1, 28, 29, 30, 31, 32, 33, 34, 35, 36, 37, 38, 39, 40, 41, 42, 43] : List Nat).map (fun i => ((lwA ta ad bd oa od μ ν u v) : va_W)[i]?) = (((od, .inl (ta 4, 1, .inr (.inr (.inr (.inl v))))) :: (oa, .inl (ta 2, 1, .inr (.inl u))) :: wm ta bd ν) : va_W).map some := rfl
theorem fl_x {l : Launch} {D : va_G} {tys : List (ClassId × FieldType)} {y : MethodName} {cc : ByteArray} {nL : Nat} {ret : Option FieldType} {d mc ms : Nat} {av : List Value} {F : Option Value → va_W → Prop} {ta : Nat → ClassId} {ad bd : Nat → Nat} {oa od : Nat} {μ ν : Mem} {u : Nat → Int64} {v : Nat → UInt64} (h : rv_C l D tys y cc nL ret d mc ms av (wx ta ad μ) F) : rv_C l D tys y cc nL ret d mc ms av (lwA ta ad bd oa od μ ν u v) (fun v9 w => ∃ w1, F v9 w1 ∧ w = ((od, .inl (ta 4, 1, .inr (.inr (.inr (.inl v))))) :: (oa, .inl (ta 2, 1, .inr (.inl u))) :: wm ta bd ν) ++ w1) := rv_Cframe h [2, 3, 4, 5, 6, 7, 8, 9, 10, 11, 12, 13, 14, 15, 16, 17, 18, 19, 20, 21, 22, 23, 24, 25, 26, 27] [0, 1, 28, 29, 30, 31, 32, 33, 34, 35, 36, 37, 38, 39, 40, 41, 42, 43] (fc_x ta ad bd oa od μ ν u v) (fr_x ta ad bd oa od μ ν u v) rfl rfl (by decide +kernel)
theorem fc_tA (ta : Nat → ClassId) (ad bd : Nat → Nat) (oa od : Nat) (μ ν : Mem) (u : Nat → Int64) (v : Nat → UInt64) : ([28, 29, 30, 31, 32, 33, 34, 35, 36, 37, 38, 39, 40, 41, 42, 43] : List Nat).map (fun i => ((lwA ta ad bd oa od μ ν u v) : va_W)[i]?) = ((wm ta bd ν) : va_W).map some := rfl
theorem fr_tA (ta : Nat → ClassId) (ad bd : Nat → Nat) (oa od : Nat) (μ ν : Mem) (u : Nat → Int64) (v : Nat → UInt64) : ([0, 1, 2, 3, 4, 5, 6, 7, 8, 9, 10, 11, 12, 13, 14, 15, 16, 17, 18, 19, 20, 21, 22, 23, 24, 25, 26, 27] : List Nat).map (fun i => ((lwA ta ad bd oa od μ ν u v) : va_W)[i]?) = (((od, .inl (ta 4, 1, .inr (.inr (.inr (.inl v))))) :: (oa, .inl (ta 2, 1, .inr (.inl u))) :: wx ta ad μ) : va_W).map some := rfl
theorem fl_tA {l : Launch} {D : va_G} {tys : List (ClassId × FieldType)} {y : MethodName} {cc : ByteArray} {nL : Nat} {ret : Option FieldType} {d mc ms : Nat} {av : List Value} {F : Option Value → va_W → Prop} {ta : Nat → ClassId} {ad bd : Nat → Nat} {oa od : Nat} {μ ν : Mem} {u : Nat → Int64} {v : Nat → UInt64} (h : rv_C l D tys y cc nL ret d mc ms av (wm ta bd ν) F) : rv_C l D tys y cc nL ret d mc ms av (lwA ta ad bd oa od μ ν u v) (fun v9 w => ∃ w1, F v9 w1 ∧ w = ((od, .inl (ta 4, 1, .inr (.inr (.inr (.inl v))))) :: (oa, .inl (ta 2, 1, .inr (.inl u))) :: wx ta ad μ) ++ w1) := rv_Cframe h [28, 29, 30, 31, 32, 33, 34, 35, 36, 37, 38, 39, 40, 41, 42, 43] [0, 1, 2, 3, 4, 5, 6, 7, 8, 9, 10, 11, 12, 13, 14, 15, 16, 17, 18, 19, 20, 21, 22, 23, 24, 25, 26, 27] (fc_tA ta ad bd oa od μ ν u v) (fr_tA ta ad bd oa od μ ν u v) rfl rfl (by decide +kernel)
theorem fc_tB (ta : Nat → ClassId) (ad bd : Nat → Nat) (oa od : Nat) (μ ν : Mem) (u : Nat → Int64) (v : Nat → UInt64) : ([28, 29, 30, 31, 32, 33, 34, 35, 36, 37, 38, 39, 40, 41, 42, 43] : List Nat).map (fun i => ((lwB ta ad bd oa od μ ν u v) : va_W)[i]?) = ((wm ta bd ν) : va_W).map some := rfl
theorem fr_tB (ta : Nat → ClassId) (ad bd : Nat → Nat) (oa od : Nat) (μ ν : Mem) (u : Nat → Int64) (v : Nat → UInt64) : ([0, 1, 2, 3, 4, 5, 6, 7, 8, 9, 10, 11, 12, 13, 14, 15, 16, 17, 18, 19, 20, 21, 22, 23, 24, 25, 26, 27] : List Nat).map (fun i => ((lwB ta ad bd oa od μ ν u v) : va_W)[i]?) = (((oa, .inl (ta 2, 1, .inr (.inl u))) :: (od, .inl (ta 4, 1, .inr (.inr (.inr (.inl v))))) :: wx ta ad μ) : va_W).map some := rfl
theorem fl_tB {l : Launch} {D : va_G} {tys : List (ClassId × FieldType)} {y : MethodName} {cc : ByteArray} {nL : Nat} {ret : Option FieldType} {d mc ms : Nat} {av : List Value} {F : Option Value → va_W → Prop} {ta : Nat → ClassId} {ad bd : Nat → Nat} {oa od : Nat} {μ ν : Mem} {u : Nat → Int64} {v : Nat → UInt64} (h : rv_C l D tys y cc nL ret d mc ms av (wm ta bd ν) F) : rv_C l D tys y cc nL ret d mc ms av (lwB ta ad bd oa od μ ν u v) (fun v9 w => ∃ w1, F v9 w1 ∧ w = ((oa, .inl (ta 2, 1, .inr (.inl u))) :: (od, .inl (ta 4, 1, .inr (.inr (.inr (.inl v))))) :: wx ta ad μ) ++ w1) := rv_Cframe h [28, 29, 30, 31, 32, 33, 34, 35, 36, 37, 38, 39, 40, 41, 42, 43] [0, 1, 2, 3, 4, 5, 6, 7, 8, 9, 10, 11, 12, 13, 14, 15, 16, 17, 18, 19, 20, 21, 22, 23, 24, 25, 26, 27] (fc_tB ta ad bd oa od μ ν u v) (fr_tB ta ad bd oa od μ ν u v) rfl rfl (by decide +kernel)
theorem fc_mw (ta : Nat → ClassId) (ad bd : Nat → Nat) (oa od : Nat) (μ ν : Mem) (u : Nat → Int64) (v : Nat → UInt64) : ([1, 2, 3, 4, 5, 6, 7, 8, 9, 10, 11, 12, 13, 14, 15, 16] : List Nat).map (fun i => ((((od, .inl (ta 4, 1, .inr (.inr (.inr (.inl v))))) :: wm ta bd ν) ++ ((oa, .inl (ta 2, 1, .inr (.inl u))) :: wx ta ad μ)) : va_W)[i]?) = ((wm ta bd ν) : va_W).map some := rfl
theorem fr_mw (ta : Nat → ClassId) (ad bd : Nat → Nat) (oa od : Nat) (μ ν : Mem) (u : Nat → Int64) (v : Nat → UInt64) : ([0, 17, 18, 19, 20, 21, 22, 23, 24, 25, 26, 27, 28, 29, 30, 31, 32, 33, 34, 35, 36, 37, 38, 39, 40, 41, 42, 43] : List Nat).map (fun i => ((((od, .inl (ta 4, 1, .inr (.inr (.inr (.inl v))))) :: wm ta bd ν) ++ ((oa, .inl (ta 2, 1, .inr (.inl u))) :: wx ta ad μ)) : va_W)[i]?) = (((od, .inl (ta 4, 1, .inr (.inr (.inr (.inl v))))) :: (oa, .inl (ta 2, 1, .inr (.inl u))) :: wx ta ad μ) : va_W).map some := rfl
theorem fl_mw {l : Launch} {D : va_G} {tys : List (ClassId × FieldType)} {y : MethodName} {cc : ByteArray} {nL : Nat} {ret : Option FieldType} {d mc ms : Nat} {av : List Value} {F : Option Value → va_W → Prop} {ta : Nat → ClassId} {ad bd : Nat → Nat} {oa od : Nat} {μ ν : Mem} {u : Nat → Int64} {v : Nat → UInt64} (h : rv_C l D tys y cc nL ret d mc ms av (wm ta bd ν) F) : rv_C l D tys y cc nL ret d mc ms av (((od, .inl (ta 4, 1, .inr (.inr (.inr (.inl v))))) :: wm ta bd ν) ++ ((oa, .inl (ta 2, 1, .inr (.inl u))) :: wx ta ad μ)) (fun v9 w => ∃ w1, F v9 w1 ∧ w = ((od, .inl (ta 4, 1, .inr (.inr (.inr (.inl v))))) :: (oa, .inl (ta 2, 1, .inr (.inl u))) :: wx ta ad μ) ++ w1) := rv_Cframe h [1, 2, 3, 4, 5, 6, 7, 8, 9, 10, 11, 12, 13, 14, 15, 16] [0, 17, 18, 19, 20, 21, 22, 23, 24, 25, 26, 27, 28, 29, 30, 31, 32, 33, 34, 35, 36, 37, 38, 39, 40, 41, 42, 43] (fc_mw ta ad bd oa od μ ν u v) (fr_mw ta ad bd oa od μ ν u v) rfl rfl (by decide +kernel)
theorem fc_md (ta : Nat → ClassId) (ad bd : Nat → Nat) (oa od : Nat) (μ ν : Mem) (u : Nat → Int64) (v : Nat → UInt64) : ([1, 2, 3, 4, 5, 6, 7, 8, 9, 10, 11, 12, 13, 14, 15, 16] : List Nat).map (fun i => ((((oa, .inl (ta 2, 1, .inr (.inl u))) :: wm ta bd ν) ++ ((od, .inl (ta 4, 1, .inr (.inr (.inr (.inl v))))) :: wx ta ad μ)) : va_W)[i]?) = ((wm ta bd ν) : va_W).map some := rfl
theorem fr_md (ta : Nat → ClassId) (ad bd : Nat → Nat) (oa od : Nat) (μ ν : Mem) (u : Nat → Int64) (v : Nat → UInt64) : ([0, 17, 18, 19, 20, 21, 22, 23, 24, 25, 26, 27, 28, 29, 30, 31, 32, 33, 34, 35, 36, 37, 38, 39, 40, 41, 42, 43] : List Nat).map (fun i => ((((oa, .inl (ta 2, 1, .inr (.inl u))) :: wm ta bd ν) ++ ((od, .inl (ta 4, 1, .inr (.inr (.inr (.inl v))))) :: wx ta ad μ)) : va_W)[i]?) = (((oa, .inl (ta 2, 1, .inr (.inl u))) :: (od, .inl (ta 4, 1, .inr (.inr (.inr (.inl v))))) :: wx ta ad μ) : va_W).map some := rfl
theorem fl_md {l : Launch} {D : va_G} {tys : List (ClassId × FieldType)} {y : MethodName} {cc : ByteArray} {nL : Nat} {ret : Option FieldType} {d mc ms : Nat} {av : List Value} {F : Option Value → va_W → Prop} {ta : Nat → ClassId} {ad bd : Nat → Nat} {oa od : Nat} {μ ν : Mem} {u : Nat → Int64} {v : Nat → UInt64} (h : rv_C l D tys y cc nL ret d mc ms av (wm ta bd ν) F) : rv_C l D tys y cc nL ret d mc ms av (((oa, .inl (ta 2, 1, .inr (.inl u))) :: wm ta bd ν) ++ ((od, .inl (ta 4, 1, .inr (.inr (.inr (.inl v))))) :: wx ta ad μ)) (fun v9 w => ∃ w1, F v9 w1 ∧ w = ((oa, .inl (ta 2, 1, .inr (.inl u))) :: (od, .inl (ta 4, 1, .inr (.inr (.inr (.inl v))))) :: wx ta ad μ) ++ w1) := rv_Cframe h [1, 2, 3, 4, 5, 6, 7, 8, 9, 10, 11, 12, 13, 14, 15, 16] [0, 17, 18, 19, 20, 21, 22, 23, 24, 25, 26, 27, 28, 29, 30, 31, 32, 33, 34, 35, 36, 37, 38, 39, 40, 41, 42, 43] (fc_md ta ad bd oa od μ ν u v) (fr_md ta ad bd oa od μ ν u v) rfl rfl (by decide +kernel)
theorem fc_mx (ta : Nat → ClassId) (ad bd : Nat → Nat) (oa od : Nat) (μ ν : Mem) (u : Nat → Int64) (v : Nat → UInt64) : ([2, 3, 4, 5, 6, 7, 8, 9, 10, 11, 12, 13, 14, 15, 16, 17] : List Nat).map (fun i => ((((od, .inl (ta 4, 1, .inr (.inr (.inr (.inl v))))) :: (oa, .inl (ta 2, 1, .inr (.inl u))) :: wm ta bd ν) ++ wx ta ad μ) : va_W)[i]?) = ((wm ta bd ν) : va_W).map some := rfl
theorem fr_mx (ta : Nat → ClassId) (ad bd : Nat → Nat) (oa od : Nat) (μ ν : Mem) (u : Nat → Int64) (v : Nat → UInt64) : ([0, 1, 18, 19, 20, 21, 22, 23, 24, 25, 26, 27, 28, 29, 30, 31, 32, 33, 34, 35, 36, 37, 38, 39, 40, 41, 42, 43] : List Nat).map (fun i => ((((od, .inl (ta 4, 1, .inr (.inr (.inr (.inl v))))) :: (oa, .inl (ta 2, 1, .inr (.inl u))) :: wm ta bd ν) ++ wx ta ad μ) : va_W)[i]?) = (((od, .inl (ta 4, 1, .inr (.inr (.inr (.inl v))))) :: (oa, .inl (ta 2, 1, .inr (.inl u))) :: wx ta ad μ) : va_W).map some := rfl
theorem fl_mx {l : Launch} {D : va_G} {tys : List (ClassId × FieldType)} {y : MethodName} {cc : ByteArray} {nL : Nat} {ret : Option FieldType} {d mc ms : Nat} {av : List Value} {F : Option Value → va_W → Prop} {ta : Nat → ClassId} {ad bd : Nat → Nat} {oa od : Nat} {μ ν : Mem} {u : Nat → Int64} {v : Nat → UInt64} (h : rv_C l D tys y cc nL ret d mc ms av (wm ta bd ν) F) : rv_C l D tys y cc nL ret d mc ms av (((od, .inl (ta 4, 1, .inr (.inr (.inr (.inl v))))) :: (oa, .inl (ta 2, 1, .inr (.inl u))) :: wm ta bd ν) ++ wx ta ad μ) (fun v9 w => ∃ w1, F v9 w1 ∧ w = ((od, .inl (ta 4, 1, .inr (.inr (.inr (.inl v))))) :: (oa, .inl (ta 2, 1, .inr (.inl u))) :: wx ta ad μ) ++ w1) := rv_Cframe h [2, 3, 4, 5, 6, 7, 8, 9, 10, 11, 12, 13, 14, 15, 16, 17] [0, 1, 18, 19, 20, 21, 22, 23, 24, 25, 26, 27, 28, 29, 30, 31, 32, 33, 34, 35, 36, 37, 38, 39, 40, 41, 42, 43] (fc_mx ta ad bd oa od μ ν u v) (fr_mx ta ad bd oa od μ ν u v) rfl rfl (by decide +kernel)
theorem lx_c {x y : Int64} (h : x = y) : lg_cmp x y = 0 := by
  subst h
  unfold lg_cmp
  rw [if_neg (by rw [gt_iff_lt, Int64.lt_iff_toInt_lt]; omega), if_pos rfl]
theorem lx_ne {α β : Type} {Es : List String} {o : String ⊕ α} {b : α} {k : Int32} (h : rv_ans Es o b k) : True := trivial
theorem lx_ord {d : FP.Core.Datum} (h : d ≠ .nan) : FP.Core.order d d = some .eq := by
  have c : ∀ x : Int, compare x x = .eq := by
    intro x
    show compareOfLessAndEq x x = _
    unfold compareOfLessAndEq
    rw [if_neg (Int.lt_irrefl _), if_pos rfl]
  cases d with
  | nan => exact absurd rfl h
  | inf s =>
    show some (compare _ _) = _
    rw [c]
  | fin s k q =>
    show some (compare _ _) = _
    rw [c]
theorem lx_d {z : UInt64} (h : rv_nn64 z = true) (op : CmpOp) : Op.cmpValue (FP.dcmp z z) op = 0 := by
  have hz : FP.Core.decode FP.Core.b64 z.toNat ≠ .nan := by
    refine fp_dec ?_
    have h1 := of_decide_eq_true h
    rw [UInt64.le_iff_toNat_le, UInt64.toNat_and] at h1
    have e2 : (0x7fffffffffffffff : UInt64).toNat = 2 ^ 63 - 1 := by decide
    have e3 : (0x7ff0000000000000 : UInt64).toNat = 9218868437227405312 := by decide
    rw [e2, e3, Nat.and_two_pow_sub_one_eq_mod] at h1
    exact h1
  have e : FP.dcmp z z = some .eq := lx_ord hz
  rw [e]
  cases op <;> rfl
theorem lx_t (μ : Mem) : f_X9_thrown μ = some (μ.1 0 0) := rfl
abbrev lR : Room := room_1
theorem lx_f {cu m : Nat} (h : cu + m ≤ 603072) : cu + m ≤ room_1.cells := h
theorem lx_s {su m : Nat} (h : su + m ≤ 7207018) : su + m ≤ room_1.slots := h
theorem lc_0 {l : Launch} {D : va_G} {ta : Nat → ClassId} {ad bd : Nat → Nat} {b L : Nat} {xs : Nat → Int32} {oa od : Nat} {hh : String × List ExceptionTableEntry} (hl9 : l.stackTraces = false) {μ ν : Mem} (h : Rel μ ν) {u : Nat → Int64} {v : Nat → UInt64} {ii : Int32} (i1 : vp_in (ii + 1) L) (i2 : vp_in (ii + 2) L) (i3 : vp_in (ii + 3) L) {cu su : Nat} (hcu : cu + 12 ≤ 603072) (hsu : su + 72 ≤ 7207018) (kk : ∀ {μ2 ν2 : Mem} {u2 : Nat → Int64} {v2 : Nat → UInt64} {cu2 su2 : Nat}, Rel μ2 ν2 → cu2 ≤ cu + 12 → su2 ≤ su + 72 → rv_V l D (rv_T ta) RL cL_law 9 (some .boolean) hh room_1 (rv_L b L xs) cu2 su2 (lwA ta ad bd oa od μ2 ν2 u2 v2) 2232 [(0, .ref b), (1, .ref (ad 0)), (2, .ref (bd 0)), (3, .ref oa), (4, .ref od), (5, .int ii)] []) : rv_V l D (rv_T ta) RL cL_law 9 (some .boolean) hh room_1 (rv_L b L xs) cu su (lwA ta ad bd oa od μ ν u v) 200 [(0, .ref b), (1, .ref (ad 0)), (2, .ref (bd 0)), (3, .ref oa), (4, .ref od), (5, .int ii)] [] := by
  obtain ⟨o9, μ2, b9, ν2, k9, hx, hm, ht, h2, ha⟩ := eq_addPerson h
  refine rv_aload_n dL_law_200 rfl 1 rfl ?_
  refine rv_aload_n dL_law_201 rfl 3 rfl ?_
  refine rv_callW (rest := []) (fl_w (ν := ν) (w_addPerson hl9 hx ha oa u)) wm_L_131 ws_L_addPerson wcw_addPerson wz_L np_L_addPerson ⟨lx_f (by omega), lx_s (by omega)⟩ ⟨rv_le rfl, rv_le rfl⟩ dL_law_202 rfl (rv_le rfl) (fun v9 w9 h9 => ?_)
  obtain ⟨w8, ⟨u2, rfl, rfl, hu⟩, rfl⟩ := h9
  refine rv_istore (lv2 := [(6, .int k9), (0, .ref b), (1, .ref (ad 0)), (2, .ref (bd 0)), (3, .ref oa), (4, .ref od), (5, .int ii)]) dL_law_205 (by decide) rfl ?_
  refine rv_aload_n dL_law_207 rfl 3 rfl ?_
  refine rv_callV (rest := []) (fl_mw (μ := μ2) (ct_X9_addPerson hm)) wm_L_136 wi_X9_addPerson wl_X9_addPerson wc_X9_addPerson wz_X9 rfl np_X9_addPerson ⟨lx_f (by omega), lx_s (by omega)⟩ ⟨rv_le rfl, rv_le rfl⟩ dL_law_208 rfl (rv_le rfl) 1 rfl cl_X9 (fun v9 w9 h9 => ?_)
  obtain ⟨w8, ⟨rfl, rfl⟩, rfl⟩ := h9
  refine rv_ws (ws2 := lwA ta ad bd oa od μ2 ν2 u2 v) rfl ?_
  refine rv_istore (lv2 := [(7, .int b9), (6, .int k9), (0, .ref b), (1, .ref (ad 0)), (2, .ref (bd 0)), (3, .ref oa), (4, .ref od), (5, .int ii)]) dL_law_211 (by decide) rfl ?_
  refine rv_aload_n dL_law_213 rfl 4 rfl ?_
  refine rv_callV (rest := []) (fl_tA (μ := μ2) (ν := ν2) (ta := ta) (ad := ad) (bd := bd) (oa := oa) (od := od) (u := u2) (v := v) (ct_X9_thrown (lx_t ν2))) wm_L_137 wi_X9_thrown wl_X9_thrown wc_X9_thrown wz_X9 rfl np_X9_thrown ⟨lx_f (by omega), lx_s (by omega)⟩ ⟨rv_le rfl, rv_le rfl⟩ dL_law_214 rfl (rv_le rfl) 28 rfl cl_X9 (fun v9 w9 h9 => ?_)
  obtain ⟨w8, ⟨rfl, rfl⟩, rfl⟩ := h9
  rw [ht]
  refine rv_ws (ws2 := lwA ta ad bd oa od μ2 ν2 u2 v) rfl ?_
  refine rv_iload dL_law_217 1 rfl ?_
  refine rv_icmp_eq (tgt := 224) dL_law_219 (by decide) (fun _ => ?_) (fun hc => absurd rfl hc)
  refine rv_iload dL_law_224 1 rfl ?_
  refine rv_if_ne (tgt := 241) dL_law_226 (by decide) (fun hk => ?_) (fun hk => ?_)
  · refine rv_goto (tgt := 2232) dL_law_241 (by decide) ?_
    refine rv_sub [2, 3, 4, 5, 6, 7] rfl ?_
    exact kk h2 (by omega) (by omega)
  · have hu := hu hk
    refine rv_aload_n dL_law_229 rfl 5 rfl ?_
    refine rv_iconst (v := 0) dL_law_230 (by decide) ?_
    refine rv_lald dL_law_231 2 rfl 1 rfl (rv_inP (by decide)) ?_
    refine rv_iload dL_law_232 0 rfl ?_
    refine rv_i2l dL_law_234 rfl ?_
    refine rv_lcmp dL_law_235 ?_
    refine rv_if_eq (tgt := 241) dL_law_236 (by decide) (fun _ => ?_) (fun hc => absurd (lx_c hu) hc)
    refine rv_goto (tgt := 2232) dL_law_241 (by decide) ?_
    refine rv_sub [2, 3, 4, 5, 6, 7] rfl ?_
    exact kk h2 (by omega) (by omega)
theorem lc_1 {l : Launch} {D : va_G} {ta : Nat → ClassId} {ad bd : Nat → Nat} {b L : Nat} {xs : Nat → Int32} {oa od : Nat} {hh : String × List ExceptionTableEntry} (hl9 : l.stackTraces = false) {μ ν : Mem} (h : Rel μ ν) {u : Nat → Int64} {v : Nat → UInt64} {ii : Int32} (i1 : vp_in (ii + 1) L) (i2 : vp_in (ii + 2) L) (i3 : vp_in (ii + 3) L) {cu su : Nat} (hcu : cu + 12 ≤ 603072) (hsu : su + 72 ≤ 7207018) (kk : ∀ {μ2 ν2 : Mem} {u2 : Nat → Int64} {v2 : Nat → UInt64} {cu2 su2 : Nat}, Rel μ2 ν2 → cu2 ≤ cu + 12 → su2 ≤ su + 72 → rv_V l D (rv_T ta) RL cL_law 9 (some .boolean) hh room_1 (rv_L b L xs) cu2 su2 (lwA ta ad bd oa od μ2 ν2 u2 v2) 2232 [(0, .ref b), (1, .ref (ad 0)), (2, .ref (bd 0)), (3, .ref oa), (4, .ref od), (5, .int ii)] []) : rv_V l D (rv_T ta) RL cL_law 9 (some .boolean) hh room_1 (rv_L b L xs) cu su (lwA ta ad bd oa od μ ν u v) 244 [(0, .ref b), (1, .ref (ad 0)), (2, .ref (bd 0)), (3, .ref oa), (4, .ref od), (5, .int ii)] [] := by
  obtain ⟨o9, μ2, b9, ν2, k9, hx, hm, ht, h2, ha⟩ := eq_addShift h (xs (Int32.toNatClampNeg (ii + 1))) (xs (Int32.toNatClampNeg (ii + 2)))
  refine rv_aload_n dL_law_244 rfl 1 rfl ?_
  refine rv_aload_n dL_law_245 rfl 0 rfl ?_
  refine rv_iload dL_law_246 5 rfl ?_
  refine rv_iconst (v := 1) dL_law_248 (by decide) ?_
  refine rv_iadd dL_law_249 ?_
  refine rv_sld i1 dL_law_250 ?_
  refine rv_aload_n dL_law_251 rfl 0 rfl ?_
  refine rv_iload dL_law_252 5 rfl ?_
  refine rv_iconst (v := 2) dL_law_254 (by decide) ?_
  refine rv_iadd dL_law_255 ?_
  refine rv_sld i2 dL_law_256 ?_
  refine rv_aload_n dL_law_257 rfl 3 rfl ?_
  refine rv_callW (rest := []) (fl_w (ν := ν) (w_addShift hl9 hx ha oa u)) wm_L_140 ws_L_addShift wcw_addShift wz_L np_L_addShift ⟨lx_f (by omega), lx_s (by omega)⟩ ⟨rv_le rfl, rv_le rfl⟩ dL_law_258 rfl (rv_le rfl) (fun v9 w9 h9 => ?_)
  obtain ⟨w8, ⟨u2, rfl, rfl, hu⟩, rfl⟩ := h9
  refine rv_istore (lv2 := [(6, .int k9), (0, .ref b), (1, .ref (ad 0)), (2, .ref (bd 0)), (3, .ref oa), (4, .ref od), (5, .int ii)]) dL_law_261 (by decide) rfl ?_
  refine rv_aload_n dL_law_263 rfl 3 rfl ?_
  refine rv_aload_n dL_law_264 rfl 1 rfl ?_
  refine rv_iload dL_law_265 6 rfl ?_
  refine rv_iconst (v := 1) dL_law_267 (by decide) ?_
  refine rv_iadd dL_law_268 ?_
  refine rv_sld i1 dL_law_269 ?_
  refine rv_aload_n dL_law_270 rfl 1 rfl ?_
  refine rv_iload dL_law_271 6 rfl ?_
  refine rv_iconst (v := 2) dL_law_273 (by decide) ?_
  refine rv_iadd dL_law_274 ?_
  refine rv_sld i2 dL_law_275 ?_
  refine rv_callV (rest := []) (fl_mw (μ := μ2) (ct_X9_addShift hm)) wm_L_143 wi_X9_addShift wl_X9_addShift wc_X9_addShift wz_X9 rfl np_X9_addShift ⟨lx_f (by omega), lx_s (by omega)⟩ ⟨rv_le rfl, rv_le rfl⟩ dL_law_276 rfl (rv_le rfl) 1 rfl cl_X9 (fun v9 w9 h9 => ?_)
  obtain ⟨w8, ⟨rfl, rfl⟩, rfl⟩ := h9
  refine rv_ws (ws2 := lwA ta ad bd oa od μ2 ν2 u2 v) rfl ?_
  refine rv_istore (lv2 := [(7, .int b9), (6, .int k9), (0, .ref b), (1, .ref (ad 0)), (2, .ref (bd 0)), (3, .ref oa), (4, .ref od), (5, .int ii)]) dL_law_279 (by decide) rfl ?_
  refine rv_aload_n dL_law_281 rfl 4 rfl ?_
  refine rv_callV (rest := []) (fl_tA (μ := μ2) (ν := ν2) (ta := ta) (ad := ad) (bd := bd) (oa := oa) (od := od) (u := u2) (v := v) (ct_X9_thrown (lx_t ν2))) wm_L_137 wi_X9_thrown wl_X9_thrown wc_X9_thrown wz_X9 rfl np_X9_thrown ⟨lx_f (by omega), lx_s (by omega)⟩ ⟨rv_le rfl, rv_le rfl⟩ dL_law_282 rfl (rv_le rfl) 28 rfl cl_X9 (fun v9 w9 h9 => ?_)
  obtain ⟨w8, ⟨rfl, rfl⟩, rfl⟩ := h9
  rw [ht]
  refine rv_ws (ws2 := lwA ta ad bd oa od μ2 ν2 u2 v) rfl ?_
  refine rv_iload dL_law_285 1 rfl ?_
  refine rv_icmp_eq (tgt := 292) dL_law_287 (by decide) (fun _ => ?_) (fun hc => absurd rfl hc)
  refine rv_iload dL_law_292 1 rfl ?_
  refine rv_if_ne (tgt := 309) dL_law_294 (by decide) (fun hk => ?_) (fun hk => ?_)
  · refine rv_goto (tgt := 2232) dL_law_309 (by decide) ?_
    refine rv_sub [2, 3, 4, 5, 6, 7] rfl ?_
    exact kk h2 (by omega) (by omega)
  · have hu := hu hk
    refine rv_aload_n dL_law_297 rfl 5 rfl ?_
    refine rv_iconst (v := 0) dL_law_298 (by decide) ?_
    refine rv_lald dL_law_299 2 rfl 1 rfl (rv_inP (by decide)) ?_
    refine rv_iload dL_law_300 0 rfl ?_
    refine rv_i2l dL_law_302 rfl ?_
    refine rv_lcmp dL_law_303 ?_
    refine rv_if_eq (tgt := 309) dL_law_304 (by decide) (fun _ => ?_) (fun hc => absurd (lx_c hu) hc)
    refine rv_goto (tgt := 2232) dL_law_309 (by decide) ?_
    refine rv_sub [2, 3, 4, 5, 6, 7] rfl ?_
    exact kk h2 (by omega) (by omega)
theorem lc_2 {l : Launch} {D : va_G} {ta : Nat → ClassId} {ad bd : Nat → Nat} {b L : Nat} {xs : Nat → Int32} {oa od : Nat} {hh : String × List ExceptionTableEntry} (hl9 : l.stackTraces = false) {μ ν : Mem} (h : Rel μ ν) {u : Nat → Int64} {v : Nat → UInt64} {ii : Int32} (i1 : vp_in (ii + 1) L) (i2 : vp_in (ii + 2) L) (i3 : vp_in (ii + 3) L) {cu su : Nat} (hcu : cu + 12 ≤ 603072) (hsu : su + 72 ≤ 7207018) (kk : ∀ {μ2 ν2 : Mem} {u2 : Nat → Int64} {v2 : Nat → UInt64} {cu2 su2 : Nat}, Rel μ2 ν2 → cu2 ≤ cu + 12 → su2 ≤ su + 72 → rv_V l D (rv_T ta) RL cL_law 9 (some .boolean) hh room_1 (rv_L b L xs) cu2 su2 (lwA ta ad bd oa od μ2 ν2 u2 v2) 2232 [(0, .ref b), (1, .ref (ad 0)), (2, .ref (bd 0)), (3, .ref oa), (4, .ref od), (5, .int ii)] []) : rv_V l D (rv_T ta) RL cL_law 9 (some .boolean) hh room_1 (rv_L b L xs) cu su (lwA ta ad bd oa od μ ν u v) 312 [(0, .ref b), (1, .ref (ad 0)), (2, .ref (bd 0)), (3, .ref oa), (4, .ref od), (5, .int ii)] [] := by
  obtain ⟨o9, b9, ν2, k9, hx, hm, ht, h2, ha⟩ := eq_isNight h (xs (Int32.toNatClampNeg (ii + 1)))
  refine rv_aload_n dL_law_312 rfl 1 rfl ?_
  refine rv_aload_n dL_law_313 rfl 0 rfl ?_
  refine rv_iload dL_law_314 5 rfl ?_
  refine rv_iconst (v := 1) dL_law_316 (by decide) ?_
  refine rv_iadd dL_law_317 ?_
  refine rv_sld i1 dL_law_318 ?_
  refine rv_aload_n dL_law_319 rfl 3 rfl ?_
  refine rv_callW (rest := []) (fl_w (ν := ν) (w_isNight hl9 hx ha oa u)) wm_L_144 ws_L_isNight wcw_isNight wz_L np_L_isNight ⟨lx_f (by omega), lx_s (by omega)⟩ ⟨rv_le rfl, rv_le rfl⟩ dL_law_320 rfl (rv_le rfl) (fun v9 w9 h9 => ?_)
  obtain ⟨w8, ⟨u2, rfl, rfl, hu⟩, rfl⟩ := h9
  refine rv_istore (lv2 := [(6, .int k9), (0, .ref b), (1, .ref (ad 0)), (2, .ref (bd 0)), (3, .ref oa), (4, .ref od), (5, .int ii)]) dL_law_323 (by decide) rfl ?_
  refine rv_aload_n dL_law_325 rfl 3 rfl ?_
  refine rv_aload_n dL_law_326 rfl 1 rfl ?_
  refine rv_iload dL_law_327 6 rfl ?_
  refine rv_iconst (v := 1) dL_law_329 (by decide) ?_
  refine rv_iadd dL_law_330 ?_
  refine rv_sld i1 dL_law_331 ?_
  refine rv_callV (rest := []) (fl_mw (μ := μ) (ct_X9_isNight hm)) wm_L_147 wi_X9_isNight wl_X9_isNight wc_X9_isNight wz_X9 rfl np_X9_isNight ⟨lx_f (by omega), lx_s (by omega)⟩ ⟨rv_le rfl, rv_le rfl⟩ dL_law_332 rfl (rv_le rfl) 1 rfl cl_X9 (fun v9 w9 h9 => ?_)
  obtain ⟨w8, ⟨rfl, rfl⟩, rfl⟩ := h9
  refine rv_ws (ws2 := lwA ta ad bd oa od μ ν2 u2 v) rfl ?_
  refine rv_istore (lv2 := [(7, .int b9), (6, .int k9), (0, .ref b), (1, .ref (ad 0)), (2, .ref (bd 0)), (3, .ref oa), (4, .ref od), (5, .int ii)]) dL_law_335 (by decide) rfl ?_
  refine rv_aload_n dL_law_337 rfl 4 rfl ?_
  refine rv_callV (rest := []) (fl_tA (μ := μ) (ν := ν2) (ta := ta) (ad := ad) (bd := bd) (oa := oa) (od := od) (u := u2) (v := v) (ct_X9_thrown (lx_t ν2))) wm_L_137 wi_X9_thrown wl_X9_thrown wc_X9_thrown wz_X9 rfl np_X9_thrown ⟨lx_f (by omega), lx_s (by omega)⟩ ⟨rv_le rfl, rv_le rfl⟩ dL_law_338 rfl (rv_le rfl) 28 rfl cl_X9 (fun v9 w9 h9 => ?_)
  obtain ⟨w8, ⟨rfl, rfl⟩, rfl⟩ := h9
  rw [ht]
  refine rv_ws (ws2 := lwA ta ad bd oa od μ ν2 u2 v) rfl ?_
  refine rv_iload dL_law_341 1 rfl ?_
  refine rv_icmp_eq (tgt := 348) dL_law_343 (by decide) (fun _ => ?_) (fun hc => absurd rfl hc)
  refine rv_iload dL_law_348 1 rfl ?_
  refine rv_if_ne (tgt := 372) dL_law_350 (by decide) (fun hk => ?_) (fun hk => ?_)
  · refine rv_goto (tgt := 2232) dL_law_372 (by decide) ?_
    refine rv_sub [2, 3, 4, 5, 6, 7] rfl ?_
    exact kk h2 (by omega) (by omega)
  · have hu := hu hk
    refine rv_aload_n dL_law_353 rfl 5 rfl ?_
    refine rv_iconst (v := 0) dL_law_354 (by decide) ?_
    refine rv_lald dL_law_355 2 rfl 1 rfl (rv_inP (by decide)) ?_
    refine rv_iload dL_law_356 0 rfl ?_
    refine rv_if_eq (tgt := 365) dL_law_358 (by decide) (fun hb => ?_) (fun hb => ?_)
    · rw [if_pos hb] at hu
      refine rv_lconst (v := 0) dL_law_365 (by decide) ?_
      refine rv_lcmp dL_law_366 ?_
      refine rv_if_eq (tgt := 372) dL_law_367 (by decide) (fun _ => ?_) (fun hc => absurd (lx_c hu) hc)
      refine rv_goto (tgt := 2232) dL_law_372 (by decide) ?_
      refine rv_sub [2, 3, 4, 5, 6, 7] rfl ?_
      exact kk h2 (by omega) (by omega)
    · rw [if_neg hb] at hu
      refine rv_lconst (v := 1) dL_law_361 (by decide) ?_
      refine rv_goto (tgt := 366) dL_law_362 (by decide) ?_
      refine rv_lcmp dL_law_366 ?_
      refine rv_if_eq (tgt := 372) dL_law_367 (by decide) (fun _ => ?_) (fun hc => absurd (lx_c hu) hc)
      refine rv_goto (tgt := 2232) dL_law_372 (by decide) ?_
      refine rv_sub [2, 3, 4, 5, 6, 7] rfl ?_
      exact kk h2 (by omega) (by omega)
theorem lc_3 {l : Launch} {D : va_G} {ta : Nat → ClassId} {ad bd : Nat → Nat} {b L : Nat} {xs : Nat → Int32} {oa od : Nat} {hh : String × List ExceptionTableEntry} (hl9 : l.stackTraces = false) {μ ν : Mem} (h : Rel μ ν) {u : Nat → Int64} {v : Nat → UInt64} {ii : Int32} (i1 : vp_in (ii + 1) L) (i2 : vp_in (ii + 2) L) (i3 : vp_in (ii + 3) L) {cu su : Nat} (hcu : cu + 12 ≤ 603072) (hsu : su + 72 ≤ 7207018) (kk : ∀ {μ2 ν2 : Mem} {u2 : Nat → Int64} {v2 : Nat → UInt64} {cu2 su2 : Nat}, Rel μ2 ν2 → cu2 ≤ cu + 12 → su2 ≤ su + 72 → rv_V l D (rv_T ta) RL cL_law 9 (some .boolean) hh room_1 (rv_L b L xs) cu2 su2 (lwA ta ad bd oa od μ2 ν2 u2 v2) 2232 [(0, .ref b), (1, .ref (ad 0)), (2, .ref (bd 0)), (3, .ref oa), (4, .ref od), (5, .int ii)] []) : rv_V l D (rv_T ta) RL cL_law 9 (some .boolean) hh room_1 (rv_L b L xs) cu su (lwA ta ad bd oa od μ ν u v) 375 [(0, .ref b), (1, .ref (ad 0)), (2, .ref (bd 0)), (3, .ref oa), (4, .ref od), (5, .int ii)] [] := by
  obtain ⟨o9, μ2, b9, ν2, k9, hx, hm, ht, h2, ha⟩ := eq_teach h (xs (Int32.toNatClampNeg (ii + 1))) (xs (Int32.toNatClampNeg (ii + 2)))
  refine rv_aload_n dL_law_375 rfl 1 rfl ?_
  refine rv_aload_n dL_law_376 rfl 0 rfl ?_
  refine rv_iload dL_law_377 5 rfl ?_
  refine rv_iconst (v := 1) dL_law_379 (by decide) ?_
  refine rv_iadd dL_law_380 ?_
  refine rv_sld i1 dL_law_381 ?_
  refine rv_aload_n dL_law_382 rfl 0 rfl ?_
  refine rv_iload dL_law_383 5 rfl ?_
  refine rv_iconst (v := 2) dL_law_385 (by decide) ?_
  refine rv_iadd dL_law_386 ?_
  refine rv_sld i2 dL_law_387 ?_
  refine rv_aload_n dL_law_388 rfl 3 rfl ?_
  refine rv_callW (rest := []) (fl_w (ν := ν) (w_teach hl9 hx ha oa u)) wm_L_148 ws_L_teach wcw_teach wz_L np_L_teach ⟨lx_f (by omega), lx_s (by omega)⟩ ⟨rv_le rfl, rv_le rfl⟩ dL_law_389 rfl (rv_le rfl) (fun v9 w9 h9 => ?_)
  obtain ⟨w8, ⟨u2, rfl, rfl, hu⟩, rfl⟩ := h9
  refine rv_istore (lv2 := [(6, .int k9), (0, .ref b), (1, .ref (ad 0)), (2, .ref (bd 0)), (3, .ref oa), (4, .ref od), (5, .int ii)]) dL_law_392 (by decide) rfl ?_
  refine rv_aload_n dL_law_394 rfl 3 rfl ?_
  refine rv_aload_n dL_law_395 rfl 1 rfl ?_
  refine rv_iload dL_law_396 6 rfl ?_
  refine rv_iconst (v := 1) dL_law_398 (by decide) ?_
  refine rv_iadd dL_law_399 ?_
  refine rv_sld i1 dL_law_400 ?_
  refine rv_aload_n dL_law_401 rfl 1 rfl ?_
  refine rv_iload dL_law_402 6 rfl ?_
  refine rv_iconst (v := 2) dL_law_404 (by decide) ?_
  refine rv_iadd dL_law_405 ?_
  refine rv_sld i2 dL_law_406 ?_
  refine rv_callV (rest := []) (fl_mw (μ := μ2) (ct_X9_teach hm)) wm_L_150 wi_X9_teach wl_X9_teach wc_X9_teach wz_X9 rfl np_X9_teach ⟨lx_f (by omega), lx_s (by omega)⟩ ⟨rv_le rfl, rv_le rfl⟩ dL_law_407 rfl (rv_le rfl) 1 rfl cl_X9 (fun v9 w9 h9 => ?_)
  obtain ⟨w8, ⟨rfl, rfl⟩, rfl⟩ := h9
  refine rv_ws (ws2 := lwA ta ad bd oa od μ2 ν2 u2 v) rfl ?_
  refine rv_istore (lv2 := [(7, .int b9), (6, .int k9), (0, .ref b), (1, .ref (ad 0)), (2, .ref (bd 0)), (3, .ref oa), (4, .ref od), (5, .int ii)]) dL_law_410 (by decide) rfl ?_
  refine rv_aload_n dL_law_412 rfl 4 rfl ?_
  refine rv_callV (rest := []) (fl_tA (μ := μ2) (ν := ν2) (ta := ta) (ad := ad) (bd := bd) (oa := oa) (od := od) (u := u2) (v := v) (ct_X9_thrown (lx_t ν2))) wm_L_137 wi_X9_thrown wl_X9_thrown wc_X9_thrown wz_X9 rfl np_X9_thrown ⟨lx_f (by omega), lx_s (by omega)⟩ ⟨rv_le rfl, rv_le rfl⟩ dL_law_413 rfl (rv_le rfl) 28 rfl cl_X9 (fun v9 w9 h9 => ?_)
  obtain ⟨w8, ⟨rfl, rfl⟩, rfl⟩ := h9
  rw [ht]
  refine rv_ws (ws2 := lwA ta ad bd oa od μ2 ν2 u2 v) rfl ?_
  refine rv_iload dL_law_416 1 rfl ?_
  refine rv_icmp_eq (tgt := 423) dL_law_418 (by decide) (fun _ => ?_) (fun hc => absurd rfl hc)
  refine rv_iload dL_law_423 1 rfl ?_
  refine rv_if_ne (tgt := 447) dL_law_425 (by decide) (fun hk => ?_) (fun hk => ?_)
  · refine rv_goto (tgt := 2232) dL_law_447 (by decide) ?_
    refine rv_sub [2, 3, 4, 5, 6, 7] rfl ?_
    exact kk h2 (by omega) (by omega)
  · have hu := hu hk
    refine rv_aload_n dL_law_428 rfl 5 rfl ?_
    refine rv_iconst (v := 0) dL_law_429 (by decide) ?_
    refine rv_lald dL_law_430 2 rfl 1 rfl (rv_inP (by decide)) ?_
    refine rv_iload dL_law_431 0 rfl ?_
    refine rv_if_eq (tgt := 440) dL_law_433 (by decide) (fun hb => ?_) (fun hb => ?_)
    · rw [if_pos hb] at hu
      refine rv_lconst (v := 0) dL_law_440 (by decide) ?_
      refine rv_lcmp dL_law_441 ?_
      refine rv_if_eq (tgt := 447) dL_law_442 (by decide) (fun _ => ?_) (fun hc => absurd (lx_c hu) hc)
      refine rv_goto (tgt := 2232) dL_law_447 (by decide) ?_
      refine rv_sub [2, 3, 4, 5, 6, 7] rfl ?_
      exact kk h2 (by omega) (by omega)
    · rw [if_neg hb] at hu
      refine rv_lconst (v := 1) dL_law_436 (by decide) ?_
      refine rv_goto (tgt := 441) dL_law_437 (by decide) ?_
      refine rv_lcmp dL_law_441 ?_
      refine rv_if_eq (tgt := 447) dL_law_442 (by decide) (fun _ => ?_) (fun hc => absurd (lx_c hu) hc)
      refine rv_goto (tgt := 2232) dL_law_447 (by decide) ?_
      refine rv_sub [2, 3, 4, 5, 6, 7] rfl ?_
      exact kk h2 (by omega) (by omega)
theorem lc_4 {l : Launch} {D : va_G} {ta : Nat → ClassId} {ad bd : Nat → Nat} {b L : Nat} {xs : Nat → Int32} {oa od : Nat} {hh : String × List ExceptionTableEntry} (hl9 : l.stackTraces = false) {μ ν : Mem} (h : Rel μ ν) {u : Nat → Int64} {v : Nat → UInt64} {ii : Int32} (i1 : vp_in (ii + 1) L) (i2 : vp_in (ii + 2) L) (i3 : vp_in (ii + 3) L) {cu su : Nat} (hcu : cu + 12 ≤ 603072) (hsu : su + 72 ≤ 7207018) (kk : ∀ {μ2 ν2 : Mem} {u2 : Nat → Int64} {v2 : Nat → UInt64} {cu2 su2 : Nat}, Rel μ2 ν2 → cu2 ≤ cu + 12 → su2 ≤ su + 72 → rv_V l D (rv_T ta) RL cL_law 9 (some .boolean) hh room_1 (rv_L b L xs) cu2 su2 (lwA ta ad bd oa od μ2 ν2 u2 v2) 2232 [(0, .ref b), (1, .ref (ad 0)), (2, .ref (bd 0)), (3, .ref oa), (4, .ref od), (5, .int ii)] []) : rv_V l D (rv_T ta) RL cL_law 9 (some .boolean) hh room_1 (rv_L b L xs) cu su (lwA ta ad bd oa od μ ν u v) 450 [(0, .ref b), (1, .ref (ad 0)), (2, .ref (bd 0)), (3, .ref oa), (4, .ref od), (5, .int ii)] [] := by
  obtain ⟨o9, μ2, b9, ν2, k9, hx, hm, ht, h2, ha⟩ := eq_setRest h (xs (Int32.toNatClampNeg (ii + 1)))
  refine rv_aload_n dL_law_450 rfl 1 rfl ?_
  refine rv_aload_n dL_law_451 rfl 0 rfl ?_
  refine rv_iload dL_law_452 5 rfl ?_
  refine rv_iconst (v := 1) dL_law_454 (by decide) ?_
  refine rv_iadd dL_law_455 ?_
  refine rv_sld i1 dL_law_456 ?_
  refine rv_aload_n dL_law_457 rfl 3 rfl ?_
  refine rv_callW (rest := []) (fl_w (ν := ν) (w_setRest hl9 hx ha oa u)) wm_L_151 ws_L_setRest wcw_setRest wz_L np_L_setRest ⟨lx_f (by omega), lx_s (by omega)⟩ ⟨rv_le rfl, rv_le rfl⟩ dL_law_458 rfl (rv_le rfl) (fun v9 w9 h9 => ?_)
  obtain ⟨w8, ⟨u2, rfl, rfl, hu⟩, rfl⟩ := h9
  refine rv_istore (lv2 := [(6, .int k9), (0, .ref b), (1, .ref (ad 0)), (2, .ref (bd 0)), (3, .ref oa), (4, .ref od), (5, .int ii)]) dL_law_461 (by decide) rfl ?_
  refine rv_aload_n dL_law_463 rfl 3 rfl ?_
  refine rv_aload_n dL_law_464 rfl 1 rfl ?_
  refine rv_iload dL_law_465 6 rfl ?_
  refine rv_iconst (v := 1) dL_law_467 (by decide) ?_
  refine rv_iadd dL_law_468 ?_
  refine rv_sld i1 dL_law_469 ?_
  refine rv_callV (rest := []) (fl_mw (μ := μ2) (ct_X9_setRest hm)) wm_L_153 wi_X9_setRest wl_X9_setRest wc_X9_setRest wz_X9 rfl np_X9_setRest ⟨lx_f (by omega), lx_s (by omega)⟩ ⟨rv_le rfl, rv_le rfl⟩ dL_law_470 rfl (rv_le rfl) 1 rfl cl_X9 (fun v9 w9 h9 => ?_)
  obtain ⟨w8, ⟨rfl, rfl⟩, rfl⟩ := h9
  refine rv_ws (ws2 := lwA ta ad bd oa od μ2 ν2 u2 v) rfl ?_
  refine rv_istore (lv2 := [(7, .int b9), (6, .int k9), (0, .ref b), (1, .ref (ad 0)), (2, .ref (bd 0)), (3, .ref oa), (4, .ref od), (5, .int ii)]) dL_law_473 (by decide) rfl ?_
  refine rv_aload_n dL_law_475 rfl 4 rfl ?_
  refine rv_callV (rest := []) (fl_tA (μ := μ2) (ν := ν2) (ta := ta) (ad := ad) (bd := bd) (oa := oa) (od := od) (u := u2) (v := v) (ct_X9_thrown (lx_t ν2))) wm_L_137 wi_X9_thrown wl_X9_thrown wc_X9_thrown wz_X9 rfl np_X9_thrown ⟨lx_f (by omega), lx_s (by omega)⟩ ⟨rv_le rfl, rv_le rfl⟩ dL_law_476 rfl (rv_le rfl) 28 rfl cl_X9 (fun v9 w9 h9 => ?_)
  obtain ⟨w8, ⟨rfl, rfl⟩, rfl⟩ := h9
  rw [ht]
  refine rv_ws (ws2 := lwA ta ad bd oa od μ2 ν2 u2 v) rfl ?_
  refine rv_iload dL_law_479 1 rfl ?_
  refine rv_icmp_eq (tgt := 486) dL_law_481 (by decide) (fun _ => ?_) (fun hc => absurd rfl hc)
  refine rv_iload dL_law_486 1 rfl ?_
  refine rv_if_ne (tgt := 503) dL_law_488 (by decide) (fun hk => ?_) (fun hk => ?_)
  · refine rv_goto (tgt := 2232) dL_law_503 (by decide) ?_
    refine rv_sub [2, 3, 4, 5, 6, 7] rfl ?_
    exact kk h2 (by omega) (by omega)
  · have hu := hu hk
    refine rv_aload_n dL_law_491 rfl 5 rfl ?_
    refine rv_iconst (v := 0) dL_law_492 (by decide) ?_
    refine rv_lald dL_law_493 2 rfl 1 rfl (rv_inP (by decide)) ?_
    refine rv_iload dL_law_494 0 rfl ?_
    refine rv_i2l dL_law_496 rfl ?_
    refine rv_lcmp dL_law_497 ?_
    refine rv_if_eq (tgt := 503) dL_law_498 (by decide) (fun _ => ?_) (fun hc => absurd (lx_c hu) hc)
    refine rv_goto (tgt := 2232) dL_law_503 (by decide) ?_
    refine rv_sub [2, 3, 4, 5, 6, 7] rfl ?_
    exact kk h2 (by omega) (by omega)
theorem lc_5 {l : Launch} {D : va_G} {ta : Nat → ClassId} {ad bd : Nat → Nat} {b L : Nat} {xs : Nat → Int32} {oa od : Nat} {hh : String × List ExceptionTableEntry} (hl9 : l.stackTraces = false) {μ ν : Mem} (h : Rel μ ν) {u : Nat → Int64} {v : Nat → UInt64} {ii : Int32} (i1 : vp_in (ii + 1) L) (i2 : vp_in (ii + 2) L) (i3 : vp_in (ii + 3) L) {cu su : Nat} (hcu : cu + 12 ≤ 603072) (hsu : su + 72 ≤ 7207018) (kk : ∀ {μ2 ν2 : Mem} {u2 : Nat → Int64} {v2 : Nat → UInt64} {cu2 su2 : Nat}, Rel μ2 ν2 → cu2 ≤ cu + 12 → su2 ≤ su + 72 → rv_V l D (rv_T ta) RL cL_law 9 (some .boolean) hh room_1 (rv_L b L xs) cu2 su2 (lwA ta ad bd oa od μ2 ν2 u2 v2) 2232 [(0, .ref b), (1, .ref (ad 0)), (2, .ref (bd 0)), (3, .ref oa), (4, .ref od), (5, .int ii)] []) : rv_V l D (rv_T ta) RL cL_law 9 (some .boolean) hh room_1 (rv_L b L xs) cu su (lwA ta ad bd oa od μ ν u v) 506 [(0, .ref b), (1, .ref (ad 0)), (2, .ref (bd 0)), (3, .ref oa), (4, .ref od), (5, .int ii)] [] := by
  obtain ⟨o9, μ2, b9, ν2, k9, hx, hm, ht, h2, ha⟩ := eq_setNights h (xs (Int32.toNatClampNeg (ii + 1)))
  refine rv_aload_n dL_law_506 rfl 1 rfl ?_
  refine rv_aload_n dL_law_507 rfl 0 rfl ?_
  refine rv_iload dL_law_508 5 rfl ?_
  refine rv_iconst (v := 1) dL_law_510 (by decide) ?_
  refine rv_iadd dL_law_511 ?_
  refine rv_sld i1 dL_law_512 ?_
  refine rv_aload_n dL_law_513 rfl 3 rfl ?_
  refine rv_callW (rest := []) (fl_w (ν := ν) (w_setNights hl9 hx ha oa u)) wm_L_154 ws_L_setNights wcw_setNights wz_L np_L_setNights ⟨lx_f (by omega), lx_s (by omega)⟩ ⟨rv_le rfl, rv_le rfl⟩ dL_law_514 rfl (rv_le rfl) (fun v9 w9 h9 => ?_)
  obtain ⟨w8, ⟨u2, rfl, rfl, hu⟩, rfl⟩ := h9
  refine rv_istore (lv2 := [(6, .int k9), (0, .ref b), (1, .ref (ad 0)), (2, .ref (bd 0)), (3, .ref oa), (4, .ref od), (5, .int ii)]) dL_law_517 (by decide) rfl ?_
  refine rv_aload_n dL_law_519 rfl 3 rfl ?_
  refine rv_aload_n dL_law_520 rfl 1 rfl ?_
  refine rv_iload dL_law_521 6 rfl ?_
  refine rv_iconst (v := 1) dL_law_523 (by decide) ?_
  refine rv_iadd dL_law_524 ?_
  refine rv_sld i1 dL_law_525 ?_
  refine rv_callV (rest := []) (fl_mw (μ := μ2) (ct_X9_setNights hm)) wm_L_156 wi_X9_setNights wl_X9_setNights wc_X9_setNights wz_X9 rfl np_X9_setNights ⟨lx_f (by omega), lx_s (by omega)⟩ ⟨rv_le rfl, rv_le rfl⟩ dL_law_526 rfl (rv_le rfl) 1 rfl cl_X9 (fun v9 w9 h9 => ?_)
  obtain ⟨w8, ⟨rfl, rfl⟩, rfl⟩ := h9
  refine rv_ws (ws2 := lwA ta ad bd oa od μ2 ν2 u2 v) rfl ?_
  refine rv_istore (lv2 := [(7, .int b9), (6, .int k9), (0, .ref b), (1, .ref (ad 0)), (2, .ref (bd 0)), (3, .ref oa), (4, .ref od), (5, .int ii)]) dL_law_529 (by decide) rfl ?_
  refine rv_aload_n dL_law_531 rfl 4 rfl ?_
  refine rv_callV (rest := []) (fl_tA (μ := μ2) (ν := ν2) (ta := ta) (ad := ad) (bd := bd) (oa := oa) (od := od) (u := u2) (v := v) (ct_X9_thrown (lx_t ν2))) wm_L_137 wi_X9_thrown wl_X9_thrown wc_X9_thrown wz_X9 rfl np_X9_thrown ⟨lx_f (by omega), lx_s (by omega)⟩ ⟨rv_le rfl, rv_le rfl⟩ dL_law_532 rfl (rv_le rfl) 28 rfl cl_X9 (fun v9 w9 h9 => ?_)
  obtain ⟨w8, ⟨rfl, rfl⟩, rfl⟩ := h9
  rw [ht]
  refine rv_ws (ws2 := lwA ta ad bd oa od μ2 ν2 u2 v) rfl ?_
  refine rv_iload dL_law_535 1 rfl ?_
  refine rv_icmp_eq (tgt := 542) dL_law_537 (by decide) (fun _ => ?_) (fun hc => absurd rfl hc)
  refine rv_iload dL_law_542 1 rfl ?_
  refine rv_if_ne (tgt := 559) dL_law_544 (by decide) (fun hk => ?_) (fun hk => ?_)
  · refine rv_goto (tgt := 2232) dL_law_559 (by decide) ?_
    refine rv_sub [2, 3, 4, 5, 6, 7] rfl ?_
    exact kk h2 (by omega) (by omega)
  · have hu := hu hk
    refine rv_aload_n dL_law_547 rfl 5 rfl ?_
    refine rv_iconst (v := 0) dL_law_548 (by decide) ?_
    refine rv_lald dL_law_549 2 rfl 1 rfl (rv_inP (by decide)) ?_
    refine rv_iload dL_law_550 0 rfl ?_
    refine rv_i2l dL_law_552 rfl ?_
    refine rv_lcmp dL_law_553 ?_
    refine rv_if_eq (tgt := 559) dL_law_554 (by decide) (fun _ => ?_) (fun hc => absurd (lx_c hu) hc)
    refine rv_goto (tgt := 2232) dL_law_559 (by decide) ?_
    refine rv_sub [2, 3, 4, 5, 6, 7] rfl ?_
    exact kk h2 (by omega) (by omega)
theorem lc_6 {l : Launch} {D : va_G} {ta : Nat → ClassId} {ad bd : Nat → Nat} {b L : Nat} {xs : Nat → Int32} {oa od : Nat} {hh : String × List ExceptionTableEntry} (hl9 : l.stackTraces = false) {μ ν : Mem} (h : Rel μ ν) {u : Nat → Int64} {v : Nat → UInt64} {ii : Int32} (i1 : vp_in (ii + 1) L) (i2 : vp_in (ii + 2) L) (i3 : vp_in (ii + 3) L) {cu su : Nat} (hcu : cu + 12 ≤ 603072) (hsu : su + 72 ≤ 7207018) (kk : ∀ {μ2 ν2 : Mem} {u2 : Nat → Int64} {v2 : Nat → UInt64} {cu2 su2 : Nat}, Rel μ2 ν2 → cu2 ≤ cu + 12 → su2 ≤ su + 72 → rv_V l D (rv_T ta) RL cL_law 9 (some .boolean) hh room_1 (rv_L b L xs) cu2 su2 (lwA ta ad bd oa od μ2 ν2 u2 v2) 2232 [(0, .ref b), (1, .ref (ad 0)), (2, .ref (bd 0)), (3, .ref oa), (4, .ref od), (5, .int ii)] []) : rv_V l D (rv_T ta) RL cL_law 9 (some .boolean) hh room_1 (rv_L b L xs) cu su (lwA ta ad bd oa od μ ν u v) 562 [(0, .ref b), (1, .ref (ad 0)), (2, .ref (bd 0)), (3, .ref oa), (4, .ref od), (5, .int ii)] [] := by
  obtain ⟨o9, μ2, b9, ν2, k9, hx, hm, ht, h2, ha⟩ := eq_setRun h (xs (Int32.toNatClampNeg (ii + 1)))
  refine rv_aload_n dL_law_562 rfl 1 rfl ?_
  refine rv_aload_n dL_law_563 rfl 0 rfl ?_
  refine rv_iload dL_law_564 5 rfl ?_
  refine rv_iconst (v := 1) dL_law_566 (by decide) ?_
  refine rv_iadd dL_law_567 ?_
  refine rv_sld i1 dL_law_568 ?_
  refine rv_aload_n dL_law_569 rfl 3 rfl ?_
  refine rv_callW (rest := []) (fl_w (ν := ν) (w_setRun hl9 hx ha oa u)) wm_L_157 ws_L_setRun wcw_setRun wz_L np_L_setRun ⟨lx_f (by omega), lx_s (by omega)⟩ ⟨rv_le rfl, rv_le rfl⟩ dL_law_570 rfl (rv_le rfl) (fun v9 w9 h9 => ?_)
  obtain ⟨w8, ⟨u2, rfl, rfl, hu⟩, rfl⟩ := h9
  refine rv_istore (lv2 := [(6, .int k9), (0, .ref b), (1, .ref (ad 0)), (2, .ref (bd 0)), (3, .ref oa), (4, .ref od), (5, .int ii)]) dL_law_573 (by decide) rfl ?_
  refine rv_aload_n dL_law_575 rfl 3 rfl ?_
  refine rv_aload_n dL_law_576 rfl 1 rfl ?_
  refine rv_iload dL_law_577 6 rfl ?_
  refine rv_iconst (v := 1) dL_law_579 (by decide) ?_
  refine rv_iadd dL_law_580 ?_
  refine rv_sld i1 dL_law_581 ?_
  refine rv_callV (rest := []) (fl_mw (μ := μ2) (ct_X9_setRun hm)) wm_L_159 wi_X9_setRun wl_X9_setRun wc_X9_setRun wz_X9 rfl np_X9_setRun ⟨lx_f (by omega), lx_s (by omega)⟩ ⟨rv_le rfl, rv_le rfl⟩ dL_law_582 rfl (rv_le rfl) 1 rfl cl_X9 (fun v9 w9 h9 => ?_)
  obtain ⟨w8, ⟨rfl, rfl⟩, rfl⟩ := h9
  refine rv_ws (ws2 := lwA ta ad bd oa od μ2 ν2 u2 v) rfl ?_
  refine rv_istore (lv2 := [(7, .int b9), (6, .int k9), (0, .ref b), (1, .ref (ad 0)), (2, .ref (bd 0)), (3, .ref oa), (4, .ref od), (5, .int ii)]) dL_law_585 (by decide) rfl ?_
  refine rv_aload_n dL_law_587 rfl 4 rfl ?_
  refine rv_callV (rest := []) (fl_tA (μ := μ2) (ν := ν2) (ta := ta) (ad := ad) (bd := bd) (oa := oa) (od := od) (u := u2) (v := v) (ct_X9_thrown (lx_t ν2))) wm_L_137 wi_X9_thrown wl_X9_thrown wc_X9_thrown wz_X9 rfl np_X9_thrown ⟨lx_f (by omega), lx_s (by omega)⟩ ⟨rv_le rfl, rv_le rfl⟩ dL_law_588 rfl (rv_le rfl) 28 rfl cl_X9 (fun v9 w9 h9 => ?_)
  obtain ⟨w8, ⟨rfl, rfl⟩, rfl⟩ := h9
  rw [ht]
  refine rv_ws (ws2 := lwA ta ad bd oa od μ2 ν2 u2 v) rfl ?_
  refine rv_iload dL_law_591 1 rfl ?_
  refine rv_icmp_eq (tgt := 598) dL_law_593 (by decide) (fun _ => ?_) (fun hc => absurd rfl hc)
  refine rv_iload dL_law_598 1 rfl ?_
  refine rv_if_ne (tgt := 615) dL_law_600 (by decide) (fun hk => ?_) (fun hk => ?_)
  · refine rv_goto (tgt := 2232) dL_law_615 (by decide) ?_
    refine rv_sub [2, 3, 4, 5, 6, 7] rfl ?_
    exact kk h2 (by omega) (by omega)
  · have hu := hu hk
    refine rv_aload_n dL_law_603 rfl 5 rfl ?_
    refine rv_iconst (v := 0) dL_law_604 (by decide) ?_
    refine rv_lald dL_law_605 2 rfl 1 rfl (rv_inP (by decide)) ?_
    refine rv_iload dL_law_606 0 rfl ?_
    refine rv_i2l dL_law_608 rfl ?_
    refine rv_lcmp dL_law_609 ?_
    refine rv_if_eq (tgt := 615) dL_law_610 (by decide) (fun _ => ?_) (fun hc => absurd (lx_c hu) hc)
    refine rv_goto (tgt := 2232) dL_law_615 (by decide) ?_
    refine rv_sub [2, 3, 4, 5, 6, 7] rfl ?_
    exact kk h2 (by omega) (by omega)
theorem lc_7 {l : Launch} {D : va_G} {ta : Nat → ClassId} {ad bd : Nat → Nat} {b L : Nat} {xs : Nat → Int32} {oa od : Nat} {hh : String × List ExceptionTableEntry} (hl9 : l.stackTraces = false) {μ ν : Mem} (h : Rel μ ν) {u : Nat → Int64} {v : Nat → UInt64} {ii : Int32} (i1 : vp_in (ii + 1) L) (i2 : vp_in (ii + 2) L) (i3 : vp_in (ii + 3) L) {cu su : Nat} (hcu : cu + 12 ≤ 603072) (hsu : su + 72 ≤ 7207018) (kk : ∀ {μ2 ν2 : Mem} {u2 : Nat → Int64} {v2 : Nat → UInt64} {cu2 su2 : Nat}, Rel μ2 ν2 → cu2 ≤ cu + 12 → su2 ≤ su + 72 → rv_V l D (rv_T ta) RL cL_law 9 (some .boolean) hh room_1 (rv_L b L xs) cu2 su2 (lwA ta ad bd oa od μ2 ν2 u2 v2) 2232 [(0, .ref b), (1, .ref (ad 0)), (2, .ref (bd 0)), (3, .ref oa), (4, .ref od), (5, .int ii)] []) : rv_V l D (rv_T ta) RL cL_law 9 (some .boolean) hh room_1 (rv_L b L xs) cu su (lwA ta ad bd oa od μ ν u v) 618 [(0, .ref b), (1, .ref (ad 0)), (2, .ref (bd 0)), (3, .ref oa), (4, .ref od), (5, .int ii)] [] := by
  obtain ⟨o9, μ2, b9, ν2, k9, hx, hm, ht, h2, ha⟩ := eq_setHours h (xs (Int32.toNatClampNeg (ii + 1))) (xs (Int32.toNatClampNeg (ii + 2)))
  refine rv_aload_n dL_law_618 rfl 1 rfl ?_
  refine rv_aload_n dL_law_619 rfl 0 rfl ?_
  refine rv_iload dL_law_620 5 rfl ?_
  refine rv_iconst (v := 1) dL_law_622 (by decide) ?_
  refine rv_iadd dL_law_623 ?_
  refine rv_sld i1 dL_law_624 ?_
  refine rv_aload_n dL_law_625 rfl 0 rfl ?_
  refine rv_iload dL_law_626 5 rfl ?_
  refine rv_iconst (v := 2) dL_law_628 (by decide) ?_
  refine rv_iadd dL_law_629 ?_
  refine rv_sld i2 dL_law_630 ?_
  refine rv_aload_n dL_law_631 rfl 3 rfl ?_
  refine rv_callW (rest := []) (fl_w (ν := ν) (w_setHours hl9 hx ha oa u)) wm_L_160 ws_L_setHours wcw_setHours wz_L np_L_setHours ⟨lx_f (by omega), lx_s (by omega)⟩ ⟨rv_le rfl, rv_le rfl⟩ dL_law_632 rfl (rv_le rfl) (fun v9 w9 h9 => ?_)
  obtain ⟨w8, ⟨u2, rfl, rfl, hu⟩, rfl⟩ := h9
  refine rv_istore (lv2 := [(6, .int k9), (0, .ref b), (1, .ref (ad 0)), (2, .ref (bd 0)), (3, .ref oa), (4, .ref od), (5, .int ii)]) dL_law_635 (by decide) rfl ?_
  refine rv_aload_n dL_law_637 rfl 3 rfl ?_
  refine rv_aload_n dL_law_638 rfl 1 rfl ?_
  refine rv_iload dL_law_639 6 rfl ?_
  refine rv_iconst (v := 1) dL_law_641 (by decide) ?_
  refine rv_iadd dL_law_642 ?_
  refine rv_sld i1 dL_law_643 ?_
  refine rv_aload_n dL_law_644 rfl 1 rfl ?_
  refine rv_iload dL_law_645 6 rfl ?_
  refine rv_iconst (v := 2) dL_law_647 (by decide) ?_
  refine rv_iadd dL_law_648 ?_
  refine rv_sld i2 dL_law_649 ?_
  refine rv_callV (rest := []) (fl_mw (μ := μ2) (ct_X9_setHours hm)) wm_L_162 wi_X9_setHours wl_X9_setHours wc_X9_setHours wz_X9 rfl np_X9_setHours ⟨lx_f (by omega), lx_s (by omega)⟩ ⟨rv_le rfl, rv_le rfl⟩ dL_law_650 rfl (rv_le rfl) 1 rfl cl_X9 (fun v9 w9 h9 => ?_)
  obtain ⟨w8, ⟨rfl, rfl⟩, rfl⟩ := h9
  refine rv_ws (ws2 := lwA ta ad bd oa od μ2 ν2 u2 v) rfl ?_
  refine rv_istore (lv2 := [(7, .int b9), (6, .int k9), (0, .ref b), (1, .ref (ad 0)), (2, .ref (bd 0)), (3, .ref oa), (4, .ref od), (5, .int ii)]) dL_law_653 (by decide) rfl ?_
  refine rv_aload_n dL_law_655 rfl 4 rfl ?_
  refine rv_callV (rest := []) (fl_tA (μ := μ2) (ν := ν2) (ta := ta) (ad := ad) (bd := bd) (oa := oa) (od := od) (u := u2) (v := v) (ct_X9_thrown (lx_t ν2))) wm_L_137 wi_X9_thrown wl_X9_thrown wc_X9_thrown wz_X9 rfl np_X9_thrown ⟨lx_f (by omega), lx_s (by omega)⟩ ⟨rv_le rfl, rv_le rfl⟩ dL_law_656 rfl (rv_le rfl) 28 rfl cl_X9 (fun v9 w9 h9 => ?_)
  obtain ⟨w8, ⟨rfl, rfl⟩, rfl⟩ := h9
  rw [ht]
  refine rv_ws (ws2 := lwA ta ad bd oa od μ2 ν2 u2 v) rfl ?_
  refine rv_iload dL_law_659 1 rfl ?_
  refine rv_icmp_eq (tgt := 666) dL_law_661 (by decide) (fun _ => ?_) (fun hc => absurd rfl hc)
  refine rv_iload dL_law_666 1 rfl ?_
  refine rv_if_ne (tgt := 683) dL_law_668 (by decide) (fun hk => ?_) (fun hk => ?_)
  · refine rv_goto (tgt := 2232) dL_law_683 (by decide) ?_
    refine rv_sub [2, 3, 4, 5, 6, 7] rfl ?_
    exact kk h2 (by omega) (by omega)
  · have hu := hu hk
    refine rv_aload_n dL_law_671 rfl 5 rfl ?_
    refine rv_iconst (v := 0) dL_law_672 (by decide) ?_
    refine rv_lald dL_law_673 2 rfl 1 rfl (rv_inP (by decide)) ?_
    refine rv_iload dL_law_674 0 rfl ?_
    refine rv_i2l dL_law_676 rfl ?_
    refine rv_lcmp dL_law_677 ?_
    refine rv_if_eq (tgt := 683) dL_law_678 (by decide) (fun _ => ?_) (fun hc => absurd (lx_c hu) hc)
    refine rv_goto (tgt := 2232) dL_law_683 (by decide) ?_
    refine rv_sub [2, 3, 4, 5, 6, 7] rfl ?_
    exact kk h2 (by omega) (by omega)
theorem lc_8 {l : Launch} {D : va_G} {ta : Nat → ClassId} {ad bd : Nat → Nat} {b L : Nat} {xs : Nat → Int32} {oa od : Nat} {hh : String × List ExceptionTableEntry} (hl9 : l.stackTraces = false) {μ ν : Mem} (h : Rel μ ν) {u : Nat → Int64} {v : Nat → UInt64} {ii : Int32} (i1 : vp_in (ii + 1) L) (i2 : vp_in (ii + 2) L) (i3 : vp_in (ii + 3) L) {cu su : Nat} (hcu : cu + 12 ≤ 603072) (hsu : su + 72 ≤ 7207018) (kk : ∀ {μ2 ν2 : Mem} {u2 : Nat → Int64} {v2 : Nat → UInt64} {cu2 su2 : Nat}, Rel μ2 ν2 → cu2 ≤ cu + 12 → su2 ≤ su + 72 → rv_V l D (rv_T ta) RL cL_law 9 (some .boolean) hh room_1 (rv_L b L xs) cu2 su2 (lwA ta ad bd oa od μ2 ν2 u2 v2) 2232 [(0, .ref b), (1, .ref (ad 0)), (2, .ref (bd 0)), (3, .ref oa), (4, .ref od), (5, .int ii)] []) : rv_V l D (rv_T ta) RL cL_law 9 (some .boolean) hh room_1 (rv_L b L xs) cu su (lwA ta ad bd oa od μ ν u v) 686 [(0, .ref b), (1, .ref (ad 0)), (2, .ref (bd 0)), (3, .ref oa), (4, .ref od), (5, .int ii)] [] := by
  obtain ⟨o9, μ2, b9, ν2, k9, hx, hm, ht, h2, ha⟩ := eq_setDemand h (xs (Int32.toNatClampNeg (ii + 1))) (xs (Int32.toNatClampNeg (ii + 2))) (xs (Int32.toNatClampNeg (ii + 3)))
  refine rv_aload_n dL_law_686 rfl 1 rfl ?_
  refine rv_aload_n dL_law_687 rfl 0 rfl ?_
  refine rv_iload dL_law_688 5 rfl ?_
  refine rv_iconst (v := 1) dL_law_690 (by decide) ?_
  refine rv_iadd dL_law_691 ?_
  refine rv_sld i1 dL_law_692 ?_
  refine rv_aload_n dL_law_693 rfl 0 rfl ?_
  refine rv_iload dL_law_694 5 rfl ?_
  refine rv_iconst (v := 2) dL_law_696 (by decide) ?_
  refine rv_iadd dL_law_697 ?_
  refine rv_sld i2 dL_law_698 ?_
  refine rv_aload_n dL_law_699 rfl 0 rfl ?_
  refine rv_iload dL_law_700 5 rfl ?_
  refine rv_iconst (v := 3) dL_law_702 (by decide) ?_
  refine rv_iadd dL_law_703 ?_
  refine rv_sld i3 dL_law_704 ?_
  refine rv_aload_n dL_law_705 rfl 3 rfl ?_
  refine rv_callW (rest := []) (fl_w (ν := ν) (w_setDemand hl9 hx ha oa u)) wm_L_163 ws_L_setDemand wcw_setDemand wz_L np_L_setDemand ⟨lx_f (by omega), lx_s (by omega)⟩ ⟨rv_le rfl, rv_le rfl⟩ dL_law_706 rfl (rv_le rfl) (fun v9 w9 h9 => ?_)
  obtain ⟨w8, ⟨u2, rfl, rfl, hu⟩, rfl⟩ := h9
  refine rv_istore (lv2 := [(6, .int k9), (0, .ref b), (1, .ref (ad 0)), (2, .ref (bd 0)), (3, .ref oa), (4, .ref od), (5, .int ii)]) dL_law_709 (by decide) rfl ?_
  refine rv_aload_n dL_law_711 rfl 3 rfl ?_
  refine rv_aload_n dL_law_712 rfl 1 rfl ?_
  refine rv_iload dL_law_713 6 rfl ?_
  refine rv_iconst (v := 1) dL_law_715 (by decide) ?_
  refine rv_iadd dL_law_716 ?_
  refine rv_sld i1 dL_law_717 ?_
  refine rv_aload_n dL_law_718 rfl 1 rfl ?_
  refine rv_iload dL_law_719 6 rfl ?_
  refine rv_iconst (v := 2) dL_law_721 (by decide) ?_
  refine rv_iadd dL_law_722 ?_
  refine rv_sld i2 dL_law_723 ?_
  refine rv_aload_n dL_law_724 rfl 1 rfl ?_
  refine rv_iload dL_law_725 6 rfl ?_
  refine rv_iconst (v := 3) dL_law_727 (by decide) ?_
  refine rv_iadd dL_law_728 ?_
  refine rv_sld i3 dL_law_729 ?_
  refine rv_callV (rest := []) (fl_mw (μ := μ2) (ct_X9_setDemand hm)) wm_L_166 wi_X9_setDemand wl_X9_setDemand wc_X9_setDemand wz_X9 rfl np_X9_setDemand ⟨lx_f (by omega), lx_s (by omega)⟩ ⟨rv_le rfl, rv_le rfl⟩ dL_law_730 rfl (rv_le rfl) 1 rfl cl_X9 (fun v9 w9 h9 => ?_)
  obtain ⟨w8, ⟨rfl, rfl⟩, rfl⟩ := h9
  refine rv_ws (ws2 := lwA ta ad bd oa od μ2 ν2 u2 v) rfl ?_
  refine rv_istore (lv2 := [(7, .int b9), (6, .int k9), (0, .ref b), (1, .ref (ad 0)), (2, .ref (bd 0)), (3, .ref oa), (4, .ref od), (5, .int ii)]) dL_law_733 (by decide) rfl ?_
  refine rv_aload_n dL_law_735 rfl 4 rfl ?_
  refine rv_callV (rest := []) (fl_tA (μ := μ2) (ν := ν2) (ta := ta) (ad := ad) (bd := bd) (oa := oa) (od := od) (u := u2) (v := v) (ct_X9_thrown (lx_t ν2))) wm_L_137 wi_X9_thrown wl_X9_thrown wc_X9_thrown wz_X9 rfl np_X9_thrown ⟨lx_f (by omega), lx_s (by omega)⟩ ⟨rv_le rfl, rv_le rfl⟩ dL_law_736 rfl (rv_le rfl) 28 rfl cl_X9 (fun v9 w9 h9 => ?_)
  obtain ⟨w8, ⟨rfl, rfl⟩, rfl⟩ := h9
  rw [ht]
  refine rv_ws (ws2 := lwA ta ad bd oa od μ2 ν2 u2 v) rfl ?_
  refine rv_iload dL_law_739 1 rfl ?_
  refine rv_icmp_eq (tgt := 746) dL_law_741 (by decide) (fun _ => ?_) (fun hc => absurd rfl hc)
  refine rv_iload dL_law_746 1 rfl ?_
  refine rv_if_ne (tgt := 763) dL_law_748 (by decide) (fun hk => ?_) (fun hk => ?_)
  · refine rv_goto (tgt := 2232) dL_law_763 (by decide) ?_
    refine rv_sub [2, 3, 4, 5, 6, 7] rfl ?_
    exact kk h2 (by omega) (by omega)
  · have hu := hu hk
    refine rv_aload_n dL_law_751 rfl 5 rfl ?_
    refine rv_iconst (v := 0) dL_law_752 (by decide) ?_
    refine rv_lald dL_law_753 2 rfl 1 rfl (rv_inP (by decide)) ?_
    refine rv_iload dL_law_754 0 rfl ?_
    refine rv_i2l dL_law_756 rfl ?_
    refine rv_lcmp dL_law_757 ?_
    refine rv_if_eq (tgt := 763) dL_law_758 (by decide) (fun _ => ?_) (fun hc => absurd (lx_c hu) hc)
    refine rv_goto (tgt := 2232) dL_law_763 (by decide) ?_
    refine rv_sub [2, 3, 4, 5, 6, 7] rfl ?_
    exact kk h2 (by omega) (by omega)
theorem lc_9 {l : Launch} {D : va_G} {ta : Nat → ClassId} {ad bd : Nat → Nat} {b L : Nat} {xs : Nat → Int32} {oa od : Nat} {hh : String × List ExceptionTableEntry} (hl9 : l.stackTraces = false) {μ ν : Mem} (h : Rel μ ν) {u : Nat → Int64} {v : Nat → UInt64} {ii : Int32} (i1 : vp_in (ii + 1) L) (i2 : vp_in (ii + 2) L) (i3 : vp_in (ii + 3) L) {cu su : Nat} (hcu : cu + 12 ≤ 603072) (hsu : su + 72 ≤ 7207018) (kk : ∀ {μ2 ν2 : Mem} {u2 : Nat → Int64} {v2 : Nat → UInt64} {cu2 su2 : Nat}, Rel μ2 ν2 → cu2 ≤ cu + 12 → su2 ≤ su + 72 → rv_V l D (rv_T ta) RL cL_law 9 (some .boolean) hh room_1 (rv_L b L xs) cu2 su2 (lwA ta ad bd oa od μ2 ν2 u2 v2) 2232 [(0, .ref b), (1, .ref (ad 0)), (2, .ref (bd 0)), (3, .ref oa), (4, .ref od), (5, .int ii)] []) : rv_V l D (rv_T ta) RL cL_law 9 (some .boolean) hh room_1 (rv_L b L xs) cu su (lwA ta ad bd oa od μ ν u v) 766 [(0, .ref b), (1, .ref (ad 0)), (2, .ref (bd 0)), (3, .ref oa), (4, .ref od), (5, .int ii)] [] := by
  obtain ⟨o9, μ2, b9, ν2, k9, hx, hm, ht, h2, ha⟩ := eq_assign h (xs (Int32.toNatClampNeg (ii + 1))) (xs (Int32.toNatClampNeg (ii + 2))) (xs (Int32.toNatClampNeg (ii + 3)))
  refine rv_aload_n dL_law_766 rfl 1 rfl ?_
  refine rv_aload_n dL_law_767 rfl 0 rfl ?_
  refine rv_iload dL_law_768 5 rfl ?_
  refine rv_iconst (v := 1) dL_law_770 (by decide) ?_
  refine rv_iadd dL_law_771 ?_
  refine rv_sld i1 dL_law_772 ?_
  refine rv_aload_n dL_law_773 rfl 0 rfl ?_
  refine rv_iload dL_law_774 5 rfl ?_
  refine rv_iconst (v := 2) dL_law_776 (by decide) ?_
  refine rv_iadd dL_law_777 ?_
  refine rv_sld i2 dL_law_778 ?_
  refine rv_aload_n dL_law_779 rfl 0 rfl ?_
  refine rv_iload dL_law_780 5 rfl ?_
  refine rv_iconst (v := 3) dL_law_782 (by decide) ?_
  refine rv_iadd dL_law_783 ?_
  refine rv_sld i3 dL_law_784 ?_
  refine rv_aload_n dL_law_785 rfl 3 rfl ?_
  refine rv_callW (rest := []) (fl_w (ν := ν) (w_assign hl9 hx ha oa u)) wm_L_167 ws_L_assign wcw_assign wz_L np_L_assign ⟨lx_f (by omega), lx_s (by omega)⟩ ⟨rv_le rfl, rv_le rfl⟩ dL_law_786 rfl (rv_le rfl) (fun v9 w9 h9 => ?_)
  obtain ⟨w8, ⟨u2, rfl, rfl, hu⟩, rfl⟩ := h9
  refine rv_istore (lv2 := [(6, .int k9), (0, .ref b), (1, .ref (ad 0)), (2, .ref (bd 0)), (3, .ref oa), (4, .ref od), (5, .int ii)]) dL_law_789 (by decide) rfl ?_
  refine rv_aload_n dL_law_791 rfl 3 rfl ?_
  refine rv_aload_n dL_law_792 rfl 1 rfl ?_
  refine rv_iload dL_law_793 6 rfl ?_
  refine rv_iconst (v := 1) dL_law_795 (by decide) ?_
  refine rv_iadd dL_law_796 ?_
  refine rv_sld i1 dL_law_797 ?_
  refine rv_aload_n dL_law_798 rfl 1 rfl ?_
  refine rv_iload dL_law_799 6 rfl ?_
  refine rv_iconst (v := 2) dL_law_801 (by decide) ?_
  refine rv_iadd dL_law_802 ?_
  refine rv_sld i2 dL_law_803 ?_
  refine rv_aload_n dL_law_804 rfl 1 rfl ?_
  refine rv_iload dL_law_805 6 rfl ?_
  refine rv_iconst (v := 3) dL_law_807 (by decide) ?_
  refine rv_iadd dL_law_808 ?_
  refine rv_sld i3 dL_law_809 ?_
  refine rv_callV (rest := []) (fl_mw (μ := μ2) (ct_X9_assign hm)) wm_L_169 wi_X9_assign wl_X9_assign wc_X9_assign wz_X9 rfl np_X9_assign ⟨lx_f (by omega), lx_s (by omega)⟩ ⟨rv_le rfl, rv_le rfl⟩ dL_law_810 rfl (rv_le rfl) 1 rfl cl_X9 (fun v9 w9 h9 => ?_)
  obtain ⟨w8, ⟨rfl, rfl⟩, rfl⟩ := h9
  refine rv_ws (ws2 := lwA ta ad bd oa od μ2 ν2 u2 v) rfl ?_
  refine rv_istore (lv2 := [(7, .int b9), (6, .int k9), (0, .ref b), (1, .ref (ad 0)), (2, .ref (bd 0)), (3, .ref oa), (4, .ref od), (5, .int ii)]) dL_law_813 (by decide) rfl ?_
  refine rv_aload_n dL_law_815 rfl 4 rfl ?_
  refine rv_callV (rest := []) (fl_tA (μ := μ2) (ν := ν2) (ta := ta) (ad := ad) (bd := bd) (oa := oa) (od := od) (u := u2) (v := v) (ct_X9_thrown (lx_t ν2))) wm_L_137 wi_X9_thrown wl_X9_thrown wc_X9_thrown wz_X9 rfl np_X9_thrown ⟨lx_f (by omega), lx_s (by omega)⟩ ⟨rv_le rfl, rv_le rfl⟩ dL_law_816 rfl (rv_le rfl) 28 rfl cl_X9 (fun v9 w9 h9 => ?_)
  obtain ⟨w8, ⟨rfl, rfl⟩, rfl⟩ := h9
  rw [ht]
  refine rv_ws (ws2 := lwA ta ad bd oa od μ2 ν2 u2 v) rfl ?_
  refine rv_iload dL_law_819 1 rfl ?_
  refine rv_icmp_eq (tgt := 826) dL_law_821 (by decide) (fun _ => ?_) (fun hc => absurd rfl hc)
  refine rv_iload dL_law_826 1 rfl ?_
  refine rv_if_ne (tgt := 843) dL_law_828 (by decide) (fun hk => ?_) (fun hk => ?_)
  · refine rv_goto (tgt := 2232) dL_law_843 (by decide) ?_
    refine rv_sub [2, 3, 4, 5, 6, 7] rfl ?_
    exact kk h2 (by omega) (by omega)
  · have hu := hu hk
    refine rv_aload_n dL_law_831 rfl 5 rfl ?_
    refine rv_iconst (v := 0) dL_law_832 (by decide) ?_
    refine rv_lald dL_law_833 2 rfl 1 rfl (rv_inP (by decide)) ?_
    refine rv_iload dL_law_834 0 rfl ?_
    refine rv_i2l dL_law_836 rfl ?_
    refine rv_lcmp dL_law_837 ?_
    refine rv_if_eq (tgt := 843) dL_law_838 (by decide) (fun _ => ?_) (fun hc => absurd (lx_c hu) hc)
    refine rv_goto (tgt := 2232) dL_law_843 (by decide) ?_
    refine rv_sub [2, 3, 4, 5, 6, 7] rfl ?_
    exact kk h2 (by omega) (by omega)
theorem lc_10 {l : Launch} {D : va_G} {ta : Nat → ClassId} {ad bd : Nat → Nat} {b L : Nat} {xs : Nat → Int32} {oa od : Nat} {hh : String × List ExceptionTableEntry} (hl9 : l.stackTraces = false) {μ ν : Mem} (h : Rel μ ν) {u : Nat → Int64} {v : Nat → UInt64} {ii : Int32} (i1 : vp_in (ii + 1) L) (i2 : vp_in (ii + 2) L) (i3 : vp_in (ii + 3) L) {cu su : Nat} (hcu : cu + 12 ≤ 603072) (hsu : su + 72 ≤ 7207018) (kk : ∀ {μ2 ν2 : Mem} {u2 : Nat → Int64} {v2 : Nat → UInt64} {cu2 su2 : Nat}, Rel μ2 ν2 → cu2 ≤ cu + 12 → su2 ≤ su + 72 → rv_V l D (rv_T ta) RL cL_law 9 (some .boolean) hh room_1 (rv_L b L xs) cu2 su2 (lwA ta ad bd oa od μ2 ν2 u2 v2) 2232 [(0, .ref b), (1, .ref (ad 0)), (2, .ref (bd 0)), (3, .ref oa), (4, .ref od), (5, .int ii)] []) : rv_V l D (rv_T ta) RL cL_law 9 (some .boolean) hh room_1 (rv_L b L xs) cu su (lwA ta ad bd oa od μ ν u v) 846 [(0, .ref b), (1, .ref (ad 0)), (2, .ref (bd 0)), (3, .ref oa), (4, .ref od), (5, .int ii)] [] := by
  obtain ⟨o9, μ2, b9, ν2, k9, hx, hm, ht, h2, ha⟩ := eq_free h (xs (Int32.toNatClampNeg (ii + 1))) (xs (Int32.toNatClampNeg (ii + 2)))
  refine rv_aload_n dL_law_846 rfl 1 rfl ?_
  refine rv_aload_n dL_law_847 rfl 0 rfl ?_
  refine rv_iload dL_law_848 5 rfl ?_
  refine rv_iconst (v := 1) dL_law_850 (by decide) ?_
  refine rv_iadd dL_law_851 ?_
  refine rv_sld i1 dL_law_852 ?_
  refine rv_aload_n dL_law_853 rfl 0 rfl ?_
  refine rv_iload dL_law_854 5 rfl ?_
  refine rv_iconst (v := 2) dL_law_856 (by decide) ?_
  refine rv_iadd dL_law_857 ?_
  refine rv_sld i2 dL_law_858 ?_
  refine rv_aload_n dL_law_859 rfl 3 rfl ?_
  refine rv_callW (rest := []) (fl_w (ν := ν) (w_free hl9 hx ha oa u)) wm_L_170 ws_L_free wcw_free wz_L np_L_free ⟨lx_f (by omega), lx_s (by omega)⟩ ⟨rv_le rfl, rv_le rfl⟩ dL_law_860 rfl (rv_le rfl) (fun v9 w9 h9 => ?_)
  obtain ⟨w8, ⟨u2, rfl, rfl, hu⟩, rfl⟩ := h9
  refine rv_istore (lv2 := [(6, .int k9), (0, .ref b), (1, .ref (ad 0)), (2, .ref (bd 0)), (3, .ref oa), (4, .ref od), (5, .int ii)]) dL_law_863 (by decide) rfl ?_
  refine rv_aload_n dL_law_865 rfl 3 rfl ?_
  refine rv_aload_n dL_law_866 rfl 1 rfl ?_
  refine rv_iload dL_law_867 6 rfl ?_
  refine rv_iconst (v := 1) dL_law_869 (by decide) ?_
  refine rv_iadd dL_law_870 ?_
  refine rv_sld i1 dL_law_871 ?_
  refine rv_aload_n dL_law_872 rfl 1 rfl ?_
  refine rv_iload dL_law_873 6 rfl ?_
  refine rv_iconst (v := 2) dL_law_875 (by decide) ?_
  refine rv_iadd dL_law_876 ?_
  refine rv_sld i2 dL_law_877 ?_
  refine rv_callV (rest := []) (fl_mw (μ := μ2) (ct_X9_free hm)) wm_L_172 wi_X9_free wl_X9_free wc_X9_free wz_X9 rfl np_X9_free ⟨lx_f (by omega), lx_s (by omega)⟩ ⟨rv_le rfl, rv_le rfl⟩ dL_law_878 rfl (rv_le rfl) 1 rfl cl_X9 (fun v9 w9 h9 => ?_)
  obtain ⟨w8, ⟨rfl, rfl⟩, rfl⟩ := h9
  refine rv_ws (ws2 := lwA ta ad bd oa od μ2 ν2 u2 v) rfl ?_
  refine rv_istore (lv2 := [(7, .int b9), (6, .int k9), (0, .ref b), (1, .ref (ad 0)), (2, .ref (bd 0)), (3, .ref oa), (4, .ref od), (5, .int ii)]) dL_law_881 (by decide) rfl ?_
  refine rv_aload_n dL_law_883 rfl 4 rfl ?_
  refine rv_callV (rest := []) (fl_tA (μ := μ2) (ν := ν2) (ta := ta) (ad := ad) (bd := bd) (oa := oa) (od := od) (u := u2) (v := v) (ct_X9_thrown (lx_t ν2))) wm_L_137 wi_X9_thrown wl_X9_thrown wc_X9_thrown wz_X9 rfl np_X9_thrown ⟨lx_f (by omega), lx_s (by omega)⟩ ⟨rv_le rfl, rv_le rfl⟩ dL_law_884 rfl (rv_le rfl) 28 rfl cl_X9 (fun v9 w9 h9 => ?_)
  obtain ⟨w8, ⟨rfl, rfl⟩, rfl⟩ := h9
  rw [ht]
  refine rv_ws (ws2 := lwA ta ad bd oa od μ2 ν2 u2 v) rfl ?_
  refine rv_iload dL_law_887 1 rfl ?_
  refine rv_icmp_eq (tgt := 894) dL_law_889 (by decide) (fun _ => ?_) (fun hc => absurd rfl hc)
  refine rv_iload dL_law_894 1 rfl ?_
  refine rv_if_ne (tgt := 911) dL_law_896 (by decide) (fun hk => ?_) (fun hk => ?_)
  · refine rv_goto (tgt := 2232) dL_law_911 (by decide) ?_
    refine rv_sub [2, 3, 4, 5, 6, 7] rfl ?_
    exact kk h2 (by omega) (by omega)
  · have hu := hu hk
    refine rv_aload_n dL_law_899 rfl 5 rfl ?_
    refine rv_iconst (v := 0) dL_law_900 (by decide) ?_
    refine rv_lald dL_law_901 2 rfl 1 rfl (rv_inP (by decide)) ?_
    refine rv_iload dL_law_902 0 rfl ?_
    refine rv_i2l dL_law_904 rfl ?_
    refine rv_lcmp dL_law_905 ?_
    refine rv_if_eq (tgt := 911) dL_law_906 (by decide) (fun _ => ?_) (fun hc => absurd (lx_c hu) hc)
    refine rv_goto (tgt := 2232) dL_law_911 (by decide) ?_
    refine rv_sub [2, 3, 4, 5, 6, 7] rfl ?_
    exact kk h2 (by omega) (by omega)
theorem lc_11_0 {l : Launch} {D : va_G} {ta : Nat → ClassId} {ad bd : Nat → Nat} {b L : Nat} {xs : Nat → Int32} {oa od : Nat} {hh : String × List ExceptionTableEntry} (hl9 : l.stackTraces = false) {μ ν : Mem} (h : Rel μ ν) {u : Nat → Int64} {v : Nat → UInt64} {ii : Int32} (i1 : vp_in (ii + 1) L) (i2 : vp_in (ii + 2) L) (i3 : vp_in (ii + 3) L) {cu su : Nat} (hcu : cu + 12 ≤ 603072) (hsu : su + 72 ≤ 7207018) (kk : ∀ {μ2 ν2 : Mem} {u2 : Nat → Int64} {v2 : Nat → UInt64} {cu2 su2 : Nat}, Rel μ2 ν2 → cu2 ≤ cu + 12 → su2 ≤ su + 72 → rv_V l D (rv_T ta) RL cL_law 9 (some .boolean) hh room_1 (rv_L b L xs) cu2 su2 (lwA ta ad bd oa od μ2 ν2 u2 v2) 2232 [(0, .ref b), (1, .ref (ad 0)), (2, .ref (bd 0)), (3, .ref oa), (4, .ref od), (5, .int ii)] []) (hz : xs (Int32.toNatClampNeg (ii + 3)) = 0) : rv_V l D (rv_T ta) RL cL_law 9 (some .boolean) hh room_1 (rv_L b L xs) cu su (lwA ta ad bd oa od μ ν u v) 914 [(0, .ref b), (1, .ref (ad 0)), (2, .ref (bd 0)), (3, .ref oa), (4, .ref od), (5, .int ii)] [] := by
  obtain ⟨o9, μ2, b9, ν2, k9, hx, hm, ht, h2, ha⟩ := eq_setAbsent h (xs (Int32.toNatClampNeg (ii + 1))) (xs (Int32.toNatClampNeg (ii + 2))) 0
  refine rv_aload_n dL_law_914 rfl 1 rfl ?_
  refine rv_aload_n dL_law_915 rfl 0 rfl ?_
  refine rv_iload dL_law_916 5 rfl ?_
  refine rv_iconst (v := 1) dL_law_918 (by decide) ?_
  refine rv_iadd dL_law_919 ?_
  refine rv_sld i1 dL_law_920 ?_
  refine rv_aload_n dL_law_921 rfl 0 rfl ?_
  refine rv_iload dL_law_922 5 rfl ?_
  refine rv_iconst (v := 2) dL_law_924 (by decide) ?_
  refine rv_iadd dL_law_925 ?_
  refine rv_sld i2 dL_law_926 ?_
  refine rv_aload_n dL_law_927 rfl 0 rfl ?_
  refine rv_iload dL_law_928 5 rfl ?_
  refine rv_iconst (v := 3) dL_law_930 (by decide) ?_
  refine rv_iadd dL_law_931 ?_
  refine rv_sld i3 dL_law_932 ?_
  refine rv_if_eq (tgt := 940) dL_law_933 (by decide) (fun _ => ?_) (fun hc => absurd hz hc)
  refine rv_iconst (v := 0) dL_law_940 (by decide) ?_
  refine rv_aload_n dL_law_941 rfl 3 rfl ?_
  refine rv_callW (rest := []) (fl_w (ν := ν) (w_setAbsent hl9 hx ha oa u)) wm_L_173 ws_L_setAbsent wcw_setAbsent wz_L np_L_setAbsent ⟨lx_f (by omega), lx_s (by omega)⟩ ⟨rv_le rfl, rv_le rfl⟩ dL_law_942 rfl (rv_le rfl) (fun v9 w9 h9 => ?_)
  obtain ⟨w8, ⟨u2, rfl, rfl, hu⟩, rfl⟩ := h9
  refine rv_istore (lv2 := [(6, .int k9), (0, .ref b), (1, .ref (ad 0)), (2, .ref (bd 0)), (3, .ref oa), (4, .ref od), (5, .int ii)]) dL_law_945 (by decide) rfl ?_
  refine rv_aload_n dL_law_947 rfl 3 rfl ?_
  refine rv_aload_n dL_law_948 rfl 1 rfl ?_
  refine rv_iload dL_law_949 6 rfl ?_
  refine rv_iconst (v := 1) dL_law_951 (by decide) ?_
  refine rv_iadd dL_law_952 ?_
  refine rv_sld i1 dL_law_953 ?_
  refine rv_aload_n dL_law_954 rfl 1 rfl ?_
  refine rv_iload dL_law_955 6 rfl ?_
  refine rv_iconst (v := 2) dL_law_957 (by decide) ?_
  refine rv_iadd dL_law_958 ?_
  refine rv_sld i2 dL_law_959 ?_
  refine rv_aload_n dL_law_960 rfl 1 rfl ?_
  refine rv_iload dL_law_961 6 rfl ?_
  refine rv_iconst (v := 3) dL_law_963 (by decide) ?_
  refine rv_iadd dL_law_964 ?_
  refine rv_sld i3 dL_law_965 ?_
  refine rv_if_eq (tgt := 973) dL_law_966 (by decide) (fun _ => ?_) (fun hc => absurd hz hc)
  refine rv_iconst (v := 0) dL_law_973 (by decide) ?_
  refine rv_callV (rest := []) (fl_mw (μ := μ2) (ct_X9_setAbsent hm)) wm_L_176 wi_X9_setAbsent wl_X9_setAbsent wc_X9_setAbsent wz_X9 rfl np_X9_setAbsent ⟨lx_f (by omega), lx_s (by omega)⟩ ⟨rv_le rfl, rv_le rfl⟩ dL_law_974 rfl (rv_le rfl) 1 rfl cl_X9 (fun v9 w9 h9 => ?_)
  obtain ⟨w8, ⟨rfl, rfl⟩, rfl⟩ := h9
  refine rv_ws (ws2 := lwA ta ad bd oa od μ2 ν2 u2 v) rfl ?_
  refine rv_istore (lv2 := [(7, .int b9), (6, .int k9), (0, .ref b), (1, .ref (ad 0)), (2, .ref (bd 0)), (3, .ref oa), (4, .ref od), (5, .int ii)]) dL_law_977 (by decide) rfl ?_
  refine rv_aload_n dL_law_979 rfl 4 rfl ?_
  refine rv_callV (rest := []) (fl_tA (μ := μ2) (ν := ν2) (ta := ta) (ad := ad) (bd := bd) (oa := oa) (od := od) (u := u2) (v := v) (ct_X9_thrown (lx_t ν2))) wm_L_137 wi_X9_thrown wl_X9_thrown wc_X9_thrown wz_X9 rfl np_X9_thrown ⟨lx_f (by omega), lx_s (by omega)⟩ ⟨rv_le rfl, rv_le rfl⟩ dL_law_980 rfl (rv_le rfl) 28 rfl cl_X9 (fun v9 w9 h9 => ?_)
  obtain ⟨w8, ⟨rfl, rfl⟩, rfl⟩ := h9
  rw [ht]
  refine rv_ws (ws2 := lwA ta ad bd oa od μ2 ν2 u2 v) rfl ?_
  refine rv_iload dL_law_983 1 rfl ?_
  refine rv_icmp_eq (tgt := 990) dL_law_985 (by decide) (fun _ => ?_) (fun hc => absurd rfl hc)
  refine rv_iload dL_law_990 1 rfl ?_
  refine rv_if_ne (tgt := 1014) dL_law_992 (by decide) (fun hk => ?_) (fun hk => ?_)
  · refine rv_goto (tgt := 2232) dL_law_1014 (by decide) ?_
    refine rv_sub [2, 3, 4, 5, 6, 7] rfl ?_
    exact kk h2 (by omega) (by omega)
  · have hu := hu hk
    refine rv_aload_n dL_law_995 rfl 5 rfl ?_
    refine rv_iconst (v := 0) dL_law_996 (by decide) ?_
    refine rv_lald dL_law_997 2 rfl 1 rfl (rv_inP (by decide)) ?_
    refine rv_iload dL_law_998 0 rfl ?_
    refine rv_if_eq (tgt := 1007) dL_law_1000 (by decide) (fun hb => ?_) (fun hb => ?_)
    · rw [if_pos hb] at hu
      refine rv_lconst (v := 0) dL_law_1007 (by decide) ?_
      refine rv_lcmp dL_law_1008 ?_
      refine rv_if_eq (tgt := 1014) dL_law_1009 (by decide) (fun _ => ?_) (fun hc => absurd (lx_c hu) hc)
      refine rv_goto (tgt := 2232) dL_law_1014 (by decide) ?_
      refine rv_sub [2, 3, 4, 5, 6, 7] rfl ?_
      exact kk h2 (by omega) (by omega)
    · rw [if_neg hb] at hu
      refine rv_lconst (v := 1) dL_law_1003 (by decide) ?_
      refine rv_goto (tgt := 1008) dL_law_1004 (by decide) ?_
      refine rv_lcmp dL_law_1008 ?_
      refine rv_if_eq (tgt := 1014) dL_law_1009 (by decide) (fun _ => ?_) (fun hc => absurd (lx_c hu) hc)
      refine rv_goto (tgt := 2232) dL_law_1014 (by decide) ?_
      refine rv_sub [2, 3, 4, 5, 6, 7] rfl ?_
      exact kk h2 (by omega) (by omega)
theorem lc_11_1 {l : Launch} {D : va_G} {ta : Nat → ClassId} {ad bd : Nat → Nat} {b L : Nat} {xs : Nat → Int32} {oa od : Nat} {hh : String × List ExceptionTableEntry} (hl9 : l.stackTraces = false) {μ ν : Mem} (h : Rel μ ν) {u : Nat → Int64} {v : Nat → UInt64} {ii : Int32} (i1 : vp_in (ii + 1) L) (i2 : vp_in (ii + 2) L) (i3 : vp_in (ii + 3) L) {cu su : Nat} (hcu : cu + 12 ≤ 603072) (hsu : su + 72 ≤ 7207018) (kk : ∀ {μ2 ν2 : Mem} {u2 : Nat → Int64} {v2 : Nat → UInt64} {cu2 su2 : Nat}, Rel μ2 ν2 → cu2 ≤ cu + 12 → su2 ≤ su + 72 → rv_V l D (rv_T ta) RL cL_law 9 (some .boolean) hh room_1 (rv_L b L xs) cu2 su2 (lwA ta ad bd oa od μ2 ν2 u2 v2) 2232 [(0, .ref b), (1, .ref (ad 0)), (2, .ref (bd 0)), (3, .ref oa), (4, .ref od), (5, .int ii)] []) (hz : ¬ xs (Int32.toNatClampNeg (ii + 3)) = 0) : rv_V l D (rv_T ta) RL cL_law 9 (some .boolean) hh room_1 (rv_L b L xs) cu su (lwA ta ad bd oa od μ ν u v) 914 [(0, .ref b), (1, .ref (ad 0)), (2, .ref (bd 0)), (3, .ref oa), (4, .ref od), (5, .int ii)] [] := by
  obtain ⟨o9, μ2, b9, ν2, k9, hx, hm, ht, h2, ha⟩ := eq_setAbsent h (xs (Int32.toNatClampNeg (ii + 1))) (xs (Int32.toNatClampNeg (ii + 2))) 1
  refine rv_aload_n dL_law_914 rfl 1 rfl ?_
  refine rv_aload_n dL_law_915 rfl 0 rfl ?_
  refine rv_iload dL_law_916 5 rfl ?_
  refine rv_iconst (v := 1) dL_law_918 (by decide) ?_
  refine rv_iadd dL_law_919 ?_
  refine rv_sld i1 dL_law_920 ?_
  refine rv_aload_n dL_law_921 rfl 0 rfl ?_
  refine rv_iload dL_law_922 5 rfl ?_
  refine rv_iconst (v := 2) dL_law_924 (by decide) ?_
  refine rv_iadd dL_law_925 ?_
  refine rv_sld i2 dL_law_926 ?_
  refine rv_aload_n dL_law_927 rfl 0 rfl ?_
  refine rv_iload dL_law_928 5 rfl ?_
  refine rv_iconst (v := 3) dL_law_930 (by decide) ?_
  refine rv_iadd dL_law_931 ?_
  refine rv_sld i3 dL_law_932 ?_
  refine rv_if_eq (tgt := 940) dL_law_933 (by decide) (fun hc => absurd hc hz) (fun _ => ?_)
  refine rv_iconst (v := 1) dL_law_936 (by decide) ?_
  refine rv_goto (tgt := 941) dL_law_937 (by decide) ?_
  refine rv_aload_n dL_law_941 rfl 3 rfl ?_
  refine rv_callW (rest := []) (fl_w (ν := ν) (w_setAbsent hl9 hx ha oa u)) wm_L_173 ws_L_setAbsent wcw_setAbsent wz_L np_L_setAbsent ⟨lx_f (by omega), lx_s (by omega)⟩ ⟨rv_le rfl, rv_le rfl⟩ dL_law_942 rfl (rv_le rfl) (fun v9 w9 h9 => ?_)
  obtain ⟨w8, ⟨u2, rfl, rfl, hu⟩, rfl⟩ := h9
  refine rv_istore (lv2 := [(6, .int k9), (0, .ref b), (1, .ref (ad 0)), (2, .ref (bd 0)), (3, .ref oa), (4, .ref od), (5, .int ii)]) dL_law_945 (by decide) rfl ?_
  refine rv_aload_n dL_law_947 rfl 3 rfl ?_
  refine rv_aload_n dL_law_948 rfl 1 rfl ?_
  refine rv_iload dL_law_949 6 rfl ?_
  refine rv_iconst (v := 1) dL_law_951 (by decide) ?_
  refine rv_iadd dL_law_952 ?_
  refine rv_sld i1 dL_law_953 ?_
  refine rv_aload_n dL_law_954 rfl 1 rfl ?_
  refine rv_iload dL_law_955 6 rfl ?_
  refine rv_iconst (v := 2) dL_law_957 (by decide) ?_
  refine rv_iadd dL_law_958 ?_
  refine rv_sld i2 dL_law_959 ?_
  refine rv_aload_n dL_law_960 rfl 1 rfl ?_
  refine rv_iload dL_law_961 6 rfl ?_
  refine rv_iconst (v := 3) dL_law_963 (by decide) ?_
  refine rv_iadd dL_law_964 ?_
  refine rv_sld i3 dL_law_965 ?_
  refine rv_if_eq (tgt := 973) dL_law_966 (by decide) (fun hc => absurd hc hz) (fun _ => ?_)
  refine rv_iconst (v := 1) dL_law_969 (by decide) ?_
  refine rv_goto (tgt := 974) dL_law_970 (by decide) ?_
  refine rv_callV (rest := []) (fl_mw (μ := μ2) (ct_X9_setAbsent hm)) wm_L_176 wi_X9_setAbsent wl_X9_setAbsent wc_X9_setAbsent wz_X9 rfl np_X9_setAbsent ⟨lx_f (by omega), lx_s (by omega)⟩ ⟨rv_le rfl, rv_le rfl⟩ dL_law_974 rfl (rv_le rfl) 1 rfl cl_X9 (fun v9 w9 h9 => ?_)
  obtain ⟨w8, ⟨rfl, rfl⟩, rfl⟩ := h9
  refine rv_ws (ws2 := lwA ta ad bd oa od μ2 ν2 u2 v) rfl ?_
  refine rv_istore (lv2 := [(7, .int b9), (6, .int k9), (0, .ref b), (1, .ref (ad 0)), (2, .ref (bd 0)), (3, .ref oa), (4, .ref od), (5, .int ii)]) dL_law_977 (by decide) rfl ?_
  refine rv_aload_n dL_law_979 rfl 4 rfl ?_
  refine rv_callV (rest := []) (fl_tA (μ := μ2) (ν := ν2) (ta := ta) (ad := ad) (bd := bd) (oa := oa) (od := od) (u := u2) (v := v) (ct_X9_thrown (lx_t ν2))) wm_L_137 wi_X9_thrown wl_X9_thrown wc_X9_thrown wz_X9 rfl np_X9_thrown ⟨lx_f (by omega), lx_s (by omega)⟩ ⟨rv_le rfl, rv_le rfl⟩ dL_law_980 rfl (rv_le rfl) 28 rfl cl_X9 (fun v9 w9 h9 => ?_)
  obtain ⟨w8, ⟨rfl, rfl⟩, rfl⟩ := h9
  rw [ht]
  refine rv_ws (ws2 := lwA ta ad bd oa od μ2 ν2 u2 v) rfl ?_
  refine rv_iload dL_law_983 1 rfl ?_
  refine rv_icmp_eq (tgt := 990) dL_law_985 (by decide) (fun _ => ?_) (fun hc => absurd rfl hc)
  refine rv_iload dL_law_990 1 rfl ?_
  refine rv_if_ne (tgt := 1014) dL_law_992 (by decide) (fun hk => ?_) (fun hk => ?_)
  · refine rv_goto (tgt := 2232) dL_law_1014 (by decide) ?_
    refine rv_sub [2, 3, 4, 5, 6, 7] rfl ?_
    exact kk h2 (by omega) (by omega)
  · have hu := hu hk
    refine rv_aload_n dL_law_995 rfl 5 rfl ?_
    refine rv_iconst (v := 0) dL_law_996 (by decide) ?_
    refine rv_lald dL_law_997 2 rfl 1 rfl (rv_inP (by decide)) ?_
    refine rv_iload dL_law_998 0 rfl ?_
    refine rv_if_eq (tgt := 1007) dL_law_1000 (by decide) (fun hb => ?_) (fun hb => ?_)
    · rw [if_pos hb] at hu
      refine rv_lconst (v := 0) dL_law_1007 (by decide) ?_
      refine rv_lcmp dL_law_1008 ?_
      refine rv_if_eq (tgt := 1014) dL_law_1009 (by decide) (fun _ => ?_) (fun hc => absurd (lx_c hu) hc)
      refine rv_goto (tgt := 2232) dL_law_1014 (by decide) ?_
      refine rv_sub [2, 3, 4, 5, 6, 7] rfl ?_
      exact kk h2 (by omega) (by omega)
    · rw [if_neg hb] at hu
      refine rv_lconst (v := 1) dL_law_1003 (by decide) ?_
      refine rv_goto (tgt := 1008) dL_law_1004 (by decide) ?_
      refine rv_lcmp dL_law_1008 ?_
      refine rv_if_eq (tgt := 1014) dL_law_1009 (by decide) (fun _ => ?_) (fun hc => absurd (lx_c hu) hc)
      refine rv_goto (tgt := 2232) dL_law_1014 (by decide) ?_
      refine rv_sub [2, 3, 4, 5, 6, 7] rfl ?_
      exact kk h2 (by omega) (by omega)
theorem lc_12 {l : Launch} {D : va_G} {ta : Nat → ClassId} {ad bd : Nat → Nat} {b L : Nat} {xs : Nat → Int32} {oa od : Nat} {hh : String × List ExceptionTableEntry} (hl9 : l.stackTraces = false) {μ ν : Mem} (h : Rel μ ν) {u : Nat → Int64} {v : Nat → UInt64} {ii : Int32} (i1 : vp_in (ii + 1) L) (i2 : vp_in (ii + 2) L) (i3 : vp_in (ii + 3) L) {cu su : Nat} (hcu : cu + 12 ≤ 603072) (hsu : su + 72 ≤ 7207018) (kk : ∀ {μ2 ν2 : Mem} {u2 : Nat → Int64} {v2 : Nat → UInt64} {cu2 su2 : Nat}, Rel μ2 ν2 → cu2 ≤ cu + 12 → su2 ≤ su + 72 → rv_V l D (rv_T ta) RL cL_law 9 (some .boolean) hh room_1 (rv_L b L xs) cu2 su2 (lwA ta ad bd oa od μ2 ν2 u2 v2) 2232 [(0, .ref b), (1, .ref (ad 0)), (2, .ref (bd 0)), (3, .ref oa), (4, .ref od), (5, .int ii)] []) : rv_V l D (rv_T ta) RL cL_law 9 (some .boolean) hh room_1 (rv_L b L xs) cu su (lwA ta ad bd oa od μ ν u v) 1017 [(0, .ref b), (1, .ref (ad 0)), (2, .ref (bd 0)), (3, .ref oa), (4, .ref od), (5, .int ii)] [] := by
  obtain ⟨o9, b9, ν2, k9, hx, hm, ht, h2, ha⟩ := eq_shiftOf h (xs (Int32.toNatClampNeg (ii + 1))) (xs (Int32.toNatClampNeg (ii + 2)))
  refine rv_aload_n dL_law_1017 rfl 1 rfl ?_
  refine rv_aload_n dL_law_1018 rfl 0 rfl ?_
  refine rv_iload dL_law_1019 5 rfl ?_
  refine rv_iconst (v := 1) dL_law_1021 (by decide) ?_
  refine rv_iadd dL_law_1022 ?_
  refine rv_sld i1 dL_law_1023 ?_
  refine rv_aload_n dL_law_1024 rfl 0 rfl ?_
  refine rv_iload dL_law_1025 5 rfl ?_
  refine rv_iconst (v := 2) dL_law_1027 (by decide) ?_
  refine rv_iadd dL_law_1028 ?_
  refine rv_sld i2 dL_law_1029 ?_
  refine rv_aload_n dL_law_1030 rfl 3 rfl ?_
  refine rv_callW (rest := []) (fl_w (ν := ν) (w_shiftOf hl9 hx ha oa u)) wm_L_177 ws_L_shiftOf wcw_shiftOf wz_L np_L_shiftOf ⟨lx_f (by omega), lx_s (by omega)⟩ ⟨rv_le rfl, rv_le rfl⟩ dL_law_1031 rfl (rv_le rfl) (fun v9 w9 h9 => ?_)
  obtain ⟨w8, ⟨u2, rfl, rfl, hu⟩, rfl⟩ := h9
  refine rv_istore (lv2 := [(6, .int k9), (0, .ref b), (1, .ref (ad 0)), (2, .ref (bd 0)), (3, .ref oa), (4, .ref od), (5, .int ii)]) dL_law_1034 (by decide) rfl ?_
  refine rv_aload_n dL_law_1036 rfl 3 rfl ?_
  refine rv_aload_n dL_law_1037 rfl 1 rfl ?_
  refine rv_iload dL_law_1038 6 rfl ?_
  refine rv_iconst (v := 1) dL_law_1040 (by decide) ?_
  refine rv_iadd dL_law_1041 ?_
  refine rv_sld i1 dL_law_1042 ?_
  refine rv_aload_n dL_law_1043 rfl 1 rfl ?_
  refine rv_iload dL_law_1044 6 rfl ?_
  refine rv_iconst (v := 2) dL_law_1046 (by decide) ?_
  refine rv_iadd dL_law_1047 ?_
  refine rv_sld i2 dL_law_1048 ?_
  refine rv_callV (rest := []) (fl_mw (μ := μ) (ct_X9_shiftOf hm)) wm_L_179 wi_X9_shiftOf wl_X9_shiftOf wc_X9_shiftOf wz_X9 rfl np_X9_shiftOf ⟨lx_f (by omega), lx_s (by omega)⟩ ⟨rv_le rfl, rv_le rfl⟩ dL_law_1049 rfl (rv_le rfl) 1 rfl cl_X9 (fun v9 w9 h9 => ?_)
  obtain ⟨w8, ⟨rfl, rfl⟩, rfl⟩ := h9
  refine rv_ws (ws2 := lwA ta ad bd oa od μ ν2 u2 v) rfl ?_
  refine rv_istore (lv2 := [(7, .int b9), (6, .int k9), (0, .ref b), (1, .ref (ad 0)), (2, .ref (bd 0)), (3, .ref oa), (4, .ref od), (5, .int ii)]) dL_law_1052 (by decide) rfl ?_
  refine rv_aload_n dL_law_1054 rfl 4 rfl ?_
  refine rv_callV (rest := []) (fl_tA (μ := μ) (ν := ν2) (ta := ta) (ad := ad) (bd := bd) (oa := oa) (od := od) (u := u2) (v := v) (ct_X9_thrown (lx_t ν2))) wm_L_137 wi_X9_thrown wl_X9_thrown wc_X9_thrown wz_X9 rfl np_X9_thrown ⟨lx_f (by omega), lx_s (by omega)⟩ ⟨rv_le rfl, rv_le rfl⟩ dL_law_1055 rfl (rv_le rfl) 28 rfl cl_X9 (fun v9 w9 h9 => ?_)
  obtain ⟨w8, ⟨rfl, rfl⟩, rfl⟩ := h9
  rw [ht]
  refine rv_ws (ws2 := lwA ta ad bd oa od μ ν2 u2 v) rfl ?_
  refine rv_iload dL_law_1058 1 rfl ?_
  refine rv_icmp_eq (tgt := 1065) dL_law_1060 (by decide) (fun _ => ?_) (fun hc => absurd rfl hc)
  refine rv_iload dL_law_1065 1 rfl ?_
  refine rv_if_ne (tgt := 1082) dL_law_1067 (by decide) (fun hk => ?_) (fun hk => ?_)
  · refine rv_goto (tgt := 2232) dL_law_1082 (by decide) ?_
    refine rv_sub [2, 3, 4, 5, 6, 7] rfl ?_
    exact kk h2 (by omega) (by omega)
  · have hu := hu hk
    refine rv_aload_n dL_law_1070 rfl 5 rfl ?_
    refine rv_iconst (v := 0) dL_law_1071 (by decide) ?_
    refine rv_lald dL_law_1072 2 rfl 1 rfl (rv_inP (by decide)) ?_
    refine rv_iload dL_law_1073 0 rfl ?_
    refine rv_i2l dL_law_1075 rfl ?_
    refine rv_lcmp dL_law_1076 ?_
    refine rv_if_eq (tgt := 1082) dL_law_1077 (by decide) (fun _ => ?_) (fun hc => absurd (lx_c hu) hc)
    refine rv_goto (tgt := 2232) dL_law_1082 (by decide) ?_
    refine rv_sub [2, 3, 4, 5, 6, 7] rfl ?_
    exact kk h2 (by omega) (by omega)
theorem lc_13 {l : Launch} {D : va_G} {ta : Nat → ClassId} {ad bd : Nat → Nat} {b L : Nat} {xs : Nat → Int32} {oa od : Nat} {hh : String × List ExceptionTableEntry} (hl9 : l.stackTraces = false) {μ ν : Mem} (h : Rel μ ν) {u : Nat → Int64} {v : Nat → UInt64} {ii : Int32} (i1 : vp_in (ii + 1) L) (i2 : vp_in (ii + 2) L) (i3 : vp_in (ii + 3) L) {cu su : Nat} (hcu : cu + 12 ≤ 603072) (hsu : su + 72 ≤ 7207018) (kk : ∀ {μ2 ν2 : Mem} {u2 : Nat → Int64} {v2 : Nat → UInt64} {cu2 su2 : Nat}, Rel μ2 ν2 → cu2 ≤ cu + 12 → su2 ≤ su + 72 → rv_V l D (rv_T ta) RL cL_law 9 (some .boolean) hh room_1 (rv_L b L xs) cu2 su2 (lwA ta ad bd oa od μ2 ν2 u2 v2) 2232 [(0, .ref b), (1, .ref (ad 0)), (2, .ref (bd 0)), (3, .ref oa), (4, .ref od), (5, .int ii)] []) : rv_V l D (rv_T ta) RL cL_law 9 (some .boolean) hh room_1 (rv_L b L xs) cu su (lwA ta ad bd oa od μ ν u v) 1085 [(0, .ref b), (1, .ref (ad 0)), (2, .ref (bd 0)), (3, .ref oa), (4, .ref od), (5, .int ii)] [] := by
  obtain ⟨o9, b9, ν2, k9, hx, hm, ht, h2, ha⟩ := eq_restBefore h (xs (Int32.toNatClampNeg (ii + 1))) (xs (Int32.toNatClampNeg (ii + 2)))
  refine rv_aload_n dL_law_1085 rfl 1 rfl ?_
  refine rv_aload_n dL_law_1086 rfl 0 rfl ?_
  refine rv_iload dL_law_1087 5 rfl ?_
  refine rv_iconst (v := 1) dL_law_1089 (by decide) ?_
  refine rv_iadd dL_law_1090 ?_
  refine rv_sld i1 dL_law_1091 ?_
  refine rv_aload_n dL_law_1092 rfl 0 rfl ?_
  refine rv_iload dL_law_1093 5 rfl ?_
  refine rv_iconst (v := 2) dL_law_1095 (by decide) ?_
  refine rv_iadd dL_law_1096 ?_
  refine rv_sld i2 dL_law_1097 ?_
  refine rv_aload_n dL_law_1098 rfl 3 rfl ?_
  refine rv_callW (rest := []) (fl_w (ν := ν) (w_restBefore hl9 hx ha oa u)) wm_L_180 ws_L_restBefore wcw_restBefore wz_L np_L_restBefore ⟨lx_f (by omega), lx_s (by omega)⟩ ⟨rv_le rfl, rv_le rfl⟩ dL_law_1099 rfl (rv_le rfl) (fun v9 w9 h9 => ?_)
  obtain ⟨w8, ⟨u2, rfl, rfl, hu⟩, rfl⟩ := h9
  refine rv_istore (lv2 := [(6, .int k9), (0, .ref b), (1, .ref (ad 0)), (2, .ref (bd 0)), (3, .ref oa), (4, .ref od), (5, .int ii)]) dL_law_1102 (by decide) rfl ?_
  refine rv_aload_n dL_law_1104 rfl 3 rfl ?_
  refine rv_aload_n dL_law_1105 rfl 1 rfl ?_
  refine rv_iload dL_law_1106 6 rfl ?_
  refine rv_iconst (v := 1) dL_law_1108 (by decide) ?_
  refine rv_iadd dL_law_1109 ?_
  refine rv_sld i1 dL_law_1110 ?_
  refine rv_aload_n dL_law_1111 rfl 1 rfl ?_
  refine rv_iload dL_law_1112 6 rfl ?_
  refine rv_iconst (v := 2) dL_law_1114 (by decide) ?_
  refine rv_iadd dL_law_1115 ?_
  refine rv_sld i2 dL_law_1116 ?_
  refine rv_callV (rest := []) (fl_mw (μ := μ) (ct_X9_restBefore hm)) wm_L_182 wi_X9_restBefore wl_X9_restBefore wc_X9_restBefore wz_X9 rfl np_X9_restBefore ⟨lx_f (by omega), lx_s (by omega)⟩ ⟨rv_le rfl, rv_le rfl⟩ dL_law_1117 rfl (rv_le rfl) 1 rfl cl_X9 (fun v9 w9 h9 => ?_)
  obtain ⟨w8, ⟨rfl, rfl⟩, rfl⟩ := h9
  refine rv_ws (ws2 := lwA ta ad bd oa od μ ν2 u2 v) rfl ?_
  refine rv_istore (lv2 := [(7, .int b9), (6, .int k9), (0, .ref b), (1, .ref (ad 0)), (2, .ref (bd 0)), (3, .ref oa), (4, .ref od), (5, .int ii)]) dL_law_1120 (by decide) rfl ?_
  refine rv_aload_n dL_law_1122 rfl 4 rfl ?_
  refine rv_callV (rest := []) (fl_tA (μ := μ) (ν := ν2) (ta := ta) (ad := ad) (bd := bd) (oa := oa) (od := od) (u := u2) (v := v) (ct_X9_thrown (lx_t ν2))) wm_L_137 wi_X9_thrown wl_X9_thrown wc_X9_thrown wz_X9 rfl np_X9_thrown ⟨lx_f (by omega), lx_s (by omega)⟩ ⟨rv_le rfl, rv_le rfl⟩ dL_law_1123 rfl (rv_le rfl) 28 rfl cl_X9 (fun v9 w9 h9 => ?_)
  obtain ⟨w8, ⟨rfl, rfl⟩, rfl⟩ := h9
  rw [ht]
  refine rv_ws (ws2 := lwA ta ad bd oa od μ ν2 u2 v) rfl ?_
  refine rv_iload dL_law_1126 1 rfl ?_
  refine rv_icmp_eq (tgt := 1133) dL_law_1128 (by decide) (fun _ => ?_) (fun hc => absurd rfl hc)
  refine rv_iload dL_law_1133 1 rfl ?_
  refine rv_if_ne (tgt := 1150) dL_law_1135 (by decide) (fun hk => ?_) (fun hk => ?_)
  · refine rv_goto (tgt := 2232) dL_law_1150 (by decide) ?_
    refine rv_sub [2, 3, 4, 5, 6, 7] rfl ?_
    exact kk h2 (by omega) (by omega)
  · have hu := hu hk
    refine rv_aload_n dL_law_1138 rfl 5 rfl ?_
    refine rv_iconst (v := 0) dL_law_1139 (by decide) ?_
    refine rv_lald dL_law_1140 2 rfl 1 rfl (rv_inP (by decide)) ?_
    refine rv_iload dL_law_1141 0 rfl ?_
    refine rv_i2l dL_law_1143 rfl ?_
    refine rv_lcmp dL_law_1144 ?_
    refine rv_if_eq (tgt := 1150) dL_law_1145 (by decide) (fun _ => ?_) (fun hc => absurd (lx_c hu) hc)
    refine rv_goto (tgt := 2232) dL_law_1150 (by decide) ?_
    refine rv_sub [2, 3, 4, 5, 6, 7] rfl ?_
    exact kk h2 (by omega) (by omega)
theorem lc_14 {l : Launch} {D : va_G} {ta : Nat → ClassId} {ad bd : Nat → Nat} {b L : Nat} {xs : Nat → Int32} {oa od : Nat} {hh : String × List ExceptionTableEntry} (hl9 : l.stackTraces = false) {μ ν : Mem} (h : Rel μ ν) {u : Nat → Int64} {v : Nat → UInt64} {ii : Int32} (i1 : vp_in (ii + 1) L) (i2 : vp_in (ii + 2) L) (i3 : vp_in (ii + 3) L) {cu su : Nat} (hcu : cu + 12 ≤ 603072) (hsu : su + 72 ≤ 7207018) (kk : ∀ {μ2 ν2 : Mem} {u2 : Nat → Int64} {v2 : Nat → UInt64} {cu2 su2 : Nat}, Rel μ2 ν2 → cu2 ≤ cu + 12 → su2 ≤ su + 72 → rv_V l D (rv_T ta) RL cL_law 9 (some .boolean) hh room_1 (rv_L b L xs) cu2 su2 (lwA ta ad bd oa od μ2 ν2 u2 v2) 2232 [(0, .ref b), (1, .ref (ad 0)), (2, .ref (bd 0)), (3, .ref oa), (4, .ref od), (5, .int ii)] []) : rv_V l D (rv_T ta) RL cL_law 9 (some .boolean) hh room_1 (rv_L b L xs) cu su (lwA ta ad bd oa od μ ν u v) 1153 [(0, .ref b), (1, .ref (ad 0)), (2, .ref (bd 0)), (3, .ref oa), (4, .ref od), (5, .int ii)] [] := by
  obtain ⟨o9, b9, ν2, k9, hx, hm, ht, h2, ha⟩ := eq_longestNights h (xs (Int32.toNatClampNeg (ii + 1)))
  refine rv_aload_n dL_law_1153 rfl 1 rfl ?_
  refine rv_aload_n dL_law_1154 rfl 0 rfl ?_
  refine rv_iload dL_law_1155 5 rfl ?_
  refine rv_iconst (v := 1) dL_law_1157 (by decide) ?_
  refine rv_iadd dL_law_1158 ?_
  refine rv_sld i1 dL_law_1159 ?_
  refine rv_aload_n dL_law_1160 rfl 3 rfl ?_
  refine rv_callW (rest := []) (fl_w (ν := ν) (w_longestNights hl9 hx ha oa u)) wm_L_183 ws_L_longestNights wcw_longestNights wz_L np_L_longestNights ⟨lx_f (by omega), lx_s (by omega)⟩ ⟨rv_le rfl, rv_le rfl⟩ dL_law_1161 rfl (rv_le rfl) (fun v9 w9 h9 => ?_)
  obtain ⟨w8, ⟨u2, rfl, rfl, hu⟩, rfl⟩ := h9
  refine rv_istore (lv2 := [(6, .int k9), (0, .ref b), (1, .ref (ad 0)), (2, .ref (bd 0)), (3, .ref oa), (4, .ref od), (5, .int ii)]) dL_law_1164 (by decide) rfl ?_
  refine rv_aload_n dL_law_1166 rfl 3 rfl ?_
  refine rv_aload_n dL_law_1167 rfl 1 rfl ?_
  refine rv_iload dL_law_1168 6 rfl ?_
  refine rv_iconst (v := 1) dL_law_1170 (by decide) ?_
  refine rv_iadd dL_law_1171 ?_
  refine rv_sld i1 dL_law_1172 ?_
  refine rv_callV (rest := []) (fl_mw (μ := μ) (ct_X9_longestNights hm)) wm_L_185 wi_X9_longestNights wl_X9_longestNights wc_X9_longestNights wz_X9 rfl np_X9_longestNights ⟨lx_f (by omega), lx_s (by omega)⟩ ⟨rv_le rfl, rv_le rfl⟩ dL_law_1173 rfl (rv_le rfl) 1 rfl cl_X9 (fun v9 w9 h9 => ?_)
  obtain ⟨w8, ⟨rfl, rfl⟩, rfl⟩ := h9
  refine rv_ws (ws2 := lwA ta ad bd oa od μ ν2 u2 v) rfl ?_
  refine rv_istore (lv2 := [(7, .int b9), (6, .int k9), (0, .ref b), (1, .ref (ad 0)), (2, .ref (bd 0)), (3, .ref oa), (4, .ref od), (5, .int ii)]) dL_law_1176 (by decide) rfl ?_
  refine rv_aload_n dL_law_1178 rfl 4 rfl ?_
  refine rv_callV (rest := []) (fl_tA (μ := μ) (ν := ν2) (ta := ta) (ad := ad) (bd := bd) (oa := oa) (od := od) (u := u2) (v := v) (ct_X9_thrown (lx_t ν2))) wm_L_137 wi_X9_thrown wl_X9_thrown wc_X9_thrown wz_X9 rfl np_X9_thrown ⟨lx_f (by omega), lx_s (by omega)⟩ ⟨rv_le rfl, rv_le rfl⟩ dL_law_1179 rfl (rv_le rfl) 28 rfl cl_X9 (fun v9 w9 h9 => ?_)
  obtain ⟨w8, ⟨rfl, rfl⟩, rfl⟩ := h9
  rw [ht]
  refine rv_ws (ws2 := lwA ta ad bd oa od μ ν2 u2 v) rfl ?_
  refine rv_iload dL_law_1182 1 rfl ?_
  refine rv_icmp_eq (tgt := 1189) dL_law_1184 (by decide) (fun _ => ?_) (fun hc => absurd rfl hc)
  refine rv_iload dL_law_1189 1 rfl ?_
  refine rv_if_ne (tgt := 1206) dL_law_1191 (by decide) (fun hk => ?_) (fun hk => ?_)
  · refine rv_goto (tgt := 2232) dL_law_1206 (by decide) ?_
    refine rv_sub [2, 3, 4, 5, 6, 7] rfl ?_
    exact kk h2 (by omega) (by omega)
  · have hu := hu hk
    refine rv_aload_n dL_law_1194 rfl 5 rfl ?_
    refine rv_iconst (v := 0) dL_law_1195 (by decide) ?_
    refine rv_lald dL_law_1196 2 rfl 1 rfl (rv_inP (by decide)) ?_
    refine rv_iload dL_law_1197 0 rfl ?_
    refine rv_i2l dL_law_1199 rfl ?_
    refine rv_lcmp dL_law_1200 ?_
    refine rv_if_eq (tgt := 1206) dL_law_1201 (by decide) (fun _ => ?_) (fun hc => absurd (lx_c hu) hc)
    refine rv_goto (tgt := 2232) dL_law_1206 (by decide) ?_
    refine rv_sub [2, 3, 4, 5, 6, 7] rfl ?_
    exact kk h2 (by omega) (by omega)
theorem lc_15 {l : Launch} {D : va_G} {ta : Nat → ClassId} {ad bd : Nat → Nat} {b L : Nat} {xs : Nat → Int32} {oa od : Nat} {hh : String × List ExceptionTableEntry} (hl9 : l.stackTraces = false) {μ ν : Mem} (h : Rel μ ν) {u : Nat → Int64} {v : Nat → UInt64} {ii : Int32} (i1 : vp_in (ii + 1) L) (i2 : vp_in (ii + 2) L) (i3 : vp_in (ii + 3) L) {cu su : Nat} (hcu : cu + 12 ≤ 603072) (hsu : su + 72 ≤ 7207018) (kk : ∀ {μ2 ν2 : Mem} {u2 : Nat → Int64} {v2 : Nat → UInt64} {cu2 su2 : Nat}, Rel μ2 ν2 → cu2 ≤ cu + 12 → su2 ≤ su + 72 → rv_V l D (rv_T ta) RL cL_law 9 (some .boolean) hh room_1 (rv_L b L xs) cu2 su2 (lwA ta ad bd oa od μ2 ν2 u2 v2) 2232 [(0, .ref b), (1, .ref (ad 0)), (2, .ref (bd 0)), (3, .ref oa), (4, .ref od), (5, .int ii)] []) : rv_V l D (rv_T ta) RL cL_law 9 (some .boolean) hh room_1 (rv_L b L xs) cu su (lwA ta ad bd oa od μ ν u v) 1209 [(0, .ref b), (1, .ref (ad 0)), (2, .ref (bd 0)), (3, .ref oa), (4, .ref od), (5, .int ii)] [] := by
  obtain ⟨o9, b9, ν2, k9, hx, hm, ht, h2, ha⟩ := eq_longestByRows h (xs (Int32.toNatClampNeg (ii + 1)))
  refine rv_aload_n dL_law_1209 rfl 1 rfl ?_
  refine rv_aload_n dL_law_1210 rfl 0 rfl ?_
  refine rv_iload dL_law_1211 5 rfl ?_
  refine rv_iconst (v := 1) dL_law_1213 (by decide) ?_
  refine rv_iadd dL_law_1214 ?_
  refine rv_sld i1 dL_law_1215 ?_
  refine rv_aload_n dL_law_1216 rfl 3 rfl ?_
  refine rv_callW (rest := []) (fl_w (ν := ν) (w_longestByRows hl9 hx ha oa u)) wm_L_186 ws_L_longestByRows wcw_longestByRows wz_L np_L_longestByRows ⟨lx_f (by omega), lx_s (by omega)⟩ ⟨rv_le rfl, rv_le rfl⟩ dL_law_1217 rfl (rv_le rfl) (fun v9 w9 h9 => ?_)
  obtain ⟨w8, ⟨u2, rfl, rfl, hu⟩, rfl⟩ := h9
  refine rv_istore (lv2 := [(6, .int k9), (0, .ref b), (1, .ref (ad 0)), (2, .ref (bd 0)), (3, .ref oa), (4, .ref od), (5, .int ii)]) dL_law_1220 (by decide) rfl ?_
  refine rv_aload_n dL_law_1222 rfl 3 rfl ?_
  refine rv_aload_n dL_law_1223 rfl 1 rfl ?_
  refine rv_iload dL_law_1224 6 rfl ?_
  refine rv_iconst (v := 1) dL_law_1226 (by decide) ?_
  refine rv_iadd dL_law_1227 ?_
  refine rv_sld i1 dL_law_1228 ?_
  refine rv_callV (rest := []) (fl_mw (μ := μ) (ct_X9_longestByRows hm)) wm_L_188 wi_X9_longestByRows wl_X9_longestByRows wc_X9_longestByRows wz_X9 rfl np_X9_longestByRows ⟨lx_f (by omega), lx_s (by omega)⟩ ⟨rv_le rfl, rv_le rfl⟩ dL_law_1229 rfl (rv_le rfl) 1 rfl cl_X9 (fun v9 w9 h9 => ?_)
  obtain ⟨w8, ⟨rfl, rfl⟩, rfl⟩ := h9
  refine rv_ws (ws2 := lwA ta ad bd oa od μ ν2 u2 v) rfl ?_
  refine rv_istore (lv2 := [(7, .int b9), (6, .int k9), (0, .ref b), (1, .ref (ad 0)), (2, .ref (bd 0)), (3, .ref oa), (4, .ref od), (5, .int ii)]) dL_law_1232 (by decide) rfl ?_
  refine rv_aload_n dL_law_1234 rfl 4 rfl ?_
  refine rv_callV (rest := []) (fl_tA (μ := μ) (ν := ν2) (ta := ta) (ad := ad) (bd := bd) (oa := oa) (od := od) (u := u2) (v := v) (ct_X9_thrown (lx_t ν2))) wm_L_137 wi_X9_thrown wl_X9_thrown wc_X9_thrown wz_X9 rfl np_X9_thrown ⟨lx_f (by omega), lx_s (by omega)⟩ ⟨rv_le rfl, rv_le rfl⟩ dL_law_1235 rfl (rv_le rfl) 28 rfl cl_X9 (fun v9 w9 h9 => ?_)
  obtain ⟨w8, ⟨rfl, rfl⟩, rfl⟩ := h9
  rw [ht]
  refine rv_ws (ws2 := lwA ta ad bd oa od μ ν2 u2 v) rfl ?_
  refine rv_iload dL_law_1238 1 rfl ?_
  refine rv_icmp_eq (tgt := 1245) dL_law_1240 (by decide) (fun _ => ?_) (fun hc => absurd rfl hc)
  refine rv_iload dL_law_1245 1 rfl ?_
  refine rv_if_ne (tgt := 1262) dL_law_1247 (by decide) (fun hk => ?_) (fun hk => ?_)
  · refine rv_goto (tgt := 2232) dL_law_1262 (by decide) ?_
    refine rv_sub [2, 3, 4, 5, 6, 7] rfl ?_
    exact kk h2 (by omega) (by omega)
  · have hu := hu hk
    refine rv_aload_n dL_law_1250 rfl 5 rfl ?_
    refine rv_iconst (v := 0) dL_law_1251 (by decide) ?_
    refine rv_lald dL_law_1252 2 rfl 1 rfl (rv_inP (by decide)) ?_
    refine rv_iload dL_law_1253 0 rfl ?_
    refine rv_i2l dL_law_1255 rfl ?_
    refine rv_lcmp dL_law_1256 ?_
    refine rv_if_eq (tgt := 1262) dL_law_1257 (by decide) (fun _ => ?_) (fun hc => absurd (lx_c hu) hc)
    refine rv_goto (tgt := 2232) dL_law_1262 (by decide) ?_
    refine rv_sub [2, 3, 4, 5, 6, 7] rfl ?_
    exact kk h2 (by omega) (by omega)
theorem lc_16 {l : Launch} {D : va_G} {ta : Nat → ClassId} {ad bd : Nat → Nat} {b L : Nat} {xs : Nat → Int32} {oa od : Nat} {hh : String × List ExceptionTableEntry} (hl9 : l.stackTraces = false) {μ ν : Mem} (h : Rel μ ν) {u : Nat → Int64} {v : Nat → UInt64} {ii : Int32} (i1 : vp_in (ii + 1) L) (i2 : vp_in (ii + 2) L) (i3 : vp_in (ii + 3) L) {cu su : Nat} (hcu : cu + 12 ≤ 603072) (hsu : su + 72 ≤ 7207018) (kk : ∀ {μ2 ν2 : Mem} {u2 : Nat → Int64} {v2 : Nat → UInt64} {cu2 su2 : Nat}, Rel μ2 ν2 → cu2 ≤ cu + 12 → su2 ≤ su + 72 → rv_V l D (rv_T ta) RL cL_law 9 (some .boolean) hh room_1 (rv_L b L xs) cu2 su2 (lwA ta ad bd oa od μ2 ν2 u2 v2) 2232 [(0, .ref b), (1, .ref (ad 0)), (2, .ref (bd 0)), (3, .ref oa), (4, .ref od), (5, .int ii)] []) : rv_V l D (rv_T ta) RL cL_law 9 (some .boolean) hh room_1 (rv_L b L xs) cu su (lwA ta ad bd oa od μ ν u v) 1265 [(0, .ref b), (1, .ref (ad 0)), (2, .ref (bd 0)), (3, .ref oa), (4, .ref od), (5, .int ii)] [] := by
  obtain ⟨o9, b9, ν2, k9, hx, hm, ht, h2, ha⟩ := eq_peak h (xs (Int32.toNatClampNeg (ii + 1)))
  refine rv_aload_n dL_law_1265 rfl 1 rfl ?_
  refine rv_aload_n dL_law_1266 rfl 0 rfl ?_
  refine rv_iload dL_law_1267 5 rfl ?_
  refine rv_iconst (v := 1) dL_law_1269 (by decide) ?_
  refine rv_iadd dL_law_1270 ?_
  refine rv_sld i1 dL_law_1271 ?_
  refine rv_aload_n dL_law_1272 rfl 3 rfl ?_
  refine rv_callW (rest := []) (fl_w (ν := ν) (w_peak hl9 hx ha oa u)) wm_L_189 ws_L_peak wcw_peak wz_L np_L_peak ⟨lx_f (by omega), lx_s (by omega)⟩ ⟨rv_le rfl, rv_le rfl⟩ dL_law_1273 rfl (rv_le rfl) (fun v9 w9 h9 => ?_)
  obtain ⟨w8, ⟨u2, rfl, rfl, hu⟩, rfl⟩ := h9
  refine rv_istore (lv2 := [(6, .int k9), (0, .ref b), (1, .ref (ad 0)), (2, .ref (bd 0)), (3, .ref oa), (4, .ref od), (5, .int ii)]) dL_law_1276 (by decide) rfl ?_
  refine rv_aload_n dL_law_1278 rfl 3 rfl ?_
  refine rv_aload_n dL_law_1279 rfl 1 rfl ?_
  refine rv_iload dL_law_1280 6 rfl ?_
  refine rv_iconst (v := 1) dL_law_1282 (by decide) ?_
  refine rv_iadd dL_law_1283 ?_
  refine rv_sld i1 dL_law_1284 ?_
  refine rv_callV (rest := []) (fl_mw (μ := μ) (ct_X9_peak hm)) wm_L_191 wi_X9_peak wl_X9_peak wc_X9_peak wz_X9 rfl np_X9_peak ⟨lx_f (by omega), lx_s (by omega)⟩ ⟨rv_le rfl, rv_le rfl⟩ dL_law_1285 rfl (rv_le rfl) 1 rfl cl_X9 (fun v9 w9 h9 => ?_)
  obtain ⟨w8, ⟨rfl, rfl⟩, rfl⟩ := h9
  refine rv_ws (ws2 := lwA ta ad bd oa od μ ν2 u2 v) rfl ?_
  refine rv_istore (lv2 := [(7, .int b9), (6, .int k9), (0, .ref b), (1, .ref (ad 0)), (2, .ref (bd 0)), (3, .ref oa), (4, .ref od), (5, .int ii)]) dL_law_1288 (by decide) rfl ?_
  refine rv_aload_n dL_law_1290 rfl 4 rfl ?_
  refine rv_callV (rest := []) (fl_tA (μ := μ) (ν := ν2) (ta := ta) (ad := ad) (bd := bd) (oa := oa) (od := od) (u := u2) (v := v) (ct_X9_thrown (lx_t ν2))) wm_L_137 wi_X9_thrown wl_X9_thrown wc_X9_thrown wz_X9 rfl np_X9_thrown ⟨lx_f (by omega), lx_s (by omega)⟩ ⟨rv_le rfl, rv_le rfl⟩ dL_law_1291 rfl (rv_le rfl) 28 rfl cl_X9 (fun v9 w9 h9 => ?_)
  obtain ⟨w8, ⟨rfl, rfl⟩, rfl⟩ := h9
  rw [ht]
  refine rv_ws (ws2 := lwA ta ad bd oa od μ ν2 u2 v) rfl ?_
  refine rv_iload dL_law_1294 1 rfl ?_
  refine rv_icmp_eq (tgt := 1301) dL_law_1296 (by decide) (fun _ => ?_) (fun hc => absurd rfl hc)
  refine rv_iload dL_law_1301 1 rfl ?_
  refine rv_if_ne (tgt := 1318) dL_law_1303 (by decide) (fun hk => ?_) (fun hk => ?_)
  · refine rv_goto (tgt := 2232) dL_law_1318 (by decide) ?_
    refine rv_sub [2, 3, 4, 5, 6, 7] rfl ?_
    exact kk h2 (by omega) (by omega)
  · have hu := hu hk
    refine rv_aload_n dL_law_1306 rfl 5 rfl ?_
    refine rv_iconst (v := 0) dL_law_1307 (by decide) ?_
    refine rv_lald dL_law_1308 2 rfl 1 rfl (rv_inP (by decide)) ?_
    refine rv_iload dL_law_1309 0 rfl ?_
    refine rv_i2l dL_law_1311 rfl ?_
    refine rv_lcmp dL_law_1312 ?_
    refine rv_if_eq (tgt := 1318) dL_law_1313 (by decide) (fun _ => ?_) (fun hc => absurd (lx_c hu) hc)
    refine rv_goto (tgt := 2232) dL_law_1318 (by decide) ?_
    refine rv_sub [2, 3, 4, 5, 6, 7] rfl ?_
    exact kk h2 (by omega) (by omega)
theorem lc_17 {l : Launch} {D : va_G} {ta : Nat → ClassId} {ad bd : Nat → Nat} {b L : Nat} {xs : Nat → Int32} {oa od : Nat} {hh : String × List ExceptionTableEntry} (hl9 : l.stackTraces = false) {μ ν : Mem} (h : Rel μ ν) {u : Nat → Int64} {v : Nat → UInt64} {ii : Int32} (i1 : vp_in (ii + 1) L) (i2 : vp_in (ii + 2) L) (i3 : vp_in (ii + 3) L) {cu su : Nat} (hcu : cu + 12 ≤ 603072) (hsu : su + 72 ≤ 7207018) (kk : ∀ {μ2 ν2 : Mem} {u2 : Nat → Int64} {v2 : Nat → UInt64} {cu2 su2 : Nat}, Rel μ2 ν2 → cu2 ≤ cu + 12 → su2 ≤ su + 72 → rv_V l D (rv_T ta) RL cL_law 9 (some .boolean) hh room_1 (rv_L b L xs) cu2 su2 (lwA ta ad bd oa od μ2 ν2 u2 v2) 2232 [(0, .ref b), (1, .ref (ad 0)), (2, .ref (bd 0)), (3, .ref oa), (4, .ref od), (5, .int ii)] []) : rv_V l D (rv_T ta) RL cL_law 9 (some .boolean) hh room_1 (rv_L b L xs) cu su (lwA ta ad bd oa od μ ν u v) 1321 [(0, .ref b), (1, .ref (ad 0)), (2, .ref (bd 0)), (3, .ref oa), (4, .ref od), (5, .int ii)] [] := by
  obtain ⟨o9, b9, ν2, k9, hx, hm, ht, h2, ha⟩ := eq_peakByAdding h (xs (Int32.toNatClampNeg (ii + 1)))
  refine rv_aload_n dL_law_1321 rfl 1 rfl ?_
  refine rv_aload_n dL_law_1322 rfl 0 rfl ?_
  refine rv_iload dL_law_1323 5 rfl ?_
  refine rv_iconst (v := 1) dL_law_1325 (by decide) ?_
  refine rv_iadd dL_law_1326 ?_
  refine rv_sld i1 dL_law_1327 ?_
  refine rv_aload_n dL_law_1328 rfl 3 rfl ?_
  refine rv_callW (rest := []) (fl_w (ν := ν) (w_peakByAdding hl9 hx ha oa u)) wm_L_192 ws_L_peakByAdding wcw_peakByAdding wz_L np_L_peakByAdding ⟨lx_f (by omega), lx_s (by omega)⟩ ⟨rv_le rfl, rv_le rfl⟩ dL_law_1329 rfl (rv_le rfl) (fun v9 w9 h9 => ?_)
  obtain ⟨w8, ⟨u2, rfl, rfl, hu⟩, rfl⟩ := h9
  refine rv_istore (lv2 := [(6, .int k9), (0, .ref b), (1, .ref (ad 0)), (2, .ref (bd 0)), (3, .ref oa), (4, .ref od), (5, .int ii)]) dL_law_1332 (by decide) rfl ?_
  refine rv_aload_n dL_law_1334 rfl 3 rfl ?_
  refine rv_aload_n dL_law_1335 rfl 1 rfl ?_
  refine rv_iload dL_law_1336 6 rfl ?_
  refine rv_iconst (v := 1) dL_law_1338 (by decide) ?_
  refine rv_iadd dL_law_1339 ?_
  refine rv_sld i1 dL_law_1340 ?_
  refine rv_callV (rest := []) (fl_mw (μ := μ) (ct_X9_peakByAdding hm)) wm_L_194 wi_X9_peakByAdding wl_X9_peakByAdding wc_X9_peakByAdding wz_X9 rfl np_X9_peakByAdding ⟨lx_f (by omega), lx_s (by omega)⟩ ⟨rv_le rfl, rv_le rfl⟩ dL_law_1341 rfl (rv_le rfl) 1 rfl cl_X9 (fun v9 w9 h9 => ?_)
  obtain ⟨w8, ⟨rfl, rfl⟩, rfl⟩ := h9
  refine rv_ws (ws2 := lwA ta ad bd oa od μ ν2 u2 v) rfl ?_
  refine rv_istore (lv2 := [(7, .int b9), (6, .int k9), (0, .ref b), (1, .ref (ad 0)), (2, .ref (bd 0)), (3, .ref oa), (4, .ref od), (5, .int ii)]) dL_law_1344 (by decide) rfl ?_
  refine rv_aload_n dL_law_1346 rfl 4 rfl ?_
  refine rv_callV (rest := []) (fl_tA (μ := μ) (ν := ν2) (ta := ta) (ad := ad) (bd := bd) (oa := oa) (od := od) (u := u2) (v := v) (ct_X9_thrown (lx_t ν2))) wm_L_137 wi_X9_thrown wl_X9_thrown wc_X9_thrown wz_X9 rfl np_X9_thrown ⟨lx_f (by omega), lx_s (by omega)⟩ ⟨rv_le rfl, rv_le rfl⟩ dL_law_1347 rfl (rv_le rfl) 28 rfl cl_X9 (fun v9 w9 h9 => ?_)
  obtain ⟨w8, ⟨rfl, rfl⟩, rfl⟩ := h9
  rw [ht]
  refine rv_ws (ws2 := lwA ta ad bd oa od μ ν2 u2 v) rfl ?_
  refine rv_iload dL_law_1350 1 rfl ?_
  refine rv_icmp_eq (tgt := 1357) dL_law_1352 (by decide) (fun _ => ?_) (fun hc => absurd rfl hc)
  refine rv_iload dL_law_1357 1 rfl ?_
  refine rv_if_ne (tgt := 1374) dL_law_1359 (by decide) (fun hk => ?_) (fun hk => ?_)
  · refine rv_goto (tgt := 2232) dL_law_1374 (by decide) ?_
    refine rv_sub [2, 3, 4, 5, 6, 7] rfl ?_
    exact kk h2 (by omega) (by omega)
  · have hu := hu hk
    refine rv_aload_n dL_law_1362 rfl 5 rfl ?_
    refine rv_iconst (v := 0) dL_law_1363 (by decide) ?_
    refine rv_lald dL_law_1364 2 rfl 1 rfl (rv_inP (by decide)) ?_
    refine rv_iload dL_law_1365 0 rfl ?_
    refine rv_i2l dL_law_1367 rfl ?_
    refine rv_lcmp dL_law_1368 ?_
    refine rv_if_eq (tgt := 1374) dL_law_1369 (by decide) (fun _ => ?_) (fun hc => absurd (lx_c hu) hc)
    refine rv_goto (tgt := 2232) dL_law_1374 (by decide) ?_
    refine rv_sub [2, 3, 4, 5, 6, 7] rfl ?_
    exact kk h2 (by omega) (by omega)
theorem lc_18 {l : Launch} {D : va_G} {ta : Nat → ClassId} {ad bd : Nat → Nat} {b L : Nat} {xs : Nat → Int32} {oa od : Nat} {hh : String × List ExceptionTableEntry} (hl9 : l.stackTraces = false) {μ ν : Mem} (h : Rel μ ν) {u : Nat → Int64} {v : Nat → UInt64} {ii : Int32} (i1 : vp_in (ii + 1) L) (i2 : vp_in (ii + 2) L) (i3 : vp_in (ii + 3) L) {cu su : Nat} (hcu : cu + 12 ≤ 603072) (hsu : su + 72 ≤ 7207018) (kk : ∀ {μ2 ν2 : Mem} {u2 : Nat → Int64} {v2 : Nat → UInt64} {cu2 su2 : Nat}, Rel μ2 ν2 → cu2 ≤ cu + 12 → su2 ≤ su + 72 → rv_V l D (rv_T ta) RL cL_law 9 (some .boolean) hh room_1 (rv_L b L xs) cu2 su2 (lwA ta ad bd oa od μ2 ν2 u2 v2) 2232 [(0, .ref b), (1, .ref (ad 0)), (2, .ref (bd 0)), (3, .ref oa), (4, .ref od), (5, .int ii)] []) : rv_V l D (rv_T ta) RL cL_law 9 (some .boolean) hh room_1 (rv_L b L xs) cu su (lwA ta ad bd oa od μ ν u v) 1377 [(0, .ref b), (1, .ref (ad 0)), (2, .ref (bd 0)), (3, .ref oa), (4, .ref od), (5, .int ii)] [] := by
  obtain ⟨r9, μ2, ν2, hx, hm, h2⟩ := eq_breaches h
  refine rv_aload_n dL_law_1377 rfl 1 rfl ?_
  refine rv_callV (rest := []) (fl_x (ν := ν) (u := u) (v := v) (oa := oa) (od := od) (ct_X8_breaches hx)) wm_L_195 wi_X8_breaches wl_X8_breaches wc_X8_breaches wz_X8 rfl np_X8_breaches ⟨lx_f (by omega), lx_s (by omega)⟩ ⟨rv_le rfl, rv_le rfl⟩ dL_law_1378 rfl (rv_le rfl) 2 rfl cl_X8 (fun v9 w9 h9 => ?_)
  obtain ⟨w8, ⟨rfl, rfl⟩, rfl⟩ := h9
  refine rv_aload_n dL_law_1381 rfl 2 rfl ?_
  refine rv_callV (rest := [.int r9]) (fl_mx (μ := μ2) (ct_X9_breaches hm)) wm_L_198 wi_X9_breaches wl_X9_breaches wc_X9_breaches wz_X9 rfl np_X9_breaches ⟨lx_f (by omega), lx_s (by omega)⟩ ⟨rv_le rfl, rv_le rfl⟩ dL_law_1382 rfl (rv_le rfl) 2 rfl cl_X9 (fun v9 w9 h9 => ?_)
  obtain ⟨w8, ⟨rfl, rfl⟩, rfl⟩ := h9
  refine rv_ws (ws2 := lwA ta ad bd oa od μ2 ν2 u v) rfl ?_
  refine rv_icmp_eq (tgt := 2232) dL_law_1385 (by decide) (fun _ => ?_) (fun hc => absurd rfl hc)
  exact kk h2 (by omega) (by omega)
theorem lc_19 {l : Launch} {D : va_G} {ta : Nat → ClassId} {ad bd : Nat → Nat} {b L : Nat} {xs : Nat → Int32} {oa od : Nat} {hh : String × List ExceptionTableEntry} (hl9 : l.stackTraces = false) {μ ν : Mem} (h : Rel μ ν) {u : Nat → Int64} {v : Nat → UInt64} {ii : Int32} (i1 : vp_in (ii + 1) L) (i2 : vp_in (ii + 2) L) (i3 : vp_in (ii + 3) L) {cu su : Nat} (hcu : cu + 12 ≤ 603072) (hsu : su + 72 ≤ 7207018) (kk : ∀ {μ2 ν2 : Mem} {u2 : Nat → Int64} {v2 : Nat → UInt64} {cu2 su2 : Nat}, Rel μ2 ν2 → cu2 ≤ cu + 12 → su2 ≤ su + 72 → rv_V l D (rv_T ta) RL cL_law 9 (some .boolean) hh room_1 (rv_L b L xs) cu2 su2 (lwA ta ad bd oa od μ2 ν2 u2 v2) 2232 [(0, .ref b), (1, .ref (ad 0)), (2, .ref (bd 0)), (3, .ref oa), (4, .ref od), (5, .int ii)] []) : rv_V l D (rv_T ta) RL cL_law 9 (some .boolean) hh room_1 (rv_L b L xs) cu su (lwA ta ad bd oa od μ ν u v) 1390 [(0, .ref b), (1, .ref (ad 0)), (2, .ref (bd 0)), (3, .ref oa), (4, .ref od), (5, .int ii)] [] := by
  obtain ⟨o9, μ2, b9, ν2, k9, hx, hm, ht, h2, ha⟩ := eq_breachKind h (xs (Int32.toNatClampNeg (ii + 1)))
  refine rv_aload_n dL_law_1390 rfl 1 rfl ?_
  refine rv_aload_n dL_law_1391 rfl 0 rfl ?_
  refine rv_iload dL_law_1392 5 rfl ?_
  refine rv_iconst (v := 1) dL_law_1394 (by decide) ?_
  refine rv_iadd dL_law_1395 ?_
  refine rv_sld i1 dL_law_1396 ?_
  refine rv_aload_n dL_law_1397 rfl 3 rfl ?_
  refine rv_callW (rest := []) (fl_w (ν := ν) (w_breachKind hl9 hx ha oa u)) wm_L_199 ws_L_breachKind wcw_breachKind wz_L np_L_breachKind ⟨lx_f (by omega), lx_s (by omega)⟩ ⟨rv_le rfl, rv_le rfl⟩ dL_law_1398 rfl (rv_le rfl) (fun v9 w9 h9 => ?_)
  obtain ⟨w8, ⟨u2, rfl, rfl, hu⟩, rfl⟩ := h9
  refine rv_istore (lv2 := [(6, .int k9), (0, .ref b), (1, .ref (ad 0)), (2, .ref (bd 0)), (3, .ref oa), (4, .ref od), (5, .int ii)]) dL_law_1401 (by decide) rfl ?_
  refine rv_aload_n dL_law_1403 rfl 3 rfl ?_
  refine rv_aload_n dL_law_1404 rfl 1 rfl ?_
  refine rv_iload dL_law_1405 6 rfl ?_
  refine rv_iconst (v := 1) dL_law_1407 (by decide) ?_
  refine rv_iadd dL_law_1408 ?_
  refine rv_sld i1 dL_law_1409 ?_
  refine rv_callV (rest := []) (fl_mw (μ := μ2) (ct_X9_breachKind hm)) wm_L_201 wi_X9_breachKind wl_X9_breachKind wc_X9_breachKind wz_X9 rfl np_X9_breachKind ⟨lx_f (by omega), lx_s (by omega)⟩ ⟨rv_le rfl, rv_le rfl⟩ dL_law_1410 rfl (rv_le rfl) 1 rfl cl_X9 (fun v9 w9 h9 => ?_)
  obtain ⟨w8, ⟨rfl, rfl⟩, rfl⟩ := h9
  refine rv_ws (ws2 := lwA ta ad bd oa od μ2 ν2 u2 v) rfl ?_
  refine rv_istore (lv2 := [(7, .int b9), (6, .int k9), (0, .ref b), (1, .ref (ad 0)), (2, .ref (bd 0)), (3, .ref oa), (4, .ref od), (5, .int ii)]) dL_law_1413 (by decide) rfl ?_
  refine rv_aload_n dL_law_1415 rfl 4 rfl ?_
  refine rv_callV (rest := []) (fl_tA (μ := μ2) (ν := ν2) (ta := ta) (ad := ad) (bd := bd) (oa := oa) (od := od) (u := u2) (v := v) (ct_X9_thrown (lx_t ν2))) wm_L_137 wi_X9_thrown wl_X9_thrown wc_X9_thrown wz_X9 rfl np_X9_thrown ⟨lx_f (by omega), lx_s (by omega)⟩ ⟨rv_le rfl, rv_le rfl⟩ dL_law_1416 rfl (rv_le rfl) 28 rfl cl_X9 (fun v9 w9 h9 => ?_)
  obtain ⟨w8, ⟨rfl, rfl⟩, rfl⟩ := h9
  rw [ht]
  refine rv_ws (ws2 := lwA ta ad bd oa od μ2 ν2 u2 v) rfl ?_
  refine rv_iload dL_law_1419 1 rfl ?_
  refine rv_icmp_eq (tgt := 1426) dL_law_1421 (by decide) (fun _ => ?_) (fun hc => absurd rfl hc)
  refine rv_iload dL_law_1426 1 rfl ?_
  refine rv_if_ne (tgt := 1443) dL_law_1428 (by decide) (fun hk => ?_) (fun hk => ?_)
  · refine rv_goto (tgt := 2232) dL_law_1443 (by decide) ?_
    refine rv_sub [2, 3, 4, 5, 6, 7] rfl ?_
    exact kk h2 (by omega) (by omega)
  · have hu := hu hk
    refine rv_aload_n dL_law_1431 rfl 5 rfl ?_
    refine rv_iconst (v := 0) dL_law_1432 (by decide) ?_
    refine rv_lald dL_law_1433 2 rfl 1 rfl (rv_inP (by decide)) ?_
    refine rv_iload dL_law_1434 0 rfl ?_
    refine rv_i2l dL_law_1436 rfl ?_
    refine rv_lcmp dL_law_1437 ?_
    refine rv_if_eq (tgt := 1443) dL_law_1438 (by decide) (fun _ => ?_) (fun hc => absurd (lx_c hu) hc)
    refine rv_goto (tgt := 2232) dL_law_1443 (by decide) ?_
    refine rv_sub [2, 3, 4, 5, 6, 7] rfl ?_
    exact kk h2 (by omega) (by omega)
theorem lc_20 {l : Launch} {D : va_G} {ta : Nat → ClassId} {ad bd : Nat → Nat} {b L : Nat} {xs : Nat → Int32} {oa od : Nat} {hh : String × List ExceptionTableEntry} (hl9 : l.stackTraces = false) {μ ν : Mem} (h : Rel μ ν) {u : Nat → Int64} {v : Nat → UInt64} {ii : Int32} (i1 : vp_in (ii + 1) L) (i2 : vp_in (ii + 2) L) (i3 : vp_in (ii + 3) L) {cu su : Nat} (hcu : cu + 12 ≤ 603072) (hsu : su + 72 ≤ 7207018) (kk : ∀ {μ2 ν2 : Mem} {u2 : Nat → Int64} {v2 : Nat → UInt64} {cu2 su2 : Nat}, Rel μ2 ν2 → cu2 ≤ cu + 12 → su2 ≤ su + 72 → rv_V l D (rv_T ta) RL cL_law 9 (some .boolean) hh room_1 (rv_L b L xs) cu2 su2 (lwA ta ad bd oa od μ2 ν2 u2 v2) 2232 [(0, .ref b), (1, .ref (ad 0)), (2, .ref (bd 0)), (3, .ref oa), (4, .ref od), (5, .int ii)] []) : rv_V l D (rv_T ta) RL cL_law 9 (some .boolean) hh room_1 (rv_L b L xs) cu su (lwA ta ad bd oa od μ ν u v) 1446 [(0, .ref b), (1, .ref (ad 0)), (2, .ref (bd 0)), (3, .ref oa), (4, .ref od), (5, .int ii)] [] := by
  obtain ⟨o9, μ2, b9, ν2, k9, hx, hm, ht, h2, ha⟩ := eq_breachPerson h (xs (Int32.toNatClampNeg (ii + 1)))
  refine rv_aload_n dL_law_1446 rfl 1 rfl ?_
  refine rv_aload_n dL_law_1447 rfl 0 rfl ?_
  refine rv_iload dL_law_1448 5 rfl ?_
  refine rv_iconst (v := 1) dL_law_1450 (by decide) ?_
  refine rv_iadd dL_law_1451 ?_
  refine rv_sld i1 dL_law_1452 ?_
  refine rv_aload_n dL_law_1453 rfl 3 rfl ?_
  refine rv_callW (rest := []) (fl_w (ν := ν) (w_breachPerson hl9 hx ha oa u)) wm_L_202 ws_L_breachPerson wcw_breachPerson wz_L np_L_breachPerson ⟨lx_f (by omega), lx_s (by omega)⟩ ⟨rv_le rfl, rv_le rfl⟩ dL_law_1454 rfl (rv_le rfl) (fun v9 w9 h9 => ?_)
  obtain ⟨w8, ⟨u2, rfl, rfl, hu⟩, rfl⟩ := h9
  refine rv_istore (lv2 := [(6, .int k9), (0, .ref b), (1, .ref (ad 0)), (2, .ref (bd 0)), (3, .ref oa), (4, .ref od), (5, .int ii)]) dL_law_1457 (by decide) rfl ?_
  refine rv_aload_n dL_law_1459 rfl 3 rfl ?_
  refine rv_aload_n dL_law_1460 rfl 1 rfl ?_
  refine rv_iload dL_law_1461 6 rfl ?_
  refine rv_iconst (v := 1) dL_law_1463 (by decide) ?_
  refine rv_iadd dL_law_1464 ?_
  refine rv_sld i1 dL_law_1465 ?_
  refine rv_callV (rest := []) (fl_mw (μ := μ2) (ct_X9_breachPerson hm)) wm_L_204 wi_X9_breachPerson wl_X9_breachPerson wc_X9_breachPerson wz_X9 rfl np_X9_breachPerson ⟨lx_f (by omega), lx_s (by omega)⟩ ⟨rv_le rfl, rv_le rfl⟩ dL_law_1466 rfl (rv_le rfl) 1 rfl cl_X9 (fun v9 w9 h9 => ?_)
  obtain ⟨w8, ⟨rfl, rfl⟩, rfl⟩ := h9
  refine rv_ws (ws2 := lwA ta ad bd oa od μ2 ν2 u2 v) rfl ?_
  refine rv_istore (lv2 := [(7, .int b9), (6, .int k9), (0, .ref b), (1, .ref (ad 0)), (2, .ref (bd 0)), (3, .ref oa), (4, .ref od), (5, .int ii)]) dL_law_1469 (by decide) rfl ?_
  refine rv_aload_n dL_law_1471 rfl 4 rfl ?_
  refine rv_callV (rest := []) (fl_tA (μ := μ2) (ν := ν2) (ta := ta) (ad := ad) (bd := bd) (oa := oa) (od := od) (u := u2) (v := v) (ct_X9_thrown (lx_t ν2))) wm_L_137 wi_X9_thrown wl_X9_thrown wc_X9_thrown wz_X9 rfl np_X9_thrown ⟨lx_f (by omega), lx_s (by omega)⟩ ⟨rv_le rfl, rv_le rfl⟩ dL_law_1472 rfl (rv_le rfl) 28 rfl cl_X9 (fun v9 w9 h9 => ?_)
  obtain ⟨w8, ⟨rfl, rfl⟩, rfl⟩ := h9
  rw [ht]
  refine rv_ws (ws2 := lwA ta ad bd oa od μ2 ν2 u2 v) rfl ?_
  refine rv_iload dL_law_1475 1 rfl ?_
  refine rv_icmp_eq (tgt := 1482) dL_law_1477 (by decide) (fun _ => ?_) (fun hc => absurd rfl hc)
  refine rv_iload dL_law_1482 1 rfl ?_
  refine rv_if_ne (tgt := 1499) dL_law_1484 (by decide) (fun hk => ?_) (fun hk => ?_)
  · refine rv_goto (tgt := 2232) dL_law_1499 (by decide) ?_
    refine rv_sub [2, 3, 4, 5, 6, 7] rfl ?_
    exact kk h2 (by omega) (by omega)
  · have hu := hu hk
    refine rv_aload_n dL_law_1487 rfl 5 rfl ?_
    refine rv_iconst (v := 0) dL_law_1488 (by decide) ?_
    refine rv_lald dL_law_1489 2 rfl 1 rfl (rv_inP (by decide)) ?_
    refine rv_iload dL_law_1490 0 rfl ?_
    refine rv_i2l dL_law_1492 rfl ?_
    refine rv_lcmp dL_law_1493 ?_
    refine rv_if_eq (tgt := 1499) dL_law_1494 (by decide) (fun _ => ?_) (fun hc => absurd (lx_c hu) hc)
    refine rv_goto (tgt := 2232) dL_law_1499 (by decide) ?_
    refine rv_sub [2, 3, 4, 5, 6, 7] rfl ?_
    exact kk h2 (by omega) (by omega)
theorem lc_21 {l : Launch} {D : va_G} {ta : Nat → ClassId} {ad bd : Nat → Nat} {b L : Nat} {xs : Nat → Int32} {oa od : Nat} {hh : String × List ExceptionTableEntry} (hl9 : l.stackTraces = false) {μ ν : Mem} (h : Rel μ ν) {u : Nat → Int64} {v : Nat → UInt64} {ii : Int32} (i1 : vp_in (ii + 1) L) (i2 : vp_in (ii + 2) L) (i3 : vp_in (ii + 3) L) {cu su : Nat} (hcu : cu + 12 ≤ 603072) (hsu : su + 72 ≤ 7207018) (kk : ∀ {μ2 ν2 : Mem} {u2 : Nat → Int64} {v2 : Nat → UInt64} {cu2 su2 : Nat}, Rel μ2 ν2 → cu2 ≤ cu + 12 → su2 ≤ su + 72 → rv_V l D (rv_T ta) RL cL_law 9 (some .boolean) hh room_1 (rv_L b L xs) cu2 su2 (lwA ta ad bd oa od μ2 ν2 u2 v2) 2232 [(0, .ref b), (1, .ref (ad 0)), (2, .ref (bd 0)), (3, .ref oa), (4, .ref od), (5, .int ii)] []) : rv_V l D (rv_T ta) RL cL_law 9 (some .boolean) hh room_1 (rv_L b L xs) cu su (lwA ta ad bd oa od μ ν u v) 1502 [(0, .ref b), (1, .ref (ad 0)), (2, .ref (bd 0)), (3, .ref oa), (4, .ref od), (5, .int ii)] [] := by
  obtain ⟨o9, μ2, b9, ν2, k9, hx, hm, ht, h2, ha⟩ := eq_breachDay h (xs (Int32.toNatClampNeg (ii + 1)))
  refine rv_aload_n dL_law_1502 rfl 1 rfl ?_
  refine rv_aload_n dL_law_1503 rfl 0 rfl ?_
  refine rv_iload dL_law_1504 5 rfl ?_
  refine rv_iconst (v := 1) dL_law_1506 (by decide) ?_
  refine rv_iadd dL_law_1507 ?_
  refine rv_sld i1 dL_law_1508 ?_
  refine rv_aload_n dL_law_1509 rfl 3 rfl ?_
  refine rv_callW (rest := []) (fl_w (ν := ν) (w_breachDay hl9 hx ha oa u)) wm_L_205 ws_L_breachDay wcw_breachDay wz_L np_L_breachDay ⟨lx_f (by omega), lx_s (by omega)⟩ ⟨rv_le rfl, rv_le rfl⟩ dL_law_1510 rfl (rv_le rfl) (fun v9 w9 h9 => ?_)
  obtain ⟨w8, ⟨u2, rfl, rfl, hu⟩, rfl⟩ := h9
  refine rv_istore (lv2 := [(6, .int k9), (0, .ref b), (1, .ref (ad 0)), (2, .ref (bd 0)), (3, .ref oa), (4, .ref od), (5, .int ii)]) dL_law_1513 (by decide) rfl ?_
  refine rv_aload_n dL_law_1515 rfl 3 rfl ?_
  refine rv_aload_n dL_law_1516 rfl 1 rfl ?_
  refine rv_iload dL_law_1517 6 rfl ?_
  refine rv_iconst (v := 1) dL_law_1519 (by decide) ?_
  refine rv_iadd dL_law_1520 ?_
  refine rv_sld i1 dL_law_1521 ?_
  refine rv_callV (rest := []) (fl_mw (μ := μ2) (ct_X9_breachDay hm)) wm_L_207 wi_X9_breachDay wl_X9_breachDay wc_X9_breachDay wz_X9 rfl np_X9_breachDay ⟨lx_f (by omega), lx_s (by omega)⟩ ⟨rv_le rfl, rv_le rfl⟩ dL_law_1522 rfl (rv_le rfl) 1 rfl cl_X9 (fun v9 w9 h9 => ?_)
  obtain ⟨w8, ⟨rfl, rfl⟩, rfl⟩ := h9
  refine rv_ws (ws2 := lwA ta ad bd oa od μ2 ν2 u2 v) rfl ?_
  refine rv_istore (lv2 := [(7, .int b9), (6, .int k9), (0, .ref b), (1, .ref (ad 0)), (2, .ref (bd 0)), (3, .ref oa), (4, .ref od), (5, .int ii)]) dL_law_1525 (by decide) rfl ?_
  refine rv_aload_n dL_law_1527 rfl 4 rfl ?_
  refine rv_callV (rest := []) (fl_tA (μ := μ2) (ν := ν2) (ta := ta) (ad := ad) (bd := bd) (oa := oa) (od := od) (u := u2) (v := v) (ct_X9_thrown (lx_t ν2))) wm_L_137 wi_X9_thrown wl_X9_thrown wc_X9_thrown wz_X9 rfl np_X9_thrown ⟨lx_f (by omega), lx_s (by omega)⟩ ⟨rv_le rfl, rv_le rfl⟩ dL_law_1528 rfl (rv_le rfl) 28 rfl cl_X9 (fun v9 w9 h9 => ?_)
  obtain ⟨w8, ⟨rfl, rfl⟩, rfl⟩ := h9
  rw [ht]
  refine rv_ws (ws2 := lwA ta ad bd oa od μ2 ν2 u2 v) rfl ?_
  refine rv_iload dL_law_1531 1 rfl ?_
  refine rv_icmp_eq (tgt := 1538) dL_law_1533 (by decide) (fun _ => ?_) (fun hc => absurd rfl hc)
  refine rv_iload dL_law_1538 1 rfl ?_
  refine rv_if_ne (tgt := 1555) dL_law_1540 (by decide) (fun hk => ?_) (fun hk => ?_)
  · refine rv_goto (tgt := 2232) dL_law_1555 (by decide) ?_
    refine rv_sub [2, 3, 4, 5, 6, 7] rfl ?_
    exact kk h2 (by omega) (by omega)
  · have hu := hu hk
    refine rv_aload_n dL_law_1543 rfl 5 rfl ?_
    refine rv_iconst (v := 0) dL_law_1544 (by decide) ?_
    refine rv_lald dL_law_1545 2 rfl 1 rfl (rv_inP (by decide)) ?_
    refine rv_iload dL_law_1546 0 rfl ?_
    refine rv_i2l dL_law_1548 rfl ?_
    refine rv_lcmp dL_law_1549 ?_
    refine rv_if_eq (tgt := 1555) dL_law_1550 (by decide) (fun _ => ?_) (fun hc => absurd (lx_c hu) hc)
    refine rv_goto (tgt := 2232) dL_law_1555 (by decide) ?_
    refine rv_sub [2, 3, 4, 5, 6, 7] rfl ?_
    exact kk h2 (by omega) (by omega)
theorem lc_22 {l : Launch} {D : va_G} {ta : Nat → ClassId} {ad bd : Nat → Nat} {b L : Nat} {xs : Nat → Int32} {oa od : Nat} {hh : String × List ExceptionTableEntry} (hl9 : l.stackTraces = false) {μ ν : Mem} (h : Rel μ ν) {u : Nat → Int64} {v : Nat → UInt64} {ii : Int32} (i1 : vp_in (ii + 1) L) (i2 : vp_in (ii + 2) L) (i3 : vp_in (ii + 3) L) {cu su : Nat} (hcu : cu + 12 ≤ 603072) (hsu : su + 72 ≤ 7207018) (kk : ∀ {μ2 ν2 : Mem} {u2 : Nat → Int64} {v2 : Nat → UInt64} {cu2 su2 : Nat}, Rel μ2 ν2 → cu2 ≤ cu + 12 → su2 ≤ su + 72 → rv_V l D (rv_T ta) RL cL_law 9 (some .boolean) hh room_1 (rv_L b L xs) cu2 su2 (lwA ta ad bd oa od μ2 ν2 u2 v2) 2232 [(0, .ref b), (1, .ref (ad 0)), (2, .ref (bd 0)), (3, .ref oa), (4, .ref od), (5, .int ii)] []) : rv_V l D (rv_T ta) RL cL_law 9 (some .boolean) hh room_1 (rv_L b L xs) cu su (lwA ta ad bd oa od μ ν u v) 1558 [(0, .ref b), (1, .ref (ad 0)), (2, .ref (bd 0)), (3, .ref oa), (4, .ref od), (5, .int ii)] [] := by
  obtain ⟨o9, μ2, b9, ν2, k9, hx, hm, ht, h2, ha⟩ := eq_breachShift h (xs (Int32.toNatClampNeg (ii + 1)))
  refine rv_aload_n dL_law_1558 rfl 1 rfl ?_
  refine rv_aload_n dL_law_1559 rfl 0 rfl ?_
  refine rv_iload dL_law_1560 5 rfl ?_
  refine rv_iconst (v := 1) dL_law_1562 (by decide) ?_
  refine rv_iadd dL_law_1563 ?_
  refine rv_sld i1 dL_law_1564 ?_
  refine rv_aload_n dL_law_1565 rfl 3 rfl ?_
  refine rv_callW (rest := []) (fl_w (ν := ν) (w_breachShift hl9 hx ha oa u)) wm_L_208 ws_L_breachShift wcw_breachShift wz_L np_L_breachShift ⟨lx_f (by omega), lx_s (by omega)⟩ ⟨rv_le rfl, rv_le rfl⟩ dL_law_1566 rfl (rv_le rfl) (fun v9 w9 h9 => ?_)
  obtain ⟨w8, ⟨u2, rfl, rfl, hu⟩, rfl⟩ := h9
  refine rv_istore (lv2 := [(6, .int k9), (0, .ref b), (1, .ref (ad 0)), (2, .ref (bd 0)), (3, .ref oa), (4, .ref od), (5, .int ii)]) dL_law_1569 (by decide) rfl ?_
  refine rv_aload_n dL_law_1571 rfl 3 rfl ?_
  refine rv_aload_n dL_law_1572 rfl 1 rfl ?_
  refine rv_iload dL_law_1573 6 rfl ?_
  refine rv_iconst (v := 1) dL_law_1575 (by decide) ?_
  refine rv_iadd dL_law_1576 ?_
  refine rv_sld i1 dL_law_1577 ?_
  refine rv_callV (rest := []) (fl_mw (μ := μ2) (ct_X9_breachShift hm)) wm_L_210 wi_X9_breachShift wl_X9_breachShift wc_X9_breachShift wz_X9 rfl np_X9_breachShift ⟨lx_f (by omega), lx_s (by omega)⟩ ⟨rv_le rfl, rv_le rfl⟩ dL_law_1578 rfl (rv_le rfl) 1 rfl cl_X9 (fun v9 w9 h9 => ?_)
  obtain ⟨w8, ⟨rfl, rfl⟩, rfl⟩ := h9
  refine rv_ws (ws2 := lwA ta ad bd oa od μ2 ν2 u2 v) rfl ?_
  refine rv_istore (lv2 := [(7, .int b9), (6, .int k9), (0, .ref b), (1, .ref (ad 0)), (2, .ref (bd 0)), (3, .ref oa), (4, .ref od), (5, .int ii)]) dL_law_1581 (by decide) rfl ?_
  refine rv_aload_n dL_law_1583 rfl 4 rfl ?_
  refine rv_callV (rest := []) (fl_tA (μ := μ2) (ν := ν2) (ta := ta) (ad := ad) (bd := bd) (oa := oa) (od := od) (u := u2) (v := v) (ct_X9_thrown (lx_t ν2))) wm_L_137 wi_X9_thrown wl_X9_thrown wc_X9_thrown wz_X9 rfl np_X9_thrown ⟨lx_f (by omega), lx_s (by omega)⟩ ⟨rv_le rfl, rv_le rfl⟩ dL_law_1584 rfl (rv_le rfl) 28 rfl cl_X9 (fun v9 w9 h9 => ?_)
  obtain ⟨w8, ⟨rfl, rfl⟩, rfl⟩ := h9
  rw [ht]
  refine rv_ws (ws2 := lwA ta ad bd oa od μ2 ν2 u2 v) rfl ?_
  refine rv_iload dL_law_1587 1 rfl ?_
  refine rv_icmp_eq (tgt := 1594) dL_law_1589 (by decide) (fun _ => ?_) (fun hc => absurd rfl hc)
  refine rv_iload dL_law_1594 1 rfl ?_
  refine rv_if_ne (tgt := 1611) dL_law_1596 (by decide) (fun hk => ?_) (fun hk => ?_)
  · refine rv_goto (tgt := 2232) dL_law_1611 (by decide) ?_
    refine rv_sub [2, 3, 4, 5, 6, 7] rfl ?_
    exact kk h2 (by omega) (by omega)
  · have hu := hu hk
    refine rv_aload_n dL_law_1599 rfl 5 rfl ?_
    refine rv_iconst (v := 0) dL_law_1600 (by decide) ?_
    refine rv_lald dL_law_1601 2 rfl 1 rfl (rv_inP (by decide)) ?_
    refine rv_iload dL_law_1602 0 rfl ?_
    refine rv_i2l dL_law_1604 rfl ?_
    refine rv_lcmp dL_law_1605 ?_
    refine rv_if_eq (tgt := 1611) dL_law_1606 (by decide) (fun _ => ?_) (fun hc => absurd (lx_c hu) hc)
    refine rv_goto (tgt := 2232) dL_law_1611 (by decide) ?_
    refine rv_sub [2, 3, 4, 5, 6, 7] rfl ?_
    exact kk h2 (by omega) (by omega)
theorem lc_23 {l : Launch} {D : va_G} {ta : Nat → ClassId} {ad bd : Nat → Nat} {b L : Nat} {xs : Nat → Int32} {oa od : Nat} {hh : String × List ExceptionTableEntry} (hl9 : l.stackTraces = false) {μ ν : Mem} (h : Rel μ ν) {u : Nat → Int64} {v : Nat → UInt64} {ii : Int32} (i1 : vp_in (ii + 1) L) (i2 : vp_in (ii + 2) L) (i3 : vp_in (ii + 3) L) {cu su : Nat} (hcu : cu + 12 ≤ 603072) (hsu : su + 72 ≤ 7207018) (kk : ∀ {μ2 ν2 : Mem} {u2 : Nat → Int64} {v2 : Nat → UInt64} {cu2 su2 : Nat}, Rel μ2 ν2 → cu2 ≤ cu + 12 → su2 ≤ su + 72 → rv_V l D (rv_T ta) RL cL_law 9 (some .boolean) hh room_1 (rv_L b L xs) cu2 su2 (lwA ta ad bd oa od μ2 ν2 u2 v2) 2232 [(0, .ref b), (1, .ref (ad 0)), (2, .ref (bd 0)), (3, .ref oa), (4, .ref od), (5, .int ii)] []) : rv_V l D (rv_T ta) RL cL_law 9 (some .boolean) hh room_1 (rv_L b L xs) cu su (lwA ta ad bd oa od μ ν u v) 1614 [(0, .ref b), (1, .ref (ad 0)), (2, .ref (bd 0)), (3, .ref oa), (4, .ref od), (5, .int ii)] [] := by
  obtain ⟨o9, μ2, b9, ν2, k9, hx, hm, ht, h2, ha⟩ := eq_mostBreaches h
  refine rv_aload_n dL_law_1614 rfl 1 rfl ?_
  refine rv_aload_n dL_law_1615 rfl 3 rfl ?_
  refine rv_callW (rest := []) (fl_w (ν := ν) (w_mostBreaches hl9 hx ha oa u)) wm_L_211 ws_L_mostBreaches wcw_mostBreaches wz_L np_L_mostBreaches ⟨lx_f (by omega), lx_s (by omega)⟩ ⟨rv_le rfl, rv_le rfl⟩ dL_law_1616 rfl (rv_le rfl) (fun v9 w9 h9 => ?_)
  obtain ⟨w8, ⟨u2, rfl, rfl, hu⟩, rfl⟩ := h9
  refine rv_istore (lv2 := [(6, .int k9), (0, .ref b), (1, .ref (ad 0)), (2, .ref (bd 0)), (3, .ref oa), (4, .ref od), (5, .int ii)]) dL_law_1619 (by decide) rfl ?_
  refine rv_aload_n dL_law_1621 rfl 3 rfl ?_
  refine rv_callV (rest := []) (fl_mw (μ := μ2) (ct_X9_mostBreaches hm)) wm_L_213 wi_X9_mostBreaches wl_X9_mostBreaches wc_X9_mostBreaches wz_X9 rfl np_X9_mostBreaches ⟨lx_f (by omega), lx_s (by omega)⟩ ⟨rv_le rfl, rv_le rfl⟩ dL_law_1622 rfl (rv_le rfl) 1 rfl cl_X9 (fun v9 w9 h9 => ?_)
  obtain ⟨w8, ⟨rfl, rfl⟩, rfl⟩ := h9
  refine rv_ws (ws2 := lwA ta ad bd oa od μ2 ν2 u2 v) rfl ?_
  refine rv_istore (lv2 := [(7, .int b9), (6, .int k9), (0, .ref b), (1, .ref (ad 0)), (2, .ref (bd 0)), (3, .ref oa), (4, .ref od), (5, .int ii)]) dL_law_1625 (by decide) rfl ?_
  refine rv_aload_n dL_law_1627 rfl 4 rfl ?_
  refine rv_callV (rest := []) (fl_tA (μ := μ2) (ν := ν2) (ta := ta) (ad := ad) (bd := bd) (oa := oa) (od := od) (u := u2) (v := v) (ct_X9_thrown (lx_t ν2))) wm_L_137 wi_X9_thrown wl_X9_thrown wc_X9_thrown wz_X9 rfl np_X9_thrown ⟨lx_f (by omega), lx_s (by omega)⟩ ⟨rv_le rfl, rv_le rfl⟩ dL_law_1628 rfl (rv_le rfl) 28 rfl cl_X9 (fun v9 w9 h9 => ?_)
  obtain ⟨w8, ⟨rfl, rfl⟩, rfl⟩ := h9
  rw [ht]
  refine rv_ws (ws2 := lwA ta ad bd oa od μ2 ν2 u2 v) rfl ?_
  refine rv_iload dL_law_1631 1 rfl ?_
  refine rv_icmp_eq (tgt := 1638) dL_law_1633 (by decide) (fun _ => ?_) (fun hc => absurd rfl hc)
  refine rv_iload dL_law_1638 1 rfl ?_
  refine rv_if_ne (tgt := 1655) dL_law_1640 (by decide) (fun hk => ?_) (fun hk => ?_)
  · refine rv_goto (tgt := 2232) dL_law_1655 (by decide) ?_
    refine rv_sub [2, 3, 4, 5, 6, 7] rfl ?_
    exact kk h2 (by omega) (by omega)
  · have hu := hu hk
    refine rv_aload_n dL_law_1643 rfl 5 rfl ?_
    refine rv_iconst (v := 0) dL_law_1644 (by decide) ?_
    refine rv_lald dL_law_1645 2 rfl 1 rfl (rv_inP (by decide)) ?_
    refine rv_iload dL_law_1646 0 rfl ?_
    refine rv_i2l dL_law_1648 rfl ?_
    refine rv_lcmp dL_law_1649 ?_
    refine rv_if_eq (tgt := 1655) dL_law_1650 (by decide) (fun _ => ?_) (fun hc => absurd (lx_c hu) hc)
    refine rv_goto (tgt := 2232) dL_law_1655 (by decide) ?_
    refine rv_sub [2, 3, 4, 5, 6, 7] rfl ?_
    exact kk h2 (by omega) (by omega)
theorem lc_24 {l : Launch} {D : va_G} {ta : Nat → ClassId} {ad bd : Nat → Nat} {b L : Nat} {xs : Nat → Int32} {oa od : Nat} {hh : String × List ExceptionTableEntry} (hl9 : l.stackTraces = false) {μ ν : Mem} (h : Rel μ ν) {u : Nat → Int64} {v : Nat → UInt64} {ii : Int32} (i1 : vp_in (ii + 1) L) (i2 : vp_in (ii + 2) L) (i3 : vp_in (ii + 3) L) {cu su : Nat} (hcu : cu + 12 ≤ 603072) (hsu : su + 72 ≤ 7207018) (kk : ∀ {μ2 ν2 : Mem} {u2 : Nat → Int64} {v2 : Nat → UInt64} {cu2 su2 : Nat}, Rel μ2 ν2 → cu2 ≤ cu + 12 → su2 ≤ su + 72 → rv_V l D (rv_T ta) RL cL_law 9 (some .boolean) hh room_1 (rv_L b L xs) cu2 su2 (lwA ta ad bd oa od μ2 ν2 u2 v2) 2232 [(0, .ref b), (1, .ref (ad 0)), (2, .ref (bd 0)), (3, .ref oa), (4, .ref od), (5, .int ii)] []) : rv_V l D (rv_T ta) RL cL_law 9 (some .boolean) hh room_1 (rv_L b L xs) cu su (lwA ta ad bd oa od μ ν u v) 1658 [(0, .ref b), (1, .ref (ad 0)), (2, .ref (bd 0)), (3, .ref oa), (4, .ref od), (5, .int ii)] [] := by
  obtain ⟨o9, μ2, b9, ν2, k9, hx, hm, ht, h2, ha⟩ := eq_swap h (xs (Int32.toNatClampNeg (ii + 1))) (xs (Int32.toNatClampNeg (ii + 2))) (xs (Int32.toNatClampNeg (ii + 3)))
  refine rv_aload_n dL_law_1658 rfl 1 rfl ?_
  refine rv_aload_n dL_law_1659 rfl 0 rfl ?_
  refine rv_iload dL_law_1660 5 rfl ?_
  refine rv_iconst (v := 1) dL_law_1662 (by decide) ?_
  refine rv_iadd dL_law_1663 ?_
  refine rv_sld i1 dL_law_1664 ?_
  refine rv_aload_n dL_law_1665 rfl 0 rfl ?_
  refine rv_iload dL_law_1666 5 rfl ?_
  refine rv_iconst (v := 2) dL_law_1668 (by decide) ?_
  refine rv_iadd dL_law_1669 ?_
  refine rv_sld i2 dL_law_1670 ?_
  refine rv_aload_n dL_law_1671 rfl 0 rfl ?_
  refine rv_iload dL_law_1672 5 rfl ?_
  refine rv_iconst (v := 3) dL_law_1674 (by decide) ?_
  refine rv_iadd dL_law_1675 ?_
  refine rv_sld i3 dL_law_1676 ?_
  refine rv_aload_n dL_law_1677 rfl 3 rfl ?_
  refine rv_callW (rest := []) (fl_w (ν := ν) (w_swap hl9 hx ha oa u)) wm_L_214 ws_L_swap wcw_swap wz_L np_L_swap ⟨lx_f (by omega), lx_s (by omega)⟩ ⟨rv_le rfl, rv_le rfl⟩ dL_law_1678 rfl (rv_le rfl) (fun v9 w9 h9 => ?_)
  obtain ⟨w8, ⟨u2, rfl, rfl, hu⟩, rfl⟩ := h9
  refine rv_istore (lv2 := [(6, .int k9), (0, .ref b), (1, .ref (ad 0)), (2, .ref (bd 0)), (3, .ref oa), (4, .ref od), (5, .int ii)]) dL_law_1681 (by decide) rfl ?_
  refine rv_aload_n dL_law_1683 rfl 3 rfl ?_
  refine rv_aload_n dL_law_1684 rfl 1 rfl ?_
  refine rv_iload dL_law_1685 6 rfl ?_
  refine rv_iconst (v := 1) dL_law_1687 (by decide) ?_
  refine rv_iadd dL_law_1688 ?_
  refine rv_sld i1 dL_law_1689 ?_
  refine rv_aload_n dL_law_1690 rfl 1 rfl ?_
  refine rv_iload dL_law_1691 6 rfl ?_
  refine rv_iconst (v := 2) dL_law_1693 (by decide) ?_
  refine rv_iadd dL_law_1694 ?_
  refine rv_sld i2 dL_law_1695 ?_
  refine rv_aload_n dL_law_1696 rfl 1 rfl ?_
  refine rv_iload dL_law_1697 6 rfl ?_
  refine rv_iconst (v := 3) dL_law_1699 (by decide) ?_
  refine rv_iadd dL_law_1700 ?_
  refine rv_sld i3 dL_law_1701 ?_
  refine rv_callV (rest := []) (fl_mw (μ := μ2) (ct_X9_swap hm)) wm_L_216 wi_X9_swap wl_X9_swap wc_X9_swap wz_X9 rfl np_X9_swap ⟨lx_f (by omega), lx_s (by omega)⟩ ⟨rv_le rfl, rv_le rfl⟩ dL_law_1702 rfl (rv_le rfl) 1 rfl cl_X9 (fun v9 w9 h9 => ?_)
  obtain ⟨w8, ⟨rfl, rfl⟩, rfl⟩ := h9
  refine rv_ws (ws2 := lwA ta ad bd oa od μ2 ν2 u2 v) rfl ?_
  refine rv_istore (lv2 := [(7, .int b9), (6, .int k9), (0, .ref b), (1, .ref (ad 0)), (2, .ref (bd 0)), (3, .ref oa), (4, .ref od), (5, .int ii)]) dL_law_1705 (by decide) rfl ?_
  refine rv_aload_n dL_law_1707 rfl 4 rfl ?_
  refine rv_callV (rest := []) (fl_tA (μ := μ2) (ν := ν2) (ta := ta) (ad := ad) (bd := bd) (oa := oa) (od := od) (u := u2) (v := v) (ct_X9_thrown (lx_t ν2))) wm_L_137 wi_X9_thrown wl_X9_thrown wc_X9_thrown wz_X9 rfl np_X9_thrown ⟨lx_f (by omega), lx_s (by omega)⟩ ⟨rv_le rfl, rv_le rfl⟩ dL_law_1708 rfl (rv_le rfl) 28 rfl cl_X9 (fun v9 w9 h9 => ?_)
  obtain ⟨w8, ⟨rfl, rfl⟩, rfl⟩ := h9
  rw [ht]
  refine rv_ws (ws2 := lwA ta ad bd oa od μ2 ν2 u2 v) rfl ?_
  refine rv_iload dL_law_1711 1 rfl ?_
  refine rv_icmp_eq (tgt := 1718) dL_law_1713 (by decide) (fun _ => ?_) (fun hc => absurd rfl hc)
  refine rv_iload dL_law_1718 1 rfl ?_
  refine rv_if_ne (tgt := 1735) dL_law_1720 (by decide) (fun hk => ?_) (fun hk => ?_)
  · refine rv_goto (tgt := 2232) dL_law_1735 (by decide) ?_
    refine rv_sub [2, 3, 4, 5, 6, 7] rfl ?_
    exact kk h2 (by omega) (by omega)
  · have hu := hu hk
    refine rv_aload_n dL_law_1723 rfl 5 rfl ?_
    refine rv_iconst (v := 0) dL_law_1724 (by decide) ?_
    refine rv_lald dL_law_1725 2 rfl 1 rfl (rv_inP (by decide)) ?_
    refine rv_iload dL_law_1726 0 rfl ?_
    refine rv_i2l dL_law_1728 rfl ?_
    refine rv_lcmp dL_law_1729 ?_
    refine rv_if_eq (tgt := 1735) dL_law_1730 (by decide) (fun _ => ?_) (fun hc => absurd (lx_c hu) hc)
    refine rv_goto (tgt := 2232) dL_law_1735 (by decide) ?_
    refine rv_sub [2, 3, 4, 5, 6, 7] rfl ?_
    exact kk h2 (by omega) (by omega)
theorem lc_25 {l : Launch} {D : va_G} {ta : Nat → ClassId} {ad bd : Nat → Nat} {b L : Nat} {xs : Nat → Int32} {oa od : Nat} {hh : String × List ExceptionTableEntry} (hl9 : l.stackTraces = false) {μ ν : Mem} (h : Rel μ ν) {u : Nat → Int64} {v : Nat → UInt64} {ii : Int32} (i1 : vp_in (ii + 1) L) (i2 : vp_in (ii + 2) L) (i3 : vp_in (ii + 3) L) {cu su : Nat} (hcu : cu + 12 ≤ 603072) (hsu : su + 72 ≤ 7207018) (kk : ∀ {μ2 ν2 : Mem} {u2 : Nat → Int64} {v2 : Nat → UInt64} {cu2 su2 : Nat}, Rel μ2 ν2 → cu2 ≤ cu + 12 → su2 ≤ su + 72 → rv_V l D (rv_T ta) RL cL_law 9 (some .boolean) hh room_1 (rv_L b L xs) cu2 su2 (lwA ta ad bd oa od μ2 ν2 u2 v2) 2232 [(0, .ref b), (1, .ref (ad 0)), (2, .ref (bd 0)), (3, .ref oa), (4, .ref od), (5, .int ii)] []) : rv_V l D (rv_T ta) RL cL_law 9 (some .boolean) hh room_1 (rv_L b L xs) cu su (lwA ta ad bd oa od μ ν u v) 1738 [(0, .ref b), (1, .ref (ad 0)), (2, .ref (bd 0)), (3, .ref oa), (4, .ref od), (5, .int ii)] [] := by
  obtain ⟨o9, μ2, b9, ν2, k9, hx, hm, ht, h2, ha⟩ := eq_partner h (xs (Int32.toNatClampNeg (ii + 1))) (xs (Int32.toNatClampNeg (ii + 2)))
  refine rv_aload_n dL_law_1738 rfl 1 rfl ?_
  refine rv_aload_n dL_law_1739 rfl 0 rfl ?_
  refine rv_iload dL_law_1740 5 rfl ?_
  refine rv_iconst (v := 1) dL_law_1742 (by decide) ?_
  refine rv_iadd dL_law_1743 ?_
  refine rv_sld i1 dL_law_1744 ?_
  refine rv_aload_n dL_law_1745 rfl 0 rfl ?_
  refine rv_iload dL_law_1746 5 rfl ?_
  refine rv_iconst (v := 2) dL_law_1748 (by decide) ?_
  refine rv_iadd dL_law_1749 ?_
  refine rv_sld i2 dL_law_1750 ?_
  refine rv_aload_n dL_law_1751 rfl 3 rfl ?_
  refine rv_callW (rest := []) (fl_w (ν := ν) (w_partner hl9 hx ha oa u)) wm_L_217 ws_L_partner wcw_partner wz_L np_L_partner ⟨lx_f (by omega), lx_s (by omega)⟩ ⟨rv_le rfl, rv_le rfl⟩ dL_law_1752 rfl (rv_le rfl) (fun v9 w9 h9 => ?_)
  obtain ⟨w8, ⟨u2, rfl, rfl, hu⟩, rfl⟩ := h9
  refine rv_istore (lv2 := [(6, .int k9), (0, .ref b), (1, .ref (ad 0)), (2, .ref (bd 0)), (3, .ref oa), (4, .ref od), (5, .int ii)]) dL_law_1755 (by decide) rfl ?_
  refine rv_aload_n dL_law_1757 rfl 3 rfl ?_
  refine rv_aload_n dL_law_1758 rfl 1 rfl ?_
  refine rv_iload dL_law_1759 6 rfl ?_
  refine rv_iconst (v := 1) dL_law_1761 (by decide) ?_
  refine rv_iadd dL_law_1762 ?_
  refine rv_sld i1 dL_law_1763 ?_
  refine rv_aload_n dL_law_1764 rfl 1 rfl ?_
  refine rv_iload dL_law_1765 6 rfl ?_
  refine rv_iconst (v := 2) dL_law_1767 (by decide) ?_
  refine rv_iadd dL_law_1768 ?_
  refine rv_sld i2 dL_law_1769 ?_
  refine rv_callV (rest := []) (fl_mw (μ := μ2) (ct_X9_partner hm)) wm_L_219 wi_X9_partner wl_X9_partner wc_X9_partner wz_X9 rfl np_X9_partner ⟨lx_f (by omega), lx_s (by omega)⟩ ⟨rv_le rfl, rv_le rfl⟩ dL_law_1770 rfl (rv_le rfl) 1 rfl cl_X9 (fun v9 w9 h9 => ?_)
  obtain ⟨w8, ⟨rfl, rfl⟩, rfl⟩ := h9
  refine rv_ws (ws2 := lwA ta ad bd oa od μ2 ν2 u2 v) rfl ?_
  refine rv_istore (lv2 := [(7, .int b9), (6, .int k9), (0, .ref b), (1, .ref (ad 0)), (2, .ref (bd 0)), (3, .ref oa), (4, .ref od), (5, .int ii)]) dL_law_1773 (by decide) rfl ?_
  refine rv_aload_n dL_law_1775 rfl 4 rfl ?_
  refine rv_callV (rest := []) (fl_tA (μ := μ2) (ν := ν2) (ta := ta) (ad := ad) (bd := bd) (oa := oa) (od := od) (u := u2) (v := v) (ct_X9_thrown (lx_t ν2))) wm_L_137 wi_X9_thrown wl_X9_thrown wc_X9_thrown wz_X9 rfl np_X9_thrown ⟨lx_f (by omega), lx_s (by omega)⟩ ⟨rv_le rfl, rv_le rfl⟩ dL_law_1776 rfl (rv_le rfl) 28 rfl cl_X9 (fun v9 w9 h9 => ?_)
  obtain ⟨w8, ⟨rfl, rfl⟩, rfl⟩ := h9
  rw [ht]
  refine rv_ws (ws2 := lwA ta ad bd oa od μ2 ν2 u2 v) rfl ?_
  refine rv_iload dL_law_1779 1 rfl ?_
  refine rv_icmp_eq (tgt := 1786) dL_law_1781 (by decide) (fun _ => ?_) (fun hc => absurd rfl hc)
  refine rv_iload dL_law_1786 1 rfl ?_
  refine rv_if_ne (tgt := 1803) dL_law_1788 (by decide) (fun hk => ?_) (fun hk => ?_)
  · refine rv_goto (tgt := 2232) dL_law_1803 (by decide) ?_
    refine rv_sub [2, 3, 4, 5, 6, 7] rfl ?_
    exact kk h2 (by omega) (by omega)
  · have hu := hu hk
    refine rv_aload_n dL_law_1791 rfl 5 rfl ?_
    refine rv_iconst (v := 0) dL_law_1792 (by decide) ?_
    refine rv_lald dL_law_1793 2 rfl 1 rfl (rv_inP (by decide)) ?_
    refine rv_iload dL_law_1794 0 rfl ?_
    refine rv_i2l dL_law_1796 rfl ?_
    refine rv_lcmp dL_law_1797 ?_
    refine rv_if_eq (tgt := 1803) dL_law_1798 (by decide) (fun _ => ?_) (fun hc => absurd (lx_c hu) hc)
    refine rv_goto (tgt := 2232) dL_law_1803 (by decide) ?_
    refine rv_sub [2, 3, 4, 5, 6, 7] rfl ?_
    exact kk h2 (by omega) (by omega)
theorem lc_26 {l : Launch} {D : va_G} {ta : Nat → ClassId} {ad bd : Nat → Nat} {b L : Nat} {xs : Nat → Int32} {oa od : Nat} {hh : String × List ExceptionTableEntry} (hl9 : l.stackTraces = false) {μ ν : Mem} (h : Rel μ ν) {u : Nat → Int64} {v : Nat → UInt64} {ii : Int32} (i1 : vp_in (ii + 1) L) (i2 : vp_in (ii + 2) L) (i3 : vp_in (ii + 3) L) {cu su : Nat} (hcu : cu + 12 ≤ 603072) (hsu : su + 72 ≤ 7207018) (kk : ∀ {μ2 ν2 : Mem} {u2 : Nat → Int64} {v2 : Nat → UInt64} {cu2 su2 : Nat}, Rel μ2 ν2 → cu2 ≤ cu + 12 → su2 ≤ su + 72 → rv_V l D (rv_T ta) RL cL_law 9 (some .boolean) hh room_1 (rv_L b L xs) cu2 su2 (lwA ta ad bd oa od μ2 ν2 u2 v2) 2232 [(0, .ref b), (1, .ref (ad 0)), (2, .ref (bd 0)), (3, .ref oa), (4, .ref od), (5, .int ii)] []) : rv_V l D (rv_T ta) RL cL_law 9 (some .boolean) hh room_1 (rv_L b L xs) cu su (lwA ta ad bd oa od μ ν u v) 1806 [(0, .ref b), (1, .ref (ad 0)), (2, .ref (bd 0)), (3, .ref oa), (4, .ref od), (5, .int ii)] [] := by
  obtain ⟨o9, μ2, b9, ν2, k9, hx, hm, ht, h2, ha⟩ := eq_leastChanges h
  refine rv_aload_n dL_law_1806 rfl 1 rfl ?_
  refine rv_aload_n dL_law_1807 rfl 3 rfl ?_
  refine rv_callW (rest := []) (fl_w (ν := ν) (w_leastChanges hl9 hx ha oa u)) wm_L_220 ws_L_leastChanges wcw_leastChanges wz_L np_L_leastChanges ⟨lx_f (by omega), lx_s (by omega)⟩ ⟨rv_le rfl, rv_le rfl⟩ dL_law_1808 rfl (rv_le rfl) (fun v9 w9 h9 => ?_)
  obtain ⟨w8, ⟨u2, rfl, rfl, hu⟩, rfl⟩ := h9
  refine rv_istore (lv2 := [(6, .int k9), (0, .ref b), (1, .ref (ad 0)), (2, .ref (bd 0)), (3, .ref oa), (4, .ref od), (5, .int ii)]) dL_law_1811 (by decide) rfl ?_
  refine rv_aload_n dL_law_1813 rfl 3 rfl ?_
  refine rv_callV (rest := []) (fl_mw (μ := μ2) (ct_X9_leastChanges hm)) wm_L_222 wi_X9_leastChanges wl_X9_leastChanges wc_X9_leastChanges wz_X9 rfl np_X9_leastChanges ⟨lx_f (by omega), lx_s (by omega)⟩ ⟨rv_le rfl, rv_le rfl⟩ dL_law_1814 rfl (rv_le rfl) 1 rfl cl_X9 (fun v9 w9 h9 => ?_)
  obtain ⟨w8, ⟨rfl, rfl⟩, rfl⟩ := h9
  refine rv_ws (ws2 := lwA ta ad bd oa od μ2 ν2 u2 v) rfl ?_
  refine rv_istore (lv2 := [(7, .int b9), (6, .int k9), (0, .ref b), (1, .ref (ad 0)), (2, .ref (bd 0)), (3, .ref oa), (4, .ref od), (5, .int ii)]) dL_law_1817 (by decide) rfl ?_
  refine rv_aload_n dL_law_1819 rfl 4 rfl ?_
  refine rv_callV (rest := []) (fl_tA (μ := μ2) (ν := ν2) (ta := ta) (ad := ad) (bd := bd) (oa := oa) (od := od) (u := u2) (v := v) (ct_X9_thrown (lx_t ν2))) wm_L_137 wi_X9_thrown wl_X9_thrown wc_X9_thrown wz_X9 rfl np_X9_thrown ⟨lx_f (by omega), lx_s (by omega)⟩ ⟨rv_le rfl, rv_le rfl⟩ dL_law_1820 rfl (rv_le rfl) 28 rfl cl_X9 (fun v9 w9 h9 => ?_)
  obtain ⟨w8, ⟨rfl, rfl⟩, rfl⟩ := h9
  rw [ht]
  refine rv_ws (ws2 := lwA ta ad bd oa od μ2 ν2 u2 v) rfl ?_
  refine rv_iload dL_law_1823 1 rfl ?_
  refine rv_icmp_eq (tgt := 1830) dL_law_1825 (by decide) (fun _ => ?_) (fun hc => absurd rfl hc)
  refine rv_iload dL_law_1830 1 rfl ?_
  refine rv_if_ne (tgt := 1847) dL_law_1832 (by decide) (fun hk => ?_) (fun hk => ?_)
  · refine rv_goto (tgt := 2232) dL_law_1847 (by decide) ?_
    refine rv_sub [2, 3, 4, 5, 6, 7] rfl ?_
    exact kk h2 (by omega) (by omega)
  · have hu := hu hk
    refine rv_aload_n dL_law_1835 rfl 5 rfl ?_
    refine rv_iconst (v := 0) dL_law_1836 (by decide) ?_
    refine rv_lald dL_law_1837 2 rfl 1 rfl (rv_inP (by decide)) ?_
    refine rv_iload dL_law_1838 0 rfl ?_
    refine rv_i2l dL_law_1840 rfl ?_
    refine rv_lcmp dL_law_1841 ?_
    refine rv_if_eq (tgt := 1847) dL_law_1842 (by decide) (fun _ => ?_) (fun hc => absurd (lx_c hu) hc)
    refine rv_goto (tgt := 2232) dL_law_1847 (by decide) ?_
    refine rv_sub [2, 3, 4, 5, 6, 7] rfl ?_
    exact kk h2 (by omega) (by omega)
theorem lc_27 {l : Launch} {D : va_G} {ta : Nat → ClassId} {ad bd : Nat → Nat} {b L : Nat} {xs : Nat → Int32} {oa od : Nat} {hh : String × List ExceptionTableEntry} (hl9 : l.stackTraces = false) {μ ν : Mem} (h : Rel μ ν) {u : Nat → Int64} {v : Nat → UInt64} {ii : Int32} (i1 : vp_in (ii + 1) L) (i2 : vp_in (ii + 2) L) (i3 : vp_in (ii + 3) L) {cu su : Nat} (hcu : cu + 12 ≤ 603072) (hsu : su + 72 ≤ 7207018) (kk : ∀ {μ2 ν2 : Mem} {u2 : Nat → Int64} {v2 : Nat → UInt64} {cu2 su2 : Nat}, Rel μ2 ν2 → cu2 ≤ cu + 12 → su2 ≤ su + 72 → rv_V l D (rv_T ta) RL cL_law 9 (some .boolean) hh room_1 (rv_L b L xs) cu2 su2 (lwA ta ad bd oa od μ2 ν2 u2 v2) 2232 [(0, .ref b), (1, .ref (ad 0)), (2, .ref (bd 0)), (3, .ref oa), (4, .ref od), (5, .int ii)] []) : rv_V l D (rv_T ta) RL cL_law 9 (some .boolean) hh room_1 (rv_L b L xs) cu su (lwA ta ad bd oa od μ ν u v) 1850 [(0, .ref b), (1, .ref (ad 0)), (2, .ref (bd 0)), (3, .ref oa), (4, .ref od), (5, .int ii)] [] := by
  obtain ⟨o9, μ2, b9, ν2, k9, hx, hm, ht, h2, ha⟩ := eq_leastByTrial h
  refine rv_aload_n dL_law_1850 rfl 1 rfl ?_
  refine rv_aload_n dL_law_1851 rfl 3 rfl ?_
  refine rv_callW (rest := []) (fl_w (ν := ν) (w_leastByTrial hl9 hx ha oa u)) wm_L_223 ws_L_leastByTrial wcw_leastByTrial wz_L np_L_leastByTrial ⟨lx_f (by omega), lx_s (by omega)⟩ ⟨rv_le rfl, rv_le rfl⟩ dL_law_1852 rfl (rv_le rfl) (fun v9 w9 h9 => ?_)
  obtain ⟨w8, ⟨u2, rfl, rfl, hu⟩, rfl⟩ := h9
  refine rv_istore (lv2 := [(6, .int k9), (0, .ref b), (1, .ref (ad 0)), (2, .ref (bd 0)), (3, .ref oa), (4, .ref od), (5, .int ii)]) dL_law_1855 (by decide) rfl ?_
  refine rv_aload_n dL_law_1857 rfl 3 rfl ?_
  refine rv_callV (rest := []) (fl_mw (μ := μ2) (ct_X9_leastByTrial hm)) wm_L_225 wi_X9_leastByTrial wl_X9_leastByTrial wc_X9_leastByTrial wz_X9 rfl np_X9_leastByTrial ⟨lx_f (by omega), lx_s (by omega)⟩ ⟨rv_le rfl, rv_le rfl⟩ dL_law_1858 rfl (rv_le rfl) 1 rfl cl_X9 (fun v9 w9 h9 => ?_)
  obtain ⟨w8, ⟨rfl, rfl⟩, rfl⟩ := h9
  refine rv_ws (ws2 := lwA ta ad bd oa od μ2 ν2 u2 v) rfl ?_
  refine rv_istore (lv2 := [(7, .int b9), (6, .int k9), (0, .ref b), (1, .ref (ad 0)), (2, .ref (bd 0)), (3, .ref oa), (4, .ref od), (5, .int ii)]) dL_law_1861 (by decide) rfl ?_
  refine rv_aload_n dL_law_1863 rfl 4 rfl ?_
  refine rv_callV (rest := []) (fl_tA (μ := μ2) (ν := ν2) (ta := ta) (ad := ad) (bd := bd) (oa := oa) (od := od) (u := u2) (v := v) (ct_X9_thrown (lx_t ν2))) wm_L_137 wi_X9_thrown wl_X9_thrown wc_X9_thrown wz_X9 rfl np_X9_thrown ⟨lx_f (by omega), lx_s (by omega)⟩ ⟨rv_le rfl, rv_le rfl⟩ dL_law_1864 rfl (rv_le rfl) 28 rfl cl_X9 (fun v9 w9 h9 => ?_)
  obtain ⟨w8, ⟨rfl, rfl⟩, rfl⟩ := h9
  rw [ht]
  refine rv_ws (ws2 := lwA ta ad bd oa od μ2 ν2 u2 v) rfl ?_
  refine rv_iload dL_law_1867 1 rfl ?_
  refine rv_icmp_eq (tgt := 1874) dL_law_1869 (by decide) (fun _ => ?_) (fun hc => absurd rfl hc)
  refine rv_iload dL_law_1874 1 rfl ?_
  refine rv_if_ne (tgt := 1891) dL_law_1876 (by decide) (fun hk => ?_) (fun hk => ?_)
  · refine rv_goto (tgt := 2232) dL_law_1891 (by decide) ?_
    refine rv_sub [2, 3, 4, 5, 6, 7] rfl ?_
    exact kk h2 (by omega) (by omega)
  · have hu := hu hk
    refine rv_aload_n dL_law_1879 rfl 5 rfl ?_
    refine rv_iconst (v := 0) dL_law_1880 (by decide) ?_
    refine rv_lald dL_law_1881 2 rfl 1 rfl (rv_inP (by decide)) ?_
    refine rv_iload dL_law_1882 0 rfl ?_
    refine rv_i2l dL_law_1884 rfl ?_
    refine rv_lcmp dL_law_1885 ?_
    refine rv_if_eq (tgt := 1891) dL_law_1886 (by decide) (fun _ => ?_) (fun hc => absurd (lx_c hu) hc)
    refine rv_goto (tgt := 2232) dL_law_1891 (by decide) ?_
    refine rv_sub [2, 3, 4, 5, 6, 7] rfl ?_
    exact kk h2 (by omega) (by omega)
theorem lc_28 {l : Launch} {D : va_G} {ta : Nat → ClassId} {ad bd : Nat → Nat} {b L : Nat} {xs : Nat → Int32} {oa od : Nat} {hh : String × List ExceptionTableEntry} (hl9 : l.stackTraces = false) {μ ν : Mem} (h : Rel μ ν) {u : Nat → Int64} {v : Nat → UInt64} {ii : Int32} (i1 : vp_in (ii + 1) L) (i2 : vp_in (ii + 2) L) (i3 : vp_in (ii + 3) L) {cu su : Nat} (hcu : cu + 12 ≤ 603072) (hsu : su + 72 ≤ 7207018) (kk : ∀ {μ2 ν2 : Mem} {u2 : Nat → Int64} {v2 : Nat → UInt64} {cu2 su2 : Nat}, Rel μ2 ν2 → cu2 ≤ cu + 12 → su2 ≤ su + 72 → rv_V l D (rv_T ta) RL cL_law 9 (some .boolean) hh room_1 (rv_L b L xs) cu2 su2 (lwA ta ad bd oa od μ2 ν2 u2 v2) 2232 [(0, .ref b), (1, .ref (ad 0)), (2, .ref (bd 0)), (3, .ref oa), (4, .ref od), (5, .int ii)] []) : rv_V l D (rv_T ta) RL cL_law 9 (some .boolean) hh room_1 (rv_L b L xs) cu su (lwA ta ad bd oa od μ ν u v) 1894 [(0, .ref b), (1, .ref (ad 0)), (2, .ref (bd 0)), (3, .ref oa), (4, .ref od), (5, .int ii)] [] := by
  obtain ⟨o9, μ2, b9, ν2, k9, hx, hm, ht, h2, ha⟩ := eq_mend h
  refine rv_aload_n dL_law_1894 rfl 1 rfl ?_
  refine rv_aload_n dL_law_1895 rfl 3 rfl ?_
  refine rv_callW (rest := []) (fl_w (ν := ν) (w_mend hl9 hx ha oa u)) wm_L_226 ws_L_mend wcw_mend wz_L np_L_mend ⟨lx_f (by omega), lx_s (by omega)⟩ ⟨rv_le rfl, rv_le rfl⟩ dL_law_1896 rfl (rv_le rfl) (fun v9 w9 h9 => ?_)
  obtain ⟨w8, ⟨u2, rfl, rfl, hu⟩, rfl⟩ := h9
  refine rv_istore (lv2 := [(6, .int k9), (0, .ref b), (1, .ref (ad 0)), (2, .ref (bd 0)), (3, .ref oa), (4, .ref od), (5, .int ii)]) dL_law_1899 (by decide) rfl ?_
  refine rv_aload_n dL_law_1901 rfl 3 rfl ?_
  refine rv_callV (rest := []) (fl_mw (μ := μ2) (ct_X9_mend hm)) wm_L_228 wi_X9_mend wl_X9_mend wc_X9_mend wz_X9 rfl np_X9_mend ⟨lx_f (by omega), lx_s (by omega)⟩ ⟨rv_le rfl, rv_le rfl⟩ dL_law_1902 rfl (rv_le rfl) 1 rfl cl_X9 (fun v9 w9 h9 => ?_)
  obtain ⟨w8, ⟨rfl, rfl⟩, rfl⟩ := h9
  refine rv_ws (ws2 := lwA ta ad bd oa od μ2 ν2 u2 v) rfl ?_
  refine rv_istore (lv2 := [(7, .int b9), (6, .int k9), (0, .ref b), (1, .ref (ad 0)), (2, .ref (bd 0)), (3, .ref oa), (4, .ref od), (5, .int ii)]) dL_law_1905 (by decide) rfl ?_
  refine rv_aload_n dL_law_1907 rfl 4 rfl ?_
  refine rv_callV (rest := []) (fl_tA (μ := μ2) (ν := ν2) (ta := ta) (ad := ad) (bd := bd) (oa := oa) (od := od) (u := u2) (v := v) (ct_X9_thrown (lx_t ν2))) wm_L_137 wi_X9_thrown wl_X9_thrown wc_X9_thrown wz_X9 rfl np_X9_thrown ⟨lx_f (by omega), lx_s (by omega)⟩ ⟨rv_le rfl, rv_le rfl⟩ dL_law_1908 rfl (rv_le rfl) 28 rfl cl_X9 (fun v9 w9 h9 => ?_)
  obtain ⟨w8, ⟨rfl, rfl⟩, rfl⟩ := h9
  rw [ht]
  refine rv_ws (ws2 := lwA ta ad bd oa od μ2 ν2 u2 v) rfl ?_
  refine rv_iload dL_law_1911 1 rfl ?_
  refine rv_icmp_eq (tgt := 1918) dL_law_1913 (by decide) (fun _ => ?_) (fun hc => absurd rfl hc)
  refine rv_iload dL_law_1918 1 rfl ?_
  refine rv_if_ne (tgt := 1935) dL_law_1920 (by decide) (fun hk => ?_) (fun hk => ?_)
  · refine rv_goto (tgt := 2232) dL_law_1935 (by decide) ?_
    refine rv_sub [2, 3, 4, 5, 6, 7] rfl ?_
    exact kk h2 (by omega) (by omega)
  · have hu := hu hk
    refine rv_aload_n dL_law_1923 rfl 5 rfl ?_
    refine rv_iconst (v := 0) dL_law_1924 (by decide) ?_
    refine rv_lald dL_law_1925 2 rfl 1 rfl (rv_inP (by decide)) ?_
    refine rv_iload dL_law_1926 0 rfl ?_
    refine rv_i2l dL_law_1928 rfl ?_
    refine rv_lcmp dL_law_1929 ?_
    refine rv_if_eq (tgt := 1935) dL_law_1930 (by decide) (fun _ => ?_) (fun hc => absurd (lx_c hu) hc)
    refine rv_goto (tgt := 2232) dL_law_1935 (by decide) ?_
    refine rv_sub [2, 3, 4, 5, 6, 7] rfl ?_
    exact kk h2 (by omega) (by omega)
theorem lc_29 {l : Launch} {D : va_G} {ta : Nat → ClassId} {ad bd : Nat → Nat} {b L : Nat} {xs : Nat → Int32} {oa od : Nat} {hh : String × List ExceptionTableEntry} (hl9 : l.stackTraces = false) {μ ν : Mem} (h : Rel μ ν) {u : Nat → Int64} {v : Nat → UInt64} {ii : Int32} (i1 : vp_in (ii + 1) L) (i2 : vp_in (ii + 2) L) (i3 : vp_in (ii + 3) L) {cu su : Nat} (hcu : cu + 12 ≤ 603072) (hsu : su + 72 ≤ 7207018) (kk : ∀ {μ2 ν2 : Mem} {u2 : Nat → Int64} {v2 : Nat → UInt64} {cu2 su2 : Nat}, Rel μ2 ν2 → cu2 ≤ cu + 12 → su2 ≤ su + 72 → rv_V l D (rv_T ta) RL cL_law 9 (some .boolean) hh room_1 (rv_L b L xs) cu2 su2 (lwA ta ad bd oa od μ2 ν2 u2 v2) 2232 [(0, .ref b), (1, .ref (ad 0)), (2, .ref (bd 0)), (3, .ref oa), (4, .ref od), (5, .int ii)] []) : rv_V l D (rv_T ta) RL cL_law 9 (some .boolean) hh room_1 (rv_L b L xs) cu su (lwA ta ad bd oa od μ ν u v) 1938 [(0, .ref b), (1, .ref (ad 0)), (2, .ref (bd 0)), (3, .ref oa), (4, .ref od), (5, .int ii)] [] := by
  obtain ⟨o9, b9, ν2, k9, hx, hm, ht, h2, ha⟩ := eq_changedCell h (xs (Int32.toNatClampNeg (ii + 1)))
  refine rv_aload_n dL_law_1938 rfl 1 rfl ?_
  refine rv_aload_n dL_law_1939 rfl 0 rfl ?_
  refine rv_iload dL_law_1940 5 rfl ?_
  refine rv_iconst (v := 1) dL_law_1942 (by decide) ?_
  refine rv_iadd dL_law_1943 ?_
  refine rv_sld i1 dL_law_1944 ?_
  refine rv_aload_n dL_law_1945 rfl 3 rfl ?_
  refine rv_callW (rest := []) (fl_w (ν := ν) (w_changedCell hl9 hx ha oa u)) wm_L_229 ws_L_changedCell wcw_changedCell wz_L np_L_changedCell ⟨lx_f (by omega), lx_s (by omega)⟩ ⟨rv_le rfl, rv_le rfl⟩ dL_law_1946 rfl (rv_le rfl) (fun v9 w9 h9 => ?_)
  obtain ⟨w8, ⟨u2, rfl, rfl, hu⟩, rfl⟩ := h9
  refine rv_istore (lv2 := [(6, .int k9), (0, .ref b), (1, .ref (ad 0)), (2, .ref (bd 0)), (3, .ref oa), (4, .ref od), (5, .int ii)]) dL_law_1949 (by decide) rfl ?_
  refine rv_aload_n dL_law_1951 rfl 3 rfl ?_
  refine rv_aload_n dL_law_1952 rfl 1 rfl ?_
  refine rv_iload dL_law_1953 6 rfl ?_
  refine rv_iconst (v := 1) dL_law_1955 (by decide) ?_
  refine rv_iadd dL_law_1956 ?_
  refine rv_sld i1 dL_law_1957 ?_
  refine rv_callV (rest := []) (fl_mw (μ := μ) (ct_X9_changedCell hm)) wm_L_231 wi_X9_changedCell wl_X9_changedCell wc_X9_changedCell wz_X9 rfl np_X9_changedCell ⟨lx_f (by omega), lx_s (by omega)⟩ ⟨rv_le rfl, rv_le rfl⟩ dL_law_1958 rfl (rv_le rfl) 1 rfl cl_X9 (fun v9 w9 h9 => ?_)
  obtain ⟨w8, ⟨rfl, rfl⟩, rfl⟩ := h9
  refine rv_ws (ws2 := lwA ta ad bd oa od μ ν2 u2 v) rfl ?_
  refine rv_istore (lv2 := [(7, .int b9), (6, .int k9), (0, .ref b), (1, .ref (ad 0)), (2, .ref (bd 0)), (3, .ref oa), (4, .ref od), (5, .int ii)]) dL_law_1961 (by decide) rfl ?_
  refine rv_aload_n dL_law_1963 rfl 4 rfl ?_
  refine rv_callV (rest := []) (fl_tA (μ := μ) (ν := ν2) (ta := ta) (ad := ad) (bd := bd) (oa := oa) (od := od) (u := u2) (v := v) (ct_X9_thrown (lx_t ν2))) wm_L_137 wi_X9_thrown wl_X9_thrown wc_X9_thrown wz_X9 rfl np_X9_thrown ⟨lx_f (by omega), lx_s (by omega)⟩ ⟨rv_le rfl, rv_le rfl⟩ dL_law_1964 rfl (rv_le rfl) 28 rfl cl_X9 (fun v9 w9 h9 => ?_)
  obtain ⟨w8, ⟨rfl, rfl⟩, rfl⟩ := h9
  rw [ht]
  refine rv_ws (ws2 := lwA ta ad bd oa od μ ν2 u2 v) rfl ?_
  refine rv_iload dL_law_1967 1 rfl ?_
  refine rv_icmp_eq (tgt := 1974) dL_law_1969 (by decide) (fun _ => ?_) (fun hc => absurd rfl hc)
  refine rv_iload dL_law_1974 1 rfl ?_
  refine rv_if_ne (tgt := 1991) dL_law_1976 (by decide) (fun hk => ?_) (fun hk => ?_)
  · refine rv_goto (tgt := 2232) dL_law_1991 (by decide) ?_
    refine rv_sub [2, 3, 4, 5, 6, 7] rfl ?_
    exact kk h2 (by omega) (by omega)
  · have hu := hu hk
    refine rv_aload_n dL_law_1979 rfl 5 rfl ?_
    refine rv_iconst (v := 0) dL_law_1980 (by decide) ?_
    refine rv_lald dL_law_1981 2 rfl 1 rfl (rv_inP (by decide)) ?_
    refine rv_iload dL_law_1982 0 rfl ?_
    refine rv_i2l dL_law_1984 rfl ?_
    refine rv_lcmp dL_law_1985 ?_
    refine rv_if_eq (tgt := 1991) dL_law_1986 (by decide) (fun _ => ?_) (fun hc => absurd (lx_c hu) hc)
    refine rv_goto (tgt := 2232) dL_law_1991 (by decide) ?_
    refine rv_sub [2, 3, 4, 5, 6, 7] rfl ?_
    exact kk h2 (by omega) (by omega)
theorem lc_30 {l : Launch} {D : va_G} {ta : Nat → ClassId} {ad bd : Nat → Nat} {b L : Nat} {xs : Nat → Int32} {oa od : Nat} {hh : String × List ExceptionTableEntry} (hl9 : l.stackTraces = false) {μ ν : Mem} (h : Rel μ ν) {u : Nat → Int64} {v : Nat → UInt64} {ii : Int32} (i1 : vp_in (ii + 1) L) (i2 : vp_in (ii + 2) L) (i3 : vp_in (ii + 3) L) {cu su : Nat} (hcu : cu + 12 ≤ 603072) (hsu : su + 72 ≤ 7207018) (kk : ∀ {μ2 ν2 : Mem} {u2 : Nat → Int64} {v2 : Nat → UInt64} {cu2 su2 : Nat}, Rel μ2 ν2 → cu2 ≤ cu + 12 → su2 ≤ su + 72 → rv_V l D (rv_T ta) RL cL_law 9 (some .boolean) hh room_1 (rv_L b L xs) cu2 su2 (lwA ta ad bd oa od μ2 ν2 u2 v2) 2232 [(0, .ref b), (1, .ref (ad 0)), (2, .ref (bd 0)), (3, .ref oa), (4, .ref od), (5, .int ii)] []) : rv_V l D (rv_T ta) RL cL_law 9 (some .boolean) hh room_1 (rv_L b L xs) cu su (lwA ta ad bd oa od μ ν u v) 1994 [(0, .ref b), (1, .ref (ad 0)), (2, .ref (bd 0)), (3, .ref oa), (4, .ref od), (5, .int ii)] [] := by
  obtain ⟨o9, b9, ν2, k9, hx, hm, ht, h2, ha⟩ := eq_changedValue h (xs (Int32.toNatClampNeg (ii + 1)))
  refine rv_aload_n dL_law_1994 rfl 1 rfl ?_
  refine rv_aload_n dL_law_1995 rfl 0 rfl ?_
  refine rv_iload dL_law_1996 5 rfl ?_
  refine rv_iconst (v := 1) dL_law_1998 (by decide) ?_
  refine rv_iadd dL_law_1999 ?_
  refine rv_sld i1 dL_law_2000 ?_
  refine rv_aload_n dL_law_2001 rfl 3 rfl ?_
  refine rv_callW (rest := []) (fl_w (ν := ν) (w_changedValue hl9 hx ha oa u)) wm_L_232 ws_L_changedValue wcw_changedValue wz_L np_L_changedValue ⟨lx_f (by omega), lx_s (by omega)⟩ ⟨rv_le rfl, rv_le rfl⟩ dL_law_2002 rfl (rv_le rfl) (fun v9 w9 h9 => ?_)
  obtain ⟨w8, ⟨u2, rfl, rfl, hu⟩, rfl⟩ := h9
  refine rv_istore (lv2 := [(6, .int k9), (0, .ref b), (1, .ref (ad 0)), (2, .ref (bd 0)), (3, .ref oa), (4, .ref od), (5, .int ii)]) dL_law_2005 (by decide) rfl ?_
  refine rv_aload_n dL_law_2007 rfl 3 rfl ?_
  refine rv_aload_n dL_law_2008 rfl 1 rfl ?_
  refine rv_iload dL_law_2009 6 rfl ?_
  refine rv_iconst (v := 1) dL_law_2011 (by decide) ?_
  refine rv_iadd dL_law_2012 ?_
  refine rv_sld i1 dL_law_2013 ?_
  refine rv_callV (rest := []) (fl_mw (μ := μ) (ct_X9_changedValue hm)) wm_L_234 wi_X9_changedValue wl_X9_changedValue wc_X9_changedValue wz_X9 rfl np_X9_changedValue ⟨lx_f (by omega), lx_s (by omega)⟩ ⟨rv_le rfl, rv_le rfl⟩ dL_law_2014 rfl (rv_le rfl) 1 rfl cl_X9 (fun v9 w9 h9 => ?_)
  obtain ⟨w8, ⟨rfl, rfl⟩, rfl⟩ := h9
  refine rv_ws (ws2 := lwA ta ad bd oa od μ ν2 u2 v) rfl ?_
  refine rv_istore (lv2 := [(7, .int b9), (6, .int k9), (0, .ref b), (1, .ref (ad 0)), (2, .ref (bd 0)), (3, .ref oa), (4, .ref od), (5, .int ii)]) dL_law_2017 (by decide) rfl ?_
  refine rv_aload_n dL_law_2019 rfl 4 rfl ?_
  refine rv_callV (rest := []) (fl_tA (μ := μ) (ν := ν2) (ta := ta) (ad := ad) (bd := bd) (oa := oa) (od := od) (u := u2) (v := v) (ct_X9_thrown (lx_t ν2))) wm_L_137 wi_X9_thrown wl_X9_thrown wc_X9_thrown wz_X9 rfl np_X9_thrown ⟨lx_f (by omega), lx_s (by omega)⟩ ⟨rv_le rfl, rv_le rfl⟩ dL_law_2020 rfl (rv_le rfl) 28 rfl cl_X9 (fun v9 w9 h9 => ?_)
  obtain ⟨w8, ⟨rfl, rfl⟩, rfl⟩ := h9
  rw [ht]
  refine rv_ws (ws2 := lwA ta ad bd oa od μ ν2 u2 v) rfl ?_
  refine rv_iload dL_law_2023 1 rfl ?_
  refine rv_icmp_eq (tgt := 2030) dL_law_2025 (by decide) (fun _ => ?_) (fun hc => absurd rfl hc)
  refine rv_iload dL_law_2030 1 rfl ?_
  refine rv_if_ne (tgt := 2047) dL_law_2032 (by decide) (fun hk => ?_) (fun hk => ?_)
  · refine rv_goto (tgt := 2232) dL_law_2047 (by decide) ?_
    refine rv_sub [2, 3, 4, 5, 6, 7] rfl ?_
    exact kk h2 (by omega) (by omega)
  · have hu := hu hk
    refine rv_aload_n dL_law_2035 rfl 5 rfl ?_
    refine rv_iconst (v := 0) dL_law_2036 (by decide) ?_
    refine rv_lald dL_law_2037 2 rfl 1 rfl (rv_inP (by decide)) ?_
    refine rv_iload dL_law_2038 0 rfl ?_
    refine rv_i2l dL_law_2040 rfl ?_
    refine rv_lcmp dL_law_2041 ?_
    refine rv_if_eq (tgt := 2047) dL_law_2042 (by decide) (fun _ => ?_) (fun hc => absurd (lx_c hu) hc)
    refine rv_goto (tgt := 2232) dL_law_2047 (by decide) ?_
    refine rv_sub [2, 3, 4, 5, 6, 7] rfl ?_
    exact kk h2 (by omega) (by omega)
theorem lc_31 {l : Launch} {D : va_G} {ta : Nat → ClassId} {ad bd : Nat → Nat} {b L : Nat} {xs : Nat → Int32} {oa od : Nat} {hh : String × List ExceptionTableEntry} (hl9 : l.stackTraces = false) {μ ν : Mem} (h : Rel μ ν) {u : Nat → Int64} {v : Nat → UInt64} {ii : Int32} (i1 : vp_in (ii + 1) L) (i2 : vp_in (ii + 2) L) (i3 : vp_in (ii + 3) L) {cu su : Nat} (hcu : cu + 12 ≤ 603072) (hsu : su + 72 ≤ 7207018) (kk : ∀ {μ2 ν2 : Mem} {u2 : Nat → Int64} {v2 : Nat → UInt64} {cu2 su2 : Nat}, Rel μ2 ν2 → cu2 ≤ cu + 12 → su2 ≤ su + 72 → rv_V l D (rv_T ta) RL cL_law 9 (some .boolean) hh room_1 (rv_L b L xs) cu2 su2 (lwA ta ad bd oa od μ2 ν2 u2 v2) 2232 [(0, .ref b), (1, .ref (ad 0)), (2, .ref (bd 0)), (3, .ref oa), (4, .ref od), (5, .int ii)] []) : rv_V l D (rv_T ta) RL cL_law 9 (some .boolean) hh room_1 (rv_L b L xs) cu su (lwA ta ad bd oa od μ ν u v) 2050 [(0, .ref b), (1, .ref (ad 0)), (2, .ref (bd 0)), (3, .ref oa), (4, .ref od), (5, .int ii)] [] := by
  obtain ⟨r9, ν2, hx, hm, h2⟩ := eq_minutes h
  refine rv_aload_n dL_law_2050 rfl 1 rfl ?_
  refine rv_callV (rest := []) (fl_x (ν := ν) (u := u) (v := v) (oa := oa) (od := od) (ct_X8_minutes hx)) wm_L_235 wi_X8_minutes wl_X8_minutes wc_X8_minutes wz_X8 rfl np_X8_minutes ⟨lx_f (by omega), lx_s (by omega)⟩ ⟨rv_le rfl, rv_le rfl⟩ dL_law_2051 rfl (rv_le rfl) 2 rfl cl_X8 (fun v9 w9 h9 => ?_)
  obtain ⟨w8, ⟨rfl, rfl⟩, rfl⟩ := h9
  refine rv_aload_n dL_law_2054 rfl 2 rfl ?_
  refine rv_callV (rest := [.long r9]) (fl_mx (μ := μ) (ct_X9_minutes hm)) wm_L_239 wi_X9_minutes wl_X9_minutes wc_X9_minutes wz_X9 rfl np_X9_minutes ⟨lx_f (by omega), lx_s (by omega)⟩ ⟨rv_le rfl, rv_le rfl⟩ dL_law_2055 rfl (rv_le rfl) 2 rfl cl_X9 (fun v9 w9 h9 => ?_)
  obtain ⟨w8, ⟨rfl, rfl⟩, rfl⟩ := h9
  refine rv_ws (ws2 := lwA ta ad bd oa od μ ν2 u v) rfl ?_
  refine rv_lcmp dL_law_2058 ?_
  refine rv_if_eq (tgt := 2232) dL_law_2059 (by decide) (fun _ => ?_) (fun hc => absurd (lx_c rfl) hc)
  exact kk h2 (by omega) (by omega)
theorem lc_32 {l : Launch} {D : va_G} {ta : Nat → ClassId} {ad bd : Nat → Nat} {b L : Nat} {xs : Nat → Int32} {oa od : Nat} {hh : String × List ExceptionTableEntry} (hl9 : l.stackTraces = false) {μ ν : Mem} (h : Rel μ ν) {u : Nat → Int64} {v : Nat → UInt64} {ii : Int32} (i1 : vp_in (ii + 1) L) (i2 : vp_in (ii + 2) L) (i3 : vp_in (ii + 3) L) {cu su : Nat} (hcu : cu + 12 ≤ 603072) (hsu : su + 72 ≤ 7207018) (kk : ∀ {μ2 ν2 : Mem} {u2 : Nat → Int64} {v2 : Nat → UInt64} {cu2 su2 : Nat}, Rel μ2 ν2 → cu2 ≤ cu + 12 → su2 ≤ su + 72 → rv_V l D (rv_T ta) RL cL_law 9 (some .boolean) hh room_1 (rv_L b L xs) cu2 su2 (lwA ta ad bd oa od μ2 ν2 u2 v2) 2232 [(0, .ref b), (1, .ref (ad 0)), (2, .ref (bd 0)), (3, .ref oa), (4, .ref od), (5, .int ii)] []) : rv_V l D (rv_T ta) RL cL_law 9 (some .boolean) hh room_1 (rv_L b L xs) cu su (lwA ta ad bd oa od μ ν u v) 2064 [(0, .ref b), (1, .ref (ad 0)), (2, .ref (bd 0)), (3, .ref oa), (4, .ref od), (5, .int ii)] [] := by
  obtain ⟨o9, b9, ν2, k9, hx, hm, ht, h2, ha, hz9⟩ := eq_workShare h (xs (Int32.toNatClampNeg (ii + 1)))
  refine rv_aload_n dL_law_2064 rfl 1 rfl ?_
  refine rv_aload_n dL_law_2065 rfl 0 rfl ?_
  refine rv_iload dL_law_2066 5 rfl ?_
  refine rv_iconst (v := 1) dL_law_2068 (by decide) ?_
  refine rv_iadd dL_law_2069 ?_
  refine rv_sld i1 dL_law_2070 ?_
  refine rv_aload dL_law_2071 4 rfl ?_
  refine rv_callW (rest := []) (fl_d (ν := ν) (w_workShare hl9 hx ha (fun t ht9 => by rw [(rv_ans_r ha ht9).1]; exact hz9) od v)) wm_L_240 ws_L_workShare wcw_workShare wz_L np_L_workShare ⟨lx_f (by omega), lx_s (by omega)⟩ ⟨rv_le rfl, rv_le rfl⟩ dL_law_2073 rfl (rv_le rfl) (fun v9 w9 h9 => ?_)
  obtain ⟨w8, ⟨u2, rfl, rfl, hu⟩, rfl⟩ := h9
  refine rv_istore (lv2 := [(6, .int k9), (0, .ref b), (1, .ref (ad 0)), (2, .ref (bd 0)), (3, .ref oa), (4, .ref od), (5, .int ii)]) dL_law_2076 (by decide) rfl ?_
  refine rv_aload_n dL_law_2078 rfl 3 rfl ?_
  refine rv_aload_n dL_law_2079 rfl 1 rfl ?_
  refine rv_iload dL_law_2080 6 rfl ?_
  refine rv_iconst (v := 1) dL_law_2082 (by decide) ?_
  refine rv_iadd dL_law_2083 ?_
  refine rv_sld i1 dL_law_2084 ?_
  refine rv_callV (rest := []) (fl_md (μ := μ) (ct_X9_workShare hm)) wm_L_243 wi_X9_workShare wl_X9_workShare wc_X9_workShare wz_X9 rfl np_X9_workShare ⟨lx_f (by omega), lx_s (by omega)⟩ ⟨rv_le rfl, rv_le rfl⟩ dL_law_2085 rfl (rv_le rfl) 1 rfl cl_X9 (fun v9 w9 h9 => ?_)
  obtain ⟨w8, ⟨rfl, rfl⟩, rfl⟩ := h9
  refine rv_ws (ws2 := lwB ta ad bd oa od μ ν2 u u2) rfl ?_
  refine rv_fstore (lv2 := [(7, .float b9), (6, .int k9), (0, .ref b), (1, .ref (ad 0)), (2, .ref (bd 0)), (3, .ref oa), (4, .ref od), (5, .int ii)]) dL_law_2088 (by decide) rfl ?_
  refine rv_aload_n dL_law_2090 rfl 4 rfl ?_
  refine rv_callV (rest := []) (fl_tB (μ := μ) (ν := ν2) (ta := ta) (ad := ad) (bd := bd) (oa := oa) (od := od) (u := u) (v := u2) (ct_X9_thrown (lx_t ν2))) wm_L_137 wi_X9_thrown wl_X9_thrown wc_X9_thrown wz_X9 rfl np_X9_thrown ⟨lx_f (by omega), lx_s (by omega)⟩ ⟨rv_le rfl, rv_le rfl⟩ dL_law_2091 rfl (rv_le rfl) 28 rfl cl_X9 (fun v9 w9 h9 => ?_)
  obtain ⟨w8, ⟨rfl, rfl⟩, rfl⟩ := h9
  rw [ht]
  refine rv_ws (ws2 := lwB ta ad bd oa od μ ν2 u u2) rfl ?_
  refine rv_iload dL_law_2094 1 rfl ?_
  refine rv_icmp_eq (tgt := 2101) dL_law_2096 (by decide) (fun _ => ?_) (fun hc => absurd rfl hc)
  refine rv_iload dL_law_2101 1 rfl ?_
  refine rv_if_ne (tgt := 2139) dL_law_2103 (by decide) (fun hk => ?_) (fun hk => ?_)
  · refine rv_goto (tgt := 2232) dL_law_2139 (by decide) ?_
    refine rv_pick (ws2 := lwA ta ad bd oa od μ ν2 u u2) [1, 0, 2, 3, 4, 5, 6, 7, 8, 9, 10, 11, 12, 13, 14, 15, 16, 17, 18, 19, 20, 21, 22, 23, 24, 25, 26, 27, 28, 29, 30, 31, 32, 33, 34, 35, 36, 37, 38, 39, 40, 41, 42, 43] rfl rfl ?_
    refine rv_sub [2, 3, 4, 5, 6, 7] rfl ?_
    exact kk h2 (by omega) (by omega)
  · have hu := hu hk
    refine rv_aload dL_law_2106 6 rfl ?_
    refine rv_iconst (v := 0) dL_law_2108 (by decide) ?_
    refine rv_dald dL_law_2109 4 rfl 1 rfl (rv_inP (by decide)) ?_
    refine rv_fload dL_law_2110 0 rfl ?_
    refine rv_f2d dL_law_2112 (rv_nn64P hz9) ?_
    refine rv_dcmp dL_law_2113 ?_
    refine rv_if_eq (tgt := 2139) dL_law_2114 (by decide) (fun _ => ?_) (fun hc => absurd (by rw [show u2 (Int32.toNatClampNeg 0) = FP.f2d b9 from hu]; exact lx_d hz9 _) hc)
    refine rv_goto (tgt := 2232) dL_law_2139 (by decide) ?_
    refine rv_pick (ws2 := lwA ta ad bd oa od μ ν2 u u2) [1, 0, 2, 3, 4, 5, 6, 7, 8, 9, 10, 11, 12, 13, 14, 15, 16, 17, 18, 19, 20, 21, 22, 23, 24, 25, 26, 27, 28, 29, 30, 31, 32, 33, 34, 35, 36, 37, 38, 39, 40, 41, 42, 43] rfl rfl ?_
    refine rv_sub [2, 3, 4, 5, 6, 7] rfl ?_
    exact kk h2 (by omega) (by omega)
theorem lc_33 {l : Launch} {D : va_G} {ta : Nat → ClassId} {ad bd : Nat → Nat} {b L : Nat} {xs : Nat → Int32} {oa od : Nat} {hh : String × List ExceptionTableEntry} (hl9 : l.stackTraces = false) {μ ν : Mem} (h : Rel μ ν) {u : Nat → Int64} {v : Nat → UInt64} {ii : Int32} (i1 : vp_in (ii + 1) L) (i2 : vp_in (ii + 2) L) (i3 : vp_in (ii + 3) L) {cu su : Nat} (hcu : cu + 12 ≤ 603072) (hsu : su + 72 ≤ 7207018) (kk : ∀ {μ2 ν2 : Mem} {u2 : Nat → Int64} {v2 : Nat → UInt64} {cu2 su2 : Nat}, Rel μ2 ν2 → cu2 ≤ cu + 12 → su2 ≤ su + 72 → rv_V l D (rv_T ta) RL cL_law 9 (some .boolean) hh room_1 (rv_L b L xs) cu2 su2 (lwA ta ad bd oa od μ2 ν2 u2 v2) 2232 [(0, .ref b), (1, .ref (ad 0)), (2, .ref (bd 0)), (3, .ref oa), (4, .ref od), (5, .int ii)] []) : rv_V l D (rv_T ta) RL cL_law 9 (some .boolean) hh room_1 (rv_L b L xs) cu su (lwA ta ad bd oa od μ ν u v) 2142 [(0, .ref b), (1, .ref (ad 0)), (2, .ref (bd 0)), (3, .ref oa), (4, .ref od), (5, .int ii)] [] := by
  obtain ⟨o9, b9, ν2, k9, hx, hm, ht, h2, ha, hz9⟩ := eq_meanRest h (xs (Int32.toNatClampNeg (ii + 1)))
  refine rv_aload_n dL_law_2142 rfl 1 rfl ?_
  refine rv_aload_n dL_law_2143 rfl 0 rfl ?_
  refine rv_iload dL_law_2144 5 rfl ?_
  refine rv_iconst (v := 1) dL_law_2146 (by decide) ?_
  refine rv_iadd dL_law_2147 ?_
  refine rv_sld i1 dL_law_2148 ?_
  refine rv_aload dL_law_2149 4 rfl ?_
  refine rv_callW (rest := []) (fl_d (ν := ν) (w_meanRest hl9 hx ha od v)) wm_L_244 ws_L_meanRest wcw_meanRest wz_L np_L_meanRest ⟨lx_f (by omega), lx_s (by omega)⟩ ⟨rv_le rfl, rv_le rfl⟩ dL_law_2151 rfl (rv_le rfl) (fun v9 w9 h9 => ?_)
  obtain ⟨w8, ⟨u2, rfl, rfl, hu⟩, rfl⟩ := h9
  refine rv_istore (lv2 := [(6, .int k9), (0, .ref b), (1, .ref (ad 0)), (2, .ref (bd 0)), (3, .ref oa), (4, .ref od), (5, .int ii)]) dL_law_2154 (by decide) rfl ?_
  refine rv_aload_n dL_law_2156 rfl 3 rfl ?_
  refine rv_aload_n dL_law_2157 rfl 1 rfl ?_
  refine rv_iload dL_law_2158 6 rfl ?_
  refine rv_iconst (v := 1) dL_law_2160 (by decide) ?_
  refine rv_iadd dL_law_2161 ?_
  refine rv_sld i1 dL_law_2162 ?_
  refine rv_callV (rest := []) (fl_md (μ := μ) (ct_X9_meanRest hm)) wm_L_246 wi_X9_meanRest wl_X9_meanRest wc_X9_meanRest wz_X9 rfl np_X9_meanRest ⟨lx_f (by omega), lx_s (by omega)⟩ ⟨rv_le rfl, rv_le rfl⟩ dL_law_2163 rfl (rv_le rfl) 1 rfl cl_X9 (fun v9 w9 h9 => ?_)
  obtain ⟨w8, ⟨rfl, rfl⟩, rfl⟩ := h9
  refine rv_ws (ws2 := lwB ta ad bd oa od μ ν2 u u2) rfl ?_
  refine rv_dstore (lv2 := [(7, .double b9), (6, .int k9), (0, .ref b), (1, .ref (ad 0)), (2, .ref (bd 0)), (3, .ref oa), (4, .ref od), (5, .int ii)]) dL_law_2166 (by decide) rfl ?_
  refine rv_aload_n dL_law_2168 rfl 4 rfl ?_
  refine rv_callV (rest := []) (fl_tB (μ := μ) (ν := ν2) (ta := ta) (ad := ad) (bd := bd) (oa := oa) (od := od) (u := u) (v := u2) (ct_X9_thrown (lx_t ν2))) wm_L_137 wi_X9_thrown wl_X9_thrown wc_X9_thrown wz_X9 rfl np_X9_thrown ⟨lx_f (by omega), lx_s (by omega)⟩ ⟨rv_le rfl, rv_le rfl⟩ dL_law_2169 rfl (rv_le rfl) 28 rfl cl_X9 (fun v9 w9 h9 => ?_)
  obtain ⟨w8, ⟨rfl, rfl⟩, rfl⟩ := h9
  rw [ht]
  refine rv_ws (ws2 := lwB ta ad bd oa od μ ν2 u u2) rfl ?_
  refine rv_iload dL_law_2172 1 rfl ?_
  refine rv_icmp_eq (tgt := 2179) dL_law_2174 (by decide) (fun _ => ?_) (fun hc => absurd rfl hc)
  refine rv_iload dL_law_2179 1 rfl ?_
  refine rv_if_ne (tgt := 2216) dL_law_2181 (by decide) (fun hk => ?_) (fun hk => ?_)
  · refine rv_goto (tgt := 2232) dL_law_2216 (by decide) ?_
    refine rv_pick (ws2 := lwA ta ad bd oa od μ ν2 u u2) [1, 0, 2, 3, 4, 5, 6, 7, 8, 9, 10, 11, 12, 13, 14, 15, 16, 17, 18, 19, 20, 21, 22, 23, 24, 25, 26, 27, 28, 29, 30, 31, 32, 33, 34, 35, 36, 37, 38, 39, 40, 41, 42, 43] rfl rfl ?_
    refine rv_sub [2, 3, 4, 5, 6, 7] rfl ?_
    exact kk h2 (by omega) (by omega)
  · have hu := hu hk
    refine rv_aload dL_law_2184 6 rfl ?_
    refine rv_iconst (v := 0) dL_law_2186 (by decide) ?_
    refine rv_dald dL_law_2187 4 rfl 1 rfl (rv_inP (by decide)) ?_
    refine rv_dload dL_law_2188 0 rfl ?_
    refine rv_dcmp dL_law_2190 ?_
    refine rv_if_eq (tgt := 2216) dL_law_2191 (by decide) (fun _ => ?_) (fun hc => absurd (by rw [show u2 (Int32.toNatClampNeg 0) = b9 from hu]; exact lx_d (hz9 hk) _) hc)
    refine rv_goto (tgt := 2232) dL_law_2216 (by decide) ?_
    refine rv_pick (ws2 := lwA ta ad bd oa od μ ν2 u u2) [1, 0, 2, 3, 4, 5, 6, 7, 8, 9, 10, 11, 12, 13, 14, 15, 16, 17, 18, 19, 20, 21, 22, 23, 24, 25, 26, 27, 28, 29, 30, 31, 32, 33, 34, 35, 36, 37, 38, 39, 40, 41, 42, 43] rfl rfl ?_
    refine rv_sub [2, 3, 4, 5, 6, 7] rfl ?_
    exact kk h2 (by omega) (by omega)
theorem lc_34 {l : Launch} {D : va_G} {ta : Nat → ClassId} {ad bd : Nat → Nat} {b L : Nat} {xs : Nat → Int32} {oa od : Nat} {hh : String × List ExceptionTableEntry} (hl9 : l.stackTraces = false) {μ ν : Mem} (h : Rel μ ν) {u : Nat → Int64} {v : Nat → UInt64} {ii : Int32} (i1 : vp_in (ii + 1) L) (i2 : vp_in (ii + 2) L) (i3 : vp_in (ii + 3) L) {cu su : Nat} (hcu : cu + 12 ≤ 603072) (hsu : su + 72 ≤ 7207018) (kk : ∀ {μ2 ν2 : Mem} {u2 : Nat → Int64} {v2 : Nat → UInt64} {cu2 su2 : Nat}, Rel μ2 ν2 → cu2 ≤ cu + 12 → su2 ≤ su + 72 → rv_V l D (rv_T ta) RL cL_law 9 (some .boolean) hh room_1 (rv_L b L xs) cu2 su2 (lwA ta ad bd oa od μ2 ν2 u2 v2) 2232 [(0, .ref b), (1, .ref (ad 0)), (2, .ref (bd 0)), (3, .ref oa), (4, .ref od), (5, .int ii)] []) : rv_V l D (rv_T ta) RL cL_law 9 (some .boolean) hh room_1 (rv_L b L xs) cu su (lwA ta ad bd oa od μ ν u v) 2219 [(0, .ref b), (1, .ref (ad 0)), (2, .ref (bd 0)), (3, .ref oa), (4, .ref od), (5, .int ii)] [] := by
  obtain ⟨r9, μ2, ν2, hx, hm, h2⟩ := eq_isSound h
  refine rv_aload_n dL_law_2219 rfl 1 rfl ?_
  refine rv_callV (rest := []) (fl_x (ν := ν) (u := u) (v := v) (oa := oa) (od := od) (ct_X8_isSound hx)) wm_L_247 wi_X8_isSound wl_X8_isSound wc_X8_isSound wz_X8 rfl np_X8_isSound ⟨lx_f (by omega), lx_s (by omega)⟩ ⟨rv_le rfl, rv_le rfl⟩ dL_law_2220 rfl (rv_le rfl) 2 rfl cl_X8 (fun v9 w9 h9 => ?_)
  obtain ⟨w8, ⟨rfl, rfl⟩, rfl⟩ := h9
  refine rv_aload_n dL_law_2223 rfl 2 rfl ?_
  refine rv_callV (rest := [.int r9]) (fl_mx (μ := μ2) (ct_X9_isSound hm)) wm_L_251 wi_X9_isSound wl_X9_isSound wc_X9_isSound wz_X9 rfl np_X9_isSound ⟨lx_f (by omega), lx_s (by omega)⟩ ⟨rv_le rfl, rv_le rfl⟩ dL_law_2224 rfl (rv_le rfl) 2 rfl cl_X9 (fun v9 w9 h9 => ?_)
  obtain ⟨w8, ⟨rfl, rfl⟩, rfl⟩ := h9
  refine rv_ws (ws2 := lwA ta ad bd oa od μ2 ν2 u v) rfl ?_
  refine rv_icmp_eq (tgt := 2232) dL_law_2227 (by decide) (fun _ => ?_) (fun hc => absurd rfl hc)
  exact kk h2 (by omega) (by omega)
theorem lc_all {l : Launch} {D : va_G} {ta : Nat → ClassId} {ad bd : Nat → Nat} {b L : Nat} {xs : Nat → Int32} {oa od : Nat} {hh : String × List ExceptionTableEntry} (hl9 : l.stackTraces = false) {μ ν : Mem} (h : Rel μ ν) {u : Nat → Int64} {v : Nat → UInt64} {ii : Int32} (i1 : vp_in (ii + 1) L) (i2 : vp_in (ii + 2) L) (i3 : vp_in (ii + 3) L) {cu su : Nat} (hcu : cu + 12 ≤ 603072) (hsu : su + 72 ≤ 7207018) (kk : ∀ {μ2 ν2 : Mem} {u2 : Nat → Int64} {v2 : Nat → UInt64} {cu2 su2 : Nat}, Rel μ2 ν2 → cu2 ≤ cu + 12 → su2 ≤ su + 72 → rv_V l D (rv_T ta) RL cL_law 9 (some .boolean) hh room_1 (rv_L b L xs) cu2 su2 (lwA ta ad bd oa od μ2 ν2 u2 v2) 2232 [(0, .ref b), (1, .ref (ad 0)), (2, .ref (bd 0)), (3, .ref oa), (4, .ref od), (5, .int ii)] []) (x : Int32) : rv_V l D (rv_T ta) RL cL_law 9 (some .boolean) hh room_1 (rv_L b L xs) cu su (lwA ta ad bd oa od μ ν u v) 44 [(0, .ref b), (1, .ref (ad 0)), (2, .ref (bd 0)), (3, .ref oa), (4, .ref od), (5, .int ii)] [.int x] := by
  by_cases e0 : x = 0
  · exact rv_tabIn (off := 156) (tgt := 200) dL_law_44 0 e0 (by decide) (by decide) rfl (by decide) (lc_0 hl9 h i1 i2 i3 hcu hsu kk)
  by_cases e1 : x = 1
  · exact rv_tabIn (off := 200) (tgt := 244) dL_law_44 1 e1 (by decide) (by decide) rfl (by decide) (lc_1 hl9 h i1 i2 i3 hcu hsu kk)
  by_cases e2 : x = 2
  · exact rv_tabIn (off := 268) (tgt := 312) dL_law_44 2 e2 (by decide) (by decide) rfl (by decide) (lc_2 hl9 h i1 i2 i3 hcu hsu kk)
  by_cases e3 : x = 3
  · exact rv_tabIn (off := 331) (tgt := 375) dL_law_44 3 e3 (by decide) (by decide) rfl (by decide) (lc_3 hl9 h i1 i2 i3 hcu hsu kk)
  by_cases e4 : x = 4
  · exact rv_tabIn (off := 406) (tgt := 450) dL_law_44 4 e4 (by decide) (by decide) rfl (by decide) (lc_4 hl9 h i1 i2 i3 hcu hsu kk)
  by_cases e5 : x = 5
  · exact rv_tabIn (off := 462) (tgt := 506) dL_law_44 5 e5 (by decide) (by decide) rfl (by decide) (lc_5 hl9 h i1 i2 i3 hcu hsu kk)
  by_cases e6 : x = 6
  · exact rv_tabIn (off := 518) (tgt := 562) dL_law_44 6 e6 (by decide) (by decide) rfl (by decide) (lc_6 hl9 h i1 i2 i3 hcu hsu kk)
  by_cases e7 : x = 7
  · exact rv_tabIn (off := 574) (tgt := 618) dL_law_44 7 e7 (by decide) (by decide) rfl (by decide) (lc_7 hl9 h i1 i2 i3 hcu hsu kk)
  by_cases e8 : x = 8
  · exact rv_tabIn (off := 642) (tgt := 686) dL_law_44 8 e8 (by decide) (by decide) rfl (by decide) (lc_8 hl9 h i1 i2 i3 hcu hsu kk)
  by_cases e9 : x = 9
  · exact rv_tabIn (off := 722) (tgt := 766) dL_law_44 9 e9 (by decide) (by decide) rfl (by decide) (lc_9 hl9 h i1 i2 i3 hcu hsu kk)
  by_cases e10 : x = 10
  · exact rv_tabIn (off := 802) (tgt := 846) dL_law_44 10 e10 (by decide) (by decide) rfl (by decide) (lc_10 hl9 h i1 i2 i3 hcu hsu kk)
  by_cases e11 : x = 11
  · refine rv_tabIn (off := 870) (tgt := 914) dL_law_44 11 e11 (by decide) (by decide) rfl (by decide) ?_
    by_cases hz : xs (Int32.toNatClampNeg (ii + 3)) = 0
    · exact lc_11_0 hl9 h i1 i2 i3 hcu hsu kk hz
    · exact lc_11_1 hl9 h i1 i2 i3 hcu hsu kk hz
  by_cases e12 : x = 12
  · exact rv_tabIn (off := 973) (tgt := 1017) dL_law_44 12 e12 (by decide) (by decide) rfl (by decide) (lc_12 hl9 h i1 i2 i3 hcu hsu kk)
  by_cases e13 : x = 13
  · exact rv_tabIn (off := 1041) (tgt := 1085) dL_law_44 13 e13 (by decide) (by decide) rfl (by decide) (lc_13 hl9 h i1 i2 i3 hcu hsu kk)
  by_cases e14 : x = 14
  · exact rv_tabIn (off := 1109) (tgt := 1153) dL_law_44 14 e14 (by decide) (by decide) rfl (by decide) (lc_14 hl9 h i1 i2 i3 hcu hsu kk)
  by_cases e15 : x = 15
  · exact rv_tabIn (off := 1165) (tgt := 1209) dL_law_44 15 e15 (by decide) (by decide) rfl (by decide) (lc_15 hl9 h i1 i2 i3 hcu hsu kk)
  by_cases e16 : x = 16
  · exact rv_tabIn (off := 1221) (tgt := 1265) dL_law_44 16 e16 (by decide) (by decide) rfl (by decide) (lc_16 hl9 h i1 i2 i3 hcu hsu kk)
  by_cases e17 : x = 17
  · exact rv_tabIn (off := 1277) (tgt := 1321) dL_law_44 17 e17 (by decide) (by decide) rfl (by decide) (lc_17 hl9 h i1 i2 i3 hcu hsu kk)
  by_cases e18 : x = 18
  · exact rv_tabIn (off := 1333) (tgt := 1377) dL_law_44 18 e18 (by decide) (by decide) rfl (by decide) (lc_18 hl9 h i1 i2 i3 hcu hsu kk)
  by_cases e19 : x = 19
  · exact rv_tabIn (off := 1346) (tgt := 1390) dL_law_44 19 e19 (by decide) (by decide) rfl (by decide) (lc_19 hl9 h i1 i2 i3 hcu hsu kk)
  by_cases e20 : x = 20
  · exact rv_tabIn (off := 1402) (tgt := 1446) dL_law_44 20 e20 (by decide) (by decide) rfl (by decide) (lc_20 hl9 h i1 i2 i3 hcu hsu kk)
  by_cases e21 : x = 21
  · exact rv_tabIn (off := 1458) (tgt := 1502) dL_law_44 21 e21 (by decide) (by decide) rfl (by decide) (lc_21 hl9 h i1 i2 i3 hcu hsu kk)
  by_cases e22 : x = 22
  · exact rv_tabIn (off := 1514) (tgt := 1558) dL_law_44 22 e22 (by decide) (by decide) rfl (by decide) (lc_22 hl9 h i1 i2 i3 hcu hsu kk)
  by_cases e23 : x = 23
  · exact rv_tabIn (off := 1570) (tgt := 1614) dL_law_44 23 e23 (by decide) (by decide) rfl (by decide) (lc_23 hl9 h i1 i2 i3 hcu hsu kk)
  by_cases e24 : x = 24
  · exact rv_tabIn (off := 1614) (tgt := 1658) dL_law_44 24 e24 (by decide) (by decide) rfl (by decide) (lc_24 hl9 h i1 i2 i3 hcu hsu kk)
  by_cases e25 : x = 25
  · exact rv_tabIn (off := 1694) (tgt := 1738) dL_law_44 25 e25 (by decide) (by decide) rfl (by decide) (lc_25 hl9 h i1 i2 i3 hcu hsu kk)
  by_cases e26 : x = 26
  · exact rv_tabIn (off := 1762) (tgt := 1806) dL_law_44 26 e26 (by decide) (by decide) rfl (by decide) (lc_26 hl9 h i1 i2 i3 hcu hsu kk)
  by_cases e27 : x = 27
  · exact rv_tabIn (off := 1806) (tgt := 1850) dL_law_44 27 e27 (by decide) (by decide) rfl (by decide) (lc_27 hl9 h i1 i2 i3 hcu hsu kk)
  by_cases e28 : x = 28
  · exact rv_tabIn (off := 1850) (tgt := 1894) dL_law_44 28 e28 (by decide) (by decide) rfl (by decide) (lc_28 hl9 h i1 i2 i3 hcu hsu kk)
  by_cases e29 : x = 29
  · exact rv_tabIn (off := 1894) (tgt := 1938) dL_law_44 29 e29 (by decide) (by decide) rfl (by decide) (lc_29 hl9 h i1 i2 i3 hcu hsu kk)
  by_cases e30 : x = 30
  · exact rv_tabIn (off := 1950) (tgt := 1994) dL_law_44 30 e30 (by decide) (by decide) rfl (by decide) (lc_30 hl9 h i1 i2 i3 hcu hsu kk)
  by_cases e31 : x = 31
  · exact rv_tabIn (off := 2006) (tgt := 2050) dL_law_44 31 e31 (by decide) (by decide) rfl (by decide) (lc_31 hl9 h i1 i2 i3 hcu hsu kk)
  by_cases e32 : x = 32
  · exact rv_tabIn (off := 2020) (tgt := 2064) dL_law_44 32 e32 (by decide) (by decide) rfl (by decide) (lc_32 hl9 h i1 i2 i3 hcu hsu kk)
  by_cases e33 : x = 33
  · exact rv_tabIn (off := 2098) (tgt := 2142) dL_law_44 33 e33 (by decide) (by decide) rfl (by decide) (lc_33 hl9 h i1 i2 i3 hcu hsu kk)
  by_cases e34 : x = 34
  · exact rv_tabIn (off := 2175) (tgt := 2219) dL_law_44 34 e34 (by decide) (by decide) rfl (by decide) (lc_34 hl9 h i1 i2 i3 hcu hsu kk)
  refine rv_tabOut (tgt := 2232) dL_law_44 ?_ (by decide) (kk h (by omega) (by omega))
  have f0 := rv_icn e0
  have f1 := rv_icn e1
  have f2 := rv_icn e2
  have f3 := rv_icn e3
  have f4 := rv_icn e4
  have f5 := rv_icn e5
  have f6 := rv_icn e6
  have f7 := rv_icn e7
  have f8 := rv_icn e8
  have f9 := rv_icn e9
  have f10 := rv_icn e10
  have f11 := rv_icn e11
  have f12 := rv_icn e12
  have f13 := rv_icn e13
  have f14 := rv_icn e14
  have f15 := rv_icn e15
  have f16 := rv_icn e16
  have f17 := rv_icn e17
  have f18 := rv_icn e18
  have f19 := rv_icn e19
  have f20 := rv_icn e20
  have f21 := rv_icn e21
  have f22 := rv_icn e22
  have f23 := rv_icn e23
  have f24 := rv_icn e24
  have f25 := rv_icn e25
  have f26 := rv_icn e26
  have f27 := rv_icn e27
  have f28 := rv_icn e28
  have f29 := rv_icn e29
  have f30 := rv_icn e30
  have f31 := rv_icn e31
  have f32 := rv_icn e32
  have f33 := rv_icn e33
  have f34 := rv_icn e34
  clear kk
  simp only [show (0 : Int32).toInt = 0 from by decide, show (1 : Int32).toInt = 1 from by decide, show (2 : Int32).toInt = 2 from by decide, show (3 : Int32).toInt = 3 from by decide, show (4 : Int32).toInt = 4 from by decide, show (5 : Int32).toInt = 5 from by decide, show (6 : Int32).toInt = 6 from by decide, show (7 : Int32).toInt = 7 from by decide, show (8 : Int32).toInt = 8 from by decide, show (9 : Int32).toInt = 9 from by decide, show (10 : Int32).toInt = 10 from by decide, show (11 : Int32).toInt = 11 from by decide, show (12 : Int32).toInt = 12 from by decide, show (13 : Int32).toInt = 13 from by decide, show (14 : Int32).toInt = 14 from by decide, show (15 : Int32).toInt = 15 from by decide, show (16 : Int32).toInt = 16 from by decide, show (17 : Int32).toInt = 17 from by decide, show (18 : Int32).toInt = 18 from by decide, show (19 : Int32).toInt = 19 from by decide, show (20 : Int32).toInt = 20 from by decide, show (21 : Int32).toInt = 21 from by decide, show (22 : Int32).toInt = 22 from by decide, show (23 : Int32).toInt = 23 from by decide, show (24 : Int32).toInt = 24 from by decide, show (25 : Int32).toInt = 25 from by decide, show (26 : Int32).toInt = 26 from by decide, show (27 : Int32).toInt = 27 from by decide, show (28 : Int32).toInt = 28 from by decide, show (29 : Int32).toInt = 29 from by decide, show (30 : Int32).toInt = 30 from by decide, show (31 : Int32).toInt = 31 from by decide, show (32 : Int32).toInt = 32 from by decide, show (33 : Int32).toInt = 33 from by decide, show (34 : Int32).toInt = 34 from by decide] at *
  omega
