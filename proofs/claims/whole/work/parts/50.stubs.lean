/-! what is to be proved of the mirrored functions -/
theorem eq_addPerson {μ ν : Mem} (h : Rel μ ν) : ∃ (o : String ⊕ Int32) (μ2 : Mem) (b : Int32) (ν2 : Mem) (k : Int32), f_X8_addPerson μ = some (o, μ2) ∧ f_X9_addPerson ν = some (b, ν2) ∧ ν2.1 0 0 = k ∧ Rel μ2 ν2 ∧ rv_ans ["java/lang/IllegalStateException"] o b k := by
  sorry
theorem eq_addShift {μ ν : Mem} (h : Rel μ ν) (x1 x2 : Int32) : ∃ (o : String ⊕ Int32) (μ2 : Mem) (b : Int32) (ν2 : Mem) (k : Int32), f_X8_addShift μ x1 x2 = some (o, μ2) ∧ f_X9_addShift ν x1 x2 = some (b, ν2) ∧ ν2.1 0 0 = k ∧ Rel μ2 ν2 ∧ rv_ans ["java/lang/IllegalArgumentException", "java/lang/IllegalStateException"] o b k := by
  sorry
theorem eq_isNight {μ ν : Mem} (h : Rel μ ν) (x1 : Int32) : ∃ (o : String ⊕ Int32) (b : Int32) (ν2 : Mem) (k : Int32), f_X8_isNight μ x1 = some o ∧ f_X9_isNight ν x1 = some (b, ν2) ∧ ν2.1 0 0 = k ∧ Rel μ ν2 ∧ rv_ans ["java/util/NoSuchElementException"] o b k := by
  sorry
theorem eq_teach {μ ν : Mem} (h : Rel μ ν) (x1 x2 : Int32) : ∃ (o : String ⊕ Int32) (μ2 : Mem) (b : Int32) (ν2 : Mem) (k : Int32), f_X8_teach μ x1 x2 = some (o, μ2) ∧ f_X9_teach ν x1 x2 = some (b, ν2) ∧ ν2.1 0 0 = k ∧ Rel μ2 ν2 ∧ rv_ans ["java/lang/IndexOutOfBoundsException", "java/util/NoSuchElementException"] o b k := by
  sorry
theorem eq_setRest {μ ν : Mem} (h : Rel μ ν) (x1 : Int32) : ∃ (o : String ⊕ Int32) (μ2 : Mem) (b : Int32) (ν2 : Mem) (k : Int32), f_X8_setRest μ x1 = some (o, μ2) ∧ f_X9_setRest ν x1 = some (b, ν2) ∧ ν2.1 0 0 = k ∧ Rel μ2 ν2 ∧ rv_ans ["java/lang/IllegalArgumentException"] o b k := by
  sorry
theorem eq_setNights {μ ν : Mem} (h : Rel μ ν) (x1 : Int32) : ∃ (o : String ⊕ Int32) (μ2 : Mem) (b : Int32) (ν2 : Mem) (k : Int32), f_X8_setNights μ x1 = some (o, μ2) ∧ f_X9_setNights ν x1 = some (b, ν2) ∧ ν2.1 0 0 = k ∧ Rel μ2 ν2 ∧ rv_ans ["java/lang/IllegalArgumentException"] o b k := by
  sorry
theorem eq_setRun {μ ν : Mem} (h : Rel μ ν) (x1 : Int32) : ∃ (o : String ⊕ Int32) (μ2 : Mem) (b : Int32) (ν2 : Mem) (k : Int32), f_X8_setRun μ x1 = some (o, μ2) ∧ f_X9_setRun ν x1 = some (b, ν2) ∧ ν2.1 0 0 = k ∧ Rel μ2 ν2 ∧ rv_ans ["java/lang/IllegalArgumentException"] o b k := by
  sorry
theorem eq_setHours {μ ν : Mem} (h : Rel μ ν) (x1 x2 : Int32) : ∃ (o : String ⊕ Int32) (μ2 : Mem) (b : Int32) (ν2 : Mem) (k : Int32), f_X8_setHours μ x1 x2 = some (o, μ2) ∧ f_X9_setHours ν x1 x2 = some (b, ν2) ∧ ν2.1 0 0 = k ∧ Rel μ2 ν2 ∧ rv_ans ["java/lang/IllegalArgumentException"] o b k := by
  sorry
theorem eq_setDemand {μ ν : Mem} (h : Rel μ ν) (x1 x2 x3 : Int32) : ∃ (o : String ⊕ Int32) (μ2 : Mem) (b : Int32) (ν2 : Mem) (k : Int32), f_X8_setDemand μ x1 x2 x3 = some (o, μ2) ∧ f_X9_setDemand ν x1 x2 x3 = some (b, ν2) ∧ ν2.1 0 0 = k ∧ Rel μ2 ν2 ∧ rv_ans ["java/lang/IndexOutOfBoundsException", "java/util/NoSuchElementException", "java/lang/IllegalArgumentException"] o b k := by
  sorry
theorem eq_assign {μ ν : Mem} (h : Rel μ ν) (x1 x2 x3 : Int32) : ∃ (o : String ⊕ Int32) (μ2 : Mem) (b : Int32) (ν2 : Mem) (k : Int32), f_X8_assign μ x1 x2 x3 = some (o, μ2) ∧ f_X9_assign ν x1 x2 x3 = some (b, ν2) ∧ ν2.1 0 0 = k ∧ Rel μ2 ν2 ∧ rv_ans ["java/lang/IndexOutOfBoundsException", "java/util/NoSuchElementException"] o b k := by
  sorry
theorem eq_free {μ ν : Mem} (h : Rel μ ν) (x1 x2 : Int32) : ∃ (o : String ⊕ Int32) (μ2 : Mem) (b : Int32) (ν2 : Mem) (k : Int32), f_X8_free μ x1 x2 = some (o, μ2) ∧ f_X9_free ν x1 x2 = some (b, ν2) ∧ ν2.1 0 0 = k ∧ Rel μ2 ν2 ∧ rv_ans ["java/lang/IndexOutOfBoundsException", "java/lang/IllegalStateException"] o b k := by
  sorry
theorem eq_setAbsent {μ ν : Mem} (h : Rel μ ν) (x1 x2 x3 : Int32) : ∃ (o : String ⊕ Int32) (μ2 : Mem) (b : Int32) (ν2 : Mem) (k : Int32), f_X8_setAbsent μ x1 x2 x3 = some (o, μ2) ∧ f_X9_setAbsent ν x1 x2 x3 = some (b, ν2) ∧ ν2.1 0 0 = k ∧ Rel μ2 ν2 ∧ rv_ans ["java/lang/IndexOutOfBoundsException"] o b k := by
  sorry
theorem eq_shiftOf {μ ν : Mem} (h : Rel μ ν) (x1 x2 : Int32) : ∃ (o : String ⊕ Int32) (b : Int32) (ν2 : Mem) (k : Int32), f_X8_shiftOf μ x1 x2 = some o ∧ f_X9_shiftOf ν x1 x2 = some (b, ν2) ∧ ν2.1 0 0 = k ∧ Rel μ ν2 ∧ rv_ans ["java/lang/IndexOutOfBoundsException"] o b k := by
  sorry
theorem eq_restBefore {μ ν : Mem} (h : Rel μ ν) (x1 x2 : Int32) : ∃ (o : String ⊕ Int32) (b : Int32) (ν2 : Mem) (k : Int32), f_X8_restBefore μ x1 x2 = some o ∧ f_X9_restBefore ν x1 x2 = some (b, ν2) ∧ ν2.1 0 0 = k ∧ Rel μ ν2 ∧ rv_ans ["java/lang/IndexOutOfBoundsException", "java/util/NoSuchElementException"] o b k := by
  sorry
theorem eq_longestNights {μ ν : Mem} (h : Rel μ ν) (x1 : Int32) : ∃ (o : String ⊕ Int32) (b : Int32) (ν2 : Mem) (k : Int32), f_X8_longestNights μ x1 = some o ∧ f_X9_longestNights ν x1 = some (b, ν2) ∧ ν2.1 0 0 = k ∧ Rel μ ν2 ∧ rv_ans ["java/lang/IndexOutOfBoundsException"] o b k := by
  sorry
theorem eq_longestByRows {μ ν : Mem} (h : Rel μ ν) (x1 : Int32) : ∃ (o : String ⊕ Int32) (b : Int32) (ν2 : Mem) (k : Int32), f_X8_longestByRows μ x1 = some o ∧ f_X9_longestByRows ν x1 = some (b, ν2) ∧ ν2.1 0 0 = k ∧ Rel μ ν2 ∧ rv_ans ["java/lang/IndexOutOfBoundsException"] o b k := by
  sorry
theorem eq_peak {μ ν : Mem} (h : Rel μ ν) (x1 : Int32) : ∃ (o : String ⊕ Int32) (b : Int32) (ν2 : Mem) (k : Int32), f_X8_peak μ x1 = some o ∧ f_X9_peak ν x1 = some (b, ν2) ∧ ν2.1 0 0 = k ∧ Rel μ ν2 ∧ rv_ans ["java/lang/IndexOutOfBoundsException"] o b k := by
  sorry
theorem eq_peakByAdding {μ ν : Mem} (h : Rel μ ν) (x1 : Int32) : ∃ (o : String ⊕ Int32) (b : Int32) (ν2 : Mem) (k : Int32), f_X8_peakByAdding μ x1 = some o ∧ f_X9_peakByAdding ν x1 = some (b, ν2) ∧ ν2.1 0 0 = k ∧ Rel μ ν2 ∧ rv_ans ["java/lang/IndexOutOfBoundsException"] o b k := by
  sorry
theorem eq_breaches {μ ν : Mem} (h : Rel μ ν) : ∃ (r : Int32) (μ2 : Mem) (ν2 : Mem), f_X8_breaches μ = some (r, μ2) ∧ f_X9_breaches ν = some (r, ν2) ∧ Rel μ2 ν2 := by
  sorry
theorem eq_breachKind {μ ν : Mem} (h : Rel μ ν) (x1 : Int32) : ∃ (o : String ⊕ Int32) (μ2 : Mem) (b : Int32) (ν2 : Mem) (k : Int32), f_X8_breachKind μ x1 = some (o, μ2) ∧ f_X9_breachKind ν x1 = some (b, ν2) ∧ ν2.1 0 0 = k ∧ Rel μ2 ν2 ∧ rv_ans ["java/util/NoSuchElementException"] o b k := by
  sorry
theorem eq_breachPerson {μ ν : Mem} (h : Rel μ ν) (x1 : Int32) : ∃ (o : String ⊕ Int32) (μ2 : Mem) (b : Int32) (ν2 : Mem) (k : Int32), f_X8_breachPerson μ x1 = some (o, μ2) ∧ f_X9_breachPerson ν x1 = some (b, ν2) ∧ ν2.1 0 0 = k ∧ Rel μ2 ν2 ∧ rv_ans ["java/util/NoSuchElementException"] o b k := by
  sorry
theorem eq_breachDay {μ ν : Mem} (h : Rel μ ν) (x1 : Int32) : ∃ (o : String ⊕ Int32) (μ2 : Mem) (b : Int32) (ν2 : Mem) (k : Int32), f_X8_breachDay μ x1 = some (o, μ2) ∧ f_X9_breachDay ν x1 = some (b, ν2) ∧ ν2.1 0 0 = k ∧ Rel μ2 ν2 ∧ rv_ans ["java/util/NoSuchElementException"] o b k := by
  sorry
theorem eq_breachShift {μ ν : Mem} (h : Rel μ ν) (x1 : Int32) : ∃ (o : String ⊕ Int32) (μ2 : Mem) (b : Int32) (ν2 : Mem) (k : Int32), f_X8_breachShift μ x1 = some (o, μ2) ∧ f_X9_breachShift ν x1 = some (b, ν2) ∧ ν2.1 0 0 = k ∧ Rel μ2 ν2 ∧ rv_ans ["java/util/NoSuchElementException"] o b k := by
  sorry
theorem eq_mostBreaches {μ ν : Mem} (h : Rel μ ν) : ∃ (o : String ⊕ Int32) (μ2 : Mem) (b : Int32) (ν2 : Mem) (k : Int32), f_X8_mostBreaches μ = some (o, μ2) ∧ f_X9_mostBreaches ν = some (b, ν2) ∧ ν2.1 0 0 = k ∧ Rel μ2 ν2 ∧ rv_ans ["java/util/NoSuchElementException"] o b k := by
  sorry
theorem eq_swap {μ ν : Mem} (h : Rel μ ν) (x1 x2 x3 : Int32) : ∃ (o : String ⊕ Int32) (μ2 : Mem) (b : Int32) (ν2 : Mem) (k : Int32), f_X8_swap μ x1 x2 x3 = some (o, μ2) ∧ f_X9_swap ν x1 x2 x3 = some (b, ν2) ∧ ν2.1 0 0 = k ∧ Rel μ2 ν2 ∧ rv_ans ["java/lang/IndexOutOfBoundsException", "java/lang/IllegalArgumentException", "java/lang/UnsupportedOperationException"] o b k := by
  sorry
theorem eq_partner {μ ν : Mem} (h : Rel μ ν) (x1 x2 : Int32) : ∃ (o : String ⊕ Int32) (μ2 : Mem) (b : Int32) (ν2 : Mem) (k : Int32), f_X8_partner μ x1 x2 = some (o, μ2) ∧ f_X9_partner ν x1 x2 = some (b, ν2) ∧ ν2.1 0 0 = k ∧ Rel μ2 ν2 ∧ rv_ans ["java/lang/IndexOutOfBoundsException", "java/util/NoSuchElementException"] o b k := by
  sorry
theorem eq_leastChanges {μ ν : Mem} (h : Rel μ ν) : ∃ (o : String ⊕ Int32) (μ2 : Mem) (b : Int32) (ν2 : Mem) (k : Int32), f_X8_leastChanges μ = some (o, μ2) ∧ f_X9_leastChanges ν = some (b, ν2) ∧ ν2.1 0 0 = k ∧ Rel μ2 ν2 ∧ rv_ans ["java/util/NoSuchElementException"] o b k := by
  sorry
theorem eq_leastByTrial {μ ν : Mem} (h : Rel μ ν) : ∃ (o : String ⊕ Int32) (μ2 : Mem) (b : Int32) (ν2 : Mem) (k : Int32), f_X8_leastByTrial μ = some (o, μ2) ∧ f_X9_leastByTrial ν = some (b, ν2) ∧ ν2.1 0 0 = k ∧ Rel μ2 ν2 ∧ rv_ans ["java/util/NoSuchElementException"] o b k := by
  sorry
theorem eq_mend {μ ν : Mem} (h : Rel μ ν) : ∃ (o : String ⊕ Int32) (μ2 : Mem) (b : Int32) (ν2 : Mem) (k : Int32), f_X8_mend μ = some (o, μ2) ∧ f_X9_mend ν = some (b, ν2) ∧ ν2.1 0 0 = k ∧ Rel μ2 ν2 ∧ rv_ans ["java/util/NoSuchElementException"] o b k := by
  sorry
theorem eq_changedCell {μ ν : Mem} (h : Rel μ ν) (x1 : Int32) : ∃ (o : String ⊕ Int32) (b : Int32) (ν2 : Mem) (k : Int32), f_X8_changedCell μ x1 = some o ∧ f_X9_changedCell ν x1 = some (b, ν2) ∧ ν2.1 0 0 = k ∧ Rel μ ν2 ∧ rv_ans ["java/util/NoSuchElementException"] o b k := by
  sorry
theorem eq_changedValue {μ ν : Mem} (h : Rel μ ν) (x1 : Int32) : ∃ (o : String ⊕ Int32) (b : Int32) (ν2 : Mem) (k : Int32), f_X8_changedValue μ x1 = some o ∧ f_X9_changedValue ν x1 = some (b, ν2) ∧ ν2.1 0 0 = k ∧ Rel μ ν2 ∧ rv_ans ["java/util/NoSuchElementException"] o b k := by
  sorry
theorem eq_minutes {μ ν : Mem} (h : Rel μ ν) : ∃ (r : Int64) (ν2 : Mem), f_X8_minutes μ = some r ∧ f_X9_minutes ν = some (r, ν2) ∧ Rel μ ν2 := by
  sorry
theorem eq_workShare {μ ν : Mem} (h : Rel μ ν) (x1 : Int32) : ∃ (o : String ⊕ UInt32) (b : UInt32) (ν2 : Mem) (k : Int32), f_X8_workShare μ x1 = some o ∧ f_X9_workShare ν x1 = some (b, ν2) ∧ ν2.1 0 0 = k ∧ Rel μ ν2 ∧ rv_ans ["java/lang/IndexOutOfBoundsException"] o b k ∧ rv_nn64 (FP.f2d b) = true := by
  sorry
theorem eq_meanRest {μ ν : Mem} (h : Rel μ ν) (x1 : Int32) : ∃ (o : String ⊕ UInt64) (b : UInt64) (ν2 : Mem) (k : Int32), f_X8_meanRest μ x1 = some o ∧ f_X9_meanRest ν x1 = some (b, ν2) ∧ ν2.1 0 0 = k ∧ Rel μ ν2 ∧ rv_ans ["java/lang/IndexOutOfBoundsException", "java/lang/ArithmeticException"] o b k ∧ (k = 0 → rv_nn64 b = true) := by
  sorry
theorem eq_isSound {μ ν : Mem} (h : Rel μ ν) : ∃ (r : Int32) (μ2 : Mem) (ν2 : Mem), f_X8_isSound μ = some (r, μ2) ∧ f_X9_isSound ν = some (r, ν2) ∧ Rel μ2 ν2 := by
  sorry
theorem rel0 : Rel mu0 nu0 := by
  sorry
