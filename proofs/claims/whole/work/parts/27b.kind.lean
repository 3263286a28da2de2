/-! breachKind: the text's letters -/
def rv_kc (k : Int32) : Int32 := if k = 0 then 97 else if k = 1 then 107 else if k = 2 then 114 else if k = 3 then 110 else if k = 4 then 119 else if k = 5 then 104 else 100
def f_X8_breachKind (μ : Mem) (x1 : Int32) : Option ((String ⊕ Int32) × Mem) := (f_X8_requireBreach μ x1).bind fun r1 => rv_thm r1.1 r1.2 fun t2 => (f_X8_kindOf t2).bind fun r3 => if 0 ≤ r3 ∧ r3 < 7 then some (.inr (rv_kc r3), r1.2) else some (.inr 32, r1.2)
theorem ct_X8_breachKind {l : Launch} {D : va_G} {ta : Nat → ClassId} {ad : Nat → Nat} {μ : Mem} {x1 : Int32} {r : (String ⊕ Int32) × Mem} (hl9 : l.stackTraces = false) (h : f_X8_breachKind μ x1 = some r) : rv_CX l D (rv_T ta) yX8_breachKind cX8_breachKind 3 (some .char) 6 4 24 [.ref (ad 0), .int x1] (wx ta ad μ) (rv_FX rv_vI r.1 (wx ta ad r.2)) (rv_GX r.1 (wx ta ad r.2)) := by
  sorry
