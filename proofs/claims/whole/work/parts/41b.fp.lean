/-! floating numbers: what is no NaN -/
def okD (d : FP.Core.Datum) : Prop := match d with
  | .nan => False
  | .inf _ => True
  | .fin _ c q => c < 2 ^ 53 ∧ q ≤ FP.Core.b64.qmax
theorem fp_bound (s : Bool) {c : Nat} (q : Int) (hc : c < 2 ^ 53) : okD (FP.Core.bound FP.Core.b64 s c q) := by
  unfold FP.Core.bound
  split
  · rename_i h
    exact ⟨hc, h⟩
  · trivial
theorem fp_settle (s : Bool) (c : Nat) (q : Int) : okD (FP.Core.settle FP.Core.b64 s c q) := by
  unfold FP.Core.settle
  split
  · rename_i h
    exact fp_bound s q h
  · exact fp_bound s _ (by decide)
theorem fp_rr (s : Bool) (num den : Nat) (e : Int) : okD (FP.Core.roundRatio FP.Core.b64 s num den e) := by
  unfold FP.Core.roundRatio
  split
  · exact ⟨by decide, by decide⟩
  · exact fp_settle _ _ _
theorem fp_enc {d : FP.Core.Datum} (h : okD d) : FP.Core.encode FP.Core.b64 d < 2 ^ 64 ∧ FP.Core.encode FP.Core.b64 d % 2 ^ 63 ≤ 9218868437227405312 := by
  cases d with
  | nan => exact h.elim
  | inf s => cases s <;> decide
  | fin s c q =>
    obtain ⟨h1, h2⟩ := h
    have e1 : FP.Core.b64.tails = 4503599627370496 := by decide
    have e2 : FP.Core.b64.exps = 2048 := by decide
    have e3 : FP.Core.b64.qmax = 971 := by decide
    have e4 : FP.Core.b64.qmin = -1074 := by decide
    have es : s.toNat ≤ 1 := by cases s <;> decide
    rw [e3] at h2
    unfold FP.Core.encode FP.Core.assemble
    simp only [e1, e2, e4]
    split
    · omega
    · have h3 : (q - -1074).toNat + 1 ≤ 2046 := by omega
      generalize (q - -1074).toNat + 1 = E at *
      omega
theorem fp_mask {n : Nat} (hn : n < 2 ^ 64) (h : n % 2 ^ 63 ≤ 9218868437227405312) : rv_nn64 (UInt64.ofNat n) = true := by
  unfold rv_nn64
  refine decide_eq_true ?_
  rw [UInt64.le_iff_toNat_le, UInt64.toNat_and]
  have e1 : (UInt64.ofNat n).toNat = n := by
    rw [UInt64.toNat_ofNat']
    exact Nat.mod_eq_of_lt hn
  have e2 : (0x7fffffffffffffff : UInt64).toNat = 2 ^ 63 - 1 := by decide
  have e3 : (0x7ff0000000000000 : UInt64).toNat = 9218868437227405312 := by decide
  rw [e1, e2, e3, Nat.and_two_pow_sub_one_eq_mod]
  exact h
theorem fp_dec {n : Nat} (h : n % 2 ^ 63 ≤ 9218868437227405312) : FP.Core.decode FP.Core.b64 n ≠ .nan := by
  have e1 : FP.Core.b64.tails = 4503599627370496 := by decide
  have e2 : FP.Core.b64.exps = 2048 := by decide
  unfold FP.Core.decode FP.Core.fieldE FP.Core.fieldT
  simp only [e1, e2]
  split
  · split
    · exact fun q => by cases q
    · omega
  · split
    · exact fun q => by cases q
    · exact fun q => by cases q
theorem fp_i2d (x : Int32) : (FP.i2d x).toNat % 2 ^ 63 ≤ 9218868437227405312 := by
  have h := fp_enc (fp_rr (decide (x.toInt < 0)) x.toInt.natAbs 1 0)
  have e : (FP.i2d x).toNat = FP.Core.encode FP.Core.b64 (FP.Core.roundRatio FP.Core.b64 (decide (x.toInt < 0)) x.toInt.natAbs 1 0) % 2 ^ 64 := by
    show (UInt64.ofNat _).toNat = _
    rw [UInt64.toNat_ofNat']
    rfl
  rw [e, Nat.mod_eq_of_lt h.1]
  exact h.2
def finNZ (d : FP.Core.Datum) : Bool := match d with
  | .nan => false
  | .inf _ => false
  | .fin _ c _ => decide (c ≠ 0)
theorem fp_y : ∀ y, y < 9 → y ≠ 0 → finNZ (FP.Core.decode FP.Core.b64 (FP.i2d (nI y)).toNat) = true := by decide +kernel
theorem fp_ddiv (x : Int32) {y : Nat} (hy : y < 9) (h0 : y ≠ 0) : rv_nn64 (FP.ddiv (FP.i2d x) (FP.i2d (nI y))) = true := by
  have hx := fp_dec (fp_i2d x)
  have hz := fp_y y hy h0
  have hq : okD (FP.Core.quotient FP.Core.b64 (FP.Core.decode FP.Core.b64 (FP.i2d x).toNat) (FP.Core.decode FP.Core.b64 (FP.i2d (nI y)).toNat)) := by
    generalize FP.Core.decode FP.Core.b64 (FP.i2d x).toNat = A at *
    generalize FP.Core.decode FP.Core.b64 (FP.i2d (nI y)).toNat = B at *
    cases B with
    | nan => cases hz
    | inf s => cases hz
    | fin t d r =>
      have hd : d ≠ 0 := of_decide_eq_true hz
      cases A with
      | nan => exact absurd rfl hx
      | inf s => trivial
      | fin s c q =>
        show okD (if d = 0 then (if c = 0 then .nan else .inf (s != t)) else FP.Core.roundRatio FP.Core.b64 (s != t) c d (q - r))
        rw [if_neg hd]
        exact fp_rr _ _ _ _
  have h := fp_enc hq
  exact fp_mask h.1 h.2
theorem fp_share : ∀ n, n < 9 → rv_nn32 (FP.fdiv (FP.i2f (nI n)) 1090519040) = true ∧ rv_nn64 (FP.f2d (FP.fdiv (FP.i2f (nI n)) 1090519040)) = true := by decide +kernel
