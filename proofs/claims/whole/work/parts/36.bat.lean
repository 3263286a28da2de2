/-! the class: the breach with a number -/
theorem cnt_find {f : Nat → Bool} {n : Nat} : ∀ m, n < cnt f m → ∃ t, t < m ∧ f t = true ∧ cnt f t = n
  | 0, h => by rw [cnt_0] at h; omega
  | m + 1, h => by
    rw [cnt_succ] at h
    by_cases h1 : n < cnt f m
    · obtain ⟨t, ht, hf, hc⟩ := cnt_find m h1
      exact ⟨t, by omega, hf, hc⟩
    · by_cases h2 : f m = true
      · rw [if_pos h2] at h
        exact ⟨m, by omega, h2, by omega⟩
      · rw [if_neg h2] at h
        omega
theorem cnt_mono (f : Nat → Bool) {m n : Nat} (h : m ≤ n) : cnt f m ≤ cnt f n := by
  obtain ⟨k, rfl⟩ := Nat.exists_eq_add_of_le h
  rw [cnt_app]
  exact Nat.le_add_right _ _
theorem cnt_uniq {f : Nat → Bool} {s t : Nat} (hs : f s = true) (ht : f t = true) (h : cnt f s = cnt f t) : s = t := by
  rcases Nat.lt_trichotomy s t with h1 | h1 | h1
  · have h2 := cnt_mono f (show s + 1 ≤ t by omega)
    rw [cnt_succ, if_pos hs] at h2
    omega
  · exact h1
  · have h2 := cnt_mono f (show t + 1 ≤ s by omega)
    rw [cnt_succ, if_pos ht] at h2
    omega
theorem x_bit {x : Int32} {f : Nat → Bool} (hx : B32 x f) {c : Nat} (hc : c < 32) : ((((x.toUInt32 >>> (Int32.toUInt32 (nI c) &&& Int32.toUInt32 31)).toInt32) &&& 1) = 1) ↔ f c = true := by
  have e : ∀ c, c < 32 → (((Int32.toUInt32 (nI c) &&& Int32.toUInt32 31).toBitVec % 32).toNat) = c := by decide +kernel
  have h1 : t32 (((x.toUInt32 >>> (Int32.toUInt32 (nI c) &&& Int32.toUInt32 31)).toInt32) &&& 1) = (t32 x >>> c) % 2 := by
    rw [t32_and, t32_shr x (e c hc), show t32 1 = 2 ^ 1 - 1 by decide, Nat.and_two_pow_sub_one_eq_mod]
  have h2 : f c = (t32 x).testBit c := (B32_tb hx c hc).symm
  rw [h2, Nat.testBit_eq_decide_div_mod_eq, ← Nat.shiftRight_eq_div_pow]
  constructor
  · intro h
    have := congrArg t32 h
    rw [h1, show t32 1 = 1 by decide] at this
    exact decide_eq_true this
  · intro h
    have := of_decide_eq_true h
    exact t32_inj (by rw [h1, this]; decide)
theorem x_placeOfBit {x : Int32} {f : Nat → Bool} (hx : B32 x f) {n : Nat} (hn : n < 2147483648) (res : Option Int32) (hy : ∀ i, i < 24 → f i = true → cnt f i = n → res = some (nI i)) (hno : cnt f 24 ≤ n → res = some (-1)) : f_X2_placeOfBit x (nI n) = res := by
  unfold f_X2_placeOfBit
  rw [rv_seal]
  have key := lp (B_X2_placeOfBit_4 x) (fun _ _ => none) (σ := Nat) (fun i g => g (nI (n - cnt f i)) (nI i)) (fun i s => s = i ∧ cnt f i ≤ n) (fun r => r = res) 24 ?_ ?_ 300 0 0 (by omega) (by omega) ⟨rfl, by rw [cnt_0]; omega⟩
  · rw [cnt_0] at key
    exact key
  · rintro i s hi ⟨rfl, hc⟩
    have hs := cnt_succ f s
    have go : ∀ L, B_X2_placeOfBit_4 x L (nI (n - cnt f s)) (nI s) = if f s = true then (if cnt f s = n then some (nI s) else L (nI (n - cnt f (s + 1))) (nI (s + 1))) else L (nI (n - cnt f (s + 1))) (nI (s + 1)) := by
      intro L
      unfold B_X2_placeOfBit_4
      rw [if_neg (by rw [y24, zI_n, zI_le (by omega) (by omega) (by omega) (by omega)]; omega), nI_1]
      by_cases hf : f s = true
      · rw [if_pos ((x_bit hx (by omega)).mpr hf), if_pos hf]
        rw [if_pos hf] at hs
        by_cases he : cnt f s = n
        · rw [if_pos he, if_pos (by rw [he, Nat.sub_self]; rfl)]
        · rw [if_neg he, if_neg (by rw [y0, zI_n, zI_eq (by omega) (by omega) (by omega) (by omega)]; omega)]
          have e9 : nI (n - cnt f s) + (-1) = nI (n - cnt f (s + 1)) := by
            rw [show n - cnt f s = (n - cnt f (s + 1)) + 1 by omega]
            exact pk_m1 _
          rw [e9]
      · rw [if_neg (fun q => hf ((x_bit hx (by omega)).mp q)), if_neg hf]
        rw [if_neg hf] at hs
        rw [hs]
        rfl
    by_cases hf : f s = true
    · by_cases he : cnt f s = n
      · refine .inl fun L => ?_
        show B_X2_placeOfBit_4 x L _ _ = res
        rw [go L, if_pos hf, if_pos he, hy s hi hf he]
      · refine .inr ⟨s + 1, ⟨rfl, by rw [hs, if_pos hf]; omega⟩, fun L => ?_⟩
        show B_X2_placeOfBit_4 x L _ _ = _
        rw [go L, if_pos hf, if_neg he]
    · refine .inr ⟨s + 1, ⟨rfl, by rw [hs, if_neg hf]; omega⟩, fun L => ?_⟩
      show B_X2_placeOfBit_4 x L _ _ = _
      rw [go L, if_neg hf]
  · rintro s ⟨rfl, hc⟩ L
    show B_X2_placeOfBit_4 x L _ _ = res
    unfold B_X2_placeOfBit_4
    rw [if_pos (by decide), hno hc]
/-- a breach as the class packs it -/
def pk (t : Nat) : Nat := if t < 192 then (((t / 32) * 5 + t / 8 % 4 + 1) * 8 + t % 8) * 4 else (240 + (t - 192) / 3) * 4 + (t - 192) % 3 + 1
theorem x_breachOf {k p d : Nat} : f_X8_breachOf (nI k) (nI p) (nI d) (-1) = some (nI (((k * 5 + p + 1) * 8 + d) * 4)) := by
  unfold f_X8_breachOf
  rw [zI_n, zI_n, zI_n, zI_n, zm1, y5, y1, y8, y4]
  simp only [zI_mul, zI_add]
  congr 2
  omega
theorem rw8 : ∀ k, k < 6 → ((Int32.toInt64 (nI k * 8)).toUInt64 &&& Int64.toUInt64 63).toBitVec.toNat % 64 = 8 * k := by decide +kernel
theorem x_daysOf {q : Nat} {a : AS} {μ : Mem} (h : FD q a μ) {k p : Nat} (hk : k < 6) (hp : p < 4) : ∃ x, f_X2_daysOf q μ (nI k) (nI p) = some x ∧ B32 x (fun i => decide (i < 8) && brk a k p i) := by
  unfold f_X2_daysOf
  rw [if_neg (by rw [y0, zI_n, zI_lt (by omega) (by omega) (by omega) (by omega)]; omega), if_neg (by rw [y4, zI_n, zI_le (by omega) (by omega) (by omega) (by omega)]; omega), if_pos (by rw [zI_n, zI_in (by omega) (by omega)]; exact decide_eq_true (by omega)), nI_clamp (by omega)]
  refine ⟨_, rfl, fun i hi => ?_⟩
  have e255 : ∀ i, i < 32 → (255 : Int32).toBitVec.getLsbD i = decide (i < 8) := by decide +kernel
  rw [Int32.toBitVec_and, BitVec.getLsbD_and, e255 i hi, Int64.toBitVec_toInt32, BitVec.signExtend_eq_setWidth_of_le _ (by decide), BitVec.getLsbD_setWidth]
  rw [show ((((μ.2 (q + 1) p).toUInt64 >>> ((Int32.toInt64 (nI k * 8)).toUInt64 &&& Int64.toUInt64 63)).toInt64)).toBitVec = (μ.2 (q + 1) p).toBitVec >>> (((Int32.toInt64 (nI k * 8)).toUInt64 &&& Int64.toUInt64 63).toBitVec.toNat % 64) from rfl, rw8 k hk, BitVec.getLsbD_ushiftRight]
  by_cases h8 : i < 8
  · rw [h.1 p hp (8 * k + i) (by omega), decide_eq_true h8, decide_eq_true hi]
    unfold rwb
    rw [decide_eq_true (by omega), show (8 * k + i) / 8 = k by omega, show (8 * k + i) % 8 = i by omega]
    simp [h8]
  · rw [decide_eq_false h8]
    simp [h8]
