/-! the class: the breach with a number, looked up -/
theorem cnt_days (a : AS) (k p : Nat) : cnt (fun i => decide (i < 8) && brk a k p i) 8 = cnt (brk a k p) 8 := cnt_ext 8 (fun i hi => by rw [decide_eq_true hi]; rfl)
theorem cnt_days24 (a : AS) (k p : Nat) : cnt (fun i => decide (i < 8) && brk a k p i) 24 = cnt (brk a k p) 8 := by
  rw [← cnt_days]
  exact cnt_no (f := fun i => decide (i < 8) && brk a k p i) (m := 8) (fun i hi => by rw [decide_eq_false (by omega)]; rfl) 16
theorem cnt_days32 (a : AS) (k p : Nat) : cnt (fun i => decide (i < 8) && brk a k p i) 32 = cnt (brk a k p) 8 := by
  rw [← cnt_days]
  exact cnt_no (f := fun i => decide (i < 8) && brk a k p i) (m := 8) (fun i hi => by rw [decide_eq_false (by omega)]; rfl) 24
theorem cnt_blk (a : AS) {k p : Nat} (hk : k < 6) (hp : p < 4) : cnt (bt a) (32 * k + 8 * (p + 1)) = cnt (bt a) (32 * k + 8 * p) + cnt (brk a k p) 8 := by
  rw [← cnt_k a hk hp (Nat.le_refl 8)]
  congr 1
theorem x_ba19 {q : Nat} {a : AS} {μ : Mem} (h : FD q a μ) {n : Nat} (hn : n < 2147483648) (res : Option Int32) (hy : ∀ t, t < 216 → bt a t = true → cnt (bt a) t = n → res = some (nI (pk t))) {k : Nat} (hk : k < 6) (h0 : cnt (bt a) (32 * k) ≤ n) (L : Int32 → Int32 → Option Int32) :
    (n < cnt (bt a) (32 * (k + 1)) ∧ rv_ls (B_X2_breachAt_19 q μ (nI k) L) (fun _ _ => none) 300 (nI (n - cnt (bt a) (32 * k))) (nI 0) = res) ∨ (cnt (bt a) (32 * (k + 1)) ≤ n ∧ rv_ls (B_X2_breachAt_19 q μ (nI k) L) (fun _ _ => none) 300 (nI (n - cnt (bt a) (32 * k))) (nI 0) = L (nI (n - cnt (bt a) (32 * (k + 1)))) (nI (k + 1))) := by
  have e4 : 32 * k + 8 * 4 = 32 * (k + 1) := by omega
  have key := lp (B_X2_breachAt_19 q μ (nI k) L) (fun _ _ => none) (σ := Nat) (fun p g => g (nI (n - cnt (bt a) (32 * k + 8 * p))) (nI p)) (fun i s => s = i ∧ cnt (bt a) (32 * k + 8 * i) ≤ n) (fun r => (n < cnt (bt a) (32 * (k + 1)) ∧ r = res) ∨ (cnt (bt a) (32 * (k + 1)) ≤ n ∧ r = L (nI (n - cnt (bt a) (32 * (k + 1)))) (nI (k + 1)))) 4 ?_ ?_ 300 0 0 (by omega) (by omega) ⟨rfl, h0⟩
  · exact key
  · rintro i s hi ⟨rfl, hc⟩
    have hb := cnt_blk a hk hi
    obtain ⟨x, ex, bx⟩ := x_daysOf h hk hi
    have hmono := cnt_mono (bt a) (show 32 * k + 8 * (s + 1) ≤ 32 * (k + 1) by omega)
    have hc2 := cnt_le (bt a) (32 * k + 8 * s)
    have hc3 := cnt_le (brk a k s) 8
    have ep := x_pop32 bx
    rw [cnt_days32] at ep
    by_cases hd : cnt (bt a) (32 * k + 8 * (s + 1)) ≤ n
    · refine .inr ⟨s + 1, ⟨rfl, hd⟩, fun L2 => ?_⟩
      show B_X2_breachAt_19 q μ (nI k) L L2 _ _ = _
      unfold B_X2_breachAt_19
      rw [if_neg (by rw [y4, zI_n, zI_le (by omega) (by omega) (by omega) (by omega)]; omega), ex, sb, ep, sb, if_pos (by rw [nI_leI (by omega) (by omega)]; omega), sb, nI_1, q_sub (by omega)]
      rw [show n - cnt (bt a) (32 * k + 8 * s) - cnt (brk a k s) 8 = n - cnt (bt a) (32 * k + 8 * (s + 1)) by omega]
    · refine .inl fun L2 => .inl ⟨by omega, ?_⟩
      show B_X2_breachAt_19 q μ (nI k) L L2 _ _ = _
      unfold B_X2_breachAt_19
      rw [if_neg (by rw [y4, zI_n, zI_le (by omega) (by omega) (by omega) (by omega)]; omega), ex, sb, ep, sb, if_neg (by rw [nI_leI (by omega) (by omega)]; omega)]
      obtain ⟨d, hd8, hbd, hcd⟩ := cnt_find (f := brk a k s) (n := n - cnt (bt a) (32 * k + 8 * s)) 8 (by omega)
      have hcf : cnt (fun i => decide (i < 8) && brk a k s i) d = n - cnt (bt a) (32 * k + 8 * s) := by
        rw [← hcd]
        exact cnt_ext d (fun i hi => by rw [decide_eq_true (by omega)]; rfl)
      rw [x_placeOfBit bx (by omega) (some (nI d)) (fun i hi hf hci => by rw [cnt_uniq (f := fun i => decide (i < 8) && brk a k s i) (by rw [decide_eq_true hd8, hbd]; rfl) hf (hcf.trans hci.symm)]) (fun hle => by rw [cnt_days24] at hle; omega), sb, x_breachOf, sb]
      have ht := bt_k (a := a) hk hi hd8
      have hct := cnt_k a hk hi (show d ≤ 8 by omega)
      rw [hy (32 * k + 8 * s + d) (by omega) (by rw [ht, hbd]) (by omega)]
      congr 2
      unfold pk
      rw [if_pos (by omega), show (32 * k + 8 * s + d) / 32 = k by omega, show (32 * k + 8 * s + d) / 8 % 4 = s by omega, show (32 * k + 8 * s + d) % 8 = d by omega]
  · rintro s ⟨rfl, hc⟩ L2
    rw [e4] at hc
    refine .inr ⟨hc, ?_⟩
    show B_X2_breachAt_19 q μ (nI k) L L2 _ _ = _
    unfold B_X2_breachAt_19
    rw [if_pos (by decide), e4, nI_1]
theorem brD : ∀ i, i < 24 → f_X8_breachOf 6 (-1) (nI i / 3) (nI i - nI i / 3 * 3) = some (nI (pk (192 + i))) := by decide +kernel
theorem x_breachAt {q : Nat} {a : AS} {μ : Mem} (h : FD q a μ) {n : Nat} (hn : n < 2147483648) (res : Option Int32) (hy : ∀ t, t < 216 → bt a t = true → cnt (bt a) t = n → res = some (nI (pk t))) (hno : nB a ≤ n → res = some (-1)) : f_X2_breachAt q μ (nI n) = res := by
  unfold f_X2_breachAt
  rw [if_pos (by rw [y0, zI_n, zI_le (by omega) (by omega) (by omega) (by omega)]; omega), rv_seal]
  have key := lp (B_X2_breachAt_10 q μ) (fun _ _ => none) (σ := Nat) (fun k g => g (nI (n - cnt (bt a) (32 * k))) (nI k)) (fun i s => s = i ∧ cnt (bt a) (32 * i) ≤ n) (fun r => r = res) 6 ?_ ?_ 300 0 0 (by omega) (by omega) ⟨rfl, by rw [show 32 * 0 = 0 from rfl, cnt_0]; omega⟩
  · rw [show 32 * 0 = 0 from rfl, cnt_0] at key
    exact key
  · rintro i s hi ⟨rfl, hc⟩
    by_cases hlt : n < cnt (bt a) (32 * (s + 1))
    · refine .inl fun L => ?_
      show B_X2_breachAt_10 q μ L _ _ = _
      unfold B_X2_breachAt_10
      rw [if_neg (by rw [y6, zI_n, zI_le (by omega) (by omega) (by omega) (by omega)]; omega), rv_seal]
      rcases x_ba19 h hn res hy hi hc L with hr | hr
      · exact hr.2
      · omega
    · refine .inr ⟨s + 1, ⟨rfl, by omega⟩, fun L => ?_⟩
      show B_X2_breachAt_10 q μ L _ _ = _
      unfold B_X2_breachAt_10
      rw [if_neg (by rw [y6, zI_n, zI_le (by omega) (by omega) (by omega) (by omega)]; omega), rv_seal]
      rcases x_ba19 h hn res hy hi hc L with hr | hr
      · omega
      · exact hr.2
  · rintro s ⟨rfl, hc⟩ L
    show B_X2_breachAt_10 q μ L _ _ = _
    unfold B_X2_breachAt_10
    rw [if_pos (by decide)]
    have hc : cnt (bt a) 192 ≤ n := hc
    have hs := cnt_s a (Nat.le_refl 24)
    have hs2 : nB a = cnt (bt a) 192 + cnt (shB a) 24 := hs
    show (f_X2_placeOfBit (μ.1 q 1) (nI (n - cnt (bt a) 192))).bind _ = res
    by_cases hlt : nB a ≤ n
    · rw [x_placeOfBit h.2 (by omega) (some (-1)) (fun i hi hf hci => by
        have h1 := cnt_mono (shB a) (show i + 1 ≤ 24 by omega)
        rw [cnt_succ, if_pos hf] at h1
        omega) (fun _ => rfl), sb, if_pos rfl, hno hlt]
    · obtain ⟨i, hi, hf, hci⟩ := cnt_find (f := shB a) (n := n - cnt (bt a) 192) 24 (by omega)
      rw [x_placeOfBit h.2 (by omega) (some (nI i)) (fun j hj hfj hcj => by rw [cnt_uniq hf hfj (hci.trans hcj.symm)]) (fun hle => by omega), sb, if_neg (by rw [q_m1 (by omega)]; exact id), brD i hi, sb]
      exact (hy (192 + i) (by omega) (by rw [bt_s hi]; exact hf) (by rw [cnt_s a (by omega)]; omega)).symm
theorem x_breachAt_neg (q : Nat) (μ : Mem) {x : Int32} (hx : x < 0) : f_X2_breachAt q μ x = some (-1) := by
  unfold f_X2_breachAt
  rw [if_neg (by rw [Int32.not_le]; exact hx)]
