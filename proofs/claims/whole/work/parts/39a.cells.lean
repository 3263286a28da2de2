/-! the class: the cells that a breach hangs on -/
theorem x_wd {a : AS} (h : Inv a) {p d : Nat} (hp : p < 4) (hd : d < 8) : (nI (vl a p d) - 1 = -1) ↔ wd a p d = false := by
  have hv := vl_le h hp hd
  show (nI (vl a p d) - nI 1 = -1) ↔ _
  rw [q_sm (by omega)]
  unfold wd
  simp
theorem x_dwb {a : AS} {μ : Mem} (h : Inv a) (r : repX a μ) {p d : Nat} (hp : p < 4) (hd : d < 8) : f_X3_dayWorkedBefore μ (nI p) (nI d) = some (zI ((lw (wd a p) d : Int) - 1)) := by
  unfold f_X3_dayWorkedBefore
  rw [rv_seal]
  have key := lp (B_X3_dayWorkedBefore_4 μ (nI p)) (fun _ => none) (σ := Nat) (fun s g => g (zI ((d : Int) - 1 - s))) (fun i s => s = i ∧ lw (wd a p) d = lw (wd a p) (d - i)) (fun x => x = some (zI ((lw (wd a p) d : Int) - 1))) d ?_ ?_ 300 0 0 (by omega) (by omega) ⟨rfl, rfl⟩
  · have e : nI d - 1 = zI ((d : Int) - 1 - (0 : Nat)) := by
      rw [zI_n, y1, zI_sub]
      congr 1
      omega
    rw [e]
    exact key
  · rintro i s hi ⟨rfl, hl⟩
    have e1 : d - s = (d - 1 - s) + 1 := by omega
    have ez : zI ((d : Int) - 1 - s) = nI (d - 1 - s) := by
      rw [zI_n]
      congr 1
      omega
    have el : lw (wd a p) (d - s) = if wd a p (d - 1 - s) = true then d - 1 - s + 1 else lw (wd a p) (d - 1 - s) := by rw [e1]; rfl
    by_cases hw : wd a p (d - 1 - s) = true
    · rw [if_pos hw] at el
      refine .inl fun L => ?_
      show B_X3_dayWorkedBefore_4 μ (nI p) L (zI ((d : Int) - 1 - s)) = _
      unfold B_X3_dayWorkedBefore_4
      rw [ez, if_neg (gP (by omega)), x_shiftAt h r hp (by omega), sb, if_neg (fun q => by rw [(x_wd h hp (by omega)).mp q] at hw; cases hw), hl, el, zI_n]
      congr 2
      omega
    · rw [if_neg hw] at el
      refine .inr ⟨s + 1, ⟨rfl, by rw [hl, el, show d - (s + 1) = d - 1 - s by omega]⟩, fun L => ?_⟩
      show B_X3_dayWorkedBefore_4 μ (nI p) L (zI ((d : Int) - 1 - s)) = L (zI ((d : Int) - 1 - (s + 1 : Nat)))
      unfold B_X3_dayWorkedBefore_4
      rw [ez, if_neg (gP (by omega)), x_shiftAt h r hp (by omega), sb, if_pos ((x_wd h hp (by omega)).mpr (by simpa using hw)), zI_n, zm1, zI_add]
      congr 2
      omega
  · rintro s ⟨rfl, hl⟩ L
    show B_X3_dayWorkedBefore_4 μ (nI p) L (zI ((s : Int) - 1 - s)) = _
    unfold B_X3_dayWorkedBefore_4
    have e0 : lw (wd a p) (s - s) = 0 := by rw [Nat.sub_self]; rfl
    rw [show (s : Int) - 1 - s = -1 by omega, if_pos (by decide), hl, e0]
    rfl
theorem zmax {d m : Nat} (hd : d < 100) (hm : m < 100) : (if zI ((d : Int) - m) < 0 then 0 else zI ((d : Int) - m)) = nI (d - m) := by
  by_cases h : d < m
  · rw [if_pos (by rw [y0, zI_lt (by omega) (by omega) (by omega) (by omega)]; omega), show d - m = 0 by omega]
    rfl
  · rw [if_neg (by rw [y0, zI_lt (by omega) (by omega) (by omega) (by omega)]; omega), zI_n]
    congr 1
    omega
theorem x_cellsOf {p : Nat} (hp : p < 4) {f l : Nat} (hf : f < 8) (hfl : f ≤ l) (hl : l < 100) {z : Int32} (hz : (if z < 0 then 0 else z) = nI f) : ∃ y, f_X4_cellsOf (nI p) z (nI l) = some y ∧ B32 y (fun c => decide (c / 8 = p ∧ f ≤ c % 8 ∧ c % 8 ≤ l)) := by
  unfold f_X4_cellsOf
  rw [hz, rv_seal]
  have key := lp (B_X4_cellsOf_9 (nI p) (nI l)) (fun _ _ => none) (σ := Nat × Int32) (fun s g => g s.2 (nI s.1)) (fun i s => s.1 = i ∧ f ≤ i ∧ B32 s.2 (fun c => decide (c / 8 = p ∧ f ≤ c % 8 ∧ c % 8 < i))) (fun x => ∃ y, x = some y ∧ B32 y (fun c => decide (c / 8 = p ∧ f ≤ c % 8 ∧ c % 8 ≤ l))) (min (l + 1) 8) ?_ ?_ 300 f (f, 0) (by omega) (by omega) ⟨rfl, Nat.le_refl _, B32_eqv B32_0 (fun c hc => (decide_eq_false (by omega)).symm)⟩
  · exact key
  · rintro i ⟨s, x⟩ hi ⟨rfl, h1, h2⟩
    have h1 : f ≤ s := h1
    have hi : s < min (l + 1) 8 := hi
    refine .inr ⟨(s + 1, x ||| (1 <<< (nI (8 * p + s) &&& 31))), ⟨rfl, by show f ≤ s + 1; omega, B32_eqv (B32_or h2 (B32_one (show 8 * p + s < 32 by omega))) (fun c hc => ?_)⟩, fun L => ?_⟩
    · show (decide (c / 8 = p ∧ f ≤ c % 8 ∧ c % 8 < s) || decide (c = 8 * p + s)) = decide (c / 8 = p ∧ f ≤ c % 8 ∧ c % 8 < s + 1)
      rw [Bool.eq_iff_iff]
      simp only [Bool.or_eq_true, decide_eq_true_eq]
      omega
    · show B_X4_cellsOf_9 (nI p) (nI l) L x (nI s) = _
      unfold B_X4_cellsOf_9
      rw [if_neg (nI_nlt (by omega) (by omega)), if_neg (g8 (by omega)), x_cellOf hp (by omega), sb, nI_1]
  · rintro ⟨s, x⟩ ⟨e, h1, h2⟩ L
    have e : s = min (l + 1) 8 := e
    refine ⟨x, ?_, B32_eqv h2 (fun c hc => ?_)⟩
    · show B_X4_cellsOf_9 (nI p) (nI l) L x (nI s) = _
      unfold B_X4_cellsOf_9
      by_cases h3 : l < s
      · rw [if_pos (nI_lt h3 (by omega))]
      · rw [if_neg (nI_nlt (by omega) (by omega)), if_pos (show (8 : Int32) ≤ nI s by rw [show s = 8 by omega]; decide)]
    · show decide (c / 8 = p ∧ f ≤ c % 8 ∧ c % 8 < min (l + 1) 8) = decide (c / 8 = p ∧ f ≤ c % 8 ∧ c % 8 ≤ l)
      rw [Bool.eq_iff_iff]
      simp only [decide_eq_true_eq]
      omega
theorem x_cellsOfDay {d : Nat} (hd : d < 8) : ∃ y, f_X4_cellsOfDay (nI d) = some y ∧ B32 y (fun c => decide (c % 8 = d)) := by
  unfold f_X4_cellsOfDay
  rw [rv_seal]
  have key := lp (B_X4_cellsOfDay_4 (nI d)) (fun _ _ => none) (σ := Nat × Int32) (fun s g => g s.2 (nI s.1)) (fun i s => s.1 = i ∧ B32 s.2 (fun c => decide (c % 8 = d ∧ c / 8 < i))) (fun x => ∃ y, x = some y ∧ B32 y (fun c => decide (c % 8 = d))) 4 ?_ ?_ 300 0 (0, 0) (by omega) (by omega) ⟨rfl, B32_eqv B32_0 (fun c hc => (decide_eq_false (by omega)).symm)⟩
  · exact key
  · rintro i ⟨s, x⟩ hi ⟨rfl, h2⟩
    have hi : s < 4 := hi
    refine .inr ⟨(s + 1, x ||| (1 <<< (nI (8 * s + d) &&& 31))), ⟨rfl, B32_eqv (B32_or h2 (B32_one (show 8 * s + d < 32 by omega))) (fun c hc => ?_)⟩, fun L => ?_⟩
    · show (decide (c % 8 = d ∧ c / 8 < s) || decide (c = 8 * s + d)) = decide (c % 8 = d ∧ c / 8 < s + 1)
      rw [Bool.eq_iff_iff]
      simp only [Bool.or_eq_true, decide_eq_true_eq]
      omega
    · show B_X4_cellsOfDay_4 (nI d) L x (nI s) = _
      unfold B_X4_cellsOfDay_4
      rw [if_neg (g4 hi), x_cellOf hi hd, sb, nI_1]
  · rintro ⟨s, x⟩ ⟨e, h2⟩ L
    have e : s = 4 := e
    subst e
    refine ⟨x, ?_, B32_eqv h2 (fun c hc => ?_)⟩
    · show B_X4_cellsOfDay_4 (nI d) L x (nI 4) = _
      unfold B_X4_cellsOfDay_4
      rw [if_pos (by decide)]
    · show decide (c % 8 = d ∧ c / 8 < 4) = decide (c % 8 = d)
      rw [Bool.eq_iff_iff]
      simp only [decide_eq_true_eq]
      omega
theorem un_d : ∀ t, t < 192 → f_X8_dayOf (nI (pk t)) = some (nI (t % 8)) := by decide +kernel
theorem un_p : ∀ t, t < 192 → f_X8_personOf (nI (pk t)) = some (nI (t / 8 % 4)) := by decide +kernel
theorem un_k : ∀ t, t < 192 → f_X8_kindOf (nI (pk t)) = some (nI (t / 32)) := by decide +kernel
theorem un_s : ∀ t, t < 192 → f_X8_shiftIn (nI (pk t)) = some (-1) := by decide +kernel
theorem us_d : ∀ i, i < 24 → f_X8_dayOf (nI (pk (192 + i))) = some (nI (i / 3)) := by decide +kernel
theorem us_p : ∀ i, i < 24 → f_X8_personOf (nI (pk (192 + i))) = some (-1) := by decide +kernel
theorem us_k : ∀ i, i < 24 → f_X8_kindOf (nI (pk (192 + i))) = some (nI 6) := by decide +kernel
theorem us_s : ∀ i, i < 24 → f_X8_shiftIn (nI (pk (192 + i))) = some (nI (i % 3)) := by decide +kernel
theorem x_touching {a : AS} {μ : Mem} (h : Inv a) (r : repX a μ) {t : Nat} (ht : t < 216) (hb : bt a t = true) : ∃ y, f_X4_touching μ (nI (pk t)) = some y ∧ ∀ c, c < 32 → (y.toBitVec.getLsbD c = true ↔ inT a t c) := by
  have h5 := iv_span h
  have h3 := iv_nights h
  have h4 := iv_run h
  unfold f_X4_touching
  rcases Nat.lt_or_ge t 192 with h1 | h1
  · have e : t = 32 * (t / 32) + 8 * (t / 8 % 4) + t % 8 := by omega
    have hp : t / 8 % 4 < 4 := by omega
    have hd : t % 8 < 8 := by omega
    have hk6 : t / 32 < 6 := by omega
    rw [un_d t h1, sb, un_p t h1, sb, un_k t h1, sb]
    have hb2 := hb
    rw [e, bt_k hk6 hp hd] at hb2
    have fin : ∀ (f l : Nat) (y : Int32), f = tlo a (t / 32) (t / 8 % 4) (t % 8) → (∀ j, j < 8 → (j ≤ l ↔ j ≤ thi a (t / 32) (t % 8))) → B32 y (fun c => decide (c / 8 = t / 8 % 4 ∧ f ≤ c % 8 ∧ c % 8 ≤ l)) → ∀ c, c < 32 → (y.toBitVec.getLsbD c = true ↔ inT a t c) := by
      intro f l y hf hl hy c hc
      rw [hy c hc, decide_eq_true_eq, hf]
      unfold inT
      constructor
      · rintro ⟨q1, q2, q3⟩
        exact .inl ⟨h1, q1, q2, (hl _ (by omega)).mp q3⟩
      · rintro (⟨_, q1, q2, q3⟩ | ⟨q, _⟩)
        · exact ⟨q1, q2, (hl _ (by omega)).mpr q3⟩
        · omega
    generalize t / 8 % 4 = p at *
    generalize t % 8 = d at *
    generalize t / 32 = k at *
    have hk : k = 0 ∨ k = 1 ∨ k = 2 ∨ k = 3 ∨ k = 4 ∨ k = 5 := by omega
    rcases hk with rfl | rfl | rfl | rfl | rfl | rfl
    · rw [if_neg (by decide), if_neg (by decide), if_neg (by decide), if_neg (by decide), if_neg (by decide)]
      obtain ⟨y, e1, e2⟩ := x_cellsOf hp (z := nI d) hd (Nat.le_refl d) (by omega) (if_neg (gP (by omega)))
      rw [e1]
      exact ⟨y, rfl, fin d d y rfl (fun j hj => Iff.rfl) e2⟩
    · rw [if_neg (by decide), if_neg (by decide), if_neg (by decide), if_neg (by decide), if_neg (by decide)]
      obtain ⟨y, e1, e2⟩ := x_cellsOf hp (z := nI d) hd (Nat.le_refl d) (by omega) (if_neg (gP (by omega)))
      rw [e1]
      exact ⟨y, rfl, fin d d y rfl (fun j hj => Iff.rfl) e2⟩
    · rw [if_pos (by decide), x_dwb h r hp hd, sb]
      have hb3 : vl a p d ≠ 0 ∧ lw (wd a p) d ≠ 0 ∧ rsI a p d < a 0 2 := of_decide_eq_true hb2
      have hl := lw_le (wd a p) d
      have ez : zI ((lw (wd a p) d : Int) - 1) = nI (lw (wd a p) d - 1) := by
        rw [zI_n]
        congr 1
        omega
      obtain ⟨y, e1, e2⟩ := x_cellsOf hp (z := nI (lw (wd a p) d - 1)) (show lw (wd a p) d - 1 < 8 by omega) (show lw (wd a p) d - 1 ≤ d by omega) (by omega) (if_neg (gP (by omega)))
      rw [ez, e1]
      exact ⟨y, rfl, fin _ d y rfl (fun j hj => Iff.rfl) e2⟩
    · rw [if_neg (by decide), if_pos (by decide)]
      have ez : nI d - μ.1 4 2 = zI ((d : Int) - a 0 3) := by rw [rx_nights r, zI_n, zI_n, zI_sub]
      obtain ⟨y, e1, e2⟩ := x_cellsOf hp (z := zI ((d : Int) - a 0 3)) (show d - a 0 3 < 8 by omega) (show d - a 0 3 ≤ d by omega) (by omega) (zmax (by omega) (by omega))
      rw [ez, e1]
      exact ⟨y, rfl, fin _ d y rfl (fun j hj => Iff.rfl) e2⟩
    · rw [if_neg (by decide), if_neg (by decide), if_pos (by decide)]
      have ez : nI d - μ.1 4 3 = zI ((d : Int) - a 0 4) := by rw [rx_run r, zI_n, zI_n, zI_sub]
      obtain ⟨y, e1, e2⟩ := x_cellsOf hp (z := zI ((d : Int) - a 0 4)) (show d - a 0 4 < 8 by omega) (show d - a 0 4 ≤ d by omega) (by omega) (zmax (by omega) (by omega))
      rw [ez, e1]
      exact ⟨y, rfl, fin _ d y rfl (fun j hj => Iff.rfl) e2⟩
    · rw [if_neg (by decide), if_neg (by decide), if_neg (by decide), if_pos (by decide)]
      have ez : nI d + μ.1 4 4 - 1 = nI (d + a 0 5 - 1) := by
        rw [rx_span r, nI_add]
        exact pk_sub (a := d + a 0 5) (b := 1) (by omega)
      obtain ⟨y, e1, e2⟩ := x_cellsOf hp (z := nI d) hd (show d ≤ d + a 0 5 - 1 by omega) (by omega) (if_neg (gP (by omega)))
      rw [ez, e1]
      exact ⟨y, rfl, fin d _ y rfl (fun j hj => Iff.rfl) e2⟩
  · obtain ⟨i, rfl⟩ := Nat.exists_eq_add_of_le h1
    rw [us_d i (by omega), sb, us_p i (by omega), sb, us_k i (by omega), sb, if_neg (by decide), if_neg (by decide), if_neg (by decide), if_neg (by decide), if_pos (by decide)]
    obtain ⟨y, e1, e2⟩ := x_cellsOfDay (show i / 3 < 8 by omega)
    rw [e1]
    refine ⟨y, rfl, fun c hc => ?_⟩
    rw [e2 c hc, decide_eq_true_eq]
    unfold inT
    rw [show 192 + i - 192 = i by omega]
    constructor
    · intro q
      exact .inr ⟨h1, q⟩
    · rintro (⟨q, _⟩ | ⟨_, q⟩)
      · omega
      · exact q
