/-! the face: arguments, answers -/
theorem sub1_lt {x : Int32} {n : Nat} (hn : n < 2147483648) (h : nI n ≤ x) : nI n - 1 < x := by
  rw [Int32.le_iff_toInt_le, nI_toInt hn] at h
  rw [zI_n, y1, zI_sub, Int32.lt_iff_toInt_lt, zI_T (by omega) (by omega)]
  omega
theorem in_lt {x h : Int32} (hx : x < 0) : f_X9_in x 0 h = some 0 := if_pos hx
theorem in_ge {x : Int32} {n : Nat} (hn : n < 2147483648) (h : nI n ≤ x) : f_X9_in x 0 (nI n - 1) = some 0 := by
  unfold f_X9_in
  rw [if_pos (sub1_lt hn h)]
  split <;> rfl
theorem in_ok {j n : Nat} (hj : j < n) (hn : n < 2147483648) : f_X9_in (nI j) 0 (nI n - 1) = some 1 := by
  unfold f_X9_in
  rw [if_neg (gP (by omega)), show nI n - 1 = nI (n - 1) from pk_sub (a := n) (b := 1) (by omega), if_neg (nI_nlt (by omega) (by omega))]
theorem pers {a : AS} {μ ν : Mem} (h : Inv a) (r : repX a μ) (m : repM a ν) (x : Int32) : (∃ p, p < a 0 0 ∧ x = nI p ∧ f_X8_requirePerson μ x = some (.inr ()) ∧ f_X9_isPerson ν x = some 1) ∨ (f_X8_requirePerson μ x = some (.inl "java/lang/IndexOutOfBoundsException") ∧ f_X9_isPerson ν x = some 0) := by
  have hP := iv_P h
  have no : f_X5_hasPerson μ x = some 0 → f_X9_in x 0 (nI (a 0 0) - 1) = some 0 → (f_X8_requirePerson μ x = some (.inl "java/lang/IndexOutOfBoundsException") ∧ f_X9_isPerson ν x = some 0) := by
    intro h1 h2
    constructor
    · unfold f_X8_requirePerson
      rw [h1]
      rfl
    · unfold f_X9_isPerson
      rw [rm_P m, h2]
      rfl
  rcases pk_ix x (n := a 0 0) (by omega) with hx | hx | ⟨j, hj, rfl⟩
  · exact .inr (no (if_pos hx) (in_lt hx))
  · refine .inr (no ?_ (in_ge (by omega) hx))
    unfold f_X5_hasPerson
    rw [rx_P r, if_pos hx]
    split <;> rfl
  · refine .inl ⟨j, hj, rfl, ?_, ?_⟩
    · unfold f_X8_requirePerson f_X5_hasPerson
      rw [if_neg (gP (by omega)), rx_P r, if_neg (nI_ge hj (by omega)), if_neg (g4 (by omega))]
      rfl
    · unfold f_X9_isPerson
      rw [rm_P m, in_ok hj (by omega)]
      rfl
theorem days (x : Int32) : (∃ d, d < 8 ∧ x = nI d ∧ f_X8_requireDay x = some (.inr ()) ∧ f_X9_isDay x = some 1) ∨ (f_X8_requireDay x = some (.inl "java/lang/IndexOutOfBoundsException") ∧ f_X9_isDay x = some 0) := by
  have e7 : (7 : Int32) = nI 8 - 1 := by decide
  have no : ¬ x < 8 ∨ x < 0 → f_X9_in x 0 (nI 8 - 1) = some 0 → (f_X8_requireDay x = some (.inl "java/lang/IndexOutOfBoundsException") ∧ f_X9_isDay x = some 0) := by
    intro h1 h2
    constructor
    · unfold f_X8_requireDay b_X8_requireDay_10
      rcases h1 with h1 | h1
      · rw [if_neg h1]
        split <;> rfl
      · rw [if_pos h1]
    · unfold f_X9_isDay
      rw [e7, h2]
      rfl
  rcases pk_ix x (n := 8) (by decide) with hx | hx | ⟨j, hj, rfl⟩
  · exact .inr (no (.inr hx) (in_lt hx))
  · exact .inr (no (.inl (by rw [Int32.not_lt]; exact hx)) (in_ge (by decide) hx))
  · refine .inl ⟨j, hj, rfl, ?_, ?_⟩
    · unfold f_X8_requireDay
      rw [if_neg (gP (by omega)), if_pos (show nI j < 8 from nI_lt hj (by decide))]
    · unfold f_X9_isDay
      rw [e7, in_ok hj (by decide)]
      rfl
theorem shfs {a : AS} {μ ν : Mem} (h : Inv a) (r : repX a μ) (m : repM a ν) (x : Int32) : (∃ s, s < a 0 1 ∧ x = nI s ∧ f_X8_requireShift μ x = some (.inr ()) ∧ f_X9_isShift ν x = some 1) ∨ (f_X8_requireShift μ x = some (.inl "java/util/NoSuchElementException") ∧ f_X9_isShift ν x = some 0) := by
  have hS := iv_S h
  have no : f_X7_has μ x = some 0 → f_X9_in x 0 (nI (a 0 1) - 1) = some 0 → (f_X8_requireShift μ x = some (.inl "java/util/NoSuchElementException") ∧ f_X9_isShift ν x = some 0) := by
    intro h1 h2
    constructor
    · unfold f_X8_requireShift
      rw [h1]
      rfl
    · unfold f_X9_isShift
      rw [rm_S m, h2]
      rfl
  rcases pk_ix x (n := a 0 1) (by omega) with hx | hx | ⟨j, hj, rfl⟩
  · exact .inr (no (if_pos hx) (in_lt hx))
  · refine .inr (no ?_ (in_ge (by omega) hx))
    unfold f_X7_has
    rw [rx_S r, if_pos hx]
    split <;> rfl
  · refine .inl ⟨j, hj, rfl, ?_, ?_⟩
    · unfold f_X8_requireShift f_X7_has
      rw [if_neg (gP (by omega)), rx_S r, if_neg (nI_ge hj (by omega)), if_neg (g3 (by omega))]
      rfl
    · unfold f_X9_isShift
      rw [rm_S m, in_ok hj (by omega)]
      rfl
theorem rng (x lo hi : Int32) : (f_X8_requireRange x lo hi = some (.inr ()) ∧ f_X9_in x lo hi = some 1 ∧ ¬ x < lo ∧ x ≤ hi) ∨ (f_X8_requireRange x lo hi = some (.inl "java/lang/IllegalArgumentException") ∧ f_X9_in x lo hi = some 0) := by
  unfold f_X8_requireRange f_X9_in b_X8_requireRange_10
  by_cases h1 : x < lo
  · rw [if_pos h1, if_pos h1]
    exact .inr ⟨rfl, rfl⟩
  · rw [if_neg h1, if_neg h1]
    by_cases h2 : x ≤ hi
    · rw [if_pos h2, if_neg (by rw [Int32.not_lt]; exact h2)]
      exact .inl ⟨rfl, rfl, h1, h2⟩
    · rw [if_neg h2, if_pos (by rw [Int32.not_le] at h2; exact h2)]
      exact .inr ⟨rfl, rfl⟩
theorem rng0 {x hi : Int32} {n : Nat} (hh : hi.toInt = n) (h1 : ¬ x < 0) (h2 : x ≤ hi) : ∃ j, j ≤ n ∧ x = nI j := nI_of2 hh h1 h2
theorem rng1 {x hi : Int32} {n : Nat} (hn : n < 2147483648) (hh : hi.toInt = n) (h1 : ¬ x < 1) (h2 : x ≤ hi) : ∃ j, 1 ≤ j ∧ j ≤ n ∧ x = nI j := by
  have h0 : ¬ x < 0 := by
    intro q
    rw [Int32.lt_iff_toInt_lt] at q h1
    have e0 : (0 : Int32).toInt = 0 := by decide
    have e1 : (1 : Int32).toInt = 1 := by decide
    omega
  obtain ⟨j, hj, rfl⟩ := nI_of2 hh h0 h2
  refine ⟨j, ?_, hj, rfl⟩
  rcases Nat.eq_zero_or_pos j with h3 | h3
  · subst h3
    exact absurd (by decide) h1
  · exact h3
theorem tmr {α β : Type} (x : α) (M : Mem) (k : α → Option ((String ⊕ β) × Mem)) : rv_thm (.inr x) M k = k x := rfl
theorem tml {α β : Type} (E : String) (M : Mem) (k : α → Option ((String ⊕ β) × Mem)) : rv_thm (.inl E) M k = some (.inl E, M) := rfl
theorem trr {α β : Type} (x : α) (k : α → Option (String ⊕ β)) : rv_thr (.inr x) k = k x := rfl
theorem trl {α β : Type} (E : String) (k : α → Option (String ⊕ β)) : rv_thr (.inl E) k = some (.inl E) := rfl
theorem one0 : ¬ (1 : Int32) = 0 := by decide
theorem ans_ok {α : Type} (Es : List String) (b : α) : rv_ans Es (.inr b) b 0 := .inl ⟨rfl, rfl⟩
theorem ans_th {α : Type} {Es : List String} (j : Nat) {E : String} (h : Es[j]? = some E) (b : α) : rv_ans Es (.inl E) b (nI (j + 1)) := .inr ⟨j, E, h, rfl, rfl⟩
theorem nn1 {j : Nat} : nI (j + 1) = 1 ↔ nI (j + 1) = 1 := Iff.rfl
theorem eq_isNight {μ ν : Mem} (h : Rel μ ν) (x1 : Int32) : ∃ (o : String ⊕ Int32) (b : Int32) (ν2 : Mem) (k : Int32), f_X8_isNight μ x1 = some o ∧ f_X9_isNight ν x1 = some (b, ν2) ∧ ν2.1 0 0 = k ∧ Rel μ ν2 ∧ rv_ans ["java/util/NoSuchElementException"] o b k := by
  obtain ⟨a, hI, r, m⟩ := h
  have hS := iv_S hI
  unfold f_X8_isNight f_X9_isNight b_X9_isNight_14
  rcases shfs hI r m x1 with ⟨s, hs, rfl, e1, e2⟩ | ⟨e1, e2⟩
  · have x := x_night hI r (v := s + 1) (by omega)
    have y := m_nightS hI (rm_th m 0) (v := s + 1) (by omega) (by omega)
    have e3 : nI (s + 1) - 1 = nI s := pk_sub (a := s + 1) (b := 1) (by omega)
    rw [e3] at x y
    rw [e1, e2, sb, sb, trr, x, sb, if_pos (rv_bzI _), if_neg one0]
    refine ⟨_, bI (isN a (s + 1)), mu_up ν 0 0 0, 0, rfl, ?_, up_s _ _ _ _, ⟨a, hI, r, rm_th m 0⟩, ans_ok _ _⟩
    rw [m_go0, sb]
    show ((f_X9_isNightShift (mu_up ν 0 0 0) (nI s)).bind _) = _
    rw [y, sb]
    cases isN a (s + 1) <;> rfl
  · rw [e1, e2, sb, sb, trl, if_pos rfl, m_goN ν one0]
    exact ⟨_, 0, mu_up ν 0 0 1, 1, rfl, rfl, up_s _ _ _ _, ⟨a, hI, r, rm_th m 1⟩, ans_th 0 rfl _⟩
theorem eq_shiftOf {μ ν : Mem} (h : Rel μ ν) (x1 x2 : Int32) : ∃ (o : String ⊕ Int32) (b : Int32) (ν2 : Mem) (k : Int32), f_X8_shiftOf μ x1 x2 = some o ∧ f_X9_shiftOf ν x1 x2 = some (b, ν2) ∧ ν2.1 0 0 = k ∧ Rel μ ν2 ∧ rv_ans ["java/lang/IndexOutOfBoundsException"] o b k := by
  obtain ⟨a, hI, r, m⟩ := h
  have hP := iv_P hI
  unfold f_X8_shiftOf f_X9_shiftOf b_X9_shiftOf_21
  rcases pers hI r m x1 with ⟨p, hp, rfl, e1, e2⟩ | ⟨e1, e2⟩
  · rw [e1, e2, sb, sb, trr, if_neg one0]
    rcases days x2 with ⟨d, hd, rfl, e3, e4⟩ | ⟨e3, e4⟩
    · rw [e3, e4, sb, sb, trr, if_neg one0, x_shiftAt hI r (by omega) hd, sb, m_go0, sb]
      refine ⟨_, nI (vl a p d) - 1, mu_up ν 0 0 0, 0, rfl, ?_, up_s _ _ _ _, ⟨a, hI, r, rm_th m 0⟩, ans_ok _ _⟩
      show ((f_X9_at (mu_up ν 0 0 0) (nI p) (nI d)).bind _) = _
      rw [m_at (rm_th m 0) (by omega) hd, sb]
    · rw [e3, e4, sb, sb, trl, if_pos rfl, m_goN ν one0]
      exact ⟨_, 0, mu_up ν 0 0 1, 1, rfl, rfl, up_s _ _ _ _, ⟨a, hI, r, rm_th m 1⟩, ans_th 0 rfl _⟩
  · rw [e1, e2, sb, sb, trl, if_pos rfl, m_goN ν one0]
    exact ⟨_, 0, mu_up ν 0 0 1, 1, rfl, rfl, up_s _ _ _ _, ⟨a, hI, r, rm_th m 1⟩, ans_th 0 rfl _⟩
theorem eq_restBefore {μ ν : Mem} (h : Rel μ ν) (x1 x2 : Int32) : ∃ (o : String ⊕ Int32) (b : Int32) (ν2 : Mem) (k : Int32), f_X8_restBefore μ x1 x2 = some o ∧ f_X9_restBefore ν x1 x2 = some (b, ν2) ∧ ν2.1 0 0 = k ∧ Rel μ ν2 ∧ rv_ans ["java/lang/IndexOutOfBoundsException", "java/util/NoSuchElementException"] o b k := by
  obtain ⟨a, hI, r, m⟩ := h
  have hP := iv_P hI
  unfold f_X8_restBefore f_X9_restBefore b_X9_restBefore_20 b_X9_restBefore_49 b_X9_restBefore_50
  rcases pers hI r m x1 with ⟨p, hp, rfl, e1, e2⟩ | ⟨e1, e2⟩
  · rw [e1, e2, sb, sb, trr, if_neg one0]
    rcases days x2 with ⟨d, hd, rfl, e3, e4⟩ | ⟨e3, e4⟩
    · have hp4 : p < 4 := by omega
      have hv := vl_le hI hp4 hd
      have hl := lw_le (wd a p) d
      rw [e3, e4, sb, sb, trr, if_neg one0, x_restAt hI r hp4 hd, sb, if_pos (show (0 : Int32) = 0 from rfl), m_at m hp4 hd, sb, m_goN ν (show (2 : Int32) ≠ 0 by decide), m_go0]
      have no : hasR a p d = false → (∃ (o : String ⊕ Int32) (b : Int32) (ν2 : Mem) (k : Int32), (if (if hasR a p d = true then zI (rsI a p d) else -1440) = -1440 then some (Sum.inl "java/util/NoSuchElementException") else some (Sum.inr (if hasR a p d = true then zI (rsI a p d) else -1440))) = some o ∧ (some ((0 : Int32), mu_up ν 0 0 2)) = some (b, ν2) ∧ ν2.1 0 0 = k ∧ Rel μ ν2 ∧ rv_ans ["java/lang/IndexOutOfBoundsException", "java/util/NoSuchElementException"] o b k) := by
        intro hf
        rw [hf, if_neg (show ¬ (false = true) by decide), if_pos rfl]
        exact ⟨_, 0, mu_up ν 0 0 2, 2, rfl, rfl, up_s _ _ _ _, ⟨a, hI, r, rm_th m 2⟩, ans_th 1 rfl _⟩
      by_cases hw : vl a p d = 0
      · rw [if_pos (show nI (vl a p d) - 1 = -1 by rw [hw]; rfl)]
        exact no (decide_eq_false (fun q => q.1 hw))
      · rw [if_neg (show ¬ (nI (vl a p d) - 1 = -1) by rw [x_v3 hv hw, q_m1 (by omega)]; exact id), m_last hI m hp4 hd, sb]
        by_cases h0 : lw (wd a p) d = 0
        · rw [if_pos (show zI ((lw (wd a p) d : Int) - 1) = -1 by rw [h0]; rfl)]
          exact no (decide_eq_false (fun q => q.2 h0))
        · have hr : hasR a p d = true := decide_eq_true ⟨hw, h0⟩
          have hb := rsI_b hI hp4 hd hr
          rw [if_neg (show ¬ (zI ((lw (wd a p) d : Int) - 1) = -1) by rw [zm1, zI_eq (by omega) (by omega) (by omega) (by omega)]; omega), if_pos hr, if_neg (show ¬ (zI (rsI a p d) = -1440) by rw [ym1440, zI_eq (by omega) (by omega) (by omega) (by omega)]; omega)]
          refine ⟨_, zI (rsI a p d), mu_up ν 0 0 0, 0, rfl, ?_, up_s _ _ _ _, ⟨a, hI, r, rm_th m 0⟩, ans_ok _ _⟩
          show ((f_X9_minutesBefore (mu_up ν 0 0 0) (nI p) (nI d)).bind _) = _
          rw [m_minB hI (rm_th m 0) hp4 hd hw h0, sb]
    · rw [e3, e4, sb, sb, trl, if_pos rfl, if_neg one0, m_goN ν one0]
      exact ⟨_, 0, mu_up ν 0 0 1, 1, rfl, rfl, up_s _ _ _ _, ⟨a, hI, r, rm_th m 1⟩, ans_th 0 rfl _⟩
  · rw [e1, e2, sb, sb, trl, if_pos rfl, if_neg one0, m_goN ν one0]
    exact ⟨_, 0, mu_up ν 0 0 1, 1, rfl, rfl, up_s _ _ _ _, ⟨a, hI, r, rm_th m 1⟩, ans_th 0 rfl _⟩
theorem eq_longestNights {μ ν : Mem} (h : Rel μ ν) (x1 : Int32) : ∃ (o : String ⊕ Int32) (b : Int32) (ν2 : Mem) (k : Int32), f_X8_longestNights μ x1 = some o ∧ f_X9_longestNights ν x1 = some (b, ν2) ∧ ν2.1 0 0 = k ∧ Rel μ ν2 ∧ rv_ans ["java/lang/IndexOutOfBoundsException"] o b k := by
  obtain ⟨a, hI, r, m⟩ := h
  have hP := iv_P hI
  unfold f_X8_longestNights f_X9_longestNights b_X9_longestNights_14
  rcases pers hI r m x1 with ⟨p, hp, rfl, e1, e2⟩ | ⟨e1, e2⟩
  · rw [e1, e2, sb, sb, trr, if_neg one0, x_nightsC hI r (by omega), sb, m_go0, sb]
    refine ⟨_, nI (mxr (ng a p) 8), mu_up ν 0 0 0, 0, rfl, ?_, up_s _ _ _ _, ⟨a, hI, r, rm_th m 0⟩, ans_ok _ _⟩
    show ((f_X9_rowOf (mu_up ν 0 0 0) (nI p)).bind _) = _
    rw [m_rowOf hI (rm_th m 0) (by omega), sb]
  · rw [e1, e2, sb, sb, trl, if_pos rfl, m_goN ν one0]
    exact ⟨_, 0, mu_up ν 0 0 1, 1, rfl, rfl, up_s _ _ _ _, ⟨a, hI, r, rm_th m 1⟩, ans_th 0 rfl _⟩
theorem eq_longestByRows {μ ν : Mem} (h : Rel μ ν) (x1 : Int32) : ∃ (o : String ⊕ Int32) (b : Int32) (ν2 : Mem) (k : Int32), f_X8_longestByRows μ x1 = some o ∧ f_X9_longestByRows ν x1 = some (b, ν2) ∧ ν2.1 0 0 = k ∧ Rel μ ν2 ∧ rv_ans ["java/lang/IndexOutOfBoundsException"] o b k := by
  have e : f_X8_longestByRows μ x1 = f_X8_longestNights μ x1 := by
    obtain ⟨a, hI, r, m⟩ := h
    have hP := iv_P hI
    unfold f_X8_longestByRows f_X8_longestNights
    rcases pers hI r m x1 with ⟨p, hp, rfl, e1, e2⟩ | ⟨e1, e2⟩
    · rw [e1, sb, trr, x_nightsT hI r (by omega), x_nightsC hI r (by omega)]
      rfl
    · rw [e1, sb, trl]
      rfl
  obtain ⟨o, b, ν2, k, h1, h2, h3⟩ := eq_longestNights h x1
  refine ⟨o, b, ν2, k, e.trans h1, ?_, h3⟩
  unfold f_X9_longestByRows
  rw [h2]
  rfl
theorem eq_peak {μ ν : Mem} (h : Rel μ ν) (x1 : Int32) : ∃ (o : String ⊕ Int32) (b : Int32) (ν2 : Mem) (k : Int32), f_X8_peak μ x1 = some o ∧ f_X9_peak ν x1 = some (b, ν2) ∧ ν2.1 0 0 = k ∧ Rel μ ν2 ∧ rv_ans ["java/lang/IndexOutOfBoundsException"] o b k := by
  obtain ⟨a, hI, r, m⟩ := h
  have hP := iv_P hI
  unfold f_X8_peak f_X9_peak b_X9_peak_14
  rcases pers hI r m x1 with ⟨p, hp, rfl, e1, e2⟩ | ⟨e1, e2⟩
  · rw [e1, e2, sb, sb, trr, if_neg one0, x_sumM hI r (by omega), sb, m_go0, sb]
    refine ⟨_, nI (mxs a p 8), mu_up ν 0 0 0, 0, rfl, ?_, up_s _ _ _ _, ⟨a, hI, r, rm_th m 0⟩, ans_ok _ _⟩
    show rv_loop (B_X9_peak_26 (mu_up ν 0 0 0) (nI p)) (fun _ _ => none) 300 (nI 0) (nI 0) = _
    rw [rv_seal]
    exact m_peak hI (rm_th m 0) (by omega)
  · rw [e1, e2, sb, sb, trl, if_pos rfl, m_goN ν one0]
    exact ⟨_, 0, mu_up ν 0 0 1, 1, rfl, rfl, up_s _ _ _ _, ⟨a, hI, r, rm_th m 1⟩, ans_th 0 rfl _⟩
theorem eq_peakByAdding {μ ν : Mem} (h : Rel μ ν) (x1 : Int32) : ∃ (o : String ⊕ Int32) (b : Int32) (ν2 : Mem) (k : Int32), f_X8_peakByAdding μ x1 = some o ∧ f_X9_peakByAdding ν x1 = some (b, ν2) ∧ ν2.1 0 0 = k ∧ Rel μ ν2 ∧ rv_ans ["java/lang/IndexOutOfBoundsException"] o b k := by
  have e : f_X8_peakByAdding μ x1 = f_X8_peak μ x1 := by
    obtain ⟨a, hI, r, m⟩ := h
    have hP := iv_P hI
    unfold f_X8_peakByAdding f_X8_peak
    rcases pers hI r m x1 with ⟨p, hp, rfl, e1, e2⟩ | ⟨e1, e2⟩
    · rw [e1, sb, trr, x_sumM hI r (by omega), x_sumA hI r (by omega)]
      rfl
    · rw [e1, sb, trl]
      rfl
  obtain ⟨o, b, ν2, k, h1, h2, h3⟩ := eq_peak h x1
  refine ⟨o, b, ν2, k, e.trans h1, ?_, h3⟩
  unfold f_X9_peakByAdding
  rw [h2]
  rfl
