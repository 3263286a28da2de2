/-! the face: what is set -/
def su (a : AS) (k j v : Nat) : AS := fun k' j' => if k' = k ∧ j' = j then v else a k' j'
theorem su_s (a : AS) (k j v : Nat) : su a k j v k j = v := if_pos ⟨rfl, rfl⟩
theorem su_n (a : AS) (k j v : Nat) {k' : Nat} (j' : Nat) (h : k' ≠ k) : su a k j v k' j' = a k' j' := if_neg (fun q => h q.1)
theorem su_j (a : AS) (k j v : Nat) {j' : Nat} (h : j' ≠ j) : su a k j v k j' = a k j' := if_neg (fun q => h q.2)
theorem su_val (a : AS) (k j v j' : Nat) : su a k j v k j' = if j' = j then v else a k j' := by
  by_cases h : j' = j
  · rw [if_pos h, h, su_s]
  · rw [if_neg h, su_j a k j v h]
theorem cntS_su {a : AS} {k j v : Nat} (h : k ≠ 3) (d i n : Nat) : cntS (su a k j v) d i n = cntS a d i n := cntS_eq n (fun p _ => su_n a k j v _ (Ne.symm h))
theorem up_val (μ : Mem) (k j : Nat) (x : Int32) (j' : Nat) : (mu_up μ k j x).1 k j' = if j' = j then x else μ.1 k j' := by
  by_cases h : j' = j
  · rw [if_pos h, h, up_s]
  · rw [if_neg h, up_j μ k x h]
theorem SB_up {μ : Mem} (h : SB μ) {k : Nat} (j : Nat) (x : Int32) (hk : k ≠ 13 ∧ k ≠ 15 ∧ k ≠ 18) : SB (mu_up μ k j x) := by
  intro q hq i h1 h2
  rw [up_n _ _ _ (by omega)]
  exact h q hq i h1 h2
theorem th_fin {a : AS} {μ ν : Mem} (hI : Inv a) (r : repX a μ) (m : repM a ν) (x : Int32) : Rel μ (mu_up ν 0 0 x) := ⟨a, hI, r, rm_th m x⟩
theorem eq_setRest {μ ν : Mem} (h : Rel μ ν) (x1 : Int32) : ∃ (o : String ⊕ Int32) (μ2 : Mem) (b : Int32) (ν2 : Mem) (k : Int32), f_X8_setRest μ x1 = some (o, μ2) ∧ f_X9_setRest ν x1 = some (b, ν2) ∧ ν2.1 0 0 = k ∧ Rel μ2 ν2 ∧ rv_ans ["java/lang/IllegalArgumentException"] o b k := by
  obtain ⟨a, hI, r, m⟩ := h
  unfold f_X8_setRest f_X9_setRest b_X9_setRest_23 b_X9_setRest_37
  rcases rng x1 0 2000 with ⟨e1, e2, h1, h2⟩ | ⟨e1, e2⟩
  · obtain ⟨v, hv, rfl⟩ := rng0 (n := 2000) (by decide) h1 h2
    rw [e1, e2, sb, sb, tmr, if_neg one0, m_go0, sb, rx_rest r, rm_rest m]
    refine ⟨_, mu_up μ 4 1 (nI v), nI (a 0 2), mu_up (mu_up ν 0 0 0) 0 9 (nI v), 0, rfl, rfl, rfl, ⟨su a 0 2 v, ?_, ?_, ?_⟩, ans_ok _ _⟩
    · obtain ⟨i1, i2, i3, i4, i5, i6, i7, i8, i9, i10, i11, i12, i13, i14, i15, i16⟩ := hI
      exact ⟨i1, i2, hv, i4, i5, i6, i7, i8, i9, i10, i11, i12, i13, i14, i15, i16⟩
    · obtain ⟨j1, j2, j3, j4, j5, j6, j7, j8, j9, j10, j11, j12, j13, j14, j15, j16, j17, j18⟩ := r
      exact ⟨j1, j2, rfl, j4, j5, j6, j7, j8, j9, j10, j11, j12, j13, fun d j hd hj => by rw [cntS_su (by decide)]; exact j14 d j hd hj, j15, j16, j17, SB_up j18 _ _ (by decide)⟩
    · obtain ⟨j1, j2, j3, j4, j5, j6, j7, j8, j9, j10, j11, j12, j13, j14, j15, j16⟩ := m
      exact ⟨j1, j2, rfl, j4, j5, j6, j7, j8, j9, j10, j11, j12, j13, j14, j15, j16⟩
  · rw [e1, e2, sb, sb, tml, if_pos rfl, m_goN ν one0]
    refine ⟨_, μ, _, _, 1, rfl, rfl, rfl, ⟨a, hI, r, ?_⟩, ans_th 0 rfl _⟩
    obtain ⟨j1, j2, j3, j4, j5, j6, j7, j8, j9, j10, j11, j12, j13, j14, j15, j16⟩ := m
    exact ⟨j1, j2, j3, j4, j5, j6, j7, j8, j9, j10, j11, j12, j13, j14, j15, j16⟩
theorem eq_setNights {μ ν : Mem} (h : Rel μ ν) (x1 : Int32) : ∃ (o : String ⊕ Int32) (μ2 : Mem) (b : Int32) (ν2 : Mem) (k : Int32), f_X8_setNights μ x1 = some (o, μ2) ∧ f_X9_setNights ν x1 = some (b, ν2) ∧ ν2.1 0 0 = k ∧ Rel μ2 ν2 ∧ rv_ans ["java/lang/IllegalArgumentException"] o b k := by
  obtain ⟨a, hI, r, m⟩ := h
  unfold f_X8_setNights f_X9_setNights b_X9_setNights_22 b_X9_setNights_36
  rcases rng x1 1 8 with ⟨e1, e2, h1, h2⟩ | ⟨e1, e2⟩
  · obtain ⟨v, hv1, hv, rfl⟩ := rng1 (n := 8) (by decide) (by decide) h1 h2
    rw [e1, e2, sb, sb, tmr, if_neg one0, m_go0, sb, rx_nights r, rm_nights m]
    refine ⟨_, mu_up μ 4 2 (nI v), nI (a 0 3), mu_up (mu_up ν 0 0 0) 0 10 (nI v), 0, rfl, rfl, rfl, ⟨su a 0 3 v, ?_, ?_, ?_⟩, ans_ok _ _⟩
    · obtain ⟨i1, i2, i3, i4, i5, i6, i7, i8, i9, i10, i11, i12, i13, i14, i15, i16⟩ := hI
      exact ⟨i1, i2, i3, ⟨hv1, hv⟩, i5, i6, i7, i8, i9, i10, i11, i12, i13, i14, i15, i16⟩
    · obtain ⟨j1, j2, j3, j4, j5, j6, j7, j8, j9, j10, j11, j12, j13, j14, j15, j16, j17, j18⟩ := r
      exact ⟨j1, j2, j3, rfl, j5, j6, j7, j8, j9, j10, j11, j12, j13, fun d j hd hj => by rw [cntS_su (by decide)]; exact j14 d j hd hj, j15, j16, j17, SB_up j18 _ _ (by decide)⟩
    · obtain ⟨j1, j2, j3, j4, j5, j6, j7, j8, j9, j10, j11, j12, j13, j14, j15, j16⟩ := m
      exact ⟨j1, j2, j3, rfl, j5, j6, j7, j8, j9, j10, j11, j12, j13, j14, j15, j16⟩
  · rw [e1, e2, sb, sb, tml, if_pos rfl, m_goN ν one0]
    refine ⟨_, μ, _, _, 1, rfl, rfl, rfl, ⟨a, hI, r, ?_⟩, ans_th 0 rfl _⟩
    obtain ⟨j1, j2, j3, j4, j5, j6, j7, j8, j9, j10, j11, j12, j13, j14, j15, j16⟩ := m
    exact ⟨j1, j2, j3, j4, j5, j6, j7, j8, j9, j10, j11, j12, j13, j14, j15, j16⟩
theorem eq_setRun {μ ν : Mem} (h : Rel μ ν) (x1 : Int32) : ∃ (o : String ⊕ Int32) (μ2 : Mem) (b : Int32) (ν2 : Mem) (k : Int32), f_X8_setRun μ x1 = some (o, μ2) ∧ f_X9_setRun ν x1 = some (b, ν2) ∧ ν2.1 0 0 = k ∧ Rel μ2 ν2 ∧ rv_ans ["java/lang/IllegalArgumentException"] o b k := by
  obtain ⟨a, hI, r, m⟩ := h
  unfold f_X8_setRun f_X9_setRun b_X9_setRun_22 b_X9_setRun_36
  rcases rng x1 1 8 with ⟨e1, e2, h1, h2⟩ | ⟨e1, e2⟩
  · obtain ⟨v, hv1, hv, rfl⟩ := rng1 (n := 8) (by decide) (by decide) h1 h2
    rw [e1, e2, sb, sb, tmr, if_neg one0, m_go0, sb, rx_run r, rm_run m]
    refine ⟨_, mu_up μ 4 3 (nI v), nI (a 0 4), mu_up (mu_up ν 0 0 0) 0 11 (nI v), 0, rfl, rfl, rfl, ⟨su a 0 4 v, ?_, ?_, ?_⟩, ans_ok _ _⟩
    · obtain ⟨i1, i2, i3, i4, i5, i6, i7, i8, i9, i10, i11, i12, i13, i14, i15, i16⟩ := hI
      exact ⟨i1, i2, i3, i4, ⟨hv1, hv⟩, i6, i7, i8, i9, i10, i11, i12, i13, i14, i15, i16⟩
    · obtain ⟨j1, j2, j3, j4, j5, j6, j7, j8, j9, j10, j11, j12, j13, j14, j15, j16, j17, j18⟩ := r
      exact ⟨j1, j2, j3, j4, rfl, j6, j7, j8, j9, j10, j11, j12, j13, fun d j hd hj => by rw [cntS_su (by decide)]; exact j14 d j hd hj, j15, j16, j17, SB_up j18 _ _ (by decide)⟩
    · obtain ⟨j1, j2, j3, j4, j5, j6, j7, j8, j9, j10, j11, j12, j13, j14, j15, j16⟩ := m
      exact ⟨j1, j2, j3, j4, rfl, j6, j7, j8, j9, j10, j11, j12, j13, j14, j15, j16⟩
  · rw [e1, e2, sb, sb, tml, if_pos rfl, m_goN ν one0]
    refine ⟨_, μ, _, _, 1, rfl, rfl, rfl, ⟨a, hI, r, ?_⟩, ans_th 0 rfl _⟩
    obtain ⟨j1, j2, j3, j4, j5, j6, j7, j8, j9, j10, j11, j12, j13, j14, j15, j16⟩ := m
    exact ⟨j1, j2, j3, j4, j5, j6, j7, j8, j9, j10, j11, j12, j13, j14, j15, j16⟩
theorem eq_setHours {μ ν : Mem} (h : Rel μ ν) (x1 x2 : Int32) : ∃ (o : String ⊕ Int32) (μ2 : Mem) (b : Int32) (ν2 : Mem) (k : Int32), f_X8_setHours μ x1 x2 = some (o, μ2) ∧ f_X9_setHours ν x1 x2 = some (b, ν2) ∧ ν2.1 0 0 = k ∧ Rel μ2 ν2 ∧ rv_ans ["java/lang/IllegalArgumentException"] o b k := by
  obtain ⟨a, hI, r, m⟩ := h
  unfold f_X8_setHours f_X9_setHours b_X9_setHours_31 b_X9_setHours_32
  rcases rng x1 1 8 with ⟨e1, e2, h1, h2⟩ | ⟨e1, e2⟩
  · obtain ⟨v, hv1, hv, rfl⟩ := rng1 (n := 8) (by decide) (by decide) h1 h2
    rw [e1, e2, sb, sb, tmr, if_neg one0]
    rcases rng x2 0 6000 with ⟨e3, e4, h3, h4⟩ | ⟨e3, e4⟩
    · obtain ⟨w, hw, rfl⟩ := rng0 (n := 6000) (by decide) h3 h4
      rw [e3, e4, sb, sb, tmr, if_neg one0, m_go0, sb, rx_lim r, rm_lim m]
      refine ⟨_, mu_up (mu_up μ 4 4 (nI v)) 4 5 (nI w), nI (a 0 6), mu_up (mu_up (mu_up ν 0 0 0) 0 12 (nI v)) 0 13 (nI w), 0, rfl, rfl, rfl, ⟨su (su a 0 5 v) 0 6 w, ?_, ?_, ?_⟩, ans_ok _ _⟩
      · obtain ⟨i1, i2, i3, i4, i5, i6, i7, i8, i9, i10, i11, i12, i13, i14, i15, i16⟩ := hI
        exact ⟨i1, i2, i3, i4, i5, ⟨hv1, hv⟩, hw, i8, i9, i10, i11, i12, i13, i14, i15, i16⟩
      · obtain ⟨j1, j2, j3, j4, j5, j6, j7, j8, j9, j10, j11, j12, j13, j14, j15, j16, j17, j18⟩ := r
        exact ⟨j1, j2, j3, j4, j5, rfl, rfl, j8, j9, j10, j11, j12, j13, fun d j hd hj => by rw [cntS_su (by decide), cntS_su (by decide)]; exact j14 d j hd hj, j15, j16, j17, SB_up (SB_up j18 _ _ (by decide)) _ _ (by decide)⟩
      · obtain ⟨j1, j2, j3, j4, j5, j6, j7, j8, j9, j10, j11, j12, j13, j14, j15, j16⟩ := m
        exact ⟨j1, j2, j3, j4, j5, rfl, rfl, j8, j9, j10, j11, j12, j13, j14, j15, j16⟩
    · rw [e3, e4, sb, sb, tml, if_pos rfl, m_goN ν one0]
      exact ⟨_, μ, _, mu_up ν 0 0 1, 1, rfl, rfl, rfl, th_fin hI r m 1, ans_th 0 rfl _⟩
  · rw [e1, e2, sb, sb, tml, if_pos rfl, m_goN ν one0]
    exact ⟨_, μ, _, mu_up ν 0 0 1, 1, rfl, rfl, rfl, th_fin hI r m 1, ans_th 0 rfl _⟩
theorem eq_addPerson {μ ν : Mem} (h : Rel μ ν) : ∃ (o : String ⊕ Int32) (μ2 : Mem) (b : Int32) (ν2 : Mem) (k : Int32), f_X8_addPerson μ = some (o, μ2) ∧ f_X9_addPerson ν = some (b, ν2) ∧ ν2.1 0 0 = k ∧ Rel μ2 ν2 ∧ rv_ans ["java/lang/IllegalStateException"] o b k := by
  obtain ⟨a, hI, r, m⟩ := h
  have hP := iv_P hI
  unfold f_X8_addPerson f_X9_addPerson b_X9_addPerson_14
  rw [rx_P r, rm_P m, m_go0, m_goN ν one0, sb, sb]
  have e0 : (mu_up ν 0 0 0).1 0 1 = nI (a 0 0) := rm_P m
  by_cases hc : a 0 0 < 4
  · rw [if_pos (show nI (a 0 0) < 4 from nI_lt hc (by decide)), if_neg (show ¬ (nI (a 0 0) = 4) by rw [show (4 : Int32) = nI 4 from rfl, nI_eq (by omega) (by omega)]; omega), nI_1]
    refine ⟨_, mu_up μ 6 4 (nI (a 0 0 + 1)), nI (a 0 0), mu_up (mu_up ν 0 0 0) 0 1 (nI (a 0 0 + 1)), 0, rfl, ?_, rfl, ⟨su a 0 0 (a 0 0 + 1), ?_, ?_, ?_⟩, ?_⟩
    · show some ((mu_up (mu_up ν 0 0 0) 0 1 ((mu_up ν 0 0 0).1 0 1 + 1)).1 0 1 - 1, mu_up (mu_up ν 0 0 0) 0 1 ((mu_up ν 0 0 0).1 0 1 + 1)) = _
      rw [e0, nI_1, up_s, nI_pred]
    · obtain ⟨i1, i2, i3, i4, i5, i6, i7, i8, i9, i10, i11, i12, i13, i14, i15, i16⟩ := hI
      exact ⟨hc, i2, i3, i4, i5, i6, i7, i8, i9, i10, fun c h1 h2 => i11 c h1 (by have h2 : 8 * (a 0 0 + 1) ≤ c := h2; omega), i12, i13, i14, i15, i16⟩
    · obtain ⟨j1, j2, j3, j4, j5, j6, j7, j8, j9, j10, j11, j12, j13, j14, j15, j16, j17, j18⟩ := r
      exact ⟨rfl, j2, j3, j4, j5, j6, j7, j8, j9, j10, j11, j12, j13, fun d j hd hj => by rw [cntS_su (by decide)]; exact j14 d j hd hj, j15, j16, j17, SB_up j18 _ _ (by decide)⟩
    · obtain ⟨j1, j2, j3, j4, j5, j6, j7, j8, j9, j10, j11, j12, j13, j14, j15, j16⟩ := m
      exact ⟨rfl, j2, j3, j4, j5, j6, j7, j8, j9, j10, j11, j12, j13, j14, j15, j16⟩
    · rw [up_s, nI_pred]
      exact ans_ok _ _
  · rw [if_neg (show ¬ (nI (a 0 0) < 4) from nI_nlt (b := 4) (by omega) (by omega)), if_pos (show nI (a 0 0) = 4 by rw [show a 0 0 = 4 by omega]; rfl)]
    exact ⟨_, μ, 0, mu_up ν 0 0 1, 1, rfl, rfl, rfl, th_fin hI r m 1, ans_th 0 rfl _⟩
theorem x_append {a : AS} {μ : Mem} (r : repX a μ) (hS : a 0 1 < 3) (x1 x2 : Int32) : f_X7_append μ x1 x2 = some (nI (a 0 1), mu_up (mu_up (mu_up μ 2 (a 0 1) x1) 3 (a 0 1) x2) 1 2 (nI (a 0 1 + 1))) := by
  have u2 : ∀ (μ : Mem) (j : Nat) (x : Int32), (mu_up μ 2 j x).1 1 = μ.1 1 := fun μ j x => up_n μ j x (by decide)
  have u3 : ∀ (μ : Mem) (j : Nat) (x : Int32), (mu_up μ 3 j x).1 1 = μ.1 1 := fun μ j x => up_n μ j x (by decide)
  have cl : Int32.toNatClampNeg (nI (a 0 1)) = a 0 1 := nI_clamp (by omega)
  have gi : rv_in (nI (a 0 1)) 3 = true := gI hS (by decide)
  unfold f_X7_append
  rw [rx_S r, if_neg (gP (by omega)), if_pos (show nI (a 0 1) < 3 from nI_lt hS (by decide))]
  simp only [u2, u3, rx_S r, cl, gi, nI_1, up_s, nI_pred, ↓reduceIte]
theorem add_rel {a : AS} {μ ν : Mem} (hI : Inv a) (r : repX a μ) (m : repM a ν) (hS : a 0 1 < 3) {st ln : Nat} (h1 : st < 1440) (h2 : ln ≤ 720) : Rel (mu_up (mu_up (mu_up μ 2 (a 0 1) (nI st)) 3 (a 0 1) (nI ln)) 1 2 (nI (a 0 1 + 1))) (mu_up (mu_up (mu_up (mu_up ν 0 0 0) 1 (a 0 1) (nI st)) 2 (a 0 1) (nI ln)) 0 2 (nI (a 0 1 + 1))) := by
  refine ⟨su (su (su a 1 (a 0 1) st) 2 (a 0 1) ln) 0 1 (a 0 1 + 1), ?_, ?_, ?_⟩
  · obtain ⟨i1, i2, i3, i4, i5, i6, i7, i8, i9, i10, i11, i12, i13, i14, i15, i16⟩ := hI
    refine ⟨i1, hS, i3, i4, i5, i6, i7, fun j hj => ?_, fun j hj => ?_, fun c hc => ?_, i11, i12, i13, i14, fun d j hd hj hSj => i15 d j hd hj (by have hSj : a 0 1 + 1 ≤ j := hSj; omega), i16⟩
    · rw [su_n _ _ _ _ _ (by decide), su_n _ _ _ _ _ (by decide), su_val]
      split
      · exact h1
      · exact i8 j hj
    · rw [su_n _ _ _ _ _ (by decide), su_val]
      split
      · exact h2
      · rw [su_n _ _ _ _ _ (by decide)]
        exact i9 j hj
    · have := i10 c hc
      show a 3 c ≤ a 0 1 + 1
      omega
  · obtain ⟨j1, j2, j3, j4, j5, j6, j7, j8, j9, j10, j11, j12, j13, j14, j15, j16, j17, j18⟩ := r
    refine ⟨j1, rfl, j3, j4, j5, j6, j7, fun j hj => ?_, fun j hj => ?_, j10, j11, j12, j13, fun d j hd hj => by rw [cntS_su (by decide), cntS_su (by decide), cntS_su (by decide)]; exact j14 d j hd hj, j15, j16, j17, SB_up (SB_up (SB_up j18 _ _ (by decide)) _ _ (by decide)) _ _ (by decide)⟩
    · rw [su_n _ _ _ _ _ (by decide), su_n _ _ _ _ _ (by decide), su_val, up_n _ _ _ (by decide), up_n _ _ _ (by decide), up_val]
      split
      · rfl
      · exact j8 j hj
    · rw [su_n _ _ _ _ _ (by decide), su_val, up_n _ _ _ (by decide), up_val]
      split
      · rfl
      · rw [su_n _ _ _ _ _ (by decide), up_n _ _ _ (by decide)]
        exact j9 j hj
  · obtain ⟨j1, j2, j3, j4, j5, j6, j7, j8, j9, j10, j11, j12, j13, j14, j15, j16⟩ := m
    refine ⟨j1, rfl, j3, j4, j5, j6, j7, fun j hj => ?_, fun j hj => ?_, j10, j11, j12, j13, j14, j15, j16⟩
    · rw [su_n _ _ _ _ _ (by decide), su_n _ _ _ _ _ (by decide), su_val, up_n _ _ _ (by decide), up_n _ _ _ (by decide), up_val]
      split
      · rfl
      · exact j8 j hj
    · rw [su_n _ _ _ _ _ (by decide), su_val, up_n _ _ _ (by decide), up_val]
      split
      · rfl
      · rw [su_n _ _ _ _ _ (by decide), up_n _ _ _ (by decide)]
        exact j9 j hj
theorem eq_addShift {μ ν : Mem} (h : Rel μ ν) (x1 x2 : Int32) : ∃ (o : String ⊕ Int32) (μ2 : Mem) (b : Int32) (ν2 : Mem) (k : Int32), f_X8_addShift μ x1 x2 = some (o, μ2) ∧ f_X9_addShift ν x1 x2 = some (b, ν2) ∧ ν2.1 0 0 = k ∧ Rel μ2 ν2 ∧ rv_ans ["java/lang/IllegalArgumentException", "java/lang/IllegalStateException"] o b k := by
  obtain ⟨a, hI, r, m⟩ := h
  have hS := iv_S hI
  unfold f_X8_addShift f_X9_addShift
  have eN : ∀ k : Int32, k ≠ 0 → b_X9_addShift_40 ν x1 x2 k = some (0, mu_up ν 0 0 k) := by
    intro k hk
    unfold b_X9_addShift_40
    rw [m_goN ν hk, sb, if_pos (show ((0 : Int32), mu_up ν 0 0 k).1 = 0 from rfl)]
  rcases rng x1 0 1439 with ⟨e1, e2, h1, h2⟩ | ⟨e1, e2⟩
  · obtain ⟨st, hst, rfl⟩ := rng0 (n := 1439) (by decide) h1 h2
    rw [e1, e2, sb, sb, tmr, if_neg one0]
    rcases rng x2 1 720 with ⟨e3, e4, h3, h4⟩ | ⟨e3, e4⟩
    · obtain ⟨ln, _, hln, rfl⟩ := rng1 (n := 720) (by decide) (by decide) h3 h4
      rw [e3, e4, sb, sb, tmr, if_neg one0, rx_S r, rm_S m]
      by_cases hc : a 0 1 < 3
      · rw [if_pos (show nI (a 0 1) < 3 from nI_lt hc (by decide)), if_neg (show ¬ (nI (a 0 1) = 3) by rw [show (3 : Int32) = nI 3 from rfl, nI_eq (by omega) (by omega)]; omega), x_append r hc, sb]
        refine ⟨_, _, nI (a 0 1), _, 0, rfl, ?_, ?_, add_rel hI r m hc (show st < 1440 by omega) hln, ans_ok _ _⟩
        · have e0 : (mu_up ν 0 0 0).1 0 2 = nI (a 0 1) := rm_S m
          have u1 : ∀ (μ : Mem) (j : Nat) (x : Int32), (mu_up μ 1 j x).1 0 = μ.1 0 := fun μ j x => up_n μ j x (by decide)
          have u2 : ∀ (μ : Mem) (j : Nat) (x : Int32), (mu_up μ 2 j x).1 0 = μ.1 0 := fun μ j x => up_n μ j x (by decide)
          have cl : Int32.toNatClampNeg (nI (a 0 1)) = a 0 1 := nI_clamp (by omega)
          have gi : rv_in (nI (a 0 1)) 3 = true := gI hc (by decide)
          unfold b_X9_addShift_40
          rw [m_go0, sb, if_neg (show ¬ ((1 : Int32), mu_up ν 0 0 0).1 = 0 from one0)]
          simp only [u1, u2, e0, cl, gi, nI_1, up_s, nI_pred, ↓reduceIte]
        · rfl
      · rw [if_neg (show ¬ (nI (a 0 1) < 3) from nI_nlt (b := 3) (by omega) (by omega)), if_pos (show nI (a 0 1) = 3 by rw [show a 0 1 = 3 by omega]; rfl), eN 2 (by decide)]
        exact ⟨_, μ, 0, mu_up ν 0 0 2, 2, rfl, rfl, rfl, th_fin hI r m 2, ans_th 1 rfl _⟩
    · rw [e3, e4, sb, sb, tml, if_pos rfl, eN 1 (by decide)]
      exact ⟨_, μ, 0, mu_up ν 0 0 1, 1, rfl, rfl, rfl, th_fin hI r m 1, ans_th 0 rfl _⟩
  · rw [e1, e2, sb, sb, tml, if_pos rfl, eN 1 (by decide)]
    exact ⟨_, μ, 0, mu_up ν 0 0 1, 1, rfl, rfl, rfl, th_fin hI r m 1, ans_th 0 rfl _⟩
