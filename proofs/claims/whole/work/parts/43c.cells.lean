/-! the face: skills, demands, cells, absences -/
theorem x_putSkill (μ : Mem) {p s : Nat} (hp : p < 4) (hs : s < 3) : f_X5_putSkill μ (nI p) (nI s) = some ((), mu_up μ 9 (3 * p + s) 1) := by
  unfold f_X5_putSkill
  rw [x_skillOf hp hs, sb, if_neg (gP (by omega)), if_neg (show ¬ (12 : Int32) ≤ nI (3 * p + s) from nI_ge (a := 3 * p + s) (b := 12) (by omega) (by decide)), if_pos (gI (by omega) (by decide)), nI_clamp (by omega), nar_b1]
theorem eq_teach {μ ν : Mem} (h : Rel μ ν) (x1 x2 : Int32) : ∃ (o : String ⊕ Int32) (μ2 : Mem) (b : Int32) (ν2 : Mem) (k : Int32), f_X8_teach μ x1 x2 = some (o, μ2) ∧ f_X9_teach ν x1 x2 = some (b, ν2) ∧ ν2.1 0 0 = k ∧ Rel μ2 ν2 ∧ rv_ans ["java/lang/IndexOutOfBoundsException", "java/util/NoSuchElementException"] o b k := by
  obtain ⟨a, hI, r, m⟩ := h
  have hP := iv_P hI
  have hS := iv_S hI
  unfold f_X8_teach f_X9_teach
  have eN : ∀ k : Int32, k ≠ 0 → b_X9_teach_26 ν x1 x2 k = some (0, mu_up ν 0 0 k) := by
    intro k hk
    unfold b_X9_teach_26
    rw [m_goN ν hk, sb, if_pos (show ((0 : Int32), mu_up ν 0 0 k).1 = 0 from rfl)]
  rcases pers hI r m x1 with ⟨p, hp, rfl, e1, e2⟩ | ⟨e1, e2⟩
  · rw [e1, e2, sb, sb, tmr, if_neg one0]
    rcases shfs hI r m x2 with ⟨s, hs, rfl, e3, e4⟩ | ⟨e3, e4⟩
    · have hp4 : p < 4 := by omega
      have hs3 : s < 3 := by omega
      have hc : 3 * p + s < 12 := by omega
      have hsk := iv_sk hI _ hc
      rw [e3, e4, sb, sb, tmr, if_neg one0, x_hasSkill hI r hp4 hs3, sb]
      unfold b_X8_teach_27 b_X9_teach_26
      rw [x_putSkill μ hp4 hs3, sb, sb, m_go0, sb, if_neg (show ¬ ((1 : Int32), mu_up ν 0 0 0).1 = 0 from one0), i3, if_pos (gI hc (by decide)), if_pos (gI hc (by decide)), nI_clamp (by omega), nar_b1, if_pos (show rv_bz 1 = true by decide), if_pos (show rv_bz 0 = true by decide)]
      have e5 : (mu_up ν 0 0 0).1 5 (3 * p + s) = nI (a 5 (3 * p + s)) := rm_sk m _ hc
      have hrel : Rel (mu_up μ 9 (3 * p + s) 1) (mu_up (mu_up ν 0 0 0) 5 (3 * p + s) 1) := by
        refine ⟨su a 5 (3 * p + s) 1, ?_, ?_, ?_⟩
        · obtain ⟨i1, i2, i3, i4, i5, i6, i7, i8, i9, i10, i11, i12, i13, i14, i15, i16⟩ := hI
          refine ⟨i1, i2, i3, i4, i5, i6, i7, i8, i9, i10, i11, i12, fun c hc => ?_, i14, i15, i16⟩
          rw [su_val]
          split
          · omega
          · exact i13 c hc
        · obtain ⟨j1, j2, j3, j4, j5, j6, j7, j8, j9, j10, j11, j12, j13, j14, j15, j16, j17, j18⟩ := r
          refine ⟨j1, j2, j3, j4, j5, j6, j7, j8, j9, j10, j11, fun c hc => ?_, j13, fun d j hd hj => by rw [cntS_su (by decide)]; exact j14 d j hd hj, j15, j16, j17, SB_up j18 _ _ (by decide)⟩
          rw [su_val, up_val]
          split
          · rfl
          · exact j12 c hc
        · obtain ⟨j1, j2, j3, j4, j5, j6, j7, j8, j9, j10, j11, j12, j13, j14, j15, j16⟩ := m
          refine ⟨j1, j2, j3, j4, j5, j6, j7, j8, j9, j10, j11, fun c hc => ?_, j13, j14, j15, j16⟩
          rw [su_val, up_val]
          split
          · rfl
          · exact j12 c hc
      by_cases hz : a 5 (3 * p + s) = 0
      · rw [if_pos (show bI (decide (a 5 (3 * p + s) ≠ 0)) = 0 by rw [hz]; rfl), if_pos (show (mu_up ν 0 0 0).1 5 (3 * p + s) = 0 by rw [e5, hz]; rfl)]
        exact ⟨_, _, 1, _, 0, rfl, rfl, rfl, hrel, ans_ok _ _⟩
      · rw [if_neg (show ¬ bI (decide (a 5 (3 * p + s) ≠ 0)) = 0 by rw [decide_eq_true hz]; decide), if_neg (show ¬ (mu_up ν 0 0 0).1 5 (3 * p + s) = 0 by rw [e5, show (0 : Int32) = nI 0 from rfl, nI_eq (by omega) (by omega)]; exact hz)]
        exact ⟨_, _, 0, _, 0, rfl, rfl, rfl, hrel, ans_ok _ _⟩
    · rw [e3, e4, sb, sb, tml, if_pos rfl, eN 2 (by decide)]
      exact ⟨_, μ, 0, mu_up ν 0 0 2, 2, rfl, rfl, rfl, th_fin hI r m 2, ans_th 1 rfl _⟩
  · rw [e1, e2, sb, sb, tml, if_pos rfl, eN 1 (by decide)]
    exact ⟨_, μ, 0, mu_up ν 0 0 1, 1, rfl, rfl, rfl, th_fin hI r m 1, ans_th 0 rfl _⟩
theorem x_putDemand (μ : Mem) {d s : Nat} (x : Int32) (hd : d < 8) (hs : s < 3) : f_X6_putDemand μ (nI d) (nI s) x = some ((), mu_up μ 5 (3 * d + s) x) := by
  unfold f_X6_putDemand
  rw [x_postOf hd hs, sb, if_neg (gP (by omega)), if_neg (g24 (by omega)), if_pos (gI (by omega) (by decide)), nI_clamp (by omega)]
theorem eq_setDemand {μ ν : Mem} (h : Rel μ ν) (x1 x2 x3 : Int32) : ∃ (o : String ⊕ Int32) (μ2 : Mem) (b : Int32) (ν2 : Mem) (k : Int32), f_X8_setDemand μ x1 x2 x3 = some (o, μ2) ∧ f_X9_setDemand ν x1 x2 x3 = some (b, ν2) ∧ ν2.1 0 0 = k ∧ Rel μ2 ν2 ∧ rv_ans ["java/lang/IndexOutOfBoundsException", "java/util/NoSuchElementException", "java/lang/IllegalArgumentException"] o b k := by
  obtain ⟨a, hI, r, m⟩ := h
  have hS := iv_S hI
  unfold f_X8_setDemand f_X9_setDemand
  have eN : ∀ k : Int32, k ≠ 0 → b_X9_setDemand_38 ν x1 x2 x3 k = some (0, mu_up ν 0 0 k) := by
    intro k hk
    unfold b_X9_setDemand_38
    rw [m_goN ν hk, sb, if_pos (show ((0 : Int32), mu_up ν 0 0 k).1 = 0 from rfl)]
  rcases days x1 with ⟨d, hd, rfl, e1, e2⟩ | ⟨e1, e2⟩
  · rw [e1, e2, sb, sb, tmr, if_neg one0]
    rcases shfs hI r m x2 with ⟨s, hs, rfl, e3, e4⟩ | ⟨e3, e4⟩
    · rw [e3, e4, sb, sb, tmr, if_neg one0]
      rcases rng x3 0 4 with ⟨e5, e6, h1, h2⟩ | ⟨e5, e6⟩
      · obtain ⟨v, hv, rfl⟩ := rng0 (n := 4) (by decide) h1 h2
        have hs3 : s < 3 := by omega
        have hc : 3 * d + s < 24 := by omega
        rw [e5, e6, sb, sb, tmr, if_neg one0, x_demandAt r hd hs3, sb, x_putDemand μ _ hd hs3, sb]
        unfold b_X9_setDemand_38
        rw [m_go0, sb, if_neg (show ¬ ((1 : Int32), mu_up ν 0 0 0).1 = 0 from one0), i3, if_pos (gI hc (by decide)), if_pos (gI hc (by decide)), nI_clamp (by omega)]
        have e7 : (mu_up ν 0 0 0).1 6 (3 * d + s) = nI (a 6 (3 * d + s)) := rm_dem m _ hc
        refine ⟨_, _, nI (a 6 (3 * d + s)), mu_up (mu_up ν 0 0 0) 6 (3 * d + s) (nI v), 0, rfl, ?_, rfl, ⟨su a 6 (3 * d + s) v, ?_, ?_, ?_⟩, ans_ok _ _⟩
        · rw [e7]
        · obtain ⟨i1, i2, i3, i4, i5, i6, i7, i8, i9, i10, i11, i12, i13, i14, i15, i16⟩ := hI
          refine ⟨i1, i2, i3, i4, i5, i6, i7, i8, i9, i10, i11, i12, i13, fun c hc => ?_, fun d2 j hd2 hj hSj => ?_, i16⟩
          · rw [su_val]
            split
            · exact hv
            · exact i14 c hc
          · have hSj : a 0 1 ≤ j := hSj
            rw [su_j _ _ _ _ (by omega)]
            exact i15 d2 j hd2 hj hSj
        · obtain ⟨j1, j2, j3, j4, j5, j6, j7, j8, j9, j10, j11, j12, j13, j14, j15, j16, j17, j18⟩ := r
          refine ⟨j1, j2, j3, j4, j5, j6, j7, j8, j9, j10, j11, j12, fun c hc => ?_, fun d j hd hj => by rw [cntS_su (by decide)]; exact j14 d j hd hj, j15, j16, j17, SB_up j18 _ _ (by decide)⟩
          rw [su_val, up_val]
          split
          · rfl
          · exact j13 c hc
        · obtain ⟨j1, j2, j3, j4, j5, j6, j7, j8, j9, j10, j11, j12, j13, j14, j15, j16⟩ := m
          refine ⟨j1, j2, j3, j4, j5, j6, j7, j8, j9, j10, j11, j12, fun c hc => ?_, j14, j15, j16⟩
          rw [su_val, up_val]
          split
          · rfl
          · exact j13 c hc
      · rw [e5, e6, sb, sb, tml, if_pos rfl, eN 3 (by decide)]
        exact ⟨_, μ, 0, mu_up ν 0 0 3, 3, rfl, rfl, rfl, th_fin hI r m 3, ans_th 2 rfl _⟩
    · rw [e3, e4, sb, sb, tml, if_pos rfl, eN 2 (by decide)]
      exact ⟨_, μ, 0, mu_up ν 0 0 2, 2, rfl, rfl, rfl, th_fin hI r m 2, ans_th 1 rfl _⟩
  · rw [e1, e2, sb, sb, tml, if_pos rfl, eN 1 (by decide)]
    exact ⟨_, μ, 0, mu_up ν 0 0 1, 1, rfl, rfl, rfl, th_fin hI r m 1, ans_th 0 rfl _⟩
theorem eq_assign {μ ν : Mem} (h : Rel μ ν) (x1 x2 x3 : Int32) : ∃ (o : String ⊕ Int32) (μ2 : Mem) (b : Int32) (ν2 : Mem) (k : Int32), f_X8_assign μ x1 x2 x3 = some (o, μ2) ∧ f_X9_assign ν x1 x2 x3 = some (b, ν2) ∧ ν2.1 0 0 = k ∧ Rel μ2 ν2 ∧ rv_ans ["java/lang/IndexOutOfBoundsException", "java/util/NoSuchElementException"] o b k := by
  obtain ⟨a, hI, r, m⟩ := h
  have hP := iv_P hI
  have hS := iv_S hI
  unfold f_X8_assign f_X9_assign
  have eN : ∀ k : Int32, k ≠ 0 → b_X9_assign_33 ν x1 x2 x3 k = some (0, mu_up ν 0 0 k) := by
    intro k hk
    unfold b_X9_assign_33
    rw [m_goN ν hk, sb, if_pos (show ((0 : Int32), mu_up ν 0 0 k).1 = 0 from rfl)]
  rcases pers hI r m x1 with ⟨p, hp, rfl, e1, e2⟩ | ⟨e1, e2⟩
  · rw [e1, e2, sb, sb, tmr, if_neg one0]
    rcases days x2 with ⟨d, hd, rfl, e3, e4⟩ | ⟨e3, e4⟩
    · rw [e3, e4, sb, sb, tmr, if_neg one0]
      rcases shfs hI r m x3 with ⟨s, hs, rfl, e5, e6⟩ | ⟨e5, e6⟩
      · have hp4 : p < 4 := by omega
        obtain ⟨μ', e7, r7, _⟩ := x_put hI r (cellB hp4 hd) (show s + 1 ≤ 3 by omega)
        rw [e5, e6, sb, sb, tmr, if_neg one0, x_shiftAt hI r hp4 hd, sb, x_cellOf hp4 hd, sb, nI_1, e7, sb]
        have m7 := rm_up (rm_th m 0) (c := 8 * p + d) (s + 1)
        rw [nI_pred] at m7
        refine ⟨_, μ', nI (vl a p d) - 1, _, 0, rfl, ?_, ?_, ⟨sc a (8 * p + d) (s + 1), sc_inv hI (by omega) (by omega), r7, m7⟩, ans_ok _ _⟩
        · unfold b_X9_assign_33
          rw [m_go0, sb, if_neg (show ¬ ((1 : Int32), mu_up ν 0 0 0).1 = 0 from one0)]
          show ((f_X9_at (mu_up ν 0 0 0) (nI p) (nI d)).bind _) = _
          rw [m_at (rm_th m 0) hp4 hd, sb, i8, if_pos (gI (cellB hp4 hd) (by decide)), nI_clamp (by omega)]
        · rfl
      · rw [e5, e6, sb, sb, tml, if_pos rfl, eN 2 (by decide)]
        exact ⟨_, μ, 0, mu_up ν 0 0 2, 2, rfl, rfl, rfl, th_fin hI r m 2, ans_th 1 rfl _⟩
    · rw [e3, e4, sb, sb, tml, if_pos rfl, eN 1 (by decide)]
      exact ⟨_, μ, 0, mu_up ν 0 0 1, 1, rfl, rfl, rfl, th_fin hI r m 1, ans_th 0 rfl _⟩
  · rw [e1, e2, sb, sb, tml, if_pos rfl, eN 1 (by decide)]
    exact ⟨_, μ, 0, mu_up ν 0 0 1, 1, rfl, rfl, rfl, th_fin hI r m 1, ans_th 0 rfl _⟩
theorem eq_free {μ ν : Mem} (h : Rel μ ν) (x1 x2 : Int32) : ∃ (o : String ⊕ Int32) (μ2 : Mem) (b : Int32) (ν2 : Mem) (k : Int32), f_X8_free μ x1 x2 = some (o, μ2) ∧ f_X9_free ν x1 x2 = some (b, ν2) ∧ ν2.1 0 0 = k ∧ Rel μ2 ν2 ∧ rv_ans ["java/lang/IndexOutOfBoundsException", "java/lang/IllegalStateException"] o b k := by
  obtain ⟨a, hI, r, m⟩ := h
  have hP := iv_P hI
  have hS := iv_S hI
  unfold f_X8_free f_X9_free b_X9_free_20 b_X9_free_39
  have eN : ∀ k : Int32, k ≠ 0 → b_X9_free_40 ν x1 x2 k = some (0, mu_up ν 0 0 k) := by
    intro k hk
    unfold b_X9_free_40
    rw [m_goN ν hk, sb, if_pos (show ((0 : Int32), mu_up ν 0 0 k).1 = 0 from rfl)]
  rcases pers hI r m x1 with ⟨p, hp, rfl, e1, e2⟩ | ⟨e1, e2⟩
  · rw [e1, e2, sb, sb, tmr, if_neg one0]
    rcases days x2 with ⟨d, hd, rfl, e3, e4⟩ | ⟨e3, e4⟩
    · have hp4 : p < 4 := by omega
      have hv := vl_le hI hp4 hd
      rw [e3, e4, sb, sb, tmr, if_neg one0, x_shiftAt hI r hp4 hd, sb, if_pos (show (0 : Int32) = 0 from rfl), m_at m hp4 hd, sb]
      by_cases hw : vl a p d = 0
      · rw [if_pos (show nI (vl a p d) - 1 = -1 by rw [hw]; rfl), if_pos (show nI (vl a p d) - 1 = -1 by rw [hw]; rfl), eN 2 (by decide)]
        exact ⟨_, μ, 0, mu_up ν 0 0 2, 2, rfl, rfl, rfl, th_fin hI r m 2, ans_th 1 rfl _⟩
      · have hne : ¬ (nI (vl a p d) - 1 = -1) := by rw [x_v3 hv hw, q_m1 (by omega)]; exact id
        obtain ⟨μ', e7, r7, _⟩ := x_put hI r (cellB hp4 hd) (show 0 ≤ 3 by omega)
        have e7 : f_X5_put μ (nI (8 * p + d)) 0 = some ((), μ') := e7
        have m7 := rm_up (rm_th m 0) (c := 8 * p + d) 0
        rw [show nI 0 - 1 = -1 by decide] at m7
        rw [if_neg hne, if_neg hne, x_cellOf hp4 hd, sb, e7, sb]
        refine ⟨_, μ', nI (vl a p d) - 1, _, 0, rfl, ?_, ?_, ⟨sc a (8 * p + d) 0, sc_inv hI (by omega) (by omega), r7, m7⟩, ans_ok _ _⟩
        · unfold b_X9_free_40
          rw [m_go0, sb, if_neg (show ¬ ((1 : Int32), mu_up ν 0 0 0).1 = 0 from one0)]
          show ((f_X9_at (mu_up ν 0 0 0) (nI p) (nI d)).bind _) = _
          rw [m_at (rm_th m 0) hp4 hd, sb, i8, if_pos (gI (cellB hp4 hd) (by decide)), nI_clamp (by omega)]
        · rfl
    · rw [e3, e4, sb, sb, tml, if_pos rfl, if_neg one0, eN 1 (by decide)]
      exact ⟨_, μ, 0, mu_up ν 0 0 1, 1, rfl, rfl, rfl, th_fin hI r m 1, ans_th 0 rfl _⟩
  · rw [e1, e2, sb, sb, tml, if_pos rfl, if_neg one0, eN 1 (by decide)]
    exact ⟨_, μ, 0, mu_up ν 0 0 1, 1, rfl, rfl, rfl, th_fin hI r m 1, ans_th 0 rfl _⟩
theorem nar_bool (x : Int32) : ∃ v, v ≤ 1 ∧ vp_nar .boolean x = nI v := by
  obtain ⟨j, hj, e⟩ := pk_andE x (m := 1) 1 (by decide)
  exact ⟨j, by omega, e⟩
theorem x_putAway (μ : Mem) {p d : Nat} (x : Int32) (hp : p < 4) (hd : d < 8) : f_X5_putAway μ (nI p) (nI d) x = some ((), mu_up μ 8 (8 * p + d) (vp_nar .boolean x)) := by
  unfold f_X5_putAway
  rw [x_cellOf hp hd, sb, if_neg (gP (by omega)), if_neg (g32 (by omega)), if_pos (gI (by omega) (by decide)), nI_clamp (by omega)]
theorem eq_setAbsent {μ ν : Mem} (h : Rel μ ν) (x1 x2 x3 : Int32) : ∃ (o : String ⊕ Int32) (μ2 : Mem) (b : Int32) (ν2 : Mem) (k : Int32), f_X8_setAbsent μ x1 x2 x3 = some (o, μ2) ∧ f_X9_setAbsent ν x1 x2 x3 = some (b, ν2) ∧ ν2.1 0 0 = k ∧ Rel μ2 ν2 ∧ rv_ans ["java/lang/IndexOutOfBoundsException"] o b k := by
  obtain ⟨a, hI, r, m⟩ := h
  have hP := iv_P hI
  unfold f_X8_setAbsent f_X9_setAbsent
  have eN : ∀ k : Int32, k ≠ 0 → b_X9_setAbsent_21 ν x1 x2 x3 k = some (0, mu_up ν 0 0 k) := by
    intro k hk
    unfold b_X9_setAbsent_21
    rw [m_goN ν hk, sb, if_pos (show ((0 : Int32), mu_up ν 0 0 k).1 = 0 from rfl)]
  rcases pers hI r m x1 with ⟨p, hp, rfl, e1, e2⟩ | ⟨e1, e2⟩
  · rw [e1, e2, sb, sb, tmr, if_neg one0]
    rcases days x2 with ⟨d, hd, rfl, e3, e4⟩ | ⟨e3, e4⟩
    · have hp4 : p < 4 := by omega
      have hc := cellB hp4 hd
      have haw := iv_aw hI _ hc
      obtain ⟨v, hv, ev⟩ := nar_bool x3
      have e5 : (mu_up ν 0 0 0).1 4 (8 * p + d) = nI (a 4 (8 * p + d)) := rm_aw m _ hc
      have e6 : bI (decide (a 4 (8 * p + d) ≠ 0)) = nI (a 4 (8 * p + d)) := by
        have : a 4 (8 * p + d) = 0 ∨ a 4 (8 * p + d) = 1 := by omega
        rcases this with q | q
        · rw [q]; rfl
        · rw [q]; rfl
      have e7 : rv_bz (nI (a 4 (8 * p + d))) = true := by rw [← e6]; exact rv_bzI _
      rw [e3, e4, sb, sb, tmr, if_neg one0, x_isAway hI r hp4 hd, sb, x_putAway μ x3 hp4 hd, sb, if_pos (rv_bzI _), ev, e6]
      unfold b_X9_setAbsent_21
      rw [m_go0, sb, if_neg (show ¬ ((1 : Int32), mu_up ν 0 0 0).1 = 0 from one0), i8, if_pos (gI hc (by decide)), if_pos (gI hc (by decide)), nI_clamp (by omega), ev]
      refine ⟨_, _, nI (a 4 (8 * p + d)), mu_up (mu_up ν 0 0 0) 4 (8 * p + d) (nI v), 0, rfl, ?_, rfl, ⟨su a 4 (8 * p + d) v, ?_, ?_, ?_⟩, ans_ok _ _⟩
      · show (if rv_bz ((mu_up ν 0 0 0).1 4 (8 * p + d)) = true then _ else none) = _
        rw [e5, if_pos e7]
      · obtain ⟨i1, i2, i3, i4, i5, i6, i7, i8, i9, i10, i11, i12, i13, i14, i15, i16⟩ := hI
        refine ⟨i1, i2, i3, i4, i5, i6, i7, i8, i9, i10, i11, fun c hc => ?_, i13, i14, i15, i16⟩
        rw [su_val]
        split
        · exact hv
        · exact i12 c hc
      · obtain ⟨j1, j2, j3, j4, j5, j6, j7, j8, j9, j10, j11, j12, j13, j14, j15, j16, j17, j18⟩ := r
        refine ⟨j1, j2, j3, j4, j5, j6, j7, j8, j9, j10, fun c hc => ?_, j12, j13, fun d j hd hj => by rw [cntS_su (by decide)]; exact j14 d j hd hj, j15, j16, j17, SB_up j18 _ _ (by decide)⟩
        rw [su_val, up_val]
        split
        · rfl
        · exact j11 c hc
      · obtain ⟨j1, j2, j3, j4, j5, j6, j7, j8, j9, j10, j11, j12, j13, j14, j15, j16⟩ := m
        refine ⟨j1, j2, j3, j4, j5, j6, j7, j8, j9, j10, fun c hc => ?_, j12, j13, j14, j15, j16⟩
        rw [su_val, up_val]
        split
        · rfl
        · exact j11 c hc
    · rw [e3, e4, sb, sb, tml, if_pos rfl, eN 1 (by decide)]
      exact ⟨_, μ, 0, mu_up ν 0 0 1, 1, rfl, rfl, rfl, th_fin hI r m 1, ans_th 0 rfl _⟩
  · rw [e1, e2, sb, sb, tml, if_pos rfl, eN 1 (by decide)]
    exact ⟨_, μ, 0, mu_up ν 0 0 1, 1, rfl, rfl, rfl, th_fin hI r m 1, ans_th 0 rfl _⟩
