/-! the face: sums, shares, soundness; the start -/
theorem wd_at {a : AS} (h : Inv a) {p d : Nat} (hp : p < 4) (hd : d < 8) {β : Type} (A B : β) : (if nI (vl a p d) - 1 = -1 then A else B) = if wd a p d = true then B else A := by
  have e := x_wd h hp hd
  cases hw : wd a p d
  · rw [if_pos (e.mpr hw), if_neg (by decide)]
  · rw [if_neg (fun q => by rw [e.mp q] at hw; cases hw), if_pos rfl]
/-- the minutes of the persons before p -/
def tot (a : AS) : Nat → Nat
  | 0 => 0
  | p + 1 => tot a p + ps (ln a p) 8
theorem x_min18 {a : AS} {μ : Mem} (h : Inv a) (r : repX a μ) {p n : Nat} (hp : p < 4) (L : Int64 → Int32 → Option Int64) : rv_ls (B_X8_minutes_18 μ (nI p) L) (fun _ _ => none) 300 (lN n) (nI 0) = L (lN (n + ps (ln a p) 8)) (nI (p + 1)) := by
  have key := lq (B_X8_minutes_18 μ (nI p) L) (fun _ _ => none) (fun d g => g (lN (n + ps (ln a p) d)) (nI d)) (L (lN (n + ps (ln a p) 8)) (nI (p + 1))) 8 ?_ ?_ 300 0 (by omega) (by omega)
  · exact key
  · intro d X hd
    have hl := ln_le h hp hd
    show B_X8_minutes_18 μ (nI p) L X _ (nI d) = X (lN (n + (ps (ln a p) d + ln a p d))) (nI (d + 1))
    unfold B_X8_minutes_18
    rw [if_neg (g8 hd), x_minutesAt h r hp hd, sb, nI_l (by omega), lN_add, nI_1, Nat.add_assoc]
  · intro X
    show B_X8_minutes_18 μ (nI p) L X _ (nI 8) = _
    unfold B_X8_minutes_18
    rw [if_pos (by decide), nI_1]
theorem eq_minutes {μ ν : Mem} (h : Rel μ ν) : ∃ (r : Int64) (ν2 : Mem), f_X8_minutes μ = some r ∧ f_X9_minutes ν = some (r, ν2) ∧ Rel μ ν2 := by
  obtain ⟨a, hI, r, m⟩ := h
  have hP := iv_P hI
  refine ⟨lN (tot a (a 0 0)), mu_up ν 0 0 0, ?_, ?_, th_fin hI r m 0⟩
  · unfold f_X8_minutes
    rw [rv_seal]
    have key := lq (B_X8_minutes_4 μ) (fun _ _ => none) (fun p g => g (lN (tot a p)) (nI p)) (some (lN (tot a (a 0 0)))) (a 0 0) ?_ ?_ 300 0 (by omega) (by omega)
    · exact key
    · intro p L hp
      show B_X8_minutes_4 μ L _ (nI p) = L (lN (tot a p + ps (ln a p) 8)) (nI (p + 1))
      unfold B_X8_minutes_4
      rw [rx_P r, if_neg (nI_ge hp (by omega)), rv_seal]
      exact x_min18 hI r (by omega) L
    · intro L
      show B_X8_minutes_4 μ L _ (nI (a 0 0)) = _
      unfold B_X8_minutes_4
      rw [rx_P r, if_pos (nI_le (Nat.le_refl _) (by omega))]
  · have m0 := rm_th m 0
    unfold f_X9_minutes
    rw [rv_seal]
    have key := lq (B_X9_minutes_9 (mu_up ν 0 0 0)) (fun _ _ => none) (fun p g => g (lN (tot a p)) (nI p)) (some (lN (tot a (a 0 0)), mu_up ν 0 0 0)) (a 0 0) ?_ ?_ 300 0 (by omega) (by omega)
    · exact key
    · intro p L hp
      have hb := ps_bd hI (show p < 4 by omega) (Nat.le_refl 8)
      have e := m_sum hI m0 (show p < 4 by omega) (d := 0) (s := 8) (by omega)
      rw [Nat.zero_add] at e
      have e : f_X9_sumFrom (mu_up ν 0 0 0) (nI p) 0 8 = some (nI (ps (ln a p) 8 - 0)) := e
      show B_X9_minutes_9 (mu_up ν 0 0 0) L _ (nI p) = L (lN (tot a p + ps (ln a p) 8)) (nI (p + 1))
      unfold B_X9_minutes_9
      rw [rm_P m0, if_neg (nI_ge hp (by omega)), e, sb, Nat.sub_zero, nI_l (by omega), lN_add, nI_1]
    · intro L
      show B_X9_minutes_9 (mu_up ν 0 0 0) L _ (nI (a 0 0)) = _
      unfold B_X9_minutes_9
      rw [rm_P m0, if_pos (nI_le (Nat.le_refl _) (by omega))]
theorem eq_workShare {μ ν : Mem} (h : Rel μ ν) (x1 : Int32) : ∃ (o : String ⊕ UInt32) (b : UInt32) (ν2 : Mem) (k : Int32), f_X8_workShare μ x1 = some o ∧ f_X9_workShare ν x1 = some (b, ν2) ∧ ν2.1 0 0 = k ∧ Rel μ ν2 ∧ rv_ans ["java/lang/IndexOutOfBoundsException"] o b k ∧ rv_nn64 (FP.f2d b) = true := by
  obtain ⟨a, hI, r, m⟩ := h
  have hP := iv_P hI
  unfold f_X8_workShare f_X9_workShare
  rw [rv_seal, rv_seal]
  rcases pers hI r m x1 with ⟨p, hp, rfl, e1, e2⟩ | ⟨e1, e2⟩
  · have hp4 : p < 4 := by omega
    have hc8 := cnt_le (wd a p) 8
    obtain ⟨f1, f2⟩ := fp_share (cnt (wd a p) 8) (by omega)
    have kx := lq (B_X8_workShare_9 μ (nI p)) (fun _ _ => none) (fun d g => g (nI (cnt (wd a p) d)) (nI d)) (some (.inr (FP.fdiv (FP.i2f (nI (cnt (wd a p) 8))) 1090519040))) 8 (fun d L hd => by
      show B_X8_workShare_9 μ (nI p) L _ (nI d) = _
      unfold B_X8_workShare_9
      rw [if_neg (g8 hd), x_shiftAt hI r hp4 hd, sb, wd_at hI hp4 hd, cnt_succ, nI_1, nI_1]
      cases hw : wd a p d
      · rw [if_neg (by decide), if_neg (by decide)]
        rfl
      · rw [if_pos rfl, if_pos rfl]) (fun L => by
      show B_X8_workShare_9 μ (nI p) L _ (nI 8) = _
      unfold B_X8_workShare_9
      rw [if_pos (show (8 : Int32) ≤ nI 8 by decide), if_pos f1]) 300 0 (by omega) (by omega)
    have km := lq (B_X9_workShare_4 ν (nI p)) (fun _ _ => none) (fun d g => g (nI (cnt (wd a p) d)) (nI d)) (some (FP.fdiv (FP.i2f (nI (cnt (wd a p) 8))) 1090519040, mu_up ν 0 0 0)) 8 (fun d L hd => by
      show B_X9_workShare_4 ν (nI p) L _ (nI d) = _
      unfold B_X9_workShare_4 b_X9_workShare_34
      rw [if_neg (g8 hd), e2, sb, if_neg one0, m_at m hp4 hd, sb, wd_at hI hp4 hd, cnt_succ, nI_1, nI_1]
      cases hw : wd a p d
      · rw [if_neg (by decide), if_neg (by decide), show (0 : Int32) = nI 0 from rfl, nI_add]
      · rw [if_pos rfl, if_pos rfl]) (fun L => by
      show B_X9_workShare_4 ν (nI p) L _ (nI 8) = _
      unfold B_X9_workShare_4
      rw [if_pos (show (8 : Int32) ≤ nI 8 by decide)]
      unfold b_X9_workShare_42
      rw [e2, sb, if_neg one0]
      unfold b_X9_workShare_56
      rw [m_go0, sb, if_neg (show ¬ ((1 : Int32), mu_up ν 0 0 0).1 = 0 from one0), if_pos f1]) 300 0 (by omega) (by omega)
    rw [cnt_0] at kx km
    rw [e1, sb, trr]
    refine ⟨_, _, mu_up ν 0 0 0, 0, ?_, km, rfl, th_fin hI r m 0, ans_ok _ _, f2⟩
    exact kx
  · rw [e1, sb, trl, rv_ls_s]
    refine ⟨_, FP.fconst0, mu_up ν 0 0 1, 1, rfl, ?_, rfl, th_fin hI r m 1, ans_th 0 rfl _, by decide +kernel⟩
    show B_X9_workShare_4 ν x1 _ 0 0 = _
    unfold B_X9_workShare_4
    rw [if_neg (by decide), e2, sb, if_pos rfl]
    unfold b_X9_workShare_42
    rw [e2, sb, if_pos rfl]
    unfold b_X9_workShare_56
    rw [m_goN ν one0]
    rfl
/-- the sum of the rests -/
def smR (a : AS) (p : Nat) : Nat → Int
  | 0 => 0
  | d + 1 => smR a p d + if hasR a p d = true then rsI a p d else 0
theorem eq_meanRest {μ ν : Mem} (h : Rel μ ν) (x1 : Int32) : ∃ (o : String ⊕ UInt64) (b : UInt64) (ν2 : Mem) (k : Int32), f_X8_meanRest μ x1 = some o ∧ f_X9_meanRest ν x1 = some (b, ν2) ∧ ν2.1 0 0 = k ∧ Rel μ ν2 ∧ rv_ans ["java/lang/IndexOutOfBoundsException", "java/lang/ArithmeticException"] o b k ∧ (k = 0 → rv_nn64 b = true) := by
  obtain ⟨a, hI, r, m⟩ := h
  have hP := iv_P hI
  unfold f_X8_meanRest f_X9_meanRest
  rw [rv_seal, rv_seal]
  rcases pers hI r m x1 with ⟨p, hp, rfl, e1, e2⟩ | ⟨e1, e2⟩
  · have hp4 : p < 4 := by omega
    have hc8 := cnt_le (hasR a p) 8
    have kx := lq (B_X8_meanRest_12 μ (nI p)) (fun _ _ _ => none) (fun d g => g (zI (smR a p d)) (nI (cnt (hasR a p) d)) (nI d)) (B_X8_meanRest_12 μ (nI p) (fun _ _ _ => none) (zI (smR a p 8)) (nI (cnt (hasR a p) 8)) (nI 8)) 8 (fun d L hd => by
      show B_X8_meanRest_12 μ (nI p) L _ _ (nI d) = L (zI (smR a p d + if hasR a p d = true then rsI a p d else 0)) (nI (cnt (hasR a p) (d + 1))) (nI (d + 1))
      unfold B_X8_meanRest_12
      rw [if_neg (g8 hd), x_restAt hI r hp4 hd, sb, cnt_succ, nI_1, nI_1]
      cases hr : hasR a p d
      · rw [if_neg (show ¬ (false = true) by decide), if_pos rfl, if_neg (show ¬ (false = true) by decide), if_neg (show ¬ (false = true) by decide), Int.add_zero]
        rfl
      · have hb := rsI_b hI hp4 hd hr
        rw [if_pos rfl, if_neg (show ¬ (zI (rsI a p d) = -1440) by rw [ym1440, zI_eq (by omega) (by omega) (by omega) (by omega)]; omega), if_pos rfl, if_pos rfl, zI_add]) (fun L => by
      show B_X8_meanRest_12 μ (nI p) L _ _ (nI 8) = _
      unfold B_X8_meanRest_12
      rw [if_pos (show (8 : Int32) ≤ nI 8 by decide), if_pos (show (8 : Int32) ≤ nI 8 by decide)]) 300 0 (by omega) (by omega)
    have km := lq (B_X9_meanRest_7 ν (nI p)) (fun _ _ _ => none) (fun d g => g (zI (smR a p d)) (nI (cnt (hasR a p) d)) (nI d)) (b_X9_meanRest_63 ν (nI p) (zI (smR a p 8)) (nI (cnt (hasR a p) 8))) 8 (fun d L hd => by
      have hv := vl_le hI hp4 hd
      have hl := lw_le (wd a p) d
      show B_X9_meanRest_7 ν (nI p) L _ _ (nI d) = L (zI (smR a p d + if hasR a p d = true then rsI a p d else 0)) (nI (cnt (hasR a p) (d + 1))) (nI (d + 1))
      unfold B_X9_meanRest_7
      rw [if_neg (g8 hd), e2, sb, if_neg one0, m_at m hp4 hd, sb, cnt_succ, nI_1, nI_1]
      have no : hasR a p d = false → L (zI (smR a p d)) (nI (cnt (hasR a p) d)) (nI (d + 1)) = L (zI (smR a p d + if hasR a p d = true then rsI a p d else 0)) (nI (cnt (hasR a p) d + if hasR a p d = true then 1 else 0)) (nI (d + 1)) := by
        intro hr
        rw [hr, if_neg (show ¬ (false = true) by decide), if_neg (show ¬ (false = true) by decide), Int.add_zero]
        rfl
      by_cases hw : vl a p d = 0
      · rw [if_pos (show nI (vl a p d) - 1 = -1 by rw [hw]; rfl)]
        exact no (decide_eq_false (fun q => q.1 hw))
      · rw [if_neg (show ¬ (nI (vl a p d) - 1 = -1) by rw [x_v3 hv hw, q_m1 (by omega)]; exact id), m_last hI m hp4 hd, sb]
        by_cases h0 : lw (wd a p) d = 0
        · rw [if_pos (show zI ((lw (wd a p) d : Int) - 1) = -1 by rw [h0]; rfl)]
          exact no (decide_eq_false (fun q => q.2 h0))
        · have hr : hasR a p d = true := decide_eq_true ⟨hw, h0⟩
          rw [if_neg (show ¬ (zI ((lw (wd a p) d : Int) - 1) = -1) by rw [zm1, zI_eq (by omega) (by omega) (by omega) (by omega)]; omega), m_minB hI m hp4 hd hw h0, sb, hr, if_pos rfl, if_pos rfl, zI_add]) (fun L => by
      show B_X9_meanRest_7 ν (nI p) L _ _ (nI 8) = _
      unfold B_X9_meanRest_7
      rw [if_pos (show (8 : Int32) ≤ nI 8 by decide)]) 300 0 (by omega) (by omega)
    rw [cnt_0] at kx km
    have kx : rv_ls (B_X8_meanRest_12 μ (nI p)) (fun _ _ _ => none) 300 0 0 0 = _ := kx
    have km : rv_ls (B_X9_meanRest_7 ν (nI p)) (fun _ _ _ => none) 300 0 0 0 = _ := km
    rw [e1, sb, trr, kx, km]
    unfold B_X8_meanRest_12 b_X9_meanRest_63 b_X9_meanRest_85
    rw [if_pos (show (8 : Int32) ≤ nI 8 by decide), e2, sb, if_neg one0, m_goN ν (show (2 : Int32) ≠ 0 by decide), m_go0]
    by_cases h0 : cnt (hasR a p) 8 = 0
    · rw [if_pos (show nI (cnt (hasR a p) 8) = 0 by rw [h0]; rfl), if_pos (show nI (cnt (hasR a p) 8) = 0 by rw [h0]; rfl)]
      exact ⟨_, FP.dconst0, mu_up ν 0 0 2, 2, rfl, rfl, rfl, th_fin hI r m 2, ans_th 1 rfl _, fun q => absurd q (by decide)⟩
    · have hne : ¬ (nI (cnt (hasR a p) 8) = 0) := by rw [show (0 : Int32) = nI 0 from rfl, nI_eq (by omega) (by omega)]; exact h0
      have hfp := fp_ddiv (zI (smR a p 8)) (y := cnt (hasR a p) 8) (by omega) h0
      rw [if_neg hne, if_neg hne, if_pos hfp]
      refine ⟨_, FP.ddiv (FP.i2d (zI (smR a p 8))) (FP.i2d (nI (cnt (hasR a p) 8))), mu_up ν 0 0 0, 0, rfl, ?_, rfl, th_fin hI r m 0, ans_ok _ _, fun _ => hfp⟩
      rw [sb, if_neg (show ¬ ((1 : Int32), mu_up ν 0 0 0).1 = 0 from one0), if_pos hfp]
  · rw [e1, sb, trl, rv_ls_s]
    refine ⟨_, FP.dconst0, mu_up ν 0 0 1, 1, rfl, ?_, rfl, th_fin hI r m 1, ans_th 0 rfl _, fun q => absurd q one0⟩
    show B_X9_meanRest_7 ν x1 _ 0 0 0 = _
    unfold B_X9_meanRest_7
    rw [if_neg (by decide), e2, sb, if_pos rfl]
    unfold b_X9_meanRest_63
    rw [e2, sb, if_pos rfl]
    unfold b_X9_meanRest_85
    rw [m_goN ν one0]
    rfl
theorem eq_isSound {μ ν : Mem} (h : Rel μ ν) : ∃ (r : Int32) (μ2 : Mem) (ν2 : Mem), f_X8_isSound μ = some (r, μ2) ∧ f_X9_isSound ν = some (r, ν2) ∧ Rel μ2 ν2 := by
  obtain ⟨a, hI, r, m⟩ := h
  have hP := iv_P hI
  obtain ⟨z, μ1, e1, r1, hz⟩ := x_seek1 hI r
  obtain ⟨w, μ2, e2, r2, hw⟩ := x_seek0S hI r1
  have e : z = w := Sz_u hz hw
  subst e
  refine ⟨1, μ2, mu_up ν 0 0 0, ?_, rfl, th_fin hI r2 m 0⟩
  unfold f_X8_isSound
  rw [rv_seal]
  have key := lq (B_X8_isSound_2 μ) (fun _ => none) (fun p g => g (nI p)) (some (1, μ2)) (a 0 0) ?_ ?_ 300 0 (by omega) (by omega)
  · exact key
  · intro p L hp
    show B_X8_isSound_2 μ L (nI p) = _
    unfold B_X8_isSound_2
    rw [rx_P r, if_neg (nI_ge hp (by omega)), x_nightsC hI r (by omega), sb, x_nightsT hI r (by omega), sb, if_pos rfl, x_sumM hI r (by omega), sb, x_sumA hI r (by omega), sb, if_pos rfl, nI_1]
  · intro L
    show B_X8_isSound_2 μ L (nI (a 0 0)) = _
    unfold B_X8_isSound_2
    rw [rx_P r, if_pos (nI_le (Nat.le_refl _) (by omega)), e1, sb, e2, sb, if_pos rfl]
def a00 : AS := fun k j => if k = 0 then (if j = 2 then 660 else if j = 3 then 3 else if j = 4 then 6 else if j = 5 then 7 else if j = 6 then 2880 else 0) else 0
theorem cnt00 (d j : Nat) : ∀ n, cntS a00 d j n = 0
  | 0 => rfl
  | n + 1 => by
    show cntS a00 d j n + (if a00 3 (8 * n + d) = j + 1 then 1 else 0) = 0
    rw [cnt00 d j n, if_neg (show ¬ (a00 3 (8 * n + d) = j + 1) from (by omega : ¬ (0 = j + 1)))]
theorem rel0 : Rel mu0 nu0 := by
  refine ⟨a00, ?_, ?_, ?_⟩
  · exact ⟨by decide, by decide, by decide, by decide, by decide, by decide, by decide, fun j _ => (by decide : 0 < 1440), fun j _ => Nat.zero_le _, fun c _ => Nat.zero_le _, fun c _ _ => rfl, fun c _ => Nat.zero_le _, fun c _ => Nat.zero_le _, fun c _ => Nat.zero_le _, fun d j _ _ _ => rfl, Nat.zero_le _⟩
  · refine ⟨rfl, rfl, rfl, rfl, rfl, rfl, rfl, fun j _ => rfl, fun j _ => rfl, fun c _ => rfl, fun c _ => rfl, fun c _ => rfl, fun c _ => rfl, fun d j _ _ => ?_, rfl, fun j hj => absurd hj (Nat.not_lt_zero _), fun j hj => absurd hj (Nat.not_lt_zero _), fun q hq i _ h2 => ?_⟩
    · rw [cnt00]
      rfl
    · have e : mu0.1 q 1 = 0 := by
        rcases hq with rfl | rfl | rfl <;> rfl
      rw [e]
      exact B32_0 i h2
  · refine ⟨rfl, rfl, rfl, rfl, rfl, rfl, rfl, fun j _ => rfl, fun j _ => rfl, fun c hc => ?_, fun c _ => rfl, fun c _ => rfl, fun c _ => rfl, rfl, fun j hj => absurd hj (Nat.not_lt_zero _), fun j hj => absurd hj (Nat.not_lt_zero _)⟩
    show (if c < 32 then (-1 : Int32) else 0) = nI 0 - 1
    rw [if_pos hc]
    rfl
