/-! the face: breaches and swaps -/
theorem eq_breaches {μ ν : Mem} (h : Rel μ ν) : ∃ (r : Int32) (μ2 : Mem) (ν2 : Mem), f_X8_breaches μ = some (r, μ2) ∧ f_X9_breaches ν = some (r, ν2) ∧ Rel μ2 ν2 := by
  obtain ⟨a, hI, r, m⟩ := h
  obtain ⟨μ1, e1, r1, f1, q1⟩ := x_look hI r (q := 13) (.inl rfl)
  obtain ⟨ν1, e2, m1, g1, t1⟩ := m_tellsAll hI (rm_th m 0)
  refine ⟨nI (nB a), μ1, ν1, ?_, ?_, ⟨a, hI, r1, m1⟩⟩
  · unfold f_X8_breaches
    rw [e1, sb, x_size f1, sb]
  · unfold f_X9_breaches
    rw [e2, sb]
    have e14 : ν1.1 0 14 = nI (nB a) := t1.1
    rw [e14]
/-- a breach by its number, on both sides -/
theorem told {μ ν : Mem} (h : Rel μ ν) (x : Int32) : (∃ a t μ1 ν1, t < 216 ∧ bt a t = true ∧ f_X8_requireBreach μ x = some (.inr (nI (pk t)), μ1) ∧ f_X9_tells_ ν x = some (1, ν1) ∧ x = nI (cnt (bt a) t) ∧ ent ν1 (cnt (bt a) t) t ∧ ν1.1 0 0 = 0 ∧ Rel μ1 ν1) ∨ (∃ μ1 ν1, f_X8_requireBreach μ x = some (.inl "java/util/NoSuchElementException", μ1) ∧ f_X9_tells_ ν x = some (0, ν1) ∧ ν1.1 0 0 = 1 ∧ Rel μ1 ν1) := by
  obtain ⟨a, hI, r, m⟩ := h
  obtain ⟨μ1, e1, r1, f1, q1⟩ := x_look hI r (q := 13) (.inl rfl)
  obtain ⟨ν1, e2, m1, g1, t1⟩ := m_tellsAll hI m
  have hnb := nB_le a
  have e14 : ν1.1 0 14 = nI (nB a) := t1.1
  have no : f_X2_breachAt 13 μ1 x = some (-1) → f_X9_in x 0 (nI (nB a) - 1) = some 0 → (∃ μ1 ν1, f_X8_requireBreach μ x = some (.inl "java/util/NoSuchElementException", μ1) ∧ f_X9_tells_ ν x = some (0, ν1) ∧ ν1.1 0 0 = 1 ∧ Rel μ1 ν1) := by
    intro h1 h2
    refine ⟨μ1, mu_up ν1 0 0 1, ?_, ?_, up_s _ _ _ _, ⟨a, hI, r1, rm_th m1 1⟩⟩
    · unfold f_X8_requireBreach
      rw [e1, sb, h1, sb, if_pos rfl]
    · unfold f_X9_tells_
      rw [e2, sb, e14, h2, sb, if_pos rfl]
      unfold b_X9_tells__24
      rw [m_goN ν1 one0]
      rfl
  rcases pk_ix x (n := nB a) (by omega) with hx | hx | ⟨n, hn, rfl⟩
  · exact .inr (no (x_breachAt_neg 13 μ1 hx) (in_lt hx))
  · refine .inr (no ?_ (in_ge (by omega) hx))
    have h0 : ¬ x < 0 := by
      intro q
      rw [Int32.lt_iff_toInt_lt] at q
      rw [Int32.le_iff_toInt_le, nI_toInt (by omega)] at hx
      have e0 : (0 : Int32).toInt = 0 := by decide
      omega
    obtain ⟨n, hn, rfl⟩ := nI_of h0
    rw [nI_leI (by omega) hn] at hx
    exact x_breachAt f1 hn (some (-1)) (fun t h1 h2 h3 => by have := cnt_nB h1 h2; omega) (fun _ => rfl)
  · obtain ⟨t, ht, hb, hc⟩ := cnt_find (f := bt a) (n := n) 216 hn
    have hpk : pk t < 1200 := by unfold pk; split <;> omega
    refine .inl ⟨a, t, μ1, mu_up ν1 0 0 0, ht, hb, ?_, ?_, by rw [hc], ?_, up_s _ _ _ _, ⟨a, hI, r1, rm_th m1 0⟩⟩
    · unfold f_X8_requireBreach
      rw [e1, sb, x_breachAt f1 (by omega) (some (nI (pk t))) (fun s h1 h2 h3 => by rw [cnt_uniq hb h2 (hc.trans h3.symm)]) (fun q => by omega), sb, if_neg (by rw [q_m1 (by omega)]; exact id)]
    · unfold f_X9_tells_
      rw [e2, sb, e14, in_ok hn (by omega), sb, if_neg one0]
      unfold b_X9_tells__24
      rw [m_go0]
      rfl
    · have := t1.2 t ht hb
      unfold ent
      rw [up_n _ _ _ (by decide), up_n _ _ _ (by decide), up_n _ _ _ (by decide), up_n _ _ _ (by decide)]
      exact this
theorem eq_breachPerson {μ ν : Mem} (h : Rel μ ν) (x1 : Int32) : ∃ (o : String ⊕ Int32) (μ2 : Mem) (b : Int32) (ν2 : Mem) (k : Int32), f_X8_breachPerson μ x1 = some (o, μ2) ∧ f_X9_breachPerson ν x1 = some (b, ν2) ∧ ν2.1 0 0 = k ∧ Rel μ2 ν2 ∧ rv_ans ["java/util/NoSuchElementException"] o b k := by
  unfold f_X8_breachPerson f_X9_breachPerson
  rcases told h x1 with ⟨a, t, μ1, ν1, ht, hb, e1, e2, hx, he, h0, hR⟩ | ⟨μ1, ν1, e1, e2, h0, hR⟩
  · have hc := cnt_le (bt a) t
    rw [e1, e2, sb, sb, if_neg (show ¬ ((1 : Int32), ν1).1 = 0 from one0), hx, if_pos (gI (by omega) (by decide)), nI_clamp (by omega), he.2.1]
    have e3 : f_X8_personOf (nI (pk t)) = some (whoI t) := by
      unfold whoI
      rcases Nat.lt_or_ge t 192 with h1 | h1
      · rw [if_pos h1]
        exact un_p t h1
      · obtain ⟨i, rfl⟩ := Nat.exists_eq_add_of_le h1
        rw [if_neg (by omega)]
        exact us_p i (by omega)
    show ∃ (o : String ⊕ Int32) (μ2 : Mem) (b : Int32) (ν2 : Mem) (k : Int32), ((f_X8_personOf (nI (pk t))).bind fun r3 => some (Sum.inr r3, μ1)) = some (o, μ2) ∧ _
    rw [e3, sb]
    exact ⟨_, μ1, whoI t, ν1, 0, rfl, rfl, h0, hR, ans_ok _ _⟩
  · rw [e1, e2, sb, sb]
    exact ⟨_, μ1, 0, ν1, 1, rfl, rfl, h0, hR, ans_th 0 rfl _⟩
theorem eq_breachDay {μ ν : Mem} (h : Rel μ ν) (x1 : Int32) : ∃ (o : String ⊕ Int32) (μ2 : Mem) (b : Int32) (ν2 : Mem) (k : Int32), f_X8_breachDay μ x1 = some (o, μ2) ∧ f_X9_breachDay ν x1 = some (b, ν2) ∧ ν2.1 0 0 = k ∧ Rel μ2 ν2 ∧ rv_ans ["java/util/NoSuchElementException"] o b k := by
  unfold f_X8_breachDay f_X9_breachDay
  rcases told h x1 with ⟨a, t, μ1, ν1, ht, hb, e1, e2, hx, he, h0, hR⟩ | ⟨μ1, ν1, e1, e2, h0, hR⟩
  · have hc := cnt_le (bt a) t
    rw [e1, e2, sb, sb, if_neg (show ¬ ((1 : Int32), ν1).1 = 0 from one0), hx, if_pos (gI (by omega) (by decide)), nI_clamp (by omega), he.2.2.1]
    have e3 : f_X8_dayOf (nI (pk t)) = some (nI (dayT t)) := by
      unfold dayT
      rcases Nat.lt_or_ge t 192 with h1 | h1
      · rw [if_pos h1]
        exact un_d t h1
      · obtain ⟨i, rfl⟩ := Nat.exists_eq_add_of_le h1
        rw [if_neg (by omega), show 192 + i - 192 = i by omega]
        exact us_d i (by omega)
    show ∃ (o : String ⊕ Int32) (μ2 : Mem) (b : Int32) (ν2 : Mem) (k : Int32), ((f_X8_dayOf (nI (pk t))).bind fun r3 => some (Sum.inr r3, μ1)) = some (o, μ2) ∧ _
    rw [e3, sb]
    exact ⟨_, μ1, nI (dayT t), ν1, 0, rfl, rfl, h0, hR, ans_ok _ _⟩
  · rw [e1, e2, sb, sb]
    exact ⟨_, μ1, 0, ν1, 1, rfl, rfl, h0, hR, ans_th 0 rfl _⟩
theorem eq_breachShift {μ ν : Mem} (h : Rel μ ν) (x1 : Int32) : ∃ (o : String ⊕ Int32) (μ2 : Mem) (b : Int32) (ν2 : Mem) (k : Int32), f_X8_breachShift μ x1 = some (o, μ2) ∧ f_X9_breachShift ν x1 = some (b, ν2) ∧ ν2.1 0 0 = k ∧ Rel μ2 ν2 ∧ rv_ans ["java/util/NoSuchElementException"] o b k := by
  unfold f_X8_breachShift f_X9_breachShift
  rcases told h x1 with ⟨a, t, μ1, ν1, ht, hb, e1, e2, hx, he, h0, hR⟩ | ⟨μ1, ν1, e1, e2, h0, hR⟩
  · have hc := cnt_le (bt a) t
    rw [e1, e2, sb, sb, if_neg (show ¬ ((1 : Int32), ν1).1 = 0 from one0), hx, if_pos (gI (by omega) (by decide)), nI_clamp (by omega), he.2.2.2]
    have e3 : f_X8_shiftIn (nI (pk t)) = some (shI t) := by
      unfold shI
      rcases Nat.lt_or_ge t 192 with h1 | h1
      · rw [if_pos h1]
        exact un_s t h1
      · obtain ⟨i, rfl⟩ := Nat.exists_eq_add_of_le h1
        rw [if_neg (by omega), show 192 + i - 192 = i by omega]
        exact us_s i (by omega)
    show ∃ (o : String ⊕ Int32) (μ2 : Mem) (b : Int32) (ν2 : Mem) (k : Int32), ((f_X8_shiftIn (nI (pk t))).bind fun r3 => some (Sum.inr r3, μ1)) = some (o, μ2) ∧ _
    rw [e3, sb]
    exact ⟨_, μ1, shI t, ν1, 0, rfl, rfl, h0, hR, ans_ok _ _⟩
  · rw [e1, e2, sb, sb]
    exact ⟨_, μ1, 0, ν1, 1, rfl, rfl, h0, hR, ans_th 0 rfl _⟩
theorem kc_lt : ∀ k, k < 6 → rv_kc (nI k) = nI (lt6 k) := by decide +kernel
theorem ch_lt : ∀ k, k < 6 → rv_bc (nI (lt6 k)) = true := by decide +kernel
theorem eq_breachKind {μ ν : Mem} (h : Rel μ ν) (x1 : Int32) : ∃ (o : String ⊕ Int32) (μ2 : Mem) (b : Int32) (ν2 : Mem) (k : Int32), f_X8_breachKind μ x1 = some (o, μ2) ∧ f_X9_breachKind ν x1 = some (b, ν2) ∧ ν2.1 0 0 = k ∧ Rel μ2 ν2 ∧ rv_ans ["java/util/NoSuchElementException"] o b k := by
  unfold f_X8_breachKind f_X9_breachKind
  rcases told h x1 with ⟨a, t, μ1, ν1, ht, hb, e1, e2, hx, he, h0, hR⟩ | ⟨μ1, ν1, e1, e2, h0, hR⟩
  · have hc := cnt_le (bt a) t
    have e4 : rv_bc (nI (ltr t)) = true := by
      unfold ltr
      split
      · exact ch_lt _ (by omega)
      · decide
    rw [e1, e2, sb, sb, if_neg (show ¬ ((1 : Int32), ν1).1 = 0 from one0), hx, if_pos (gI (by omega) (by decide)), nI_clamp (by omega), he.1, if_pos e4]
    have e3 : ∃ k, k < 7 ∧ f_X8_kindOf (nI (pk t)) = some (nI k) ∧ rv_kc (nI k) = nI (ltr t) := by
      unfold ltr
      rcases Nat.lt_or_ge t 192 with h1 | h1
      · rw [if_pos h1]
        exact ⟨t / 32, by omega, un_k t h1, kc_lt _ (by omega)⟩
      · obtain ⟨i, rfl⟩ := Nat.exists_eq_add_of_le h1
        rw [if_neg (by omega)]
        exact ⟨6, by omega, us_k i (by omega), by decide⟩
    obtain ⟨k, hk, e5, e6⟩ := e3
    show ∃ (o : String ⊕ Int32) (μ2 : Mem) (b : Int32) (ν2 : Mem) (k : Int32), ((f_X8_kindOf (nI (pk t))).bind fun r3 => if 0 ≤ r3 ∧ r3 < 7 then some (Sum.inr (rv_kc r3), μ1) else some (Sum.inr 32, μ1)) = some (o, μ2) ∧ _
    rw [e5, sb, if_pos ⟨nI_pos' (by omega), nI_lt (b := 7) hk (by decide)⟩, e6]
    exact ⟨_, μ1, nI (ltr t), ν1, 0, rfl, rfl, h0, hR, ans_ok _ _⟩
  · rw [e1, e2, sb, sb]
    exact ⟨_, μ1, 0, ν1, 1, rfl, rfl, h0, hR, ans_th 0 rfl _⟩
theorem eq_mostBreaches {μ ν : Mem} (h : Rel μ ν) : ∃ (o : String ⊕ Int32) (μ2 : Mem) (b : Int32) (ν2 : Mem) (k : Int32), f_X8_mostBreaches μ = some (o, μ2) ∧ f_X9_mostBreaches ν = some (b, ν2) ∧ ν2.1 0 0 = k ∧ Rel μ2 ν2 ∧ rv_ans ["java/util/NoSuchElementException"] o b k := by
  obtain ⟨a, hI, r, m⟩ := h
  obtain ⟨μ1, e1, r1, f1, q1⟩ := x_look hI r (q := 13) (.inl rfl)
  obtain ⟨ν1, e2, m1, e3⟩ := m_mostB hI m
  have hb4 := bs_le a 192
  unfold f_X8_mostBreaches
  rw [e1, sb, x_mostB f1, sb, e2]
  by_cases h0 : bs a 192 = 0
  · rw [if_pos (by rw [h0]; rfl), if_pos h0]
    rw [if_pos h0] at e3
    exact ⟨_, μ1, 0, ν1, 1, rfl, rfl, e3, ⟨a, hI, r1, m1⟩, ans_th 0 rfl _⟩
  · have ez : zI ((bs a 192 : Int) - 1) = nI (bs a 192 - 1) := by
      rw [zI_n]
      congr 1
      omega
    rw [ez, if_neg (by rw [q_m1 (by omega)]; exact id), if_neg h0]
    rw [if_neg h0] at e3
    exact ⟨_, μ1, nI (bs a 192 - 1), ν1, 0, rfl, rfl, e3, ⟨a, hI, r1, m1⟩, ans_ok _ _⟩
/-- the size behind an exchange, or -1 -/
theorem x_after {a : AS} {μ : Mem} (h : Inv a) (r : repX a μ) (hF : FD 13 a μ) {p o d : Nat} (hp : p < a 0 0) (ho : o < a 0 0) (hpo : p ≠ o) (hd : d < 8) : ∃ b μ', f_X8_sizeAfterExchange μ (nI p) (nI o) (nI d) = some (if b = true then nI (nB (xc a p o d)) else -1, μ') ∧ repX a μ' ∧ FD 13 a μ' ∧ (b = true ↔ ∀ t, t < 216 → bt (xc a p o d) t = true → bt a t = true) := by
  have hP := iv_P h
  have hI := xc_inv h hp ho hd
  obtain ⟨μ1, e1, r1, q1⟩ := x_exchange h r hp ho hd
  obtain ⟨μ2, e2, r2, f2, q2⟩ := x_look hI r1 (q := 15) (.inr (.inl rfl))
  obtain ⟨μ3, e3, r3, q3⟩ := x_exchange hI r2 (p := p) (o := o) hp ho hd
  rw [xc_xc a hpo] at r3
  have f13 : FD 13 a μ3 := FD_fr (FD_fr (FD_fr hF q1 (by decide) (by decide)) q2 (by decide) (by decide)) q3 (by decide) (by decide)
  have f15 : FD 15 (xc a p o d) μ3 := FD_fr f2 q3 (by decide) (by decide)
  obtain ⟨b, e4, hb⟩ := x_isPartOf f15 f13
  refine ⟨b, μ3, ?_, r3, f13, hb⟩
  unfold f_X8_sizeAfterExchange
  rw [e1, sb, e2, sb, e3, sb, e4, sb]
  cases b
  · rw [if_pos (by decide), if_neg (by decide)]
  · rw [if_neg (by decide), if_pos rfl, x_size f15, sb]
theorem eq_swap {μ ν : Mem} (h : Rel μ ν) (x1 x2 x3 : Int32) : ∃ (o : String ⊕ Int32) (μ2 : Mem) (b : Int32) (ν2 : Mem) (k : Int32), f_X8_swap μ x1 x2 x3 = some (o, μ2) ∧ f_X9_swap ν x1 x2 x3 = some (b, ν2) ∧ ν2.1 0 0 = k ∧ Rel μ2 ν2 ∧ rv_ans ["java/lang/IndexOutOfBoundsException", "java/lang/IllegalArgumentException", "java/lang/UnsupportedOperationException"] o b k := by
  obtain ⟨a, hI, r, m⟩ := h
  have hP := iv_P hI
  unfold f_X8_swap f_X9_swap
  have e60 : ∀ (ν : Mem) (k : Int32), k ≠ 0 → b_X9_swap_60 ν x1 x2 x3 k = some (0, mu_up ν 0 0 k) := by
    intro ν k hk
    unfold b_X9_swap_60
    rw [m_goN ν hk, sb, if_pos (show ((0 : Int32), mu_up ν 0 0 k).1 = 0 from rfl)]
  have eN : ∀ k : Int32, k ≠ 0 → b_X9_swap_37 ν x1 x2 x3 k = some (0, mu_up ν 0 0 k) := by
    intro k hk
    unfold b_X9_swap_37 b_X9_swap_58
    rw [if_neg hk]
    exact e60 ν k hk
  rcases pers hI r m x1 with ⟨p, hp, rfl, e1, e2⟩ | ⟨e1, e2⟩
  · rw [e1, e2, sb, sb, tmr, if_neg one0]
    rcases pers hI r m x2 with ⟨o, ho, rfl, e3, e4⟩ | ⟨e3, e4⟩
    · rw [e3, e4, sb, sb, tmr, if_neg one0]
      rcases days x3 with ⟨d, hd, rfl, e5, e6⟩ | ⟨e5, e6⟩
      · rw [e5, e6, sb, sb, tmr, if_neg one0]
        by_cases hpo : p = o
        · rw [if_pos (show nI p = nI o by rw [hpo]), if_pos (show nI p = nI o by rw [hpo]), eN 2 (by decide)]
          exact ⟨_, μ, 0, mu_up ν 0 0 2, 2, rfl, rfl, rfl, th_fin hI r m 2, ans_th 1 rfl _⟩
        · have hne : ¬ (nI p = nI o) := by rw [nI_eq (by omega) (by omega)]; exact hpo
          obtain ⟨μ1, e7, r1, f1, q1⟩ := x_look hI r (q := 13) (.inl rfl)
          obtain ⟨b, μ2, e8, r2, f2, hb⟩ := x_after hI r1 f1 hp ho hpo hd
          obtain ⟨b', ν1, e9, m1, hb', e14⟩ := m_fair hI m hp ho hpo hd
          have hbb : b = b' := by rw [Bool.eq_iff_iff, hb, hb']
          have hnb := nB_le (xc a p o d)
          subst hbb
          rw [if_neg hne, if_neg hne, e7, sb, e8, sb]
          unfold b_X9_swap_37
          rw [if_pos rfl, e9, sb]
          cases hbv : b
          · rw [if_pos (show ((if false = true then nI (nB (xc a p o d)) else -1 : Int32), μ2).1 = -1 from rfl), if_pos (show (bI false, ν1).1 = 0 from rfl)]
            refine ⟨_, μ2, 0, mu_up ν1 0 0 3, 3, rfl, ?_, rfl, th_fin hI r2 m1 3, ans_th 2 rfl _⟩
            exact e60 ν1 3 (by decide)
          · obtain ⟨μ3, e10, r3, _⟩ := x_exchange hI r2 hp ho hd
            obtain ⟨ν3, e11, m3, _⟩ := m_exch hI (rm_th m1 0) (show p < 4 by omega) (show o < 4 by omega) hd
            obtain ⟨ν4, e12, m4, g4', t4⟩ := m_tellsAll (xc_inv hI hp ho hd) m3
            have e144 : ν4.1 0 14 = nI (nB (xc a p o d)) := t4.1
            rw [if_neg (show ¬ ((if true = true then nI (nB (xc a p o d)) else -1 : Int32), μ2).1 = -1 from (show ¬ (nI (nB (xc a p o d)) = -1) by rw [q_m1 (by omega)]; exact id)), if_neg (show ¬ (bI true, ν1).1 = 0 from one0)]
            refine ⟨_, μ3, nI (nB (xc a p o d)), ν4, 0, ?_, ?_, ?_, ⟨xc a p o d, xc_inv hI hp ho hd, r3, m4⟩, ans_ok _ _⟩
            · show ((f_X5_exchange μ2 (nI p) (nI o) (nI d)).bind fun r11 => some (Sum.inr (nI (nB (xc a p o d))), r11.2)) = _
              rw [e10, sb]
            · unfold b_X9_swap_58 b_X9_swap_60
              show ((f_X9_goesOn ν1 0).bind _) = _
              rw [m_go0, sb, if_neg (show ¬ ((1 : Int32), mu_up ν1 0 0 0).1 = 0 from one0)]
              show ((f_X9_exchanges (mu_up ν1 0 0 0) (nI p) (nI o) (nI d)).bind _) = _
              rw [e11, sb, e12, sb, e144]
            · rw [g4' 0 0 (by unfold scT; omega)]
              have q3 : eqo [3] (mu_up ν1 0 0 0) ν3 := by assumption
              rw [q3.1 0 (by decide)]
              exact up_s _ _ _ _
      · rw [e5, e6, sb, sb, tml, if_pos rfl, eN 1 (by decide)]
        exact ⟨_, μ, 0, mu_up ν 0 0 1, 1, rfl, rfl, rfl, th_fin hI r m 1, ans_th 0 rfl _⟩
    · rw [e3, e4, sb, sb, tml, if_pos rfl, eN 1 (by decide)]
      exact ⟨_, μ, 0, mu_up ν 0 0 1, 1, rfl, rfl, rfl, th_fin hI r m 1, ans_th 0 rfl _⟩
  · rw [e1, e2, sb, sb, tml, if_pos rfl, eN 1 (by decide)]
    exact ⟨_, μ, 0, mu_up ν 0 0 1, 1, rfl, rfl, rfl, th_fin hI r m 1, ans_th 0 rfl _⟩
/-- an exchange with o is fair and leaves fewer breaches -/
def better (a : AS) (p d o : Nat) : Prop := o ≠ p ∧ (∀ t, t < 216 → bt (xc a p o d) t = true → bt a t = true) ∧ nB (xc a p o d) < nB a
theorem x_part {a : AS} {μ : Mem} (h : Inv a) (r : repX a μ) (hF : FD 13 a μ) {p d : Nat} (hp : p < a 0 0) (hd : d < 8) : ∃ μ', repX a μ' ∧ ((∃ o, o < a 0 0 ∧ better a p d o ∧ (∀ o', o' < o → ¬ better a p d o') ∧ rv_ls (B_X8_partner_31 (nI p) (nI d) (nI (nB a))) (fun _ _ => none) 300 μ (nI 0) = some (.inr (nI o), μ')) ∨ ((∀ o, o < a 0 0 → ¬ better a p d o) ∧ rv_ls (B_X8_partner_31 (nI p) (nI d) (nI (nB a))) (fun _ _ => none) 300 μ (nI 0) = some (.inl "java/util/NoSuchElementException", μ'))) := by
  have hP := iv_P h
  have hnb := nB_le a
  have key := lp (B_X8_partner_31 (nI p) (nI d) (nI (nB a))) (fun _ _ => none) (σ := Nat × Mem) (fun s g => g s.2 (nI s.1)) (fun i s => s.1 = i ∧ repX a s.2 ∧ FD 13 a s.2 ∧ ∀ o', o' < i → ¬ better a p d o') (fun x => ∃ μ', repX a μ' ∧ ((∃ o, o < a 0 0 ∧ better a p d o ∧ (∀ o', o' < o → ¬ better a p d o') ∧ x = some (.inr (nI o), μ')) ∨ ((∀ o, o < a 0 0 → ¬ better a p d o) ∧ x = some (.inl "java/util/NoSuchElementException", μ')))) (a 0 0) ?_ ?_ 300 0 (0, μ) (by omega) (by omega) ⟨rfl, r, hF, fun o' ho' => by omega⟩
  · exact key
  · rintro i ⟨o, μ1⟩ ho ⟨rfl, hr, hf, hn⟩
    have ho : o < a 0 0 := ho
    have hr : repX a μ1 := hr
    have skip : ∀ μ2, repX a μ2 → FD 13 a μ2 → ¬ better a p d o → (∀ L, B_X8_partner_31 (nI p) (nI d) (nI (nB a)) L μ1 (nI o) = L μ2 (nI (o + 1))) → ∃ s' : Nat × Mem, (s'.1 = o + 1 ∧ repX a s'.2 ∧ FD 13 a s'.2 ∧ ∀ o', o' < o + 1 → ¬ better a p d o') ∧ ∀ L, B_X8_partner_31 (nI p) (nI d) (nI (nB a)) L μ1 (nI o) = L s'.2 (nI s'.1) := by
      intro μ2 h1 h2 h3 h4
      refine ⟨(o + 1, μ2), ⟨rfl, h1, h2, fun o' h5 => ?_⟩, h4⟩
      by_cases h6 : o' = o
      · rw [h6]
        exact h3
      · exact hn o' (show o' < o by omega)
    by_cases hop : o = p
    · refine .inr (skip μ1 hr hf (fun q => q.1 hop) (fun L => ?_))
      unfold B_X8_partner_31 b_X8_partner_61
      rw [rx_P hr, if_neg (nI_ge ho (by omega)), if_pos (show nI o = nI p by rw [hop]), if_pos rfl, nI_1]
    · obtain ⟨b, μ2, e8, r2, f2, hb⟩ := x_after h hr hf hp ho (Ne.symm hop) hd
      have hnb2 := nB_le (xc a p o d)
      have go : ∀ L, B_X8_partner_31 (nI p) (nI d) (nI (nB a)) L μ1 (nI o) = b_X8_partner_61 μ2 L (nI p) (nI d) (nI (nB a)) (nI o) (if b = true then nI (nB (xc a p o d)) else -1) := by
        intro L
        unfold B_X8_partner_31
        rw [rx_P hr, if_neg (nI_ge ho (by omega)), if_neg (show ¬ (nI o = nI p) by rw [nI_eq (by omega) (by omega)]; exact hop), e8, sb]
      cases hbv : b
      · refine .inr (skip μ2 r2 f2 (fun q => by have := hb.mpr q.2.1; rw [hbv] at this; cases this) (fun L => ?_))
        rw [go, hbv]
        unfold b_X8_partner_61
        rw [if_pos (show (if false = true then nI (nB (xc a p o d)) else -1 : Int32) = -1 from rfl), nI_1]
      · have hfair := hb.mp hbv
        by_cases hlt : nB (xc a p o d) < nB a
        · refine .inl fun L => ⟨μ2, r2, .inl ⟨o, ho, ⟨hop, hfair, hlt⟩, hn, ?_⟩⟩
          show B_X8_partner_31 (nI p) (nI d) (nI (nB a)) L μ1 (nI o) = _
          rw [go, hbv, if_pos rfl]
          unfold b_X8_partner_61
          rw [if_neg (show ¬ (nI (nB (xc a p o d)) = -1) by rw [q_m1 (by omega)]; exact id), if_neg (nI_ge hlt (by omega))]
        · refine .inr (skip μ2 r2 f2 (fun q => hlt q.2.2) (fun L => ?_))
          rw [go, hbv, if_pos rfl]
          unfold b_X8_partner_61
          rw [if_neg (show ¬ (nI (nB (xc a p o d)) = -1) by rw [q_m1 (by omega)]; exact id), if_pos (nI_le (by omega) (by omega)), nI_1]
  · rintro ⟨o, μ1⟩ ⟨e, hr, hf, hn⟩ L
    have e : o = a 0 0 := e
    subst e
    have hr : repX a μ1 := hr
    refine ⟨μ1, hr, .inr ⟨fun o ho => hn o ho, ?_⟩⟩
    show B_X8_partner_31 (nI p) (nI d) (nI (nB a)) L μ1 (nI (a 0 0)) = _
    unfold B_X8_partner_31
    rw [rx_P hr, if_pos (nI_le (Nat.le_refl _) (by omega))]
theorem m_part {a : AS} {ν : Mem} (h : Inv a) (m : repM a ν) {p d : Nat} (hp : p < a 0 0) (hd : d < 8) : ∃ ν', repM a ν' ∧ ((∃ o, o < a 0 0 ∧ better a p d o ∧ (∀ o', o' < o → ¬ better a p d o') ∧ f_X9_partnerOf ν (nI p) (nI d) = some (nI o, ν')) ∨ ((∀ o, o < a 0 0 → ¬ better a p d o) ∧ f_X9_partnerOf ν (nI p) (nI d) = some (-1, ν'))) := by
  have hP := iv_P h
  have hnb := nB_le a
  obtain ⟨ν1, e1, m1, g1, t1⟩ := m_tellsAll h m
  have e14 : ν1.1 0 14 = nI (nB a) := t1.1
  unfold f_X9_partnerOf
  rw [e1, sb, e14, rv_seal]
  have key := lp (B_X9_partnerOf_12 (nI p) (nI d) (nI (nB a))) (fun _ _ => none) (σ := Nat × Mem) (fun s g => g s.2 (nI s.1)) (fun i s => s.1 = i ∧ repM a s.2 ∧ ∀ o', o' < i → ¬ better a p d o') (fun x => ∃ ν', repM a ν' ∧ ((∃ o, o < a 0 0 ∧ better a p d o ∧ (∀ o', o' < o → ¬ better a p d o') ∧ x = some (nI o, ν')) ∨ ((∀ o, o < a 0 0 → ¬ better a p d o) ∧ x = some (-1, ν')))) (a 0 0) ?_ ?_ 300 0 (0, ν1) (by omega) (by omega) ⟨rfl, m1, fun o' ho' => by omega⟩
  · exact key
  · rintro i ⟨o, μ1⟩ ho ⟨rfl, hr, hn⟩
    have ho : o < a 0 0 := ho
    have hr : repM a μ1 := hr
    have skip : ∀ μ2, repM a μ2 → ¬ better a p d o → (∀ L, B_X9_partnerOf_12 (nI p) (nI d) (nI (nB a)) L μ1 (nI o) = L μ2 (nI (o + 1))) → ∃ s' : Nat × Mem, (s'.1 = o + 1 ∧ repM a s'.2 ∧ ∀ o', o' < o + 1 → ¬ better a p d o') ∧ ∀ L, B_X9_partnerOf_12 (nI p) (nI d) (nI (nB a)) L μ1 (nI o) = L s'.2 (nI s'.1) := by
      intro μ2 h1 h3 h4
      refine ⟨(o + 1, μ2), ⟨rfl, h1, fun o' h5 => ?_⟩, h4⟩
      by_cases h6 : o' = o
      · rw [h6]
        exact h3
      · exact hn o' (show o' < o by omega)
    by_cases hop : o = p
    · refine .inr (skip μ1 hr (fun q => q.1 hop) (fun L => ?_))
      unfold B_X9_partnerOf_12
      rw [rm_P hr, if_neg (nI_ge ho (by omega)), if_pos (show nI o = nI p by rw [hop]), nI_1]
    · obtain ⟨b, μ2, e8, r2, hb, e142⟩ := m_fair h hr hp ho (Ne.symm hop) hd
      have hnb2 := nB_le (xc a p o d)
      have go : ∀ L, B_X9_partnerOf_12 (nI p) (nI d) (nI (nB a)) L μ1 (nI o) = if bI b = 0 then L μ2 (nI (o + 1)) else if nI (nB a) ≤ nI (nB (xc a p o d)) then L μ2 (nI (o + 1)) else some (nI o, μ2) := by
        intro L
        unfold B_X9_partnerOf_12
        rw [rm_P hr, if_neg (nI_ge ho (by omega)), if_neg (show ¬ (nI o = nI p) by rw [nI_eq (by omega) (by omega)]; exact hop), e8, sb, nI_1, e142]
      cases hbv : b
      · refine .inr (skip μ2 r2 (fun q => by have := hb.mpr q.2.1; rw [hbv] at this; cases this) (fun L => ?_))
        rw [go, hbv, if_pos (by decide)]
      · have hfair := hb.mp hbv
        by_cases hlt : nB (xc a p o d) < nB a
        · refine .inl fun L => ⟨μ2, r2, .inl ⟨o, ho, ⟨hop, hfair, hlt⟩, hn, ?_⟩⟩
          show B_X9_partnerOf_12 (nI p) (nI d) (nI (nB a)) L μ1 (nI o) = _
          rw [go, hbv, if_neg (by decide), if_neg (nI_ge hlt (by omega))]
        · refine .inr (skip μ2 r2 (fun q => hlt q.2.2) (fun L => ?_))
          rw [go, hbv, if_neg (by decide), if_pos (nI_le (by omega) (by omega))]
  · rintro ⟨o, μ1⟩ ⟨e, hr, hn⟩ L
    have e : o = a 0 0 := e
    subst e
    have hr : repM a μ1 := hr
    refine ⟨μ1, hr, .inr ⟨fun o ho => hn o ho, ?_⟩⟩
    show B_X9_partnerOf_12 (nI p) (nI d) (nI (nB a)) L μ1 (nI (a 0 0)) = _
    unfold B_X9_partnerOf_12
    rw [rm_P hr, if_pos (nI_le (Nat.le_refl _) (by omega))]
theorem eq_partner {μ ν : Mem} (h : Rel μ ν) (x1 x2 : Int32) : ∃ (o : String ⊕ Int32) (μ2 : Mem) (b : Int32) (ν2 : Mem) (k : Int32), f_X8_partner μ x1 x2 = some (o, μ2) ∧ f_X9_partner ν x1 x2 = some (b, ν2) ∧ ν2.1 0 0 = k ∧ Rel μ2 ν2 ∧ rv_ans ["java/lang/IndexOutOfBoundsException", "java/util/NoSuchElementException"] o b k := by
  obtain ⟨a, hI, r, m⟩ := h
  have hP := iv_P hI
  unfold f_X8_partner f_X9_partner
  have e53 : ∀ (ν : Mem) (z k : Int32), k ≠ 0 → b_X9_partner_53 ν z k = some (0, mu_up ν 0 0 k) := by
    intro ν z k hk
    unfold b_X9_partner_53
    rw [m_goN ν hk, sb, if_pos (show ((0 : Int32), mu_up ν 0 0 k).1 = 0 from rfl)]
  have eN : b_X9_partner_20 ν x1 x2 1 = some (0, mu_up ν 0 0 1) := by
    unfold b_X9_partner_20 b_X9_partner_35 b_X9_partner_52
    rw [if_neg one0, if_neg one0]
    exact e53 ν (-1) 1 one0
  rcases pers hI r m x1 with ⟨p, hp, rfl, e1, e2⟩ | ⟨e1, e2⟩
  · rw [e1, e2, sb, sb, tmr, if_neg one0]
    rcases days x2 with ⟨d, hd, rfl, e3, e4⟩ | ⟨e3, e4⟩
    · obtain ⟨μ1, e7, r1, f1, q1⟩ := x_look hI r (q := 13) (.inl rfl)
      obtain ⟨μ2, r2, hx⟩ := x_part hI r1 f1 hp hd
      obtain ⟨ν2, m2, hm⟩ := m_part hI m hp hd
      rw [e3, e4, sb, sb, tmr, if_neg one0, e7, sb, x_size f1, sb, rv_seal]
      unfold b_X9_partner_20 b_X9_partner_35 b_X9_partner_52
      rw [if_pos rfl]
      rcases hx with ⟨o, ho, hbo, hno, ex⟩ | ⟨hno, ex⟩
      · rcases hm with ⟨o', ho', hbo', hno', em⟩ | ⟨hno', em⟩
        · have hoo : o = o' := by
            rcases Nat.lt_trichotomy o o' with q | q | q
            · exact absurd hbo (hno' o q)
            · exact q
            · exact absurd hbo' (hno o' q)
          subst hoo
          refine ⟨_, μ2, nI o, mu_up ν2 0 0 0, 0, ex, ?_, up_s _ _ _ _, ⟨a, hI, r2, rm_th m2 0⟩, ans_ok _ _⟩
          rw [em, sb, if_pos rfl, if_neg (show ¬ ((nI o, ν2).1 = -1) from (show ¬ (nI o = -1) by rw [q_m1 (by omega)]; exact id))]
          unfold b_X9_partner_53
          rw [m_go0]
          rfl
        · exact absurd hbo (hno' o ho)
      · rcases hm with ⟨o', ho', hbo', hno', em⟩ | ⟨hno', em⟩
        · exact absurd hbo' (hno o' ho')
        · refine ⟨_, μ2, 0, mu_up ν2 0 0 2, 2, ex, ?_, up_s _ _ _ _, ⟨a, hI, r2, rm_th m2 2⟩, ans_th 1 rfl _⟩
          rw [em, sb, if_pos rfl, if_pos (show ((-1 : Int32), ν2).1 = -1 from rfl)]
          exact e53 ν2 (-1) 2 (by decide)
    · rw [e3, e4, sb, sb, tml, if_pos rfl, eN]
      exact ⟨_, μ, 0, mu_up ν 0 0 1, 1, rfl, rfl, rfl, th_fin hI r m 1, ans_th 0 rfl _⟩
  · rw [e1, e2, sb, sb, tml, if_pos rfl, eN]
    exact ⟨_, μ, 0, mu_up ν 0 0 1, 1, rfl, rfl, rfl, th_fin hI r m 1, ans_th 0 rfl _⟩
