/-! the reference: lawful; the place of a breach; an exchange that brings no new breach -/
theorem LW_mk (a : AS) : LW a ↔ ((∀ d j, d < 8 → j < 3 → sh a d j = false) ∧ ∀ k p d, k < 6 → p < 4 → d < 8 → brk a k p d = false) := by
  constructor
  · intro h
    refine ⟨fun d j hd hj => ?_, fun k p d hk hp hd => ?_⟩
    · have := h (192 + (3 * d + j)) (by omega)
      rw [bt_s (by omega)] at this
      unfold shB at this
      rw [decide_eq_true (by omega), show (3 * d + j) / 3 = d by omega, show (3 * d + j) % 3 = j by omega] at this
      exact this
    · rw [← bt_k hk hp hd]
      exact h _ (by omega)
  · rintro ⟨h1, h2⟩ t ht
    rcases Nat.lt_or_ge t 192 with h3 | h3
    · rw [show t = 32 * (t / 32) + 8 * (t / 8 % 4) + t % 8 by omega, bt_k (by omega) (by omega) (by omega)]
      exact h2 _ _ _ (by omega) (by omega) (by omega)
    · obtain ⟨i, rfl⟩ := Nat.exists_eq_add_of_le h3
      rw [bt_s (by omega)]
      unfold shB
      rw [h1 _ _ (by omega) (by omega)]
      simp
theorem m_la10 {a : AS} {ν : Mem} (h : Inv a) (r : repM a ν) {d : Nat} (hd : d < 8) : ∃ q : (Int32 → Option Int32) → Option Int32, (((∃ j, j < 3 ∧ sh a d j = true) ∧ ∀ b, q b = some 0) ∨ ((∀ j, j < 3 → sh a d j = false) ∧ ∀ b, q b = b (nI (d + 1)))) ∧ ∀ b, rv_ls (B_X9_isLawful_10 ν (nI d) b) (fun _ => none) 300 (nI 0) = q b := by
  have hS := iv_S h
  have key := lu (fun b => B_X9_isLawful_10 ν (nI d) b) (fun _ => none) (σ := Nat) (fun s g => g (nI s)) (fun i s => s = i ∧ ∀ j, j < i → sh a d j = false) (fun q => ((∃ j, j < 3 ∧ sh a d j = true) ∧ ∀ b, q b = some 0) ∨ ((∀ j, j < 3 → sh a d j = false) ∧ ∀ b, q b = b (nI (d + 1)))) (a 0 1) ?_ ?_ 300 0 0 (by omega) (by omega) ⟨rfl, fun j hj => by omega⟩
  · exact key
  · rintro i j hj ⟨rfl, hn⟩
    have hdm := iv_dem h (3 * d + j) (by omega)
    have hcs := cntS_le a d j 4
    have e0 : ∀ b X, B_X9_isLawful_10 ν (nI d) b X (nI j) = if nI (a 6 (3 * d + j)) ≤ nI (cntS a d j 4) then X (nI (j + 1)) else some 0 := by
      intro b X
      unfold B_X9_isLawful_10
      rw [rm_S r, if_neg (nI_ge hj (by omega)), m_onShift h r hd (by omega), sb, i3, if_pos (gI (by omega) (by decide)), nI_clamp (by omega), rm_dem r _ (by omega), nI_1]
    cases hb : sh a d j
    · have : ¬ (cntS a d j 4 < a 6 (3 * d + j)) := of_decide_eq_false hb
      refine .inr ⟨j + 1, ⟨rfl, fun j2 h2 => ?_⟩, fun b X => ?_⟩
      · by_cases h3 : j2 = j
        · rw [h3]
          exact hb
        · exact hn j2 (by omega)
      · show B_X9_isLawful_10 ν (nI d) b X (nI j) = _
        rw [e0, if_pos (nI_le (by omega) (by omega))]
    · have : cntS a d j 4 < a 6 (3 * d + j) := of_decide_eq_true hb
      refine .inl ⟨fun _ => some 0, .inl ⟨⟨j, by omega, hb⟩, fun _ => rfl⟩, fun b X => ?_⟩
      show B_X9_isLawful_10 ν (nI d) b X (nI j) = _
      rw [e0, if_neg (nI_ge (by omega) (by omega))]
  · rintro j ⟨rfl, hn⟩
    refine ⟨fun b => b (nI (d + 1)), .inr ⟨fun j hj => ?_, fun _ => rfl⟩, fun b X => ?_⟩
    · rcases Nat.lt_or_ge j (a 0 1) with h1 | h1
      · exact hn j h1
      · exact sh_S h hd hj h1
    · show B_X9_isLawful_10 ν (nI d) b X (nI (a 0 1)) = _
      unfold B_X9_isLawful_10
      rw [rm_S r, if_pos (nI_le (Nat.le_refl _) (by omega)), nI_1]
theorem m_la61 {a : AS} {ν : Mem} (h : Inv a) (r : repM a ν) {k : Nat} (hk : k < 6) : ∃ q : (Int32 → Option Int32) → Option Int32, (((∃ p d, p < 4 ∧ d < 8 ∧ brk a k p d = true) ∧ ∀ b, q b = some 0) ∨ ((∀ p d, p < 4 → d < 8 → brk a k p d = false) ∧ ∀ b, q b = b (nI (k + 1)))) ∧ ∀ b, rv_ls (B_X9_isLawful_61 ν (nI k) b) (fun _ => none) 300 (nI 0) = q b := by
  have hP := iv_P h
  have key := lu (fun b => B_X9_isLawful_61 ν (nI k) b) (fun _ => none) (σ := Nat) (fun s g => g (nI s)) (fun i s => s = i ∧ ∀ c, c < i → brk a k (c / 8) (c % 8) = false) (fun q => ((∃ p d, p < 4 ∧ d < 8 ∧ brk a k p d = true) ∧ ∀ b, q b = some 0) ∨ ((∀ p d, p < 4 → d < 8 → brk a k p d = false) ∧ ∀ b, q b = b (nI (k + 1)))) (8 * a 0 0) ?_ ?_ 300 0 0 (by omega) (by omega) ⟨rfl, fun j hj => by omega⟩
  · exact key
  · rintro i c hc ⟨rfl, hn⟩
    have hc32 : c < 32 := by omega
    have e0 : ∀ b X, B_X9_isLawful_61 ν (nI k) b X (nI c) = if bI (brk a k (c / 8) (c % 8)) = 0 then X (nI (c + 1)) else some 0 := by
      intro b X
      unfold B_X9_isLawful_61
      rw [rm_P r, show 8 * nI (a 0 0) = nI (8 * a 0 0) from pk_mul 8 _, if_neg (nI_ge hc (by omega)), m8 hc32, d8 hc32, m_isBreach h r hk (by omega) (by omega), sb, nI_1]
    cases hb : brk a k (c / 8) (c % 8)
    · refine .inr ⟨c + 1, ⟨rfl, fun c2 h2 => ?_⟩, fun b X => ?_⟩
      · by_cases h3 : c2 = c
        · rw [h3]
          exact hb
        · exact hn c2 (by omega)
      · show B_X9_isLawful_61 ν (nI k) b X (nI c) = _
        rw [e0, hb, if_pos (by decide)]
    · refine .inl ⟨fun _ => some 0, .inl ⟨⟨c / 8, c % 8, by omega, by omega, hb⟩, fun _ => rfl⟩, fun b X => ?_⟩
      show B_X9_isLawful_61 ν (nI k) b X (nI c) = _
      rw [e0, hb, if_neg (by decide)]
  · rintro c ⟨rfl, hn⟩
    refine ⟨fun b => b (nI (k + 1)), .inr ⟨fun p d hp hd => ?_, fun _ => rfl⟩, fun b X => ?_⟩
    · rcases Nat.lt_or_ge p (a 0 0) with h1 | h1
      · have := hn (8 * p + d) (by omega)
        rw [show (8 * p + d) / 8 = p by omega, show (8 * p + d) % 8 = d by omega] at this
        exact this
      · exact brk_P h hk hp h1 hd
    · show B_X9_isLawful_61 ν (nI k) b X (nI (8 * a 0 0)) = _
      unfold B_X9_isLawful_61
      rw [rm_P r, show 8 * nI (a 0 0) = nI (8 * a 0 0) from pk_mul 8 _, if_pos (nI_le (Nat.le_refl _) (by omega)), nI_1]
theorem m_lawful {a : AS} {ν : Mem} (h : Inv a) (r : repM a ν) : ∃ b, f_X9_isLawful ν = some (bI b) ∧ (b = true ↔ LW a) := by
  unfold f_X9_isLawful
  rw [rv_seal]
  have key := lp (B_X9_isLawful_2 ν) (fun _ => none) (σ := Nat) (fun s g => g (nI s)) (fun i s => s = i ∧ ∀ d j, d < i → j < 3 → sh a d j = false) (fun x => ∃ b, x = some (bI b) ∧ (b = true ↔ LW a)) 8 ?_ ?_ 300 0 0 (by omega) (by omega) ⟨rfl, fun d j hd => by omega⟩
  · exact key
  · rintro i d hd ⟨rfl, hn⟩
    have e0 : ∀ L, B_X9_isLawful_2 ν L (nI d) = rv_ls (B_X9_isLawful_10 ν (nI d) L) (fun _ => none) 300 (nI 0) := by
      intro L
      unfold B_X9_isLawful_2
      rw [if_neg (g8 hd), rv_seal]
      rfl
    obtain ⟨q, hq, hL⟩ := m_la10 h r hd
    rcases hq with ⟨⟨j, hj, hs⟩, h1⟩ | ⟨h0, h1⟩
    · refine .inl fun L => ⟨false, ?_, ⟨fun e => (by cases e), fun hl => ?_⟩⟩
      · show B_X9_isLawful_2 ν L (nI d) = _
        rw [e0, hL, h1]
        rfl
      · rw [((LW_mk a).mp hl).1 d j hd hj] at hs
        cases hs
    · refine .inr ⟨d + 1, ⟨rfl, fun d2 j h2 h3 => ?_⟩, fun L => ?_⟩
      · by_cases h4 : d2 = d
        · rw [h4]
          exact h0 j h3
        · exact hn d2 j (by omega) h3
      · show B_X9_isLawful_2 ν L (nI d) = _
        rw [e0, hL, h1]
  · rintro d ⟨rfl, hn⟩ L
    show ∃ b, B_X9_isLawful_2 ν L (nI 8) = _ ∧ _
    unfold B_X9_isLawful_2
    rw [if_pos (by decide), rv_seal]
    have key := lp (B_X9_isLawful_53 ν) (fun _ => none) (σ := Nat) (fun s g => g (nI s)) (fun i s => s = i ∧ ∀ k p d, k < i → p < 4 → d < 8 → brk a k p d = false) (fun x => ∃ b, x = some (bI b) ∧ (b = true ↔ LW a)) 6 ?_ ?_ 300 0 0 (by omega) (by omega) ⟨rfl, fun k p d hk => by omega⟩
    · exact key
    · rintro i k hk ⟨rfl, hn2⟩
      have e0 : ∀ L, B_X9_isLawful_53 ν L (nI k) = rv_ls (B_X9_isLawful_61 ν (nI k) L) (fun _ => none) 300 (nI 0) := by
        intro L
        unfold B_X9_isLawful_53
        rw [if_neg (g6 hk), rv_seal]
        rfl
      obtain ⟨q, hq, hL⟩ := m_la61 h r hk
      rcases hq with ⟨⟨p, d, hp, hd, hs⟩, h1⟩ | ⟨h0, h1⟩
      · refine .inl fun L => ⟨false, ?_, ⟨fun e => (by cases e), fun hl => ?_⟩⟩
        · show B_X9_isLawful_53 ν L (nI k) = _
          rw [e0, hL, h1]
          rfl
        · rw [((LW_mk a).mp hl).2 k p d hk hp hd] at hs
          cases hs
      · refine .inr ⟨k + 1, ⟨rfl, fun k2 p d h2 h3 h5 => ?_⟩, fun L => ?_⟩
        · by_cases h4 : k2 = k
          · rw [h4]
            exact h0 p d h3 h5
          · exact hn2 k2 p d (by omega) h3 h5
        · show B_X9_isLawful_53 ν L (nI k) = _
          rw [e0, hL, h1]
    · rintro k ⟨rfl, hn2⟩ L
      refine ⟨true, ?_, ⟨fun _ => (LW_mk a).mpr ⟨fun d j hd hj => hn d j hd hj, fun k p d hk hp hd => hn2 k p d hk hp hd⟩, fun _ => rfl⟩⟩
      show B_X9_isLawful_53 ν L (nI 6) = _
      unfold B_X9_isLawful_53
      rw [if_pos (by decide)]
      rfl
theorem lt6_100 : ∀ k, k < 6 → ¬ (nI (lt6 k) = 100) := by decide +kernel
theorem lt6_eq : ∀ k, k < 6 → ∀ j, j < 6 → (nI (lt6 j) = nI (lt6 k) ↔ j = k) := by decide +kernel
theorem m_placeOf {a : AS} {ν : Mem} (hT : TL a 216 ν) {t : Nat} (ht : t < 216) (hb : bt a t = true) : f_X9_placeOf ν (nI (cnt (bt a) t)) = some (nI t) := by
  have hc := cnt_le (bt a) t
  obtain ⟨e7, e8, e9, e10⟩ := hT.2 t ht hb
  unfold f_X9_placeOf
  rw [if_pos (gI (by omega) (by decide)), nI_clamp (by omega), e7, e9, e10]
  unfold ltr whoI dayT shI at *
  rcases Nat.lt_or_ge t 192 with h1 | h1
  · rw [if_pos h1] at e7 e8 e9 ⊢
    rw [if_neg (lt6_100 _ (by omega)), rv_seal]
    have key := lp (B_X9_placeOf_33 ν (nI (cnt (bt a) t))) (fun _ => none) (σ := Nat) (fun s g => g (nI s)) (fun i s => s = i ∧ i ≤ t / 32) (fun x => x = some (nI t)) (t / 32) ?_ ?_ 300 0 0 (by omega) (by omega) ⟨rfl, by omega⟩
    · exact key
    · rintro i s hs ⟨rfl, _⟩
      refine .inr ⟨s + 1, ⟨rfl, by omega⟩, fun L => ?_⟩
      show B_X9_placeOf_33 ν _ L (nI s) = _
      unfold B_X9_placeOf_33
      rw [m_letter s (by omega), sb, if_pos (gI (by omega) (by decide)), nI_clamp (by omega), e7, if_neg (fun q => by have := (lt6_eq _ (by omega) s (by omega)).mp q; omega), nI_1]
    · rintro s ⟨rfl, _⟩ L
      show B_X9_placeOf_33 ν _ L (nI (t / 32)) = _
      unfold B_X9_placeOf_33
      rw [m_letter _ (by omega), sb, if_pos (gI (by omega) (by decide)), nI_clamp (by omega), e7, if_pos rfl, if_pos (gI (by omega) (by decide)), if_pos (gI (by omega) (by decide)), e8, e9, show (32 : Int32) = nI 32 from rfl, show (8 : Int32) = nI 8 from rfl, pk_mul, pk_mul, nI_add, nI_add]
      congr 2
      omega
  · have h1' : ¬ t < 192 := by omega
    rw [if_neg h1', if_neg h1', if_neg h1', if_pos (show nI 100 = 100 by decide), if_pos (gI (by omega) (by decide)), if_pos (gI (by omega) (by decide)), show (192 : Int32) = nI 192 from rfl, show (3 : Int32) = nI 3 from rfl, pk_mul, nI_add, nI_add]
    exact congrArg (fun n => some (nI n)) (by omega)
theorem rm_up {a : AS} {ν : Mem} (r : repM a ν) {c : Nat} (v : Nat) : repM (sc a c v) (mu_up ν 3 c (nI v - 1)) := by
  obtain ⟨j1, j2, j3, j4, j5, j6, j7, j8, j9, j10, j11, j12, j13, j14, j15, j16⟩ := r
  unfold repM
  rw [up_n _ _ _ (show 0 ≠ 3 by decide), up_n _ _ _ (show 1 ≠ 3 by decide), up_n _ _ _ (show 2 ≠ 3 by decide), up_n _ _ _ (show 4 ≠ 3 by decide), up_n _ _ _ (show 5 ≠ 3 by decide), up_n _ _ _ (show 6 ≠ 3 by decide), up_n _ _ _ (show 14 ≠ 3 by decide), up_n _ _ _ (show 15 ≠ 3 by decide)]
  refine ⟨j1, j2, j3, j4, j5, j6, j7, j8, j9, fun j hj => ?_, j11, j12, j13, j14, j15, j16⟩
  rw [sc_val]
  by_cases e : j = c
  · rw [if_pos e, e, up_s]
  · rw [if_neg e, up_j _ _ _ e]
    exact j10 j hj
theorem m_exch {a : AS} {ν : Mem} (h : Inv a) (r : repM a ν) {p o d : Nat} (hp : p < 4) (ho : o < 4) (hd : d < 8) : ∃ ν', f_X9_exchanges ν (nI p) (nI o) (nI d) = some ((), ν') ∧ repM (xc a p o d) ν' ∧ eqo [3] ν ν' := by
  refine ⟨mu_up (mu_up ν 3 (8 * p + d) (nI (vl a o d) - 1)) 3 (8 * o + d) (nI (vl a p d) - 1), ?_, rm_up (rm_up r _) _, eqo_trans (eqo_up ν _ (by decide)) (eqo_up _ _ (by decide))⟩
  unfold f_X9_exchanges
  rw [m_at r hp hd, sb, m_at r ho hd, sb, i8, i8, if_pos (gI (cellB hp hd) (by decide)), if_pos (gI (cellB ho hd) (by decide)), nI_clamp (by omega), nI_clamp (by omega)]
theorem TL_eqo {a : AS} {T : Nat} {ν ν' : Mem} (h : TL a T ν) {K : List Nat} (e : eqo K ν ν') (hK : ∀ k, k ∈ [0, 7, 8, 9, 10] → k ∉ K) : TL a T ν' := by
  unfold TL ent
  rw [e.1 0 (hK 0 (by decide)), e.1 7 (hK 7 (by decide)), e.1 8 (hK 8 (by decide)), e.1 9 (hK 9 (by decide)), e.1 10 (hK 10 (by decide))]
  exact h
theorem fr_11 {ν ν' : Mem} (e : eqo [11] ν ν') : fr ν ν' := fun k j hk => by rw [e.1 k (by simp; intro q; exact hk (by unfold scr; omega))]
theorem cnt_nB {a : AS} {t : Nat} (ht : t < 216) (hb : bt a t = true) : cnt (bt a) t < nB a := by
  have := cnt_mono (bt a) (show t + 1 ≤ 216 by omega)
  rw [cnt_succ, if_pos hb] at this
  unfold nB
  omega
theorem nar_b1 : vp_nar .boolean 1 = 1 := by decide +kernel
theorem nar_b0 : vp_nar .boolean 0 = 0 := by decide +kernel
theorem m_fair {a : AS} {ν : Mem} (h : Inv a) (r : repM a ν) {p o d : Nat} (hp : p < a 0 0) (ho : o < a 0 0) (hpo : p ≠ o) (hd : d < 8) : ∃ b ν', f_X9_isFair ν (nI p) (nI o) (nI d) = some (bI b, ν') ∧ repM a ν' ∧ (b = true ↔ ∀ t, t < 216 → bt (xc a p o d) t = true → bt a t = true) ∧ ν'.1 0 14 = nI (nB (xc a p o d)) := by
  have hP := iv_P h
  have hI := xc_inv h hp ho hd
  have hnb := nB_le a
  have hnb2 := nB_le (xc a p o d)
  obtain ⟨ν1, e1, r1, f1, t1⟩ := m_tellsAll h r
  unfold f_X9_isFair
  rw [e1, sb, rv_seal]
  have key := lp (B_X9_isFair_7 (nI p) (nI o) (nI d)) (fun _ _ => none) (σ := Nat × Mem) (fun s g => g s.2 (nI s.1)) (fun i s => s.1 = i ∧ eqo [11] ν1 s.2 ∧ ∀ j, j < i → s.2.1 11 j = 0) (fun x => ∃ b ν', x = some (bI b, ν') ∧ repM a ν' ∧ (b = true ↔ ∀ t, t < 216 → bt (xc a p o d) t = true → bt a t = true) ∧ ν'.1 0 14 = nI (nB (xc a p o d))) 216 ?_ ?_ 300 0 (0, ν1) (by omega) (by omega) ⟨rfl, eqo_refl _ _, fun j hj => by omega⟩
  · exact key
  · rintro i ⟨j, μ⟩ hj ⟨rfl, he, hz⟩
    have hj : j < 216 := hj
    refine .inr ⟨(j + 1, mu_up μ 11 j 0), ⟨rfl, eqo_trans he (eqo_up _ _ (by decide)), fun j2 h2 => ?_⟩, fun L => ?_⟩
    · show (mu_up μ 11 j 0).1 11 j2 = 0
      by_cases e : j2 = j
      · rw [e, up_s]
      · rw [up_j _ _ _ e]
        have h2 : j2 < j + 1 := h2
        exact hz j2 (show j2 < j by omega)
    · show B_X9_isFair_7 (nI p) (nI o) (nI d) L μ (nI j) = _
      unfold B_X9_isFair_7
      rw [if_neg (g216 hj), if_pos (gI hj (by decide)), nI_clamp (by omega), nar_b0, nI_1]
  · rintro ⟨j, μ⟩ ⟨e, he, hz⟩ L
    have e : j = 216 := e
    subst e
    have he : eqo [11] ν1 μ := he
    have t2 : TL a 216 μ := TL_eqo t1 he (by decide)
    show ∃ b ν', B_X9_isFair_7 (nI p) (nI o) (nI d) L μ (nI 216) = _ ∧ _
    unfold B_X9_isFair_7
    rw [if_pos (by decide), rv_seal]
    have key := lp (B_X9_isFair_34 (nI p) (nI o) (nI d)) (fun _ _ => none) (σ := Nat × Mem) (fun s g => g s.2 (nI s.1)) (fun i s => s.1 = i ∧ eqo [11] ν1 s.2 ∧ ∀ j, j < 216 → s.2.1 11 j = if bt a j = true ∧ cnt (bt a) j < i then 1 else 0) (fun x => ∃ b ν', x = some (bI b, ν') ∧ repM a ν' ∧ (b = true ↔ ∀ t, t < 216 → bt (xc a p o d) t = true → bt a t = true) ∧ ν'.1 0 14 = nI (nB (xc a p o d))) (nB a) ?_ ?_ 300 0 (0, μ) (by omega) (by omega) ⟨rfl, he, fun j hj => by rw [if_neg (fun q => by omega)]; exact hz j hj⟩
    · exact key
    · rintro i ⟨n, μ2⟩ hn ⟨rfl, he2, hw⟩
      have hn : n < nB a := hn
      have he2 : eqo [11] ν1 μ2 := he2
      have t3 : TL a 216 μ2 := TL_eqo t1 he2 (by decide)
      obtain ⟨t, ht, hbt, hct⟩ := cnt_find (f := bt a) (n := n) 216 hn
      have ep := m_placeOf t3 ht hbt
      rw [hct] at ep
      have e14 : μ2.1 0 14 = nI (nB a) := t3.1
      refine .inr ⟨(n + 1, mu_up μ2 11 t 1), ⟨rfl, eqo_trans he2 (eqo_up _ _ (by decide)), fun j hj => ?_⟩, fun L => ?_⟩
      · show (mu_up μ2 11 t 1).1 11 j = if bt a j = true ∧ cnt (bt a) j < n + 1 then 1 else 0
        by_cases e : j = t
        · rw [e, up_s, if_pos ⟨hbt, by omega⟩]
        · rw [up_j _ _ _ e, hw j hj]
          have : (bt a j = true ∧ cnt (bt a) j < n) ↔ (bt a j = true ∧ cnt (bt a) j < n + 1) := by
            constructor
            · rintro ⟨q1, q2⟩
              exact ⟨q1, by omega⟩
            · rintro ⟨q1, q2⟩
              refine ⟨q1, ?_⟩
              rcases Nat.lt_or_ge (cnt (bt a) j) n with q3 | q3
              · exact q3
              · exact absurd (cnt_uniq q1 hbt (by omega)) e
          show (if bt a j = true ∧ cnt (bt a) j < n then 1 else 0) = _
          simp only [this]
      · show B_X9_isFair_34 (nI p) (nI o) (nI d) L μ2 (nI n) = _
        unfold B_X9_isFair_34
        rw [e14, if_neg (nI_ge hn (by omega)), ep, sb, if_pos (gI ht (by decide)), nI_clamp (by omega), nar_b1, nI_1]
    · rintro ⟨n, μ2⟩ ⟨e, he2, hw⟩ L
      have e : n = nB a := e
      subst e
      have he2 : eqo [11] ν1 μ2 := he2
      have t3 : TL a 216 μ2 := TL_eqo t1 he2 (by decide)
      have e14 : μ2.1 0 14 = nI (nB a) := t3.1
      have r2 : repM a μ2 := rm_fr r1 (fr_11 he2)
      have hw2 : ∀ j, j < 216 → μ2.1 11 j = if bt a j = true then 1 else 0 := by
        intro j hj
        have : (bt a j = true ∧ cnt (bt a) j < nB a) ↔ bt a j = true := ⟨fun q => q.1, fun q => ⟨q, cnt_nB hj q⟩⟩
        have h1 := hw j hj
        simp only [this] at h1
        exact h1
      obtain ⟨ν4, e4, r4, q4⟩ := m_exch h r2 (show p < 4 by omega) (show o < 4 by omega) hd
      obtain ⟨ν5, e5, r5, f5, t5⟩ := m_tellsAll hI r4
      obtain ⟨ν6, e6, r6, q6⟩ := m_exch hI r5 (show p < 4 by omega) (show o < 4 by omega) hd
      rw [xc_xc a hpo] at r6
      have t6 : TL (xc a p o d) 216 ν6 := TL_eqo t5 q6 (by decide)
      have w6 : ∀ j, j < 216 → ν6.1 11 j = if bt a j = true then 1 else 0 := by
        intro j hj
        rw [q6.1 11 (by decide), f5 11 j (by unfold scT; omega), q4.1 11 (by decide)]
        exact hw2 j hj
      show ∃ b ν', B_X9_isFair_34 (nI p) (nI o) (nI d) L μ2 (nI (nB a)) = _ ∧ _
      unfold B_X9_isFair_34
      rw [e14, if_pos (nI_le (Nat.le_refl _) (by omega)), e4, sb, e5, sb, e6, sb, rv_seal]
      have e146 : ν6.1 0 14 = nI (nB (xc a p o d)) := t6.1
      have key := lp (B_X9_isFair_85 ν6) (fun _ _ => none) (σ := Nat × Bool) (fun s g => g (bI s.2) (nI s.1)) (fun i s => s.1 = i ∧ (s.2 = true ↔ ∀ t, t < 216 → bt (xc a p o d) t = true → cnt (bt (xc a p o d)) t < i → bt a t = true)) (fun x => ∃ b ν', x = some (bI b, ν') ∧ repM a ν' ∧ (b = true ↔ ∀ t, t < 216 → bt (xc a p o d) t = true → bt a t = true) ∧ ν'.1 0 14 = nI (nB (xc a p o d))) (nB (xc a p o d)) ?_ ?_ 300 0 (0, true) (by omega) (by omega) ⟨rfl, ⟨fun _ t _ _ q => by omega, fun _ => rfl⟩⟩
      · exact key
      · rintro i ⟨m, x⟩ hm ⟨rfl, hx⟩
        have hm : m < nB (xc a p o d) := hm
        have hx : x = true ↔ ∀ t, t < 216 → bt (xc a p o d) t = true → cnt (bt (xc a p o d)) t < m → bt a t = true := hx
        obtain ⟨t, ht, hbt, hct⟩ := cnt_find (f := bt (xc a p o d)) (n := m) 216 hm
        have ep := m_placeOf t6 ht hbt
        rw [hct] at ep
        refine .inr ⟨(m + 1, x && bt a t), ⟨rfl, ?_⟩, fun L => ?_⟩
        · show (x && bt a t) = true ↔ ∀ s, s < 216 → bt (xc a p o d) s = true → cnt (bt (xc a p o d)) s < m + 1 → bt a s = true
          rw [Bool.and_eq_true, hx]
          constructor
          · rintro ⟨q1, q2⟩ s h1 h2 h3
            rcases Nat.lt_or_ge (cnt (bt (xc a p o d)) s) m with q3 | q3
            · exact q1 s h1 h2 q3
            · rw [cnt_uniq h2 hbt (by omega)]
              exact q2
          · intro q
            exact ⟨fun s h1 h2 h3 => q s h1 h2 (by omega), q t ht hbt (by omega)⟩
        · show B_X9_isFair_85 ν6 L (bI x) (nI m) = L (bI (x && bt a t)) (nI (m + 1))
          unfold B_X9_isFair_85
          rw [e146, if_neg (nI_ge hm (by omega))]
          unfold b_X9_isFair_117 b_X9_isFair_118
          rw [nI_1]
          cases hxx : x
          · rw [if_pos (by decide)]
            rfl
          · rw [if_neg (by decide), ep, sb, if_pos (gI ht (by decide)), nI_clamp (by omega), w6 t ht]
            cases hba : bt a t
            · rw [if_pos (by decide)]
              rfl
            · rw [if_neg (by decide)]
              rfl
      · rintro ⟨m, x⟩ ⟨e, hx⟩ L
        have e : m = nB (xc a p o d) := e
        subst e
        have hx : x = true ↔ ∀ t, t < 216 → bt (xc a p o d) t = true → cnt (bt (xc a p o d)) t < nB (xc a p o d) → bt a t = true := hx
        refine ⟨x, ν6, ?_, r6, ?_, e146⟩
        · show B_X9_isFair_85 ν6 L (bI x) (nI (nB (xc a p o d))) = _
          unfold B_X9_isFair_85
          rw [e146, if_pos (nI_le (Nat.le_refl _) (by omega)), if_pos (rv_bzI x)]
        · rw [hx]
          exact ⟨fun q t h1 h2 => q t h1 h2 (cnt_nB h1 h2), fun q t h1 h2 _ => q t h1 h2⟩
