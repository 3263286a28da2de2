/-! the face: the least changes -/
/-- z is what the size of the least set is said to be -/
def Sz (a : AS) (z : Int32) : Prop := (LW a ∧ z = 0) ∨ (¬ LW a ∧ z = 1 ∧ ∃ c v, G1 a aT c v) ∨ (¬ LW a ∧ (∀ c v, ¬ G1 a aT c v) ∧ z = 2 ∧ ∃ c v, G2 a aT aF c v) ∨ (¬ LW a ∧ (∀ c v, ¬ G1 a aT c v) ∧ (∀ c v, ¬ G2 a aT aF c v) ∧ z = -1)
theorem Sz_u {a : AS} {z w : Int32} (h : Sz a z) (h' : Sz a w) : z = w := by
  rcases h with ⟨h1, h2⟩ | ⟨h1, h2, c, v, h3⟩ | ⟨h1, h2, h3, c, v, h4⟩ | ⟨h1, h2, h3, h4⟩
  · rcases h' with ⟨g1, g2⟩ | ⟨g1, _⟩ | ⟨g1, _⟩ | ⟨g1, _⟩
    · rw [h2, g2]
    · exact absurd h1 g1
    · exact absurd h1 g1
    · exact absurd h1 g1
  · rcases h' with ⟨g1, _⟩ | ⟨_, g2, _⟩ | ⟨_, g2, _⟩ | ⟨_, g2, _⟩
    · exact absurd g1 h1
    · rw [h2, g2]
    · exact absurd h3 (g2 c v)
    · exact absurd h3 (g2 c v)
  · rcases h' with ⟨g1, _⟩ | ⟨_, _, c', v', g3⟩ | ⟨_, _, g3, _⟩ | ⟨_, _, g3, _⟩
    · exact absurd g1 h1
    · exact absurd g3 (h2 c' v')
    · rw [h3, g3]
    · exact absurd h4 (g3 c v)
  · rcases h' with ⟨g1, _⟩ | ⟨_, _, c', v', g3⟩ | ⟨_, _, _, c', v', g3⟩ | ⟨_, _, _, g4⟩
    · exact absurd g1 h1
    · exact absurd g3 (h2 c' v')
    · exact absurd g3 (h3 c' v')
    · rw [h4, g4]
theorem Sz_ne {a : AS} {z : Int32} (h : Sz a z) : z = -1 ∨ ∃ n, n < 3 ∧ z = nI n := by
  rcases h with ⟨_, h⟩ | ⟨_, h, _⟩ | ⟨_, _, h, _⟩ | ⟨_, _, _, h⟩
  · exact .inr ⟨0, by decide, h⟩
  · exact .inr ⟨1, by decide, h⟩
  · exact .inr ⟨2, by decide, h⟩
  · exact .inl h
theorem m_leastS {a : AS} {ν : Mem} (h : Inv a) (m : repM a ν) : ∃ z ν', f_X9_leastSize ν = some (z, ν') ∧ repM a ν' ∧ Sz a z := by
  obtain ⟨z, ν', e, r, hz⟩ := m_least h m
  refine ⟨z, ν', e, r, ?_⟩
  rcases hz with h1 | ⟨h1, h2, c, v, h3, _⟩ | ⟨h1, h2, h3, c, v, _, _, h4, _⟩ | h1
  · exact .inl h1
  · exact .inr (.inl ⟨h1, h2, c, v, h3.1⟩)
  · exact .inr (.inr (.inl ⟨h1, h2, h3, c, v, h4.1⟩))
  · exact .inr (.inr (.inr h1))
theorem x_seek0S {a : AS} {μ : Mem} (h : Inv a) (r : repX a μ) : ∃ z μ', f_X4_seek μ 0 = some (z, μ') ∧ repX a μ' ∧ Sz a z := by
  obtain ⟨z, ν', e, r, hz⟩ := x_seek0 h r
  refine ⟨z, ν', e, r, ?_⟩
  rcases hz with h1 | ⟨h1, h2, c, v, h3, _⟩ | ⟨h1, h2, h3, c, v, _, _, h4, _⟩ | h1
  · exact .inl h1
  · exact .inr (.inl ⟨h1, h2, c, v, h3.1⟩)
  · exact .inr (.inr (.inl ⟨h1, h2, h3, c, v, h4.1⟩))
  · exact .inr (.inr (.inr h1))
theorem least_fin {a : AS} {μ ν : Mem} (hI : Inv a) (r : repX a μ) (m : repM a ν) {z : Int32} (hz : Sz a z) : ∃ (o : String ⊕ Int32) (b : Int32) (ν2 : Mem) (k : Int32), ((f_X8_requireSize z).bind fun r2 => rv_thm r2 μ fun t3 => some (Sum.inr t3, μ)) = some (o, μ) ∧ (if z = -1 then (b_X9_leastChanges_16 ν z 1) else (b_X9_leastChanges_16 ν z 0)) = some (b, ν2) ∧ ν2.1 0 0 = k ∧ Rel μ ν2 ∧ rv_ans ["java/util/NoSuchElementException"] o b k := by
  unfold f_X8_requireSize b_X9_leastChanges_16
  rw [m_goN ν one0, m_go0]
  rcases Sz_ne hz with hz | ⟨n, hn, hz⟩
  · rw [if_pos hz, if_pos hz, sb, tml]
    exact ⟨_, 0, mu_up ν 0 0 1, 1, rfl, rfl, rfl, th_fin hI r m 1, ans_th 0 rfl _⟩
  · have hne : ¬ z = -1 := by rw [hz, q_m1 (by omega)]; exact id
    rw [if_neg hne, if_neg hne, sb, tmr]
    exact ⟨_, z, mu_up ν 0 0 0, 0, rfl, rfl, rfl, th_fin hI r m 0, ans_ok _ _⟩
theorem eq_leastChanges {μ ν : Mem} (h : Rel μ ν) : ∃ (o : String ⊕ Int32) (μ2 : Mem) (b : Int32) (ν2 : Mem) (k : Int32), f_X8_leastChanges μ = some (o, μ2) ∧ f_X9_leastChanges ν = some (b, ν2) ∧ ν2.1 0 0 = k ∧ Rel μ2 ν2 ∧ rv_ans ["java/util/NoSuchElementException"] o b k := by
  obtain ⟨a, hI, r, m⟩ := h
  obtain ⟨z, μ1, e1, r1, hz⟩ := x_seek1 hI r
  obtain ⟨w, ν1, e2, m1, hw⟩ := m_leastS hI m
  have e : z = w := Sz_u hz hw
  subst e
  obtain ⟨o, b, ν2, k, h1, h2, h3⟩ := least_fin hI r1 m1 hw
  refine ⟨o, μ1, b, ν2, k, ?_, ?_, h3⟩
  · unfold f_X8_leastChanges
    rw [e1, sb]
    exact h1
  · unfold f_X9_leastChanges
    rw [e2, sb]
    exact h2
theorem eq_leastByTrial {μ ν : Mem} (h : Rel μ ν) : ∃ (o : String ⊕ Int32) (μ2 : Mem) (b : Int32) (ν2 : Mem) (k : Int32), f_X8_leastByTrial μ = some (o, μ2) ∧ f_X9_leastByTrial ν = some (b, ν2) ∧ ν2.1 0 0 = k ∧ Rel μ2 ν2 ∧ rv_ans ["java/util/NoSuchElementException"] o b k := by
  obtain ⟨a, hI, r, m⟩ := h
  obtain ⟨z, μ1, e1, r1, hz⟩ := x_seek0S hI r
  obtain ⟨w, ν1, e2, m1, hw⟩ := m_leastS hI m
  have e : z = w := Sz_u hz hw
  subst e
  obtain ⟨o, b, ν2, k, h1, h2, h3⟩ := least_fin hI r1 m1 hw
  refine ⟨o, μ1, b, ν2, k, ?_, ?_, h3⟩
  · unfold f_X8_leastByTrial
    rw [e1, sb]
    exact h1
  · unfold f_X9_leastByTrial f_X9_leastChanges
    rw [e2, sb, h2, sb]
/-- the changes that mend() made noted -/
def md (a : AS) (n : Nat) (F G : Nat → Nat) : AS := fun k j => if k = 7 ∧ j = 0 then n else if k = 8 then F j else if k = 9 then G j else a k j
theorem md_n (a : AS) (n : Nat) (F G : Nat → Nat) {k : Nat} (j : Nat) (h : k ≠ 7 ∧ k ≠ 8 ∧ k ≠ 9) : md a n F G k j = a k j := by
  unfold md
  rw [if_neg (fun q => h.1 q.1), if_neg h.2.1, if_neg h.2.2]
theorem sc_md (a : AS) (n : Nat) (F G : Nat → Nat) (c v : Nat) : sc (md a n F G) c v = md (sc a c v) n F G := by
  funext k j
  by_cases h : k = 3
  · subst h
    rw [md_n _ _ _ _ _ (by decide), sc_val, sc_val, md_n _ _ _ _ _ (by decide)]
  · rw [sc_n _ _ _ _ h]
    unfold md
    rw [sc_n _ _ _ _ h]
theorem md_md (a : AS) (n n' : Nat) (F G F' G' : Nat → Nat) : md (md a n F G) n' F' G' = md a n' F' G' := by
  funext k j
  unfold md
  by_cases h7 : k = 7 ∧ j = 0
  · rw [if_pos h7, if_pos h7]
  · rw [if_neg h7, if_neg h7, if_neg h7]
    by_cases h8 : k = 8
    · rw [if_pos h8, if_pos h8]
    · rw [if_neg h8, if_neg h8, if_neg h8]
      by_cases h9 : k = 9
      · rw [if_pos h9, if_pos h9]
      · rw [if_neg h9, if_neg h9, if_neg h9]
theorem md_inv {a : AS} (h : Inv a) {n : Nat} (hn : n ≤ 2) (F G : Nat → Nat) : Inv (md a n F G) := by
  obtain ⟨i1, i2, i3, i4, i5, i6, i7, i8, i9, i10, i11, i12, i13, i14, i15, i16⟩ := h
  exact ⟨i1, i2, i3, i4, i5, i6, i7, i8, i9, i10, i11, i12, i13, i14, i15, hn⟩
theorem nI_t32 (x : Int32) : nI (t32 x) = x := t32_inj (t32_nI (t32_lt x))
theorem rx_md {a : AS} {μ M : Mem} (r : repX a μ) (e : eqo [23, 24, 25] μ M) {n : Nat} (hn : M.1 23 2 = nI n) : repX (md a n (fun j => t32 (M.1 24 j)) (fun j => t32 (M.1 25 j))) M := by
  have g : ∀ k, k ≠ 23 → k ≠ 24 → k ≠ 25 → M.1 k = μ.1 k := fun k h1 h2 h3 => e.1 k (by simp [h1, h2, h3])
  obtain ⟨j1, j2, j3, j4, j5, j6, j7, j8, j9, j10, j11, j12, j13, j14, j15, j16, j17, j18⟩ := r
  unfold repX
  rw [g 6 (by decide) (by decide) (by decide), g 1 (by decide) (by decide) (by decide), g 4 (by decide) (by decide) (by decide), g 2 (by decide) (by decide) (by decide), g 3 (by decide) (by decide) (by decide), g 7 (by decide) (by decide) (by decide), g 8 (by decide) (by decide) (by decide), g 9 (by decide) (by decide) (by decide), g 5 (by decide) (by decide) (by decide), g 10 (by decide) (by decide) (by decide)]
  refine ⟨j1, j2, j3, j4, j5, j6, j7, j8, j9, j10, j11, j12, j13, fun d j hd hj => ?_, hn, fun j _ => (nI_t32 _).symm, fun j _ => (nI_t32 _).symm, fun q hq i h1 h2 => ?_⟩
  · have hc : ∀ F G, cntS (md a n F G) d j 4 = cntS a d j 4 := fun F G => cntS_eq 4 (fun p _ => md_n a n F G (k := 3) _ (by decide))
    rw [hc]
    exact j14 d j hd hj
  · rw [g q (by omega) (by omega) (by omega)]
    exact j18 q hq i h1 h2
theorem rm_md {a : AS} {ν ν' : Mem} (m : repM a ν) {n : Nat} {F G : Nat → Nat} (e : ∀ k j, k ≠ 14 → k ≠ 15 → ¬ (k = 0 ∧ j = 22) → ¬ scr k j → ν'.1 k j = ν.1 k j) (hn : ν'.1 0 22 = nI n) (hF : ∀ j, j < n → ν'.1 14 j = nI (F j)) (hG : ∀ j, j < n → ν'.1 15 j = nI (G j)) : repM (md a n F G) ν' := by
  obtain ⟨j1, j2, j3, j4, j5, j6, j7, j8, j9, j10, j11, j12, j13, j14, j15, j16⟩ := m
  have g : ∀ k j, 1 ≤ k → k ≤ 6 → ν'.1 k j = ν.1 k j := fun k j h1 h2 => e k j (by omega) (by omega) (by omega) (by unfold scr; omega)
  have g0 : ∀ j, j ≠ 0 → j ≠ 14 → j ≠ 22 → ν'.1 0 j = ν.1 0 j := fun j h1 h2 h3 => e 0 j (by omega) (by omega) (by omega) (by unfold scr; omega)
  refine ⟨?_, ?_, ?_, ?_, ?_, ?_, ?_, fun j h => ?_, fun j h => ?_, fun j h => ?_, fun j h => ?_, fun j h => ?_, fun j h => ?_, hn, fun j h => hF j h, fun j h => hG j h⟩
  · rw [g0 _ (by decide) (by decide) (by decide)]; exact j1
  · rw [g0 _ (by decide) (by decide) (by decide)]; exact j2
  · rw [g0 _ (by decide) (by decide) (by decide)]; exact j3
  · rw [g0 _ (by decide) (by decide) (by decide)]; exact j4
  · rw [g0 _ (by decide) (by decide) (by decide)]; exact j5
  · rw [g0 _ (by decide) (by decide) (by decide)]; exact j6
  · rw [g0 _ (by decide) (by decide) (by decide)]; exact j7
  · rw [g _ _ (by decide) (by decide)]; exact j8 j h
  · rw [g _ _ (by decide) (by decide)]; exact j9 j h
  · rw [g _ _ (by decide) (by decide)]; exact j10 j h
  · rw [g _ _ (by decide) (by decide)]; exact j11 j h
  · rw [g _ _ (by decide) (by decide)]; exact j12 j h
  · rw [g _ _ (by decide) (by decide)]; exact j13 j h
theorem x_cellAt (q : Nat) (μ : Mem) {i : Nat} (hi : i < 2) : f_X0_cellAt q μ (nI i) = some (μ.1 (q + 1) i) := by
  unfold f_X0_cellAt
  rw [if_neg (gP (by omega)), if_neg (show ¬ (2 : Int32) ≤ nI i from nI_ge hi (by decide)), if_pos (gI hi (by decide)), nI_clamp (by omega)]
theorem x_valAt (q : Nat) (μ : Mem) {i : Nat} (hi : i < 2) : f_X0_valueAt q μ (nI i) = some (μ.1 (q + 2) i) := by
  unfold f_X0_valueAt
  rw [if_neg (gP (by omega)), if_neg (show ¬ (2 : Int32) ≤ nI i from nI_ge hi (by decide)), if_pos (gI hi (by decide)), nI_clamp (by omega)]
/-- a turn of the class's loop in mend -/
theorem x_mend22 {a : AS} {μ : Mem} (h : Inv a) (r : repX a μ) {n i c v : Nat} (hi : i < n) (hn : n ≤ 2) (hc : c < 32) (hv : v ≤ 3) (h21 : μ.1 21 i = nI c) (h22 : μ.1 22 i = nI v) (M : Mem) (e : eqo [23, 24, 25] μ M) (h23 : M.1 23 2 = nI n) : ∃ M', (∀ L, B_X8_mend_22 (nI n) L M (nI i) = L M' (nI (i + 1))) ∧ repX (md (sc a c v) n (fun j => t32 (M'.1 24 j)) (fun j => t32 (M'.1 25 j))) M' ∧ M'.1 24 i = nI c ∧ M'.1 25 i = nI v ∧ (∀ j, j ≠ i → M'.1 24 j = M.1 24 j ∧ M'.1 25 j = M.1 25 j) ∧ M'.1 21 = M.1 21 ∧ M'.1 22 = M.1 22 ∧ M'.1 23 = M.1 23 := by
  have hi2 : i < 2 := by omega
  have e1 : eqo [23, 24, 25] μ (mu_up (mu_up M 24 i (nI c)) 25 i (nI v)) := eqo_trans e (eqo_trans (eqo_up M _ (by decide)) (eqo_up _ _ (by decide)))
  have r1 := rx_md r e1 (n := n) (by rw [up_n _ _ _ (by decide), up_n _ _ _ (by decide)]; exact h23)
  obtain ⟨M', e2, r2, q2⟩ := x_put (md_inv h hn _ _) r1 hc hv
  have g24 : M'.1 24 = (mu_up (mu_up M 24 i (nI c)) 25 i (nI v)).1 24 := q2.1 24 (by decide)
  have g25 : M'.1 25 = (mu_up (mu_up M 24 i (nI c)) 25 i (nI v)).1 25 := q2.1 25 (by decide)
  have k24 : M'.1 24 i = nI c := by rw [g24, up_n _ _ _ (by decide), up_s]
  have k25 : M'.1 25 i = nI v := by rw [g25, up_s]
  rw [sc_md, ← g24, ← g25] at r2
  refine ⟨M', fun L => ?_, r2, k24, k25, fun j hj => ⟨?_, ?_⟩, ?_, ?_, ?_⟩
  · unfold B_X8_mend_22
    rw [if_neg (nI_ge hi (by omega)), x_cellAt 20 M hi2, sb, x_valAt 20 M hi2, sb, e.1 21 (by decide), e.1 22 (by decide), h21, h22, x_cput 23 M _ _ hi2, sb, x_cellAt 23 _ hi2, sb, x_valAt 23 _ hi2, sb, up_n _ _ _ (by decide), up_s, up_s, e2, sb, nI_1]
  · rw [g24, up_n _ _ _ (by decide), up_j _ _ _ hj]
  · rw [g25, up_j _ _ _ hj, up_n _ _ _ (by decide)]
  · rw [q2.1 21 (by decide), up_n _ _ _ (by decide), up_n _ _ _ (by decide)]
  · rw [q2.1 22 (by decide), up_n _ _ _ (by decide), up_n _ _ _ (by decide)]
  · rw [q2.1 23 (by decide), up_n _ _ _ (by decide), up_n _ _ _ (by decide)]
theorem m_mend31 {ν : Mem} {n i c v : Nat} (hi : i < n) (hn : n ≤ 2) (hc : c < 32) (h12 : ν.1 12 i = nI c) (h13 : ν.1 13 i = nI v) (L : Mem → Int32 → Option (Int32 × Mem)) : B_X9_mend_31 (nI n) L ν (nI i) = L (mu_up (mu_up (mu_up ν 14 i (nI c)) 15 i (nI v)) 3 c (nI v - 1)) (nI (i + 1)) := by
  have u1 : ∀ (μ : Mem) (j : Nat) (x : Int32), (mu_up μ 14 j x).1 12 = μ.1 12 := fun μ j x => up_n μ j x (by decide)
  have u2 : ∀ (μ : Mem) (j : Nat) (x : Int32), (mu_up μ 14 j x).1 13 = μ.1 13 := fun μ j x => up_n μ j x (by decide)
  have u3 : ∀ (μ : Mem) (j : Nat) (x : Int32), (mu_up μ 15 j x).1 12 = μ.1 12 := fun μ j x => up_n μ j x (by decide)
  have u4 : ∀ (μ : Mem) (j : Nat) (x : Int32), (mu_up μ 15 j x).1 13 = μ.1 13 := fun μ j x => up_n μ j x (by decide)
  have cl : Int32.toNatClampNeg (nI i) = i := nI_clamp (by omega)
  have cl2 : Int32.toNatClampNeg (nI c) = c := nI_clamp (by omega)
  have gi : rv_in (nI i) 2 = true := gI (by omega) (by decide)
  have gc : rv_in (nI c) 32 = true := gI hc (by decide)
  unfold B_X9_mend_31
  rw [if_neg (nI_ge hi (by omega))]
  simp only [u1, u2, u3, u4, h12, h13, cl, cl2, gi, gc, nI_1, ↓reduceIte]
theorem mend_end (n : Nat) (L : Mem → Int32 → Option ((String ⊕ Int32) × Mem)) (M : Mem) (hn : n ≤ 2) : B_X8_mend_22 (nI n) L M (nI n) = some (.inr (nI n), M) := by
  unfold B_X8_mend_22
  rw [if_pos (nI_le (Nat.le_refl _) (by omega))]
theorem mend_endM (n : Nat) (L : Mem → Int32 → Option (Int32 × Mem)) (ν : Mem) (hn : n ≤ 2) : B_X9_mend_31 (nI n) L ν (nI n) = some (nI n, ν) := by
  unfold B_X9_mend_31
  rw [if_pos (nI_le (Nat.le_refl _) (by omega))]
theorem eq_mend {μ ν : Mem} (h : Rel μ ν) : ∃ (o : String ⊕ Int32) (μ2 : Mem) (b : Int32) (ν2 : Mem) (k : Int32), f_X8_mend μ = some (o, μ2) ∧ f_X9_mend ν = some (b, ν2) ∧ ν2.1 0 0 = k ∧ Rel μ2 ν2 ∧ rv_ans ["java/util/NoSuchElementException"] o b k := by
  obtain ⟨a, hI, r, m⟩ := h
  have hP := iv_P hI
  have hS := iv_S hI
  obtain ⟨z, μ1, e1, r1, hz⟩ := x_seek0 hI r
  obtain ⟨w, ν1, e2, m1, hw⟩ := m_least hI m
  have go : ∀ n, n ≤ 2 → z = nI n → w = nI n → (∃ μ2 ν2, rv_ls (B_X8_mend_22 (nI n)) (fun _ _ => none) 300 (mu_up μ1 23 2 (nI n)) (nI 0) = some (.inr (nI n), μ2) ∧ rv_ls (B_X9_mend_31 (nI n)) (fun _ _ => none) 300 (mu_up (mu_up ν1 0 0 0) 0 22 (nI n)) (nI 0) = some (nI n, ν2) ∧ ν2.1 0 0 = 0 ∧ Rel μ2 ν2) → ∃ (o : String ⊕ Int32) (μ2 : Mem) (b : Int32) (ν2 : Mem) (k : Int32), f_X8_mend μ = some (o, μ2) ∧ f_X9_mend ν = some (b, ν2) ∧ ν2.1 0 0 = k ∧ Rel μ2 ν2 ∧ rv_ans ["java/util/NoSuchElementException"] o b k := by
    rintro n hn rfl rfl ⟨μ2, ν2, h1, h2, h3, h4⟩
    have hne : ¬ (nI n = -1) := by rw [q_m1 (by omega)]; exact id
    refine ⟨.inr (nI n), μ2, nI n, ν2, 0, ?_, ?_, h3, h4, ans_ok _ _⟩
    · unfold f_X8_mend f_X8_requireSize
      rw [e1, sb, if_neg hne, sb, tmr, rv_seal]
      exact h1
    · unfold f_X9_mend b_X9_mend_16
      rw [e2, sb, if_neg hne, m_go0, sb, if_neg (show ¬ ((1 : Int32), mu_up ν1 0 0 0).1 = 0 from one0), rv_seal]
      exact h2
  have zw : z = w := Sz_u (z := z) (w := w) (by
    rcases hz with h1 | ⟨h1, h2, c, v, h3, _⟩ | ⟨h1, h2, h3, c, v, _, _, h4, _⟩ | h1
    · exact .inl h1
    · exact .inr (.inl ⟨h1, h2, c, v, h3.1⟩)
    · exact .inr (.inr (.inl ⟨h1, h2, h3, c, v, h4.1⟩))
    · exact .inr (.inr (.inr h1))) (by
    rcases hw with h1 | ⟨h1, h2, c, v, h3, _⟩ | ⟨h1, h2, h3, c, v, _, _, h4, _⟩ | h1
    · exact .inl h1
    · exact .inr (.inl ⟨h1, h2, c, v, h3.1⟩)
    · exact .inr (.inr (.inl ⟨h1, h2, h3, c, v, h4.1⟩))
    · exact .inr (.inr (.inr h1)))
  have e0 : ∀ n, eqo [23, 24, 25] μ1 (mu_up μ1 23 2 (nI n)) := fun n => eqo_up μ1 _ (by decide)
  have r0 : ∀ n, repX (md a n (fun j => t32 ((mu_up μ1 23 2 (nI n)).1 24 j)) (fun j => t32 ((mu_up μ1 23 2 (nI n)).1 25 j))) (mu_up μ1 23 2 (nI n)) := fun n => rx_md r1 (e0 n) (up_s _ _ _ _)
  rcases hz with ⟨h1, h2⟩ | ⟨h1, h2, c, v, hf, h21, h22⟩ | ⟨h1, h2, h3, c, v, c2, v2, hf, hf2, p1, p2, p3, p4⟩ | ⟨h1, h2, h3, h4⟩
  · refine go 0 (by decide) h2 (zw.symm.trans h2) ⟨mu_up μ1 23 2 (nI 0), mu_up (mu_up ν1 0 0 0) 0 22 (nI 0), ?_, ?_, rfl, ⟨_, md_inv hI (by decide) _ _, r0 0, rm_md m1 (fun k j q1 q2 q3 q4 => ?_) (up_s _ _ _ _) (fun j hj => by omega) (fun j hj => by omega)⟩⟩
    · rw [rv_ls_s]
      exact mend_end 0 _ _ (by decide)
    · rw [rv_ls_s]
      exact mend_endM 0 _ _ (by decide)
    · by_cases hk : k = 0
      · subst hk
        rw [up_j _ _ _ (by omega), up_j _ _ _ (fun q => q4 (by unfold scr; omega))]
      · rw [up_n _ _ _ hk, up_n _ _ _ hk]
  · rcases hw with ⟨g1, _⟩ | ⟨g1, g2, c', v', gf, g12, g13⟩ | ⟨g1, g2, _⟩ | ⟨g1, g2, _⟩
    · exact absurd g1 h1
    · obtain ⟨rfl, rfl⟩ := FIRST_u hf gf
      obtain ⟨hc, hv, _, _, _⟩ := hf.1
      obtain ⟨M', s1, s2, s3, s4, s5, s6, s7, s8⟩ := x_mend22 hI r1 (n := 1) (i := 0) (by decide) (by decide) (show c < 32 by omega) (show v ≤ 3 by omega) h21 h22 _ (e0 1) (up_s _ _ _ _)
      refine go 1 (by decide) h2 g2 ⟨M', mu_up (mu_up (mu_up (mu_up (mu_up ν1 0 0 0) 0 22 (nI 1)) 14 0 (nI c)) 15 0 (nI v)) 3 c (nI v - 1), ?_, ?_, ?_, ⟨_, md_inv (sc_inv hI hc hv) (by decide) _ _, s2, rm_md (rm_up m1 v) (fun k j q1 q2 q3 q4 => ?_) ?_ (fun j hj => ?_) (fun j hj => ?_)⟩⟩
      · rw [rv_ls_s, s1, rv_ls_s]
        exact mend_end 1 _ _ (by decide)
      · rw [rv_ls_s, m_mend31 (by decide) (by decide) (show c < 32 by omega) (by exact g12) (by exact g13), rv_ls_s]
        exact mend_endM 1 _ _ (by decide)
      · rfl
      · by_cases hk3 : k = 3
        · subst hk3
          rw [up_val, up_val]
          split
          · rfl
          · rw [up_n _ _ _ (by decide), up_n _ _ _ (by decide), up_n _ _ _ (by decide), up_n _ _ _ (by decide)]
        · rw [up_n _ _ _ hk3, up_n _ _ _ hk3, up_n _ _ _ q2, up_n _ _ _ q1]
          by_cases hk : k = 0
          · subst hk
            rw [up_j _ _ _ (by omega), up_j _ _ _ (fun q => q4 (by unfold scr; omega))]
          · rw [up_n _ _ _ hk, up_n _ _ _ hk]
      · rfl
      · rw [show j = 0 by omega, nI_t32, s3]
        rfl
      · rw [show j = 0 by omega, nI_t32, s4]
        rfl
    · exact absurd hf.1 (g2 c v)
    · exact absurd hf.1 (g2 c v)
  · rcases hw with ⟨g1, _⟩ | ⟨g1, g2, c', v', gf, _⟩ | ⟨g1, g2, g3, c', v', c2', v2', gf, gf2, g12, g13, g122, g132⟩ | ⟨g1, g2, g3, _⟩
    · exact absurd g1 h1
    · exact absurd gf.1 (h2 c' v')
    · obtain ⟨rfl, rfl⟩ := FIRST_u hf gf
      obtain ⟨rfl, rfl⟩ := FIRST_u hf2 gf2
      obtain ⟨hc, hv, _, _, _⟩ := hf.1
      obtain ⟨hc2, hv2, _, hcc, _⟩ := hf2.1
      have hcc : c < c2 := hcc
      have hc2 : c2 < 8 * a 0 0 := hc2
      have hv2 : v2 ≤ a 0 1 := hv2
      have hI1 := sc_inv hI hc hv
      obtain ⟨M1, s1, s2, s3, s4, s5, s6, s7, s8⟩ := x_mend22 hI r1 (n := 2) (i := 0) (by decide) (by decide) (show c < 32 by omega) (show v ≤ 3 by omega) p1 p2 _ (e0 2) (up_s _ _ _ _)
      obtain ⟨M2, t1, t2, t3, t4, t5, t6, t7, t8⟩ := x_mend22 (md_inv hI1 (by decide) _ _) s2 (n := 2) (i := 1) (by decide) (by decide) (show c2 < 32 by omega) (show v2 ≤ 3 by omega) (by rw [s6, up_n _ _ _ (by decide)]; exact p3) (by rw [s7, up_n _ _ _ (by decide)]; exact p4) M1 (eqo_refl _ _) (by rw [s8]; exact up_s _ _ _ _)
      rw [sc_md, md_md] at t2
      have t50 := t5 0 (by decide)
      refine go 2 (by decide) h3 g3 ⟨M2, mu_up (mu_up (mu_up (mu_up (mu_up (mu_up (mu_up (mu_up ν1 0 0 0) 0 22 (nI 2)) 14 0 (nI c)) 15 0 (nI v)) 3 c (nI v - 1)) 14 1 (nI c2)) 15 1 (nI v2)) 3 c2 (nI v2 - 1), ?_, ?_, ?_, ⟨_, md_inv (sc_inv hI1 hc2 hv2) (by decide) _ _, t2, rm_md (rm_up (rm_up m1 v) v2) (fun k j q1 q2 q3 q4 => ?_) ?_ (fun j hj => ?_) (fun j hj => ?_)⟩⟩
      · rw [rv_ls_s, s1, rv_ls_s]
        show B_X8_mend_22 (nI 2) _ M1 (nI 1) = _
        rw [t1, rv_ls_s]
        exact mend_end 2 _ _ (by decide)
      · rw [rv_ls_s, m_mend31 (by decide) (by decide) (show c < 32 by omega) (by exact g12) (by exact g13), rv_ls_s]
        rw [m_mend31 (i := 0 + 1) (by decide) (by decide) (show c2 < 32 by omega) (by exact g122) (by exact g132), rv_ls_s]
        exact mend_endM 2 _ _ (by decide)
      · rfl
      · by_cases hk3 : k = 3
        · subst hk3
          rw [up_val, up_val]
          split
          · rfl
          · rw [up_n _ _ _ (by decide), up_n _ _ _ (by decide), up_val, up_val]
            split
            · rfl
            · rw [up_n _ _ _ (by decide), up_n _ _ _ (by decide), up_n _ _ _ (by decide), up_n _ _ _ (by decide)]
        · rw [up_n _ _ _ hk3, up_n _ _ _ q2, up_n _ _ _ q1, up_n _ _ _ hk3, up_n _ _ _ q2, up_n _ _ _ q1, up_n _ _ _ hk3, up_n _ _ _ hk3]
          by_cases hk : k = 0
          · subst hk
            rw [up_j _ _ _ (by omega), up_j _ _ _ (fun q => q4 (by unfold scr; omega))]
          · rw [up_n _ _ _ hk, up_n _ _ _ hk]
      · rfl
      · have hj : j = 0 ∨ j = 1 := by omega
        rw [nI_t32]
        rcases hj with rfl | rfl
        · rw [t50.1, s3]
          rfl
        · rw [t3]
          rfl
      · have hj : j = 0 ∨ j = 1 := by omega
        rw [nI_t32]
        rcases hj with rfl | rfl
        · rw [t50.2, s4]
          rfl
        · rw [t4]
          rfl
    · exact absurd hf.1 (g3 c v)
  · have hw1 : w = -1 := zw.symm.trans h4
    refine ⟨.inl "java/util/NoSuchElementException", μ1, 0, mu_up ν1 0 0 1, 1, ?_, ?_, rfl, th_fin hI r1 m1 1, ans_th 0 rfl _⟩
    · unfold f_X8_mend f_X8_requireSize
      rw [e1, sb, if_pos h4]
      rfl
    · unfold f_X9_mend b_X9_mend_16
      rw [e2, sb, if_pos hw1, m_goN ν1 one0]
      rfl
theorem x_reqC {a : AS} {μ ν : Mem} (hI : Inv a) (r : repX a μ) (m : repM a ν) (x : Int32) : (∃ j, j < a 7 0 ∧ x = nI j ∧ f_X8_requireChange μ x = some (.inr ()) ∧ f_X9_in x 0 (ν.1 0 22 - 1) = some 1) ∨ (f_X8_requireChange μ x = some (.inl "java/util/NoSuchElementException") ∧ f_X9_in x 0 (ν.1 0 22 - 1) = some 0) := by
  have h2 := iv_made hI
  rw [rm_made m]
  unfold f_X8_requireChange b_X8_requireChange_15
  rw [rx_made r]
  rcases pk_ix x (n := a 7 0) (by omega) with hx | hx | ⟨j, hj, rfl⟩
  · rw [if_pos hx]
    exact .inr ⟨rfl, in_lt hx⟩
  · refine .inr ⟨?_, in_ge (by omega) hx⟩
    rw [if_neg (show ¬ x < nI (a 7 0) by rw [Int32.not_lt]; exact hx)]
    split <;> rfl
  · rw [if_neg (gP (by omega)), if_pos (nI_lt hj (by omega))]
    exact .inl ⟨j, hj, rfl, rfl, in_ok hj (by omega)⟩
theorem eq_changedCell {μ ν : Mem} (h : Rel μ ν) (x1 : Int32) : ∃ (o : String ⊕ Int32) (b : Int32) (ν2 : Mem) (k : Int32), f_X8_changedCell μ x1 = some o ∧ f_X9_changedCell ν x1 = some (b, ν2) ∧ ν2.1 0 0 = k ∧ Rel μ ν2 ∧ rv_ans ["java/util/NoSuchElementException"] o b k := by
  obtain ⟨a, hI, r, m⟩ := h
  have h2 := iv_made hI
  unfold f_X8_changedCell f_X9_changedCell b_X9_changedCell_20
  rcases x_reqC hI r m x1 with ⟨j, hj, rfl, e1, e2⟩ | ⟨e1, e2⟩
  · rw [e1, e2, sb, sb, trr, if_neg one0, m_go0, x_cellAt 23 μ (show j < 2 by omega), sb, sb, if_neg (show ¬ ((1 : Int32), mu_up ν 0 0 0).1 = 0 from one0), if_pos (gI (show j < 2 by omega) (by decide)), nI_clamp (by omega)]
    have e3 : (mu_up ν 0 0 0).1 14 j = nI (a 8 j) := rm_mc m j hj
    refine ⟨_, nI (a 8 j), mu_up ν 0 0 0, 0, rfl, ?_, rfl, th_fin hI r m 0, ?_⟩
    · rw [e3]
    · rw [rx_mc r j hj]
      exact ans_ok _ _
  · rw [e1, e2, sb, sb, trl, if_pos rfl, m_goN ν one0]
    exact ⟨_, 0, mu_up ν 0 0 1, 1, rfl, rfl, rfl, th_fin hI r m 1, ans_th 0 rfl _⟩
theorem eq_changedValue {μ ν : Mem} (h : Rel μ ν) (x1 : Int32) : ∃ (o : String ⊕ Int32) (b : Int32) (ν2 : Mem) (k : Int32), f_X8_changedValue μ x1 = some o ∧ f_X9_changedValue ν x1 = some (b, ν2) ∧ ν2.1 0 0 = k ∧ Rel μ ν2 ∧ rv_ans ["java/util/NoSuchElementException"] o b k := by
  obtain ⟨a, hI, r, m⟩ := h
  have h2 := iv_made hI
  unfold f_X8_changedValue f_X9_changedValue b_X9_changedValue_20
  rcases x_reqC hI r m x1 with ⟨j, hj, rfl, e1, e2⟩ | ⟨e1, e2⟩
  · rw [e1, e2, sb, sb, trr, if_neg one0, m_go0, x_valAt 23 μ (show j < 2 by omega), sb, sb, if_neg (show ¬ ((1 : Int32), mu_up ν 0 0 0).1 = 0 from one0), if_pos (gI (show j < 2 by omega) (by decide)), nI_clamp (by omega)]
    have e3 : (mu_up ν 0 0 0).1 15 j = nI (a 9 j) := rm_mv m j hj
    refine ⟨_, nI (a 9 j), mu_up ν 0 0 0, 0, rfl, ?_, rfl, th_fin hI r m 0, ?_⟩
    · rw [e3]
    · rw [rx_mv r j hj]
      exact ans_ok _ _
  · rw [e1, e2, sb, sb, trl, if_pos rfl, m_goN ν one0]
    exact ⟨_, 0, mu_up ν 0 0 1, 1, rfl, rfl, rfl, th_fin hI r m 1, ans_th 0 rfl _⟩
