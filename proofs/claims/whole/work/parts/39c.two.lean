/-! the class: two changes that mend -/
theorem x_change {a : AS} {μ : Mem} (h : Inv a) (r : repX a μ) (hF : FD 18 a μ) {c v : Nat} (hc : c < 8 * a 0 0) (hv : v ≤ a 0 1) : ∃ μ', f_X4_change μ (nI c) (nI v) = some ((), μ') ∧ repX (sc a c v) μ' ∧ FD 18 (sc a c v) μ' ∧ eqo [7, 10, 18, 19] μ μ' := by
  have hP := iv_P h
  have hS := iv_S h
  have hc32 : c < 32 := by omega
  have hI := sc_inv h hc hv
  obtain ⟨μ1, e1, r1, q1⟩ := x_put h r hc32 (show v ≤ 3 by omega)
  obtain ⟨x, ex, bx⟩ := x_breachesOf hI r1 (show c / 8 < 4 by omega)
  have hF1 := FD_fr hF q1 (by decide) (by decide)
  have r2 : repX (sc a c v) (mu_uL μ1 19 (c / 8) x) := rx_fr r1 (eqo_uL (K := [18, 19]) μ1 x (by decide)) (qK (.inr (.inr rfl))) (rx_SB r1)
  obtain ⟨y, ey, by'⟩ := x_shortagesOf hI r2 (show c % 8 < 8 by omega)
  obtain ⟨z, ez, bz⟩ := x_putShortages 18 (mu_uL μ1 19 (c / 8) x) y (show c % 8 < 8 by omega) by' (fun i hi => by unfold shb; rw [decide_eq_false (by omega)]; rfl) (g := shB a) hF1.2
  have hF3 : FD 18 (sc a c v) (mu_up (mu_uL μ1 19 (c / 8) x) 18 1 z) := by
    refine ⟨fun p hp => ?_, ?_⟩
    · show B64 ((mu_uL μ1 19 (c / 8) x).2 19 p) _
      by_cases hpc : p = c / 8
      · rw [hpc, uL_s]
        exact bx
      · rw [uL_j _ _ _ hpc]
        exact B64_eqv (hF1.1 p hp) (fun t _ => (rwb_sc a hpc).symm)
    · rw [up_s]
      refine B32_eqv bz (fun i hi => ?_)
      show (if _ then _ else _) = _
      by_cases hi2 : 3 * (c % 8) ≤ i ∧ i < 3 * (c % 8) + 3
      · rw [if_pos hi2]
        unfold shb shB
        rw [decide_eq_true (show i - 3 * (c % 8) < 3 by omega), decide_eq_true (show i < 24 by omega), show i / 3 = c % 8 by omega, show i % 3 = i - 3 * (c % 8) by omega]
      · rw [if_neg hi2, shB_sc a (by omega)]
  refine ⟨mu_up (mu_uL μ1 19 (c / 8) x) 18 1 z, ?_, ?_, hF3, ?_⟩
  · unfold f_X4_change
    rw [e1, sb, m8 hc32, d8 hc32, ex, sb, x_putRow 18 μ1 x (show c / 8 < 4 by omega), sb, ey, sb, ez]
    rfl
  · exact rx_fr r2 (eqo_up (K := [18, 19]) _ z (by decide)) (qK (.inr (.inr rfl))) (SB_fr (rx_SB r2) (fun k hk => up_n _ 1 z hk) (FD_sb hF3))
  · exact eqo_trans (eqo_sub q1 (by decide)) (eqo_trans (eqo_uL μ1 x (by decide)) (eqo_up _ z (by decide)))
def G2 (a : AS) (f : Nat → Prop) (M : Nat → Nat → Nat → Prop) (c v : Nat) : Prop := c < 8 * a 0 0 ∧ v ≤ a 0 1 ∧ v ≠ a 3 c ∧ f c ∧ ∃ c2 v2, G1 (sc a c v) (M c v) c2 v2
/-- what the class takes for the cells of a second change -/
def mskd (a : AS) (f : Nat → Prop) (M : Nat → Nat → Nat → Prop) (g : Int32) : Prop := ∀ c v μ', c < 8 * a 0 0 → v ≤ a 0 1 → v ≠ a 3 c → f c → repX (sc a c v) μ' → FD 18 (sc a c v) μ' → ∃ m, BP m (M c v) ∧ ∀ K : Int32 → Option (Int32 × Mem), (if g = 0 then ((f_X4_cellsAfter (nI c)).bind fun r9 => K r9) else ((f_X2_breachAt 18 μ' 0).bind fun r14 => (f_X4_touching μ' r14).bind fun r15 => K (r15 &&& ((1 <<< (nI c &&& 31)) ^^^ (-1))))) = K m
def noted2 (c v c2 v2 : Nat) (μ' : Mem) : Prop := μ'.1 21 0 = nI c ∧ μ'.1 22 0 = nI v ∧ μ'.1 21 1 = nI c2 ∧ μ'.1 22 1 = nI v2
theorem x_ft50 {a : AS} {μ : Mem} (h : Inv a) (r : repX a μ) (hF : FD 18 a μ) {c : Nat} (hc : c < 8 * a 0 0) (y : Int32) {f : Nat → Prop} (hf : f c) {g : Int32} {M : Nat → Nat → Nat → Prop} (hM : mskd a f M g) : ∃ q : (Mem → Int32 → Option (Int32 × Mem)) → Option (Int32 × Mem), ((∃ v c2 v2 μ', v ≤ a 0 1 ∧ v ≠ a 3 c ∧ FIRST (G1 (sc a c v) (M c v)) c2 v2 ∧ (∀ v', v' < v → v' ≠ a 3 c → ∀ c2 v2, ¬ G1 (sc a c v') (M c v') c2 v2) ∧ repX a μ' ∧ noted2 c v c2 v2 μ' ∧ ∀ L, q L = some (1, μ')) ∨ (∃ μ', (∀ v, v ≤ a 0 1 → v ≠ a 3 c → ∀ c2 v2, ¬ G1 (sc a c v) (M c v) c2 v2) ∧ repX a μ' ∧ FD 18 a μ' ∧ ∀ L, q L = L μ' (nI (c + 1)))) ∧ ∀ L, rv_ls (B_X4_findTwo_50 y g (nI c) (nI (a 3 c)) (nI (a 0 1)) L) (fun _ _ => none) 300 μ (nI 0) = q L := by
  have hP := iv_P h
  have hS := iv_S h
  have hc32 : c < 32 := by omega
  have hvc := iv_val h c hc32
  have key := lu (fun L => B_X4_findTwo_50 y g (nI c) (nI (a 3 c)) (nI (a 0 1)) L) (fun _ _ => none) (σ := Nat × Mem) (fun s g => g s.2 (nI s.1)) (fun i s => s.1 = i ∧ repX a s.2 ∧ FD 18 a s.2 ∧ ∀ v', v' < i → v' ≠ a 3 c → ∀ c2 v2, ¬ G1 (sc a c v') (M c v') c2 v2)
    (fun q => (∃ v c2 v2 μ', v ≤ a 0 1 ∧ v ≠ a 3 c ∧ FIRST (G1 (sc a c v) (M c v)) c2 v2 ∧ (∀ v', v' < v → v' ≠ a 3 c → ∀ c2 v2, ¬ G1 (sc a c v') (M c v') c2 v2) ∧ repX a μ' ∧ noted2 c v c2 v2 μ' ∧ ∀ L, q L = some (1, μ')) ∨ (∃ μ', (∀ v, v ≤ a 0 1 → v ≠ a 3 c → ∀ c2 v2, ¬ G1 (sc a c v) (M c v) c2 v2) ∧ repX a μ' ∧ FD 18 a μ' ∧ ∀ L, q L = L μ' (nI (c + 1)))) (a 0 1 + 1) ?_ ?_ 300 0 (0, μ) (by omega) (by omega) ⟨rfl, r, hF, fun v' hv' => by omega⟩
  · exact key
  · rintro i ⟨v, ν⟩ hi ⟨rfl, hr, hFν, hn⟩
    have hi : v < a 0 1 + 1 := hi
    have hr : repX a ν := hr
    by_cases hv : v = a 3 c
    · refine .inr ⟨(v + 1, ν), ⟨rfl, hr, hFν, fun v' h1 h2 => hn v' (show v' < v from by have : v' < v + 1 := h1; omega) h2⟩, fun L X => ?_⟩
      show B_X4_findTwo_50 y g (nI c) (nI (a 3 c)) (nI (a 0 1)) L X ν (nI v) = X ν (nI (v + 1))
      unfold B_X4_findTwo_50
      rw [if_neg (nI_nlt (by omega) (by omega)), if_pos (by rw [hv]), nI_1]
    · have hvS : v ≤ a 0 1 := by omega
      have hI := sc_inv h hc hvS
      obtain ⟨μ1, e1, r1, f1, q1⟩ := x_change h hr hFν hc hvS
      obtain ⟨m, hm, hK⟩ := hM c v μ1 hc hvS hv hf r1 f1
      obtain ⟨b, μ2, e2, r2, f2, q2, o2, y2, n2⟩ := x_findLast hI r1 f1 hm (pl := 1) (by decide)
      obtain ⟨μ3, e3, r3, f3, q3⟩ := x_change hI r2 f2 (c := c) (v := a 3 c) hc hvc
      rw [sc_sc, sc_self] at r3 f3
      have e2 : f_X4_findLast μ1 m 1 = some (bI b, μ2) := e2
      have go : ∀ L X, B_X4_findTwo_50 y g (nI c) (nI (a 3 c)) (nI (a 0 1)) L X ν (nI v) = if bI b = 0 then X μ3 (nI v + 1) else ((f_X0_put 20 μ3 0 (nI c) (nI v)).bind fun r13 => some (1, r13.2)) := by
        intro L X
        unfold B_X4_findTwo_50
        rw [if_neg (nI_nlt (by omega) (by omega)), if_neg (by rw [nI_eq (by omega) (by omega)]; exact hv), e1, sb]
        refine (hK (fun s0 => b_X4_findTwo_103 μ1 L X y g (nI c) (nI (a 3 c)) (nI (a 0 1)) (nI v) s0)).trans ?_
        show b_X4_findTwo_103 μ1 L X y g (nI c) (nI (a 3 c)) (nI (a 0 1)) (nI v) m = _
        unfold b_X4_findTwo_103
        rw [e2, sb, e3, sb]
      cases hb : b
      · refine .inr ⟨(v + 1, μ3), ⟨rfl, r3, f3, fun v' h1 h2 => ?_⟩, fun L X => ?_⟩
        · by_cases h3 : v' = v
          · rw [h3]
            exact n2 hb
          · exact hn v' (show v' < v from by have : v' < v + 1 := h1; omega) h2
        · show B_X4_findTwo_50 y g (nI c) (nI (a 3 c)) (nI (a 0 1)) L X ν (nI v) = X μ3 (nI (v + 1))
          rw [go, hb, if_pos (by decide), nI_1]
      · obtain ⟨c2, v2, g1, g2, g3⟩ := y2 hb
        refine .inl ⟨fun _ => some (1, mu_up (mu_up μ3 21 0 (nI c)) 22 0 (nI v)), .inl ⟨v, c2, v2, _, hvS, hv, g1, hn, ?_, ⟨?_, ?_, ?_, ?_⟩, fun _ => rfl⟩, fun L X => ?_⟩
        · exact rx_fr r3 (K := [21, 22]) (eqo_trans (eqo_up μ3 _ (by decide)) (eqo_up _ _ (by decide))) (by decide) (by
            have s1 : SB μ3 := rx_SB r3
            intro k hk i h1 h2
            rw [up_n _ _ _ (by omega), up_n _ _ _ (by omega)]
            exact s1 k hk i h1 h2)
        · rw [up_n _ _ _ (by decide), up_s]
        · rw [up_s]
        · rw [up_n _ _ _ (by decide), up_j _ _ _ (by decide), q3.1 21 (by decide), g2]
        · rw [up_j _ _ _ (by decide), up_n _ _ _ (by decide), q3.1 22 (by decide), g3]
        · show B_X4_findTwo_50 y g (nI c) (nI (a 3 c)) (nI (a 0 1)) L X ν (nI v) = _
          rw [go, hb, if_neg (by decide)]
          have ep : f_X0_put 20 μ3 0 (nI c) (nI v) = some ((), mu_up (mu_up μ3 21 0 (nI c)) 22 0 (nI v)) := x_cput 20 μ3 (pl := 0) (nI c) (nI v) (by decide)
          rw [ep, sb]
  · rintro ⟨v, ν⟩ ⟨e, hr, hFν, hn⟩
    have e : v = a 0 1 + 1 := e
    subst e
    refine ⟨fun L => L ν (nI (c + 1)), .inr ⟨ν, fun v h1 h2 => hn v (by omega) h2, hr, hFν, fun _ => rfl⟩, fun L X => ?_⟩
    show B_X4_findTwo_50 y g (nI c) (nI (a 3 c)) (nI (a 0 1)) L X ν (nI (a 0 1 + 1)) = L ν (nI (c + 1))
    unfold B_X4_findTwo_50
    rw [if_pos (nI_lt (by omega) (by omega)), nI_1]
theorem x_findTwo {a : AS} {μ : Mem} (h : Inv a) (r : repX a μ) (hF : FD 18 a μ) {y : Int32} {f : Nat → Prop} (hy : BP y f) {g : Int32} {M : Nat → Nat → Nat → Prop} (hM : mskd a f M g) : ∃ b μ', f_X4_findTwo μ y g = some (bI b, μ') ∧ repX a μ' ∧ (b = true → ∃ c v c2 v2, FIRST (G2 a f M) c v ∧ FIRST (G1 (sc a c v) (M c v)) c2 v2 ∧ noted2 c v c2 v2 μ') ∧ (b = false → ∀ c v, ¬ G2 a f M c v) := by
  have hP := iv_P h
  unfold f_X4_findTwo
  rw [rv_seal]
  have key := lp (B_X4_findTwo_2 y g) (fun _ _ => none) (σ := Nat × Mem) (fun s g => g s.2 (nI s.1)) (fun i s => s.1 = i ∧ repX a s.2 ∧ FD 18 a s.2 ∧ ∀ c v, c < i → ¬ G2 a f M c v)
    (fun x => ∃ b μ', x = some (bI b, μ') ∧ repX a μ' ∧ (b = true → ∃ c v c2 v2, FIRST (G2 a f M) c v ∧ FIRST (G1 (sc a c v) (M c v)) c2 v2 ∧ noted2 c v c2 v2 μ') ∧ (b = false → ∀ c v, ¬ G2 a f M c v)) (8 * a 0 0) ?_ ?_ 300 0 (0, μ) (by omega) (by omega) ⟨rfl, r, hF, fun c v hc => by omega⟩
  · exact key
  · rintro i ⟨c, ν⟩ hi ⟨rfl, hr, hFν, hn⟩
    have hi : c < 8 * a 0 0 := hi
    have hr : repX a ν := hr
    have hc32 : c < 32 := by omega
    have guard : ¬ (ν.1 6 4 * 8 ≤ nI c) := by
      rw [rx_P hr, show nI (a 0 0) * 8 = nI (a 0 0 * 8) from pk_mul _ 8]
      exact nI_ge (by omega) (by omega)
    obtain ⟨b1, eb1, hb1⟩ := x_has hy hc32
    cases h1 : b1
    · refine .inr ⟨(c + 1, ν), ⟨rfl, hr, hFν, fun c2 v h2 q => ?_⟩, fun L => ?_⟩
      · by_cases h3 : c2 = c
        · subst h3
          have := hb1.mpr q.2.2.2.1
          rw [h1] at this
          cases this
        · exact hn c2 v (show c2 < c from by have : c2 < c + 1 := h2; omega) q
      · show B_X4_findTwo_2 y g L ν (nI c) = L ν (nI (c + 1))
        unfold B_X4_findTwo_2
        rw [if_neg guard, x_valueAt hr hc32, sb, eb1, sb, h1, if_pos (by decide)]
        unfold b_X4_findTwo_45
        rw [rv_seal, rv_ls_s]
        unfold B_X4_findTwo_50
        rw [if_pos (by decide), nI_1]
    · have hf := hb1.mp h1
      have go : ∀ L, B_X4_findTwo_2 y g L ν (nI c) = rv_ls (B_X4_findTwo_50 y g (nI c) (nI (a 3 c)) (nI (a 0 1)) L) (fun _ _ => none) 300 ν (nI 0) := by
        intro L
        unfold B_X4_findTwo_2
        rw [if_neg guard, x_valueAt hr hc32, sb, eb1, sb, h1, if_neg (by decide), rx_S hr]
        unfold b_X4_findTwo_45
        rw [rv_seal]
        rfl
      obtain ⟨q, hq, hL⟩ := x_ft50 h hr hFν hi y hf hM
      rcases hq with ⟨v, c2, v2, μ', v1, v3, v4, v5, v6, v7, v8⟩ | ⟨μ', v1, v2, v3, v4⟩
      · refine .inl fun L => ⟨true, μ', ?_, v6, fun _ => ⟨c, v, c2, v2, ⟨⟨hi, v1, v3, hf, c2, v2, v4.1⟩, fun c' v' hg => ?_⟩, v4, v7⟩, fun e => (by cases e)⟩
        · show B_X4_findTwo_2 y g L ν (nI c) = _
          rw [go, hL, v8]
          rfl
        · rcases Nat.lt_trichotomy c c' with h3 | h3 | h3
          · exact .inl h3
          · subst h3
            refine .inr ⟨rfl, ?_⟩
            rcases Nat.lt_or_ge v' v with h4 | h4
            · obtain ⟨c3, v9, h5⟩ := hg.2.2.2.2
              exact absurd h5 (v5 v' h4 hg.2.2.1 c3 v9)
            · exact h4
          · exact absurd hg (hn c' v' h3)
      · refine .inr ⟨(c + 1, μ'), ⟨rfl, v2, v3, fun c2 v h3 q => ?_⟩, fun L => ?_⟩
        · by_cases h4 : c2 = c
          · subst h4
            obtain ⟨c3, v9, h5⟩ := q.2.2.2.2
            exact v1 v q.2.1 q.2.2.1 c3 v9 h5
          · exact hn c2 v (show c2 < c from by have : c2 < c + 1 := h3; omega) q
        · show B_X4_findTwo_2 y g L ν (nI c) = L μ' (nI (c + 1))
          rw [go, hL, v4]
  · rintro ⟨c, ν⟩ ⟨e, hr, hFν, hn⟩ L
    have e : c = 8 * a 0 0 := e
    subst e
    have hr : repX a ν := hr
    refine ⟨false, ν, ?_, hr, fun e => (by cases e), fun _ c v q => hn c v q.1 q⟩
    show B_X4_findTwo_2 y g L ν (nI (8 * a 0 0)) = _
    unfold B_X4_findTwo_2
    rw [rx_P hr, show nI (a 0 0) * 8 = nI (a 0 0 * 8) from pk_mul _ 8, if_pos (nI_le (by omega) (by omega))]
    rfl
