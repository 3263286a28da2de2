theorem smI_step (a : AS) (p i : Nat) (h5 : 1 ≤ a 0 5) : smI a p (i + 1) = smI a p i + ((ln a p i : Int) - (if a 0 5 ≤ i then ln a p (i - a 0 5) else 0 : Nat)) := by
  unfold smI
  have e : ps (ln a p) (i + 1) = ps (ln a p) i + ln a p i := rfl
  by_cases h : a 0 5 ≤ i
  · rw [if_pos h, show i + 1 - a 0 5 = (i - a 0 5) + 1 by omega, e]
    have e2 : ps (ln a p) (i - a 0 5 + 1) = ps (ln a p) (i - a 0 5) + ln a p (i - a 0 5) := rfl
    rw [e2]
    omega
  · rw [if_neg h, show i + 1 - a 0 5 = 0 by omega, show i - a 0 5 = 0 by omega, e]
    omega
theorem ps_bd {a : AS} (h : Inv a) {p i : Nat} (hp : p < 4) (hi : i ≤ 8) : ps (ln a p) i ≤ 5760 := by
  have := ps_le (f := ln a p) (B := 720) (n := 8) (fun j hj => ln_le h hp hj) i hi
  omega
theorem smI_b {a : AS} (h : Inv a) {p i : Nat} (hp : p < 4) (hi : i ≤ 8) : 0 ≤ smI a p i ∧ smI a p i ≤ 5760 := by
  have h1 := ps_bd h hp hi
  have h2 := ps_mono (ln a p) (show i - a 0 5 ≤ i by omega)
  unfold smI
  omega
theorem x_prev {a : AS} {μ : Mem} (h : Inv a) (r : repX a μ) {p i : Nat} (hp : p < 4) (hi : i < 8) : ∃ q, f_X5_shiftAt μ (nI p) (zI ((i : Int) - a 0 5)) = some q ∧ f_X7_lengthOf μ q = some (nI (if a 0 5 ≤ i then ln a p (i - a 0 5) else 0)) := by
  have h5 := iv_span h
  by_cases hc : a 0 5 ≤ i
  · have e : zI ((i : Int) - a 0 5) = nI (i - a 0 5) := by
      rw [zI_n]
      congr 1
      omega
    rw [if_pos hc, e]
    exact ⟨_, x_shiftAt h r hp (by omega), x_len h r (vl_le h hp (by omega))⟩
  · rw [if_neg hc]
    exact ⟨_, x_shiftAt_neg (by omega) (by omega), rfl⟩
theorem x_bitN (k d : Int32) : f_X1_bitIf (bI false) k d = some 0 := rfl
theorem x_step {a : AS} {μ : Mem} (h : Inv a) (r : repX a μ) {p i : Nat} (hp : p < 4) (hi : i < 8) {x : Int64} (hx : B64 x (fnd a p i)) :
    ∃ x', B64 x' (fnd a p (i + 1)) ∧ ∀ L, B_X1_breachesOf_19 μ (nI p) L x (nI (rl (wd a p) i)) (nI (rl (ng a p) i)) (zI (smI a p i)) (zI (endAt a p i)) (nI i)
      = L x' (nI (rl (wd a p) (i + 1))) (nI (rl (ng a p) (i + 1))) (zI (smI a p (i + 1))) (zI (endAt a p (i + 1))) (nI (i + 1)) := by
  have h5 := iv_span h
  have hv := vl_le h hp hi
  have hrn := rl_le (ng a p) i
  have hrn1 := rl_le (ng a p) (i + 1)
  have hrw1 := rl_le (wd a p) (i + 1)
  have h3 := iv_nights h
  have h4 := iv_run h
  have h6 := iv_lim h
  have h2 := iv_rest h
  have hsm := smI_b h hp (show i + 1 ≤ 8 by omega)
  have hst := stV_lt h hv
  have hend := endAt_b h hp (show i ≤ 8 by omega)
  obtain ⟨q, eq1, eq2⟩ := x_prev h r hp hi
  -- the bits
  obtain ⟨x3, e3, b3⟩ := x_bitIf (k := 3) (d := i) (brk a 3 p i) (by omega) hi
  obtain ⟨x4, e4, b4⟩ := x_bitIf (k := 4) (d := i) (brk a 4 p i) (by omega) hi
  have H5 : ∃ x5 f5, (a 0 5 ≤ i + 1 → f5 = i + 1 - a 0 5) ∧ f_X1_bitIf (bI (decide (a 0 5 ≤ i + 1) && brk a 5 p (i + 1 - a 0 5))) 5 (zI ((i : Int) - a 0 5 + 1)) = some x5 ∧ B64 x5 (fun t => (decide (a 0 5 ≤ i + 1) && brk a 5 p (i + 1 - a 0 5)) && decide (t = 8 * 5 + f5)) := by
    by_cases hc : a 0 5 ≤ i + 1
    · obtain ⟨x5, e5, b5⟩ := x_bitIf (k := 5) (d := i + 1 - a 0 5) (decide (a 0 5 ≤ i + 1) && brk a 5 p (i + 1 - a 0 5)) (by omega) (by omega)
      refine ⟨x5, i + 1 - a 0 5, fun _ => rfl, ?_, b5⟩
      rw [show zI ((i : Int) - a 0 5 + 1) = nI (i + 1 - a 0 5) from by rw [zI_n]; congr 1; omega]
      exact e5
    · refine ⟨0, 0, fun q => absurd q hc, ?_, ?_⟩
      · rw [decide_eq_false hc]
        rfl
      · rw [decide_eq_false hc]
        exact B64_0
  obtain ⟨x5, f5, hf5, e5, b5⟩ := H5
  obtain ⟨x0, e0, b0⟩ := x_bitIf (k := 0) (d := i) (brk a 0 p i) (by omega) hi
  obtain ⟨x1, e1, b1⟩ := x_bitIf (k := 1) (d := i) (brk a 1 p i) (by omega) hi
  obtain ⟨x2, e2, b2⟩ := x_bitIf (k := 2) (d := i) (brk a 2 p i) (by omega) hi
  have hfn := fun t => fnd_step (a := a) (p := p) hi h5 t _ f5 rfl hf5
  -- the end of the shift, if there is one
  have hend1 : vl a p i ≠ 0 → endAt a p (i + 1) = enI a p i := by
    intro hne
    unfold endAt
    have : lw (wd a p) (i + 1) = i + 1 := if_pos (decide_eq_true hne)
    rw [this, if_neg (by omega)]
    rfl
  have hend0 : vl a p i = 0 → endAt a p (i + 1) = endAt a p i := by
    intro h0
    unfold endAt
    have : lw (wd a p) (i + 1) = lw (wd a p) i := if_neg (by unfold wd; rw [h0]; decide)
    rw [this]
  have hres : ∃ x', B64 x' (fnd a p (i + 1)) ∧ ∀ L, b_X1_breachesOf_194 μ L (nI p) (nI (rl (wd a p) (i + 1))) (nI (rl (ng a p) (i + 1))) (zI (smI a p (i + 1))) (zI (endAt a p i)) (nI i) (nI (vl a p i) - 1) (zI ((i : Int) - a 0 5 + 1)) x (x3 ||| x4) (bI (decide (a 0 5 ≤ i + 1) && brk a 5 p (i + 1 - a 0 5))) = L x' (nI (rl (wd a p) (i + 1))) (nI (rl (ng a p) (i + 1))) (zI (smI a p (i + 1))) (zI (endAt a p (i + 1))) (nI (i + 1)) := by
    by_cases h0 : vl a p i = 0
    · refine ⟨x ||| ((x3 ||| x4) ||| x5), B64_eqv (B64_or hx (B64_or (B64_or b3 b4) b5)) ?_, ?_⟩
      · intro t ht
        rw [hfn t]
        have z0 : brk a 0 p i = false := decide_eq_false (fun q => q.1 h0)
        have z1 : brk a 1 p i = false := decide_eq_false (fun q => q.1 h0)
        have z2 : brk a 2 p i = false := decide_eq_false (fun q => q.1 h0)
        rw [z0, z1, z2]
        simp
      · intro L
        unfold b_X1_breachesOf_194
        rw [e5, sb, if_pos (by rw [h0]; rfl), hend0 h0, nI_1]
    · refine ⟨(x ||| ((x3 ||| x4) ||| x5)) ||| ((x0 ||| x1) ||| x2), B64_eqv (B64_or (B64_or hx (B64_or (B64_or b3 b4) b5)) (B64_or (B64_or b0 b1) b2)) ?_, ?_⟩
      · intro t ht
        rw [hfn t]
        simp [Bool.or_assoc]
      · intro L
        unfold b_X1_breachesOf_194
        have hv3 := x_v3 hv h0
        have esk := x_hasSkill h r (v := vl a p i - 1) hp (by omega)
        rw [e5, sb, if_neg (by rw [hv3, q_m1 (by omega)]; exact id), x_start h r hv, sb, x_isAway h r hp hi, sb]
        have c0 : (decide (a 4 (8 * p + i) ≠ 0)) = brk a 0 p i := by
          show _ = decide (vl a p i ≠ 0 ∧ a 4 (8 * p + i) ≠ 0)
          simp [h0]
        rw [c0, show f_X1_bitIf (bI (brk a 0 p i)) 0 (nI i) = some x0 from e0, sb, hv3, esk, sb]
        have c1 : (bI (decide (a 5 (3 * p + (vl a p i - 1)) ≠ 0)) = 0) ↔ brk a 1 p i = true := by
          rw [bI_0]
          show _ ↔ decide (vl a p i ≠ 0 ∧ a 5 (3 * p + (vl a p i - 1)) = 0) = true
          simp [h0]
        have est : nI i * 1440 + nI (stV a (vl a p i)) = zI (1440 * (i : Int) + stV a (vl a p i)) := by
          rw [y1440, zI_n, zI_n, zI_mul, zI_add]
          congr 1
          omega
        rw [est]
        have c2 : (μ.1 4 1 ≤ zI (1440 * (i : Int) + stV a (vl a p i)) - zI (endAt a p i)) ↔ brk a 2 p i = false := by
          rw [rx_rest r, zI_sub, zI_n, zI_le (by omega) (by omega) (by omega) (by omega)]
          show _ ↔ decide (vl a p i ≠ 0 ∧ lw (wd a p) i ≠ 0 ∧ rsI a p i < a 0 2) = false
          unfold endAt rsI
          by_cases hl : lw (wd a p) i = 0
          · rw [if_pos hl]
            simp [hl]
            omega
          · rw [if_neg hl]
            simp [hl, h0]
        have g262 : ∀ z, b_X1_breachesOf_262 μ L (nI p) (nI (rl (wd a p) (i + 1))) (nI (rl (ng a p) (i + 1))) (zI (smI a p (i + 1))) (zI (endAt a p i)) (nI i) (nI (vl a p i - 1)) (zI (1440 * (i : Int) + stV a (vl a p i))) z x0 (bI (brk a 1 p i)) = L (z ||| ((x0 ||| x1) ||| x2)) (nI (rl (wd a p) (i + 1))) (nI (rl (ng a p) (i + 1))) (zI (smI a p (i + 1))) (zI (endAt a p (i + 1))) (nI (i + 1)) := by
          intro z
          unfold b_X1_breachesOf_262
          rw [show f_X1_bitIf (bI (brk a 1 p i)) 1 (nI i) = some x1 from e1, sb]
          refine (ifb (fun z2 => b_X1_breachesOf_289 μ L (nI p) (nI (rl (wd a p) (i + 1))) (nI (rl (ng a p) (i + 1))) (zI (smI a p (i + 1))) (nI i) (nI (vl a p i - 1)) (zI (1440 * (i : Int) + stV a (vl a p i))) z (x0 ||| x1) z2) c2).trans ?_
          show b_X1_breachesOf_289 _ _ _ _ _ _ _ _ _ _ _ _ = _
          unfold b_X1_breachesOf_289
          rw [show f_X1_bitIf (bI (brk a 2 p i)) 2 (nI i) = some x2 from e2, sb, ← hv3, x_len h r hv, sb, hend1 h0]
          rw [zI_n (lnV a (vl a p i)), zI_add, nI_1]
          rfl
        by_cases hc1 : brk a 1 p i = true
        · rw [if_pos (c1.mpr hc1)]
          have := g262 (x ||| ((x3 ||| x4) ||| x5))
          rw [hc1] at this
          exact this
        · rw [if_neg (fun q => hc1 (c1.mp q))]
          have := g262 (x ||| ((x3 ||| x4) ||| x5))
          rw [show brk a 1 p i = false from by simpa using hc1] at this
          exact this
  obtain ⟨x', hx', hL⟩ := hres
  refine ⟨x', hx', fun L => ?_⟩
  rw [← hL L]
  unfold B_X1_breachesOf_19
  rw [if_neg (by rw [y8, zI_n, zI_le (by omega) (by omega) (by omega) (by omega)]; omega), x_shiftAt h r hp hi, sb]
  have ew : (if nI (vl a p i) - 1 = -1 then (b_X1_breachesOf_66 μ L (nI p) x (nI (rl (ng a p) i)) (zI (smI a p i)) (zI (endAt a p i)) (nI i) (nI (vl a p i) - 1) ((nI i - (μ.1 4 4)) + 1) 0) else (b_X1_breachesOf_66 μ L (nI p) x (nI (rl (ng a p) i)) (zI (smI a p i)) (zI (endAt a p i)) (nI i) (nI (vl a p i) - 1) ((nI i - (μ.1 4 4)) + 1) (nI (rl (wd a p) i) + 1))) = b_X1_breachesOf_66 μ L (nI p) x (nI (rl (ng a p) i)) (zI (smI a p i)) (zI (endAt a p i)) (nI i) (nI (vl a p i) - 1) ((nI i - (μ.1 4 4)) + 1) (nI (rl (wd a p) (i + 1))) := by
    by_cases h0 : vl a p i = 0
    · rw [if_pos (by rw [h0]; rfl)]
      have : rl (wd a p) (i + 1) = 0 := if_neg (by unfold wd; rw [h0]; decide)
      rw [this]
      rfl
    · rw [if_neg (by rw [x_v3 hv h0, q_m1 (by omega)]; exact id)]
      have : rl (wd a p) (i + 1) = rl (wd a p) i + 1 := if_pos (decide_eq_true h0)
      rw [this, nI_1]
  rw [ew]
  unfold b_X1_breachesOf_66
  rw [x_night h r hv, sb]
  have en : (if bI (isN a (vl a p i)) = 0 then (b_X1_breachesOf_88 μ L (nI p) x (nI (rl (wd a p) (i + 1))) (zI (smI a p i)) (zI (endAt a p i)) (nI i) (nI (vl a p i) - 1) ((nI i - (μ.1 4 4)) + 1) 0) else (b_X1_breachesOf_88 μ L (nI p) x (nI (rl (wd a p) (i + 1))) (zI (smI a p i)) (zI (endAt a p i)) (nI i) (nI (vl a p i) - 1) ((nI i - (μ.1 4 4)) + 1) (nI (rl (ng a p) i) + 1))) = b_X1_breachesOf_88 μ L (nI p) x (nI (rl (wd a p) (i + 1))) (zI (smI a p i)) (zI (endAt a p i)) (nI i) (nI (vl a p i) - 1) ((nI i - (μ.1 4 4)) + 1) (nI (rl (ng a p) (i + 1))) := by
    cases hb : isN a (vl a p i)
    · rw [if_pos (by rfl)]
      have : rl (ng a p) (i + 1) = 0 := if_neg (by unfold ng; rw [hb]; decide)
      rw [this]
      rfl
    · rw [if_neg (by decide)]
      have : rl (ng a p) (i + 1) = rl (ng a p) i + 1 := if_pos hb
      rw [this, nI_1]
  rw [en]
  unfold b_X1_breachesOf_88
  have e10 : (nI i - (μ.1 4 4)) + 1 = zI ((i : Int) - a 0 5 + 1) := by rw [rx_span r, y1, zI_n, zI_n, zI_sub, zI_add]
  rw [e10, x_len h r hv, sb]
  have e11 : zI ((i : Int) - a 0 5 + 1) - 1 = zI ((i : Int) - a 0 5) := by
    rw [y1, zI_sub]
    congr 1
    omega
  rw [e11, eq1, sb, eq2, sb]
  have e12 : zI (smI a p i) + (nI (lnV a (vl a p i)) - nI (if a 0 5 ≤ i then ln a p (i - a 0 5) else 0)) = zI (smI a p (i + 1)) := by
    rw [zI_n, zI_n, zI_sub, zI_add, smI_step a p i h5.1]
    rfl
  rw [e12]
  have c3 : (nI (rl (ng a p) (i + 1)) ≤ μ.1 4 2) ↔ brk a 3 p i = false := by
    rw [rx_nights r, zI_n, zI_n, zI_le (by omega) (by omega) (by omega) (by omega)]
    show _ ↔ decide (a 0 3 < rl (ng a p) (i + 1)) = false
    simp
  refine (ifb (fun z => b_X1_breachesOf_142 μ L (nI p) (nI (rl (wd a p) (i + 1))) (nI (rl (ng a p) (i + 1))) (zI (smI a p (i + 1))) (zI (endAt a p i)) (nI i) (nI (vl a p i) - 1) (zI ((i : Int) - a 0 5 + 1)) x z) c3).trans ?_
  show b_X1_breachesOf_142 _ _ _ _ _ _ _ _ _ _ _ _ = _
  unfold b_X1_breachesOf_142
  rw [show f_X1_bitIf (bI (brk a 3 p i)) 3 (nI i) = some x3 from e3, sb]
  have c4 : (nI (rl (wd a p) (i + 1)) ≤ μ.1 4 3) ↔ brk a 4 p i = false := by
    rw [rx_run r, zI_n, zI_n, zI_le (by omega) (by omega) (by omega) (by omega)]
    show _ ↔ decide (a 0 4 < rl (wd a p) (i + 1)) = false
    simp
  refine (ifb (fun z => b_X1_breachesOf_165 μ L (nI p) (nI (rl (wd a p) (i + 1))) (nI (rl (ng a p) (i + 1))) (zI (smI a p (i + 1))) (zI (endAt a p i)) (nI i) (nI (vl a p i) - 1) (zI ((i : Int) - a 0 5 + 1)) x x3 z) c4).trans ?_
  show b_X1_breachesOf_165 _ _ _ _ _ _ _ _ _ _ _ _ _ = _
  unfold b_X1_breachesOf_165
  rw [show f_X1_bitIf (bI (brk a 4 p i)) 4 (nI i) = some x4 from e4, sb]
  have hb5 : brk a 5 p (i + 1 - a 0 5) = decide (i + 1 - a 0 5 + a 0 5 ≤ 8 ∧ a 0 6 < ps (ln a p) (i + 1 - a 0 5 + a 0 5) - ps (ln a p) (i + 1 - a 0 5)) := rfl
  by_cases hf : a 0 5 ≤ i + 1
  · rw [if_neg (by rw [y0, zI_lt (by omega) (by omega) (by omega) (by omega)]; omega)]
    have c5 : (zI (smI a p (i + 1)) ≤ μ.1 4 5) ↔ (decide (a 0 5 ≤ i + 1) && brk a 5 p (i + 1 - a 0 5)) = false := by
      rw [rx_lim r, zI_n, zI_le (by omega) (by omega) (by omega) (by omega), hb5, decide_eq_true hf, ps_first h5.1 hf]
      have := ps_mono (ln a p) (show i + 1 - a 0 5 ≤ i + 1 by omega)
      unfold smI
      simp
      omega
    exact ifb (fun z => b_X1_breachesOf_194 μ L (nI p) (nI (rl (wd a p) (i + 1))) (nI (rl (ng a p) (i + 1))) (zI (smI a p (i + 1))) (zI (endAt a p i)) (nI i) (nI (vl a p i) - 1) (zI ((i : Int) - a 0 5 + 1)) x (x3 ||| x4) z) c5
  · rw [if_pos (by rw [y0, zI_lt (by omega) (by omega) (by omega) (by omega)]; omega), decide_eq_false hf]
    rfl
/-- the bits of a person's breaches -/
def rwb (a : AS) (p t : Nat) : Bool := decide (t < 48) && brk a (t / 8) p (t % 8)
theorem x_breachesOf {a : AS} {μ : Mem} (h : Inv a) (r : repX a μ) {p : Nat} (hp : p < 4) : ∃ x, f_X1_breachesOf μ (nI p) = some x ∧ B64 x (rwb a p) := by
  have h5 := iv_span h
  have key := lp (B_X1_breachesOf_19 μ (nI p)) (fun _ _ _ _ _ _ => none) (σ := Nat × Int64) (fun s g => g s.2 (nI (rl (wd a p) s.1)) (nI (rl (ng a p) s.1)) (zI (smI a p s.1)) (zI (endAt a p s.1)) (nI s.1)) (fun i s => s.1 = i ∧ B64 s.2 (fnd a p i)) (fun x => ∃ y, x = some y ∧ B64 y (rwb a p)) 8 ?_ ?_ 300 0 (0, 0) (by omega) (by omega) ⟨rfl, B64_eqv B64_0 ?_⟩
  · rw [show smI a p ((0, 0) : Nat × Int64).1 = 0 from by unfold smI; rw [show ((0, 0) : Nat × Int64).1 - a 0 5 = 0 from Nat.zero_sub _]; rfl] at key
    unfold f_X1_breachesOf
    rw [rv_seal]
    exact key
  · rintro i ⟨j, x⟩ hi ⟨rfl, hx⟩
    obtain ⟨x', hx', hL⟩ := x_step h r hp hi hx
    exact .inr ⟨(j + 1, x'), ⟨rfl, hx'⟩, hL⟩
  · rintro ⟨j, x⟩ ⟨rfl, hx⟩ L
    refine ⟨x, rfl, B64_eqv hx ?_⟩
    intro t ht
    unfold fnd rwb
    by_cases h48 : t < 48
    · by_cases hk : t / 8 = 5
      · rw [if_pos hk, hk]
        have hb5 : brk a 5 p (t % 8) = decide (t % 8 + a 0 5 ≤ 8 ∧ a 0 6 < ps (ln a p) (t % 8 + a 0 5) - ps (ln a p) (t % 8)) := rfl
        rw [hb5]
        by_cases hc : t % 8 + a 0 5 ≤ 8
        · simp [hc]
        · simp [hc]
      · rw [if_neg hk, decide_eq_true (show t % 8 < 8 by omega)]
        rfl
    · rw [decide_eq_false h48]
      rfl
  · intro t ht
    unfold fnd
    have : ¬ (t % 8 + a 0 5 ≤ 0) := by omega
    simp [this]
