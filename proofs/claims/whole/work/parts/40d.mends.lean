/-! the reference: the sets of changes that mend -/
/-- the two loops of mends, with what stands for the next call of it -/
def gB37 (nx : Mem → Int32 → Int32 → Int32 → Option (Int32 × Mem)) (x1 x2 x4 x5 : Int32) (k13 k37 : Mem → Int32 → Option (Int32 × Mem)) (μ : Mem) (x6 : Int32) : Option (Int32 × Mem) := if (μ.1 0 2) < x6 then (k13 μ (x4 + 1)) else (if (x6 - 1) = x5 then (k37 μ (x6 + 1)) else (if rv_in x4 32 = true then if rv_in x1 2 = true then if rv_in x1 2 = true then (nx (mu_up (mu_up (mu_up μ 3 (Int32.toNatClampNeg x4) (x6 - 1)) 12 (Int32.toNatClampNeg x1) x4) 13 (Int32.toNatClampNeg x1) x6) (x1 + 1) x2 (x4 + 1)).bind fun r9 => if rv_in x4 32 = true then if r9.1 = 0 then (k37 (mu_up r9.2 3 (Int32.toNatClampNeg x4) x5) (x6 + 1)) else (some (1, (mu_up r9.2 3 (Int32.toNatClampNeg x4) x5))) else none else none else none else none))
def gB13 (nx : Mem → Int32 → Int32 → Int32 → Option (Int32 × Mem)) (x1 x2 : Int32) (k13 : Mem → Int32 → Option (Int32 × Mem)) (μ : Mem) (x4 : Int32) : Option (Int32 × Mem) := if (8 * (μ.1 0 1)) ≤ x4 then (some (0, μ)) else (if rv_in x4 32 = true then rv_loop (gB37 nx x1 x2 x4 (μ.1 3 (Int32.toNatClampNeg x4)) k13) (fun _ _ => none) 300 μ 0 else none)
theorem gB1 (x1 x2 : Int32) : B_X9_mends_L1_13 x1 x2 = gB13 f_X9_mends_L0 x1 x2 := rfl
theorem gB2 (x1 x2 : Int32) : B_X9_mends_L2_13 x1 x2 = gB13 f_X9_mends_L1 x1 x2 := rfl
/-- one change at a cell from c0 on, and behind it N -/
def GN (a : AS) (c0 : Nat) (N : Nat → Nat → Prop) (c v : Nat) : Prop := c < 8 * a 0 0 ∧ v ≤ a 0 1 ∧ v ≠ a 3 c ∧ c0 ≤ c ∧ N c v
/-- places 12 and 13 are alike below j -/
def kp (j : Nat) (ν ν' : Mem) : Prop := fr ν ν' ∧ ∀ i, i < j → ν'.1 12 i = ν.1 12 i ∧ ν'.1 13 i = ν.1 13 i
def nxt (a : AS) (nx : Mem → Int32 → Int32 → Int32 → Option (Int32 × Mem)) (pl : Nat) (x2 : Int32) (c0 : Nat) (N : Nat → Nat → Prop) (Rr : Nat → Nat → Mem → Prop) : Prop := ∀ c v ν', c < 8 * a 0 0 → v ≤ a 0 1 → v ≠ a 3 c → c0 ≤ c → repM (sc a c v) ν' → ∃ b ν'', nx ν' (nI (pl + 1)) x2 (nI (c + 1)) = some (bI b, ν'') ∧ repM (sc a c v) ν'' ∧ kp (pl + 1) ν' ν'' ∧ (b = true ↔ N c v) ∧ (b = true → Rr c v ν'')
theorem q_pr {v w : Nat} (hv : v < 4) (hw : w < 4) : (nI v - 1 = nI w - 1) ↔ v = w := by
  constructor
  · intro e
    have e2 := congrArg (fun z => z + 1) e
    simp only [nI_sp] at e2
    exact (nI_eq (by omega) (by omega)).mp e2
  · intro e
    rw [e]
theorem m_37 {a : AS} {ν : Mem} (h : Inv a) (r : repM a ν) {nx : Mem → Int32 → Int32 → Int32 → Option (Int32 × Mem)} {pl : Nat} (hpl : pl < 2) {x2 : Int32} {c0 : Nat} {N : Nat → Nat → Prop} {Rr : Nat → Nat → Mem → Prop} (hN : nxt a nx pl x2 c0 N Rr) (hR : ∀ c v ν1 ν2, ν2.1 12 = ν1.1 12 → ν2.1 13 = ν1.1 13 → Rr c v ν1 → Rr c v ν2) {c : Nat} (hc : c < 8 * a 0 0) (hc0 : c0 ≤ c) : ∃ q : (Mem → Int32 → Option (Int32 × Mem)) → Option (Int32 × Mem), ((∃ v ν', v ≤ a 0 1 ∧ v ≠ a 3 c ∧ N c v ∧ (∀ v', v' < v → v' ≠ a 3 c → ¬ N c v') ∧ repM a ν' ∧ kp pl ν ν' ∧ ν'.1 12 pl = nI c ∧ ν'.1 13 pl = nI v ∧ Rr c v ν' ∧ ∀ L, q L = some (1, ν')) ∨ (∃ ν', (∀ v, v ≤ a 0 1 → v ≠ a 3 c → ¬ N c v) ∧ repM a ν' ∧ kp pl ν ν' ∧ ∀ L, q L = L ν' (nI (c + 1)))) ∧ ∀ L, rv_ls (gB37 nx (nI pl) x2 (nI c) (nI (a 3 c) - 1) L) (fun _ _ => none) 300 ν (nI 0) = q L := by
  have hP := iv_P h
  have hS := iv_S h
  have hc32 : c < 32 := by omega
  have hvc := iv_val h c hc32
  have key := lu (fun L => gB37 nx (nI pl) x2 (nI c) (nI (a 3 c) - 1) L) (fun _ _ => none) (σ := Nat × Mem) (fun s g => g s.2 (nI s.1)) (fun i s => s.1 = i ∧ repM a s.2 ∧ kp pl ν s.2 ∧ ∀ v', v' < i → v' ≠ a 3 c → ¬ N c v')
    (fun q => (∃ v ν', v ≤ a 0 1 ∧ v ≠ a 3 c ∧ N c v ∧ (∀ v', v' < v → v' ≠ a 3 c → ¬ N c v') ∧ repM a ν' ∧ kp pl ν ν' ∧ ν'.1 12 pl = nI c ∧ ν'.1 13 pl = nI v ∧ Rr c v ν' ∧ ∀ L, q L = some (1, ν')) ∨ (∃ ν', (∀ v, v ≤ a 0 1 → v ≠ a 3 c → ¬ N c v) ∧ repM a ν' ∧ kp pl ν ν' ∧ ∀ L, q L = L ν' (nI (c + 1)))) (a 0 1 + 1) ?_ ?_ 300 0 (0, ν) (by omega) (by omega) ⟨rfl, r, ⟨fr_refl _, fun _ _ => ⟨rfl, rfl⟩⟩, fun v' hv' => by omega⟩
  · exact key
  · rintro i ⟨v, μ⟩ hi ⟨rfl, hr, hk, hn⟩
    have hi : v < a 0 1 + 1 := hi
    have hr : repM a μ := hr
    have hk : kp pl ν μ := hk
    by_cases hv : v = a 3 c
    · refine .inr ⟨(v + 1, μ), ⟨rfl, hr, hk, fun v' h1 h2 => hn v' (show v' < v from by have : v' < v + 1 := h1; omega) h2⟩, fun L X => ?_⟩
      show gB37 nx (nI pl) x2 (nI c) (nI (a 3 c) - 1) L X μ (nI v) = X μ (nI (v + 1))
      unfold gB37
      rw [rm_S hr, if_neg (nI_nlt (by omega) (by omega)), if_pos (by rw [hv]), nI_1]
    · have r1 : repM (sc a c v) (mu_up (mu_up (mu_up μ 3 c (nI v - 1)) 12 pl (nI c)) 13 pl (nI v)) := rm_fr (rm_up hr v) (fr_trans (fr_up _ _ (by unfold scr; omega)) (fr_up _ _ (by unfold scr; omega)))
      obtain ⟨b, ν2, e2, r2, k2, b2, R2⟩ := hN c v _ hc (show v ≤ a 0 1 by omega) hv hc0 r1
      have r3 := rm_up r2 (c := c) (a 3 c)
      rw [sc_sc, sc_self] at r3
      have k3 : kp pl ν (mu_up ν2 3 c (nI (a 3 c) - 1)) := by
        refine ⟨fun k j hs => ?_, fun j hj => ?_⟩
        · by_cases e3 : k = 3
          · subst e3
            by_cases ej : j = c
            · subst ej
              rw [up_s, ← rm_val hr j hc32]
              exact hk.1 3 j hs
            · rw [up_j _ _ _ ej, k2.1 3 j hs, up_n _ _ _ (by decide), up_n _ _ _ (by decide), up_j _ _ _ ej]
              exact hk.1 3 j hs
          · rw [up_n _ _ _ e3, k2.1 k j hs, up_n _ _ _ (by intro q; exact hs (by unfold scr; omega)), up_n _ _ _ (by intro q; exact hs (by unfold scr; omega)), up_n _ _ _ e3]
            exact hk.1 k j hs
        · have h1 := k2.2 j (by omega)
          have h2 := hk.2 j hj
          rw [up_n _ _ _ (by decide), up_n _ _ _ (by decide), h1.1, h1.2, up_n _ _ _ (by decide), up_j _ _ _ (by omega), up_n _ _ _ (by decide), up_j _ _ _ (by omega), up_n _ _ _ (by decide), up_n _ _ _ (by decide)]
          exact h2
      have p12 : ν2.1 12 pl = nI c := by
        rw [(k2.2 pl (by omega)).1, up_n _ _ _ (by decide), up_s]
      have p13 : ν2.1 13 pl = nI v := by
        rw [(k2.2 pl (by omega)).2, up_s]
      have go : ∀ L X, gB37 nx (nI pl) x2 (nI c) (nI (a 3 c) - 1) L X μ (nI v) = if bI b = 0 then X (mu_up ν2 3 c (nI (a 3 c) - 1)) (nI (v + 1)) else some (1, mu_up ν2 3 c (nI (a 3 c) - 1)) := by
        intro L X
        unfold gB37
        rw [rm_S hr, if_neg (nI_nlt (by omega) (by omega)), if_neg (by rw [q_pr (by omega) (by omega)]; exact hv), if_pos (gI hc32 (by decide)), if_pos (gI hpl (by decide)), if_pos (gI hpl (by decide)), nI_clamp (by omega), nI_clamp (by omega), nI_1, nI_1, e2, sb, if_pos (gI hc32 (by decide)), nI_1]
      cases hb : b
      · refine .inr ⟨(v + 1, mu_up ν2 3 c (nI (a 3 c) - 1)), ⟨rfl, r3, k3, fun v' h1 h2 q => ?_⟩, fun L X => ?_⟩
        · by_cases h3 : v' = v
          · rw [h3] at q
            have := b2.mpr q
            rw [hb] at this
            cases this
          · exact hn v' (show v' < v from by have : v' < v + 1 := h1; omega) h2 q
        · show gB37 nx (nI pl) x2 (nI c) (nI (a 3 c) - 1) L X μ (nI v) = _
          rw [go, hb, if_pos (by decide)]
      · refine .inl ⟨fun _ => some (1, mu_up ν2 3 c (nI (a 3 c) - 1)), .inl ⟨v, _, by omega, hv, b2.mp hb, hn, r3, k3, ?_, ?_, ?_, fun _ => rfl⟩, fun L X => ?_⟩
        · rw [up_n _ _ _ (by decide)]
          exact p12
        · rw [up_n _ _ _ (by decide)]
          exact p13
        · exact hR c v ν2 _ (up_n _ _ _ (by decide)) (up_n _ _ _ (by decide)) (R2 hb)
        · show gB37 nx (nI pl) x2 (nI c) (nI (a 3 c) - 1) L X μ (nI v) = _
          rw [go, hb, if_neg (by decide)]
  · rintro ⟨v, μ⟩ ⟨e, hr, hk, hn⟩
    have e : v = a 0 1 + 1 := e
    subst e
    have hr : repM a μ := hr
    refine ⟨fun L => L μ (nI (c + 1)), .inr ⟨μ, fun v h1 h2 => hn v (by omega) h2, hr, hk, fun _ => rfl⟩, fun L X => ?_⟩
    show gB37 nx (nI pl) x2 (nI c) (nI (a 3 c) - 1) L X μ (nI (a 0 1 + 1)) = L μ (nI (c + 1))
    unfold gB37
    rw [rm_S hr, if_pos (nI_lt (by omega) (by omega)), nI_1]
theorem kp_trans {j : Nat} {ν ν1 ν2 : Mem} (h1 : kp j ν ν1) (h2 : kp j ν1 ν2) : kp j ν ν2 := ⟨fr_trans h1.1 h2.1, fun i hi => ⟨(h2.2 i hi).1.trans (h1.2 i hi).1, (h2.2 i hi).2.trans (h1.2 i hi).2⟩⟩
theorem m_13 {a : AS} {ν : Mem} (h : Inv a) (r : repM a ν) {nx : Mem → Int32 → Int32 → Int32 → Option (Int32 × Mem)} {pl : Nat} (hpl : pl < 2) {x2 : Int32} {c0 : Nat} (hc0 : c0 ≤ 32) {N : Nat → Nat → Prop} {Rr : Nat → Nat → Mem → Prop} (hN : nxt a nx pl x2 c0 N Rr) (hR : ∀ c v ν1 ν2, ν2.1 12 = ν1.1 12 → ν2.1 13 = ν1.1 13 → Rr c v ν1 → Rr c v ν2) : ∃ b ν', rv_ls (gB13 nx (nI pl) x2) (fun _ _ => none) 300 ν (nI c0) = some (bI b, ν') ∧ repM a ν' ∧ kp pl ν ν' ∧ (b = true → ∃ c v, FIRST (GN a c0 N) c v ∧ ν'.1 12 pl = nI c ∧ ν'.1 13 pl = nI v ∧ Rr c v ν') ∧ (b = false → ∀ c v, ¬ GN a c0 N c v) := by
  have hP := iv_P h
  rcases Nat.lt_or_ge (8 * a 0 0) c0 with hbig | hsm
  · refine ⟨false, ν, ?_, r, ⟨fr_refl _, fun _ _ => ⟨rfl, rfl⟩⟩, fun e => (by cases e), fun _ c v q => ?_⟩
    · rw [rv_ls_s]
      unfold gB13
      rw [rm_P r, show 8 * nI (a 0 0) = nI (8 * a 0 0) from pk_mul 8 _, if_pos (nI_le (by omega) (by omega))]
      rfl
    · have h1 := q.1
      have h2 := q.2.2.2.1
      omega
  have key := lp (gB13 nx (nI pl) x2) (fun _ _ => none) (σ := Nat × Mem) (fun s g => g s.2 (nI s.1)) (fun i s => s.1 = i ∧ c0 ≤ i ∧ repM a s.2 ∧ kp pl ν s.2 ∧ ∀ c v, c < i → ¬ GN a c0 N c v)
    (fun x => ∃ b ν', x = some (bI b, ν') ∧ repM a ν' ∧ kp pl ν ν' ∧ (b = true → ∃ c v, FIRST (GN a c0 N) c v ∧ ν'.1 12 pl = nI c ∧ ν'.1 13 pl = nI v ∧ Rr c v ν') ∧ (b = false → ∀ c v, ¬ GN a c0 N c v)) (8 * a 0 0) ?_ ?_ 300 c0 (c0, ν) hsm (by omega) ⟨rfl, Nat.le_refl _, r, ⟨fr_refl _, fun _ _ => ⟨rfl, rfl⟩⟩, fun c v hc q => by have := q.2.2.2.1; omega⟩
  · exact key
  · rintro i ⟨c, μ⟩ hi ⟨rfl, hc0c, hr, hk, hn⟩
    have hi : c < 8 * a 0 0 := hi
    have hc0c : c0 ≤ c := hc0c
    have hr : repM a μ := hr
    have hk : kp pl ν μ := hk
    have hc32 : c < 32 := by omega
    have e0 : ∀ L, gB13 nx (nI pl) x2 L μ (nI c) = rv_ls (gB37 nx (nI pl) x2 (nI c) (nI (a 3 c) - 1) L) (fun _ _ => none) 300 μ (nI 0) := by
      intro L
      unfold gB13
      rw [rm_P hr, show 8 * nI (a 0 0) = nI (8 * a 0 0) from pk_mul 8 _, if_neg (nI_ge hi (by omega)), if_pos (gI hc32 (by decide)), nI_clamp (by omega), rm_val hr c hc32, rv_seal]
      rfl
    obtain ⟨q, hq, hL⟩ := m_37 h hr hpl hN hR hi hc0c
    rcases hq with ⟨v, ν', v1, v2, v3, v4, v5, v6, v7, v8, v9, v10⟩ | ⟨ν', v1, v2, v3, v4⟩
    · refine .inl fun L => ⟨true, ν', ?_, v5, kp_trans hk v6, fun _ => ⟨c, v, ⟨⟨hi, v1, v2, hc0c, v3⟩, fun c' v' hg => ?_⟩, v7, v8, v9⟩, fun e => (by cases e)⟩
      · show gB13 nx (nI pl) x2 L μ (nI c) = _
        rw [e0, hL, v10]
        rfl
      · rcases Nat.lt_trichotomy c c' with h3 | h3 | h3
        · exact .inl h3
        · subst h3
          refine .inr ⟨rfl, ?_⟩
          rcases Nat.lt_or_ge v' v with h4 | h4
          · exact absurd hg.2.2.2.2 (v4 v' h4 hg.2.2.1)
          · exact h4
        · exact absurd hg (hn c' v' h3)
    · refine .inr ⟨(c + 1, ν'), ⟨rfl, by show c0 ≤ c + 1; omega, v2, kp_trans hk v3, fun c2 v h3 q => ?_⟩, fun L => ?_⟩
      · by_cases h4 : c2 = c
        · subst h4
          exact v1 v q.2.1 q.2.2.1 q.2.2.2.2
        · exact hn c2 v (show c2 < c from by have : c2 < c + 1 := h3; omega) q
      · show gB13 nx (nI pl) x2 L μ (nI c) = _
        rw [e0, hL, v4]
  · rintro ⟨c, μ⟩ ⟨e, _, hr, hk, hn⟩ L
    have e : c = 8 * a 0 0 := e
    subst e
    have hr : repM a μ := hr
    refine ⟨false, μ, ?_, hr, hk, fun e => (by cases e), fun _ c v q => hn c v q.1 q⟩
    show gB13 nx (nI pl) x2 L μ (nI (8 * a 0 0)) = _
    unfold gB13
    rw [rm_P hr, show 8 * nI (a 0 0) = nI (8 * a 0 0) from pk_mul 8 _, if_pos (nI_le (Nat.le_refl _) (by omega))]
    rfl
/-- the last call: is the roster lawful -/
theorem nx_law0 (a : AS) (h : Inv a) (c0 : Nat) : nxt a f_X9_mends_L0 1 2 c0 (fun c v => LW (sc a c v)) (fun _ _ _ => True) := by
  intro c v ν' hc hv hvn _ r
  obtain ⟨b, e, hb⟩ := m_lawful (sc_inv h hc hv) r
  refine ⟨b, ν', ?_, r, ⟨fr_refl _, fun _ _ => ⟨rfl, rfl⟩⟩, hb, fun _ => trivial⟩
  unfold f_X9_mends_L0
  rw [if_pos (by decide), e, sb, if_pos (rv_bzI b)]
theorem nx_law1 (a : AS) (h : Inv a) (c0 : Nat) : nxt a f_X9_mends_L1 0 1 c0 (fun c v => LW (sc a c v)) (fun _ _ _ => True) := by
  intro c v ν' hc hv hvn _ r
  obtain ⟨b, e, hb⟩ := m_lawful (sc_inv h hc hv) r
  refine ⟨b, ν', ?_, r, ⟨fr_refl _, fun _ _ => ⟨rfl, rfl⟩⟩, hb, fun _ => trivial⟩
  unfold f_X9_mends_L1
  rw [if_pos (by decide), e, sb, if_pos (rv_bzI b)]
theorem GN_G1 (a : AS) (c0 c v : Nat) : GN a c0 (fun c v => LW (sc a c v)) c v ↔ G1 a (fun c => c0 ≤ c) c v := Iff.rfl
/-- the call for a second change -/
theorem nx_two (a : AS) (h : Inv a) : nxt a f_X9_mends_L1 0 2 0 (fun c v => ∃ c2 v2, G1 (sc a c v) (aF c v) c2 v2) (fun c v ν => ∃ c2 v2, FIRST (G1 (sc a c v) (aF c v)) c2 v2 ∧ ν.1 12 1 = nI c2 ∧ ν.1 13 1 = nI v2) := by
  have hP := iv_P h
  intro c v ν' hc hv hvn _ r
  obtain ⟨b, ν2, e2, r2, k2, y2, n2⟩ := m_13 (sc_inv h hc hv) r (pl := 1) (by decide) (c0 := c + 1) (by omega) (nx_law0 (sc a c v) (sc_inv h hc hv) (c + 1)) (fun _ _ _ _ _ _ _ => trivial)
  refine ⟨b, ν2, ?_, r2, k2, ⟨fun hb => ?_, fun hq => ?_⟩, fun hb => ?_⟩
  · unfold f_X9_mends_L1
    rw [if_neg (by decide), gB1, rv_seal]
    exact e2
  · obtain ⟨c2, v2, hf, _⟩ := y2 hb
    exact ⟨c2, v2, hf.1⟩
  · obtain ⟨c2, v2, hf⟩ := hq
    cases hbb : b
    · exact absurd hf (n2 hbb c2 v2)
    · rfl
  · obtain ⟨c2, v2, hf, h3, h4, _⟩ := y2 hb
    exact ⟨c2, v2, hf, h3, h4⟩
def noteM (c v c2 v2 : Nat) (ν' : Mem) : Prop := ν'.1 12 0 = nI c ∧ ν'.1 13 0 = nI v ∧ ν'.1 12 1 = nI c2 ∧ ν'.1 13 1 = nI v2
theorem m_least {a : AS} {ν : Mem} (h : Inv a) (r : repM a ν) : ∃ z ν', f_X9_leastSize ν = some (z, ν') ∧ repM a ν' ∧ ((LW a ∧ z = 0) ∨ (¬ LW a ∧ z = 1 ∧ ∃ c v, FIRST (G1 a aT) c v ∧ ν'.1 12 0 = nI c ∧ ν'.1 13 0 = nI v) ∨ (¬ LW a ∧ (∀ c v, ¬ G1 a aT c v) ∧ z = 2 ∧ ∃ c v c2 v2, FIRST (G2 a aT aF) c v ∧ FIRST (G1 (sc a c v) (aF c v)) c2 v2 ∧ noteM c v c2 v2 ν') ∨ (¬ LW a ∧ (∀ c v, ¬ G1 a aT c v) ∧ (∀ c v, ¬ G2 a aT aF c v) ∧ z = -1)) := by
  have hG1 : ∀ c v, GN a 0 (fun c v => LW (sc a c v)) c v ↔ G1 a aT c v := fun c v => ⟨fun q => ⟨q.1, q.2.1, q.2.2.1, trivial, q.2.2.2.2⟩, fun q => ⟨q.1, q.2.1, q.2.2.1, Nat.zero_le _, q.2.2.2.2⟩⟩
  have hG2 : ∀ c v, GN a 0 (fun c v => ∃ c2 v2, G1 (sc a c v) (aF c v) c2 v2) c v ↔ G2 a aT aF c v := fun c v => ⟨fun q => ⟨q.1, q.2.1, q.2.2.1, trivial, q.2.2.2.2⟩, fun q => ⟨q.1, q.2.1, q.2.2.1, Nat.zero_le _, q.2.2.2.2⟩⟩
  obtain ⟨b0, e0, h0⟩ := m_lawful h r
  have hst : ∀ L μ x, B_X9_leastSize_2 L μ x = if 3 ≤ x then (b_X9_leastSize_23 μ x) else ((f_X9_mends_L2 μ 0 x 0).bind fun r3 => if r3.1 = 0 then (L r3.2 (x + 1)) else (b_X9_leastSize_23 r3.2 x)) := fun _ _ _ => rfl
  unfold f_X9_leastSize
  rw [rv_seal, rv_ls_s]
  rw [hst]
  rw [if_neg (by decide)]
  have m0 : f_X9_mends_L2 ν 0 0 0 = some (bI b0, ν) := by
    unfold f_X9_mends_L2
    rw [if_pos rfl, e0, sb, if_pos (rv_bzI b0)]
  rw [m0, sb]
  cases hb0 : b0
  · have hL : ¬ LW a := fun q => by
      have := h0.mpr q
      rw [hb0] at this
      cases this
    rw [if_pos (show (bI false, ν).1 = 0 from rfl), rv_ls_s]
    rw [hst]
    rw [if_neg (by decide)]
    obtain ⟨b1, ν1, e1, r1, k1, y1, n1⟩ := m_13 h r (pl := 0) (by decide) (c0 := 0) (by decide) (nx_law1 a h 0) (fun _ _ _ _ _ _ _ => trivial)
    have m1 : f_X9_mends_L2 ν 0 (0 + 1) 0 = some (bI b1, ν1) := by
      unfold f_X9_mends_L2
      rw [if_neg (by decide), gB2, rv_seal]
      exact e1
    rw [m1, sb]
    cases hb1 : b1
    · have hn1 : ∀ c v, ¬ G1 a aT c v := fun c v q => n1 hb1 c v ((hG1 c v).mpr q)
      rw [if_pos (show (bI false, ν1).1 = 0 from rfl), rv_ls_s]
      rw [hst]
      rw [if_neg (by decide)]
      obtain ⟨b2, ν2, e2, r2, k2, y2, n2⟩ := m_13 h r1 (pl := 0) (by decide) (c0 := 0) (by decide) (nx_two a h) (fun c v ν1 ν2 h12 h13 ⟨c2, v2, q1, q2, q3⟩ => ⟨c2, v2, q1, by rw [h12]; exact q2, by rw [h13]; exact q3⟩)
      have m2 : f_X9_mends_L2 ν1 0 (0 + 1 + 1) 0 = some (bI b2, ν2) := by
        unfold f_X9_mends_L2
        rw [if_neg (by decide), gB2, rv_seal]
        exact e2
      rw [m2, sb]
      cases hb2 : b2
      · rw [if_pos (show (bI false, ν2).1 = 0 from rfl), rv_ls_s]
        rw [hst]
        rw [if_pos (by decide)]
        unfold b_X9_leastSize_23
        rw [if_pos (by decide)]
        exact ⟨-1, ν2, rfl, r2, .inr (.inr (.inr ⟨hL, hn1, fun c v q => n2 hb2 c v ((hG2 c v).mpr q), rfl⟩))⟩
      · rw [if_neg (show ¬ (bI true, ν2).1 = 0 from (by decide : ¬ bI true = 0))]
        unfold b_X9_leastSize_23
        rw [if_neg (by decide)]
        obtain ⟨c, v, hf, h12, h13, c2, v2, hf2, h4, h5⟩ := y2 hb2
        exact ⟨2, ν2, rfl, r2, .inr (.inr (.inl ⟨hL, hn1, rfl, c, v, c2, v2, ⟨(hG2 c v).mp hf.1, fun c' v' q => hf.2 c' v' ((hG2 c' v').mpr q)⟩, hf2, h12, h13, h4, h5⟩))⟩
    · rw [if_neg (show ¬ (bI true, ν1).1 = 0 from (by decide : ¬ bI true = 0))]
      unfold b_X9_leastSize_23
      rw [if_neg (by decide)]
      obtain ⟨c, v, hf, h12, h13, _⟩ := y1 hb1
      exact ⟨1, ν1, rfl, r1, .inr (.inl ⟨hL, rfl, c, v, ⟨(hG1 c v).mp hf.1, fun c' v' q => hf.2 c' v' ((hG1 c' v').mpr q)⟩, h12, h13⟩)⟩
  · rw [if_neg (show ¬ (bI true, ν).1 = 0 from (by decide : ¬ bI true = 0))]
    unfold b_X9_leastSize_23
    rw [if_neg (by decide)]
    exact ⟨0, ν, rfl, r, .inl ⟨h0.mp hb0, rfl⟩⟩
