/-! the person with the most breaches -/
noncomputable def wt (a : AS) (p : Nat) : Nat := cnt (rwb a p) 64
theorem wt_le (a : AS) (p : Nat) : wt a p ≤ 64 := cnt_le _ _
/-- the best of the persons so far, plus 1; 0 if there is none -/
noncomputable def bs (a : AS) : Nat → Nat
  | 0 => 0
  | t + 1 => if bt a t = true ∧ t < 192 ∧ (bs a t = 0 ∨ wt a (bs a t - 1) < wt a (t / 8 % 4)) then t / 8 % 4 + 1 else bs a t
theorem bs_s (a : AS) (t : Nat) : bs a (t + 1) = if bt a t = true ∧ t < 192 ∧ (bs a t = 0 ∨ wt a (bs a t - 1) < wt a (t / 8 % 4)) then t / 8 % 4 + 1 else bs a t := rfl
theorem bs_le (a : AS) : ∀ t, bs a t ≤ 4
  | 0 => Nat.zero_le _
  | t + 1 => by
    have := bs_le a t
    rw [bs_s]
    split <;> omega
theorem bs_no {a : AS} {T : Nat} : ∀ n, (∀ t, T ≤ t → t < T + n → bt a t = false ∨ 192 ≤ t) → bs a (T + n) = bs a T
  | 0, _ => rfl
  | n + 1, h => by
    rw [← Nat.add_assoc, bs_s, if_neg, bs_no n (fun t h1 h2 => h t h1 (by omega))]
    rintro ⟨h1, h2, _⟩
    rcases h (T + n) (by omega) (by omega) with h3 | h3
    · rw [h3] at h1
      cases h1
    · omega
noncomputable def mv (a : AS) (b : Nat) : Nat := if b = 0 then 0 else wt a (b - 1)
theorem mv_le (a : AS) (b : Nat) : mv a b ≤ 64 := by
  unfold mv
  have := wt_le a (b - 1)
  split <;> omega
theorem wt_pos {a : AS} {k p d : Nat} (hk : k < 6) (hd : d < 8) (hb : brk a k p d = true) : 0 < wt a p := by
  have h1 : rwb a p (8 * k + d) = true := by
    unfold rwb
    rw [decide_eq_true (by omega), show (8 * k + d) / 8 = k by omega, show (8 * k + d) % 8 = d by omega, hb]
    rfl
  have h2 := cnt_mono (rwb a p) (show 8 * k + d + 1 ≤ 64 by omega)
  rw [cnt_succ, if_pos h1] at h2
  unfold wt
  omega
theorem bs_blk (a : AS) {k p : Nat} (hk : k < 6) (hp : p < 4) : ∀ n, n ≤ 8 → bs a (32 * k + 8 * p + n) = if cnt (brk a k p) n ≠ 0 ∧ mv a (bs a (32 * k + 8 * p)) < wt a p then p + 1 else bs a (32 * k + 8 * p)
  | 0, _ => by
    rw [if_neg (fun q => q.1 (cnt_0 _))]
    rfl
  | n + 1, hn => by
    have ih := bs_blk a hk hp n (by omega)
    rw [← Nat.add_assoc, bs_s, bt_k hk hp (by omega), cnt_succ, show (32 * k + 8 * p + n) / 8 % 4 = p by omega]
    cases hb : brk a k p n
    · rw [if_neg (fun q => by cases q.1), ih, if_neg (show ¬ (false = true) by decide)]
      rfl
    · have hw := wt_pos hk (by omega) hb
      by_cases hlt : mv a (bs a (32 * k + 8 * p)) < wt a p
      · rw [if_pos (show cnt (brk a k p) n + (if true = true then 1 else 0) ≠ 0 ∧ mv a (bs a (32 * k + 8 * p)) < wt a p from ⟨by rw [if_pos rfl]; omega, hlt⟩)]
        by_cases hc : cnt (brk a k p) n ≠ 0
        · rw [if_pos ⟨hc, hlt⟩] at ih
          rw [ih]
          split <;> rfl
        · rw [if_neg (fun q => hc q.1)] at ih
          rw [ih, if_pos]
          refine ⟨rfl, by omega, ?_⟩
          unfold mv at hlt
          by_cases h0 : bs a (32 * k + 8 * p) = 0
          · exact .inl h0
          · rw [if_neg h0] at hlt
            exact .inr hlt
      · rw [if_neg (fun q => hlt q.2)] at ih
        have hR : ¬ (cnt (brk a k p) n + (if true = true then 1 else 0) ≠ 0 ∧ mv a (bs a (32 * k + 8 * p)) < wt a p) := fun q => hlt q.2
        rw [if_neg hR, ih, if_neg]
        rintro ⟨_, _, h3⟩
        unfold mv at hlt
        rcases h3 with h3 | h3
        · rw [if_pos h3] at hlt
          omega
        · by_cases h0 : bs a (32 * k + 8 * p) = 0
          · rw [if_pos h0] at hlt
            omega
          · rw [if_neg h0] at hlt
            exact hlt h3
theorem x_mostB {q : Nat} {a : AS} {μ : Mem} (h : FD q a μ) : f_X2_mostBurdened q μ = some (zI ((bs a 192 : Int) - 1)) := by
  unfold f_X2_mostBurdened
  rw [rv_seal]
  have key := lq (B_X2_mostBurdened_6 q μ) (fun _ _ _ => none) (fun k g => g (nI (mv a (bs a (32 * k)))) (zI ((bs a (32 * k) : Int) - 1)) (nI k)) (some (zI ((bs a 192 : Int) - 1))) 6 ?_ ?_ 300 0 (by omega) (by omega)
  · exact key
  · intro k L hk
    show B_X2_mostBurdened_6 q μ L _ _ (nI k) = _
    unfold B_X2_mostBurdened_6
    rw [if_neg (g6 hk), rv_seal]
    have key := lq (B_X2_mostBurdened_15 q μ (nI k) L) (fun _ _ _ => none) (fun p g => g (nI (mv a (bs a (32 * k + 8 * p)))) (zI ((bs a (32 * k + 8 * p) : Int) - 1)) (nI p)) (L (nI (mv a (bs a (32 * (k + 1))))) (zI ((bs a (32 * (k + 1)) : Int) - 1)) (nI (k + 1))) 4 ?_ ?_ 300 0 (by omega) (by omega)
    · exact key
    · intro p X hp
      have hblk := bs_blk a hk hp 8 (by omega)
      have e8 : 32 * k + 8 * p + 8 = 32 * k + 8 * (p + 1) := by omega
      rw [e8] at hblk
      have hm := mv_le a (bs a (32 * k + 8 * p))
      have hw := wt_le a p
      obtain ⟨x, ex, bx⟩ := x_daysOf h hk hp
      have hz : x = 0 ↔ cnt (brk a k p) 8 = 0 := by
        rw [B32_z bx, cnt_z]
        constructor
        · intro g i hi
          have := g i (by omega)
          rw [decide_eq_true hi] at this
          simpa using this
        · intro g i hi
          by_cases h8 : i < 8
          · rw [g i h8]
            simp
          · rw [decide_eq_false h8]
            rfl
      show B_X2_mostBurdened_15 q μ (nI k) L X _ _ (nI p) = X (nI (mv a (bs a (32 * k + 8 * (p + 1))))) (zI ((bs a (32 * k + 8 * (p + 1)) : Int) - 1)) (nI (p + 1))
      unfold B_X2_mostBurdened_15
      rw [if_neg (g4 hp), ex, sb, hblk]
      by_cases h0 : x = 0
      · rw [if_pos h0, if_neg (fun q => q.1 (hz.mp h0)), nI_1]
      · rw [if_neg h0, if_pos (gI hp (by decide)), nI_clamp (by omega), x_pop64 (h.1 p hp), sb]
        show (if nI (wt a p) ≤ nI (mv a (bs a (32 * k + 8 * p))) then _ else if rv_in (nI p) 4 = true then (some (nI (wt a p))).bind (fun r9 => X r9 (nI p) (nI p + 1)) else none) = _
        by_cases hc : wt a p ≤ mv a (bs a (32 * k + 8 * p))
        · rw [if_pos (nI_le hc (by omega)), if_neg (fun q => by have := q.2; omega), nI_1]
        · rw [if_neg (nI_ge (by omega) (by omega)), if_pos (gI hp (by decide)), sb, if_pos (⟨fun q => h0 (hz.mpr q), by omega⟩ : cnt (brk a k p) 8 ≠ 0 ∧ mv a (bs a (32 * k + 8 * p)) < wt a p), nI_1]
          have e1 : mv a (p + 1) = wt a p := by
            unfold mv
            rw [if_neg (by omega)]
            rfl
          have e2 : zI (((p + 1 : Nat) : Int) - 1) = nI p := by
            rw [zI_n]
            congr 1
            omega
          rw [e1, e2]
    · intro X
      have e4 : 32 * k + 8 * 4 = 32 * (k + 1) := by omega
      show B_X2_mostBurdened_15 q μ (nI k) L X (nI (mv a (bs a (32 * k + 8 * 4)))) (zI ((bs a (32 * k + 8 * 4) : Int) - 1)) (nI 4) = _
      unfold B_X2_mostBurdened_15
      rw [if_pos (by decide), e4, nI_1]
  · intro L
    show B_X2_mostBurdened_6 q μ L _ _ (nI 6) = _
    unfold B_X2_mostBurdened_6
    rw [if_pos (by decide)]
/-- the told breaches of a person -/
def isP (a : AS) (p t : Nat) : Bool := bt a t && decide (t < 192 ∧ t / 8 % 4 = p)
theorem cnt_same {f g : Nat → Bool} (hg : ∀ t, g t = true → f t = true) {T T' : Nat} (h : cnt f T = cnt f T') : cnt g T = cnt g T' := by
  have key : ∀ {T T'}, T ≤ T' → cnt f T = cnt f T' → cnt g T = cnt g T' := by
    intro T T' hT h
    obtain ⟨n, rfl⟩ := Nat.exists_eq_add_of_le hT
    rw [cnt_app] at h
    have z : cnt (fun i => f (T + i)) n = 0 := by omega
    have z2 : cnt (fun i => g (T + i)) n = 0 := by
      rw [cnt_z] at z ⊢
      intro i hi
      cases hgi : g (T + i)
      · rfl
      · have := z i hi
        rw [hg _ hgi] at this
        cases this
    rw [cnt_app, z2]
    rfl
  rcases Nat.le_total T T' with h1 | h1
  · exact key h1 h
  · exact (key h1 h.symm).symm
theorem bs_same {a : AS} {T T' : Nat} (h : cnt (bt a) T = cnt (bt a) T') : bs a T = bs a T' := by
  have key : ∀ {T T'}, T ≤ T' → cnt (bt a) T = cnt (bt a) T' → bs a T = bs a T' := by
    intro T T' hT h
    obtain ⟨n, rfl⟩ := Nat.exists_eq_add_of_le hT
    rw [cnt_app] at h
    have z : cnt (fun i => bt a (T + i)) n = 0 := by omega
    rw [cnt_z] at z
    refine (bs_no n (fun t h1 h2 => ?_)).symm
    have := z (t - T) (by omega)
    rw [show T + (t - T) = t by omega] at this
    exact .inl this
  rcases Nat.le_total T T' with h1 | h1
  · exact key h1 h
  · exact (key h1 h.symm).symm
theorem isP_blk (a : AS) {k p p' : Nat} (hk : k < 6) (hp' : p' < 4) : cnt (isP a p) (32 * k + 8 * (p' + 1)) = cnt (isP a p) (32 * k + 8 * p') + if p' = p then cnt (brk a k p) 8 else 0 := by
  rw [show 32 * k + 8 * (p' + 1) = 32 * k + 8 * p' + 8 by omega, cnt_app]
  congr 1
  by_cases e : p' = p
  · rw [if_pos e, ← e]
    refine cnt_ext 8 (fun i hi => ?_)
    unfold isP
    rw [bt_k hk hp' hi, decide_eq_true (show 32 * k + 8 * p' + i < 192 ∧ (32 * k + 8 * p' + i) / 8 % 4 = p' by omega)]
    simp
  · rw [if_neg e, cnt_z]
    intro i hi
    unfold isP
    rw [decide_eq_false (show ¬ (32 * k + 8 * p' + i < 192 ∧ (32 * k + 8 * p' + i) / 8 % 4 = p) by omega)]
    simp
theorem isP_32 (a : AS) {k p : Nat} (hk : k < 6) (hp : p < 4) : cnt (isP a p) (32 * (k + 1)) = cnt (isP a p) (32 * k) + cnt (brk a k p) 8 := by
  have g0 := isP_blk a (p := p) (p' := 0) hk (by omega)
  have g1 := isP_blk a (p := p) (p' := 1) hk (by omega)
  have g2 := isP_blk a (p := p) (p' := 2) hk (by omega)
  have g3 := isP_blk a (p := p) (p' := 3) hk (by omega)
  have e0 : 32 * k + 8 * 0 = 32 * k := by omega
  have e1 : 32 * k + 8 * (0 + 1) = 32 * k + 8 * 1 := rfl
  have e2 : 32 * k + 8 * (1 + 1) = 32 * k + 8 * 2 := rfl
  have e3 : 32 * k + 8 * (2 + 1) = 32 * k + 8 * 3 := rfl
  have e4 : 32 * k + 8 * (3 + 1) = 32 * (k + 1) := by omega
  rw [e0, e1] at g0
  rw [e2] at g1
  rw [e3] at g2
  rw [e4] at g3
  have hp : p = 0 ∨ p = 1 ∨ p = 2 ∨ p = 3 := by omega
  rcases hp with rfl | rfl | rfl | rfl
  · rw [if_pos rfl] at g0
    rw [if_neg (by decide)] at g1 g2 g3
    omega
  · rw [if_pos rfl] at g1
    rw [if_neg (by decide)] at g0 g2 g3
    omega
  · rw [if_pos rfl] at g2
    rw [if_neg (by decide)] at g0 g1 g3
    omega
  · rw [if_pos rfl] at g3
    rw [if_neg (by decide)] at g0 g1 g2
    omega
theorem isP_all (a : AS) {p : Nat} (hp : p < 4) : cnt (isP a p) 216 = wt a p := by
  have h0 := isP_32 a (k := 0) (by omega) hp
  have h1 := isP_32 a (k := 1) (by omega) hp
  have h2 := isP_32 a (k := 2) (by omega) hp
  have h3 := isP_32 a (k := 3) (by omega) hp
  have h4 := isP_32 a (k := 4) (by omega) hp
  have h5 := isP_32 a (k := 5) (by omega) hp
  have hr := cnt_row a p
  have hz : cnt (isP a p) (192 + 24) = cnt (isP a p) 192 := cnt_no (f := isP a p) (m := 192) (fun i hi => by unfold isP; rw [decide_eq_false (by omega)]; simp) 24
  have z : cnt (isP a p) (32 * 0) = 0 := cnt_0 _
  have e0 : 32 * (0 + 1) = 32 * 1 := rfl
  have e1 : 32 * (1 + 1) = 32 * 2 := rfl
  have e2 : 32 * (2 + 1) = 32 * 3 := rfl
  have e3 : 32 * (3 + 1) = 32 * 4 := rfl
  have e4 : 32 * (4 + 1) = 32 * 5 := rfl
  have e5 : 32 * (5 + 1) = 192 := rfl
  have e6 : 192 + 24 = 216 := rfl
  rw [e0] at h0
  rw [e1] at h1
  rw [e2] at h2
  rw [e3] at h3
  rw [e4] at h4
  rw [e5] at h5
  rw [e6] at hz
  unfold wt
  omega
theorem m_breachesOf {a : AS} {ν : Mem} (hT : TL a 216 ν) {p : Nat} (hp : p < 4) : f_X9_breachesOf ν (nI p) = some (nI (wt a p)) := by
  have hnb := nB_le a
  have e14 : ν.1 0 14 = nI (nB a) := hT.1
  unfold f_X9_breachesOf
  rw [rv_seal]
  have key := lp (B_X9_breachesOf_4 ν (nI p)) (fun _ _ => none) (σ := Nat × Nat) (fun s g => g (nI s.2) (nI s.1)) (fun n s => s.1 = n ∧ ∀ T, T ≤ 216 → cnt (bt a) T = n → s.2 = cnt (isP a p) T) (fun x => x = some (nI (wt a p))) (nB a) ?_ ?_ 300 0 (0, 0) (by omega) (by omega) ⟨rfl, fun T _ hc => ?_⟩
  · exact key
  · rintro i ⟨n, c⟩ hn ⟨rfl, hc⟩
    have hn : n < nB a := hn
    obtain ⟨t, ht, hbt, hct⟩ := cnt_find (f := bt a) (n := n) 216 hn
    obtain ⟨_, e8, _, _⟩ := hT.2 t ht hbt
    rw [hct] at e8
    have hc' : c = cnt (isP a p) t := hc t (by omega) hct
    refine .inr ⟨(n + 1, cnt (isP a p) (t + 1)), ⟨rfl, fun T hT2 hcT => ?_⟩, fun L => ?_⟩
    · show cnt (isP a p) (t + 1) = cnt (isP a p) T
      refine cnt_same (f := bt a) (fun s hs => ?_) ?_
      · unfold isP at hs
        rw [Bool.and_eq_true] at hs
        exact hs.1
      · rw [cnt_succ, if_pos hbt, hct]
        exact hcT.symm
    · show B_X9_breachesOf_4 ν (nI p) L (nI c) (nI n) = L (nI (cnt (isP a p) (t + 1))) (nI (n + 1))
      have hle := cnt_le (isP a p) t
      unfold B_X9_breachesOf_4
      rw [e14, if_neg (nI_ge hn (by omega)), if_pos (gI (by omega) (by decide)), nI_clamp (by omega), e8]
      unfold b_X9_breachesOf_28
      rw [cnt_succ, nI_1, hc']
      unfold whoI
      by_cases h1 : t < 192
      · rw [if_pos h1]
        by_cases h2 : t / 8 % 4 = p
        · rw [if_pos (by rw [h2]), if_pos (by unfold isP; rw [hbt, decide_eq_true ⟨h1, h2⟩]; rfl), nI_1]
        · rw [if_neg (by rw [nI_eq (by omega) (by omega)]; exact h2), if_neg (by unfold isP; rw [decide_eq_false (fun q => h2 q.2)]; simp), show (0 : Int32) = nI 0 from rfl, nI_add, nI_1]
      · rw [if_neg h1, if_neg (fun q => by
          have q2 : nI p = -1 := q.symm
          rw [q_m1 (by omega)] at q2
          exact q2), if_neg (by unfold isP; rw [decide_eq_false (fun q => h1 q.1)]; simp), show (0 : Int32) = nI 0 from rfl, nI_add, nI_1]
  · rintro ⟨n, c⟩ ⟨e, hc⟩ L
    have e : n = nB a := e
    subst e
    have hc' : c = cnt (isP a p) 216 := hc 216 (by omega) rfl
    show B_X9_breachesOf_4 ν (nI p) L (nI c) (nI (nB a)) = _
    unfold B_X9_breachesOf_4
    rw [e14, if_pos (nI_le (Nat.le_refl _) (by omega)), hc', isP_all a hp]
  · show 0 = cnt (isP a p) T
    rw [← cnt_0 (isP a p)]
    refine cnt_same (f := bt a) (fun s hs => ?_) (by rw [cnt_0]; exact hc.symm)
    unfold isP at hs
    rw [Bool.and_eq_true] at hs
    exact hs.1
theorem m_go0 (ν : Mem) : f_X9_goesOn ν 0 = some (1, mu_up ν 0 0 0) := rfl
theorem m_goN (ν : Mem) {x : Int32} (h : x ≠ 0) : f_X9_goesOn ν x = some (0, mu_up ν 0 0 x) := if_neg h
theorem rm_th {a : AS} {ν : Mem} (r : repM a ν) (x : Int32) : repM a (mu_up ν 0 0 x) := rm_fr r (fr_up ν x (by unfold scr; omega))
theorem m_mostB {a : AS} {ν : Mem} (h : Inv a) (r : repM a ν) : ∃ ν', f_X9_mostBreaches ν = some (if bs a 192 = 0 then 0 else nI (bs a 192 - 1), ν') ∧ repM a ν' ∧ ν'.1 0 0 = if bs a 192 = 0 then 1 else 0 := by
  have hnb := nB_le a
  obtain ⟨ν1, e1, r1, f1, hT⟩ := m_tellsAll h r
  have e14 : ν1.1 0 14 = nI (nB a) := hT.1
  unfold f_X9_mostBreaches
  rw [e1, sb, rv_seal]
  have key := lp (B_X9_mostBreaches_8 ν1) (fun _ _ => none) (σ := Nat × Nat) (fun s g => g (zI ((s.2 : Int) - 1)) (nI s.1)) (fun n s => s.1 = n ∧ ∀ T, T ≤ 216 → cnt (bt a) T = n → s.2 = bs a T) (fun x => ∃ ν', x = some (if bs a 192 = 0 then 0 else nI (bs a 192 - 1), ν') ∧ repM a ν' ∧ ν'.1 0 0 = if bs a 192 = 0 then 1 else 0) (nB a) ?_ ?_ 300 0 (0, 0) (by omega) (by omega) ⟨rfl, fun T _ hc => by
    show 0 = bs a T
    exact bs_same (T := 0) (by rw [cnt_0]; exact hc.symm)⟩
  · exact key
  · rintro i ⟨n, b⟩ hn ⟨rfl, hb⟩
    have hn : n < nB a := hn
    obtain ⟨t, ht, hbt, hct⟩ := cnt_find (f := bt a) (n := n) 216 hn
    obtain ⟨_, e8, _, _⟩ := hT.2 t ht hbt
    rw [hct] at e8
    have hb' : b = bs a t := hb t (by omega) hct
    have hb4 := bs_le a t
    refine .inr ⟨(n + 1, bs a (t + 1)), ⟨rfl, fun T hT2 hcT => ?_⟩, fun L => ?_⟩
    · show bs a (t + 1) = bs a T
      refine bs_same ?_
      rw [cnt_succ, if_pos hbt, hct]
      exact hcT.symm
    · show B_X9_mostBreaches_8 ν1 L (zI ((b : Int) - 1)) (nI n) = L (zI ((bs a (t + 1) : Int) - 1)) (nI (n + 1))
      unfold B_X9_mostBreaches_8
      rw [e14, if_neg (nI_ge hn (by omega)), if_pos (gI (by omega) (by decide)), nI_clamp (by omega), e8]
      unfold b_X9_mostBreaches_53 b_X9_mostBreaches_54 b_X9_mostBreaches_69
      rw [if_pos (show (0 : Int32) = 0 from rfl), if_neg (show ¬ (1 : Int32) = 0 by decide), if_pos (gI (show n < 256 by omega) (by decide)), if_pos (gI (show n < 256 by omega) (by decide)), nI_clamp (by omega), e8, nI_1, hb', bs_s]
      unfold whoI
      by_cases h1 : t < 192
      · have e2 : zI (((t / 8 % 4 + 1 : Nat) : Int) - 1) = nI (t / 8 % 4) := by
          rw [zI_n]
          congr 1
          omega
        rw [if_pos h1, if_neg (by rw [q_m1 (by omega)]; exact id)]
        by_cases h0 : bs a t = 0
        · rw [if_pos (by rw [h0]; rfl), if_pos ⟨hbt, h1, .inl h0⟩, e2]
        · have e3 : zI ((bs a t : Int) - 1) = nI (bs a t - 1) := by
            rw [zI_n]
            congr 1
            omega
          have hw1 := wt_le a (t / 8 % 4)
          have hw2 := wt_le a (bs a t - 1)
          rw [e3, if_neg (by rw [q_m1 (by omega)]; exact id), m_breachesOf hT (by omega), sb, m_breachesOf hT (by omega), sb]
          by_cases hc : wt a (t / 8 % 4) ≤ wt a (bs a t - 1)
          · rw [if_pos (nI_le hc (by omega)), if_neg (fun q => by rcases q.2.2 with q | q <;> omega), e3]
          · rw [if_neg (nI_ge (by omega) (by omega)), if_pos ⟨hbt, h1, .inr (by omega)⟩, e2]
      · rw [if_neg h1, if_pos rfl, if_neg (fun q => h1 q.2.1)]
  · rintro ⟨n, b⟩ ⟨e, hb⟩ L
    have e : n = nB a := e
    subst e
    have hb' : b = bs a 216 := hb 216 (by omega) rfl
    have hb2 : bs a 216 = bs a 192 := bs_no (T := 192) 24 (fun t h1 _ => .inr h1)
    have hb4 := bs_le a 192
    show ∃ ν', B_X9_mostBreaches_8 ν1 L (zI ((b : Int) - 1)) (nI (nB a)) = _ ∧ _
    unfold B_X9_mostBreaches_8 b_X9_mostBreaches_87
    rw [e14, if_pos (nI_le (Nat.le_refl _) (by omega)), hb', hb2, m_goN ν1 (show (1 : Int32) ≠ 0 by decide), m_go0, sb, sb]
    by_cases h0 : bs a 192 = 0
    · refine ⟨mu_up ν1 0 0 1, ?_, rm_th r1 _, ?_⟩
      · rw [if_pos (by rw [h0]; rfl), if_pos h0]
        rfl
      · rw [if_pos h0]
        exact up_s _ _ _ _
    · have e3 : zI ((bs a 192 : Int) - 1) = nI (bs a 192 - 1) := by
        rw [zI_n]
        congr 1
        omega
      refine ⟨mu_up ν1 0 0 0, ?_, rm_th r1 _, ?_⟩
      · rw [e3, if_neg (by rw [q_m1 (by omega)]; exact id), if_neg h0]
        rfl
      · rw [if_neg h0]
        exact up_s _ _ _ _
