/-! the class: the shortages of a day, and the findings -/
theorem x_postOf {d j : Nat} (hd : d < 8) (hj : j < 3) : f_X8_postOf (nI d) (nI j) = some (nI (3 * d + j)) := by
  unfold f_X8_postOf
  simp (disch := omega) only [zI_n, y0, y8, y3, zI_le, zI_lt, zI_mul, zI_add, if_pos, if_neg]
  congr 2
  omega
theorem cntS_le (a : AS) (d j : Nat) : ∀ p, cntS a d j p ≤ p
  | 0 => Nat.le_refl _
  | p + 1 => by
    have := cntS_le a d j p
    unfold cntS
    split <;> omega
theorem x_staffAt {a : AS} {μ : Mem} (r : repX a μ) {d j : Nat} (hd : d < 8) (hj : j < 3) : f_X5_staffAt μ (nI d) (nI j) = some (nI (cntS a d j 4)) := by
  have hc : 3 * d + j < 24 := by omega
  unfold f_X5_staffAt
  rw [x_postOf hd hj, sb]
  rw [if_neg (by rw [y0, zI_n, zI_lt (by omega) (by omega) (by omega) (by omega)]; omega), if_neg (by rw [y24, zI_n, zI_le (by omega) (by omega) (by omega) (by omega)]; omega), if_pos (by rw [zI_n, zI_in (by omega) (by omega)]; exact decide_eq_true (by omega)), nI_clamp (by omega), rx_staff r _ _ hd hj]
theorem x_demandAt {a : AS} {μ : Mem} (r : repX a μ) {d j : Nat} (hd : d < 8) (hj : j < 3) : f_X6_demandAt μ (nI d) (nI j) = some (nI (a 6 (3 * d + j))) := by
  have hc : 3 * d + j < 24 := by omega
  unfold f_X6_demandAt
  rw [x_postOf hd hj, sb]
  rw [if_neg (by rw [y0, zI_n, zI_lt (by omega) (by omega) (by omega) (by omega)]; omega), if_neg (by rw [y24, zI_n, zI_le (by omega) (by omega) (by omega) (by omega)]; omega), if_pos (by rw [zI_n, zI_in (by omega) (by omega)]; exact decide_eq_true (by omega)), nI_clamp (by omega), rx_dem r _ hc]
def shb (a : AS) (d j : Nat) : Bool := decide (j < 3) && sh a d j
theorem x_shortagesOf {a : AS} {μ : Mem} (h : Inv a) (r : repX a μ) {d : Nat} (hd : d < 8) : ∃ x, f_X1_shortagesOf μ (nI d) = some x ∧ B32 x (shb a d) := by
  have key := lp (B_X1_shortagesOf_4 μ (nI d)) (fun _ _ => none) (σ := Nat × Int32) (fun s g => g s.2 (nI s.1)) (fun i s => s.1 = i ∧ B32 s.2 (fun j => decide (j < i) && sh a d j)) (fun x => ∃ y, x = some y ∧ B32 y (shb a d)) 3 ?_ ?_ 300 0 (0, 0) (by omega) (by omega) ⟨rfl, B32_eqv B32_0 (fun j hj => by simp)⟩
  · unfold f_X1_shortagesOf
    rw [rv_seal]
    exact key
  · rintro i ⟨j, x⟩ hi ⟨rfl, hx⟩
    have hi : j < 3 := hi
    have hdm := iv_dem h (3 * d + j) (by omega)
    have hcs := cntS_le a d j 4
    have es : ∀ t, t < 32 → (decide (t < j + 1) && sh a d t) = ((decide (t < j) && sh a d t) || (sh a d j && decide (t = j))) := by
      intro t _
      rcases Nat.lt_trichotomy t j with h1 | h1 | h1
      · simp [h1, show t < j + 1 by omega, show ¬ t = j by omega]
      · subst h1
        simp
      · simp [show ¬ t < j by omega, show ¬ t < j + 1 by omega, show ¬ t = j by omega]
    by_cases hc : sh a d j = true
    · refine .inr ⟨(j + 1, x ||| (1 <<< ((nI j) &&& 31))), ⟨rfl, B32_eqv (B32_or hx (B32_one (show j < 32 by omega))) (fun t ht => ?_)⟩, fun L => ?_⟩
      · rw [es t ht, hc]
        rfl
      · show B_X1_shortagesOf_4 μ (nI d) L x (nI j) = L _ (nI (j + 1))
        unfold B_X1_shortagesOf_4
        rw [if_neg (by rw [y3, zI_n, zI_le (by omega) (by omega) (by omega) (by omega)]; omega), x_staffAt r hd hi, sb, x_demandAt r hd hi, sb, if_neg, nI_1]
        rw [nI_leI (by omega) (by omega)]
        have := of_decide_eq_true hc
        omega
    · refine .inr ⟨(j + 1, x), ⟨rfl, B32_eqv hx (fun t ht => ?_)⟩, fun L => ?_⟩
      · rw [es t ht, show sh a d j = false by simpa using hc]
        simp
      · show B_X1_shortagesOf_4 μ (nI d) L x (nI j) = L _ (nI (j + 1))
        unfold B_X1_shortagesOf_4
        rw [if_neg (by rw [y3, zI_n, zI_le (by omega) (by omega) (by omega) (by omega)]; omega), x_staffAt r hd hi, sb, x_demandAt r hd hi, sb, if_pos, nI_1]
        rw [nI_leI (by omega) (by omega)]
        have : ¬ (cntS a d j 4 < a 6 (3 * d + j)) := fun q => hc (decide_eq_true q)
        omega
  · rintro ⟨j, x⟩ ⟨rfl, hx⟩ L
    exact ⟨x, rfl, hx⟩
/-- the two memories differ at most in the places K -/
def eqo (K : List Nat) (μ μ' : Mem) : Prop := (∀ k, k ∉ K → μ'.1 k = μ.1 k) ∧ (∀ k, k ∉ K → μ'.2 k = μ.2 k)
theorem eqo_refl (K : List Nat) (μ : Mem) : eqo K μ μ := ⟨fun _ _ => rfl, fun _ _ => rfl⟩
theorem eqo_trans {K : List Nat} {μ μ1 μ2 : Mem} (h1 : eqo K μ μ1) (h2 : eqo K μ1 μ2) : eqo K μ μ2 := ⟨fun k hk => (h2.1 k hk).trans (h1.1 k hk), fun k hk => (h2.2 k hk).trans (h1.2 k hk)⟩
theorem eqo_sub {K K' : List Nat} {μ μ1 : Mem} (h1 : eqo K μ μ1) (h : ∀ k, k ∈ K → k ∈ K') : eqo K' μ μ1 := ⟨fun k hk => h1.1 k (fun q => hk (h k q)), fun k hk => h1.2 k (fun q => hk (h k q))⟩
theorem eqo_up {K : List Nat} (μ : Mem) {k j : Nat} (x : Int32) (hk : k ∈ K) : eqo K μ (mu_up μ k j x) := ⟨fun k2 h2 => if_neg (fun (e : k2 = k) => h2 (by rw [e]; exact hk)), fun _ _ => rfl⟩
theorem eqo_uL {K : List Nat} (μ : Mem) {k j : Nat} (x : Int64) (hk : k ∈ K) : eqo K μ (mu_uL μ k j x) := ⟨fun _ _ => rfl, fun k2 h2 => if_neg (fun (e : k2 = k) => h2 (by rw [e]; exact hk))⟩
theorem up_s (μ : Mem) (k j : Nat) (x : Int32) : (mu_up μ k j x).1 k j = x := by unfold mu_up; show (if k = k then upd (μ.1 k) j x else μ.1 k) j = x; rw [if_pos rfl]; exact pk_us
theorem up_n (μ : Mem) {k k2 : Nat} (j : Nat) (x : Int32) (h : k2 ≠ k) : (mu_up μ k j x).1 k2 = μ.1 k2 := if_neg h
theorem up_j (μ : Mem) (k : Nat) {j j2 : Nat} (x : Int32) (h : j2 ≠ j) : (mu_up μ k j x).1 k j2 = μ.1 k j2 := by unfold mu_up; show (if k = k then upd (μ.1 k) j x else μ.1 k) j2 = _; rw [if_pos rfl]; exact pk_un h
theorem up_L (μ : Mem) (k j : Nat) (x : Int32) : (mu_up μ k j x).2 = μ.2 := rfl
theorem uL_s (μ : Mem) (k j : Nat) (x : Int64) : (mu_uL μ k j x).2 k j = x := by unfold mu_uL; show (if k = k then vp_updL (μ.2 k) j x else μ.2 k) j = x; rw [if_pos rfl]; exact pk_uLs
theorem uL_n (μ : Mem) {k k2 : Nat} (j : Nat) (x : Int64) (h : k2 ≠ k) : (mu_uL μ k j x).2 k2 = μ.2 k2 := if_neg h
theorem uL_j (μ : Mem) (k : Nat) {j j2 : Nat} (x : Int64) (h : j2 ≠ j) : (mu_uL μ k j x).2 k j2 = μ.2 k j2 := by unfold mu_uL; show (if k = k then vp_updL (μ.2 k) j x else μ.2 k) j2 = _; rw [if_pos rfl]; exact pk_uLn h
theorem uL_I (μ : Mem) (k j : Nat) (x : Int64) : (mu_uL μ k j x).1 = μ.1 := rfl
/-- what the findings leave alone: the roster's places -/
def rosK : List Nat := [1, 2, 3, 4, 5, 6, 7, 8, 9, 10, 23, 24, 25]
def SB (μ : Mem) : Prop := ∀ q, q = 13 ∨ q = 15 ∨ q = 18 → ∀ i, 24 ≤ i → i < 32 → (μ.1 q 1).toBitVec.getLsbD i = false
theorem rx_fr {a : AS} {μ μ' : Mem} (r : repX a μ) {K : List Nat} (e : eqo K μ μ') (hK : ∀ k, k ∈ rosK → k ∉ K) (hs : SB μ') : repX a μ' := by
  have g : ∀ k, k ∈ rosK → μ'.1 k = μ.1 k := fun k hk => e.1 k (hK k hk)
  unfold repX
  rw [g 6 (by decide), g 1 (by decide), g 4 (by decide), g 2 (by decide), g 3 (by decide), g 7 (by decide), g 8 (by decide), g 9 (by decide), g 5 (by decide), g 10 (by decide), g 23 (by decide), g 24 (by decide), g 25 (by decide)]
  exact ⟨rx_P r, rx_S r, rx_rest r, rx_nights r, rx_run r, rx_span r, rx_lim r, rx_st r, rx_len r, rx_val r, rx_aw r, rx_sk r, rx_dem r, rx_staff r, rx_made r, rx_mc r, rx_mv r, hs⟩
theorem x_putRow {p : Nat} (q : Nat) (μ : Mem) (x : Int64) (hp : p < 4) : f_X2_putRow q μ (nI p) x = some ((), mu_uL μ (q + 1) p x) := by
  unfold f_X2_putRow
  rw [if_neg (by rw [y0, zI_n, zI_lt (by omega) (by omega) (by omega) (by omega)]; omega), if_neg (by rw [y4, zI_n, zI_le (by omega) (by omega) (by omega) (by omega)]; omega), if_pos (by rw [zI_n, zI_in (by omega) (by omega)]; exact decide_eq_true (by omega)), nI_clamp (by omega)]
theorem seven : ∀ d, d < 8 → ∀ i, i < 32 → ((7 : Int32) <<< ((nI (3 * d)) &&& 31)).toBitVec.getLsbD i = decide (3 * d ≤ i ∧ i < 3 * d + 3) := by decide +kernel
theorem shl32 (x : Int32) {s : Nat} (hs : s < 32) {f : Nat → Bool} (hx : B32 x f) : B32 (x <<< ((nI s) &&& 31)) (fun i => decide (s ≤ i) && f (i - s)) := by
  intro i hi
  have e : ∀ s, s < 32 → (((nI s) &&& 31).toBitVec.smod 32).toNat = s := by decide +kernel
  rw [Int32.toBitVec_shiftLeft, BitVec.shiftLeft_eq', e s hs, BitVec.getLsbD_shiftLeft]
  by_cases h : s ≤ i
  · rw [hx (i - s) (by omega)]
    simp [h, hi, show ¬ i < s by omega]
  · simp [show i < s by omega, show ¬ s ≤ i by omega]
theorem x_putShortages (q : Nat) (μ : Mem) (x : Int32) {d : Nat} (hd : d < 8) {f : Nat → Bool} (hx : B32 x f) (hf : ∀ i, 3 ≤ i → f i = false) {g : Nat → Bool} (hg : B32 (μ.1 q 1) g) :
    ∃ y, f_X2_putShortages q μ (nI d) x = some ((), mu_up μ q 1 y) ∧ B32 y (fun i => if 3 * d ≤ i ∧ i < 3 * d + 3 then f (i - 3 * d) else g i) := by
  unfold f_X2_putShortages
  have e : f_X8_postOf (nI d) 0 = some (nI (3 * d)) := x_postOf (j := 0) hd (by omega)
  rw [e, sb, sb]
  refine ⟨_, rfl, B32_eqv (B32_or (B32_and hg (B32_not (f := fun i => decide (3 * d ≤ i ∧ i < 3 * d + 3)) (fun i hi => seven d hd i hi))) (shl32 x (by omega) hx)) ?_⟩
  intro i hi
  by_cases hc : 3 * d ≤ i ∧ i < 3 * d + 3
  · simp [hc]
  · simp only [decide_eq_false hc, if_neg hc]
    by_cases h3 : 3 * d ≤ i
    · rw [hf (i - 3 * d) (by omega)]
      simp
    · simp [h3]
/-- the findings at q hold the breaches of the roster -/
def shB (a : AS) (i : Nat) : Bool := decide (i < 24) && sh a (i / 3) (i % 3)
def FD (q : Nat) (a : AS) (μ : Mem) : Prop := (∀ p, p < 4 → B64 (μ.2 (q + 1) p) (rwb a p)) ∧ B32 (μ.1 q 1) (shB a)
theorem FD_sb {q : Nat} {a : AS} {μ : Mem} (h : FD q a μ) : ∀ i, 24 ≤ i → i < 32 → (μ.1 q 1).toBitVec.getLsbD i = false := by
  intro i h1 h2
  rw [h.2 i h2]
  unfold shB
  rw [decide_eq_false (by omega)]
  rfl
theorem SB_fr {q : Nat} {μ μ' : Mem} (hs : SB μ) (e : ∀ k, k ≠ q → μ'.1 k = μ.1 k) (h : ∀ i, 24 ≤ i → i < 32 → (μ'.1 q 1).toBitVec.getLsbD i = false) : SB μ' := by
  intro k hk i h1 h2
  by_cases hq : k = q
  · subst hq
    exact h i h1 h2
  · rw [e k hq]
    exact hs k hk i h1 h2
theorem rx_SB {a : AS} {μ : Mem} (r : repX a μ) : SB μ := rx_sb r
theorem qK {q : Nat} (hq : q = 13 ∨ q = 15 ∨ q = 18) : ∀ k, k ∈ rosK → k ∉ [q, q + 1] := by rcases hq with rfl | rfl | rfl <;> decide
theorem x_look {a : AS} {μ : Mem} (h : Inv a) (r : repX a μ) {q : Nat} (hq : q = 13 ∨ q = 15 ∨ q = 18) : ∃ μ', f_X1_look q μ = some ((), μ') ∧ repX a μ' ∧ FD q a μ' ∧ eqo [q, q + 1] μ μ' := by
  have key := lp (B_X1_look_2 q) (fun _ _ => none) (σ := Nat × Mem) (fun s g => g s.2 (nI s.1)) (fun i s => s.1 = i ∧ repX a s.2 ∧ eqo [q, q + 1] μ s.2 ∧ ∀ p, p < i → B64 (s.2.2 (q + 1) p) (rwb a p)) (fun x => ∃ μ', x = some ((), μ') ∧ repX a μ' ∧ FD q a μ' ∧ eqo [q, q + 1] μ μ') 4 ?_ ?_ 300 0 (0, μ) (by omega) (by omega) ⟨rfl, r, eqo_refl _ _, fun p hp => by omega⟩
  · unfold f_X1_look
    rw [rv_seal]
    exact key
  · rintro i ⟨j, ν⟩ hi ⟨rfl, hr, he, hb⟩
    have hi : j < 4 := hi
    have hr : repX a ν := hr
    obtain ⟨x, ex, bx⟩ := x_breachesOf h hr hi
    refine .inr ⟨(j + 1, mu_uL ν (q + 1) j x), ⟨rfl, ?_, ?_, ?_⟩, fun L => ?_⟩
    · exact rx_fr hr (eqo_uL (K := [q, q + 1]) ν x (by simp)) (qK hq) (rx_SB hr)
    · exact eqo_trans he (eqo_uL ν x (by simp))
    · intro p hp
      show B64 ((mu_uL ν (q + 1) j x).2 (q + 1) p) _
      by_cases hpj : p = j
      · subst hpj
        rw [uL_s]
        exact bx
      · rw [uL_j _ _ _ hpj]
        exact hb p (by omega)
    · show B_X1_look_2 q L ν (nI j) = L _ (nI (j + 1))
      unfold B_X1_look_2
      rw [if_neg (by rw [y4, zI_n, zI_le (by omega) (by omega) (by omega) (by omega)]; omega), ex, sb, x_putRow q ν x hi, sb, nI_1]
  · rintro ⟨j, ν⟩ ⟨rfl, hr, he, hb⟩ L
    show ∃ μ', B_X1_look_2 q L ν (nI 4) = _ ∧ _
    unfold B_X1_look_2
    rw [if_pos (by decide), rv_seal]
    have key := lp (B_X1_look_25 q) (fun _ _ => none) (σ := Nat × Mem) (fun s g => g s.2 (nI s.1)) (fun i s => s.1 = i ∧ repX a s.2 ∧ eqo [q, q + 1] μ s.2 ∧ (∀ p, p < 4 → B64 (s.2.2 (q + 1) p) (rwb a p)) ∧ B32 (s.2.1 q 1) (fun t => if t < 3 * i then sh a (t / 3) (t % 3) else decide (t < 24) && (s.2.1 q 1).toBitVec.getLsbD t)) (fun x => ∃ μ', x = some ((), μ') ∧ repX a μ' ∧ FD q a μ' ∧ eqo [q, q + 1] μ μ') 8 ?_ ?_ 300 0 (0, ν) (by omega) (by omega) ⟨rfl, hr, he, hb, ?_⟩
    · exact key
    · rintro i ⟨j, ν⟩ hi ⟨rfl, hr, he, hb, hs⟩
      have hi : j < 8 := hi
      have hr : repX a ν := hr
      obtain ⟨x, ex, bx⟩ := x_shortagesOf h hr hi
      obtain ⟨y, ey, by'⟩ := x_putShortages q ν x hi bx (fun i hi => by unfold shb; rw [decide_eq_false (by omega)]; rfl) hs
      have hy : B32 y (fun t => if t < 3 * (j + 1) then sh a (t / 3) (t % 3) else decide (t < 24) && y.toBitVec.getLsbD t) := by
        intro t ht
        show _ = if _ then _ else _
        by_cases h1 : t < 3 * (j + 1)
        · rw [if_pos h1, by' t ht]
          show (if _ then _ else if _ then _ else _) = _
          by_cases h2 : 3 * j ≤ t ∧ t < 3 * j + 3
          · rw [if_pos h2]
            unfold shb
            rw [decide_eq_true (by omega), show t / 3 = j by omega, show t % 3 = t - 3 * j by omega]
            rfl
          · rw [if_neg h2, if_pos (show t < 3 * j by omega)]
        · rw [if_neg h1]
          by_cases h2 : t < 24
          · simp [h2]
          · rw [by' t ht]
            have h3 : ¬ (3 * j ≤ t ∧ t < 3 * j + 3) := by omega
            have h4 : ¬ t < 3 * j := by omega
            simp [h2, h3, h4]
      have hsb : ∀ i, 24 ≤ i → i < 32 → ((mu_up ν q 1 y).1 q 1).toBitVec.getLsbD i = false := by
        intro t h1 h2
        rw [up_s, hy t h2]
        simp [show ¬ t < 3 * (j + 1) by omega, show ¬ t < 24 by omega]
      refine .inr ⟨(j + 1, mu_up ν q 1 y), ⟨rfl, ?_, ?_, ?_, ?_⟩, fun L => ?_⟩
      · exact rx_fr hr (eqo_up (K := [q, q + 1]) ν y (by simp)) (qK hq) (SB_fr (rx_SB hr) (fun k hk => up_n ν 1 y hk) hsb)
      · exact eqo_trans he (eqo_up ν y (by simp))
      · exact hb
      · show B32 ((mu_up ν q 1 y).1 q 1) (fun t => if t < 3 * (j + 1) then _ else decide (t < 24) && ((mu_up ν q 1 y).1 q 1).toBitVec.getLsbD t)
        rw [up_s]
        exact hy
      · show B_X1_look_25 q L ν (nI j) = L _ (nI (j + 1))
        unfold B_X1_look_25
        rw [if_neg (by rw [y8, zI_n, zI_le (by omega) (by omega) (by omega) (by omega)]; omega), ex, sb, ey, sb, nI_1]
    · rintro ⟨j, ν⟩ ⟨rfl, hr, he, hb, hs⟩ L
      refine ⟨ν, rfl, hr, ⟨hb, B32_eqv hs ?_⟩, he⟩
      intro t ht
      unfold shB
      by_cases h1 : t < 24
      · simp [h1]
      · simp [h1]
    · intro t ht
      have := rx_SB hr q hq t
      by_cases h1 : t < 24
      · simp [h1]
      · simp [h1]
        exact this (by omega) ht
