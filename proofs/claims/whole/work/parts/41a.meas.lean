/-! what is counted and summed over a person's days -/
theorem x_minutesAt {a : AS} {μ : Mem} (h : Inv a) (r : repX a μ) {p d : Nat} (hp : p < 4) (hd : d < 8) : f_X3_minutesAt μ (nI p) (nI d) = some (nI (ln a p d)) := by
  unfold f_X3_minutesAt
  rw [x_shiftAt h r hp hd, sb, x_len h r (vl_le h hp hd), sb]
  rfl
theorem x_isNightAt {a : AS} {μ : Mem} (h : Inv a) (r : repX a μ) {p d : Nat} (hp : p < 4) (hd : d < 8) : f_X3_isNightAt μ (nI p) (nI d) = some (bI (ng a p d)) := by
  unfold f_X3_isNightAt
  rw [x_shiftAt h r hp hd, sb, x_night h r (vl_le h hp hd), sb, if_pos (rv_bzI _)]
  rfl
/-- the day has a shift, and an earlier one has -/
def hasR (a : AS) (p d : Nat) : Bool := decide (vl a p d ≠ 0 ∧ lw (wd a p) d ≠ 0)
theorem rsI_b {a : AS} (h : Inv a) {p d : Nat} (hp : p < 4) (hd : d < 8) (hr : hasR a p d = true) : -719 ≤ rsI a p d ∧ rsI a p d ≤ 11519 := by
  have hr : vl a p d ≠ 0 ∧ lw (wd a p) d ≠ 0 := of_decide_eq_true hr
  have hl := lw_le (wd a p) d
  have b1 := stV_lt h (vl_le h hp hd)
  have b2 := enI_b h hp (show lw (wd a p) d - 1 < 8 by omega)
  have b4 := ln_le h hp (show lw (wd a p) d - 1 < 8 by omega)
  have b5 := stV_lt h (vl_le h hp (show lw (wd a p) d - 1 < 8 by omega))
  unfold rsI enI
  omega
theorem x_restAt {a : AS} {μ : Mem} (h : Inv a) (r : repX a μ) {p d : Nat} (hp : p < 4) (hd : d < 8) : f_X3_restAt μ (nI p) (nI d) = some (if hasR a p d = true then zI (rsI a p d) else -1440) := by
  have hv := vl_le h hp hd
  have hl := lw_le (wd a p) d
  unfold f_X3_restAt
  rw [x_shiftAt h r hp hd, sb, x_dwb h r hp hd, sb]
  by_cases hw : vl a p d = 0
  · rw [if_pos (by rw [hw]; rfl), if_neg (by unfold hasR; simp [hw])]
  · rw [if_neg (by rw [x_v3 hv hw, q_m1 (by omega)]; exact id)]
    by_cases h0 : lw (wd a p) d = 0
    · rw [if_pos (by rw [h0]; rfl), if_neg (by unfold hasR; simp [h0])]
    · have ez : zI ((lw (wd a p) d : Int) - 1) = nI (lw (wd a p) d - 1) := by
        rw [zI_n]
        congr 1
        omega
      have hv2 := vl_le h hp (show lw (wd a p) d - 1 < 8 by omega)
      rw [if_neg (by rw [zm1, zI_eq (by omega) (by omega) (by omega) (by omega)]; omega), ez, x_shiftAt h r hp (by omega), sb, x_start h r hv2, sb, x_len h r hv2, sb, x_start h r hv, sb, if_pos (by unfold hasR; exact decide_eq_true ⟨hw, h0⟩)]
      unfold rsI enI ln
      simp only [zI_n, y1440, zI_sub, zI_mul, zI_add]
      congr 2
      omega
/-- the longest row -/
def mxr (f : Nat → Bool) : Nat → Nat
  | 0 => 0
  | n + 1 => max (mxr f n) (rl f (n + 1))
theorem mxr_le (f : Nat → Bool) : ∀ n, mxr f n ≤ n
  | 0 => Nat.le_refl _
  | n + 1 => by
    have h1 := mxr_le f n
    have h2 := rl_le f (n + 1)
    show max (mxr f n) (rl f (n + 1)) ≤ n + 1
    omega
theorem if_max {a b : Nat} (ha : a < 2147483648) (hb : b < 2147483648) : (if nI a < nI b then nI b else nI a) = nI (max a b) := by
  by_cases h : a < b
  · rw [if_pos (nI_lt h hb), Nat.max_eq_right (by omega)]
  · rw [if_neg (nI_nlt (by omega) ha), Nat.max_eq_left (by omega)]
theorem x_nightsC {a : AS} {μ : Mem} (h : Inv a) (r : repX a μ) {p : Nat} (hp : p < 4) : f_X3_nightsByCounting μ (nI p) = some (nI (mxr (ng a p) 8)) := by
  unfold f_X3_nightsByCounting
  rw [rv_seal]
  have key := lq (B_X3_nightsByCounting_7 μ (nI p)) (fun _ _ _ => none) (fun i g => g (nI (mxr (ng a p) i)) (nI (rl (ng a p) i)) (nI i)) (some (nI (mxr (ng a p) 8))) 8 ?_ ?_ 300 0 (by omega) (by omega)
  · exact key
  · intro i L hi
    have h1 := mxr_le (ng a p) i
    have h2 := rl_le (ng a p) i
    have h3 := rl_le (ng a p) (i + 1)
    show B_X3_nightsByCounting_7 μ (nI p) L _ _ (nI i) = _
    unfold B_X3_nightsByCounting_7
    rw [if_neg (g8 hi), x_isNightAt h r hp hi, sb]
    unfold b_X3_nightsByCounting_31
    have e1 : mxr (ng a p) (i + 1) = max (mxr (ng a p) i) (rl (ng a p) (i + 1)) := rfl
    cases hb : ng a p i
    · have e2 : rl (ng a p) (i + 1) = 0 := if_neg (by rw [hb]; decide)
      rw [if_pos (by decide), e1, e2, show (0 : Int32) = nI 0 from rfl, if_max (by omega) (by omega), nI_1]
    · have e2 : rl (ng a p) (i + 1) = rl (ng a p) i + 1 := if_pos hb
      rw [if_neg (by decide), e1, e2, nI_1, nI_1, if_max (by omega) (by omega)]
  · intro L
    show B_X3_nightsByCounting_7 μ (nI p) L _ _ (nI 8) = _
    unfold B_X3_nightsByCounting_7
    rw [if_pos (by decide)]
/-- all days from i to j -/
def rowb (f : Nat → Bool) (i j : Nat) : Prop := ∀ x, i ≤ x → x ≤ j → f x = true
theorem x_isRowN {a : AS} {μ : Mem} (h : Inv a) (r : repX a μ) {p i j : Nat} (hp : p < 4) (hij : i ≤ j) (hj : j < 8) : ∃ b, f_X3_isRowOfNights μ (nI p) (nI i) (nI j) = some (bI b) ∧ (b = true ↔ rowb (ng a p) i j) := by
  unfold f_X3_isRowOfNights
  rw [rv_seal]
  have key := lp (B_X3_isRowOfNights_3 μ (nI p) (nI j)) (fun _ => none) (σ := Nat) (fun s g => g (nI s)) (fun n s => s = n ∧ i ≤ n ∧ ∀ x, i ≤ x → x < n → ng a p x = true) (fun x => ∃ b, x = some (bI b) ∧ (b = true ↔ rowb (ng a p) i j)) (j + 1) ?_ ?_ 300 i i (by omega) (by omega) ⟨rfl, Nat.le_refl _, fun x h1 h2 => by omega⟩
  · exact key
  · rintro n s hs ⟨rfl, h1, h2⟩
    have e0 : ∀ L, B_X3_isRowOfNights_3 μ (nI p) (nI j) L (nI s) = if bI (ng a p s) = 0 then some 0 else L (nI (s + 1)) := by
      intro L
      unfold B_X3_isRowOfNights_3
      rw [if_neg (nI_nlt (by omega) (by omega)), x_isNightAt h r hp (by omega), sb, nI_1]
    cases hb : ng a p s
    · refine .inl fun L => ⟨false, ?_, ⟨fun e => (by cases e), fun hq => ?_⟩⟩
      · show B_X3_isRowOfNights_3 μ (nI p) (nI j) L (nI s) = _
        rw [e0, hb, if_pos (by decide)]
        rfl
      · rw [hq s h1 (by omega)] at hb
        cases hb
    · refine .inr ⟨s + 1, ⟨rfl, by omega, fun x h3 h4 => ?_⟩, fun L => ?_⟩
      · by_cases h5 : x = s
        · rw [h5]
          exact hb
        · exact h2 x h3 (by omega)
      · show B_X3_isRowOfNights_3 μ (nI p) (nI j) L (nI s) = _
        rw [e0, hb, if_neg (by decide)]
  · rintro s ⟨rfl, h1, h2⟩ L
    refine ⟨true, ?_, ⟨fun _ x h3 h4 => h2 x h3 (by omega), fun _ => rfl⟩⟩
    show B_X3_isRowOfNights_3 μ (nI p) (nI j) L (nI (j + 1)) = _
    unfold B_X3_isRowOfNights_3
    rw [if_pos (nI_lt (by omega) (by omega))]
    rfl
/-- m is the greatest length of the rows (i', j') that P names -/
def ismx (f : Nat → Bool) (P : Nat → Nat → Prop) (m : Nat) : Prop := (∀ i j, P i j → rowb f i j → j - i + 1 ≤ m) ∧ (m = 0 ∨ ∃ i j, P i j ∧ rowb f i j ∧ m = j - i + 1)
theorem ismx_u {f : Nat → Bool} {P : Nat → Nat → Prop} {m m' : Nat} (h : ismx f P m) (h' : ismx f P m') : m = m' := by
  have g : ∀ {m m'}, ismx f P m → ismx f P m' → m ≤ m' := by
    rintro m m' ⟨_, h2⟩ ⟨h3, _⟩
    rcases h2 with h2 | ⟨i, j, h4, h5, h6⟩
    · omega
    · rw [h6]
      exact h3 i j h4 h5
  exact Nat.le_antisymm (g h h') (g h' h)
theorem ismx_c {f : Nat → Bool} {P Q : Nat → Nat → Prop} {m : Nat} (h : ismx f P m) (e : ∀ i j, P i j ↔ Q i j) : ismx f Q m := ⟨fun i j q => h.1 i j ((e i j).mpr q), h.2.elim .inl (fun ⟨i, j, q1, q2⟩ => .inr ⟨i, j, (e i j).mp q1, q2⟩)⟩
theorem mxr_mx (f : Nat → Bool) : ∀ n, ismx f (fun i j => i ≤ j ∧ j < n) (mxr f n)
  | 0 => ⟨fun i j h _ => by have := h.2; omega, .inl rfl⟩
  | n + 1 => by
    have ih := mxr_mx f n
    have e : mxr f (n + 1) = max (mxr f n) (rl f (n + 1)) := rfl
    have hr : ∀ m, m ≤ rl f (n + 1) ↔ m ≤ n + 1 ∧ ∀ x, n + 1 - m ≤ x → x < n + 1 → f x = true := rl_iff f (n + 1)
    refine ⟨fun i j h1 h2 => ?_, ?_⟩
    · rw [e]
      by_cases h3 : j < n
      · have := ih.1 i j ⟨h1.1, h3⟩ h2
        omega
      · have hj : j = n := by have := h1.2; omega
        have h4 := h1.1
        have := (hr (j - i + 1)).mpr ⟨by omega, fun x h5 h6 => h2 x (by omega) (by omega)⟩
        omega
    · rw [e]
      by_cases h3 : rl f (n + 1) ≤ mxr f n
      · rw [Nat.max_eq_left h3]
        rcases ih.2 with h4 | ⟨i, j, h4, h5, h6⟩
        · exact .inl h4
        · exact .inr ⟨i, j, ⟨h4.1, by have := h4.2; omega⟩, h5, h6⟩
      · rw [Nat.max_eq_right (by omega)]
        have h5 := (hr (rl f (n + 1))).mp (Nat.le_refl _)
        refine .inr ⟨n + 1 - rl f (n + 1), n, ⟨by omega, by omega⟩, fun x h6 h7 => h5.2 x h6 (by omega), by omega⟩
theorem ismx_le {f : Nat → Bool} {P : Nat → Nat → Prop} {m : Nat} (h : ismx f P m) (hP : ∀ i j, P i j → j < 8) : m ≤ 8 := by
  rcases h.2 with h | ⟨i, j, h1, _, h2⟩
  · omega
  · have := hP i j h1
    omega
/-- one more pair is looked at -/
theorem ismx_s {f : Nat → Bool} {P : Nat → Nat → Prop} {m : Nat} (h : ismx f P m) {i0 j0 : Nat} {b : Bool} (hb : b = true ↔ rowb f i0 j0) : ismx f (fun i j => P i j ∨ (i = i0 ∧ j = j0)) (if b = true then max m (j0 - i0 + 1) else m) := by
  by_cases hbt : b = true
  · rw [if_pos hbt]
    refine ⟨fun i j h1 h2 => ?_, ?_⟩
    · rcases h1 with h1 | ⟨rfl, rfl⟩
      · have := h.1 i j h1 h2
        omega
      · omega
    · by_cases h3 : j0 - i0 + 1 ≤ m
      · rw [Nat.max_eq_left h3]
        rcases h.2 with h4 | ⟨i, j, h4, h5⟩
        · exact .inl h4
        · exact .inr ⟨i, j, .inl h4, h5⟩
      · rw [Nat.max_eq_right (by omega)]
        exact .inr ⟨i0, j0, .inr ⟨rfl, rfl⟩, hb.mp hbt, rfl⟩
  · rw [if_neg hbt]
    refine ⟨fun i j h1 h2 => ?_, ?_⟩
    · rcases h1 with h1 | ⟨rfl, rfl⟩
      · exact h.1 i j h1 h2
      · exact absurd (hb.mpr h2) hbt
    · rcases h.2 with h4 | ⟨i, j, h4, h5⟩
      · exact .inl h4
      · exact .inr ⟨i, j, .inl h4, h5⟩
theorem x_ntr13 {a : AS} {μ : Mem} (h : Inv a) (r : repX a μ) {p i m : Nat} (hp : p < 4) (hi : i < 8) (hm : ismx (ng a p) (fun i' j => i' ≤ j ∧ j < 8 ∧ i' < i) m) : ∃ m', ismx (ng a p) (fun i' j => i' ≤ j ∧ j < 8 ∧ i' < i + 1) m' ∧ ∀ b, rv_ls (B_X3_nightsByTryingRows_13 μ (nI p) (nI i) b) (fun _ _ => none) 300 (nI m) (nI i) = b (nI m') (nI (i + 1)) := by
  have key := lu (fun b => B_X3_nightsByTryingRows_13 μ (nI p) (nI i) b) (fun _ _ => none) (σ := Nat × Nat) (fun s g => g (nI s.2) (nI s.1)) (fun n s => s.1 = n ∧ i ≤ n ∧ ismx (ng a p) (fun i' j => (i' ≤ j ∧ j < 8 ∧ i' < i) ∨ (i' = i ∧ i ≤ j ∧ j < n)) s.2) (fun q => ∃ m', ismx (ng a p) (fun i' j => i' ≤ j ∧ j < 8 ∧ i' < i + 1) m' ∧ ∀ b, q b = b (nI m') (nI (i + 1))) 8 ?_ ?_ 300 i (i, m) (by omega) (by omega) ⟨rfl, Nat.le_refl _, ismx_c hm (fun i' j => ⟨.inl, fun q => q.elim id (fun q => by omega)⟩)⟩
  · obtain ⟨q, ⟨m', h1, h2⟩, h3⟩ := key
    exact ⟨m', h1, fun b => (h3 b).trans (h2 b)⟩
  · rintro n ⟨j, m⟩ hj ⟨rfl, h1, h2⟩
    have hj : j < 8 := hj
    have h1 : i ≤ j := h1
    have hle : m ≤ 8 := ismx_le h2 (fun i' j' q => q.elim (fun q => q.2.1) (fun q => by have : j' < j := q.2.2; omega))
    obtain ⟨b1, e1, hb1⟩ := x_isRowN h r hp h1 hj
    refine .inr ⟨(j + 1, if b1 = true then max m (j - i + 1) else m), ⟨rfl, by show i ≤ j + 1; omega, ismx_c (ismx_s h2 hb1) (fun i' j' => ?_)⟩, fun b X => ?_⟩
    · show ((i' ≤ j' ∧ j' < 8 ∧ i' < i) ∨ (i' = i ∧ i ≤ j' ∧ j' < j)) ∨ (i' = i ∧ j' = j) ↔ (i' ≤ j' ∧ j' < 8 ∧ i' < i) ∨ (i' = i ∧ i ≤ j' ∧ j' < j + 1)
      omega
    · show B_X3_nightsByTryingRows_13 μ (nI p) (nI i) b X (nI m) (nI j) = X (nI (if b1 = true then max m (j - i + 1) else m)) (nI (j + 1))
      unfold B_X3_nightsByTryingRows_13
      rw [if_neg (g8 hj), e1, sb, q_sub h1, nI_1, nI_1]
      cases b1
      · rw [if_pos (by decide), if_neg (by decide)]
      · rw [if_neg (by decide), if_pos rfl, if_max (by omega) (by omega)]
  · rintro ⟨j, m⟩ ⟨e, h1, h2⟩
    have e : j = 8 := e
    subst e
    refine ⟨fun b => b (nI m) (nI (i + 1)), ⟨m, ismx_c h2 (fun i' j' => ?_), fun _ => rfl⟩, fun b X => ?_⟩
    · show ((i' ≤ j' ∧ j' < 8 ∧ i' < i) ∨ (i' = i ∧ i ≤ j' ∧ j' < 8)) ↔ (i' ≤ j' ∧ j' < 8 ∧ i' < i + 1)
      omega
    · show B_X3_nightsByTryingRows_13 μ (nI p) (nI i) b X (nI m) (nI 8) = _
      unfold B_X3_nightsByTryingRows_13
      rw [if_pos (by decide), nI_1]
theorem x_nightsT {a : AS} {μ : Mem} (h : Inv a) (r : repX a μ) {p : Nat} (hp : p < 4) : f_X3_nightsByTryingRows μ (nI p) = some (nI (mxr (ng a p) 8)) := by
  unfold f_X3_nightsByTryingRows
  rw [rv_seal]
  have key := lp (B_X3_nightsByTryingRows_4 μ (nI p)) (fun _ _ => none) (σ := Nat × Nat) (fun s g => g (nI s.2) (nI s.1)) (fun n s => s.1 = n ∧ ismx (ng a p) (fun i' j => i' ≤ j ∧ j < 8 ∧ i' < n) s.2) (fun x => x = some (nI (mxr (ng a p) 8))) 8 ?_ ?_ 300 0 (0, 0) (by omega) (by omega) ⟨rfl, ⟨fun i j q => by omega, .inl rfl⟩⟩
  · exact key
  · rintro n ⟨i, m⟩ hi ⟨rfl, hm⟩
    have hi : i < 8 := hi
    obtain ⟨m', h1, h2⟩ := x_ntr13 h r hp hi hm
    refine .inr ⟨(i + 1, m'), ⟨rfl, h1⟩, fun L => ?_⟩
    show B_X3_nightsByTryingRows_4 μ (nI p) L (nI m) (nI i) = _
    unfold B_X3_nightsByTryingRows_4
    rw [if_neg (g8 hi), rv_seal]
    exact h2 L
  · rintro ⟨i, m⟩ ⟨e, hm⟩ L
    have e : i = 8 := e
    subst e
    show B_X3_nightsByTryingRows_4 μ (nI p) L (nI m) (nI 8) = _
    unfold B_X3_nightsByTryingRows_4
    have hm : ismx (ng a p) (fun i' j => i' ≤ j ∧ j < 8 ∧ i' < 8) m := hm
    rw [if_pos (by decide), ismx_u (ismx_c hm (fun i' j => ⟨fun q => ⟨q.1, q.2.1⟩, fun q => ⟨q.1, q.2, Nat.lt_of_le_of_lt q.1 q.2⟩⟩)) (mxr_mx (ng a p) 8)]
/-- the greatest sum of a span among those that end before day i -/
def mxs (a : AS) (p : Nat) : Nat → Nat
  | 0 => 0
  | i + 1 => if a 0 5 ≤ i + 1 then max (mxs a p i) (ps (ln a p) (i + 1) - ps (ln a p) (i + 1 - a 0 5)) else mxs a p i
theorem mxs_le {a : AS} (h : Inv a) {p : Nat} (hp : p < 4) : ∀ i, i ≤ 8 → mxs a p i ≤ 5760
  | 0, _ => Nat.zero_le _
  | i + 1, hi => by
    have h1 := mxs_le h hp i (by omega)
    have h2 := ps_bd h hp hi
    show (if a 0 5 ≤ i + 1 then max (mxs a p i) (ps (ln a p) (i + 1) - ps (ln a p) (i + 1 - a 0 5)) else mxs a p i) ≤ 5760
    split <;> omega
theorem smI_ps {a : AS} {p i : Nat} (hi : a 0 5 ≤ i) : smI a p i = ((ps (ln a p) i - ps (ln a p) (i - a 0 5) : Nat) : Int) := by
  have := ps_mono (ln a p) (show i - a 0 5 ≤ i by omega)
  unfold smI
  omega
theorem x_sumM {a : AS} {μ : Mem} (h : Inv a) (r : repX a μ) {p : Nat} (hp : p < 4) : f_X3_sumByMoving μ (nI p) = some (nI (mxs a p 8)) := by
  have h5 := iv_span h
  unfold f_X3_sumByMoving
  rw [rv_seal]
  have key := lq (B_X3_sumByMoving_7 μ (nI p)) (fun _ _ _ => none) (fun i g => g (nI (mxs a p i)) (zI (smI a p i)) (nI i)) (some (nI (mxs a p 8))) 8 ?_ ?_ 300 0 (by omega) (by omega)
  · have e0 : smI a p 0 = 0 := by unfold smI; rw [Nat.zero_sub]; omega
    rw [e0] at key
    exact key
  · intro i L hi
    have h1 := mxs_le h hp i (by omega)
    have h2 := ps_bd h hp (show i + 1 ≤ 8 by omega)
    obtain ⟨q, eq1, eq2⟩ := x_prev h r hp hi
    have em : f_X3_minutesAt μ (nI p) (zI ((i : Int) - a 0 5)) = some (nI (if a 0 5 ≤ i then ln a p (i - a 0 5) else 0)) := by
      unfold f_X3_minutesAt
      rw [eq1, sb, eq2, sb]
    show B_X3_sumByMoving_7 μ (nI p) L _ _ (nI i) = _
    unfold B_X3_sumByMoving_7
    have e1 : nI i - μ.1 4 4 = zI ((i : Int) - a 0 5) := by rw [rx_span r, zI_n, zI_n, zI_sub]
    rw [if_neg (g8 hi), x_minutesAt h r hp hi, sb, e1, em, sb]
    have e12 : zI (smI a p i) + (nI (ln a p i) - nI (if a 0 5 ≤ i then ln a p (i - a 0 5) else 0)) = zI (smI a p (i + 1)) := by
      rw [zI_n, zI_n, zI_sub, zI_add, smI_step a p i h5.1]
    rw [e12, rx_span r, show nI (a 0 5) - 1 = nI (a 0 5 - 1) from pk_sub (a := a 0 5) (b := 1) (by omega), nI_1]
    have e3 : mxs a p (i + 1) = if a 0 5 ≤ i + 1 then max (mxs a p i) (ps (ln a p) (i + 1) - ps (ln a p) (i + 1 - a 0 5)) else mxs a p i := rfl
    by_cases hc : a 0 5 ≤ i + 1
    · rw [if_neg (nI_nlt (by omega) (by omega)), e3, if_pos hc, smI_ps hc, ← zI_n, if_max (by omega) (by omega)]
    · rw [if_pos (nI_lt (by omega) (by omega)), e3, if_neg hc]
  · intro L
    show B_X3_sumByMoving_7 μ (nI p) L _ _ (nI 8) = _
    unfold B_X3_sumByMoving_7
    rw [if_pos (by decide)]
theorem mxs_lo {a : AS} {p : Nat} : ∀ i, i < a 0 5 → mxs a p i = 0
  | 0, _ => rfl
  | i + 1, hi => by
    show (if a 0 5 ≤ i + 1 then _ else mxs a p i) = 0
    rw [if_neg (by omega)]
    exact mxs_lo i (by omega)
theorem x_sba24 {a : AS} {μ : Mem} (h : Inv a) (r : repX a μ) {p f m : Nat} (hp : p < 4) (hf : f + a 0 5 ≤ 8) (hm : m ≤ 5760) (L : Int32 → Int32 → Option Int32) : rv_ls (B_X3_sumByAddingAnew_24 μ (nI p) (nI m) (nI f) L) (fun _ _ => none) 300 (nI 0) (nI f) = L (nI (max m (ps (ln a p) (f + a 0 5) - ps (ln a p) f))) (nI (f + 1)) := by
  have key := lp (B_X3_sumByAddingAnew_24 μ (nI p) (nI m) (nI f) L) (fun _ _ => none) (σ := Nat) (fun i g => g (nI (ps (ln a p) i - ps (ln a p) f)) (nI i)) (fun i t => t = i ∧ f ≤ i) (fun x => x = L (nI (max m (ps (ln a p) (f + a 0 5) - ps (ln a p) f))) (nI (f + 1))) (f + a 0 5) ?_ ?_ 300 f f (by omega) (by omega) ⟨rfl, Nat.le_refl _⟩
  · rw [Nat.sub_self] at key
    exact key
  · rintro i t hi ⟨rfl, h1⟩
    have hm := ps_mono (ln a p) h1
    have es : ps (ln a p) (t + 1) = ps (ln a p) t + ln a p t := rfl
    refine .inr ⟨t + 1, ⟨rfl, by omega⟩, fun X => ?_⟩
    show B_X3_sumByAddingAnew_24 μ (nI p) (nI m) (nI f) L X _ (nI t) = X (nI (ps (ln a p) (t + 1) - ps (ln a p) f)) (nI (t + 1))
    unfold B_X3_sumByAddingAnew_24
    rw [rx_span r, nI_add, if_neg (nI_ge hi (by omega)), x_minutesAt h r hp (by omega), sb, nI_add, nI_1, es]
    congr 2
    omega
  · rintro t ⟨rfl, h1⟩ X
    have hb := ps_bd h hp hf
    show B_X3_sumByAddingAnew_24 μ (nI p) (nI m) (nI f) L X _ (nI (f + a 0 5)) = _
    unfold B_X3_sumByAddingAnew_24
    rw [rx_span r, nI_add, if_pos (nI_le (Nat.le_refl _) (by omega)), if_max (by omega) (by omega), nI_1]
theorem mxs_at {a : AS} {p f : Nat} (h1 : 1 ≤ a 0 5) : mxs a p (f + 1 + a 0 5 - 1) = max (mxs a p (f + a 0 5 - 1)) (ps (ln a p) (f + a 0 5) - ps (ln a p) f) := by
  have e : f + 1 + a 0 5 - 1 = (f + a 0 5 - 1) + 1 := by omega
  rw [e]
  show (if a 0 5 ≤ f + a 0 5 - 1 + 1 then max (mxs a p (f + a 0 5 - 1)) (ps (ln a p) (f + a 0 5 - 1 + 1) - ps (ln a p) (f + a 0 5 - 1 + 1 - a 0 5)) else mxs a p (f + a 0 5 - 1)) = _
  rw [if_pos (by omega), show f + a 0 5 - 1 + 1 = f + a 0 5 by omega, show f + a 0 5 - a 0 5 = f by omega]
theorem x_sumA {a : AS} {μ : Mem} (h : Inv a) (r : repX a μ) {p : Nat} (hp : p < 4) : f_X3_sumByAddingAnew μ (nI p) = some (nI (mxs a p 8)) := by
  have h5 := iv_span h
  unfold f_X3_sumByAddingAnew
  rw [rv_seal]
  have key := lq (B_X3_sumByAddingAnew_4 μ (nI p)) (fun _ _ => none) (fun f g => g (nI (mxs a p (f + a 0 5 - 1))) (nI f)) (some (nI (mxs a p 8))) (9 - a 0 5) ?_ ?_ 300 0 (by omega) (by omega)
  · rw [mxs_lo (0 + a 0 5 - 1) (by omega)] at key
    exact key
  · intro f L hf
    have h1 := mxs_le h hp (f + a 0 5 - 1) (by omega)
    show B_X3_sumByAddingAnew_4 μ (nI p) L _ (nI f) = L (nI (mxs a p (f + 1 + a 0 5 - 1))) (nI (f + 1))
    unfold B_X3_sumByAddingAnew_4
    rw [rx_span r, nI_add, if_neg (show ¬ (8 : Int32) < nI (f + a 0 5) from nI_nlt (a := 8) (b := f + a 0 5) (by omega) (by decide)), rv_seal, mxs_at h5.1]
    exact x_sba24 h r hp (by omega) h1 L
  · intro L
    show B_X3_sumByAddingAnew_4 μ (nI p) L _ (nI (9 - a 0 5)) = _
    unfold B_X3_sumByAddingAnew_4
    rw [rx_span r, nI_add, if_pos (show (8 : Int32) < nI (9 - a 0 5 + a 0 5) by rw [show 9 - a 0 5 + a 0 5 = 9 by omega]; decide), show 9 - a 0 5 + a 0 5 - 1 = 8 by omega]
theorem m_rowOf {a : AS} {ν : Mem} (h : Inv a) (r : repM a ν) {p : Nat} (hp : p < 4) : f_X9_rowOf ν (nI p) = some (nI (mxr (ng a p) 8)) := by
  unfold f_X9_rowOf
  rw [rv_seal]
  have key := lq (B_X9_rowOf_7 ν (nI p)) (fun _ _ _ => none) (fun i g => g (nI (mxr (ng a p) i)) (nI (rl (ng a p) i)) (nI i)) (some (nI (mxr (ng a p) 8))) 8 ?_ ?_ 300 0 (by omega) (by omega)
  · exact key
  · intro i L hi
    have hv := vl_le h hp hi
    have h1 := mxr_le (ng a p) i
    have h2 := rl_le (ng a p) i
    have h3 := rl_le (ng a p) (i + 1)
    have e1 : mxr (ng a p) (i + 1) = max (mxr (ng a p) i) (rl (ng a p) (i + 1)) := rfl
    have e46 : ∀ n, n ≤ 8 → b_X9_rowOf_46 ν L (nI p) (nI (mxr (ng a p) i)) (nI i) (nI n) = L (nI (max (mxr (ng a p) i) n)) (nI n) (nI (i + 1)) := by
      intro n hn
      unfold b_X9_rowOf_46 b_X9_rowOf_57
      rw [nI_1]
      by_cases hc : n ≤ mxr (ng a p) i
      · rw [if_pos (nI_le hc (by omega)), Nat.max_eq_left hc]
      · rw [if_neg (nI_ge (by omega) (by omega)), Nat.max_eq_right (by omega)]
    show B_X9_rowOf_7 ν (nI p) L _ _ (nI i) = _
    unfold B_X9_rowOf_7
    rw [if_neg (g8 hi), m_at r hp hi, sb]
    unfold b_X9_rowOf_45
    have hz : ng a p i = false → b_X9_rowOf_46 ν L (nI p) (nI (mxr (ng a p) i)) (nI i) 0 = L (nI (mxr (ng a p) (i + 1))) (nI (rl (ng a p) (i + 1))) (nI (i + 1)) := by
      intro hb
      have e2 : rl (ng a p) (i + 1) = 0 := if_neg (by rw [hb]; decide)
      rw [e1, e2]
      exact e46 0 (by omega)
    by_cases hw : vl a p i = 0
    · rw [if_pos (by rw [hw]; rfl)]
      exact hz (by unfold ng isN; rw [hw]; simp)
    · rw [if_neg (by rw [x_v3 hv hw, q_m1 (by omega)]; exact id), sb, m_nightS h r hv hw, sb, nI_1]
      cases hb : ng a p i
      · have hb2 : isN a (vl a p i) = false := hb
        rw [hb2, if_pos (by decide)]
        exact hz hb
      · have hb2 : isN a (vl a p i) = true := hb
        have e2 : rl (ng a p) (i + 1) = rl (ng a p) i + 1 := if_pos hb
        rw [hb2, if_neg (by decide), e1, e2]
        exact e46 _ (by omega)
  · intro L
    show B_X9_rowOf_7 ν (nI p) L _ _ (nI 8) = _
    unfold B_X9_rowOf_7
    rw [if_pos (by decide)]
theorem m_peak {a : AS} {ν : Mem} (h : Inv a) (r : repM a ν) {p : Nat} (hp : p < 4) : rv_ls (B_X9_peak_26 ν (nI p)) (fun _ _ => none) 300 (nI 0) (nI 0) = some (nI (mxs a p 8), ν) := by
  have h5 := iv_span h
  have key := lq (B_X9_peak_26 ν (nI p)) (fun _ _ => none) (fun f g => g (nI (mxs a p (f + a 0 5 - 1))) (nI f)) (some (nI (mxs a p 8), ν)) (9 - a 0 5) ?_ ?_ 300 0 (by omega) (by omega)
  · rw [mxs_lo (0 + a 0 5 - 1) (by omega)] at key
    exact key
  · intro f L hf
    have h1 := mxs_le h hp (f + a 0 5 - 1) (by omega)
    have h2 := ps_bd h hp (show f + a 0 5 ≤ 8 by omega)
    show B_X9_peak_26 ν (nI p) L _ (nI f) = L (nI (mxs a p (f + 1 + a 0 5 - 1))) (nI (f + 1))
    unfold B_X9_peak_26
    rw [rm_span r, nI_add, if_neg (show ¬ (8 : Int32) < nI (f + a 0 5) from nI_nlt (a := 8) (b := f + a 0 5) (by omega) (by decide)), m_sum h r hp (by omega), sb, mxs_at h5.1]
    unfold b_X9_peak_61
    rw [nI_1]
    by_cases hc : ps (ln a p) (f + a 0 5) - ps (ln a p) f ≤ mxs a p (f + a 0 5 - 1)
    · rw [if_pos (nI_le hc (by omega)), Nat.max_eq_left hc]
    · rw [if_neg (nI_ge (by omega) (by omega)), Nat.max_eq_right (by omega)]
  · intro L
    show B_X9_peak_26 ν (nI p) L _ (nI (9 - a 0 5)) = _
    unfold B_X9_peak_26
    rw [rm_span r, nI_add, if_pos (show (8 : Int32) < nI (9 - a 0 5 + a 0 5) by rw [show 9 - a 0 5 + a 0 5 = 9 by omega]; decide), show 9 - a 0 5 + a 0 5 - 1 = 8 by omega]
