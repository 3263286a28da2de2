/-! the class: the breaches of a person -/
/-- where the loop over the days has come to i, the bits that are found -/
def fnd (a : AS) (p i t : Nat) : Bool := decide (t < 48) && (if t / 8 = 5 then decide (t % 8 + a 0 5 ≤ i) && brk a 5 p (t % 8) else decide (t % 8 < i) && brk a (t / 8) p (t % 8))
def endAt (a : AS) (p i : Nat) : Int := if lw (wd a p) i = 0 then -2000 else enI a p (lw (wd a p) i - 1)
theorem enI_b {a : AS} (h : Inv a) {p e : Nat} (hp : p < 4) (he : e < 8) : 0 ≤ enI a p e ∧ enI a p e ≤ 1440 * e + 2160 := by
  have h1 := stV_lt h (vl_le h hp he)
  have h2 := ln_le h hp he
  unfold enI
  omega
theorem endAt_b {a : AS} (h : Inv a) {p i : Nat} (hp : p < 4) (hi : i ≤ 8) : -2000 ≤ endAt a p i ∧ endAt a p i ≤ 13680 := by
  unfold endAt
  split
  · omega
  · have h1 := lw_le (wd a p) i
    have h2 := enI_b h (e := lw (wd a p) i - 1) hp (by omega)
    omega
theorem fnd_step {a : AS} {p i : Nat} (hi : i < 8) (hs : 1 ≤ a 0 5 ∧ a 0 5 ≤ 8) (t : Nat) (b5 : Bool) (f5 : Nat) (h5 : b5 = (decide (a 0 5 ≤ i + 1) && brk a 5 p (i + 1 - a 0 5))) (hf5 : a 0 5 ≤ i + 1 → f5 = i + 1 - a 0 5) :
    fnd a p (i + 1) t = (fnd a p i t || ((((brk a 3 p i && decide (t = 8 * 3 + i)) || (brk a 4 p i && decide (t = 8 * 4 + i))) || (b5 && decide (t = 8 * 5 + f5))) || (((brk a 0 p i && decide (t = 8 * 0 + i)) || (brk a 1 p i && decide (t = 8 * 1 + i))) || (brk a 2 p i && decide (t = 8 * 2 + i))))) := by
  rcases Nat.lt_or_ge t 48 with ht | ht
  · have hk : t / 8 = 0 ∨ t / 8 = 1 ∨ t / 8 = 2 ∨ t / 8 = 3 ∨ t / 8 = 4 ∨ t / 8 = 5 := by omega
    have g : ∀ k, k ≠ 5 → t / 8 = k → fnd a p (i + 1) t = (fnd a p i t || (brk a k p i && decide (t = 8 * k + i))) := by
      intro k hk5 hk
      unfold fnd
      rw [decide_eq_true ht, hk, if_neg hk5, if_neg hk5]
      rcases Nat.lt_trichotomy (t % 8) i with h1 | h1 | h1
      · rw [decide_eq_true (show t % 8 < i + 1 by omega), decide_eq_true h1, decide_eq_false (show ¬ t = 8 * k + i by omega)]
        simp
      · rw [decide_eq_true (show t % 8 < i + 1 by omega), decide_eq_false (show ¬ t % 8 < i by omega), decide_eq_true (show t = 8 * k + i by omega), h1]
        simp
      · rw [decide_eq_false (show ¬ t % 8 < i + 1 by omega), decide_eq_false (show ¬ t % 8 < i by omega), decide_eq_false (show ¬ t = 8 * k + i by omega)]
        simp
    rcases hk with hk | hk | hk | hk | hk | hk
    · rw [g 0 (by omega) hk, decide_eq_false (show ¬ t = 8 * 3 + i by omega), decide_eq_false (show ¬ t = 8 * 4 + i by omega), decide_eq_false (show ¬ t = 8 * 1 + i by omega), decide_eq_false (show ¬ t = 8 * 2 + i by omega)]
      have : (b5 && decide (t = 8 * 5 + f5)) = false := by rw [decide_eq_false (show ¬ t = 8 * 5 + f5 by omega)]; simp
      rw [this]
      simp
    · rw [g 1 (by omega) hk, decide_eq_false (show ¬ t = 8 * 3 + i by omega), decide_eq_false (show ¬ t = 8 * 4 + i by omega), decide_eq_false (show ¬ t = 8 * 0 + i by omega), decide_eq_false (show ¬ t = 8 * 2 + i by omega)]
      have : (b5 && decide (t = 8 * 5 + f5)) = false := by rw [decide_eq_false (show ¬ t = 8 * 5 + f5 by omega)]; simp
      rw [this]
      simp
    · rw [g 2 (by omega) hk, decide_eq_false (show ¬ t = 8 * 3 + i by omega), decide_eq_false (show ¬ t = 8 * 4 + i by omega), decide_eq_false (show ¬ t = 8 * 0 + i by omega), decide_eq_false (show ¬ t = 8 * 1 + i by omega)]
      have : (b5 && decide (t = 8 * 5 + f5)) = false := by rw [decide_eq_false (show ¬ t = 8 * 5 + f5 by omega)]; simp
      rw [this]
      simp
    · rw [g 3 (by omega) hk, decide_eq_false (show ¬ t = 8 * 0 + i by omega), decide_eq_false (show ¬ t = 8 * 4 + i by omega), decide_eq_false (show ¬ t = 8 * 1 + i by omega), decide_eq_false (show ¬ t = 8 * 2 + i by omega)]
      have : (b5 && decide (t = 8 * 5 + f5)) = false := by rw [decide_eq_false (show ¬ t = 8 * 5 + f5 by omega)]; simp
      rw [this]
      simp
    · rw [g 4 (by omega) hk, decide_eq_false (show ¬ t = 8 * 0 + i by omega), decide_eq_false (show ¬ t = 8 * 3 + i by omega), decide_eq_false (show ¬ t = 8 * 1 + i by omega), decide_eq_false (show ¬ t = 8 * 2 + i by omega)]
      have : (b5 && decide (t = 8 * 5 + f5)) = false := by rw [decide_eq_false (show ¬ t = 8 * 5 + f5 by omega)]; simp
      rw [this]
      simp
    · rw [decide_eq_false (show ¬ t = 8 * 0 + i by omega), decide_eq_false (show ¬ t = 8 * 3 + i by omega), decide_eq_false (show ¬ t = 8 * 1 + i by omega), decide_eq_false (show ¬ t = 8 * 2 + i by omega), decide_eq_false (show ¬ t = 8 * 4 + i by omega)]
      unfold fnd
      rw [decide_eq_true ht, if_pos hk, if_pos hk, h5]
      rcases Nat.lt_trichotomy (t % 8 + a 0 5) (i + 1) with h1 | h1 | h1
      · rw [decide_eq_true (show t % 8 + a 0 5 ≤ i + 1 by omega), decide_eq_true (show t % 8 + a 0 5 ≤ i by omega), decide_eq_false (show ¬ t = 8 * 5 + f5 from fun q => by have := hf5 (by omega); omega)]
        simp
      · have := hf5 (by omega)
        rw [decide_eq_true (show t % 8 + a 0 5 ≤ i + 1 by omega), decide_eq_false (show ¬ t % 8 + a 0 5 ≤ i by omega), decide_eq_true (show t = 8 * 5 + f5 by omega), decide_eq_true (show a 0 5 ≤ i + 1 by omega), show i + 1 - a 0 5 = t % 8 by omega]
        simp
      · rw [decide_eq_false (show ¬ t % 8 + a 0 5 ≤ i + 1 by omega), decide_eq_false (show ¬ t % 8 + a 0 5 ≤ i by omega)]
        rcases Nat.lt_or_ge (i + 1) (a 0 5) with h2 | h2
        · rw [decide_eq_false (show ¬ a 0 5 ≤ i + 1 by omega)]
          simp
        · have := hf5 h2
          rw [decide_eq_false (show ¬ t = 8 * 5 + f5 by omega)]
          simp
  · have e : ∀ i, fnd a p i t = false := fun i => by unfold fnd; rw [decide_eq_false (show ¬ t < 48 by omega)]; rfl
    rw [e, e, decide_eq_false (show ¬ t = 8 * 0 + i by omega), decide_eq_false (show ¬ t = 8 * 3 + i by omega), decide_eq_false (show ¬ t = 8 * 1 + i by omega), decide_eq_false (show ¬ t = 8 * 2 + i by omega), decide_eq_false (show ¬ t = 8 * 4 + i by omega)]
    have : (b5 && decide (t = 8 * 5 + f5)) = false := by
      rw [h5]
      rcases Nat.lt_or_ge (i + 1) (a 0 5) with h2 | h2
      · rw [decide_eq_false (show ¬ a 0 5 ≤ i + 1 by omega)]
        simp
      · have := hf5 h2
        rw [decide_eq_false (show ¬ t = 8 * 5 + f5 by omega)]
        simp
    rw [this]
    simp
theorem x_isAway {a : AS} {μ : Mem} (h : Inv a) (r : repX a μ) {p d : Nat} (hp : p < 4) (hd : d < 8) : f_X5_isAway μ (nI p) (nI d) = some (bI (decide (a 4 (8 * p + d) ≠ 0))) := by
  have hc := cellB hp hd
  have h1 := iv_aw h _ hc
  unfold f_X5_isAway
  rw [x_cellOf hp hd, sb]
  rw [if_neg (by rw [y0, zI_n, zI_lt (by omega) (by omega) (by omega) (by omega)]; omega), if_neg (by rw [y32, zI_n, zI_le (by omega) (by omega) (by omega) (by omega)]; omega), if_pos (by rw [zI_n, zI_in (by omega) (by omega)]; exact decide_eq_true (by omega)), nI_clamp (by omega), rx_aw r _ hc]
  exact ifb some (by rw [y0, zI_n, zI_eq (by omega) (by omega) (by omega) (by omega)]; simp)
theorem x_skillOf {p v : Nat} (hp : p < 4) (hv : v < 3) : f_X8_skillOf (nI p) (nI v) = some (nI (3 * p + v)) := by
  unfold f_X8_skillOf
  simp (disch := omega) only [zI_n, y0, y4, y3, zI_le, zI_lt, zI_mul, zI_add, if_pos, if_neg]
  congr 2
  omega
theorem x_hasSkill {a : AS} {μ : Mem} (h : Inv a) (r : repX a μ) {p v : Nat} (hp : p < 4) (hv : v < 3) : f_X5_hasSkill μ (nI p) (nI v) = some (bI (decide (a 5 (3 * p + v) ≠ 0))) := by
  have hc : 3 * p + v < 12 := by omega
  have h1 := iv_sk h _ hc
  unfold f_X5_hasSkill
  rw [x_skillOf hp hv, sb]
  rw [if_neg (by rw [y0, zI_n, zI_lt (by omega) (by omega) (by omega) (by omega)]; omega), if_neg (by rw [y12, zI_n, zI_le (by omega) (by omega) (by omega) (by omega)]; omega), if_pos (by rw [zI_n, zI_in (by omega) (by omega)]; exact decide_eq_true (by omega)), nI_clamp (by omega), rx_sk r _ hc]
  exact ifb some (by rw [y0, zI_n, zI_eq (by omega) (by omega) (by omega) (by omega)]; simp)
theorem ps_first {a : AS} {i : Nat} (h5 : 1 ≤ a 0 5) (hf : a 0 5 ≤ i + 1) : i + 1 - a 0 5 + a 0 5 = i + 1 := by omega
def smI (a : AS) (p i : Nat) : Int := (ps (ln a p) i : Int) - ps (ln a p) (i - a 0 5)
