/-! what a roster's breaches are -/
def vl (a : AS) (p d : Nat) : Nat := a 3 (8 * p + d)
def isN (a : AS) (v : Nat) : Bool := decide (v ≠ 0 ∧ 1620 < a 1 (v - 1) + a 2 (v - 1))
def lnV (a : AS) (v : Nat) : Nat := if v = 0 then 0 else a 2 (v - 1)
def stV (a : AS) (v : Nat) : Nat := if v = 0 then 0 else a 1 (v - 1)
def ng (a : AS) (p d : Nat) : Bool := isN a (vl a p d)
def wd (a : AS) (p d : Nat) : Bool := decide (vl a p d ≠ 0)
def ln (a : AS) (p d : Nat) : Nat := lnV a (vl a p d)
/-- how many days in a row, up to the day before d -/
def rl (f : Nat → Bool) : Nat → Nat
  | 0 => 0
  | d + 1 => if f d = true then rl f d + 1 else 0
/-- the last day before d, plus 1; 0 if there is none -/
def lw (f : Nat → Bool) : Nat → Nat
  | 0 => 0
  | d + 1 => if f d = true then d + 1 else lw f d
def ps (f : Nat → Nat) : Nat → Nat
  | 0 => 0
  | d + 1 => ps f d + f d
def enI (a : AS) (p e : Nat) : Int := 1440 * (e : Int) + stV a (vl a p e) + ln a p e
def rsI (a : AS) (p d : Nat) : Int := 1440 * (d : Int) + stV a (vl a p d) - enI a p (lw (wd a p) d - 1)
def brk (a : AS) (k p d : Nat) : Bool :=
  if k = 0 then decide (vl a p d ≠ 0 ∧ a 4 (8 * p + d) ≠ 0)
  else if k = 1 then decide (vl a p d ≠ 0 ∧ a 5 (3 * p + (vl a p d - 1)) = 0)
  else if k = 2 then decide (vl a p d ≠ 0 ∧ lw (wd a p) d ≠ 0 ∧ rsI a p d < a 0 2)
  else if k = 3 then decide (a 0 3 < rl (ng a p) (d + 1))
  else if k = 4 then decide (a 0 4 < rl (wd a p) (d + 1))
  else if k = 5 then decide (d + a 0 5 ≤ 8 ∧ a 0 6 < ps (ln a p) (d + a 0 5) - ps (ln a p) d)
  else false
def sh (a : AS) (d j : Nat) : Bool := decide (cntS a d j 4 < a 6 (3 * d + j))
/-- the breach with the place t among all that there can be -/
def bt (a : AS) (t : Nat) : Bool := if t < 192 then brk a (t / 32) (t / 8 % 4) (t % 8) else sh a ((t - 192) / 3) ((t - 192) % 3)
def cntR (f : Nat → Bool) : Nat → Nat
  | 0 => 0
  | n + 1 => cntR f n + if f n = true then 1 else 0
/-- how many below n, sealed -/
theorem cnt_ex : ∃ g : (Nat → Bool) → Nat → Nat, ∀ f n, g f n = cntR f n := ⟨cntR, fun _ _ => rfl⟩
noncomputable def cnt : (Nat → Bool) → Nat → Nat := Classical.choose cnt_ex
theorem cnt_seal (f : Nat → Bool) (n : Nat) : cnt f n = cntR f n := Classical.choose_spec cnt_ex f n
theorem cnt_0 (f : Nat → Bool) : cnt f 0 = 0 := cnt_seal f 0
theorem cnt_succ (f : Nat → Bool) (n : Nat) : cnt f (n + 1) = cnt f n + if f n = true then 1 else 0 := by
  rw [cnt_seal, cnt_seal]
  rfl
theorem cellB {p d : Nat} (hp : p < 4) (hd : d < 8) : 8 * p + d < 32 := by omega
theorem vl_le {a : AS} (h : Inv a) {p d : Nat} (hp : p < 4) (hd : d < 8) : vl a p d ≤ 3 := Nat.le_trans (iv_val h _ (cellB hp hd)) (iv_S h)
theorem lnV_le {a : AS} (h : Inv a) {v : Nat} (hv : v ≤ 3) : lnV a v ≤ 720 := by
  unfold lnV
  split
  · omega
  · exact iv_len h _ (by omega)
theorem stV_lt {a : AS} (h : Inv a) {v : Nat} (hv : v ≤ 3) : stV a v < 1440 := by
  unfold stV
  split
  · omega
  · exact iv_st h _ (by omega)
/-! the class: the small functions -/
theorem x_cellOf {p d : Nat} (hp : p < 4) (hd : d < 8) : f_X8_cellOf (nI p) (nI d) = some (nI (8 * p + d)) := by
  unfold f_X8_cellOf
  simp (disch := omega) only [zI_n, y0, y4, y8, zI_le, zI_lt, zI_mul, zI_add, if_pos, if_neg]
  congr 2
  omega
theorem x_cellOf_neg {p : Nat} {z : Int} (h1 : -100 < z) (hz : z < 0) : f_X8_cellOf (nI p) (zI z) = some (-1) := by
  unfold f_X8_cellOf
  by_cases h1 : nI p < 0
  · rw [if_pos h1]
  · rw [if_neg h1]
    by_cases h2 : (4 : Int32) ≤ nI p
    · rw [if_pos h2]
    · rw [if_neg h2, if_pos (by rw [y0, zI_lt (by omega) (by omega) (by omega) (by omega)]; exact hz)]
theorem x_shiftAt {a : AS} {μ : Mem} (h : Inv a) (r : repX a μ) {p d : Nat} (hp : p < 4) (hd : d < 8) : f_X5_shiftAt μ (nI p) (nI d) = some (nI (vl a p d) - 1) := by
  unfold f_X5_shiftAt
  rw [x_cellOf hp hd, sb]
  have hc := cellB hp hd
  rw [if_neg (by rw [y0, zI_n, zI_lt (by omega) (by omega) (by omega) (by omega)]; omega), if_neg (by rw [y32, zI_n, zI_le (by omega) (by omega) (by omega) (by omega)]; omega), if_pos (by rw [zI_n, zI_in (by omega) (by omega)]; exact decide_eq_true (by omega)), nI_clamp (by omega), rx_val r _ hc]
  rfl
theorem x_shiftAt_neg {μ : Mem} {p : Nat} {z : Int} (h1 : -100 < z) (hz : z < 0) : f_X5_shiftAt μ (nI p) (zI z) = some (-1) := by
  unfold f_X5_shiftAt
  rw [x_cellOf_neg h1 hz]
  rfl
theorem x_v3 {v : Nat} (hv : v ≤ 3) (h0 : v ≠ 0) : nI v - 1 = nI (v - 1) := by
  exact pk_sub (a := v) (b := 1) (by omega)
theorem x_len {a : AS} {μ : Mem} (h : Inv a) (r : repX a μ) {v : Nat} (hv : v ≤ 3) : f_X7_lengthOf μ (nI v - 1) = some (nI (lnV a v)) := by
  unfold f_X7_lengthOf lnV
  by_cases h0 : v = 0
  · subst h0
    rfl
  · rw [if_neg h0, x_v3 hv h0]
    simp (disch := omega) only [zI_n, y0, y3, zI_le, zI_lt, zI_in, zI_cl, if_pos, if_neg]
    rw [if_pos (decide_eq_true (by omega))]
    exact congrArg some (rx_len r _ (by omega))
theorem x_start {a : AS} {μ : Mem} (h : Inv a) (r : repX a μ) {v : Nat} (hv : v ≤ 3) : f_X7_startOf μ (nI v - 1) = some (nI (stV a v)) := by
  unfold f_X7_startOf stV
  by_cases h0 : v = 0
  · subst h0
    rfl
  · rw [if_neg h0, x_v3 hv h0]
    simp (disch := omega) only [zI_n, y0, y3, zI_le, zI_lt, zI_in, zI_cl, if_pos, if_neg]
    rw [if_pos (decide_eq_true (by omega))]
    exact congrArg some (rx_st r _ (by omega))
def bI (b : Bool) : Int32 := if b = true then 1 else 0
theorem x_night {a : AS} {μ : Mem} (h : Inv a) (r : repX a μ) {v : Nat} (hv : v ≤ 3) : f_X7_holdsNight μ (nI v - 1) = some (bI (isN a v)) := by
  unfold f_X7_holdsNight isN
  by_cases h0 : v = 0
  · subst h0
    rfl
  · have e1 := rx_st r (v - 1) (by omega)
    have e2 := rx_len r (v - 1) (by omega)
    have e3 := iv_st h (v - 1) (by omega)
    have e4 := iv_len h (v - 1) (by omega)
    rw [x_v3 hv h0]
    simp (disch := omega) only [zI_n, y0, y3, zI_le, zI_lt, zI_in, zI_cl, if_pos, if_neg]
    rw [if_pos (decide_eq_true (by omega))]
    have e5 : ((v - 1 : Nat) : Int).toNat = v - 1 := by omega
    rw [e5, e1, e2]
    simp (disch := omega) only [zI_n, y1620, zI_le, zI_add]
    by_cases hc : 1620 < a 1 (v - 1) + a 2 (v - 1)
    · rw [if_neg (by omega)]
      simp [bI, h0, hc]
    · rw [if_pos (by omega)]
      simp [bI, h0, hc]
      rfl
