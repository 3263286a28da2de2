/-! how many bits are set: byte by byte -/
theorem and_lo (a b : Nat) : (a &&& b) % 256 = (a % 256) &&& (b % 256) := Nat.and_mod_two_pow (n := 8)
theorem and_hi (a b : Nat) : (a &&& b) / 256 = (a / 256) &&& (b / 256) := by
  have := Nat.shiftRight_and_distrib (a := a) (b := b) (i := 8)
  rwa [Nat.shiftRight_eq_div_pow, Nat.shiftRight_eq_div_pow, Nat.shiftRight_eq_div_pow] at this
def msk (m : Nat) : Nat → Nat
  | 0 => 0
  | k + 1 => m + 256 * msk m k
def dg (g : Nat → Nat) : Nat → Nat → Nat
  | 0, _ => 0
  | k + 1, n => g (n % 256) + 256 * dg g k (n / 256)
theorem dg_add (g g' : Nat → Nat) : ∀ k n, dg (fun y => g y + g' y) k n = dg g k n + dg g' k n
  | 0, _ => rfl
  | k + 1, n => by
    show g (n % 256) + g' (n % 256) + 256 * dg (fun y => g y + g' y) k (n / 256) = (g (n % 256) + 256 * dg g k (n / 256)) + (g' (n % 256) + 256 * dg g' k (n / 256))
    rw [dg_add g g' k]
    omega
theorem dg_ext {g g' : Nat → Nat} (h : ∀ y, y < 256 → g y = g' y) : ∀ k n, dg g k n = dg g' k n
  | 0, _ => rfl
  | k + 1, n => by
    show g (n % 256) + 256 * dg g k (n / 256) = g' (n % 256) + 256 * dg g' k (n / 256)
    rw [dg_ext h k, h _ (Nat.mod_lt _ (by decide))]
theorem dg_sub {g g' : Nat → Nat} (h : ∀ y, y < 256 → g' y ≤ g y) (k n : Nat) : dg g k n - dg g' k n = dg (fun y => g y - g' y) k n := by
  have := dg_add (fun y => g y - g' y) g' k n
  have e := dg_ext (g := fun y => (g y - g' y) + g' y) (g' := g) (fun y hy => Nat.sub_add_cancel (h y hy)) k n
  omega
theorem dg_id : ∀ k n, n < 256 ^ k → dg (fun y => y) k n = n
  | 0, n, h => by
    have : n = 0 := by simpa using h
    rw [this]
    rfl
  | k + 1, n, h => by
    show n % 256 + 256 * dg (fun y => y) k (n / 256) = n
    rw [dg_id k (n / 256) (by rw [Nat.pow_succ, Nat.mul_comm] at h; exact Nat.div_lt_of_lt_mul h)]
    omega
theorem dg_comp {g g' : Nat → Nat} (h : ∀ y, y < 256 → g' y < 256) : ∀ k n, dg g k (dg g' k n) = dg (fun y => g (g' y)) k n
  | 0, _ => rfl
  | k + 1, n => by
    have h1 := h (n % 256) (Nat.mod_lt _ (by decide))
    have e1 : dg g' (k + 1) n % 256 = g' (n % 256) := by
      show (g' (n % 256) + 256 * dg g' k (n / 256)) % 256 = _
      omega
    have e2 : dg g' (k + 1) n / 256 = dg g' k (n / 256) := by
      show (g' (n % 256) + 256 * dg g' k (n / 256)) / 256 = _
      omega
    show g (dg g' (k + 1) n % 256) + 256 * dg g k (dg g' (k + 1) n / 256) = g (g' (n % 256)) + 256 * dg (fun y => g (g' y)) k (n / 256)
    rw [e1, e2, dg_comp h k]
theorem dg_sh {m s : Nat} (hs : s ≤ 8) (hm : m < 2 ^ (8 - s)) : ∀ k n, (n >>> s) &&& msk m k = dg (fun y => (y >>> s) &&& m) k n
  | 0, n => Nat.and_zero _
  | k + 1, n => by
    have hm2 : m < 256 := Nat.lt_of_lt_of_le hm (Nat.pow_le_pow_right (n := 2) (by decide) (show 8 - s ≤ 8 by omega))
    have e1 : msk m (k + 1) % 256 = m := by
      show (m + 256 * msk m k) % 256 = m
      omega
    have e2 : msk m (k + 1) / 256 = msk m k := by
      show (m + 256 * msk m k) / 256 = _
      omega
    have h1 : ((n >>> s) &&& msk m (k + 1)) % 256 = ((n % 256) >>> s) &&& m := by
      rw [and_lo, e1]
      apply Nat.eq_of_testBit_eq
      intro i
      rw [Nat.testBit_and, Nat.testBit_and, Nat.testBit_shiftRight, show (256 : Nat) = 2 ^ 8 from rfl, Nat.testBit_mod_two_pow, Nat.testBit_mod_two_pow, Nat.testBit_shiftRight]
      rcases Nat.lt_or_ge i (8 - s) with hi | hi
      · rw [decide_eq_true (show i < 8 by omega), decide_eq_true (show s + i < 8 by omega)]
      · rw [Nat.testBit_lt_two_pow (Nat.lt_of_lt_of_le hm (Nat.pow_le_pow_right (by decide) hi))]
        simp
    have h2 : ((n >>> s) &&& msk m (k + 1)) / 256 = (n / 256) >>> s &&& msk m k := by
      rw [and_hi, e2]
      congr 1
      rw [Nat.shiftRight_eq_div_pow, Nat.shiftRight_eq_div_pow, Nat.div_div_eq_div_mul, Nat.div_div_eq_div_mul, Nat.mul_comm]
    show _ = (((n % 256) >>> s) &&& m) + 256 * dg (fun y => (y >>> s) &&& m) k (n / 256)
    rw [← dg_sh hs hm k, ← h1, ← h2]
    omega
theorem dg_an {m : Nat} (hm : m < 256) (k n : Nat) : n &&& msk m k = dg (fun y => y &&& m) k n := dg_sh (s := 0) (by omega) hm k n
/-- every byte is two digits of at most 4 -/
def lo4 : Nat → Nat → Prop
  | 0, n => n = 0
  | k + 1, n => n % 16 ≤ 4 ∧ n / 16 % 16 ≤ 4 ∧ lo4 k (n / 256)
theorem lo4_nib {k n : Nat} (h : lo4 k n) : n % 16 ≤ 4 := by
  cases k with
  | zero => rw [show n = 0 from h]; decide
  | succ k => exact h.1
theorem lo4_dg {g : Nat → Nat} (h : ∀ y, y < 256 → g y < 256 ∧ g y % 16 ≤ 4 ∧ g y / 16 % 16 ≤ 4) : ∀ k n, lo4 k (dg g k n)
  | 0, _ => rfl
  | k + 1, n => by
    have h1 := h (n % 256) (Nat.mod_lt _ (by decide))
    have e : dg g (k + 1) n = g (n % 256) + 256 * dg g k (n / 256) := rfl
    refine ⟨by omega, by omega, ?_⟩
    rw [show dg g (k + 1) n / 256 = dg g k (n / 256) by omega]
    exact lo4_dg h k _
theorem dg_s3 : ∀ k n, lo4 k n → (n + n >>> 4) &&& msk 15 k = dg (fun y => (y + y >>> 4) &&& 15) k n
  | 0, n, _ => Nat.and_zero _
  | k + 1, n, h => by
    have h3 := lo4_nib h.2.2
    have h1 := h.1
    have h2 := h.2.1
    have e1 : msk 15 (k + 1) % 256 = 15 := by
      show (15 + 256 * msk 15 k) % 256 = 15
      omega
    have e2 : msk 15 (k + 1) / 256 = msk 15 k := by
      show (15 + 256 * msk 15 k) / 256 = _
      omega
    have a15 : ∀ z, z &&& 15 = z % 16 := fun z => Nat.and_two_pow_sub_one_eq_mod z 4
    have g1 : ((n + n >>> 4) &&& msk 15 (k + 1)) % 256 = ((n % 256) + (n % 256) >>> 4) &&& 15 := by
      rw [and_lo, e1, a15, a15, Nat.shiftRight_eq_div_pow, Nat.shiftRight_eq_div_pow]
      omega
    have g2 : ((n + n >>> 4) &&& msk 15 (k + 1)) / 256 = (n / 256 + (n / 256) >>> 4) &&& msk 15 k := by
      rw [and_hi, e2]
      congr 1
      rw [Nat.shiftRight_eq_div_pow, Nat.shiftRight_eq_div_pow]
      have ha : n / 256 = n / 16 / 16 := by omega
      rw [ha]
      have h3' : n / 16 / 16 % 16 ≤ 4 := by rw [← ha]; exact h3
      omega
    show _ = ((n % 256 + (n % 256) >>> 4) &&& 15) + 256 * dg (fun y => (y + y >>> 4) &&& 15) k (n / 256)
    rw [← dg_s3 k (n / 256) h.2.2, ← g1, ← g2]
    omega
def s1 (y : Nat) : Nat := y - ((y >>> 1) &&& 85)
def s2 (y : Nat) : Nat := (y &&& 51) + ((y >>> 2) &&& 51)
def s3 (y : Nat) : Nat := (y + y >>> 4) &&& 15
def pop (y : Nat) : Nat := s3 (s2 (s1 y))
theorem s1_le : ∀ y, y < 256 → ((y >>> 1) &&& 85) ≤ y := by decide +kernel
theorem s1_lt : ∀ y, y < 256 → s1 y < 256 := by decide +kernel
theorem s2_lt : ∀ y, y < 256 → s2 (s1 y) < 256 ∧ s2 (s1 y) % 16 ≤ 4 ∧ s2 (s1 y) / 16 % 16 ≤ 4 := by decide +kernel
theorem pop_eqR : ∀ y, y < 256 → pop y = cntR (fun i => y.testBit i) 8 := by decide +kernel
theorem pop_eq (y : Nat) (h : y < 256) : pop y = cnt (fun i => y.testBit i) 8 := by rw [cnt_seal]; exact pop_eqR y h
theorem st1 {k n : Nat} (h : n < 256 ^ k) : n - ((n >>> 1) &&& msk 85 k) = dg s1 k n := by
  rw [dg_sh (by omega) (by decide)]
  have e := dg_id k n h
  have := dg_sub (g := fun y => y) (g' := fun y => (y >>> 1) &&& 85) s1_le k n
  rw [e] at this
  exact this
theorem st2 (k n : Nat) : (n &&& msk 51 k) + ((n >>> 2) &&& msk 51 k) = dg s2 k n := by
  rw [dg_sh (by omega) (by decide), dg_an (by decide)]
  exact (dg_add _ _ k n).symm
theorem st123 {k n : Nat} (h : n < 256 ^ k) : dg s3 k (dg s2 k (dg s1 k n)) = dg pop k n := by
  rw [dg_comp s1_lt, dg_comp (fun y hy => (s2_lt y hy).1)]
  rfl
theorem dg_lt {g : Nat → Nat} (h : ∀ y, y < 256 → g y < 256) : ∀ k n, dg g k n < 256 ^ k
  | 0, _ => by show 0 < 1; decide
  | k + 1, n => by
    have h1 := h (n % 256) (Nat.mod_lt _ (by decide))
    have h2 := dg_lt h k (n / 256)
    show g (n % 256) + 256 * dg g k (n / 256) < 256 ^ (k + 1)
    rw [Nat.pow_succ]
    omega
theorem cnt_ext {f g : Nat → Bool} : ∀ n, (∀ i, i < n → f i = g i) → cnt f n = cnt g n
  | 0, _ => by rw [cnt_0, cnt_0]
  | n + 1, h => by
    rw [cnt_succ, cnt_succ]
    rw [cnt_ext n (fun i hi => h i (by omega)), h n (by omega)]
theorem cnt_app (f : Nat → Bool) (m : Nat) : ∀ n, cnt f (m + n) = cnt f m + cnt (fun i => f (m + i)) n
  | 0 => by rw [cnt_0]; rfl
  | n + 1 => by
    rw [cnt_succ, ← Nat.add_assoc, cnt_succ, cnt_app f m n]
    omega
theorem cnt_le (f : Nat → Bool) : ∀ n, cnt f n ≤ n
  | 0 => by rw [cnt_0]; exact Nat.le_refl _
  | n + 1 => by
    have := cnt_le f n
    rw [cnt_succ]
    split <;> omega
theorem tb_lo {n i : Nat} (hi : i < 8) : (n % 256).testBit i = n.testBit i := by
  rw [show (256 : Nat) = 2 ^ 8 from rfl, Nat.testBit_mod_two_pow, decide_eq_true hi]
  rfl
theorem tb_hi (n i : Nat) : (n / 256).testBit i = n.testBit (8 + i) := by
  rw [show (256 : Nat) = 2 ^ 8 from rfl, ← Nat.shiftRight_eq_div_pow, Nat.testBit_shiftRight]
theorem pop_lo (n : Nat) : pop (n % 256) = cnt (fun i => n.testBit i) 8 := by
  rw [pop_eq _ (Nat.mod_lt _ (by decide))]
  exact cnt_ext 8 (fun i hi => tb_lo hi)
/-- the sum of the counts of the bytes -/
def sps : Nat → Nat → Nat
  | 0, _ => 0
  | k + 1, n => pop (n % 256) + sps k (n / 256)
theorem sps_eq : ∀ k n, sps k n = cnt (fun i => n.testBit i) (8 * k)
  | 0, _ => by rw [Nat.mul_zero, cnt_0]; rfl
  | k + 1, n => by
    show pop (n % 256) + sps k (n / 256) = _
    rw [sps_eq k, pop_lo, show 8 * (k + 1) = 8 + 8 * k by omega, cnt_app]
    congr 1
    exact cnt_ext _ (fun i hi => tb_hi n i)
