/-! bits -/
def B64 (x : Int64) (f : Nat → Bool) : Prop := ∀ i, i < 64 → x.toBitVec.getLsbD i = f i
def B32 (x : Int32) (f : Nat → Bool) : Prop := ∀ i, i < 32 → x.toBitVec.getLsbD i = f i
theorem B64_or {x y : Int64} {f g : Nat → Bool} (hx : B64 x f) (hy : B64 y g) : B64 (x ||| y) (fun i => f i || g i) := by
  intro i hi
  rw [Int64.toBitVec_or, BitVec.getLsbD_or, hx i hi, hy i hi]
theorem B32_or {x y : Int32} {f g : Nat → Bool} (hx : B32 x f) (hy : B32 y g) : B32 (x ||| y) (fun i => f i || g i) := by
  intro i hi
  rw [Int32.toBitVec_or, BitVec.getLsbD_or, hx i hi, hy i hi]
theorem B64_and {x y : Int64} {f g : Nat → Bool} (hx : B64 x f) (hy : B64 y g) : B64 (x &&& y) (fun i => f i && g i) := by
  intro i hi
  rw [Int64.toBitVec_and, BitVec.getLsbD_and, hx i hi, hy i hi]
theorem B32_and {x y : Int32} {f g : Nat → Bool} (hx : B32 x f) (hy : B32 y g) : B32 (x &&& y) (fun i => f i && g i) := by
  intro i hi
  rw [Int32.toBitVec_and, BitVec.getLsbD_and, hx i hi, hy i hi]
theorem B64_not {x : Int64} {f : Nat → Bool} (hx : B64 x f) : B64 (x ^^^ (-1)) (fun i => !f i) := by
  intro i hi
  have : (-1 : Int64).toBitVec = BitVec.allOnes 64 := by decide
  rw [Int64.toBitVec_xor, BitVec.getLsbD_xor, this, hx i hi, BitVec.getLsbD_allOnes]
  simp [hi]
theorem B32_not {x : Int32} {f : Nat → Bool} (hx : B32 x f) : B32 (x ^^^ (-1)) (fun i => !f i) := by
  intro i hi
  have : (-1 : Int32).toBitVec = BitVec.allOnes 32 := by decide
  rw [Int32.toBitVec_xor, BitVec.getLsbD_xor, this, hx i hi, BitVec.getLsbD_allOnes]
  simp [hi]
theorem B64_0 : B64 0 (fun _ => false) := by
  intro i hi
  exact BitVec.getLsbD_zero
theorem B32_0 : B32 0 (fun _ => false) := by
  intro i hi
  exact BitVec.getLsbD_zero
theorem B32_m1 : B32 (-1) (fun _ => true) := by
  intro i hi
  have : (-1 : Int32).toBitVec = BitVec.allOnes 32 := by decide
  rw [this, BitVec.getLsbD_allOnes]
  simp [hi]
theorem B64_eqv {x : Int64} {f g : Nat → Bool} (hx : B64 x f) (h : ∀ i, i < 64 → f i = g i) : B64 x g := fun i hi => (hx i hi).trans (h i hi)
theorem B32_eqv {x : Int32} {f g : Nat → Bool} (hx : B32 x f) (h : ∀ i, i < 32 → f i = g i) : B32 x g := fun i hi => (hx i hi).trans (h i hi)
theorem B64_ext {x y : Int64} {f : Nat → Bool} (hx : B64 x f) (hy : B64 y f) : x = y := Int64.toBitVec_inj.mp (BitVec.eq_of_getLsbD_eq fun i hi => (hx i hi).trans (hy i hi).symm)
theorem B32_ext {x y : Int32} {f : Nat → Bool} (hx : B32 x f) (hy : B32 y f) : x = y := Int32.toBitVec_inj.mp (BitVec.eq_of_getLsbD_eq fun i hi => (hx i hi).trans (hy i hi).symm)
theorem B64_z {x : Int64} {f : Nat → Bool} (hx : B64 x f) : x = 0 ↔ ∀ i, i < 64 → f i = false := by
  constructor
  · intro e i hi
    rw [← hx i hi, e]
    exact B64_0 i hi
  · intro h
    exact B64_ext (B64_eqv hx h) B64_0
theorem B32_z {x : Int32} {f : Nat → Bool} (hx : B32 x f) : x = 0 ↔ ∀ i, i < 32 → f i = false := by
  constructor
  · intro e i hi
    rw [← hx i hi, e]
    exact B32_0 i hi
  · intro h
    exact B32_ext (B32_eqv hx h) B32_0
theorem one64 : ∀ t, t < 48 → ∀ i, i < 64 → ((1 : Int64) <<< ((Int32.toInt64 (nI t)) &&& 63)).toBitVec.getLsbD i = decide (i = t) := by decide +kernel
theorem one32 : ∀ t, t < 32 → ∀ i, i < 32 → ((1 : Int32) <<< ((nI t) &&& 31)).toBitVec.getLsbD i = decide (i = t) := by decide +kernel
theorem B32_one {t : Nat} (ht : t < 32) : B32 ((1 : Int32) <<< ((nI t) &&& 31)) (fun i => decide (i = t)) := fun i hi => one32 t ht i hi
theorem x_bitIf {k d : Nat} (c : Bool) (hk : k < 6) (hd : d < 8) : ∃ x, f_X1_bitIf (bI c) (nI k) (nI d) = some x ∧ B64 x (fun i => c && decide (i = 8 * k + d)) := by
  unfold f_X1_bitIf
  cases c
  · exact ⟨0, rfl, fun i hi => by rw [B64_0 i hi]; rfl⟩
  · refine ⟨_, rfl, fun i hi => ?_⟩
    have e : nI k * 8 + nI d = nI (8 * k + d) := by
      rw [Nat.mul_comm 8 k, ← nI_add, ← pk_mul]
      rfl
    rw [e, one64 _ (by omega) i hi]
    rfl
theorem ifb {β : Type} (F : Int32 → β) {c : Prop} [Decidable c] {b : Bool} (h : c ↔ b = false) : (if c then F 0 else F 1) = F (bI b) := by
  cases b
  · rw [if_pos (h.mpr rfl)]; rfl
  · rw [if_neg (fun q => by cases h.mp q)]; rfl
theorem bI_0 {b : Bool} : bI b = 0 ↔ b = false := by cases b <;> decide
theorem ps_mono (f : Nat → Nat) {i j : Nat} (h : i ≤ j) : ps f i ≤ ps f j := by
  induction j with
  | zero => rw [Nat.le_zero.mp h]; exact Nat.le_refl _
  | succ j ih =>
    rcases Nat.lt_or_ge i (j + 1) with h1 | h1
    · exact Nat.le_trans (ih (by omega)) (Nat.le_add_right _ _)
    · rw [show i = j + 1 by omega]; exact Nat.le_refl _
theorem ps_le {f : Nat → Nat} {B : Nat} {n : Nat} (h : ∀ i, i < n → f i ≤ B) : ∀ i, i ≤ n → ps f i ≤ B * i := by
  intro i
  induction i with
  | zero => intro _; exact Nat.le_refl _
  | succ i ih =>
    intro hi
    have h1 := ih (by omega)
    have h2 := h i (by omega)
    show ps f i + f i ≤ B * (i + 1)
    rw [Nat.mul_add]
    omega
theorem rl_le (f : Nat → Bool) : ∀ d, rl f d ≤ d
  | 0 => Nat.le_refl _
  | d + 1 => by
    have := rl_le f d
    unfold rl
    split <;> omega
theorem lw_le (f : Nat → Bool) : ∀ d, lw f d ≤ d
  | 0 => Nat.le_refl _
  | d + 1 => by
    have := lw_le f d
    unfold lw
    split <;> omega
theorem ln_le {a : AS} (h : Inv a) {p d : Nat} (hp : p < 4) (hd : d < 8) : ln a p d ≤ 720 := lnV_le h (vl_le h hp hd)
