/-! numbers; what the two pictures and the bounds say, part by part -/
theorem iv_P {a : AS} (h : Inv a) : a 0 0 ≤ 4 := h.1
theorem iv_S {a : AS} (h : Inv a) : a 0 1 ≤ 3 := h.2.1
theorem iv_rest {a : AS} (h : Inv a) : a 0 2 ≤ 2000 := h.2.2.1
theorem iv_nights {a : AS} (h : Inv a) : (1 ≤ a 0 3 ∧ a 0 3 ≤ 8) := h.2.2.2.1
theorem iv_run {a : AS} (h : Inv a) : (1 ≤ a 0 4 ∧ a 0 4 ≤ 8) := h.2.2.2.2.1
theorem iv_span {a : AS} (h : Inv a) : (1 ≤ a 0 5 ∧ a 0 5 ≤ 8) := h.2.2.2.2.2.1
theorem iv_lim {a : AS} (h : Inv a) : a 0 6 ≤ 6000 := h.2.2.2.2.2.2.1
theorem iv_st {a : AS} (h : Inv a) : (∀ j, j < 3 → a 1 j < 1440) := h.2.2.2.2.2.2.2.1
theorem iv_len {a : AS} (h : Inv a) : (∀ j, j < 3 → a 2 j ≤ 720) := h.2.2.2.2.2.2.2.2.1
theorem iv_val {a : AS} (h : Inv a) : (∀ c, c < 32 → a 3 c ≤ a 0 1) := h.2.2.2.2.2.2.2.2.2.1
theorem iv_valP {a : AS} (h : Inv a) : (∀ c, c < 32 → 8 * a 0 0 ≤ c → a 3 c = 0) := h.2.2.2.2.2.2.2.2.2.2.1
theorem iv_aw {a : AS} (h : Inv a) : (∀ c, c < 32 → a 4 c ≤ 1) := h.2.2.2.2.2.2.2.2.2.2.2.1
theorem iv_sk {a : AS} (h : Inv a) : (∀ c, c < 12 → a 5 c ≤ 1) := h.2.2.2.2.2.2.2.2.2.2.2.2.1
theorem iv_dem {a : AS} (h : Inv a) : (∀ c, c < 24 → a 6 c ≤ 4) := h.2.2.2.2.2.2.2.2.2.2.2.2.2.1
theorem iv_demS {a : AS} (h : Inv a) : (∀ d j, d < 8 → j < 3 → a 0 1 ≤ j → a 6 (3 * d + j) = 0) := h.2.2.2.2.2.2.2.2.2.2.2.2.2.2.1
theorem iv_made {a : AS} (h : Inv a) : a 7 0 ≤ 2 := h.2.2.2.2.2.2.2.2.2.2.2.2.2.2.2
theorem rx_P {a : AS} {μ : Mem} (h : repX a μ) : μ.1 6 4 = nI (a 0 0) := h.1
theorem rx_S {a : AS} {μ : Mem} (h : repX a μ) : μ.1 1 2 = nI (a 0 1) := h.2.1
theorem rx_rest {a : AS} {μ : Mem} (h : repX a μ) : μ.1 4 1 = nI (a 0 2) := h.2.2.1
theorem rx_nights {a : AS} {μ : Mem} (h : repX a μ) : μ.1 4 2 = nI (a 0 3) := h.2.2.2.1
theorem rx_run {a : AS} {μ : Mem} (h : repX a μ) : μ.1 4 3 = nI (a 0 4) := h.2.2.2.2.1
theorem rx_span {a : AS} {μ : Mem} (h : repX a μ) : μ.1 4 4 = nI (a 0 5) := h.2.2.2.2.2.1
theorem rx_lim {a : AS} {μ : Mem} (h : repX a μ) : μ.1 4 5 = nI (a 0 6) := h.2.2.2.2.2.2.1
theorem rx_st {a : AS} {μ : Mem} (h : repX a μ) : (∀ j, j < 3 → μ.1 2 j = nI (a 1 j)) := h.2.2.2.2.2.2.2.1
theorem rx_len {a : AS} {μ : Mem} (h : repX a μ) : (∀ j, j < 3 → μ.1 3 j = nI (a 2 j)) := h.2.2.2.2.2.2.2.2.1
theorem rx_val {a : AS} {μ : Mem} (h : repX a μ) : (∀ c, c < 32 → μ.1 7 c = nI (a 3 c)) := h.2.2.2.2.2.2.2.2.2.1
theorem rx_aw {a : AS} {μ : Mem} (h : repX a μ) : (∀ c, c < 32 → μ.1 8 c = nI (a 4 c)) := h.2.2.2.2.2.2.2.2.2.2.1
theorem rx_sk {a : AS} {μ : Mem} (h : repX a μ) : (∀ c, c < 12 → μ.1 9 c = nI (a 5 c)) := h.2.2.2.2.2.2.2.2.2.2.2.1
theorem rx_dem {a : AS} {μ : Mem} (h : repX a μ) : (∀ c, c < 24 → μ.1 5 c = nI (a 6 c)) := h.2.2.2.2.2.2.2.2.2.2.2.2.1
theorem rx_staff {a : AS} {μ : Mem} (h : repX a μ) : (∀ d j, d < 8 → j < 3 → μ.1 10 (3 * d + j) = nI (cntS a d j 4)) := h.2.2.2.2.2.2.2.2.2.2.2.2.2.1
theorem rx_made {a : AS} {μ : Mem} (h : repX a μ) : μ.1 23 2 = nI (a 7 0) := h.2.2.2.2.2.2.2.2.2.2.2.2.2.2.1
theorem rx_mc {a : AS} {μ : Mem} (h : repX a μ) : (∀ j, j < a 7 0 → μ.1 24 j = nI (a 8 j)) := h.2.2.2.2.2.2.2.2.2.2.2.2.2.2.2.1
theorem rx_mv {a : AS} {μ : Mem} (h : repX a μ) : (∀ j, j < a 7 0 → μ.1 25 j = nI (a 9 j)) := h.2.2.2.2.2.2.2.2.2.2.2.2.2.2.2.2.1
theorem rx_sb {a : AS} {μ : Mem} (h : repX a μ) : (∀ q, q = 13 ∨ q = 15 ∨ q = 18 → ∀ i, 24 ≤ i → i < 32 → (μ.1 q 1).toBitVec.getLsbD i = false) := h.2.2.2.2.2.2.2.2.2.2.2.2.2.2.2.2.2
theorem rm_P {a : AS} {ν : Mem} (h : repM a ν) : ν.1 0 1 = nI (a 0 0) := h.1
theorem rm_S {a : AS} {ν : Mem} (h : repM a ν) : ν.1 0 2 = nI (a 0 1) := h.2.1
theorem rm_rest {a : AS} {ν : Mem} (h : repM a ν) : ν.1 0 9 = nI (a 0 2) := h.2.2.1
theorem rm_nights {a : AS} {ν : Mem} (h : repM a ν) : ν.1 0 10 = nI (a 0 3) := h.2.2.2.1
theorem rm_run {a : AS} {ν : Mem} (h : repM a ν) : ν.1 0 11 = nI (a 0 4) := h.2.2.2.2.1
theorem rm_span {a : AS} {ν : Mem} (h : repM a ν) : ν.1 0 12 = nI (a 0 5) := h.2.2.2.2.2.1
theorem rm_lim {a : AS} {ν : Mem} (h : repM a ν) : ν.1 0 13 = nI (a 0 6) := h.2.2.2.2.2.2.1
theorem rm_st {a : AS} {ν : Mem} (h : repM a ν) : (∀ j, j < 3 → ν.1 1 j = nI (a 1 j)) := h.2.2.2.2.2.2.2.1
theorem rm_len {a : AS} {ν : Mem} (h : repM a ν) : (∀ j, j < 3 → ν.1 2 j = nI (a 2 j)) := h.2.2.2.2.2.2.2.2.1
theorem rm_val {a : AS} {ν : Mem} (h : repM a ν) : (∀ c, c < 32 → ν.1 3 c = nI (a 3 c) - 1) := h.2.2.2.2.2.2.2.2.2.1
theorem rm_aw {a : AS} {ν : Mem} (h : repM a ν) : (∀ c, c < 32 → ν.1 4 c = nI (a 4 c)) := h.2.2.2.2.2.2.2.2.2.2.1
theorem rm_sk {a : AS} {ν : Mem} (h : repM a ν) : (∀ c, c < 12 → ν.1 5 c = nI (a 5 c)) := h.2.2.2.2.2.2.2.2.2.2.2.1
theorem rm_dem {a : AS} {ν : Mem} (h : repM a ν) : (∀ c, c < 24 → ν.1 6 c = nI (a 6 c)) := h.2.2.2.2.2.2.2.2.2.2.2.2.1
theorem rm_made {a : AS} {ν : Mem} (h : repM a ν) : ν.1 0 22 = nI (a 7 0) := h.2.2.2.2.2.2.2.2.2.2.2.2.2.1
theorem rm_mc {a : AS} {ν : Mem} (h : repM a ν) : (∀ j, j < a 7 0 → ν.1 14 j = nI (a 8 j)) := h.2.2.2.2.2.2.2.2.2.2.2.2.2.2.1
theorem rm_mv {a : AS} {ν : Mem} (h : repM a ν) : (∀ j, j < a 7 0 → ν.1 15 j = nI (a 9 j)) := h.2.2.2.2.2.2.2.2.2.2.2.2.2.2.2
theorem q_lt {a b : Nat} (ha : a < 2 ^ 31) (hb : b < 2 ^ 31) : (nI a < nI b) = (a < b) := propext (nI_ltI ha hb)
theorem q_le {a b : Nat} (ha : a < 2 ^ 31) (hb : b < 2 ^ 31) : (nI a ≤ nI b) = (a ≤ b) := propext (nI_leI ha hb)
theorem q_eq {a b : Nat} (ha : a < 2 ^ 31) (hb : b < 2 ^ 31) : (nI a = nI b) = (a = b) := propext (nI_eq ha hb)
theorem q_in {j n : Nat} (hj : j < 2 ^ 31) : rv_in (nI j) n = decide (j < n) := by
  unfold rv_in
  rw [nI_toInt hj]
  exact decide_eq_decide.mpr ⟨fun h => by omega, fun h => by omega⟩
theorem q_tn {n : Nat} (h : n < 2 ^ 31) : Int32.toNatClampNeg (nI n) = n := nI_clamp h
theorem q_m1 {n : Nat} (h : n < 2 ^ 31) : (nI n = -1) = False := by
  refine propext ⟨fun e => ?_, False.elim⟩
  have := congrArg Int32.toInt e
  rw [nI_toInt h] at this
  have h2 : (-1 : Int32).toInt = -1 := by decide
  omega
theorem q_sub {a b : Nat} (h : b ≤ a) : nI a - nI b = nI (a - b) := pk_sub h
theorem q_s {n : Nat} (h : 0 < n) : nI n - nI 1 = nI (n - 1) := pk_sub h
theorem q_sm {n : Nat} (h : n < 2 ^ 31) : (nI n - nI 1 = -1) = (n = 0) := by
  rcases Nat.eq_zero_or_pos n with rfl | h0
  · exact propext ⟨fun _ => rfl, fun _ => by decide⟩
  · rw [q_s h0, q_m1 (by omega)]
    exact propext ⟨False.elim, fun e => by omega⟩
theorem q_s0 : nI 0 - nI 1 = -1 := by decide
theorem z0 : (0 : Int32) = nI 0 := rfl
theorem z1 : (1 : Int32) = nI 1 := rfl
theorem z2 : (2 : Int32) = nI 2 := rfl
theorem z3 : (3 : Int32) = nI 3 := rfl
theorem z4 : (4 : Int32) = nI 4 := rfl
theorem z5 : (5 : Int32) = nI 5 := rfl
theorem z6 : (6 : Int32) = nI 6 := rfl
theorem z7 : (7 : Int32) = nI 7 := rfl
theorem z8 : (8 : Int32) = nI 8 := rfl
theorem z12 : (12 : Int32) = nI 12 := rfl
theorem z24 : (24 : Int32) = nI 24 := rfl
theorem z32 : (32 : Int32) = nI 32 := rfl
theorem z216 : (216 : Int32) = nI 216 := rfl
theorem z256 : (256 : Int32) = nI 256 := rfl
theorem z1440 : (1440 : Int32) = nI 1440 := rfl
theorem z1620 : (1620 : Int32) = nI 1620 := rfl
theorem z2000 : (2000 : Int32) = nI 2000 := rfl
theorem z720 : (720 : Int32) = nI 720 := rfl
theorem z1439 : (1439 : Int32) = nI 1439 := rfl
theorem z6000 : (6000 : Int32) = nI 6000 := rfl
theorem z192 : (192 : Int32) = nI 192 := rfl
theorem z97 : (97 : Int32) = nI 97 := rfl
theorem z100 : (100 : Int32) = nI 100 := rfl
theorem z104 : (104 : Int32) = nI 104 := rfl
theorem z107 : (107 : Int32) = nI 107 := rfl
theorem z110 : (110 : Int32) = nI 110 := rfl
theorem z114 : (114 : Int32) = nI 114 := rfl
theorem z119 : (119 : Int32) = nI 119 := rfl
