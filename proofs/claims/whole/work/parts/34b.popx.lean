def t64 (x : Int64) : Nat := x.toBitVec.toNat
def t32 (x : Int32) : Nat := x.toBitVec.toNat
theorem t64_lt (x : Int64) : t64 x < 2 ^ 64 := x.toBitVec.isLt
theorem t32_lt (x : Int32) : t32 x < 2 ^ 32 := x.toBitVec.isLt
theorem t64_add (x y : Int64) : t64 (x + y) = (t64 x + t64 y) % 2 ^ 64 := by unfold t64; rw [Int64.toBitVec_add, BitVec.toNat_add]
theorem t32_add (x y : Int32) : t32 (x + y) = (t32 x + t32 y) % 2 ^ 32 := by unfold t32; rw [Int32.toBitVec_add, BitVec.toNat_add]
theorem t64_sub {x y : Int64} (h : t64 y ≤ t64 x) : t64 (x - y) = t64 x - t64 y := by
  have hx := t64_lt x
  unfold t64 at *
  rw [Int64.toBitVec_sub, BitVec.toNat_sub]
  omega
theorem t32_sub {x y : Int32} (h : t32 y ≤ t32 x) : t32 (x - y) = t32 x - t32 y := by
  have hx := t32_lt x
  unfold t32 at *
  rw [Int32.toBitVec_sub, BitVec.toNat_sub]
  omega
theorem t64_and (x y : Int64) : t64 (x &&& y) = t64 x &&& t64 y := by unfold t64; rw [Int64.toBitVec_and, BitVec.toNat_and]
theorem t32_and (x y : Int32) : t32 (x &&& y) = t32 x &&& t32 y := by unfold t32; rw [Int32.toBitVec_and, BitVec.toNat_and]
theorem t64_shr (x : Int64) {c : UInt64} {s : Nat} (hc : (c.toBitVec % 64).toNat = s) : t64 ((x.toUInt64 >>> c).toInt64) = t64 x >>> s := by
  show ((x.toUInt64 >>> c).toBitVec).toNat = _
  rw [UInt64.toBitVec_shiftRight, BitVec.ushiftRight_eq', BitVec.toNat_ushiftRight, hc]
  rfl
theorem t32_shr (x : Int32) {c : UInt32} {s : Nat} (hc : (c.toBitVec % 32).toNat = s) : t32 ((x.toUInt32 >>> c).toInt32) = t32 x >>> s := by
  show ((x.toUInt32 >>> c).toBitVec).toNat = _
  rw [UInt32.toBitVec_shiftRight, BitVec.ushiftRight_eq', BitVec.toNat_ushiftRight, hc]
  rfl
theorem pop_le : ∀ y, y < 256 → pop y ≤ 8 := by decide +kernel
theorem s12_lt (k n : Nat) : dg s2 k (dg s1 k n) < 256 ^ k := by
  rw [dg_comp s1_lt]
  exact dg_lt (fun y hy => (s2_lt y hy).1) k n
theorem and_le' (a b : Nat) : a &&& b ≤ a := Nat.and_le_left
theorem B64_tb {x : Int64} {f : Nat → Bool} (hx : B64 x f) : ∀ i, i < 64 → (t64 x).testBit i = f i := hx
theorem B32_tb {x : Int32} {f : Nat → Bool} (hx : B32 x f) : ∀ i, i < 32 → (t32 x).testBit i = f i := hx
theorem t32_inj {x y : Int32} (h : t32 x = t32 y) : x = y := Int32.toBitVec_inj.mp (BitVec.eq_of_toNat_eq h)
theorem t32_nI {n : Nat} (h : n < 2 ^ 32) : t32 (nI n) = n := pk_tn h
theorem x_pop32 {x : Int32} {f : Nat → Bool} (hx : B32 x f) : f_J6_bitCount_0f7a4 x = some (nI (cnt f 32)) := by
  have hN := t32_lt x
  have h4 : (256 : Nat) ^ 4 = 2 ^ 32 := by decide
  have hc := (sps_eq 4 (t32 x)).trans (cnt_ext 32 (fun i hi => B32_tb hx i hi))
  unfold f_J6_bitCount_0f7a4
  have m1 : t32 1431655765 = msk 85 4 := by decide
  have m2 : t32 858993459 = msk 51 4 := by decide
  have m3 : t32 252645135 = msk 15 4 := by decide
  have e1 : t32 (x - (((x.toUInt32 >>> (Int32.toUInt32 1 &&& Int32.toUInt32 31)).toInt32) &&& 1431655765)) = dg s1 4 (t32 x) := by
    have g : t32 (((x.toUInt32 >>> (Int32.toUInt32 1 &&& Int32.toUInt32 31)).toInt32) &&& 1431655765) = (t32 x >>> 1) &&& msk 85 4 := by rw [t32_and, t32_shr x (s := 1) (by decide), m1]
    rw [t32_sub, g, st1 (by omega)]
    rw [g, Nat.shiftRight_eq_div_pow]
    exact Nat.le_trans Nat.and_le_left (Nat.div_le_self _ _)
  generalize hy : x - (((x.toUInt32 >>> (Int32.toUInt32 1 &&& Int32.toUInt32 31)).toInt32) &&& 1431655765) = y at e1
  have l2 := s12_lt 4 (t32 x)
  have e2 : t32 ((y &&& 858993459) + (((y.toUInt32 >>> (Int32.toUInt32 2 &&& Int32.toUInt32 31)).toInt32) &&& 858993459)) = dg s2 4 (dg s1 4 (t32 x)) := by
    rw [t32_add, t32_and, t32_and, t32_shr y (s := 2) (by decide), m2, e1, st2]
    omega
  generalize hz : (y &&& 858993459) + (((y.toUInt32 >>> (Int32.toUInt32 2 &&& Int32.toUInt32 31)).toInt32) &&& 858993459) = z at e2
  unfold b_J6_bitCount_0f7a4_24
  have hlo : lo4 4 (dg s2 4 (dg s1 4 (t32 x))) := by
    rw [dg_comp s1_lt]
    exact lo4_dg s2_lt 4 _
  have hpp := st123 (k := 4) (n := t32 x) (by omega)
  have hs3 := dg_s3 4 _ hlo
  have e3 : t32 ((z + ((z.toUInt32 >>> (Int32.toUInt32 4 &&& Int32.toUInt32 31)).toInt32)) &&& 252645135) = dg pop 4 (t32 x) := by
    rw [t32_and, t32_add, t32_shr z (s := 4) (by decide), m3, e2]
    rw [← hpp]
    have : dg s3 4 (dg s2 4 (dg s1 4 (t32 x))) = dg (fun y => (y + y >>> 4) &&& 15) 4 (dg s2 4 (dg s1 4 (t32 x))) := rfl
    rw [this, ← hs3]
    congr 1
    apply Nat.mod_eq_of_lt
    have h1 : dg s2 4 (dg s1 4 (t32 x)) ≤ 1145324612 := by
      have a1 := hlo.1
      have a2 := hlo.2.1
      have b1 := hlo.2.2.1
      have b2 := hlo.2.2.2.1
      have c1 := hlo.2.2.2.2.1
      have c2 := hlo.2.2.2.2.2.1
      have d1 := hlo.2.2.2.2.2.2.1
      have d2 := hlo.2.2.2.2.2.2.2.1
      omega
    rw [Nat.shiftRight_eq_div_pow]
    omega
  generalize hw : (z + ((z.toUInt32 >>> (Int32.toUInt32 4 &&& Int32.toUInt32 31)).toInt32)) &&& 252645135 = w at e3
  unfold b_J6_bitCount_0f7a4_41
  have p0 := pop_le (t32 x % 256) (by omega)
  have p1 := pop_le (t32 x / 256 % 256) (by omega)
  have p2 := pop_le (t32 x / 256 / 256 % 256) (by omega)
  have p3 := pop_le (t32 x / 256 / 256 / 256 % 256) (by omega)
  have e4 : dg pop 4 (t32 x) = pop (t32 x % 256) + 256 * (pop (t32 x / 256 % 256) + 256 * (pop (t32 x / 256 / 256 % 256) + 256 * (pop (t32 x / 256 / 256 / 256 % 256) + 256 * 0))) := rfl
  have e5 : sps 4 (t32 x) = pop (t32 x % 256) + (pop (t32 x / 256 % 256) + (pop (t32 x / 256 / 256 % 256) + (pop (t32 x / 256 / 256 / 256 % 256) + 0))) := rfl
  generalize pop (t32 x % 256) = a0 at *
  generalize pop (t32 x / 256 % 256) = a1 at *
  generalize pop (t32 x / 256 / 256 % 256) = a2 at *
  generalize pop (t32 x / 256 / 256 / 256 % 256) = a3 at *
  have f1 : t32 (w + ((w.toUInt32 >>> (Int32.toUInt32 8 &&& Int32.toUInt32 31)).toInt32)) = (a0 + a1) + 256 * (a1 + a2) + 65536 * (a2 + a3) + 16777216 * a3 := by
    rw [t32_add, t32_shr w (s := 8) (by decide), e3, e4, Nat.shiftRight_eq_div_pow]
    omega
  generalize hv : w + ((w.toUInt32 >>> (Int32.toUInt32 8 &&& Int32.toUInt32 31)).toInt32) = v at f1
  have f2 : t32 ((v + ((v.toUInt32 >>> (Int32.toUInt32 16 &&& Int32.toUInt32 31)).toInt32)) &&& 63) = a0 + a1 + a2 + a3 := by
    rw [t32_and, t32_add, t32_shr v (s := 16) (by decide), f1, Nat.shiftRight_eq_div_pow, show t32 63 = 2 ^ 6 - 1 by decide, Nat.and_two_pow_sub_one_eq_mod]
    have q1 : ((a0 + a1) + 256 * (a1 + a2) + 65536 * (a2 + a3) + 16777216 * a3) / 2 ^ 16 = (a2 + a3) + 256 * a3 := by omega
    rw [q1]
    have q2 : (a0 + a1) + 256 * (a1 + a2) + 65536 * (a2 + a3) + 16777216 * a3 + ((a2 + a3) + 256 * a3) = (a0 + a1 + a2 + a3) + 64 * (4 * (a1 + a2 + a3) + 1024 * (a2 + a3) + 262144 * a3) := by omega
    rw [q2, Nat.mod_eq_of_lt (b := 2 ^ 32) (by omega), Nat.add_mul_mod_self_left]
    omega
  refine congrArg some (t32_inj ?_)
  rw [f2, t32_nI]
  · rw [← hc, e5]
    omega
  · have := cnt_le f 32
    omega
theorem lo4_le : ∀ k n, lo4 k n → n ≤ msk 68 k
  | 0, n, h => by rw [show n = 0 from h]; exact Nat.le_refl _
  | k + 1, n, h => by
    have := lo4_le k _ h.2.2
    have h1 := h.1
    have h2 := h.2.1
    show n ≤ 68 + 256 * msk 68 k
    omega
theorem x_pop64 {x : Int64} {f : Nat → Bool} (hx : B64 x f) : f_J13_bitCount_95d88 x = some (nI (cnt f 64)) := by
  have hN := t64_lt x
  have h4 : (256 : Nat) ^ 8 = 2 ^ 64 := by decide
  have hc := (sps_eq 8 (t64 x)).trans (cnt_ext 64 (fun i hi => B64_tb hx i hi))
  unfold f_J13_bitCount_95d88
  have m1 : t64 6148914691236517205 = msk 85 8 := by decide
  have m2 : t64 3689348814741910323 = msk 51 8 := by decide
  have m3 : t64 1085102592571150095 = msk 15 8 := by decide
  have e1 : t64 (x - (((x.toUInt64 >>> ((Int32.toInt64 1).toUInt64 &&& Int64.toUInt64 63)).toInt64) &&& 6148914691236517205)) = dg s1 8 (t64 x) := by
    have g : t64 (((x.toUInt64 >>> ((Int32.toInt64 1).toUInt64 &&& Int64.toUInt64 63)).toInt64) &&& 6148914691236517205) = (t64 x >>> 1) &&& msk 85 8 := by rw [t64_and, t64_shr x (s := 1) (by decide), m1]
    rw [t64_sub, g, st1 (by omega)]
    rw [g, Nat.shiftRight_eq_div_pow]
    exact Nat.le_trans Nat.and_le_left (Nat.div_le_self _ _)
  generalize hy : x - (((x.toUInt64 >>> ((Int32.toInt64 1).toUInt64 &&& Int64.toUInt64 63)).toInt64) &&& 6148914691236517205) = y at e1
  have l2 := s12_lt 8 (t64 x)
  have e2 : t64 ((y &&& 3689348814741910323) + (((y.toUInt64 >>> ((Int32.toInt64 2).toUInt64 &&& Int64.toUInt64 63)).toInt64) &&& 3689348814741910323)) = dg s2 8 (dg s1 8 (t64 x)) := by
    rw [t64_add, t64_and, t64_and, t64_shr y (s := 2) (by decide), m2, e1, st2]
    omega
  generalize hz : (y &&& 3689348814741910323) + (((y.toUInt64 >>> ((Int32.toInt64 2).toUInt64 &&& Int64.toUInt64 63)).toInt64) &&& 3689348814741910323) = z at e2
  unfold b_J13_bitCount_95d88_24
  have hlo : lo4 8 (dg s2 8 (dg s1 8 (t64 x))) := by
    rw [dg_comp s1_lt]
    exact lo4_dg s2_lt 8 _
  have hpp := st123 (k := 8) (n := t64 x) (by omega)
  have hs3 := dg_s3 8 _ hlo
  have e3 : t64 ((z + ((z.toUInt64 >>> ((Int32.toInt64 4).toUInt64 &&& Int64.toUInt64 63)).toInt64)) &&& 1085102592571150095) = dg pop 8 (t64 x) := by
    rw [t64_and, t64_add, t64_shr z (s := 4) (by decide), m3, e2]
    rw [← hpp]
    have : dg s3 8 (dg s2 8 (dg s1 8 (t64 x))) = dg (fun y => (y + y >>> 4) &&& 15) 8 (dg s2 8 (dg s1 8 (t64 x))) := rfl
    rw [this, ← hs3]
    congr 1
    apply Nat.mod_eq_of_lt
    have h1 := lo4_le 8 _ hlo
    rw [Nat.shiftRight_eq_div_pow]
    have h2 : msk 68 8 = 4919131752989213764 := by decide
    omega
  generalize hw : (z + ((z.toUInt64 >>> ((Int32.toInt64 4).toUInt64 &&& Int64.toUInt64 63)).toInt64)) &&& 1085102592571150095 = w at e3
  unfold b_J13_bitCount_95d88_41
  have P : ∀ n, pop (n % 256) ≤ 8 := fun n => pop_le _ (by omega)
  have p0 := P (t64 x)
  have p1 := P (t64 x / 256)
  have p2 := P (t64 x / 256 / 256)
  have p3 := P (t64 x / 256 / 256 / 256)
  have p4 := P (t64 x / 256 / 256 / 256 / 256)
  have p5 := P (t64 x / 256 / 256 / 256 / 256 / 256)
  have p6 := P (t64 x / 256 / 256 / 256 / 256 / 256 / 256)
  have p7 := P (t64 x / 256 / 256 / 256 / 256 / 256 / 256 / 256)
  have e4 : dg pop 8 (t64 x) = pop (t64 x % 256) + 256 * (pop (t64 x / 256 % 256) + 256 * (pop (t64 x / 256 / 256 % 256) + 256 * (pop (t64 x / 256 / 256 / 256 % 256) + 256 * (pop (t64 x / 256 / 256 / 256 / 256 % 256) + 256 * (pop (t64 x / 256 / 256 / 256 / 256 / 256 % 256) + 256 * (pop (t64 x / 256 / 256 / 256 / 256 / 256 / 256 % 256) + 256 * (pop (t64 x / 256 / 256 / 256 / 256 / 256 / 256 / 256 % 256) + 256 * 0))))))) := rfl
  have e5 : sps 8 (t64 x) = pop (t64 x % 256) + (pop (t64 x / 256 % 256) + (pop (t64 x / 256 / 256 % 256) + (pop (t64 x / 256 / 256 / 256 % 256) + (pop (t64 x / 256 / 256 / 256 / 256 % 256) + (pop (t64 x / 256 / 256 / 256 / 256 / 256 % 256) + (pop (t64 x / 256 / 256 / 256 / 256 / 256 / 256 % 256) + (pop (t64 x / 256 / 256 / 256 / 256 / 256 / 256 / 256 % 256) + 0))))))) := rfl
  generalize pop (t64 x % 256) = a0 at *
  generalize pop (t64 x / 256 % 256) = a1 at *
  generalize pop (t64 x / 256 / 256 % 256) = a2 at *
  generalize pop (t64 x / 256 / 256 / 256 % 256) = a3 at *
  generalize pop (t64 x / 256 / 256 / 256 / 256 % 256) = a4 at *
  generalize pop (t64 x / 256 / 256 / 256 / 256 / 256 % 256) = a5 at *
  generalize pop (t64 x / 256 / 256 / 256 / 256 / 256 / 256 % 256) = a6 at *
  generalize pop (t64 x / 256 / 256 / 256 / 256 / 256 / 256 / 256 % 256) = a7 at *
  clear hs3 hpp hlo l2 m1 m2 m3 e1 e2 h4
  have f1 : t64 (w + ((w.toUInt64 >>> ((Int32.toInt64 8).toUInt64 &&& Int64.toUInt64 63)).toInt64)) = (a0 + a1) + 256 * ((a1 + a2) + 256 * ((a2 + a3) + 256 * ((a3 + a4) + 256 * ((a4 + a5) + 256 * ((a5 + a6) + 256 * ((a6 + a7) + 256 * a7)))))) := by
    rw [t64_add, t64_shr w (s := 8) (by decide), e3, e4, Nat.shiftRight_eq_div_pow]
    rw [show (2 : Nat) ^ 8 = 256 from rfl, Nat.add_mul_div_left _ _ (by decide), Nat.div_eq_of_lt (by omega)]
    rw [Nat.mod_eq_of_lt (by omega)]
    omega
  generalize hv : w + ((w.toUInt64 >>> ((Int32.toInt64 8).toUInt64 &&& Int64.toUInt64 63)).toInt64) = v at f1
  have f2 : t64 (v + ((v.toUInt64 >>> ((Int32.toInt64 16).toUInt64 &&& Int64.toUInt64 63)).toInt64)) = (a0 + a1 + a2 + a3) + 256 * ((a1 + a2 + a3 + a4) + 256 * ((a2 + a3 + a4 + a5) + 256 * ((a3 + a4 + a5 + a6) + 256 * ((a4 + a5 + a6 + a7) + 256 * ((a5 + a6 + a7) + 256 * ((a6 + a7) + 256 * a7)))))) := by
    rw [t64_add, t64_shr v (s := 16) (by decide), f1, Nat.shiftRight_eq_div_pow]
    rw [show (2 : Nat) ^ 16 = 256 * 256 from rfl, ← Nat.div_div_eq_div_mul, Nat.add_mul_div_left _ _ (by decide), Nat.div_eq_of_lt (a := a0 + a1) (by omega), Nat.zero_add, Nat.add_mul_div_left _ _ (by decide), Nat.div_eq_of_lt (a := a1 + a2) (by omega)]
    rw [Nat.mod_eq_of_lt (by omega)]
    omega
  generalize hu : v + ((v.toUInt64 >>> ((Int32.toInt64 16).toUInt64 &&& Int64.toUInt64 63)).toInt64) = u at f2
  have f3 : t64 (u + ((u.toUInt64 >>> ((Int32.toInt64 32).toUInt64 &&& Int64.toUInt64 63)).toInt64)) % 128 = a0 + a1 + a2 + a3 + a4 + a5 + a6 + a7 := by
    rw [t64_add, t64_shr u (s := 32) (by decide), f2, Nat.shiftRight_eq_div_pow]
    rw [show (2 : Nat) ^ 32 = 256 * 256 * 256 * 256 from rfl, ← Nat.div_div_eq_div_mul, ← Nat.div_div_eq_div_mul, ← Nat.div_div_eq_div_mul, Nat.add_mul_div_left _ _ (by decide), Nat.div_eq_of_lt (a := a0 + a1 + a2 + a3) (by omega), Nat.zero_add, Nat.add_mul_div_left _ _ (by decide), Nat.div_eq_of_lt (a := a1 + a2 + a3 + a4) (by omega), Nat.zero_add, Nat.add_mul_div_left _ _ (by decide), Nat.div_eq_of_lt (a := a2 + a3 + a4 + a5) (by omega), Nat.zero_add, Nat.add_mul_div_left _ _ (by decide), Nat.div_eq_of_lt (a := a3 + a4 + a5 + a6) (by omega), Nat.zero_add]
    rw [Nat.mod_mod_of_dvd _ (by decide : 128 ∣ 2 ^ 64)]
    have q2 : ∀ A B y z : Nat, A + 256 * y + (B + 256 * z) = (A + B) + 128 * (2 * (y + z)) := by intros; omega
    rw [q2, Nat.add_mul_mod_self_left]
    omega
  generalize hq : u + ((u.toUInt64 >>> ((Int32.toInt64 32).toUInt64 &&& Int64.toUInt64 63)).toInt64) = q at f3
  unfold b_J13_bitCount_95d88_55
  refine congrArg some (t32_inj ?_)
  rw [t32_and, show t32 127 = 2 ^ 7 - 1 by decide, Nat.and_two_pow_sub_one_eq_mod, t32_nI]
  · have e6 : t32 (Int64.toInt32 q) = t64 q % 2 ^ 32 := by
      unfold t32 t64
      rw [Int64.toBitVec_toInt32, BitVec.signExtend_eq_setWidth_of_le _ (by decide), BitVec.toNat_setWidth]
    rw [e6, show t64 q % 2 ^ 32 % 2 ^ 7 = t64 q % 128 by omega, f3, ← hc, e5]
    omega
  · have := cnt_le f 64
    omega
