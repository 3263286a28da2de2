/-! a cell changed -/
def sc (a : AS) (c v : Nat) : AS := fun k j => if k = 3 ∧ j = c then v else a k j
theorem sc_n (a : AS) (c v : Nat) {k : Nat} (j : Nat) (h : k ≠ 3) : sc a c v k j = a k j := if_neg (fun q => h q.1)
theorem sc_s (a : AS) (c v : Nat) : sc a c v 3 c = v := if_pos ⟨rfl, rfl⟩
theorem sc_o (a : AS) (c v : Nat) {j : Nat} (h : j ≠ c) : sc a c v 3 j = a 3 j := if_neg (fun q => h q.2)
theorem sc_val (a : AS) (c v j : Nat) : sc a c v 3 j = if j = c then v else a 3 j := by
  by_cases h : j = c
  · rw [if_pos h, h, sc_s]
  · rw [if_neg h, sc_o a c v h]
theorem sc_self (a : AS) (c : Nat) : sc a c (a 3 c) = a := by
  funext k j
  unfold sc
  split
  · rename_i h
    rw [h.1, h.2]
  · rfl
theorem sc_sc (a : AS) (c v w : Nat) : sc (sc a c v) c w = sc a c w := by
  funext k j
  unfold sc
  by_cases h : k = 3 ∧ j = c
  · rw [if_pos h, if_pos h]
  · rw [if_neg h, if_neg h, if_neg h]
theorem sc_comm (a : AS) {c c2 : Nat} (h : c ≠ c2) (v w : Nat) : sc (sc a c v) c2 w = sc (sc a c2 w) c v := by
  funext k j
  unfold sc
  by_cases h1 : k = 3 ∧ j = c
  · rw [if_neg (fun q => h (h1.2.symm.trans q.2)), if_pos h1, if_pos h1]
  · by_cases h2 : k = 3 ∧ j = c2
    · rw [if_pos h2, if_neg h1, if_pos h2]
    · rw [if_neg h2, if_neg h1, if_neg h1, if_neg h2]
theorem sc_inv {a : AS} (h : Inv a) {c v : Nat} (hc : c < 8 * a 0 0) (hv : v ≤ a 0 1) : Inv (sc a c v) := by
  have h' := h
  obtain ⟨i1, i2, i3, i4, i5, i6, i7, i8, i9, i10, i11, i12, i13, i14, i15, i16⟩ := h'
  refine ⟨i1, i2, i3, i4, i5, i6, i7, i8, i9, fun j hj => ?_, fun j hj hP => ?_, i12, i13, i14, i15, i16⟩
  · show sc a c v 3 j ≤ a 0 1
    rw [sc_val]
    split
    · exact hv
    · exact iv_val h j hj
  · have hP : 8 * a 0 0 ≤ j := hP
    show sc a c v 3 j = 0
    rw [sc_o _ _ _ (by omega)]
    exact iv_valP h j hj hP
theorem sc_vl (a : AS) (c v p d : Nat) : vl (sc a c v) p d = if 8 * p + d = c then v else vl a p d := sc_val a c v (8 * p + d)
theorem cnt_sc {a : AS} {c v d : Nat} (j : Nat) (hd : d < 8) : ∀ n, (cntS (sc a c v) d j n) + (if d = c % 8 ∧ c / 8 < n ∧ a 3 c = j + 1 then 1 else 0) = cntS a d j n + (if d = c % 8 ∧ c / 8 < n ∧ v = j + 1 then 1 else 0)
  | 0 => by
    rw [if_neg (fun q => by omega), if_neg (fun q => by omega)]
    rfl
  | n + 1 => by
    have ih := cnt_sc (a := a) (c := c) (v := v) j hd n
    show cntS (sc a c v) d j n + (if sc a c v 3 (8 * n + d) = j + 1 then 1 else 0) + _ = cntS a d j n + (if a 3 (8 * n + d) = j + 1 then 1 else 0) + _
    rw [sc_val]
    by_cases h : 8 * n + d = c
    · rw [if_pos h, h]
      have h1 : d = c % 8 := by omega
      have h2 : c / 8 = n := by omega
      rw [if_neg (fun q => by omega), if_neg (fun q => by omega)] at ih
      have ih : cntS (sc a c v) d j n = cntS a d j n := ih
      rw [ih]
      by_cases hv : v = j + 1
      · by_cases ha : a 3 c = j + 1
        · simp [h1, h2, hv, ha]
        · simp [h1, h2, hv, ha]
      · by_cases ha : a 3 c = j + 1
        · simp [h1, h2, hv, ha]
        · simp [h1, h2, hv, ha]
    · rw [if_neg h]
      have e : ∀ A : Prop, (d = c % 8 ∧ c / 8 < n + 1 ∧ A) ↔ (d = c % 8 ∧ c / 8 < n ∧ A) := by
        intro A
        constructor
        · rintro ⟨h1, h2, h3⟩
          exact ⟨h1, by omega, h3⟩
        · rintro ⟨h1, h2, h3⟩
          exact ⟨h1, by omega, h3⟩
      simp only [e]
      omega
theorem up_k (μ : Mem) (k j : Nat) (x : Int32) : (mu_up μ k j x).1 k = upd (μ.1 k) j x := if_pos rfl
/-- one more, or one less, on a shift of a day -/
def stf (f : Nat → Int32) (d v : Nat) (st : Int32) : Nat → Int32 := if v = 0 then f else upd f (3 * d + (v - 1)) (f (3 * d + (v - 1)) + st)
theorem x_countStaff (μ : Mem) {d v : Nat} (st : Int32) (hd : d < 8) (hv : v ≤ 3) : ∃ μ', f_X5_countStaff μ (nI d) (nI v - 1) st = some ((), μ') ∧ μ'.1 10 = stf (μ.1 10) d v st ∧ eqo [10] μ μ' := by
  unfold f_X5_countStaff stf
  by_cases h0 : v = 0
  · subst h0
    have e : f_X8_postOf (nI d) (nI 0 - 1) = some (-1) := by
      unfold f_X8_postOf
      rw [if_neg (gP (by omega)), if_neg (g8 hd), if_pos (by decide)]
    rw [e, sb, if_pos (by decide), if_pos rfl]
    exact ⟨μ, rfl, rfl, eqo_refl _ _⟩
  · rw [if_neg h0, x_v3 hv h0, x_postOf hd (by omega), sb, if_neg (gP (by omega)), if_neg (g24 (by omega)), if_pos (gI (by omega) (by decide)), if_pos (gI (by omega) (by decide)), nI_clamp (by omega)]
    refine ⟨_, rfl, ?_, eqo_up _ _ (by simp)⟩
    exact up_k μ 10 _ _
theorem stf_ne {f : Nat → Int32} {d v : Nat} {st : Int32} {i : Nat} (h : ¬ (v ≠ 0 ∧ i = 3 * d + (v - 1))) : stf f d v st i = f i := by
  unfold stf
  split
  · rfl
  · rename_i hv
    exact pk_un (fun e => h ⟨hv, e⟩)
theorem stf_eq {f : Nat → Int32} {d v : Nat} {st : Int32} {i : Nat} (h0 : v ≠ 0) (h : i = 3 * d + (v - 1)) : stf f d v st i = f i + st := by
  unfold stf
  rw [if_neg h0, h]
  exact pk_us
theorem x_put {a : AS} {μ : Mem} (h : Inv a) (r : repX a μ) {c v : Nat} (hc : c < 32) (hv : v ≤ 3) : ∃ μ', f_X5_put μ (nI c) (nI v) = some ((), μ') ∧ repX (sc a c v) μ' ∧ eqo [7, 10] μ μ' := by
  have hm : nI c - nI c / 8 * 8 = nI (c % 8) := pk_rem (a := c) (d := 8) (by omega) (by decide) (by decide)
  have hv0 : a 3 c ≤ 3 := Nat.le_trans (iv_val h c hc) (iv_S h)
  unfold f_X5_put
  rw [if_neg (gP (by omega)), if_neg (g32 hc), if_neg (gP (by omega)), if_pos (show nI v ≤ 3 from nI_le hv (by decide)), if_pos (gI hc (by decide)), nI_clamp (by omega), hm, rx_val r c hc]
  obtain ⟨μ1, e1, f1, q1⟩ := x_countStaff μ (-1) (show c % 8 < 8 by omega) hv0
  obtain ⟨μ3, e3, f3, q3⟩ := x_countStaff (mu_up μ1 7 c (nI v)) 1 (show c % 8 < 8 by omega) hv
  rw [e1, sb, if_pos (gI hc (by decide))]
  rw [e3]
  have q : eqo [7, 10] μ μ3 := eqo_trans (eqo_trans (eqo_sub q1 (by decide)) (eqo_up (K := [7, 10]) μ1 (nI v) (by decide))) (eqo_sub q3 (by decide))
  have g : ∀ k, k ≠ 7 → k ≠ 10 → μ3.1 k = μ.1 k := fun k h1 h2 => q.1 k (by simp [h1, h2])
  refine ⟨μ3, rfl, ?_, q⟩
  have s : ∀ k j, k ≠ 3 → sc a c v k j = a k j := fun k j hk => sc_n a c v j hk
  have f10 : μ3.1 10 = stf (stf (μ.1 10) (c % 8) (a 3 c) (-1)) (c % 8) v 1 := by
    rw [f3, up_n μ1 c (nI v) (by decide), f1]
  unfold repX
  rw [g 6 (by decide) (by decide), g 1 (by decide) (by decide), g 4 (by decide) (by decide), g 2 (by decide) (by decide), g 3 (by decide) (by decide), g 8 (by decide) (by decide), g 9 (by decide) (by decide), g 5 (by decide) (by decide), g 23 (by decide) (by decide), g 24 (by decide) (by decide), g 25 (by decide) (by decide)]
  have r' := r
  obtain ⟨j1, j2, j3, j4, j5, j6, j7, j8, j9, j10, j11, j12, j13, j14, j15, j16, j17, j18⟩ := r'
  refine ⟨j1, j2, j3, j4, j5, j6, j7, j8, j9, fun j hj => ?_, j11, j12, j13, fun d j hd hj => ?_, j15, j16, j17, fun k hk i h1 h2 => ?_⟩
  · rw [q3.1 7 (by decide), sc_val]
    by_cases hjc : j = c
    · rw [if_pos hjc, hjc, up_s]
    · rw [if_neg hjc, up_j _ _ _ hjc, q1.1 7 (by decide)]
      exact rx_val r j hj
  · rw [f10]
    have hcs := cnt_sc (a := a) (c := c) (v := v) j hd 4
    have hst := rx_staff r d j hd hj
    have hle := cntS_le a d j 4
    have hle2 := cntS_le (sc a c v) d j 4
    have hA : ((a 3 c ≠ 0 ∧ 3 * d + j = 3 * (c % 8) + (a 3 c - 1)) ↔ (d = c % 8 ∧ c / 8 < 4 ∧ a 3 c = j + 1)) := by omega
    have hB : ((v ≠ 0 ∧ 3 * d + j = 3 * (c % 8) + (v - 1)) ↔ (d = c % 8 ∧ c / 8 < 4 ∧ v = j + 1)) := by omega
    by_cases ho : d = c % 8 ∧ c / 8 < 4 ∧ a 3 c = j + 1
    · have e1 : stf (μ.1 10) (c % 8) (a 3 c) (-1) (3 * d + j) = nI (cntS a d j 4) + (-1) := by rw [stf_eq (hA.mpr ho).1 (hA.mpr ho).2, hst]
      rw [if_pos ho] at hcs
      by_cases hn : d = c % 8 ∧ c / 8 < 4 ∧ v = j + 1
      · rw [if_pos hn] at hcs
        rw [stf_eq (hB.mpr hn).1 (hB.mpr hn).2, e1, zI_n, zI_n, zm1, y1, zI_add, zI_add]
        congr 1
        omega
      · rw [if_neg hn] at hcs
        rw [stf_ne (fun x => hn (hB.mp x)), e1, zI_n, zI_n, zm1, zI_add]
        congr 1
        omega
    · have e1 : stf (μ.1 10) (c % 8) (a 3 c) (-1) (3 * d + j) = nI (cntS a d j 4) := by rw [stf_ne (fun x => ho (hA.mp x)), hst]
      rw [if_neg ho] at hcs
      by_cases hn : d = c % 8 ∧ c / 8 < 4 ∧ v = j + 1
      · rw [if_pos hn] at hcs
        rw [stf_eq (hB.mpr hn).1 (hB.mpr hn).2, e1, nI_1]
        congr 1
        omega
      · rw [if_neg hn] at hcs
        rw [stf_ne (fun x => hn (hB.mp x)), e1]
        congr 1
        omega
  · have : k ≠ 7 ∧ k ≠ 10 := by omega
    rw [g k this.1 this.2]
    exact rx_sb r k hk i h1 h2
theorem FD_fr {q : Nat} {a : AS} {μ μ' : Mem} (h : FD q a μ) {K : List Nat} (e : eqo K μ μ') (h1 : q ∉ K) (h2 : q + 1 ∉ K) : FD q a μ' := by
  refine ⟨fun p hp => ?_, ?_⟩
  · rw [e.2 (q + 1) h2]
    exact h.1 p hp
  · rw [e.1 q h1]
    exact h.2
theorem nI_sp (v : Nat) : nI v - 1 + 1 = nI v := by
  rw [zI_n, y1, zI_sub, zI_add]
  congr 1
  omega
/-- two persons' cells exchanged -/
def xc (a : AS) (p o d : Nat) : AS := sc (sc a (8 * p + d) (vl a o d)) (8 * o + d) (vl a p d)
theorem vl_leS {a : AS} (h : Inv a) {p d : Nat} (hp : p < 4) (hd : d < 8) : vl a p d ≤ a 0 1 := iv_val h _ (cellB hp hd)
theorem xc_inv {a : AS} (h : Inv a) {p o d : Nat} (hp : p < a 0 0) (ho : o < a 0 0) (hd : d < 8) : Inv (xc a p o d) := by
  have hP := iv_P h
  exact sc_inv (sc_inv h (by omega) (vl_leS h (by omega) hd)) (show _ < 8 * a 0 0 by omega) (vl_leS h (by omega) hd)
theorem xc_xc (a : AS) {p o d : Nat} (h : p ≠ o) : xc (xc a p o d) p o d = a := by
  have e1 : vl (xc a p o d) p d = vl a o d := by
    show xc a p o d 3 (8 * p + d) = _
    unfold xc
    rw [sc_o _ _ _ (by omega), sc_s]
  have e2 : vl (xc a p o d) o d = vl a p d := sc_s _ _ _
  have e3 : xc (xc a p o d) p o d = sc (sc (xc a p o d) (8 * p + d) (vl a p d)) (8 * o + d) (vl a o d) := by
    rw [← e1, ← e2]
    rfl
  rw [e3]
  unfold xc
  rw [sc_comm (c := 8 * o + d) (c2 := 8 * p + d) _ (by omega), sc_sc, sc_sc]
  show sc (sc a (8 * p + d) (a 3 (8 * p + d))) (8 * o + d) (a 3 (8 * o + d)) = a
  rw [sc_self]
  exact sc_self a (8 * o + d)
theorem x_exchange {a : AS} {μ : Mem} (h : Inv a) (r : repX a μ) {p o d : Nat} (hp : p < a 0 0) (ho : o < a 0 0) (hd : d < 8) : ∃ μ', f_X5_exchange μ (nI p) (nI o) (nI d) = some ((), μ') ∧ repX (xc a p o d) μ' ∧ eqo [7, 10] μ μ' := by
  have hP := iv_P h
  have hp4 : p < 4 := by omega
  have ho4 : o < 4 := by omega
  obtain ⟨μ1, e1, r1, q1⟩ := x_put h r (cellB hp4 hd) (vl_le h ho4 hd)
  obtain ⟨μ2, e2, r2, q2⟩ := x_put (sc_inv h (show 8 * p + d < 8 * a 0 0 by omega) (vl_leS h ho4 hd)) r1 (cellB ho4 hd) (vl_le h hp4 hd)
  refine ⟨μ2, ?_, r2, eqo_trans q1 q2⟩
  unfold f_X5_exchange
  rw [x_shiftAt h r hp4 hd, sb, x_shiftAt h r ho4 hd, sb, x_cellOf hp4 hd, sb, nI_sp, e1, sb, x_cellOf ho4 hd, sb, nI_sp, e2]
  rfl
