/-! the class: how many breaches there are -/
theorem bt_k {a : AS} {k p d : Nat} (hk : k < 6) (hp : p < 4) (hd : d < 8) : bt a (32 * k + 8 * p + d) = brk a k p d := by
  unfold bt
  rw [if_pos (by omega), show (32 * k + 8 * p + d) / 32 = k by omega, show (32 * k + 8 * p + d) / 8 % 4 = p by omega, show (32 * k + 8 * p + d) % 8 = d by omega]
theorem bt_s {a : AS} {i : Nat} (hi : i < 24) : bt a (192 + i) = shB a i := by
  unfold bt shB
  rw [if_neg (by omega), show 192 + i - 192 = i by omega, decide_eq_true hi]
  rfl
theorem cnt_k (a : AS) {k p : Nat} (hk : k < 6) (hp : p < 4) {n : Nat} (hn : n ≤ 8) : cnt (bt a) (32 * k + 8 * p + n) = cnt (bt a) (32 * k + 8 * p) + cnt (brk a k p) n := by
  rw [cnt_app]
  congr 1
  exact cnt_ext n (fun i hi => bt_k hk hp (by omega))
theorem cnt_s (a : AS) {n : Nat} (hn : n ≤ 24) : cnt (bt a) (192 + n) = cnt (bt a) 192 + cnt (shB a) n := by
  rw [cnt_app]
  congr 1
  exact cnt_ext n (fun i hi => bt_s (by omega))
theorem cnt_no {f : Nat → Bool} {m : Nat} (h : ∀ i, m ≤ i → f i = false) : ∀ n, cnt f (m + n) = cnt f m
  | 0 => rfl
  | n + 1 => by
    rw [← Nat.add_assoc, cnt_succ, h (m + n) (by omega), cnt_no h n]
    rfl
theorem cnt_row (a : AS) (p : Nat) : cnt (rwb a p) 64 = cnt (brk a 0 p) 8 + cnt (brk a 1 p) 8 + cnt (brk a 2 p) 8 + cnt (brk a 3 p) 8 + cnt (brk a 4 p) 8 + cnt (brk a 5 p) 8 := by
  have h0 := cnt_no (f := rwb a p) (m := 48) (fun i hi => by unfold rwb; rw [decide_eq_false (by omega)]; rfl) 16
  have g : ∀ k, k < 6 → cnt (rwb a p) (8 * k + 8) = cnt (rwb a p) (8 * k) + cnt (brk a k p) 8 := by
    intro k hk
    rw [cnt_app]
    congr 1
    refine cnt_ext 8 (fun i hi => ?_)
    show rwb a p (8 * k + i) = _
    unfold rwb
    rw [decide_eq_true (by omega), show (8 * k + i) / 8 = k by omega, show (8 * k + i) % 8 = i by omega]
    rfl
  have g0 := g 0 (by omega)
  have g1 := g 1 (by omega)
  have g2 := g 2 (by omega)
  have g3 := g 3 (by omega)
  have g4 := g 4 (by omega)
  have g5 := g 5 (by omega)
  have z : cnt (rwb a p) (8 * 0) = 0 := cnt_0 _
  have e1 : 8 * 0 + 8 = 8 * 1 := rfl
  have e2 : 8 * 1 + 8 = 8 * 2 := rfl
  have e3 : 8 * 2 + 8 = 8 * 3 := rfl
  have e4 : 8 * 3 + 8 = 8 * 4 := rfl
  have e5 : 8 * 4 + 8 = 8 * 5 := rfl
  have e6 : 8 * 5 + 8 = 48 := rfl
  have e7 : 48 + 16 = 64 := rfl
  rw [e1] at g0
  rw [e2] at g1
  rw [e3] at g2
  rw [e4] at g3
  rw [e5] at g4
  rw [e6] at g5
  rw [e7] at h0
  omega
theorem cnt_32 (a : AS) {k : Nat} (hk : k < 6) : cnt (bt a) (32 * (k + 1)) = cnt (bt a) (32 * k) + cnt (brk a k 0) 8 + cnt (brk a k 1) 8 + cnt (brk a k 2) 8 + cnt (brk a k 3) 8 := by
  have g0 := cnt_k a (k := k) (p := 0) hk (by omega) (Nat.le_refl 8)
  have g1 := cnt_k a (k := k) (p := 1) hk (by omega) (Nat.le_refl 8)
  have g2 := cnt_k a (k := k) (p := 2) hk (by omega) (Nat.le_refl 8)
  have g3 := cnt_k a (k := k) (p := 3) hk (by omega) (Nat.le_refl 8)
  have e1 : 32 * k + 8 * 0 + 8 = 32 * k + 8 * 1 := by omega
  have e2 : 32 * k + 8 * 1 + 8 = 32 * k + 8 * 2 := by omega
  have e3 : 32 * k + 8 * 2 + 8 = 32 * k + 8 * 3 := by omega
  have e4 : 32 * k + 8 * 3 + 8 = 32 * (k + 1) := by omega
  have e0 : 32 * k + 8 * 0 = 32 * k := by omega
  rw [e1, e0] at g0
  rw [e2] at g1
  rw [e3] at g2
  rw [e4] at g3
  omega
theorem cnt_192 (a : AS) : cnt (bt a) 192 = cnt (rwb a 0) 64 + cnt (rwb a 1) 64 + cnt (rwb a 2) 64 + cnt (rwb a 3) 64 := by
  have h0 := cnt_32 a (k := 0) (by omega)
  have h1 := cnt_32 a (k := 1) (by omega)
  have h2 := cnt_32 a (k := 2) (by omega)
  have h3 := cnt_32 a (k := 3) (by omega)
  have h4 := cnt_32 a (k := 4) (by omega)
  have h5 := cnt_32 a (k := 5) (by omega)
  rw [cnt_row, cnt_row, cnt_row, cnt_row]
  have z : cnt (bt a) (32 * 0) = 0 := cnt_0 _
  have e0 : 32 * (0 + 1) = 32 * 1 := rfl
  have e1 : 32 * (1 + 1) = 32 * 2 := rfl
  have e2 : 32 * (2 + 1) = 32 * 3 := rfl
  have e3 : 32 * (3 + 1) = 32 * 4 := rfl
  have e4 : 32 * (4 + 1) = 32 * 5 := rfl
  have e5 : 32 * (5 + 1) = 192 := rfl
  rw [e0] at h0
  rw [e1] at h1
  rw [e2] at h2
  rw [e3] at h3
  rw [e4] at h4
  rw [e5] at h5
  omega
theorem cnt_sh32 (a : AS) : cnt (shB a) 32 = cnt (shB a) 24 := cnt_no (f := shB a) (m := 24) (fun i hi => by unfold shB; rw [decide_eq_false (by omega)]; rfl) 8
/-- how many breaches the roster has -/
noncomputable def nB (a : AS) : Nat := cnt (bt a) 216
theorem nB_eq (a : AS) : nB a = cnt (shB a) 32 + cnt (rwb a 0) 64 + cnt (rwb a 1) 64 + cnt (rwb a 2) 64 + cnt (rwb a 3) 64 := by
  have h1 := cnt_s a (Nat.le_refl 24)
  have h2 := cnt_192 a
  have h3 := cnt_sh32 a
  unfold nB
  show cnt (bt a) (192 + 24) = _
  omega
theorem nB_le (a : AS) : nB a ≤ 216 := cnt_le _ _
theorem x_size {q : Nat} {a : AS} {μ : Mem} (h : FD q a μ) : f_X2_size q μ = some (nI (nB a)) := by
  unfold f_X2_size
  rw [x_pop32 h.2, sb, rv_seal]
  have key := lq (B_X2_size_10 q μ) (fun _ _ => none) (fun i g => g (nI (cnt (shB a) 32 + ps (fun p => cnt (rwb a p) 64) i)) (nI i)) (some (nI (nB a))) 4 ?_ ?_ 300 0 (by omega) (by omega)
  · exact key
  · intro i L hi
    show B_X2_size_10 q μ L _ _ = _
    unfold B_X2_size_10
    rw [if_neg (by rw [y4, zI_n, zI_le (by omega) (by omega) (by omega) (by omega)]; omega), if_pos (by rw [zI_n, zI_in (by omega) (by omega)]; exact decide_eq_true (by omega)), nI_clamp (by omega), x_pop64 (h.1 i hi), sb, nI_1, nI_add]
    rw [Nat.add_assoc]
    rfl
  · intro L
    show B_X2_size_10 q μ L _ _ = _
    unfold B_X2_size_10
    rw [if_pos (by decide), nB_eq]
    show some (nI (cnt (shB a) 32 + (0 + cnt (rwb a 0) 64 + cnt (rwb a 1) 64 + cnt (rwb a 2) 64 + cnt (rwb a 3) 64))) = _
    congr 2
    omega
