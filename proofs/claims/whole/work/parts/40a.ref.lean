/-! the reference: the small functions -/
def scr (k j : Nat) : Prop := (k = 0 ∧ (j = 0 ∨ j = 14)) ∨ (7 ≤ k ∧ k ≤ 13)
/-- the two memories of the reference are alike but for what is found anew in each call -/
def fr (ν ν' : Mem) : Prop := ∀ k j, ¬ scr k j → ν'.1 k j = ν.1 k j
theorem fr_refl (ν : Mem) : fr ν ν := fun _ _ _ => rfl
theorem fr_trans {ν ν1 ν2 : Mem} (h1 : fr ν ν1) (h2 : fr ν1 ν2) : fr ν ν2 := fun k j h => (h2 k j h).trans (h1 k j h)
theorem fr_up (ν : Mem) {k j : Nat} (x : Int32) (h : scr k j) : fr ν (mu_up ν k j x) := by
  intro k2 j2 h2
  by_cases e : k2 = k
  · subst e
    by_cases e2 : j2 = j
    · subst e2
      exact absurd h h2
    · exact up_j ν k2 x e2
  · rw [up_n ν j x e]
theorem rm_fr {a : AS} {ν ν' : Mem} (r : repM a ν) (f : fr ν ν') : repM a ν' := by
  obtain ⟨j1, j2, j3, j4, j5, j6, j7, j8, j9, j10, j11, j12, j13, j14, j15, j16⟩ := r
  have g : ∀ k j, 1 ≤ k → k ≤ 6 → ν'.1 k j = ν.1 k j := fun k j h1 h2 => f k j (by unfold scr; omega)
  have g' : ∀ k j, 14 ≤ k → ν'.1 k j = ν.1 k j := fun k j h1 => f k j (by unfold scr; omega)
  have g0 : ∀ j, j ≠ 0 → j ≠ 14 → ν'.1 0 j = ν.1 0 j := fun j h1 h2 => f 0 j (by unfold scr; omega)
  refine ⟨?_, ?_, ?_, ?_, ?_, ?_, ?_, fun j h => ?_, fun j h => ?_, fun j h => ?_, fun j h => ?_, fun j h => ?_, fun j h => ?_, ?_, fun j h => ?_, fun j h => ?_⟩
  · rw [g0 _ (by decide) (by decide)]; exact j1
  · rw [g0 _ (by decide) (by decide)]; exact j2
  · rw [g0 _ (by decide) (by decide)]; exact j3
  · rw [g0 _ (by decide) (by decide)]; exact j4
  · rw [g0 _ (by decide) (by decide)]; exact j5
  · rw [g0 _ (by decide) (by decide)]; exact j6
  · rw [g0 _ (by decide) (by decide)]; exact j7
  · rw [g _ _ (by decide) (by decide)]; exact j8 j h
  · rw [g _ _ (by decide) (by decide)]; exact j9 j h
  · rw [g _ _ (by decide) (by decide)]; exact j10 j h
  · rw [g _ _ (by decide) (by decide)]; exact j11 j h
  · rw [g _ _ (by decide) (by decide)]; exact j12 j h
  · rw [g _ _ (by decide) (by decide)]; exact j13 j h
  · rw [g0 _ (by decide) (by decide)]; exact j14
  · rw [g' _ _ (by decide)]; exact j15 j h
  · rw [g' _ _ (by decide)]; exact j16 j h
theorem i8 (p d : Nat) : 8 * nI p + nI d = nI (8 * p + d) := by
  rw [show (8 : Int32) = nI 8 from rfl, pk_mul, nI_add]
theorem i3 (p d : Nat) : 3 * nI p + nI d = nI (3 * p + d) := by
  rw [show (3 : Int32) = nI 3 from rfl, pk_mul, nI_add]
theorem m_at {a : AS} {ν : Mem} (r : repM a ν) {p d : Nat} (hp : p < 4) (hd : d < 8) : f_X9_at ν (nI p) (nI d) = some (nI (vl a p d) - 1) := by
  unfold f_X9_at
  rw [i8, if_pos (gI (cellB hp hd) (by decide)), nI_clamp (by omega), rm_val r _ (cellB hp hd)]
  rfl
theorem m_nightS {a : AS} {ν : Mem} (h : Inv a) (r : repM a ν) {v : Nat} (hv : v ≤ 3) (h0 : v ≠ 0) : f_X9_isNightShift ν (nI v - 1) = some (bI (isN a v)) := by
  have e1 := iv_st h (v - 1) (by omega)
  have e2 := iv_len h (v - 1) (by omega)
  unfold f_X9_isNightShift isN
  rw [x_v3 hv h0, if_pos (gI (by omega) (by decide)), if_pos (gI (by omega) (by decide)), nI_clamp (by omega), rm_st r _ (by omega), rm_len r _ (by omega), nI_add]
  refine ifb some ?_
  rw [show (1620 : Int32) = nI 1620 from rfl, nI_leI (by omega) (by omega)]
  simp [h0]
theorem m_last {a : AS} {ν : Mem} (h : Inv a) (r : repM a ν) {p d : Nat} (hp : p < 4) (hd : d < 8) : f_X9_lastBefore ν (nI p) (nI d) = some (zI ((lw (wd a p) d : Int) - 1)) := by
  unfold f_X9_lastBefore
  rw [rv_seal]
  have key := lp (B_X9_lastBefore_4 ν (nI p)) (fun _ => none) (σ := Nat) (fun s g => g (zI ((d : Int) - 1 - s))) (fun i s => s = i ∧ lw (wd a p) d = lw (wd a p) (d - i)) (fun x => x = some (zI ((lw (wd a p) d : Int) - 1))) d ?_ ?_ 300 0 0 (by omega) (by omega) ⟨rfl, rfl⟩
  · have e : nI d - 1 = zI ((d : Int) - 1 - (0 : Nat)) := by
      rw [zI_n, y1, zI_sub]
      congr 1
      omega
    rw [e]
    exact key
  · rintro i s hi ⟨rfl, hl⟩
    have e1 : d - s = (d - 1 - s) + 1 := by omega
    have ez : zI ((d : Int) - 1 - s) = nI (d - 1 - s) := by
      rw [zI_n]
      congr 1
      omega
    have el : lw (wd a p) (d - s) = if wd a p (d - 1 - s) = true then d - 1 - s + 1 else lw (wd a p) (d - 1 - s) := by rw [e1]; rfl
    by_cases hw : wd a p (d - 1 - s) = true
    · rw [if_pos hw] at el
      refine .inl fun L => ?_
      show B_X9_lastBefore_4 ν (nI p) L (zI ((d : Int) - 1 - s)) = _
      unfold B_X9_lastBefore_4
      rw [ez, if_neg (gP (by omega)), m_at r hp (by omega), sb, if_neg (fun q => by rw [(x_wd h hp (by omega)).mp q] at hw; cases hw), hl, el, zI_n]
      congr 2
      omega
    · rw [if_neg hw] at el
      refine .inr ⟨s + 1, ⟨rfl, by rw [hl, el, show d - (s + 1) = d - 1 - s by omega]⟩, fun L => ?_⟩
      show B_X9_lastBefore_4 ν (nI p) L (zI ((d : Int) - 1 - s)) = L (zI ((d : Int) - 1 - (s + 1 : Nat)))
      unfold B_X9_lastBefore_4
      rw [ez, if_neg (gP (by omega)), m_at r hp (by omega), sb, if_pos ((x_wd h hp (by omega)).mpr (by simpa using hw)), zI_n, zm1, zI_add]
      congr 2
      omega
  · rintro s ⟨rfl, hl⟩ L
    show B_X9_lastBefore_4 ν (nI p) L (zI ((s : Int) - 1 - s)) = _
    unfold B_X9_lastBefore_4
    have e0 : lw (wd a p) (s - s) = 0 := by rw [Nat.sub_self]; rfl
    rw [show (s : Int) - 1 - s = -1 by omega, if_pos (by decide), hl, e0]
    rfl
theorem m_minB {a : AS} {ν : Mem} (h : Inv a) (r : repM a ν) {p d : Nat} (hp : p < 4) (hd : d < 8) (hw : vl a p d ≠ 0) (hl : lw (wd a p) d ≠ 0) : f_X9_minutesBefore ν (nI p) (nI d) = some (zI (rsI a p d)) := by
  have hv := vl_le h hp hd
  have hlp := lw_pos d hl
  have hv2 := vl_le h hp (show lw (wd a p) d - 1 < 8 by omega)
  have hw2 : vl a p (lw (wd a p) d - 1) ≠ 0 := of_decide_eq_true hlp.1
  have ez : zI ((lw (wd a p) d : Int) - 1) = nI (lw (wd a p) d - 1) := by
    rw [zI_n]
    congr 1
    omega
  unfold f_X9_minutesBefore
  rw [m_last h r hp hd, sb, m_at r hp hd, sb, ez, m_at r hp (by omega), x_v3 hv hw, x_v3 hv2 hw2, if_pos (gI (by omega) (by decide)), sb, if_pos (gI (by omega) (by decide)), sb, if_pos (gI (by omega) (by decide)), nI_clamp (by omega), nI_clamp (by omega), rm_st r _ (by omega), rm_st r _ (by omega), rm_len r _ (by omega)]
  unfold rsI enI ln stV lnV
  rw [if_neg hw, if_neg hw2, if_neg hw2]
  simp only [zI_n, y1440, zI_sub, zI_mul, zI_add]
  congr 2
  omega
theorem m_restS {a : AS} {ν : Mem} (h : Inv a) (r : repM a ν) {p d : Nat} (hp : p < 4) (hd : d < 8) : f_X9_isRestShort ν (nI p) (nI d) = some (bI (brk a 2 p d)) := by
  have hl := lw_le (wd a p) d
  have hbk : brk a 2 p d = decide (vl a p d ≠ 0 ∧ lw (wd a p) d ≠ 0 ∧ rsI a p d < a 0 2) := rfl
  have h2 := iv_rest h
  unfold f_X9_isRestShort
  rw [m_at r hp hd, sb, hbk]
  by_cases hw : vl a p d = 0
  · rw [if_pos (by rw [hw]; rfl), decide_eq_false (fun q => q.1 hw)]
    rfl
  · rw [if_neg (by rw [x_v3 (vl_le h hp hd) hw, q_m1 (by have := vl_le h hp hd; omega)]; exact id), m_last h r hp hd, sb]
    by_cases h0 : lw (wd a p) d = 0
    · rw [if_pos (by rw [h0]; rfl), decide_eq_false (fun q => q.2.1 h0)]
      rfl
    · rw [if_neg (by rw [zm1, zI_eq (by omega) (by omega) (by omega) (by omega)]; omega), m_minB h r hp hd hw h0, sb, rm_rest r]
      have b1 := stV_lt h (vl_le h hp hd)
      have b2 := enI_b h hp (show lw (wd a p) d - 1 < 8 by omega)
      have b3 : rsI a p d = 1440 * (d : Int) + stV a (vl a p d) - enI a p (lw (wd a p) d - 1) := rfl
      refine ifb some ?_
      rw [zI_n, zI_le (by omega) (by omega) (by omega) (by omega), decide_eq_false_iff_not]
      constructor
      · intro q1 q2
        omega
      · intro q1
        have : ¬ rsI a p d < a 0 2 := fun q2 => q1 ⟨hw, h0, q2⟩
        omega
/-- what a row of the reference counts: nights, or days worked -/
def nw (a : AS) (b : Bool) (p : Nat) : Nat → Bool := if b = true then ng a p else wd a p
theorem rv_bzI (b : Bool) : rv_bz (bI b) = true := by cases b <;> decide
theorem m_isRow {a : AS} {ν : Mem} (h : Inv a) (r : repM a ν) {p d m : Nat} (hp : p < 4) (hd : d < 8) (hm : m ≤ 8) (b : Bool) : f_X9_isRow ν (nI p) (nI d) (nI m) (bI b) = some (bI (decide (m < rl (nw a b p) (d + 1)))) := by
  unfold f_X9_isRow
  have hrl := rl_le (nw a b p) (d + 1)
  by_cases hdm : d < m
  · rw [if_pos (nI_lt hdm (by omega)), decide_eq_false (by omega)]
    unfold b_X9_isRow_10
    rw [rv_seal, rv_ls_s]
    unfold B_X9_isRow_17
    rw [if_pos rfl, if_pos (by decide)]
    rfl
  · rw [if_neg (nI_nlt (by omega) (by omega))]
    unfold b_X9_isRow_10
    rw [rv_seal]
    have hiff : ∀ (x : Bool), (x = true ↔ ∀ j, d - m ≤ j → j < d + 1 → nw a b p j = true) → x = decide (m < rl (nw a b p) (d + 1)) := by
      intro x hx
      rw [Bool.eq_iff_iff, hx, decide_eq_true_eq]
      have := rl_iff (nw a b p) (d + 1) (m + 1)
      rw [show d + 1 - (m + 1) = d - m by omega] at this
      constructor
      · intro q
        exact this.mpr ⟨by omega, q⟩
      · intro q
        exact (this.mp q).2
    have key := lp (B_X9_isRow_17 ν (nI p) (nI d) (bI b)) (fun _ _ => none) (σ := Nat × Bool) (fun s g => g (bI s.2) (nI s.1)) (fun i s => s.1 = i ∧ d - m ≤ i ∧ (s.2 = true ↔ ∀ j, d - m ≤ j → j < i → nw a b p j = true)) (fun x => x = some (bI (decide (m < rl (nw a b p) (d + 1))))) (d + 1) ?_ ?_ 300 (d - m) (d - m, true) (by omega) (by omega) ⟨rfl, Nat.le_refl _, ⟨fun _ j h1 h2 => by omega, fun _ => rfl⟩⟩
    · have e : nI d - nI m = nI (d - m) := pk_sub (by omega)
      rw [e]
      exact key
    · rintro i ⟨e, x⟩ hi ⟨rfl, h1, hx⟩
      have hi : e < d + 1 := hi
      have hx : x = true ↔ ∀ j, d - m ≤ j → j < e → nw a b p j = true := hx
      have h1 : d - m ≤ e := h1
      have hve := vl_le h hp (show e < 8 by omega)
      cases hxx : x
      · refine .inl fun L => ?_
        show B_X9_isRow_17 ν (nI p) (nI d) (bI b) L (bI false) (nI e) = _
        unfold B_X9_isRow_17
        rw [if_pos (by decide), if_pos (by decide), ← hiff false ?_]
        constructor
        · intro q
          cases q
        · intro q
          rw [← hxx]
          exact hx.mpr (fun j h2 h3 => q j h2 (by omega))
      · have hx' := hx.mp hxx
        refine .inr ⟨(e + 1, nw a b p e), ⟨rfl, by show d - m ≤ e + 1; omega, ⟨fun q j h2 h3 => ?_, fun q => q e h1 (by show e < e + 1; omega)⟩⟩, fun L => ?_⟩
        · have h3 : j < e + 1 := h3
          by_cases h4 : j = e
          · rw [h4]
            exact q
          · exact hx' j h2 (by omega)
        · show B_X9_isRow_17 ν (nI p) (nI d) (bI b) L (bI true) (nI e) = L (bI (nw a b p e)) (nI (e + 1))
          unfold B_X9_isRow_17
          rw [if_neg (by decide), if_neg (nI_nlt (by omega) (by omega)), m_at r hp (by omega), sb]
          unfold b_X9_isRow_62 b_X9_isRow_63
          rw [nI_1]
          by_cases hw : vl a p e = 0
          · rw [if_pos (by rw [hw]; rfl)]
            have : nw a b p e = false := by
              unfold nw
              cases b
              · show decide (vl a p e ≠ 0) = false
                simp [hw]
              · show isN a (vl a p e) = false
                unfold isN
                simp [hw]
            rw [this]
            rfl
          · rw [if_neg (by rw [x_v3 hve hw, q_m1 (by omega)]; exact id)]
            cases b
            · rw [if_pos (by decide)]
              have : nw a false p e = true := decide_eq_true hw
              rw [this]
              rfl
            · rw [if_neg (by decide), sb, m_nightS h r hve hw, sb]
              have : nw a true p e = isN a (vl a p e) := rfl
              rw [this]
              exact ifb (fun z => L z (nI (e + 1))) bI_0
    · rintro ⟨e, x⟩ ⟨he, h1, hx⟩ L
      have he : e = d + 1 := he
      subst he
      show B_X9_isRow_17 ν (nI p) (nI d) (bI b) L (bI x) (nI (d + 1)) = _
      unfold B_X9_isRow_17
      rw [← hiff x hx, if_pos (rv_bzI x), if_pos (nI_lt (by omega) (by omega))]
      split
      · rfl
      · rfl
theorem m_sum {a : AS} {ν : Mem} (h : Inv a) (r : repM a ν) {p d s : Nat} (hp : p < 4) (hds : d + s ≤ 8) : f_X9_sumFrom ν (nI p) (nI d) (nI s) = some (nI (ps (ln a p) (d + s) - ps (ln a p) d)) := by
  unfold f_X9_sumFrom
  rw [rv_seal]
  have key := lq (B_X9_sumFrom_6 ν (nI p) (nI d) (nI s)) (fun _ _ => none) (fun i g => g (nI (ps (ln a p) i - ps (ln a p) d)) (nI i)) (some (nI (ps (ln a p) (d + s) - ps (ln a p) d))) (d + s)
  have key2 : ∀ i L, d ≤ i → i < d + s → B_X9_sumFrom_6 ν (nI p) (nI d) (nI s) L (nI (ps (ln a p) i - ps (ln a p) d)) (nI i) = L (nI (ps (ln a p) (i + 1) - ps (ln a p) d)) (nI (i + 1)) := by
    intro i L h1 h2
    have hv := vl_le h hp (show i < 8 by omega)
    have hm := ps_mono (ln a p) h1
    have es : ps (ln a p) (i + 1) = ps (ln a p) i + ln a p i := rfl
    unfold B_X9_sumFrom_6
    rw [nI_add, if_neg (nI_ge (by omega) (by omega)), m_at r hp (by omega), sb]
    unfold b_X9_sumFrom_43
    rw [nI_1]
    by_cases hw : vl a p i = 0
    · have e0 : ln a p i = 0 := by unfold ln lnV; rw [if_pos hw]
      rw [if_pos (by rw [hw]; rfl), show (0 : Int32) = nI 0 from rfl, nI_add, es, e0]
      rfl
    · have e0 : ln a p i = a 2 (vl a p i - 1) := by unfold ln lnV; rw [if_neg hw]
      rw [if_neg (by rw [x_v3 hv hw, q_m1 (by omega)]; exact id), sb, x_v3 hv hw, if_pos (gI (by omega) (by decide)), nI_clamp (by omega), rm_len r _ (by omega), nI_add, es, e0]
      congr 2
      omega
  have key3 := lp (B_X9_sumFrom_6 ν (nI p) (nI d) (nI s)) (fun _ _ => none) (σ := Nat) (fun i g => g (nI (ps (ln a p) i - ps (ln a p) d)) (nI i)) (fun i t => t = i ∧ d ≤ i) (fun x => x = some (nI (ps (ln a p) (d + s) - ps (ln a p) d))) (d + s) ?_ ?_ 300 d d (by omega) (by omega) ⟨rfl, Nat.le_refl _⟩
  · rw [Nat.sub_self] at key3
    exact key3
  · rintro i t hi ⟨rfl, h1⟩
    exact .inr ⟨t + 1, ⟨rfl, by omega⟩, fun L => key2 t L h1 hi⟩
  · rintro t ⟨rfl, h1⟩ L
    show B_X9_sumFrom_6 ν (nI p) (nI d) (nI s) L _ (nI (d + s)) = _
    unfold B_X9_sumFrom_6
    rw [nI_add, if_pos (nI_le (Nat.le_refl _) (by omega))]
theorem cntS_P {a : AS} (h : Inv a) {d j : Nat} (hd : d < 8) : cntS a d j 4 = cntS a d j (a 0 0) := by
  have hP := iv_P h
  have g : ∀ n, a 0 0 + n ≤ 4 → cntS a d j (a 0 0 + n) = cntS a d j (a 0 0) := by
    intro n
    induction n with
    | zero => intro _; rfl
    | succ n ih =>
      intro hn
      rw [← ih (by omega)]
      show cntS a d j (a 0 0 + n) + (if a 3 (8 * (a 0 0 + n) + d) = j + 1 then 1 else 0) = _
      rw [iv_valP h _ (by omega) (by omega), if_neg (by omega)]
      rfl
  have := g (4 - a 0 0) (by omega)
  rw [show a 0 0 + (4 - a 0 0) = 4 by omega] at this
  exact this
theorem m_onShift {a : AS} {ν : Mem} (h : Inv a) (r : repM a ν) {d j : Nat} (hd : d < 8) (hj : j < 3) : f_X9_onShift ν (nI d) (nI j) = some (nI (cntS a d j 4)) := by
  have hP := iv_P h
  unfold f_X9_onShift
  rw [rv_seal, cntS_P h hd]
  have key := lq (B_X9_onShift_5 ν (nI d) (nI j)) (fun _ _ => none) (fun i g => g (nI (cntS a d j i)) (nI i)) (some (nI (cntS a d j (a 0 0)))) (a 0 0) ?_ ?_ 300 0 (by omega) (by omega)
  · exact key
  · intro i L hi
    have hv := vl_le h (show i < 4 by omega) hd
    show B_X9_onShift_5 ν (nI d) (nI j) L (nI (cntS a d j i)) (nI i) = L (nI (cntS a d j i + if a 3 (8 * i + d) = j + 1 then 1 else 0)) (nI (i + 1))
    unfold B_X9_onShift_5
    rw [rm_P r, if_neg (nI_ge hi (by omega)), m_at r (by omega) hd, sb]
    unfold b_X9_onShift_31
    rw [nI_1]
    have e : (nI (vl a i d) - 1 = nI j) ↔ a 3 (8 * i + d) = j + 1 := by
      show _ ↔ vl a i d = j + 1
      by_cases hw : vl a i d = 0
      · rw [hw]
        constructor
        · intro q
          have q2 : nI j = -1 := q.symm
          rw [q_m1 (by omega)] at q2
          exact q2.elim
        · intro q
          omega
      · rw [x_v3 hv hw, nI_eq (by omega) (by omega)]
        omega
    by_cases hc : a 3 (8 * i + d) = j + 1
    · rw [if_pos (e.mpr hc), if_pos hc, nI_1]
    · rw [if_neg (fun q => hc (e.mp q)), if_neg hc, show (0 : Int32) = nI 0 from rfl, nI_add, nI_1]
  · intro L
    show B_X9_onShift_5 ν (nI d) (nI j) L _ (nI (a 0 0)) = _
    unfold B_X9_onShift_5
    rw [rm_P r, if_pos (nI_le (Nat.le_refl _) (by omega))]
theorem m_isBreach {a : AS} {ν : Mem} (h : Inv a) (r : repM a ν) {k p d : Nat} (hk : k < 6) (hp : p < 4) (hd : d < 8) : f_X9_isBreach ν (nI k) (nI p) (nI d) = some (bI (brk a k p d)) := by
  have hv := vl_le h hp hd
  have hk : k = 0 ∨ k = 1 ∨ k = 2 ∨ k = 3 ∨ k = 4 ∨ k = 5 := by omega
  unfold f_X9_isBreach
  rw [m_at r hp hd, sb]
  rcases hk with rfl | rfl | rfl | rfl | rfl | rfl
  · rw [if_pos (by decide), i8, if_pos (gI (cellB hp hd) (by decide)), nI_clamp (by omega), rm_aw r _ (cellB hp hd)]
    have ha := iv_aw h _ (cellB hp hd)
    have hb : brk a 0 p d = decide (vl a p d ≠ 0 ∧ a 4 (8 * p + d) ≠ 0) := rfl
    rw [hb]
    by_cases hw : vl a p d = 0
    · rw [if_pos (by rw [hw]; rfl), decide_eq_false (fun q => q.1 hw)]
      rfl
    · rw [if_neg (by rw [x_v3 hv hw, q_m1 (by omega)]; exact id)]
      refine ifb some ?_
      rw [show (0 : Int32) = nI 0 from rfl, nI_eq (by omega) (by omega)]
      simp [hw]
  · rw [if_neg (by decide), if_pos (by decide)]
    have hb : brk a 1 p d = decide (vl a p d ≠ 0 ∧ a 5 (3 * p + (vl a p d - 1)) = 0) := rfl
    rw [hb]
    by_cases hw : vl a p d = 0
    · rw [if_pos (by rw [hw]; rfl), decide_eq_false (fun q => q.1 hw)]
      rfl
    · have hs := iv_sk h (3 * p + (vl a p d - 1)) (by omega)
      rw [if_neg (by rw [x_v3 hv hw, q_m1 (by omega)]; exact id), x_v3 hv hw, i3, if_pos (gI (by omega) (by decide)), nI_clamp (by omega), rm_sk r _ (by omega)]
      by_cases hz : a 5 (3 * p + (vl a p d - 1)) = 0
      · rw [if_pos (by rw [hz]; rfl), decide_eq_true ⟨hw, hz⟩]
        rfl
      · rw [if_neg (by rw [show (0 : Int32) = nI 0 from rfl, nI_eq (by omega) (by omega)]; exact hz), decide_eq_false (fun q => hz q.2)]
        rfl
  · rw [if_neg (by decide), if_neg (by decide), if_pos (by decide), m_restS h r hp hd, sb, if_pos (rv_bzI _)]
  · rw [if_neg (by decide), if_neg (by decide), if_neg (by decide), if_pos (by decide), rm_nights r]
    have h3 := iv_nights h
    have e := m_isRow h r hp hd (m := a 0 3) (by omega) true
    have e : f_X9_isRow ν (nI p) (nI d) (nI (a 0 3)) 1 = some (bI (brk a 3 p d)) := e
    rw [e, sb, if_pos (rv_bzI _)]
  · rw [if_neg (by decide), if_neg (by decide), if_neg (by decide), if_neg (by decide), if_pos (by decide), rm_run r]
    have h3 := iv_run h
    have e := m_isRow h r hp hd (m := a 0 4) (by omega) false
    have e : f_X9_isRow ν (nI p) (nI d) (nI (a 0 4)) 0 = some (bI (brk a 4 p d)) := e
    rw [e, sb, if_pos (rv_bzI _)]
  · rw [if_neg (by decide), if_neg (by decide), if_neg (by decide), if_neg (by decide), if_neg (by decide), rm_span r, nI_add, rm_lim r]
    have h5 := iv_span h
    have h6 := iv_lim h
    have hb : brk a 5 p d = decide (d + a 0 5 ≤ 8 ∧ a 0 6 < ps (ln a p) (d + a 0 5) - ps (ln a p) d) := rfl
    rw [hb]
    by_cases hs : 8 < d + a 0 5
    · rw [if_pos (show (8 : Int32) < nI (d + a 0 5) from nI_lt hs (by omega)), decide_eq_false (fun q => by omega)]
      rfl
    · have hb5 := ps_bd h hp (show d + a 0 5 ≤ 8 by omega)
      rw [if_neg (show ¬ (8 : Int32) < nI (d + a 0 5) from nI_nlt (a := 8) (b := d + a 0 5) (by omega) (by decide)), m_sum h r hp (by omega), sb]
      refine ifb some ?_
      rw [nI_leI (by omega) (by omega), decide_eq_false_iff_not]
      omega
