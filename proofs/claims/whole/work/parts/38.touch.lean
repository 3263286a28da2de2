/-! which cells a breach hangs on -/
def ag (a a' : AS) : Prop := ∀ k j, k ≠ 3 → a' k j = a k j
theorem ag_sc (a : AS) (c v : Nat) : ag a (sc a c v) := fun k j h => sc_n a c v j h
theorem ag_tr {a b c : AS} (h1 : ag a b) (h2 : ag b c) : ag a c := fun k j h => (h2 k j h).trans (h1 k j h)
theorem ag_lnV {a a' : AS} (h : ag a a') (v : Nat) : lnV a' v = lnV a v := by unfold lnV; rw [h 2 _ (by decide)]
theorem ag_stV {a a' : AS} (h : ag a a') (v : Nat) : stV a' v = stV a v := by unfold stV; rw [h 1 _ (by decide)]
theorem ag_isN {a a' : AS} (h : ag a a') (v : Nat) : isN a' v = isN a v := by unfold isN; rw [h 1 _ (by decide), h 2 _ (by decide)]
theorem ag_ln {a a' : AS} (h : ag a a') {p d : Nat} (e : vl a' p d = vl a p d) : ln a' p d = ln a p d := by unfold ln; rw [e, ag_lnV h]
theorem ag_wd {a a' : AS} {p d : Nat} (e : vl a' p d = vl a p d) : wd a' p d = wd a p d := by unfold wd; rw [e]
theorem ag_ng {a a' : AS} (h : ag a a') {p d : Nat} (e : vl a' p d = vl a p d) : ng a' p d = ng a p d := by unfold ng; rw [e, ag_isN h]
theorem rl_iff (f : Nat → Bool) : ∀ n m, m ≤ rl f n ↔ m ≤ n ∧ ∀ j, n - m ≤ j → j < n → f j = true
  | 0, m => by
    show m ≤ 0 ↔ _
    constructor
    · intro h
      exact ⟨h, fun j _ hj => absurd hj (Nat.not_lt_zero _)⟩
    · intro h
      exact h.1
  | n + 1, 0 => by
    constructor
    · intro _
      exact ⟨Nat.zero_le _, fun j h1 h2 => by omega⟩
    · intro _
      exact Nat.zero_le _
  | n + 1, m + 1 => by
    have ih := rl_iff f n m
    show m + 1 ≤ (if f n = true then rl f n + 1 else 0) ↔ _
    by_cases h : f n = true
    · rw [if_pos h, Nat.add_le_add_iff_right, ih]
      constructor
      · rintro ⟨h1, h2⟩
        refine ⟨by omega, fun j h3 h4 => ?_⟩
        rcases Nat.lt_or_ge j n with h5 | h5
        · exact h2 j (by omega) h5
        · rw [show j = n by omega]
          exact h
      · rintro ⟨h1, h2⟩
        exact ⟨by omega, fun j h3 h4 => h2 j (by omega) (by omega)⟩
    · rw [if_neg h]
      constructor
      · intro h1
        omega
      · rintro ⟨h1, h2⟩
        exact absurd (h2 n (by omega) (by omega)) h
theorem rl_ag {f g : Nat → Bool} {d m : Nat} (h : m < rl f (d + 1)) (e : ∀ j, d - m ≤ j → j ≤ d → g j = f j) : m < rl g (d + 1) := by
  obtain ⟨h1, h2⟩ := (rl_iff f (d + 1) (m + 1)).mp h
  exact (rl_iff g (d + 1) (m + 1)).mpr ⟨h1, fun j h3 h4 => by rw [e j (by omega) (by omega)]; exact h2 j h3 h4⟩
theorem rl_eq {f g : Nat → Bool} : ∀ n, (∀ j, j < n → g j = f j) → rl g n = rl f n
  | 0, _ => rfl
  | n + 1, h => by
    show (if g n = true then rl g n + 1 else 0) = (if f n = true then rl f n + 1 else 0)
    rw [h n (by omega), rl_eq n (fun j hj => h j (by omega))]
theorem lw_eq {f g : Nat → Bool} : ∀ n, (∀ j, lw f n - 1 ≤ j → j < n → g j = f j) → lw f n ≠ 0 → lw g n = lw f n
  | 0, _, h => absurd rfl h
  | n + 1, h, h0 => by
    have e : lw f (n + 1) = if f n = true then n + 1 else lw f n := rfl
    have e2 : lw g (n + 1) = if g n = true then n + 1 else lw g n := rfl
    by_cases hf : f n = true
    · rw [if_pos hf] at e
      rw [e, e2, h n (by omega) (by omega), if_pos hf]
    · rw [if_neg hf] at e
      have hl := lw_le f n
      rw [e] at h h0
      rw [e, e2, h n (by omega) (by omega), if_neg hf]
      exact lw_eq n (fun j h1 h2 => h j h1 (by omega)) h0
theorem lw_eqA {f g : Nat → Bool} : ∀ n, (∀ j, j < n → g j = f j) → lw g n = lw f n
  | 0, _ => rfl
  | n + 1, h => by
    show (if g n = true then n + 1 else lw g n) = (if f n = true then n + 1 else lw f n)
    rw [h n (by omega), lw_eqA n (fun j hj => h j (by omega))]
theorem lw_pos {f : Nat → Bool} : ∀ n, lw f n ≠ 0 → f (lw f n - 1) = true ∧ lw f n ≤ n
  | 0, h => absurd rfl h
  | n + 1, h => by
    have e : lw f (n + 1) = if f n = true then n + 1 else lw f n := rfl
    by_cases hf : f n = true
    · rw [if_pos hf] at e
      rw [e]
      exact ⟨hf, Nat.le_refl _⟩
    · rw [if_neg hf] at e
      rw [e] at h ⊢
      have := lw_pos n h
      exact ⟨this.1, by omega⟩
theorem ps_ag {f g : Nat → Nat} {d : Nat} : ∀ s, (∀ j, d ≤ j → j < d + s → g j = f j) → ps g (d + s) + ps f d = ps f (d + s) + ps g d
  | 0, _ => by
    rw [Nat.add_zero]
    omega
  | s + 1, h => by
    have ih := ps_ag s (fun j h1 h2 => h j h1 (by omega))
    show ps g (d + s) + g (d + s) + ps f d = ps f (d + s) + f (d + s) + ps g d
    rw [h (d + s) (by omega) (by omega)]
    omega
theorem ps_eq {f g : Nat → Nat} : ∀ n, (∀ j, j < n → g j = f j) → ps g n = ps f n
  | 0, _ => rfl
  | n + 1, h => by
    show ps g n + g n = ps f n + f n
    rw [h n (by omega), ps_eq n (fun j hj => h j (by omega))]
theorem enI_ag {a a' : AS} (h : ag a a') {p d : Nat} (e : vl a' p d = vl a p d) : enI a' p d = enI a p d := by unfold enI; rw [e, ag_stV h, ag_ln h e]
theorem cntS_eq {a a' : AS} {d j : Nat} : ∀ n, (∀ p, p < n → vl a' p d = vl a p d) → cntS a' d j n = cntS a d j n
  | 0, _ => rfl
  | n + 1, h => by
    have e : a' 3 (8 * n + d) = a 3 (8 * n + d) := h n (by omega)
    show cntS a' d j n + (if a' 3 (8 * n + d) = j + 1 then 1 else 0) = cntS a d j n + (if a 3 (8 * n + d) = j + 1 then 1 else 0)
    rw [e, cntS_eq n (fun p hp => h p (by omega))]
theorem brk_ag {a a' : AS} (h : ag a a') {k p d : Nat} (hk : k < 6) (hv : ∀ j, j < 8 → vl a' p j = vl a p j) (hd : d < 8) : brk a' k p d = brk a k p d := by
  have hk : k = 0 ∨ k = 1 ∨ k = 2 ∨ k = 3 ∨ k = 4 ∨ k = 5 := by omega
  rcases hk with rfl | rfl | rfl | rfl | rfl | rfl
  · show decide (vl a' p d ≠ 0 ∧ a' 4 (8 * p + d) ≠ 0) = decide (vl a p d ≠ 0 ∧ a 4 (8 * p + d) ≠ 0)
    rw [hv d hd, h 4 _ (by decide)]
  · show decide (vl a' p d ≠ 0 ∧ a' 5 (3 * p + (vl a' p d - 1)) = 0) = decide (vl a p d ≠ 0 ∧ a 5 (3 * p + (vl a p d - 1)) = 0)
    rw [hv d hd, h 5 _ (by decide)]
  · show decide (vl a' p d ≠ 0 ∧ lw (wd a' p) d ≠ 0 ∧ rsI a' p d < a' 0 2) = decide (vl a p d ≠ 0 ∧ lw (wd a p) d ≠ 0 ∧ rsI a p d < a 0 2)
    have e : lw (wd a' p) d = lw (wd a p) d := lw_eqA d (fun j hj => ag_wd (hv j (by omega)))
    have hl := lw_le (wd a p) d
    have e2 : rsI a' p d = rsI a p d := by
      unfold rsI
      rw [e, hv d hd, ag_stV h, enI_ag h (hv _ (by omega))]
    rw [hv d hd, e, e2, h 0 _ (by decide)]
  · show decide (a' 0 3 < rl (ng a' p) (d + 1)) = decide (a 0 3 < rl (ng a p) (d + 1))
    rw [h 0 _ (by decide), rl_eq (d + 1) (fun j hj => ag_ng h (hv j (by omega)))]
  · show decide (a' 0 4 < rl (wd a' p) (d + 1)) = decide (a 0 4 < rl (wd a p) (d + 1))
    rw [h 0 _ (by decide), rl_eq (d + 1) (fun j hj => ag_wd (hv j (by omega)))]
  · show decide (d + a' 0 5 ≤ 8 ∧ a' 0 6 < ps (ln a' p) (d + a' 0 5) - ps (ln a' p) d) = decide (d + a 0 5 ≤ 8 ∧ a 0 6 < ps (ln a p) (d + a 0 5) - ps (ln a p) d)
    rw [h 0 5 (by decide), h 0 6 (by decide)]
    by_cases hs : d + a 0 5 ≤ 8
    · rw [ps_eq (d + a 0 5) (fun j hj => ag_ln h (hv j (by omega))), ps_eq d (fun j hj => ag_ln h (hv j (by omega)))]
    · rw [decide_eq_false (fun q => hs q.1), decide_eq_false (fun q => hs q.1)]
theorem rwb_ag {a a' : AS} (h : ag a a') {p t : Nat} (hv : ∀ j, j < 8 → vl a' p j = vl a p j) : rwb a' p t = rwb a p t := by
  unfold rwb
  by_cases ht : t < 48
  · rw [brk_ag h (by omega) hv (by omega)]
  · rw [decide_eq_false ht]
    rfl
theorem sh_ag {a a' : AS} (h : ag a a') {d j : Nat} (hv : ∀ p, p < 4 → vl a' p d = vl a p d) : sh a' d j = sh a d j := by
  unfold sh
  rw [cntS_eq 4 hv, h 6 _ (by decide)]
theorem rwb_sc (a : AS) {c v p t : Nat} (hp : p ≠ c / 8) : rwb (sc a c v) p t = rwb a p t := rwb_ag (ag_sc a c v) (fun j hj => by rw [sc_vl, if_neg (by omega)])
theorem shB_sc (a : AS) {c v i : Nat} (hi : i / 3 ≠ c % 8) : shB (sc a c v) i = shB a i := by
  unfold shB
  by_cases h : i < 24
  · rw [sh_ag (ag_sc a c v) (fun p hp => by rw [sc_vl, if_neg (by omega)])]
  · rw [decide_eq_false h]
    rfl
def tlo (a : AS) (k p d : Nat) : Nat := if k = 2 then lw (wd a p) d - 1 else if k = 3 then d - a 0 3 else if k = 4 then d - a 0 4 else d
def thi (a : AS) (k d : Nat) : Nat := if k = 5 then d + a 0 5 - 1 else d
/-- the cell c is one of those that the breach with the place t hangs on -/
def inT (a : AS) (t c : Nat) : Prop := (t < 192 ∧ c / 8 = t / 8 % 4 ∧ tlo a (t / 32) (t / 8 % 4) (t % 8) ≤ c % 8 ∧ c % 8 ≤ thi a (t / 32) (t % 8)) ∨ (192 ≤ t ∧ c % 8 = (t - 192) / 3)
/-- while none of them changes, it stays -/
theorem bt_stay {a a' : AS} (hI : Inv a) (h : ag a a') {t : Nat} (ht : t < 216) (hb : bt a t = true) (hv : ∀ c, c < 32 → inT a t c → a' 3 c = a 3 c) : bt a' t = true := by
  have h5 := iv_span hI
  rcases Nat.lt_or_ge t 192 with h1 | h1
  · have e : t = 32 * (t / 32) + 8 * (t / 8 % 4) + t % 8 := by omega
    have hp : t / 8 % 4 < 4 := by omega
    have hd : t % 8 < 8 := by omega
    have hk6 : t / 32 < 6 := by omega
    have hw : ∀ j, j < 8 → tlo a (t / 32) (t / 8 % 4) (t % 8) ≤ j → j ≤ thi a (t / 32) (t % 8) → vl a' (t / 8 % 4) j = vl a (t / 8 % 4) j := fun j hj h2 h3 => hv (8 * (t / 8 % 4) + j) (by omega) (.inl ⟨h1, by omega, by rw [show (8 * (t / 8 % 4) + j) % 8 = j by omega]; exact ⟨h2, h3⟩⟩)
    rw [e, bt_k hk6 hp hd] at hb
    rw [e, bt_k hk6 hp hd]
    generalize t / 8 % 4 = p at *
    generalize t % 8 = d at *
    generalize t / 32 = k at *
    have hk : k = 0 ∨ k = 1 ∨ k = 2 ∨ k = 3 ∨ k = 4 ∨ k = 5 := by omega
    rcases hk with rfl | rfl | rfl | rfl | rfl | rfl
    · have e1 := hw d hd (Nat.le_refl d) (Nat.le_refl d)
      have hb := of_decide_eq_true hb
      exact decide_eq_true (by rw [e1, h 4 _ (by decide)]; exact hb)
    · have e1 := hw d hd (Nat.le_refl d) (Nat.le_refl d)
      have hb : vl a p d ≠ 0 ∧ a 5 (3 * p + (vl a p d - 1)) = 0 := of_decide_eq_true hb
      exact decide_eq_true (by rw [e1, h 5 _ (by decide)]; exact hb)
    · have hb : vl a p d ≠ 0 ∧ lw (wd a p) d ≠ 0 ∧ rsI a p d < a 0 2 := of_decide_eq_true hb
      have hl := lw_le (wd a p) d
      have e0 : lw (wd a' p) d = lw (wd a p) d := lw_eq d (fun j h2 h3 => ag_wd (hw j (by omega) h2 (by show j ≤ d; omega))) hb.2.1
      have e1 := hw d hd (by show lw (wd a p) d - 1 ≤ d; omega) (Nat.le_refl d)
      have e2 := hw (lw (wd a p) d - 1) (by omega) (Nat.le_refl _) (by show lw (wd a p) d - 1 ≤ d; omega)
      have e3 : rsI a' p d = rsI a p d := by
        unfold rsI
        rw [e0, e1, ag_stV h, enI_ag h e2]
      exact decide_eq_true (by rw [e1, e0, e3, h 0 _ (by decide)]; exact hb)
    · have hb : a 0 3 < rl (ng a p) (d + 1) := of_decide_eq_true hb
      have hl := rl_le (ng a p) (d + 1)
      exact decide_eq_true (by
        rw [h 0 _ (by decide)]
        exact rl_ag hb (fun j h2 h3 => ag_ng h (hw j (by omega) h2 h3)))
    · have hb : a 0 4 < rl (wd a p) (d + 1) := of_decide_eq_true hb
      have hl := rl_le (wd a p) (d + 1)
      exact decide_eq_true (by
        rw [h 0 _ (by decide)]
        exact rl_ag hb (fun j h2 h3 => ag_wd (hw j (by omega) h2 h3)))
    · have hb : d + a 0 5 ≤ 8 ∧ a 0 6 < ps (ln a p) (d + a 0 5) - ps (ln a p) d := of_decide_eq_true hb
      have hs := ps_ag (f := ln a p) (g := ln a' p) (d := d) (a 0 5) (fun j h2 h3 => ag_ln h (hw j (by omega) h2 (by show j ≤ d + a 0 5 - 1; omega)))
      have m1 := ps_mono (ln a p) (show d ≤ d + a 0 5 by omega)
      have m2 := ps_mono (ln a' p) (show d ≤ d + a 0 5 by omega)
      exact decide_eq_true (by
        rw [h 0 5 (by decide), h 0 6 (by decide)]
        exact ⟨hb.1, by omega⟩)
  · obtain ⟨i, rfl⟩ := Nat.exists_eq_add_of_le h1
    rw [bt_s (by omega)] at hb ⊢
    unfold shB at hb ⊢
    rw [sh_ag h (fun p hp => hv (8 * p + i / 3) (by omega) (.inr ⟨h1, by omega⟩))]
    exact hb
