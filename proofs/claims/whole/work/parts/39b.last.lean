/-! the class: one change that mends -/
/-- a loop whose body has a continuation b; what becomes of the state does not hang on b -/
theorem lu {α ρ σ β : Type} (F : β → α → α) (z : α) (ap : σ → α → ρ) (I : Nat → σ → Prop) (Q : (β → ρ) → Prop) (e : Nat)
    (hs : ∀ i s, i < e → I i s → (∃ q : β → ρ, Q q ∧ ∀ b X, ap s (F b X) = q b) ∨ ∃ s', I (i + 1) s' ∧ ∀ b X, ap s (F b X) = ap s' X)
    (he : ∀ s, I e s → ∃ q : β → ρ, Q q ∧ ∀ b X, ap s (F b X) = q b) : ∀ n i s, i ≤ e → e - i < n → I i s → ∃ q : β → ρ, Q q ∧ ∀ b, ap s (rv_ls (F b) z n) = q b := by
  intro n
  induction n with
  | zero => intro i s _ h _; omega
  | succ n ih =>
    intro i s hi hn hI
    rcases Nat.lt_or_ge i e with hlt | hge
    · rcases hs i s hlt hI with ⟨q, hq, h⟩ | ⟨s', hI', h⟩
      · exact ⟨q, hq, fun b => by rw [rv_ls_s]; exact h b _⟩
      · obtain ⟨q, hq, h2⟩ := ih (i + 1) s' hlt (by omega) hI'
        exact ⟨q, hq, fun b => by rw [rv_ls_s, h]; exact h2 b⟩
    · obtain rfl : i = e := by omega
      obtain ⟨q, hq, h⟩ := he s hI
      exact ⟨q, hq, fun b => by rw [rv_ls_s]; exact h b _⟩
/-- one change, at a cell of f, mends -/
def G1 (a : AS) (f : Nat → Prop) (c v : Nat) : Prop := c < 8 * a 0 0 ∧ v ≤ a 0 1 ∧ v ≠ a 3 c ∧ f c ∧ LW (sc a c v)
def FIRST (G : Nat → Nat → Prop) (c v : Nat) : Prop := G c v ∧ ∀ c' v', G c' v' → c < c' ∨ (c = c' ∧ v ≤ v')
theorem FIRST_u {G : Nat → Nat → Prop} {c v c' v' : Nat} (h : FIRST G c v) (h' : FIRST G c' v') : c = c' ∧ v = v' := by
  have h1 := h.2 c' v' h'.1
  have h2 := h'.2 c v h.1
  omega
def BP (y : Int32) (f : Nat → Prop) : Prop := ∀ c, c < 32 → (y.toBitVec.getLsbD c = true ↔ f c)
theorem x_has {y : Int32} {f : Nat → Prop} (h : BP y f) {c : Nat} (hc : c < 32) : ∃ b, f_X4_has y (nI c) = some (bI b) ∧ (b = true ↔ f c) := by
  refine ⟨y.toBitVec.getLsbD c, ?_, h c hc⟩
  unfold f_X4_has
  have e := x_bit (x := y) (f := fun i => y.toBitVec.getLsbD i) (fun i hi => rfl) hc
  by_cases hb : y.toBitVec.getLsbD c = true
  · rw [if_pos (e.mpr hb), hb]
    rfl
  · rw [if_neg (fun q => hb (e.mp q)), show y.toBitVec.getLsbD c = false by simpa using hb]
    rfl
theorem x_valueAt {a : AS} {μ : Mem} (r : repX a μ) {c : Nat} (hc : c < 32) : f_X5_valueAt μ (nI c) = some (nI (a 3 c)) := by
  unfold f_X5_valueAt
  rw [if_neg (gP (by omega)), if_neg (g32 hc), if_pos (gI hc (by decide)), nI_clamp (by omega), rx_val r c hc]
theorem x_cput (q : Nat) (μ : Mem) {pl : Nat} (x y : Int32) (h : pl < 2) : f_X0_put q μ (nI pl) x y = some ((), mu_up (mu_up μ (q + 1) pl x) (q + 2) pl y) := by
  unfold f_X0_put
  rw [if_neg (gP (by omega)), if_neg (show ¬ (2 : Int32) ≤ nI pl from nI_ge h (by decide)), if_pos (gI h (by decide)), if_pos (gI h (by decide)), nI_clamp (by omega)]
theorem d8 {c : Nat} (hc : c < 32) : nI c / 8 = nI (c / 8) := pk_div (a := c) (d := 8) (by omega) (by decide) (by decide)
theorem m8 {c : Nat} (hc : c < 32) : nI c - nI c / 8 * 8 = nI (c % 8) := pk_rem (a := c) (d := 8) (by omega) (by decide) (by decide)
theorem shb_sh (a : AS) {d : Nat} (hd : d < 8) : (∀ j, j < 32 → shb a d j = false) ↔ ∀ i, 3 * d ≤ i → i < 3 * d + 3 → shB a i = false := by
  constructor
  · intro h i h1 h2
    have := h (i - 3 * d) (by omega)
    unfold shb at this
    unfold shB
    rw [decide_eq_true (by omega)] at this
    rw [decide_eq_true (by omega), show i / 3 = d by omega, show i % 3 = i - 3 * d by omega]
    exact this
  · intro h j hj
    unfold shb
    by_cases h3 : j < 3
    · have := h (3 * d + j) (by omega) (by omega)
      unfold shB at this
      rw [decide_eq_true (by omega), show (3 * d + j) / 3 = d by omega, show (3 * d + j) % 3 = j by omega] at this
      rw [decide_eq_true h3]
      exact this
    · rw [decide_eq_false h3]
      rfl
theorem LW_of {a : AS} {c v : Nat} (hc : c < 32) (hcl : clr a (c / 8) (c % 8)) : LW (sc a c v) ↔ ((∀ j, j < 32 → shb (sc a c v) (c % 8) j = false) ∧ ∀ t, t < 64 → rwb (sc a c v) (c / 8) t = false) := by
  rw [LW_iff, shb_sh _ (show c % 8 < 8 by omega)]
  constructor
  · rintro ⟨h1, h2⟩
    exact ⟨fun i h3 h4 => h2 i (by omega), h1 _ (by omega)⟩
  · rintro ⟨h1, h2⟩
    refine ⟨fun p hp t ht => ?_, fun i hi => ?_⟩
    · by_cases hpc : p = c / 8
      · rw [hpc]
        exact h2 t ht
      · rw [rwb_sc a hpc]
        exact hcl.1 p hp hpc t ht
    · by_cases hic : i / 3 = c % 8
      · exact h1 i (by omega) (by omega)
      · rw [shB_sc a hic]
        exact hcl.2 i hi (by omega)
theorem clr_of {a : AS} {c v : Nat} (h : LW (sc a c v)) : clr a (c / 8) (c % 8) := by
  rw [LW_iff] at h
  refine ⟨fun p hp hpc t ht => ?_, fun i hi hic => ?_⟩
  · rw [← rwb_sc a (v := v) hpc]
    exact h.1 p hp t ht
  · rw [← shB_sc a (c := c) (v := v) (by omega)]
    exact h.2 i hi
/-- both lists of findings are empty: said by the class's two tests -/
theorem x_mended {a : AS} {μ : Mem} (h : Inv a) (r : repX a μ) {c : Nat} (hc : c < 32) {γ : Type} (A B : Option γ) : ∃ b : Bool, (b = true ↔ ((∀ j, j < 32 → shb a (c % 8) j = false) ∧ ∀ t, t < 64 → rwb a (c / 8) t = false)) ∧ ((f_X1_shortagesOf μ (nI (c % 8))).bind fun r9 => if r9 = 0 then ((f_X1_breachesOf μ (nI (c / 8))).bind fun r14 => if (lg_cmp r14 0) = 0 then A else B) else B) = if b = true then A else B := by
  obtain ⟨x, ex, bx⟩ := x_shortagesOf h r (show c % 8 < 8 by omega)
  obtain ⟨y, ey, by'⟩ := x_breachesOf h r (show c / 8 < 4 by omega)
  rw [ex, sb]
  have hx := B32_z bx
  have hy := B64_z by'
  by_cases h1 : x = 0
  · rw [if_pos h1, ey, sb]
    by_cases h2 : y = 0
    · exact ⟨true, ⟨fun _ => ⟨hx.mp h1, hy.mp h2⟩, fun _ => rfl⟩, by rw [if_pos ((cmp0 _).mpr h2), if_pos rfl]⟩
    · exact ⟨false, ⟨fun e => (by cases e), fun q => absurd (hy.mpr q.2) h2⟩, by rw [if_neg (fun e => h2 ((cmp0 _).mp e)), if_neg (by decide)]⟩
  · exact ⟨false, ⟨fun e => (by cases e), fun q => absurd (hx.mpr q.1) h1⟩, by rw [if_neg h1, if_neg (by decide)]⟩
/-- the memories behind a call that notes a change at the place pl -/
def noted (pl c v : Nat) (μ μ' : Mem) : Prop := eqo [7, 10, 21, 22] μ μ' ∧ μ'.1 21 pl = nI c ∧ μ'.1 22 pl = nI v ∧ ∀ j, j ≠ pl → μ'.1 21 j = μ.1 21 j ∧ μ'.1 22 j = μ.1 22 j
theorem x_fl80 {a : AS} {μ : Mem} (h : Inv a) (r : repX a μ) {c : Nat} (hc : c < 8 * a 0 0) (hcl : clr a (c / 8) (c % 8)) {pl : Nat} (hpl : pl < 2) (x1 : Int32) : ∃ q : (Mem → Int32 → Option (Int32 × Mem)) → Option (Int32 × Mem), ((∃ v μ', v ≤ a 0 1 ∧ v ≠ a 3 c ∧ LW (sc a c v) ∧ (∀ v', v' < v → v' ≠ a 3 c → ¬ LW (sc a c v')) ∧ repX a μ' ∧ noted pl c v μ μ' ∧ ∀ L, q L = some (1, μ')) ∨ (∃ μ', (∀ v, v ≤ a 0 1 → v ≠ a 3 c → ¬ LW (sc a c v)) ∧ repX a μ' ∧ eqo [7, 10] μ μ' ∧ ∀ L, q L = L μ' (nI (c + 1)))) ∧ ∀ L, rv_ls (B_X4_findLast_80 x1 (nI pl) (nI c) (nI (a 3 c)) (nI (a 0 1)) L) (fun _ _ => none) 300 μ (nI 0) = q L := by
  have hP := iv_P h
  have hS := iv_S h
  have hc32 : c < 32 := by omega
  have hvc := iv_val h c hc32
  have key := lu (fun L => B_X4_findLast_80 x1 (nI pl) (nI c) (nI (a 3 c)) (nI (a 0 1)) L) (fun _ _ => none) (σ := Nat × Mem) (fun s g => g s.2 (nI s.1)) (fun i s => s.1 = i ∧ repX a s.2 ∧ eqo [7, 10] μ s.2 ∧ ∀ v', v' < i → v' ≠ a 3 c → ¬ LW (sc a c v'))
    (fun q => (∃ v μ', v ≤ a 0 1 ∧ v ≠ a 3 c ∧ LW (sc a c v) ∧ (∀ v', v' < v → v' ≠ a 3 c → ¬ LW (sc a c v')) ∧ repX a μ' ∧ noted pl c v μ μ' ∧ ∀ L, q L = some (1, μ')) ∨ (∃ μ', (∀ v, v ≤ a 0 1 → v ≠ a 3 c → ¬ LW (sc a c v)) ∧ repX a μ' ∧ eqo [7, 10] μ μ' ∧ ∀ L, q L = L μ' (nI (c + 1)))) (a 0 1 + 1) ?_ ?_ 300 0 (0, μ) (by omega) (by omega) ⟨rfl, r, eqo_refl _ _, fun v' hv' => by omega⟩
  · exact key
  · rintro i ⟨v, ν⟩ hi ⟨rfl, hr, he, hn⟩
    have hi : v < a 0 1 + 1 := hi
    have hr : repX a ν := hr
    by_cases hv : v = a 3 c
    · refine .inr ⟨(v + 1, ν), ⟨rfl, hr, he, fun v' h1 h2 => hn v' (show v' < v from by have : v' < v + 1 := h1; omega) h2⟩, fun L X => ?_⟩
      show B_X4_findLast_80 x1 (nI pl) (nI c) (nI (a 3 c)) (nI (a 0 1)) L X ν (nI v) = X ν (nI (v + 1))
      unfold B_X4_findLast_80
      rw [if_neg (nI_nlt (by omega) (by omega)), if_pos (by rw [hv]), nI_1]
    · obtain ⟨μ1, e1, r1, q1⟩ := x_put h hr hc32 (show v ≤ 3 by omega)
      obtain ⟨μ2, e2, r2, q2⟩ := x_put (sc_inv h hc (show v ≤ a 0 1 by omega)) r1 hc32 (show a 3 c ≤ 3 by omega)
      rw [sc_sc, sc_self] at r2
      have hq := eqo_trans he (eqo_trans q1 q2)
      have go : ∀ L X, B_X4_findLast_80 x1 (nI pl) (nI c) (nI (a 3 c)) (nI (a 0 1)) L X ν (nI v) = ((f_X1_shortagesOf μ1 (nI (c % 8))).bind fun r9 => if r9 = 0 then ((f_X1_breachesOf μ1 (nI (c / 8))).bind fun r14 => if (lg_cmp r14 0) = 0 then (b_X4_findLast_142 μ1 L X x1 (nI pl) (nI c) (nI (a 3 c)) (nI (a 0 1)) (nI v) 1) else (b_X4_findLast_142 μ1 L X x1 (nI pl) (nI c) (nI (a 3 c)) (nI (a 0 1)) (nI v) 0)) else (b_X4_findLast_142 μ1 L X x1 (nI pl) (nI c) (nI (a 3 c)) (nI (a 0 1)) (nI v) 0)) := by
        intro L X
        unfold B_X4_findLast_80
        rw [if_neg (nI_nlt (by omega) (by omega)), if_neg (by rw [nI_eq (by omega) (by omega)]; exact hv), e1, sb, m8 hc32, d8 hc32]
        rfl
      have hlw := LW_of (v := v) hc32 hcl
      by_cases hL : LW (sc a c v)
      · have hq3 : ∀ L X, B_X4_findLast_80 x1 (nI pl) (nI c) (nI (a 3 c)) (nI (a 0 1)) L X ν (nI v) = some (1, mu_up (mu_up μ2 21 pl (nI c)) 22 pl (nI v)) := by
          intro L X
          rw [go]
          obtain ⟨b, hb, hb2⟩ := x_mended (sc_inv h hc (show v ≤ a 0 1 by omega)) r1 hc32 (b_X4_findLast_142 μ1 L X x1 (nI pl) (nI c) (nI (a 3 c)) (nI (a 0 1)) (nI v) 1) (b_X4_findLast_142 μ1 L X x1 (nI pl) (nI c) (nI (a 3 c)) (nI (a 0 1)) (nI v) 0)
          rw [hb2, if_pos (hb.mpr (hlw.mp hL))]
          unfold b_X4_findLast_142
          rw [e2, sb, if_neg (by decide), x_cput 20 μ2 (nI c) (nI v) hpl, sb]
        refine .inl ⟨fun _ => some (1, mu_up (mu_up μ2 21 pl (nI c)) 22 pl (nI v)), .inl ⟨v, _, by omega, hv, hL, hn, ?_, ⟨?_, ?_, ?_, ?_⟩, fun _ => rfl⟩, hq3⟩
        · exact rx_fr r2 (K := [21, 22]) (eqo_trans (eqo_up μ2 _ (by decide)) (eqo_up _ _ (by decide))) (by decide) (by
            have s1 : SB μ2 := rx_SB r2
            intro k hk i h1 h2
            rw [up_n _ _ _ (by omega), up_n _ _ _ (by omega)]
            exact s1 k hk i h1 h2)
        · exact eqo_trans (eqo_sub hq (by decide)) (eqo_trans (eqo_up μ2 _ (by decide)) (eqo_up _ _ (by decide)))
        · rw [up_n _ _ _ (by decide), up_s]
        · rw [up_s]
        · intro j hj
          rw [up_n _ _ _ (by decide), up_j _ _ _ hj, up_j _ _ _ hj, up_n _ _ _ (by decide), hq.1 21 (by decide), hq.1 22 (by decide)]
          exact ⟨rfl, rfl⟩
      · refine .inr ⟨(v + 1, μ2), ⟨rfl, r2, hq, fun v' h1 h2 => ?_⟩, fun L X => ?_⟩
        · by_cases h3 : v' = v
          · rw [h3]
            exact hL
          · exact hn v' (show v' < v from by have : v' < v + 1 := h1; omega) h2
        · show B_X4_findLast_80 x1 (nI pl) (nI c) (nI (a 3 c)) (nI (a 0 1)) L X ν (nI v) = X μ2 (nI (v + 1))
          rw [go]
          obtain ⟨b, hb, hb2⟩ := x_mended (sc_inv h hc (show v ≤ a 0 1 by omega)) r1 hc32 (b_X4_findLast_142 μ1 L X x1 (nI pl) (nI c) (nI (a 3 c)) (nI (a 0 1)) (nI v) 1) (b_X4_findLast_142 μ1 L X x1 (nI pl) (nI c) (nI (a 3 c)) (nI (a 0 1)) (nI v) 0)
          rw [hb2, if_neg (fun q => hL (hlw.mpr (hb.mp q)))]
          unfold b_X4_findLast_142
          rw [e2, sb, if_pos rfl, nI_1]
  · rintro ⟨v, ν⟩ ⟨e, hr, he, hn⟩
    have e : v = a 0 1 + 1 := e
    subst e
    refine ⟨fun L => L ν (nI (c + 1)), .inr ⟨ν, fun v h1 h2 => hn v (by omega) h2, hr, he, fun _ => rfl⟩, fun L X => ?_⟩
    show B_X4_findLast_80 x1 (nI pl) (nI c) (nI (a 3 c)) (nI (a 0 1)) L X ν (nI (a 0 1 + 1)) = L ν (nI (c + 1))
    unfold B_X4_findLast_80
    rw [if_pos (nI_lt (by omega) (by omega)), nI_1]
theorem x_findLast {a : AS} {μ : Mem} (h : Inv a) (r : repX a μ) (hF : FD 18 a μ) {y : Int32} {f : Nat → Prop} (hy : BP y f) {pl : Nat} (hpl : pl < 2) : ∃ b μ', f_X4_findLast μ y (nI pl) = some (bI b, μ') ∧ repX a μ' ∧ FD 18 a μ' ∧ eqo [7, 10, 21, 22] μ μ' ∧ (∀ j, j ≠ pl → μ'.1 21 j = μ.1 21 j ∧ μ'.1 22 j = μ.1 22 j) ∧ (b = true → ∃ c v, FIRST (G1 a f) c v ∧ μ'.1 21 pl = nI c ∧ μ'.1 22 pl = nI v) ∧ (b = false → ∀ c v, ¬ G1 a f c v) := by
  have hP := iv_P h
  unfold f_X4_findLast
  rw [rv_seal]
  have key := lp (B_X4_findLast_2 y (nI pl)) (fun _ _ => none) (σ := Nat × Mem) (fun s g => g s.2 (nI s.1)) (fun i s => s.1 = i ∧ repX a s.2 ∧ eqo [7, 10] μ s.2 ∧ ∀ c v, c < i → ¬ G1 a f c v)
    (fun x => ∃ b μ', x = some (bI b, μ') ∧ repX a μ' ∧ FD 18 a μ' ∧ eqo [7, 10, 21, 22] μ μ' ∧ (∀ j, j ≠ pl → μ'.1 21 j = μ.1 21 j ∧ μ'.1 22 j = μ.1 22 j) ∧ (b = true → ∃ c v, FIRST (G1 a f) c v ∧ μ'.1 21 pl = nI c ∧ μ'.1 22 pl = nI v) ∧ (b = false → ∀ c v, ¬ G1 a f c v)) (8 * a 0 0) ?_ ?_ 300 0 (0, μ) (by omega) (by omega) ⟨rfl, r, eqo_refl _ _, fun c v hc => by omega⟩
  · exact key
  · rintro i ⟨c, ν⟩ hi ⟨rfl, hr, he, hn⟩
    have hi : c < 8 * a 0 0 := hi
    have hr : repX a ν := hr
    have hc32 : c < 32 := by omega
    have hFν : FD 18 a ν := FD_fr hF he (by decide) (by decide)
    have guard : ¬ (ν.1 6 4 * 8 ≤ nI c) := by
      rw [rx_P hr, show nI (a 0 0) * 8 = nI (a 0 0 * 8) from pk_mul _ 8]
      exact nI_ge (by omega) (by omega)
    obtain ⟨b1, eb1, hb1⟩ := x_has hy hc32
    obtain ⟨b2, eb2, hb2⟩ := x_clear hFν (show c / 8 < 4 by omega) (show c % 8 < 8 by omega)
    have skip : (¬ ∃ v, G1 a f c v) → (b1 = false ∨ b2 = false) → ∃ s' : Nat × Mem, (s'.1 = c + 1 ∧ repX a s'.2 ∧ eqo [7, 10] μ s'.2 ∧ ∀ c2 v, c2 < c + 1 → ¬ G1 a f c2 v) ∧ ∀ L, B_X4_findLast_2 y (nI pl) L ν (nI c) = L s'.2 (nI s'.1) := by
      intro hno hbb
      refine ⟨(c + 1, ν), ⟨rfl, hr, he, fun c2 v h1 => ?_⟩, fun L => ?_⟩
      · by_cases h2 : c2 = c
        · rw [h2]
          exact fun q => hno ⟨v, q⟩
        · exact hn c2 v (show c2 < c by omega)
      · have e46 : b_X4_findLast_46 ν L y (nI pl) (nI c) = L ν (nI (c + 1)) := by
          unfold b_X4_findLast_46 b_X4_findLast_47
          rw [x_valueAt hr hc32, sb, if_pos rfl]
          unfold b_X4_findLast_75
          rw [rv_seal, rv_ls_s]
          unfold B_X4_findLast_80
          rw [if_pos (by decide), nI_1]
        unfold B_X4_findLast_2
        rw [if_neg guard, eb1, sb]
        rcases hbb with e | e
        · rw [if_pos (bI_0.mpr e)]
          exact e46
        · by_cases h1 : bI b1 = 0
          · rw [if_pos h1]
            exact e46
          · rw [if_neg h1, d8 hc32, show nI c - nI (c / 8) * 8 = nI (c % 8) by rw [← d8 hc32]; exact m8 hc32, eb2, sb, if_pos (bI_0.mpr e)]
            exact e46
    cases h1 : b1
    · refine .inr (skip (fun ⟨v, q⟩ => ?_) (.inl h1))
      have := hb1.mpr q.2.2.2.1
      rw [h1] at this
      cases this
    · cases h2 : b2
      · refine .inr (skip (fun ⟨v, q⟩ => ?_) (.inr h2))
        have := hb2.mpr (clr_of q.2.2.2.2)
        rw [h2] at this
        cases this
      · have hcl := hb2.mp h2
        have hf := hb1.mp h1
        have go : ∀ L, B_X4_findLast_2 y (nI pl) L ν (nI c) = rv_ls (B_X4_findLast_80 y (nI pl) (nI c) (nI (a 3 c)) (nI (a 0 1)) L) (fun _ _ => none) 300 ν (nI 0) := by
          intro L
          unfold B_X4_findLast_2
          rw [if_neg guard, eb1, sb, h1, if_neg (by decide), d8 hc32, show nI c - nI (c / 8) * 8 = nI (c % 8) by rw [← d8 hc32]; exact m8 hc32, eb2, sb, h2, if_neg (by decide)]
          unfold b_X4_findLast_47
          rw [x_valueAt hr hc32, sb, if_neg (by decide), rx_S hr]
          unfold b_X4_findLast_75
          rw [rv_seal]
          rfl
        obtain ⟨q, hq, hL⟩ := x_fl80 h hr hi hcl hpl y
        rcases hq with ⟨v, μ', v1, v2, v3, v4, v5, v6, v7⟩ | ⟨μ', v1, v2, v3, v4⟩
        · refine .inl fun L => ⟨true, μ', ?_, v5, ?_, ?_, ?_, ?_, fun e => (by cases e)⟩
          · show B_X4_findLast_2 y (nI pl) L ν (nI c) = _
            rw [go, hL, v7]
            rfl
          · exact FD_fr hFν v6.1 (by decide) (by decide)
          · exact eqo_trans (eqo_sub he (by decide)) v6.1
          · intro j hj
            have := v6.2.2.2 j hj
            rw [this.1, this.2, he.1 21 (by decide), he.1 22 (by decide)]
            exact ⟨rfl, rfl⟩
          · intro _
            refine ⟨c, v, ⟨⟨hi, v1, v2, hf, v3⟩, fun c' v' hg => ?_⟩, v6.2.1, v6.2.2.1⟩
            rcases Nat.lt_trichotomy c c' with h3 | h3 | h3
            · exact .inl h3
            · subst h3
              refine .inr ⟨rfl, ?_⟩
              rcases Nat.lt_or_ge v' v with h4 | h4
              · exact absurd hg.2.2.2.2 (v4 v' h4 hg.2.2.1)
              · exact h4
            · exact absurd hg (hn c' v' h3)
        · refine .inr ⟨(c + 1, μ'), ⟨rfl, v2, eqo_trans he v3, fun c2 v h3 => ?_⟩, fun L => ?_⟩
          · by_cases h4 : c2 = c
            · rw [h4]
              exact fun q => v1 v q.2.1 q.2.2.1 q.2.2.2.2
            · exact hn c2 v (show c2 < c from by have : c2 < c + 1 := h3; omega)
          · show B_X4_findLast_2 y (nI pl) L ν (nI c) = L μ' (nI (c + 1))
            rw [go, hL, v4]
  · rintro ⟨c, ν⟩ ⟨e, hr, he, hn⟩ L
    have e : c = 8 * a 0 0 := e
    subst e
    have hr : repX a ν := hr
    refine ⟨false, ν, ?_, hr, FD_fr hF he (by decide) (by decide), eqo_sub he (by decide), fun j _ => ?_, fun e => (by cases e), fun _ c v q => hn c v q.1 q⟩
    · show B_X4_findLast_2 y (nI pl) L ν (nI (8 * a 0 0)) = _
      unfold B_X4_findLast_2
      rw [rx_P hr, show nI (a 0 0) * 8 = nI (a 0 0 * 8) from pk_mul _ 8, if_pos (nI_le (by omega) (by omega))]
      rfl
    · rw [he.1 21 (by decide), he.1 22 (by decide)]
      exact ⟨rfl, rfl⟩
