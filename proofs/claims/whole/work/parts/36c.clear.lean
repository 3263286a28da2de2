/-! the class: comparing findings -/
theorem g3 {s : Nat} (h : s < 3) : ¬ (3 : Int32) ≤ nI s := nI_ge h (by decide)
theorem g4 {s : Nat} (h : s < 4) : ¬ (4 : Int32) ≤ nI s := nI_ge h (by decide)
theorem g6 {s : Nat} (h : s < 6) : ¬ (6 : Int32) ≤ nI s := nI_ge h (by decide)
theorem g8 {s : Nat} (h : s < 8) : ¬ (8 : Int32) ≤ nI s := nI_ge h (by decide)
theorem g24 {s : Nat} (h : s < 24) : ¬ (24 : Int32) ≤ nI s := nI_ge h (by decide)
theorem g32 {s : Nat} (h : s < 32) : ¬ (32 : Int32) ≤ nI s := nI_ge h (by decide)
theorem g216 {s : Nat} (h : s < 216) : ¬ (216 : Int32) ≤ nI s := nI_ge h (by decide)
theorem gI {s n : Nat} (h : s < n) (hn : n < 2147483648) : rv_in (nI s) n = true := by rw [q_in (by omega)]; exact decide_eq_true h
theorem gP {n : Nat} (h : n < 2147483648) : ¬ nI n < 0 := nI_pos h
theorem cmp0 (x : Int64) : lg_cmp x 0 = 0 ↔ x = 0 := by
  unfold lg_cmp
  by_cases h1 : x > 0
  · rw [if_pos h1]
    exact ⟨fun e => absurd e (by decide), fun e => by subst e; exact absurd h1 (by decide)⟩
  · rw [if_neg h1]
    by_cases h2 : x = 0
    · rw [if_pos h2]
      exact ⟨fun _ => h2, fun _ => rfl⟩
    · rw [if_neg h2]
      exact ⟨fun e => absurd e (by decide), fun e => absurd e h2⟩
/-- no breach but those of the person p and the demands of the day d -/
def clr (a : AS) (p d : Nat) : Prop := (∀ p', p' < 4 → p' ≠ p → ∀ t, t < 64 → rwb a p' t = false) ∧ ∀ i, i < 32 → ¬ (3 * d ≤ i ∧ i < 3 * d + 3) → shB a i = false
theorem x_clear {q : Nat} {a : AS} {μ : Mem} (h : FD q a μ) {p d : Nat} (hp : p < 4) (hd : d < 8) : ∃ b, f_X2_isClearBesides q μ (nI p) (nI d) = some (bI b) ∧ (b = true ↔ clr a p d) := by
  unfold f_X2_isClearBesides
  rw [rv_seal]
  have key := lp (B_X2_isClearBesides_2 q μ (nI p) (nI d)) (fun _ => none) (σ := Nat) (fun s g => g (nI s)) (fun i s => s = i ∧ ∀ p', p' < i → p' ≠ p → ∀ t, t < 64 → rwb a p' t = false) (fun r => ∃ b, r = some (bI b) ∧ (b = true ↔ clr a p d)) 4 ?_ ?_ 300 0 0 (by omega) (by omega) ⟨rfl, fun p' hp' => by omega⟩
  · exact key
  · rintro i s hi ⟨rfl, hb⟩
    by_cases hsp : s = p
    · refine .inr ⟨s + 1, ⟨rfl, fun p' h1 h2 => hb p' (by omega) h2⟩, fun L => ?_⟩
      show B_X2_isClearBesides_2 q μ (nI p) (nI d) L (nI s) = _
      unfold B_X2_isClearBesides_2
      rw [if_neg (g4 hi), if_pos (by rw [hsp]), nI_1]
    · have hz := B64_z (h.1 s hi)
      by_cases h0 : μ.2 (q + 1) s = 0
      · refine .inr ⟨s + 1, ⟨rfl, fun p' h1 h2 => ?_⟩, fun L => ?_⟩
        · by_cases h3 : p' = s
          · rw [h3]
            exact hz.mp h0
          · exact hb p' (by omega) h2
        · show B_X2_isClearBesides_2 q μ (nI p) (nI d) L (nI s) = _
          unfold B_X2_isClearBesides_2
          rw [if_neg (g4 hi), if_neg (by rw [nI_eq (by omega) (by omega)]; exact hsp), if_pos (gI hi (by decide)), nI_clamp (by omega), if_pos ((cmp0 _).mpr h0), nI_1]
      · refine .inl fun L => ⟨false, ?_, ⟨fun e => (by cases e), fun hc => absurd (hz.mpr (hc.1 s hi hsp)) h0⟩⟩
        show B_X2_isClearBesides_2 q μ (nI p) (nI d) L (nI s) = _
        unfold B_X2_isClearBesides_2
        rw [if_neg (g4 hi), if_neg (by rw [nI_eq (by omega) (by omega)]; exact hsp), if_pos (gI hi (by decide)), nI_clamp (by omega), if_neg (fun e => h0 ((cmp0 _).mp e))]
        rfl
  · rintro s ⟨rfl, hb⟩ L
    have e : f_X8_postOf (nI d) 0 = some (nI (3 * d)) := x_postOf (j := 0) hd (by omega)
    have hy := B32_z (B32_and h.2 (B32_not (f := fun i => decide (3 * d ≤ i ∧ i < 3 * d + 3)) (fun i hi => seven d hd i hi)))
    show ∃ b, B_X2_isClearBesides_2 q μ (nI p) (nI d) L (nI 4) = _ ∧ _
    unfold B_X2_isClearBesides_2
    rw [if_pos (by decide), e, sb]
    by_cases h0 : ((μ.1 q 1) &&& ((7 <<< (nI (3 * d) &&& 31)) ^^^ (-1))) = 0
    · rw [if_pos h0]
      refine ⟨true, rfl, ⟨fun _ => ⟨hb, fun i hi hn => ?_⟩, fun _ => rfl⟩⟩
      have := hy.mp h0 i hi
      rw [decide_eq_false hn] at this
      simpa using this
    · rw [if_neg h0]
      refine ⟨false, rfl, ⟨fun e => (by cases e), fun hc => absurd (hy.mpr fun i hi => ?_) h0⟩⟩
      by_cases hn : 3 * d ≤ i ∧ i < 3 * d + 3
      · rw [decide_eq_true hn]
        simp
      · rw [hc.2 i hi hn]
        rfl
theorem bt_rwb (a : AS) {t : Nat} (ht : t < 192) : bt a t = rwb a (t / 8 % 4) (8 * (t / 32) + t % 8) := by
  unfold bt rwb
  rw [if_pos ht, decide_eq_true (show 8 * (t / 32) + t % 8 < 48 by omega), show (8 * (t / 32) + t % 8) / 8 = t / 32 by omega, show (8 * (t / 32) + t % 8) % 8 = t % 8 by omega]
  rfl
theorem rwb_bt (a : AS) {p t : Nat} (hp : p < 4) (ht : t < 48) : rwb a p t = bt a (32 * (t / 8) + 8 * p + t % 8) := by
  rw [bt_k (by omega) hp (by omega)]
  unfold rwb
  rw [decide_eq_true ht]
  rfl
theorem rwb_no (a : AS) (p : Nat) {t : Nat} (ht : 48 ≤ t) : rwb a p t = false := by
  unfold rwb
  rw [decide_eq_false (by omega)]
  rfl
theorem shB_no (a : AS) {t : Nat} (ht : 24 ≤ t) : shB a t = false := by
  unfold shB
  rw [decide_eq_false (by omega)]
  rfl
theorem bt_all (a1 a2 : AS) : (∀ t, t < 216 → bt a1 t = true → bt a2 t = true) ↔ ((∀ p, p < 4 → ∀ t, t < 64 → rwb a1 p t = true → rwb a2 p t = true) ∧ ∀ i, i < 32 → shB a1 i = true → shB a2 i = true) := by
  constructor
  · intro h
    refine ⟨fun p hp t ht h1 => ?_, fun i hi h1 => ?_⟩
    · rcases Nat.lt_or_ge t 48 with h2 | h2
      · rw [rwb_bt a1 hp h2] at h1
        rw [rwb_bt a2 hp h2]
        exact h _ (by omega) h1
      · rw [rwb_no a1 p h2] at h1
        cases h1
    · rcases Nat.lt_or_ge i 24 with h2 | h2
      · rw [← bt_s h2] at h1
        rw [← bt_s h2]
        exact h _ (by omega) h1
      · rw [shB_no a1 h2] at h1
        cases h1
  · rintro ⟨h1, h2⟩ t ht h3
    rcases Nat.lt_or_ge t 192 with h4 | h4
    · rw [bt_rwb a1 h4] at h3
      rw [bt_rwb a2 h4]
      exact h1 _ (by omega) _ (by omega) h3
    · obtain ⟨i, rfl⟩ := Nat.exists_eq_add_of_le h4
      rw [bt_s (by omega)] at h3
      rw [bt_s (by omega)]
      exact h2 i (by omega) h3
/-- no breaches -/
def LW (a : AS) : Prop := ∀ t, t < 216 → bt a t = false
theorem LW_iff (a : AS) : LW a ↔ ((∀ p, p < 4 → ∀ t, t < 64 → rwb a p t = false) ∧ ∀ i, i < 32 → shB a i = false) := by
  constructor
  · intro h
    refine ⟨fun p hp t ht => ?_, fun i hi => ?_⟩
    · rcases Nat.lt_or_ge t 48 with h2 | h2
      · rw [rwb_bt a hp h2]
        exact h _ (by omega)
      · exact rwb_no a p h2
    · rcases Nat.lt_or_ge i 24 with h2 | h2
      · rw [← bt_s h2]
        exact h _ (by omega)
      · exact shB_no a h2
  · rintro ⟨h1, h2⟩ t ht
    rcases Nat.lt_or_ge t 192 with h4 | h4
    · rw [bt_rwb a h4]
      exact h1 _ (by omega) _ (by omega)
    · obtain ⟨i, rfl⟩ := Nat.exists_eq_add_of_le h4
      rw [bt_s (by omega)]
      exact h2 i (by omega)
theorem x_isPartOf {q1 q2 : Nat} {a1 a2 : AS} {μ : Mem} (h1 : FD q1 a1 μ) (h2 : FD q2 a2 μ) : ∃ b, f_X2_isPartOf q1 q2 μ = some (bI b) ∧ (b = true ↔ ∀ t, t < 216 → bt a1 t = true → bt a2 t = true) := by
  have im : ∀ x y : Bool, (x && !y) = false ↔ (x = true → y = true) := by decide
  unfold f_X2_isPartOf
  rw [rv_seal, bt_all]
  have key := lp (B_X2_isPartOf_2 q1 q2 μ) (fun _ => none) (σ := Nat) (fun s g => g (nI s)) (fun i s => s = i ∧ ∀ p, p < i → ∀ t, t < 64 → rwb a1 p t = true → rwb a2 p t = true) (fun r => ∃ b, r = some (bI b) ∧ (b = true ↔ ((∀ p, p < 4 → ∀ t, t < 64 → rwb a1 p t = true → rwb a2 p t = true) ∧ ∀ i, i < 32 → shB a1 i = true → shB a2 i = true))) 4 ?_ ?_ 300 0 0 (by omega) (by omega) ⟨rfl, fun p' hp' => by omega⟩
  · exact key
  · rintro i s hi ⟨rfl, hb⟩
    have hz := B64_z (B64_and (h1.1 s hi) (B64_not (h2.1 s hi)))
    by_cases h0 : ((μ.2 (q1 + 1) s) &&& ((μ.2 (q2 + 1) s) ^^^ (-1))) = 0
    · refine .inr ⟨s + 1, ⟨rfl, fun p' h3 => ?_⟩, fun L => ?_⟩
      · by_cases h4 : p' = s
        · rw [h4]
          exact fun t ht => (im _ _).mp (hz.mp h0 t ht)
        · exact hb p' (by omega)
      · show B_X2_isPartOf_2 q1 q2 μ L (nI s) = _
        unfold B_X2_isPartOf_2
        rw [if_neg (g4 hi), if_pos (gI hi (by decide)), if_pos (gI hi (by decide)), nI_clamp (by omega), if_pos ((cmp0 _).mpr h0), nI_1]
    · refine .inl fun L => ⟨false, ?_, ⟨fun e => (by cases e), fun hc => absurd (hz.mpr fun t ht => (im _ _).mpr (hc.1 s hi t ht)) h0⟩⟩
      show B_X2_isPartOf_2 q1 q2 μ L (nI s) = _
      unfold B_X2_isPartOf_2
      rw [if_neg (g4 hi), if_pos (gI hi (by decide)), if_pos (gI hi (by decide)), nI_clamp (by omega), if_neg (fun e => h0 ((cmp0 _).mp e))]
      rfl
  · rintro s ⟨rfl, hb⟩ L
    have hy := B32_z (B32_and h1.2 (B32_not h2.2))
    show ∃ b, B_X2_isPartOf_2 q1 q2 μ L (nI 4) = _ ∧ _
    unfold B_X2_isPartOf_2
    rw [if_pos (by decide)]
    by_cases h0 : ((μ.1 q1 1) &&& ((μ.1 q2 1) ^^^ (-1))) = 0
    · rw [if_pos h0]
      exact ⟨true, rfl, ⟨fun _ => ⟨hb, fun i hi => (im _ _).mp (hy.mp h0 i hi)⟩, fun _ => rfl⟩⟩
    · rw [if_neg h0]
      exact ⟨false, rfl, ⟨fun e => (by cases e), fun hc => absurd (hy.mpr fun i hi => (im _ _).mpr (hc.2 i hi)) h0⟩⟩
