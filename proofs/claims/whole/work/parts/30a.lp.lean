/-! numbers -/
def zI (z : Int) : Int32 := Int32.ofInt z
theorem zI_n (n : Nat) : nI n = zI n := rfl
theorem zI_add (a b : Int) : zI a + zI b = zI (a + b) := (Int32.ofInt_add a b).symm
theorem zI_sub (a b : Int) : zI a - zI b = zI (a - b) := (Int32.ofInt_sub a b).symm
theorem zI_mul (a b : Int) : zI a * zI b = zI (a * b) := (Int32.ofInt_mul a b).symm
theorem zI_T {z : Int} (h1 : -2147483648 ≤ z) (h2 : z < 2147483648) : (zI z).toInt = z := Int32.toInt_ofInt_of_le h1 h2
theorem zI_le {a b : Int} (h1 : -2147483648 ≤ a) (h2 : a < 2147483648) (h3 : -2147483648 ≤ b) (h4 : b < 2147483648) : (zI a ≤ zI b) = (a ≤ b) := by
  rw [Int32.le_iff_toInt_le, zI_T h1 h2, zI_T h3 h4]
theorem zI_lt {a b : Int} (h1 : -2147483648 ≤ a) (h2 : a < 2147483648) (h3 : -2147483648 ≤ b) (h4 : b < 2147483648) : (zI a < zI b) = (a < b) := by
  rw [Int32.lt_iff_toInt_lt, zI_T h1 h2, zI_T h3 h4]
theorem zI_eq {a b : Int} (h1 : -2147483648 ≤ a) (h2 : a < 2147483648) (h3 : -2147483648 ≤ b) (h4 : b < 2147483648) : (zI a = zI b) = (a = b) := by
  refine propext ⟨fun e => ?_, fun e => by rw [e]⟩
  have := congrArg Int32.toInt e
  rwa [zI_T h1 h2, zI_T h3 h4] at this
theorem zI_in {z : Int} {n : Nat} (h1 : -2147483648 ≤ z) (h2 : z < 2147483648) : rv_in (zI z) n = decide (0 ≤ z ∧ z < n) := by
  unfold rv_in
  rw [zI_T h1 h2]
theorem zI_cl {z : Int} (h1 : 0 ≤ z) (h2 : z < 2147483648) : Int32.toNatClampNeg (zI z) = z.toNat := by
  unfold Int32.toNatClampNeg
  rw [zI_T (by omega) h2]
theorem zm1 : (-1 : Int32) = zI (-1) := rfl
theorem y0 : (0 : Int32) = zI 0 := rfl
theorem y1 : (1 : Int32) = zI 1 := rfl
theorem y2 : (2 : Int32) = zI 2 := rfl
theorem y3 : (3 : Int32) = zI 3 := rfl
theorem y4 : (4 : Int32) = zI 4 := rfl
theorem y5 : (5 : Int32) = zI 5 := rfl
theorem y6 : (6 : Int32) = zI 6 := rfl
theorem y7 : (7 : Int32) = zI 7 := rfl
theorem y8 : (8 : Int32) = zI 8 := rfl
theorem y12 : (12 : Int32) = zI 12 := rfl
theorem y24 : (24 : Int32) = zI 24 := rfl
theorem y32 : (32 : Int32) = zI 32 := rfl
theorem y216 : (216 : Int32) = zI 216 := rfl
theorem y256 : (256 : Int32) = zI 256 := rfl
theorem y192 : (192 : Int32) = zI 192 := rfl
theorem y1440 : (1440 : Int32) = zI 1440 := rfl
theorem ym1440 : (-1440 : Int32) = zI (-1440) := rfl
theorem y1620 : (1620 : Int32) = zI 1620 := rfl
theorem y2000 : (2000 : Int32) = zI 2000 := rfl
theorem ym2000 : (-2000 : Int32) = zI (-2000) := rfl
theorem y720 : (720 : Int32) = zI 720 := rfl
theorem y1439 : (1439 : Int32) = zI 1439 := rfl
theorem y6000 : (6000 : Int32) = zI 6000 := rfl
theorem y97 : (97 : Int32) = zI 97 := rfl
theorem y100 : (100 : Int32) = zI 100 := rfl
theorem y104 : (104 : Int32) = zI 104 := rfl
theorem y107 : (107 : Int32) = zI 107 := rfl
theorem y110 : (110 : Int32) = zI 110 := rfl
theorem y114 : (114 : Int32) = zI 114 := rfl
theorem y119 : (119 : Int32) = zI 119 := rfl
theorem sb {α β : Type} (x : α) (f : α → Option β) : (some x).bind f = f x := rfl
/-- a loop, sealed, so that nothing unrolls it -/
theorem rv_ls_ex (α : Type) : ∃ g : (α → α) → α → Nat → α, ∀ F z n, g F z n = rv_loop F z n := ⟨rv_loop, fun _ _ _ => rfl⟩
noncomputable def rv_ls {α : Type} : (α → α) → α → Nat → α := Classical.choose (rv_ls_ex α)
theorem rv_seal {α : Type} (F : α → α) (z : α) (n : Nat) : rv_loop F z n = rv_ls F z n := (Classical.choose_spec (rv_ls_ex α) F z n).symm
theorem rv_ls_s {α : Type} (F : α → α) (z : α) (n : Nat) : rv_ls F z (n + 1) = F (rv_ls F z n) := by
  rw [← rv_seal, ← rv_seal]
  rfl
/-- a loop with an invariant over a counted state; each step of the body ends, or goes on -/
theorem lp {α ρ σ : Type} (F : α → α) (z : α) (ap : σ → α → ρ) (I : Nat → σ → Prop) (P : ρ → Prop) (e : Nat)
    (hs : ∀ i s, i < e → I i s → (∀ L, P (ap s (F L))) ∨ ∃ s', I (i + 1) s' ∧ ∀ L, ap s (F L) = ap s' L)
    (he : ∀ s, I e s → ∀ L, P (ap s (F L))) : ∀ n i s, i ≤ e → e - i < n → I i s → P (ap s (rv_ls F z n)) := by
  intro n
  induction n with
  | zero => intro i s _ h _; omega
  | succ n ih =>
    intro i s hi hn hI
    rw [rv_ls_s]
    rcases Nat.lt_or_ge i e with hlt | hge
    · rcases hs i s hlt hI with h | ⟨s', hI', h⟩
      · exact h _
      · rw [h]
        exact ih (i + 1) s' hlt (by omega) hI'
    · obtain rfl : i = e := by omega
      exact he s hI _
/-- the same where the state is a function of the count and nothing ends the loop early -/
theorem lq {α ρ : Type} (F : α → α) (z : α) (ap : Nat → α → ρ) (r : ρ) (e : Nat)
    (hs : ∀ i L, i < e → ap i (F L) = ap (i + 1) L) (he : ∀ L, ap e (F L) = r) (n i : Nat) (hi : i ≤ e) (hn : e - i < n) : ap i (rv_ls F z n) = r :=
  lp F z ap (fun i j => j = i) (fun x => x = r) e (fun i s hi h => .inr ⟨i + 1, rfl, fun L => by rw [h]; exact hs i L hi⟩) (fun s h L => by rw [h]; exact he L) n i i hi hn rfl
/-- a loop that looks for the first place where something holds -/
theorem lf {α ρ : Type} (F : α → α) (z : α) (ap : Nat → α → ρ) (b : Nat → Bool) (yes : Nat → ρ) (no : ρ) (e : Nat)
    (hs : ∀ i L, i < e → ap i (F L) = if b i = true then yes i else ap (i + 1) L) (he : ∀ L, ap e (F L) = no) (n i : Nat) (hi : i ≤ e) (hn : e - i < n) :
    (∃ j, i ≤ j ∧ j < e ∧ b j = true ∧ (∀ k, i ≤ k → k < j → b k = false) ∧ ap i (rv_ls F z n) = yes j) ∨ ((∀ k, i ≤ k → k < e → b k = false) ∧ ap i (rv_ls F z n) = no) := by
  refine lp F z ap (fun k j => j = k ∧ i ≤ k ∧ ∀ l, i ≤ l → l < k → b l = false) (fun x => (∃ j, i ≤ j ∧ j < e ∧ b j = true ∧ (∀ k, i ≤ k → k < j → b k = false) ∧ x = yes j) ∨ ((∀ k, i ≤ k → k < e → b k = false) ∧ x = no)) e ?_ ?_ n i i hi hn ⟨rfl, Nat.le_refl _, fun l _ _ => by omega⟩
  · rintro k s hk ⟨rfl, hik, hno⟩
    cases hb : b s
    · refine .inr ⟨s + 1, ⟨rfl, by omega, fun l h1 h2 => ?_⟩, fun L => by rw [hs s L hk, hb]; rfl⟩
      rcases Nat.lt_or_ge l s with h3 | h3
      · exact hno l h1 h3
      · obtain rfl : l = s := by omega
        exact hb
    · exact .inl fun L => .inl ⟨s, hik, hk, hb, hno, by rw [hs s L hk, hb]; rfl⟩
  · rintro s ⟨rfl, hik, hno⟩ L
    exact .inr ⟨hno, he L⟩
