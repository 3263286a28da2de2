/-! what a roster is, and how the class and the reference hold it -/
abbrev AS : Type := Nat → Nat → Nat
/-- 0: persons, shifts, rest, nights, run, span, limit; 1 starts, 2 lengths, 3 what each cell has (0 free, else the shift + 1), 4 absent, 5 skills, 6 demands, 7 how many changes mend() made, 8 their cells, 9 their values -/
def Inv (a : AS) : Prop := a 0 0 ≤ 4 ∧ a 0 1 ≤ 3 ∧ a 0 2 ≤ 2000 ∧ (1 ≤ a 0 3 ∧ a 0 3 ≤ 8) ∧ (1 ≤ a 0 4 ∧ a 0 4 ≤ 8) ∧ (1 ≤ a 0 5 ∧ a 0 5 ≤ 8) ∧ a 0 6 ≤ 6000 ∧ (∀ j, j < 3 → a 1 j < 1440) ∧ (∀ j, j < 3 → a 2 j ≤ 720) ∧ (∀ c, c < 32 → a 3 c ≤ a 0 1) ∧ (∀ c, c < 32 → 8 * a 0 0 ≤ c → a 3 c = 0) ∧ (∀ c, c < 32 → a 4 c ≤ 1) ∧ (∀ c, c < 12 → a 5 c ≤ 1) ∧ (∀ c, c < 24 → a 6 c ≤ 4) ∧ (∀ d j, d < 8 → j < 3 → a 0 1 ≤ j → a 6 (3 * d + j) = 0) ∧ a 7 0 ≤ 2
/-- how many persons below p have the shift j on the day d -/
def cntS (a : AS) (d j : Nat) : Nat → Nat
  | 0 => 0
  | p + 1 => cntS a d j p + if a 3 (8 * p + d) = j + 1 then 1 else 0
def repX (a : AS) (μ : Mem) : Prop := μ.1 6 4 = nI (a 0 0) ∧ μ.1 1 2 = nI (a 0 1) ∧ μ.1 4 1 = nI (a 0 2) ∧ μ.1 4 2 = nI (a 0 3) ∧ μ.1 4 3 = nI (a 0 4) ∧ μ.1 4 4 = nI (a 0 5) ∧ μ.1 4 5 = nI (a 0 6) ∧ (∀ j, j < 3 → μ.1 2 j = nI (a 1 j)) ∧ (∀ j, j < 3 → μ.1 3 j = nI (a 2 j)) ∧ (∀ c, c < 32 → μ.1 7 c = nI (a 3 c)) ∧ (∀ c, c < 32 → μ.1 8 c = nI (a 4 c)) ∧ (∀ c, c < 12 → μ.1 9 c = nI (a 5 c)) ∧ (∀ c, c < 24 → μ.1 5 c = nI (a 6 c)) ∧ (∀ d j, d < 8 → j < 3 → μ.1 10 (3 * d + j) = nI (cntS a d j 4)) ∧ μ.1 23 2 = nI (a 7 0) ∧ (∀ j, j < a 7 0 → μ.1 24 j = nI (a 8 j)) ∧ (∀ j, j < a 7 0 → μ.1 25 j = nI (a 9 j)) ∧ (∀ q, q = 13 ∨ q = 15 ∨ q = 18 → ∀ i, 24 ≤ i → i < 32 → (μ.1 q 1).toBitVec.getLsbD i = false)
def repM (a : AS) (ν : Mem) : Prop := ν.1 0 1 = nI (a 0 0) ∧ ν.1 0 2 = nI (a 0 1) ∧ ν.1 0 9 = nI (a 0 2) ∧ ν.1 0 10 = nI (a 0 3) ∧ ν.1 0 11 = nI (a 0 4) ∧ ν.1 0 12 = nI (a 0 5) ∧ ν.1 0 13 = nI (a 0 6) ∧ (∀ j, j < 3 → ν.1 1 j = nI (a 1 j)) ∧ (∀ j, j < 3 → ν.1 2 j = nI (a 2 j)) ∧ (∀ c, c < 32 → ν.1 3 c = nI (a 3 c) - 1) ∧ (∀ c, c < 32 → ν.1 4 c = nI (a 4 c)) ∧ (∀ c, c < 12 → ν.1 5 c = nI (a 5 c)) ∧ (∀ c, c < 24 → ν.1 6 c = nI (a 6 c)) ∧ ν.1 0 22 = nI (a 7 0) ∧ (∀ j, j < a 7 0 → ν.1 14 j = nI (a 8 j)) ∧ (∀ j, j < a 7 0 → ν.1 15 j = nI (a 9 j))
def Rel (μ ν : Mem) : Prop := ∃ a : AS, Inv a ∧ repX a μ ∧ repM a ν
def me0 : Mem := (fun _ _ => 0, fun _ _ => 0)
def mu0 : Mem := mu_up (mu_up (mu_up (mu_up (mu_up me0 4 1 660) 4 2 3) 4 3 6) 4 4 7) 4 5 2880
def nu0 : Mem := mu_up (mu_up (mu_up (mu_up (mu_up (fun k j => if k = 3 then (if j < 32 then -1 else 0) else 0, fun _ _ => 0) 0 9 660) 0 10 3) 0 11 6) 0 12 7) 0 13 2880
