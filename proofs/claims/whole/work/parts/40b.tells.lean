/-! the reference: all breaches told -/
def scT (k j : Nat) : Prop := (k = 0 ∧ j = 14) ∨ (7 ≤ k ∧ k ≤ 10)
def ft (ν ν' : Mem) : Prop := ∀ k j, ¬ scT k j → ν'.1 k j = ν.1 k j
theorem ft_refl (ν : Mem) : ft ν ν := fun _ _ _ => rfl
theorem ft_trans {ν ν1 ν2 : Mem} (h1 : ft ν ν1) (h2 : ft ν1 ν2) : ft ν ν2 := fun k j h => (h2 k j h).trans (h1 k j h)
theorem ft_up (ν : Mem) {k j : Nat} (x : Int32) (h : scT k j) : ft ν (mu_up ν k j x) := by
  intro k2 j2 h2
  by_cases e : k2 = k
  · subst e
    by_cases e2 : j2 = j
    · subst e2
      exact absurd h h2
    · exact up_j ν k2 x e2
  · rw [up_n ν j x e]
theorem ft_fr {ν ν' : Mem} (h : ft ν ν') : fr ν ν' := fun k j hk => h k j (fun q => hk (by unfold scT at q; unfold scr; omega))
theorem rm_ft {a : AS} {ν ν' : Mem} (r : repM a ν) (f : ft ν ν') : repM a ν' := rm_fr r (ft_fr f)
def lt6 (k : Nat) : Nat := if k = 0 then 97 else if k = 1 then 107 else if k = 2 then 114 else if k = 3 then 110 else if k = 4 then 119 else 104
theorem m_letter : ∀ k, k < 6 → f_X9_letter (nI k) = some (nI (lt6 k)) := by decide +kernel
def ltr (t : Nat) : Nat := if t < 192 then lt6 (t / 32) else 100
def whoI (t : Nat) : Int32 := if t < 192 then nI (t / 8 % 4) else -1
def dayT (t : Nat) : Nat := if t < 192 then t % 8 else (t - 192) / 3
def shI (t : Nat) : Int32 := if t < 192 then -1 else nI ((t - 192) % 3)
def ent (ν : Mem) (n t : Nat) : Prop := ν.1 7 n = nI (ltr t) ∧ ν.1 8 n = whoI t ∧ ν.1 9 n = nI (dayT t) ∧ ν.1 10 n = shI t
def tl (ν : Mem) (n : Nat) (c p d s : Int32) : Mem := mu_up (mu_up (mu_up (mu_up (mu_up ν 7 n c) 8 n p) 9 n d) 10 n s) 0 14 (nI (n + 1))
theorem nar_ltr : ∀ k, k < 6 → vp_nar .char (nI (lt6 k)) = nI (lt6 k) := by decide +kernel
theorem nar_100 : vp_nar .char 100 = 100 := by decide +kernel
theorem m_tells {ν : Mem} {n : Nat} (hn : n < 256) (h14 : ν.1 0 14 = nI n) {c p d s : Int32} (hc : vp_nar .char c = c) : f_X9_tells ν c p d s = some ((), tl ν n c p d s) := by
  have u7 : ∀ (μ : Mem) (j : Nat) (x : Int32), (mu_up μ 7 j x).1 0 = μ.1 0 := fun μ j x => up_n μ j x (by decide)
  have u8 : ∀ (μ : Mem) (j : Nat) (x : Int32), (mu_up μ 8 j x).1 0 = μ.1 0 := fun μ j x => up_n μ j x (by decide)
  have u9 : ∀ (μ : Mem) (j : Nat) (x : Int32), (mu_up μ 9 j x).1 0 = μ.1 0 := fun μ j x => up_n μ j x (by decide)
  have u10 : ∀ (μ : Mem) (j : Nat) (x : Int32), (mu_up μ 10 j x).1 0 = μ.1 0 := fun μ j x => up_n μ j x (by decide)
  have cl : Int32.toNatClampNeg (nI n) = n := nI_clamp (by omega)
  have gi : rv_in (nI n) 256 = true := gI hn (by decide)
  unfold f_X9_tells tl
  simp only [u7, u8, u9, u10, h14, hc, cl, gi, nI_1, ↓reduceIte]
theorem tl_14 (ν : Mem) (n : Nat) (c p d s : Int32) : (tl ν n c p d s).1 0 14 = nI (n + 1) := up_s _ _ _ _
theorem tl_7 (ν : Mem) (n : Nat) (c p d s : Int32) : (tl ν n c p d s).1 7 = upd (ν.1 7) n c := by
  unfold tl
  rw [up_n _ _ _ (by decide), up_n _ _ _ (by decide), up_n _ _ _ (by decide), up_n _ _ _ (by decide), up_k]
theorem tl_8 (ν : Mem) (n : Nat) (c p d s : Int32) : (tl ν n c p d s).1 8 = upd (ν.1 8) n p := by
  unfold tl
  rw [up_n _ _ _ (by decide), up_n _ _ _ (by decide), up_n _ _ _ (by decide), up_k, up_n _ _ _ (by decide)]
theorem tl_9 (ν : Mem) (n : Nat) (c p d s : Int32) : (tl ν n c p d s).1 9 = upd (ν.1 9) n d := by
  unfold tl
  rw [up_n _ _ _ (by decide), up_n _ _ _ (by decide), up_k, up_n _ _ _ (by decide), up_n _ _ _ (by decide)]
theorem tl_10 (ν : Mem) (n : Nat) (c p d s : Int32) : (tl ν n c p d s).1 10 = upd (ν.1 10) n s := by
  unfold tl
  rw [up_n _ _ _ (by decide), up_k, up_n _ _ _ (by decide), up_n _ _ _ (by decide), up_n _ _ _ (by decide)]
theorem ft_tl (ν : Mem) (n : Nat) (c p d s : Int32) : ft ν (tl ν n c p d s) := by
  unfold tl
  exact ft_trans (ft_trans (ft_trans (ft_trans (ft_up ν c (by unfold scT; omega)) (ft_up _ p (by unfold scT; omega))) (ft_up _ d (by unfold scT; omega))) (ft_up _ s (by unfold scT; omega))) (ft_up _ _ (by unfold scT; omega))
/-- the breaches with places below T are told -/
def TL (a : AS) (T : Nat) (ν : Mem) : Prop := ν.1 0 14 = nI (cnt (bt a) T) ∧ ∀ t, t < T → bt a t = true → ent ν (cnt (bt a) t) t
theorem TL_skip {a : AS} {T T' : Nat} {ν : Mem} (h : TL a T ν) (hT : T ≤ T') (hno : ∀ t, T ≤ t → t < T' → bt a t = false) : TL a T' ν := by
  have e : cnt (bt a) T' = cnt (bt a) T := by
    obtain ⟨n, rfl⟩ := Nat.exists_eq_add_of_le hT
    have z : cnt (fun i => bt a (T + i)) n = 0 := cnt_z.mpr (fun i hi => hno (T + i) (by omega) (by omega))
    rw [cnt_app, z]
    rfl
  refine ⟨by rw [e]; exact h.1, fun t ht hb => ?_⟩
  rcases Nat.lt_or_ge t T with h1 | h1
  · exact h.2 t h1 hb
  · rw [hno t h1 ht] at hb
    cases hb
theorem TL_no {a : AS} {T : Nat} {ν : Mem} (h : TL a T ν) (hb : bt a T = false) : TL a (T + 1) ν := TL_skip h (by omega) (fun t h1 h2 => by rw [show t = T by omega]; exact hb)
theorem TL_yes {a : AS} {T : Nat} {ν : Mem} (h : TL a T ν) (hb : bt a T = true) : TL a (T + 1) (tl ν (cnt (bt a) T) (nI (ltr T)) (whoI T) (nI (dayT T)) (shI T)) := by
  refine ⟨?_, fun t ht hbt => ?_⟩
  · rw [tl_14, cnt_succ, if_pos hb]
  · unfold ent
    rw [tl_7, tl_8, tl_9, tl_10]
    rcases Nat.lt_or_ge t T with h1 | h1
    · have h2 := cnt_mono (bt a) (show t + 1 ≤ T by omega)
      rw [cnt_succ, if_pos hbt] at h2
      rw [pk_un (by omega), pk_un (by omega), pk_un (by omega), pk_un (by omega)]
      exact h.2 t h1 hbt
    · rw [show t = T by omega, pk_us, pk_us, pk_us, pk_us]
      exact ⟨rfl, rfl, rfl, rfl⟩
theorem vl_P {a : AS} (h : Inv a) {p d : Nat} (hp : p < 4) (hP : a 0 0 ≤ p) (hd : d < 8) : vl a p d = 0 := iv_valP h _ (cellB hp hd) (by omega)
theorem brk_P {a : AS} (h : Inv a) {k p d : Nat} (hk : k < 6) (hp : p < 4) (hP : a 0 0 ≤ p) (hd : d < 8) : brk a k p d = false := by
  have hv : ∀ d, d < 8 → vl a p d = 0 := fun d hd => vl_P h hp hP hd
  have hk : k = 0 ∨ k = 1 ∨ k = 2 ∨ k = 3 ∨ k = 4 ∨ k = 5 := by omega
  rcases hk with rfl | rfl | rfl | rfl | rfl | rfl
  · exact decide_eq_false (fun q => q.1 (hv d hd))
  · exact decide_eq_false (fun q => q.1 (hv d hd))
  · exact decide_eq_false (fun q => q.1 (hv d hd))
  · have e : rl (ng a p) (d + 1) = 0 := if_neg (by unfold ng isN; rw [hv d hd]; simp)
    exact decide_eq_false (by rw [e]; omega)
  · have e : rl (wd a p) (d + 1) = 0 := if_neg (by unfold wd; rw [hv d hd]; simp)
    exact decide_eq_false (by rw [e]; omega)
  · refine decide_eq_false (fun q => ?_)
    have e : ps (ln a p) (d + a 0 5) ≤ 0 * (d + a 0 5) := ps_le (n := 8) (fun i hi => by unfold ln lnV; rw [hv i hi, if_pos rfl]; exact Nat.le_refl _) _ q.1
    omega
theorem sh_S {a : AS} (h : Inv a) {d j : Nat} (hd : d < 8) (hj : j < 3) (hS : a 0 1 ≤ j) : sh a d j = false := decide_eq_false (by rw [iv_demS h d j hd hj hS]; omega)
theorem m_ta25 {a : AS} {ν : Mem} (h : Inv a) (r : repM a ν) {k p : Nat} (hk : k < 6) (hp : p < 4) (hT : TL a (32 * k + 8 * p) ν) : ∃ ν', repM a ν' ∧ ft ν ν' ∧ TL a (32 * k + 8 * (p + 1)) ν' ∧ ∀ b1 b2, rv_ls (B_X9_tellsAll_25 (nI k) (nI p) b1 b2) (fun _ _ => none) 300 ν (nI 0) = b2 ν' (nI (p + 1)) := by
  have key := lu (β := (Mem → Int32 → Option (Unit × Mem)) × (Mem → Int32 → Option (Unit × Mem))) (fun b => B_X9_tellsAll_25 (nI k) (nI p) b.1 b.2) (fun _ _ => none) (σ := Nat × Mem) (fun s g => g s.2 (nI s.1)) (fun i s => s.1 = i ∧ repM a s.2 ∧ ft ν s.2 ∧ TL a (32 * k + 8 * p + i) s.2) (fun q => ∃ ν', repM a ν' ∧ ft ν ν' ∧ TL a (32 * k + 8 * (p + 1)) ν' ∧ ∀ b, q b = b.2 ν' (nI (p + 1))) 8 ?_ ?_ 300 0 (0, ν) (by omega) (by omega) ⟨rfl, r, ft_refl _, hT⟩
  · obtain ⟨q, ⟨ν', h1, h2, h3, h4⟩, h5⟩ := key
    exact ⟨ν', h1, h2, h3, fun b1 b2 => (h5 (b1, b2)).trans (h4 (b1, b2))⟩
  · rintro i ⟨d, μ⟩ hd ⟨rfl, hr, hf, ht⟩
    have hd : d < 8 := hd
    have hr : repM a μ := hr
    have ht : TL a (32 * k + 8 * p + d) μ := ht
    have hbt := bt_k (a := a) hk hp hd
    cases hb : brk a k p d
    · refine .inr ⟨(d + 1, μ), ⟨rfl, hr, hf, ?_⟩, fun b X => ?_⟩
      · exact TL_no ht (hbt.trans hb)
      · show B_X9_tellsAll_25 (nI k) (nI p) b.1 b.2 X μ (nI d) = X μ (nI (d + 1))
        unfold B_X9_tellsAll_25
        rw [if_neg (g8 hd), m_isBreach h hr hk hp hd, sb, hb, if_pos (by decide), nI_1]
    · have hc := cnt_le (bt a) (32 * k + 8 * p + d)
      have e := m_tells (ν := μ) (n := cnt (bt a) (32 * k + 8 * p + d)) (by omega) ht.1 (c := nI (lt6 k)) (p := nI p) (d := nI d) (s := -1) (nar_ltr k hk)
      have h5 := TL_yes ht (hbt.trans hb)
      have e1 : ltr (32 * k + 8 * p + d) = lt6 k := by unfold ltr; rw [if_pos (by omega), show (32 * k + 8 * p + d) / 32 = k by omega]
      have e2 : whoI (32 * k + 8 * p + d) = nI p := by unfold whoI; rw [if_pos (by omega), show (32 * k + 8 * p + d) / 8 % 4 = p by omega]
      have e3 : dayT (32 * k + 8 * p + d) = d := by unfold dayT; rw [if_pos (by omega), show (32 * k + 8 * p + d) % 8 = d by omega]
      have e4 : shI (32 * k + 8 * p + d) = -1 := by unfold shI; rw [if_pos (by omega)]
      rw [e1, e2, e3, e4] at h5
      refine .inr ⟨(d + 1, _), ⟨rfl, rm_ft hr (ft_tl _ _ _ _ _ _), ft_trans hf (ft_tl _ _ _ _ _ _), h5⟩, fun b X => ?_⟩
      show B_X9_tellsAll_25 (nI k) (nI p) b.1 b.2 X μ (nI d) = X _ (nI (d + 1))
      unfold B_X9_tellsAll_25
      rw [if_neg (g8 hd), m_isBreach h hr hk hp hd, sb, hb, if_neg (by decide), m_letter k hk, sb, e, sb, nI_1]
      rfl
  · rintro ⟨d, μ⟩ ⟨e, hr, hf, ht⟩
    have e : d = 8 := e
    subst e
    refine ⟨fun b => b.2 μ (nI (p + 1)), ⟨μ, hr, hf, ht, fun _ => rfl⟩, fun b X => ?_⟩
    show B_X9_tellsAll_25 (nI k) (nI p) b.1 b.2 X μ (nI 8) = _
    unfold B_X9_tellsAll_25
    rw [if_pos (by decide), nI_1]
theorem m_ta15 {a : AS} {ν : Mem} (h : Inv a) (r : repM a ν) {k : Nat} (hk : k < 6) (hT : TL a (32 * k) ν) : ∃ ν', repM a ν' ∧ ft ν ν' ∧ TL a (32 * (k + 1)) ν' ∧ ∀ b, rv_ls (B_X9_tellsAll_15 (nI k) b) (fun _ _ => none) 300 ν (nI 0) = b ν' (nI (k + 1)) := by
  have hP := iv_P h
  have key := lu (fun b => B_X9_tellsAll_15 (nI k) b) (fun _ _ => none) (σ := Nat × Mem) (fun s g => g s.2 (nI s.1)) (fun i s => s.1 = i ∧ repM a s.2 ∧ ft ν s.2 ∧ TL a (32 * k + 8 * i) s.2) (fun q => ∃ ν', repM a ν' ∧ ft ν ν' ∧ TL a (32 * (k + 1)) ν' ∧ ∀ b, q b = b ν' (nI (k + 1))) (a 0 0) ?_ ?_ 300 0 (0, ν) (by omega) (by omega) ⟨rfl, r, ft_refl _, hT⟩
  · obtain ⟨q, ⟨ν', h1, h2, h3, h4⟩, h5⟩ := key
    exact ⟨ν', h1, h2, h3, fun b => (h5 b).trans (h4 b)⟩
  · rintro i ⟨p, μ⟩ hp ⟨rfl, hr, hf, ht⟩
    have hp : p < a 0 0 := hp
    have hr : repM a μ := hr
    obtain ⟨μ', r', f', t', hL⟩ := m_ta25 h hr hk (show p < 4 by omega) ht
    refine .inr ⟨(p + 1, μ'), ⟨rfl, r', ft_trans hf f', t'⟩, fun b X => ?_⟩
    show B_X9_tellsAll_15 (nI k) b X μ (nI p) = X μ' (nI (p + 1))
    unfold B_X9_tellsAll_15
    rw [rm_P hr, if_neg (nI_ge hp (by omega)), rv_seal]
    exact hL b X
  · rintro ⟨p, μ⟩ ⟨e, hr, hf, ht⟩
    have e : p = a 0 0 := e
    subst e
    have hr : repM a μ := hr
    refine ⟨fun b => b μ (nI (k + 1)), ⟨μ, hr, hf, ?_, fun _ => rfl⟩, fun b X => ?_⟩
    · refine TL_skip ht (by omega) (fun t h1 h2 => ?_)
      have e : t = 32 * k + 8 * (t / 8 % 4) + t % 8 := by omega
      rw [e, bt_k hk (by omega) (by omega)]
      exact brk_P h hk (by omega) (by omega) (by omega)
    · show B_X9_tellsAll_15 (nI k) b X μ (nI (a 0 0)) = _
      unfold B_X9_tellsAll_15
      rw [rm_P hr, if_pos (nI_le (Nat.le_refl _) (by omega)), nI_1]
theorem m_ta80 {a : AS} {ν : Mem} (h : Inv a) (r : repM a ν) {d : Nat} (hd : d < 8) (hT : TL a (192 + 3 * d) ν) : ∃ ν', repM a ν' ∧ ft ν ν' ∧ TL a (192 + 3 * (d + 1)) ν' ∧ ∀ b, rv_ls (B_X9_tellsAll_80 (nI d) b) (fun _ _ => none) 300 ν (nI 0) = b ν' (nI (d + 1)) := by
  have hS := iv_S h
  have key := lu (fun b => B_X9_tellsAll_80 (nI d) b) (fun _ _ => none) (σ := Nat × Mem) (fun s g => g s.2 (nI s.1)) (fun i s => s.1 = i ∧ repM a s.2 ∧ ft ν s.2 ∧ TL a (192 + (3 * d + i)) s.2) (fun q => ∃ ν', repM a ν' ∧ ft ν ν' ∧ TL a (192 + 3 * (d + 1)) ν' ∧ ∀ b, q b = b ν' (nI (d + 1))) (a 0 1) ?_ ?_ 300 0 (0, ν) (by omega) (by omega) ⟨rfl, r, ft_refl _, hT⟩
  · obtain ⟨q, ⟨ν', h1, h2, h3, h4⟩, h5⟩ := key
    exact ⟨ν', h1, h2, h3, fun b => (h5 b).trans (h4 b)⟩
  · rintro i ⟨j, μ⟩ hj ⟨rfl, hr, hf, ht⟩
    have hj : j < a 0 1 := hj
    have hr : repM a μ := hr
    have ht : TL a (192 + (3 * d + j)) μ := ht
    have hdm := iv_dem h (3 * d + j) (by omega)
    have hcs := cntS_le a d j 4
    have hbt : bt a (192 + (3 * d + j)) = sh a d j := by
      rw [bt_s (by omega)]
      unfold shB
      rw [decide_eq_true (by omega), show (3 * d + j) / 3 = d by omega, show (3 * d + j) % 3 = j by omega]
      rfl
    have e0 : ∀ b X, B_X9_tellsAll_80 (nI d) b X μ (nI j) = if nI (a 6 (3 * d + j)) ≤ nI (cntS a d j 4) then X μ (nI (j + 1)) else ((f_X9_tells μ 100 (-1) (nI d) (nI j)).bind fun r7 => X r7.2 (nI (j + 1))) := by
      intro b X
      unfold B_X9_tellsAll_80
      rw [rm_S hr, if_neg (nI_ge hj (by omega)), m_onShift h hr hd (by omega), sb, i3, if_pos (gI (by omega) (by decide)), nI_clamp (by omega), rm_dem hr _ (by omega), nI_1]
    cases hb : sh a d j
    · refine .inr ⟨(j + 1, μ), ⟨rfl, hr, hf, ?_⟩, fun b X => ?_⟩
      · exact TL_no ht (hbt.trans hb)
      · show B_X9_tellsAll_80 (nI d) b X μ (nI j) = X μ (nI (j + 1))
        have : ¬ (cntS a d j 4 < a 6 (3 * d + j)) := of_decide_eq_false hb
        rw [e0, if_pos (nI_le (by omega) (by omega))]
    · have hc := cnt_le (bt a) (192 + (3 * d + j))
      have e := m_tells (ν := μ) (n := cnt (bt a) (192 + (3 * d + j))) (by omega) ht.1 (c := 100) (p := -1) (d := nI d) (s := nI j) nar_100
      have h5 := TL_yes ht (hbt.trans hb)
      have e1 : nI (ltr (192 + (3 * d + j))) = 100 := by unfold ltr; rw [if_neg (by omega)]; rfl
      have e2 : whoI (192 + (3 * d + j)) = -1 := by unfold whoI; rw [if_neg (by omega)]
      have e3 : dayT (192 + (3 * d + j)) = d := by unfold dayT; rw [if_neg (by omega)]; omega
      have e4 : shI (192 + (3 * d + j)) = nI j := by unfold shI; rw [if_neg (by omega), show (192 + (3 * d + j) - 192) % 3 = j by omega]
      rw [e1, e2, e3, e4] at h5
      refine .inr ⟨(j + 1, _), ⟨rfl, rm_ft hr (ft_tl _ _ _ _ _ _), ft_trans hf (ft_tl _ _ _ _ _ _), h5⟩, fun b X => ?_⟩
      show B_X9_tellsAll_80 (nI d) b X μ (nI j) = X _ (nI (j + 1))
      have : cntS a d j 4 < a 6 (3 * d + j) := of_decide_eq_true hb
      rw [e0, if_neg (nI_ge (by omega) (by omega)), e, sb]
      rfl
  · rintro ⟨j, μ⟩ ⟨e, hr, hf, ht⟩
    have e : j = a 0 1 := e
    subst e
    have hr : repM a μ := hr
    refine ⟨fun b => b μ (nI (d + 1)), ⟨μ, hr, hf, ?_, fun _ => rfl⟩, fun b X => ?_⟩
    · refine TL_skip ht (by omega) (fun t h1 h2 => ?_)
      obtain ⟨i, rfl⟩ := Nat.exists_eq_add_of_le (show 192 ≤ t by omega)
      rw [bt_s (by omega)]
      unfold shB
      rw [show i / 3 = d by omega, sh_S h hd (by omega) (by omega)]
      simp
    · show B_X9_tellsAll_80 (nI d) b X μ (nI (a 0 1)) = _
      unfold B_X9_tellsAll_80
      rw [rm_S hr, if_pos (nI_le (Nat.le_refl _) (by omega)), nI_1]
theorem m_tellsAll {a : AS} {ν : Mem} (h : Inv a) (r : repM a ν) : ∃ ν', f_X9_tellsAll ν = some ((), ν') ∧ repM a ν' ∧ ft ν ν' ∧ TL a 216 ν' := by
  have f0 : ft ν (mu_up ν 0 14 0) := ft_up ν 0 (by unfold scT; omega)
  unfold f_X9_tellsAll
  rw [rv_seal]
  have key := lp B_X9_tellsAll_7 (fun _ _ => none) (σ := Nat × Mem) (fun s g => g s.2 (nI s.1)) (fun i s => s.1 = i ∧ repM a s.2 ∧ ft ν s.2 ∧ TL a (32 * i) s.2) (fun x => ∃ ν', x = some ((), ν') ∧ repM a ν' ∧ ft ν ν' ∧ TL a 216 ν') 6 ?_ ?_ 300 0 (0, mu_up ν 0 14 0) (by omega) (by omega) ⟨rfl, rm_ft r f0, f0, ⟨by rw [show 32 * 0 = 0 from rfl, cnt_0]; exact up_s _ _ _ _, fun t ht => by omega⟩⟩
  · exact key
  · rintro i ⟨k, μ⟩ hk ⟨rfl, hr, hf, ht⟩
    have hk : k < 6 := hk
    obtain ⟨μ', r', f', t', hL⟩ := m_ta15 h hr hk ht
    refine .inr ⟨(k + 1, μ'), ⟨rfl, r', ft_trans hf f', t'⟩, fun L => ?_⟩
    show B_X9_tellsAll_7 L μ (nI k) = L μ' (nI (k + 1))
    unfold B_X9_tellsAll_7
    rw [if_neg (g6 hk), rv_seal]
    exact hL L
  · rintro ⟨k, μ⟩ ⟨e, hr, hf, ht⟩ L
    have e : k = 6 := e
    subst e
    show ∃ ν', B_X9_tellsAll_7 L μ (nI 6) = _ ∧ _
    unfold B_X9_tellsAll_7
    rw [if_pos (by decide), rv_seal]
    have key := lp B_X9_tellsAll_72 (fun _ _ => none) (σ := Nat × Mem) (fun s g => g s.2 (nI s.1)) (fun i s => s.1 = i ∧ repM a s.2 ∧ ft ν s.2 ∧ TL a (192 + 3 * i) s.2) (fun x => ∃ ν', x = some ((), ν') ∧ repM a ν' ∧ ft ν ν' ∧ TL a 216 ν') 8 ?_ ?_ 300 0 (0, μ) (by omega) (by omega) ⟨rfl, hr, hf, ht⟩
    · exact key
    · rintro i ⟨d, μ⟩ hd ⟨rfl, hr, hf, ht⟩
      have hd : d < 8 := hd
      obtain ⟨μ', r', f', t', hL⟩ := m_ta80 h hr hd ht
      refine .inr ⟨(d + 1, μ'), ⟨rfl, r', ft_trans hf f', t'⟩, fun L => ?_⟩
      show B_X9_tellsAll_72 L μ (nI d) = L μ' (nI (d + 1))
      unfold B_X9_tellsAll_72
      rw [if_neg (g8 hd), rv_seal]
      exact hL L
    · rintro ⟨d, μ⟩ ⟨e, hr, hf, ht⟩ L
      have e : d = 8 := e
      subst e
      refine ⟨μ, ?_, hr, hf, ht⟩
      show B_X9_tellsAll_72 L μ (nI 8) = _
      unfold B_X9_tellsAll_72
      rw [if_pos (by decide)]
