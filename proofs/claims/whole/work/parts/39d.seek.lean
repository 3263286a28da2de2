/-! the class: the size of the least set -/
theorem cnt_z {f : Nat → Bool} {n : Nat} : cnt f n = 0 ↔ ∀ i, i < n → f i = false := by
  constructor
  · intro h i hi
    by_cases hf : f i = true
    · have h1 := cnt_mono f (show i + 1 ≤ n by omega)
      rw [cnt_succ, if_pos hf] at h1
      omega
    · simpa using hf
  · intro h
    rcases Nat.eq_zero_or_pos (cnt f n) with h0 | h0
    · exact h0
    · obtain ⟨t, ht, hf, _⟩ := cnt_find (f := f) (n := 0) n h0
      rw [h t ht] at hf
      cases hf
theorem LW_nB (a : AS) : LW a ↔ nB a = 0 := cnt_z.symm
/-- t is the place of the first breach -/
def fb (a : AS) (t : Nat) : Prop := t < 216 ∧ bt a t = true ∧ cnt (bt a) t = 0
theorem fb_ex {a : AS} (h : ¬ LW a) : ∃ t, fb a t := by
  rw [LW_nB] at h
  obtain ⟨t, ht, hf, hc⟩ := cnt_find (f := bt a) (n := 0) 216 (show 0 < nB a by omega)
  exact ⟨t, ht, hf, hc⟩
theorem fb_u {a : AS} {t s : Nat} (h : fb a t) (h' : fb a s) : t = s := cnt_uniq h.2.1 h'.2.1 (h.2.2.trans h'.2.2.symm)
theorem x_first {a : AS} {μ : Mem} (h : Inv a) (r : repX a μ) {q : Nat} (hF : FD q a μ) (hn : ¬ LW a) : ∃ m, BP m (fun c => ∃ t, fb a t ∧ inT a t c) ∧ ∀ {γ : Type} (K : Int32 → Option γ), ((f_X2_breachAt q μ 0).bind fun r14 => (f_X4_touching μ r14).bind fun r15 => K r15) = K m := by
  obtain ⟨t, ht⟩ := fb_ex hn
  obtain ⟨y, ey, hy⟩ := x_touching h r ht.1 ht.2.1
  have eb : f_X2_breachAt q μ 0 = some (nI (pk t)) := x_breachAt hF (n := 0) (by decide) (some (nI (pk t))) (fun s h1 h2 h3 => by rw [fb_u ht ⟨h1, h2, h3⟩]) (fun h0 => absurd ((LW_nB a).mpr (by omega)) hn)
  refine ⟨y, fun c hc => (hy c hc).trans ⟨fun q => ⟨t, ht, q⟩, fun ⟨s, hs, q⟩ => by rw [fb_u ht hs]; exact q⟩, fun K => ?_⟩
  rw [eb, sb, ey, sb]
def gF (a : AS) (c : Nat) : Prop := ∃ t, fb a t ∧ inT a t c
def gM (a : AS) (c v c2 : Nat) : Prop := c2 ≠ c ∧ gF (sc a c v) c2
def aT (_ : Nat) : Prop := True
def aF (c _ c2 : Nat) : Prop := c < c2
theorem in_first {a a' : AS} (h : Inv a) (hag : ag a a') (hL : LW a') (hn : ¬ LW a) : ∃ c, c < 32 ∧ gF a c ∧ a' 3 c ≠ a 3 c := by
  obtain ⟨t, ht⟩ := fb_ex hn
  by_cases hx : ∃ c, c < 32 ∧ inT a t c ∧ a' 3 c ≠ a 3 c
  · obtain ⟨c, h1, h2, h3⟩ := hx
    exact ⟨c, h1, ⟨t, ht, h2⟩, h3⟩
  · have := bt_stay h hag ht.1 ht.2.1 (fun c hc hi => Classical.byContradiction fun q => hx ⟨c, hc, hi, q⟩)
    rw [hL t ht.1] at this
    cases this
theorem G1_g {a : AS} (h : Inv a) (hn : ¬ LW a) {c v : Nat} : G1 a (gF a) c v ↔ G1 a aT c v := by
  constructor
  · rintro ⟨h1, h2, h3, _, h5⟩
    exact ⟨h1, h2, h3, trivial, h5⟩
  · rintro ⟨h1, h2, h3, _, h5⟩
    obtain ⟨c', _, h6, h7⟩ := in_first h (ag_sc a c v) h5 hn
    by_cases hc : c' = c
    · rw [hc] at h6
      exact ⟨h1, h2, h3, h6, h5⟩
    · exact absurd (sc_o a c v hc) h7
theorem G2_mk {a : AS} (h : Inv a) (hn1 : ∀ c v, ¬ G1 a aT c v) {c v c2 v2 : Nat} (hc : c < 8 * a 0 0) (hv : v ≤ a 0 1) (hvn : v ≠ a 3 c) (hc2 : c2 < 8 * a 0 0) (hv2 : v2 ≤ a 0 1) (hvn2 : v2 ≠ a 3 c2) (hcc : c2 ≠ c) (hL : LW (sc (sc a c v) c2 v2)) (hf : gF a c) : G2 a (gF a) (gM a) c v := by
  have hn : ¬ LW (sc a c v) := fun q => hn1 c v ⟨hc, hv, hvn, trivial, q⟩
  obtain ⟨c', _, h6, h7⟩ := in_first (sc_inv h hc hv) (ag_sc (sc a c v) c2 v2) hL hn
  have e : c' = c2 := Classical.byContradiction fun q => h7 (sc_o _ _ _ q)
  rw [e] at h6
  exact ⟨hc, hv, hvn, hf, c2, v2, hc2, hv2, by rw [sc_o a c v hcc]; exact hvn2, ⟨hcc, h6⟩, hL⟩
theorem G2_g {a : AS} (h : Inv a) (hn : ¬ LW a) (hn1 : ∀ c v, ¬ G1 a aT c v) : (∃ c v, G2 a (gF a) (gM a) c v) ↔ ∃ c v, G2 a aT aF c v := by
  constructor
  · rintro ⟨c, v, h1, h2, h3, _, c2, v2, h5, h6, h7, ⟨h8, _⟩, h9⟩
    have h7 : v2 ≠ a 3 c2 := by rw [sc_o a c v h8] at h7; exact h7
    rcases Nat.lt_trichotomy c c2 with q | q | q
    · exact ⟨c, v, h1, h2, h3, trivial, c2, v2, h5, h6, by rw [sc_o a c v h8]; exact h7, q, h9⟩
    · exact absurd q.symm h8
    · refine ⟨c2, v2, h5, h6, h7, trivial, c, v, h1, h2, by rw [sc_o a c2 v2 (by omega)]; exact h3, q, ?_⟩
      rw [sc_comm a (by omega)]
      exact h9
  · rintro ⟨c, v, h1, h2, h3, _, c2, v2, h5, h6, h7, h8, h9⟩
    have h8 : c < c2 := h8
    have h7 : v2 ≠ a 3 c2 := by rw [sc_o a c v (by omega)] at h7; exact h7
    obtain ⟨c', _, g1, g2⟩ := in_first h (ag_tr (ag_sc a c v) (ag_sc _ c2 v2)) h9 hn
    by_cases e : c' = c
    · rw [e] at g1
      exact ⟨c, v, G2_mk h hn1 h1 h2 h3 h5 h6 h7 (by omega) h9 g1⟩
    · by_cases e2 : c' = c2
      · rw [e2] at g1
        refine ⟨c2, v2, G2_mk h hn1 h5 h6 h7 h1 h2 h3 (by omega) ?_ g1⟩
        rw [sc_comm a (by omega)]
        exact h9
      · exact absurd ((sc_o _ _ _ e2).trans (sc_o _ _ _ e)) g2
theorem aft : ∀ c, c < 32 → ∀ i, i < 32 → (((-1 : Int32) <<< (nI c &&& 31)) <<< ((1 : Int32) &&& 31)).toBitVec.getLsbD i = decide (c < i) := by decide +kernel
theorem mskd_all (a : AS) (h : Inv a) : mskd a aT aF 0 := by
  have hP := iv_P h
  intro c v μ' hc _ _ _ _ _
  refine ⟨((-1 : Int32) <<< (nI c &&& 31)) <<< ((1 : Int32) &&& 31), fun i hi => ?_, fun K => ?_⟩
  · rw [aft c (by omega) i hi, decide_eq_true_eq]
    exact Iff.rfl
  · rw [if_pos rfl]
    rfl
theorem mskd_g (a : AS) (h : Inv a) (hn1 : ∀ c v, ¬ G1 a aT c v) : mskd a (gF a) (gM a) 1 := by
  have hP := iv_P h
  intro c v μ' hc hv hvn _ r f
  obtain ⟨m, hm, hK⟩ := x_first (sc_inv h hc hv) r f (fun q => hn1 c v ⟨hc, hv, hvn, trivial, q⟩)
  refine ⟨m &&& ((1 <<< (nI c &&& 31)) ^^^ (-1)), fun i hi => ?_, fun K => ?_⟩
  · have e := B32_and (x := m) (f := fun i => m.toBitVec.getLsbD i) (fun i _ => rfl) (B32_not (B32_one (show c < 32 by omega))) i hi
    rw [e]
    show (m.toBitVec.getLsbD i && !decide (i = c)) = true ↔ (i ≠ c ∧ gF (sc a c v) i)
    rw [Bool.and_eq_true, hm i hi, Bool.not_eq_true', decide_eq_false_iff_not]
    exact ⟨fun q => ⟨q.2, q.1⟩, fun q => ⟨q.2, q.1⟩⟩
  · rw [if_neg (by decide)]
    exact hK (fun z => K (z &&& ((1 <<< (nI c &&& 31)) ^^^ (-1))))
theorem BP_all : BP (-1) aT := fun c hc => ⟨fun _ => trivial, fun _ => B32_m1 c hc⟩
/-- what the class's search finds -/
theorem x_seek0 {a : AS} {μ : Mem} (h : Inv a) (r : repX a μ) : ∃ z μ', f_X4_seek μ 0 = some (z, μ') ∧ repX a μ' ∧ ((LW a ∧ z = 0) ∨ (¬ LW a ∧ z = 1 ∧ ∃ c v, FIRST (G1 a aT) c v ∧ μ'.1 21 0 = nI c ∧ μ'.1 22 0 = nI v) ∨ (¬ LW a ∧ (∀ c v, ¬ G1 a aT c v) ∧ z = 2 ∧ ∃ c v c2 v2, FIRST (G2 a aT aF) c v ∧ FIRST (G1 (sc a c v) (aF c v)) c2 v2 ∧ noted2 c v c2 v2 μ') ∨ (¬ LW a ∧ (∀ c v, ¬ G1 a aT c v) ∧ (∀ c v, ¬ G2 a aT aF c v) ∧ z = -1)) := by
  obtain ⟨μ1, e1, r1, f1, q1⟩ := x_look h r (q := 18) (.inr (.inr rfl))
  have hle := nB_le a
  unfold f_X4_seek
  rw [e1, sb, x_size f1, sb]
  by_cases hL : LW a
  · rw [if_pos (by rw [(LW_nB a).mp hL]; rfl)]
    exact ⟨0, μ1, rfl, r1, .inl ⟨hL, rfl⟩⟩
  · rw [if_neg (by rw [show (0 : Int32) = nI 0 from rfl, nI_eq (by omega) (by omega)]; exact fun q => hL ((LW_nB a).mpr q)), if_pos rfl]
    unfold b_X4_seek_43
    obtain ⟨b, μ2, e2, r2, f2, q2, o2, y2, n2⟩ := x_findLast h r1 f1 BP_all (pl := 0) (by decide)
    have e2 : f_X4_findLast μ1 (-1) 0 = some (bI b, μ2) := e2
    rw [e2, sb]
    cases hb : b
    · rw [if_pos (show (bI false, μ2).1 = 0 from rfl)]
      obtain ⟨b3, μ3, e3, r3, y3, n3⟩ := x_findTwo h r2 f2 BP_all (mskd_all a h)
      rw [e3, sb]
      cases hb3 : b3
      · exact ⟨-1, μ3, rfl, r3, .inr (.inr (.inr ⟨hL, n2 hb, n3 hb3, rfl⟩))⟩
      · exact ⟨2, μ3, rfl, r3, .inr (.inr (.inl ⟨hL, n2 hb, rfl, y3 hb3⟩))⟩
    · exact ⟨1, μ2, rfl, r2, .inr (.inl ⟨hL, rfl, y2 hb⟩)⟩
theorem x_seek1 {a : AS} {μ : Mem} (h : Inv a) (r : repX a μ) : ∃ z μ', f_X4_seek μ 1 = some (z, μ') ∧ repX a μ' ∧ ((LW a ∧ z = 0) ∨ (¬ LW a ∧ z = 1 ∧ ∃ c v, G1 a aT c v) ∨ (¬ LW a ∧ (∀ c v, ¬ G1 a aT c v) ∧ z = 2 ∧ ∃ c v, G2 a aT aF c v) ∨ (¬ LW a ∧ (∀ c v, ¬ G1 a aT c v) ∧ (∀ c v, ¬ G2 a aT aF c v) ∧ z = -1)) := by
  obtain ⟨μ1, e1, r1, f1, q1⟩ := x_look h r (q := 18) (.inr (.inr rfl))
  have hle := nB_le a
  unfold f_X4_seek
  rw [e1, sb, x_size f1, sb]
  by_cases hL : LW a
  · rw [if_pos (by rw [(LW_nB a).mp hL]; rfl)]
    exact ⟨0, μ1, rfl, r1, .inl ⟨hL, rfl⟩⟩
  · rw [if_neg (by rw [show (0 : Int32) = nI 0 from rfl, nI_eq (by omega) (by omega)]; exact fun q => hL ((LW_nB a).mpr q)), if_neg (by decide)]
    obtain ⟨m, hm, hK⟩ := x_first h r1 f1 hL
    rw [hK (fun r10 => b_X4_seek_43 μ1 1 r10)]
    unfold b_X4_seek_43
    obtain ⟨b, μ2, e2, r2, f2, q2, o2, y2, n2⟩ := x_findLast h r1 f1 (f := gF a) hm (pl := 0) (by decide)
    have e2 : f_X4_findLast μ1 m 0 = some (bI b, μ2) := e2
    rw [e2, sb]
    cases hb : b
    · rw [if_pos (show (bI false, μ2).1 = 0 from rfl)]
      have hn1 : ∀ c v, ¬ G1 a aT c v := fun c v q => n2 hb c v ((G1_g h hL).mpr q)
      obtain ⟨b3, μ3, e3, r3, y3, n3⟩ := x_findTwo h r2 f2 (f := gF a) hm (mskd_g a h hn1)
      rw [e3, sb]
      cases hb3 : b3
      · exact ⟨-1, μ3, rfl, r3, .inr (.inr (.inr ⟨hL, hn1, fun c v q => (by
          obtain ⟨c', v', q'⟩ := (G2_g h hL hn1).mpr ⟨c, v, q⟩
          exact n3 hb3 c' v' q'), rfl⟩))⟩
      · obtain ⟨c, v, _, _, q, _⟩ := y3 hb3
        exact ⟨2, μ3, rfl, r3, .inr (.inr (.inl ⟨hL, hn1, rfl, (G2_g h hL hn1).mp ⟨c, v, q.1⟩⟩))⟩
    · obtain ⟨c, v, q, _⟩ := y2 hb
      exact ⟨1, μ2, rfl, r2, .inr (.inl ⟨hL, rfl, c, v, (G1_g h hL).mp q.1⟩)⟩
