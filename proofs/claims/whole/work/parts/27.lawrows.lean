/-! the law's own rows: methods with a table of their own, catching, the script, the end -/
/-! THE CLAIM OUT OF ONE WALK OF THE LAW'S BODY. Your part is whole_start (and what it stands on); all else here is the same for every law, but numbers. -/
def R_law : String := "RosterproofLaw"
def lw_P (b : Addr) (xs : List Int32) (args : Array Value) (s : State) : Prop := args = #[.ref b] ∧ s.IntsAt b xs ∧ xs.length ≤ 2048 ∧ (Jvm.Cond.and given_1 narrow_1).before args s = true
/-- what a walk over the start with the record d0 says of its end, said of the start itself -/
theorem lw_closed {s t : State} {o : Outcome} {d0 : Drawn} {L : List Loc} {k n : Nat} (hd0 : s.drawn.sameBut d0 lw_cs) (hv : ∃ v, o = .returned v) (hW : (s.setDrawn d0).WarmedH t.vm) (hs : (s.setDrawn d0).sameButNew ({ t with vm := s.vm } : State) L k n) : State.butDraws s t lw_cs (fun t1 => Framed s o t1 L k n) := by
  have h2 : t.drawn = d0 := congrArg State.drawn hs.1
  refine ⟨⟨hv, hW, State.sameButNew.setDrawn hs s.drawn⟩, ?_, by decide⟩
  rw [h2]
  exact hd0
def lw_Q (_ : Array Value) (s : State) (o : Outcome) (t : State) : Prop := o = .returned (some (.int 1)) ∧ State.butDraws s t lw_cs (fun t1 => Framed s o t1 [] 603072 7207018)
def lw_Z (below : List Frame) (a : Array Value) (s : State) : State → Prop := fun t => ∃ o, t.status = .running ∧ Ended t below o ∧ lw_Q a s o t

/-- the contract of a method with a table of its own that doesn't throw -/
def rv_CW (l : Launch) (D : va_G) (tys : List (ClassId × FieldType)) (y : MethodName) (cc : ByteArray) (nL : Nat) (ret : Option FieldType) (tb : List (Nat × Nat × Nat × Nat)) (d mc ms : Nat) (av : List Value) (ws : va_W) (F : Option Value → va_W → Prop) : Prop :=
  ∀ sz : Nat, Met l y (Cond.codeWith y cc nL ret tb :: AW) (rv_rm d mc ms) (va_Pc av (rv_Pre D tys ws sz)) (rv_Q D (va_A ws sz) F) mc ms (va_A ws sz)
section LR
variable {l : Launch} {D : va_G} {tys : List (ClassId × FieldType)} {own : String} {cc : ByteArray} {nL : Nat} {ret : Option FieldType} {hh : String × List ExceptionTableEntry} {R : Room} {Phi : rv_Phi} {cu su mc ms : Nat} {ws ws2 wc wr : va_W} {pc : Nat} {lv lv2 : List (Nat × Value)} {st rest : List Value} {F F2 : Option Value → va_W → Prop} {G G2 : String → va_W → Prop} {y : MethodName} {d : Nat} {av : List Value} {tb : List (Nat × Nat × Nat × Nat)}
theorem rv_Wof (hcl : y.cls = own) (hy : plainName own = true) (hl : (lg_sl av).length ≤ nL) (he : lv_args 0 av = lv) (k : rv_V l D tys own cc nL ret ("", tableOf tb) (rv_rm d mc ms) (rv_M D F mc ms) 0 0 ws 0 lv []) : rv_CW l D tys y cc nL ret tb d mc ms av ws F := by
  subst hcl he
  intro sz
  refine MetFree.of_bodyS (code := cc) (maxLocals := nL) (ret := ret) hy ?_ ?_
  · intro args s m h hn
    obtain ⟨m9, meth, c, hn9, h1, h2, h3, h4, -, h5, h6, -⟩ := Cond.codeWith_spec (atoms_spec (ws := Cond.codeWith y cc nL ret tb :: AW) h _ List.mem_cons_self)
    cases hn.symm.trans hn9
    exact ⟨meth, c, h1, h2, h3, h4, h5, h6⟩
  · intro p e s m args below meth c s₁ B hml hv _
    obtain ⟨rfl, hsz, hP, hK, hD, hy2⟩ := hv
    have hts := atoms_spec (ws := Cond.codeWith y cc nL ret tb :: AW) B.pre
    have ht : c.exceptionTable.toList = tableOf tb := vx_table (x := y) B (hts _ List.mem_cons_self)
    have hle := lv_entry av (n := nL) hl
    have hh0 : s₁.heap = s.heap := by rw [B.state]; rfl
    subst hsz
    have K : W p l e (rv_rm d mc ms) s m av.toArray below meth c s.heap [] 0 0 (rv_M D F mc ms below av.toArray s (va_A ws s.heap.size)) (entryFrame m av.toArray nL) := by
      rw [lg_entry_eq]
      exact k p e s m av.toArray below meth c (va_A ws s.heap.size) s.heap [] _ ⟨B.exec, B.bytes, hml, findClass_of_methodNamed B.named, fun w hw => hts w (List.mem_cons_of_mem _ hw), B.returns, B.notSynchronized, hK, fun q hq => Or.inr hq, hy2, ht, Or.inl rfl⟩ hP hD.self va_S.rf hle
    obtain ⟨t, a1, o, b1, b2, b3, b4⟩ := K s₁ hh0 (Stand.of_body B)
    exact ⟨t, o, a1, b1, b2, b3, b4⟩
theorem rv_CWmono (h : rv_CW l D tys y cc nL ret tb d mc ms av ws F) (hF : ∀ v w, F v w → F2 v w) : rv_CW l D tys y cc nL ret tb d mc ms av ws F2 := fun sz => MetFree.mono (h sz) (fun _ _ h => h) (fun _ _ _ _ _ h => h) (fun a s o t _ hq => by
  obtain ⟨⟨⟨v, w, e, hf, hp, hd⟩, hva⟩, hL⟩ := hq
  exact ⟨⟨⟨v, w, e, hF v w hf, hp, hd⟩, hva⟩, hL⟩)
theorem rv_CWframe (hC : rv_CW l D tys y cc nL ret tb d mc ms av wc F) (isC isR : List Nat) (h1 : isC.map (fun i => ws[i]?) = wc.map some) (h2 : isR.map (fun i => ws[i]?) = wr.map some) (hn : va_nd isC = true) (hn2 : va_nd isR = true) (hdis : ∀ i ∈ isR, i ∉ isC) : rv_CW l D tys y cc nL ret tb d mc ms av ws (fun v w => ∃ w1, F v w1 ∧ w = wr ++ w1) := by
  intro sz
  have hsub : ∀ q, va_A wc sz q → va_A ws sz q := fun q => rv_pkA h1
  refine MetFree.mono (hC sz) (fun a U h => ?_) (fun _ _ _ _ _ h => h) (fun a st o t hp hq => ?_)
  · obtain ⟨e, hs, hP, hK, hD, hy⟩ := h
    exact ⟨e, hs, rv_pkP h1 hP, hK, hD.sub isC hn h1, hy.narrow hsub⟩
  · obtain ⟨e, hs, hP, hK, hD, hy⟩ := hp
    obtain ⟨⟨⟨v, w1, e1, hf, hP1, hD1⟩, hF1⟩, L, hfe, hLf⟩ := hq
    subst hs
    obtain ⟨hP2, hD2⟩ := va_join hP hD.self isC isR h1 h2 hn2 hdis hF1.2 hsub hP1 hD1
    exact ⟨⟨⟨v, wr ++ w1, e1, ⟨w1, hf, rfl⟩, hP2, hD2⟩, ⟨hF1.1, fun q q1 q2 => hF1.2 q q1 (fun z => q2 (hsub q z))⟩⟩, L, hfe, fun q hq => hsub _ (hLf q hq)⟩
theorem rv_callW {As : List Value} {cy : ByteArray} {nc dc mcc msc index : Nat} {rc : Option FieldType} (hC : rv_CW l D tys y cy nc rc tb dc mcc msc As ws F2) (hlink : Cond.methodLink own index y ∈ AW) (hstat : Cond.static y ∈ AW) (hcode : Cond.codeWith y cy nc rc tb ∈ AW) (hini : Cond.initialized y.cls ∈ AW) (hnp : y.cls ≠ "java/lang/invoke/MethodHandle" ∧ y.cls ≠ "java/lang/invoke/VarHandle" ∧ (parseMethodDescriptor y.desc).map (fun d => d.parameters.length) = some As.length) (hf : cu + mcc ≤ R.cells ∧ su + msc ≤ R.slots) (hR : 20 * dc + 1 ≤ R.frames ∧ 8 + (nc + 11) + 200 * dc ≤ R.locals) (hdg : decode cc pc = .ok (.invokestatic index, 3)) (hst : st = As.reverse ++ rest) (hrest : (rest.map fun v => v.category).sum ≤ 8)
    (k : ∀ (v : Option Value) (ws3 : va_W), F2 v ws3 → rv_V l D tys own cc nL ret hh R Phi (cu + mcc) (su + msc) ws3 (pc + 3) lv (v.toList ++ rest)) : rv_V l D tys own cc nL ret hh R Phi cu su ws pc lv st := by
  intro p e s m args below meth c A H locs ls ok hP hD hS hl
  obtain ⟨hx, hb, hml, hown, hts, hrt, hlk, hK, hA, hy, ht⟩ := id ok
  subst hst
  have hF0 : ∀ q, va_A ws H.size q → A q := fun q h => h.elim (fun ⟨k9, e9, h9⟩ => hD.2 k9 (q, e9) h9) (fun h => hA q (Nat.le_trans hS.1 h))
  have hcw : vx_CSW R s args own index y cy nc rc tb (Cond.codeWith y cy nc rc tb :: AW) (rv_rm dc mcc msc) mcc msc As.length := by
    refine ⟨⟨rfl, rfl, hR.1, hR.2, pay_in hts (AW_GIc hcode), List.mem_cons_self⟩, hts _ hcode, hts _ hini, ⟨hnp.1, hnp.2.1⟩, fun sig h => ?_, hts _ hlink, hts _ hstat⟩
    have h2 := hnp.2.2
    rw [h] at h2
    exact (Option.some.inj h2).symm
  have hr := vx_runSW (g := F0 m pc ls (As.reverse ++ rest)) (As := As) (rest := rest) (locs := locs) (cells := cu) (slots := su) (e := e) (below := below) (meth := meth) ⟨hx, hb, hml, hown, hts⟩ (hC H.size) hcw ⟨rv_Pre.blind, (fun U hU hW => ⟨rfl, by rw [hU], by rw [hU]; exact hP, va_K.moved hW.alike hK, hD.weaken (fun _ _ _ _ => trivial), hy.call hS hU hW hF0⟩)⟩ rfl rfl hl.1 rfl (lv_room hrest) hdg hf
  intro T hT X
  obtain ⟨v, st₀, t, T2, L, h0, X2, hL, e1, e2, ⟨⟨v2, ws3, hv, hF2, hP2, hD2⟩, hz, hk⟩, st2⟩ := hr T hT X
  cases hv
  rw [h0] at hz hk
  obtain ⟨t3, a1, b1⟩ := k v ws3 hF2 p e s m args below meth c A T2.heap (locs ++ L) ls ok (by rw [e1]; exact hP2) (hD2.weaken (fun _ q _ h => hF0 q.1 h)) ⟨Nat.le_trans hS.1 (by rw [e1]; exact hz), fun q h1 h2 => by rw [e1, hk q (Nat.lt_of_lt_of_le h1 hS.1) (fun z => h2 (hF0 q z))]; exact hS.2.1 q h1 h2, fun q hq => (List.mem_append.mp hq).elim (hS.2.2 q) (fun h => hF0 _ (hL q h))⟩ hl T2 rfl X2
  exact ⟨t3, st2 t3 a1, b1⟩
/-- a throw that this method catches -/
theorem rv_catch {E name : String} (pre : List ExceptionTableEntry) (x : ExceptionTableEntry) (suf : List ExceptionTableEntry) (hsplit : hh.2 = pre ++ x :: suf) (hpass : ∀ z ∈ pre, z.catchType ≠ 0 ∧ ∃ nm : String, Cond.classLink own z.catchType nm ∈ AW ∧ (E, nm) ∈ rv_nocast) (hx : covers x pc = true) (h0 : x.catchType ≠ 0) (hlink : Cond.classLink own x.catchType name ∈ AW) (hcast : Cond.castable E name ∈ NW) (k : ∀ q : Nat, rv_V l D tys own cc nL ret hh R Phi cu su ws x.handlerPc lv [.ref q]) : rv_VT l D tys own cc nL ret hh R Phi cu su E ws pc lv rest := by
  intro p e s m args below meth c A H locs ls q ce ok hP hD hS hl hce hcv hcl
  have hts := ok.2.2.2.2.1
  have hy := ok.2.2.2.2.2.2.2.2.2.1
  exact vx_catch ok.2.2.2.1 pre x suf (ok.2.2.2.2.2.2.2.2.2.2.1.trans hsplit) (fun z hz => Or.inr ⟨(hpass z hz).1, (hpass z hz).2.choose, hts _ (hpass z hz).2.choose_spec.1, hy.2.2.1 _ (hpass z hz).2.choose_spec.2⟩) hx h0 (hts _ hlink) (va_Nw.use rfl (hy.1 _ hcast)) hce hcv hcl (k q p e s m args below meth c A H locs ls ok hP hD hS hl)
end LR
/-- the law's end, from wherever it stands: the start is s0 with its own record of draws -/
def rv_L (b L : Nat) (xs : Nat → Int32) : rv_Phi := fun below args s A t => (va_X b L xs s s.heap ∧ b < s.heap.size ∧ ¬ A b ∧ ∀ q, A q → s.heap.size ≤ q) → ∀ s0 : State, s = s0.setDrawn s0.drawn → lw_Z below args s0 t
section LS
variable {l : Launch} {D : va_G} {tys : List (ClassId × FieldType)} {own : String} {cc : ByteArray} {nL : Nat} {ret : Option FieldType} {hh : String × List ExceptionTableEntry} {R : Room} {cu su : Nat} {ws : va_W} {pc : Nat} {lv : List (Nat × Value)} {rest : List Value} {b L : Nat} {xs : Nat → Int32}
theorem rv_slen (hdg : decode cc pc = .ok (.arraylength, 1)) (k : rv_V l D tys own cc nL ret hh R (rv_L b L xs) cu su ws (pc + 1) lv (.int (nI L) :: rest)) : rv_V l D tys own cc nL ret hh R (rv_L b L xs) cu su ws pc lv (.ref b :: rest) := by
  intro p e s m args below meth c A H locs ls ok hP hD hS hl
  by_cases hs : va_X b L xs s s.heap ∧ b < s.heap.size ∧ ¬ A b ∧ ∀ q, A q → s.heap.size ≤ q
  · exact va_slen ok.1 ok.2.1 hs.1 hs.2.1 hs.2.2.1 hS hdg (k p e s m args below meth c A H locs ls ok hP hD hS hl)
  · intro T hT X
    exact ⟨_, Steps.refl _, fun h => absurd h hs⟩
theorem rv_sld {i : Int32} (hin : vp_in i L) (hdg : decode cc pc = .ok (.iaload, 1)) (k : rv_V l D tys own cc nL ret hh R (rv_L b L xs) cu su ws (pc + 1) lv (.int (xs i.toNatClampNeg) :: rest)) : rv_V l D tys own cc nL ret hh R (rv_L b L xs) cu su ws pc lv (.int i :: .ref b :: rest) := by
  intro p e s m args below meth c A H locs ls ok hP hD hS hl
  by_cases hs : va_X b L xs s s.heap ∧ b < s.heap.size ∧ ¬ A b ∧ ∀ q, A q → s.heap.size ≤ q
  · exact va_sld ok.1 ok.2.1 hs.1 hs.2.1 hs.2.2.1 hS hin hdg (k p e s m args below meth c A H locs ls ok hP hD hS hl)
  · intro T hT X
    exact ⟨_, Steps.refl _, fun h => absurd h hs⟩
end LS
