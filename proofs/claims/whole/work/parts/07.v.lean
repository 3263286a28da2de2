/-! what the tables say of the texts that are thrown, and of the classes that are not caught where another is -/
def rv_texts : List (String × Nat × String) := [("Rosterproof", 78, "there are 4 persons"), ("Rosterproof", 90, "there are 3 shifts"), ("Rosterproof", 148, "the person is free on the day"), ("Rosterproof", 162, "no shift for the day, or for no earlier day"), ("Rosterproof", 215, "no person has a breach"), ("Rosterproof", 219, "both persons are the same"), ("Rosterproof", 228, "the exchange would bring a breach"), ("Rosterproof", 234, "no exchange leaves fewer breaches"), ("Rosterproof", 265, "no day has a rest before it"), ("Rosterproof", 273, "no such person"), ("Rosterproof", 276, "no such day"), ("Rosterproof", 281, "no such shift"), ("Rosterproof", 283, "out of range"), ("Rosterproof", 285, "no such change"), ("Rosterproof", 287, "no set of at most 2 changes mends the roster"), ("Rosterproof", 292, "no such breach")]
def rv_nocast : List (String × String) := [("java/lang/IllegalStateException", "java/lang/IllegalArgumentException"), ("java/util/NoSuchElementException", "java/lang/IndexOutOfBoundsException"), ("java/lang/IllegalArgumentException", "java/lang/IndexOutOfBoundsException"), ("java/lang/IllegalArgumentException", "java/util/NoSuchElementException"), ("java/lang/IllegalStateException", "java/lang/IndexOutOfBoundsException"), ("java/lang/UnsupportedOperationException", "java/lang/IndexOutOfBoundsException"), ("java/lang/UnsupportedOperationException", "java/lang/IllegalArgumentException"), ("java/lang/ArithmeticException", "java/lang/IndexOutOfBoundsException")]
/-! the judgement rv_V: the kit's W with everything put away that stays the same in a method; a row an instruction -/
def rv_SN (U : State) : Prop := ∀ w ∈ NW, va_Nw w U
theorem rv_SN.warm {s U : State} (hW : s.WarmedH U.vm) (h : rv_SN s) : rv_SN U := by
  intro w hw
  have h1 := h w hw
  have h2 := (List.mem_filter.mp hw).2
  cases w <;> first | exact va_Nw.warmF hW h1 | exact va_Nw.warmM hW h1 | exact va_Nw.warmC hW h1 | exact va_Nw.warmD hW h1 | (exact absurd h2 (by simp [rv_nest]))
def rv_SS (U : State) : Prop := ∀ q ∈ rv_texts, ∃ sa : Nat, vk_R q.1 q.2.1 q.2.2 sa U
theorem rv_SS.warm {s U : State} (hW : s.WarmedH U.vm) (h : rv_SS s) : rv_SS U := fun q hq => (h q hq).imp fun _ k => k.warm hW
def rv_SC (U : State) : Prop := ∀ q ∈ rv_nocast, va_Nc q.1 q.2 U
theorem rv_SC.warm {s U : State} (hW : s.WarmedH U.vm) (h : rv_SC s) : rv_SC U := fun q hq => (h q hq).moved hW.alike
def rv_Z (A : Nat → Prop) (U : State) (H : Heap) : Prop := vx_Zq Bundle.tN "UNASSIGNED_STACK" Bundle.steD A U H ∧ vx_Zq Bundle.tN "SUPPRESSED_SENTINEL" Bundle.listD A U H
/-- the one text whose letters are read, and the statics on its road -/
def rv_K (A : Nat → Prop) (U : State) (H : Heap) : Prop := (∃ adK adV : Nat → Nat, vk_S 1 [7] [[97, 107, 114, 110, 119, 104, 100]] adK adV A U H ∧ vk_R RX8 192 "akrnwhd" (adK 0) U) ∧ va_Z "java/lang/String" "COMPACT_STRINGS" "Z" (.int 1) A U H ∧ va_Zq "jdk/internal/util/Preconditions" "SIOOBE_FORMATTER" "Ljava/util/function/BiFunction;" A U H
/-- what every method may ask of the state that it is called in, beside its world -/
def rv_Sys (A : Nat → Prop) (U : State) : Prop := rv_SN U ∧ rv_SS U ∧ rv_SC U ∧ rv_Z A U U.heap ∧ rv_K A U U.heap
theorem rv_Sys.blind {A : Nat → Prop} {U : State} {g : JFrame} {mk : MethodId} {a : Array Value} (h : rv_Sys A U) : rv_Sys A (U.calling g mk a) := by
  have hW : U.WarmedH (U.calling g mk a).vm := State.WarmedH.refl U
  refine ⟨h.1.warm hW, h.2.1.warm hW, h.2.2.1.warm hW, ⟨h.2.2.2.1.1.moved (u := U) (U := U.calling g mk a) (Vm.Alike.refl U.vm), h.2.2.2.1.2.moved (u := U) (U := U.calling g mk a) (Vm.Alike.refl U.vm)⟩, ?_⟩
  obtain ⟨⟨adK, adV, k1, k2⟩, k3, k4⟩ := h.2.2.2.2
  exact ⟨⟨adK, adV, k1.moved (u := U) (U := U.calling g mk a) (Vm.Alike.refl U.vm), k2.warm hW⟩, k3.moved (u := U) (U := U.calling g mk a) (Vm.Alike.refl U.vm), k4.moved (u := U) (U := U.calling g mk a) (Vm.Alike.refl U.vm)⟩
theorem rv_Sys.call {A0 A1 : Nat → Prop} {s U : State} {H : Heap} {locs : List Loc} (h : rv_Sys A0 s) (hS : va_S A0 s.heap H locs) (hU : U.heap = H) (hW : s.WarmedH U.vm) (hF : ∀ q, A1 q → A0 q) : rv_Sys A1 U := by
  refine ⟨h.1.warm hW, h.2.1.warm hW, h.2.2.1.warm hW, ⟨?_, ?_⟩, ?_⟩
  · rw [hU]; exact (vx_Zq.moved hW.alike (h.2.2.2.1.1.kept hS.2.1)).narrow hF
  · rw [hU]; exact (vx_Zq.moved hW.alike (h.2.2.2.1.2.kept hS.2.1)).narrow hF
  · obtain ⟨⟨adK, adV, k1, k2⟩, k3, k4⟩ := h.2.2.2.2
    rw [hU]
    exact ⟨⟨adK, adV, (vk_S.moved hW.alike (k1.kept hS.2.1)).narrow hF, k2.warm hW⟩, (va_Z.moved hW.alike (k3.kept hS.2.1)).narrow hF, (va_Zq.moved hW.alike (k4.kept hS.2.1)).narrow hF⟩
/-- a method's start: its world, the tables' classes, the rest -/
def rv_Pre (D : va_G) (tys : List (ClassId × FieldType)) (ws : va_W) (sz : Nat) (U : State) : Prop := U.heap.size = sz ∧ va_P D vwCl ws U.heap ∧ va_K D vwCl tys U ∧ va_D (fun _ => True) ws ∧ rv_Sys (va_A ws sz) U
theorem rv_Pre.blind {D : va_G} {tys : List (ClassId × FieldType)} {ws : va_W} {sz : Nat} {av : List Value} : FrameBlind (va_Pc av (rv_Pre D tys ws sz)) := by
  intro a U g mk h
  obtain ⟨e, h1, h2, h3, h4, h5⟩ := h
  exact ⟨e, h1, h2, va_K.moved (u := U) (U := U.calling g mk a) (Vm.Alike.refl U.vm) h3, h4, h5.blind⟩
/-- a method's end -/
def rv_Q (D : va_G) (A : Nat → Prop) (F : Option Value → va_W → Prop) : Array Value → State → Outcome → State → Prop := fun _ st oc t => (∃ (v : Option Value) (ws : va_W), oc = .returned v ∧ F v ws ∧ va_P D vwCl ws t.heap ∧ va_D A ws) ∧ va_F A st t
def rv_XC (D : va_G) (A : Nat → Prop) (G : String → va_W → Prop) : String → State → State → Prop := fun E st t => (∃ ws : va_W, G E ws ∧ va_P D vwCl ws t.heap ∧ va_D A ws) ∧ va_F A st t
def rv_rm (d mc ms : Nat) : Room := { frames := 20 * d, cells := mc, slots := ms, locals := 200 * d }
/-- the contract of a method that doesn't throw; of one that may -/
def rv_C (l : Launch) (D : va_G) (tys : List (ClassId × FieldType)) (y : MethodName) (cc : ByteArray) (nL : Nat) (ret : Option FieldType) (d mc ms : Nat) (av : List Value) (ws : va_W) (F : Option Value → va_W → Prop) : Prop :=
  ∀ sz : Nat, Met l y (Cond.code y cc nL ret :: AW) (rv_rm d mc ms) (va_Pc av (rv_Pre D tys ws sz)) (rv_Q D (va_A ws sz) F) mc ms (va_A ws sz)
def rv_CX (l : Launch) (D : va_G) (tys : List (ClassId × FieldType)) (y : MethodName) (cc : ByteArray) (nL : Nat) (ret : Option FieldType) (d mc ms : Nat) (av : List Value) (ws : va_W) (F : Option Value → va_W → Prop) (G : String → va_W → Prop) : Prop :=
  ∀ sz : Nat, vx_Met l y (Cond.code y cc nL ret :: AW) (rv_rm d mc ms) (va_Pc av (rv_Pre D tys ws sz)) (rv_Q D (va_A ws sz) F) (rv_XC D (va_A ws sz) G) mc ms (va_A ws sz)
abbrev rv_Phi : Type := List Frame → Array Value → State → (Nat → Prop) → State → Prop
def rv_M (D : va_G) (F : Option Value → va_W → Prop) (mc ms : Nat) : rv_Phi := fun below args s A => MQ below (rv_Q D A F) args s mc ms A
def rv_X (D : va_G) (F : Option Value → va_W → Prop) (G : String → va_W → Prop) (mc ms : Nat) : rv_Phi := fun below args s A => vx_MQ below (rv_Q D A F) (rv_XC D A G) args s mc ms A
def rv_ok (D : va_G) (tys : List (ClassId × FieldType)) (own : String) (cc : ByteArray) (nL : Nat) (ret : Option FieldType) (hh : String × List ExceptionTableEntry) (p : Program) (s : State) (m : MethodId) (args : Array Value) (meth : Method) (c : Code) (A : Nat → Prop) : Prop :=
  p.tables.exec = Jvm.exec ∧ c.code = cc ∧ c.maxLocals = nL ∧ s.vm.findClass own = some m.cls ∧ (∀ w ∈ AW, w.before args s = true) ∧ meth.sig.returnType = ret ∧ meth.locks = false ∧ va_K D vwCl tys s ∧ (∀ q : Nat, s.heap.size ≤ q → A q) ∧ rv_Sys A s ∧ c.exceptionTable.toList = hh.2 ∧ (hh.1 = "" ∨ meth.name = hh.1)
/-- from pc, with these locals and this stack, the world ws in the heap: the method comes to an end as Phi has it -/
def rv_V (l : Launch) (D : va_G) (tys : List (ClassId × FieldType)) (own : String) (cc : ByteArray) (nL : Nat) (ret : Option FieldType) (hh : String × List ExceptionTableEntry) (R : Room) (Phi : rv_Phi) (cu su : Nat) (ws : va_W) (pc : Nat) (lv : List (Nat × Value)) (st : List Value) : Prop :=
  ∀ (p : Program) (e : Env) (s : State) (m : MethodId) (args : Array Value) (below : List Frame) (meth : Method) (c : Code) (A : Nat → Prop) (H : Heap) (locs : List Loc) (ls : Array Slot),
    rv_ok D tys own cc nL ret hh p s m args meth c A → va_P D vwCl ws H → va_D A ws → va_S A s.heap H locs → lv_has ls nL lv →
    W p l e R s m args below meth c H locs cu su (Phi below args s A) (F0 m pc ls st)
/-- the frame of pc with q thrown over it -/
def rv_VT (l : Launch) (D : va_G) (tys : List (ClassId × FieldType)) (own : String) (cc : ByteArray) (nL : Nat) (ret : Option FieldType) (hh : String × List ExceptionTableEntry) (R : Room) (Phi : rv_Phi) (cu su : Nat) (E : String) (ws : va_W) (pc : Nat) (lv : List (Nat × Value)) (rest : List Value) : Prop :=
  ∀ (p : Program) (e : Env) (s : State) (m : MethodId) (args : Array Value) (below : List Frame) (meth : Method) (c : Code) (A : Nat → Prop) (H : Heap) (locs : List Loc) (ls : Array Slot) (q : Nat) (ce : Cell),
    rv_ok D tys own cc nL ret hh p s m args meth c A → va_P D vwCl ws H → va_D A ws → va_S A s.heap H locs → lv_has ls nL lv → H[q]? = some ce → ce.vm = .none → s.vm.findClass E = some ce.cls →
    vx_W p l e R s m args below meth c H locs cu su (Phi below args s A) (F0 m pc ls rest) q
section RV
variable {l : Launch} {D : va_G} {tys : List (ClassId × FieldType)} {own : String} {cc : ByteArray} {nL : Nat} {ret : Option FieldType} {hh : String × List ExceptionTableEntry} {R : Room} {Phi : rv_Phi} {cu su mc ms : Nat} {ws ws2 : va_W} {pc : Nat} {lv lv2 : List (Nat × Value)} {st rest : List Value} {F : Option Value → va_W → Prop} {G : String → va_W → Prop}
theorem rv_sub (is : List Nat) (h : lv_pick lv is = lv2) (k : rv_V l D tys own cc nL ret hh R Phi cu su ws pc lv2 st) : rv_V l D tys own cc nL ret hh R Phi cu su ws pc lv st := by
  intro p e s m args below meth c A H locs ls ok hP hD hS hl
  exact k p e s m args below meth c A H locs ls ok hP hD hS (lv_sub hl is h)
theorem rv_ws (h : ws = ws2) (k : rv_V l D tys own cc nL ret hh R Phi cu su ws2 pc lv st) : rv_V l D tys own cc nL ret hh R Phi cu su ws pc lv st := h ▸ k
theorem rv_Cof {y : MethodName} {d : Nat} {av : List Value} (hy : plainName y.cls = true) (hl : (lg_sl av).length ≤ nL) (k : rv_V l D tys y.cls cc nL ret ("", []) (rv_rm d mc ms) (rv_M D F mc ms) 0 0 ws 0 (lv_args 0 av) []) : rv_C l D tys y cc nL ret d mc ms av ws F := by
  intro sz
  refine Met.ofW (cc := cc) (maxL := nL) (ret := ret) hy rfl ?_
  intro p e s m args below meth c s₁ B hml hv
  obtain ⟨rfl, hsz, hP, hK, hD, hy2⟩ := hv
  have hts := atoms_spec (ws := Cond.code y cc nL ret :: AW) B.pre
  have ht : c.exceptionTable.toList = [] := by
    obtain ⟨meth9, c9, h1, h2, -, -, -, -, h7, -⟩ := Cond.code_spec B.named (hts _ List.mem_cons_self)
    cases Option.some.inj (h1.symm.trans B.method)
    cases Option.some.inj (h2.symm.trans (Stand.of_body B).code)
    rw [Array.isEmpty_iff.mp h7]
  have hle := lv_entry av (n := nL) hl
  rw [lg_entry_eq]
  subst hsz
  exact k p e s m av.toArray below meth c (va_A ws s.heap.size) s.heap [] _ ⟨B.exec, B.bytes, hml, findClass_of_methodNamed B.named, fun w hw => hts w (List.mem_cons_of_mem _ hw), B.returns, B.notSynchronized, hK, fun q hq => Or.inr hq, hy2, ht, Or.inl rfl⟩ hP hD.self va_S.rf hle
theorem rv_CXof {y : MethodName} {d : Nat} {av : List Value} (hy : plainName y.cls = true) (hl : (lg_sl av).length ≤ nL) (k : rv_V l D tys y.cls cc nL ret ("", []) (rv_rm d mc ms) (rv_X D F G mc ms) 0 0 ws 0 (lv_args 0 av) []) : rv_CX l D tys y cc nL ret d mc ms av ws F G := by
  intro sz
  refine vx_ofW (cc := cc) (maxL := nL) (ret := ret) hy rfl ?_
  intro p e s m args below meth c s₁ B hml ht hv
  obtain ⟨rfl, hsz, hP, hK, hD, hy2⟩ := hv
  have hts := atoms_spec (ws := Cond.code y cc nL ret :: AW) B.pre
  have ht : c.exceptionTable.toList = [] := by
    obtain ⟨meth9, c9, h1, h2, -, -, -, -, h7, -⟩ := Cond.code_spec B.named (hts _ List.mem_cons_self)
    cases Option.some.inj (h1.symm.trans B.method)
    cases Option.some.inj (h2.symm.trans (Stand.of_body B).code)
    rw [Array.isEmpty_iff.mp h7]
  have hle := lv_entry av (n := nL) hl
  rw [lg_entry_eq]
  subst hsz
  exact k p e s m av.toArray below meth c (va_A ws s.heap.size) s.heap [] _ ⟨B.exec, B.bytes, hml, findClass_of_methodNamed B.named, fun w hw => hts w (List.mem_cons_of_mem _ hw), B.returns, B.notSynchronized, hK, fun q hq => Or.inr hq, hy2, ht, Or.inl rfl⟩ hP hD.self va_S.rf hle
theorem rv_iconst {n : Int} {v : Int32} (hdg : decode cc pc = .ok (.iconst n, 1)) (hv : Int32.ofInt n = v) (k : rv_V l D tys own cc nL ret hh R Phi cu su ws (pc + 1) lv (.int v :: rest)) : rv_V l D tys own cc nL ret hh R Phi cu su ws pc lv (rest) := by
  intro p e s m args below meth c A H locs ls ok hP hD hS hl
  exact lv_iconst ok.1 ok.2.1 hdg hv (k p e s m args below meth c A H locs ls ok hP hD hS hl)
theorem rv_bipush {n : Int} {v : Int32} (hdg : decode cc pc = .ok (.bipush n, 2)) (hv : (Int8.ofInt n).toInt32 = v) (k : rv_V l D tys own cc nL ret hh R Phi cu su ws (pc + 2) lv (.int v :: rest)) : rv_V l D tys own cc nL ret hh R Phi cu su ws pc lv (rest) := by
  intro p e s m args below meth c A H locs ls ok hP hD hS hl
  exact lv_bipush ok.1 ok.2.1 hdg hv (k p e s m args below meth c A H locs ls ok hP hD hS hl)
theorem rv_sipush {n : Int} {v : Int32} (hdg : decode cc pc = .ok (.sipush n, 3)) (hv : (Int16.ofInt n).toInt32 = v) (k : rv_V l D tys own cc nL ret hh R Phi cu su ws (pc + 3) lv (.int v :: rest)) : rv_V l D tys own cc nL ret hh R Phi cu su ws pc lv (rest) := by
  intro p e s m args below meth c A H locs ls ok hP hD hS hl
  exact lv_sipush ok.1 ok.2.1 hdg hv (k p e s m args below meth c A H locs ls ok hP hD hS hl)
theorem rv_lconst {n : Fin 2} {v : Int64} (hdg : decode cc pc = .ok (.lconst n, 1)) (hv : Int64.ofNat (n : Nat) = v) (k : rv_V l D tys own cc nL ret hh R Phi cu su ws (pc + 1) lv (.long v :: rest)) : rv_V l D tys own cc nL ret hh R Phi cu su ws pc lv (rest) := by
  intro p e s m args below meth c A H locs ls ok hP hD hS hl
  exact lv_lconst ok.1 ok.2.1 hdg hv (k p e s m args below meth c A H locs ls ok hP hD hS hl)
theorem rv_fconst0  (hdg : decode cc pc = .ok (.fconst 0, 1)) (k : rv_V l D tys own cc nL ret hh R Phi cu su ws (pc + 1) lv (.float FP.fconst0 :: rest)) : rv_V l D tys own cc nL ret hh R Phi cu su ws pc lv (rest) := by
  intro p e s m args below meth c A H locs ls ok hP hD hS hl
  exact lv_fconst0 ok.1 ok.2.1 hdg (k p e s m args below meth c A H locs ls ok hP hD hS hl)
theorem rv_dconst0  (hdg : decode cc pc = .ok (.dconst 0, 1)) (k : rv_V l D tys own cc nL ret hh R Phi cu su ws (pc + 1) lv (.double FP.dconst0 :: rest)) : rv_V l D tys own cc nL ret hh R Phi cu su ws pc lv (rest) := by
  intro p e s m args below meth c A H locs ls ok hP hD hS hl
  exact lv_dconst0 ok.1 ok.2.1 hdg (k p e s m args below meth c A H locs ls ok hP hD hS hl)
theorem rv_iload_n {i : Nat} {kf : Fin 4} {x : Int32} (hdg : decode cc pc = .ok (.iload_n kf, 1)) (hi : (kf : Nat) = i) (q : Nat) (hq : lv[q]? = some (i, .int x)) (k : rv_V l D tys own cc nL ret hh R Phi cu su ws (pc + 1) lv (.int x :: rest)) : rv_V l D tys own cc nL ret hh R Phi cu su ws pc lv rest := by
  intro p e s m args below meth c A H locs ls ok hP hD hS hl
  exact lv_iload_n ok.1 ok.2.1 hdg hi (lv_at hl q hq) (k p e s m args below meth c A H locs ls ok hP hD hS hl)
theorem rv_iload {i : Nat} {x : Int32} (hdg : decode cc pc = .ok (.iload i, 2)) (q : Nat) (hq : lv[q]? = some (i, .int x)) (k : rv_V l D tys own cc nL ret hh R Phi cu su ws (pc + 2) lv (.int x :: rest)) : rv_V l D tys own cc nL ret hh R Phi cu su ws pc lv rest := by
  intro p e s m args below meth c A H locs ls ok hP hD hS hl
  exact lv_iload ok.1 ok.2.1 hdg (lv_at hl q hq) (k p e s m args below meth c A H locs ls ok hP hD hS hl)
theorem rv_lload_n {i : Nat} {kf : Fin 4} {x : Int64} (hdg : decode cc pc = .ok (.lload_n kf, 1)) (hi : (kf : Nat) = i) (q : Nat) (hq : lv[q]? = some (i, .long x)) (k : rv_V l D tys own cc nL ret hh R Phi cu su ws (pc + 1) lv (.long x :: rest)) : rv_V l D tys own cc nL ret hh R Phi cu su ws pc lv rest := by
  intro p e s m args below meth c A H locs ls ok hP hD hS hl
  exact lv_lload_n ok.1 ok.2.1 hdg hi (lv_at hl q hq) (k p e s m args below meth c A H locs ls ok hP hD hS hl)
theorem rv_lload {i : Nat} {x : Int64} (hdg : decode cc pc = .ok (.lload i, 2)) (q : Nat) (hq : lv[q]? = some (i, .long x)) (k : rv_V l D tys own cc nL ret hh R Phi cu su ws (pc + 2) lv (.long x :: rest)) : rv_V l D tys own cc nL ret hh R Phi cu su ws pc lv rest := by
  intro p e s m args below meth c A H locs ls ok hP hD hS hl
  exact lv_lload ok.1 ok.2.1 hdg (lv_at hl q hq) (k p e s m args below meth c A H locs ls ok hP hD hS hl)
theorem rv_aload_n {i : Nat} {kf : Fin 4} {x : Nat} (hdg : decode cc pc = .ok (.aload_n kf, 1)) (hi : (kf : Nat) = i) (q : Nat) (hq : lv[q]? = some (i, .ref x)) (k : rv_V l D tys own cc nL ret hh R Phi cu su ws (pc + 1) lv (.ref x :: rest)) : rv_V l D tys own cc nL ret hh R Phi cu su ws pc lv rest := by
  intro p e s m args below meth c A H locs ls ok hP hD hS hl
  exact lv_aload_n ok.1 ok.2.1 hdg hi (lv_at hl q hq) (k p e s m args below meth c A H locs ls ok hP hD hS hl)
theorem rv_aload {i : Nat} {x : Nat} (hdg : decode cc pc = .ok (.aload i, 2)) (q : Nat) (hq : lv[q]? = some (i, .ref x)) (k : rv_V l D tys own cc nL ret hh R Phi cu su ws (pc + 2) lv (.ref x :: rest)) : rv_V l D tys own cc nL ret hh R Phi cu su ws pc lv rest := by
  intro p e s m args below meth c A H locs ls ok hP hD hS hl
  exact lv_aload ok.1 ok.2.1 hdg (lv_at hl q hq) (k p e s m args below meth c A H locs ls ok hP hD hS hl)
theorem rv_fload_n {i : Nat} {kf : Fin 4} {x : UInt32} (hdg : decode cc pc = .ok (.fload_n kf, 1)) (hi : (kf : Nat) = i) (q : Nat) (hq : lv[q]? = some (i, .float x)) (k : rv_V l D tys own cc nL ret hh R Phi cu su ws (pc + 1) lv (.float x :: rest)) : rv_V l D tys own cc nL ret hh R Phi cu su ws pc lv rest := by
  intro p e s m args below meth c A H locs ls ok hP hD hS hl
  exact lv_fload_n ok.1 ok.2.1 hdg hi (lv_at hl q hq) (k p e s m args below meth c A H locs ls ok hP hD hS hl)
theorem rv_fload {i : Nat} {x : UInt32} (hdg : decode cc pc = .ok (.fload i, 2)) (q : Nat) (hq : lv[q]? = some (i, .float x)) (k : rv_V l D tys own cc nL ret hh R Phi cu su ws (pc + 2) lv (.float x :: rest)) : rv_V l D tys own cc nL ret hh R Phi cu su ws pc lv rest := by
  intro p e s m args below meth c A H locs ls ok hP hD hS hl
  exact lv_fload ok.1 ok.2.1 hdg (lv_at hl q hq) (k p e s m args below meth c A H locs ls ok hP hD hS hl)
theorem rv_dload_n {i : Nat} {kf : Fin 4} {x : UInt64} (hdg : decode cc pc = .ok (.dload_n kf, 1)) (hi : (kf : Nat) = i) (q : Nat) (hq : lv[q]? = some (i, .double x)) (k : rv_V l D tys own cc nL ret hh R Phi cu su ws (pc + 1) lv (.double x :: rest)) : rv_V l D tys own cc nL ret hh R Phi cu su ws pc lv rest := by
  intro p e s m args below meth c A H locs ls ok hP hD hS hl
  exact lv_dload_n ok.1 ok.2.1 hdg hi (lv_at hl q hq) (k p e s m args below meth c A H locs ls ok hP hD hS hl)
theorem rv_dload {i : Nat} {x : UInt64} (hdg : decode cc pc = .ok (.dload i, 2)) (q : Nat) (hq : lv[q]? = some (i, .double x)) (k : rv_V l D tys own cc nL ret hh R Phi cu su ws (pc + 2) lv (.double x :: rest)) : rv_V l D tys own cc nL ret hh R Phi cu su ws pc lv rest := by
  intro p e s m args below meth c A H locs ls ok hP hD hS hl
  exact lv_dload ok.1 ok.2.1 hdg (lv_at hl q hq) (k p e s m args below meth c A H locs ls ok hP hD hS hl)
theorem rv_istore_n {i : Nat} {kf : Fin 4} {x : Int32} (hdg : decode cc pc = .ok (.istore_n kf, 1)) (hi : (kf : Nat) = i) (hn : i < nL) (he : (i, Value.int x) :: lv.filter (fun q => !(q.1 == i) && !(q.1 + 1 == i && q.2.category == 2)) = lv2) (k : rv_V l D tys own cc nL ret hh R Phi cu su ws (pc + 1) lv2 rest) : rv_V l D tys own cc nL ret hh R Phi cu su ws pc lv (.int x :: rest) := by
  intro p e s m args below meth c A H locs ls ok hP hD hS hl
  exact lv_istore_n ok.1 ok.2.1 hdg hi hl hn he (fun ls2 hl2 => k p e s m args below meth c A H locs ls2 ok hP hD hS hl2)
theorem rv_istore {i : Nat} {x : Int32} (hdg : decode cc pc = .ok (.istore i, 2)) (hn : i < nL) (he : (i, Value.int x) :: lv.filter (fun q => !(q.1 == i) && !(q.1 + 1 == i && q.2.category == 2)) = lv2) (k : rv_V l D tys own cc nL ret hh R Phi cu su ws (pc + 2) lv2 rest) : rv_V l D tys own cc nL ret hh R Phi cu su ws pc lv (.int x :: rest) := by
  intro p e s m args below meth c A H locs ls ok hP hD hS hl
  exact lv_istore ok.1 ok.2.1 hdg hl hn he (fun ls2 hl2 => k p e s m args below meth c A H locs ls2 ok hP hD hS hl2)
theorem rv_lstore_n {i : Nat} {kf : Fin 4} {x : Int64} (hdg : decode cc pc = .ok (.lstore_n kf, 1)) (hi : (kf : Nat) = i) (hn : i + 1 < nL) (he : (i, Value.long x) :: lv.filter (fun q => !(q.1 == i) && (!(q.1 == i + 1) && !(q.1 + 1 == i && q.2.category == 2))) = lv2) (k : rv_V l D tys own cc nL ret hh R Phi cu su ws (pc + 1) lv2 rest) : rv_V l D tys own cc nL ret hh R Phi cu su ws pc lv (.long x :: rest) := by
  intro p e s m args below meth c A H locs ls ok hP hD hS hl
  exact lv_lstore_n ok.1 ok.2.1 hdg hi hl hn he (fun ls2 hl2 => k p e s m args below meth c A H locs ls2 ok hP hD hS hl2)
theorem rv_lstore {i : Nat} {x : Int64} (hdg : decode cc pc = .ok (.lstore i, 2)) (hn : i + 1 < nL) (he : (i, Value.long x) :: lv.filter (fun q => !(q.1 == i) && (!(q.1 == i + 1) && !(q.1 + 1 == i && q.2.category == 2))) = lv2) (k : rv_V l D tys own cc nL ret hh R Phi cu su ws (pc + 2) lv2 rest) : rv_V l D tys own cc nL ret hh R Phi cu su ws pc lv (.long x :: rest) := by
  intro p e s m args below meth c A H locs ls ok hP hD hS hl
  exact lv_lstore ok.1 ok.2.1 hdg hl hn he (fun ls2 hl2 => k p e s m args below meth c A H locs ls2 ok hP hD hS hl2)
theorem rv_astore_n {i : Nat} {kf : Fin 4} {x : Nat} (hdg : decode cc pc = .ok (.astore_n kf, 1)) (hi : (kf : Nat) = i) (hn : i < nL) (he : (i, Value.ref x) :: lv.filter (fun q => !(q.1 == i) && !(q.1 + 1 == i && q.2.category == 2)) = lv2) (k : rv_V l D tys own cc nL ret hh R Phi cu su ws (pc + 1) lv2 rest) : rv_V l D tys own cc nL ret hh R Phi cu su ws pc lv (.ref x :: rest) := by
  intro p e s m args below meth c A H locs ls ok hP hD hS hl
  exact lv_astore_n ok.1 ok.2.1 hdg hi hl hn he (fun ls2 hl2 => k p e s m args below meth c A H locs ls2 ok hP hD hS hl2)
theorem rv_astore {i : Nat} {x : Nat} (hdg : decode cc pc = .ok (.astore i, 2)) (hn : i < nL) (he : (i, Value.ref x) :: lv.filter (fun q => !(q.1 == i) && !(q.1 + 1 == i && q.2.category == 2)) = lv2) (k : rv_V l D tys own cc nL ret hh R Phi cu su ws (pc + 2) lv2 rest) : rv_V l D tys own cc nL ret hh R Phi cu su ws pc lv (.ref x :: rest) := by
  intro p e s m args below meth c A H locs ls ok hP hD hS hl
  exact lv_astore ok.1 ok.2.1 hdg hl hn he (fun ls2 hl2 => k p e s m args below meth c A H locs ls2 ok hP hD hS hl2)
theorem rv_fstore_n {i : Nat} {kf : Fin 4} {x : UInt32} (hdg : decode cc pc = .ok (.fstore_n kf, 1)) (hi : (kf : Nat) = i) (hn : i < nL) (he : (i, Value.float x) :: lv.filter (fun q => !(q.1 == i) && !(q.1 + 1 == i && q.2.category == 2)) = lv2) (k : rv_V l D tys own cc nL ret hh R Phi cu su ws (pc + 1) lv2 rest) : rv_V l D tys own cc nL ret hh R Phi cu su ws pc lv (.float x :: rest) := by
  intro p e s m args below meth c A H locs ls ok hP hD hS hl
  exact lv_fstore_n ok.1 ok.2.1 hdg hi hl hn he (fun ls2 hl2 => k p e s m args below meth c A H locs ls2 ok hP hD hS hl2)
theorem rv_fstore {i : Nat} {x : UInt32} (hdg : decode cc pc = .ok (.fstore i, 2)) (hn : i < nL) (he : (i, Value.float x) :: lv.filter (fun q => !(q.1 == i) && !(q.1 + 1 == i && q.2.category == 2)) = lv2) (k : rv_V l D tys own cc nL ret hh R Phi cu su ws (pc + 2) lv2 rest) : rv_V l D tys own cc nL ret hh R Phi cu su ws pc lv (.float x :: rest) := by
  intro p e s m args below meth c A H locs ls ok hP hD hS hl
  exact lv_fstore ok.1 ok.2.1 hdg hl hn he (fun ls2 hl2 => k p e s m args below meth c A H locs ls2 ok hP hD hS hl2)
theorem rv_dstore_n {i : Nat} {kf : Fin 4} {x : UInt64} (hdg : decode cc pc = .ok (.dstore_n kf, 1)) (hi : (kf : Nat) = i) (hn : i + 1 < nL) (he : (i, Value.double x) :: lv.filter (fun q => !(q.1 == i) && (!(q.1 == i + 1) && !(q.1 + 1 == i && q.2.category == 2))) = lv2) (k : rv_V l D tys own cc nL ret hh R Phi cu su ws (pc + 1) lv2 rest) : rv_V l D tys own cc nL ret hh R Phi cu su ws pc lv (.double x :: rest) := by
  intro p e s m args below meth c A H locs ls ok hP hD hS hl
  exact lv_dstore_n ok.1 ok.2.1 hdg hi hl hn he (fun ls2 hl2 => k p e s m args below meth c A H locs ls2 ok hP hD hS hl2)
theorem rv_dstore {i : Nat} {x : UInt64} (hdg : decode cc pc = .ok (.dstore i, 2)) (hn : i + 1 < nL) (he : (i, Value.double x) :: lv.filter (fun q => !(q.1 == i) && (!(q.1 == i + 1) && !(q.1 + 1 == i && q.2.category == 2))) = lv2) (k : rv_V l D tys own cc nL ret hh R Phi cu su ws (pc + 2) lv2 rest) : rv_V l D tys own cc nL ret hh R Phi cu su ws pc lv (.double x :: rest) := by
  intro p e s m args below meth c A H locs ls ok hP hD hS hl
  exact lv_dstore ok.1 ok.2.1 hdg hl hn he (fun ls2 hl2 => k p e s m args below meth c A H locs ls2 ok hP hD hS hl2)
theorem rv_iinc {i : Nat} {n : Int} {x v : Int32} (hdg : decode cc pc = .ok (.iinc i n, 3)) (q : Nat) (hq : lv[q]? = some (i, .int x)) (hv : x + Int32.ofInt n = v) (hn : i < nL) (he : (i, Value.int v) :: lv.filter (fun q => !(q.1 == i) && !(q.1 + 1 == i && q.2.category == 2)) = lv2) (k : rv_V l D tys own cc nL ret hh R Phi cu su ws (pc + 3) lv2 rest) : rv_V l D tys own cc nL ret hh R Phi cu su ws pc lv rest := by
  intro p e s m args below meth c A H locs ls ok hP hD hS hl
  exact lv_iinc ok.1 ok.2.1 hdg hl hq hv hn he (fun ls2 hl2 => k p e s m args below meth c A H locs ls2 ok hP hD hS hl2)
theorem rv_iadd {x y : Int32} (hdg : decode cc pc = .ok (.iadd, 1)) (k : rv_V l D tys own cc nL ret hh R Phi cu su ws (pc + 1) lv (.int (x + y) :: rest)) : rv_V l D tys own cc nL ret hh R Phi cu su ws pc lv (.int y :: .int x :: rest) := by
  intro p e s m args below meth c A H locs ls ok hP hD hS hl
  exact lv_iadd ok.1 ok.2.1 hdg (k p e s m args below meth c A H locs ls ok hP hD hS hl)
theorem rv_isub {x y : Int32} (hdg : decode cc pc = .ok (.isub, 1)) (k : rv_V l D tys own cc nL ret hh R Phi cu su ws (pc + 1) lv (.int (x - y) :: rest)) : rv_V l D tys own cc nL ret hh R Phi cu su ws pc lv (.int y :: .int x :: rest) := by
  intro p e s m args below meth c A H locs ls ok hP hD hS hl
  exact lv_isub ok.1 ok.2.1 hdg (k p e s m args below meth c A H locs ls ok hP hD hS hl)
theorem rv_imul {x y : Int32} (hdg : decode cc pc = .ok (.imul, 1)) (k : rv_V l D tys own cc nL ret hh R Phi cu su ws (pc + 1) lv (.int (x * y) :: rest)) : rv_V l D tys own cc nL ret hh R Phi cu su ws pc lv (.int y :: .int x :: rest) := by
  intro p e s m args below meth c A H locs ls ok hP hD hS hl
  exact lv_imul ok.1 ok.2.1 hdg (k p e s m args below meth c A H locs ls ok hP hD hS hl)
theorem rv_iand {x y : Int32} (hdg : decode cc pc = .ok (.iand, 1)) (k : rv_V l D tys own cc nL ret hh R Phi cu su ws (pc + 1) lv (.int (x &&& y) :: rest)) : rv_V l D tys own cc nL ret hh R Phi cu su ws pc lv (.int y :: .int x :: rest) := by
  intro p e s m args below meth c A H locs ls ok hP hD hS hl
  exact lv_iand ok.1 ok.2.1 hdg (k p e s m args below meth c A H locs ls ok hP hD hS hl)
theorem rv_ior {x y : Int32} (hdg : decode cc pc = .ok (.ior, 1)) (k : rv_V l D tys own cc nL ret hh R Phi cu su ws (pc + 1) lv (.int (x ||| y) :: rest)) : rv_V l D tys own cc nL ret hh R Phi cu su ws pc lv (.int y :: .int x :: rest) := by
  intro p e s m args below meth c A H locs ls ok hP hD hS hl
  exact lv_ior ok.1 ok.2.1 hdg (k p e s m args below meth c A H locs ls ok hP hD hS hl)
theorem rv_ixor {x y : Int32} (hdg : decode cc pc = .ok (.ixor, 1)) (k : rv_V l D tys own cc nL ret hh R Phi cu su ws (pc + 1) lv (.int (x ^^^ y) :: rest)) : rv_V l D tys own cc nL ret hh R Phi cu su ws pc lv (.int y :: .int x :: rest) := by
  intro p e s m args below meth c A H locs ls ok hP hD hS hl
  exact lv_ixor ok.1 ok.2.1 hdg (k p e s m args below meth c A H locs ls ok hP hD hS hl)
theorem rv_ishl {x y : Int32} (hdg : decode cc pc = .ok (.ishl, 1)) (k : rv_V l D tys own cc nL ret hh R Phi cu su ws (pc + 1) lv (.int (x <<< (y &&& 31)) :: rest)) : rv_V l D tys own cc nL ret hh R Phi cu su ws pc lv (.int y :: .int x :: rest) := by
  intro p e s m args below meth c A H locs ls ok hP hD hS hl
  exact lv_ishl ok.1 ok.2.1 hdg (k p e s m args below meth c A H locs ls ok hP hD hS hl)
theorem rv_ishr {x y : Int32} (hdg : decode cc pc = .ok (.ishr, 1)) (k : rv_V l D tys own cc nL ret hh R Phi cu su ws (pc + 1) lv (.int (x >>> (y &&& 31)) :: rest)) : rv_V l D tys own cc nL ret hh R Phi cu su ws pc lv (.int y :: .int x :: rest) := by
  intro p e s m args below meth c A H locs ls ok hP hD hS hl
  exact lv_ishr ok.1 ok.2.1 hdg (k p e s m args below meth c A H locs ls ok hP hD hS hl)
theorem rv_idiv {x y : Int32} (hdg : decode cc pc = .ok (.idiv, 1)) (hne : ¬ y = 0) (k : rv_V l D tys own cc nL ret hh R Phi cu su ws (pc + 1) lv (.int (x / y) :: rest)) : rv_V l D tys own cc nL ret hh R Phi cu su ws pc lv (.int y :: .int x :: rest) := by
  intro p e s m args below meth c A H locs ls ok hP hD hS hl
  exact lv_idiv ok.1 ok.2.1 hdg hne (k p e s m args below meth c A H locs ls ok hP hD hS hl)
theorem rv_irem {x y : Int32} (hdg : decode cc pc = .ok (.irem, 1)) (hne : ¬ y = 0) (k : rv_V l D tys own cc nL ret hh R Phi cu su ws (pc + 1) lv (.int (x - x / y * y) :: rest)) : rv_V l D tys own cc nL ret hh R Phi cu su ws pc lv (.int y :: .int x :: rest) := by
  intro p e s m args below meth c A H locs ls ok hP hD hS hl
  exact lv_irem ok.1 ok.2.1 hdg hne (k p e s m args below meth c A H locs ls ok hP hD hS hl)
theorem rv_ineg {x : Int32} (hdg : decode cc pc = .ok (.ineg, 1)) (k : rv_V l D tys own cc nL ret hh R Phi cu su ws (pc + 1) lv (.int (-x) :: rest)) : rv_V l D tys own cc nL ret hh R Phi cu su ws pc lv (.int x :: rest) := by
  intro p e s m args below meth c A H locs ls ok hP hD hS hl
  exact lv_ineg ok.1 ok.2.1 hdg (k p e s m args below meth c A H locs ls ok hP hD hS hl)
theorem rv_ladd {x y : Int64} (hdg : decode cc pc = .ok (.ladd, 1)) (k : rv_V l D tys own cc nL ret hh R Phi cu su ws (pc + 1) lv (.long (x + y) :: rest)) : rv_V l D tys own cc nL ret hh R Phi cu su ws pc lv (.long y :: .long x :: rest) := by
  intro p e s m args below meth c A H locs ls ok hP hD hS hl
  exact lv_ladd ok.1 ok.2.1 hdg (k p e s m args below meth c A H locs ls ok hP hD hS hl)
theorem rv_lsub {x y : Int64} (hdg : decode cc pc = .ok (.lsub, 1)) (k : rv_V l D tys own cc nL ret hh R Phi cu su ws (pc + 1) lv (.long (x - y) :: rest)) : rv_V l D tys own cc nL ret hh R Phi cu su ws pc lv (.long y :: .long x :: rest) := by
  intro p e s m args below meth c A H locs ls ok hP hD hS hl
  exact lv_lsub ok.1 ok.2.1 hdg (k p e s m args below meth c A H locs ls ok hP hD hS hl)
theorem rv_land {x y : Int64} (hdg : decode cc pc = .ok (.land, 1)) (k : rv_V l D tys own cc nL ret hh R Phi cu su ws (pc + 1) lv (.long (x &&& y) :: rest)) : rv_V l D tys own cc nL ret hh R Phi cu su ws pc lv (.long y :: .long x :: rest) := by
  intro p e s m args below meth c A H locs ls ok hP hD hS hl
  exact lv_land ok.1 ok.2.1 hdg (k p e s m args below meth c A H locs ls ok hP hD hS hl)
theorem rv_lor {x y : Int64} (hdg : decode cc pc = .ok (.lor, 1)) (k : rv_V l D tys own cc nL ret hh R Phi cu su ws (pc + 1) lv (.long (x ||| y) :: rest)) : rv_V l D tys own cc nL ret hh R Phi cu su ws pc lv (.long y :: .long x :: rest) := by
  intro p e s m args below meth c A H locs ls ok hP hD hS hl
  exact lv_lor ok.1 ok.2.1 hdg (k p e s m args below meth c A H locs ls ok hP hD hS hl)
theorem rv_lxor {x y : Int64} (hdg : decode cc pc = .ok (.lxor, 1)) (k : rv_V l D tys own cc nL ret hh R Phi cu su ws (pc + 1) lv (.long (x ^^^ y) :: rest)) : rv_V l D tys own cc nL ret hh R Phi cu su ws pc lv (.long y :: .long x :: rest) := by
  intro p e s m args below meth c A H locs ls ok hP hD hS hl
  exact lv_lxor ok.1 ok.2.1 hdg (k p e s m args below meth c A H locs ls ok hP hD hS hl)
theorem rv_iushr {x y v : Int32} (hdg : decode cc pc = .ok (.iushr, 1)) (hv : (x.toUInt32 >>> (y.toUInt32 &&& Int32.toUInt32 31)).toInt32 = v) (k : rv_V l D tys own cc nL ret hh R Phi cu su ws (pc + 1) lv (.int v :: rest)) : rv_V l D tys own cc nL ret hh R Phi cu su ws pc lv (.int y :: .int x :: rest) := by
  intro p e s m args below meth c A H locs ls ok hP hD hS hl
  exact lv_iushr ok.1 ok.2.1 hdg hv (k p e s m args below meth c A H locs ls ok hP hD hS hl)
theorem rv_lushr {x v : Int64} {y : Int32} (hdg : decode cc pc = .ok (.lushr, 1)) (hv : (x.toUInt64 >>> (y.toInt64.toUInt64 &&& Int64.toUInt64 63)).toInt64 = v) (k : rv_V l D tys own cc nL ret hh R Phi cu su ws (pc + 1) lv (.long v :: rest)) : rv_V l D tys own cc nL ret hh R Phi cu su ws pc lv (.int y :: .long x :: rest) := by
  intro p e s m args below meth c A H locs ls ok hP hD hS hl
  exact lv_lushr ok.1 ok.2.1 hdg hv (k p e s m args below meth c A H locs ls ok hP hD hS hl)
theorem rv_lshl {x v : Int64} {y : Int32} (hdg : decode cc pc = .ok (.lshl, 1)) (hv : x <<< (y.toInt64 &&& 63) = v) (k : rv_V l D tys own cc nL ret hh R Phi cu su ws (pc + 1) lv (.long v :: rest)) : rv_V l D tys own cc nL ret hh R Phi cu su ws pc lv (.int y :: .long x :: rest) := by
  intro p e s m args below meth c A H locs ls ok hP hD hS hl
  exact lv_lshl ok.1 ok.2.1 hdg hv (k p e s m args below meth c A H locs ls ok hP hD hS hl)
theorem rv_lcmp {x y : Int64} (hdg : decode cc pc = .ok (.lcmp, 1)) (k : rv_V l D tys own cc nL ret hh R Phi cu su ws (pc + 1) lv (.int (lg_cmp x y) :: rest)) : rv_V l D tys own cc nL ret hh R Phi cu su ws pc lv (.long y :: .long x :: rest) := by
  intro p e s m args below meth c A H locs ls ok hP hD hS hl
  exact W.lcmp ok.1 ok.2.1 hdg (k p e s m args below meth c A H locs ls ok hP hD hS hl)
theorem rv_i2l {x : Int32} {v : Int64} (hdg : decode cc pc = .ok (.i2l, 1)) (hv : x.toInt64 = v) (k : rv_V l D tys own cc nL ret hh R Phi cu su ws (pc + 1) lv (.long v :: rest)) : rv_V l D tys own cc nL ret hh R Phi cu su ws pc lv (.int x :: rest) := by
  intro p e s m args below meth c A H locs ls ok hP hD hS hl
  exact lv_i2l ok.1 ok.2.1 hdg hv (k p e s m args below meth c A H locs ls ok hP hD hS hl)
theorem rv_l2i {x : Int64} {v : Int32} (hdg : decode cc pc = .ok (.l2i, 1)) (hv : x.toInt32 = v) (k : rv_V l D tys own cc nL ret hh R Phi cu su ws (pc + 1) lv (.int v :: rest)) : rv_V l D tys own cc nL ret hh R Phi cu su ws pc lv (.long x :: rest) := by
  intro p e s m args below meth c A H locs ls ok hP hD hS hl
  exact lv_l2i ok.1 ok.2.1 hdg hv (k p e s m args below meth c A H locs ls ok hP hD hS hl)
theorem rv_i2c {x v : Int32} (hdg : decode cc pc = .ok (.i2c, 1)) (hv : (x.toUInt32 % 65536).toInt32 = v) (k : rv_V l D tys own cc nL ret hh R Phi cu su ws (pc + 1) lv (.int v :: rest)) : rv_V l D tys own cc nL ret hh R Phi cu su ws pc lv (.int x :: rest) := by
  intro p e s m args below meth c A H locs ls ok hP hD hS hl
  exact lv_i2c ok.1 ok.2.1 hdg hv (k p e s m args below meth c A H locs ls ok hP hD hS hl)
theorem rv_i2f {x : Int32} (hdg : decode cc pc = .ok (.i2f, 1)) (k : rv_V l D tys own cc nL ret hh R Phi cu su ws (pc + 1) lv (.float (FP.i2f x) :: rest)) : rv_V l D tys own cc nL ret hh R Phi cu su ws pc lv (.int x :: rest) := by
  intro p e s m args below meth c A H locs ls ok hP hD hS hl
  exact lv_i2f ok.1 ok.2.1 hdg (k p e s m args below meth c A H locs ls ok hP hD hS hl)
theorem rv_i2d {x : Int32} (hdg : decode cc pc = .ok (.i2d, 1)) (k : rv_V l D tys own cc nL ret hh R Phi cu su ws (pc + 1) lv (.double (FP.i2d x) :: rest)) : rv_V l D tys own cc nL ret hh R Phi cu su ws pc lv (.int x :: rest) := by
  intro p e s m args below meth c A H locs ls ok hP hD hS hl
  exact lv_i2d ok.1 ok.2.1 hdg (k p e s m args below meth c A H locs ls ok hP hD hS hl)
theorem rv_f2d {x : UInt32} (hdg : decode cc pc = .ok (.f2d, 1)) (hne : vf_n64 (FP.f2d x)) (k : rv_V l D tys own cc nL ret hh R Phi cu su ws (pc + 1) lv (.double (FP.f2d x) :: rest)) : rv_V l D tys own cc nL ret hh R Phi cu su ws pc lv (.float x :: rest) := by
  intro p e s m args below meth c A H locs ls ok hP hD hS hl
  exact lv_f2d ok.1 ok.2.1 hdg hne (k p e s m args below meth c A H locs ls ok hP hD hS hl)
theorem rv_fdiv {x y : UInt32} (hdg : decode cc pc = .ok (.fdiv, 1)) (hne : vf_n32 (FP.fdiv x y)) (k : rv_V l D tys own cc nL ret hh R Phi cu su ws (pc + 1) lv (.float (FP.fdiv x y) :: rest)) : rv_V l D tys own cc nL ret hh R Phi cu su ws pc lv (.float y :: .float x :: rest) := by
  intro p e s m args below meth c A H locs ls ok hP hD hS hl
  exact lv_fdiv ok.1 ok.2.1 hdg hne (k p e s m args below meth c A H locs ls ok hP hD hS hl)
theorem rv_ddiv {x y : UInt64} (hdg : decode cc pc = .ok (.ddiv, 1)) (hne : vf_n64 (FP.ddiv x y)) (k : rv_V l D tys own cc nL ret hh R Phi cu su ws (pc + 1) lv (.double (FP.ddiv x y) :: rest)) : rv_V l D tys own cc nL ret hh R Phi cu su ws pc lv (.double y :: .double x :: rest) := by
  intro p e s m args below meth c A H locs ls ok hP hD hS hl
  exact lv_ddiv ok.1 ok.2.1 hdg hne (k p e s m args below meth c A H locs ls ok hP hD hS hl)
theorem rv_dcmp {x y : UInt64} {op : CmpOp} (hdg : decode cc pc = .ok (.dcmp op, 1)) (k : rv_V l D tys own cc nL ret hh R Phi cu su ws (pc + 1) lv (.int (Op.cmpValue (FP.dcmp x y) op) :: rest)) : rv_V l D tys own cc nL ret hh R Phi cu su ws pc lv (.double y :: .double x :: rest) := by
  intro p e s m args below meth c A H locs ls ok hP hD hS hl
  exact lv_dcmp ok.1 ok.2.1 hdg (k p e s m args below meth c A H locs ls ok hP hD hS hl)
theorem rv_fcmp {x y : UInt32} {op : CmpOp} (hdg : decode cc pc = .ok (.fcmp op, 1)) (k : rv_V l D tys own cc nL ret hh R Phi cu su ws (pc + 1) lv (.int (Op.cmpValue (FP.fcmp x y) op) :: rest)) : rv_V l D tys own cc nL ret hh R Phi cu su ws pc lv (.float y :: .float x :: rest) := by
  intro p e s m args below meth c A H locs ls ok hP hD hS hl
  exact lv_fcmp ok.1 ok.2.1 hdg (k p e s m args below meth c A H locs ls ok hP hD hS hl)
theorem rv_dup {va : Value} (hdg : decode cc pc = .ok (.dup, 1)) (hva : va.category = 1) (k : rv_V l D tys own cc nL ret hh R Phi cu su ws (pc + 1) lv (va :: va :: rest)) : rv_V l D tys own cc nL ret hh R Phi cu su ws pc lv (va :: rest) := by
  intro p e s m args below meth c A H locs ls ok hP hD hS hl
  exact lv_dup ok.1 ok.2.1 hdg hva (k p e s m args below meth c A H locs ls ok hP hD hS hl)
theorem rv_pop {va : Value} (hdg : decode cc pc = .ok (.pop, 1)) (hva : va.category = 1) (k : rv_V l D tys own cc nL ret hh R Phi cu su ws (pc + 1) lv (rest)) : rv_V l D tys own cc nL ret hh R Phi cu su ws pc lv (va :: rest) := by
  intro p e s m args below meth c A H locs ls ok hP hD hS hl
  exact lv_pop ok.1 ok.2.1 hdg hva (k p e s m args below meth c A H locs ls ok hP hD hS hl)
theorem rv_dup2 {va vb : Value} (hdg : decode cc pc = .ok (.dup2, 1)) (hva : va.category = 1) (hvb : vb.category = 1) (k : rv_V l D tys own cc nL ret hh R Phi cu su ws (pc + 1) lv (va :: vb :: va :: vb :: rest)) : rv_V l D tys own cc nL ret hh R Phi cu su ws pc lv (va :: vb :: rest) := by
  intro p e s m args below meth c A H locs ls ok hP hD hS hl
  exact lv_dup2_11 ok.1 ok.2.1 hdg hva hvb (k p e s m args below meth c A H locs ls ok hP hD hS hl)
theorem rv_if_eq {x : Int32} {off : Int} {tgt : Nat} (hdg : decode cc pc = .ok (.ifCond .eq off, 3)) (ht : (pc : Int) + off = (tgt : Int)) (kt : x = 0 → rv_V l D tys own cc nL ret hh R Phi cu su ws tgt lv rest) (kf : ¬ x = 0 → rv_V l D tys own cc nL ret hh R Phi cu su ws (pc + 3) lv rest) : rv_V l D tys own cc nL ret hh R Phi cu su ws pc lv (.int x :: rest) := by
  intro p e s m args below meth c A H locs ls ok hP hD hS hl
  exact lv_if_eq ok.1 ok.2.1 hdg ht (fun h => kt h p e s m args below meth c A H locs ls ok hP hD hS hl) (fun h => kf h p e s m args below meth c A H locs ls ok hP hD hS hl)
theorem rv_if_ne {x : Int32} {off : Int} {tgt : Nat} (hdg : decode cc pc = .ok (.ifCond .ne off, 3)) (ht : (pc : Int) + off = (tgt : Int)) (kt : ¬ x = 0 → rv_V l D tys own cc nL ret hh R Phi cu su ws tgt lv rest) (kf : x = 0 → rv_V l D tys own cc nL ret hh R Phi cu su ws (pc + 3) lv rest) : rv_V l D tys own cc nL ret hh R Phi cu su ws pc lv (.int x :: rest) := by
  intro p e s m args below meth c A H locs ls ok hP hD hS hl
  exact lv_if_ne ok.1 ok.2.1 hdg ht (fun h => kt h p e s m args below meth c A H locs ls ok hP hD hS hl) (fun h => kf h p e s m args below meth c A H locs ls ok hP hD hS hl)
theorem rv_if_lt {x : Int32} {off : Int} {tgt : Nat} (hdg : decode cc pc = .ok (.ifCond .lt off, 3)) (ht : (pc : Int) + off = (tgt : Int)) (kt : x < 0 → rv_V l D tys own cc nL ret hh R Phi cu su ws tgt lv rest) (kf : ¬ x < 0 → rv_V l D tys own cc nL ret hh R Phi cu su ws (pc + 3) lv rest) : rv_V l D tys own cc nL ret hh R Phi cu su ws pc lv (.int x :: rest) := by
  intro p e s m args below meth c A H locs ls ok hP hD hS hl
  exact lv_if_lt ok.1 ok.2.1 hdg ht (fun h => kt h p e s m args below meth c A H locs ls ok hP hD hS hl) (fun h => kf h p e s m args below meth c A H locs ls ok hP hD hS hl)
theorem rv_if_ge {x : Int32} {off : Int} {tgt : Nat} (hdg : decode cc pc = .ok (.ifCond .ge off, 3)) (ht : (pc : Int) + off = (tgt : Int)) (kt : 0 ≤ x → rv_V l D tys own cc nL ret hh R Phi cu su ws tgt lv rest) (kf : ¬ 0 ≤ x → rv_V l D tys own cc nL ret hh R Phi cu su ws (pc + 3) lv rest) : rv_V l D tys own cc nL ret hh R Phi cu su ws pc lv (.int x :: rest) := by
  intro p e s m args below meth c A H locs ls ok hP hD hS hl
  exact lv_if_ge ok.1 ok.2.1 hdg ht (fun h => kt h p e s m args below meth c A H locs ls ok hP hD hS hl) (fun h => kf h p e s m args below meth c A H locs ls ok hP hD hS hl)
theorem rv_if_gt {x : Int32} {off : Int} {tgt : Nat} (hdg : decode cc pc = .ok (.ifCond .gt off, 3)) (ht : (pc : Int) + off = (tgt : Int)) (kt : 0 < x → rv_V l D tys own cc nL ret hh R Phi cu su ws tgt lv rest) (kf : ¬ 0 < x → rv_V l D tys own cc nL ret hh R Phi cu su ws (pc + 3) lv rest) : rv_V l D tys own cc nL ret hh R Phi cu su ws pc lv (.int x :: rest) := by
  intro p e s m args below meth c A H locs ls ok hP hD hS hl
  exact lv_if_gt ok.1 ok.2.1 hdg ht (fun h => kt h p e s m args below meth c A H locs ls ok hP hD hS hl) (fun h => kf h p e s m args below meth c A H locs ls ok hP hD hS hl)
theorem rv_if_le {x : Int32} {off : Int} {tgt : Nat} (hdg : decode cc pc = .ok (.ifCond .le off, 3)) (ht : (pc : Int) + off = (tgt : Int)) (kt : x ≤ 0 → rv_V l D tys own cc nL ret hh R Phi cu su ws tgt lv rest) (kf : ¬ x ≤ 0 → rv_V l D tys own cc nL ret hh R Phi cu su ws (pc + 3) lv rest) : rv_V l D tys own cc nL ret hh R Phi cu su ws pc lv (.int x :: rest) := by
  intro p e s m args below meth c A H locs ls ok hP hD hS hl
  exact lv_if_le ok.1 ok.2.1 hdg ht (fun h => kt h p e s m args below meth c A H locs ls ok hP hD hS hl) (fun h => kf h p e s m args below meth c A H locs ls ok hP hD hS hl)
theorem rv_icmp_eq {x y : Int32} {off : Int} {tgt : Nat} (hdg : decode cc pc = .ok (.if_icmp .eq off, 3)) (ht : (pc : Int) + off = (tgt : Int)) (kt : x = y → rv_V l D tys own cc nL ret hh R Phi cu su ws tgt lv rest) (kf : ¬ x = y → rv_V l D tys own cc nL ret hh R Phi cu su ws (pc + 3) lv rest) : rv_V l D tys own cc nL ret hh R Phi cu su ws pc lv (.int y :: .int x :: rest) := by
  intro p e s m args below meth c A H locs ls ok hP hD hS hl
  exact lv_icmp_eq ok.1 ok.2.1 hdg ht (fun h => kt h p e s m args below meth c A H locs ls ok hP hD hS hl) (fun h => kf h p e s m args below meth c A H locs ls ok hP hD hS hl)
theorem rv_icmp_ne {x y : Int32} {off : Int} {tgt : Nat} (hdg : decode cc pc = .ok (.if_icmp .ne off, 3)) (ht : (pc : Int) + off = (tgt : Int)) (kt : ¬ x = y → rv_V l D tys own cc nL ret hh R Phi cu su ws tgt lv rest) (kf : x = y → rv_V l D tys own cc nL ret hh R Phi cu su ws (pc + 3) lv rest) : rv_V l D tys own cc nL ret hh R Phi cu su ws pc lv (.int y :: .int x :: rest) := by
  intro p e s m args below meth c A H locs ls ok hP hD hS hl
  exact lv_icmp_ne ok.1 ok.2.1 hdg ht (fun h => kt h p e s m args below meth c A H locs ls ok hP hD hS hl) (fun h => kf h p e s m args below meth c A H locs ls ok hP hD hS hl)
theorem rv_icmp_lt {x y : Int32} {off : Int} {tgt : Nat} (hdg : decode cc pc = .ok (.if_icmp .lt off, 3)) (ht : (pc : Int) + off = (tgt : Int)) (kt : x < y → rv_V l D tys own cc nL ret hh R Phi cu su ws tgt lv rest) (kf : ¬ x < y → rv_V l D tys own cc nL ret hh R Phi cu su ws (pc + 3) lv rest) : rv_V l D tys own cc nL ret hh R Phi cu su ws pc lv (.int y :: .int x :: rest) := by
  intro p e s m args below meth c A H locs ls ok hP hD hS hl
  exact lv_icmp_lt ok.1 ok.2.1 hdg ht (fun h => kt h p e s m args below meth c A H locs ls ok hP hD hS hl) (fun h => kf h p e s m args below meth c A H locs ls ok hP hD hS hl)
theorem rv_icmp_ge {x y : Int32} {off : Int} {tgt : Nat} (hdg : decode cc pc = .ok (.if_icmp .ge off, 3)) (ht : (pc : Int) + off = (tgt : Int)) (kt : y ≤ x → rv_V l D tys own cc nL ret hh R Phi cu su ws tgt lv rest) (kf : ¬ y ≤ x → rv_V l D tys own cc nL ret hh R Phi cu su ws (pc + 3) lv rest) : rv_V l D tys own cc nL ret hh R Phi cu su ws pc lv (.int y :: .int x :: rest) := by
  intro p e s m args below meth c A H locs ls ok hP hD hS hl
  exact lv_icmp_ge ok.1 ok.2.1 hdg ht (fun h => kt h p e s m args below meth c A H locs ls ok hP hD hS hl) (fun h => kf h p e s m args below meth c A H locs ls ok hP hD hS hl)
theorem rv_icmp_gt {x y : Int32} {off : Int} {tgt : Nat} (hdg : decode cc pc = .ok (.if_icmp .gt off, 3)) (ht : (pc : Int) + off = (tgt : Int)) (kt : y < x → rv_V l D tys own cc nL ret hh R Phi cu su ws tgt lv rest) (kf : ¬ y < x → rv_V l D tys own cc nL ret hh R Phi cu su ws (pc + 3) lv rest) : rv_V l D tys own cc nL ret hh R Phi cu su ws pc lv (.int y :: .int x :: rest) := by
  intro p e s m args below meth c A H locs ls ok hP hD hS hl
  exact lv_icmp_gt ok.1 ok.2.1 hdg ht (fun h => kt h p e s m args below meth c A H locs ls ok hP hD hS hl) (fun h => kf h p e s m args below meth c A H locs ls ok hP hD hS hl)
theorem rv_icmp_le {x y : Int32} {off : Int} {tgt : Nat} (hdg : decode cc pc = .ok (.if_icmp .le off, 3)) (ht : (pc : Int) + off = (tgt : Int)) (kt : x ≤ y → rv_V l D tys own cc nL ret hh R Phi cu su ws tgt lv rest) (kf : ¬ x ≤ y → rv_V l D tys own cc nL ret hh R Phi cu su ws (pc + 3) lv rest) : rv_V l D tys own cc nL ret hh R Phi cu su ws pc lv (.int y :: .int x :: rest) := by
  intro p e s m args below meth c A H locs ls ok hP hD hS hl
  exact lv_icmp_le ok.1 ok.2.1 hdg ht (fun h => kt h p e s m args below meth c A H locs ls ok hP hD hS hl) (fun h => kf h p e s m args below meth c A H locs ls ok hP hD hS hl)
theorem rv_goto {off : Int} {tgt : Nat} (hdg : decode cc pc = .ok (.goto off, 3)) (ht : (pc : Int) + off = (tgt : Int)) (k : rv_V l D tys own cc nL ret hh R Phi cu su ws tgt lv rest) : rv_V l D tys own cc nL ret hh R Phi cu su ws pc lv rest := by
  intro p e s m args below meth c A H locs ls ok hP hD hS hl
  exact lv_goto ok.1 ok.2.1 hdg ht (k p e s m args below meth c A H locs ls ok hP hD hS hl)
theorem rv_get {a ci N index : Nat} {C : String} {T : u_T} {fs : List Value} {v : Value} (hin : ∀ w ∈ u_ws C T N, w ∈ AW) (hc : vwCl[ci]? = some (C, T, N)) (kf : Nat) (hk : kf < N) (hlink : Cond.fieldLink own index (T kf).1 (T kf).2.1 (T kf).2.2.1 ∈ AW) (hdg : decode cc pc = .ok (.getfield index, 3)) (q0 : Nat) (he : ws[q0]? = some (a, .inr (ci, fs))) (hv : fs[kf]? = some v) (k : rv_V l D tys own cc nL ret hh R Phi cu su ws (pc + 3) lv (v :: rest)) : rv_V l D tys own cc nL ret hh R Phi cu su ws pc lv (.ref a :: rest) := by
  intro p e s m args below meth c A H locs ls ok hP hD hS hl
  exact va_get ok.1 ok.2.1 ok.2.2.2.2.1 hin ok.2.2.2.1 ok.2.2.2.2.2.2.2.1 hP q0 he hc kf hk (ok.2.2.2.2.1 _ hlink) (fun _ h => h) hv hdg (k p e s m args below meth c A H locs ls ok hP hD hS hl)
theorem rv_put {a ci N index : Nat} {C : String} {T : u_T} {fs : List Value} {v : Value} {ty : FieldType} (hin : ∀ w ∈ u_ws C T N, w ∈ AW) (hc : vwCl[ci]? = some (C, T, N)) (kf : Nat) (hk : kf < N) (hlink : Cond.fieldLink own index (T kf).1 (T kf).2.1 (T kf).2.2.1 ∈ AW) (ty0 : Nat → FieldType) (hty : ∀ k, k < N → parseFieldDescriptor (T k).2.2.1 = some (ty0 k)) (hnm : ∀ a, a < N → ∀ b, b < N → a ≠ b → (T a).2.1 ≠ (T b).2.1) (hfin : (T kf).2.2.2 = false) (hd : parseFieldDescriptor (T kf).2.2.1 = some ty) (hn : narrow ty v = v) (hfit : fits ty v = true) (hdg : decode cc pc = .ok (.putfield index, 3)) (q0 : Nat) (he : ws[q0]? = some (a, .inr (ci, fs))) (hl2 : kf < fs.length) (hw : ws.set q0 (a, .inr (ci, fs.set kf v)) = ws2) (k : rv_V l D tys own cc nL ret hh R Phi cu su ws2 (pc + 3) lv rest) : rv_V l D tys own cc nL ret hh R Phi cu su ws pc lv (v :: .ref a :: rest) := by
  intro p e s m args below meth c A H locs ls ok hP hD hS hl
  subst hw
  exact va_put ok.1 ok.2.1 ok.2.2.2.2.1 hin ty0 hty hnm ok.2.2.2.1 ok.2.2.2.2.2.2.2.1 hP hD hS q0 he hc kf hk (ok.2.2.2.2.1 _ hlink) (fun _ h => h) hfin hd hn hfit hl2 hdg (fun H2 locs2 hP2 hD2 hS2 => k p e s m args below meth c A H2 locs2 ls ok hP2 hD2 hS2 hl)
theorem rv_getN {a ci N index : Nat} {C : String} {T : u_T} {fs : List Value} {v : Value} (hin : ∀ w ∈ u_ws C T N, w ∈ AW) (hc : vwCl[ci]? = some (C, T, N)) (kf : Nat) (hk : kf < N) (host : String) (hlink : Cond.fieldLinkNest own index (T kf).1 (T kf).2.1 (T kf).2.2.1 host ∈ NW) (hdg : decode cc pc = .ok (.getfield index, 3)) (q0 : Nat) (he : ws[q0]? = some (a, .inr (ci, fs))) (hv : fs[kf]? = some v) (k : rv_V l D tys own cc nL ret hh R Phi cu su ws (pc + 3) lv (v :: rest)) : rv_V l D tys own cc nL ret hh R Phi cu su ws pc lv (.ref a :: rest) := by
  intro p e s m args below meth c A H locs ls ok hP hD hS hl
  exact va_getN ok.1 ok.2.1 ok.2.2.2.2.1 hin ok.2.2.2.1 ok.2.2.2.2.2.2.2.1 hP q0 he hc kf hk (va_Nw.use rfl (ok.2.2.2.2.2.2.2.2.2.1.1 _ hlink)) (fun _ h => h) hv hdg (k p e s m args below meth c A H locs ls ok hP hD hS hl)
theorem rv_putN {a ci N index : Nat} {C : String} {T : u_T} {fs : List Value} {v : Value} {ty : FieldType} (hin : ∀ w ∈ u_ws C T N, w ∈ AW) (hc : vwCl[ci]? = some (C, T, N)) (kf : Nat) (hk : kf < N) (host : String) (hlink : Cond.fieldLinkNest own index (T kf).1 (T kf).2.1 (T kf).2.2.1 host ∈ NW) (ty0 : Nat → FieldType) (hty : ∀ k, k < N → parseFieldDescriptor (T k).2.2.1 = some (ty0 k)) (hnm : ∀ a, a < N → ∀ b, b < N → a ≠ b → (T a).2.1 ≠ (T b).2.1) (hfin : (T kf).2.2.2 = false) (hd : parseFieldDescriptor (T kf).2.2.1 = some ty) (hn : narrow ty v = v) (hfit : fits ty v = true) (hdg : decode cc pc = .ok (.putfield index, 3)) (q0 : Nat) (he : ws[q0]? = some (a, .inr (ci, fs))) (hl2 : kf < fs.length) (hw : ws.set q0 (a, .inr (ci, fs.set kf v)) = ws2) (k : rv_V l D tys own cc nL ret hh R Phi cu su ws2 (pc + 3) lv rest) : rv_V l D tys own cc nL ret hh R Phi cu su ws pc lv (v :: .ref a :: rest) := by
  intro p e s m args below meth c A H locs ls ok hP hD hS hl
  subst hw
  exact va_putN ok.1 ok.2.1 ok.2.2.2.2.1 hin ty0 hty hnm ok.2.2.2.1 ok.2.2.2.2.2.2.2.1 hP hD hS q0 he hc kf hk (va_Nw.use rfl (ok.2.2.2.2.2.2.2.2.2.1.1 _ hlink)) (fun _ h => h) hfin hd hn hfit hl2 hdg (fun H2 locs2 hP2 hD2 hS2 => k p e s m args below meth c A H2 locs2 ls ok hP2 hD2 hS2 hl)
theorem rv_iald {a n : Nat} {cA : ClassId} {f : Nat → Int32} {i : Int32} (hdg : decode cc pc = .ok (.iaload, 1)) (t0 : Nat) (ht : tys[t0]? = some (cA, .int)) (q0 : Nat) (ha : ws[q0]? = some (a, .inl (cA, n, .inl f))) (hi : vp_in i n) (k : rv_V l D tys own cc nL ret hh R Phi cu su ws (pc + 1) lv (.int (f i.toNatClampNeg) :: rest)) : rv_V l D tys own cc nL ret hh R Phi cu su ws pc lv (.int i :: .ref a :: rest) := by
  intro p e s m args below meth c A H locs ls ok hP hD hS hl
  exact va_iald ok.1 ok.2.1 ok.2.2.2.2.2.2.2.1 hP q0 t0 ha ht hi hdg (k p e s m args below meth c A H locs ls ok hP hD hS hl)
theorem rv_iast {a n : Nat} {cA : ClassId} {f : Nat → Int32} {i : Int32} {x : Int32} (hdg : decode cc pc = .ok (.iastore, 1)) (t0 : Nat) (ht : tys[t0]? = some (cA, .int)) (q0 : Nat) (ha : ws[q0]? = some (a, .inl (cA, n, .inl f))) (hi : vp_in i n) (hw : ws.set q0 (a, .inl (cA, n, .inl (upd f i.toNatClampNeg x))) = ws2) (k : rv_V l D tys own cc nL ret hh R Phi cu su ws2 (pc + 1) lv rest) : rv_V l D tys own cc nL ret hh R Phi cu su ws pc lv (.int x :: .int i :: .ref a :: rest) := by
  intro p e s m args below meth c A H locs ls ok hP hD hS hl
  subst hw
  exact va_iast ok.1 ok.2.1 ok.2.2.2.2.2.2.2.1 hP hD hS q0 t0 ha ht hi hdg (fun H2 locs2 hP2 hD2 hS2 => k p e s m args below meth c A H2 locs2 ls ok hP2 hD2 hS2 hl)
theorem rv_zald {a n : Nat} {cA : ClassId} {f : Nat → Int32} {i : Int32} (hdg : decode cc pc = .ok (.baload, 1)) (t0 : Nat) (ht : tys[t0]? = some (cA, .boolean)) (q0 : Nat) (ha : ws[q0]? = some (a, .inl (cA, n, .inl f))) (hi : vp_in i n) (k : rv_V l D tys own cc nL ret hh R Phi cu su ws (pc + 1) lv (.int (f i.toNatClampNeg) :: rest)) : rv_V l D tys own cc nL ret hh R Phi cu su ws pc lv (.int i :: .ref a :: rest) := by
  intro p e s m args below meth c A H locs ls ok hP hD hS hl
  exact va_zald ok.1 ok.2.1 ok.2.2.2.2.2.2.2.1 hP q0 t0 ha ht hi hdg (k p e s m args below meth c A H locs ls ok hP hD hS hl)
theorem rv_zast {a n : Nat} {cA : ClassId} {f : Nat → Int32} {i : Int32} {x : Int32} (hdg : decode cc pc = .ok (.bastore, 1)) (t0 : Nat) (ht : tys[t0]? = some (cA, .boolean)) (q0 : Nat) (ha : ws[q0]? = some (a, .inl (cA, n, .inl f))) (hi : vp_in i n) (hw : ws.set q0 (a, .inl (cA, n, .inl (upd f i.toNatClampNeg (vp_nar .boolean x)))) = ws2) (k : rv_V l D tys own cc nL ret hh R Phi cu su ws2 (pc + 1) lv rest) : rv_V l D tys own cc nL ret hh R Phi cu su ws pc lv (.int x :: .int i :: .ref a :: rest) := by
  intro p e s m args below meth c A H locs ls ok hP hD hS hl
  subst hw
  exact va_zast ok.1 ok.2.1 ok.2.2.2.2.2.2.2.1 hP hD hS q0 t0 ha ht hi hdg (fun H2 locs2 hP2 hD2 hS2 => k p e s m args below meth c A H2 locs2 ls ok hP2 hD2 hS2 hl)
theorem rv_cald {a n : Nat} {cA : ClassId} {f : Nat → Int32} {i : Int32} (hdg : decode cc pc = .ok (.caload, 1)) (t0 : Nat) (ht : tys[t0]? = some (cA, .char)) (q0 : Nat) (ha : ws[q0]? = some (a, .inl (cA, n, .inl f))) (hi : vp_in i n) (k : rv_V l D tys own cc nL ret hh R Phi cu su ws (pc + 1) lv (.int (f i.toNatClampNeg) :: rest)) : rv_V l D tys own cc nL ret hh R Phi cu su ws pc lv (.int i :: .ref a :: rest) := by
  intro p e s m args below meth c A H locs ls ok hP hD hS hl
  exact va_cald ok.1 ok.2.1 ok.2.2.2.2.2.2.2.1 hP q0 t0 ha ht hi hdg (k p e s m args below meth c A H locs ls ok hP hD hS hl)
theorem rv_cast {a n : Nat} {cA : ClassId} {f : Nat → Int32} {i : Int32} {x : Int32} (hdg : decode cc pc = .ok (.castore, 1)) (t0 : Nat) (ht : tys[t0]? = some (cA, .char)) (q0 : Nat) (ha : ws[q0]? = some (a, .inl (cA, n, .inl f))) (hi : vp_in i n) (hw : ws.set q0 (a, .inl (cA, n, .inl (upd f i.toNatClampNeg (vp_nar .char x)))) = ws2) (k : rv_V l D tys own cc nL ret hh R Phi cu su ws2 (pc + 1) lv rest) : rv_V l D tys own cc nL ret hh R Phi cu su ws pc lv (.int x :: .int i :: .ref a :: rest) := by
  intro p e s m args below meth c A H locs ls ok hP hD hS hl
  subst hw
  exact va_cast ok.1 ok.2.1 ok.2.2.2.2.2.2.2.1 hP hD hS q0 t0 ha ht hi hdg (fun H2 locs2 hP2 hD2 hS2 => k p e s m args below meth c A H2 locs2 ls ok hP2 hD2 hS2 hl)
theorem rv_lald {a n : Nat} {cA : ClassId} {f : Nat → Int64} {i : Int32} (hdg : decode cc pc = .ok (.laload, 1)) (t0 : Nat) (ht : tys[t0]? = some (cA, .long)) (q0 : Nat) (ha : ws[q0]? = some (a, .inl (cA, n, .inr (.inl f)))) (hi : vp_in i n) (k : rv_V l D tys own cc nL ret hh R Phi cu su ws (pc + 1) lv (.long (f i.toNatClampNeg) :: rest)) : rv_V l D tys own cc nL ret hh R Phi cu su ws pc lv (.int i :: .ref a :: rest) := by
  intro p e s m args below meth c A H locs ls ok hP hD hS hl
  exact va_lald ok.1 ok.2.1 ok.2.2.2.2.2.2.2.1 hP q0 t0 ha ht hi hdg (k p e s m args below meth c A H locs ls ok hP hD hS hl)
theorem rv_last {a n : Nat} {cA : ClassId} {f : Nat → Int64} {i : Int32} {x : Int64} (hdg : decode cc pc = .ok (.lastore, 1)) (t0 : Nat) (ht : tys[t0]? = some (cA, .long)) (q0 : Nat) (ha : ws[q0]? = some (a, .inl (cA, n, .inr (.inl f)))) (hi : vp_in i n) (hw : ws.set q0 (a, .inl (cA, n, .inr (.inl (vp_updL f i.toNatClampNeg x)))) = ws2) (k : rv_V l D tys own cc nL ret hh R Phi cu su ws2 (pc + 1) lv rest) : rv_V l D tys own cc nL ret hh R Phi cu su ws pc lv (.long x :: .int i :: .ref a :: rest) := by
  intro p e s m args below meth c A H locs ls ok hP hD hS hl
  subst hw
  exact va_last ok.1 ok.2.1 ok.2.2.2.2.2.2.2.1 hP hD hS q0 t0 ha ht hi hdg (fun H2 locs2 hP2 hD2 hS2 => k p e s m args below meth c A H2 locs2 ls ok hP2 hD2 hS2 hl)
theorem rv_dald {a n : Nat} {cA : ClassId} {f : Nat → UInt64} {i : Int32} (hdg : decode cc pc = .ok (.daload, 1)) (t0 : Nat) (ht : tys[t0]? = some (cA, .double)) (q0 : Nat) (ha : ws[q0]? = some (a, .inl (cA, n, .inr (.inr (.inr (.inl f)))))) (hi : vp_in i n) (k : rv_V l D tys own cc nL ret hh R Phi cu su ws (pc + 1) lv (.double (f i.toNatClampNeg) :: rest)) : rv_V l D tys own cc nL ret hh R Phi cu su ws pc lv (.int i :: .ref a :: rest) := by
  intro p e s m args below meth c A H locs ls ok hP hD hS hl
  exact va_dald ok.1 ok.2.1 ok.2.2.2.2.2.2.2.1 hP q0 t0 ha ht hi hdg (k p e s m args below meth c A H locs ls ok hP hD hS hl)
theorem rv_dast {a n : Nat} {cA : ClassId} {f : Nat → UInt64} {i : Int32} {x : UInt64} (hdg : decode cc pc = .ok (.dastore, 1)) (t0 : Nat) (ht : tys[t0]? = some (cA, .double)) (q0 : Nat) (ha : ws[q0]? = some (a, .inl (cA, n, .inr (.inr (.inr (.inl f)))))) (hi : vp_in i n) (hw : ws.set q0 (a, .inl (cA, n, .inr (.inr (.inr (.inl (vf_upd f i.toNatClampNeg x)))))) = ws2) (k : rv_V l D tys own cc nL ret hh R Phi cu su ws2 (pc + 1) lv rest) : rv_V l D tys own cc nL ret hh R Phi cu su ws pc lv (.double x :: .int i :: .ref a :: rest) := by
  intro p e s m args below meth c A H locs ls ok hP hD hS hl
  subst hw
  exact va_dast ok.1 ok.2.1 ok.2.2.2.2.2.2.2.1 hP hD hS q0 t0 ha ht hi hdg (fun H2 locs2 hP2 hD2 hS2 => k p e s m args below meth c A H2 locs2 ls ok hP2 hD2 hS2 hl)
theorem rv_alen {a : Nat} {cA : ClassId} {x : vp_A} {ty : FieldType} {v : Int32} (hdg : decode cc pc = .ok (.arraylength, 1)) (t0 : Nat) (ht : tys[t0]? = some (cA, ty)) (q0 : Nat) (ha : ws[q0]? = some (a, .inl (cA, x))) (hv : Int32.ofNat x.1 = v) (k : rv_V l D tys own cc nL ret hh R Phi cu su ws (pc + 1) lv (.int v :: rest)) : rv_V l D tys own cc nL ret hh R Phi cu su ws pc lv (.ref a :: rest) := by
  intro p e s m args below meth c A H locs ls ok hP hD hS hl
  exact va_alen ok.1 ok.2.1 ok.2.2.2.2.2.2.2.1 hP q0 t0 ha ht hv hdg (k p e s m args below meth c A H locs ls ok hP hD hS hl)
theorem rv_ldc {index : Nat} {v : Int32} (hc : Cond.constant own index v ∈ AW) (hdg : decode cc pc = .ok (.ldc index, 2)) (k : rv_V l D tys own cc nL ret hh R Phi cu su ws (pc + 2) lv (.int v :: rest)) : rv_V l D tys own cc nL ret hh R Phi cu su ws pc lv rest := by
  intro p e s m args below meth c A H locs ls ok hP hD hS hl
  exact lv_ldc ok.1 ok.2.1 ok.2.2.2.1 (ok.2.2.2.2.1 _ hc) hdg (k p e s m args below meth c A H locs ls ok hP hD hS hl)
theorem rv_ldc2 {index : Nat} {v : Int64} (hc : Cond.constantLong own index v ∈ AW) (hdg : decode cc pc = .ok (.ldc2_w index, 3)) (k : rv_V l D tys own cc nL ret hh R Phi cu su ws (pc + 3) lv (.long v :: rest)) : rv_V l D tys own cc nL ret hh R Phi cu su ws pc lv rest := by
  intro p e s m args below meth c A H locs ls ok hP hD hS hl
  exact lv_ldc2 ok.1 ok.2.1 ok.2.2.2.1 (ok.2.2.2.2.1 _ hc) hdg (k p e s m args below meth c A H locs ls ok hP hD hS hl)
theorem rv_mmax {index : Nat} {x y : Int32} (h1 : Cond.methodLink own index Lib.Math.max.name ∈ AW) (h2 : Cond.static Lib.Math.max.name ∈ AW) (h3 : Cond.initialized "java/lang/Math" ∈ AW) (h4 : Cond.code Lib.Math.max.name Lib.Math.max.code 2 (some .int) ∈ AW) (hf : 1 ≤ R.frames) (hlo : (rest.map fun v => v.category).sum + 13 ≤ R.locals) (hcu : cu ≤ R.cells) (hsu : su ≤ R.slots) (hdg : decode cc pc = .ok (.invokestatic index, 3)) (k : rv_V l D tys own cc nL ret hh R Phi cu su ws (pc + 3) lv (.int (if x < y then y else x) :: rest)) : rv_V l D tys own cc nL ret hh R Phi cu su ws pc lv (.int y :: .int x :: rest) := by
  intro p e s m args below meth c A H locs ls ok hP hD hS hl
  have hts := ok.2.2.2.2.1
  exact va_mmax ok.1 ok.2.1 (ok.2.2.1.trans hl.1.symm) ok.2.2.2.1 (hts _ h1) (hts _ h2) (hts _ h3) (hts _ h4) hf hlo hcu hsu hdg (k p e s m args below meth c A H locs ls ok hP hD hS hl)
theorem rv_iret {v : Int32} (hr : ret = some .int) (hdg : decode cc pc = .ok (.ireturn, 1)) (hc : cu ≤ mc) (hs : su ≤ ms) (hF : F (some (.int v)) ws) : rv_V l D tys own cc nL ret hh R (rv_M D F mc ms) cu su ws pc lv [.int v] := by
  intro p e s m args below meth c A H locs ls ok hP hD hS hl
  obtain ⟨hx, hb, hml, hown, hts, hrt, hlk, hK, hA, hy, ht⟩ := ok
  refine W.widen (k := mc) (n := ms) hc hs ?_
  exact W.iret hx hb (hrt.trans hr) (fun t ht hW => ⟨⟨_, ws, rfl, hF, by rw [ht]; exact hP, hD⟩, hS.F ht⟩) hS.2.2 hdg (hlocks := hlk)
theorem rv_iretX {v : Int32} (hr : ret = some .int) (hdg : decode cc pc = .ok (.ireturn, 1)) (hc : cu ≤ mc) (hs : su ≤ ms) (hF : F (some (.int v)) ws) : rv_V l D tys own cc nL ret hh R (rv_X D F G mc ms) cu su ws pc lv [.int v] := by
  intro p e s m args below meth c A H locs ls ok hP hD hS hl
  obtain ⟨hx, hb, hml, hown, hts, hrt, hlk, hK, hA, hy, ht⟩ := ok
  refine W.widen (k := mc) (n := ms) hc hs ?_
  refine vx_ret ?_
  exact W.iret hx hb (hrt.trans hr) (fun t ht hW => ⟨⟨_, ws, rfl, hF, by rw [ht]; exact hP, hD⟩, hS.F ht⟩) hS.2.2 hdg (hlocks := hlk)
theorem rv_lret {v : Int64} (hr : ret = some .long) (hdg : decode cc pc = .ok (.lreturn, 1)) (hc : cu ≤ mc) (hs : su ≤ ms) (hF : F (some (.long v)) ws) : rv_V l D tys own cc nL ret hh R (rv_M D F mc ms) cu su ws pc lv [.long v] := by
  intro p e s m args below meth c A H locs ls ok hP hD hS hl
  obtain ⟨hx, hb, hml, hown, hts, hrt, hlk, hK, hA, hy, ht⟩ := ok
  refine W.widen (k := mc) (n := ms) hc hs ?_
  exact W.lret hx hb (hrt.trans hr) (fun t ht hW => ⟨⟨_, ws, rfl, hF, by rw [ht]; exact hP, hD⟩, hS.F ht⟩) hS.2.2 hdg (hlocks := hlk)
theorem rv_lretX {v : Int64} (hr : ret = some .long) (hdg : decode cc pc = .ok (.lreturn, 1)) (hc : cu ≤ mc) (hs : su ≤ ms) (hF : F (some (.long v)) ws) : rv_V l D tys own cc nL ret hh R (rv_X D F G mc ms) cu su ws pc lv [.long v] := by
  intro p e s m args below meth c A H locs ls ok hP hD hS hl
  obtain ⟨hx, hb, hml, hown, hts, hrt, hlk, hK, hA, hy, ht⟩ := ok
  refine W.widen (k := mc) (n := ms) hc hs ?_
  refine vx_ret ?_
  exact W.lret hx hb (hrt.trans hr) (fun t ht hW => ⟨⟨_, ws, rfl, hF, by rw [ht]; exact hP, hD⟩, hS.F ht⟩) hS.2.2 hdg (hlocks := hlk)
theorem rv_fret {v : UInt32} (hr : ret = some .float) (hdg : decode cc pc = .ok (.freturn, 1)) (hc : cu ≤ mc) (hs : su ≤ ms) (hF : F (some (.float v)) ws) : rv_V l D tys own cc nL ret hh R (rv_M D F mc ms) cu su ws pc lv [.float v] := by
  intro p e s m args below meth c A H locs ls ok hP hD hS hl
  obtain ⟨hx, hb, hml, hown, hts, hrt, hlk, hK, hA, hy, ht⟩ := ok
  refine W.widen (k := mc) (n := ms) hc hs ?_
  exact W.fret hx hb (hrt.trans hr) (fun t ht hW => ⟨⟨_, ws, rfl, hF, by rw [ht]; exact hP, hD⟩, hS.F ht⟩) hS.2.2 hdg (hlocks := hlk)
theorem rv_fretX {v : UInt32} (hr : ret = some .float) (hdg : decode cc pc = .ok (.freturn, 1)) (hc : cu ≤ mc) (hs : su ≤ ms) (hF : F (some (.float v)) ws) : rv_V l D tys own cc nL ret hh R (rv_X D F G mc ms) cu su ws pc lv [.float v] := by
  intro p e s m args below meth c A H locs ls ok hP hD hS hl
  obtain ⟨hx, hb, hml, hown, hts, hrt, hlk, hK, hA, hy, ht⟩ := ok
  refine W.widen (k := mc) (n := ms) hc hs ?_
  refine vx_ret ?_
  exact W.fret hx hb (hrt.trans hr) (fun t ht hW => ⟨⟨_, ws, rfl, hF, by rw [ht]; exact hP, hD⟩, hS.F ht⟩) hS.2.2 hdg (hlocks := hlk)
theorem rv_dret {v : UInt64} (hr : ret = some .double) (hdg : decode cc pc = .ok (.dreturn, 1)) (hc : cu ≤ mc) (hs : su ≤ ms) (hF : F (some (.double v)) ws) : rv_V l D tys own cc nL ret hh R (rv_M D F mc ms) cu su ws pc lv [.double v] := by
  intro p e s m args below meth c A H locs ls ok hP hD hS hl
  obtain ⟨hx, hb, hml, hown, hts, hrt, hlk, hK, hA, hy, ht⟩ := ok
  refine W.widen (k := mc) (n := ms) hc hs ?_
  exact W.dret hx hb (hrt.trans hr) (fun t ht hW => ⟨⟨_, ws, rfl, hF, by rw [ht]; exact hP, hD⟩, hS.F ht⟩) hS.2.2 hdg (hlocks := hlk)
theorem rv_dretX {v : UInt64} (hr : ret = some .double) (hdg : decode cc pc = .ok (.dreturn, 1)) (hc : cu ≤ mc) (hs : su ≤ ms) (hF : F (some (.double v)) ws) : rv_V l D tys own cc nL ret hh R (rv_X D F G mc ms) cu su ws pc lv [.double v] := by
  intro p e s m args below meth c A H locs ls ok hP hD hS hl
  obtain ⟨hx, hb, hml, hown, hts, hrt, hlk, hK, hA, hy, ht⟩ := ok
  refine W.widen (k := mc) (n := ms) hc hs ?_
  refine vx_ret ?_
  exact W.dret hx hb (hrt.trans hr) (fun t ht hW => ⟨⟨_, ws, rfl, hF, by rw [ht]; exact hP, hD⟩, hS.F ht⟩) hS.2.2 hdg (hlocks := hlk)
theorem rv_vret (hr : ret = none) (hdg : decode cc pc = .ok (.return_, 1)) (hc : cu ≤ mc) (hs : su ≤ ms) (hF : F (none) ws) : rv_V l D tys own cc nL ret hh R (rv_M D F mc ms) cu su ws pc lv [] := by
  intro p e s m args below meth c A H locs ls ok hP hD hS hl
  obtain ⟨hx, hb, hml, hown, hts, hrt, hlk, hK, hA, hy, ht⟩ := ok
  refine W.widen (k := mc) (n := ms) hc hs ?_
  exact W.vret hx hb (hrt.trans hr) (fun t ht hW => ⟨⟨_, ws, rfl, hF, by rw [ht]; exact hP, hD⟩, hS.F ht⟩) hS.2.2 hdg (hlocks := hlk)
theorem rv_vretX (hr : ret = none) (hdg : decode cc pc = .ok (.return_, 1)) (hc : cu ≤ mc) (hs : su ≤ ms) (hF : F (none) ws) : rv_V l D tys own cc nL ret hh R (rv_X D F G mc ms) cu su ws pc lv [] := by
  intro p e s m args below meth c A H locs ls ok hP hD hS hl
  obtain ⟨hx, hb, hml, hown, hts, hrt, hlk, hK, hA, hy, ht⟩ := ok
  refine W.widen (k := mc) (n := ms) hc hs ?_
  refine vx_ret ?_
  exact W.vret hx hb (hrt.trans hr) (fun t ht hW => ⟨⟨_, ws, rfl, hF, by rw [ht]; exact hP, hD⟩, hS.F ht⟩) hS.2.2 hdg (hlocks := hlk)
theorem rv_zret {v : Int32} {ty : FieldType} (hr : ret = some ty) (hn : narrow ty (.int v) = .int v) (hdg : decode cc pc = .ok (.ireturn, 1)) (hc : cu ≤ mc) (hs : su ≤ ms) (hF : F (some (.int v)) ws) : rv_V l D tys own cc nL ret hh R (rv_M D F mc ms) cu su ws pc lv [.int v] := by
  intro p e s m args below meth c A H locs ls ok hP hD hS hl
  obtain ⟨hx, hb, hml, hown, hts, hrt, hlk, hK, hA, hy, ht⟩ := ok
  refine W.widen (k := mc) (n := ms) hc hs ?_
  exact W.zret hx hb (hrt.trans hr) hn (fun t ht hW => ⟨⟨_, ws, rfl, hF, by rw [ht]; exact hP, hD⟩, hS.F ht⟩) hS.2.2 hdg (hlocks := hlk)
theorem rv_zretX {v : Int32} {ty : FieldType} (hr : ret = some ty) (hn : narrow ty (.int v) = .int v) (hdg : decode cc pc = .ok (.ireturn, 1)) (hc : cu ≤ mc) (hs : su ≤ ms) (hF : F (some (.int v)) ws) : rv_V l D tys own cc nL ret hh R (rv_X D F G mc ms) cu su ws pc lv [.int v] := by
  intro p e s m args below meth c A H locs ls ok hP hD hS hl
  obtain ⟨hx, hb, hml, hown, hts, hrt, hlk, hK, hA, hy, ht⟩ := ok
  refine W.widen (k := mc) (n := ms) hc hs ?_
  refine vx_ret ?_
  exact W.zret hx hb (hrt.trans hr) hn (fun t ht hW => ⟨⟨_, ws, rfl, hF, by rw [ht]; exact hP, hD⟩, hS.F ht⟩) hS.2.2 hdg (hlocks := hlk)
theorem rv_callV {y : MethodName} {b : Nat} {As : List Value} {cy : ByteArray} {nc dc mcc msc index : Nat} {rc : Option FieldType} {C : String} {T : u_T} {N ci : Nat} {fs : List Value} {F2 : Option Value → va_W → Prop} (hC : rv_C l D tys y cy nc rc dc mcc msc (.ref b :: As) ws F2) (hlink : Cond.methodLink own index y ∈ AW) (hinst : Cond.instanceMethod y ∈ AW) (hsel : Cond.selects C y y ∈ AW) (hcode : Cond.code y cy nc rc ∈ AW) (hini : Cond.initialized y.cls ∈ AW) (hcl : y.cls = C) (hnp : y.cls ≠ "java/lang/invoke/MethodHandle" ∧ y.cls ≠ "java/lang/invoke/VarHandle" ∧ (parseMethodDescriptor y.desc).map (fun d => d.parameters.length) = some As.length) (hf : cu + mcc ≤ R.cells ∧ su + msc ≤ R.slots) (hR : 20 * dc + 1 ≤ R.frames ∧ 8 + (nc + 11) + 200 * dc ≤ R.locals) (hdg : decode cc pc = .ok (.invokevirtual index, 3)) (hst : st = As.reverse ++ .ref b :: rest) (hrest : (rest.map fun v => v.category).sum ≤ 8) (q0 : Nat) (hrc : ws[q0]? = some (b, .inr (ci, fs))) (hcc : vwCl[ci]? = some (C, T, N))
    (k : ∀ (v : Option Value) (ws3 : va_W), F2 v ws3 → rv_V l D tys own cc nL ret hh R Phi (cu + mcc) (su + msc) ws3 (pc + 3) lv (v.toList ++ rest)) : rv_V l D tys own cc nL ret hh R Phi cu su ws pc lv st := by
  intro p e s m args below meth c A H locs ls ok hP hD hS hl
  obtain ⟨hx, hb, hml, hown, hts, hrt, hlk, hK, hA, hy, ht⟩ := id ok
  subst hst
  have hF0 : ∀ q, va_A ws H.size q → A q := fun q h => h.elim (fun ⟨k9, e9, h9⟩ => hD.2 k9 (q, e9) h9) (fun h => hA q (Nat.le_trans hS.1 h))
  have hcw : CallW R s args own C index y cy nc rc (Cond.code y cy nc rc :: AW) (rv_rm dc mcc msc) mcc msc As.length := ⟨callB_of As.length hts (AW_GIc hcode) rfl rfl rfl (hts _ hini) (hts _ hlink) hnp hR, hts _ hinst, hts _ hsel⟩
  have hr := va_runV (g := F0 m pc ls (As.reverse ++ .ref b :: rest)) (As := As) (rest := rest) (locs := locs) (cells := cu) (slots := su) (e := e) (below := below) (meth := meth) ⟨hx, hb, hml, hown, hts⟩ (hC H.size) hcw ⟨rv_Pre.blind, va_recv hK hP hcc hrc, (fun U hU hW => ⟨rfl, by rw [hU], by rw [hU]; exact hP, va_K.moved hW.alike hK, hD.weaken (fun _ _ _ _ => trivial), hy.call hS hU hW hF0⟩)⟩ rfl rfl hl.1 rfl (lv_room hrest) hdg hf
  intro T hT X
  obtain ⟨v, st₀, t, T2, L, h0, X2, hL, e1, e2, ⟨⟨v2, ws3, hv, hF2, hP2, hD2⟩, hz, hk⟩, st2⟩ := hr T hT X
  cases hv
  rw [h0] at hz hk
  obtain ⟨t3, a1, b1⟩ := k v ws3 hF2 p e s m args below meth c A T2.heap (locs ++ L) ls ok (by rw [e1]; exact hP2) (hD2.weaken (fun _ q _ h => hF0 q.1 h)) ⟨Nat.le_trans hS.1 (by rw [e1]; exact hz), fun q h1 h2 => by rw [e1, hk q (Nat.lt_of_lt_of_le h1 hS.1) (fun z => h2 (hF0 q z))]; exact hS.2.1 q h1 h2, fun q hq => (List.mem_append.mp hq).elim (hS.2.2 q) (fun h => hF0 _ (hL q h))⟩ hl T2 rfl X2
  exact ⟨t3, st2 t3 a1, b1⟩
theorem rv_callVN {y : MethodName} {b : Nat} {As : List Value} {cy : ByteArray} {nc dc mcc msc index : Nat} {rc : Option FieldType} {C : String} {T : u_T} {N ci : Nat} {fs : List Value} {F2 : Option Value → va_W → Prop} (hC : rv_C l D tys y cy nc rc dc mcc msc (.ref b :: As) ws F2) {host : String} (hlink : Cond.methodLinkNest own index y host ∈ NW) (hinst : Cond.instanceMethod y ∈ AW) (hsel : Cond.selects C y y ∈ AW) (hcode : Cond.code y cy nc rc ∈ AW) (hini : Cond.initialized y.cls ∈ AW) (hcl : y.cls = C) (hnp : y.cls ≠ "java/lang/invoke/MethodHandle" ∧ y.cls ≠ "java/lang/invoke/VarHandle" ∧ (parseMethodDescriptor y.desc).map (fun d => d.parameters.length) = some As.length) (hf : cu + mcc ≤ R.cells ∧ su + msc ≤ R.slots) (hR : 20 * dc + 1 ≤ R.frames ∧ 8 + (nc + 11) + 200 * dc ≤ R.locals) (hdg : decode cc pc = .ok (.invokevirtual index, 3)) (hst : st = As.reverse ++ .ref b :: rest) (hrest : (rest.map fun v => v.category).sum ≤ 8) (q0 : Nat) (hrc : ws[q0]? = some (b, .inr (ci, fs))) (hcc : vwCl[ci]? = some (C, T, N))
    (k : ∀ (v : Option Value) (ws3 : va_W), F2 v ws3 → rv_V l D tys own cc nL ret hh R Phi (cu + mcc) (su + msc) ws3 (pc + 3) lv (v.toList ++ rest)) : rv_V l D tys own cc nL ret hh R Phi cu su ws pc lv st := by
  intro p e s m args below meth c A H locs ls ok hP hD hS hl
  obtain ⟨hx, hb, hml, hown, hts, hrt, hlk, hK, hA, hy, ht⟩ := id ok
  subst hst
  have hF0 : ∀ q, va_A ws H.size q → A q := fun q h => h.elim (fun ⟨k9, e9, h9⟩ => hD.2 k9 (q, e9) h9) (fun h => hA q (Nat.le_trans hS.1 h))
  have hcw : va_CN R s args own index y host cy nc rc (Cond.code y cy nc rc :: AW) (rv_rm dc mcc msc) mcc msc As.length := va_cnB As.length hts (AW_GIc hcode) rfl rfl rfl (hy.1 _ hlink) (hts _ hini) hnp hR
  have hr := va_runVN (g := F0 m pc ls (As.reverse ++ .ref b :: rest)) (As := As) (rest := rest) (locs := locs) (cells := cu) (slots := su) (e := e) (below := below) (meth := meth) ⟨hx, hb, hml, hown, hts⟩ (hC H.size) ⟨hcw, hts _ hinst, hts _ hsel⟩ ⟨rv_Pre.blind, va_recv hK hP hcc hrc, (fun U hU hW => ⟨rfl, by rw [hU], by rw [hU]; exact hP, va_K.moved hW.alike hK, hD.weaken (fun _ _ _ _ => trivial), hy.call hS hU hW hF0⟩)⟩ rfl rfl hl.1 rfl (lv_room hrest) hdg hf
  intro T hT X
  obtain ⟨v, st₀, t, T2, L, h0, X2, hL, e1, e2, ⟨⟨v2, ws3, hv, hF2, hP2, hD2⟩, hz, hk⟩, st2⟩ := hr T hT X
  cases hv
  rw [h0] at hz hk
  obtain ⟨t3, a1, b1⟩ := k v ws3 hF2 p e s m args below meth c A T2.heap (locs ++ L) ls ok (by rw [e1]; exact hP2) (hD2.weaken (fun _ q _ h => hF0 q.1 h)) ⟨Nat.le_trans hS.1 (by rw [e1]; exact hz), fun q h1 h2 => by rw [e1, hk q (Nat.lt_of_lt_of_le h1 hS.1) (fun z => h2 (hF0 q z))]; exact hS.2.1 q h1 h2, fun q hq => (List.mem_append.mp hq).elim (hS.2.2 q) (fun h => hF0 _ (hL q h))⟩ hl T2 rfl X2
  exact ⟨t3, st2 t3 a1, b1⟩
theorem rv_callS {y : MethodName} {As : List Value} {cy : ByteArray} {nc dc mcc msc index : Nat} {rc : Option FieldType} {F2 : Option Value → va_W → Prop} (hC : rv_C l D tys y cy nc rc dc mcc msc As ws F2) (hlink : Cond.methodLink own index y ∈ AW) (hstat : Cond.static y ∈ AW) (hcode : Cond.code y cy nc rc ∈ AW) (hini : Cond.initialized y.cls ∈ AW) (hnp : y.cls ≠ "java/lang/invoke/MethodHandle" ∧ y.cls ≠ "java/lang/invoke/VarHandle" ∧ (parseMethodDescriptor y.desc).map (fun d => d.parameters.length) = some As.length) (hf : cu + mcc ≤ R.cells ∧ su + msc ≤ R.slots) (hR : 20 * dc + 1 ≤ R.frames ∧ 8 + (nc + 11) + 200 * dc ≤ R.locals) (hdg : decode cc pc = .ok (.invokestatic index, 3)) (hst : st = As.reverse ++ rest) (hrest : (rest.map fun v => v.category).sum ≤ 8)
    (k : ∀ (v : Option Value) (ws3 : va_W), F2 v ws3 → rv_V l D tys own cc nL ret hh R Phi (cu + mcc) (su + msc) ws3 (pc + 3) lv (v.toList ++ rest)) : rv_V l D tys own cc nL ret hh R Phi cu su ws pc lv st := by
  intro p e s m args below meth c A H locs ls ok hP hD hS hl
  obtain ⟨hx, hb, hml, hown, hts, hrt, hlk, hK, hA, hy, ht⟩ := id ok
  subst hst
  have hF0 : ∀ q, va_A ws H.size q → A q := fun q h => h.elim (fun ⟨k9, e9, h9⟩ => hD.2 k9 (q, e9) h9) (fun h => hA q (Nat.le_trans hS.1 h))
  have hcw : CallB R s args own index y cy nc rc (Cond.code y cy nc rc :: AW) (rv_rm dc mcc msc) mcc msc As.length ∧ (Cond.static y).before args s = true := ⟨callB_of As.length hts (AW_GIc hcode) rfl rfl rfl (hts _ hini) (hts _ hlink) hnp hR, hts _ hstat⟩
  have hr := va_runS (g := F0 m pc ls (As.reverse ++ rest)) (As := As) (rest := rest) (locs := locs) (cells := cu) (slots := su) (e := e) (below := below) (meth := meth) ⟨hx, hb, hml, hown, hts⟩ (hC H.size) hcw ⟨rv_Pre.blind, (fun U hU hW => ⟨rfl, by rw [hU], by rw [hU]; exact hP, va_K.moved hW.alike hK, hD.weaken (fun _ _ _ _ => trivial), hy.call hS hU hW hF0⟩)⟩ rfl rfl hl.1 rfl (lv_room hrest) hdg hf
  intro T hT X
  obtain ⟨v, st₀, t, T2, L, h0, X2, hL, e1, e2, ⟨⟨v2, ws3, hv, hF2, hP2, hD2⟩, hz, hk⟩, st2⟩ := hr T hT X
  cases hv
  rw [h0] at hz hk
  obtain ⟨t3, a1, b1⟩ := k v ws3 hF2 p e s m args below meth c A T2.heap (locs ++ L) ls ok (by rw [e1]; exact hP2) (hD2.weaken (fun _ q _ h => hF0 q.1 h)) ⟨Nat.le_trans hS.1 (by rw [e1]; exact hz), fun q h1 h2 => by rw [e1, hk q (Nat.lt_of_lt_of_le h1 hS.1) (fun z => h2 (hF0 q z))]; exact hS.2.1 q h1 h2, fun q hq => (List.mem_append.mp hq).elim (hS.2.2 q) (fun h => hF0 _ (hL q h))⟩ hl T2 rfl X2
  exact ⟨t3, st2 t3 a1, b1⟩
theorem rv_callSN {y : MethodName} {As : List Value} {cy : ByteArray} {nc dc mcc msc index : Nat} {rc : Option FieldType} {F2 : Option Value → va_W → Prop} (hC : rv_C l D tys y cy nc rc dc mcc msc As ws F2) {host : String} (hlink : Cond.methodLinkNest own index y host ∈ NW) (hstat : Cond.static y ∈ AW) (hcode : Cond.code y cy nc rc ∈ AW) (hini : Cond.initialized y.cls ∈ AW) (hnp : y.cls ≠ "java/lang/invoke/MethodHandle" ∧ y.cls ≠ "java/lang/invoke/VarHandle" ∧ (parseMethodDescriptor y.desc).map (fun d => d.parameters.length) = some As.length) (hf : cu + mcc ≤ R.cells ∧ su + msc ≤ R.slots) (hR : 20 * dc + 1 ≤ R.frames ∧ 8 + (nc + 11) + 200 * dc ≤ R.locals) (hdg : decode cc pc = .ok (.invokestatic index, 3)) (hst : st = As.reverse ++ rest) (hrest : (rest.map fun v => v.category).sum ≤ 8)
    (k : ∀ (v : Option Value) (ws3 : va_W), F2 v ws3 → rv_V l D tys own cc nL ret hh R Phi (cu + mcc) (su + msc) ws3 (pc + 3) lv (v.toList ++ rest)) : rv_V l D tys own cc nL ret hh R Phi cu su ws pc lv st := by
  intro p e s m args below meth c A H locs ls ok hP hD hS hl
  obtain ⟨hx, hb, hml, hown, hts, hrt, hlk, hK, hA, hy, ht⟩ := id ok
  subst hst
  have hF0 : ∀ q, va_A ws H.size q → A q := fun q h => h.elim (fun ⟨k9, e9, h9⟩ => hD.2 k9 (q, e9) h9) (fun h => hA q (Nat.le_trans hS.1 h))
  have hcw : va_CN R s args own index y host cy nc rc (Cond.code y cy nc rc :: AW) (rv_rm dc mcc msc) mcc msc As.length := va_cnB As.length hts (AW_GIc hcode) rfl rfl rfl (hy.1 _ hlink) (hts _ hini) hnp hR
  have hr := va_runSN (g := F0 m pc ls (As.reverse ++ rest)) (As := As) (rest := rest) (locs := locs) (cells := cu) (slots := su) (e := e) (below := below) (meth := meth) ⟨hx, hb, hml, hown, hts⟩ (hC H.size) ⟨hcw, hts _ hstat, trivial⟩ ⟨rv_Pre.blind, (fun U hU hW => ⟨rfl, by rw [hU], by rw [hU]; exact hP, va_K.moved hW.alike hK, hD.weaken (fun _ _ _ _ => trivial), hy.call hS hU hW hF0⟩)⟩ rfl rfl hl.1 rfl (lv_room hrest) hdg hf
  intro T hT X
  obtain ⟨v, st₀, t, T2, L, h0, X2, hL, e1, e2, ⟨⟨v2, ws3, hv, hF2, hP2, hD2⟩, hz, hk⟩, st2⟩ := hr T hT X
  cases hv
  rw [h0] at hz hk
  obtain ⟨t3, a1, b1⟩ := k v ws3 hF2 p e s m args below meth c A T2.heap (locs ++ L) ls ok (by rw [e1]; exact hP2) (hD2.weaken (fun _ q _ h => hF0 q.1 h)) ⟨Nat.le_trans hS.1 (by rw [e1]; exact hz), fun q h1 h2 => by rw [e1, hk q (Nat.lt_of_lt_of_le h1 hS.1) (fun z => h2 (hF0 q z))]; exact hS.2.1 q h1 h2, fun q hq => (List.mem_append.mp hq).elim (hS.2.2 q) (fun h => hF0 _ (hL q h))⟩ hl T2 rfl X2
  exact ⟨t3, st2 t3 a1, b1⟩
theorem rv_callI {y : MethodName} {b : Nat} {As : List Value} {cy : ByteArray} {nc dc mcc msc index : Nat} {F2 : Option Value → va_W → Prop} (hC : rv_C l D tys y cy nc none dc mcc msc (.ref b :: As) ws F2) (hlink : Cond.methodLink own index y ∈ AW) (hinst : Cond.instanceMethod y ∈ AW) (hnm : y.name = "<init>") (hcode : Cond.code y cy nc none ∈ AW) (hini : Cond.initialized y.cls ∈ AW) (hnp : y.cls ≠ "java/lang/invoke/MethodHandle" ∧ y.cls ≠ "java/lang/invoke/VarHandle" ∧ (parseMethodDescriptor y.desc).map (fun d => d.parameters.length) = some As.length) (hf : cu + mcc ≤ R.cells ∧ su + msc ≤ R.slots) (hR : 20 * dc + 1 ≤ R.frames ∧ 8 + (nc + 11) + 200 * dc ≤ R.locals) (hdg : decode cc pc = .ok (.invokespecial index, 3)) (hst : st = As.reverse ++ .ref b :: rest) (hrest : (rest.map fun v => v.category).sum ≤ 8)
    (k : ∀ (v : Option Value) (ws3 : va_W), F2 v ws3 → rv_V l D tys own cc nL ret hh R Phi (cu + mcc) (su + msc) ws3 (pc + 3) lv (v.toList ++ rest)) : rv_V l D tys own cc nL ret hh R Phi cu su ws pc lv st := by
  intro p e s m args below meth c A H locs ls ok hP hD hS hl
  obtain ⟨hx, hb, hml, hown, hts, hrt, hlk, hK, hA, hy, ht⟩ := id ok
  subst hst
  have hF0 : ∀ q, va_A ws H.size q → A q := fun q h => h.elim (fun ⟨k9, e9, h9⟩ => hD.2 k9 (q, e9) h9) (fun h => hA q (Nat.le_trans hS.1 h))
  have hcw : CallB R s args own index y cy nc none (Cond.code y cy nc none :: AW) (rv_rm dc mcc msc) mcc msc As.length := callB_of As.length hts (AW_GIc hcode) rfl rfl rfl (hts _ hini) (hts _ hlink) hnp hR
  have hr := va_runI (g := F0 m pc ls (As.reverse ++ .ref b :: rest)) (As := As) (rest := rest) (locs := locs) (cells := cu) (slots := su) (e := e) (below := below) (meth := meth) ⟨hx, hb, hml, hown, hts⟩ (hC H.size) ⟨hcw, hnm, hts _ hinst⟩ ⟨rv_Pre.blind, (fun U hU hW => ⟨rfl, by rw [hU], by rw [hU]; exact hP, va_K.moved hW.alike hK, hD.weaken (fun _ _ _ _ => trivial), hy.call hS hU hW hF0⟩)⟩ rfl rfl hl.1 rfl (lv_room hrest) hdg hf
  intro T hT X
  obtain ⟨v, st₀, t, T2, L, h0, X2, hL, e1, e2, ⟨⟨v2, ws3, hv, hF2, hP2, hD2⟩, hz, hk⟩, st2⟩ := hr T hT X
  cases hv
  rw [h0] at hz hk
  obtain ⟨t3, a1, b1⟩ := k v ws3 hF2 p e s m args below meth c A T2.heap (locs ++ L) ls ok (by rw [e1]; exact hP2) (hD2.weaken (fun _ q _ h => hF0 q.1 h)) ⟨Nat.le_trans hS.1 (by rw [e1]; exact hz), fun q h1 h2 => by rw [e1, hk q (Nat.lt_of_lt_of_le h1 hS.1) (fun z => h2 (hF0 q z))]; exact hS.2.1 q h1 h2, fun q hq => (List.mem_append.mp hq).elim (hS.2.2 q) (fun h => hF0 _ (hL q h))⟩ hl T2 rfl X2
  exact ⟨t3, st2 t3 a1, b1⟩
theorem rv_callIN {y : MethodName} {b : Nat} {As : List Value} {cy : ByteArray} {nc dc mcc msc index : Nat} {F2 : Option Value → va_W → Prop} (hC : rv_C l D tys y cy nc none dc mcc msc (.ref b :: As) ws F2) {host : String} (hlink : Cond.methodLinkNest own index y host ∈ NW) (hinst : Cond.instanceMethod y ∈ AW) (hnm : y.name = "<init>") (hcode : Cond.code y cy nc none ∈ AW) (hini : Cond.initialized y.cls ∈ AW) (hnp : y.cls ≠ "java/lang/invoke/MethodHandle" ∧ y.cls ≠ "java/lang/invoke/VarHandle" ∧ (parseMethodDescriptor y.desc).map (fun d => d.parameters.length) = some As.length) (hf : cu + mcc ≤ R.cells ∧ su + msc ≤ R.slots) (hR : 20 * dc + 1 ≤ R.frames ∧ 8 + (nc + 11) + 200 * dc ≤ R.locals) (hdg : decode cc pc = .ok (.invokespecial index, 3)) (hst : st = As.reverse ++ .ref b :: rest) (hrest : (rest.map fun v => v.category).sum ≤ 8)
    (k : ∀ (v : Option Value) (ws3 : va_W), F2 v ws3 → rv_V l D tys own cc nL ret hh R Phi (cu + mcc) (su + msc) ws3 (pc + 3) lv (v.toList ++ rest)) : rv_V l D tys own cc nL ret hh R Phi cu su ws pc lv st := by
  intro p e s m args below meth c A H locs ls ok hP hD hS hl
  obtain ⟨hx, hb, hml, hown, hts, hrt, hlk, hK, hA, hy, ht⟩ := id ok
  subst hst
  have hF0 : ∀ q, va_A ws H.size q → A q := fun q h => h.elim (fun ⟨k9, e9, h9⟩ => hD.2 k9 (q, e9) h9) (fun h => hA q (Nat.le_trans hS.1 h))
  have hcw : va_CN R s args own index y host cy nc none (Cond.code y cy nc none :: AW) (rv_rm dc mcc msc) mcc msc As.length := va_cnB As.length hts (AW_GIc hcode) rfl rfl rfl (hy.1 _ hlink) (hts _ hini) hnp hR
  have hr := va_runIN (g := F0 m pc ls (As.reverse ++ .ref b :: rest)) (As := As) (rest := rest) (locs := locs) (cells := cu) (slots := su) (e := e) (below := below) (meth := meth) ⟨hx, hb, hml, hown, hts⟩ (hC H.size) ⟨hcw, hnm, hts _ hinst⟩ ⟨rv_Pre.blind, (fun U hU hW => ⟨rfl, by rw [hU], by rw [hU]; exact hP, va_K.moved hW.alike hK, hD.weaken (fun _ _ _ _ => trivial), hy.call hS hU hW hF0⟩)⟩ rfl rfl hl.1 rfl (lv_room hrest) hdg hf
  intro T hT X
  obtain ⟨v, st₀, t, T2, L, h0, X2, hL, e1, e2, ⟨⟨v2, ws3, hv, hF2, hP2, hD2⟩, hz, hk⟩, st2⟩ := hr T hT X
  cases hv
  rw [h0] at hz hk
  obtain ⟨t3, a1, b1⟩ := k v ws3 hF2 p e s m args below meth c A T2.heap (locs ++ L) ls ok (by rw [e1]; exact hP2) (hD2.weaken (fun _ q _ h => hF0 q.1 h)) ⟨Nat.le_trans hS.1 (by rw [e1]; exact hz), fun q h1 h2 => by rw [e1, hk q (Nat.lt_of_lt_of_le h1 hS.1) (fun z => h2 (hF0 q z))]; exact hS.2.1 q h1 h2, fun q hq => (List.mem_append.mp hq).elim (hS.2.2 q) (fun h => hF0 _ (hL q h))⟩ hl T2 rfl X2
  exact ⟨t3, st2 t3 a1, b1⟩
theorem rv_xcallV {y : MethodName} {b : Nat} {As : List Value} {cy : ByteArray} {nc dc mcc msc index : Nat} {rc : Option FieldType} {C : String} {T : u_T} {N ci : Nat} {fs : List Value} {F2 : Option Value → va_W → Prop} {G2 : String → va_W → Prop} (hC : rv_CX l D tys y cy nc rc dc mcc msc (.ref b :: As) ws F2 G2) (hlink : Cond.methodLink own index y ∈ AW) (hinst : Cond.instanceMethod y ∈ AW) (hsel : Cond.selects C y y ∈ AW) (hcode : Cond.code y cy nc rc ∈ AW) (hini : Cond.initialized y.cls ∈ AW) (hcl : y.cls = C) (hnp : y.cls ≠ "java/lang/invoke/MethodHandle" ∧ y.cls ≠ "java/lang/invoke/VarHandle" ∧ (parseMethodDescriptor y.desc).map (fun d => d.parameters.length) = some As.length) (hf : cu + mcc ≤ R.cells ∧ su + msc ≤ R.slots) (hR : 20 * dc + 1 ≤ R.frames ∧ 8 + (nc + 11) + 200 * dc ≤ R.locals) (hdg : decode cc pc = .ok (.invokevirtual index, 3)) (hst : st = As.reverse ++ .ref b :: rest) (hrest : (rest.map fun v => v.category).sum ≤ 8) (q0 : Nat) (hrc : ws[q0]? = some (b, .inr (ci, fs))) (hcc : vwCl[ci]? = some (C, T, N)) (kx : ∀ (E : String) (ws3 : va_W), G2 E ws3 → rv_VT l D tys own cc nL ret hh R Phi (cu + mcc) (su + msc) E ws3 pc lv rest)
    (k : ∀ (v : Option Value) (ws3 : va_W), F2 v ws3 → rv_V l D tys own cc nL ret hh R Phi (cu + mcc) (su + msc) ws3 (pc + 3) lv (v.toList ++ rest)) : rv_V l D tys own cc nL ret hh R Phi cu su ws pc lv st := by
  intro p e s m args below meth c A H locs ls ok hP hD hS hl
  obtain ⟨hx, hb, hml, hown, hts, hrt, hlk, hK, hA, hy, ht⟩ := id ok
  subst hst
  have hF0 : ∀ q, va_A ws H.size q → A q := fun q h => h.elim (fun ⟨k9, e9, h9⟩ => hD.2 k9 (q, e9) h9) (fun h => hA q (Nat.le_trans hS.1 h))
  have hcw : CallW R s args own C index y cy nc rc (Cond.code y cy nc rc :: AW) (rv_rm dc mcc msc) mcc msc As.length := ⟨callB_of As.length hts (AW_GIc hcode) rfl rfl rfl (hts _ hini) (hts _ hlink) hnp hR, hts _ hinst, hts _ hsel⟩
  have hr := vx_runV (g := F0 m pc ls (As.reverse ++ .ref b :: rest)) (As := As) (rest := rest) (locs := locs) (cells := cu) (slots := su) (e := e) (below := below) (meth := meth) ⟨hx, hb, hml, hown, hts⟩ (hC H.size) hcw ⟨rv_Pre.blind, va_recv hK hP hcc hrc, (fun U hU hW => ⟨rfl, by rw [hU], by rw [hU]; exact hP, va_K.moved hW.alike hK, hD.weaken (fun _ _ _ _ => trivial), hy.call hS hU hW hF0⟩)⟩ rfl rfl hl.1 rfl (lv_room hrest) hdg hf
  intro T hT X
  rcases hr T hT X with ⟨v, st₀, t, T2, L, h0, X2, hL, e1, e2, ⟨⟨v2, ws3, hv, hF2, hP2, hD2⟩, hz, hk⟩, st2⟩ | ⟨q9, st₀, t, T2, L, E, ce, h0, X2, hL, e1, e2, ⟨⟨ws3, hG, hP2, hD2⟩, hz, hk⟩, hce, hcv, hcl9, st2⟩
  · cases hv
    rw [h0] at hz hk
    obtain ⟨t3, a1, b1⟩ := k v ws3 hF2 p e s m args below meth c A T2.heap (locs ++ L) ls ok (by rw [e1]; exact hP2) (hD2.weaken (fun _ q _ h => hF0 q.1 h)) ⟨Nat.le_trans hS.1 (by rw [e1]; exact hz), fun q h1 h2 => by rw [e1, hk q (Nat.lt_of_lt_of_le h1 hS.1) (fun z => h2 (hF0 q z))]; exact hS.2.1 q h1 h2, fun q hq => (List.mem_append.mp hq).elim (hS.2.2 q) (fun h => hF0 _ (hL q h))⟩ hl T2 rfl X2
    exact ⟨t3, st2 t3 a1, b1⟩
  · rw [h0] at hz hk
    obtain ⟨t3, a1, b1⟩ := kx E ws3 hG p e s m args below meth c A T2.heap (locs ++ L) ls q9 ce ok (by rw [e1]; exact hP2) (hD2.weaken (fun _ q _ h => hF0 q.1 h)) ⟨Nat.le_trans hS.1 (by rw [e1]; exact hz), fun q h1 h2 => by rw [e1, hk q (Nat.lt_of_lt_of_le h1 hS.1) (fun z => h2 (hF0 q z))]; exact hS.2.1 q h1 h2, fun q hq => (List.mem_append.mp hq).elim (hS.2.2 q) (fun h => hF0 _ (hL q h))⟩ hl (by rw [e1]; exact hce) hcv hcl9 T2 rfl X2
    exact ⟨t3, st2.trans a1, b1⟩
theorem rv_xcallS {y : MethodName} {As : List Value} {cy : ByteArray} {nc dc mcc msc index : Nat} {rc : Option FieldType} {F2 : Option Value → va_W → Prop} {G2 : String → va_W → Prop} (hC : rv_CX l D tys y cy nc rc dc mcc msc As ws F2 G2) (hlink : Cond.methodLink own index y ∈ AW) (hstat : Cond.static y ∈ AW) (hcode : Cond.code y cy nc rc ∈ AW) (hini : Cond.initialized y.cls ∈ AW) (hnp : y.cls ≠ "java/lang/invoke/MethodHandle" ∧ y.cls ≠ "java/lang/invoke/VarHandle" ∧ (parseMethodDescriptor y.desc).map (fun d => d.parameters.length) = some As.length) (hf : cu + mcc ≤ R.cells ∧ su + msc ≤ R.slots) (hR : 20 * dc + 1 ≤ R.frames ∧ 8 + (nc + 11) + 200 * dc ≤ R.locals) (hdg : decode cc pc = .ok (.invokestatic index, 3)) (hst : st = As.reverse ++ rest) (hrest : (rest.map fun v => v.category).sum ≤ 8) (kx : ∀ (E : String) (ws3 : va_W), G2 E ws3 → rv_VT l D tys own cc nL ret hh R Phi (cu + mcc) (su + msc) E ws3 pc lv rest)
    (k : ∀ (v : Option Value) (ws3 : va_W), F2 v ws3 → rv_V l D tys own cc nL ret hh R Phi (cu + mcc) (su + msc) ws3 (pc + 3) lv (v.toList ++ rest)) : rv_V l D tys own cc nL ret hh R Phi cu su ws pc lv st := by
  intro p e s m args below meth c A H locs ls ok hP hD hS hl
  obtain ⟨hx, hb, hml, hown, hts, hrt, hlk, hK, hA, hy, ht⟩ := id ok
  subst hst
  have hF0 : ∀ q, va_A ws H.size q → A q := fun q h => h.elim (fun ⟨k9, e9, h9⟩ => hD.2 k9 (q, e9) h9) (fun h => hA q (Nat.le_trans hS.1 h))
  have hcw : CallB R s args own index y cy nc rc (Cond.code y cy nc rc :: AW) (rv_rm dc mcc msc) mcc msc As.length ∧ (Cond.static y).before args s = true := ⟨callB_of As.length hts (AW_GIc hcode) rfl rfl rfl (hts _ hini) (hts _ hlink) hnp hR, hts _ hstat⟩
  have hr := vx_runS (g := F0 m pc ls (As.reverse ++ rest)) (As := As) (rest := rest) (locs := locs) (cells := cu) (slots := su) (e := e) (below := below) (meth := meth) ⟨hx, hb, hml, hown, hts⟩ (hC H.size) hcw ⟨rv_Pre.blind, (fun U hU hW => ⟨rfl, by rw [hU], by rw [hU]; exact hP, va_K.moved hW.alike hK, hD.weaken (fun _ _ _ _ => trivial), hy.call hS hU hW hF0⟩)⟩ rfl rfl hl.1 rfl (lv_room hrest) hdg hf
  intro T hT X
  rcases hr T hT X with ⟨v, st₀, t, T2, L, h0, X2, hL, e1, e2, ⟨⟨v2, ws3, hv, hF2, hP2, hD2⟩, hz, hk⟩, st2⟩ | ⟨q9, st₀, t, T2, L, E, ce, h0, X2, hL, e1, e2, ⟨⟨ws3, hG, hP2, hD2⟩, hz, hk⟩, hce, hcv, hcl9, st2⟩
  · cases hv
    rw [h0] at hz hk
    obtain ⟨t3, a1, b1⟩ := k v ws3 hF2 p e s m args below meth c A T2.heap (locs ++ L) ls ok (by rw [e1]; exact hP2) (hD2.weaken (fun _ q _ h => hF0 q.1 h)) ⟨Nat.le_trans hS.1 (by rw [e1]; exact hz), fun q h1 h2 => by rw [e1, hk q (Nat.lt_of_lt_of_le h1 hS.1) (fun z => h2 (hF0 q z))]; exact hS.2.1 q h1 h2, fun q hq => (List.mem_append.mp hq).elim (hS.2.2 q) (fun h => hF0 _ (hL q h))⟩ hl T2 rfl X2
    exact ⟨t3, st2 t3 a1, b1⟩
  · rw [h0] at hz hk
    obtain ⟨t3, a1, b1⟩ := kx E ws3 hG p e s m args below meth c A T2.heap (locs ++ L) ls q9 ce ok (by rw [e1]; exact hP2) (hD2.weaken (fun _ q _ h => hF0 q.1 h)) ⟨Nat.le_trans hS.1 (by rw [e1]; exact hz), fun q h1 h2 => by rw [e1, hk q (Nat.lt_of_lt_of_le h1 hS.1) (fun z => h2 (hF0 q z))]; exact hS.2.1 q h1 h2, fun q hq => (List.mem_append.mp hq).elim (hS.2.2 q) (fun h => hF0 _ (hL q h))⟩ hl (by rw [e1]; exact hce) hcv hcl9 T2 rfl X2
    exact ⟨t3, st2.trans a1, b1⟩
/-- a throw that this method doesn't catch -/
theorem rv_out {E : String} (hhe : hh.2 = []) (hc : cu ≤ mc) (hs : su ≤ ms) (hG : G E ws) : rv_VT l D tys own cc nL ret hh R (rv_X D F G mc ms) cu su E ws pc lv rest := by
  intro p e s m args below meth c A H locs ls q ce ok hP hD hS hl hce hcv hcl
  obtain ⟨hx, hb, hml, hown, hts, hrt, hlk, hK, hA, hy, ht⟩ := ok
  refine vx_out (fun x hx9 => ?_) hlk hce hcv hcl (fun t ht hW => ⟨⟨ws, hG, by rw [ht]; exact hP, hD⟩, hS.F ht⟩) hS.2.2 hc hs
  rw [ht.1, hhe] at hx9
  cases hx9
end RV
