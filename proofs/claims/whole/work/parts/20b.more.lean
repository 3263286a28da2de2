/-! rows that came up later -/
theorem nx_ldcfW {p : Program} {l : Launch} {e : Env} {R : Room} {s : State} {m : MethodId} {args : Array Value} {below : List Frame} {meth : Method} {c : Code} {T : State} {locs : List Loc} {cells slots : Nat} (X : Stand p l e R s m args below meth c T locs cells slots) (hexec : p.tables.exec = Jvm.exec) {own : String} {index : Nat} {b : UInt32} (hown : s.vm.findClass own = some m.cls)
    (hconst : (Cond.constantFloat own index b).before args s = true) {g : JFrame} (hg : g.method = m) (hdg : decode c.code g.pc = .ok (.ldc_w index, 3)) :
    ∀ target, Steps p.tables e below (T.setTop { g with pc := g.pc + 3, stack := .float b :: g.stack }) target → Steps p.tables e below (T.setTop g) target := by
  obtain ⟨k, cf, hk, hcf, hcp⟩ := Cond.constantFloat_spec hown hconst
  obtain ⟨k', hk', he⟩ := X.warmed.alike.2.2 _ _ hk
  intro target hrest
  subst hg
  jvm_step X.here [hexec, hdg, ldc_w.wp_float (s := T) (f := g) X.here.top hk' (by rw [he]; exact hcf) hcp]
  exact hrest
theorem rv_ldcfW {l : Launch} {D : va_G} {tys : List (ClassId × FieldType)} {own : String} {cc : ByteArray} {nL : Nat} {ret : Option FieldType} {hh : String × List ExceptionTableEntry} {R : Room} {Phi : rv_Phi} {cu su : Nat} {ws : va_W} {pc : Nat} {lv : List (Nat × Value)} {rest : List Value} {index : Nat} {v : UInt32} (hc : Cond.constantFloat own index v ∈ AW) (hdg : decode cc pc = .ok (.ldc_w index, 3)) (k : rv_V l D tys own cc nL ret hh R Phi cu su ws (pc + 3) lv (.float v :: rest)) : rv_V l D tys own cc nL ret hh R Phi cu su ws pc lv rest := by
  intro p e s m args below meth c A H locs ls ok hP hD hS hl
  intro T hT X
  obtain ⟨t, a, b⟩ := k p e s m args below meth c A H locs ls ok hP hD hS hl T hT X
  exact ⟨t, nx_ldcfW X ok.1 ok.2.2.2.1 (ok.2.2.2.2.1 _ hc) (g := F0 m pc ls rest) rfl (by rw [ok.2.1]; exact hdg) t a, b⟩
