/-! a method of a class some of whose methods have entries of their own, that has none itself -/
theorem ax_ofWF {l : Launch} {y : MethodName} {ws ws' : List Cond} {rm : Room} {Pc : Array Value → State → Prop} {Qc : Array Value → State → Outcome → State → Prop} {XC : String → State → State → Prop} {mc ms : Nat} {free : Addr → Prop} {cc : ByteArray} {maxL : Nat} {ret : Option FieldType}
    (hy : plainFor y = true) (hw : ws = Cond.code y cc maxL ret :: ws')
    (body : ∀ p e s m args below meth c s₁, BodyLoose p l y (headSpec ws rm) cc maxL ret e s m args below meth c s₁ → c.maxLocals = maxL → (∀ x ∈ c.exceptionTable.toList, False) → Pc args s →
      W p l e (headSpec ws rm).room s m args below meth c s.heap [] 0 0 (vx_MQ below Qc XC args s mc ms free) (entryFrame m args maxL)) : vx_Met l y ws rm Pc Qc XC mc ms free := by
  refine MetFree.of_bodySF (code := cc) (maxLocals := maxL) (ret := ret) hy ?_ ?_
  · intro args s m h hn
    obtain ⟨meth, c, h1, h2, h3, h4, h5, h6, -, -⟩ := Cond.code_spec hn (atoms_spec (ws := ws) h _ (by rw [hw]; exact List.mem_cons_self))
    exact ⟨meth, c, h1, h2, h3, h4, h5, h6⟩
  · intro p e s m args below meth c s₁ B hml hP _
    have hh0 : s₁.heap = s.heap := by rw [B.state]; rfl
    have ht : ∀ x ∈ c.exceptionTable.toList, False := by
      obtain ⟨meth9, c9, h1, h2, -, -, -, -, h7, -⟩ := Cond.code_spec B.named (atoms_spec (ws := ws) B.pre _ (by rw [hw]; exact List.mem_cons_self))
      cases Option.some.inj (h1.symm.trans B.method)
      cases Option.some.inj (h2.symm.trans (Stand.of_body B).code)
      intro x hx
      rw [Array.isEmpty_iff.mp h7] at hx
      cases hx
    obtain ⟨t, a1, o, b1, b2, b3⟩ := body p e s m args below meth c s₁ B hml ht hP s₁ hh0 (Stand.of_body B)
    exact ⟨t, o, a1, b1, b2, b3⟩
theorem ax_implF {l : Launch} {P : ax_P} {nL : Nat} {cc : ByteArray} {y : MethodName} {ret : Option FieldType} {fr lo mc ms : Nat} (hl : l.stackTraces = false) (hy : plainFor y = true) (hexc : ax_excs P = []) (hscr0 : ax_scr P = none) (hmcP : ax_mc P = mc) (hmsP : ax_ms P = ms) (hRt : ax_Rty (ax_ret P) ret) (O : ax_Ok l y.cls cc nL fr lo P []) :
    ax_Impl l y (.code y cc nL ret) fr lo (ax_sem P nL) mc ms := by
  intro base D cA as f g r hok hsem
  refine ax_ofWF (cc := cc) (maxL := nL) (ret := ret) hy rfl ?_
  intro p e s m args below meth c s₁ B hml htab hv
  obtain ⟨hargs, hW⟩ := hv
  have ht0 : c.exceptionTable.toList = [] := by
    cases h : c.exceptionTable.toList with
    | nil => rfl
    | cons z zs => exact absurd (htab z (by rw [h]; exact List.mem_cons_self)) (fun h => h)
  have hts := atoms_spec (ws := Cond.code y cc nL ret :: ax_T) B.pre
  have hown : s.vm.findClass y.cls = some m.cls := findClass_of_methodNamed B.named
  exact ax_body (own := y.cls) (cc := cc) (P := P) (fr := fr) (lo := lo) (as := as) (f := f) (g := g) hl ⟨fun h => absurd hexc h, fun h => absurd hexc h⟩ hscr0 hmcP hmsP (fun q hq => by rw [hexc] at hq; cases hq) hRt (by rw [ht0]; exact O) B.exec B.bytes hml hown (fun w hw => hts w (List.mem_cons_of_mem _ hw)) B.notSynchronized B.returns hW hok hsem hargs
