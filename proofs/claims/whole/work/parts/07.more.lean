theorem fb_ofWF {l : Launch} {y : MethodName} {ws ws' : List Cond} {rm : Room} {Pc : Array Value → State → Prop} {Qc : Array Value → State → Outcome → State → Prop} {mc ms : Nat} {free : Addr → Prop} {cc : ByteArray} {maxL : Nat} {ret : Option FieldType}
    (hy : plainFor y = true) (hw : ws = Cond.code y cc maxL ret :: ws')
    (body : ∀ p e s m args below meth c s₁, BodyLoose p l y (headSpec ws rm) cc maxL ret e s m args below meth c s₁ → c.maxLocals = maxL → Pc args s →
      W p l e (headSpec ws rm).room s m args below meth c s.heap [] 0 0 (MQ below Qc args s mc ms free) (entryFrame m args maxL)) : Met l y ws rm Pc Qc mc ms free := by
  refine MetFree.of_bodySF (code := cc) (maxLocals := maxL) (ret := ret) hy ?_ ?_
  · intro args s m h hn
    obtain ⟨meth, c, h1, h2, h3, h4, h5, h6, -, -⟩ := Cond.code_spec hn (atoms_spec (ws := ws) h _ (by rw [hw]; exact List.mem_cons_self))
    exact ⟨meth, c, h1, h2, h3, h4, h5, h6⟩
  · intro p e s m args below meth c s₁ B hml hP _
    have hh0 : s₁.heap = s.heap := by rw [B.state]; rfl
    obtain ⟨t, a1, o, b1, b2, b3⟩ := body p e s m args below meth c s₁ B hml hP s₁ hh0 (Stand.of_body B)
    exact ⟨t, o, a1, b1, b2, ⟨b3.1, b3.2⟩⟩
theorem fb_metF {l : Launch} {y : MethodName} {cc : ByteArray} {maxL : Nat} {ret : Option FieldType} {fr lo : Nat} {g : fb_G} {ks : List Nat} {av : List Value} {σ : fb_S} {Q : Array Value → State → Outcome → State → Prop} (hy : plainFor y = true) (hI : fb_I g ks) (hlen : (lg_sl av).length ≤ maxL)
    (body : ∀ (p : Program) (e : Env) (s : State) (m : MethodId) (below : List Frame) (meth : Method) (c : Code) (ls : Array Slot), fb_X p m c cc maxL s av.toArray y.cls g ks (fb_A g ks) → fb_H g ks (fb_A g ks) s.heap σ s.heap [] → meth.sig.returnType = ret → meth.locks = false → lv_has ls maxL (lv_args 0 av) →
      W p l e (fb_R fr lo) s m av.toArray below meth c s.heap [] 0 0 (MQ below Q av.toArray s 0 0 (fb_A g ks)) (F0 m 0 ls [])) : fb_M l y cc maxL ret fr lo g ks av σ Q := by
  refine fb_ofWF (cc := cc) (maxL := maxL) (ret := ret) hy rfl ?_
  intro p e s m args below meth c s₁ B hml hv
  obtain ⟨rfl, hw, hN⟩ := hv
  have hts := atoms_spec (ws := .code y cc maxL ret :: fb_tbl) B.pre
  have hl := lv_entry av (n := maxL) hlen
  rw [lg_entry_eq]
  exact body p e s m below meth c _ ⟨⟨B.exec, B.bytes, hml, findClass_of_methodNamed B.named, fun w hw => hts w (List.mem_cons_of_mem _ hw)⟩, hw.2, hI, fun _ h => h, hN⟩ ⟨hw.1, va_S.rf⟩ B.returns B.notSynchronized hl
def fb_bo (x : Int32) : Bool := x == 0 || x == 1
theorem fb_bo_n {x : Int32} (h : fb_bo x = true) : narrow .boolean (.int x) = .int x := by
  simp only [fb_bo, Bool.or_eq_true, beq_iff_eq] at h
  rcases h with h | h <;> subst h <;> rfl
