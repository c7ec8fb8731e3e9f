/-- 'Met.ofW' by the method's own name -/
theorem Met.ofWF {l : Launch} {y : MethodName} {ws ws' : List Cond} {rm : Room} {Pc : Array Value → State → Prop} {Qc : Array Value → State → Outcome → State → Prop} {mc ms : Nat} {free : Addr → Prop} {cc : ByteArray} {maxL : Nat} {ret : Option FieldType}
    (hy : plainFor y = true) (hw : ws = Cond.code y cc maxL ret :: ws')
    (body : ∀ p e s m args below meth c s₁, BodyLoose p l y (headSpec ws rm) cc maxL ret e s m args below meth c s₁ → c.maxLocals = maxL → Pc args s →
      W p l e (headSpec ws rm).room s m args below meth c s.heap [] 0 0 (MQ below Qc args s mc ms free) (entryFrame m args maxL)) : Met l y ws rm Pc Qc mc ms free := by
  refine MetFree.of_bodySF (code := cc) (maxLocals := maxL) (ret := ret) hy ?_ ?_
  · intro args s m h hn
    obtain ⟨meth, c, h1, h2, h3, h4, h5, h6, -, -⟩ := Cond.code_spec hn (atoms_spec (ws := ws) h _ (by rw [hw]; exact List.mem_cons_self))
    exact ⟨meth, c, h1, h2, h3, h4, h5, h6⟩
  · intro p e s m args below meth c s₁ B hml hP _
    have hh0 : s₁.heap = s.heap := by rw [B.state]; rfl
    obtain ⟨t, a1, o, b1, b2, b3⟩ := body p e s m args below meth c s₁ B hml hP s₁ hh0 (Stand.of_body B)
    exact ⟨t, o, a1, b1, b2, ⟨b3.1, b3.2⟩⟩
/-- the same, of a class some of whose methods are entries -/
theorem EvA.ofF {f : Bool} {y : MethodName} {cc : ByteArray} {nL : Nat} {rt : Option FieldType} {d n kc ks : Nat} {as : List AV} {w : Wd} {R : Option AV → Wd → Prop} (hy : plainFor y = true) (hL : (as.flatMap fun v => if am_cat v = 2 then [some v, none] else [some v]).length ≤ nL)
    (h : WA f y cc nL rt d n kc ks 0 (am_loc nL as) [] w R) : EvA f y cc nL rt d n kc ks as w R := by
  intro D tc ad base l
  refine Met.ofWF (cc := cc) (maxL := nL) (ret := rt) hy rfl ?_
  intro p e s m args below meth c s₁ B hml hv
  obtain ⟨rfl, hsz, hE, hK, hAD, hP, hw, hok⟩ := hv
  rw [lg_entry_eq]
  have hts0 := atoms_spec (ws := Cond.code y cc nL rt :: am_G) B.pre
  have hC : am_C y cc nL rt p s m (as.map (am_cv ad)).toArray meth c := ⟨B.exec, B.bytes, hml, B.returns, B.notSynchronized, fun w hw => hts0 w (List.mem_cons_of_mem _ hw), findClass_of_methodNamed B.named, (name_of_methodNamed B.named B.method).1⟩
  have hlen : (am_loc nL as).length = nL := by
    simp only [am_loc, List.length_append, List.length_replicate]
    omega
  exact h D tc ad base p l e _ s m _ below meth c s.heap [] _ 0 0 kc ks hC ⟨hE, hK, hAD, by omega, hsz, hP, va_S.rf, am_loc_has ad as hL, hlen, hw, am_loc_ok hok, fun v hv => by cases hv⟩ (Nat.zero_add _) (Nat.zero_add _) (Nat.le_refl _) (Nat.le_refl _) (Nat.le_refl _) (Nat.le_refl _)
theorem am_S_ne {j : Nat} : (-3 - (j : Int)) ≠ 0 := by omega
theorem am_B_ne {j : Nat} : (-12 - (j : Int)) ≠ 0 := by omega
theorem am_bump {x k : Int} (h : k ≤ x) (hn : ¬ x = k) : k + 1 ≤ x := by omega
