/-! ===== contexts ===== -/
abbrev vwCl : List vw_C := [(RX0, TX0, 2), (RX1, TX1, 1), (RX2, TX2, 4), (RX3, TX3, 8), (RX4, TX4, 2), (RX5, TX5, 14), (RX6, TX6, 2), (RX7, TX7, 2), (RX8, TX8, 8), (RX9, TX9, 45)]
def am_G : List Cond := lw_tbl.filter goodWord
def am_isNest (w : Cond) : Bool := match w with
  | .methodLinkNest _ _ _ _ => true
  | .fieldLinkNest _ _ _ _ _ _ => true
  | _ => false
def am_N : List Cond := lw_tbl.filter am_isNest
theorem am_G_good : GoodIn am_G am_G := goodIn_sub (fun _ h => h) (List.all_eq_true.mpr fun _ h => (List.mem_filter.mp h).2)
def am_slen : List Nat := [3, 5, 4, 4, 3, 4, 4, 4, 6]
def am_sbyt : List (List Int32) := [[105, 102, 40], [112, 105, 99, 107, 40], [100, 105, 118, 40], [109, 111, 100, 40], [97, 116, 40], [109, 105, 110, 40], [109, 97, 120, 40], [115, 117, 109, 40], [99, 111, 117, 110, 116, 40]]
def am_stxt : List String := ["if(", "pick(", "div(", "mod(", "at(", "min(", "max(", "sum(", "count("]
def am_least : List Int := [3, 2, 2, 2, 2, 1, 1, 1, 1]
def am_most : List Int := [3, 5, 2, 2, 2, 4, 4, 4, 4]
/-- what lies outside the world: two static arrays (-1, -2), nine texts (-3 .. -11) with their bytes (-12 .. -20), links of nest mates -/
def am_E (ad : Int → Nat) (A : Nat → Prop) (U : State) (H : Heap) : Prop :=
  (va_Z RX8 "LEAST_PARTS" "[I" (.ref (ad (-1))) A U H ∧ va_T .int (ad (-1)) 9 (fun j => .int (Int32.ofInt (am_least.getD j 0))) A U H) ∧
  (va_Z RX8 "MOST_PARTS" "[I" (.ref (ad (-2))) A U H ∧ va_T .int (ad (-2)) 9 (fun j => .int (Int32.ofInt (am_most.getD j 0))) A U H) ∧
  va_Z "java/lang/String" "COMPACT_STRINGS" "Z" (.int 1) A U H ∧
  vk_S 9 am_slen am_sbyt (fun i => ad (-3 - (i : Int))) (fun i => ad (-12 - (i : Int))) A U H ∧
  (∀ i : Nat, i < 9 → vk_R RX8 (224 + 2 * i) (am_stxt.getD i "") (ad (-3 - (i : Int))) U) ∧ (va_Z RJ3 "SIOOBE_FORMATTER" "Ljava/util/function/BiFunction;" (.ref (ad (-21))) A U H ∨ va_Z RJ3 "SIOOBE_FORMATTER" "Ljava/util/function/BiFunction;" .null A U H) ∧
  va_AO RX5 U ∧ ∀ w ∈ am_N, va_Nw w U
theorem am_N_warm {s U : State} (hW : s.WarmedH U.vm) {w : Cond} (h : am_isNest w = true) (hZ : va_Nw w s) : va_Nw w U := by
  cases w <;> first | (exact va_Nw.warmM hW hZ) | (exact va_Nw.warmF hW hZ) | (cases h)
/-- the same at a later state over a heap that has kept what is outside A -/
theorem am_E.at {ad : Int → Nat} {A : Nat → Prop} {s U : State} {H : Heap} {locs : List Loc} (h : am_E ad A s s.heap) (hS : va_S A s.heap H locs) (hU : U.heap = H) (hW : s.WarmedH U.vm) : am_E ad A U U.heap := by
  obtain ⟨⟨a1, a2⟩, ⟨b1, b2⟩, c1, d1, e1, g1, k1, f1⟩ := h
  have hvm := hW.alike
  rw [hU]
  exact ⟨⟨(a1.moved hvm).kept hS.2.1, (a2.moved hvm).kept hS.2.1⟩, ⟨(b1.moved hvm).kept hS.2.1, (b2.moved hvm).kept hS.2.1⟩, (c1.moved hvm).kept hS.2.1, (d1.moved hvm).kept hS.2.1, fun i hi => (e1 i hi).warm hW, g1.elim (fun g => Or.inl ((g.moved hvm).kept hS.2.1)) (fun g => Or.inr ((g.moved hvm).kept hS.2.1)), k1.moved hvm, fun w hw => am_N_warm hW (List.mem_filter.mp hw).2 (f1 w hw)⟩
theorem am_E.same {ad : Int → Nat} {A : Nat → Prop} {s U : State} (hv : U.vm = s.vm) (hH : U.heap = s.heap) (h : am_E ad A s s.heap) : am_E ad A U U.heap :=
  h.at (locs := []) va_S.rf hH (by rw [hv]; exact State.WarmedH.refl s)
def am_C (y : MethodName) (cc : ByteArray) (nL : Nat) (rt : Option FieldType) (p : Program) (s : State) (m : MethodId) (args : Array Value) (meth : Method) (c : Code) : Prop :=
  p.tables.exec = Jvm.exec ∧ c.code = cc ∧ c.maxLocals = nL ∧ meth.sig.returnType = rt ∧ meth.locks = false ∧ (∀ w ∈ am_G, w.before args s = true) ∧ s.vm.findClass y.cls = some m.cls ∧ meth.name = y.name
/-- the machine stands as the abstract state says -/
def am_X (f : Bool) (D : va_G) (tc : Nat → ClassId) (ad : Int → Nat) (base : Nat) (nL n : Nat) (s : State) (als : List (Option AV)) (st : List AV) (w : Wd) (H : Heap) (locs : List Loc) (ls : Array Slot) (cells : Nat) : Prop :=
  am_E ad (am_A base) s s.heap ∧ va_K D vwCl (am_tys tc) s ∧ am_AD ad base ∧ base ≤ s.heap.size ∧ s.heap.size + cells = base + n ∧ va_P D vwCl (am_wl tc ad n w) H ∧ va_S (am_A base) s.heap H locs ∧ lv_has ls nL (am_lv ad als) ∧ als.length = nL ∧
  am_okw f w ∧ (∀ v, some v ∈ als → am_ok v) ∧ ∀ v ∈ st, am_ok v
def am_Qc (f : Bool) (D : va_G) (tc : Nat → ClassId) (ad : Int → Nat) (base n : Nat) (R : Option AV → Wd → Prop) : Array Value → State → Outcome → State → Prop := fun _ st oc t =>
  (∃ (r : Option AV) (w' : Wd), oc = .returned (r.map (am_cv ad)) ∧ R r w' ∧ am_okw f w' ∧ (∀ v, r = some v → am_ok v) ∧ t.heap.size = base + n ∧ va_P D vwCl (am_wl tc ad n w') t.heap) ∧ va_F (am_A base) st t
def WA (f : Bool) (y : MethodName) (cc : ByteArray) (nL : Nat) (rt : Option FieldType) (d n kc ks pc : Nat) (als : List (Option AV)) (st : List AV) (w : Wd) (R : Option AV → Wd → Prop) : Prop :=
  ∀ (D : va_G) (tc : Nat → ClassId) (ad : Int → Nat) (base : Nat) (p : Program) (l : Launch) (e : Env) (rm : Room) (s : State) (m : MethodId) (args : Array Value) (below : List Frame) (meth : Method) (c : Code) (H : Heap) (locs : List Loc) (ls : Array Slot) (cells slots MC MS : Nat),
    am_C y cc nL rt p s m args meth c → am_X f D tc ad base nL n s als st w H locs ls cells → cells + kc = MC → slots + ks = MS → MC ≤ rm.cells → MS ≤ rm.slots → d ≤ rm.frames → 64 * d ≤ rm.locals →
    W p l e rm s m args below meth c H locs cells slots (MQ below (am_Qc f D tc ad base (n + kc) R) args s MC MS (am_A base)) (F0 m pc ls (st.map (am_cv ad)))
def EvA (f : Bool) (y : MethodName) (cc : ByteArray) (nL : Nat) (rt : Option FieldType) (d n kc ks : Nat) (as : List AV) (w : Wd) (R : Option AV → Wd → Prop) : Prop :=
  ∀ (D : va_G) (tc : Nat → ClassId) (ad : Int → Nat) (base : Nat) (l : Launch), Met l y (Cond.code y cc nL rt :: am_G) { frames := d, cells := kc, slots := ks, locals := 64 * d }
    (va_Pc (as.map (am_cv ad)) (fun U => U.heap.size = base + n ∧ am_E ad (am_A base) U U.heap ∧ va_K D vwCl (am_tys tc) U ∧ am_AD ad base ∧ va_P D vwCl (am_wl tc ad n w) U.heap ∧ am_okw f w ∧ ∀ v ∈ as, am_ok v))
    (am_Qc f D tc ad base (n + kc) R) kc ks (am_A base)
def am_loc (nL : Nat) (as : List AV) : List (Option AV) := (as.flatMap fun v => if am_cat v = 2 then [some v, none] else [some v]) ++ List.replicate (nL - (as.flatMap fun v => if am_cat v = 2 then [some v, none] else [some v]).length) none
theorem am_loc_args (ad : Int → Nat) (as : List AV) : ∀ (i : Nat) (pre : List (Option AV)) (post : List (Option AV)), pre.length = i → (∀ v, some v ∉ post) → ∀ j a, i ≤ j → (pre ++ (as.flatMap fun v => if am_cat v = 2 then [some v, none] else [some v]) ++ post)[j]? = some (some a) → (j, am_cv ad a) ∈ lv_args i (as.map (am_cv ad)) := by
  induction as with
  | nil =>
    intro i pre post hp hn j a hj h
    simp only [List.flatMap_nil, List.append_nil] at h
    rw [List.getElem?_append_right (by omega)] at h
    exact absurd (List.mem_of_getElem? h) (hn a)
  | cons v l ih =>
    intro i pre post hp hn j a hj h
    simp only [List.map_cons, lv_args, am_cat_cv]
    rw [List.flatMap_cons] at h
    by_cases e : j = i
    · subst e
      rw [List.append_assoc, List.getElem?_append_right (by omega), hp] at h
      have : a = v := by
        by_cases c2 : am_cat v = 2
        · rw [if_pos c2] at h
          simp at h
          exact h.symm
        · rw [if_neg c2] at h
          simp at h
          exact h.symm
      rw [this]
      exact List.mem_cons_self
    · refine List.mem_cons_of_mem _ ?_
      by_cases c2 : am_cat v = 2
      · rw [if_pos c2] at h ⊢
        by_cases e2 : j = i + 1
        · subst e2
          rw [List.append_assoc, List.getElem?_append_right (by omega), hp] at h
          simp at h
        · refine ih (i + 2) (pre ++ [some v, none]) post (by simp [hp]) hn j a (by omega) ?_
          simpa using h
      · rw [if_neg c2] at h ⊢
        refine ih (i + 1) (pre ++ [some v]) post (by simp [hp]) hn j a (by omega) ?_
        simpa using h
theorem am_sl_len (ad : Int → Nat) (as : List AV) : (lg_sl (as.map (am_cv ad))).length = (as.flatMap fun v => if am_cat v = 2 then [some v, none] else [some v]).length := by
  induction as with
  | nil => rfl
  | cons v l ih =>
    simp only [List.map_cons, lg_sl, List.flatMap_cons, List.length_append] at ih ⊢
    rw [am_cat_cv]
    rw [ih]
    by_cases c2 : am_cat v = 2
    · simp [c2]
    · simp [c2]
theorem am_loc_has (ad : Int → Nat) (as : List AV) {nL : Nat} (h : (as.flatMap fun v => if am_cat v = 2 then [some v, none] else [some v]).length ≤ nL) : lv_has ((lg_sl (as.map (am_cv ad)) ++ List.replicate (nL - (lg_sl (as.map (am_cv ad))).length) Slot.unset).toArray) nL (am_lv ad (am_loc nL as)) := by
  refine lv_has_mono (lv_entry (as.map (am_cv ad)) (by rw [am_sl_len]; exact h)) (fun q hq => ?_)
  obtain ⟨a, ha, he⟩ := am_lv_mem.mp hq
  have := am_loc_args ad as 0 [] (List.replicate (nL - (as.flatMap fun v => if am_cat v = 2 then [some v, none] else [some v]).length) none) rfl (fun v hv => by have := (List.mem_replicate.mp hv).2; cases this) q.1 a (Nat.zero_le _) (by simpa [am_loc] using ha)
  rw [← he] at this
  exact this
theorem am_loc_ok {as : List AV} {nL : Nat} (h : ∀ v ∈ as, am_ok v) : ∀ v, some v ∈ am_loc nL as → am_ok v := by
  intro v hv
  unfold am_loc at hv
  rcases List.mem_append.mp hv with h1 | h1
  · obtain ⟨x, hx, h2⟩ := List.mem_flatMap.mp h1
    split at h2
    · simp at h2
      rw [h2]; exact h x hx
    · simp at h2
      rw [h2]; exact h x hx
  · have := (List.mem_replicate.mp h1).2
    cases this
/-- from the walk of a body to the contract -/
theorem EvA.of {f : Bool} {y : MethodName} {cc : ByteArray} {nL : Nat} {rt : Option FieldType} {d n kc ks : Nat} {as : List AV} {w : Wd} {R : Option AV → Wd → Prop} (hy : plainName y.cls = true) (hL : (as.flatMap fun v => if am_cat v = 2 then [some v, none] else [some v]).length ≤ nL)
    (h : WA f y cc nL rt d n kc ks 0 (am_loc nL as) [] w R) : EvA f y cc nL rt d n kc ks as w R := by
  intro D tc ad base l
  refine Met.ofW (cc := cc) (maxL := nL) (ret := rt) hy rfl ?_
  intro p e s m args below meth c s₁ B hml hv
  obtain ⟨rfl, hsz, hE, hK, hAD, hP, hw, hok⟩ := hv
  rw [lg_entry_eq]
  have hts0 := atoms_spec (ws := Cond.code y cc nL rt :: am_G) B.pre
  have hC : am_C y cc nL rt p s m (as.map (am_cv ad)).toArray meth c := ⟨B.exec, B.bytes, hml, B.returns, B.notSynchronized, fun w hw => hts0 w (List.mem_cons_of_mem _ hw), findClass_of_methodNamed B.named, (name_of_methodNamed B.named B.method).1⟩
  have hlen : (am_loc nL as).length = nL := by
    simp only [am_loc, List.length_append, List.length_replicate]
    omega
  exact h D tc ad base p l e _ s m _ below meth c s.heap [] _ 0 0 kc ks hC ⟨hE, hK, hAD, by omega, hsz, hP, va_S.rf, am_loc_has ad as hL, hlen, hw, am_loc_ok hok, fun v hv => by cases hv⟩ (Nat.zero_add _) (Nat.zero_add _) (Nat.le_refl _) (Nat.le_refl _) (Nat.le_refl _) (Nat.le_refl _)
theorem EvA.mono {f : Bool} {y : MethodName} {cc : ByteArray} {nL : Nat} {rt : Option FieldType} {d n kc ks : Nat} {as : List AV} {w : Wd} {R R' : Option AV → Wd → Prop} (h : EvA f y cc nL rt d n kc ks as w R) (hR : ∀ r w', R r w' → R' r w') : EvA f y cc nL rt d n kc ks as w R' := by
  intro D tc ad base l p e h1 h2 h3 s m args below h4 h5 h6 h7
  obtain ⟨k, o, a1, a2, a3, ⟨⟨⟨r, w', b1, b2, b3⟩, b4⟩, a5⟩⟩ := h D tc ad base l p e h1 h2 h3 s m args below h4 h5 h6 h7
  exact ⟨k, o, a1, a2, a3, ⟨⟨⟨r, w', b1, hR r w' b2, b3⟩, b4⟩, a5⟩⟩
theorem WA.mono {f : Bool} {y : MethodName} {cc : ByteArray} {nL : Nat} {rt : Option FieldType} {d n kc ks pc : Nat} {als : List (Option AV)} {st : List AV} {w : Wd} {R R' : Option AV → Wd → Prop} (h : WA f y cc nL rt d n kc ks pc als st w R) (hR : ∀ r w', R r w' → R' r w') : WA f y cc nL rt d n kc ks pc als st w R' := by
  intro D tc ad base p l e rm s m args below meth c H locs ls cells slots MC MS h1 h2 h3 h4 h5 h6 h7 h8 T hT X
  obtain ⟨t, a1, o, a2, a3, ⟨⟨r, w', b1, b2, b3⟩, b4⟩, a5⟩ := h D tc ad base p l e rm s m args below meth c H locs ls cells slots MC MS h1 h2 h3 h4 h5 h6 h7 h8 T hT X
  exact ⟨t, a1, o, a2, a3, ⟨⟨r, w', b1, hR r w' b2, b3⟩, b4⟩, a5⟩
theorem WA.deep {f : Bool} {y : MethodName} {cc : ByteArray} {nL : Nat} {rt : Option FieldType} {d d' n kc ks pc : Nat} {als : List (Option AV)} {st : List AV} {w : Wd} {R : Option AV → Wd → Prop} (h : WA f y cc nL rt d n kc ks pc als st w R) (hd : d ≤ d') : WA f y cc nL rt d' n kc ks pc als st w R := by
  intro D tc ad base p l e rm s m args below meth c H locs ls cells slots MC MS h1 h2 h3 h4 h5 h6 h7 h8
  exact h D tc ad base p l e rm s m args below meth c H locs ls cells slots MC MS h1 h2 h3 h4 h5 h6 (Nat.le_trans hd h7) (by omega)
/-- the heap's size is known: the cells of the world are all that has been made -/
theorem am_size {f : Bool} {D : va_G} {tc : Nat → ClassId} {ad : Int → Nat} {base nL n : Nat} {s : State} {als : List (Option AV)} {st : List AV} {w : Wd} {H : Heap} {locs : List Loc} {ls : Array Slot} {cells slots : Nat} {p : Program} {l : Launch} {e : Env} {rm : Room} {m : MethodId} {args : Array Value} {below : List Frame} {meth : Method} {c : Code} {Q : State → Prop} {g : JFrame}
    (X : am_X f D tc ad base nL n s als st w H locs ls cells) (h : H.size = base + n → W p l e rm s m args below meth c H locs cells slots Q g) : W p l e rm s m args below meth c H locs cells slots Q g := by
  intro T hT S
  obtain ⟨x1, x2, x3, x4, x5, x6, x7, x8, x9, x10, x11, x12⟩ := X
  have h1 := S.heapSize
  rw [hT] at h1
  refine h ?_ T hT S
  have h2 : base + n ≤ H.size := by
    cases n with
    | zero => have := x7.1; omega
    | succ k =>
      have h3 := am_wl_at (tc := tc) (ad := ad) (n := k + 1) (w := w) (c := (k : Int) + 1) (by omega) (by omega)
      have h4 := (x6 _ _ h3).lt
      have h5 : ad ((k : Int) + 1) = base + k := x3 k
      rw [show (ad ((k : Int) + 1), am_ent tc ad w ((k : Int) + 1)).1 = base + k from h5] at h4
      omega
  omega
