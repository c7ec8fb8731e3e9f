/-! ===== rules: calls ===== -/
section AMR5
variable {f : Bool} {y : MethodName} {cc : ByteArray} {nL : Nat} {rt : Option FieldType} {d d' n kc ks kc' ks' pc : Nat} {als : List (Option AV)} {st As : List AV} {w : Wd} {R Rc : Option AV → Wd → Prop}
variable {y' : MethodName} {cc' : ByteArray} {nL' : Nat} {rt' : Option FieldType}
theorem am_good {ws : List Cond} (h : ∀ w ∈ ws, w ∈ am_G) : GoodIn am_G ws := fun w hw => am_G_good w (h w hw)
def am_pre (f : Bool) (D : va_G) (tc : Nat → ClassId) (ad : Int → Nat) (base n : Nat) (w : Wd) (as : List AV) : Array Value → State → Prop := va_Pc (as.map (am_cv ad)) (fun U => U.heap.size = base + n ∧ am_E ad (am_A base) U U.heap ∧ va_K D vwCl (am_tys tc) U ∧ am_AD ad base ∧ va_P D vwCl (am_wl tc ad n w) U.heap ∧ am_okw f w ∧ ∀ v ∈ as, am_ok v)
theorem am_blind {D : va_G} {tc : Nat → ClassId} {ad : Int → Nat} {base : Nat} {as : List AV} : FrameBlind (am_pre f D tc ad base n w as) := fun a U g mk q => by
  obtain ⟨q0, q1, q2, q3, q4, q5, q6, q7⟩ := q
  exact ⟨q0, q1, am_E.same (s := U) (U := U.calling g mk a) rfl rfl q2, va_K.moved (u := U) (U := U.calling g mk a) (Vm.Alike.refl U.vm) q3, q4, q5, q6, q7⟩
theorem am_preAt {D : va_G} {tc : Nat → ClassId} {ad : Int → Nat} {base : Nat} {as : List AV} {s : State} {stk : List AV} {H : Heap} {locs : List Loc} {ls : Array Slot} {cells : Nat} (X : am_X f D tc ad base nL n s als stk w H locs ls cells) (hsz : H.size = base + n) (has : ∀ v ∈ as, am_ok v) : ∀ U : State, U.heap = H → s.WarmedH U.vm → am_pre f D tc ad base n w as (as.map (am_cv ad)).toArray U := by
  obtain ⟨x1, x2, x3, x4, x5, x6, x7, x8, x9, x10, x11, x12⟩ := X
  intro U hU hW
  exact ⟨rfl, by rw [hU]; exact hsz, am_E.at x1 x7 hU hW, va_K.moved hW.alike x2, x3, by rw [hU]; exact x6, x10, has⟩
/-- behind a call -/
theorem am_after {D : va_G} {tc : Nat → ClassId} {ad : Int → Nat} {base : Nat} {p : Program} {l : Launch} {e : Env} {rm : Room} {s : State} {m : MethodId} {args : Array Value} {below : List Frame} {meth : Method} {c : Code} {H : Heap} {locs : List Loc} {ls : Array Slot} {cells slots MC MS : Nat} {stk : List AV} {st0 : List Value} {a : Array Value}
    (C : am_C y cc nL rt p s m args meth c) (X : am_X f D tc ad base nL n s als stk w H locs ls cells) (hst : ∀ v ∈ st, am_ok v) (h3 : cells + (kc' + kc) = MC) (h4 : slots + (ks' + ks) = MS) (h5 : MC ≤ rm.cells) (h6 : MS ≤ rm.slots) (h7 : d ≤ rm.frames) (h8 : 64 * d ≤ rm.locals)
    (hr : va_Run p l e rm s m args below meth c H locs cells slots kc' ks' (F0 m pc ls st0) (st.map (am_cv ad)) (am_Qc f D tc ad base (n + kc') Rc a) (am_A base))
    (k : ∀ r w', Rc r w' → WA f y cc nL rt d (n + kc') kc ks (pc + 3) als (r.toList ++ st) w' R) :
    W p l e rm s m args below meth c H locs cells slots (MQ below (am_Qc f D tc ad base (n + (kc' + kc)) R) args s MC MS (am_A base)) (F0 m pc ls st0) := by
  obtain ⟨x1, x2, x3, x4, x5, x6, x7, x8, x9, x10, x11, x12⟩ := X
  intro T hT Y
  obtain ⟨v, st₀, t, T', L, h0, Y', hL, e1, e2, ⟨⟨r, w', hv, hR, hw', hok, hsz, hP⟩, hz, hk⟩, stp⟩ := hr T hT Y
  cases hv
  rw [h0] at hz hk
  have hS : va_S (am_A base) s.heap T'.heap (locs ++ L) := ⟨Nat.le_trans x7.1 (by rw [e1]; exact hz), fun q q1 q2 => by rw [e1, hk q (Nat.lt_of_lt_of_le q1 x7.1) q2]; exact x7.2.1 q q1 q2, fun q hq => by
      rcases List.mem_append.mp hq with h | h
      · exact x7.2.2 q h
      · exact hL q h⟩
  have K := k r w' hR D tc ad base p l e rm s m args below meth c T'.heap (locs ++ L) ls (cells + kc') (slots + ks') MC MS C ⟨x1, x2, x3, x4, by omega, by rw [e1]; exact hP, hS, x8, x9, hw', x11, fun v hv => by
      rcases List.mem_append.mp hv with h | h
      · cases r with
        | none => cases h
        | some r => exact hok v (by rw [List.mem_singleton.mp h])
      · exact hst v h⟩ (by omega) (by omega) h5 h6 h7 h8
  obtain ⟨t2, a1, b1⟩ := K T' rfl Y'
  have e3 : n + kc' + kc = n + (kc' + kc) := by omega
  rw [e3] at b1
  refine ⟨t2, stp t2 ?_, b1⟩
  have e4 : ((r.map (am_cv ad)).toList ++ st.map (am_cv ad)) = (r.toList ++ st).map (am_cv ad) := by
    cases r with
    | none => rfl
    | some r => rfl
  rw [show ({ F0 m pc ls st0 with pc := (F0 m pc ls st0).pc + 3, stack := (r.map (am_cv ad)).toList ++ st.map (am_cv ad) } : JFrame) = F0 m (pc + 3) ls ((r.toList ++ st).map (am_cv ad)) by rw [← e4]]
  exact a1
def am_link (own : String) (i : Nat) (y' : MethodName) (cc' : ByteArray) (nL' : Nat) (rt' : Option FieldType) (k : Nat) : Prop :=
  (Cond.methodLink own i y' ∈ am_G ∧ Cond.code y' cc' nL' rt' ∈ am_G ∧ Cond.initialized y'.cls ∈ am_G) ∧ (y'.cls ≠ "java/lang/invoke/MethodHandle" ∧ y'.cls ≠ "java/lang/invoke/VarHandle" ∧ (parseMethodDescriptor y'.desc).map (fun d => d.parameters.length) = some k) ∧ nL' ≤ 45
def am_linkN (own : String) (i : Nat) (y' : MethodName) (host : String) (cc' : ByteArray) (nL' : Nat) (rt' : Option FieldType) (k : Nat) : Prop :=
  (Cond.methodLinkNest own i y' host ∈ am_N ∧ Cond.code y' cc' nL' rt' ∈ am_G ∧ Cond.initialized y'.cls ∈ am_G) ∧ (y'.cls ≠ "java/lang/invoke/MethodHandle" ∧ y'.cls ≠ "java/lang/invoke/VarHandle" ∧ (parseMethodDescriptor y'.desc).map (fun d => d.parameters.length) = some k) ∧ nL' ≤ 45
theorem am_codeG (hc : Cond.code y' cc' nL' rt' ∈ am_G) : ∀ w ∈ Cond.code y' cc' nL' rt' :: am_G, w ∈ am_G := fun w hw => by
  rcases List.mem_cons.mp hw with rfl | hw
  · exact hc
  · exact hw
theorem am_rev_ok (h : ∀ v ∈ As.reverse ++ st, am_ok v) : (∀ v ∈ As, am_ok v) ∧ ∀ v ∈ st, am_ok v := ⟨fun v hv => h v (List.mem_append_left _ (List.mem_reverse.mpr hv)), fun v hv => h v (List.mem_append_right _ hv)⟩
theorem am_vc_room (ad : Int → Nat) {m : MethodId} {ls : Array Slot} {rest : List Value} (h : (st.map am_cat).sum ≤ 8) : 2 * (F0 m pc ls rest).monitorRoom + ((st.map (am_cv ad)).map fun v => v.category).sum ≤ 8 := lv_room (by rw [am_cats]; exact h)
/-- invokevirtual -/
theorem WA.callV {i ci N : Nat} {b : Int} {T : u_T} (hd : decode cc pc = .ok (.invokevirtual i, 3)) (hl : am_link y.cls i y' cc' nL' rt' As.length) (hi : Cond.instanceMethod y' ∈ am_G) (hs : Cond.selects y'.cls y' y' ∈ am_G) (hdd : d' < d) (hst : (st.map am_cat).sum ≤ 8)
    (ho : am_obj n b ci N) (hc : vwCl[ci]? = some (y'.cls, T, N)) (hE : EvA f y' cc' nL' rt' d' n kc' ks' (.inr (.inr b) :: As) w Rc)
    (k : ∀ r w', Rc r w' → WA f y cc nL rt d (n + kc') kc ks (pc + 3) als (r.toList ++ st) w' R) : WA f y cc nL rt d n (kc' + kc) (ks' + ks) pc als (As.reverse ++ .inr (.inr b) :: st) w R := by
  intro D tc ad base p l e rm s m args below meth c H locs ls cells slots MC MS C X h3 h4 h5 h6 h7 h8
  obtain ⟨⟨hl1, hl2, hl3⟩, hl4, hl5⟩ := hl
  obtain ⟨hx, hb, hml, -, -, hts, hown, -⟩ := id C
  obtain ⟨x1, x2, x3, x4, x5, x6, x7, x8, x9, x10, x11, x12⟩ := id X
  obtain ⟨o1, o2⟩ := am_rev_ok x12
  refine am_size X (fun hsz => ?_)
  have he := am_wl_at (tc := tc) (ad := ad) (n := n) (w := w) ho.1.1 ho.1.2
  rw [am_ent_o ho.2] at he
  have hb0 : b ≠ 0 := am_obj0 ho
  have hpre := am_preAt X hsz (as := .inr (.inr b) :: As) (fun v hv => by
    rcases List.mem_cons.mp hv with rfl | hv
    · exact am_hd o2
    · exact o1 v hv)
  rw [show (.inr (.inr b) :: As : List AV).map (am_cv ad) = .ref (ad b) :: As.map (am_cv ad) from congrArg (· :: As.map (am_cv ad)) (am_rf1 hb0)] at hpre
  have hG : GoodIn am_G (wsV y.cls i y'.cls y' (Cond.code y' cc' nL' rt' :: am_G)) := am_good (fun w hw => by
    rcases List.mem_append.mp hw with h | h
    · rcases List.mem_cons.mp h with rfl | h
      · exact hl1
      · rcases List.mem_cons.mp h with rfl | h
        · exact hi
        · rcases List.mem_cons.mp h with rfl | h
          · exact hs
          · rw [List.mem_singleton.mp h]; exact hl3
    · exact am_codeG hl2 w h)
  have hrun := va_runV (As := As.map (am_cv ad)) (rest := st.map (am_cv ad)) (g := F0 m pc ls ((As.reverse ++ .inr (.inr b) :: st).map (am_cv ad))) (H := H) (locs := locs) (cells := cells) (slots := slots) (e := e) (below := below) (meth := meth) ⟨hx, hb, hml, hown, hts⟩ (hE D tc ad base l)
    (cwV As.length hts hG rfl rfl rfl ⟨rfl, hl4.1, hl4.2.1, hl4.2.2⟩ ⟨by show d' + 1 ≤ rm.frames; omega, by show 8 + (nL' + 11) + 64 * d' ≤ rm.locals; omega⟩)
    ⟨am_blind, va_recv x2 x6 hc he, hpre⟩ rfl (by simp) x8.1 (by simp [am_cv, am_rf1 hb0]) (am_vc_room ad hst) hd ⟨by omega, by omega⟩
  exact am_after C X (am_tl o2) h3 h4 h5 h6 h7 h8 hrun k
/-- invokevirtual of a nest mate's -/
theorem WA.callVN {i ci N : Nat} {b : Int} {T : u_T} {host : String} (hd : decode cc pc = .ok (.invokevirtual i, 3)) (hl : am_linkN y.cls i y' host cc' nL' rt' As.length) (hi : Cond.instanceMethod y' ∈ am_G) (hs : Cond.selects y'.cls y' y' ∈ am_G) (hdd : d' < d) (hst : (st.map am_cat).sum ≤ 8)
    (ho : am_obj n b ci N) (hc : vwCl[ci]? = some (y'.cls, T, N)) (hE : EvA f y' cc' nL' rt' d' n kc' ks' (.inr (.inr b) :: As) w Rc)
    (k : ∀ r w', Rc r w' → WA f y cc nL rt d (n + kc') kc ks (pc + 3) als (r.toList ++ st) w' R) : WA f y cc nL rt d n (kc' + kc) (ks' + ks) pc als (As.reverse ++ .inr (.inr b) :: st) w R := by
  intro D tc ad base p l e rm s m args below meth c H locs ls cells slots MC MS C X h3 h4 h5 h6 h7 h8
  obtain ⟨⟨hl1, hl2, hl3⟩, hl4, hl5⟩ := hl
  obtain ⟨hx, hb, hml, -, -, hts, hown, -⟩ := id C
  obtain ⟨x1, x2, x3, x4, x5, x6, x7, x8, x9, x10, x11, x12⟩ := id X
  obtain ⟨o1, o2⟩ := am_rev_ok x12
  refine am_size X (fun hsz => ?_)
  have he := am_wl_at (tc := tc) (ad := ad) (n := n) (w := w) ho.1.1 ho.1.2
  rw [am_ent_o ho.2] at he
  have hb0 : b ≠ 0 := am_obj0 ho
  have hpre := am_preAt X hsz (as := .inr (.inr b) :: As) (fun v hv => by
    rcases List.mem_cons.mp hv with rfl | hv
    · exact am_hd o2
    · exact o1 v hv)
  rw [show (.inr (.inr b) :: As : List AV).map (am_cv ad) = .ref (ad b) :: As.map (am_cv ad) from congrArg (· :: As.map (am_cv ad)) (am_rf1 hb0)] at hpre
  have hrun := va_runVN (C := y'.cls) (As := As.map (am_cv ad)) (rest := st.map (am_cv ad)) (g := F0 m pc ls ((As.reverse ++ .inr (.inr b) :: st).map (am_cv ad))) (H := H) (locs := locs) (cells := cells) (slots := slots) (e := e) (below := below) (meth := meth) ⟨hx, hb, hml, hown, hts⟩ (hE D tc ad base l)
    ⟨va_cnB As.length hts (am_good (am_codeG hl2)) rfl rfl rfl (x1.2.2.2.2.2.2.2 _ hl1) (hts _ hl3) hl4 ⟨by show d' + 1 ≤ rm.frames; omega, by show 8 + (nL' + 11) + 64 * d' ≤ rm.locals; omega⟩, hts _ hi, hts _ hs⟩
    ⟨am_blind, va_recv x2 x6 hc he, hpre⟩ rfl (by simp) x8.1 (by simp [am_cv, am_rf1 hb0]) (am_vc_room ad hst) hd ⟨by omega, by omega⟩
  exact am_after C X (am_tl o2) h3 h4 h5 h6 h7 h8 hrun k
/-- invokestatic -/
theorem WA.callS {i : Nat} (hd : decode cc pc = .ok (.invokestatic i, 3)) (hl : am_link y.cls i y' cc' nL' rt' As.length) (hi : Cond.static y' ∈ am_G) (hdd : d' < d) (hst : (st.map am_cat).sum ≤ 8)
    (hE : EvA f y' cc' nL' rt' d' n kc' ks' As w Rc)
    (k : ∀ r w', Rc r w' → WA f y cc nL rt d (n + kc') kc ks (pc + 3) als (r.toList ++ st) w' R) : WA f y cc nL rt d n (kc' + kc) (ks' + ks) pc als (As.reverse ++ st) w R := by
  intro D tc ad base p l e rm s m args below meth c H locs ls cells slots MC MS C X h3 h4 h5 h6 h7 h8
  obtain ⟨⟨hl1, hl2, hl3⟩, hl4, hl5⟩ := hl
  obtain ⟨hx, hb, hml, -, -, hts, hown, -⟩ := id C
  obtain ⟨x1, x2, x3, x4, x5, x6, x7, x8, x9, x10, x11, x12⟩ := id X
  obtain ⟨o1, o2⟩ := am_rev_ok x12
  refine am_size X (fun hsz => ?_)
  have hG : GoodIn am_G (va_wsS y.cls i y' (Cond.code y' cc' nL' rt' :: am_G)) := am_good (fun w hw => by
    rcases List.mem_append.mp hw with h | h
    · rcases List.mem_cons.mp h with rfl | h
      · exact hl1
      · rcases List.mem_cons.mp h with rfl | h
        · exact hi
        · rw [List.mem_singleton.mp h]; exact hl3
    · exact am_codeG hl2 w h)
  have hrun := va_runS (As := As.map (am_cv ad)) (rest := st.map (am_cv ad)) (g := F0 m pc ls ((As.reverse ++ st).map (am_cv ad))) (H := H) (locs := locs) (cells := cells) (slots := slots) (e := e) (below := below) (meth := meth) ⟨hx, hb, hml, hown, hts⟩ (hE D tc ad base l)
    (va_cwS As.length hts hG rfl rfl rfl hl4 ⟨by show d' + 1 ≤ rm.frames; omega, by show 8 + (nL' + 11) + 64 * d' ≤ rm.locals; omega⟩)
    ⟨am_blind, am_preAt X hsz o1⟩ rfl (by simp) x8.1 (by simp) (am_vc_room ad hst) hd ⟨by omega, by omega⟩
  exact am_after C X o2 h3 h4 h5 h6 h7 h8 hrun k
/-- invokestatic of a nest mate's -/
theorem WA.callSN {i : Nat} {host : String} (hd : decode cc pc = .ok (.invokestatic i, 3)) (hl : am_linkN y.cls i y' host cc' nL' rt' As.length) (hi : Cond.static y' ∈ am_G) (hdd : d' < d) (hst : (st.map am_cat).sum ≤ 8)
    (hE : EvA f y' cc' nL' rt' d' n kc' ks' As w Rc)
    (k : ∀ r w', Rc r w' → WA f y cc nL rt d (n + kc') kc ks (pc + 3) als (r.toList ++ st) w' R) : WA f y cc nL rt d n (kc' + kc) (ks' + ks) pc als (As.reverse ++ st) w R := by
  intro D tc ad base p l e rm s m args below meth c H locs ls cells slots MC MS C X h3 h4 h5 h6 h7 h8
  obtain ⟨⟨hl1, hl2, hl3⟩, hl4, hl5⟩ := hl
  obtain ⟨hx, hb, hml, -, -, hts, hown, -⟩ := id C
  obtain ⟨x1, x2, x3, x4, x5, x6, x7, x8, x9, x10, x11, x12⟩ := id X
  obtain ⟨o1, o2⟩ := am_rev_ok x12
  refine am_size X (fun hsz => ?_)
  have hrun := va_runSN (As := As.map (am_cv ad)) (rest := st.map (am_cv ad)) (g := F0 m pc ls ((As.reverse ++ st).map (am_cv ad))) (H := H) (locs := locs) (cells := cells) (slots := slots) (e := e) (below := below) (meth := meth) ⟨hx, hb, hml, hown, hts⟩ (hE D tc ad base l)
    ⟨va_cnB As.length hts (am_good (am_codeG hl2)) rfl rfl rfl (x1.2.2.2.2.2.2.2 _ hl1) (hts _ hl3) hl4 ⟨by show d' + 1 ≤ rm.frames; omega, by show 8 + (nL' + 11) + 64 * d' ≤ rm.locals; omega⟩, hts _ hi, trivial⟩
    ⟨am_blind, am_preAt X hsz o1⟩ rfl (by simp) x8.1 (by simp) (am_vc_room ad hst) hd ⟨by omega, by omega⟩
  exact am_after C X o2 h3 h4 h5 h6 h7 h8 hrun k
/-- invokespecial of a constructor -/
theorem WA.callI {i : Nat} {b : Int} (hd : decode cc pc = .ok (.invokespecial i, 3)) (hl : am_link y.cls i y' cc' nL' none As.length) (hi : Cond.instanceMethod y' ∈ am_G) (hy1 : y'.name = "<init>") (hdd : d' < d) (hst : (st.map am_cat).sum ≤ 8) (hb0 : b ≠ 0)
    (hE : EvA f y' cc' nL' none d' n kc' ks' (.inr (.inr b) :: As) w Rc)
    (k : ∀ r w', Rc r w' → WA f y cc nL rt d (n + kc') kc ks (pc + 3) als (r.toList ++ st) w' R) : WA f y cc nL rt d n (kc' + kc) (ks' + ks) pc als (As.reverse ++ .inr (.inr b) :: st) w R := by
  intro D tc ad base p l e rm s m args below meth c H locs ls cells slots MC MS C X h3 h4 h5 h6 h7 h8
  obtain ⟨⟨hl1, hl2, hl3⟩, hl4, hl5⟩ := hl
  obtain ⟨hx, hb, hml, -, -, hts, hown, -⟩ := id C
  obtain ⟨x1, x2, x3, x4, x5, x6, x7, x8, x9, x10, x11, x12⟩ := id X
  obtain ⟨o1, o2⟩ := am_rev_ok x12
  refine am_size X (fun hsz => ?_)
  have hpre := am_preAt X hsz (as := .inr (.inr b) :: As) (fun v hv => by
    rcases List.mem_cons.mp hv with rfl | hv
    · exact am_hd o2
    · exact o1 v hv)
  rw [show (.inr (.inr b) :: As : List AV).map (am_cv ad) = .ref (ad b) :: As.map (am_cv ad) from congrArg (· :: As.map (am_cv ad)) (am_rf1 hb0)] at hpre
  have hrun := va_runI (As := As.map (am_cv ad)) (rest := st.map (am_cv ad)) (g := F0 m pc ls ((As.reverse ++ .inr (.inr b) :: st).map (am_cv ad))) (H := H) (locs := locs) (cells := cells) (slots := slots) (e := e) (below := below) (meth := meth) ⟨hx, hb, hml, hown, hts⟩ (hE D tc ad base l)
    (cwI As.length hts (am_good (am_codeG hl2)) rfl rfl rfl (hts _ hl3) (hts _ hl1) (hts _ hi) hy1 hl4 ⟨by show d' + 1 ≤ rm.frames; omega, by show 8 + (nL' + 11) + 64 * d' ≤ rm.locals; omega⟩)
    ⟨am_blind, hpre⟩ rfl (by simp) x8.1 (by simp [am_cv, am_rf1 hb0]) (am_vc_room ad hst) hd ⟨by omega, by omega⟩
  exact am_after C X (am_tl o2) h3 h4 h5 h6 h7 h8 hrun k
/-- invokespecial of a nest mate's constructor -/
theorem WA.callIN {host : String} {i : Nat} {b : Int} (hd : decode cc pc = .ok (.invokespecial i, 3)) (hl : am_linkN y.cls i y' host cc' nL' none As.length) (hi : Cond.instanceMethod y' ∈ am_G) (hy1 : y'.name = "<init>") (hdd : d' < d) (hst : (st.map am_cat).sum ≤ 8) (hb0 : b ≠ 0)
    (hE : EvA f y' cc' nL' none d' n kc' ks' (.inr (.inr b) :: As) w Rc)
    (k : ∀ r w', Rc r w' → WA f y cc nL rt d (n + kc') kc ks (pc + 3) als (r.toList ++ st) w' R) : WA f y cc nL rt d n (kc' + kc) (ks' + ks) pc als (As.reverse ++ .inr (.inr b) :: st) w R := by
  intro D tc ad base p l e rm s m args below meth c H locs ls cells slots MC MS C X h3 h4 h5 h6 h7 h8
  obtain ⟨⟨hl1, hl2, hl3⟩, hl4, hl5⟩ := hl
  obtain ⟨hx, hb, hml, -, -, hts, hown, -⟩ := id C
  obtain ⟨x1, x2, x3, x4, x5, x6, x7, x8, x9, x10, x11, x12⟩ := id X
  obtain ⟨o1, o2⟩ := am_rev_ok x12
  refine am_size X (fun hsz => ?_)
  have hpre := am_preAt X hsz (as := .inr (.inr b) :: As) (fun v hv => by
    rcases List.mem_cons.mp hv with rfl | hv
    · exact am_hd o2
    · exact o1 v hv)
  rw [show (.inr (.inr b) :: As : List AV).map (am_cv ad) = .ref (ad b) :: As.map (am_cv ad) from congrArg (· :: As.map (am_cv ad)) (am_rf1 hb0)] at hpre
  have hrun := va_runIN (As := As.map (am_cv ad)) (rest := st.map (am_cv ad)) (g := F0 m pc ls ((As.reverse ++ .inr (.inr b) :: st).map (am_cv ad))) (H := H) (locs := locs) (cells := cells) (slots := slots) (e := e) (below := below) (meth := meth) ⟨hx, hb, hml, hown, hts⟩ (hE D tc ad base l)
    ⟨va_cnB As.length hts (am_good (am_codeG hl2)) rfl rfl rfl (x1.2.2.2.2.2.2.2 _ hl1) (hts _ hl3) hl4 ⟨by show d' + 1 ≤ rm.frames; omega, by show 8 + (nL' + 11) + 64 * d' ≤ rm.locals; omega⟩, hy1, hts _ hi⟩
    ⟨am_blind, hpre⟩ rfl (by simp) x8.1 (by simp [am_cv, am_rf1 hb0]) (am_vc_room ad hst) hd ⟨by omega, by omega⟩
  exact am_after C X (am_tl o2) h3 h4 h5 h6 h7 h8 hrun k
end AMR5
