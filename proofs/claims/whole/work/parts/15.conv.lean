/-! ===== results, calls by number of arguments, cells by number ===== -/
def rI (K : Int → Wd → Prop) : Option AV → Wd → Prop := fun r w => ∃ x, r = some (.inl x) ∧ K x w
def rJ (K : Int → Wd → Prop) : Option AV → Wd → Prop := fun r w => ∃ x, r = some (.inr (.inl x)) ∧ K x w
def rR (K : Int → Wd → Prop) : Option AV → Wd → Prop := fun r w => ∃ x, r = some (.inr (.inr x)) ∧ K x w
def rV (K : Wd → Prop) : Option AV → Wd → Prop := fun r w => r = none ∧ K w
section AMR9
variable {f : Bool} {y : MethodName} {cc : ByteArray} {nL : Nat} {rt : Option FieldType} {d d' n n2 kc ks kc' ks' kc0 ks0 pc : Nat} {als : List (Option AV)} {st : List AV} {w : Wd} {R Rc : Option AV → Wd → Prop}
variable {y' : MethodName} {cc' : ByteArray} {nL' : Nat} {rt' : Option FieldType}
theorem WA.callV0 {i ci N : Nat} {b : Int} {T : u_T} (hd : decode cc pc = .ok (.invokevirtual i, 3)) (hl : am_link y.cls i y' cc' nL' rt' 0 ∧ Cond.instanceMethod y' ∈ am_G ∧ Cond.selects y'.cls y' y' ∈ am_G) (hn : n + kc' = n2) (hkc : kc' + kc = kc0) (hks : ks' + ks = ks0) (ho : am_obj n b ci N) (hc : vwCl[ci]? = some (y'.cls, T, N)) (hst : (st.map am_cat).sum ≤ 8) (hdd : d' < d) (hE : EvA f y' cc' nL' rt' d' n kc' ks' (.inr (.inr b) :: []) w Rc) (k : ∀ r w', Rc r w' → WA f y cc nL rt d n2 kc ks (pc + 3) als (r.toList ++ st) w' R) : WA f y cc nL rt d n kc0 ks0 pc als (.inr (.inr b) :: st) w R := by
  subst hn; subst hkc; subst hks
  exact WA.callV (As := []) hd hl.1 hl.2.1 hl.2.2 hdd hst ho hc hE k
theorem WA.callVN0 {i ci N : Nat} {b : Int} {T : u_T} {host : String} (hd : decode cc pc = .ok (.invokevirtual i, 3)) (hl : am_linkN y.cls i y' host cc' nL' rt' 0 ∧ Cond.instanceMethod y' ∈ am_G ∧ Cond.selects y'.cls y' y' ∈ am_G) (hn : n + kc' = n2) (hkc : kc' + kc = kc0) (hks : ks' + ks = ks0) (ho : am_obj n b ci N) (hc : vwCl[ci]? = some (y'.cls, T, N)) (hst : (st.map am_cat).sum ≤ 8) (hdd : d' < d) (hE : EvA f y' cc' nL' rt' d' n kc' ks' (.inr (.inr b) :: []) w Rc) (k : ∀ r w', Rc r w' → WA f y cc nL rt d n2 kc ks (pc + 3) als (r.toList ++ st) w' R) : WA f y cc nL rt d n kc0 ks0 pc als (.inr (.inr b) :: st) w R := by
  subst hn; subst hkc; subst hks
  exact WA.callVN (As := []) hd hl.1 hl.2.1 hl.2.2 hdd hst ho hc hE k
theorem WA.callS0 {i : Nat} (hd : decode cc pc = .ok (.invokestatic i, 3)) (hl : am_link y.cls i y' cc' nL' rt' 0 ∧ Cond.static y' ∈ am_G) (hn : n + kc' = n2) (hkc : kc' + kc = kc0) (hks : ks' + ks = ks0) (hst : (st.map am_cat).sum ≤ 8) (hdd : d' < d) (hE : EvA f y' cc' nL' rt' d' n kc' ks' [] w Rc) (k : ∀ r w', Rc r w' → WA f y cc nL rt d n2 kc ks (pc + 3) als (r.toList ++ st) w' R) : WA f y cc nL rt d n kc0 ks0 pc als (st) w R := by
  subst hn; subst hkc; subst hks
  exact WA.callS (As := []) hd hl.1 hl.2 hdd hst hE k
theorem WA.callSN0 {i : Nat} {host : String} (hd : decode cc pc = .ok (.invokestatic i, 3)) (hl : am_linkN y.cls i y' host cc' nL' rt' 0 ∧ Cond.static y' ∈ am_G) (hn : n + kc' = n2) (hkc : kc' + kc = kc0) (hks : ks' + ks = ks0) (hst : (st.map am_cat).sum ≤ 8) (hdd : d' < d) (hE : EvA f y' cc' nL' rt' d' n kc' ks' [] w Rc) (k : ∀ r w', Rc r w' → WA f y cc nL rt d n2 kc ks (pc + 3) als (r.toList ++ st) w' R) : WA f y cc nL rt d n kc0 ks0 pc als (st) w R := by
  subst hn; subst hkc; subst hks
  exact WA.callSN (As := []) hd hl.1 hl.2 hdd hst hE k
theorem WA.callI0 {i : Nat} {b : Int} (hd : decode cc pc = .ok (.invokespecial i, 3)) (hl : am_link y.cls i y' cc' nL' none 0 ∧ Cond.instanceMethod y' ∈ am_G ∧ y'.name = "<init>") (hn : n + kc' = n2) (hkc : kc' + kc = kc0) (hks : ks' + ks = ks0) (hb0 : b ≠ 0) (hst : (st.map am_cat).sum ≤ 8) (hdd : d' < d) (hE : EvA f y' cc' nL' none d' n kc' ks' (.inr (.inr b) :: []) w Rc) (k : ∀ r w', Rc r w' → WA f y cc nL rt d n2 kc ks (pc + 3) als (r.toList ++ st) w' R) : WA f y cc nL rt d n kc0 ks0 pc als (.inr (.inr b) :: st) w R := by
  subst hn; subst hkc; subst hks
  exact WA.callI (As := []) hd hl.1 hl.2.1 hl.2.2 hdd hst hb0 hE k
theorem WA.callIN0 {host : String} {i : Nat} {b : Int} (hd : decode cc pc = .ok (.invokespecial i, 3)) (hl : am_linkN y.cls i y' host cc' nL' none 0 ∧ Cond.instanceMethod y' ∈ am_G ∧ y'.name = "<init>") (hn : n + kc' = n2) (hkc : kc' + kc = kc0) (hks : ks' + ks = ks0) (hb0 : b ≠ 0) (hst : (st.map am_cat).sum ≤ 8) (hdd : d' < d) (hE : EvA f y' cc' nL' none d' n kc' ks' (.inr (.inr b) :: []) w Rc) (k : ∀ r w', Rc r w' → WA f y cc nL rt d n2 kc ks (pc + 3) als (r.toList ++ st) w' R) : WA f y cc nL rt d n kc0 ks0 pc als (.inr (.inr b) :: st) w R := by
  subst hn; subst hkc; subst hks
  exact WA.callIN (As := []) hd hl.1 hl.2.1 hl.2.2 hdd hst hb0 hE k
theorem WA.callV1 {a0 : AV} {i ci N : Nat} {b : Int} {T : u_T} (hd : decode cc pc = .ok (.invokevirtual i, 3)) (hl : am_link y.cls i y' cc' nL' rt' 1 ∧ Cond.instanceMethod y' ∈ am_G ∧ Cond.selects y'.cls y' y' ∈ am_G) (hn : n + kc' = n2) (hkc : kc' + kc = kc0) (hks : ks' + ks = ks0) (ho : am_obj n b ci N) (hc : vwCl[ci]? = some (y'.cls, T, N)) (hst : (st.map am_cat).sum ≤ 8) (hdd : d' < d) (hE : EvA f y' cc' nL' rt' d' n kc' ks' (.inr (.inr b) :: [a0]) w Rc) (k : ∀ r w', Rc r w' → WA f y cc nL rt d n2 kc ks (pc + 3) als (r.toList ++ st) w' R) : WA f y cc nL rt d n kc0 ks0 pc als (a0 :: .inr (.inr b) :: st) w R := by
  subst hn; subst hkc; subst hks
  exact WA.callV (As := [a0]) hd hl.1 hl.2.1 hl.2.2 hdd hst ho hc hE k
theorem WA.callVN1 {a0 : AV} {i ci N : Nat} {b : Int} {T : u_T} {host : String} (hd : decode cc pc = .ok (.invokevirtual i, 3)) (hl : am_linkN y.cls i y' host cc' nL' rt' 1 ∧ Cond.instanceMethod y' ∈ am_G ∧ Cond.selects y'.cls y' y' ∈ am_G) (hn : n + kc' = n2) (hkc : kc' + kc = kc0) (hks : ks' + ks = ks0) (ho : am_obj n b ci N) (hc : vwCl[ci]? = some (y'.cls, T, N)) (hst : (st.map am_cat).sum ≤ 8) (hdd : d' < d) (hE : EvA f y' cc' nL' rt' d' n kc' ks' (.inr (.inr b) :: [a0]) w Rc) (k : ∀ r w', Rc r w' → WA f y cc nL rt d n2 kc ks (pc + 3) als (r.toList ++ st) w' R) : WA f y cc nL rt d n kc0 ks0 pc als (a0 :: .inr (.inr b) :: st) w R := by
  subst hn; subst hkc; subst hks
  exact WA.callVN (As := [a0]) hd hl.1 hl.2.1 hl.2.2 hdd hst ho hc hE k
theorem WA.callS1 {a0 : AV} {i : Nat} (hd : decode cc pc = .ok (.invokestatic i, 3)) (hl : am_link y.cls i y' cc' nL' rt' 1 ∧ Cond.static y' ∈ am_G) (hn : n + kc' = n2) (hkc : kc' + kc = kc0) (hks : ks' + ks = ks0) (hst : (st.map am_cat).sum ≤ 8) (hdd : d' < d) (hE : EvA f y' cc' nL' rt' d' n kc' ks' [a0] w Rc) (k : ∀ r w', Rc r w' → WA f y cc nL rt d n2 kc ks (pc + 3) als (r.toList ++ st) w' R) : WA f y cc nL rt d n kc0 ks0 pc als (a0 :: st) w R := by
  subst hn; subst hkc; subst hks
  exact WA.callS (As := [a0]) hd hl.1 hl.2 hdd hst hE k
theorem WA.callSN1 {a0 : AV} {i : Nat} {host : String} (hd : decode cc pc = .ok (.invokestatic i, 3)) (hl : am_linkN y.cls i y' host cc' nL' rt' 1 ∧ Cond.static y' ∈ am_G) (hn : n + kc' = n2) (hkc : kc' + kc = kc0) (hks : ks' + ks = ks0) (hst : (st.map am_cat).sum ≤ 8) (hdd : d' < d) (hE : EvA f y' cc' nL' rt' d' n kc' ks' [a0] w Rc) (k : ∀ r w', Rc r w' → WA f y cc nL rt d n2 kc ks (pc + 3) als (r.toList ++ st) w' R) : WA f y cc nL rt d n kc0 ks0 pc als (a0 :: st) w R := by
  subst hn; subst hkc; subst hks
  exact WA.callSN (As := [a0]) hd hl.1 hl.2 hdd hst hE k
theorem WA.callI1 {a0 : AV} {i : Nat} {b : Int} (hd : decode cc pc = .ok (.invokespecial i, 3)) (hl : am_link y.cls i y' cc' nL' none 1 ∧ Cond.instanceMethod y' ∈ am_G ∧ y'.name = "<init>") (hn : n + kc' = n2) (hkc : kc' + kc = kc0) (hks : ks' + ks = ks0) (hb0 : b ≠ 0) (hst : (st.map am_cat).sum ≤ 8) (hdd : d' < d) (hE : EvA f y' cc' nL' none d' n kc' ks' (.inr (.inr b) :: [a0]) w Rc) (k : ∀ r w', Rc r w' → WA f y cc nL rt d n2 kc ks (pc + 3) als (r.toList ++ st) w' R) : WA f y cc nL rt d n kc0 ks0 pc als (a0 :: .inr (.inr b) :: st) w R := by
  subst hn; subst hkc; subst hks
  exact WA.callI (As := [a0]) hd hl.1 hl.2.1 hl.2.2 hdd hst hb0 hE k
theorem WA.callIN1 {a0 : AV} {host : String} {i : Nat} {b : Int} (hd : decode cc pc = .ok (.invokespecial i, 3)) (hl : am_linkN y.cls i y' host cc' nL' none 1 ∧ Cond.instanceMethod y' ∈ am_G ∧ y'.name = "<init>") (hn : n + kc' = n2) (hkc : kc' + kc = kc0) (hks : ks' + ks = ks0) (hb0 : b ≠ 0) (hst : (st.map am_cat).sum ≤ 8) (hdd : d' < d) (hE : EvA f y' cc' nL' none d' n kc' ks' (.inr (.inr b) :: [a0]) w Rc) (k : ∀ r w', Rc r w' → WA f y cc nL rt d n2 kc ks (pc + 3) als (r.toList ++ st) w' R) : WA f y cc nL rt d n kc0 ks0 pc als (a0 :: .inr (.inr b) :: st) w R := by
  subst hn; subst hkc; subst hks
  exact WA.callIN (As := [a0]) hd hl.1 hl.2.1 hl.2.2 hdd hst hb0 hE k
theorem WA.callV2 {a0 a1 : AV} {i ci N : Nat} {b : Int} {T : u_T} (hd : decode cc pc = .ok (.invokevirtual i, 3)) (hl : am_link y.cls i y' cc' nL' rt' 2 ∧ Cond.instanceMethod y' ∈ am_G ∧ Cond.selects y'.cls y' y' ∈ am_G) (hn : n + kc' = n2) (hkc : kc' + kc = kc0) (hks : ks' + ks = ks0) (ho : am_obj n b ci N) (hc : vwCl[ci]? = some (y'.cls, T, N)) (hst : (st.map am_cat).sum ≤ 8) (hdd : d' < d) (hE : EvA f y' cc' nL' rt' d' n kc' ks' (.inr (.inr b) :: [a0, a1]) w Rc) (k : ∀ r w', Rc r w' → WA f y cc nL rt d n2 kc ks (pc + 3) als (r.toList ++ st) w' R) : WA f y cc nL rt d n kc0 ks0 pc als (a1 :: a0 :: .inr (.inr b) :: st) w R := by
  subst hn; subst hkc; subst hks
  exact WA.callV (As := [a0, a1]) hd hl.1 hl.2.1 hl.2.2 hdd hst ho hc hE k
theorem WA.callVN2 {a0 a1 : AV} {i ci N : Nat} {b : Int} {T : u_T} {host : String} (hd : decode cc pc = .ok (.invokevirtual i, 3)) (hl : am_linkN y.cls i y' host cc' nL' rt' 2 ∧ Cond.instanceMethod y' ∈ am_G ∧ Cond.selects y'.cls y' y' ∈ am_G) (hn : n + kc' = n2) (hkc : kc' + kc = kc0) (hks : ks' + ks = ks0) (ho : am_obj n b ci N) (hc : vwCl[ci]? = some (y'.cls, T, N)) (hst : (st.map am_cat).sum ≤ 8) (hdd : d' < d) (hE : EvA f y' cc' nL' rt' d' n kc' ks' (.inr (.inr b) :: [a0, a1]) w Rc) (k : ∀ r w', Rc r w' → WA f y cc nL rt d n2 kc ks (pc + 3) als (r.toList ++ st) w' R) : WA f y cc nL rt d n kc0 ks0 pc als (a1 :: a0 :: .inr (.inr b) :: st) w R := by
  subst hn; subst hkc; subst hks
  exact WA.callVN (As := [a0, a1]) hd hl.1 hl.2.1 hl.2.2 hdd hst ho hc hE k
theorem WA.callS2 {a0 a1 : AV} {i : Nat} (hd : decode cc pc = .ok (.invokestatic i, 3)) (hl : am_link y.cls i y' cc' nL' rt' 2 ∧ Cond.static y' ∈ am_G) (hn : n + kc' = n2) (hkc : kc' + kc = kc0) (hks : ks' + ks = ks0) (hst : (st.map am_cat).sum ≤ 8) (hdd : d' < d) (hE : EvA f y' cc' nL' rt' d' n kc' ks' [a0, a1] w Rc) (k : ∀ r w', Rc r w' → WA f y cc nL rt d n2 kc ks (pc + 3) als (r.toList ++ st) w' R) : WA f y cc nL rt d n kc0 ks0 pc als (a1 :: a0 :: st) w R := by
  subst hn; subst hkc; subst hks
  exact WA.callS (As := [a0, a1]) hd hl.1 hl.2 hdd hst hE k
theorem WA.callSN2 {a0 a1 : AV} {i : Nat} {host : String} (hd : decode cc pc = .ok (.invokestatic i, 3)) (hl : am_linkN y.cls i y' host cc' nL' rt' 2 ∧ Cond.static y' ∈ am_G) (hn : n + kc' = n2) (hkc : kc' + kc = kc0) (hks : ks' + ks = ks0) (hst : (st.map am_cat).sum ≤ 8) (hdd : d' < d) (hE : EvA f y' cc' nL' rt' d' n kc' ks' [a0, a1] w Rc) (k : ∀ r w', Rc r w' → WA f y cc nL rt d n2 kc ks (pc + 3) als (r.toList ++ st) w' R) : WA f y cc nL rt d n kc0 ks0 pc als (a1 :: a0 :: st) w R := by
  subst hn; subst hkc; subst hks
  exact WA.callSN (As := [a0, a1]) hd hl.1 hl.2 hdd hst hE k
theorem WA.callI2 {a0 a1 : AV} {i : Nat} {b : Int} (hd : decode cc pc = .ok (.invokespecial i, 3)) (hl : am_link y.cls i y' cc' nL' none 2 ∧ Cond.instanceMethod y' ∈ am_G ∧ y'.name = "<init>") (hn : n + kc' = n2) (hkc : kc' + kc = kc0) (hks : ks' + ks = ks0) (hb0 : b ≠ 0) (hst : (st.map am_cat).sum ≤ 8) (hdd : d' < d) (hE : EvA f y' cc' nL' none d' n kc' ks' (.inr (.inr b) :: [a0, a1]) w Rc) (k : ∀ r w', Rc r w' → WA f y cc nL rt d n2 kc ks (pc + 3) als (r.toList ++ st) w' R) : WA f y cc nL rt d n kc0 ks0 pc als (a1 :: a0 :: .inr (.inr b) :: st) w R := by
  subst hn; subst hkc; subst hks
  exact WA.callI (As := [a0, a1]) hd hl.1 hl.2.1 hl.2.2 hdd hst hb0 hE k
theorem WA.callIN2 {a0 a1 : AV} {host : String} {i : Nat} {b : Int} (hd : decode cc pc = .ok (.invokespecial i, 3)) (hl : am_linkN y.cls i y' host cc' nL' none 2 ∧ Cond.instanceMethod y' ∈ am_G ∧ y'.name = "<init>") (hn : n + kc' = n2) (hkc : kc' + kc = kc0) (hks : ks' + ks = ks0) (hb0 : b ≠ 0) (hst : (st.map am_cat).sum ≤ 8) (hdd : d' < d) (hE : EvA f y' cc' nL' none d' n kc' ks' (.inr (.inr b) :: [a0, a1]) w Rc) (k : ∀ r w', Rc r w' → WA f y cc nL rt d n2 kc ks (pc + 3) als (r.toList ++ st) w' R) : WA f y cc nL rt d n kc0 ks0 pc als (a1 :: a0 :: .inr (.inr b) :: st) w R := by
  subst hn; subst hkc; subst hks
  exact WA.callIN (As := [a0, a1]) hd hl.1 hl.2.1 hl.2.2 hdd hst hb0 hE k
theorem WA.callV3 {a0 a1 a2 : AV} {i ci N : Nat} {b : Int} {T : u_T} (hd : decode cc pc = .ok (.invokevirtual i, 3)) (hl : am_link y.cls i y' cc' nL' rt' 3 ∧ Cond.instanceMethod y' ∈ am_G ∧ Cond.selects y'.cls y' y' ∈ am_G) (hn : n + kc' = n2) (hkc : kc' + kc = kc0) (hks : ks' + ks = ks0) (ho : am_obj n b ci N) (hc : vwCl[ci]? = some (y'.cls, T, N)) (hst : (st.map am_cat).sum ≤ 8) (hdd : d' < d) (hE : EvA f y' cc' nL' rt' d' n kc' ks' (.inr (.inr b) :: [a0, a1, a2]) w Rc) (k : ∀ r w', Rc r w' → WA f y cc nL rt d n2 kc ks (pc + 3) als (r.toList ++ st) w' R) : WA f y cc nL rt d n kc0 ks0 pc als (a2 :: a1 :: a0 :: .inr (.inr b) :: st) w R := by
  subst hn; subst hkc; subst hks
  exact WA.callV (As := [a0, a1, a2]) hd hl.1 hl.2.1 hl.2.2 hdd hst ho hc hE k
theorem WA.callVN3 {a0 a1 a2 : AV} {i ci N : Nat} {b : Int} {T : u_T} {host : String} (hd : decode cc pc = .ok (.invokevirtual i, 3)) (hl : am_linkN y.cls i y' host cc' nL' rt' 3 ∧ Cond.instanceMethod y' ∈ am_G ∧ Cond.selects y'.cls y' y' ∈ am_G) (hn : n + kc' = n2) (hkc : kc' + kc = kc0) (hks : ks' + ks = ks0) (ho : am_obj n b ci N) (hc : vwCl[ci]? = some (y'.cls, T, N)) (hst : (st.map am_cat).sum ≤ 8) (hdd : d' < d) (hE : EvA f y' cc' nL' rt' d' n kc' ks' (.inr (.inr b) :: [a0, a1, a2]) w Rc) (k : ∀ r w', Rc r w' → WA f y cc nL rt d n2 kc ks (pc + 3) als (r.toList ++ st) w' R) : WA f y cc nL rt d n kc0 ks0 pc als (a2 :: a1 :: a0 :: .inr (.inr b) :: st) w R := by
  subst hn; subst hkc; subst hks
  exact WA.callVN (As := [a0, a1, a2]) hd hl.1 hl.2.1 hl.2.2 hdd hst ho hc hE k
theorem WA.callS3 {a0 a1 a2 : AV} {i : Nat} (hd : decode cc pc = .ok (.invokestatic i, 3)) (hl : am_link y.cls i y' cc' nL' rt' 3 ∧ Cond.static y' ∈ am_G) (hn : n + kc' = n2) (hkc : kc' + kc = kc0) (hks : ks' + ks = ks0) (hst : (st.map am_cat).sum ≤ 8) (hdd : d' < d) (hE : EvA f y' cc' nL' rt' d' n kc' ks' [a0, a1, a2] w Rc) (k : ∀ r w', Rc r w' → WA f y cc nL rt d n2 kc ks (pc + 3) als (r.toList ++ st) w' R) : WA f y cc nL rt d n kc0 ks0 pc als (a2 :: a1 :: a0 :: st) w R := by
  subst hn; subst hkc; subst hks
  exact WA.callS (As := [a0, a1, a2]) hd hl.1 hl.2 hdd hst hE k
theorem WA.callSN3 {a0 a1 a2 : AV} {i : Nat} {host : String} (hd : decode cc pc = .ok (.invokestatic i, 3)) (hl : am_linkN y.cls i y' host cc' nL' rt' 3 ∧ Cond.static y' ∈ am_G) (hn : n + kc' = n2) (hkc : kc' + kc = kc0) (hks : ks' + ks = ks0) (hst : (st.map am_cat).sum ≤ 8) (hdd : d' < d) (hE : EvA f y' cc' nL' rt' d' n kc' ks' [a0, a1, a2] w Rc) (k : ∀ r w', Rc r w' → WA f y cc nL rt d n2 kc ks (pc + 3) als (r.toList ++ st) w' R) : WA f y cc nL rt d n kc0 ks0 pc als (a2 :: a1 :: a0 :: st) w R := by
  subst hn; subst hkc; subst hks
  exact WA.callSN (As := [a0, a1, a2]) hd hl.1 hl.2 hdd hst hE k
theorem WA.callI3 {a0 a1 a2 : AV} {i : Nat} {b : Int} (hd : decode cc pc = .ok (.invokespecial i, 3)) (hl : am_link y.cls i y' cc' nL' none 3 ∧ Cond.instanceMethod y' ∈ am_G ∧ y'.name = "<init>") (hn : n + kc' = n2) (hkc : kc' + kc = kc0) (hks : ks' + ks = ks0) (hb0 : b ≠ 0) (hst : (st.map am_cat).sum ≤ 8) (hdd : d' < d) (hE : EvA f y' cc' nL' none d' n kc' ks' (.inr (.inr b) :: [a0, a1, a2]) w Rc) (k : ∀ r w', Rc r w' → WA f y cc nL rt d n2 kc ks (pc + 3) als (r.toList ++ st) w' R) : WA f y cc nL rt d n kc0 ks0 pc als (a2 :: a1 :: a0 :: .inr (.inr b) :: st) w R := by
  subst hn; subst hkc; subst hks
  exact WA.callI (As := [a0, a1, a2]) hd hl.1 hl.2.1 hl.2.2 hdd hst hb0 hE k
theorem WA.callIN3 {a0 a1 a2 : AV} {host : String} {i : Nat} {b : Int} (hd : decode cc pc = .ok (.invokespecial i, 3)) (hl : am_linkN y.cls i y' host cc' nL' none 3 ∧ Cond.instanceMethod y' ∈ am_G ∧ y'.name = "<init>") (hn : n + kc' = n2) (hkc : kc' + kc = kc0) (hks : ks' + ks = ks0) (hb0 : b ≠ 0) (hst : (st.map am_cat).sum ≤ 8) (hdd : d' < d) (hE : EvA f y' cc' nL' none d' n kc' ks' (.inr (.inr b) :: [a0, a1, a2]) w Rc) (k : ∀ r w', Rc r w' → WA f y cc nL rt d n2 kc ks (pc + 3) als (r.toList ++ st) w' R) : WA f y cc nL rt d n kc0 ks0 pc als (a2 :: a1 :: a0 :: .inr (.inr b) :: st) w R := by
  subst hn; subst hkc; subst hks
  exact WA.callIN (As := [a0, a1, a2]) hd hl.1 hl.2.1 hl.2.2 hdd hst hb0 hE k
theorem WA.callV4 {a0 a1 a2 a3 : AV} {i ci N : Nat} {b : Int} {T : u_T} (hd : decode cc pc = .ok (.invokevirtual i, 3)) (hl : am_link y.cls i y' cc' nL' rt' 4 ∧ Cond.instanceMethod y' ∈ am_G ∧ Cond.selects y'.cls y' y' ∈ am_G) (hn : n + kc' = n2) (hkc : kc' + kc = kc0) (hks : ks' + ks = ks0) (ho : am_obj n b ci N) (hc : vwCl[ci]? = some (y'.cls, T, N)) (hst : (st.map am_cat).sum ≤ 8) (hdd : d' < d) (hE : EvA f y' cc' nL' rt' d' n kc' ks' (.inr (.inr b) :: [a0, a1, a2, a3]) w Rc) (k : ∀ r w', Rc r w' → WA f y cc nL rt d n2 kc ks (pc + 3) als (r.toList ++ st) w' R) : WA f y cc nL rt d n kc0 ks0 pc als (a3 :: a2 :: a1 :: a0 :: .inr (.inr b) :: st) w R := by
  subst hn; subst hkc; subst hks
  exact WA.callV (As := [a0, a1, a2, a3]) hd hl.1 hl.2.1 hl.2.2 hdd hst ho hc hE k
theorem WA.callVN4 {a0 a1 a2 a3 : AV} {i ci N : Nat} {b : Int} {T : u_T} {host : String} (hd : decode cc pc = .ok (.invokevirtual i, 3)) (hl : am_linkN y.cls i y' host cc' nL' rt' 4 ∧ Cond.instanceMethod y' ∈ am_G ∧ Cond.selects y'.cls y' y' ∈ am_G) (hn : n + kc' = n2) (hkc : kc' + kc = kc0) (hks : ks' + ks = ks0) (ho : am_obj n b ci N) (hc : vwCl[ci]? = some (y'.cls, T, N)) (hst : (st.map am_cat).sum ≤ 8) (hdd : d' < d) (hE : EvA f y' cc' nL' rt' d' n kc' ks' (.inr (.inr b) :: [a0, a1, a2, a3]) w Rc) (k : ∀ r w', Rc r w' → WA f y cc nL rt d n2 kc ks (pc + 3) als (r.toList ++ st) w' R) : WA f y cc nL rt d n kc0 ks0 pc als (a3 :: a2 :: a1 :: a0 :: .inr (.inr b) :: st) w R := by
  subst hn; subst hkc; subst hks
  exact WA.callVN (As := [a0, a1, a2, a3]) hd hl.1 hl.2.1 hl.2.2 hdd hst ho hc hE k
theorem WA.callS4 {a0 a1 a2 a3 : AV} {i : Nat} (hd : decode cc pc = .ok (.invokestatic i, 3)) (hl : am_link y.cls i y' cc' nL' rt' 4 ∧ Cond.static y' ∈ am_G) (hn : n + kc' = n2) (hkc : kc' + kc = kc0) (hks : ks' + ks = ks0) (hst : (st.map am_cat).sum ≤ 8) (hdd : d' < d) (hE : EvA f y' cc' nL' rt' d' n kc' ks' [a0, a1, a2, a3] w Rc) (k : ∀ r w', Rc r w' → WA f y cc nL rt d n2 kc ks (pc + 3) als (r.toList ++ st) w' R) : WA f y cc nL rt d n kc0 ks0 pc als (a3 :: a2 :: a1 :: a0 :: st) w R := by
  subst hn; subst hkc; subst hks
  exact WA.callS (As := [a0, a1, a2, a3]) hd hl.1 hl.2 hdd hst hE k
theorem WA.callSN4 {a0 a1 a2 a3 : AV} {i : Nat} {host : String} (hd : decode cc pc = .ok (.invokestatic i, 3)) (hl : am_linkN y.cls i y' host cc' nL' rt' 4 ∧ Cond.static y' ∈ am_G) (hn : n + kc' = n2) (hkc : kc' + kc = kc0) (hks : ks' + ks = ks0) (hst : (st.map am_cat).sum ≤ 8) (hdd : d' < d) (hE : EvA f y' cc' nL' rt' d' n kc' ks' [a0, a1, a2, a3] w Rc) (k : ∀ r w', Rc r w' → WA f y cc nL rt d n2 kc ks (pc + 3) als (r.toList ++ st) w' R) : WA f y cc nL rt d n kc0 ks0 pc als (a3 :: a2 :: a1 :: a0 :: st) w R := by
  subst hn; subst hkc; subst hks
  exact WA.callSN (As := [a0, a1, a2, a3]) hd hl.1 hl.2 hdd hst hE k
theorem WA.callI4 {a0 a1 a2 a3 : AV} {i : Nat} {b : Int} (hd : decode cc pc = .ok (.invokespecial i, 3)) (hl : am_link y.cls i y' cc' nL' none 4 ∧ Cond.instanceMethod y' ∈ am_G ∧ y'.name = "<init>") (hn : n + kc' = n2) (hkc : kc' + kc = kc0) (hks : ks' + ks = ks0) (hb0 : b ≠ 0) (hst : (st.map am_cat).sum ≤ 8) (hdd : d' < d) (hE : EvA f y' cc' nL' none d' n kc' ks' (.inr (.inr b) :: [a0, a1, a2, a3]) w Rc) (k : ∀ r w', Rc r w' → WA f y cc nL rt d n2 kc ks (pc + 3) als (r.toList ++ st) w' R) : WA f y cc nL rt d n kc0 ks0 pc als (a3 :: a2 :: a1 :: a0 :: .inr (.inr b) :: st) w R := by
  subst hn; subst hkc; subst hks
  exact WA.callI (As := [a0, a1, a2, a3]) hd hl.1 hl.2.1 hl.2.2 hdd hst hb0 hE k
theorem WA.callIN4 {a0 a1 a2 a3 : AV} {host : String} {i : Nat} {b : Int} (hd : decode cc pc = .ok (.invokespecial i, 3)) (hl : am_linkN y.cls i y' host cc' nL' none 4 ∧ Cond.instanceMethod y' ∈ am_G ∧ y'.name = "<init>") (hn : n + kc' = n2) (hkc : kc' + kc = kc0) (hks : ks' + ks = ks0) (hb0 : b ≠ 0) (hst : (st.map am_cat).sum ≤ 8) (hdd : d' < d) (hE : EvA f y' cc' nL' none d' n kc' ks' (.inr (.inr b) :: [a0, a1, a2, a3]) w Rc) (k : ∀ r w', Rc r w' → WA f y cc nL rt d n2 kc ks (pc + 3) als (r.toList ++ st) w' R) : WA f y cc nL rt d n kc0 ks0 pc als (a3 :: a2 :: a1 :: a0 :: .inr (.inr b) :: st) w R := by
  subst hn; subst hkc; subst hks
  exact WA.callIN (As := [a0, a1, a2, a3]) hd hl.1 hl.2.1 hl.2.2 hdd hst hb0 hE k
theorem WA.top {v v2 : AV} (h : v = v2) (k : WA f y cc nL rt d n kc ks pc als (v2 :: st) w R) : WA f y cc nL rt d n kc ks pc als (v :: st) w R := by
  subst h
  exact k
/-- the receiver is a text -/
theorem WA.callStr {As : List AV} {i j : Nat} (hj : j < 9) (hd : decode cc pc = .ok (.invokevirtual i, 3)) (hl : am_link y.cls i y' cc' nL' rt' As.length ∧ Cond.instanceMethod y' ∈ am_G ∧ Cond.selects y'.cls y' y' ∈ am_G) (hc : y'.cls = "java/lang/String") (hdd : d' < d) (hst : (st.map am_cat).sum ≤ 8)
    (hE : EvA f y' cc' nL' rt' d' n kc' ks' (.inr (.inr (-3 - (j : Int))) :: As) w Rc)
    (k : ∀ r w', Rc r w' → WA f y cc nL rt d (n + kc') kc ks (pc + 3) als (r.toList ++ st) w' R) : WA f y cc nL rt d n (kc' + kc) (ks' + ks) pc als (As.reverse ++ .inr (.inr (-3 - (j : Int))) :: st) w R := by
  intro D tc ad base p l e rm s m args below meth c H locs ls cells slots MC MS C X h3 h4 h5 h6 h7 h8
  obtain ⟨⟨⟨hl1, hl2, hl3⟩, hl4, hl5⟩, hi, hs⟩ := hl
  obtain ⟨hx, hb, hml, -, -, hts, hown, -⟩ := id C
  obtain ⟨x1, x2, x3, x4, x5, x6, x7, x8, x9, x10, x11, x12⟩ := id X
  obtain ⟨o1, o2⟩ := am_rev_ok x12
  refine am_size X (fun hsz => ?_)
  have hpre := am_preAt X hsz (as := .inr (.inr (-3 - (j : Int))) :: As) (fun v hv => by
    rcases List.mem_cons.mp hv with rfl | hv
    · exact am_hd o2
    · exact o1 v hv)
  rw [show (.inr (.inr (-3 - (j : Int))) :: As : List AV).map (am_cv ad) = .ref (ad (-3 - (j : Int))) :: As.map (am_cv ad) from congrArg (· :: As.map (am_cv ad)) am_roS] at hpre
  have hG : GoodIn am_G (wsV y.cls i y'.cls y' (Cond.code y' cc' nL' rt' :: am_G)) := am_good (fun w hw => by
    rcases List.mem_append.mp hw with h | h
    · rcases List.mem_cons.mp h with rfl | h
      · exact hl1
      · rcases List.mem_cons.mp h with rfl | h
        · exact hi
        · rcases List.mem_cons.mp h with rfl | h
          · exact hs
          · rw [List.mem_singleton.mp h]; exact hl3
    · exact am_codeG hl2 w h)
  have hrv : ∃ cell : Cell, H[ad (-3 - (j : Int))]? = some cell ∧ cell.vm.isStatics = false ∧ s.vm.findClass y'.cls = some cell.cls := by
    rw [hc]
    exact vk_recv x1.2.2.2.1 hj x7
  have hrun := va_runV (As := As.map (am_cv ad)) (rest := st.map (am_cv ad)) (g := F0 m pc ls ((As.reverse ++ .inr (.inr (-3 - (j : Int))) :: st).map (am_cv ad))) (H := H) (locs := locs) (cells := cells) (slots := slots) (e := e) (below := below) (meth := meth) ⟨hx, hb, hml, hown, hts⟩ (hE D tc ad base l)
    (cwV As.length hts hG rfl rfl rfl ⟨rfl, hl4.1, hl4.2.1, hl4.2.2⟩ ⟨by show d' + 1 ≤ rm.frames; omega, by show 8 + (nL' + 11) + 64 * d' ≤ rm.locals; omega⟩)
    ⟨am_blind, hrv, hpre⟩ rfl (by simp) x8.1 (by rw [List.map_append, List.map_cons, List.map_reverse]; show _ ++ am_rf ad _ :: _ = _; rw [am_roS]) (am_vc_room ad hst) hd ⟨by omega, by omega⟩
  exact am_after C X (am_tl o2) h3 h4 h5 h6 h7 h8 hrun k
theorem WA.new2 {i ci N : Nat} {C : String} {T : u_T} {c : Int} (hn : n + 1 = n2) (hkc : kc + 1 = kc0) (hks : ks + N = ks0) (hcn : (n : Int) + 1 = c) (hd : decode cc pc = .ok (.new i, 3)) (hl : am_lay c = (ci + 4, N)) (hn9 : (n : Int) + 1 ≤ 2147483647) (hc : vwCl[ci]? = some (C, T, N)) (hin : ∀ w ∈ u_ws C T N, w ∈ am_G) (hty : ∀ k, k < N → parseFieldDescriptor (T k).2.2.1 = some (am_fty ci k)) (hok : ∀ k, k < N → am_okty (am_fty ci k) = true)
    (h1 : Cond.classLink y.cls i C ∈ am_G ∧ Cond.instantiable C N ∈ am_G ∧ Cond.initialized C ∈ am_G)
    (k : WA false y cc nL rt d n2 kc ks (pc + 3) als (.inr (.inr c) :: st) (wnew w c) R) : WA false y cc nL rt d n kc0 ks0 pc als st w R := by
  subst hn; subst hkc; subst hks; subst hcn
  exact WA.new hd hl hn9 hc hin hty hok h1.1 h1.2.1 h1.2.2 k
theorem WA.newarray2 {x : Int} {K N : Nat} {at_ : ArrayType} {c : Int} (hn : n + 1 = n2) (hkc : kc + 1 = kc0) (hks : ks + N = ks0) (hcn : (n : Int) + 1 = c) (hd : decode cc pc = .ok (.newarray at_, 2)) (hK : K < 3) (hat : newarray.typeOf at_ = am_tyk K) (hl : am_lay c = (K, N)) (hx0 : x = (N : Int)) (hN : N ≤ 20000) (hn9 : (n : Int) + 1 ≤ 2147483647) (hw0 : Cond.arrayClass (newarray.typeOf at_) ∈ am_G)
    (k : WA false y cc nL rt d n2 kc ks (pc + 2) als (.inr (.inr c) :: st) (wnew w c) R) : WA false y cc nL rt d n kc0 ks0 pc als (.inl x :: st) w R := by
  subst hn; subst hkc; subst hks; subst hcn
  exact WA.newarray hd hK hat hl hx0 hN hn9 hw0 k
theorem WA.anewarray2 {x : Int} {i N : Nat} {c : Int} (hn : n + 1 = n2) (hkc : kc + 1 = kc0) (hks : ks + N = ks0) (hcn : (n : Int) + 1 = c) (hd : decode cc pc = .ok (.anewarray i, 3)) (hl : am_lay c = (3, N)) (hx0 : x = (N : Int)) (hN : N ≤ 20000) (hn9 : (n : Int) + 1 ≤ 2147483647) (hw0 : Cond.classLink y.cls i RX5 ∈ am_G)
    (k : WA false y cc nL rt d n2 kc ks (pc + 3) als (.inr (.inr c) :: st) (wnew w c) R) : WA false y cc nL rt d n kc0 ks0 pc als (.inl x :: st) w R := by
  subst hn; subst hkc; subst hks; subst hcn
  exact WA.anewarray hd hl hx0 hN hn9 hw0 k
def am_sub : List (Option AV) → List (Option AV) → Prop
  | [], [] => True
  | none :: l', _ :: l => am_sub l' l
  | some a :: l', some b :: l => a = b ∧ am_sub l' l
  | _, _ => False
theorem am_sub_get : ∀ (l' l : List (Option AV)), am_sub l' l → ∀ (i : Nat) (a : AV), l'[i]? = some (some a) → l[i]? = some (some a) := by
  intro l'
  induction l' with
  | nil => intro l h i a hi; cases hi
  | cons x l' ih =>
    intro l h i a hi
    cases l with
    | nil => cases x <;> exact absurd h (by simp [am_sub])
    | cons z l =>
      cases x with
      | none =>
        cases i with
        | zero => cases hi
        | succ i => exact ih l h i a hi
      | some x =>
        cases z with
        | none => exact absurd h (by simp [am_sub])
        | some z =>
          obtain ⟨rfl, h⟩ := h
          cases i with
          | zero => exact hi
          | succ i => exact ih l h i a hi
theorem WA.sub {als' : List (Option AV)} (h : am_sub als' als) (hlen : als'.length = als.length) (k : WA f y cc nL rt d n kc ks pc als' st w R) : WA f y cc nL rt d n kc ks pc als st w R := by
  intro D tc ad base p l e rm s m args below meth c H locs ls cells slots MC MS C X
  obtain ⟨x1, x2, x3, x4, x5, x6, x7, x8, x9, x10, x11, x12⟩ := X
  refine k D tc ad base p l e rm s m args below meth c H locs ls cells slots MC MS C ⟨x1, x2, x3, x4, x5, x6, x7, lv_has_mono x8 (fun q hq => ?_), hlen.trans x9, x10, fun v hv => ?_, x12⟩
  · obtain ⟨a, ha, he⟩ := am_lv_mem.mp hq
    exact am_lv_mem.mpr ⟨a, am_sub_get _ _ h _ _ ha, he⟩
  · obtain ⟨i, hi⟩ := List.getElem?_of_mem hv
    exact x11 v (List.mem_of_getElem? (am_sub_get _ _ h _ _ hi))
end AMR9
theorem ob_1 : am_obj 143 1 8 8 := by decide
theorem ob_2 : am_obj 143 2 6 2 := by decide
theorem ob_3 : am_arr 143 3 0 30 := by decide
theorem ob_4 : am_obj 143 4 6 2 := by decide
theorem ob_5 : am_arr 143 5 0 30 := by decide
theorem ob_6 : am_obj 143 6 5 14 := by decide
theorem ob_7 : am_obj 143 7 7 2 := by decide
theorem ob_8 : am_arr 143 8 0 2160 := by decide
theorem ob_9 : am_arr 143 9 0 72 := by decide
theorem ob_10 : am_obj 143 10 7 2 := by decide
theorem ob_11 : am_arr 143 11 0 2160 := by decide
theorem ob_12 : am_arr 143 12 0 72 := by decide
theorem ob_13 : am_arr 143 13 0 72 := by decide
theorem ob_14 : am_arr 143 14 0 72 := by decide
theorem ob_15 : am_arr 143 15 0 72 := by decide
theorem ob_16 : am_arr 143 16 0 72 := by decide
theorem ob_17 : am_arr 143 17 0 72 := by decide
theorem ob_18 : am_arr 143 18 0 5184 := by decide
theorem ob_19 : am_arr 143 19 0 72 := by decide
theorem ob_20 : am_arr 143 20 0 72 := by decide
theorem ob_21 : am_arr 143 21 0 72 := by decide
theorem ob_22 : am_obj 143 22 5 14 := by decide
theorem ob_23 : am_obj 143 23 7 2 := by decide
theorem ob_24 : am_arr 143 24 0 2160 := by decide
theorem ob_25 : am_arr 143 25 0 72 := by decide
theorem ob_26 : am_obj 143 26 7 2 := by decide
theorem ob_27 : am_arr 143 27 0 2160 := by decide
theorem ob_28 : am_arr 143 28 0 72 := by decide
theorem ob_29 : am_arr 143 29 0 72 := by decide
theorem ob_30 : am_arr 143 30 0 72 := by decide
theorem ob_31 : am_arr 143 31 0 72 := by decide
theorem ob_32 : am_arr 143 32 0 72 := by decide
theorem ob_33 : am_arr 143 33 0 72 := by decide
theorem ob_34 : am_arr 143 34 0 5184 := by decide
theorem ob_35 : am_arr 143 35 0 72 := by decide
theorem ob_36 : am_arr 143 36 0 72 := by decide
theorem ob_37 : am_arr 143 37 0 72 := by decide
theorem ob_38 : am_obj 143 38 4 2 := by decide
theorem ob_39 : am_arr 143 39 3 4 := by decide
theorem ob_40 : am_obj 143 40 5 14 := by decide
theorem ob_41 : am_obj 143 41 7 2 := by decide
theorem ob_42 : am_arr 143 42 0 2160 := by decide
theorem ob_43 : am_arr 143 43 0 72 := by decide
theorem ob_44 : am_obj 143 44 7 2 := by decide
theorem ob_45 : am_arr 143 45 0 2160 := by decide
theorem ob_46 : am_arr 143 46 0 72 := by decide
theorem ob_47 : am_arr 143 47 0 72 := by decide
theorem ob_48 : am_arr 143 48 0 72 := by decide
theorem ob_49 : am_arr 143 49 0 72 := by decide
theorem ob_50 : am_arr 143 50 0 72 := by decide
theorem ob_51 : am_arr 143 51 0 72 := by decide
theorem ob_52 : am_arr 143 52 0 5184 := by decide
theorem ob_53 : am_arr 143 53 0 72 := by decide
theorem ob_54 : am_arr 143 54 0 72 := by decide
theorem ob_55 : am_arr 143 55 0 72 := by decide
theorem ob_56 : am_obj 143 56 5 14 := by decide
theorem ob_57 : am_obj 143 57 7 2 := by decide
theorem ob_58 : am_arr 143 58 0 2160 := by decide
theorem ob_59 : am_arr 143 59 0 72 := by decide
theorem ob_60 : am_obj 143 60 7 2 := by decide
theorem ob_61 : am_arr 143 61 0 2160 := by decide
theorem ob_62 : am_arr 143 62 0 72 := by decide
theorem ob_63 : am_arr 143 63 0 72 := by decide
theorem ob_64 : am_arr 143 64 0 72 := by decide
theorem ob_65 : am_arr 143 65 0 72 := by decide
theorem ob_66 : am_arr 143 66 0 72 := by decide
theorem ob_67 : am_arr 143 67 0 72 := by decide
theorem ob_68 : am_arr 143 68 0 5184 := by decide
theorem ob_69 : am_arr 143 69 0 72 := by decide
theorem ob_70 : am_arr 143 70 0 72 := by decide
theorem ob_71 : am_arr 143 71 0 72 := by decide
theorem ob_72 : am_obj 143 72 5 14 := by decide
theorem ob_73 : am_obj 143 73 7 2 := by decide
theorem ob_74 : am_arr 143 74 0 2160 := by decide
theorem ob_75 : am_arr 143 75 0 72 := by decide
theorem ob_76 : am_obj 143 76 7 2 := by decide
theorem ob_77 : am_arr 143 77 0 2160 := by decide
theorem ob_78 : am_arr 143 78 0 72 := by decide
theorem ob_79 : am_arr 143 79 0 72 := by decide
theorem ob_80 : am_arr 143 80 0 72 := by decide
theorem ob_81 : am_arr 143 81 0 72 := by decide
theorem ob_82 : am_arr 143 82 0 72 := by decide
theorem ob_83 : am_arr 143 83 0 72 := by decide
theorem ob_84 : am_arr 143 84 0 5184 := by decide
theorem ob_85 : am_arr 143 85 0 72 := by decide
theorem ob_86 : am_arr 143 86 0 72 := by decide
theorem ob_87 : am_arr 143 87 0 72 := by decide
theorem ob_88 : am_obj 143 88 5 14 := by decide
theorem ob_89 : am_obj 143 89 7 2 := by decide
theorem ob_90 : am_arr 143 90 0 2160 := by decide
theorem ob_91 : am_arr 143 91 0 72 := by decide
theorem ob_92 : am_obj 143 92 7 2 := by decide
theorem ob_93 : am_arr 143 93 0 2160 := by decide
theorem ob_94 : am_arr 143 94 0 72 := by decide
theorem ob_95 : am_arr 143 95 0 72 := by decide
theorem ob_96 : am_arr 143 96 0 72 := by decide
theorem ob_97 : am_arr 143 97 0 72 := by decide
theorem ob_98 : am_arr 143 98 0 72 := by decide
theorem ob_99 : am_arr 143 99 0 72 := by decide
theorem ob_100 : am_arr 143 100 0 5184 := by decide
theorem ob_101 : am_arr 143 101 0 72 := by decide
theorem ob_102 : am_arr 143 102 0 72 := by decide
theorem ob_103 : am_arr 143 103 0 72 := by decide
theorem ob_104 : am_obj 143 104 1 1 := by decide
theorem ob_105 : am_obj 143 105 2 4 := by decide
theorem ob_106 : am_arr 143 106 0 0 := by decide
theorem ob_107 : am_obj 143 107 0 2 := by decide
theorem ob_108 : am_arr 143 108 0 72 := by decide
theorem ob_109 : am_obj 143 109 3 8 := by decide
theorem ob_110 : am_obj 143 110 2 4 := by decide
theorem ob_111 : am_arr 143 111 0 0 := by decide
theorem ob_112 : am_arr 143 112 0 72 := by decide
theorem ob_113 : am_arr 143 113 0 72 := by decide
theorem ob_114 : am_arr 143 114 0 72 := by decide
theorem ob_115 : am_obj 143 115 9 45 := by decide
theorem ob_116 : am_arr 143 116 0 2778 := by decide
theorem ob_117 : am_arr 143 117 0 11112 := by decide
theorem ob_118 : am_arr 143 118 0 30 := by decide
theorem ob_119 : am_arr 143 119 0 72 := by decide
theorem ob_120 : am_arr 143 120 0 72 := by decide
theorem ob_121 : am_arr 143 121 1 72 := by decide
theorem ob_122 : am_arr 143 122 0 72 := by decide
theorem ob_123 : am_arr 143 123 0 72 := by decide
theorem ob_124 : am_arr 143 124 0 5184 := by decide
theorem ob_125 : am_arr 143 125 0 72 := by decide
theorem ob_126 : am_arr 143 126 0 72 := by decide
theorem ob_127 : am_arr 143 127 1 72 := by decide
theorem ob_128 : am_arr 143 128 1 72 := by decide
theorem ob_129 : am_arr 143 129 0 72 := by decide
theorem ob_130 : am_arr 143 130 0 5184 := by decide
theorem ob_131 : am_arr 143 131 1 72 := by decide
theorem ob_132 : am_arr 143 132 1 72 := by decide
theorem ob_133 : am_arr 143 133 0 40 := by decide
theorem ob_134 : am_arr 143 134 0 40 := by decide
theorem ob_135 : am_arr 143 135 1 40 := by decide
theorem ob_136 : am_arr 143 136 1 40 := by decide
theorem ob_137 : am_arr 143 137 2 40 := by decide
theorem ob_138 : am_arr 143 138 2 40 := by decide
theorem ob_139 : am_arr 143 139 0 40 := by decide
theorem ob_140 : am_arr 143 140 2 40 := by decide
theorem ob_141 : am_arr 143 141 1 40 := by decide
theorem ob_142 : am_arr 143 142 2 40 := by decide
theorem ob_143 : am_arr 143 143 1 72 := by decide
def am_St (s : Int) : Prop := s = 6 ∨ s = 22 ∨ s = 40 ∨ s = 56 ∨ s = 72 ∨ s = 88
def am_Tx (t : Int) : Prop := ∃ s, am_St s ∧ (t = s + 1 ∨ t = s + 4)
def am_Te (t : Int) : Prop := t = 2 ∨ t = 4
def am_Cu (c : Int) : Prop := c = 105 ∨ c = 110
theorem am_St_obj {s : Int} (h : am_St s) : am_obj 143 s 5 14 := by
  rcases h with rfl | rfl | rfl | rfl | rfl | rfl <;> decide
theorem am_St_ne {s : Int} (h : am_St s) : s ≠ 0 := am_obj0 (am_St_obj h)
theorem am_Tx_obj {t : Int} (h : am_Tx t) : am_obj 143 t 7 2 := by
  obtain ⟨s, (rfl | rfl | rfl | rfl | rfl | rfl), (rfl | rfl)⟩ := h <;> decide
theorem am_Tx_ne {t : Int} (h : am_Tx t) : t ≠ 0 := am_obj0 (am_Tx_obj h)
theorem am_Tx_1 {t : Int} (h : am_Tx t) : am_arr 143 (t + 1) 0 2160 := by
  obtain ⟨s, (rfl | rfl | rfl | rfl | rfl | rfl), (rfl | rfl)⟩ := h <;> decide
theorem am_Tx_2 {t : Int} (h : am_Tx t) : am_arr 143 (t + 2) 0 72 := by
  obtain ⟨s, (rfl | rfl | rfl | rfl | rfl | rfl), (rfl | rfl)⟩ := h <;> decide
theorem am_Te_obj {t : Int} (h : am_Te t) : am_obj 143 t 6 2 := by
  rcases h with rfl | rfl <;> decide
theorem am_Te_ne {t : Int} (h : am_Te t) : t ≠ 0 := am_obj0 (am_Te_obj h)
theorem am_Te_1 {t : Int} (h : am_Te t) : am_arr 143 (t + 1) 0 30 := by
  rcases h with rfl | rfl <;> decide
theorem am_Cu_obj {t : Int} (h : am_Cu t) : am_obj 143 t 2 4 := by
  rcases h with rfl | rfl <;> decide
theorem am_Cu_ne {t : Int} (h : am_Cu t) : t ≠ 0 := am_obj0 (am_Cu_obj h)
theorem am_St_7 {s : Int} (h : am_St s) : am_arr 143 (s + 7) 0 72 := by
  rcases h with rfl | rfl | rfl | rfl | rfl | rfl <;> decide
theorem am_St_8 {s : Int} (h : am_St s) : am_arr 143 (s + 8) 0 72 := by
  rcases h with rfl | rfl | rfl | rfl | rfl | rfl <;> decide
theorem am_St_9 {s : Int} (h : am_St s) : am_arr 143 (s + 9) 0 72 := by
  rcases h with rfl | rfl | rfl | rfl | rfl | rfl <;> decide
theorem am_St_10 {s : Int} (h : am_St s) : am_arr 143 (s + 10) 0 72 := by
  rcases h with rfl | rfl | rfl | rfl | rfl | rfl <;> decide
theorem am_St_11 {s : Int} (h : am_St s) : am_arr 143 (s + 11) 0 72 := by
  rcases h with rfl | rfl | rfl | rfl | rfl | rfl <;> decide
theorem am_St_12 {s : Int} (h : am_St s) : am_arr 143 (s + 12) 0 5184 := by
  rcases h with rfl | rfl | rfl | rfl | rfl | rfl <;> decide
theorem am_St_13 {s : Int} (h : am_St s) : am_arr 143 (s + 13) 0 72 := by
  rcases h with rfl | rfl | rfl | rfl | rfl | rfl <;> decide
theorem am_St_14 {s : Int} (h : am_St s) : am_arr 143 (s + 14) 0 72 := by
  rcases h with rfl | rfl | rfl | rfl | rfl | rfl <;> decide
theorem am_St_15 {s : Int} (h : am_St s) : am_arr 143 (s + 15) 0 72 := by
  rcases h with rfl | rfl | rfl | rfl | rfl | rfl <;> decide
theorem am_St_1 {s : Int} (h : am_St s) : am_Tx (s + 1) := ⟨s, h, by omega⟩
theorem am_St_4 {s : Int} (h : am_St s) : am_Tx (s + 4) := ⟨s, h, by omega⟩
theorem am_St_is6 : am_St 6 := by unfold am_St; omega
theorem am_St_is22 : am_St 22 := by unfold am_St; omega
theorem am_St_is40 : am_St 40 := by unfold am_St; omega
theorem am_St_is56 : am_St 56 := by unfold am_St; omega
theorem am_St_is72 : am_St 72 := by unfold am_St; omega
theorem am_St_is88 : am_St 88 := by unfold am_St; omega
