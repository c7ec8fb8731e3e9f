/-! ===== the law's own machine: the world and a script beside it ===== -/
def lwY (meth : Method) : MethodName := ⟨R_law, meth.name, "([I)Z"⟩
def lwC (L : Nat) (xs : Nat → Int32) (ad : Int → Nat) (base : Nat) (p : Program) (rm : Room) (s : State) (m : MethodId) (args : Array Value) (below : List Frame) (meth : Method) (c : Code) (Q : State → Prop) : Prop :=
  am_C (lwY meth) code 4 ret p s m args meth c ∧ rm = room_1 ∧ base = s.heap.size ∧ args = #[Value.ref (ad (-22))] ∧ va_X (ad (-22)) L xs s s.heap ∧ ad (-22) < s.heap.size ∧ Q = lw_Z below args s
def WP (f : Bool) (L : Nat) (xs : Nat → Int32) (n sl pc : Nat) (als : List (Option AV)) (st : List AV) (w : Wd) : Prop :=
  ∀ (D : va_G) (tc : Nat → ClassId) (ad : Int → Nat) (base : Nat) (p : Program) (l : Launch) (e : Env) (rm : Room) (s : State) (m : MethodId) (args : Array Value) (below : List Frame) (meth : Method) (c : Code) (Q : State → Prop) (H : Heap) (locs : List Loc) (ls : Array Slot) (cells slots : Nat),
    lwC L xs ad base p rm s m args below meth c Q → am_X f D tc ad base 4 n s als st w H locs ls cells → slots = sl → n ≤ 600000 → sl ≤ 7302250 →
    W p l e rm s m args below meth c H locs cells slots Q (F0 m pc ls (st.map (am_cv ad)))
section LAWM
variable {f : Bool} {L : Nat} {xs : Nat → Int32} {d d' n sl pc pc' kc' ks' : Nat} {als als' : List (Option AV)} {st st' As : List AV} {w w' : Wd} {Rc : Option AV → Wd → Prop}
variable {y' : MethodName} {cc' : ByteArray} {nL' : Nat} {rt' : Option FieldType}
theorem WP.pure (hok : (∀ v ∈ st, am_ok v) → am_okw f w → (∀ v, some v ∈ als → am_ok v) → ∀ v ∈ st', am_ok v)
    (h : ∀ (D : va_G) (tc : Nat → ClassId) (ad : Int → Nat) (base : Nat) (p : Program) (l : Launch) (e : Env) (rm : Room) (s : State) (m : MethodId) (args : Array Value) (below : List Frame) (meth : Method) (c : Code) (H : Heap) (locs : List Loc) (ls : Array Slot) (cells slots : Nat) (Q : State → Prop),
      am_C (lwY meth) code 4 ret p s m args meth c → am_X f D tc ad base 4 n s als st w H locs ls cells → (∀ v ∈ st, am_ok v) → cells ≤ rm.cells → slots ≤ rm.slots → 600 ≤ rm.frames → 64 * 600 ≤ rm.locals →
      W p l e rm s m args below meth c H locs cells slots Q (F0 m pc' ls (st'.map (am_cv ad))) → W p l e rm s m args below meth c H locs cells slots Q (F0 m pc ls (st.map (am_cv ad))))
    (k : WP f L xs n sl pc' als st' w) : WP f L xs n sl pc als st w := by
  intro D tc ad base p l e rm s m args below meth c Q H locs ls cells slots C X h1 h2 h3
  obtain ⟨x1, x2, x3, x4, x5, x6, x7, x8, x9, x10, x11, x12⟩ := id X
  obtain ⟨c1, rfl, c3, c4⟩ := id C
  refine h D tc ad base p l e room_1 s m args below meth c H locs ls cells slots _ c1 X x12 ?_ ?_ ?_ ?_ (k D tc ad base p l e room_1 s m args below meth c Q H locs ls cells slots C ⟨x1, x2, x3, x4, x5, x6, x7, x8, x9, x10, x11, hok x12 x10 x11⟩ h1 h2 h3)
  · show cells ≤ 600000
    omega
  · show slots ≤ 7302250
    omega
  · exact Nat.le_of_ble_eq_true rfl
  · exact Nat.le_of_ble_eq_true rfl
theorem WP.sto (hlen : als'.length = als.length) (hok : (∀ v ∈ st, am_ok v) → am_okw f w → (∀ v, some v ∈ als → am_ok v) → (∀ v, some v ∈ als' → am_ok v) ∧ ∀ v ∈ st', am_ok v)
    (h : ∀ (D : va_G) (tc : Nat → ClassId) (ad : Int → Nat) (base : Nat) (p : Program) (l : Launch) (e : Env) (rm : Room) (s : State) (m : MethodId) (args : Array Value) (below : List Frame) (meth : Method) (c : Code) (H : Heap) (locs : List Loc) (ls : Array Slot) (cells slots : Nat) (Q : State → Prop),
      am_C (lwY meth) code 4 ret p s m args meth c → lv_has ls 4 (am_lv ad als) → als.length = 4 →
      (∀ ls', lv_has ls' 4 (am_lv ad als') → W p l e rm s m args below meth c H locs cells slots Q (F0 m pc' ls' (st'.map (am_cv ad)))) → W p l e rm s m args below meth c H locs cells slots Q (F0 m pc ls (st.map (am_cv ad))))
    (k : WP f L xs n sl pc' als' st' w) : WP f L xs n sl pc als st w := by
  intro D tc ad base p l e rm s m args below meth c Q H locs ls cells slots C X h1 h2 h3
  obtain ⟨x1, x2, x3, x4, x5, x6, x7, x8, x9, x10, x11, x12⟩ := id X
  exact h D tc ad base p l e rm s m args below meth c H locs ls cells slots _ C.1 x8 x9 (fun ls' hl' => k D tc ad base p l e rm s m args below meth c Q H locs ls' cells slots C ⟨x1, x2, x3, x4, x5, x6, x7, hl', by rw [hlen]; exact x9, x10, (hok x12 x10 x11).1, (hok x12 x10 x11).2⟩ h1 h2 h3)

theorem WP.iconst {z : Int} (hd : decode code pc = .ok (.iconst z, 1)) (hz : in32 z) (k : WP f L xs n sl (pc + 1) als (.inl z :: st) w) : WP f L xs n sl pc als st w :=
  WP.pure (fun h _ _ => am_ok1 (am_i hz) h) (fun _ _ _ _ _ _ _ _ _ _ _ _ _ _ _ _ _ _ _ _ C _ _ _ _ _ _ k => lv_iconst C.1 C.2.1 hd rfl k) k
theorem WP.bipush {z : Int} (hd : decode code pc = .ok (.bipush z, 2)) (hz : -128 ≤ z ∧ z ≤ 127) (k : WP f L xs n sl (pc + 2) als (.inl z :: st) w) : WP f L xs n sl pc als st w :=
  WP.pure (fun h _ _ => am_ok1 (am_i (x := z) (⟨by omega, by omega⟩)) h) (fun _ _ _ _ _ _ _ _ _ _ _ _ _ _ _ _ _ _ _ _ C _ _ _ _ _ _ k => lv_bipush C.1 C.2.1 hd (Int8.toInt32_ofInt hz.1 hz.2) k) k
theorem WP.iload_n {i : Fin 4} {x : Int} (hd : decode code pc = .ok (.iload_n i, 1)) (hl : als[(i : Nat)]? = some (some (.inl x))) (k : WP f L xs n sl (pc + 1) als (.inl x :: st) w) : WP f L xs n sl pc als st w :=
  WP.pure (fun h _ h2 => am_ok1 (h2 _ (List.mem_of_getElem? hl)) h) (fun _ _ _ _ _ _ _ _ _ _ _ _ _ _ _ _ _ _ _ _ C X _ _ _ _ _ k => lv_iload_n C.1 C.2.1 hd rfl (am_loc_read X.2.2.2.2.2.2.2.1 hl) k) k
theorem WP.aload_n {i : Fin 4} {x : Int} (hd : decode code pc = .ok (.aload_n i, 1)) (hl : als[(i : Nat)]? = some (some (.inr (.inr x)))) (hx : x ≠ 0) (k : WP f L xs n sl (pc + 1) als (.inr (.inr x) :: st) w) : WP f L xs n sl pc als st w :=
  WP.pure (fun h _ h2 => am_ok1 (h2 _ (List.mem_of_getElem? hl)) h) (fun _ _ _ _ _ _ _ _ _ _ _ _ _ _ _ _ _ _ _ _ C X _ _ _ _ _ k => lv_aload_n C.1 C.2.1 hd rfl (am_locr X.2.2.2.2.2.2.2.1 hl hx) (by rw [← am_rf1 hx]; exact k)) k
theorem WP.istore_n {i : Fin 4} {x : Int} (hd : decode code pc = .ok (.istore_n i, 1)) (hi : (i : Nat) < als.length) (he : am_s1 als (i : Nat) (.inl x) = als') (k : WP f L xs n sl (pc + 1) als' st w) : WP f L xs n sl pc als (.inl x :: st) w := by
  subst he
  exact WP.sto (am_s1_len _ _) (fun h _ h2 => ⟨am_s1_ok h2 (am_hd h), am_tl h⟩) (fun _ _ _ _ _ _ _ _ _ _ _ _ _ _ _ _ _ _ _ _ C h hn k => lv_istore_n C.1 C.2.1 hd rfl h (by omega) rfl (fun ls' hl => k ls' (lv_has_mono hl am_s1_sub))) k
theorem WP.astore_n {i : Fin 4} {x : Int} (hd : decode code pc = .ok (.astore_n i, 1)) (hx : x ≠ 0) (hi : (i : Nat) < als.length) (he : am_s1 als (i : Nat) (.inr (.inr x)) = als') (k : WP f L xs n sl (pc + 1) als' st w) : WP f L xs n sl pc als (.inr (.inr x) :: st) w := by
  subst he
  exact WP.sto (am_s1_len _ _) (fun h _ h2 => ⟨am_s1_ok h2 (am_hd h), am_tl h⟩) (fun D tc ad base p l e rm s m args below meth c H locs ls cells slots Q C h hn k => by
    show W p l e rm s m args below meth c H locs cells slots Q (F0 m pc ls (am_rf ad x :: st.map (am_cv ad)))
    rw [am_rf1 hx]
    exact lv_astore_n C.1 C.2.1 hd rfl h (by omega) rfl (fun ls' hl => k ls' (lv_has_mono hl (fun q hq => by have h9 := am_s1_sub q hq; rw [show am_cv ad (.inr (.inr x)) = Value.ref (ad x) from am_rf1 hx] at h9; exact h9)))) k
theorem WP.iinc {i : Nat} {z x : Int} (hd : decode code pc = .ok (.iinc i z, 3)) (hl : als[i]? = some (some (.inl x))) (hz : in32 (x + z)) (he : am_s1 als i (.inl (x + z)) = als') (k : WP f L xs n sl (pc + 3) als' st w) : WP f L xs n sl pc als st w := by
  subst he
  exact WP.sto (am_s1_len _ _) (fun h _ h2 => ⟨am_s1_ok h2 (am_i hz), h⟩) (fun _ _ ad _ _ _ _ _ _ _ _ _ _ _ _ _ _ _ _ _ C h hn k => by
    obtain ⟨j, hj⟩ := List.getElem?_of_mem (am_lv_mem.mpr ⟨_, hl, rfl⟩ : (i, am_cv ad (.inl x)) ∈ am_lv ad als)
    exact lv_iinc C.1 C.2.1 hd h hj (Int32.ofInt_add x z).symm (by rw [← hn]; exact (List.getElem?_eq_some_iff.mp hl).1) rfl (fun ls' hl => k ls' (lv_has_mono hl am_s1_sub))) k
theorem WP.dup {v : AV} (hd : decode code pc = .ok (.dup, 1)) (hv : am_cat v = 1) (k : WP f L xs n sl (pc + 1) als (v :: v :: st) w) : WP f L xs n sl pc als (v :: st) w :=
  WP.pure (fun h _ _ => am_ok1 (am_hd h) h) (fun _ _ _ _ _ _ _ _ _ _ _ _ _ _ _ _ _ _ _ _ C X ho _ _ _ _ k => lv_dup C.1 C.2.1 hd (by rw [am_cat_cv]; exact hv) k) k
theorem WP.iadd {x z : Int} (hd : decode code pc = .ok (.iadd, 1)) (hz : in32 (x + z)) (k : WP f L xs n sl (pc + 1) als (.inl (x + z) :: st) w) : WP f L xs n sl pc als (.inl z :: .inl x :: st) w :=
  WP.pure (fun h _ _ => am_ok1 (am_i hz) (am_tl (am_tl h))) (fun _ _ _ _ _ _ _ _ _ _ _ _ _ _ _ _ _ _ _ _ C X ho _ _ _ _ k => lv_iadd C.1 C.2.1 hd (by rw [← Int32.ofInt_add]; exact k)) k
theorem WP.isub {x z : Int} (hd : decode code pc = .ok (.isub, 1)) (hz : in32 (x - z)) (k : WP f L xs n sl (pc + 1) als (.inl (x - z) :: st) w) : WP f L xs n sl pc als (.inl z :: .inl x :: st) w :=
  WP.pure (fun h _ _ => am_ok1 (am_i hz) (am_tl (am_tl h))) (fun _ _ _ _ _ _ _ _ _ _ _ _ _ _ _ _ _ _ _ _ C X ho _ _ _ _ k => lv_isub C.1 C.2.1 hd (by rw [← Int32.ofInt_sub]; exact k)) k
theorem WP.icmp_eq {x z : Int} {off : Int} {tgt : Nat} (hd : decode code pc = .ok (.if_icmp .eq off, 3)) (ht : (pc : Int) + off = (tgt : Int)) (kt : x = z → WP f L xs n sl tgt als st w) (kf : ¬ (x = z) → WP f L xs n sl (pc + 3) als st w) : WP f L xs n sl pc als (.inl z :: .inl x :: st) w := by
  by_cases hc : x = z
  · refine WP.pure (fun h _ _ => am_tl (am_tl h)) (fun D tc ad base p l e rm s m args below meth c H locs ls cells slots Q C X ho _ _ _ _ k => ?_) (kt hc)
    · have hz : in32 z := am_hd ho
      have hx : in32 x := am_hd (am_tl ho)
      exact lv_icmp_eq C.1 C.2.1 hd ht (fun _ => k) (fun q => absurd ((i32_eq hx hz).mpr hc) q)
  · refine WP.pure (fun h _ _ => am_tl (am_tl h)) (fun D tc ad base p l e rm s m args below meth c H locs ls cells slots Q C X ho _ _ _ _ k => ?_) (kf hc)
    · have hz : in32 z := am_hd ho
      have hx : in32 x := am_hd (am_tl ho)
      exact lv_icmp_eq C.1 C.2.1 hd ht (fun q => absurd ((i32_eq hx hz).mp q) hc) (fun _ => k)
theorem WP.icmp_gt {x z : Int} {off : Int} {tgt : Nat} (hd : decode code pc = .ok (.if_icmp .gt off, 3)) (ht : (pc : Int) + off = (tgt : Int)) (kt : z < x → WP f L xs n sl tgt als st w) (kf : ¬ (z < x) → WP f L xs n sl (pc + 3) als st w) : WP f L xs n sl pc als (.inl z :: .inl x :: st) w := by
  by_cases hc : z < x
  · refine WP.pure (fun h _ _ => am_tl (am_tl h)) (fun D tc ad base p l e rm s m args below meth c H locs ls cells slots Q C X ho _ _ _ _ k => ?_) (kt hc)
    · have hz : in32 z := am_hd ho
      have hx : in32 x := am_hd (am_tl ho)
      exact lv_icmp_gt C.1 C.2.1 hd ht (fun _ => k) (fun q => absurd ((i32_lt hz hx).mpr hc) q)
  · refine WP.pure (fun h _ _ => am_tl (am_tl h)) (fun D tc ad base p l e rm s m args below meth c H locs ls cells slots Q C X ho _ _ _ _ k => ?_) (kf hc)
    · have hz : in32 z := am_hd ho
      have hx : in32 x := am_hd (am_tl ho)
      exact lv_icmp_gt C.1 C.2.1 hd ht (fun q => absurd ((i32_lt hz hx).mp q) hc) (fun _ => k)
theorem WP.goto {off : Int} {tgt : Nat} (hd : decode code pc = .ok (.goto off, 3)) (ht : (pc : Int) + off = (tgt : Int)) (k : WP f L xs n sl tgt als st w) : WP f L xs n sl pc als st w :=
  WP.pure (fun h _ _ => h) (fun _ _ _ _ _ _ _ _ _ _ _ _ _ _ _ _ _ _ _ _ C X ho _ _ _ _ k => lv_goto C.1 C.2.1 hd ht k) k
theorem WP.tableIn {x dflt lo hi off : Int} {offs : Array Int} {len tgt : Nat} (hd : decode code pc = .ok (.tableswitch dflt lo hi offs, len)) (h1 : lo ≤ x) (h2 : x ≤ hi) (ho_ : offs[(x - lo).toNat]? = some off) (ht : (pc : Int) + off = (tgt : Int)) (k : WP f L xs n sl tgt als st w) : WP f L xs n sl pc als (.inl x :: st) w :=
  WP.pure (fun h _ _ => am_tl h) (fun _ _ _ _ _ _ _ _ _ _ _ _ _ _ _ _ _ _ _ _ C X ho _ _ _ _ k => lv_tableIn C.1 C.2.1 hd (by rw [i32_toInt (am_hd ho)]; omega) (by rw [i32_toInt (am_hd ho)]; omega) (by rw [i32_toInt (am_hd ho)]; exact ho_) ht k) k
theorem WP.tableOut {x dflt lo hi : Int} {offs : Array Int} {len tgt : Nat} (hd : decode code pc = .ok (.tableswitch dflt lo hi offs, len)) (h1 : x < lo ∨ hi < x) (ht : (pc : Int) + dflt = (tgt : Int)) (k : WP f L xs n sl tgt als st w) : WP f L xs n sl pc als (.inl x :: st) w :=
  WP.pure (fun h _ _ => am_tl h) (fun _ _ _ _ _ _ _ _ _ _ _ _ _ _ _ _ _ _ _ _ C X ho _ _ _ _ k => lv_tableOut C.1 C.2.1 hd (by rw [i32_toInt (am_hd ho)]; exact h1) ht k) k
theorem WP.iand31 {x : Int} (hd : decode code pc = .ok (.iand, 1)) (k : WP f L xs n sl (pc + 1) als (.inl (x % 32) :: st) w) : WP f L xs n sl pc als (.inl 31 :: .inl x :: st) w :=
  WP.pure (fun h _ _ => am_ok1 (am_i ⟨by omega, by omega⟩) (am_tl (am_tl h))) (fun D tc ad base p l e rm s m args below meth c H locs ls cells slots Q C X ho _ _ _ _ k => lv_iand C.1 C.2.1 hd (by
    have := i32_mask (x := x) 5 (by decide) (am_hd (am_tl ho))
    rw [show Int32.ofInt 31 = Int32.ofInt ((2 ^ 5 - 1 : Nat) : Int) from rfl, this]
    exact k)) k
theorem WP.top {v v2 : AV} (h : v = v2) (k : WP f L xs n sl pc als (v2 :: st) w) : WP f L xs n sl pc als (v :: st) w := by
  subst h
  exact k
/-- the script -/
theorem WP.slen (hd : decode code pc = .ok (.arraylength, 1)) (hL : (L : Int) ≤ 2147483647) (k : WP f L xs n sl (pc + 1) als (.inl (L : Int) :: st) w) : WP f L xs n sl pc als (.inr (.inr (-22)) :: st) w := by
  intro D tc ad base p l e rm s m args below meth c Q H locs ls cells slots C X h1 h2 h3
  obtain ⟨x1, x2, x3, x4, x5, x6, x7, x8, x9, x10, x11, x12⟩ := id X
  obtain ⟨c1, c2, c3, c4, c5, c6, c7⟩ := id C
  have K := k D tc ad base p l e rm s m args below meth c Q H locs ls cells slots C ⟨x1, x2, x3, x4, x5, x6, x7, x8, x9, x10, x11, am_ok1 (am_i ⟨by omega, hL⟩) (am_tl x12)⟩ h1 h2 h3
  refine va_slen (A := am_A base) c1.1 c1.2.1 c5 c6 (by show ¬ base ≤ _; omega) x7 hd ?_
  rw [show Int32.ofNat L = Int32.ofInt (L : Int) from rfl]
  exact K
theorem WP.sld {j : Int} {v : Int} (hd : decode code pc = .ok (.iaload, 1)) (h0 : 0 ≤ j) (hj : j < L) (hv : v = (xs j.toNat).toInt) (k : WP f L xs n sl (pc + 1) als (.inl v :: st) w) : WP f L xs n sl pc als (.inl j :: .inr (.inr (-22)) :: st) w := by
  subst hv
  intro D tc ad base p l e rm s m args below meth c Q H locs ls cells slots C X h1 h2 h3
  obtain ⟨x1, x2, x3, x4, x5, x6, x7, x8, x9, x10, x11, x12⟩ := id X
  obtain ⟨c1, c2, c3, c4, c5, c6, c7⟩ := id C
  have hin : in32 j := am_hd x12
  have K := k D tc ad base p l e rm s m args below meth c Q H locs ls cells slots C ⟨x1, x2, x3, x4, x5, x6, x7, x8, x9, x10, x11, am_ok1 (am_i ⟨Int32.minValue_le_toInt _, Int32.toInt_le _⟩) (am_tl (am_tl x12))⟩ h1 h2 h3
  refine va_sld (A := am_A base) c1.1 c1.2.1 c5 c6 (by show ¬ base ≤ _; omega) x7 (i32_in hin h0 hj) hd ?_
  rw [i32_nat hin h0]
  have e : Int32.ofInt (xs j.toNat).toInt = xs j.toNat := Int32.ofInt_toInt _
  rw [← e]
  exact K
/-- the end: true -/
theorem WP.ret1 (hd : decode code pc = .ok (.ireturn, 1)) : WP f L xs n sl pc als [.inl 1] w := by
  intro D tc ad base p l e rm s m args below meth c Q H locs ls cells slots C X h1 h2 h3
  obtain ⟨x1, x2, x3, x4, x5, x6, x7, x8, x9, x10, x11, x12⟩ := id X
  obtain ⟨c1, rfl, rfl, rfl, c5, c6, rfl⟩ := id C
  refine va_forget (fun q hq => x7.2.2 q hq) ?_
  refine W.widen (k := 600000) (n := 7302250) (by omega) (by omega) ?_
  exact lw_ret c1.1 c1.2.1 c1.2.2.2.1 c1.2.2.2.2.1 hd
/-- the final fields hold: from now on they are known -/
theorem WP.fix (h : am_okw false w → am_okw true w) (k : WP true L xs n sl pc als st w) : WP false L xs n sl pc als st w := by
  intro D tc ad base p l e rm s m args below meth c Q H locs ls cells slots C X h1 h2 h3
  obtain ⟨x1, x2, x3, x4, x5, x6, x7, x8, x9, x10, x11, x12⟩ := X
  exact k D tc ad base p l e rm s m args below meth c Q H locs ls cells slots C ⟨x1, x2, x3, x4, x5, x6, x7, x8, x9, h x10, x11, x12⟩ h1 h2 h3
/-- behind a call -/
theorem lw_after {D : va_G} {tc : Nat → ClassId} {ad : Int → Nat} {base : Nat} {p : Program} {l : Launch} {e : Env} {rm : Room} {s : State} {m : MethodId} {args : Array Value} {below : List Frame} {meth : Method} {c : Code} {Q : State → Prop} {H : Heap} {locs : List Loc} {ls : Array Slot} {cells slots : Nat} {stk : List AV} {st0 : List Value} {a : Array Value}
    (C : lwC L xs ad base p rm s m args below meth c Q) (X : am_X f D tc ad base 4 n s als stk w H locs ls cells) (hst : ∀ v ∈ st, am_ok v) (h1 : slots = sl) (h2 : n + kc' ≤ 600000) (h3 : sl + ks' ≤ 7302250)
    (hr : va_Run p l e rm s m args below meth c H locs cells slots kc' ks' (F0 m pc ls st0) (st.map (am_cv ad)) (am_Qc f D tc ad base (n + kc') Rc a) (am_A base))
    (k : ∀ r w', Rc r w' → WP f L xs (n + kc') (sl + ks') (pc + 3) als (r.toList ++ st) w') :
    W p l e rm s m args below meth c H locs cells slots Q (F0 m pc ls st0) := by
  obtain ⟨x1, x2, x3, x4, x5, x6, x7, x8, x9, x10, x11, x12⟩ := X
  intro T hT Y
  obtain ⟨v, st₀, t, T', L', h0, Y', hL, e1, e2, ⟨⟨r, w', hv, hR, hw', hok, hsz, hP⟩, hz, hk⟩, stp⟩ := hr T hT Y
  cases hv
  rw [h0] at hz hk
  have hS : va_S (am_A base) s.heap T'.heap (locs ++ L') := ⟨Nat.le_trans x7.1 (by rw [e1]; exact hz), fun q q1 q2 => by rw [e1, hk q (Nat.lt_of_lt_of_le q1 x7.1) q2]; exact x7.2.1 q q1 q2, fun q hq => by
      rcases List.mem_append.mp hq with h | h
      · exact x7.2.2 q h
      · exact hL q h⟩
  have K := k r w' hR D tc ad base p l e rm s m args below meth c Q T'.heap (locs ++ L') ls (cells + kc') (slots + ks') C ⟨x1, x2, x3, x4, by omega, by rw [e1]; exact hP, hS, x8, x9, hw', x11, fun v hv => by
      rcases List.mem_append.mp hv with h | h
      · cases r with
        | none => cases h
        | some r => exact hok v (by rw [List.mem_singleton.mp h])
      · exact hst v h⟩ (by omega) h2 h3
  obtain ⟨t2, a1, b1⟩ := K T' rfl Y'
  refine ⟨t2, stp t2 ?_, b1⟩
  have e4 : ((r.map (am_cv ad)).toList ++ st.map (am_cv ad)) = (r.toList ++ st).map (am_cv ad) := by
    cases r with
    | none => rfl
    | some r => rfl
  rw [show ({ F0 m pc ls st0 with pc := (F0 m pc ls st0).pc + 3, stack := (r.map (am_cv ad)).toList ++ st.map (am_cv ad) } : JFrame) = F0 m (pc + 3) ls ((r.toList ++ st).map (am_cv ad)) by rw [← e4]]
  exact a1

theorem lw_size {D : va_G} {tc : Nat → ClassId} {ad : Int → Nat} {base nL : Nat} {p : Program} {l : Launch} {e : Env} {rm : Room} {s : State} {m : MethodId} {args : Array Value} {below : List Frame} {meth : Method} {c : Code} {Q : State → Prop} {g : JFrame} {H : Heap} {locs : List Loc} {ls : Array Slot} {cells slots : Nat} (X : am_X f D tc ad base nL n s als st w H locs ls cells) (h : H.size = base + n → W p l e rm s m args below meth c H locs cells slots Q g) : W p l e rm s m args below meth c H locs cells slots Q g := am_size X h
theorem WP.callV {i ci N : Nat} {b : Int} {T : u_T} (hd : decode code pc = .ok (.invokevirtual i, 3)) (hl : am_link R_law i y' cc' nL' rt' As.length) (hi : Cond.instanceMethod y' ∈ am_G) (hs : Cond.selects y'.cls y' y' ∈ am_G) (hdd : d' < 600) (hn1 : n + kc' ≤ 600000) (hn2 : sl + ks' ≤ 7302250) (hst : (st.map am_cat).sum ≤ 8)
    (ho : am_obj n b ci N) (hc : vwCl[ci]? = some (y'.cls, T, N)) (hE : EvA f y' cc' nL' rt' d' n kc' ks' (.inr (.inr b) :: As) w Rc)
    (k : ∀ r w', Rc r w' → WP f L xs (n + kc') (sl + ks') (pc + 3) als (r.toList ++ st) w') : WP f L xs n sl pc als (As.reverse ++ .inr (.inr b) :: st) w := by
  intro D tc ad base p l e rm s m args below meth c Q H locs ls cells slots CC X h3 h4 h5
  obtain ⟨C, hrm, hlw⟩ := id CC
  subst hrm
  obtain ⟨⟨hl1, hl2, hl3⟩, hl4, hl5⟩ := hl
  obtain ⟨hx, hb, hml, -, -, hts, hown, -⟩ := id C
  have hfr : 600 ≤ room_1.frames := Nat.le_of_ble_eq_true rfl
  have hlo : 64 * 600 ≤ room_1.locals := Nat.le_of_ble_eq_true rfl
  have hce : room_1.cells = 600000 := rfl
  have hsl : room_1.slots = 7302250 := rfl
  have hbase : base = s.heap.size := hlw.1
  obtain ⟨x1, x2, x3, x4, x5, x6, x7, x8, x9, x10, x11, x12⟩ := id X
  obtain ⟨o1, o2⟩ := am_rev_ok x12
  refine am_size X (fun hsz => ?_)
  have he := am_wl_at (tc := tc) (ad := ad) (n := n) (w := w) ho.1.1 ho.1.2
  rw [am_ent_o ho.2] at he
  have hb0 : b ≠ 0 := am_obj0 ho
  have hpre := am_preAt X hsz (as := .inr (.inr b) :: As) (fun v hv => by
    rcases List.mem_cons.mp hv with rfl | hv
    · exact am_hd o2
    · exact o1 v hv)
  rw [show (.inr (.inr b) :: As : List AV).map (am_cv ad) = .ref (ad b) :: As.map (am_cv ad) from congrArg (· :: As.map (am_cv ad)) (am_rf1 hb0)] at hpre
  have hG : GoodIn am_G (wsV R_law i y'.cls y' (Cond.code y' cc' nL' rt' :: am_G)) := am_good (fun w hw => by
    rcases List.mem_append.mp hw with h | h
    · rcases List.mem_cons.mp h with rfl | h
      · exact hl1
      · rcases List.mem_cons.mp h with rfl | h
        · exact hi
        · rcases List.mem_cons.mp h with rfl | h
          · exact hs
          · rw [List.mem_singleton.mp h]; exact hl3
    · exact am_codeG hl2 w h)
  have hrun := va_runV (As := As.map (am_cv ad)) (rest := st.map (am_cv ad)) (g := F0 m pc ls ((As.reverse ++ .inr (.inr b) :: st).map (am_cv ad))) (H := H) (locs := locs) (cells := cells) (slots := slots) (e := e) (below := below) (meth := meth) ⟨hx, hb, hml, hown, hts⟩ (hE D tc ad base l)
    (cwV As.length hts hG rfl rfl rfl ⟨rfl, hl4.1, hl4.2.1, hl4.2.2⟩ ⟨by show d' + 1 ≤ room_1.frames; omega, by show 8 + (nL' + 11) + 64 * d' ≤ room_1.locals; omega⟩)
    ⟨am_blind, va_recv x2 x6 hc he, hpre⟩ rfl (by simp) x8.1 (by simp [am_cv, am_rf1 hb0]) (am_vc_room ad hst) hd ⟨by omega, by omega⟩
  exact lw_after CC X (am_tl o2) h3 hn1 hn2 hrun k
theorem WP.callI {i : Nat} {b : Int} (hd : decode code pc = .ok (.invokespecial i, 3)) (hl : am_link R_law i y' cc' nL' none As.length) (hi : Cond.instanceMethod y' ∈ am_G) (hy1 : y'.name = "<init>") (hdd : d' < 600) (hn1 : n + kc' ≤ 600000) (hn2 : sl + ks' ≤ 7302250) (hst : (st.map am_cat).sum ≤ 8) (hb0 : b ≠ 0)
    (hE : EvA f y' cc' nL' none d' n kc' ks' (.inr (.inr b) :: As) w Rc)
    (k : ∀ r w', Rc r w' → WP f L xs (n + kc') (sl + ks') (pc + 3) als (r.toList ++ st) w') : WP f L xs n sl pc als (As.reverse ++ .inr (.inr b) :: st) w := by
  intro D tc ad base p l e rm s m args below meth c Q H locs ls cells slots CC X h3 h4 h5
  obtain ⟨C, hrm, hlw⟩ := id CC
  subst hrm
  obtain ⟨⟨hl1, hl2, hl3⟩, hl4, hl5⟩ := hl
  obtain ⟨hx, hb, hml, -, -, hts, hown, -⟩ := id C
  have hfr : 600 ≤ room_1.frames := Nat.le_of_ble_eq_true rfl
  have hlo : 64 * 600 ≤ room_1.locals := Nat.le_of_ble_eq_true rfl
  have hce : room_1.cells = 600000 := rfl
  have hsl : room_1.slots = 7302250 := rfl
  have hbase : base = s.heap.size := hlw.1
  obtain ⟨x1, x2, x3, x4, x5, x6, x7, x8, x9, x10, x11, x12⟩ := id X
  obtain ⟨o1, o2⟩ := am_rev_ok x12
  refine am_size X (fun hsz => ?_)
  have hpre := am_preAt X hsz (as := .inr (.inr b) :: As) (fun v hv => by
    rcases List.mem_cons.mp hv with rfl | hv
    · exact am_hd o2
    · exact o1 v hv)
  rw [show (.inr (.inr b) :: As : List AV).map (am_cv ad) = .ref (ad b) :: As.map (am_cv ad) from congrArg (· :: As.map (am_cv ad)) (am_rf1 hb0)] at hpre
  have hrun := va_runI (As := As.map (am_cv ad)) (rest := st.map (am_cv ad)) (g := F0 m pc ls ((As.reverse ++ .inr (.inr b) :: st).map (am_cv ad))) (H := H) (locs := locs) (cells := cells) (slots := slots) (e := e) (below := below) (meth := meth) ⟨hx, hb, hml, hown, hts⟩ (hE D tc ad base l)
    (cwI As.length hts (am_good (am_codeG hl2)) rfl rfl rfl (hts _ hl3) (hts _ hl1) (hts _ hi) hy1 hl4 ⟨by show d' + 1 ≤ room_1.frames; omega, by show 8 + (nL' + 11) + 64 * d' ≤ room_1.locals; omega⟩)
    ⟨am_blind, hpre⟩ rfl (by simp) x8.1 (by simp [am_cv, am_rf1 hb0]) (am_vc_room ad hst) hd ⟨by omega, by omega⟩
  exact lw_after CC X (am_tl o2) h3 hn1 hn2 hrun k
theorem WP.callV0 {i ci N : Nat} {b : Int} {T : u_T} (hd : decode code pc = .ok (.invokevirtual i, 3)) (hl : am_link R_law i y' cc' nL' rt' 0 ∧ Cond.instanceMethod y' ∈ am_G ∧ Cond.selects y'.cls y' y' ∈ am_G) (hn1 : n ≤ 600000) (hn2 : sl ≤ 7302250) (ho : am_obj n b ci N) (hc : vwCl[ci]? = some (y'.cls, T, N)) (hst : (st.map am_cat).sum ≤ 8) (hdd : d' < 600) (hE : EvA f y' cc' nL' rt' d' n 0 0 (.inr (.inr b) :: []) w Rc) (k : ∀ r w', Rc r w' → WP f L xs n sl (pc + 3) als (r.toList ++ st) w') : WP f L xs n sl pc als (.inr (.inr b) :: st) w :=
  WP.callV (As := []) (kc' := 0) (ks' := 0) hd hl.1 hl.2.1 hl.2.2 hdd hn1 hn2 hst ho hc hE k
theorem WP.callV1 {a0 : AV} {i ci N : Nat} {b : Int} {T : u_T} (hd : decode code pc = .ok (.invokevirtual i, 3)) (hl : am_link R_law i y' cc' nL' rt' 1 ∧ Cond.instanceMethod y' ∈ am_G ∧ Cond.selects y'.cls y' y' ∈ am_G) (hn1 : n ≤ 600000) (hn2 : sl ≤ 7302250) (ho : am_obj n b ci N) (hc : vwCl[ci]? = some (y'.cls, T, N)) (hst : (st.map am_cat).sum ≤ 8) (hdd : d' < 600) (hE : EvA f y' cc' nL' rt' d' n 0 0 (.inr (.inr b) :: [a0]) w Rc) (k : ∀ r w', Rc r w' → WP f L xs n sl (pc + 3) als (r.toList ++ st) w') : WP f L xs n sl pc als (a0 :: .inr (.inr b) :: st) w :=
  WP.callV (As := [a0]) (kc' := 0) (ks' := 0) hd hl.1 hl.2.1 hl.2.2 hdd hn1 hn2 hst ho hc hE k
theorem WP.callV2 {a0 a1 : AV} {i ci N : Nat} {b : Int} {T : u_T} (hd : decode code pc = .ok (.invokevirtual i, 3)) (hl : am_link R_law i y' cc' nL' rt' 2 ∧ Cond.instanceMethod y' ∈ am_G ∧ Cond.selects y'.cls y' y' ∈ am_G) (hn1 : n ≤ 600000) (hn2 : sl ≤ 7302250) (ho : am_obj n b ci N) (hc : vwCl[ci]? = some (y'.cls, T, N)) (hst : (st.map am_cat).sum ≤ 8) (hdd : d' < 600) (hE : EvA f y' cc' nL' rt' d' n 0 0 (.inr (.inr b) :: [a0, a1]) w Rc) (k : ∀ r w', Rc r w' → WP f L xs n sl (pc + 3) als (r.toList ++ st) w') : WP f L xs n sl pc als (a1 :: a0 :: .inr (.inr b) :: st) w :=
  WP.callV (As := [a0, a1]) (kc' := 0) (ks' := 0) hd hl.1 hl.2.1 hl.2.2 hdd hn1 hn2 hst ho hc hE k
theorem WP.callV3 {a0 a1 a2 : AV} {i ci N : Nat} {b : Int} {T : u_T} (hd : decode code pc = .ok (.invokevirtual i, 3)) (hl : am_link R_law i y' cc' nL' rt' 3 ∧ Cond.instanceMethod y' ∈ am_G ∧ Cond.selects y'.cls y' y' ∈ am_G) (hn1 : n ≤ 600000) (hn2 : sl ≤ 7302250) (ho : am_obj n b ci N) (hc : vwCl[ci]? = some (y'.cls, T, N)) (hst : (st.map am_cat).sum ≤ 8) (hdd : d' < 600) (hE : EvA f y' cc' nL' rt' d' n 0 0 (.inr (.inr b) :: [a0, a1, a2]) w Rc) (k : ∀ r w', Rc r w' → WP f L xs n sl (pc + 3) als (r.toList ++ st) w') : WP f L xs n sl pc als (a2 :: a1 :: a0 :: .inr (.inr b) :: st) w :=
  WP.callV (As := [a0, a1, a2]) (kc' := 0) (ks' := 0) hd hl.1 hl.2.1 hl.2.2 hdd hn1 hn2 hst ho hc hE k
theorem WP.new {i ci N n2 sl2 : Nat} {C : String} {T : u_T} {c0 : Int} (hn0 : n + 1 = n2) (hs0 : sl + N = sl2) (hcn : (n : Int) + 1 = c0) (hd : decode code pc = .ok (.new i, 3)) (hl : am_lay c0 = (ci + 4, N)) (hn : (n : Int) + 1 ≤ 2147483647) (hn1 : n2 ≤ 600000) (hn2 : sl2 ≤ 7302250) (hc : vwCl[ci]? = some (C, T, N)) (hin : ∀ w ∈ u_ws C T N, w ∈ am_G) (hty : ∀ k, k < N → parseFieldDescriptor (T k).2.2.1 = some (am_fty ci k)) (hok : ∀ k, k < N → am_okty (am_fty ci k) = true)
    (h1 : Cond.classLink R_law i C ∈ am_G ∧ Cond.instantiable C N ∈ am_G ∧ Cond.initialized C ∈ am_G)
    (k : WP false L xs n2 sl2 (pc + 3) als (.inr (.inr c0) :: st) (wnew w c0)) : WP false L xs n sl pc als st w := by
  subst hn0; subst hs0; subst hcn
  intro D tc ad base p l e rm s m args below meth c Q H locs ls cells slots CC X g3 g4 g5
  obtain ⟨C1, rfl, hlw⟩ := id CC
  obtain ⟨hx, hb, hml, -, -, hts, hown, -⟩ := id C1
  have hce : room_1.cells = 600000 := rfl
  have hsl : room_1.slots = 7302250 := rfl
  have hbase : base = s.heap.size := hlw.1
  obtain ⟨x1, x2, x3, x4, x5, x6, x7, x8, x9, x10, x11, x12⟩ := id X
  refine va_new (fs := (List.range N).map (fun j => am_val ad (am_sort (am_fty ci j)) 0)) hx hb hts hin (am_fty ci) hty hown (hts _ h1.1) (hts _ h1.2.1) (hts _ h1.2.2) x2 x6 (am_wl_D x3) x7 (fun q hq => Nat.le_trans x4 hq) hc (fun j hj => ?_) (by omega) (by omega) hd (fun q H1 hP hD hS => ?_)
  · rw [am_def_ty ad (hok j hj)]
    simp [vp_V, hj]
  · have eq9 : am_ent tc ad (wnew w ((n : Int) + 1)) ((n : Int) + 1) = .inr (ci, (List.range N).map (fun j => am_val ad (am_sort (am_fty ci j)) 0)) := by
      rw [am_ent_o hl]
      have : ∀ j : Nat, wnew w ((n : Int) + 1) ((n : Int) + 1) j = 0 := fun j => if_pos rfl
      simp only [this]
    rw [← eq9] at hP hD
    intro T' hT Y
    have hz := Y.heapSize
    rw [hT] at hz
    have hlast : (am_wl tc ad n w ++ [(q, am_ent tc ad (wnew w ((n : Int) + 1)) ((n : Int) + 1))])[n]? = some (q, am_ent tc ad (wnew w ((n : Int) + 1)) ((n : Int) + 1)) := by
      rw [List.getElem?_append_right (by rw [am_wl_len]; exact Nat.le_refl _), am_wl_len, Nat.sub_self]
      rfl
    have hq1 : q < H1.size := (hP _ _ hlast).lt
    have hq2 : base ≤ q := hD.2 _ _ hlast
    have hq3 : q = base + n := by
      by_cases hlt : q < base + n
      · exfalso
        have hk : q - base < n := by omega
        have h9 := am_wl_at (tc := tc) (ad := ad) (n := n) (w := w) (c := ((q - base : Nat) : Int) + 1) (by omega) (by omega)
        rw [show (((q - base : Nat) : Int) + 1 - 1).toNat = q - base by omega] at h9
        have h10 : (am_wl tc ad n w ++ [(q, am_ent tc ad (wnew w ((n : Int) + 1)) ((n : Int) + 1))])[q - base]? = some (ad (((q - base : Nat) : Int) + 1), am_ent tc ad w (((q - base : Nat) : Int) + 1)) := by
          rw [List.getElem?_append_left (by rw [am_wl_len]; exact hk)]
          exact h9
        have h11 := hD.1 _ _ _ _ h10 hlast (by
          show ad (((q - base : Nat) : Int) + 1) = q
          rw [x3]
          omega)
        omega
      · omega
    have had : ad ((n : Int) + 1) = q := by rw [x3, hq3]
    rw [← had, am_wl_push wnew_ne] at hP
    have K := k D tc ad base p l e room_1 s m args below meth c Q H1 locs ls (cells + 1) (slots + N) CC ⟨x1, x2, x3, x4, by omega, hP, hS, x8, x9, am_okw_new x10, x11, am_ok1 (am_r ⟨by omega, hn⟩) x12⟩ (by omega) hn1 hn2
    have e : (.inr (.inr ((n : Int) + 1)) :: st : List AV).map (am_cv ad) = .ref q :: st.map (am_cv ad) := by
      show am_rf ad ((n : Int) + 1) :: _ = _
      rw [am_rf1 (by omega), had]
    rw [e] at K
    exact K T' hT Y
theorem WP.callI0 {i n2 sl2 : Nat} {b : Int} (hn0 : n + kc' = n2) (hs0 : sl + ks' = sl2) (hd : decode code pc = .ok (.invokespecial i, 3)) (hl : am_link R_law i y' cc' nL' none 0 ∧ Cond.instanceMethod y' ∈ am_G ∧ y'.name = "<init>") (hn1 : n2 ≤ 600000) (hn2 : sl2 ≤ 7302250) (hb0 : b ≠ 0) (hst : (st.map am_cat).sum ≤ 8) (hdd : d' < 600) (hE : EvA f y' cc' nL' none d' n kc' ks' [.inr (.inr b)] w Rc) (k : ∀ r w', Rc r w' → WP f L xs n2 sl2 (pc + 3) als (r.toList ++ st) w') : WP f L xs n sl pc als (.inr (.inr b) :: st) w := by
  subst hn0; subst hs0
  exact WP.callI (As := []) hd hl.1 hl.2.1 hl.2.2 hdd hn1 hn2 hst hb0 hE k
end LAWM
