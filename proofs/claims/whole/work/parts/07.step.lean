/-! ===== one instruction: the rules ===== -/
section AMR
variable {f : Bool} {y : MethodName} {cc : ByteArray} {nL : Nat} {rt : Option FieldType} {d n kc ks pc pc' : Nat} {als : List (Option AV)} {st st' : List AV} {w : Wd} {R : Option AV → Wd → Prop}
/-- a step that moves stack and place alone -/
theorem WA.pure (hok : (∀ v ∈ st, am_ok v) → am_okw f w → (∀ v, some v ∈ als → am_ok v) → ∀ v ∈ st', am_ok v)
    (h : ∀ (D : va_G) (tc : Nat → ClassId) (ad : Int → Nat) (base : Nat) (p : Program) (l : Launch) (e : Env) (rm : Room) (s : State) (m : MethodId) (args : Array Value) (below : List Frame) (meth : Method) (c : Code) (H : Heap) (locs : List Loc) (ls : Array Slot) (cells slots : Nat) (Q : State → Prop),
      am_C y cc nL rt p s m args meth c → am_X f D tc ad base nL n s als st w H locs ls cells → (∀ v ∈ st, am_ok v) → cells ≤ rm.cells → slots ≤ rm.slots → d ≤ rm.frames → 64 * d ≤ rm.locals →
      W p l e rm s m args below meth c H locs cells slots Q (F0 m pc' ls (st'.map (am_cv ad))) → W p l e rm s m args below meth c H locs cells slots Q (F0 m pc ls (st.map (am_cv ad))))
    (k : WA f y cc nL rt d n kc ks pc' als st' w R) : WA f y cc nL rt d n kc ks pc als st w R := by
  intro D tc ad base p l e rm s m args below meth c H locs ls cells slots MC MS C X h3 h4 h5 h6 h7 h8
  obtain ⟨x1, x2, x3, x4, x5, x6, x7, x8, x9, x10, x11, x12⟩ := id X
  exact h D tc ad base p l e rm s m args below meth c H locs ls cells slots _ C X x12 (by omega) (by omega) h7 h8 (k D tc ad base p l e rm s m args below meth c H locs ls cells slots MC MS C ⟨x1, x2, x3, x4, x5, x6, x7, x8, x9, x10, x11, hok x12 x10 x11⟩ h3 h4 h5 h6 h7 h8)
theorem am_ok1 {v : AV} (hv : am_ok v) (h : ∀ x ∈ st, am_ok x) : ∀ x ∈ v :: st, am_ok x := fun x hx => by
  rcases List.mem_cons.mp hx with rfl | hx
  · exact hv
  · exact h x hx
theorem am_tl {v : AV} (h : ∀ x ∈ v :: st, am_ok x) : ∀ x ∈ st, am_ok x := fun x hx => h x (List.mem_cons_of_mem _ hx)
theorem am_hd {v : AV} (h : ∀ x ∈ v :: st, am_ok x) : am_ok v := h v List.mem_cons_self
theorem am_loc_read {ad : Int → Nat} {ls : Array Slot} {i : Nat} {a : AV} (h : lv_has ls nL (am_lv ad als)) (ha : als[i]? = some (some a)) : ls[i]? = some (.val (am_cv ad a)) := h.2.2 (i, am_cv ad a) (am_lv_mem.mpr ⟨a, ha, rfl⟩)
theorem o32 {x : Int} (h : in32 x) : Int32.minValue.toInt ≤ x ∧ x ≤ Int32.maxValue.toInt := h
theorem o64 {x : Int} (h : in64 x) : Int64.minValue.toInt ≤ x ∧ x ≤ Int64.maxValue.toInt := h
theorem i32_le {x y : Int} (hx : in32 x) (hy : in32 y) : Int32.ofInt x ≤ Int32.ofInt y ↔ x ≤ y := Int32.ofInt_le_iff_le (o32 hx).1 (o32 hx).2 (o32 hy).1 (o32 hy).2
theorem i32_lt {x y : Int} (hx : in32 x) (hy : in32 y) : Int32.ofInt x < Int32.ofInt y ↔ x < y := Int32.ofInt_lt_iff_lt (o32 hx).1 (o32 hx).2 (o32 hy).1 (o32 hy).2
theorem i64_lt {x y : Int} (hx : in64 x) (hy : in64 y) : Int64.ofInt x < Int64.ofInt y ↔ x < y := Int64.ofInt_lt_iff_lt (o64 hx).1 (o64 hx).2 (o64 hy).1 (o64 hy).2
theorem i32_toInt {x : Int} (hx : in32 x) : (Int32.ofInt x).toInt = x := Int32.toInt_ofInt_of_le hx.1 (by have := hx.2; omega)
theorem i64_toInt {x : Int} (hx : in64 x) : (Int64.ofInt x).toInt = x := Int64.toInt_ofInt_of_le hx.1 (by have := hx.2; omega)
theorem i32_eq {x y : Int} (hx : in32 x) (hy : in32 y) : Int32.ofInt x = Int32.ofInt y ↔ x = y := ⟨fun h => by rw [← i32_toInt hx, ← i32_toInt hy, h], fun h => by rw [h]⟩
theorem i64_eq {x y : Int} (hx : in64 x) (hy : in64 y) : Int64.ofInt x = Int64.ofInt y ↔ x = y := ⟨fun h => by rw [← i64_toInt hx, ← i64_toInt hy, h], fun h => by rw [h]⟩
theorem in32_0 : in32 0 := ⟨by decide, by decide⟩
theorem am_i {x : Int} (h : in32 x) : am_ok (.inl x) := h
theorem am_j {x : Int} (h : in64 x) : am_ok (.inr (.inl x)) := h
theorem am_r {x : Int} (h : in32 x) : am_ok (.inr (.inr x)) := h
theorem i32_nat {x : Int} (hx : in32 x) (h0 : 0 ≤ x) : (Int32.ofInt x).toNatClampNeg = x.toNat := Int32.toNatClampNeg_ofInt_of_le hx.1 (by have := hx.2; omega)
theorem i32_in {x : Int} {N : Nat} (hx : in32 x) (h0 : 0 ≤ x) (h1 : x < N) : vp_in (Int32.ofInt x) N := by
  intro h
  rcases h with h | h
  · exact absurd ((i32_lt hx in32_0).mp h) (by omega)
  · rw [i32_nat hx h0] at h
    omega
-- constants, locals
theorem WA.iconst {z : Int} (hd : decode cc pc = .ok (.iconst z, 1)) (hz : in32 z) (k : WA f y cc nL rt d n kc ks (pc + 1) als (.inl z :: st) w R) : WA f y cc nL rt d n kc ks pc als st w R :=
  WA.pure (fun h _ _ => am_ok1 (am_i hz) h) (fun _ _ _ _ _ _ _ _ _ _ _ _ _ _ _ _ _ _ _ _ C _ _ _ _ _ _ k => lv_iconst C.1 C.2.1 hd rfl k) k
theorem WA.bipush {z : Int} (hd : decode cc pc = .ok (.bipush z, 2)) (hz : -128 ≤ z ∧ z ≤ 127) (k : WA f y cc nL rt d n kc ks (pc + 2) als (.inl z :: st) w R) : WA f y cc nL rt d n kc ks pc als st w R :=
  WA.pure (fun h _ _ => am_ok1 (am_i (x := z) (⟨by omega, by omega⟩)) h) (fun _ _ _ _ _ _ _ _ _ _ _ _ _ _ _ _ _ _ _ _ C _ _ _ _ _ _ k => lv_bipush C.1 C.2.1 hd (Int8.toInt32_ofInt hz.1 hz.2) k) k
theorem WA.sipush {z : Int} (hd : decode cc pc = .ok (.sipush z, 3)) (hz : -32768 ≤ z ∧ z ≤ 32767) (k : WA f y cc nL rt d n kc ks (pc + 3) als (.inl z :: st) w R) : WA f y cc nL rt d n kc ks pc als st w R :=
  WA.pure (fun h _ _ => am_ok1 (am_i (x := z) (⟨by omega, by omega⟩)) h) (fun _ _ _ _ _ _ _ _ _ _ _ _ _ _ _ _ _ _ _ _ C _ _ _ _ _ _ k => lv_sipush C.1 C.2.1 hd (Int16.toInt32_ofInt hz.1 hz.2) k) k
theorem WA.lconst {z : Fin 2} {x : Int} (hd : decode cc pc = .ok (.lconst z, 1)) (hx : x = (z : Nat)) (k : WA f y cc nL rt d n kc ks (pc + 1) als (.inr (.inl x) :: st) w R) : WA f y cc nL rt d n kc ks pc als st w R :=
  WA.pure (fun h _ _ => am_ok1 (am_j (x := x) (⟨by omega, by omega⟩)) h) (fun _ _ _ _ _ _ _ _ _ _ _ _ _ _ _ _ _ _ _ _ C _ _ _ _ _ _ k => lv_lconst C.1 C.2.1 hd (by subst hx; exact Int64.ofInt_eq_ofNat.symm) k) k
theorem WA.ldc {i : Nat} {v : Int32} {x : Int} (hd : decode cc pc = .ok (.ldc i, 2)) (hw : Cond.constant y.cls i v ∈ am_G) (hx : v.toInt = x) (k : WA f y cc nL rt d n kc ks (pc + 2) als (.inl x :: st) w R) : WA f y cc nL rt d n kc ks pc als st w R :=
  WA.pure (fun h _ _ => am_ok1 (am_i (x := x) (by subst hx; exact ⟨v.minValue_le_toInt, v.toInt_le⟩)) h) (fun _ _ _ _ _ _ _ _ _ _ _ _ _ _ _ _ _ _ _ _ C _ _ _ _ _ _ k => lv_ldc C.1 C.2.1 C.2.2.2.2.2.2.1 (C.2.2.2.2.2.1 _ hw) hd (by subst hx; simpa [am_cv] using k)) k
theorem WA.ldc_w {i : Nat} {v : Int32} {x : Int} (hd : decode cc pc = .ok (.ldc_w i, 3)) (hw : Cond.constant y.cls i v ∈ am_G) (hx : v.toInt = x) (k : WA f y cc nL rt d n kc ks (pc + 3) als (.inl x :: st) w R) : WA f y cc nL rt d n kc ks pc als st w R :=
  WA.pure (fun h _ _ => am_ok1 (am_i (x := x) (by subst hx; exact ⟨v.minValue_le_toInt, v.toInt_le⟩)) h) (fun _ _ _ _ _ _ _ _ _ _ _ _ _ _ _ _ _ _ _ _ C _ _ _ _ _ _ k => lv_ldcw C.1 C.2.1 C.2.2.2.2.2.2.1 (C.2.2.2.2.2.1 _ hw) hd (by subst hx; simpa [am_cv] using k)) k
theorem WA.ldc2 {i : Nat} {v : Int64} {x : Int} (hd : decode cc pc = .ok (.ldc2_w i, 3)) (hw : Cond.constantLong y.cls i v ∈ am_G) (hx : v.toInt = x) (k : WA f y cc nL rt d n kc ks (pc + 3) als (.inr (.inl x) :: st) w R) : WA f y cc nL rt d n kc ks pc als st w R :=
  WA.pure (fun h _ _ => am_ok1 (am_j (x := x) (by subst hx; exact ⟨v.minValue_le_toInt, v.toInt_le⟩)) h) (fun _ _ _ _ _ _ _ _ _ _ _ _ _ _ _ _ _ _ _ _ C _ _ _ _ _ _ k => lv_ldc2 C.1 C.2.1 C.2.2.2.2.2.2.1 (C.2.2.2.2.2.1 _ hw) hd (by subst hx; simpa [am_cv] using k)) k
theorem WA.iload_n {i : Fin 4} {x : Int} (hd : decode cc pc = .ok (.iload_n i, 1)) (hl : als[(i : Nat)]? = some (some (.inl x))) (k : WA f y cc nL rt d n kc ks (pc + 1) als (.inl x :: st) w R) : WA f y cc nL rt d n kc ks pc als st w R :=
  WA.pure (fun h _ h2 => am_ok1 (h2 _ (List.mem_of_getElem? hl)) h) (fun _ _ _ _ _ _ _ _ _ _ _ _ _ _ _ _ _ _ _ _ C X _ _ _ _ _ k => lv_iload_n C.1 C.2.1 hd rfl (am_loc_read X.2.2.2.2.2.2.2.1 hl) k) k
theorem WA.iload {i : Nat} {x : Int} (hd : decode cc pc = .ok (.iload i, 2)) (hl : als[i]? = some (some (.inl x))) (k : WA f y cc nL rt d n kc ks (pc + 2) als (.inl x :: st) w R) : WA f y cc nL rt d n kc ks pc als st w R :=
  WA.pure (fun h _ h2 => am_ok1 (h2 _ (List.mem_of_getElem? hl)) h) (fun _ _ _ _ _ _ _ _ _ _ _ _ _ _ _ _ _ _ _ _ C X _ _ _ _ _ k => lv_iload C.1 C.2.1 hd (am_loc_read X.2.2.2.2.2.2.2.1 hl) k) k
theorem WA.lload_n {i : Fin 4} {x : Int} (hd : decode cc pc = .ok (.lload_n i, 1)) (hl : als[(i : Nat)]? = some (some (.inr (.inl x)))) (k : WA f y cc nL rt d n kc ks (pc + 1) als (.inr (.inl x) :: st) w R) : WA f y cc nL rt d n kc ks pc als st w R :=
  WA.pure (fun h _ h2 => am_ok1 (h2 _ (List.mem_of_getElem? hl)) h) (fun _ _ _ _ _ _ _ _ _ _ _ _ _ _ _ _ _ _ _ _ C X _ _ _ _ _ k => lv_lload_n C.1 C.2.1 hd rfl (am_loc_read X.2.2.2.2.2.2.2.1 hl) k) k
theorem WA.lload {i : Nat} {x : Int} (hd : decode cc pc = .ok (.lload i, 2)) (hl : als[i]? = some (some (.inr (.inl x)))) (k : WA f y cc nL rt d n kc ks (pc + 2) als (.inr (.inl x) :: st) w R) : WA f y cc nL rt d n kc ks pc als st w R :=
  WA.pure (fun h _ h2 => am_ok1 (h2 _ (List.mem_of_getElem? hl)) h) (fun _ _ _ _ _ _ _ _ _ _ _ _ _ _ _ _ _ _ _ _ C X _ _ _ _ _ k => lv_lload C.1 C.2.1 hd (am_loc_read X.2.2.2.2.2.2.2.1 hl) k) k
theorem am_rf1 {ad : Int → Nat} {x : Int} (h : x ≠ 0) : am_rf ad x = .ref (ad x) := if_neg h
theorem am_locr {ad : Int → Nat} {ls : Array Slot} {i : Nat} {x : Int} (h : lv_has ls nL (am_lv ad als)) (hl : als[i]? = some (some (.inr (.inr x)))) (hx : x ≠ 0) : ls[i]? = some (.val (.ref (ad x))) := by
  rw [am_loc_read h hl]
  show some (Slot.val (am_rf ad x)) = _
  rw [am_rf1 hx]
theorem WA.aload_n {i : Fin 4} {x : Int} (hd : decode cc pc = .ok (.aload_n i, 1)) (hl : als[(i : Nat)]? = some (some (.inr (.inr x)))) (hx : x ≠ 0) (k : WA f y cc nL rt d n kc ks (pc + 1) als (.inr (.inr x) :: st) w R) : WA f y cc nL rt d n kc ks pc als st w R :=
  WA.pure (fun h _ h2 => am_ok1 (h2 _ (List.mem_of_getElem? hl)) h) (fun _ _ _ _ _ _ _ _ _ _ _ _ _ _ _ _ _ _ _ _ C X _ _ _ _ _ k => lv_aload_n C.1 C.2.1 hd rfl (am_locr X.2.2.2.2.2.2.2.1 hl hx) (by rw [← am_rf1 hx]; exact k)) k
theorem WA.aload {i : Nat} {x : Int} (hd : decode cc pc = .ok (.aload i, 2)) (hl : als[i]? = some (some (.inr (.inr x)))) (hx : x ≠ 0) (k : WA f y cc nL rt d n kc ks (pc + 2) als (.inr (.inr x) :: st) w R) : WA f y cc nL rt d n kc ks pc als st w R :=
  WA.pure (fun h _ h2 => am_ok1 (h2 _ (List.mem_of_getElem? hl)) h) (fun _ _ _ _ _ _ _ _ _ _ _ _ _ _ _ _ _ _ _ _ C X _ _ _ _ _ k => lv_aload C.1 C.2.1 hd (am_locr X.2.2.2.2.2.2.2.1 hl hx) (by rw [← am_rf1 hx]; exact k)) k
end AMR
