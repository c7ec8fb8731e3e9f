/-! ===== rules: stores, arithmetic, branches, returns ===== -/
section AMR2
variable {f : Bool} {y : MethodName} {cc : ByteArray} {nL : Nat} {rt : Option FieldType} {d n kc ks pc pc' : Nat} {als als' : List (Option AV)} {st st' : List AV} {w : Wd} {R : Option AV → Wd → Prop}
/-- a step that sets locals -/
theorem WA.sto (hlen : als'.length = als.length) (hok : (∀ v ∈ st, am_ok v) → am_okw f w → (∀ v, some v ∈ als → am_ok v) → (∀ v, some v ∈ als' → am_ok v) ∧ ∀ v ∈ st', am_ok v)
    (h : ∀ (D : va_G) (tc : Nat → ClassId) (ad : Int → Nat) (base : Nat) (p : Program) (l : Launch) (e : Env) (rm : Room) (s : State) (m : MethodId) (args : Array Value) (below : List Frame) (meth : Method) (c : Code) (H : Heap) (locs : List Loc) (ls : Array Slot) (cells slots : Nat) (Q : State → Prop),
      am_C y cc nL rt p s m args meth c → lv_has ls nL (am_lv ad als) → als.length = nL →
      (∀ ls', lv_has ls' nL (am_lv ad als') → W p l e rm s m args below meth c H locs cells slots Q (F0 m pc' ls' (st'.map (am_cv ad)))) → W p l e rm s m args below meth c H locs cells slots Q (F0 m pc ls (st.map (am_cv ad))))
    (k : WA f y cc nL rt d n kc ks pc' als' st' w R) : WA f y cc nL rt d n kc ks pc als st w R := by
  intro D tc ad base p l e rm s m args below meth c H locs ls cells slots MC MS C X h3 h4 h5 h6 h7 h8
  obtain ⟨x1, x2, x3, x4, x5, x6, x7, x8, x9, x10, x11, x12⟩ := id X
  exact h D tc ad base p l e rm s m args below meth c H locs ls cells slots _ C x8 x9 (fun ls' hl' => k D tc ad base p l e rm s m args below meth c H locs ls' cells slots MC MS C ⟨x1, x2, x3, x4, x5, x6, x7, hl', by rw [hlen]; exact x9, x10, (hok x12 x10 x11).1, (hok x12 x10 x11).2⟩ h3 h4 h5 h6 h7 h8)
theorem am_kill_len (i : Nat) : (am_kill als i).length = als.length := by
  unfold am_kill
  split
  · rfl
  · split
    · simp
    · rfl
theorem am_s1_len (i : Nat) (v : AV) : (am_s1 als i v).length = als.length := by simp [am_s1, am_kill_len]
theorem am_s2_len (i : Nat) (v : AV) : (am_s2 als i v).length = als.length := by simp [am_s2, am_kill_len]
theorem am_set_ok {l : List (Option AV)} {i : Nat} {z : Option AV} (h : ∀ v, some v ∈ l → am_ok v) (hz : ∀ v, z = some v → am_ok v) : ∀ v, some v ∈ l.set i z → am_ok v := fun v hv => by
  rcases List.mem_or_eq_of_mem_set hv with h1 | h1
  · exact h v h1
  · exact hz v h1.symm
theorem am_kill_ok {i : Nat} (h : ∀ v, some v ∈ als → am_ok v) : ∀ v, some v ∈ am_kill als i → am_ok v := by
  unfold am_kill
  split
  · exact h
  · split
    · exact am_set_ok h (fun v hv => by cases hv)
    · exact h
theorem am_s1_ok {i : Nat} {v : AV} (h : ∀ v, some v ∈ als → am_ok v) (hv : am_ok v) : ∀ u, some u ∈ am_s1 als i v → am_ok u := by unfold am_s1; exact am_set_ok (am_kill_ok h) (fun x hx => by cases hx; exact hv)
theorem am_s2_ok {i : Nat} {v : AV} (h : ∀ v, some v ∈ als → am_ok v) (hv : am_ok v) : ∀ u, some u ∈ am_s2 als i v → am_ok u := by unfold am_s2; exact am_set_ok (am_set_ok (am_kill_ok h) (fun x hx => by cases hx; exact hv)) (fun x hx => by cases hx)
theorem WA.istore_n {i : Fin 4} {x : Int} (hd : decode cc pc = .ok (.istore_n i, 1)) (hi : (i : Nat) < als.length) (he : am_s1 als (i : Nat) (.inl x) = als') (k : WA f y cc nL rt d n kc ks (pc + 1) als' st w R) : WA f y cc nL rt d n kc ks pc als (.inl x :: st) w R := by
  subst he
  exact WA.sto (am_s1_len _ _) (fun h _ h2 => ⟨am_s1_ok h2 (am_hd h), am_tl h⟩) (fun _ _ _ _ _ _ _ _ _ _ _ _ _ _ _ _ _ _ _ _ C h hn k => lv_istore_n C.1 C.2.1 hd rfl h (by rw [← hn]; exact hi) rfl (fun ls' hl => k ls' (lv_has_mono hl am_s1_sub))) k
theorem WA.istore {i : Nat} {x : Int} (hd : decode cc pc = .ok (.istore i, 2)) (hi : i < als.length) (he : am_s1 als i (.inl x) = als') (k : WA f y cc nL rt d n kc ks (pc + 2) als' st w R) : WA f y cc nL rt d n kc ks pc als (.inl x :: st) w R := by
  subst he
  exact WA.sto (am_s1_len _ _) (fun h _ h2 => ⟨am_s1_ok h2 (am_hd h), am_tl h⟩) (fun _ _ _ _ _ _ _ _ _ _ _ _ _ _ _ _ _ _ _ _ C h hn k => lv_istore C.1 C.2.1 hd h (by rw [← hn]; exact hi) rfl (fun ls' hl => k ls' (lv_has_mono hl am_s1_sub))) k
theorem WA.astore_n {i : Fin 4} {x : Int} (hd : decode cc pc = .ok (.astore_n i, 1)) (hx : x ≠ 0) (hi : (i : Nat) < als.length) (he : am_s1 als (i : Nat) (.inr (.inr x)) = als') (k : WA f y cc nL rt d n kc ks (pc + 1) als' st w R) : WA f y cc nL rt d n kc ks pc als (.inr (.inr x) :: st) w R := by
  subst he
  exact WA.sto (am_s1_len _ _) (fun h _ h2 => ⟨am_s1_ok h2 (am_hd h), am_tl h⟩) (fun D tc ad base p l e rm s m args below meth c H locs ls cells slots Q C h hn k => by
    show W p l e rm s m args below meth c H locs cells slots Q (F0 m pc ls (am_rf ad x :: st.map (am_cv ad)))
    rw [am_rf1 hx]
    exact lv_astore_n C.1 C.2.1 hd rfl h (by rw [← hn]; exact hi) rfl (fun ls' hl => k ls' (lv_has_mono hl (fun q hq => by have h9 := am_s1_sub q hq; rw [show am_cv ad (.inr (.inr x)) = Value.ref (ad x) from am_rf1 hx] at h9; exact h9)))) k
theorem WA.astore {i : Nat} {x : Int} (hd : decode cc pc = .ok (.astore i, 2)) (hx : x ≠ 0) (hi : i < als.length) (he : am_s1 als i (.inr (.inr x)) = als') (k : WA f y cc nL rt d n kc ks (pc + 2) als' st w R) : WA f y cc nL rt d n kc ks pc als (.inr (.inr x) :: st) w R := by
  subst he
  exact WA.sto (am_s1_len _ _) (fun h _ h2 => ⟨am_s1_ok h2 (am_hd h), am_tl h⟩) (fun D tc ad base p l e rm s m args below meth c H locs ls cells slots Q C h hn k => by
    show W p l e rm s m args below meth c H locs cells slots Q (F0 m pc ls (am_rf ad x :: st.map (am_cv ad)))
    rw [am_rf1 hx]
    exact lv_astore C.1 C.2.1 hd h (by rw [← hn]; exact hi) rfl (fun ls' hl => k ls' (lv_has_mono hl (fun q hq => by have h9 := am_s1_sub q hq; rw [show am_cv ad (.inr (.inr x)) = Value.ref (ad x) from am_rf1 hx] at h9; exact h9)))) k
theorem WA.lstore_n {i : Fin 4} {x : Int} (hd : decode cc pc = .ok (.lstore_n i, 1)) (hi : (i : Nat) + 1 < als.length) (he : am_s2 als (i : Nat) (.inr (.inl x)) = als') (k : WA f y cc nL rt d n kc ks (pc + 1) als' st w R) : WA f y cc nL rt d n kc ks pc als (.inr (.inl x) :: st) w R := by
  subst he
  exact WA.sto (am_s2_len _ _) (fun h _ h2 => ⟨am_s2_ok h2 (am_hd h), am_tl h⟩) (fun _ _ _ _ _ _ _ _ _ _ _ _ _ _ _ _ _ _ _ _ C h hn k => lv_lstore_n C.1 C.2.1 hd rfl h (by rw [← hn]; exact hi) rfl (fun ls' hl => k ls' (lv_has_mono hl am_s2_sub))) k
theorem WA.lstore {i : Nat} {x : Int} (hd : decode cc pc = .ok (.lstore i, 2)) (hi : i + 1 < als.length) (he : am_s2 als i (.inr (.inl x)) = als') (k : WA f y cc nL rt d n kc ks (pc + 2) als' st w R) : WA f y cc nL rt d n kc ks pc als (.inr (.inl x) :: st) w R := by
  subst he
  exact WA.sto (am_s2_len _ _) (fun h _ h2 => ⟨am_s2_ok h2 (am_hd h), am_tl h⟩) (fun _ _ _ _ _ _ _ _ _ _ _ _ _ _ _ _ _ _ _ _ C h hn k => lv_lstore C.1 C.2.1 hd h (by rw [← hn]; exact hi) rfl (fun ls' hl => k ls' (lv_has_mono hl am_s2_sub))) k
theorem WA.iinc {i : Nat} {z x : Int} (hd : decode cc pc = .ok (.iinc i z, 3)) (hl : als[i]? = some (some (.inl x))) (hz : in32 (x + z)) (he : am_s1 als i (.inl (x + z)) = als') (k : WA f y cc nL rt d n kc ks (pc + 3) als' st w R) : WA f y cc nL rt d n kc ks pc als st w R := by
  subst he
  exact WA.sto (am_s1_len _ _) (fun h _ h2 => ⟨am_s1_ok h2 (am_i hz), h⟩) (fun _ _ ad _ _ _ _ _ _ _ _ _ _ _ _ _ _ _ _ _ C h hn k => by
    obtain ⟨j, hj⟩ := List.getElem?_of_mem (am_lv_mem.mpr ⟨_, hl, rfl⟩ : (i, am_cv ad (.inl x)) ∈ am_lv ad als)
    exact lv_iinc C.1 C.2.1 hd h hj (Int32.ofInt_add x z).symm (by rw [← hn]; exact (List.getElem?_eq_some_iff.mp hl).1) rfl (fun ls' hl => k ls' (lv_has_mono hl am_s1_sub))) k
theorem WA.dup {v : AV} (hd : decode cc pc = .ok (.dup, 1)) (hv : am_cat v = 1) (k : WA f y cc nL rt d n kc ks (pc + 1) als (v :: v :: st) w R) : WA f y cc nL rt d n kc ks pc als (v :: st) w R :=
  WA.pure (fun h _ _ => am_ok1 (am_hd h) h) (fun _ _ _ _ _ _ _ _ _ _ _ _ _ _ _ _ _ _ _ _ C X ho _ _ _ _ k => lv_dup C.1 C.2.1 hd (by rw [am_cat_cv]; exact hv) k) k
theorem WA.pop {v : AV} (hd : decode cc pc = .ok (.pop, 1)) (hv : am_cat v = 1) (k : WA f y cc nL rt d n kc ks (pc + 1) als st w R) : WA f y cc nL rt d n kc ks pc als (v :: st) w R :=
  WA.pure (fun h _ _ => am_tl h) (fun _ _ _ _ _ _ _ _ _ _ _ _ _ _ _ _ _ _ _ _ C X ho _ _ _ _ k => lv_pop C.1 C.2.1 hd (by rw [am_cat_cv]; exact hv) k) k
theorem WA.dup2 {v u : AV} (hd : decode cc pc = .ok (.dup2, 1)) (hv : am_cat v = 1) (hu : am_cat u = 1) (k : WA f y cc nL rt d n kc ks (pc + 1) als (v :: u :: v :: u :: st) w R) : WA f y cc nL rt d n kc ks pc als (v :: u :: st) w R :=
  WA.pure (fun h _ _ => am_ok1 (am_hd h) (am_ok1 (am_hd (am_tl h)) h)) (fun _ _ _ _ _ _ _ _ _ _ _ _ _ _ _ _ _ _ _ _ C X ho _ _ _ _ k => lv_dup2_11 C.1 C.2.1 hd (by rw [am_cat_cv]; exact hv) (by rw [am_cat_cv]; exact hu) k) k
theorem WA.iadd {x z : Int} (hd : decode cc pc = .ok (.iadd, 1)) (hz : in32 (x + z)) (k : WA f y cc nL rt d n kc ks (pc + 1) als (.inl (x + z) :: st) w R) : WA f y cc nL rt d n kc ks pc als (.inl z :: .inl x :: st) w R :=
  WA.pure (fun h _ _ => am_ok1 (am_i hz) (am_tl (am_tl h))) (fun _ _ _ _ _ _ _ _ _ _ _ _ _ _ _ _ _ _ _ _ C X ho _ _ _ _ k => lv_iadd C.1 C.2.1 hd (by rw [← Int32.ofInt_add]; exact k)) k
theorem WA.isub {x z : Int} (hd : decode cc pc = .ok (.isub, 1)) (hz : in32 (x - z)) (k : WA f y cc nL rt d n kc ks (pc + 1) als (.inl (x - z) :: st) w R) : WA f y cc nL rt d n kc ks pc als (.inl z :: .inl x :: st) w R :=
  WA.pure (fun h _ _ => am_ok1 (am_i hz) (am_tl (am_tl h))) (fun _ _ _ _ _ _ _ _ _ _ _ _ _ _ _ _ _ _ _ _ C X ho _ _ _ _ k => lv_isub C.1 C.2.1 hd (by rw [← Int32.ofInt_sub]; exact k)) k
theorem WA.imul {x z : Int} (hd : decode cc pc = .ok (.imul, 1)) (hz : in32 (x * z)) (k : WA f y cc nL rt d n kc ks (pc + 1) als (.inl (x * z) :: st) w R) : WA f y cc nL rt d n kc ks pc als (.inl z :: .inl x :: st) w R :=
  WA.pure (fun h _ _ => am_ok1 (am_i hz) (am_tl (am_tl h))) (fun _ _ _ _ _ _ _ _ _ _ _ _ _ _ _ _ _ _ _ _ C X ho _ _ _ _ k => lv_imul C.1 C.2.1 hd (by rw [← Int32.ofInt_mul]; exact k)) k
theorem WA.ladd {x z : Int} (hd : decode cc pc = .ok (.ladd, 1)) (hz : in64 (x + z)) (k : WA f y cc nL rt d n kc ks (pc + 1) als (.inr (.inl (x + z)) :: st) w R) : WA f y cc nL rt d n kc ks pc als (.inr (.inl z) :: .inr (.inl x) :: st) w R :=
  WA.pure (fun h _ _ => am_ok1 (am_j hz) (am_tl (am_tl h))) (fun _ _ _ _ _ _ _ _ _ _ _ _ _ _ _ _ _ _ _ _ C X ho _ _ _ _ k => lv_ladd C.1 C.2.1 hd (by rw [← Int64.ofInt_add]; exact k)) k
theorem WA.lsub {x z : Int} (hd : decode cc pc = .ok (.lsub, 1)) (hz : in64 (x - z)) (k : WA f y cc nL rt d n kc ks (pc + 1) als (.inr (.inl (x - z)) :: st) w R) : WA f y cc nL rt d n kc ks pc als (.inr (.inl z) :: .inr (.inl x) :: st) w R :=
  WA.pure (fun h _ _ => am_ok1 (am_j hz) (am_tl (am_tl h))) (fun _ _ _ _ _ _ _ _ _ _ _ _ _ _ _ _ _ _ _ _ C X ho _ _ _ _ k => lv_lsub C.1 C.2.1 hd (by rw [← Int64.ofInt_sub]; exact k)) k
theorem WA.lmul {x z : Int} (hd : decode cc pc = .ok (.lmul, 1)) (hz : in64 (x * z)) (k : WA f y cc nL rt d n kc ks (pc + 1) als (.inr (.inl (x * z)) :: st) w R) : WA f y cc nL rt d n kc ks pc als (.inr (.inl z) :: .inr (.inl x) :: st) w R :=
  WA.pure (fun h _ _ => am_ok1 (am_j hz) (am_tl (am_tl h))) (fun _ _ _ _ _ _ _ _ _ _ _ _ _ _ _ _ _ _ _ _ C X ho _ _ _ _ k => lv_lmul C.1 C.2.1 hd (by rw [← Int64.ofInt_mul]; exact k)) k
theorem i32_div {x z : Int} (hx : in32 x) (hz : in32 z) (h0 : 0 ≤ x) : Int32.ofInt x / Int32.ofInt z = Int32.ofInt (x / z) := by
  rw [← Int.tdiv_eq_ediv_of_nonneg h0]
  exact (Int32.ofInt_tdiv (o32 hx).1 (o32 hx).2 (o32 hz).1 (o32 hz).2).symm
theorem i64_div {x z : Int} (hx : in64 x) (hz : in64 z) : Int64.ofInt x / Int64.ofInt z = Int64.ofInt (x.tdiv z) := (Int64.ofInt_tdiv (o64 hx).1 (o64 hx).2 (o64 hz).1 (o64 hz).2).symm
theorem i32_ne0 {z : Int} (hz : in32 z) (h : z ≠ 0) : ¬ Int32.ofInt z = 0 := fun q => h ((i32_eq hz in32_0).mp q)
theorem in64_0 : in64 0 := ⟨by decide, by decide⟩
theorem i64_ne0 {z : Int} (hz : in64 z) (h : z ≠ 0) : ¬ Int64.ofInt z = 0 := fun q => h ((i64_eq hz in64_0).mp q)
theorem div_in {x z : Int} (hx : in32 x) (h0 : 0 ≤ x) (hz : 0 < z) : in32 (x / z) := by
  have h1 : 0 ≤ x / z := Int.ediv_nonneg h0 (by omega)
  have h2 : x / z ≤ x := Int.ediv_le_self _ h0
  have := hx.2
  exact ⟨by omega, by omega⟩
theorem mod_in {x z : Int} (hz : in32 z) (h : 0 < z) : in32 (x % z) := by
  have h1 := Int.emod_nonneg x (show z ≠ 0 by omega)
  have h2 := Int.emod_lt_of_pos x h
  have := hz.2
  exact ⟨by omega, by omega⟩
theorem WA.idiv {x z : Int} (hd : decode cc pc = .ok (.idiv, 1)) (h0 : 0 ≤ x) (h1 : 0 < z) (k : WA f y cc nL rt d n kc ks (pc + 1) als (.inl (x / z) :: st) w R) : WA f y cc nL rt d n kc ks pc als (.inl z :: .inl x :: st) w R :=
  WA.pure (fun h _ _ => am_ok1 (am_i (div_in (am_hd (am_tl h)) h0 h1)) (am_tl (am_tl h))) (fun _ _ _ _ _ _ _ _ _ _ _ _ _ _ _ _ _ _ _ _ C X ho _ _ _ _ k => lv_idiv C.1 C.2.1 hd (i32_ne0 (am_hd ho) (by omega)) (by rw [i32_div (am_hd (am_tl ho)) (am_hd ho) h0]; exact k)) k
theorem WA.irem {x z : Int} (hd : decode cc pc = .ok (.irem, 1)) (h0 : 0 ≤ x) (h1 : 0 < z) (k : WA f y cc nL rt d n kc ks (pc + 1) als (.inl (x % z) :: st) w R) : WA f y cc nL rt d n kc ks pc als (.inl z :: .inl x :: st) w R :=
  WA.pure (fun h _ _ => am_ok1 (am_i (mod_in (am_hd h) h1)) (am_tl (am_tl h))) (fun _ _ _ _ _ _ _ _ _ _ _ _ _ _ _ _ _ _ _ _ C X ho _ _ _ _ k => lv_irem C.1 C.2.1 hd (i32_ne0 (am_hd ho) (by omega)) (by rw [i32_div (am_hd (am_tl ho)) (am_hd ho) h0, ← Int32.ofInt_mul, ← Int32.ofInt_sub, show x - x / z * z = x % z by rw [Int.emod_def, Int.mul_comm]]; exact k)) k
theorem WA.ldiv {x z : Int} (hd : decode cc pc = .ok (.ldiv, 1)) (h1 : z ≠ 0) (h2 : in64 (x.tdiv z)) (k : WA f y cc nL rt d n kc ks (pc + 1) als (.inr (.inl (x.tdiv z)) :: st) w R) : WA f y cc nL rt d n kc ks pc als (.inr (.inl z) :: .inr (.inl x) :: st) w R :=
  WA.pure (fun h _ _ => am_ok1 (am_j h2) (am_tl (am_tl h))) (fun _ _ _ _ _ _ _ _ _ _ _ _ _ _ _ _ _ _ _ _ C X ho _ _ _ _ k => lv_ldiv C.1 C.2.1 hd (i64_ne0 (am_hd ho) h1) (by rw [i64_div (am_hd (am_tl ho)) (am_hd ho)]; exact k)) k
theorem WA.lrem {x z : Int} (hd : decode cc pc = .ok (.lrem, 1)) (h1 : z ≠ 0) (h2 : in64 (x.tmod z)) (k : WA f y cc nL rt d n kc ks (pc + 1) als (.inr (.inl (x.tmod z)) :: st) w R) : WA f y cc nL rt d n kc ks pc als (.inr (.inl z) :: .inr (.inl x) :: st) w R :=
  WA.pure (fun h _ _ => am_ok1 (am_j h2) (am_tl (am_tl h))) (fun _ _ _ _ _ _ _ _ _ _ _ _ _ _ _ _ _ _ _ _ C X ho _ _ _ _ k => lv_lrem C.1 C.2.1 hd (i64_ne0 (am_hd ho) h1) (by rw [i64_div (am_hd (am_tl ho)) (am_hd ho), ← Int64.ofInt_mul, ← Int64.ofInt_sub, show x - x.tdiv z * z = x.tmod z by rw [Int.tmod_def, Int.mul_comm]]; exact k)) k
theorem WA.lneg {x : Int} (hd : decode cc pc = .ok (.lneg, 1)) (hz : in64 (-x)) (k : WA f y cc nL rt d n kc ks (pc + 1) als (.inr (.inl (-x)) :: st) w R) : WA f y cc nL rt d n kc ks pc als (.inr (.inl x) :: st) w R :=
  WA.pure (fun h _ _ => am_ok1 (am_j hz) (am_tl h)) (fun _ _ _ _ _ _ _ _ _ _ _ _ _ _ _ _ _ _ _ _ C X ho _ _ _ _ k => lv_lneg C.1 C.2.1 hd (by rw [← Int64.ofInt_neg]; exact k)) k
theorem WA.ineg {x : Int} (hd : decode cc pc = .ok (.ineg, 1)) (hz : in32 (-x)) (k : WA f y cc nL rt d n kc ks (pc + 1) als (.inl (-x) :: st) w R) : WA f y cc nL rt d n kc ks pc als (.inl x :: st) w R :=
  WA.pure (fun h _ _ => am_ok1 (am_i hz) (am_tl h)) (fun _ _ _ _ _ _ _ _ _ _ _ _ _ _ _ _ _ _ _ _ C X ho _ _ _ _ k => lv_ineg C.1 C.2.1 hd (by rw [← Int32.ofInt_neg]; exact k)) k
theorem in32_64 {x : Int} (h : in32 x) : in64 x := ⟨by have := h.1; omega, by have := h.2; omega⟩
theorem WA.i2l {x : Int} (hd : decode cc pc = .ok (.i2l, 1)) (k : WA f y cc nL rt d n kc ks (pc + 1) als (.inr (.inl x) :: st) w R) : WA f y cc nL rt d n kc ks pc als (.inl x :: st) w R :=
  WA.pure (fun h _ _ => am_ok1 (am_j (in32_64 (am_hd h))) (am_tl h)) (fun _ _ _ _ _ _ _ _ _ _ _ _ _ _ _ _ _ _ _ _ C X ho _ _ _ _ k => lv_i2l C.1 C.2.1 hd (Int32.toInt64_ofInt (o32 (am_hd ho)).1 (o32 (am_hd ho)).2) k) k
theorem WA.l2i {x : Int} (hd : decode cc pc = .ok (.l2i, 1)) (hz : in32 x) (k : WA f y cc nL rt d n kc ks (pc + 1) als (.inl x :: st) w R) : WA f y cc nL rt d n kc ks pc als (.inr (.inl x) :: st) w R :=
  WA.pure (fun h _ _ => am_ok1 (am_i hz) (am_tl h)) (fun _ _ _ _ _ _ _ _ _ _ _ _ _ _ _ _ _ _ _ _ C X ho _ _ _ _ k => lv_l2i C.1 C.2.1 hd Int64.toInt32_ofInt k) k
theorem WA.if_eq {x : Int} {off : Int} {tgt : Nat} (hd : decode cc pc = .ok (.ifCond .eq off, 3)) (ht : (pc : Int) + off = (tgt : Int)) (kt : x = 0 → WA f y cc nL rt d n kc ks tgt als st w R) (kf : ¬ (x = 0) → WA f y cc nL rt d n kc ks (pc + 3) als st w R) : WA f y cc nL rt d n kc ks pc als (.inl x :: st) w R := by
  by_cases hc : x = 0
  · refine WA.pure (fun h _ _ => am_tl h) (fun D tc ad base p l e rm s m args below meth c H locs ls cells slots Q C X ho _ _ _ _ k => ?_) (kt hc)
    · have hx : in32 x := am_hd ho
      exact lv_if_eq C.1 C.2.1 hd ht (fun _ => k) (fun q => absurd ((i32_eq hx in32_0).mpr hc) q)
  · refine WA.pure (fun h _ _ => am_tl h) (fun D tc ad base p l e rm s m args below meth c H locs ls cells slots Q C X ho _ _ _ _ k => ?_) (kf hc)
    · have hx : in32 x := am_hd ho
      exact lv_if_eq C.1 C.2.1 hd ht (fun q => absurd ((i32_eq hx in32_0).mp q) hc) (fun _ => k)
theorem WA.icmp_eq {x z : Int} {off : Int} {tgt : Nat} (hd : decode cc pc = .ok (.if_icmp .eq off, 3)) (ht : (pc : Int) + off = (tgt : Int)) (kt : x = z → WA f y cc nL rt d n kc ks tgt als st w R) (kf : ¬ (x = z) → WA f y cc nL rt d n kc ks (pc + 3) als st w R) : WA f y cc nL rt d n kc ks pc als (.inl z :: .inl x :: st) w R := by
  by_cases hc : x = z
  · refine WA.pure (fun h _ _ => am_tl (am_tl h)) (fun D tc ad base p l e rm s m args below meth c H locs ls cells slots Q C X ho _ _ _ _ k => ?_) (kt hc)
    · have hz : in32 z := am_hd ho
      have hx : in32 x := am_hd (am_tl ho)
      exact lv_icmp_eq C.1 C.2.1 hd ht (fun _ => k) (fun q => absurd ((i32_eq hx hz).mpr hc) q)
  · refine WA.pure (fun h _ _ => am_tl (am_tl h)) (fun D tc ad base p l e rm s m args below meth c H locs ls cells slots Q C X ho _ _ _ _ k => ?_) (kf hc)
    · have hz : in32 z := am_hd ho
      have hx : in32 x := am_hd (am_tl ho)
      exact lv_icmp_eq C.1 C.2.1 hd ht (fun q => absurd ((i32_eq hx hz).mp q) hc) (fun _ => k)
theorem WA.if_ne {x : Int} {off : Int} {tgt : Nat} (hd : decode cc pc = .ok (.ifCond .ne off, 3)) (ht : (pc : Int) + off = (tgt : Int)) (kt : ¬ x = 0 → WA f y cc nL rt d n kc ks tgt als st w R) (kf : x = 0 → WA f y cc nL rt d n kc ks (pc + 3) als st w R) : WA f y cc nL rt d n kc ks pc als (.inl x :: st) w R := by
  by_cases hc : ¬ x = 0
  · refine WA.pure (fun h _ _ => am_tl h) (fun D tc ad base p l e rm s m args below meth c H locs ls cells slots Q C X ho _ _ _ _ k => ?_) (kt hc)
    · have hx : in32 x := am_hd ho
      exact lv_if_ne C.1 C.2.1 hd ht (fun _ => k) (fun q => absurd q ((not_congr (i32_eq hx in32_0)).mpr hc))
  · refine WA.pure (fun h _ _ => am_tl h) (fun D tc ad base p l e rm s m args below meth c H locs ls cells slots Q C X ho _ _ _ _ k => ?_) (kf (Classical.not_not.mp hc))
    · have hx : in32 x := am_hd ho
      exact lv_if_ne C.1 C.2.1 hd ht (fun q => absurd (Classical.not_not.mp hc) ((not_congr (i32_eq hx in32_0)).mp q)) (fun _ => k)
theorem WA.icmp_ne {x z : Int} {off : Int} {tgt : Nat} (hd : decode cc pc = .ok (.if_icmp .ne off, 3)) (ht : (pc : Int) + off = (tgt : Int)) (kt : ¬ x = z → WA f y cc nL rt d n kc ks tgt als st w R) (kf : x = z → WA f y cc nL rt d n kc ks (pc + 3) als st w R) : WA f y cc nL rt d n kc ks pc als (.inl z :: .inl x :: st) w R := by
  by_cases hc : ¬ x = z
  · refine WA.pure (fun h _ _ => am_tl (am_tl h)) (fun D tc ad base p l e rm s m args below meth c H locs ls cells slots Q C X ho _ _ _ _ k => ?_) (kt hc)
    · have hz : in32 z := am_hd ho
      have hx : in32 x := am_hd (am_tl ho)
      exact lv_icmp_ne C.1 C.2.1 hd ht (fun _ => k) (fun q => absurd q ((not_congr (i32_eq hx hz)).mpr hc))
  · refine WA.pure (fun h _ _ => am_tl (am_tl h)) (fun D tc ad base p l e rm s m args below meth c H locs ls cells slots Q C X ho _ _ _ _ k => ?_) (kf (Classical.not_not.mp hc))
    · have hz : in32 z := am_hd ho
      have hx : in32 x := am_hd (am_tl ho)
      exact lv_icmp_ne C.1 C.2.1 hd ht (fun q => absurd (Classical.not_not.mp hc) ((not_congr (i32_eq hx hz)).mp q)) (fun _ => k)
theorem WA.if_lt {x : Int} {off : Int} {tgt : Nat} (hd : decode cc pc = .ok (.ifCond .lt off, 3)) (ht : (pc : Int) + off = (tgt : Int)) (kt : x < 0 → WA f y cc nL rt d n kc ks tgt als st w R) (kf : ¬ (x < 0) → WA f y cc nL rt d n kc ks (pc + 3) als st w R) : WA f y cc nL rt d n kc ks pc als (.inl x :: st) w R := by
  by_cases hc : x < 0
  · refine WA.pure (fun h _ _ => am_tl h) (fun D tc ad base p l e rm s m args below meth c H locs ls cells slots Q C X ho _ _ _ _ k => ?_) (kt hc)
    · have hx : in32 x := am_hd ho
      exact lv_if_lt C.1 C.2.1 hd ht (fun _ => k) (fun q => absurd ((i32_lt hx in32_0).mpr hc) q)
  · refine WA.pure (fun h _ _ => am_tl h) (fun D tc ad base p l e rm s m args below meth c H locs ls cells slots Q C X ho _ _ _ _ k => ?_) (kf hc)
    · have hx : in32 x := am_hd ho
      exact lv_if_lt C.1 C.2.1 hd ht (fun q => absurd ((i32_lt hx in32_0).mp q) hc) (fun _ => k)
theorem WA.icmp_lt {x z : Int} {off : Int} {tgt : Nat} (hd : decode cc pc = .ok (.if_icmp .lt off, 3)) (ht : (pc : Int) + off = (tgt : Int)) (kt : x < z → WA f y cc nL rt d n kc ks tgt als st w R) (kf : ¬ (x < z) → WA f y cc nL rt d n kc ks (pc + 3) als st w R) : WA f y cc nL rt d n kc ks pc als (.inl z :: .inl x :: st) w R := by
  by_cases hc : x < z
  · refine WA.pure (fun h _ _ => am_tl (am_tl h)) (fun D tc ad base p l e rm s m args below meth c H locs ls cells slots Q C X ho _ _ _ _ k => ?_) (kt hc)
    · have hz : in32 z := am_hd ho
      have hx : in32 x := am_hd (am_tl ho)
      exact lv_icmp_lt C.1 C.2.1 hd ht (fun _ => k) (fun q => absurd ((i32_lt hx hz).mpr hc) q)
  · refine WA.pure (fun h _ _ => am_tl (am_tl h)) (fun D tc ad base p l e rm s m args below meth c H locs ls cells slots Q C X ho _ _ _ _ k => ?_) (kf hc)
    · have hz : in32 z := am_hd ho
      have hx : in32 x := am_hd (am_tl ho)
      exact lv_icmp_lt C.1 C.2.1 hd ht (fun q => absurd ((i32_lt hx hz).mp q) hc) (fun _ => k)
theorem WA.if_ge {x : Int} {off : Int} {tgt : Nat} (hd : decode cc pc = .ok (.ifCond .ge off, 3)) (ht : (pc : Int) + off = (tgt : Int)) (kt : 0 ≤ x → WA f y cc nL rt d n kc ks tgt als st w R) (kf : ¬ (0 ≤ x) → WA f y cc nL rt d n kc ks (pc + 3) als st w R) : WA f y cc nL rt d n kc ks pc als (.inl x :: st) w R := by
  by_cases hc : 0 ≤ x
  · refine WA.pure (fun h _ _ => am_tl h) (fun D tc ad base p l e rm s m args below meth c H locs ls cells slots Q C X ho _ _ _ _ k => ?_) (kt hc)
    · have hx : in32 x := am_hd ho
      exact lv_if_ge C.1 C.2.1 hd ht (fun _ => k) (fun q => absurd ((i32_le in32_0 hx).mpr hc) q)
  · refine WA.pure (fun h _ _ => am_tl h) (fun D tc ad base p l e rm s m args below meth c H locs ls cells slots Q C X ho _ _ _ _ k => ?_) (kf hc)
    · have hx : in32 x := am_hd ho
      exact lv_if_ge C.1 C.2.1 hd ht (fun q => absurd ((i32_le in32_0 hx).mp q) hc) (fun _ => k)
theorem WA.icmp_ge {x z : Int} {off : Int} {tgt : Nat} (hd : decode cc pc = .ok (.if_icmp .ge off, 3)) (ht : (pc : Int) + off = (tgt : Int)) (kt : z ≤ x → WA f y cc nL rt d n kc ks tgt als st w R) (kf : ¬ (z ≤ x) → WA f y cc nL rt d n kc ks (pc + 3) als st w R) : WA f y cc nL rt d n kc ks pc als (.inl z :: .inl x :: st) w R := by
  by_cases hc : z ≤ x
  · refine WA.pure (fun h _ _ => am_tl (am_tl h)) (fun D tc ad base p l e rm s m args below meth c H locs ls cells slots Q C X ho _ _ _ _ k => ?_) (kt hc)
    · have hz : in32 z := am_hd ho
      have hx : in32 x := am_hd (am_tl ho)
      exact lv_icmp_ge C.1 C.2.1 hd ht (fun _ => k) (fun q => absurd ((i32_le hz hx).mpr hc) q)
  · refine WA.pure (fun h _ _ => am_tl (am_tl h)) (fun D tc ad base p l e rm s m args below meth c H locs ls cells slots Q C X ho _ _ _ _ k => ?_) (kf hc)
    · have hz : in32 z := am_hd ho
      have hx : in32 x := am_hd (am_tl ho)
      exact lv_icmp_ge C.1 C.2.1 hd ht (fun q => absurd ((i32_le hz hx).mp q) hc) (fun _ => k)
theorem WA.if_gt {x : Int} {off : Int} {tgt : Nat} (hd : decode cc pc = .ok (.ifCond .gt off, 3)) (ht : (pc : Int) + off = (tgt : Int)) (kt : 0 < x → WA f y cc nL rt d n kc ks tgt als st w R) (kf : ¬ (0 < x) → WA f y cc nL rt d n kc ks (pc + 3) als st w R) : WA f y cc nL rt d n kc ks pc als (.inl x :: st) w R := by
  by_cases hc : 0 < x
  · refine WA.pure (fun h _ _ => am_tl h) (fun D tc ad base p l e rm s m args below meth c H locs ls cells slots Q C X ho _ _ _ _ k => ?_) (kt hc)
    · have hx : in32 x := am_hd ho
      exact lv_if_gt C.1 C.2.1 hd ht (fun _ => k) (fun q => absurd ((i32_lt in32_0 hx).mpr hc) q)
  · refine WA.pure (fun h _ _ => am_tl h) (fun D tc ad base p l e rm s m args below meth c H locs ls cells slots Q C X ho _ _ _ _ k => ?_) (kf hc)
    · have hx : in32 x := am_hd ho
      exact lv_if_gt C.1 C.2.1 hd ht (fun q => absurd ((i32_lt in32_0 hx).mp q) hc) (fun _ => k)
theorem WA.icmp_gt {x z : Int} {off : Int} {tgt : Nat} (hd : decode cc pc = .ok (.if_icmp .gt off, 3)) (ht : (pc : Int) + off = (tgt : Int)) (kt : z < x → WA f y cc nL rt d n kc ks tgt als st w R) (kf : ¬ (z < x) → WA f y cc nL rt d n kc ks (pc + 3) als st w R) : WA f y cc nL rt d n kc ks pc als (.inl z :: .inl x :: st) w R := by
  by_cases hc : z < x
  · refine WA.pure (fun h _ _ => am_tl (am_tl h)) (fun D tc ad base p l e rm s m args below meth c H locs ls cells slots Q C X ho _ _ _ _ k => ?_) (kt hc)
    · have hz : in32 z := am_hd ho
      have hx : in32 x := am_hd (am_tl ho)
      exact lv_icmp_gt C.1 C.2.1 hd ht (fun _ => k) (fun q => absurd ((i32_lt hz hx).mpr hc) q)
  · refine WA.pure (fun h _ _ => am_tl (am_tl h)) (fun D tc ad base p l e rm s m args below meth c H locs ls cells slots Q C X ho _ _ _ _ k => ?_) (kf hc)
    · have hz : in32 z := am_hd ho
      have hx : in32 x := am_hd (am_tl ho)
      exact lv_icmp_gt C.1 C.2.1 hd ht (fun q => absurd ((i32_lt hz hx).mp q) hc) (fun _ => k)
theorem WA.if_le {x : Int} {off : Int} {tgt : Nat} (hd : decode cc pc = .ok (.ifCond .le off, 3)) (ht : (pc : Int) + off = (tgt : Int)) (kt : x ≤ 0 → WA f y cc nL rt d n kc ks tgt als st w R) (kf : ¬ (x ≤ 0) → WA f y cc nL rt d n kc ks (pc + 3) als st w R) : WA f y cc nL rt d n kc ks pc als (.inl x :: st) w R := by
  by_cases hc : x ≤ 0
  · refine WA.pure (fun h _ _ => am_tl h) (fun D tc ad base p l e rm s m args below meth c H locs ls cells slots Q C X ho _ _ _ _ k => ?_) (kt hc)
    · have hx : in32 x := am_hd ho
      exact lv_if_le C.1 C.2.1 hd ht (fun _ => k) (fun q => absurd ((i32_le hx in32_0).mpr hc) q)
  · refine WA.pure (fun h _ _ => am_tl h) (fun D tc ad base p l e rm s m args below meth c H locs ls cells slots Q C X ho _ _ _ _ k => ?_) (kf hc)
    · have hx : in32 x := am_hd ho
      exact lv_if_le C.1 C.2.1 hd ht (fun q => absurd ((i32_le hx in32_0).mp q) hc) (fun _ => k)
theorem WA.icmp_le {x z : Int} {off : Int} {tgt : Nat} (hd : decode cc pc = .ok (.if_icmp .le off, 3)) (ht : (pc : Int) + off = (tgt : Int)) (kt : x ≤ z → WA f y cc nL rt d n kc ks tgt als st w R) (kf : ¬ (x ≤ z) → WA f y cc nL rt d n kc ks (pc + 3) als st w R) : WA f y cc nL rt d n kc ks pc als (.inl z :: .inl x :: st) w R := by
  by_cases hc : x ≤ z
  · refine WA.pure (fun h _ _ => am_tl (am_tl h)) (fun D tc ad base p l e rm s m args below meth c H locs ls cells slots Q C X ho _ _ _ _ k => ?_) (kt hc)
    · have hz : in32 z := am_hd ho
      have hx : in32 x := am_hd (am_tl ho)
      exact lv_icmp_le C.1 C.2.1 hd ht (fun _ => k) (fun q => absurd ((i32_le hx hz).mpr hc) q)
  · refine WA.pure (fun h _ _ => am_tl (am_tl h)) (fun D tc ad base p l e rm s m args below meth c H locs ls cells slots Q C X ho _ _ _ _ k => ?_) (kf hc)
    · have hz : in32 z := am_hd ho
      have hx : in32 x := am_hd (am_tl ho)
      exact lv_icmp_le C.1 C.2.1 hd ht (fun q => absurd ((i32_le hx hz).mp q) hc) (fun _ => k)
theorem WA.goto {off : Int} {tgt : Nat} (hd : decode cc pc = .ok (.goto off, 3)) (ht : (pc : Int) + off = (tgt : Int)) (k : WA f y cc nL rt d n kc ks tgt als st w R) : WA f y cc nL rt d n kc ks pc als st w R :=
  WA.pure (fun h _ _ => h) (fun _ _ _ _ _ _ _ _ _ _ _ _ _ _ _ _ _ _ _ _ C X ho _ _ _ _ k => lv_goto C.1 C.2.1 hd ht k) k
theorem WA.tableIn {x dflt lo hi off : Int} {offs : Array Int} {len tgt : Nat} (hd : decode cc pc = .ok (.tableswitch dflt lo hi offs, len)) (h1 : lo ≤ x) (h2 : x ≤ hi) (ho_ : offs[(x - lo).toNat]? = some off) (ht : (pc : Int) + off = (tgt : Int)) (k : WA f y cc nL rt d n kc ks tgt als st w R) : WA f y cc nL rt d n kc ks pc als (.inl x :: st) w R :=
  WA.pure (fun h _ _ => am_tl h) (fun _ _ _ _ _ _ _ _ _ _ _ _ _ _ _ _ _ _ _ _ C X ho _ _ _ _ k => lv_tableIn C.1 C.2.1 hd (by rw [i32_toInt (am_hd ho)]; omega) (by rw [i32_toInt (am_hd ho)]; omega) (by rw [i32_toInt (am_hd ho)]; exact ho_) ht k) k
theorem WA.tableOut {x dflt lo hi : Int} {offs : Array Int} {len tgt : Nat} (hd : decode cc pc = .ok (.tableswitch dflt lo hi offs, len)) (h1 : x < lo ∨ hi < x) (ht : (pc : Int) + dflt = (tgt : Int)) (k : WA f y cc nL rt d n kc ks tgt als st w R) : WA f y cc nL rt d n kc ks pc als (.inl x :: st) w R :=
  WA.pure (fun h _ _ => am_tl h) (fun _ _ _ _ _ _ _ _ _ _ _ _ _ _ _ _ _ _ _ _ C X ho _ _ _ _ k => lv_tableOut C.1 C.2.1 hd (by rw [i32_toInt (am_hd ho)]; exact h1) ht k) k
theorem WA.lookup {x dflt off : Int} {ps : Array (Int × Int)} {len tgt : Nat} (hd : decode cc pc = .ok (.lookupswitch dflt ps, len)) (hp : (ps.toList.zip (ps.toList.drop 1)).all (fun (a, next) => a.1 < next.1) = true) (ho_ : Op.lookupswitch.offset ps.toList dflt x = off) (ht : (pc : Int) + off = (tgt : Int)) (k : WA f y cc nL rt d n kc ks tgt als st w R) : WA f y cc nL rt d n kc ks pc als (.inl x :: st) w R :=
  WA.pure (fun h _ _ => am_tl h) (fun _ _ _ _ _ _ _ _ _ _ _ _ _ _ _ _ _ _ _ _ C X ho _ _ _ _ k => lv_lookup C.1 C.2.1 hd hp (by rw [i32_toInt (am_hd ho)]; exact ho_) ht k) k
def am_cmp (x z : Int) : Int := if z < x then 1 else if x = z then 0 else -1
theorem am_cmp_in (x z : Int) : in32 (am_cmp x z) := by
  unfold am_cmp
  split
  · exact ⟨by decide, by decide⟩
  · split <;> exact ⟨by decide, by decide⟩
theorem am_cmp_lg {x z : Int} (hx : in64 x) (hz : in64 z) : lg_cmp (Int64.ofInt x) (Int64.ofInt z) = Int32.ofInt (am_cmp x z) := by
  unfold lg_cmp am_cmp
  by_cases h1 : z < x
  · rw [if_pos ((i64_lt hz hx).mpr h1), if_pos h1]; rfl
  · rw [if_neg (fun q => h1 ((i64_lt hz hx).mp q)), if_neg h1]
    by_cases h2 : x = z
    · rw [if_pos ((i64_eq hx hz).mpr h2), if_pos h2]; rfl
    · rw [if_neg (fun q => h2 ((i64_eq hx hz).mp q)), if_neg h2]; rfl
theorem WA.lcmp {x z : Int} (hd : decode cc pc = .ok (.lcmp, 1)) (k : WA f y cc nL rt d n kc ks (pc + 1) als (.inl (am_cmp x z) :: st) w R) : WA f y cc nL rt d n kc ks pc als (.inr (.inl z) :: .inr (.inl x) :: st) w R :=
  WA.pure (fun h _ _ => am_ok1 (am_i (am_cmp_in x z)) (am_tl (am_tl h))) (fun _ _ _ _ _ _ _ _ _ _ _ _ _ _ _ _ _ _ _ _ C X ho _ _ _ _ k => W.lcmp C.1 C.2.1 hd (by rw [am_cmp_lg (am_hd (am_tl ho)) (am_hd ho)]; exact k)) k
theorem am_cmp_eq (x z : Int) : (am_cmp x z = 0) ↔ (x = z) := by
  unfold am_cmp
  split
  · omega
  · split <;> omega
theorem WA.lcmp_eq {x z off : Int} {tgt : Nat} (hd0 : decode cc pc = .ok (.lcmp, 1)) (hd : decode cc (pc + 1) = .ok (.ifCond .eq off, 3)) (ht : ((pc + 1 : Nat) : Int) + off = (tgt : Int)) (kt : x = z → WA f y cc nL rt d n kc ks tgt als st w R) (kf : ¬ (x = z) → WA f y cc nL rt d n kc ks (pc + 1 + 3) als st w R) : WA f y cc nL rt d n kc ks pc als (.inr (.inl z) :: .inr (.inl x) :: st) w R :=
  WA.lcmp hd0 (WA.if_eq hd ht (fun h => kt ((am_cmp_eq x z).mp h)) (fun h => kf (fun q => h ((am_cmp_eq x z).mpr q))))
theorem am_cmp_ne (x z : Int) : (¬ am_cmp x z = 0) ↔ (¬ x = z) := by
  unfold am_cmp
  split
  · omega
  · split <;> omega
theorem WA.lcmp_ne {x z off : Int} {tgt : Nat} (hd0 : decode cc pc = .ok (.lcmp, 1)) (hd : decode cc (pc + 1) = .ok (.ifCond .ne off, 3)) (ht : ((pc + 1 : Nat) : Int) + off = (tgt : Int)) (kt : ¬ x = z → WA f y cc nL rt d n kc ks tgt als st w R) (kf : x = z → WA f y cc nL rt d n kc ks (pc + 1 + 3) als st w R) : WA f y cc nL rt d n kc ks pc als (.inr (.inl z) :: .inr (.inl x) :: st) w R :=
  WA.lcmp hd0 (WA.if_ne hd ht (fun h => kt ((am_cmp_ne x z).mp h)) (fun h => kf ((am_cmp_eq x z).mp h)))
theorem am_cmp_lt (x z : Int) : (am_cmp x z < 0) ↔ (x < z) := by
  unfold am_cmp
  split
  · omega
  · split <;> omega
theorem WA.lcmp_lt {x z off : Int} {tgt : Nat} (hd0 : decode cc pc = .ok (.lcmp, 1)) (hd : decode cc (pc + 1) = .ok (.ifCond .lt off, 3)) (ht : ((pc + 1 : Nat) : Int) + off = (tgt : Int)) (kt : x < z → WA f y cc nL rt d n kc ks tgt als st w R) (kf : ¬ (x < z) → WA f y cc nL rt d n kc ks (pc + 1 + 3) als st w R) : WA f y cc nL rt d n kc ks pc als (.inr (.inl z) :: .inr (.inl x) :: st) w R :=
  WA.lcmp hd0 (WA.if_lt hd ht (fun h => kt ((am_cmp_lt x z).mp h)) (fun h => kf (fun q => h ((am_cmp_lt x z).mpr q))))
theorem am_cmp_ge (x z : Int) : (0 ≤ am_cmp x z) ↔ (z ≤ x) := by
  unfold am_cmp
  split
  · omega
  · split <;> omega
theorem WA.lcmp_ge {x z off : Int} {tgt : Nat} (hd0 : decode cc pc = .ok (.lcmp, 1)) (hd : decode cc (pc + 1) = .ok (.ifCond .ge off, 3)) (ht : ((pc + 1 : Nat) : Int) + off = (tgt : Int)) (kt : z ≤ x → WA f y cc nL rt d n kc ks tgt als st w R) (kf : ¬ (z ≤ x) → WA f y cc nL rt d n kc ks (pc + 1 + 3) als st w R) : WA f y cc nL rt d n kc ks pc als (.inr (.inl z) :: .inr (.inl x) :: st) w R :=
  WA.lcmp hd0 (WA.if_ge hd ht (fun h => kt ((am_cmp_ge x z).mp h)) (fun h => kf (fun q => h ((am_cmp_ge x z).mpr q))))
theorem am_cmp_gt (x z : Int) : (0 < am_cmp x z) ↔ (z < x) := by
  unfold am_cmp
  split
  · omega
  · split <;> omega
theorem WA.lcmp_gt {x z off : Int} {tgt : Nat} (hd0 : decode cc pc = .ok (.lcmp, 1)) (hd : decode cc (pc + 1) = .ok (.ifCond .gt off, 3)) (ht : ((pc + 1 : Nat) : Int) + off = (tgt : Int)) (kt : z < x → WA f y cc nL rt d n kc ks tgt als st w R) (kf : ¬ (z < x) → WA f y cc nL rt d n kc ks (pc + 1 + 3) als st w R) : WA f y cc nL rt d n kc ks pc als (.inr (.inl z) :: .inr (.inl x) :: st) w R :=
  WA.lcmp hd0 (WA.if_gt hd ht (fun h => kt ((am_cmp_gt x z).mp h)) (fun h => kf (fun q => h ((am_cmp_gt x z).mpr q))))
theorem am_cmp_le (x z : Int) : (am_cmp x z ≤ 0) ↔ (x ≤ z) := by
  unfold am_cmp
  split
  · omega
  · split <;> omega
theorem WA.lcmp_le {x z off : Int} {tgt : Nat} (hd0 : decode cc pc = .ok (.lcmp, 1)) (hd : decode cc (pc + 1) = .ok (.ifCond .le off, 3)) (ht : ((pc + 1 : Nat) : Int) + off = (tgt : Int)) (kt : x ≤ z → WA f y cc nL rt d n kc ks tgt als st w R) (kf : ¬ (x ≤ z) → WA f y cc nL rt d n kc ks (pc + 1 + 3) als st w R) : WA f y cc nL rt d n kc ks pc als (.inr (.inl z) :: .inr (.inl x) :: st) w R :=
  WA.lcmp hd0 (WA.if_le hd ht (fun h => kt ((am_cmp_le x z).mp h)) (fun h => kf (fun q => h ((am_cmp_le x z).mpr q))))
theorem WA.ireturn {x : Int} (hd : decode cc pc = .ok (.ireturn, 1)) (k : R (some (.inl x)) w) : WA f y cc nL (some .int) d n 0 0 pc als [.inl x] w R := by
  intro D tc ad base p l e rm s m args below meth c H locs ls cells slots MC MS C X h3 h4 h5 h6 h7 h8
  obtain ⟨hx, hb, hml, hr, hlk, -⟩ := id C
  obtain ⟨x1, x2, x3, x4, x5, x6, x7, x8, x9, x10, x11, x12⟩ := id X
  simp only [Nat.add_zero] at h3 h4
  subst h3; subst h4
  refine am_size X (fun hsz => ?_)
  exact W.iret (v := Int32.ofInt x) hx hb hr (fun t ht hW => ⟨⟨some (.inl x), w, rfl, k, x10, fun v hv => by cases hv; exact am_hd x12, by rw [ht]; exact hsz, by rw [ht]; exact x6⟩, x7.F ht⟩) x7.2.2 hd hlk
theorem WA.zreturn {x : Int} (hd : decode cc pc = .ok (.ireturn, 1)) (hz : x = 0 ∨ x = 1) (k : R (some (.inl x)) w) : WA f y cc nL (some .boolean) d n 0 0 pc als [.inl x] w R := by
  intro D tc ad base p l e rm s m args below meth c H locs ls cells slots MC MS C X h3 h4 h5 h6 h7 h8
  obtain ⟨hx, hb, hml, hr, hlk, -⟩ := id C
  obtain ⟨x1, x2, x3, x4, x5, x6, x7, x8, x9, x10, x11, x12⟩ := id X
  simp only [Nat.add_zero] at h3 h4
  subst h3; subst h4
  refine am_size X (fun hsz => ?_)
  refine W.zret (v := Int32.ofInt x) hx hb hr (by rcases hz with rfl | rfl <;> rfl) (fun t ht hW => ⟨⟨some (.inl x), w, rfl, k, x10, fun v hv => by cases hv; exact am_hd x12, by rw [ht]; exact hsz, by rw [ht]; exact x6⟩, x7.F ht⟩) x7.2.2 hd hlk
theorem WA.lreturn {x : Int} (hd : decode cc pc = .ok (.lreturn, 1)) (k : R (some (.inr (.inl x))) w) : WA f y cc nL (some .long) d n 0 0 pc als [.inr (.inl x)] w R := by
  intro D tc ad base p l e rm s m args below meth c H locs ls cells slots MC MS C X h3 h4 h5 h6 h7 h8
  obtain ⟨hx, hb, hml, hr, hlk, -⟩ := id C
  obtain ⟨x1, x2, x3, x4, x5, x6, x7, x8, x9, x10, x11, x12⟩ := id X
  simp only [Nat.add_zero] at h3 h4
  subst h3; subst h4
  refine am_size X (fun hsz => ?_)
  exact W.lret (v := Int64.ofInt x) hx hb hr (fun t ht hW => ⟨⟨some (.inr (.inl x)), w, rfl, k, x10, fun v hv => by cases hv; exact am_hd x12, by rw [ht]; exact hsz, by rw [ht]; exact x6⟩, x7.F ht⟩) x7.2.2 hd hlk
theorem WA.areturn {x : Int} {rtt : FieldType} (hd : decode cc pc = .ok (.areturn, 1)) (hrt : (∃ n, rtt = .object n) ∨ ∃ t, rtt = .array t) (k : R (some (.inr (.inr x))) w) : WA f y cc nL (some rtt) d n 0 0 pc als [.inr (.inr x)] w R := by
  intro D tc ad base p l e rm s m args below meth c H locs ls cells slots MC MS C X h3 h4 h5 h6 h7 h8
  obtain ⟨hx, hb, hml, hr, hlk, -⟩ := id C
  obtain ⟨x1, x2, x3, x4, x5, x6, x7, x8, x9, x10, x11, x12⟩ := id X
  simp only [Nat.add_zero] at h3 h4
  subst h3; subst h4
  refine am_size X (fun hsz => ?_)
  refine W.aret (v := am_rf ad x) hx hb hr hrt (by unfold am_rf; split; exact Or.inl rfl; exact Or.inr ⟨_, rfl⟩) (fun t ht hW => ⟨⟨some (.inr (.inr x)), w, rfl, k, x10, fun v hv => by cases hv; exact am_hd x12, by rw [ht]; exact hsz, by rw [ht]; exact x6⟩, x7.F ht⟩) x7.2.2 hd hlk
theorem WA.vreturn  (hd : decode cc pc = .ok (.return_, 1)) (k : R none w) : WA f y cc nL none d n 0 0 pc als [] w R := by
  intro D tc ad base p l e rm s m args below meth c H locs ls cells slots MC MS C X h3 h4 h5 h6 h7 h8
  obtain ⟨hx, hb, hml, hr, hlk, -⟩ := id C
  obtain ⟨x1, x2, x3, x4, x5, x6, x7, x8, x9, x10, x11, x12⟩ := id X
  simp only [Nat.add_zero] at h3 h4
  subst h3; subst h4
  refine am_size X (fun hsz => ?_)
  exact W.vret hx hb hr (fun t ht hW => ⟨⟨none, w, rfl, k, x10, fun v hv => (by cases hv), by rw [ht]; exact hsz, by rw [ht]; exact x6⟩, x7.F ht⟩) x7.2.2 hd hlk
end AMR2
