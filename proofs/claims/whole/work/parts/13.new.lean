/-! ===== rules: Math, copies, new cells, narrow returns ===== -/
section AMR7
variable {f : Bool} {y : MethodName} {cc : ByteArray} {nL : Nat} {rt : Option FieldType} {d n kc ks pc : Nat} {als : List (Option AV)} {st : List AV} {w : Wd} {R : Option AV → Wd → Prop}
theorem am_max_in {x z : Int} (hx : in32 x) (hz : in32 z) : in32 (max x z) := by
  obtain ⟨a, b⟩ := hx
  obtain ⟨c, e⟩ := hz
  exact ⟨by omega, by omega⟩
theorem am_maxl_in {x z : Int} (hx : in64 x) (hz : in64 z) : in64 (max x z) ∧ in64 (min x z) := by
  obtain ⟨a, b⟩ := hx
  obtain ⟨c, e⟩ := hz
  exact ⟨⟨by omega, by omega⟩, ⟨by omega, by omega⟩⟩
theorem WA.mathmax {i : Nat} {x z : Int} (hd : decode cc pc = .ok (.invokestatic i, 3)) (h1 : Cond.methodLink y.cls i Lib.Math.max.name ∈ am_G) (h2 : Cond.static Lib.Math.max.name ∈ am_G) (h3 : Cond.initialized "java/lang/Math" ∈ am_G) (h4 : Cond.code Lib.Math.max.name Lib.Math.max.code 2 (some .int) ∈ am_G) (hdd : 1 ≤ d) (hst : (st.map am_cat).sum ≤ 8)
    (k : WA f y cc nL rt d n kc ks (pc + 3) als (.inl (max x z) :: st) w R) : WA f y cc nL rt d n kc ks pc als (.inl z :: .inl x :: st) w R :=
  WA.pure (fun h _ _ => am_ok1 (am_i (am_max_in (am_hd (am_tl h)) (am_hd h))) (am_tl (am_tl h))) (fun D tc ad base p l e rm s m args below meth c H locs ls cells slots Q C X ho hc hs hf hl k => by
    have hts := C.2.2.2.2.2.1
    refine va_mmax C.1 C.2.1 (by rw [C.2.2.1, X.2.2.2.2.2.2.2.1.1]) C.2.2.2.2.2.2.1 (hts _ h1) (hts _ h2) (hts _ h3) (hts _ h4) (by omega) (by have := am_cats ad st; omega) hc hs hd ?_
    rw [show (if Int32.ofInt x < Int32.ofInt z then Int32.ofInt z else Int32.ofInt x) = Int32.ofInt (max x z) by
      by_cases h : x < z
      · rw [if_pos ((i32_lt (am_hd (am_tl ho)) (am_hd ho)).mpr h), show max x z = z by omega]
      · rw [if_neg (fun q => h ((i32_lt (am_hd (am_tl ho)) (am_hd ho)).mp q)), show max x z = x by omega]]
    exact k) k
theorem WA.maxl {i : Nat} {x z : Int} (hd : decode cc pc = .ok (.invokestatic i, 3)) (h1 : Cond.methodLink y.cls i Lib.MathLoose.max_long.x ∈ am_G) (h2 : Cond.static Lib.MathLoose.max_long.x ∈ am_G) (h3 : Cond.initialized "java/lang/Math" ∈ am_G) (h4 : Cond.code Lib.MathLoose.max_long.x Lib.MathLoose.max_long.code 4 (some .long) ∈ am_G) (hdd : 1 ≤ d) (hst : (st.map am_cat).sum ≤ 8)
    (k : WA f y cc nL rt d n kc ks (pc + 3) als (.inr (.inl (max x z)) :: st) w R) : WA f y cc nL rt d n kc ks pc als (.inr (.inl z) :: .inr (.inl x) :: st) w R :=
  WA.pure (fun h _ _ => am_ok1 (am_j (am_maxl_in (am_hd (am_tl h)) (am_hd h)).1) (am_tl (am_tl h))) (fun D tc ad base p l e rm s m args below meth c H locs ls cells slots Q C X ho hc hs hf hl k => by
    have hts := C.2.2.2.2.2.1
    refine va_mmax_long C.1 C.2.1 (by rw [C.2.2.1, X.2.2.2.2.2.2.2.1.1]) C.2.2.2.2.2.2.1 (hts _ h1) (hts _ h2) (hts _ h3) (hts _ h4) (by omega) (by have := am_cats ad st; omega) hc hs hd ?_
    rw [show (if Int64.ofInt z < Int64.ofInt x then Int64.ofInt x else Int64.ofInt z) = Int64.ofInt (max x z) by
      by_cases h : z < x
      · rw [if_pos ((i64_lt (am_hd ho) (am_hd (am_tl ho))).mpr h), show max x z = x by omega]
      · rw [if_neg (fun q => h ((i64_lt (am_hd ho) (am_hd (am_tl ho))).mp q)), show max x z = z by omega]]
    exact k) k
theorem WA.minl {i : Nat} {x z : Int} (hd : decode cc pc = .ok (.invokestatic i, 3)) (h1 : Cond.methodLink y.cls i Lib.MathLoose.min_long.x ∈ am_G) (h2 : Cond.static Lib.MathLoose.min_long.x ∈ am_G) (h3 : Cond.initialized "java/lang/Math" ∈ am_G) (h4 : Cond.code Lib.MathLoose.min_long.x Lib.MathLoose.min_long.code 4 (some .long) ∈ am_G) (hdd : 1 ≤ d) (hst : (st.map am_cat).sum ≤ 8)
    (k : WA f y cc nL rt d n kc ks (pc + 3) als (.inr (.inl (min x z)) :: st) w R) : WA f y cc nL rt d n kc ks pc als (.inr (.inl z) :: .inr (.inl x) :: st) w R :=
  WA.pure (fun h _ _ => am_ok1 (am_j (am_maxl_in (am_hd (am_tl h)) (am_hd h)).2) (am_tl (am_tl h))) (fun D tc ad base p l e rm s m args below meth c H locs ls cells slots Q C X ho hc hs hf hl k => by
    have hts := C.2.2.2.2.2.1
    refine va_mmin_long C.1 C.2.1 (by rw [C.2.2.1, X.2.2.2.2.2.2.2.1.1]) C.2.2.2.2.2.2.1 (hts _ h1) (hts _ h2) (hts _ h3) (hts _ h4) (by omega) (by have := am_cats ad st; omega) hc hs hd ?_
    rw [show (if Int64.ofInt z < Int64.ofInt x then Int64.ofInt z else Int64.ofInt x) = Int64.ofInt (min x z) by
      by_cases h : z < x
      · rw [if_pos ((i64_lt (am_hd ho) (am_hd (am_tl ho))).mpr h), show min x z = z by omega]
      · rw [if_neg (fun q => h ((i64_lt (am_hd ho) (am_hd (am_tl ho))).mp q)), show min x z = x by omega]]
    exact k) k
def am_abs (x : Int) : Int := if 0 ≤ x then x else -x
theorem WA.mathabs {i : Nat} {x : Int} (hd : decode cc pc = .ok (.invokestatic i, 3)) (h1 : Cond.methodLink y.cls i Lib.Math.abs.name ∈ am_G) (h2 : Cond.static Lib.Math.abs.name ∈ am_G) (h3 : Cond.initialized "java/lang/Math" ∈ am_G) (h4 : Cond.code Lib.Math.abs.name Lib.Math.abs.code 1 (some .int) ∈ am_G) (hdd : 1 ≤ d) (hst : (st.map am_cat).sum ≤ 8) (hx : -2147483648 < x)
    (k : WA f y cc nL rt d n kc ks (pc + 3) als (.inl (am_abs x) :: st) w R) : WA f y cc nL rt d n kc ks pc als (.inl x :: st) w R :=
  WA.pure (fun h _ _ => am_ok1 (am_i (by obtain ⟨a, b⟩ := (am_hd h : in32 x); unfold am_abs; split <;> exact ⟨by omega, by omega⟩)) (am_tl h)) (fun D tc ad base p l e rm s m args below meth c H locs ls cells slots Q C X ho hc hs hf hl k => by
    have hts := C.2.2.2.2.2.1
    refine va_mabs C.1 C.2.1 (by rw [C.2.2.1, X.2.2.2.2.2.2.2.1.1]) C.2.2.2.2.2.2.1 (hts _ h1) (hts _ h2) (hts _ h3) (hts _ h4) (by omega) (by have := am_cats ad st; omega) hc hs hd ?_
    rw [show (if 0 ≤ Int32.ofInt x then Int32.ofInt x else 0 - Int32.ofInt x) = Int32.ofInt (am_abs x) by
      unfold am_abs
      by_cases h : 0 ≤ x
      · rw [if_pos (show (0 : Int32) ≤ Int32.ofInt x from (i32_le in32_0 (am_hd ho)).mpr h), if_pos h]
      · rw [if_neg (show ¬ (0 : Int32) ≤ Int32.ofInt x from fun q => h ((i32_le in32_0 (am_hd ho)).mp q)), if_neg h, Int32.ofInt_neg, Int32.zero_sub]]
    exact k) k
/-- System.arraycopy over int arrays -/
def wcopy (w : Wd) (a sp b dp k : Int) : Wd := fun c i => if c = b ∧ dp ≤ i ∧ i < dp + k then w a (sp + (i - dp)) else w c i
theorem am_okw_copy {a sp b dp k : Int} {N0 N1 : Nat} (h : am_okw f w) (ha : am_lay a = (0, N0)) (hb : am_lay b = (0, N1)) : am_okw f (wcopy w a sp b dp k) := by
  refine ⟨fun c j => ?_, fun hft c ci z x h1 h2 => ?_⟩
  · by_cases e : c = b ∧ dp ≤ j ∧ j < dp + k
    · have e1 : wcopy w a sp b dp k c j = w a (sp + (j - dp)) := if_pos e
      rw [e1]
      refine ⟨fun q => ?_, fun _ => (h.1 _ _).2 (fun q => by have := (am_isL_arr ha (by decide)).mp q; omega)⟩
      rw [e.1] at q
      have := (am_isL_arr hb (by decide)).mp q
      omega
    · have e1 : wcopy w a sp b dp k c j = w c j := if_neg e
      rw [e1]
      exact h.1 c j
  · have e1 : wcopy w a sp b dp k c z = w c z := if_neg (fun e => by rw [e.1, hb] at h1; dsimp only at h1; omega)
    rw [e1]
    exact h.2 hft c ci z x h1 h2
theorem WA.arraycopy {i : Nat} {a sp b dp k : Int} {N0 N1 : Nat} (hd : decode cc pc = .ok (.invokestatic i, 3)) (h1 : Cond.methodLink y.cls i arraycopyName ∈ am_G) (h2 : Cond.native arraycopyName ∈ am_G) (h3 : Cond.static arraycopyName ∈ am_G) (h4 : Cond.initialized "java/lang/System" ∈ am_G) (hdd : 2 ≤ d) (hst : (st.map am_cat).sum ≤ 8)
    (ha : am_arr n a 0 N0) (hb : am_arr n b 0 N1) (q1 : 0 ≤ sp) (q2 : 0 ≤ dp) (q3 : 0 ≤ k) (q4 : sp + k ≤ N0) (q5 : dp + k ≤ N1)
    (kk : WA f y cc nL rt d n kc ks (pc + 3) als st (wcopy w a sp b dp k) R) : WA f y cc nL rt d n kc ks pc als (.inl k :: .inl dp :: .inr (.inr b) :: .inl sp :: .inr (.inr a) :: st) w R := by
  refine WA.heap (w' := wcopy w a sp b dp k) (b := b) hb.1.1 (fun c' h => by funext j; exact if_neg (fun q => h q.1)) (fun h hw _ => ⟨am_okw_copy hw ha.2 hb.2, am_tl (am_tl (am_tl (am_tl (am_tl h))))⟩) (fun D tc ad base p l e rm s m args below meth c H locs ls cells slots Q C X hD ho hc hs hf hl kk => ?_) kk
  have hts := C.2.2.2.2.2.1
  obtain ⟨x1, x2, x3, x4, x5, x6, x7, x8, x9, x10, x11, x12⟩ := X
  have hea := am_wl_at (tc := tc) (ad := ad) (n := n) (w := w) ha.1.1 ha.1.2
  have heb := am_wl_at (tc := tc) (ad := ad) (n := n) (w := w) hb.1.1 hb.1.2
  rw [am_ent_i ha.2] at hea
  rw [am_ent_i hb.2] at heb
  have o1 : in32 k := am_hd ho
  have o2 : in32 dp := am_hd (am_tl ho)
  have o3 : in32 sp := am_hd (am_tl (am_tl (am_tl ho)))
  have hnf : nativeFrameWords "java/lang/System" "arraycopy" 5 ≤ 60 := by decide
  show W p l e rm s m args below meth c H locs cells slots Q (F0 m pc ls (.int (Int32.ofInt k) :: .int (Int32.ofInt dp) :: am_rf ad b :: .int (Int32.ofInt sp) :: am_rf ad a :: st.map (am_cv ad)))
  rw [am_rf1 (am_arr0 ha), am_rf1 (am_arr0 hb)]
  refine va_copyi C.1 C.2.1 (by rw [C.2.2.1, x8.1]) C.2.2.2.2.2.2.1 (hts _ h1) (hts _ h2) (hts _ h3) (hts _ h4) x2 x6 hD x7 _ _ 0 0 hea heb rfl rfl rfl
    (fun q => absurd ((i32_lt o3 in32_0).mp q) (by omega)) (fun q => absurd ((i32_lt o2 in32_0).mp q) (by omega)) (fun q => absurd ((i32_lt o1 in32_0).mp q) (by omega))
    (by rw [i32_nat o3 q1, i32_nat o1 q3]; omega) (by rw [i32_nat o2 q2, i32_nat o1 q3]; omega) (fun _ _ => rfl) (by omega) (by have := am_cats ad st; omega) hd (fun H1 locs1 hP1 _ hS1 => kk H1 locs1 ?_ hS1)
  rw [i32_nat o3 q1, i32_nat o2 q2, i32_nat o1 q3] at hP1
  rw [am_ent_i hb.2]
  have e : va_cpy (fun j : Nat => Int32.ofInt (w a j)) (fun j : Nat => Int32.ofInt (w b j)) sp.toNat dp.toNat k.toNat = (fun j : Nat => Int32.ofInt (wcopy w a sp b dp k b j)) := by
    funext j
    unfold va_cpy
    by_cases hj : dp.toNat ≤ j ∧ j < dp.toNat + k.toNat
    · have e1 : wcopy w a sp b dp k b j = w a (sp + ((j : Int) - dp)) := if_pos ⟨rfl, by omega, by omega⟩
      rw [if_pos hj, e1]
      have e2 : ((sp.toNat + (j - dp.toNat) : Nat) : Int) = sp + ((j : Int) - dp) := by omega
      dsimp only
      rw [e2]
    · have e1 : wcopy w a sp b dp k b j = w b j := if_neg (fun q => hj (by omega))
      rw [if_neg hj, e1]
  rw [← e]
  exact hP1
theorem WA.nreturn {x : Int} {ty : FieldType} (hd : decode cc pc = .ok (.ireturn, 1)) (hn : narrow ty (.int (Int32.ofInt x)) = .int (Int32.ofInt x)) (k : R (some (.inl x)) w) : WA f y cc nL (some ty) d n 0 0 pc als [.inl x] w R := by
  intro D tc ad base p l e rm s m args below meth c H locs ls cells slots MC MS C X h3 h4 h5 h6 h7 h8
  obtain ⟨hx, hb, hml, hr, hlk, -⟩ := id C
  obtain ⟨x1, x2, x3, x4, x5, x6, x7, x8, x9, x10, x11, x12⟩ := id X
  simp only [Nat.add_zero] at h3 h4
  subst h3; subst h4
  refine am_size X (fun hsz => ?_)
  refine W.zret (v := Int32.ofInt x) hx hb hr hn (fun t ht hW => ⟨⟨some (.inl x), w, rfl, k, x10, fun v hv => by cases hv; exact am_hd x12, by rw [ht]; exact hsz, by rw [ht]; exact x6⟩, x7.F ht⟩) x7.2.2 hd hlk
theorem WA.i2c {x : Int} (hd : decode cc pc = .ok (.i2c, 1)) (h0 : 0 ≤ x) (h1 : x < 65536) (k : WA f y cc nL rt d n kc ks (pc + 1) als (.inl x :: st) w R) : WA f y cc nL rt d n kc ks pc als (.inl x :: st) w R :=
  WA.pure (fun h _ _ => h) (fun D tc ad base p l e rm s m args below meth c H locs ls cells slots Q C X ho _ _ _ _ k => lv_i2c C.1 C.2.1 hd (by
    obtain ⟨z, rfl⟩ := Int.eq_ofNat_of_zero_le h0
    have hz : z < 65536 := by omega
    apply Int32.toBitVec_inj.mp
    apply BitVec.eq_of_toNat_eq
    simp [Int32.toBitVec_ofInt]
    omega) k) k
theorem WA.lxor {x z : Int} (hd : decode cc pc = .ok (.lxor, 1)) (k : ∀ v, in64 v → (v < 0 ↔ ¬ (x < 0 ↔ z < 0)) → WA f y cc nL rt d n kc ks (pc + 1) als (.inr (.inl v) :: st) w R) : WA f y cc nL rt d n kc ks pc als (.inr (.inl z) :: .inr (.inl x) :: st) w R := by
  by_cases hxz : in64 x ∧ in64 z
  · obtain ⟨hx, hz⟩ := hxz
    have hv : in64 (Int64.ofInt x ^^^ Int64.ofInt z).toInt := ⟨Int64.minValue_le_toInt _, Int64.toInt_le _⟩
    refine WA.pure (fun h _ _ => am_ok1 (am_j hv) (am_tl (am_tl h))) (fun D tc ad base p l e rm s m args below meth c H locs ls cells slots Q C X ho _ _ _ _ k => lv_lxor C.1 C.2.1 hd (by simpa [am_cv] using k)) (k _ hv ?_)
    have hs : ∀ u : Int64, u.toInt < 0 ↔ u.toBitVec.msb = true := fun u => by
      rw [← Int64.toInt_toBitVec, BitVec.msb_eq_toInt]
      simp
    have e1 := hs (Int64.ofInt x)
    have e2 := hs (Int64.ofInt z)
    rw [i64_toInt hx] at e1
    rw [i64_toInt hz] at e2
    rw [hs, e1, e2, Int64.toBitVec_xor, BitVec.msb_xor]
    cases (Int64.ofInt x).toBitVec.msb <;> cases (Int64.ofInt z).toBitVec.msb <;> simp
  · intro D tc ad base p l e rm s m args below meth c H locs ls cells slots MC MS C X
    exact absurd ⟨am_hd (am_tl X.2.2.2.2.2.2.2.2.2.2.2), am_hd X.2.2.2.2.2.2.2.2.2.2.2⟩ hxz
end AMR7
