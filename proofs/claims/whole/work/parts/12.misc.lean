/-! ===== rules: statics, texts, the JDK's, new cells ===== -/
section AMR6
variable {f : Bool} {y : MethodName} {cc : ByteArray} {nL : Nat} {rt : Option FieldType} {d n kc ks pc : Nat} {als : List (Option AV)} {st : List AV} {w : Wd} {R : Option AV → Wd → Prop}
theorem am_adA {ad : Int → Nat} {base : Nat} {x : Int} {s : State} : am_cv ad (.inr (.inr x)) = am_rf ad x := rfl
theorem WA.getmost {i : Nat} (hd : decode cc pc = .ok (.getstatic i, 3)) (hw : Cond.fieldLinkNest y.cls i RX8 "MOST_PARTS" "[I" RX8 ∈ am_N) (k : WA f y cc nL rt d n kc ks (pc + 3) als (.inr (.inr (-2)) :: st) w R) : WA f y cc nL rt d n kc ks pc als st w R :=
  WA.pure (fun h _ _ => am_ok1 (am_r ⟨by decide, by decide⟩) h) (fun _ _ ad _ _ _ _ _ _ _ _ _ _ _ _ _ _ _ _ _ C X _ _ _ _ _ k => va_getsN C.1 C.2.1 X.1.2.1.1 X.2.2.2.2.2.2.1 C.2.2.2.2.2.2.1 ((X.1.2.2.2.2.2.2.2 _ hw).use rfl) (fun _ h => h) hd (by rw [← am_rf1 (ad := ad) (x := -2) (by decide)]; exact k)) k
theorem WA.getleast {i : Nat} (hd : decode cc pc = .ok (.getstatic i, 3)) (hw : Cond.fieldLinkNest y.cls i RX8 "LEAST_PARTS" "[I" RX8 ∈ am_N) (k : WA f y cc nL rt d n kc ks (pc + 3) als (.inr (.inr (-1)) :: st) w R) : WA f y cc nL rt d n kc ks pc als st w R :=
  WA.pure (fun h _ _ => am_ok1 (am_r ⟨by decide, by decide⟩) h) (fun _ _ ad _ _ _ _ _ _ _ _ _ _ _ _ _ _ _ _ _ C X _ _ _ _ _ k => va_getsN C.1 C.2.1 X.1.1.1 X.2.2.2.2.2.2.1 C.2.2.2.2.2.2.1 ((X.1.2.2.2.2.2.2.2 _ hw).use rfl) (fun _ h => h) hd (by rw [← am_rf1 (ad := ad) (x := -1) (by decide)]; exact k)) k
theorem am_tab9 : ∀ j : Nat, j < 9 → in32 (am_most.getD j 0) ∧ in32 (am_least.getD j 0) := by
  intro j hj
  have h : ∀ j : Nat, j < 9 → (0 ≤ am_most.getD j 0 ∧ am_most.getD j 0 ≤ 9) ∧ 0 ≤ am_least.getD j 0 ∧ am_least.getD j 0 ≤ 9 := by decide
  have := h j hj
  exact ⟨⟨by omega, by omega⟩, ⟨by omega, by omega⟩⟩
theorem WA.most {j : Int} (hd : decode cc pc = .ok (.iaload, 1)) (h0 : 0 ≤ j) (h1 : j < 9) (k : WA f y cc nL rt d n kc ks (pc + 1) als (.inl (am_most.getD j.toNat 0) :: st) w R) : WA f y cc nL rt d n kc ks pc als (.inl j :: .inr (.inr (-2)) :: st) w R :=
  WA.pure (fun h _ _ => am_ok1 (am_i (am_tab9 j.toNat (by omega)).1) (am_tl (am_tl h))) (fun _ _ ad _ _ _ _ _ _ _ _ _ _ _ _ _ _ _ _ _ C X ho _ _ _ _ k => by
    exact va_ti C.1 C.2.1 X.1.2.1.2 X.2.2.2.2.2.2.1 (i32_in (N := 9) (am_hd ho) h0 (by omega)) (by rw [i32_nat (am_hd ho) h0]; rfl) hd k) k
theorem WA.least {j : Int} (hd : decode cc pc = .ok (.iaload, 1)) (h0 : 0 ≤ j) (h1 : j < 9) (k : WA f y cc nL rt d n kc ks (pc + 1) als (.inl (am_least.getD j.toNat 0) :: st) w R) : WA f y cc nL rt d n kc ks pc als (.inl j :: .inr (.inr (-1)) :: st) w R :=
  WA.pure (fun h _ _ => am_ok1 (am_i (am_tab9 j.toNat (by omega)).2) (am_tl (am_tl h))) (fun _ _ ad _ _ _ _ _ _ _ _ _ _ _ _ _ _ _ _ _ C X ho _ _ _ _ k => by
    exact va_ti C.1 C.2.1 X.1.1.2 X.2.2.2.2.2.2.1 (i32_in (N := 9) (am_hd ho) h0 (by omega)) (by rw [i32_nat (am_hd ho) h0]; rfl) hd k) k
/-- a text -/
theorem WA.ldcS {j : Nat} {x : Int} (hy : y.cls = RX8) (hj : j < 9) (hx : x = -3 - (j : Int)) (hd : decode cc pc = .ok (.ldc (224 + 2 * j), 2)) (k : WA f y cc nL rt d n kc ks (pc + 2) als (.inr (.inr x) :: st) w R) : WA f y cc nL rt d n kc ks pc als st w R :=
  WA.pure (fun h _ _ => am_ok1 (am_r ⟨by omega, by omega⟩) h) (fun _ _ ad _ _ _ _ _ _ _ _ _ _ _ _ _ _ _ _ _ C X _ _ _ _ _ k => va_ldcS C.1 C.2.1 (by have := C.2.2.2.2.2.2.1; rw [hy] at this; exact this) (X.1.2.2.2.2.1 j hj) hd (by rw [← hx, ← am_rf1 (ad := ad) (x := x) (by omega)]; exact k)) k
theorem am_roS {ad : Int → Nat} {j : Nat} : am_rf ad (-3 - (j : Int)) = .ref (ad (-3 - (j : Int))) := am_rf1 (by omega)
theorem am_roB {ad : Int → Nat} {j : Nat} : am_rf ad (-12 - (j : Int)) = .ref (ad (-12 - (j : Int))) := am_rf1 (by omega)
/-- the fields of a text -/
theorem WA.strval {i j : Nat} (hj : j < 9) (hd : decode cc pc = .ok (.getfield i, 3)) (hl : Cond.fieldLink y.cls i "java/lang/String" "value" "[B" ∈ am_G) (k : WA f y cc nL rt d n kc ks (pc + 3) als (.inr (.inr (-12 - (j : Int))) :: st) w R) : WA f y cc nL rt d n kc ks pc als (.inr (.inr (-3 - (j : Int))) :: st) w R :=
  WA.pure (fun h _ _ => am_ok1 (am_r ⟨by omega, by omega⟩) (am_tl h)) (fun D tc ad base p l e rm s m args below meth c H locs ls cells slots Q C X _ _ _ _ _ k => by
    show W p l e rm s m args below meth c H locs cells slots Q (F0 m pc ls (am_rf ad _ :: st.map (am_cv ad)))
    rw [am_roS]
    exact vk_getf C.1 C.2.1 ((X.1.2.2.2.1.1 j hj).2.2.1) X.2.2.2.2.2.2.1 C.2.2.2.2.2.2.1 (C.2.2.2.2.2.1 _ hl) (fun _ h => h) hd (by rw [← am_roB]; exact k)) k
theorem WA.strcoder {i j : Nat} (hj : j < 9) (hd : decode cc pc = .ok (.getfield i, 3)) (hl : Cond.fieldLink y.cls i "java/lang/String" "coder" "B" ∈ am_G) (k : WA f y cc nL rt d n kc ks (pc + 3) als (.inl 0 :: st) w R) : WA f y cc nL rt d n kc ks pc als (.inr (.inr (-3 - (j : Int))) :: st) w R :=
  WA.pure (fun h _ _ => am_ok1 (am_i in32_0) (am_tl h)) (fun D tc ad base p l e rm s m args below meth c H locs ls cells slots Q C X _ _ _ _ _ k => by
    show W p l e rm s m args below meth c H locs cells slots Q (F0 m pc ls (am_rf ad _ :: st.map (am_cv ad)))
    rw [am_roS]
    exact vk_getf C.1 C.2.1 ((X.1.2.2.2.1.1 j hj).2.1) X.2.2.2.2.2.2.1 C.2.2.2.2.2.2.1 (C.2.2.2.2.2.1 _ hl) (fun _ h => h) hd k) k
theorem WA.getcompact {i : Nat} (hd : decode cc pc = .ok (.getstatic i, 3)) (hl : Cond.fieldLink y.cls i "java/lang/String" "COMPACT_STRINGS" "Z" ∈ am_G) (k : WA f y cc nL rt d n kc ks (pc + 3) als (.inl 1 :: st) w R) : WA f y cc nL rt d n kc ks pc als st w R :=
  WA.pure (fun h _ _ => am_ok1 (am_i ⟨by decide, by decide⟩) h) (fun _ _ ad _ _ _ _ _ _ _ _ _ _ _ _ _ _ _ _ _ C X _ _ _ _ _ k => va_gets C.1 C.2.1 X.1.2.2.1 X.2.2.2.2.2.2.1 C.2.2.2.2.2.2.1 (C.2.2.2.2.2.1 _ hl) (fun _ h => h) hd k) k
theorem WA.getsioobe {i : Nat} (hd : decode cc pc = .ok (.getstatic i, 3)) (hl : Cond.fieldLink y.cls i RJ3 "SIOOBE_FORMATTER" "Ljava/util/function/BiFunction;" ∈ am_G) (k : WA f y cc nL rt d n kc ks (pc + 3) als (.inr (.inr (-21)) :: st) w R) (k0 : WA f y cc nL rt d n kc ks (pc + 3) als (.inr (.inr 0) :: st) w R) : WA f y cc nL rt d n kc ks pc als st w R := by
  intro D tc ad base p l e rm s m args below meth c H locs ls cells slots MC MS C X h3 h4 h5 h6 h7 h8
  obtain ⟨x1, x2, x3, x4, x5, x6, x7, x8, x9, x10, x11, x12⟩ := id X
  rcases x1.2.2.2.2.2.1 with g | g
  · have K := k D tc ad base p l e rm s m args below meth c H locs ls cells slots MC MS C ⟨x1, x2, x3, x4, x5, x6, x7, x8, x9, x10, x11, am_ok1 (am_r ⟨by decide, by decide⟩) x12⟩ h3 h4 h5 h6 h7 h8
    exact va_gets C.1 C.2.1 g x7 C.2.2.2.2.2.2.1 (C.2.2.2.2.2.1 _ hl) (fun _ h => h) hd (by rw [← am_rf1 (ad := ad) (x := -21) (by decide)]; exact K)
  · have K := k0 D tc ad base p l e rm s m args below meth c H locs ls cells slots MC MS C ⟨x1, x2, x3, x4, x5, x6, x7, x8, x9, x10, x11, am_ok1 (am_r ⟨by decide, by decide⟩) x12⟩ h3 h4 h5 h6 h7 h8
    exact va_gets C.1 C.2.1 g x7 C.2.2.2.2.2.2.1 (C.2.2.2.2.2.1 _ hl) (fun _ h => h) hd K
theorem am_slen_le : ∀ j : Nat, j < 9 → am_slen.getD j 0 ≤ 6 := by decide
theorem am_sbyt_le : ∀ j : Nat, j < 9 → ∀ i : Nat, i < 6 → 0 ≤ ((am_sbyt.getD j []).getD i 0).toInt ∧ ((am_sbyt.getD j []).getD i 0).toInt ≤ 255 := by decide +kernel
theorem WA.strlen0 {j : Nat} (hj : j < 9) (hd : decode cc pc = .ok (.arraylength, 1)) (k : WA f y cc nL rt d n kc ks (pc + 1) als (.inl ((am_slen.getD j 0 : Nat) : Int) :: st) w R) : WA f y cc nL rt d n kc ks pc als (.inr (.inr (-12 - (j : Int))) :: st) w R :=
  WA.pure (fun h _ _ => am_ok1 (am_i (by have := am_slen_le j hj; exact ⟨by omega, by omega⟩)) (am_tl h)) (fun D tc ad base p l e rm s m args below meth c H locs ls cells slots Q C X _ _ _ _ _ k => by
    show W p l e rm s m args below meth c H locs cells slots Q (F0 m pc ls (am_rf ad _ :: st.map (am_cv ad)))
    rw [am_roB]
    exact va_tlen C.1 C.2.1 ((X.1.2.2.2.1.1 j hj).2.2.2) X.2.2.2.2.2.2.1 Int32.ofInt_eq_ofNat.symm hd k) k
theorem WA.strbyte {j : Nat} {i : Int} (hj : j < 9) (hd : decode cc pc = .ok (.baload, 1)) (h0 : 0 ≤ i) (h1 : i < (am_slen.getD j 0 : Nat)) (k : WA f y cc nL rt d n kc ks (pc + 1) als (.inl (((am_sbyt.getD j []).getD i.toNat 0).toInt) :: st) w R) : WA f y cc nL rt d n kc ks pc als (.inl i :: .inr (.inr (-12 - (j : Int))) :: st) w R :=
  WA.pure (fun h _ _ => am_ok1 (am_i (by have := am_slen_le j hj; have := am_sbyt_le j hj i.toNat (by omega); exact ⟨by omega, by omega⟩)) (am_tl (am_tl h))) (fun D tc ad base p l e rm s m args below meth c H locs ls cells slots Q C X ho _ _ _ _ k => by
    show W p l e rm s m args below meth c H locs cells slots Q (F0 m pc ls (.int (Int32.ofInt i) :: am_rf ad _ :: st.map (am_cv ad)))
    rw [am_roB]
    exact va_tb C.1 C.2.1 ((X.1.2.2.2.1.1 j hj).2.2.2) X.2.2.2.2.2.2.1 (i32_in (am_hd ho) h0 h1) (by rw [i32_nat (am_hd ho) h0]) hd (by simpa [am_cv] using k)) k
theorem WA.ishr0 {x : Int} (hd : decode cc pc = .ok (.ishr, 1)) (k : WA f y cc nL rt d n kc ks (pc + 1) als (.inl x :: st) w R) : WA f y cc nL rt d n kc ks pc als (.inl 0 :: .inl x :: st) w R :=
  WA.pure (fun h _ _ => am_tl h) (fun D tc ad base p l e rm s m args below meth c H locs ls cells slots Q C X ho _ _ _ _ k => lv_ishr C.1 C.2.1 hd (by
    rw [show (Int32.ofInt x) >>> ((Int32.ofInt 0) &&& 31) = Int32.ofInt x from by
      apply Int32.toBitVec_inj.mp
      simp]
    exact k)) k
theorem i32_mask {x : Int} (k : Nat) (hk : k ≤ 30) (hx : in32 x) : Int32.ofInt x &&& Int32.ofInt (2 ^ k - 1 : Nat) = Int32.ofInt (x % (2 ^ k : Nat)) := by
  have hpos : 0 < 2 ^ k := Nat.two_pow_pos k
  have hle : 2 ^ k ≤ 2 ^ 30 := Nat.pow_le_pow_right (by decide) hk
  apply Int32.toBitVec_inj.mp
  apply BitVec.eq_of_toNat_eq
  simp only [Int32.toBitVec_and, Int32.toBitVec_ofInt, BitVec.toNat_and, BitVec.toNat_ofInt]
  have e1 : (((2 ^ k - 1 : Nat) : Int) % ((2 ^ 32 : Nat) : Int)).toNat = 2 ^ k - 1 := by
    rw [← Int.natCast_emod, Int.toNat_natCast]
    exact Nat.mod_eq_of_lt (by omega)
  have hm0 := Int.emod_nonneg x (show ((2 ^ k : Nat) : Int) ≠ 0 by omega)
  have hm1 := Int.emod_lt_of_pos x (show (0 : Int) < ((2 ^ k : Nat) : Int) by omega)
  have e2 : ((x % ((2 ^ k : Nat) : Int)) % ((2 ^ 32 : Nat) : Int)).toNat = (x % ((2 ^ k : Nat) : Int)).toNat := by
    rw [Int.emod_eq_of_lt hm0 (by omega)]
  rw [e1, e2, Nat.and_two_pow_sub_one_eq_mod]
  have hdvd : ((2 ^ k : Nat) : Int) ∣ ((2 ^ 32 : Nat) : Int) := by
    refine Int.natCast_dvd_natCast.mpr (Nat.pow_dvd_pow 2 (by omega))
  have h0 := Int.emod_nonneg x (show ((2 ^ 32 : Nat) : Int) ≠ 0 by decide)
  have e3 : (x % ((2 ^ 32 : Nat) : Int)) % ((2 ^ k : Nat) : Int) = x % ((2 ^ k : Nat) : Int) := Int.emod_emod_of_dvd x hdvd
  rw [← e3]
  generalize x % ((2 ^ 32 : Nat) : Int) = z at h0 ⊢
  obtain ⟨q, rfl⟩ := Int.eq_ofNat_of_zero_le h0
  rw [← Int.natCast_emod, Int.toNat_natCast, Int.toNat_natCast]
theorem WA.iand31 {x : Int} (hd : decode cc pc = .ok (.iand, 1)) (k : WA f y cc nL rt d n kc ks (pc + 1) als (.inl (x % 32) :: st) w R) : WA f y cc nL rt d n kc ks pc als (.inl 31 :: .inl x :: st) w R :=
  WA.pure (fun h _ _ => am_ok1 (am_i ⟨by omega, by omega⟩) (am_tl (am_tl h))) (fun D tc ad base p l e rm s m args below meth c H locs ls cells slots Q C X ho _ _ _ _ k => lv_iand C.1 C.2.1 hd (by
    have := i32_mask (x := x) 5 (by decide) (am_hd (am_tl ho))
    rw [show Int32.ofInt 31 = Int32.ofInt ((2 ^ 5 - 1 : Nat) : Int) from rfl, this]
    exact k)) k
theorem WA.iand255 {x : Int} (hd : decode cc pc = .ok (.iand, 1)) (k : WA f y cc nL rt d n kc ks (pc + 1) als (.inl (x % 256) :: st) w R) : WA f y cc nL rt d n kc ks pc als (.inl 255 :: .inl x :: st) w R :=
  WA.pure (fun h _ _ => am_ok1 (am_i ⟨by omega, by omega⟩) (am_tl (am_tl h))) (fun D tc ad base p l e rm s m args below meth c H locs ls cells slots Q C X ho _ _ _ _ k => lv_iand C.1 C.2.1 hd (by
    have := i32_mask (x := x) 8 (by decide) (am_hd (am_tl ho))
    rw [show Int32.ofInt 255 = Int32.ofInt ((2 ^ 8 - 1 : Nat) : Int) from rfl, this]
    exact k)) k
end AMR6
