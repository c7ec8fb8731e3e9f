/-! ===== rules: new cells ===== -/
def wnew (w : Wd) (c : Int) : Wd := fun c' i => if c' = c then 0 else w c' i
theorem wnew_ne {w : Wd} {c : Int} : ∀ c', c' ≠ c → wnew w c c' = w c' := fun c' h => by
  funext i
  exact if_neg h
theorem am_okw_new {w : Wd} {c : Int} (h : am_okw false w) : am_okw false (wnew w c) := by
  refine ⟨fun c' j => ?_, fun q => by cases q⟩
  by_cases e : c' = c
  · have : wnew w c c' j = 0 := if_pos e
    rw [this]
    exact ⟨fun _ => ⟨by decide, by decide⟩, fun _ => ⟨by decide, by decide⟩⟩
  · have : wnew w c c' j = w c' j := if_neg e
    rw [this]
    exact h.1 c' j
theorem am_wl_push {tc : Nat → ClassId} {ad : Int → Nat} {n : Nat} {w w' : Wd} (he : ∀ c', c' ≠ (n : Int) + 1 → w' c' = w c') : am_wl tc ad n w ++ [(ad ((n : Int) + 1), am_ent tc ad w' ((n : Int) + 1))] = am_wl tc ad (n + 1) w' := by
  unfold am_wl
  rw [List.range_succ, List.map_append]
  congr 1
  refine List.map_congr_left (fun k hk => ?_)
  have hk : k < n := List.mem_range.mp hk
  have hc := he ((k : Int) + 1) (by omega)
  unfold am_ent
  rw [hc]
section AMR8
variable {y : MethodName} {cc : ByteArray} {nL : Nat} {rt : Option FieldType} {d n kc ks pc pc' : Nat} {als : List (Option AV)} {st st' : List AV} {w w' : Wd} {R : Option AV → Wd → Prop}
/-- a new cell: where it lies is known -/
theorem am_newcell {N : Nat} {D : va_G} {tc : Nat → ClassId} {ad : Int → Nat} {base : Nat} {p : Program} {l : Launch} {e : Env} {rm : Room} {s : State} {m : MethodId} {args : Array Value} {below : List Frame} {meth : Method} {c : Code} {H1 : Heap} {locs : List Loc} {ls : Array Slot} {cells slots MC MS : Nat} {stk : List AV} {H : Heap} {q : Nat}
    (C : am_C y cc nL rt p s m args meth c) (X : am_X false D tc ad base nL n s als stk w H locs ls cells) (hw : ∀ c', c' ≠ (n : Int) + 1 → w' c' = w c') (hokw : am_okw false w') (hst : ∀ v ∈ st, am_ok v) (hn : (n : Int) + 1 ≤ 2147483647)
    (h3 : cells + (kc + 1) = MC) (h4 : slots + (ks + N) = MS) (h5 : MC ≤ rm.cells) (h6 : MS ≤ rm.slots) (h7 : d ≤ rm.frames) (h8 : 64 * d ≤ rm.locals)
    (hP : va_P D vwCl (am_wl tc ad n w ++ [(q, am_ent tc ad w' ((n : Int) + 1))]) H1) (hD : va_D (am_A base) (am_wl tc ad n w ++ [(q, am_ent tc ad w' ((n : Int) + 1))])) (hS : va_S (am_A base) s.heap H1 locs)
    (k : WA false y cc nL rt d (n + 1) kc ks pc' als (.inr (.inr ((n : Int) + 1)) :: st) w' R) :
    W p l e rm s m args below meth c H1 locs (cells + 1) (slots + N) (MQ below (am_Qc false D tc ad base (n + (kc + 1)) R) args s MC MS (am_A base)) (F0 m pc' ls (.ref q :: st.map (am_cv ad))) := by
  obtain ⟨x1, x2, x3, x4, x5, x6, x7, x8, x9, x10, x11, x12⟩ := X
  intro T hT Y
  have hz := Y.heapSize
  rw [hT] at hz
  have hlast : (am_wl tc ad n w ++ [(q, am_ent tc ad w' ((n : Int) + 1))])[n]? = some (q, am_ent tc ad w' ((n : Int) + 1)) := by
    rw [List.getElem?_append_right (by rw [am_wl_len]; exact Nat.le_refl _), am_wl_len, Nat.sub_self]
    rfl
  have hq1 : q < H1.size := (hP _ _ hlast).lt
  have hq2 : base ≤ q := hD.2 _ _ hlast
  have hq3 : q = base + n := by
    by_cases hlt : q < base + n
    · exfalso
      have hk : q - base < n := by omega
      have h9 := am_wl_at (tc := tc) (ad := ad) (n := n) (w := w) (c := ((q - base : Nat) : Int) + 1) (by omega) (by omega)
      rw [show (((q - base : Nat) : Int) + 1 - 1).toNat = q - base by omega] at h9
      have h10 : (am_wl tc ad n w ++ [(q, am_ent tc ad w' ((n : Int) + 1))])[q - base]? = some (ad (((q - base : Nat) : Int) + 1), am_ent tc ad w (((q - base : Nat) : Int) + 1)) := by
        rw [List.getElem?_append_left (by rw [am_wl_len]; exact hk)]
        exact h9
      have h11 := hD.1 _ _ _ _ h10 hlast (by
        show ad (((q - base : Nat) : Int) + 1) = q
        rw [x3]
        omega)
      omega
    · omega
  have had : ad ((n : Int) + 1) = q := by rw [x3, hq3]
  rw [← had, am_wl_push hw] at hP
  have K := k D tc ad base p l e rm s m args below meth c H1 locs ls (cells + 1) (slots + N) MC MS C ⟨x1, x2, x3, x4, by omega, hP, hS, x8, x9, hokw, x11, am_ok1 (am_r ⟨by omega, hn⟩) hst⟩ (by omega) (by omega) h5 h6 h7 h8
  rw [show n + 1 + kc = n + (kc + 1) by omega] at K
  have e : (.inr (.inr ((n : Int) + 1)) :: st : List AV).map (am_cv ad) = .ref q :: st.map (am_cv ad) := by
    show am_rf ad ((n : Int) + 1) :: _ = _
    rw [am_rf1 (by omega), had]
  rw [e] at K
  exact K T hT Y
def am_okty (t : FieldType) : Bool := match t with
  | .int => true
  | .boolean => true
  | .long => true
  | .object _ => true
  | .array _ => true
  | _ => false
theorem am_def_ty (ad : Int → Nat) {t : FieldType} (h : am_okty t = true) : defaultValue t = am_val ad (am_sort t) 0 := by
  cases t <;> first | rfl | (cases h)
theorem WA.new {i ci N : Nat} {C : String} {T : u_T} (hd : decode cc pc = .ok (.new i, 3)) (hl : am_lay ((n : Int) + 1) = (ci + 4, N)) (hn : (n : Int) + 1 ≤ 2147483647) (hc : vwCl[ci]? = some (C, T, N)) (hin : ∀ w ∈ u_ws C T N, w ∈ am_G) (hty : ∀ k, k < N → parseFieldDescriptor (T k).2.2.1 = some (am_fty ci k)) (hok : ∀ k, k < N → am_okty (am_fty ci k) = true)
    (h1 : Cond.classLink y.cls i C ∈ am_G) (h2 : Cond.instantiable C N ∈ am_G) (h3 : Cond.initialized C ∈ am_G)
    (k : WA false y cc nL rt d (n + 1) kc ks (pc + 3) als (.inr (.inr ((n : Int) + 1)) :: st) (wnew w ((n : Int) + 1)) R) : WA false y cc nL rt d n (kc + 1) (ks + N) pc als st w R := by
  intro D tc ad base p l e rm s m args below meth c H locs ls cells slots MC MS CC X g3 g4 g5 g6 g7 g8
  obtain ⟨hx, hb, hml, -, -, hts, hown, -⟩ := id CC
  obtain ⟨x1, x2, x3, x4, x5, x6, x7, x8, x9, x10, x11, x12⟩ := id X
  refine va_new (fs := (List.range N).map (fun j => am_val ad (am_sort (am_fty ci j)) 0)) hx hb hts hin (am_fty ci) hty hown (hts _ h1) (hts _ h2) (hts _ h3) x2 x6 (am_wl_D x3) x7 (fun q hq => Nat.le_trans x4 hq) hc (fun j hj => ?_) (by omega) (by omega) hd (fun q H1 hP hD hS => ?_)
  · rw [am_def_ty ad (hok j hj)]
    simp [vp_V, hj]
  · have e : am_ent tc ad (wnew w ((n : Int) + 1)) ((n : Int) + 1) = .inr (ci, (List.range N).map (fun j => am_val ad (am_sort (am_fty ci j)) 0)) := by
      rw [am_ent_o hl]
      have : ∀ j : Nat, wnew w ((n : Int) + 1) ((n : Int) + 1) j = 0 := fun j => if_pos rfl
      simp only [this]
    rw [← e] at hP hD
    exact am_newcell (N := N) CC X wnew_ne (am_okw_new x10) x12 hn (by omega) (by omega) g5 g6 g7 g8 hP hD hS k
theorem am_ra_same {s : State} {c1 c2 : ClassId} {ty : FieldType} (h1 : va_RA s c1 ty) (h2 : va_RA s c2 ty) : c1 = c2 := by
  cases ty with
  | object C =>
    obtain ⟨_, _, _, _, _, a⟩ := h1
    obtain ⟨_, _, _, _, _, b⟩ := h2
    exact Option.some.inj (a.symm.trans b)
  | _ => exact Option.some.inj (Eq.trans (Eq.symm h1) h2)
def am_zero (K N : Nat) : vp_A := match K with
  | 2 => (N, .inr (.inl (fun _ => Int64.ofInt 0)))
  | _ => (N, .inl (fun _ => Int32.ofInt 0))
theorem am_zero_cell {K N : Nat} (hK : K < 3) (cA : ClassId) : vp_cell cA (am_zero K N) = arrV cA N (fun _ => defaultValue (am_tyk K)) := by
  match K, hK with
  | 0, _ => rfl
  | 1, _ => rfl
  | 2, _ => rfl
theorem am_zero_bytes {K N : Nat} (hK : K < 3) (hN : N ≤ 20000) : N * componentBytes (am_tyk K) ≤ 536870912 := by
  have : componentBytes (am_tyk K) ≤ 8 := by
    match K, hK with
    | 0, _ => decide
    | 1, _ => decide
    | 2, _ => decide
  calc N * componentBytes (am_tyk K) ≤ 20000 * 8 := Nat.mul_le_mul hN this
    _ ≤ 536870912 := by decide
theorem am_tys_get {K : Nat} {tc : Nat → ClassId} (hK : K < 3) : (am_tys tc)[K]? = some (tc K, am_tyk K) := by
  match K, hK with
  | 0, _ => rfl
  | 1, _ => rfl
  | 2, _ => rfl
theorem am_zero_ent {K N : Nat} {tc : Nat → ClassId} {ad : Int → Nat} {w : Wd} {c : Int} (hK : K < 3) (hl : am_lay c = (K, N)) (hz : ∀ j : Int, w c j = 0) : am_ent tc ad w c = .inl (tc K, am_zero K N) := by
  match K, hK, hl with
  | 0, _, hl => rw [am_ent_i hl]; simp only [hz]; rfl
  | 1, _, hl => rw [am_ent_z hl]; simp only [hz]; rfl
  | 2, _, hl => rw [am_ent_l hl]; simp only [hz]; rfl
theorem am_newtc {D : va_G} {tc : Nat → ClassId} {s : State} {cA : ClassId} {ty : FieldType} {K : Nat} (hK1 : va_K D vwCl (am_tys tc ++ [(cA, ty)]) s) (h : (am_tys tc)[K]? = some (tc K, ty)) : cA = tc K := by
  have h1 := (hK1.2 4 (cA, ty) rfl).2
  have h2 := (hK1.2 K (tc K, ty) (by rw [List.getElem?_append_left (List.getElem?_eq_some_iff.mp h).1]; exact h)).2
  exact am_ra_same h1 h2
theorem WA.newarray {x : Int} {K N : Nat} {at_ : ArrayType} (hd : decode cc pc = .ok (.newarray at_, 2)) (hK : K < 3) (hat : newarray.typeOf at_ = am_tyk K) (hl : am_lay ((n : Int) + 1) = (K, N)) (hx0 : x = (N : Int)) (hN : N ≤ 20000) (hn : (n : Int) + 1 ≤ 2147483647) (hw0 : Cond.arrayClass (newarray.typeOf at_) ∈ am_G)
    (k : WA false y cc nL rt d (n + 1) kc ks (pc + 2) als (.inr (.inr ((n : Int) + 1)) :: st) (wnew w ((n : Int) + 1)) R) : WA false y cc nL rt d n (kc + 1) (ks + N) pc als (.inl x :: st) w R := by
  intro D tc ad base p l e rm s m args below meth c H locs ls cells slots MC MS CC X g3 g4 g5 g6 g7 g8
  obtain ⟨hx, hb, hml, -, -, hts, hown, -⟩ := id CC
  obtain ⟨x1, x2, x3, x4, x5, x6, x7, x8, x9, x10, x11, x12⟩ := id X
  subst hx0
  have hin : in32 (N : Int) := am_hd x12
  refine va_newa (n := Int32.ofInt (N : Int)) (N' := N) (a0 := am_zero K N) hx hb (hts _ hw0) hat x2 x6 (am_wl_D x3) x7 (fun q hq => Nat.le_trans x4 hq) (am_zero_cell hK) (fun q => absurd ((i32_lt hin in32_0).mp q) (by omega)) (by rw [i32_nat hin (by omega)]; omega) (am_zero_bytes hK hN) (by omega) (by omega) hd (fun q cA H1 hK1 hP hD hS => ?_)
  have hcA : cA = tc K := am_newtc hK1 (am_tys_get hK)
  subst hcA
  rw [← am_zero_ent hK hl (w := wnew w ((n : Int) + 1)) (ad := ad) (fun j => if_pos rfl)] at hP hD
  exact am_newcell (N := N) CC X wnew_ne (am_okw_new x10) (am_tl x12) hn (by omega) (by omega) g5 g6 g7 g8 hP hD hS k
theorem WA.anewarray {x : Int} {i N : Nat} (hd : decode cc pc = .ok (.anewarray i, 3)) (hl : am_lay ((n : Int) + 1) = (3, N)) (hx0 : x = (N : Int)) (hN : N ≤ 20000) (hn : (n : Int) + 1 ≤ 2147483647) (hw0 : Cond.classLink y.cls i RX5 ∈ am_G)
    (k : WA false y cc nL rt d (n + 1) kc ks (pc + 3) als (.inr (.inr ((n : Int) + 1)) :: st) (wnew w ((n : Int) + 1)) R) : WA false y cc nL rt d n (kc + 1) (ks + N) pc als (.inl x :: st) w R := by
  intro D tc ad base p l e rm s m args below meth c H locs ls cells slots MC MS CC X g3 g4 g5 g6 g7 g8
  obtain ⟨hx, hb, hml, -, -, hts, hown, -⟩ := id CC
  obtain ⟨x1, x2, x3, x4, x5, x6, x7, x8, x9, x10, x11, x12⟩ := id X
  subst hx0
  have hin : in32 (N : Int) := am_hd x12
  have hz : ∀ j : Int, wnew w ((n : Int) + 1) ((n : Int) + 1) j = 0 := fun j => if_pos rfl
  refine va_newq (n := Int32.ofInt (N : Int)) (N' := N) hx hb hown (hts _ hw0) x1.2.2.2.2.2.2.1 x2 x6 (am_wl_D x3) x7 (fun q hq => Nat.le_trans x4 hq) (fun q => absurd ((i32_lt hin in32_0).mp q) (by omega)) (by rw [i32_nat hin (by omega)]; omega) (by omega) (by omega) (by omega) hd (fun q cA H1 hK1 hP hD hS => ?_)
  have hcA : cA = tc 3 := am_newtc hK1 rfl
  subst hcA
  have e : am_ent tc ad (wnew w ((n : Int) + 1)) ((n : Int) + 1) = .inl (tc 3, N, .inr (.inr (.inr (.inr (fun _ => none))))) := by
    rw [am_ent_q hl]
    simp only [hz, if_true]
  rw [← e] at hP hD
  exact am_newcell (N := N) CC X wnew_ne (am_okw_new x10) (am_tl x12) hn (by omega) (by omega) g5 g6 g7 g8 hP hD hS k
theorem WA.objInit {f : Bool} {i : Nat} {b : Int} (hd : decode cc pc = .ok (.invokespecial i, 3)) (h1 : Cond.methodLink y.cls i Lib.objectInit ∈ am_G) (h2 : Cond.instanceMethod Lib.objectInit ∈ am_G) (h3 : Cond.code Lib.objectInit ⟨#[0xb1]⟩ 1 none ∈ am_G) (hb0 : b ≠ 0) (hdd : 1 ≤ d) (hst : (st.map am_cat).sum ≤ 8)
    (k : WA f y cc nL rt d n kc ks (pc + 3) als st w R) : WA f y cc nL rt d n kc ks pc als (.inr (.inr b) :: st) w R :=
  WA.pure (fun h _ _ => am_tl h) (fun D tc ad base p l e rm s m args below meth c H locs ls cells slots Q C X ho _ _ hf hl k => by
    have hts := C.2.2.2.2.2.1
    refine W.objInit C.1 C.2.1 C.2.2.2.2.2.2.1 (hts _ h1) (hts _ h2) (hts _ h3) rfl (by rw [C.2.2.1]; exact X.2.2.2.2.2.2.2.1.1) (a := ad b) (rest := st.map (am_cv ad)) (by simp [am_cv, am_rf1 hb0]) hd (by omega) ?_ k
    have := am_cats ad st
    show 2 * 0 + _ + 12 ≤ _
    omega) k
theorem i64_mask {x : Int} (hx : in64 x) : Int64.ofInt x &&& Int64.ofInt 255 = Int64.ofInt (x % 256) := by
  apply Int64.toBitVec_inj.mp
  apply BitVec.eq_of_toNat_eq
  simp only [Int64.toBitVec_and, Int64.toBitVec_ofInt, BitVec.toNat_and, BitVec.toNat_ofInt]
  have e1 : ((255 : Int) % ((2 ^ 64 : Nat) : Int)).toNat = 2 ^ 8 - 1 := by decide
  rw [e1, Nat.and_two_pow_sub_one_eq_mod]
  have h0 := Int.emod_nonneg x (show ((2 ^ 64 : Nat) : Int) ≠ 0 by decide)
  have e3 : (x % ((2 ^ 64 : Nat) : Int)) % 256 = x % 256 := Int.emod_emod_of_dvd x ⟨((2 ^ 56 : Nat) : Int), by decide⟩
  have e2 : ((x % 256) % ((2 ^ 64 : Nat) : Int)).toNat = (x % 256).toNat := by
    rw [Int.emod_eq_of_lt (by omega) (by omega)]
  rw [e2, ← e3]
  generalize x % ((2 ^ 64 : Nat) : Int) = z at h0 ⊢
  obtain ⟨q, rfl⟩ := Int.eq_ofNat_of_zero_le h0
  rw [show ((q : Int) % 256) = ((q % 256 : Nat) : Int) from rfl, Int.toNat_natCast, Int.toNat_natCast]
theorem WA.land255 {f : Bool} {x : Int} (hd : decode cc pc = .ok (.land, 1)) (k : WA f y cc nL rt d n kc ks (pc + 1) als (.inr (.inl (x % 256)) :: st) w R) : WA f y cc nL rt d n kc ks pc als (.inr (.inl 255) :: .inr (.inl x) :: st) w R :=
  WA.pure (fun h _ _ => am_ok1 (am_j ⟨by omega, by omega⟩) (am_tl (am_tl h))) (fun D tc ad base p l e rm s m args below meth c H locs ls cells slots Q C X ho _ _ _ _ k => lv_land C.1 C.2.1 hd (by
    rw [i64_mask (am_hd (am_tl ho))]
    exact k)) k
theorem i64_shr {x : Int} {b : Int64} {k : Nat} (hx : in64 x) (hb : (b.toBitVec.smod 64).toNat = k) : Int64.ofInt x >>> b = Int64.ofInt (x >>> k) := by
  have h0 : x >>> k = x / ((2 ^ k : Nat) : Int) := Int.shiftRight_eq_div_pow x k
  have hp : (0 : Int) < ((2 ^ k : Nat) : Int) := by have := Nat.two_pow_pos k; omega
  have h1 : in64 (x >>> k) := by
    rw [h0]
    obtain ⟨a, b⟩ := hx
    constructor
    · refine Int.le_ediv_of_mul_le hp ?_
      have : (-9223372036854775808 : Int) * ((2 ^ k : Nat) : Int) ≤ -9223372036854775808 * 1 := Int.mul_le_mul_of_nonpos_left (by decide) (by omega)
      omega
    · refine Int.le_of_lt_add_one ((Int.ediv_lt_iff_lt_mul hp).mpr ?_)
      have : (9223372036854775807 + 1 : Int) * 1 ≤ (9223372036854775807 + 1) * ((2 ^ k : Nat) : Int) := Int.mul_le_mul_of_nonneg_left (by omega) (by decide)
      omega
  apply Int64.toInt_inj.mp
  rw [i64_toInt h1, ← Int64.toInt_toBitVec, Int64.toBitVec_shiftRight, BitVec.sshiftRight_eq', BitVec.toInt_sshiftRight, hb, Int64.toInt_toBitVec, i64_toInt hx]
theorem WA.lshr {f : Bool} {x z : Int} {k : Nat} (hd : decode cc pc = .ok (.lshr, 1)) (hz : z = (k : Int)) (hk : (((Int32.ofInt z).toInt64 &&& 63).toBitVec.smod 64).toNat = k) (kk : in64 (x >>> k) → WA f y cc nL rt d n kc ks (pc + 1) als (.inr (.inl (x >>> k)) :: st) w R) : WA f y cc nL rt d n kc ks pc als (.inl z :: .inr (.inl x) :: st) w R := by
  by_cases hx : in64 x
  · have e9 := i64_shr hx hk
    have h1 : in64 (x >>> k) := by
      have h2 := congrArg Int64.toInt e9
      have h3 : in64 (Int64.ofInt (x >>> k)).toInt := ⟨Int64.minValue_le_toInt _, Int64.toInt_le _⟩
      rw [← h2] at h3
      rw [← Int64.toInt_toBitVec, Int64.toBitVec_shiftRight, BitVec.sshiftRight_eq', BitVec.toInt_sshiftRight, hk, Int64.toInt_toBitVec, i64_toInt hx] at h3
      exact h3
    refine WA.pure (fun h _ _ => am_ok1 (am_j h1) (am_tl (am_tl h))) (fun D tc ad base p l e rm s m args below meth c H locs ls cells slots Q C X ho _ _ _ _ k => lv_lshr C.1 C.2.1 hd e9 k) (kk h1)
  · intro D tc ad base p l e rm s m args below meth c H locs ls cells slots MC MS C X
    exact absurd (am_hd (am_tl X.2.2.2.2.2.2.2.2.2.2.2)) hx
end AMR8
