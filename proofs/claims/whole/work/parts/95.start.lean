/-! ===== the start ===== -/
theorem am_nw {w : Cond} (h : am_isNest w = true) {A : Array Value} {U : State} (hb : w.before A U = true) : va_Nw w U := by
  cases w <;> first | (exact va_Nw.of rfl hb) | (cases h)
def flN : List Cond := flatC (Jvm.Cond.and given_1 narrow_1)
def tmS (i : Nat) : Term := .string RX8 (224 + 2 * i)
def tmL : Term := .static RX8 "LEAST_PARTS" "[I"
def tmM : Term := .static RX8 "MOST_PARTS" "[I"
theorem fl_ex : ∀ i, i < 9 → Cond.exactly (tmS i) "java/lang/String" ∈ flN := by decide +kernel
theorem fl_co : ∀ i, i < 9 → Cond.eq (.field (tmS i) "java/lang/String" "coder" "B") (.int 0) ∈ flN := by decide +kernel
theorem fl_ar : ∀ i, i < 9 → Cond.arrayOf (.field (tmS i) "java/lang/String" "value" "[B") .byte ∈ flN := by decide +kernel
theorem fl_le : ∀ i, i < 9 → Cond.eq (.length (.field (tmS i) "java/lang/String" "value" "[B")) (.int (Int32.ofNat (am_slen.getD i 0))) ∈ flN := by decide +kernel
theorem fl_el : ∀ i, i < 9 → ∀ j, j < am_slen.getD i 0 → Cond.eq (.elem (.field (tmS i) "java/lang/String" "value" "[B") (.int (Int32.ofNat j))) (.int ((am_sbyt.getD i []).getD j 0)) ∈ flN := by decide +kernel
theorem fl_ne : ∀ i, i < 9 → ∀ j, j < 9 → i ≠ j → Cond.not (.eq (tmS i) (tmS j)) ∈ flN ∨ Cond.not (.eq (tmS j) (tmS i)) ∈ flN := by decide +kernel
theorem fl_la : Cond.arrayOf tmL .int ∈ flN := by decide +kernel
theorem fl_ll : Cond.eq (.length tmL) (.int (Int32.ofNat 9)) ∈ flN := by decide +kernel
theorem fl_lv : ∀ j, j < 9 → Cond.eq (.elem tmL (.int (Int32.ofNat j))) (.int (Int32.ofInt (am_least.getD j 0))) ∈ flN := by decide +kernel
theorem fl_ma : Cond.arrayOf tmM .int ∈ flN := by decide +kernel
theorem fl_ml : Cond.eq (.length tmM) (.int (Int32.ofNat 9)) ∈ flN := by decide +kernel
theorem fl_mv : ∀ j, j < 9 → Cond.eq (.elem tmM (.int (Int32.ofNat j))) (.int (Int32.ofInt (am_most.getD j 0))) ∈ flN := by decide +kernel
theorem fl_cs : Cond.eq (.static "java/lang/String" "COMPACT_STRINGS" "Z") (.int 1) ∈ flN := by decide +kernel
theorem fl_si : Cond.isRef (.static RJ3 "SIOOBE_FORMATTER" "Ljava/util/function/BiFunction;") ∈ flN := by decide +kernel
def posS : List Nat := [328, 329, 330, 331, 332, 333, 334, 335, 336]
theorem tb_sr : ∀ i, i < 9 → tables_1[posS.getD i 0]? = some (Cond.stringRef RX8 (224 + 2 * i) (am_stxt.getD i "")) := by decide +kernel
theorem tb_st : ∀ i, i < 9 → Cond.stringRef RX8 (224 + 2 * i) (am_stxt.getD i "") ∈ lw_tbl := fun i hi => List.mem_append_right _ (List.mem_of_getElem? (tb_sr i hi))
theorem am_G_tbl {w : Cond} (h : w ∈ am_G) : w ∈ lw_tbl := (List.mem_filter.mp h).1
theorem am_N_tbl {w : Cond} (h : w ∈ am_N) : w ∈ lw_tbl := (List.mem_filter.mp h).1
/-- the classes' numbers -/
theorem st_D {s : State} {args : Array Value} (hts : ∀ w ∈ lw_tbl, w.before args s = true) : ∃ D : va_G, ∀ (c : Nat) (q : vw_C), vwCl[c]? = some q → u_Kn s q.1 q.2.1 q.2.2 (D.1 c) (D.2 c) := by
  have hk : ∀ c : Nat, ∃ r : ClassId × (Nat → Nat), ∀ q : vw_C, vwCl[c]? = some q → u_Kn s q.1 q.2.1 q.2.2 r.1 r.2 := by
    intro c
    match c with
    | 0 =>
      obtain ⟨a, b, h⟩ := u_known (C := RX0) (T := TX0) (N := 2) (n := 2) hts (fun w hw => am_G_tbl (gin_X0 w hw)) (hts _ (List.mem_append_right _ (List.mem_of_getElem? (i := 183) (by decide +kernel))))
      exact ⟨(a, b), fun q hq => by cases hq; exact h⟩
    | 1 =>
      obtain ⟨a, b, h⟩ := u_known (C := RX1) (T := TX1) (N := 1) (n := 1) hts (fun w hw => am_G_tbl (gin_X1 w hw)) (hts _ (List.mem_append_right _ (List.mem_of_getElem? (i := 152) (by decide +kernel))))
      exact ⟨(a, b), fun q hq => by cases hq; exact h⟩
    | 2 =>
      obtain ⟨a, b, h⟩ := u_known (C := RX2) (T := TX2) (N := 4) (n := 4) hts (fun w hw => am_G_tbl (gin_X2 w hw)) (hts _ (List.mem_append_right _ (List.mem_of_getElem? (i := 158) (by decide +kernel))))
      exact ⟨(a, b), fun q hq => by cases hq; exact h⟩
    | 3 =>
      obtain ⟨a, b, h⟩ := u_known (C := RX3) (T := TX3) (N := 8) (n := 8) hts (fun w hw => am_G_tbl (gin_X3 w hw)) (hts _ (List.mem_append_right _ (List.mem_of_getElem? (i := 189) (by decide +kernel))))
      exact ⟨(a, b), fun q hq => by cases hq; exact h⟩
    | 4 =>
      obtain ⟨a, b, h⟩ := u_known (C := RX4) (T := TX4) (N := 2) (n := 2) hts (fun w hw => am_G_tbl (gin_X4 w hw)) (hts _ (List.mem_append_right _ (List.mem_of_getElem? (i := 135) (by decide +kernel))))
      exact ⟨(a, b), fun q hq => by cases hq; exact h⟩
    | 5 =>
      obtain ⟨a, b, h⟩ := u_known (C := RX5) (T := TX5) (N := 14) (n := 14) hts (fun w hw => am_G_tbl (gin_X5 w hw)) (hts _ (List.mem_append_right _ (List.mem_of_getElem? (i := 45) (by decide +kernel))))
      exact ⟨(a, b), fun q hq => by cases hq; exact h⟩
    | 6 =>
      obtain ⟨a, b, h⟩ := u_known (C := RX6) (T := TX6) (N := 2) (n := 2) hts (fun w hw => am_G_tbl (gin_X6 w hw)) (hts _ (List.mem_append_right _ (List.mem_of_getElem? (i := 26) (by decide +kernel))))
      exact ⟨(a, b), fun q hq => by cases hq; exact h⟩
    | 7 =>
      obtain ⟨a, b, h⟩ := u_known (C := RX7) (T := TX7) (N := 2) (n := 2) hts (fun w hw => am_G_tbl (gin_X7 w hw)) (hts _ (List.mem_append_right _ (List.mem_of_getElem? (i := 51) (by decide +kernel))))
      exact ⟨(a, b), fun q hq => by cases hq; exact h⟩
    | 8 =>
      obtain ⟨a, b, h⟩ := u_known (C := RX8) (T := TX8) (N := 8) (n := 8) hts (fun w hw => am_G_tbl (gin_X8 w hw)) (hts _ (List.mem_append_right _ (List.mem_of_getElem? (i := 18) (by decide +kernel))))
      exact ⟨(a, b), fun q hq => by cases hq; exact h⟩
    | 9 =>
      obtain ⟨a, b, h⟩ := u_known (C := RX9) (T := TX9) (N := 45) (n := 45) hts (fun w hw => am_G_tbl (gin_X9 w hw)) (hts _ (List.mem_append_right _ (List.mem_of_getElem? (i := 752) (by decide +kernel))))
      exact ⟨(a, b), fun q hq => by cases hq; exact h⟩
    | n + 10 => exact ⟨(0, fun _ => 0), fun q hq => by simp at hq⟩
  obtain ⟨r, hr⟩ := Classical.axiomOfChoice hk
  exact ⟨(fun c => (r c).1, fun c => (r c).2), hr⟩
theorem st_tc {s : State} {args : Array Value} (hts : ∀ w ∈ lw_tbl, w.before args s = true) : ∃ tc : Nat → ClassId, ∀ (k : Nat) (q : ClassId × FieldType), (am_tys tc)[k]? = some q → ArrOfT s q.1 q.2 ∧ va_RA s q.1 q.2 := by
  obtain ⟨c0, k0, p0, f0, g0, e0⟩ := Cond.arrayClass_spec (hts (.arrayClass .int) (List.mem_append_right _ (List.mem_of_getElem? (i := 43) (by decide +kernel))))
  obtain ⟨c1, k1, p1, f1, g1, e1⟩ := Cond.arrayClass_spec (hts (.arrayClass .boolean) (List.mem_append_right _ (List.mem_of_getElem? (i := 893) (by decide +kernel))))
  obtain ⟨c2, k2, p2, f2, g2, e2⟩ := Cond.arrayClass_spec (hts (.arrayClass .long) (List.mem_append_right _ (List.mem_of_getElem? (i := 894) (by decide +kernel))))
  obtain ⟨p3, c3, k3, f3, i3, g3, e3, n3⟩ := Cond.arrayOver_spec (hts (.arrayOver (.object RX5)) (List.mem_append_right _ (List.mem_of_getElem? (i := 141) (by decide +kernel))))
  refine ⟨fun k => if k = 0 then c0 else if k = 1 then c1 else if k = 2 then c2 else c3, fun k q hq => ?_⟩
  match k, hq with
  | 0, hq =>
    cases hq
    exact ⟨fun n z => ⟨(fun k h => by cases h), k0, g0, p0, e0⟩, f0⟩
  | 1, hq =>
    cases hq
    exact ⟨fun n z => ⟨(fun k h => by cases h), k1, g1, p1, e1⟩, f1⟩
  | 2, hq =>
    cases hq
    exact ⟨fun n z => ⟨(fun k h => by cases h), k2, g2, p2, e2⟩, f2⟩
  | 3, hq =>
    cases hq
    exact ⟨fun n z => ⟨(fun k h => by cases h), k3, g3, p3, e3⟩, k3, p3, g3, e3, f3, n3⟩
  | k + 4, hq => simp [am_tys] at hq
theorem st_ad (base tl tm ts b : Nat) (adK adV : Nat → Nat) : ∃ ad : Int → Nat, (∀ k : Nat, ad ((k : Int) + 1) = base + k) ∧ ad (-1) = tl ∧ ad (-2) = tm ∧ (∀ i : Nat, i < 9 → ad (-3 - (i : Int)) = adK i) ∧ (∀ i : Nat, i < 9 → ad (-12 - (i : Int)) = adV i) ∧ ad (-21) = ts ∧ ad (-22) = b := by
  refine ⟨fun x => if 1 ≤ x then base + (x - 1).toNat else if x = -1 then tl else if x = -2 then tm else if -11 ≤ x ∧ x ≤ -3 then adK (-3 - x).toNat else if -20 ≤ x ∧ x ≤ -12 then adV (-12 - x).toNat else if x = -21 then ts else b, fun k => ?_, rfl, rfl, fun i hi => ?_, fun i hi => ?_, rfl, rfl⟩
  · dsimp only
    rw [if_pos (by omega)]
    omega
  · dsimp only
    rw [if_neg (by omega), if_neg (by omega), if_neg (by omega), if_pos (by omega), show (-3 - (-3 - (i : Int))).toNat = i by omega]
  · dsimp only
    rw [if_neg (by omega), if_neg (by omega), if_neg (by omega), if_neg (by omega), if_pos (by omega), show (-12 - (-12 - (i : Int))).toNat = i by omega]
theorem am_okw0 : am_okw false (fun _ _ => 0) := ⟨fun _ _ => ⟨fun _ => (show in64 0 from ⟨by decide, by decide⟩), fun _ => (show in32 0 from ⟨by decide, by decide⟩)⟩, fun h => by cases h⟩
theorem whole_start {p : Program} {e : Env} {s : State} {m : MethodId} {below : List Frame} {meth : Method} {c : Code} (l : Launch) (hflags : l.flags = flags0) {b L : Nat} {xs : Nat → Int32} (hL : L ≤ 2048) (C0 : lw_At p s m meth c b L xs) : W p l e room_1 s m #[Value.ref b] below meth c s.heap [] 0 0 (lw_Z below #[Value.ref b] s) (entryFrame m ([Value.ref b] : List Value).toArray 4) := by
  obtain ⟨hx, hb, hr, hml, hown, hts, hX, hbl, hlocks, hgv⟩ := id C0
  have hs : ∀ w ∈ flN, w.before #[Value.ref b] s = true := flat_of_before _ hgv
  have hA : ∀ a : Nat, a < s.heap.size → ¬ am_A s.heap.size a := fun a h => Nat.not_le.mpr h
  obtain ⟨tl, hl1, hl2⟩ := va_Tof (N := 9) (tm := tmL) (ty := .int) (f := fun j => .int (Int32.ofInt (am_least.getD j 0))) (A := am_A s.heap.size) (by decide) (hs _ fl_la) (va_eqt (hs _ fl_ll)) (fun j hj => va_eqt (hs _ (fl_lv j hj))) hA
  obtain ⟨tm, hm1, hm2⟩ := va_Tof (N := 9) (tm := tmM) (ty := .int) (f := fun j => .int (Int32.ofInt (am_most.getD j 0))) (A := am_A s.heap.size) (by decide) (hs _ fl_ma) (va_eqt (hs _ fl_ml)) (fun j hj => va_eqt (hs _ (fl_mv j hj))) hA
  have hZl : va_Z RX8 "LEAST_PARTS" "[I" (.ref tl) (am_A s.heap.size) s s.heap := va_Zof (hts _ (List.mem_append_right _ (List.mem_of_getElem? (i := 410) (by decide +kernel)))) (hts _ (List.mem_append_right _ (List.mem_of_getElem? (i := 1) (by decide +kernel)))) hl1 hA
  have hZm : va_Z RX8 "MOST_PARTS" "[I" (.ref tm) (am_A s.heap.size) s s.heap := va_Zof (hts _ (List.mem_append_right _ (List.mem_of_getElem? (i := 395) (by decide +kernel)))) (hts _ (List.mem_append_right _ (List.mem_of_getElem? (i := 1) (by decide +kernel)))) hm1 hA
  have hZc : va_Z "java/lang/String" "COMPACT_STRINGS" "Z" (.int 1) (am_A s.heap.size) s s.heap := va_Zof (hts _ (List.mem_append_right _ (List.mem_of_getElem? (i := 350) (by decide +kernel)))) (hts _ (List.mem_append_right _ (List.mem_of_getElem? (i := 11) (by decide +kernel)))) (va_eqt (hs _ fl_cs)) hA
  obtain ⟨ts, hZs⟩ : ∃ ts : Nat, va_Z RJ3 "SIOOBE_FORMATTER" "Ljava/util/function/BiFunction;" (.ref ts) (am_A s.heap.size) s s.heap ∨ va_Z RJ3 "SIOOBE_FORMATTER" "Ljava/util/function/BiFunction;" .null (am_A s.heap.size) s s.heap := by
    obtain ⟨v, hv, hvr⟩ := Cond.isRef_spec (hs _ fl_si)
    have hz := va_Zof (A := am_A s.heap.size) (hts (.laysStatic RJ3 "SIOOBE_FORMATTER" "Ljava/util/function/BiFunction;") (List.mem_append_right _ (List.mem_of_getElem? (i := 366) (by decide +kernel)))) (hts (.initialized RJ3) (List.mem_append_right _ (List.mem_of_getElem? (i := 13) (by decide +kernel)))) hv hA
    cases v with
    | ref a => exact ⟨a, Or.inl hz⟩
    | null => exact ⟨0, Or.inr hz⟩
    | _ => cases hvr
  obtain ⟨adK, adV, hS1, hS2⟩ := vk_Sof (N := 9) (tm := tmS) (len := am_slen) (byt := am_sbyt) (A := am_A s.heap.size) (fun i hi => by have := am_slen_le i hi; omega) (fun i hi => hs _ (fl_ex i hi)) (fun i hi => hs _ (fl_co i hi)) (fun i hi => hs _ (fl_ar i hi)) (fun i hi => hs _ (fl_le i hi)) (fun i hi j hj => hs _ (fl_el i hi j hj)) (fun i j hi hj hij => (fl_ne i hi j hj hij).imp (hs _) (hs _)) hA
  obtain ⟨D, hD⟩ := st_D hts
  obtain ⟨tc, htc⟩ := st_tc hts
  obtain ⟨ad, a1, a2, a3, a4, a5, a6, a7⟩ := st_ad s.heap.size tl tm ts b adK adV
  have hE : am_E ad (am_A s.heap.size) s s.heap := by
    refine ⟨by rw [a2]; exact ⟨hZl, hl2⟩, by rw [a3]; exact ⟨hZm, hm2⟩, hZc, ⟨fun i hi => ?_, fun i j hi hj q => ?_⟩, fun i hi => ?_, by rw [a6]; exact hZs, va_AO.of (hts (.arrayOver (.object RX5)) (List.mem_append_right _ (List.mem_of_getElem? (i := 141) (by decide +kernel)))), fun w hw => am_nw (List.mem_filter.mp hw).2 (hts _ (am_N_tbl hw))⟩
    · dsimp only
      rw [a4 i hi, a5 i hi]
      exact hS1.1 i hi
    · dsimp only at q
      rw [a4 i hi, a4 j hj] at q
      exact hS1.2 i j hi hj q
    · rw [a4 i hi]
      exact vk_R.of (hts _ (tb_st i hi)) (hS2 i hi)
  rw [lg_entry_eq]
  have eA : ([.inr (.inr (-22))] : List AV).map (am_cv ad) = [Value.ref b] := by
    show [am_rf ad (-22)] = _
    rw [am_rf1 (by decide), a7]
  have hlv := am_loc_has ad [.inr (.inr (-22))] (nL := 4) (Nat.le_of_ble_eq_true rfl)
  rw [eA] at hlv
  have hC : am_C (lwY meth) code 4 ret p s m #[Value.ref b] meth c := ⟨hx, hb, hml, hr, hlocks, fun w hw => hts w (am_G_tbl hw), hown, rfl⟩
  exact lw_begin hL D tc ad s.heap.size p l e room_1 s m #[Value.ref b] below meth c (lw_Z below #[Value.ref b] s) s.heap [] _ 0 0 ⟨hC, rfl, rfl, by rw [a7], by rw [a7]; exact hX, by rw [a7]; exact hbl, rfl⟩
    ⟨hE, ⟨hD, htc⟩, a1, Nat.le_refl _, rfl, fun k q h => absurd (am_wl_get h).1 (Nat.not_lt_zero _), va_S.rf, hlv, rfl, am_okw0, am_loc_ok (nL := 4) (as := [.inr (.inr (-22))]) (fun v hv => by rw [List.mem_singleton.mp hv]; exact ⟨by decide, by decide⟩), fun v hv => absurd hv List.not_mem_nil⟩ rfl (Nat.le_of_ble_eq_true rfl) (Nat.le_of_ble_eq_true rfl)
