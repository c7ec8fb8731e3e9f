/-! ===== rules: arrays ===== -/
section AMR4
variable {f : Bool} {y : MethodName} {cc : ByteArray} {nL : Nat} {rt : Option FieldType} {d n kc ks pc pc' : Nat} {als als' : List (Option AV)} {st st' : List AV} {w w' : Wd} {R : Option AV → Wd → Prop}
theorem am_arr0 {b : Int} {k N : Nat} (h : am_arr n b k N) : b ≠ 0 := by have := h.1.1; omega
theorem am_isL_arr {b j : Int} {k N : Nat} (h : am_lay b = (k, N)) (hk : k < 4) : am_isL b j ↔ k = 2 := by
  unfold am_isL
  rw [h]
  constructor
  · rintro (q | ⟨z, q1, q2⟩)
    · exact q
    · dsimp only at q1; omega
  · intro q
    exact Or.inl q
theorem am_okw_arr {b j v : Int} {k N : Nat} (h : am_lay b = (k, N)) (hk : k < 4) (hw : am_okw f w) (hv : if k = 2 then in64 v else in32 v) : am_okw f (wset w b j v) := by
  refine am_okw_set hw ⟨fun q => ?_, fun q => ?_⟩ (fun _ ci k2 x h1 _ _ => ?_)
  · rw [am_isL_arr h hk] at q
    rw [if_pos q] at hv
    exact hv
  · rw [am_isL_arr h hk] at q
    rw [if_neg q] at hv
    exact hv
  · rw [h] at h1
    dsimp only at h1
    omega
theorem WA.iaload {b j : Int} {N : Nat} (hd : decode cc pc = .ok (.iaload, 1)) (ho : am_arr n b 0 N) (h0 : 0 ≤ j) (h1 : j < N) (kk : WA f y cc nL rt d n kc ks (pc + 1) als (.inl (w b j) :: st) w R) : WA f y cc nL rt d n kc ks pc als (.inl j :: .inr (.inr b) :: st) w R := by
  refine WA.pure (fun h hw _ => am_ok1 (show am_ok (.inl (w b j)) from (hw.1 b j).2 (fun q => by have := (am_isL_arr ho.2 (by decide)).mp q; omega)) (am_tl (am_tl h))) (fun D tc ad base p l e rm s m args below meth c H locs ls cells slots Q CC X hst _ _ _ _ kk => ?_) kk
  obtain ⟨hx, hb, -⟩ := CC
  obtain ⟨x1, x2, x3, x4, x5, x6, x7, x8, x9, x10, x11, x12⟩ := X
  have he := am_wl_at (tc := tc) (ad := ad) (n := n) (w := w) ho.1.1 ho.1.2
  rw [am_ent_i ho.2] at he
  show W p l e rm s m args below meth c H locs cells slots Q (F0 m pc ls (.int (Int32.ofInt j) :: am_rf ad b :: st.map (am_cv ad)))
  rw [am_rf1 (am_arr0 ho)]
  refine va_iald hx hb x2 x6 _ 0 he rfl (i32_in (am_hd hst) h0 h1) hd ?_
  rw [i32_nat (am_hd hst) h0]
  have e : ((j.toNat : Nat) : Int) = j := by omega
  rw [e]
  exact kk
theorem WA.zaload {b j : Int} {N : Nat} (hd : decode cc pc = .ok (.baload, 1)) (ho : am_arr n b 1 N) (h0 : 0 ≤ j) (h1 : j < N) (kk : WA f y cc nL rt d n kc ks (pc + 1) als (.inl (w b j) :: st) w R) : WA f y cc nL rt d n kc ks pc als (.inl j :: .inr (.inr b) :: st) w R := by
  refine WA.pure (fun h hw _ => am_ok1 (show am_ok (.inl (w b j)) from (hw.1 b j).2 (fun q => by have := (am_isL_arr ho.2 (by decide)).mp q; omega)) (am_tl (am_tl h))) (fun D tc ad base p l e rm s m args below meth c H locs ls cells slots Q CC X hst _ _ _ _ kk => ?_) kk
  obtain ⟨hx, hb, -⟩ := CC
  obtain ⟨x1, x2, x3, x4, x5, x6, x7, x8, x9, x10, x11, x12⟩ := X
  have he := am_wl_at (tc := tc) (ad := ad) (n := n) (w := w) ho.1.1 ho.1.2
  rw [am_ent_z ho.2] at he
  show W p l e rm s m args below meth c H locs cells slots Q (F0 m pc ls (.int (Int32.ofInt j) :: am_rf ad b :: st.map (am_cv ad)))
  rw [am_rf1 (am_arr0 ho)]
  refine va_zald hx hb x2 x6 _ 1 he rfl (i32_in (am_hd hst) h0 h1) hd ?_
  rw [i32_nat (am_hd hst) h0]
  have e : ((j.toNat : Nat) : Int) = j := by omega
  rw [e]
  exact kk
theorem WA.laload {b j : Int} {N : Nat} (hd : decode cc pc = .ok (.laload, 1)) (ho : am_arr n b 2 N) (h0 : 0 ≤ j) (h1 : j < N) (kk : WA f y cc nL rt d n kc ks (pc + 1) als (.inr (.inl (w b j)) :: st) w R) : WA f y cc nL rt d n kc ks pc als (.inl j :: .inr (.inr b) :: st) w R := by
  refine WA.pure (fun h hw _ => am_ok1 (show am_ok (.inr (.inl (w b j))) from (hw.1 b j).1 ((am_isL_arr ho.2 (by decide)).mpr rfl)) (am_tl (am_tl h))) (fun D tc ad base p l e rm s m args below meth c H locs ls cells slots Q CC X hst _ _ _ _ kk => ?_) kk
  obtain ⟨hx, hb, -⟩ := CC
  obtain ⟨x1, x2, x3, x4, x5, x6, x7, x8, x9, x10, x11, x12⟩ := X
  have he := am_wl_at (tc := tc) (ad := ad) (n := n) (w := w) ho.1.1 ho.1.2
  rw [am_ent_l ho.2] at he
  show W p l e rm s m args below meth c H locs cells slots Q (F0 m pc ls (.int (Int32.ofInt j) :: am_rf ad b :: st.map (am_cv ad)))
  rw [am_rf1 (am_arr0 ho)]
  refine va_lald hx hb x2 x6 _ 2 he rfl (i32_in (am_hd hst) h0 h1) hd ?_
  rw [i32_nat (am_hd hst) h0]
  have e : ((j.toNat : Nat) : Int) = j := by omega
  rw [e]
  exact kk
theorem WA.aaload {b j : Int} {N : Nat} (hd : decode cc pc = .ok (.aaload, 1)) (ho : am_arr n b 3 N) (h0 : 0 ≤ j) (h1 : j < N) (kk : WA f y cc nL rt d n kc ks (pc + 1) als (.inr (.inr (w b j)) :: st) w R) : WA f y cc nL rt d n kc ks pc als (.inl j :: .inr (.inr b) :: st) w R := by
  refine WA.pure (fun h hw _ => am_ok1 (show am_ok (.inr (.inr (w b j))) from (hw.1 b j).2 (fun q => by have := (am_isL_arr ho.2 (by decide)).mp q; omega)) (am_tl (am_tl h))) (fun D tc ad base p l e rm s m args below meth c H locs ls cells slots Q CC X hst _ _ _ _ kk => ?_) kk
  obtain ⟨hx, hb, -⟩ := CC
  obtain ⟨x1, x2, x3, x4, x5, x6, x7, x8, x9, x10, x11, x12⟩ := X
  have he := am_wl_at (tc := tc) (ad := ad) (n := n) (w := w) ho.1.1 ho.1.2
  rw [am_ent_q ho.2] at he
  show W p l e rm s m args below meth c H locs cells slots Q (F0 m pc ls (.int (Int32.ofInt j) :: am_rf ad b :: st.map (am_cv ad)))
  rw [am_rf1 (am_arr0 ho)]
  refine va_aldq hx hb x2 x6 _ 3 he rfl (i32_in (am_hd hst) h0 h1) hd ?_
  rw [i32_nat (am_hd hst) h0]
  have e : ((j.toNat : Nat) : Int) = j := by omega
  rw [e]
  have e2 : va_rf (if w b j = 0 then none else some (ad (w b j))) = am_rf ad (w b j) := by
    unfold am_rf
    split <;> rfl
  rw [e2]
  exact kk
theorem WA.iastore {b j x : Int} {N : Nat} (hd : decode cc pc = .ok (.iastore, 1)) (ho : am_arr n b 0 N) (h0 : 0 ≤ j) (h1 : j < N) (kk : WA f y cc nL rt d n kc ks (pc + 1) als st (wset w b j x) R) : WA f y cc nL rt d n kc ks pc als (.inl x :: .inl j :: .inr (.inr b) :: st) w R := by
  refine WA.heap (w' := wset w b j x) (b := b) ho.1.1 wset_ne (fun h hw _ => ⟨am_okw_arr ho.2 (by decide) hw (am_hd h), am_tl (am_tl (am_tl h))⟩) (fun D tc ad base p l e rm s m args below meth c H locs ls cells slots Q CC X hD hst _ _ _ _ kk => ?_) kk
  obtain ⟨hx, hb, -⟩ := CC
  obtain ⟨x1, x2, x3, x4, x5, x6, x7, x8, x9, x10, x11, x12⟩ := X
  have he := am_wl_at (tc := tc) (ad := ad) (n := n) (w := w) ho.1.1 ho.1.2
  rw [am_ent_i ho.2] at he
  have hj : am_ok (.inl j) := am_hd (am_tl hst)
  show W p l e rm s m args below meth c H locs cells slots Q (F0 m pc ls (am_cv ad (.inl x) :: .int (Int32.ofInt j) :: am_rf ad b :: st.map (am_cv ad)))
  rw [am_rf1 (am_arr0 ho)]
  refine va_iast hx hb x2 x6 hD x7 _ 0 he rfl (i32_in hj h0 h1) hd (fun H1 locs1 hP1 hD1 hS1 => kk H1 locs1 ?_ hS1)
  rw [i32_nat hj h0] at hP1
  rw [am_ent_i ho.2]
  have e : upd (fun q : Nat => Int32.ofInt (w b q)) j.toNat (Int32.ofInt x) = (fun q : Nat => Int32.ofInt (wset w b j x b q)) := by
    funext q
    by_cases hq : q = j.toNat
    · subst hq
      have h8 : wset w b j x b ((j.toNat : Nat) : Int) = x := if_pos ⟨rfl, by omega⟩
      rw [h8]
      simp [upd]
    · have h8 : wset w b j x b (q : Int) = w b q := if_neg (fun z => hq (by omega))
      rw [h8]
      simp [upd, hq]
  rw [← e]
  exact hP1
theorem WA.zastore {b j x : Int} {N : Nat} (hd : decode cc pc = .ok (.bastore, 1)) (ho : am_arr n b 1 N) (h0 : 0 ≤ j) (h1 : j < N) (hz : x = 0 ∨ x = 1) (kk : WA f y cc nL rt d n kc ks (pc + 1) als st (wset w b j x) R) : WA f y cc nL rt d n kc ks pc als (.inl x :: .inl j :: .inr (.inr b) :: st) w R := by
  refine WA.heap (w' := wset w b j x) (b := b) ho.1.1 wset_ne (fun h hw _ => ⟨am_okw_arr ho.2 (by decide) hw (am_hd h), am_tl (am_tl (am_tl h))⟩) (fun D tc ad base p l e rm s m args below meth c H locs ls cells slots Q CC X hD hst _ _ _ _ kk => ?_) kk
  obtain ⟨hx, hb, -⟩ := CC
  obtain ⟨x1, x2, x3, x4, x5, x6, x7, x8, x9, x10, x11, x12⟩ := X
  have he := am_wl_at (tc := tc) (ad := ad) (n := n) (w := w) ho.1.1 ho.1.2
  rw [am_ent_z ho.2] at he
  have hj : am_ok (.inl j) := am_hd (am_tl hst)
  show W p l e rm s m args below meth c H locs cells slots Q (F0 m pc ls (am_cv ad (.inl x) :: .int (Int32.ofInt j) :: am_rf ad b :: st.map (am_cv ad)))
  rw [am_rf1 (am_arr0 ho)]
  refine va_zast hx hb x2 x6 hD x7 _ 1 he rfl (i32_in hj h0 h1) hd (fun H1 locs1 hP1 hD1 hS1 => kk H1 locs1 ?_ hS1)
  rw [i32_nat hj h0] at hP1
  rw [am_ent_z ho.2]
  have hnar : vp_nar .boolean (Int32.ofInt x) = Int32.ofInt x := by rcases hz with rfl | rfl <;> rfl
  rw [hnar] at hP1
  have e : upd (fun q : Nat => Int32.ofInt (w b q)) j.toNat (Int32.ofInt x) = (fun q : Nat => Int32.ofInt (wset w b j x b q)) := by
    funext q
    by_cases hq : q = j.toNat
    · subst hq
      have h8 : wset w b j x b ((j.toNat : Nat) : Int) = x := if_pos ⟨rfl, by omega⟩
      rw [h8]
      simp [upd]
    · have h8 : wset w b j x b (q : Int) = w b q := if_neg (fun z => hq (by omega))
      rw [h8]
      simp [upd, hq]
  rw [← e]
  exact hP1
theorem WA.lastore {b j x : Int} {N : Nat} (hd : decode cc pc = .ok (.lastore, 1)) (ho : am_arr n b 2 N) (h0 : 0 ≤ j) (h1 : j < N) (kk : WA f y cc nL rt d n kc ks (pc + 1) als st (wset w b j x) R) : WA f y cc nL rt d n kc ks pc als (.inr (.inl x) :: .inl j :: .inr (.inr b) :: st) w R := by
  refine WA.heap (w' := wset w b j x) (b := b) ho.1.1 wset_ne (fun h hw _ => ⟨am_okw_arr ho.2 (by decide) hw (am_hd h), am_tl (am_tl (am_tl h))⟩) (fun D tc ad base p l e rm s m args below meth c H locs ls cells slots Q CC X hD hst _ _ _ _ kk => ?_) kk
  obtain ⟨hx, hb, -⟩ := CC
  obtain ⟨x1, x2, x3, x4, x5, x6, x7, x8, x9, x10, x11, x12⟩ := X
  have he := am_wl_at (tc := tc) (ad := ad) (n := n) (w := w) ho.1.1 ho.1.2
  rw [am_ent_l ho.2] at he
  have hj : am_ok (.inl j) := am_hd (am_tl hst)
  show W p l e rm s m args below meth c H locs cells slots Q (F0 m pc ls (am_cv ad (.inr (.inl x)) :: .int (Int32.ofInt j) :: am_rf ad b :: st.map (am_cv ad)))
  rw [am_rf1 (am_arr0 ho)]
  refine va_last hx hb x2 x6 hD x7 _ 2 he rfl (i32_in hj h0 h1) hd (fun H1 locs1 hP1 hD1 hS1 => kk H1 locs1 ?_ hS1)
  rw [i32_nat hj h0] at hP1
  rw [am_ent_l ho.2]
  have e : vp_updL (fun q : Nat => Int64.ofInt (w b q)) j.toNat (Int64.ofInt x) = (fun q : Nat => Int64.ofInt (wset w b j x b q)) := by
    funext q
    by_cases hq : q = j.toNat
    · subst hq
      have h8 : wset w b j x b ((j.toNat : Nat) : Int) = x := if_pos ⟨rfl, by omega⟩
      rw [h8]
      simp [vp_updL]
    · have h8 : wset w b j x b (q : Int) = w b q := if_neg (fun z => hq (by omega))
      rw [h8]
      simp [vp_updL, hq]
  rw [← e]
  exact hP1
theorem WA.aastore {b j x : Int} {N : Nat} (hd : decode cc pc = .ok (.aastore, 1)) (ho : am_arr n b 3 N) (h0 : 0 ≤ j) (h1 : j < N) (hs : am_obj n x 5 14) (kk : WA f y cc nL rt d n kc ks (pc + 1) als st (wset w b j x) R) : WA f y cc nL rt d n kc ks pc als (.inr (.inr x) :: .inl j :: .inr (.inr b) :: st) w R := by
  refine WA.heap (w' := wset w b j x) (b := b) ho.1.1 wset_ne (fun h hw _ => ⟨am_okw_arr ho.2 (by decide) hw (am_hd h), am_tl (am_tl (am_tl h))⟩) (fun D tc ad base p l e rm s m args below meth c H locs ls cells slots Q CC X hD hst _ _ _ _ kk => ?_) kk
  obtain ⟨hx, hb, -⟩ := CC
  obtain ⟨x1, x2, x3, x4, x5, x6, x7, x8, x9, x10, x11, x12⟩ := X
  have he := am_wl_at (tc := tc) (ad := ad) (n := n) (w := w) ho.1.1 ho.1.2
  rw [am_ent_q ho.2] at he
  have hj : am_ok (.inl j) := am_hd (am_tl hst)
  show W p l e rm s m args below meth c H locs cells slots Q (F0 m pc ls (am_cv ad (.inr (.inr x)) :: .int (Int32.ofInt j) :: am_rf ad b :: st.map (am_cv ad)))
  rw [am_rf1 (am_arr0 ho)]
  have hx0 : x ≠ 0 := am_obj0 hs
  have hex := am_wl_at (tc := tc) (ad := ad) (n := n) (w := w) hs.1.1 hs.1.2
  rw [am_ent_o hs.2] at hex
  show W p l e rm s m args below meth c H locs cells slots Q (F0 m pc ls (am_rf ad x :: .int (Int32.ofInt j) :: .ref (ad b) :: st.map (am_cv ad)))
  rw [am_rf1 hx0]
  refine va_astq hx hb x2 x6 hD x7 _ 3 _ 5 (r := (RX5, TX5, 14)) he rfl hex rfl (i32_in hj h0 h1) hd (fun H1 locs1 hP1 hD1 hS1 => kk H1 locs1 ?_ hS1)
  rw [i32_nat hj h0] at hP1
  rw [am_ent_q ho.2]
  have e : va_up (fun q : Nat => if w b q = 0 then none else some (ad (w b q))) j.toNat (some (ad x)) = (fun q : Nat => if wset w b j x b q = 0 then none else some (ad (wset w b j x b q))) := by
    funext q
    by_cases hq : q = j.toNat
    · subst hq
      have h8 : wset w b j x b ((j.toNat : Nat) : Int) = x := if_pos ⟨rfl, by omega⟩
      rw [h8]
      simp [va_up, hx0]
    · have h8 : wset w b j x b (q : Int) = w b q := if_neg (fun z => hq (by omega))
      rw [h8]
      simp [va_up, hq]
  rw [← e]
  exact hP1
end AMR4
