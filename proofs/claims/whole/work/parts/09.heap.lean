/-! ===== rules: fields and arrays ===== -/
abbrev am_obj (n : Nat) (b : Int) (ci N : Nat) : Prop := (1 ≤ b ∧ b ≤ n) ∧ am_lay b = (ci + 4, N)
abbrev am_arr (n : Nat) (b : Int) (k N : Nat) : Prop := (1 ≤ b ∧ b ≤ n) ∧ am_lay b = (k, N)
def am_av (s : Nat) (x : Int) : AV := match s with
  | 0 => .inl x
  | 1 => .inr (.inl x)
  | _ => .inr (.inr x)
theorem am_av_cv (ad : Int → Nat) (s : Nat) (x : Int) : am_cv ad (am_av s x) = am_val ad s x := by
  match s with
  | 0 => rfl
  | 1 => rfl
  | _ + 2 => rfl
theorem am_ent_o {tc : Nat → ClassId} {ad : Int → Nat} {w : Wd} {b : Int} {ci N : Nat} (h : am_lay b = (ci + 4, N)) : am_ent tc ad w b = .inr (ci, (List.range N).map (fun j => am_val ad (am_sort (am_fty ci j)) (w b j))) := by
  unfold am_ent
  rw [h]
theorem am_ent_i {tc : Nat → ClassId} {ad : Int → Nat} {w : Wd} {b : Int} {N : Nat} (h : am_lay b = (0, N)) : am_ent tc ad w b = .inl (tc 0, N, .inl (fun j => Int32.ofInt (w b j))) := by
  unfold am_ent
  rw [h]
theorem am_ent_z {tc : Nat → ClassId} {ad : Int → Nat} {w : Wd} {b : Int} {N : Nat} (h : am_lay b = (1, N)) : am_ent tc ad w b = .inl (tc 1, N, .inl (fun j => Int32.ofInt (w b j))) := by
  unfold am_ent
  rw [h]
theorem am_ent_l {tc : Nat → ClassId} {ad : Int → Nat} {w : Wd} {b : Int} {N : Nat} (h : am_lay b = (2, N)) : am_ent tc ad w b = .inl (tc 2, N, .inr (.inl (fun j => Int64.ofInt (w b j)))) := by
  unfold am_ent
  rw [h]
theorem am_ent_q {tc : Nat → ClassId} {ad : Int → Nat} {w : Wd} {b : Int} {N : Nat} (h : am_lay b = (3, N)) : am_ent tc ad w b = .inl (tc 3, N, .inr (.inr (.inr (.inr (fun j => if w b j = 0 then none else some (ad (w b j))))))) := by
  unfold am_ent
  rw [h]
theorem am_okw_set {f : Bool} {w : Wd} {c j v : Int} (h : am_okw f w) (hr : (am_isL c j → in64 v) ∧ (¬ am_isL c j → in32 v)) (hf : f = true → ∀ (ci k : Nat) (x : Int), (am_lay c).1 = ci + 4 → j = (k : Int) → am_fixv ci k c = some x → v = x) : am_okw f (wset w c j v) := by
  refine ⟨fun c' j' => ?_, fun hft c' ci k x h1 h2 => ?_⟩
  · by_cases e : c' = c ∧ j' = j
    · obtain ⟨rfl, rfl⟩ := e
      simpa [wset] using hr
    · have : wset w c j v c' j' = w c' j' := if_neg e
      rw [this]
      exact h.1 c' j'
  · by_cases e : c' = c ∧ (k : Int) = j
    · obtain ⟨rfl, e2⟩ := e
      have : wset w c' j v c' k = v := if_pos ⟨rfl, e2⟩
      rw [this]
      exact hf hft ci k x h1 e2.symm h2
    · have : wset w c j v c' k = w c' k := if_neg e
      rw [this]
      exact h.2 hft c' ci k x h1 h2
theorem wset_ne {w : Wd} {c j v : Int} : ∀ c', c' ≠ c → wset w c j v c' = w c' := fun c' h => by
  funext i
  exact if_neg (fun q => h q.1)
section AMR3
variable {f : Bool} {y : MethodName} {cc : ByteArray} {nL : Nat} {rt : Option FieldType} {d n kc ks pc pc' : Nat} {als : List (Option AV)} {st st' : List AV} {w w' : Wd} {R : Option AV → Wd → Prop}
theorem WA.heap {b : Int} (hb1 : 1 ≤ b) (hw : ∀ c', c' ≠ b → w' c' = w c') (hok : (∀ v ∈ st, am_ok v) → am_okw f w → (∀ v, some v ∈ als → am_ok v) → am_okw f w' ∧ ∀ v ∈ st', am_ok v)
    (h : ∀ (D : va_G) (tc : Nat → ClassId) (ad : Int → Nat) (base : Nat) (p : Program) (l : Launch) (e : Env) (rm : Room) (s : State) (m : MethodId) (args : Array Value) (below : List Frame) (meth : Method) (c : Code) (H : Heap) (locs : List Loc) (ls : Array Slot) (cells slots : Nat) (Q : State → Prop),
      am_C y cc nL rt p s m args meth c → am_X f D tc ad base nL n s als st w H locs ls cells → va_D (am_A base) (am_wl tc ad n w) → (∀ v ∈ st, am_ok v) → cells ≤ rm.cells → slots ≤ rm.slots → d ≤ rm.frames → 64 * d ≤ rm.locals →
      (∀ (H1 : Heap) (locs1 : List Loc), va_P D vwCl ((am_wl tc ad n w).set (b - 1).toNat (ad b, am_ent tc ad w' b)) H1 → va_S (am_A base) s.heap H1 locs1 → W p l e rm s m args below meth c H1 locs1 cells slots Q (F0 m pc' ls (st'.map (am_cv ad)))) → W p l e rm s m args below meth c H locs cells slots Q (F0 m pc ls (st.map (am_cv ad))))
    (k : WA f y cc nL rt d n kc ks pc' als st' w' R) : WA f y cc nL rt d n kc ks pc als st w R := by
  intro D tc ad base p l e rm s m args below meth c H locs ls cells slots MC MS C X h3 h4 h5 h6 h7 h8
  obtain ⟨x1, x2, x3, x4, x5, x6, x7, x8, x9, x10, x11, x12⟩ := id X
  refine h D tc ad base p l e rm s m args below meth c H locs ls cells slots _ C X (am_wl_D x3) x12 (by omega) (by omega) h7 h8 (fun H1 locs1 hP hS => ?_)
  rw [am_wl_set hb1 hw] at hP
  obtain ⟨o1, o2⟩ := hok x12 x10 x11
  exact k D tc ad base p l e rm s m args below meth c H1 locs1 ls cells slots MC MS C ⟨x1, x2, x3, x4, x5, hP, hS, x8, x9, o1, x11, o2⟩ h3 h4 h5 h6 h7 h8
theorem am_obj0 {b : Int} {ci N : Nat} (h : am_obj n b ci N) : b ≠ 0 := by have := h.1.1; omega
/-- getfield -/
theorem WA.getfield {b : Int} {ci N i k : Nat} {C : String} {T : u_T} (hd : decode cc pc = .ok (.getfield i, 3)) (ho : am_obj n b ci N) (hc : vwCl[ci]? = some (C, T, N)) (hk : k < N) (hl : Cond.fieldLink y.cls i (T k).1 (T k).2.1 (T k).2.2.1 ∈ am_G) (hin : ∀ w ∈ u_ws C T N, w ∈ am_G)
    (hL : am_sort (am_fty ci k) = 1 ∨ ¬ am_sort (am_fty ci k) = 1) (kk : WA f y cc nL rt d n kc ks (pc + 3) als (am_av (am_sort (am_fty ci k)) (w b k) :: st) w R) : WA f y cc nL rt d n kc ks pc als (.inr (.inr b) :: st) w R := by
  refine WA.pure (fun h hw _ => am_ok1 ?_ (am_tl h)) (fun D tc ad base p l e rm s m args below meth c H locs ls cells slots Q CC X hst _ _ _ _ kk => ?_) kk
  · have hr := hw.1 b k
    have hiL : am_isL b k ↔ am_sort (am_fty ci k) = 1 := by
      unfold am_isL
      rw [ho.2]
      constructor
      · rintro (q | ⟨z, q1, q2⟩)
        · simp at q
        · simp at q1
          subst q1
          simpa using q2
      · intro q
        exact Or.inr ⟨ci, rfl, by simpa using q⟩
    revert hr hiL
    generalize am_sort (am_fty ci k) = z
    intro hr hiL
    match z, hiL with
    | 0, hiL => exact hr.2 (fun q => by have := hiL.mp q; omega)
    | 1, hiL => exact hr.1 (hiL.mpr rfl)
    | _ + 2, hiL => exact hr.2 (fun q => by have := hiL.mp q; omega)
  · obtain ⟨hx, hb, -, -, -, hts, hown, -⟩ := CC
    obtain ⟨x1, x2, x3, x4, x5, x6, x7, x8, x9, x10, x11, x12⟩ := X
    have he := am_wl_at (tc := tc) (ad := ad) (n := n) (w := w) ho.1.1 ho.1.2
    rw [am_ent_o ho.2] at he
    show W p l e rm s m args below meth c H locs cells slots Q (F0 m pc ls (am_rf ad b :: st.map (am_cv ad)))
    rw [am_rf1 (am_obj0 ho)]
    refine va_get (C := C) (T := T) (N := N) (v := am_cv ad (am_av (am_sort (am_fty ci k)) (w b k))) hx hb hts hin hown x2 x6 _ he hc k hk (hts _ hl) (fun _ h9 => h9) ?_ hd kk
    rw [am_av_cv]
    simp [hk]
theorem WA.getfix {b x : Int} {ci N i k : Nat} {C : String} {T : u_T} (hf : f = true) (hd : decode cc pc = .ok (.getfield i, 3)) (ho : am_obj n b ci N) (hc : vwCl[ci]? = some (C, T, N)) (hk : k < N) (hl : Cond.fieldLink y.cls i (T k).1 (T k).2.1 (T k).2.2.1 ∈ am_G) (hin : ∀ w ∈ u_ws C T N, w ∈ am_G)
    (hs : am_sort (am_fty ci k) = 2) (hv : am_fixv ci k b = some x) (kk : WA f y cc nL rt d n kc ks (pc + 3) als (.inr (.inr x) :: st) w R) : WA f y cc nL rt d n kc ks pc als (.inr (.inr b) :: st) w R := by
  intro D tc ad base p l e rm s m args below meth c H locs ls cells slots MC MS CC X
  have hw : am_okw f w := X.2.2.2.2.2.2.2.2.2.1
  have he : w b k = x := hw.2 hf b ci k x (by rw [ho.2]) hv
  refine WA.getfield hd ho hc hk hl hin (by omega) ?_ D tc ad base p l e rm s m args below meth c H locs ls cells slots MC MS CC X
  rw [hs, he]
  exact kk
theorem am_map_set {α : Type} {g g' : Nat → α} {N k : Nat} (hk : k < N) (hg : ∀ j, j ≠ k → g' j = g j) : ((List.range N).map g).set k (g' k) = (List.range N).map g' := by
  apply List.ext_getElem?
  intro i
  rw [List.getElem?_set]
  simp only [List.getElem?_map, List.length_map, List.length_range]
  by_cases hi : i < N
  · rw [List.getElem?_range hi]
    by_cases e : k = i
    · subst e
      simp [hk]
    · rw [if_neg e]
      simp [hg i (fun q => e q.symm)]
  · rw [List.getElem?_eq_none (by simpa using hi)]
    by_cases e : k = i
    · omega
    · rw [if_neg e]
      simp [hi]
/-- putfield of a field that isn't final -/
theorem WA.putfield {b x : Int} {ci N i k : Nat} {C : String} {T : u_T} {ty : FieldType} (ty0 : Nat → FieldType) (hty : ∀ k, k < N → parseFieldDescriptor (T k).2.2.1 = some (ty0 k)) (hnm : ∀ a, a < N → ∀ b, b < N → a ≠ b → (T a).2.1 ≠ (T b).2.1)
    (hd : decode cc pc = .ok (.putfield i, 3)) (ho : am_obj n b ci N) (hc : vwCl[ci]? = some (C, T, N)) (hk : k < N) (hl : Cond.fieldLink y.cls i (T k).1 (T k).2.1 (T k).2.2.1 ∈ am_G) (hin : ∀ w ∈ u_ws C T N, w ∈ am_G) (hfin : (T k).2.2.2 = false) (hpd : parseFieldDescriptor (T k).2.2.1 = some ty)
    {v : AV} (hv : v = am_av (am_sort (am_fty ci k)) x) (hfix : (am_fixT ci).getD k none = none) (hn : ∀ ad, narrow ty (am_cv ad v) = am_cv ad v) (hfit : ∀ ad, fits ty (am_cv ad v) = true)
    (kk : WA f y cc nL rt d n kc ks (pc + 3) als st (wset w b k x) R) : WA f y cc nL rt d n kc ks pc als (v :: .inr (.inr b) :: st) w R := by
  refine WA.heap (w' := wset w b k x) (b := b) ho.1.1 wset_ne (fun h hw _ => ⟨am_okw_set hw ?_ ?_, am_tl (am_tl h)⟩) (fun D tc ad base p l e rm s m args below meth c H locs ls cells slots Q CC X hD hst _ _ _ _ kk => ?_) kk
  · have h1 := am_hd h
    subst hv
    have hiL : am_isL b k ↔ am_sort (am_fty ci k) = 1 := by
      unfold am_isL
      rw [ho.2]
      constructor
      · rintro (q | ⟨z, q1, q2⟩)
        · simp at q
        · simp at q1
          subst q1
          simpa using q2
      · intro q
        exact Or.inr ⟨ci, rfl, by simpa using q⟩
    revert h1 hiL
    generalize am_sort (am_fty ci k) = z
    intro h1 hiL
    match z, hiL, h1 with
    | 0, hiL, h1 => exact ⟨fun q => by have := hiL.mp q; omega, fun _ => h1⟩
    | 1, hiL, h1 => exact ⟨fun _ => h1, fun q => absurd (hiL.mpr rfl) q⟩
    | _ + 2, hiL, h1 => exact ⟨fun q => by have := hiL.mp q; omega, fun _ => h1⟩
  · intro _ ci2 k2 x2 h1 h2 h3
    rw [ho.2] at h1
    have e1 : ci = ci2 := by
      dsimp only at h1
      omega
    have e2 : k = k2 := by omega
    subst e1; subst e2
    unfold am_fixv at h3
    rw [hfix] at h3
    cases h3
  · obtain ⟨hx, hb, -, -, -, hts, hown, -⟩ := CC
    obtain ⟨x1, x2, x3, x4, x5, x6, x7, x8, x9, x10, x11, x12⟩ := X
    have he := am_wl_at (tc := tc) (ad := ad) (n := n) (w := w) ho.1.1 ho.1.2
    rw [am_ent_o ho.2] at he
    show W p l e rm s m args below meth c H locs cells slots Q (F0 m pc ls (am_cv ad v :: am_rf ad b :: st.map (am_cv ad)))
    rw [am_rf1 (am_obj0 ho)]
    refine va_put (C := C) (T := T) (N := N) (ty := ty) hx hb hts hin ty0 hty hnm hown x2 x6 hD x7 _ he hc k hk (hts _ hl) (fun _ h9 => h9) hfin hpd (hn ad) (hfit ad) (by simp [hk]) hd (fun H1 locs1 hP1 hD1 hS1 => kk H1 locs1 ?_ hS1)
    have e : ((List.range N).map (fun j => am_val ad (am_sort (am_fty ci j)) (w b j))).set k (am_cv ad v) = (List.range N).map (fun j => am_val ad (am_sort (am_fty ci j)) (wset w b k x b j)) := by
      subst hv
      rw [am_av_cv]
      have h9 := am_map_set (g := fun j : Nat => am_val ad (am_sort (am_fty ci j)) (w b j)) (g' := fun j : Nat => am_val ad (am_sort (am_fty ci j)) (wset w b k x b j)) hk (fun j hj => by
        have : wset w b k x b j = w b j := if_neg (fun q => hj (by omega))
        rw [this])
      have h8 : wset w b k x b k = x := if_pos ⟨rfl, rfl⟩
      rw [h8] at h9
      exact h9
    rw [am_ent_o ho.2, ← e]
    exact hP1
/-- putfield of a final field, in a constructor -/
theorem WA.putfinal {b x : Int} {ci N i k : Nat} {C : String} {T : u_T} {ty : FieldType} (ty0 : Nat → FieldType) (hty : ∀ k, k < N → parseFieldDescriptor (T k).2.2.1 = some (ty0 k)) (hnm : ∀ a, a < N → ∀ b, b < N → a ≠ b → (T a).2.1 ≠ (T b).2.1)
    (hd : decode cc pc = .ok (.putfield i, 3)) (ho : am_obj n b ci N) (hc : vwCl[ci]? = some (C, T, N)) (hk : k < N) (hl : Cond.fieldLink y.cls i (T k).1 (T k).2.1 (T k).2.2.1 ∈ am_G) (hin : ∀ w ∈ u_ws C T N, w ∈ am_G) (hff : f = false) (hfin : (T k).2.2.2 = true) (hyn : y.name = "<init>") (hdecl : (T k).1 = y.cls) (hpd : parseFieldDescriptor (T k).2.2.1 = some ty)
    {v : AV} (hv : v = am_av (am_sort (am_fty ci k)) x) (hn : ∀ ad, narrow ty (am_cv ad v) = am_cv ad v) (hfit : ∀ ad, fits ty (am_cv ad v) = true)
    (kk : WA f y cc nL rt d n kc ks (pc + 3) als st (wset w b k x) R) : WA f y cc nL rt d n kc ks pc als (v :: .inr (.inr b) :: st) w R := by
  refine WA.heap (w' := wset w b k x) (b := b) ho.1.1 wset_ne (fun h hw _ => ⟨am_okw_set hw ?_ ?_, am_tl (am_tl h)⟩) (fun D tc ad base p l e rm s m args below meth c H locs ls cells slots Q CC X hD hst _ _ _ _ kk => ?_) kk
  · have h1 := am_hd h
    subst hv
    have hiL : am_isL b k ↔ am_sort (am_fty ci k) = 1 := by
      unfold am_isL
      rw [ho.2]
      constructor
      · rintro (q | ⟨z, q1, q2⟩)
        · simp at q
        · simp at q1
          subst q1
          simpa using q2
      · intro q
        exact Or.inr ⟨ci, rfl, by simpa using q⟩
    revert h1 hiL
    generalize am_sort (am_fty ci k) = z
    intro h1 hiL
    match z, hiL, h1 with
    | 0, hiL, h1 => exact ⟨fun q => by have := hiL.mp q; omega, fun _ => h1⟩
    | 1, hiL, h1 => exact ⟨fun _ => h1, fun q => absurd (hiL.mpr rfl) q⟩
    | _ + 2, hiL, h1 => exact ⟨fun q => by have := hiL.mp q; omega, fun _ => h1⟩
  · intro q
    rw [hff] at q
    cases q
  · obtain ⟨hx, hb, -, -, -, hts, hown, hmn⟩ := CC
    obtain ⟨x1, x2, x3, x4, x5, x6, x7, x8, x9, x10, x11, x12⟩ := X
    have he := am_wl_at (tc := tc) (ad := ad) (n := n) (w := w) ho.1.1 ho.1.2
    rw [am_ent_o ho.2] at he
    show W p l e rm s m args below meth c H locs cells slots Q (F0 m pc ls (am_cv ad v :: am_rf ad b :: st.map (am_cv ad)))
    rw [am_rf1 (am_obj0 ho)]
    refine va_putF (C := C) (T := T) (N := N) (ty := ty) hx hb hts hin ty0 hty hnm hown x2 x6 hD x7 _ he hc k hk (hts _ hl) (fun _ h9 => h9) hfin (by rw [hmn]; exact hyn) hdecl hpd (hn ad) (hfit ad) (by simp [hk]) hd (fun H1 locs1 hP1 hD1 hS1 => kk H1 locs1 ?_ hS1)
    have e : ((List.range N).map (fun j => am_val ad (am_sort (am_fty ci j)) (w b j))).set k (am_cv ad v) = (List.range N).map (fun j => am_val ad (am_sort (am_fty ci j)) (wset w b k x b j)) := by
      subst hv
      rw [am_av_cv]
      have h9 := am_map_set (g := fun j : Nat => am_val ad (am_sort (am_fty ci j)) (w b j)) (g' := fun j : Nat => am_val ad (am_sort (am_fty ci j)) (wset w b k x b j)) hk (fun j hj => by
        have : wset w b k x b j = w b j := if_neg (fun q => hj (by omega))
        rw [this])
      have h8 : wset w b k x b k = x := if_pos ⟨rfl, rfl⟩
      rw [h8] at h9
      exact h9
    rw [am_ent_o ho.2, ← e]
    exact hP1
end AMR3
