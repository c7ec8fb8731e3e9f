section IWS
variable {w w0 w1 w' : Wd} {d : Nat} {K : Int → Wd → Prop} {K2 : Int → Int → Wd → Prop} {n N : Int} {A : AS} {F : Fs} {H : List Fs}
theorem ckFault_rng {t : Int → Int} {n : Int} (hn : 0 ≤ n ∧ n ≤ 30) : ckFault t n = -1 ∨ 0 ≤ ckFault t n := by
  have hb := ckFrm_bd (t := t) (ckFac_bd (t := t) hn.1 41) 30 0 (by decide) hn.1
  unfold ckFault
  split
  · exact Or.inl rfl
  · split
    · exact Or.inl rfl
    · exact Or.inr hb.1
theorem s_typedFault (hd : 300 ≤ d) (hC : IC N A w) (h30 : A.1.length ≤ 30) (k : ∀ w', IC N A w' → (∀ b i, 115 ≤ b → w' b i = w b i) → K (ckFault (lt A.1) A.1.length) w') : C_X1_firstFault d [.inr (.inr 104), .inr (.inr 2)] w K := by
  have e := hC.1.1
  have := s_firstFault (d := d) (w := w) (K := K) (te := 2) (t := lt A.1) hd (Or.inl rfl) (by rw [e]; omega) (fun i i0 i1 => by
    have := hC.1.2 i.toNat (by rw [e] at i1; omega)
    rw [show ((i.toNat : Nat) : Int) = i by omega] at this
    exact this) (fun w1 h1 => by
    rw [e]
    exact k w1 (hC.fr (fun b i _ _ _ q _ => by rw [h1 b q])) (fun b i hb => by rw [h1 b (by omega)]))
  exact this
theorem fw_oth {p δ ia wa is : Int} {k q : Int → Int} {c i : Int} (h1 : ¬ (c = 115 ∧ (i = 23 ∨ i = 24 ∨ i = 25 ∨ i = 26 ∨ i = 27))) (h2 : c ≠ 133) (h3 : c ≠ 134) : fw w p δ ia wa is k q c i = w c i := by
  unfold fw
  by_cases z : c = 115
  · rw [if_pos z]
    rw [if_neg (by omega), if_neg (by omega), if_neg (by omega), if_neg (by omega), if_neg (by omega), z]
  · rw [if_neg z, if_neg h2, if_neg h3]
theorem m_typedFault (hd : 11 ≤ d) (hM : IM A w) (h30 : A.1.length ≤ 30) (k : ∀ w', IM A w' → (∀ b i, b ≤ 114 → w' b i = w b i) → K (ckFault (lt A.1) A.1.length) w') : C_X9_faultOf d [.inr (.inr 115)] w K := by
  refine m_faultOf (t := lt A.1) (n := A.1.length) hd ⟨hM.1.1, ⟨by omega, by omega⟩, fun i i0 i1 => ?_⟩ (fun p δ ia wa is kk q => k _ (hM.fr (fun b i h1 h2 h3 => fw_oth h3 (by omega) (by omega))) (fun b i hb => fw_oth (by omega) (by omega) (by omega)))
  have := hM.1.2 i.toNat (by omega)
  rw [show ((i.toNat : Nat) : Int) = i by omega] at this
  exact this
theorem c_fault (hd : 310 ≤ d) (h : Inv n w) (k : ∀ x w', Inv n w' → K2 x x w') : C_X8_fault d [.inr (.inr 1)] w (fun x w1 => C_X9_fault d [.inr (.inr 115)] w1 (fun y w2 => K2 x y w2)) := by
  obtain ⟨h0, A, hW, hC, hM⟩ := h
  have hr := ckFault_rng (t := lt A.1) (n := A.1.length) ⟨by omega, by have := hW.1; omega⟩
  refine ⟨305, by omega, e_X8_fault (s_typedFault (by decide) hC hW.1 (fun w1 hC1 hhi => ?_))⟩
  have hM1 := hM.hi hhi
  have go : ∀ x : Int, (x = if 0 ≤ ckFault (lt A.1) A.1.length then ckFault (lt A.1) A.1.length else -2000000004) → C_X9_fault d [.inr (.inr 115)] w1 (fun y w2 => K2 x y w2) := fun x hx => by
    refine ⟨305, by omega, e_X9_fault (m_typedFault (by decide) hM1 hW.1 (fun w2 hM2 hlo => ?_))⟩
    have hI : Inv n w2 := ⟨h0, A, hW, hC1.lo hlo, hM2⟩
    refine ⟨fun z => ?_, fun z => ?_⟩
    · rw [if_pos z] at hx
      rw [hx]
      exact k _ w2 hI
    · rw [if_neg z] at hx
      rw [hx]
      exact k _ w2 hI
  exact ⟨fun z => go _ (by rw [if_pos (hr.resolve_left z)]), fun z => go _ (by rw [if_neg (by omega)])⟩
theorem c_type {a : Int} (hd : 10 ≤ d) (h : Inv n w) (k : ∀ x w', Inv n w' → K2 x x w') : C_X8_type d [.inr (.inr 1), .inl a] w (fun x w1 => C_X9_type d [.inr (.inr 115), .inl a] w1 (fun y w2 => K2 x y w2)) := by
  have hI := h
  obtain ⟨h0, A, hW, hC, hM⟩ := h
  have e := hC.1.1
  have em := hM.1.1
  have hl := hW.1
  have out : ∀ x : Int, x = -2000000001 → ¬ (32 ≤ a ∧ a ≤ 126) → C_X9_type d [.inr (.inr 115), .inl a] w (fun y w2 => K2 x y w2) := fun x hx hn => by
    rw [hx]
    exact ⟨9, hd, e_X9_type (m_in (by decide) (fun z => absurd z hn) (fun _ => am_c0 (k _ w hI)))⟩
  refine ⟨9, hd, e_X8_type ⟨fun z => out _ rfl (by omega), fun z => ⟨fun z2 => ?_, fun z2 => out _ rfl (by omega)⟩⟩⟩
  rw [e]
  refine ⟨fun z3 => ⟨8, by decide, e_X6_add (Or.inl rfl) ?_⟩, fun z3 => ?_⟩
  · rw [e]
    refine ⟨fun y => by omega, fun _ => ⟨fun y => by omega, fun _ => ⟨by omega, ?_⟩⟩⟩
    rintro w1 rfl
    rw [show wset w (2 + 1) (A.1.length : Int) a 2 1 = A.1.length by rw [wset_at (by omega)]; exact e]
    refine ⟨by omega, ?_⟩
    rintro w2 rfl
    rw [wset_eq]
    have e4 : wset (wset w (2 + 1) (A.1.length : Int) a) 2 1 (A.1.length + 1) 115 4 = A.1.length := by rw [wset_at (by omega), wset_at (by omega)]; exact em
    refine ⟨9, hd, e_X9_type (m_in (by decide) (fun _ => am_c1 ?_) (fun y => absurd ⟨by omega, z2⟩ y))⟩
    rw [e4]
    refine ⟨fun _ => ⟨by omega, ?_⟩, fun y => by omega⟩
    rintro w3 rfl
    rw [show wset (wset (wset w (2 + 1) (A.1.length : Int) a) 2 1 (A.1.length + 1)) 118 (A.1.length : Int) a 115 4 = A.1.length by rw [wset_at (by omega)]; exact e4]
    refine ⟨by omega, ?_⟩
    rintro w4 rfl
    rw [wset_eq]
    refine k _ _ ⟨h0, (A.1 ++ [a], A.2), ⟨?_, hW.2⟩, ⟨⟨?_, fun j hj => ?_⟩, hC.2.1.cong (fun b i b0 b1 => ?_), hC.2.2.1.cong (fun b i b0 b1 => ?_), hC.2.2.2.cong ?_ (fun i => ?_)⟩, ⟨⟨?_, fun j hj => ?_⟩, hM.2.1.cong (fun o _ _ => ?_), hM.2.2.1.cong ?_ (fun i => ?_), hM.2.2.2.1.cong (fun a' i a0 a1 => ?_) ?_ ?_, ?_, ?_⟩⟩
    · show (A.1 ++ [a]).length ≤ 30
      rw [List.length_append, List.length_singleton]; omega
    · show _ = ((A.1 ++ [a]).length : Int)
      rw [wset_at (by omega), wset_at (by omega), wset_eq, List.length_append, List.length_singleton]; rfl
    · show _ = (A.1 ++ [a]).getD j 0
      have hj' : j < (A.1 ++ [a]).length := hj
      rw [List.length_append, List.length_singleton] at hj'
      rw [wset_at (by omega), wset_at (by omega), wset_at (by omega)]
      by_cases q : j = A.1.length
      · rw [q, show (2 : Int) + 1 = 3 by decide, wset_eq, List.getD_eq_getElem?_getD, List.getElem?_append_right (Nat.le_refl _), Nat.sub_self]
        rfl
      · rw [show (2 : Int) + 1 = 3 by decide, wset_at (by omega), hC.1.2 j (by omega), List.getD_eq_getElem?_getD, List.getD_eq_getElem?_getD, List.getElem?_append_left (by omega)]
    · rw [wset_at (by omega), wset_at (by omega), wset_at (by omega), wset_at (by omega)]
    · rw [wset_at (by omega), wset_at (by omega), wset_at (by omega), wset_at (by omega)]
    · rw [wset_at (by omega), wset_at (by omega), wset_at (by omega), wset_at (by omega)]
    · rw [wset_at (by omega), wset_at (by omega), wset_at (by omega), wset_at (by omega)]
    · show _ = ((A.1 ++ [a]).length : Int)
      rw [wset_eq, List.length_append, List.length_singleton]; rfl
    · show _ = (A.1 ++ [a]).getD j 0
      have hj' : j < (A.1 ++ [a]).length := hj
      rw [List.length_append, List.length_singleton] at hj'
      rw [wset_at (by omega)]
      by_cases q : j = A.1.length
      · rw [q, wset_eq, List.getD_eq_getElem?_getD, List.getElem?_append_right (Nat.le_refl _), Nat.sub_self]
        rfl
      · rw [wset_at (by omega), wset_at (by omega), wset_at (by omega), hM.1.2 j (by omega), List.getD_eq_getElem?_getD, List.getD_eq_getElem?_getD, List.getElem?_append_left (by omega)]
    · rw [wset_at (by omega), wset_at (by omega), wset_at (by omega), wset_at (by omega)]
    · rw [wset_at (by omega), wset_at (by omega), wset_at (by omega), wset_at (by omega)]
    · rw [wset_at (by omega), wset_at (by omega), wset_at (by omega), wset_at (by omega)]
    · rw [wset_at (by omega), wset_at (by omega), wset_at (by omega), wset_at (by omega)]
    · rw [wset_at (by omega), wset_at (by omega), wset_at (by omega), wset_at (by omega)]
    · rw [wset_at (by omega), wset_at (by omega), wset_at (by omega), wset_at (by omega)]
    · rw [wset_at (by omega), wset_at (by omega), wset_at (by omega), wset_at (by omega)]; exact hM.2.2.2.2.1
    · rw [wset_at (by omega), wset_at (by omega), wset_at (by omega), wset_at (by omega)]; exact hM.2.2.2.2.2
  · refine ⟨9, hd, e_X9_type (m_in (by decide) (fun _ => am_c1 ?_) (fun y => absurd ⟨by omega, z2⟩ y))⟩
    rw [em]
    exact ⟨fun y => by omega, fun _ => k _ w hI⟩
theorem c_clearText (hd : 10 ≤ d) (h : Inv n w) (k : ∀ x w', Inv n w' → K2 x x w') : C_X8_clearText d [.inr (.inr 1)] w (fun x w1 => C_X9_clearText d [.inr (.inr 115)] w1 (fun y w2 => K2 x y w2)) := by
  obtain ⟨h0, A, hW, hC, hM⟩ := h
  refine ⟨9, hd, e_X8_clearText ?_⟩
  rintro w1 rfl
  refine ⟨9, hd, e_X9_clearText ?_⟩
  rintro w2 rfl
  rw [wset_at (by omega), hC.1.1, hM.1.1]
  refine k _ _ ⟨h0, ([], A.2), ⟨by show (0 : Nat) ≤ 30; decide, hW.2⟩, ⟨⟨?_, fun j hj => absurd hj (Nat.not_lt_zero j)⟩, hC.2.1.cong (fun b i b0 b1 => ?_), hC.2.2.1.cong (fun b i b0 b1 => ?_), hC.2.2.2.cong ?_ (fun i => ?_)⟩, ⟨⟨?_, fun j hj => absurd hj (Nat.not_lt_zero j)⟩, hM.2.1.cong (fun o _ _ => ?_), hM.2.2.1.cong ?_ (fun i => ?_), hM.2.2.2.1.cong (fun a' i a0 a1 => ?_) ?_ ?_, ?_, ?_⟩⟩
  · rw [wset_at (by omega), wset_eq]; rfl
  · rw [wset_at (by omega), wset_at (by omega)]
  · rw [wset_at (by omega), wset_at (by omega)]
  · rw [wset_at (by omega), wset_at (by omega)]
  · rw [wset_at (by omega), wset_at (by omega)]
  · rw [wset_eq]; rfl
  · rw [wset_at (by omega), wset_at (by omega)]
  · rw [wset_at (by omega), wset_at (by omega)]
  · rw [wset_at (by omega), wset_at (by omega)]
  · rw [wset_at (by omega), wset_at (by omega)]
  · rw [wset_at (by omega), wset_at (by omega)]
  · rw [wset_at (by omega), wset_at (by omega)]
  · rw [wset_at (by omega), wset_at (by omega)]; exact hM.2.2.2.2.1
  · rw [wset_at (by omega), wset_at (by omega)]; exact hM.2.2.2.2.2
/-! the cell of an index -/
def nthF (p : Int → Int) : Nat → Int → Int → Int
  | 0, _, _ => -2000000004
  | n + 1, c, i => if p c = 0 then nthF p n (c + 1) i else if i = 0 then c else nthF p n (c + 1) (i - 1)
theorem c_changedAt {a : Int} (hd : 10 ≤ d) (ha : a ≤ 2147483647) (h : Inv n w) (k : ∀ x, K2 x x w) : C_X8_changedAt d [.inr (.inr 1), .inl a] w (fun x w1 => C_X9_changedAt d [.inr (.inr 115), .inl a] w1 (fun y w2 => K2 x y w2)) := by
  obtain ⟨h0, A, hW, hC, hM⟩ := h
  have h01 : ∀ c, rng c → A.2.1.1.2.2.2.2.1 c = 0 ∨ A.2.1.1.2.2.2.2.1 c = 1 := fun c hc => (hW.2.1.2.2.2.2.2.1 c hc).2.1
  have m : ∀ (x : Int) (m : Nat) (c v : Int), c + m = 72 → 0 ≤ c → 0 ≤ v → v ≤ a → (x = nthF A.2.1.1.2.2.2.2.1 m c (a - v)) → W_X9_changedAt 9 11 [some (.inr (.inr 115)), some (.inl a), some (.inl v), some (.inl c)] [] w (fun y w2 => K2 x y w2) := by
    intro x m
    induction m with
    | zero =>
      intro c v hc c0 v0 va hx
      have hx' : x = -2000000004 := hx
      rw [hx']
      exact v_X9_changedAt_11 ⟨fun _ => k _, fun z => by omega⟩
    | succ m ih =>
      intro c v hc c0 v0 va hx
      have hr : rng c := ⟨c0, by omega⟩
      unfold nthF at hx
      refine v_X9_changedAt_11 ⟨fun z => by omega, fun _ => ⟨by omega, by omega, ?_⟩⟩
      rw [(hM.2.1.2.1 c hr).2.2.1]
      have := h01 c hr
      refine ⟨fun z => ⟨by omega, ?_⟩, fun z => ⟨fun z2 => ⟨by omega, by omega, ?_⟩, fun z2 => ?_⟩⟩
      · rw [if_pos (by omega)] at hx
        exact ih (c + 1) v (by omega) (by omega) v0 va hx
      · rw [if_neg (by omega), if_neg (by omega)] at hx
        exact ih (c + 1) (v + 1) (by omega) (by omega) (by omega) (by omega) (by rw [hx]; congr 1; omega)
      · rw [if_neg (by omega), if_pos (by omega)] at hx
        rw [hx]
        exact k _
  have s : ∀ (m : Nat) (c v : Int) (K' : Int → Wd → Prop), c + m = 72 → 0 ≤ c → 0 ≤ v → v ≤ 2147483647 → K' (nthF A.2.1.1.2.2.2.2.1 m c v) w → W_X8_changedAt 9 11 [some (.inr (.inr 1)), some (.inl a), some (.inl v), some (.inl c)] [] w K' := by
    intro m
    induction m with
    | zero =>
      intro c v K' hc c0 v0 v1 hk
      exact v_X8_changedAt_11 ⟨fun _ => hk, fun z => by omega⟩
    | succ m ih =>
      intro c v K' hc c0 v0 v1 hk
      have hr : rng c := ⟨c0, by omega⟩
      unfold nthF at hk
      have e : w 20 c = A.2.1.1.2.2.2.2.1 c := (hC.2.1.2.2.2.1 c hr).2.1
      refine v_X8_changedAt_11 ⟨fun z => by omega, fun _ => ⟨hr, ?_⟩⟩
      rw [e]
      have := h01 c hr
      refine ⟨fun z => ⟨by omega, ?_⟩, fun z => ⟨fun z2 => ⟨by omega, by omega, ?_⟩, fun z2 => ?_⟩⟩
      · rw [if_pos (by omega)] at hk
        exact ih (c + 1) v K' (by omega) (by omega) v0 v1 hk
      · rw [if_neg (by omega), if_neg z2] at hk
        exact ih (c + 1) (v + -1) K' (by omega) (by omega) (by omega) (by omega) (by rw [show v + -1 = v - 1 by omega]; exact hk)
      · rw [if_neg (by omega), if_pos z2] at hk
        exact hk
  refine ⟨9, hd, e_X8_changedAt ⟨fun z => s 72 0 a _ (by decide) (by decide) z ha ⟨9, hd, e_X9_changedAt ⟨fun _ => m _ 72 0 0 (by decide) (by decide) (by decide) z (by rw [Int.sub_zero]), fun y => absurd z y⟩⟩, fun z => ⟨9, hd, e_X9_changedAt ⟨fun y => absurd y z, fun _ => k _⟩⟩⟩⟩
theorem m_slotOf {wt : Int → Option (List Int)} {P : Pg} {c : Int} (hd : 1 ≤ d) (hP : PgM (w 116) P) (hc : rng c) (k0 : P.2.1 c = none → K (-1) w) (k1 : ∀ s, 0 ≤ s → s < w 116 2521 → w 116 (2522 + 32 * s) = c → P.2.1 c ≠ none → K s w) : C_X9_slotOf d [.inr (.inr 115), .inl c] w K := by
  obtain ⟨_, _, _, p4, p5, p6, p7⟩ := hP
  have loop : ∀ (m : Nat) (v : Int), v + m = w 116 2521 → 0 ≤ v → (∀ s, 0 ≤ s → s < v → w 116 (2522 + 32 * s) ≠ c) → W_X9_slotOf 0 2 [some (.inr (.inr 115)), some (.inl c), some (.inl v)] [] w K := by
    intro m
    induction m with
    | zero =>
      intro v hv v0 hn
      refine v_X9_slotOf_2 ⟨fun _ => k0 (Classical.byContradiction (fun z => ?_)), fun z => by omega⟩
      obtain ⟨s, s0, s1, s2⟩ := p7 c hc z
      exact hn s s0 (by omega) s2
    | succ m ih =>
      intro v hv v0 hn
      refine v_X9_slotOf_2 ⟨fun z => by omega, fun _ => ⟨by omega, by omega, by omega, fun z => ⟨by omega, ih (v + 1) (by omega) (by omega) (fun s s0 s1 => ?_)⟩, fun z => ?_⟩⟩
      · by_cases q : s = v
        · rw [q]; exact z
        · exact hn s s0 (by omega)
      · obtain ⟨_, L, q2, _⟩ := p5 v v0 (by omega)
        rw [z] at q2
        exact k1 v v0 (by omega) z (by rw [q2]; exact fun y => by cases y)
  exact ⟨0, hd, e_X9_slotOf (loop (w 116 2521).toNat 0 (by omega) (by decide) (fun s s0 s1 => by omega))⟩
theorem c_waitingAt {a : Int} (hd : 10 ≤ d) (ha : a ≤ 2147483647) (h : Inv n w) (k : ∀ x, K2 x x w) : C_X8_waitingAt d [.inr (.inr 1), .inl a] w (fun x w1 => C_X9_waitingAt d [.inr (.inr 115), .inl a] w1 (fun y w2 => K2 x y w2)) := by
  obtain ⟨h0, A, hW, hC, hM⟩ := h
  have h6 : am_St 6 := by unfold am_St; omega
  have w0 : ∀ c, wtI A.2.1.1.2.1 c = 0 ↔ A.2.1.1.2.1 c = none := fun c => by
    unfold wtI
    rcases A.2.1.1.2.1 c with _ | L
    · exact ⟨fun _ => rfl, fun _ => rfl⟩
    · exact ⟨fun (z : (1 : Int) = 0) => absurd z (by decide), fun z => by cases z⟩
  have m : ∀ (x : Int) (m : Nat) (c v : Int), c + m = 72 → 0 ≤ c → 0 ≤ v → v ≤ a → (x = nthF (wtI A.2.1.1.2.1) m c (a - v)) → W_X9_waitingAt 9 11 [some (.inr (.inr 115)), some (.inl a), some (.inl v), some (.inl c)] [] w (fun y w2 => K2 x y w2) := by
    intro x m
    induction m with
    | zero =>
      intro c v hc c0 v0 va hx
      have hx' : x = -2000000004 := hx
      rw [hx']
      exact v_X9_waitingAt_11 ⟨fun _ => k _, fun z => by omega⟩
    | succ m ih =>
      intro c v hc c0 v0 va hx
      have hr : rng c := ⟨c0, by omega⟩
      unfold nthF at hx
      refine v_X9_waitingAt_11 ⟨fun z => by omega, fun _ => m_slotOf (wt := A.2.1.1.2.1) (by decide) hM.2.1 hr (fun q => ⟨fun _ => ⟨by omega, ?_⟩, fun y => absurd (by decide) y⟩) (fun s s0 s1 s2 q => ⟨fun y => by omega, fun _ => ⟨fun z2 => ⟨by omega, by omega, ?_⟩, fun z2 => ?_⟩⟩)⟩
      · rw [if_pos ((w0 c).mpr q)] at hx
        exact ih (c + 1) v (by omega) (by omega) v0 va hx
      · rw [if_neg (fun y => q ((w0 c).mp y)), if_neg (by omega)] at hx
        exact ih (c + 1) (v + 1) (by omega) (by omega) (by omega) (by omega) (by rw [hx]; congr 1; omega)
      · rw [if_neg (fun y => q ((w0 c).mp y)), if_pos (by omega)] at hx
        rw [hx]
        exact k _
  have s : ∀ (m : Nat) (c v : Int) (K' : Int → Wd → Prop), c + m = 72 → 0 ≤ c → 0 ≤ v → v ≤ 2147483647 → K' (nthF (wtI A.2.1.1.2.1) m c v) w → W_X8_waitingAt 9 11 [some (.inr (.inr 1)), some (.inl a), some (.inl v), some (.inl c)] [] w K' := by
    intro m
    induction m with
    | zero =>
      intro c v K' hc c0 v0 v1 hk
      exact v_X8_waitingAt_11 ⟨fun _ => hk, fun z => by omega⟩
    | succ m ih =>
      intro c v K' hc c0 v0 v1 hk
      have hr : rng c := ⟨c0, by omega⟩
      unfold nthF at hk
      refine v_X8_waitingAt_11 ⟨fun z => by omega, fun _ => s_waits (by decide) h6 hr hC.2.1.2.1 ⟨fun z => ⟨by omega, ?_⟩, fun z => ⟨fun z2 => ⟨by omega, by omega, ?_⟩, fun z2 => ?_⟩⟩⟩
      · rw [if_pos z] at hk
        exact ih (c + 1) v K' (by omega) (by omega) v0 v1 hk
      · rw [if_neg z, if_neg z2] at hk
        exact ih (c + 1) (v + -1) K' (by omega) (by omega) (by omega) (by omega) (by rw [show v + -1 = v - 1 by omega]; exact hk)
      · rw [if_neg z, if_pos z2] at hk
        exact hk
  refine ⟨9, hd, e_X8_waitingAt ⟨fun z => s 72 0 a _ (by decide) (by decide) z ha ⟨9, hd, e_X9_waitingAt ⟨fun _ => m _ 72 0 0 (by decide) (by decide) (by decide) z (by rw [Int.sub_zero]), fun y => absurd z y⟩⟩, fun z => ⟨9, hd, e_X9_waitingAt ⟨fun y => absurd y z, fun _ => k _⟩⟩⟩⟩
theorem s_hasRead {s c a : Int} {l : List Int} (hd : 3 ≤ d) (hs : am_St s) (hc : rng c) (hrl : RdL w (s + 11) (s + 12) c l) (k : K (if a ∈ l then 1 else 0) w) : C_X5_hasRead d [.inr (.inr s), .inl c, .inl a] w K := by
  have hlen := hrl.len
  have hcr := hc
  unfold rng at hcr
  have loop : ∀ (m v : Nat), v + m = l.length → (a ∈ l ↔ a ∈ l.drop v) → W_X5_hasRead 2 2 [some (.inr (.inr s)), some (.inl c), some (.inl a), some (.inl (v : Int))] [] w K := by
    intro m
    induction m with
    | zero =>
      intro v hv hd'
      rw [List.drop_of_length_le (by omega)] at hd'
      rw [if_neg (fun z => by cases hd'.mp z)] at k
      exact v_X5_hasRead_2 hs ⟨hc, fun _ => k, fun z => by rw [hrl.1] at z; omega⟩
    | succ m ih =>
      intro v hv hd'
      have hg : l.drop v = l.getD v 0 :: l.drop (v + 1) := by
        rw [List.getD_eq_getElem?_getD, List.getElem?_eq_getElem (by omega), Option.getD_some]
        exact List.drop_eq_getElem_cons (by omega)
      rw [hg, List.mem_cons] at hd'
      refine v_X5_hasRead_2 hs ⟨hc, fun z => by rw [hrl.1] at z; omega, fun _ => ⟨1, by decide, e_X5_readOf hs ⟨by omega, by omega, by omega, ?_⟩⟩⟩
      rw [hrl.2.1 v (by omega)]
      refine ⟨fun z => ⟨by omega, ?_⟩, fun z => ?_⟩
      · have := ih (v + 1) (by omega) ⟨fun y => (hd'.mp y).resolve_left (fun q => z q.symm), fun y => hd'.mpr (Or.inr y)⟩
        rw [show ((v + 1 : Nat) : Int) = (v : Int) + 1 by omega] at this
        exact this
      · rw [if_pos (hd'.mpr (Or.inl z.symm))] at k
        exact k
  exact ⟨2, hd, e_X5_hasRead hs (loop l.length 0 (by omega) Iff.rfl)⟩
theorem m_doesRead {c a : Int} {l : List Int} (hd : 1 ≤ d) (hc : rng c) (hrl : RdL w 123 124 c l) (k : K (if a ∈ l then 1 else 0) w) : C_X9_doesRead d [.inr (.inr 115), .inl c, .inl a] w K := by
  have hlen := hrl.len
  have hcr := hc
  unfold rng at hcr
  have loop : ∀ (m v : Nat) (x : Int), v + m = l.length → (x = 0 ∨ x = 1) → (a ∈ l ↔ x = 1 ∨ a ∈ l.drop v) → W_X9_doesRead 0 5 [some (.inr (.inr 115)), some (.inl c), some (.inl a), some (.inl x), some (.inl (v : Int))] [] w K := by
    intro m
    induction m with
    | zero =>
      intro v x hv hx hd'
      rw [List.drop_of_length_le (by omega)] at hd'
      refine v_X9_doesRead_5 ⟨hc, fun _ => ⟨hx, ?_⟩, fun z => by rw [hrl.1] at z; omega⟩
      rcases hx with z | z
      · rw [if_neg (fun y => (hd'.mp y).elim (fun q => by omega) (fun q => by cases q))] at k
        rw [z]; exact k
      · rw [if_pos (hd'.mpr (Or.inl z))] at k
        rw [z]; exact k
    | succ m ih =>
      intro v x hv hx hd'
      have hg : l.drop v = l.getD v 0 :: l.drop (v + 1) := by
        rw [List.getD_eq_getElem?_getD, List.getElem?_eq_getElem (by omega), Option.getD_some]
        exact List.drop_eq_getElem_cons (by omega)
      rw [hg, List.mem_cons] at hd'
      have hw := hrl.2.1 v (by omega)
      rw [Int.mul_comm] at hw
      have nx : ∀ y : Int, (y = 0 ∨ y = 1) → (a ∈ l ↔ y = 1 ∨ a ∈ l.drop (v + 1)) → W_X9_doesRead 0 5 [some (.inr (.inr 115)), some (.inl c), some (.inl a), some (.inl y), some (.inl ((v : Int) + 1))] [] w K := fun y hy hyd => by
        have := ih (v + 1) y (by omega) hy hyd
        rw [show ((v + 1 : Nat) : Int) = (v : Int) + 1 by omega] at this
        exact this
      refine v_X9_doesRead_5 ⟨hc, fun z => by rw [hrl.1] at z; omega, fun _ => ⟨fun z => ⟨by omega, nx 1 (Or.inr rfl) ?_⟩, fun z => ⟨by omega, by omega, by omega, ?_⟩⟩⟩
      · exact ⟨fun _ => Or.inl rfl, fun _ => hd'.mpr (Or.inl (hx.resolve_left z))⟩
      · rw [hw]
        refine ⟨fun y => ⟨by omega, nx 0 (Or.inl rfl) ?_⟩, fun y => ⟨by omega, nx 1 (Or.inr rfl) ?_⟩⟩
        · exact ⟨fun q => Or.inr (((hd'.mp q).resolve_left (by omega)).resolve_left (fun u => y u.symm)), fun q => hd'.mpr (Or.inr (Or.inr (q.resolve_left (by decide))))⟩
        · exact ⟨fun _ => Or.inl rfl, fun _ => hd'.mpr (Or.inr (Or.inl y.symm))⟩
  exact ⟨0, hd, e_X9_doesRead (loop l.length 0 0 (by omega) (Or.inl rfl) ⟨fun q => Or.inr q, fun q => q.resolve_left (by decide)⟩)⟩
theorem c_readerAt {a b : Int} (hd : 10 ≤ d) (hb : b ≤ 2147483647) (h : Inv n w) (k : ∀ x, K2 x x w) : C_X8_readerAt d [.inr (.inr 1), .inl a, .inl b] w (fun x w1 => C_X9_readerAt d [.inr (.inr 115), .inl a, .inl b] w1 (fun y w2 => K2 x y w2)) := by
  obtain ⟨h0, A, hW, hC, hM⟩ := h
  have h6 : am_St 6 := by unfold am_St; omega
  have m : ∀ (x : Int) (m : Nat) (c v : Int), c + m = 72 → 0 ≤ c → 0 ≤ v → v ≤ b → (x = nthF (fun c => if a ∈ A.2.1.2.2.2.2.2.2.1 c then 1 else 0) m c (b - v)) → W_X9_readerAt 9 19 [some (.inr (.inr 115)), some (.inl a), some (.inl b), some (.inl v), some (.inl c)] [] w (fun y w2 => K2 x y w2) := by
    intro x m
    induction m with
    | zero =>
      intro c v hc c0 v0 va hx
      have hx' : x = -2000000004 := hx
      rw [hx']
      exact v_X9_readerAt_19 ⟨fun _ => k _, fun z => by omega⟩
    | succ m ih =>
      intro c v hc c0 v0 va hx
      have hr : rng c := ⟨c0, by omega⟩
      unfold nthF at hx
      refine v_X9_readerAt_19 ⟨fun z => by omega, fun _ => m_doesRead (by decide) hr (hM.2.2.2.1.1 c hr).2.2.2.2 ⟨fun q => ⟨by omega, ?_⟩, fun q => ⟨fun z2 => ⟨by omega, by omega, ?_⟩, fun z2 => ?_⟩⟩⟩
      · rw [if_pos q] at hx
        exact ih (c + 1) v (by omega) (by omega) v0 va hx
      · rw [if_neg q, if_neg (by omega)] at hx
        exact ih (c + 1) (v + 1) (by omega) (by omega) (by omega) (by omega) (by rw [hx]; congr 1; omega)
      · rw [if_neg q, if_pos (by omega)] at hx
        rw [hx]
        exact k _
  have s : ∀ (m : Nat) (c v : Int) (K' : Int → Wd → Prop), c + m = 72 → 0 ≤ c → 0 ≤ v → v ≤ 2147483647 → K' (nthF (fun c => if a ∈ A.2.1.2.2.2.2.2.2.1 c then 1 else 0) m c v) w → W_X8_readerAt 9 19 [some (.inr (.inr 1)), some (.inl a), some (.inl b), some (.inl v), some (.inl c)] [] w K' := by
    intro m
    induction m with
    | zero =>
      intro c v K' hc c0 v0 v1 hk
      exact v_X8_readerAt_19 ⟨fun _ => hk, fun z => by omega⟩
    | succ m ih =>
      intro c v K' hc c0 v0 v1 hk
      have hr : rng c := ⟨c0, by omega⟩
      unfold nthF at hk
      refine v_X8_readerAt_19 ⟨fun z => by omega, fun _ => s_hasRead (by decide) h6 hr (hC.2.1.2.2.2.2.1 c hr).2.2.2.2 ⟨fun z => ⟨by omega, ?_⟩, fun z => ⟨fun z2 => ⟨by omega, by omega, ?_⟩, fun z2 => ?_⟩⟩⟩
      · rw [if_pos z] at hk
        exact ih (c + 1) v K' (by omega) (by omega) v0 v1 hk
      · rw [if_neg z, if_neg z2] at hk
        exact ih (c + 1) (v + -1) K' (by omega) (by omega) (by omega) (by omega) (by rw [show v + -1 = v - 1 by omega]; exact hk)
      · rw [if_neg z, if_pos z2] at hk
        exact hk
  refine ⟨9, hd, e_X8_readerAt (cg_isCell (by decide) (fun q => am_b1 ⟨fun z => s 72 0 b _ (by decide) (by decide) z hb ⟨9, hd, e_X9_readerAt (cm_isCell (by decide) (fun _ => am_b1 ⟨fun _ => m _ 72 0 0 (by decide) (by decide) (by decide) z (by rw [Int.sub_zero]), fun y => absurd z y⟩) (fun y => absurd q y))⟩, fun z => ⟨9, hd, e_X9_readerAt (cm_isCell (by decide) (fun _ => am_b1 ⟨fun y => absurd y z, fun _ => k _⟩) (fun y => absurd q y))⟩⟩) (fun q => am_b0 ⟨9, hd, e_X9_readerAt (cm_isCell (by decide) (fun y => absurd y q) (fun _ => am_b0 (k _)))⟩))⟩
end IWS
