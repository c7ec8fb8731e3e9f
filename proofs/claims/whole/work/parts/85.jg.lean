/-! copy -/
def shV (L : List Int) (r dn k : Int) : Int :=
  if isCol (lk (lt L) L.length k) then (if isRow (lk (lt L) L.length (k + 1)) then (if isCol (lk (lt L) L.length k + r) then lk (lt L) L.length k + r else -1) else lk (lt L) L.length k)
  else if isRow (lk (lt L) L.length k) then (if isCol (lk (lt L) L.length (k - 1)) then (if isRow (lk (lt L) L.length k + dn) then lk (lt L) L.length k + dn else -1) else lk (lt L) L.length k) else lk (lt L) L.length k
def shT (L : List Int) (r dn : Int) (k : Nat) : List Int := (List.range k).map (fun (j : Nat) => shV L r dn j)
def ShOk (L : List Int) (r dn : Int) : Prop := ∀ k : Nat, k < L.length → shV L r dn k ≠ -1
section JGS
variable {w w0 w1 w' : Wd} {d : Nat} {K : Int → Wd → Prop} {KV : Wd → Prop} {K2 : Int → Int → Wd → Prop} {n N c r dn : Int} {A : AS} {F F0 : Fs} {H : List Fs} {tx : Int → List Int} {wt : Int → Option (List Int)} {D : Dt} {L : List Int}
theorem shT_len {k : Nat} : (shT L r dn k).length = k := by unfold shT; rw [List.length_map, List.length_range]
theorem shT_get {k j : Nat} (h : j < k) : (shT L r dn k).getD j 0 = shV L r dn j := by
  unfold shT
  rw [List.getD_eq_getElem?_getD, List.getElem?_map, List.getElem?_range h]
  rfl
theorem shT_succ {k : Nat} : shT L r dn (k + 1) = shT L r dn k ++ [shV L r dn k] := by
  unfold shT
  rw [List.range_succ, List.map_append]
  rfl
theorem sh_rel (hok : ShOk L r dn) : ShR (lt L) (lt (shT L r dn L.length)) L.length r dn := by
  have hin : ∀ p : Int, 0 ≤ p → p < L.length → lk (lt (shT L r dn L.length)) L.length p = shV L r dn p := fun p h0 h1 => by
    unfold lk
    rw [if_pos ⟨h0, h1⟩]
    show (shT L r dn L.length).getD p.toNat 0 = _
    rw [shT_get (by omega), show ((p.toNat : Nat) : Int) = p by omega]
  refine ⟨fun p h1 h2 => ?_, fun p h1 h2 => ?_⟩
  · have hp := lk_pos (t := lt L) (n := L.length) (p := p) (by unfold isCol at h1; omega)
    have hp1 := lk_pos (t := lt L) (n := L.length) (p := p + 1) (by unfold isRow at h2; omega)
    have o1 := hok p.toNat (by omega)
    have o2 := hok (p + 1).toNat (by omega)
    rw [show ((p.toNat : Nat) : Int) = p by omega] at o1
    rw [show (((p + 1).toNat : Nat) : Int) = p + 1 by omega] at o2
    rw [hin p hp.1 hp.2, hin (p + 1) hp1.1 hp1.2]
    unfold shV at o1 o2 ⊢
    rw [if_pos h1, if_pos h2] at o1 ⊢
    have hnc : ¬ isCol (lk (lt L) L.length (p + 1)) := by unfold isRow at h2; unfold isCol; omega
    rw [if_neg hnc, if_pos h2, show p + 1 - 1 = p by omega, if_pos h1] at o2
    rw [if_neg hnc, if_pos h2, show p + 1 - 1 = p by omega, if_pos h1]
    by_cases q1 : isCol (lk (lt L) L.length p + r)
    · rw [if_pos q1]
      by_cases q2 : isRow (lk (lt L) L.length (p + 1) + dn)
      · rw [if_pos q2]
        exact ⟨⟨rfl, q1⟩, rfl, q2⟩
      · rw [if_neg q2] at o2
        exact absurd rfl o2
    · rw [if_neg q1] at o1
      exact absurd rfl o1
  · by_cases hp : 0 ≤ p ∧ p < L.length
    · rw [hin p hp.1 hp.2]
      unfold shV
      by_cases q1 : isCol (lk (lt L) L.length p)
      · rw [if_pos q1, if_neg (fun z => h1 ⟨q1, z⟩)]
      · rw [if_neg q1]
        by_cases q2 : isRow (lk (lt L) L.length p)
        · rw [if_pos q2, if_neg (fun z => h2 ⟨z, q2⟩)]
        · rw [if_neg q2]
    · unfold lk
      rw [if_neg hp, if_neg hp]
theorem sh_wf (hWf : Wf L) (hok : ShOk L r dn) : Wf (shT L r dn L.length) := by
  refine ⟨by rw [shT_len]; exact hWf.1, fun h0 => ?_⟩
  have hne : L ≠ [] := fun z => h0 (by rw [z]; rfl)
  have hl := hWf.1
  have := (sh_fault (sh_rel hok) ⟨by omega, by omega⟩ (hWf.2 hne)).1
  rw [shT_len]
  exact this
theorem wf_nz (hWf : Wf L) : Nz (lt L) L.length 0 L.length := by
  by_cases h0 : L = []
  · intro k a b
    rw [h0] at b
    have : ((([] : List Int).length : Nat) : Int) = 0 := rfl
    omega
  · have hl := hWf.1
    exact (sh_fault sh_id ⟨by omega, by omega⟩ (hWf.2 h0)).2
/-- the letters of a formula, and none elsewhere -/
theorem s_letter {i : Int} (hd : 1 ≤ d) (hc : rng c) (hL : CL w 6 tx) (hi : -1 ≤ i ∧ i ≤ 100) (k : K (lk (lt (tx c)) (tx c).length i) w) : C_X7_letter d [.inr (.inr 7), .inl c, .inl i] w K := by
  obtain ⟨g1, g2, g3⟩ := hL c hc
  have hl := g1.1
  have hcr := hc
  unfold rng at hcr
  have e9 : w (7 + 2) c = (tx c).length := g2
  refine ⟨0, hd, e_X7_letter (s := 7) (am_St_1 (s := 6) (by unfold am_St; omega)) ⟨fun z => ?_, fun z => ⟨hc, ?_⟩⟩⟩
  · unfold lk at k
    rw [if_neg (by omega)] at k
    exact k
  · rw [e9]
    refine ⟨fun y => ?_, fun y => ⟨by omega, by omega, by omega, ?_⟩⟩
    · unfold lk at k
      rw [if_neg (by omega)] at k
      exact k
    · have := g3 i.toNat (by omega)
      rw [show ((i.toNat : Nat) : Int) = i by omega] at this
      have e8 : w (7 + 1) (c * 30 + i) = (tx c).getD i.toNat 0 := this
      rw [e8]
      unfold lk at k
      rw [if_pos (by omega)] at k
      exact k
theorem s_shifted {i : Int} (hd : 2 ≤ d) (hc : rng c) (hL : CL w 6 tx) (hi : 0 ≤ i ∧ i ≤ 50) (hr : -100 ≤ r ∧ r ≤ 100) (hdn : -100 ≤ dn ∧ dn ≤ 100) (k : K (shV (tx c) r dn i) w) : C_X8_shiftedLetter d [.inr (.inr 1), .inl c, .inl i, .inl r, .inl dn] w K := by
  refine ⟨1, hd, e_X8_shiftedLetter (s_letter (by decide) hc hL (by omega) ?_)⟩
  unfold shV at k
  by_cases q1 : isCol (lk (lt (tx c)) (tx c).length i)
  · rw [if_pos q1] at k
    have hnr : ¬ isRow (lk (lt (tx c)) (tx c).length i) := by unfold isCol at q1; unfold isRow; omega
    have hb := q1
    unfold isCol at hb
    refine s_isCol (by decide) (fun _ => am_b1 ⟨by omega, s_letter (by decide) hc hL (by omega) ?_⟩) (fun y => absurd q1 y)
    by_cases q2 : isRow (lk (lt (tx c)) (tx c).length (i + 1))
    · rw [if_pos q2] at k
      refine s_isRow (by decide) (fun _ => am_b1 ⟨by omega, s_isCol (by decide) (fun q3 => ?_) (fun q3 => ?_)⟩) (fun y => absurd q2 y)
      · rw [if_pos q3] at k
        exact am_b1 ⟨by omega, k⟩
      · rw [if_neg q3] at k
        exact am_b0 k
    · rw [if_neg q2] at k
      exact s_isRow (by decide) (fun y => absurd y q2) (fun _ => am_b0 (s_isRow (by decide) (fun y => absurd y hnr) (fun _ => am_b0 k)))
  · rw [if_neg q1] at k
    refine s_isCol (by decide) (fun y => absurd y q1) (fun _ => am_b0 ?_)
    by_cases q2 : isRow (lk (lt (tx c)) (tx c).length i)
    · rw [if_pos q2] at k
      have hb := q2
      unfold isRow at hb
      refine s_isRow (by decide) (fun _ => am_b1 ⟨by omega, s_letter (by decide) hc hL (by omega) ?_⟩) (fun y => absurd q2 y)
      by_cases q3 : isCol (lk (lt (tx c)) (tx c).length (i - 1))
      · rw [if_pos q3] at k
        refine s_isCol (by decide) (fun _ => am_b1 ⟨by omega, s_isRow (by decide) (fun q4 => ?_) (fun q4 => ?_)⟩) (fun y => absurd q3 y)
        · rw [if_pos q4] at k
          exact am_b1 ⟨by omega, k⟩
        · rw [if_neg q4] at k
          exact am_b0 k
      · rw [if_neg q3] at k
        exact s_isCol (by decide) (fun y => absurd y q3) (fun _ => am_b0 k)
    · rw [if_neg q2] at k
      exact s_isRow (by decide) (fun y => absurd y q2) (fun _ => am_b0 k)
theorem s_draftSh (hd : 4 ≤ d) (hc : rng c) (hL : CL w 6 tx) (hr : -100 ≤ r ∧ r ≤ 100) (hdn : -100 ≤ dn ∧ dn ≤ 100) (k1 : ShOk (tx c) r dn → ∀ w', TxD w' (shT (tx c) r dn (tx c).length) → (∀ b i, b ≠ 4 → b ≠ 5 → w' b i = w b i) → K 1 w') (k0 : ¬ ShOk (tx c) r dn → ∀ w', (∀ b i, b ≠ 4 → b ≠ 5 → w' b i = w b i) → K 0 w') : C_X8_draftShifted d [.inr (.inr 1), .inl c, .inl r, .inl dn] w K := by
  have hl := (hL c hc).1.1
  have loop : ∀ (j m : Nat) (w1 : Wd), m + j = (tx c).length → (∀ b i, b ≠ 4 → b ≠ 5 → w1 b i = w b i) → TxD w1 (shT (tx c) r dn m) → (∀ i : Nat, i < m → shV (tx c) r dn i ≠ -1) → W_X8_draftShifted 3 11 [some (.inr (.inr 1)), some (.inl c), some (.inl r), some (.inl dn), some (.inl (m : Int)), none] [] w1 K := by
    intro j
    induction j with
    | zero =>
      intro m w1 hm ho hT hok
      have em : m = (tx c).length := by omega
      subst em
      have e9 : w1 9 c = (tx c).length := by rw [ho 9 c (by decide) (by decide)]; exact (hL c hc).2.1
      refine v_X8_draftShifted_11 ⟨hc, ?_⟩
      rw [e9]
      exact ⟨fun _ => k1 hok w1 hT ho, fun z => absurd (Int.le_refl _) z⟩
    | succ j ih =>
      intro m w1 hm ho hT hok
      have e9 : w1 9 c = (tx c).length := by rw [ho 9 c (by decide) (by decide)]; exact (hL c hc).2.1
      have hL1 : CL w1 6 tx := fun x hx => by
        obtain ⟨g1, g2, g3⟩ := hL x hx
        exact ⟨g1, by rw [ho _ _ (by decide) (by decide)]; exact g2, fun j hj => by rw [ho _ _ (by decide) (by decide)]; exact g3 j hj⟩
      refine v_X8_draftShifted_11 ⟨hc, ?_⟩
      rw [e9]
      refine ⟨fun z => by omega, fun _ => s_shifted (by decide) hc hL1 (by omega) hr hdn ⟨fun z => s_add (by decide) hT (by rw [shT_len]; omega) (fun w2 h2 o2 => ⟨by omega, ?_⟩), fun z => k0 (fun y => y m (by omega) z) w1 ho⟩⟩
      have := ih (m + 1) w2 (by omega) (fun b i q1 q2 => by rw [o2 b i q1 q2]; exact ho b i q1 q2) (by rw [shT_succ]; exact h2) (fun i hi => by
        by_cases q : i = m
        · rw [q]; exact z
        · exact hok i (by omega))
      rw [show ((m + 1 : Nat) : Int) = (m : Int) + 1 by omega] at this
      exact this
  refine ⟨3, hd, e_X8_draftShifted ?_⟩
  rintro w1 rfl
  exact loop (tx c).length 0 _ (by omega) (fun b i q1 q2 => by rw [wset_at (fun y => q1 y.1)]) ⟨by rw [wset_eq]; rfl, fun j hj => absurd hj (Nat.not_lt_zero j)⟩ (fun i hi => absurd hi (Nat.not_lt_zero i))
/-! the reference's letters -/
theorem m_letter2 {i : Int} (hd : 1 ≤ d) (hc : rng c) (hL : ML w tx) (hi : 0 ≤ i ∧ i < (tx c).length) (k : K (lk (lt (tx c)) (tx c).length i) w) : C_X9_letter d [.inr (.inr 115), .inl c, .inl i] w K := by
  obtain ⟨g1, g2, g3⟩ := hL c hc
  have hl := g1.1
  have hcr := hc
  unfold rng at hcr
  refine ⟨0, hd, e_X9_letter ⟨by omega, by omega, by omega, by omega, ?_⟩⟩
  have := g3 i.toNat (by omega)
  rw [show ((i.toNat : Nat) : Int) = i by omega] at this
  rw [this]
  unfold lk at k
  rw [if_pos (by omega)] at k
  exact k
def isNm (L : List Int) (k : Int) : Prop := isCol (lk (lt L) L.length k) ∧ isRow (lk (lt L) L.length (k + 1))
theorem m_isName {i : Int} (hd : 3 ≤ d) (hc : rng c) (hL : ML w tx) (hi : 0 ≤ i ∧ i < (tx c).length) (k1 : isNm (tx c) i → K 1 w) (k0 : ¬ isNm (tx c) i → K 0 w) : C_X9_isName d [.inr (.inr 115), .inl c, .inl i] w K := by
  obtain ⟨g1, g2, _⟩ := hL c hc
  have hl := g1.1
  have hcr := hc
  unfold rng at hcr
  have hz := wf_nz g1 i hi.1 hi.2
  unfold isNm at k1 k0
  refine ⟨2, hd, e_X9_isName ⟨by omega, by omega, by omega, ?_⟩⟩
  rw [show (0 : Int) + c = c by omega, g2]
  refine ⟨fun z => k0 (fun y => ?_), fun z => m_letter2 (by decide) hc hL hi (m_isCol (by decide) (fun q => am_b1 ⟨by omega, m_letter2 (by decide) hc hL (by omega) (m_isFig (by decide) (fun q2 => am_b1 (k1 ⟨q, ?_⟩)) (fun q2 => am_b0 (k0 (fun y => q2 ?_))))⟩) (fun q => am_b0 (k0 (fun y => q y.1))))⟩
  · have := lk_pos (t := lt (tx c)) (n := (tx c).length) (p := i + 1) (by have := y.2; unfold isRow at this; omega)
    omega
  · have := hz.2 q
    unfold isDig at q2
    unfold isRow
    omega
  · have := y.2
    unfold isRow at this
    unfold isDig
    omega
theorem nm_disj {L : List Int} {i : Int} (h : isNm L i) : ¬ isNm L (i - 1) ∧ ¬ isNm L (i + 1) := by
  unfold isNm at *
  rw [show i - 1 + 1 = i by omega]
  unfold isCol isRow at *
  omega
def MOk (L : List Int) (r dn : Int) : Prop := ∀ k : Int, 0 ≤ k → k < L.length → isNm L k → isCol (lk (lt L) L.length k + r) ∧ isRow (lk (lt L) L.length (k + 1) + dn)
theorem mok_iff (hWf : Wf L) : MOk L r dn ↔ ShOk L r dn := by
  have hz := wf_nz hWf
  constructor
  · intro h k hk
    have hzk := (hz k (by omega) (by omega)).1
    unfold shV
    by_cases q1 : isCol (lk (lt L) L.length k)
    · rw [if_pos q1]
      by_cases q2 : isRow (lk (lt L) L.length ((k : Int) + 1))
      · have := (h k (by omega) (by omega) ⟨q1, q2⟩).1
        rw [if_pos q2, if_pos this]
        unfold isCol at this
        omega
      · rw [if_neg q2]; omega
    · rw [if_neg q1]
      by_cases q2 : isRow (lk (lt L) L.length k)
      · rw [if_pos q2]
        by_cases q3 : isCol (lk (lt L) L.length ((k : Int) - 1))
        · have hp := lk_pos (t := lt L) (n := L.length) (p := (k : Int) - 1) (by unfold isCol at q3; omega)
          have := (h ((k : Int) - 1) hp.1 hp.2 ⟨q3, by rw [show (k : Int) - 1 + 1 = k by omega]; exact q2⟩).2
          rw [show (k : Int) - 1 + 1 = k by omega] at this
          rw [if_pos q3, if_pos this]
          unfold isRow at this
          omega
        · rw [if_neg q3]; omega
      · rw [if_neg q2]; omega
  · intro h k h0 h1 hn
    have := (sh_rel h).1 k hn.1 hn.2
    rw [← this.1.1, ← this.2.1]
    exact ⟨this.1.2, this.2.2⟩
theorem lk_in32 (hWf : Wf L) (m : Int) : -2147483648 ≤ lk (lt L) L.length m ∧ lk (lt L) L.length m ≤ 2147483647 := by
  by_cases q : 0 ≤ m ∧ m < L.length
  · have := (wf_nz hWf m q.1 q.2).1
    omega
  · unfold lk
    rw [if_neg q]
    decide
theorem m_canShift (hd : 5 ≤ d) (hc : rng c) (hL : ML w tx) (hr : -100 ≤ r ∧ r ≤ 100) (hdn : -100 ≤ dn ∧ dn ≤ 100) (k1 : ShOk (tx c) r dn → K 1 w) (k0 : ¬ ShOk (tx c) r dn → K 0 w) : C_X9_canShift d [.inr (.inr 115), .inl c, .inl r, .inl dn] w K := by
  obtain ⟨g1, g2, _⟩ := hL c hc
  have hl := g1.1
  have hcr := hc
  unfold rng at hcr
  have loop : ∀ (j : Nat) (m v : Int), m + j = (tx c).length → 0 ≤ m → (v = 0 ∨ v = 1) → (v = 1 ↔ ∀ k, 0 ≤ k → k < m → isNm (tx c) k → isCol (lk (lt (tx c)) (tx c).length k + r) ∧ isRow (lk (lt (tx c)) (tx c).length (k + 1) + dn)) → W_X9_canShift 4 6 [some (.inr (.inr 115)), some (.inl c), some (.inl r), some (.inl dn), some (.inl v), some (.inl m)] [] w K := by
    intro j
    induction j with
    | zero =>
      intro m v hm m0 hv hiff
      have em : m = (tx c).length := by omega
      have hfin : v = 1 ↔ ShOk (tx c) r dn := by
        rw [← mok_iff g1]
        rw [em] at hiff
        exact hiff
      refine v_X9_canShift_6 ⟨by omega, by omega, ?_⟩
      rw [show (0 : Int) + c = c by omega, g2]
      refine ⟨fun _ => ⟨hv, ?_⟩, fun z => by omega⟩
      rcases hv with z | z
      · rw [z]; exact k0 (fun y => by have := hfin.mpr y; omega)
      · rw [z]; exact k1 (hfin.mp z)
    | succ j ih =>
      intro m v hm m0 hv hiff
      have hin : 0 ≤ m ∧ m < (tx c).length := by omega
      have nx : ∀ v' : Int, (v' = 0 ∨ v' = 1) → (v' = 1 ↔ v = 1 ∧ (isNm (tx c) m → isCol (lk (lt (tx c)) (tx c).length m + r) ∧ isRow (lk (lt (tx c)) (tx c).length (m + 1) + dn))) → W_X9_canShift 4 6 [some (.inr (.inr 115)), some (.inl c), some (.inl r), some (.inl dn), some (.inl v'), some (.inl (m + 1))] [] w K := fun v' h01 hiff' => by
        refine ih (m + 1) v' (by omega) (by omega) h01 (hiff'.trans ⟨fun y k a b => ?_, fun y => ⟨hiff.mpr (fun k a b => y k a (by omega)), y m m0 (by omega)⟩⟩)
        by_cases q : k = m
        · rw [q]; exact y.2
        · exact hiff.mp y.1 k a (by omega)
      refine v_X9_canShift_6 ⟨by omega, by omega, ?_⟩
      rw [show (0 : Int) + c = c by omega, g2]
      refine ⟨fun z => by omega, fun _ => ⟨fun z => ⟨by omega, nx 0 (Or.inl rfl) ⟨fun y => by omega, fun y => by omega⟩⟩, fun z => m_isName (by decide) hc hL hin (fun q => am_b1 ?_) (fun q => am_b0 ⟨by omega, nx 1 (Or.inr rfl) ⟨fun _ => ⟨hv.resolve_left z, fun y => absurd y q⟩, fun _ => rfl⟩⟩)⟩⟩
      have hb1 := q.1
      have hb2 := q.2
      have hp1 := lk_pos (t := lt (tx c)) (n := (tx c).length) (p := m + 1) (by unfold isRow at hb2; omega)
      have hb1' := hb1
      have hb2' := hb2
      unfold isCol at hb1'
      unfold isRow at hb2'
      refine m_letter2 (by decide) hc hL hin ⟨by omega, m_isCol (by decide) (fun q3 => am_b1 ⟨by omega, m_letter2 (by decide) hc hL (by omega) ⟨by omega, m_in (by decide) (fun q4 => am_b1 ⟨by omega, nx 1 (Or.inr rfl) ⟨fun _ => ⟨hv.resolve_left z, fun _ => ⟨q3, q4⟩⟩, fun _ => rfl⟩⟩) (fun q4 => am_b0 ⟨by omega, nx 0 (Or.inl rfl) ⟨fun y => by omega, fun y => absurd (y.2 q).2 q4⟩⟩)⟩⟩) (fun q3 => am_b0 ⟨by omega, nx 0 (Or.inl rfl) ⟨fun y => by omega, fun y => absurd (y.2 q).1 q3⟩⟩)⟩
  exact ⟨4, hd, e_X9_canShift (loop (tx c).length 0 1 (by omega) (by decide) (Or.inr rfl) ⟨fun _ k a b => by omega, fun _ => rfl⟩)⟩
theorem c_copy {a b : Int} (hd : 330 ≤ d) (h : Inv n w) (k : ∀ x w', Inv (n + 1) w' → K2 x x w') : C_X8_copy d [.inr (.inr 1), .inl a, .inl b] w (fun x w1 => C_X9_copy d [.inr (.inr 115), .inl a, .inl b] w1 (fun y w2 => K2 x y w2)) := by
  have hI := h
  obtain ⟨h0, A, hW, hC, hM⟩ := h
  have p8 := hW.2.1.2.2.2.2.2.2.2
  refine ⟨329, by omega, e_X8_copy (cg_isCell (by decide) (fun qa => am_b1 (cg_isCell (by decide) (fun qb => am_c1 ?_) (fun qb => am_c0 ?_))) (fun qa => am_b0 ?_))⟩
  · have har := qa
    have hbr := qb
    unfold rng at har hbr
    have hr : -100 ≤ b % 8 - a % 8 ∧ b % 8 - a % 8 ≤ 100 := by omega
    have hdn : -100 ≤ b / 8 - a / 8 ∧ b / 8 - a / 8 ≤ 100 := by omega
    refine ⟨by omega, by omega, by omega, by omega, by omega, by omega, ?_⟩
    have hWfa := (hC.2.1.1 a qa).1
    have hla := hWfa.1
    have mcopy : ∀ (w1 : Wd) (K' : Int → Wd → Prop), C_X9_canShift 329 [.inr (.inr 115), .inl a, .inl (b % 8 - a % 8), .inl (b / 8 - a / 8)] w1 (fun x3 w3 => ((¬ x3 = 0 → C_X9_isFull 329 [.inr (.inr 115), .inl b] w3 (fun x4 w4 => ((x4 = 0 → C_X9_save 329 [.inr (.inr 115)] w4 (fun w5 => (-2147483648 ≤ (0 + a) ∧ (0 + a) ≤ 2147483647) ∧ (0 ≤ (0 + a) ∧ (0 + a) < 2778) ∧ C_X9_waits 329 [.inr (.inr 115), .inl b, .inl (w5 116 (0 + a))] w5 (fun x5 w6 => W_X9_copy 329 85 [some (.inr (.inr 115)), some (.inl a), some (.inl b), some (.inl (b % 8 - a % 8)), some (.inl (b / 8 - a / 8)), some (.inl x5), some (.inl 0), none] [] w6 K'))) ∧ (¬ x4 = 0 → K' (-2000000003) w4)))) ∧ (x3 = 0 → K' (-2000000002) w3))) → C_X9_copy d [.inr (.inr 115), .inl a, .inl b] w1 K' := fun w1 K' hk => ⟨329, by omega, e_X9_copy (cm_isCell (by decide) (fun _ => am_b1 (cm_isCell (by decide) (fun _ => am_c1 ⟨by omega, by omega, by omega, by omega, by omega, by omega, hk⟩) (fun y => absurd qb y))) (fun y => absurd qa y))⟩
    obtain ⟨r, hrr⟩ : ∃ r, r = b % 8 - a % 8 := ⟨_, rfl⟩
    obtain ⟨dn, hdd⟩ : ∃ dn, dn = b / 8 - a / 8 := ⟨_, rfl⟩
    rw [← hrr] at hr mcopy ⊢
    rw [← hdd] at hdn mcopy ⊢
    refine s_draftSh (by decide) qa hC.2.1.1 hr hdn (fun hok w1 hT o1 => am_c1 ?_) (fun hok w1 o1 => am_c0 ?_)
    · have hWf := sh_wf hWfa hok
      have hC1 : IC (4000 * n) A w1 := hC.fr (fun x i _ q1 q2 _ _ => o1 x i q1 q2)
      have hM1 := hM.hi (w' := w1) (fun x i q => o1 x i (by omega) (by omega))
      refine s_letWait (L := shT (A.2.1.1.1 a) r dn (A.2.1.1.1 a).length) (by decide) (Or.inr rfl) qb hT hWf hC1.2.1 hC1.2.2.1 p8.2 (fun e1 e2 => ?_) (fun w2 hnf hCS hHS hoff2 => ?_)
      · exact mcopy w1 _ (m_canShift (by decide) qa hM1.2.1.ml hr hdn (fun _ => am_c1 (m_isFull (by decide) hM1.2.1 qb (fun y => absurd ⟨e1, e2⟩ y) (fun _ _ => am_b1 (k _ w1 ⟨by omega, A, hW.mono (by omega), hC1.mono (by omega), hM1⟩)))) (fun y => absurd hok y))
      · have hM2 := hM1.hi (w' := w2) (fun x i y => hoff2 x i (by omega) (by omega) (by omega))
        refine mcopy w2 _ (m_canShift (by decide) qa hM2.2.1.ml hr hdn (fun _ => am_c1 (m_isFull (by decide) hM2.2.1 qb (fun _ => am_b0 (m_save (by decide) hM2.2.2.1 hM2.2.1 (fun w4 hHM4 e4 => ⟨by omega, by omega, ?_⟩))) (fun y1 y2 => absurd ⟨y1, y2⟩ hnf))) (fun y => absurd hok y))
        have hP4 : PgM (w4 116) A.2.1.1 := hM2.2.1.cong (fun o _ _ => e4 116 o (by decide) (by omega))
        have elen : w4 116 (0 + a) = (A.2.1.1.1 a).length := by rw [show (0 : Int) + a = a by omega]; exact (hP4.ml a qa).2.1
        rw [elen]
        refine m_waits (by decide) hP4 qb hnf (fun w5 s0 hs hcase t1 t2 t3 => ?_)
        have ok1 : ∀ m : Int, isNm (A.2.1.1.1 a) m → shV (A.2.1.1.1 a) r dn m = lk (lt (A.2.1.1.1 a)) (A.2.1.1.1 a).length m + r := fun m hm => by
          have hp := lk_pos (t := lt (A.2.1.1.1 a)) (n := (A.2.1.1.1 a).length) (p := m) (by have := hm.1; unfold isCol at this; omega)
          have := ((mok_iff hWfa).mpr hok m hp.1 hp.2 hm).1
          unfold shV
          rw [if_pos hm.1, if_pos hm.2, if_pos this]
        have ok2 : ∀ m : Int, isNm (A.2.1.1.1 a) (m - 1) → shV (A.2.1.1.1 a) r dn m = lk (lt (A.2.1.1.1 a)) (A.2.1.1.1 a).length m + dn := fun m hm => by
          have hp := lk_pos (t := lt (A.2.1.1.1 a)) (n := (A.2.1.1.1 a).length) (p := m - 1) (by have := hm.1; unfold isCol at this; omega)
          have := ((mok_iff hWfa).mpr hok (m - 1) hp.1 hp.2 hm).2
          have h2 := hm.2
          rw [show m - 1 + 1 = m by omega] at this h2
          unfold shV
          rw [if_neg (by unfold isRow at h2; unfold isCol; omega), if_pos h2, if_pos hm.1, if_pos this]
        have ok3 : ∀ m : Int, ¬ isNm (A.2.1.1.1 a) m → ¬ isNm (A.2.1.1.1 a) (m - 1) → shV (A.2.1.1.1 a) r dn m = lk (lt (A.2.1.1.1 a)) (A.2.1.1.1 a).length m := fun m hm hm1 => by
          unfold isNm at hm hm1
          rw [show m - 1 + 1 = m by omega] at hm1
          unfold shV
          by_cases q1 : isCol (lk (lt (A.2.1.1.1 a)) (A.2.1.1.1 a).length m)
          · rw [if_pos q1, if_neg (fun y => hm ⟨q1, y⟩)]
          · rw [if_neg q1]
            by_cases q2 : isRow (lk (lt (A.2.1.1.1 a)) (A.2.1.1.1 a).length m)
            · rw [if_pos q2, if_neg (fun y => hm1 ⟨y, q2⟩)]
            · rw [if_neg q2]
        -- its letters
        have loop : ∀ (j : Nat) (m : Int) (w6 : Wd), m + j = (A.2.1.1.1 a).length → 0 ≤ m → (∀ x o, ¬ (x = 116 ∧ 2522 + 32 * s0 + 2 ≤ o ∧ o < 2522 + 32 * s0 + 2 + m) → w6 x o = w5 x o) → (∀ o : Nat, (o : Int) < m → w6 116 (2522 + 32 * s0 + 2 + o) = shV (A.2.1.1.1 a) r dn o) → W_X9_copy 329 85 [some (.inr (.inr 115)), some (.inl a), some (.inl b), some (.inl r), some (.inl dn), some (.inl (2522 + 32 * s0 + 2)), some (.inl m), none] [] w6 (fun y w2 => K2 (sm 72 (wtI (up1 A.2.1.1.2.1 b (some (shT (A.2.1.1.1 a) r dn (A.2.1.1.1 a).length))))) y w2) := by
          intro j
          induction j with
          | zero =>
            intro m w6 hm m0 ho6 hlt
            have el6 : w6 116 (0 + a) = (A.2.1.1.1 a).length := by rw [ho6 _ _ (by omega), t3 _ _ (by omega)]; exact elen
            have hP6 : PgM (w6 116) (A.2.1.1.1, up1 A.2.1.1.2.1 b (some (shT (A.2.1.1.1 a) r dn (A.2.1.1.1 a).length)), A.2.1.1.2.2) := by
              refine pg_wait (f := w4 116) (s0 := s0) hP4 qb hWf hs ?_ ?_ ?_ (fun j hj => ?_) (fun o o1 o2 => ?_)
              · rw [ho6 116 2521 (by omega)]; exact hcase
              · rw [ho6 _ _ (by omega)]; exact t1
              · rw [ho6 _ _ (by omega), t2, shT_len]
              · rw [shT_len] at hj
                rw [hlt j (by omega), shT_get hj]
              · rw [ho6 _ _ (by omega), t3 _ _ (by omega)]
            have eW := hP6.waits
            refine v_X9_copy_85 ⟨by omega, by omega, ?_⟩
            rw [el6]
            refine ⟨fun _ => ?_, fun y => by omega⟩
            rw [eW]
            refine k _ w6 (wait_inv h0 hW hC1 hM2 qb hWf hnf hCS hHS (fun x i u => hoff2 x i (by omega) (by omega) (by omega)) (hHM4.cong ?_ (fun i => ?_)) hP6 (fun x i u1 u2 u3 u4 => ?_))
            · rw [ho6 _ _ (by omega), t3 _ _ (by omega)]
            · rw [ho6 _ _ (by omega), t3 _ _ (by omega)]
            · rw [ho6 _ _ (by omega), t3 _ _ (by omega), e4 x i u2 (by omega)]
          | succ j ih =>
            intro m w6 hm m0 ho6 hlt
            have el6 : w6 116 (0 + a) = (A.2.1.1.1 a).length := by rw [ho6 _ _ (by omega), t3 _ _ (by omega)]; exact elen
            have hML : ML w6 A.2.1.1.1 := fun x hx => by
              obtain ⟨g1, g2, g3⟩ := hP4.ml x hx
              have hl := g1.1
              unfold rng at hx
              exact ⟨g1, by rw [ho6 _ _ (by omega), t3 _ _ (by omega)]; exact g2, fun j hj => by rw [ho6 _ _ (by omega), t3 _ _ (by omega)]; exact g3 j hj⟩
            have hin : 0 ≤ m ∧ m < (A.2.1.1.1 a).length := by omega
            have nx : ∀ v : Int, v = shV (A.2.1.1.1 a) r dn m → (0 ≤ (2522 + 32 * s0 + 2 + m) ∧ (2522 + 32 * s0 + 2 + m) < 2778) ∧ (∀ w7, w7 = wset w6 116 (2522 + 32 * s0 + 2 + m) v → (-2147483648 ≤ (m + 1) ∧ (m + 1) ≤ 2147483647) ∧ W_X9_copy 329 85 [some (.inr (.inr 115)), some (.inl a), some (.inl b), some (.inl r), some (.inl dn), some (.inl (2522 + 32 * s0 + 2)), some (.inl (m + 1)), none] [] w7 (fun y w2 => K2 (sm 72 (wtI (up1 A.2.1.1.2.1 b (some (shT (A.2.1.1.1 a) r dn (A.2.1.1.1 a).length))))) y w2)) := fun v hv => by
              refine ⟨by omega, ?_⟩
              rintro w7 rfl
              refine ⟨by omega, ih (m + 1) _ (by omega) (by omega) (fun x o u => by rw [wset_at (by omega)]; exact ho6 x o (by omega)) (fun o ho => ?_)⟩
              by_cases e : (o : Int) = m
              · rw [e, wset_eq]; exact hv
              · rw [wset_at (by omega)]; exact hlt o (by omega)
            have hbd : ∀ i : Int, isNm (A.2.1.1.1 a) i → 0 ≤ i ∧ i + 1 < (A.2.1.1.1 a).length ∧ (97 ≤ lk (lt (A.2.1.1.1 a)) (A.2.1.1.1 a).length i ∧ lk (lt (A.2.1.1.1 a)) (A.2.1.1.1 a).length i ≤ 104) ∧ (49 ≤ lk (lt (A.2.1.1.1 a)) (A.2.1.1.1 a).length (i + 1) ∧ lk (lt (A.2.1.1.1 a)) (A.2.1.1.1 a).length (i + 1) ≤ 57) := fun i hi => by
              have h1 := hi.1
              have h2 := hi.2
              unfold isCol at h1
              unfold isRow at h2
              have hp := lk_pos (t := lt (A.2.1.1.1 a)) (n := (A.2.1.1.1 a).length) (p := i) (by omega)
              have hp1 := lk_pos (t := lt (A.2.1.1.1 a)) (n := (A.2.1.1.1 a).length) (p := i + 1) (by omega)
              exact ⟨hp.1, hp1.2, h1, h2⟩
            refine v_X9_copy_85 ⟨by omega, by omega, ?_⟩
            rw [el6]
            refine ⟨fun y => by omega, fun _ => ⟨fun z => ⟨by omega, m_letter2 (by decide) qa hML hin (m_isName (by decide) qa hML hin (fun q => am_b1 ?_) (fun q => am_b0 ?_))⟩, fun z => ⟨by omega, m_isName (by decide) qa hML (by omega) (fun q => am_b1 ⟨by omega, m_letter2 (by decide) qa hML hin (m_isName (by decide) qa hML hin (fun q2 => ?_) (fun q2 => am_b0 ?_))⟩) (fun q => am_b0 ⟨by omega, m_letter2 (by decide) qa hML hin (m_isName (by decide) qa hML hin (fun q2 => am_b1 ?_) (fun q2 => am_b0 ?_))⟩)⟩⟩⟩
            · have hb := hbd m q
              exact ⟨by omega, nx _ (ok1 m q).symm⟩
            · have hn1 : ¬ isNm (A.2.1.1.1 a) (m - 1) := fun y => by have := (hbd _ y).1; omega
              rw [Int.add_zero]
              refine ⟨?_, nx _ (ok3 m q hn1).symm⟩
              exact lk_in32 hWfa m
            · exact absurd q2 (fun y => (nm_disj y).1 q)
            · have hb := hbd (m - 1) q
              rw [show m - 1 + 1 = m by omega] at hb
              exact ⟨by omega, nx _ (ok2 m q).symm⟩
            · have hb := hbd m q2
              exact ⟨by omega, nx _ (ok1 m q2).symm⟩
            · rw [Int.add_zero]
              refine ⟨?_, nx _ (ok3 m q2 q).symm⟩
              exact lk_in32 hWfa m
        exact loop (A.2.1.1.1 a).length 0 w5 (by omega) (by decide) (fun _ _ _ => rfl) (fun o ho => by omega)
    · have hC1 : IC (4000 * n) A w1 := hC.fr (fun x i _ q1 q2 _ _ => o1 x i q1 q2)
      have hM1 := hM.hi (w' := w1) (fun x i q => o1 x i (by omega) (by omega))
      exact mcopy w1 _ (m_canShift (by decide) qa hM1.2.1.ml hr hdn (fun y => absurd y hok) (fun _ => am_c0 (k _ w1 ⟨by omega, A, hW.mono (by omega), hC1.mono (by omega), hM1⟩)))
  · exact ⟨329, by omega, e_X9_copy (cm_isCell (by decide) (fun _ => am_b1 (cm_isCell (by decide) (fun y => absurd y qb) (fun _ => am_c0 (k _ w hI.up)))) (fun y => absurd qa y))⟩
  · exact ⟨329, by omega, e_X9_copy (cm_isCell (by decide) (fun y => absurd y qa) (fun _ => am_b0 (k _ w hI.up)))⟩
end JGS
