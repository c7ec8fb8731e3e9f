section JES
variable {w w0 w1 w' : Wd} {d : Nat} {K : Int → Wd → Prop} {KV : Wd → Prop} {K2 : Int → Int → Wd → Prop} {n N : Int} {A : AS} {F F0 : Fs} {H : List Fs} {tx : Int → List Int} {wt : Int → Option (List Int)} {D : Dt} {L : List Int}
theorem s_TxTake {s te c : Int} (hd : 3 ≤ d) (hs : am_Tx s) (hte : am_Te te) (hc : rng c) (k : ∀ w', w' = wset (wcopy w (te + 1) 0 (s + 1) (c * 30) 30) (s + 2) c (wcopy w (te + 1) 0 (s + 1) (c * 30) 30 te 1) → KV w') : C_X7_take d [.inr (.inr s), .inl c, .inr (.inr te)] w KV := by
  have hcr := hc
  unfold rng at hcr
  refine ⟨2, hd, e_X7_take hs hte (by decide) ⟨by omega, by omega, ?_⟩⟩
  rintro w1 rfl
  refine ⟨hc, ?_⟩
  rintro w2 rfl
  exact k _ rfl
theorem c_whatIf {c x o : Int} (hd : 520 ≤ d) (hn : n ≤ 20000) (h : Inv n w) (k : ∀ y w', Inv (n + 1) w' → K2 y y w') : C_X8_whatIf d [.inr (.inr 1), .inl c, .inl x, .inl o] w (fun y w1 => C_X9_whatIf d [.inr (.inr 115), .inl c, .inl x, .inl o] w1 (fun z w2 => K2 y z w2)) := by
  have hI := h
  obtain ⟨h0, A, hW, hC, hM⟩ := h
  have hF := hW.2.1
  obtain ⟨p1, p2, p3, p4, p5, p6, p7, p8⟩ := id hF
  have h6 : am_St 6 := by unfold am_St; omega
  have h22 : am_St 22 := by unfold am_St; omega
  have h7 : am_Tx 7 := am_St_1 (s := 6) h6
  have h23 : am_Tx 23 := am_St_1 (s := 22) h22
  have out : ∀ y : Int, y = -2000000001 → ¬ (rng c ∧ rng o ∧ -999999 ≤ x ∧ x ≤ 999999) → C_X9_whatIf d [.inr (.inr 115), .inl c, .inl x, .inl o] w (fun z w2 => K2 y z w2) := fun y hy hn => by
    rw [hy]
    exact ⟨519, by omega, e_X9_whatIf (cm_isCell (by decide) (fun q => am_b1 (m_in (by decide) (fun q2 => am_b1 (cm_isCell (by decide) (fun q3 => absurd ⟨q, q3, q2.1, q2.2⟩ hn) (fun _ => am_c0 (k _ w hI.up)))) (fun _ => am_b0 (k _ w hI.up)))) (fun _ => am_b0 (k _ w hI.up)))⟩
  refine ⟨519, by omega, e_X8_whatIf (cg_isCell (by decide) (fun qc => am_b1 (cg_isCell (by decide) (fun qo => am_b1 ⟨fun z => out _ rfl (fun y => by omega), fun z => ⟨fun z2 => ?_, fun z2 => out _ rfl (fun y => by omega)⟩⟩) (fun qo => am_b0 (out _ rfl (fun y => qo y.2.1))))) (fun qc => am_b0 (out _ rfl (fun y => qc y.1))))⟩
  have hx : -999999 ≤ x ∧ x ≤ 999999 := ⟨by omega, z2⟩
  obtain ⟨hWf, hne, hFm⟩ := dgL_ok hx
  have hcr := qc
  unfold rng at hcr
  refine s_draft (by decide) hx (fun w1 hT1 o1 => s_TxAll (by decide) h23 h7 ?_)
  rintro w2 rfl
  refine s_TxTake (by decide) h23 (Or.inr rfl) qc ?_
  rintro w3 rfl w4 rfl
  generalize hw3 : wset (wcopy (wcopy (wcopy w1 (7 + 1) 0 (23 + 1) 0 2160) (7 + 2) 0 (23 + 2) 0 72) (4 + 1) 0 (23 + 1) (c * 30) 30) (23 + 2) c (wcopy (wcopy (wcopy w1 (7 + 1) 0 (23 + 1) 0 2160) (7 + 2) 0 (23 + 2) 0 72) (4 + 1) 0 (23 + 1) (c * 30) 30 4 1) = w3
  have o3 : ∀ b i, b ≠ 24 → b ≠ 25 → w3 b i = w1 b i := fun b i q1 q2 => by rw [← hw3, wset_at (by omega), wcopy_ne (by omega), wcopy_ne (by omega), wcopy_ne (by omega)]
  have o3w : ∀ b i, b ≠ 4 → b ≠ 5 → b ≠ 24 → b ≠ 25 → w3 b i = w b i := fun b i q1 q2 q3 q4 => by rw [o3 b i q3 q4, o1 b i q1 q2]
  have e611 : w3 6 11 = A.2.1.1.2.2.1 := by rw [o3w 6 11 (by decide) (by decide) (by decide) (by decide)]; exact hC.2.1.2.2.1
  rw [e611]
  generalize hw4 : wset w3 22 11 A.2.1.1.2.2.1 = w4
  have o4 : ∀ b i, b ≠ 4 → b ≠ 5 → b ≠ 24 → b ≠ 25 → b ≠ 22 → w4 b i = w b i := fun b i q1 q2 q3 q4 q5 => by rw [← hw4, wset_at (by omega)]; exact o3w b i q1 q2 q3 q4
  -- the guess: the formulas, with the number in place of one
  have hCL : CL w4 22 (up1 A.2.1.1.1 c (dgL x)) := fun y hy => by
    have hyr := hy
    unfold rng at hyr
    have e24 : ∀ i, w4 24 i = w3 24 i := fun i => by rw [← hw4, wset_at (by omega)]
    have e25 : ∀ i, w4 25 i = w3 25 i := fun i => by rw [← hw4, wset_at (by omega)]
    rw [show (22 : Int) + 3 = 25 by decide, show (22 : Int) + 2 = 24 by decide, e25]
    by_cases q : y = c
    · subst q
      rw [up1_eq]
      have hl := hWf.1
      refine ⟨hWf, ?_, fun j hj => ?_⟩
      · rw [← hw3, show (23 : Int) + 2 = 25 by decide, wset_eq, wcopy_ne (by omega), wcopy_ne (by omega), wcopy_ne (by omega)]
        exact hT1.1
      · rw [e24, ← hw3, wset_at (by omega), show (23 : Int) + 1 = 24 by decide, wcopy_in (by omega), wcopy_ne (by omega), wcopy_ne (by omega), show (0 : Int) + (y * 30 + (j : Int) - y * 30) = j by omega, show (4 : Int) + 1 = 5 by decide]
        exact hT1.2 j hj
    · rw [up1_ne q]
      obtain ⟨g1, g2, g3⟩ := hC.2.1.1 y hy
      have hl := g1.1
      refine ⟨g1, ?_, fun j hj => ?_⟩
      · rw [← hw3, wset_at (by omega), wcopy_ne (by omega), show (23 : Int) + 2 = 25 by decide, wcopy_in (by omega), wcopy_ne (by omega), show (0 : Int) + (y - 0) = y by omega, show (7 : Int) + 2 = 9 by decide, o1 9 y (by decide) (by decide)]
        exact g2
      · rw [e24, ← hw3, wset_at (by omega), show (23 : Int) + 1 = 24 by decide, wcopy_ne (by omega), wcopy_ne (by omega), wcopy_in (by omega), show (0 : Int) + (y * 30 + (j : Int) - 0) = y * 30 + j by omega, show (7 : Int) + 1 = 8 by decide, o1 8 _ (by decide) (by decide)]
        exact g3 j hj
  have e2211 : w4 22 11 = A.2.1.1.2.2.1 := by rw [← hw4, wset_eq]
  refine s_settle (N := 4000 * n) (by decide) h22 hCL (by rw [e2211]; exact p5) (hC.2.2.2.cong (o4 _ _ (by decide) (by decide) (by decide) (by decide) (by decide)) (fun i => o4 _ _ (by decide) (by decide) (by decide) (by decide) (by decide))) (by omega) (fun w5 D hSt hDk hCD hFX hGN => ?_)
  rw [e2211] at hSt
  obtain ⟨d1, d2, _⟩ := hCD.1 o qo
  have d1' : w5 29 o = D.2.2.2.1 o := d1
  have d2' : w5 30 o = D.2.2.2.2.1 o := d2
  have o5 : ∀ b i, b ≠ 4 → b ≠ 5 → ¬ (22 ≤ b ∧ b ≤ 34) → b ≠ 108 → b ≠ 110 → b ≠ 112 → b ≠ 113 → ¬ (b = 109 ∧ 3 ≤ i ∧ i ≤ 7) → w5 b i = w b i := fun b i q1 q2 q3 q4 q5 q6 q7 q8 => by
    rw [hFX b i q4 q5 q6 q7 q8 (by omega) (by omega)]
    exact o4 b i q1 q2 (by omega) (by omega) (by omega)
  have hIC : IC (4000 * (n + 1)) A w5 := by
    refine ⟨⟨?_, fun j hj => ?_⟩, hC.2.1.cong (fun b i b0 b1 => o5 b i (by omega) (by omega) (by omega) (by omega) (by omega) (by omega) (by omega) (by omega)), hC.2.2.1.cong (fun b i b0 b1 => o5 b i (by omega) (by omega) (by omega) (by omega) (by omega) (by omega) (by omega) (by omega)), hGN.mono (by omega)⟩
    · rw [o5 2 1 (by decide) (by decide) (by decide) (by decide) (by decide) (by decide) (by decide) (by decide)]; exact hC.1.1
    · rw [o5 3 _ (by decide) (by decide) (by decide) (by decide) (by decide) (by decide) (by decide) (by omega)]; exact hC.1.2 j hj
  have hM5 := hM.hi (w' := w5) (fun b i q => o5 b i (by omega) (by omega) (by omega) (by omega) (by omega) (by omega) (by omega) (by omega))
  -- the reference
  have hem : emM A.2.1.1.1 c = emT (up1 A.2.1.1.1 c (dgL x)) := funext (fun y => by
    unfold emM emT
    by_cases q : y = c
    · rw [if_neg (fun u => u.2 q), q, up1_eq, if_neg hne]
    · rw [up1_ne q]
      by_cases e : A.2.1.1.1 y = []
      · rw [if_pos ⟨e, q⟩, if_pos e]
      · rw [if_neg (fun u => e u.1), if_neg e])
  have hGM : GM A.2.1.1.1 c x = (fun y => Fm (up1 A.2.1.1.1 c (dgL x) y)) := funext (fun y => by
    unfold GM
    by_cases q : y = c
    · rw [if_pos q, q, up1_eq, hFm]
    · rw [if_neg q, up1_ne q])
  have ref : ∀ y : Int, y = (if D.2.2.2.2.1 o = 0 then D.2.2.2.1 o else -2000000004) → C_X9_whatIf d [.inr (.inr 115), .inl c, .inl x, .inl o] w5 (fun z w2 => K2 y z w2) := by
    intro y hy
    refine ⟨519, by omega, e_X9_whatIf (cm_isCell (by decide) (fun _ => am_b1 (m_in (by decide) (fun _ => am_b1 (cm_isCell (by decide) (fun _ => am_c1 ?_) (fun u => absurd qo u))) (fun u => absurd hx u))) (fun u => absurd qc u))⟩
    rintro w6 rfl w7 rfl
    generalize hw7 : wset (wset w5 115 42 c) 115 43 x = w7
    have o7 : ∀ b i, ¬ (b = 115 ∧ (i = 42 ∨ i = 43)) → w7 b i = w5 b i := fun b i q => by rw [← hw7, wset_at (by omega), wset_at (by omega)]
    have hP7 : PgM (w7 116) A.2.1.1 := hM5.2.1.cong (fun i _ _ => o7 116 i (by omega))
    have e42 : w7 115 42 = c := by rw [← hw7, wset_at (by omega), wset_eq]
    have e43 : w7 115 43 = x := by rw [← hw7, wset_eq]
    have e20 : w7 116 2520 = A.2.1.1.2.2.1 := hP7.2.2.1
    refine m_settles (gv := c) (nb := x) (by decide) hP7.ml (by omega) ⟨e42, e43⟩ (by rw [e20]; exact p5) (fun w8 k8 h8 g8 s8 hS8 hF8 hM8 => ⟨qo, ?_⟩)
    rw [e20, hem, hGM] at hS8
    have hG : GdG (emT (up1 A.2.1.1.1 c (dgL x))) (fun y => Fm (up1 A.2.1.1.1 c (dgL x) y)) := fun y hy h0 => by
      refine gd_Fm (hCL y hy).1 (fun u => h0 ?_)
      unfold emT
      rw [if_pos u]
    obtain ⟨_, _, _, q4⟩ := setd_uni hG hSt hS8
    obtain ⟨m1, m2, _⟩ := hM8.1 o qo
    rw [q4] at m1 m2
    have hb := (hDk.1 o qo).2.2.1
    -- and the sheet as it was
    have back : ∀ (v : Int), v = y → ∀ w9, w9 = wset w8 115 42 (-1) → C_X9_settles 519 [.inr (.inr 115)] w9 (fun w10 => K2 y v w10) := by
      rintro v rfl w9 rfl
      have o9 : ∀ b i, b ≤ 118 → ¬ (b = 115 ∧ (i = 19 ∨ i = 20 ∨ i = 23 ∨ i = 24 ∨ i = 26 ∨ i = 27 ∨ i = 36 ∨ i = 37 ∨ i = 38 ∨ i = 39 ∨ i = 40 ∨ i = 41 ∨ i = 42 ∨ i = 43)) → wset w8 115 42 (-1) b i = w5 b i := fun b i q1 q2 => by
        rw [wset_at (by omega), hF8 b i (by omega) (by omega) (by omega) (by omega), o7 b i (by omega)]
      have hP9 : PgM (wset w8 115 42 (-1) 116) A.2.1.1 := hM5.2.1.cong (fun i _ _ => o9 116 i (by omega) (by omega))
      have e20' : wset w8 115 42 (-1) 116 2520 = A.2.1.1.2.2.1 := hP9.2.2.1
      have e43' : wset w8 115 42 (-1) 115 43 = x := by rw [wset_at (by omega), hF8 115 43 (by omega) (by omega) (by omega) (by omega)]; exact e43
      refine m_settle0 (D := A.2.1.2) (by decide) hP9.ml p2 wset_eq (by rw [e43']; omega) (by rw [e20']; exact p5) (by rw [e20']; exact p7) (fun w10 hF10 hM10 => ?_)
      have o10 : ∀ b i, b ≤ 118 → ¬ (b = 115 ∧ (i = 19 ∨ i = 20 ∨ i = 23 ∨ i = 24 ∨ i = 26 ∨ i = 27 ∨ i = 36 ∨ i = 37 ∨ i = 38 ∨ i = 39 ∨ i = 40 ∨ i = 41 ∨ i = 42 ∨ i = 43)) → w10 b i = w5 b i := fun b i q1 q2 => by
        rw [hF10 b i (by omega) (by omega) (by omega) (by omega)]; exact o9 b i q1 q2
      refine k _ w10 ⟨by omega, A, hW.mono (by omega), hIC.lo (fun b i q => o10 b i (by omega) (by omega)), ⟨⟨?_, fun j hj => ?_⟩, hM5.2.1.cong (fun i _ _ => o10 116 i (by omega) (by omega)), hM5.2.2.1.cong (o10 _ _ (by omega) (by omega)) (fun i => o10 _ _ (by omega) (by omega)), hM10, ?_, ?_⟩⟩
      · rw [o10 115 4 (by omega) (by omega)]; exact hM5.1.1
      · rw [o10 118 _ (by omega) (by omega)]; exact hM5.1.2 j hj
      · rw [hF10 115 42 (by omega) (by omega) (by omega) (by omega), wset_eq]
      · rw [hF10 115 43 (by omega) (by omega) (by omega) (by omega), e43']; omega
    rw [m1, m2]
    refine ⟨fun u => ⟨qo, ?_⟩, fun u => ?_⟩
    · rw [if_pos (by omega)] at hy
      exact back _ hy.symm
    · rw [if_neg (by omega)] at hy
      exact back _ hy.symm
  refine ⟨qo, ?_⟩
  rw [d1', d2']
  exact ⟨fun u => ref _ (by rw [if_neg u]), fun u => ⟨qo, ref _ (by rw [if_pos u])⟩⟩
end JES
