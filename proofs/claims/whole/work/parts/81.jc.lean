/-! letting a text wait: put -/
section JCS
variable {w w0 w1 w' : Wd} {d : Nat} {K : Int → Wd → Prop} {KV : Wd → Prop} {K2 : Int → Int → Wd → Prop} {n N c : Int} {A : AS} {F F0 : Fs} {H : List Fs} {tx : Int → List Int} {wt : Int → Option (List Int)} {D : Dt} {L : List Int}
def FsW (F : Fs) (c : Int) (L : List Int) : Fs := ((F.1.1, up1 F.1.2.1 c (some L), F.1.2.2), F.2)
theorem wtI_up1 : wtI (up1 wt c (some L)) c = 1 := by
  unfold wtI
  rw [up1_eq]
theorem wtI_up1_ne {x : Int} (h : x ≠ c) : wtI (up1 wt c (some L)) x = wtI wt x := by
  unfold wtI
  rw [up1_ne h]
theorem sm_up1 (hc : rng c) : sm 72 (wtI (up1 wt c (some L))) = sm 72 (wtI wt) - wtI wt c + 1 := by
  have := sm_upd (f := wtI wt) (g := wtI (up1 wt c (some L))) (c := c) 72 hc.1 hc.2 (fun x hx => wtI_up1_ne hx)
  rw [wtI_up1] at this
  exact this
theorem s_letWait {te : Int} (hd : 20 ≤ d) (hte : am_Te te) (hc : rng c) (hT : w te 1 = L.length ∧ ∀ j : Nat, j < L.length → w (te + 1) j = L.getD j 0) (hWf : Wf L) (hC : CS w 6 F) (hH : HS w H) (h13 : F.2.2.2.2.2.2.2 = 0 ∨ F.2.2.2.2.2.2.2 = 1)
    (kf : F.1.2.1 c = none → 8 ≤ sm 72 (wtI F.1.2.1) → K (-2000000003) w)
    (k : ∀ w', ¬ (F.1.2.1 c = none ∧ 8 ≤ sm 72 (wtI F.1.2.1)) → CS w' 6 (FsW F c L) → HS w' (keepH H F) → (∀ b i, b < 38 ∨ 104 ≤ b → b ≠ 11 → b ≠ 12 → w' b i = w b i) → K (sm 72 (wtI (up1 F.1.2.1 c (some L)))) w') : C_X8_letWait d [.inr (.inr 1), .inl c, .inr (.inr te)] w K := by
  have h6 : am_St 6 := by unfold am_St; omega
  have h10 : am_Tx 10 := am_St_4 (s := 6) h6
  have hter : te = 2 ∨ te = 4 := hte
  have hcr := hc
  unfold rng at hcr
  have hl := hWf.1
  have go : ¬ (F.1.2.1 c = none ∧ 8 ≤ sm 72 (wtI F.1.2.1)) → C_X4_keep 19 [.inr (.inr 38), .inr (.inr 6)] w (fun x5 w6 => C_X7_take 19 [.inr (.inr 10), .inl c, .inr (.inr te)] w6 (fun w7 => C_X5_waitingEdits 19 [.inr (.inr 6)] w7 (fun x6 w8 => K x6 w8))) := fun hnf => by
    refine s_keep (by decide) h13 hH hC (fun bs w1 hbs hH1 hF1 hoff h38 => ⟨18, by decide, e_X7_take h10 hte (by decide) ⟨by omega, by omega, ?_⟩⟩)
    rintro w2 rfl
    refine ⟨hc, ?_⟩
    rw [show (10 : Int) + 1 = 11 by decide, show (10 : Int) + 2 = 12 by decide]
    rw [show wcopy w1 (te + 1) 0 11 (c * 30) 30 te 1 = L.length by rw [wcopy_ne (by omega), hoff te 1 (by omega)]; exact hT.1]
    rintro w3 rfl
    generalize hw3 : wset (wcopy w1 (te + 1) 0 11 (c * 30) 30) 12 c (L.length : Int) = w3
    have o3 : ∀ b i, ¬ (b = 11 ∧ c * 30 ≤ i ∧ i < c * 30 + 30) → ¬ (b = 12 ∧ i = c) → w3 b i = w1 b i := fun b i q1 q2 => by rw [← hw3, wset_at (by omega), wcopy_ne (by omega)]
    have o3w : ∀ b i, b < 38 ∨ 104 ≤ b → ¬ (b = 11 ∧ c * 30 ≤ i ∧ i < c * 30 + 30) → ¬ (b = 12 ∧ i = c) → w3 b i = w b i := fun b i q q1 q2 => by rw [o3 b i q1 q2, hoff b i q]
    have hCW : CWt w3 6 (up1 F.1.2.1 c (some L)) := fun x hx => by
      have hxr := hx
      unfold rng at hxr
      by_cases q : x = c
      · subst q
        rw [up1_eq]
        refine ⟨fun z => (by cases z), fun L' z => ?_⟩
        rw [← Option.some.inj z]
        refine ⟨hWf, ?_, fun j hj => ?_⟩
        · rw [← hw3, show (6 : Int) + 6 = 12 by decide, wset_eq]
        · rw [← hw3, show (6 : Int) + 5 = 11 by decide, wset_at (by omega), wcopy_in (by omega), show (0 : Int) + (x * 30 + (j : Int) - x * 30) = j by omega, hoff (te + 1) j (by omega)]
          exact hT.2 j hj
      · rw [up1_ne q]
        refine ⟨fun z => ?_, fun L' z => ?_⟩
        · rw [o3w _ _ (by decide) (by omega) (by omega)]; exact (hC.2.1 x hx).1 z
        · obtain ⟨g1, g2, g3⟩ := (hC.2.1 x hx).2 L' z
          have hl' := g1.1
          exact ⟨g1, by rw [o3w _ _ (by decide) (by omega) (by omega)]; exact g2, fun j hj => by rw [o3w _ _ (by decide) (by omega) (by omega)]; exact g3 j hj⟩
    refine s_waitEd (by decide) h6 hCW (k w3 hnf ⟨fun x hx => ?_, hCW, ?_, fun x hx => ?_, fun x hx => ?_, ?_, ?_⟩ (hH1.cong (fun b i b0 b1 => o3 b i (by omega) (by omega))) (fun b i q1 q2 q3 => o3w b i q1 (by omega) (by omega)))
    · obtain ⟨g1, g2, g3⟩ := hC.1 x hx
      exact ⟨g1, by rw [o3w _ _ (by decide) (by omega) (by omega)]; exact g2, fun j hj => by rw [o3w _ _ (by decide) (by omega) (by omega)]; exact g3 j hj⟩
    · rw [o3w _ _ (by decide) (by omega) (by omega)]; exact hC.2.2.1
    · rw [o3w _ _ (by decide) (by omega) (by omega), o3w _ _ (by decide) (by omega) (by omega), o3w _ _ (by decide) (by omega) (by omega)]; exact hC.2.2.2.1 x hx
    · obtain ⟨q1, q2, q3, q4, q5⟩ := hC.2.2.2.2.1 x hx
      rw [o3w _ _ (by decide) (by omega) (by omega), o3w _ _ (by decide) (by omega) (by omega), o3w _ _ (by decide) (by omega) (by omega), o3w _ _ (by decide) (by omega) (by omega)]
      exact ⟨q1, q2, q3, q4, q5.cong (o3w _ _ (by decide) (by omega) (by omega)) (fun i _ _ => o3w _ _ (by decide) (by omega) (by omega))⟩
    · rw [o3w _ _ (by decide) (by omega) (by omega)]; exact hC.2.2.2.2.2.1
    · rw [o3w _ _ (by decide) (by omega) (by omega)]; exact hC.2.2.2.2.2.2
  refine ⟨19, by omega, e_X8_letWait hte (s_waits (by decide) h6 hc hC.2.1 ⟨fun z => go (fun y => z (wtI_none.mpr y.1)), fun z => s_waitEd (by decide) h6 hC.2.1 ⟨fun y => go (fun u => by omega), fun y => kf (wtI_none.mp z) (by omega)⟩⟩)⟩
theorem m_isFull {P : Pg} (hd : 2 ≤ d) (hP : PgM (w 116) P) (hc : rng c) (k0 : ¬ (P.2.1 c = none ∧ 8 ≤ sm 72 (wtI P.2.1)) → K 0 w) (k1 : P.2.1 c = none → 8 ≤ sm 72 (wtI P.2.1) → K 1 w) : C_X9_isFull d [.inr (.inr 115), .inl c] w K := by
  have hw := hP.waits
  have h8 := hP.2.2.2.1
  exact ⟨1, hd, e_X9_isFull ⟨fun z => k0 (fun y => by omega), fun z => m_slotOf (wt := P.2.1) (by decide) hP hc (fun q => ⟨fun y => absurd y (by decide), fun _ => k1 q (by omega)⟩) (fun s s0 s1 s2 q => ⟨fun _ => k0 (fun y => q y.1), fun y => absurd s0 y⟩)⟩⟩
/-- a page with one more text that waits, or another one for the cell -/
theorem pg_wait {f f' : Int → Int} {P : Pg} {s0 : Int} (hP : PgM f P) (hc : rng c) (hWf : Wf L) (hs : 0 ≤ s0 ∧ s0 < 8) (hcase : (P.2.1 c ≠ none ∧ s0 < f 2521 ∧ f (2522 + 32 * s0) = c ∧ f' 2521 = f 2521) ∨ (P.2.1 c = none ∧ s0 = f 2521 ∧ f' 2521 = f 2521 + 1))
    (h1 : f' (2522 + 32 * s0) = c) (h2 : f' (2522 + 32 * s0 + 1) = L.length) (h3 : ∀ j : Nat, j < L.length → f' (2522 + 32 * s0 + 2 + j) = L.getD j 0) (h4 : ∀ o, o ≠ 2521 → ¬ (2522 + 32 * s0 ≤ o ∧ o < 2522 + 32 * s0 + 32) → f' o = f o) : PgM f' (P.1, up1 P.2.1 c (some L), P.2.2) := by
  obtain ⟨p1, p2, p3, ⟨p4, p4b⟩, p5, p6, p7⟩ := hP
  have hl := hWf.1
  have old : ∀ s, s ≠ s0 → 0 ≤ s → s < 8 → ∀ o, 0 ≤ o → o < 32 → f' (2522 + 32 * s + o) = f (2522 + 32 * s + o) := fun s hne s0' s1 o o0 o1 => h4 _ (by omega) (by omega)
  have hcell : ∀ s, s ≠ s0 → 0 ≤ s → s < f 2521 → f (2522 + 32 * s) ≠ c := fun s hne a b e => by
    rcases hcase with ⟨q1, q2, q3, _⟩ | ⟨q1, q2, _⟩
    · by_cases z : s < s0
      · exact p6 s s0 a z q2 (by rw [e, q3])
      · exact p6 s0 s hs.1 (by omega) b (by rw [e, q3])
    · obtain ⟨_, L', u, _⟩ := p5 s a b
      rw [e, q1] at u
      cases u
  have hn' : f' 2521 ≤ 8 := by rcases hcase with ⟨_, _, _, q⟩ | ⟨_, q, q2⟩ <;> omega
  have hn0 : s0 < f' 2521 := by rcases hcase with ⟨_, q1, _, q⟩ | ⟨_, q, q2⟩ <;> omega
  have hlt : ∀ s, 0 ≤ s → s < f' 2521 → s ≠ s0 → s < f 2521 := fun s a b e => by rcases hcase with ⟨_, q1, _, q⟩ | ⟨_, q, q2⟩ <;> omega
  refine ⟨fun x hx => ?_, fun x hx => ?_, by rw [h4 _ (by decide) (by omega)]; exact p3, ⟨by omega, hn'⟩, fun s a b => ?_, fun s s' a b e => ?_, fun x hx hne => ?_⟩
  · obtain ⟨t1, t2, t3⟩ := p1 x hx
    have hl' := t1.1
    unfold rng at hx
    exact ⟨t1, by rw [h4 _ (by omega) (by omega)]; exact t2, fun j hj => by
      have hj' : j < (P.1 x).length := hj
      rw [h4 _ (by omega) (by omega)]; exact t3 j hj⟩
  · have := p2 x hx
    unfold rng at hx
    rw [h4 _ (by omega) (by omega), h4 _ (by omega) (by omega), h4 _ (by omega) (by omega), h4 _ (by omega) (by omega)]
    exact this
  · by_cases q : s = s0
    · rw [q, h1]
      exact ⟨hc, L, up1_eq, hWf, h2, h3⟩
    · have hs' := hlt s a b q
      obtain ⟨t1, L', t2, t3, t4, t5⟩ := p5 s a hs'
      have hl' := t3.1
      have e := old s q a (by omega) 0 (by decide) (by decide)
      rw [Int.add_zero] at e
      rw [e]
      refine ⟨t1, L', ?_, t3, by rw [old s q a (by omega) 1 (by decide) (by decide)]; exact t4, fun j hj => ?_⟩
      · show up1 P.2.1 c (some L) (f (2522 + 32 * s)) = some L'
        rw [up1_ne (hcell s q a hs')]
        exact t2
      · have := old s q a (by omega) (2 + j) (by omega) (by omega)
        rw [show 2522 + 32 * s + (2 + (j : Int)) = 2522 + 32 * s + 2 + j by omega] at this
        rw [this]
        exact t5 j hj
  · have e0 : ∀ s, 0 ≤ s → s < f' 2521 → s ≠ s0 → f' (2522 + 32 * s) = f (2522 + 32 * s) := fun s a b q => by
      have e := old s q a (by omega) 0 (by decide) (by decide)
      rw [Int.add_zero] at e
      exact e
    by_cases q1 : s = s0
    · have q2 : s' ≠ s0 := by omega
      rw [q1, h1, e0 s' (by omega) e q2]
      exact fun z => hcell s' q2 (by omega) (hlt s' (by omega) e q2) z.symm
    · by_cases q2 : s' = s0
      · rw [q2, h1, e0 s a (by omega) q1]
        exact hcell s q1 a (hlt s a (by omega) q1)
      · rw [e0 s a (by omega) q1, e0 s' (by omega) e q2]
        exact p6 s s' a b (hlt s' (by omega) e q2)
  · by_cases q : x = c
    · exact ⟨s0, hs.1, hn0, by rw [h1, q]⟩
    · have hne' : P.2.1 x ≠ none := by
        have : up1 P.2.1 c (some L) x ≠ none := hne
        rw [up1_ne q] at this
        exact this
      obtain ⟨s, a, b, e⟩ := p7 x hx hne'
      have hq : s ≠ s0 := fun z => by
        rcases hcase with ⟨_, _, q3, _⟩ | ⟨_, q2, _⟩
        · rw [z, q3] at e; exact q e.symm
        · omega
      refine ⟨s, a, ?_, ?_⟩
      · rcases hcase with ⟨_, _, _, q3⟩ | ⟨_, _, q3⟩ <;> omega
      · have e1 := old s hq a (by omega) 0 (by decide) (by decide)
        rw [Int.add_zero] at e1
        rw [e1]; exact e
/-- the place for a text that waits -/
theorem m_waits {P : Pg} {ln : Int} (hd : 2 ≤ d) (hP : PgM (w 116) P) (hc : rng c) (hnf : ¬ (P.2.1 c = none ∧ 8 ≤ sm 72 (wtI P.2.1))) (k : ∀ w' s0, (0 ≤ s0 ∧ s0 < 8) → ((P.2.1 c ≠ none ∧ s0 < w 116 2521 ∧ w 116 (2522 + 32 * s0) = c ∧ w' 116 2521 = w 116 2521) ∨ (P.2.1 c = none ∧ s0 = w 116 2521 ∧ w' 116 2521 = w 116 2521 + 1)) → w' 116 (2522 + 32 * s0) = c → w' 116 (2522 + 32 * s0 + 1) = ln → (∀ b o, ¬ (b = 116 ∧ (o = 2521 ∨ o = 2522 + 32 * s0 ∨ o = 2522 + 32 * s0 + 1)) → w' b o = w b o) → K (2522 + 32 * s0 + 2) w') : C_X9_waits d [.inr (.inr 115), .inl c, .inl ln] w K := by
  have hw := hP.waits
  have h8 := hP.2.2.2.1
  refine ⟨1, hd, e_X9_waits (m_slotOf (wt := P.2.1) (by decide) hP hc (fun q => ⟨fun y => absurd y (by decide), fun _ => ⟨by omega, ?_⟩⟩) (fun s s0 s1 s2 q => ⟨fun _ => ⟨by omega, by omega, by omega, ?_⟩, fun y => absurd s0 y⟩))⟩
  · rintro w4 rfl
    have hs8 : w 116 2521 < 8 := Classical.byContradiction (fun z => hnf ⟨q, by omega⟩)
    refine ⟨by omega, by omega, by omega, ?_⟩
    rintro w5 rfl
    refine ⟨by omega, by omega, by omega, by omega, ?_⟩
    rintro w6 rfl
    refine ⟨by omega, by omega, by omega, k _ (w 116 2521) ⟨by omega, hs8⟩ (Or.inr ⟨q, rfl, ?_⟩) ?_ ?_ (fun b o hb => ?_)⟩
    · rw [wset_at (by omega), wset_at (by omega), wset_eq]
    · rw [wset_at (by omega), wset_eq]
    · rw [wset_eq]
    · rw [wset_at (by omega), wset_at (by omega), wset_at (by omega)]
  · rintro w2 rfl
    refine ⟨by omega, by omega, by omega, by omega, ?_⟩
    rintro w3 rfl
    refine ⟨by omega, by omega, by omega, k _ s ⟨s0, by omega⟩ (Or.inl ⟨q, s1, s2, ?_⟩) ?_ ?_ (fun b o hb => ?_)⟩
    · rw [wset_at (by omega), wset_at (by omega)]
    · rw [wset_at (by omega), wset_eq]
    · rw [wset_eq]
    · rw [wset_at (by omega), wset_at (by omega)]
theorem fsW_wf (hF : WF n F) (hc : rng c) (hWf : Wf L) (hnf : ¬ (F.1.2.1 c = none ∧ 8 ≤ sm 72 (wtI F.1.2.1))) : WF n (FsW F c L) := by
  obtain ⟨p1, p2, p3, p4, p5, p6, p7, p8⟩ := hF
  refine ⟨p1, p2, fun x L' hx hL' => ?_, ?_, p5, p6, p7, p8⟩
  · have hL2 : up1 F.1.2.1 c (some L) x = some L' := hL'
    by_cases q : x = c
    · rw [q, up1_eq] at hL2
      rw [← Option.some.inj hL2]; exact hWf
    · rw [up1_ne q] at hL2
      exact p3 x L' hx hL2
  · show sm 72 (wtI (up1 F.1.2.1 c (some L))) ≤ 8
    rw [sm_up1 hc]
    have := wtI_01 F.1.2.1 c
    by_cases z : F.1.2.1 c = none
    · have h8 : sm 72 (wtI F.1.2.1) < 8 := Classical.byContradiction (fun y => hnf ⟨z, by omega⟩)
      omega
    · have : wtI F.1.2.1 c ≠ 0 := fun y => z (wtI_none.mp y)
      omega
/-- what both sides hold after a text was let wait -/
theorem wait_inv {w2 w5 : Wd} (h0 : 0 ≤ n) (hW : WQ n A) (hC0 : IC (4000 * n) A w0) (hM2 : IM A w2) (hc : rng c) (hWf : Wf L) (hnf : ¬ (A.2.1.1.2.1 c = none ∧ 8 ≤ sm 72 (wtI A.2.1.1.2.1)))
    (hCS : CS w2 6 (FsW A.2.1 c L)) (hHS : HS w2 (keepH A.2.2 A.2.1)) (hoff2 : ∀ b i, b = 2 ∨ b = 3 ∨ b = 109 ∨ b = 113 → w2 b i = w0 b i) (hHM5 : HM w5 (keepH A.2.2 A.2.1)) (hP5 : PgM (w5 116) (A.2.1.1.1, up1 A.2.1.1.2.1 c (some L), A.2.1.1.2.2)) (hoff5 : ∀ b i, b ≠ 116 → b ≠ 117 → ¬ (b = 115 ∧ (i = 2 ∨ i = 23 ∨ i = 24 ∨ i = 25 ∨ i = 26 ∨ i = 27)) → ¬ (133 ≤ b ∧ b ≤ 134) → w5 b i = w2 b i) : Inv (n + 1) w5 := by
  refine ⟨by omega, (A.1, FsW A.2.1 c L, keepH A.2.2 A.2.1), ⟨hW.1, (fsW_wf hW.2.1 hc hWf hnf).mono (by omega), fun F hm => (keep_wf hW.2.2 hW.2.1 F hm).mono (by omega)⟩, ⟨⟨?_, fun j hj => ?_⟩, hCS.cong (fun b i b0 b1 => hoff5 b i (by omega) (by omega) (by omega) (by omega)), hHS.cong (fun b i b0 b1 => hoff5 b i (by omega) (by omega) (by omega) (by omega)), ((hC0.2.2.2).mono (by omega)).cong ?_ (fun i => ?_)⟩, ⟨⟨?_, fun j hj => ?_⟩, hP5, hHM5, hM2.2.2.2.1.cong (fun a i a0 a1 => hoff5 a i (by omega) (by omega) (by omega) (by omega)) (hoff5 _ _ (by decide) (by decide) (by decide) (by decide)) (hoff5 _ _ (by decide) (by decide) (by decide) (by decide)), ?_, ?_⟩⟩
  · rw [hoff5 _ _ (by decide) (by decide) (by decide) (by decide), hoff2 _ _ (by decide)]; exact hC0.1.1
  · rw [hoff5 _ _ (by decide) (by decide) (by omega) (by decide), hoff2 _ _ (by decide)]; exact hC0.1.2 j hj
  · rw [hoff5 _ _ (by decide) (by decide) (by decide) (by decide), hoff2 _ _ (by decide)]
  · rw [hoff5 _ _ (by decide) (by decide) (by omega) (by decide), hoff2 _ _ (by decide)]
  · rw [hoff5 _ _ (by decide) (by decide) (by decide) (by decide)]; exact hM2.1.1
  · rw [hoff5 _ _ (by decide) (by decide) (by omega) (by decide)]; exact hM2.1.2 j hj
  · rw [hoff5 _ _ (by decide) (by decide) (by decide) (by decide)]; exact hM2.2.2.2.2.1
  · rw [hoff5 _ _ (by decide) (by decide) (by decide) (by decide)]; exact hM2.2.2.2.2.2
theorem ck_wf (h30 : L.length ≤ 30) (h : ckFault (lt L) L.length = -1) : Wf L := ⟨h30, fun _ => h⟩
theorem c_put (hd : 330 ≤ d) (h : Inv n w) (k : ∀ x w', Inv (n + 1) w' → K2 x x w') : C_X8_put d [.inr (.inr 1), .inl c] w (fun x w1 => C_X9_put d [.inr (.inr 115), .inl c] w1 (fun y w2 => K2 x y w2)) := by
  have hI := h
  obtain ⟨h0, A, hW, hC, hM⟩ := h
  have hF := hW.2.1
  have p8 := hF.2.2.2.2.2.2.2
  have hr := ckFault_rng (t := lt A.1) (n := A.1.length) ⟨by omega, by have := hW.1; omega⟩
  refine ⟨329, by omega, e_X8_put (cg_isCell (by decide) (fun q => am_c1 (s_typedFault (by decide) hC hW.1 (fun w1 hC1 hhi => ?_))) (fun q => am_c0 ?_))⟩
  · have hM1 := hM.hi hhi
    refine ⟨fun z => ?_, fun z => ?_⟩
    · have hWf := ck_wf hW.1 z
      refine s_letWait (L := A.1) (by decide) (Or.inl rfl) q hC1.1 hWf hC1.2.1 hC1.2.2.1 p8.2 (fun e1 e2 => ?_) (fun w2 hnf hCS hHS hoff2 => ?_)
      · refine ⟨329, by omega, e_X9_put (cm_isCell (by decide) (fun _ => am_c1 (m_typedFault (by decide) hM1 hW.1 (fun w3 hM3 hlo => ⟨fun _ => m_isFull (by decide) hM3.2.1 q (fun y => absurd ⟨e1, e2⟩ y) (fun _ _ => am_b1 (k _ w3 ⟨by omega, A, hW.mono (by omega), (hC1.lo hlo).mono (by omega), hM3⟩)), fun y => by omega⟩))) (fun y => absurd q y))⟩
      · have hM2 := hM1.hi (w' := w2) (fun b i y => hoff2 b i (by omega) (by omega) (by omega))
        refine ⟨329, by omega, e_X9_put (cm_isCell (by decide) (fun _ => am_c1 ?_) (fun y => absurd q y))⟩
        refine m_faultOf (t := lt A.1) (n := A.1.length) (by decide) ⟨hM2.1.1, ⟨by omega, by have := hW.1; omega⟩, fun i i0 i1 => ?_⟩ (fun pp δ ia wa is kk qq => ⟨fun _ => ?_, fun y => by omega⟩)
        · have := hM2.1.2 i.toNat (by omega)
          rw [show ((i.toNat : Nat) : Int) = i by omega] at this
          exact this
        · generalize hw3 : fw w2 pp δ ia wa is kk qq = w3
          have o3 : ∀ b i, ¬ (b = 115 ∧ (i = 23 ∨ i = 24 ∨ i = 25 ∨ i = 26 ∨ i = 27)) → ¬ (133 ≤ b ∧ b ≤ 134) → w3 b i = w2 b i := fun b i u1 u2 => by rw [← hw3]; exact fw_oth u1 (by omega) (by omega)
          have hM3 : IM A w3 := hM2.fr (fun b i u1 u2 u3 => o3 b i u3 (by omega))
          refine m_isFull (by decide) hM3.2.1 q (fun _ => am_b0 (m_save (by decide) hM3.2.2.1 hM3.2.1 (fun w4 hHM4 e4 => ?_))) (fun y1 y2 => absurd ⟨y1, y2⟩ hnf)
          have hP4 : PgM (w4 116) A.2.1.1 := hM3.2.1.cong (fun o _ _ => e4 116 o (by decide) (by omega))
          have e44 : w4 115 4 = A.1.length := by rw [e4 _ _ (by decide) (by decide)]; exact hM3.1.1
          rw [e44]
          refine m_waits (by decide) hP4 q hnf (fun w5 s0 hs hcase t1 t2 t3 => ?_)
          -- its letters
          have loop : ∀ (j : Nat) (m : Int) (w6 : Wd), m + j = A.1.length → 0 ≤ m → (∀ b o, ¬ (b = 116 ∧ 2522 + 32 * s0 + 2 ≤ o ∧ o < 2522 + 32 * s0 + 2 + m) → w6 b o = w5 b o) → (∀ o : Nat, (o : Int) < m → w6 116 (2522 + 32 * s0 + 2 + o) = A.1.getD o 0) → W_X9_put 329 47 [some (.inr (.inr 115)), some (.inl c), some (.inl (2522 + 32 * s0 + 2)), some (.inl m)] [] w6 (fun y w2 => K2 (sm 72 (wtI (up1 A.2.1.1.2.1 c (some A.1)))) y w2) := by
            intro j
            induction j with
            | zero =>
              intro m w6 hm m0 ho6 hlt
              have e64 : w6 115 4 = A.1.length := by rw [ho6 _ _ (by omega), t3 _ _ (by omega)]; exact e44
              have hP6 : PgM (w6 116) (A.2.1.1.1, up1 A.2.1.1.2.1 c (some A.1), A.2.1.1.2.2) := by
                refine pg_wait (f := w4 116) (s0 := s0) hP4 q hWf hs ?_ ?_ ?_ (fun j hj => hlt j (by omega)) (fun o o1 o2 => ?_)
                · rw [ho6 116 2521 (by omega)]; exact hcase
                · rw [ho6 _ _ (by omega)]; exact t1
                · rw [ho6 _ _ (by omega)]; exact t2
                · have hl := hW.1
                  rw [ho6 _ _ (by omega), t3 _ _ (by omega)]
              have eW : w6 116 2521 = sm 72 (wtI (up1 A.2.1.1.2.1 c (some A.1))) := hP6.waits
              refine v_X9_put_47 ⟨fun _ => ?_, fun y => by omega⟩
              rw [eW]
              refine k _ w6 (wait_inv h0 hW hC1 hM2 q hWf hnf hCS hHS (fun b i u => hoff2 b i (by omega) (by omega) (by omega)) (hHM4.cong ?_ (fun i => ?_)) hP6 (fun b i u1 u2 u3 u4 => ?_))
              · rw [ho6 _ _ (by omega), t3 _ _ (by omega)]
              · rw [ho6 _ _ (by omega), t3 _ _ (by omega)]
              · rw [ho6 _ _ (by omega), t3 _ _ (by omega), e4 b i u2 (by omega)]
                exact o3 b i (by omega) u4
            | succ j ih =>
              intro m w6 hm m0 ho6 hlt
              have hl := hW.1
              have e64 : w6 115 4 = A.1.length := by rw [ho6 _ _ (by omega), t3 _ _ (by omega)]; exact e44
              have e118 : w6 118 m = A.1.getD m.toNat 0 := by
                rw [ho6 _ _ (by omega), t3 _ _ (by omega), e4 _ _ (by decide) (by omega)]
                have := hM3.1.2 m.toNat (by omega)
                rw [show ((m.toNat : Nat) : Int) = m by omega] at this
                exact this
              refine v_X9_put_47 ⟨fun y => by omega, fun _ => ⟨by omega, by omega, by omega, ?_⟩⟩
              rw [e118]
              rintro w7 rfl
              refine ⟨by omega, ih (m + 1) _ (by omega) (by omega) (fun b o u => by rw [wset_at (by omega)]; exact ho6 b o (by omega)) (fun o ho => ?_)⟩
              by_cases e : (o : Int) = m
              · rw [e, wset_eq, show m.toNat = o by omega]
              · rw [wset_at (by omega)]; exact hlt o (by omega)
          exact loop A.1.length 0 w5 (by omega) (by decide) (fun _ _ _ => rfl) (fun o ho => by omega)
    · refine ⟨329, by omega, e_X9_put (cm_isCell (by decide) (fun _ => am_c1 (m_typedFault (by decide) hM1 hW.1 (fun w3 hM3 hlo => ⟨fun y => by omega, fun _ => k _ w3 ⟨by omega, A, hW.mono (by omega), (hC1.lo hlo).mono (by omega), hM3⟩⟩))) (fun y => absurd q y))⟩
  · exact ⟨329, by omega, e_X9_put (cm_isCell (by decide) (fun y => absurd y q) (fun _ => am_c0 (k _ w hI.up)))⟩
end JCS
