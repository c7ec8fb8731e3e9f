/-! the calls that change a sheet: update -/
def txU (tx : Int → List Int) (wt : Int → Option (List Int)) : Int → List Int := fun c => if 0 ≤ c ∧ c < 72 then (match wt c with
  | none => tx c
  | some L => L) else tx c
section JAS
variable {w w0 w1 w' : Wd} {d : Nat} {K : Int → Wd → Prop} {KV : Wd → Prop} {K2 : Int → Int → Wd → Prop} {n N : Int} {A : AS} {F F0 : Fs} {H : List Fs} {tx : Int → List Int} {wt : Int → Option (List Int)} {D : Dt}
theorem txU_none {c : Int} (h : wt c = none) : txU tx wt c = tx c := by
  unfold txU
  split
  · rw [h]
  · rfl
theorem txU_some {c : Int} {L : List Int} (hc : rng c) (h : wt c = some L) : txU tx wt c = L := by
  unfold txU
  rw [if_pos (show 0 ≤ c ∧ c < 72 from hc), h]
theorem wtI_none {c : Int} : wtI wt c = 0 ↔ wt c = none := by
  unfold wtI
  rcases wt c with _ | L
  · exact ⟨fun _ => rfl, fun _ => rfl⟩
  · exact ⟨fun (z : (1 : Int) = 0) => absurd z (by decide), fun z => by cases z⟩
theorem s_clearAll (hd : 1 ≤ d) (k : ∀ w', (∀ b i, ¬ (b = 12 ∧ 0 ≤ i ∧ i < 72) → w' b i = w b i) → (∀ c, rng c → w' 12 c = -1) → KV w') : C_X7_clearAll d [.inr (.inr 10), .inl (-1)] w KV := by
  have ht : am_Tx 10 := am_St_4 (s := 6) (by unfold am_St; omega)
  have loop : ∀ (j : Nat) (v : Int) (w1 : Wd), v + j = 72 → 0 ≤ v → (∀ b i, ¬ (b = 12 ∧ 0 ≤ i ∧ i < 72) → w1 b i = w b i) → (∀ c, 0 ≤ c → c < v → w1 12 c = -1) → W_X7_clearAll 0 2 [some (.inr (.inr 10)), some (.inl (-1)), some (.inl v)] [] w1 KV := by
    intro j
    induction j with
    | zero =>
      intro v w1 hv v0 ho hc
      exact v_X7_clearAll_2 ht ⟨fun _ => k w1 ho (fun c hc2 => hc c hc2.1 (by have := hc2.2; omega)), fun z => by omega⟩
    | succ j ih =>
      intro v w1 hv v0 ho hc
      refine v_X7_clearAll_2 ht ⟨fun z => by omega, fun _ => ⟨by omega, ?_⟩⟩
      rintro w2 rfl
      rw [show (10 : Int) + 2 = 12 by decide]
      refine ⟨by omega, ih (v + 1) _ (by omega) (by omega) (fun b i q => by rw [wset_at (by omega)]; exact ho b i q) (fun c c0 c1 => ?_)⟩
      by_cases q : c = v
      · rw [q, wset_eq]
      · rw [wset_at (by omega)]; exact hc c c0 (by omega)
  exact ⟨0, hd, e_X7_clearAll ht (loop 72 0 w (by decide) (by decide) (fun _ _ _ => rfl) (fun c c0 c1 => by omega))⟩
/-- what waits becomes the formulas -/
theorem s_upd27 {bs : Int} (hbs : am_St bs) (hL : CL w 6 tx) (hW : CWt w 6 wt) (k : ∀ w', CL w' 6 (txU tx wt) → (∀ b i, b ≠ 8 → b ≠ 9 → w' b i = w b i) → C_X7_clearAll 519 [.inr (.inr 10), .inl (-1)] w' (fun w1 => C_X8_bringUpToDate 519 [.inr (.inr 1), .inr (.inr bs), .inl 1] w1 (fun x1 w2 => K x1 w2))) : W_X8_update 519 27 [some (.inr (.inr 1)), some (.inr (.inr bs)), some (.inl 0)] [] w K := by
  have h6 : am_St 6 := by unfold am_St; omega
  have h7 : am_Tx 7 := am_St_1 (s := 6) h6
  have h10 : am_Tx 10 := am_St_4 (s := 6) h6
  have loop : ∀ (j : Nat) (v : Int) (w1 : Wd), v + j = 72 → 0 ≤ v → (∀ b i, b ≠ 8 → b ≠ 9 → w1 b i = w b i) → (∀ c, rng c → ∀ T : List Int, T = (if c < v then txU tx wt c else tx c) → Wf T ∧ w1 9 c = T.length ∧ ∀ j : Nat, j < T.length → w1 8 (c * 30 + j) = T.getD j 0) → W_X8_update 519 27 [some (.inr (.inr 1)), some (.inr (.inr bs)), some (.inl v)] [] w1 K := by
    intro j
    induction j with
    | zero =>
      intro v w1 hv v0 ho hc
      exact v_X8_update_27 hbs ⟨fun _ => k w1 (fun c hcr => hc c hcr _ (by rw [if_pos (by have := hcr.2; omega)])) ho, fun z => by omega⟩
    | succ j ih =>
      intro v w1 hv v0 ho hc
      have hrv : rng v := ⟨v0, by omega⟩
      have hW1 : CWt w1 6 wt := fun c hcr => ⟨fun q => by rw [ho _ _ (by decide) (by decide)]; exact (hW c hcr).1 q, fun L q => by
        obtain ⟨g1, g2, g3⟩ := (hW c hcr).2 L q
        exact ⟨g1, by rw [ho _ _ (by decide) (by decide)]; exact g2, fun j hj => by rw [ho _ _ (by decide) (by decide)]; exact g3 j hj⟩⟩
      refine v_X8_update_27 hbs ⟨fun z => by omega, fun _ => s_waits (by decide) h6 hrv hW1 ⟨fun z => ⟨by omega, ih (v + 1) w1 (by omega) (by omega) ho (fun c hcr T hT => ?_)⟩, fun z => ?_⟩⟩
      · refine hc c hcr T ?_
        rw [hT]
        by_cases q : c < v
        · rw [if_pos (by omega), if_pos q]
        · by_cases q2 : c = v
          · rw [if_pos (by omega), if_neg q, q2, txU_none (wtI_none.mp z)]
          · rw [if_neg (by omega), if_neg q]
      · rcases hq : wt v with _ | L
        · exact absurd (wtI_none.mpr hq) z
        · obtain ⟨g1, g2, g3⟩ := (hW1 v hrv).2 L hq
          have hl := g1.1
          refine ⟨518, by decide, e_X7_takeSame h7 h10 (by decide) ⟨by omega, by omega, ?_⟩⟩
          rintro w2 rfl
          refine ⟨hrv, hrv, ?_⟩
          rw [show (10 : Int) + 1 = 11 by decide, show (7 : Int) + 1 = 8 by decide, show (7 : Int) + 2 = 9 by decide, show (10 : Int) + 2 = 12 by decide]
          rw [wcopy_ne (by omega)]
          rintro w3 rfl
          refine ⟨by omega, ih (v + 1) _ (by omega) (by omega) (fun b i q1 q2 => by rw [wset_at (by omega), wcopy_ne (by omega)]; exact ho b i q1 q2) (fun c hcr T hT => ?_)⟩
          have g2' : w1 12 v = L.length := g2
          have g3' : ∀ j : Nat, j < L.length → w1 11 (v * 30 + j) = L.getD j 0 := g3
          by_cases q2 : c = v
          · have hT' : T = L := by rw [hT, if_pos (by omega), q2, txU_some hrv hq]
            rw [hT', q2]
            refine ⟨g1, by rw [wset_eq]; exact g2', fun j hj => ?_⟩
            rw [wset_at (by omega), wcopy_in (by omega), show v * 30 + (v * 30 + (j : Int) - v * 30) = v * 30 + j by omega]
            exact g3' j hj
          · have hT' : T = (if c < v then txU tx wt c else tx c) := by
              rw [hT]
              by_cases q : c < v
              · rw [if_pos (by omega), if_pos q]
              · rw [if_neg (by omega), if_neg q]
            obtain ⟨t1, t2, t3⟩ := hc c hcr T hT'
            have hl2 := t1.1
            refine ⟨t1, ?_, fun j hj => ?_⟩
            · rw [wset_at (by omega), wcopy_ne (by omega)]; exact t2
            · rw [wset_at (by omega), wcopy_ne (by omega)]; exact t3 j hj
  exact loop 72 0 w (by decide) (by decide) (fun _ _ _ _ => rfl) (fun c hcr T hT => by rw [if_neg (by have := hcr.1; omega)] at hT; rw [hT]; exact hL c hcr)
/-- the reference takes the slots -/
theorem m_upd24 {P : Pg} (hP : PgM (w 116) P) (h132 : ∀ c, rng c → w 132 c = 0) (k : ∀ w', PgM (wset w' 116 2521 0 116) (txU P.1 P.2.1, (fun _ => none), P.2.2) → (∀ c, rng c → w' 132 c = wtI P.2.1 c) → (∀ b i, b ≠ 116 → b ≠ 132 → w' b i = w b i) → C_X9_bringsUp 519 [.inr (.inr 115)] (wset w' 116 2521 0) (fun x1 w2 => K x1 w2)) : W_X9_update 519 24 [some (.inr (.inr 115)), some (.inl 0), none, none, none] [] w K := by
  obtain ⟨p1, p2, p3, p4, p5, p6, p7⟩ := hP
  have loop : ∀ (j : Nat) (v : Int) (w1 : Wd), v + j = w 116 2521 → 0 ≤ v → (∀ b i, b ≠ 116 → b ≠ 132 → w1 b i = w b i) → (∀ i, ¬ (0 ≤ i ∧ i < 2232) → w1 116 i = w 116 i) →
      (∀ c, rng c → ((∃ s, 0 ≤ s ∧ s < v ∧ w 116 (2522 + 32 * s) = c) → w1 132 c = 1 ∧ ∀ L, P.2.1 c = some L → w1 116 c = L.length ∧ ∀ j : Nat, j < L.length → w1 116 (72 + 30 * c + j) = L.getD j 0) ∧ ((∀ s, 0 ≤ s → s < v → w 116 (2522 + 32 * s) ≠ c) → w1 132 c = 0 ∧ w1 116 c = w 116 c ∧ ∀ j : Int, 0 ≤ j → j < 30 → w1 116 (72 + 30 * c + j) = w 116 (72 + 30 * c + j))) →
      W_X9_update 519 24 [some (.inr (.inr 115)), some (.inl v), none, none, none] [] w1 K := by
    intro j
    induction j with
    | zero =>
      intro v w1 hv v0 ho hf hc
      have e2521 : w1 116 2521 = w 116 2521 := hf 2521 (by decide)
      refine v_X9_update_24 ⟨fun _ => ?_, fun z => by omega⟩
      rintro w2 rfl
      refine k w1 ⟨fun c hcr => ?_, fun c hcr => ?_, ?_, ?_, fun s s0 s1 => ?_, fun s s' s0 s1 s2 => ?_, fun c hcr hn => absurd rfl hn⟩ (fun c hcr => ?_) ho
      · have hcr' := hcr
        unfold rng at hcr'
        rcases hq : P.2.1 c with _ | L
        · have hno : ∀ s, 0 ≤ s → s < v → w 116 (2522 + 32 * s) ≠ c := fun s s0 s1 e => by
            obtain ⟨_, L, q, _⟩ := p5 s s0 (by omega)
            rw [e, hq] at q
            cases q
          obtain ⟨t1, t2, t3⟩ := (hc c hcr).2 hno
          obtain ⟨q1, q2, q3⟩ := p1 c hcr
          have hl := q1.1
          show Wf (txU P.1 P.2.1 c) ∧ wset w1 116 2521 0 116 c = ((txU P.1 P.2.1 c).length : Int) ∧ ∀ j : Nat, j < (txU P.1 P.2.1 c).length → wset w1 116 2521 0 116 (72 + 30 * c + j) = (txU P.1 P.2.1 c).getD j 0
          rw [txU_none hq]
          exact ⟨q1, by rw [wset_at (by omega), t2]; exact q2, fun j hj => by rw [wset_at (by omega), t3 j (by omega) (by omega)]; exact q3 j hj⟩
        · obtain ⟨s, s0, s1, s2⟩ := p7 c hcr (by rw [hq]; exact fun y => by cases y)
          have t := (hc c hcr).1 ⟨s, s0, by omega, s2⟩
          obtain ⟨t2, t3⟩ := t.2 L hq
          obtain ⟨_, L', q, q2, _⟩ := p5 s s0 s1
          rw [s2, hq] at q
          have eL : L' = L := (Option.some.inj q).symm
          rw [eL] at q2
          have hl := q2.1
          show Wf (txU P.1 P.2.1 c) ∧ wset w1 116 2521 0 116 c = ((txU P.1 P.2.1 c).length : Int) ∧ ∀ j : Nat, j < (txU P.1 P.2.1 c).length → wset w1 116 2521 0 116 (72 + 30 * c + j) = (txU P.1 P.2.1 c).getD j 0
          rw [txU_some hcr hq]
          exact ⟨q2, by rw [wset_at (by omega)]; exact t2, fun j hj => by rw [wset_at (by omega)]; exact t3 j hj⟩
      · have := p2 c hcr
        unfold rng at hcr
        rw [wset_at (by omega), wset_at (by omega), wset_at (by omega), wset_at (by omega), hf _ (by omega), hf _ (by omega), hf _ (by omega), hf _ (by omega)]
        exact this
      · rw [wset_at (by omega), hf _ (by decide)]; exact p3
      · rw [wset_eq]; exact ⟨by decide, by decide⟩
      · rw [wset_eq] at s1; omega
      · rw [wset_eq] at s2; omega
      · rcases hq : P.2.1 c with _ | L
        · have hno : ∀ s, 0 ≤ s → s < v → w 116 (2522 + 32 * s) ≠ c := fun s s0 s1 e => by
            obtain ⟨_, L, q, _⟩ := p5 s s0 (by omega)
            rw [e, hq] at q
            cases q
          rw [wtI_none.mpr hq]
          exact ((hc c hcr).2 hno).1
        · obtain ⟨s, s0, s1, s2⟩ := p7 c hcr (by rw [hq]; exact fun y => by cases y)
          have := (wtI_01 P.2.1 c).resolve_left (fun z => by rw [wtI_none.mp z] at hq; cases hq)
          rw [this]
          exact ((hc c hcr).1 ⟨s, s0, by omega, s2⟩).1
    | succ j ih =>
      intro v w1 hv v0 ho hf hc
      have e2521 : w1 116 2521 = w 116 2521 := hf 2521 (by decide)
      obtain ⟨q1, L, q2, q3, q4, q5⟩ := p5 v v0 (by omega)
      have hl := q3.1
      have ecell : w1 116 (2522 + 32 * v) = w 116 (2522 + 32 * v) := hf _ (by omega)
      have hcr := q1
      unfold rng at hcr
      refine v_X9_update_24 ⟨fun z => by omega, fun _ => ⟨by omega, by omega, by omega, by rw [ecell]; exact q1, ?_⟩⟩
      rw [ecell]
      rintro w3 rfl
      refine ⟨by omega, by omega, by omega, by omega, ?_⟩
      rw [show wset w1 132 (w 116 (2522 + 32 * v)) 1 116 (2522 + 32 * v + 1) = L.length by rw [wset_at (by omega), hf _ (by omega)]; exact q4]
      rw [show (0 : Int) + w 116 (2522 + 32 * v) = w 116 (2522 + 32 * v) by omega]
      rintro w4 rfl
      generalize hcell : w 116 (2522 + 32 * v) = c at *
      -- its letters
      have inner : ∀ (i : Nat) (m : Int) (w5 : Wd), m + i = 30 → 0 ≤ m → (∀ b o, ¬ (b = 116 ∧ 72 + 30 * c ≤ o ∧ o < 72 + 30 * c + m) → w5 b o = wset (wset w1 132 c 1) 116 c (L.length : Int) b o) → (∀ o : Int, 0 ≤ o → o < m → w5 116 (72 + 30 * c + o) = w 116 (2522 + 32 * v + 2 + o)) → W_X9_update 519 78 [some (.inr (.inr 115)), some (.inl v), some (.inl (2522 + 32 * v)), some (.inl c), some (.inl m)] [] w5 K := by
        intro i
        induction i with
        | zero =>
          intro m w5 hm m0 ho5 hlt
          refine v_X9_update_78 ⟨fun _ => ⟨by omega, ih (v + 1) w5 (by omega) (by omega) (fun b o b1 b2 => ?_) (fun o ho' => ?_) (fun x hx => ⟨fun hex => ?_, fun hno => ?_⟩)⟩, fun z => by omega⟩
          · rw [ho5 b o (by omega), wset_at (by omega), wset_at (by omega)]; exact ho b o b1 b2
          · rw [ho5 116 o (by omega), wset_at (by omega), wset_at (by omega)]; exact hf o ho'
          · unfold rng at hx
            by_cases e : x = c
            · rw [e]
              refine ⟨by rw [ho5 132 c (by omega), wset_at (by omega), wset_eq], fun L' hL' => ?_⟩
              rw [q2] at hL'
              have eL : L' = L := (Option.some.inj hL').symm
              rw [eL]
              refine ⟨by rw [ho5 116 c (by omega), wset_eq], fun j hj => ?_⟩
              rw [hlt j (by omega) (by omega)]
              exact q5 j hj
            · have hex' : ∃ s, 0 ≤ s ∧ s < v ∧ w 116 (2522 + 32 * s) = x := by
                obtain ⟨s, s0, s1, s2⟩ := hex
                refine ⟨s, s0, ?_, s2⟩
                have : s ≠ v := fun z => e (by rw [← s2, z, hcell])
                omega
              obtain ⟨t1, t2⟩ := (hc x hx).1 hex'
              refine ⟨by rw [ho5 132 x (by omega), wset_at (by omega), wset_at (by omega)]; exact t1, fun L' hL' => ?_⟩
              obtain ⟨t3, t4⟩ := t2 L' hL'
              have hl' : L'.length ≤ 30 := by
                obtain ⟨s, s0, s1, s2⟩ := hex'
                obtain ⟨_, L2, u1, u2, _⟩ := p5 s s0 (by omega)
                rw [s2, hL'] at u1
                rw [← Option.some.inj u1] at u2
                exact u2.1
              refine ⟨by rw [ho5 116 x (by omega), wset_at (by omega), wset_at (by omega)]; exact t3, fun j hj => ?_⟩
              rw [ho5 116 _ (by omega), wset_at (by omega), wset_at (by omega)]
              exact t4 j hj
          · unfold rng at hx
            have e : x ≠ c := fun z => hno v v0 (by omega) (by rw [hcell, z])
            obtain ⟨t1, t2, t3⟩ := (hc x hx).2 (fun s s0 s1 => hno s s0 (by omega))
            refine ⟨by rw [ho5 132 x (by omega), wset_at (by omega), wset_at (by omega)]; exact t1, by rw [ho5 116 x (by omega), wset_at (by omega), wset_at (by omega)]; exact t2, fun j j0 j1 => ?_⟩
            rw [ho5 116 _ (by omega), wset_at (by omega), wset_at (by omega)]
            exact t3 j j0 j1
        | succ i ih2 =>
          intro m w5 hm m0 ho5 hlt
          refine v_X9_update_78 ⟨fun z => by omega, fun _ => ⟨by omega, by omega, by omega, by omega, by omega, by omega, by omega, ?_⟩⟩
          rw [show w5 116 (2522 + 32 * v + 2 + m) = w 116 (2522 + 32 * v + 2 + m) by rw [ho5 116 _ (by omega), wset_at (by omega), wset_at (by omega)]; exact hf _ (by omega)]
          rintro w6 rfl
          refine ⟨by omega, ih2 (m + 1) _ (by omega) (by omega) (fun b o hb => ?_) (fun o o0 o1 => ?_)⟩
          · rw [wset_at (by omega)]; exact ho5 b o (by omega)
          · by_cases e : o = m
            · rw [e, wset_eq]
            · rw [wset_at (by omega)]; exact hlt o o0 (by omega)
      exact inner 30 0 _ (by decide) (by decide) (fun b o _ => rfl) (fun o o0 o1 => by omega)
  exact loop (w 116 2521).toNat 0 w (by omega) (by decide) (fun _ _ _ _ => rfl) (fun _ _ => rfl) (fun c hcr => ⟨fun ⟨s, s0, s1, _⟩ => by omega, fun _ => ⟨h132 c hcr, rfl, fun _ _ _ => rfl⟩⟩)
theorem c_update (hd : 530 ≤ d) (hn : n ≤ 20000) (h : Inv n w) (k : ∀ x w', Inv (n + 1) w' → K2 x x w') : C_X8_update d [.inr (.inr 1)] w (fun x w1 => C_X9_update d [.inr (.inr 115)] w1 (fun y w2 => K2 x y w2)) := by
  have hI := h
  obtain ⟨h0, A, hW, hC, hM⟩ := h
  have hF := hW.2.1
  obtain ⟨p1, p2, p3, p4, p5, p6, p7, p8⟩ := id hF
  have h6 : am_St 6 := by unfold am_St; omega
  have hwm := hM.2.1.waits
  refine ⟨519, by omega, e_X8_update (s_waitEd (by decide) h6 hC.2.1.2.1 ⟨fun hw0 => ?_, fun hw0 => ?_⟩)⟩
  · refine s_keep (by decide) p8.2 hC.2.2.1 hC.2.1 (fun bs w1 hbs hH1 hF1 hoff h38 => ⟨Kt_St hbs, ?_⟩)
    have hbr : 40 ≤ bs ∧ bs ≤ 88 := by unfold am_Kt at hbs; omega
    have hL1 : CL w1 6 A.2.1.1.1 := fun c hc => by
      obtain ⟨g1, g2, g3⟩ := hC.2.1.1 c hc
      exact ⟨g1, by rw [hoff _ _ (by decide)]; exact g2, fun j hj => by rw [hoff _ _ (by decide)]; exact g3 j hj⟩
    have hW1 : CWt w1 6 A.2.1.1.2.1 := fun c hc => ⟨fun q => by rw [hoff _ _ (by decide)]; exact (hC.2.1.2.1 c hc).1 q, fun L q => by
      obtain ⟨g1, g2, g3⟩ := (hC.2.1.2.1 c hc).2 L q
      exact ⟨g1, by rw [hoff _ _ (by decide)]; exact g2, fun j hj => by rw [hoff _ _ (by decide)]; exact g3 j hj⟩⟩
    refine s_upd27 (Kt_St hbs) hL1 hW1 (fun w2 hL2 ho2 => s_clearAll (by decide) (fun w3 ho3 h12 => ?_))
    have o3 : ∀ b i, b ≠ 8 → b ≠ 9 → b ≠ 12 → w3 b i = w1 b i := fun b i q1 q2 q3 => by rw [ho3 b i (by omega), ho2 b i q1 q2]
    have o3w : ∀ b i, b < 38 ∨ 104 ≤ b → b ≠ 8 → b ≠ 9 → b ≠ 12 → w3 b i = w b i := fun b i q q1 q2 q3 => by rw [o3 b i q1 q2 q3, hoff b i q]
    have hT : ∀ c, rng c → Wf (txU A.2.1.1.1 A.2.1.1.2.1 c) := fun c hc => (hL2 c hc).1
    have ht1 : txU A.2.1.1.1 A.2.1.1.2.1 (-1) ≠ [] := by
      unfold txU
      rw [if_neg (by decide)]
      exact p2
    have hL3 : CL w3 6 (txU A.2.1.1.1 A.2.1.1.2.1) := fun c hc => by
      obtain ⟨g1, g2, g3⟩ := hL2 c hc
      exact ⟨g1, by rw [ho3 _ _ (by omega)]; exact g2, fun j hj => by rw [ho3 _ _ (by omega)]; exact g3 j hj⟩
    have hW3 : CWt w3 6 (fun _ => none) := fun c hc => ⟨fun _ => h12 c hc, fun L q => by cases q⟩
    have hed : ∀ c, rng c → edF 1 A.2.1.1.2.1 c = 0 → txU A.2.1.1.1 A.2.1.1.2.1 c = A.2.1.1.1 c := fun c hc q => by
      unfold edF at q
      rw [if_neg (by decide)] at q
      exact txU_none (wtI_none.mp q)
    refine s_bring (N := 4000 * n) (B := n) (rs := A.2.1.1.2.2.1) (b := 1) (by decide) hbs (Or.inr rfl) (hF1.cong (fun b i b0 b1 => o3 b i (by omega) (by omega) (by omega))) p8 (fun c hc => (p6 c hc).1) (by omega) hL3 hW3 (by rw [o3w 6 11 (by decide) (by decide) (by decide) (by decide)]; exact hC.2.1.2.2.1) p5 (fun c hc => by rw [o3w 19 c (by decide) (by decide) (by decide) (by decide)]; exact (hC.2.1.2.2.2.1 c hc).1) (hC.2.2.2.cong (o3w _ _ (by decide) (by decide) (by decide) (by decide)) (fun i => o3w _ _ (by decide) (by decide) (by decide) (by decide))) (by omega) (fun w4 D hS hD hCS hoff4 hGN => ?_)
    have ohi : ∀ b i, 115 ≤ b → w4 b i = w b i := fun b i q => by rw [hoff4 b i (by omega) (by omega) (by omega) (by omega) (by omega) (by omega)]; exact o3w b i (by omega) (by omega) (by omega) (by omega)
    have hM4 := hM.hi ohi
    refine ⟨519, by omega, e_X9_update ⟨fun _ => m_save (by decide) hM4.2.2.1 hM4.2.1 (fun w5 hHM5 e5 => ?_), fun z => ?_⟩⟩
    · have hP5 : PgM (w5 116) A.2.1.1 := hM4.2.1.cong (fun o _ _ => e5 116 o (by decide) (by omega))
      have hM5 : MDt A.2.1.2 w5 := hM4.2.2.2.1.cong (fun b i b0 b1 => e5 b i (by omega) (by omega)) (e5 _ _ (by decide) (by decide)) (e5 _ _ (by decide) (by decide))
      have h42 : w5 115 42 = -1 := by rw [e5 _ _ (by decide) (by decide)]; exact hM4.2.2.2.2.1
      have h43 : PV (w5 115 43) := by rw [e5 _ _ (by decide) (by decide)]; exact hM4.2.2.2.2.2
      refine m_remembers (F0 := A.2.1) (by decide) hP5.ml h42 hM5 p8 (fun w6 hRem h132 hoff6 => ?_)
      refine m_upd24 (hP5.cong (fun o _ _ => hoff6 116 o (by decide) (by decide))) h132 (fun w7 hP7 h1327 hoff7 => ?_)
      have o7 : ∀ b i, b ≠ 116 → b ≠ 132 → wset w7 116 2521 0 b i = w6 b i := fun b i q1 q2 => by rw [wset_at (by omega)]; exact hoff7 b i q1 q2
      refine m_bringsUp (F0 := A.2.1) (b := 1) (tx := txU A.2.1.1.1 A.2.1.1.2.1) (wt := fun _ => none) (rs := A.2.1.1.2.2.1) (D := D) (B := n) (by decide) (fun c hc => ?_) (fun c hc => ?_) p8 hP7 p5 (fun c hc => (p6 c hc).1) (by omega) ht1 ?_ ?_ hS hD (fun w8 hP8 hM8 hoff8 => ?_)
      · obtain ⟨g1, g2, g3, g4, g5⟩ := hRem c hc
        rw [o7 125 c (by decide) (by decide), o7 126 c (by decide) (by decide), o7 127 c (by decide) (by decide), o7 128 c (by decide) (by decide)]
        exact ⟨g1, g2, g3, g4, g5.cong (o7 _ _ (by decide) (by decide)) (fun i _ _ => o7 _ _ (by decide) (by decide))⟩
      · rw [wset_at (by omega), h1327 c hc]
        unfold edF
        rw [if_neg (by decide)]
      · rw [o7 115 42 (by decide) (by decide), hoff6 115 42 (by decide) (by decide)]; exact h42
      · rw [o7 115 43 (by decide) (by decide), hoff6 115 43 (by decide) (by decide)]; exact h43
      · have e7 : ∀ b i, b = 117 ∨ b = 118 ∨ b ≤ 114 ∨ (b = 115 ∧ (i = 2 ∨ i = 4 ∨ i = 42 ∨ i = 43)) → w8 b i = w5 b i := fun b i q => by
          rw [hoff8 b i (by omega) (by omega) (by omega) (by omega) (by omega), o7 b i (by omega) (by omega), hoff6 b i (by omega) (by omega)]
        have lo : ∀ b i, b ≤ 114 → w8 b i = w4 b i := fun b i q => by rw [e7 b i (by omega), e5 b i (by omega) (by omega)]
        have hw00 : sm 72 (wtI (fun _ => none)) ≤ 8 := by
          have := sm_bd (f := wtI (fun _ => none)) (a := 0) (b := 0) 72 (fun c _ _ => ⟨Int.le_refl 0, Int.le_refl 0⟩)
          omega
        refine k _ w8 ⟨by omega, (A.1, brF A.2.1 1 (txU A.2.1.1.1 A.2.1.1.2.1) (fun _ => none) A.2.1.1.2.2.1 D, keepH A.2.2 A.2.1), ⟨hW.1, brF_wf hF hT ht1 (fun c L _ q => by cases q) hw00 p5 hS hD hed, fun F hm => (keep_wf hW.2.2 hF F hm).mono (by omega)⟩, ⟨⟨?_, fun j hj => ?_⟩, ?_, ?_, ?_⟩, ⟨⟨?_, fun j hj => ?_⟩, hP8, ?_, hM8, ?_, ?_⟩⟩
        · rw [lo 2 1 (by decide), hoff4 2 1 (by decide) (by decide) (by decide) (by decide) (by decide) (by decide), o3w _ _ (by decide) (by decide) (by decide) (by decide)]; exact hC.1.1
        · rw [lo 3 _ (by decide), hoff4 3 _ (by decide) (by decide) (by decide) (by decide) (by decide) (by omega), o3w _ _ (by decide) (by decide) (by decide) (by decide)]; exact hC.1.2 j hj
        · exact hCS.cong (fun b i b0 b1 => lo b i (by omega))
        · refine (hH1.cong (w' := w8) (fun b i b0 b1 => ?_))
          rw [lo b i (by omega), hoff4 b i (by omega) (by omega) (by omega) (by omega) (by omega) (by omega)]
          exact o3 b i (by omega) (by omega) (by omega)
        · exact (hGN.mono (by omega)).cong (lo _ _ (by decide)) (fun i => lo _ _ (by decide))
        · rw [e7 115 4 (by omega), e5 _ _ (by decide) (by decide)]; exact hM4.1.1
        · rw [e7 118 _ (by omega), e5 _ _ (by decide) (by omega)]; exact hM4.1.2 j hj
        · exact hHM5.cong (e7 _ _ (by omega)) (fun i => e7 _ _ (by omega))
        · rw [e7 115 42 (by omega)]; exact h42
        · rw [e7 115 43 (by omega)]; exact h43
    · have := hM4.2.1.waits
      omega
  · refine ⟨519, by omega, e_X9_update ⟨fun z => by omega, fun _ => k _ w hI.up⟩⟩
end JAS
