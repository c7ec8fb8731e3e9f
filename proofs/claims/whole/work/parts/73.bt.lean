/-! the reference brings a sheet up to date -/
section BTS
variable {w w0 w1 w' : Wd} {d : Nat} {K : Int → Wd → Prop} {KV : Wd → Prop} {s a st N r : Int} {F F0 : Fs} {H : List Fs} {tx : Int → List Int} {D : Dt}
theorem m_changedRead {c : Int} {chg : Int → Int} {l : List Int} (hd : 1 ≤ d) (hc : rng c) (hrl : RdL w 129 130 c l) (hch : ∀ x, rng x → w 116 (2376 + x) = chg x) (k : K (ffR chg l) w) : C_X9_changedRead d [.inr (.inr 115), .inl c] w K := by
  have hlen := hrl.len
  have hcr := hc
  unfold rng at hcr
  have loop : ∀ (n m : Nat), m + n = l.length → ffR chg l = ffR chg (l.drop m) → W_X9_changedRead 0 2 [some (.inr (.inr 115)), some (.inl c), some (.inl (m : Int))] [] w K := by
    intro n
    induction n with
    | zero =>
      intro m hm hf
      rw [List.drop_of_length_le (by omega)] at hf
      have hf' : ffR chg l = -1 := hf
      rw [hf'] at k
      exact v_X9_changedRead_2 ⟨hc, fun _ => k, fun z => by rw [hrl.1] at z; omega⟩
    | succ n ih =>
      intro m hm hf
      have hg : l.drop m = l.getD m 0 :: l.drop (m + 1) := by
        rw [List.getD_eq_getElem?_getD, List.getElem?_eq_getElem (by omega), Option.getD_some]
        exact List.drop_eq_getElem_cons (by omega)
      have hmem : rng (l.getD m 0) := hrl.2.2.2 _ (by
        rw [List.getD_eq_getElem?_getD, List.getElem?_eq_getElem (by omega), Option.getD_some]
        exact List.getElem_mem _)
      have hmr := hmem
      unfold rng at hmr
      rw [hg, ffR_cons] at hf
      have hw := hrl.2.1 m (by omega)
      rw [Int.mul_comm] at hw
      refine v_X9_changedRead_2 ⟨hc, fun z => by rw [hrl.1] at z; omega, fun _ => ⟨by omega, by omega, by omega, ?_⟩⟩
      rw [hw, hch _ hmem]
      refine ⟨by omega, by omega, fun z => ⟨by omega, ?_⟩, fun z => ⟨by omega, by omega, by omega, ?_⟩⟩
      · rw [if_neg z] at hf
        have := ih (m + 1) (by omega) hf
        rw [show ((m + 1 : Nat) : Int) = (m : Int) + 1 by omega] at this
        exact this
      · rw [if_pos z] at hf
        rw [hf] at k
        exact k
  exact ⟨0, hd, e_X9_changedRead (loop l.length 0 (by omega) rfl)⟩
theorem m_bringsUp {b rs B : Int} {wt : Int → Option (List Int)} (hd : 54 ≤ d) (hRem : RemM F0 w) (hed : ∀ c, rng c → w 132 c = edF b F0.1.2.1 c) (hD0 : DOk F0.2) (hP : PgM (w 116) (tx, wt, rs, F0.1.2.2.2)) (hr40 : 0 ≤ rs ∧ rs ≤ 40) (hrun : ∀ c, rng c → 0 ≤ F0.1.2.2.2.1 c ∧ F0.1.2.2.2.1 c ≤ B) (hB : B < 2147400000) (htx : tx (-1) ≠ []) (hg : w 115 42 = -1) (hnb : PV (w 115 43)) (hSt : StD tx rs D) (hDk : DOk D)
    (k : ∀ w', PgM (w' 116) (brF F0 b tx wt rs D).1 → MDt D w' → (∀ a i, a ≠ 116 → ¬ (119 ≤ a ∧ a ≤ 124) → a ≠ 131 → ¬ (133 ≤ a ∧ a ≤ 142) → ¬ (a = 115 ∧ (i = 19 ∨ i = 20 ∨ i = 23 ∨ i = 24 ∨ i = 26 ∨ i = 27 ∨ i = 36 ∨ i = 37 ∨ i = 38 ∨ i = 39 ∨ i = 40 ∨ i = 41)) → w' a i = w a i) → K (ranN (cauB F0 b tx D)) w') : C_X9_bringsUp d [.inr (.inr 115)] w K := by
  have er : w 116 2520 = rs := hP.2.2.1
  refine ⟨53, hd, e_X9_bringsUp (m_settle0 (by decide) hP.ml htx hg hnb (by rw [er]; exact hr40) (by rw [er]; exact hSt) (fun w1 hF1 hM1 => ?_))⟩
  have e116 : ∀ i, w1 116 i = w 116 i := fun i => hF1 116 i (by omega) (by omega) (by omega) (by omega)
  have hR1 : RemM F0 w1 := fun c hc => by
    obtain ⟨g1, g2, g3, g4, g5⟩ := hRem c hc
    rw [hF1 125 c (by omega) (by omega) (by omega) (by omega), hF1 126 c (by omega) (by omega) (by omega) (by omega), hF1 127 c (by omega) (by omega) (by omega) (by omega), hF1 128 c (by omega) (by omega) (by omega) (by omega)]
    exact ⟨g1, g2, g3, g4, g5.cong (hF1 129 c (by omega) (by omega) (by omega) (by omega)) (fun i _ _ => hF1 130 i (by omega) (by omega) (by omega) (by omega))⟩
  -- what has changed
  have loop6 : ∀ (n : Nat) (m : Int) (w2 : Wd), m + n = 72 → 0 ≤ m → (∀ a i, ¬ (a = 116 ∧ 2376 ≤ i ∧ i < 2448) → w2 a i = w1 a i) → (∀ c, 0 ≤ c → c < m → w2 116 (2376 + c) = chgF F0 tx D.2.2.2 c) →
      (∀ w3, (∀ a i, ¬ (a = 116 ∧ 2376 ≤ i ∧ i < 2448) → w3 a i = w1 a i) → (∀ c, rng c → w3 116 (2376 + c) = chgF F0 tx D.2.2.2 c) → W_X9_bringsUp 53 91 [some (.inr (.inr 115)), some (.inl 0), some (.inl 0), none, none] [] w3 K) → W_X9_bringsUp 53 6 [some (.inr (.inr 115)), some (.inl m), none, none, none] [] w2 K := by
    intro n
    induction n with
    | zero =>
      intro m w2 hm h0 ho hc k3
      exact v_X9_bringsUp_6 ⟨fun _ => k3 w2 ho (fun c hcr => hc c hcr.1 (by have := hcr.2; omega)), fun z => by omega⟩
    | succ n ih =>
      intro m w2 hm h0 ho hc k3
      have hrm : rng m := ⟨h0, by omega⟩
      have hd5 := hM1.1 m hrm
      have hr5 := hR1 m hrm
      have hln := (hP.ml m hrm).2.1
      have go : ∀ x : Int, x = chgF F0 tx D.2.2.2 m → (-2147483648 ≤ (2376 + m) ∧ (2376 + m) ≤ 2147483647) ∧ (0 ≤ (2376 + m) ∧ (2376 + m) < 2778) ∧ (∀ w1, w1 = wset w2 116 (2376 + m) x → (-2147483648 ≤ (m + 1) ∧ (m + 1) ≤ 2147483647) ∧ W_X9_bringsUp 53 6 [some (.inr (.inr 115)), some (.inl (m + 1)), none, none, none] [] w1 K) := by
        intro x hx
        unfold rng at hrm
        refine ⟨by omega, by omega, ?_⟩
        rintro w3 rfl
        refine ⟨by omega, ih (m + 1) _ (by omega) (by omega) (fun a i q => by rw [wset_at (by omega)]; exact ho a i q) (fun c c0 c1 => ?_) k3⟩
        by_cases q : c = m
        · rw [q, wset_eq]; exact hx
        · rw [wset_at (by omega)]; exact hc c c0 (by omega)
      unfold chgF at go
      refine v_X9_bringsUp_6 ⟨fun z => by omega, fun _ => ⟨hrm, hrm, ?_⟩⟩
      rw [ho 119 m (by omega), ho 125 m (by omega), ho 120 m (by omega), ho 126 m (by omega), hd5.1, hd5.2.1, hr5.1, hr5.2.1]
      refine ⟨fun z => go 1 (by rw [if_neg (fun y => z y.1)]), fun z => ⟨hrm, hrm, fun z2 => go 1 (by rw [if_neg (fun y => z2 y.2.1)]), fun z2 => ⟨52, by decide, e_X9_isEmpty ?_⟩⟩⟩
      rw [show (0 : Int) + m = m by omega, ho 116 m (by unfold rng at hrm; omega), e116, hln, ho 115 42 (by omega), hF1 115 42 (by omega) (by omega) (by omega) (by omega), hg]
      have e : ((tx m).length : Int) = 0 ↔ tx m = [] := ⟨fun z => List.eq_nil_of_length_eq_zero (by omega), fun z => by rw [z]; rfl⟩
      have e128 : w2 128 m = 1 - emT F0.1.1 m := by rw [ho 128 m (by omega)]; exact hr5.2.2.2.1
      have hem : emT tx m = if ((tx m).length : Int) = 0 then 0 else 1 := by
        unfold emT
        by_cases q : tx m = []
        · rw [if_pos q, if_pos (e.mpr q)]
        · rw [if_neg q, if_neg (fun y => q (e.mp y))]
      have cmp : ∀ x1 : Int, x1 = 1 - emT tx m → (0 ≤ m ∧ m < 72) ∧ ((x1 = (w2 128 m) → (-2147483648 ≤ (2376 + m) ∧ (2376 + m) ≤ 2147483647) ∧ (0 ≤ (2376 + m) ∧ (2376 + m) < 2778) ∧ (∀ w4, w4 = wset w2 116 (2376 + m) 0 → (-2147483648 ≤ (m + 1) ∧ (m + 1) ≤ 2147483647) ∧ W_X9_bringsUp 53 6 [some (.inr (.inr 115)), some (.inl (m + 1)), none, none, none] [] w4 K)) ∧ (¬ x1 = (w2 128 m) → (-2147483648 ≤ (2376 + m) ∧ (2376 + m) ≤ 2147483647) ∧ (0 ≤ (2376 + m) ∧ (2376 + m) < 2778) ∧ (∀ w5, w5 = wset w2 116 (2376 + m) 1 → (-2147483648 ≤ (m + 1) ∧ (m + 1) ≤ 2147483647) ∧ W_X9_bringsUp 53 6 [some (.inr (.inr 115)), some (.inl (m + 1)), none, none, none] [] w5 K))) := by
        intro x1 hx1
        rw [e128]
        refine ⟨hrm, fun y => go 0 (by rw [if_pos ⟨z, z2, by omega⟩]), fun y => go 1 (by rw [if_neg (fun q => y (by rw [q.2.2] at hx1; exact hx1))])⟩
      have hmr := hrm
      unfold rng at hmr
      refine ⟨by omega, by omega, fun y => cmp 0 (by rw [hem, if_neg y]; rfl), fun y => ⟨fun y2 => by omega, fun y2 => cmp 1 (by rw [hem, if_pos y]; rfl)⟩⟩
  refine loop6 72 0 w1 (by decide) (by decide) (fun _ _ _ => rfl) (fun c c0 c1 => by omega) (fun w3 ho3 hch => ?_)
  -- what was run, and by what
  have loop91 : ∀ (n m : Nat) (w4 : Wd), m + n = 72 → (∀ a i, ¬ (a = 116 ∧ (2232 ≤ i ∧ i < 2376 ∨ 2448 ≤ i ∧ i < 2520)) → w4 a i = w3 a i) → (∀ c, rng c → (c < m → w4 116 (2304 + c) = (if cauB F0 b tx D c = -1 then 0 else 1) ∧ w4 116 (2232 + c) = F0.1.2.2.2.1 c + (if cauB F0 b tx D c = -1 then 0 else 1) ∧ (cauB F0 b tx D c ≠ -1 → w4 116 (2448 + c) = cauB F0 b tx D c)) ∧ (¬ c < m → w4 116 (2232 + c) = F0.1.2.2.2.1 c)) → W_X9_bringsUp 53 91 [some (.inr (.inr 115)), some (.inl (sm m (fun c => if cauB F0 b tx D c = -1 then 0 else 1))), some (.inl (m : Int)), none, none] [] w4 K := by
    intro n
    induction n with
    | zero =>
      intro m w4 hm ho hc
      have em : m = 72 := by omega
      subst em
      refine v_X9_bringsUp_91 ⟨fun _ => ?_, fun z => absurd (Int.le_refl 72) z⟩
      have e0 : ∀ i, ¬ (2232 ≤ i ∧ i < 2520) → w4 116 i = w 116 i := fun i hi => by rw [ho 116 i (by omega), ho3 116 i (by omega)]; exact e116 i
      obtain ⟨p1, p2, p3, p4, p5, p6, p7⟩ := hP
      refine k w4 ⟨fun c hcr => ?_, fun c hcr => ?_, by rw [e0 2520 (by omega)]; exact p3, by rw [e0 2521 (by omega)]; exact p4, fun s s0 s1 => ?_, fun s s' s0 s1 s2 => ?_, fun c hcr hn => ?_⟩ ⟨fun c hcr => ?_, ?_, ?_⟩ (fun a i q1 q2 q3 q4 q5 => by rw [ho a i (by omega), ho3 a i (by omega)]; exact hF1 a i q2 q3 q4 q5)
      · obtain ⟨q1, q2, q3⟩ := p1 c hcr
        have hl := q1.1
        unfold rng at hcr
        have hl' : (tx c).length ≤ 30 := hl
        exact ⟨q1, by rw [e0 c (by omega)]; exact q2, fun j hj => by
          have hj' : j < (tx c).length := hj
          rw [e0 _ (by omega)]
          exact q3 j hj⟩
      · obtain ⟨q1, q2, q3⟩ := (hc c hcr).1 hcr.2
        refine ⟨q2, q1, ?_, q3⟩
        rw [ho 116 _ (by unfold rng at hcr; omega)]
        exact hch c hcr
      · rw [e0 2521 (by omega)] at s1
        obtain ⟨q1, L, q2, q3, q4, q5⟩ := p5 s s0 s1
        have hl := q3.1
        rw [e0 (2522 + 32 * s) (by omega)]
        exact ⟨q1, L, q2, q3, by rw [e0 _ (by omega)]; exact q4, fun j hj => by rw [e0 _ (by omega)]; exact q5 j hj⟩
      · rw [e0 2521 (by omega)] at s2
        rw [e0 (2522 + 32 * s) (by omega), e0 (2522 + 32 * s') (by omega)]
        exact p6 s s' s0 s1 s2
      · obtain ⟨s, s0, s1, s2⟩ := p7 c hcr hn
        rw [e0 2521 (by omega)]
        exact ⟨s, s0, s1, by rw [e0 (2522 + 32 * s) (by omega)]; exact s2⟩
      · obtain ⟨q1, q2, q3, q4, q5⟩ := hM1.1 c hcr
        have e : ∀ a i, a ≠ 116 → w4 a i = w1 a i := fun a i q => by rw [ho a i (by omega), ho3 a i (by omega)]
        rw [e 119 c (by decide), e 120 c (by decide), e 122 c (by decide), e 121 c (by decide)]
        exact ⟨q1, q2, q3, q4, q5.cong (e 123 c (by decide)) (fun i _ _ => e 124 i (by decide))⟩
      · rw [ho 115 19 (by omega), ho3 115 19 (by omega)]; exact hM1.2.1
      · rw [ho 115 20 (by omega), ho3 115 20 (by omega)]; exact hM1.2.2
    | succ n ih =>
      intro m w4 hm ho hc
      have hrm : rng (m : Int) := ⟨by omega, by omega⟩
      have hsb := sm_bd (f := fun c => if cauB F0 b tx D c = -1 then (0 : Int) else 1) (a := 0) (b := 1) m (fun c _ _ => by split <;> omega)
      have esm : sm (m + 1) (fun c => if cauB F0 b tx D c = -1 then (0 : Int) else 1) = sm m (fun c => if cauB F0 b tx D c = -1 then (0 : Int) else 1) + (if cauB F0 b tx D m = -1 then 0 else 1) := rfl
      have nx := ih (m + 1)
      rw [esm, show ((m + 1 : Nat) : Int) = (m : Int) + 1 by omega] at nx
      generalize sm m (fun c => if cauB F0 b tx D c = -1 then (0 : Int) else 1) = S at *
      have hr0 := hrun m hrm
      have h2232 := (hc m hrm).2 (by omega)
      have hr5 := hR1 m hrm
      have eo : ∀ a i, a ≠ 116 → w4 a i = w1 a i := fun a i q => by rw [ho a i (by omega), ho3 a i (by omega)]
      have e132 : w4 132 m = edF b F0.1.2.1 m := by
        rw [eo 132 m (by decide), hF1 132 m (by omega) (by omega) (by omega) (by omega)]; exact hed m hrm
      have e121 : w4 121 m = D.1 m := by rw [eo 121 m (by decide)]; exact (hM1.1 m hrm).2.2.2.1
      have e127 : w4 127 m = F0.2.1 m := by rw [eo 127 m (by decide)]; exact hr5.2.2.1
      have kD := (hDk.1 m hrm).1
      have k0 := (hD0.1 m hrm).1
      -- the row of the page, with what it was run by
      have bt : ∀ x bb : Int, (x = if cauB F0 b tx D m = -1 then 0 else 1) → (x = 1 → (if bb < 0 then (m : Int) else bb) = cauB F0 b tx D m) →
          (-2147483648 ≤ (2304 + (m : Int)) ∧ (2304 + (m : Int)) ≤ 2147483647) ∧ (0 ≤ (2304 + (m : Int)) ∧ (2304 + (m : Int)) < 2778) ∧ (∀ w22, w22 = wset w4 116 (2304 + (m : Int)) x → (-2147483648 ≤ (2232 + (m : Int)) ∧ (2232 + (m : Int)) ≤ 2147483647) ∧ (0 ≤ (2232 + (m : Int)) ∧ (2232 + (m : Int)) < 2778) ∧ (-2147483648 ≤ (2304 + (m : Int)) ∧ (2304 + (m : Int)) ≤ 2147483647) ∧ (0 ≤ (2304 + (m : Int)) ∧ (2304 + (m : Int)) < 2778) ∧ (-2147483648 ≤ ((w22 116 (2232 + (m : Int))) + (w22 116 (2304 + (m : Int)))) ∧ ((w22 116 (2232 + (m : Int))) + (w22 116 (2304 + (m : Int)))) ≤ 2147483647) ∧ (0 ≤ (2232 + (m : Int)) ∧ (2232 + (m : Int)) < 2778) ∧ (∀ w23, w23 = wset w22 116 (2232 + (m : Int)) ((w22 116 (2232 + (m : Int))) + (w22 116 (2304 + (m : Int)))) → (-2147483648 ≤ (2448 + (m : Int)) ∧ (2448 + (m : Int)) ≤ 2147483647) ∧ ((bb < 0 → (0 ≤ (2448 + (m : Int)) ∧ (2448 + (m : Int)) < 2778) ∧ (∀ w24, w24 = wset w23 116 (2448 + (m : Int)) (m : Int) → (-2147483648 ≤ (2304 + (m : Int)) ∧ (2304 + (m : Int)) ≤ 2147483647) ∧ (0 ≤ (2304 + (m : Int)) ∧ (2304 + (m : Int)) < 2778) ∧ (-2147483648 ≤ (S + (w24 116 (2304 + (m : Int)))) ∧ (S + (w24 116 (2304 + (m : Int)))) ≤ 2147483647) ∧ (-2147483648 ≤ ((m : Int) + 1) ∧ ((m : Int) + 1) ≤ 2147483647) ∧ W_X9_bringsUp 53 91 [some (.inr (.inr 115)), some (.inl (S + (w24 116 (2304 + (m : Int))))), some (.inl ((m : Int) + 1)), none, none] [] w24 K)) ∧ (¬ (bb < 0) → (0 ≤ (2448 + (m : Int)) ∧ (2448 + (m : Int)) < 2778) ∧ (∀ w25, w25 = wset w23 116 (2448 + (m : Int)) bb → (-2147483648 ≤ (2304 + (m : Int)) ∧ (2304 + (m : Int)) ≤ 2147483647) ∧ (0 ≤ (2304 + (m : Int)) ∧ (2304 + (m : Int)) < 2778) ∧ (-2147483648 ≤ (S + (w25 116 (2304 + (m : Int)))) ∧ (S + (w25 116 (2304 + (m : Int)))) ≤ 2147483647) ∧ (-2147483648 ≤ ((m : Int) + 1) ∧ ((m : Int) + 1) ≤ 2147483647) ∧ W_X9_bringsUp 53 91 [some (.inr (.inr 115)), some (.inl (S + (w25 116 (2304 + (m : Int))))), some (.inl ((m : Int) + 1)), none, none] [] w25 K))))) := by
        intro x bb hx hbb
        have hx01 : x = 0 ∨ x = 1 := by rw [hx]; split; exact Or.inl rfl; exact Or.inr rfl
        refine ⟨by omega, by omega, ?_⟩
        rintro w22 rfl
        rw [wset_at (by omega), wset_eq, h2232]
        refine ⟨by omega, by omega, by omega, by omega, by omega, by omega, ?_⟩
        rintro w23 rfl
        have last : ∀ y : Int, (x = 1 → y = cauB F0 b tx D m) → (0 ≤ (2448 + (m : Int)) ∧ (2448 + (m : Int)) < 2778) ∧ (∀ w24, w24 = wset (wset (wset w4 116 (2304 + (m : Int)) x) 116 (2232 + (m : Int)) (F0.1.2.2.2.1 m + x)) 116 (2448 + (m : Int)) y → (-2147483648 ≤ (2304 + (m : Int)) ∧ (2304 + (m : Int)) ≤ 2147483647) ∧ (0 ≤ (2304 + (m : Int)) ∧ (2304 + (m : Int)) < 2778) ∧ (-2147483648 ≤ (S + (w24 116 (2304 + (m : Int)))) ∧ (S + (w24 116 (2304 + (m : Int)))) ≤ 2147483647) ∧ (-2147483648 ≤ ((m : Int) + 1) ∧ ((m : Int) + 1) ≤ 2147483647) ∧ W_X9_bringsUp 53 91 [some (.inr (.inr 115)), some (.inl (S + (w24 116 (2304 + (m : Int))))), some (.inl ((m : Int) + 1)), none, none] [] w24 K) := by
          intro y hy
          refine ⟨by omega, ?_⟩
          rintro w24 rfl
          rw [show wset (wset (wset w4 116 (2304 + (m : Int)) x) 116 (2232 + (m : Int)) (F0.1.2.2.2.1 m + x)) 116 (2448 + (m : Int)) y 116 (2304 + (m : Int)) = x by rw [wset_at (by omega), wset_at (by omega), wset_eq]]
          rw [← hx] at nx
          refine ⟨by omega, by omega, by omega, by omega, nx _ (by omega) (fun a i q => ?_) (fun c hcr => ⟨fun q => ?_, fun q => ?_⟩)⟩
          · rw [wset_at (by omega), wset_at (by omega), wset_at (by omega)]; exact ho a i q
          · unfold rng at hcr
            by_cases z : c = m
            · rw [z, wset_at (by omega), wset_at (by omega), wset_eq, wset_at (by omega), wset_eq, wset_eq, ← hx]
              refine ⟨rfl, rfl, fun u => hy ?_⟩
              rw [hx, if_neg u]
            · rw [wset_at (by omega), wset_at (by omega), wset_at (by omega), wset_at (by omega), wset_at (by omega), wset_at (by omega), wset_at (by omega), wset_at (by omega), wset_at (by omega)]
              exact (hc c hcr).1 (by omega)
          · unfold rng at hcr
            rw [wset_at (by omega), wset_at (by omega), wset_at (by omega)]
            exact (hc c hcr).2 (by omega)
        refine ⟨by omega, fun z => last _ (fun u => ?_), fun z => last _ (fun u => ?_)⟩
        · have := hbb u
          rw [if_pos z] at this
          exact this
        · have := hbb u
          rw [if_neg z] at this
          exact this
      have hcau : cauB F0 b tx D m = if edF b F0.1.2.1 m ≠ 0 then (m : Int) else if 0 ≤ ffR (chgF F0 tx D.2.2.2) (F0.2.2.2.2.2.2.1 m) then ffR (chgF F0 tx D.2.2.2) (F0.2.2.2.2.2.2.1 m) else if D.1 m = 1 ∨ F0.2.1 m = 1 then (m : Int) else -1 := rfl
      have hrr := ffR_rng (chg := chgF F0 tx D.2.2.2) (l := F0.2.2.2.2.2.2.1 m) hr5.2.2.2.2.2.2.2
      have hcr : RdL w4 129 130 m (F0.2.2.2.2.2.2.1 m) := hr5.2.2.2.2.cong (eo 129 _ (by decide)) (fun i _ _ => eo 130 i (by decide))
      have hch4 : ∀ x, rng x → w4 116 (2376 + x) = chgF F0 tx D.2.2.2 x := fun x hx => by rw [ho 116 _ (by unfold rng at hx; omega)]; exact hch x hx
      refine v_X9_bringsUp_91 ⟨fun z => by omega, fun _ => ⟨hrm, fun q => m_changedRead (by decide) hrm hcr hch4 ⟨hrm, fun z => absurd q z, fun _ => ⟨hrm, ?_⟩⟩, fun q => ⟨hrm, fun _ => ?_, fun z => absurd z q⟩⟩⟩
      · rw [e132] at q
        rw [if_neg (fun z => z q)] at hcau
        rw [e121, e127]
        generalize ffR (chgF F0 tx D.2.2.2) (F0.2.2.2.2.2.2.1 m) = g at *
        have t1 : D.1 m = 1 ∨ F0.2.1 m = 1 → (1 = if cauB F0 b tx D m = -1 then (0 : Int) else 1) ∧ ((if g < 0 then (m : Int) else g) = cauB F0 b tx D m) := fun y => by
          by_cases z : 0 ≤ g
          · rw [if_pos z] at hcau
            rw [hcau, if_neg (by omega), if_neg (by omega)]
            exact ⟨rfl, rfl⟩
          · rw [if_neg z, if_pos y] at hcau
            rw [hcau, if_neg (by omega), if_pos (by omega)]
            exact ⟨rfl, rfl⟩
        refine ⟨fun z => bt 1 g (t1 (Or.inl (by omega))).1 (fun _ => (t1 (Or.inl (by omega))).2), fun z => ⟨hrm, fun z2 => bt 1 g (t1 (Or.inr (by omega))).1 (fun _ => (t1 (Or.inr (by omega))).2), fun z2 => ⟨fun z3 => bt 0 g ?_ (fun u => absurd u (by decide)), fun z3 => bt 1 g ?_ (fun _ => ?_)⟩⟩⟩
        · rw [if_neg (by omega), if_neg (by omega)] at hcau
          rw [hcau, if_pos rfl]
        · rw [if_pos (by omega)] at hcau
          rw [hcau, if_neg (by omega)]
        · rw [if_pos (by omega)] at hcau
          rw [hcau, if_neg (by omega)]
      · rw [e132] at q
        rw [if_pos q] at hcau
        exact bt 1 m (by rw [hcau, if_neg (by omega)]) (fun _ => by rw [hcau, if_neg (by omega)])
  exact loop91 72 0 w3 (by decide) (fun _ _ _ => rfl) (fun c hcr => ⟨fun z => by have := hcr.1; omega, fun _ => by rw [ho3 116 _ (by unfold rng at hcr; omega), e116]; exact (hP.2.1 c hcr).1⟩)
end BTS
