section BFS
variable {st tg : Int} {tx : Int → List Int} {w w0 w1 : Wd} {d : Nat} {K : Int → Wd → Prop} {KV : Wd → Prop} {N r : Int} {em k v e h : Int → Int} {G : Int → Mo Int} {R : Int → List Int} {s : RSt}
def Frw2 (st : Int) (w w' : Wd) : Prop := (∀ a i, a ≠ 110 → a ≠ 112 → a ≠ 113 → ¬ (a = 109 ∧ 3 ≤ i ∧ i ≤ 7) → a ≠ st + 7 → a ≠ st + 8 → a ≠ st + 11 → a ≠ st + 12 → ¬ (a = st ∧ (i = 12 ∨ i = 13)) → w' a i = w a i)
theorem Frw2.trans {w2 : Wd} (h1 : Frw2 st w w1) (h2 : Frw2 st w1 w2) : Frw2 st w w2 := fun a i q1 q2 q3 q4 q5 q6 q7 q8 q9 => by rw [h2 a i q1 q2 q3 q4 q5 q6 q7 q8 q9]; exact h1 a i q1 q2 q3 q4 q5 q6 q7 q8 q9
theorem CL.fr2 (h : CL w0 st tx) (hs : am_St st) (hf : Frw2 st w0 w) : CL w st tx := by
  have hr := am_St_rng hs
  unfold am_St at hs
  intro c hc
  obtain ⟨a1, a2, a3⟩ := h c hc
  refine ⟨a1, ?_, fun j hj => ?_⟩
  · rw [hf (st + 3) c (by omega) (by omega) (by omega) (by omega) (by omega) (by omega) (by omega) (by omega) (by omega)]; exact a2
  · rw [hf (st + 2) _ (by omega) (by omega) (by omega) (by omega) (by omega) (by omega) (by omega) (by omega) (by omega)]; exact a3 j hj
/-- the arrays of a state hold this, and all cells can be read -/
def GR (st : Int) (w : Wd) (s : RSt) : Prop := ∀ c, rng c → (w (st + 7) c = s.1 c ∧ w (st + 8) c = s.2.1 c ∧ w 112 c = 0 ∧ PV (s.1 c) ∧ 0 ≤ s.2.1 c ∧ s.2.1 c ≤ 4) ∧ RdL w (st + 11) (st + 12) c (s.2.2.1 c)
def GN (N : Int) (w : Wd) : Prop := (0 ≤ w 109 3 ∧ w 109 3 ≤ N) ∧ (∀ c, 0 ≤ c → c < 72 → w 113 c ≤ w 109 3)
theorem GR.env (hs : am_St st) (hL : CL w st tx) (h : GR st w s) : ∀ x, rng x → envR (emT tx) s.1 s.2.1 x = evOf w st x := fun x hx => by
  have := ev_len hL hx
  obtain ⟨⟨h1, h2, h3, _⟩, _⟩ := h x hx
  unfold envR
  rw [← this, ← h1, ← h2]
  unfold evOf
  dsimp only
  rw [if_pos h3]
theorem GR.okE (h : GR st w s) : OkE (evOf w st) := fun c h0 h1 => by
  obtain ⟨⟨g1, g2, g3, g4⟩, _⟩ := h c ⟨h0, h1⟩
  show PV (w (st + 7) c) ∧ 0 ≤ w (st + 8) c ∧ w (st + 8) c ≤ 4
  rw [g1, g2]
  exact g4
theorem rstep_no {c : Int} (h : ¬ k c = 1) : rstep em G k c s = s := if_neg h
theorem rstep_yes {c : Int} {l : List Int} {res : (Int × Int) ⊕ Int} (h : k c = 1) (hm : G c (envR em s.1 s.2.1) [] = (l, res)) : rstep em G k c s = (up1 s.1 c (outV res), up1 s.2.1 c (outE res), up1 s.2.2.1 c l, if s.2.2.2 = 1 ∧ s.1 c = outV res ∧ s.2.1 c = outE res then 1 else 0) := by
  unfold rstep
  rw [if_pos h, hm]
theorem up1_eq {α : Type} {f : Int → α} {c : Int} {x : α} : up1 f c x c = x := if_pos rfl
theorem up1_ne {α : Type} {f : Int → α} {c i : Int} {x : α} (h : i ≠ c) : up1 f c x i = f i := if_neg h
/-- one cell is gone over -/
theorem gr_step {c b ee : Int} {l : List Int} {w1 : Wd} {V E : Int} (hs : am_St st) (hc : rng c) (hV : PV V) (hEb : 0 ≤ E ∧ E ≤ 4) (h : GR st w s) (hN : GN N w) (hev : EvEnd w st c l ee b w1) {x : Int} : GR st (wset (wset w1 (st + 7) c V) (st + 8) c E) (up1 s.1 c V, up1 s.2.1 c E, up1 s.2.2.1 c l, x) ∧ Frw2 st w (wset (wset w1 (st + 7) c V) (st + 8) c E) ∧ GN (N + 1) (wset (wset w1 (st + 7) c V) (st + 8) c E) := by
  have hr := am_St_rng hs
  refine ⟨fun i hi => ?_, fun a i q1 q2 q3 q4 q5 q6 q7 q8 q9 => ?_, ⟨?_, ?_⟩, fun i i0 i1 => ?_⟩
  · dsimp only
    have hh := h i hi
    have e112 : wset (wset w1 (st + 7) c V) (st + 8) c E 112 i = w 112 i := by
      rw [wset_at (by omega), wset_at (by omega), hev.1 112 i (by decide) (by decide) (by decide) (by omega) (by omega)]
    rw [e112]
    by_cases q : i = c
    · subst q
      rw [up1_eq, up1_eq, up1_eq, wset_at (by omega), wset_eq, wset_eq]
      refine ⟨⟨rfl, rfl, hh.1.2.2.1, hV, hEb⟩, ?_, fun j hj => ?_, hev.2.2.2.2.2.1⟩
      · rw [wset_at (by omega), wset_at (by omega)]; exact hev.2.2.2.1
      · rw [wset_at (by omega), wset_at (by omega)]; exact hev.2.2.2.2.1 j hj
    · rw [up1_ne q, up1_ne q, up1_ne q, wset_at (by omega), wset_at (by omega), wset_at (by omega), wset_at (by omega), hev.1 (st + 7) i (by omega) (by omega) (by omega) (by omega) (by omega), hev.1 (st + 8) i (by omega) (by omega) (by omega) (by omega) (by omega)]
      refine ⟨hh.1, hh.2.cong ?_ (fun y y0 y1 => ?_)⟩
      · rw [wset_at (by omega), wset_at (by omega), hev.1 _ _ (by omega) (by omega) (by omega) (by omega) (by omega)]
      · rw [wset_at (by omega), wset_at (by omega), hev.1 _ _ (by omega) (by omega) (by omega) (by omega) (by omega)]
  · rw [wset_at (by omega), wset_at (by omega)]
    by_cases q : a = 109
    · rw [q]
      exact hev.2.1 i (by omega)
    · exact hev.1 a i q q1 q3 (by omega) (by omega)
  · rw [wset_at (by omega), wset_at (by omega), hev.2.2.1.1]
    have := hN.1
    omega
  · rw [wset_at (by omega), wset_at (by omega), hev.2.2.1.1]
    have := hN.1
    omega
  · rw [wset_at (by omega), wset_at (by omega), wset_at (by omega), wset_at (by omega)]
    exact hev.2.2.2.2.2.2 i i0 i1
theorem s_go97 (hs : am_St st) (hL : CL w0 st tx) (hem : ∀ c, rng c → k c = 1 → tx c ≠ []) {v2 v3 : Int} {K' : Wd → Prop} (n : Nat) : ∀ (c M : Int) (s : RSt) (w : Wd), c + n = 72 → 0 ≤ c → (s.2.2.2 = 0 ∨ s.2.2.2 = 1) → (∀ c, rng c → w (st + 10) c = k c) → Frw2 st w0 w → GR st w s → GN M w → M + n < 2147483000 →
    (∀ w' s', s' = rnd (emT tx) (fun c => Fm (tx c)) k n c s → (s'.2.2.2 = 0 ∨ s'.2.2.2 = 1) → (∀ c, rng c → w' (st + 10) c = k c) → Frw2 st w0 w' → (∀ i, w' st i = w st i) → GR st w' s' → GN (M + n) w' → W_X0_goOver 500 97 [some (.inr (.inr 107)), some (.inr (.inr st)), some (.inl v2), some (.inl v3), some (.inl s'.2.2.2), some (.inl 72), none] [] w' K') →
    W_X0_goOver 500 97 [some (.inr (.inr 107)), some (.inr (.inr st)), some (.inl v2), some (.inl v3), some (.inl s.2.2.2), some (.inl c), none] [] w K' := by
  have hr := am_St_rng hs
  induction n with
  | zero =>
    intro c M s w hc h0 h01 hk hF hG hN hM kk
    have := kk w s rfl h01 hk hF (fun _ => rfl) hG (by rw [show M + ((0 : Nat) : Int) = M by omega]; exact hN)
    rw [show c = 72 by omega]
    exact this
  | succ n ih =>
    intro c M s w hc h0 h01 hk hF hG hN hM kk
    have hrc : rng c := ⟨h0, by omega⟩
    unfold rnd at kk
    have hL2 := hL.fr2 hs hF
    refine v_X0_goOver_97 hs ⟨fun z => by omega, fun _ => ⟨hrc, fun q => ⟨by omega, ?_⟩, fun q => ?_⟩⟩
    · rw [hk c hrc] at q
      rw [rstep_no q] at kk
      exact ih (c + 1) (M + 1) s w (by omega) (by omega) h01 hk hF hG ⟨⟨hN.1.1, by have := hN.1.2; omega⟩, hN.2⟩ (by omega) (fun w' s' p1 p2 p3 p4 p5 p6 p7 => kk w' s' p1 p2 p3 p4 p5 p6 (by rw [show M + ((n + 1 : Nat) : Int) = M + 1 + n by omega]; exact p7))
    · rw [hk c hrc] at q
      have hne := hem c hrc q
      have hN1 := hN.1
      refine s_eval (by decide) hs hrc hL2 hne hG.okE ⟨hN.1.1, by omega⟩ hN.2 (fun l res w1 hm hev => ?_)
      have hm2 : Fm (tx c) (envR (emT tx) s.1 s.2.1) [] = (l, res) := by
        rw [(gd_Fm (hL2 c hrc).1 hne).cong hG.okE okl_nil (hG.env hs hL2)]
        exact hm
      have hout : PV (outV res) ∧ 0 ≤ outE res ∧ outE res ≤ 4 := by
        have hg := gd_Fm (hL2 c hrc).1 hne (evOf w st) [] hG.okE okl_nil
        rw [hm] at hg
        have g5 := hg.2.2.2.2
        cases res with
        | inl x => exact ⟨⟨by show -1000000000 ≤ (0 : Int); decide, by show (0 : Int) ≤ _; decide⟩, by have := g5.1.1; show 0 ≤ x.1; omega, g5.1.2⟩
        | inr y => exact ⟨g5, Int.le_refl 0, by show (0 : Int) ≤ 4; decide⟩
      have hrs := rstep_yes (em := emT tx) (G := fun c => Fm (tx c)) (s := s) q hm2
      have e7 : w1 (st + 7) c = s.1 c := by rw [hev.1 _ _ (by omega) (by omega) (by omega) (by omega) (by omega)]; exact (hG c hrc).1.1
      have e8 : w1 (st + 8) c = s.2.1 c := by rw [hev.1 _ _ (by omega) (by omega) (by omega) (by omega) (by omega)]; exact (hG c hrc).1.2.1
      have e6 : w1 109 6 = outE res := hev.2.2.1.2.1
      -- what follows, whatever has come out
      have go : ∀ x : Int, x = (if s.2.2.2 = 1 ∧ s.1 c = outV res ∧ s.2.1 c = outE res then 1 else 0) → (0 ≤ c ∧ c < 72) ∧ (∀ w4, w4 = wset w1 (st + 7) c (outV res) → (0 ≤ c ∧ c < 72) ∧ (∀ w5, w5 = wset w4 (st + 8) c (w4 109 6) → (-2147483648 ≤ (c + 1) ∧ (c + 1) ≤ 2147483647) ∧ W_X0_goOver 500 97 [some (.inr (.inr 107)), some (.inr (.inr st)), some (.inl v2), some (.inl v3), some (.inl x), some (.inl (c + 1)), none] [] w5 K')) := by
        intro x hx
        refine ⟨hrc, ?_⟩
        rintro w4 rfl
        refine ⟨hrc, ?_⟩
        rw [show wset w1 (st + 7) c (outV res) 109 6 = outE res by rw [wset_at (by omega)]; exact e6]
        rintro w5 rfl
        obtain ⟨p1, p2, p3⟩ := gr_step (x := x) hs hrc hout.1 hout.2 hG hN hev
        rw [hx, ← hrs] at p1
        have hx2 : x = (rstep (emT tx) (fun c => Fm (tx c)) k c s).2.2.2 := by rw [hrs]; exact hx
        rw [hx2]
        refine ⟨by omega, ih (c + 1) (M + 1) _ _ (by omega) (by omega) ?_ (fun y hy => ?_) (hF.trans p2) p1 p3 (by omega) (fun w' s' q1 q2 q3 q4 q5 q6 q7 => kk w' s' q1 q2 q3 q4 (fun i => ?_) q6 (by rw [show M + ((n + 1 : Nat) : Int) = M + 1 + n by omega]; exact q7))⟩
        · rw [← hx2, hx]
          split
          · exact Or.inr rfl
          · exact Or.inl rfl
        · rw [p2 (st + 10) y (by omega) (by omega) (by omega) (by omega) (by omega) (by omega) (by omega) (by omega) (by omega)]
          exact hk y hy
        · rw [q5 i, wset_at (by omega), wset_at (by omega)]
          exact hev.1 st i (by omega) (by omega) (by omega) (by omega) (by omega)
      refine ⟨fun q4 => go 0 (by rw [if_neg (by omega)]), fun q4 => ?_⟩
      have q41 : s.2.2.2 = 1 := by omega
      refine ⟨499, by decide, e_X0_isStill hs ⟨hrc, ?_⟩⟩
      rw [e7, e8, e6]
      refine ⟨fun z => am_b0 (go 0 (by rw [if_neg (fun y => z y.2.1)])), fun z => ⟨hrc, fun z2 => am_b0 (go 0 (by rw [if_neg (fun y => z2 y.2.2)])), fun z2 => am_b1 (go 1 (by rw [if_pos ⟨q41, z, z2⟩]))⟩⟩
theorem s_go76 (hs : am_St st) (hL : CL w0 st tx) (hem : ∀ c, rng c → k c = 1 → tx c ≠ []) (hr40 : 0 ≤ r ∧ r ≤ 40) {v2 : Int} {K' : Wd → Prop} (n : Nat) : ∀ (v3 g M : Int) (s : RSt) (w : Wd), v3 + n = r → 0 ≤ v3 → 0 ≤ g → g ≤ v3 → (s.2.2.2 = 0 ∨ s.2.2.2 = 1) → (∀ c, rng c → w (st + 10) c = k c) → Frw2 st w0 w → GR st w s → GN M w → M + 72 * n < 2147482000 → w st 11 = r → w st 12 = g → w st 13 = s.2.2.2 →
    (∀ w' g' s', (g', s') = rnds (emT tx) (fun c => Fm (tx c)) k n g s → (s'.2.2.2 = 0 ∨ s'.2.2.2 = 1) → (∀ c, rng c → w' (st + 10) c = k c) → Frw2 st w0 w' → GR st w' s' → GN (M + 72 * n) w' → w' st 12 = g' → w' st 13 = s'.2.2.2 → K' w') →
    W_X0_goOver 500 76 [some (.inr (.inr 107)), some (.inr (.inr st)), some (.inl v2), some (.inl v3), none, none, none] [] w K' := by
  have hr := am_St_rng hs
  induction n with
  | zero =>
    intro v3 g M s w hv h0 hg0 hg h01 hk hF hG hN hM h11 h12 h13 kk
    refine v_X0_goOver_76 hs ⟨fun _ => kk w g s rfl h01 hk hF hG (by rw [show M + 72 * ((0 : Nat) : Int) = M by omega]; exact hN) h12 h13, fun z => by omega⟩
  | succ n ih =>
    intro v3 g M s w hv h0 hg0 hg h01 hk hF hG hN hM h11 h12 h13 kk
    unfold rnds at kk
    refine v_X0_goOver_76 hs ⟨fun z => by omega, fun _ => ⟨fun q => ?_, fun q => ?_⟩⟩
    · rw [if_pos (by omega)] at kk
      exact kk w g s rfl h01 hk hF hG ⟨⟨hN.1.1, by have := hN.1.2; omega⟩, hN.2⟩ h12 h13
    · rw [if_neg (by omega)] at kk
      refine s_go97 hs hL hem 72 0 M (s.1, s.2.1, s.2.2.1, 1) w (by decide) (by decide) (Or.inr rfl) hk hF hG hN (by omega) (fun w' s' p1 p2 p3 p4 p5 p6 p7 => ?_)
      rw [← p1] at kk
      refine v_X0_goOver_97 hs ⟨fun _ => ⟨p2, ?_⟩, fun z => absurd (Int.le_refl 72) z⟩
      rintro w2 rfl
      rw [wset_at (by omega), p5 12, h12]
      refine ⟨by omega, ?_⟩
      rintro w3 rfl
      generalize hw3 : wset (wset w' st 13 s'.2.2.2) st 12 (g + 1) = w3
      have c0 : ∀ a i, ¬ (a = st ∧ (i = 12 ∨ i = 13)) → w3 a i = w' a i := fun a i q => by rw [← hw3, wset_at (by omega), wset_at (by omega)]
      have hG3 : GR st w3 s' := fun c hc => by
        have := p6 c hc
        rw [c0 _ _ (by omega), c0 _ _ (by omega), c0 _ _ (by omega)]
        exact ⟨this.1, this.2.cong (c0 _ _ (by omega)) (fun i _ _ => c0 _ _ (by omega))⟩
      refine ⟨by omega, ih (v3 + 1) (g + 1) (M + 72) s' w3 (by omega) (by omega) (by omega) (by omega) p2 (fun c hc => by rw [c0 _ _ (by omega)]; exact p3 c hc) (p4.trans (fun a i q1 q2 q3 q4 q5 q6 q7 q8 q9 => c0 a i q9)) hG3 ⟨?_, fun c c0' c1 => ?_⟩ (by omega) ?_ ?_ ?_ (fun w4 g' s4 q1 q2 q3 q4 q5 q6 q7 q8 => kk w4 g' s4 q1 q2 q3 q4 q5 (by rw [show M + 72 * ((n + 1 : Nat) : Int) = M + 72 + 72 * n by omega]; exact q6) q7 q8)⟩
      · rw [c0 _ _ (by omega)]
        exact p7.1
      · rw [c0 _ _ (by omega), c0 _ _ (by omega)]
        exact p7.2 c c0' c1
      · rw [c0 _ _ (by omega), p5]; exact h11
      · rw [← hw3, wset_eq]
      · rw [← hw3, wset_at (by omega), wset_eq]
def ind1 (k : Int → Int) : Int → Int := fun c => if k c = 1 then 1 else 0
/-- the cells in cycles: errors, or gone over in rounds -/
theorem s_goOver (hd : 501 ≤ d) (hs : am_St st) (hL : CL w st tx) (hb : Base (emT tx) (fun c => Fm (tx c)) k v e h R) (hr40 : 0 ≤ w st 11 ∧ w st 11 ≤ 40) (hk : ∀ c, rng c → w (st + 10) c = k c ∧ w 112 c = (if k c = 1 then 2 else 0) ∧ w (st + 7) c = v c ∧ w (st + 8) c = e c ∧ RdL w (st + 11) (st + 12) c (R c)) (hN : GN N w) (hN2 : N < 2147470000)
    (kk : ∀ w' g s, (g, s) = fin2 (emT tx) (fun c => Fm (tx c)) (w st 11) k v e R → (s.2.2.2 = 0 ∨ s.2.2.2 = 1) → Frw2 st w w' → GR st w' s → GN (N + 2880) w' → w' st 12 = g → w' st 13 = s.2.2.2 → KV w') : C_X0_goOver d [.inr (.inr 107), .inr (.inr st)] w KV := by
  have hr := am_St_rng hs
  refine ⟨500, hd, e_X0_goOver hs ?_⟩
  have hk01 : ∀ c, rng c → k c = 0 ∨ k c = 1 := fun c hc => (hb.2.1 c hc).1
  have ind : ∀ c, 0 ≤ ind1 k c := fun c => by unfold ind1; split <;> omega
  have smp : ∀ n : Nat, 0 ≤ sm n (ind1 k) := fun n => by
    induction n with
    | zero => exact Int.le_refl 0
    | succ n ih => unfold sm; have := ind n; omega
  have loop : ∀ (n : Nat) (m : Nat) (v2 : Int) (w1 : Wd), m + n = 72 → (v2 = 0 ↔ sm m (ind1 k) = 0) → Frw2 st w w1 → (∀ i, w1 st i = w st i) → (∀ c, w1 (st + 7) c = w (st + 7) c) → (∀ c, w1 (st + 11) c = w (st + 11) c ∧ ∀ i, w1 (st + 12) i = w (st + 12) i) → (∀ i, w1 109 i = w 109 i ∧ w1 113 i = w 113 i) →
      (∀ c, rng c → (c < m → w1 112 c = 0 ∧ w1 (st + 8) c = if k c = 1 then (if w st 11 = 0 then 4 else 0) else e c) ∧ (¬ c < m → w1 112 c = w 112 c ∧ w1 (st + 8) c = w (st + 8) c)) → W_X0_goOver 500 4 [some (.inr (.inr 107)), some (.inr (.inr st)), some (.inl v2), some (.inl (m : Int)), none, none, none] [] w1 KV := by
    intro n
    induction n with
    | zero =>
      intro m v2 w1 hm hv2 hF hst h7 h11 h9 hc
      have em : m = 72 := by omega
      subst em
      have nxt : ∀ x : Int, x = (if anyK k = 0 then 1 else 0) → W_X0_goOver 500 76 [some (.inr (.inr 107)), some (.inr (.inr st)), some (.inl v2), some (.inl 0), none, none, none] [] (wset (wset w1 st 12 0) st 13 x) KV := by
        intro x hx
        generalize hw3 : wset (wset w1 st 12 0) st 13 x = w3
        have c0 : ∀ a i, ¬ (a = st ∧ (i = 12 ∨ i = 13)) → w3 a i = w1 a i := fun a i q => by rw [← hw3, wset_at (by omega), wset_at (by omega)]
        have hF3 : Frw2 st w w3 := hF.trans (fun a i q1 q2 q3 q4 q5 q6 q7 q8 q9 => c0 a i q9)
        have hG3 : GR st w3 (v, (fun c => if k c = 1 then (if w st 11 = 0 then 4 else 0) else e c), R, x) := fun c hcr => by
          have hkc := hk c hcr
          have hcc := (hc c hcr).1 hcr.2
          have hbc := (hb.2.1 c hcr).2
          rw [c0 _ _ (by omega), c0 _ _ (by omega), c0 _ _ (by omega), h7, hcc.1, hcc.2]
          refine ⟨⟨hkc.2.2.1, rfl, rfl, hbc.1, ?_⟩, hkc.2.2.2.2.cong ?_ (fun i _ _ => ?_)⟩
          · dsimp only
            split
            · split <;> exact ⟨by decide, by decide⟩
            · exact hbc.2
          · rw [c0 _ _ (by omega)]; exact (h11 c).1
          · rw [c0 _ _ (by omega)]; exact (h11 c).2 i
        refine s_go76 hs hL (k := k) (r := w st 11) (fun c hcr hk1 z => ?_) hr40 (w st 11).toNat 0 0 N (v, (fun c => if k c = 1 then (if w st 11 = 0 then 4 else 0) else e c), R, x) w3 (by omega) (by decide) (by decide) (by decide) ?_ (fun c hcr => ?_) hF3 hG3 ?_ (by omega) ?_ ?_ ?_ (fun w' g' s' q1 q2 q3 q4 q5 q6 q7 q8 => kk w' g' s' ?_ q2 q4 q5 ⟨⟨q6.1.1, by have := q6.1.2; omega⟩, q6.2⟩ q7 q8)
        · have := (hb.2.2.1 c hcr (if_pos z)).1
          omega
        · rw [hx]
          dsimp only
          split
          · exact Or.inr rfl
          · exact Or.inl rfl
        · rw [c0 _ _ (by omega), hF _ _ (by omega) (by omega) (by omega) (by omega) (by omega) (by omega) (by omega) (by omega) (by omega)]
          exact (hk c hcr).1
        · refine ⟨?_, fun c q0 q1 => ?_⟩
          · rw [c0 _ _ (by omega), (h9 3).1]; exact hN.1
          · rw [c0 _ _ (by omega), c0 _ _ (by omega), (h9 3).1, (h9 c).2]; exact hN.2 c q0 q1
        · rw [c0 _ _ (by omega)]; exact hst 11
        · rw [← hw3, wset_at (by omega), wset_eq]
        · rw [← hw3, wset_eq]
        · rw [q1]
          unfold fin2
          rw [hx]
      have hany : anyK k = sm 72 (ind1 k) := rfl
      refine v_X0_goOver_4 hs ⟨fun _ => ?_, fun z => absurd (Int.le_refl 72) z⟩
      rintro w2 rfl
      refine ⟨fun q => ?_, fun q => ?_⟩
      · rintro w3 rfl
        exact nxt 0 (by rw [hany, if_neg (fun y => q (hv2.mpr y))])
      · rintro w3 rfl
        exact nxt 1 (by rw [hany, if_pos (hv2.mp q)])
    | succ n ih =>
      intro m v2 w1 hm hv2 hF hst h7 h11 h9 hc
      have hrm : rng (m : Int) := ⟨by omega, by omega⟩
      have hmm := (hc m hrm).2 (by omega)
      have hkm := hk m hrm
      have e10 : w1 (st + 10) m = k m := by
        rw [hF _ _ (by omega) (by omega) (by omega) (by omega) (by omega) (by omega) (by omega) (by omega) (by omega)]
        exact hkm.1
      have esm : sm (m + 1) (ind1 k) = sm m (ind1 k) + ind1 k m := rfl
      have hsp := smp m
      refine v_X0_goOver_4 hs ⟨fun z => by omega, fun _ => ⟨hrm, fun q => ⟨by omega, ?_⟩, fun q => ?_⟩⟩
      · rw [e10] at q
        have ei : ind1 k m = 0 := if_neg q
        have := ih (m + 1) v2 w1 (by omega) (by rw [esm, ei, Int.add_zero]; exact hv2) hF hst h7 h11 h9 (fun c hcr => ⟨fun z => ?_, fun z => (hc c hcr).2 (by omega)⟩)
        · rw [show ((m + 1 : Nat) : Int) = (m : Int) + 1 by omega] at this
          exact this
        · by_cases y : c = m
          · rw [y, hmm.1, hmm.2, hkm.2.1, hkm.2.2.2.1, if_neg q, if_neg q]
            exact ⟨rfl, rfl⟩
          · exact (hc c hcr).1 (by omega)
      · rw [e10] at q
        have ei : ind1 k m = 1 := if_pos q
        rw [hst 11]
        have go : ∀ x : Int, x = (if w st 11 = 0 then 4 else 0) → (0 ≤ (m : Int) ∧ (m : Int) < 72) ∧ (∀ w4, w4 = wset w1 (st + 8) m x → (0 ≤ (m : Int) ∧ (m : Int) < 72) ∧ (∀ w5, w5 = wset w4 112 m 0 → (-2147483648 ≤ ((m : Int) + 1) ∧ ((m : Int) + 1) ≤ 2147483647) ∧ W_X0_goOver 500 4 [some (.inr (.inr 107)), some (.inr (.inr st)), some (.inl 1), some (.inl ((m : Int) + 1)), none, none, none] [] w5 KV)) := by
          intro x hx
          refine ⟨hrm, ?_⟩
          rintro w4 rfl
          refine ⟨hrm, ?_⟩
          rintro w5 rfl
          have := ih (m + 1) 1 (wset (wset w1 (st + 8) m x) 112 m 0) (by omega) ⟨fun z => by omega, fun z => by omega⟩ (hF.trans (fun a i q1 q2 q3 q4 q5 q6 q7 q8 q9 => by rw [wset_at (fun y => q2 y.1), wset_at (fun y => q6 y.1)])) (fun i => by rw [wset_at (by omega), wset_at (by omega)]; exact hst i) (fun c => by rw [wset_at (by omega), wset_at (by omega)]; exact h7 c) (fun c => ⟨by rw [wset_at (by omega), wset_at (by omega)]; exact (h11 c).1, fun i => by rw [wset_at (by omega), wset_at (by omega)]; exact (h11 c).2 i⟩) (fun i => ⟨by rw [wset_at (by omega), wset_at (by omega)]; exact (h9 i).1, by rw [wset_at (by omega), wset_at (by omega)]; exact (h9 i).2⟩) (fun c hcr => ⟨fun z => ?_, fun z => ?_⟩)
          · rw [show ((m + 1 : Nat) : Int) = (m : Int) + 1 by omega] at this
            exact ⟨by omega, this⟩
          · by_cases y : c = m
            · rw [y, wset_eq, wset_at (by omega), wset_eq, if_pos q]
              exact ⟨rfl, hx⟩
            · rw [wset_at (by omega), wset_at (by omega), wset_at (by omega), wset_at (by omega)]
              exact (hc c hcr).1 (by omega)
          · rw [wset_at (by omega), wset_at (by omega), wset_at (by omega), wset_at (by omega)]
            exact (hc c hcr).2 (by omega)
        exact ⟨fun z => go 0 (by rw [if_neg z]), fun z => go 4 (by rw [if_pos z])⟩
  exact loop 72 0 0 w (by decide) ⟨fun _ => rfl, fun _ => rfl⟩ (fun a i _ _ _ _ _ _ _ _ _ => rfl) (fun _ => rfl) (fun _ => rfl) (fun _ => ⟨rfl, fun _ => rfl⟩) (fun _ => ⟨rfl, rfl⟩) (fun c hcr => ⟨fun z => by have := hcr.1; omega, fun _ => ⟨rfl, rfl⟩⟩)
end BFS
