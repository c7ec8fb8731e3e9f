section BIS
variable {tx : Int → List Int} {gv nb c r : Int} {w w0 w1 : Wd} {d : Nat} {K : Int → Wd → Prop} {KV : Wd → Prop} {M : Int} {em k v e h : Int → Int} {G : Int → Mo Int} {R : Int → List Int} {s : RSt}
/-- with the cells in cycles taken as errors a round changes nothing -/
theorem rnd_zero (hG : GdG em G) (hb : Base em G k v e h R) (n : Nat) : ∀ (c x : Int), 0 ≤ c → c + n = 72 → (x = 0 ∨ x = 1) → rnd em G k n c (v, (fun c => if k c = 1 then 4 else e c), R, x) = (v, (fun c => if k c = 1 then 4 else e c), R, x) := by
  induction n with
  | zero => intro c x _ _ _; rfl
  | succ n ih =>
    intro c x h0 h1 hx
    have hc : rng c := ⟨h0, by omega⟩
    have st : rstep em G k c (v, (fun c => if k c = 1 then 4 else e c), R, x) = (v, (fun c => if k c = 1 then 4 else e c), R, x) := by
      by_cases q : k c = 1
      · have hem : em c ≠ 0 := fun z => by have := (hb.2.2.1 c hc z).1; omega
        obtain ⟨⟨b, hbr, hm⟩, hv, he, _⟩ := hb.2.2.2.2 c hc hem q
        have hg := hG c hc hem (envB em k v e) [] hb.okE okl_nil
        have hbk := hg.2.2.2.1.2
        have hr := hg.2.2.2.2
        have h3 := hg.2.2.1
        have hin := hg.1.2
        unfold Bk at hbk
        rw [hm] at hbk hr h3 hin
        have hb1 : b ≠ -1 := by unfold rng at hbr; omega
        have hkb : k b = 1 := by
          have h0 : k b ≠ 0 := okr_blk hr hb1
          rcases (hb.2.1 b hbr).1 with z | z
          · exact absurd z h0
          · exact z
        have hb2 : (if k b = 1 then (4 : Int) else e b) = 4 := if_pos hkb
        have hm2 := hbk (fun x hx => by cases hx) hb1 (envR em v (fun c => if k c = 1 then 4 else e c)) (fun y hy hyb => by
          have hky : k y = 0 := by
            rcases h3 y hy with z | z | z
            · cases z
            · exact z
            · exact absurd z.symm hyb
          have e5 : (if k y = 1 then (4 : Int) else e y) = e y := if_neg (by omega)
          show ((0, v y), ((if k y = 1 then (4 : Int) else e y), em y)) = ((k y, v y), (e y, em y))
          rw [e5, hky]) rfl (by show (if k b = 1 then (4 : Int) else e b) ≠ 0; rw [hb2]; decide)
        have hm3 : G c (envR em v (fun c => if k c = 1 then 4 else e c)) [] = (R c, .inl (4, -1)) := by
          rw [hm2]
          show (R c, Sum.inl ((if k b = 1 then (4 : Int) else e b), -1)) = _
          rw [hb2]
        rw [rstep_yes (s := (v, (fun c => if k c = 1 then 4 else e c), R, x)) q hm3]
        have e1 : up1 v c (outV (.inl (4, -1))) = v := funext (fun i => by
          by_cases z : i = c
          · rw [z, up1_eq, hv]; rfl
          · rw [up1_ne z])
        have e2 : up1 (fun c => if k c = 1 then (4 : Int) else e c) c (outE (.inl (4, -1))) = (fun c => if k c = 1 then (4 : Int) else e c) := funext (fun i => by
          by_cases z : i = c
          · rw [z, up1_eq, if_pos q]; rfl
          · rw [up1_ne z])
        have e3 : up1 R c (R c) = R := funext (fun i => by
          by_cases z : i = c
          · rw [z, up1_eq]
          · rw [up1_ne z])
        have e4 : (if x = 1 ∧ v c = outV (.inl (4, -1)) ∧ (if k c = 1 then (4 : Int) else e c) = outE (.inl (4, -1)) then (1 : Int) else 0) = x := by
          rw [if_pos q, hv]
          rcases hx with z | z
          · rw [z, if_neg (fun y => absurd y.1 (by decide))]
          · rw [z, if_pos ⟨rfl, rfl, rfl⟩]
        dsimp only
        rw [e1, e2, e3, e4]
      · exact rstep_no q
    unfold rnd
    rw [st]
    exact ih (c + 1) x (by omega) (by omega) hx
/-- the reference's arrays hold this, and all cells can be read -/
def GRm (w : Wd) (s : RSt) : Prop := ∀ c, rng c → (w 119 c = s.1 c ∧ w 120 c = s.2.1 c ∧ w 131 c = 1 ∧ PV (s.1 c) ∧ 0 ≤ s.2.1 c ∧ s.2.1 c ≤ 4) ∧ RdL w 123 124 c (s.2.2.1 c)
theorem GRm.okE (h : GRm w s) : OkE (mvOf w) := fun c h0 h1 => by
  obtain ⟨⟨g1, g2, g3, g4⟩, _⟩ := h c ⟨h0, h1⟩
  show PV (w 119 c) ∧ 0 ≤ w 120 c ∧ w 120 c ≤ 4
  rw [g1, g2]
  exact g4
theorem GRm.env (hL : ML w tx) (hg : w 115 42 = gv) (h : GRm w s) : ∀ x, rng x → envR (emM tx gv) s.1 s.2.1 x = mvOf w x := fun x hx => by
  have := mv_len hL hg hx
  obtain ⟨⟨h1, h2, h3, _⟩, _⟩ := h x hx
  unfold envR
  rw [← this, ← h1, ← h2]
  unfold mvOf
  dsimp only
  rw [h3, if_pos (show (1 : Int) ≠ 0 by decide)]
theorem m_round (hd : 42 ≤ d) (hL : ML w0 tx) (hnb : PV nb) (hg : w0 115 42 = gv ∧ w0 115 43 = nb) (hem : ∀ c, rng c → k c = 1 → emM tx gv c ≠ 0) (hF : FrP w0 w) (hk : ∀ c, rng c → w 121 c = k c) (hk01 : ∀ c, rng c → k c = 0 ∨ k c = 1) (h1 : s.2.2.2 = 1) (hG : GRm w s)
    (kk : ∀ w' s', s' = rnd (emM tx gv) (GM tx gv nb) k 72 0 s → (s'.2.2.2 = 0 ∨ s'.2.2.2 = 1) → FrP w0 w' → (∀ i, w' 121 i = w 121 i) → (∀ i, w' 122 i = w 122 i) → GRm w' s' → K (1 - s'.2.2.2) w') : C_X9_round d [.inr (.inr 115)] w K := by
  have loop : ∀ (n : Nat) (c : Int) (s : RSt) (w1 : Wd), c + n = 72 → 0 ≤ c → (s.2.2.2 = 0 ∨ s.2.2.2 = 1) → FrP w0 w1 → (∀ i, w1 121 i = w 121 i) → (∀ i, w1 122 i = w 122 i) → GRm w1 s → (∀ w' s', s' = rnd (emM tx gv) (GM tx gv nb) k n c s → (s'.2.2.2 = 0 ∨ s'.2.2.2 = 1) → FrP w0 w' → (∀ i, w' 121 i = w 121 i) → (∀ i, w' 122 i = w 122 i) → GRm w' s' → K (1 - s'.2.2.2) w') → W_X9_round 41 4 [some (.inr (.inr 115)), some (.inl (1 - s.2.2.2)), some (.inl c), none, none] [] w1 K := by
    intro n
    induction n with
    | zero =>
      intro c s w1 hc h0 h01 hF hk1 hk2 hG kk
      exact v_X9_round_4 ⟨fun _ => ⟨by omega, kk w1 s rfl h01 hF hk1 hk2 hG⟩, fun z => by omega⟩
    | succ n ih =>
      intro c s w1 hc h0 h01 hF hk1 hk2 hG kk
      have hrc : rng c := ⟨h0, by omega⟩
      unfold rnd at kk
      refine v_X9_round_4 ⟨fun z => by omega, fun _ => ⟨hrc, fun q => ⟨by omega, ?_⟩, fun q => ⟨hrc, hrc, ?_⟩⟩⟩
      · rw [hk1, hk c hrc] at q
        rw [rstep_no (by omega)] at kk
        exact ih (c + 1) s w1 (by omega) (by omega) h01 hF hk1 hk2 hG kk
      · rw [hk1, hk c hrc] at q
        have q1 : k c = 1 := (hk01 c hrc).resolve_left q
        have hne := hem c hrc q1
        have hL1 := hL.fr hF
        have hg1 := hF.g hg
        refine m_work2 (by decide) hrc hL1 hG.okE hg1 hne (fun l res w2 hm hend h41 => ?_)
        have hgd := gd_GM hL1 hnb c hrc hne
        have hm2 : GM tx gv nb c (envR (emM tx gv) s.1 s.2.1) [] = (l, res) := by
          rw [hgd.cong hG.okE okl_nil (hG.env hL1 hg1.1)]
          exact hm
        have hg5 := hgd (mvOf w1) [] hG.okE okl_nil
        rw [hm] at hg5
        have hbl : blk res = -1 := Classical.byContradiction (fun z => by
          have h0 := okr_blk hg5.2.2.2.2 z
          have hr : rng (blk res) := by
            cases res with
            | inr y => exact absurd rfl z
            | inl y => exact hg5.1.2 y.2 (hg5.2.2.2.2.2.resolve_left z).2.1
          apply h0
          show (if w1 131 (blk res) ≠ 0 then (0 : Int) else 1) = 0
          rw [(hG (blk res) hr).1.2.2.1, if_pos (by decide)])
        have hwr : rwr res = outE res := if_pos hbl
        have hrb : rbl res = 0 := if_pos hbl
        have hout : PV (outV res) ∧ 0 ≤ outE res ∧ outE res ≤ 4 := by
          have g5 := hg5.2.2.2.2
          cases res with
          | inl x => exact ⟨⟨by show -1000000000 ≤ (0 : Int); decide, by show (0 : Int) ≤ _; decide⟩, by have := g5.1.1; show 0 ≤ x.1; omega, g5.1.2⟩
          | inr y => exact ⟨g5, Int.le_refl 0, by show (0 : Int) ≤ 4; decide⟩
        have eV : (if rwr res = 0 then outV res else 0) = outV res := by
          rw [hwr]
          cases res with
          | inl x => split <;> rfl
          | inr y => exact if_pos rfl
        have hrs := rstep_yes (em := emM tx gv) (G := GM tx gv nb) (s := s) q1 hm2
        refine m_lays (V := outV res) (by decide) hrc hend.2.1.2 (by rw [hwr]; exact hout.2.1) (fun z => h41 z hrb) hout.1 ?_
        rw [eV, hwr]
        have c0 : ∀ a i, a ≠ 119 → a ≠ 120 → MwOff c a i → wset (wset w2 120 c (outE res)) 119 c (outV res) a i = w1 a i := fun a i z1 z2 z3 => by
          rw [wset_at (by omega), wset_at (by omega)]
          exact hend.1 a i z3
        have g7 := hG c hrc
        have e7 : w1 119 c = s.1 c := g7.1.1
        have e8 : w1 120 c = s.2.1 c := g7.1.2.1
        -- what follows, whatever has come out
        have go : ∀ x : Int, x = 1 - (if s.2.2.2 = 1 ∧ s.1 c = outV res ∧ s.2.1 c = outE res then 1 else 0) → (-2147483648 ≤ (c + 1) ∧ (c + 1) ≤ 2147483647) ∧ W_X9_round 41 4 [some (.inr (.inr 115)), some (.inl x), some (.inl (c + 1)), none, none] [] (wset (wset w2 120 c (outE res)) 119 c (outV res)) K := by
          intro x hx
          have hx2 : x = 1 - (rstep (emM tx gv) (GM tx gv nb) k c s).2.2.2 := by rw [hrs]; exact hx
          rw [hx2]
          refine ⟨by omega, ih (c + 1) _ _ (by omega) (by omega) ?_ (fun a i z1 z2 z3 z4 => ?_) (fun i => ?_) (fun i => ?_) (fun i hi => ?_) kk⟩
          · rw [hrs]
            dsimp only
            split
            · exact Or.inr rfl
            · exact Or.inl rfl
          · rw [wset_at (by omega), wset_at (by omega), hend.frp a i z1 z2 z3 z4]
            exact hF a i z1 z2 z3 z4
          · rw [c0 121 i (by decide) (by decide) (by unfold MwOff; omega)]; exact hk1 i
          · rw [c0 122 i (by decide) (by decide) (by unfold MwOff; omega)]; exact hk2 i
          · rw [hrs]
            dsimp only
            have hh := hG i hi
            rw [c0 131 i (by decide) (by decide) (by unfold MwOff; omega)]
            by_cases z : i = c
            · subst z
              rw [up1_eq, up1_eq, up1_eq, wset_eq, wset_at (by omega), wset_eq]
              exact ⟨⟨rfl, rfl, hh.1.2.2.1, hout⟩, hend.2.2.rdl.cong (by rw [wset_at (by omega), wset_at (by omega)]) (fun j _ _ => by rw [wset_at (by omega), wset_at (by omega)])⟩
            · rw [up1_ne z, up1_ne z, up1_ne z, wset_at (by omega), wset_at (by omega), wset_at (by omega), wset_at (by omega), hend.1 119 i (by unfold MwOff; omega), hend.1 120 i (by unfold MwOff; omega)]
              exact ⟨hh.1, hh.2.cong (c0 123 i (by decide) (by decide) (by unfold MwOff; omega)) (fun j j0 j1 => c0 124 j (by decide) (by decide) (by unfold MwOff; omega))⟩
        rw [wset_eq, e7]
        rw [show wset (wset w2 120 c (outE res)) 119 c (outV res) 120 c = outE res by rw [wset_at (by omega), wset_eq], e8]
        refine ⟨fun z => go 1 ?_, fun z => ⟨hrc, fun z2 => go 1 ?_, fun z2 => ⟨hrc, fun z3 => go 0 ?_, fun z3 => go 1 ?_⟩⟩⟩
        · rw [if_neg (fun y => by omega)]; rfl
        · rw [if_neg (fun y => z2 y.2.1.symm)]; rfl
        · rw [if_pos ⟨by omega, z2.symm, z3.symm⟩]; rfl
        · rw [if_neg (fun y => z3 y.2.2.symm)]; rfl
  have := loop 72 0 s w (by decide) (by decide) (Or.inr h1) hF (fun _ => rfl) (fun _ => rfl) hG kk
  rw [h1] at this
  exact ⟨41, hd, e_X9_round this⟩
theorem m_cyclic (hd : 1 ≤ d) (hk : ∀ c, rng c → w 121 c = k c) (hk01 : ∀ c, rng c → k c = 0 ∨ k c = 1) (kk : K (anyK k) w) : C_X9_cyclic d [.inr (.inr 115)] w K := by
  have bd : ∀ m : Nat, 0 ≤ sm m (ind1 k) ∧ sm m (ind1 k) ≤ m := fun m => by
    have := sm_bd (f := ind1 k) (a := 0) (b := 1) m (fun c _ _ => by unfold ind1; split <;> omega)
    omega
  have loop : ∀ (n m : Nat), m + n = 72 → W_X9_cyclic 0 4 [some (.inr (.inr 115)), some (.inl (sm m (ind1 k))), some (.inl (m : Int))] [] w K := by
    intro n
    induction n with
    | zero =>
      intro m hm
      have em : m = 72 := by omega
      subst em
      exact v_X9_cyclic_4 ⟨fun _ => kk, fun z => absurd (Int.le_refl 72) z⟩
    | succ n ih =>
      intro m hm
      have hrm : rng (m : Int) := ⟨by omega, by omega⟩
      have hb := bd m
      have := ih (m + 1) (by omega)
      rw [show ((m + 1 : Nat) : Int) = (m : Int) + 1 by omega, show sm (m + 1) (ind1 k) = sm m (ind1 k) + ind1 k m from rfl] at this
      have h01 := hk01 m hrm
      refine v_X9_cyclic_4 ⟨fun z => by omega, fun _ => ⟨hrm, fun q => ⟨by omega, by omega, ?_⟩, fun q => ⟨by omega, by omega, ?_⟩⟩⟩
      · rw [hk m hrm] at q
        rw [show ind1 k m = 0 from if_neg (by omega)] at this
        exact this
      · rw [hk m hrm] at q
        rw [show ind1 k m = 1 from if_pos (by omega)] at this
        exact this
  exact ⟨0, hd, e_X9_cyclic (loop 72 0 (by decide))⟩
/-- all that settling changes -/
def FrS (w w' : Wd) : Prop := ∀ a i, ¬ (119 ≤ a ∧ a ≤ 124) → a ≠ 131 → ¬ (133 ≤ a ∧ a ≤ 142) → ¬ (a = 115 ∧ (i = 19 ∨ i = 20 ∨ i = 23 ∨ i = 24 ∨ i = 26 ∨ i = 27 ∨ i = 36 ∨ i = 37 ∨ i = 38 ∨ i = 39 ∨ i = 40 ∨ i = 41)) → w' a i = w a i
/-- the reference's data are those of a settled sheet -/
def MD (k h : Int → Int) (g : Int) (s : RSt) (w : Wd) : Prop := (∀ c, rng c → w 119 c = s.1 c ∧ w 120 c = s.2.1 c ∧ w 122 c = h c ∧ w 121 c = k c ∧ RdL w 123 124 c (s.2.2.1 c)) ∧ w 115 19 = g ∧ w 115 20 = s.2.2.2
theorem FrP.toS (h : FrP w w1) : FrS w w1 := fun a i q1 q2 q3 q4 => h a i q1 q2 q3 (by omega)
theorem FrS.trans {w2 : Wd} (h1 : FrS w w1) (h2 : FrS w1 w2) : FrS w w2 := fun a i q1 q2 q3 q4 => by rw [h2 a i q1 q2 q3 q4]; exact h1 a i q1 q2 q3 q4
theorem ML.frs (h : ML w0 tx) (hf : FrS w0 w) : ML w tx := by
  intro c hc
  obtain ⟨a1, a2, a3⟩ := h c hc
  exact ⟨a1, by rw [hf 116 c (by omega) (by omega) (by omega) (by omega)]; exact a2, fun j hj => by rw [hf 116 _ (by omega) (by omega) (by omega) (by omega)]; exact a3 j hj⟩
theorem m_set159 (hnb : PV nb) (hem : ∀ c, rng c → k c = 1 → emM tx gv c ≠ 0) (hk01 : ∀ c, rng c → k c = 0 ∨ k c = 1) (hr40 : 0 ≤ r ∧ r ≤ 40) (n : Nat) : ∀ (g : Int) (s : RSt) (w : Wd), g + n = r → 0 ≤ g → (s.2.2.2 = 0 ∨ s.2.2.2 = 1) → FrS w0 w → ML w tx → (w 115 42 = gv ∧ w 115 43 = nb) → w 116 2520 = r → (∀ c, rng c → w 121 c = k c ∧ w 122 c = h c) → GRm w s → w 115 19 = g → w 115 20 = s.2.2.2 →
    (∀ w' g' s', (g', s') = rnds (emM tx gv) (GM tx gv nb) k n g s → FrS w0 w' → MD k h g' s' w' → KV w') → W_X9_settles 50 159 [some (.inr (.inr 115)), some (.inl (1 - s.2.2.2))] [] w KV := by
  induction n with
  | zero =>
    intro g s w hg h0 h01 hF hL hgv hr hk hG h19 h20 kk
    have hMD : MD k h g s w := ⟨fun c hc => ⟨(hG c hc).1.1, (hG c hc).1.2.1, (hk c hc).2, (hk c hc).1, (hG c hc).2⟩, h19, h20⟩
    exact v_X9_settles_159 ⟨fun _ => kk w g s rfl hF hMD, fun _ => ⟨fun _ => kk w g s rfl hF hMD, fun z => by omega⟩⟩
  | succ n ih =>
    intro g s w hg h0 h01 hF hL hgv hr hk hG h19 h20 kk
    have hMD : MD k h g s w := ⟨fun c hc => ⟨(hG c hc).1.1, (hG c hc).1.2.1, (hk c hc).2, (hk c hc).1, (hG c hc).2⟩, h19, h20⟩
    unfold rnds at kk
    refine v_X9_settles_159 ⟨fun z => ?_, fun z => ⟨fun z2 => by omega, fun _ => ?_⟩⟩
    · rw [if_pos (by omega)] at kk
      exact kk w g s rfl hF hMD
    · rw [if_neg (by omega)] at kk
      refine m_round (by decide) hL hnb hgv hem (fun _ _ _ _ _ _ => rfl) (fun c hc => (hk c hc).1) hk01 (s := (s.1, s.2.1, s.2.2.1, 1)) rfl hG (fun w' s' p1 p2 p3 p4 p5 p6 => ?_)
      rw [← p1] at kk
      have e19 : w' 115 19 = g := by rw [p3 115 19 (by omega) (by omega) (by omega) (by omega)]; exact h19
      rw [e19]
      refine ⟨by omega, ?_⟩
      rintro w2 rfl
      have go : ∀ x : Int, x = s'.2.2.2 → W_X9_settles 50 159 [some (.inr (.inr 115)), some (.inl (1 - s'.2.2.2))] [] (wset (wset w' 115 19 (g + 1)) 115 20 x) KV := by
        intro x hx
        generalize hw3 : wset (wset w' 115 19 (g + 1)) 115 20 x = w3
        have c0 : ∀ a i, ¬ (a = 115 ∧ (i = 19 ∨ i = 20)) → w3 a i = w' a i := fun a i q => by rw [← hw3, wset_at (by omega), wset_at (by omega)]
        refine ih (g + 1) s' w3 (by omega) (by omega) p2 ((hF.trans p3.toS).trans (fun a i q1 q2 q3 q4 => c0 a i (by omega))) ((hL.fr p3).frs (fun a i q1 q2 q3 q4 => c0 a i (by omega))) ?_ ?_ (fun c hc => ?_) (fun c hc => ?_) ?_ ?_ kk
        · rw [c0 115 42 (by decide), c0 115 43 (by decide)]
          exact p3.g hgv
        · rw [c0 116 2520 (by decide), p3 116 2520 (by omega) (by omega) (by omega) (by omega)]
          exact hr
        · rw [c0 121 c (by omega), c0 122 c (by omega), p4, p5]
          exact hk c hc
        · have := p6 c hc
          rw [c0 119 c (by omega), c0 120 c (by omega), c0 131 c (by omega)]
          exact ⟨this.1, this.2.cong (c0 _ _ (by omega)) (fun i _ _ => c0 _ _ (by omega))⟩
        · rw [← hw3, wset_at (by omega), wset_eq]
        · rw [← hw3, wset_eq]; exact hx
      refine ⟨fun q => ?_, fun q => ?_⟩
      · rintro w3 rfl
        exact go 0 (by omega)
      · rintro w3 rfl
        exact go 1 (by omega)
theorem m_settles (hd : 52 ≤ d) (hL : ML w tx) (hnb : PV nb) (hg : w 115 42 = gv ∧ w 115 43 = nb) (hr40 : 0 ≤ w 116 2520 ∧ w 116 2520 ≤ 40) (kk : ∀ w' k h g s, SetD (emM tx gv) (GM tx gv nb) (w 116 2520) k h g s → FrS w w' → MD k h g s w' → KV w') : C_X9_settles d [.inr (.inr 115)] w KV := by
  refine ⟨50, by omega, e_X9_settles (m_passes (by decide) hL hnb hg (fun w1 hF1 hA hH hB => ?_))⟩
  have hL1 := hL.fr hF1
  have hg1 := hF1.g hg
  have hGd := gd_GM hL1 hnb (gv := gv)
  obtain ⟨hbase, hrl⟩ := base_M hL1 hnb hg1.1 hA hB
  have hk : ∀ c, rng c → kM w1 c = if w1 131 c = 0 then 1 else 0 := fun c hc => msk_in hc
  have hk01 : ∀ c, rng c → kM w1 c = 0 ∨ kM w1 c = 1 := fun c hc => (hbase.2.1 c hc).1
  have hem : ∀ c, rng c → kM w1 c = 1 → emM tx gv c ≠ 0 := fun c hc q z => by have := (hbase.2.2.1 c hc z).1; omega
  have er : w1 116 2520 = w 116 2520 := hF1 116 2520 (by omega) (by omega) (by omega) (by omega)
  generalize hkk : kM w1 = k at *
  generalize hvv : msk (w1 119) = v at *
  generalize hee : msk (w1 120) = e at *
  generalize hhh : msk (w1 122) = h at *
  generalize hRR : lst w1 123 124 = R at *
  have v119 : ∀ c, rng c → w1 119 c = v c := fun c hc => by rw [← hvv]; exact (msk_in hc).symm
  have v120 : ∀ c, rng c → w1 120 c = e c := fun c hc => by rw [← hee]; exact (msk_in hc).symm
  have v122 : ∀ c, rng c → w1 122 c = h c := fun c hc => by rw [← hhh]; exact (msk_in hc).symm
  -- the cells in cycles are marked
  have loop6 : ∀ (n m : Nat) (w2 : Wd), m + n = 72 → FrP w w2 → (∀ i, w2 119 i = w1 119 i ∧ w2 122 i = w1 122 i ∧ w2 123 i = w1 123 i ∧ w2 124 i = w1 124 i ∧ w2 131 i = w1 131 i) → (∀ c, rng c → (c < m → w2 121 c = k c ∧ w2 120 c = if k c = 1 then (if w 116 2520 = 0 then 4 else 0) else e c) ∧ (¬ c < m → w2 120 c = w1 120 c)) →
      (∀ w3, FrP w w3 → (∀ i, w3 119 i = w1 119 i ∧ w3 122 i = w1 122 i ∧ w3 123 i = w1 123 i ∧ w3 124 i = w1 124 i ∧ w3 131 i = w1 131 i) → (∀ c, rng c → w3 121 c = k c ∧ w3 120 c = if k c = 1 then (if w 116 2520 = 0 then 4 else 0) else e c) → W_X9_settles 50 76 [some (.inr (.inr 115)), some (.inl 0)] [] w3 KV) → W_X9_settles 50 6 [some (.inr (.inr 115)), some (.inl (m : Int))] [] w2 KV := by
    intro n
    induction n with
    | zero =>
      intro m w2 hm hF2 hs hc k3
      have em : m = 72 := by omega
      subst em
      exact v_X9_settles_6 ⟨fun _ => k3 w2 hF2 hs (fun c hcr => (hc c hcr).1 hcr.2), fun z => absurd (Int.le_refl 72) z⟩
    | succ n ih =>
      intro m w2 hm hF2 hs hc k3
      have hrm : rng (m : Int) := ⟨by omega, by omega⟩
      have hmm := (hc m hrm).2 (by omega)
      have e131 := (hs m).2.2.2.2
      have er2 : w2 116 2520 = w 116 2520 := hF2 116 2520 (by omega) (by omega) (by omega) (by omega)
      have ekm := hk m hrm
      have ebm := (hbase.2.1 m hrm)
      have go : ∀ x y : Int, x = k m → y = (if k m = 1 then (if w 116 2520 = 0 then 4 else 0) else e m) → (-2147483648 ≤ ((m : Int) + 1) ∧ ((m : Int) + 1) ≤ 2147483647) ∧ W_X9_settles 50 6 [some (.inr (.inr 115)), some (.inl ((m : Int) + 1))] [] (wset (wset w2 121 m x) 120 m y) KV := by
        intro x y hx hy
        have := ih (m + 1) (wset (wset w2 121 m x) 120 m y) (by omega) (hF2.trans (fun a i q1 q2 q3 q4 => by rw [wset_at (by omega), wset_at (by omega)])) (fun i => by rw [wset_at (by omega), wset_at (by omega), wset_at (by omega), wset_at (by omega), wset_at (by omega), wset_at (by omega), wset_at (by omega), wset_at (by omega), wset_at (by omega), wset_at (by omega)]; exact hs i) (fun c hcr => ⟨fun z => ?_, fun z => ?_⟩) k3
        · rw [show ((m + 1 : Nat) : Int) = (m : Int) + 1 by omega] at this
          exact ⟨by omega, this⟩
        · by_cases q : c = m
          · rw [q, wset_at (by omega), wset_eq, wset_eq]
            exact ⟨hx, hy⟩
          · rw [wset_at (by omega), wset_at (by omega), wset_at (by omega), wset_at (by omega)]
            exact (hc c hcr).1 (by omega)
        · rw [wset_at (by omega), wset_at (by omega)]
          exact (hc c hcr).2 (by omega)
      have h120 : w2 120 m = e m := by rw [hmm]; exact v120 m hrm
      refine v_X9_settles_6 ⟨fun z => by omega, fun _ => ⟨hrm, fun q => ⟨hrm, ?_⟩, fun q => ⟨hrm, ?_⟩⟩⟩
      · rw [e131] at q
        rw [if_neg q] at ekm
        rintro w3 rfl
        refine ⟨hrm, fun _ => ⟨hrm, hrm, ?_⟩, fun z => absurd wset_eq z⟩
        rw [show wset w2 121 (m : Int) 0 120 m = e m by rw [wset_at (by omega)]; exact h120]
        rintro w4 rfl
        exact go 0 (e m) ekm.symm (by rw [if_neg (by omega)])
      · rw [e131] at q
        rw [if_pos q] at ekm
        have hne := hem m hrm ekm
        have he0 : e m = 0 := (hbase.2.2.2.2 m hrm hne ekm).2.2.1
        rintro w5 rfl
        refine ⟨hrm, fun z => absurd (wset_eq.symm.trans z) (by decide), fun _ => ?_⟩
        rw [show wset w2 121 (m : Int) 1 116 2520 = w 116 2520 by rw [wset_at (by omega)]; exact er2, show wset w2 121 (m : Int) 1 120 m = e m by rw [wset_at (by omega)]; exact h120]
        refine ⟨fun z => ⟨hrm, hrm, ?_⟩, fun z => ⟨hrm, ?_⟩⟩
        · rintro w7 rfl
          exact go 1 (e m) ekm.symm (by rw [if_pos ekm, if_neg z]; exact he0)
        · rintro w8 rfl
          exact go 1 4 ekm.symm (by rw [if_pos ekm, if_pos z])
  -- all can be read
  have loop76 : ∀ (n m : Nat) (w2 : Wd), m + n = 72 → FrP w w2 → (∀ i, w2 119 i = w1 119 i ∧ w2 122 i = w1 122 i ∧ w2 123 i = w1 123 i ∧ w2 124 i = w1 124 i) → (∀ c, rng c → (w2 121 c = k c ∧ w2 120 c = if k c = 1 then (if w 116 2520 = 0 then 4 else 0) else e c) ∧ (c < m → w2 131 c = 1)) →
      (∀ w3, FrP w w3 → (∀ c, rng c → w3 121 c = k c ∧ w3 122 c = h c) → (∀ x, GRm w3 (v, (fun c => if k c = 1 then (if w 116 2520 = 0 then 4 else 0) else e c), R, x)) → W_X9_settles 50 76 [some (.inr (.inr 115)), some (.inl 72)] [] w3 KV) → W_X9_settles 50 76 [some (.inr (.inr 115)), some (.inl (m : Int))] [] w2 KV := by
    intro n
    induction n with
    | zero =>
      intro m w2 hm hF2 hs hc k3
      have em : m = 72 := by omega
      subst em
      refine k3 w2 hF2 (fun c hcr => ⟨(hc c hcr).1.1, by rw [(hs c).2.1]; exact v122 c hcr⟩) (fun x c hcr => ⟨⟨by rw [(hs c).1]; exact v119 c hcr, (hc c hcr).1.2, (hc c hcr).2 hcr.2, (hbase.2.1 c hcr).2.1, ?_⟩, (hrl c hcr).cong (hs c).2.2.1 (fun i _ _ => (hs i).2.2.2)⟩)
      dsimp only
      split
      · split <;> exact ⟨by decide, by decide⟩
      · exact (hbase.2.1 c hcr).2.2
    | succ n ih =>
      intro m w2 hm hF2 hs hc k3
      have hrm : rng (m : Int) := ⟨by omega, by omega⟩
      refine v_X9_settles_76 ⟨fun z => by omega, fun _ => ⟨hrm, ?_⟩⟩
      rintro w9 rfl
      have := ih (m + 1) (wset w2 131 m 1) (by omega) (hF2.trans (fun a i q1 q2 q3 q4 => by rw [wset_at (by omega)])) (fun i => by rw [wset_at (by omega), wset_at (by omega), wset_at (by omega), wset_at (by omega)]; exact hs i) (fun c hcr => ⟨by rw [wset_at (by omega), wset_at (by omega)]; exact (hc c hcr).1, fun z => ?_⟩) k3
      · rw [show ((m + 1 : Nat) : Int) = (m : Int) + 1 by omega] at this
        exact ⟨by omega, this⟩
      · by_cases q : c = m
        · rw [q, wset_eq]
        · rw [wset_at (by omega)]
          exact (hc c hcr).2 (by omega)
  have h0 := loop6 72 0 w1 (by decide) hF1 (fun _ => ⟨rfl, rfl, rfl, rfl, rfl⟩) (fun c hcr => ⟨fun z => by have := hcr.1; omega, fun _ => rfl⟩) (fun w3 hF3 hs3 hc3 => ?_)
  · exact h0
  · have h1 := loop76 72 0 w3 (by decide) hF3 (fun i => ⟨(hs3 i).1, (hs3 i).2.1, (hs3 i).2.2.1, (hs3 i).2.2.2.1⟩) (fun c hcr => ⟨hc3 c hcr, fun z => by have := hcr.1; omega⟩) (fun w4 hF4 hk4 hG4 => ?_)
    · exact h1
    · -- gone, settled, and the rounds
      have fin : ∀ (x : Int) (w5 : Wd), x = (if anyK k = 0 then 1 else 0) → FrS w w5 → ML w5 tx → (w5 115 42 = gv ∧ w5 115 43 = nb) → w5 116 2520 = w 116 2520 → (∀ c, rng c → w5 121 c = k c ∧ w5 122 c = h c) → GRm w5 (v, (fun c => if k c = 1 then (if w 116 2520 = 0 then 4 else 0) else e c), R, x) → w5 115 19 = 0 → w5 115 20 = x → W_X9_settles 50 159 [some (.inr (.inr 115)), some (.inl (1 - x))] [] w5 KV := by
        intro x w5 hx q1 q2 q3 q4 q5 q6 q7 q8
        refine m_set159 (k := k) (h := h) hnb hem hk01 (r := w 116 2520) hr40 (w 116 2520).toNat 0 (v, (fun c => if k c = 1 then (if w 116 2520 = 0 then 4 else 0) else e c), R, x) w5 (by omega) (by decide) ?_ q1 q2 q3 q4 q5 q6 q7 q8 (fun w' g' s' p1 p2 p3 => kk w' k h g' s' ⟨v, e, R, hbase, ?_⟩ p2 p3)
        · rw [hx]; dsimp only; split
          · exact Or.inr rfl
          · exact Or.inl rfl
        · rw [p1, hx]
          rfl
      have hL4 := hL.fr hF4
      have hg4 := hF4.g hg
      have hr4 : w4 116 2520 = w 116 2520 := hF4 116 2520 (by omega) (by omega) (by omega) (by omega)
      have hap : 0 ≤ anyK k := by
        have := (sm_bd (f := ind1 k) (a := 0) (b := 1) 72 (fun c _ _ => by unfold ind1; split <;> omega)).1
        have e : anyK k = sm 72 (ind1 k) := rfl
        omega
      refine v_X9_settles_76 ⟨fun _ => ?_, fun z => absurd (Int.le_refl 72) z⟩
      rintro w5 rfl
      refine m_cyclic (by decide) (fun c hcr => by rw [wset_at (by omega)]; exact (hk4 c hcr).1) hk01 ?_
      have stp : ∀ x : Int, x = (if anyK k = 0 then 1 else 0) → ∀ w6, w6 = wset (wset w4 115 19 0) 115 20 x → (FrS w w6 ∧ ML w6 tx ∧ (w6 115 42 = gv ∧ w6 115 43 = nb) ∧ w6 116 2520 = w 116 2520 ∧ (∀ c, rng c → w6 121 c = k c ∧ w6 122 c = h c) ∧ (∀ x, GRm w6 (v, (fun c => if k c = 1 then (if w 116 2520 = 0 then 4 else 0) else e c), R, x)) ∧ w6 115 19 = 0 ∧ w6 115 20 = x) := by
        rintro x hx w6 rfl
        have c0 : ∀ a i, ¬ (a = 115 ∧ (i = 19 ∨ i = 20)) → wset (wset w4 115 19 0) 115 20 x a i = w4 a i := fun a i q => by rw [wset_at (by omega), wset_at (by omega)]
        refine ⟨hF4.toS.trans (fun a i q1 q2 q3 q4 => c0 a i (by omega)), hL4.frs (fun a i q1 q2 q3 q4 => c0 a i (by omega)), ?_, ?_, fun c hcr => ?_, fun x c hcr => ?_, ?_, ?_⟩
        · rw [c0 115 42 (by decide), c0 115 43 (by decide)]; exact hg4
        · rw [c0 116 2520 (by decide)]; exact hr4
        · rw [c0 121 c (by omega), c0 122 c (by omega)]; exact hk4 c hcr
        · have := hG4 x c hcr
          rw [c0 119 c (by omega), c0 120 c (by omega), c0 131 c (by omega)]
          exact ⟨this.1, this.2.cong (c0 _ _ (by omega)) (fun i _ _ => c0 _ _ (by omega))⟩
        · rw [wset_at (by omega), wset_eq]
        · rw [wset_eq]
      refine ⟨fun q => ?_, fun q => ?_⟩
      · rintro w6 rfl
        obtain ⟨t1, t2, t3, t4, t5, t6, t7, t8⟩ := stp 0 (by rw [if_neg q]) _ rfl
        refine m_cyclic (by decide) (fun c hcr => (t5 c hcr).1) hk01 ⟨fun z => by omega, fun _ => ?_⟩
        rw [t4]
        refine ⟨fun z => fin 0 _ (by rw [if_neg q]) t1 t2 t3 t4 t5 (t6 0) t7 t8, fun z => ?_⟩
        have hz4 : (fun c => if k c = 1 then (if w 116 2520 = 0 then (4 : Int) else 0) else e c) = (fun c => if k c = 1 then 4 else e c) := by rw [if_pos z]
        refine m_round (by decide) t2 hnb t3 hem (fun _ _ _ _ _ _ => rfl) (fun c hcr => (t5 c hcr).1) hk01 (s := (v, (fun c => if k c = 1 then 4 else e c), R, 1)) rfl (by rw [← hz4]; exact t6 1) (fun w' s' p1 p2 p3 p4 p5 p6 => ?_)
        rw [rnd_zero hGd hbase 72 0 1 (by decide) (by decide) (Or.inr rfl)] at p1
        rw [p1] at p6
        have last : W_X9_settles 50 159 [some (.inr (.inr 115)), some (.inl 0)] [] w' KV := by
          refine v_X9_settles_159 ⟨fun _ => kk w' k h 0 (v, (fun c => if k c = 1 then (if w 116 2520 = 0 then 4 else 0) else e c), R, 0) ⟨v, e, R, hbase, ?_⟩ (t1.trans p3.toS) ⟨fun c hcr => ?_, ?_, ?_⟩, fun y => absurd rfl y⟩
          · unfold fin2
            rw [z, if_neg q]
            rfl
          · have := p6 c hcr
            rw [hz4]
            exact ⟨this.1.1, this.1.2.1, by rw [p5]; exact (t5 c hcr).2, by rw [p4]; exact (t5 c hcr).1, this.2⟩
          · rw [p3 115 19 (by omega) (by omega) (by omega) (by omega)]; exact t7
          · rw [p3 115 20 (by omega) (by omega) (by omega) (by omega)]; exact t8
        exact ⟨fun _ => last, fun _ => last⟩
      · rintro w6 rfl
        obtain ⟨t1, t2, t3, t4, t5, t6, t7, t8⟩ := stp 1 (by rw [if_pos q]) _ rfl
        refine m_cyclic (by decide) (fun c hcr => (t5 c hcr).1) hk01 ⟨fun z => ?_, fun z => by omega⟩
        have := fin 1 _ (by rw [if_pos q]) t1 t2 t3 t4 t5 (t6 1) t7 t8
        exact ⟨fun _ => this, fun _ => this⟩
end BIS
