section BHS
variable {tx : Int → List Int} {gv nb c : Int} {w w0 w1 : Wd} {d : Nat} {K : Int → Wd → Prop} {KV : Wd → Prop} {M : Int}
theorem m_lays (hd : 1 ≤ d) (hc : rng c) {wr V : Int} (hw : w 115 40 = wr) (hwr : 0 ≤ wr) (hv : wr = 0 → w 115 41 = V) (hV : PV V) (k : KV (wset (wset w 120 c wr) 119 c (if wr = 0 then V else 0))) : C_X9_lays d [.inr (.inr 115), .inl c] w KV := by
  refine ⟨0, hd, e_X9_lays ⟨hc, ?_⟩⟩
  rw [hw]
  rintro w1 rfl
  rw [wset_at (by omega), wset_at (by omega), hw]
  refine ⟨fun q => ?_, fun q => ⟨hc, ?_⟩⟩
  · have q0 : wr = 0 := by omega
    rw [hv q0]
    refine ⟨by omega, hc, ?_⟩
    rintro w2 rfl
    rw [if_pos q0] at k
    exact k
  · rintro w3 rfl
    rw [if_neg (by omega)] at k
    exact k
theorem m_heightOf {l : List Int} (hd : 1 ≤ d) (hc : rng c) (hrl : RdL w 123 124 c l) (hh : ∀ x, rng x → 0 ≤ w 122 x ∧ w 122 x ≤ 1000) (k : K (hgt (w 122) l) w) : C_X9_heightOf d [.inr (.inr 115), .inl c] w K := by
  have hlen := hrl.len
  have hc' := hc
  unfold rng at hc'
  have loop : ∀ (k' : Nat) (v3 : Nat) (v2 : Int), v3 + k' = l.length → -1 ≤ v2 → v2 ≤ 2000 → hgt (w 122) l = (l.drop v3).foldl (fun a x => max a (w 122 x + 1)) (v2 + 1) → W_X9_heightOf 0 4 [some (.inr (.inr 115)), some (.inl c), some (.inl v2), some (.inl (v3 : Int)), none] [] w K := by
    intro k'
    induction k' with
    | zero =>
      intro v3 v2 hk h4 h4b hfold
      rw [List.drop_of_length_le (by omega)] at hfold
      have hfold2 : hgt (w 122) l = v2 + 1 := hfold
      rw [hfold2] at k
      exact v_X9_heightOf_4 ⟨hc, fun _ => ⟨by omega, k⟩, fun z => by rw [hrl.1] at z; omega⟩
    | succ k' ih =>
      intro v3 v2 hk h4 h4b hfold
      have hg : l.drop v3 = l.getD v3 0 :: l.drop (v3 + 1) := by
        rw [List.getD_eq_getElem?_getD, List.getElem?_eq_getElem (by omega), Option.getD_some]
        exact List.drop_eq_getElem_cons (by omega)
      rw [hg] at hfold
      simp only [List.foldl_cons] at hfold
      have hmem : rng (l.getD v3 0) := hrl.2.2.2 _ (by
        rw [List.getD_eq_getElem?_getD, List.getElem?_eq_getElem (by omega), Option.getD_some]
        exact List.getElem_mem _)
      have hhx := hh _ hmem
      have hw := hrl.2.1 v3 (by omega)
      rw [Int.mul_comm] at hw
      refine v_X9_heightOf_4 ⟨hc, fun z => by rw [hrl.1] at z; omega, fun _ => ⟨by omega, by omega, by omega, ?_⟩⟩
      rw [hw]
      refine ⟨hmem, fun q => ⟨by omega, ?_⟩, fun q => ⟨hmem, by omega, ?_⟩⟩
      · have := ih (v3 + 1) v2 (by omega) h4 h4b (by rw [show max (v2 + 1) (w 122 (l.getD v3 0) + 1) = v2 + 1 by omega] at hfold; exact hfold)
        rw [show ((v3 + 1 : Nat) : Int) = (v3 : Int) + 1 by omega] at this
        exact this
      · have := ih (v3 + 1) (w 122 (l.getD v3 0)) (by omega) (by omega) (by omega) (by rw [show max (v2 + 1) (w 122 (l.getD v3 0) + 1) = w 122 (l.getD v3 0) + 1 by omega] at hfold; exact hfold)
        rw [show ((v3 + 1 : Nat) : Int) = (v3 : Int) + 1 by omega] at this
        exact this
  exact ⟨0, hd, e_X9_heightOf (loop l.length 0 (-1) (by omega) (by decide) (by decide) rfl)⟩
theorem FrP.g (hf : FrP w0 w) (hg : w0 115 42 = gv ∧ w0 115 43 = nb) : w 115 42 = gv ∧ w 115 43 = nb := ⟨by rw [hf 115 42 (by omega) (by omega) (by omega) (by omega)]; exact hg.1, by rw [hf 115 43 (by omega) (by omega) (by omega) (by omega)]; exact hg.2⟩
/-- one pass -/
theorem m_pass70 (hL : ML w0 tx) (hnb : PV nb) (hg : w0 115 42 = gv ∧ w0 115 43 = nb) {U : Int} (n : Nat) : ∀ (v1 v2 : Int) (w : Wd), v2 + n = 72 → 0 ≤ v2 → FrP w0 w → MA tx gv nb w → MH w → (v1 = 0 ∧ MB tx gv nb v2 w ∧ un0 w = U ∨ v1 = 1 ∧ un0 w < U) →
    (∀ w' v1', FrP w0 w' → MA tx gv nb w' → MH w' → (v1' = 0 ∧ MB tx gv nb 72 w' ∨ v1' = 1 ∧ un0 w' < U) → W_X9_passes 40 62 [some (.inr (.inr 115)), some (.inl v1'), none] [] w' KV) →
    W_X9_passes 40 70 [some (.inr (.inr 115)), some (.inl v1), some (.inl v2)] [] w KV := by
  induction n with
  | zero =>
    intro v1 v2 w hv h0 hF hA hH hor k
    refine v_X9_passes_70 ⟨fun _ => k w v1 hF hA hH ?_, fun z => by omega⟩
    rw [show v2 = 72 by omega] at hor
    rcases hor with z | z
    · exact Or.inl ⟨z.1, z.2.1⟩
    · exact Or.inr z
  | succ n ih =>
    intro v1 v2 w hv h0 hF hA hH hor k
    have hrv : rng v2 := ⟨h0, by omega⟩
    refine v_X9_passes_70 ⟨fun z => by omega, fun _ => ⟨hrv, fun q => ⟨by omega, ?_⟩, fun q => ?_⟩⟩
    · refine ih v1 (v2 + 1) w (by omega) (by omega) hF hA hH ?_ k
      rcases hor with z | z
      · exact Or.inl ⟨z.1, fun c hc hc2 hc0 => z.2.1 c hc (Classical.byContradiction (fun y => q (by rw [show v2 = c by omega]; exact hc0))) hc0, z.2.2⟩
      · exact Or.inr z
    · have he : emM tx gv v2 ≠ 0 := fun z => by have := (hA.2.1 v2 hrv z).1; omega
      have hL2 := hL.fr hF
      refine m_work2 (by decide) hrv hL2 hA.okE (hF.g hg) he (fun l res w1 hm hend h41 => ?_)
      obtain ⟨hA1, hH1, hrl1, hu1, hB1⟩ := ma_work (v2 := v2) hrv q hA hH hend
      have hF1 := hF.trans hend.frp
      have hout := hA.out hL2 hnb hrv he hm
      have henv := hend.env
      rw [hend.2.1.1]
      refine ⟨fun q1 => ⟨by omega, ?_⟩, fun q1 => ?_⟩
      · have hbl : blk res ≠ -1 := fun z => q1 (if_pos z)
        refine ih v1 (v2 + 1) w1 (by omega) (by omega) hF1 hA1 hH1 ?_ k
        rw [hu1]
        rcases hor with z | z
        · refine Or.inl ⟨z.1, fun c hc hc2 hc0 => ?_, z.2.2⟩
          by_cases y : c = v2
          · rw [y, henv]
            obtain ⟨o1, o2, o3⟩ := hout.2.2.2.2 hbl
            exact ⟨l, blk res, by rw [← o3]; exact hm, o1, hrl1⟩
          · exact hB1 (Int.le_refl _) z.2.1 c hc (by omega) hc0
        · exact Or.inr z
      · have hbl : blk res = -1 := Classical.byContradiction (fun z => by
          have : rbl res = 1 := if_neg z
          omega)
        have hwr : rwr res = outE res := if_pos hbl
        have hL1 := hL2.fr hend.frp
        have hk1 : w1 131 v2 = 0 := by rw [hend.1 131 v2 (by unfold MwOff; omega)]; exact q
        rw [← henv] at hm
        obtain ⟨hA2, hH2, hu2⟩ := ma_learn hL1 hnb hrv hk1 he hm hbl hrl1 hA1 hH1
        refine m_lays (V := outV res) (by decide) hrv hend.2.1.2 (by rw [hwr]; exact hout.2.2.2.1.1) (fun z => h41 z q1) hout.2.2.1 ?_
        have eV : (if rwr res = 0 then outV res else 0) = outV res := by
          rw [hwr]
          cases res with
          | inl x => split <;> rfl
          | inr y => exact if_pos rfl
        rw [eV, hwr]
        have e122 : wset (wset w1 120 v2 (outE res)) 119 v2 (outV res) 122 = w1 122 := funext (fun i => by rw [wset_at (by omega), wset_at (by omega)])
        refine m_heightOf (by decide) hrv (hrl1.cong (by rw [wset_at (by omega), wset_at (by omega)]) (fun i _ _ => by rw [wset_at (by omega), wset_at (by omega)])) (fun x hx => ?_) ⟨hrv, ?_⟩
        · rw [e122]
          have := hH1 x hx
          have hub := un0_bd (w := w1)
          refine ⟨this.1, ?_⟩
          rcases (hA1.1 x hx).1 with z | z
          · have := (hA1.2.2.2 x hx z).2.2
            omega
          · have := this.2 z
            omega
        · rw [e122]
          rintro w4 rfl
          refine ⟨hrv, ?_⟩
          rintro w5 rfl
          refine ⟨by omega, ih 1 (v2 + 1) (mln v2 (outV res) (outE res) (hgt (w1 122) l) w1) (by omega) (by omega) (hF1.trans (fun a i g1 g2 g3 g4 => ?_)) hA2 hH2 (Or.inr ⟨rfl, ?_⟩) k⟩
          · unfold mln
            rw [wset_at (by omega), wset_at (by omega), wset_at (by omega), wset_at (by omega)]
          · rw [hu2, hu1]
            rcases hor with z | z <;> omega
theorem m_pass62 (hL : ML w0 tx) (hnb : PV nb) (hg : w0 115 42 = gv ∧ w0 115 43 = nb) (N : Nat) : ∀ (w : Wd) (v1 : Int), FrP w0 w → MA tx gv nb w → MH w → (v1 = 0 ∧ MB tx gv nb 72 w ∨ v1 = 1 ∧ un0 w < N) → (∀ w', FrP w0 w' → MA tx gv nb w' → MH w' → MB tx gv nb 72 w' → KV w') → W_X9_passes 40 62 [some (.inr (.inr 115)), some (.inl v1), none] [] w KV := by
  induction N with
  | zero =>
    intro w v1 hF hA hH hor k
    rcases hor with z | z
    · exact v_X9_passes_62 ⟨fun _ => k w hF hA hH z.2, fun y => absurd z.1 y⟩
    · have := un0_bd (w := w)
      omega
  | succ N ih =>
    intro w v1 hF hA hH hor k
    rcases hor with z | z
    · exact v_X9_passes_62 ⟨fun _ => k w hF hA hH z.2, fun y => absurd z.1 y⟩
    · refine v_X9_passes_62 ⟨fun y => by omega, fun _ => m_pass70 hL hnb hg (U := un0 w) 72 0 0 w (by decide) (by decide) hF hA hH (Or.inl ⟨rfl, fun c hc hc0 => by have := hc.1; omega, rfl⟩) (fun w' v1' p1 p2 p3 p4 => ih w' v1' p1 p2 p3 ?_ k)⟩
      rcases p4 with y | y
      · exact Or.inl y
      · exact Or.inr ⟨y.1, by omega⟩
theorem m_passes (hd : 41 ≤ d) (hL : ML w tx) (hnb : PV nb) (hg : w 115 42 = gv ∧ w 115 43 = nb) (k : ∀ w', FrP w w' → MA tx gv nb w' → MH w' → MB tx gv nb 72 w' → KV w') : C_X9_passes d [.inr (.inr 115)] w KV := by
  have loop : ∀ (n : Nat) (v : Int) (w' : Wd), v + n = 72 → 0 ≤ v → FrP w w' → (∀ c, 0 ≤ c → c < v → w' 131 c = 1 - emM tx gv c ∧ w' 121 c = 0 ∧ w' 119 c = 0 ∧ w' 120 c = 0 ∧ w' 122 c = 0 ∧ w' 123 c = 0) → W_X9_passes 40 2 [some (.inr (.inr 115)), some (.inl v), none] [] w' KV := by
    intro n
    induction n with
    | zero =>
      intro v w' hv h0 hF h
      have em01 : ∀ c, emM tx gv c = 0 ∨ emM tx gv c = 1 := fun c => by unfold emM; split; exact Or.inl rfl; exact Or.inr rfl
      have hc : ∀ c, rng c → w' 131 c = 1 - emM tx gv c ∧ w' 121 c = 0 ∧ w' 119 c = 0 ∧ w' 120 c = 0 ∧ w' 122 c = 0 ∧ w' 123 c = 0 := fun c hc => h c hc.1 (by have := hc.2; omega)
      have hu := un0_bd (w := w')
      refine v_X9_passes_2 ⟨fun _ => m_pass62 hL hnb hg 73 w' 1 hF ⟨fun c q => ?_, fun c q q0 => ?_, fun c q q0 q1 => ?_, fun c q _ => ?_⟩ (fun c q => ?_) (Or.inr ⟨rfl, by omega⟩) k, fun z => by omega⟩
      · obtain ⟨g1, g2, g3, g4, g5, g6⟩ := hc c q
        rw [g1, g2, g3, g4]
        have := em01 c
        exact ⟨by omega, rfl, ⟨by decide, by decide⟩, by decide, by decide⟩
      · obtain ⟨g1, g2, g3, g4, g5, g6⟩ := hc c q
        exact ⟨by omega, g3, g4, g5, g6, fun j hj => absurd hj (Nat.not_lt_zero j), okl_nil⟩
      · have := (hc c q).1
        have := em01 c
        omega
      · obtain ⟨g1, g2, g3, g4, g5, g6⟩ := hc c q
        exact ⟨g3, g4, g5⟩
      · obtain ⟨g1, g2, g3, g4, g5, g6⟩ := hc c q
        rw [g5]
        refine ⟨by decide, fun z => ?_⟩
        have := un0_71 (w := w') q (by omega)
        omega
    | succ n ih =>
      intro v w' hv h0 hF h
      have hrv : rng v := ⟨h0, by omega⟩
      refine v_X9_passes_2 ⟨fun z => by omega, fun _ => ⟨39, by decide, e_X9_isEmpty ?_⟩⟩
      have hL2 := (hL.fr hF v hrv).2.1
      have hg2 := (hF.g hg).1
      have e : w' 116 v = 0 ↔ tx v = [] := by
        rw [hL2]
        exact ⟨fun z => List.eq_nil_of_length_eq_zero (by omega), fun z => by rw [z]; rfl⟩
      rw [show (0 : Int) + v = v by omega, hg2]
      have go : ∀ x1, x1 = 1 - emM tx gv v → (0 ≤ v ∧ v < 72) ∧ (x1 = 0 ∨ x1 = 1) ∧ (∀ w2, w2 = wset w' 131 v x1 → (0 ≤ v ∧ v < 72) ∧ (∀ w3, w3 = wset w2 121 v 0 → (0 ≤ v ∧ v < 72) ∧ (∀ w4, w4 = wset w3 119 v 0 → (0 ≤ v ∧ v < 72) ∧ (∀ w5, w5 = wset w4 120 v 0 → (0 ≤ v ∧ v < 72) ∧ (∀ w6, w6 = wset w5 122 v 0 → (0 ≤ v ∧ v < 72) ∧ (∀ w7, w7 = wset w6 123 v 0 → (-2147483648 ≤ (v + 1) ∧ (v + 1) ≤ 2147483647) ∧ W_X9_passes 40 2 [some (.inr (.inr 115)), some (.inl (v + 1)), none] [] w7 KV)))))) := by
        intro x1 hx1
        have h01 : x1 = 0 ∨ x1 = 1 := by
          unfold emM at hx1
          split at hx1
          · right; exact hx1
          · left; exact hx1
        refine ⟨hrv, h01, ?_⟩
        rintro w2 rfl
        refine ⟨hrv, ?_⟩
        rintro w3 rfl
        refine ⟨hrv, ?_⟩
        rintro w4 rfl
        refine ⟨hrv, ?_⟩
        rintro w5 rfl
        refine ⟨hrv, ?_⟩
        rintro w6 rfl
        refine ⟨hrv, ?_⟩
        rintro w7 rfl
        refine ⟨by unfold rng at hrv; omega, ih (v + 1) _ (by omega) (by omega) (fun a i g1 g2 g3 g4 => ?_) (fun c c0 c1 => ?_)⟩
        · rw [wset_at (by omega), wset_at (by omega), wset_at (by omega), wset_at (by omega), wset_at (by omega), wset_at (by omega)]
          exact hF a i g1 g2 g3 g4
        · by_cases q : c = v
          · subst q
            rw [wset_eq]
            refine ⟨?_, ?_, ?_, ?_, ?_, rfl⟩
            · rw [wset_at (by omega), wset_at (by omega), wset_at (by omega), wset_at (by omega), wset_at (by omega), wset_eq]; exact hx1
            · rw [wset_at (by omega), wset_at (by omega), wset_at (by omega), wset_at (by omega), wset_eq]
            · rw [wset_at (by omega), wset_at (by omega), wset_at (by omega), wset_eq]
            · rw [wset_at (by omega), wset_at (by omega), wset_eq]
            · rw [wset_at (by omega), wset_eq]
          · have := h c c0 (by omega)
            have gen : ∀ a, wset (wset (wset (wset (wset (wset w' 131 v x1) 121 v 0) 119 v 0) 120 v 0) 122 v 0) 123 v 0 a c = w' a c := fun a => by
              rw [wset_at (fun y => q y.2), wset_at (fun y => q y.2), wset_at (fun y => q y.2), wset_at (fun y => q y.2), wset_at (fun y => q y.2), wset_at (fun y => q y.2)]
            rw [gen, gen, gen, gen, gen, gen]
            exact this
      unfold rng at hrv
      refine ⟨by omega, by omega, fun z => go 0 ?_, fun z => ⟨fun z2 => go 0 ?_, fun z2 => go 1 ?_⟩⟩
      · unfold emM
        rw [if_neg (fun y => z (e.mpr y.1))]
        rfl
      · unfold emM
        rw [if_neg (fun y => y.2 z2)]
        rfl
      · unfold emM
        rw [if_pos ⟨e.mp z, z2⟩]
        rfl
  exact ⟨40, hd, e_X9_passes (loop 72 0 w (by decide) (by decide) (fun _ _ _ _ _ _ => rfl) (fun c c0 c1 => by omega))⟩
def kM (w : Wd) : Int → Int := msk (fun c => if w 131 c = 0 then 1 else 0)
theorem base_M (hL : ML w tx) (hnb : PV nb) (hg : w 115 42 = gv) (hA : MA tx gv nb w) (hB : MB tx gv nb 72 w) : Base (emM tx gv) (GM tx gv nb) (kM w) (msk (w 119)) (msk (w 120)) (msk (w 122)) (lst w 123 124) ∧ (∀ c, rng c → RdL w 123 124 c (lst w 123 124 c)) := by
  have hk : ∀ c, rng c → kM w c = if w 131 c = 0 then 1 else 0 := fun c hc => msk_in hc
  have env : ∀ x, rng x → envB (emM tx gv) (kM w) (msk (w 119)) (msk (w 120)) x = mvOf w x := fun x hx => by
    have := mv_len hL hg hx
    unfold envB
    rw [hk x hx, msk_in hx, msk_in hx, ← this]
    unfold mvOf
    dsimp only
    have e2 : (if w 131 x = 0 then (1 : Int) else 0) = (if w 131 x ≠ 0 then 0 else 1) := by
      by_cases q : w 131 x = 0
      · rw [if_pos q, if_neg (fun (z : w 131 x ≠ 0) => z q)]
      · rw [if_neg q, if_pos q]
    rw [e2]
  obtain ⟨a1, a2, a3, a4⟩ := id hA
  have ev : ∀ c l res, rng c → emM tx gv c ≠ 0 → GM tx gv nb c (mvOf w) [] = (l, res) → GM tx gv nb c (envB (emM tx gv) (kM w) (msk (w 119)) (msk (w 120))) [] = (l, res) := fun c l res hc hc0 hm => by
    rw [(gd_GM hL hnb c hc hc0).cong hA.okE okl_nil env]
    exact hm
  refine ⟨⟨fun c hc => ⟨msk_out hc, msk_out hc, msk_out hc, msk_out hc, if_neg hc⟩, fun c hc => ?_, fun c hc hc0 => ?_, fun c hc hc0 hck => ?_, fun c hc hc0 hck => ?_⟩, fun c hc => ?_⟩
  · have := a1 c hc
    rw [hk c hc, msk_in hc, msk_in hc]
    refine ⟨?_, this.2.2⟩
    split
    · exact Or.inr rfl
    · exact Or.inl rfl
  · obtain ⟨g1, g2, g3, g4, g5⟩ := a2 c hc hc0
    rw [hk c hc, msk_in hc, msk_in hc, msk_in hc, g5.isl hc, if_neg (by omega)]
    exact ⟨rfl, g2, g3, g4, rfl⟩
  · rw [hk c hc] at hck
    have hc1 : w 131 c = 1 := by
      rcases (a1 c hc).1 with q | q
      · rw [if_pos q] at hck; cases hck
      · exact q
    obtain ⟨l, res, b1, b2, b3, b4, b5, b6⟩ := a3 c hc hc0 hc1
    rw [msk_in hc, msk_in hc, msk_in hc, b5.isl hc]
    refine ⟨⟨res, ev c l res hc hc0 b1, b2, b3, b4⟩, ?_⟩
    rw [b6]
    exact (hgt_cong (fun x hx => msk_in (b5.2.2.2 x hx))).symm
  · rw [hk c hc] at hck
    have hc1 : w 131 c = 0 := by
      by_cases q : w 131 c = 0
      · exact q
      · rw [if_neg q] at hck; cases hck
    obtain ⟨l, b, b1, b2, b3⟩ := hB c hc hc.2 hc1
    rw [msk_in hc, msk_in hc, msk_in hc, b3.isl hc]
    exact ⟨⟨b, b2, ev c l _ hc hc0 b1⟩, a4 c hc hc1⟩
  · by_cases he : emM tx gv c = 0
    · obtain ⟨g1, g2, g3, g4, g5⟩ := a2 c hc he
      rw [g5.isl hc]
      exact g5
    · rcases (a1 c hc).1 with q | q
      · obtain ⟨l, b, b1, b2, b3⟩ := hB c hc hc.2 q
        rw [b3.isl hc]
        exact b3
      · obtain ⟨l, res, b1, b2, b3, b4, b5, b6⟩ := a3 c hc he q
        rw [b5.isl hc]
        exact b5
end BHS
