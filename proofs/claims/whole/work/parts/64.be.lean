section BES
variable {st tg : Int} {tx : Int → List Int} {w w0 w1 : Wd} {d : Nat} {K : Int → Wd → Prop} {KV : Wd → Prop} {N v3 : Int}
theorem s_forget (hd : 3 ≤ d) (hs : am_St st) (hL : CL w st tx) (k : ∀ w', FrW st w w' → (∀ c, rng c → w' (st + 7) c = 0 ∧ w' (st + 8) c = 0 ∧ w' (st + 9) c = 0 ∧ w' (st + 10) c = 0 ∧ w' (st + 11) c = 0 ∧ w' 112 c = emT tx c) → (∀ i, w' 109 i = w 109 i) → (∀ i, w' 113 i = w 113 i) → KV w') : C_X0_forget d [.inr (.inr 107), .inr (.inr st)] w KV := by
  have hr := am_St_rng hs
  have loop : ∀ (n : Nat) (v : Int) (w' : Wd), v + n = 72 → 0 ≤ v → FrW st w w' → (∀ c, 0 ≤ c → c < v → w' (st + 7) c = 0 ∧ w' (st + 8) c = 0 ∧ w' (st + 9) c = 0 ∧ w' (st + 10) c = 0 ∧ w' (st + 11) c = 0 ∧ w' 112 c = emT tx c) → (∀ i, w' 109 i = w 109 i) → (∀ i, w' 113 i = w 113 i) → W_X0_forget 2 2 [some (.inr (.inr 107)), some (.inr (.inr st)), some (.inl v)] [] w' KV := by
    intro n
    induction n with
    | zero =>
      intro v w' hv h0 hF h h9 h13
      exact v_X0_forget_2 hs ⟨fun _ => k w' hF (fun c hc => h c hc.1 (by have := hc.2; omega)) h9 h13, fun z => by omega⟩
    | succ n ih =>
      intro v w' hv h0 hF h h9 h13
      have hrv : 0 ≤ v ∧ v < 72 := by omega
      refine v_X0_forget_2 hs ⟨fun z => by omega, fun _ => ⟨hrv, ?_⟩⟩
      rintro w1 rfl
      refine ⟨hrv, ?_⟩
      rintro w2 rfl
      refine ⟨hrv, ?_⟩
      rintro w3 rfl
      refine ⟨hrv, ?_⟩
      rintro w4 rfl
      refine ⟨hrv, ?_⟩
      rintro w5 rfl
      have e3 : wset (wset (wset (wset (wset w' (st + 7) v 0) (st + 8) v 0) (st + 9) v 0) (st + 10) v 0) (st + 11) v 0 (st + 1 + 2) v = (tx v).length := by
        rw [wset_at (by omega), wset_at (by omega), wset_at (by omega), wset_at (by omega), wset_at (by omega), show st + 1 + 2 = st + 3 by omega]
        exact ((hL.fr hs hF) v hrv).2.1
      have step : ∀ x, x = emT tx v → (0 ≤ v ∧ v < 72) ∧ (∀ w7, w7 = wset (wset (wset (wset (wset (wset w' (st + 7) v 0) (st + 8) v 0) (st + 9) v 0) (st + 10) v 0) (st + 11) v 0) 112 v x → (-2147483648 ≤ (v + 1) ∧ (v + 1) ≤ 2147483647) ∧ W_X0_forget 2 2 [some (.inr (.inr 107)), some (.inr (.inr st)), some (.inl (v + 1))] [] w7 KV) := by
        intro x hx
        refine ⟨hrv, ?_⟩
        rintro w7 rfl
        refine ⟨by omega, ih (v + 1) _ (by omega) (by omega) (fun a i q1 q2 q3 q4 q5 q6 => ?_) (fun c c0 c1 => ?_) (fun i => ?_) (fun i => ?_)⟩
        · rw [wset_at (fun y => q3 y.1), wset_at (by omega), wset_at (by omega), wset_at (by omega), wset_at (by omega), wset_at (by omega)]
          exact hF a i q1 q2 q3 q4 q5 q6
        · by_cases q : c = v
          · subst q
            rw [wset_eq, hx]
            refine ⟨?_, ?_, ?_, ?_, ?_, rfl⟩
            · rw [wset_at (by omega), wset_at (by omega), wset_at (by omega), wset_at (by omega), wset_at (by omega), wset_eq]
            · rw [wset_at (by omega), wset_at (by omega), wset_at (by omega), wset_at (by omega), wset_eq]
            · rw [wset_at (by omega), wset_at (by omega), wset_at (by omega), wset_eq]
            · rw [wset_at (by omega), wset_at (by omega), wset_eq]
            · rw [wset_at (by omega), wset_eq]
          · have := h c c0 (by omega)
            have gen : ∀ a, wset (wset (wset (wset (wset (wset w' (st + 7) v 0) (st + 8) v 0) (st + 9) v 0) (st + 10) v 0) (st + 11) v 0) 112 v x a c = w' a c := fun a => by
              rw [wset_at (fun y => q y.2), wset_at (fun y => q y.2), wset_at (fun y => q y.2), wset_at (fun y => q y.2), wset_at (fun y => q y.2), wset_at (fun y => q y.2)]
            rw [gen, gen, gen, gen, gen, gen]
            exact this
        · rw [wset_at (by omega), wset_at (by omega), wset_at (by omega), wset_at (by omega), wset_at (by omega), wset_at (by omega)]
          exact h9 i
        · rw [wset_at (by omega), wset_at (by omega), wset_at (by omega), wset_at (by omega), wset_at (by omega), wset_at (by omega)]
          exact h13 i
      refine ⟨1, by decide, e_X5_isEmpty hs ⟨hrv, ?_⟩⟩
      rw [e3]
      unfold emT at step
      refine ⟨fun z => am_b0 (step 1 (by rw [if_neg (fun y => z (by rw [y]; rfl))])), fun z => am_b1 (step 0 (by rw [if_pos (List.eq_nil_of_length_eq_zero (by omega))]))⟩
  exact ⟨2, hd, e_X0_forget hs (loop 72 0 w (by decide) (by decide) FrW.refl (fun c c0 c1 => by omega) (fun _ => rfl) (fun _ => rfl))⟩
theorem s_workOut (hd : 501 ≤ d) (hs : am_St st) (hL : CL w st tx) (hN : 0 ≤ w 109 3 ∧ w 109 3 < 2147480000) (hrb : ∀ c, 0 ≤ c → c < 72 → w 113 c ≤ w 109 3) (k : ∀ w', FrW st w w' → DA st tx w' → DS st tx 0 w' → DN (w 109 3 + 144) 0 w' → DH st 0 w' → (∀ c, rng c → w' 112 c ≠ 1) → KV w') : C_X0_workOut d [.inr (.inr 107), .inr (.inr st)] w KV := by
  have hr := am_St_rng hs
  refine ⟨500, hd, e_X0_workOut hs (s_forget (by decide) hs hL (fun w1 hF1 h1 h9 h13 => ?_))⟩
  have loop : ∀ (n : Nat) (v : Int) (w' : Wd), v + n = 72 → 0 ≤ v → FrW st w w' → DA st tx w' → DS st tx 0 w' → DN (w 109 3 + 144) 0 w' → DH st 0 w' → (∀ c, 0 ≤ c → c < v → w' 112 c ≠ 1) → W_X0_workOut 500 7 [some (.inr (.inr 107)), some (.inr (.inr st)), some (.inl v), none, none, none, none] [] w' KV := by
    intro n
    induction n with
    | zero =>
      intro v w' hv h0 hF hA hS hN' hH hm
      exact v_X0_workOut_7 hs ⟨fun _ => k w' hF hA hS hN' hH (fun c hc => hm c hc.1 (by have := hc.2; omega)), fun z => by omega⟩
    | succ n ih =>
      intro v w' hv h0 hF hA hS hN' hH hm
      have hrv : 0 ≤ v ∧ v < 72 := by omega
      have hu := un1_le (w := w')
      refine v_X0_workOut_7 hs ⟨fun z => by omega, fun _ => ⟨hrv, fun q => ?_, fun q => ?_⟩⟩
      · refine s_wo40 hs hL (N := w 109 3 + 144) (by omega) hrv 144 0 0 w' hF hA hS hN' hH (by omega) (by decide) (by decide) (fun w2 p1 p2 p3 p4 p5 p6 => ih (v + 1) w2 (by omega) (by omega) p1 p2 p3 p4 p5 (fun c c0 c1 z => ?_))
        have := p6 c z
        by_cases y : c = v
        · exact q (by rw [← y]; exact this)
        · exact hm c c0 (by omega) this
      · have hN'' : DN (w 109 3 + 144 + 1) 0 w' := ⟨⟨hN'.1.1, by have := hN'.1.2; omega⟩, hN'.2⟩
        obtain ⟨p1, hA2, hS2, hN2⟩ := di_open hs hrv q hA hS hN'' (fun z => by omega)
        have hu2 : un1 (wset (wset w' 112 v 2) 108 0 v) = un1 w' - 1 := by
          have e : un1 (wset (wset w' 112 v 2) 108 0 v) = un1 (wset w' 112 v 2) := un1_cong (fun c _ _ => by rw [wset_at (by omega)])
          rw [e, un1_upd hrv, if_pos q, if_neg (by decide)]
          omega
        have hm2 : ∀ c, wset (wset w' 112 v 2) 108 0 v 112 c = if c = v then 2 else w' 112 c := fun c => by
          rw [wset_at (by omega)]
          by_cases y : c = v
          · rw [if_pos y, y, wset_eq]
          · rw [if_neg y, wset_at (fun z => y z.2)]
        have hH2 : DH st (0 + 1) (wset (wset w' 112 v 2) 108 0 v) := by
          intro c hc
          rw [hu2, hm2, wset_at (by omega), wset_at (by omega)]
          have := hH c hc
          refine ⟨this.1, fun z => ?_⟩
          by_cases y : c = v
          · rw [if_pos y] at z; cases z
          · rw [if_neg y] at z
            have := this.2 z
            omega
        refine s_opened (by decide) hrv (by decide) (by decide) ?_
        refine s_wo40 hs hL (N := w 109 3 + 144) (by omega) hrv 145 (0 + 1) 0 _ (hF.trans (fun a i q1 q2 q3 q4 q5 q6 => by rw [wset_at (fun y => q1 y.1), wset_at (fun y => q3 y.1)])) hA2 hS2 hN2 hH2 (by omega) (by decide) (by decide) (fun w2 p1 p2 p3 p4 p5 p6 => ih (v + 1) w2 (by omega) (by omega) p1 p2 p3 p4 p5 (fun c c0 c1 z => ?_))
        have := p6 c z
        rw [hm2] at this
        by_cases y : c = v
        · rw [if_pos y] at this; cases this
        · rw [if_neg y] at this
          exact hm c c0 (by omega) this
  have hu : un1 w1 ≤ 72 := un1_le
  have hmk : ∀ c, rng c → w1 112 c = emT tx c := fun c hc => (h1 c hc).2.2.2.2.2
  have h01 : ∀ c, emT tx c = 0 ∨ emT tx c = 1 := fun c => by unfold emT; split; exact Or.inl rfl; exact Or.inr rfl
  refine loop 72 0 w1 (by decide) (by decide) hF1 ⟨fun c hc => ?_, fun c hc hc0 => ?_, fun c hc hc0 hc1 => ?_, fun c hc _ => ?_, fun c hc hc1 => ?_⟩ ⟨fun c hc hc2 _ => ?_, fun i i0 i1 => by omega, fun i i0 i1 => by omega⟩ ?_ (fun c hc => ?_) (fun c c0 c1 => by omega)
  · obtain ⟨g1, g2, g3, g4, g5, g6⟩ := h1 c hc
    rw [g6, g1, g2, g4]
    have := h01 c
    exact ⟨by omega, Or.inl rfl, ⟨by decide, by decide⟩, by decide, by decide⟩
  · obtain ⟨g1, g2, g3, g4, g5, g6⟩ := h1 c hc
    refine ⟨by rw [g6]; unfold emT; rw [if_pos hc0], g1, g2, g3, g4, g5, fun j hj => absurd hj (Nat.not_lt_zero j), okl_nil⟩
  · rw [hmk c hc] at hc1
    unfold emT at hc1
    rw [if_neg hc0] at hc1
    cases hc1
  · obtain ⟨g1, g2, g3, g4, g5, g6⟩ := h1 c hc
    exact ⟨g1, g2, g3⟩
  · rw [(h1 c hc).2.2.2.1] at hc1
    cases hc1
  · rw [hmk c hc] at hc2
    have := h01 c
    omega
  · unfold DN
    rw [h9]
    exact ⟨⟨hN.1, by omega⟩, fun c c0 c1 => by rw [h13]; exact hrb c c0 c1, by decide, by omega⟩
  · rw [(h1 c hc).2.2.1]
    refine ⟨by decide, fun z => ?_⟩
    have := un1_71 (w := w1) hc (by omega)
    omega
/-! what comes out is the base -/
def msk (f : Int → Int) : Int → Int := fun c => if 0 ≤ c ∧ c < 72 then f c else 0
def lst (w : Wd) (A B c : Int) : List Int := if 0 ≤ c ∧ c < 72 then (List.range (w A c).toNat).map (fun (j : Nat) => w B (c * 72 + (j : Int))) else []
theorem msk_in {f : Int → Int} {c : Int} (h : rng c) : msk f c = f c := if_pos h
theorem msk_out {f : Int → Int} {c : Int} (h : ¬ rng c) : msk f c = 0 := if_neg h
theorem RdL.isl {A B c : Int} {l : List Int} (h : RdL w A B c l) (hc : rng c) : lst w A B c = l := by
  unfold lst
  rw [if_pos (show 0 ≤ c ∧ c < 72 from hc)]
  refine List.ext_getElem ?_ (fun i h1 h2 => ?_)
  · rw [List.length_map, List.length_range, h.1]
    omega
  · rw [List.getElem_map, List.getElem_range, h.2.1 i h2, List.getD_eq_getElem?_getD, List.getElem?_eq_getElem h2, Option.getD_some]
def kOf (w : Wd) : Int → Int := msk (fun c => if w 112 c = 0 then 0 else 1)
theorem base_of (hs : am_St st) (hL : CL w st tx) (hA : DA st tx w) (hS : DS st tx 0 w) (h1 : ∀ c, rng c → w 112 c ≠ 1) : Base (emT tx) (fun c => Fm (tx c)) (kOf w) (msk (w (st + 7))) (msk (w (st + 8))) (msk (w (st + 9))) (lst w (st + 11) (st + 12)) ∧ (∀ c, rng c → w (st + 10) c = kOf w c ∧ RdL w (st + 11) (st + 12) c (lst w (st + 11) (st + 12) c)) := by
  have hk : ∀ c, rng c → kOf w c = if w 112 c = 0 then 0 else 1 := fun c hc => msk_in hc
  have env : ∀ x, rng x → envB (emT tx) (kOf w) (msk (w (st + 7))) (msk (w (st + 8))) x = evOf w st x := fun x hx => by
    have := ev_len hL hx
    unfold envB
    rw [hk x hx, msk_in hx, msk_in hx, ← this]
    rfl
  obtain ⟨a1, a2, a3, a4, a5⟩ := id hA
  have two : ∀ c, rng c → w 112 c ≠ 0 → w 112 c = 2 ∧ w (st + 10) c = 1 := fun c hc hc0 => by
    have h2 : w 112 c = 2 := by
      rcases (a1 c hc).1 with z | z | z
      · exact absurd z hc0
      · exact absurd z (h1 c hc)
      · exact z
    refine ⟨h2, ?_⟩
    rcases (a1 c hc).2.1 with z | z
    · obtain ⟨i, i0, i1, _⟩ := hS.1 c hc h2 z
      omega
    · exact z
  have ev : ∀ c l res, rng c → tx c ≠ [] → Fm (tx c) (evOf w st) [] = (l, res) → Fm (tx c) (envB (emT tx) (kOf w) (msk (w (st + 7))) (msk (w (st + 8)))) [] = (l, res) := fun c l res hc hc0 hm => by
    rw [(gd_Fm (hL c hc).1 hc0).cong hA.okE okl_nil env]
    exact hm
  refine ⟨⟨fun c hc => ⟨msk_out hc, msk_out hc, msk_out hc, msk_out hc, if_neg hc⟩, fun c hc => ?_, fun c hc hc0 => ?_, fun c hc hc0 hck => ?_, fun c hc hc0 hck => ?_⟩, fun c hc => ?_⟩
  · have := a1 c hc
    rw [hk c hc, msk_in hc, msk_in hc]
    refine ⟨?_, this.2.2⟩
    split
    · exact Or.inl rfl
    · exact Or.inr rfl
  · have he : tx c = [] := by
      unfold emT at hc0
      by_cases q : tx c = []
      · exact q
      · rw [if_neg q] at hc0; cases hc0
    obtain ⟨g1, g2, g3, g4, g5, g6⟩ := a2 c hc he
    rw [hk c hc, msk_in hc, msk_in hc, msk_in hc, g6.isl hc, if_pos g1]
    exact ⟨rfl, g2, g3, g4, rfl⟩
  · have he : tx c ≠ [] := fun q => hc0 (if_pos q)
    rw [hk c hc] at hck
    have hc1 : w 112 c = 0 := by
      by_cases q : w 112 c = 0
      · exact q
      · rw [if_neg q] at hck; cases hck
    obtain ⟨_, l, res, b1, b2, b3, b4, b5, b6⟩ := a3 c hc he hc1
    rw [msk_in hc, msk_in hc, msk_in hc, b5.isl hc]
    refine ⟨⟨res, ev c l res hc he b1, b2, b3, b4⟩, ?_⟩
    rw [b6]
    exact (hgt_cong (fun x hx => msk_in (b5.2.2.2 x hx))).symm
  · have he : tx c ≠ [] := fun q => hc0 (if_pos q)
    rw [hk c hc] at hck
    have hc1 : w 112 c ≠ 0 := fun q => by rw [if_pos q] at hck; cases hck
    obtain ⟨_, l, b, b1, b2, b3, b4⟩ := a5 c hc (two c hc hc1).2
    rw [msk_in hc, msk_in hc, msk_in hc, b2.isl hc]
    exact ⟨⟨b, b3, ev c l _ hc he b1⟩, a4 c hc hc1⟩
  · rw [hk c hc]
    by_cases he : tx c = []
    · obtain ⟨g1, g2, g3, g4, g5, g6⟩ := a2 c hc he
      rw [if_pos g1, g6.isl hc]
      exact ⟨g5, g6⟩
    · by_cases hc1 : w 112 c = 0
      · obtain ⟨b0, l, res, b1, b2, b3, b4, b5, b6⟩ := a3 c hc he hc1
        rw [if_pos hc1, b5.isl hc]
        exact ⟨b0, b5⟩
      · obtain ⟨_, l, b, b1, b2, b3, b4⟩ := a5 c hc (two c hc hc1).2
        rw [if_neg hc1, b2.isl hc]
        exact ⟨(two c hc hc1).2, b2⟩
end BES
