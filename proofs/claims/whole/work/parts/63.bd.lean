section BDS
variable {st tg : Int} {tx : Int → List Int} {w w0 w1 : Wd} {d : Nat} {K : Int → Wd → Prop} {KV : Wd → Prop} {N v3 : Int}
theorem s_opened {b : Int} (hd : 1 ≤ d) (hb : rng b) (h0 : 0 ≤ v3) (h : v3 < 72) (k : K (v3 + 1) (wset (wset w 112 b 2) 108 v3 b)) : C_X0_opened d [.inr (.inr 107), .inl v3, .inl b] w K := by
  refine ⟨0, hd, e_X0_opened ⟨fun _ => ⟨hb, ?_⟩, fun z => absurd h z⟩⟩
  rintro w1 rfl
  refine ⟨⟨h0, h⟩, ?_⟩
  rintro w2 rfl
  exact ⟨by omega, k⟩
theorem s_learn {V E : Int} {l : List Int} (hd : 4 ≤ d) (hs : am_St st) (ht : rng tg) (hE : w 109 6 = E) (hrl : RdL w (st + 11) (st + 12) tg l) (hh : ∀ x, rng x → 0 ≤ w (st + 9) x ∧ w (st + 9) x ≤ 1000) (k : KV (lrn st tg V E (hgt (w (st + 9)) l) w)) : C_X0_learn d [.inr (.inr 107), .inr (.inr st), .inl tg, .inl V] w KV := by
  have hr := am_St_rng hs
  refine ⟨3, hd, e_X0_learn hs ⟨ht, ?_⟩⟩
  rintro w1 rfl
  refine ⟨ht, ?_⟩
  rw [show wset w (st + 7) tg V 109 6 = E by rw [wset_at (by omega)]; exact hE]
  rintro w2 rfl
  generalize hw2 : wset (wset w (st + 7) tg V) (st + 8) tg E = w2
  have c0 : ∀ a i, a ≠ st + 7 → a ≠ st + 8 → w2 a i = w a i := fun a i q1 q2 => by rw [← hw2, wset_at (fun q => q2 q.1), wset_at (fun q => q1 q.1)]
  have e9f : w2 (st + 9) = w (st + 9) := funext (fun i => c0 _ i (by omega) (by omega))
  have hrl2 : RdL w2 (st + 11) (st + 12) tg l := hrl.cong (c0 _ _ (by omega) (by omega)) (fun i _ _ => c0 _ i (by omega) (by omega))
  have hlen := hrl.len
  have loop : ∀ (k' : Nat) (v5 : Nat) (v4 : Int), v5 + k' = l.length → 0 ≤ v4 → v4 ≤ 2000 → hgt (w (st + 9)) l = (l.drop v5).foldl (fun a x => max a (w (st + 9) x + 1)) v4 → W_X0_learn 3 26 [some (.inr (.inr 107)), some (.inr (.inr st)), some (.inl tg), some (.inl V), some (.inl v4), some (.inl (v5 : Int))] [] w2 KV := by
    intro k'
    induction k' with
    | zero =>
      intro v5 v4 hk h4 h4b hfold
      rw [List.drop_of_length_le (by omega)] at hfold
      have hfold2 : hgt (w (st + 9)) l = v4 := hfold
      refine v_X0_learn_26 hs (by decide) ⟨ht, fun _ => ⟨ht, ?_⟩, fun z => by rw [hrl2.1] at z; omega⟩
      rintro w3 rfl
      refine ⟨ht, ?_⟩
      rintro w4 rfl
      unfold lrn at k
      rw [hw2, hfold2] at k
      exact k
    | succ k' ih =>
      intro v5 v4 hk h4 h4b hfold
      have hg : l.drop v5 = l.getD v5 0 :: l.drop (v5 + 1) := by
        rw [List.getD_eq_getElem?_getD, List.getElem?_eq_getElem (by omega), Option.getD_some]
        exact List.drop_eq_getElem_cons (by omega)
      rw [hg] at hfold
      simp only [List.foldl_cons] at hfold
      have hmem : rng (l.getD v5 0) := hrl.2.2.2 _ (by
        rw [List.getD_eq_getElem?_getD, List.getElem?_eq_getElem (by omega), Option.getD_some]
        exact List.getElem_mem _)
      have hhx := hh _ hmem
      have hw := hrl2.2.1 v5 (by omega)
      refine v_X0_learn_26 hs (by decide) ⟨ht, fun z => by rw [hrl2.1] at z; omega, fun _ => ⟨2, by decide, e_X5_readOf hs ?_⟩⟩
      unfold rng at ht
      refine ⟨by omega, by omega, by omega, ?_⟩
      rw [hw, e9f]
      refine ⟨hmem, by omega, by omega, ?_⟩
      have := ih (v5 + 1) (max v4 (w (st + 9) (l.getD v5 0) + 1)) (by omega) (by omega) (by omega) hfold
      rw [show ((v5 + 1 : Nat) : Int) = (v5 : Int) + 1 by omega] at this
      exact this
  exact loop l.length 0 0 (by omega) (by decide) (by decide) rfl
theorem s_mark (hd : 1 ≤ d) (hs : am_St st) (hv : 0 ≤ v3 ∧ v3 ≤ 72) (hst : ∀ i, 0 ≤ i → i < v3 → rng (w 108 i)) (k : ∀ wm, (∀ a i, a ≠ st + 10 → wm a i = w a i) → (∀ i, 0 ≤ i → i < v3 → wm (st + 10) (w 108 i) = 1) → (∀ c, (∀ i, 0 ≤ i → i < v3 → w 108 i ≠ c) → wm (st + 10) c = w (st + 10) c) → KV wm) : C_X0_markCycle d [.inr (.inr 107), .inr (.inr st), .inl v3] w KV := by
  have hr := am_St_rng hs
  have loop : ∀ (n : Nat) (j : Int) (wm : Wd), j + n = v3 → 0 ≤ j → (∀ a i, a ≠ st + 10 → wm a i = w a i) → (∀ i, 0 ≤ i → i < j → wm (st + 10) (w 108 i) = 1) → (∀ c, (∀ i, 0 ≤ i → i < j → w 108 i ≠ c) → wm (st + 10) c = w (st + 10) c) → W_X0_markCycle 0 2 [some (.inr (.inr 107)), some (.inr (.inr st)), some (.inl v3), some (.inl j)] [] wm KV := by
    intro n
    induction n with
    | zero =>
      intro j wm hj h0 h1 h2 h3
      have : j = v3 := by omega
      subst this
      exact v_X0_markCycle_2 hs ⟨fun _ => k wm h1 h2 h3, fun z => by omega⟩
    | succ n ih =>
      intro j wm hj h0 h1 h2 h3
      have e : wm 108 j = w 108 j := h1 108 j (by omega)
      refine v_X0_markCycle_2 hs ⟨fun z => by omega, fun _ => ⟨by omega, ?_, ?_⟩⟩
      · rw [e]; exact hst j h0 (by omega)
      · rw [e]
        rintro w1 rfl
        refine ⟨by omega, ih (j + 1) _ (by omega) (by omega) (fun a i ha => by rw [wset_at (fun q => ha q.1)]; exact h1 a i ha) (fun i i0 i1 => ?_) (fun c hc => ?_)⟩
        · by_cases q : w 108 i = w 108 j
          · rw [q, wset_eq]
          · rw [wset_at (fun z => q z.2)]
            exact h2 i i0 (Classical.byContradiction (fun z => q (by rw [show i = j by omega])))
        · rw [wset_at (fun z => hc j h0 (by omega) z.2.symm)]
          exact h3 c (fun i i0 i1 => hc i i0 (by omega))
  exact ⟨0, hd, e_X0_markCycle hs (loop v3.toNat 0 w (by omega) (by decide) (fun _ _ _ => rfl) (fun i i0 i1 => by omega) (fun _ _ => rfl))⟩
theorem DA.ne (hA : DA st tx w) {c : Int} (hc : rng c) (h : w 112 c ≠ 0) : tx c ≠ [] := fun z => h (hA.2.1 c hc z).1
/-- until no cell stands open -/
theorem s_wo40 (hs : am_St st) (hL : CL w0 st tx) (hN2 : N < 2147483000) {v2 : Int} (hv2 : 0 ≤ v2 ∧ v2 < 72) (M : Nat) : ∀ (v3 v4 : Int) (w : Wd), FrW st w0 w → DA st tx w → DS st tx v3 w → DN N v3 w → DH st v3 w → 2 * un1 w + v3 ≤ M → 0 ≤ v4 → v4 + M ≤ 300 → (∀ w', FrW st w0 w' → DA st tx w' → DS st tx 0 w' → DN N 0 w' → DH st 0 w' → (∀ c, w' 112 c = 1 → w 112 c = 1) → W_X0_workOut 500 7 [some (.inr (.inr 107)), some (.inr (.inr st)), some (.inl (v2 + 1)), none, none, none, none] [] w' KV) → W_X0_workOut 500 40 [some (.inr (.inr 107)), some (.inr (.inr st)), some (.inl v2), some (.inl v3), some (.inl v4), none, none] [] w KV := by
  have hr := am_St_rng hs
  induction M with
  | zero =>
    intro v3 v4 w hF hA hS hN hH hM h4 h4b k
    have hu := un1_pos (w := w)
    have hv := hN.2.2.1
    have e : v3 = 0 := by omega
    subst e
    refine v_X0_workOut_40 hs ⟨fun z => by omega, fun _ => ⟨fun _ => ⟨by omega, k w hF hA hS hN hH (fun _ h => h)⟩, fun z => by omega⟩⟩
  | succ M ih =>
    intro v3 v4 w hF hA hS hN hH hM h4 h4b k
    have hu := un1_pos (w := w)
    have hv := hN.2.2.1
    refine v_X0_workOut_40 hs ⟨fun z => by omega, fun _ => ⟨fun q => ?_, fun q => ?_⟩⟩
    · have e : v3 = 0 := by omega
      subst e
      exact ⟨by omega, k w hF hA hS hN hH (fun _ h => h)⟩
    · have hn4 := hN.2.2.2
      have hn1 := hN.1
      refine ⟨by omega, by omega, ?_⟩
      obtain ⟨t1, t2, t3, t4⟩ := hS.2.1 (v3 - 1) (by omega) (by omega)
      have hL2 := hL.fr hs hF
      have hne : tx (w 108 (v3 - 1)) ≠ [] := hA.ne t1 (by omega)
      refine s_eval (by decide) hs t1 hL2 hne hA.okE ⟨hn1.1, by omega⟩ hN.2.1 (fun l res w1 hm hev => ?_)
      have hlt : ∀ i, 0 ≤ i → i + 1 < v3 → w 108 i ≠ w 108 (v3 - 1) := fun i i0 i1 => t4 i i0 (by omega)
      obtain ⟨hA1, hS1, hN1, hrl1⟩ := di_ev hs t1 t2 t3 hlt hA hS hN hev
      have hout := hA.out hL2 t1 hne hm
      have hF1 := hF.trans (hev.frw hs)
      have hL1 := hL.fr hs hF1
      have henv := hev.env hs
      have e108 : w1 108 (v3 - 1) = w 108 (v3 - 1) := hev.1 108 _ (by decide) (by decide) (by decide) (by omega) (by omega)
      have e112 : ∀ c, w1 112 c = w 112 c := fun c => hev.1 112 c (by decide) (by decide) (by decide) (by omega) (by omega)
      have e9f : w1 (st + 9) = w (st + 9) := funext (fun c => hev.1 _ c (by omega) (by omega) (by omega) (by omega) (by omega))
      have hun1 : un1 w1 = un1 w := un1_cong (fun c _ _ => e112 c)
      have hH1 : DH st v3 w1 := by
        unfold DH
        rw [e9f, hun1]
        exact fun c hc => by rw [e112]; exact hH c hc
      rw [← henv] at hm
      rw [hev.2.2.1.2.2]
      rw [e112] at *
      refine ⟨fun q1 => ?_, fun q1 => ?_⟩
      · obtain ⟨o1, o2, o3⟩ := hout.2.2.2 q1
        rw [o3] at hm
        refine ⟨o1, fun q2 => ?_, fun q2 => ?_⟩
        · have hb2 : w1 112 (blk res) = 2 := by
            rw [e112]
            rcases (hA.1 _ o1).1 with z | z | z
            · exact absurd z o2
            · exact absurd z q2
            · exact z
          refine s_mark (by decide) hs ⟨by omega, by omega⟩ (fun i i0 i1 => (hS1.2.1 i i0 i1).1) (fun wm g1 g2 g3 => ?_)
          obtain ⟨hA2, hS2, hN2', hH2, hu2⟩ := di_mark hs (by omega) (by rw [e108]; exact hm) o1 hb2 (by rw [e108]; exact hrl1) hA1 hS1 hN1 hH1 g1 g2 g3
          have hF2 : FrW st w0 wm := hF1.trans (fun a i q1 q2 q3 q4 q5 q6 => g1 a i (by omega))
          refine ⟨by omega, ih 0 (v4 + 1) wm hF2 hA2 hS2 hN2' hH2 (by omega) (by omega) (by omega) (fun w' p1 p2 p3 p4 p5 p6 => k w' p1 p2 p3 p4 p5 (fun c hc => ?_))⟩
          have := p6 c hc
          rw [g1 112 c (by omega), e112] at this
          exact this
        · obtain ⟨p1, hA2, hS2, hN2'⟩ := di_open hs o1 (by rw [e112]; exact q2) hA1 hS1 hN1 (fun _ => ⟨l, by rw [e108]; exact hm, by rw [e108]; exact hrl1⟩)
          have hu2 : un1 (wset (wset w1 112 (blk res) 2) 108 v3 (blk res)) = un1 w - 1 := by
            have e : un1 (wset (wset w1 112 (blk res) 2) 108 v3 (blk res)) = un1 (wset w1 112 (blk res) 2) := un1_cong (fun c _ _ => by rw [wset_at (by omega)])
            rw [e, un1_upd o1, e112, if_pos q2, if_neg (by decide), hun1]
            omega
          have hH2 : DH st (v3 + 1) (wset (wset w1 112 (blk res) 2) 108 v3 (blk res)) := by
            intro c hc
            rw [hu2]
            have := hH1 c hc
            rw [wset_at (by omega), wset_at (by omega)]
            refine ⟨this.1, fun z => ?_⟩
            have hcb : c ≠ blk res := fun y => by
              rw [wset_at (by omega), y, wset_eq] at z
              cases z
            rw [wset_at (by omega), wset_at (fun y => hcb y.2)] at z
            have := this.2 z
            omega
          have hF2 : FrW st w0 (wset (wset w1 112 (blk res) 2) 108 v3 (blk res)) := hF1.trans (fun a i q1 q2 q3 q4 q5 q6 => by rw [wset_at (fun y => q1 y.1), wset_at (fun y => q3 y.1)])
          refine s_opened (by decide) o1 (by omega) p1 ⟨by omega, ih (v3 + 1) (v4 + 1) _ hF2 hA2 hS2 hN2' hH2 (by omega) (by omega) (by omega) (fun w' p1 p2 p3 p4 p5 p6 => k w' p1 p2 p3 p4 p5 (fun c hc => ?_))⟩
          have := p6 c hc
          by_cases y : c = blk res
          · rw [wset_at (by omega), y, wset_eq] at this
            cases this
          · rw [wset_at (by omega), wset_at (fun z => y z.2), e112] at this
            exact this
      · obtain ⟨hA2, hS2, hN2', hH2, hu2⟩ := di_learn hs hL1 (by omega) e108.symm hne hm q1 hrl1 hA1 hS1 hN1 hH1
        have hF2 : FrW st w0 (lrn st (w 108 (v3 - 1)) (outV res) (outE res) (hgt (w1 (st + 9)) l) w1) := hF1.trans (fun a i q1 q2 q3 q4 q5 q6 => by
          unfold lrn
          rw [wset_at (fun y => q3 y.1), wset_at (fun y => by omega), wset_at (fun y => by omega), wset_at (fun y => by omega)])
        refine s_learn (by decide) hs t1 hev.2.2.1.2.1 hrl1 (fun x hx => ?_) ⟨by omega, by omega, ?_⟩
        · have := hH1 x hx
          refine ⟨this.1, ?_⟩
          by_cases z : w1 112 x = 0
          · have := this.2 z
            omega
          · have := (hA1.2.2.2.1 x hx z).2.2
            omega
        · rw [show v3 + -1 = v3 - 1 by omega]
          refine ih (v3 - 1) (v4 + 1) _ hF2 hA2 hS2 hN2' hH2 (by omega) (by omega) (by omega) (fun w' p1 p2 p3 p4 p5 p6 => k w' p1 p2 p3 p4 p5 (fun c hc => ?_))
          have := p6 c hc
          unfold lrn at this
          by_cases y : c = w 108 (v3 - 1)
          · rw [y, wset_eq] at this
            cases this
          · rw [wset_at (fun z => y z.2), wset_at (by omega), wset_at (by omega), wset_at (by omega), e112] at this
            exact this
end BDS
