/-! the program brings a sheet up to date -/
def DOk (D : Dt) : Prop := (∀ c, rng c → (D.1 c = 0 ∨ D.1 c = 1) ∧ PV (D.2.2.2.1 c) ∧ (0 ≤ D.2.2.2.2.1 c ∧ D.2.2.2.2.1 c ≤ 4) ∧ (0 ≤ D.2.1 c ∧ D.2.1 c ≤ 71) ∧ OkL (D.2.2.2.2.2.1 c)) ∧ (D.2.2.2.2.2.2 = 0 ∨ D.2.2.2.2.2.2 = 1)
def CD (w : Wd) (st : Int) (D : Dt) : Prop := (∀ c, rng c → w (st + 7) c = D.2.2.2.1 c ∧ w (st + 8) c = D.2.2.2.2.1 c ∧ w (st + 9) c = D.2.1 c ∧ w (st + 10) c = D.1 c ∧ RdL w (st + 11) (st + 12) c (D.2.2.2.2.2.1 c)) ∧ w st 12 = D.2.2.1 ∧ w st 13 = D.2.2.2.2.2.2
def StD (tx : Int → List Int) (r : Int) (D : Dt) : Prop := SetD (emT tx) (fun c => Fm (tx c)) r D.1 D.2.1 D.2.2.1 D.2.2.2
/-- what working out a state changes -/
def FrX (st : Int) (w w' : Wd) : Prop := ∀ a i, a ≠ 108 → a ≠ 110 → a ≠ 112 → a ≠ 113 → ¬ (a = 109 ∧ 3 ≤ i ∧ i ≤ 7) → ¬ (st + 7 ≤ a ∧ a ≤ st + 12) → ¬ (a = st ∧ (i = 12 ∨ i = 13)) → w' a i = w a i
section BRS
variable {w w0 w1 w' : Wd} {d : Nat} {K : Int → Wd → Prop} {KV : Wd → Prop} {s a st N : Int} {F F0 : Fs} {H : List Fs} {tx : Int → List Int}
theorem s_settle (hd : 501 ≤ d) (hs : am_St st) (hL : CL w st tx) (hr40 : 0 ≤ w st 11 ∧ w st 11 ≤ 40) (hN : GN N w) (hN2 : N < 2147460000)
    (k : ∀ w' D, StD tx (w st 11) D → DOk D → CD w' st D → FrX st w w' → GN (N + 3100) w' → KV w') : C_X0_workOut d [.inr (.inr 107), .inr (.inr st)] w (fun w1 => C_X0_goOver d [.inr (.inr 107), .inr (.inr st)] w1 KV) := by
  have hr := am_St_rng hs
  have hr' := hs
  unfold am_St at hr'
  have hN1 := hN.1
  refine s_workOut hd hs hL ⟨hN.1.1, by omega⟩ hN.2 (fun w1 hF1 hA hS hNN hH h1 => ?_)
  have hL1 := hL.fr hs hF1
  obtain ⟨hb, hk⟩ := base_of hs hL1 hA hS h1
  have er : w1 st 11 = w st 11 := hF1 st 11 (by omega) (by omega) (by omega) (by omega) (by omega) (by omega)
  have hkc : ∀ c, rng c → kOf w1 c = if w1 112 c = 0 then 0 else 1 := fun c hc => msk_in hc
  have hu := un1_pos (w := w1)
  refine s_goOver (N := N + 144) hd hs hL1 hb (by rw [er]; exact hr40) (fun c hc => ⟨(hk c hc).1, ?_, (msk_in hc).symm, (msk_in hc).symm, (hk c hc).2⟩) ⟨⟨hNN.1.1, by have := hNN.1.2; omega⟩, hNN.2.1⟩ (by omega) (fun w2 g s hfin h01 hF2 hG hGN h12 h13 => ?_)
  · rw [hkc c hc]
    rcases (hA.1 c hc).1 with z | z | z
    · rw [if_pos z, if_neg (by decide)]; exact z
    · exact absurd z (h1 c hc)
    · rw [z]; decide
  · have e9 : ∀ c, w2 (st + 9) c = w1 (st + 9) c := fun c => hF2 _ _ (by omega) (by omega) (by omega) (by omega) (by omega) (by omega) (by omega) (by omega) (by omega)
    have e10 : ∀ c, w2 (st + 10) c = w1 (st + 10) c := fun c => hF2 _ _ (by omega) (by omega) (by omega) (by omega) (by omega) (by omega) (by omega) (by omega) (by omega)
    rw [er] at hfin
    refine k w2 (kOf w1, msk (w1 (st + 9)), g, s) ⟨_, _, _, hb, hfin⟩ ⟨fun c hc => ?_, h01⟩ ⟨fun c hc => ⟨(hG c hc).1.1, (hG c hc).1.2.1, ?_, ?_, (hG c hc).2⟩, h12, h13⟩ (fun a i q1 q2 q3 q4 q5 q6 q7 => ?_) ⟨⟨hGN.1.1, by have := hGN.1.2; omega⟩, hGN.2⟩
    · obtain ⟨⟨_, _, _, g4, g5⟩, g6⟩ := hG c hc
      refine ⟨(hb.2.1 c hc).1, g4, g5, ?_, g6.2.2⟩
      show 0 ≤ msk (w1 (st + 9)) c ∧ msk (w1 (st + 9)) c ≤ 71
      rw [msk_in hc]
      have := hH c hc
      refine ⟨this.1, ?_⟩
      by_cases z : w1 112 c = 0
      · have := this.2 z
        omega
      · have := (hA.2.2.2.1 c hc z).2.2
        omega
    · rw [e9]; exact (msk_in hc).symm
    · rw [e10]; exact (hk c hc).1
    · rw [hF2 a i q2 q3 q4 q5 (by omega) (by omega) (by omega) (by omega) q7]
      exact hF1 a i q1 q2 q3 q4 q5 q6
def chgF (F0 : Fs) (tx : Int → List Int) (s : RSt) : Int → Int := fun c => if s.1 c = F0.2.2.2.2.1 c ∧ s.2.1 c = F0.2.2.2.2.2.1 c ∧ emT tx c = emT F0.1.1 c then 0 else 1
def ffR (chg : Int → Int) : List Int → Int
  | [] => -1
  | x :: l => if chg x = 1 then x else ffR chg l
def wtI (wt : Int → Option (List Int)) (c : Int) : Int := match wt c with
  | none => 0
  | some _ => 1
theorem wtI_01 (wt : Int → Option (List Int)) (c : Int) : wtI wt c = 0 ∨ wtI wt c = 1 := by
  unfold wtI
  rcases wt c with _ | L
  · exact Or.inl rfl
  · exact Or.inr rfl
def edF (b : Int) (wt : Int → Option (List Int)) : Int → Int := fun c => if b = 0 then 0 else wtI wt c
def cauF (ed chg : Int → Int) (R0 : Int → List Int) (k k0 : Int → Int) : Int → Int := fun c => if ed c ≠ 0 then c else if 0 ≤ ffR chg (R0 c) then ffR chg (R0 c) else if k c = 1 ∨ k0 c = 1 then c else -1
def cauB (F0 : Fs) (b : Int) (tx : Int → List Int) (D : Dt) : Int → Int := cauF (edF b F0.1.2.1) (chgF F0 tx D.2.2.2) F0.2.2.2.2.2.2.1 D.1 F0.2.1
def brF (F0 : Fs) (b : Int) (tx : Int → List Int) (wt : Int → Option (List Int)) (rs : Int) (D : Dt) : Fs :=
  ((tx, wt, rs, (fun c => F0.1.2.2.2.1 c + (if cauB F0 b tx D c = -1 then 0 else 1)), chgF F0 tx D.2.2.2, cauB F0 b tx D), D)
def ranN (cau : Int → Int) : Int := sm 72 (fun c => if cau c = -1 then 0 else 1)
theorem ffR_cons {chg : Int → Int} {x : Int} {l : List Int} : ffR chg (x :: l) = if chg x = 1 then x else ffR chg l := rfl
theorem ffR_rng {chg : Int → Int} {l : List Int} (h : ∀ x, x ∈ l → rng x) : ffR chg l = -1 ∨ rng (ffR chg l) := by
  induction l with
  | nil => exact Or.inl rfl
  | cons x l ih =>
    unfold ffR
    split
    · exact Or.inr (h x List.mem_cons_self)
    · exact ih (fun y hy => h y (List.mem_cons_of_mem _ hy))
theorem s_causeOf {c ed : Int} (hd : 3 ≤ d) (hs : am_St s) (ha : am_St a) (hc : rng c) {l : List Int} (hrl : RdL w (a + 11) (a + 12) c l) {chg : Int → Int} (hch : ∀ x, rng x → w (s + 14) x = chg x) {k k0 : Int → Int} (hk : w (s + 10) c = k c) (hk0 : w (a + 10) c = k0 c) (kk : K (if ed ≠ 0 then c else if 0 ≤ ffR chg l then ffR chg l else if k c = 1 ∨ k0 c = 1 then c else -1) w) : C_X5_causeOf d [.inr (.inr s), .inl c, .inr (.inr a), .inl ed] w K := by
  have hlen := hrl.len
  have hcr := hc
  unfold rng at hcr
  have loop : ∀ (n m : Nat), m + n = l.length → ed = 0 → ffR chg l = ffR chg (l.drop m) → W_X5_causeOf 2 9 [some (.inr (.inr s)), some (.inl c), some (.inr (.inr a)), some (.inl ed), some (.inl (m : Int)), none] [] w K := by
    intro n
    induction n with
    | zero =>
      intro m hm he hf
      rw [List.drop_of_length_le (by omega)] at hf
      have hf' : ffR chg l = -1 := hf
      rw [if_neg (by omega), hf', if_neg (by decide)] at kk
      refine v_X5_causeOf_9 hs ha ⟨hc, fun _ => ⟨hc, ?_⟩, fun z => by rw [hrl.1] at z; omega⟩
      rw [hk, hk0]
      refine ⟨fun z => ?_, fun z => ⟨hc, fun z2 => ?_, fun z2 => ?_⟩⟩
      · rw [if_pos (Or.inl z)] at kk; exact kk
      · rw [if_neg (fun y => y.elim z z2)] at kk; exact kk
      · rw [if_pos (Or.inr z2)] at kk; exact kk
    | succ n ih =>
      intro m hm he hf
      have hg : l.drop m = l.getD m 0 :: l.drop (m + 1) := by
        rw [List.getD_eq_getElem?_getD, List.getElem?_eq_getElem (by omega), Option.getD_some]
        exact List.drop_eq_getElem_cons (by omega)
      have hmem : rng (l.getD m 0) := hrl.2.2.2 _ (by
        rw [List.getD_eq_getElem?_getD, List.getElem?_eq_getElem (by omega), Option.getD_some]
        exact List.getElem_mem _)
      rw [hg, ffR_cons] at hf
      refine v_X5_causeOf_9 hs ha ⟨hc, fun z => by rw [hrl.1] at z; omega, fun _ => ⟨1, by decide, e_X5_readOf ha ⟨by omega, by omega, by omega, ?_⟩⟩⟩
      rw [hrl.2.1 m (by omega)]
      refine ⟨hmem, ?_⟩
      rw [hch _ hmem]
      refine ⟨fun z => ⟨by omega, ?_⟩, fun z => ?_⟩
      · rw [if_neg z] at hf
        have := ih (m + 1) (by omega) he hf
        rw [show ((m + 1 : Nat) : Int) = (m : Int) + 1 by omega] at this
        exact this
      · rw [if_pos z] at hf
        rw [if_neg (by omega), hf, if_pos hmem.1] at kk
        exact kk
  refine ⟨2, hd, e_X5_causeOf hs ha ⟨fun z => loop l.length 0 (by omega) z rfl, fun z => ?_⟩⟩
  rw [if_pos z] at kk
  exact kk
theorem s_waits {c : Int} {wt : Int → Option (List Int)} (hd : 1 ≤ d) (hs : am_St s) (hc : rng c) (hw : CWt w s wt) (k : K (wtI wt c) w) : C_X5_waits d [.inr (.inr s), .inl c] w K := by
  have h := hw c hc
  refine ⟨0, hd, e_X5_waits hs ⟨hc, ?_⟩⟩
  rw [show s + 4 + 2 = s + 6 by omega]
  unfold wtI at k
  rcases hq : wt c with _ | L
  · rw [hq] at k
    exact ⟨fun _ => k, fun z => absurd (h.1 hq) z⟩
  · rw [hq] at k
    obtain ⟨h1, h2, _⟩ := h.2 L hq
    exact ⟨fun z => by omega, fun _ => k⟩
theorem s_mark14 {F0 : Fs} {D : Dt} (hd : 3 ≤ d) (hs : am_St s) (ha : am_St a) (hsa : s + 15 < a ∨ a + 15 < s) (hF0 : CS w a F0) (hL : CL w s tx) (hD : CD w s D) (k : ∀ w', (∀ b i, b ≠ s + 14 → w' b i = w b i) → (∀ c, rng c → w' (s + 14) c = chgF F0 tx D.2.2.2 c) → KV w') : C_X5_markChanges d [.inr (.inr s), .inr (.inr a)] w KV := by
  have loop : ∀ (n : Nat) (c : Int) (w' : Wd), c + n = 72 → 0 ≤ c → (∀ b i, b ≠ s + 14 → w' b i = w b i) → (∀ x, 0 ≤ x → x < c → w' (s + 14) x = chgF F0 tx D.2.2.2 x) → W_X5_markChanges 2 2 [some (.inr (.inr s)), some (.inr (.inr a)), some (.inl c), none] [] w' KV := by
    intro n
    induction n with
    | zero =>
      intro c w' hc h0 ho hx
      exact v_X5_markChanges_2 hs ha ⟨fun _ => k w' ho (fun x hx2 => hx x hx2.1 (by have := hx2.2; omega)), fun z => by omega⟩
    | succ n ih =>
      intro c w' hc h0 ho hx
      have hrc : rng c := ⟨h0, by omega⟩
      have hl := (hL c hrc).2.1
      have hl0 := (hF0.1 c hrc).2.1
      have go : ∀ x : Int, x = chgF F0 tx D.2.2.2 c → (0 ≤ c ∧ c < 72) ∧ (∀ w1, w1 = wset w' (s + 14) c x → (-2147483648 ≤ (c + 1) ∧ (c + 1) ≤ 2147483647) ∧ W_X5_markChanges 2 2 [some (.inr (.inr s)), some (.inr (.inr a)), some (.inl (c + 1)), none] [] w1 KV) := by
        intro x hxx
        refine ⟨hrc, ?_⟩
        rintro w1 rfl
        refine ⟨by omega, ih (c + 1) _ (by omega) (by omega) (fun b i hb => by rw [wset_at (fun y => hb y.1)]; exact ho b i hb) (fun y y0 y1 => ?_)⟩
        by_cases q : y = c
        · rw [q, wset_eq]; exact hxx
        · rw [wset_at (fun z => q z.2)]
          exact hx y y0 (by omega)
      have d5 := hD.1 c hrc
      have f5 := hF0.2.2.2.2.1 c hrc
      refine v_X5_markChanges_2 hs ha ⟨fun z => by omega, fun _ => ⟨hrc, hrc, ?_⟩⟩
      rw [ho (s + 7) c (by omega), ho (a + 7) c (by omega), ho (s + 8) c (by omega), ho (a + 8) c (by omega), d5.1, d5.2.1, f5.1, f5.2.1]
      have em : ∀ {u : Wd → Int → List Int} {T : Int → List Int}, T c = T c := fun {_ _} => rfl
      unfold chgF at go
      refine ⟨fun z => go 1 (by rw [if_neg (fun y => z y.1)]), fun z => ⟨hrc, hrc, fun z2 => go 1 (by rw [if_neg (fun y => z2 y.2.1)]), fun z2 => ?_⟩⟩
      have iso : ∀ (b : Int) (T : Int → List Int) (K' : Int → Wd → Prop), am_St b → w (b + 3) c = (T c).length → b + 3 ≠ s + 14 → K' (1 - emT T c) w' → C_X5_isEmpty 2 [.inr (.inr b), .inl c] w' K' := fun b T K' hb hT hne kk => by
        refine ⟨1, by decide, e_X5_isEmpty hb ⟨hrc, ?_⟩⟩
        rw [show b + 1 + 2 = b + 3 by omega, ho (b + 3) c hne, hT]
        unfold emT at kk
        refine ⟨fun y => ?_, fun y => ?_⟩
        · rw [if_neg (fun q => y (by rw [q]; rfl))] at kk; exact kk
        · rw [if_pos (List.eq_nil_of_length_eq_zero (by omega))] at kk; exact kk
      refine iso s tx _ hs hl (by omega) (iso a F0.1.1 _ ha hl0 (by unfold am_St at hs ha; omega) ⟨fun y => go 1 ?_, fun y => go 0 ?_⟩)
      · rw [if_neg (fun q => y (by rw [q.2.2]))]
      · rw [if_pos ⟨z, z2, by omega⟩]
  exact ⟨2, hd, e_X5_markChanges hs ha (loop 72 0 w (by decide) (by decide) (fun _ _ _ => rfl) (fun x x0 x1 => by omega))⟩
theorem s_bring {b bs rs B : Int} {F0 : Fs} {wt : Int → Option (List Int)} (hd : 510 ≤ d) (hbs : am_Kt bs) (hb01 : b = 0 ∨ b = 1) (hF0 : CS w bs F0) (hD0 : DOk F0.2) (hrun : ∀ c, rng c → 0 ≤ F0.1.2.2.2.1 c ∧ F0.1.2.2.2.1 c ≤ B) (hB : B < 2147400000) (hL : CL w 6 tx) (hW : CWt w 6 wt) (hrs : w 6 11 = rs) (hr40 : 0 ≤ rs ∧ rs ≤ 40) (hr19 : ∀ c, rng c → w 19 c = F0.1.2.2.2.1 c) (hN : GN N w) (hN2 : N < 2147460000)
    (k : ∀ w' D, StD tx rs D → DOk D → CS w' 6 (brF F0 b tx wt rs D) → (∀ a i, ¬ (6 ≤ a ∧ a ≤ 21) → a ≠ 108 → a ≠ 110 → a ≠ 112 → a ≠ 113 → ¬ (a = 109 ∧ 3 ≤ i ∧ i ≤ 7) → w' a i = w a i) → GN (N + 3100) w' → K (ranN (cauB F0 b tx D)) w') : C_X8_bringUpToDate d [.inr (.inr 1), .inr (.inr bs), .inl b] w K := by
  have h6 : am_St 6 := by unfold am_St; omega
  have hb5 := Kt_St hbs
  have hbr : 40 ≤ bs ∧ bs ≤ 88 := by unfold am_Kt at hbs; omega
  refine ⟨509, by omega, e_X8_bringUpToDate hb5 (s_settle (by decide) h6 hL (by rw [hrs]; exact hr40) hN hN2 (fun w1 D hSt hDk hCD hFX hGN => ?_))⟩
  rw [hrs] at hSt
  have hL1 : CL w1 6 tx := fun c hc => by
    obtain ⟨q1, q2, q3⟩ := hL c hc
    exact ⟨q1, by rw [hFX _ _ (by omega) (by omega) (by omega) (by omega) (by omega) (by omega) (by omega)]; exact q2, fun j hj => by rw [hFX _ _ (by omega) (by omega) (by omega) (by omega) (by omega) (by omega) (by omega)]; exact q3 j hj⟩
  have hF1 : CS w1 bs F0 := hF0.cong (fun c i c0 c1 => hFX c i (by omega) (by omega) (by omega) (by omega) (by omega) (by omega) (by omega))
  refine s_mark14 (by decide) h6 hb5 (by omega) hF1 hL1 hCD (fun w2 ho hch => ?_)
  have hF2 : CS w2 bs F0 := hF1.cong (fun c i c0 c1 => ho c i (by omega))
  have loop : ∀ (n m : Nat) (w3 : Wd), m + n = 72 → (∀ a i, a ≠ 19 → a ≠ 21 → w3 a i = w2 a i) → (∀ c, rng c → (c < m → w3 21 c = cauB F0 b tx D c ∧ w3 19 c = F0.1.2.2.2.1 c + (if cauB F0 b tx D c = -1 then 0 else 1)) ∧ (¬ c < m → w3 19 c = F0.1.2.2.2.1 c)) → W_X8_bringUpToDate 509 35 [some (.inr (.inr 1)), some (.inr (.inr bs)), some (.inl b), some (.inl (sm m (fun c => if cauB F0 b tx D c = -1 then 0 else 1))), some (.inl (m : Int)), none] [] w3 K := by
    intro n
    induction n with
    | zero =>
      intro m w3 hm hoff hc
      have em : m = 72 := by omega
      subst em
      refine v_X8_bringUpToDate_35 hb5 ⟨fun _ => ?_, fun z => absurd (Int.le_refl 72) z⟩
      have e : ∀ a i, a ≠ 19 → a ≠ 20 → a ≠ 21 → w3 a i = w1 a i := fun a i q1 q2 q3 => by rw [hoff a i q1 q3, ho a i q2]
      have ef : ∀ a i, ¬ (6 ≤ a ∧ a ≤ 21) → a ≠ 108 → a ≠ 110 → a ≠ 112 → a ≠ 113 → ¬ (a = 109 ∧ 3 ≤ i ∧ i ≤ 7) → w3 a i = w a i := fun a i q1 q2 q3 q4 q5 q6 => by rw [e a i (by omega) (by omega) (by omega)]; exact hFX a i q2 q3 q4 q5 q6 (by omega) (by omega)
      refine k w3 D hSt hDk ⟨fun c hcr => ?_, fun c hcr => ⟨fun q => ?_, fun L q => ?_⟩, ?_, fun c hcr => ⟨((hc c hcr).1 hcr.2).2, ?_, ((hc c hcr).1 hcr.2).1⟩, fun c hcr => ?_, ?_, ?_⟩ ef ⟨?_, fun c c0 c1 => ?_⟩
      · obtain ⟨q1, q2, q3⟩ := hL1 c hcr
        exact ⟨q1, by rw [e _ _ (by decide) (by decide) (by decide)]; exact q2, fun j hj => by rw [e _ _ (by decide) (by decide) (by decide)]; exact q3 j hj⟩
      · rw [e _ _ (by decide) (by decide) (by decide), hFX _ _ (by decide) (by decide) (by decide) (by decide) (by omega) (by decide) (by omega)]
        exact (hW c hcr).1 q
      · obtain ⟨q1, q2, q3⟩ := (hW c hcr).2 L q
        exact ⟨q1, by rw [e _ _ (by decide) (by decide) (by decide), hFX _ _ (by decide) (by decide) (by decide) (by decide) (by omega) (by decide) (by omega)]; exact q2, fun j hj => by rw [e _ _ (by decide) (by decide) (by decide), hFX _ _ (by decide) (by decide) (by decide) (by decide) (by omega) (by decide) (by omega)]; exact q3 j hj⟩
      · rw [e _ _ (by decide) (by decide) (by decide), hFX _ _ (by decide) (by decide) (by decide) (by decide) (by decide) (by decide) (by decide)]
        exact hrs
      · show w3 20 c = _
        rw [hoff 20 c (by decide) (by decide)]
        exact hch c hcr
      · obtain ⟨q1, q2, q3, q4, q5⟩ := hCD.1 c hcr
        rw [e _ _ (by decide) (by decide) (by decide), e _ _ (by decide) (by decide) (by decide), e _ _ (by decide) (by decide) (by decide), e _ _ (by decide) (by decide) (by decide)]
        exact ⟨q1, q2, q3, q4, q5.cong (e _ _ (by decide) (by decide) (by decide)) (fun i _ _ => e _ _ (by decide) (by decide) (by decide))⟩
      · rw [e _ _ (by decide) (by decide) (by decide)]; exact hCD.2.1
      · rw [e _ _ (by decide) (by decide) (by decide)]; exact hCD.2.2
      · rw [e _ _ (by decide) (by decide) (by decide)]; exact hGN.1
      · rw [e _ _ (by decide) (by decide) (by decide), e _ _ (by decide) (by decide) (by decide)]; exact hGN.2 c c0 c1
    | succ n ih =>
      intro m w3 hm hoff hc
      have hrm : rng (m : Int) := ⟨by omega, by omega⟩
      have hF3 : CS w3 bs F0 := hF2.cong (fun c i c0 c1 => hoff c i (by omega) (by omega))
      have hsb := sm_bd (f := fun c => if cauB F0 b tx D c = -1 then (0 : Int) else 1) (a := 0) (b := 1) m (fun c _ _ => by split <;> omega)
      have esm : sm (m + 1) (fun c => if cauB F0 b tx D c = -1 then (0 : Int) else 1) = sm m (fun c => if cauB F0 b tx D c = -1 then (0 : Int) else 1) + (if cauB F0 b tx D m = -1 then 0 else 1) := rfl
      have nx := ih (m + 1)
      rw [esm, show ((m + 1 : Nat) : Int) = (m : Int) + 1 by omega] at nx
      generalize sm m (fun c => if cauB F0 b tx D c = -1 then (0 : Int) else 1) = S at *
      have hr0 := hrun m hrm
      have h19 := (hc m hrm).2 (by omega)
      have go : ∀ x : Int, x = cauB F0 b tx D m → (0 ≤ (m : Int) ∧ (m : Int) < 72) ∧ (∀ w4, w4 = wset w3 21 m x → (0 ≤ (m : Int) ∧ (m : Int) < 72) ∧ (((w4 21 m) = (-1) → (-2147483648 ≤ ((m : Int) + 1) ∧ ((m : Int) + 1) ≤ 2147483647) ∧ W_X8_bringUpToDate 509 35 [some (.inr (.inr 1)), some (.inr (.inr bs)), some (.inl b), some (.inl S), some (.inl ((m : Int) + 1)), none] [] w4 K) ∧ (¬ (w4 21 m) = (-1) → (0 ≤ (m : Int) ∧ (m : Int) < 72) ∧ (-2147483648 ≤ ((w4 19 m) + 1) ∧ ((w4 19 m) + 1) ≤ 2147483647) ∧ (0 ≤ (m : Int) ∧ (m : Int) < 72) ∧ (∀ w5, w5 = wset w4 19 m ((w4 19 m) + 1) → (-2147483648 ≤ (S + 1) ∧ (S + 1) ≤ 2147483647) ∧ (-2147483648 ≤ ((m : Int) + 1) ∧ ((m : Int) + 1) ≤ 2147483647) ∧ W_X8_bringUpToDate 509 35 [some (.inr (.inr 1)), some (.inr (.inr bs)), some (.inl b), some (.inl (S + 1)), some (.inl ((m : Int) + 1)), none] [] w5 K)))) := by
        intro x hx
        refine ⟨hrm, ?_⟩
        rintro w4 rfl
        refine ⟨hrm, ?_⟩
        rw [wset_eq, wset_at (by omega), h19]
        refine ⟨fun z => ⟨by omega, ?_⟩, fun z => ⟨hrm, by omega, hrm, ?_⟩⟩
        · rw [← hx, if_pos z, Int.add_zero] at nx
          refine nx _ (by omega) (fun a i q1 q2 => by rw [wset_at (fun y => q2 y.1)]; exact hoff a i q1 q2) (fun c hcr => ⟨fun y => ?_, fun y => ?_⟩)
          · by_cases q : c = m
            · rw [q, wset_eq, wset_at (by omega), h19, ← hx, if_pos z]
              exact ⟨rfl, (Int.add_zero _).symm⟩
            · rw [wset_at (fun u => q u.2), wset_at (by omega)]
              exact (hc c hcr).1 (by omega)
          · rw [wset_at (by omega)]
            exact (hc c hcr).2 (by omega)
        · rintro w5 rfl
          rw [← hx, if_neg z] at nx
          refine ⟨by omega, by omega, nx _ (by omega) (fun a i q1 q2 => by rw [wset_at (fun y => q1 y.1), wset_at (fun y => q2 y.1)]; exact hoff a i q1 q2) (fun c hcr => ⟨fun y => ?_, fun y => ?_⟩)⟩
          · by_cases q : c = m
            · rw [q, wset_eq, wset_at (by omega), wset_eq, ← hx, if_neg z]
              exact ⟨rfl, rfl⟩
            · rw [wset_at (by omega), wset_at (fun u => q u.2), wset_at (fun u => q u.2), wset_at (by omega)]
              exact (hc c hcr).1 (by omega)
          · rw [wset_at (by omega), wset_at (by omega)]
            exact (hc c hcr).2 (by omega)
      have ca : ∀ (ed : Int) (K' : Int → Wd → Prop), ed = edF b F0.1.2.1 m → (∀ x, x = cauB F0 b tx D m → K' x w3) → C_X5_causeOf 509 [.inr (.inr 6), .inl (m : Int), .inr (.inr bs), .inl ed] w3 K' := fun ed K' he kk => by
        have f5 := hF3.2.2.2.2.1 m hrm
        refine s_causeOf (by decide) h6 hb5 hrm f5.2.2.2.2 (chg := chgF F0 tx D.2.2.2) (fun x hx => ?_) (k := D.1) (k0 := F0.2.1) ?_ f5.2.2.2.1 (kk _ ?_)
        · show w3 20 x = _
          rw [hoff 20 x (by decide) (by decide)]
          exact hch x hx
        · show w3 16 m = _
          rw [hoff 16 m (by decide) (by decide), ho 16 m (by decide)]
          exact (hCD.1 m hrm).2.2.2.1
        · rw [he]
          rfl
      refine v_X8_bringUpToDate_35 hb5 ⟨fun z => by omega, fun _ => ⟨fun z => ?_, fun z => ?_⟩⟩
      · exact ca 0 _ (by unfold edF; rw [if_pos z]) (fun x hx => go x hx)
      · have hedm : edF b F0.1.2.1 m = wtI F0.1.2.1 m := if_neg z
        refine s_waits (by decide) hb5 hrm hF3.2.1 ⟨fun y => ca 0 _ (by rw [hedm]; exact y.symm) (fun x hx => go x hx), fun y => ca 1 _ ?_ (fun x hx => go x hx)⟩
        rw [hedm]
        exact ((wtI_01 F0.1.2.1 m).resolve_left y).symm
  exact loop 72 0 w2 (by decide) (fun _ _ _ _ => rfl) (fun c hcr => ⟨fun z => by have := hcr.1; omega, fun _ => by rw [ho 19 c (by decide), hFX 19 c (by decide) (by decide) (by decide) (by decide) (by omega) (by decide) (by omega)]; exact hr19 c hcr⟩)
end BRS
