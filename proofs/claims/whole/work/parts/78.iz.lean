/-! what has changed was run -/
section IZS
variable {w w0 w1 w' : Wd} {d : Nat} {K : Int → Wd → Prop} {KV : Wd → Prop} {K2 : Int → Int → Wd → Prop} {n N : Int} {A : AS} {F F0 : Fs} {H : List Fs} {tx : Int → List Int} {D : Dt}
theorem rnd_keep {em k : Int → Int} {G : Int → Mo Int} {i : Int} (hi : k i ≠ 1) (m : Nat) : ∀ (c : Int) (s : RSt), (rnd em G k m c s).1 i = s.1 i ∧ (rnd em G k m c s).2.1 i = s.2.1 i ∧ (rnd em G k m c s).2.2.1 i = s.2.2.1 i := by
  induction m with
  | zero => intro c s; exact ⟨rfl, rfl, rfl⟩
  | succ m ih =>
    intro c s
    unfold rnd
    have h1 := ih (c + 1) (rstep em G k c s)
    have h2 : (rstep em G k c s).1 i = s.1 i ∧ (rstep em G k c s).2.1 i = s.2.1 i ∧ (rstep em G k c s).2.2.1 i = s.2.2.1 i := by
      by_cases q : k c = 1
      · have hne : i ≠ c := fun z => hi (by rw [z]; exact q)
        rw [rstep_yes (s := s) q rfl]
        exact ⟨up1_ne hne, up1_ne hne, up1_ne hne⟩
      · rw [rstep_no q]
        exact ⟨rfl, rfl, rfl⟩
    exact ⟨h1.1.trans h2.1, h1.2.1.trans h2.2.1, h1.2.2.trans h2.2.2⟩
theorem rnds_keep {em k : Int → Int} {G : Int → Mo Int} {i : Int} (hi : k i ≠ 1) (m : Nat) : ∀ (g : Int) (s : RSt), (rnds em G k m g s).2.1 i = s.1 i ∧ (rnds em G k m g s).2.2.1 i = s.2.1 i ∧ (rnds em G k m g s).2.2.2.1 i = s.2.2.1 i := by
  induction m with
  | zero => intro g s; exact ⟨rfl, rfl, rfl⟩
  | succ m ih =>
    intro g s
    unfold rnds
    split
    · exact ⟨rfl, rfl, rfl⟩
    · have h1 := ih (g + 1) (rnd em G k 72 0 (s.1, s.2.1, s.2.2.1, 1))
      have h2 := rnd_keep (em := em) (G := G) hi 72 0 (s.1, s.2.1, s.2.2.1, 1)
      exact ⟨h1.1.trans h2.1, h1.2.1.trans h2.2.1, h1.2.2.trans h2.2.2⟩
theorem std_at {r c : Int} (hT : ∀ c, rng c → Wf (tx c)) (hS : StD tx r D) (hc : rng c) (hk : D.1 c = 0) : (tx c = [] → D.2.2.2.1 c = 0 ∧ D.2.2.2.2.1 c = 0) ∧ (tx c ≠ [] → ∃ res, Fm (tx c) (envR (emT tx) D.2.2.2.1 D.2.2.2.2.1) [] = (D.2.2.2.2.2.1 c, res) ∧ D.2.2.2.1 c = outV res ∧ D.2.2.2.2.1 c = outE res) := by
  obtain ⟨v, e, R, hb, hf⟩ := hS
  have hG : GdG (emT tx) (fun c => Fm (tx c)) := fun c hc h0 => gd_Fm (hT c hc) (fun z => h0 (if_pos z))
  have keep : ∀ x, rng x → D.1 x = 0 → D.2.2.2.1 x = v x ∧ D.2.2.2.2.1 x = e x ∧ D.2.2.2.2.2.1 x = R x := fun x hx hkx => by
    have hne : D.1 x ≠ 1 := by omega
    have hs : D.2.2.2 = (fin2 (emT tx) (fun c => Fm (tx c)) r D.1 v e R).2 := (Prod.mk.inj hf).2
    have := rnds_keep (em := emT tx) (G := fun c => Fm (tx c)) hne r.toNat 0 (v, fun c => if D.1 c = 1 then (if r = 0 then 4 else 0) else e c, R, if anyK D.1 = 0 then 1 else 0)
    unfold fin2 at hs
    rw [hs]
    refine ⟨this.1, this.2.1.trans ?_, this.2.2⟩
    exact if_neg hne
  obtain ⟨q1, q2, q3⟩ := keep c hc hk
  refine ⟨fun h0 => ?_, fun h0 => ?_⟩
  · obtain ⟨_, g2, g3, _⟩ := hb.2.2.1 c hc (if_pos h0)
    rw [q1, q2]
    exact ⟨g2, g3⟩
  · have hem : emT tx c ≠ 0 := by unfold emT; rw [if_neg h0]; decide
    obtain ⟨⟨res, h1, h2, h3, h4⟩, _⟩ := hb.2.2.2.1 c hc hem hk
    have hl := (hG c hc hem (envB (emT tx) D.1 v e) [] hb.okE okl_nil).2.2.2.1.1 (envR (emT tx) D.2.2.2.1 D.2.2.2.2.1) (fun x hx => by
      have hx' : x ∈ R c := by rw [h1] at hx; exact hx
      obtain ⟨t1, t2, _⟩ := hb.reads hG hc hk hx'
      obtain ⟨p1, p2, _⟩ := keep x t1 t2
      unfold envR envB
      rw [p1, p2, t2])
    rw [q1, q2, q3]
    exact ⟨res, by rw [← h1]; exact hl, h3, h4⟩
theorem ffR_none {chg : Int → Int} {l : List Int} (hl : ∀ x, x ∈ l → rng x) (h : ¬ 0 ≤ ffR chg l) : ∀ x, x ∈ l → chg x ≠ 1 := by
  induction l with
  | nil => intro x hx; cases hx
  | cons y l ih =>
    rw [ffR_cons] at h
    by_cases q : chg y = 1
    · rw [if_pos q] at h
      exact absurd (hl y List.mem_cons_self).1 h
    · rw [if_neg q] at h
      intro x hx
      rcases List.mem_cons.mp hx with z | z
      · rw [z]; exact q
      · exact ih (fun x hx => hl x (List.mem_cons_of_mem _ hx)) h x z
theorem ffR_one {chg : Int → Int} {l : List Int} (h : 0 ≤ ffR chg l) : chg (ffR chg l) = 1 := by
  induction l with
  | nil => exact absurd h (by show ¬ (0 : Int) ≤ -1; decide)
  | cons y l ih =>
    rw [ffR_cons] at h ⊢
    by_cases q : chg y = 1
    · rw [if_pos q]; exact q
    · rw [if_neg q] at h ⊢
      exact ih h
theorem chg_ran {b r : Int} (hW : WF n F0) (hT : ∀ c, rng c → Wf (tx c)) (hS : StD tx r D) (hD : DOk D) (hed : ∀ c, rng c → edF b F0.1.2.1 c = 0 → tx c = F0.1.1 c) {y : Int} (hy : rng y) (h1 : chgF F0 tx D.2.2.2 y = 1) : cauB F0 b tx D y ≠ -1 := by
  intro hn
  obtain ⟨p1, p2, p3, p4, p5, p6, p7, p8⟩ := hW
  have hyr := hy
  unfold rng at hyr
  have hcau : cauB F0 b tx D y = if edF b F0.1.2.1 y ≠ 0 then y else if 0 ≤ ffR (chgF F0 tx D.2.2.2) (F0.2.2.2.2.2.2.1 y) then ffR (chgF F0 tx D.2.2.2) (F0.2.2.2.2.2.2.1 y) else if D.1 y = 1 ∨ F0.2.1 y = 1 then y else -1 := rfl
  have hL := (p8.1 y hy).2.2.2.2
  by_cases q1 : edF b F0.1.2.1 y ≠ 0
  · rw [if_pos q1] at hcau; omega
  · rw [if_neg q1] at hcau
    by_cases q2 : 0 ≤ ffR (chgF F0 tx D.2.2.2) (F0.2.2.2.2.2.2.1 y)
    · rw [if_pos q2] at hcau; omega
    · rw [if_neg q2] at hcau
      have hno := ffR_none hL.2 q2
      by_cases q3 : D.1 y = 1 ∨ F0.2.1 y = 1
      · rw [if_pos q3] at hcau; omega
      · have hk : D.1 y = 0 := by have := (hD.1 y hy).1; omega
        have hk0 : F0.2.1 y = 0 := by have := (p8.1 y hy).1; omega
        have htx : tx y = F0.1.1 y := hed y hy (by omega)
        have hz : ∀ x, rng x → chgF F0 tx D.2.2.2 x ≠ 1 → D.2.2.2.1 x = F0.2.2.2.2.1 x ∧ D.2.2.2.2.1 x = F0.2.2.2.2.2.1 x ∧ emT tx x = emT F0.1.1 x := fun x _ hx => Classical.byContradiction (fun z => hx (if_neg z))
        have em : emT tx y = emT F0.1.1 y := by unfold emT; rw [htx]
        have same : D.2.2.2.1 y = F0.2.2.2.2.1 y ∧ D.2.2.2.2.1 y = F0.2.2.2.2.2.1 y := by
          have a1 := std_at hT hS hy hk
          have a0 := std_at p1 p7 hy hk0
          by_cases e : tx y = []
          · have e0 : F0.1.1 y = [] := by rw [← htx]; exact e
            obtain ⟨b1, b2⟩ := a1.1 e
            obtain ⟨c1, c2⟩ := a0.1 e0
            exact ⟨b1.trans c1.symm, b2.trans c2.symm⟩
          · obtain ⟨res, h2, h3, h4⟩ := a1.2 e
            obtain ⟨res0, g2, g3, g4⟩ := a0.2 (by rw [← htx]; exact e)
            have hgd := gd_Fm (p1 y hy) (show F0.1.1 y ≠ [] by rw [← htx]; exact e) (envR (emT F0.1.1) F0.2.2.2.2.1 F0.2.2.2.2.2.1) [] (fun c h0 h1 => ⟨(p8.1 c ⟨h0, h1⟩).2.1, (p8.1 c ⟨h0, h1⟩).2.2.1⟩) okl_nil
            have hl := hgd.2.2.2.1.1 (envR (emT tx) D.2.2.2.1 D.2.2.2.2.1) (fun x hx => by
              rw [g2] at hx
              obtain ⟨t1, t2, t3⟩ := hz x (hL.2 x hx) (hno x hx)
              unfold envR
              rw [t1, t2, t3])
            rw [← htx] at hl g2
            rw [g2, h2] at hl
            have er := (Prod.mk.inj hl).2
            rw [h3, h4, g3, g4, er]
            exact ⟨rfl, rfl⟩
        have : chgF F0 tx D.2.2.2 y = 0 := if_pos ⟨same.1, same.2, em⟩
        omega
theorem brF_wf {b rs : Int} {wt : Int → Option (List Int)} (hW : WF n F0) (hT : ∀ c, rng c → Wf (tx c)) (ht1 : tx (-1) ≠ []) (hw : ∀ c L, rng c → wt c = some L → Wf L) (hw8 : sm 72 (wtI wt) ≤ 8) (hr : 0 ≤ rs ∧ rs ≤ 40) (hS : StD tx rs D) (hD : DOk D) (hed : ∀ c, rng c → edF b F0.1.2.1 c = 0 → tx c = F0.1.1 c) : WF (n + 1) (brF F0 b tx wt rs D) := by
  refine ⟨hT, ht1, hw, hw8, hr, fun c hc => ⟨?_, ?_, ?_⟩, hS, hD⟩
  · have := (hW.2.2.2.2.2.1 c hc).1
    show 0 ≤ F0.1.2.2.2.1 c + (if cauB F0 b tx D c = -1 then 0 else 1) ∧ F0.1.2.2.2.1 c + (if cauB F0 b tx D c = -1 then 0 else 1) ≤ n + 1
    split <;> omega
  · show chgF F0 tx D.2.2.2 c = 0 ∨ chgF F0 tx D.2.2.2 c = 1
    unfold chgF
    split
    · exact Or.inl rfl
    · exact Or.inr rfl
  · show cauB F0 b tx D c = -1 ∨ rng (cauB F0 b tx D c) ∧ cauB F0 b tx D (cauB F0 b tx D c) ≠ -1
    have hcau : cauB F0 b tx D c = if edF b F0.1.2.1 c ≠ 0 then c else if 0 ≤ ffR (chgF F0 tx D.2.2.2) (F0.2.2.2.2.2.2.1 c) then ffR (chgF F0 tx D.2.2.2) (F0.2.2.2.2.2.2.1 c) else if D.1 c = 1 ∨ F0.2.1 c = 1 then c else -1 := rfl
    have hcr := hc
    unfold rng at hcr
    have hL := (hW.2.2.2.2.2.2.2.1 c hc).2.2.2.2
    have self : cauB F0 b tx D c = c → rng (cauB F0 b tx D c) ∧ cauB F0 b tx D (cauB F0 b tx D c) ≠ -1 := fun z => by
      rw [z, z]
      exact ⟨hc, by omega⟩
    by_cases q1 : edF b F0.1.2.1 c ≠ 0
    · rw [if_pos q1] at hcau; exact Or.inr (self hcau)
    · rw [if_neg q1] at hcau
      by_cases q2 : 0 ≤ ffR (chgF F0 tx D.2.2.2) (F0.2.2.2.2.2.2.1 c)
      · rw [if_pos q2] at hcau
        have hone := ffR_one q2
        have hrr := (ffR_rng (chg := chgF F0 tx D.2.2.2) hL.2).resolve_left (by omega)
        rw [hcau]
        exact Or.inr ⟨hrr, chg_ran hW hT hS hD hed hrr hone⟩
      · rw [if_neg q2] at hcau
        by_cases q3 : D.1 c = 1 ∨ F0.2.1 c = 1
        · rw [if_pos q3] at hcau; exact Or.inr (self hcau)
        · rw [if_neg q3] at hcau; exact Or.inl hcau
theorem keep_wf (hH : ∀ F, F ∈ H → WF n F) (hF : WF n F0) : ∀ F, F ∈ keepH H F0 → WF n F := by
  intro F hm
  unfold keepH at hm
  rcases List.mem_append.mp hm with z | z
  · by_cases q : H.length < 4
    · rw [if_pos q] at z; exact hH F z
    · rw [if_neg q] at z; exact hH F (List.mem_of_mem_tail z)
  · rw [List.mem_singleton.mp z]; exact hF
/-! the calls that change a sheet: rounds -/
theorem IC.inv (h0 : 0 ≤ n) (h : WQ n A) (hC : IC (4000 * n) A w) (hM : IM A w) : Inv n w := ⟨h0, A, h, hC, hM⟩
theorem c_rounds {a : Int} (hd : 520 ≤ d) (hn : n ≤ 20000) (h : Inv n w) (k : ∀ x w', Inv (n + 1) w' → K2 x x w') : C_X8_rounds d [.inr (.inr 1), .inl a] w (fun x w1 => C_X9_rounds d [.inr (.inr 115), .inl a] w1 (fun y w2 => K2 x y w2)) := by
  have hI := h
  obtain ⟨h0, A, hW, hC, hM⟩ := h
  have hF := hW.2.1
  obtain ⟨p1, p2, p3, p4, p5, p6, p7, p8⟩ := id hF
  have h6 : am_St 6 := by unfold am_St; omega
  have out : ∀ x : Int, x = -2000000001 → ¬ (0 ≤ a ∧ a ≤ 40) → C_X9_rounds d [.inr (.inr 115), .inl a] w (fun y w2 => K2 x y w2) := fun x hx hn => by
    rw [hx]
    exact ⟨519, by omega, e_X9_rounds (m_in (by decide) (fun z => absurd z hn) (fun _ => am_c0 (k _ w hI.up)))⟩
  refine ⟨519, by omega, e_X8_rounds ⟨fun z => out _ rfl (by omega), fun z => ⟨fun z2 => ?_, fun z2 => out _ rfl (by omega)⟩⟩⟩
  refine s_keep (by decide) p8.2 hC.2.2.1 hC.2.1 (fun bs w1 hbs hH1 hF1 hoff h38 => ⟨Kt_St hbs, ?_⟩)
  rintro w2 rfl
  have hbr : 40 ≤ bs ∧ bs ≤ 88 := by unfold am_Kt at hbs; omega
  generalize hw2 : wset w1 6 11 a = w2
  have o2 : ∀ b i, ¬ (b = 6 ∧ i = 11) → w2 b i = w1 b i := fun b i q => by rw [← hw2, wset_at q]
  have o1 : ∀ b i, b < 38 ∨ 104 ≤ b → ¬ (b = 6 ∧ i = 11) → w2 b i = w b i := fun b i q1 q2 => by rw [o2 b i q2, hoff b i q1]
  have hL2 : CL w2 6 A.2.1.1.1 := fun c hc => by
    obtain ⟨g1, g2, g3⟩ := hC.2.1.1 c hc
    exact ⟨g1, by rw [o1 _ _ (by decide) (by omega)]; exact g2, fun j hj => by rw [o1 _ _ (by decide) (by omega)]; exact g3 j hj⟩
  have hW2 : CWt w2 6 A.2.1.1.2.1 := fun c hc => ⟨fun q => by rw [o1 _ _ (by decide) (by omega)]; exact (hC.2.1.2.1 c hc).1 q, fun L q => by
    obtain ⟨g1, g2, g3⟩ := (hC.2.1.2.1 c hc).2 L q
    exact ⟨g1, by rw [o1 _ _ (by decide) (by omega)]; exact g2, fun j hj => by rw [o1 _ _ (by decide) (by omega)]; exact g3 j hj⟩⟩
  refine s_bring (N := 4000 * n) (B := n) (rs := a) (by decide) hbs (Or.inl rfl) (hF1.cong (fun b i b0 b1 => o2 b i (by omega))) p8 (fun c hc => (p6 c hc).1) (by omega) hL2 hW2 (by rw [← hw2, wset_eq]) ⟨by omega, z2⟩ (fun c hc => by rw [o1 _ _ (by decide) (by omega)]; exact (hC.2.1.2.2.2.1 c hc).1) (hC.2.2.2.cong (o1 _ _ (by decide) (by decide)) (fun i => o1 _ _ (by decide) (by omega))) (by omega) (fun w3 D hS hD hCS hoff3 hGN => ?_)
  have e11 : w3 bs 11 = A.2.1.1.2.2.1 := by
    rw [hoff3 bs 11 (by omega) (by omega) (by omega) (by omega) (by omega) (by omega), o2 bs 11 (by omega)]
    exact hF1.2.2.1
  rw [e11]
  have ohi : ∀ b i, 115 ≤ b → w3 b i = w b i := fun b i q => by rw [hoff3 b i (by omega) (by omega) (by omega) (by omega) (by omega) (by omega)]; exact o1 b i (by omega) (by omega)
  have hM3 := hM.hi ohi
  refine ⟨519, by omega, e_X9_rounds (m_in (by decide) (fun _ => am_c1 (m_save (by decide) hM3.2.2.1 hM3.2.1 (fun w4 hHM4 hoff4 => ?_))) (fun y => absurd ⟨by omega, z2⟩ y))⟩
  have e4 : ∀ b i, b ≠ 117 → ¬ (b = 115 ∧ i = 2) → w4 b i = w3 b i := hoff4
  have hP4 : PgM (w4 116) A.2.1.1 := hM3.2.1.cong (fun o _ _ => e4 116 o (by decide) (by omega))
  have hM4 : MDt A.2.1.2 w4 := hM3.2.2.2.1.cong (fun b i b0 b1 => e4 b i (by omega) (by omega)) (e4 _ _ (by decide) (by decide)) (e4 _ _ (by decide) (by decide))
  have h42 : w4 115 42 = -1 := by rw [e4 _ _ (by decide) (by decide)]; exact hM3.2.2.2.2.1
  have h43 : PV (w4 115 43) := by rw [e4 _ _ (by decide) (by decide)]; exact hM3.2.2.2.2.2
  refine m_remembers (F0 := A.2.1) (by decide) hP4.ml h42 hM4 p8 (fun w5 hRem h132 hoff5 => ?_)
  rintro w6 rfl
  have e5 : w5 116 2520 = A.2.1.1.2.2.1 := by rw [hoff5 116 2520 (by decide) (by decide)]; exact hP4.2.2.1
  rw [e5]
  have o6 : ∀ b i, ¬ (b = 116 ∧ i = 2520) → wset w5 116 2520 a b i = w5 b i := fun b i q => by rw [wset_at q]
  have hP6 : PgM (wset w5 116 2520 a 116) (A.2.1.1.1, A.2.1.1.2.1, a, A.2.1.1.2.2.2) := by
    have hP5 : PgM (w5 116) A.2.1.1 := hP4.cong (fun o _ _ => hoff5 116 o (by decide) (by decide))
    obtain ⟨q1, q2, q3, q4, q5, q6, q7⟩ := hP5
    refine ⟨fun c hc => ?_, fun c hc => ?_, wset_eq, by rw [o6 116 2521 (by decide)]; exact q4, fun s s0 s1 => ?_, fun s s' s0 s1 s2 => ?_, fun c hc hn => ?_⟩
    · obtain ⟨t1, t2, t3⟩ := q1 c hc
      have hl := t1.1
      unfold rng at hc
      exact ⟨t1, by rw [o6 116 c (by omega)]; exact t2, fun j hj => by
        have hj' : j < (A.2.1.1.1 c).length := hj
        rw [o6 116 _ (by omega)]; exact t3 j hj⟩
    · have := q2 c hc
      unfold rng at hc
      rw [o6 116 _ (by omega), o6 116 _ (by omega), o6 116 _ (by omega), o6 116 _ (by omega)]
      exact this
    · rw [o6 116 2521 (by decide)] at s1
      obtain ⟨t1, L, t2, t3, t4, t5⟩ := q5 s s0 s1
      rw [o6 116 (2522 + 32 * s) (by omega)]
      exact ⟨t1, L, t2, t3, by rw [o6 116 _ (by omega)]; exact t4, fun j hj => by rw [o6 116 _ (by omega)]; exact t5 j hj⟩
    · rw [o6 116 2521 (by decide)] at s2
      rw [o6 116 (2522 + 32 * s) (by omega), o6 116 (2522 + 32 * s') (by omega)]
      exact q6 s s' s0 s1 s2
    · obtain ⟨s, s0, s1, s2⟩ := q7 c hc hn
      rw [o6 116 2521 (by decide)]
      exact ⟨s, s0, s1, by rw [o6 116 (2522 + 32 * s) (by omega)]; exact s2⟩
  refine m_bringsUp (F0 := A.2.1) (b := 0) (tx := A.2.1.1.1) (wt := A.2.1.1.2.1) (rs := a) (D := D) (B := n) (by decide) (fun c hc => ?_) (fun c hc => ?_) p8 hP6 ⟨by omega, z2⟩ (fun c hc => (p6 c hc).1) (by omega) p2 ?_ ?_ hS hD (fun w7 hP7 hM7 hoff7 => ?_)
  · obtain ⟨g1, g2, g3, g4, g5⟩ := hRem c hc
    rw [o6 125 c (by omega), o6 126 c (by omega), o6 127 c (by omega), o6 128 c (by omega)]
    exact ⟨g1, g2, g3, g4, g5.cong (o6 _ _ (by omega)) (fun i _ _ => o6 _ _ (by omega))⟩
  · rw [o6 132 c (by omega)]
    exact h132 c hc
  · rw [o6 115 42 (by decide), hoff5 115 42 (by decide) (by decide)]; exact h42
  · rw [o6 115 43 (by decide), hoff5 115 43 (by decide) (by decide)]; exact h43
  · have e7 : ∀ b i, b = 117 ∨ b = 118 ∨ b ≤ 114 ∨ (b = 115 ∧ (i = 2 ∨ i = 4 ∨ i = 42 ∨ i = 43)) → w7 b i = w4 b i := fun b i q => by
      rw [hoff7 b i (by omega) (by omega) (by omega) (by omega) (by omega), o6 b i (by omega), hoff5 b i (by omega) (by omega)]
    have lo : ∀ b i, b ≤ 114 → w7 b i = w3 b i := fun b i q => by rw [e7 b i (by omega), e4 b i (by omega) (by omega)]
    refine k _ w7 ⟨by omega, (A.1, brF A.2.1 0 A.2.1.1.1 A.2.1.1.2.1 a D, keepH A.2.2 A.2.1), ⟨hW.1, brF_wf hF p1 p2 p3 p4 ⟨by omega, z2⟩ hS hD (fun _ _ _ => rfl), fun F hm => (keep_wf hW.2.2 hF F hm).mono (by omega)⟩, ⟨⟨?_, fun j hj => ?_⟩, ?_, ?_, ?_⟩, ⟨⟨?_, fun j hj => ?_⟩, hP7, ?_, hM7, ?_, ?_⟩⟩
    · rw [lo 2 1 (by decide), hoff3 2 1 (by decide) (by decide) (by decide) (by decide) (by decide) (by decide), o1 _ _ (by decide) (by decide)]; exact hC.1.1
    · rw [lo 3 _ (by decide), hoff3 3 _ (by decide) (by decide) (by decide) (by decide) (by decide) (by omega), o1 _ _ (by decide) (by omega)]; exact hC.1.2 j hj
    · exact hCS.cong (fun b i b0 b1 => lo b i (by omega))
    · refine (hH1.cong (w' := w7) (fun b i b0 b1 => ?_))
      rw [lo b i (by omega), hoff3 b i (by omega) (by omega) (by omega) (by omega) (by omega) (by omega)]
      exact o2 b i (by omega)
    · exact (hGN.mono (by omega)).cong (lo _ _ (by decide)) (fun i => lo _ _ (by decide))
    · rw [e7 115 4 (by omega), e4 _ _ (by decide) (by decide)]; exact hM3.1.1
    · rw [e7 118 _ (by omega), e4 _ _ (by decide) (by omega)]; exact hM3.1.2 j hj
    · exact hHM4.cong (e7 _ _ (by omega)) (fun i => e7 _ _ (by omega))
    · rw [e7 115 42 (by omega)]; exact h42
    · rw [e7 115 43 (by omega)]; exact h43
end IZS
