/-! the reference settles a sheet -/
def ML (w : Wd) (tx : Int → List Int) : Prop := ∀ c, rng c → Wf (tx c) ∧ w 116 c = (tx c).length ∧ ∀ j : Nat, j < (tx c).length → w 116 (72 + 30 * c + j) = (tx c).getD j 0
def emM (tx : Int → List Int) (gv : Int) : Int → Int := fun c => if tx c = [] ∧ c ≠ gv then 0 else 1
def GM (tx : Int → List Int) (gv nb : Int) : Int → Mo Int := fun c => if c = gv then mpure nb else Fm (tx c)
theorem gd_GM {tx : Int → List Int} {gv nb : Int} {w : Wd} (hL : ML w tx) (hnb : PV nb) : GdG (emM tx gv) (GM tx gv nb) := by
  intro c hc h0
  unfold GM
  unfold emM at h0
  by_cases q : c = gv
  · rw [if_pos q]
    exact Gd.pure hnb
  · rw [if_neg q]
    exact gd_Fm (hL c hc).1 (fun z => h0 (if_pos ⟨z, q⟩))
theorem MRd.rdl {w : Wd} {c : Int} {l : List Int} (h : MRd c l w) : RdL w 123 124 c l := ⟨h.1, fun j hj => by rw [Int.mul_comm]; exact h.2.1 j hj, h.2.2⟩
/-- what works leaves behind: an error, or that it was stopped -/
def rwr (res : (Int × Int) ⊕ Int) : Int := if blk res = -1 then outE res else 0
def rbl (res : (Int × Int) ⊕ Int) : Int := if blk res = -1 then 0 else 1
section BGS
variable {tx : Int → List Int} {gv nb c : Int} {w w0 w1 : Wd} {d : Nat} {K : Int → Wd → Prop} {KV : Wd → Prop} {M : Int}
theorem m_work2 (hd : 31 ≤ d) (hc : rng c) (hL : ML w tx) (hE : OkE (mvOf w)) (hg : w 115 42 = gv ∧ w 115 43 = nb) (h0 : emM tx gv c ≠ 0)
    (k : ∀ l res w', GM tx gv nb c (mvOf w) [] = (l, res) → MwEnd w c l (rwr res) (rbl res) w' → (rwr res = 0 → rbl res = 0 → w' 115 41 = outV res) → KV w') : C_X9_works d [.inr (.inr 115), .inl c] w KV := by
  obtain ⟨a1, a2, a3⟩ := hL c hc
  have hne : c ≠ gv → tx c ≠ [] := fun q z => h0 (if_pos ⟨z, q⟩)
  refine m_works (t := lt (tx c)) hd hc (by rw [a2]; have := a1.1; omega) (fun i i0 i1 => ?_) hE (fun q => ?_) (fun q w' h1 h2 => ?_) (fun q l x w' hm hx h' => ?_) (fun q l r w' hm hr h' h41 => ?_)
  · have := a3 i.toNat (by rw [a2] at i1; omega)
    rw [show ((i.toNat : Nat) : Int) = i by omega] at this
    exact this
  · rw [hg.1] at q
    rw [a2]
    have := hne q
    exact ⟨fun z => this (List.eq_nil_of_length_eq_zero (by omega)), a1.2 this⟩
  · rw [hg.1] at q
    refine k [] (.inr nb) w' ?_ h1 (fun _ _ => by rw [h2, hg.2]; rfl)
    unfold GM
    rw [if_pos q]
    rfl
  · rw [hg.1] at q
    rw [a2] at hm
    have e : GM tx gv nb c (mvOf w) [] = (l, .inl x) := by
      unfold GM
      rw [if_neg q]
      exact Fm_inl hm
    refine k l (.inl x) w' e ?_ (fun z1 z2 => ?_)
    · have e1 : rwr (.inl x) = mwr x := rfl
      have e2 : rbl (.inl x) = mbl x := rfl
      rw [e1, e2]
      exact h'
    · have e1 : rwr (.inl x) = mwr x := rfl
      have e2 : rbl (.inl x) = mbl x := rfl
      exact absurd ⟨e1 ▸ z1, e2 ▸ z2⟩ (mwb hx.1)
  · rw [hg.1] at q
    rw [a2] at hm
    have e : GM tx gv nb c (mvOf w) [] = (l, .inr r.1) := by
      unfold GM
      rw [if_neg q]
      exact Fm_inr hm
    exact k l (.inr r.1) w' e h' (fun _ _ => h41)
/-- what the passes change -/
def FrP (w w' : Wd) : Prop := ∀ a i, ¬ (119 ≤ a ∧ a ≤ 124) → a ≠ 131 → ¬ (133 ≤ a ∧ a ≤ 142) → ¬ (a = 115 ∧ (i = 23 ∨ i = 24 ∨ i = 26 ∨ i = 27 ∨ i = 36 ∨ i = 37 ∨ i = 38 ∨ i = 39 ∨ i = 40 ∨ i = 41)) → w' a i = w a i
theorem FrP.trans {w2 : Wd} (h1 : FrP w w1) (h2 : FrP w1 w2) : FrP w w2 := fun a i q1 q2 q3 q4 => by rw [h2 a i q1 q2 q3 q4]; exact h1 a i q1 q2 q3 q4
theorem MwEnd.frp {l : List Int} {wr bl : Int} (h : MwEnd w c l wr bl w1) : FrP w w1 := fun a i q1 q2 q3 q4 => h.1 a i ⟨by omega, q3, by omega, by omega⟩
theorem ML.fr (h : ML w0 tx) (hf : FrP w0 w) : ML w tx := by
  intro c hc
  obtain ⟨a1, a2, a3⟩ := h c hc
  exact ⟨a1, by rw [hf 116 c (by omega) (by omega) (by omega) (by omega)]; exact a2, fun j hj => by rw [hf 116 _ (by omega) (by omega) (by omega) (by omega)]; exact a3 j hj⟩
theorem MwEnd.env {l : List Int} {wr bl : Int} (h : MwEnd w c l wr bl w1) : mvOf w1 = mvOf w := by
  funext x
  unfold mvOf
  rw [h.1 131 x (by unfold MwOff; omega), h.1 119 x (by unfold MwOff; omega), h.1 120 x (by unfold MwOff; omega), h.1 116 x (by unfold MwOff; omega), h.1 115 42 (by unfold MwOff; omega)]
def MA (tx : Int → List Int) (gv nb : Int) (w : Wd) : Prop :=
  (∀ c, rng c → (w 131 c = 0 ∨ w 131 c = 1) ∧ w 121 c = 0 ∧ PV (w 119 c) ∧ 0 ≤ w 120 c ∧ w 120 c ≤ 4) ∧
  (∀ c, rng c → emM tx gv c = 0 → w 131 c = 1 ∧ w 119 c = 0 ∧ w 120 c = 0 ∧ w 122 c = 0 ∧ RdL w 123 124 c []) ∧
  (∀ c, rng c → emM tx gv c ≠ 0 → w 131 c = 1 → ∃ l res, GM tx gv nb c (mvOf w) [] = (l, res) ∧ blk res = -1 ∧ w 119 c = outV res ∧ w 120 c = outE res ∧ RdL w 123 124 c l ∧ w 122 c = hgt (w 122) l) ∧
  (∀ c, rng c → w 131 c = 0 → w 119 c = 0 ∧ w 120 c = 0 ∧ w 122 c = 0)
def un0 (w : Wd) : Int := sm 72 (fun c => if w 131 c = 0 then 1 else 0)
def MH (w : Wd) : Prop := ∀ c, rng c → 0 ≤ w 122 c ∧ (w 131 c = 1 → w 122 c + un0 w ≤ 71)
/-- all below this one that are not known are stopped -/
def MB (tx : Int → List Int) (gv nb v2 : Int) (w : Wd) : Prop := ∀ c, rng c → c < v2 → w 131 c = 0 → ∃ l b, GM tx gv nb c (mvOf w) [] = (l, .inl (4, b)) ∧ rng b ∧ RdL w 123 124 c l
theorem un0_bd : 0 ≤ un0 w ∧ un0 w ≤ 72 := by
  have := sm_bd (f := fun c => if w 131 c = 0 then (1 : Int) else 0) (a := 0) (b := 1) 72 (fun c _ _ => by split <;> omega)
  unfold un0
  omega
theorem un0_upd {x : Int} (hc : rng c) : un0 (wset w 131 c x) = un0 w - (if w 131 c = 0 then 1 else 0) + (if x = 0 then 1 else 0) := by
  unfold un0
  have := sm_upd (f := fun y => if w 131 y = 0 then (1 : Int) else 0) (g := fun y => if wset w 131 c x 131 y = 0 then (1 : Int) else 0) (c := c) 72 hc.1 hc.2 (fun y hy => by rw [wset_at (fun q => hy q.2)])
  rw [wset_eq] at this
  exact this
theorem un0_cong (h : ∀ c, 0 ≤ c → c < 72 → w1 131 c = w 131 c) : un0 w1 = un0 w := sm_cong 72 (fun c h0 h1 => by rw [h c h0 h1])
theorem un0_71 (hc : rng c) (h : w 131 c ≠ 0) : un0 w ≤ 71 := by
  have h2 := sm_upd (f := fun x => if w 131 x = 0 then (1 : Int) else 0) (g := fun x => if x = c then (1 : Int) else if w 131 x = 0 then 1 else 0) (c := c) 72 hc.1 hc.2 (fun x hx => if_neg hx)
  have h3 := (sm_bd (f := fun x => if x = c then (1 : Int) else if w 131 x = 0 then 1 else 0) (a := 0) (b := 1) 72 (fun x _ _ => by split; exact ⟨by decide, by decide⟩; split <;> omega)).2
  rw [if_neg h, if_pos rfl] at h2
  unfold un0
  omega
theorem MA.okE (h : MA tx gv nb w) : OkE (mvOf w) := fun c h0 h1 => ⟨(h.1 c ⟨h0, h1⟩).2.2.1, (h.1 c ⟨h0, h1⟩).2.2.2⟩
theorem mv_len (hL : ML w tx) (hg : w 115 42 = gv) (hc : rng c) : (mvOf w c).2.2 = emM tx gv c := by
  have h2 := (hL c hc).2.1
  have e : w 116 c = 0 ↔ tx c = [] := by
    rw [h2]
    exact ⟨fun z => List.eq_nil_of_length_eq_zero (by omega), fun z => by rw [z]; rfl⟩
  unfold mvOf emM
  dsimp only
  rw [hg]
  by_cases q : tx c = [] ∧ c ≠ gv
  · rw [if_pos q, if_pos ⟨e.mpr q.1, q.2⟩]
  · rw [if_neg q, if_neg (fun z => q ⟨e.mp z.1, z.2⟩)]
theorem MA.out (h : MA tx gv nb w) (hL : ML w tx) (hnb : PV nb) {l : List Int} {res : (Int × Int) ⊕ Int} (hc : rng c) (h0 : emM tx gv c ≠ 0) (hm : GM tx gv nb c (mvOf w) [] = (l, res)) : OkL l ∧ (∀ x, x ∈ l → rng x ∧ (w 131 x = 1 ∨ blk res = x)) ∧ PV (outV res) ∧ (0 ≤ outE res ∧ outE res ≤ 4) ∧ (blk res ≠ -1 → rng (blk res) ∧ w 131 (blk res) = 0 ∧ res = .inl (4, blk res)) := by
  have hg := gd_GM hL hnb c hc h0 (mvOf w) [] h.okE okl_nil
  rw [hm] at hg
  obtain ⟨g1, _, g3, _, g5⟩ := hg
  have m01 : ∀ x, rng x → ((mvOf w x).1.1 = 0 ↔ w 131 x = 1) := fun x hx => by
    have := (h.1 x hx).1
    show (if w 131 x ≠ 0 then (0 : Int) else 1) = 0 ↔ _
    rcases this with z | z
    · rw [z, if_neg (fun q => q rfl)]; exact ⟨fun q => by omega, fun q => by omega⟩
    · rw [z, if_pos (by decide)]; exact ⟨fun _ => rfl, fun _ => rfl⟩
  refine ⟨g1, fun x hx => ⟨g1.2 x hx, ?_⟩, ?_, ?_, ?_⟩
  · rcases g3 x hx with z | z | z
    · cases z
    · exact Or.inl ((m01 x (g1.2 x hx)).mp z)
    · exact Or.inr z
  · cases res with
    | inl x => exact ⟨by show -1000000000 ≤ (0 : Int); decide, by show (0 : Int) ≤ _; decide⟩
    | inr v => exact g5
  · cases res with
    | inl x => exact ⟨by have := g5.1.1; show 0 ≤ x.1; omega, g5.1.2⟩
    | inr v => exact ⟨Int.le_refl 0, by show (0 : Int) ≤ 4; decide⟩
  · intro hb
    cases res with
    | inr v => exact absurd rfl hb
    | inl x =>
      rcases g5.2 with z | ⟨z1, z2, z3⟩
      · exact absurd z hb
      · have hr := g1.2 x.2 z2
        refine ⟨hr, ?_, ?_⟩
        · rcases (h.1 x.2 hr).1 with y | y
          · exact y
          · exact absurd ((m01 x.2 hr).mpr y) z3
        · show Sum.inl x = Sum.inl (4, x.2)
          rw [← z1]
theorem MA.loc (h : MA tx gv nb w) (hL : ML w tx) (hnb : PV nb) {l : List Int} {res : (Int × Int) ⊕ Int} {e' : Env'} (hc : rng c) (h0 : emM tx gv c ≠ 0) (hm : GM tx gv nb c (mvOf w) [] = (l, res)) (he : ∀ x, x ∈ l → e' x = mvOf w x) : GM tx gv nb c e' [] = (l, res) := by
  have hg := (gd_GM hL hnb c hc h0 (mvOf w) [] h.okE okl_nil).2.2.2.1.1 e' (by rw [hm]; exact he)
  rw [hg]; exact hm
/-- a cell that is not known has been worked out -/
theorem ma_work {l : List Int} {wr bl v2 : Int} (hc : rng c) (hk : w 131 c = 0) (hA : MA tx gv nb w) (hH : MH w) (h : MwEnd w c l wr bl w1) : MA tx gv nb w1 ∧ MH w1 ∧ RdL w1 123 124 c l ∧ un0 w1 = un0 w ∧ (v2 ≤ c → MB tx gv nb v2 w → MB tx gv nb v2 w1) := by
  have hev := h.env
  have c0 : ∀ a i, a ≠ 115 → a ≠ 123 → a ≠ 124 → ¬ (133 ≤ a ∧ a ≤ 142) → w1 a i = w a i := fun a i q1 q2 q3 q4 => h.1 a i ⟨by omega, q4, by omega, by omega⟩
  have rl : ∀ c' l', c' ≠ c → RdL w 123 124 c' l' → RdL w1 123 124 c' l' := fun c' l' hne hl => hl.cong (h.1 _ _ (by unfold MwOff; omega)) (fun i i0 i1 => h.1 _ _ (by unfold MwOff; omega))
  have e131 : ∀ i, w1 131 i = w 131 i := fun i => c0 131 i (by decide) (by decide) (by decide) (by decide)
  have e119 : ∀ i, w1 119 i = w 119 i := fun i => c0 119 i (by decide) (by decide) (by decide) (by decide)
  have e120 : ∀ i, w1 120 i = w 120 i := fun i => c0 120 i (by decide) (by decide) (by decide) (by decide)
  have e121 : ∀ i, w1 121 i = w 121 i := fun i => c0 121 i (by decide) (by decide) (by decide) (by decide)
  have e122 : w1 122 = w 122 := funext (fun i => c0 122 i (by decide) (by decide) (by decide) (by decide))
  have hun : un0 w1 = un0 w := un0_cong (fun i _ _ => e131 i)
  obtain ⟨a1, a2, a3, a4⟩ := hA
  refine ⟨⟨fun i hi => ?_, fun i hi hi0 => ?_, fun i hi hi0 hi1 => ?_, fun i hi hi0 => ?_⟩, fun i hi => ?_, h.2.2.rdl, hun, fun hv hB i hi hi2 hi0 => ?_⟩
  · rw [e131, e121, e119, e120]; exact a1 i hi
  · obtain ⟨g1, g2, g3, g4, g5⟩ := a2 i hi hi0
    rw [e131, e119, e120, e122]
    exact ⟨g1, g2, g3, g4, rl i _ (fun z => by rw [z, hk] at g1; cases g1) g5⟩
  · rw [e131] at hi1
    obtain ⟨l', res, b1, b2, b3, b4, b5, b6⟩ := a3 i hi hi0 hi1
    rw [e119, e120, e122, hev]
    exact ⟨l', res, b1, b2, b3, b4, rl i _ (fun z => by rw [z, hk] at hi1; cases hi1) b5, b6⟩
  · rw [e131] at hi0
    rw [e119, e120, e122]
    exact a4 i hi hi0
  · rw [e131, e122, hun]; exact hH i hi
  · rw [e131] at hi0
    obtain ⟨l', b, b1, b2, b3⟩ := hB i hi hi2 hi0
    rw [hev]
    exact ⟨l', b, b1, b2, rl i _ (by omega) b3⟩
def mln (c V E H : Int) (w : Wd) : Wd := wset (wset (wset (wset w 120 c E) 119 c V) 122 c H) 131 c 1
theorem ma_learn {l : List Int} {res : (Int × Int) ⊕ Int} (hL : ML w tx) (hnb : PV nb) (hc : rng c) (hk : w 131 c = 0) (h0 : emM tx gv c ≠ 0) (hm : GM tx gv nb c (mvOf w) [] = (l, res)) (hb : blk res = -1) (hrl : RdL w 123 124 c l) (hA : MA tx gv nb w) (hH : MH w) :
    MA tx gv nb (mln c (outV res) (outE res) (hgt (w 122) l) w) ∧ MH (mln c (outV res) (outE res) (hgt (w 122) l) w) ∧ un0 (mln c (outV res) (outE res) (hgt (w 122) l) w) = un0 w - 1 := by
  have hout := hA.out hL hnb hc h0 hm
  generalize hw' : mln c (outV res) (outE res) (hgt (w 122) l) w = w'
  unfold mln at hw'
  have c0 : ∀ a i, a ≠ 131 → a ≠ 119 → a ≠ 120 → a ≠ 122 → w' a i = w a i := fun a i q1 q2 q3 q4 => by rw [← hw', wset_at (fun q => q1 q.1), wset_at (fun q => q4 q.1), wset_at (fun q => q2 q.1), wset_at (fun q => q3 q.1)]
  have e131 : ∀ i, w' 131 i = if i = c then 1 else w 131 i := fun i => by
    rw [← hw']
    by_cases q : i = c
    · rw [if_pos q, q, wset_eq]
    · rw [if_neg q, wset_at (by omega), wset_at (by omega), wset_at (by omega), wset_at (by omega)]
  have e119 : ∀ i, w' 119 i = if i = c then outV res else w 119 i := fun i => by
    rw [← hw', wset_at (by omega), wset_at (by omega)]
    by_cases q : i = c
    · rw [if_pos q, q, wset_eq]
    · rw [if_neg q, wset_at (by omega), wset_at (by omega)]
  have e120 : ∀ i, w' 120 i = if i = c then outE res else w 120 i := fun i => by
    rw [← hw', wset_at (by omega), wset_at (by omega), wset_at (by omega)]
    by_cases q : i = c
    · rw [if_pos q, q, wset_eq]
    · rw [if_neg q, wset_at (by omega)]
  have e122 : ∀ i, w' 122 i = if i = c then hgt (w 122) l else w 122 i := fun i => by
    rw [← hw', wset_at (by omega)]
    by_cases q : i = c
    · rw [if_pos q, q, wset_eq]
    · rw [if_neg q, wset_at (by omega), wset_at (by omega), wset_at (by omega)]
  have e121 : ∀ i, w' 121 i = w 121 i := fun i => c0 _ i (by omega) (by omega) (by omega) (by omega)
  have rl : ∀ i l', RdL w 123 124 i l' → RdL w' 123 124 i l' := fun i l' hl => hl.cong (c0 _ _ (by omega) (by omega) (by omega) (by omega)) (fun j j0 j1 => c0 _ _ (by omega) (by omega) (by omega) (by omega))
  have env : ∀ x, x ≠ c → mvOf w' x = mvOf w x := fun x hx => by
    unfold mvOf
    rw [e131, if_neg hx, e119, if_neg hx, e120, if_neg hx, c0 116 x (by omega) (by omega) (by omega) (by omega), c0 115 42 (by omega) (by omega) (by omega) (by omega)]
  have hun : un0 w' = un0 w - 1 := by
    have e : un0 w' = un0 (wset w 131 c 1) := un0_cong (fun i _ _ => by
      rw [e131]
      by_cases q : i = c
      · rw [if_pos q, q, wset_eq]
      · rw [if_neg q, wset_at (by omega)])
    rw [e, un0_upd hc, if_pos hk, if_neg (by decide)]
    omega
  have hkn : ∀ x, x ∈ l → w 131 x = 1 ∧ rng x := fun x hx => by
    have := hout.2.1 x hx
    refine ⟨this.2.resolve_right (fun z => ?_), this.1⟩
    have := this.1
    unfold rng at this
    omega
  have hnc : ∀ x, w 131 x = 1 → x ≠ c := fun x hx z => by rw [z, hk] at hx; cases hx
  have keep : ∀ i l' res', rng i → emM tx gv i ≠ 0 → GM tx gv nb i (mvOf w) [] = (l', res') → blk res' ≠ c → GM tx gv nb i (mvOf w') [] = (l', res') := fun i l' res' hi hi0 hm' hb' =>
    hA.loc hL hnb hi hi0 hm' (fun x hx => env x (fun z => by
      rcases ((hA.out hL hnb hi hi0 hm').2.1 x hx).2 with y | y
      · exact hnc x y z
      · exact hb' (y.trans z)))
  have hL' := hL
  have hA' := hA
  obtain ⟨a1, a2, a3, a4⟩ := hA
  refine ⟨⟨fun i hi => ?_, fun i hi hi0 => ?_, fun i hi hi0 hi1 => ?_, fun i hi hi0 => ?_⟩, fun i hi => ?_, hun⟩
  · have := a1 i hi
    rw [e131, e121, e119, e120]
    by_cases z : i = c
    · rw [if_pos z, if_pos z, if_pos z]
      exact ⟨Or.inr rfl, this.2.1, hout.2.2.1, hout.2.2.2.1⟩
    · rw [if_neg z, if_neg z, if_neg z]
      exact this
  · obtain ⟨g1, g2, g3, g4, g5⟩ := a2 i hi hi0
    have z : i ≠ c := fun z => h0 (by rw [← z]; exact hi0)
    rw [e131, e119, e120, e122, if_neg z, if_neg z, if_neg z, if_neg z]
    exact ⟨g1, g2, g3, g4, rl i _ g5⟩
  · by_cases z : i = c
    · subst z
      rw [e119, e120, e122, if_pos rfl, if_pos rfl, if_pos rfl]
      refine ⟨l, res, keep i l res hi hi0 hm (fun z => by rw [hb] at z; unfold rng at hi; omega), hb, rfl, rfl, rl i _ hrl, ?_⟩
      exact (hgt_cong (fun x hx => by rw [e122, if_neg (hnc x (hkn x hx).1)])).symm
    · rw [e131, if_neg z] at hi1
      obtain ⟨l', res', b1, b2, b3, b4, b5, b6⟩ := a3 i hi hi0 hi1
      rw [e119, e120, e122, if_neg z, if_neg z, if_neg z]
      refine ⟨l', res', keep i l' res' hi hi0 b1 (fun z => by rw [b2] at z; unfold rng at hc; omega), b2, b3, b4, rl i _ b5, ?_⟩
      rw [b6]
      refine (hgt_cong (fun x hx => ?_)).symm
      have := (hA'.out hL' hnb hi hi0 b1).2.1 x hx
      have hx' : w 131 x = 1 := this.2.resolve_right (fun y => by have := this.1; unfold rng at this; omega)
      rw [e122, if_neg (hnc x hx')]
  · have z : i ≠ c := fun z => by rw [e131, if_pos z] at hi0; cases hi0
    rw [e131, if_neg z] at hi0
    rw [e119, e120, e122, if_neg z, if_neg z, if_neg z]
    exact a4 i hi hi0
  · rw [hun, e122, e131]
    have hu := un0_bd (w := w)
    have hu1 : un0 w ≤ 72 := hu.2
    by_cases z : i = c
    · rw [if_pos z, if_pos z]
      refine ⟨hgt_pos, fun _ => ?_⟩
      have bd : ∀ (l' : List Int) (a : Int), a + (un0 w - 1) ≤ 71 → (∀ x, x ∈ l' → w 131 x = 1 ∧ rng x) → l'.foldl (fun a x => max a (w 122 x + 1)) a + (un0 w - 1) ≤ 71 := by
        intro l'
        induction l' with
        | nil => intro a ha _; exact ha
        | cons y l' ih =>
          intro a ha hx
          simp only [List.foldl_cons]
          refine ih _ ?_ (fun x hx' => hx x (List.mem_cons_of_mem _ hx'))
          have := (hH y (hx y List.mem_cons_self).2).2 (hx y List.mem_cons_self).1
          omega
      exact bd l 0 (by omega) hkn
    · rw [if_neg z, if_neg z]
      have := hH i hi
      exact ⟨this.1, fun y => by have := this.2 y; omega⟩
end BGS
