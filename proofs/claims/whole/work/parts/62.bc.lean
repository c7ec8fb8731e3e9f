section BCS
variable {st tg : Int} {tx : Int → List Int} {w w0 w1 : Wd} {d : Nat} {K : Int → Wd → Prop} {KV : Wd → Prop} {N v3 : Int}
def DH (st v3 : Int) (w : Wd) : Prop := ∀ c, rng c → 0 ≤ w (st + 9) c ∧ (w 112 c = 0 → w (st + 9) c + un1 w + v3 ≤ 71)
theorem un1_71 {c : Int} (hc : rng c) (h : w 112 c ≠ 1) : un1 w ≤ 71 := by
  have h2 := sm_upd (f := fun x => if w 112 x = 1 then (1 : Int) else 0) (g := fun x => if x = c then (1 : Int) else if w 112 x = 1 then 1 else 0) (c := c) 72 hc.1 hc.2 (fun x hx => if_neg hx)
  have h3 := (sm_bd (f := fun x => if x = c then (1 : Int) else if w 112 x = 1 then 1 else 0) (a := 0) (b := 1) 72 (fun x _ _ => by split; exact ⟨by decide, by decide⟩; split <;> omega)).2
  rw [if_neg h, if_pos rfl] at h2
  unfold un1
  omega
def lrn (st tg V E H : Int) (w : Wd) : Wd := wset (wset (wset (wset w (st + 7) tg V) (st + 8) tg E) (st + 9) tg H) 112 tg 0
theorem di_learn {l : List Int} {res : (Int × Int) ⊕ Int} (hs : am_St st) (hL : CL w st tx) (hv : 0 < v3) (ht : tg = w 108 (v3 - 1)) (h0 : tx tg ≠ []) (hm : Fm (tx tg) (evOf w st) [] = (l, res)) (hb : blk res = -1) (hrl : RdL w (st + 11) (st + 12) tg l) (hA : DA st tx w) (hS : DS st tx v3 w) (hN : DN (N + 1) v3 w) (hH : DH st v3 w) :
    DA st tx (lrn st tg (outV res) (outE res) (hgt (w (st + 9)) l) w) ∧ DS st tx (v3 - 1) (lrn st tg (outV res) (outE res) (hgt (w (st + 9)) l) w) ∧ DN N (v3 - 1) (lrn st tg (outV res) (outE res) (hgt (w (st + 9)) l) w) ∧ DH st (v3 - 1) (lrn st tg (outV res) (outE res) (hgt (w (st + 9)) l) w) ∧ un1 (lrn st tg (outV res) (outE res) (hgt (w (st + 9)) l) w) = un1 w := by
  have hr := am_St_rng hs
  obtain ⟨t1, t2, t3, t4⟩ := hS.2.1 (v3 - 1) (by omega) (by omega)
  rw [← ht] at t1 t2 t3 t4
  have hout := hA.out hL t1 h0 hm
  generalize hw' : lrn st tg (outV res) (outE res) (hgt (w (st + 9)) l) w = w'
  unfold lrn at hw'
  have c0 : ∀ a i, a ≠ 112 → a ≠ st + 7 → a ≠ st + 8 → a ≠ st + 9 → w' a i = w a i := fun a i q1 q2 q3 q4 => by rw [← hw', wset_at (fun q => q1 q.1), wset_at (fun q => q4 q.1), wset_at (fun q => q3 q.1), wset_at (fun q => q2 q.1)]
  have e112 : ∀ i, w' 112 i = if i = tg then 0 else w 112 i := fun i => by
    rw [← hw']
    by_cases q : i = tg
    · rw [if_pos q, q, wset_eq]
    · rw [if_neg q, wset_at (by omega), wset_at (by omega), wset_at (by omega), wset_at (by omega)]
  have e7 : ∀ i, w' (st + 7) i = if i = tg then outV res else w (st + 7) i := fun i => by
    rw [← hw', wset_at (by omega), wset_at (by omega), wset_at (by omega)]
    by_cases q : i = tg
    · rw [if_pos q, q, wset_eq]
    · rw [if_neg q, wset_at (by omega)]
  have e8 : ∀ i, w' (st + 8) i = if i = tg then outE res else w (st + 8) i := fun i => by
    rw [← hw', wset_at (by omega), wset_at (by omega)]
    by_cases q : i = tg
    · rw [if_pos q, q, wset_eq]
    · rw [if_neg q, wset_at (by omega), wset_at (by omega)]
  have e9 : ∀ i, w' (st + 9) i = if i = tg then hgt (w (st + 9)) l else w (st + 9) i := fun i => by
    rw [← hw', wset_at (by omega)]
    by_cases q : i = tg
    · rw [if_pos q, q, wset_eq]
    · rw [if_neg q, wset_at (by omega), wset_at (by omega), wset_at (by omega)]
  have e10 : ∀ i, w' (st + 10) i = w (st + 10) i := fun i => c0 _ i (by omega) (by omega) (by omega) (by omega)
  have e108 : ∀ i, w' 108 i = w 108 i := fun i => c0 _ i (by omega) (by omega) (by omega) (by omega)
  have rl : ∀ c l', RdL w (st + 11) (st + 12) c l' → RdL w' (st + 11) (st + 12) c l' := fun c l' hl => hl.cong (c0 _ _ (by omega) (by omega) (by omega) (by omega)) (fun i hi0 hi1 => c0 _ _ (by omega) (by omega) (by omega) (by omega))
  -- away from the new cell nothing has changed
  have env : ∀ x, x ≠ tg → evOf w' st x = evOf w st x := fun x hx => by
    unfold evOf
    rw [e112, if_neg hx, e7, if_neg hx, e8, if_neg hx, c0 (st + 3) x (by omega) (by omega) (by omega) (by omega)]
  have hun : un1 w' = un1 w := by
    have e : un1 w' = un1 (wset w 112 tg 0) := un1_cong (fun c _ _ => by
      rw [e112]
      by_cases q : c = tg
      · rw [if_pos q, q, wset_eq]
      · rw [if_neg q, wset_at (by omega)])
    rw [e, un1_upd t1, t2, if_neg (by decide), if_neg (by decide)]
    omega
  have hkn : ∀ x, x ∈ l → w 112 x = 0 ∧ rng x := fun x hx => by
    have := hA.rd hL t1 h0 hm hx
    refine ⟨this.2.resolve_right (fun z => ?_), this.1⟩
    have := this.1
    unfold rng at this
    omega
  have hntg : ∀ x, w 112 x = 0 → x ≠ tg := fun x hx z => by rw [z, t2] at hx; cases hx
  -- a cell that was worked out without the new one
  have keep : ∀ c l' res', rng c → tx c ≠ [] → Fm (tx c) (evOf w st) [] = (l', res') → blk res' ≠ tg → Fm (tx c) (evOf w' st) [] = (l', res') := fun c l' res' hc hc0 hm' hb' =>
    hA.loc hL hc hc0 hm' (fun x hx => env x (fun z => by
      rcases (hA.rd hL hc hc0 hm' hx).2 with y | y
      · exact hntg x y z
      · exact hb' (y.trans z)))
  have htr : rng tg := t1
  obtain ⟨a1, a2, a3, a4, a5⟩ := hA
  obtain ⟨s1, s2, s3⟩ := hS
  obtain ⟨n1, n2, n3, n4⟩ := hN
  have hem : ∀ c, rng c → tx c = [] → c ≠ tg := fun c q q2 z => h0 (by rw [← z]; exact q2)
  refine ⟨⟨fun c q => ?_, fun c q q2 => ?_, fun c q q2 q3 => ?_, fun c q q2 => ?_, fun c q q2 => ?_⟩, ⟨fun c q q2 q3 => ?_, fun i q1 q2 => ?_, fun i q1 q2 => ?_⟩, ?_, ?_, hun⟩
  · have := a1 c q
    rw [e112, e10, e7, e8]
    by_cases z : c = tg
    · rw [if_pos z, if_pos z, if_pos z]
      exact ⟨Or.inl rfl, this.2.1, hout.2.1, hout.2.2.1⟩
    · rw [if_neg z, if_neg z, if_neg z]
      exact this
  · obtain ⟨g1, g2, g3, g4, g5, g6⟩ := a2 c q q2
    have z := hem c q q2
    rw [e112, e10, e7, e8, e9, if_neg z, if_neg z, if_neg z, if_neg z]
    exact ⟨g1, g2, g3, g4, g5, rl c _ g6⟩
  · by_cases z : c = tg
    · subst z
      rw [e10, e7, e8, e9, if_pos rfl, if_pos rfl, if_pos rfl]
      refine ⟨t3, l, res, keep c l res q q2 hm (fun z => by rw [hb] at z; unfold rng at q; omega), hb, rfl, rfl, rl c _ hrl, ?_⟩
      exact (hgt_cong (fun x hx => by rw [e9, if_neg (hntg x (hkn x hx).1)])).symm
    · rw [e112, if_neg z] at q3
      obtain ⟨b0, l', res', b1, b2, b3, b4, b5, b6⟩ := a3 c q q2 q3
      rw [e10, e7, e8, e9, if_neg z, if_neg z, if_neg z]
      refine ⟨b0, l', res', keep c l' res' q q2 b1 (fun z => by rw [b2] at z; unfold rng at t1; omega), b2, b3, b4, rl c _ b5, ?_⟩
      rw [b6]
      refine (hgt_cong (fun x hx => ?_)).symm
      have hx' : w 112 x = 0 := by
        have hg := gd_Fm (hL c q).1 q2 (evOf w st) [] (fun c h0 h1 => ⟨(a1 c ⟨h0, h1⟩).2.2.1, (a1 c ⟨h0, h1⟩).2.2.2⟩) okl_nil
        rw [b1] at hg
        rcases hg.2.2.1 x hx with y | y | y
        · cases y
        · unfold evOf at y
          dsimp only at y
          by_cases u : w 112 x = 0
          · exact u
          · rw [if_neg u] at y; omega
        · rw [b2] at y
          have := hg.1.2 x hx
          omega
      rw [e9, if_neg (hntg x hx')]
  · by_cases z : c = tg
    · rw [e112, if_pos z] at q2
      exact absurd rfl q2
    · rw [e112, if_neg z] at q2
      rw [e7, e8, e9, if_neg z, if_neg z, if_neg z]
      exact a4 c q q2
  · rw [e10] at q2
    have z : c ≠ tg := fun z => by rw [z, t3] at q2; cases q2
    obtain ⟨b0, l', b, b1, b2, b3, b4⟩ := a5 c q q2
    rw [e112, if_neg z]
    have hbt : b ≠ tg := fun z => by rw [z, t3] at b4; cases b4
    have hc0 : tx c ≠ [] := fun z => by have := (a2 c q z).1; omega
    exact ⟨b0, l', b, keep c l' _ q hc0 b1 hbt, rl c _ b2, b3, by rw [e10]; exact b4⟩
  · have z : c ≠ tg := fun z => by rw [e112, if_pos z] at q2; cases q2
    rw [e112, if_neg z] at q2
    rw [e10] at q3
    obtain ⟨i, i1, i2, i3⟩ := s1 c q q2 q3
    refine ⟨i, i1, ?_, by rw [e108]; exact i3⟩
    have : i ≠ v3 - 1 := fun y => z (by rw [← i3, y, ← ht])
    omega
  · obtain ⟨b1, b2, b3, b4⟩ := s2 i q1 (by omega)
    rw [e108, e112, e10]
    refine ⟨b1, ?_, b3, fun j j1 j2 => by rw [e108]; exact b4 j j1 j2⟩
    rw [if_neg (t4 i q1 (by omega))]
    exact b2
  · obtain ⟨l', b1, b2⟩ := s3 i q1 (by omega)
    obtain ⟨g1, g2, g3, g4⟩ := s2 i q1 (by omega)
    rw [e108, e108]
    have hc0 : tx (w 108 i) ≠ [] := fun z => by have := (a2 _ g1 z).1; omega
    exact ⟨l', keep _ l' _ g1 hc0 b1 (t4 (i + 1) (by omega) (by omega)), rl _ _ b2⟩
  · unfold DN
    rw [hun, c0 109 3 (by decide) (by omega) (by omega) (by omega)]
    exact ⟨⟨n1.1, by omega⟩, fun c q1 q2 => by rw [c0 113 c (by decide) (by omega) (by omega) (by omega)]; exact n2 c q1 q2, by omega, by omega⟩
  · intro c q
    rw [hun, e9, e112]
    by_cases z : c = tg
    · rw [if_pos z, if_pos z]
      refine ⟨hgt_pos, fun _ => ?_⟩
      -- one more than what it reads
      have bd : ∀ (l' : List Int) (a : Int), a + un1 w + (v3 - 1) ≤ 71 → (∀ x, x ∈ l' → w 112 x = 0 ∧ rng x) → l'.foldl (fun a x => max a (w (st + 9) x + 1)) a + un1 w + (v3 - 1) ≤ 71 := by
        intro l'
        induction l' with
        | nil => intro a ha _; exact ha
        | cons y l' ih =>
          intro a ha hx
          simp only [List.foldl_cons]
          refine ih _ ?_ (fun x hx' => hx x (List.mem_cons_of_mem _ hx'))
          have := (hH y (hx y List.mem_cons_self).2).2 (hx y List.mem_cons_self).1
          omega
      exact bd l 0 (by omega) hkn
    · rw [if_neg z, if_neg z]
      have := hH c q
      exact ⟨this.1, fun y => by have := this.2 y; omega⟩
/-- the open cells are found to be a cycle -/
theorem di_mark {b : Int} {l : List Int} {wm : Wd} (hs : am_St st) (hv : 0 < v3) (hm : Fm (tx (w 108 (v3 - 1))) (evOf w st) [] = (l, .inl (4, b))) (hb : rng b) (hb2 : w 112 b = 2) (hrl : RdL w (st + 11) (st + 12) (w 108 (v3 - 1)) l) (hA : DA st tx w) (hS : DS st tx v3 w) (hN : DN (N + 1) v3 w) (hH : DH st v3 w)
    (h1 : ∀ a i, a ≠ st + 10 → wm a i = w a i) (h2 : ∀ i, 0 ≤ i → i < v3 → wm (st + 10) (w 108 i) = 1) (h3 : ∀ c, (∀ i, 0 ≤ i → i < v3 → w 108 i ≠ c) → wm (st + 10) c = w (st + 10) c) : DA st tx wm ∧ DS st tx 0 wm ∧ DN N 0 wm ∧ DH st 0 wm ∧ un1 wm = un1 w := by
  have hr := am_St_rng hs
  have hev : evOf wm st = evOf w st := by
    funext c
    unfold evOf
    rw [h1 112 c (by omega), h1 (st + 7) c (by omega), h1 (st + 8) c (by omega), h1 (st + 3) c (by omega)]
  have rl : ∀ c l', RdL w (st + 11) (st + 12) c l' → RdL wm (st + 11) (st + 12) c l' := fun c l' hl => hl.cong (h1 _ _ (by omega)) (fun i hi0 hi1 => h1 _ _ (by omega))
  have e112 : ∀ i, wm 112 i = w 112 i := fun i => h1 112 i (by omega)
  have e7 : ∀ i, wm (st + 7) i = w (st + 7) i := fun i => h1 _ i (by omega)
  have e8 : ∀ i, wm (st + 8) i = w (st + 8) i := fun i => h1 _ i (by omega)
  have e9f : wm (st + 9) = w (st + 9) := funext (fun i => h1 _ i (by omega))
  have hun : un1 wm = un1 w := un1_cong (fun c _ _ => e112 c)
  obtain ⟨a1, a2, a3, a4, a5⟩ := hA
  obtain ⟨s1, s2, s3⟩ := hS
  obtain ⟨n1, n2, n3, n4⟩ := hN
  have on : ∀ c, (∃ i, 0 ≤ i ∧ i < v3 ∧ w 108 i = c) ∨ (∀ i, 0 ≤ i → i < v3 → w 108 i ≠ c) := fun c => by
    by_cases q : ∃ i, 0 ≤ i ∧ i < v3 ∧ w 108 i = c
    · exact Or.inl q
    · exact Or.inr (fun i i1 i2 i3 => q ⟨i, i1, i2, i3⟩)
  have not0 : ∀ c, w 112 c ≠ 2 → wm (st + 10) c = w (st + 10) c := fun c hc => h3 c (fun i i1 i2 i3 => hc (by rw [← i3]; exact (s2 i i1 i2).2.1))
  have two : ∀ c, rng c → w 112 c = 2 → wm (st + 10) c = 1 := fun c hc hc2 => by
    rcases on c with ⟨i, i1, i2, i3⟩ | q
    · rw [← i3]; exact h2 i i1 i2
    · rcases (a1 c hc).2.1 with z | z
      · obtain ⟨i, i1, i2, i3⟩ := s1 c hc hc2 z
        exact absurd i3 (q i i1 i2)
      · rw [h3 c q]; exact z
  refine ⟨⟨fun c q => ?_, fun c q q2 => ?_, fun c q q2 q3 => ?_, fun c q q2 => ?_, fun c q q2 => ?_⟩, ⟨fun c q q2 q3 => ?_, fun i q1 q2 => by omega, fun i q1 q2 => by omega⟩, ?_, ?_, hun⟩
  · have := a1 c q
    rw [e112, e7, e8]
    refine ⟨this.1, ?_, this.2.2⟩
    rcases on c with ⟨i, i1, i2, i3⟩ | y
    · right; rw [← i3]; exact h2 i i1 i2
    · rw [h3 c y]; exact this.2.1
  · obtain ⟨g1, g2, g3, g4, g5, g6⟩ := a2 c q q2
    rw [e112, e7, e8, e9f, not0 c (by omega)]
    exact ⟨g1, g2, g3, g4, g5, rl c _ g6⟩
  · rw [e112] at q3
    obtain ⟨b0, l', res, b1, b2, b3, b4, b5, b6⟩ := a3 c q q2 q3
    rw [e7, e8, e9f, hev, not0 c (by omega)]
    exact ⟨b0, l', res, b1, b2, b3, b4, rl c _ b5, b6⟩
  · rw [e112] at q2
    rw [e7, e8, e9f]
    exact a4 c q q2
  · rw [e112, hev]
    rcases on c with ⟨i, i1, i2, i3⟩ | y
    · obtain ⟨g1, g2, g3, g4⟩ := s2 i i1 i2
      rw [← i3]
      refine ⟨g2, ?_⟩
      by_cases z : i + 1 < v3
      · obtain ⟨l', b1, b2⟩ := s3 i i1 z
        obtain ⟨p1, _⟩ := s2 (i + 1) (by omega) z
        exact ⟨l', _, b1, rl _ _ b2, p1, h2 (i + 1) (by omega) z⟩
      · have : i = v3 - 1 := by omega
        rw [this]
        exact ⟨l, b, hm, rl _ _ hrl, hb, two b hb hb2⟩
    · rw [h3 c y] at q2
      obtain ⟨b0, l', b', b1, b2, b3, b4⟩ := a5 c q q2
      have := (a5 b' b3 b4).1
      exact ⟨b0, l', b', b1, rl c _ b2, b3, two b' b3 this⟩
  · rw [e112] at q2
    have := two c q q2
    omega
  · unfold DN
    rw [hun, h1 109 3 (by omega)]
    exact ⟨⟨n1.1, by omega⟩, fun c q1 q2 => by rw [h1 113 c (by omega)]; exact n2 c q1 q2, by omega, by omega⟩
  · intro c q
    rw [hun, e9f, e112]
    have := hH c q
    exact ⟨this.1, fun y => by have := this.2 y; omega⟩
end BCS
