/-! the program works out all cells: one that waits stands on a stack -/
def RdL (w : Wd) (A B c : Int) (l : List Int) : Prop := w A c = l.length ∧ (∀ j : Nat, j < l.length → w B (c * 72 + j) = l.getD j 0) ∧ OkL l
def CL (w : Wd) (st : Int) (tx : Int → List Int) : Prop := ∀ c, rng c → Wf (tx c) ∧ w (st + 3) c = (tx c).length ∧ ∀ j : Nat, j < (tx c).length → w (st + 2) (c * 30 + j) = (tx c).getD j 0
def FrW (st : Int) (w w' : Wd) : Prop := ∀ a i, a ≠ 108 → a ≠ 110 → a ≠ 112 → a ≠ 113 → ¬ (a = 109 ∧ 3 ≤ i ∧ i ≤ 7) → ¬ (st + 7 ≤ a ∧ a ≤ st + 12) → w' a i = w a i
def emT (tx : Int → List Int) : Int → Int := fun c => if tx c = [] then 0 else 1
theorem RdL.len {w : Wd} {A B c : Int} {l : List Int} (h : RdL w A B c l) : l.length ≤ 72 := nodup_len 72 _ h.2.2.1 h.2.2.2
theorem RdL.cong {w w' : Wd} {A B c : Int} {l : List Int} (h : RdL w A B c l) (h1 : w' A c = w A c) (h2 : ∀ i, c * 72 ≤ i → i < c * 72 + 72 → w' B i = w B i) : RdL w' A B c l := by
  have := h.len
  exact ⟨by rw [h1]; exact h.1, fun j hj => by rw [h2 _ (by omega) (by omega)]; exact h.2.1 j hj, h.2.2⟩
section BBS
variable {st tg : Int} {tx : Int → List Int} {w w0 w1 : Wd} {d : Nat} {K : Int → Wd → Prop} {KV : Wd → Prop} {N v3 : Int}
theorem CL.fr (h : CL w0 st tx) (hs : am_St st) (hf : FrW st w0 w) : CL w st tx := by
  have hr := am_St_rng hs
  unfold am_St at hs
  intro c hc
  obtain ⟨a1, a2, a3⟩ := h c hc
  refine ⟨a1, ?_, fun j hj => ?_⟩
  · rw [hf (st + 3) c (by omega) (by omega) (by omega) (by omega) (by omega) (by omega)]; exact a2
  · rw [hf (st + 2) _ (by omega) (by omega) (by omega) (by omega) (by omega) (by omega)]; exact a3 j hj
theorem s_eval (hd : 400 ≤ d) (hs : am_St st) (ht : rng tg) (hL : CL w st tx) (h0 : tx tg ≠ []) (hE : OkE (evOf w st)) (hev : 0 ≤ w 109 3 ∧ w 109 3 < 2147483647) (hrb : ∀ c, 0 ≤ c → c < 72 → w 113 c ≤ w 109 3)
    (k : ∀ l res w', Fm (tx tg) (evOf w st) [] = (l, res) → EvEnd w st tg l (outE res) (blk res) w' → K (outV res) w') : C_X3_evaluate d [.inr (.inr 109), .inr (.inr st), .inl tg] w K := by
  obtain ⟨a1, a2, a3⟩ := hL tg ht
  have hl0 : ((tx tg).length : Int) ≠ 0 := fun z => h0 (List.eq_nil_of_length_eq_zero (by omega))
  have hl := a1.1
  refine s_evaluate (t := lt (tx tg)) hd hs ht (by rw [a2]; omega) (by rw [a2]; exact hl0) (fun i hi0 hi1 => ?_) (by rw [a2]; exact a1.2 h0) hE hev hrb (fun l x w' hm h' => ?_) (fun l r w' hm h' => ?_)
  · have := a3 i.toNat (by rw [a2] at hi1; omega)
    rw [show ((i.toNat : Nat) : Int) = i by omega] at this
    exact this
  · rw [a2] at hm
    exact k l (.inl x) w' (Fm_inl hm) h'
  · rw [a2] at hm
    exact k l (.inr r.1) w' (Fm_inr hm) h'
theorem EvEnd.env {l : List Int} {e b : Int} (hs : am_St st) (h : EvEnd w st tg l e b w1) : evOf w1 st = evOf w st := by
  have hr := am_St_rng hs
  funext c
  unfold evOf
  rw [h.1 112 c (by decide) (by decide) (by decide) (by omega) (by omega), h.1 (st + 7) c (by omega) (by omega) (by omega) (by omega) (by omega), h.1 (st + 8) c (by omega) (by omega) (by omega) (by omega) (by omega), h.1 (st + 3) c (by omega) (by omega) (by omega) (by omega) (by omega)]
theorem EvEnd.frw {l : List Int} {e b : Int} (hs : am_St st) (h : EvEnd w st tg l e b w1) : FrW st w w1 := by
  have hr := am_St_rng hs
  intro a i h1 h2 h3 h4 h5 h6
  by_cases q : a = 109
  · subst q
    exact h.2.1 i (by omega)
  · exact h.1 a i q h2 h4 (by omega) (by omega)
theorem FrW.refl : FrW st w w := fun _ _ _ _ _ _ _ _ => rfl
theorem FrW.trans {w2 : Wd} (h1 : FrW st w w1) (h2 : FrW st w1 w2) : FrW st w w2 := fun a i q1 q2 q3 q4 q5 q6 => by rw [h2 a i q1 q2 q3 q4 q5 q6]; exact h1 a i q1 q2 q3 q4 q5 q6
/-- what stands in the arrays of a state -/
def DA (st : Int) (tx : Int → List Int) (w : Wd) : Prop :=
  (∀ c, rng c → (w 112 c = 0 ∨ w 112 c = 1 ∨ w 112 c = 2) ∧ (w (st + 10) c = 0 ∨ w (st + 10) c = 1) ∧ PV (w (st + 7) c) ∧ 0 ≤ w (st + 8) c ∧ w (st + 8) c ≤ 4) ∧
  (∀ c, rng c → tx c = [] → w 112 c = 0 ∧ w (st + 7) c = 0 ∧ w (st + 8) c = 0 ∧ w (st + 9) c = 0 ∧ w (st + 10) c = 0 ∧ RdL w (st + 11) (st + 12) c []) ∧
  (∀ c, rng c → tx c ≠ [] → w 112 c = 0 → w (st + 10) c = 0 ∧ ∃ l res, Fm (tx c) (evOf w st) [] = (l, res) ∧ blk res = -1 ∧ w (st + 7) c = outV res ∧ w (st + 8) c = outE res ∧ RdL w (st + 11) (st + 12) c l ∧ w (st + 9) c = hgt (w (st + 9)) l) ∧
  (∀ c, rng c → w 112 c ≠ 0 → w (st + 7) c = 0 ∧ w (st + 8) c = 0 ∧ w (st + 9) c = 0) ∧
  (∀ c, rng c → w (st + 10) c = 1 → w 112 c = 2 ∧ ∃ l b, Fm (tx c) (evOf w st) [] = (l, .inl (4, b)) ∧ RdL w (st + 11) (st + 12) c l ∧ rng b ∧ w (st + 10) b = 1)
def DS (st : Int) (tx : Int → List Int) (v3 : Int) (w : Wd) : Prop :=
  (∀ c, rng c → w 112 c = 2 → w (st + 10) c = 0 → ∃ i, 0 ≤ i ∧ i < v3 ∧ w 108 i = c) ∧
  (∀ i, 0 ≤ i → i < v3 → rng (w 108 i) ∧ w 112 (w 108 i) = 2 ∧ w (st + 10) (w 108 i) = 0 ∧ ∀ j, 0 ≤ j → j < i → w 108 j ≠ w 108 i) ∧
  (∀ i, 0 ≤ i → i + 1 < v3 → ∃ l, Fm (tx (w 108 i)) (evOf w st) [] = (l, .inl (4, w 108 (i + 1))) ∧ RdL w (st + 11) (st + 12) (w 108 i) l)
def un1 (w : Wd) : Int := sm 72 (fun c => if w 112 c = 1 then 1 else 0)
def DN (N v3 : Int) (w : Wd) : Prop := (0 ≤ w 109 3 ∧ w 109 3 + 2 * un1 w + v3 ≤ N) ∧ (∀ c, 0 ≤ c → c < 72 → w 113 c ≤ w 109 3) ∧ 0 ≤ v3 ∧ un1 w + v3 ≤ 72
theorem un1_pos : 0 ≤ un1 w := by
  have := (sm_bd (f := fun c => if w 112 c = 1 then (1 : Int) else 0) (a := 0) (b := 1) 72 (fun c _ _ => by split <;> omega)).1
  unfold un1
  omega
theorem un1_le : un1 w ≤ 72 := by
  have := (sm_bd (f := fun c => if w 112 c = 1 then (1 : Int) else 0) (a := 0) (b := 1) 72 (fun c _ _ => by split <;> omega)).2
  unfold un1
  omega
theorem un1_one {c : Int} (hc : rng c) (h : w 112 c = 1) : 1 ≤ un1 w := by
  have h2 := sm_upd (f := fun x => if w 112 x = 1 then (1 : Int) else 0) (g := fun x => if x = c then (0 : Int) else if w 112 x = 1 then 1 else 0) (c := c) 72 hc.1 hc.2 (fun x hx => if_neg hx)
  have h3 := (sm_bd (f := fun x => if x = c then (0 : Int) else if w 112 x = 1 then 1 else 0) (a := 0) (b := 1) 72 (fun x _ _ => by split; exact ⟨by decide, by decide⟩; split <;> omega)).1
  rw [if_pos h, if_pos rfl] at h2
  unfold un1
  omega
theorem un1_upd {c x : Int} (hc : rng c) : un1 (wset w 112 c x) = un1 w - (if w 112 c = 1 then 1 else 0) + (if x = 1 then 1 else 0) := by
  unfold un1
  have := sm_upd (f := fun y => if w 112 y = 1 then (1 : Int) else 0) (g := fun y => if wset w 112 c x 112 y = 1 then (1 : Int) else 0) (c := c) 72 hc.1 hc.2 (fun y hy => by rw [wset_at (fun q => hy q.2)])
  rw [wset_eq] at this
  exact this
theorem un1_cong (h : ∀ c, 0 ≤ c → c < 72 → w1 112 c = w 112 c) : un1 w1 = un1 w := sm_cong 72 (fun c h0 h1 => by rw [h c h0 h1])
theorem DA.okE (h : DA st tx w) : OkE (evOf w st) := fun c h0 h1 => ⟨(h.1 c ⟨h0, h1⟩).2.2.1, (h.1 c ⟨h0, h1⟩).2.2.2⟩
theorem ev_len {c : Int} (hL : CL w st tx) (hc : rng c) : (evOf w st c).2.2 = emT tx c := by
  unfold evOf emT
  dsimp only
  rw [(hL c hc).2.1]
  by_cases q : tx c = []
  · rw [if_pos q, if_pos (by rw [q]; rfl)]
  · rw [if_neg q, if_neg (fun z => q (List.eq_nil_of_length_eq_zero (by omega)))]
/-- what a cell reads is known, or what stops it -/
theorem DA.rd (h : DA st tx w) (hL : CL w st tx) {c x : Int} {l : List Int} {res : (Int × Int) ⊕ Int} (hc : rng c) (h0 : tx c ≠ []) (hm : Fm (tx c) (evOf w st) [] = (l, res)) (hx : x ∈ l) : rng x ∧ (w 112 x = 0 ∨ blk res = x) := by
  have hg := gd_Fm (hL c hc).1 h0 (evOf w st) [] h.okE okl_nil
  rw [hm] at hg
  refine ⟨hg.1.2 x hx, ?_⟩
  rcases hg.2.2.1 x hx with z | z | z
  · cases z
  · left
    unfold evOf at z
    dsimp only at z
    by_cases q : w 112 x = 0
    · exact q
    · rw [if_neg q] at z; omega
  · exact Or.inr z
theorem DA.loc (h : DA st tx w) (hL : CL w st tx) {c : Int} {l : List Int} {res : (Int × Int) ⊕ Int} {e' : Env'} (hc : rng c) (h0 : tx c ≠ []) (hm : Fm (tx c) (evOf w st) [] = (l, res)) (he : ∀ x, x ∈ l → e' x = evOf w st x) : Fm (tx c) e' [] = (l, res) := by
  have hg := (gd_Fm (hL c hc).1 h0 (evOf w st) [] h.okE okl_nil).2.2.2.1.1 e' (by rw [hm]; exact he)
  rw [hg]; exact hm
theorem DA.out (h : DA st tx w) (hL : CL w st tx) {c : Int} {l : List Int} {res : (Int × Int) ⊕ Int} (hc : rng c) (h0 : tx c ≠ []) (hm : Fm (tx c) (evOf w st) [] = (l, res)) : OkL l ∧ PV (outV res) ∧ (0 ≤ outE res ∧ outE res ≤ 4) ∧ (blk res ≠ -1 → rng (blk res) ∧ w 112 (blk res) ≠ 0 ∧ res = .inl (4, blk res)) := by
  have hg := gd_Fm (hL c hc).1 h0 (evOf w st) [] h.okE okl_nil
  rw [hm] at hg
  obtain ⟨g1, _, g3, _, g5⟩ := hg
  refine ⟨g1, ?_, ?_, ?_⟩
  · cases res with
    | inl x => exact ⟨by show -1000000000 ≤ (0 : Int); decide, by show (0 : Int) ≤ _; decide⟩
    | inr v => exact g5
  · cases res with
    | inl x => exact ⟨by have := g5.1.1; show 0 ≤ x.1; omega, g5.1.2⟩
    | inr v => exact ⟨Int.le_refl 0, by show (0 : Int) ≤ 4; decide⟩
  · intro hb
    cases res with
    | inr v => exact absurd rfl hb
    | inl x =>
      rcases g5.2 with z | ⟨z1, z2, z3⟩
      · exact absurd z hb
      · refine ⟨g1.2 x.2 z2, ?_, ?_⟩
        · intro q
          apply z3
          show (if w 112 x.2 = 0 then (0 : Int) else 1) = 0
          exact if_pos q
        · show Sum.inl x = Sum.inl (4, x.2)
          rw [← z1]
/-- the top of the stack is worked out -/
theorem di_ev {l : List Int} {e b : Int} (hs : am_St st) (hc : rng tg) (h2 : w 112 tg = 2) (h10 : w (st + 10) tg = 0) (htop : ∀ i, 0 ≤ i → i + 1 < v3 → w 108 i ≠ tg) (hA : DA st tx w) (hS : DS st tx v3 w) (hN : DN N v3 w) (h : EvEnd w st tg l e b w1) : DA st tx w1 ∧ DS st tx v3 w1 ∧ DN (N + 1) v3 w1 ∧ RdL w1 (st + 11) (st + 12) tg l := by
  have hr := am_St_rng hs
  have hev := h.env hs
  have c0 : ∀ a i, a ≠ 109 → a ≠ 110 → a ≠ 113 → a ≠ st + 11 → a ≠ st + 12 → w1 a i = w a i := fun a i q1 q2 q3 q4 q5 => h.1 a i q1 q2 q3 (fun z => q4 z.1) (fun z => q5 z.1)
  have e112 : ∀ i, w1 112 i = w 112 i := fun i => c0 112 i (by decide) (by decide) (by decide) (by omega) (by omega)
  have e108 : ∀ i, w1 108 i = w 108 i := fun i => c0 108 i (by decide) (by decide) (by decide) (by omega) (by omega)
  have e7 : ∀ i, w1 (st + 7) i = w (st + 7) i := fun i => c0 _ i (by omega) (by omega) (by omega) (by omega) (by omega)
  have e8 : ∀ i, w1 (st + 8) i = w (st + 8) i := fun i => c0 _ i (by omega) (by omega) (by omega) (by omega) (by omega)
  have e9 : ∀ i, w1 (st + 9) i = w (st + 9) i := fun i => c0 _ i (by omega) (by omega) (by omega) (by omega) (by omega)
  have e9f : w1 (st + 9) = w (st + 9) := funext e9
  have e10 : ∀ i, w1 (st + 10) i = w (st + 10) i := fun i => c0 _ i (by omega) (by omega) (by omega) (by omega) (by omega)
  have rl : ∀ c l', c ≠ tg → RdL w (st + 11) (st + 12) c l' → RdL w1 (st + 11) (st + 12) c l' := fun c l' hne hl => hl.cong (h.1 _ _ (by omega) (by omega) (by omega) (by omega) (by omega)) (fun i hi0 hi1 => h.1 _ _ (by omega) (by omega) (by omega) (by omega) (by omega))
  obtain ⟨a1, a2, a3, a4, a5⟩ := hA
  obtain ⟨s1, s2, s3⟩ := hS
  refine ⟨⟨fun c q => ?_, fun c q q2 => ?_, fun c q q2 q3 => ?_, fun c q q2 => ?_, fun c q q2 => ?_⟩, ⟨fun c q q2 q3 => ?_, fun i q1 q2 => ?_, fun i q1 q2 => ?_⟩, ?_, h.2.2.2.1, h.2.2.2.2.1, h.2.2.2.2.2.1⟩
  · rw [e112, e10, e7, e8]; exact a1 c q
  · have := a2 c q q2
    rw [e112, e10, e7, e8, e9]
    refine ⟨this.1, this.2.1, this.2.2.1, this.2.2.2.1, this.2.2.2.2.1, rl c _ (fun z => ?_) this.2.2.2.2.2⟩
    have := this.1
    rw [z, h2] at this
    cases this
  · rw [e112] at q3
    obtain ⟨b0, l', res, b1, b2, b3, b4, b5, b6⟩ := a3 c q q2 q3
    rw [e10, e7, e8, e9f, hev]
    exact ⟨b0, l', res, b1, b2, b3, b4, rl c _ (fun z => by rw [z, h2] at q3; cases q3) b5, b6⟩
  · rw [e112] at q2
    rw [e7, e8, e9]
    exact a4 c q q2
  · rw [e10] at q2
    obtain ⟨b0, l', b, b1, b2, b3, b4⟩ := a5 c q q2
    rw [e112, hev]
    exact ⟨b0, l', b, b1, rl c _ (fun z => by rw [z, h10] at q2; cases q2) b2, b3, by rw [e10]; exact b4⟩
  · rw [e112] at q2
    rw [e10] at q3
    obtain ⟨i, i1, i2, i3⟩ := s1 c q q2 q3
    exact ⟨i, i1, i2, by rw [e108]; exact i3⟩
  · obtain ⟨b1, b2, b3, b4⟩ := s2 i q1 q2
    rw [e108, e112, e10]
    exact ⟨b1, b2, b3, fun j j1 j2 => by rw [e108]; exact b4 j j1 j2⟩
  · obtain ⟨l', b1, b2⟩ := s3 i q1 q2
    rw [e108, e108, hev]
    exact ⟨l', b1, rl _ _ (htop i q1 q2) b2⟩
  · obtain ⟨n1, n2, n3, n4⟩ := hN
    have hu : un1 w1 = un1 w := un1_cong (fun c _ _ => e112 c)
    unfold DN
    rw [hu, h.2.2.1.1]
    exact ⟨⟨by omega, by omega⟩, fun c q1 q2 => by have := h.2.2.2.2.2.2 c q1 q2; rw [h.2.2.1.1] at this; exact this, n3, n4⟩
/-- a cell is opened behind those that are open -/
theorem di_open {b : Int} (hs : am_St st) (hb : rng b) (h1 : w 112 b = 1) (hA : DA st tx w) (hS : DS st tx v3 w) (hN : DN (N + 1) v3 w) (htop : 0 < v3 → ∃ l, Fm (tx (w 108 (v3 - 1))) (evOf w st) [] = (l, .inl (4, b)) ∧ RdL w (st + 11) (st + 12) (w 108 (v3 - 1)) l) :
    v3 < 72 ∧ DA st tx (wset (wset w 112 b 2) 108 v3 b) ∧ DS st tx (v3 + 1) (wset (wset w 112 b 2) 108 v3 b) ∧ DN N (v3 + 1) (wset (wset w 112 b 2) 108 v3 b) := by
  have hr := am_St_rng hs
  have hu := un1_one hb h1
  obtain ⟨n1, n2, n3, n4⟩ := hN
  have hv3 : v3 < 72 := by omega
  generalize hw' : wset (wset w 112 b 2) 108 v3 b = w'
  have c0 : ∀ a i, a ≠ 112 → a ≠ 108 → w' a i = w a i := fun a i q1 q2 => by rw [← hw', wset_at (fun q => q2 q.1), wset_at (fun q => q1 q.1)]
  have e112 : ∀ i, w' 112 i = if i = b then 2 else w 112 i := fun i => by
    rw [← hw', wset_at (by omega)]
    by_cases q : i = b
    · rw [if_pos q, q, wset_eq]
    · rw [if_neg q, wset_at (by omega)]
  have e108 : ∀ i, i < v3 → w' 108 i = w 108 i := fun i hi => by rw [← hw', wset_at (by omega), wset_at (by omega)]
  have e108b : w' 108 v3 = b := by rw [← hw', wset_eq]
  have hev : evOf w' st = evOf w st := by
    funext c
    unfold evOf
    rw [c0 (st + 7) c (by omega) (by omega), c0 (st + 8) c (by omega) (by omega), c0 (st + 3) c (by omega) (by omega), e112]
    by_cases q : c = b
    · rw [if_pos q, q, h1, if_neg (show ¬ (2 : Int) = 0 by decide), if_neg (show ¬ (1 : Int) = 0 by decide)]
    · rw [if_neg q]
  have rl : ∀ c l', RdL w (st + 11) (st + 12) c l' → RdL w' (st + 11) (st + 12) c l' := fun c l' hl => hl.cong (c0 _ _ (by omega) (by omega)) (fun i hi0 hi1 => c0 _ _ (by omega) (by omega))
  have e7 : ∀ i, w' (st + 7) i = w (st + 7) i := fun i => c0 _ i (by omega) (by omega)
  have e8 : ∀ i, w' (st + 8) i = w (st + 8) i := fun i => c0 _ i (by omega) (by omega)
  have e9f : w' (st + 9) = w (st + 9) := funext (fun i => c0 _ i (by omega) (by omega))
  have e10 : ∀ i, w' (st + 10) i = w (st + 10) i := fun i => c0 _ i (by omega) (by omega)
  have mk : ∀ c m, m ≠ 2 → (w' 112 c = m ↔ (c ≠ b ∧ w 112 c = m)) := fun c m hm => by
    rw [e112]
    by_cases q : c = b
    · rw [if_pos q]; exact ⟨fun z => absurd z.symm hm, fun z => absurd q z.1⟩
    · rw [if_neg q]; exact ⟨fun z => ⟨q, z⟩, fun z => z.2⟩
  obtain ⟨a1, a2, a3, a4, a5⟩ := hA
  obtain ⟨s1, s2, s3⟩ := hS
  have hb10 : w (st + 10) b = 0 := by
    rcases (a1 b hb).2.1 with z | z
    · exact z
    · have := (a5 b hb z).1
      omega
  have hem : ∀ c, rng c → tx c = [] → c ≠ b := fun c q q2 z => by
    have := (a2 c q q2).1
    rw [z, h1] at this
    cases this
  refine ⟨hv3, ⟨fun c q => ?_, fun c q q2 => ?_, fun c q q2 q3 => ?_, fun c q q2 => ?_, fun c q q2 => ?_⟩, ⟨fun c q q2 q3 => ?_, fun i q1 q2 => ?_, fun i q1 q2 => ?_⟩, ?_⟩
  · rw [e112, e10, e7, e8]
    have := a1 c q
    refine ⟨?_, this.2⟩
    by_cases z : c = b
    · rw [if_pos z]; exact Or.inr (Or.inr rfl)
    · rw [if_neg z]; exact this.1
  · obtain ⟨g1, g2, g3, g4, g5, g6⟩ := a2 c q q2
    rw [e112, if_neg (hem c q q2), e10, e7, e8, e9f]
    exact ⟨g1, g2, g3, g4, g5, rl c _ g6⟩
  · obtain ⟨b0, l', res, b1, b2, b3, b4, b5, b6⟩ := a3 c q q2 ((mk c 0 (by decide)).mp q3).2
    rw [e10, e7, e8, e9f, hev]
    exact ⟨b0, l', res, b1, b2, b3, b4, rl c _ b5, b6⟩
  · rw [e7, e8, e9f]
    refine a4 c q (fun z => ?_)
    by_cases y : c = b
    · rw [y, h1] at z; cases z
    · exact q2 ((mk c 0 (by decide)).mpr ⟨y, z⟩)
  · rw [e10] at q2
    obtain ⟨b0, l', b', b1, b2, b3, b4⟩ := a5 c q q2
    rw [e112, hev]
    refine ⟨?_, l', b', b1, rl c _ b2, b3, by rw [e10]; exact b4⟩
    split
    · rfl
    · exact b0
  · by_cases z : c = b
    · exact ⟨v3, n3, by omega, by rw [e108b, z]⟩
    · rw [e112, if_neg z] at q2
      rw [e10] at q3
      obtain ⟨i, i1, i2, i3⟩ := s1 c q q2 q3
      exact ⟨i, i1, by omega, by rw [e108 i i2]; exact i3⟩
  · by_cases z : i = v3
    · rw [z, e108b, e112, if_pos rfl, e10]
      refine ⟨hb, rfl, hb10, fun j j1 j2 y => ?_⟩
      rw [e108 j j2] at y
      have := (s2 j j1 j2).2.1
      rw [y, h1] at this
      cases this
    · have hi : i < v3 := by omega
      obtain ⟨b1, b2, b3, b4⟩ := s2 i q1 hi
      rw [e108 i hi, e112, e10]
      refine ⟨b1, ?_, b3, fun j j1 j2 => by rw [e108 j (by omega)]; exact b4 j j1 j2⟩
      split
      · rfl
      · exact b2
  · rw [e108 i (by omega), hev]
    by_cases z : i + 1 = v3
    · rw [z, e108b]
      obtain ⟨l, t1, t2⟩ := htop (by omega)
      rw [show v3 - 1 = i by omega] at t1 t2
      exact ⟨l, t1, rl _ _ t2⟩
    · obtain ⟨l', b1, b2⟩ := s3 i q1 (by omega)
      rw [e108 (i + 1) (by omega)]
      exact ⟨l', b1, rl _ _ b2⟩
  · have hu2 : un1 w' = un1 w - 1 := by
      have e : un1 w' = un1 (wset w 112 b 2) := un1_cong (fun c _ _ => by rw [← hw', wset_at (by omega)])
      rw [e, un1_upd hb, if_pos h1, if_neg (by decide)]
      omega
    unfold DN
    rw [hu2, c0 109 3 (by decide) (by decide)]
    exact ⟨⟨n1.1, by omega⟩, fun c q1 q2 => by rw [c0 113 c (by decide) (by decide)]; exact n2 c q1 q2, by omega, by omega⟩
end BBS
