/-! leaves of the reference's evaluator: reading a cell, taking, skipping -/
def mwr (y : Int × Int) : Int := if y.2 = -1 then y.1 else 0
def mbl (y : Int × Int) : Int := if y.2 = -1 then 0 else 1
section MGS
variable {w0 w B : Wd} {c n p δ wr bl wa is x : Int} {t : Int → Int} {env : Env'} {l : List Int} {fr : Int → Int} {d : Nat} {K : Int → Wd → Prop} {KV : Wd → Prop}
theorem MF.rd (hc : 0 ≤ c ∧ c < 72) (h : MF w0 c B l p δ wr bl wa is fr w) (hx : 0 ≤ x ∧ x < 72) (hl : x ∉ l) : MF w0 c B (addr l x) p δ wr bl wa is fr (wset (wset w 124 (72 * c + l.length) x) 123 c (l.length + 1)) ∧ l.length < 72 := by
  obtain ⟨h1, ⟨g1, g2, g3, g4, g5, g6, g7⟩, h3, h4, h5, h6⟩ := h
  have hk := addr_ok h6 hx
  have hlen := nodup_len 72 _ hk.1 hk.2
  have ea : addr l x = l ++ [x] := if_neg hl
  rw [ea] at hk hlen ⊢
  rw [List.length_append, List.length_singleton] at hlen
  refine ⟨⟨fun b j hj => ?_, ⟨by rw [wset_at (by omega), wset_at (by omega)]; exact g1, by rw [wset_at (by omega), wset_at (by omega)]; exact g2, by rw [wset_at (by omega), wset_at (by omega)]; exact g3, by rw [wset_at (by omega), wset_at (by omega)]; exact g4, by rw [wset_at (by omega), wset_at (by omega)]; exact g5, by rw [wset_at (by omega), wset_at (by omega)]; exact g6, by rw [wset_at (by omega), wset_at (by omega)]; exact g7⟩, fun b h0 hb => ⟨?_, fun j hj => ?_⟩, ?_, fun j hj => ?_, hk⟩, by omega⟩
  · rw [wset_at (fun q => hj.2.2.1 ⟨by omega, by omega⟩), wset_at (fun q => hj.2.2.2 ⟨by omega, by omega⟩)]
    exact h1 b j hj
  · rw [wset_at (by omega), wset_at (by omega)]
    exact (h3 b h0 hb).1
  · rw [wset_at (by omega), wset_at (by omega)]
    exact (h3 b h0 hb).2 j hj
  · rw [wset_eq, List.length_append, List.length_singleton]; rfl
  · rw [wset_at (by omega)]
    rw [List.length_append, List.length_singleton] at hj
    by_cases q : j = l.length
    · rw [q, wset_eq, List.getD_eq_getElem?_getD, List.getElem?_append_right (Nat.le_refl _), Nat.sub_self]
      rfl
    · rw [wset_at (by omega), h5 j (by omega), List.getD_eq_getElem?_getD, List.getD_eq_getElem?_getD, List.getElem?_append_left (by omega)]
theorem mf_reading (hM : MSt w0 c t n env) (hd : 2 ≤ d) (h : MF w0 c B l p δ 0 0 wa is fr w) (hx : 0 ≤ x ∧ x < 72)
    (kerr : ∀ l1 y w' v, mread x env l = (l1, .inl y) → MF w0 c B l1 p δ (mwr y) (mbl y) wa is fr w' → (1 ≤ y.1 ∧ y.1 ≤ 4) → K v w')
    (kok : ∀ l1 v w', mread x env l = (l1, .inr v) → PV v → MF w0 c B l1 p δ 0 0 wa is fr w' → K v w') : C_X9_reading d [.inr (.inr 115), .inl x] w K := by
  refine ⟨1, hd, e_X9_reading ?_⟩
  have hm := hM
  obtain ⟨m1, m2, m3, m4, m5, m6⟩ := hM
  have hx6 := m6 x hx.1 hx.2
  have hE := m5 x hx.1 hx.2
  have tail : ∀ w1, MF w0 c B (addr l x) p δ 0 0 wa is fr w1 → (0 ≤ x ∧ x < 72) ∧ ((¬ (w1 131 x) = 0 → (∀ w2, w2 = wset w1 115 39 0 → ((¬ (w2 115 39) = 0 → (0 ≤ x ∧ x < 72) ∧ K (w2 119 x) w2) ∧ ((w2 115 39) = 0 → (0 ≤ x ∧ x < 72) ∧ (((w2 120 x) ≤ 0 → (0 ≤ x ∧ x < 72) ∧ K (w2 119 x) w2) ∧ (¬ ((w2 120 x) ≤ 0) → (0 ≤ x ∧ x < 72) ∧ C_X9_fails 1 [.inr (.inr 115), .inl (w2 120 x)] w2 (fun w3 => (0 ≤ x ∧ x < 72) ∧ K (w3 119 x) w3))))))) ∧ ((w1 131 x) = 0 → (∀ w4, w4 = wset w1 115 39 1 → ((¬ (w4 115 39) = 0 → (0 ≤ x ∧ x < 72) ∧ K (w4 119 x) w4) ∧ ((w4 115 39) = 0 → (0 ≤ x ∧ x < 72) ∧ (((w4 120 x) ≤ 0 → (0 ≤ x ∧ x < 72) ∧ K (w4 119 x) w4) ∧ (¬ ((w4 120 x) ≤ 0) → (0 ≤ x ∧ x < 72) ∧ C_X9_fails 1 [.inr (.inr 115), .inl (w4 120 x)] w4 (fun w5 => (0 ≤ x ∧ x < 72) ∧ K (w5 119 x) w5)))))))) := by
    intro w1 h1
    have e131 : w1 131 x = w0 131 x := h1.1 131 x (by unfold MOff; omega)
    refine ⟨hx, fun q => ?_, fun q => ?_⟩
    · rw [e131] at q
      have hk := hx6.1.mp q
      rintro w2 rfl
      have h2 := h1.sbl 0
      have e119 := h2.1 119 x (by unfold MOff; omega)
      have e120 := h2.1 120 x (by unfold MOff; omega)
      rw [e120, hx6.2.2.1, e119, hx6.2.1]
      refine ⟨fun z => absurd h2.2.1.2.2.2.1 z, fun _ => ⟨hx, fun q2 => ⟨hx, ?_⟩, fun q2 => ⟨hx, ?_⟩⟩⟩
      · exact kok _ _ _ (by unfold mread; rw [if_pos hk, if_pos (by omega)]) hE.1 h2
      · refine mf_fails (by decide) h2 (fun w3 h3 => ⟨hx, ?_⟩)
        exact kerr _ ((env x).2.1, -1) _ _ (by unfold mread; rw [if_pos hk, if_neg (by omega)]) h3 (by dsimp only; omega)
    · rw [e131] at q
      have hk : ¬ (env x).1.1 = 0 := fun z => hx6.1.mpr z q
      rintro w4 rfl
      have h2 := h1.sbl 1
      refine ⟨fun _ => ⟨hx, ?_⟩, fun z => absurd (h2.2.1.2.2.2.1.symm.trans z) (by decide)⟩
      refine kerr _ (4, x) _ _ (by unfold mread; rw [if_neg hk]) ?_ (by dsimp only; omega)
      unfold mwr mbl
      dsimp only
      rw [if_neg (by omega), if_neg (by omega)]
      exact h2
  have loop : ∀ (k : Nat) (v3 : Nat) (v2 : Int), v3 + k = l.length → (v2 ≠ 0 ↔ x ∈ l.take v3) → W_X9_reading 1 4 [some (.inr (.inr 115)), some (.inl x), some (.inl v2), some (.inl (v3 : Int))] [] w K := by
    intro k
    induction k with
    | zero =>
      intro v3 v2 hk hv
      have hw := h.2.2.2
      have hlen := nodup_len 72 _ hw.2.2.1 hw.2.2.2
      refine v_X9_reading_4 ?_
      rw [h.at36 hm, hw.1]
      rw [List.take_of_length_le (by omega)] at hv
      refine ⟨m1, fun _ => ⟨fun q => ?_, fun q => ?_⟩, fun z => by omega⟩
      · have := tail w (by rw [show addr l x = l from if_pos (hv.mp q)]; exact h)
        exact this
      · have hn : x ∉ l := fun z => hv.mpr z q
        have hr := h.rd m1 hx hn
        refine ⟨by omega, m1, by omega, by omega, ?_⟩
        rintro w5 rfl
        rw [show wset w 124 (72 * c + (l.length : Int)) x 115 36 = c by rw [wset_at (by omega)]; exact h.at36 hm]
        rw [show wset w 124 (72 * c + (l.length : Int)) x 123 c = l.length by rw [wset_at (by omega)]; exact hw.1]
        refine ⟨m1, by omega, m1, ?_⟩
        rintro w6 rfl
        exact tail _ hr.1
    | succ k ih =>
      intro v3 v2 hk hv
      have hw := h.2.2.2
      have hlen := nodup_len 72 _ hw.2.2.1 hw.2.2.2
      have htk : l.take (v3 + 1) = l.take v3 ++ [l.getD v3 0] := by
        rw [List.getD_eq_getElem?_getD, List.getElem?_eq_getElem (by omega), Option.getD_some, List.take_append_getElem (by omega)]
      refine v_X9_reading_4 ?_
      rw [h.at36 hm, hw.1]
      refine ⟨m1, fun z => by omega, fun _ => ⟨fun q => ⟨by omega, ?_⟩, fun q => ⟨by omega, by omega, by omega, ?_⟩⟩⟩
      · have := ih (v3 + 1) 1 (by omega) ⟨fun _ => by rw [htk]; exact List.mem_append_left _ (hv.mp q), fun _ => by decide⟩
        rw [show ((v3 + 1 : Nat) : Int) = (v3 : Int) + 1 by omega] at this
        exact this
      · rw [hw.2.1 v3 (by omega)]
        refine ⟨fun q2 => ⟨by omega, ?_⟩, fun q2 => ⟨by omega, ?_⟩⟩
        · have := ih (v3 + 1) 0 (by omega) ⟨fun z => absurd rfl z, fun z => by
            rw [htk, List.mem_append, List.mem_singleton] at z
            rcases z with z | z
            · exact absurd q (hv.mpr z)
            · exact absurd z.symm q2⟩
          rw [show ((v3 + 1 : Nat) : Int) = (v3 : Int) + 1 by omega] at this
          exact this
        · have := ih (v3 + 1) 1 (by omega) ⟨fun _ => by
            rw [htk]
            exact List.mem_append_right _ (by rw [q2]; exact List.mem_singleton.mpr rfl), fun _ => by decide⟩
          rw [show ((v3 + 1 : Nat) : Int) = (v3 : Int) + 1 by omega] at this
          exact this
  exact loop l.length 0 0 (by omega) ⟨fun z => absurd rfl z, fun z => by simp at z⟩
/-- what has been gathered so far, in a frame -/
def FrA (s : Int) (fr : Int → Int) : Prop := (s = -2000000000 → fr 141 = 0 ∧ fr 142 = 0) ∧ (s ≠ -2000000000 → fr 141 ≠ 0 ∧ fr 142 = s)
theorem mf_takes {f : Nat} {J s v : Int} (hd : 3 ≤ d) (hf : 5 ≤ f) (hδ : 0 ≤ δ ∧ δ < 40) (h : MF w0 c B l p δ 0 0 wa is fr w) (hk : fr 133 = (f : Int) + 2) (ha : FrA s fr) (hj : Jn f J s) (hB : 0 ≤ J ∧ J ≤ 100000) (hv : PV v) (hf9 : f < 9)
    (kerr : ∀ w' fr', mjoin f s v env l = (l, .inl (1, -1)) → MF w0 c B l p δ 1 0 wa is fr' w' → KV w')
    (kok : ∀ s' w' fr', mjoin f s v env l = (l, .inr s') → FrA s' fr' → (∀ a, a ≠ 141 → a ≠ 142 → fr' a = fr a) → MF w0 c B l p δ 0 0 wa is fr' w' → KV w') : C_X9_takes d [.inr (.inr 115), .inr (.inl v)] w KV := by
  refine ⟨2, hd, e_X9_takes ?_⟩
  have r := fun a h1 h2 => (h.2.2.1 a h1 h2).1
  rw [h.2.1.2.1, r 133 (by decide) (by decide), r 141 (by decide) (by decide), r 142 (by decide) (by decide), hk]
  have hjs : (s = -2000000000 ∨ PV s) ∧ (f = 8 → s ≠ -2000000000 → 0 ≤ s ∧ s ≤ J) := by
    rcases hj with q | q
    · exact ⟨Or.inl q, fun _ z => absurd q z⟩
    · exact ⟨Or.inr q.1, fun z _ => q.2 z⟩
  clear hj
  have h142 : fr 142 = if s = -2000000000 then 0 else s := by
    by_cases q : s = -2000000000
    · rw [if_pos q]; exact (ha.1 q).2
    · rw [if_neg q]; exact (ha.2 q).2
  have h141 : fr 141 = 0 ↔ s = -2000000000 := ⟨fun z => Classical.byContradiction (fun q => (ha.2 q).1 z), fun q => (ha.1 q).1⟩
  have step : ∀ z w1, MF w0 c B l p δ 0 0 wa is fr w1 → mjoin f s v env l = (l, .inr z) → z ≠ -2000000000 → (0 ≤ δ ∧ δ < 40) ∧ (∀ w3, w3 = wset w1 142 δ z → (0 ≤ (w3 115 23) ∧ (w3 115 23) < 40) ∧ (∀ w4, w4 = wset w3 141 (w3 115 23) 1 → KV w4)) := by
    intro z w1 h1 hm hz
    refine ⟨hδ, ?_⟩
    rintro w3 rfl
    have h3 := h1.sfr (a := 142) (by decide) z
    rw [h3.2.1.2.1]
    refine ⟨hδ, ?_⟩
    rintro w4 rfl
    exact kok z _ _ hm ⟨fun q => absurd q hz, fun _ => ⟨by rw [fu_same]; decide, by rw [fu_ne (by decide), fu_same]⟩⟩ (fun a q1 q2 => by rw [fu_ne q1, fu_ne q2]) (h3.sfr (a := 141) (by decide) 1)
  rw [h142]
  unfold mjoin at kerr step
  refine ⟨hδ, hδ, fun q10 => ⟨fun q9 => ⟨hδ, fun q => ?_, fun q => ?_⟩, fun q9 => ?_⟩, fun q10 => ?_⟩
  · have q' := h141.mp q
    rw [if_neg (by omega), if_pos q'] at step
    exact step v w h rfl (by omega)
  · have q' : ¬ s = -2000000000 := fun z => q (h141.mpr z)
    rw [if_neg (by omega), if_neg q'] at step
    rw [if_neg q']
    refine ⟨fun q7 => ⟨fun q6 => ?_, fun q6 => ?_⟩, fun q7 => ⟨fun q6 => ?_, fun q6 => ?_⟩⟩
    · rw [if_neg (by omega), if_pos (by omega)] at step
      exact step s w h (by show (l, _) = _; rw [show max s v = s by omega]) q'
    · rw [if_neg (by omega), if_pos (by omega)] at step
      exact step v w h (by show (l, _) = _; rw [show max s v = v by omega]) (by omega)
    · rw [if_pos (by omega)] at step
      exact step s w h (by show (l, _) = _; rw [show min s v = s by omega]) q'
    · rw [if_pos (by omega)] at step
      exact step v w h (by show (l, _) = _; rw [show min s v = v by omega]) (by omega)
  · by_cases q' : s = -2000000000
    · rw [if_neg (by omega), if_pos q'] at step
      rw [if_pos q', show (0 : Int) + v = v by omega]
      exact ⟨by omega, mf_bound (by decide) h (fun z => absurd hv z) (fun _ => step v w h rfl (by omega))⟩
    · have hs := hjs.1.resolve_left q'
      rw [if_neg (by omega), if_neg q', if_neg (by omega), if_neg (by omega)] at step kerr
      rw [if_neg q']
      unfold mbd at step kerr
      refine ⟨by omega, mf_bound (by decide) h (fun z w1 h1 => ?_) (fun z => ?_)⟩
      · rw [if_pos (by omega)] at kerr
        refine ⟨hδ, ?_⟩
        rintro w3 rfl
        have h3 := h1.sfr (a := 142) (by decide) (s + v)
        rw [h3.2.1.2.1]
        refine ⟨hδ, ?_⟩
        rintro w4 rfl
        exact kerr _ _ rfl (h3.sfr (a := 141) (by decide) 1)
      · rw [if_neg (by omega)] at step
        exact step (s + v) w h rfl (by omega)
  · have q8 : f = 8 := by omega
    rw [if_pos q8] at step
    have := hjs.2 q8
    by_cases q' : s = -2000000000
    · rw [if_pos q'] at step ⊢
      exact ⟨by omega, step _ w h rfl (by decide)⟩
    · have := this q'
      rw [if_neg q'] at step ⊢
      exact ⟨by omega, step _ w h rfl (by omega)⟩
theorem mf_cellHere (hM : MSt w0 c t n env) (hd : 3 ≤ d) (h : MF w0 c B l p δ wr bl wa is fr w) (h0 : 0 ≤ p) (hc : isCol (lk t n p) ∧ isRow (lk t n (p + 1))) (k : K (cellAt t n p) w) : C_X9_cellHere d [.inr (.inr 115)] w K := by
  have hp := lk_pos (t := t) (n := n) (p := p) (by omega)
  have hp1 := lk_pos (t := t) (n := n) (p := p + 1) (by omega)
  have e0 := hr_lk (t := t) (n := n) h0
  have e1 := hr_lk (t := t) (n := n) (p := p + 1) (by omega)
  have hn := hM.2.2.1
  refine ⟨2, hd, e_X9_cellHere (mf_behind hM (by decide) h ⟨h0, by omega⟩ (by decide) ⟨by omega, by omega, mf_sign hM (by decide) h h0 ⟨by omega, by omega, ?_⟩⟩)⟩
  have : 8 * (hr t n (p + 1) - 49) + hr t n p - 97 = cellAt t n p := by unfold cellAt; omega
  rw [this]
  exact k
theorem mf_isAreaHere (hM : MSt w0 c t n env) (hd : 3 ≤ d) (h : MF w0 c B l p δ wr bl wa is fr w) (h0 : 0 ≤ p ∧ p ≤ 40) (hz : isCol (lk t n p) → lk t n (p + 1) ≠ 48) (kt : evIsArea t n p = true → K 1 w) (kf : ¬ evIsArea t n p = true → K 0 w) : C_X9_isAreaHere d [.inr (.inr 115)] w K := by
  have e0 := hr_lk (t := t) (n := n) h0.1
  have e1 := hr_lk (t := t) (n := n) (p := p + 1) (by omega)
  have e2 := hr_lk (t := t) (n := n) (p := p + 2) (by omega)
  unfold evIsArea at kt kf
  rw [decide_eq_true_eq] at kt kf
  refine ⟨2, hd, e_X9_isAreaHere (mf_behind hM (by decide) h ⟨h0.1, by omega⟩ (by decide) (mf_sign hM (by decide) h h0.1 (m_isCol (by decide) (fun q => am_b1 (mf_behind hM (by decide) h ⟨h0.1, by omega⟩ (by decide) (m_isFig (by decide) (fun q1 => am_b1 ?_) (fun q1 => am_b0 (kf (by omega)))))) (fun q => am_b0 (kf (by omega))))))⟩
  have := hz (by omega)
  exact ⟨fun z => kt (by omega), fun z => ⟨fun z2 => kt (by omega), fun z2 => ⟨fun z3 => kf (by omega), fun z3 => kt (by omega)⟩⟩⟩
theorem mf_skipL (hM : MSt w0 c t n env) (k : Nat) : ∀ (o p : Int) (w : Wd), 0 ≤ o → o ≤ 1000 → 0 ≤ p → p + k ≤ 900 → o + k ≤ 1000 → MF w0 c B l p δ wr bl wa is fr w → skp t n (k + 1) o p = p + k → (∀ w', MF w0 c B l (p + k) δ wr bl wa is fr w' → KV w') → W_X9_skip 2 2 [some (.inr (.inr 115)), some (.inl o)] [] w KV := by
  induction k with
  | zero =>
    intro o p w ho ho2 h0 h1 h2 h hs kk
    have e0 := hr_lk (t := t) (n := n) h0
    unfold skp at hs
    by_cases q : o = 0 ∧ (lk t n p = 44 ∨ lk t n p = 41)
    · rw [show p + ((0 : Nat) : Int) = p by omega] at kk
      have kw := kk w h
      refine v_X9_skip_2 ⟨fun z => by omega, fun _ => mf_sign hM (by decide) h h0 ⟨fun z => kw, fun z => mf_sign hM (by decide) h h0 ⟨fun z => kw, fun z2 => by omega⟩⟩⟩
    · rw [if_neg q] at hs
      unfold skp at hs
      omega
  | succ k ih =>
    intro o p w ho ho2 h0 h1 h2 h hs kk
    have e0 := hr_lk (t := t) (n := n) h0
    unfold skp at hs
    by_cases q : o = 0 ∧ (lk t n p = 44 ∨ lk t n p = 41)
    · rw [if_pos q] at hs
      omega
    · rw [if_neg q] at hs
      have go : ∀ o' : Int, o' = (if lk t n p = 40 then o + 1 else if lk t n p = 41 then o - 1 else o) → 0 ≤ o' → o' ≤ o + 1 → (-2147483648 ≤ o' ∧ o' ≤ 2147483647) ∧ (-2147483648 ≤ ((w 115 24) + 1) ∧ ((w 115 24) + 1) ≤ 2147483647) ∧ (∀ w3, w3 = wset w 115 24 ((w 115 24) + 1) → W_X9_skip 2 2 [some (.inr (.inr 115)), some (.inl o')] [] w3 KV) := by
        intro o' he ho' ho2'
        rw [← he] at hs
        rw [h.2.1.1]
        refine ⟨by omega, by omega, ?_⟩
        rintro w3 rfl
        refine ih o' (p + 1) _ ho' (by omega) (by omega) (by omega) (by omega) (h.sp (p + 1)) (by rw [hs]; omega) (fun w' h' => kk w' ?_)
        rw [show p + 1 + (k : Int) = p + ((k + 1 : Nat) : Int) by omega] at h'
        exact h'
      refine v_X9_skip_2 ⟨fun z => mf_sign hM (by decide) h h0 ⟨fun z1 => mf_sign hM (by decide) h h0 ⟨fun z2 => ?_, fun z2 => ?_⟩, fun z1 => ?_⟩, fun z => mf_sign hM (by decide) h h0 ⟨fun z1 => by omega, fun z1 => mf_sign hM (by decide) h h0 ⟨fun z2 => by omega, fun z2 => mf_sign hM (by decide) h h0 ⟨fun z3 => mf_sign hM (by decide) h h0 ⟨fun z4 => ?_, fun z4 => by omega⟩, fun z3 => ?_⟩⟩⟩⟩
      · exact go _ (by rw [if_neg (by omega), if_neg (by omega)]; omega) (by omega) (by omega)
      · exact go _ (by rw [if_neg (by omega), if_pos (by omega)]; omega) (by omega) (by omega)
      · exact go _ (by rw [if_pos (by omega)]) (by omega) (by omega)
      · exact go _ (by rw [if_neg (by omega), if_neg (by omega)]; omega) (by omega) (by omega)
      · exact go _ (by rw [if_pos (by omega)]) (by omega) (by omega)
theorem mf_skip {q : Int} (hM : MSt w0 c t n env) (hd : 3 ≤ d) (h : MF w0 c B l p δ wr bl wa is fr w) (h0 : 0 ≤ p) (hq : q < n) (hs : Sk t n p q) (hl : lk t n q = 44 ∨ lk t n q = 41) (k : ∀ w', MF w0 c B l q δ wr bl wa is fr w' → KV w') : C_X9_skip d [.inr (.inr 115)] w KV := by
  have hpq := hs.1
  have hn := hM.2.2.1
  have hsk := hs.2 1 0 (by decide)
  have e1 : skp t n 1 0 q = q := by
    unfold skp
    rw [if_pos ⟨rfl, hl⟩]
  rw [e1] at hsk
  refine ⟨2, hd, e_X9_skip (mf_skipL hM (q - p).toNat 0 p w (by decide) (by decide) h0 (by omega) (by omega) h ?_ (fun w' h' => k w' ?_))⟩
  · rw [Nat.add_comm, hsk]
    omega
  · rw [show p + ((q - p).toNat : Int) = q by omega] at h'
    exact h'
end MGS
