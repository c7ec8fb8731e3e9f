/-! ===== THE EVALUATOR of the reference: one frame for each open bracket ===== -/
def MOff (c a i : Int) : Prop := ¬ (a = 115 ∧ (i = 23 ∨ i = 24 ∨ i = 26 ∨ i = 27 ∨ i = 38 ∨ i = 39 ∨ i = 40 ∨ i = 41)) ∧ ¬ (133 ≤ a ∧ a ≤ 142) ∧ ¬ (a = 123 ∧ i = c) ∧ ¬ (a = 124 ∧ 72 * c ≤ i ∧ i < 72 * c + 72)
def MSt (w0 : Wd) (c : Int) (t : Int → Int) (n : Int) (env : Env') : Prop := (0 ≤ c ∧ c < 72) ∧ (w0 115 36 = c ∧ w0 115 37 = n) ∧ (0 ≤ n ∧ n ≤ 30) ∧ (∀ i, 0 ≤ i → i < n → w0 116 (72 + 30 * c + i) = t i) ∧ OkE env ∧ (∀ x, 0 ≤ x → x < 72 → (w0 131 x ≠ 0 ↔ (env x).1.1 = 0) ∧ w0 119 x = (env x).1.2 ∧ w0 120 x = (env x).2.1 ∧ ((w0 116 x = 0 ∧ x ≠ w0 115 42) ↔ (env x).2.2 = 0))
def MRd (c : Int) (l : List Int) (w : Wd) : Prop := w 123 c = l.length ∧ (∀ j : Nat, j < l.length → w 124 (72 * c + j) = l.getD j 0) ∧ OkL l
def MF (w0 : Wd) (c : Int) (B : Wd) (l : List Int) (p δ wr bl wa is : Int) (fr : Int → Int) (w : Wd) : Prop := (∀ a i, MOff c a i → w a i = w0 a i) ∧ (w 115 24 = p ∧ w 115 23 = δ ∧ w 115 38 = 0 ∧ w 115 39 = bl ∧ w 115 40 = wr ∧ w 115 26 = wa ∧ w 115 27 = is) ∧ (∀ a, 133 ≤ a → a ≤ 142 → w a δ = fr a ∧ ∀ i, i < δ → w a i = B a i) ∧ MRd c l w
def MEnd (w0 : Wd) (c : Int) (l : List Int) (wr bl : Int) (w : Wd) : Prop := (∀ a i, MOff c a i → w a i = w0 a i) ∧ (w 115 38 = 0 ∧ w 115 39 = bl ∧ w 115 40 = wr) ∧ MRd c l w
section MFS
variable {w0 w B : Wd} {c n p δ wr bl wa is x : Int} {t : Int → Int} {env : Env'} {l : List Int} {fr : Int → Int} {d : Nat} {K : Int → Wd → Prop} {KV : Wd → Prop}
theorem MRd.off {a j : Int} (h : MRd c l w) (h1 : a ≠ 123) (h2 : a ≠ 124) : MRd c l (wset w a j x) := ⟨by rw [wset_at (fun q => h1 q.1.symm)]; exact h.1, fun k hk => by rw [wset_at (fun q => h2 q.1.symm)]; exact h.2.1 k hk, h.2.2⟩
theorem MF.fin (h : MF w0 c B l p δ wr bl wa is fr w) : MEnd w0 c l wr bl w := ⟨h.1, ⟨h.2.1.2.2.1, h.2.1.2.2.2.1, h.2.1.2.2.2.2.1⟩, h.2.2.2⟩
theorem MF.set115 (h : MF w0 c B l p δ wr bl wa is fr w) {i : Int} (hi : i = 24 ∨ i = 26 ∨ i = 27 ∨ i = 39 ∨ i = 40) (x : Int) : MF w0 c B l (if i = 24 then x else p) δ (if i = 40 then x else wr) (if i = 39 then x else bl) (if i = 26 then x else wa) (if i = 27 then x else is) fr (wset w 115 i x) := by
  obtain ⟨h1, ⟨g1, g2, g3, g4, g5, g6, g7⟩, h3, h4⟩ := h
  have key : ∀ j v : Int, w 115 j = v → wset w 115 i x 115 j = if i = j then x else v := by
    intro j v hv
    by_cases q : i = j
    · rw [if_pos q, q, wset_eq]
    · rw [if_neg q, wset_at (by omega), hv]
  refine ⟨fun a j hj => ?_, ⟨key _ _ g1, ?_, ?_, key _ _ g4, key _ _ g5, key _ _ g6, key _ _ g7⟩, fun a h0 ha => ?_, h4.off (by decide) (by decide)⟩
  · rw [wset_at (fun q => hj.1 ⟨q.1, by omega⟩)]
    exact h1 a j hj
  · rw [wset_at (by omega)]; exact g2
  · rw [wset_at (by omega)]; exact g3
  · rw [wset_at (by omega)]
    exact ⟨(h3 a h0 ha).1, fun j hj => by rw [wset_at (by omega)]; exact (h3 a h0 ha).2 j hj⟩
theorem MF.sp (h : MF w0 c B l p δ wr bl wa is fr w) (x : Int) : MF w0 c B l x δ wr bl wa is fr (wset w 115 24 x) := h.set115 (Or.inl rfl) x
theorem MF.swa (h : MF w0 c B l p δ wr bl wa is fr w) (x : Int) : MF w0 c B l p δ wr bl x is fr (wset w 115 26 x) := h.set115 (Or.inr (Or.inl rfl)) x
theorem MF.sis (h : MF w0 c B l p δ wr bl wa is fr w) (x : Int) : MF w0 c B l p δ wr bl wa x fr (wset w 115 27 x) := h.set115 (Or.inr (Or.inr (Or.inl rfl))) x
theorem MF.sbl (h : MF w0 c B l p δ wr bl wa is fr w) (x : Int) : MF w0 c B l p δ wr x wa is fr (wset w 115 39 x) := h.set115 (Or.inr (Or.inr (Or.inr (Or.inl rfl)))) x
theorem MF.swr (h : MF w0 c B l p δ wr bl wa is fr w) (x : Int) : MF w0 c B l p δ x bl wa is fr (wset w 115 40 x) := h.set115 (Or.inr (Or.inr (Or.inr (Or.inr rfl)))) x
theorem MF.sfr (h : MF w0 c B l p δ wr bl wa is fr w) {a : Int} (ha : 133 ≤ a ∧ a ≤ 142) (x : Int) : MF w0 c B l p δ wr bl wa is (fu fr a x) (wset w a δ x) := by
  obtain ⟨h1, ⟨g1, g2, g3, g4, g5, g6, g7⟩, h3, h4⟩ := h
  refine ⟨fun b j hj => ?_, ⟨by rw [wset_at (by omega)]; exact g1, by rw [wset_at (by omega)]; exact g2, by rw [wset_at (by omega)]; exact g3, by rw [wset_at (by omega)]; exact g4, by rw [wset_at (by omega)]; exact g5, by rw [wset_at (by omega)]; exact g6, by rw [wset_at (by omega)]; exact g7⟩, fun b h0 hb => ⟨?_, fun j hj => ?_⟩, h4.off (by omega) (by omega)⟩
  · rw [wset_at (fun q => hj.2.1 (by omega))]
    exact h1 b j hj
  · by_cases q : b = a
    · rw [q, wset_eq, fu_same]
    · rw [wset_at (by omega), fu_ne q]
      exact (h3 b h0 hb).1
  · rw [wset_at (by omega)]
    exact (h3 b h0 hb).2 j hj
/-- a step down: the frame above is what lies there -/
theorem MF.down (h : MF w0 c B l p δ wr bl wa is fr w) : MF w0 c w l p (δ + 1) wr bl wa is (fun a => w a (δ + 1)) (wset w 115 23 (δ + 1)) := by
  obtain ⟨h1, ⟨g1, g2, g3, g4, g5, g6, g7⟩, h3, h4⟩ := h
  refine ⟨fun b j hj => ?_, ⟨by rw [wset_at (by omega)]; exact g1, wset_eq, by rw [wset_at (by omega)]; exact g3, by rw [wset_at (by omega)]; exact g4, by rw [wset_at (by omega)]; exact g5, by rw [wset_at (by omega)]; exact g6, by rw [wset_at (by omega)]; exact g7⟩, fun b h0 hb => ⟨?_, fun j hj => ?_⟩, h4.off (by omega) (by omega)⟩
  · rw [wset_at (fun q => hj.1 ⟨q.1, Or.inl q.2⟩)]
    exact h1 b j hj
  · rw [wset_at (by omega)]
  · rw [wset_at (by omega)]
/-- a step back up, to the frame that was left -/
theorem MF.up {w1 B0 : Wd} {l0 : List Int} {p0 wr0 bl0 wa0 is0 : Int} {fr0 : Int → Int} (h : MF w0 c w1 l p (δ + 1) wr bl wa is fr w) (h0 : MF w0 c B0 l0 p0 δ wr0 bl0 wa0 is0 fr0 w1) : MF w0 c B0 l p δ wr bl wa is fr0 (wset w 115 23 δ) := by
  obtain ⟨h1, ⟨g1, g2, g3, g4, g5, g6, g7⟩, h3, h4⟩ := h
  refine ⟨fun b j hj => ?_, ⟨by rw [wset_at (by omega)]; exact g1, wset_eq, by rw [wset_at (by omega)]; exact g3, by rw [wset_at (by omega)]; exact g4, by rw [wset_at (by omega)]; exact g5, by rw [wset_at (by omega)]; exact g6, by rw [wset_at (by omega)]; exact g7⟩, fun b hb0 hb => ⟨?_, fun j hj => ?_⟩, h4.off (by omega) (by omega)⟩
  · rw [wset_at (fun q => hj.1 ⟨q.1, Or.inl q.2⟩)]
    exact h1 b j hj
  · rw [wset_at (by omega), (h3 b hb0 hb).2 δ (by omega)]
    exact (h0.2.2.1 b hb0 hb).1
  · rw [wset_at (by omega), (h3 b hb0 hb).2 j (by omega)]
    exact (h0.2.2.1 b hb0 hb).2 j hj
theorem mf_letter {q : Int} (hM : MSt w0 c t n env) (hd : 1 ≤ d) (h : MF w0 c B l p δ wr bl wa is fr w) (h0 : 0 ≤ q) (hq : q < n) (k : K (t q) w) : C_X9_letter d [.inr (.inr 115), .inl c, .inl q] w K := by
  obtain ⟨m1, m2, m3, m4, m5, m6⟩ := hM
  refine ⟨0, hd, e_X9_letter ?_⟩
  rw [h.1 116 (72 + 30 * c + q) (by unfold MOff; omega), m4 q h0 hq]
  exact ⟨by omega, by omega, by omega, by omega, k⟩
theorem MF.at36 (hM : MSt w0 c t n env) (h : MF w0 c B l p δ wr bl wa is fr w) : w 115 36 = c := by
  rw [h.1 115 36 (by unfold MOff; omega)]; exact hM.2.1.1
theorem MF.at37 (hM : MSt w0 c t n env) (h : MF w0 c B l p δ wr bl wa is fr w) : w 115 37 = n := by
  rw [h.1 115 37 (by unfold MOff; omega)]; exact hM.2.1.2
theorem mf_sign (hM : MSt w0 c t n env) (hd : 2 ≤ d) (h : MF w0 c B l p δ wr bl wa is fr w) (h0 : 0 ≤ p) (k : K (hr t n p) w) : C_X9_sign d [.inr (.inr 115)] w K := by
  refine ⟨1, hd, e_X9_sign ?_⟩
  rw [h.at36 hM, h.at37 hM, h.2.1.1]
  unfold hr at k
  refine ⟨fun q => ?_, fun q => mf_letter hM (by decide) h h0 (by omega) ?_⟩
  · rw [if_pos q] at k
    exact k
  · rw [if_neg q] at k
    exact k
theorem mf_behind {a : Int} (hM : MSt w0 c t n env) (hd : 2 ≤ d) (h : MF w0 c B l p δ wr bl wa is fr w) (h0 : 0 ≤ p ∧ p ≤ 1000) (ha : 0 ≤ a ∧ a ≤ 100) (k : K (hr t n (p + a)) w) : C_X9_behind d [.inr (.inr 115), .inl a] w K := by
  refine ⟨1, hd, e_X9_behind ?_⟩
  rw [h.at36 hM, h.at37 hM, h.2.1.1]
  unfold hr at k
  refine ⟨by omega, fun q => ?_, fun q => ⟨by omega, mf_letter hM (by decide) h (by omega) (by omega) ?_⟩⟩
  · rw [if_pos q] at k
    exact k
  · rw [if_neg q] at k
    exact k
theorem mf_fails (hd : 1 ≤ d) (h : MF w0 c B l p δ 0 bl wa is fr w) (k : ∀ w', MF w0 c B l p δ x bl wa is fr w' → KV w') : C_X9_fails d [.inr (.inr 115), .inl x] w KV := by
  refine ⟨0, hd, e_X9_fails ⟨fun q => absurd h.2.1.2.2.2.2.1 q, fun _ => ?_⟩⟩
  rintro w2 rfl
  exact k _ (h.swr x)
theorem mf_bound (hd : 2 ≤ d) (h : MF w0 c B l p δ 0 bl wa is fr w) (k1 : ¬ PV x → ∀ w', MF w0 c B l p δ 1 bl wa is fr w' → K x w') (k2 : PV x → K x w) : C_X9_bound d [.inr (.inr 115), .inr (.inl x)] w K := by
  refine ⟨1, hd, e_X9_bound ⟨fun q => mf_fails (by decide) h (k1 (by omega)), fun q => ⟨fun q2 => k2 (by omega), fun q2 => mf_fails (by decide) h (k1 (by omega))⟩⟩⟩
theorem mf_goesOn (hd : 1 ≤ d) (h : MEnd w0 c l wr bl w) (k1 : wr = 0 → bl = 0 → K 1 w) (k0 : ¬ (wr = 0 ∧ bl = 0) → K 0 w) : C_X9_goesOn d [.inr (.inr 115)] w K := by
  refine ⟨0, hd, e_X9_goesOn ?_⟩
  rw [h.2.1.2.1, h.2.1.2.2]
  exact ⟨fun q => k0 (by omega), fun q => ⟨fun q2 => k0 (by omega), fun q2 => k1 q q2⟩⟩
/-- a frame before its first factor -/
def FrN (fr fr' : Int → Int) : Prop := fr' 135 = 0 ∧ fr' 136 = 0 ∧ fr' 138 = 0 ∧ fr' 139 = 0 ∧ ∀ a, a ≠ 135 → a ≠ 136 → a ≠ 138 → a ≠ 139 → fr' a = fr a
theorem mf_frame (hd : 3 ≤ d) (hδ : 0 ≤ δ ∧ δ < 40) (h : MF w0 c B l p δ wr bl wa is fr w) (k : ∀ w' fr', FrN fr fr' → MF w0 c B l p δ wr bl 1 (if 7 ≤ fr 133 ∧ fr 133 ≤ 10 then 1 else 0) fr' w' → KV w') : C_X9_frame d [.inr (.inr 115)] w KV := by
  refine ⟨2, hd, e_X9_frame ?_⟩
  rw [h.2.1.2.1]
  refine ⟨hδ, ?_⟩
  rintro w1 rfl
  have h1 := h.sfr (a := 135) (by decide) 0
  rw [h1.2.1.2.1]
  refine ⟨hδ, ?_⟩
  rintro w2 rfl
  have h2 := h1.sfr (a := 136) (by decide) 0
  rw [h2.2.1.2.1]
  refine ⟨hδ, ?_⟩
  rintro w3 rfl
  have h3 := h2.sfr (a := 139) (by decide) 0
  rw [h3.2.1.2.1]
  refine ⟨hδ, ?_⟩
  rintro w4 rfl
  have h4 := h3.sfr (a := 138) (by decide) 0
  rintro w5 rfl
  have h5 := h4.swa 1
  rw [h5.2.1.2.1]
  refine ⟨hδ, m_hasParts (by decide) ?_⟩
  rw [(h5.2.2.1 133 (by decide) (by decide)).1]
  have e : fu (fu (fu (fu fr 135 0) 136 0) 139 0) 138 0 133 = fr 133 := by
    rw [fu_ne (by decide), fu_ne (by decide), fu_ne (by decide), fu_ne (by decide)]
  rw [e]
  refine ⟨by split; exact Or.inr rfl; exact Or.inl rfl, ?_⟩
  rintro w7 rfl
  refine k _ _ ⟨?_, ?_, fu_same, ?_, fun a h1 h2 h3 h4 => ?_⟩ (h5.sis _)
  · rw [fu_ne (by decide), fu_ne (by decide), fu_ne (by decide), fu_same]
  · rw [fu_ne (by decide), fu_ne (by decide), fu_same]
  · rw [fu_ne (by decide), fu_same]
  · rw [fu_ne h3, fu_ne h4, fu_ne h2, fu_ne h1]
/-- a new frame -/
def FrE (kd : Int) (fr' : Int → Int) : Prop := fr' 133 = kd ∧ fr' 134 = 0 ∧ fr' 135 = 0 ∧ fr' 136 = 0 ∧ fr' 138 = 0 ∧ fr' 139 = 0 ∧ fr' 141 = 0 ∧ fr' 142 = 0
theorem mf_enters {kd : Int} (hd : 4 ≤ d) (hδ : 0 ≤ δ ∧ δ < 39) (h : MF w0 c B l p δ wr bl wa is fr w) (k : ∀ w' fr', FrE kd fr' → MF w0 c w l p (δ + 1) wr bl 1 (if 7 ≤ kd ∧ kd ≤ 10 then 1 else 0) fr' w' → KV w') : C_X9_enters d [.inr (.inr 115), .inl kd] w KV := by
  refine ⟨3, hd, e_X9_enters ?_⟩
  rw [h.2.1.2.1]
  refine ⟨by omega, ?_⟩
  rintro w1 rfl
  have h1 := h.down
  rw [h1.2.1.2.1]
  refine ⟨by omega, ?_⟩
  rintro w2 rfl
  have h2 := h1.sfr (a := 133) (by decide) kd
  rw [h2.2.1.2.1]
  refine ⟨by omega, ?_⟩
  rintro w3 rfl
  have h3 := h2.sfr (a := 134) (by decide) 0
  rw [h3.2.1.2.1]
  refine ⟨by omega, ?_⟩
  rintro w4 rfl
  have h4 := h3.sfr (a := 141) (by decide) 0
  rw [h4.2.1.2.1]
  refine ⟨by omega, ?_⟩
  rintro w5 rfl
  have h5 := h4.sfr (a := 142) (by decide) 0
  refine mf_frame (by decide) (by omega) h5 (fun w' fr' hf h' => ?_)
  have e : ∀ z, fu (fu (fu (fu z 133 kd) 134 0) 141 0) 142 0 133 = kd := fun z => by
    rw [fu_ne (by decide), fu_ne (by decide), fu_ne (by decide), fu_same]
  rw [e] at h'
  refine k w' fr' ⟨?_, ?_, hf.1, hf.2.1, hf.2.2.1, hf.2.2.2.1, ?_, ?_⟩ h'
  · rw [hf.2.2.2.2 133 (by decide) (by decide) (by decide) (by decide), e]
  · rw [hf.2.2.2.2 134 (by decide) (by decide) (by decide) (by decide), fu_ne (by decide), fu_ne (by decide), fu_same]
  · rw [hf.2.2.2.2 141 (by decide) (by decide) (by decide) (by decide), fu_ne (by decide), fu_same]
  · rw [hf.2.2.2.2 142 (by decide) (by decide) (by decide) (by decide), fu_same]
/-- after a factor: its sign taken, multiplied -/
def FrG (fr : Int → Int) (v : Int) (fr' : Int → Int) : Prop := fr' 135 = 0 ∧ fr' 136 = 1 ∧ fr' 137 = (if fr 136 = 0 then 1 else fr 137) * (if fr 135 = 0 then v else -v) ∧ ∀ a, a ≠ 135 → a ≠ 136 → a ≠ 137 → fr' a = fr a
theorem mf_gives {v : Int} (hd : 3 ≤ d) (hδ : 0 ≤ δ ∧ δ < 40) (hv : PV v) (hpr : fr 136 ≠ 0 → PV (fr 137)) (h : MF w0 c B l p δ 0 0 wa is fr w) (k : ∀ w' fr', FrG fr v fr' → PV (fr' 137) → MF w0 c B l p δ 0 0 0 is fr' w' → KV w') (kb : fr 136 ≠ 0 → ¬ PV (fr 137 * (if fr 135 = 0 then v else -v)) → ∀ w', MEnd w0 c l 1 0 w' → KV w') : C_X9_gives d [.inr (.inr 115), .inr (.inl v)] w KV := by
  have gen : ∀ y : Int, PV y → y = (if fr 135 = 0 then v else -v) →
      ((0 ≤ δ ∧ δ < 40) ∧ (∀ w1, w1 = wset w 135 δ 0 → (0 ≤ (w1 115 23) ∧ (w1 115 23) < 40) ∧ (((w1 136 (w1 115 23)) = 0 → (0 ≤ (w1 115 23) ∧ (w1 115 23) < 40) ∧ (∀ w2, w2 = wset w1 137 (w1 115 23) y → (0 ≤ (w2 115 23) ∧ (w2 115 23) < 40) ∧ (∀ w3, w3 = wset w2 136 (w2 115 23) 1 → (∀ w4, w4 = wset w3 115 26 0 → KV w4)))) ∧ (¬ (w1 136 (w1 115 23)) = 0 → ((¬ (w1 115 40) = 0 → (0 ≤ (w1 115 23) ∧ (w1 115 23) < 40) ∧ (∀ w5, w5 = wset w1 137 (w1 115 23) y → (0 ≤ (w5 115 23) ∧ (w5 115 23) < 40) ∧ (∀ w6, w6 = wset w5 136 (w5 115 23) 1 → (∀ w7, w7 = wset w6 115 26 0 → KV w7)))) ∧ ((w1 115 40) = 0 → (0 ≤ (w1 115 23) ∧ (w1 115 23) < 40) ∧ (-9223372036854775808 ≤ ((w1 137 (w1 115 23)) * y) ∧ ((w1 137 (w1 115 23)) * y) ≤ 9223372036854775807) ∧ C_X9_bound 2 [.inr (.inr 115), .inr (.inl ((w1 137 (w1 115 23)) * y))] w1 (fun x1 w8 => (0 ≤ (w1 115 23) ∧ (w1 115 23) < 40) ∧ (∀ w9, w9 = wset w8 137 (w1 115 23) x1 → (0 ≤ (w9 115 23) ∧ (w9 115 23) < 40) ∧ (∀ w10, w10 = wset w9 136 (w9 115 23) 1 → (∀ w11, w11 = wset w10 115 26 0 → KV w11)))))))))) := by
    intro y hy hyv
    refine ⟨hδ, ?_⟩
    rintro w1 rfl
    have h1 := h.sfr (a := 135) (by decide) 0
    rw [h1.2.1.2.1, h1.2.1.2.2.2.2.1, (h1.2.2.1 136 (by decide) (by decide)).1, (h1.2.2.1 137 (by decide) (by decide)).1, fu_ne (show (136 : Int) ≠ 135 by decide), fu_ne (show (137 : Int) ≠ 135 by decide)]
    have tail : ∀ z w2, MF w0 c B l p δ 0 0 wa is (fu fr 135 0) w2 → PV z → z = (if fr 136 = 0 then 1 else fr 137) * y → (∀ w9, w9 = wset w2 137 δ z → (0 ≤ (w9 115 23) ∧ (w9 115 23) < 40) ∧ (∀ w10, w10 = wset w9 136 (w9 115 23) 1 → (∀ w11, w11 = wset w10 115 26 0 → KV w11))) := by
      intro z w2 h2 hz hzv
      rintro w9 rfl
      have h9 := h2.sfr (a := 137) (by decide) z
      rw [h9.2.1.2.1]
      refine ⟨hδ, ?_⟩
      rintro w10 rfl
      have h10 := h9.sfr (a := 136) (by decide) 1
      rintro w11 rfl
      refine k _ _ ⟨?_, fu_same, ?_, fun a q1 q2 q3 => ?_⟩ ?_ (h10.swa 0)
      · rw [fu_ne (by decide), fu_ne (by decide), fu_same]
      · rw [fu_ne (by decide), fu_same, ← hyv, hzv]
      · rw [fu_ne q2, fu_ne q3, fu_ne q1]
      · rw [fu_ne (by decide), fu_same]
        exact hz
    refine ⟨hδ, fun q => ⟨hδ, tail y _ h1 hy (by rw [if_pos q, Int.one_mul])⟩, fun q => ⟨fun q2 => absurd rfl q2, fun _ => ⟨hδ, ?_, mf_bound (by decide) h1 (fun hn w8 h8 => ⟨hδ, ?_⟩) (fun hp' => ⟨hδ, tail _ _ h1 hp' (by rw [if_neg q])⟩)⟩⟩⟩
    · have := mul_rng (hpr q) hy
      omega
    · rintro w9 rfl
      have h9 := h8.sfr (a := 137) (by decide) (fr 137 * y)
      rw [h9.2.1.2.1]
      refine ⟨hδ, ?_⟩
      rintro w10 rfl
      have h10 := h9.sfr (a := 136) (by decide) 1
      rintro w11 rfl
      exact kb q (by rw [← hyv]; exact hn) _ (h10.swa 0).fin
  refine ⟨2, hd, e_X9_gives ?_⟩
  rw [h.2.1.2.1, (h.2.2.1 135 (by decide) (by decide)).1]
  refine ⟨hδ, fun q => gen v hv (by rw [if_pos q]), fun q => ⟨by omega, gen (-v) ⟨by omega, by omega⟩ (by rw [if_neg q])⟩⟩
end MFS
