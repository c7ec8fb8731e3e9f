section MHS
variable {w0 w B : Wd} {c n p δ wr bl wa is x : Int} {t : Int → Int} {env : Env'} {l : List Int} {fr : Int → Int} {d : Nat} {K : Int → Wd → Prop} {KV : Wd → Prop} {fac : Int → Bool × Int}
theorem ckMt_get (l : List Int) : ∀ p, ckMt t n l p = (l.length : Int) → ∀ i : Nat, i < l.length → lk t n (p + i) = l.getD i 0 := by
  induction l with
  | nil => intro p h i hi; exact absurd hi (Nat.not_lt_zero i)
  | cons x l ih =>
    intro p h i hi
    unfold ckMt at h
    split at h
    · rename_i e
      cases i with
      | zero => rw [show p + ((0 : Nat) : Int) = p by omega, e]; rfl
      | succ i =>
        have := ih (p + 1) (by simp only [List.length_cons] at h; omega) i (by simpa using hi)
        rw [show p + ((i + 1 : Nat) : Int) = p + 1 + i by omega, this]
        rfl
    · simp only [List.length_cons] at h
      omega
theorem fn_len : ∀ f : Nat, f < 9 → 3 ≤ (nmS f).length ∧ (nmS f).length ≤ 6 := by decide +kernel
theorem fn_two : ∀ f : Nat, f < 9 → [(nmS f).getD 0 0, (nmS f).getD 1 0] = [([105, 112, 100, 109, 97, 109, 109, 115, 99] : List Int).getD f 0, ([102, 105, 105, 111, 116, 105, 97, 117, 111] : List Int).getD f 0] := by decide +kernel
theorem mf_function {f : Nat} (hM : MSt w0 c t n env) (hd : 3 ≤ d) (h : MF w0 c B l p δ wr bl wa is fr w) (h0 : 0 ≤ p) (hf : f < 9) (hm : ckMt t n (nmS f) p = ((nmS f).length : Int)) (k : K ((f : Int) + 2) w) : C_X9_function d [.inr (.inr 115)] w K := by
  have hl := fn_len f hf
  have g0 := ckMt_get (nmS f) p hm 0 (by omega)
  have g1 := ckMt_get (nmS f) p hm 1 (by omega)
  have h2 := fn_two f hf
  rw [show p + ((0 : Nat) : Int) = p by omega] at g0
  rw [show p + ((1 : Nat) : Int) = p + 1 by omega] at g1
  have e0 := hr_lk (t := t) (n := n) h0
  have e1 := hr_lk (t := t) (n := n) (p := p + 1) (by omega)
  have hn := hM.2.2.1
  have hp := lk_pos (t := t) (n := n) (p := p) (by
    have : f = 0 ∨ f = 1 ∨ f = 2 ∨ f = 3 ∨ f = 4 ∨ f = 5 ∨ f = 6 ∨ f = 7 ∨ f = 8 := by omega
    rw [g0]
    rcases this with rfl | rfl | rfl | rfl | rfl | rfl | rfl | rfl | rfl <;> (have := (List.cons.inj h2).1; rw [this]; decide))
  have ha := (List.cons.inj h2).1
  have hb := (List.cons.inj (List.cons.inj h2).2).1
  rw [← g0] at ha
  rw [← g1] at hb
  clear g0 g1 h2 hm
  refine ⟨2, hd, e_X9_function (mf_sign hM (by decide) h h0 (mf_behind hM (by decide) h ⟨h0, by omega⟩ (by decide) ?_))⟩
  have : f = 0 ∨ f = 1 ∨ f = 2 ∨ f = 3 ∨ f = 4 ∨ f = 5 ∨ f = 6 ∨ f = 7 ∨ f = 8 := by omega
  rcases this with rfl | rfl | rfl | rfl | rfl | rfl | rfl | rfl | rfl <;>
  · have ha' : lk t n p = _ := ha
    have hb' : lk t n (p + 1) = _ := hb
    simp only [List.getD_eq_getElem?_getD] at ha' hb'
    simp at ha' hb'
    refine ⟨fun z1 => ⟨fun z2 => ⟨fun z3 => ⟨fun z4 => ⟨fun z5 => ⟨fun z6 => ?_, fun z6 => ?_⟩, fun z5 => ?_⟩, fun z4 => ?_⟩, fun z3 => ?_⟩, fun z2 => ?_⟩, fun z1 => ⟨fun z2 => ⟨fun z3 => ?_, fun z3 => ?_⟩, fun z2 => ?_⟩⟩ <;> first | exact k | (exfalso; omega)
theorem m_floor {a b : Int} (hd : 1 ≤ d) (ha : PV a) (hb : PV b) (h0 : b ≠ 0) (k : K (Int.fdiv a b) w) : C_X9_floor d [.inr (.inl a), .inr (.inl b)] w K := by
  have hq := Int.natAbs_tdiv_le_natAbs a b
  have hmul : Int.tdiv a b * b = a - Int.tmod a b := by
    have := Int.mul_tdiv_add_tmod a b
    rw [Int.mul_comm]
    omega
  have hr : (Int.tmod a b).natAbs ≤ a.natAbs := by
    rw [Int.natAbs_tmod]
    exact Nat.mod_le _ _
  have hdv : b ∣ a ↔ Int.tmod a b = 0 := Int.dvd_iff_tmod_eq_zero
  rw [Int.fdiv_eq_tdiv] at k
  have k2 : ∀ z : Int, z = Int.tdiv a b - (if b ∣ a then 0 else if 0 ≤ a then (if 0 ≤ b then 0 else 1) else (if 0 ≤ b then b.sign else 1 + b.sign)) → K z w := fun z hz => by rw [hz]; exact k
  clear k
  have hs1 : 0 ≤ b → b.sign = 1 := fun q => Int.sign_eq_one_of_pos (by omega)
  have hs2 : ¬ 0 ≤ b → b.sign = -1 := fun q => Int.sign_eq_neg_one_of_neg (by omega)
  refine ⟨0, hd, e_X9_floor ⟨⟨h0, by omega⟩, ⟨h0, by omega⟩, fun q => k2 _ ?_, fun q => ⟨fun q1 => ⟨fun q2 => k2 _ ?_, fun q2 => ⟨by omega, k2 _ ?_⟩⟩, fun q1 => ⟨fun q2 => ⟨by omega, k2 _ ?_⟩, fun q2 => k2 _ ?_⟩⟩⟩⟩
  · rw [if_pos (hdv.mpr q)]; omega
  · rw [if_neg (fun z => q (hdv.mp z)), if_pos q1, if_pos q2]; omega
  · rw [if_neg (fun z => q (hdv.mp z)), if_pos q1, if_neg q2]
  · rw [if_neg (fun z => q (hdv.mp z)), if_neg q1, if_pos q2, hs1 q2]
  · rw [if_neg (fun z => q (hdv.mp z)), if_neg q1, if_neg q2, hs2 q2]; omega
/-- back to the frame above, with a value -/
theorem mf_leaves {w1 B0 : Wd} {l0 : List Int} {p0 wr0 bl0 wa0 is0 v : Int} {fr0 fr1 : Int → Int} (hd : 4 ≤ d) (hδ : 0 ≤ δ ∧ δ < 39) (hp : 0 ≤ p ∧ p ≤ 1000) (hv : PV v) (hpr : fr0 136 ≠ 0 → PV (fr0 137)) (h0 : MF w0 c B0 l0 p0 δ wr0 bl0 wa0 is0 fr0 w1) (h : MF w0 c w1 l p (δ + 1) 0 0 wa is fr1 w)
    (k : ∀ w' fr', FrG fr0 v fr' → PV (fr' 137) → MF w0 c B0 l (p + 1) δ 0 0 0 is fr' w' → KV w') (kb : fr0 136 ≠ 0 → ¬ PV (fr0 137 * (if fr0 135 = 0 then v else -v)) → ∀ w', MEnd w0 c l 1 0 w' → KV w') : C_X9_leaves d [.inr (.inr 115), .inr (.inl v)] w KV := by
  refine ⟨3, hd, e_X9_leaves ?_⟩
  rw [h.2.1.1]
  refine ⟨by omega, ?_⟩
  rintro w2 rfl
  have h2 := h.sp (p + 1)
  rw [h2.2.1.2.1]
  refine ⟨by omega, ?_⟩
  rintro w3 rfl
  rw [show δ + 1 - 1 = δ by omega]
  exact mf_gives (by decide) (by omega) hv hpr (h2.up h0) k kb
/-- a product taken into the sum -/
def fold (pl s x : Int) : Mo Int := if pl = 0 then mpure x else if pl = 1 then mbd (s + x) else mbd (s - x)
theorem mf_folds (hd : 3 ≤ d) (hδ : 0 ≤ δ ∧ δ < 40) (h : MF w0 c B l p δ 0 0 wa is fr w) (hx : PV (fr 137)) (hs : PV (fr 138)) (hp : fr 139 = 0 ∨ fr 139 = 1 ∨ fr 139 = -1)
    (kerr : fold (fr 139) (fr 138) (fr 137) env l = (l, .inl (1, -1)) → ∀ w' fr', MF w0 c B l p δ 1 0 wa is fr' w' → KV w')
    (kok : ∀ v w', fold (fr 139) (fr 138) (fr 137) env l = (l, .inr v) → PV v → MF w0 c B l p δ 0 0 wa is (fu (fu fr 138 v) 136 0) w' → KV w') : C_X9_folds d [.inr (.inr 115)] w KV := by
  refine ⟨2, hd, e_X9_folds ?_⟩
  have r := fun a h1 h2 => (h.2.2.1 a h1 h2).1
  rw [h.2.1.2.1, r 137 (by decide) (by decide), r 138 (by decide) (by decide), r 139 (by decide) (by decide)]
  have step : ∀ v w1 wr, MF w0 c B l p δ wr 0 wa is fr w1 → (∀ w', MF w0 c B l p δ wr 0 wa is (fu (fu fr 138 v) 136 0) w' → KV w') → (0 ≤ δ ∧ δ < 40) ∧ (∀ w2, w2 = wset w1 138 δ v → (0 ≤ (w2 115 23) ∧ (w2 115 23) < 40) ∧ (∀ w3, w3 = wset w2 136 (w2 115 23) 0 → KV w3)) := by
    intro v w1 wr h1 kk
    refine ⟨hδ, ?_⟩
    rintro w2 rfl
    have h2 := h1.sfr (a := 138) (by decide) v
    rw [h2.2.1.2.1]
    refine ⟨hδ, ?_⟩
    rintro w3 rfl
    exact kk _ (h2.sfr (a := 136) (by decide) 0)
  unfold fold at kerr kok
  refine ⟨hδ, hδ, fun q => ⟨hδ, fun q1 => ⟨hδ, by omega, ?_⟩, fun q1 => ⟨hδ, by omega, ?_⟩⟩, fun q => ?_⟩
  · rw [if_neg q, if_neg (by omega)] at kerr kok
    unfold mbd at kerr kok
    refine mf_bound (by decide) h (fun z w1 h1 => step _ w1 1 h1 (fun w' h' => ?_)) (fun z => step _ w 0 h (fun w' h' => ?_))
    · rw [if_pos (by omega)] at kerr
      exact kerr rfl w' _ h'
    · rw [if_neg (by omega)] at kok
      exact kok _ w' rfl z h'
  · rw [if_neg q, if_pos (by omega)] at kerr kok
    unfold mbd at kerr kok
    refine mf_bound (by decide) h (fun z w1 h1 => step _ w1 1 h1 (fun w' h' => ?_)) (fun z => step _ w 0 h (fun w' h' => ?_))
    · rw [if_pos (by omega)] at kerr
      exact kerr rfl w' _ h'
    · rw [if_neg (by omega)] at kok
      exact kok _ w' rfl z h'
  · rw [if_pos q] at kok
    exact mf_bound (by decide) h (fun z => absurd hx z) (fun z => step _ w 0 h (fun w' h' => kok _ w' rfl z h'))
/-- the parts that are left -/
theorem mf_othersL {f : Nat} {R v1 : Int} (hM : MSt w0 c t n env) (hF : SkF t n fac) (hB : Bd n fac) (i : Nat) : ∀ (q v2 : Int) (w : Wd), 0 ≤ q → 0 ≤ v2 → v2 + i ≤ 1000 → Aft t n fac f i q R → MF w0 c B l q δ wr bl wa is fr w →
    (∀ (m : Nat) w', m ≤ i → (∀ j : Nat, lk t n (skN t n j q) = 44 ↔ j < m) → MF w0 c B l v1 δ wr bl wa is fr w' → K (v2 + m) w') → W_X9_others 3 7 [some (.inr (.inr 115)), some (.inl v1), some (.inl v2)] [] w K := by
  have skS : ∀ q, ¬ lk t n q = 44 → ∀ j, skN t n j q = q := by
    intro q hq j
    cases j with
    | zero => rfl
    | succ j => unfold skN; rw [if_neg hq]
  have hn := hM.2.2.1
  induction i with
  | zero =>
    intro q v2 w h0 h2 hi ha h k
    have e0 := hr_lk (t := t) (n := n) h0
    by_cases q44 : lk t n q = 44
    · obtain ⟨i', e, _⟩ := ha.next q44
      omega
    · refine v_X9_others_7 (mf_sign hM (by decide) h h0 ⟨fun z => ?_, fun z => by omega⟩)
      rintro w2 rfl
      have := k 0 _ (Nat.le_refl 0) (fun j => by rw [skS q q44 j]; exact ⟨fun z => absurd z q44, fun z => absurd z (Nat.not_lt_zero j)⟩) (h.sp v1)
      rw [show v2 + ((0 : Nat) : Int) = v2 by omega] at this
      exact this
  | succ i ih =>
    intro q v2 w h0 h2 hi ha h k
    have e0 := hr_lk (t := t) (n := n) h0
    by_cases q44 : lk t n q = 44
    · obtain ⟨i', e, c1, c2⟩ := ha.next q44
      have ei : i' = i := by omega
      subst ei
      have hl := lk_pos (t := t) (n := n) (p := q) (by omega)
      have hs := sk_part hF hB f (q + 1) (by omega) (by omega) c1
      have hb := ckPart_bd (t := t) hB f (q + 1) (by omega) (by omega)
      have hst := c2.stop
      have hl2 := lk_pos (t := t) (n := n) (p := (ckPart t n fac f (q + 1)).2) (by omega)
      have e1 := Sk.skp0 (t := t) hn.2 (p := q + 1) (by omega) hl2.2 hs hst
      refine v_X9_others_7 (mf_sign hM (by decide) h h0 ⟨fun z => by omega, fun z => ⟨by omega, ?_⟩⟩)
      rw [h.2.1.1]
      refine ⟨by omega, ?_⟩
      rintro w3 rfl
      refine mf_skip hM (by decide) (h.sp (q + 1)) (by omega) hl2.2 hs hst (fun w4 h4 => ih _ (v2 + 1) w4 (by omega) (by omega) (by omega) c2 h4 (fun m w' hm hj h' => ?_))
      have := k (m + 1) w' (by omega) (fun j => by
        cases j with
        | zero => exact ⟨fun _ => Nat.succ_pos m, fun _ => q44⟩
        | succ j =>
          unfold skN
          rw [if_pos q44, e1]
          exact (hj j).trans ⟨fun z => by omega, fun z => by omega⟩) h'
      rw [show v2 + ((m + 1 : Nat) : Int) = v2 + 1 + m by omega] at this
      exact this
    · refine v_X9_others_7 (mf_sign hM (by decide) h h0 ⟨fun z => ?_, fun z => by omega⟩)
      rintro w2 rfl
      have := k 0 _ (by omega) (fun j => by rw [skS q q44 j]; exact ⟨fun z => absurd z q44, fun z => absurd z (Nat.not_lt_zero j)⟩) (h.sp v1)
      rw [show v2 + ((0 : Nat) : Int) = v2 by omega] at this
      exact this
theorem mf_others {f i : Nat} {R : Int} (hM : MSt w0 c t n env) (hd : 4 ≤ d) (hF : SkF t n fac) (hB : Bd n fac) (h0 : 0 ≤ p) (hi : i ≤ 900) (ha : Aft t n fac f i p R) (h : MF w0 c B l p δ wr bl wa is fr w)
    (k : ∀ (m : Nat) w', m ≤ i → (∀ j : Nat, lk t n (skN t n j p) = 44 ↔ j < m) → MF w0 c B l p δ wr bl wa is fr w' → K m w') : C_X9_others d [.inr (.inr 115)] w K := by
  refine ⟨3, hd, e_X9_others ?_⟩
  rw [h.2.1.1]
  refine mf_othersL hM hF hB i p 0 w h0 (by decide) (by omega) ha h (fun m w' hm hj h' => ?_)
  have := k m w' hm hj h'
  rw [show (0 : Int) + m = m by omega]
  exact this
/-- passing over the parts behind the one that was picked -/
theorem mf_pick12 {f : Nat} {R v : Int} (hM : MSt w0 c t n env) (hd : 3 ≤ d) (hF : SkF t n fac) (hB : Bd n fac) (i : Nat) : ∀ (q : Int) (w : Wd), 0 ≤ q → Aft t n fac f i q R → MF w0 c B l q δ wr bl wa is fr w → (∀ w', MF w0 c B l (R - 1) δ wr bl wa is fr w' → C_X9_leaves d [.inr (.inr 115), .inr (.inl v)] w' KV) → W_X9_picks d 12 [some (.inr (.inr 115)), some (.inr (.inl v)), none, none, none] [] w KV := by
  have hn := hM.2.2.1
  induction i with
  | zero =>
    intro q w h0 ha h k
    have e0 := hr_lk (t := t) (n := n) h0
    rcases ha with ⟨q41, hR⟩ | q44
    · refine v_X9_picks_12 (mf_sign hM (by omega) h h0 ⟨fun z => k w ?_, fun z => by omega⟩)
      rw [hR, show q + 1 - 1 = q by omega]
      exact h
    · obtain ⟨i', e, _⟩ := (show Aft t n fac f 0 q R from Or.inr q44).next q44.1
      omega
  | succ i ih =>
    intro q w h0 ha h k
    have e0 := hr_lk (t := t) (n := n) h0
    by_cases q44 : lk t n q = 44
    · obtain ⟨i', e, c1, c2⟩ := ha.next q44
      have ei : i' = i := by omega
      subst ei
      have hl := lk_pos (t := t) (n := n) (p := q) (by omega)
      have hs := sk_part hF hB f (q + 1) (by omega) (by omega) c1
      have hb := ckPart_bd (t := t) hB f (q + 1) (by omega) (by omega)
      have hst := c2.stop
      have hl2 := lk_pos (t := t) (n := n) (p := (ckPart t n fac f (q + 1)).2) (by omega)
      refine v_X9_picks_12 (mf_sign hM (by omega) h h0 ⟨fun z => by omega, fun z => ?_⟩)
      rw [h.2.1.1]
      refine ⟨by omega, ?_⟩
      rintro w3 rfl
      exact mf_skip hM hd (h.sp (q + 1)) (by omega) hl2.2 hs hst (fun w4 h4 => ih _ w4 (by omega) c2 h4 k)
    · rcases ha with ⟨q41, hR⟩ | q44'
      · refine v_X9_picks_12 (mf_sign hM (by omega) h h0 ⟨fun z => k w ?_, fun z => by omega⟩)
        rw [hR, show q + 1 - 1 = q by omega]
        exact h
      · exact absurd q44'.1 q44
/-- to the part that is picked -/
theorem mf_pick78 {f : Nat} {R v : Int} (hM : MSt w0 c t n env) (hd : 4 ≤ d) (hδ : 0 ≤ δ ∧ δ < 40) (hF : SkF t n fac) (hB : Bd n fac) (m : Nat) : ∀ (i : Nat) (q : Int) (w : Wd), 0 ≤ q → m ≤ 100 → PV v → Aft t n fac f i q R → lk t n (skN t n m q) = 44 → MF w0 c B l (q + 1) δ wr bl wa is fr w → (∀ w' fr', FrN (fu fr 134 1) fr' → MF w0 c B l (skN t n m q + 1) δ wr bl 1 (if 7 ≤ fr 133 ∧ fr 133 ≤ 10 then 1 else 0) fr' w' → KV w') → W_X9_picks d 78 [some (.inr (.inr 115)), some (.inr (.inl v)), none, some (.inr (.inl (v - m))), none] [] w KV := by
  have hn := hM.2.2.1
  induction m with
  | zero =>
    intro i q w h0 hm hv ha hs h k
    refine v_X9_picks_78 ⟨fun _ => ?_, fun z => by omega⟩
    rw [h.2.1.2.1]
    refine ⟨hδ, ?_⟩
    rintro w1 rfl
    refine mf_frame (by omega) hδ (h.sfr (a := 134) (by decide) 1) (fun w' fr' hf h' => k w' fr' hf ?_)
    rw [fu_ne (by decide)] at h'
    exact h'
  | succ m ih =>
    intro i q w h0 hm hv ha hs h k
    unfold skN at hs k
    by_cases q44 : lk t n q = 44
    · rw [if_pos q44] at hs k
      obtain ⟨i', e, c1, c2⟩ := ha.next q44
      have hl := lk_pos (t := t) (n := n) (p := q) (by omega)
      have hsk := sk_part hF hB f (q + 1) (by omega) (by omega) c1
      have hb := ckPart_bd (t := t) hB f (q + 1) (by omega) (by omega)
      have hst := c2.stop
      have hl2 := lk_pos (t := t) (n := n) (p := (ckPart t n fac f (q + 1)).2) (by omega)
      have e1 := Sk.skp0 (t := t) hn.2 (p := q + 1) (by omega) hl2.2 hsk hst
      rw [e1] at hs k
      refine v_X9_picks_78 ⟨fun z => by omega, fun _ => mf_skip hM (by omega) h (by omega) hl2.2 hsk hst (fun w3 h3 => ?_)⟩
      rw [h3.2.1.1]
      refine ⟨by omega, ?_⟩
      rintro w4 rfl
      refine ⟨by omega, ?_⟩
      have := ih i' _ _ (by omega) (by omega) hv c2 hs (h3.sp _) k
      rw [show v - ((m + 1 : Nat) : Int) + 1 = v - m by omega]
      exact this
    · rw [if_neg q44] at hs
      exact absurd hs q44
end MHS
