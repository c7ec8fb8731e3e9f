/-! ===== the checker's recursion, and firstFault ===== -/
section CKR
variable {d D : Nat} {w : Wd} {n p a : Int} {t : Int → Int} {K : Int → Wd → Prop} {fac : Int → Bool × Int}
theorem bt {b : Bool} (h : ¬ b = true) : b = false := by cases b <;> simp_all
def SF (fac : Int → Bool × Int) (a : Int) (D : Nat) (w : Wd) (n : Int) : Prop := ∀ (p : Int) (K : Int → Wd → Prop) (d : Nat), 0 ≤ p → p ≤ n → D < d → K (bi (fac p).1) (wpos w 105 (fac p).2) → C_X1_factor d [.inr (.inr 104), .inl a] (wpos w 105 p) K
theorem s_ckPrd (hC : CurT w 105 t n) (hS : SF fac a D w n) (hB : Bd n fac) (h0 : 0 ≤ p) (h1 : p ≤ n) (hD : 3 ≤ D) (hd : D + 1 < d) (k : K (bi (ckPrd t n fac 30 p).1) (wpos w 105 (ckPrd t n fac 30 p).2)) : C_X1_product d [.inr (.inr 104), .inl a] (wpos w 105 p) K := by
  have hn := hC.2.1.2
  refine ⟨D + 1, hd, e_X1_product ?_⟩
  have go : ∀ (i : Nat) (v p : Int), v + i = 30 → 0 ≤ v → 0 ≤ p → p ≤ n → K (bi (ckPrd t n fac i p).1) (wpos w 105 (ckPrd t n fac i p).2) → W_X1_product (D + 1) 4 [some (.inr (.inr 104)), some (.inl a), some (.inl 1), some (.inl v)] [] (wpos w 105 p) K := by
    intro i
    induction i with
    | zero =>
      intro v p hv hv0 h0 h1 hk
      exact v_X1_product_4 ⟨fun _ => hk, fun q => absurd (by omega) q⟩
    | succ i ih =>
      intro v p hv hv0 h0 h1 hk
      have hb := hB p h0 h1
      refine v_X1_product_4 ⟨fun q => absurd q (by omega), fun q => am_b1 (hS p _ _ h0 h1 (by omega) ?_)⟩
      unfold ckPrd at hk
      by_cases hf : (fac p).1 = true
      · rw [if_pos hf] at hk
        rw [hf]
        refine am_c1 (s_pass (by omega) hC (by omega) (by omega) (fun q2 => ?_) (fun q2 => ?_))
        · rw [if_pos q2] at hk
          have hp2 := lk_pos (t := t) (n := n) (p := (fac p).2) (by omega)
          exact ⟨⟨by omega, by omega⟩, ih (v + 1) _ (by omega) (by omega) (by omega) (by omega) hk⟩
        · rw [if_neg q2] at hk
          refine ⟨⟨by omega, by omega⟩, v_X1_product_4 ⟨fun _ => hk, fun _ => am_b0 hk⟩⟩
      · rw [if_neg hf] at hk
        rw [bt hf]
        exact am_c0 hk
  exact go 30 0 p rfl (by decide) h0 h1 k
theorem s_ckFrm (hC : CurT w 105 t n) (hS : SF fac a D w n) (hB : Bd n fac) (h0 : 0 ≤ p) (h1 : p ≤ n) (hD : 3 ≤ D) (hd : D + 2 < d) (k : K (bi (ckFrm t n fac 30 p).1) (wpos w 105 (ckFrm t n fac 30 p).2)) : C_X1_formula d [.inr (.inr 104), .inl a] (wpos w 105 p) K := by
  have hn := hC.2.1.2
  refine ⟨D + 2, hd, e_X1_formula ?_⟩
  have go : ∀ (i : Nat) (v p : Int), v + i = 30 → 0 ≤ v → 0 ≤ p → p ≤ n → K (bi (ckFrm t n fac i p).1) (wpos w 105 (ckFrm t n fac i p).2) → W_X1_formula (D + 2) 4 [some (.inr (.inr 104)), some (.inl a), some (.inl 1), some (.inl v)] [] (wpos w 105 p) K := by
    intro i
    induction i with
    | zero =>
      intro v p hv hv0 h0 h1 hk
      exact v_X1_formula_4 ⟨fun _ => hk, fun q => absurd (by omega) q⟩
    | succ i ih =>
      intro v p hv hv0 h0 h1 hk
      have hb := ckPrd_bd (t := t) hB 30 p h0 h1
      refine v_X1_formula_4 ⟨fun q => absurd q (by omega), fun q => am_b1 (s_ckPrd hC hS hB h0 h1 hD (by omega) ?_)⟩
      unfold ckFrm at hk
      by_cases hf : (ckPrd t n fac 30 p).1 = true
      · rw [if_pos hf] at hk
        rw [hf]
        refine am_c1 (s_pass (by omega) hC (by omega) (by omega) (fun q2 => ?_) (fun q2 => ?_))
        · rw [if_pos (Or.inl q2)] at hk
          have hp2 := lk_pos (t := t) (n := n) (p := (ckPrd t n fac 30 p).2) (by omega)
          exact am_c1 ⟨⟨by omega, by omega⟩, ih (v + 1) _ (by omega) (by omega) (by omega) (by omega) hk⟩
        · refine am_c0 (s_pass (by omega) hC (by omega) (by omega) (fun q3 => ?_) (fun q3 => ?_))
          · rw [if_pos (Or.inr q3)] at hk
            have hp2 := lk_pos (t := t) (n := n) (p := (ckPrd t n fac 30 p).2) (by omega)
            exact am_b1 ⟨⟨by omega, by omega⟩, ih (v + 1) _ (by omega) (by omega) (by omega) (by omega) hk⟩
          · rw [if_neg (by omega)] at hk
            refine am_b0 ⟨⟨by omega, by omega⟩, v_X1_formula_4 ⟨fun _ => hk, fun _ => am_b0 hk⟩⟩
      · rw [if_neg hf] at hk
        rw [bt hf]
        exact am_c0 hk
  exact go 30 0 p rfl (by decide) h0 h1 k
theorem tab_least : ∀ f : Nat, f < 9 → 1 ≤ am_least.getD f 0 ∧ am_least.getD f 0 ≤ am_most.getD f 0 ∧ am_most.getD f 0 ≤ 5 := by decide
theorem s_ckParts {f : Nat} (hC : CurT w 105 t n) (hS : SF fac a D w n) (hB : Bd n fac) (h0 : 0 ≤ p) (h1 : p ≤ n) (hf9 : f < 9) (hD : 3 ≤ D) (hd : D + 3 < d) (k : K (bi (ckParts t n fac f (am_most.getD f 0).toNat 1 p).1) (wpos w 105 (ckParts t n fac f (am_most.getD f 0).toNat 1 p).2)) : C_X1_parts d [.inr (.inr 104), .inl (f : Int), .inl a] (wpos w 105 p) K := by
  have hn := hC.2.1.2
  have htab := tab_least f hf9
  have e9 : ((f : Int).toNat) = f := rfl
  refine ⟨D + 3, hd, e_X1_parts ?_⟩
  have go : ∀ (i : Nat) (v p : Int), v + i = am_most.getD f 0 + 1 → 1 ≤ v → 0 ≤ p → p ≤ n → K (bi (ckParts t n fac f i v p).1) (wpos w 105 (ckParts t n fac f i v p).2) → W_X1_parts (D + 3) 2 [some (.inr (.inr 104)), some (.inl (f : Int)), some (.inl a), some (.inl v), none] [] (wpos w 105 p) K := by
    intro i
    induction i with
    | zero =>
      intro v p hv hv0 h0 h1 hk
      refine v_X1_parts_2 ⟨⟨by omega, by omega⟩, ?_⟩
      rw [e9]
      exact ⟨fun _ => hk, fun q => absurd (by omega) q⟩
    | succ i ih =>
      intro v p hv hv0 h0 h1 hk
      have hb := ckPart_bd (t := t) hB f p h0 h1
      refine v_X1_parts_2 ⟨⟨by omega, by omega⟩, ?_⟩
      rw [e9]
      refine ⟨fun q => absurd q (by omega), fun q => s_ckIsArea (by omega) hC h0 h1 hf9 ?_⟩
      unfold ckParts at hk
      -- what follows a part, the same behind an area and a formula
      have rest : ∀ (z : Int) (q2 : Int), 0 ≤ q2 → q2 ≤ n → z = q2 → K (bi (if am_least.getD f 0 ≤ v ∧ lk t n q2 = 41 then ((true, q2 + 1) : Bool × Int) else if v = am_most.getD f 0 then (false, q2) else if lk t n q2 = 44 then ckParts t n fac f i (v + 1) (q2 + 1) else (false, q2)).1) (wpos w 105 (if am_least.getD f 0 ≤ v ∧ lk t n q2 = 41 then ((true, q2 + 1) : Bool × Int) else if v = am_most.getD f 0 then (false, q2) else if lk t n q2 = 44 then ckParts t n fac f i (v + 1) (q2 + 1) else (false, q2)).2) →
          ((v < am_least.getD f 0 → (0 ≤ (f : Int) ∧ (f : Int) < 9) ∧ ((v = am_most.getD f 0 → K 0 (wpos w 105 q2)) ∧ (¬ v = am_most.getD f 0 → C_X2_pass (D + 3) [.inr (.inr 105), .inl 44] (wpos w 105 q2) (fun x3 w3 => ((¬ x3 = 0 → (-2147483648 ≤ (v + 1) ∧ (v + 1) ≤ 2147483647) ∧ W_X1_parts (D + 3) 2 [some (.inr (.inr 104)), some (.inl (f : Int)), some (.inl a), some (.inl (v + 1)), none] [] w3 K) ∧ (x3 = 0 → K 0 w3)))))) ∧
          (¬ (v < am_least.getD f 0) → C_X2_pass (D + 3) [.inr (.inr 105), .inl 41] (wpos w 105 q2) (fun x4 w4 => ((x4 = 0 → (0 ≤ (f : Int) ∧ (f : Int) < 9) ∧ ((v = am_most.getD f 0 → K 0 w4) ∧ (¬ v = am_most.getD f 0 → C_X2_pass (D + 3) [.inr (.inr 105), .inl 44] w4 (fun x5 w5 => ((¬ x5 = 0 → (-2147483648 ≤ (v + 1) ∧ (v + 1) ≤ 2147483647) ∧ W_X1_parts (D + 3) 2 [some (.inr (.inr 104)), some (.inl (f : Int)), some (.inl a), some (.inl (v + 1)), none] [] w5 K) ∧ (x5 = 0 → K 0 w5)))))) ∧ (¬ x4 = 0 → K 1 w4))))) := by
        intro z q2 g0 g1 _ hk
        have comma : ¬ (am_least.getD f 0 ≤ v ∧ lk t n q2 = 41) → (0 ≤ (f : Int) ∧ (f : Int) < 9) ∧ ((v = am_most.getD f 0 → K 0 (wpos w 105 q2)) ∧ (¬ v = am_most.getD f 0 → C_X2_pass (D + 3) [.inr (.inr 105), .inl 44] (wpos w 105 q2) (fun x3 w3 => ((¬ x3 = 0 → (-2147483648 ≤ (v + 1) ∧ (v + 1) ≤ 2147483647) ∧ W_X1_parts (D + 3) 2 [some (.inr (.inr 104)), some (.inl (f : Int)), some (.inl a), some (.inl (v + 1)), none] [] w3 K) ∧ (x3 = 0 → K 0 w3))))) := by
          intro hne
          rw [if_neg hne] at hk
          refine ⟨⟨by omega, by omega⟩, fun hm => ?_, fun hm => ?_⟩
          · rw [if_pos hm] at hk
            exact hk
          · rw [if_neg hm] at hk
            refine s_pass (by omega) hC g0 (by omega) (fun q3 => ?_) (fun q3 => ?_)
            · rw [if_pos q3] at hk
              have hp2 := lk_pos (t := t) (n := n) (p := q2) (by omega)
              exact am_c1 ⟨⟨by omega, by omega⟩, ih (v + 1) (q2 + 1) (by omega) (by omega) (by omega) (by omega) hk⟩
            · rw [if_neg q3] at hk
              exact am_c0 hk
        refine ⟨fun hl => comma (by omega), fun hl => s_pass (by omega) hC g0 (by omega) (fun q3 => ?_) (fun q3 => am_b0 (comma (by omega)))⟩
        rw [if_pos (by omega)] at hk
        exact am_b1 hk
      by_cases ha : ckIsArea t n f p = true
      · have e : ckPart t n fac f p = ckArea t n p := if_pos ha
        rw [e] at hk hb
        rw [ha]
        refine am_b1 (s_area (by omega) hC h0 h1 ?_)
        by_cases hf : (ckArea t n p).1 = true
        · rw [if_pos hf] at hk
          rw [hf]
          exact am_c1 ⟨⟨by omega, by omega⟩, rest _ _ (by omega) (by omega) rfl hk⟩
        · rw [if_neg hf] at hk
          rw [bt hf]
          exact am_c0 hk
      · have e : ckPart t n fac f p = ckFrm t n fac 30 p := if_neg ha
        rw [e] at hk hb
        rw [bt ha]
        refine am_b0 (s_ckFrm hC hS hB h0 h1 hD (by omega) ?_)
        by_cases hf : (ckFrm t n fac 30 p).1 = true
        · rw [if_pos hf] at hk
          rw [hf]
          exact am_c1 ⟨⟨by omega, by omega⟩, rest _ _ (by omega) (by omega) rfl hk⟩
        · rw [if_neg hf] at hk
          rw [bt hf]
          exact am_c0 hk
  exact go _ 1 p (by omega) (by decide) h0 h1 k
theorem bi01 (b : Bool) : bi b = 0 ∨ bi b = 1 := by cases b <;> simp [bi]
theorem s_ckCall (hC : CurT w 105 t n) (hS : SF fac a D w n) (hB : Bd n fac) (h0 : 0 ≤ p) (h1 : p ≤ n) (hD : 7 ≤ D) (hd : D + 4 < d) (k : K (bi (ckCall t n fac 9 0 (if isCol (lk t n p) then 1 else 0) p).1) (wpos w 105 (ckCall t n fac 9 0 (if isCol (lk t n p) then 1 else 0) p).2)) : C_X1_call d [.inr (.inr 104), .inl a] (wpos w 105 p) K := by
  have hn := hC.2.1.2
  refine ⟨D + 4, hd, e_X1_call ?_⟩
  have go : ∀ (i f : Nat) (r : Int), i + f = 9 → 0 ≤ r → p + r ≤ n → K (bi (ckCall t n fac i f r p).1) (wpos w 105 (ckCall t n fac i f r p).2) → W_X1_call (D + 4) 22 [some (.inr (.inr 104)), some (.inl a), some (.inl r), some (.inl (f : Int)), none] [] (wpos w 105 p) K := by
    intro i
    induction i with
    | zero =>
      intro f r hf hr hrn hk
      refine v_X1_call_22 (by omega) ⟨fun _ => ?_, fun q => absurd (by omega) q⟩
      rw [wpos_3]
      refine ⟨⟨by omega, by omega⟩, fun w1 e => ?_⟩
      rw [e, wpos_wset]
      exact hk
    | succ i ih =>
      intro f r hf hr hrn hk
      have hf9 : f < 9 := by omega
      have hm := ckMt_in (t := t) (n := n) (nmS f) (nmS_ne f hf9) p h1
      have hm2 := ckMt_bd (t := t) (n := n) (nmS f) p
      refine v_X1_call_22 (by omega) ⟨fun q => absurd q (by omega), fun q => s_nameOf (by omega) hf9 (s_matching (by omega) hC h0 (by omega) hf9 (s_nameOf (by omega) hf9 ⟨f, hf9, rfl, s_strlen (by omega) hf9 ?_⟩))⟩
      unfold ckCall at hk
      refine ⟨fun q2 => ?_, fun q2 => ?_⟩
      · rw [if_neg q2] at hk
        exact ⟨⟨by omega, by omega⟩, ih (f + 1) _ (by omega) (by omega) (by omega) hk⟩
      · rw [if_pos q2] at hk
        rw [wpos_3]
        refine ⟨⟨by omega, by omega⟩, fun w6 e => ?_⟩
        rw [e, wpos_wset]
        exact s_ckParts hC hS hB (by omega) hm hf9 (by omega) (by omega) ⟨bi01 _, hk⟩
  refine s_look0 (by omega) hC h0 (by omega) (s_isCol (by omega) (fun q => ?_) (fun q => ?_))
  · rw [if_pos q] at k
    have hp := lk_pos (t := t) (n := n) (p := p) (by omega)
    exact am_b1 (go 9 0 1 rfl (by decide) (by omega) k)
  · rw [if_neg q] at k
    exact am_b0 (go 9 0 0 rfl (by decide) (by omega) k)
theorem s_ckFac (hC : CurT w 105 t n) : ∀ (k : Nat) (a : Int), a + k = 41 → 0 ≤ a → SF (ckFac t n k) a (20 + 6 * k) w n := by
  have hn := hC.2.1
  intro k
  induction k with
  | zero =>
    intro a ha ha0 p K d h0 h1 hd hk
    refine ⟨20, by omega, e_X1_factor ⟨fun q => absurd q (by omega), fun _ => hk⟩⟩
  | succ k ih =>
    intro a ha ha0 p K d h0 h1 hd hk
    have hS := ih (a + 1) (by omega) (by omega)
    have hB := ckFac_bd (t := t) hn.1 k
    refine ⟨20 + 6 * (k + 1), hd, e_X1_factor ⟨fun _ => s_pass (by omega) hC h0 (by omega) (fun q1 => ?_) (fun q1 => ?_), fun q => absurd (by omega) q⟩⟩
    · unfold ckFac at hk
      rw [if_pos q1] at hk
      have hp := lk_pos (t := t) (n := n) (p := p) (by omega)
      exact am_b1 ⟨⟨by omega, by omega⟩, hS (p + 1) _ _ (by omega) (by omega) (by omega) ⟨bi01 _, hk⟩⟩
    · unfold ckFac at hk
      rw [if_neg q1] at hk
      refine am_b0 (s_pass (by omega) hC h0 (by omega) (fun q2 => ?_) (fun q2 => ?_))
      · rw [if_pos q2] at hk
        have hp := lk_pos (t := t) (n := n) (p := p) (by omega)
        have hb := ckFrm_bd (t := t) hB 30 (p + 1) (by omega) (by omega)
        refine am_b1 ⟨⟨by omega, by omega⟩, s_ckFrm hC hS hB (by omega) (by omega) (by omega) (by omega) ?_⟩
        by_cases hf : (ckFrm t n (ckFac t n k) 30 (p + 1)).1 = true
        · rw [if_pos hf] at hk
          rw [hf]
          refine am_b1 (s_pass (by omega) hC (by omega) (by omega) (fun q3 => ?_) (fun q3 => ?_))
          · rw [if_pos q3] at hk
            exact am_b1 hk
          · rw [if_neg q3] at hk
            exact am_b0 hk
        · rw [if_neg hf] at hk
          rw [bt hf]
          exact am_b0 hk
      · rw [if_neg q2] at hk
        refine am_b0 (s_look0 (by omega) hC h0 (by omega) (s_isDig (by omega) (fun q3 => ?_) (fun q3 => ?_)))
        · rw [if_pos q3] at hk
          exact am_b1 (s_ckNum (by omega) hC h0 h1 hk)
        · rw [if_neg q3] at hk
          refine am_b0 (s_atCell (by omega) hC h0 (by omega) (fun q4 => ?_) (fun q4 => ?_))
          · rw [if_pos q4] at hk
            refine am_b1 ?_
            rw [wpos_3]
            refine ⟨⟨by omega, by omega⟩, fun w7 e => ?_⟩
            rw [e, wpos_wset]
            exact hk
          · rw [if_neg q4] at hk
            exact am_b0 ⟨⟨by omega, by omega⟩, s_ckCall hC hS hB h0 h1 (by omega) (by omega) ⟨bi01 _, hk⟩⟩
/-- the fault of a text: -1 if there is none -/
def ckFault (t : Int → Int) (n : Int) : Int := if n = 0 then -1 else if (ckFrm t n (ckFac t n 41) 30 0).1 = true ∧ n ≤ (ckFrm t n (ckFac t n 41) 30 0).2 then -1 else (ckFrm t n (ckFac t n 41) 30 0).2
/-- firstFault: only the checker's cursor is written -/
theorem s_firstFault {te : Int} {t : Int → Int} (hd : 300 ≤ d) (hte : am_Te te) (hn : 0 ≤ w te 1 ∧ w te 1 ≤ 30) (ht : ∀ i, 0 ≤ i → i < w te 1 → w (te + 1) i = t i) (k : ∀ w1, (∀ c, c ≠ 105 → w1 c = w c) → K (ckFault t (w te 1)) w1) : C_X1_firstFault d [.inr (.inr 104), .inr (.inr te)] w K := by
  refine ⟨299, hd, e_X1_firstFault hte ⟨fun q => ?_, fun q => ?_⟩⟩
  · have hC := CurT.enter (w := w) (c := 105) (L := te + 1) (o := 0) (n := w te 1) (t := t) (N := 30) (Or.inl rfl) hn (am_Te_1 hte) (by decide) (by decide) (by omega) (fun i i0 i1 => by rw [Int.zero_add]; exact ht i i0 i1)
    have hB := ckFac_bd (t := t) hn.1 41
    have hb := ckFrm_bd (t := t) hB 30 0 (by decide) hn.1
    have hout : ∀ x, (∀ c, c ≠ 105 → wpos (wset (wset (wset w 105 0 (te + 1)) 105 1 0) 105 2 (w te 1)) 105 x c = w c) := fun x c hc => by
      rw [wpos_ne hc, wset_ne c hc, wset_ne c hc, wset_ne c hc]
    refine s_enter (by decide) (Or.inl rfl) (by have := am_Te_ne hte; rcases hte with rfl | rfl <;> decide) (s_ckFrm (D := 266) hC (s_ckFac hC 41 0 rfl (by decide)) hB (by decide) hn.1 (by decide) (by decide) ?_)
    by_cases hf : (ckFrm t (w te 1) (ckFac t (w te 1) 41) 30 0).1 = true
    · rw [hf]
      refine am_b1 (s_atEnd (by decide) hC (fun q2 => ?_) (fun q2 => ?_))
      · have := k _ (hout (ckFrm t (w te 1) (ckFac t (w te 1) 41) 30 0).2)
        unfold ckFault at this
        rw [if_neg q, if_pos ⟨hf, q2⟩] at this
        exact am_b1 this
      · have := k _ (hout (ckFrm t (w te 1) (ckFac t (w te 1) 41) 30 0).2)
        unfold ckFault at this
        rw [if_neg q, if_neg (fun z => q2 z.2)] at this
        refine am_b0 ?_
        rw [wpos_3]
        exact this
    · rw [bt hf]
      refine am_b0 ?_
      rw [wpos_3]
      have := k _ (hout (ckFrm t (w te 1) (ckFac t (w te 1) 41) 30 0).2)
      unfold ckFault at this
      rw [if_neg q, if_neg (fun z => hf z.1)] at this
      exact this
  · have := k w (fun _ _ => rfl)
    unfold ckFault at this
    rw [if_pos q] at this
    exact this
end CKR
