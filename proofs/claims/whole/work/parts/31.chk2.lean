/-! ===== the checker's functions, and that the class's checker is they ===== -/
def bi (b : Bool) : Int := if b then 1 else 0
section CK
variable (t : Int → Int) (n : Int)
def ckNum : Nat → Int → Int
  | 0, p => p
  | f + 1, p => if isDig (lk t n p) then ckNum f (p + 1) else p
/-- a cell that is not left of a column nor above a row -/
def ckCell (col row p : Int) : Bool × Int :=
  if col ≤ lk t n p ∧ isCol (lk t n p) then (if row ≤ lk t n (p + 1) ∧ isRow (lk t n (p + 1)) then (true, p + 2) else (false, p + 1)) else (false, p)
def ckArea (p : Int) : Bool × Int :=
  if (ckCell t n 97 49 p).1 = true then (if lk t n (p + 2) = 58 then ckCell t n (lk t n p) (lk t n (p + 1)) (p + 3) else (true, p + 2)) else (false, (ckCell t n 97 49 p).2)
def ckIsArea (f : Nat) (p : Int) : Bool := decide (f = 8 ∨ (5 ≤ f ∧ (isCol (lk t n p) ∧ isRow (lk t n (p + 1))) ∧ lk t n (p + 2) = 58))
def ckPrd (fac : Int → Bool × Int) : Nat → Int → Bool × Int
  | 0, p => (true, p)
  | i + 1, p => if (fac p).1 = true then (if lk t n (fac p).2 = 42 then ckPrd fac i ((fac p).2 + 1) else (true, (fac p).2)) else (false, (fac p).2)
def ckFrm (fac : Int → Bool × Int) : Nat → Int → Bool × Int
  | 0, p => (true, p)
  | i + 1, p => if (ckPrd t n fac 30 p).1 = true then (if lk t n (ckPrd t n fac 30 p).2 = 43 ∨ lk t n (ckPrd t n fac 30 p).2 = 45 then ckFrm fac i ((ckPrd t n fac 30 p).2 + 1) else (true, (ckPrd t n fac 30 p).2)) else (false, (ckPrd t n fac 30 p).2)
def ckPart (fac : Int → Bool × Int) (f : Nat) (p : Int) : Bool × Int := if ckIsArea t n f p = true then ckArea t n p else ckFrm t n fac 30 p
def ckParts (fac : Int → Bool × Int) (f : Nat) : Nat → Int → Int → Bool × Int
  | 0, _, p => (false, p)
  | i + 1, part, p => if (ckPart t n fac f p).1 = true then
      (if am_least.getD f 0 ≤ part ∧ lk t n (ckPart t n fac f p).2 = 41 then (true, (ckPart t n fac f p).2 + 1)
       else if part = am_most.getD f 0 then (false, (ckPart t n fac f p).2)
       else if lk t n (ckPart t n fac f p).2 = 44 then ckParts fac f i (part + 1) ((ckPart t n fac f p).2 + 1) else (false, (ckPart t n fac f p).2))
    else (false, (ckPart t n fac f p).2)
def ckCall (fac : Int → Bool × Int) : Nat → Nat → Int → Int → Bool × Int
  | 0, _, r, p => (false, p + r)
  | i + 1, f, r, p => if ckMt t n (nmS f) p = ((nmS f).length : Int) then ckParts t n fac f (am_most.getD f 0).toNat 1 (p + ckMt t n (nmS f) p) else ckCall fac i (f + 1) (max r (ckMt t n (nmS f) p)) p
def ckFac : Nat → Int → Bool × Int
  | 0, p => (false, p)
  | k + 1, p =>
    if lk t n p = 45 then ckFac k (p + 1)
    else if lk t n p = 40 then (if (ckFrm t n (ckFac k) 30 (p + 1)).1 = true then (if lk t n (ckFrm t n (ckFac k) 30 (p + 1)).2 = 41 then (true, (ckFrm t n (ckFac k) 30 (p + 1)).2 + 1) else (false, (ckFrm t n (ckFac k) 30 (p + 1)).2)) else (false, (ckFrm t n (ckFac k) 30 (p + 1)).2))
    else if isDig (lk t n p) then (true, ckNum t n 6 p)
    else if isCol (lk t n p) ∧ isRow (lk t n (p + 1)) then (true, p + 2)
    else ckCall t n (ckFac k) 9 0 (if isCol (lk t n p) then 1 else 0) p
end CK
section CKB
variable {t : Int → Int} {n : Int} {fac : Int → Bool × Int}
def Bd (n : Int) (g : Int → Bool × Int) : Prop := ∀ p, 0 ≤ p → p ≤ n → p ≤ (g p).2 ∧ (g p).2 ≤ n
theorem ckMt_in (l : List Int) (hl : ∀ x ∈ l, x ≠ 0) (p : Int) (h1 : p ≤ n) : p + ckMt t n l p ≤ n := by
  induction l generalizing p with
  | nil => unfold ckMt; omega
  | cons x l ih =>
    unfold ckMt
    split
    · rename_i h
      have hp := lk_pos (t := t) (n := n) (p := p) (by rw [h]; exact hl x List.mem_cons_self)
      have := ih (fun y hy => hl y (List.mem_cons_of_mem _ hy)) (p + 1) (by omega)
      omega
    · omega
theorem nmS_ne : ∀ j : Nat, j < 9 → ∀ x ∈ nmS j, x ≠ 0 := by decide +kernel
theorem nmS_le : ∀ j : Nat, j < 9 → (nmS j).length ≤ 6 := by decide +kernel
theorem ckNum_bd (f : Nat) (p : Int) (h1 : p ≤ n) : p ≤ ckNum t n f p ∧ ckNum t n f p ≤ n := by
  induction f generalizing p with
  | zero => unfold ckNum; omega
  | succ f ih =>
    unfold ckNum
    split
    · rename_i h
      have hp := lk_pos (t := t) (n := n) (p := p) (by omega)
      have := ih (p + 1) (by omega)
      omega
    · omega
theorem ckCell_bd (col row p : Int) (h1 : p ≤ n) : p ≤ (ckCell t n col row p).2 ∧ (ckCell t n col row p).2 ≤ n := by
  unfold ckCell
  split
  · rename_i h
    have hp := lk_pos (t := t) (n := n) (p := p) (by omega)
    split
    · rename_i h2
      have hp2 := lk_pos (t := t) (n := n) (p := p + 1) (by omega)
      dsimp only; omega
    · dsimp only; omega
  · dsimp only; omega
theorem ckCell_ok {col row p : Int} (h : (ckCell t n col row p).1 = true) : (ckCell t n col row p).2 = p + 2 ∧ (col ≤ lk t n p ∧ isCol (lk t n p)) ∧ row ≤ lk t n (p + 1) ∧ isRow (lk t n (p + 1)) := by
  unfold ckCell at h ⊢
  split at h
  · rename_i h1
    split at h
    · rename_i h2
      rw [if_pos h1, if_pos h2]
      exact ⟨rfl, h1, h2⟩
    · cases h
  · cases h
theorem ckArea_bd (p : Int) (h1 : p ≤ n) : p ≤ (ckArea t n p).2 ∧ (ckArea t n p).2 ≤ n := by
  unfold ckArea
  split
  · rename_i h
    have h2 := ckCell_bd (t := t) 97 49 p h1
    have h3 := (ckCell_ok h).1
    split
    · rename_i h4
      have hp2 := lk_pos (t := t) (n := n) (p := p + 2) (by omega)
      have := ckCell_bd (t := t) (n := n) (lk t n p) (lk t n (p + 1)) (p + 3) (by omega)
      omega
    · dsimp only; omega
  · exact ckCell_bd 97 49 p h1
theorem ckPrd_bd (hf : Bd n fac) (i : Nat) : Bd n (ckPrd t n fac i) := by
  induction i with
  | zero => intro p h0 h1; unfold ckPrd; dsimp only; omega
  | succ i ih =>
    intro p h0 h1
    have h2 := hf p h0 h1
    unfold ckPrd
    split
    · split
      · rename_i h4
        have hp2 := lk_pos (t := t) (n := n) (p := (fac p).2) (by omega)
        have := ih ((fac p).2 + 1) (by omega) (by omega)
        omega
      · exact h2
    · exact h2
theorem ckFrm_bd (hf : Bd n fac) (i : Nat) : Bd n (ckFrm t n fac i) := by
  induction i with
  | zero => intro p h0 h1; unfold ckFrm; dsimp only; omega
  | succ i ih =>
    intro p h0 h1
    have h2 := ckPrd_bd (t := t) hf 30 p h0 h1
    unfold ckFrm
    split
    · split
      · rename_i h4
        have hp2 := lk_pos (t := t) (n := n) (p := (ckPrd t n fac 30 p).2) (by omega)
        have := ih ((ckPrd t n fac 30 p).2 + 1) (by omega) (by omega)
        omega
      · exact h2
    · exact h2
theorem ckPart_bd (hf : Bd n fac) (f : Nat) : Bd n (ckPart t n fac f) := by
  intro p h0 h1
  unfold ckPart
  split
  · exact ckArea_bd p h1
  · exact ckFrm_bd hf 30 p h0 h1
theorem ckParts_bd (hf : Bd n fac) (f i : Nat) (part : Int) : Bd n (ckParts t n fac f i part) := by
  induction i generalizing part with
  | zero => intro p h0 h1; unfold ckParts; dsimp only; omega
  | succ i ih =>
    intro p h0 h1
    have h2 := ckPart_bd (t := t) hf f p h0 h1
    unfold ckParts
    split
    · split
      · rename_i h4
        have hp2 := lk_pos (t := t) (n := n) (p := (ckPart t n fac f p).2) (by omega)
        dsimp only; omega
      · split
        · exact h2
        · split
          · rename_i h4
            have hp2 := lk_pos (t := t) (n := n) (p := (ckPart t n fac f p).2) (by omega)
            have := ih (part + 1) ((ckPart t n fac f p).2 + 1) (by omega) (by omega)
            omega
          · exact h2
    · exact h2
theorem ckCall_bd (hf : Bd n fac) (i f : Nat) (hif : i + f = 9) (r p : Int) (h0 : 0 ≤ p) (hr : 0 ≤ r) (h1 : p + r ≤ n) : p ≤ (ckCall t n fac i f r p).2 ∧ (ckCall t n fac i f r p).2 ≤ n := by
  induction i generalizing f r with
  | zero => unfold ckCall; dsimp only; omega
  | succ i ih =>
    have h2 := ckMt_in (t := t) (n := n) (nmS f) (nmS_ne f (by omega)) p (by omega)
    have h3 := ckMt_bd (t := t) (n := n) (nmS f) p
    unfold ckCall
    split
    · have := ckParts_bd (t := t) hf f (am_most.getD f 0).toNat 1 (p + ckMt t n (nmS f) p) (by omega) h2
      omega
    · exact ih (f + 1) (by omega) _ (by omega) (by omega)
theorem ckFac_bd (hn : 0 ≤ n) (k : Nat) : Bd n (ckFac t n k) := by
  induction k with
  | zero => intro p h0 h1; unfold ckFac; dsimp only; omega
  | succ k ih =>
    intro p h0 h1
    unfold ckFac
    split
    · rename_i h
      have hp := lk_pos (t := t) (n := n) (p := p) (by omega)
      have := ih (p + 1) (by omega) (by omega)
      omega
    · split
      · rename_i h
        have hp := lk_pos (t := t) (n := n) (p := p) (by omega)
        have h2 := ckFrm_bd (t := t) ih 30 (p + 1) (by omega) (by omega)
        split
        · split
          · rename_i h4
            have hp2 := lk_pos (t := t) (n := n) (p := (ckFrm t n (ckFac t n k) 30 (p + 1)).2) (by omega)
            dsimp only; omega
          · dsimp only; omega
        · dsimp only; omega
      · split
        · exact ckNum_bd 6 p h1
        · split
          · rename_i h
            have hp2 := lk_pos (t := t) (n := n) (p := p + 1) (by omega)
            dsimp only; omega
          · refine ckCall_bd ih 9 0 rfl _ p h0 (by split <;> omega) ?_
            split
            · rename_i h
              have hp2 := lk_pos (t := t) (n := n) (p := p) (by omega)
              omega
            · omega
end CKB
section CKS
variable {d : Nat} {w : Wd} {n p : Int} {t : Int → Int} {K : Int → Wd → Prop} {KV : Wd → Prop} {fac : Int → Bool × Int}
theorem am_nat1 {x y : Int} (h : (x : Int) + 1 = y) : x < y := by omega
theorem s_ckNum (hd : 3 ≤ d) (hC : CurT w 105 t n) (h0 : 0 ≤ p) (h1 : p ≤ n) (k : KV (wpos w 105 (ckNum t n 6 p))) : C_X1_passNumber d [.inr (.inr 104)] (wpos w 105 p) KV := by
  have hn := hC.2.1.2
  refine ⟨2, hd, e_X1_passNumber ?_⟩
  have go : ∀ (f : Nat) (v p : Int), v + f = 6 → 0 ≤ v → 0 ≤ p → p ≤ n → KV (wpos w 105 (ckNum t n f p)) → W_X1_passNumber 2 2 [some (.inr (.inr 104)), some (.inl v)] [] (wpos w 105 p) KV := by
    intro f
    induction f with
    | zero =>
      intro v p hv hv0 h0 h1 hk
      exact v_X1_passNumber_2 ⟨fun _ => hk, fun q => absurd (by omega) q⟩
    | succ f ih =>
      intro v p hv hv0 h0 h1 hk
      refine v_X1_passNumber_2 ⟨fun q => absurd q (by omega), fun q => s_look0 (by decide) hC h0 (by omega) (s_isDig (by decide) (fun q2 => ?_) (fun q2 => ?_))⟩
      · have hp := lk_pos (t := t) (n := n) (p := p) (by omega)
        refine am_b1 ?_
        rw [wpos_3]
        refine ⟨⟨by omega, by omega⟩, fun w3 e => ⟨⟨by omega, by omega⟩, ?_⟩⟩
        rw [e, wpos_wset]
        unfold ckNum at hk
        rw [if_pos q2] at hk
        exact ih (v + 1) (p + 1) (by omega) (by omega) (by omega) (by omega) hk
      · unfold ckNum at hk
        rw [if_neg q2] at hk
        exact am_b0 hk
  exact go 6 0 p rfl (by decide) h0 h1 k
theorem s_passCell {a b : Int} (hd : 3 ≤ d) (hC : CurT w 105 t n) (h0 : 0 ≤ p) (h1 : p ≤ n) (k : K (bi (ckCell t n a b p).1) (wpos w 105 (ckCell t n a b p).2)) : C_X1_passCell d [.inr (.inr 104), .inl a, .inl b] (wpos w 105 p) K := by
  have hn := hC.2.1.2
  refine ⟨2, hd, e_X1_passCell (s_look0 (by decide) hC h0 (by omega) ⟨fun q => ?_, fun q => s_look0 (by decide) hC h0 (by omega) (s_isCol (by decide) (fun q2 => ?_) (fun q2 => ?_))⟩)⟩
  · unfold ckCell at k
    rw [if_neg (by omega)] at k
    exact k
  · have hp := lk_pos (t := t) (n := n) (p := p) (by omega)
    refine am_c1 ?_
    rw [wpos_3]
    refine ⟨⟨by omega, by omega⟩, fun w4 e => ?_⟩
    rw [e, wpos_wset]
    unfold ckCell at k
    rw [if_pos (by omega)] at k
    refine s_look0 (by decide) hC (by omega) (by omega) ⟨fun q3 => ?_, fun q3 => s_look0 (by decide) hC (by omega) (by omega) (s_isRow (by decide) (fun q4 => ?_) (fun q4 => ?_))⟩
    · rw [if_neg (by omega)] at k
      exact k
    · rw [if_pos (by omega)] at k
      have hp2 := lk_pos (t := t) (n := n) (p := p + 1) (by omega)
      refine am_c1 ?_
      rw [wpos_3]
      refine ⟨⟨by omega, by omega⟩, fun w8 e8 => ?_⟩
      rw [e8, wpos_wset, show p + 1 + 1 = p + 2 by omega]
      exact k
    · rw [if_neg (by omega)] at k
      exact am_c0 k
  · unfold ckCell at k
    rw [if_neg (by omega)] at k
    exact am_c0 k
theorem s_area (hd : 4 ≤ d) (hC : CurT w 105 t n) (h0 : 0 ≤ p) (h1 : p ≤ n) (k : K (bi (ckArea t n p).1) (wpos w 105 (ckArea t n p).2)) : C_X1_area d [.inr (.inr 104)] (wpos w 105 p) K := by
  have hn := hC.2.1.2
  refine ⟨3, hd, e_X1_area (s_look0 (by decide) hC h0 (by omega) (s_look (by decide) hC h0 (by omega) (by decide) (by decide) (s_passCell (by decide) hC h0 h1 ?_)))⟩
  unfold ckArea at k
  by_cases hc : (ckCell t n 97 49 p).1 = true
  · have h3 := (ckCell_ok hc).1
    have hb := ckCell_bd (t := t) 97 49 p h1
    rw [if_pos hc] at k
    rw [hc, h3]
    refine am_c1 (s_pass (by decide) hC (by omega) (by omega) (fun q => ?_) (fun q => ?_))
    · rw [if_pos q] at k
      have hp2 := lk_pos (t := t) (n := n) (p := p + 2) (by omega)
      refine am_b1 (s_passCell (by decide) hC (by omega) (by omega) ?_)
      rw [show p + 2 + 1 = p + 3 by omega]
      revert k
      generalize ckCell t n (lk t n p) (lk t n (p + 1)) (p + 3) = z
      obtain ⟨b, q2⟩ := z
      intro k
      cases b
      · exact am_b0 k
      · exact am_b1 k
    · rw [if_neg q] at k
      exact am_b0 k
  · rw [if_neg hc] at k
    have : (ckCell t n 97 49 p).1 = false := by revert hc; cases (ckCell t n 97 49 p).1 <;> simp
    rw [this]
    exact am_c0 k
theorem s_ckIsArea {f : Nat} (hd : 3 ≤ d) (hC : CurT w 105 t n) (h0 : 0 ≤ p) (h1 : p ≤ n) (hf : f < 9) (k : K (bi (ckIsArea t n f p)) (wpos w 105 p)) : C_X1_isAtArea d [.inr (.inr 104), .inl (f : Int)] (wpos w 105 p) K := by
  have hn := hC.2.1.2
  refine ⟨2, hd, e_X1_isAtArea (s_atCell (by decide) hC h0 (by omega) (fun q => ?_) (fun q => ?_))⟩
  · refine am_b1 (s_look (by decide) hC h0 (by omega) (by decide) (by decide) ?_)
    by_cases h8 : f = 8
    · have e : ckIsArea t n f p = true := decide_eq_true (Or.inl h8)
      rw [e] at k
      exact ⟨fun _ => ⟨fun _ => k, fun z => absurd (by omega) z⟩, fun _ => ⟨fun _ => k, fun z => absurd (by omega) z⟩⟩
    · by_cases h58 : lk t n (p + 2) = 58
      · by_cases h5 : 5 ≤ f
        · have e : ckIsArea t n f p = true := decide_eq_true (Or.inr ⟨h5, q, h58⟩)
          rw [e] at k
          exact ⟨fun z => absurd h58 z, fun _ => ⟨fun z => absurd z (by omega), fun _ => ⟨fun z => absurd z (by omega), fun _ => k⟩⟩⟩
        · have e : ckIsArea t n f p = false := decide_eq_false (fun z => by omega)
          rw [e] at k
          exact ⟨fun z => absurd h58 z, fun _ => ⟨fun z => absurd z (by omega), fun _ => ⟨fun _ => k, fun z => absurd (by omega) z⟩⟩⟩
      · have e : ckIsArea t n f p = false := decide_eq_false (fun z => by omega)
        rw [e] at k
        exact ⟨fun _ => ⟨fun z => absurd z (by omega), fun _ => ⟨fun _ => k, fun _ => k⟩⟩, fun z => absurd z h58⟩
  · refine am_b0 ?_
    by_cases h8 : f = 8
    · have e : ckIsArea t n f p = true := decide_eq_true (Or.inl h8)
      rw [e] at k
      exact ⟨fun _ => k, fun z => absurd (by omega) z⟩
    · have e : ckIsArea t n f p = false := decide_eq_false (fun z => by
        rcases z with z | z
        · exact h8 z
        · exact q z.2.1)
      rw [e] at k
      exact ⟨fun z => absurd z (by omega), fun _ => ⟨fun _ => k, fun _ => k⟩⟩
end CKS
