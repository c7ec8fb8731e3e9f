/-! a formula with its cells shifted is a formula -/
def ShR (t t' : Int → Int) (n r dn : Int) : Prop := (∀ p, isCol (lk t n p) → isRow (lk t n (p + 1)) → (lk t' n p = lk t n p + r ∧ isCol (lk t' n p)) ∧ (lk t' n (p + 1) = lk t n (p + 1) + dn ∧ isRow (lk t' n (p + 1)))) ∧ (∀ p, ¬ (isCol (lk t n p) ∧ isRow (lk t n (p + 1))) → ¬ (isCol (lk t n (p - 1)) ∧ isRow (lk t n p)) → lk t' n p = lk t n p)
def Al (t : Int → Int) (n p : Int) : Prop := ¬ isCol (lk t n (p - 1))
def Nz (t : Int → Int) (n p q : Int) : Prop := ∀ k, p ≤ k → k < q → (0 ≤ lk t n k ∧ lk t n k ≤ 200) ∧ (isCol (lk t n k) → lk t n (k + 1) ≠ 48)
section SHS
variable {t t' : Int → Int} {n r dn : Int} {fac fac' : Int → Bool × Int}
theorem sh3 (h : ShR t t' n r dn) (p : Int) : lk t' n p = lk t n p ∨ (isCol (lk t n p) ∧ isCol (lk t' n p)) ∨ (isRow (lk t n p) ∧ isRow (lk t' n p)) := by
  by_cases q1 : isCol (lk t n p) ∧ isRow (lk t n (p + 1))
  · exact Or.inr (Or.inl ⟨q1.1, (h.1 p q1.1 q1.2).1.2⟩)
  · by_cases q2 : isCol (lk t n (p - 1)) ∧ isRow (lk t n p)
    · have := (h.1 (p - 1) q2.1 (by rw [show p - 1 + 1 = p by omega]; exact q2.2)).2.2
      rw [show p - 1 + 1 = p by omega] at this
      exact Or.inr (Or.inr ⟨q2.2, this⟩)
    · exact Or.inl (h.2 p q1 q2)
theorem sh_ch (h : ShR t t' n r dn) {x : Int} (hx : ¬ isCol x ∧ ¬ isRow x) (p : Int) : lk t' n p = x ↔ lk t n p = x := by
  have := sh3 h p
  unfold isCol isRow at *
  omega
theorem sh_col (h : ShR t t' n r dn) (p : Int) : isCol (lk t' n p) ↔ isCol (lk t n p) := by
  have := sh3 h p
  unfold isCol isRow at *
  omega
theorem sh_row (h : ShR t t' n r dn) (p : Int) : isRow (lk t' n p) ↔ isRow (lk t n p) := by
  have := sh3 h p
  unfold isCol isRow at *
  omega
theorem sh_dig (h : ShR t t' n r dn) (p : Int) : isDig (lk t' n p) ↔ isDig (lk t n p) := by
  have := sh3 h p
  unfold isCol isRow isDig at *
  omega
theorem Nz.trans {p q s : Int} (h1 : Nz t n p q) (h2 : Nz t n q s) : Nz t n p s := fun k a b => by
  by_cases z : k < q
  · exact h1 k a z
  · exact h2 k (by omega) b
theorem Nz.one {p : Int} (h : ¬ isCol (lk t n p)) (h2 : 0 ≤ lk t n p ∧ lk t n p ≤ 200) : Nz t n p (p + 1) := fun k a b => by
  have : k = p := by omega
  rw [this]
  exact ⟨h2, fun c => absurd c h⟩
theorem Al.one {p : Int} (h : ¬ isCol (lk t n p)) : Al t n (p + 1) := by
  unfold Al
  rw [show p + 1 - 1 = p by omega]
  exact h
def ShF (t : Int → Int) (n : Int) (g g' : Int → Bool × Int) : Prop := ∀ p, 0 ≤ p → p ≤ n → Al t n p → (g p).1 = true → g' p = g p ∧ Al t n (g p).2 ∧ Nz t n p (g p).2
theorem sh_num (h : ShR t t' n r dn) (f : Nat) : ∀ p, ckNum t' n f p = ckNum t n f p ∧ (Al t n p → Al t n (ckNum t n f p)) ∧ Nz t n p (ckNum t n f p) := by
  induction f with
  | zero => intro p; exact ⟨rfl, id, fun k a b => by unfold ckNum at b; omega⟩
  | succ f ih =>
    intro p
    unfold ckNum
    by_cases q : isDig (lk t n p)
    · rw [if_pos q, if_pos ((sh_dig h p).mpr q)]
      have hn : ¬ isCol (lk t n p) := by unfold isCol; unfold isDig at q; omega
      obtain ⟨a, b, c⟩ := ih (p + 1)
      exact ⟨a, fun _ => b (Al.one hn), (Nz.one hn (by unfold isDig at q; omega)).trans c⟩
    · rw [if_neg q, if_neg (fun z => q ((sh_dig h p).mp z))]
      exact ⟨rfl, id, fun k a b => by omega⟩
theorem sh_cell (h : ShR t t' n r dn) (p : Int) : ckCell t' n 97 49 p = ckCell t n 97 49 p := by
  have h1 := sh_col h p
  have h2 := sh_row h (p + 1)
  unfold ckCell
  have e1 : (97 ≤ lk t' n p ∧ isCol (lk t' n p)) ↔ (97 ≤ lk t n p ∧ isCol (lk t n p)) := by unfold isCol at *; omega
  have e2 : (49 ≤ lk t' n (p + 1) ∧ isRow (lk t' n (p + 1))) ↔ (49 ≤ lk t n (p + 1) ∧ isRow (lk t n (p + 1))) := by unfold isRow at *; omega
  by_cases q1 : 97 ≤ lk t n p ∧ isCol (lk t n p)
  · rw [if_pos q1, if_pos (e1.mpr q1)]
    by_cases q2 : 49 ≤ lk t n (p + 1) ∧ isRow (lk t n (p + 1))
    · rw [if_pos q2, if_pos (e2.mpr q2)]
    · rw [if_neg q2, if_neg (fun z => q2 (e2.mp z))]
  · rw [if_neg q1, if_neg (fun z => q1 (e1.mp z))]
theorem nz_cell {p : Int} (h1 : isCol (lk t n p)) (h2 : isRow (lk t n (p + 1))) : Nz t n p (p + 2) ∧ Al t n (p + 2) := by
  refine ⟨fun k a b => ?_, ?_⟩
  · have : k = p ∨ k = p + 1 := by omega
    unfold isRow at h2
    unfold isCol at h1
    rcases this with z | z
    · rw [z]; exact ⟨by omega, fun _ => by omega⟩
    · rw [z]; exact ⟨by omega, fun c => by unfold isCol at c; omega⟩
  · unfold Al
    rw [show p + 2 - 1 = p + 1 by omega]
    unfold isRow at h2; unfold isCol; omega
theorem sh_area (h : ShR t t' n r dn) : ShF t n (ckArea t n) (ckArea t' n) := by
  intro p h0 h1 hal hok
  unfold ckArea at hok ⊢
  rw [sh_cell h p]
  by_cases q1 : (ckCell t n 97 49 p).1 = true
  · rw [if_pos q1] at hok ⊢
    rw [if_pos q1]
    obtain ⟨_, ⟨_, c1⟩, _, c2⟩ := ckCell_ok q1
    have z1 := nz_cell c1 c2
    have m1 := h.1 p c1 c2
    have e58 := sh_ch h (x := 58) (by unfold isCol isRow; omega) (p + 2)
    by_cases q2 : lk t n (p + 2) = 58
    · rw [if_pos q2] at hok ⊢
      rw [if_pos (e58.mpr q2)]
      obtain ⟨e5, ⟨a1, a2⟩, b1, b2⟩ := ckCell_ok hok
      have m2 := h.1 (p + 3) a2 b2
      have z2 := nz_cell a2 b2
      rw [e5]
      have hd : ckCell t' n (lk t' n p) (lk t' n (p + 1)) (p + 3) = (true, p + 3 + 2) := by
        unfold ckCell
        rw [if_pos ⟨by omega, m2.1.2⟩, if_pos ⟨by omega, m2.2.2⟩]
      have hc : ckCell t n (lk t n p) (lk t n (p + 1)) (p + 3) = (true, p + 3 + 2) := Prod.ext hok e5
      rw [hd, hc]
      have hn : ¬ isCol (lk t n (p + 2)) := by rw [q2]; unfold isCol; omega
      have z3 := Nz.one hn (by omega)
      rw [show p + 2 + 1 = p + 3 by omega] at z3
      exact ⟨rfl, z2.2, (z1.1.trans z3).trans z2.1⟩
    · rw [if_neg q2] at hok ⊢
      rw [if_neg (fun z => q2 (e58.mp z))]
      exact ⟨rfl, z1.2, z1.1⟩
  · rw [if_neg q1] at hok
    cases hok
theorem sh_isArea (h : ShR t t' n r dn) (f : Nat) (p : Int) : ckIsArea t' n f p = ckIsArea t n f p := by
  have h1 := sh_col h p
  have h2 := sh_row h (p + 1)
  have h3 := sh_ch h (x := 58) (by unfold isCol isRow; omega) (p + 2)
  unfold ckIsArea
  rw [decide_eq_decide, h1, h2, h3]
theorem sh_prd (h : ShR t t' n r dn) (hF : ShF t n fac fac') (hB : Bd n fac) (i : Nat) : ShF t n (ckPrd t n fac i) (ckPrd t' n fac' i) := by
  have e42 := fun p => sh_ch h (x := 42) (by unfold isCol isRow; omega) p
  induction i with
  | zero => intro p h0 h1 hal hok; exact ⟨rfl, hal, fun k a b => by unfold ckPrd at b; omega⟩
  | succ i ih =>
    intro p h0 h1 hal hok
    have hb := hB p h0 h1
    unfold ckPrd at hok ⊢
    by_cases hf : (fac p).1 = true
    · rw [if_pos hf] at hok ⊢
      obtain ⟨f1, f2, f3⟩ := hF p h0 h1 hal hf
      rw [f1, if_pos hf]
      by_cases q : lk t n (fac p).2 = 42
      · have hl := lk_pos (t := t) (n := n) (p := (fac p).2) (by omega)
        have hn : ¬ isCol (lk t n (fac p).2) := by rw [q]; unfold isCol; omega
        rw [if_pos q] at hok ⊢
        rw [if_pos ((e42 _).mpr q)]
        obtain ⟨g1, g2, g3⟩ := ih _ (by omega) (by omega) (Al.one hn) hok
        exact ⟨g1, g2, (f3.trans (Nz.one hn (by omega))).trans g3⟩
      · rw [if_neg q]
        rw [if_neg (fun z => q ((e42 _).mp z))]
        exact ⟨rfl, f2, f3⟩
    · rw [if_neg hf] at hok
      cases hok
theorem sh_frm (h : ShR t t' n r dn) (hF : ShF t n fac fac') (hB : Bd n fac) (i : Nat) : ShF t n (ckFrm t n fac i) (ckFrm t' n fac' i) := by
  have e43 := fun p => sh_ch h (x := 43) (by unfold isCol isRow; omega) p
  have e45 := fun p => sh_ch h (x := 45) (by unfold isCol isRow; omega) p
  induction i with
  | zero => intro p h0 h1 hal hok; exact ⟨rfl, hal, fun k a b => by unfold ckFrm at b; omega⟩
  | succ i ih =>
    intro p h0 h1 hal hok
    have hb := ckPrd_bd (t := t) hB 30 p h0 h1
    unfold ckFrm at hok ⊢
    by_cases hf : (ckPrd t n fac 30 p).1 = true
    · rw [if_pos hf] at hok ⊢
      obtain ⟨f1, f2, f3⟩ := sh_prd h hF hB 30 p h0 h1 hal hf
      rw [f1, if_pos hf]
      by_cases q : lk t n (ckPrd t n fac 30 p).2 = 43 ∨ lk t n (ckPrd t n fac 30 p).2 = 45
      · have hl := lk_pos (t := t) (n := n) (p := (ckPrd t n fac 30 p).2) (by omega)
        have hn : ¬ isCol (lk t n (ckPrd t n fac 30 p).2) := by unfold isCol; omega
        rw [if_pos q] at hok ⊢
        rw [if_pos (q.elim (fun z => Or.inl ((e43 _).mpr z)) (fun z => Or.inr ((e45 _).mpr z)))]
        obtain ⟨g1, g2, g3⟩ := ih _ (by omega) (by omega) (Al.one hn) hok
        exact ⟨g1, g2, (f3.trans (Nz.one hn (by omega))).trans g3⟩
      · rw [if_neg q]
        rw [if_neg (fun z => q (z.elim (fun y => Or.inl ((e43 _).mp y)) (fun y => Or.inr ((e45 _).mp y))))]
        exact ⟨rfl, f2, f3⟩
    · rw [if_neg hf] at hok
      cases hok
theorem sh_part (h : ShR t t' n r dn) (hF : ShF t n fac fac') (hB : Bd n fac) (f : Nat) : ShF t n (ckPart t n fac f) (ckPart t' n fac' f) := by
  intro p h0 h1 hal hok
  unfold ckPart at hok ⊢
  rw [sh_isArea h]
  by_cases q : ckIsArea t n f p = true
  · rw [if_pos q] at hok ⊢
    rw [if_pos q]
    exact sh_area h p h0 h1 hal hok
  · rw [if_neg q] at hok ⊢
    rw [if_neg q]
    exact sh_frm h hF hB 30 p h0 h1 hal hok
theorem sh_parts (h : ShR t t' n r dn) (hF : ShF t n fac fac') (hB : Bd n fac) (f i : Nat) : ∀ part : Int, ShF t n (ckParts t n fac f i part) (ckParts t' n fac' f i part) := by
  have e41 := fun p => sh_ch h (x := 41) (by unfold isCol isRow; omega) p
  have e44 := fun p => sh_ch h (x := 44) (by unfold isCol isRow; omega) p
  induction i with
  | zero =>
    intro part p h0 h1 hal hok
    unfold ckParts at hok
    cases hok
  | succ i ih =>
    intro part p h0 h1 hal hok
    have hb := ckPart_bd (t := t) hB f p h0 h1
    unfold ckParts at hok ⊢
    by_cases hf : (ckPart t n fac f p).1 = true
    · rw [if_pos hf] at hok ⊢
      obtain ⟨f1, f2, f3⟩ := sh_part h hF hB f p h0 h1 hal hf
      rw [f1, if_pos hf]
      by_cases q : am_least.getD f 0 ≤ part ∧ lk t n (ckPart t n fac f p).2 = 41
      · have hn : ¬ isCol (lk t n (ckPart t n fac f p).2) := by rw [q.2]; unfold isCol; omega
        rw [if_pos q, if_pos ⟨q.1, (e41 _).mpr q.2⟩]
        exact ⟨rfl, Al.one hn, f3.trans (Nz.one hn (by omega))⟩
      · rw [if_neg q] at hok ⊢
        rw [if_neg (fun z => q ⟨z.1, (e41 _).mp z.2⟩)]
        by_cases q2 : part = am_most.getD f 0
        · rw [if_pos q2] at hok
          cases hok
        · rw [if_neg q2] at hok ⊢
          rw [if_neg q2]
          by_cases q3 : lk t n (ckPart t n fac f p).2 = 44
          · have hl := lk_pos (t := t) (n := n) (p := (ckPart t n fac f p).2) (by omega)
            have hn : ¬ isCol (lk t n (ckPart t n fac f p).2) := by rw [q3]; unfold isCol; omega
            rw [if_pos q3] at hok ⊢
            rw [if_pos ((e44 _).mpr q3)]
            obtain ⟨g1, g2, g3⟩ := ih _ _ (by omega) (by omega) (Al.one hn) hok
            exact ⟨g1, g2, (f3.trans (Nz.one hn (by omega))).trans g3⟩
          · rw [if_neg q3] at hok
            cases hok
    · rw [if_neg hf] at hok
      cases hok
theorem nm_letters : ∀ f : Nat, f < 9 → (∀ x ∈ nmS f, (97 ≤ x ∧ x ≤ 122) ∨ x = 40) ∧ (nmS f).getD ((nmS f).length - 1) 0 = 40 := by decide +kernel
theorem ckMt_full (l : List Int) : ∀ p, (∀ i : Nat, i < l.length → lk t n (p + i) = l.getD i 0) → ckMt t n l p = (l.length : Int) := by
  induction l with
  | nil => intro p _; rfl
  | cons x l ih =>
    intro p hp
    unfold ckMt
    have h0 := hp 0 (Nat.succ_pos _)
    rw [show p + ((0 : Nat) : Int) = p by omega] at h0
    rw [if_pos (show lk t n p = x from h0), ih (p + 1) (fun i hi => by
      have := hp (i + 1) (by simpa using hi)
      rw [show p + ((i + 1 : Nat) : Int) = p + 1 + i by omega] at this
      rw [this]; rfl)]
    simp only [List.length_cons]
    omega
theorem nm_get {f i : Nat} (hf : f < 9) (hi : i < (nmS f).length) : ¬ isRow ((nmS f).getD i 0) ∧ ((nmS f).getD i 0 ≠ 48) := by
  have := (nm_letters f hf).1 ((nmS f).getD i 0) (by
    rw [List.getD_eq_getElem?_getD, List.getElem?_eq_getElem hi, Option.getD_some]
    exact List.getElem_mem _)
  unfold isRow
  omega
theorem sh_mt (h : ShR t t' n r dn) {f : Nat} (hf : f < 9) (p : Int) (hal : Al t n p) : (ckMt t' n (nmS f) p = ((nmS f).length : Int)) ↔ (ckMt t n (nmS f) p = ((nmS f).length : Int)) := by
  constructor
  · intro e
    refine ckMt_full _ p (fun i hi => ?_)
    have g := ckMt_get (nmS f) p e
    have gi := g i hi
    have hr := nm_get hf hi
    rcases sh3 h (p + i) with z | ⟨z1, z2⟩ | ⟨z1, z2⟩
    · rw [← z]; exact gi
    · -- a column letter: no row behind it, so it is not shifted
      by_cases q : isRow (lk t n (p + i + 1))
      · have hm := (h.1 (p + i) z1 q).2.2
        by_cases q2 : i + 1 < (nmS f).length
        · have g2 := g (i + 1) q2
          rw [show p + ((i + 1 : Nat) : Int) = p + i + 1 by omega] at g2
          rw [g2] at hm
          exact absurd hm (nm_get hf q2).1
        · have e40 := (nm_letters f hf).2
          rw [show (nmS f).length - 1 = i by omega] at e40
          rw [gi, e40] at z2
          unfold isCol at z2
          omega
      · have := h.2 (p + i) (fun y => q y.2) (fun y => by
          have := y.2
          unfold isCol at z1
          unfold isRow at this
          omega)
        rw [← this]; exact gi
    · rw [gi] at z2
      exact absurd z2 hr.1
  · intro e
    refine ckMt_full _ p (fun i hi => ?_)
    have g := ckMt_get (nmS f) p e
    have gi := g i hi
    have hr := nm_get hf hi
    rw [← gi]
    refine h.2 (p + i) (fun y => ?_) (fun y => ?_)
    · by_cases q2 : i + 1 < (nmS f).length
      · have g2 := g (i + 1) q2
        rw [show p + ((i + 1 : Nat) : Int) = p + i + 1 by omega] at g2
        have := y.2
        rw [g2] at this
        exact (nm_get hf q2).1 this
      · have e40 := (nm_letters f hf).2
        rw [show (nmS f).length - 1 = i by omega] at e40
        have := y.1
        rw [gi, e40] at this
        unfold isCol at this
        omega
    · have := y.2
      rw [gi] at this
      exact hr.1 this
theorem nz_name {f : Nat} (hf : f < 9) {p : Int} (e : ckMt t n (nmS f) p = ((nmS f).length : Int)) : Nz t n p (p + (nmS f).length) ∧ Al t n (p + (nmS f).length) := by
  have g := ckMt_get (nmS f) p e
  have e40 := (nm_letters f hf).2
  have hl := fn_len f hf
  refine ⟨fun k a b => ⟨?_, fun c => ?_⟩, ?_⟩
  · have gi := g (k - p).toNat (by omega)
    rw [show p + ((k - p).toNat : Int) = k by omega] at gi
    have := (nm_letters f hf).1 ((nmS f).getD (k - p).toNat 0) (by
      rw [List.getD_eq_getElem?_getD, List.getElem?_eq_getElem (by omega), Option.getD_some]
      exact List.getElem_mem _)
    omega
  · have hk : k = p + ((k - p).toNat : Int) := by omega
    have gi := g (k - p).toNat (by omega)
    rw [← hk] at gi
    by_cases q2 : (k - p).toNat + 1 < (nmS f).length
    · have g2 := g ((k - p).toNat + 1) q2
      rw [show p + (((k - p).toNat + 1 : Nat) : Int) = k + 1 by omega] at g2
      rw [g2]
      exact (nm_get hf q2).2
    · rw [show (nmS f).length - 1 = (k - p).toNat by omega] at e40
      rw [gi, e40] at c
      unfold isCol at c
      omega
  · unfold Al
    have gi := g ((nmS f).length - 1) (by omega)
    rw [show p + (((nmS f).length - 1 : Nat) : Int) = p + (nmS f).length - 1 by omega] at gi
    rw [gi, e40]
    unfold isCol
    omega
theorem sh_call (h : ShR t t' n r dn) (hF : ShF t n fac fac') (hB : Bd n fac) {p : Int} (h0 : 0 ≤ p) (h1 : p ≤ n) (hal : Al t n p) (i : Nat) : ∀ (f : Nat) (r0 r1 : Int), i + f = 9 → (ckCall t n fac i f r0 p).1 = true → ckCall t' n fac' i f r1 p = ckCall t n fac i f r0 p ∧ Al t n (ckCall t n fac i f r0 p).2 ∧ Nz t n p (ckCall t n fac i f r0 p).2 := by
  induction i with
  | zero =>
    intro f r0 r1 _ hok
    unfold ckCall at hok
    cases hok
  | succ i ih =>
    intro f r0 r1 hif hok
    unfold ckCall at hok ⊢
    have hm := sh_mt h (f := f) (by omega) p hal
    by_cases q : ckMt t n (nmS f) p = ((nmS f).length : Int)
    · rw [if_pos q] at hok ⊢
      rw [if_pos (hm.mpr q), hm.mpr q]
      have hin := ckMt_in (t := t) (n := n) (nmS f) (nmS_ne f (by omega)) p h1
      rw [q] at hok hin ⊢
      have hz := nz_name (f := f) (by omega) q
      obtain ⟨g1, g2, g3⟩ := sh_parts h hF hB f _ 1 _ (by omega) hin hz.2 hok
      exact ⟨g1, g2, hz.1.trans g3⟩
    · rw [if_neg q] at hok ⊢
      rw [if_neg (fun z => q (hm.mp z))]
      exact ih (f + 1) _ _ (by omega) hok
theorem sh_fac (h : ShR t t' n r dn) (hn : 0 ≤ n) (k : Nat) : ShF t n (ckFac t n k) (ckFac t' n k) := by
  have e40 := fun p => sh_ch h (x := 40) (by unfold isCol isRow; omega) p
  have e41 := fun p => sh_ch h (x := 41) (by unfold isCol isRow; omega) p
  have e45 := fun p => sh_ch h (x := 45) (by unfold isCol isRow; omega) p
  induction k with
  | zero =>
    intro p h0 h1 hal hok
    unfold ckFac at hok
    cases hok
  | succ k ih =>
    intro p h0 h1 hal hok
    have hB := ckFac_bd (t := t) hn k
    unfold ckFac at hok ⊢
    by_cases q1 : lk t n p = 45
    · have hl := lk_pos (t := t) (n := n) (p := p) (by omega)
      have hnc : ¬ isCol (lk t n p) := by rw [q1]; unfold isCol; omega
      rw [if_pos q1] at hok ⊢
      rw [if_pos ((e45 p).mpr q1)]
      obtain ⟨g1, g2, g3⟩ := ih (p + 1) (by omega) (by omega) (Al.one hnc) hok
      exact ⟨g1, g2, (Nz.one hnc (by omega)).trans g3⟩
    · rw [if_neg q1] at hok ⊢
      rw [if_neg (fun z => q1 ((e45 p).mp z))]
      by_cases q2 : lk t n p = 40
      · have hl := lk_pos (t := t) (n := n) (p := p) (by omega)
        have hnc : ¬ isCol (lk t n p) := by rw [q2]; unfold isCol; omega
        rw [if_pos q2] at hok ⊢
        rw [if_pos ((e40 p).mpr q2)]
        by_cases hf : (ckFrm t n (ckFac t n k) 30 (p + 1)).1 = true
        · rw [if_pos hf] at hok ⊢
          obtain ⟨f1, f2, f3⟩ := sh_frm h ih hB 30 (p + 1) (by omega) (by omega) (Al.one hnc) hf
          rw [f1, if_pos hf]
          by_cases q3 : lk t n (ckFrm t n (ckFac t n k) 30 (p + 1)).2 = 41
          · have hnc2 : ¬ isCol (lk t n (ckFrm t n (ckFac t n k) 30 (p + 1)).2) := by rw [q3]; unfold isCol; omega
            rw [if_pos q3, if_pos ((e41 _).mpr q3)]
            exact ⟨rfl, Al.one hnc2, ((Nz.one hnc (by omega)).trans f3).trans (Nz.one hnc2 (by omega))⟩
          · rw [if_neg q3] at hok
            cases hok
        · rw [if_neg hf] at hok
          cases hok
      · rw [if_neg q2] at hok ⊢
        rw [if_neg (fun z => q2 ((e40 p).mp z))]
        by_cases q3 : isDig (lk t n p)
        · rw [if_pos q3, if_pos ((sh_dig h p).mpr q3)]
          obtain ⟨a, b, c⟩ := sh_num h 6 p
          rw [a]
          exact ⟨rfl, b hal, c⟩
        · rw [if_neg q3] at hok ⊢
          rw [if_neg (fun z => q3 ((sh_dig h p).mp z))]
          by_cases q4 : isCol (lk t n p) ∧ isRow (lk t n (p + 1))
          · rw [if_pos q4, if_pos ⟨(sh_col h p).mpr q4.1, (sh_row h (p + 1)).mpr q4.2⟩]
            have := nz_cell q4.1 q4.2
            exact ⟨rfl, this.2, this.1⟩
          · rw [if_neg q4] at hok ⊢
            rw [if_neg (fun z => q4 ⟨(sh_col h p).mp z.1, (sh_row h (p + 1)).mp z.2⟩)]
            exact sh_call h ih hB h0 h1 hal 9 0 _ _ rfl hok
theorem sh_fault (h : ShR t t' n r dn) (hn : 0 ≤ n ∧ n ≤ 30) (hck : ckFault t n = -1) : ckFault t' n = -1 ∧ Nz t n 0 n := by
  by_cases h0 : n = 0
  · refine ⟨?_, fun k a b => by omega⟩
    unfold ckFault
    rw [if_pos h0]
  · obtain ⟨c1, c2⟩ := ck_top h0 hck hn
    have hal : Al t n 0 := by
      unfold Al lk
      rw [if_neg (by omega)]
      unfold isCol
      omega
    obtain ⟨g1, g2, g3⟩ := sh_frm h (sh_fac h hn.1 41) (ckFac_bd (t := t) hn.1 41) 30 0 (Int.le_refl 0) hn.1 hal c1
    refine ⟨?_, fun k a b => g3 k a (by omega)⟩
    unfold ckFault
    rw [if_neg h0, g1, if_pos ⟨c1, c2⟩]
theorem sh_id : ShR t t n 0 0 := ⟨fun p h1 h2 => ⟨⟨by omega, h1⟩, by omega, h2⟩, fun _ _ _ => rfl⟩
end SHS
