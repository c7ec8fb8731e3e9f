/-! ===== what a formula is worth: a computation that reads cells, or an error ===== -/
abbrev Env' : Type := Int → (Int × Int) × (Int × Int)
abbrev Mo (α : Type) : Type := Env' → List Int → List Int × ((Int × Int) ⊕ α)
def mpure {α : Type} (a : α) : Mo α := fun _ l => (l, .inr a)
def mbind {α β : Type} (m : Mo α) (f : α → Mo β) : Mo β := fun e l => match m e l with
  | (l', .inl x) => (l', .inl x)
  | (l', .inr a) => f a e l'
def mfail {α : Type} (x : Int) : Mo α := fun _ l => (l, .inl (x, -1))
def addr (l : List Int) (c : Int) : List Int := if c ∈ l then l else l ++ [c]
/-- mark (0 known), value, error, length of the formula -/
def mread (c : Int) : Mo Int := fun e l => (addr l c, if (e c).1.1 = 0 then (if (e c).2.1 = 0 then .inr (e c).1.2 else .inl ((e c).2.1, -1)) else .inl (4, c))
def mlen (c : Int) : Mo Int := fun e l => (l, .inr (e c).2.2)
/-- a cell of an area: its value, the length of its formula -/
def mreadE (c : Int) : Mo (Int × Int) := mbind (mread c) (fun v => mbind (mlen c) (fun k => mpure (v, k)))
def mbd (v : Int) : Mo Int := if v < -1000000000 ∨ 1000000000 < v then mfail 1 else mpure v
def mjoin (f : Nat) (s v : Int) : Mo Int :=
  if f = 8 then mpure (if s = -2000000000 then 1 else s + 1) else if s = -2000000000 then mpure v else if f = 5 then mpure (min s v) else if f = 6 then mpure (max s v) else mbd (s + v)
def mcells (f : Nat) : List Int → Int → Mo Int
  | [], s => mpure s
  | c :: l, s => mbind (mreadE c) (fun r => mbind (if r.2 = 0 then mpure s else mjoin f s r.1) (fun s' => mcells f l s'))
def rowCells (r c : Int) : Nat → List Int
  | 0 => []
  | i + 1 => (r * 8 + c) :: rowCells r (c + 1) i
def areaCells (r c : Int) (k : Nat) : Nat → List Int
  | 0 => []
  | i + 1 => rowCells r c k ++ areaCells (r + 1) c k i
section EV
variable (t : Int → Int) (n : Int)
def cellAt (p : Int) : Int := (lk t n (p + 1) - 49) * 8 + lk t n p - 97
def evNum : Nat → Int → Int → Int × Int
  | 0, p, a => (a, p)
  | f + 1, p, a => if isDig (lk t n p) then evNum f (p + 1) (a * 10 + lk t n p - 48) else (a, p)
def evPrdL (fac : Int → Mo (Int × Int)) : Nat → Int → Int → Mo (Int × Int)
  | 0, v, p => mpure (v, p)
  | i + 1, v, p => if lk t n p = 42 then mbind (fac (p + 1)) (fun r => mbind (mbd (v * r.1)) (fun x => evPrdL fac i x r.2)) else mpure (v, p)
def evPrd (fac : Int → Mo (Int × Int)) (p : Int) : Mo (Int × Int) := mbind (fac p) (fun r => evPrdL t n fac 30 r.1 r.2)
def evFrmL (fac : Int → Mo (Int × Int)) : Nat → Int → Int → Mo (Int × Int)
  | 0, v, p => mpure (v, p)
  | i + 1, v, p => if lk t n p = 43 then mbind (evPrd t n fac (p + 1)) (fun r => mbind (mbd (v + r.1)) (fun x => evFrmL fac i x r.2))
    else if lk t n p = 45 then mbind (evPrd t n fac (p + 1)) (fun r => mbind (mbd (v - r.1)) (fun x => evFrmL fac i x r.2)) else mpure (v, p)
def evFrm (fac : Int → Mo (Int × Int)) (p : Int) : Mo (Int × Int) := mbind (evPrd t n fac p) (fun r => evFrmL t n fac 30 r.1 r.2)
/-- to the comma or bracket behind a part -/
def skp : Nat → Int → Int → Int
  | 0, _, p => p
  | i + 1, o, p => if o = 0 ∧ (lk t n p = 44 ∨ lk t n p = 41) then p else skp i (if lk t n p = 40 then o + 1 else if lk t n p = 41 then o - 1 else o) (p + 1)
def skN : Nat → Int → Int
  | 0, p => p
  | i + 1, p => if lk t n p = 44 then skN i (skp t n 30 0 (p + 1)) else p
def evChoose (fac : Int → Mo (Int × Int)) (f : Nat) (p : Int) : Mo (Int × Int) := mbind (evFrm t n fac p) (fun r =>
  if (if f = 0 then (if r.1 = 0 then 2 else 1) else r.1) < 1 ∨ am_most.getD f 0 ≤ (if f = 0 then (if r.1 = 0 then 2 else 1) else r.1) then mfail 3
  else if lk t n (skN t n ((if f = 0 then (if r.1 = 0 then 2 else 1) else r.1) - 1).toNat r.2) = 44 then
    mbind (evFrm t n fac (skN t n ((if f = 0 then (if r.1 = 0 then 2 else 1) else r.1) - 1).toNat r.2 + 1)) (fun z => mpure (z.1, skN t n (am_most.getD f 0).toNat z.2 + 1))
  else mfail 3)
def evComb (fac : Int → Mo (Int × Int)) (f : Nat) (p : Int) : Mo (Int × Int) := mbind (evFrm t n fac p) (fun r => mbind (evFrm t n fac (r.2 + 1)) (fun z =>
  if f = 4 then (if (0 ≤ r.1 ∧ r.1 < 8) ∧ 0 ≤ z.1 ∧ z.1 < 9 then mbind (mread (z.1 * 8 + r.1)) (fun v => mpure (v, z.2 + 1)) else mfail 3)
  else if z.1 = 0 then mfail 2 else mpure (if f = 2 then Int.fdiv r.1 z.1 else Int.fmod r.1 z.1, z.2 + 1)))
def evIsArea (p : Int) : Bool := decide ((isCol (lk t n p) ∧ isRow (lk t n (p + 1))) ∧ (lk t n (p + 2) = 58 ∨ lk t n (p + 2) = 44 ∨ lk t n (p + 2) = 41))
def evArea (f : Nat) (s p : Int) : Mo (Int × Int) :=
  if lk t n (p + 2) = 58 then mbind (mcells f (areaCells (cellAt t n p / 8) (cellAt t n p % 8) (cellAt t n (p + 3) % 8 - cellAt t n p % 8 + 1).toNat (cellAt t n (p + 3) / 8 - cellAt t n p / 8 + 1).toNat) s) (fun x => mpure (x, p + 5))
  else mbind (mcells f [cellAt t n p] s) (fun x => mpure (x, p + 2))
def evPart (fac : Int → Mo (Int × Int)) (f : Nat) (s p : Int) : Mo (Int × Int) :=
  if evIsArea t n p = true then evArea t n f s p else mbind (evFrm t n fac p) (fun r => mbind (mjoin f s r.1) (fun x => mpure (x, r.2)))
def evFin (s : Int) : Int := if s = -2000000000 then 0 else s
def evGath (fac : Int → Mo (Int × Int)) (f : Nat) : Nat → Int → Int → Mo (Int × Int)
  | 0, s, p => mpure (evFin s, p)
  | i + 1, s, p => mbind (evPart t n fac f s p) (fun r => if lk t n r.2 = 44 then evGath fac f i r.1 (r.2 + 1) else mpure (evFin r.1, r.2 + 1))
def evFun (fac : Int → Mo (Int × Int)) (f : Nat) (p : Int) : Mo (Int × Int) := if f ≤ 1 then evChoose t n fac f p else if f ≤ 4 then evComb t n fac f p else evGath t n fac f (am_most.getD f 0).toNat (-2000000000) p
def evCall (fac : Int → Mo (Int × Int)) : Nat → Nat → Int → Mo (Int × Int)
  | 0, _, _ => mfail 3
  | i + 1, f, p => if ckMt t n (nmS f) p = ((nmS f).length : Int) then evFun t n fac f (p + ckMt t n (nmS f) p) else evCall fac i (f + 1) p
def evFac : Nat → Int → Mo (Int × Int)
  | 0, _ => mfail 1
  | k + 1, p =>
    if lk t n p = 45 then mbind (evFac k (p + 1)) (fun r => mpure (-r.1, r.2))
    else if lk t n p = 40 then mbind (evFrm t n (evFac k) (p + 1)) (fun r => mpure (r.1, r.2 + 1))
    else if isDig (lk t n p) then mpure (evNum t n 6 p 0)
    else if isCol (lk t n p) ∧ isRow (lk t n (p + 1)) then mbind (mread (cellAt t n p)) (fun v => mpure (v, p + 2))
    else evCall t n (evFac k) 9 0 p
end EV
/-! skipping goes past what the checker accepts -/
section SKP
variable {t : Int → Int} {n : Int} {fac : Int → Bool × Int}
/-- from p to q at any depth -/
def Sk (t : Int → Int) (n p q : Int) : Prop := p ≤ q ∧ ∀ (i : Nat) (o : Int), 0 ≤ o → skp t n (i + (q - p).toNat) o p = skp t n i o q
def Sk1 (t : Int → Int) (n p q : Int) : Prop := p ≤ q ∧ ∀ (i : Nat) (o : Int), 1 ≤ o → skp t n (i + (q - p).toNat) o p = skp t n i o q
theorem Sk.to1 {p q : Int} (h : Sk t n p q) : Sk1 t n p q := ⟨h.1, fun i o ho => h.2 i o (by omega)⟩
theorem Sk.refl {p : Int} : Sk t n p p := ⟨Int.le_refl p, fun i o _ => by rw [show (p - p).toNat = 0 by omega]; rfl⟩
theorem Sk.trans {p q r : Int} (h1 : Sk t n p q) (h2 : Sk t n q r) : Sk t n p r := by
  refine ⟨Int.le_trans h1.1 h2.1, fun i o ho => ?_⟩
  have a := h1.1
  have b := h2.1
  rw [show i + (r - p).toNat = (i + (r - q).toNat) + (q - p).toNat by omega, h1.2 _ o ho, h2.2 i o ho]
theorem Sk1.trans {p q r : Int} (h1 : Sk1 t n p q) (h2 : Sk1 t n q r) : Sk1 t n p r := by
  refine ⟨Int.le_trans h1.1 h2.1, fun i o ho => ?_⟩
  have a := h1.1
  have b := h2.1
  rw [show i + (r - p).toNat = (i + (r - q).toNat) + (q - p).toNat by omega, h1.2 _ o ho, h2.2 i o ho]
theorem Sk.one {p : Int} (h : lk t n p ≠ 40 ∧ lk t n p ≠ 41 ∧ lk t n p ≠ 44) : Sk t n p (p + 1) := by
  refine ⟨by omega, fun i o ho => ?_⟩
  rw [show i + (p + 1 - p).toNat = i + 1 by omega]
  conv => lhs; unfold skp
  rw [if_neg (by omega), if_neg h.1, if_neg h.2.1]
theorem Sk1.comma {p : Int} (h : lk t n p = 44) : Sk1 t n p (p + 1) := by
  refine ⟨by omega, fun i o ho => ?_⟩
  rw [show i + (p + 1 - p).toNat = i + 1 by omega]
  conv => lhs; unfold skp
  rw [if_neg (by omega), if_neg (by omega), if_neg (by omega)]
/-- a bracket, what is in it, its end -/
theorem Sk.paren {p q : Int} (h1 : lk t n p = 40) (h2 : Sk1 t n (p + 1) q) (h3 : lk t n q = 41) : Sk t n p (q + 1) := by
  have a := h2.1
  refine ⟨by omega, fun i o ho => ?_⟩
  rw [show i + (q + 1 - p).toNat = (i + 1 + (q - (p + 1)).toNat) + 1 by omega]
  conv => lhs; unfold skp
  rw [if_neg (by omega), if_pos h1, h2.2 (i + 1) (o + 1) (by omega)]
  conv => lhs; unfold skp
  rw [if_neg (by omega), if_neg (by omega), if_pos h3, show o + 1 - 1 = o by omega]
def SkF (t : Int → Int) (n : Int) (g : Int → Bool × Int) : Prop := ∀ p, 0 ≤ p → p ≤ n → (g p).1 = true → Sk t n p (g p).2
theorem sk_num (f : Nat) (p : Int) : Sk t n p (ckNum t n f p) := by
  induction f generalizing p with
  | zero => exact Sk.refl
  | succ f ih =>
    unfold ckNum
    split
    · exact (Sk.one (by omega)).trans (ih (p + 1))
    · exact Sk.refl
theorem sk_cell {col row p : Int} (h : (ckCell t n col row p).1 = true) : Sk t n p (p + 2) := by
  obtain ⟨_, ⟨_, h2⟩, _, h4⟩ := ckCell_ok h
  have := (Sk.one (t := t) (n := n) (p := p) (by omega)).trans (Sk.one (p := p + 1) (by omega))
  rw [show p + 1 + 1 = p + 2 by omega] at this
  exact this
theorem sk_area {p : Int} (h : (ckArea t n p).1 = true) : Sk t n p (ckArea t n p).2 := by
  unfold ckArea at h ⊢
  split at h
  · rename_i h1
    rw [if_pos h1]
    have s1 := sk_cell h1
    split at h
    · rename_i h2
      rw [if_pos h2]
      have s2 := (Sk.one (t := t) (n := n) (p := p + 2) (by omega))
      rw [show p + 2 + 1 = p + 3 by omega] at s2
      have s3 := sk_cell h
      rw [← (ckCell_ok h).1] at s3
      exact (s1.trans s2).trans s3
    · rename_i h2
      rw [if_neg h2]
      exact s1
  · cases h
theorem sk_prd (hF : SkF t n fac) (hB : Bd n fac) (i : Nat) : SkF t n (ckPrd t n fac i) := by
  induction i with
  | zero => intro p h0 h1 h; exact Sk.refl
  | succ i ih =>
    intro p h0 h1 h
    have hb := hB p h0 h1
    unfold ckPrd at h ⊢
    split at h
    · rename_i hf
      rw [if_pos hf]
      have s1 := hF p h0 h1 hf
      split at h
      · rename_i h42
        rw [if_pos h42]
        have hp := lk_pos (t := t) (n := n) (p := (fac p).2) (by omega)
        exact (s1.trans (Sk.one (by omega))).trans (ih _ (by omega) (by omega) h)
      · rename_i h42
        rw [if_neg h42]
        exact s1
    · cases h
theorem sk_frm (hF : SkF t n fac) (hB : Bd n fac) (i : Nat) : SkF t n (ckFrm t n fac i) := by
  induction i with
  | zero => intro p h0 h1 h; exact Sk.refl
  | succ i ih =>
    intro p h0 h1 h
    have hb := ckPrd_bd (t := t) hB 30 p h0 h1
    unfold ckFrm at h ⊢
    split at h
    · rename_i hf
      rw [if_pos hf]
      have s1 := sk_prd hF hB 30 p h0 h1 hf
      split at h
      · rename_i h42
        rw [if_pos h42]
        have hp := lk_pos (t := t) (n := n) (p := (ckPrd t n fac 30 p).2) (by omega)
        exact (s1.trans (Sk.one (by omega))).trans (ih _ (by omega) (by omega) h)
      · rename_i h42
        rw [if_neg h42]
        exact s1
    · cases h
theorem sk_part (hF : SkF t n fac) (hB : Bd n fac) (f : Nat) : SkF t n (ckPart t n fac f) := by
  intro p h0 h1 h
  unfold ckPart at h ⊢
  split at h
  · rename_i ha
    rw [if_pos ha]
    exact sk_area h
  · rename_i ha
    rw [if_neg ha]
    exact sk_frm hF hB 30 p h0 h1 h
/-- the parts up to their closing bracket -/
theorem sk_parts (hF : SkF t n fac) (hB : Bd n fac) (f i : Nat) (part : Int) : ∀ p, 0 ≤ p → p ≤ n → (ckParts t n fac f i part p).1 = true → Sk1 t n p ((ckParts t n fac f i part p).2 - 1) ∧ lk t n ((ckParts t n fac f i part p).2 - 1) = 41 := by
  induction i generalizing part with
  | zero =>
    intro p h0 h1 h
    unfold ckParts at h
    cases h
  | succ i ih =>
    intro p h0 h1 h
    have hb := ckPart_bd (t := t) hB f p h0 h1
    unfold ckParts at h ⊢
    split at h
    · rename_i hf
      rw [if_pos hf]
      have s1 := (sk_part hF hB f p h0 h1 hf).to1
      split at h
      · rename_i h41
        rw [if_pos h41]
        dsimp only
        rw [show (ckPart t n fac f p).2 + 1 - 1 = (ckPart t n fac f p).2 by omega]
        exact ⟨s1, h41.2⟩
      · rename_i h41
        rw [if_neg h41]
        split at h
        · cases h
        · rename_i hm
          rw [if_neg hm]
          split at h
          · rename_i h44
            rw [if_pos h44]
            have hp := lk_pos (t := t) (n := n) (p := (ckPart t n fac f p).2) (by omega)
            have := ih (part + 1) ((ckPart t n fac f p).2 + 1) (by omega) (by omega) h
            exact ⟨(s1.trans (Sk1.comma h44)).trans this.1, this.2⟩
          · cases h
    · cases h
theorem nmS_form : ∀ j : Nat, j < 9 → ∃ l, nmS j = l ++ [40] ∧ ∀ x ∈ l, x ≠ 40 ∧ x ≠ 41 ∧ x ≠ 44 := by
  intro j hj
  have : j = 0 ∨ j = 1 ∨ j = 2 ∨ j = 3 ∨ j = 4 ∨ j = 5 ∨ j = 6 ∨ j = 7 ∨ j = 8 := by omega
  rcases this with rfl | rfl | rfl | rfl | rfl | rfl | rfl | rfl | rfl
  · exact ⟨[105, 102], by decide +kernel, by decide⟩
  · exact ⟨[112, 105, 99, 107], by decide +kernel, by decide⟩
  · exact ⟨[100, 105, 118], by decide +kernel, by decide⟩
  · exact ⟨[109, 111, 100], by decide +kernel, by decide⟩
  · exact ⟨[97, 116], by decide +kernel, by decide⟩
  · exact ⟨[109, 105, 110], by decide +kernel, by decide⟩
  · exact ⟨[109, 97, 120], by decide +kernel, by decide⟩
  · exact ⟨[115, 117, 109], by decide +kernel, by decide⟩
  · exact ⟨[99, 111, 117, 110, 116], by decide +kernel, by decide⟩
theorem sk_name (l : List Int) (hl : ∀ x ∈ l, x ≠ 40 ∧ x ≠ 41 ∧ x ≠ 44) : ∀ p, ckMt t n (l ++ [40]) p = ((l ++ [40]).length : Int) → Sk t n p (p + l.length) ∧ lk t n (p + l.length) = 40 := by
  induction l with
  | nil =>
    intro p h
    simp only [List.nil_append] at h
    unfold ckMt at h
    split at h
    · rename_i e
      simp only [List.length_nil, Int.ofNat_zero, Int.add_zero]
      exact ⟨Sk.refl, e⟩
    · simp at h
  | cons x l ih =>
    intro p h
    simp only [List.cons_append] at h
    unfold ckMt at h
    split at h
    · rename_i e
      have := ih (fun y hy => hl y (List.mem_cons_of_mem _ hy)) (p + 1) (by simp only [List.length_cons] at h; omega)
      have hx := hl x List.mem_cons_self
      rw [List.length_cons, show p + ((l.length + 1 : Nat) : Int) = p + 1 + l.length by omega]
      exact ⟨(Sk.one (by omega)).trans this.1, this.2⟩
    · rename_i e
      simp only [List.length_cons] at h
      omega
theorem sk_fac (hn : 0 ≤ n) (k : Nat) : SkF t n (ckFac t n k) := by
  induction k with
  | zero =>
    intro p h0 h1 h
    unfold ckFac at h
    cases h
  | succ k ih =>
    intro p h0 h1 h
    have hB := ckFac_bd (t := t) hn k
    unfold ckFac at h ⊢
    by_cases q1 : lk t n p = 45
    · rw [if_pos q1] at h ⊢
      have hp := lk_pos (t := t) (n := n) (p := p) (by omega)
      exact (Sk.one (by omega)).trans (ih (p + 1) (by omega) (by omega) h)
    · rw [if_neg q1] at h ⊢
      by_cases q2 : lk t n p = 40
      · rw [if_pos q2] at h ⊢
        have hp := lk_pos (t := t) (n := n) (p := p) (by omega)
        by_cases hf : (ckFrm t n (ckFac t n k) 30 (p + 1)).1 = true
        · rw [if_pos hf] at h ⊢
          by_cases q3 : lk t n (ckFrm t n (ckFac t n k) 30 (p + 1)).2 = 41
          · rw [if_pos q3]
            exact Sk.paren q2 (sk_frm ih hB 30 (p + 1) (by omega) (by omega) hf).to1 q3
          · rw [if_neg q3] at h
            cases h
        · rw [if_neg hf] at h
          cases h
      · rw [if_neg q2] at h ⊢
        by_cases q3 : isDig (lk t n p)
        · rw [if_pos q3]
          exact sk_num 6 p
        · rw [if_neg q3] at h ⊢
          by_cases q4 : isCol (lk t n p) ∧ isRow (lk t n (p + 1))
          · rw [if_pos q4]
            have := (Sk.one (t := t) (n := n) (p := p) (by omega)).trans (Sk.one (p := p + 1) (by omega))
            rw [show p + 1 + 1 = p + 2 by omega] at this
            exact this
          · rw [if_neg q4] at h ⊢
            have go : ∀ (i f : Nat) (r : Int), i + f = 9 → (ckCall t n (ckFac t n k) i f r p).1 = true → Sk t n p (ckCall t n (ckFac t n k) i f r p).2 := by
              intro i
              induction i with
              | zero =>
                intro f r _ h
                unfold ckCall at h
                cases h
              | succ i ih2 =>
                intro f r hf h
                unfold ckCall at h ⊢
                have hm := ckMt_in (t := t) (n := n) (nmS f) (nmS_ne f (by omega)) p h1
                split at h
                · rename_i e
                  rw [if_pos e]
                  obtain ⟨l, hl1, hl2⟩ := nmS_form f (by omega)
                  have e2 := e
                  rw [hl1] at e2
                  obtain ⟨s1, s2⟩ := sk_name l hl2 p e2
                  have s3 := sk_parts ih hB f (am_most.getD f 0).toNat 1 (p + ckMt t n (nmS f) p) (by have := ckMt_bd (t := t) (n := n) (nmS f) p; omega) hm h
                  have hlen : p + ckMt t n (nmS f) p = p + l.length + 1 := by
                    rw [e, hl1, List.length_append]
                    simp only [List.length_cons, List.length_nil]
                    omega
                  rw [hlen] at s3 ⊢
                  have := s1.trans (Sk.paren s2 s3.1 s3.2)
                  rw [show ∀ x : Int, x - 1 + 1 = x by intro x; omega] at this
                  exact this
                · rename_i e
                  rw [if_neg e]
                  exact ih2 (f + 1) _ (by omega) h
            exact go 9 0 _ rfl h
end SKP
