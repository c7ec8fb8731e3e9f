/-! ===== what a computation keeps: cells read, ranges, and that it depends on the cells read alone ===== -/
def OkE (e : Env') : Prop := ∀ c, 0 ≤ c → c < 72 → (-1000000000 ≤ (e c).1.2 ∧ (e c).1.2 ≤ 1000000000) ∧ 0 ≤ (e c).2.1 ∧ (e c).2.1 ≤ 4
def OkL (l : List Int) : Prop := l.Nodup ∧ ∀ c, c ∈ l → 0 ≤ c ∧ c < 72
def OkR {α : Type} (e : Env') (l : List Int) (P : α → Prop) : (Int × Int) ⊕ α → Prop
  | .inl x => (1 ≤ x.1 ∧ x.1 ≤ 4) ∧ (x.2 = -1 ∨ x.1 = 4 ∧ x.2 ∈ l ∧ (e x.2).1.1 ≠ 0)
  | .inr a => P a
def blk {α : Type} : (Int × Int) ⊕ α → Int
  | .inl x => x.2
  | .inr _ => -1
/-- where it was stopped it goes wrong, once that cell is known and an error -/
def Bk {α : Type} (m : Mo α) (e : Env') (l : List Int) : Prop := (∀ c, c ∈ l → (e c).1.1 = 0) → blk (m e l).2 ≠ -1 → ∀ e' : Env', (∀ c, c ∈ (m e l).1 → c ≠ blk (m e l).2 → e' c = e c) → (e' (blk (m e l).2)).1.1 = 0 → (e' (blk (m e l).2)).2.1 ≠ 0 → m e' l = ((m e l).1, .inl ((e' (blk (m e l).2)).2.1, -1))
def Gd {α : Type} (P : α → Prop) (m : Mo α) : Prop := ∀ e l, OkE e → OkL l → OkL (m e l).1 ∧ (∀ c, c ∈ l → c ∈ (m e l).1) ∧ (∀ c, c ∈ (m e l).1 → c ∈ l ∨ (e c).1.1 = 0 ∨ blk (m e l).2 = c) ∧ ((∀ e', (∀ c, c ∈ (m e l).1 → e' c = e c) → m e' l = m e l) ∧ Bk m e l) ∧ OkR e (m e l).1 P (m e l).2
theorem okr_blk {α : Type} {e : Env'} {l : List Int} {P : α → Prop} {r : (Int × Int) ⊕ α} (h : OkR e l P r) (hb : blk r ≠ -1) : (e (blk r)).1.1 ≠ 0 := by
  cases r with
  | inr a => exact absurd rfl hb
  | inl x => exact (h.2.resolve_left hb).2.2
theorem mbind_inl {α β : Type} {m : Mo α} {f : α → Mo β} {e : Env'} {l l1 : List Int} {x : Int × Int} (h : m e l = (l1, .inl x)) : mbind m f e l = (l1, .inl x) := by
  unfold mbind
  rw [h]
theorem mbind_inr {α β : Type} {m : Mo α} {f : α → Mo β} {e : Env'} {l l1 : List Int} {a : α} (h : m e l = (l1, .inr a)) : mbind m f e l = f a e l1 := by
  unfold mbind
  rw [h]
theorem Gd.bind {α β : Type} {m : Mo α} {f : α → Mo β} {P : α → Prop} {Q : β → Prop} (h1 : Gd P m) (h2 : ∀ a, P a → Gd Q (f a)) : Gd Q (mbind m f) := by
  intro e l hE hL
  obtain ⟨a1, a2, a3, ⟨a4, a6⟩, a5⟩ := h1 e l hE hL
  unfold Bk at a6
  rcases hr : m e l with ⟨l1, x | v⟩
  · rw [hr] at a1 a2 a3 a4 a5 a6
    have e1 := mbind_inl (f := f) hr
    refine ⟨by rw [e1]; exact a1, by rw [e1]; exact a2, by rw [e1]; exact a3, ⟨fun e' he => ?_, ?_⟩, by rw [e1]; exact a5⟩
    · rw [e1] at he ⊢
      exact mbind_inl (a4 e' he)
    · unfold Bk
      rw [e1]
      exact fun hk hb e' he h0 h1 => mbind_inl (a6 hk hb e' he h0 h1)
  · rw [hr] at a1 a2 a3 a4 a5
    have e1 := mbind_inr (f := f) hr
    obtain ⟨b1, b2, b3, ⟨b4, b6⟩, b5⟩ := h2 v a5 e l1 hE a1
    refine ⟨by rw [e1]; exact b1, fun c hc => by rw [e1]; exact b2 c (a2 c hc), fun c hc => ?_, ⟨fun e' he => ?_, ?_⟩, by rw [e1]; exact b5⟩
    · rw [e1] at hc ⊢
      rcases b3 c hc with q | q
      · rcases a3 c q with q2 | q2 | q2
        · exact Or.inl q2
        · exact Or.inr (Or.inl q2)
        · have := (a1.2 c q).1
          have q3 : (-1 : Int) = c := q2
          omega
      · exact Or.inr q
    · rw [e1] at he ⊢
      rw [mbind_inr (a4 e' (fun c hc => he c (b2 c hc)))]
      exact b4 e' he
    · unfold Bk
      rw [e1]
      intro hk hb e' he h0 h1
      have hbu := okr_blk b5 hb
      have hk1 : ∀ c, c ∈ l1 → (e c).1.1 = 0 := fun c hc => by
        rcases a3 c hc with q2 | q2 | q2
        · exact hk c q2
        · exact q2
        · have := (a1.2 c hc).1
          have q3 : (-1 : Int) = c := q2
          omega
      rw [mbind_inr (a4 e' (fun c hc => he c (b2 c hc) (fun z => hbu (by rw [← z]; exact hk1 c hc))))]
      exact b6 hk1 hb e' he h0 h1
theorem Gd.pure {α : Type} {a : α} {P : α → Prop} (h : P a) : Gd P (mpure a) := fun e l _ hL => ⟨hL, fun _ hc => hc, fun _ hc => Or.inl hc, ⟨fun _ _ => rfl, fun _ hb => absurd rfl hb⟩, h⟩
theorem Gd.fail {α : Type} {x : Int} {P : α → Prop} (h : 1 ≤ x ∧ x ≤ 4) : Gd P (mfail x) := fun e l _ hL => ⟨hL, fun _ hc => hc, fun _ hc => Or.inl hc, ⟨fun _ _ => rfl, fun _ hb => absurd rfl hb⟩, h, Or.inl rfl⟩
theorem Gd.mono {α : Type} {m : Mo α} {P Q : α → Prop} (h : Gd P m) (hpq : ∀ a, P a → Q a) : Gd Q m := by
  intro e l hE hL
  obtain ⟨a1, a2, a3, a4, a5⟩ := h e l hE hL
  refine ⟨a1, a2, a3, a4, ?_⟩
  revert a5
  cases (m e l).2 with
  | inl x => exact id
  | inr a => exact hpq a
abbrev PV (v : Int) : Prop := -1000000000 ≤ v ∧ v ≤ 1000000000
abbrev PQ (Q : Int) (r : Int × Int) : Prop := PV r.1 ∧ r.2 = Q
theorem addr_mem {l : List Int} {c x : Int} : x ∈ addr l c ↔ x ∈ l ∨ x = c := by
  unfold addr
  split
  · rename_i h
    exact ⟨Or.inl, fun q => q.elim id (fun q => q ▸ h)⟩
  · simp
theorem addr_ok {l : List Int} {c : Int} (h : OkL l) (hc : 0 ≤ c ∧ c < 72) : OkL (addr l c) := by
  refine ⟨?_, fun x hx => (addr_mem.mp hx).elim (h.2 x) (fun q => q ▸ hc)⟩
  unfold addr
  split
  · exact h.1
  · rename_i q
    refine List.nodup_append.mpr ⟨h.1, by simp, ?_⟩
    intro a ha b hb
    simp at hb
    rintro rfl
    exact q (hb ▸ ha)
theorem gd_read {c : Int} (hc : 0 ≤ c ∧ c < 72) : Gd PV (mread c) := by
  intro e l hE hL
  refine ⟨addr_ok hL hc, fun x hx => addr_mem.mpr (Or.inl hx), fun x hx => ?_, ⟨fun e' he => ?_, fun hk hb e' he h0 h1 => ?_⟩, ?_⟩
  · rcases addr_mem.mp hx with q | q
    · exact Or.inl q
    · subst q
      by_cases q : (e x).1.1 = 0
      · exact Or.inr (Or.inl q)
      · refine Or.inr (Or.inr ?_)
        unfold mread
        dsimp only
        rw [if_neg q]
        rfl
  · have := he c (addr_mem.mpr (Or.inr rfl))
    unfold mread
    rw [this]
  · by_cases q : (e c).1.1 = 0
    · exfalso
      apply hb
      unfold mread
      dsimp only
      rw [if_pos q]
      split <;> rfl
    · have hbc : blk (mread c e l).2 = c := by
        unfold mread
        dsimp only
        rw [if_neg q]
        rfl
      rw [hbc] at h0 h1 ⊢
      show mread c e' l = (addr l c, _)
      unfold mread
      rw [if_pos h0, if_neg h1]
  · have h := hE c hc.1 hc.2
    unfold mread
    dsimp only
    by_cases q : (e c).1.1 = 0
    · rw [if_pos q]
      by_cases q2 : (e c).2.1 = 0
      · rw [if_pos q2]
        exact h.1
      · rw [if_neg q2]
        refine ⟨⟨?_, ?_⟩, Or.inl rfl⟩
        · dsimp only; omega
        · dsimp only; omega
    · rw [if_neg q]
      refine ⟨⟨?_, ?_⟩, Or.inr ⟨rfl, addr_mem.mpr (Or.inr rfl), q⟩⟩
      · dsimp only; omega
      · dsimp only; omega
theorem gd_readE {c : Int} (hc : 0 ≤ c ∧ c < 72) : Gd (fun r : Int × Int => PV r.1) (mreadE c) := by
  have key : ∀ (e : Env') (l : List Int), mreadE c e l = ((mread c e l).1, match (mread c e l).2 with | .inl x => .inl x | .inr v => .inr (v, (e c).2.2)) := by
    intro e l
    rcases hr : mread c e l with ⟨l1, x | v⟩
    · exact mbind_inl hr
    · exact mbind_inr hr
  intro e l hE hL
  obtain ⟨a1, a2, a3, ⟨a4, a6⟩, a5⟩ := gd_read hc e l hE hL
  unfold Bk
  rw [key]
  have hbk : blk (match (mread c e l).2 with | .inl x => (.inl x : (Int × Int) ⊕ (Int × Int)) | .inr v => .inr (v, (e c).2.2)) = blk (mread c e l).2 := by
    cases (mread c e l).2 <;> rfl
  refine ⟨a1, a2, fun x hx => by rw [hbk]; exact a3 x hx, ⟨fun e' he => ?_, fun hk hb e' he h0 h1 => ?_⟩, ?_⟩
  · rw [key, a4 e' he, he c (addr_mem.mpr (Or.inr rfl))]
  · rw [hbk] at hb he h0 h1 ⊢
    rw [key, a6 hk hb e' he h0 h1]
  · dsimp only
    revert a5
    cases (mread c e l).2 with
    | inl x => exact id
    | inr v => exact id
theorem gd_bd {v : Int} : Gd PV (mbd v) := by
  unfold mbd
  split
  · exact Gd.fail ⟨by decide, by decide⟩
  · exact Gd.pure ⟨by omega, by omega⟩
/-- what has been gathered so far -/
def Jn (f : Nat) (B s : Int) : Prop := s = -2000000000 ∨ (PV s ∧ (f = 8 → 0 ≤ s ∧ s ≤ B))
theorem Jn.mono {f : Nat} {B B' s : Int} (h : Jn f B s) (hb : B ≤ B') : Jn f B' s := by
  rcases h with h | h
  · exact Or.inl h
  · exact Or.inr ⟨h.1, fun q => ⟨(h.2 q).1, Int.le_trans (h.2 q).2 hb⟩⟩
theorem gd_join {f : Nat} {B s v : Int} (hB : 0 ≤ B ∧ B ≤ 100000) (hs : Jn f B s) (hv : PV v) : Gd (Jn f (B + 1)) (mjoin f s v) := by
  unfold mjoin
  split
  · rename_i hf
    split
    · exact Gd.pure (Or.inr ⟨⟨by decide, by decide⟩, fun _ => ⟨by decide, by omega⟩⟩)
    · rename_i hs2
      rcases hs with q | q
      · exact absurd q hs2
      · have := q.2 hf
        exact Gd.pure (Or.inr ⟨⟨by omega, by omega⟩, fun _ => ⟨by omega, by omega⟩⟩)
  · rename_i hf
    split
    · exact Gd.pure (Or.inr ⟨hv, fun q => absurd q hf⟩)
    · rename_i hs2
      rcases hs with q | q
      · exact absurd q hs2
      · split
        · exact Gd.pure (Or.inr ⟨⟨by omega, by omega⟩, fun q => absurd q hf⟩)
        · split
          · exact Gd.pure (Or.inr ⟨⟨by omega, by omega⟩, fun q => absurd q hf⟩)
          · exact gd_bd.mono (fun a ha => Or.inr ⟨ha, fun q => absurd q hf⟩)
theorem gd_cells {f : Nat} (l : List Int) : ∀ {B s : Int}, 0 ≤ B → B + l.length ≤ 100000 → Jn f B s → (∀ c, c ∈ l → 0 ≤ c ∧ c < 72) → Gd (Jn f (B + l.length)) (mcells f l s) := by
  induction l with
  | nil =>
    intro B s h0 hB hs hl
    exact Gd.pure (hs.mono (by simp))
  | cons c l ih =>
    intro B s h0 hB hs hl
    rw [List.length_cons] at hB ⊢
    refine Gd.bind (gd_readE (hl c List.mem_cons_self)) (fun r hr => ?_)
    refine Gd.bind (P := Jn f (B + 1)) ?_ (fun s' hs' => ?_)
    · split
      · exact Gd.pure (hs.mono (by omega))
      · exact gd_join ⟨h0, by omega⟩ hs hr
    · refine (ih (by omega) (by omega) hs' (fun x hx => hl x (List.mem_cons_of_mem _ hx))).mono (fun a ha => ha.mono (by omega))
theorem rowCells_mem {r c x : Int} {k : Nat} (h : x ∈ rowCells r c k) : r * 8 + c ≤ x ∧ x < r * 8 + c + k := by
  induction k generalizing c with
  | zero => cases h
  | succ k ih =>
    unfold rowCells at h
    rcases List.mem_cons.mp h with q | q
    · omega
    · have := ih q
      omega
theorem rowCells_len (r c : Int) (k : Nat) : (rowCells r c k).length = k := by
  induction k generalizing c with
  | zero => rfl
  | succ k ih => unfold rowCells; rw [List.length_cons, ih]
theorem areaCells_mem {r c x : Int} {k i : Nat} (h0 : 0 ≤ r ∧ 0 ≤ c) (hr : r + i ≤ 9) (hc : c + k ≤ 8) (h : x ∈ areaCells r c k i) : 0 ≤ x ∧ x < 72 := by
  induction i generalizing r with
  | zero => cases h
  | succ i ih =>
    unfold areaCells at h
    rcases List.mem_append.mp h with q | q
    · have := rowCells_mem q
      omega
    · exact ih (by omega) (by omega) q
theorem areaCells_len (r c : Int) (k i : Nat) : (areaCells r c k i).length = i * k := by
  induction i generalizing r with
  | zero => simp [areaCells]
  | succ i ih => unfold areaCells; rw [List.length_append, rowCells_len, ih, Nat.succ_mul, Nat.add_comm]
theorem pv_fdiv {a b : Int} (ha : PV a) : PV (Int.fdiv a b) := by
  by_cases hb : 0 ≤ b
  · rw [Int.fdiv_eq_ediv_of_nonneg a hb]
    have := Int.natAbs_ediv_le_natAbs a b
    omega
  · rw [← Int.neg_fdiv_neg, Int.fdiv_eq_ediv_of_nonneg (-a) (by omega)]
    have := Int.natAbs_ediv_le_natAbs (-a) (-b)
    omega
theorem pv_fmod {a b : Int} (hb : PV b) (h0 : b ≠ 0) : PV (Int.fmod a b) := by
  rcases Int.lt_or_gt_of_ne h0 with q | q
  · have e := Int.neg_fmod_neg a b
    have h1 := Int.fmod_nonneg_of_pos (-a) (b := -b) (by omega)
    have h2 := Int.fmod_lt_of_pos (-a) (b := -b) (by omega)
    rw [e] at h1 h2
    omega
  · have h1 := Int.fmod_nonneg_of_pos a q
    have h2 := Int.fmod_lt_of_pos a q
    omega
section GD
variable {t : Int → Int} {n : Int} {fac : Int → Bool × Int} {evf : Int → Mo (Int × Int)}
theorem gd_num (f : Nat) : ∀ (p a : Int), 0 ≤ a → (evNum t n f p a).2 = ckNum t n f p ∧ 0 ≤ (evNum t n f p a).1 ∧ ∀ M : Int, a + 1 ≤ M → (evNum t n f p a).1 + 1 ≤ M * 10 ^ f := by
  induction f with
  | zero => intro p a ha; exact ⟨rfl, ha, fun M hM => by rw [Int.pow_zero, Int.mul_one]; exact hM⟩
  | succ f ih =>
    intro p a ha
    unfold evNum ckNum
    split
    · obtain ⟨b1, b2, b3⟩ := ih (p + 1) (a * 10 + lk t n p - 48) (by omega)
      refine ⟨b1, b2, fun M hM => ?_⟩
      have := b3 (M * 10) (by omega)
      rw [Int.pow_succ, Int.mul_comm (10 ^ f) 10, ← Int.mul_assoc]
      exact this
    · refine ⟨rfl, ha, fun M hM => ?_⟩
      have h1 : (1 : Int) ≤ 10 ^ (f + 1) := by
        have : (0 : Int) < 10 ^ (f + 1) := Int.pow_pos (by decide)
        omega
      have := Int.mul_le_mul_of_nonneg_left h1 (show (0 : Int) ≤ M by omega)
      rw [Int.mul_one] at this
      dsimp only
      omega
/-- a factor's computation goes as far as the checker -/
def GF (t : Int → Int) (n : Int) (g : Int → Bool × Int) (m : Int → Mo (Int × Int)) : Prop := ∀ p, 0 ≤ p → p ≤ n → (g p).1 = true → Gd (PQ (g p).2) (m p)
theorem gd_prdL (hG : GF t n fac evf) (hB : Bd n fac) (hA : Adv n fac) (i : Nat) : ∀ v p, 0 ≤ p → p ≤ n → n ≤ p + 2 * i → PV v → (if lk t n p = 42 then ckPrd t n fac i (p + 1) else (true, p)).1 = true → Gd (PQ (if lk t n p = 42 then ckPrd t n fac i (p + 1) else (true, p)).2) (evPrdL t n evf (i + 1) v p) := by
  induction i with
  | zero =>
    intro v p h0 h1 h2 hv h
    have : ¬ lk t n p = 42 := fun q => by have := lk_pos (t := t) (n := n) (p := p) (by omega); omega
    rw [if_neg this] at h ⊢
    unfold evPrdL
    rw [if_neg this]
    exact Gd.pure ⟨hv, rfl⟩
  | succ i ih =>
    intro v p h0 h1 h2 hv h
    by_cases q : lk t n p = 42
    · have hl := lk_pos (t := t) (n := n) (p := p) (by omega)
      rw [if_pos q] at h ⊢
      unfold evPrdL
      rw [if_pos q]
      unfold ckPrd at h ⊢
      by_cases hf : (fac (p + 1)).1 = true
      · rw [if_pos hf] at h ⊢
        have hb := hB (p + 1) (by omega) (by omega)
        have ha := hA (p + 1) (by omega) (by omega) hf
        refine Gd.bind (hG (p + 1) (by omega) (by omega) hf) (fun r hr => Gd.bind gd_bd (fun x hx => ?_))
        rw [hr.2]
        exact ih x _ (by omega) (by omega) (by omega) hx h
      · rw [if_neg hf] at h
        cases h
    · rw [if_neg q] at h ⊢
      unfold evPrdL
      rw [if_neg q]
      exact Gd.pure ⟨hv, rfl⟩
theorem gd_prd (hn : 0 ≤ n ∧ n ≤ 30) (hG : GF t n fac evf) (hB : Bd n fac) (hA : Adv n fac) : GF t n (ckPrd t n fac 30) (evPrd t n evf) := by
  intro p h0 h1 h
  unfold ckPrd at h ⊢
  by_cases hf : (fac p).1 = true
  · rw [if_pos hf] at h ⊢
    have hb := hB p (by omega) (by omega)
    have ha := hA p (by omega) (by omega) hf
    unfold evPrd
    refine Gd.bind (hG p (by omega) (by omega) hf) (fun r hr => ?_)
    rw [hr.2]
    exact gd_prdL hG hB hA 29 r.1 _ (by omega) (by omega) (by omega) hr.1 h
  · rw [if_neg hf] at h
    cases h
theorem gd_frmL (hn : 0 ≤ n ∧ n ≤ 30) (hG : GF t n fac evf) (hB : Bd n fac) (hA : Adv n fac) (i : Nat) : ∀ v p, 0 ≤ p → p ≤ n → n ≤ p + 2 * i → PV v → (if lk t n p = 43 ∨ lk t n p = 45 then ckFrm t n fac i (p + 1) else (true, p)).1 = true → Gd (PQ (if lk t n p = 43 ∨ lk t n p = 45 then ckFrm t n fac i (p + 1) else (true, p)).2) (evFrmL t n evf (i + 1) v p) := by
  induction i with
  | zero =>
    intro v p h0 h1 h2 hv h
    have : ¬ (lk t n p = 43 ∨ lk t n p = 45) := fun q => by have := lk_pos (t := t) (n := n) (p := p) (by omega); omega
    rw [if_neg this] at h ⊢
    unfold evFrmL
    rw [if_neg (by omega), if_neg (by omega)]
    exact Gd.pure ⟨hv, rfl⟩
  | succ i ih =>
    intro v p h0 h1 h2 hv h
    by_cases q : lk t n p = 43 ∨ lk t n p = 45
    · have hl := lk_pos (t := t) (n := n) (p := p) (by omega)
      rw [if_pos q] at h ⊢
      unfold ckFrm at h ⊢
      by_cases hf : (ckPrd t n fac 30 (p + 1)).1 = true
      · rw [if_pos hf] at h ⊢
        have hb := ckPrd_bd (t := t) hB 30 (p + 1) (by omega) (by omega)
        have ha := ckPrd_adv (t := t) hB hA hn.2 30 (p + 1) (by omega) (by omega) (by omega) hf
        have hp := gd_prd hn hG hB hA (p + 1) (by omega) (by omega) hf
        have go : ∀ g : Int → Int, Gd (PQ (if lk t n (ckPrd t n fac 30 (p + 1)).2 = 43 ∨ lk t n (ckPrd t n fac 30 (p + 1)).2 = 45 then ckFrm t n fac i ((ckPrd t n fac 30 (p + 1)).2 + 1) else (true, (ckPrd t n fac 30 (p + 1)).2)).2) (mbind (evPrd t n evf (p + 1)) (fun r => mbind (mbd (g r.1)) (fun x => evFrmL t n evf (i + 1) x r.2))) := by
          intro g
          refine Gd.bind hp (fun r hr => Gd.bind gd_bd (fun x hx => ?_))
          rw [hr.2]
          exact ih x _ (by omega) (by omega) (by omega) hx h
        unfold evFrmL
        by_cases q2 : lk t n p = 43
        · rw [if_pos q2]
          exact go (fun z => v + z)
        · rw [if_neg q2, if_pos (show lk t n p = 45 by rcases q with q | q; exact absurd q q2; exact q)]
          exact go (fun z => v - z)
      · rw [if_neg hf] at h
        cases h
    · rw [if_neg q] at h ⊢
      unfold evFrmL
      rw [if_neg (by omega), if_neg (by omega)]
      exact Gd.pure ⟨hv, rfl⟩
theorem gd_frm (hn : 0 ≤ n ∧ n ≤ 30) (hG : GF t n fac evf) (hB : Bd n fac) (hA : Adv n fac) : GF t n (ckFrm t n fac 30) (evFrm t n evf) := by
  intro p h0 h1 h
  unfold ckFrm at h ⊢
  by_cases hf : (ckPrd t n fac 30 p).1 = true
  · rw [if_pos hf] at h ⊢
    have hb := ckPrd_bd (t := t) hB 30 p (by omega) (by omega)
    have ha := ckPrd_adv (t := t) hB hA hn.2 30 p (by omega) (by omega) (by omega) hf
    unfold evFrm
    refine Gd.bind (gd_prd hn hG hB hA p (by omega) (by omega) hf) (fun r hr => ?_)
    rw [hr.2]
    exact gd_frmL hn hG hB hA 29 r.1 _ (by omega) (by omega) (by omega) hr.1 h
  · rw [if_neg hf] at h
    cases h
/-- behind a part: the closing bracket, or a comma and more parts -/
def Aft (t : Int → Int) (n : Int) (fac : Int → Bool × Int) (f i : Nat) (q R : Int) : Prop := lk t n q = 41 ∧ R = q + 1 ∨ lk t n q = 44 ∧ ∃ part, (ckParts t n fac f i part (q + 1)).1 = true ∧ (ckParts t n fac f i part (q + 1)).2 = R
theorem parts_aft {f i : Nat} {part p : Int} (h : (ckParts t n fac f (i + 1) part p).1 = true) : (ckPart t n fac f p).1 = true ∧ Aft t n fac f i (ckPart t n fac f p).2 (ckParts t n fac f (i + 1) part p).2 := by
  unfold ckParts at h ⊢
  by_cases hf : (ckPart t n fac f p).1 = true
  · rw [if_pos hf] at h ⊢
    refine ⟨hf, ?_⟩
    by_cases h41 : am_least.getD f 0 ≤ part ∧ lk t n (ckPart t n fac f p).2 = 41
    · rw [if_pos h41]
      exact Or.inl ⟨h41.2, rfl⟩
    · rw [if_neg h41] at h ⊢
      by_cases hm : part = am_most.getD f 0
      · rw [if_pos hm] at h
        cases h
      · rw [if_neg hm] at h ⊢
        by_cases h44 : lk t n (ckPart t n fac f p).2 = 44
        · rw [if_pos h44] at h ⊢
          exact Or.inr ⟨h44, part + 1, h, rfl⟩
        · rw [if_neg h44] at h
          cases h
  · rw [if_neg hf] at h
    cases h
theorem Aft.stop {f i : Nat} {q R : Int} (h : Aft t n fac f i q R) : lk t n q = 44 ∨ lk t n q = 41 := h.elim (fun h => Or.inr h.1) (fun h => Or.inl h.1)
theorem Aft.next {f i : Nat} {q R : Int} (h : Aft t n fac f i q R) (h44 : lk t n q = 44) : ∃ i', i = i' + 1 ∧ (ckPart t n fac f (q + 1)).1 = true ∧ Aft t n fac f i' (ckPart t n fac f (q + 1)).2 R := by
  rcases h with h | ⟨_, part, h1, h2⟩
  · omega
  · cases i with
    | zero =>
      unfold ckParts at h1
      cases h1
    | succ i =>
      have := parts_aft h1
      rw [h2] at this
      exact ⟨i, rfl, this⟩
theorem Sk.skp0 (hn : n ≤ 30) {p q : Int} (h0 : 0 ≤ p) (hq : q < n) (h : Sk t n p q) (hs : lk t n q = 44 ∨ lk t n q = 41) : skp t n 30 0 p = q := by
  have a := h.1
  have := h.2 (30 - (q - p).toNat) 0 (Int.le_refl 0)
  rw [show 30 - (q - p).toNat + (q - p).toNat = 30 by omega] at this
  rw [this]
  obtain ⟨j, hj⟩ : ∃ j, 30 - (q - p).toNat = j + 1 := ⟨30 - (q - p).toNat - 1, by omega⟩
  rw [hj]
  unfold skp
  rw [if_pos ⟨rfl, hs⟩]
theorem skN_aft (hn : 0 ≤ n ∧ n ≤ 30) (hF : SkF t n fac) (hB : Bd n fac) {f : Nat} {R : Int} (m : Nat) : ∀ (i : Nat) (q : Int), 0 ≤ q → Aft t n fac f i q R → 0 ≤ skN t n m q ∧ ∃ i', i' ≤ i ∧ Aft t n fac f i' (skN t n m q) R ∧ (i ≤ m → lk t n (skN t n m q) = 41) := by
  induction m with
  | zero =>
    intro i q h0 h
    refine ⟨h0, i, Nat.le_refl i, h, fun hi => ?_⟩
    rcases h.stop with h44 | h41
    · obtain ⟨i', e, _⟩ := h.next h44
      omega
    · exact h41
  | succ m ih =>
    intro i q h0 h
    unfold skN
    by_cases h44 : lk t n q = 44
    · rw [if_pos h44]
      have hl := lk_pos (t := t) (n := n) (p := q) (by omega)
      obtain ⟨i', e, h1, h2⟩ := h.next h44
      have hb := ckPart_bd (t := t) hB f (q + 1) (by omega) (by omega)
      have hs := sk_part hF hB f (q + 1) (by omega) (by omega) h1
      have hl2 := lk_pos (t := t) (n := n) (p := (ckPart t n fac f (q + 1)).2) (by have := h2.stop; omega)
      rw [Sk.skp0 hn.2 (by omega) hl2.2 hs h2.stop]
      obtain ⟨c0, i2, c3, c1, c2⟩ := ih i' _ (by omega) h2
      exact ⟨c0, i2, by omega, c1, fun hi => c2 (by omega)⟩
    · rw [if_neg h44]
      refine ⟨h0, i, Nat.le_refl i, h, fun _ => ?_⟩
      rcases h.stop with q1 | q1
      · exact absurd q1 h44
      · exact q1
theorem part_frm {f : Nat} {p : Int} (hf : f < 5) : ckPart t n fac f p = ckFrm t n fac 30 p := by
  unfold ckPart ckIsArea
  rw [if_neg]
  simp only [decide_eq_true_eq]
  omega
theorem gd_choose (hn : 0 ≤ n ∧ n ≤ 30) (hF : SkF t n fac) (hG : GF t n fac evf) (hB : Bd n fac) (hA : Adv n fac) {f : Nat} (hf : f ≤ 1) {p : Int} (h0 : 0 ≤ p) (h1 : p ≤ n) (h : (ckParts t n fac f (am_most.getD f 0).toNat 1 p).1 = true) : Gd (PQ (ckParts t n fac f (am_most.getD f 0).toNat 1 p).2) (evChoose t n evf f p) := by
  obtain ⟨m, hm⟩ : ∃ m, (am_most.getD f 0).toNat = m + 1 := ⟨(am_most.getD f 0).toNat - 1, by have := tab_least f (by omega); omega⟩
  unfold evChoose
  rw [hm] at h ⊢
  obtain ⟨a1, a2⟩ := parts_aft h
  rw [part_frm (by omega)] at a1 a2
  have hb := ckFrm_bd (t := t) hB 30 p h0 h1
  refine Gd.bind (gd_frm hn hG hB hA p h0 h1 a1) (fun r hr => ?_)
  have hr2 := hr.2
  generalize (if f = 0 then (if r.1 = 0 then (2 : Int) else 1) else r.1) = wt
  rw [← hr2] at a2 hb
  split
  · exact Gd.fail ⟨by decide, by decide⟩
  · obtain ⟨b0, i', b3, b1, b2⟩ := skN_aft hn hF hB (wt - 1).toNat m r.2 (by omega) a2
    generalize hs : skN t n (wt - 1).toNat r.2 = s at b0 b1 b2 ⊢
    split
    · rename_i h44
      have hl := lk_pos (t := t) (n := n) (p := s) (by omega)
      obtain ⟨i2, e, c1, c2⟩ := b1.next h44
      rw [part_frm (by omega)] at c1 c2
      have hb2 := ckFrm_bd (t := t) hB 30 (s + 1) (by omega) (by omega)
      refine Gd.bind (gd_frm hn hG hB hA (s + 1) (by omega) (by omega) c1) (fun z hz => Gd.pure ⟨hz.1, ?_⟩)
      have hz2 := hz.2
      dsimp only
      rw [← hz2] at c2 hb2
      obtain ⟨d0, i3, d3, d1, d2⟩ := skN_aft hn hF hB (m + 1) i2 z.2 (by omega) c2
      rcases d1 with q | q
      · exact q.2.symm
      · have := d2 (by omega)
        omega
    · exact Gd.fail ⟨by decide, by decide⟩
theorem two_parts : ∀ f : Nat, 2 ≤ f → f ≤ 4 → am_most.getD f 0 = 2 ∧ am_least.getD f 0 = 2 := by
  intro f h1 h2
  have : f = 2 ∨ f = 3 ∨ f = 4 := by omega
  rcases this with rfl | rfl | rfl <;> decide
theorem parts_two {f : Nat} (hf : 2 ≤ f ∧ f ≤ 4) {p : Int} (h : (ckParts t n fac f (am_most.getD f 0).toNat 1 p).1 = true) : (ckFrm t n fac 30 p).1 = true ∧ lk t n (ckFrm t n fac 30 p).2 = 44 ∧ (ckFrm t n fac 30 ((ckFrm t n fac 30 p).2 + 1)).1 = true ∧ lk t n (ckFrm t n fac 30 ((ckFrm t n fac 30 p).2 + 1)).2 = 41 ∧ (ckParts t n fac f (am_most.getD f 0).toNat 1 p).2 = (ckFrm t n fac 30 ((ckFrm t n fac 30 p).2 + 1)).2 + 1 := by
  obtain ⟨e1, e2⟩ := two_parts f hf.1 hf.2
  rw [e1] at h ⊢
  change (ckParts t n fac f (0 + 1 + 1) 1 p).1 = true at h
  change _ ∧ _ ∧ _ ∧ _ ∧ (ckParts t n fac f (0 + 1 + 1) 1 p).2 = _
  unfold ckParts at h ⊢
  rw [e1, e2, part_frm (by omega)] at h ⊢
  by_cases hf1 : (ckFrm t n fac 30 p).1 = true
  · rw [if_pos hf1, if_neg (by omega), if_neg (by decide)] at h ⊢
    by_cases h44 : lk t n (ckFrm t n fac 30 p).2 = 44
    · rw [if_pos h44] at h ⊢
      obtain ⟨b1, b2⟩ := parts_aft h
      rw [part_frm (by omega)] at b1 b2
      rcases b2 with q | ⟨_, part, q, _⟩
      · exact ⟨hf1, h44, b1, q.1, q.2⟩
      · unfold ckParts at q
        cases q
    · rw [if_neg h44] at h
      cases h
  · rw [if_neg hf1] at h
    cases h
theorem gd_comb (hn : 0 ≤ n ∧ n ≤ 30) (hG : GF t n fac evf) (hB : Bd n fac) (hA : Adv n fac) {f : Nat} (hf : 2 ≤ f ∧ f ≤ 4) {p : Int} (h0 : 0 ≤ p) (h1 : p ≤ n) (h : (ckParts t n fac f (am_most.getD f 0).toNat 1 p).1 = true) : Gd (PQ (ckParts t n fac f (am_most.getD f 0).toNat 1 p).2) (evComb t n evf f p) := by
  obtain ⟨a1, a2, a3, a4, a5⟩ := parts_two hf h
  have hb := ckFrm_bd (t := t) hB 30 p h0 h1
  have hl := lk_pos (t := t) (n := n) (p := (ckFrm t n fac 30 p).2) (by omega)
  unfold evComb
  refine Gd.bind (gd_frm hn hG hB hA p h0 h1 a1) (fun r hr => ?_)
  rw [hr.2]
  refine Gd.bind (gd_frm hn hG hB hA _ (by omega) (by omega) a3) (fun z hz => ?_)
  have r1 := hr.1
  have z1 := hz.1
  have z2 := hz.2
  split
  · split
    · exact Gd.bind (gd_read ⟨by omega, by omega⟩) (fun v hv => Gd.pure ⟨hv, by dsimp only; omega⟩)
    · exact Gd.fail ⟨by decide, by decide⟩
  · split
    · exact Gd.fail ⟨by decide, by decide⟩
    · rename_i hz0
      refine Gd.pure ⟨?_, by dsimp only; omega⟩
      dsimp only
      split
      · exact pv_fdiv r1
      · exact pv_fmod z1 hz0
/-- a factor that is a cell -/
def CellF (t : Int → Int) (n : Int) (fac : Int → Bool × Int) : Prop := ∀ p, isCol (lk t n p) ∧ isRow (lk t n (p + 1)) → (fac p).1 = true → (fac p).2 = p + 2
theorem frm_cell (hC : CellF t n fac) {p : Int} (hc : isCol (lk t n p) ∧ isRow (lk t n (p + 1))) (hs : lk t n (p + 2) = 44 ∨ lk t n (p + 2) = 41) (h : (ckFrm t n fac 30 p).1 = true) : (ckFrm t n fac 30 p).2 = p + 2 := by
  have hp1 : ∀ h2 : (ckPrd t n fac 30 p).1 = true, (ckPrd t n fac 30 p).2 = p + 2 := by
    intro h2
    unfold ckPrd at h2 ⊢
    by_cases hf : (fac p).1 = true
    · rw [if_pos hf] at h2 ⊢
      rw [hC p hc hf] at h2 ⊢
      rw [if_neg (by omega)]
    · rw [if_neg hf] at h2
      cases h2
  unfold ckFrm at h ⊢
  by_cases hf : (ckPrd t n fac 30 p).1 = true
  · rw [if_pos hf]
    rw [hp1 hf, if_neg (by omega)]
  · rw [if_neg hf] at h
    cases h
theorem gd_part (hn : 0 ≤ n ∧ n ≤ 30) (hC : CellF t n fac) (hG : GF t n fac evf) (hB : Bd n fac) (hA : Adv n fac) {f : Nat} (hf : 5 ≤ f) {B s p : Int} (hb0 : 0 ≤ B ∧ B ≤ 1000) (hs : Jn f B s) (h0 : 0 ≤ p) (h1 : p ≤ n) (h : (ckPart t n fac f p).1 = true) (hst : lk t n (ckPart t n fac f p).2 = 44 ∨ lk t n (ckPart t n fac f p).2 = 41) : Gd (fun r : Int × Int => Jn f (B + 72) r.1 ∧ r.2 = (ckPart t n fac f p).2) (evPart t n evf f s p) := by
  unfold evPart
  by_cases ha : evIsArea t n p = true
  · rw [if_pos ha]
    unfold evIsArea at ha
    rw [decide_eq_true_eq] at ha
    unfold evArea
    by_cases h58 : lk t n (p + 2) = 58
    · rw [if_pos h58]
      have hck : ckIsArea t n f p = true := by
        unfold ckIsArea
        rw [decide_eq_true_eq]
        exact Or.inr ⟨hf, ha.1, h58⟩
      unfold ckPart at h ⊢
      rw [if_pos hck] at h ⊢
      unfold ckArea at h ⊢
      by_cases hc1 : (ckCell t n 97 49 p).1 = true
      · rw [if_pos hc1, if_pos h58] at h ⊢
        obtain ⟨c1, c2, c3⟩ := ckCell_ok h
        rw [show p + 3 + 1 = p + 4 by omega] at c3
        have hL := areaCells_len (cellAt t n p / 8) (cellAt t n p % 8) (cellAt t n (p + 3) % 8 - cellAt t n p % 8 + 1).toNat (cellAt t n (p + 3) / 8 - cellAt t n p / 8 + 1).toNat
        have hk : (cellAt t n (p + 3) % 8 - cellAt t n p % 8 + 1).toNat ≤ 8 := by omega
        have hi : (cellAt t n (p + 3) / 8 - cellAt t n p / 8 + 1).toNat ≤ 9 := by
          unfold cellAt
          rw [show p + 3 + 1 = p + 4 by omega]
          omega
        have hmul := Nat.mul_le_mul hi hk
        rw [← hL] at hmul
        refine Gd.bind (gd_cells _ hb0.1 (by omega) hs (fun x hx => areaCells_mem ?_ ?_ ?_ hx)) (fun x hx => Gd.pure ⟨hx.mono (by omega), ?_⟩)
        · unfold cellAt
          omega
        · unfold cellAt
          rw [show p + 3 + 1 = p + 4 by omega]
          omega
        · unfold cellAt
          rw [show p + 3 + 1 = p + 4 by omega]
          omega
        · rw [c1]
          omega
      · rw [if_neg hc1] at h
        cases h
    · rw [if_neg h58]
      have hcell : ∀ x, x ∈ [cellAt t n p] → 0 ≤ x ∧ x < 72 := by
        intro x hx
        rw [List.mem_singleton.mp hx]
        unfold cellAt
        omega
      have e : (ckPart t n fac f p).2 = p + 2 := by
        unfold ckPart at h ⊢
        by_cases hck : ckIsArea t n f p = true
        · rw [if_pos hck] at h ⊢
          unfold ckArea at h ⊢
          by_cases hc1 : (ckCell t n 97 49 p).1 = true
          · rw [if_pos hc1, if_neg h58]
          · rw [if_neg hc1] at h
            cases h
        · rw [if_neg hck] at h ⊢
          exact frm_cell hC ha.1 (by omega) h
      rw [e]
      exact Gd.bind (gd_cells _ hb0.1 (by simp only [List.length_cons, List.length_nil]; omega) hs hcell) (fun x hx => Gd.pure ⟨hx.mono (by simp only [List.length_cons, List.length_nil]; omega), rfl⟩)
  · rw [if_neg ha]
    unfold evIsArea at ha
    rw [decide_eq_true_eq] at ha
    have hck : ¬ ckIsArea t n f p = true := by
      intro hck
      unfold ckPart at h hst
      rw [if_pos hck] at h hst
      unfold ckIsArea at hck
      rw [decide_eq_true_eq] at hck
      unfold ckArea at h hst
      by_cases hc1 : (ckCell t n 97 49 p).1 = true
      · obtain ⟨c1, c2, c3⟩ := ckCell_ok hc1
        rw [if_pos hc1] at h hst
        by_cases h58 : lk t n (p + 2) = 58
        · exact ha ⟨⟨c2.2, c3.2⟩, Or.inl h58⟩
        · rw [if_neg h58] at hst
          exact ha ⟨⟨c2.2, c3.2⟩, Or.inr hst⟩
      · rw [if_neg hc1] at h
        cases h
    unfold ckPart at h ⊢
    rw [if_neg hck] at h ⊢
    exact Gd.bind (gd_frm hn hG hB hA p h0 h1 h) (fun r hr => Gd.bind (gd_join ⟨hb0.1, by omega⟩ hs hr.1) (fun x hx => Gd.pure ⟨hx.mono (by omega), hr.2⟩))
theorem pv_fin {f : Nat} {B s : Int} (h : Jn f B s) : PV (evFin s) := by
  unfold evFin
  split
  · exact ⟨by decide, by decide⟩
  · rcases h with h | h
    · contradiction
    · exact h.1
theorem gd_gath (hn : 0 ≤ n ∧ n ≤ 30) (hC : CellF t n fac) (hG : GF t n fac evf) (hB : Bd n fac) (hA : Adv n fac) {f : Nat} (hf : 5 ≤ f) (i : Nat) : ∀ {part B s p : Int}, 0 ≤ B → B + 72 * i ≤ 1000 → Jn f B s → 0 ≤ p → p ≤ n → (ckParts t n fac f i part p).1 = true → Gd (PQ (ckParts t n fac f i part p).2) (evGath t n evf f i s p) := by
  induction i with
  | zero =>
    intro part B s p hb0 hb1 hs h0 h1 h
    unfold ckParts at h
    cases h
  | succ i ih =>
    intro part B s p hb0 hb1 hs h0 h1 h
    obtain ⟨a1, a2⟩ := parts_aft h
    have hb := ckPart_bd (t := t) hB f p h0 h1
    unfold evGath
    refine Gd.bind (gd_part hn hC hG hB hA hf ⟨hb0, by omega⟩ hs h0 h1 a1 a2.stop) (fun r hr => ?_)
    rw [hr.2]
    by_cases h44 : lk t n (ckPart t n fac f p).2 = 44
    · rw [if_pos h44]
      have hl := lk_pos (t := t) (n := n) (p := (ckPart t n fac f p).2) (by omega)
      rcases a2 with q | ⟨_, part', q1, q2⟩
      · omega
      · rw [← q2]
        exact ih (by omega) (by omega) hr.1 (by omega) (by omega) q1
    · rw [if_neg h44]
      refine Gd.pure ⟨pv_fin hr.1, ?_⟩
      rcases a2 with q | q
      · exact q.2.symm
      · exact absurd q.1 h44
theorem gd_fun (hn : 0 ≤ n ∧ n ≤ 30) (hF : SkF t n fac) (hC : CellF t n fac) (hG : GF t n fac evf) (hB : Bd n fac) (hA : Adv n fac) {f : Nat} (hf : f < 9) {p : Int} (h0 : 0 ≤ p) (h1 : p ≤ n) (h : (ckParts t n fac f (am_most.getD f 0).toNat 1 p).1 = true) : Gd (PQ (ckParts t n fac f (am_most.getD f 0).toNat 1 p).2) (evFun t n evf f p) := by
  unfold evFun
  split
  · exact gd_choose hn hF hG hB hA (by omega) h0 h1 h
  · split
    · exact gd_comb hn hG hB hA (by omega) h0 h1 h
    · have := tab_least f hf
      exact gd_gath hn hC hG hB hA (by omega) _ (B := 0) (by decide) (by omega) (Or.inl rfl) h0 h1 h
theorem gd_call (hn : 0 ≤ n ∧ n ≤ 30) (hF : SkF t n fac) (hC : CellF t n fac) (hG : GF t n fac evf) (hB : Bd n fac) (hA : Adv n fac) {p : Int} (h0 : 0 ≤ p) (h1 : p ≤ n) (i : Nat) : ∀ (f : Nat) (r : Int), i + f = 9 → (ckCall t n fac i f r p).1 = true → Gd (PQ (ckCall t n fac i f r p).2) (evCall t n evf i f p) := by
  induction i with
  | zero =>
    intro f r _ h
    unfold ckCall at h
    cases h
  | succ i ih =>
    intro f r hif h
    unfold ckCall at h ⊢
    unfold evCall
    by_cases hm : ckMt t n (nmS f) p = ((nmS f).length : Int)
    · rw [if_pos hm] at h ⊢
      have hin := ckMt_in (t := t) (n := n) (nmS f) (nmS_ne f (by omega)) p h1
      have hbd := ckMt_bd (t := t) (n := n) (nmS f) p
      rw [if_pos hm]
      exact gd_fun hn hF hC hG hB hA (by omega) (by omega) hin h
    · rw [if_neg hm] at h ⊢
      rw [if_neg hm]
      exact ih (f + 1) _ (by omega) h
theorem cell_fac (k : Nat) : CellF t n (ckFac t n k) := by
  intro p hc h
  cases k with
  | zero =>
    unfold ckFac at h
    cases h
  | succ k =>
    unfold ckFac
    rw [if_neg (by omega), if_neg (by omega), if_neg (by omega), if_pos hc]
theorem gd_fac (hn : 0 ≤ n ∧ n ≤ 30) (k : Nat) : GF t n (ckFac t n k) (evFac t n k) := by
  induction k with
  | zero =>
    intro p h0 h1 h
    unfold ckFac at h
    cases h
  | succ k ih =>
    intro p h0 h1 h
    have hB := ckFac_bd (t := t) hn.1 k
    have hA : Adv n (ckFac t n k) := ckFac_adv hn k
    have hF := sk_fac (t := t) hn.1 k
    unfold ckFac at h ⊢
    unfold evFac
    by_cases q1 : lk t n p = 45
    · have hl := lk_pos (t := t) (n := n) (p := p) (by omega)
      rw [if_pos q1] at h ⊢
      rw [if_pos q1]
      exact Gd.bind (ih (p + 1) (by omega) (by omega) h) (fun r hr => Gd.pure ⟨⟨by have := hr.1; dsimp only; omega, by have := hr.1; dsimp only; omega⟩, hr.2⟩)
    · rw [if_neg q1] at h ⊢
      rw [if_neg q1]
      by_cases q2 : lk t n p = 40
      · have hl := lk_pos (t := t) (n := n) (p := p) (by omega)
        rw [if_pos q2] at h ⊢
        rw [if_pos q2]
        by_cases hf : (ckFrm t n (ckFac t n k) 30 (p + 1)).1 = true
        · rw [if_pos hf] at h ⊢
          by_cases q3 : lk t n (ckFrm t n (ckFac t n k) 30 (p + 1)).2 = 41
          · rw [if_pos q3]
            exact Gd.bind (gd_frm hn ih hB hA (p + 1) (by omega) (by omega) hf) (fun r hr => Gd.pure ⟨hr.1, by rw [hr.2]⟩)
          · rw [if_neg q3] at h
            cases h
        · rw [if_neg hf] at h
          cases h
      · rw [if_neg q2] at h ⊢
        rw [if_neg q2]
        by_cases q3 : isDig (lk t n p)
        · rw [if_pos q3]
          rw [if_pos q3]
          obtain ⟨b1, b2, b3⟩ := gd_num (t := t) (n := n) 6 p 0 (by decide)
          have := b3 1 (by decide)
          exact Gd.pure ⟨⟨by omega, by omega⟩, b1⟩
        · rw [if_neg q3] at h ⊢
          rw [if_neg q3]
          by_cases q4 : isCol (lk t n p) ∧ isRow (lk t n (p + 1))
          · rw [if_pos q4]
            rw [if_pos q4]
            exact Gd.bind (gd_read (by unfold cellAt; omega)) (fun v hv => Gd.pure ⟨hv, rfl⟩)
          · rw [if_neg q4] at h ⊢
            rw [if_neg q4]
            exact gd_call hn hF (cell_fac k) ih hB hA h0 h1 9 0 _ rfl h
end GD
