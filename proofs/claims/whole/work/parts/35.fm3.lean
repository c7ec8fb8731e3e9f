/-! ===== the reference's checker runs as ck does ===== -/
section SIM
variable {w0 : Wd} {m n p δ ia wa is : Int} {k q : Int → Int} {t : Int → Int} {K : Int → Wd → Prop} {fac : Int → Bool × Int}
abbrev Run (w0 : Wd) (K : Int → Wd → Prop) (g p δ ia wa is : Int) (k q : Int → Int) : Prop := W_X9_faultOf 10 52 [some (.inr (.inr 115)), some (.inl g)] [] (fw w0 p δ ia wa is k q) K
def Bad (w0 : Wd) (K : Int → Wd → Prop) (p : Int) : Prop := ∀ δ ia wa is k q, K p (fw w0 p δ ia wa is k q)
theorem run_fin (hT : TxM w0 t n) (hn : ¬ n = 0) (h : ¬ wa = 0 ∨ ¬ p = n ∨ ¬ δ = 0) (kk : Bad w0 K p) : Run w0 K 0 p δ ia wa is k q := by
  refine v_X9_faultOf_52 ⟨fun _ => ?_, fun z => absurd rfl z⟩
  simp only [fw_4, fw_26, fw_24, fw_23, hT.1]
  exact ⟨fun z => absurd z hn, fun _ => ⟨fun _ => kk _ _ _ _ _ _, fun z2 => ⟨fun _ => kk _ _ _ _ _ _, fun z3 => ⟨fun _ => kk _ _ _ _ _ _, fun z4 => absurd h (by omega)⟩⟩⟩⟩
theorem run_wants (h : C_X9_readFactor 10 [.inr (.inr 115)] (fw w0 p δ ia 1 is k q) (fun x w => W_X9_faultOf 10 52 [some (.inr (.inr 115)), some (.inl x)] [] w K)) : Run w0 K 1 p δ ia 1 is k q := by
  refine v_X9_faultOf_52 ⟨fun z => absurd z (by decide), fun _ => ?_⟩
  rw [fw_26]
  exact ⟨fun z => absurd z (by decide), fun _ => h⟩
theorem run_end (hT : TxM w0 t n) (h1 : n ≤ p) (h : Run w0 K 0 p δ ia 0 is k q) : Run w0 K 1 p δ ia 0 is k q := by
  refine v_X9_faultOf_52 ⟨fun z => absurd z (by decide), fun _ => ?_⟩
  simp only [fw_26, fw_4, fw_24, hT.1]
  exact ⟨fun _ => ⟨fun _ => h, fun z => absurd h1 z⟩, fun z => absurd trivial z⟩
theorem run_behind (hT : TxM w0 t n) (h1 : p < n) (h : C_X9_readBehind 10 [.inr (.inr 115)] (fw w0 p δ ia 0 is k q) (fun x w => ((x = 0 → W_X9_faultOf 10 52 [some (.inr (.inr 115)), some (.inl 0)] [] w K) ∧ (¬ x = 0 → W_X9_faultOf 10 52 [some (.inr (.inr 115)), some (.inl 1)] [] w K)))) : Run w0 K 1 p δ ia 0 is k q := by
  refine v_X9_faultOf_52 ⟨fun z => absurd z (by decide), fun _ => ?_⟩
  simp only [fw_26, fw_4, fw_24, hT.1]
  exact ⟨fun _ => ⟨fun z => absurd z (by omega), fun _ => h⟩, fun z => absurd trivial z⟩
/-- an operator behind a value -/
theorem run_op (hT : TxM w0 t n) (h0 : 0 ≤ p) (hδ : 0 ≤ δ ∧ δ < 39) (hq : 0 ≤ q δ ∧ q δ ≤ 10) (hop : lk t n p = 42 ∨ lk t n p = 43 ∨ lk t n p = 45) (h : Run w0 K 1 (p + 1) δ 0 1 is k q) : Run w0 K 1 p δ 0 0 is k q := by
  have hp := lk_pos (t := t) (n := n) (p := p) (by omega)
  have hl := hr_lk (t := t) (n := n) h0
  exact run_behind hT hp.2 (m_readBehind (by decide) hT h0 hp.2 hδ hq (fun _ _ => am_b1 h) (fun _ z => absurd rfl z) (fun z => by omega) (fun z => by omega) (fun z => by omega))
def PreF (t : Int → Int) (n p δ is : Int) (k q : Int → Int) : Prop := (0 ≤ p ∧ p ≤ n) ∧ (0 ≤ δ ∧ δ ≤ p) ∧ k δ ≠ 10 ∧ (0 ≤ q δ ∧ q δ ≤ 10) ∧ (¬ is = 0 → 1 ≤ δ ∧ ¬ ((isCol (lk t n p) ∧ isRow (lk t n (p + 1))) ∧ lk t n (p + 2) = 58))
def Ag (δ : Int) (k q k' q' : Int → Int) : Prop := ∀ j, j ≤ δ → k' j = k j ∧ q' j = q j
theorem Ag.refl : Ag δ k q k q := fun _ _ => ⟨rfl, rfl⟩
theorem Ag.trans {k1 q1 k2 q2 : Int → Int} (h1 : Ag δ k q k1 q1) (h2 : Ag δ k1 q1 k2 q2) : Ag δ k q k2 q2 := fun j hj => ⟨(h2 j hj).1.trans (h1 j hj).1, (h2 j hj).2.trans (h1 j hj).2⟩
theorem Ag.fu {a b : Int} : Ag δ k q (fu k (δ + 1) a) (fu q (δ + 1) b) := fun j hj => ⟨fu_ne (by omega), fu_ne (by omega)⟩
theorem Ag.less {k1 q1 : Int → Int} {δ' : Int} (h : Ag δ k q k1 q1) (hd : δ' ≤ δ) : Ag δ' k q k1 q1 := fun j hj => h j (by omega)
def SimF (m : Int) (fac : Int → Bool × Int) (w0 : Wd) (t : Int → Int) (n : Int) (K : Int → Wd → Prop) : Prop := ∀ p δ ia is k q, m ≤ p → PreF t n p δ is k q →
  ((fac p).1 = true → ∀ k' q', Ag δ k q k' q' → Run w0 K 1 (fac p).2 δ 0 0 0 k' q') → ((fac p).1 = false → Bad w0 K (fac p).2) → Run w0 K 1 p δ ia 1 is k q
def Adv (n : Int) (fac : Int → Bool × Int) : Prop := ∀ p, 0 ≤ p → p ≤ n → (fac p).1 = true → p + 1 ≤ (fac p).2
theorem PreF.next {p2 : Int} {k' q' : Int → Int} (h : PreF t n p δ is k q) (hp : p ≤ p2 ∧ p2 ≤ n) (ha : Ag δ k q k' q') : PreF t n p2 δ 0 k' q' := by
  obtain ⟨h1, h2, h3, h4, h5⟩ := h
  have := ha δ (Int.le_refl δ)
  exact ⟨⟨by omega, hp.2⟩, ⟨h2.1, by omega⟩, by rw [this.1]; exact h3, by rw [this.2]; exact h4, fun z => absurd rfl z⟩
theorem sim_prd (hT : TxM w0 t n) (hF : SimF m fac w0 t n K) (hB : Bd n fac) (hA : Adv n fac) : ∀ (i : Nat) (p δ ia is : Int) (k q : Int → Int), m ≤ p → 60 ≤ p + 2 * i → PreF t n p δ is k q →
    ((ckPrd t n fac i p).1 = true → lk t n (ckPrd t n fac i p).2 ≠ 42 → ∀ k' q', Ag δ k q k' q' → Run w0 K 1 (ckPrd t n fac i p).2 δ 0 0 0 k' q') → ((ckPrd t n fac i p).1 = false → Bad w0 K (ckPrd t n fac i p).2) → Run w0 K 1 p δ ia 1 is k q := by
  have hn := hT.2.1
  intro i
  induction i with
  | zero =>
    intro p δ ia is k q hm hi hP
    have := hP.1
    omega
  | succ i ih =>
    intro p δ ia is k q hm hi hP ok bad
    have hb := hB p hP.1.1 hP.1.2
    refine hF p δ ia is k q hm hP (fun hf k' q' hag => ?_) (fun hf => ?_)
    · have ha := hA p hP.1.1 hP.1.2 hf
      unfold ckPrd at ok bad
      rw [if_pos hf] at ok bad
      by_cases h42 : lk t n (fac p).2 = 42
      · rw [if_pos h42] at ok bad
        have hp2 := lk_pos (t := t) (n := n) (p := (fac p).2) (by omega)
        have hP1 : PreF t n (fac p).2 δ 0 k' q' := hP.next hb hag
        have hP2 : PreF t n ((fac p).2 + 1) δ 0 k' q' := hP.next ⟨by omega, by omega⟩ hag
        refine run_op hT (by omega) ⟨hP1.2.1.1, by have := hP1.2.1.2; omega⟩ hP1.2.2.2.1 (Or.inl h42) (ih _ _ _ _ _ _ (by omega) (by omega) hP2 (fun h1 h2 k2 q2 hag2 => ok h1 h2 k2 q2 (hag.trans hag2)) bad)
      · rw [if_neg h42] at ok
        exact ok rfl h42 k' q' hag
    · unfold ckPrd at bad
      rw [if_neg (by rw [hf]; decide)] at bad
      exact bad rfl
theorem ckPrd_adv (hB : Bd n fac) (hA : Adv n fac) (hn : n ≤ 30) : ∀ (i : Nat) (p : Int), 0 ≤ p → p ≤ n → 60 ≤ p + 2 * i → (ckPrd t n fac i p).1 = true → p + 1 ≤ (ckPrd t n fac i p).2 := by
  intro i
  cases i with
  | zero => intro p h0 h1 h2; omega
  | succ i =>
    intro p h0 h1 h2 h3
    have hb := hB p h0 h1
    unfold ckPrd at h3 ⊢
    by_cases hf : (fac p).1 = true
    · have ha := hA p (by omega) (by omega) hf
      rw [if_pos hf] at h3 ⊢
      by_cases h42 : lk t n (fac p).2 = 42
      · rw [if_pos h42] at h3 ⊢
        have hp2 := lk_pos (t := t) (n := n) (p := (fac p).2) (by omega)
        have := ckPrd_bd (t := t) hB i ((fac p).2 + 1) (by omega) (by omega)
        omega
      · rw [if_neg h42]
        exact ha
    · rw [if_neg hf] at h3
      cases h3
theorem sim_frm (hT : TxM w0 t n) (hF : SimF m fac w0 t n K) (hB : Bd n fac) (hA : Adv n fac) : ∀ (i : Nat) (p δ ia is : Int) (k q : Int → Int), m ≤ p → 60 ≤ p + 2 * i → PreF t n p δ is k q →
    ((ckFrm t n fac i p).1 = true → ¬ (lk t n (ckFrm t n fac i p).2 = 42 ∨ lk t n (ckFrm t n fac i p).2 = 43 ∨ lk t n (ckFrm t n fac i p).2 = 45) → ∀ k' q', Ag δ k q k' q' → Run w0 K 1 (ckFrm t n fac i p).2 δ 0 0 0 k' q') → ((ckFrm t n fac i p).1 = false → Bad w0 K (ckFrm t n fac i p).2) → Run w0 K 1 p δ ia 1 is k q := by
  have hn := hT.2.1
  intro i
  induction i with
  | zero =>
    intro p δ ia is k q hm hi hP
    have := hP.1
    omega
  | succ i ih =>
    intro p δ ia is k q hm hi hP ok bad
    have hb := ckPrd_bd (t := t) hB 30 p hP.1.1 hP.1.2
    have hp0 := hP.1
    refine sim_prd hT hF hB hA 30 p δ ia is k q hm (by omega) hP (fun hf h42 k' q' hag => ?_) (fun hf => ?_)
    · have ha := ckPrd_adv (t := t) hB hA hn.2 30 p hp0.1 hp0.2 (by omega) hf
      unfold ckFrm at ok bad
      rw [if_pos hf] at ok bad
      by_cases hop : lk t n (ckPrd t n fac 30 p).2 = 43 ∨ lk t n (ckPrd t n fac 30 p).2 = 45
      · rw [if_pos hop] at ok bad
        have hp2 := lk_pos (t := t) (n := n) (p := (ckPrd t n fac 30 p).2) (by omega)
        have hP1 : PreF t n (ckPrd t n fac 30 p).2 δ 0 k' q' := hP.next hb hag
        have hP2 : PreF t n ((ckPrd t n fac 30 p).2 + 1) δ 0 k' q' := hP.next ⟨by omega, by omega⟩ hag
        refine run_op hT (by omega) ⟨hP1.2.1.1, by have := hP1.2.1.2; omega⟩ hP1.2.2.2.1 (Or.inr hop) (ih _ _ _ _ _ _ (by omega) (by omega) hP2 (fun h1 h2 k2 q2 hag2 => ok h1 h2 k2 q2 (hag.trans hag2)) bad)
      · rw [if_neg hop] at ok
        refine ok rfl (fun z => ?_) k' q' hag
        rcases z with z | z
        · exact h42 z
        · exact hop z
    · unfold ckFrm at bad
      rw [if_neg (by rw [hf]; decide)] at bad
      exact bad rfl
theorem hp_f {f : Nat} (hf : f < 9) : hp ((f : Int) + 2) = if 5 ≤ f then 1 else 0 := by
  unfold hp
  by_cases h : 5 ≤ f
  · rw [if_pos h, if_pos (by omega)]
  · rw [if_neg h, if_neg (by omega)]
/-- a part of a function -/
theorem sim_part {f : Nat} (hT : TxM w0 t n) (hF : SimF m fac w0 t n K) (hB : Bd n fac) (hA : Adv n fac) (hn0 : ¬ n = 0) (hf : f < 9) (p δ ia : Int) (k q : Int → Int) (hm : m ≤ p) (hpn : 0 ≤ p ∧ p ≤ n) (hδ : 1 ≤ δ ∧ δ ≤ p) (hk : k δ = (f : Int) + 2) (hq : 0 ≤ q δ ∧ q δ ≤ 10)
    (ok : (ckPart t n fac f p).1 = true → ∀ ia', (ia' = 0 → ¬ (lk t n (ckPart t n fac f p).2 = 42 ∨ lk t n (ckPart t n fac f p).2 = 43 ∨ lk t n (ckPart t n fac f p).2 = 45)) → ∀ k' q', Ag δ k q k' q' → Run w0 K 1 (ckPart t n fac f p).2 δ ia' 0 0 k' q') (bad : (ckPart t n fac f p).1 = false → Bad w0 K (ckPart t n fac f p).2) : Run w0 K 1 p δ ia 1 (hp ((f : Int) + 2)) k q := by
  have hn := hT.2.1
  by_cases ha : ckIsArea t n f p = true
  · have e : ckPart t n fac f p = ckArea t n p := if_pos ha
    rw [e] at ok bad
    have ha2 := of_decide_eq_true ha
    by_cases h8 : f = 8
    · refine run_wants (m_readCount (by decide) hT hpn.1 hpn.2 ⟨by omega, by omega⟩ (by rw [hk, h8]; rfl) ?_)
      by_cases hc : (ckArea t n p).1 = true
      · rw [hc]
        exact ok hc 1 (fun z => absurd z (by decide)) k q Ag.refl
      · rw [bt hc]
        exact run_fin hT hn0 (Or.inr (Or.inr (by omega))) (bad (bt hc))
    · have ha3 : 5 ≤ f ∧ (isCol (lk t n p) ∧ isRow (lk t n (p + 1))) ∧ lk t n (p + 2) = 58 := by
        rcases ha2 with z | z
        · exact absurd z h8
        · exact z
      have his : hp ((f : Int) + 2) = 1 := by rw [hp_f hf, if_pos ha3.1]
      rw [his]
      refine run_wants (m_readFactor (by decide) hT hpn.1 hpn.2 ⟨by omega, by omega⟩ (by omega) (fun _ z => absurd z (by decide)) (fun _ _ ia' hia => ?_) (fun z => absurd z (by have := ha3.2.1.1; omega)) (fun z => absurd z (by have := ha3.2.1.1; omega)) (fun z => absurd z (by have := ha3.2.1.1; omega)) (fun z => absurd ha3.2.1 z) (fun z => absurd ha3.2.1 z))
      by_cases hc : (ckArea t n p).1 = true
      · rw [hc]
        refine ok hc ia' (fun z => ?_) k q Ag.refl
        have := hia hc
        rw [if_pos ha3.2.2] at this
        omega
      · rw [bt hc]
        exact run_fin hT hn0 (Or.inr (Or.inr (by omega))) (bad (bt hc))
  · have e : ckPart t n fac f p = ckFrm t n fac 30 p := if_neg ha
    rw [e] at ok bad
    have ha2 := of_decide_eq_false (bt ha)
    refine sim_frm hT hF hB hA 30 p δ ia _ k q hm (by omega) ⟨hpn, ⟨by omega, hδ.2⟩, by omega, hq, fun z => ⟨hδ.1, fun z2 => ?_⟩⟩ (fun h1 h2 k' q' hag => ok h1 0 (fun _ => h2) k' q' hag) bad
    refine ha2 (Or.inr ⟨?_, z2⟩)
    rw [hp_f hf] at z
    by_cases h5 : 5 ≤ f
    · exact h5
    · rw [if_neg h5] at z
      exact absurd rfl z
theorem mMost_f : ∀ f : Nat, f < 9 → mMost ((f : Int) + 2) = am_most.getD f 0 - 1 := by decide
theorem mMay_f {f : Nat} {y : Int} (hf : f < 9) (h0 : 0 ≤ y) (h1 : y + 1 ≤ am_most.getD f 0) : mMay ((f : Int) + 2) y ↔ am_least.getD f 0 ≤ y + 1 := by
  unfold mMay
  have : f = 0 ∨ f = 1 ∨ f = 2 ∨ f = 3 ∨ f = 4 ∨ f = 5 ∨ f = 6 ∨ f = 7 ∨ f = 8 := by omega
  rcases this with rfl | rfl | rfl | rfl | rfl | rfl | rfl | rfl | rfl <;> simp [am_least, am_most] at h1 ⊢ <;> omega
theorem sim_parts {f : Nat} (hT : TxM w0 t n) (hF : SimF m fac w0 t n K) (hB : Bd n fac) (hA : Adv n fac) (hn0 : ¬ n = 0) (hf : f < 9) : ∀ (i : Nat) (part p δ ia : Int) (k q : Int → Int), part + i = am_most.getD f 0 + 1 → part ≤ am_most.getD f 0 → 1 ≤ part → m ≤ p → (0 ≤ p ∧ p ≤ n) → (1 ≤ δ ∧ δ ≤ p) → k δ = (f : Int) + 2 → q δ = part - 1 →
    ((ckParts t n fac f i part p).1 = true → ∀ k' q', Ag (δ - 1) k q k' q' → Run w0 K 1 (ckParts t n fac f i part p).2 (δ - 1) 0 0 0 k' q') → ((ckParts t n fac f i part p).1 = false → Bad w0 K (ckParts t n fac f i part p).2) → Run w0 K 1 p δ ia 1 (hp ((f : Int) + 2)) k q := by
  have hn := hT.2.1
  have htab := tab_least f hf
  have hMM := mMost_f f hf
  intro i
  induction i with
  | zero =>
    intro part p δ ia k q hi hpm
    omega
  | succ i ih =>
    intro part p δ ia k q hi hpm hp1 hm hpn hδ hk hq ok bad
    have hb := ckPart_bd (t := t) hB f p hpn.1 hpn.2
    refine sim_part hT hF hB hA hn0 hf p δ ia k q hm hpn hδ hk (by omega) (fun hc ia' hia k' q' hag => ?_) (fun hc => ?_)
    · unfold ckParts at ok bad
      rw [if_pos hc] at ok bad
      have hk' := (hag δ (Int.le_refl δ)).1
      have hq' := (hag δ (Int.le_refl δ)).2
      have hl := hr_lk (t := t) (n := n) (p := (ckPart t n fac f p).2) (by omega)
      have hmay := mMay_f (f := f) (y := part - 1) hf (by omega) (by omega)
      by_cases hend : n ≤ (ckPart t n fac f p).2
      · rw [if_neg (by omega)] at bad
        refine run_end hT hend (run_fin hT hn0 (Or.inr (Or.inr (by omega))) ?_)
        by_cases hm : part = am_most.getD f 0
        · rw [if_pos hm] at bad
          exact bad rfl
        · rw [if_neg hm, if_neg (by omega)] at bad
          exact bad rfl
      · refine run_behind hT (by omega) (m_readBehind (by decide) hT (by omega) (by omega) ⟨by omega, by omega⟩ (by omega) (fun z1 z2 => absurd (hia z2) (by omega)) (fun z1 z2 => ?_) (fun z1 z2 => ?_) (fun z1 z2 => ?_) (fun z1 z2 z3 => ?_))
        · refine am_b0 (run_fin hT hn0 (Or.inr (Or.inr (by omega))) ?_)
          rw [if_neg (by omega)] at bad
          by_cases hm : part = am_most.getD f 0
          · rw [if_pos hm] at bad
            exact bad rfl
          · rw [if_neg hm, if_neg (by omega)] at bad
            exact bad rfl
        · rw [hk', hk, hMM, hq', hq] at z2
          rw [if_neg (by omega), if_neg (by omega), if_pos (by omega)] at ok bad
          rw [hk', hk, hq', hq]
          refine am_b1 (ih (part + 1) _ δ 0 k' (fu q' δ (part - 1 + 1)) (by omega) (by omega) (by omega) (by omega) ⟨by omega, by omega⟩ ⟨hδ.1, by omega⟩ (by rw [hk', hk]) (by rw [fu_same]; omega) (fun h1 k2 q2 hag2 => ok h1 k2 q2 ?_) bad)
          intro j hj
          have a1 := hag j (by omega)
          have a2 := hag2 j hj
          rw [fu_ne (by omega)] at a2
          exact ⟨a2.1.trans a1.1, a2.2.trans a1.2⟩
        · rw [hk', hk, hq', hq, hmay] at z2
          rw [if_pos (by omega)] at ok
          exact am_b1 (ok rfl k' q' (hag.less (by omega)))
        · rw [hk', hk, hMM, hq', hq] at z2
          rw [hk', hk, hq', hq, hmay] at z3
          rw [if_neg (by omega)] at bad
          refine am_b0 (run_fin hT hn0 (Or.inr (Or.inr (by omega))) ?_)
          by_cases hm : part = am_most.getD f 0
          · rw [if_pos hm] at bad
            exact bad rfl
          · rw [if_neg hm, if_neg (by omega)] at bad
            exact bad rfl
    · unfold ckParts at bad
      rw [if_neg (by rw [hc]; decide)] at bad
      exact bad rfl
end SIM
