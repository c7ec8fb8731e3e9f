/-! ===== the reference's checker: a factor, what is behind ===== -/
section FM2
variable {d : Nat} {w w0 : Wd} {n p δ ia wa is : Int} {k q : Int → Int} {t : Int → Int} {K : Int → Wd → Prop} {KV : Wd → Prop}
def mMost (x : Int) : Int := if x = 2 then 2 else if x = 3 then 4 else if 4 ≤ x ∧ x ≤ 6 then 1 else if 7 ≤ x ∧ x ≤ 10 then 3 else 0
def mMay (x y : Int) : Prop := x = 1 ∨ (7 ≤ x ∧ x ≤ 10) ∨ (x = 2 ∧ y = 2) ∨ (x = 3 ∧ 0 < y) ∨ ((4 ≤ x ∧ x ≤ 6) ∧ y = 1)
def hp (x : Int) : Int := if 7 ≤ x ∧ x ≤ 10 then 1 else 0
theorem m_mostParts {x : Int} (hd : 3 ≤ d) (kk : K (mMost x) w) : C_X9_mostParts d [.inl x] w K := by
  unfold mMost at kk
  refine ⟨2, hd, e_X9_mostParts ⟨fun z => ⟨fun z2 => m_in (by decide) (fun z3 => am_b1 ?_) (fun z3 => am_b0 (m_hasParts (by decide) ?_)), fun z2 => ?_⟩, fun z => ?_⟩⟩
  · rw [if_neg z, if_neg z2, if_pos z3] at kk
    exact kk
  · rw [if_neg z, if_neg z2, if_neg z3] at kk
    by_cases h : 7 ≤ x ∧ x ≤ 10
    · rw [if_pos h] at kk ⊢
      exact am_b1 kk
    · rw [if_neg h] at kk ⊢
      exact am_b0 kk
  · rw [if_neg z, if_pos z2] at kk
    exact kk
  · rw [if_pos z] at kk
    exact kk
theorem m_mayClose {x y : Int} (hd : 3 ≤ d) (kt : mMay x y → K 1 w) (kf : ¬ mMay x y → K 0 w) : C_X9_mayClose d [.inl x, .inl y] w K := by
  unfold mMay at kt kf
  have twos : ¬ (x = 1) → ¬ (7 ≤ x ∧ x ≤ 10) → ¬ (x = 2 ∧ y = 2) → ¬ (x = 3 ∧ 0 < y) → C_X9_in 2 [.inl x, .inl 4, .inl 6] w (fun x2 w2 => ((x2 = 0 → K 0 w2) ∧ (¬ x2 = 0 → ((¬ y = 1 → K 0 w2) ∧ (y = 1 → K 1 w2))))) := by
    intro z1 z2 z3 z4
    refine m_in (by decide) (fun z5 => am_b1 ⟨fun z6 => kf (by omega), fun z6 => kt (by omega)⟩) (fun z5 => am_b0 (kf (by omega)))
  refine ⟨2, hd, e_X9_mayClose ⟨fun z => kt (Or.inl z), fun z => m_hasParts (by decide) ?_⟩⟩
  by_cases h : 7 ≤ x ∧ x ≤ 10
  · rw [if_pos h]
    exact am_c1 (kt (by omega))
  · rw [if_neg h]
    refine am_c0 ⟨fun z2 => ⟨fun z3 => twos z h (by omega) (by omega), fun z3 => ⟨fun z4 => kt (by omega), fun z4 => twos z h (by omega) (by omega)⟩⟩, fun z2 => ⟨fun z3 => kt (by omega), fun z3 => ⟨fun z4 => twos z h (by omega) (by omega), fun z4 => absurd z4 (by omega)⟩⟩⟩
theorem m_readBehind (hd : 5 ≤ d) (hT : TxM w0 t n) (h0 : 0 ≤ p) (h1 : p < n) (hδ : 0 ≤ δ ∧ δ < 39) (hq : 0 ≤ q δ ∧ q δ ≤ 10)
    (kop : (t p = 42 ∨ t p = 43 ∨ t p = 45) → ia = 0 → K 1 (fw w0 (p + 1) δ ia 1 is k q)) (knop : (t p = 42 ∨ t p = 43 ∨ t p = 45) → ¬ ia = 0 → K 0 (fw w0 p δ ia wa is k q))
    (kcom : t p = 44 → q δ < mMost (k δ) → K 1 (fw w0 (p + 1) δ 0 1 (hp (k δ)) k (fu q δ (q δ + 1)))) (kcl : t p = 41 → mMay (k δ) (q δ) → K 1 (fw w0 (p + 1) (δ - 1) 0 wa is k q))
    (kno : ¬ (t p = 42 ∨ t p = 43 ∨ t p = 45) → ¬ (t p = 44 ∧ q δ < mMost (k δ)) → ¬ (t p = 41 ∧ mMay (k δ) (q δ)) → K 0 (fw w0 p δ ia wa is k q)) : C_X9_readBehind d [.inr (.inr 115)] (fw w0 p δ ia wa is k q) K := by
  have hn := hT.2.1
  have hh : hr t n p = t p := if_neg (by omega)
  have hδ4 : 0 ≤ δ ∧ δ < 40 := ⟨hδ.1, by omega⟩
  have op : (t p = 42 ∨ t p = 43 ∨ t p = 45) → ((ia = 0 → (-2147483648 ≤ (p + 1) ∧ (p + 1) ≤ 2147483647) ∧ (∀ w2, w2 = wset (fw w0 p δ ia wa is k q) 115 24 (p + 1) → (∀ w3, w3 = wset w2 115 26 1 → K 1 w3))) ∧ (¬ ia = 0 → K 0 (fw w0 p δ ia wa is k q))) := by
    intro hc
    refine ⟨fun z => ⟨⟨by omega, by omega⟩, fun w2 e2 w3 e3 => ?_⟩, fun z => knop hc z⟩
    rw [e3, e2, fs_24, fs_26]
    exact kop hc z
  refine ⟨4, hd, e_X9_readBehind (m_here (by decide) hT h0 ?_)⟩
  rw [hh]
  simp only [fw_23, fw_24, fw_25, fw_k, fw_q]
  refine ⟨hδ4, fun z => op (Or.inl z), fun z => ⟨fun z2 => op (Or.inr (Or.inl z2)), fun z2 => ⟨fun z3 => ⟨fun z4 => ⟨fun z5 => kno (by omega) (fun a => z4 a.1) (fun a => z5 a.1), fun z5 => ⟨hδ4, m_mayClose (by decide) (fun z6 => ?_) (fun z6 => am_b0 (kno (by omega) (fun a => z4 a.1) (fun a => z6 a.2)))⟩⟩, fun z4 => ⟨hδ4, m_mostParts (by decide) ⟨fun z5 => ?_, fun z5 => ?_⟩⟩⟩, fun z3 => op (Or.inr (Or.inr z3))⟩⟩⟩
  · refine am_b1 ?_
    rw [fw_24]
    refine ⟨⟨by omega, by omega⟩, fun w7 e7 => ?_⟩
    rw [e7, fs_24, fw_23]
    refine ⟨⟨by omega, by omega⟩, fun w8 e8 w9 e9 => ?_⟩
    rw [e9, e8, fs_23, fs_25]
    exact kcl z5 z6
  · exact ⟨fun z6 => kno (by omega) (fun a => by omega) (fun a => by omega), fun z6 => absurd z6 (by omega)⟩
  · rw [fw_24]
    refine ⟨⟨by omega, by omega⟩, fun w15 e15 => ?_⟩
    rw [e15, fs_24, fw_23, fw_q]
    refine ⟨hδ4, ⟨by omega, by omega⟩, hδ4, fun w16 e16 w17 e17 => ?_⟩
    rw [e17, e16, fs_q, fs_26]
    refine m_hasParts (by decide) ⟨by split <;> simp, fun w19 e19 w20 e20 => ?_⟩
    rw [e20, e19, fs_27, fs_25]
    exact kcom z4 (by omega)
theorem m_readName (hd : 5 ≤ d) (hT : TxM w0 t n) (h0 : 0 ≤ p) (h1 : p ≤ n) (hδ : 0 ≤ δ ∧ δ < 39)
    (kf : ∀ f : Nat, f < 9 → (∀ fac, ckCall t n fac 9 0 (if isCol (lk t n p) then 1 else 0) p = ckParts t n fac f (am_most.getD f 0).toNat 1 (p + ckMt t n (nmS f) p)) → ckMt t n (nmS f) p = ((nmS f).length : Int) → K 1 (fw w0 (p + ckMt t n (nmS f) p) (δ + 1) ia wa (hp ((f : Int) + 2)) (fu k (δ + 1) ((f : Int) + 2)) (fu q (δ + 1) 0)))
    (kn : ∀ r : Int, 0 ≤ r → p + r ≤ n → (∀ fac, ckCall t n fac 9 0 (if isCol (lk t n p) then 1 else 0) p = (false, p + r)) → K 0 (fw w0 (p + r) δ ia wa is k q)) : C_X9_readName d [.inr (.inr 115)] (fw w0 p δ ia wa is k q) K := by
  have hn := hT.2.1
  refine ⟨4, hd, e_X9_readName ?_⟩
  have go : ∀ (i f : Nat) (r : Int), i + f = 9 → 0 ≤ r → p + r ≤ n → (∀ fac, ckCall t n fac 9 0 (if isCol (lk t n p) then 1 else 0) p = ckCall t n fac i f r p) → W_X9_readName 4 18 [some (.inr (.inr 115)), some (.inl r), some (.inl ((f : Int) + 2)), none] [] (fw w0 p δ ia wa is k q) K := by
    intro i
    induction i with
    | zero =>
      intro f r hf hr hrn he
      refine v_X9_readName_18 ⟨fun _ => ?_, fun z => absurd (by omega) z⟩
      rw [fw_24]
      refine ⟨⟨by omega, by omega⟩, fun w1 e => ?_⟩
      rw [e, fs_24]
      exact kn r hr hrn (fun fac => by rw [he fac]; unfold ckCall; rfl)
    | succ i ih =>
      intro f r hf hr hrn he
      have hf9 : f < 9 := by omega
      have hm := ckMt_in (t := t) (n := n) (nmS f) (nmS_ne f hf9) p h1
      have hm2 := ckMt_bd (t := t) (n := n) (nmS f) p
      have nxt : ¬ ckMt t n (nmS f) p = ((nmS f).length : Int) → ∀ fac, ckCall t n fac 9 0 (if isCol (lk t n p) then 1 else 0) p = ckCall t n fac i (f + 1) (max r (ckMt t n (nmS f) p)) p := by
        intro hne fac
        rw [he fac]
        conv => lhs; unfold ckCall
        rw [if_neg hne]
      refine v_X9_readName_18 ⟨fun z => absurd z (by omega), fun z => m_matches (by decide) hT h0 h1 hf9 (m_sizeOf (by decide) hf9 ⟨fun z2 => ⟨fun z3 => ⟨⟨by omega, by omega⟩, ?_⟩, fun z3 => ⟨⟨by omega, by omega⟩, ?_⟩⟩, fun z2 => ?_⟩)⟩
      · have hnx := nxt z2
        rw [show max r (ckMt t n (nmS f) p) = r by omega] at hnx
        have := ih (f + 1) r (by omega) hr hrn hnx
        rw [show (((f + 1 : Nat) : Int) + 2) = (f : Int) + 2 + 1 by omega] at this
        exact this
      · have hnx := nxt z2
        rw [show max r (ckMt t n (nmS f) p) = ckMt t n (nmS f) p by omega] at hnx
        have := ih (f + 1) _ (by omega) (by omega) hm hnx
        rw [show (((f + 1 : Nat) : Int) + 2) = (f : Int) + 2 + 1 by omega] at this
        exact this
      · rw [fw_24]
        refine ⟨⟨by omega, by omega⟩, fun w4 e4 => ?_⟩
        rw [e4, fs_24]
        refine m_opens (by decide) hδ.1 hδ.2 (m_hasParts (by decide) ⟨by split <;> simp, fun w7 e7 => ?_⟩)
        rw [e7, fs_27]
        exact kf f hf9 (fun fac => by rw [he fac]; conv => lhs; unfold ckCall
                                      rw [if_pos z2]) z2
  refine m_here (by decide) hT h0 (m_isCol (by decide) (fun z => ?_) (fun z => ?_))
  · have hp := hr_lk (t := t) (n := n) h0
    have hl : isCol (lk t n p) := by omega
    refine am_b1 (go 9 0 1 rfl (by decide) (by omega) (fun fac => by rw [if_pos hl]))
  · have hp := hr_lk (t := t) (n := n) h0
    have hl : ¬ isCol (lk t n p) := by omega
    refine am_b0 (go 9 0 0 rfl (by decide) (by omega) (fun fac => by rw [if_neg hl]))
/-- a number -/
theorem m_readNum {a b : Int} (hT : TxM w0 t n) (h0 : 0 ≤ p) (h1 : p ≤ n) (hd : 3 ≤ d) (kk : K 1 (fw w0 (ckNum t n 6 p) δ ia 0 is k q)) : W_X9_readFactor d 153 [some (.inr (.inr 115)), some (.inl a), some (.inl b), some (.inl p)] [] (fw w0 p δ ia wa is k q) K := by
  have hn := hT.2.1
  have go : ∀ (f : Nat) (r : Int), r + f = p + 6 → p ≤ r → r ≤ n → K 1 (fw w0 (ckNum t n f r) δ ia 0 is k q) → W_X9_readFactor d 153 [some (.inr (.inr 115)), some (.inl a), some (.inl b), some (.inl p)] [] (fw w0 r δ ia wa is k q) K := by
    intro f
    induction f with
    | zero =>
      intro r hr hr0 hr1 hk
      refine v_X9_readFactor_153 (m_here (by omega) hT (by omega) (m_isFig (by omega) (fun z => ?_) (fun z => ?_)))
      · refine am_b1 ⟨⟨by omega, by omega⟩, ?_⟩
        rw [fw_24]
        refine ⟨fun z2 w4 e4 => ?_, fun z2 => absurd (by omega) z2⟩
        rw [e4, fs_26]
        exact hk
      · refine am_b0 (fun w3 e3 => ?_)
        rw [e3, fs_26]
        exact hk
    | succ f ih =>
      intro r hr hr0 hr1 hk
      have hp := hr_lk (t := t) (n := n) (p := r) (by omega)
      unfold ckNum at hk
      refine v_X9_readFactor_153 (m_here (by omega) hT (by omega) (m_isFig (by omega) (fun z => ?_) (fun z => ?_)))
      · rw [if_pos (by omega)] at hk
        refine am_b1 ⟨⟨by omega, by omega⟩, ?_⟩
        rw [fw_24]
        refine ⟨fun z2 => absurd z2 (by omega), fun z2 => ⟨⟨by omega, by omega⟩, fun w5 e5 => ?_⟩⟩
        rw [e5, fs_24]
        exact ih (r + 1) (by omega) (by omega) (by omega) hk
      · rw [if_neg (by omega)] at hk
        refine am_b0 (fun w3 e3 => ?_)
        rw [e3, fs_26]
        exact hk
  exact go 6 p rfl (Int.le_refl p) h1 kk
/-- readFactor, where no counting part is read: -/
theorem m_readFactor (hd : 7 ≤ d) (hT : TxM w0 t n) (h0 : 0 ≤ p) (h1 : p ≤ n) (hδ : 0 ≤ δ ∧ δ < 39) (hk10 : k δ ≠ 10)
    (kcell : isCol (lk t n p) ∧ isRow (lk t n (p + 1)) → is = 0 → K 1 (fw w0 (p + 2) δ 0 0 0 k q))
    (karea : isCol (lk t n p) ∧ isRow (lk t n (p + 1)) → ¬ is = 0 → ∀ ia', ((ckArea t n p).1 = true → ia' = if lk t n (p + 2) = 58 then 1 else 0) → K (bi (ckArea t n p).1) (fw w0 (ckArea t n p).2 δ ia' 0 0 k q))
    (kmin : lk t n p = 45 → K 1 (fw w0 (p + 1) δ 0 wa 0 k q))
    (kdig : isDig (lk t n p) → K 1 (fw w0 (ckNum t n 6 p) δ 0 0 0 k q))
    (kpar : lk t n p = 40 → K 1 (fw w0 (p + 1) (δ + 1) 0 wa 0 (fu k (δ + 1) 1) (fu q (δ + 1) 0)))
    (kf : ¬ (isCol (lk t n p) ∧ isRow (lk t n (p + 1))) → ¬ lk t n p = 45 → ¬ lk t n p = 40 → ¬ isDig (lk t n p) → ∀ f : Nat, f < 9 → (∀ fac, ckCall t n fac 9 0 (if isCol (lk t n p) then 1 else 0) p = ckParts t n fac f (am_most.getD f 0).toNat 1 (p + ckMt t n (nmS f) p)) → ckMt t n (nmS f) p = ((nmS f).length : Int) → K 1 (fw w0 (p + ckMt t n (nmS f) p) (δ + 1) 0 wa (hp ((f : Int) + 2)) (fu k (δ + 1) ((f : Int) + 2)) (fu q (δ + 1) 0)))
    (kn : ¬ (isCol (lk t n p) ∧ isRow (lk t n (p + 1))) → ¬ lk t n p = 45 → ¬ lk t n p = 40 → ¬ isDig (lk t n p) → ∀ r : Int, 0 ≤ r → p + r ≤ n → (∀ fac, ckCall t n fac 9 0 (if isCol (lk t n p) then 1 else 0) p = (false, p + r)) → K 0 (fw w0 (p + r) δ 0 wa 0 k q)) : C_X9_readFactor d [.inr (.inr 115)] (fw w0 p δ ia wa is k q) K := by
  have hn := hT.2.1
  have hp0 := hr_lk (t := t) (n := n) h0
  have hp1 := hr_lk (t := t) (n := n) (p := p + 1) (by omega)
  -- what follows where no cell stands
  have rest : ¬ (isCol (lk t n p) ∧ isRow (lk t n (p + 1))) → ((¬ (hr t n p) = 45 → C_X9_isFigure 6 [.inl (hr t n p)] (fw w0 p δ 0 wa 0 k q) (fun x3 w5 => ((x3 = 0 → ((¬ (hr t n p) = 40 → C_X9_readName 6 [.inr (.inr 115)] w5 (fun x4 w6 => (x4 = 0 ∨ x4 = 1) ∧ K x4 w6)) ∧ ((hr t n p) = 40 → (-2147483648 ≤ ((w5 115 24) + 1) ∧ ((w5 115 24) + 1) ≤ 2147483647) ∧ (∀ w7, w7 = wset w5 115 24 ((w5 115 24) + 1) → C_X9_opens 6 [.inr (.inr 115), .inl 1] w7 (fun w8 => K 1 w8))))) ∧ (¬ x3 = 0 → W_X9_readFactor 6 153 [some (.inr (.inr 115)), some (.inl is), some (.inl (hr t n p)), some (.inl (w5 115 24))] [] w5 K)))) ∧ ((hr t n p) = 45 → (-2147483648 ≤ (p + 1) ∧ (p + 1) ≤ 2147483647) ∧ (∀ w9, w9 = wset (fw w0 p δ 0 wa 0 k q) 115 24 (p + 1) → K 1 w9))) := by
    intro hnc
    refine ⟨fun z => m_isFig (by decide) (fun z2 => ?_) (fun z2 => ?_), fun z => ⟨⟨by omega, by omega⟩, fun w9 e9 => ?_⟩⟩
    · refine am_b1 ?_
      rw [fw_24]
      exact m_readNum hT h0 h1 (by decide) (kdig (by omega))
    · refine am_b0 ⟨fun z3 => ?_, fun z3 => ?_⟩
      · exact m_readName (by decide) hT h0 h1 hδ (fun f hf9 e1 e2 => ⟨Or.inr rfl, kf hnc (by omega) (by omega) (by omega) f hf9 e1 e2⟩) (fun r hr hrn e1 => ⟨Or.inl rfl, kn hnc (by omega) (by omega) (by omega) r hr hrn e1⟩)
      · rw [fw_24]
        refine ⟨⟨by omega, by omega⟩, fun w7 e7 => ?_⟩
        rw [e7, fs_24]
        exact m_opens (by decide) hδ.1 hδ.2 (kpar (by omega))
    · rw [e9, fs_24]
      exact kmin (by omega)
  refine ⟨6, hd, e_X9_readFactor ?_⟩
  simp only [fw_23, fw_k, fw_27]
  refine ⟨hδ.imp id (fun h => by clear rest; omega), fun _ => m_here (by decide) hT h0 (fun w2 e2 w3 e3 => ?_), fun z => absurd z hk10⟩
  rw [e3, e2, fs_27, fs_25]
  refine m_isCol (by decide) (fun z => ?_) (fun z => ?_)
  · refine am_b1 ?_
    simp only [fw_24, fw_4, hT.1, fw_t]
    refine ⟨⟨by clear rest; omega, by clear rest; omega⟩, fun z2 => rest (by clear rest; omega), fun z2 => ⟨⟨by clear rest; omega, by clear rest; omega⟩, ⟨by clear rest; omega, by clear rest; omega⟩, ?_⟩⟩
    rw [hT.2.2 (p + 1) (by clear rest; omega) (by clear rest; omega)]
    refine m_in (by decide) (fun z3 => ?_) (fun z3 => am_b0 (by simpa only [fw_24] using rest (by clear rest; omega)))
    refine am_b1 (fun w21 e21 => ?_)
    rw [e21, fs_26, fw_24]
    refine ⟨fun z4 => ⟨⟨by clear rest; omega, by clear rest; omega⟩, fun w22 e22 => ?_⟩, fun z4 => ?_⟩
    · rw [e22, fs_24]
      exact kcell (by clear rest; omega) z4
    · exact m_readArea (by decide) hT h0 h1 (fun ia' h => ⟨bi01 _, karea (by clear rest; omega) z4 ia' h⟩)
  · exact am_b0 (by simpa only [fw_24] using rest (by clear rest; omega))
/-- readFactor at a part that is counted -/
theorem m_readCount (hd : 7 ≤ d) (hT : TxM w0 t n) (h0 : 0 ≤ p) (h1 : p ≤ n) (hδ : 0 ≤ δ ∧ δ < 39) (hk10 : k δ = 10) (kk : K (bi (ckArea t n p).1) (fw w0 (ckArea t n p).2 δ 1 0 0 k q)) : C_X9_readFactor d [.inr (.inr 115)] (fw w0 p δ ia wa is k q) K := by
  refine ⟨6, hd, e_X9_readFactor ?_⟩
  simp only [fw_23, fw_k, fw_27]
  refine ⟨hδ.imp id (fun h => by omega), fun z => absurd hk10 z, fun _ => m_readArea (by decide) hT h0 h1 (fun ia' _ w25 e25 w26 e26 w27 e27 => ?_)⟩
  rw [e27, e26, e25, fs_25, fs_27, fs_26]
  exact ⟨bi01 _, kk⟩
end FM2
