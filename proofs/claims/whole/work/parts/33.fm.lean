/-! ===== the reference's checker: its small methods over a scratch state ===== -/
def fu (k : Int → Int) (j v : Int) : Int → Int := fun i => if i = j then v else k i
theorem fu_same {k : Int → Int} {j v : Int} : fu k j v j = v := if_pos rfl
theorem fu_ne {k : Int → Int} {j v i : Int} (h : i ≠ j) : fu k j v i = k i := if_neg h
/-- place, depth, isArea, wants, isStart, kinds, parts -/
def fw (w0 : Wd) (p δ ia wa is : Int) (k q : Int → Int) : Wd := fun c i => if c = 115 then (if i = 23 then δ else if i = 24 then p else if i = 25 then ia else if i = 26 then wa else if i = 27 then is else w0 115 i) else if c = 133 then k i else if c = 134 then q i else w0 c i
section FW
variable {w0 : Wd} {p δ ia wa is x j : Int} {k q : Int → Int}
theorem fw_23 : fw w0 p δ ia wa is k q 115 23 = δ := by simp [fw]
theorem fw_24 : fw w0 p δ ia wa is k q 115 24 = p := by simp [fw]
theorem fw_25 : fw w0 p δ ia wa is k q 115 25 = ia := by simp [fw]
theorem fw_26 : fw w0 p δ ia wa is k q 115 26 = wa := by simp [fw]
theorem fw_27 : fw w0 p δ ia wa is k q 115 27 = is := by simp [fw]
theorem fw_4 : fw w0 p δ ia wa is k q 115 4 = w0 115 4 := by simp [fw]
theorem fw_k : fw w0 p δ ia wa is k q 133 j = k j := by simp [fw]
theorem fw_q : fw w0 p δ ia wa is k q 134 j = q j := by simp [fw]
theorem fw_t : fw w0 p δ ia wa is k q 118 j = w0 118 j := by simp [fw]
theorem fs_23 : wset (fw w0 p δ ia wa is k q) 115 23 x = fw w0 p x ia wa is k q := by
  funext c i
  unfold wset fw
  by_cases hc : c = 115
  · subst hc
    by_cases hi : i = 23
    · simp [hi]
    · simp [hi]
  · simp [hc]
theorem fs_24 : wset (fw w0 p δ ia wa is k q) 115 24 x = fw w0 x δ ia wa is k q := by
  funext c i
  unfold wset fw
  by_cases hc : c = 115
  · subst hc
    by_cases hi : i = 24
    · simp [hi]
    · simp [hi]
  · simp [hc]
theorem fs_25 : wset (fw w0 p δ ia wa is k q) 115 25 x = fw w0 p δ x wa is k q := by
  funext c i
  unfold wset fw
  by_cases hc : c = 115
  · subst hc
    by_cases hi : i = 25
    · simp [hi]
    · simp [hi]
  · simp [hc]
theorem fs_26 : wset (fw w0 p δ ia wa is k q) 115 26 x = fw w0 p δ ia x is k q := by
  funext c i
  unfold wset fw
  by_cases hc : c = 115
  · subst hc
    by_cases hi : i = 26
    · simp [hi]
    · simp [hi]
  · simp [hc]
theorem fs_27 : wset (fw w0 p δ ia wa is k q) 115 27 x = fw w0 p δ ia wa x k q := by
  funext c i
  unfold wset fw
  by_cases hc : c = 115
  · subst hc
    by_cases hi : i = 27
    · simp [hi]
    · simp [hi]
  · simp [hc]
theorem fs_k : wset (fw w0 p δ ia wa is k q) 133 j x = fw w0 p δ ia wa is (fu k j x) q := by
  funext c i
  unfold wset fw fu
  by_cases hc : c = 133
  · subst hc
    by_cases hi : i = j
    · simp [hi]
    · simp [hi]
  · simp [hc]
theorem fs_q : wset (fw w0 p δ ia wa is k q) 134 j x = fw w0 p δ ia wa is k (fu q j x) := by
  funext c i
  unfold wset fw fu
  by_cases hc : c = 134
  · subst hc
    by_cases hi : i = j
    · simp [hi]
    · simp [hi]
  · simp [hc]
end FW
theorem fw_self {w : Wd} : fw w (w 115 24) (w 115 23) (w 115 25) (w 115 26) (w 115 27) (w 133) (w 134) = w := by
  funext c i
  unfold fw
  by_cases hc : c = 115
  · subst hc
    by_cases h1 : i = 23
    · simp [h1]
    · by_cases h2 : i = 24
      · simp [h2]
      · by_cases h3 : i = 25
        · simp [h3]
        · by_cases h4 : i = 26
          · simp [h4]
          · by_cases h5 : i = 27
            · simp [h5]
            · simp [h1, h2, h3, h4, h5]
  · by_cases h1 : c = 133
    · simp [h1]
    · by_cases h2 : c = 134
      · simp [h2]
      · simp [hc, h1, h2]
/-- what stands here, -1 behind the end -/
def hr (t : Int → Int) (n p : Int) : Int := if n ≤ p then -1 else t p
theorem hr_lk {t : Int → Int} {n p : Int} (h : 0 ≤ p) : (p < n ∧ hr t n p = t p ∧ lk t n p = t p) ∨ (n ≤ p ∧ hr t n p = -1 ∧ lk t n p = 0) := by
  unfold hr lk
  by_cases q : n ≤ p
  · exact Or.inr ⟨q, if_pos q, if_neg (by omega)⟩
  · exact Or.inl ⟨by omega, if_neg q, if_pos (by omega)⟩
section FMS
variable {d : Nat} {w w0 : Wd} {n p δ ia wa is : Int} {k q : Int → Int} {t : Int → Int} {K : Int → Wd → Prop} {KV : Wd → Prop}
/-- the reference's text -/
def TxM (w0 : Wd) (t : Int → Int) (n : Int) : Prop := w0 115 4 = n ∧ (0 ≤ n ∧ n ≤ 30) ∧ ∀ i, 0 ≤ i → i < n → w0 118 i = t i
theorem m_in {x a b : Int} (hd : 1 ≤ d) (kt : a ≤ x ∧ x ≤ b → K 1 w) (kf : ¬ (a ≤ x ∧ x ≤ b) → K 0 w) : C_X9_in d [.inl x, .inl a, .inl b] w K := by
  refine ⟨0, hd, e_X9_in ⟨fun q => kf (by omega), fun q => ⟨fun q2 => kf (by omega), fun q2 => kt (by omega)⟩⟩⟩
theorem m_isCol {x : Int} (hd : 2 ≤ d) (kt : isCol x → K 1 w) (kf : ¬ isCol x → K 0 w) : C_X9_isColumn d [.inl x] w K :=
  ⟨1, hd, e_X9_isColumn (m_in (by decide) (fun q => ⟨Or.inr rfl, kt q⟩) (fun q => ⟨Or.inl rfl, kf q⟩))⟩
theorem m_isFig {x : Int} (hd : 2 ≤ d) (kt : isDig x → K 1 w) (kf : ¬ isDig x → K 0 w) : C_X9_isFigure d [.inl x] w K :=
  ⟨1, hd, e_X9_isFigure (m_in (by decide) (fun q => ⟨Or.inr rfl, kt q⟩) (fun q => ⟨Or.inl rfl, kf q⟩))⟩
theorem m_isCell {x : Int} (hd : 2 ≤ d) (kt : 0 ≤ x ∧ x ≤ 71 → K 1 w) (kf : ¬ (0 ≤ x ∧ x ≤ 71) → K 0 w) : C_X9_isCell d [.inl x] w K :=
  ⟨1, hd, e_X9_isCell (m_in (by decide) (fun q => ⟨Or.inr rfl, kt q⟩) (fun q => ⟨Or.inl rfl, kf q⟩))⟩
theorem m_hasParts {x : Int} (hd : 2 ≤ d) (k : K (if 7 ≤ x ∧ x ≤ 10 then 1 else 0) w) : C_X9_hasParts d [.inl x] w K :=
  ⟨1, hd, e_X9_hasParts (m_in (by decide) (fun q => ⟨Or.inr rfl, by rw [if_pos q] at k; exact k⟩) (fun q => ⟨Or.inl rfl, by rw [if_neg q] at k; exact k⟩))⟩
theorem m_here (hd : 1 ≤ d) (hT : TxM w0 t n) (h0 : 0 ≤ p) (kk : K (hr t n p) (fw w0 p δ ia wa is k q)) : C_X9_here d [.inr (.inr 115)] (fw w0 p δ ia wa is k q) K := by
  obtain ⟨hn, hn2, ht⟩ := hT
  refine ⟨0, hd, e_X9_here ?_⟩
  rw [fw_4, fw_24, hn, fw_t]
  unfold hr at kk
  refine ⟨fun z => ?_, fun z => ⟨by omega, ?_⟩⟩
  · rw [if_pos z] at kk
    exact kk
  · rw [if_neg z] at kk
    rw [ht p h0 (by omega)]
    exact kk
theorem m_readCell {a b : Int} (hd : 2 ≤ d) (hT : TxM w0 t n) (h0 : 0 ≤ p) (h1 : p ≤ n) (ha : 97 ≤ a) (hb : 49 ≤ b) (kk : K (bi (ckCell t n a b p).1) (fw w0 (ckCell t n a b p).2 δ ia wa is k q)) : C_X9_readCell d [.inr (.inr 115), .inl a, .inl b] (fw w0 p δ ia wa is k q) K := by
  have hn := hT.2.1
  refine ⟨1, hd, e_X9_readCell (m_here (by decide) hT h0 (m_in (by decide) (fun z => ?_) (fun z => ?_)))⟩
  · have hp := hr_lk (t := t) (n := n) h0
    refine am_c1 ?_
    rw [fw_24]
    refine ⟨⟨by omega, by omega⟩, fun w3 e => ?_⟩
    rw [e, fs_24]
    unfold ckCell at kk
    rw [if_pos (by omega)] at kk
    have hp1 := hr_lk (t := t) (n := n) (p := p + 1) (by omega)
    refine m_here (by decide) hT (by omega) (m_in (by decide) (fun z2 => ?_) (fun z2 => ?_))
    · rw [if_pos (by omega)] at kk
      refine am_c1 ?_
      rw [fw_24]
      refine ⟨⟨by omega, by omega⟩, fun w6 e6 => ?_⟩
      rw [e6, fs_24, show p + 1 + 1 = p + 2 by omega]
      exact kk
    · rw [if_neg (by omega)] at kk
      exact am_c0 kk
  · have hp := hr_lk (t := t) (n := n) h0
    unfold ckCell at kk
    rw [if_neg (by omega)] at kk
    exact am_c0 kk
theorem m_readArea (hd : 3 ≤ d) (hT : TxM w0 t n) (h0 : 0 ≤ p) (h1 : p ≤ n) (kk : ∀ ia', ((ckArea t n p).1 = true → ia' = if lk t n (p + 2) = 58 then 1 else 0) → K (bi (ckArea t n p).1) (fw w0 (ckArea t n p).2 δ ia' wa is k q)) : C_X9_readArea d [.inr (.inr 115)] (fw w0 p δ ia wa is k q) K := by
  have hn := hT.2.1
  refine ⟨2, hd, e_X9_readArea (m_here (by decide) hT h0 (m_readCell (by decide) hT h0 h1 (by decide) (by decide) ?_))⟩
  unfold ckArea at kk
  by_cases hc : (ckCell t n 97 49 p).1 = true
  · obtain ⟨h3, h4, h5⟩ := ckCell_ok hc
    have hb := ckCell_bd (t := t) (n := n) 97 49 p h1
    have hp := hr_lk (t := t) (n := n) h0
    have hp1 := hr_lk (t := t) (n := n) (p := p + 1) (by omega)
    have hp2 := hr_lk (t := t) (n := n) (p := p + 2) (by omega)
    rw [if_pos hc] at kk
    rw [hc, h3]
    refine am_c1 ?_
    rw [fw_24, fw_t, hT.2.2 (p + 2 - 1) (by omega) (by omega), show p + 2 - 1 = p + 1 by omega]
    have ex : hr t n p = lk t n p := by omega
    have ey : t (p + 1) = lk t n (p + 1) := by omega
    refine ⟨⟨by omega, by omega⟩, ⟨by omega, by omega⟩, m_here (by decide) hT (by omega) ⟨fun z => ?_, fun z => ?_⟩⟩
    · have hne : ¬ lk t n (p + 2) = 58 := by omega
      rintro w4 rfl
      rw [fs_25, fw_25, fw_24]
      refine am_b0 ⟨⟨by omega, by omega⟩, fun w5 e5 => ?_⟩
      rw [e5, fs_24, fw_25, Int.add_zero]
      have := kk 0 (fun _ => by rw [if_neg hne])
      rw [if_neg hne] at this
      exact am_b0 this
    · have hp3 : lk t n (p + 2) = 58 := by omega
      rintro w9 rfl
      rw [fs_25, fw_25, fw_24]
      refine am_b1 ⟨⟨by omega, by omega⟩, fun w5 e5 => ?_⟩
      rw [e5, fs_24, fw_25]
      have := kk 1 (fun _ => by rw [if_pos hp3])
      rw [if_pos hp3] at this
      refine am_b1 ?_
      rw [ex, ey, show p + 2 + 1 = p + 3 by omega]
      refine m_readCell (by decide) hT (by omega) (by omega) (by omega) (by omega) ?_
      revert this
      generalize ckCell t n (lk t n p) (lk t n (p + 1)) (p + 3) = z
      obtain ⟨b, q2⟩ := z
      intro k
      cases b
      · exact am_b0 k
      · exact am_b1 k
  · rw [if_neg hc] at kk
    rw [bt hc]
    exact am_c0 (kk ia (fun z => by cases z))
theorem m_opens {x : Int} (hd : 1 ≤ d) (h0 : 0 ≤ δ) (h1 : δ < 39) (kk : KV (fw w0 p (δ + 1) ia wa is (fu k (δ + 1) x) (fu q (δ + 1) 0))) : C_X9_opens d [.inr (.inr 115), .inl x] (fw w0 p δ ia wa is k q) KV := by
  refine ⟨0, hd, e_X9_opens ?_⟩
  rw [fw_23]
  refine ⟨⟨by omega, by omega⟩, fun w1 e1 => ?_⟩
  rw [e1, fs_23, fw_23]
  refine ⟨by omega, fun w2 e2 => ?_⟩
  rw [e2, fs_k, fw_23]
  refine ⟨by omega, fun w3 e3 => ?_⟩
  rw [e3, fs_q]
  exact kk
theorem m_sizeOf {f : Nat} (hd : 1 ≤ d) (hf : f < 9) (kk : K ((nmS f).length : Int) w) : C_X9_sizeOf d [.inl ((f : Int) + 2)] w K := by
  have h : ∀ f : Nat, f < 9 → (nmS f).length = if f = 0 then 3 else if f = 4 then 3 else if f = 1 then 5 else if f = 8 then 6 else 4 := by decide +kernel
  rw [h f hf] at kk
  refine ⟨0, hd, e_X9_sizeOf ⟨fun z => ?_, fun z => ⟨fun z2 => ⟨fun z3 => ⟨fun z4 => ?_, fun z4 => ?_⟩, fun z3 => ?_⟩, fun z2 => ?_⟩⟩⟩
  · rw [if_pos (by omega)] at kk
    exact kk
  · rw [if_neg (by omega), if_neg (by omega), if_neg (by omega), if_neg (by omega)] at kk
    exact kk
  · rw [if_neg (by omega), if_neg (by omega), if_neg (by omega), if_pos (by omega)] at kk
    exact kk
  · rw [if_neg (by omega), if_neg (by omega), if_pos (by omega)] at kk
    exact kk
  · rw [if_neg (by omega), if_pos (by omega)] at kk
    exact kk
def nmC : List Int := [6907432, 482804460328, 1684633128, 1836016680, 6386728, 1835626024, 1835104296, 1937075496, 109330362692648]
theorem m_nameOf {f : Nat} (hd : 1 ≤ d) (hf : f < 9) (kk : K (nmC.getD f 0) w) : C_X9_nameOf d [.inl ((f : Int) + 2)] w K := by
  have g : ∀ j : Nat, ∀ v : Int, nmC.getD j 0 = v → (f : Int) + 2 = (j : Int) + 2 → K v w := by
    intro j v h e
    have : f = j := by omega
    subst this
    rw [← h]
    exact kk
  exact ⟨0, hd, e_X9_nameOf ⟨fun z => g 0 _ rfl z, fun z => g 1 _ rfl z, fun z => g 2 _ rfl z, fun z => g 3 _ rfl z, fun z => g 4 _ rfl z, fun z => g 5 _ rfl z, fun z => g 6 _ rfl z, fun z => g 7 _ rfl z, fun z => g 8 _ rfl (by omega)⟩⟩
theorem nmC_byte : ∀ f : Nat, f < 9 → ∀ i : Nat, i < (nmS f).length → (nmC.getD f 0 >>> (8 * ((nmS f).length - 1 - i))) % 256 = (nmS f).getD i 0 := by decide +kernel
theorem sh_ok : ∀ m : Nat, m < 6 → (((Int32.ofInt (8 * (m : Int))).toInt64 &&& 63).toBitVec.smod 64).toNat = 8 * m := by decide +kernel
theorem m_matches {f : Nat} (hd : 2 ≤ d) (hT : TxM w0 t n) (h0 : 0 ≤ p) (h1 : p ≤ n) (hf : f < 9) (kk : K (ckMt t n (nmS f) p) (fw w0 p δ ia wa is k q)) : C_X9_matches d [.inr (.inr 115), .inl ((f : Int) + 2)] (fw w0 p δ ia wa is k q) K := by
  have hn := hT.2.1
  have hlen := nmS_le f hf
  refine ⟨1, hd, e_X9_matches (m_sizeOf (by decide) hf ?_)⟩
  have go : ∀ (l : List Int) (i : Nat), (nmS f).drop i = l → i ≤ (nmS f).length → K (i + ckMt t n l (p + i)) (fw w0 p δ ia wa is k q) → W_X9_matches 1 7 [some (.inr (.inr 115)), some (.inl ((f : Int) + 2)), some (.inl ((nmS f).length : Int)), some (.inl (i : Int))] [] (fw w0 p δ ia wa is k q) K := by
    intro l
    induction l with
    | nil =>
      intro i hl hi hk
      have : (nmS f).length ≤ i := List.drop_eq_nil_iff.mp hl
      refine v_X9_matches_7 ⟨fun z => ?_, fun z => by omega⟩
      unfold ckMt at hk
      rw [Int.add_zero] at hk
      exact hk
    | cons x l ih =>
      intro i hl hi hk
      have hlt : i < (nmS f).length := by
        rcases Nat.lt_or_ge i (nmS f).length with z | z
        · exact z
        · rw [List.drop_eq_nil_iff.mpr z] at hl; cases hl
      have hx : (nmS f).getD i 0 = x := by
        have h2 : (nmS f)[i]? = some x := by
          have := List.getElem?_drop (xs := nmS f) (i := i) (j := 0)
          rw [hl] at this
          simpa using this.symm
        rw [List.getD_eq_getElem?_getD, h2]
        rfl
      have hxne : x ≠ 0 := by
        have : x ∈ nmS f := List.mem_of_mem_drop (i := i) (by rw [hl]; exact List.mem_cons_self)
        exact nmS_ne f hf x this
      have hl2 : (nmS f).drop (i + 1) = l := by
        have := List.drop_drop (i := 1) (j := i) (l := nmS f)
        rw [hl] at this
        simpa using this.symm
      have hp := hr_lk (t := t) (n := n) (p := p + i) (by omega)
      refine v_X9_matches_7 ⟨fun z => by omega, fun z => ?_⟩
      rw [fw_24, fw_4, hT.1]
      unfold ckMt at hk
      refine ⟨⟨by omega, by omega⟩, fun z2 => ?_, fun z2 => ⟨⟨by omega, by omega⟩, ⟨by omega, by omega⟩, m_nameOf (by decide) hf ?_⟩⟩
      · rw [if_neg (by omega), Int.add_zero] at hk
        exact hk
      · obtain ⟨m, hm⟩ : ∃ m : Nat, m = (nmS f).length - 1 - i := ⟨_, rfl⟩
        have e1 : ((nmS f).length : Int) - 1 - (i : Int) = (m : Int) := by omega
        have e2 := nmC_byte f hf i hlt
        have e3 := sh_ok m (by omega)
        rw [← hm] at e2
        rw [e1, fw_t, hT.2.2 (p + i) (by omega) (by omega)]
        refine ⟨⟨by omega, by omega⟩, ⟨by omega, by omega⟩, ⟨by omega, by omega⟩, 8 * m, ⟨by omega, e3⟩, ?_⟩
        rw [e2, hx]
        have hxb : 0 ≤ x ∧ x < 256 := by rw [← hx, ← e2]; omega
        refine ⟨⟨by omega, by omega⟩, fun z3 => ?_, fun z3 => ⟨⟨by omega, by omega⟩, ?_⟩⟩
        · rw [if_neg (by omega), Int.add_zero] at hk
          exact hk
        · rw [if_pos (by omega)] at hk
          have := ih (i + 1) hl2 hlt
          rw [show ((i + 1 : Nat) : Int) = (i : Int) + 1 from rfl] at this
          refine this ?_
          rw [show (i : Int) + (1 + ckMt t n l (p + i + 1)) = (i : Int) + 1 + ckMt t n l (p + (i + 1)) by rw [Int.add_assoc p]; omega] at hk
          exact hk
  exact go (nmS f) 0 rfl (Nat.zero_le _) (by simpa using kk)
end FMS
