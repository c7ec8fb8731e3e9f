/-! ===== THE CHECKER of the class: a text, and how far a formula goes ===== -/
theorem am_b1 {A B : Prop} (h : B) : ((1 : Int) = 0 → A) ∧ (¬ (1 : Int) = 0 → B) := ⟨fun q => absurd q (by decide), fun _ => h⟩
theorem am_b0 {A B : Prop} (h : A) : ((0 : Int) = 0 → A) ∧ (¬ (0 : Int) = 0 → B) := ⟨fun _ => h, fun q => absurd rfl q⟩
theorem am_c1 {A B : Prop} (h : B) : (¬ (1 : Int) = 0 → B) ∧ ((1 : Int) = 0 → A) := ⟨fun _ => h, fun q => absurd q (by decide)⟩
theorem am_c0 {A B : Prop} (h : A) : (¬ (0 : Int) = 0 → B) ∧ ((0 : Int) = 0 → A) := ⟨fun q => absurd rfl q, fun _ => h⟩
def lk (t : Int → Int) (n p : Int) : Int := if 0 ≤ p ∧ p < n then t p else 0
abbrev isCol (x : Int) : Prop := 97 ≤ x ∧ x ≤ 104
abbrev isRow (x : Int) : Prop := 49 ≤ x ∧ x ≤ 57
abbrev isDig (x : Int) : Prop := 48 ≤ x ∧ x ≤ 57
def wpos (w : Wd) (c p : Int) : Wd := wset w c 3 p
/-- a cursor stands over the text t of length n -/
def CurT (w : Wd) (c : Int) (t : Int → Int) (n : Int) : Prop := am_Cu c ∧ (0 ≤ n ∧ n ≤ 30) ∧ w c 2 = n ∧ ∃ N : Nat, am_arr 143 (w c 0) 0 N ∧ N ≤ 20000 ∧ 0 ≤ w c 1 ∧ w c 1 + n ≤ N ∧ ∀ i, 0 ≤ i → i < n → w (w c 0) (w c 1 + i) = t i
theorem wpos_ne {w : Wd} {c p c' : Int} (h : c' ≠ c) : wpos w c p c' = w c' := wset_ne c' h
theorem wpos_3 {w : Wd} {c p : Int} : wpos w c p c 3 = p := if_pos ⟨rfl, rfl⟩
theorem wpos_i {w : Wd} {c p i : Int} (h : i ≠ 3) : wpos w c p c i = w c i := if_neg (fun q => h q.2)
theorem wpos_wset {w : Wd} {c p q : Int} : wset (wpos w c p) c 3 q = wpos w c q := by
  funext a b
  unfold wpos wset
  by_cases h : a = c ∧ b = 3
  · rw [if_pos h, if_pos h]
  · rw [if_neg h, if_neg h, if_neg h]
theorem wpos_self {w : Wd} {c : Int} : wpos w c (w c 3) = w := by
  funext a b
  unfold wpos wset
  by_cases h : a = c ∧ b = 3
  · rw [if_pos h, h.1, h.2]
  · rw [if_neg h]
theorem arr_ne_cu {a c : Int} {N : Nat} (h : am_arr 143 a 0 N) (hc : am_Cu c) : a ≠ c := by
  rintro rfl
  have h1 := h.2
  have h2 := (am_Cu_obj hc).2
  rw [h1] at h2
  cases h2
theorem CurT.pos {w : Wd} {c n p : Int} {t : Int → Int} (h : CurT w c t n) : CurT (wpos w c p) c t n := by
  obtain ⟨h1, h2, h3, N, h4, h5, h6, h7, h8⟩ := h
  refine ⟨h1, h2, by rw [wpos_i (by decide)]; exact h3, N, by rw [wpos_i (by decide)]; exact h4, h5, by rw [wpos_i (by decide)]; exact h6, by rw [wpos_i (by decide)]; exact h7, fun i hi hn => ?_⟩
  rw [wpos_i (by decide), wpos_i (by decide), wpos_ne (arr_ne_cu h4 h1)]
  exact h8 i hi hn
theorem lk_pos {t : Int → Int} {n p : Int} (h : lk t n p ≠ 0) : 0 ≤ p ∧ p < n := by
  unfold lk at h
  by_cases q : 0 ≤ p ∧ p < n
  · exact q
  · rw [if_neg q] at h
    exact absurd rfl h
section CHK
variable {d : Nat} {w : Wd} {c n p : Int} {t : Int → Int} {K : Int → Wd → Prop} {KV : Wd → Prop}
theorem s_look {a : Int} (hd : 1 ≤ d) (hC : CurT w c t n) (h0 : 0 ≤ p) (h1 : p ≤ 100000) (h2 : 0 ≤ a) (h3 : a ≤ 100) (k : K (lk t n (p + a)) (wpos w c p)) : C_X2_look d [.inr (.inr c), .inl a] (wpos w c p) K := by
  obtain ⟨hc, hn, e2, N, hN, hNb, ho, hoN, ht⟩ := hC.pos (p := p)
  refine ⟨0, hd, e_X2_look hc ?_⟩
  rw [wpos_3, e2]
  unfold lk at k
  refine ⟨⟨by omega, by omega⟩, fun q => by omega, fun q => ⟨fun q2 => ?_, fun q2 => ⟨⟨by omega, by omega⟩, ⟨N, hN, by omega, by omega⟩, ?_⟩⟩⟩
  · rw [if_neg (by omega)] at k
    exact k
  · rw [if_pos (by omega)] at k
    rw [ht (p + a) (by omega) (by omega)]
    exact k
theorem s_look0 (hd : 1 ≤ d) (hC : CurT w c t n) (h0 : 0 ≤ p) (h1 : p ≤ 100000) (k : K (lk t n p) (wpos w c p)) : C_X2_look d [.inr (.inr c), .inl 0] (wpos w c p) K :=
  s_look hd hC h0 h1 (by decide) (by decide) (by rw [Int.add_zero]; exact k)
theorem s_isCol {x : Int} (hd : 1 ≤ d) (kt : isCol x → K 1 w) (kf : ¬ isCol x → K 0 w) : C_X8_isColumnLetter d [.inl x] w K := by
  refine ⟨0, hd, e_X8_isColumnLetter ?_⟩
  refine ⟨fun q => kf (by omega), fun q => ⟨fun q2 => kf (by omega), fun q2 => kt (by omega)⟩⟩
theorem s_isRow {x : Int} (hd : 1 ≤ d) (kt : isRow x → K 1 w) (kf : ¬ isRow x → K 0 w) : C_X8_isRowDigit d [.inl x] w K := by
  refine ⟨0, hd, e_X8_isRowDigit ?_⟩
  refine ⟨fun q => kf (by omega), fun q => ⟨fun q2 => kf (by omega), fun q2 => kt (by omega)⟩⟩
theorem s_isDig {x : Int} (hd : 1 ≤ d) (kt : isDig x → K 1 w) (kf : ¬ isDig x → K 0 w) : C_X8_isDigit d [.inl x] w K := by
  refine ⟨0, hd, e_X8_isDigit ?_⟩
  refine ⟨fun q => kf (by omega), fun q => ⟨fun q2 => kf (by omega), fun q2 => kt (by omega)⟩⟩
theorem s_isCell {x : Int} (hd : 1 ≤ d) (kt : 0 ≤ x ∧ x < 72 → K 1 w) (kf : ¬ (0 ≤ x ∧ x < 72) → K 0 w) : C_X8_isCell d [.inl x] w K := by
  refine ⟨0, hd, e_X8_isCell ?_⟩
  refine ⟨fun q => kf (by omega), fun q => ⟨fun q2 => kf (by omega), fun q2 => kt (by omega)⟩⟩
theorem s_pass {a : Int} (hd : 2 ≤ d) (hC : CurT w c t n) (h0 : 0 ≤ p) (h1 : p ≤ 100000) (kt : lk t n p = a → K 1 (wpos w c (p + 1))) (kf : ¬ lk t n p = a → K 0 (wpos w c p)) : C_X2_pass d [.inr (.inr c), .inl a] (wpos w c p) K := by
  refine ⟨1, hd, e_X2_pass hC.1 (s_look0 (by omega) hC h0 h1 ⟨kf, fun q => ?_⟩)⟩
  rw [wpos_3]
  refine ⟨⟨by omega, by omega⟩, fun w2 e => ?_⟩
  rw [e, wpos_wset]
  exact kt q
theorem s_atCell (hd : 2 ≤ d) (hC : CurT w c t n) (h0 : 0 ≤ p) (h1 : p ≤ 100000) (kt : isCol (lk t n p) ∧ isRow (lk t n (p + 1)) → K 1 (wpos w c p)) (kf : ¬ (isCol (lk t n p) ∧ isRow (lk t n (p + 1))) → K 0 (wpos w c p)) : C_X2_isAtCell d [.inr (.inr c)] (wpos w c p) K := by
  refine ⟨1, hd, e_X2_isAtCell hC.1 (s_look0 (by omega) hC h0 h1 (s_isCol (by omega) (fun q => ?_) (fun q => ?_)))⟩
  · refine am_b1 (s_look (by omega) hC h0 h1 (by decide) (by decide) (s_isRow (by omega) (fun q2 => ?_) (fun q2 => ?_)))
    · exact am_b1 (kt ⟨q, q2⟩)
    · exact am_b0 (kf (fun z => q2 z.2))
  · exact am_b0 (kf (fun z => q z.1))
theorem s_atEnd (hd : 1 ≤ d) (hC : CurT w c t n) (kt : n ≤ p → K 1 (wpos w c p)) (kf : ¬ n ≤ p → K 0 (wpos w c p)) : C_X2_isAtEnd d [.inr (.inr c)] (wpos w c p) K := by
  refine ⟨0, hd, e_X2_isAtEnd hC.1 ?_⟩
  rw [wpos_3, hC.pos.2.2.1]
  exact ⟨fun q => kf (by omega), fun q => kt (by omega)⟩
theorem s_enter {L o m : Int} (hd : 1 ≤ d) (hc : am_Cu c) (hL : L ≠ 0) (k : KV (wpos (wset (wset (wset w c 0 L) c 1 o) c 2 m) c 0)) : C_X2_enter d [.inr (.inr c), .inr (.inr L), .inl o, .inl m] w KV := by
  refine ⟨0, hd, e_X2_enter hc ⟨hL, ?_⟩⟩
  rintro w1 rfl w2 rfl w3 rfl w4 rfl
  exact k
theorem CurT.enter {L o : Int} {N : Nat} (hc : am_Cu c) (hn : 0 ≤ n ∧ n ≤ 30) (hL : am_arr 143 L 0 N) (hN : N ≤ 20000) (ho : 0 ≤ o) (hoN : o + n ≤ N) (ht : ∀ i, 0 ≤ i → i < n → w L (o + i) = t i) : CurT (wset (wset (wset w c 0 L) c 1 o) c 2 n) c t n := by
  have e0 : wset (wset (wset w c 0 L) c 1 o) c 2 n c 0 = L := by simp [wset]
  have e1 : wset (wset (wset w c 0 L) c 1 o) c 2 n c 1 = o := by simp [wset]
  have e2 : wset (wset (wset w c 0 L) c 1 o) c 2 n c 2 = n := by simp [wset]
  refine ⟨hc, hn, e2, N, by rw [e0]; exact hL, hN, by rw [e1]; exact ho, by rw [e1]; exact hoN, fun i hi hin => ?_⟩
  rw [e0, e1]
  have : wset (wset (wset w c 0 L) c 1 o) c 2 n L = w L := by
    rw [wset_ne L (arr_ne_cu hL hc), wset_ne L (arr_ne_cu hL hc), wset_ne L (arr_ne_cu hL hc)]
  rw [this]
  exact ht i hi hin
-- texts that are constants
def nmS (j : Nat) : List Int := (am_sbyt.getD j []).map (fun b => b.toInt % 256)
theorem nmS_len : ∀ j : Nat, j < 9 → (nmS j).length = am_slen.getD j 0 := by decide +kernel
theorem nmS_get : ∀ j : Nat, j < 9 → ∀ i : Nat, i < am_slen.getD j 0 → ((am_sbyt.getD j []).getD i 0).toInt % 256 = (nmS j).getD i 0 := by decide +kernel
theorem s_strlen {j : Nat} (hd : 2 ≤ d) (hj : j < 9) (k : K ((nmS j).length : Int) w) : C_J0_length_8abf5 d [.inr (.inr (-3 - (j : Int)))] w K := by
  refine ⟨1, hd, e_J0_length_8abf5 hj ⟨0, by decide, e_J0_coder_7d493 hj ⟨rfl, ?_⟩⟩⟩
  rw [← nmS_len j hj]
  exact k
theorem nar_char {x : Int} (h0 : 0 ≤ x) (h1 : x < 256) : narrow .char (.int (Int32.ofInt x)) = .int (Int32.ofInt x) := by
  have h : ∀ k : Nat, k < 256 → narrow .char (.int (Int32.ofInt (k : Int))) = .int (Int32.ofInt (k : Int)) := by decide +kernel
  obtain ⟨k, rfl⟩ := Int.eq_ofNat_of_zero_le h0
  exact h k (by omega)
theorem s_charAt {j i : Nat} (hd : 4 ≤ d) (hj : j < 9) (hi : i < (nmS j).length) (k : K ((nmS j).getD i 0) w) : C_J0_charAt_5068e d [.inr (.inr (-3 - (j : Int))), .inl (i : Int)] w K := by
  rw [nmS_len j hj] at hi
  have e : ((am_sbyt.getD j []).getD ((i : Int).toNat) 0).toInt % 256 = (nmS j).getD i 0 := nmS_get j hj i hi
  have hb : 0 ≤ (nmS j).getD i 0 ∧ (nmS j).getD i 0 < 256 := by rw [← e]; omega
  refine ⟨3, hd, e_J0_charAt_5068e hj ⟨0, by decide, e_J0_isLatin1_aae02 hj (am_b1 ?_)⟩⟩
  refine ⟨2, by decide, e_J1_charAt_3b067 hj ⟨1, by decide, e_J0_checkIndex_df160 ⟨⟨0, by decide, e_J3_checkIndex_8e157 ?_⟩, ⟨0, by decide, e_J3_checkIndex_8e157 ?_⟩⟩⟩⟩
  · rw [e]
    refine ⟨fun q => by omega, fun q => ⟨fun q2 => ⟨⟨by omega, by omega⟩, ⟨by omega, by omega⟩, nar_char hb.1 hb.2, nar_char hb.1 hb.2, k⟩, fun q2 => q2 (by omega)⟩⟩
  · rw [e]
    refine ⟨fun q => by omega, fun q => ⟨fun q2 => ⟨⟨by omega, by omega⟩, ⟨by omega, by omega⟩, nar_char hb.1 hb.2, nar_char hb.1 hb.2, k⟩, fun q2 => q2 (by omega)⟩⟩
theorem s_nameOf {j : Nat} (hd : 1 ≤ d) (hj : j < 9) (k : K (-3 - (j : Int)) w) : C_X8_nameOf d [.inl (j : Int)] w K := by
  refine ⟨0, hd, e_X8_nameOf ?_⟩
  have : ∀ z : Int, z = -3 - (j : Int) → K z w := fun z h => by rw [h]; exact k
  exact ⟨fun q => this _ (by omega), fun q => this _ (by omega), fun q => this _ (by omega), fun q => this _ (by omega), fun q => this _ (by omega), fun q => this _ (by omega), fun q => this _ (by omega), fun q => this _ (by omega), fun q => this _ (by omega)⟩
/-- how many letters of a name stand here -/
def ckMt (t : Int → Int) (n : Int) : List Int → Int → Int
  | [], _ => 0
  | x :: l, p => if lk t n p = x then 1 + ckMt t n l (p + 1) else 0
theorem ckMt_bd (l : List Int) (p : Int) : 0 ≤ ckMt t n l p ∧ ckMt t n l p ≤ l.length := by
  induction l generalizing p with
  | nil => exact ⟨Int.le_refl 0, Int.le_refl 0⟩
  | cons x l ih =>
    unfold ckMt
    have := ih (p + 1)
    split
    · simp only [List.length_cons]; omega
    · simp only [List.length_cons]; omega
theorem s_matching {j : Nat} (hd : 6 ≤ d) (hC : CurT w c t n) (h0 : 0 ≤ p) (h1 : p ≤ 90) (hj : j < 9) (k : K (ckMt t n (nmS j) p) (wpos w c p)) : C_X2_matching d [.inr (.inr c), .inr (.inr (-3 - (j : Int)))] (wpos w c p) K := by
  refine ⟨5, hd, e_X2_matching hC.1 hj ?_⟩
  have hlen := nmS_len j hj
  have hle := am_slen_le j hj
  have go : ∀ (l : List Int) (i : Nat), (nmS j).drop i = l → i ≤ (nmS j).length → K (i + ckMt t n l (p + i)) (wpos w c p) → W_X2_matching 5 2 [some (.inr (.inr c)), some (.inr (.inr (-3 - (j : Int)))), some (.inl (i : Int))] [] (wpos w c p) K := by
    intro l
    induction l with
    | nil =>
      intro i hl hi hk
      have : (nmS j).length ≤ i := List.drop_eq_nil_iff.mp hl
      refine v_X2_matching_2 hC.1 hj (s_strlen (by decide) hj ⟨fun q => s_strlen (by decide) hj ?_, fun q => by omega⟩)
      have e : ((nmS j).length : Int) = i + ckMt t n [] (p + i) := by unfold ckMt; omega
      show K _ _
      rw [e]
      exact hk
    | cons x l ih =>
      intro i hl hi hk
      have hlt : i < (nmS j).length := by
        rcases Nat.lt_or_ge i (nmS j).length with q | q
        · exact q
        · rw [List.drop_eq_nil_iff.mpr q] at hl; cases hl
      have hx : (nmS j).getD i 0 = x := by
        have h2 : (nmS j)[i]? = some x := by
          have := List.getElem?_drop (xs := nmS j) (i := i) (j := 0)
          rw [hl] at this
          simpa using this.symm
        rw [List.getD_eq_getElem?_getD, h2]
        rfl
      have hl2 : (nmS j).drop (i + 1) = l := by
        have := List.drop_drop (i := 1) (j := i) (l := nmS j)
        rw [hl] at this
        simpa using this.symm
      refine v_X2_matching_2 hC.1 hj (s_strlen (by decide) hj ⟨fun q => by omega, fun q => s_look (by decide) hC h0 (by omega) (by omega) (by omega) (s_charAt (by decide) hj hlt ?_)⟩)
      rw [hx]
      unfold ckMt at hk
      refine ⟨fun q => ⟨⟨by omega, by omega⟩, ?_⟩, fun q => ?_⟩
      · rw [if_pos q] at hk
        have := ih (i + 1) hl2 hlt
        rw [show ((i + 1 : Nat) : Int) = (i : Int) + 1 from rfl] at this
        refine this ?_
        rw [show (i : Int) + (1 + ckMt t n l (p + i + 1)) = (i : Int) + 1 + ckMt t n l (p + (i + 1)) by rw [Int.add_assoc p]; omega] at hk
        exact hk
      · rw [if_neg q, Int.add_zero] at hk
        exact hk
  exact go (nmS j) 0 rfl (Nat.zero_le _) (by simpa using k)
end CHK
