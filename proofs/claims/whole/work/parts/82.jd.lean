/-! what would be by another number -/
section JDS
variable {w w0 w1 w' : Wd} {d : Nat} {K : Int → Wd → Prop} {KV : Wd → Prop} {K2 : Int → Int → Wd → Prop} {n N c : Int} {A : AS} {F F0 : Fs} {H : List Fs} {tx : Int → List Int} {wt : Int → Option (List Int)} {D : Dt} {L : List Int}
def TxD (w : Wd) (L : List Int) : Prop := w 4 1 = L.length ∧ ∀ j : Nat, j < L.length → w 5 j = L.getD j 0
theorem s_add {x : Int} (hd : 1 ≤ d) (hT : TxD w L) (hl : L.length < 30) (k : ∀ w', TxD w' (L ++ [x]) → (∀ b i, b ≠ 4 → b ≠ 5 → w' b i = w b i) → KV w') : C_X6_add d [.inr (.inr 4), .inl x] w KV := by
  refine ⟨0, hd, e_X6_add (Or.inr rfl) ?_⟩
  rw [hT.1]
  refine ⟨fun y => by omega, fun _ => ⟨fun y => by omega, fun _ => ⟨by omega, ?_⟩⟩⟩
  rintro w1 rfl
  rw [show wset w (4 + 1) (L.length : Int) x 4 1 = L.length by rw [wset_at (by omega)]; exact hT.1]
  refine ⟨by omega, ?_⟩
  rintro w2 rfl
  refine k _ ⟨?_, fun j hj => ?_⟩ (fun b i q1 q2 => by rw [wset_at (by omega), wset_at (by omega)])
  · rw [wset_eq, List.length_append, List.length_singleton]; rfl
  · rw [List.length_append, List.length_singleton] at hj
    rw [wset_at (by omega)]
    by_cases q : j = L.length
    · rw [q, show (4 : Int) + 1 = 5 by decide, wset_eq, List.getD_eq_getElem?_getD, List.getElem?_append_right (Nat.le_refl _), Nat.sub_self]; rfl
    · rw [show (4 : Int) + 1 = 5 by decide, wset_at (by omega), hT.2 j (by omega), List.getD_eq_getElem?_getD, List.getD_eq_getElem?_getD, List.getElem?_append_left (by omega)]
def dig6 (x : Int) : List Int := [48 + x / 100000 % 10, 48 + x / 10000 % 10, 48 + x / 1000 % 10, 48 + x / 100 % 10, 48 + x / 10 % 10, 48 + x / 1 % 10]
def dgL (x : Int) : List Int := (if x < 0 then [45] else []) ++ dig6 (am_abs x)
theorem s_draft {x : Int} (hd : 5 ≤ d) (hx : -999999 ≤ x ∧ x ≤ 999999) (k : ∀ w', TxD w' (dgL x) → (∀ b i, b ≠ 4 → b ≠ 5 → w' b i = w b i) → KV w') : C_X8_draftNumber d [.inr (.inr 1), .inl x] w KV := by
  have habs : 0 ≤ am_abs x ∧ am_abs x ≤ 999999 := by unfold am_abs; split <;> omega
  have six : ∀ (w1 : Wd) (L : List Int), TxD w1 L → L.length ≤ 1 → (∀ b i, b ≠ 4 → b ≠ 5 → w1 b i = w b i) → (∀ w', TxD w' (L ++ dig6 (am_abs x)) → (∀ b i, b ≠ 4 → b ≠ 5 → w' b i = w b i) → KV w') → W_X8_draftNumber 4 29 [some (.inr (.inr 1)), some (.inl x), some (.inl (am_abs x)), some (.inl 100000)] [] w1 KV := by
    intro w1 L hT hl ho kk
    generalize am_abs x = v at *
    have step : ∀ (u : Int) (w1 : Wd) (L : List Int), 0 < u → TxD w1 L → L.length < 30 → (∀ w2, TxD w2 (L ++ [48 + v / u % 10]) → (∀ b i, b ≠ 4 → b ≠ 5 → w2 b i = w1 b i) → W_X8_draftNumber 4 29 [some (.inr (.inr 1)), some (.inl x), some (.inl v), some (.inl (u / 10))] [] w2 KV) → W_X8_draftNumber 4 29 [some (.inr (.inr 1)), some (.inl x), some (.inl v), some (.inl u)] [] w1 KV := by
      intro u w1 L hu hT hl kk
      refine v_X8_draftNumber_29 ⟨fun z => by omega, fun _ => ⟨⟨habs.1, hu⟩, Int.ediv_nonneg habs.1 (by omega), by omega, s_add (by decide) hT hl (fun w2 h2 o2 => ⟨by omega, kk w2 h2 o2⟩)⟩⟩
    refine step 100000 w1 L (by decide) hT (by omega) (fun w2 h2 o2 => ?_)
    rw [show (100000 : Int) / 10 = 10000 by decide]
    refine step 10000 w2 _ (by decide) h2 (by simp only [List.length_append, List.length_singleton]; omega) (fun w3 h3 o3 => ?_)
    rw [show (10000 : Int) / 10 = 1000 by decide]
    refine step 1000 w3 _ (by decide) h3 (by simp only [List.length_append, List.length_singleton]; omega) (fun w4 h4 o4 => ?_)
    rw [show (1000 : Int) / 10 = 100 by decide]
    refine step 100 w4 _ (by decide) h4 (by simp only [List.length_append, List.length_singleton]; omega) (fun w5 h5 o5 => ?_)
    rw [show (100 : Int) / 10 = 10 by decide]
    refine step 10 w5 _ (by decide) h5 (by simp only [List.length_append, List.length_singleton]; omega) (fun w6 h6 o6 => ?_)
    rw [show (10 : Int) / 10 = 1 by decide]
    refine step 1 w6 _ (by decide) h6 (by simp only [List.length_append, List.length_singleton]; omega) (fun w7 h7 o7 => ?_)
    rw [show (1 : Int) / 10 = 0 by decide]
    refine v_X8_draftNumber_29 ⟨fun _ => kk w7 ?_ (fun b i q1 q2 => by rw [o7 b i q1 q2, o6 b i q1 q2, o5 b i q1 q2, o4 b i q1 q2, o3 b i q1 q2, o2 b i q1 q2]; exact ho b i q1 q2), fun z => absurd (Int.le_refl 0) z⟩
    have e : L ++ dig6 v = L ++ [48 + v / 100000 % 10] ++ [48 + v / 10000 % 10] ++ [48 + v / 1000 % 10] ++ [48 + v / 100 % 10] ++ [48 + v / 10 % 10] ++ [48 + v / 1 % 10] := by
      unfold dig6
      simp only [List.append_assoc, List.cons_append, List.nil_append]
    rw [e]
    exact h7
  refine ⟨4, hd, e_X8_draftNumber (by decide) ?_⟩
  rintro w1 rfl
  have h0 : TxD (wset w 4 1 0) [] := ⟨by rw [wset_eq]; rfl, fun j hj => absurd hj (Nat.not_lt_zero j)⟩
  have o0 : ∀ b i, b ≠ 4 → b ≠ 5 → wset w 4 1 0 b i = w b i := fun b i q1 q2 => by rw [wset_at (fun y => q1 y.1)]
  unfold dgL at k
  refine ⟨fun z => ⟨by omega, ?_⟩, fun z => ?_⟩
  · rw [if_neg (by omega)] at k
    exact six _ [] h0 (Nat.zero_le 1) o0 k
  · rw [if_pos (by omega)] at k
    exact s_add (by decide) h0 (by show 0 < 30; decide) (fun w2 h2 o2 => ⟨by omega, six w2 [45] h2 (Nat.le_refl 1) (fun b i q1 q2 => by rw [o2 b i q1 q2]; exact o0 b i q1 q2) k⟩)
theorem lk_lt {p : Int} (h : 0 ≤ p) (h2 : p < L.length) : lk (lt L) L.length p = L.getD p.toNat 0 := if_pos ⟨h, h2⟩
theorem lk_out {p : Int} (h : (L.length : Int) ≤ p) : lk (lt L) L.length p = 0 := if_neg (by omega)
/-- six figures -/
theorem six_ev {t : Int → Int} {n p v : Int} (hv : 0 ≤ v ∧ v ≤ 999999) (h0 : lk t n p = 48 + v / 100000 % 10) (h1 : lk t n (p + 1) = 48 + v / 10000 % 10) (h2 : lk t n (p + 2) = 48 + v / 1000 % 10) (h3 : lk t n (p + 3) = 48 + v / 100 % 10) (h4 : lk t n (p + 4) = 48 + v / 10 % 10) (h5 : lk t n (p + 5) = 48 + v / 1 % 10) : evNum t n 6 p 0 = (v, p + 6) ∧ ckNum t n 6 p = p + 6 := by
  have dg : ∀ u : Int, isDig (48 + v / u % 10) := fun u => by
    unfold isDig
    omega
  have st : ∀ (f : Nat) (q a : Int), isDig (lk t n q) → evNum t n (f + 1) q a = evNum t n f (q + 1) (a * 10 + lk t n q - 48) ∧ ckNum t n (f + 1) q = ckNum t n f (q + 1) := fun f q a hq => ⟨by
    conv => lhs; unfold evNum
    rw [if_pos hq], by
    conv => lhs; unfold ckNum
    rw [if_pos hq]⟩
  have d0 : isDig (lk t n p) := by rw [h0]; exact dg _
  have d1 : isDig (lk t n (p + 1)) := by rw [h1]; exact dg _
  have d2 : isDig (lk t n (p + 1 + 1)) := by rw [show p + 1 + 1 = p + 2 by omega, h2]; exact dg _
  have d3 : isDig (lk t n (p + 1 + 1 + 1)) := by rw [show p + 1 + 1 + 1 = p + 3 by omega, h3]; exact dg _
  have d4 : isDig (lk t n (p + 1 + 1 + 1 + 1)) := by rw [show p + 1 + 1 + 1 + 1 = p + 4 by omega, h4]; exact dg _
  have d5 : isDig (lk t n (p + 1 + 1 + 1 + 1 + 1)) := by rw [show p + 1 + 1 + 1 + 1 + 1 = p + 5 by omega, h5]; exact dg _
  constructor
  · rw [(st 5 p 0 d0).1, (st 4 _ _ d1).1, (st 3 _ _ d2).1, (st 2 _ _ d3).1, (st 1 _ _ d4).1, (st 0 _ _ d5).1]
    rw [show p + 1 + 1 + 1 + 1 + 1 + 1 = p + 6 by omega, show p + 1 + 1 + 1 + 1 + 1 = p + 5 by omega, show p + 1 + 1 + 1 + 1 = p + 4 by omega, show p + 1 + 1 + 1 = p + 3 by omega, show p + 1 + 1 = p + 2 by omega, h0, h1, h2, h3, h4, h5]
    unfold evNum
    have : (((((0 * 10 + (48 + v / 100000 % 10) - 48) * 10 + (48 + v / 10000 % 10) - 48) * 10 + (48 + v / 1000 % 10) - 48) * 10 + (48 + v / 100 % 10) - 48) * 10 + (48 + v / 10 % 10) - 48) * 10 + (48 + v / 1 % 10) - 48 = v := by omega
    rw [this]
  · rw [(st 5 p 0 d0).2, (st 4 _ 0 d1).2, (st 3 _ 0 d2).2, (st 2 _ 0 d3).2, (st 1 _ 0 d4).2, (st 0 _ 0 d5).2]
    unfold ckNum
    omega
theorem num_all {t : Int → Int} {n v : Int} {fac : Int → Bool × Int} {evf : Int → Mo (Int × Int)} (hf : fac 0 = (true, n)) (he : evf 0 = mpure (v, n)) (hz : lk t n n = 0) : ckFrm t n fac 30 0 = (true, n) ∧ evFrm t n evf 0 = mpure (v, n) := by
  have p1 : ckPrd t n fac 30 0 = (true, n) := by
    show ckPrd t n fac (29 + 1) 0 = _
    unfold ckPrd
    rw [hf]
    dsimp only
    rw [if_pos rfl, hz, if_neg (by decide)]
  have p2 : evPrd t n evf 0 = mpure (v, n) := by
    unfold evPrd
    rw [he]
    funext e l
    show evPrdL t n evf (29 + 1) v n e l = _
    unfold evPrdL
    rw [hz, if_neg (by decide)]
  constructor
  · show ckFrm t n fac (29 + 1) 0 = _
    unfold ckFrm
    rw [p1]
    dsimp only
    rw [if_pos rfl, hz, if_neg (by decide)]
  · unfold evFrm
    rw [p2]
    funext e l
    show evFrmL t n evf (29 + 1) v n e l = _
    unfold evFrmL
    rw [hz, if_neg (by decide), if_neg (by decide)]
theorem dgL_ok {x : Int} (hx : -999999 ≤ x ∧ x ≤ 999999) : Wf (dgL x) ∧ dgL x ≠ [] ∧ Fm (dgL x) = mpure x := by
  have habs : 0 ≤ am_abs x ∧ am_abs x ≤ 999999 := by unfold am_abs; split <;> omega
  have fin : ∀ L : List Int, L ≠ [] → L.length ≤ 30 → ckFac (lt L) L.length 41 0 = (true, (L.length : Int)) → evFac (lt L) L.length 41 0 = mpure (x, (L.length : Int)) → Wf L ∧ L ≠ [] ∧ Fm L = mpure x := fun L h0 hl hf he => by
    obtain ⟨a1, a2⟩ := num_all hf he (lk_out (Int.le_refl _))
    refine ⟨⟨hl, fun _ => ?_⟩, h0, ?_⟩
    · unfold ckFault
      rw [if_neg (fun z => h0 (List.eq_nil_of_length_eq_zero (by omega))), a1, if_pos ⟨rfl, Int.le_refl _⟩]
    · unfold Fm evTop
      rw [a2]
      rfl
  unfold dgL
  by_cases z : x < 0
  · rw [if_pos z]
    have ea : am_abs x = -x := by unfold am_abs; rw [if_neg (by omega)]
    generalize hv : am_abs x = v at *
    refine fin _ (fun y => by cases y) (by show 7 ≤ 30; decide) ?_ ?_
    all_goals
      have hlen : ((([45] ++ dig6 v : List Int).length : Nat) : Int) = 7 := rfl
      have hs := six_ev (t := lt ([45] ++ dig6 v)) (n := (([45] ++ dig6 v : List Int).length : Int)) (p := 1) habs (lk_lt (by decide) (by rw [hlen]; decide)) (lk_lt (by decide) (by rw [hlen]; decide)) (lk_lt (by decide) (by rw [hlen]; decide)) (lk_lt (by decide) (by rw [hlen]; decide)) (lk_lt (by decide) (by rw [hlen]; decide)) (lk_lt (by decide) (by rw [hlen]; decide))
      have h45 : lk (lt ([45] ++ dig6 v)) (([45] ++ dig6 v : List Int).length : Int) 0 = 45 := lk_lt (by decide) (by rw [hlen]; decide)
      have hd1 : lk (lt ([45] ++ dig6 v)) (([45] ++ dig6 v : List Int).length : Int) 1 = 48 + v / 100000 % 10 := lk_lt (by decide) (by rw [hlen]; decide)
    · show ckFac _ _ (40 + 1) 0 = _
      unfold ckFac
      rw [if_pos h45]
      show ckFac _ _ (39 + 1) (0 + 1) = _
      unfold ckFac
      rw [show (0 : Int) + 1 = 1 by decide, hd1, if_neg (by omega), if_neg (by omega), if_pos (by unfold isDig; omega), hs.2, hlen]
      rfl
    · show evFac _ _ (40 + 1) 0 = _
      unfold evFac
      rw [if_pos h45]
      have e1 : evFac (lt ([45] ++ dig6 v)) (([45] ++ dig6 v : List Int).length : Int) 40 (0 + 1) = mpure (v, 7) := by
        show evFac _ _ (39 + 1) (0 + 1) = _
        unfold evFac
        rw [show (0 : Int) + 1 = 1 by decide, hd1, if_neg (by omega), if_neg (by omega), if_pos (by unfold isDig; omega), hs.1]
        rfl
      rw [e1]
      funext e l
      show (l, Sum.inr (-v, (7 : Int))) = (l, Sum.inr (x, _))
      rw [hlen, show -v = x by omega]
  · rw [if_neg z]
    have ea : am_abs x = x := by unfold am_abs; rw [if_pos (by omega)]
    generalize hv : am_abs x = v at *
    refine fin _ (fun y => by cases y) (by show 6 ≤ 30; decide) ?_ ?_
    all_goals
      have hlen : ((([] ++ dig6 v : List Int).length : Nat) : Int) = 6 := rfl
      have hs := six_ev (t := lt ([] ++ dig6 v)) (n := (([] ++ dig6 v : List Int).length : Int)) (p := 0) habs (lk_lt (by decide) (by rw [hlen]; decide)) (lk_lt (by decide) (by rw [hlen]; decide)) (lk_lt (by decide) (by rw [hlen]; decide)) (lk_lt (by decide) (by rw [hlen]; decide)) (lk_lt (by decide) (by rw [hlen]; decide)) (lk_lt (by decide) (by rw [hlen]; decide))
      have hd1 : lk (lt ([] ++ dig6 v)) (([] ++ dig6 v : List Int).length : Int) 0 = 48 + v / 100000 % 10 := lk_lt (by decide) (by rw [hlen]; decide)
    · show ckFac _ _ (40 + 1) 0 = _
      unfold ckFac
      rw [hd1, if_neg (by omega), if_neg (by omega), if_pos (by unfold isDig; omega), hs.2, hlen]
      rfl
    · show evFac _ _ (40 + 1) 0 = _
      unfold evFac
      rw [hd1, if_neg (by omega), if_neg (by omega), if_pos (by unfold isDig; omega), hs.1, hlen, ea]
      rfl
end JDS
