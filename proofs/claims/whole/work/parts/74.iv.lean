/-! ===== what holds between two calls ===== -/
def WF (B : Int) (F : Fs) : Prop :=
  (∀ c, rng c → Wf (F.1.1 c)) ∧ F.1.1 (-1) ≠ [] ∧ (∀ c L, rng c → F.1.2.1 c = some L → Wf L) ∧ sm 72 (wtI F.1.2.1) ≤ 8 ∧ (0 ≤ F.1.2.2.1 ∧ F.1.2.2.1 ≤ 40) ∧
  (∀ c, rng c → (0 ≤ F.1.2.2.2.1 c ∧ F.1.2.2.2.1 c ≤ B) ∧ (F.1.2.2.2.2.1 c = 0 ∨ F.1.2.2.2.2.1 c = 1) ∧ (F.1.2.2.2.2.2 c = -1 ∨ rng (F.1.2.2.2.2.2 c) ∧ F.1.2.2.2.2.2 (F.1.2.2.2.2.2 c) ≠ -1)) ∧
  StD F.1.1 F.1.2.2.1 F.2 ∧ DOk F.2
theorem WF.mono {B B' : Int} {F : Fs} (h : WF B F) (hb : B ≤ B') : WF B' F := ⟨h.1, h.2.1, h.2.2.1, h.2.2.2.1, h.2.2.2.2.1, fun c hc => by have := h.2.2.2.2.2.1 c hc; exact ⟨⟨this.1.1, by omega⟩, this.2⟩, h.2.2.2.2.2.2⟩
abbrev AS : Type := List Int × Fs × List Fs
def WQ (B : Int) (A : AS) : Prop := A.1.length ≤ 30 ∧ WF B A.2.1 ∧ ∀ F, F ∈ A.2.2 → WF B F
def IC (N : Int) (A : AS) (w : Wd) : Prop := (w 2 1 = A.1.length ∧ ∀ j : Nat, j < A.1.length → w 3 j = A.1.getD j 0) ∧ CS w 6 A.2.1 ∧ HS w A.2.2 ∧ GN N w
def IM (A : AS) (w : Wd) : Prop := (w 115 4 = A.1.length ∧ ∀ j : Nat, j < A.1.length → w 118 j = A.1.getD j 0) ∧ PgM (w 116) A.2.1.1 ∧ HM w A.2.2 ∧ MDt A.2.1.2 w ∧ w 115 42 = -1 ∧ PV (w 115 43)
def Inv (n : Int) (w : Wd) : Prop := 0 ≤ n ∧ ∃ A, WQ n A ∧ IC (4000 * n) A w ∧ IM A w
section IVS
variable {w w0 w1 w' : Wd} {d : Nat} {K : Int → Wd → Prop} {K2 : Int → Int → Wd → Prop} {n N : Int} {A : AS} {F : Fs} {H : List Fs}
theorem GN.mono {N' : Int} (h : GN N w) (hn : N ≤ N') : GN N' w := ⟨⟨h.1.1, by have := h.1.2; omega⟩, h.2⟩
theorem IC.mono {N' : Int} (h : IC N A w) (hn : N ≤ N') : IC N' A w := ⟨h.1, h.2.1, h.2.2.1, h.2.2.2.mono hn⟩
theorem WQ.mono {B B' : Int} (h : WQ B A) (hb : B ≤ B') : WQ B' A := ⟨h.1, h.2.1.mono hb, fun F hF => (h.2.2 F hF).mono hb⟩
theorem Inv.up (h : Inv n w) : Inv (n + 1) w := by
  obtain ⟨h0, A, h1, h2, h3⟩ := h
  exact ⟨by omega, A, h1.mono (by omega), h2.mono (by omega), h3⟩
theorem HS.cong (h : HS w H) (hw : ∀ b i, 38 ≤ b → b ≤ 103 → w' b i = w b i) : HS w' H := by
  obtain ⟨g1, g2, g3, g4⟩ := h
  have e : ∀ i, w' 39 i = w 39 i := fun i => hw 39 i (by decide) (by decide)
  refine ⟨by rw [hw 38 1 (by decide) (by decide)]; exact g1, fun i i0 i1 => by rw [e]; exact g2 i i0 i1, fun i j i0 ij j1 => by rw [e, e]; exact g3 i j i0 ij j1, fun i F hF => ?_⟩
  have hi : i < H.length := Classical.byContradiction (fun z => by
    rw [List.getElem?_eq_none (by omega)] at hF
    cases hF)
  have hk := g2 i (by omega) (by omega)
  rw [e]
  exact (g4 i F hF).cong (fun b j b0 b1 => hw b j (by unfold am_Kt at hk; omega) (by unfold am_Kt at hk; omega))
theorem HM.cong (h : HM w H) (h2 : w' 115 2 = w 115 2) (hw : ∀ i, w' 117 i = w 117 i) : HM w' H := by
  obtain ⟨g1, g2⟩ := h
  exact ⟨by rw [h2]; exact g1, fun i F hF => (g2 i F hF).cong (fun o _ _ => hw _)⟩
theorem GN.cong (h : GN N w) (h9 : w' 109 3 = w 109 3) (hw : ∀ i, w' 113 i = w 113 i) : GN N w' := ⟨by rw [h9]; exact h.1, fun c c0 c1 => by rw [h9, hw]; exact h.2 c c0 c1⟩
theorem MDt.cong {D : Dt} (h : MDt D w) (h1 : ∀ a i, 119 ≤ a → a ≤ 124 → w' a i = w a i) (h19 : w' 115 19 = w 115 19) (h20 : w' 115 20 = w 115 20) : MDt D w' := by
  obtain ⟨g1, g2, g3⟩ := h
  refine ⟨fun c hc => ?_, by rw [h19]; exact g2, by rw [h20]; exact g3⟩
  obtain ⟨q1, q2, q3, q4, q5⟩ := g1 c hc
  rw [h1 119 c (by decide) (by decide), h1 120 c (by decide) (by decide), h1 122 c (by decide) (by decide), h1 121 c (by decide) (by decide)]
  exact ⟨q1, q2, q3, q4, q5.cong (h1 _ _ (by decide) (by decide)) (fun i _ _ => h1 _ _ (by decide) (by decide))⟩
/-- only the scratch of the program has changed -/
theorem IC.fr (h : IC N A w) (hw : ∀ b i, b ≤ 114 → b ≠ 4 → b ≠ 5 → b ≠ 105 → b ≠ 114 → w' b i = w b i) : IC N A w' := by
  obtain ⟨⟨g1, g2⟩, g3, g4, g5⟩ := h
  refine ⟨⟨by rw [hw 2 1 (by decide) (by decide) (by decide) (by decide) (by decide)]; exact g1, fun j hj => by rw [hw 3 j (by decide) (by decide) (by decide) (by decide) (by decide)]; exact g2 j hj⟩, g3.cong (fun b i b0 b1 => hw b i (by omega) (by omega) (by omega) (by omega) (by omega)), g4.cong (fun b i b0 b1 => hw b i (by omega) (by omega) (by omega) (by omega) (by omega)), g5.cong (hw _ _ (by decide) (by decide) (by decide) (by decide) (by decide)) (fun i => hw _ _ (by decide) (by decide) (by decide) (by decide) (by decide))⟩
theorem IM.fr (h : IM A w) (hw : ∀ b i, 115 ≤ b → b ≤ 124 → ¬ (b = 115 ∧ (i = 23 ∨ i = 24 ∨ i = 25 ∨ i = 26 ∨ i = 27)) → w' b i = w b i) : IM A w' := by
  obtain ⟨⟨g1, g2⟩, g3, g4, g5, g6, g7⟩ := h
  have e : ∀ i, ¬ (i = 23 ∨ i = 24 ∨ i = 25 ∨ i = 26 ∨ i = 27) → w' 115 i = w 115 i := fun i hi => hw 115 i (by decide) (by decide) (fun z => hi z.2)
  refine ⟨⟨by rw [e 4 (by decide)]; exact g1, fun j hj => by rw [hw 118 j (by decide) (by decide) (by omega)]; exact g2 j hj⟩, g3.cong (fun o _ _ => hw 116 o (by decide) (by decide) (by omega)), g4.cong (e 2 (by decide)) (fun i => hw 117 i (by decide) (by decide) (by omega)), g5.cong (fun a i a0 a1 => hw a i (by omega) (by omega) (by omega)) (e 19 (by decide)) (e 20 (by decide)), by rw [e 42 (by decide)]; exact g6, by rw [e 43 (by decide)]; exact g7⟩
theorem IC.lo (h : IC N A w) (hw : ∀ b i, b ≤ 114 → w' b i = w b i) : IC N A w' := h.fr (fun b i q _ _ _ _ => hw b i q)
theorem IM.hi (h : IM A w) (hw : ∀ b i, 115 ≤ b → w' b i = w b i) : IM A w' := h.fr (fun b i q _ _ => hw b i q)
/-! the short calls -/
theorem cg_isCell {a : Int} (hd : 1 ≤ d) (kt : rng a → K 1 w) (kf : ¬ rng a → K 0 w) : C_X8_isCell d [.inl a] w K := s_isCell hd kt kf
theorem cm_isCell {a : Int} (hd : 2 ≤ d) (kt : rng a → K 1 w) (kf : ¬ rng a → K 0 w) : C_X9_isCell d [.inl a] w K := m_isCell hd (fun q => kt ⟨q.1, by omega⟩) (fun q => kf (fun z => q ⟨z.1, by have := z.2; omega⟩))
theorem c_value {a : Int} (hd : 10 ≤ d) (h : Inv n w) (k : ∀ x, K2 x x w) : C_X8_value d [.inr (.inr 1), .inl a] w (fun x w1 => C_X9_value d [.inr (.inr 115), .inl a] w1 (fun y w2 => K2 x y w2)) := by
  obtain ⟨h0, A, hW, hC, hM⟩ := h
  refine ⟨9, hd, e_X8_value (cg_isCell (by decide) (fun q => am_c1 ⟨q, ?_⟩) (fun q => am_c0 ?_))⟩
  · obtain ⟨c1, c2, _⟩ := hC.2.1.2.2.2.2.1 a q
    obtain ⟨m1, m2, _⟩ := hM.2.2.2.1.1 a q
    have e1 : w 13 a = A.2.1.2.2.2.2.1 a := c1
    have e2 : w 14 a = A.2.1.2.2.2.2.2.1 a := c2
    have hb := (hW.2.1.2.2.2.2.2.2.2.1 a q).2.2.1
    rw [e1, e2]
    refine ⟨fun z => ⟨9, hd, e_X9_value (cm_isCell (by decide) (fun _ => am_c1 ⟨q, ?_⟩) (fun y => absurd q y))⟩, fun z => ⟨q, 9, hd, e_X9_value (cm_isCell (by decide) (fun _ => am_c1 ⟨q, ?_⟩) (fun y => absurd q y))⟩⟩
    · rw [m2]
      exact ⟨fun y => by omega, fun _ => k _⟩
    · rw [m1, m2]
      exact ⟨fun _ => ⟨q, k _⟩, fun y => by omega⟩
  · exact ⟨9, hd, e_X9_value (cm_isCell (by decide) (fun y => absurd y q) (fun _ => am_c0 (k _)))⟩
theorem c_letterAt {a b : Int} (hd : 10 ≤ d) (h : Inv n w) (k : ∀ x, K2 x x w) : C_X8_letterAt d [.inr (.inr 1), .inl a, .inl b] w (fun x w1 => C_X9_letterAt d [.inr (.inr 115), .inl a, .inl b] w1 (fun y w2 => K2 x y w2)) := by
  obtain ⟨h0, A, hW, hC, hM⟩ := h
  refine ⟨9, hd, e_X8_letterAt (cg_isCell (by decide) (fun q => am_b1 ⟨fun qb => ⟨q, ?_⟩, fun qb => ?_⟩) (fun q => am_b0 ?_))⟩
  · obtain ⟨c1, c2, c3⟩ := hC.2.1.1 a q
    obtain ⟨_, m2, m3⟩ := hM.2.1.1 a q
    have e1 : w 9 a = (A.2.1.1.1 a).length := c2
    have hl := c1.1
    have hr := q
    unfold rng at hr
    rw [e1]
    refine ⟨fun z => ⟨8, by decide, e_X7_letter (s := 7) (am_St_1 (s := 6) (by unfold am_St; omega)) ⟨fun y => by omega, fun _ => ⟨q, ?_⟩⟩⟩, fun z => ?_⟩
    · rw [show (7 : Int) + 2 = 9 by decide, e1]
      refine ⟨fun y => by omega, fun _ => ⟨by omega, by omega, by omega, ?_⟩⟩
      have e2 := c3 b.toNat (by omega)
      have e3 := m3 b.toNat (by omega)
      rw [show ((b.toNat : Nat) : Int) = b by omega] at e2 e3
      rw [show (7 : Int) + 1 = 6 + 2 by decide, e2, ← e3]
      refine ⟨9, hd, e_X9_letterAt (cm_isCell (by decide) (fun _ => am_b1 ⟨fun _ => ⟨by omega, by omega, ?_⟩, fun y => absurd qb y⟩) (fun y => absurd q y))⟩
      rw [show (0 : Int) + a = a by omega, m2]
      refine ⟨fun y => by omega, fun _ => ⟨8, by decide, e_X9_letter ⟨by omega, by omega, by omega, by omega, ?_⟩⟩⟩
      exact k _
    · refine ⟨9, hd, e_X9_letterAt (cm_isCell (by decide) (fun _ => am_b1 ⟨fun _ => ⟨by omega, by omega, ?_⟩, fun y => absurd qb y⟩) (fun y => absurd q y))⟩
      rw [show (0 : Int) + a = a by omega, m2]
      exact ⟨fun _ => k _, fun y => by omega⟩
  · exact ⟨9, hd, e_X9_letterAt (cm_isCell (by decide) (fun _ => am_b1 ⟨fun y => absurd y qb, fun _ => k _⟩) (fun y => absurd q y))⟩
  · exact ⟨9, hd, e_X9_letterAt (cm_isCell (by decide) (fun y => absurd y q) (fun _ => am_b0 (k _)))⟩
theorem c_readAt {a b : Int} (hd : 10 ≤ d) (h : Inv n w) (k : ∀ x, K2 x x w) : C_X8_readAt d [.inr (.inr 1), .inl a, .inl b] w (fun x w1 => C_X9_readAt d [.inr (.inr 115), .inl a, .inl b] w1 (fun y w2 => K2 x y w2)) := by
  obtain ⟨h0, A, hW, hC, hM⟩ := h
  refine ⟨9, hd, e_X8_readAt (cg_isCell (by decide) (fun q => am_b1 ⟨fun qb => ⟨q, ?_⟩, fun qb => ?_⟩) (fun q => am_b0 ?_))⟩
  · have c5 := (hC.2.1.2.2.2.2.1 a q).2.2.2.2
    have m5 := (hM.2.2.2.1.1 a q).2.2.2.2
    have e1 : w 17 a = (A.2.1.2.2.2.2.2.2.1 a).length := c5.1
    have hl := c5.len
    have hr := q
    unfold rng at hr
    rw [e1]
    refine ⟨fun z => ?_, fun z => ⟨8, by decide, e_X5_readOf (by unfold am_St; omega) ⟨by omega, by omega, by omega, ?_⟩⟩⟩
    · refine ⟨9, hd, e_X9_readAt (cm_isCell (by decide) (fun _ => am_b1 ⟨fun _ => ⟨q, ?_⟩, fun y => absurd qb y⟩) (fun y => absurd q y))⟩
      rw [m5.1]
      exact ⟨fun _ => k _, fun y => absurd z y⟩
    · have e2 := c5.2.1 b.toNat (by omega)
      have e3 := m5.2.1 b.toNat (by omega)
      rw [show ((b.toNat : Nat) : Int) = b by omega] at e2 e3
      rw [e2, ← e3]
      refine ⟨9, hd, e_X9_readAt (cm_isCell (by decide) (fun _ => am_b1 ⟨fun _ => ⟨q, ?_⟩, fun y => absurd qb y⟩) (fun y => absurd q y))⟩
      rw [m5.1]
      refine ⟨fun y => absurd y z, fun _ => ⟨by omega, by omega, by omega, ?_⟩⟩
      rw [Int.mul_comm 72 a]
      exact k _
  · exact ⟨9, hd, e_X9_readAt (cm_isCell (by decide) (fun _ => am_b1 ⟨fun y => absurd y qb, fun _ => k _⟩) (fun y => absurd q y))⟩
  · exact ⟨9, hd, e_X9_readAt (cm_isCell (by decide) (fun y => absurd y q) (fun _ => am_b0 (k _)))⟩
theorem c_cause {a : Int} (hd : 10 ≤ d) (h : Inv n w) (k : ∀ x, K2 x x w) : C_X8_cause d [.inr (.inr 1), .inl a] w (fun x w1 => C_X9_cause d [.inr (.inr 115), .inl a] w1 (fun y w2 => K2 x y w2)) := by
  obtain ⟨h0, A, hW, hC, hM⟩ := h
  refine ⟨9, hd, e_X8_cause (cg_isCell (by decide) (fun q => am_c1 ⟨q, ?_⟩) (fun q => am_c0 ?_))⟩
  · have c3 := (hC.2.1.2.2.2.1 a q).2.2
    obtain ⟨_, m2, _, m4⟩ := hM.2.1.2.1 a q
    have e1 : w 21 a = A.2.1.1.2.2.2.2.2 a := c3
    have hr := q
    unfold rng at hr
    rw [e1]
    refine ⟨fun z => ⟨q, 9, hd, e_X9_cause (cm_isCell (by decide) (fun _ => am_c1 ⟨by omega, by omega, ?_⟩) (fun y => absurd q y))⟩, fun z => ⟨9, hd, e_X9_cause (cm_isCell (by decide) (fun _ => am_c1 ⟨by omega, by omega, ?_⟩) (fun y => absurd q y))⟩⟩
    · rw [m2, if_neg z, m4 z]
      exact ⟨fun y => absurd rfl y, fun _ => ⟨by omega, by omega, k _⟩⟩
    · rw [m2, if_pos z]
      exact ⟨fun _ => k _, fun y => by omega⟩
  · exact ⟨9, hd, e_X9_cause (cm_isCell (by decide) (fun y => absurd y q) (fun _ => am_c0 (k _)))⟩
/-- a formula's length told as 0 or 1 -/
theorem s_empty {tx : Int → List Int} {s c : Int} (hd : 1 ≤ d) (hs : am_St s) (hc : rng c) (hL : CL w s tx) (k : K (1 - emT tx c) w) : C_X5_isEmpty d [.inr (.inr s), .inl c] w K := by
  have hl := (hL c hc).2.1
  refine ⟨0, hd, e_X5_isEmpty hs ⟨hc, ?_⟩⟩
  rw [show s + 1 + 2 = s + 3 by omega, hl]
  unfold emT at k
  refine ⟨fun y => ?_, fun y => ?_⟩
  · rw [if_neg (fun q => y (by rw [q]; rfl))] at k; exact k
  · rw [if_pos (List.eq_nil_of_length_eq_zero (by omega))] at k; exact k
theorem m_empty {tx : Int → List Int} {c : Int} (hd : 1 ≤ d) (hc : rng c) (hL : ML w tx) (hg : w 115 42 = -1) (k : K (1 - emT tx c) w) : C_X9_isEmpty d [.inr (.inr 115), .inl c] w K := by
  have hl := (hL c hc).2.1
  have hr := hc
  unfold rng at hr
  refine ⟨0, hd, e_X9_isEmpty ?_⟩
  rw [show (0 : Int) + c = c by omega, hl, hg]
  unfold emT at k
  refine ⟨by omega, by omega, fun y => ?_, fun y => ⟨fun z => by omega, fun _ => ?_⟩⟩
  · rw [if_neg (fun q => y (by rw [q]; rfl))] at k; exact k
  · rw [if_pos (List.eq_nil_of_length_eq_zero (by omega))] at k; exact k
theorem emT_01 (tx : Int → List Int) (c : Int) : emT tx c = 0 ∨ emT tx c = 1 := by unfold emT; split; exact Or.inl rfl; exact Or.inr rfl
theorem c_cellOf {a b : Int} (hd : 10 ≤ d) (h : Inv n w) (k : ∀ x, K2 x x w) : C_X8_cellOf d [.inr (.inr 1), .inl a, .inl b] w (fun x w1 => C_X9_cellOf d [.inr (.inr 115), .inl a, .inl b] w1 (fun y w2 => K2 x y w2)) := by
  obtain ⟨h0, A, hW, hC, hM⟩ := h
  have h6 : am_St 6 := by unfold am_St; omega
  have out : ∀ x : Int, x = -2000000001 → (rng a → ¬ (0 ≤ b ∧ b ≤ 8)) → C_X9_cellOf d [.inr (.inr 115), .inl a, .inl b] w (fun y w2 => K2 x y w2) := fun x hx hn => by
    rw [hx]
    exact ⟨9, hd, e_X9_cellOf (cm_isCell (by decide) (fun q => am_b1 (m_in (by decide) (fun z => absurd z (hn q)) (fun _ => am_c0 (k _)))) (fun _ => am_b0 (k _)))⟩
  refine ⟨9, hd, e_X8_cellOf (cg_isCell (by decide) (fun q => am_b1 ⟨fun z => out _ rfl (fun _ => by omega), fun z => ⟨fun z2 => ⟨8, by decide, e_X5_fact h6 ?_⟩, fun z2 => out _ rfl (fun _ => by omega)⟩⟩) (fun q => am_b0 (out _ rfl (fun y => absurd y q))))⟩
  obtain ⟨c1, c2, c3, c4, c5⟩ := hC.2.1.2.2.2.2.1 a q
  obtain ⟨m1, m2, m3, m4, m5⟩ := hM.2.2.2.1.1 a q
  obtain ⟨p1, p2, p3⟩ := hC.2.1.2.2.2.1 a q
  obtain ⟨r1, r2, r3, r4⟩ := hM.2.1.2.1 a q
  have hlc := (hC.2.1.1 a q).2.1
  have hlm := (hM.2.1.1 a q).2.1
  have hk := (hW.2.1.2.2.2.2.2.2.2.1 a q).1
  have hr := q
  unfold rng at hr
  have ins : ∀ (K' : Int → Wd → Prop), ((b = 0 → (0 ≤ a ∧ a < 72) ∧ K' (w 120 a) w) ∧ ((b = 1 → (0 ≤ a ∧ a < 72) ∧ (((w 121 a) = 0 → (0 ≤ a ∧ a < 72) ∧ K' (w 122 a) w) ∧ (¬ (w 121 a) = 0 → K' (-2000000004) w))) ∧ ((b = 2 → (0 ≤ a ∧ a < 72) ∧ K' (w 123 a) w) ∧ ((b = 3 → C_X9_isEmpty 9 [.inr (.inr 115), .inl a] w (fun x3 w3 => ((x3 = 0 → K' 0 w3) ∧ (¬ x3 = 0 → K' 1 w3)))) ∧ ((b = 4 → (-2147483648 ≤ (2232 + a) ∧ (2232 + a) ≤ 2147483647) ∧ (0 ≤ (2232 + a) ∧ (2232 + a) < 2778) ∧ K' (w 116 (2232 + a)) w) ∧ ((b = 5 → (-2147483648 ≤ (2304 + a) ∧ (2304 + a) ≤ 2147483647) ∧ (0 ≤ (2304 + a) ∧ (2304 + a) < 2778) ∧ K' (w 116 (2304 + a)) w) ∧ ((b = 6 → (-2147483648 ≤ (2376 + a) ∧ (2376 + a) ≤ 2147483647) ∧ (0 ≤ (2376 + a) ∧ (2376 + a) < 2778) ∧ K' (w 116 (2376 + a)) w) ∧ ((b = 7 → (0 ≤ a ∧ a < 72) ∧ (((w 121 a) = 0 → K' 0 w) ∧ (¬ (w 121 a) = 0 → K' 1 w))) ∧ (b < 0 ∨ 7 < b → (-2147483648 ≤ (0 + a) ∧ (0 + a) ≤ 2147483647) ∧ (0 ≤ (0 + a) ∧ (0 + a) < 2778) ∧ K' (w 116 (0 + a)) w))))))))) → C_X9_cellOf d [.inr (.inr 115), .inl a, .inl b] w K' := fun K' hk' => ⟨9, hd, e_X9_cellOf (cm_isCell (by decide) (fun _ => am_b1 (m_in (by decide) (fun _ => am_c1 hk') (fun y => absurd ⟨by omega, by omega⟩ y))) (fun y => absurd q y))⟩
  rw [c2, c4, p1, p2, p3]
  rw [m2, m4, m3, m5.1, r1, r2, r3, show (0 : Int) + a = a by omega, hlm] at ins
  rw [c3, c5.1]
  have eL : (w (6 + 1 + 2) a) = (A.2.1.1.1 a).length := hlc
  rw [eL]
  refine ⟨fun z => ⟨q, ins _ ?_⟩, fun z => ⟨q, fun y => ⟨q, ins _ ?_⟩, fun y => ins _ ?_⟩, fun z => ⟨q, ins _ ?_⟩, fun z => s_empty (by decide) h6 q hC.2.1.1 ?_, fun z => ⟨q, ins _ ?_⟩, fun z => ⟨q, fun y => ins _ ?_, fun y => ins _ ?_⟩, fun z => ⟨q, ins _ ?_⟩, fun z => ⟨q, ins _ ?_⟩, fun z => ⟨q, ins _ ?_⟩⟩
  · exact ⟨fun _ => ⟨q, k _⟩, fun u => by omega, fun u => by omega, fun u => by omega, fun u => by omega, fun u => by omega, fun u => by omega, fun u => by omega, fun u => by omega⟩
  · exact ⟨fun u => by omega, fun _ => ⟨q, fun _ => ⟨q, k _⟩, fun u => by omega⟩, fun u => by omega, fun u => by omega, fun u => by omega, fun u => by omega, fun u => by omega, fun u => by omega, fun u => by omega⟩
  · exact ⟨fun u => by omega, fun _ => ⟨q, fun u => by omega, fun _ => k _⟩, fun u => by omega, fun u => by omega, fun u => by omega, fun u => by omega, fun u => by omega, fun u => by omega, fun u => by omega⟩
  · exact ⟨fun u => by omega, fun u => by omega, fun _ => ⟨q, k _⟩, fun u => by omega, fun u => by omega, fun u => by omega, fun u => by omega, fun u => by omega, fun u => by omega⟩
  · have e3 : ∀ x : Int, (x = 0 ∧ 1 - emT A.2.1.1.1 a = 0 ∨ x = 1 ∧ 1 - emT A.2.1.1.1 a ≠ 0) → C_X9_cellOf d [.inr (.inr 115), .inl a, .inl b] w (fun y w2 => K2 x y w2) := fun x hx => ins _ ⟨fun u => by omega, fun u => by omega, fun u => by omega, fun _ => m_empty (by decide) q hM.2.1.ml hM.2.2.2.2.1 ⟨fun u => by rw [show x = 0 by omega]; exact k _, fun u => by rw [show x = 1 by omega]; exact k _⟩, fun u => by omega, fun u => by omega, fun u => by omega, fun u => by omega, fun u => by omega⟩
    exact ⟨fun u => e3 0 (Or.inl ⟨rfl, u⟩), fun u => e3 1 (Or.inr ⟨rfl, u⟩)⟩
  · exact ⟨fun u => by omega, fun u => by omega, fun u => by omega, fun u => by omega, fun _ => ⟨by omega, by omega, k _⟩, fun u => by omega, fun u => by omega, fun u => by omega, fun u => by omega⟩
  · exact ⟨fun u => by omega, fun u => by omega, fun u => by omega, fun u => by omega, fun u => by omega, fun _ => ⟨by omega, by omega, by rw [if_neg y]; exact k _⟩, fun u => by omega, fun u => by omega, fun u => by omega⟩
  · exact ⟨fun u => by omega, fun u => by omega, fun u => by omega, fun u => by omega, fun u => by omega, fun _ => ⟨by omega, by omega, by rw [if_pos y]; exact k _⟩, fun u => by omega, fun u => by omega, fun u => by omega⟩
  · exact ⟨fun u => by omega, fun u => by omega, fun u => by omega, fun u => by omega, fun u => by omega, fun u => by omega, fun _ => ⟨by omega, by omega, k _⟩, fun u => by omega, fun u => by omega⟩
  · exact ⟨fun u => by omega, fun u => by omega, fun u => by omega, fun u => by omega, fun u => by omega, fun u => by omega, fun u => by omega, fun _ => ⟨q, fun u => by rw [u]; exact k _, fun u => by rw [hk.resolve_left u]; exact k _⟩, fun u => by omega⟩
  · exact ⟨fun u => by omega, fun u => by omega, fun u => by omega, fun u => by omega, fun u => by omega, fun u => by omega, fun u => by omega, fun u => by omega, fun _ => ⟨by omega, by omega, k _⟩⟩
end IVS
