/-! ===== THE SHEET: formulas, what waits, rounds, runs, changes, causes; and what it is worth ===== -/
abbrev Pg : Type := (Int → List Int) × (Int → Option (List Int)) × Int × (Int → Int) × (Int → Int) × (Int → Int)
abbrev Dt : Type := (Int → Int) × (Int → Int) × Int × RSt
abbrev Fs : Type := Pg × Dt
def CWt (w : Wd) (st : Int) (wt : Int → Option (List Int)) : Prop := ∀ c, rng c → (wt c = none → w (st + 6) c = -1) ∧ ∀ L, wt c = some L → Wf L ∧ w (st + 6) c = L.length ∧ ∀ j : Nat, j < L.length → w (st + 5) (c * 30 + j) = L.getD j 0
/-- a state of the program holds a sheet -/
def CS (w : Wd) (st : Int) (F : Fs) : Prop := CL w st F.1.1 ∧ CWt w st F.1.2.1 ∧ w st 11 = F.1.2.2.1 ∧ (∀ c, rng c → w (st + 13) c = F.1.2.2.2.1 c ∧ w (st + 14) c = F.1.2.2.2.2.1 c ∧ w (st + 15) c = F.1.2.2.2.2.2 c) ∧ (∀ c, rng c → w (st + 7) c = F.2.2.2.2.1 c ∧ w (st + 8) c = F.2.2.2.2.2.1 c ∧ w (st + 9) c = F.2.2.1 c ∧ w (st + 10) c = F.2.1 c ∧ RdL w (st + 11) (st + 12) c (F.2.2.2.2.2.2.1 c)) ∧ w st 12 = F.2.2.2.1 ∧ w st 13 = F.2.2.2.2.2.2.2
def CpS (w : Wd) (a : Int) (w' : Wd) (s : Int) : Prop := (∀ j i, ((j = 2 ∨ j = 5) ∧ 0 ≤ i ∧ i < 2160) ∨ (j = 12 ∧ 0 ≤ i ∧ i < 5184) ∨ ((j = 3 ∨ j = 6 ∨ (7 ≤ j ∧ j ≤ 11) ∨ (13 ≤ j ∧ j ≤ 15)) ∧ 0 ≤ i ∧ i < 72) → w' (s + j) i = w (a + j) i) ∧ w' s 11 = w a 11 ∧ w' s 12 = w a 12 ∧ w' s 13 = w a 13
section STS
variable {w w0 w1 w' : Wd} {d : Nat} {K : Int → Wd → Prop} {KV : Wd → Prop} {s a st : Int} {F : Fs} {H : List Fs}
theorem CS.cp (h : CS w a F) (hc : CpS w a w' s) : CS w' s F := by
  obtain ⟨h1, h2, h3, h4, h5, h6, h7⟩ := h
  obtain ⟨c1, c2, c3, c4⟩ := hc
  have c72 : ∀ j i, (j = 3 ∨ j = 6 ∨ (7 ≤ j ∧ j ≤ 11) ∨ (13 ≤ j ∧ j ≤ 15)) → rng i → w' (s + j) i = w (a + j) i := fun j i hj hi => c1 j i (Or.inr (Or.inr ⟨hj, hi.1, hi.2⟩))
  refine ⟨fun c hc => ?_, fun c hc => ⟨fun q => ?_, fun L q => ?_⟩, by rw [c2]; exact h3, fun c hc => ?_, fun c hc => ?_, by rw [c3]; exact h6, by rw [c4]; exact h7⟩
  · obtain ⟨q1, q2, q3⟩ := h1 c hc
    have hl := q1.1
    have hr := hc
    unfold rng at hr
    exact ⟨q1, by rw [c72 3 c (by omega) hc]; exact q2, fun j hj => by rw [c1 2 _ (by omega)]; exact q3 j hj⟩
  · rw [c72 6 c (by omega) hc]; exact (h2 c hc).1 q
  · obtain ⟨q1, q2, q3⟩ := (h2 c hc).2 L q
    have hl := q1.1
    have hr := hc
    unfold rng at hr
    exact ⟨q1, by rw [c72 6 c (by omega) hc]; exact q2, fun j hj => by rw [c1 5 _ (by omega)]; exact q3 j hj⟩
  · rw [c72 13 c (by omega) hc, c72 14 c (by omega) hc, c72 15 c (by omega) hc]; exact h4 c hc
  · obtain ⟨q1, q2, q3, q4, q5⟩ := h5 c hc
    have hl := q5.len
    have hr := hc
    unfold rng at hr
    rw [c72 7 c (by omega) hc, c72 8 c (by omega) hc, c72 9 c (by omega) hc, c72 10 c (by omega) hc]
    exact ⟨q1, q2, q3, q4, by rw [c72 11 c (by omega) hc]; exact q5.1, fun j hj => by rw [c1 12 _ (by omega)]; exact q5.2.1 j hj, q5.2.2⟩
theorem CS.cong (h : CS w s F) (hw : ∀ b i, s ≤ b → b ≤ s + 15 → w' b i = w b i) : CS w' s F :=
  h.cp ⟨fun j i hj => hw _ i (by omega) (by omega), hw s 11 (by omega) (by omega), hw s 12 (by omega) (by omega), hw s 13 (by omega) (by omega)⟩
theorem wcopy_in {b dp k i sp : Int} (h : dp ≤ i ∧ i < dp + k) : wcopy w a sp b dp k b i = w a (sp + (i - dp)) := if_pos ⟨rfl, h⟩
theorem wcopy_ne {b dp k i sp c : Int} (h : ¬ (c = b ∧ dp ≤ i ∧ i < dp + k)) : wcopy w a sp b dp k c i = w c i := if_neg h
theorem s_TxAll (hd : 3 ≤ d) {a s : Int} (hs : am_Tx s) (ha : am_Tx a) (k : ∀ w', w' = wcopy (wcopy w (a + 1) 0 (s + 1) 0 2160) (a + 2) 0 (s + 2) 0 72 → KV w') : C_X7_takeAll d [.inr (.inr s), .inr (.inr a)] w KV := by
  refine ⟨2, hd, e_X7_takeAll hs ha (by decide) ?_⟩
  rintro w1 rfl w2 rfl
  exact k _ rfl
/-- a state is taken over by another one -/
theorem s_StAll (hd : 5 ≤ d) (hs : am_St s) (ha : am_St a) (hsa : s ≠ a) (h13 : w a 13 = 0 ∨ w a 13 = 1) (k : ∀ w', CpS w a w' s → (∀ b i, ¬ (s ≤ b ∧ b ≤ s + 15) → w' b i = w b i) → KV w') : C_X5_takeAll d [.inr (.inr s), .inr (.inr a)] w KV := by
  have hdj : s + 15 < a ∨ a + 15 < s := by unfold am_St at hs ha; omega
  refine ⟨4, hd, e_X5_takeAll hs ha (by decide) (s_TxAll (by decide) (am_St_1 hs) (am_St_1 ha) ?_)⟩
  rintro w1 rfl
  refine s_TxAll (by decide) (am_St_4 hs) (am_St_4 ha) ?_
  rintro w2 rfl w3 rfl w4 rfl w5 rfl w6 rfl w7 rfl w8 rfl w9 rfl w10 rfl w11 rfl w12 rfl w13 rfl
  generalize hw11 : wcopy (wcopy (wcopy (wcopy (wcopy (wcopy (wcopy (wcopy (wcopy (wcopy (wcopy (wcopy (wcopy w (a + 1 + 1) 0 (s + 1 + 1) 0 2160) (a + 1 + 2) 0 (s + 1 + 2) 0 72) (a + 4 + 1) 0 (s + 4 + 1) 0 2160) (a + 4 + 2) 0 (s + 4 + 2) 0 72) (a + 7) 0 (s + 7) 0 72) (a + 8) 0 (s + 8) 0 72) (a + 9) 0 (s + 9) 0 72) (a + 10) 0 (s + 10) 0 72) (a + 11) 0 (s + 11) 0 72) (a + 12) 0 (s + 12) 0 5184) (a + 13) 0 (s + 13) 0 72) (a + 14) 0 (s + 14) 0 72) (a + 15) 0 (s + 15) 0 72 = w11
  have off : ∀ b i, ¬ (s + 2 ≤ b ∧ b ≤ s + 15) → w11 b i = w b i := fun b i hb => by
    rw [← hw11]
    rw [wcopy_ne (by omega), wcopy_ne (by omega), wcopy_ne (by omega), wcopy_ne (by omega), wcopy_ne (by omega), wcopy_ne (by omega), wcopy_ne (by omega), wcopy_ne (by omega), wcopy_ne (by omega), wcopy_ne (by omega), wcopy_ne (by omega), wcopy_ne (by omega), wcopy_ne (by omega)]
  have cp : ∀ j i, ((j = 2 ∨ j = 5) ∧ 0 ≤ i ∧ i < 2160) ∨ (j = 12 ∧ 0 ≤ i ∧ i < 5184) ∨ ((j = 3 ∨ j = 6 ∨ (7 ≤ j ∧ j ≤ 11) ∨ (13 ≤ j ∧ j ≤ 15)) ∧ 0 ≤ i ∧ i < 72) → w11 (s + j) i = w (a + j) i := fun j i hj => by
    have e0 : (0 : Int) + (i - 0) = i := by omega
    have e1 : s + 1 + 1 = s + 2 := by omega
    have e2 : s + 1 + 2 = s + 3 := by omega
    have e3 : s + 4 + 1 = s + 5 := by omega
    have e4 : s + 4 + 2 = s + 6 := by omega
    have f1 : a + 1 + 1 = a + 2 := by omega
    have f2 : a + 1 + 2 = a + 3 := by omega
    have f3 : a + 4 + 1 = a + 5 := by omega
    have f4 : a + 4 + 2 = a + 6 := by omega
    rw [e1, e2, e3, e4, f1, f2, f3, f4] at hw11
    rw [← hw11]
    have : j = 2 ∨ j = 3 ∨ j = 5 ∨ j = 6 ∨ j = 7 ∨ j = 8 ∨ j = 9 ∨ j = 10 ∨ j = 11 ∨ j = 12 ∨ j = 13 ∨ j = 14 ∨ j = 15 := by omega
    rcases this with rfl | rfl | rfl | rfl | rfl | rfl | rfl | rfl | rfl | rfl | rfl | rfl | rfl <;>
    repeat (first | (rw [wcopy_ne (by omega)]; done) | rw [wcopy_in (by omega), e0] | rw [wcopy_ne (by omega)])
  rw [show wset w11 s 11 (w11 a 11) a 12 = w a 12 by rw [wset_at (by omega), off a 12 (by omega)], off a 11 (by omega)]
  rw [show wset (wset w11 s 11 (w a 11)) s 12 (w a 12) a 13 = w a 13 by rw [wset_at (by omega), wset_at (by omega), off a 13 (by omega)]]
  refine ⟨h13, ?_⟩
  rintro w14 rfl
  refine k _ ⟨fun j i hj => ?_, ?_, ?_, ?_⟩ (fun b i hb => ?_)
  · rw [wset_at (by omega), wset_at (by omega), wset_at (by omega)]
    exact cp j i hj
  · rw [wset_at (by omega), wset_at (by omega), wset_eq]
  · rw [wset_at (by omega), wset_eq]
  · rw [wset_eq]
  · rw [wset_at (by omega), wset_at (by omega), wset_at (by omega)]
    exact off b i (by omega)
def am_Kt (x : Int) : Prop := x = 40 ∨ x = 56 ∨ x = 72 ∨ x = 88
theorem Kt_St {x : Int} (h : am_Kt x) : am_St x := by unfold am_Kt at h; unfold am_St; omega
theorem Kt_dj {x y : Int} (hx : am_Kt x) (hy : am_Kt y) (h : x ≠ y) : x + 15 < y ∨ y + 15 < x := by
  unfold am_Kt at hx hy
  rcases hx with rfl | rfl | rfl | rfl <;> rcases hy with rfl | rfl | rfl | rfl <;> first | (exact absurd rfl h) | omega
/-- the latest sheets -/
def HS (w : Wd) (H : List Fs) : Prop := (w 38 1 = H.length ∧ H.length ≤ 4) ∧ (∀ i, 0 ≤ i → i < 4 → am_Kt (w 39 i)) ∧ (∀ i j, 0 ≤ i → i < j → j < 4 → w 39 i ≠ w 39 j) ∧ ∀ (i : Nat) F, H[i]? = some F → CS w (w 39 i) F
def keepH (H : List Fs) (F : Fs) : List Fs := (if H.length < 4 then H else H.tail) ++ [F]
theorem s_keep1 (hd : 5 ≤ d) (h4 : H.length < 4) (h13 : F.2.2.2.2.2.2.2 = 0 ∨ F.2.2.2.2.2.2.2 = 1) (hH : HS w H) (hC : CS w 6 F) (k : ∀ x w', am_Kt x → HS w' (H ++ [F]) → CS w' x F → (∀ b i, b < 38 ∨ 104 ≤ b → w' b i = w b i) → (∀ i, i ≠ 1 → w' 38 i = w 38 i) → K x w') :
    (0 ≤ (w 38 1) ∧ (w 38 1) < 4) ∧ am_St (w 39 (w 38 1)) ∧ C_X5_takeAll d [.inr (.inr (w 39 (w 38 1))), .inr (.inr 6)] w (fun w1 => (-2147483648 ≤ ((w1 38 1) + 1) ∧ ((w1 38 1) + 1) ≤ 2147483647) ∧ (∀ w2, w2 = wset w1 38 1 ((w1 38 1) + 1) → K (w 39 (w 38 1)) w2)) := by
  obtain ⟨⟨g1, g2⟩, g3, g4, g5⟩ := hH
  have hx := g3 (w 38 1) (by omega) (by omega)
  refine ⟨by omega, Kt_St hx, s_StAll hd (Kt_St hx) (by unfold am_St; omega) (by unfold am_Kt at hx; omega) (by rw [hC.2.2.2.2.2.2]; exact h13) (fun w1 hcp hoff => ?_)⟩
  have hxr : 40 ≤ w 39 (w 38 1) ∧ w 39 (w 38 1) ≤ 88 := by unfold am_Kt at hx; omega
  rw [hoff 38 1 (by omega)]
  refine ⟨by omega, ?_⟩
  rintro w2 rfl
  have e39 : ∀ i, wset w1 38 1 (w 38 1 + 1) 39 i = w 39 i := fun i => by rw [wset_at (by omega), hoff 39 i (by omega)]
  refine k _ _ hx ⟨⟨?_, ?_⟩, fun i i0 i1 => by rw [e39]; exact g3 i i0 i1, fun i j i0 ij j1 => by rw [e39, e39]; exact g4 i j i0 ij j1, fun i F' hF => ?_⟩ ((hC.cp hcp).cong (fun b i b0 b1 => by rw [wset_at (by omega)])) (fun b i hb => by rw [wset_at (by omega), hoff b i (by omega)]) (fun i hi => by rw [wset_at (by omega), hoff 38 i (by omega)])
  · rw [wset_eq, g1, List.length_append, List.length_singleton]; rfl
  · rw [List.length_append, List.length_singleton]; omega
  · rw [e39]
    by_cases q : i < H.length
    · rw [List.getElem?_append_left q] at hF
      have hne := g4 i (w 38 1) (by omega) (by omega) (by omega)
      have hxi := g3 i (by omega) (by omega)
      have hdj := Kt_dj hxi hx hne
      have hxi2 : 40 ≤ w 39 (i : Int) := by unfold am_Kt at hxi; omega
      exact (g5 i F' hF).cong (fun b j b0 b1 => by rw [wset_at (by omega), hoff b j (by omega)])
    · rw [List.getElem?_append_right (by omega)] at hF
      have ei : i = H.length := by
        by_cases z : i - H.length = 0
        · omega
        · have : ([F] : List Fs)[i - H.length]? = none := List.getElem?_eq_none (by simp only [List.length_cons, List.length_nil]; omega)
          rw [this] at hF
          cases hF
      rw [ei, Nat.sub_self] at hF
      have : F' = F := (Option.some.inj hF).symm
      rw [this, ei, ← g1]
      exact (hC.cp hcp).cong (fun b i b0 b1 => by rw [wset_at (by omega)])
theorem s_keep (hd : 7 ≤ d) (h13 : F.2.2.2.2.2.2.2 = 0 ∨ F.2.2.2.2.2.2.2 = 1) (hH : HS w H) (hC : CS w 6 F) (k : ∀ x w', am_Kt x → HS w' (keepH H F) → CS w' x F → (∀ b i, b < 38 ∨ 104 ≤ b → w' b i = w b i) → (∀ i, i ≠ 1 → w' 38 i = w 38 i) → K x w') : C_X4_keep d [.inr (.inr 38), .inr (.inr 6)] w K := by
  have hlen := hH.1
  refine ⟨6, hd, e_X4_keep (by unfold am_St; omega) ⟨fun q => ?_, fun q => ?_⟩⟩
  · have e : keepH H F = H ++ [F] := by unfold keepH; rw [if_pos (by omega)]
    rw [e] at k
    exact s_keep1 (by decide) (by omega) h13 hH hC k
  · have e : keepH H F = H.tail ++ [F] := by unfold keepH; rw [if_neg (by omega)]
    rw [e] at k
    obtain ⟨⟨g1, g2⟩, g3, g4, g5⟩ := hH
    have k0 := g3 0 (by decide) (by decide)
    have k1 := g3 1 (by decide) (by decide)
    have k2 := g3 2 (by decide) (by decide)
    have k3 := g3 3 (by decide) (by decide)
    refine ⟨5, by decide, e_X4_dropOldest ⟨Kt_St k0, v_X4_dropOldest_9 (Kt_St k0) ⟨fun z => by omega, fun _ => ⟨by decide, by decide, by decide, Kt_St k1, ?_⟩⟩⟩⟩
    rintro w1 rfl
    refine ⟨by decide, v_X4_dropOldest_9 (Kt_St k0) ⟨fun z => by omega, fun _ => ⟨by decide, by decide, by decide, ?_, ?_⟩⟩⟩
    · rw [show (1 : Int) + 1 = 2 by decide, wset_at (by omega)]; exact Kt_St k2
    rintro w2 rfl
    refine ⟨by decide, v_X4_dropOldest_9 (Kt_St k0) ⟨fun z => by omega, fun _ => ⟨by decide, by decide, by decide, ?_, ?_⟩⟩⟩
    · rw [show (1 : Int) + 1 + 1 = 3 by decide, wset_at (by omega), wset_at (by omega)]; exact Kt_St k3
    rintro w3 rfl
    refine ⟨by decide, v_X4_dropOldest_9 (Kt_St k0) ⟨fun _ => ?_, fun z => absurd (by decide) z⟩⟩
    rintro w4 rfl w5 rfl
    rw [show (1 : Int) - 1 = 0 by decide, show (1 : Int) + 1 = 2 by decide, show (2 : Int) + 1 = 3 by decide, show (2 : Int) - 1 = 1 by decide, show (3 : Int) - 1 = 2 by decide]
    rw [show wset w 39 0 (w 39 1) 39 2 = w 39 2 by rw [wset_at (by omega)]]
    rw [show wset (wset w 39 0 (w 39 1)) 39 1 (w 39 2) 39 3 = w 39 3 by rw [wset_at (by omega), wset_at (by omega)]]
    generalize hw5 : wset (wset (wset (wset (wset w 39 0 (w 39 1)) 39 1 (w 39 2)) 39 2 (w 39 3)) 39 3 (w 39 0)) 38 1 3 = w5
    have off : ∀ b i, b ≠ 39 → ¬ (b = 38 ∧ i = 1) → w5 b i = w b i := fun b i q1 q2 => by
      rw [← hw5, wset_at (by omega), wset_at (by omega), wset_at (by omega), wset_at (by omega), wset_at (by omega)]
    have r0 : w5 39 0 = w 39 1 := by rw [← hw5, wset_at (by omega), wset_at (by omega), wset_at (by omega), wset_at (by omega), wset_eq]
    have r1 : w5 39 1 = w 39 2 := by rw [← hw5, wset_at (by omega), wset_at (by omega), wset_at (by omega), wset_eq]
    have r2 : w5 39 2 = w 39 3 := by rw [← hw5, wset_at (by omega), wset_at (by omega), wset_eq]
    have r3 : w5 39 3 = w 39 0 := by rw [← hw5, wset_at (by omega), wset_eq]
    have rs : w5 38 1 = 3 := by rw [← hw5, wset_eq]
    have hl4 : H.length = 4 := by omega
    have n01 := g4 0 1 (by decide) (by decide) (by decide)
    have n02 := g4 0 2 (by decide) (by decide) (by decide)
    have n03 := g4 0 3 (by decide) (by decide) (by decide)
    have n12 := g4 1 2 (by decide) (by decide) (by decide)
    have n13 := g4 1 3 (by decide) (by decide) (by decide)
    have n23 := g4 2 3 (by decide) (by decide) (by decide)
    have hH5 : HS w5 H.tail := by
      refine ⟨⟨by rw [rs, List.length_tail, hl4]; rfl, by rw [List.length_tail]; omega⟩, fun i i0 i1 => ?_, fun i j i0 ij j1 => ?_, fun i F' hF => ?_⟩
      · have : i = 0 ∨ i = 1 ∨ i = 2 ∨ i = 3 := by omega
        rcases this with rfl | rfl | rfl | rfl
        · rw [r0]; exact k1
        · rw [r1]; exact k2
        · rw [r2]; exact k3
        · rw [r3]; exact k0
      · have : i = 0 ∧ j = 1 ∨ i = 0 ∧ j = 2 ∨ i = 0 ∧ j = 3 ∨ i = 1 ∧ j = 2 ∨ i = 1 ∧ j = 3 ∨ i = 2 ∧ j = 3 := by omega
        rcases this with ⟨rfl, rfl⟩ | ⟨rfl, rfl⟩ | ⟨rfl, rfl⟩ | ⟨rfl, rfl⟩ | ⟨rfl, rfl⟩ | ⟨rfl, rfl⟩
        · rw [r0, r1]; exact n12
        · rw [r0, r2]; exact n13
        · rw [r0, r3]; exact fun z => n01 z.symm
        · rw [r1, r2]; exact n23
        · rw [r1, r3]; exact fun z => n02 z.symm
        · rw [r2, r3]; exact fun z => n03 z.symm
      · rw [List.getElem?_tail] at hF
        have hi : i + 1 < H.length := Classical.byContradiction (fun z => by
          rw [List.getElem?_eq_none (by omega)] at hF
          cases hF)
        have e39 : w5 39 (i : Int) = w 39 ((i + 1 : Nat) : Int) := by
          have : i = 0 ∨ i = 1 ∨ i = 2 := by omega
          rcases this with rfl | rfl | rfl
          · exact r0
          · exact r1
          · exact r2
        rw [e39]
        have hki := g3 ((i + 1 : Nat) : Int) (by omega) (by omega)
        exact (g5 (i + 1) F' hF).cong (fun b j b0 b1 => off b j (by unfold am_Kt at hki; omega) (by unfold am_Kt at hki; omega))
    have hC5 : CS w5 6 F := hC.cong (fun b i b0 b1 => off b i (by omega) (by omega))
    exact s_keep1 (w := w5) (by decide) (by rw [List.length_tail]; omega) h13 hH5 hC5 (fun x w' p1 p2 p3 p4 p5 => k x w' p1 p2 p3 (fun b i hb => by rw [p4 b i hb]; exact off b i (by omega) (by omega)) (fun i hi => by rw [p5 i hi]; exact off 38 i (by omega) (by omega)))
end STS
