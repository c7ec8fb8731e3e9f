/-! the calls that change a sheet: undo, drop -/
section JBS
variable {w w0 w1 w' : Wd} {d : Nat} {K : Int → Wd → Prop} {KV : Wd → Prop} {K2 : Int → Int → Wd → Prop} {n N : Int} {A : AS} {F F0 : Fs} {H : List Fs} {tx : Int → List Int} {wt : Int → Option (List Int)} {D : Dt}
theorem h_last (h : H ≠ []) : ∃ F, H[H.length - 1]? = some F ∧ F ∈ H := by
  have hl : H.length ≠ 0 := fun z => h (List.eq_nil_of_length_eq_zero z)
  refine ⟨H[H.length - 1]'(by omega), List.getElem?_eq_getElem (by omega), List.getElem_mem _⟩
theorem h_drop {i : Nat} (hF : H.dropLast[i]? = some F) : i + 1 < H.length ∧ H[i]? = some F := by
  rw [List.getElem?_dropLast] at hF
  by_cases q : i < H.length - 1
  · rw [if_pos q] at hF
    exact ⟨by omega, hF⟩
  · rw [if_neg q] at hF
    cases hF
theorem c_undo (hd : 100 ≤ d) (h : Inv n w) (k : ∀ x w', Inv (n + 1) w' → K2 x x w') : C_X8_undo d [.inr (.inr 1)] w (fun x w1 => C_X9_undo d [.inr (.inr 115)] w1 (fun y w2 => K2 x y w2)) := by
  have hI := h
  obtain ⟨h0, A, hW, hC, hM⟩ := h
  have h6 : am_St 6 := by unfold am_St; omega
  obtain ⟨⟨g1, g2⟩, g3, g4, g5⟩ := id hC.2.2.1
  obtain ⟨⟨m1, _⟩, m2⟩ := id hM.2.2.1
  refine ⟨99, by omega, e_X8_undo ⟨fun hne => ?_, fun he => ?_⟩⟩
  · have hH : A.2.2 ≠ [] := fun z => hne (by rw [g1, z]; rfl)
    obtain ⟨F, hF, hmem⟩ := h_last hH
    have hWF := hW.2.2 F hmem
    obtain ⟨p1, p2, p3, p4, p5, p6, p7, p8⟩ := id hWF
    have hl : 0 < A.2.2.length := List.length_pos_iff.mpr hH
    have hcast : ((A.2.2.length - 1 : Nat) : Int) = (A.2.2.length : Int) - 1 := by omega
    have hst := g3 ((A.2.2.length : Int) - 1) (by omega) (by omega)
    have hCSF := g5 (A.2.2.length - 1) F hF
    rw [hcast] at hCSF
    refine ⟨98, by decide, e_X4_giveBack h6 ⟨fun z => by omega, fun _ => ⟨by omega, ?_⟩⟩⟩
    rintro w1 rfl
    rw [wset_eq, g1, wset_at (by omega)]
    have hsr : 40 ≤ w 39 ((A.2.2.length : Int) - 1) ∧ w 39 ((A.2.2.length : Int) - 1) ≤ 88 := by unfold am_Kt at hst; omega
    have hCSF1 : CS (wset w 38 1 ((A.2.2.length : Int) - 1)) (w 39 ((A.2.2.length : Int) - 1)) F := hCSF.cong (fun b i b0 b1 => by rw [wset_at (by omega)])
    refine ⟨by omega, s_StAll (by decide) h6 (Kt_St hst) (by omega) (by rw [hCSF1.2.2.2.2.2.2]; exact p8.2) (fun w2 hcp hoff => ?_)⟩
    have hCS2 := hCSF1.cp hcp
    have o2 : ∀ b i, ¬ (6 ≤ b ∧ b ≤ 21) → ¬ (b = 38 ∧ i = 1) → w2 b i = w b i := fun b i q1 q2 => by rw [hoff b i (by omega), wset_at (by omega)]
    have e38 : w2 38 1 = (A.2.2.length : Int) - 1 := by rw [hoff 38 1 (by omega), wset_eq]
    rw [e38]
    have hHS2 : HS w2 A.2.2.dropLast := by
      have e : ∀ i, w2 39 i = w 39 i := fun i => o2 39 i (by omega) (by omega)
      refine ⟨⟨by rw [e38, List.length_dropLast]; omega, by rw [List.length_dropLast]; omega⟩, fun i i0 i1 => by rw [e]; exact g3 i i0 i1, fun i j i0 ij j1 => by rw [e, e]; exact g4 i j i0 ij j1, fun i F' hF' => ?_⟩
      obtain ⟨t1, t2⟩ := h_drop hF'
      have hk := g3 i (by omega) (by omega)
      rw [e]
      exact (g5 i F' t2).cong (fun b j b0 b1 => o2 b j (by unfold am_Kt at hk; omega) (by unfold am_Kt at hk; omega))
    have hM2 := hM.hi (w' := w2) (fun b i q => o2 b i (by omega) (by omega))
    obtain ⟨⟨mm1, _⟩, mm2⟩ := id hM2.2.2.1
    refine ⟨99, by omega, e_X9_undo ⟨fun _ => ?_, fun z => by omega⟩⟩
    rw [mm1]
    refine ⟨by omega, ?_⟩
    rintro w3 rfl
    -- the page comes back
    have loop : ∀ (j : Nat) (v : Int) (w4 : Wd), v + j = 2778 → 0 ≤ v → (∀ b i, ¬ (b = 116 ∧ 0 ≤ i ∧ i < 2778) → w4 b i = wset w2 115 2 ((A.2.2.length : Int) - 1) b i) → (∀ i, 0 ≤ i → i < v → w4 116 i = w2 117 (2778 * ((A.2.2.length : Int) - 1) + i)) → W_X9_undo 99 22 [some (.inr (.inr 115)), some (.inl v)] [] w4 (fun y w2 => K2 ((A.2.2.length : Int) - 1) y w2) := by
      intro j
      induction j with
      | zero =>
        intro v w4 hv v0 ho hp
        have hPF : PgM (w4 116) F.1 := (mm2 (A.2.2.length - 1) F hF).cong (fun o o0 o1 => by
          rw [hp o o0 (by omega), hcast])
        have e42 : w4 115 42 = -1 := by rw [ho _ _ (by omega), wset_at (by omega)]; exact hM2.2.2.2.2.1
        have e43 : PV (w4 115 43) := by rw [ho _ _ (by omega), wset_at (by omega)]; exact hM2.2.2.2.2.2
        have e2520 : w4 116 2520 = F.1.2.2.1 := hPF.2.2.1
        refine v_X9_undo_22 ⟨fun _ => m_settle0 (D := F.2) (by decide) hPF.ml p2 e42 e43 (by rw [e2520]; exact p5) (by rw [e2520]; exact p7) (fun w5 hFS hMD => ?_), fun z => by omega⟩
        have o5 : ∀ b i, b ≤ 114 ∨ b = 117 ∨ b = 118 ∨ (b = 115 ∧ (i = 4 ∨ i = 42 ∨ i = 43)) → w5 b i = w2 b i := fun b i q => by
          rw [hFS b i (by omega) (by omega) (by omega) (by omega), ho b i (by omega), wset_at (by omega)]
        have e2 : w5 115 2 = (A.2.2.length : Int) - 1 := by rw [hFS _ _ (by omega) (by omega) (by omega) (by omega), ho _ _ (by omega), wset_eq]
        rw [e2]
        refine k _ w5 ⟨by omega, (A.1, F, A.2.2.dropLast), ⟨hW.1, hWF.mono (by omega), fun F' hm => (hW.2.2 F' (List.dropLast_subset _ hm)).mono (by omega)⟩, ⟨⟨?_, fun j hj => ?_⟩, hCS2.cong (fun b i b0 b1 => ?_), hHS2.cong (fun b i b0 b1 => ?_), ((hC.2.2.2).mono (by omega)).cong ?_ (fun i => ?_)⟩, ⟨⟨?_, fun j hj => ?_⟩, hPF.cong (fun o _ _ => hFS 116 o (by omega) (by omega) (by omega) (by omega)), ⟨⟨?_, ?_⟩, fun i F' hF' => ?_⟩, hMD, ?_, ?_⟩⟩
        · rw [o5 2 1 (by omega), o2 2 1 (by omega) (by omega)]; exact hC.1.1
        · rw [o5 3 _ (by omega), o2 3 _ (by omega) (by omega)]; exact hC.1.2 j hj
        · exact o5 b i (by omega)
        · exact o5 b i (by omega)
        · rw [o5 109 3 (by omega), o2 109 3 (by omega) (by omega)]
        · rw [o5 113 i (by omega), o2 113 i (by omega) (by omega)]
        · rw [o5 115 4 (by omega)]; exact hM2.1.1
        · rw [o5 118 _ (by omega)]; exact hM2.1.2 j hj
        · rw [e2, List.length_dropLast]; omega
        · rw [List.length_dropLast]; omega
        · obtain ⟨t1, t2⟩ := h_drop hF'
          exact (mm2 i F' t2).cong (fun o _ _ => o5 117 _ (by omega))
        · rw [o5 115 42 (by omega)]; exact hM2.2.2.2.2.1
        · rw [o5 115 43 (by omega)]; exact hM2.2.2.2.2.2
      | succ j ih =>
        intro v w4 hv v0 ho hp
        have e2 : w4 115 2 = (A.2.2.length : Int) - 1 := by rw [ho _ _ (by omega), wset_eq]
        refine v_X9_undo_22 ⟨fun z => by omega, fun _ => ?_⟩
        rw [e2]
        refine ⟨by omega, by omega, by omega, by omega, ?_⟩
        rw [show w4 117 (2778 * ((A.2.2.length : Int) - 1) + v) = w2 117 (2778 * ((A.2.2.length : Int) - 1) + v) by rw [ho _ _ (by omega), wset_at (by omega)]]
        rintro w5 rfl
        refine ⟨by omega, ih (v + 1) _ (by omega) (by omega) (fun b i q => by rw [wset_at (by omega)]; exact ho b i q) (fun i i0 i1 => ?_)⟩
        by_cases q : i = v
        · rw [q, wset_eq]
        · rw [wset_at (by omega)]; exact hp i i0 (by omega)
    exact loop 2778 0 _ (by decide) (by decide) (fun _ _ _ => rfl) (fun i i0 i1 => by omega)
  · refine ⟨99, by omega, e_X9_undo ⟨fun z => by omega, fun _ => k _ w hI.up⟩⟩
theorem wt_none : sm 72 (wtI (fun _ => none)) = 0 := by
  have := sm_bd (f := wtI (fun _ => none)) (a := 0) (b := 0) 72 (fun c _ _ => ⟨Int.le_refl 0, Int.le_refl 0⟩)
  omega
theorem c_drop (hd : 100 ≤ d) (h : Inv n w) (k : ∀ x w', Inv (n + 1) w' → K2 x x w') : C_X8_drop d [.inr (.inr 1)] w (fun x w1 => C_X9_drop d [.inr (.inr 115)] w1 (fun y w2 => K2 x y w2)) := by
  have hI := h
  obtain ⟨h0, A, hW, hC, hM⟩ := h
  have hF := hW.2.1
  obtain ⟨p1, p2, p3, p4, p5, p6, p7, p8⟩ := id hF
  have h6 : am_St 6 := by unfold am_St; omega
  have hwm := hM.2.1.waits
  refine ⟨99, by omega, e_X8_drop (s_waitEd (by decide) h6 hC.2.1.2.1 ⟨fun hw0 => ?_, fun hw0 => ?_⟩)⟩
  · refine s_keep (by decide) p8.2 hC.2.2.1 hC.2.1 (fun bs w1 hbs hH1 hF1 hoff h38 => s_clearAll (by decide) (fun w2 ho2 h12 => ?_))
    have o2 : ∀ b i, b < 38 ∨ 104 ≤ b → b ≠ 12 → w2 b i = w b i := fun b i q1 q2 => by rw [ho2 b i (by omega), hoff b i q1]
    have hM2 := hM.hi (w' := w2) (fun b i q => o2 b i (by omega) (by omega))
    have hCS2 : CS w2 6 ((A.2.1.1.1, (fun _ => none), A.2.1.1.2.2), A.2.1.2) := by
      obtain ⟨c1, c2, c3, c4, c5, c6, c7⟩ := hC.2.1
      refine ⟨fun c hc => ?_, fun c hc => ⟨fun _ => h12 c hc, fun L q => by cases q⟩, by rw [o2 _ _ (by decide) (by decide)]; exact c3, fun c hc => by rw [o2 _ _ (by decide) (by decide), o2 _ _ (by decide) (by decide), o2 _ _ (by decide) (by decide)]; exact c4 c hc, fun c hc => ?_, by rw [o2 _ _ (by decide) (by decide)]; exact c6, by rw [o2 _ _ (by decide) (by decide)]; exact c7⟩
      · obtain ⟨g1, g2, g3⟩ := c1 c hc
        exact ⟨g1, by rw [o2 _ _ (by decide) (by decide)]; exact g2, fun j hj => by rw [o2 _ _ (by decide) (by decide)]; exact g3 j hj⟩
      · obtain ⟨q1, q2, q3, q4, q5⟩ := c5 c hc
        rw [o2 _ _ (by decide) (by decide), o2 _ _ (by decide) (by decide), o2 _ _ (by decide) (by decide), o2 _ _ (by decide) (by decide)]
        exact ⟨q1, q2, q3, q4, q5.cong (o2 _ _ (by decide) (by decide)) (fun i _ _ => o2 _ _ (by decide) (by decide))⟩
    refine ⟨99, by omega, e_X9_drop ⟨fun _ => m_save (by decide) hM2.2.2.1 hM2.2.1 (fun w3 hHM3 e3 => ?_), fun z => by have := hM2.2.1.waits; omega⟩⟩
    rintro w4 rfl
    have e2521 : w3 116 2521 = sm 72 (wtI A.2.1.1.2.1) := by rw [e3 116 2521 (by decide) (by decide)]; exact hM2.2.1.waits
    rw [e2521]
    have o4 : ∀ b i, b ≠ 117 → ¬ (b = 115 ∧ i = 2) → ¬ (b = 116 ∧ i = 2521) → wset w3 116 2521 0 b i = w2 b i := fun b i q1 q2 q3 => by rw [wset_at (by omega), e3 b i q1 q2]
    have hP4 : PgM (wset w3 116 2521 0 116) (A.2.1.1.1, (fun _ => none), A.2.1.1.2.2) := by
      obtain ⟨q1, q2, q3, q4, q5, q6, q7⟩ := hM2.2.1
      refine ⟨fun c hc => ?_, fun c hc => ?_, by rw [o4 _ _ (by decide) (by decide) (by decide)]; exact q3, by rw [wset_eq]; exact ⟨by decide, by decide⟩, fun s s0 s1 => by rw [wset_eq] at s1; omega, fun s s' s0 s1 s2 => by rw [wset_eq] at s2; omega, fun c hc hn => absurd rfl hn⟩
      · obtain ⟨t1, t2, t3⟩ := q1 c hc
        have hl := t1.1
        unfold rng at hc
        exact ⟨t1, by rw [o4 _ _ (by decide) (by omega) (by omega)]; exact t2, fun j hj => by
          have hj' : j < (A.2.1.1.1 c).length := hj
          rw [o4 _ _ (by decide) (by omega) (by omega)]; exact t3 j hj⟩
      · have := q2 c hc
        unfold rng at hc
        rw [o4 _ _ (by decide) (by omega) (by omega), o4 _ _ (by decide) (by omega) (by omega), o4 _ _ (by decide) (by omega) (by omega), o4 _ _ (by decide) (by omega) (by omega)]
        exact this
    have lo : ∀ b i, b ≤ 114 → wset w3 116 2521 0 b i = w2 b i := fun b i q => o4 b i (by omega) (by omega) (by omega)
    refine k _ _ ⟨by omega, (A.1, ((A.2.1.1.1, (fun _ => none), A.2.1.1.2.2), A.2.1.2), keepH A.2.2 A.2.1), ⟨hW.1, ⟨p1, p2, fun c L _ q => (by cases q), (show sm 72 (wtI (fun _ => none)) ≤ 8 by rw [wt_none]; decide), p5, fun c hc => by have := p6 c hc; exact ⟨⟨this.1.1, Int.le_trans this.1.2 (show n ≤ n + 1 by omega)⟩, this.2⟩, p7, p8⟩, fun F hm => (keep_wf hW.2.2 hF F hm).mono (by omega)⟩, ⟨⟨?_, fun j hj => ?_⟩, hCS2.cong (fun b i b0 b1 => lo b i (by omega)), ?_, ((hC.2.2.2).mono (by omega)).cong ?_ (fun i => ?_)⟩, ⟨⟨?_, fun j hj => ?_⟩, hP4, hHM3.cong ?_ (fun i => ?_), hM2.2.2.2.1.cong (fun a i a0 a1 => ?_) ?_ ?_, ?_, ?_⟩⟩
    · rw [lo 2 1 (by decide), o2 2 1 (by decide) (by decide)]; exact hC.1.1
    · rw [lo 3 _ (by decide), o2 3 _ (by decide) (by decide)]; exact hC.1.2 j hj
    · refine hH1.cong (fun b i b0 b1 => ?_)
      rw [lo b i (by omega)]
      exact ho2 b i (by omega)
    · rw [lo _ _ (by decide), o2 _ _ (by decide) (by decide)]
    · rw [lo _ _ (by decide), o2 _ _ (by decide) (by decide)]
    · rw [o4 _ _ (by decide) (by decide) (by decide)]; exact hM2.1.1
    · rw [o4 _ _ (by decide) (by omega) (by omega)]; exact hM2.1.2 j hj
    · rw [wset_at (by omega)]
    · rw [wset_at (by omega)]
    · exact o4 a i (by omega) (by omega) (by omega)
    · exact o4 _ _ (by decide) (by decide) (by decide)
    · exact o4 _ _ (by decide) (by decide) (by decide)
    · rw [o4 _ _ (by decide) (by decide) (by decide)]; exact hM2.2.2.2.2.1
    · rw [o4 _ _ (by decide) (by decide) (by decide)]; exact hM2.2.2.2.2.2
  · exact ⟨99, by omega, e_X9_drop ⟨fun z => by omega, fun _ => k _ w hI.up⟩⟩
end JBS
