def FB (K : Wd → Prop) (v x1 : Int) (w2 : Wd) : Prop := ((¬ x1 = 45 → C_X9_isFigure 29 [.inl x1] w2 (fun x2 w3 => ((x2 = 0 → ((¬ x1 = 40 → C_X9_isColumn 29 [.inl x1] w3 (fun x3 w4 => ((x3 = 0 → C_X9_function 29 [.inr (.inr 115)] w4 (fun x4 w5 => C_X9_sizeOf 29 [.inl x4] w5 (fun x5 w6 => (-2147483648 ≤ ((w5 115 24) + x5) ∧ ((w5 115 24) + x5) ≤ 2147483647) ∧ (∀ w7, w7 = wset w6 115 24 ((w5 115 24) + x5) → C_X9_enters 29 [.inr (.inr 115), .inl x4] w7 (fun w8 => K w8))))) ∧ (¬ x3 = 0 → C_X9_behind 29 [.inr (.inr 115), .inl 1] w4 (fun x6 w9 => C_X9_isFigure 29 [.inl x6] w9 (fun x7 w10 => ((x7 = 0 → C_X9_function 29 [.inr (.inr 115)] w10 (fun x8 w11 => C_X9_sizeOf 29 [.inl x8] w11 (fun x9 w12 => (-2147483648 ≤ ((w11 115 24) + x9) ∧ ((w11 115 24) + x9) ≤ 2147483647) ∧ (∀ w13, w13 = wset w12 115 24 ((w11 115 24) + x9) → C_X9_enters 29 [.inr (.inr 115), .inl x8] w13 (fun w14 => K w14))))) ∧ (¬ x7 = 0 → C_X9_cellHere 29 [.inr (.inr 115)] w10 (fun x10 w15 => (-2147483648 ≤ ((w15 115 24) + 2) ∧ ((w15 115 24) + 2) ≤ 2147483647) ∧ (∀ w16, w16 = wset w15 115 24 ((w15 115 24) + 2) → C_X9_reading 29 [.inr (.inr 115), .inl x10] w16 (fun x11 w17 => C_X9_goesOn 29 [.inr (.inr 115)] w17 (fun x12 w18 => ((x12 = 0 → K w18) ∧ (¬ x12 = 0 → C_X9_gives 29 [.inr (.inr 115), .inr (.inl x11)] w18 (fun w19 => K w19))))))))))))))) ∧ (x1 = 40 → (-2147483648 ≤ ((w3 115 24) + 1) ∧ ((w3 115 24) + 1) ≤ 2147483647) ∧ (∀ w20, w20 = wset w3 115 24 ((w3 115 24) + 1) → C_X9_enters 29 [.inr (.inr 115), .inl 1] w20 (fun w21 => K w21))))) ∧ (¬ x2 = 0 → W_X9_factor 29 87 [some (.inr (.inr 115)), some (.inl v), some (.inl x1), some (.inr (.inl 0)), none, none] [] w3 K)))) ∧ (x1 = 45 → (0 ≤ (w2 115 23) ∧ (w2 115 23) < 40) ∧ ((¬ (w2 135 (w2 115 23)) = 0 → (0 ≤ (w2 115 23) ∧ (w2 115 23) < 40) ∧ (∀ w22, w22 = wset w2 135 (w2 115 23) 0 → (-2147483648 ≤ ((w22 115 24) + 1) ∧ ((w22 115 24) + 1) ≤ 2147483647) ∧ (∀ w23, w23 = wset w22 115 24 ((w22 115 24) + 1) → K w23))) ∧ ((w2 135 (w2 115 23)) = 0 → (0 ≤ (w2 115 23) ∧ (w2 115 23) < 40) ∧ (∀ w24, w24 = wset w2 135 (w2 115 23) 1 → (-2147483648 ≤ ((w24 115 24) + 1) ∧ ((w24 115 24) + 1) ≤ 2147483647) ∧ (∀ w25, w25 = wset w24 115 24 ((w24 115 24) + 1) → K w25))))))
section MKS
variable {w0 w B w1 : Wd} {c n p δ wr bl wa is x : Int} {t : Int → Int} {env : Env'} {l : List Int} {fr fr1 : Int → Int} {d : Nat} {K : Int → Wd → Prop} {KV : Wd → Prop} {fac g : Int → Bool × Int} {evf m : Int → Mo (Int × Int)}
theorem ms_next {f : Nat} {s q : Int} (hM : MSt w0 c t n env) (hd : 5 ≤ d) (hf : 5 ≤ f ∧ f < 9) (h : MF w0 c w1 l q (δ + 1) 0 0 wa 0 fr1 w) (ha : FrA s fr1) (hk : fr1 133 = (f : Int) + 2) (hv : PV (evFin s)) (hb : Bs w0 c B δ fr w1) (h0 : 0 ≤ q ∧ q ≤ 40)
    (k44 : lk t n q = 44 → ∀ fr' w', FrN fr1 fr' → MF w0 c w1 l (q + 1) (δ + 1) 0 0 1 1 fr' w' → LL c KV w')
    (k : lk t n q ≠ 44 → Out w0 c B δ fr KV (l, .inr (evFin s, q + 1))) : C_X9_nextPart d [.inr (.inr 115)] w (fun w' => LL c KV w') := by
  obtain ⟨d, rfl⟩ : ∃ d', d = d' + 1 := ⟨d - 1, by omega⟩
  have hδ := hb.2.1
  have e0 := hr_lk (t := t) (n := n) h0.1
  have hn := hM.2.2.1
  have e142 : fr1 142 = evFin s := by
    unfold evFin
    by_cases q : s = -2000000000
    · rw [if_pos q]; exact (ha.1 q).2
    · rw [if_neg q]; exact (ha.2 q).2
  refine ⟨d, Nat.lt_succ_self d, e_X9_nextPart (mf_sign hM (by omega) h h0.1 ⟨fun z => ?_, fun z => ?_⟩)⟩
  · rw [h.2.1.2.1, (h.2.2.1 142 (by decide) (by decide)).1, e142]
    exact ⟨by omega, ms_leave (by omega) (by omega) hv hb h (k (by omega))⟩
  · rw [h.2.1.1]
    refine ⟨by omega, ?_⟩
    rintro w3 rfl
    refine mf_frame (by omega) (by omega) (h.sp (q + 1)) (fun w' fr' hf' h' => k44 (by omega) fr' w' hf' ?_)
    rw [hk, if_pos (by omega)] at h'
    exact h'
theorem area_err {v1 v2 v3 : Int} (hd : 1 ≤ d) (h : MEnd w0 c l wr bl w) (hb : ¬ (wr = 0 ∧ bl = 0)) (h2 : 0 ≤ v2 ∧ v2 < 72) (k : KV w) : W_X9_readsArea d 56 [some (.inr (.inr 115)), some (.inl v1), some (.inl v2), some (.inl v3), none, none, none, none] [] w KV := by
  have e : ∀ {A : Wd → Prop}, C_X9_goesOn d [.inr (.inr 115)] w (fun x1 w1 => ((x1 = 0 → KV w1) ∧ (¬ x1 = 0 → A w1))) := fun {A} => mf_goesOn hd h (fun q1 q2 => absurd ⟨q1, q2⟩ hb) (fun _ => am_b0 k)
  exact v_X9_readsArea_56 ⟨h2.1, fun _ => e, fun _ => mf_goesOn hd h (fun q1 q2 => absurd ⟨q1, q2⟩ hb) (fun _ => am_b0 e)⟩
theorem area_err7 {v1 v2 v3 v4 : Int} (hd : 1 ≤ d) (h : MEnd w0 c l wr bl w) (hb : ¬ (wr = 0 ∧ bl = 0)) (h2 : 0 ≤ v2 ∧ v2 < 72) (h3 : 0 ≤ v3 ∧ v3 ≤ 100) (k : KV w) : W_X9_readsArea d 77 [some (.inr (.inr 115)), some (.inl v1), some (.inl v2), some (.inl v3), some (.inl v4), none, none, none] [] w KV :=
  v_X9_readsArea_77 ⟨h2.1, fun _ => ⟨by omega, area_err hd h hb h2 k⟩, fun _ => mf_goesOn hd h (fun q1 q2 => absurd ⟨q1, q2⟩ hb) (fun _ => am_b0 ⟨by omega, area_err hd h hb h2 k⟩)⟩
theorem ms_cells (hM : MSt w0 c t n env) {f : Nat} (hf : 5 ≤ f ∧ f < 9) {q v1 v2 : Int} (hδ : 0 ≤ δ ∧ δ < 39) (h4 : 0 ≤ v1 ∧ v1 < 72) (h5 : 0 ≤ v2 ∧ v2 < 72) {kk : Nat} (hkk : v1 % 8 + kk = v2 % 8 + 1) (i : Nat) : ∀ (v3 s J : Int) (l : List Int) (w : Wd) (fr1 : Int → Int), v3 + i = v2 / 8 + 1 → 0 ≤ v3 → 0 ≤ J → J + 8 * i ≤ 1000 → Jn f J s → FrA s fr1 → fr1 133 = (f : Int) + 2 → MF w0 c w1 l q (δ + 1) 0 0 1 0 fr1 w →
    (∀ l1 x w', mcells f (areaCells v3 (v1 % 8) kk i) s env l = (l1, .inl x) → 1 ≤ x.1 → MEnd w0 c l1 (mwr x) (mbl x) w' → KV w') →
    (∀ l1 s' w' fr', mcells f (areaCells v3 (v1 % 8) kk i) s env l = (l1, .inr s') → FrA s' fr' → (∀ a, a ≠ 141 → a ≠ 142 → fr' a = fr1 a) → MF w0 c w1 l1 q (δ + 1) 0 0 1 0 fr' w' → C_X9_nextPart 28 [.inr (.inr 115)] w' KV) →
    W_X9_readsArea 28 56 [some (.inr (.inr 115)), some (.inl v1), some (.inl v2), some (.inl v3), none, none, none, none] [] w KV := by
  have hE := hM.2.2.2.2.1
  induction i with
  | zero =>
    intro v3 s J l w fr1 hi h8 hJ0 hJ hs ha hk hw kerr kok
    exact v_X9_readsArea_56 ⟨h5.1, fun _ => mf_goesOn (by decide) hw.fin (fun _ _ => am_b1 (kok l s w fr1 rfl ha (fun _ _ _ => rfl) hw)) (fun z => absurd ⟨rfl, rfl⟩ z), fun z => by omega⟩
  | succ i ih =>
    intro v3 s J l w fr1 hi h8 hJ0 hJ hs ha hk hw kerr kok
    refine v_X9_readsArea_56 ⟨h5.1, fun z => by omega, fun _ => mf_goesOn (by decide) hw.fin (fun _ _ => am_b1 ⟨h4.1, ?_⟩) (fun z => absurd ⟨rfl, rfl⟩ z)⟩
    have row : ∀ (k : Nat) (v4 s J : Int) (l : List Int) (w : Wd) (fr2 : Int → Int), v4 + k = v2 % 8 + 1 → 0 ≤ v4 → 0 ≤ J → J + k + 8 * i ≤ 1000 → Jn f J s → FrA s fr2 → (∀ a, a ≠ 141 → a ≠ 142 → fr2 a = fr1 a) → MF w0 c w1 l q (δ + 1) 0 0 1 0 fr2 w →
        (∀ l1 x w', mcells f (rowCells v3 v4 k ++ areaCells (v3 + 1) (v1 % 8) kk i) s env l = (l1, .inl x) → 1 ≤ x.1 → MEnd w0 c l1 (mwr x) (mbl x) w' → KV w') →
        (∀ l1 s' w' fr', mcells f (rowCells v3 v4 k ++ areaCells (v3 + 1) (v1 % 8) kk i) s env l = (l1, .inr s') → FrA s' fr' → (∀ a, a ≠ 141 → a ≠ 142 → fr' a = fr1 a) → MF w0 c w1 l1 q (δ + 1) 0 0 1 0 fr' w' → C_X9_nextPart 28 [.inr (.inr 115)] w' KV) →
        W_X9_readsArea 28 77 [some (.inr (.inr 115)), some (.inl v1), some (.inl v2), some (.inl v3), some (.inl v4), none, none, none] [] w KV := by
      intro k
      induction k with
      | zero =>
        intro v4 s J l w fr2 hk4 h9 hJ0 hJ hs ha hsm hw kerr kok
        exact v_X9_readsArea_77 ⟨h5.1, fun _ => ⟨by omega, ih (v3 + 1) s J l w fr2 (by omega) (by omega) hJ0 (by omega) hs ha (by rw [hsm 133 (by decide) (by decide)]; exact hk) hw kerr (fun l1 s' w' fr' q1 q2 q3 q4 => kok l1 s' w' fr' q1 q2 (fun a g1 g2 => by rw [q3 a g1 g2]; exact hsm a g1 g2) q4)⟩, fun z => by omega⟩
      | succ k ih2 =>
        intro v4 s J l w fr2 hk4 h9 hJ0 hJ hs ha hsm hw kerr kok
        have e0 : ∀ L, mcells f (rowCells v3 v4 (k + 1) ++ L) s = mbind (mreadE (v3 * 8 + v4)) (fun r => mbind (if r.2 = 0 then mpure s else mjoin f s r.1) (fun s' => mcells f (rowCells v3 (v4 + 1) k ++ L) s')) := fun L => rfl
        rw [e0] at kerr kok
        have hc : 0 ≤ v3 * 8 + v4 ∧ v3 * 8 + v4 < 72 := by omega
        refine v_X9_readsArea_77 ⟨h5.1, fun z => by omega, fun _ => mf_goesOn (by decide) hw.fin (fun _ _ => am_b1 ⟨by omega, by omega, ?_⟩) (fun z => absurd ⟨rfl, rfl⟩ z)⟩
        rw [show 8 * v3 + v4 = v3 * 8 + v4 by omega]
        refine mf_reading hM (by decide) hw hc (fun l1 y w6 v hm3 h6 hy => ?_) (fun l1 v w6 hm3 hpv h6 => ?_)
        · exact mf_goesOn (by decide) h6.fin (fun q1 q2 => absurd ⟨q1, q2⟩ (mwb hy.1)) (fun _ => am_b0 ⟨by omega, area_err7 (by decide) h6.fin (mwb hy.1) h5 (by omega) (kerr l1 y w6 (mbind_inl (mreadE_inl hm3)) hy.1 h6.fin)⟩)
        · rw [mbind_inr (mreadE_inr hm3)] at kerr kok
          dsimp only at kerr kok
          refine mf_goesOn (by decide) h6.fin (fun _ _ => am_b1 ⟨27, by decide, e_X9_isEmpty ?_⟩) (fun z => absurd ⟨rfl, rfl⟩ z)
          have e116 : w6 116 (0 + (v3 * 8 + v4)) = w0 116 (v3 * 8 + v4) := by rw [h6.1 116 _ (by unfold MOff; omega), show 0 + (v3 * 8 + v4) = v3 * 8 + v4 by omega]
          have e42 : w6 115 42 = w0 115 42 := h6.1 115 42 (by unfold MOff; omega)
          have hx6 := (hM.2.2.2.2.2 (v3 * 8 + v4) hc.1 hc.2).2.2.2
          rw [e116, e42]
          have emp : (env (v3 * 8 + v4)).2.2 = 0 → (-2147483648 ≤ v4 + 1 ∧ v4 + 1 ≤ 2147483647) ∧ W_X9_readsArea 28 77 [some (.inr (.inr 115)), some (.inl v1), some (.inl v2), some (.inl v3), some (.inl (v4 + 1)), none, none, none] [] w6 KV := by
            intro z
            rw [if_pos z] at kerr kok
            exact ⟨by omega, ih2 (v4 + 1) s J l1 w6 fr2 (by omega) (by omega) hJ0 (by omega) hs ha hsm h6 kerr kok⟩
          have ful : ¬ (env (v3 * 8 + v4)).2.2 = 0 → C_X9_takes 28 [.inr (.inr 115), .inr (.inl v)] w6 (fun w5 => (-2147483648 ≤ v4 + 1 ∧ v4 + 1 ≤ 2147483647) ∧ W_X9_readsArea 28 77 [some (.inr (.inr 115)), some (.inl v1), some (.inl v2), some (.inl v3), some (.inl (v4 + 1)), none, none, none] [] w5 KV) := by
            intro z
            rw [if_neg z] at kerr kok
            refine mf_takes (env := env) (J := J) (by decide) hf.1 (by omega) h6 (by rw [hsm 133 (by decide) (by decide)]; exact hk) ha hs ⟨hJ0, by omega⟩ hpv hf.2 (fun w7 fr7 hm7 h7 => ?_) (fun s' w7 fr7 hm7 ha7 hs7 h7 => ?_)
            · exact ⟨by omega, area_err7 (by decide) h7.fin (by decide) h5 (by omega) (kerr l1 (1, -1) w7 (mbind_inl hm7) (by decide) (by rw [mwr1, mbl1]; exact h7.fin))⟩
            · have hg := gd_val (gd_join (f := f) (B := J) ⟨hJ0, by omega⟩ hs hpv) hE h6.2.2.2.2.2 hm7
              rw [mbind_inr hm7] at kerr kok
              exact ⟨by omega, ih2 (v4 + 1) s' (J + 1) l1 w7 fr7 (by omega) (by omega) (by omega) (by omega) hg.1 ha7 (fun a g1 g2 => by rw [hs7 a g1 g2]; exact hsm a g1 g2) h7 kerr kok⟩
          refine ⟨by omega, by omega, fun z => am_c0 (ful (fun q => z (hx6.mpr q).1)), fun z => ⟨fun z2 => am_c0 (ful (fun q => (hx6.mpr q).2 z2)), fun z2 => am_c1 (emp (hx6.mp ⟨z, z2⟩))⟩⟩
    exact row kk (v1 % 8) s J l w fr1 hkk (by omega) hJ0 (by omega) hs ha (fun _ _ _ => rfl) hw kerr kok
theorem ms_area (hM : MSt w0 c t n env) {f : Nat} (hf : 5 ≤ f ∧ f < 9) {s J : Int} (hδ : 0 ≤ δ ∧ δ < 39) (h0 : 0 ≤ p ∧ p ≤ 30) (har : AreaOk t n p) (hJ : 0 ≤ J ∧ J ≤ 900) (hs : Jn f J s) (ha : FrA s fr1) (hk : fr1 133 = (f : Int) + 2) (hw : MF w0 c w1 l p (δ + 1) 0 0 1 0 fr1 w)
    (kerr : ∀ l1 x w', evArea t n f s p env l = (l1, .inl x) → 1 ≤ x.1 → MEnd w0 c l1 (mwr x) (mbl x) w' → KV w')
    (kok : ∀ l1 r w' fr', evArea t n f s p env l = (l1, .inr r) → FrA r.1 fr' → (∀ a, a ≠ 141 → a ≠ 142 → fr' a = fr1 a) → MF w0 c w1 l1 r.2 (δ + 1) 0 0 1 0 fr' w' → C_X9_nextPart 28 [.inr (.inr 115)] w' KV) : C_X9_readsArea 29 [.inr (.inr 115)] w KV := by
  have hn := hM.2.2.1
  have hca : 0 ≤ cellAt t n p ∧ cellAt t n p < 72 := by have := har.1; unfold cellAt; omega
  have e2 := hr_lk (t := t) (n := n) (p := p + 2) (by omega)
  unfold evArea at kerr kok
  refine ⟨28, by decide, e_X9_readsArea (mf_cellHere hM (by decide) hw h0.1 har.1 ?_)⟩
  rw [hw.2.1.1]
  refine ⟨by omega, ?_⟩
  rintro w2 rfl
  have h2 := hw.sp (p + 2)
  refine mf_sign hM (by decide) h2 (by omega) ⟨fun z => ⟨hca.1, ?_⟩, fun z => ?_⟩
  · rw [if_neg (by omega)] at kerr kok
    have e : areaCells (cellAt t n p / 8) (cellAt t n p % 8) 1 1 = [cellAt t n p] := by
      show [cellAt t n p / 8 * 8 + cellAt t n p % 8] = [cellAt t n p]
      rw [show cellAt t n p / 8 * 8 + cellAt t n p % 8 = cellAt t n p by omega]
    rw [← e] at kerr kok
    exact ms_cells hM hf hδ hca hca (kk := 1) (by omega) 1 _ s J l _ fr1 (by omega) (by omega) hJ.1 (by omega) hs ha hk h2 (fun l1 x w' hm hx h' => kerr l1 x w' (mbind_inl hm) hx h') (fun l1 x w' fr' hm q1 q2 h' => kok l1 (x, p + 2) w' fr' (mbind_inr hm) q1 q2 h')
  · have h58 : lk t n (p + 2) = 58 := by omega
    have h58' := har.2 h58
    rw [if_pos h58] at kerr kok
    rw [h2.2.1.1]
    refine ⟨by omega, ?_⟩
    rintro w4 rfl
    have h4 := h2.sp (p + 2 + 1)
    rw [show p + 2 + 1 = p + 3 by omega] at h4 ⊢
    have hcb : 0 ≤ cellAt t n (p + 3) ∧ cellAt t n (p + 3) < 72 := by unfold cellAt; rw [show p + 3 + 1 = p + 4 by omega]; omega
    have hrow : cellAt t n p / 8 ≤ cellAt t n (p + 3) / 8 := by have := har.1; unfold cellAt; rw [show p + 3 + 1 = p + 4 by omega]; omega
    have hcol : cellAt t n p % 8 ≤ cellAt t n (p + 3) % 8 := by have := har.1; unfold cellAt; rw [show p + 3 + 1 = p + 4 by omega]; omega
    refine mf_cellHere hM (by decide) h4 (by omega) ⟨h58'.1.2, by rw [show p + 3 + 1 = p + 4 by omega]; exact h58'.2.2⟩ ?_
    rw [h4.2.1.1]
    refine ⟨by omega, ?_⟩
    rintro w6 rfl
    have h6 := h4.sp (p + 3 + 2)
    rw [show p + 3 + 2 = p + 5 by omega] at h6 ⊢
    exact ⟨hca.1, ms_cells hM hf hδ hca hcb (kk := (cellAt t n (p + 3) % 8 - cellAt t n p % 8 + 1).toNat) (by omega) (cellAt t n (p + 3) / 8 - cellAt t n p / 8 + 1).toNat _ s J l _ fr1 (by omega) (by omega) hJ.1 (by omega) hs ha hk h6 (fun l1 x w' hm hx h' => kerr l1 x w' (mbind_inl hm) hx h') (fun l1 x w' fr' hm q1 q2 h' => kok l1 (x, p + 5) w' fr' (mbind_inr hm) q1 q2 h')⟩
/-- no row 0 -/
def Col0 (t : Int → Int) (n : Int) (fac : Int → Bool × Int) : Prop := ∀ p, (fac p).1 = true → isCol (lk t n p) → lk t n (p + 1) ≠ 48
theorem part_col0 (hZ : Col0 t n fac) {f : Nat} (h : (ckPart t n fac f p).1 = true) (hc : isCol (lk t n p)) : lk t n (p + 1) ≠ 48 := by
  unfold ckPart at h
  split at h
  · unfold ckArea at h
    split at h
    · rename_i h1
      have := (ckCell_ok h1).2.2.2
      omega
    · cases h
  · change (ckFrm t n fac (29 + 1) p).1 = true at h
    unfold ckFrm at h
    split at h
    · rename_i h1
      change (ckPrd t n fac (29 + 1) p).1 = true at h1
      unfold ckPrd at h1
      split at h1
      · rename_i h2
        exact hZ p h2 hc
      · cases h1
    · cases h
theorem ms_gathL (hM : MSt w0 c t n env) (hS : MsS w0 c t n env KV (ckFrm t n fac 30) (evFrm t n evf)) (hZ : Col0 t n fac) (hC : CellF t n fac) (hG : GF t n fac evf) (hB : Bd n fac) (hA : Adv n fac) {f : Nat} (hf : 5 ≤ f ∧ f < 9) {w1 B : Wd} {δ : Int} {fr : Int → Int} (hbs : Bs w0 c B δ fr w1) (i : Nat) : ∀ (part J s p : Int) (l : List Int) (w : Wd) (fr1 : Int → Int), 0 ≤ J → J + 72 * i ≤ 900 → Jn f J s → FrA s fr1 → fr1 133 = (f : Int) + 2 → (fr1 135 = 0 ∧ fr1 136 = 0 ∧ fr1 138 = 0 ∧ fr1 139 = 0) → δ + 1 ≤ p → p ≤ n → (ckParts t n fac f i part p).1 = true → MF w0 c w1 l p (δ + 1) 0 0 1 1 fr1 w → Out w0 c B δ fr KV (evGath t n evf f i s p env l) → LL c KV w := by
  have hn := hM.2.2.1
  have hE := hM.2.2.2.2.1
  have hδ := hbs.2.1
  induction i with
  | zero =>
    intro part J s p l w fr1 hJ0 hJ hs ha hk hfr hδp h1 h hw ho
    unfold ckParts at h
    cases h
  | succ i ih =>
    intro part J s p l w fr1 hJ0 hJ hs ha hk hfr hδp h1 h hw ho
    obtain ⟨a1, a2⟩ := parts_aft h
    have h0 : 0 ≤ p := by omega
    have hb := ckPart_bd (t := t) hB f p h0 h1
    have hgp := gd_part hn hC hG hB hA hf.1 ⟨hJ0, by omega⟩ hs h0 h1 a1 a2.stop
    unfold evGath at ho
    have hst := a2.stop
    have hl := lk_pos (t := t) (n := n) (p := (ckPart t n fac f p).2) (by omega)
    -- behind a part
    have good : ∀ (d : Nat) (l1 : List Int) (r : Int × Int) (w' : Wd) (fr' : Int → Int) (wa : Int), 5 ≤ d → evPart t n evf f s p env l = (l1, .inr r) → FrA r.1 fr' → fr' 133 = (f : Int) + 2 → MF w0 c w1 l1 r.2 (δ + 1) 0 0 wa 0 fr' w' → C_X9_nextPart d [.inr (.inr 115)] w' (fun w' => LL c KV w') := by
      intro d l1 r w' fr' wa hd hm hfa hk' h'
      have hr := (gd_val hgp hE hw.2.2.2.2.2 hm).1
      have hr2 := hr.2
      have ho1 := Out.inr (m := evFrm t n evf p) ho hm
      refine ms_next hM hd hf h' hfa hk' (pv_fin hr.1) hbs (by omega) (fun q fr2 w2 hf2 h2 => ?_) (fun q => ?_)
      · rw [if_pos q] at ho1
        rcases a2 with q2 | ⟨_, part', q1, q2⟩
        · rw [hr2] at q
          omega
        · rw [← hr2] at q1
          refine ih part' (J + 72) r.1 (r.2 + 1) l1 w2 fr2 (by omega) (by omega) hr.1 ?_ ?_ ⟨hf2.1, hf2.2.1, hf2.2.2.1, hf2.2.2.2.1⟩ (by omega) (by omega) q1 h2 ho1
          · have e1 := hf2.2.2.2.2 141 (by decide) (by decide) (by decide) (by decide)
            have e2 := hf2.2.2.2.2 142 (by decide) (by decide) (by decide) (by decide)
            unfold FrA
            rw [e1, e2]
            exact hfa
          · rw [hf2.2.2.2.2 133 (by decide) (by decide) (by decide) (by decide)]
            exact hk'
      · rw [if_neg q] at ho1
        exact ho1
    by_cases har : evIsArea t n p = true
    · have hev : evPart t n evf f s p = evArea t n f s p := by
        unfold evPart
        rw [if_pos har]
      refine LL.toFac hw ⟨29, by decide, e_X9_factor (mf_sign hM (by decide) hw h0 ?_)⟩
      rw [hw.2.1.2.2.2.2.2.2]
      rintro w2 rfl
      have h2 := hw.sis 0
      refine ⟨fun z => by omega, fun _ => mf_isAreaHere hM (by decide) h2 (by omega) (fun hc => part_col0 hZ a1 hc) (fun _ => am_b1 ?_) (fun z => absurd har z)⟩
      refine ms_area hM hf hδ (by omega) (areaOk_of hf.1 har a1) ⟨hJ0, by omega⟩ hs ha hk h2 (fun l1 x w' hm hx h' => ?_) (fun l1 r w' fr' hm hfa hsm h' => ?_)
      · rw [← hev] at hm
        exact LL.fin h' (mwb hx) (ho.1.inl hm h')
      · rw [← hev] at hm
        exact good 28 l1 r w' fr' 1 (by decide) hm hfa (by rw [hsm 133 (by decide) (by decide)]; exact hk) h'
    · have hev : evPart t n evf f s p = mbind (evFrm t n evf p) (fun r => mbind (mjoin f s r.1) (fun x => mpure (x, r.2))) := by
        unfold evPart
        rw [if_neg har]
      have epf := part_frm2 har a1 a2.stop
      have hck : (ckFrm t n fac 30 p).1 = true := by
        rw [← epf]
        exact a1
      refine hS p l w w1 (δ + 1) 1 fr1 h0 h1 (by omega) hδp hck (by rw [← epf]; unfold isDig; omega) (fun _ => har) hfr.1 hfr.2.1 hfr.2.2.1 hfr.2.2.2 hw ⟨fun l1 x hm w' hw' => ho.1.inl (by rw [hev]; exact mbind_inl hm) hw', fun l1 r hm fr' w' e138 hv hsm h' => ?_⟩
      have r' := fun a g1 g2 => (h'.2.2.1 a g1 g2).1
      have k133 : fr' 133 = (f : Int) + 2 := by rw [hsm 133 (by decide)]; exact hk
      have hfa : FrA s fr' := by
        unfold FrA
        rw [hsm 141 (by decide), hsm 142 (by decide)]
        exact ha
      unfold SW
      rw [h'.2.1.2.1, r' 133 (by decide) (by decide), r' 138 (by decide) (by decide), k133, e138]
      refine ⟨fun z => by omega, fun z => by omega, fun z => by omega, fun z => by omega, fun z => by omega, fun z => by omega, fun z => by omega, fun _ => ?_⟩
      refine mf_takes (env := env) (J := J) (by decide) hf.1 (by omega) h' k133 hfa hs ⟨hJ0, by omega⟩ hv hf.2 (fun w7 fr7 hm7 h7 => ?_) (fun s' w7 fr7 hm7 ha7 hs7 h7 => ?_)
      · refine mf_goesOn (by decide) h7.fin (fun q1 _ => absurd q1 (by decide)) (fun _ => am_b0 (LL.fin h7.fin (by decide) (ho.1.inl (l1 := l1) (x := (1, -1)) (by rw [hev, mbind_inr hm]; exact mbind_inl hm7) ?_)))
        rw [mwr1, mbl1]
        exact h7.fin
      · refine mf_goesOn (by decide) h7.fin (fun _ _ => am_b1 ?_) (fun z => absurd ⟨rfl, rfl⟩ z)
        exact good 29 l1 (s', r.2) w7 fr7 0 (by decide) (by rw [hev, mbind_inr hm, mbind_inr hm7]; rfl) ha7 (by rw [hs7 133 (by decide) (by decide)]; exact k133) h7
theorem ms_fun (hM : MSt w0 c t n env) (hS : MsS w0 c t n env KV (ckFrm t n fac 30) (evFrm t n evf)) (hF : SkF t n fac) (hZ : Col0 t n fac) (hC : CellF t n fac) (hG : GF t n fac evf) (hB : Bd n fac) (hA : Adv n fac) {f : Nat} (hf : f < 9) : MsC w0 c t n env KV fac f (evFun t n evf f) := by
  by_cases q1 : f ≤ 1
  · have e : evFun t n evf f = evChoose t n evf f := by
      funext p
      unfold evFun
      rw [if_pos q1]
    rw [e]
    have : f = 0 ∨ f = 1 := by omega
    rcases this with rfl | rfl
    · exact ms_if hM hS hF hG hB hA
    · exact ms_pick hM hS hF hG hB hA
  · by_cases q2 : f ≤ 4
    · have e : evFun t n evf f = evComb t n evf f := by
        funext p
        unfold evFun
        rw [if_neg q1, if_pos q2]
      rw [e]
      exact ms_two hM hS hG hB hA (by omega)
    · have e : evFun t n evf f = evGath t n evf f (am_most.getD f 0).toNat (-2000000000) := by
        funext p
        unfold evFun
        rw [if_neg q1, if_neg q2]
      rw [e]
      intro p l w w1 B δ fr fr1 h0 h1 hδp h hbs hE1 hw ho
      have htab := tab_least f hf
      rw [if_pos (by omega)] at hw
      exact ms_gathL hM hS hZ hC hG hB hA ⟨by omega, hf⟩ hbs _ 1 0 (-2000000000) p l w fr1 (by decide) (by omega) (Or.inl rfl) ⟨fun _ => ⟨hE1.2.2.2.2.2.2.1, hE1.2.2.2.2.2.2.2⟩, fun z => absurd rfl z⟩ hE1.1 ⟨hE1.2.2.1, hE1.2.2.2.1, hE1.2.2.2.2.1, hE1.2.2.2.2.2.1⟩ hδp h1 h hw ho
end MKS
