section MLS
variable {w0 w B w1 : Wd} {c n p δ wr bl wa is x : Int} {t : Int → Int} {env : Env'} {l : List Int} {fr fr1 : Int → Int} {d : Nat} {K : Int → Wd → Prop} {KV : Wd → Prop} {fac g : Int → Bool × Int} {evf m : Int → Mo (Int × Int)}
theorem ms_give {v : Int} (hd : 3 ≤ d) (hδ : 0 ≤ δ ∧ δ < 40) (hv : PV v) (hpr : fr 136 ≠ 0 → PV (fr 137)) (h : MF w0 c B l p δ 0 0 wa 0 fr w) (ho : Out w0 c B δ fr KV (l, .inr (v, p))) : C_X9_gives d [.inr (.inr 115), .inr (.inl v)] w (LL c KV) :=
  mf_gives hd hδ hv hpr h (fun w' fr' hg hp h' => (ho.2 l _ rfl).2 fr' w' hg hp h') (fun q1 q2 w' h' => LL.fin h' (by decide) ((ho.2 l _ rfl).1 q1 q2 w' h'))
theorem ms_numL {v1 v2 : Int} (hM : MSt w0 c t n env) (hδ : 0 ≤ δ ∧ δ < 40) (hpr : fr 136 ≠ 0 → PV (fr 137)) (f : Nat) : ∀ (j : Nat) (p a : Int) (w : Wd), j + f = 6 → 0 ≤ p → p ≤ n → 0 ≤ a → a + 1 ≤ 10 ^ j → ¬ isDig (lk t n (ckNum t n f p)) → MF w0 c B l p δ 0 0 wa 0 fr w → PV (evNum t n f p a).1 → Out w0 c B δ fr KV (l, .inr (evNum t n f p a)) → W_X9_factor 29 87 [some (.inr (.inr 115)), some (.inl v1), some (.inl v2), some (.inr (.inl a)), none, none] [] w (LL c KV) := by
  have hn := hM.2.2.1
  induction f with
  | zero =>
    intro j p a w hj h0 h1 ha0 ha hdg hw hpv ho
    have e0 := hr_lk (t := t) (n := n) h0
    unfold ckNum at hdg
    unfold evNum at ho hpv
    exact v_X9_factor_87 (mf_sign hM (by decide) hw h0 (m_isFig (by decide) (fun q => by unfold isDig at q hdg; omega) (fun _ => ⟨fun _ => ms_give (by decide) hδ hpv hpr hw ho, fun z => absurd rfl z⟩)))
  | succ f ih =>
    intro j p a w hj h0 h1 ha0 ha hdg hw hpv ho
    have e0 := hr_lk (t := t) (n := n) h0
    have hpow : (10 : Int) ^ j ≤ 10 ^ 5 := by
      have : (10 : Nat) ^ j ≤ 10 ^ 5 := Nat.pow_le_pow_right (by decide) (by omega)
      exact_mod_cast this
    have hps : (10 : Int) ^ (j + 1) = 10 ^ j * 10 := Int.pow_succ 10 j
    unfold ckNum at hdg
    unfold evNum at ho hpv
    by_cases q : isDig (lk t n p)
    · rw [if_pos q] at hdg ho hpv
      have hl := lk_pos (t := t) (n := n) (p := p) (by unfold isDig at q; omega)
      refine v_X9_factor_87 (mf_sign hM (by decide) hw h0 (m_isFig (by decide) (fun _ => ⟨fun z => by omega, fun _ => ⟨by omega, mf_sign hM (by decide) hw h0 ⟨?_, ?_, ?_⟩⟩⟩) (fun z => by unfold isDig at q z; omega)))
      · unfold isDig at q; omega
      · unfold isDig at q; omega
      · rw [hw.2.1.1]
        refine ⟨by omega, ?_⟩
        rintro w5 rfl
        have e : 10 * a + hr t n p - 48 = a * 10 + lk t n p - 48 := by omega
        rw [e]
        exact ih (j + 1) (p + 1) _ _ (by omega) (by omega) (by omega) (by unfold isDig at q; omega) (by rw [hps]; unfold isDig at q; omega) hdg (hw.sp (p + 1)) hpv ho
    · rw [if_neg q] at hdg ho hpv
      exact v_X9_factor_87 (mf_sign hM (by decide) hw h0 (m_isFig (by decide) (fun q2 => by unfold isDig at q q2; omega) (fun _ => ⟨fun _ => ms_give (by decide) hδ hpv hpr hw ho, fun z => absurd rfl z⟩)))
theorem call_at {evf : Int → Mo (Int × Int)} (i : Nat) : ∀ (f : Nat) (r : Int), i + f = 9 → (ckCall t n fac i f r p).1 = true → ∃ f' : Nat, f' < 9 ∧ ckMt t n (nmS f') p = ((nmS f').length : Int) ∧ ckCall t n fac i f r p = ckParts t n fac f' (am_most.getD f' 0).toNat 1 (p + (nmS f').length) ∧ evCall t n evf i f p = evFun t n evf f' (p + (nmS f').length) := by
  induction i with
  | zero =>
    intro f r _ h
    unfold ckCall at h
    cases h
  | succ i ih =>
    intro f r hif h
    unfold ckCall at h ⊢
    unfold evCall
    by_cases hm : ckMt t n (nmS f) p = ((nmS f).length : Int)
    · rw [if_pos hm, if_pos hm]
      exact ⟨f, by omega, hm, by rw [hm], by rw [hm]⟩
    · rw [if_neg hm] at h ⊢
      rw [if_neg hm]
      exact ih (f + 1) _ (by omega) h
theorem fn_sec : ∀ f : Nat, f < 9 → 97 ≤ (nmS f).getD 1 0 ∧ 97 ≤ (nmS f).getD 0 0 := by decide +kernel
theorem fac_col0 (k : Nat) : Col0 t n (ckFac t n k) := by
  intro p h hc
  cases k with
  | zero =>
    unfold ckFac at h
    cases h
  | succ k =>
    unfold ckFac at h
    unfold isCol at hc
    rw [if_neg (by omega), if_neg (by omega), if_neg (by unfold isDig; omega)] at h
    by_cases q4 : isCol (lk t n p) ∧ isRow (lk t n (p + 1))
    · have := q4.2
      unfold isRow at this
      omega
    · rw [if_neg q4] at h
      obtain ⟨f, hf, hm, _⟩ := call_at (evf := fun _ => mfail 0) 9 0 _ rfl h
      have hl := fn_len f hf
      have g1 := ckMt_get (nmS f) p hm 1 (by omega)
      have := (fn_sec f hf).1
      rw [show p + ((1 : Nat) : Int) = p + 1 by omega] at g1
      omega
theorem ms_fac (hM : MSt w0 c t n env) (k : Nat) : MsF w0 c t n env KV (ckFac t n k) (evFac t n k) := by
  have hn := hM.2.2.1
  have hE := hM.2.2.2.2.1
  induction k with
  | zero =>
    intro p l w B δ is fr h0 h1 hδ hδp h
    unfold ckFac at h
    cases h
  | succ k ih =>
    intro p l w B δ is fr h0 h1 hδ hδp h hdg his h135 hpr hw ho
    have hB := ckFac_bd (t := t) hn.1 k
    have hA : Adv n (ckFac t n k) := ckFac_adv hn k
    have hG := gd_fac (t := t) hn k
    have hF := sk_fac (t := t) hn.1 k
    have hC := cell_fac (t := t) (n := n) k
    have hS := ms_frm hM ih hG hB hA
    have hz := fac_col0 (k + 1) p h
    have e0 := hr_lk (t := t) (n := n) h0
    have e1 := hr_lk (t := t) (n := n) (p := p + 1) (by omega)
    have h2 := hw.sis 0
    -- the factor itself, no area
    have rest : FB (LL c KV) is (hr t n p) (wset w 115 27 0) := by
      unfold FB
      unfold ckFac at h hdg
      unfold evFac at ho
      by_cases q1 : lk t n p = 45
      · have hl := lk_pos (t := t) (n := n) (p := p) (by omega)
        rw [if_pos q1] at h hdg ho
        have go : ∀ s : Int, s = (if fr 135 = 0 then 1 else 0) → (0 ≤ δ ∧ δ < 40) ∧ (∀ w22, w22 = wset (wset w 115 27 0) 135 δ s → (-2147483648 ≤ ((w22 115 24) + 1) ∧ ((w22 115 24) + 1) ≤ 2147483647) ∧ (∀ w23, w23 = wset w22 115 24 ((w22 115 24) + 1) → LL c KV w23)) := by
          intro s hs
          refine ⟨by omega, ?_⟩
          rintro w22 rfl
          have h22 := h2.sfr (a := 135) (by decide) s
          rw [h22.2.1.1]
          refine ⟨by omega, ?_⟩
          rintro w23 rfl
          have hs01 : s = 0 ∨ s = 1 := by rw [hs]; split; exact Or.inr rfl; exact Or.inl rfl
          have f136 : fu fr 135 s 136 = fr 136 := fu_ne (by decide)
          have f137 : fu fr 135 s 137 = fr 137 := fu_ne (by decide)
          have flip : ∀ v : Int, (if fu fr 135 s 135 = 0 then v else -v) = (if fr 135 = 0 then -v else - -v) := by
            intro v
            rw [fu_same, hs]
            rcases h135 with z | z
            · rw [if_pos z, if_pos z, if_neg (by decide)]
            · have zn : ¬ fr 135 = 0 := by omega
              simp only [if_neg zn]
              rw [if_pos trivial, Int.neg_neg]
          refine ih (p + 1) l _ B δ 0 (fu fr 135 s) (by omega) (by omega) hδ (by omega) h hdg (fun z => absurd rfl z) (by rw [fu_same]; exact hs01) (by rw [f136, f137]; exact hpr) (h22.sp (p + 1)) ⟨fun l1 x hm w' hw' => ho.1.inl hm hw', fun l1 r hm => ?_⟩
          have ho1 := (Out.inr (m := evFac t n k p) ho hm).2 l1 (-r.1, r.2) rfl
          rw [f136, f137, flip]
          refine ⟨ho1.1, fun fr' w' hg hp hw' => ho1.2 fr' w' ⟨hg.1, hg.2.1, ?_, fun a g1 g2 g3 => ?_⟩ hp hw'⟩
          · have := hg.2.2.1
            rw [f136, f137, flip] at this
            exact this
          · rw [hg.2.2.2 a g1 g2 g3, fu_ne g1]
        refine ⟨fun z => by omega, fun _ => ?_⟩
        rw [h2.2.1.2.1, (h2.2.2.1 135 (by decide) (by decide)).1]
        exact ⟨by omega, fun z => go 0 (by rw [if_neg z]), fun z => go 1 (by rw [if_pos z])⟩
      · rw [if_neg q1] at h hdg ho
        refine ⟨fun _ => ?_, fun z => by omega⟩
        by_cases q2 : lk t n p = 40
        · have hl := lk_pos (t := t) (n := n) (p := p) (by omega)
          rw [if_pos q2] at h ho
          clear hdg
          refine m_isFig (by decide) (fun z => by unfold isDig at z; omega) (fun _ => am_b0 ⟨fun z => by omega, fun _ => ?_⟩)
          rw [h2.2.1.1]
          refine ⟨by omega, ?_⟩
          rintro w20 rfl
          by_cases hf : (ckFrm t n (ckFac t n k) 30 (p + 1)).1 = true
          · rw [if_pos hf] at h
            by_cases q3 : lk t n (ckFrm t n (ckFac t n k) 30 (p + 1)).2 = 41
            · have h20 := h2.sp (p + 1)
              have hl3 := lk_pos (t := t) (n := n) (p := (ckFrm t n (ckFac t n k) 30 (p + 1)).2) (by omega)
              refine mf_enters (by decide) (by omega) h20 (fun w' fr' hE1 h' => ?_)
              rw [if_neg (by decide)] at h'
              refine hS (p + 1) l w' _ (δ + 1) 0 fr' (by omega) (by omega) (by omega) (by omega) hf (by rw [q3]; unfold isDig; omega) (fun z => absurd rfl z) hE1.2.2.1 hE1.2.2.2.1 hE1.2.2.2.2.1 hE1.2.2.2.2.2.1 h' ⟨fun l1 x hm w' hw' => ho.1.inl hm hw', fun l1 r hm fr2 w2 e138 hv hsm hw2 => ?_⟩
              have hr := gd_val (gd_frm hn hG hB hA (p + 1) (by omega) (by omega) hf) hE h20.2.2.2.2.2 hm
              have r2 := hr.1.2
              have ho1 := Out.inr (m := evFac t n k p) ho hm
              have k133 : fr2 133 = 1 := by rw [hsm 133 (by decide), hE1.1]
              have r' := fun a g1 g2 => (hw2.2.2.1 a g1 g2).1
              unfold SW
              rw [hw2.2.1.2.1, r' 133 (by decide) (by decide), r' 138 (by decide) (by decide), k133, e138]
              refine ⟨fun z => by omega, fun _ => ?_, fun z => by omega, fun z => by omega, fun z => by omega, fun z => by omega, fun z => by omega, fun z => by omega⟩
              exact ms_leave (by decide) (by omega) hv ⟨⟨_, _, _, _, _, _, h20⟩, by omega, hpr⟩ hw2 ho1
            · rw [if_neg q3] at h
              cases h
          · rw [if_neg hf] at h
            cases h
        · rw [if_neg q2] at h hdg ho
          by_cases q3 : isDig (lk t n p)
          · rw [if_pos q3] at h hdg ho
            have hl := lk_pos (t := t) (n := n) (p := p) (by unfold isDig at q3; omega)
            refine m_isFig (by decide) (fun _ => am_b1 ?_) (fun z => by unfold isDig at q3 z; omega)
            have hg := (gd_num (t := t) (n := n) 6 p 0 (by decide))
            have h3 := hg.2.2 1 (by decide)
            exact ms_numL hM (by omega) hpr 6 0 p 0 _ rfl h0 h1 (by decide) (by decide) hdg h2 (by have := hg.2.1; omega) ho
          · rw [if_neg q3] at h hdg ho
            refine m_isFig (by decide) (fun z => by unfold isDig at q3 z; omega) (fun _ => am_b0 ⟨fun _ => ?_, fun z => by omega⟩)
            by_cases q4 : isCol (lk t n p) ∧ isRow (lk t n (p + 1))
            · rw [if_pos q4] at h ho
              have q4' := q4
              unfold isCol isRow at q4'
              have hl := lk_pos (t := t) (n := n) (p := p) (by omega)
              have hl1 := lk_pos (t := t) (n := n) (p := p + 1) (by omega)
              have hca : 0 ≤ cellAt t n p ∧ cellAt t n p < 72 := by unfold cellAt; omega
              refine m_isCol (by decide) (fun _ => am_b1 (mf_behind hM (by decide) h2 ⟨h0, by omega⟩ (by decide) (m_isFig (by decide) (fun _ => am_b1 (mf_cellHere hM (by decide) h2 h0 q4 ?_)) (fun z => by unfold isDig at z; omega)))) (fun z => by unfold isCol at z; omega)
              rw [h2.2.1.1]
              refine ⟨by omega, ?_⟩
              rintro w16 rfl
              refine mf_reading hM (by decide) (h2.sp (p + 2)) hca (fun l1 y w6 v hm3 h6 hy => ?_) (fun l1 v w6 hm3 hpv h6 => ?_)
              · exact mf_goesOn (by decide) h6.fin (fun z1 z2 => absurd ⟨z1, z2⟩ (mwb hy.1)) (fun _ => am_b0 (LL.fin h6.fin (mwb hy.1) (ho.1.inl hm3 h6.fin)))
              · exact mf_goesOn (by decide) h6.fin (fun _ _ => am_b1 (ms_give (by decide) (by omega) hpv hpr h6 (Out.inr (m := evFac t n k p) ho hm3))) (fun z => absurd ⟨rfl, rfl⟩ z)
            · rw [if_neg q4] at h hdg ho
              obtain ⟨f, hf, hm, ec, ee⟩ := call_at (evf := evFac t n k) 9 0 _ rfl h
              rw [ec] at h
              rw [ee] at ho
              clear hdg ec ee
              have hlen := fn_len f hf
              have hin := ckMt_in (t := t) (n := n) (nmS f) (nmS_ne f hf) p h1
              rw [hm] at hin
              have g0 := ckMt_get (nmS f) p hm 0 (by omega)
              rw [show p + ((0 : Nat) : Int) = p by omega] at g0
              have fin : C_X9_function 29 [.inr (.inr 115)] (wset w 115 27 0) (fun x4 w5 => C_X9_sizeOf 29 [.inl x4] w5 (fun x5 w6 => (-2147483648 ≤ ((w5 115 24) + x5) ∧ ((w5 115 24) + x5) ≤ 2147483647) ∧ (∀ w7, w7 = wset w6 115 24 ((w5 115 24) + x5) → C_X9_enters 29 [.inr (.inr 115), .inl x4] w7 (fun w8 => LL c KV w8)))) := by
                refine mf_function hM (by decide) h2 h0 hf hm (m_sizeOf (by decide) hf ?_)
                rw [h2.2.1.1]
                refine ⟨by omega, ?_⟩
                rintro w7 rfl
                have h7 := h2.sp (p + (nmS f).length)
                refine mf_enters (by decide) (by omega) h7 (fun w' fr' hE1 h' => ?_)
                exact ms_fun hM hS hF (fac_col0 k) hC hG hB hA hf (p + (nmS f).length) l w' _ B δ fr fr' (by omega) hin (by omega) h ⟨⟨_, _, _, _, _, _, h7⟩, by omega, hpr⟩ hE1 h' ho
              refine m_isCol (by decide) (fun qc => am_b1 (mf_behind hM (by decide) h2 ⟨h0, by omega⟩ (by decide) (m_isFig (by decide) (fun qd => ?_) (fun _ => am_b0 fin)))) (fun _ => am_b0 fin)
              have hz1 := hz (by unfold isCol at qc ⊢; omega)
              exact absurd (show isCol (lk t n p) ∧ isRow (lk t n (p + 1)) by unfold isCol isRow isDig at *; omega) q4
    refine LL.toFac hw ⟨29, by decide, e_X9_factor (mf_sign hM (by decide) hw h0 ?_)⟩
    rw [hw.2.1.2.2.2.2.2.2]
    rintro w2 rfl
    exact ⟨fun _ => rest, fun q => mf_isAreaHere hM (by decide) h2 (by omega) hz (fun z => absurd z (his q)) (fun _ => am_b0 rest)⟩
end MLS
