/-! the functions of the reference's evaluator -/
section MJS
variable {w0 w B w1 : Wd} {c n p δ wr bl wa is x : Int} {t : Int → Int} {env : Env'} {l : List Int} {fr fr1 : Int → Int} {d : Nat} {K : Int → Wd → Prop} {KV : Wd → Prop} {fac g : Int → Bool × Int} {evf m : Int → Mo (Int × Int)}
theorem Out.inr {m : Mo (Int × Int)} {α : Type} {m0 : Mo α} {f : α → Mo (Int × Int)} {l1 : List Int} {a : α} (h : Out w0 c B δ fr KV (mbind m0 f env l)) (hm : m0 env l = (l1, .inr a)) : Out w0 c B δ fr KV (f a env l1) := by
  rw [mbind_inr hm] at h
  exact h
/-- the frame below the one that is at work -/
def Bs (w0 : Wd) (c : Int) (B : Wd) (δ : Int) (fr : Int → Int) (w1 : Wd) : Prop := (∃ l0 p0 wr0 bl0 wa0 is0, MF w0 c B l0 p0 δ wr0 bl0 wa0 is0 fr w1) ∧ (0 ≤ δ ∧ δ < 39) ∧ (fr 136 ≠ 0 → PV (fr 137))
theorem ms_leave {v : Int} (hd : 4 ≤ d) (hp : 0 ≤ p ∧ p ≤ 1000) (hv : PV v) (hb : Bs w0 c B δ fr w1) (h : MF w0 c w1 l p (δ + 1) 0 0 wa 0 fr1 w) (ho : Out w0 c B δ fr KV (l, .inr (v, p + 1))) : C_X9_leaves d [.inr (.inr 115), .inr (.inl v)] w (LL c KV) := by
  obtain ⟨⟨l0, p0, wr0, bl0, wa0, is0, h0⟩, hδ, hpr⟩ := hb
  exact mf_leaves hd hδ hp hv hpr h0 h (fun w' fr' hg hp h' => (ho.2 l _ rfl).2 fr' w' hg hp h') (fun q1 q2 w' h' => LL.fin h' (by decide) ((ho.2 l _ rfl).1 q1 q2 w' h'))
def MsC (w0 : Wd) (c : Int) (t : Int → Int) (n : Int) (env : Env') (KV : Wd → Prop) (fac : Int → Bool × Int) (f : Nat) (m : Int → Mo (Int × Int)) : Prop := ∀ (p : Int) (l : List Int) (w w1 B : Wd) (δ : Int) (fr fr1 : Int → Int), 0 ≤ p → p ≤ n → δ + 1 ≤ p → (ckParts t n fac f (am_most.getD f 0).toNat 1 p).1 = true → Bs w0 c B δ fr w1 → FrE ((f : Int) + 2) fr1 → MF w0 c w1 l p (δ + 1) 0 0 1 (if 7 ≤ (f : Int) + 2 ∧ (f : Int) + 2 ≤ 10 then 1 else 0) fr1 w → Out w0 c B δ fr KV (m p env l) → LL c KV w
theorem skN_end (hn : 0 ≤ n ∧ n ≤ 30) (hF : SkF t n fac) (hB : Bd n fac) {f i m : Nat} {q R : Int} (h0 : 0 ≤ q) (ha : Aft t n fac f i q R) (him : i ≤ m) : skN t n m q + 1 = R := by
  obtain ⟨_, i', _, b1, b2⟩ := skN_aft hn hF hB m i q h0 ha
  have := b2 him
  rcases b1 with z | z
  · exact z.2.symm
  · omega
theorem parts_if {p : Int} (h : (ckParts t n fac 0 (am_most.getD 0 0).toNat 1 p).1 = true) : lk t n (ckFrm t n fac 30 p).2 = 44 ∧ lk t n (ckFrm t n fac 30 ((ckFrm t n fac 30 p).2 + 1)).2 = 44 := by
  have e1 : am_most.getD 0 0 = 3 := by decide
  have e2 : am_least.getD 0 0 = 3 := by decide
  rw [e1] at h
  change (ckParts t n fac 0 (0 + 1 + 1 + 1) 1 p).1 = true at h
  unfold ckParts at h
  rw [e1, e2, part_frm (by omega)] at h
  by_cases hf1 : (ckFrm t n fac 30 p).1 = true
  · rw [if_pos hf1, if_neg (by omega), if_neg (by decide)] at h
    by_cases h44 : lk t n (ckFrm t n fac 30 p).2 = 44
    · rw [if_pos h44] at h
      unfold ckParts at h
      rw [e1, e2, part_frm (by omega)] at h
      by_cases hf2 : (ckFrm t n fac 30 ((ckFrm t n fac 30 p).2 + 1)).1 = true
      · rw [if_pos hf2, if_neg (by omega), if_neg (by decide)] at h
        by_cases h442 : lk t n (ckFrm t n fac 30 ((ckFrm t n fac 30 p).2 + 1)).2 = 44
        · exact ⟨h44, h442⟩
        · rw [if_neg h442] at h
          cases h
      · rw [if_neg hf2] at h
        cases h
    · rw [if_neg h44] at h
      cases h
  · rw [if_neg hf1] at h
    cases h
theorem Aft0 {f : Nat} {q R : Int} (h : Aft t n fac f 0 q R) : lk t n q = 41 ∧ R = q + 1 := by
  rcases h with z | ⟨_, part, z, _⟩
  · exact z
  · unfold ckParts at z
    cases z
theorem ms_if (hM : MSt w0 c t n env) (hS : MsS w0 c t n env KV (ckFrm t n fac 30) (evFrm t n evf)) (hF : SkF t n fac) (hG : GF t n fac evf) (hB : Bd n fac) (hA : Adv n fac) : MsC w0 c t n env KV fac 0 (evChoose t n evf 0) := by
  have hn := hM.2.2.1
  have hE := hM.2.2.2.2.1
  have hGM := gd_frm hn hG hB hA
  intro p l w w1 B δ fr fr1 h0 h1 hδp h hbs hE1 hw ho
  rw [if_neg (by omega)] at hw
  have hδ := hbs.2.1
  have hif := parts_if h
  have em : (am_most.getD 0 0).toNat = 2 + 1 := by decide
  have em3 : am_most.getD 0 0 = 3 := by decide
  have h' := h
  rw [em] at h'
  obtain ⟨a1, a2⟩ := parts_aft h'
  rw [part_frm (by omega)] at a1 a2
  have hb1 := ckFrm_bd (t := t) hB 30 p h0 h1
  obtain ⟨i', ei, a3, a4⟩ := a2.next hif.1
  rw [part_frm (by omega)] at a3 a4
  have hl1 := lk_pos (t := t) (n := n) (p := (ckFrm t n fac 30 p).2) (by omega)
  have hb2 := ckFrm_bd (t := t) hB 30 ((ckFrm t n fac 30 p).2 + 1) (by omega) (by omega)
  have hl2 := lk_pos (t := t) (n := n) (p := (ckFrm t n fac 30 ((ckFrm t n fac 30 p).2 + 1)).2) (by omega)
  obtain ⟨i2, ei2, a5, a6⟩ := a4.next hif.2
  rw [part_frm (by omega)] at a5 a6
  have hb3 := ckFrm_bd (t := t) hB 30 ((ckFrm t n fac 30 ((ckFrm t n fac 30 p).2 + 1)).2 + 1) (by omega) (by omega)
  have ez : i2 = 0 := by omega
  subst ez
  have ez : i' = 1 := by omega
  subst ez
  have a7 := Aft0 a6
  have hl3 := lk_pos (t := t) (n := n) (p := (ckFrm t n fac 30 ((ckFrm t n fac 30 ((ckFrm t n fac 30 p).2 + 1)).2 + 1)).2) (by omega)
  have s2 := sk_frm hF hB 30 ((ckFrm t n fac 30 p).2 + 1) (by omega) (by omega) a3
  have s3 := sk_frm hF hB 30 ((ckFrm t n fac 30 ((ckFrm t n fac 30 p).2 + 1)).2 + 1) (by omega) (by omega) a5
  generalize (ckParts t n fac 0 (2 + 1) 1 p).2 = R at *
  generalize hq1 : (ckFrm t n fac 30 p).2 = q1 at *
  generalize hq2 : (ckFrm t n fac 30 (q1 + 1)).2 = q2 at *
  generalize hq3 : (ckFrm t n fac 30 (q2 + 1)).2 = q3 at *
  have hif1 := hif.1
  have hif2 := hif.2
  unfold evChoose at ho
  refine hS p l w w1 (δ + 1) 0 fr1 h0 h1 (by omega) (by omega) a1 (by rw [hq1]; unfold isDig; omega) (fun z => absurd rfl z) hE1.2.2.1 hE1.2.2.2.1 hE1.2.2.2.2.1 hE1.2.2.2.2.2.1 hw ⟨fun l1 x hm w' hw' => ho.1.inl hm hw', fun l1 r hm fr' w' e138 hv hsame h' => ?_⟩
  have hr := gd_val (hGM p h0 h1 a1) hE hw.2.2.2.2.2 hm
  have r2 := hr.1.2
  rw [hq1] at r2
  have ho1 := Out.inr (m := evFrm t n evf p) ho hm
  have k133 : fr' 133 = 2 := by rw [hsame 133 (by decide), hE1.1]; rfl
  have k134 : fr' 134 = 0 := by rw [hsame 134 (by decide), hE1.2.1]
  have r' := fun a g1 g2 => (h'.2.2.1 a g1 g2).1
  -- the second formula, and what follows it
  have fin : ∀ (wt s S : Int) (i : Nat), (if (0 : Nat) = 0 then (if r.1 = 0 then (2 : Int) else 1) else r.1) = wt → 1 ≤ wt ∧ wt < 3 → skN t n (wt - 1).toNat r.2 = s → lk t n s = 44 → (ckFrm t n fac 30 (s + 1)).1 = true → (ckFrm t n fac 30 (s + 1)).2 = S → s + 1 ≤ n → p ≤ s → (lk t n S = 44 ∨ lk t n S = 41) → S < n → s + 1 ≤ S → Aft t n fac 0 i S R → i ≤ 3 → (wt = 1 ∧ S = q2 ∨ wt = 2 ∧ S = q3) → ∀ (fr2 frx : Int → Int) (w2 : Wd), FrN (fu frx 134 wt) fr2 → frx 133 = 2 → MF w0 c w1 l1 (s + 1) (δ + 1) 0 0 1 0 fr2 w2 → LL c KV w2 := by
    intro wt s S i hwt hwr hs h44 hck hS2 hsn hps hst hSn hsS haft hi3 hcase fr2 frx w2 hfr2 hfx hw2
    have ho2 : Out w0 c B δ fr KV (mbind (evFrm t n evf (s + 1)) (fun z => mpure (z.1, skN t n (am_most.getD 0 0).toNat z.2 + 1)) env l1) := by
      have := ho1
      rw [hwt, em3, if_neg (by omega), hs, if_pos h44] at this
      rw [em3]
      exact this
    refine hS (s + 1) l1 w2 w1 (δ + 1) 0 fr2 (by omega) hsn (by omega) (by omega) hck (by rw [hS2]; unfold isDig; omega) (fun z => absurd rfl z) hfr2.1 hfr2.2.1 hfr2.2.2.1 hfr2.2.2.2.1 hw2 ⟨fun l2 x hm2 w' hw' => ho2.1.inl hm2 hw', fun l2 z hm2 fr3 w3 e1383 hv3 hsame3 h3 => ?_⟩
    have hz := gd_val (hGM (s + 1) (by omega) hsn hck) hE hr.2 hm2
    have z2 := hz.1.2
    rw [hS2] at z2
    have ho3 := Out.inr (m := evFrm t n evf p) ho2 hm2
    rw [z2, em, skN_end hn hF hB (by omega) haft hi3] at ho3
    have k133 : fr3 133 = 2 := by rw [hsame3 133 (by decide), hfr2.2.2.2.2 133 (by decide) (by decide) (by decide) (by decide), fu_ne (by decide)]; exact hfx
    have k134 : fr3 134 = wt := by rw [hsame3 134 (by decide), hfr2.2.2.2.2 134 (by decide) (by decide) (by decide) (by decide), fu_same]
    have r3 := fun a g1 g2 => (h3.2.2.1 a g1 g2).1
    have e23 := h3.2.1.2.1
    have e24 := h3.2.1.1
    unfold SW
    rw [e23, r3 133 (by decide) (by decide), r3 138 (by decide) (by decide), k133, e1383]
    refine ⟨fun z => by omega, fun z => by omega, fun _ => ⟨28, by decide, e_X9_ifs ?_⟩, fun z => by omega, fun z => by omega, fun z => by omega, fun z => by omega, fun z => by omega⟩
    rw [e23, e24, r3 134 (by decide) (by decide), k134]
    refine ⟨by omega, fun z => by omega, fun _ => ⟨by omega, fun z => ?_, fun z => ⟨by omega, ?_⟩⟩⟩
    · have eS : S = q3 := by omega
      have : R = S + 1 := by omega
      rw [this] at ho3
      have h3' : MF w0 c w1 l2 S (δ + 1) 0 0 0 0 fr3 w3 := by
        rw [← z2]
        exact h3
      exact ms_leave (by decide) (by omega) hv3 hbs h3' ho3
    · rintro w13 rfl
      have eS : S = q2 := by omega
      rw [z2, eS]
      refine mf_skip hM (by decide) (h3.sp (q2 + 1)) (by omega) hl3.2 s3 (Or.inr a7.1) (fun w14 h14 => ?_)
      rw [a7.2] at ho3
      exact ms_leave (by decide) (by omega) hv3 hbs h14 ho3
  have e23 := h'.2.1.2.1
  have e24 := h'.2.1.1
  unfold SW
  rw [e23, r' 133 (by decide) (by decide), r' 138 (by decide) (by decide), k133, e138]
  refine ⟨fun z => by omega, fun z => by omega, fun _ => ⟨28, by decide, e_X9_ifs ?_⟩, fun z => by omega, fun z => by omega, fun z => by omega, fun z => by omega, fun z => by omega⟩
  rw [e23, e24, r' 134 (by decide) (by decide), k134, r2]
  refine ⟨by omega, fun _ => ⟨by omega, ?_⟩, fun z => absurd (Int.le_refl 0) z⟩
  rintro w2 rfl
  have h2 := h'.sp (q1 + 1)
  refine ⟨fun hz => ⟨fun _ => ?_, fun z => absurd z hz⟩, fun hz => mf_skip hM (by decide) h2 (by omega) hl2.2 s2 (Or.inl hif2) (fun w3 h3 => ?_)⟩
  · rw [h2.2.1.2.1]
    refine ⟨by omega, ?_⟩
    rintro w3 rfl
    refine mf_frame (by decide) (by omega) (h2.sfr (a := 134) (by decide) 1) (fun w4 fr4 hf4 h4 => ?_)
    rw [fu_ne (by decide), k133, if_neg (by decide)] at h4
    exact fin 1 q1 q2 1 (by rw [if_pos rfl, if_neg hz]) (by decide) (by show skN t n 0 r.2 = q1; exact r2) hif1 a3 hq2 (by omega) (by omega) (Or.inl hif2) (by omega) (by omega) a4 (by decide) (Or.inl ⟨rfl, rfl⟩) fr4 fr' w4 hf4 k133 h4
  · rw [h3.2.1.1]
    refine ⟨by omega, ?_⟩
    rintro w4 rfl
    have h4 := h3.sp (q2 + 1)
    refine ⟨fun z => absurd hz z, fun _ => ?_⟩
    rw [h4.2.1.2.1]
    refine ⟨by omega, ?_⟩
    rintro w5 rfl
    refine mf_frame (by decide) (by omega) (h4.sfr (a := 134) (by decide) 2) (fun w6 fr6 hf6 h6 => ?_)
    rw [fu_ne (by decide), k133, if_neg (by decide)] at h6
    refine fin 2 q2 q3 0 (by rw [if_pos rfl, if_pos hz]) (by decide) ?_ hif2 a5 hq3 (by omega) (by omega) (Or.inr a7.1) (by omega) (by omega) a6 (by decide) (Or.inr ⟨rfl, rfl⟩) fr6 fr' w6 hf6 k133 h6
    show skN t n 1 r.2 = q2
    unfold skN
    rw [r2, if_pos hif1]
    exact Sk.skp0 (t := t) hn.2 (p := q1 + 1) (by omega) hl2.2 s2 (Or.inl hif2)
theorem ms_pick (hM : MSt w0 c t n env) (hS : MsS w0 c t n env KV (ckFrm t n fac 30) (evFrm t n evf)) (hF : SkF t n fac) (hG : GF t n fac evf) (hB : Bd n fac) (hA : Adv n fac) : MsC w0 c t n env KV fac 1 (evChoose t n evf 1) := by
  have hn := hM.2.2.1
  have hE := hM.2.2.2.2.1
  have hGM := gd_frm hn hG hB hA
  intro p l w w1 B δ fr fr1 h0 h1 hδp h hbs hE1 hw ho
  rw [if_neg (by omega)] at hw
  have hδ := hbs.2.1
  have em : (am_most.getD 1 0).toNat = 4 + 1 := by decide
  have em5 : am_most.getD 1 0 = 5 := by decide
  have h' := h
  rw [em] at h'
  obtain ⟨a1, a2⟩ := parts_aft h'
  rw [part_frm (by omega)] at a1 a2
  have hb1 := ckFrm_bd (t := t) hB 30 p h0 h1
  generalize (ckParts t n fac 1 (4 + 1) 1 p).2 = R at *
  generalize hq1 : (ckFrm t n fac 30 p).2 = q1 at *
  have hst := a2.stop
  have hl1 := lk_pos (t := t) (n := n) (p := q1) (by omega)
  unfold evChoose at ho
  refine hS p l w w1 (δ + 1) 0 fr1 h0 h1 (by omega) (by omega) a1 (by rw [hq1]; unfold isDig; omega) (fun z => absurd rfl z) hE1.2.2.1 hE1.2.2.2.1 hE1.2.2.2.2.1 hE1.2.2.2.2.2.1 hw ⟨fun l1 x hm w' hw' => ho.1.inl hm hw', fun l1 r hm fr' w' e138 hv hsame h' => ?_⟩
  have hr := gd_val (hGM p h0 h1 a1) hE hw.2.2.2.2.2 hm
  have r2 := hr.1.2
  rw [hq1] at r2
  have ho1 := Out.inr (m := evFrm t n evf p) ho hm
  have k133 : fr' 133 = 3 := by rw [hsame 133 (by decide), hE1.1]; rfl
  have k134 : fr' 134 = 0 := by rw [hsame 134 (by decide), hE1.2.1]
  have r' := fun a g1 g2 => (h'.2.2.1 a g1 g2).1
  rw [if_neg (show ¬ ((1 : Nat) = 0) by decide), em5, show Int.toNat 5 = 4 + 1 from rfl, r2] at ho1
  have e23 := h'.2.1.2.1
  have e24 := h'.2.1.1
  unfold SW
  rw [e23, r' 133 (by decide) (by decide), r' 138 (by decide) (by decide), k133, e138]
  refine ⟨fun z => by omega, fun z => by omega, fun z => by omega, fun _ => ⟨28, by decide, e_X9_picks ?_⟩, fun z => by omega, fun z => by omega, fun z => by omega, fun z => by omega⟩
  rw [e23, r' 134 (by decide) (by decide), k134]
  rw [r2] at h'
  have bad : ¬ (1 ≤ r.1 ∧ r.1 < 5 ∧ lk t n (skN t n (r.1 - 1).toNat q1) = 44) → ∀ w2, MF w0 c w1 l1 q1 (δ + 1) 0 0 0 0 fr' w2 → C_X9_fails 28 [.inr (.inr 115), .inl 3] w2 (fun w4 => LL c KV w4) := by
    intro hz w2 h2
    have ho2 : Out w0 c B δ fr KV (mfail (α := Int × Int) 3 env l1) := by
      by_cases z1 : r.1 < 1 ∨ 5 ≤ r.1
      · rw [if_pos z1] at ho1
        exact ho1
      · rw [if_neg z1, if_neg (fun z => hz ⟨by omega, by omega, z⟩)] at ho1
        exact ho1
    refine mf_fails (by decide) h2 (fun w3 h3 => LL.fin h3.fin (by decide) (ho2.1 l1 (3, -1) rfl w3 ?_))
    rw [mwr1, mbl1]
    exact h3.fin
  refine ⟨by omega, fun _ => ⟨fun z => bad (by omega) w' h', fun z1 => mf_others hM (by decide) hF hB (by omega) (by decide) a2 h' (fun m w2 hm4 hj h2 => ?_)⟩, fun z => absurd (Int.le_refl 0) z⟩
  have hj1 := hj (r.1 - 1).toNat
  refine ⟨fun z2 => ?_, fun z2 => bad (fun z => by have := hj1.mp z.2.2; omega) w2 h2⟩
  have h44 := hj1.mpr (by omega)
  rw [if_neg (by omega), if_pos h44] at ho1
  rw [h2.2.1.1]
  refine ⟨by omega, ?_⟩
  rintro w3 rfl
  have hv7 : r.1 - ((r.1 - 1).toNat : Int) = 1 := by omega
  have key := mf_pick78 (KV := LL c KV) (v := r.1) hM (d := 28) (by decide) (δ := δ + 1) (by omega) hF hB (r.1 - 1).toNat 4 q1 _ (by omega) (by omega) hr.1.1 a2 h44 (h2.sp (q1 + 1))
  rw [hv7] at key
  refine key (fun w4 fr4 hf4 h4 => ?_)
  rw [k133, if_neg (by decide)] at h4
  obtain ⟨b0, i', b3, b1, _⟩ := skN_aft hn hF hB (r.1 - 1).toNat 4 q1 (by omega) a2
  have hsk := skN_le (t := t) (n := n) (r.1 - 1).toNat q1
  generalize skN t n (r.1 - 1).toNat q1 = s at *
  have hls := lk_pos (t := t) (n := n) (p := s) (by omega)
  obtain ⟨i2, ei2, a5, a6⟩ := b1.next h44
  rw [part_frm (by omega)] at a5 a6
  have hb3 := ckFrm_bd (t := t) hB 30 (s + 1) (by omega) (by omega)
  have hst3 := a6.stop
  refine hS (s + 1) l1 w4 w1 (δ + 1) 0 fr4 (by omega) (by omega) (by omega) (by omega) a5 (by unfold isDig; omega) (fun z => absurd rfl z) hf4.1 hf4.2.1 hf4.2.2.1 hf4.2.2.2.1 h4 ⟨fun l2 x hm2 w' hw' => ho1.1.inl hm2 hw', fun l2 z hm2 fr5 w5 e1385 hv5 hsame5 h5 => ?_⟩
  have hz := gd_val (hGM (s + 1) (by omega) (by omega) a5) hE hr.2 hm2
  have z2' := hz.1.2
  have ho3 := Out.inr (m := evFrm t n evf p) ho1 hm2
  rw [z2', skN_end hn hF hB (by omega) a6 (by omega)] at ho3
  rw [z2'] at h5
  have k133 : fr5 133 = 3 := by rw [hsame5 133 (by decide), hf4.2.2.2.2 133 (by decide) (by decide) (by decide) (by decide), fu_ne (by decide)]; exact k133
  have k134 : fr5 134 = 1 := by rw [hsame5 134 (by decide), hf4.2.2.2.2 134 (by decide) (by decide) (by decide) (by decide), fu_same]
  have r5 := fun a g1 g2 => (h5.2.2.1 a g1 g2).1
  have e23 := h5.2.1.2.1
  unfold SW
  rw [e23, r5 133 (by decide) (by decide), r5 138 (by decide) (by decide), k133, e1385]
  refine ⟨fun z => by omega, fun z => by omega, fun z => by omega, fun _ => ⟨28, by decide, e_X9_picks ?_⟩, fun z => by omega, fun z => by omega, fun z => by omega, fun z => by omega⟩
  rw [e23, r5 134 (by decide) (by decide), k134]
  refine ⟨by omega, fun z => by omega, fun _ => mf_pick12 hM (by decide) hF hB i2 _ w5 (by omega) a6 h5 (fun w6 h6 => ?_)⟩
  have hRb : 0 ≤ R - 1 ∧ R - 1 ≤ 1000 := by
    have hsk2 := skN_le (t := t) (n := n) 4 (ckFrm t n fac 30 (s + 1)).2
    have := skN_end hn hF hB (m := 4) (by omega) a6 (by omega)
    omega
  refine ms_leave (by decide) hRb hv5 hbs h6 ?_
  rw [show R - 1 + 1 = R by omega]
  exact ho3
theorem ms_two (hM : MSt w0 c t n env) (hS : MsS w0 c t n env KV (ckFrm t n fac 30) (evFrm t n evf)) (hG : GF t n fac evf) (hB : Bd n fac) (hA : Adv n fac) {f : Nat} (hf : 2 ≤ f ∧ f ≤ 4) : MsC w0 c t n env KV fac f (evComb t n evf f) := by
  have hn := hM.2.2.1
  have hE := hM.2.2.2.2.1
  have hGM := gd_frm hn hG hB hA
  intro p l w w1 B δ fr fr1 h0 h1 hδp h hbs hE1 hw ho
  rw [if_neg (by omega)] at hw
  have hδ := hbs.2.1
  obtain ⟨a1, a2, a3, a4, _⟩ := parts_two hf h
  have hb1 := ckFrm_bd (t := t) hB 30 p h0 h1
  have hl1 := lk_pos (t := t) (n := n) (p := (ckFrm t n fac 30 p).2) (by omega)
  have hb2 := ckFrm_bd (t := t) hB 30 ((ckFrm t n fac 30 p).2 + 1) (by omega) (by omega)
  have hl2 := lk_pos (t := t) (n := n) (p := (ckFrm t n fac 30 ((ckFrm t n fac 30 p).2 + 1)).2) (by omega)
  generalize hq1 : (ckFrm t n fac 30 p).2 = q1 at *
  generalize hq2 : (ckFrm t n fac 30 (q1 + 1)).2 = q2 at *
  unfold evComb at ho
  refine hS p l w w1 (δ + 1) 0 fr1 h0 h1 (by omega) (by omega) a1 (by rw [hq1]; unfold isDig; omega) (fun z => absurd rfl z) hE1.2.2.1 hE1.2.2.2.1 hE1.2.2.2.2.1 hE1.2.2.2.2.2.1 hw ⟨fun l1 x hm w' hw' => ho.1.inl hm hw', fun l1 r hm fr' w' e138 hv hsame h' => ?_⟩
  have hr := gd_val (hGM p h0 h1 a1) hE hw.2.2.2.2.2 hm
  have r2 := hr.1.2
  rw [hq1] at r2
  have ho1 := Out.inr (m := evFrm t n evf p) ho hm
  rw [r2] at h' ho1
  have k133 : fr' 133 = (f : Int) + 2 := by rw [hsame 133 (by decide), hE1.1]
  have k134 : fr' 134 = 0 := by rw [hsame 134 (by decide), hE1.2.1]
  have r' := fun a g1 g2 => (h'.2.2.1 a g1 g2).1
  have e23 := h'.2.1.2.1
  have e24 := h'.2.1.1
  -- the second number
  have two : C_X9_twos 29 [.inr (.inr 115), .inr (.inl r.1)] w' (fun w14 => LL c KV w14) := by
    refine ⟨28, by decide, e_X9_twos ?_⟩
    rw [e23, r' 134 (by decide) (by decide), k134]
    refine ⟨by omega, fun z => absurd rfl z, fun _ => ⟨by omega, ?_⟩⟩
    rintro w13 rfl
    have h13 := h'.sfr (a := 140) (by decide) r.1
    rw [h13.2.1.2.1]
    refine ⟨by omega, ?_⟩
    rintro w14 rfl
    have h14 := h13.sfr (a := 134) (by decide) 1
    rw [h14.2.1.1]
    refine ⟨by omega, ?_⟩
    rintro w15 rfl
    refine mf_frame (by decide) (by omega) (h14.sp (q1 + 1)) (fun w4 fr4 hf4 h4 => ?_)
    rw [fu_ne (by decide), fu_ne (by decide), k133, if_neg (by omega)] at h4
    refine hS (q1 + 1) l1 w4 w1 (δ + 1) 0 fr4 (by omega) (by omega) (by omega) (by omega) a3 (by rw [hq2]; unfold isDig; omega) (fun z => absurd rfl z) hf4.1 hf4.2.1 hf4.2.2.1 hf4.2.2.2.1 h4 ⟨fun l2 x hm2 w' hw' => ho1.1.inl hm2 hw', fun l2 z hm2 fr5 w5 e1385 hv5 hsame5 h5 => ?_⟩
    have hz := gd_val (hGM (q1 + 1) (by omega) (by omega) a3) hE hr.2 hm2
    have z2 := hz.1.2
    rw [hq2] at z2
    have ho3 := Out.inr (m := evFrm t n evf p) ho1 hm2
    rw [z2] at h5 ho3
    have k133 : fr5 133 = (f : Int) + 2 := by rw [hsame5 133 (by decide), hf4.2.2.2.2 133 (by decide) (by decide) (by decide) (by decide), fu_ne (by decide), fu_ne (by decide)]; exact k133
    have k134 : fr5 134 = 1 := by rw [hsame5 134 (by decide), hf4.2.2.2.2 134 (by decide) (by decide) (by decide) (by decide), fu_same]
    have k140 : fr5 140 = r.1 := by rw [hsame5 140 (by decide), hf4.2.2.2.2 140 (by decide) (by decide) (by decide) (by decide), fu_ne (by decide), fu_same]
    have r5 := fun a g1 g2 => (h5.2.2.1 a g1 g2).1
    have e23 := h5.2.1.2.1
    have hr1 := hr.1.1
    have hz1 := hz.1.1
    have bad : ∀ x : Int, 0 < x → Out w0 c B δ fr KV (mfail (α := Int × Int) x env l2) → C_X9_fails 28 [.inr (.inr 115), .inl x] w5 (fun w4 => LL c KV w4) := by
      intro x hx ho4
      refine mf_fails (by decide) h5 (fun w3 h3 => LL.fin h3.fin (by omega) (ho4.1 l2 (x, -1) rfl w3 ?_))
      rw [mwr1, mbl1]
      exact h3.fin
    have tw : C_X9_twos 29 [.inr (.inr 115), .inr (.inl z.1)] w5 (fun w14 => LL c KV w14) := by
      refine ⟨28, by decide, e_X9_twos ?_⟩
      rw [e23, r5 134 (by decide) (by decide), k134, r5 133 (by decide) (by decide), k133, r5 140 (by decide) (by decide), k140]
      refine ⟨by omega, fun _ => ⟨by omega, by omega, fun z6 => ⟨fun zz => ⟨by omega, fun z4 => ?_, fun z4 => ?_⟩, fun zz => ?_⟩, fun z6 => ?_⟩, fun z => by omega⟩
      · rw [if_neg (by omega), if_neg zz, if_neg (by omega)] at ho3
        refine m_floor (by decide) hr1 hz1 zz ?_
        have hfd := Int.fmod_def r.1 z.1
        have hmul := mul_rng hz1 (pv_fdiv (b := z.1) hr1)
        refine ⟨by omega, by omega, ?_⟩
        rw [← hfd]
        exact ms_leave (by decide) (by omega) (pv_fmod hz1 zz) hbs h5 ho3
      · rw [if_neg (by omega), if_neg zz, if_pos (by omega)] at ho3
        exact m_floor (by decide) hr1 hz1 zz (ms_leave (by decide) (by omega) (pv_fdiv hr1) hbs h5 ho3)
      · rw [if_neg (by omega), if_pos zz] at ho3
        exact bad 2 (by decide) ho3
      · rw [if_pos (by omega)] at ho3
        refine ⟨fun z1 => bad 3 (by decide) (by rw [if_neg (by omega)] at ho3; exact ho3), fun z1 => ⟨fun z2 => bad 3 (by decide) (by rw [if_neg (by omega)] at ho3; exact ho3), fun z2 => ⟨fun z3 => bad 3 (by decide) (by rw [if_neg (by omega)] at ho3; exact ho3), fun z3 => ⟨fun z4 => ⟨by omega, by omega, by omega, ?_⟩, fun z4 => bad 3 (by decide) (by rw [if_neg (by omega)] at ho3; exact ho3)⟩⟩⟩⟩
        rw [if_pos (by omega)] at ho3
        rw [show 8 * z.1 + r.1 = z.1 * 8 + r.1 by omega]
        refine mf_reading hM (by decide) h5 (by omega) (fun l3 y w6 v hm3 h6 hy => ?_) (fun l3 v w6 hm3 hpv h6 => ?_)
        · exact mf_goesOn (by decide) h6.fin (fun q1 q2 => absurd ⟨q1, q2⟩ (mwb hy.1)) (fun _ => am_b0 (LL.fin h6.fin (mwb hy.1) (ho3.1.inl hm3 h6.fin)))
        · exact mf_goesOn (by decide) h6.fin (fun _ _ => am_b1 (ms_leave (by decide) (by omega) hpv hbs h6 (Out.inr (m := evFrm t n evf p) ho3 hm3))) (fun q => absurd ⟨rfl, rfl⟩ q)
    unfold SW
    rw [e23, r5 133 (by decide) (by decide), r5 138 (by decide) (by decide), k133, e1385]
    exact ⟨fun z => by omega, fun z => by omega, fun z => by omega, fun z => by omega, fun _ => tw, fun _ => tw, fun _ => tw, fun z => by omega⟩
  unfold SW
  rw [e23, r' 133 (by decide) (by decide), r' 138 (by decide) (by decide), k133, e138]
  exact ⟨fun z => by omega, fun z => by omega, fun z => by omega, fun z => by omega, fun _ => two, fun _ => two, fun _ => two, fun z => by omega⟩
end MJS
