/-! ===== the reference's fault is the class's ===== -/
section FM4
variable {w0 : Wd} {n p δ ia wa is : Int} {k q : Int → Int} {t : Int → Int} {K : Int → Wd → Prop} {fac : Int → Bool × Int}
theorem ckNum_adv (hd : isDig (lk t n p)) (h1 : p ≤ n) : p + 1 ≤ ckNum t n 6 p := by
  unfold ckNum
  rw [if_pos hd]
  have hp := lk_pos (t := t) (n := n) (p := p) (by omega)
  exact (ckNum_bd 5 (p + 1) (by omega)).1
theorem ckFac_adv (hn : 0 ≤ n ∧ n ≤ 30) (κ : Nat) : ∀ p, 0 ≤ p → p ≤ n → (ckFac t n κ p).1 = true → p + 1 ≤ (ckFac t n κ p).2 := by
  induction κ with
  | zero =>
    intro p h0 h1 h
    unfold ckFac at h
    cases h
  | succ κ ih =>
    intro p h0 h1 h
    have hB := ckFac_bd (t := t) hn.1 κ
    unfold ckFac at h ⊢
    by_cases q1 : lk t n p = 45
    · rw [if_pos q1] at h ⊢
      have hp := lk_pos (t := t) (n := n) (p := p) (by omega)
      have := ih (p + 1) (by omega) (by omega) h
      omega
    · rw [if_neg q1] at h ⊢
      by_cases q2 : lk t n p = 40
      · rw [if_pos q2] at h ⊢
        have hp := lk_pos (t := t) (n := n) (p := p) (by omega)
        have hb := ckFrm_bd (t := t) hB 30 (p + 1) (by omega) (by omega)
        by_cases hf : (ckFrm t n (ckFac t n κ) 30 (p + 1)).1 = true
        · rw [if_pos hf] at h ⊢
          by_cases q3 : lk t n (ckFrm t n (ckFac t n κ) 30 (p + 1)).2 = 41
          · rw [if_pos q3]
            dsimp only
            omega
          · rw [if_neg q3] at h
            cases h
        · rw [if_neg hf] at h
          cases h
      · rw [if_neg q2] at h ⊢
        by_cases q3 : isDig (lk t n p)
        · rw [if_pos q3]
          exact ckNum_adv q3 h1
        · rw [if_neg q3] at h ⊢
          by_cases q4 : isCol (lk t n p) ∧ isRow (lk t n (p + 1))
          · rw [if_pos q4]
            dsimp only
            omega
          · rw [if_neg q4] at h ⊢
            have go : ∀ (i f : Nat) (r : Int), i + f = 9 → (ckCall t n (ckFac t n κ) i f r p).1 = true → p + 1 ≤ (ckCall t n (ckFac t n κ) i f r p).2 := by
              intro i
              induction i with
              | zero =>
                intro f r _ h
                unfold ckCall at h
                cases h
              | succ i ih2 =>
                intro f r hf h
                unfold ckCall at h ⊢
                have hm := ckMt_in (t := t) (n := n) (nmS f) (nmS_ne f (by omega)) p h1
                have hl : ∀ f : Nat, f < 9 → 3 ≤ (nmS f).length := by decide +kernel
                have hl1 := hl f (by omega)
                split at h
                · rename_i e
                  rw [if_pos e]
                  have := ckParts_bd (t := t) hB f (am_most.getD f 0).toNat 1 (p + ckMt t n (nmS f) p) (by omega) hm
                  omega
                · rename_i e
                  rw [if_neg e]
                  exact ih2 (f + 1) _ (by omega) h
            exact go 9 0 _ rfl h
theorem sim_fac (hT : TxM w0 t n) (hn0 : ¬ n = 0) : ∀ κ : Nat, SimF (41 - κ) (ckFac t n κ) w0 t n K := by
  have hn := hT.2.1
  intro κ
  induction κ with
  | zero =>
    intro p δ ia is k q hm hP
    have := hP.1
    omega
  | succ κ ih =>
    intro p δ ia is k q hm hP ok bad
    have hB := ckFac_bd (t := t) hn.1 κ
    have hA : Adv n (ckFac t n κ) := ckFac_adv hn κ
    have hp := hP.1
    have hδ := hP.2.1
    have hq0 := hP.2.2.2.1
    unfold ckFac at ok bad
    refine run_wants (m_readFactor (by decide) hT hp.1 hp.2 ⟨hδ.1, by omega⟩ hP.2.2.1 (fun z1 z2 => ?_) (fun z1 z2 ia' z3 => ?_) (fun z1 => ?_) (fun z1 => ?_) (fun z1 => ?_) (fun z1 z2 z3 z4 f hf hE hmt => ?_) (fun z1 z2 z3 z4 r hr hrn hE => ?_))
    · rw [if_neg (by omega), if_neg (by omega), if_neg (by omega), if_pos z1] at ok
      exact ok rfl k q Ag.refl
    · have h58 : ¬ lk t n (p + 2) = 58 := fun z => (hP.2.2.2.2 z2).2 ⟨z1, z⟩
      have eA : ckArea t n p = (true, p + 2) := by
        unfold ckArea
        have : (ckCell t n 97 49 p).1 = true := by
          unfold ckCell
          rw [if_pos (by omega), if_pos (by omega)]
        rw [if_pos this, if_neg h58]
      rw [eA] at z3 ⊢
      have e0 := z3 rfl
      rw [if_neg h58] at e0
      rw [e0]
      rw [if_neg (by omega), if_neg (by omega), if_neg (by omega), if_pos z1] at ok
      exact ok rfl k q Ag.refl
    · rw [if_pos z1] at ok bad
      have hp2 := lk_pos (t := t) (n := n) (p := p) (by omega)
      refine ih (p + 1) δ 0 0 k q (by omega) ⟨⟨by omega, by omega⟩, ⟨hδ.1, by omega⟩, hP.2.2.1, hq0, fun z => absurd rfl z⟩ ok bad
    · rw [if_neg (by omega), if_neg (by omega), if_pos z1] at ok
      exact ok rfl k q Ag.refl
    · rw [if_neg (by omega), if_pos z1] at ok bad
      have hp2 := lk_pos (t := t) (n := n) (p := p) (by omega)
      have hb := ckFrm_bd (t := t) hB 30 (p + 1) (by omega) (by omega)
      refine sim_frm hT ih hB hA 30 (p + 1) (δ + 1) 0 0 _ _ (by omega) (by omega) ⟨⟨by omega, by omega⟩, ⟨by omega, by omega⟩, by rw [fu_same]; decide, by rw [fu_same]; decide, fun z => absurd rfl z⟩ (fun hf hop k' q' hag => ?_) (fun hf => ?_)
      · rw [if_pos hf] at ok bad
        have hk' := (hag (δ + 1) (Int.le_refl _)).1
        have hq' := (hag (δ + 1) (Int.le_refl _)).2
        rw [fu_same] at hk' hq'
        have hl := hr_lk (t := t) (n := n) (p := (ckFrm t n (ckFac t n κ) 30 (p + 1)).2) (by omega)
        by_cases hend : n ≤ (ckFrm t n (ckFac t n κ) 30 (p + 1)).2
        · rw [if_neg (by omega)] at bad
          exact run_end hT hend (run_fin hT hn0 (Or.inr (Or.inr (by omega))) (bad rfl))
        · refine run_behind hT (by omega) (m_readBehind (by decide) hT (by omega) (by omega) ⟨by omega, by omega⟩ (by omega) (fun y1 y2 => absurd y1 (by omega)) (fun y1 y2 => absurd rfl y2) (fun y1 y2 => ?_) (fun y1 y2 => ?_) (fun y1 y2 y3 => ?_))
          · rw [hk', hq'] at y2
            exact absurd y2 (by decide)
          · rw [if_pos (by omega)] at ok
            refine am_b1 ?_
            rw [show δ + 1 - 1 = δ by omega]
            exact ok rfl k' q' ((Ag.fu (a := 1) (b := 0)).trans (hag.less (by omega)))
          · rw [hk', hq'] at y3
            have : ¬ t (ckFrm t n (ckFac t n κ) 30 (p + 1)).2 = 41 := fun y => y3 ⟨y, Or.inl rfl⟩
            rw [if_neg (by omega)] at bad
            exact am_b0 (run_fin hT hn0 (Or.inr (Or.inr (by omega))) (bad rfl))
      · rw [if_neg (by rw [hf]; decide)] at bad
        exact bad rfl
    · rw [if_neg z2, if_neg z3, if_neg z4, if_neg z1, hE] at ok bad
      have hm2 := ckMt_in (t := t) (n := n) (nmS f) (nmS_ne f hf) p hp.2
      have hl : ∀ f : Nat, f < 9 → 3 ≤ (nmS f).length := by decide +kernel
      have hl1 := hl f hf
      have htab := tab_least f hf
      refine sim_parts hT ih hB hA hn0 hf (am_most.getD f 0).toNat 1 _ (δ + 1) 0 _ _ (by omega) (by omega) (Int.le_refl 1) (by omega) ⟨by omega, hm2⟩ ⟨by omega, by omega⟩ (by rw [fu_same]) (by rw [fu_same]; rfl) (fun h1 k' q' hag => ?_) bad
      rw [show δ + 1 - 1 = δ by omega]
      refine ok h1 k' q' ((Ag.fu (a := (f : Int) + 2) (b := 0)).trans ?_)
      rw [show δ + 1 - 1 = δ by omega] at hag
      exact hag
    · rw [if_neg z2, if_neg z3, if_neg z4, if_neg z1, hE] at bad
      exact run_fin hT hn0 (Or.inl (by decide)) (bad rfl)
/-- the reference's fault -/
theorem m_faultOf {d : Nat} {w : Wd} (hd : 11 ≤ d) (hT : TxM w t n) (kk : ∀ p δ ia wa is k q, K (ckFault t n) (fw w p δ ia wa is k q)) : C_X9_faultOf d [.inr (.inr 115)] w K := by
  have hn := hT.2.1
  refine ⟨10, hd, e_X9_faultOf ?_⟩
  rintro w1 rfl w2 rfl w3 rfl w4 rfl w5 rfl w6 rfl w7 rfl
  have e : wset (wset (wset (wset (wset (wset (wset w 115 24 0) 115 23 0) 133 0 0) 134 0 0) 115 26 1) 115 27 0) 115 25 0 = fw w 0 0 0 1 0 (fu (w 133) 0 0) (fu (w 134) 0 0) := by
    conv => lhs; rw [← fw_self (w := w)]
    rw [fs_24, fs_23, fs_k, fs_q, fs_26, fs_27, fs_25]
  rw [e, fw_4, hT.1]
  by_cases hn0 : n = 0
  · refine ⟨fun _ => ?_, fun z => absurd (by omega) z⟩
    have := kk 0 0 0 1 0 (fu (w 133) 0 0) (fu (w 134) 0 0)
    unfold ckFault at this
    rw [if_pos hn0] at this
    refine v_X9_faultOf_52 ⟨fun _ => ?_, fun z => absurd rfl z⟩
    rw [fw_4, hT.1]
    exact ⟨fun _ => this, fun z => absurd hn0 z⟩
  · refine ⟨fun z => absurd z (by omega), fun _ => ?_⟩
    have hB := ckFac_bd (t := t) hn.1 41
    have hA : Adv n (ckFac t n 41) := ckFac_adv hn 41
    have hb := ckFrm_bd (t := t) hB 30 0 (by decide) hn.1
    unfold ckFault at kk
    rw [if_neg hn0] at kk
    refine sim_frm hT (sim_fac hT hn0 41) hB hA 30 0 0 0 0 _ _ (by decide) (by decide) ⟨⟨by decide, hn.1⟩, ⟨by decide, by decide⟩, by rw [fu_same]; decide, by rw [fu_same]; decide, fun z => absurd rfl z⟩ (fun hf hop k' q' hag => ?_) (fun hf => ?_)
    · have hk' := (hag 0 (Int.le_refl _)).1
      have hq' := (hag 0 (Int.le_refl _)).2
      rw [fu_same] at hk' hq'
      have hl := hr_lk (t := t) (n := n) (p := (ckFrm t n (ckFac t n 41) 30 0).2) (by omega)
      by_cases hend : n ≤ (ckFrm t n (ckFac t n 41) 30 0).2
      · rw [if_pos ⟨hf, hend⟩] at kk
        refine run_end hT hend (v_X9_faultOf_52 ⟨fun _ => ?_, fun z => absurd rfl z⟩)
        simp only [fw_4, fw_26, fw_24, fw_23, hT.1]
        exact ⟨fun z => absurd z hn0, fun _ => ⟨fun z => absurd trivial z, fun _ => ⟨fun z => absurd (by omega) z, fun _ => ⟨fun z => absurd trivial z, fun _ => kk _ _ _ _ _ _ _⟩⟩⟩⟩
      · rw [if_neg (fun z => hend z.2)] at kk
        refine run_behind hT (by omega) (m_readBehind (by decide) hT (by omega) (by omega) ⟨by decide, by decide⟩ (by omega) (fun y1 y2 => absurd y1 (by omega)) (fun y1 y2 => absurd rfl y2) (fun y1 y2 => ?_) (fun y1 y2 => ?_) (fun y1 y2 y3 => ?_))
        · rw [hk', hq'] at y2
          exact absurd y2 (by decide)
        · rw [hk', hq'] at y2
          exact absurd y2 (by unfold mMay; decide)
        · exact am_b0 (run_fin hT hn0 (Or.inr (Or.inl (by omega))) (fun δ ia wa is k q => kk _ δ ia wa is k q))
    · rw [if_neg (fun z => by rw [hf] at z; exact absurd z.1 (by decide))] at kk
      exact fun δ ia wa is k q => kk _ δ ia wa is k q
end FM4
