/-! works: a cell is worked out by the reference -/
def MwOff (c a i : Int) : Prop := ¬ (a = 115 ∧ (i = 23 ∨ i = 24 ∨ i = 26 ∨ i = 27 ∨ i = 36 ∨ i = 37 ∨ i = 38 ∨ i = 39 ∨ i = 40 ∨ i = 41)) ∧ ¬ (133 ≤ a ∧ a ≤ 142) ∧ ¬ (a = 123 ∧ i = c) ∧ ¬ (a = 124 ∧ 72 * c ≤ i ∧ i < 72 * c + 72)
def MwEnd (w : Wd) (c : Int) (l : List Int) (wr bl : Int) (w' : Wd) : Prop := (∀ a i, MwOff c a i → w' a i = w a i) ∧ (w' 115 39 = bl ∧ w' 115 40 = wr) ∧ MRd c l w'
def mvOf (w : Wd) : Env' := fun x => ((if w 131 x ≠ 0 then 0 else 1, w 119 x), (w 120 x, if w 116 x = 0 ∧ x ≠ w 115 42 then 0 else 1))
theorem m_works {c : Int} {t : Int → Int} {w : Wd} {d : Nat} {KV : Wd → Prop} (hd : 31 ≤ d) (hc : 0 ≤ c ∧ c < 72) (hn : 0 ≤ w 116 c ∧ w 116 c ≤ 30) (htx : ∀ i, 0 ≤ i → i < w 116 c → w 116 (72 + 30 * c + i) = t i) (hE : OkE (mvOf w)) (hck : c ≠ w 115 42 → w 116 c ≠ 0 ∧ ckFault t (w 116 c) = -1)
    (kg : c = w 115 42 → ∀ w', MwEnd w c [] 0 0 w' → w' 115 41 = w 115 43 → KV w')
    (kerr : c ≠ w 115 42 → ∀ l x w', evTop t (w 116 c) (mvOf w) [] = (l, .inl x) → (1 ≤ x.1 ∧ x.1 ≤ 4) → MwEnd w c l (mwr x) (mbl x) w' → KV w')
    (kok : c ≠ w 115 42 → ∀ l r w', evTop t (w 116 c) (mvOf w) [] = (l, .inr r) → PV r.1 → MwEnd w c l 0 0 w' → w' 115 41 = r.1 → KV w') : C_X9_works d [.inr (.inr 115), .inl c] w KV := by
  refine ⟨30, hd, e_X9_works ⟨hc, ?_⟩⟩
  rintro w1 rfl w2 rfl w3 rfl
  have e42 : wset (wset (wset w 123 c 0) 115 40 0) 115 39 0 115 42 = w 115 42 := by rw [wset_at (by omega), wset_at (by omega), wset_at (by omega)]
  rw [e42]
  -- the setting up
  have setup : ∀ (dn : Int) (w4 w5 w6 w7 w8 w9 w10 w11 : Wd), w4 = wset (wset (wset (wset w 123 c 0) 115 40 0) 115 39 0) 115 38 dn → w5 = wset w4 115 41 (w4 115 43) → w6 = wset w5 115 36 c → w7 = wset w6 115 37 (w6 116 (0 + c)) → w8 = wset w7 115 24 0 → w9 = wset w8 115 23 0 → w10 = wset w9 133 0 0 → w11 = wset w10 134 0 0 →
      (∀ a i, MwOff c a i → w11 a i = w a i) ∧ (w11 115 36 = c ∧ w11 115 37 = w 116 c ∧ w11 115 24 = 0 ∧ w11 115 23 = 0 ∧ w11 115 38 = dn ∧ w11 115 39 = 0 ∧ w11 115 40 = 0 ∧ w11 115 41 = w 115 43) ∧ w11 133 0 = 0 ∧ MRd c [] w11 := by
    rintro dn w4 w5 w6 w7 w8 w9 w10 w11 rfl rfl rfl rfl rfl rfl rfl rfl
    have z : (0 : Int) + c = c := by omega
    refine ⟨fun a i hi => ?_, ⟨?_, ?_, ?_, ?_, ?_, ?_, ?_, ?_⟩, ?_, ?_, fun j hj => absurd hj (Nat.not_lt_zero j), List.nodup_nil, fun x hx => by cases hx⟩
    · unfold MwOff at hi
      rw [wset_at (by omega), wset_at (by omega), wset_at (by omega), wset_at (by omega), wset_at (by omega), wset_at (by omega), wset_at (by omega), wset_at (by omega), wset_at (by omega), wset_at (by omega), wset_at (by omega)]
    · rw [wset_at (by omega), wset_at (by omega), wset_at (by omega), wset_at (by omega), wset_at (by omega), wset_eq]
    · rw [wset_at (by omega), wset_at (by omega), wset_at (by omega), wset_at (by omega), wset_eq, wset_at (by omega), wset_at (by omega), wset_at (by omega), wset_at (by omega), wset_at (by omega), wset_at (by omega), z]
    · rw [wset_at (by omega), wset_at (by omega), wset_at (by omega), wset_eq]
    · rw [wset_at (by omega), wset_at (by omega), wset_eq]
    · rw [wset_at (by omega), wset_at (by omega), wset_at (by omega), wset_at (by omega), wset_at (by omega), wset_at (by omega), wset_at (by omega), wset_eq]
    · rw [wset_at (by omega), wset_at (by omega), wset_at (by omega), wset_at (by omega), wset_at (by omega), wset_at (by omega), wset_at (by omega), wset_at (by omega), wset_eq]
    · rw [wset_at (by omega), wset_at (by omega), wset_at (by omega), wset_at (by omega), wset_at (by omega), wset_at (by omega), wset_at (by omega), wset_at (by omega), wset_at (by omega), wset_eq]
    · rw [wset_at (by omega), wset_at (by omega), wset_at (by omega), wset_at (by omega), wset_at (by omega), wset_at (by omega), wset_eq, wset_at (by omega), wset_at (by omega), wset_at (by omega), wset_at (by omega)]
    · rw [wset_at (by omega), wset_eq]
    · rw [wset_at (by omega), wset_at (by omega), wset_at (by omega), wset_at (by omega), wset_at (by omega), wset_at (by omega), wset_at (by omega), wset_at (by omega), wset_at (by omega), wset_at (by omega), wset_eq]; rfl
  -- a frame as it is before the first step
  have frame : ∀ (w11 : Wd) (K' : Wd → Prop), (∀ a i, MwOff c a i → w11 a i = w a i) → w11 115 23 = 0 → w11 133 0 = 0 → (∀ w12, (∀ a i, ¬ (a = 115 ∧ (i = 26 ∨ i = 27)) → ¬ (133 ≤ a ∧ a ≤ 142) → w12 a i = w11 a i) → K' w12) → C_X9_frame 30 [.inr (.inr 115)] w11 K' := by
    intro w11 K' hoff h23 h133 k
    refine ⟨29, by decide, e_X9_frame ?_⟩
    rw [h23]
    refine ⟨by decide, ?_⟩
    rintro w1 rfl
    rw [show wset w11 135 0 0 115 23 = 0 by rw [wset_at (by omega)]; exact h23]
    refine ⟨by decide, ?_⟩
    rintro w2 rfl
    rw [show wset (wset w11 135 0 0) 136 0 0 115 23 = 0 by rw [wset_at (by omega), wset_at (by omega)]; exact h23]
    refine ⟨by decide, ?_⟩
    rintro w3 rfl
    rw [show wset (wset (wset w11 135 0 0) 136 0 0) 139 0 0 115 23 = 0 by rw [wset_at (by omega), wset_at (by omega), wset_at (by omega)]; exact h23]
    refine ⟨by decide, ?_⟩
    rintro w4 rfl w5 rfl
    rw [show wset (wset (wset (wset (wset w11 135 0 0) 136 0 0) 139 0 0) 138 0 0) 115 26 1 115 23 = 0 by rw [wset_at (by omega), wset_at (by omega), wset_at (by omega), wset_at (by omega), wset_at (by omega)]; exact h23]
    refine ⟨by decide, m_hasParts (by decide) ?_⟩
    refine ⟨by split; exact Or.inr rfl; exact Or.inl rfl, ?_⟩
    rintro w7 rfl
    refine k _ (fun a i h1 h2 => ?_)
    rw [wset_at (by omega), wset_at (by omega), wset_at (by omega), wset_at (by omega), wset_at (by omega), wset_at (by omega)]
  refine ⟨fun hg => ?_, fun hg => ?_⟩
  · rintro w4 e4 w5 e5 w6 e6
    refine ⟨by omega, by omega, ?_⟩
    rintro w7 e7 w8 e8 w9 e9 w10 e10 w11 e11
    obtain ⟨s1, ⟨s36, s37, s24, s23, s38, s39, s40, s41⟩, s133, s4⟩ := setup 0 w4 w5 w6 w7 w8 w9 w10 w11 e4 e5 e6 e7 e8 e9 e10 e11
    clear e4 e5 e6 e7 e8 e9 e10 e11 setup frame
    have hM : MSt w11 c t (w 116 c) (mvOf w) := by
      refine ⟨hc, ⟨s36, s37⟩, hn, fun i h0 h1 => by rw [s1 116 _ (by unfold MwOff; omega)]; exact htx i h0 h1, hE, fun x h0 h1 => ⟨?_, s1 119 x (by unfold MwOff; omega), s1 120 x (by unfold MwOff; omega), ?_⟩⟩
      · rw [s1 131 x (by unfold MwOff; omega)]
        unfold mvOf
        dsimp only
        by_cases q : w 131 x ≠ 0
        · rw [if_pos q]; exact ⟨fun _ => rfl, fun _ => q⟩
        · rw [if_neg q]; exact ⟨fun z => absurd z q, fun z => absurd z (by decide)⟩
      · rw [s1 116 x (by unfold MwOff; omega), s1 115 42 (by unfold MwOff; omega)]
        unfold mvOf
        dsimp only
        by_cases q : w 116 x = 0 ∧ x ≠ w 115 42
        · rw [if_pos q]; exact ⟨fun _ => rfl, fun _ => q⟩
        · rw [if_neg q]; exact ⟨fun z => absurd z q, fun z => absurd z (by decide)⟩
    have hF0 : MF w11 c w11 [] 0 0 0 0 (w11 115 26) (w11 115 27) (fun a => w11 a 0) w11 := ⟨fun _ _ _ => rfl, ⟨s24, s23, s38, s39, s40, rfl, rfl⟩, fun a h0 h1 => ⟨rfl, fun _ _ => rfl⟩, s4⟩
    refine mf_frame (by decide) (by decide) hF0 (fun w12 fr hfr h12 => ?_)
    rw [s133, if_neg (by decide)] at h12
    have hck' := hck hg
    have htop := ck_top hck'.1 hck'.2 hn
    have tr : ∀ l wr bl w', MEnd w11 c l wr bl w' → MwEnd w c l wr bl w' := fun l wr bl w' h => ⟨fun a i hi => by rw [h.1 a i (by unfold MwOff at hi; unfold MOff; omega)]; exact s1 a i hi, h.2.1.2, h.2.2⟩
    refine ms_frm hM (ms_fac hM 41) (gd_fac hn 41) (ckFac_bd hn.1 41) (ckFac_adv hn 41) 0 [] w12 w11 0 0 fr (by decide) hn.1 (by decide) (by decide) htop.1 (by
      intro z
      have := lk_pos (t := t) (n := w 116 c) (p := (ckFrm t (w 116 c) (ckFac t (w 116 c) 41) 30 0).2) (by unfold isDig at z; omega)
      omega) (fun z => absurd rfl z) hfr.1 hfr.2.1 hfr.2.2.1 hfr.2.2.2.1 h12 ⟨fun l1 x hm w' hw' => ?_, fun l1 r hm fr' w' e138 hv hsm h' => ?_⟩
    · exact kerr hg l1 x w' hm (gd_er (gd_top hck'.1 hck'.2 hn) hE h12.2.2.2.2.2 hm) (tr _ _ _ _ hw')
    · have k133 : fr' 133 = 0 := by
        rw [hsm 133 (by decide), hfr.2.2.2.2 133 (by decide) (by decide) (by decide) (by decide)]
        exact s133
      have r' := fun a g1 g2 => (h'.2.2.1 a g1 g2).1
      unfold SW
      rw [h'.2.1.2.1, r' 133 (by decide) (by decide), r' 138 (by decide) (by decide), k133, e138]
      refine ⟨fun _ => ?_, fun z => by omega, fun z => by omega, fun z => by omega, fun z => by omega, fun z => by omega, fun z => by omega, fun z => by omega⟩
      rintro w9 rfl w10 rfl
      refine v_X9_works_88 ⟨fun _ => ?_, fun z => absurd (wset_eq.symm.trans z) (by decide)⟩
      refine kok hg l1 r _ hm hv ⟨fun a i hi => ?_, ⟨?_, ?_⟩, ?_⟩ ?_
      · have hi' := hi
        unfold MwOff at hi'
        rw [wset_at (by omega), wset_at (by omega), h'.1 a i (by unfold MOff; omega)]
        exact s1 a i hi
      · rw [wset_at (by omega), wset_at (by omega)]; exact h'.2.1.2.2.2.1
      · rw [wset_at (by omega), wset_at (by omega)]; exact h'.2.1.2.2.2.2.1
      · exact (h'.2.2.2.off (by decide) (by decide)).off (by decide) (by decide)
      · rw [wset_at (by omega), wset_eq]
  · rintro w4 e4 w5 e5 w6 e6
    refine ⟨by omega, by omega, ?_⟩
    rintro w7 e7 w8 e8 w9 e9 w10 e10 w11 e11
    obtain ⟨s1, ⟨s36, s37, s24, s23, s38, s39, s40, s41⟩, s133, s4⟩ := setup 1 w4 w5 w6 w7 w8 w9 w10 w11 e4 e5 e6 e7 e8 e9 e10 e11
    clear e4 e5 e6 e7 e8 e9 e10 e11 setup
    refine frame w11 _ s1 s23 s133 (fun w12 h12 => ?_)
    have h38 : w12 115 38 = 1 := by rw [h12 115 38 (by omega) (by omega)]; exact s38
    refine v_X9_works_88 ⟨fun _ => ?_, fun z => absurd (h38.symm.trans z) (by decide)⟩
    refine kg hg w12 ⟨fun a i hi => ?_, ⟨?_, ?_⟩, ?_, fun j hj => absurd hj (Nat.not_lt_zero j), List.nodup_nil, fun x hx => by cases hx⟩ ?_
    · have hi' := hi
      unfold MwOff at hi'
      rw [h12 a i (by omega) (by omega)]
      exact s1 a i hi
    · rw [h12 115 39 (by omega) (by omega)]; exact s39
    · rw [h12 115 40 (by omega) (by omega)]; exact s40
    · rw [h12 123 c (by omega) (by omega)]; exact s4.1
    · rw [h12 115 41 (by omega) (by omega)]; exact s41
