/-! the evaluator as a whole: a cell that is not empty -/
def EvEnd (w : Wd) (st tg : Int) (l : List Int) (e b : Int) (w' : Wd) : Prop :=
  (∀ c i, c ≠ 109 → c ≠ 110 → c ≠ 113 → ¬ (c = st + 11 ∧ i = tg) → ¬ (c = st + 12 ∧ tg * 72 ≤ i ∧ i < tg * 72 + 72) → w' c i = w c i) ∧ (∀ i, i < 3 ∨ 7 < i → w' 109 i = w 109 i) ∧ (w' 109 3 = w 109 3 + 1 ∧ w' 109 6 = e ∧ w' 109 7 = b) ∧ w' (st + 11) tg = l.length ∧ (∀ j : Nat, j < l.length → w' (st + 12) (tg * 72 + j) = l.getD j 0) ∧ OkL l ∧ (∀ c, 0 ≤ c → c < 72 → w' 113 c ≤ w' 109 3)
def evOf (w : Wd) (st : Int) : Env' := fun c => ((if w 112 c = 0 then 0 else 1, w (st + 7) c), (w (st + 8) c, if w (st + 3) c = 0 then 0 else 1))
/-- what a formula is worth -/
def evTop (t : Int → Int) (n : Int) : Mo (Int × Int) := evFrm t n (evFac t n 41) 0
theorem ck_top {t : Int → Int} {n : Int} (h0 : n ≠ 0) (h : ckFault t n = -1) (hn : 0 ≤ n ∧ n ≤ 30) : (ckFrm t n (ckFac t n 41) 30 0).1 = true ∧ n ≤ (ckFrm t n (ckFac t n 41) 30 0).2 := by
  unfold ckFault at h
  rw [if_neg h0] at h
  by_cases q : (ckFrm t n (ckFac t n 41) 30 0).1 = true ∧ n ≤ (ckFrm t n (ckFac t n 41) 30 0).2
  · exact q
  · rw [if_neg q] at h
    have := ckFrm_bd (t := t) (ckFac_bd (t := t) hn.1 41) 30 0 (by decide) hn.1
    omega
theorem gd_top {t : Int → Int} {n : Int} (h0 : n ≠ 0) (h : ckFault t n = -1) (hn : 0 ≤ n ∧ n ≤ 30) : Gd (fun r : Int × Int => PV r.1) (evTop t n) :=
  (gd_frm hn (gd_fac hn 41) (ckFac_bd hn.1 41) (ckFac_adv hn 41) 0 (by decide) hn.1 (ck_top h0 h hn).1).mono (fun _ h => h.1)
theorem s_evaluate {st tg : Int} {t : Int → Int} {w : Wd} {d : Nat} {K : Int → Wd → Prop} (hd : 400 ≤ d) (hs : am_St st) (ht : 0 ≤ tg ∧ tg < 72) (hn : 0 ≤ w (st + 3) tg ∧ w (st + 3) tg ≤ 30) (hn0 : w (st + 3) tg ≠ 0) (htx : ∀ i, 0 ≤ i → i < w (st + 3) tg → w (st + 2) (tg * 30 + i) = t i) (hck : ckFault t (w (st + 3) tg) = -1) (hE : OkE (evOf w st)) (hev : 0 ≤ w 109 3 ∧ w 109 3 < 2147483647) (hrb : ∀ c, 0 ≤ c → c < 72 → w 113 c ≤ w 109 3)
    (kerr : ∀ l x w', evTop t (w (st + 3) tg) (evOf w st) [] = (l, .inl x) → EvEnd w st tg l x.1 x.2 w' → K 0 w')
    (kok : ∀ l r w', evTop t (w (st + 3) tg) (evOf w st) [] = (l, .inr r) → EvEnd w st tg l 0 (-1) w' → K r.1 w') : C_X3_evaluate d [.inr (.inr 109), .inr (.inr st), .inl tg] w K := by
  have hr := am_St_rng hs
  refine ⟨399, hd, e_X3_evaluate hs ?_⟩
  rintro w1 rfl w2 rfl w3 rfl w4 rfl
  have e3 : wset (wset (wset (wset w 109 4 st) 109 5 tg) 109 6 0) 109 7 (-1) 109 3 = w 109 3 := by
    rw [wset_at (by omega), wset_at (by omega), wset_at (by omega), wset_at (by omega)]
  rw [e3]
  refine ⟨by omega, ?_⟩
  rintro w5 rfl
  refine ⟨ht, ?_⟩
  rintro w6 rfl
  generalize h6 : wset (wset (wset (wset (wset (wset w 109 4 st) 109 5 tg) 109 6 0) 109 7 (-1)) 109 3 (w 109 3 + 1)) (st + 11) tg 0 = w6
  have o6 : ∀ c i, c ≠ 109 → ¬ (c = st + 11 ∧ i = tg) → w6 c i = w c i := by
    intro c i h1 h2
    rw [← h6, wset_at h2, wset_at (fun q => h1 q.1), wset_at (fun q => h1 q.1), wset_at (fun q => h1 q.1), wset_at (fun q => h1 q.1), wset_at (fun q => h1 q.1)]
  have o7 : ∀ i, i < 3 ∨ 7 < i → w6 109 i = w 109 i := by
    intro i hi
    rw [← h6, wset_at (by omega), wset_at (by omega), wset_at (by omega), wset_at (by omega), wset_at (by omega), wset_at (by omega)]
  have s3 : w6 109 3 = w 109 3 + 1 := by rw [← h6, wset_at (by omega), wset_eq]
  have s4 : w6 109 4 = st := by rw [← h6, wset_at (by omega), wset_at (by omega), wset_at (by omega), wset_at (by omega), wset_at (by omega), wset_eq]
  have s5 : w6 109 5 = tg := by rw [← h6, wset_at (by omega), wset_at (by omega), wset_at (by omega), wset_at (by omega), wset_eq]
  have s6 : w6 109 6 = 0 := by rw [← h6, wset_at (by omega), wset_at (by omega), wset_at (by omega), wset_eq]
  have s7 : w6 109 7 = -1 := by rw [← h6, wset_at (by omega), wset_at (by omega), wset_eq]
  have s11 : w6 (st + 11) tg = 0 := by rw [← h6, wset_eq]
  clear h6
  rw [show st + 1 + 1 = st + 2 by omega, show st + 1 + 2 = st + 3 by omega, o6 (st + 3) tg (by omega) (by omega)]
  refine ⟨by omega, ht, ?_⟩
  have hL : am_arr 143 (st + 2) 0 2160 := by
    have := am_Tx_1 (am_St_1 hs)
    rw [show st + 1 + 1 = st + 2 by omega] at this
    exact this
  refine s_enter (by omega) (Or.inr rfl) (by omega) ?_
  have hC0 : CurT (wset (wset (wset w6 110 0 (st + 2)) 110 1 (tg * 30)) 110 2 (w (st + 3) tg)) 110 t (w (st + 3) tg) := CurT.enter (Or.inr rfl) hn hL (by decide) (by omega) (by omega) (fun i hi hin => by
    rw [o6 _ _ (by omega) (by omega)]
    exact htx i hi hin)
  generalize h8 : wset (wset (wset w6 110 0 (st + 2)) 110 1 (tg * 30)) 110 2 (w (st + 3) tg) = w8 at hC0
  have p6 : ∀ c i, c ≠ 110 → w8 c i = w6 c i := by
    intro c i h1
    rw [← h8, wset_at (fun q => h1 q.1), wset_at (fun q => h1 q.1), wset_at (fun q => h1 q.1)]
  have p0 : w8 110 0 = st + 2 := by rw [← h8, wset_at (by omega), wset_at (by omega), wset_eq]
  clear h8
  have hS : EvSt (wpos w8 110 0) st tg t (w (st + 3) tg) (evOf w st) := by
    refine ⟨hs, ht, ?_, ?_, ⟨hC0.pos, ?_⟩, hE, fun c h0 hc => ⟨?_, ?_, ?_, ?_⟩⟩
    · rw [wpos_ne (by decide), p6 _ _ (by decide)]; exact s4
    · rw [wpos_ne (by decide), p6 _ _ (by decide)]; exact s5
    · rw [wpos_i (by decide)]; exact p0
    · rw [wpos_ne (by decide), p6 _ _ (by decide), o6 _ _ (by decide) (by omega)]
      unfold evOf
      dsimp only
      by_cases q : w 112 c = 0
      · rw [if_pos q]; simp [q]
      · rw [if_neg q]; simp [q]
    · rw [wpos_ne (by omega), p6 _ _ (by omega), o6 _ _ (by omega) (by omega)]; rfl
    · rw [wpos_ne (by omega), p6 _ _ (by omega), o6 _ _ (by omega) (by omega)]; rfl
    · rw [wpos_ne (by omega), p6 _ _ (by omega), o6 _ _ (by omega) (by omega)]
      unfold evOf
      dsimp only
      by_cases q : w (st + 3) c = 0
      · rw [if_pos q]; simp [q]
      · rw [if_neg q]; simp [q]
  have hV : EVS (wpos w8 110 0) st tg [] 0 0 (-1) (wpos w8 110 0) := by
    refine ⟨fun c i _ => rfl, ⟨wpos_3, ?_, ?_⟩, ?_, fun j hj => absurd hj (Nat.not_lt_zero j), fun c h0 hc => ⟨fun q => ?_, fun q => by cases q⟩, ⟨List.nodup_nil, fun c hc => by cases hc⟩, fun c h0 hc => Or.inl rfl⟩
    · rw [wpos_ne (by decide), p6 _ _ (by decide)]; exact s6
    · rw [wpos_ne (by decide), p6 _ _ (by decide)]; exact s7
    · rw [wpos_ne (by omega), p6 _ _ (by omega)]; exact s11
    · rw [wpos_ne (by decide), p6 _ _ (by decide), o6 _ _ (by decide) (by omega), wpos_ne (by decide), p6 _ _ (by decide), s3] at q
      have := hrb c h0 hc
      omega
  have fin : ∀ l q e b w', EVS (wpos w8 110 0) st tg l q e b w' → EvEnd w st tg l e b w' := by
    rintro l q e b w' ⟨g1, g2, g3, g4, g5, g6, g7⟩
    have q3 : w' 109 3 = w 109 3 + 1 := by rw [g1 109 3 (by unfold EvOff; omega), wpos_ne (by decide), p6 _ _ (by decide)]; exact s3
    refine ⟨fun c i h1 h2 h3 h4 h5 => ?_, fun i hi => ?_, ⟨q3, g2.2⟩, g3, g4, g6, fun c h0 hc => ?_⟩
    · rw [g1 c i ⟨fun z => h1 z.1, fun z => h2 z.1, h3, h4, h5⟩, wpos_ne h2, p6 _ _ h2, o6 _ _ h1 h4]
    · rw [g1 109 i (by unfold EvOff; omega), wpos_ne (by decide), p6 _ _ (by decide)]; exact o7 i hi
    · have hb := hrb c h0 hc
      have e1 : wpos w8 110 0 113 c = w 113 c := by rw [wpos_ne (by decide), p6 _ _ (by decide), o6 _ _ (by decide) (by omega)]
      have e2 : wpos w8 110 0 109 3 = w 109 3 + 1 := by rw [wpos_ne (by decide), p6 _ _ (by decide), s3]
      have := g7 c h0 hc
      rw [e1, e2] at this
      rw [q3]
      omega
  have hG := gd_fac (t := t) hn 41
  have hB := ckFac_bd (t := t) hn.1 41
  have hA : Adv (w (st + 3) tg) (ckFac t (w (st + 3) tg) 41) := ckFac_adv hn 41
  refine (ee_frm hS (ee_fac hS hn 41 0 rfl (Int.le_refl 0)) hn hG hB hA (by decide) (by omega)).use hE (gd_frm hn hG hB hA) (Int.le_refl 0) hn.1 (ck_top hn0 hck hn).1 (by decide) hV (fun l x w' v pe hm hx h' hv hpe => ?_) (fun l r w' hm hr h' => ?_)
  · exact ⟨fun _ => kerr l x w' hm (fin _ _ _ _ _ h'), fun z => absurd (h'.2.1.2.1.symm.trans z) hx⟩
  · have := hr.1
    exact ⟨fun z => absurd h'.2.1.2.1 z, fun _ => ⟨by omega, kok l r w' hm (fin _ _ _ _ _ h')⟩⟩
