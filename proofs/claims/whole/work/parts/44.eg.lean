section EG
variable {w0 : Wd} {st tg n a B : Int} {t : Int → Int} {env : Env'} {D : Nat} {fac g : Int → Bool × Int} {evf m : Int → Mo (Int × Int)}
/-- the parts behind the chosen one are skipped -/
theorem ee_ch117 (hS : EvSt w0 st tg t n env) {f : Nat} (hf : f < 9) {v3 v5 e b : Int} {K : Int → Wd → Prop} (hD : 3 ≤ D) (m : Nat) : ∀ (q v7 : Int) (l : List Int) (w : Wd), v7 + m = am_most.getD f 0 → 0 ≤ v7 → EVS w0 st tg l q e b w → 0 ≤ q → q + 31 * m ≤ 80000 → (∀ w', EVS w0 st tg l (skN t n m q + 1) e b w' → K v5 w') →
    W_X3_choose D 117 [some (.inr (.inr 109)), some (.inl (f : Int)), some (.inl a), some (.inr (.inl v3)), none, some (.inr (.inl v5)), none, some (.inl v7)] [] w K := by
  have htab := tab_least f hf
  induction m with
  | zero =>
    intro q v7 l w hm h7 hw h0 hq k
    refine v_X3_choose_117 ⟨by omega, fun _ => ?_, fun z => ?_⟩
    · rw [hw.2.1.1]
      refine ⟨by omega, ?_⟩
      rintro w1 rfl
      exact k _ (hw.pos hS.1)
    · rw [Int.toNat_natCast] at z
      omega
  | succ m ih =>
    intro q v7 l w hm h7 hw h0 hq k
    unfold skN at k
    refine v_X3_choose_117 ⟨by omega, fun z => ?_, fun z => ee_pass hS (by omega) hw h0 (by omega) (fun h44 w1 hw1 => am_b1 ?_) (fun h44 => am_b0 ?_)⟩
    · rw [Int.toNat_natCast] at z
      omega
    · have hs := skp_le (t := t) (n := n) 30 0 (q + 1)
      rw [if_pos h44] at k
      exact ee_skip hS (by omega) hw1 (by omega) (by omega) (fun w2 hw2 => ⟨by omega, ih _ (v7 + 1) l w2 (by omega) (by omega) hw2 (by omega) (by omega) k⟩)
    · rw [if_neg h44] at k
      rw [hw.2.1.1]
      refine ⟨by omega, ?_⟩
      rintro w1 rfl
      exact k _ (hw.pos hS.1)
theorem ee_ch59 (hS : EvSt w0 st tg t n env) {f : Nat} {v3 : Int} {K : Int → Wd → Prop} (hD : 3 ≤ D) (m : Nat) : ∀ (q v5 : Int) (l : List Int) (w : Wd), v3 = v5 + m → 0 ≤ v5 → v3 ≤ 1000 → EVS w0 st tg l q 0 (-1) w → 0 ≤ q → q + 31 * m ≤ 80000 →
    (∀ w', EVS w0 st tg l (skN t n m q) 0 (-1) w' → C_X2_pass D [.inr (.inr 110), .inl 44] w' (fun x1 w1 => ((¬ x1 = 0 → C_X3_formula D [.inr (.inr 109), .inl a] w1 (fun x2 w2 => W_X3_choose D 117 [some (.inr (.inr 109)), some (.inl (f : Int)), some (.inl a), some (.inr (.inl v3)), none, some (.inr (.inl x2)), none, some (.inl 0)] [] w2 K)) ∧ (x1 = 0 → C_X3_fail D [.inr (.inr 109), .inl 3] w1 (fun x3 w3 => K x3 w3))))) →
    W_X3_choose D 59 [some (.inr (.inr 109)), some (.inl (f : Int)), some (.inl a), some (.inr (.inl v3)), none, some (.inl v5), none, none] [] w K := by
  induction m with
  | zero =>
    intro q v5 l w hm h7 h8 hw h0 hq k
    exact v_X3_choose_59 ⟨fun _ => k w hw, fun z => by omega⟩
  | succ m ih =>
    intro q v5 l w hm h7 h8 hw h0 hq k
    unfold skN at k
    refine v_X3_choose_59 ⟨fun z => by omega, fun _ => ee_pass hS (by omega) hw h0 (by omega) (fun h44 w1 hw1 => am_b1 ?_) (fun h44 => am_b0 ?_)⟩
    · have hs := skp_le (t := t) (n := n) 30 0 (q + 1)
      rw [if_pos h44] at k
      exact ee_skip hS (by omega) hw1 (by omega) (by omega) (fun w2 hw2 => ⟨by omega, ih _ (v5 + 1) l w2 (by omega) (by omega) h8 hw2 (by omega) (by omega) k⟩)
    · rw [if_neg h44] at k
      exact k w hw
abbrev CPt (f : Nat) (t : Int → Int) (n : Int) (fac : Int → Bool × Int) : Int → Bool × Int := fun p => ckParts t n fac f (am_most.getD f 0).toNat 1 p
theorem ee_choose (hS : EvSt w0 st tg t n env) (hM : EvSp w0 st tg n env (CFrm a) (ckFrm t n fac 30) (evFrm t n evf) D B) (hn : 0 ≤ n ∧ n ≤ 30) (hF : SkF t n fac) (hG : GF t n fac evf) (hB : Bd n fac) (hA : Adv n fac) (hD : 5 ≤ D) (hBn : n ≤ B ∧ B ≤ 50000) {f : Nat} (hf : f ≤ 1) : EvSp w0 st tg n env (fun d w K => C_X3_choose d [.inr (.inr 109), .inl (f : Int), .inl a] w K) (CPt f t n fac) (evChoose t n evf f) (D + 1) (B + 200) := by
  intro p l w K d h0 h1 h hd hw kerr kok
  have htab := tab_least f (by omega)
  have hGM := gd_frm hn hG hB hA
  obtain ⟨m, hm⟩ : ∃ m, (am_most.getD f 0).toNat = m + 1 := ⟨(am_most.getD f 0).toNat - 1, by omega⟩
  have h' := h
  change (ckParts t n fac f (am_most.getD f 0).toNat 1 p).1 = true at h'
  rw [hm] at h'
  obtain ⟨a1, a2⟩ := parts_aft h'
  rw [part_frm (by omega)] at a1 a2
  have hb := ckFrm_bd (t := t) hB 30 p h0 h1
  unfold evChoose at kerr kok
  refine ⟨D + 1, hd, e_X3_choose (hM.use hS.2.2.2.2.2.1 hGM h0 h1 a1 (Nat.lt_succ_self D) hw (fun l1 x w' v' pe hmm hx h' hv' hpe => ?_) (fun l1 r w' hmm hr hw' => ?_))⟩
  · exact ⟨fun z => absurd (h'.2.1.2.1.symm.trans z) hx, fun _ => kerr l1 x w' 0 pe (mbind_inl hmm) h' ⟨by decide, by decide⟩ (by omega)⟩
  · rw [mbind_inr hmm] at kerr kok
    have r1 := hr.1
    have r2 := hr.2
    rw [← r2] at a2 hb
    have key : ∀ wt : Int, (if f = 0 then (if r.1 = 0 then (2 : Int) else 1) else r.1) = wt →
        (1 ≤ wt → wt < am_most.getD f 0 → W_X3_choose (D + 1) 59 [some (.inr (.inr 109)), some (.inl (f : Int)), some (.inl a), some (.inr (.inl wt)), none, some (.inl 1), none, none] [] w' K) ∧ ((wt < 1 ∨ am_most.getD f 0 ≤ wt) → C_X3_fail (D + 1) [.inr (.inr 109), .inl 3] w' (fun x2 w2 => K x2 w2)) := by
      intro wt hwt
      rw [hwt] at kerr kok
      refine ⟨fun z1 z2 => ?_, fun z => ?_⟩
      · rw [if_neg (by omega)] at kerr kok
        obtain ⟨b0, i', b3, b1, b2⟩ := skN_aft hn hF hB (wt - 1).toNat m r.2 (by omega) a2
        have hsk := skN_le (t := t) (n := n) (wt - 1).toNat r.2
        refine ee_ch59 hS (by omega) (wt - 1).toNat r.2 1 l1 w' (by omega) (by decide) (by omega) hw' (by omega) (by omega) (fun w2 hw2 => ?_)
        generalize hs : skN t n (wt - 1).toNat r.2 = s at b0 b1 b2 hsk hw2 kerr kok
        refine ee_pass hS (by omega) hw2 (by omega) (by omega) (fun h44 w3 hw3 => am_c1 ?_) (fun h44 => am_c0 ?_)
        · rw [if_pos h44] at kerr kok
          have hl := lk_pos (t := t) (n := n) (p := s) (by omega)
          obtain ⟨i2, e, c1, c2⟩ := b1.next h44
          rw [part_frm (by omega)] at c1 c2
          have hb2 := ckFrm_bd (t := t) hB 30 (s + 1) (by omega) (by omega)
          refine hM.use hS.2.2.2.2.2.1 hGM (by omega) (by omega) c1 (Nat.lt_succ_self D) hw3 (fun l2 x w4 v' pe hm2 hx h4 hv' hpe => ?_) (fun l2 z w4 hm2 hz h4 => ?_)
          · have hsk2 := skN_le (t := t) (n := n) (am_most.getD f 0).toNat pe
            exact ee_ch117 hS (by omega) (by omega) (am_most.getD f 0).toNat pe 0 l2 w4 (by omega) (by decide) h4 (by omega) (by omega) (fun w5 h5 => kerr l2 x w5 v' _ (mbind_inl hm2) h5 hv' (by omega))
          · rw [mbind_inr hm2] at kok
            have hz2 := hz.2
            exact ee_ch117 hS (by omega) (by omega) (am_most.getD f 0).toNat z.2 0 l2 w4 (by omega) (by decide) h4 (by omega) (by omega) (fun w5 h5 => kok l2 (z.1, skN t n (am_most.getD f 0).toNat z.2 + 1) w5 rfl h5)
        · rw [if_neg h44] at kerr
          exact ee_fail (by omega) hS.1 hw2 (fun w3 h3 => kerr l1 (3, -1) w3 0 s rfl h3 ⟨by decide, by decide⟩ (by omega))
      · rw [if_pos z] at kerr
        exact ee_fail (by omega) hS.1 hw' (fun w3 h3 => kerr l1 (3, -1) w3 0 r.2 rfl h3 ⟨by decide, by decide⟩ (by omega))
    refine ⟨fun _ => ⟨fun q1 => ?_, fun q1 => ?_⟩, fun z => absurd hw'.2.1.2.1 z⟩
    · have hk := key r.1 (if_neg (by omega))
      refine ⟨fun q2 => hk.2 (Or.inl q2), fun q2 => ⟨by omega, ?_⟩⟩
      rw [Int.toNat_natCast]
      exact ⟨fun q3 => hk.1 (by omega) q3, fun q3 => hk.2 (Or.inr (by omega))⟩
    · refine ⟨fun q2 => ⟨by omega, ?_⟩, fun q2 => ⟨by omega, ?_⟩⟩
      · rw [Int.toNat_natCast]
        have hk := key 1 (by rw [if_pos (by omega), if_neg q2])
        exact ⟨fun q3 => hk.1 (by decide) q3, fun q3 => hk.2 (Or.inr (by omega))⟩
      · rw [Int.toNat_natCast]
        have hk := key 2 (by rw [if_pos (by omega), if_pos q2])
        exact ⟨fun q3 => hk.1 (by decide) q3, fun q3 => hk.2 (Or.inr (by omega))⟩
theorem s_floorDiv {x y : Int} {d : Nat} {w : Wd} {K : Int → Wd → Prop} (hd : 1 ≤ d) (hx : PV x) (hy : PV y) (h0 : y ≠ 0) (k : K (Int.fdiv x y) w) : C_J9_floorDiv_f86c9 d [.inr (.inl x), .inr (.inl y)] w K := by
  have hq := Int.natAbs_tdiv_le_natAbs x y
  have hmul : Int.tdiv x y * y = x - Int.tmod x y := by
    have := Int.mul_tdiv_add_tmod x y
    rw [Int.mul_comm]
    omega
  have hr : (Int.tmod x y).natAbs ≤ x.natAbs := by
    rw [Int.natAbs_tmod]
    exact Nat.mod_le _ _
  have hpq := mul_rng (a := Int.tdiv x y) (b := y) (by omega) hy
  refine ⟨0, hd, e_J9_floorDiv_f86c9 ⟨⟨h0, by omega⟩, fun x1 hx1 hsg => ?_⟩⟩
  rw [Int.fdiv_eq_tdiv] at k
  have hdv : y ∣ x ↔ Int.tdiv x y * y = x := ⟨fun q => Int.tdiv_mul_cancel q, fun q => ⟨Int.tdiv x y, by rw [Int.mul_comm]; exact q.symm⟩⟩
  have k2 : ∀ z : Int, z = Int.tdiv x y - (if y ∣ x then 0 else if 0 ≤ x then (if 0 ≤ y then 0 else 1) else (if 0 ≤ y then y.sign else 1 + y.sign)) → K z w := fun z hz => by rw [hz]; exact k
  clear k
  have hs1 : 0 ≤ y → y.sign = 1 := fun q => Int.sign_eq_one_of_pos (by omega)
  have hs2 : ¬ 0 ≤ y → y.sign = -1 := fun q => Int.sign_eq_neg_one_of_neg (by omega)
  refine ⟨fun q => k2 _ ?_, fun q => ⟨by omega, fun q2 => k2 _ ?_, fun q2 => ⟨by omega, k2 _ ?_⟩⟩⟩
  · have hxy : x < 0 ↔ y < 0 := Classical.byContradiction (fun z => by have := hsg.mpr z; omega)
    by_cases e1 : y ∣ x
    · rw [if_pos e1]; omega
    · rw [if_neg e1]
      by_cases e2 : 0 ≤ x
      · rw [if_pos e2, if_pos (by omega)]; omega
      · rw [if_neg e2, if_neg (by omega), hs2 (by omega)]; omega
  · rw [if_pos (hdv.mpr q2)]; omega
  · have hxy := hsg.mp (by omega)
    rw [if_neg (fun z => q2 (hdv.mp z))]
    by_cases e2 : 0 ≤ x
    · rw [if_pos e2, if_neg (by omega)]
    · rw [if_neg e2, if_pos (by omega), hs1 (by omega)]
theorem s_floorMod {x y : Int} {d : Nat} {w : Wd} {K : Int → Wd → Prop} (hd : 1 ≤ d) (hx : PV x) (hy : PV y) (h0 : y ≠ 0) (k : K (Int.fmod x y) w) : C_J9_floorMod_f86c9 d [.inr (.inl x), .inr (.inl y)] w K := by
  have hr : (Int.tmod x y).natAbs ≤ x.natAbs := by
    rw [Int.natAbs_tmod]
    exact Nat.mod_le _ _
  have hsum := Int.mul_tdiv_add_tmod x y
  refine ⟨0, hd, e_J9_floorMod_f86c9 ⟨⟨h0, by omega⟩, fun x1 hx1 hsg => ?_⟩⟩
  rw [Int.fmod_eq_tmod] at k
  have hdv : y ∣ x ↔ Int.tmod x y = 0 := ⟨fun q => by
    have := Int.tdiv_mul_cancel q
    rw [Int.mul_comm] at this
    omega, fun q => ⟨Int.tdiv x y, by omega⟩⟩
  have k2 : ∀ z : Int, z = Int.tmod x y + (if y ∣ x then 0 else if 0 ≤ x then (if 0 ≤ y then 0 else y) else (if 0 ≤ y then (y.natAbs : Int) else 2 * (y.toNat : Int))) → K z w := fun z hz => by rw [hz]; exact k
  clear k hsum
  refine ⟨fun q => k2 _ ?_, fun q => ⟨fun q2 => k2 _ ?_, fun q2 => ⟨by omega, k2 _ ?_⟩⟩⟩
  · have hxy : x < 0 ↔ y < 0 := Classical.byContradiction (fun z => by have := hsg.mpr z; omega)
    by_cases e1 : y ∣ x
    · rw [if_pos e1]; omega
    · rw [if_neg e1]
      by_cases e2 : 0 ≤ x
      · rw [if_pos e2, if_pos (by omega)]; omega
      · rw [if_neg e2, if_neg (by omega)]; omega
  · rw [if_pos (hdv.mpr q2)]; omega
  · have hxy := hsg.mp (by omega)
    rw [if_neg (fun z => q2 (hdv.mp z))]
    by_cases e2 : 0 ≤ x
    · rw [if_pos e2, if_neg (by omega)]
    · rw [if_neg e2, if_pos (by omega)]; omega
theorem ee_comb (hS : EvSt w0 st tg t n env) (hM : EvSp w0 st tg n env (CFrm a) (ckFrm t n fac 30) (evFrm t n evf) D B) (hn : 0 ≤ n ∧ n ≤ 30) (hG : GF t n fac evf) (hB : Bd n fac) (hA : Adv n fac) (hD : 5 ≤ D) (hBn : n ≤ B ∧ B ≤ 50000) {f : Nat} (hf : 2 ≤ f ∧ f ≤ 4) : EvSp w0 st tg n env (fun d w K => C_X3_combine d [.inr (.inr 109), .inl (f : Int), .inl a] w K) (CPt f t n fac) (evComb t n evf f) (D + 1) (B + 200) := by
  intro p l w K d h0 h1 h hd hw kerr kok
  have hGM := gd_frm hn hG hB hA
  obtain ⟨a1, a2, a3, a4, a5⟩ := parts_two hf h
  have hb := ckFrm_bd (t := t) hB 30 p h0 h1
  have hl := lk_pos (t := t) (n := n) (p := (ckFrm t n fac 30 p).2) (by omega)
  have hb2 := ckFrm_bd (t := t) hB 30 ((ckFrm t n fac 30 p).2 + 1) (by omega) (by omega)
  unfold evComb at kerr kok
  refine ⟨D + 1, hd, e_X3_combine (hM.use hS.2.2.2.2.2.1 hGM h0 h1 a1 (Nat.lt_succ_self D) hw (fun l1 x w' v' pe hmm hx h' hv' hpe => ?_) (fun l1 r w' hmm hr hw' => ?_))⟩
  · rw [h'.2.1.1]
    refine ⟨by omega, ?_⟩
    rintro w2 rfl
    have h2 := h'.pos hS.1 (q := pe + 1)
    refine ⟨fun _ => ?_, fun z => absurd (h2.2.1.2.1.symm.trans z) hx⟩
    rw [h2.2.1.1]
    refine ⟨by omega, ?_⟩
    rintro w3 rfl
    have h3 := h2.pos hS.1 (q := pe + 1 + 1)
    exact ⟨fun z => absurd (h3.2.1.2.1.symm.trans z) hx, fun _ => kerr l1 x _ 0 _ (mbind_inl hmm) h3 ⟨by decide, by decide⟩ (by omega)⟩
  · rw [mbind_inr hmm] at kerr kok
    have r1 := hr.1
    rw [hw'.2.1.1]
    rw [hr.2] at hw' kerr kok ⊢
    refine ⟨by omega, ?_⟩
    rintro w2 rfl
    have h2 := hw'.pos hS.1 (q := (ckFrm t n fac 30 p).2 + 1)
    refine ⟨fun z => absurd h2.2.1.2.1 z, fun _ => ?_⟩
    refine hM.use hS.2.2.2.2.2.1 hGM (by omega) (by omega) a3 (Nat.lt_succ_self D) h2 (fun l2 x w4 v' pe hm2 hx h4 hv' hpe => ?_) (fun l2 z w4 hm2 hz h4 => ?_)
    · rw [h4.2.1.1]
      refine ⟨by omega, ?_⟩
      rintro w5 rfl
      have h5 := h4.pos hS.1 (q := pe + 1)
      exact ⟨fun z => absurd (h5.2.1.2.1.symm.trans z) hx, fun _ => kerr l2 x _ 0 _ (mbind_inl hm2) h5 ⟨by decide, by decide⟩ (by omega)⟩
    · rw [mbind_inr hm2] at kerr kok
      have z1 := hz.1
      have z2 := hz.2
      rw [h4.2.1.1]
      refine ⟨by omega, ?_⟩
      rintro w5 rfl
      have h5 := h4.pos hS.1 (q := z.2 + 1)
      generalize wset w4 110 3 (z.2 + 1) = w5 at h5
      refine ⟨fun _ => ⟨fun q4 => ⟨fun q0 => ⟨fun q2 => ?_, fun q2 => ?_⟩, fun q0 => ?_⟩, fun q4 => ?_⟩, fun q => absurd h5.2.1.2.1 q⟩
      · rw [if_neg (by omega), if_neg q0, if_neg (by omega)] at kok
        exact s_floorMod (by omega) r1 z1 q0 (kok l2 (Int.fmod r.1 z.1, z.2 + 1) w5 rfl h5)
      · rw [if_neg (by omega), if_neg q0, if_pos (by omega)] at kok
        exact s_floorDiv (by omega) r1 z1 q0 (kok l2 (Int.fdiv r.1 z.1, z.2 + 1) w5 rfl h5)
      · rw [if_neg (by omega), if_pos q0] at kerr
        exact ee_fail (by omega) hS.1 h5 (fun w6 h6 => kerr l2 (2, -1) w6 0 _ rfl h6 ⟨by decide, by decide⟩ (by omega))
      · rw [if_pos (by omega)] at kerr kok
        have bad : ¬ ((0 ≤ r.1 ∧ r.1 < 8) ∧ 0 ≤ z.1 ∧ z.1 < 9) → C_X3_fail (D + 1) [.inr (.inr 109), .inl 3] w5 (fun x2 w2 => K x2 w2) := by
          intro hno
          rw [if_neg hno] at kerr
          exact ee_fail (by omega) hS.1 h5 (fun w6 h6 => kerr l2 (3, -1) w6 0 _ rfl h6 ⟨by decide, by decide⟩ (by omega))
        refine ⟨fun q => bad (by omega), fun q => ⟨fun q2 => bad (by omega), fun q2 => ⟨fun q3 => bad (by omega), fun q3 => ⟨fun q5 => bad (by omega), fun q5 => ⟨by omega, by omega, by omega, ?_⟩⟩⟩⟩⟩
        rw [if_pos (by omega)] at kerr kok
        exact ee_read hS (by omega) h5 (by omega) (fun l3 x w6 v hm3 hx h6 hv => kerr l3 x w6 v _ (mbind_inl hm3) h6 hv (by omega)) (fun l3 v w6 hm3 hv h6 => kok l3 (v, z.2 + 1) w6 (mbind_inr hm3) h6)
end EG
