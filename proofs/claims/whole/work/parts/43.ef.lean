/-! the evaluator's methods that call each other -/
def EvSp (w0 : Wd) (st tg n : Int) (env : Env') (C : Nat → Wd → (Int → Wd → Prop) → Prop) (g : Int → Bool × Int) (m : Int → Mo (Int × Int)) (D : Nat) (B : Int) : Prop := ∀ (p : Int) (l : List Int) (w : Wd) (K : Int → Wd → Prop) (d : Nat), 0 ≤ p → p ≤ n → (g p).1 = true → D < d → EVS w0 st tg l p 0 (-1) w →
  (∀ l1 x w' v pe, m p env l = (l1, .inl x) → EVS w0 st tg l1 pe x.1 x.2 w' → PV v → (0 ≤ pe ∧ pe ≤ B) → K v w') →
  (∀ l1 r w', m p env l = (l1, .inr r) → EVS w0 st tg l1 r.2 0 (-1) w' → K r.1 w') → C d w K
theorem mul_rng {a b : Int} (ha : PV a) (hb : PV b) : -1000000000000000000 ≤ a * b ∧ a * b ≤ 1000000000000000000 := by
  have h1 : (a * b).natAbs ≤ 1000000000 * 1000000000 := by
    rw [Int.natAbs_mul]
    exact Nat.mul_le_mul (by omega) (by omega)
  omega
section EF
variable {w0 : Wd} {st tg n a B : Int} {t : Int → Int} {env : Env'} {D : Nat} {fac g : Int → Bool × Int} {evf m : Int → Mo (Int × Int)} {C : Nat → Wd → (Int → Wd → Prop) → Prop}
theorem EvSp.use (hSp : EvSp w0 st tg n env C g m D B) (hE : OkE env) (hG : GF t n g m) {p : Int} {l : List Int} {w : Wd} {K : Int → Wd → Prop} {d : Nat} (h0 : 0 ≤ p) (h1 : p ≤ n) (hg : (g p).1 = true) (hd : D < d) (h : EVS w0 st tg l p 0 (-1) w)
    (kerr : ∀ l1 x w' v pe, m p env l = (l1, .inl x) → x.1 ≠ 0 → EVS w0 st tg l1 pe x.1 x.2 w' → PV v → (0 ≤ pe ∧ pe ≤ B) → K v w')
    (kok : ∀ l1 r w', m p env l = (l1, .inr r) → PQ (g p).2 r → EVS w0 st tg l1 r.2 0 (-1) w' → K r.1 w') : C d w K := by
  obtain ⟨_, _, _, _, a5⟩ := hG p h0 h1 hg env l hE h.2.2.2.2.2.1
  refine hSp p l w K d h0 h1 hg hd h (fun l1 x w' v pe hm => ?_) (fun l1 r w' hm => ?_)
  · rw [hm] at a5
    have := a5.1
    exact kerr l1 x w' v pe hm (by omega)
  · rw [hm] at a5
    exact kok l1 r w' hm a5
theorem prd_err {v idx e b p : Int} {l : List Int} {w : Wd} {K : Int → Wd → Prop} {d : Nat} (h : EVS w0 st tg l p e b w) (he : e ≠ 0) (k : K v w) : W_X3_product d 9 [some (.inr (.inr 109)), some (.inl a), some (.inr (.inl v)), none, some (.inl idx)] [] w K :=
  v_X3_product_9 ⟨fun _ => k, fun _ => ⟨fun _ => k, fun q => absurd (h.2.1.2.1.symm.trans q) he⟩⟩
theorem frm_err {v idx e b p : Int} {l : List Int} {w : Wd} {K : Int → Wd → Prop} {d : Nat} (h : EVS w0 st tg l p e b w) (he : e ≠ 0) (k : K v w) : W_X3_formula d 9 [some (.inr (.inr 109)), some (.inl a), some (.inr (.inl v)), none, some (.inl idx)] [] w K :=
  v_X3_formula_9 ⟨fun _ => k, fun _ => ⟨fun _ => k, fun q => absurd (h.2.1.2.1.symm.trans q) he⟩⟩
abbrev CFac (a : Int) : Nat → Wd → (Int → Wd → Prop) → Prop := fun d w K => C_X3_factor d [.inr (.inr 109), .inl a] w K
abbrev CPrd (a : Int) : Nat → Wd → (Int → Wd → Prop) → Prop := fun d w K => C_X3_product d [.inr (.inr 109), .inl a] w K
abbrev CFrm (a : Int) : Nat → Wd → (Int → Wd → Prop) → Prop := fun d w K => C_X3_formula d [.inr (.inr 109), .inl a] w K
/-- a bound, and what follows -/
theorem ee_mbd {α : Type} {x : Int} {f : Int → Mo α} {l : List Int} {w : Wd} {K : Int → Wd → Prop} {d : Nat} {p : Int} (hd : 1 ≤ d) (hs : am_St st) (h : EVS w0 st tg l p 0 (-1) w)
    (kerr : ∀ w', mbind (mbd x) f env l = (l, .inl (1, -1)) → EVS w0 st tg l p 1 (-1) w' → K 0 w') (kok : PV x → mbind (mbd x) f env l = f x env l → K x w) : C_X3_bounded d [.inr (.inr 109), .inr (.inl x)] w K := by
  refine ee_bd hd hs h (fun q => absurd rfl q) (fun _ q w' h' => kerr w' (mbind_inl ?_) h') (fun _ q => kok ⟨by omega, by omega⟩ (mbind_inr ?_))
  · unfold mbd
    rw [if_pos q]
    rfl
  · unfold mbd
    rw [if_neg q]
    rfl
theorem ee_prdL (hS : EvSt w0 st tg t n env) (hF : EvSp w0 st tg n env (CFac a) fac evf D B) (hn : 0 ≤ n ∧ n ≤ 30) (hG : GF t n fac evf) (hB : Bd n fac) (hA : Adv n fac) (hD : 3 ≤ D) (hBn : n ≤ B) (i : Nat) : ∀ (v p : Int) (l : List Int) (w : Wd) (K : Int → Wd → Prop), 0 ≤ p → p ≤ n → n ≤ p + 2 * i → PV v → i ≤ 29 → (if lk t n p = 42 then ckPrd t n fac i (p + 1) else (true, p)).1 = true → EVS w0 st tg l p 0 (-1) w →
    (∀ l1 x w' v' pe, evPrdL t n evf (i + 1) v p env l = (l1, .inl x) → EVS w0 st tg l1 pe x.1 x.2 w' → PV v' → (0 ≤ pe ∧ pe ≤ B) → K v' w') →
    (∀ l1 r w', evPrdL t n evf (i + 1) v p env l = (l1, .inr r) → EVS w0 st tg l1 r.2 0 (-1) w' → K r.1 w') →
    W_X3_product (D + 1) 9 [some (.inr (.inr 109)), some (.inl a), some (.inr (.inl v)), none, some (.inl (29 - (i : Int)))] [] w K := by
  induction i with
  | zero =>
    intro v p l w K h0 h1 h2 hv hi h hw kerr kok
    have hq : ¬ lk t n p = 42 := fun q => by have := lk_pos (t := t) (n := n) (p := p) (by omega); omega
    unfold evPrdL at kok
    rw [if_neg hq] at kok
    refine v_X3_product_9 ⟨fun q => by omega, fun _ => ⟨fun q => absurd hw.2.1.2.1 q, fun _ => ee_pass hS (by omega) hw h0 (by omega) (fun q => absurd q hq) (fun _ => am_c0 (kok l (v, p) w rfl hw))⟩⟩
  | succ i ih =>
    intro v p l w K h0 h1 h2 hv hi h hw kerr kok
    by_cases q : lk t n p = 42
    · have hl := lk_pos (t := t) (n := n) (p := p) (by omega)
      rw [if_pos q] at h
      unfold evPrdL at kerr kok
      rw [if_pos q] at kerr kok
      unfold ckPrd at h
      by_cases hf : (fac (p + 1)).1 = true
      · rw [if_pos hf] at h
        have hb := hB (p + 1) (by omega) (by omega)
        have ha := hA (p + 1) (by omega) (by omega) hf
        refine v_X3_product_9 ⟨fun q => by omega, fun _ => ⟨fun q => absurd hw.2.1.2.1 q, fun _ => ee_pass hS (by omega) hw h0 (by omega) (fun _ w1 hw1 => am_c1 ?_) (fun z => absurd q z)⟩⟩
        refine hF.use hS.2.2.2.2.2.1 hG (by omega) (by omega) hf (Nat.lt_succ_self D) hw1 (fun l1 x w' v' pe hm hx h' hv' hpe => ?_) (fun l1 r w' hm hr h' => ?_)
        · have hmul := mul_rng hv hv'
          refine ⟨by omega, ee_bd (by omega) hS.1 h' (fun _ => ⟨by omega, prd_err h' hx (kerr l1 x w' 0 pe (mbind_inl hm) h' ⟨by decide, by decide⟩ hpe)⟩) (fun z => absurd z hx) (fun z => absurd z hx)⟩
        · have hmul := mul_rng hv hr.1
          rw [mbind_inr hm] at kerr kok
          refine ⟨by omega, ee_mbd (env := env) (f := fun x => evPrdL t n evf (i + 1) x r.2) (by omega) hS.1 h' (fun w2 e2 h2' => ⟨by omega, prd_err h2' (by decide) (kerr l1 (1, -1) w2 0 r.2 e2 h2' ⟨by decide, by decide⟩ (by rw [hr.2]; omega))⟩) (fun hpv e2 => ⟨by omega, ?_⟩)⟩
          rw [e2, hr.2] at kerr kok
          rw [hr.2] at h'
          rw [show 29 - ((i + 1 : Nat) : Int) + 1 = 29 - (i : Int) by omega]
          exact ih _ _ l1 w' K (by omega) (by omega) (by omega) hpv (by omega) h h' kerr kok
      · rw [if_neg hf] at h
        cases h
    · unfold evPrdL at kok
      rw [if_neg q] at kok
      refine v_X3_product_9 ⟨fun q => by omega, fun _ => ⟨fun q => absurd hw.2.1.2.1 q, fun _ => ee_pass hS (by omega) hw h0 (by omega) (fun z => absurd z q) (fun _ => am_c0 (kok l (v, p) w rfl hw))⟩⟩
theorem ee_prd (hS : EvSt w0 st tg t n env) (hF : EvSp w0 st tg n env (CFac a) fac evf D B) (hn : 0 ≤ n ∧ n ≤ 30) (hG : GF t n fac evf) (hB : Bd n fac) (hA : Adv n fac) (hD : 3 ≤ D) (hBn : n ≤ B) : EvSp w0 st tg n env (CPrd a) (ckPrd t n fac 30) (evPrd t n evf) (D + 1) B := by
  intro p l w K d h0 h1 h hd hw kerr kok
  unfold ckPrd at h
  by_cases hf : (fac p).1 = true
  · rw [if_pos hf] at h
    have hb := hB p (by omega) (by omega)
    have ha := hA p (by omega) (by omega) hf
    refine ⟨D + 1, hd, e_X3_product (hF.use hS.2.2.2.2.2.1 hG h0 h1 hf (Nat.lt_succ_self D) hw (fun l1 x w' v' pe hm hx h' hv' hpe => prd_err h' hx (kerr l1 x w' v' pe (mbind_inl hm) h' hv' hpe)) (fun l1 r w' hm hr h' => ?_))⟩
    unfold evPrd at kerr kok
    rw [mbind_inr hm, hr.2] at kerr kok
    rw [hr.2] at h'
    exact ee_prdL hS hF hn hG hB hA hD hBn 29 r.1 _ l1 w' K (by omega) (by omega) (by omega) hr.1 (by omega) h h' kerr kok
  · rw [if_neg hf] at h
    cases h
theorem ee_frmL (hS : EvSt w0 st tg t n env) (hF : EvSp w0 st tg n env (CPrd a) (ckPrd t n fac 30) (evPrd t n evf) D B) (hn : 0 ≤ n ∧ n ≤ 30) (hG : GF t n fac evf) (hB : Bd n fac) (hA : Adv n fac) (hD : 3 ≤ D) (hBn : n ≤ B) (i : Nat) : ∀ (v p : Int) (l : List Int) (w : Wd) (K : Int → Wd → Prop), 0 ≤ p → p ≤ n → n ≤ p + 2 * i → PV v → i ≤ 29 → (if lk t n p = 43 ∨ lk t n p = 45 then ckFrm t n fac i (p + 1) else (true, p)).1 = true → EVS w0 st tg l p 0 (-1) w →
    (∀ l1 x w' v' pe, evFrmL t n evf (i + 1) v p env l = (l1, .inl x) → EVS w0 st tg l1 pe x.1 x.2 w' → PV v' → (0 ≤ pe ∧ pe ≤ B) → K v' w') →
    (∀ l1 r w', evFrmL t n evf (i + 1) v p env l = (l1, .inr r) → EVS w0 st tg l1 r.2 0 (-1) w' → K r.1 w') →
    W_X3_formula (D + 1) 9 [some (.inr (.inr 109)), some (.inl a), some (.inr (.inl v)), none, some (.inl (29 - (i : Int)))] [] w K := by
  have hP := gd_prd hn hG hB hA
  induction i with
  | zero =>
    intro v p l w K h0 h1 h2 hv hi h hw kerr kok
    have hq : ¬ (lk t n p = 43 ∨ lk t n p = 45) := fun q => by have := lk_pos (t := t) (n := n) (p := p) (by omega); omega
    unfold evFrmL at kok
    rw [if_neg (fun q => hq (Or.inl q)), if_neg (fun q => hq (Or.inr q))] at kok
    refine v_X3_formula_9 ⟨fun q => by omega, fun _ => ⟨fun q => absurd hw.2.1.2.1 q, fun _ => ee_pass hS (by omega) hw h0 (by omega) (fun q => absurd (Or.inl q) hq) (fun _ => am_b0 (ee_pass hS (by omega) hw h0 (by omega) (fun q => absurd (Or.inr q) hq) (fun _ => am_b0 (kok l (v, p) w rfl hw))))⟩⟩
  | succ i ih =>
    intro v p l w K h0 h1 h2 hv hi h hw kerr kok
    by_cases q : lk t n p = 43 ∨ lk t n p = 45
    · have hl := lk_pos (t := t) (n := n) (p := p) (by omega)
      rw [if_pos q] at h
      unfold ckFrm at h
      by_cases hf : (ckPrd t n fac 30 (p + 1)).1 = true
      · rw [if_pos hf] at h
        have hb := ckPrd_bd (t := t) hB 30 (p + 1) (by omega) (by omega)
        have ha := ckPrd_adv (t := t) hB hA hn.2 30 (p + 1) (by omega) (by omega) (by omega) hf
        have go : ∀ (gg : Int → Int) (w1 : Wd), (∀ y, PV y → -9223372036854775808 ≤ gg y ∧ gg y ≤ 9223372036854775807) → EVS w0 st tg l (p + 1) 0 (-1) w1 →
            (∀ l1 x w' v' pe, mbind (evPrd t n evf (p + 1)) (fun r => mbind (mbd (gg r.1)) (fun x => evFrmL t n evf (i + 1) x r.2)) env l = (l1, .inl x) → EVS w0 st tg l1 pe x.1 x.2 w' → PV v' → (0 ≤ pe ∧ pe ≤ B) → K v' w') →
            (∀ l1 r w', mbind (evPrd t n evf (p + 1)) (fun r => mbind (mbd (gg r.1)) (fun x => evFrmL t n evf (i + 1) x r.2)) env l = (l1, .inr r) → EVS w0 st tg l1 r.2 0 (-1) w' → K r.1 w') →
            C_X3_product (D + 1) [.inr (.inr 109), .inl a] w1 (fun x5 w5 => (-9223372036854775808 ≤ gg x5 ∧ gg x5 ≤ 9223372036854775807) ∧ C_X3_bounded (D + 1) [.inr (.inr 109), .inr (.inl (gg x5))] w5 (fun x6 w6 => (-2147483648 ≤ 29 - ((i + 1 : Nat) : Int) + 1 ∧ 29 - ((i + 1 : Nat) : Int) + 1 ≤ 2147483647) ∧ W_X3_formula (D + 1) 9 [some (.inr (.inr 109)), some (.inl a), some (.inr (.inl x6)), none, some (.inl (29 - ((i + 1 : Nat) : Int) + 1))] [] w6 K)) := by
          intro gg w1 hgg hw1 kerr kok
          refine hF.use hS.2.2.2.2.2.1 hP (by omega) (by omega) hf (Nat.lt_succ_self D) hw1 (fun l1 x w' v' pe hm hx h' hv' hpe => ?_) (fun l1 r w' hm hr h' => ?_)
          · exact ⟨hgg v' hv', ee_bd (by omega) hS.1 h' (fun _ => ⟨by omega, frm_err h' hx (kerr l1 x w' 0 pe (mbind_inl hm) h' ⟨by decide, by decide⟩ hpe)⟩) (fun z => absurd z hx) (fun z => absurd z hx)⟩
          · rw [mbind_inr hm] at kerr kok
            refine ⟨hgg r.1 hr.1, ee_mbd (env := env) (f := fun x => evFrmL t n evf (i + 1) x r.2) (by omega) hS.1 h' (fun w2 e2 h2' => ⟨by omega, frm_err h2' (by decide) (kerr l1 (1, -1) w2 0 r.2 e2 h2' ⟨by decide, by decide⟩ (by rw [hr.2]; omega))⟩) (fun hpv e2 => ⟨by omega, ?_⟩)⟩
            rw [e2, hr.2] at kerr kok
            rw [hr.2] at h'
            rw [show 29 - ((i + 1 : Nat) : Int) + 1 = 29 - (i : Int) by omega]
            exact ih _ _ l1 w' K (by omega) (by omega) (by omega) hpv (by omega) h h' kerr kok
        unfold evFrmL at kerr kok
        refine v_X3_formula_9 ⟨fun q => by omega, fun _ => ⟨fun q => absurd hw.2.1.2.1 q, fun _ => ee_pass hS (by omega) hw h0 (by omega) (fun q3 w1 hw1 => am_b1 ?_) (fun q3 => am_b0 (ee_pass hS (by omega) hw h0 (by omega) (fun q4 w1 hw1 => am_b1 ?_) (fun q4 => ?_)))⟩⟩
        · rw [if_pos q3] at kerr kok
          exact go (fun y => v + y) w1 (fun y hy => by omega) hw1 kerr kok
        · rw [if_neg q3, if_pos q4] at kerr kok
          exact go (fun y => v - y) w1 (fun y hy => by omega) hw1 kerr kok
        · rcases q with q | q
          · exact absurd q q3
          · exact absurd q q4
      · rw [if_neg hf] at h
        cases h
    · unfold evFrmL at kok
      rw [if_neg (fun z => q (Or.inl z)), if_neg (fun z => q (Or.inr z))] at kok
      refine v_X3_formula_9 ⟨fun q => by omega, fun _ => ⟨fun q => absurd hw.2.1.2.1 q, fun _ => ee_pass hS (by omega) hw h0 (by omega) (fun z => absurd (Or.inl z) q) (fun _ => am_b0 (ee_pass hS (by omega) hw h0 (by omega) (fun z => absurd (Or.inr z) q) (fun _ => am_b0 (kok l (v, p) w rfl hw))))⟩⟩
theorem ee_frm (hS : EvSt w0 st tg t n env) (hF : EvSp w0 st tg n env (CFac a) fac evf D B) (hn : 0 ≤ n ∧ n ≤ 30) (hG : GF t n fac evf) (hB : Bd n fac) (hA : Adv n fac) (hD : 3 ≤ D) (hBn : n ≤ B) : EvSp w0 st tg n env (CFrm a) (ckFrm t n fac 30) (evFrm t n evf) (D + 2) B := by
  intro p l w K d h0 h1 h hd hw kerr kok
  have hP := ee_prd hS hF hn hG hB hA hD hBn
  unfold ckFrm at h
  by_cases hf : (ckPrd t n fac 30 p).1 = true
  · rw [if_pos hf] at h
    have hb := ckPrd_bd (t := t) hB 30 p (by omega) (by omega)
    have ha := ckPrd_adv (t := t) hB hA hn.2 30 p (by omega) (by omega) (by omega) hf
    refine ⟨D + 2, hd, e_X3_formula (hP.use hS.2.2.2.2.2.1 (gd_prd hn hG hB hA) h0 h1 hf (Nat.lt_succ_self (D + 1)) hw (fun l1 x w' v' pe hm hx h' hv' hpe => frm_err h' hx (kerr l1 x w' v' pe (mbind_inl hm) h' hv' hpe)) (fun l1 r w' hm hr h' => ?_))⟩
    unfold evFrm at kerr kok
    rw [mbind_inr hm, hr.2] at kerr kok
    rw [hr.2] at h'
    exact ee_frmL hS hP hn hG hB hA (by omega) hBn 29 r.1 _ l1 w' K (by omega) (by omega) (by omega) hr.1 (by omega) h h' kerr kok
  · rw [if_neg hf] at h
    cases h
end EF
