section EH
variable {w0 : Wd} {st tg n a : Int} {t : Int → Int} {env : Env'} {D : Nat} {fac g : Int → Bool × Int} {evf m : Int → Mo (Int × Int)}
theorem mreadE_inl {c : Int} {l l1 : List Int} {x : Int × Int} (h : mread c env l = (l1, .inl x)) : mreadE c env l = (l1, .inl x) := mbind_inl h
theorem mreadE_inr {c v : Int} {l l1 : List Int} (h : mread c env l = (l1, .inr v)) : mreadE c env l = (l1, .inr (v, (env c).2.2)) := mbind_inr h
/-- the cells of an area one after another -/
theorem ee_cells (hS : EvSt w0 st tg t n env) {f : Nat} (hf : 5 ≤ f) {K : Int → Wd → Prop} {d : Nat} (hd : 3 ≤ d) {q a2 v4 v5 : Int} (h4 : 0 ≤ v4 ∧ v4 < 72) (h5 : 0 ≤ v5 ∧ v5 < 72) {kk : Nat} (hkk : v4 % 8 + kk = v5 % 8 + 1) (i : Nat) : ∀ (v8 s B : Int) (l : List Int) (w : Wd), v8 + i = v5 / 8 + 1 → 0 ≤ v8 → 0 ≤ B → B + 8 * i ≤ 1000 → Jn f B s → EVS w0 st tg l q 0 (-1) w →
    (∀ l1 x w', mcells f (areaCells v8 (v4 % 8) kk i) s env l = (l1, .inl x) → x.1 ≠ 0 → EVS w0 st tg l1 q x.1 x.2 w' → K 0 w') →
    (∀ l1 x w', mcells f (areaCells v8 (v4 % 8) kk i) s env l = (l1, .inr x) → EVS w0 st tg l1 q 0 (-1) w' → K x w') →
    W_X3_gatherArea d 39 [some (.inr (.inr 109)), some (.inl (f : Int)), some (.inr (.inl a2)), none, some (.inl v4), some (.inl v5), some (.inr (.inl s)), none, some (.inl v8), none, none, none, none] [] w K := by
  induction i with
  | zero =>
    intro v8 s B l w hi h8 hB0 hB hs hw kerr kok
    exact v_X3_gatherArea_39 ⟨h5.1, fun _ => kok l s w rfl hw, fun z => by omega⟩
  | succ i ih =>
    intro v8 s B l w hi h8 hB0 hB hs hw kerr kok
    refine v_X3_gatherArea_39 ⟨h5.1, fun z => by omega, fun _ => ⟨h4.1, ?_⟩⟩
    have row : ∀ (k : Nat) (v9 s B : Int) (l : List Int) (w : Wd), v9 + k = v5 % 8 + 1 → 0 ≤ v9 → 0 ≤ B → B + k + 8 * i ≤ 1000 → Jn f B s → EVS w0 st tg l q 0 (-1) w →
        (∀ l1 x w', mcells f (rowCells v8 v9 k ++ areaCells (v8 + 1) (v4 % 8) kk i) s env l = (l1, .inl x) → x.1 ≠ 0 → EVS w0 st tg l1 q x.1 x.2 w' → K 0 w') →
        (∀ l1 x w', mcells f (rowCells v8 v9 k ++ areaCells (v8 + 1) (v4 % 8) kk i) s env l = (l1, .inr x) → EVS w0 st tg l1 q 0 (-1) w' → K x w') →
        W_X3_gatherArea d 56 [some (.inr (.inr 109)), some (.inl (f : Int)), some (.inr (.inl a2)), none, some (.inl v4), some (.inl v5), some (.inr (.inl s)), none, some (.inl v8), some (.inl v9), none, none, none] [] w K := by
      intro k
      induction k with
      | zero =>
        intro v9 s B l w hk h9 hB0 hB hs hw kerr kok
        exact v_X3_gatherArea_56 ⟨h5.1, fun _ => ⟨by omega, ih (v8 + 1) s B l w (by omega) (by omega) hB0 (by omega) hs hw kerr kok⟩, fun z => by omega⟩
      | succ k ih2 =>
        intro v9 s B l w hk h9 hB0 hB hs hw kerr kok
        have e0 : ∀ L, mcells f (rowCells v8 v9 (k + 1) ++ L) s = mbind (mreadE (v8 * 8 + v9)) (fun r => mbind (if r.2 = 0 then mpure s else mjoin f s r.1) (fun s' => mcells f (rowCells v8 (v9 + 1) k ++ L) s')) := fun L => rfl
        rw [e0] at kerr kok
        have hc : 0 ≤ v8 * 8 + v9 ∧ v8 * 8 + v9 < 72 := by omega
        refine v_X3_gatherArea_56 ⟨h5.1, fun z => by omega, fun _ => ⟨by omega, by omega, ?_⟩⟩
        refine ee_read hS (by omega) hw hc (fun l1 x w1 v hm hx h1 hv => ?_) (fun l1 v w1 hm hv h1 => ?_)
        · have hx0 : ¬ w1 109 6 = 0 := by rw [h1.2.1.2.1]; omega
          exact ⟨fun _ => ⟨fun z => absurd z hx0, fun _ => kerr l1 x w1 (mbind_inl (mreadE_inl hm)) (by omega) h1⟩, fun z => absurd z hx0⟩
        · rw [mbind_inr (mreadE_inr hm)] at kerr kok
          dsimp only at kerr kok
          have hw0 : w1 109 6 = 0 := h1.2.1.2.1
          refine ⟨fun z => absurd hw0 z, fun _ => ?_⟩
          rw [h1.at4 hS]
          refine ⟨hS.1, ⟨0, by omega, e_X5_isEmpty hS.1 ⟨hc, fun z => ?_, fun z => ?_⟩⟩⟩
          · rw [show st + 1 + 2 = st + 3 by omega] at z
            rw [if_neg (fun q => z ((h1.len hS hc).mpr q))] at kerr kok
            refine am_c0 (ee_join (env := env) (B := B) (by omega) hf hS.1 h1 hs ⟨hB0, by omega⟩ hv (fun q => absurd rfl q) (fun l2 x w2 _ hm2 h2 hx2 => ?_) (fun l2 s' _ hm2 h2 => ?_))
            · have hg := (gd_join (f := f) (B := B) ⟨hB0, by omega⟩ hs hv env l1 hS.2.2.2.2.2.1 h1.2.2.2.2.2.1).2.2.2.2
              rw [hm2] at hg
              have hg1 := hg.1
              rw [← hx2] at h2
              exact ⟨fun z => absurd (h2.2.1.2.1.symm.trans z) (by omega), fun _ => kerr l2 x w2 (mbind_inl hm2) (by omega) h2⟩
            · have hg := (gd_join (f := f) (B := B) ⟨hB0, by omega⟩ hs hv env l1 hS.2.2.2.2.2.1 h1.2.2.2.2.2.1).2.2.2.2
              rw [hm2] at hg
              rw [mbind_inr hm2] at kerr kok
              exact ⟨fun _ => ⟨by omega, ih2 (v9 + 1) s' (B + 1) l2 w1 (by omega) (by omega) (by omega) (by omega) hg h2 kerr kok⟩, fun z => absurd hw0 z⟩
          · rw [show st + 1 + 2 = st + 3 by omega] at z
            rw [if_pos ((h1.len hS hc).mp z)] at kerr kok
            exact am_c1 ⟨fun _ => ⟨by omega, ih2 (v9 + 1) s B l1 w1 (by omega) (by omega) hB0 (by omega) hs h1 kerr kok⟩, fun z => absurd hw0 z⟩
    exact row kk (v4 % 8) s B l w hkk (by omega) hB0 (by omega) hs hw kerr kok
/-- what the checker knows of an area -/
def AreaOk (t : Int → Int) (n p : Int) : Prop := (isCol (lk t n p) ∧ isRow (lk t n (p + 1))) ∧ (lk t n (p + 2) = 58 → (lk t n p ≤ lk t n (p + 3) ∧ isCol (lk t n (p + 3))) ∧ lk t n (p + 1) ≤ lk t n (p + 4) ∧ isRow (lk t n (p + 4)))
theorem areaOk_of {f : Nat} {p : Int} (hf : 5 ≤ f) (ha : evIsArea t n p = true) (h : (ckPart t n fac f p).1 = true) : AreaOk t n p := by
  unfold evIsArea at ha
  rw [decide_eq_true_eq] at ha
  refine ⟨ha.1, fun h58 => ?_⟩
  have hck : ckIsArea t n f p = true := by
    unfold ckIsArea
    rw [decide_eq_true_eq]
    exact Or.inr ⟨hf, ha.1, h58⟩
  unfold ckPart at h
  rw [if_pos hck] at h
  unfold ckArea at h
  by_cases hc1 : (ckCell t n 97 49 p).1 = true
  · rw [if_pos hc1, if_pos h58] at h
    obtain ⟨c1, c2, c3⟩ := ckCell_ok h
    rw [show p + 3 + 1 = p + 4 by omega] at c3
    exact ⟨c2, c3⟩
  · rw [if_neg hc1] at h
    cases h
theorem ee_area (hS : EvSt w0 st tg t n env) {f : Nat} (hf : 5 ≤ f) {K : Int → Wd → Prop} {d : Nat} (hd : 4 ≤ d) {p s B : Int} {l : List Int} {w : Wd} (h0 : 0 ≤ p) (h1 : p ≤ 30) (ha : AreaOk t n p) (hB : 0 ≤ B ∧ B ≤ 900) (hs : Jn f B s) (hw : EVS w0 st tg l p 0 (-1) w)
    (kerr : ∀ l1 x w' pe, evArea t n f s p env l = (l1, .inl x) → x.1 ≠ 0 → (0 ≤ pe ∧ pe ≤ 40) → EVS w0 st tg l1 pe x.1 x.2 w' → K 0 w')
    (kok : ∀ l1 r w', evArea t n f s p env l = (l1, .inr r) → EVS w0 st tg l1 r.2 0 (-1) w' → K r.1 w') : C_X3_gatherArea d [.inr (.inr 109), .inl (f : Int), .inr (.inl s)] w K := by
  unfold evArea at kerr kok
  refine ⟨3, hd, e_X3_gatherArea (ee_passCell hS (by decide) hw h0 (by omega) ha.1 (fun w1 h1 => ?_))⟩
  have hca : 0 ≤ cellAt t n p ∧ cellAt t n p < 72 := by have := ha.1; unfold cellAt; omega
  refine ee_pass hS (by decide) h1 (by omega) (by omega) (fun h58 w2 h2 => am_b1 ?_) (fun h58 => am_b0 ?_)
  · have h58' := ha.2 h58
    rw [if_pos h58] at kerr kok
    rw [show p + 2 + 1 = p + 3 by omega] at h2
    have hcb : 0 ≤ cellAt t n (p + 3) ∧ cellAt t n (p + 3) < 72 := by unfold cellAt; rw [show p + 3 + 1 = p + 4 by omega]; omega
    have hrow : cellAt t n p / 8 ≤ cellAt t n (p + 3) / 8 := by have := ha.1; unfold cellAt; rw [show p + 3 + 1 = p + 4 by omega]; omega
    have hcol : cellAt t n p % 8 ≤ cellAt t n (p + 3) % 8 := by have := ha.1; unfold cellAt; rw [show p + 3 + 1 = p + 4 by omega]; omega
    refine ee_passCell hS (by decide) h2 (by omega) (by omega) ⟨h58'.1.2, by rw [show p + 3 + 1 = p + 4 by omega]; exact h58'.2.2⟩ (fun w3 h3 => ⟨hca.1, ?_⟩)
    rw [show p + 3 + 2 = p + 5 by omega] at h3
    refine ee_cells hS hf (by decide) hca hcb (kk := (cellAt t n (p + 3) % 8 - cellAt t n p % 8 + 1).toNat) (by omega) (cellAt t n (p + 3) / 8 - cellAt t n p / 8 + 1).toNat _ s B l w3 (by omega) (by omega) hB.1 (by omega) hs h3 (fun l1 x w' hm hx h' => kerr l1 x w' (p + 5) (mbind_inl hm) hx (by omega) h') (fun l1 x w' hm h' => kok l1 (x, p + 5) w' (mbind_inr hm) h')
  · rw [if_neg h58] at kerr kok
    refine ⟨hca.1, ?_⟩
    have e : areaCells (cellAt t n p / 8) (cellAt t n p % 8) 1 1 = [cellAt t n p] := by
      show [cellAt t n p / 8 * 8 + cellAt t n p % 8] = [cellAt t n p]
      rw [show cellAt t n p / 8 * 8 + cellAt t n p % 8 = cellAt t n p by omega]
    rw [← e] at kerr kok
    exact ee_cells hS hf (by decide) hca hca (kk := 1) (by omega) 1 _ s B l w1 (by omega) (by omega) hB.1 (by omega) hs h1 (fun l1 x w' hm hx h' => kerr l1 x w' (p + 2) (mbind_inl hm) hx (by omega) h') (fun l1 x w' hm h' => kok l1 (x, p + 2) w' (mbind_inr hm) h')
theorem part_frm2 {f : Nat} {p : Int} (ha : ¬ evIsArea t n p = true) (h : (ckPart t n fac f p).1 = true) (hst : lk t n (ckPart t n fac f p).2 = 44 ∨ lk t n (ckPart t n fac f p).2 = 41) : ckPart t n fac f p = ckFrm t n fac 30 p := by
  unfold evIsArea at ha
  rw [decide_eq_true_eq] at ha
  have hck : ¬ ckIsArea t n f p = true := by
    intro hck
    unfold ckPart at h hst
    rw [if_pos hck] at h hst
    unfold ckIsArea at hck
    rw [decide_eq_true_eq] at hck
    unfold ckArea at h hst
    by_cases hc1 : (ckCell t n 97 49 p).1 = true
    · obtain ⟨c1, c2, c3⟩ := ckCell_ok hc1
      rw [if_pos hc1] at h hst
      by_cases h58 : lk t n (p + 2) = 58
      · exact ha ⟨⟨c2.2, c3.2⟩, Or.inl h58⟩
      · rw [if_neg h58] at hst
        exact ha ⟨⟨c2.2, c3.2⟩, Or.inr hst⟩
    · rw [if_neg hc1] at h
      cases h
  unfold ckPart
  rw [if_neg hck]
/-- the end of a gathering -/
theorem ga_done {f : Nat} {s v6 : Int} {d : Nat} {w : Wd} {K : Int → Wd → Prop} (hf : f < 9) (k : K (evFin s) w) : W_X3_gather d 10 [some (.inr (.inr 109)), some (.inl (f : Int)), some (.inl a), some (.inr (.inl s)), none, some (.inl 0), some (.inl v6)] [] w K := by
  unfold evFin at k
  have k1 : (¬ s = -2000000000 → K s w) ∧ (s = -2000000000 → K 0 w) := ⟨fun q => by rw [if_neg q] at k; exact k, fun q => by rw [if_pos q] at k; exact k⟩
  exact v_X3_gather_10 ⟨by omega, fun _ => k1, fun _ => ⟨fun _ => k1, fun z => absurd rfl z⟩⟩
theorem ee_gathL {B : Int} (hS : EvSt w0 st tg t n env) (hM : EvSp w0 st tg n env (CFrm a) (ckFrm t n fac 30) (evFrm t n evf) D B) (hn : 0 ≤ n ∧ n ≤ 30) (hC : CellF t n fac) (hG : GF t n fac evf) (hB : Bd n fac) (hA : Adv n fac) (hD : 5 ≤ D) (hBn : n + 40 ≤ B ∧ B ≤ 50000) {f : Nat} (hf : 5 ≤ f ∧ f < 9) (i : Nat) : ∀ (part J s p v6 : Int) (l : List Int) (w : Wd) (K : Int → Wd → Prop), v6 + i = am_most.getD f 0 → 0 ≤ v6 → 0 ≤ J → J + 72 * i ≤ 900 → Jn f J s → 0 ≤ p → p ≤ n → (ckParts t n fac f i part p).1 = true → EVS w0 st tg l p 0 (-1) w →
    (∀ l1 x w' pe, evGath t n evf f i s p env l = (l1, .inl x) → EVS w0 st tg l1 pe x.1 x.2 w' → (0 ≤ pe ∧ pe ≤ B + 200) → K 0 w') →
    (∀ l1 r w', evGath t n evf f i s p env l = (l1, .inr r) → EVS w0 st tg l1 r.2 0 (-1) w' → K r.1 w') →
    W_X3_gather (D + 1) 10 [some (.inr (.inr 109)), some (.inl (f : Int)), some (.inl a), some (.inr (.inl s)), none, some (.inl 1), some (.inl v6)] [] w K := by
  have htab := tab_least f (by omega)
  induction i with
  | zero =>
    intro part J s p v6 l w K hi h6 hJ0 hJ hs h0 h1 h hw kerr kok
    unfold ckParts at h
    cases h
  | succ i ih =>
    intro part J s p v6 l w K hi h6 hJ0 hJ hs h0 h1 h hw kerr kok
    obtain ⟨a1, a2⟩ := parts_aft h
    have hb := ckPart_bd (t := t) hB f p h0 h1
    have hgp := gd_part hn hC hG hB hA hf.1 ⟨hJ0, by omega⟩ hs h0 h1 a1 a2.stop env l hS.2.2.2.2.2.1 hw.2.2.2.2.2.1
    unfold evGath at kerr kok
    -- after a part that failed
    have bad : ∀ (l1 : List Int) (x : Int × Int) (w' : Wd) (pe : Int), evPart t n evf f s p env l = (l1, .inl x) → x.1 ≠ 0 → EVS w0 st tg l1 pe x.1 x.2 w' → (0 ≤ pe ∧ pe ≤ B) → ((¬ (w' 109 6) = 0 → (-2147483648 ≤ (w' 110 3) + 1 ∧ (w' 110 3) + 1 ≤ 2147483647) ∧ (∀ w9, w9 = wset w' 110 3 ((w' 110 3) + 1) → (-2147483648 ≤ v6 + 1 ∧ v6 + 1 ≤ 2147483647) ∧ W_X3_gather (D + 1) 10 [some (.inr (.inr 109)), some (.inl (f : Int)), some (.inl a), some (.inr (.inl 0)), none, some (.inl 0), some (.inl (v6 + 1))] [] w9 K))) := by
      intro l1 x w' pe hm hx h' hpe _
      rw [h'.2.1.1]
      refine ⟨by omega, ?_⟩
      rintro w9 rfl
      exact ⟨by omega, ga_done hf.2 (kerr l1 x _ (pe + 1) (mbind_inl hm) (h'.pos hS.1) (by omega))⟩
    -- after a part that came out
    have good : ∀ (l1 : List Int) (r : Int × Int) (w' : Wd), evPart t n evf f s p env l = (l1, .inr r) → EVS w0 st tg l1 r.2 0 (-1) w' → C_X2_look (D + 1) [.inr (.inr 110), .inl 0] w' (fun x6 w10 => ((¬ x6 = 44 → (-2147483648 ≤ (w10 110 3) + 1 ∧ (w10 110 3) + 1 ≤ 2147483647) ∧ (∀ w11, w11 = wset w10 110 3 ((w10 110 3) + 1) → (-2147483648 ≤ v6 + 1 ∧ v6 + 1 ≤ 2147483647) ∧ W_X3_gather (D + 1) 10 [some (.inr (.inr 109)), some (.inl (f : Int)), some (.inl a), some (.inr (.inl r.1)), none, some (.inl 0), some (.inl (v6 + 1))] [] w11 K)) ∧ (x6 = 44 → (-2147483648 ≤ (w10 110 3) + 1 ∧ (w10 110 3) + 1 ≤ 2147483647) ∧ (∀ w12, w12 = wset w10 110 3 ((w10 110 3) + 1) → (-2147483648 ≤ v6 + 1 ∧ v6 + 1 ≤ 2147483647) ∧ W_X3_gather (D + 1) 10 [some (.inr (.inr 109)), some (.inl (f : Int)), some (.inl a), some (.inr (.inl r.1)), none, some (.inl 1), some (.inl (v6 + 1))] [] w12 K)))) := by
      intro l1 r w' hm h'
      rw [hm] at hgp
      have hr := hgp.2.2.2.2
      have hr2 := hr.2
      rw [mbind_inr hm] at kerr kok
      refine ee_look0 hS (by omega) h' (by omega) (by omega) ?_
      rw [h'.2.1.1]
      refine ⟨fun q => ⟨by omega, ?_⟩, fun q => ⟨by omega, ?_⟩⟩
      · rintro w11 rfl
        rw [if_neg q] at kok
        exact ⟨by omega, ga_done hf.2 (kok l1 (evFin r.1, r.2 + 1) _ rfl (h'.pos hS.1))⟩
      · rintro w12 rfl
        rw [if_pos q] at kerr kok
        have hl := lk_pos (t := t) (n := n) (p := r.2) (by omega)
        rcases a2 with q2 | ⟨_, part', q1, q2⟩
        · rw [hr2] at q
          omega
        · rw [← hr2] at q1
          exact ⟨by omega, ih part' (J + 72) r.1 (r.2 + 1) (v6 + 1) l1 _ K (by omega) (by omega) (by omega) (by omega) hr.1 (by omega) (by omega) q1 (h'.pos hS.1) kerr kok⟩
    refine v_X3_gather_10 ⟨by omega, fun z => ?_, fun z => ⟨fun q => absurd q (by decide), fun _ => ee_isArea hS (by omega) hw h0 (by omega) ?_⟩⟩
    · rw [Int.toNat_natCast] at z
      omega
    · by_cases ha : evIsArea t n p = true
      · rw [ha]
        refine am_b1 (ee_area hS hf.1 (by omega) h0 (by omega) (areaOk_of hf.1 ha a1) ⟨hJ0, by omega⟩ hs hw (fun l1 x w' pe hm hx hpe h' => ?_) (fun l1 r w' hm h' => ?_))
        · exact ⟨bad l1 x w' pe (by unfold evPart; rw [if_pos ha]; exact hm) hx h' (by omega), fun z => absurd (h'.2.1.2.1.symm.trans z) hx⟩
        · exact ⟨fun z => absurd h'.2.1.2.1 z, fun _ => good l1 r w' (by unfold evPart; rw [if_pos ha]; exact hm) h'⟩
      · have haf := bt ha
        rw [haf]
        have hev : evPart t n evf f s p = mbind (evFrm t n evf p) (fun r => mbind (mjoin f s r.1) (fun x => mpure (x, r.2))) := by
          unfold evPart
          rw [if_neg ha]
        have hck : (ckFrm t n fac 30 p).1 = true := by
          rw [← part_frm2 ha a1 a2.stop]
          exact a1
        have hbf := ckFrm_bd (t := t) hB 30 p h0 h1
        refine am_b0 (hM.use hS.2.2.2.2.2.1 (gd_frm hn hG hB hA) h0 h1 hck (Nat.lt_succ_self D) hw (fun l1 x w' v' pe hm hx h' hv' hpe => ?_) (fun l1 r w' hm hr h' => ?_))
        · refine ee_join (env := env) (B := J) (by omega) hf.1 hS.1 h' hs ⟨hJ0, by omega⟩ hv' (fun _ => ?_) (fun _ _ _ z => absurd z hx) (fun _ _ z => absurd z hx)
          exact ⟨bad l1 x w' pe (by rw [hev]; exact mbind_inl hm) hx h' hpe, fun z => absurd (h'.2.1.2.1.symm.trans z) hx⟩
        · have hr2 := hr.2
          have hg := (gd_join (f := f) (B := J) ⟨hJ0, by omega⟩ hs hr.1 env l1 hS.2.2.2.2.2.1 h'.2.2.2.2.2.1).2.2.2.2
          refine ee_join (env := env) (B := J) (by omega) hf.1 hS.1 h' hs ⟨hJ0, by omega⟩ hr.1 (fun z => absurd rfl z) (fun l2 x w2 _ hm2 h2 hx2 => ?_) (fun l2 s' _ hm2 h2 => ?_)
          · rw [hm2] at hg
            have hg1 := hg.1
            rw [← hx2] at h2
            have hx0 : x.1 ≠ 0 := by omega
            exact ⟨bad l2 x w2 r.2 (by rw [hev, mbind_inr hm]; exact mbind_inl hm2) hx0 h2 (by omega), fun z => absurd (h2.2.1.2.1.symm.trans z) hx0⟩
          · exact ⟨fun z => absurd h2.2.1.2.1 z, fun _ => good l2 (s', r.2) w' (by rw [hev, mbind_inr hm, mbind_inr hm2]; rfl) h2⟩
theorem ee_gath {B : Int} (hS : EvSt w0 st tg t n env) (hM : EvSp w0 st tg n env (CFrm a) (ckFrm t n fac 30) (evFrm t n evf) D B) (hn : 0 ≤ n ∧ n ≤ 30) (hC : CellF t n fac) (hG : GF t n fac evf) (hB : Bd n fac) (hA : Adv n fac) (hD : 5 ≤ D) (hBn : n + 40 ≤ B ∧ B ≤ 50000) {f : Nat} (hf : 5 ≤ f ∧ f < 9) : EvSp w0 st tg n env (fun d w K => C_X3_gather d [.inr (.inr 109), .inl (f : Int), .inl a] w K) (CPt f t n fac) (evGath t n evf f (am_most.getD f 0).toNat (-2000000000)) (D + 1) (B + 200) := by
  intro p l w K d h0 h1 h hd hw kerr kok
  have htab := tab_least f (by omega)
  exact ⟨D + 1, hd, e_X3_gather (ee_gathL hS hM hn hC hG hB hA hD hBn hf (am_most.getD f 0).toNat 1 0 (-2000000000) p 0 l w K (by omega) (by decide) (by decide) (by omega) (Or.inl rfl) h0 h1 h hw (fun l1 x w' pe hm h' hpe => kerr l1 x w' 0 pe hm h' ⟨by decide, by decide⟩ hpe) kok)⟩
theorem ee_call {B : Int} (hS : EvSt w0 st tg t n env) (hM : EvSp w0 st tg n env (CFrm a) (ckFrm t n fac 30) (evFrm t n evf) D B) (hn : 0 ≤ n ∧ n ≤ 30) (hF : SkF t n fac) (hC : CellF t n fac) (hG : GF t n fac evf) (hB : Bd n fac) (hA : Adv n fac) (hD : 5 ≤ D) (hBn : n + 40 ≤ B ∧ B ≤ 50000) (r0 : Int → Int) : EvSp w0 st tg n env (fun d w K => C_X3_call d [.inr (.inr 109), .inl a] w K) (fun p => ckCall t n fac 9 0 (r0 p) p) (evCall t n evf 9 0) (D + 2) (B + 200) := by
  intro p l w K d h0 h1 h hd hw kerr kok
  refine ⟨D + 2, hd, e_X3_call ?_⟩
  have go : ∀ (i f : Nat) (r : Int), i + f = 9 → (ckCall t n fac i f r p).1 = true →
      (∀ l1 x w' v pe, evCall t n evf i f p env l = (l1, .inl x) → EVS w0 st tg l1 pe x.1 x.2 w' → PV v → (0 ≤ pe ∧ pe ≤ B + 200) → K v w') →
      (∀ l1 r w', evCall t n evf i f p env l = (l1, .inr r) → EVS w0 st tg l1 r.2 0 (-1) w' → K r.1 w') →
      W_X3_call (D + 2) 2 [some (.inr (.inr 109)), some (.inl a), some (.inl (f : Int)), none] [] w K := by
    intro i
    induction i with
    | zero =>
      intro f r hf h kerr kok
      unfold ckCall at h
      cases h
    | succ i ih =>
      intro f r hf h kerr kok
      have hf9 : f < 9 := by omega
      unfold ckCall at h
      unfold evCall at kerr kok
      have hin := ckMt_in (t := t) (n := n) (nmS f) (nmS_ne f hf9) p h1
      have hbd := ckMt_bd (t := t) (n := n) (nmS f) p
      refine v_X3_call_2 ⟨fun z => by omega, fun _ => s_nameOf (by omega) hf9 ⟨f, hf9, rfl, ee_match hS (by omega) hw h0 (by omega) hf9 (s_strlen (by omega) hf9 ⟨fun q => ?_, fun q => s_strlen (by omega) hf9 ?_⟩)⟩⟩
      · rw [if_neg q] at h kerr kok
        exact ⟨by omega, ih (f + 1) _ (by omega) h kerr kok⟩
      · rw [if_pos q] at h kerr kok
        rw [hw.2.1.1]
        refine ⟨by omega, ?_⟩
        rintro w6 rfl
        have h6 := hw.pos hS.1 (q := p + (nmS f).length)
        rw [← q] at h6 ⊢
        generalize wset w 110 3 (p + ckMt t n (nmS f) p) = w6 at h6
        unfold evFun at kerr kok
        refine ⟨fun q0 => ?_, fun q1 => ?_, fun q2 => ?_, fun q3 => ?_, fun q4 => ?_, fun q5 => ?_⟩
        · rw [if_pos (by omega)] at kerr kok
          exact ee_choose hS hM hn hF hG hB hA hD (by omega) (f := f) (by omega) _ l w6 K _ (by omega) hin h (Nat.lt_succ_self (D + 1)) h6 kerr kok
        · rw [if_pos (by omega)] at kerr kok
          exact ee_choose hS hM hn hF hG hB hA hD (by omega) (f := f) (by omega) _ l w6 K _ (by omega) hin h (Nat.lt_succ_self (D + 1)) h6 kerr kok
        · rw [if_neg (by omega), if_pos (by omega)] at kerr kok
          exact ee_comb hS hM hn hG hB hA hD (by omega) (f := f) (by omega) _ l w6 K _ (by omega) hin h (Nat.lt_succ_self (D + 1)) h6 kerr kok
        · rw [if_neg (by omega), if_pos (by omega)] at kerr kok
          exact ee_comb hS hM hn hG hB hA hD (by omega) (f := f) (by omega) _ l w6 K _ (by omega) hin h (Nat.lt_succ_self (D + 1)) h6 kerr kok
        · rw [if_neg (by omega), if_pos (by omega)] at kerr kok
          exact ee_comb hS hM hn hG hB hA hD (by omega) (f := f) (by omega) _ l w6 K _ (by omega) hin h (Nat.lt_succ_self (D + 1)) h6 kerr kok
        · rw [if_neg (by omega), if_neg (by omega)] at kerr kok
          exact ee_gath hS hM hn hC hG hB hA hD (by omega) (f := f) (by omega) _ l w6 K _ (by omega) hin h (Nat.lt_succ_self (D + 1)) h6 kerr kok
  exact go 9 0 (r0 p) rfl h kerr kok
theorem EvSp.mono {C : Nat → Wd → (Int → Wd → Prop) → Prop} {B B' : Int} {D' : Nat} (h : EvSp w0 st tg n env C g m D B) (hB : B ≤ B') (hD : D ≤ D') : EvSp w0 st tg n env C g m D' B' :=
  fun p l w K d h0 h1 hg hd hw kerr kok => h p l w K d h0 h1 hg (Nat.lt_of_le_of_lt hD hd) hw (fun l1 x w' v pe hm h' hv hpe => kerr l1 x w' v pe hm h' hv ⟨hpe.1, Int.le_trans hpe.2 hB⟩) kok
theorem ee_fac (hS : EvSt w0 st tg t n env) (hn : 0 ≤ n ∧ n ≤ 30) (k : Nat) : ∀ a : Int, a + k = 41 → 0 ≤ a → EvSp w0 st tg n env (CFac a) (ckFac t n k) (evFac t n k) (10 + 6 * k) (100 + 300 * k) := by
  induction k with
  | zero =>
    intro a ha h0 p l w K d h0 h1 h hd hw kerr kok
    unfold ckFac at h
    cases h
  | succ k ih =>
    intro a ha ha0 p l w K d h0 h1 h hd hw kerr kok
    have hFs := ih (a + 1) (by omega) (by omega)
    have hG := gd_fac (t := t) hn k
    have hB := ckFac_bd (t := t) hn.1 k
    have hA : Adv n (ckFac t n k) := ckFac_adv hn k
    have hF := sk_fac (t := t) hn.1 k
    have hM := ee_frm hS hFs hn hG hB hA (by omega) (by omega)
    unfold ckFac at h
    unfold evFac at kerr kok
    refine ⟨10 + 6 * k + 5, by omega, e_X3_factor ⟨fun _ => ?_, fun z => by omega⟩⟩
    refine ee_pass hS (by omega) hw h0 (by omega) (fun q1 w1 h1' => am_b1 ?_) (fun q1 => am_b0 ?_)
    rotate_left
    refine ee_pass hS (by omega) hw h0 (by omega) (fun q2 w1 h1' => am_b1 ?_) (fun q2 => am_b0 ?_)
    rotate_left
    refine ee_look0 hS (by omega) hw h0 (by omega) (s_isDig (by omega) (fun q3 => am_b1 ?_) (fun q3 => am_b0 ?_))
    rotate_left
    refine ee_atCell hS (by omega) hw h0 (by omega) (fun q4 => am_b1 ?_) (fun q4 => am_b0 ?_)
    rotate_right 2
    rotate_right
    · have hl := lk_pos (t := t) (n := n) (p := p) (by omega)
      rw [if_pos q1] at h kerr kok
      refine ⟨by omega, hFs.use hS.2.2.2.2.2.1 hG (by omega) (by omega) h (by omega) h1' (fun l1 x w' v' pe hm hx h' hv' hpe => ⟨by omega, kerr l1 x w' (-v') pe (mbind_inl hm) h' ⟨by omega, by omega⟩ (by omega)⟩) (fun l1 r w' hm hr h' => ?_)⟩
      have := hr.1
      exact ⟨by omega, kok l1 (-r.1, r.2) w' (mbind_inr hm) h'⟩
    · have hl := lk_pos (t := t) (n := n) (p := p) (by omega)
      rw [if_neg q1, if_pos q2] at h kerr kok
      by_cases hf : (ckFrm t n (ckFac t n k) 30 (p + 1)).1 = true
      · have hbf := ckFrm_bd (t := t) hB 30 (p + 1) (by omega) (by omega)
        refine ⟨by omega, hM.use hS.2.2.2.2.2.1 (gd_frm hn hG hB hA) (by omega) (by omega) hf (by omega) h1' (fun l1 x w' v' pe hm hx h' hv' hpe => ?_) (fun l1 r w' hm hr h' => ?_)⟩
        · rw [h'.2.1.1]
          refine ⟨by omega, ?_⟩
          rintro w11 rfl
          exact kerr l1 x _ v' (pe + 1) (mbind_inl hm) (h'.pos hS.1) hv' (by omega)
        · rw [h'.2.1.1]
          have hr2 := hr.2
          refine ⟨by omega, ?_⟩
          rintro w11 rfl
          exact kok l1 (r.1, r.2 + 1) _ (mbind_inr hm) (h'.pos hS.1)
      · rw [if_neg hf] at h
        cases h
    · rw [if_neg q1, if_neg q2, if_pos q3] at kok
      exact ee_num hS (by omega) hw h0 (by omega) (fun w' h' => kok l _ w' rfl h')
    · rw [if_neg q1, if_neg q2, if_neg q3, if_pos q4] at kerr kok
      refine ee_passCell hS (by omega) hw h0 (by omega) q4 (fun w1 h1' => ee_read hS (by omega) h1' (by unfold cellAt; omega) (fun l1 x w' v hm hx h' hv => kerr l1 x w' v (p + 2) (mbind_inl hm) h' hv (by omega)) (fun l1 v w' hm hv h' => kok l1 (v, p + 2) w' (mbind_inr hm) h'))
    · rw [if_neg q1, if_neg q2, if_neg q3, if_neg q4] at h kerr kok
      exact ⟨by omega, ee_call hS hM hn hF (cell_fac k) hG hB hA (by omega) (by omega) (fun p => if isCol (lk t n p) then 1 else 0) p l w K _ h0 h1 h (by omega) hw (fun l1 x w' v pe hm h' hv hpe => kerr l1 x w' v pe hm h' hv (by omega)) kok⟩
end EH
