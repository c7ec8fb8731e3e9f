theorem gd_val {α : Type} {P : α → Prop} {m : Mo α} {e : Env'} {l l1 : List Int} {a : α} (h : Gd P m) (hE : OkE e) (hL : OkL l) (hm : m e l = (l1, .inr a)) : P a ∧ OkL l1 := by
  have := h e l hE hL
  rw [hm] at this
  exact ⟨this.2.2.2.2, this.1⟩
theorem gd_er {α : Type} {P : α → Prop} {m : Mo α} {e : Env'} {l l1 : List Int} {x : Int × Int} (h : Gd P m) (hE : OkE e) (hL : OkL l) (hm : m e l = (l1, .inl x)) : 1 ≤ x.1 ∧ x.1 ≤ 4 := by
  have := h e l hE hL
  rw [hm] at this
  exact this.2.2.2.2.1
theorem mwb {x : Int × Int} (h : 1 ≤ x.1) : ¬ (mwr x = 0 ∧ mbl x = 0) := by
  unfold mwr mbl
  by_cases q : x.2 = -1
  · rw [if_pos q, if_pos q]; omega
  · rw [if_neg q, if_neg q]; omega
theorem mwr1 {e : Int} : mwr (e, -1) = e := if_pos rfl
theorem mbl1 {e : Int} : mbl (e, -1) = 0 := if_pos rfl
theorem fold_p {s x : Int} : fold 1 s x = mbd (s + x) := by
  unfold fold
  rw [if_neg (by decide), if_pos rfl]
theorem fold_m {s x : Int} : fold (-1) s x = mbd (s - x) := by
  unfold fold
  rw [if_neg (by decide), if_neg (by decide)]
/-! the loop of the reference's evaluator -/
abbrev LL (c : Int) (KV : Wd → Prop) : Wd → Prop := fun w => W_X9_works 30 88 [some (.inr (.inr 115)), some (.inl c)] [] w KV
/-- what stands behind a formula's end -/
def SW (K : Wd → Prop) (w2 : Wd) : Prop := (((w2 133 (w2 115 23)) = 0 → (∀ w9, w9 = wset w2 115 41 (w2 138 (w2 115 23)) → (∀ w10, w10 = wset w9 115 38 1 → K w10))) ∧ (((w2 133 (w2 115 23)) = 1 → C_X9_leaves 29 [.inr (.inr 115), .inr (.inl (w2 138 (w2 115 23)))] w2 (fun w11 => K w11)) ∧ (((w2 133 (w2 115 23)) = 2 → C_X9_ifs 29 [.inr (.inr 115), .inr (.inl (w2 138 (w2 115 23)))] w2 (fun w12 => K w12)) ∧ (((w2 133 (w2 115 23)) = 3 → C_X9_picks 29 [.inr (.inr 115), .inr (.inl (w2 138 (w2 115 23)))] w2 (fun w13 => K w13)) ∧ (((w2 133 (w2 115 23)) = 4 → C_X9_twos 29 [.inr (.inr 115), .inr (.inl (w2 138 (w2 115 23)))] w2 (fun w14 => K w14)) ∧ (((w2 133 (w2 115 23)) = 5 → C_X9_twos 29 [.inr (.inr 115), .inr (.inl (w2 138 (w2 115 23)))] w2 (fun w15 => K w15)) ∧ (((w2 133 (w2 115 23)) = 6 → C_X9_twos 29 [.inr (.inr 115), .inr (.inl (w2 138 (w2 115 23)))] w2 (fun w16 => K w16)) ∧ ((w2 133 (w2 115 23)) < 0 ∨ 6 < (w2 133 (w2 115 23)) → C_X9_takes 29 [.inr (.inr 115), .inr (.inl (w2 138 (w2 115 23)))] w2 (fun w17 => C_X9_goesOn 29 [.inr (.inr 115)] w17 (fun x2 w18 => ((x2 = 0 → K w18) ∧ (¬ x2 = 0 → C_X9_nextPart 29 [.inr (.inr 115)] w18 (fun w19 => K w19)))))))))))))
section MIS
variable {w0 w B : Wd} {c n p δ wr bl wa is x : Int} {t : Int → Int} {env : Env'} {l : List Int} {fr : Int → Int} {d : Nat} {K : Int → Wd → Prop} {KV : Wd → Prop} {fac g : Int → Bool × Int} {evf m : Int → Mo (Int × Int)}
theorem ckPrd_42' (hn : 0 ≤ n ∧ n ≤ 30) (hB : Bd n fac) (hA : Adv n fac) (i : Nat) : ∀ p, 0 ≤ p → p ≤ n → 60 ≤ p + 2 * i → (ckPrd t n fac i p).1 = true → lk t n (ckPrd t n fac i p).2 ≠ 42 := by
  induction i with
  | zero => intro p h0 h1 h2; omega
  | succ i ih =>
    intro p h0 h1 h2 h
    unfold ckPrd at h ⊢
    by_cases hf : (fac p).1 = true
    · rw [if_pos hf] at h ⊢
      have hb := hB p h0 h1
      have ha := hA p h0 h1 hf
      by_cases q : lk t n (fac p).2 = 42
      · have hl := lk_pos (t := t) (n := n) (p := (fac p).2) (by omega)
        rw [if_pos q] at h ⊢
        exact ih _ (by omega) (by omega) (by omega) h
      · rw [if_neg q]
        exact q
    · rw [if_neg hf] at h
      cases h
theorem ckPrd_42 (hn : 0 ≤ n ∧ n ≤ 30) (hB : Bd n fac) (hA : Adv n fac) (p : Int) (h0 : 0 ≤ p) (h1 : p ≤ n) (h : (ckPrd t n fac 30 p).1 = true) : lk t n (ckPrd t n fac 30 p).2 ≠ 42 := ckPrd_42' hn hB hA 30 p h0 h1 (by omega) h
theorem LL.toFac (h : MF w0 c B l p δ 0 0 1 is fr w) (k : C_X9_factor 30 [.inr (.inr 115)] w (LL c KV)) : LL c KV w :=
  v_X9_works_88 ⟨fun z => absurd h.2.1.2.2.1 z, fun _ => mf_goesOn (by decide) h.fin (fun _ _ => am_b1 ⟨fun z => absurd (h.2.1.2.2.2.2.2.1.symm.trans z) (by decide), fun _ => k⟩) (fun z => absurd ⟨rfl, rfl⟩ z)⟩
theorem LL.clo (h : MF w0 c B l p δ 0 0 0 is fr w) (k : C_X9_closes 30 [.inr (.inr 115)] w (LL c KV)) : LL c KV w :=
  v_X9_works_88 ⟨fun z => absurd h.2.1.2.2.1 z, fun _ => mf_goesOn (by decide) h.fin (fun _ _ => am_b1 ⟨fun _ => k, fun z => absurd h.2.1.2.2.2.2.2.1 z⟩) (fun z => absurd ⟨rfl, rfl⟩ z)⟩
theorem LL.fin (h : MEnd w0 c l wr bl w) (hb : ¬ (wr = 0 ∧ bl = 0)) (k : KV w) : LL c KV w :=
  v_X9_works_88 ⟨fun _ => k, fun _ => mf_goesOn (by decide) h (fun z1 z2 => absurd ⟨z1, z2⟩ hb) (fun _ => am_b0 k)⟩
def OutE {α : Type} (w0 : Wd) (c : Int) (KV : Wd → Prop) (r : List Int × ((Int × Int) ⊕ α)) : Prop := ∀ l1 x, r = (l1, .inl x) → ∀ w', MEnd w0 c l1 (mwr x) (mbl x) w' → KV w'
def Out (w0 : Wd) (c : Int) (B : Wd) (δ : Int) (fr : Int → Int) (KV : Wd → Prop) (r : List Int × ((Int × Int) ⊕ (Int × Int))) : Prop :=
  OutE w0 c KV r ∧ ∀ l1 v, r = (l1, .inr v) → (fr 136 ≠ 0 → ¬ PV (fr 137 * (if fr 135 = 0 then v.1 else -v.1)) → ∀ w', MEnd w0 c l1 1 0 w' → KV w') ∧ (∀ fr' w', FrG fr v.1 fr' → PV (fr' 137) → MF w0 c B l1 v.2 δ 0 0 0 0 fr' w' → LL c KV w')
def OutP (w0 : Wd) (c : Int) (B : Wd) (δ : Int) (fr : Int → Int) (KV : Wd → Prop) (r : List Int × ((Int × Int) ⊕ (Int × Int))) : Prop :=
  OutE w0 c KV r ∧ ∀ l1 v, r = (l1, .inr v) → ∀ fr' w', (fr' 135 = 0 ∧ fr' 136 = 1 ∧ fr' 137 = v.1 ∧ ∀ a, a ≠ 135 → a ≠ 136 → a ≠ 137 → fr' a = fr a) → PV v.1 → MF w0 c B l1 v.2 δ 0 0 0 0 fr' w' → LL c KV w'
def OutS (w0 : Wd) (c : Int) (B : Wd) (δ : Int) (fr : Int → Int) (KV : Wd → Prop) (r : List Int × ((Int × Int) ⊕ (Int × Int))) : Prop :=
  OutE w0 c KV r ∧ ∀ l1 v, r = (l1, .inr v) → ∀ fr' w', fr' 138 = v.1 → PV v.1 → (∀ a, a < 135 ∨ 139 < a → fr' a = fr a) → MF w0 c B l1 v.2 δ 0 0 0 0 fr' w' → SW (LL c KV) w'
def MsF (w0 : Wd) (c : Int) (t : Int → Int) (n : Int) (env : Env') (KV : Wd → Prop) (g : Int → Bool × Int) (m : Int → Mo (Int × Int)) : Prop := ∀ (p : Int) (l : List Int) (w B : Wd) (δ is : Int) (fr : Int → Int), 0 ≤ p → p ≤ n → 0 ≤ δ → δ ≤ p → (g p).1 = true → ¬ isDig (lk t n (g p).2) → (is ≠ 0 → ¬ evIsArea t n p = true) → (fr 135 = 0 ∨ fr 135 = 1) → (fr 136 ≠ 0 → PV (fr 137)) → MF w0 c B l p δ 0 0 1 is fr w → Out w0 c B δ fr KV (m p env l) → LL c KV w
def MsP (w0 : Wd) (c : Int) (t : Int → Int) (n : Int) (env : Env') (KV : Wd → Prop) (g : Int → Bool × Int) (m : Int → Mo (Int × Int)) : Prop := ∀ (p : Int) (l : List Int) (w B : Wd) (δ is : Int) (fr : Int → Int), 0 ≤ p → p ≤ n → 0 ≤ δ → δ ≤ p → (g p).1 = true → ¬ isDig (lk t n (g p).2) → (is ≠ 0 → ¬ evIsArea t n p = true) → fr 135 = 0 → fr 136 = 0 → MF w0 c B l p δ 0 0 1 is fr w → OutP w0 c B δ fr KV (m p env l) → LL c KV w
def MsS (w0 : Wd) (c : Int) (t : Int → Int) (n : Int) (env : Env') (KV : Wd → Prop) (g : Int → Bool × Int) (m : Int → Mo (Int × Int)) : Prop := ∀ (p : Int) (l : List Int) (w B : Wd) (δ is : Int) (fr : Int → Int), 0 ≤ p → p ≤ n → 0 ≤ δ → δ ≤ p → (g p).1 = true → ¬ isDig (lk t n (g p).2) → (is ≠ 0 → ¬ evIsArea t n p = true) → fr 135 = 0 → fr 136 = 0 → fr 138 = 0 → fr 139 = 0 → MF w0 c B l p δ 0 0 1 is fr w → OutS w0 c B δ fr KV (m p env l) → LL c KV w
theorem OutE.inl {α β : Type} {m : Mo α} {f : α → Mo β} {l1 : List Int} {x : Int × Int} {w' : Wd} (h : OutE w0 c KV (mbind m f env l)) (hm : m env l = (l1, .inl x)) (hw : MEnd w0 c l1 (mwr x) (mbl x) w') : KV w' := h l1 x (mbind_inl hm) w' hw
theorem ms_prdL (hM : MSt w0 c t n env) (hF : MsF w0 c t n env KV fac evf) (hG : GF t n fac evf) (hB : Bd n fac) (hA : Adv n fac) {δ : Int} {B : Wd} (hδ : 0 ≤ δ) (i : Nat) : ∀ (v q : Int) (l : List Int) (w : Wd) (fr : Int → Int), 0 ≤ q → q ≤ n → n ≤ q + 2 * i → δ ≤ q → PV v → (fr 135 = 0 ∧ fr 136 = 1 ∧ fr 137 = v) → (if lk t n q = 42 then ckPrd t n fac i (q + 1) else (true, q)).1 = true → ¬ isDig (lk t n (if lk t n q = 42 then ckPrd t n fac i (q + 1) else (true, q)).2) → MF w0 c B l q δ 0 0 0 0 fr w → OutP w0 c B δ fr KV (evPrdL t n evf (i + 1) v q env l) → LL c KV w := by
  have hn := hM.2.2.1
  have hE := hM.2.2.2.2.1
  induction i with
  | zero =>
    intro v q l w fr h0 h1 h2 h3 hv hfr h hdg hw ho
    have : ¬ lk t n q = 42 := fun z => by have := lk_pos (t := t) (n := n) (p := q) (by omega); omega
    unfold evPrdL at ho
    rw [if_neg this] at ho
    exact ho.2 l (v, q) rfl fr w ⟨hfr.1, hfr.2.1, hfr.2.2, fun a _ _ _ => rfl⟩ hv hw
  | succ i ih =>
    intro v q l w fr h0 h1 h2 h3 hv hfr h hdg hw ho
    by_cases q42 : lk t n q = 42
    · have hl := lk_pos (t := t) (n := n) (p := q) (by omega)
      have e0 := hr_lk (t := t) (n := n) h0
      rw [if_pos q42] at h hdg
      unfold evPrdL at ho
      rw [if_pos q42] at ho
      unfold ckPrd at h hdg
      by_cases hf : (fac (q + 1)).1 = true
      · rw [if_pos hf] at h hdg
        have hb := hB (q + 1) (by omega) (by omega)
        have ha := hA (q + 1) (by omega) (by omega) hf
        refine LL.clo hw ⟨29, by decide, e_X9_closes (mf_sign hM (by decide) hw h0 ⟨fun z => by omega, fun _ => ?_⟩)⟩
        rw [hw.2.1.1]
        refine ⟨by omega, ?_⟩
        rintro w26 rfl
        rintro w27 rfl
        refine hF (q + 1) l _ B δ 0 fr (by omega) (by omega) hδ (by omega) hf ?_ (fun z => absurd rfl z) (Or.inl hfr.1) (fun _ => by rw [hfr.2.2]; exact hv) ((hw.sp (q + 1)).swa 1) ⟨fun l1 x hm w' hw' => ho.1.inl hm hw', fun l1 r hm => ⟨fun _ hp w' hw' => ?_, fun fr' w' hg hp hw' => ?_⟩⟩
        · by_cases z : lk t n (fac (q + 1)).2 = 42
          · rw [z]; unfold isDig; omega
          · rw [if_neg z] at hdg
            exact hdg
        · rw [hfr.2.2, hfr.1, if_pos rfl] at hp
          unfold OutP at ho
          rw [mbind_inr hm] at ho
          refine ho.1 l1 (1, -1) ?_ w' (by rw [mwr1, mbl1]; exact hw')
          refine mbind_inl (l1 := l1) ?_
          unfold mbd
          rw [if_pos (by omega)]
          rfl
        · have hr := gd_val (hG (q + 1) (by omega) (by omega) hf) hE hw.2.2.2.2.2 hm
          have e137 : fr' 137 = v * r.1 := by
            rw [hg.2.2.1, hfr.2.1, if_neg (by decide), hfr.2.2, hfr.1, if_pos rfl]
          rw [e137] at hp
          have ho2 : OutP w0 c B δ fr KV (evPrdL t n evf (i + 1) (v * r.1) r.2 env l1) := by
            unfold OutP at ho ⊢
            rw [mbind_inr hm] at ho
            have hb2 : mbd (v * r.1) env l1 = (l1, .inr (v * r.1)) := by
              unfold mbd
              rw [if_neg (by omega)]
              rfl
            rw [mbind_inr hb2] at ho
            exact ho
          have r2 := hr.1.2
          rw [← r2] at h hdg hb ha
          refine ih (v * r.1) r.2 l1 w' fr' (by omega) (by omega) (by omega) (by omega) hp ⟨hg.1, hg.2.1, e137⟩ h hdg hw' ⟨ho2.1, fun l2 z hz fr2 w2 hf2 => ho2.2 l2 z hz fr2 w2 ⟨hf2.1, hf2.2.1, hf2.2.2.1, fun a q1 q2 q3 => by rw [hf2.2.2.2 a q1 q2 q3]; exact hg.2.2.2 a q1 q2 q3⟩⟩
      · rw [if_neg hf] at h
        cases h
    · unfold evPrdL at ho
      rw [if_neg q42] at ho
      exact ho.2 l (v, q) rfl fr w ⟨hfr.1, hfr.2.1, hfr.2.2, fun a _ _ _ => rfl⟩ hv hw
theorem ms_prd (hM : MSt w0 c t n env) (hF : MsF w0 c t n env KV fac evf) (hG : GF t n fac evf) (hB : Bd n fac) (hA : Adv n fac) : MsP w0 c t n env KV (ckPrd t n fac 30) (evPrd t n evf) := by
  have hn := hM.2.2.1
  have hE := hM.2.2.2.2.1
  intro p l w B δ is fr h0 h1 hδ hδp h hdg his h135 h136 hw ho
  unfold ckPrd at h hdg
  by_cases hf : (fac p).1 = true
  · rw [if_pos hf] at h hdg
    have hb := hB p h0 h1
    have ha := hA p h0 h1 hf
    unfold evPrd at ho
    refine hF p l w B δ is fr h0 h1 hδ hδp hf ?_ his (Or.inl h135) (fun z => absurd h136 z) hw ⟨fun l1 x hm w' hw' => ho.1.inl hm hw', fun l1 r hm => ⟨fun z => absurd h136 z, fun fr' w' hg hp hw' => ?_⟩⟩
    · by_cases z : lk t n (fac p).2 = 42
      · rw [z]; unfold isDig; omega
      · rw [if_neg z] at hdg
        exact hdg
    · have hr := gd_val (hG p h0 h1 hf) hE hw.2.2.2.2.2 hm
      have e137 : fr' 137 = r.1 := by
        rw [hg.2.2.1, if_pos h136, h135, if_pos rfl, Int.one_mul]
      have ho2 : OutP w0 c B δ fr KV (evPrdL t n evf 30 r.1 r.2 env l1) := by
        unfold OutP at ho ⊢
        rw [mbind_inr hm] at ho
        exact ho
      have r2 := hr.1.2
      rw [← r2] at h hdg hb ha
      exact ms_prdL hM hF hG hB hA hδ 29 r.1 r.2 l1 w' fr' (by omega) (by omega) (by omega) (by omega) hr.1.1 ⟨hg.1, hg.2.1, e137⟩ h hdg hw' ⟨ho2.1, fun l2 z hz fr2 w2 hf2 => ho2.2 l2 z hz fr2 w2 ⟨hf2.1, hf2.2.1, hf2.2.2.1, fun a q1 q2 q3 => by rw [hf2.2.2.2 a q1 q2 q3]; exact hg.2.2.2 a q1 q2 q3⟩⟩
  · rw [if_neg hf] at h
    cases h
theorem ms_frmL (hM : MSt w0 c t n env) (hP : MsP w0 c t n env KV (ckPrd t n fac 30) (evPrd t n evf)) (hG : GF t n fac evf) (hB : Bd n fac) (hA : Adv n fac) {δ : Int} {B : Wd} (hδ : 0 ≤ δ) (i : Nat) : ∀ (q : Int) (l : List Int) (w : Wd) (fr : Int → Int), lk t n q ≠ 42 → 0 ≤ q → q ≤ n → n ≤ q + 2 * i → δ ≤ q → PV (fr 137) → PV (fr 138) → (fr 139 = 0 ∨ fr 139 = 1 ∨ fr 139 = -1) → fr 135 = 0 → (if lk t n q = 43 ∨ lk t n q = 45 then ckFrm t n fac i (q + 1) else (true, q)).1 = true → ¬ isDig (lk t n (if lk t n q = 43 ∨ lk t n q = 45 then ckFrm t n fac i (q + 1) else (true, q)).2) → MF w0 c B l q δ 0 0 0 0 fr w → OutS w0 c B δ fr KV (mbind (fold (fr 139) (fr 138) (fr 137)) (fun v => evFrmL t n evf (i + 1) v q) env l) → LL c KV w := by
  have hn := hM.2.2.1
  have hE := hM.2.2.2.2.1
  induction i with
  | zero =>
    intro q l w fr h42 h0 h1 h2 h3 h137 h138 h139 h135 h hdg hw ho
    have hno : ¬ (lk t n q = 43 ∨ lk t n q = 45) := fun z => by have := lk_pos (t := t) (n := n) (p := q) (by omega); omega
    have e0 := hr_lk (t := t) (n := n) h0
    refine LL.clo hw ⟨29, by decide, e_X9_closes (mf_sign hM (by decide) hw h0 ⟨fun _ => mf_folds (env := env) (by decide) (by omega) hw h137 h138 h139 (fun hm w2 fr2 h2 => ?_) (fun v w2 hm hv h2 => ?_), fun z => by omega⟩)⟩
    · exact ⟨fun z => by have := h2.2.1.2.2.2.2.1; omega, fun _ => LL.fin h2.fin (by decide) (ho.1.inl hm h2.fin)⟩
    · refine ⟨fun _ => ⟨fun z => by omega, fun _ => ⟨fun _ => ?_, fun z => by omega⟩⟩, fun z => by have := h2.2.1.2.2.2.2.1; omega⟩
      rw [h2.2.1.2.1]
      refine ⟨by omega, by omega, ?_⟩
      unfold OutS at ho
      rw [mbind_inr hm] at ho
      unfold evFrmL at ho
      rw [if_neg (by omega), if_neg (by omega)] at ho
      have := ho.2 l (v, q) rfl _ w2 (by rw [fu_ne (by decide), fu_same]) hv (fun a ha => by rw [fu_ne (by omega), fu_ne (by omega)]) h2
      unfold SW at this
      rw [h2.2.1.2.1] at this
      exact this
  | succ i ih =>
    intro q l w fr h42 h0 h1 h2 h3 h137 h138 h139 h135 h hdg hw ho
    have e0 := hr_lk (t := t) (n := n) h0
    refine LL.clo hw ⟨29, by decide, e_X9_closes (mf_sign hM (by decide) hw h0 ⟨fun _ => mf_folds (env := env) (by decide) (by omega) hw h137 h138 h139 (fun hm w2 fr2 h2 => ?_) (fun v w2 hm hv h2 => ?_), fun z => by omega⟩)⟩
    · exact ⟨fun z => by have := h2.2.1.2.2.2.2.1; omega, fun _ => LL.fin h2.fin (by decide) (ho.1.inl hm h2.fin)⟩
    · unfold OutS at ho
      rw [mbind_inr hm] at ho
      by_cases q4 : lk t n q = 43 ∨ lk t n q = 45
      · have hl := lk_pos (t := t) (n := n) (p := q) (by omega)
        rw [if_pos q4] at h hdg
        unfold ckFrm at h hdg
        by_cases hf : (ckPrd t n fac 30 (q + 1)).1 = true
        · rw [if_pos hf] at h hdg
          have hb := ckPrd_bd (t := t) hB 30 (q + 1) (by omega) (by omega)
          have ha := ckPrd_adv (t := t) hB hA hn.2 30 (q + 1) (by omega) (by omega) (by omega) hf
          have hgp := gd_prd hn hG hB hA (q + 1) (by omega) (by omega) hf
          -- the sign is taken, the next product begins
          have go : ∀ s : Int, s = 1 ∨ s = -1 → OutS w0 c B δ fr KV (mbind (evPrd t n evf (q + 1)) (fun r => mbind (fold s v r.1) (fun x => evFrmL t n evf (i + 1) x r.2)) env l) → (0 ≤ δ ∧ δ < 40) ∧ (∀ w6, w6 = wset w2 139 δ s → (-2147483648 ≤ ((w6 115 24) + 1) ∧ ((w6 115 24) + 1) ≤ 2147483647) ∧ (∀ w7, w7 = wset w6 115 24 ((w6 115 24) + 1) → (∀ w8, w8 = wset w7 115 26 1 → LL c KV w8))) := by
            intro s hs ho
            refine ⟨by omega, ?_⟩
            rintro w6 rfl
            have h6 := h2.sfr (a := 139) (by decide) s
            rw [h6.2.1.1]
            refine ⟨by omega, ?_⟩
            rintro w7 rfl w8 rfl
            refine hP (q + 1) l _ B δ 0 _ (by omega) (by omega) hδ (by omega) hf ?_ (fun z => absurd rfl z) ?_ ?_ ((h6.sp (q + 1)).swa 1) ⟨fun l1 x hm w' hw' => ho.1.inl hm hw', fun l1 r hm fr' w' hf' hp hw' => ?_⟩
            · by_cases z : lk t n (ckPrd t n fac 30 (q + 1)).2 = 43 ∨ lk t n (ckPrd t n fac 30 (q + 1)).2 = 45
              · unfold isDig; omega
              · rw [if_neg z] at hdg
                exact hdg
            · rw [fu_ne (by decide), fu_ne (by decide), fu_ne (by decide)]
              exact h135
            · rw [fu_ne (by decide), fu_same]
            · have hr := gd_val hgp hE hw.2.2.2.2.2 hm
              have r2 := hr.1.2
              rw [← r2] at h hdg hb ha
              have e138 : fr' 138 = v := by
                rw [hf'.2.2.2 138 (by decide) (by decide) (by decide), fu_ne (by decide), fu_ne (by decide), fu_same]
              have e139 : fr' 139 = s := by
                rw [hf'.2.2.2 139 (by decide) (by decide) (by decide), fu_same]
              have ho2 : OutS w0 c B δ fr KV (mbind (fold (fr' 139) (fr' 138) (fr' 137)) (fun v => evFrmL t n evf (i + 1) v r.2) env l1) := by
                unfold OutS at ho ⊢
                rw [mbind_inr hm] at ho
                rw [e139, e138, hf'.2.2.1]
                exact ho
              have hn42 : lk t n r.2 ≠ 42 := by
                rw [r2]
                exact ckPrd_42 hn hB hA (q + 1) (by omega) (by omega) hf
              refine ih r.2 l1 w' fr' hn42 (by omega) (by omega) (by omega) (by omega) (by rw [hf'.2.2.1]; exact hp) (by rw [e138]; exact hv) (by rw [e139]; omega) hf'.1 h hdg hw' ⟨ho2.1, fun l2 z hz fr2 w2 q1 q2 q3 => ho2.2 l2 z hz fr2 w2 q1 q2 (fun a ha => by rw [q3 a ha, hf'.2.2.2 a (by omega) (by omega) (by omega), fu_ne (by omega), fu_ne (by omega), fu_ne (by omega)])⟩
          unfold evFrmL at ho
          rw [h2.2.1.2.1]
          refine ⟨fun _ => ⟨fun q3 => ⟨fun z => by omega, fun _ => ?_⟩, fun q3 => ⟨fun z => by omega, fun q5 => ⟨fun _ => ?_, fun z => by omega⟩⟩⟩, fun z => by have := h2.2.1.2.2.2.2.1; omega⟩
          · rw [if_pos (by omega)] at ho
            refine go 1 (Or.inl rfl) ?_
            simp only [fold_p]
            exact ho
          · rw [if_neg (by omega), if_pos (by omega)] at ho
            refine go (-1) (Or.inr rfl) ?_
            simp only [fold_m]
            exact ho
        · rw [if_neg hf] at h
          cases h
      · refine ⟨fun _ => ⟨fun z => by omega, fun _ => ⟨fun _ => ?_, fun z => by omega⟩⟩, fun z => by have := h2.2.1.2.2.2.2.1; omega⟩
        rw [h2.2.1.2.1]
        refine ⟨by omega, by omega, ?_⟩
        unfold evFrmL at ho
        rw [if_neg (by omega), if_neg (by omega)] at ho
        have := ho.2 l (v, q) rfl _ w2 (by rw [fu_ne (by decide), fu_same]) hv (fun a ha => by rw [fu_ne (by omega), fu_ne (by omega)]) h2
        unfold SW at this
        rw [h2.2.1.2.1] at this
        exact this
theorem ms_frm (hM : MSt w0 c t n env) (hF : MsF w0 c t n env KV fac evf) (hG : GF t n fac evf) (hB : Bd n fac) (hA : Adv n fac) : MsS w0 c t n env KV (ckFrm t n fac 30) (evFrm t n evf) := by
  have hn := hM.2.2.1
  have hE := hM.2.2.2.2.1
  have hP := ms_prd hM hF hG hB hA
  intro p l w B δ is fr h0 h1 hδ hδp h hdg his h135 h136 h138 h139 hw ho
  unfold ckFrm at h hdg
  by_cases hf : (ckPrd t n fac 30 p).1 = true
  · rw [if_pos hf] at h hdg
    have hb := ckPrd_bd (t := t) hB 30 p (by omega) (by omega)
    have ha := ckPrd_adv (t := t) hB hA hn.2 30 p (by omega) (by omega) (by omega) hf
    have hgp := gd_prd hn hG hB hA p (by omega) (by omega) hf
    unfold evFrm at ho
    refine hP p l w B δ is fr h0 h1 hδ hδp hf ?_ his h135 h136 hw ⟨fun l1 x hm w' hw' => ho.1.inl hm hw', fun l1 r hm fr' w' hf' hp hw' => ?_⟩
    · by_cases z : lk t n (ckPrd t n fac 30 p).2 = 43 ∨ lk t n (ckPrd t n fac 30 p).2 = 45
      · unfold isDig; omega
      · rw [if_neg z] at hdg
        exact hdg
    · have hr := gd_val hgp hE hw.2.2.2.2.2 hm
      have r2 := hr.1.2
      rw [← r2] at h hdg hb ha
      have e138 : fr' 138 = 0 := by
        rw [hf'.2.2.2 138 (by decide) (by decide) (by decide), h138]
      have e139 : fr' 139 = 0 := by
        rw [hf'.2.2.2 139 (by decide) (by decide) (by decide), h139]
      have ho2 : OutS w0 c B δ fr KV (mbind (fold (fr' 139) (fr' 138) (fr' 137)) (fun v => evFrmL t n evf 30 v r.2) env l1) := by
        unfold OutS at ho ⊢
        rw [mbind_inr hm] at ho
        rw [e139, hf'.2.2.1]
        exact ho
      have hn42 : lk t n r.2 ≠ 42 := by
        rw [r2]
        exact ckPrd_42 hn hB hA p (by omega) (by omega) hf
      refine ms_frmL hM hP hG hB hA hδ 29 r.2 l1 w' fr' hn42 (by omega) (by omega) (by omega) (by omega) (by rw [hf'.2.2.1]; exact hp) (by rw [e138]; exact ⟨by decide, by decide⟩) (by rw [e139]; omega) hf'.1 h hdg hw' ⟨ho2.1, fun l2 z hz fr2 w2 q1 q2 q3 => ho2.2 l2 z hz fr2 w2 q1 q2 (fun a ha => by rw [q3 a ha, hf'.2.2.2 a (by omega) (by omega) (by omega)])⟩
  · rw [if_neg hf] at h
    cases h
end MIS
