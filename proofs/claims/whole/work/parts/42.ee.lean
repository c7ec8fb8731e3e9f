/-! ===== THE EVALUATOR of the class: the world while it works on one cell ===== -/
def EvSt (w0 : Wd) (st tg : Int) (t : Int → Int) (n : Int) (env : Env') : Prop := am_St st ∧ (0 ≤ tg ∧ tg < 72) ∧ w0 109 4 = st ∧ w0 109 5 = tg ∧ (CurT w0 110 t n ∧ w0 110 0 = st + 2) ∧ OkE env ∧ (∀ c, 0 ≤ c → c < 72 → (w0 112 c = 0 ↔ (env c).1.1 = 0) ∧ w0 (st + 7) c = (env c).1.2 ∧ w0 (st + 8) c = (env c).2.1 ∧ (w0 (st + 3) c = 0 ↔ (env c).2.2 = 0))
def EvOff (st tg c i : Int) : Prop := ¬ (c = 109 ∧ (i = 6 ∨ i = 7)) ∧ ¬ (c = 110 ∧ i = 3) ∧ c ≠ 113 ∧ ¬ (c = st + 11 ∧ i = tg) ∧ ¬ (c = st + 12 ∧ tg * 72 ≤ i ∧ i < tg * 72 + 72)
def EVS (w0 : Wd) (st tg : Int) (l : List Int) (p e b : Int) (w : Wd) : Prop :=
  (∀ c i, EvOff st tg c i → w c i = w0 c i) ∧ (w 110 3 = p ∧ w 109 6 = e ∧ w 109 7 = b) ∧ w (st + 11) tg = l.length ∧ (∀ j : Nat, j < l.length → w (st + 12) (tg * 72 + j) = l.getD j 0) ∧ (∀ c, 0 ≤ c → c < 72 → (w 113 c = w0 109 3 ↔ c ∈ l)) ∧ OkL l ∧ (∀ c, 0 ≤ c → c < 72 → w 113 c = w0 113 c ∨ w 113 c = w0 109 3)
theorem wset_at {w : Wd} {a j x c i : Int} (h : ¬ (c = a ∧ i = j)) : wset w a j x c i = w c i := if_neg h
theorem wset_eq {w : Wd} {a j x : Int} : wset w a j x a j = x := if_pos ⟨rfl, rfl⟩
theorem am_St_rng {s : Int} (h : am_St s) : 6 ≤ s ∧ s ≤ 88 := by unfold am_St at h; omega
theorem nodup_len (N : Nat) : ∀ l : List Int, l.Nodup → (∀ c, c ∈ l → 0 ≤ c ∧ c < N) → l.length ≤ N := by
  induction N with
  | zero =>
    intro l h hl
    cases l with
    | nil => exact Nat.le_refl 0
    | cons a l => have := hl a List.mem_cons_self; omega
  | succ N ih =>
    intro l h hl
    by_cases q : (N : Int) ∈ l
    · have h1 := List.length_erase_of_mem q
      have h2 := ih (l.erase (N : Int)) (h.erase _) (fun c hc => by
        have h3 := (List.Nodup.mem_erase_iff h).mp hc
        have h4 := hl c h3.2
        have h5 := h3.1
        omega)
      omega
    · have := ih l h (fun c hc => by
        have h4 := hl c hc
        have h5 : c ≠ (N : Int) := fun e => q (e ▸ hc)
        omega)
      omega
section EE
variable {w0 w : Wd} {st tg n p e b : Int} {t : Int → Int} {env : Env'} {l : List Int} {d : Nat} {K : Int → Wd → Prop} {KV : Wd → Prop}
theorem EVS.at4 (hS : EvSt w0 st tg t n env) (h : EVS w0 st tg l p e b w) : w 109 4 = st := by
  rw [h.1 109 4 (by have := am_St_rng hS.1; unfold EvOff; omega)]; exact hS.2.2.1
theorem EVS.at5 (hS : EvSt w0 st tg t n env) (h : EVS w0 st tg l p e b w) : w 109 5 = tg := by
  rw [h.1 109 5 (by have := am_St_rng hS.1; unfold EvOff; omega)]; exact hS.2.2.2.1
theorem EVS.at3 (hS : EvSt w0 st tg t n env) (h : EVS w0 st tg l p e b w) : w 109 3 = w0 109 3 := by
  rw [h.1 109 3 (by have := am_St_rng hS.1; unfold EvOff; omega)]
theorem EVS.mark (hS : EvSt w0 st tg t n env) (h : EVS w0 st tg l p e b w) {c : Int} (hc : 0 ≤ c ∧ c < 72) : (w 112 c = 0 ↔ (env c).1.1 = 0) := by
  rw [h.1 112 c (by have := am_St_rng hS.1; unfold EvOff; omega)]; exact (hS.2.2.2.2.2.2 c hc.1 hc.2).1
theorem EVS.val (hS : EvSt w0 st tg t n env) (h : EVS w0 st tg l p e b w) {c : Int} (hc : 0 ≤ c ∧ c < 72) : w (st + 7) c = (env c).1.2 := by
  rw [h.1 (st + 7) c (by have := am_St_rng hS.1; unfold EvOff; omega)]; exact (hS.2.2.2.2.2.2 c hc.1 hc.2).2.1
theorem EVS.er (hS : EvSt w0 st tg t n env) (h : EVS w0 st tg l p e b w) {c : Int} (hc : 0 ≤ c ∧ c < 72) : w (st + 8) c = (env c).2.1 := by
  rw [h.1 (st + 8) c (by have := am_St_rng hS.1; unfold EvOff; omega)]; exact (hS.2.2.2.2.2.2 c hc.1 hc.2).2.2.1
theorem EVS.len (hS : EvSt w0 st tg t n env) (h : EVS w0 st tg l p e b w) {c : Int} (hc : 0 ≤ c ∧ c < 72) : w (st + 3) c = 0 ↔ (env c).2.2 = 0 := by
  rw [h.1 (st + 3) c (by have := am_St_rng hS.1; unfold EvOff; omega)]; exact (hS.2.2.2.2.2.2 c hc.1 hc.2).2.2.2
theorem EVS.cur (hS : EvSt w0 st tg t n env) (h : EVS w0 st tg l p e b w) : CurT w 110 t n := by
  obtain ⟨s1, s2, s3, s4, ⟨⟨c1, c2, c3, N, c4, c5, c6, c7, c8⟩, s6⟩, _⟩ := hS
  have hr := am_St_rng s1
  have e0 : w 110 0 = w0 110 0 := h.1 110 0 (by unfold EvOff; omega)
  have e1 : w 110 1 = w0 110 1 := h.1 110 1 (by unfold EvOff; omega)
  have e2 : w 110 2 = w0 110 2 := h.1 110 2 (by unfold EvOff; omega)
  refine ⟨c1, c2, by rw [e2]; exact c3, N, by rw [e0]; exact c4, c5, by rw [e1]; exact c6, by rw [e1]; exact c7, fun i hi hn => ?_⟩
  rw [e0, e1, h.1 (w0 110 0) _ (by rw [s6]; unfold EvOff; omega)]
  exact c8 i hi hn
theorem EVS.pos (h : EVS w0 st tg l p e b w) (hs : am_St st) {q : Int} : EVS w0 st tg l q e b (wset w 110 3 q) := by
  obtain ⟨h1, ⟨h2, h3, h4⟩, h5, h6, h7, h8⟩ := h
  have hr := am_St_rng hs
  refine ⟨fun c i hc => ?_, ⟨wset_eq, by rw [wset_at (by omega)]; exact h3, by rw [wset_at (by omega)]; exact h4⟩, by rw [wset_at (by omega)]; exact h5, fun j hj => by rw [wset_at (by omega)]; exact h6 j hj, fun c h0 hc => by rw [wset_at (by omega)]; exact h7 c h0 hc, h8.1, fun c h0 hc => by rw [wset_at (by omega)]; exact h8.2 c h0 hc⟩
  rw [wset_at hc.2.1]
  exact h1 c i hc
theorem EVS.err (h : EVS w0 st tg l p e b w) (hs : am_St st) {q : Int} : EVS w0 st tg l p q b (wset w 109 6 q) := by
  obtain ⟨h1, ⟨h2, h3, h4⟩, h5, h6, h7, h8⟩ := h
  have hr := am_St_rng hs
  refine ⟨fun c i hc => ?_, ⟨by rw [wset_at (by omega)]; exact h2, wset_eq, by rw [wset_at (by omega)]; exact h4⟩, by rw [wset_at (by omega)]; exact h5, fun j hj => by rw [wset_at (by omega)]; exact h6 j hj, fun c h0 hc => by rw [wset_at (by omega)]; exact h7 c h0 hc, h8.1, fun c h0 hc => by rw [wset_at (by omega)]; exact h8.2 c h0 hc⟩
  rw [wset_at (fun q => hc.1 ⟨q.1, Or.inl q.2⟩)]
  exact h1 c i hc
theorem EVS.blk (h : EVS w0 st tg l p e b w) (hs : am_St st) {q : Int} : EVS w0 st tg l p e q (wset w 109 7 q) := by
  obtain ⟨h1, ⟨h2, h3, h4⟩, h5, h6, h7, h8⟩ := h
  have hr := am_St_rng hs
  refine ⟨fun c i hc => ?_, ⟨by rw [wset_at (by omega)]; exact h2, by rw [wset_at (by omega)]; exact h3, wset_eq⟩, by rw [wset_at (by omega)]; exact h5, fun j hj => by rw [wset_at (by omega)]; exact h6 j hj, fun c h0 hc => by rw [wset_at (by omega)]; exact h7 c h0 hc, h8.1, fun c h0 hc => by rw [wset_at (by omega)]; exact h8.2 c h0 hc⟩
  rw [wset_at (fun q => hc.1 ⟨q.1, Or.inr q.2⟩)]
  exact h1 c i hc
/-- one more cell that is read -/
theorem EVS.add (hS : EvSt w0 st tg t n env) (h : EVS w0 st tg l p e b w) {c : Int} (hc : 0 ≤ c ∧ c < 72) (hl : ¬ c ∈ l) : EVS w0 st tg (addr l c) p e b (wset (wset (wset w 113 c (w0 109 3)) (st + 12) (tg * 72 + l.length) c) (st + 11) tg (l.length + 1)) := by
  obtain ⟨h1, ⟨h2, h3, h4⟩, h5, h6, h7, h8⟩ := h
  have hr := am_St_rng hS.1
  have hk := addr_ok h8.1 hc
  have hlen := nodup_len 72 _ hk.1 hk.2
  have ea : addr l c = l ++ [c] := if_neg hl
  rw [ea] at hk hlen ⊢
  rw [List.length_append, List.length_singleton] at hlen
  refine ⟨fun a i ha => ?_, ⟨?_, ?_, ?_⟩, ?_, fun j hj => ?_, fun a h0 ha => ?_, hk, fun a h0 ha => ?_⟩
  · rw [wset_at ha.2.2.2.1, wset_at (fun q => ha.2.2.2.2 ⟨q.1, by omega⟩), wset_at (fun q => ha.2.2.1 q.1)]
    exact h1 a i ha
  · rw [wset_at (by omega), wset_at (by omega), wset_at (by omega)]; exact h2
  · rw [wset_at (by omega), wset_at (by omega), wset_at (by omega)]; exact h3
  · rw [wset_at (by omega), wset_at (by omega), wset_at (by omega)]; exact h4
  · rw [wset_eq, List.length_append, List.length_singleton]; rfl
  · rw [wset_at (by omega)]
    rw [List.length_append, List.length_singleton] at hj
    by_cases q : j = l.length
    · rw [q, wset_eq, List.getD_eq_getElem?_getD, List.getElem?_append_right (Nat.le_refl _)]
      simp
    · rw [wset_at (by omega), wset_at (by omega), h6 j (by omega), List.getD_eq_getElem?_getD, List.getD_eq_getElem?_getD, List.getElem?_append_left (by omega)]
  · rw [wset_at (by omega), wset_at (by omega)]
    by_cases q : a = c
    · rw [q, wset_eq]
      simp
    · rw [wset_at (by omega), h7 a h0 ha]
      simp [q]
  · rw [wset_at (by omega), wset_at (by omega)]
    by_cases q : a = c
    · rw [q, wset_eq]
      exact Or.inr rfl
    · rw [wset_at (by omega)]
      exact h8.2 a h0 ha
theorem ee_look {a : Int} (hS : EvSt w0 st tg t n env) (hd : 1 ≤ d) (h : EVS w0 st tg l p e b w) (h0 : 0 ≤ p) (h1 : p ≤ 100000) (h2 : 0 ≤ a) (h3 : a ≤ 100) (k : K (lk t n (p + a)) w) : C_X2_look d [.inr (.inr 110), .inl a] w K := by
  have e1 : wpos w 110 p = w := by rw [← h.2.1.1]; exact wpos_self
  have := s_look hd (h.cur hS) h0 h1 h2 h3 (by rw [e1]; exact k)
  rw [e1] at this
  exact this
theorem ee_look0 (hS : EvSt w0 st tg t n env) (hd : 1 ≤ d) (h : EVS w0 st tg l p e b w) (h0 : 0 ≤ p) (h1 : p ≤ 100000) (k : K (lk t n p) w) : C_X2_look d [.inr (.inr 110), .inl 0] w K :=
  ee_look hS hd h h0 h1 (by decide) (by decide) (by rw [Int.add_zero]; exact k)
theorem ee_pass {a : Int} (hS : EvSt w0 st tg t n env) (hd : 2 ≤ d) (h : EVS w0 st tg l p e b w) (h0 : 0 ≤ p) (h1 : p ≤ 100000) (kt : lk t n p = a → ∀ w', EVS w0 st tg l (p + 1) e b w' → K 1 w') (kf : ¬ lk t n p = a → K 0 w) : C_X2_pass d [.inr (.inr 110), .inl a] w K := by
  have e1 : wpos w 110 p = w := by rw [← h.2.1.1]; exact wpos_self
  have := s_pass (a := a) (K := K) hd (h.cur hS) h0 h1 (fun q => kt q _ (h.pos hS.1)) (by rw [e1]; exact kf)
  rw [e1] at this
  exact this
theorem ee_atCell (hS : EvSt w0 st tg t n env) (hd : 2 ≤ d) (h : EVS w0 st tg l p e b w) (h0 : 0 ≤ p) (h1 : p ≤ 100000) (kt : isCol (lk t n p) ∧ isRow (lk t n (p + 1)) → K 1 w) (kf : ¬ (isCol (lk t n p) ∧ isRow (lk t n (p + 1))) → K 0 w) : C_X2_isAtCell d [.inr (.inr 110)] w K := by
  have e1 : wpos w 110 p = w := by rw [← h.2.1.1]; exact wpos_self
  have := s_atCell (K := K) hd (h.cur hS) h0 h1 (by rw [e1]; exact kt) (by rw [e1]; exact kf)
  rw [e1] at this
  exact this
theorem ee_match {j : Nat} (hS : EvSt w0 st tg t n env) (hd : 6 ≤ d) (h : EVS w0 st tg l p e b w) (h0 : 0 ≤ p) (h1 : p ≤ 90) (hj : j < 9) (k : K (ckMt t n (nmS j) p) w) : C_X2_matching d [.inr (.inr 110), .inr (.inr (-3 - (j : Int)))] w K := by
  have e1 : wpos w 110 p = w := by rw [← h.2.1.1]; exact wpos_self
  have := s_matching (K := K) hd (h.cur hS) h0 h1 hj (by rw [e1]; exact k)
  rw [e1] at this
  exact this
theorem ee_fail {x : Int} (hd : 1 ≤ d) (hs : am_St st) (h : EVS w0 st tg l p e b w) (k : ∀ w', EVS w0 st tg l p x b w' → K 0 w') : C_X3_fail d [.inr (.inr 109), .inl x] w K := by
  refine ⟨0, hd, e_X3_fail ?_⟩
  rintro w1 rfl
  exact k _ (h.err hs)
theorem ee_bd {v : Int} (hd : 1 ≤ d) (hs : am_St st) (h : EVS w0 st tg l p e b w) (k0 : e ≠ 0 → K 0 w) (k1 : e = 0 → (v < -1000000000 ∨ 1000000000 < v) → ∀ w', EVS w0 st tg l p 1 b w' → K 0 w') (k2 : e = 0 → ¬ (v < -1000000000 ∨ 1000000000 < v) → K v w) : C_X3_bounded d [.inr (.inr 109), .inr (.inl v)] w K := by
  refine ⟨0, hd, e_X3_bounded ?_⟩
  rw [h.2.1.2.1]
  refine ⟨fun q => ⟨fun q1 => ?_, fun q1 => ⟨fun q2 => k2 q (by omega), fun q2 => ?_⟩⟩, k0⟩
  · rintro w1 rfl
    exact k1 q (Or.inl q1) _ (h.err hs)
  · rintro w1 rfl
    exact k1 q (Or.inr (by omega)) _ (h.err hs)
theorem ee_passCell (hS : EvSt w0 st tg t n env) (hd : 2 ≤ d) (h : EVS w0 st tg l p e b w) (h0 : 0 ≤ p) (h1 : p ≤ 1000) (hc : isCol (lk t n p) ∧ isRow (lk t n (p + 1))) (k : ∀ w', EVS w0 st tg l (p + 2) e b w' → K (cellAt t n p) w') : C_X3_passCell d [.inr (.inr 109)] w K := by
  refine ⟨1, hd, e_X3_passCell (ee_look hS (by decide) h h0 (by omega) (by decide) (by decide) ⟨by omega, by omega, ee_look0 hS (by decide) h h0 (by omega) ⟨by omega, by omega, ?_⟩⟩)⟩
  rw [h.2.1.1]
  refine ⟨by omega, ?_⟩
  rintro w1 rfl
  exact k _ (h.pos hS.1)
theorem ee_num (hS : EvSt w0 st tg t n env) (hd : 2 ≤ d) (h : EVS w0 st tg l p e b w) (h0 : 0 ≤ p) (h1 : p ≤ 1000) (k : ∀ w', EVS w0 st tg l (evNum t n 6 p 0).2 e b w' → K (evNum t n 6 p 0).1 w') : C_X3_passNumber d [.inr (.inr 109)] w K := by
  refine ⟨1, hd, e_X3_passNumber ?_⟩
  have go : ∀ (f : Nat) (p v : Int) (w : Wd), f ≤ 6 → EVS w0 st tg l p e b w → 0 ≤ p → p + f ≤ 1006 → 0 ≤ v → (∃ M : Int, v + 1 ≤ M ∧ M * 10 ^ f ≤ 10 ^ 6) → (∀ w', EVS w0 st tg l (evNum t n f p v).2 e b w' → K (evNum t n f p v).1 w') → W_X3_passNumber 1 4 [some (.inr (.inr 109)), some (.inr (.inl v)), none, some (.inl (6 - (f : Int)))] [] w K := by
    intro f
    induction f with
    | zero =>
      intro p v w _ h h0 h1 _ _ k
      exact v_X3_passNumber_4 ⟨fun _ => k w h, fun q => by omega⟩
    | succ f ih =>
      intro p v w hf h h0 h1 hv hv2 k
      refine v_X3_passNumber_4 ⟨fun q => by omega, fun _ => ee_look0 hS (by decide) h h0 (by omega) (s_isDig (by decide) (fun hd => am_b1 ?_) (fun hd => am_b0 ?_))⟩
      · obtain ⟨M, hM1, hM2⟩ := hv2
        have hv3 : v ≤ 10 ^ 6 := by
          have h1 : (1 : Int) ≤ 10 ^ (f + 1) := by
            have : (0 : Int) < 10 ^ (f + 1) := Int.pow_pos (by decide)
            omega
          have := Int.mul_le_mul_of_nonneg_left h1 (show (0 : Int) ≤ M by omega)
          rw [Int.mul_one] at this
          omega
        refine ⟨by omega, ee_look0 hS (by decide) h h0 (by omega) ⟨by omega, by omega, ?_⟩⟩
        rw [h.2.1.1]
        refine ⟨by omega, ?_⟩
        rintro w4 rfl
        refine ⟨by omega, ?_⟩
        rw [show 6 - ((f + 1 : Nat) : Int) + 1 = 6 - (f : Int) by omega]
        unfold evNum at k
        rw [if_pos hd] at k
        refine ih (p + 1) (v * 10 + lk t n p - 48) _ (by omega) (h.pos hS.1) (by omega) (by omega) (by omega) ⟨M * 10, by omega, ?_⟩ k
        rw [Int.pow_succ, Int.mul_comm (10 ^ f) 10, ← Int.mul_assoc] at hM2
        exact hM2
      · unfold evNum at k
        rw [if_neg hd] at k
        exact k w h
  exact go 6 p 0 w (Nat.le_refl 6) h h0 (by omega) (by decide) ⟨1, by decide, by decide⟩ k
theorem skp_le (i : Nat) : ∀ o p : Int, p ≤ skp t n i o p ∧ skp t n i o p ≤ p + i := by
  induction i with
  | zero => intro o p; unfold skp; omega
  | succ i ih =>
    intro o p
    unfold skp
    have := ih (if lk t n p = 40 then o + 1 else if lk t n p = 41 then o - 1 else o) (p + 1)
    split
    · omega
    · omega
theorem skN_le (m : Nat) : ∀ p : Int, p ≤ skN t n m p ∧ skN t n m p ≤ p + 31 * m := by
  induction m with
  | zero => intro p; unfold skN; omega
  | succ m ih =>
    intro p
    unfold skN
    have h1 := skp_le (t := t) (n := n) 30 0 (p + 1)
    have h2 := ih (skp t n 30 0 (p + 1))
    split
    · omega
    · omega
theorem ee_skip (hS : EvSt w0 st tg t n env) (hd : 2 ≤ d) (h : EVS w0 st tg l p e b w) (h0 : 0 ≤ p) (h1 : p ≤ 90000) (k : ∀ w', EVS w0 st tg l (skp t n 30 0 p) e b w' → KV w') : C_X3_skipPart d [.inr (.inr 109)] w KV := by
  refine ⟨1, hd, e_X3_skipPart ?_⟩
  have go : ∀ (f : Nat) (o p : Int) (w : Wd), f ≤ 30 → EVS w0 st tg l p e b w → 0 ≤ p → p + f ≤ 90030 → ((f : Int) ≤ o + 30 ∧ o + (f : Int) ≤ 30) → (∀ w', EVS w0 st tg l (skp t n f o p) e b w' → KV w') → W_X3_skipPart 1 4 [some (.inr (.inr 109)), some (.inl o), some (.inl (30 - (f : Int))), none] [] w KV := by
    intro f
    induction f with
    | zero =>
      intro o p w _ h h0 h1 ho k
      exact v_X3_skipPart_4 ⟨fun _ => k w h, fun q => by omega⟩
    | succ f ih =>
      intro o p w hf h h0 h1 ho k
      unfold skp at k
      have stp : ∀ o' : Int, ((f : Int) ≤ o' + 30 ∧ o' + (f : Int) ≤ 30) → ¬ (o = 0 ∧ (lk t n p = 44 ∨ lk t n p = 41)) → (if lk t n p = 40 then o + 1 else if lk t n p = 41 then o - 1 else o) = o' → ((-2147483648 ≤ w 110 3 + 1 ∧ w 110 3 + 1 ≤ 2147483647) ∧ (∀ w2, w2 = wset w 110 3 (w 110 3 + 1) → (-2147483648 ≤ 30 - ((f + 1 : Nat) : Int) + 1 ∧ 30 - ((f + 1 : Nat) : Int) + 1 ≤ 2147483647) ∧ W_X3_skipPart 1 4 [some (.inr (.inr 109)), some (.inl o'), some (.inl (30 - ((f + 1 : Nat) : Int) + 1)), none] [] w2 KV)) := by
        intro o' ho' hne ho2
        rw [if_neg hne, ho2] at k
        rw [h.2.1.1]
        refine ⟨by omega, ?_⟩
        rintro w2 rfl
        refine ⟨by omega, ?_⟩
        rw [show 30 - ((f + 1 : Nat) : Int) + 1 = 30 - (f : Int) by omega]
        exact ih o' (p + 1) _ (by omega) (h.pos hS.1) (by omega) (by omega) ho' k
      refine v_X3_skipPart_4 ⟨fun q => by omega, fun _ => ee_look0 hS (by decide) h h0 (by omega) ⟨fun q0 => ⟨fun q1 => ⟨fun q2 => ?_, fun q2 => ⟨by omega, ?_⟩⟩, fun q1 => ⟨by omega, ?_⟩⟩, fun q0 => ⟨fun q1 => ?_, fun q1 => ⟨fun q2 => ⟨fun q3 => ⟨fun q4 => ?_, fun q4 => absurd q4 q2⟩, fun q3 => ⟨by omega, ?_⟩⟩, fun q2 => ?_⟩⟩⟩⟩
      · exact stp o (by omega) (by omega) (by rw [if_neg q1, if_neg q2])
      · exact stp (o + -1) (by omega) (by omega) (by rw [if_neg q1, if_pos q2]; omega)
      · exact stp (o + 1) (by omega) (by omega) (by rw [if_pos q1])
      · rw [if_pos ⟨q0, Or.inl q1⟩] at k
        exact k w h
      · exact stp o (by omega) (by omega) (by rw [if_neg q3, if_neg q4])
      · exact stp (o + 1) (by omega) (by omega) (by rw [if_pos q3])
      · rw [if_pos ⟨q0, Or.inr q2⟩] at k
        exact k w h
  exact go 30 0 p w (Nat.le_refl 30) h h0 (by omega) (by decide) k
theorem ee_read {c : Int} (hS : EvSt w0 st tg t n env) (hd : 2 ≤ d) (h : EVS w0 st tg l p 0 (-1) w) (hc : 0 ≤ c ∧ c < 72) (kerr : ∀ l1 x w' v, mread c env l = (l1, .inl x) → (1 ≤ x.1 ∧ x.1 ≤ 4) → EVS w0 st tg l1 p x.1 x.2 w' → PV v → K v w') (kok : ∀ l1 v w', mread c env l = (l1, .inr v) → PV v → EVS w0 st tg l1 p 0 (-1) w' → K v w') : C_X3_readCell d [.inr (.inr 109), .inl c] w K := by
  have hE := hS.2.2.2.2.2.1 c hc.1 hc.2
  have fin : ∀ w1, EVS w0 st tg (addr l c) p 0 (-1) w1 → (0 ≤ c ∧ c < 72) ∧ (((w1 112 c) = 0 → am_St (w1 109 4) ∧ (0 ≤ c ∧ c < 72) ∧ (∀ w2, w2 = wset w1 109 6 (w1 ((w1 109 4) + 8) c) → am_St (w2 109 4) ∧ (0 ≤ c ∧ c < 72) ∧ K (w2 ((w2 109 4) + 7) c) w2)) ∧ (¬ (w1 112 c) = 0 → (∀ w3, w3 = wset w1 109 7 c → C_X3_fail 1 [.inr (.inr 109), .inl 4] w3 (fun x2 w4 => K x2 w4)))) := by
    intro w1 h1
    rw [h1.at4 hS]
    refine ⟨hc, fun q0 => ⟨hS.1, hc, ?_⟩, fun q0 => ?_⟩
    · have q := (h1.mark hS hc).mp q0
      rintro w2 rfl
      have h2 := h1.err hS.1 (q := w1 (st + 8) c)
      rw [h2.at4 hS, h2.val hS hc]
      refine ⟨hS.1, hc, ?_⟩
      rw [h1.er hS hc] at h2 ⊢
      by_cases q2 : (env c).2.1 = 0
      · rw [q2] at h2 ⊢
        refine kok (addr l c) _ _ ?_ hE.1 h2
        unfold mread
        rw [if_pos q, if_pos q2]
      · refine kerr (addr l c) ((env c).2.1, -1) _ _ ?_ ⟨by dsimp only; omega, by dsimp only; omega⟩ h2 hE.1
        unfold mread
        rw [if_pos q, if_neg q2]
    · have q : ¬ (env c).1.1 = 0 := fun z => q0 ((h1.mark hS hc).mpr z)
      rintro w3 rfl
      refine ee_fail (by decide) hS.1 (h1.blk hS.1 (q := c)) (fun w' h' => kerr (addr l c) (4, c) w' 0 ?_ ⟨by dsimp only; omega, by dsimp only; omega⟩ h' ⟨by decide, by decide⟩)
      unfold mread
      rw [if_neg q]
  refine ⟨1, hd, e_X3_readCell (s_isCell (by decide) (fun _ => ⟨fun _ => ?_, fun q => absurd q (by decide)⟩) (fun q => absurd hc q))⟩
  refine ⟨hc, fun q => ?_, fun q => ?_⟩
  · rw [h.at3 hS] at q
    have hm := (h.2.2.2.2.1 c hc.1 hc.2).mp q
    have ea : addr l c = l := if_pos hm
    exact fin w (by rw [ea]; exact h)
  · rw [h.at3 hS] at q ⊢
    have hm : ¬ c ∈ l := fun z => q ((h.2.2.2.2.1 c hc.1 hc.2).mpr z)
    have hk := addr_ok h.2.2.2.2.2.1 hc
    have hlen := nodup_len 72 _ hk.1 hk.2
    have ea : addr l c = l ++ [c] := if_neg hm
    rw [ea, List.length_append, List.length_singleton] at hlen
    have hr := am_St_rng hS.1
    rw [h.at4 hS, h.at5 hS, h.2.2.1]
    refine ⟨hS.1, hS.2.1, fun z => by omega, fun _ => ⟨hc, ?_⟩⟩
    have ht := hS.2.1
    rintro w8 rfl
    have e4 : wset w 113 c (w0 109 3) 109 4 = st := by rw [wset_at (by omega)]; exact h.at4 hS
    have e5 : wset w 113 c (w0 109 3) 109 5 = tg := by rw [wset_at (by omega)]; exact h.at5 hS
    have e6 : wset w 113 c (w0 109 3) (st + 11) tg = l.length := by rw [wset_at (by omega)]; exact h.2.2.1
    rw [e4, e5, e6]
    refine ⟨hS.1, by omega, hS.1, ht, by omega, by omega, ?_⟩
    rintro w9 rfl
    have f4 : wset (wset w 113 c (w0 109 3)) (st + 12) (tg * 72 + l.length) c 109 4 = st := by rw [wset_at (by omega)]; exact e4
    have f5 : wset (wset w 113 c (w0 109 3)) (st + 12) (tg * 72 + l.length) c 109 5 = tg := by rw [wset_at (by omega)]; exact e5
    have f6 : wset (wset w 113 c (w0 109 3)) (st + 12) (tg * 72 + l.length) c (st + 11) tg = l.length := by rw [wset_at (by omega)]; exact e6
    rw [f4, f5, f6]
    refine ⟨hS.1, ht, by omega, ht, ?_⟩
    rintro w10 rfl
    exact fin _ (h.add hS hc hm)
theorem ee_isArea (hS : EvSt w0 st tg t n env) (hd : 3 ≤ d) (h : EVS w0 st tg l p e b w) (h0 : 0 ≤ p) (h1 : p ≤ 1000) (k : K (bi (evIsArea t n p)) w) : C_X3_isAtArea d [.inr (.inr 109)] w K := by
  unfold evIsArea at k
  have kt : ((isCol (lk t n p) ∧ isRow (lk t n (p + 1))) ∧ (lk t n (p + 2) = 58 ∨ lk t n (p + 2) = 44 ∨ lk t n (p + 2) = 41)) → K 1 w := fun q => by rw [decide_eq_true q] at k; exact k
  have kf : ¬ ((isCol (lk t n p) ∧ isRow (lk t n (p + 1))) ∧ (lk t n (p + 2) = 58 ∨ lk t n (p + 2) = 44 ∨ lk t n (p + 2) = 41)) → K 0 w := fun q => by rw [decide_eq_false q] at k; exact k
  refine ⟨2, hd, e_X3_isAtArea (ee_look hS (by decide) h h0 (by omega) (by decide) (by decide) (ee_atCell hS (by decide) h h0 (by omega) (fun q => am_b1 ?_) (fun q => am_b0 (kf (fun z => q z.1)))))⟩
  refine ⟨fun q1 => kt ⟨q, Or.inl q1⟩, fun q1 => ⟨fun q2 => kt ⟨q, Or.inr (Or.inl q2)⟩, fun q2 => ⟨fun q3 => kf (by omega), fun q3 => kt ⟨q, Or.inr (Or.inr q3)⟩⟩⟩⟩
/-- joining, with an error or without -/
theorem ee_join {f : Nat} {B s v : Int} (hd : 3 ≤ d) (hf : 5 ≤ f) (hs : am_St st) (h : EVS w0 st tg l p e b w) (hj : Jn f B s) (hB : 0 ≤ B ∧ B ≤ 100000) (hv : PV v) (k0 : e ≠ 0 → K 0 w) (kerr : ∀ l1 x w', e = 0 → mjoin f s v env l = (l1, .inl x) → EVS w0 st tg l1 p x.1 b w' → x.2 = -1 → K 0 w') (kok : ∀ l1 s', e = 0 → mjoin f s v env l = (l1, .inr s') → EVS w0 st tg l1 p 0 b w → K s' w) : C_X3_joined d [.inr (.inr 109), .inl (f : Int), .inr (.inl s), .inr (.inl v)] w K := by
  refine ⟨2, hd, e_X3_joined (by decide) ?_⟩
  rw [h.2.1.2.1]
  unfold mjoin at kerr kok
  have hjs : -2000000000 ≤ s ∧ s ≤ 1000000000 := by
    rcases hj with q | q
    · omega
    · omega
  refine ⟨fun q => ?_, k0⟩
  subst q
  refine ⟨fun q8 => ⟨fun q => ⟨fun q5 => ?_, fun q6 => ?_, fun q6 => ⟨by omega, ?_⟩⟩, fun q => ?_⟩, fun q8 => ⟨fun q => ⟨by omega, ?_⟩, fun q => ?_⟩⟩
  · rw [if_neg (by omega), if_neg q, if_pos (by omega)] at kok
    exact kok l _ rfl rfl h
  · rw [if_neg (by omega), if_neg q, if_neg (by omega), if_pos (by omega)] at kok
    exact kok l _ rfl rfl h
  · rw [if_neg (by omega), if_neg q, if_neg (by omega), if_neg (by omega)] at kok kerr
    unfold mbd at kok kerr
    refine ee_bd (by decide) hs h (fun z => absurd rfl z) (fun _ z w' h' => ?_) (fun _ z => ?_)
    · rw [if_pos z] at kerr
      exact kerr l (1, -1) w' rfl rfl h' rfl
    · rw [if_neg z] at kok
      exact kok l _ rfl rfl h
  · rw [if_neg (by omega), if_pos q] at kok
    exact kok l _ rfl rfl h
  · rw [if_pos (by omega), if_neg q] at kok
    exact kok l _ rfl rfl h
  · rw [if_pos (by omega), if_pos q] at kok
    exact kok l _ rfl rfl h
end EE
