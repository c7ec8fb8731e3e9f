section IXS
variable {w w0 w1 w' : Wd} {d : Nat} {K : Int → Wd → Prop} {K2 : Int → Int → Wd → Prop} {n N : Int} {A : AS} {F : Fs} {H : List Fs}
theorem s_sumFacts {a B : Int} {f : Int → Int} (hd : 3 ≤ d) (hB : 0 ≤ B ∧ B ≤ 20000000) (hf : ∀ c, rng c → (0 ≤ f c ∧ f c ≤ B) ∧ ∀ K' : Int → Wd → Prop, K' (f c) w → C_X5_fact 2 [.inr (.inr 6), .inl c, .inl a] w K') (k : K (sm 72 f) w) : C_X8_sumOfFacts d [.inr (.inr 1), .inl a] w K := by
  have bd : ∀ m : Nat, m ≤ 72 → 0 ≤ sm m f ∧ sm m f ≤ B * m := fun m hm => by
    have := sm_bd (f := f) (a := 0) (b := B) m (fun c c0 c1 => (hf c ⟨c0, by omega⟩).1)
    omega
  have loop : ∀ (j m : Nat), m + j = 72 → W_X8_sumOfFacts 2 4 [some (.inr (.inr 1)), some (.inl a), some (.inl (sm m f)), some (.inl (m : Int))] [] w K := by
    intro j
    induction j with
    | zero =>
      intro m hm
      have em : m = 72 := by omega
      subst em
      exact v_X8_sumOfFacts_4 ⟨fun _ => k, fun z => absurd (Int.le_refl 72) z⟩
    | succ j ih =>
      intro m hm
      have hr : rng (m : Int) := ⟨by omega, by omega⟩
      have b0 := bd m (by omega)
      have hfm := (hf m hr).1
      have hBm : B * m ≤ 20000000 * 72 := by
        have h1 : B * (m : Int) ≤ 20000000 * (m : Int) := Int.mul_le_mul_of_nonneg_right hB.2 (by omega)
        omega
      refine v_X8_sumOfFacts_4 ⟨fun z => by omega, fun _ => (hf m hr).2 _ ⟨by omega, by omega, ?_⟩⟩
      have := ih (m + 1) (by omega)
      rw [show ((m + 1 : Nat) : Int) = (m : Int) + 1 by omega, show sm (m + 1) f = sm m f + f m from rfl] at this
      exact this
  exact ⟨2, hd, e_X8_sumOfFacts (loop 72 0 (by decide))⟩
theorem m_inAll {a B : Int} {f : Int → Int} (hd : 1 ≤ d) (hB : 0 ≤ B ∧ B ≤ 20000000) (ha : 0 ≤ a ∧ a ≤ 2600) (hf : ∀ c, rng c → (0 ≤ f c ∧ f c ≤ B) ∧ w 116 (a + c) = f c) (k : K (sm 72 f) w) : C_X9_inAll d [.inr (.inr 115), .inl a] w K := by
  have bd : ∀ m : Nat, m ≤ 72 → 0 ≤ sm m f ∧ sm m f ≤ B * m := fun m hm => by
    have := sm_bd (f := f) (a := 0) (b := B) m (fun c c0 c1 => (hf c ⟨c0, by omega⟩).1)
    omega
  have loop : ∀ (j m : Nat), m + j = 72 → W_X9_inAll 0 4 [some (.inr (.inr 115)), some (.inl a), some (.inl (sm m f)), some (.inl (m : Int))] [] w K := by
    intro j
    induction j with
    | zero =>
      intro m hm
      have em : m = 72 := by omega
      subst em
      exact v_X9_inAll_4 ⟨fun _ => k, fun z => absurd (Int.le_refl 72) z⟩
    | succ j ih =>
      intro m hm
      have hr : rng (m : Int) := ⟨by omega, by omega⟩
      have b0 := bd m (by omega)
      have hfm := hf m hr
      have hBm : B * m ≤ 20000000 * 72 := by
        have h1 : B * (m : Int) ≤ 20000000 * (m : Int) := Int.mul_le_mul_of_nonneg_right hB.2 (by omega)
        omega
      refine v_X9_inAll_4 ⟨fun z => by omega, fun _ => ⟨by omega, by omega, ?_⟩⟩
      rw [hfm.2]
      refine ⟨by omega, by omega, ?_⟩
      have := ih (m + 1) (by omega)
      rw [show ((m + 1 : Nat) : Int) = (m : Int) + 1 by omega, show sm (m + 1) f = sm m f + f m from rfl] at this
      exact this
  exact ⟨0, hd, e_X9_inAll (loop 72 0 (by decide))⟩
theorem s_waitEd {s : Int} {wt : Int → Option (List Int)} (hd : 2 ≤ d) (hs : am_St s) (hw : CWt w s wt) (k : K (sm 72 (wtI wt)) w) : C_X5_waitingEdits d [.inr (.inr s)] w K := by
  have bd : ∀ m : Nat, 0 ≤ sm m (wtI wt) ∧ sm m (wtI wt) ≤ m := fun m => by
    have := sm_bd (f := wtI wt) (a := 0) (b := 1) m (fun c _ _ => by have := wtI_01 wt c; omega)
    omega
  have loop : ∀ (j m : Nat), m + j = 72 → W_X5_waitingEdits 1 4 [some (.inr (.inr s)), some (.inl (sm m (wtI wt))), some (.inl (m : Int))] [] w K := by
    intro j
    induction j with
    | zero =>
      intro m hm
      have em : m = 72 := by omega
      subst em
      exact v_X5_waitingEdits_4 hs ⟨fun _ => k, fun z => absurd (Int.le_refl 72) z⟩
    | succ j ih =>
      intro m hm
      have hr : rng (m : Int) := ⟨by omega, by omega⟩
      have b0 := bd m
      have := ih (m + 1) (by omega)
      rw [show ((m + 1 : Nat) : Int) = (m : Int) + 1 by omega, show sm (m + 1) (wtI wt) = sm m (wtI wt) + wtI wt m from rfl] at this
      have h01 := wtI_01 wt m
      refine v_X5_waitingEdits_4 hs ⟨fun z => by omega, fun _ => s_waits (by decide) hs hr hw ⟨fun z => ⟨by omega, ?_⟩, fun z => ⟨by omega, by omega, ?_⟩⟩⟩
      · rw [z, Int.add_zero] at this
        exact this
      · rw [h01.resolve_left z] at this
        exact this
  exact ⟨1, hd, e_X5_waitingEdits hs (loop 72 0 (by decide))⟩
/-- how many wait -/
def occ (f : Int → Int) : Nat → Int → Int
  | 0, _ => 0
  | n + 1, c => if f (2522 + 32 * (n : Int)) = c then 1 else occ f n c
theorem occ_in {f : Int → Int} (n : Nat) (c : Int) : (occ f n c = 0 ∧ ∀ s : Int, 0 ≤ s → s < n → f (2522 + 32 * s) ≠ c) ∨ (occ f n c = 1 ∧ ∃ s : Int, 0 ≤ s ∧ s < n ∧ f (2522 + 32 * s) = c) := by
  induction n with
  | zero => exact Or.inl ⟨rfl, fun s s0 s1 => by omega⟩
  | succ n ih =>
    unfold occ
    by_cases q : f (2522 + 32 * (n : Int)) = c
    · rw [if_pos q]
      exact Or.inr ⟨rfl, n, by omega, by omega, q⟩
    · rw [if_neg q]
      rcases ih with ⟨h1, h2⟩ | ⟨h1, s, s0, s1, s2⟩
      · refine Or.inl ⟨h1, fun s s0 s1 => ?_⟩
        by_cases z : s = n
        · rw [z]; exact q
        · exact h2 s s0 (by omega)
      · exact Or.inr ⟨h1, s, s0, by omega, s2⟩
theorem occ_sum {f : Int → Int} (n : Nat) (hr : ∀ s : Int, 0 ≤ s → s < n → rng (f (2522 + 32 * s))) (hd : ∀ s s' : Int, 0 ≤ s → s < s' → s' < n → f (2522 + 32 * s) ≠ f (2522 + 32 * s')) : sm 72 (occ f n) = n := by
  induction n with
  | zero =>
    have := sm_bd (f := occ f 0) (a := 0) (b := 0) 72 (fun c _ _ => ⟨Int.le_refl 0, Int.le_refl 0⟩)
    omega
  | succ n ih =>
    have h1 := ih (fun s s0 s1 => hr s s0 (by omega)) (fun s s' s0 s1 s2 => hd s s' s0 s1 (by omega))
    have hrn := hr n (by omega) (by omega)
    have h2 := sm_upd (f := occ f n) (g := occ f (n + 1)) (c := f (2522 + 32 * (n : Int))) 72 hrn.1 hrn.2 (fun x hx => if_neg (fun y => hx y.symm))
    have h3 : occ f (n + 1) (f (2522 + 32 * (n : Int))) = 1 := if_pos rfl
    have h4 : occ f n (f (2522 + 32 * (n : Int))) = 0 := by
      rcases occ_in (f := f) n (f (2522 + 32 * (n : Int))) with z | ⟨_, s, s0, s1, s2⟩
      · exact z.1
      · exact absurd s2 (hd s n s0 s1 (by omega))
    omega
theorem PgM.waits {f : Int → Int} {P : Pg} (h : PgM f P) : f 2521 = sm 72 (wtI P.2.1) := by
  obtain ⟨_, _, _, ⟨g0, g8⟩, g5, g6, g7⟩ := h
  have h1 := occ_sum (f := f) (f 2521).toNat (fun s s0 s1 => (g5 s s0 (by omega)).1) (fun s s' s0 s1 s2 => g6 s s' s0 s1 (by omega))
  have h2 : sm 72 (wtI P.2.1) = sm 72 (occ f (f 2521).toNat) := sm_cong 72 (fun c c0 c1 => by
    rcases occ_in (f := f) (f 2521).toNat c with ⟨z1, z2⟩ | ⟨z1, s, s0, s1, s2⟩
    · rw [z1]
      unfold wtI
      rcases hq : P.2.1 c with _ | L
      · rfl
      · obtain ⟨s, s0, s1, s2⟩ := g7 c ⟨c0, c1⟩ (by rw [hq]; exact fun y => by cases y)
        exact absurd s2 (z2 s s0 (by omega))
    · rw [z1]
      obtain ⟨_, L, q, _⟩ := g5 s s0 (by omega)
      rw [s2] at q
      unfold wtI
      rw [q])
  omega
theorem sm_neg {f : Int → Int} (n : Nat) : sm n (fun c => 1 - f c) = n - sm n f := by
  induction n with
  | zero => rfl
  | succ n ih =>
    unfold sm
    rw [ih]
    have e : (fun c => 1 - f c) (n : Int) = 1 - f n := rfl
    omega
def mxF (k h : Int → Int) : Nat → Int
  | 0 => 0
  | n + 1 => if k n = 1 then mxF k h n else max (mxF k h n) (h n)
theorem c_count {a : Int} (hd : 20 ≤ d) (hn : n ≤ 20000) (h : Inv n w) (k : ∀ x, K2 x x w) : C_X8_count d [.inr (.inr 1), .inl a] w (fun x w1 => C_X9_count d [.inr (.inr 115), .inl a] w1 (fun y w2 => K2 x y w2)) := by
  obtain ⟨h0, A, hW, hC, hM⟩ := h
  have h6 : am_St 6 := by unfold am_St; omega
  obtain ⟨p1, p2, p3, p4, p5, p6, p7, p8⟩ := hW.2.1
  -- the facts of a cell
  have cD := hC.2.1.2.2.2.2.1
  have cP := hC.2.1.2.2.2.1
  have mD := hM.2.2.2.1.1
  have mP := hM.2.1.2.1
  have fact : ∀ (b : Int) (f : Int → Int), (∀ c, rng c → ∀ K' : Int → Wd → Prop, K' (f c) w → ((b = 3 → C_X5_isEmpty 1 [.inr (.inr 6), .inl c] w (fun x1 w1 => ((x1 = 0 → K' 0 w1) ∧ (¬ x1 = 0 → K' 1 w1)))) ∧ (b = 4 → K' (w 19 c) w) ∧ (b = 5 → ((¬ (w 21 c) = (-1) → K' 1 w) ∧ ((w 21 c) = (-1) → K' 0 w))) ∧ (b = 6 → K' (w 20 c) w) ∧ (b = 7 → K' (w 16 c) w))) → 3 ≤ b → b ≤ 7 → ∀ c, rng c → ∀ K' : Int → Wd → Prop, K' (f c) w → C_X5_fact 2 [.inr (.inr 6), .inl c, .inl b] w K' := by
    intro b f hf b3 b7 c hc K' hk
    obtain ⟨f3, f4, f5, f6, f7⟩ := hf c hc K' hk
    exact ⟨1, by decide, e_X5_fact h6 ⟨fun z => by omega, fun z => by omega, fun z => by omega, f3, fun z => ⟨hc, f4 z⟩, fun z => ⟨hc, f5 z⟩, fun z => ⟨hc, f6 z⟩, fun z => ⟨hc, f7 z⟩, fun z => by omega⟩⟩
  -- what the reference answers
  have mm : ∀ (K' : Int → Wd → Prop), ((a = 0 → C_X9_formulas 19 [.inr (.inr 115)] w (fun x1 w1 => K' x1 w1)) ∧ ((a = 1 → K' (w 116 2521) w) ∧ ((a = 2 → C_X9_inAll 19 [.inr (.inr 115), .inl 2304] w (fun x2 w2 => K' x2 w2)) ∧ ((a = 3 → C_X9_inAll 19 [.inr (.inr 115), .inl 2376] w (fun x3 w3 => K' x3 w3)) ∧ ((a = 4 → K' (w 115 19) w) ∧ ((a = 5 → (((w 115 20) = 0 → K' 0 w) ∧ (¬ (w 115 20) = 0 → K' 1 w))) ∧ ((a = 6 → C_X9_cyclic 19 [.inr (.inr 115)] w (fun x4 w4 => K' x4 w4)) ∧ ((a = 7 → C_X9_errors 19 [.inr (.inr 115)] w (fun x5 w5 => K' x5 w5)) ∧ ((a = 8 → C_X9_highest 19 [.inr (.inr 115)] w (fun x6 w6 => K' x6 w6)) ∧ ((a = 9 → K' (w 116 2520) w) ∧ ((a = 10 → K' (w 115 2) w) ∧ ((a = 11 → K' (w 115 4) w) ∧ ((a = 12 → C_X9_inAll 19 [.inr (.inr 115), .inl 2232] w (fun x7 w7 => K' x7 w7)) ∧ (a < 0 ∨ 12 < a → K' (-2000000001) w)))))))))))))) → C_X9_count d [.inr (.inr 115), .inl a] w K' := fun K' hk => ⟨19, hd, e_X9_count hk⟩
  have em01 := emT_01 A.2.1.1.1
  have smb : ∀ (f : Int → Int), (∀ c, rng c → 0 ≤ f c ∧ f c ≤ 1) → ∀ m : Nat, m ≤ 72 → 0 ≤ sm m f ∧ sm m f ≤ m := fun f hf m hm => by
    have := sm_bd (f := f) (a := 0) (b := 1) m (fun c c0 c1 => hf c ⟨c0, by omega⟩)
    omega
  have ran01 : ∀ c : Int, 0 ≤ (if A.2.1.1.2.2.2.2.2 c = -1 then (0 : Int) else 1) ∧ (if A.2.1.1.2.2.2.2.2 c = -1 then (0 : Int) else 1) ≤ 1 := fun c => by split <;> omega
  have err01 : ∀ c : Int, 0 ≤ (if A.2.1.2.2.2.2.2.1 c = 0 then (0 : Int) else 1) ∧ (if A.2.1.2.2.2.2.2.1 c = 0 then (0 : Int) else 1) ≤ 1 := fun c => by split <;> omega
  have mxb : ∀ m : Nat, m ≤ 72 → 0 ≤ mxF A.2.1.2.1 A.2.1.2.2.1 m ∧ mxF A.2.1.2.1 A.2.1.2.2.1 m ≤ 71 := fun m => by
    induction m with
    | zero => intro _; exact ⟨Int.le_refl 0, by show (0 : Int) ≤ 71; decide⟩
    | succ m ih =>
      intro hm
      have := ih (by omega)
      have hb := (p8.1 m ⟨by omega, by omega⟩).2.2.2.1
      unfold mxF
      split
      · exact this
      · omega
  refine ⟨19, hd, e_X8_count ⟨fun z => ?_, fun z => ?_, fun z => ?_, fun z => ?_, fun z => ?_, fun z => ?_, fun z => ?_, fun z => ?_, fun z => ?_, fun z => ?_, fun z => ?_, fun z => ?_, fun z => ?_, fun z => ?_⟩⟩
  · refine s_sumFacts (f := fun c => 1 - emT A.2.1.1.1 c) (B := 1) (by decide) (by decide) (fun c hc => ⟨by have := em01 c; omega, fact 3 (fun c => 1 - emT A.2.1.1.1 c) (fun c hc K' hk => ⟨fun _ => s_empty (by decide) h6 hc hC.2.1.1 ?_, fun y => by omega, fun y => by omega, fun y => by omega, fun y => by omega⟩) (by decide) (by decide) c hc⟩) ?_
    · have hk' : K' (1 - emT A.2.1.1.1 c) w := hk
      rcases em01 c with y | y
      · rw [y] at hk' ⊢
        exact ⟨fun u => by omega, fun _ => hk'⟩
      · rw [y] at hk' ⊢
        exact ⟨fun _ => hk', fun u => absurd rfl u⟩
    · rw [sm_neg]
      have hb := smb (emT A.2.1.1.1) (fun c _ => by have := em01 c; omega) 72 (Nat.le_refl _)
      refine ⟨by omega, mm _ ⟨fun _ => ⟨18, by decide, e_X9_formulas ?_⟩, fun u => by omega, fun u => by omega, fun u => by omega, fun u => by omega, fun u => by omega, fun u => by omega, fun u => by omega, fun u => by omega, fun u => by omega, fun u => by omega, fun u => by omega, fun u => by omega, fun u => by omega⟩⟩
      have loop : ∀ (j m : Nat) (K' : Int → Wd → Prop), m + j = 72 → K' (sm 72 (emT A.2.1.1.1)) w → W_X9_formulas 18 4 [some (.inr (.inr 115)), some (.inl (sm m (emT A.2.1.1.1))), some (.inl (m : Int))] [] w K' := by
        intro j
        induction j with
        | zero =>
          intro m K' hm hk
          have em : m = 72 := by omega
          subst em
          exact v_X9_formulas_4 ⟨fun _ => hk, fun z => absurd (Int.le_refl 72) z⟩
        | succ j ih =>
          intro m K' hm hk
          have hr : rng (m : Int) := ⟨by omega, by omega⟩
          have b0 := smb (emT A.2.1.1.1) (fun c _ => by have := em01 c; omega) m (by omega)
          have := ih (m + 1) K' (by omega) hk
          rw [show ((m + 1 : Nat) : Int) = (m : Int) + 1 by omega, show sm (m + 1) (emT A.2.1.1.1) = sm m (emT A.2.1.1.1) + emT A.2.1.1.1 m from rfl] at this
          refine v_X9_formulas_4 ⟨fun z => by omega, fun _ => m_empty (by decide) hr hM.2.1.ml hM.2.2.2.2.1 ⟨fun z => ⟨by omega, by omega, ?_⟩, fun z => ⟨by omega, by omega, ?_⟩⟩⟩
          · rw [show emT A.2.1.1.1 m = 1 by omega] at this
            exact this
          · rw [show emT A.2.1.1.1 m = 0 by have := em01 m; omega] at this
            exact this
      refine loop 72 0 _ (by decide) ?_
      rw [show (72 : Int) - (((72 : Nat) : Int) - sm 72 (emT A.2.1.1.1)) = sm 72 (emT A.2.1.1.1) by omega]
      exact k _
  · refine s_waitEd (by decide) h6 hC.2.1.2.1 (mm _ ⟨fun u => by omega, fun _ => ?_, fun u => by omega, fun u => by omega, fun u => by omega, fun u => by omega, fun u => by omega, fun u => by omega, fun u => by omega, fun u => by omega, fun u => by omega, fun u => by omega, fun u => by omega, fun u => by omega⟩)
    rw [hM.2.1.waits]
    exact k _
  · refine s_sumFacts (f := fun c => if A.2.1.1.2.2.2.2.2 c = -1 then 0 else 1) (B := 1) (by decide) (by decide) (fun c hc => ⟨ran01 c, fact 5 (fun c => if A.2.1.1.2.2.2.2.2 c = -1 then 0 else 1) (fun c hc K' hk => ⟨fun y => by omega, fun y => by omega, fun _ => ?_, fun y => by omega, fun y => by omega⟩) (by decide) (by decide) c hc⟩) (mm _ ⟨fun u => by omega, fun u => by omega, fun _ => m_inAll (f := fun c => if A.2.1.1.2.2.2.2.2 c = -1 then 0 else 1) (B := 1) (by decide) (by decide) (by decide) (fun c hc => ⟨ran01 c, (mP c hc).2.1⟩) (k _), fun u => by omega, fun u => by omega, fun u => by omega, fun u => by omega, fun u => by omega, fun u => by omega, fun u => by omega, fun u => by omega, fun u => by omega, fun u => by omega, fun u => by omega⟩)
    have e : w 21 c = A.2.1.1.2.2.2.2.2 c := (cP c hc).2.2
    have hk' : K' (if A.2.1.1.2.2.2.2.2 c = -1 then 0 else 1) w := hk
    rw [e]
    exact ⟨fun y => by rw [if_neg y] at hk'; exact hk', fun y => by rw [if_pos y] at hk'; exact hk'⟩
  · have b01 : ∀ c, rng c → 0 ≤ A.2.1.1.2.2.2.2.1 c ∧ A.2.1.1.2.2.2.2.1 c ≤ 1 := fun c hc => by have := (p6 c hc).2.1; omega
    refine s_sumFacts (f := A.2.1.1.2.2.2.2.1) (B := 1) (by decide) (by decide) (fun c hc => ⟨b01 c hc, fact 6 _ (fun c hc K' hk => ⟨fun y => by omega, fun y => by omega, fun y => by omega, fun _ => ?_, fun y => by omega⟩) (by decide) (by decide) c hc⟩) (mm _ ⟨fun u => by omega, fun u => by omega, fun u => by omega, fun _ => m_inAll (f := A.2.1.1.2.2.2.2.1) (B := 1) (by decide) (by decide) (by decide) (fun c hc => ⟨b01 c hc, (mP c hc).2.2.1⟩) (k _), fun u => by omega, fun u => by omega, fun u => by omega, fun u => by omega, fun u => by omega, fun u => by omega, fun u => by omega, fun u => by omega, fun u => by omega, fun u => by omega⟩)
    have e : w 20 c = A.2.1.1.2.2.2.2.1 c := (cP c hc).2.1
    rw [e]; exact hk
  · have e1 : w 6 12 = A.2.1.2.2.2.1 := hC.2.1.2.2.2.2.2.1
    have e2 : w 115 19 = A.2.1.2.2.2.1 := hM.2.2.2.1.2.1
    rw [e1]
    refine mm _ ⟨fun u => by omega, fun u => by omega, fun u => by omega, fun u => by omega, fun _ => ?_, fun u => by omega, fun u => by omega, fun u => by omega, fun u => by omega, fun u => by omega, fun u => by omega, fun u => by omega, fun u => by omega, fun u => by omega⟩
    rw [e2]; exact k _
  · have e1 : w 6 13 = A.2.1.2.2.2.2.2.2.2 := hC.2.1.2.2.2.2.2.2
    have e2 : w 115 20 = A.2.1.2.2.2.2.2.2.2 := hM.2.2.2.1.2.2
    rw [e1]
    rw [e2] at mm
    refine ⟨fun y => mm _ ⟨fun u => by omega, fun u => by omega, fun u => by omega, fun u => by omega, fun u => by omega, fun _ => ⟨fun _ => k _, fun u => absurd y u⟩, fun u => by omega, fun u => by omega, fun u => by omega, fun u => by omega, fun u => by omega, fun u => by omega, fun u => by omega, fun u => by omega⟩, fun y => mm _ ⟨fun u => by omega, fun u => by omega, fun u => by omega, fun u => by omega, fun u => by omega, fun _ => ⟨fun u => absurd u y, fun _ => k _⟩, fun u => by omega, fun u => by omega, fun u => by omega, fun u => by omega, fun u => by omega, fun u => by omega, fun u => by omega, fun u => by omega⟩⟩
  · have b01 : ∀ c, rng c → 0 ≤ A.2.1.2.1 c ∧ A.2.1.2.1 c ≤ 1 := fun c hc => by have := (p8.1 c hc).1; omega
    refine s_sumFacts (f := A.2.1.2.1) (B := 1) (by decide) (by decide) (fun c hc => ⟨b01 c hc, fact 7 _ (fun c hc K' hk => ⟨fun y => by omega, fun y => by omega, fun y => by omega, fun y => by omega, fun _ => ?_⟩) (by decide) (by decide) c hc⟩) (mm _ ⟨fun u => by omega, fun u => by omega, fun u => by omega, fun u => by omega, fun u => by omega, fun u => by omega, fun _ => m_cyclic (by decide) (fun c hc => (mD c hc).2.2.2.1) (fun c hc => (p8.1 c hc).1) ?_, fun u => by omega, fun u => by omega, fun u => by omega, fun u => by omega, fun u => by omega, fun u => by omega, fun u => by omega⟩)
    · have e : w 16 c = A.2.1.2.1 c := (cD c hc).2.2.2.1
      rw [e]; exact hk
    · have : anyK A.2.1.2.1 = sm 72 A.2.1.2.1 := sm_cong 72 (fun c c0 c1 => by
        rcases (p8.1 c ⟨c0, c1⟩).1 with y | y
        · rw [y, if_neg (by decide)]
        · rw [y, if_pos rfl])
      rw [this]
      exact k _
  · have smE := smb (fun c => if A.2.1.2.2.2.2.2.1 c = 0 then (0 : Int) else 1) (fun c _ => err01 c)
    have loopS : ∀ (j m : Nat) (K' : Int → Wd → Prop), m + j = 72 → K' (sm 72 (fun c => if A.2.1.2.2.2.2.2.1 c = 0 then 0 else 1)) w → W_X5_cellsWithErrors 18 4 [some (.inr (.inr 6)), some (.inl (sm m (fun c => if A.2.1.2.2.2.2.2.1 c = 0 then 0 else 1))), some (.inl (m : Int))] [] w K' := by
      intro j
      induction j with
      | zero =>
        intro m K' hm hk
        have em : m = 72 := by omega
        subst em
        exact v_X5_cellsWithErrors_4 h6 ⟨fun _ => hk, fun z => absurd (Int.le_refl 72) z⟩
      | succ j ih =>
        intro m K' hm hk
        have hr : rng (m : Int) := ⟨by omega, by omega⟩
        have b0 := smE m (by omega)
        have := ih (m + 1) K' (by omega) hk
        rw [show ((m + 1 : Nat) : Int) = (m : Int) + 1 by omega, show sm (m + 1) (fun c => if A.2.1.2.2.2.2.2.1 c = 0 then (0 : Int) else 1) = sm m (fun c => if A.2.1.2.2.2.2.2.1 c = 0 then (0 : Int) else 1) + (if A.2.1.2.2.2.2.2.1 m = 0 then 0 else 1) from rfl] at this
        generalize sm m (fun c => if A.2.1.2.2.2.2.2.1 c = 0 then (0 : Int) else 1) = S at *
        have e : w (6 + 8) m = A.2.1.2.2.2.2.2.1 m := (cD m hr).2.1
        refine v_X5_cellsWithErrors_4 h6 ⟨fun z => by omega, fun _ => ⟨hr, ?_⟩⟩
        rw [e]
        refine ⟨fun y => ⟨by omega, ?_⟩, fun y => ⟨by omega, by omega, ?_⟩⟩
        · rw [if_pos y, Int.add_zero] at this; exact this
        · rw [if_neg y] at this; exact this
    have loopM : ∀ (j m : Nat) (K' : Int → Wd → Prop), m + j = 72 → K' (sm 72 (fun c => if A.2.1.2.2.2.2.2.1 c = 0 then 0 else 1)) w → W_X9_errors 18 4 [some (.inr (.inr 115)), some (.inl (sm m (fun c => if A.2.1.2.2.2.2.2.1 c = 0 then 0 else 1))), some (.inl (m : Int))] [] w K' := by
      intro j
      induction j with
      | zero =>
        intro m K' hm hk
        have em : m = 72 := by omega
        subst em
        exact v_X9_errors_4 ⟨fun _ => hk, fun z => absurd (Int.le_refl 72) z⟩
      | succ j ih =>
        intro m K' hm hk
        have hr : rng (m : Int) := ⟨by omega, by omega⟩
        have b0 := smE m (by omega)
        have := ih (m + 1) K' (by omega) hk
        rw [show ((m + 1 : Nat) : Int) = (m : Int) + 1 by omega, show sm (m + 1) (fun c => if A.2.1.2.2.2.2.2.1 c = 0 then (0 : Int) else 1) = sm m (fun c => if A.2.1.2.2.2.2.2.1 c = 0 then (0 : Int) else 1) + (if A.2.1.2.2.2.2.2.1 m = 0 then 0 else 1) from rfl] at this
        generalize sm m (fun c => if A.2.1.2.2.2.2.2.1 c = 0 then (0 : Int) else 1) = S at *
        have hb := (p8.1 m hr).2.2.1
        refine v_X9_errors_4 ⟨fun z => by omega, fun _ => ⟨hr, ?_⟩⟩
        rw [(mD m hr).2.1]
        refine ⟨fun y => ⟨by omega, by omega, ?_⟩, fun y => ⟨by omega, by omega, ?_⟩⟩
        · rw [if_pos (by omega)] at this; exact this
        · rw [if_neg (by omega)] at this; exact this
    exact ⟨18, by decide, e_X5_cellsWithErrors h6 (loopS 72 0 _ (by decide) (mm _ ⟨fun u => by omega, fun u => by omega, fun u => by omega, fun u => by omega, fun u => by omega, fun u => by omega, fun u => by omega, fun _ => ⟨18, by decide, e_X9_errors (loopM 72 0 _ (by decide) (k _))⟩, fun u => by omega, fun u => by omega, fun u => by omega, fun u => by omega, fun u => by omega, fun u => by omega⟩))⟩
  · have loopS : ∀ (j m : Nat) (K' : Int → Wd → Prop), m + j = 72 → K' (mxF A.2.1.2.1 A.2.1.2.2.1 72) w → W_X5_greatestHeight 18 4 [some (.inr (.inr 6)), some (.inl (mxF A.2.1.2.1 A.2.1.2.2.1 m)), some (.inl (m : Int))] [] w K' := by
      intro j
      induction j with
      | zero =>
        intro m K' hm hk
        have em : m = 72 := by omega
        subst em
        exact v_X5_greatestHeight_4 h6 (by decide) ⟨fun _ => hk, fun z => absurd (Int.le_refl 72) z⟩
      | succ j ih =>
        intro m K' hm hk
        have hr : rng (m : Int) := ⟨by omega, by omega⟩
        have := ih (m + 1) K' (by omega) hk
        rw [show ((m + 1 : Nat) : Int) = (m : Int) + 1 by omega, show mxF A.2.1.2.1 A.2.1.2.2.1 (m + 1) = if A.2.1.2.1 m = 1 then mxF A.2.1.2.1 A.2.1.2.2.1 m else max (mxF A.2.1.2.1 A.2.1.2.2.1 m) (A.2.1.2.2.1 m) from rfl] at this
        have e1 : w (6 + 10) m = A.2.1.2.1 m := (cD m hr).2.2.2.1
        have e2 : w (6 + 9) m = A.2.1.2.2.1 m := (cD m hr).2.2.1
        have hk01 := (p8.1 m hr).1
        refine v_X5_greatestHeight_4 h6 (by decide) ⟨fun z => by omega, fun _ => ⟨hr, ?_⟩⟩
        rw [e1, e2]
        refine ⟨fun y => ⟨by omega, ?_⟩, fun y => ⟨hr, by omega, ?_⟩⟩
        · rw [if_pos (hk01.resolve_left y)] at this; exact this
        · rw [if_neg (by omega)] at this; exact this
    have loopM : ∀ (j m : Nat) (K' : Int → Wd → Prop), m + j = 72 → K' (mxF A.2.1.2.1 A.2.1.2.2.1 72) w → W_X9_highest 18 4 [some (.inr (.inr 115)), some (.inl (mxF A.2.1.2.1 A.2.1.2.2.1 m)), some (.inl (m : Int))] [] w K' := by
      intro j
      induction j with
      | zero =>
        intro m K' hm hk
        have em : m = 72 := by omega
        subst em
        exact v_X9_highest_4 ⟨fun _ => hk, fun z => absurd (Int.le_refl 72) z⟩
      | succ j ih =>
        intro m K' hm hk
        have hr : rng (m : Int) := ⟨by omega, by omega⟩
        have := ih (m + 1) K' (by omega) hk
        rw [show ((m + 1 : Nat) : Int) = (m : Int) + 1 by omega, show mxF A.2.1.2.1 A.2.1.2.2.1 (m + 1) = if A.2.1.2.1 m = 1 then mxF A.2.1.2.1 A.2.1.2.2.1 m else max (mxF A.2.1.2.1 A.2.1.2.2.1 m) (A.2.1.2.2.1 m) from rfl] at this
        have hk01 := (p8.1 m hr).1
        refine v_X9_highest_4 ⟨fun z => by omega, fun _ => ⟨hr, ?_⟩⟩
        rw [(mD m hr).2.2.2.1, (mD m hr).2.2.1]
        refine ⟨fun y => ⟨by omega, ?_⟩, fun y => ⟨hr, fun u => ⟨by omega, ?_⟩, fun u => ⟨hr, by omega, ?_⟩⟩⟩
        · rw [if_pos (hk01.resolve_left y)] at this; exact this
        · rw [if_neg (by omega), show max (mxF A.2.1.2.1 A.2.1.2.2.1 m) (A.2.1.2.2.1 m) = mxF A.2.1.2.1 A.2.1.2.2.1 m by omega] at this; exact this
        · rw [if_neg (by omega), show max (mxF A.2.1.2.1 A.2.1.2.2.1 m) (A.2.1.2.2.1 m) = A.2.1.2.2.1 m by omega] at this; exact this
    exact ⟨18, by decide, e_X5_greatestHeight h6 (loopS 72 0 _ (by decide) (mm _ ⟨fun u => by omega, fun u => by omega, fun u => by omega, fun u => by omega, fun u => by omega, fun u => by omega, fun u => by omega, fun u => by omega, fun _ => ⟨18, by decide, e_X9_highest (loopM 72 0 _ (by decide) (k _))⟩, fun u => by omega, fun u => by omega, fun u => by omega, fun u => by omega, fun u => by omega⟩))⟩
  · have e1 : w 6 11 = A.2.1.1.2.2.1 := hC.2.1.2.2.1
    rw [e1]
    refine mm _ ⟨fun u => by omega, fun u => by omega, fun u => by omega, fun u => by omega, fun u => by omega, fun u => by omega, fun u => by omega, fun u => by omega, fun u => by omega, fun _ => ?_, fun u => by omega, fun u => by omega, fun u => by omega, fun u => by omega⟩
    rw [hM.2.1.2.2.1]; exact k _
  · rw [hC.2.2.1.1.1]
    refine mm _ ⟨fun u => by omega, fun u => by omega, fun u => by omega, fun u => by omega, fun u => by omega, fun u => by omega, fun u => by omega, fun u => by omega, fun u => by omega, fun u => by omega, fun _ => ?_, fun u => by omega, fun u => by omega, fun u => by omega⟩
    rw [hM.2.2.1.1.1]; exact k _
  · rw [hC.1.1]
    refine mm _ ⟨fun u => by omega, fun u => by omega, fun u => by omega, fun u => by omega, fun u => by omega, fun u => by omega, fun u => by omega, fun u => by omega, fun u => by omega, fun u => by omega, fun u => by omega, fun _ => ?_, fun u => by omega, fun u => by omega⟩
    rw [hM.1.1]; exact k _
  · have bR : ∀ c, rng c → 0 ≤ A.2.1.1.2.2.2.1 c ∧ A.2.1.1.2.2.2.1 c ≤ 20000 := fun c hc => by have := (p6 c hc).1; omega
    refine s_sumFacts (f := A.2.1.1.2.2.2.1) (B := 20000) (by decide) (by decide) (fun c hc => ⟨bR c hc, fact 4 _ (fun c hc K' hk => ⟨fun y => by omega, fun _ => ?_, fun y => by omega, fun y => by omega, fun y => by omega⟩) (by decide) (by decide) c hc⟩) (mm _ ⟨fun u => by omega, fun u => by omega, fun u => by omega, fun u => by omega, fun u => by omega, fun u => by omega, fun u => by omega, fun u => by omega, fun u => by omega, fun u => by omega, fun u => by omega, fun u => by omega, fun _ => m_inAll (f := A.2.1.1.2.2.2.1) (B := 20000) (by decide) (by decide) (by decide) (fun c hc => ⟨bR c hc, (mP c hc).1⟩) (k _), fun u => by omega⟩)
    have e : w 19 c = A.2.1.1.2.2.2.1 c := (cP c hc).1
    rw [e]; exact hk
  · exact mm _ ⟨fun u => by omega, fun u => by omega, fun u => by omega, fun u => by omega, fun u => by omega, fun u => by omega, fun u => by omega, fun u => by omega, fun u => by omega, fun u => by omega, fun u => by omega, fun u => by omega, fun u => by omega, fun _ => k _⟩
end IXS
