section IYS
variable {w w0 w1 w' : Wd} {d : Nat} {K : Int → Wd → Prop} {K2 : Int → Int → Wd → Prop} {n N : Int} {A : AS} {F : Fs} {H : List Fs}
/-- the chain of causes -/
def chF (cau : Int → Int) : Nat → Int → List Int → List Int
  | 0, _, acc => acc
  | m + 1, v, acc => if cau v ∈ acc ++ [v] then acc ++ [v] else chF cau m (cau v) (acc ++ [v])
theorem chF_pre {cau : Int → Int} (m : Nat) : ∀ (v : Int) (acc : List Int), ∃ r, chF cau m v acc = acc ++ r := by
  induction m with
  | zero => intro v acc; exact ⟨[], (List.append_nil acc).symm⟩
  | succ m ih =>
    intro v acc
    unfold chF
    split
    · exact ⟨[v], rfl⟩
    · obtain ⟨r, hr⟩ := ih (cau v) (acc ++ [v])
      exact ⟨[v] ++ r, by rw [hr, List.append_assoc]⟩
theorem chF_at {cau : Int → Int} (m : Nat) (v : Int) (acc : List Int) : acc.length < (chF cau (m + 1) v acc).length ∧ (chF cau (m + 1) v acc).getD acc.length 0 = v := by
  have : ∃ r, chF cau (m + 1) v acc = acc ++ v :: r := by
    unfold chF
    split
    · exact ⟨[], rfl⟩
    · obtain ⟨r, hr⟩ := chF_pre m (cau v) (acc ++ [v])
      exact ⟨r, by rw [hr, List.append_assoc]; rfl⟩
  obtain ⟨r, hr⟩ := this
  rw [hr]
  refine ⟨by rw [List.length_append, List.length_cons]; omega, ?_⟩
  rw [List.getD_eq_getElem?_getD, List.getElem?_append_right (Nat.le_refl _), Nat.sub_self]
  rfl
def CauOk (cau : Int → Int) : Prop := ∀ c, rng c → cau c = -1 ∨ rng (cau c) ∧ cau (cau c) ≠ -1
theorem okl_app {acc : List Int} {v : Int} (h : OkL acc) (hv : rng v) (hn : v ∉ acc) : OkL (acc ++ [v]) := by
  have := addr_ok h hv
  unfold addr at this
  rw [if_neg hn] at this
  exact this
/-- the program's chain -/
theorem s_chain {cau : Int → Int} (hc : ∀ c, rng c → w 21 c = cau c) (hk : CauOk cau) {a : Int} (m : Nat) : ∀ (v : Int) (acc : List Int) (w1 : Wd), acc.length + m = 72 → rng v → cau v ≠ -1 → v ∉ acc → OkL acc → (∀ b i, b ≠ 114 → w1 b i = w b i) → (∀ j : Nat, j < acc.length → w1 114 j = acc.getD j 0) →
    (∀ w2, (∀ b i, b ≠ 114 → w2 b i = w b i) → (∀ j : Nat, j < (chF cau m v acc).length → w2 114 j = (chF cau m v acc).getD j 0) → (chF cau m v acc).length ≤ 72 → K (chF cau m v acc).length w2) → W_X8_followCauses 9 24 [some (.inr (.inr 1)), some (.inl a), some (.inl v), some (.inl (acc.length : Int)), some (.inl (acc.length : Int)), none] [] w1 K := by
  induction m with
  | zero =>
    intro v acc w1 hl hv hcv hn hL ho h114 k
    have := nodup_len 72 _ (okl_app hL hv hn).1 (okl_app hL hv hn).2
    rw [List.length_append, List.length_singleton] at this
    omega
  | succ m ih =>
    intro v acc w1 hl hv hcv hn hL ho h114 k
    have hv' := hv
    unfold rng at hv'
    have hko := (hk v hv).resolve_left hcv
    refine v_X8_followCauses_24 ⟨fun z => by omega, fun _ => ⟨fun z => by omega, fun _ => ⟨by omega, ?_⟩⟩⟩
    rintro w2 rfl
    rw [show wset w1 114 (acc.length : Int) v 21 v = cau v by rw [wset_at (by omega), ho 21 v (by decide)]; exact hc v hv]
    refine ⟨by omega, hv, ?_⟩
    have hL' := okl_app hL hv hn
    have hlen' : (acc ++ [v]).length = acc.length + 1 := by rw [List.length_append, List.length_singleton]
    have h114' : ∀ j : Nat, j < (acc ++ [v]).length → wset w1 114 (acc.length : Int) v 114 j = (acc ++ [v]).getD j 0 := fun j hj => by
      rw [hlen'] at hj
      by_cases q : j = acc.length
      · rw [q, wset_eq, List.getD_eq_getElem?_getD, List.getElem?_append_right (Nat.le_refl _), Nat.sub_self]; rfl
      · rw [wset_at (by omega), h114 j (by omega), List.getD_eq_getElem?_getD, List.getD_eq_getElem?_getD, List.getElem?_append_left (by omega)]
    have ho' : ∀ b i, b ≠ 114 → wset w1 114 (acc.length : Int) v b i = w b i := fun b i q => by rw [wset_at (fun y => q y.1)]; exact ho b i q
    unfold chF at k
    -- is it in the chain?
    have loop : ∀ (j x : Nat), x + j = acc.length + 1 → (cau v ∈ acc ++ [v] ↔ cau v ∈ (acc ++ [v]).drop x) → W_X8_followCauses 9 59 [some (.inr (.inr 1)), some (.inl a), some (.inl (cau v)), some (.inl ((acc.length : Int) + 1)), some (.inl (acc.length : Int)), some (.inl (x : Int))] [] (wset w1 114 (acc.length : Int) v) K := by
      intro j
      induction j with
      | zero =>
        intro x hx hd
        rw [List.drop_of_length_le (by omega)] at hd
        have hnot : ¬ cau v ∈ acc ++ [v] := fun z => by cases hd.mp z
        rw [if_neg hnot] at k
        refine v_X8_followCauses_59 ⟨fun _ => ⟨by omega, ?_⟩, fun z => by omega⟩
        have := ih (cau v) (acc ++ [v]) _ (by omega) hko.1 hko.2 hnot hL' ho' h114' k
        rw [hlen', show ((acc.length + 1 : Nat) : Int) = (acc.length : Int) + 1 by omega] at this
        exact this
      | succ j ih2 =>
        intro x hx hd
        have hg : (acc ++ [v]).drop x = (acc ++ [v]).getD x 0 :: (acc ++ [v]).drop (x + 1) := by
          rw [List.getD_eq_getElem?_getD, List.getElem?_eq_getElem (by omega), Option.getD_some]
          exact List.drop_eq_getElem_cons (by omega)
        rw [hg, List.mem_cons] at hd
        refine v_X8_followCauses_59 ⟨fun z => by omega, fun _ => ⟨by omega, ?_⟩⟩
        rw [h114' x (by omega)]
        refine ⟨fun z => ⟨by omega, ?_⟩, fun z => ?_⟩
        · have := ih2 (x + 1) (by omega) ⟨fun y => (hd.mp y).resolve_left (fun q => z q.symm), fun y => hd.mpr (Or.inr y)⟩
          rw [show ((x + 1 : Nat) : Int) = (x : Int) + 1 by omega] at this
          exact this
        · rw [if_pos (hd.mpr (Or.inl z.symm))] at k
          have := k _ ho' h114' (by omega)
          rw [hlen', show ((acc.length + 1 : Nat) : Int) = (acc.length : Int) + 1 by omega] at this
          exact this
    exact loop (acc.length + 1) 0 (by omega) Iff.rfl
/-- the reference's chain -/
theorem m_chain {cau : Int → Int} (hr : ∀ c, rng c → w 116 (2304 + c) = (if cau c = -1 then 0 else 1) ∧ (cau c ≠ -1 → w 116 (2448 + c) = cau c)) (hk : CauOk cau) {a idx : Int} (m : Nat) : ∀ (v : Int) (acc : List Int) (w1 : Wd), acc.length + m = 72 → rng v → cau v ≠ -1 → OkL acc → (acc.length : Int) ≤ idx → (∀ b i, b ≠ 143 → w1 b i = w b i) → (∀ c, rng c → (w1 143 c ≠ 0 ↔ cau c = -1 ∨ c ∈ acc)) →
    (∀ w2 X, (∀ b i, b ≠ 143 → w2 b i = w b i) → X = (if v ∈ acc then acc else chF cau m v acc) → K (if idx < X.length then X.getD idx.toNat 0 else -2000000004) w2) → W_X9_chainAt 9 57 [some (.inr (.inr 115)), some (.inl a), some (.inl idx), some (.inl v), some (.inl (acc.length : Int))] [] w1 K := by
  induction m with
  | zero =>
    intro v acc w1 hl hv hcv hL hix ho h143 k
    have hin : v ∈ acc := Classical.byContradiction (fun hn => by
      have := nodup_len 72 _ (okl_app hL hv hn).1 (okl_app hL hv hn).2
      rw [List.length_append, List.length_singleton] at this
      omega)
    refine v_X9_chainAt_57 ⟨hv, fun _ => ?_, fun z => absurd z ((h143 v hv).mpr (Or.inr hin))⟩
    have := k w1 acc ho (by rw [if_pos hin])
    rw [if_neg (by omega)] at this
    exact this
  | succ m ih =>
    intro v acc w1 hl hv hcv hL hix ho h143 k
    have hv' := hv
    unfold rng at hv'
    have hko := (hk v hv).resolve_left hcv
    by_cases hin : v ∈ acc
    · refine v_X9_chainAt_57 ⟨hv, fun _ => ?_, fun z => absurd z ((h143 v hv).mpr (Or.inr hin))⟩
      have := k w1 acc ho (by rw [if_pos hin])
      rw [if_neg (by omega)] at this
      exact this
    · have hz : w1 143 v = 0 := Classical.byContradiction (fun z => by
        rcases (h143 v hv).mp z with y | y
        · exact hcv y
        · exact hin y)
      have hat := chF_at (cau := cau) m v acc
      have hlen' : (acc ++ [v]).length = acc.length + 1 := by rw [List.length_append, List.length_singleton]
      refine v_X9_chainAt_57 ⟨hv, fun z => absurd hz z, fun _ => ⟨fun z => ⟨hv, ?_⟩, fun z => ?_⟩⟩
      · rintro w2 rfl
        rw [show wset w1 143 v 1 116 (2448 + v) = cau v by rw [wset_at (by omega), ho 116 _ (by decide)]; exact (hr v hv).2 hcv]
        refine ⟨by omega, by omega, by omega, ?_⟩
        have := ih (cau v) (acc ++ [v]) (wset w1 143 v 1) (by omega) hko.1 hko.2 (okl_app hL hv hin) (by omega) (fun b i q => by rw [wset_at (fun y => q y.1)]; exact ho b i q) (fun c hc => ?_) (fun w2 X p1 p2 => k w2 X p1 ?_)
        · rw [hlen', show ((acc.length + 1 : Nat) : Int) = (acc.length : Int) + 1 by omega] at this
          exact this
        · by_cases q : c = v
          · rw [q, wset_eq]
            exact ⟨fun _ => Or.inr (List.mem_append_right _ (List.mem_singleton.mpr rfl)), fun _ => by decide⟩
          · rw [wset_at (fun y => q y.2)]
            rw [List.mem_append, List.mem_singleton]
            exact ⟨fun y => ((h143 c hc).mp y).elim Or.inl (fun u => Or.inr (Or.inl u)), fun y => (h143 c hc).mpr (y.elim Or.inl (fun u => u.elim Or.inr (fun t => absurd t q)))⟩
        · rw [p2, if_neg hin]
          rfl
      · have := k w1 (chF cau (m + 1) v acc) ho (by rw [if_neg hin])
        rw [← z, if_pos (by omega), show ((acc.length : Int)).toNat = acc.length by omega, hat.2] at this
        exact this
theorem c_chainAt {a b : Int} (hd : 11 ≤ d) (h : Inv n w) (k : ∀ x w', Inv n w' → K2 x x w') : C_X8_chainAt d [.inr (.inr 1), .inl a, .inl b] w (fun x w1 => C_X9_chainAt d [.inr (.inr 115), .inl a, .inl b] w1 (fun y w2 => K2 x y w2)) := by
  have hI := h
  obtain ⟨h0, A, hW, hC, hM⟩ := h
  have hk : CauOk A.2.1.1.2.2.2.2.2 := fun c hc => (hW.2.1.2.2.2.2.2.1 c hc).2.2
  refine ⟨10, hd, e_X8_chainAt (cg_isCell (by decide) (fun q => am_b1 ⟨fun z => ?_, fun z => ?_⟩) (fun q => am_b0 ?_))⟩
  · have hcC : ∀ c, rng c → w 21 c = A.2.1.1.2.2.2.2.2 c := fun c hc => (hC.2.1.2.2.2.1 c hc).2.2
    -- the reference, after the program
    have mref : ∀ (w1 : Wd) (x : Int) (X : List Int), (∀ b i, b ≠ 114 → w1 b i = w b i) → X = (if A.2.1.1.2.2.2.2.2 a = -1 then [] else chF A.2.1.1.2.2.2.2.2 72 a []) → x = (if b < X.length then X.getD b.toNat 0 else -2000000004) → C_X9_chainAt d [.inr (.inr 115), .inl a, .inl b] w1 (fun y w2 => K2 x y w2) := by
      intro w1 x X ho hX hx
      have hC1 := hC.fr (w' := w1) (fun c i _ _ _ _ q => ho c i q)
      have hM1 := hM.hi (w' := w1) (fun c i q => ho c i (by omega))
      have mP := hM1.2.1.2.1
      have loop16 : ∀ (j : Nat) (v : Int) (w2 : Wd), v + j = 72 → 0 ≤ v → (∀ b i, b ≠ 143 → w2 b i = w1 b i) → (∀ c, 0 ≤ c → c < v → (w2 143 c ≠ 0 ↔ A.2.1.1.2.2.2.2.2 c = -1)) → W_X9_chainAt 9 16 [some (.inr (.inr 115)), some (.inl a), some (.inl b), some (.inl v), none] [] w2 (fun y w2 => K2 x y w2) := by
        intro j
        induction j with
        | zero =>
          intro v w2 hv v0 ho2 h143
          have h143' : ∀ c, rng c → (w2 143 c ≠ 0 ↔ A.2.1.1.2.2.2.2.2 c = -1) := fun c hc => h143 c hc.1 (by have := hc.2; omega)
          have iv : ∀ w3, (∀ b i, b ≠ 143 → w3 b i = w2 b i) → Inv n w3 := fun w3 h3 => ⟨h0, A, hW, hC1.lo (fun c i q => by rw [h3 c i (by omega)]; exact ho2 c i (by omega)), hM1.fr (fun c i q1 q2 _ => by rw [h3 c i (by omega)]; exact ho2 c i (by omega))⟩
          refine v_X9_chainAt_16 ⟨fun _ => ?_, fun z => by omega⟩
          by_cases hca : A.2.1.1.2.2.2.2.2 a = -1
          · rw [if_pos hca] at hX
            rw [hX, if_neg (by show ¬ b < ((0 : Nat) : Int); omega)] at hx
            rw [hx]
            exact v_X9_chainAt_57 ⟨q, fun _ => k _ w2 (iv w2 (fun _ _ _ => rfl)), fun y => absurd y ((h143' a q).mpr hca)⟩
          · rw [if_neg hca] at hX
            refine m_chain (w := w2) (cau := A.2.1.1.2.2.2.2.2) (fun c hc => ?_) hk 72 a [] w2 rfl q hca okl_nil z (fun _ _ _ => rfl) (fun c hc => ⟨fun y => Or.inl ((h143' c hc).mp y), fun y => (h143' c hc).mpr (y.resolve_right (fun u => by cases u))⟩) (fun w3 Y p1 p2 => ?_)
            · have := mP c hc
              rw [ho2 116 _ (by decide), ho2 116 _ (by decide)]
              exact ⟨this.2.1, this.2.2.2⟩
            · rw [if_neg (fun u => by cases u)] at p2
              rw [p2, ← hX, ← hx]
              exact k x w3 (iv w3 p1)
        | succ j ih =>
          intro v w2 hv v0 ho2 h143
          have hrv : rng v := ⟨v0, by omega⟩
          have go : ∀ y : Int, (y ≠ 0 ↔ A.2.1.1.2.2.2.2.2 v = -1) → (0 ≤ v ∧ v < 72) ∧ (∀ w3, w3 = wset w2 143 v y → (-2147483648 ≤ (v + 1) ∧ (v + 1) ≤ 2147483647) ∧ W_X9_chainAt 9 16 [some (.inr (.inr 115)), some (.inl a), some (.inl b), some (.inl (v + 1)), none] [] w3 (fun y w2 => K2 x y w2)) := by
            intro y hy
            refine ⟨hrv, ?_⟩
            rintro w3 rfl
            refine ⟨by omega, ih (v + 1) _ (by omega) (by omega) (fun c i u => by rw [wset_at (fun t => u t.1)]; exact ho2 c i u) (fun c c0 c1 => ?_)⟩
            by_cases u : c = v
            · rw [u, wset_eq]; exact hy
            · rw [wset_at (fun t => u t.2)]; exact h143 c c0 (by omega)
          refine v_X9_chainAt_16 ⟨fun z => by omega, fun _ => ⟨by omega, by omega, ?_⟩⟩
          rw [ho2 116 _ (by decide), (mP v hrv).2.1]
          by_cases u : A.2.1.1.2.2.2.2.2 v = -1
          · rw [if_pos u]
            exact ⟨fun y => absurd rfl y, fun _ => go 1 ⟨fun _ => u, fun _ => by decide⟩⟩
          · rw [if_neg u]
            exact ⟨fun _ => go 0 ⟨fun y => absurd rfl y, fun y => absurd y u⟩, fun y => by omega⟩
      exact ⟨9, by omega, e_X9_chainAt (cm_isCell (by decide) (fun _ => am_b1 ⟨fun _ => loop16 72 0 w1 (by decide) (by decide) (fun _ _ _ => rfl) (fun c c0 c1 => by omega), fun y => absurd z y⟩) (fun y => absurd q y))⟩
    refine ⟨9, by decide, e_X8_followCauses ⟨q, ?_⟩⟩
    rw [hcC a q]
    refine ⟨fun y => ?_, fun y => ?_⟩
    · refine s_chain hcC hk 72 a [] w rfl q y (fun u => by cases u) okl_nil (fun _ _ _ => rfl) (fun j hj => absurd hj (Nat.not_lt_zero j)) (fun w1 p1 p2 p3 => ⟨fun u => mref w1 _ (chF A.2.1.1.2.2.2.2.2 72 a []) p1 (by rw [if_neg y]) ?_, fun u => ⟨by omega, ?_⟩⟩)
      · rw [if_neg (by omega)]
      · have e := p2 b.toNat (by omega)
        rw [show ((b.toNat : Nat) : Int) = b by omega] at e
        rw [e]
        exact mref w1 _ (chF A.2.1.1.2.2.2.2.2 72 a []) p1 (by rw [if_neg y]) (by rw [if_pos (by omega)])
    · refine v_X8_followCauses_24 ⟨fun u => by omega, fun _ => ⟨fun _ => ?_, fun u => absurd rfl u⟩⟩
      refine ⟨fun u => mref w _ [] (fun _ _ _ => rfl) (by rw [if_pos y]) ?_, fun u => absurd z u⟩
      rw [if_neg (by show ¬ b < ((0 : Nat) : Int); omega)]
  · exact ⟨9, by omega, e_X9_chainAt (cm_isCell (by decide) (fun _ => am_b1 ⟨fun y => absurd y z, fun _ => k _ w hI⟩) (fun y => absurd q y))⟩
  · exact ⟨9, by omega, e_X9_chainAt (cm_isCell (by decide) (fun y => absurd y q) (fun _ => am_b0 (k _ w hI)))⟩
/-! in the order of heights -/
def mrk (k h : Int → Int) (c : Int) : Int := 72 * (if k c = 1 then 72 else h c) + c
def cntP (ran : Int → Int) (k h : Int → Int) (p : Int) : Int := sm 72 (fun x => if ran x ≠ -1 ∧ mrk k h x < p then 1 else 0)
theorem sm_le {f g : Int → Int} (m : Nat) (h : ∀ c : Int, 0 ≤ c → c < m → f c ≤ g c) : sm m f ≤ sm m g := by
  induction m with
  | zero => exact Int.le_refl 0
  | succ m ih =>
    have h1 := ih (fun c c0 c1 => h c c0 (by omega))
    have h2 := h m (by omega) (by omega)
    show sm m f + f m ≤ sm m g + g m
    omega
theorem cnt_bd {ran k h : Int → Int} {p : Int} : 0 ≤ cntP ran k h p ∧ cntP ran k h p ≤ 72 := by
  have := sm_bd (f := fun x => if ran x ≠ -1 ∧ mrk k h x < p then (1 : Int) else 0) (a := 0) (b := 1) 72 (fun c _ _ => by split <;> omega)
  unfold cntP
  omega
theorem cnt_lt {ran k h : Int → Int} {p c : Int} (hc : rng c) (hr : ran c ≠ -1) (hp' : mrk k h c < p) : cntP ran k h (mrk k h c) + 1 ≤ cntP ran k h p := by
  have h1 := sm_upd (f := fun x => if ran x ≠ -1 ∧ mrk k h x < mrk k h c then (1 : Int) else 0) (g := fun x => if x = c then (1 : Int) else if ran x ≠ -1 ∧ mrk k h x < mrk k h c then 1 else 0) (c := c) 72 hc.1 hc.2 (fun x hx => if_neg hx)
  rw [if_neg (fun z => Int.lt_irrefl _ z.2), if_pos rfl] at h1
  have h2 := sm_le (f := fun x => if x = c then (1 : Int) else if ran x ≠ -1 ∧ mrk k h x < mrk k h c then 1 else 0) (g := fun x => if ran x ≠ -1 ∧ mrk k h x < p then (1 : Int) else 0) 72 (fun x _ _ => by
    by_cases q : x = c
    · rw [if_pos q, q, if_pos ⟨hr, hp'⟩]; exact Int.le_refl 1
    · rw [if_neg q]
      by_cases z : ran x ≠ -1 ∧ mrk k h x < mrk k h c
      · rw [if_pos z, if_pos ⟨z.1, by omega⟩]; exact Int.le_refl 1
      · rw [if_neg z]; split <;> omega)
  unfold cntP
  omega
theorem mrk_inj {k h : Int → Int} {x y : Int} (hx : rng x) (hy : rng y) (he : mrk k h x = mrk k h y) : x = y := by
  unfold mrk at he
  unfold rng at hx hy
  generalize (if k x = 1 then (72 : Int) else h x) = a at he
  generalize (if k y = 1 then (72 : Int) else h y) = b at he
  omega
theorem cnt_step {ran k h : Int → Int} {p c : Int} (hc : rng c) (hr : ran c ≠ -1) (he : mrk k h c = p) : cntP ran k h (p + 1) = cntP ran k h p + 1 := by
  have h1 := sm_upd (f := fun x => if ran x ≠ -1 ∧ mrk k h x < p then (1 : Int) else 0) (g := fun x => if x = c then (1 : Int) else if ran x ≠ -1 ∧ mrk k h x < p then 1 else 0) (c := c) 72 hc.1 hc.2 (fun x hx => if_neg hx)
  rw [if_neg (fun z => by omega), if_pos rfl] at h1
  have h2 : sm 72 (fun x => if ran x ≠ -1 ∧ mrk k h x < p + 1 then (1 : Int) else 0) = sm 72 (fun x => if x = c then (1 : Int) else if ran x ≠ -1 ∧ mrk k h x < p then 1 else 0) := sm_cong 72 (fun x x0 x1 => by
    by_cases q : x = c
    · rw [if_pos q, q, if_pos ⟨hr, by omega⟩]
    · rw [if_neg q]
      have hne : mrk k h x ≠ p := fun z => q (mrk_inj (k := k) (h := h) ⟨x0, x1⟩ hc (by omega))
      by_cases z : ran x ≠ -1 ∧ mrk k h x < p
      · rw [if_pos z, if_pos ⟨z.1, by omega⟩]
      · rw [if_neg z, if_neg (fun y => z ⟨y.1, by omega⟩)])
  unfold cntP
  omega
theorem cnt_same {ran k h : Int → Int} {p : Int} (hn : ∀ c, rng c → ran c ≠ -1 → mrk k h c ≠ p) : cntP ran k h (p + 1) = cntP ran k h p := sm_cong 72 (fun x x0 x1 => by
  by_cases z : ran x ≠ -1 ∧ mrk k h x < p
  · rw [if_pos z, if_pos ⟨z.1, by omega⟩]
  · rw [if_neg z, if_neg (fun y => z ⟨y.1, by have := hn x ⟨x0, x1⟩ y.1; omega⟩)])
theorem c_ranAt {a : Int} (hd : 12 ≤ d) (ha : a ≤ 2147483647) (h : Inv n w) (k : ∀ x, K2 x x w) : C_X8_ranAt d [.inr (.inr 1), .inl a] w (fun x w1 => C_X9_ranAt d [.inr (.inr 115), .inl a] w1 (fun y w2 => K2 x y w2)) := by
  obtain ⟨h0, A, hW, hC, hM⟩ := h
  have h6 : am_St 6 := by unfold am_St; omega
  have p8 := hW.2.1.2.2.2.2.2.2.2.1
  have cD := hC.2.1.2.2.2.2.1
  have cP := hC.2.1.2.2.2.1
  have mD := hM.2.2.2.1.1
  have mP := hM.2.1.2.1
  generalize hran : A.2.1.1.2.2.2.2.2 = ran at *
  generalize hkk : A.2.1.2.1 = kk at *
  generalize hhh : A.2.1.2.2.1 = hh at *
  have rkb : ∀ c, rng c → 0 ≤ (if kk c = 1 then (72 : Int) else hh c) ∧ (if kk c = 1 then (72 : Int) else hh c) ≤ 72 := fun c hc => by
    have := (p8 c hc).2.2.2.1
    split <;> omega
  have m01 := fun c hc => (p8 c hc).1
  -- the reference: the first cell with so many ahead
  have mref : ∀ x : Int, ((∃ c, rng c ∧ ran c ≠ -1 ∧ cntP ran kk hh (mrk kk hh c) = a ∧ x = c) ∨ (x = -2000000004 ∧ ∀ c, rng c → ran c ≠ -1 → cntP ran kk hh (mrk kk hh c) ≠ a)) → 0 ≤ a → C_X9_ranAt d [.inr (.inr 115), .inl a] w (fun y w2 => K2 x y w2) := by
    intro x hx ha0
    have rank : ∀ (c : Int) (K' : Int → Wd → Prop), rng c → K' (mrk kk hh c) w → C_X9_rank 11 [.inr (.inr 115), .inl c] w K' := fun c K' hc hk' => by
      have hb := rkb c hc
      have hcr := hc
      unfold rng at hcr
      refine ⟨10, by decide, e_X9_rank ⟨hc, ?_⟩⟩
      rw [(mD c hc).2.2.2.1, (mD c hc).2.2.1]
      unfold mrk at hk'
      refine ⟨fun y => ?_, fun y => ?_⟩
      · rw [if_neg (by omega)] at hk' hb
        exact ⟨hc, by omega, by omega, hk'⟩
      · rw [if_pos ((m01 c hc).resolve_left y)] at hk'
        exact ⟨by omega, hk'⟩
    have outer : ∀ (j : Nat) (v : Int), v + j = 72 → 0 ≤ v → (∀ c, rng c → c < v → ran c ≠ -1 → cntP ran kk hh (mrk kk hh c) ≠ a) → W_X9_ranAt 11 9 [some (.inr (.inr 115)), some (.inl a), some (.inl v), none, none] [] w (fun y w2 => K2 x y w2) := by
      intro j
      induction j with
      | zero =>
        intro v hv v0 hno
        refine v_X9_ranAt_9 ⟨fun _ => ?_, fun z => by omega⟩
        rcases hx with ⟨c, c1, c2, c3, c4⟩ | ⟨x1, _⟩
        · exact absurd c3 (hno c c1 (by have := c1.2; omega) c2)
        · rw [x1]; exact k _
      | succ j ih =>
        intro v hv v0 hno
        have hrv : rng v := ⟨v0, by omega⟩
        refine v_X9_ranAt_9 ⟨fun z => by omega, fun _ => ?_⟩
        have inner : ∀ (i m : Nat), m + i = 72 → W_X9_ranAt 11 20 [some (.inr (.inr 115)), some (.inl a), some (.inl v), some (.inl (sm m (fun x => if ran x ≠ -1 ∧ mrk kk hh x < mrk kk hh v then 1 else 0))), some (.inl (m : Int))] [] w (fun y w2 => K2 x y w2) := by
          intro i
          induction i with
          | zero =>
            intro m hm
            have em : m = 72 := by omega
            subst em
            have ecnt : sm 72 (fun x => if ran x ≠ -1 ∧ mrk kk hh x < mrk kk hh v then 1 else 0) = cntP ran kk hh (mrk kk hh v) := rfl
            rw [ecnt]
            refine v_X9_ranAt_20 ⟨fun _ => ⟨by omega, by omega, ?_⟩, fun z => absurd (Int.le_refl 72) z⟩
            rw [(mP v hrv).2.1]
            refine ⟨fun y => ⟨by omega, ih (v + 1) (by omega) (by omega) (fun c hc hcv hr => ?_)⟩, fun y => ⟨fun u => ⟨by omega, ih (v + 1) (by omega) (by omega) (fun c hc hcv hr => ?_)⟩, fun u => ?_⟩⟩
            · by_cases q : c = v
              · rw [q] at hr
                rw [if_neg hr] at y
                exact absurd rfl y
              · exact hno c hc (by omega) hr
            · by_cases q : c = v
              · rw [q]; exact u
              · exact hno c hc (by omega) hr
            · have hrv' : ran v ≠ -1 := fun z => by rw [if_pos z] at y; cases y
              rcases hx with ⟨c, c1, c2, c3, c4⟩ | ⟨_, x2⟩
              · have : c = v := by
                  by_cases q1 : mrk kk hh c < mrk kk hh v
                  · have := cnt_lt (p := mrk kk hh v) c1 c2 q1
                    omega
                  · by_cases q2 : mrk kk hh v < mrk kk hh c
                    · have := cnt_lt (p := mrk kk hh c) hrv hrv' q2
                      omega
                    · exact mrk_inj (k := kk) (h := hh) c1 hrv (by omega)
                rw [c4, this]
                exact k _
              · exact absurd u (x2 v hrv hrv')
          | succ i ih2 =>
            intro m hm
            have hr : rng (m : Int) := ⟨by omega, by omega⟩
            have b0 := sm_bd (f := fun x => if ran x ≠ -1 ∧ mrk kk hh x < mrk kk hh v then (1 : Int) else 0) (a := 0) (b := 1) m (fun c _ _ => by split <;> omega)
            have := ih2 (m + 1) (by omega)
            rw [show ((m + 1 : Nat) : Int) = (m : Int) + 1 by omega, show sm (m + 1) (fun x => if ran x ≠ -1 ∧ mrk kk hh x < mrk kk hh v then (1 : Int) else 0) = sm m (fun x => if ran x ≠ -1 ∧ mrk kk hh x < mrk kk hh v then (1 : Int) else 0) + (if ran m ≠ -1 ∧ mrk kk hh m < mrk kk hh v then 1 else 0) from rfl] at this
            generalize sm m (fun x => if ran x ≠ -1 ∧ mrk kk hh x < mrk kk hh v then (1 : Int) else 0) = S at *
            refine v_X9_ranAt_20 ⟨fun z => by omega, fun _ => ⟨by omega, by omega, ?_⟩⟩
            rw [(mP m hr).2.1]
            refine ⟨fun y => ⟨by omega, by omega, ?_⟩, fun y => rank m _ hr (rank v _ hrv ⟨fun u => ⟨by omega, by omega, ?_⟩, fun u => ⟨by omega, by omega, ?_⟩⟩)⟩
            · have z : ran m = -1 := Classical.byContradiction (fun z => by rw [if_neg z] at y; exact y rfl)
              rw [if_neg (fun u => u.1 z)] at this
              exact this
            · rw [if_neg (fun t => by omega)] at this
              exact this
            · have z : ran m ≠ -1 := fun z => by rw [if_pos z] at y; cases y
              rw [if_pos ⟨z, by omega⟩] at this
              exact this
        exact inner 72 0 (by decide)
    exact ⟨11, by omega, e_X9_ranAt ⟨fun _ => outer 72 0 (by decide) (by decide) (fun c hc hcv => by have := hc.1; omega), fun y => absurd ha0 y⟩⟩
  -- the program: rank by rank
  refine ⟨11, by omega, e_X8_ranAt ⟨fun z => ?_, fun z => ⟨11, by omega, e_X9_ranAt ⟨fun y => absurd y z, fun _ => k _⟩⟩⟩⟩
  have mrk_at : ∀ c v3 v4 : Int, rng c → 0 ≤ v4 → v4 < 72 → mrk kk hh c = 72 * v3 + v4 → c = v4 ∧ (if kk c = 1 then (72 : Int) else hh c) = v3 := fun c v3 v4 hc h0 h1 he => by
    unfold mrk at he
    unfold rng at hc
    generalize (if kk c = 1 then (72 : Int) else hh c) = g at he ⊢
    omega
  have outer : ∀ (r : Nat) (v3 v2 : Int), v3 + r = 73 → 0 ≤ v3 → v2 = a - cntP ran kk hh (72 * v3) → (∀ c, rng c → ran c ≠ -1 → mrk kk hh c < 72 * v3 → cntP ran kk hh (mrk kk hh c) ≠ a) → W_X8_ranAt 11 11 [some (.inr (.inr 1)), some (.inl a), some (.inl v2), some (.inl v3), none] [] w (fun x w1 => C_X9_ranAt d [.inr (.inr 115), .inl a] w1 (fun y w2 => K2 x y w2)) := by
    intro r
    induction r with
    | zero =>
      intro v3 v2 hj h3 hv2 hno
      refine v_X8_ranAt_11 ⟨fun _ => mref _ (Or.inr ⟨rfl, fun c hc hr => hno c hc hr ?_⟩) z, fun y => by omega⟩
      have := rkb c hc
      unfold mrk
      unfold rng at hc
      omega
    | succ r ih =>
      intro v3 v2 hj h3 hv2 hno
      refine v_X8_ranAt_11 ⟨fun y => by omega, fun _ => ?_⟩
      have inner : ∀ (i : Nat) (v4 v2 : Int), v4 + i = 72 → 0 ≤ v4 → v2 = a - cntP ran kk hh (72 * v3 + v4) → (∀ c, rng c → ran c ≠ -1 → mrk kk hh c < 72 * v3 + v4 → cntP ran kk hh (mrk kk hh c) ≠ a) → W_X8_ranAt 11 20 [some (.inr (.inr 1)), some (.inl a), some (.inl v2), some (.inl v3), some (.inl v4)] [] w (fun x w1 => C_X9_ranAt d [.inr (.inr 115), .inl a] w1 (fun y w2 => K2 x y w2)) := by
        intro i
        induction i with
        | zero =>
          intro v4 v2 hi h4 hv2 hno
          have e : 72 * v3 + v4 = 72 * (v3 + 1) := by omega
          rw [e] at hv2 hno
          exact v_X8_ranAt_20 ⟨fun _ => ⟨by omega, ih (v3 + 1) v2 (by omega) (by omega) hv2 hno⟩, fun y => by omega⟩
        | succ i ih2 =>
          intro v4 v2 hi h4 hv2 hno
          have hr : rng v4 := ⟨h4, by omega⟩
          have hcb := cnt_bd (ran := ran) (k := kk) (h := hh) (p := 72 * v3 + v4)
          have e21 : w 21 v4 = ran v4 := (cP v4 hr).2.2
          have skip : (∀ c, rng c → ran c ≠ -1 → mrk kk hh c ≠ 72 * v3 + v4) → W_X8_ranAt 11 20 [some (.inr (.inr 1)), some (.inl a), some (.inl v2), some (.inl v3), some (.inl (v4 + 1))] [] w (fun x w1 => C_X9_ranAt d [.inr (.inr 115), .inl a] w1 (fun y w2 => K2 x y w2)) := fun hn => by
            have hs := cnt_same hn
            refine ih2 (v4 + 1) v2 (by omega) (by omega) ?_ (fun c hc hcr hlt => hno c hc hcr ?_)
            · rw [show 72 * v3 + (v4 + 1) = 72 * v3 + v4 + 1 by omega, hs]; exact hv2
            · have := hn c hc hcr
              omega
          refine v_X8_ranAt_20 ⟨fun y => by omega, fun _ => ⟨hr, ?_⟩⟩
          rw [e21]
          refine ⟨fun y => ⟨by omega, skip (fun c hc hcr he => ?_)⟩, fun y => ⟨10, by decide, e_X5_rankOf h6 ⟨hr, ?_⟩⟩⟩
          · have := (mrk_at c v3 v4 hc h4 hr.2 he).1
            rw [this] at hcr
            exact hcr y
          · have e10 : w (6 + 10) v4 = kk v4 := (cD v4 hr).2.2.2.1
            have e9 : w (6 + 9) v4 = hh v4 := (cD v4 hr).2.2.1
            rw [e10, e9]
            have fin : ∀ x1 : Int, x1 = (if kk v4 = 1 then (72 : Int) else hh v4) → ((¬ x1 = v3 → (-2147483648 ≤ (v4 + 1) ∧ (v4 + 1) ≤ 2147483647) ∧ W_X8_ranAt 11 20 [some (.inr (.inr 1)), some (.inl a), some (.inl v2), some (.inl v3), some (.inl (v4 + 1))] [] w (fun x w1 => C_X9_ranAt d [.inr (.inr 115), .inl a] w1 (fun y w2 => K2 x y w2))) ∧ (x1 = v3 → ((¬ v2 = 0 → (-2147483648 ≤ (v2 + (-1)) ∧ (v2 + (-1)) ≤ 2147483647) ∧ (-2147483648 ≤ (v4 + 1) ∧ (v4 + 1) ≤ 2147483647) ∧ W_X8_ranAt 11 20 [some (.inr (.inr 1)), some (.inl a), some (.inl (v2 + (-1))), some (.inl v3), some (.inl (v4 + 1))] [] w (fun x w1 => C_X9_ranAt d [.inr (.inr 115), .inl a] w1 (fun y w2 => K2 x y w2))) ∧ (v2 = 0 → C_X9_ranAt d [.inr (.inr 115), .inl a] w (fun y w2 => K2 v4 y w2))))) := by
              intro x1 hx1
              refine ⟨fun u => ⟨by omega, skip (fun c hc hcr he => ?_)⟩, fun u => ?_⟩
              · obtain ⟨t1, t2⟩ := mrk_at c v3 v4 hc h4 hr.2 he
                rw [t1] at t2
                exact u (hx1.trans t2)
              · have hm : mrk kk hh v4 = 72 * v3 + v4 := by
                  unfold mrk
                  rw [← hx1, u]
                refine ⟨fun t => ⟨by omega, by omega, ih2 (v4 + 1) (v2 + -1) (by omega) (by omega) ?_ (fun c hc hcr hlt => ?_)⟩, fun t => mref v4 (Or.inl ⟨v4, hr, y, ?_, rfl⟩) z⟩
                · rw [show 72 * v3 + (v4 + 1) = 72 * v3 + v4 + 1 by omega, cnt_step hr y hm]
                  omega
                · by_cases q : mrk kk hh c < 72 * v3 + v4
                  · exact hno c hc hcr q
                  · have e : mrk kk hh c = 72 * v3 + v4 := by omega
                    rw [e]
                    omega
                · rw [hm]; omega
            refine ⟨fun t => ⟨hr, fin _ ?_⟩, fun t => fin _ ?_⟩
            · rw [if_neg t]
            · rw [if_pos t]
      exact inner 72 0 v2 (by decide) (by decide) (by rw [Int.add_zero]; exact hv2) (fun c hc hcr hlt => hno c hc hcr (by omega))
  have hc0 : cntP ran kk hh (72 * 0) = 0 := by
    have h1 : ∀ x, rng x → 0 ≤ mrk kk hh x := fun x hx => by
      have := rkb x hx
      unfold mrk
      unfold rng at hx
      omega
    have := sm_bd (f := fun x => if ran x ≠ -1 ∧ mrk kk hh x < 72 * 0 then (1 : Int) else 0) (a := 0) (b := 0) 72 (fun c c0 c1 => by
      have := h1 c ⟨c0, c1⟩
      rw [if_neg (fun t => by omega)]
      exact ⟨Int.le_refl 0, Int.le_refl 0⟩)
    unfold cntP
    omega
  exact outer 73 0 a (by decide) (by decide) (by rw [hc0]; omega) (fun c hc hcr hlt => by
    have := rkb c hc
    unfold mrk at hlt
    unfold rng at hc
    omega)
end IYS
