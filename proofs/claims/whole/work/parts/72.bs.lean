/-! the reference's pages -/
def PgM (f : Int → Int) (P : Pg) : Prop :=
  (∀ c, rng c → Wf (P.1 c) ∧ f c = (P.1 c).length ∧ ∀ j : Nat, j < (P.1 c).length → f (72 + 30 * c + j) = (P.1 c).getD j 0) ∧
  (∀ c, rng c → f (2232 + c) = P.2.2.2.1 c ∧ f (2304 + c) = (if P.2.2.2.2.2 c = -1 then 0 else 1) ∧ f (2376 + c) = P.2.2.2.2.1 c ∧ (P.2.2.2.2.2 c ≠ -1 → f (2448 + c) = P.2.2.2.2.2 c)) ∧
  f 2520 = P.2.2.1 ∧
  ((0 ≤ f 2521 ∧ f 2521 ≤ 8) ∧ (∀ s, 0 ≤ s → s < f 2521 → rng (f (2522 + 32 * s)) ∧ ∃ L, P.2.1 (f (2522 + 32 * s)) = some L ∧ Wf L ∧ f (2522 + 32 * s + 1) = L.length ∧ ∀ j : Nat, j < L.length → f (2522 + 32 * s + 2 + j) = L.getD j 0) ∧
    (∀ s s', 0 ≤ s → s < s' → s' < f 2521 → f (2522 + 32 * s) ≠ f (2522 + 32 * s')) ∧ (∀ c, rng c → P.2.1 c ≠ none → ∃ s, 0 ≤ s ∧ s < f 2521 ∧ f (2522 + 32 * s) = c))
theorem PgM.cong {f f' : Int → Int} {P : Pg} (h : PgM f P) (hf : ∀ o, 0 ≤ o → o < 2778 → f' o = f o) : PgM f' P := by
  obtain ⟨h1, h2, h3, h4, h5, h6, h7⟩ := h
  refine ⟨fun c hc => ?_, fun c hc => ?_, by rw [hf _ (by decide) (by decide)]; exact h3, by rw [hf 2521 (by decide) (by decide)]; exact h4, fun s s0 s1 => ?_, fun s s' s0 s1 s2 => ?_, fun c hc hn => ?_⟩
  · obtain ⟨q1, q2, q3⟩ := h1 c hc
    have := q1.1
    unfold rng at hc
    exact ⟨q1, by rw [hf _ (by omega) (by omega)]; exact q2, fun j hj => by rw [hf _ (by omega) (by omega)]; exact q3 j hj⟩
  · obtain ⟨q1, q2, q3, q4⟩ := h2 c hc
    unfold rng at hc
    rw [hf _ (by omega) (by omega), hf _ (by omega) (by omega), hf _ (by omega) (by omega), hf _ (by omega) (by omega)]
    exact ⟨q1, q2, q3, q4⟩
  · rw [hf 2521 (by decide) (by decide)] at s1
    obtain ⟨q1, L, q2, q3, q4, q5⟩ := h5 s s0 s1
    have := q3.1
    rw [hf (2522 + 32 * s) (by omega) (by omega)]
    exact ⟨q1, L, q2, q3, by rw [hf _ (by omega) (by omega)]; exact q4, fun j hj => by rw [hf _ (by omega) (by omega)]; exact q5 j hj⟩
  · rw [hf 2521 (by decide) (by decide)] at s2
    rw [hf (2522 + 32 * s) (by omega) (by omega), hf (2522 + 32 * s') (by omega) (by omega)]
    exact h6 s s' s0 s1 s2
  · obtain ⟨s, s0, s1, s2⟩ := h7 c hc hn
    rw [hf 2521 (by decide) (by decide)]
    exact ⟨s, s0, s1, by rw [hf (2522 + 32 * s) (by omega) (by omega)]; exact s2⟩
theorem PgM.ml {w : Wd} {P : Pg} (h : PgM (w 116) P) : ML w P.1 := h.1
def HM (w : Wd) (H : List Fs) : Prop := (w 115 2 = H.length ∧ H.length ≤ 4) ∧ ∀ (i : Nat) F, H[i]? = some F → PgM (fun o => w 117 (2778 * i + o)) F.1
section BSS
variable {w w0 w1 w' : Wd} {d : Nat} {K : Int → Wd → Prop} {KV : Wd → Prop} {s a st N r : Int} {F F0 : Fs} {H : List Fs} {tx : Int → List Int} {D : Dt}
theorem m_save51 {KV : Wd → Prop} (n : Nat) : ∀ (m : Int) (w0 w : Wd), m + n = 2778 → 0 ≤ m → 0 ≤ w0 115 2 → w0 115 2 ≤ 3 → (∀ a i, a ≠ 117 → w a i = w0 a i) → (∀ i, w 117 i = if 2778 * w0 115 2 ≤ i ∧ i < 2778 * w0 115 2 + m then w0 116 (i - 2778 * w0 115 2) else w0 117 i) →
    (∀ w', (∀ a i, a ≠ 117 → ¬ (a = 115 ∧ i = 2) → w' a i = w0 a i) → (∀ i, w' 117 i = if 2778 * w0 115 2 ≤ i ∧ i < 2778 * w0 115 2 + 2778 then w0 116 (i - 2778 * w0 115 2) else w0 117 i) → w' 115 2 = w0 115 2 + 1 → KV w') → W_X9_save 10 51 [some (.inr (.inr 115)), some (.inl m)] [] w KV := by
  induction n with
  | zero =>
    intro m w0 w hm h0 hs hs3 ho h117 k
    have e2 : w 115 2 = w0 115 2 := ho 115 2 (by decide)
    refine v_X9_save_51 ⟨fun _ => ?_, fun z => by omega⟩
    rw [e2]
    refine ⟨by omega, ?_⟩
    rintro w1 rfl
    refine k _ (fun a i q1 q2 => by rw [wset_at (by omega)]; exact ho a i q1) (fun i => ?_) wset_eq
    rw [wset_at (by omega), h117, show m = 2778 by omega]
  | succ n ih =>
    intro m w0 w hm h0 hs hs3 ho h117 k
    have e2 : w 115 2 = w0 115 2 := ho 115 2 (by decide)
    refine v_X9_save_51 ⟨fun z => by omega, fun _ => ?_⟩
    rw [e2, ho 116 m (by decide)]
    refine ⟨by omega, by omega, by omega, by omega, ?_⟩
    rintro w2 rfl
    refine ⟨by omega, ih (m + 1) w0 _ (by omega) (by omega) hs hs3 (fun a i q => by rw [wset_at (fun y => q y.1)]; exact ho a i q) (fun i => ?_) k⟩
    by_cases q : i = 2778 * w0 115 2 + m
    · rw [q, wset_eq, if_pos (by omega)]
      congr 1
      omega
    · rw [wset_at (by omega), h117]
      by_cases q2 : 2778 * w0 115 2 ≤ i ∧ i < 2778 * w0 115 2 + m
      · rw [if_pos q2, if_pos (by omega)]
      · rw [if_neg q2, if_neg (by omega)]
theorem m_save10 {KV : Wd → Prop} (n : Nat) : ∀ (m : Int) (w0 w : Wd), m + n = 8334 → 0 ≤ m → w0 115 2 = 4 → (∀ a i, a ≠ 117 → w a i = w0 a i) → (∀ i, w 117 i = if 0 ≤ i ∧ i < m then w0 117 (i + 2778) else w0 117 i) →
    (∀ w', (∀ a i, a ≠ 117 → ¬ (a = 115 ∧ i = 2) → w' a i = w0 a i) → (∀ i, w' 117 i = if 0 ≤ i ∧ i < 8334 then w0 117 (i + 2778) else w0 117 i) → w' 115 2 = 3 → W_X9_save 10 51 [some (.inr (.inr 115)), some (.inl 0)] [] w' KV) → W_X9_save 10 10 [some (.inr (.inr 115)), some (.inl m)] [] w KV := by
  induction n with
  | zero =>
    intro m w0 w hm h0 hs ho h117 k
    have e2 : w 115 2 = 4 := by rw [ho 115 2 (by decide)]; exact hs
    refine v_X9_save_10 ⟨fun _ => ?_, fun z => by omega⟩
    rw [e2]
    refine ⟨by decide, ?_⟩
    rintro w1 rfl
    refine k _ (fun a i q1 q2 => by rw [wset_at (by omega)]; exact ho a i q1) (fun i => ?_) wset_eq
    rw [wset_at (by omega), h117, show m = 8334 by omega]
  | succ n ih =>
    intro m w0 w hm h0 hs ho h117 k
    refine v_X9_save_10 ⟨fun z => by omega, fun _ => ⟨by omega, by omega, by omega, ?_⟩⟩
    rintro w2 rfl
    refine ⟨by omega, ih (m + 1) w0 _ (by omega) (by omega) hs (fun a i q => by rw [wset_at (fun y => q y.1)]; exact ho a i q) (fun i => ?_) k⟩
    by_cases q : i = m
    · rw [q, wset_eq, if_pos (by omega), h117, if_neg (by omega)]
    · rw [wset_at (by omega), h117]
      by_cases q2 : 0 ≤ i ∧ i < m
      · rw [if_pos q2, if_pos (by omega)]
      · rw [if_neg q2, if_neg (by omega)]
theorem m_save1 {KV : Wd → Prop} (h4 : H.length < 4) (hH : HM w H) (hP : PgM (w 116) F.1) (k : ∀ w', HM w' (H ++ [F]) → (∀ a i, a ≠ 117 → ¬ (a = 115 ∧ i = 2) → w' a i = w a i) → KV w') : W_X9_save 10 51 [some (.inr (.inr 115)), some (.inl 0)] [] w KV := by
  obtain ⟨⟨g1, g2⟩, g3⟩ := hH
  refine m_save51 2778 0 w w (by decide) (by decide) (by omega) (by omega) (fun _ _ _ => rfl) (fun i => by rw [if_neg (by omega)]) (fun w' ho h117 h2 => k w' ⟨⟨?_, ?_⟩, fun i F' hF => ?_⟩ ho)
  · rw [h2, g1, List.length_append, List.length_singleton]; rfl
  · rw [List.length_append, List.length_singleton]; omega
  · by_cases q : i < H.length
    · rw [List.getElem?_append_left q] at hF
      refine (g3 i F' hF).cong (fun o o0 o1 => ?_)
      rw [h117, if_neg (by omega)]
    · rw [List.getElem?_append_right (by omega)] at hF
      have ei : i = H.length := by
        by_cases z : i - H.length = 0
        · omega
        · have : ([F] : List Fs)[i - H.length]? = none := List.getElem?_eq_none (by simp only [List.length_cons, List.length_nil]; omega)
          rw [this] at hF
          cases hF
      rw [ei, Nat.sub_self] at hF
      have : F' = F := (Option.some.inj hF).symm
      rw [this, ei]
      refine hP.cong (fun o o0 o1 => ?_)
      rw [h117, if_pos (by omega)]
      congr 1
      omega
theorem m_save (hd : 11 ≤ d) (hH : HM w H) (hP : PgM (w 116) F.1) (k : ∀ w', HM w' (keepH H F) → (∀ a i, a ≠ 117 → ¬ (a = 115 ∧ i = 2) → w' a i = w a i) → KV w') : C_X9_save d [.inr (.inr 115)] w KV := by
  have hlen := hH.1
  refine ⟨10, hd, e_X9_save ⟨fun q => ?_, fun q => ?_⟩⟩
  · have e : keepH H F = H ++ [F] := by unfold keepH; rw [if_pos (by omega)]
    rw [e] at k
    exact m_save1 (by omega) hH hP k
  · have e : keepH H F = H.tail ++ [F] := by unfold keepH; rw [if_neg (by omega)]
    rw [e] at k
    have hl4 : H.length = 4 := by omega
    refine m_save10 8334 0 w w (by decide) (by decide) q (fun _ _ _ => rfl) (fun i => by rw [if_neg (by omega)]) (fun w1 ho h117 h2 => ?_)
    refine m_save1 (H := H.tail) (F := F) (by rw [List.length_tail]; omega) ⟨⟨by rw [h2, List.length_tail, hl4]; rfl, by rw [List.length_tail]; omega⟩, fun i F' hF => ?_⟩ (hP.cong (fun o o0 o1 => ho 116 o (by decide) (by omega))) (fun w' p1 p2 => k w' p1 (fun a i q1 q2 => by rw [p2 a i q1 q2]; exact ho a i q1 q2))
    rw [List.getElem?_tail] at hF
    have hi : i + 1 < H.length := Classical.byContradiction (fun z => by
      rw [List.getElem?_eq_none (by omega)] at hF
      cases hF)
    refine (hH.2 (i + 1) F' hF).cong (fun o o0 o1 => ?_)
    rw [h117, if_pos (by omega)]
    congr 1
    omega
/-! the same settled sheet, whatever stands at no cell -/
theorem rnd_G {em k : Int → Int} {G G' : Int → Mo Int} (hG : ∀ c, rng c → G' c = G c) (n : Nat) : ∀ (c : Int) (s : RSt), 0 ≤ c → c + n ≤ 72 → rnd em G' k n c s = rnd em G k n c s := by
  induction n with
  | zero => intro c s _ _; rfl
  | succ n ih =>
    intro c s h0 h1
    have e : rstep em G' k c s = rstep em G k c s := by
      unfold rstep
      rw [hG c ⟨h0, by omega⟩]
    unfold rnd
    rw [e]
    exact ih (c + 1) _ (by omega) (by omega)
theorem rnds_G {em k : Int → Int} {G G' : Int → Mo Int} (hG : ∀ c, rng c → G' c = G c) (n : Nat) : ∀ (g : Int) (s : RSt), rnds em G' k n g s = rnds em G k n g s := by
  induction n with
  | zero => intro g s; rfl
  | succ n ih =>
    intro g s
    unfold rnds
    rw [rnd_G hG 72 0 _ (by decide) (by decide)]
    by_cases q : s.2.2.2 = 1
    · rw [if_pos q, if_pos q]
    · rw [if_neg q, if_neg q, ih]
theorem setd_G {em k h : Int → Int} {G G' : Int → Mo Int} {r g : Int} {s : RSt} (hG : ∀ c, rng c → G' c = G c) (hS : SetD em G r k h g s) : SetD em G' r k h g s := by
  obtain ⟨v, e, R, ⟨b1, b2, b3, b4, b5⟩, hf⟩ := hS
  refine ⟨v, e, R, ⟨b1, b2, b3, fun c hc q1 q2 => by rw [hG c hc]; exact b4 c hc q1 q2, fun c hc q1 q2 => by rw [hG c hc]; exact b5 c hc q1 q2⟩, ?_⟩
  rw [hf]
  unfold fin2
  rw [rnds_G hG]
theorem emM_none (h : tx (-1) ≠ []) : emM tx (-1) = emT tx := by
  funext c
  unfold emM emT
  by_cases q : tx c = []
  · have : c ≠ -1 := fun z => h (by rw [← z]; exact q)
    rw [if_pos ⟨q, this⟩, if_pos q]
  · rw [if_neg (fun z => q z.1), if_neg q]
theorem GM_none {nb : Int} : ∀ c, rng c → GM tx (-1) nb c = (fun c => Fm (tx c)) c := fun c hc => by
  unfold GM
  unfold rng at hc
  rw [if_neg (by omega)]
theorem gdg_tx (hL : ML w tx) : GdG (emT tx) (fun c => Fm (tx c)) := fun c hc h0 => gd_Fm (hL c hc).1 (fun z => h0 (if_pos z))
def MDt (D : Dt) (w : Wd) : Prop := MD D.1 D.2.1 D.2.2.1 D.2.2.2 w
/-- settling with no number given: what is known to be the settled sheet -/
theorem m_settle0 (hd : 52 ≤ d) (hL : ML w tx) (htx : tx (-1) ≠ []) (hg : w 115 42 = -1) (hnb : PV (w 115 43)) (hr40 : 0 ≤ w 116 2520 ∧ w 116 2520 ≤ 40) (hSt : StD tx (w 116 2520) D) (kk : ∀ w', FrS w w' → MDt D w' → KV w') : C_X9_settles d [.inr (.inr 115)] w KV := by
  refine m_settles hd hL hnb ⟨hg, rfl⟩ hr40 (fun w' k h g s hS hF hM => kk w' hF ?_)
  rw [emM_none htx] at hS
  have hS2 := setd_G (fun c hc => (GM_none (tx := tx) (nb := w 115 43) c hc).symm) hS
  obtain ⟨q1, q2, q3, q4⟩ := setd_uni (gdg_tx hL) hSt hS2
  unfold MDt
  rw [← q1, ← q2, ← q3, ← q4]
  exact hM
def RemM (F0 : Fs) (w : Wd) : Prop := ∀ c, rng c → w 125 c = F0.2.2.2.2.1 c ∧ w 126 c = F0.2.2.2.2.2.1 c ∧ w 127 c = F0.2.1 c ∧ w 128 c = 1 - emT F0.1.1 c ∧ RdL w 129 130 c (F0.2.2.2.2.2.2.1 c)
theorem m_remembers (hd : 2 ≤ d) (hL : ML w F0.1.1) (hg : w 115 42 = -1) (hM : MDt F0.2 w) (hD : DOk F0.2) (k : ∀ w', RemM F0 w' → (∀ c, rng c → w' 132 c = 0) → (∀ a i, ¬ (125 ≤ a ∧ a ≤ 130) → a ≠ 132 → w' a i = w a i) → KV w') : C_X9_remembers d [.inr (.inr 115)] w KV := by
  have loop82 : ∀ (n : Nat) (m : Int) (w2 : Wd), m + n = 5184 → 0 ≤ m → (∀ i, 0 ≤ i → i < m → w2 130 i = w 124 i) → (∀ a i, ¬ (125 ≤ a ∧ a ≤ 130) → a ≠ 132 → w2 a i = w a i) → (∀ w3, (∀ i, 0 ≤ i → i < 5184 → w3 130 i = w 124 i) → (∀ a i, a ≠ 130 → w3 a i = w2 a i) → KV w3) → W_X9_remembers 1 82 [some (.inr (.inr 115)), some (.inl m)] [] w2 KV := by
    intro n
    induction n with
    | zero =>
      intro m w2 hm h0 h130 ho k3
      exact v_X9_remembers_82 ⟨fun _ => k3 w2 (fun i i0 i1 => h130 i i0 (by omega)) (fun _ _ _ => rfl), fun z => by omega⟩
    | succ n ih =>
      intro m w2 hm h0 h130 ho k3
      refine v_X9_remembers_82 ⟨fun z => by omega, fun _ => ⟨by omega, by omega, ?_⟩⟩
      rintro w1 rfl
      refine ⟨by omega, ih (m + 1) _ (by omega) (by omega) (fun i i0 i1 => ?_) (fun a i q1 q2 => by rw [wset_at (by omega)]; exact ho a i q1 q2) (fun w3 p1 p2 => k3 w3 p1 (fun a i q => by rw [p2 a i q, wset_at (fun y => q y.1)]))⟩
      by_cases q : i = m
      · rw [q, wset_eq]; exact ho 124 m (by decide) (by decide)
      · rw [wset_at (by omega)]; exact h130 i i0 (by omega)
  have loop : ∀ (n : Nat) (m : Int) (w2 : Wd), m + n = 72 → 0 ≤ m → (∀ c, 0 ≤ c → c < m → w2 125 c = F0.2.2.2.2.1 c ∧ w2 126 c = F0.2.2.2.2.2.1 c ∧ w2 127 c = F0.2.1 c ∧ w2 128 c = 1 - emT F0.1.1 c ∧ w2 129 c = w 123 c ∧ w2 132 c = 0) → (∀ a i, ¬ (125 ≤ a ∧ a ≤ 130) → a ≠ 132 → w2 a i = w a i) → W_X9_remembers 1 2 [some (.inr (.inr 115)), some (.inl m)] [] w2 KV := by
    intro n
    induction n with
    | zero =>
      intro m w2 hm h0 hc ho
      refine v_X9_remembers_2 ⟨fun _ => loop82 5184 0 w2 (by decide) (by decide) (fun i i0 i1 => by omega) ho (fun w3 p1 p2 => ?_), fun z => by omega⟩
      have hc' : ∀ c, rng c → _ := fun c hcr => hc c hcr.1 (by have := hcr.2; omega)
      refine k w3 (fun c hcr => ?_) (fun c hcr => ?_) (fun a i q1 q2 => ?_)
      · obtain ⟨g1, g2, g3, g4, g5, g6⟩ := hc' c hcr
        have hrl := (hM.1 c hcr).2.2.2.2
        have hlen := hrl.len
        unfold rng at hcr
        rw [p2 125 c (by decide), p2 126 c (by decide), p2 127 c (by decide), p2 128 c (by decide)]
        exact ⟨g1, g2, g3, g4, by rw [p2 129 c (by decide), g5]; exact hrl.1, fun j hj => by rw [p1 _ (by omega) (by omega)]; exact hrl.2.1 j hj, hrl.2.2⟩
      · rw [p2 132 c (by decide)]; exact (hc' c hcr).2.2.2.2.2
      · rw [p2 a i (by omega)]; exact ho a i q1 q2
    | succ n ih =>
      intro m w2 hm h0 hc ho
      have hrm : rng m := ⟨h0, by omega⟩
      have hm0 := hM.1 m hrm
      have hk01 := (hD.1 m hrm).1
      have hln := (hL m hrm).2.1
      refine v_X9_remembers_2 ⟨fun z => by omega, fun _ => ⟨hrm, hrm, ?_⟩⟩
      rw [ho 119 m (by decide) (by decide)]
      rintro w3 rfl
      refine ⟨hrm, hrm, ?_⟩
      rw [show wset w2 125 m (w 119 m) 120 m = w 120 m by rw [wset_at (by omega)]; exact ho 120 m (by decide) (by decide)]
      rintro w4 rfl
      refine ⟨hrm, hrm, ?_⟩
      rw [show wset (wset w2 125 m (w 119 m)) 126 m (w 120 m) 121 m = w 121 m by rw [wset_at (by omega), wset_at (by omega)]; exact ho 121 m (by decide) (by decide)]
      refine ⟨by rw [hm0.2.2.2.1]; exact hk01, ?_⟩
      rintro w5 rfl
      generalize hw5 : wset (wset (wset w2 125 m (w 119 m)) 126 m (w 120 m)) 127 m (w 121 m) = w5
      have o5 : ∀ a i, a ≠ 125 → a ≠ 126 → a ≠ 127 → w5 a i = w2 a i := fun a i q1 q2 q3 => by rw [← hw5, wset_at (by omega), wset_at (by omega), wset_at (by omega)]
      refine ⟨0, by decide, e_X9_isEmpty ?_⟩
      rw [show (0 : Int) + m = m by omega, o5 116 m (by decide) (by decide) (by decide), ho 116 m (by decide) (by decide), hln, o5 115 42 (by decide) (by decide) (by decide), ho 115 42 (by decide) (by decide), hg]
      have go : ∀ x1 : Int, x1 = 1 - emT F0.1.1 m → (0 ≤ m ∧ m < 72) ∧ (x1 = 0 ∨ x1 = 1) ∧ (∀ w6, w6 = wset w5 128 m x1 → (0 ≤ m ∧ m < 72) ∧ (0 ≤ m ∧ m < 72) ∧ (∀ w7, w7 = wset w6 129 m (w6 123 m) → (0 ≤ m ∧ m < 72) ∧ (∀ w8, w8 = wset w7 132 m 0 → (-2147483648 ≤ (m + 1) ∧ (m + 1) ≤ 2147483647) ∧ W_X9_remembers 1 2 [some (.inr (.inr 115)), some (.inl (m + 1))] [] w8 KV))) := by
        intro x1 hx1
        refine ⟨hrm, ?_, ?_⟩
        · unfold emT at hx1
          split at hx1
          · right; exact hx1
          · left; exact hx1
        rintro w6 rfl
        refine ⟨hrm, hrm, ?_⟩
        rw [show wset w5 128 m x1 123 m = w 123 m by rw [wset_at (by omega), o5 123 m (by decide) (by decide) (by decide)]; exact ho 123 m (by decide) (by decide)]
        rintro w7 rfl
        refine ⟨hrm, ?_⟩
        rintro w8 rfl
        refine ⟨by omega, ih (m + 1) _ (by omega) (by omega) (fun c c0 c1 => ?_) (fun a i q1 q2 => ?_)⟩
        · by_cases q : c = m
          · rw [q, wset_at (by omega), wset_at (by omega), wset_at (by omega), wset_at (by omega), wset_at (by omega), wset_at (by omega), wset_at (by omega), wset_at (by omega), wset_at (by omega), wset_at (by omega), wset_at (by omega), wset_eq, wset_at (by omega), wset_eq, wset_eq, ← hw5, wset_at (by omega), wset_at (by omega), wset_eq, wset_at (by omega), wset_eq, wset_eq]
            exact ⟨hm0.1, hm0.2.1, hm0.2.2.2.1, hx1, rfl, rfl⟩
          · have := hc c c0 (by omega)
            have e : ∀ a, wset (wset (wset w5 128 m x1) 129 m (w 123 m)) 132 m 0 a c = w2 a c := fun a => by
              rw [wset_at (fun y => q y.2), wset_at (fun y => q y.2), wset_at (fun y => q y.2), ← hw5, wset_at (fun y => q y.2), wset_at (fun y => q y.2), wset_at (fun y => q y.2)]
            rw [e, e, e, e, e, e]
            exact this
        · rw [wset_at (by omega), wset_at (by omega), wset_at (by omega), o5 a i (by omega) (by omega) (by omega)]
          exact ho a i q1 q2
      have e : ((F0.1.1 m).length : Int) = 0 ↔ F0.1.1 m = [] := ⟨fun z => List.eq_nil_of_length_eq_zero (by omega), fun z => by rw [z]; rfl⟩
      unfold emT at go
      have hmr := hrm
      unfold rng at hmr
      refine ⟨by omega, by omega, fun z => go 0 (by rw [if_neg (fun y => z (e.mpr y))]; rfl), fun z => ⟨fun z2 => by omega, fun z2 => go 1 (by rw [if_pos (e.mp z)]; rfl)⟩⟩
  exact ⟨1, hd, e_X9_remembers (loop 72 0 w (by decide) (by decide) (fun c c0 c1 => by omega) (fun _ _ _ _ => rfl))⟩
end BSS
