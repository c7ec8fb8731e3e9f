/-! ===== WHAT A SHEET IS WORTH: the cells that are known, and those in cycles ===== -/
def rng (c : Int) : Prop := 0 ≤ c ∧ c < 72
def lt (L : List Int) : Int → Int := fun i => L.getD i.toNat 0
def Wf (L : List Int) : Prop := L.length ≤ 30 ∧ (L ≠ [] → ckFault (lt L) L.length = -1)
/-- the value of a text -/
def Fm (L : List Int) : Mo Int := mbind (evTop (lt L) L.length) (fun r => mpure r.1)
def outV : (Int × Int) ⊕ Int → Int
  | .inl _ => 0
  | .inr v => v
def outE : (Int × Int) ⊕ Int → Int
  | .inl x => x.1
  | .inr _ => 0
theorem gd_Fm {L : List Int} (h : Wf L) (h0 : L ≠ []) : Gd PV (Fm L) := by
  have hn : (L.length : Int) ≠ 0 := by
    intro z
    exact h0 (List.eq_nil_of_length_eq_zero (by omega))
  exact Gd.bind (gd_top hn (h.2 h0) ⟨by omega, by have := h.1; omega⟩) (fun r hr => Gd.pure hr)
theorem Fm_inl {L : List Int} {e : Env'} {l l1 : List Int} {x : Int × Int} (h : evTop (lt L) L.length e l = (l1, .inl x)) : Fm L e l = (l1, .inl x) := mbind_inl h
theorem Fm_inr {L : List Int} {e : Env'} {l l1 : List Int} {r : Int × Int} (h : evTop (lt L) L.length e l = (l1, .inr r)) : Fm L e l = (l1, .inr r.1) := mbind_inr h
/-- it depends on the cells of the sheet alone -/
theorem Gd.cong {α : Type} {P : α → Prop} {m : Mo α} {e e' : Env'} {l : List Int} (h : Gd P m) (hE : OkE e) (hL : OkL l) (he : ∀ c, rng c → e' c = e c) : m e' l = m e l :=
  (h e l hE hL).2.2.2.1.1 e' (fun c hc => he c ((h e l hE hL).1.2 c hc))
theorem okl_nil : OkL [] := ⟨List.nodup_nil, fun c hc => by cases hc⟩
def hgt (h : Int → Int) (l : List Int) : Int := l.foldl (fun a x => max a (h x + 1)) 0
theorem hgt_from (h : Int → Int) (l : List Int) : ∀ a, a ≤ l.foldl (fun a x => max a (h x + 1)) a ∧ ∀ x ∈ l, h x + 1 ≤ l.foldl (fun a x => max a (h x + 1)) a := by
  induction l with
  | nil => exact fun a => ⟨Int.le_refl a, fun x hx => by cases hx⟩
  | cons y l ih =>
    intro a
    have := ih (max a (h y + 1))
    refine ⟨by simp only [List.foldl_cons]; omega, fun x hx => ?_⟩
    simp only [List.foldl_cons]
    rcases List.mem_cons.mp hx with q | q
    · rw [q]; omega
    · exact this.2 x q
theorem hgt_mem {h : Int → Int} {l : List Int} {x : Int} (hx : x ∈ l) : h x + 1 ≤ hgt h l := (hgt_from h l 0).2 x hx
theorem hgt_pos {h : Int → Int} {l : List Int} : 0 ≤ hgt h l := (hgt_from h l 0).1
theorem hgt_cong {h h' : Int → Int} {l : List Int} (hh : ∀ x, x ∈ l → h' x = h x) : hgt h' l = hgt h l := by
  unfold hgt
  generalize (0 : Int) = a
  induction l generalizing a with
  | nil => rfl
  | cons y l ih =>
    simp only [List.foldl_cons]
    rw [hh y List.mem_cons_self]
    exact ih (fun x hx => hh x (List.mem_cons_of_mem _ hx)) _
def envB (em k v e : Int → Int) : Env' := fun x => ((k x, v x), (e x, em x))
/-- every cell that can be known is known, what it is worth, its height, what it reads; the others are stopped by one that is not known -/
def Base (em : Int → Int) (G : Int → Mo Int) (k v e h : Int → Int) (R : Int → List Int) : Prop :=
  (∀ c, ¬ rng c → k c = 0 ∧ v c = 0 ∧ e c = 0 ∧ h c = 0 ∧ R c = []) ∧
  (∀ c, rng c → (k c = 0 ∨ k c = 1) ∧ PV (v c) ∧ 0 ≤ e c ∧ e c ≤ 4) ∧
  (∀ c, rng c → em c = 0 → k c = 0 ∧ v c = 0 ∧ e c = 0 ∧ h c = 0 ∧ R c = []) ∧
  (∀ c, rng c → em c ≠ 0 → k c = 0 → (∃ res, G c (envB em k v e) [] = (R c, res) ∧ blk res = -1 ∧ v c = outV res ∧ e c = outE res) ∧ h c = hgt h (R c)) ∧
  (∀ c, rng c → em c ≠ 0 → k c = 1 → (∃ b, rng b ∧ G c (envB em k v e) [] = (R c, .inl (4, b))) ∧ v c = 0 ∧ e c = 0 ∧ h c = 0)
def GdG (em : Int → Int) (G : Int → Mo Int) : Prop := ∀ c, rng c → em c ≠ 0 → Gd PV (G c)
section BAS
variable {em k v e h k' v' e' h' : Int → Int} {G : Int → Mo Int} {R R' : Int → List Int}
theorem Base.okE (hb : Base em G k v e h R) : OkE (envB em k v e) := fun c h0 h1 => ⟨(hb.2.1 c ⟨h0, h1⟩).2.1, (hb.2.1 c ⟨h0, h1⟩).2.2⟩
theorem Base.reads (hG : GdG em G) (hb : Base em G k v e h R) {c x : Int} (hc : rng c) (hk : k c = 0) (hx : x ∈ R c) : rng x ∧ k x = 0 ∧ h x < h c := by
  by_cases he : em c = 0
  · rw [(hb.2.2.1 c hc he).2.2.2.2] at hx
    cases hx
  · obtain ⟨⟨res, h1, h2, _⟩, h3⟩ := hb.2.2.2.1 c hc he hk
    have hg := hG c hc he (envB em k v e) [] hb.okE okl_nil
    rw [h1] at hg
    have hr : rng x := hg.1.2 x hx
    refine ⟨hr, ?_, ?_⟩
    · rcases hg.2.2.1 x hx with z | z | z
      · cases z
      · exact z
      · rw [h2] at z
        unfold rng at hr
        omega
    · rw [h3]
      have := hgt_mem (h := h) hx
      omega
theorem base_le (hG : GdG em G) (hb : Base em G k v e h R) (hb' : Base em G k' v' e' h' R') (N : Nat) : ∀ c, rng c → k c = 0 → h c < N → k' c = 0 ∧ v' c = v c ∧ e' c = e c ∧ h' c = h c ∧ R' c = R c := by
  induction N with
  | zero =>
    intro c hc hk hN
    by_cases he : em c = 0
    · have := (hb.2.2.1 c hc he).2.2.2.1
      omega
    · have := (hb.2.2.2.1 c hc he hk).2
      have := hgt_pos (h := h) (l := R c)
      omega
  | succ N ih =>
    intro c hc hk hN
    by_cases he : em c = 0
    · obtain ⟨a1, a2, a3, a4, a5⟩ := hb.2.2.1 c hc he
      obtain ⟨b1, b2, b3, b4, b5⟩ := hb'.2.2.1 c hc he
      exact ⟨b1, by rw [a2, b2], by rw [a3, b3], by rw [a4, b4], by rw [a5, b5]⟩
    · obtain ⟨⟨res, h1, h2, h3, h4⟩, h5⟩ := hb.2.2.2.1 c hc he hk
      have hrd : ∀ x, x ∈ R c → k' x = 0 ∧ v' x = v x ∧ e' x = e x ∧ h' x = h x ∧ R' x = R x := fun x hx => by
        obtain ⟨q1, q2, q3⟩ := hb.reads hG hc hk hx
        exact ih x q1 q2 (by omega)
      have hrk : ∀ x, x ∈ R c → k x = 0 := fun x hx => (hb.reads hG hc hk hx).2.1
      have hg := (hG c hc he (envB em k v e) [] hb.okE okl_nil).2.2.2.1.1 (envB em k' v' e') (fun x hx => by
        rw [h1] at hx
        obtain ⟨q1, q2, q3, _⟩ := hrd x hx
        unfold envB
        rw [q1, q2, q3, hrk x hx])
      rw [h1] at hg
      have hk' : k' c = 0 := by
        rcases (hb'.2.1 c hc).1 with z | z
        · exact z
        · obtain ⟨⟨b, hbr, hb1⟩, _⟩ := hb'.2.2.2.2 c hc he z
          rw [hg] at hb1
          have := (Prod.mk.inj hb1).2
          rw [this] at h2
          have h2' : b = -1 := h2
          unfold rng at hbr
          omega
      obtain ⟨⟨res', g1, g2, g3, g4⟩, g5⟩ := hb'.2.2.2.1 c hc he hk'
      rw [hg] at g1
      have e1 := (Prod.mk.inj g1).1
      have e2 := (Prod.mk.inj g1).2
      rw [← e2] at g3 g4
      refine ⟨hk', by rw [g3, h3], by rw [g4, h4], ?_, e1.symm⟩
      rw [g5, h5, ← e1]
      exact hgt_cong (fun x hx => (hrd x hx).2.2.2.1)
theorem base_uni (hG : GdG em G) (hb : Base em G k v e h R) (hb' : Base em G k' v' e' h' R') : k' = k ∧ v' = v ∧ e' = e ∧ h' = h ∧ R' = R := by
  have l1 : ∀ c, rng c → k c = 0 → k' c = 0 ∧ v' c = v c ∧ e' c = e c ∧ h' c = h c ∧ R' c = R c := fun c hc hk => base_le hG hb hb' ((h c).toNat + 1) c hc hk (by omega)
  have l2 : ∀ c, rng c → k' c = 0 → k c = 0 := fun c hc hk => (base_le hG hb' hb ((h' c).toNat + 1) c hc hk (by omega)).1
  have hk : ∀ c, rng c → k' c = k c := by
    intro c hc
    rcases (hb.2.1 c hc).1 with z | z
    · rw [z, (l1 c hc z).1]
    · rcases (hb'.2.1 c hc).1 with y | y
      · have := l2 c hc y
        omega
      · rw [y, z]
  have emp : ∀ c, rng c → k c = 1 → em c ≠ 0 := fun c hc z q => by have := (hb.2.2.1 c hc q).1; omega
  have hve : ∀ c, rng c → v' c = v c ∧ e' c = e c ∧ h' c = h c := by
    intro c hc
    rcases (hb.2.1 c hc).1 with z | z
    · obtain ⟨_, q1, q2, q3, _⟩ := l1 c hc z
      exact ⟨q1, q2, q3⟩
    · have y : k' c = 1 := by rw [hk c hc]; exact z
      obtain ⟨_, q1, q2, q3⟩ := hb.2.2.2.2 c hc (emp c hc z) z
      obtain ⟨_, p1, p2, p3⟩ := hb'.2.2.2.2 c hc (emp c hc z) y
      exact ⟨by rw [p1, q1], by rw [p2, q2], by rw [p3, q3]⟩
  have hR : ∀ c, rng c → R' c = R c := by
    intro c hc
    rcases (hb.2.1 c hc).1 with z | z
    · exact (l1 c hc z).2.2.2.2
    · have y : k' c = 1 := by rw [hk c hc]; exact z
      obtain ⟨⟨b, _, q⟩, _⟩ := hb.2.2.2.2 c hc (emp c hc z) z
      obtain ⟨⟨b', _, p⟩, _⟩ := hb'.2.2.2.2 c hc (emp c hc z) y
      have := (hG c hc (emp c hc z)).cong hb.okE okl_nil (e' := envB em k' v' e') (fun x hx => by
        unfold envB
        rw [hk x hx, (hve x hx).1, (hve x hx).2.1])
      rw [this, q] at p
      exact (Prod.mk.inj p).1.symm
  have go : ∀ {α : Type} (f' f : Int → α), (∀ c, rng c → f' c = f c) → (∀ c, ¬ rng c → f' c = f c) → f' = f := fun f' f g1 g2 => funext (fun c => Classical.byCases (p := rng c) (g1 c) (g2 c))
  exact ⟨go _ _ hk (fun c hc => by rw [(hb.1 c hc).1, (hb'.1 c hc).1]), go _ _ (fun c hc => (hve c hc).1) (fun c hc => by rw [(hb.1 c hc).2.1, (hb'.1 c hc).2.1]), go _ _ (fun c hc => (hve c hc).2.1) (fun c hc => by rw [(hb.1 c hc).2.2.1, (hb'.1 c hc).2.2.1]), go _ _ (fun c hc => (hve c hc).2.2) (fun c hc => by rw [(hb.1 c hc).2.2.2.1, (hb'.1 c hc).2.2.2.1]), go _ _ hR (fun c hc => by rw [(hb.1 c hc).2.2.2.2, (hb'.1 c hc).2.2.2.2])⟩
end BAS
/-! sums over the cells -/
def sm : Nat → (Int → Int) → Int
  | 0, _ => 0
  | n + 1, f => sm n f + f n
theorem sm_cong {f g : Int → Int} (n : Nat) (h : ∀ c : Int, 0 ≤ c → c < n → f c = g c) : sm n f = sm n g := by
  induction n with
  | zero => rfl
  | succ n ih =>
    unfold sm
    rw [ih (fun c h0 h1 => h c h0 (by omega)), h n (by omega) (by omega)]
theorem sm_upd {f g : Int → Int} {c : Int} (n : Nat) (h0 : 0 ≤ c) (h1 : c < n) (h : ∀ x, x ≠ c → g x = f x) : sm n g = sm n f - f c + g c := by
  induction n with
  | zero => omega
  | succ n ih =>
    unfold sm
    by_cases q : c = n
    · rw [sm_cong (f := g) (g := f) n (fun x h0 h1 => h x (by omega)), q]
      omega
    · rw [ih (by omega), h n (by omega)]
      omega
theorem sm_bd {f : Int → Int} {a b : Int} (n : Nat) (h : ∀ c : Int, 0 ≤ c → c < n → a ≤ f c ∧ f c ≤ b) : a * n ≤ sm n f ∧ sm n f ≤ b * n := by
  induction n with
  | zero => unfold sm; omega
  | succ n ih =>
    unfold sm
    have h1 := ih (fun c h0 h1 => h c h0 (by omega))
    have h2 := h n (by omega) (by omega)
    have e1 : a * ((n + 1 : Nat) : Int) = a * n + a := by rw [show ((n + 1 : Nat) : Int) = (n : Int) + 1 by omega, Int.mul_add, Int.mul_one]
    have e2 : b * ((n + 1 : Nat) : Int) = b * n + b := by rw [show ((n + 1 : Nat) : Int) = (n : Int) + 1 by omega, Int.mul_add, Int.mul_one]
    omega
/-! the rounds over the cells in cycles -/
def envR (em v e : Int → Int) : Env' := fun x => ((0, v x), (e x, em x))
def up1 {α : Type} (f : Int → α) (c : Int) (x : α) : Int → α := fun i => if i = c then x else f i
abbrev RSt : Type := (Int → Int) × (Int → Int) × (Int → List Int) × Int
/-- one cell of a round; the last number: 1 as long as nothing has changed -/
def rstep (em : Int → Int) (G : Int → Mo Int) (k : Int → Int) (c : Int) (s : RSt) : RSt :=
  if k c = 1 then
    (up1 s.1 c (outV (G c (envR em s.1 s.2.1) []).2), up1 s.2.1 c (outE (G c (envR em s.1 s.2.1) []).2), up1 s.2.2.1 c (G c (envR em s.1 s.2.1) []).1,
      if s.2.2.2 = 1 ∧ s.1 c = outV (G c (envR em s.1 s.2.1) []).2 ∧ s.2.1 c = outE (G c (envR em s.1 s.2.1) []).2 then 1 else 0)
  else s
def rnd (em : Int → Int) (G : Int → Mo Int) (k : Int → Int) : Nat → Int → RSt → RSt
  | 0, _, s => s
  | n + 1, c, s => rnd em G k n (c + 1) (rstep em G k c s)
/-- the rounds: what is left of them, how many are gone, whether it is settled -/
def rnds (em : Int → Int) (G : Int → Mo Int) (k : Int → Int) : Nat → Int → RSt → Int × RSt
  | 0, g, s => (g, s)
  | n + 1, g, s => if s.2.2.2 = 1 then (g, s) else rnds em G k n (g + 1) (rnd em G k 72 0 (s.1, s.2.1, s.2.2.1, 1))
def anyK (k : Int → Int) : Int := sm 72 (fun c => if k c = 1 then 1 else 0)
/-- all that is told of the cells: gone rounds, values, errors, reads, settled -/
def fin2 (em : Int → Int) (G : Int → Mo Int) (r : Int) (k v e : Int → Int) (R : Int → List Int) : Int × RSt :=
  rnds em G k r.toNat 0 (v, fun c => if k c = 1 then (if r = 0 then 4 else 0) else e c, R, if anyK k = 0 then 1 else 0)
/-- a settled sheet -/
def SetD (em : Int → Int) (G : Int → Mo Int) (r : Int) (k h : Int → Int) (g : Int) (s : RSt) : Prop := ∃ v e R, Base em G k v e h R ∧ (g, s) = fin2 em G r k v e R
theorem setd_uni {em k h k' h' : Int → Int} {G : Int → Mo Int} {r g g' : Int} {s s' : RSt} (hG : GdG em G) (h1 : SetD em G r k h g s) (h2 : SetD em G r k' h' g' s') : k' = k ∧ h' = h ∧ g' = g ∧ s' = s := by
  obtain ⟨v, e, R, b1, f1⟩ := h1
  obtain ⟨v', e', R', b2, f2⟩ := h2
  obtain ⟨q1, q2, q3, q4, q5⟩ := base_uni hG b1 b2
  subst q1 q2 q3 q4 q5
  rw [← f1] at f2
  exact ⟨rfl, rfl, (Prod.mk.inj f2).1, (Prod.mk.inj f2).2⟩
