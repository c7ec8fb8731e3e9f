/-! ===== THE ABSTRACT MACHINE: values are whole numbers, a world is a function of cell and slot ===== -/
abbrev AV : Type := Int ⊕ (Int ⊕ Int)
abbrev Wd : Type := Int → Int → Int
def wset (w : Wd) (c i v : Int) : Wd := fun c' i' => if c' = c ∧ i' = i then v else w c' i'
def in32 (x : Int) : Prop := -2147483648 ≤ x ∧ x ≤ 2147483647
def in64 (x : Int) : Prop := -9223372036854775808 ≤ x ∧ x ≤ 9223372036854775807
def am_rf (ad : Int → Nat) (x : Int) : Value := if x = 0 then .null else .ref (ad x)
def am_cv (ad : Int → Nat) (v : AV) : Value := match v with
  | .inl x => .int (Int32.ofInt x)
  | .inr (.inl x) => .long (Int64.ofInt x)
  | .inr (.inr x) => am_rf ad x
def am_ok (v : AV) : Prop := match v with
  | .inl x => in32 x
  | .inr (.inl x) => in64 x
  | .inr (.inr x) => in32 x
def am_cat (v : AV) : Nat := match v with
  | .inl _ => 1
  | .inr (.inl _) => 2
  | .inr (.inr _) => 1
theorem am_cat_cv (ad : Int → Nat) (v : AV) : (am_cv ad v).category = am_cat v := by
  rcases v with x | x | x
  · rfl
  · rfl
  · show (am_rf ad x).category = 1
    unfold am_rf
    split <;> rfl
theorem am_cats (ad : Int → Nat) (st : List AV) : ((st.map (am_cv ad)).map fun v => v.category).sum = (st.map am_cat).sum := by
  induction st with
  | nil => rfl
  | cons v l ih =>
    simp only [List.map_cons, List.sum_cons, am_cat_cv]
    simp only [List.map_map] at ih ⊢
    rw [ih]
/-- kinds: 0 int[], 1 boolean[], 2 long[], 3 State[], k + 4 an object of class k of vwCl -/
def am_layS (o : Int) : Nat × Nat :=
  if o = 0 then (9, 14) else if o = 1 then (11, 2) else if o = 2 then (0, 2160) else if o = 3 then (0, 72) else if o = 4 then (11, 2) else if o = 5 then (0, 2160) else if o = 6 then (0, 72)
  else if o = 12 then (0, 5184) else (0, 72)
def am_layM (o : Int) : Nat × Nat :=
  if o = 0 then (13, 45) else if o = 1 then (0, 2778) else if o = 2 then (0, 11112) else if o = 3 then (0, 30) else if o = 6 then (1, 72) else if o = 9 then (0, 5184) else if o = 12 then (1, 72) else if o = 13 then (1, 72) else if o = 15 then (0, 5184)
  else if o = 16 then (1, 72) else if o = 17 then (1, 72) else if o = 18 then (0, 40) else if o = 19 then (0, 40) else if o = 20 then (1, 40) else if o = 21 then (1, 40) else if o = 22 then (2, 40) else if o = 23 then (2, 40) else if o = 24 then (0, 40) else if o = 25 then (2, 40) else if o = 26 then (1, 40) else if o = 27 then (2, 40) else if o = 28 then (1, 72)
  else (0, 72)
def am_lay (c : Int) : Nat × Nat :=
  if c ≤ 0 then (99, 0) else
  if c = 1 then (12, 8) else if c = 2 then (10, 2) else if c = 3 then (0, 30) else if c = 4 then (10, 2) else if c = 5 then (0, 30)
  else if c < 38 then am_layS ((c - 6) % 16)
  else if c = 38 then (8, 2) else if c = 39 then (3, 4)
  else if c < 104 then am_layS ((c - 40) % 16)
  else if c = 104 then (5, 1) else if c = 105 then (6, 4) else if c = 106 then (0, 0) else if c = 107 then (4, 2) else if c = 108 then (0, 72) else if c = 109 then (7, 8) else if c = 110 then (6, 4) else if c = 111 then (0, 0) else if c = 112 then (0, 72) else if c = 113 then (0, 72) else if c = 114 then (0, 72)
  else if c < 144 then am_layM (c - 115) else (99, 0)
def am_tyk (k : Nat) : FieldType := match k with
  | 0 => .int
  | 1 => .boolean
  | 2 => .long
  | _ => .object RX5
/-- the sort of a field by its type: 0 int, 1 long, 2 a reference -/
def am_sort (t : FieldType) : Nat := match t with
  | .long => 1
  | .object _ => 2
  | .array _ => 2
  | _ => 0
def am_fty (k : Nat) : Nat → FieldType := match k with
  | 0 => tyX0
  | 1 => tyX1
  | 2 => tyX2
  | 3 => tyX3
  | 4 => tyX4
  | 5 => tyX5
  | 6 => tyX6
  | 7 => tyX7
  | 8 => tyX8
  | _ => tyX9
def am_val (ad : Int → Nat) (s : Nat) (x : Int) : Value := match s with
  | 0 => .int (Int32.ofInt x)
  | 1 => .long (Int64.ofInt x)
  | _ => am_rf ad x
def am_ent (tc : Nat → ClassId) (ad : Int → Nat) (w : Wd) (c : Int) : va_E := match (am_lay c).1 with
  | 0 => .inl (tc 0, (am_lay c).2, .inl (fun j => Int32.ofInt (w c j)))
  | 1 => .inl (tc 1, (am_lay c).2, .inl (fun j => Int32.ofInt (w c j)))
  | 2 => .inl (tc 2, (am_lay c).2, .inr (.inl (fun j => Int64.ofInt (w c j))))
  | 3 => .inl (tc 3, (am_lay c).2, .inr (.inr (.inr (.inr (fun j => if w c j = 0 then none else some (ad (w c j)))))))
  | k + 4 => .inr (k, (List.range (am_lay c).2).map (fun j => am_val ad (am_sort (am_fty k j)) (w c j)))
def am_wl (tc : Nat → ClassId) (ad : Int → Nat) (n : Nat) (w : Wd) : va_W := (List.range n).map (fun k : Nat => (ad ((k : Int) + 1), am_ent tc ad w ((k : Int) + 1)))
def am_isL (c j : Int) : Prop := (am_lay c).1 = 2 ∨ ∃ k, (am_lay c).1 = k + 4 ∧ am_sort (am_fty k j.toNat) = 1
/-- what the final fields of references hold, once all is made -/
def am_fixT (ci : Nat) : List (Option Int) := match ci with
  | 0 => [some 109, some 108]
  | 1 => [some 105]
  | 3 => [some 110, some 112, some 113]
  | 4 => [some 39]
  | 5 => [some 1, some 4, some 7, some 8, some 9, some 10, some 11, some 12, some 13, some 14, some 15]
  | 6 => [some 1]
  | 7 => [some 1, some 2]
  | 8 => [some 2, some 4, some 6, some 22, some 38, some 104, some 107, some 114]
  | 9 => [some 116, some 117, none, some 118, none, some 119, some 120, some 121, some 122, some 123, some 124, some 125, some 126, some 127, some 128, some 129, some 130, some 131, some 132, none, none, some 133, some 134, none, none, none, none, none, some 135, some 136, some 137, some 138, some 139, some 140, some 141, some 142, none, none, none, none, none, none, none, none, some 143]
  | _ => []
def am_fixv (ci k : Nat) (c : Int) : Option Int := ((am_fixT ci).getD k none).map (fun v => if ci = 5 ∨ ci = 6 ∨ ci = 7 then c + v else v)
def am_okw (f : Bool) (w : Wd) : Prop := (∀ c j, (am_isL c j → in64 (w c j)) ∧ (¬ am_isL c j → in32 (w c j))) ∧ (f = true → ∀ (c : Int) (ci k : Nat) (v : Int), (am_lay c).1 = ci + 4 → am_fixv ci k c = some v → w c k = v)
def am_A (base : Nat) : Nat → Prop := fun q => base ≤ q
def am_tys (tc : Nat → ClassId) : List (ClassId × FieldType) := [(tc 0, .int), (tc 1, .boolean), (tc 2, .long), (tc 3, .object RX5)]
def am_AD (ad : Int → Nat) (base : Nat) : Prop := ∀ k : Nat, ad ((k : Int) + 1) = base + k
theorem am_wl_at {tc : Nat → ClassId} {ad : Int → Nat} {n : Nat} {w : Wd} {c : Int} (h1 : 1 ≤ c) (h2 : c ≤ n) : (am_wl tc ad n w)[(c - 1).toNat]? = some (ad c, am_ent tc ad w c) := by
  obtain ⟨k, rfl⟩ : ∃ k : Nat, c = (k : Int) + 1 := ⟨(c - 1).toNat, by omega⟩
  have hk : k < n := by omega
  have e : ((k : Int) + 1 - 1).toNat = k := by omega
  rw [e]
  simp [am_wl, hk]
theorem am_wl_len {tc : Nat → ClassId} {ad : Int → Nat} {n : Nat} {w : Wd} : (am_wl tc ad n w).length = n := by simp [am_wl]
theorem am_wl_get {tc : Nat → ClassId} {ad : Int → Nat} {n : Nat} {w : Wd} {i : Nat} {q : Nat × va_E} (h : (am_wl tc ad n w)[i]? = some q) : i < n ∧ q = (ad ((i : Int) + 1), am_ent tc ad w ((i : Int) + 1)) := by
  have hi : i < n := by
    have := (List.getElem?_eq_some_iff.mp h).1
    rw [am_wl_len] at this
    exact this
  refine ⟨hi, ?_⟩
  have h2 := am_wl_at (tc := tc) (ad := ad) (n := n) (w := w) (c := (i : Int) + 1) (by omega) (by omega)
  rw [show ((i : Int) + 1 - 1).toNat = i by omega, h] at h2
  exact Option.some.inj h2
theorem am_wl_D {tc : Nat → ClassId} {ad : Int → Nat} {n base : Nat} {w : Wd} (h : am_AD ad base) : va_D (am_A base) (am_wl tc ad n w) := by
  refine ⟨fun i j p q hi hj e => ?_, fun k q hk => ?_⟩
  · obtain ⟨-, rfl⟩ := am_wl_get hi
    obtain ⟨-, rfl⟩ := am_wl_get hj
    dsimp only at e
    rw [h i, h j] at e
    omega
  · obtain ⟨-, rfl⟩ := am_wl_get hk
    show base ≤ ad _
    rw [h k]
    omega
/-- writing one entry -/
theorem am_wl_set {tc : Nat → ClassId} {ad : Int → Nat} {n : Nat} {w w' : Wd} {c : Int} (h1 : 1 ≤ c) (he : ∀ c', c' ≠ c → w' c' = w c') : (am_wl tc ad n w).set (c - 1).toNat (ad c, am_ent tc ad w' c) = am_wl tc ad n w' := by
  apply List.ext_getElem?
  intro i
  rw [List.getElem?_set]
  by_cases hi : i < n
  · have hg := fun w : Wd => am_wl_at (tc := tc) (ad := ad) (n := n) (w := w) (c := (i : Int) + 1) (by omega) (by omega)
    simp only [show ((i : Int) + 1 - 1).toNat = i by omega] at hg
    rw [hg, hg]
    by_cases e : (c - 1).toNat = i
    · have hc : c = (i : Int) + 1 := by omega
      subst hc
      rw [if_pos e, if_pos (by rw [am_wl_len]; omega)]
    · rw [if_neg e]
      have : am_ent tc ad w ((i : Int) + 1) = am_ent tc ad w' ((i : Int) + 1) := by
        have hc := he ((i : Int) + 1) (by omega)
        unfold am_ent
        rw [hc]
      rw [this]
  · have hl : ∀ w : Wd, (am_wl tc ad n w)[i]? = none := fun w => List.getElem?_eq_none (by rw [am_wl_len]; omega)
    rw [hl, hl]
    split
    · rw [if_neg (by rw [am_wl_len]; omega)]
    · rfl
/-- locals -/
def am_lv (ad : Int → Nat) (als : List (Option AV)) : List (Nat × Value) := (List.range als.length).filterMap (fun i => match als[i]? with
  | some (some a) => some (i, am_cv ad a)
  | _ => none)
theorem am_lv_mem {ad : Int → Nat} {als : List (Option AV)} {q : Nat × Value} : q ∈ am_lv ad als ↔ ∃ a, als[q.1]? = some (some a) ∧ q.2 = am_cv ad a := by
  unfold am_lv
  rw [List.mem_filterMap]
  constructor
  · rintro ⟨i, -, h⟩
    split at h
    · rename_i a ha
      cases h
      exact ⟨a, ha, rfl⟩
    · cases h
  · rintro ⟨a, ha, hq⟩
    refine ⟨q.1, List.mem_range.mpr (List.getElem?_eq_some_iff.mp ha).1, ?_⟩
    rw [ha]
    show some (q.1, am_cv ad a) = some q
    rw [← hq]
theorem lv_has_mono {ls : Array Slot} {nL : Nat} {l l' : List (Nat × Value)} (h : lv_has ls nL l) (hs : ∀ q ∈ l', q ∈ l) : lv_has ls nL l' := ⟨h.1, h.2.1, fun q hq => h.2.2 q (hs q hq)⟩
def am_kill (als : List (Option AV)) (i : Nat) : List (Option AV) := match i with
  | 0 => als
  | j + 1 => match als[j]? with
    | some (some (.inr (.inl _))) => als.set j none
    | _ => als
def am_s1 (als : List (Option AV)) (i : Nat) (v : AV) : List (Option AV) := (am_kill als i).set i (some v)
def am_s2 (als : List (Option AV)) (i : Nat) (v : AV) : List (Option AV) := ((am_kill als i).set i (some v)).set (i + 1) none
theorem am_kill_get {als : List (Option AV)} {i j : Nat} {a : AV} (h : (am_kill als i)[j]? = some (some a)) : als[j]? = some (some a) ∧ ¬ (j + 1 = i ∧ am_cat a = 2) := by
  unfold am_kill at h
  cases i with
  | zero => exact ⟨h, fun z => by omega⟩
  | succ k =>
    dsimp only at h
    split at h
    · rename_i x hx
      rw [List.getElem?_set] at h
      by_cases e : k = j
      · rw [if_pos e] at h
        split at h <;> cases h
      · rw [if_neg e] at h
        exact ⟨h, fun z => by omega⟩
    · rename_i hx
      refine ⟨h, fun z => ?_⟩
      obtain ⟨z1, z2⟩ := z
      have e : j = k := by omega
      subst e
      rcases a with x | x | x
      · cases z2
      · exact hx x h
      · cases z2
theorem am_s1_sub {ad : Int → Nat} {als : List (Option AV)} {i : Nat} {v : AV} : ∀ q ∈ am_lv ad (am_s1 als i v), q ∈ (i, am_cv ad v) :: (am_lv ad als).filter (fun q => !(q.1 == i) && !(q.1 + 1 == i && q.2.category == 2)) := by
  intro q hq
  obtain ⟨a, ha, he⟩ := am_lv_mem.mp hq
  unfold am_s1 at ha
  rw [List.getElem?_set] at ha
  by_cases e : i = q.1
  · rw [if_pos e] at ha
    split at ha
    · cases ha
      obtain ⟨q1, q2⟩ := q
      dsimp only at e he
      subst e; subst he
      exact List.mem_cons_self
    · cases ha
  · rw [if_neg e] at ha
    obtain ⟨h1, h2⟩ := am_kill_get ha
    refine List.mem_cons_of_mem _ (List.mem_filter.mpr ⟨am_lv_mem.mpr ⟨a, h1, he⟩, ?_⟩)
    rw [he, am_cat_cv]
    have e1 : (q.1 == i) = false := by simpa using fun z => e z.symm
    rw [e1]
    by_cases e2 : q.1 + 1 = i
    · have : ¬ am_cat a = 2 := fun z => h2 ⟨e2, z⟩
      simp [this]
    · simp [e2]
theorem am_s2_sub {ad : Int → Nat} {als : List (Option AV)} {i : Nat} {v : AV} : ∀ q ∈ am_lv ad (am_s2 als i v), q ∈ (i, am_cv ad v) :: (am_lv ad als).filter (fun q => !(q.1 == i) && (!(q.1 == i + 1) && !(q.1 + 1 == i && q.2.category == 2))) := by
  intro q hq
  obtain ⟨a, ha, he⟩ := am_lv_mem.mp hq
  unfold am_s2 at ha
  rw [List.getElem?_set] at ha
  by_cases e0 : i + 1 = q.1
  · rw [if_pos e0] at ha
    split at ha <;> cases ha
  · rw [if_neg e0, List.getElem?_set] at ha
    by_cases e : i = q.1
    · rw [if_pos e] at ha
      split at ha
      · cases ha
        obtain ⟨q1, q2⟩ := q
        dsimp only at e he
        subst e; subst he
        exact List.mem_cons_self
      · cases ha
    · rw [if_neg e] at ha
      obtain ⟨h1, h2⟩ := am_kill_get ha
      refine List.mem_cons_of_mem _ (List.mem_filter.mpr ⟨am_lv_mem.mpr ⟨a, h1, he⟩, ?_⟩)
      rw [he, am_cat_cv]
      have e1 : (q.1 == i) = false := by simpa using fun z => e z.symm
      have e3 : (q.1 == i + 1) = false := by simpa using fun z => e0 z.symm
      rw [e1, e3]
      by_cases e2 : q.1 + 1 = i
      · have : ¬ am_cat a = 2 := fun z => h2 ⟨e2, z⟩
        simp [this]
      · simp [e2]
