/-! ===== the first world keeps the invariant ===== -/
section IZ0
variable {w : Wd}
def tx0 : Int → List Int := fun c => if 0 ≤ c ∧ c < 72 then [] else [0]
def D00 : Dt := (fun _ => 0, fun _ => 0, 0, fun _ => 0, fun _ => 0, fun _ => [], 1)
def F00 : Fs := ((tx0, fun _ => none, 0, fun _ => 0, fun _ => 0, fun _ => -1), D00)
theorem tx0_in {c : Int} (h : rng c) : tx0 c = [] := if_pos h
theorem tx0_out {c : Int} (h : ¬ rng c) : tx0 c = [0] := if_neg h
theorem pv0 : PV 0 := by
  unfold PV
  omega
theorem wf_nil : Wf [] := ⟨by decide, fun q => absurd rfl q⟩
theorem sm_zero {f : Int → Int} (n : Nat) (h : ∀ c, f c = 0) : sm n f = 0 := by
  have := sm_bd (f := f) (a := 0) (b := 0) n (fun c _ _ => by rw [h]; omega)
  omega
theorem std0 : StD tx0 0 D00 := by
  refine ⟨fun _ => 0, fun _ => 0, fun _ => [], ⟨fun c _ => ⟨rfl, rfl, rfl, rfl, rfl⟩, fun c _ => ⟨Or.inl rfl, pv0, Int.le_refl 0, (show (0 : Int) ≤ 4 by decide)⟩, fun c _ _ => ⟨rfl, rfl, rfl, rfl, rfl⟩, fun c hc h => absurd (if_pos (tx0_in hc)) h, fun c hc h => absurd (if_pos (tx0_in hc)) h⟩, ?_⟩
  have e : anyK (fun _ => 0) = 0 := sm_zero 72 (fun c => rfl)
  show _ = ((0 : Int), _)
  unfold D00
  rw [e]
  simp
theorem dok0 : DOk D00 := ⟨fun c _ => ⟨Or.inl rfl, pv0, ⟨Int.le_refl 0, by show (0 : Int) ≤ 4; omega⟩, ⟨Int.le_refl 0, by show (0 : Int) ≤ 71; omega⟩, okl_nil⟩, Or.inr rfl⟩
theorem wf00 : WF 0 F00 := by
  refine ⟨fun c hc => ?_, ?_, fun c L _ h => (nomatch h), ?_, ⟨Int.le_refl 0, by show (0 : Int) ≤ 40; omega⟩, fun c _ => ⟨⟨Int.le_refl 0, Int.le_refl 0⟩, Or.inl rfl, Or.inl rfl⟩, std0, dok0⟩
  · show Wf (tx0 c)
    rw [tx0_in hc]
    exact wf_nil
  · show tx0 (-1) ≠ []
    rw [tx0_out (by unfold rng; omega)]
    simp
  · have : sm 72 (wtI F00.1.2.1) = 0 := sm_zero 72 (fun c => rfl)
    omega
theorem inv0 (hw : ∀ c i, 1 ≤ c → c ≤ 143 → w c i = w00 c i) : Inv 0 w := by
  have z : ∀ c i v, 1 ≤ c → c ≤ 143 → w00 c i = v → w c i = v := fun c i v h0 h1 h2 => (hw c i h0 h1).trans h2
  refine ⟨Int.le_refl 0, ([], F00, []), ⟨Nat.zero_le 30, wf00, fun F hF => absurd hF List.not_mem_nil⟩, ⟨⟨z 2 1 _ (by decide) (by decide) (by simp [w00]), fun j hj => absurd hj (Nat.not_lt_zero j)⟩, ⟨fun c hc => ?_, fun c hc => ⟨fun _ => ?_, fun L hL => (nomatch hL)⟩, z 6 11 _ (by decide) (by decide) (by simp [w00, rowS, F00]), fun c hc => ⟨?_, ?_, ?_⟩, fun c hc => ⟨?_, ?_, ?_, ?_, ?_, fun j hj => ?_, okl_nil⟩, ?_, ?_⟩, ⟨⟨?_, by decide⟩, fun i i0 i1 => ?_, fun i j i0 ij j1 => ?_, fun i F hF => (nomatch hF)⟩, ⟨⟨?_, ?_⟩, fun c _ _ => ?_⟩⟩, ⟨⟨?_, fun j hj => absurd hj (Nat.not_lt_zero j)⟩, ⟨fun c hc => ?_, fun c hc => ⟨?_, ?_, ?_, fun q => absurd rfl q⟩, ?_, ⟨?_, ?_⟩, fun s s0 s1 => ?_, fun s s' s0 s1 s2 => ?_, fun c _ q => absurd rfl q⟩, ⟨⟨?_, by decide⟩, fun i F hF => (nomatch hF)⟩, ⟨fun c hc => ⟨?_, ?_, ?_, ?_, ?_, fun j hj => ?_, okl_nil⟩, ?_, ?_⟩, ?_, ?_⟩⟩
  · have e : F00.1.1 c = [] := tx0_in hc
    rw [e]
    exact ⟨wf_nil, z _ _ _ (by decide) (by decide) (by simp [w00, rowS]), fun j hj => absurd hj (Nat.not_lt_zero j)⟩
  · exact z _ _ _ (by decide) (by decide) (by simp [w00, rowS, rowM, F00, D00, hc.1, hc.2])
  · exact z _ _ _ (by decide) (by decide) (by simp [w00, rowS, rowM, F00, D00])
  · exact z _ _ _ (by decide) (by decide) (by simp [w00, rowS, rowM, F00, D00])
  · exact z _ _ _ (by decide) (by decide) (by simp [w00, rowS, rowM, F00, D00, hc.1, hc.2])
  · exact z _ _ _ (by decide) (by decide) (by simp [w00, rowS, rowM, F00, D00])
  · exact z _ _ _ (by decide) (by decide) (by simp [w00, rowS, rowM, F00, D00])
  · exact z _ _ _ (by decide) (by decide) (by simp [w00, rowS, rowM, F00, D00])
  · exact z _ _ _ (by decide) (by decide) (by simp [w00, rowS, rowM, F00, D00])
  · exact z _ _ _ (by decide) (by decide) (by simp [w00, rowS, rowM, F00, D00])
  · exact absurd hj (Nat.not_lt_zero j)
  · exact z _ _ _ (by decide) (by decide) (by simp [w00, rowS, rowM, F00, D00])
  · exact z _ _ _ (by decide) (by decide) (by simp [w00, rowS, rowM, F00, D00])
  · exact z _ _ _ (by decide) (by decide) (by simp [w00, rowS, rowM, F00, D00])
  · have q : i = 0 ∨ i = 1 ∨ i = 2 ∨ i = 3 := by omega
    have e := hw 39 i (by decide) (by decide)
    rw [e]
    unfold am_Kt
    rcases q with rfl | rfl | rfl | rfl <;> simp [w00]
  · rw [hw 39 i (by decide) (by decide), hw 39 j (by decide) (by decide)]
    have e : ∀ k : Int, 0 ≤ k → k < 4 → w00 39 k = 40 + 16 * k := fun k k0 k1 => by
      have : w00 39 k = if 0 ≤ k ∧ k < 4 then 40 + 16 * k else 0 := by simp [w00]
      rw [this, if_pos ⟨k0, k1⟩]
    rw [e i (by omega) (by omega), e j (by omega) (by omega)]
    omega
  · rw [hw 109 3 (by decide) (by decide), show w00 109 3 = 0 by simp [w00]]
    omega
  · rw [hw 109 3 (by decide) (by decide), show w00 109 3 = 0 by simp [w00]]
    omega
  · rw [hw 109 3 (by decide) (by decide), show w00 109 3 = 0 by simp [w00], hw 113 c (by decide) (by decide), show w00 113 c = 0 by simp [w00]]
    omega
  · exact z _ _ _ (by decide) (by decide) (by simp [w00, rowS, rowM, F00, D00])
  · have e : F00.1.1 c = [] := tx0_in hc
    rw [e]
    exact ⟨wf_nil, z _ _ _ (by decide) (by decide) (by simp [w00]), fun j hj => absurd hj (Nat.not_lt_zero j)⟩
  · exact z _ _ _ (by decide) (by decide) (by simp [w00, rowS, rowM, F00, D00])
  · exact z _ _ _ (by decide) (by decide) (by simp [w00, rowS, rowM, F00, D00])
  · exact z _ _ _ (by decide) (by decide) (by simp [w00, rowS, rowM, F00, D00])
  · exact z _ _ _ (by decide) (by decide) (by simp [w00, rowS, rowM, F00, D00])
  · rw [hw 116 2521 (by decide) (by decide), show w00 116 2521 = 0 by simp [w00]]
    omega
  · rw [hw 116 2521 (by decide) (by decide), show w00 116 2521 = 0 by simp [w00]]
    omega
  · rw [hw 116 2521 (by decide) (by decide), show w00 116 2521 = 0 by simp [w00]] at s1
    omega
  · rw [hw 116 2521 (by decide) (by decide), show w00 116 2521 = 0 by simp [w00]] at s2
    omega
  · exact z _ _ _ (by decide) (by decide) (by simp [w00, rowS, rowM, F00, D00])
  · exact z _ _ _ (by decide) (by decide) (by simp [w00, rowS, rowM, F00, D00])
  · exact z _ _ _ (by decide) (by decide) (by simp [w00, rowS, rowM, F00, D00])
  · exact z _ _ _ (by decide) (by decide) (by simp [w00, rowS, rowM, F00, D00])
  · exact z _ _ _ (by decide) (by decide) (by simp [w00, rowS, rowM, F00, D00])
  · exact z _ _ _ (by decide) (by decide) (by simp [w00, rowS, rowM, F00, D00])
  · exact absurd hj (Nat.not_lt_zero j)
  · exact z _ _ _ (by decide) (by decide) (by simp [w00, rowS, rowM, F00, D00])
  · exact z _ _ _ (by decide) (by decide) (by simp [w00, rowS, rowM, F00, D00])
  · exact z _ _ _ (by decide) (by decide) (by simp [w00, rowS, rowM, F00, D00])
  · rw [hw 115 43 (by decide) (by decide), show w00 115 43 = 0 by simp [w00, rowM]]
    exact pv0
end IZ0
