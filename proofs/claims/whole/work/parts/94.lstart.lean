/-! ===== the law: its beginning ===== -/
def okc (c k : Nat) : Bool := match (am_lay c).1 with
  | ci + 4 => match am_fixv ci k c with
    | none => true
    | some v => decide (w00 c k = v)
  | _ => true
theorem okc_all : ∀ c, c < 144 → ∀ k, k < 45 → okc c k = true := by decide +kernel
theorem fixT_len (ci : Nat) : (am_fixT ci).length ≤ 45 := by
  unfold am_fixT
  split <;> decide
theorem okw_fix {w : Wd} (hw : ∀ c i, 1 ≤ c → c ≤ 143 → w c i = w00 c i) (h : am_okw false w) : am_okw true w := by
  refine ⟨h.1, fun _ c ci k v h1 h2 => ?_⟩
  have hk : k < 45 := Classical.byContradiction (fun z => by
    unfold am_fixv at h2
    rw [List.getD_eq_getElem?_getD, List.getElem?_eq_none (Nat.le_trans (fixT_len ci) (by omega))] at h2
    cases h2)
  have hc : 1 ≤ c ∧ c ≤ 143 := Classical.byContradiction (fun z => by
    have e : am_lay c = (99, 0) := by
      unfold am_lay
      by_cases q : c ≤ 0
      · rw [if_pos q]
      · rw [if_neg q, if_neg (by omega), if_neg (by omega), if_neg (by omega), if_neg (by omega), if_neg (by omega), if_neg (by omega), if_neg (by omega), if_neg (by omega), if_neg (by omega), if_neg (by omega), if_neg (by omega), if_neg (by omega), if_neg (by omega), if_neg (by omega), if_neg (by omega), if_neg (by omega), if_neg (by omega), if_neg (by omega), if_neg (by omega), if_neg (by omega), if_neg (by omega)]
    rw [e] at h1
    obtain rfl : ci = 95 := by
      dsimp only at h1
      omega
    cases h2)
  obtain ⟨z, rfl⟩ := Int.eq_ofNat_of_zero_le (show 0 ≤ c by omega)
  have h3 := okc_all z (by omega) k hk
  unfold okc at h3
  rw [h1] at h3
  dsimp only at h3
  rw [h2] at h3
  rw [hw _ _ hc.1 hc.2]
  exact of_decide_eq_true h3
section LST
variable {L : Nat} {xs : Nat → Int32}
theorem lw_begin (hL : L ≤ 2048) : WP false L xs 0 0 0 [some (.inr (.inr (-22))), none, none, none] [] (fun _ _ => 0) := by
  refine WP.new (n2 := 1) (sl2 := 8) (N := 8) (ci := 8) (c0 := 1) rfl rfl (by decide) dL_0 (by decide) (by decide) (by decide) (by decide) rfl gin_X8 tyX8_ok (by decide) ⟨am_mem 17 (by decide +kernel) rfl, am_mem 18 (by decide +kernel) rfl, am_mem 1 (by decide +kernel) rfl⟩ ?_
  obtain ⟨w1, q1⟩ : ∃ z, z = wnew (fun _ _ => 0) 1 := ⟨_, rfl⟩
  rw [← q1]
  refine WP.dup dL_3 rfl ?_
  refine WP.callI0 (n2 := 114) (sl2 := 61837) (kc' := 113) (ks' := 61829) (d' := 4) rfl rfl dL_4 lkL_9 (by decide) (by decide) (by decide) (Nat.le_of_ble_eq_true rfl) (by decide) (kw_X8_1 (K := fun z : Wd => (∀ c i, (c < 1 ∨ 114 < c) → z c i = w1 c i) ∧ (∀ c i, 1 ≤ c → c ≤ 114 → z c i = w00 c i)) (Nat.le_refl _) (fun i => by rw [q1]; exact if_pos rfl) (fun _ o r => ⟨o, r⟩)) ?_
  rintro r w2 ⟨rfl, o2, r2⟩
  change WP _ _ _ _ _ _ _ [.inr (.inr 1)] _
  refine WP.astore_n (als' := [some (.inr (.inr (-22))), some (.inr (.inr 1)), none, none]) dL_7 (by decide) (Nat.le_of_ble_eq_true rfl) rfl ?_
  refine WP.new (n2 := 115) (sl2 := 61882) (N := 45) (ci := 9) (c0 := 115) rfl rfl (by decide) dL_8 (by decide) (by decide) (by decide) (by decide) rfl gin_X9 tyX9_ok (by decide) ⟨am_mem 751 (by decide +kernel) rfl, am_mem 752 (by decide +kernel) rfl, am_mem 10 (by decide +kernel) rfl⟩ ?_
  obtain ⟨w3, q3⟩ : ∃ z, z = wnew w2 115 := ⟨_, rfl⟩
  rw [← q3]
  refine WP.dup dL_11 rfl ?_
  refine WP.callI0 (n2 := 143) (sl2 := 87506) (kc' := 28) (ks' := 25624) (d' := 4) rfl rfl dL_12 lkL_12 (by decide) (by decide) (by decide) (Nat.le_of_ble_eq_true rfl) (by decide) (kw_X9_115 (K := fun z : Wd => (∀ c i, (c < 115 ∨ 143 < c) → z c i = w3 c i) ∧ (∀ c i, 115 ≤ c → c ≤ 143 → z c i = w00 c i)) (by decide) (fun i => by rw [q3]; exact if_pos rfl) (fun _ o r => ⟨o, r⟩)) ?_
  rintro r w4 ⟨rfl, o4, r4⟩
  change WP _ _ _ _ _ _ _ [.inr (.inr 115)] _
  refine WP.astore_n (als' := [some (.inr (.inr (-22))), some (.inr (.inr 1)), some (.inr (.inr 115)), none]) dL_15 (by decide) (Nat.le_of_ble_eq_true rfl) rfl ?_
  have hw : ∀ c i, 1 ≤ c → c ≤ 143 → w4 c i = w00 c i := fun c i c0 c1 => by
    by_cases q : 115 ≤ c
    · exact r4 c i q c1
    · rw [o4 c i (by omega), q3, show wnew w2 115 c i = w2 c i from if_neg (by omega)]
      exact r2 c i c0 (by omega)
  refine WP.iconst dL_16 ⟨by decide, by decide⟩ ?_
  refine WP.istore_n (als' := [some (.inr (.inr (-22))), some (.inr (.inr 1)), some (.inr (.inr 115)), some (.inl 0)]) dL_17 (Nat.le_of_ble_eq_true rfl) rfl ?_
  exact WP.fix (okw_fix hw) (lw_loop hL 600 0 0 w4 (by omega) (by omega) (by omega) (inv0 hw))
end LST
