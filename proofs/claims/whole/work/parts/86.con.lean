/-! ===== the constructors ===== -/
/-- what a new State holds -/
def rowS (s o i : Int) : Int := if o = 0 then (if i = 0 then s + 1 else if i = 1 then s + 4 else if 2 ≤ i ∧ i ≤ 10 then s + 5 + i else if i = 13 then 1 else 0) else if o = 1 ∨ o = 4 then (if i = 0 then s + o + 1 else if i = 1 then s + o + 2 else 0) else if o = 6 ∨ o = 15 then (if 0 ≤ i ∧ i < 72 then -1 else 0) else 0
def rowM (i : Int) : Int := if i = 0 then 116 else if i = 1 then 117 else if i = 3 then 118 else if 5 ≤ i ∧ i ≤ 18 then 114 + i else if i = 20 then 1 else if i = 21 then 133 else if i = 22 then 134 else if 28 ≤ i ∧ i ≤ 35 then 107 + i else if i = 42 then -1 else if i = 44 then 143 else 0
/-- the world when all is made -/
def w00 (c i : Int) : Int :=
  if 6 ≤ c ∧ c < 38 then rowS (c - (c - 6) % 16) ((c - 6) % 16) i else
  if 40 ≤ c ∧ c < 104 then rowS (c - (c - 40) % 16) ((c - 40) % 16) i else
  if c = 39 then (if 0 ≤ i ∧ i < 4 then 40 + 16 * i else 0) else
  if c = 1 then (if i = 0 then 2 else if i = 1 then 4 else if i = 2 then 6 else if i = 3 then 22 else if i = 4 then 38 else if i = 5 then 104 else if i = 6 then 107 else if i = 7 then 114 else 0) else
  if c = 2 ∨ c = 4 then (if i = 0 then c + 1 else 0) else
  if c = 38 then (if i = 0 then 39 else 0) else
  if c = 104 then (if i = 0 then 105 else 0) else
  if c = 105 ∨ c = 110 then (if i = 0 then c + 1 else 0) else
  if c = 107 then (if i = 0 then 109 else if i = 1 then 108 else 0) else
  if c = 109 then (if i = 0 then 110 else if i = 1 then 112 else if i = 2 then 113 else if i = 4 then 22 else 0) else
  if c = 115 then rowM i else 0
set_option maxRecDepth 10000 in
theorem kw_X6_2 {d : Nat} {w : Wd} {K : Wd → Prop} (hd : 1 ≤ d) (hz : ∀ i, w 2 i = 0) (h : ∀ w', (∀ c i, (c < 2 ∨ 3 < c) → w' c i = w c i) → (∀ c i, 2 ≤ c → c ≤ 3 → w' c i = w00 c i) → K w') : EvA false yX6_init cX6_init 1 none d 2 1 30 [.inr (.inr 2)] w (rV K) := by
  refine EvA.of (by decide +kernel) (Nat.le_of_ble_eq_true rfl) ?_
  change WA false yX6_init cX6_init 1 none d 2 1 30 0 [some (.inr (.inr 2))] [] w (rV K)
  refine WA.aload_n dX6_init_0 rfl (by decide) ?_
  refine WA.objInit dX6_init_1 (am_mem 30 (by decide +kernel) rfl) (am_mem 23 (by decide +kernel) rfl) (am_mem 24 (by decide +kernel) rfl) (by decide) (Nat.le_trans (by decide) hd) (Nat.le_of_ble_eq_true rfl) ?_
  refine WA.aload_n dX6_init_4 rfl (by decide) ?_
  refine WA.bipush dX6_init_5 ⟨by decide, by decide⟩ ?_
  refine WA.newarray2 (n2 := 3) (kc := 0) (ks := 0) (N := 30) (c := 3) (K := 0) rfl rfl rfl (by decide) dX6_init_7 (by decide) rfl (by decide) rfl (by decide) (by decide) (am_mem 43 (by decide +kernel) rfl) ?_
  obtain ⟨w1, qw1⟩ : ∃ z, z = wnew w 3 := ⟨_, rfl⟩
  rw [← qw1]
  refine pfX6_9 rfl rfl rfl dX6_init_9 (by decide : am_obj 3 2 6 2) ?_
  obtain ⟨w2, qw2⟩ : ∃ z, z = wset w1 2 0 3 := ⟨_, rfl⟩
  rw [← qw2]
  refine WA.vreturn dX6_init_12 ⟨rfl, ?_⟩
  refine h w2 ?_ ?_
  · intro c i hc
    rw [qw2, show wset w1 2 0 3 c i = w1 c i from if_neg (by omega)]
    rw [qw1, show wnew w 3 c i = w c i from if_neg (by omega)]
  · intro c i hc1 hc2
    have hc : c = 2 ∨ c = 3 := by omega
    rcases hc with rfl | rfl
    · by_cases e0 : i = 0
      · subst e0
        simp [qw1, qw2, wset, wnew, w00, rowS, rowM, hz]
      simp [qw1, qw2, wset, wnew, w00, rowS, rowM, hz, e0]
    · simp [qw1, qw2, wset, wnew, w00, rowS, rowM, hz]
set_option maxRecDepth 10000 in
theorem kw_X6_4 {d : Nat} {w : Wd} {K : Wd → Prop} (hd : 1 ≤ d) (hz : ∀ i, w 4 i = 0) (h : ∀ w', (∀ c i, (c < 4 ∨ 5 < c) → w' c i = w c i) → (∀ c i, 4 ≤ c → c ≤ 5 → w' c i = w00 c i) → K w') : EvA false yX6_init cX6_init 1 none d 4 1 30 [.inr (.inr 4)] w (rV K) := by
  refine EvA.of (by decide +kernel) (Nat.le_of_ble_eq_true rfl) ?_
  change WA false yX6_init cX6_init 1 none d 4 1 30 0 [some (.inr (.inr 4))] [] w (rV K)
  refine WA.aload_n dX6_init_0 rfl (by decide) ?_
  refine WA.objInit dX6_init_1 (am_mem 30 (by decide +kernel) rfl) (am_mem 23 (by decide +kernel) rfl) (am_mem 24 (by decide +kernel) rfl) (by decide) (Nat.le_trans (by decide) hd) (Nat.le_of_ble_eq_true rfl) ?_
  refine WA.aload_n dX6_init_4 rfl (by decide) ?_
  refine WA.bipush dX6_init_5 ⟨by decide, by decide⟩ ?_
  refine WA.newarray2 (n2 := 5) (kc := 0) (ks := 0) (N := 30) (c := 5) (K := 0) rfl rfl rfl (by decide) dX6_init_7 (by decide) rfl (by decide) rfl (by decide) (by decide) (am_mem 43 (by decide +kernel) rfl) ?_
  obtain ⟨w1, qw1⟩ : ∃ z, z = wnew w 5 := ⟨_, rfl⟩
  rw [← qw1]
  refine pfX6_9 rfl rfl rfl dX6_init_9 (by decide : am_obj 5 4 6 2) ?_
  obtain ⟨w2, qw2⟩ : ∃ z, z = wset w1 4 0 5 := ⟨_, rfl⟩
  rw [← qw2]
  refine WA.vreturn dX6_init_12 ⟨rfl, ?_⟩
  refine h w2 ?_ ?_
  · intro c i hc
    rw [qw2, show wset w1 4 0 5 c i = w1 c i from if_neg (by omega)]
    rw [qw1, show wnew w 5 c i = w c i from if_neg (by omega)]
  · intro c i hc1 hc2
    have hc : c = 4 ∨ c = 5 := by omega
    rcases hc with rfl | rfl
    · by_cases e0 : i = 0
      · subst e0
        simp [qw1, qw2, wset, wnew, w00, rowS, rowM, hz]
      simp [qw1, qw2, wset, wnew, w00, rowS, rowM, hz, e0]
    · simp [qw1, qw2, wset, wnew, w00, rowS, rowM, hz]
set_option maxRecDepth 10000 in
theorem kw_X7_7 {d : Nat} {w : Wd} {K : Wd → Prop} (hd : 1 ≤ d) (hz : ∀ i, w 7 i = 0) (h : ∀ w', (∀ c i, (c < 7 ∨ 9 < c) → w' c i = w c i) → (∀ c i, 7 ≤ c → c ≤ 9 → w' c i = w00 c i) → K w') : EvA false yX7_init cX7_init 1 none d 7 2 2232 [.inr (.inr 7)] w (rV K) := by
  refine EvA.of (by decide +kernel) (Nat.le_of_ble_eq_true rfl) ?_
  change WA false yX7_init cX7_init 1 none d 7 2 2232 0 [some (.inr (.inr 7))] [] w (rV K)
  refine WA.aload_n dX7_init_0 rfl (by decide) ?_
  refine WA.objInit dX7_init_1 (am_mem 55 (by decide +kernel) rfl) (am_mem 23 (by decide +kernel) rfl) (am_mem 24 (by decide +kernel) rfl) (by decide) (Nat.le_trans (by decide) hd) (Nat.le_of_ble_eq_true rfl) ?_
  refine WA.aload_n dX7_init_4 rfl (by decide) ?_
  refine WA.sipush dX7_init_5 ⟨by decide, by decide⟩ ?_
  refine WA.newarray2 (n2 := 8) (kc := 1) (ks := 72) (N := 2160) (c := 8) (K := 0) rfl rfl rfl (by decide) dX7_init_8 (by decide) rfl (by decide) rfl (by decide) (by decide) (am_mem 43 (by decide +kernel) rfl) ?_
  obtain ⟨w1, qw1⟩ : ∃ z, z = wnew w 8 := ⟨_, rfl⟩
  rw [← qw1]
  refine pfX7_9 rfl rfl rfl dX7_init_10 (by decide : am_obj 8 7 7 2) ?_
  obtain ⟨w2, qw2⟩ : ∃ z, z = wset w1 7 0 8 := ⟨_, rfl⟩
  rw [← qw2]
  refine WA.aload_n dX7_init_13 rfl (by decide) ?_
  refine WA.bipush dX7_init_14 ⟨by decide, by decide⟩ ?_
  refine WA.newarray2 (n2 := 9) (kc := 0) (ks := 0) (N := 72) (c := 9) (K := 0) rfl rfl rfl (by decide) dX7_init_16 (by decide) rfl (by decide) rfl (by decide) (by decide) (am_mem 43 (by decide +kernel) rfl) ?_
  obtain ⟨w3, qw3⟩ : ∃ z, z = wnew w2 9 := ⟨_, rfl⟩
  rw [← qw3]
  refine pfX7_15 rfl rfl rfl dX7_init_18 (by decide : am_obj 9 7 7 2) ?_
  obtain ⟨w4, qw4⟩ : ∃ z, z = wset w3 7 1 9 := ⟨_, rfl⟩
  rw [← qw4]
  refine WA.vreturn dX7_init_21 ⟨rfl, ?_⟩
  refine h w4 ?_ ?_
  · intro c i hc
    rw [qw4, show wset w3 7 1 9 c i = w3 c i from if_neg (by omega)]
    rw [qw3, show wnew w2 9 c i = w2 c i from if_neg (by omega)]
    rw [qw2, show wset w1 7 0 8 c i = w1 c i from if_neg (by omega)]
    rw [qw1, show wnew w 8 c i = w c i from if_neg (by omega)]
  · intro c i hc1 hc2
    have hc : c = 7 ∨ c = 8 ∨ c = 9 := by omega
    rcases hc with rfl | rfl | rfl
    · by_cases e0 : i = 0
      · subst e0
        simp [qw1, qw2, qw3, qw4, wset, wnew, w00, rowS, rowM, hz]
      by_cases e1 : i = 1
      · subst e1
        simp [qw1, qw2, qw3, qw4, wset, wnew, w00, rowS, rowM, hz]
      simp [qw1, qw2, qw3, qw4, wset, wnew, w00, rowS, rowM, hz, e0, e1]
    · simp [qw1, qw2, qw3, qw4, wset, wnew, w00, rowS, rowM, hz]
    · simp [qw1, qw2, qw3, qw4, wset, wnew, w00, rowS, rowM, hz]
set_option maxRecDepth 10000 in
theorem kw_X7_10 {d : Nat} {w : Wd} {K : Wd → Prop} (hd : 1 ≤ d) (hz : ∀ i, w 10 i = 0) (h : ∀ w', (∀ c i, (c < 10 ∨ 12 < c) → w' c i = w c i) → (∀ c i, 10 ≤ c → c ≤ 12 → w' c i = (if c = 12 then 0 else w00 c i)) → K w') : EvA false yX7_init cX7_init 1 none d 10 2 2232 [.inr (.inr 10)] w (rV K) := by
  refine EvA.of (by decide +kernel) (Nat.le_of_ble_eq_true rfl) ?_
  change WA false yX7_init cX7_init 1 none d 10 2 2232 0 [some (.inr (.inr 10))] [] w (rV K)
  refine WA.aload_n dX7_init_0 rfl (by decide) ?_
  refine WA.objInit dX7_init_1 (am_mem 55 (by decide +kernel) rfl) (am_mem 23 (by decide +kernel) rfl) (am_mem 24 (by decide +kernel) rfl) (by decide) (Nat.le_trans (by decide) hd) (Nat.le_of_ble_eq_true rfl) ?_
  refine WA.aload_n dX7_init_4 rfl (by decide) ?_
  refine WA.sipush dX7_init_5 ⟨by decide, by decide⟩ ?_
  refine WA.newarray2 (n2 := 11) (kc := 1) (ks := 72) (N := 2160) (c := 11) (K := 0) rfl rfl rfl (by decide) dX7_init_8 (by decide) rfl (by decide) rfl (by decide) (by decide) (am_mem 43 (by decide +kernel) rfl) ?_
  obtain ⟨w1, qw1⟩ : ∃ z, z = wnew w 11 := ⟨_, rfl⟩
  rw [← qw1]
  refine pfX7_9 rfl rfl rfl dX7_init_10 (by decide : am_obj 11 10 7 2) ?_
  obtain ⟨w2, qw2⟩ : ∃ z, z = wset w1 10 0 11 := ⟨_, rfl⟩
  rw [← qw2]
  refine WA.aload_n dX7_init_13 rfl (by decide) ?_
  refine WA.bipush dX7_init_14 ⟨by decide, by decide⟩ ?_
  refine WA.newarray2 (n2 := 12) (kc := 0) (ks := 0) (N := 72) (c := 12) (K := 0) rfl rfl rfl (by decide) dX7_init_16 (by decide) rfl (by decide) rfl (by decide) (by decide) (am_mem 43 (by decide +kernel) rfl) ?_
  obtain ⟨w3, qw3⟩ : ∃ z, z = wnew w2 12 := ⟨_, rfl⟩
  rw [← qw3]
  refine pfX7_15 rfl rfl rfl dX7_init_18 (by decide : am_obj 12 10 7 2) ?_
  obtain ⟨w4, qw4⟩ : ∃ z, z = wset w3 10 1 12 := ⟨_, rfl⟩
  rw [← qw4]
  refine WA.vreturn dX7_init_21 ⟨rfl, ?_⟩
  refine h w4 ?_ ?_
  · intro c i hc
    rw [qw4, show wset w3 10 1 12 c i = w3 c i from if_neg (by omega)]
    rw [qw3, show wnew w2 12 c i = w2 c i from if_neg (by omega)]
    rw [qw2, show wset w1 10 0 11 c i = w1 c i from if_neg (by omega)]
    rw [qw1, show wnew w 11 c i = w c i from if_neg (by omega)]
  · intro c i hc1 hc2
    have hc : c = 10 ∨ c = 11 ∨ c = 12 := by omega
    rcases hc with rfl | rfl | rfl
    · by_cases e0 : i = 0
      · subst e0
        simp [qw1, qw2, qw3, qw4, wset, wnew, w00, rowS, rowM, hz]
      by_cases e1 : i = 1
      · subst e1
        simp [qw1, qw2, qw3, qw4, wset, wnew, w00, rowS, rowM, hz]
      simp [qw1, qw2, qw3, qw4, wset, wnew, w00, rowS, rowM, hz, e0, e1]
    · simp [qw1, qw2, qw3, qw4, wset, wnew, w00, rowS, rowM, hz]
    · simp [qw1, qw2, qw3, qw4, wset, wnew, w00, rowS, rowM, hz]
set_option maxRecDepth 10000 in
theorem kw_X7_23 {d : Nat} {w : Wd} {K : Wd → Prop} (hd : 1 ≤ d) (hz : ∀ i, w 23 i = 0) (h : ∀ w', (∀ c i, (c < 23 ∨ 25 < c) → w' c i = w c i) → (∀ c i, 23 ≤ c → c ≤ 25 → w' c i = w00 c i) → K w') : EvA false yX7_init cX7_init 1 none d 23 2 2232 [.inr (.inr 23)] w (rV K) := by
  refine EvA.of (by decide +kernel) (Nat.le_of_ble_eq_true rfl) ?_
  change WA false yX7_init cX7_init 1 none d 23 2 2232 0 [some (.inr (.inr 23))] [] w (rV K)
  refine WA.aload_n dX7_init_0 rfl (by decide) ?_
  refine WA.objInit dX7_init_1 (am_mem 55 (by decide +kernel) rfl) (am_mem 23 (by decide +kernel) rfl) (am_mem 24 (by decide +kernel) rfl) (by decide) (Nat.le_trans (by decide) hd) (Nat.le_of_ble_eq_true rfl) ?_
  refine WA.aload_n dX7_init_4 rfl (by decide) ?_
  refine WA.sipush dX7_init_5 ⟨by decide, by decide⟩ ?_
  refine WA.newarray2 (n2 := 24) (kc := 1) (ks := 72) (N := 2160) (c := 24) (K := 0) rfl rfl rfl (by decide) dX7_init_8 (by decide) rfl (by decide) rfl (by decide) (by decide) (am_mem 43 (by decide +kernel) rfl) ?_
  obtain ⟨w1, qw1⟩ : ∃ z, z = wnew w 24 := ⟨_, rfl⟩
  rw [← qw1]
  refine pfX7_9 rfl rfl rfl dX7_init_10 (by decide : am_obj 24 23 7 2) ?_
  obtain ⟨w2, qw2⟩ : ∃ z, z = wset w1 23 0 24 := ⟨_, rfl⟩
  rw [← qw2]
  refine WA.aload_n dX7_init_13 rfl (by decide) ?_
  refine WA.bipush dX7_init_14 ⟨by decide, by decide⟩ ?_
  refine WA.newarray2 (n2 := 25) (kc := 0) (ks := 0) (N := 72) (c := 25) (K := 0) rfl rfl rfl (by decide) dX7_init_16 (by decide) rfl (by decide) rfl (by decide) (by decide) (am_mem 43 (by decide +kernel) rfl) ?_
  obtain ⟨w3, qw3⟩ : ∃ z, z = wnew w2 25 := ⟨_, rfl⟩
  rw [← qw3]
  refine pfX7_15 rfl rfl rfl dX7_init_18 (by decide : am_obj 25 23 7 2) ?_
  obtain ⟨w4, qw4⟩ : ∃ z, z = wset w3 23 1 25 := ⟨_, rfl⟩
  rw [← qw4]
  refine WA.vreturn dX7_init_21 ⟨rfl, ?_⟩
  refine h w4 ?_ ?_
  · intro c i hc
    rw [qw4, show wset w3 23 1 25 c i = w3 c i from if_neg (by omega)]
    rw [qw3, show wnew w2 25 c i = w2 c i from if_neg (by omega)]
    rw [qw2, show wset w1 23 0 24 c i = w1 c i from if_neg (by omega)]
    rw [qw1, show wnew w 24 c i = w c i from if_neg (by omega)]
  · intro c i hc1 hc2
    have hc : c = 23 ∨ c = 24 ∨ c = 25 := by omega
    rcases hc with rfl | rfl | rfl
    · by_cases e0 : i = 0
      · subst e0
        simp [qw1, qw2, qw3, qw4, wset, wnew, w00, rowS, rowM, hz]
      by_cases e1 : i = 1
      · subst e1
        simp [qw1, qw2, qw3, qw4, wset, wnew, w00, rowS, rowM, hz]
      simp [qw1, qw2, qw3, qw4, wset, wnew, w00, rowS, rowM, hz, e0, e1]
    · simp [qw1, qw2, qw3, qw4, wset, wnew, w00, rowS, rowM, hz]
    · simp [qw1, qw2, qw3, qw4, wset, wnew, w00, rowS, rowM, hz]
set_option maxRecDepth 10000 in
theorem kw_X7_26 {d : Nat} {w : Wd} {K : Wd → Prop} (hd : 1 ≤ d) (hz : ∀ i, w 26 i = 0) (h : ∀ w', (∀ c i, (c < 26 ∨ 28 < c) → w' c i = w c i) → (∀ c i, 26 ≤ c → c ≤ 28 → w' c i = (if c = 28 then 0 else w00 c i)) → K w') : EvA false yX7_init cX7_init 1 none d 26 2 2232 [.inr (.inr 26)] w (rV K) := by
  refine EvA.of (by decide +kernel) (Nat.le_of_ble_eq_true rfl) ?_
  change WA false yX7_init cX7_init 1 none d 26 2 2232 0 [some (.inr (.inr 26))] [] w (rV K)
  refine WA.aload_n dX7_init_0 rfl (by decide) ?_
  refine WA.objInit dX7_init_1 (am_mem 55 (by decide +kernel) rfl) (am_mem 23 (by decide +kernel) rfl) (am_mem 24 (by decide +kernel) rfl) (by decide) (Nat.le_trans (by decide) hd) (Nat.le_of_ble_eq_true rfl) ?_
  refine WA.aload_n dX7_init_4 rfl (by decide) ?_
  refine WA.sipush dX7_init_5 ⟨by decide, by decide⟩ ?_
  refine WA.newarray2 (n2 := 27) (kc := 1) (ks := 72) (N := 2160) (c := 27) (K := 0) rfl rfl rfl (by decide) dX7_init_8 (by decide) rfl (by decide) rfl (by decide) (by decide) (am_mem 43 (by decide +kernel) rfl) ?_
  obtain ⟨w1, qw1⟩ : ∃ z, z = wnew w 27 := ⟨_, rfl⟩
  rw [← qw1]
  refine pfX7_9 rfl rfl rfl dX7_init_10 (by decide : am_obj 27 26 7 2) ?_
  obtain ⟨w2, qw2⟩ : ∃ z, z = wset w1 26 0 27 := ⟨_, rfl⟩
  rw [← qw2]
  refine WA.aload_n dX7_init_13 rfl (by decide) ?_
  refine WA.bipush dX7_init_14 ⟨by decide, by decide⟩ ?_
  refine WA.newarray2 (n2 := 28) (kc := 0) (ks := 0) (N := 72) (c := 28) (K := 0) rfl rfl rfl (by decide) dX7_init_16 (by decide) rfl (by decide) rfl (by decide) (by decide) (am_mem 43 (by decide +kernel) rfl) ?_
  obtain ⟨w3, qw3⟩ : ∃ z, z = wnew w2 28 := ⟨_, rfl⟩
  rw [← qw3]
  refine pfX7_15 rfl rfl rfl dX7_init_18 (by decide : am_obj 28 26 7 2) ?_
  obtain ⟨w4, qw4⟩ : ∃ z, z = wset w3 26 1 28 := ⟨_, rfl⟩
  rw [← qw4]
  refine WA.vreturn dX7_init_21 ⟨rfl, ?_⟩
  refine h w4 ?_ ?_
  · intro c i hc
    rw [qw4, show wset w3 26 1 28 c i = w3 c i from if_neg (by omega)]
    rw [qw3, show wnew w2 28 c i = w2 c i from if_neg (by omega)]
    rw [qw2, show wset w1 26 0 27 c i = w1 c i from if_neg (by omega)]
    rw [qw1, show wnew w 27 c i = w c i from if_neg (by omega)]
  · intro c i hc1 hc2
    have hc : c = 26 ∨ c = 27 ∨ c = 28 := by omega
    rcases hc with rfl | rfl | rfl
    · by_cases e0 : i = 0
      · subst e0
        simp [qw1, qw2, qw3, qw4, wset, wnew, w00, rowS, rowM, hz]
      by_cases e1 : i = 1
      · subst e1
        simp [qw1, qw2, qw3, qw4, wset, wnew, w00, rowS, rowM, hz]
      simp [qw1, qw2, qw3, qw4, wset, wnew, w00, rowS, rowM, hz, e0, e1]
    · simp [qw1, qw2, qw3, qw4, wset, wnew, w00, rowS, rowM, hz]
    · simp [qw1, qw2, qw3, qw4, wset, wnew, w00, rowS, rowM, hz]
set_option maxRecDepth 10000 in
theorem kw_X7_41 {d : Nat} {w : Wd} {K : Wd → Prop} (hd : 1 ≤ d) (hz : ∀ i, w 41 i = 0) (h : ∀ w', (∀ c i, (c < 41 ∨ 43 < c) → w' c i = w c i) → (∀ c i, 41 ≤ c → c ≤ 43 → w' c i = w00 c i) → K w') : EvA false yX7_init cX7_init 1 none d 41 2 2232 [.inr (.inr 41)] w (rV K) := by
  refine EvA.of (by decide +kernel) (Nat.le_of_ble_eq_true rfl) ?_
  change WA false yX7_init cX7_init 1 none d 41 2 2232 0 [some (.inr (.inr 41))] [] w (rV K)
  refine WA.aload_n dX7_init_0 rfl (by decide) ?_
  refine WA.objInit dX7_init_1 (am_mem 55 (by decide +kernel) rfl) (am_mem 23 (by decide +kernel) rfl) (am_mem 24 (by decide +kernel) rfl) (by decide) (Nat.le_trans (by decide) hd) (Nat.le_of_ble_eq_true rfl) ?_
  refine WA.aload_n dX7_init_4 rfl (by decide) ?_
  refine WA.sipush dX7_init_5 ⟨by decide, by decide⟩ ?_
  refine WA.newarray2 (n2 := 42) (kc := 1) (ks := 72) (N := 2160) (c := 42) (K := 0) rfl rfl rfl (by decide) dX7_init_8 (by decide) rfl (by decide) rfl (by decide) (by decide) (am_mem 43 (by decide +kernel) rfl) ?_
  obtain ⟨w1, qw1⟩ : ∃ z, z = wnew w 42 := ⟨_, rfl⟩
  rw [← qw1]
  refine pfX7_9 rfl rfl rfl dX7_init_10 (by decide : am_obj 42 41 7 2) ?_
  obtain ⟨w2, qw2⟩ : ∃ z, z = wset w1 41 0 42 := ⟨_, rfl⟩
  rw [← qw2]
  refine WA.aload_n dX7_init_13 rfl (by decide) ?_
  refine WA.bipush dX7_init_14 ⟨by decide, by decide⟩ ?_
  refine WA.newarray2 (n2 := 43) (kc := 0) (ks := 0) (N := 72) (c := 43) (K := 0) rfl rfl rfl (by decide) dX7_init_16 (by decide) rfl (by decide) rfl (by decide) (by decide) (am_mem 43 (by decide +kernel) rfl) ?_
  obtain ⟨w3, qw3⟩ : ∃ z, z = wnew w2 43 := ⟨_, rfl⟩
  rw [← qw3]
  refine pfX7_15 rfl rfl rfl dX7_init_18 (by decide : am_obj 43 41 7 2) ?_
  obtain ⟨w4, qw4⟩ : ∃ z, z = wset w3 41 1 43 := ⟨_, rfl⟩
  rw [← qw4]
  refine WA.vreturn dX7_init_21 ⟨rfl, ?_⟩
  refine h w4 ?_ ?_
  · intro c i hc
    rw [qw4, show wset w3 41 1 43 c i = w3 c i from if_neg (by omega)]
    rw [qw3, show wnew w2 43 c i = w2 c i from if_neg (by omega)]
    rw [qw2, show wset w1 41 0 42 c i = w1 c i from if_neg (by omega)]
    rw [qw1, show wnew w 42 c i = w c i from if_neg (by omega)]
  · intro c i hc1 hc2
    have hc : c = 41 ∨ c = 42 ∨ c = 43 := by omega
    rcases hc with rfl | rfl | rfl
    · by_cases e0 : i = 0
      · subst e0
        simp [qw1, qw2, qw3, qw4, wset, wnew, w00, rowS, rowM, hz]
      by_cases e1 : i = 1
      · subst e1
        simp [qw1, qw2, qw3, qw4, wset, wnew, w00, rowS, rowM, hz]
      simp [qw1, qw2, qw3, qw4, wset, wnew, w00, rowS, rowM, hz, e0, e1]
    · simp [qw1, qw2, qw3, qw4, wset, wnew, w00, rowS, rowM, hz]
    · simp [qw1, qw2, qw3, qw4, wset, wnew, w00, rowS, rowM, hz]
set_option maxRecDepth 10000 in
theorem kw_X7_44 {d : Nat} {w : Wd} {K : Wd → Prop} (hd : 1 ≤ d) (hz : ∀ i, w 44 i = 0) (h : ∀ w', (∀ c i, (c < 44 ∨ 46 < c) → w' c i = w c i) → (∀ c i, 44 ≤ c → c ≤ 46 → w' c i = (if c = 46 then 0 else w00 c i)) → K w') : EvA false yX7_init cX7_init 1 none d 44 2 2232 [.inr (.inr 44)] w (rV K) := by
  refine EvA.of (by decide +kernel) (Nat.le_of_ble_eq_true rfl) ?_
  change WA false yX7_init cX7_init 1 none d 44 2 2232 0 [some (.inr (.inr 44))] [] w (rV K)
  refine WA.aload_n dX7_init_0 rfl (by decide) ?_
  refine WA.objInit dX7_init_1 (am_mem 55 (by decide +kernel) rfl) (am_mem 23 (by decide +kernel) rfl) (am_mem 24 (by decide +kernel) rfl) (by decide) (Nat.le_trans (by decide) hd) (Nat.le_of_ble_eq_true rfl) ?_
  refine WA.aload_n dX7_init_4 rfl (by decide) ?_
  refine WA.sipush dX7_init_5 ⟨by decide, by decide⟩ ?_
  refine WA.newarray2 (n2 := 45) (kc := 1) (ks := 72) (N := 2160) (c := 45) (K := 0) rfl rfl rfl (by decide) dX7_init_8 (by decide) rfl (by decide) rfl (by decide) (by decide) (am_mem 43 (by decide +kernel) rfl) ?_
  obtain ⟨w1, qw1⟩ : ∃ z, z = wnew w 45 := ⟨_, rfl⟩
  rw [← qw1]
  refine pfX7_9 rfl rfl rfl dX7_init_10 (by decide : am_obj 45 44 7 2) ?_
  obtain ⟨w2, qw2⟩ : ∃ z, z = wset w1 44 0 45 := ⟨_, rfl⟩
  rw [← qw2]
  refine WA.aload_n dX7_init_13 rfl (by decide) ?_
  refine WA.bipush dX7_init_14 ⟨by decide, by decide⟩ ?_
  refine WA.newarray2 (n2 := 46) (kc := 0) (ks := 0) (N := 72) (c := 46) (K := 0) rfl rfl rfl (by decide) dX7_init_16 (by decide) rfl (by decide) rfl (by decide) (by decide) (am_mem 43 (by decide +kernel) rfl) ?_
  obtain ⟨w3, qw3⟩ : ∃ z, z = wnew w2 46 := ⟨_, rfl⟩
  rw [← qw3]
  refine pfX7_15 rfl rfl rfl dX7_init_18 (by decide : am_obj 46 44 7 2) ?_
  obtain ⟨w4, qw4⟩ : ∃ z, z = wset w3 44 1 46 := ⟨_, rfl⟩
  rw [← qw4]
  refine WA.vreturn dX7_init_21 ⟨rfl, ?_⟩
  refine h w4 ?_ ?_
  · intro c i hc
    rw [qw4, show wset w3 44 1 46 c i = w3 c i from if_neg (by omega)]
    rw [qw3, show wnew w2 46 c i = w2 c i from if_neg (by omega)]
    rw [qw2, show wset w1 44 0 45 c i = w1 c i from if_neg (by omega)]
    rw [qw1, show wnew w 45 c i = w c i from if_neg (by omega)]
  · intro c i hc1 hc2
    have hc : c = 44 ∨ c = 45 ∨ c = 46 := by omega
    rcases hc with rfl | rfl | rfl
    · by_cases e0 : i = 0
      · subst e0
        simp [qw1, qw2, qw3, qw4, wset, wnew, w00, rowS, rowM, hz]
      by_cases e1 : i = 1
      · subst e1
        simp [qw1, qw2, qw3, qw4, wset, wnew, w00, rowS, rowM, hz]
      simp [qw1, qw2, qw3, qw4, wset, wnew, w00, rowS, rowM, hz, e0, e1]
    · simp [qw1, qw2, qw3, qw4, wset, wnew, w00, rowS, rowM, hz]
    · simp [qw1, qw2, qw3, qw4, wset, wnew, w00, rowS, rowM, hz]
set_option maxRecDepth 10000 in
theorem kw_X7_57 {d : Nat} {w : Wd} {K : Wd → Prop} (hd : 1 ≤ d) (hz : ∀ i, w 57 i = 0) (h : ∀ w', (∀ c i, (c < 57 ∨ 59 < c) → w' c i = w c i) → (∀ c i, 57 ≤ c → c ≤ 59 → w' c i = w00 c i) → K w') : EvA false yX7_init cX7_init 1 none d 57 2 2232 [.inr (.inr 57)] w (rV K) := by
  refine EvA.of (by decide +kernel) (Nat.le_of_ble_eq_true rfl) ?_
  change WA false yX7_init cX7_init 1 none d 57 2 2232 0 [some (.inr (.inr 57))] [] w (rV K)
  refine WA.aload_n dX7_init_0 rfl (by decide) ?_
  refine WA.objInit dX7_init_1 (am_mem 55 (by decide +kernel) rfl) (am_mem 23 (by decide +kernel) rfl) (am_mem 24 (by decide +kernel) rfl) (by decide) (Nat.le_trans (by decide) hd) (Nat.le_of_ble_eq_true rfl) ?_
  refine WA.aload_n dX7_init_4 rfl (by decide) ?_
  refine WA.sipush dX7_init_5 ⟨by decide, by decide⟩ ?_
  refine WA.newarray2 (n2 := 58) (kc := 1) (ks := 72) (N := 2160) (c := 58) (K := 0) rfl rfl rfl (by decide) dX7_init_8 (by decide) rfl (by decide) rfl (by decide) (by decide) (am_mem 43 (by decide +kernel) rfl) ?_
  obtain ⟨w1, qw1⟩ : ∃ z, z = wnew w 58 := ⟨_, rfl⟩
  rw [← qw1]
  refine pfX7_9 rfl rfl rfl dX7_init_10 (by decide : am_obj 58 57 7 2) ?_
  obtain ⟨w2, qw2⟩ : ∃ z, z = wset w1 57 0 58 := ⟨_, rfl⟩
  rw [← qw2]
  refine WA.aload_n dX7_init_13 rfl (by decide) ?_
  refine WA.bipush dX7_init_14 ⟨by decide, by decide⟩ ?_
  refine WA.newarray2 (n2 := 59) (kc := 0) (ks := 0) (N := 72) (c := 59) (K := 0) rfl rfl rfl (by decide) dX7_init_16 (by decide) rfl (by decide) rfl (by decide) (by decide) (am_mem 43 (by decide +kernel) rfl) ?_
  obtain ⟨w3, qw3⟩ : ∃ z, z = wnew w2 59 := ⟨_, rfl⟩
  rw [← qw3]
  refine pfX7_15 rfl rfl rfl dX7_init_18 (by decide : am_obj 59 57 7 2) ?_
  obtain ⟨w4, qw4⟩ : ∃ z, z = wset w3 57 1 59 := ⟨_, rfl⟩
  rw [← qw4]
  refine WA.vreturn dX7_init_21 ⟨rfl, ?_⟩
  refine h w4 ?_ ?_
  · intro c i hc
    rw [qw4, show wset w3 57 1 59 c i = w3 c i from if_neg (by omega)]
    rw [qw3, show wnew w2 59 c i = w2 c i from if_neg (by omega)]
    rw [qw2, show wset w1 57 0 58 c i = w1 c i from if_neg (by omega)]
    rw [qw1, show wnew w 58 c i = w c i from if_neg (by omega)]
  · intro c i hc1 hc2
    have hc : c = 57 ∨ c = 58 ∨ c = 59 := by omega
    rcases hc with rfl | rfl | rfl
    · by_cases e0 : i = 0
      · subst e0
        simp [qw1, qw2, qw3, qw4, wset, wnew, w00, rowS, rowM, hz]
      by_cases e1 : i = 1
      · subst e1
        simp [qw1, qw2, qw3, qw4, wset, wnew, w00, rowS, rowM, hz]
      simp [qw1, qw2, qw3, qw4, wset, wnew, w00, rowS, rowM, hz, e0, e1]
    · simp [qw1, qw2, qw3, qw4, wset, wnew, w00, rowS, rowM, hz]
    · simp [qw1, qw2, qw3, qw4, wset, wnew, w00, rowS, rowM, hz]
set_option maxRecDepth 10000 in
theorem kw_X7_60 {d : Nat} {w : Wd} {K : Wd → Prop} (hd : 1 ≤ d) (hz : ∀ i, w 60 i = 0) (h : ∀ w', (∀ c i, (c < 60 ∨ 62 < c) → w' c i = w c i) → (∀ c i, 60 ≤ c → c ≤ 62 → w' c i = (if c = 62 then 0 else w00 c i)) → K w') : EvA false yX7_init cX7_init 1 none d 60 2 2232 [.inr (.inr 60)] w (rV K) := by
  refine EvA.of (by decide +kernel) (Nat.le_of_ble_eq_true rfl) ?_
  change WA false yX7_init cX7_init 1 none d 60 2 2232 0 [some (.inr (.inr 60))] [] w (rV K)
  refine WA.aload_n dX7_init_0 rfl (by decide) ?_
  refine WA.objInit dX7_init_1 (am_mem 55 (by decide +kernel) rfl) (am_mem 23 (by decide +kernel) rfl) (am_mem 24 (by decide +kernel) rfl) (by decide) (Nat.le_trans (by decide) hd) (Nat.le_of_ble_eq_true rfl) ?_
  refine WA.aload_n dX7_init_4 rfl (by decide) ?_
  refine WA.sipush dX7_init_5 ⟨by decide, by decide⟩ ?_
  refine WA.newarray2 (n2 := 61) (kc := 1) (ks := 72) (N := 2160) (c := 61) (K := 0) rfl rfl rfl (by decide) dX7_init_8 (by decide) rfl (by decide) rfl (by decide) (by decide) (am_mem 43 (by decide +kernel) rfl) ?_
  obtain ⟨w1, qw1⟩ : ∃ z, z = wnew w 61 := ⟨_, rfl⟩
  rw [← qw1]
  refine pfX7_9 rfl rfl rfl dX7_init_10 (by decide : am_obj 61 60 7 2) ?_
  obtain ⟨w2, qw2⟩ : ∃ z, z = wset w1 60 0 61 := ⟨_, rfl⟩
  rw [← qw2]
  refine WA.aload_n dX7_init_13 rfl (by decide) ?_
  refine WA.bipush dX7_init_14 ⟨by decide, by decide⟩ ?_
  refine WA.newarray2 (n2 := 62) (kc := 0) (ks := 0) (N := 72) (c := 62) (K := 0) rfl rfl rfl (by decide) dX7_init_16 (by decide) rfl (by decide) rfl (by decide) (by decide) (am_mem 43 (by decide +kernel) rfl) ?_
  obtain ⟨w3, qw3⟩ : ∃ z, z = wnew w2 62 := ⟨_, rfl⟩
  rw [← qw3]
  refine pfX7_15 rfl rfl rfl dX7_init_18 (by decide : am_obj 62 60 7 2) ?_
  obtain ⟨w4, qw4⟩ : ∃ z, z = wset w3 60 1 62 := ⟨_, rfl⟩
  rw [← qw4]
  refine WA.vreturn dX7_init_21 ⟨rfl, ?_⟩
  refine h w4 ?_ ?_
  · intro c i hc
    rw [qw4, show wset w3 60 1 62 c i = w3 c i from if_neg (by omega)]
    rw [qw3, show wnew w2 62 c i = w2 c i from if_neg (by omega)]
    rw [qw2, show wset w1 60 0 61 c i = w1 c i from if_neg (by omega)]
    rw [qw1, show wnew w 61 c i = w c i from if_neg (by omega)]
  · intro c i hc1 hc2
    have hc : c = 60 ∨ c = 61 ∨ c = 62 := by omega
    rcases hc with rfl | rfl | rfl
    · by_cases e0 : i = 0
      · subst e0
        simp [qw1, qw2, qw3, qw4, wset, wnew, w00, rowS, rowM, hz]
      by_cases e1 : i = 1
      · subst e1
        simp [qw1, qw2, qw3, qw4, wset, wnew, w00, rowS, rowM, hz]
      simp [qw1, qw2, qw3, qw4, wset, wnew, w00, rowS, rowM, hz, e0, e1]
    · simp [qw1, qw2, qw3, qw4, wset, wnew, w00, rowS, rowM, hz]
    · simp [qw1, qw2, qw3, qw4, wset, wnew, w00, rowS, rowM, hz]
set_option maxRecDepth 10000 in
theorem kw_X7_73 {d : Nat} {w : Wd} {K : Wd → Prop} (hd : 1 ≤ d) (hz : ∀ i, w 73 i = 0) (h : ∀ w', (∀ c i, (c < 73 ∨ 75 < c) → w' c i = w c i) → (∀ c i, 73 ≤ c → c ≤ 75 → w' c i = w00 c i) → K w') : EvA false yX7_init cX7_init 1 none d 73 2 2232 [.inr (.inr 73)] w (rV K) := by
  refine EvA.of (by decide +kernel) (Nat.le_of_ble_eq_true rfl) ?_
  change WA false yX7_init cX7_init 1 none d 73 2 2232 0 [some (.inr (.inr 73))] [] w (rV K)
  refine WA.aload_n dX7_init_0 rfl (by decide) ?_
  refine WA.objInit dX7_init_1 (am_mem 55 (by decide +kernel) rfl) (am_mem 23 (by decide +kernel) rfl) (am_mem 24 (by decide +kernel) rfl) (by decide) (Nat.le_trans (by decide) hd) (Nat.le_of_ble_eq_true rfl) ?_
  refine WA.aload_n dX7_init_4 rfl (by decide) ?_
  refine WA.sipush dX7_init_5 ⟨by decide, by decide⟩ ?_
  refine WA.newarray2 (n2 := 74) (kc := 1) (ks := 72) (N := 2160) (c := 74) (K := 0) rfl rfl rfl (by decide) dX7_init_8 (by decide) rfl (by decide) rfl (by decide) (by decide) (am_mem 43 (by decide +kernel) rfl) ?_
  obtain ⟨w1, qw1⟩ : ∃ z, z = wnew w 74 := ⟨_, rfl⟩
  rw [← qw1]
  refine pfX7_9 rfl rfl rfl dX7_init_10 (by decide : am_obj 74 73 7 2) ?_
  obtain ⟨w2, qw2⟩ : ∃ z, z = wset w1 73 0 74 := ⟨_, rfl⟩
  rw [← qw2]
  refine WA.aload_n dX7_init_13 rfl (by decide) ?_
  refine WA.bipush dX7_init_14 ⟨by decide, by decide⟩ ?_
  refine WA.newarray2 (n2 := 75) (kc := 0) (ks := 0) (N := 72) (c := 75) (K := 0) rfl rfl rfl (by decide) dX7_init_16 (by decide) rfl (by decide) rfl (by decide) (by decide) (am_mem 43 (by decide +kernel) rfl) ?_
  obtain ⟨w3, qw3⟩ : ∃ z, z = wnew w2 75 := ⟨_, rfl⟩
  rw [← qw3]
  refine pfX7_15 rfl rfl rfl dX7_init_18 (by decide : am_obj 75 73 7 2) ?_
  obtain ⟨w4, qw4⟩ : ∃ z, z = wset w3 73 1 75 := ⟨_, rfl⟩
  rw [← qw4]
  refine WA.vreturn dX7_init_21 ⟨rfl, ?_⟩
  refine h w4 ?_ ?_
  · intro c i hc
    rw [qw4, show wset w3 73 1 75 c i = w3 c i from if_neg (by omega)]
    rw [qw3, show wnew w2 75 c i = w2 c i from if_neg (by omega)]
    rw [qw2, show wset w1 73 0 74 c i = w1 c i from if_neg (by omega)]
    rw [qw1, show wnew w 74 c i = w c i from if_neg (by omega)]
  · intro c i hc1 hc2
    have hc : c = 73 ∨ c = 74 ∨ c = 75 := by omega
    rcases hc with rfl | rfl | rfl
    · by_cases e0 : i = 0
      · subst e0
        simp [qw1, qw2, qw3, qw4, wset, wnew, w00, rowS, rowM, hz]
      by_cases e1 : i = 1
      · subst e1
        simp [qw1, qw2, qw3, qw4, wset, wnew, w00, rowS, rowM, hz]
      simp [qw1, qw2, qw3, qw4, wset, wnew, w00, rowS, rowM, hz, e0, e1]
    · simp [qw1, qw2, qw3, qw4, wset, wnew, w00, rowS, rowM, hz]
    · simp [qw1, qw2, qw3, qw4, wset, wnew, w00, rowS, rowM, hz]
set_option maxRecDepth 10000 in
theorem kw_X7_76 {d : Nat} {w : Wd} {K : Wd → Prop} (hd : 1 ≤ d) (hz : ∀ i, w 76 i = 0) (h : ∀ w', (∀ c i, (c < 76 ∨ 78 < c) → w' c i = w c i) → (∀ c i, 76 ≤ c → c ≤ 78 → w' c i = (if c = 78 then 0 else w00 c i)) → K w') : EvA false yX7_init cX7_init 1 none d 76 2 2232 [.inr (.inr 76)] w (rV K) := by
  refine EvA.of (by decide +kernel) (Nat.le_of_ble_eq_true rfl) ?_
  change WA false yX7_init cX7_init 1 none d 76 2 2232 0 [some (.inr (.inr 76))] [] w (rV K)
  refine WA.aload_n dX7_init_0 rfl (by decide) ?_
  refine WA.objInit dX7_init_1 (am_mem 55 (by decide +kernel) rfl) (am_mem 23 (by decide +kernel) rfl) (am_mem 24 (by decide +kernel) rfl) (by decide) (Nat.le_trans (by decide) hd) (Nat.le_of_ble_eq_true rfl) ?_
  refine WA.aload_n dX7_init_4 rfl (by decide) ?_
  refine WA.sipush dX7_init_5 ⟨by decide, by decide⟩ ?_
  refine WA.newarray2 (n2 := 77) (kc := 1) (ks := 72) (N := 2160) (c := 77) (K := 0) rfl rfl rfl (by decide) dX7_init_8 (by decide) rfl (by decide) rfl (by decide) (by decide) (am_mem 43 (by decide +kernel) rfl) ?_
  obtain ⟨w1, qw1⟩ : ∃ z, z = wnew w 77 := ⟨_, rfl⟩
  rw [← qw1]
  refine pfX7_9 rfl rfl rfl dX7_init_10 (by decide : am_obj 77 76 7 2) ?_
  obtain ⟨w2, qw2⟩ : ∃ z, z = wset w1 76 0 77 := ⟨_, rfl⟩
  rw [← qw2]
  refine WA.aload_n dX7_init_13 rfl (by decide) ?_
  refine WA.bipush dX7_init_14 ⟨by decide, by decide⟩ ?_
  refine WA.newarray2 (n2 := 78) (kc := 0) (ks := 0) (N := 72) (c := 78) (K := 0) rfl rfl rfl (by decide) dX7_init_16 (by decide) rfl (by decide) rfl (by decide) (by decide) (am_mem 43 (by decide +kernel) rfl) ?_
  obtain ⟨w3, qw3⟩ : ∃ z, z = wnew w2 78 := ⟨_, rfl⟩
  rw [← qw3]
  refine pfX7_15 rfl rfl rfl dX7_init_18 (by decide : am_obj 78 76 7 2) ?_
  obtain ⟨w4, qw4⟩ : ∃ z, z = wset w3 76 1 78 := ⟨_, rfl⟩
  rw [← qw4]
  refine WA.vreturn dX7_init_21 ⟨rfl, ?_⟩
  refine h w4 ?_ ?_
  · intro c i hc
    rw [qw4, show wset w3 76 1 78 c i = w3 c i from if_neg (by omega)]
    rw [qw3, show wnew w2 78 c i = w2 c i from if_neg (by omega)]
    rw [qw2, show wset w1 76 0 77 c i = w1 c i from if_neg (by omega)]
    rw [qw1, show wnew w 77 c i = w c i from if_neg (by omega)]
  · intro c i hc1 hc2
    have hc : c = 76 ∨ c = 77 ∨ c = 78 := by omega
    rcases hc with rfl | rfl | rfl
    · by_cases e0 : i = 0
      · subst e0
        simp [qw1, qw2, qw3, qw4, wset, wnew, w00, rowS, rowM, hz]
      by_cases e1 : i = 1
      · subst e1
        simp [qw1, qw2, qw3, qw4, wset, wnew, w00, rowS, rowM, hz]
      simp [qw1, qw2, qw3, qw4, wset, wnew, w00, rowS, rowM, hz, e0, e1]
    · simp [qw1, qw2, qw3, qw4, wset, wnew, w00, rowS, rowM, hz]
    · simp [qw1, qw2, qw3, qw4, wset, wnew, w00, rowS, rowM, hz]
set_option maxRecDepth 10000 in
theorem kw_X7_89 {d : Nat} {w : Wd} {K : Wd → Prop} (hd : 1 ≤ d) (hz : ∀ i, w 89 i = 0) (h : ∀ w', (∀ c i, (c < 89 ∨ 91 < c) → w' c i = w c i) → (∀ c i, 89 ≤ c → c ≤ 91 → w' c i = w00 c i) → K w') : EvA false yX7_init cX7_init 1 none d 89 2 2232 [.inr (.inr 89)] w (rV K) := by
  refine EvA.of (by decide +kernel) (Nat.le_of_ble_eq_true rfl) ?_
  change WA false yX7_init cX7_init 1 none d 89 2 2232 0 [some (.inr (.inr 89))] [] w (rV K)
  refine WA.aload_n dX7_init_0 rfl (by decide) ?_
  refine WA.objInit dX7_init_1 (am_mem 55 (by decide +kernel) rfl) (am_mem 23 (by decide +kernel) rfl) (am_mem 24 (by decide +kernel) rfl) (by decide) (Nat.le_trans (by decide) hd) (Nat.le_of_ble_eq_true rfl) ?_
  refine WA.aload_n dX7_init_4 rfl (by decide) ?_
  refine WA.sipush dX7_init_5 ⟨by decide, by decide⟩ ?_
  refine WA.newarray2 (n2 := 90) (kc := 1) (ks := 72) (N := 2160) (c := 90) (K := 0) rfl rfl rfl (by decide) dX7_init_8 (by decide) rfl (by decide) rfl (by decide) (by decide) (am_mem 43 (by decide +kernel) rfl) ?_
  obtain ⟨w1, qw1⟩ : ∃ z, z = wnew w 90 := ⟨_, rfl⟩
  rw [← qw1]
  refine pfX7_9 rfl rfl rfl dX7_init_10 (by decide : am_obj 90 89 7 2) ?_
  obtain ⟨w2, qw2⟩ : ∃ z, z = wset w1 89 0 90 := ⟨_, rfl⟩
  rw [← qw2]
  refine WA.aload_n dX7_init_13 rfl (by decide) ?_
  refine WA.bipush dX7_init_14 ⟨by decide, by decide⟩ ?_
  refine WA.newarray2 (n2 := 91) (kc := 0) (ks := 0) (N := 72) (c := 91) (K := 0) rfl rfl rfl (by decide) dX7_init_16 (by decide) rfl (by decide) rfl (by decide) (by decide) (am_mem 43 (by decide +kernel) rfl) ?_
  obtain ⟨w3, qw3⟩ : ∃ z, z = wnew w2 91 := ⟨_, rfl⟩
  rw [← qw3]
  refine pfX7_15 rfl rfl rfl dX7_init_18 (by decide : am_obj 91 89 7 2) ?_
  obtain ⟨w4, qw4⟩ : ∃ z, z = wset w3 89 1 91 := ⟨_, rfl⟩
  rw [← qw4]
  refine WA.vreturn dX7_init_21 ⟨rfl, ?_⟩
  refine h w4 ?_ ?_
  · intro c i hc
    rw [qw4, show wset w3 89 1 91 c i = w3 c i from if_neg (by omega)]
    rw [qw3, show wnew w2 91 c i = w2 c i from if_neg (by omega)]
    rw [qw2, show wset w1 89 0 90 c i = w1 c i from if_neg (by omega)]
    rw [qw1, show wnew w 90 c i = w c i from if_neg (by omega)]
  · intro c i hc1 hc2
    have hc : c = 89 ∨ c = 90 ∨ c = 91 := by omega
    rcases hc with rfl | rfl | rfl
    · by_cases e0 : i = 0
      · subst e0
        simp [qw1, qw2, qw3, qw4, wset, wnew, w00, rowS, rowM, hz]
      by_cases e1 : i = 1
      · subst e1
        simp [qw1, qw2, qw3, qw4, wset, wnew, w00, rowS, rowM, hz]
      simp [qw1, qw2, qw3, qw4, wset, wnew, w00, rowS, rowM, hz, e0, e1]
    · simp [qw1, qw2, qw3, qw4, wset, wnew, w00, rowS, rowM, hz]
    · simp [qw1, qw2, qw3, qw4, wset, wnew, w00, rowS, rowM, hz]
set_option maxRecDepth 10000 in
theorem kw_X7_92 {d : Nat} {w : Wd} {K : Wd → Prop} (hd : 1 ≤ d) (hz : ∀ i, w 92 i = 0) (h : ∀ w', (∀ c i, (c < 92 ∨ 94 < c) → w' c i = w c i) → (∀ c i, 92 ≤ c → c ≤ 94 → w' c i = (if c = 94 then 0 else w00 c i)) → K w') : EvA false yX7_init cX7_init 1 none d 92 2 2232 [.inr (.inr 92)] w (rV K) := by
  refine EvA.of (by decide +kernel) (Nat.le_of_ble_eq_true rfl) ?_
  change WA false yX7_init cX7_init 1 none d 92 2 2232 0 [some (.inr (.inr 92))] [] w (rV K)
  refine WA.aload_n dX7_init_0 rfl (by decide) ?_
  refine WA.objInit dX7_init_1 (am_mem 55 (by decide +kernel) rfl) (am_mem 23 (by decide +kernel) rfl) (am_mem 24 (by decide +kernel) rfl) (by decide) (Nat.le_trans (by decide) hd) (Nat.le_of_ble_eq_true rfl) ?_
  refine WA.aload_n dX7_init_4 rfl (by decide) ?_
  refine WA.sipush dX7_init_5 ⟨by decide, by decide⟩ ?_
  refine WA.newarray2 (n2 := 93) (kc := 1) (ks := 72) (N := 2160) (c := 93) (K := 0) rfl rfl rfl (by decide) dX7_init_8 (by decide) rfl (by decide) rfl (by decide) (by decide) (am_mem 43 (by decide +kernel) rfl) ?_
  obtain ⟨w1, qw1⟩ : ∃ z, z = wnew w 93 := ⟨_, rfl⟩
  rw [← qw1]
  refine pfX7_9 rfl rfl rfl dX7_init_10 (by decide : am_obj 93 92 7 2) ?_
  obtain ⟨w2, qw2⟩ : ∃ z, z = wset w1 92 0 93 := ⟨_, rfl⟩
  rw [← qw2]
  refine WA.aload_n dX7_init_13 rfl (by decide) ?_
  refine WA.bipush dX7_init_14 ⟨by decide, by decide⟩ ?_
  refine WA.newarray2 (n2 := 94) (kc := 0) (ks := 0) (N := 72) (c := 94) (K := 0) rfl rfl rfl (by decide) dX7_init_16 (by decide) rfl (by decide) rfl (by decide) (by decide) (am_mem 43 (by decide +kernel) rfl) ?_
  obtain ⟨w3, qw3⟩ : ∃ z, z = wnew w2 94 := ⟨_, rfl⟩
  rw [← qw3]
  refine pfX7_15 rfl rfl rfl dX7_init_18 (by decide : am_obj 94 92 7 2) ?_
  obtain ⟨w4, qw4⟩ : ∃ z, z = wset w3 92 1 94 := ⟨_, rfl⟩
  rw [← qw4]
  refine WA.vreturn dX7_init_21 ⟨rfl, ?_⟩
  refine h w4 ?_ ?_
  · intro c i hc
    rw [qw4, show wset w3 92 1 94 c i = w3 c i from if_neg (by omega)]
    rw [qw3, show wnew w2 94 c i = w2 c i from if_neg (by omega)]
    rw [qw2, show wset w1 92 0 93 c i = w1 c i from if_neg (by omega)]
    rw [qw1, show wnew w 93 c i = w c i from if_neg (by omega)]
  · intro c i hc1 hc2
    have hc : c = 92 ∨ c = 93 ∨ c = 94 := by omega
    rcases hc with rfl | rfl | rfl
    · by_cases e0 : i = 0
      · subst e0
        simp [qw1, qw2, qw3, qw4, wset, wnew, w00, rowS, rowM, hz]
      by_cases e1 : i = 1
      · subst e1
        simp [qw1, qw2, qw3, qw4, wset, wnew, w00, rowS, rowM, hz]
      simp [qw1, qw2, qw3, qw4, wset, wnew, w00, rowS, rowM, hz, e0, e1]
    · simp [qw1, qw2, qw3, qw4, wset, wnew, w00, rowS, rowM, hz]
    · simp [qw1, qw2, qw3, qw4, wset, wnew, w00, rowS, rowM, hz]
theorem kl_6 {d : Nat} {w0 : Wd} {K : Wd → Prop} (h1 : w0 6 1 = 10) (h2 : w0 10 1 = 12) (h3 : w0 6 10 = 21) (h : ∀ w', (∀ c i, c ≠ 12 → c ≠ 21 → w' c i = w0 c i) → (∀ i, w' 12 i = if 0 ≤ i ∧ i < 72 then -1 else w0 12 i) → (∀ i, w' 21 i = if 0 ≤ i ∧ i < 72 then -1 else w0 21 i) → K w') :
    ∀ (t j : Nat) (w : Wd), t + j = 72 → (∀ c i, c ≠ 12 → c ≠ 21 → w c i = w0 c i) → (∀ i, w 12 i = if 0 ≤ i ∧ i < (j : Int) then -1 else w0 12 i) → (∀ i, w 21 i = if 0 ≤ i ∧ i < (j : Int) then -1 else w0 21 i) → WA false yX5_init cX5_init 2 none d 21 0 0 106 [some (.inr (.inr 6)), some (.inl (j : Int))] [] w (rV K) := by
  intro t
  induction t with
  | zero =>
    intro j w hj hp ha hb
    obtain rfl : j = 72 := by omega
    refine WA.iload_n dX5_init_106 rfl ?_
    refine WA.bipush dX5_init_107 ⟨by decide, by decide⟩ ?_
    refine WA.icmp_ge (tgt := 135) dX5_init_109 (by decide) (fun _ => ?_) (fun hc => absurd (by decide) hc)
    exact WA.vreturn dX5_init_135 ⟨rfl, h w hp ha hb⟩
  | succ t ih =>
    intro j w hj hp ha hb
    refine WA.iload_n dX5_init_106 rfl ?_
    refine WA.bipush dX5_init_107 ⟨by decide, by decide⟩ ?_
    refine WA.icmp_ge (tgt := 135) dX5_init_109 (by decide) (fun hc => absurd hc (by omega)) (fun _ => ?_)
    refine WA.aload_n dX5_init_112 rfl (by decide) ?_
    refine gfX5_18 rfl dX5_init_113 (by decide : am_obj 21 6 5 14) ?_
    refine WA.top (v2 := .inr (.inr 10)) (by rw [hp 6 1 (by decide) (by decide), h1]) ?_
    refine gfX5_53 rfl dX5_init_116 (by decide : am_obj 21 10 7 2) ?_
    refine WA.top (v2 := .inr (.inr 12)) (by rw [hp 10 1 (by decide) (by decide), h2]) ?_
    refine WA.iload_n dX5_init_119 rfl ?_
    refine WA.iconst dX5_init_120 ⟨by decide, by decide⟩ ?_
    refine WA.iastore dX5_init_121 (by decide : am_arr 21 12 0 72) (by omega) (by omega) ?_
    refine WA.aload_n dX5_init_122 rfl (by decide) ?_
    refine gfX5_46 rfl dX5_init_123 (by decide : am_obj 21 6 5 14) ?_
    refine WA.top (v2 := .inr (.inr 21)) (by rw [show wset w 12 (j : Int) (-1) 6 10 = w 6 10 from if_neg (by omega), hp 6 10 (by decide) (by decide), h3]) ?_
    refine WA.iload_n dX5_init_126 rfl ?_
    refine WA.iconst dX5_init_127 ⟨by decide, by decide⟩ ?_
    refine WA.iastore dX5_init_128 (by decide : am_arr 21 21 0 72) (by omega) (by omega) ?_
    refine WA.iinc (als' := [some (.inr (.inr 6)), some (.inl (((j + 1 : Nat)) : Int))]) dX5_init_129 rfl ⟨by omega, by omega⟩ rfl ?_
    refine WA.goto (tgt := 106) dX5_init_132 (by decide) ?_
    refine ih (j + 1) _ (by omega) (fun c i c1 c2 => ?_) (fun i => ?_) (fun i => ?_)
    · rw [show wset (wset w 12 (j : Int) (-1)) 21 (j : Int) (-1) c i = wset w 12 (j : Int) (-1) c i from if_neg (fun q => c2 q.1), show wset w 12 (j : Int) (-1) c i = w c i from if_neg (fun q => c1 q.1)]
      exact hp c i c1 c2
    · rw [show wset (wset w 12 (j : Int) (-1)) 21 (j : Int) (-1) 12 i = wset w 12 (j : Int) (-1) 12 i from if_neg (by omega)]
      unfold wset
      rw [ha i]
      by_cases e : i = (j : Int)
      · rw [if_pos ⟨rfl, e⟩, if_pos (by omega)]
      · rw [if_neg (fun q => e q.2)]
        by_cases e2 : 0 ≤ i ∧ i < (j : Int)
        · rw [if_pos e2, if_pos (by omega)]
        · rw [if_neg e2, if_neg (by omega)]
    · have e9 : ∀ i, wset w 12 (j : Int) (-1) 21 i = w 21 i := fun i => if_neg (by omega)
      show (if _ then _ else wset w 12 (j : Int) (-1) 21 i) = _
      rw [e9 i, hb i]
      by_cases e : i = (j : Int)
      · rw [if_pos ⟨rfl, e⟩, if_pos (by omega)]
      · rw [if_neg (fun q => e q.2)]
        by_cases e2 : 0 ≤ i ∧ i < (j : Int)
        · rw [if_pos e2, if_pos (by omega)]
        · rw [if_neg e2, if_neg (by omega)]
set_option maxRecDepth 10000 in
theorem kw_X5_6 {d : Nat} {w : Wd} {K : Wd → Prop} (hd : 2 ≤ d) (hz : ∀ i, w 6 i = 0) (h : ∀ w', (∀ c i, (c < 6 ∨ 21 < c) → w' c i = w c i) → (∀ c i, 6 ≤ c → c ≤ 21 → w' c i = w00 c i) → K w') : EvA false yX5_init cX5_init 2 none d 6 15 10228 [.inr (.inr 6)] w (rV K) := by
  refine EvA.of (by decide +kernel) (Nat.le_of_ble_eq_true rfl) ?_
  change WA false yX5_init cX5_init 2 none d 6 15 10228 0 [some (.inr (.inr 6)), none] [] w (rV K)
  refine WA.aload_n dX5_init_0 rfl (by decide) ?_
  refine WA.objInit dX5_init_1 (am_mem 49 (by decide +kernel) rfl) (am_mem 23 (by decide +kernel) rfl) (am_mem 24 (by decide +kernel) rfl) (by decide) (Nat.le_trans (by decide) hd) (Nat.le_of_ble_eq_true rfl) ?_
  refine WA.aload_n dX5_init_4 rfl (by decide) ?_
  refine WA.new2 (n2 := 7) (kc := 14) (ks := 10226) (N := 2) (ci := 7) (c := 7) rfl rfl rfl (by decide) dX5_init_5 (by decide) (by decide) rfl gin_X7 tyX7_ok (by decide) ⟨am_mem 50 (by decide +kernel) rfl, am_mem 51 (by decide +kernel) rfl, am_mem 4 (by decide +kernel) rfl⟩ ?_
  obtain ⟨w1, qw1⟩ : ∃ z, z = wnew w 7 := ⟨_, rfl⟩
  rw [← qw1]
  refine WA.dup dX5_init_8 rfl ?_
  refine WA.callIN0 (n2 := 9) (kc' := 2) (ks' := 2232) (kc := 12) (ks := 7994) (d' := 1) dX5_init_9 lkX5_11 rfl rfl rfl (by decide) (Nat.le_of_ble_eq_true rfl) (Nat.lt_of_lt_of_le (by decide) hd) (kw_X7_7 (K := (fun z : Wd => (∀ c i, (c < 7 ∨ 9 < c) → z c i = w1 c i) ∧ (∀ c i, 7 ≤ c → c ≤ 9 → z c i = w00 c i))) (Nat.le_refl _) (fun i => by simp [qw1, wset, wnew, w00, rowS, rowM, hz]) (fun _ o r => ⟨o, r⟩)) ?_
  rintro r w2 ⟨rfl, ow2, rw2⟩
  change WA _ _ _ _ _ _ _ _ _ _ _ [.inr (.inr 7), .inr (.inr 6)] _ _
  refine pfX5_12 rfl rfl rfl dX5_init_12 (by decide : am_obj 9 6 5 14) ?_
  obtain ⟨w3, qw3⟩ : ∃ z, z = wset w2 6 0 7 := ⟨_, rfl⟩
  rw [← qw3]
  refine WA.aload_n dX5_init_15 rfl (by decide) ?_
  refine WA.new2 (n2 := 10) (kc := 11) (ks := 7992) (N := 2) (ci := 7) (c := 10) rfl rfl rfl (by decide) dX5_init_16 (by decide) (by decide) rfl gin_X7 tyX7_ok (by decide) ⟨am_mem 50 (by decide +kernel) rfl, am_mem 51 (by decide +kernel) rfl, am_mem 4 (by decide +kernel) rfl⟩ ?_
  obtain ⟨w4, qw4⟩ : ∃ z, z = wnew w3 10 := ⟨_, rfl⟩
  rw [← qw4]
  refine WA.dup dX5_init_19 rfl ?_
  refine WA.callIN0 (n2 := 12) (kc' := 2) (ks' := 2232) (kc := 9) (ks := 5760) (d' := 1) dX5_init_20 lkX5_11 rfl rfl rfl (by decide) (Nat.le_of_ble_eq_true rfl) (Nat.lt_of_lt_of_le (by decide) hd) (kw_X7_10 (K := (fun z : Wd => (∀ c i, (c < 10 ∨ 12 < c) → z c i = w4 c i) ∧ (∀ c i, 10 ≤ c → c ≤ 12 → z c i = (if c = 12 then 0 else w00 c i)))) (Nat.le_refl _) (fun i => by simp [qw1, ow2, rw2, qw3, qw4, wset, wnew, w00, rowS, rowM, hz]) (fun _ o r => ⟨o, r⟩)) ?_
  rintro r w5 ⟨rfl, ow5, rw5⟩
  change WA _ _ _ _ _ _ _ _ _ _ _ [.inr (.inr 10), .inr (.inr 6)] _ _
  refine pfX5_18 rfl rfl rfl dX5_init_23 (by decide : am_obj 12 6 5 14) ?_
  obtain ⟨w6, qw6⟩ : ∃ z, z = wset w5 6 1 10 := ⟨_, rfl⟩
  rw [← qw6]
  refine WA.aload_n dX5_init_26 rfl (by decide) ?_
  refine WA.bipush dX5_init_27 ⟨by decide, by decide⟩ ?_
  refine WA.newarray2 (n2 := 13) (kc := 8) (ks := 5688) (N := 72) (c := 13) (K := 0) rfl rfl rfl (by decide) dX5_init_29 (by decide) rfl (by decide) rfl (by decide) (by decide) (am_mem 43 (by decide +kernel) rfl) ?_
  obtain ⟨w7, qw7⟩ : ∃ z, z = wnew w6 13 := ⟨_, rfl⟩
  rw [← qw7]
  refine pfX5_21 rfl rfl rfl dX5_init_31 (by decide : am_obj 13 6 5 14) ?_
  obtain ⟨w8, qw8⟩ : ∃ z, z = wset w7 6 2 13 := ⟨_, rfl⟩
  rw [← qw8]
  refine WA.aload_n dX5_init_34 rfl (by decide) ?_
  refine WA.bipush dX5_init_35 ⟨by decide, by decide⟩ ?_
  refine WA.newarray2 (n2 := 14) (kc := 7) (ks := 5616) (N := 72) (c := 14) (K := 0) rfl rfl rfl (by decide) dX5_init_37 (by decide) rfl (by decide) rfl (by decide) (by decide) (am_mem 43 (by decide +kernel) rfl) ?_
  obtain ⟨w9, qw9⟩ : ∃ z, z = wnew w8 14 := ⟨_, rfl⟩
  rw [← qw9]
  refine pfX5_25 rfl rfl rfl dX5_init_39 (by decide : am_obj 14 6 5 14) ?_
  obtain ⟨w10, qw10⟩ : ∃ z, z = wset w9 6 3 14 := ⟨_, rfl⟩
  rw [← qw10]
  refine WA.aload_n dX5_init_42 rfl (by decide) ?_
  refine WA.bipush dX5_init_43 ⟨by decide, by decide⟩ ?_
  refine WA.newarray2 (n2 := 15) (kc := 6) (ks := 5544) (N := 72) (c := 15) (K := 0) rfl rfl rfl (by decide) dX5_init_45 (by decide) rfl (by decide) rfl (by decide) (by decide) (am_mem 43 (by decide +kernel) rfl) ?_
  obtain ⟨w11, qw11⟩ : ∃ z, z = wnew w10 15 := ⟨_, rfl⟩
  rw [← qw11]
  refine pfX5_28 rfl rfl rfl dX5_init_47 (by decide : am_obj 15 6 5 14) ?_
  obtain ⟨w12, qw12⟩ : ∃ z, z = wset w11 6 4 15 := ⟨_, rfl⟩
  rw [← qw12]
  refine WA.aload_n dX5_init_50 rfl (by decide) ?_
  refine WA.bipush dX5_init_51 ⟨by decide, by decide⟩ ?_
  refine WA.newarray2 (n2 := 16) (kc := 5) (ks := 5472) (N := 72) (c := 16) (K := 0) rfl rfl rfl (by decide) dX5_init_53 (by decide) rfl (by decide) rfl (by decide) (by decide) (am_mem 43 (by decide +kernel) rfl) ?_
  obtain ⟨w13, qw13⟩ : ∃ z, z = wnew w12 16 := ⟨_, rfl⟩
  rw [← qw13]
  refine pfX5_31 rfl rfl rfl dX5_init_55 (by decide : am_obj 16 6 5 14) ?_
  obtain ⟨w14, qw14⟩ : ∃ z, z = wset w13 6 5 16 := ⟨_, rfl⟩
  rw [← qw14]
  refine WA.aload_n dX5_init_58 rfl (by decide) ?_
  refine WA.bipush dX5_init_59 ⟨by decide, by decide⟩ ?_
  refine WA.newarray2 (n2 := 17) (kc := 4) (ks := 5400) (N := 72) (c := 17) (K := 0) rfl rfl rfl (by decide) dX5_init_61 (by decide) rfl (by decide) rfl (by decide) (by decide) (am_mem 43 (by decide +kernel) rfl) ?_
  obtain ⟨w15, qw15⟩ : ∃ z, z = wnew w14 17 := ⟨_, rfl⟩
  rw [← qw15]
  refine pfX5_34 rfl rfl rfl dX5_init_63 (by decide : am_obj 17 6 5 14) ?_
  obtain ⟨w16, qw16⟩ : ∃ z, z = wset w15 6 6 17 := ⟨_, rfl⟩
  rw [← qw16]
  refine WA.aload_n dX5_init_66 rfl (by decide) ?_
  refine WA.sipush dX5_init_67 ⟨by decide, by decide⟩ ?_
  refine WA.newarray2 (n2 := 18) (kc := 3) (ks := 216) (N := 5184) (c := 18) (K := 0) rfl rfl rfl (by decide) dX5_init_70 (by decide) rfl (by decide) rfl (by decide) (by decide) (am_mem 43 (by decide +kernel) rfl) ?_
  obtain ⟨w17, qw17⟩ : ∃ z, z = wnew w16 18 := ⟨_, rfl⟩
  rw [← qw17]
  refine pfX5_37 rfl rfl rfl dX5_init_72 (by decide : am_obj 18 6 5 14) ?_
  obtain ⟨w18, qw18⟩ : ∃ z, z = wset w17 6 7 18 := ⟨_, rfl⟩
  rw [← qw18]
  refine WA.aload_n dX5_init_75 rfl (by decide) ?_
  refine WA.bipush dX5_init_76 ⟨by decide, by decide⟩ ?_
  refine WA.newarray2 (n2 := 19) (kc := 2) (ks := 144) (N := 72) (c := 19) (K := 0) rfl rfl rfl (by decide) dX5_init_78 (by decide) rfl (by decide) rfl (by decide) (by decide) (am_mem 43 (by decide +kernel) rfl) ?_
  obtain ⟨w19, qw19⟩ : ∃ z, z = wnew w18 19 := ⟨_, rfl⟩
  rw [← qw19]
  refine pfX5_40 rfl rfl rfl dX5_init_80 (by decide : am_obj 19 6 5 14) ?_
  obtain ⟨w20, qw20⟩ : ∃ z, z = wset w19 6 8 19 := ⟨_, rfl⟩
  rw [← qw20]
  refine WA.aload_n dX5_init_83 rfl (by decide) ?_
  refine WA.bipush dX5_init_84 ⟨by decide, by decide⟩ ?_
  refine WA.newarray2 (n2 := 20) (kc := 1) (ks := 72) (N := 72) (c := 20) (K := 0) rfl rfl rfl (by decide) dX5_init_86 (by decide) rfl (by decide) rfl (by decide) (by decide) (am_mem 43 (by decide +kernel) rfl) ?_
  obtain ⟨w21, qw21⟩ : ∃ z, z = wnew w20 20 := ⟨_, rfl⟩
  rw [← qw21]
  refine pfX5_43 rfl rfl rfl dX5_init_88 (by decide : am_obj 20 6 5 14) ?_
  obtain ⟨w22, qw22⟩ : ∃ z, z = wset w21 6 9 20 := ⟨_, rfl⟩
  rw [← qw22]
  refine WA.aload_n dX5_init_91 rfl (by decide) ?_
  refine WA.bipush dX5_init_92 ⟨by decide, by decide⟩ ?_
  refine WA.newarray2 (n2 := 21) (kc := 0) (ks := 0) (N := 72) (c := 21) (K := 0) rfl rfl rfl (by decide) dX5_init_94 (by decide) rfl (by decide) rfl (by decide) (by decide) (am_mem 43 (by decide +kernel) rfl) ?_
  obtain ⟨w23, qw23⟩ : ∃ z, z = wnew w22 21 := ⟨_, rfl⟩
  rw [← qw23]
  refine pfX5_46 rfl rfl rfl dX5_init_96 (by decide : am_obj 21 6 5 14) ?_
  obtain ⟨w24, qw24⟩ : ∃ z, z = wset w23 6 10 21 := ⟨_, rfl⟩
  rw [← qw24]
  refine WA.aload_n dX5_init_99 rfl (by decide) ?_
  refine WA.iconst dX5_init_100 ⟨by decide, by decide⟩ ?_
  refine pfX5_49 rfl dX5_init_101 (by decide : am_obj 21 6 5 14) (by decide) ?_
  obtain ⟨w25, qw25⟩ : ∃ z, z = wset w24 6 13 1 := ⟨_, rfl⟩
  rw [← qw25]
  refine WA.iconst dX5_init_104 ⟨by decide, by decide⟩ ?_
  refine WA.istore_n (als' := [some (.inr (.inr 6)), some (.inl 0)]) dX5_init_105 (Nat.le_of_ble_eq_true rfl) rfl ?_
  refine kl_6 (w0 := w25) (by simp [qw1, ow2, rw2, qw3, qw4, ow5, rw5, qw6, qw7, qw8, qw9, qw10, qw11, qw12, qw13, qw14, qw15, qw16, qw17, qw18, qw19, qw20, qw21, qw22, qw23, qw24, qw25, wset, wnew, w00, rowS, rowM, hz]) (by simp [qw1, ow2, rw2, qw3, qw4, ow5, rw5, qw6, qw7, qw8, qw9, qw10, qw11, qw12, qw13, qw14, qw15, qw16, qw17, qw18, qw19, qw20, qw21, qw22, qw23, qw24, qw25, wset, wnew, w00, rowS, rowM, hz]) (by simp [qw1, ow2, rw2, qw3, qw4, ow5, rw5, qw6, qw7, qw8, qw9, qw10, qw11, qw12, qw13, qw14, qw15, qw16, qw17, qw18, qw19, qw20, qw21, qw22, qw23, qw24, qw25, wset, wnew, w00, rowS, rowM, hz]) (fun w26 pw26 aw26 bw26 => ?_) 72 0 w25 rfl (fun c i _ _ => rfl) (fun i => by rw [if_neg (by omega)]) (fun i => by rw [if_neg (by omega)])
  refine h w26 ?_ ?_
  · intro c i hc
    rw [pw26 c i (by omega) (by omega)]
    rw [qw25, show wset w24 6 13 1 c i = w24 c i from if_neg (by omega)]
    rw [qw24, show wset w23 6 10 21 c i = w23 c i from if_neg (by omega)]
    rw [qw23, show wnew w22 21 c i = w22 c i from if_neg (by omega)]
    rw [qw22, show wset w21 6 9 20 c i = w21 c i from if_neg (by omega)]
    rw [qw21, show wnew w20 20 c i = w20 c i from if_neg (by omega)]
    rw [qw20, show wset w19 6 8 19 c i = w19 c i from if_neg (by omega)]
    rw [qw19, show wnew w18 19 c i = w18 c i from if_neg (by omega)]
    rw [qw18, show wset w17 6 7 18 c i = w17 c i from if_neg (by omega)]
    rw [qw17, show wnew w16 18 c i = w16 c i from if_neg (by omega)]
    rw [qw16, show wset w15 6 6 17 c i = w15 c i from if_neg (by omega)]
    rw [qw15, show wnew w14 17 c i = w14 c i from if_neg (by omega)]
    rw [qw14, show wset w13 6 5 16 c i = w13 c i from if_neg (by omega)]
    rw [qw13, show wnew w12 16 c i = w12 c i from if_neg (by omega)]
    rw [qw12, show wset w11 6 4 15 c i = w11 c i from if_neg (by omega)]
    rw [qw11, show wnew w10 15 c i = w10 c i from if_neg (by omega)]
    rw [qw10, show wset w9 6 3 14 c i = w9 c i from if_neg (by omega)]
    rw [qw9, show wnew w8 14 c i = w8 c i from if_neg (by omega)]
    rw [qw8, show wset w7 6 2 13 c i = w7 c i from if_neg (by omega)]
    rw [qw7, show wnew w6 13 c i = w6 c i from if_neg (by omega)]
    rw [qw6, show wset w5 6 1 10 c i = w5 c i from if_neg (by omega)]
    rw [ow5 c i (by omega)]
    rw [qw4, show wnew w3 10 c i = w3 c i from if_neg (by omega)]
    rw [qw3, show wset w2 6 0 7 c i = w2 c i from if_neg (by omega)]
    rw [ow2 c i (by omega)]
    rw [qw1, show wnew w 7 c i = w c i from if_neg (by omega)]
  · intro c i hc1 hc2
    have hc : (7 ≤ c ∧ c ≤ 9) ∨ (10 ≤ c ∧ c ≤ 11) ∨ c = 6 ∨ c = 12 ∨ c = 13 ∨ c = 14 ∨ c = 15 ∨ c = 16 ∨ c = 17 ∨ c = 18 ∨ c = 19 ∨ c = 20 ∨ c = 21 := by omega
    rcases hc with hc | hc | rfl | rfl | rfl | rfl | rfl | rfl | rfl | rfl | rfl | rfl | rfl
    · rw [pw26 c i (by omega) (by omega)]
      rw [qw25, show wset w24 6 13 1 c i = w24 c i from if_neg (by omega)]
      rw [qw24, show wset w23 6 10 21 c i = w23 c i from if_neg (by omega)]
      rw [qw23, show wnew w22 21 c i = w22 c i from if_neg (by omega)]
      rw [qw22, show wset w21 6 9 20 c i = w21 c i from if_neg (by omega)]
      rw [qw21, show wnew w20 20 c i = w20 c i from if_neg (by omega)]
      rw [qw20, show wset w19 6 8 19 c i = w19 c i from if_neg (by omega)]
      rw [qw19, show wnew w18 19 c i = w18 c i from if_neg (by omega)]
      rw [qw18, show wset w17 6 7 18 c i = w17 c i from if_neg (by omega)]
      rw [qw17, show wnew w16 18 c i = w16 c i from if_neg (by omega)]
      rw [qw16, show wset w15 6 6 17 c i = w15 c i from if_neg (by omega)]
      rw [qw15, show wnew w14 17 c i = w14 c i from if_neg (by omega)]
      rw [qw14, show wset w13 6 5 16 c i = w13 c i from if_neg (by omega)]
      rw [qw13, show wnew w12 16 c i = w12 c i from if_neg (by omega)]
      rw [qw12, show wset w11 6 4 15 c i = w11 c i from if_neg (by omega)]
      rw [qw11, show wnew w10 15 c i = w10 c i from if_neg (by omega)]
      rw [qw10, show wset w9 6 3 14 c i = w9 c i from if_neg (by omega)]
      rw [qw9, show wnew w8 14 c i = w8 c i from if_neg (by omega)]
      rw [qw8, show wset w7 6 2 13 c i = w7 c i from if_neg (by omega)]
      rw [qw7, show wnew w6 13 c i = w6 c i from if_neg (by omega)]
      rw [qw6, show wset w5 6 1 10 c i = w5 c i from if_neg (by omega)]
      rw [ow5 c i (by omega)]
      rw [qw4, show wnew w3 10 c i = w3 c i from if_neg (by omega)]
      rw [qw3, show wset w2 6 0 7 c i = w2 c i from if_neg (by omega)]
      exact rw2 c i (by omega) (by omega)
    · rw [pw26 c i (by omega) (by omega)]
      rw [qw25, show wset w24 6 13 1 c i = w24 c i from if_neg (by omega)]
      rw [qw24, show wset w23 6 10 21 c i = w23 c i from if_neg (by omega)]
      rw [qw23, show wnew w22 21 c i = w22 c i from if_neg (by omega)]
      rw [qw22, show wset w21 6 9 20 c i = w21 c i from if_neg (by omega)]
      rw [qw21, show wnew w20 20 c i = w20 c i from if_neg (by omega)]
      rw [qw20, show wset w19 6 8 19 c i = w19 c i from if_neg (by omega)]
      rw [qw19, show wnew w18 19 c i = w18 c i from if_neg (by omega)]
      rw [qw18, show wset w17 6 7 18 c i = w17 c i from if_neg (by omega)]
      rw [qw17, show wnew w16 18 c i = w16 c i from if_neg (by omega)]
      rw [qw16, show wset w15 6 6 17 c i = w15 c i from if_neg (by omega)]
      rw [qw15, show wnew w14 17 c i = w14 c i from if_neg (by omega)]
      rw [qw14, show wset w13 6 5 16 c i = w13 c i from if_neg (by omega)]
      rw [qw13, show wnew w12 16 c i = w12 c i from if_neg (by omega)]
      rw [qw12, show wset w11 6 4 15 c i = w11 c i from if_neg (by omega)]
      rw [qw11, show wnew w10 15 c i = w10 c i from if_neg (by omega)]
      rw [qw10, show wset w9 6 3 14 c i = w9 c i from if_neg (by omega)]
      rw [qw9, show wnew w8 14 c i = w8 c i from if_neg (by omega)]
      rw [qw8, show wset w7 6 2 13 c i = w7 c i from if_neg (by omega)]
      rw [qw7, show wnew w6 13 c i = w6 c i from if_neg (by omega)]
      rw [qw6, show wset w5 6 1 10 c i = w5 c i from if_neg (by omega)]
      exact (rw5 c i (by omega) (by omega)).trans (if_neg (by omega))
    · by_cases e0 : i = 0
      · subst e0
        simp [qw1, ow2, rw2, qw3, qw4, ow5, rw5, qw6, qw7, qw8, qw9, qw10, qw11, qw12, qw13, qw14, qw15, qw16, qw17, qw18, qw19, qw20, qw21, qw22, qw23, qw24, qw25, pw26, aw26, bw26, wset, wnew, w00, rowS, rowM, hz]
      by_cases e1 : i = 1
      · subst e1
        simp [qw1, ow2, rw2, qw3, qw4, ow5, rw5, qw6, qw7, qw8, qw9, qw10, qw11, qw12, qw13, qw14, qw15, qw16, qw17, qw18, qw19, qw20, qw21, qw22, qw23, qw24, qw25, pw26, aw26, bw26, wset, wnew, w00, rowS, rowM, hz]
      by_cases e2 : i = 2
      · subst e2
        simp [qw1, ow2, rw2, qw3, qw4, ow5, rw5, qw6, qw7, qw8, qw9, qw10, qw11, qw12, qw13, qw14, qw15, qw16, qw17, qw18, qw19, qw20, qw21, qw22, qw23, qw24, qw25, pw26, aw26, bw26, wset, wnew, w00, rowS, rowM, hz]
      by_cases e3 : i = 3
      · subst e3
        simp [qw1, ow2, rw2, qw3, qw4, ow5, rw5, qw6, qw7, qw8, qw9, qw10, qw11, qw12, qw13, qw14, qw15, qw16, qw17, qw18, qw19, qw20, qw21, qw22, qw23, qw24, qw25, pw26, aw26, bw26, wset, wnew, w00, rowS, rowM, hz]
      by_cases e4 : i = 4
      · subst e4
        simp [qw1, ow2, rw2, qw3, qw4, ow5, rw5, qw6, qw7, qw8, qw9, qw10, qw11, qw12, qw13, qw14, qw15, qw16, qw17, qw18, qw19, qw20, qw21, qw22, qw23, qw24, qw25, pw26, aw26, bw26, wset, wnew, w00, rowS, rowM, hz]
      by_cases e5 : i = 5
      · subst e5
        simp [qw1, ow2, rw2, qw3, qw4, ow5, rw5, qw6, qw7, qw8, qw9, qw10, qw11, qw12, qw13, qw14, qw15, qw16, qw17, qw18, qw19, qw20, qw21, qw22, qw23, qw24, qw25, pw26, aw26, bw26, wset, wnew, w00, rowS, rowM, hz]
      by_cases e6 : i = 6
      · subst e6
        simp [qw1, ow2, rw2, qw3, qw4, ow5, rw5, qw6, qw7, qw8, qw9, qw10, qw11, qw12, qw13, qw14, qw15, qw16, qw17, qw18, qw19, qw20, qw21, qw22, qw23, qw24, qw25, pw26, aw26, bw26, wset, wnew, w00, rowS, rowM, hz]
      by_cases e7 : i = 7
      · subst e7
        simp [qw1, ow2, rw2, qw3, qw4, ow5, rw5, qw6, qw7, qw8, qw9, qw10, qw11, qw12, qw13, qw14, qw15, qw16, qw17, qw18, qw19, qw20, qw21, qw22, qw23, qw24, qw25, pw26, aw26, bw26, wset, wnew, w00, rowS, rowM, hz]
      by_cases e8 : i = 8
      · subst e8
        simp [qw1, ow2, rw2, qw3, qw4, ow5, rw5, qw6, qw7, qw8, qw9, qw10, qw11, qw12, qw13, qw14, qw15, qw16, qw17, qw18, qw19, qw20, qw21, qw22, qw23, qw24, qw25, pw26, aw26, bw26, wset, wnew, w00, rowS, rowM, hz]
      by_cases e9 : i = 9
      · subst e9
        simp [qw1, ow2, rw2, qw3, qw4, ow5, rw5, qw6, qw7, qw8, qw9, qw10, qw11, qw12, qw13, qw14, qw15, qw16, qw17, qw18, qw19, qw20, qw21, qw22, qw23, qw24, qw25, pw26, aw26, bw26, wset, wnew, w00, rowS, rowM, hz]
      by_cases e10 : i = 10
      · subst e10
        simp [qw1, ow2, rw2, qw3, qw4, ow5, rw5, qw6, qw7, qw8, qw9, qw10, qw11, qw12, qw13, qw14, qw15, qw16, qw17, qw18, qw19, qw20, qw21, qw22, qw23, qw24, qw25, pw26, aw26, bw26, wset, wnew, w00, rowS, rowM, hz]
      by_cases e13 : i = 13
      · subst e13
        simp [qw1, ow2, rw2, qw3, qw4, ow5, rw5, qw6, qw7, qw8, qw9, qw10, qw11, qw12, qw13, qw14, qw15, qw16, qw17, qw18, qw19, qw20, qw21, qw22, qw23, qw24, qw25, pw26, aw26, bw26, wset, wnew, w00, rowS, rowM, hz]
      have g0 : ¬ (2 ≤ i ∧ i ≤ 10) := by omega
      simp [qw1, ow2, rw2, qw3, qw4, ow5, rw5, qw6, qw7, qw8, qw9, qw10, qw11, qw12, qw13, qw14, qw15, qw16, qw17, qw18, qw19, qw20, qw21, qw22, qw23, qw24, qw25, pw26, aw26, bw26, wset, wnew, w00, rowS, rowM, hz, g0, e0, e1, e2, e3, e4, e5, e6, e7, e8, e9, e10, e13]
    · simp [qw1, ow2, rw2, qw3, qw4, ow5, rw5, qw6, qw7, qw8, qw9, qw10, qw11, qw12, qw13, qw14, qw15, qw16, qw17, qw18, qw19, qw20, qw21, qw22, qw23, qw24, qw25, pw26, aw26, bw26, wset, wnew, w00, rowS, rowM, hz]
    · simp [qw1, ow2, rw2, qw3, qw4, ow5, rw5, qw6, qw7, qw8, qw9, qw10, qw11, qw12, qw13, qw14, qw15, qw16, qw17, qw18, qw19, qw20, qw21, qw22, qw23, qw24, qw25, pw26, aw26, bw26, wset, wnew, w00, rowS, rowM, hz]
    · simp [qw1, ow2, rw2, qw3, qw4, ow5, rw5, qw6, qw7, qw8, qw9, qw10, qw11, qw12, qw13, qw14, qw15, qw16, qw17, qw18, qw19, qw20, qw21, qw22, qw23, qw24, qw25, pw26, aw26, bw26, wset, wnew, w00, rowS, rowM, hz]
    · simp [qw1, ow2, rw2, qw3, qw4, ow5, rw5, qw6, qw7, qw8, qw9, qw10, qw11, qw12, qw13, qw14, qw15, qw16, qw17, qw18, qw19, qw20, qw21, qw22, qw23, qw24, qw25, pw26, aw26, bw26, wset, wnew, w00, rowS, rowM, hz]
    · simp [qw1, ow2, rw2, qw3, qw4, ow5, rw5, qw6, qw7, qw8, qw9, qw10, qw11, qw12, qw13, qw14, qw15, qw16, qw17, qw18, qw19, qw20, qw21, qw22, qw23, qw24, qw25, pw26, aw26, bw26, wset, wnew, w00, rowS, rowM, hz]
    · simp [qw1, ow2, rw2, qw3, qw4, ow5, rw5, qw6, qw7, qw8, qw9, qw10, qw11, qw12, qw13, qw14, qw15, qw16, qw17, qw18, qw19, qw20, qw21, qw22, qw23, qw24, qw25, pw26, aw26, bw26, wset, wnew, w00, rowS, rowM, hz]
    · simp [qw1, ow2, rw2, qw3, qw4, ow5, rw5, qw6, qw7, qw8, qw9, qw10, qw11, qw12, qw13, qw14, qw15, qw16, qw17, qw18, qw19, qw20, qw21, qw22, qw23, qw24, qw25, pw26, aw26, bw26, wset, wnew, w00, rowS, rowM, hz]
    · simp [qw1, ow2, rw2, qw3, qw4, ow5, rw5, qw6, qw7, qw8, qw9, qw10, qw11, qw12, qw13, qw14, qw15, qw16, qw17, qw18, qw19, qw20, qw21, qw22, qw23, qw24, qw25, pw26, aw26, bw26, wset, wnew, w00, rowS, rowM, hz]
    · simp [qw1, ow2, rw2, qw3, qw4, ow5, rw5, qw6, qw7, qw8, qw9, qw10, qw11, qw12, qw13, qw14, qw15, qw16, qw17, qw18, qw19, qw20, qw21, qw22, qw23, qw24, qw25, pw26, aw26, bw26, wset, wnew, w00, rowS, rowM, hz]
    · simp [qw1, ow2, rw2, qw3, qw4, ow5, rw5, qw6, qw7, qw8, qw9, qw10, qw11, qw12, qw13, qw14, qw15, qw16, qw17, qw18, qw19, qw20, qw21, qw22, qw23, qw24, qw25, pw26, aw26, bw26, wset, wnew, w00, rowS, rowM, hz]
theorem kl_22 {d : Nat} {w0 : Wd} {K : Wd → Prop} (h1 : w0 22 1 = 26) (h2 : w0 26 1 = 28) (h3 : w0 22 10 = 37) (h : ∀ w', (∀ c i, c ≠ 28 → c ≠ 37 → w' c i = w0 c i) → (∀ i, w' 28 i = if 0 ≤ i ∧ i < 72 then -1 else w0 28 i) → (∀ i, w' 37 i = if 0 ≤ i ∧ i < 72 then -1 else w0 37 i) → K w') :
    ∀ (t j : Nat) (w : Wd), t + j = 72 → (∀ c i, c ≠ 28 → c ≠ 37 → w c i = w0 c i) → (∀ i, w 28 i = if 0 ≤ i ∧ i < (j : Int) then -1 else w0 28 i) → (∀ i, w 37 i = if 0 ≤ i ∧ i < (j : Int) then -1 else w0 37 i) → WA false yX5_init cX5_init 2 none d 37 0 0 106 [some (.inr (.inr 22)), some (.inl (j : Int))] [] w (rV K) := by
  intro t
  induction t with
  | zero =>
    intro j w hj hp ha hb
    obtain rfl : j = 72 := by omega
    refine WA.iload_n dX5_init_106 rfl ?_
    refine WA.bipush dX5_init_107 ⟨by decide, by decide⟩ ?_
    refine WA.icmp_ge (tgt := 135) dX5_init_109 (by decide) (fun _ => ?_) (fun hc => absurd (by decide) hc)
    exact WA.vreturn dX5_init_135 ⟨rfl, h w hp ha hb⟩
  | succ t ih =>
    intro j w hj hp ha hb
    refine WA.iload_n dX5_init_106 rfl ?_
    refine WA.bipush dX5_init_107 ⟨by decide, by decide⟩ ?_
    refine WA.icmp_ge (tgt := 135) dX5_init_109 (by decide) (fun hc => absurd hc (by omega)) (fun _ => ?_)
    refine WA.aload_n dX5_init_112 rfl (by decide) ?_
    refine gfX5_18 rfl dX5_init_113 (by decide : am_obj 37 22 5 14) ?_
    refine WA.top (v2 := .inr (.inr 26)) (by rw [hp 22 1 (by decide) (by decide), h1]) ?_
    refine gfX5_53 rfl dX5_init_116 (by decide : am_obj 37 26 7 2) ?_
    refine WA.top (v2 := .inr (.inr 28)) (by rw [hp 26 1 (by decide) (by decide), h2]) ?_
    refine WA.iload_n dX5_init_119 rfl ?_
    refine WA.iconst dX5_init_120 ⟨by decide, by decide⟩ ?_
    refine WA.iastore dX5_init_121 (by decide : am_arr 37 28 0 72) (by omega) (by omega) ?_
    refine WA.aload_n dX5_init_122 rfl (by decide) ?_
    refine gfX5_46 rfl dX5_init_123 (by decide : am_obj 37 22 5 14) ?_
    refine WA.top (v2 := .inr (.inr 37)) (by rw [show wset w 28 (j : Int) (-1) 22 10 = w 22 10 from if_neg (by omega), hp 22 10 (by decide) (by decide), h3]) ?_
    refine WA.iload_n dX5_init_126 rfl ?_
    refine WA.iconst dX5_init_127 ⟨by decide, by decide⟩ ?_
    refine WA.iastore dX5_init_128 (by decide : am_arr 37 37 0 72) (by omega) (by omega) ?_
    refine WA.iinc (als' := [some (.inr (.inr 22)), some (.inl (((j + 1 : Nat)) : Int))]) dX5_init_129 rfl ⟨by omega, by omega⟩ rfl ?_
    refine WA.goto (tgt := 106) dX5_init_132 (by decide) ?_
    refine ih (j + 1) _ (by omega) (fun c i c1 c2 => ?_) (fun i => ?_) (fun i => ?_)
    · rw [show wset (wset w 28 (j : Int) (-1)) 37 (j : Int) (-1) c i = wset w 28 (j : Int) (-1) c i from if_neg (fun q => c2 q.1), show wset w 28 (j : Int) (-1) c i = w c i from if_neg (fun q => c1 q.1)]
      exact hp c i c1 c2
    · rw [show wset (wset w 28 (j : Int) (-1)) 37 (j : Int) (-1) 28 i = wset w 28 (j : Int) (-1) 28 i from if_neg (by omega)]
      unfold wset
      rw [ha i]
      by_cases e : i = (j : Int)
      · rw [if_pos ⟨rfl, e⟩, if_pos (by omega)]
      · rw [if_neg (fun q => e q.2)]
        by_cases e2 : 0 ≤ i ∧ i < (j : Int)
        · rw [if_pos e2, if_pos (by omega)]
        · rw [if_neg e2, if_neg (by omega)]
    · have e9 : ∀ i, wset w 28 (j : Int) (-1) 37 i = w 37 i := fun i => if_neg (by omega)
      show (if _ then _ else wset w 28 (j : Int) (-1) 37 i) = _
      rw [e9 i, hb i]
      by_cases e : i = (j : Int)
      · rw [if_pos ⟨rfl, e⟩, if_pos (by omega)]
      · rw [if_neg (fun q => e q.2)]
        by_cases e2 : 0 ≤ i ∧ i < (j : Int)
        · rw [if_pos e2, if_pos (by omega)]
        · rw [if_neg e2, if_neg (by omega)]
set_option maxRecDepth 10000 in
theorem kw_X5_22 {d : Nat} {w : Wd} {K : Wd → Prop} (hd : 2 ≤ d) (hz : ∀ i, w 22 i = 0) (h : ∀ w', (∀ c i, (c < 22 ∨ 37 < c) → w' c i = w c i) → (∀ c i, 22 ≤ c → c ≤ 37 → w' c i = w00 c i) → K w') : EvA false yX5_init cX5_init 2 none d 22 15 10228 [.inr (.inr 22)] w (rV K) := by
  refine EvA.of (by decide +kernel) (Nat.le_of_ble_eq_true rfl) ?_
  change WA false yX5_init cX5_init 2 none d 22 15 10228 0 [some (.inr (.inr 22)), none] [] w (rV K)
  refine WA.aload_n dX5_init_0 rfl (by decide) ?_
  refine WA.objInit dX5_init_1 (am_mem 49 (by decide +kernel) rfl) (am_mem 23 (by decide +kernel) rfl) (am_mem 24 (by decide +kernel) rfl) (by decide) (Nat.le_trans (by decide) hd) (Nat.le_of_ble_eq_true rfl) ?_
  refine WA.aload_n dX5_init_4 rfl (by decide) ?_
  refine WA.new2 (n2 := 23) (kc := 14) (ks := 10226) (N := 2) (ci := 7) (c := 23) rfl rfl rfl (by decide) dX5_init_5 (by decide) (by decide) rfl gin_X7 tyX7_ok (by decide) ⟨am_mem 50 (by decide +kernel) rfl, am_mem 51 (by decide +kernel) rfl, am_mem 4 (by decide +kernel) rfl⟩ ?_
  obtain ⟨w1, qw1⟩ : ∃ z, z = wnew w 23 := ⟨_, rfl⟩
  rw [← qw1]
  refine WA.dup dX5_init_8 rfl ?_
  refine WA.callIN0 (n2 := 25) (kc' := 2) (ks' := 2232) (kc := 12) (ks := 7994) (d' := 1) dX5_init_9 lkX5_11 rfl rfl rfl (by decide) (Nat.le_of_ble_eq_true rfl) (Nat.lt_of_lt_of_le (by decide) hd) (kw_X7_23 (K := (fun z : Wd => (∀ c i, (c < 23 ∨ 25 < c) → z c i = w1 c i) ∧ (∀ c i, 23 ≤ c → c ≤ 25 → z c i = w00 c i))) (Nat.le_refl _) (fun i => by simp [qw1, wset, wnew, w00, rowS, rowM, hz]) (fun _ o r => ⟨o, r⟩)) ?_
  rintro r w2 ⟨rfl, ow2, rw2⟩
  change WA _ _ _ _ _ _ _ _ _ _ _ [.inr (.inr 23), .inr (.inr 22)] _ _
  refine pfX5_12 rfl rfl rfl dX5_init_12 (by decide : am_obj 25 22 5 14) ?_
  obtain ⟨w3, qw3⟩ : ∃ z, z = wset w2 22 0 23 := ⟨_, rfl⟩
  rw [← qw3]
  refine WA.aload_n dX5_init_15 rfl (by decide) ?_
  refine WA.new2 (n2 := 26) (kc := 11) (ks := 7992) (N := 2) (ci := 7) (c := 26) rfl rfl rfl (by decide) dX5_init_16 (by decide) (by decide) rfl gin_X7 tyX7_ok (by decide) ⟨am_mem 50 (by decide +kernel) rfl, am_mem 51 (by decide +kernel) rfl, am_mem 4 (by decide +kernel) rfl⟩ ?_
  obtain ⟨w4, qw4⟩ : ∃ z, z = wnew w3 26 := ⟨_, rfl⟩
  rw [← qw4]
  refine WA.dup dX5_init_19 rfl ?_
  refine WA.callIN0 (n2 := 28) (kc' := 2) (ks' := 2232) (kc := 9) (ks := 5760) (d' := 1) dX5_init_20 lkX5_11 rfl rfl rfl (by decide) (Nat.le_of_ble_eq_true rfl) (Nat.lt_of_lt_of_le (by decide) hd) (kw_X7_26 (K := (fun z : Wd => (∀ c i, (c < 26 ∨ 28 < c) → z c i = w4 c i) ∧ (∀ c i, 26 ≤ c → c ≤ 28 → z c i = (if c = 28 then 0 else w00 c i)))) (Nat.le_refl _) (fun i => by simp [qw1, ow2, rw2, qw3, qw4, wset, wnew, w00, rowS, rowM, hz]) (fun _ o r => ⟨o, r⟩)) ?_
  rintro r w5 ⟨rfl, ow5, rw5⟩
  change WA _ _ _ _ _ _ _ _ _ _ _ [.inr (.inr 26), .inr (.inr 22)] _ _
  refine pfX5_18 rfl rfl rfl dX5_init_23 (by decide : am_obj 28 22 5 14) ?_
  obtain ⟨w6, qw6⟩ : ∃ z, z = wset w5 22 1 26 := ⟨_, rfl⟩
  rw [← qw6]
  refine WA.aload_n dX5_init_26 rfl (by decide) ?_
  refine WA.bipush dX5_init_27 ⟨by decide, by decide⟩ ?_
  refine WA.newarray2 (n2 := 29) (kc := 8) (ks := 5688) (N := 72) (c := 29) (K := 0) rfl rfl rfl (by decide) dX5_init_29 (by decide) rfl (by decide) rfl (by decide) (by decide) (am_mem 43 (by decide +kernel) rfl) ?_
  obtain ⟨w7, qw7⟩ : ∃ z, z = wnew w6 29 := ⟨_, rfl⟩
  rw [← qw7]
  refine pfX5_21 rfl rfl rfl dX5_init_31 (by decide : am_obj 29 22 5 14) ?_
  obtain ⟨w8, qw8⟩ : ∃ z, z = wset w7 22 2 29 := ⟨_, rfl⟩
  rw [← qw8]
  refine WA.aload_n dX5_init_34 rfl (by decide) ?_
  refine WA.bipush dX5_init_35 ⟨by decide, by decide⟩ ?_
  refine WA.newarray2 (n2 := 30) (kc := 7) (ks := 5616) (N := 72) (c := 30) (K := 0) rfl rfl rfl (by decide) dX5_init_37 (by decide) rfl (by decide) rfl (by decide) (by decide) (am_mem 43 (by decide +kernel) rfl) ?_
  obtain ⟨w9, qw9⟩ : ∃ z, z = wnew w8 30 := ⟨_, rfl⟩
  rw [← qw9]
  refine pfX5_25 rfl rfl rfl dX5_init_39 (by decide : am_obj 30 22 5 14) ?_
  obtain ⟨w10, qw10⟩ : ∃ z, z = wset w9 22 3 30 := ⟨_, rfl⟩
  rw [← qw10]
  refine WA.aload_n dX5_init_42 rfl (by decide) ?_
  refine WA.bipush dX5_init_43 ⟨by decide, by decide⟩ ?_
  refine WA.newarray2 (n2 := 31) (kc := 6) (ks := 5544) (N := 72) (c := 31) (K := 0) rfl rfl rfl (by decide) dX5_init_45 (by decide) rfl (by decide) rfl (by decide) (by decide) (am_mem 43 (by decide +kernel) rfl) ?_
  obtain ⟨w11, qw11⟩ : ∃ z, z = wnew w10 31 := ⟨_, rfl⟩
  rw [← qw11]
  refine pfX5_28 rfl rfl rfl dX5_init_47 (by decide : am_obj 31 22 5 14) ?_
  obtain ⟨w12, qw12⟩ : ∃ z, z = wset w11 22 4 31 := ⟨_, rfl⟩
  rw [← qw12]
  refine WA.aload_n dX5_init_50 rfl (by decide) ?_
  refine WA.bipush dX5_init_51 ⟨by decide, by decide⟩ ?_
  refine WA.newarray2 (n2 := 32) (kc := 5) (ks := 5472) (N := 72) (c := 32) (K := 0) rfl rfl rfl (by decide) dX5_init_53 (by decide) rfl (by decide) rfl (by decide) (by decide) (am_mem 43 (by decide +kernel) rfl) ?_
  obtain ⟨w13, qw13⟩ : ∃ z, z = wnew w12 32 := ⟨_, rfl⟩
  rw [← qw13]
  refine pfX5_31 rfl rfl rfl dX5_init_55 (by decide : am_obj 32 22 5 14) ?_
  obtain ⟨w14, qw14⟩ : ∃ z, z = wset w13 22 5 32 := ⟨_, rfl⟩
  rw [← qw14]
  refine WA.aload_n dX5_init_58 rfl (by decide) ?_
  refine WA.bipush dX5_init_59 ⟨by decide, by decide⟩ ?_
  refine WA.newarray2 (n2 := 33) (kc := 4) (ks := 5400) (N := 72) (c := 33) (K := 0) rfl rfl rfl (by decide) dX5_init_61 (by decide) rfl (by decide) rfl (by decide) (by decide) (am_mem 43 (by decide +kernel) rfl) ?_
  obtain ⟨w15, qw15⟩ : ∃ z, z = wnew w14 33 := ⟨_, rfl⟩
  rw [← qw15]
  refine pfX5_34 rfl rfl rfl dX5_init_63 (by decide : am_obj 33 22 5 14) ?_
  obtain ⟨w16, qw16⟩ : ∃ z, z = wset w15 22 6 33 := ⟨_, rfl⟩
  rw [← qw16]
  refine WA.aload_n dX5_init_66 rfl (by decide) ?_
  refine WA.sipush dX5_init_67 ⟨by decide, by decide⟩ ?_
  refine WA.newarray2 (n2 := 34) (kc := 3) (ks := 216) (N := 5184) (c := 34) (K := 0) rfl rfl rfl (by decide) dX5_init_70 (by decide) rfl (by decide) rfl (by decide) (by decide) (am_mem 43 (by decide +kernel) rfl) ?_
  obtain ⟨w17, qw17⟩ : ∃ z, z = wnew w16 34 := ⟨_, rfl⟩
  rw [← qw17]
  refine pfX5_37 rfl rfl rfl dX5_init_72 (by decide : am_obj 34 22 5 14) ?_
  obtain ⟨w18, qw18⟩ : ∃ z, z = wset w17 22 7 34 := ⟨_, rfl⟩
  rw [← qw18]
  refine WA.aload_n dX5_init_75 rfl (by decide) ?_
  refine WA.bipush dX5_init_76 ⟨by decide, by decide⟩ ?_
  refine WA.newarray2 (n2 := 35) (kc := 2) (ks := 144) (N := 72) (c := 35) (K := 0) rfl rfl rfl (by decide) dX5_init_78 (by decide) rfl (by decide) rfl (by decide) (by decide) (am_mem 43 (by decide +kernel) rfl) ?_
  obtain ⟨w19, qw19⟩ : ∃ z, z = wnew w18 35 := ⟨_, rfl⟩
  rw [← qw19]
  refine pfX5_40 rfl rfl rfl dX5_init_80 (by decide : am_obj 35 22 5 14) ?_
  obtain ⟨w20, qw20⟩ : ∃ z, z = wset w19 22 8 35 := ⟨_, rfl⟩
  rw [← qw20]
  refine WA.aload_n dX5_init_83 rfl (by decide) ?_
  refine WA.bipush dX5_init_84 ⟨by decide, by decide⟩ ?_
  refine WA.newarray2 (n2 := 36) (kc := 1) (ks := 72) (N := 72) (c := 36) (K := 0) rfl rfl rfl (by decide) dX5_init_86 (by decide) rfl (by decide) rfl (by decide) (by decide) (am_mem 43 (by decide +kernel) rfl) ?_
  obtain ⟨w21, qw21⟩ : ∃ z, z = wnew w20 36 := ⟨_, rfl⟩
  rw [← qw21]
  refine pfX5_43 rfl rfl rfl dX5_init_88 (by decide : am_obj 36 22 5 14) ?_
  obtain ⟨w22, qw22⟩ : ∃ z, z = wset w21 22 9 36 := ⟨_, rfl⟩
  rw [← qw22]
  refine WA.aload_n dX5_init_91 rfl (by decide) ?_
  refine WA.bipush dX5_init_92 ⟨by decide, by decide⟩ ?_
  refine WA.newarray2 (n2 := 37) (kc := 0) (ks := 0) (N := 72) (c := 37) (K := 0) rfl rfl rfl (by decide) dX5_init_94 (by decide) rfl (by decide) rfl (by decide) (by decide) (am_mem 43 (by decide +kernel) rfl) ?_
  obtain ⟨w23, qw23⟩ : ∃ z, z = wnew w22 37 := ⟨_, rfl⟩
  rw [← qw23]
  refine pfX5_46 rfl rfl rfl dX5_init_96 (by decide : am_obj 37 22 5 14) ?_
  obtain ⟨w24, qw24⟩ : ∃ z, z = wset w23 22 10 37 := ⟨_, rfl⟩
  rw [← qw24]
  refine WA.aload_n dX5_init_99 rfl (by decide) ?_
  refine WA.iconst dX5_init_100 ⟨by decide, by decide⟩ ?_
  refine pfX5_49 rfl dX5_init_101 (by decide : am_obj 37 22 5 14) (by decide) ?_
  obtain ⟨w25, qw25⟩ : ∃ z, z = wset w24 22 13 1 := ⟨_, rfl⟩
  rw [← qw25]
  refine WA.iconst dX5_init_104 ⟨by decide, by decide⟩ ?_
  refine WA.istore_n (als' := [some (.inr (.inr 22)), some (.inl 0)]) dX5_init_105 (Nat.le_of_ble_eq_true rfl) rfl ?_
  refine kl_22 (w0 := w25) (by simp [qw1, ow2, rw2, qw3, qw4, ow5, rw5, qw6, qw7, qw8, qw9, qw10, qw11, qw12, qw13, qw14, qw15, qw16, qw17, qw18, qw19, qw20, qw21, qw22, qw23, qw24, qw25, wset, wnew, w00, rowS, rowM, hz]) (by simp [qw1, ow2, rw2, qw3, qw4, ow5, rw5, qw6, qw7, qw8, qw9, qw10, qw11, qw12, qw13, qw14, qw15, qw16, qw17, qw18, qw19, qw20, qw21, qw22, qw23, qw24, qw25, wset, wnew, w00, rowS, rowM, hz]) (by simp [qw1, ow2, rw2, qw3, qw4, ow5, rw5, qw6, qw7, qw8, qw9, qw10, qw11, qw12, qw13, qw14, qw15, qw16, qw17, qw18, qw19, qw20, qw21, qw22, qw23, qw24, qw25, wset, wnew, w00, rowS, rowM, hz]) (fun w26 pw26 aw26 bw26 => ?_) 72 0 w25 rfl (fun c i _ _ => rfl) (fun i => by rw [if_neg (by omega)]) (fun i => by rw [if_neg (by omega)])
  refine h w26 ?_ ?_
  · intro c i hc
    rw [pw26 c i (by omega) (by omega)]
    rw [qw25, show wset w24 22 13 1 c i = w24 c i from if_neg (by omega)]
    rw [qw24, show wset w23 22 10 37 c i = w23 c i from if_neg (by omega)]
    rw [qw23, show wnew w22 37 c i = w22 c i from if_neg (by omega)]
    rw [qw22, show wset w21 22 9 36 c i = w21 c i from if_neg (by omega)]
    rw [qw21, show wnew w20 36 c i = w20 c i from if_neg (by omega)]
    rw [qw20, show wset w19 22 8 35 c i = w19 c i from if_neg (by omega)]
    rw [qw19, show wnew w18 35 c i = w18 c i from if_neg (by omega)]
    rw [qw18, show wset w17 22 7 34 c i = w17 c i from if_neg (by omega)]
    rw [qw17, show wnew w16 34 c i = w16 c i from if_neg (by omega)]
    rw [qw16, show wset w15 22 6 33 c i = w15 c i from if_neg (by omega)]
    rw [qw15, show wnew w14 33 c i = w14 c i from if_neg (by omega)]
    rw [qw14, show wset w13 22 5 32 c i = w13 c i from if_neg (by omega)]
    rw [qw13, show wnew w12 32 c i = w12 c i from if_neg (by omega)]
    rw [qw12, show wset w11 22 4 31 c i = w11 c i from if_neg (by omega)]
    rw [qw11, show wnew w10 31 c i = w10 c i from if_neg (by omega)]
    rw [qw10, show wset w9 22 3 30 c i = w9 c i from if_neg (by omega)]
    rw [qw9, show wnew w8 30 c i = w8 c i from if_neg (by omega)]
    rw [qw8, show wset w7 22 2 29 c i = w7 c i from if_neg (by omega)]
    rw [qw7, show wnew w6 29 c i = w6 c i from if_neg (by omega)]
    rw [qw6, show wset w5 22 1 26 c i = w5 c i from if_neg (by omega)]
    rw [ow5 c i (by omega)]
    rw [qw4, show wnew w3 26 c i = w3 c i from if_neg (by omega)]
    rw [qw3, show wset w2 22 0 23 c i = w2 c i from if_neg (by omega)]
    rw [ow2 c i (by omega)]
    rw [qw1, show wnew w 23 c i = w c i from if_neg (by omega)]
  · intro c i hc1 hc2
    have hc : (23 ≤ c ∧ c ≤ 25) ∨ (26 ≤ c ∧ c ≤ 27) ∨ c = 22 ∨ c = 28 ∨ c = 29 ∨ c = 30 ∨ c = 31 ∨ c = 32 ∨ c = 33 ∨ c = 34 ∨ c = 35 ∨ c = 36 ∨ c = 37 := by omega
    rcases hc with hc | hc | rfl | rfl | rfl | rfl | rfl | rfl | rfl | rfl | rfl | rfl | rfl
    · rw [pw26 c i (by omega) (by omega)]
      rw [qw25, show wset w24 22 13 1 c i = w24 c i from if_neg (by omega)]
      rw [qw24, show wset w23 22 10 37 c i = w23 c i from if_neg (by omega)]
      rw [qw23, show wnew w22 37 c i = w22 c i from if_neg (by omega)]
      rw [qw22, show wset w21 22 9 36 c i = w21 c i from if_neg (by omega)]
      rw [qw21, show wnew w20 36 c i = w20 c i from if_neg (by omega)]
      rw [qw20, show wset w19 22 8 35 c i = w19 c i from if_neg (by omega)]
      rw [qw19, show wnew w18 35 c i = w18 c i from if_neg (by omega)]
      rw [qw18, show wset w17 22 7 34 c i = w17 c i from if_neg (by omega)]
      rw [qw17, show wnew w16 34 c i = w16 c i from if_neg (by omega)]
      rw [qw16, show wset w15 22 6 33 c i = w15 c i from if_neg (by omega)]
      rw [qw15, show wnew w14 33 c i = w14 c i from if_neg (by omega)]
      rw [qw14, show wset w13 22 5 32 c i = w13 c i from if_neg (by omega)]
      rw [qw13, show wnew w12 32 c i = w12 c i from if_neg (by omega)]
      rw [qw12, show wset w11 22 4 31 c i = w11 c i from if_neg (by omega)]
      rw [qw11, show wnew w10 31 c i = w10 c i from if_neg (by omega)]
      rw [qw10, show wset w9 22 3 30 c i = w9 c i from if_neg (by omega)]
      rw [qw9, show wnew w8 30 c i = w8 c i from if_neg (by omega)]
      rw [qw8, show wset w7 22 2 29 c i = w7 c i from if_neg (by omega)]
      rw [qw7, show wnew w6 29 c i = w6 c i from if_neg (by omega)]
      rw [qw6, show wset w5 22 1 26 c i = w5 c i from if_neg (by omega)]
      rw [ow5 c i (by omega)]
      rw [qw4, show wnew w3 26 c i = w3 c i from if_neg (by omega)]
      rw [qw3, show wset w2 22 0 23 c i = w2 c i from if_neg (by omega)]
      exact rw2 c i (by omega) (by omega)
    · rw [pw26 c i (by omega) (by omega)]
      rw [qw25, show wset w24 22 13 1 c i = w24 c i from if_neg (by omega)]
      rw [qw24, show wset w23 22 10 37 c i = w23 c i from if_neg (by omega)]
      rw [qw23, show wnew w22 37 c i = w22 c i from if_neg (by omega)]
      rw [qw22, show wset w21 22 9 36 c i = w21 c i from if_neg (by omega)]
      rw [qw21, show wnew w20 36 c i = w20 c i from if_neg (by omega)]
      rw [qw20, show wset w19 22 8 35 c i = w19 c i from if_neg (by omega)]
      rw [qw19, show wnew w18 35 c i = w18 c i from if_neg (by omega)]
      rw [qw18, show wset w17 22 7 34 c i = w17 c i from if_neg (by omega)]
      rw [qw17, show wnew w16 34 c i = w16 c i from if_neg (by omega)]
      rw [qw16, show wset w15 22 6 33 c i = w15 c i from if_neg (by omega)]
      rw [qw15, show wnew w14 33 c i = w14 c i from if_neg (by omega)]
      rw [qw14, show wset w13 22 5 32 c i = w13 c i from if_neg (by omega)]
      rw [qw13, show wnew w12 32 c i = w12 c i from if_neg (by omega)]
      rw [qw12, show wset w11 22 4 31 c i = w11 c i from if_neg (by omega)]
      rw [qw11, show wnew w10 31 c i = w10 c i from if_neg (by omega)]
      rw [qw10, show wset w9 22 3 30 c i = w9 c i from if_neg (by omega)]
      rw [qw9, show wnew w8 30 c i = w8 c i from if_neg (by omega)]
      rw [qw8, show wset w7 22 2 29 c i = w7 c i from if_neg (by omega)]
      rw [qw7, show wnew w6 29 c i = w6 c i from if_neg (by omega)]
      rw [qw6, show wset w5 22 1 26 c i = w5 c i from if_neg (by omega)]
      exact (rw5 c i (by omega) (by omega)).trans (if_neg (by omega))
    · by_cases e0 : i = 0
      · subst e0
        simp [qw1, ow2, rw2, qw3, qw4, ow5, rw5, qw6, qw7, qw8, qw9, qw10, qw11, qw12, qw13, qw14, qw15, qw16, qw17, qw18, qw19, qw20, qw21, qw22, qw23, qw24, qw25, pw26, aw26, bw26, wset, wnew, w00, rowS, rowM, hz]
      by_cases e1 : i = 1
      · subst e1
        simp [qw1, ow2, rw2, qw3, qw4, ow5, rw5, qw6, qw7, qw8, qw9, qw10, qw11, qw12, qw13, qw14, qw15, qw16, qw17, qw18, qw19, qw20, qw21, qw22, qw23, qw24, qw25, pw26, aw26, bw26, wset, wnew, w00, rowS, rowM, hz]
      by_cases e2 : i = 2
      · subst e2
        simp [qw1, ow2, rw2, qw3, qw4, ow5, rw5, qw6, qw7, qw8, qw9, qw10, qw11, qw12, qw13, qw14, qw15, qw16, qw17, qw18, qw19, qw20, qw21, qw22, qw23, qw24, qw25, pw26, aw26, bw26, wset, wnew, w00, rowS, rowM, hz]
      by_cases e3 : i = 3
      · subst e3
        simp [qw1, ow2, rw2, qw3, qw4, ow5, rw5, qw6, qw7, qw8, qw9, qw10, qw11, qw12, qw13, qw14, qw15, qw16, qw17, qw18, qw19, qw20, qw21, qw22, qw23, qw24, qw25, pw26, aw26, bw26, wset, wnew, w00, rowS, rowM, hz]
      by_cases e4 : i = 4
      · subst e4
        simp [qw1, ow2, rw2, qw3, qw4, ow5, rw5, qw6, qw7, qw8, qw9, qw10, qw11, qw12, qw13, qw14, qw15, qw16, qw17, qw18, qw19, qw20, qw21, qw22, qw23, qw24, qw25, pw26, aw26, bw26, wset, wnew, w00, rowS, rowM, hz]
      by_cases e5 : i = 5
      · subst e5
        simp [qw1, ow2, rw2, qw3, qw4, ow5, rw5, qw6, qw7, qw8, qw9, qw10, qw11, qw12, qw13, qw14, qw15, qw16, qw17, qw18, qw19, qw20, qw21, qw22, qw23, qw24, qw25, pw26, aw26, bw26, wset, wnew, w00, rowS, rowM, hz]
      by_cases e6 : i = 6
      · subst e6
        simp [qw1, ow2, rw2, qw3, qw4, ow5, rw5, qw6, qw7, qw8, qw9, qw10, qw11, qw12, qw13, qw14, qw15, qw16, qw17, qw18, qw19, qw20, qw21, qw22, qw23, qw24, qw25, pw26, aw26, bw26, wset, wnew, w00, rowS, rowM, hz]
      by_cases e7 : i = 7
      · subst e7
        simp [qw1, ow2, rw2, qw3, qw4, ow5, rw5, qw6, qw7, qw8, qw9, qw10, qw11, qw12, qw13, qw14, qw15, qw16, qw17, qw18, qw19, qw20, qw21, qw22, qw23, qw24, qw25, pw26, aw26, bw26, wset, wnew, w00, rowS, rowM, hz]
      by_cases e8 : i = 8
      · subst e8
        simp [qw1, ow2, rw2, qw3, qw4, ow5, rw5, qw6, qw7, qw8, qw9, qw10, qw11, qw12, qw13, qw14, qw15, qw16, qw17, qw18, qw19, qw20, qw21, qw22, qw23, qw24, qw25, pw26, aw26, bw26, wset, wnew, w00, rowS, rowM, hz]
      by_cases e9 : i = 9
      · subst e9
        simp [qw1, ow2, rw2, qw3, qw4, ow5, rw5, qw6, qw7, qw8, qw9, qw10, qw11, qw12, qw13, qw14, qw15, qw16, qw17, qw18, qw19, qw20, qw21, qw22, qw23, qw24, qw25, pw26, aw26, bw26, wset, wnew, w00, rowS, rowM, hz]
      by_cases e10 : i = 10
      · subst e10
        simp [qw1, ow2, rw2, qw3, qw4, ow5, rw5, qw6, qw7, qw8, qw9, qw10, qw11, qw12, qw13, qw14, qw15, qw16, qw17, qw18, qw19, qw20, qw21, qw22, qw23, qw24, qw25, pw26, aw26, bw26, wset, wnew, w00, rowS, rowM, hz]
      by_cases e13 : i = 13
      · subst e13
        simp [qw1, ow2, rw2, qw3, qw4, ow5, rw5, qw6, qw7, qw8, qw9, qw10, qw11, qw12, qw13, qw14, qw15, qw16, qw17, qw18, qw19, qw20, qw21, qw22, qw23, qw24, qw25, pw26, aw26, bw26, wset, wnew, w00, rowS, rowM, hz]
      have g0 : ¬ (2 ≤ i ∧ i ≤ 10) := by omega
      simp [qw1, ow2, rw2, qw3, qw4, ow5, rw5, qw6, qw7, qw8, qw9, qw10, qw11, qw12, qw13, qw14, qw15, qw16, qw17, qw18, qw19, qw20, qw21, qw22, qw23, qw24, qw25, pw26, aw26, bw26, wset, wnew, w00, rowS, rowM, hz, g0, e0, e1, e2, e3, e4, e5, e6, e7, e8, e9, e10, e13]
    · simp [qw1, ow2, rw2, qw3, qw4, ow5, rw5, qw6, qw7, qw8, qw9, qw10, qw11, qw12, qw13, qw14, qw15, qw16, qw17, qw18, qw19, qw20, qw21, qw22, qw23, qw24, qw25, pw26, aw26, bw26, wset, wnew, w00, rowS, rowM, hz]
    · simp [qw1, ow2, rw2, qw3, qw4, ow5, rw5, qw6, qw7, qw8, qw9, qw10, qw11, qw12, qw13, qw14, qw15, qw16, qw17, qw18, qw19, qw20, qw21, qw22, qw23, qw24, qw25, pw26, aw26, bw26, wset, wnew, w00, rowS, rowM, hz]
    · simp [qw1, ow2, rw2, qw3, qw4, ow5, rw5, qw6, qw7, qw8, qw9, qw10, qw11, qw12, qw13, qw14, qw15, qw16, qw17, qw18, qw19, qw20, qw21, qw22, qw23, qw24, qw25, pw26, aw26, bw26, wset, wnew, w00, rowS, rowM, hz]
    · simp [qw1, ow2, rw2, qw3, qw4, ow5, rw5, qw6, qw7, qw8, qw9, qw10, qw11, qw12, qw13, qw14, qw15, qw16, qw17, qw18, qw19, qw20, qw21, qw22, qw23, qw24, qw25, pw26, aw26, bw26, wset, wnew, w00, rowS, rowM, hz]
    · simp [qw1, ow2, rw2, qw3, qw4, ow5, rw5, qw6, qw7, qw8, qw9, qw10, qw11, qw12, qw13, qw14, qw15, qw16, qw17, qw18, qw19, qw20, qw21, qw22, qw23, qw24, qw25, pw26, aw26, bw26, wset, wnew, w00, rowS, rowM, hz]
    · simp [qw1, ow2, rw2, qw3, qw4, ow5, rw5, qw6, qw7, qw8, qw9, qw10, qw11, qw12, qw13, qw14, qw15, qw16, qw17, qw18, qw19, qw20, qw21, qw22, qw23, qw24, qw25, pw26, aw26, bw26, wset, wnew, w00, rowS, rowM, hz]
    · simp [qw1, ow2, rw2, qw3, qw4, ow5, rw5, qw6, qw7, qw8, qw9, qw10, qw11, qw12, qw13, qw14, qw15, qw16, qw17, qw18, qw19, qw20, qw21, qw22, qw23, qw24, qw25, pw26, aw26, bw26, wset, wnew, w00, rowS, rowM, hz]
    · simp [qw1, ow2, rw2, qw3, qw4, ow5, rw5, qw6, qw7, qw8, qw9, qw10, qw11, qw12, qw13, qw14, qw15, qw16, qw17, qw18, qw19, qw20, qw21, qw22, qw23, qw24, qw25, pw26, aw26, bw26, wset, wnew, w00, rowS, rowM, hz]
    · simp [qw1, ow2, rw2, qw3, qw4, ow5, rw5, qw6, qw7, qw8, qw9, qw10, qw11, qw12, qw13, qw14, qw15, qw16, qw17, qw18, qw19, qw20, qw21, qw22, qw23, qw24, qw25, pw26, aw26, bw26, wset, wnew, w00, rowS, rowM, hz]
    · simp [qw1, ow2, rw2, qw3, qw4, ow5, rw5, qw6, qw7, qw8, qw9, qw10, qw11, qw12, qw13, qw14, qw15, qw16, qw17, qw18, qw19, qw20, qw21, qw22, qw23, qw24, qw25, pw26, aw26, bw26, wset, wnew, w00, rowS, rowM, hz]
theorem kl_40 {d : Nat} {w0 : Wd} {K : Wd → Prop} (h1 : w0 40 1 = 44) (h2 : w0 44 1 = 46) (h3 : w0 40 10 = 55) (h : ∀ w', (∀ c i, c ≠ 46 → c ≠ 55 → w' c i = w0 c i) → (∀ i, w' 46 i = if 0 ≤ i ∧ i < 72 then -1 else w0 46 i) → (∀ i, w' 55 i = if 0 ≤ i ∧ i < 72 then -1 else w0 55 i) → K w') :
    ∀ (t j : Nat) (w : Wd), t + j = 72 → (∀ c i, c ≠ 46 → c ≠ 55 → w c i = w0 c i) → (∀ i, w 46 i = if 0 ≤ i ∧ i < (j : Int) then -1 else w0 46 i) → (∀ i, w 55 i = if 0 ≤ i ∧ i < (j : Int) then -1 else w0 55 i) → WA false yX5_init cX5_init 2 none d 55 0 0 106 [some (.inr (.inr 40)), some (.inl (j : Int))] [] w (rV K) := by
  intro t
  induction t with
  | zero =>
    intro j w hj hp ha hb
    obtain rfl : j = 72 := by omega
    refine WA.iload_n dX5_init_106 rfl ?_
    refine WA.bipush dX5_init_107 ⟨by decide, by decide⟩ ?_
    refine WA.icmp_ge (tgt := 135) dX5_init_109 (by decide) (fun _ => ?_) (fun hc => absurd (by decide) hc)
    exact WA.vreturn dX5_init_135 ⟨rfl, h w hp ha hb⟩
  | succ t ih =>
    intro j w hj hp ha hb
    refine WA.iload_n dX5_init_106 rfl ?_
    refine WA.bipush dX5_init_107 ⟨by decide, by decide⟩ ?_
    refine WA.icmp_ge (tgt := 135) dX5_init_109 (by decide) (fun hc => absurd hc (by omega)) (fun _ => ?_)
    refine WA.aload_n dX5_init_112 rfl (by decide) ?_
    refine gfX5_18 rfl dX5_init_113 (by decide : am_obj 55 40 5 14) ?_
    refine WA.top (v2 := .inr (.inr 44)) (by rw [hp 40 1 (by decide) (by decide), h1]) ?_
    refine gfX5_53 rfl dX5_init_116 (by decide : am_obj 55 44 7 2) ?_
    refine WA.top (v2 := .inr (.inr 46)) (by rw [hp 44 1 (by decide) (by decide), h2]) ?_
    refine WA.iload_n dX5_init_119 rfl ?_
    refine WA.iconst dX5_init_120 ⟨by decide, by decide⟩ ?_
    refine WA.iastore dX5_init_121 (by decide : am_arr 55 46 0 72) (by omega) (by omega) ?_
    refine WA.aload_n dX5_init_122 rfl (by decide) ?_
    refine gfX5_46 rfl dX5_init_123 (by decide : am_obj 55 40 5 14) ?_
    refine WA.top (v2 := .inr (.inr 55)) (by rw [show wset w 46 (j : Int) (-1) 40 10 = w 40 10 from if_neg (by omega), hp 40 10 (by decide) (by decide), h3]) ?_
    refine WA.iload_n dX5_init_126 rfl ?_
    refine WA.iconst dX5_init_127 ⟨by decide, by decide⟩ ?_
    refine WA.iastore dX5_init_128 (by decide : am_arr 55 55 0 72) (by omega) (by omega) ?_
    refine WA.iinc (als' := [some (.inr (.inr 40)), some (.inl (((j + 1 : Nat)) : Int))]) dX5_init_129 rfl ⟨by omega, by omega⟩ rfl ?_
    refine WA.goto (tgt := 106) dX5_init_132 (by decide) ?_
    refine ih (j + 1) _ (by omega) (fun c i c1 c2 => ?_) (fun i => ?_) (fun i => ?_)
    · rw [show wset (wset w 46 (j : Int) (-1)) 55 (j : Int) (-1) c i = wset w 46 (j : Int) (-1) c i from if_neg (fun q => c2 q.1), show wset w 46 (j : Int) (-1) c i = w c i from if_neg (fun q => c1 q.1)]
      exact hp c i c1 c2
    · rw [show wset (wset w 46 (j : Int) (-1)) 55 (j : Int) (-1) 46 i = wset w 46 (j : Int) (-1) 46 i from if_neg (by omega)]
      unfold wset
      rw [ha i]
      by_cases e : i = (j : Int)
      · rw [if_pos ⟨rfl, e⟩, if_pos (by omega)]
      · rw [if_neg (fun q => e q.2)]
        by_cases e2 : 0 ≤ i ∧ i < (j : Int)
        · rw [if_pos e2, if_pos (by omega)]
        · rw [if_neg e2, if_neg (by omega)]
    · have e9 : ∀ i, wset w 46 (j : Int) (-1) 55 i = w 55 i := fun i => if_neg (by omega)
      show (if _ then _ else wset w 46 (j : Int) (-1) 55 i) = _
      rw [e9 i, hb i]
      by_cases e : i = (j : Int)
      · rw [if_pos ⟨rfl, e⟩, if_pos (by omega)]
      · rw [if_neg (fun q => e q.2)]
        by_cases e2 : 0 ≤ i ∧ i < (j : Int)
        · rw [if_pos e2, if_pos (by omega)]
        · rw [if_neg e2, if_neg (by omega)]
set_option maxRecDepth 10000 in
theorem kw_X5_40 {d : Nat} {w : Wd} {K : Wd → Prop} (hd : 2 ≤ d) (hz : ∀ i, w 40 i = 0) (h : ∀ w', (∀ c i, (c < 40 ∨ 55 < c) → w' c i = w c i) → (∀ c i, 40 ≤ c → c ≤ 55 → w' c i = w00 c i) → K w') : EvA false yX5_init cX5_init 2 none d 40 15 10228 [.inr (.inr 40)] w (rV K) := by
  refine EvA.of (by decide +kernel) (Nat.le_of_ble_eq_true rfl) ?_
  change WA false yX5_init cX5_init 2 none d 40 15 10228 0 [some (.inr (.inr 40)), none] [] w (rV K)
  refine WA.aload_n dX5_init_0 rfl (by decide) ?_
  refine WA.objInit dX5_init_1 (am_mem 49 (by decide +kernel) rfl) (am_mem 23 (by decide +kernel) rfl) (am_mem 24 (by decide +kernel) rfl) (by decide) (Nat.le_trans (by decide) hd) (Nat.le_of_ble_eq_true rfl) ?_
  refine WA.aload_n dX5_init_4 rfl (by decide) ?_
  refine WA.new2 (n2 := 41) (kc := 14) (ks := 10226) (N := 2) (ci := 7) (c := 41) rfl rfl rfl (by decide) dX5_init_5 (by decide) (by decide) rfl gin_X7 tyX7_ok (by decide) ⟨am_mem 50 (by decide +kernel) rfl, am_mem 51 (by decide +kernel) rfl, am_mem 4 (by decide +kernel) rfl⟩ ?_
  obtain ⟨w1, qw1⟩ : ∃ z, z = wnew w 41 := ⟨_, rfl⟩
  rw [← qw1]
  refine WA.dup dX5_init_8 rfl ?_
  refine WA.callIN0 (n2 := 43) (kc' := 2) (ks' := 2232) (kc := 12) (ks := 7994) (d' := 1) dX5_init_9 lkX5_11 rfl rfl rfl (by decide) (Nat.le_of_ble_eq_true rfl) (Nat.lt_of_lt_of_le (by decide) hd) (kw_X7_41 (K := (fun z : Wd => (∀ c i, (c < 41 ∨ 43 < c) → z c i = w1 c i) ∧ (∀ c i, 41 ≤ c → c ≤ 43 → z c i = w00 c i))) (Nat.le_refl _) (fun i => by simp [qw1, wset, wnew, w00, rowS, rowM, hz]) (fun _ o r => ⟨o, r⟩)) ?_
  rintro r w2 ⟨rfl, ow2, rw2⟩
  change WA _ _ _ _ _ _ _ _ _ _ _ [.inr (.inr 41), .inr (.inr 40)] _ _
  refine pfX5_12 rfl rfl rfl dX5_init_12 (by decide : am_obj 43 40 5 14) ?_
  obtain ⟨w3, qw3⟩ : ∃ z, z = wset w2 40 0 41 := ⟨_, rfl⟩
  rw [← qw3]
  refine WA.aload_n dX5_init_15 rfl (by decide) ?_
  refine WA.new2 (n2 := 44) (kc := 11) (ks := 7992) (N := 2) (ci := 7) (c := 44) rfl rfl rfl (by decide) dX5_init_16 (by decide) (by decide) rfl gin_X7 tyX7_ok (by decide) ⟨am_mem 50 (by decide +kernel) rfl, am_mem 51 (by decide +kernel) rfl, am_mem 4 (by decide +kernel) rfl⟩ ?_
  obtain ⟨w4, qw4⟩ : ∃ z, z = wnew w3 44 := ⟨_, rfl⟩
  rw [← qw4]
  refine WA.dup dX5_init_19 rfl ?_
  refine WA.callIN0 (n2 := 46) (kc' := 2) (ks' := 2232) (kc := 9) (ks := 5760) (d' := 1) dX5_init_20 lkX5_11 rfl rfl rfl (by decide) (Nat.le_of_ble_eq_true rfl) (Nat.lt_of_lt_of_le (by decide) hd) (kw_X7_44 (K := (fun z : Wd => (∀ c i, (c < 44 ∨ 46 < c) → z c i = w4 c i) ∧ (∀ c i, 44 ≤ c → c ≤ 46 → z c i = (if c = 46 then 0 else w00 c i)))) (Nat.le_refl _) (fun i => by simp [qw1, ow2, rw2, qw3, qw4, wset, wnew, w00, rowS, rowM, hz]) (fun _ o r => ⟨o, r⟩)) ?_
  rintro r w5 ⟨rfl, ow5, rw5⟩
  change WA _ _ _ _ _ _ _ _ _ _ _ [.inr (.inr 44), .inr (.inr 40)] _ _
  refine pfX5_18 rfl rfl rfl dX5_init_23 (by decide : am_obj 46 40 5 14) ?_
  obtain ⟨w6, qw6⟩ : ∃ z, z = wset w5 40 1 44 := ⟨_, rfl⟩
  rw [← qw6]
  refine WA.aload_n dX5_init_26 rfl (by decide) ?_
  refine WA.bipush dX5_init_27 ⟨by decide, by decide⟩ ?_
  refine WA.newarray2 (n2 := 47) (kc := 8) (ks := 5688) (N := 72) (c := 47) (K := 0) rfl rfl rfl (by decide) dX5_init_29 (by decide) rfl (by decide) rfl (by decide) (by decide) (am_mem 43 (by decide +kernel) rfl) ?_
  obtain ⟨w7, qw7⟩ : ∃ z, z = wnew w6 47 := ⟨_, rfl⟩
  rw [← qw7]
  refine pfX5_21 rfl rfl rfl dX5_init_31 (by decide : am_obj 47 40 5 14) ?_
  obtain ⟨w8, qw8⟩ : ∃ z, z = wset w7 40 2 47 := ⟨_, rfl⟩
  rw [← qw8]
  refine WA.aload_n dX5_init_34 rfl (by decide) ?_
  refine WA.bipush dX5_init_35 ⟨by decide, by decide⟩ ?_
  refine WA.newarray2 (n2 := 48) (kc := 7) (ks := 5616) (N := 72) (c := 48) (K := 0) rfl rfl rfl (by decide) dX5_init_37 (by decide) rfl (by decide) rfl (by decide) (by decide) (am_mem 43 (by decide +kernel) rfl) ?_
  obtain ⟨w9, qw9⟩ : ∃ z, z = wnew w8 48 := ⟨_, rfl⟩
  rw [← qw9]
  refine pfX5_25 rfl rfl rfl dX5_init_39 (by decide : am_obj 48 40 5 14) ?_
  obtain ⟨w10, qw10⟩ : ∃ z, z = wset w9 40 3 48 := ⟨_, rfl⟩
  rw [← qw10]
  refine WA.aload_n dX5_init_42 rfl (by decide) ?_
  refine WA.bipush dX5_init_43 ⟨by decide, by decide⟩ ?_
  refine WA.newarray2 (n2 := 49) (kc := 6) (ks := 5544) (N := 72) (c := 49) (K := 0) rfl rfl rfl (by decide) dX5_init_45 (by decide) rfl (by decide) rfl (by decide) (by decide) (am_mem 43 (by decide +kernel) rfl) ?_
  obtain ⟨w11, qw11⟩ : ∃ z, z = wnew w10 49 := ⟨_, rfl⟩
  rw [← qw11]
  refine pfX5_28 rfl rfl rfl dX5_init_47 (by decide : am_obj 49 40 5 14) ?_
  obtain ⟨w12, qw12⟩ : ∃ z, z = wset w11 40 4 49 := ⟨_, rfl⟩
  rw [← qw12]
  refine WA.aload_n dX5_init_50 rfl (by decide) ?_
  refine WA.bipush dX5_init_51 ⟨by decide, by decide⟩ ?_
  refine WA.newarray2 (n2 := 50) (kc := 5) (ks := 5472) (N := 72) (c := 50) (K := 0) rfl rfl rfl (by decide) dX5_init_53 (by decide) rfl (by decide) rfl (by decide) (by decide) (am_mem 43 (by decide +kernel) rfl) ?_
  obtain ⟨w13, qw13⟩ : ∃ z, z = wnew w12 50 := ⟨_, rfl⟩
  rw [← qw13]
  refine pfX5_31 rfl rfl rfl dX5_init_55 (by decide : am_obj 50 40 5 14) ?_
  obtain ⟨w14, qw14⟩ : ∃ z, z = wset w13 40 5 50 := ⟨_, rfl⟩
  rw [← qw14]
  refine WA.aload_n dX5_init_58 rfl (by decide) ?_
  refine WA.bipush dX5_init_59 ⟨by decide, by decide⟩ ?_
  refine WA.newarray2 (n2 := 51) (kc := 4) (ks := 5400) (N := 72) (c := 51) (K := 0) rfl rfl rfl (by decide) dX5_init_61 (by decide) rfl (by decide) rfl (by decide) (by decide) (am_mem 43 (by decide +kernel) rfl) ?_
  obtain ⟨w15, qw15⟩ : ∃ z, z = wnew w14 51 := ⟨_, rfl⟩
  rw [← qw15]
  refine pfX5_34 rfl rfl rfl dX5_init_63 (by decide : am_obj 51 40 5 14) ?_
  obtain ⟨w16, qw16⟩ : ∃ z, z = wset w15 40 6 51 := ⟨_, rfl⟩
  rw [← qw16]
  refine WA.aload_n dX5_init_66 rfl (by decide) ?_
  refine WA.sipush dX5_init_67 ⟨by decide, by decide⟩ ?_
  refine WA.newarray2 (n2 := 52) (kc := 3) (ks := 216) (N := 5184) (c := 52) (K := 0) rfl rfl rfl (by decide) dX5_init_70 (by decide) rfl (by decide) rfl (by decide) (by decide) (am_mem 43 (by decide +kernel) rfl) ?_
  obtain ⟨w17, qw17⟩ : ∃ z, z = wnew w16 52 := ⟨_, rfl⟩
  rw [← qw17]
  refine pfX5_37 rfl rfl rfl dX5_init_72 (by decide : am_obj 52 40 5 14) ?_
  obtain ⟨w18, qw18⟩ : ∃ z, z = wset w17 40 7 52 := ⟨_, rfl⟩
  rw [← qw18]
  refine WA.aload_n dX5_init_75 rfl (by decide) ?_
  refine WA.bipush dX5_init_76 ⟨by decide, by decide⟩ ?_
  refine WA.newarray2 (n2 := 53) (kc := 2) (ks := 144) (N := 72) (c := 53) (K := 0) rfl rfl rfl (by decide) dX5_init_78 (by decide) rfl (by decide) rfl (by decide) (by decide) (am_mem 43 (by decide +kernel) rfl) ?_
  obtain ⟨w19, qw19⟩ : ∃ z, z = wnew w18 53 := ⟨_, rfl⟩
  rw [← qw19]
  refine pfX5_40 rfl rfl rfl dX5_init_80 (by decide : am_obj 53 40 5 14) ?_
  obtain ⟨w20, qw20⟩ : ∃ z, z = wset w19 40 8 53 := ⟨_, rfl⟩
  rw [← qw20]
  refine WA.aload_n dX5_init_83 rfl (by decide) ?_
  refine WA.bipush dX5_init_84 ⟨by decide, by decide⟩ ?_
  refine WA.newarray2 (n2 := 54) (kc := 1) (ks := 72) (N := 72) (c := 54) (K := 0) rfl rfl rfl (by decide) dX5_init_86 (by decide) rfl (by decide) rfl (by decide) (by decide) (am_mem 43 (by decide +kernel) rfl) ?_
  obtain ⟨w21, qw21⟩ : ∃ z, z = wnew w20 54 := ⟨_, rfl⟩
  rw [← qw21]
  refine pfX5_43 rfl rfl rfl dX5_init_88 (by decide : am_obj 54 40 5 14) ?_
  obtain ⟨w22, qw22⟩ : ∃ z, z = wset w21 40 9 54 := ⟨_, rfl⟩
  rw [← qw22]
  refine WA.aload_n dX5_init_91 rfl (by decide) ?_
  refine WA.bipush dX5_init_92 ⟨by decide, by decide⟩ ?_
  refine WA.newarray2 (n2 := 55) (kc := 0) (ks := 0) (N := 72) (c := 55) (K := 0) rfl rfl rfl (by decide) dX5_init_94 (by decide) rfl (by decide) rfl (by decide) (by decide) (am_mem 43 (by decide +kernel) rfl) ?_
  obtain ⟨w23, qw23⟩ : ∃ z, z = wnew w22 55 := ⟨_, rfl⟩
  rw [← qw23]
  refine pfX5_46 rfl rfl rfl dX5_init_96 (by decide : am_obj 55 40 5 14) ?_
  obtain ⟨w24, qw24⟩ : ∃ z, z = wset w23 40 10 55 := ⟨_, rfl⟩
  rw [← qw24]
  refine WA.aload_n dX5_init_99 rfl (by decide) ?_
  refine WA.iconst dX5_init_100 ⟨by decide, by decide⟩ ?_
  refine pfX5_49 rfl dX5_init_101 (by decide : am_obj 55 40 5 14) (by decide) ?_
  obtain ⟨w25, qw25⟩ : ∃ z, z = wset w24 40 13 1 := ⟨_, rfl⟩
  rw [← qw25]
  refine WA.iconst dX5_init_104 ⟨by decide, by decide⟩ ?_
  refine WA.istore_n (als' := [some (.inr (.inr 40)), some (.inl 0)]) dX5_init_105 (Nat.le_of_ble_eq_true rfl) rfl ?_
  refine kl_40 (w0 := w25) (by simp [qw1, ow2, rw2, qw3, qw4, ow5, rw5, qw6, qw7, qw8, qw9, qw10, qw11, qw12, qw13, qw14, qw15, qw16, qw17, qw18, qw19, qw20, qw21, qw22, qw23, qw24, qw25, wset, wnew, w00, rowS, rowM, hz]) (by simp [qw1, ow2, rw2, qw3, qw4, ow5, rw5, qw6, qw7, qw8, qw9, qw10, qw11, qw12, qw13, qw14, qw15, qw16, qw17, qw18, qw19, qw20, qw21, qw22, qw23, qw24, qw25, wset, wnew, w00, rowS, rowM, hz]) (by simp [qw1, ow2, rw2, qw3, qw4, ow5, rw5, qw6, qw7, qw8, qw9, qw10, qw11, qw12, qw13, qw14, qw15, qw16, qw17, qw18, qw19, qw20, qw21, qw22, qw23, qw24, qw25, wset, wnew, w00, rowS, rowM, hz]) (fun w26 pw26 aw26 bw26 => ?_) 72 0 w25 rfl (fun c i _ _ => rfl) (fun i => by rw [if_neg (by omega)]) (fun i => by rw [if_neg (by omega)])
  refine h w26 ?_ ?_
  · intro c i hc
    rw [pw26 c i (by omega) (by omega)]
    rw [qw25, show wset w24 40 13 1 c i = w24 c i from if_neg (by omega)]
    rw [qw24, show wset w23 40 10 55 c i = w23 c i from if_neg (by omega)]
    rw [qw23, show wnew w22 55 c i = w22 c i from if_neg (by omega)]
    rw [qw22, show wset w21 40 9 54 c i = w21 c i from if_neg (by omega)]
    rw [qw21, show wnew w20 54 c i = w20 c i from if_neg (by omega)]
    rw [qw20, show wset w19 40 8 53 c i = w19 c i from if_neg (by omega)]
    rw [qw19, show wnew w18 53 c i = w18 c i from if_neg (by omega)]
    rw [qw18, show wset w17 40 7 52 c i = w17 c i from if_neg (by omega)]
    rw [qw17, show wnew w16 52 c i = w16 c i from if_neg (by omega)]
    rw [qw16, show wset w15 40 6 51 c i = w15 c i from if_neg (by omega)]
    rw [qw15, show wnew w14 51 c i = w14 c i from if_neg (by omega)]
    rw [qw14, show wset w13 40 5 50 c i = w13 c i from if_neg (by omega)]
    rw [qw13, show wnew w12 50 c i = w12 c i from if_neg (by omega)]
    rw [qw12, show wset w11 40 4 49 c i = w11 c i from if_neg (by omega)]
    rw [qw11, show wnew w10 49 c i = w10 c i from if_neg (by omega)]
    rw [qw10, show wset w9 40 3 48 c i = w9 c i from if_neg (by omega)]
    rw [qw9, show wnew w8 48 c i = w8 c i from if_neg (by omega)]
    rw [qw8, show wset w7 40 2 47 c i = w7 c i from if_neg (by omega)]
    rw [qw7, show wnew w6 47 c i = w6 c i from if_neg (by omega)]
    rw [qw6, show wset w5 40 1 44 c i = w5 c i from if_neg (by omega)]
    rw [ow5 c i (by omega)]
    rw [qw4, show wnew w3 44 c i = w3 c i from if_neg (by omega)]
    rw [qw3, show wset w2 40 0 41 c i = w2 c i from if_neg (by omega)]
    rw [ow2 c i (by omega)]
    rw [qw1, show wnew w 41 c i = w c i from if_neg (by omega)]
  · intro c i hc1 hc2
    have hc : (41 ≤ c ∧ c ≤ 43) ∨ (44 ≤ c ∧ c ≤ 45) ∨ c = 40 ∨ c = 46 ∨ c = 47 ∨ c = 48 ∨ c = 49 ∨ c = 50 ∨ c = 51 ∨ c = 52 ∨ c = 53 ∨ c = 54 ∨ c = 55 := by omega
    rcases hc with hc | hc | rfl | rfl | rfl | rfl | rfl | rfl | rfl | rfl | rfl | rfl | rfl
    · rw [pw26 c i (by omega) (by omega)]
      rw [qw25, show wset w24 40 13 1 c i = w24 c i from if_neg (by omega)]
      rw [qw24, show wset w23 40 10 55 c i = w23 c i from if_neg (by omega)]
      rw [qw23, show wnew w22 55 c i = w22 c i from if_neg (by omega)]
      rw [qw22, show wset w21 40 9 54 c i = w21 c i from if_neg (by omega)]
      rw [qw21, show wnew w20 54 c i = w20 c i from if_neg (by omega)]
      rw [qw20, show wset w19 40 8 53 c i = w19 c i from if_neg (by omega)]
      rw [qw19, show wnew w18 53 c i = w18 c i from if_neg (by omega)]
      rw [qw18, show wset w17 40 7 52 c i = w17 c i from if_neg (by omega)]
      rw [qw17, show wnew w16 52 c i = w16 c i from if_neg (by omega)]
      rw [qw16, show wset w15 40 6 51 c i = w15 c i from if_neg (by omega)]
      rw [qw15, show wnew w14 51 c i = w14 c i from if_neg (by omega)]
      rw [qw14, show wset w13 40 5 50 c i = w13 c i from if_neg (by omega)]
      rw [qw13, show wnew w12 50 c i = w12 c i from if_neg (by omega)]
      rw [qw12, show wset w11 40 4 49 c i = w11 c i from if_neg (by omega)]
      rw [qw11, show wnew w10 49 c i = w10 c i from if_neg (by omega)]
      rw [qw10, show wset w9 40 3 48 c i = w9 c i from if_neg (by omega)]
      rw [qw9, show wnew w8 48 c i = w8 c i from if_neg (by omega)]
      rw [qw8, show wset w7 40 2 47 c i = w7 c i from if_neg (by omega)]
      rw [qw7, show wnew w6 47 c i = w6 c i from if_neg (by omega)]
      rw [qw6, show wset w5 40 1 44 c i = w5 c i from if_neg (by omega)]
      rw [ow5 c i (by omega)]
      rw [qw4, show wnew w3 44 c i = w3 c i from if_neg (by omega)]
      rw [qw3, show wset w2 40 0 41 c i = w2 c i from if_neg (by omega)]
      exact rw2 c i (by omega) (by omega)
    · rw [pw26 c i (by omega) (by omega)]
      rw [qw25, show wset w24 40 13 1 c i = w24 c i from if_neg (by omega)]
      rw [qw24, show wset w23 40 10 55 c i = w23 c i from if_neg (by omega)]
      rw [qw23, show wnew w22 55 c i = w22 c i from if_neg (by omega)]
      rw [qw22, show wset w21 40 9 54 c i = w21 c i from if_neg (by omega)]
      rw [qw21, show wnew w20 54 c i = w20 c i from if_neg (by omega)]
      rw [qw20, show wset w19 40 8 53 c i = w19 c i from if_neg (by omega)]
      rw [qw19, show wnew w18 53 c i = w18 c i from if_neg (by omega)]
      rw [qw18, show wset w17 40 7 52 c i = w17 c i from if_neg (by omega)]
      rw [qw17, show wnew w16 52 c i = w16 c i from if_neg (by omega)]
      rw [qw16, show wset w15 40 6 51 c i = w15 c i from if_neg (by omega)]
      rw [qw15, show wnew w14 51 c i = w14 c i from if_neg (by omega)]
      rw [qw14, show wset w13 40 5 50 c i = w13 c i from if_neg (by omega)]
      rw [qw13, show wnew w12 50 c i = w12 c i from if_neg (by omega)]
      rw [qw12, show wset w11 40 4 49 c i = w11 c i from if_neg (by omega)]
      rw [qw11, show wnew w10 49 c i = w10 c i from if_neg (by omega)]
      rw [qw10, show wset w9 40 3 48 c i = w9 c i from if_neg (by omega)]
      rw [qw9, show wnew w8 48 c i = w8 c i from if_neg (by omega)]
      rw [qw8, show wset w7 40 2 47 c i = w7 c i from if_neg (by omega)]
      rw [qw7, show wnew w6 47 c i = w6 c i from if_neg (by omega)]
      rw [qw6, show wset w5 40 1 44 c i = w5 c i from if_neg (by omega)]
      exact (rw5 c i (by omega) (by omega)).trans (if_neg (by omega))
    · by_cases e0 : i = 0
      · subst e0
        simp [qw1, ow2, rw2, qw3, qw4, ow5, rw5, qw6, qw7, qw8, qw9, qw10, qw11, qw12, qw13, qw14, qw15, qw16, qw17, qw18, qw19, qw20, qw21, qw22, qw23, qw24, qw25, pw26, aw26, bw26, wset, wnew, w00, rowS, rowM, hz]
      by_cases e1 : i = 1
      · subst e1
        simp [qw1, ow2, rw2, qw3, qw4, ow5, rw5, qw6, qw7, qw8, qw9, qw10, qw11, qw12, qw13, qw14, qw15, qw16, qw17, qw18, qw19, qw20, qw21, qw22, qw23, qw24, qw25, pw26, aw26, bw26, wset, wnew, w00, rowS, rowM, hz]
      by_cases e2 : i = 2
      · subst e2
        simp [qw1, ow2, rw2, qw3, qw4, ow5, rw5, qw6, qw7, qw8, qw9, qw10, qw11, qw12, qw13, qw14, qw15, qw16, qw17, qw18, qw19, qw20, qw21, qw22, qw23, qw24, qw25, pw26, aw26, bw26, wset, wnew, w00, rowS, rowM, hz]
      by_cases e3 : i = 3
      · subst e3
        simp [qw1, ow2, rw2, qw3, qw4, ow5, rw5, qw6, qw7, qw8, qw9, qw10, qw11, qw12, qw13, qw14, qw15, qw16, qw17, qw18, qw19, qw20, qw21, qw22, qw23, qw24, qw25, pw26, aw26, bw26, wset, wnew, w00, rowS, rowM, hz]
      by_cases e4 : i = 4
      · subst e4
        simp [qw1, ow2, rw2, qw3, qw4, ow5, rw5, qw6, qw7, qw8, qw9, qw10, qw11, qw12, qw13, qw14, qw15, qw16, qw17, qw18, qw19, qw20, qw21, qw22, qw23, qw24, qw25, pw26, aw26, bw26, wset, wnew, w00, rowS, rowM, hz]
      by_cases e5 : i = 5
      · subst e5
        simp [qw1, ow2, rw2, qw3, qw4, ow5, rw5, qw6, qw7, qw8, qw9, qw10, qw11, qw12, qw13, qw14, qw15, qw16, qw17, qw18, qw19, qw20, qw21, qw22, qw23, qw24, qw25, pw26, aw26, bw26, wset, wnew, w00, rowS, rowM, hz]
      by_cases e6 : i = 6
      · subst e6
        simp [qw1, ow2, rw2, qw3, qw4, ow5, rw5, qw6, qw7, qw8, qw9, qw10, qw11, qw12, qw13, qw14, qw15, qw16, qw17, qw18, qw19, qw20, qw21, qw22, qw23, qw24, qw25, pw26, aw26, bw26, wset, wnew, w00, rowS, rowM, hz]
      by_cases e7 : i = 7
      · subst e7
        simp [qw1, ow2, rw2, qw3, qw4, ow5, rw5, qw6, qw7, qw8, qw9, qw10, qw11, qw12, qw13, qw14, qw15, qw16, qw17, qw18, qw19, qw20, qw21, qw22, qw23, qw24, qw25, pw26, aw26, bw26, wset, wnew, w00, rowS, rowM, hz]
      by_cases e8 : i = 8
      · subst e8
        simp [qw1, ow2, rw2, qw3, qw4, ow5, rw5, qw6, qw7, qw8, qw9, qw10, qw11, qw12, qw13, qw14, qw15, qw16, qw17, qw18, qw19, qw20, qw21, qw22, qw23, qw24, qw25, pw26, aw26, bw26, wset, wnew, w00, rowS, rowM, hz]
      by_cases e9 : i = 9
      · subst e9
        simp [qw1, ow2, rw2, qw3, qw4, ow5, rw5, qw6, qw7, qw8, qw9, qw10, qw11, qw12, qw13, qw14, qw15, qw16, qw17, qw18, qw19, qw20, qw21, qw22, qw23, qw24, qw25, pw26, aw26, bw26, wset, wnew, w00, rowS, rowM, hz]
      by_cases e10 : i = 10
      · subst e10
        simp [qw1, ow2, rw2, qw3, qw4, ow5, rw5, qw6, qw7, qw8, qw9, qw10, qw11, qw12, qw13, qw14, qw15, qw16, qw17, qw18, qw19, qw20, qw21, qw22, qw23, qw24, qw25, pw26, aw26, bw26, wset, wnew, w00, rowS, rowM, hz]
      by_cases e13 : i = 13
      · subst e13
        simp [qw1, ow2, rw2, qw3, qw4, ow5, rw5, qw6, qw7, qw8, qw9, qw10, qw11, qw12, qw13, qw14, qw15, qw16, qw17, qw18, qw19, qw20, qw21, qw22, qw23, qw24, qw25, pw26, aw26, bw26, wset, wnew, w00, rowS, rowM, hz]
      have g0 : ¬ (2 ≤ i ∧ i ≤ 10) := by omega
      simp [qw1, ow2, rw2, qw3, qw4, ow5, rw5, qw6, qw7, qw8, qw9, qw10, qw11, qw12, qw13, qw14, qw15, qw16, qw17, qw18, qw19, qw20, qw21, qw22, qw23, qw24, qw25, pw26, aw26, bw26, wset, wnew, w00, rowS, rowM, hz, g0, e0, e1, e2, e3, e4, e5, e6, e7, e8, e9, e10, e13]
    · simp [qw1, ow2, rw2, qw3, qw4, ow5, rw5, qw6, qw7, qw8, qw9, qw10, qw11, qw12, qw13, qw14, qw15, qw16, qw17, qw18, qw19, qw20, qw21, qw22, qw23, qw24, qw25, pw26, aw26, bw26, wset, wnew, w00, rowS, rowM, hz]
    · simp [qw1, ow2, rw2, qw3, qw4, ow5, rw5, qw6, qw7, qw8, qw9, qw10, qw11, qw12, qw13, qw14, qw15, qw16, qw17, qw18, qw19, qw20, qw21, qw22, qw23, qw24, qw25, pw26, aw26, bw26, wset, wnew, w00, rowS, rowM, hz]
    · simp [qw1, ow2, rw2, qw3, qw4, ow5, rw5, qw6, qw7, qw8, qw9, qw10, qw11, qw12, qw13, qw14, qw15, qw16, qw17, qw18, qw19, qw20, qw21, qw22, qw23, qw24, qw25, pw26, aw26, bw26, wset, wnew, w00, rowS, rowM, hz]
    · simp [qw1, ow2, rw2, qw3, qw4, ow5, rw5, qw6, qw7, qw8, qw9, qw10, qw11, qw12, qw13, qw14, qw15, qw16, qw17, qw18, qw19, qw20, qw21, qw22, qw23, qw24, qw25, pw26, aw26, bw26, wset, wnew, w00, rowS, rowM, hz]
    · simp [qw1, ow2, rw2, qw3, qw4, ow5, rw5, qw6, qw7, qw8, qw9, qw10, qw11, qw12, qw13, qw14, qw15, qw16, qw17, qw18, qw19, qw20, qw21, qw22, qw23, qw24, qw25, pw26, aw26, bw26, wset, wnew, w00, rowS, rowM, hz]
    · simp [qw1, ow2, rw2, qw3, qw4, ow5, rw5, qw6, qw7, qw8, qw9, qw10, qw11, qw12, qw13, qw14, qw15, qw16, qw17, qw18, qw19, qw20, qw21, qw22, qw23, qw24, qw25, pw26, aw26, bw26, wset, wnew, w00, rowS, rowM, hz]
    · simp [qw1, ow2, rw2, qw3, qw4, ow5, rw5, qw6, qw7, qw8, qw9, qw10, qw11, qw12, qw13, qw14, qw15, qw16, qw17, qw18, qw19, qw20, qw21, qw22, qw23, qw24, qw25, pw26, aw26, bw26, wset, wnew, w00, rowS, rowM, hz]
    · simp [qw1, ow2, rw2, qw3, qw4, ow5, rw5, qw6, qw7, qw8, qw9, qw10, qw11, qw12, qw13, qw14, qw15, qw16, qw17, qw18, qw19, qw20, qw21, qw22, qw23, qw24, qw25, pw26, aw26, bw26, wset, wnew, w00, rowS, rowM, hz]
    · simp [qw1, ow2, rw2, qw3, qw4, ow5, rw5, qw6, qw7, qw8, qw9, qw10, qw11, qw12, qw13, qw14, qw15, qw16, qw17, qw18, qw19, qw20, qw21, qw22, qw23, qw24, qw25, pw26, aw26, bw26, wset, wnew, w00, rowS, rowM, hz]
    · simp [qw1, ow2, rw2, qw3, qw4, ow5, rw5, qw6, qw7, qw8, qw9, qw10, qw11, qw12, qw13, qw14, qw15, qw16, qw17, qw18, qw19, qw20, qw21, qw22, qw23, qw24, qw25, pw26, aw26, bw26, wset, wnew, w00, rowS, rowM, hz]
theorem kl_56 {d : Nat} {w0 : Wd} {K : Wd → Prop} (h1 : w0 56 1 = 60) (h2 : w0 60 1 = 62) (h3 : w0 56 10 = 71) (h : ∀ w', (∀ c i, c ≠ 62 → c ≠ 71 → w' c i = w0 c i) → (∀ i, w' 62 i = if 0 ≤ i ∧ i < 72 then -1 else w0 62 i) → (∀ i, w' 71 i = if 0 ≤ i ∧ i < 72 then -1 else w0 71 i) → K w') :
    ∀ (t j : Nat) (w : Wd), t + j = 72 → (∀ c i, c ≠ 62 → c ≠ 71 → w c i = w0 c i) → (∀ i, w 62 i = if 0 ≤ i ∧ i < (j : Int) then -1 else w0 62 i) → (∀ i, w 71 i = if 0 ≤ i ∧ i < (j : Int) then -1 else w0 71 i) → WA false yX5_init cX5_init 2 none d 71 0 0 106 [some (.inr (.inr 56)), some (.inl (j : Int))] [] w (rV K) := by
  intro t
  induction t with
  | zero =>
    intro j w hj hp ha hb
    obtain rfl : j = 72 := by omega
    refine WA.iload_n dX5_init_106 rfl ?_
    refine WA.bipush dX5_init_107 ⟨by decide, by decide⟩ ?_
    refine WA.icmp_ge (tgt := 135) dX5_init_109 (by decide) (fun _ => ?_) (fun hc => absurd (by decide) hc)
    exact WA.vreturn dX5_init_135 ⟨rfl, h w hp ha hb⟩
  | succ t ih =>
    intro j w hj hp ha hb
    refine WA.iload_n dX5_init_106 rfl ?_
    refine WA.bipush dX5_init_107 ⟨by decide, by decide⟩ ?_
    refine WA.icmp_ge (tgt := 135) dX5_init_109 (by decide) (fun hc => absurd hc (by omega)) (fun _ => ?_)
    refine WA.aload_n dX5_init_112 rfl (by decide) ?_
    refine gfX5_18 rfl dX5_init_113 (by decide : am_obj 71 56 5 14) ?_
    refine WA.top (v2 := .inr (.inr 60)) (by rw [hp 56 1 (by decide) (by decide), h1]) ?_
    refine gfX5_53 rfl dX5_init_116 (by decide : am_obj 71 60 7 2) ?_
    refine WA.top (v2 := .inr (.inr 62)) (by rw [hp 60 1 (by decide) (by decide), h2]) ?_
    refine WA.iload_n dX5_init_119 rfl ?_
    refine WA.iconst dX5_init_120 ⟨by decide, by decide⟩ ?_
    refine WA.iastore dX5_init_121 (by decide : am_arr 71 62 0 72) (by omega) (by omega) ?_
    refine WA.aload_n dX5_init_122 rfl (by decide) ?_
    refine gfX5_46 rfl dX5_init_123 (by decide : am_obj 71 56 5 14) ?_
    refine WA.top (v2 := .inr (.inr 71)) (by rw [show wset w 62 (j : Int) (-1) 56 10 = w 56 10 from if_neg (by omega), hp 56 10 (by decide) (by decide), h3]) ?_
    refine WA.iload_n dX5_init_126 rfl ?_
    refine WA.iconst dX5_init_127 ⟨by decide, by decide⟩ ?_
    refine WA.iastore dX5_init_128 (by decide : am_arr 71 71 0 72) (by omega) (by omega) ?_
    refine WA.iinc (als' := [some (.inr (.inr 56)), some (.inl (((j + 1 : Nat)) : Int))]) dX5_init_129 rfl ⟨by omega, by omega⟩ rfl ?_
    refine WA.goto (tgt := 106) dX5_init_132 (by decide) ?_
    refine ih (j + 1) _ (by omega) (fun c i c1 c2 => ?_) (fun i => ?_) (fun i => ?_)
    · rw [show wset (wset w 62 (j : Int) (-1)) 71 (j : Int) (-1) c i = wset w 62 (j : Int) (-1) c i from if_neg (fun q => c2 q.1), show wset w 62 (j : Int) (-1) c i = w c i from if_neg (fun q => c1 q.1)]
      exact hp c i c1 c2
    · rw [show wset (wset w 62 (j : Int) (-1)) 71 (j : Int) (-1) 62 i = wset w 62 (j : Int) (-1) 62 i from if_neg (by omega)]
      unfold wset
      rw [ha i]
      by_cases e : i = (j : Int)
      · rw [if_pos ⟨rfl, e⟩, if_pos (by omega)]
      · rw [if_neg (fun q => e q.2)]
        by_cases e2 : 0 ≤ i ∧ i < (j : Int)
        · rw [if_pos e2, if_pos (by omega)]
        · rw [if_neg e2, if_neg (by omega)]
    · have e9 : ∀ i, wset w 62 (j : Int) (-1) 71 i = w 71 i := fun i => if_neg (by omega)
      show (if _ then _ else wset w 62 (j : Int) (-1) 71 i) = _
      rw [e9 i, hb i]
      by_cases e : i = (j : Int)
      · rw [if_pos ⟨rfl, e⟩, if_pos (by omega)]
      · rw [if_neg (fun q => e q.2)]
        by_cases e2 : 0 ≤ i ∧ i < (j : Int)
        · rw [if_pos e2, if_pos (by omega)]
        · rw [if_neg e2, if_neg (by omega)]
set_option maxRecDepth 10000 in
theorem kw_X5_56 {d : Nat} {w : Wd} {K : Wd → Prop} (hd : 2 ≤ d) (hz : ∀ i, w 56 i = 0) (h : ∀ w', (∀ c i, (c < 56 ∨ 71 < c) → w' c i = w c i) → (∀ c i, 56 ≤ c → c ≤ 71 → w' c i = w00 c i) → K w') : EvA false yX5_init cX5_init 2 none d 56 15 10228 [.inr (.inr 56)] w (rV K) := by
  refine EvA.of (by decide +kernel) (Nat.le_of_ble_eq_true rfl) ?_
  change WA false yX5_init cX5_init 2 none d 56 15 10228 0 [some (.inr (.inr 56)), none] [] w (rV K)
  refine WA.aload_n dX5_init_0 rfl (by decide) ?_
  refine WA.objInit dX5_init_1 (am_mem 49 (by decide +kernel) rfl) (am_mem 23 (by decide +kernel) rfl) (am_mem 24 (by decide +kernel) rfl) (by decide) (Nat.le_trans (by decide) hd) (Nat.le_of_ble_eq_true rfl) ?_
  refine WA.aload_n dX5_init_4 rfl (by decide) ?_
  refine WA.new2 (n2 := 57) (kc := 14) (ks := 10226) (N := 2) (ci := 7) (c := 57) rfl rfl rfl (by decide) dX5_init_5 (by decide) (by decide) rfl gin_X7 tyX7_ok (by decide) ⟨am_mem 50 (by decide +kernel) rfl, am_mem 51 (by decide +kernel) rfl, am_mem 4 (by decide +kernel) rfl⟩ ?_
  obtain ⟨w1, qw1⟩ : ∃ z, z = wnew w 57 := ⟨_, rfl⟩
  rw [← qw1]
  refine WA.dup dX5_init_8 rfl ?_
  refine WA.callIN0 (n2 := 59) (kc' := 2) (ks' := 2232) (kc := 12) (ks := 7994) (d' := 1) dX5_init_9 lkX5_11 rfl rfl rfl (by decide) (Nat.le_of_ble_eq_true rfl) (Nat.lt_of_lt_of_le (by decide) hd) (kw_X7_57 (K := (fun z : Wd => (∀ c i, (c < 57 ∨ 59 < c) → z c i = w1 c i) ∧ (∀ c i, 57 ≤ c → c ≤ 59 → z c i = w00 c i))) (Nat.le_refl _) (fun i => by simp [qw1, wset, wnew, w00, rowS, rowM, hz]) (fun _ o r => ⟨o, r⟩)) ?_
  rintro r w2 ⟨rfl, ow2, rw2⟩
  change WA _ _ _ _ _ _ _ _ _ _ _ [.inr (.inr 57), .inr (.inr 56)] _ _
  refine pfX5_12 rfl rfl rfl dX5_init_12 (by decide : am_obj 59 56 5 14) ?_
  obtain ⟨w3, qw3⟩ : ∃ z, z = wset w2 56 0 57 := ⟨_, rfl⟩
  rw [← qw3]
  refine WA.aload_n dX5_init_15 rfl (by decide) ?_
  refine WA.new2 (n2 := 60) (kc := 11) (ks := 7992) (N := 2) (ci := 7) (c := 60) rfl rfl rfl (by decide) dX5_init_16 (by decide) (by decide) rfl gin_X7 tyX7_ok (by decide) ⟨am_mem 50 (by decide +kernel) rfl, am_mem 51 (by decide +kernel) rfl, am_mem 4 (by decide +kernel) rfl⟩ ?_
  obtain ⟨w4, qw4⟩ : ∃ z, z = wnew w3 60 := ⟨_, rfl⟩
  rw [← qw4]
  refine WA.dup dX5_init_19 rfl ?_
  refine WA.callIN0 (n2 := 62) (kc' := 2) (ks' := 2232) (kc := 9) (ks := 5760) (d' := 1) dX5_init_20 lkX5_11 rfl rfl rfl (by decide) (Nat.le_of_ble_eq_true rfl) (Nat.lt_of_lt_of_le (by decide) hd) (kw_X7_60 (K := (fun z : Wd => (∀ c i, (c < 60 ∨ 62 < c) → z c i = w4 c i) ∧ (∀ c i, 60 ≤ c → c ≤ 62 → z c i = (if c = 62 then 0 else w00 c i)))) (Nat.le_refl _) (fun i => by simp [qw1, ow2, rw2, qw3, qw4, wset, wnew, w00, rowS, rowM, hz]) (fun _ o r => ⟨o, r⟩)) ?_
  rintro r w5 ⟨rfl, ow5, rw5⟩
  change WA _ _ _ _ _ _ _ _ _ _ _ [.inr (.inr 60), .inr (.inr 56)] _ _
  refine pfX5_18 rfl rfl rfl dX5_init_23 (by decide : am_obj 62 56 5 14) ?_
  obtain ⟨w6, qw6⟩ : ∃ z, z = wset w5 56 1 60 := ⟨_, rfl⟩
  rw [← qw6]
  refine WA.aload_n dX5_init_26 rfl (by decide) ?_
  refine WA.bipush dX5_init_27 ⟨by decide, by decide⟩ ?_
  refine WA.newarray2 (n2 := 63) (kc := 8) (ks := 5688) (N := 72) (c := 63) (K := 0) rfl rfl rfl (by decide) dX5_init_29 (by decide) rfl (by decide) rfl (by decide) (by decide) (am_mem 43 (by decide +kernel) rfl) ?_
  obtain ⟨w7, qw7⟩ : ∃ z, z = wnew w6 63 := ⟨_, rfl⟩
  rw [← qw7]
  refine pfX5_21 rfl rfl rfl dX5_init_31 (by decide : am_obj 63 56 5 14) ?_
  obtain ⟨w8, qw8⟩ : ∃ z, z = wset w7 56 2 63 := ⟨_, rfl⟩
  rw [← qw8]
  refine WA.aload_n dX5_init_34 rfl (by decide) ?_
  refine WA.bipush dX5_init_35 ⟨by decide, by decide⟩ ?_
  refine WA.newarray2 (n2 := 64) (kc := 7) (ks := 5616) (N := 72) (c := 64) (K := 0) rfl rfl rfl (by decide) dX5_init_37 (by decide) rfl (by decide) rfl (by decide) (by decide) (am_mem 43 (by decide +kernel) rfl) ?_
  obtain ⟨w9, qw9⟩ : ∃ z, z = wnew w8 64 := ⟨_, rfl⟩
  rw [← qw9]
  refine pfX5_25 rfl rfl rfl dX5_init_39 (by decide : am_obj 64 56 5 14) ?_
  obtain ⟨w10, qw10⟩ : ∃ z, z = wset w9 56 3 64 := ⟨_, rfl⟩
  rw [← qw10]
  refine WA.aload_n dX5_init_42 rfl (by decide) ?_
  refine WA.bipush dX5_init_43 ⟨by decide, by decide⟩ ?_
  refine WA.newarray2 (n2 := 65) (kc := 6) (ks := 5544) (N := 72) (c := 65) (K := 0) rfl rfl rfl (by decide) dX5_init_45 (by decide) rfl (by decide) rfl (by decide) (by decide) (am_mem 43 (by decide +kernel) rfl) ?_
  obtain ⟨w11, qw11⟩ : ∃ z, z = wnew w10 65 := ⟨_, rfl⟩
  rw [← qw11]
  refine pfX5_28 rfl rfl rfl dX5_init_47 (by decide : am_obj 65 56 5 14) ?_
  obtain ⟨w12, qw12⟩ : ∃ z, z = wset w11 56 4 65 := ⟨_, rfl⟩
  rw [← qw12]
  refine WA.aload_n dX5_init_50 rfl (by decide) ?_
  refine WA.bipush dX5_init_51 ⟨by decide, by decide⟩ ?_
  refine WA.newarray2 (n2 := 66) (kc := 5) (ks := 5472) (N := 72) (c := 66) (K := 0) rfl rfl rfl (by decide) dX5_init_53 (by decide) rfl (by decide) rfl (by decide) (by decide) (am_mem 43 (by decide +kernel) rfl) ?_
  obtain ⟨w13, qw13⟩ : ∃ z, z = wnew w12 66 := ⟨_, rfl⟩
  rw [← qw13]
  refine pfX5_31 rfl rfl rfl dX5_init_55 (by decide : am_obj 66 56 5 14) ?_
  obtain ⟨w14, qw14⟩ : ∃ z, z = wset w13 56 5 66 := ⟨_, rfl⟩
  rw [← qw14]
  refine WA.aload_n dX5_init_58 rfl (by decide) ?_
  refine WA.bipush dX5_init_59 ⟨by decide, by decide⟩ ?_
  refine WA.newarray2 (n2 := 67) (kc := 4) (ks := 5400) (N := 72) (c := 67) (K := 0) rfl rfl rfl (by decide) dX5_init_61 (by decide) rfl (by decide) rfl (by decide) (by decide) (am_mem 43 (by decide +kernel) rfl) ?_
  obtain ⟨w15, qw15⟩ : ∃ z, z = wnew w14 67 := ⟨_, rfl⟩
  rw [← qw15]
  refine pfX5_34 rfl rfl rfl dX5_init_63 (by decide : am_obj 67 56 5 14) ?_
  obtain ⟨w16, qw16⟩ : ∃ z, z = wset w15 56 6 67 := ⟨_, rfl⟩
  rw [← qw16]
  refine WA.aload_n dX5_init_66 rfl (by decide) ?_
  refine WA.sipush dX5_init_67 ⟨by decide, by decide⟩ ?_
  refine WA.newarray2 (n2 := 68) (kc := 3) (ks := 216) (N := 5184) (c := 68) (K := 0) rfl rfl rfl (by decide) dX5_init_70 (by decide) rfl (by decide) rfl (by decide) (by decide) (am_mem 43 (by decide +kernel) rfl) ?_
  obtain ⟨w17, qw17⟩ : ∃ z, z = wnew w16 68 := ⟨_, rfl⟩
  rw [← qw17]
  refine pfX5_37 rfl rfl rfl dX5_init_72 (by decide : am_obj 68 56 5 14) ?_
  obtain ⟨w18, qw18⟩ : ∃ z, z = wset w17 56 7 68 := ⟨_, rfl⟩
  rw [← qw18]
  refine WA.aload_n dX5_init_75 rfl (by decide) ?_
  refine WA.bipush dX5_init_76 ⟨by decide, by decide⟩ ?_
  refine WA.newarray2 (n2 := 69) (kc := 2) (ks := 144) (N := 72) (c := 69) (K := 0) rfl rfl rfl (by decide) dX5_init_78 (by decide) rfl (by decide) rfl (by decide) (by decide) (am_mem 43 (by decide +kernel) rfl) ?_
  obtain ⟨w19, qw19⟩ : ∃ z, z = wnew w18 69 := ⟨_, rfl⟩
  rw [← qw19]
  refine pfX5_40 rfl rfl rfl dX5_init_80 (by decide : am_obj 69 56 5 14) ?_
  obtain ⟨w20, qw20⟩ : ∃ z, z = wset w19 56 8 69 := ⟨_, rfl⟩
  rw [← qw20]
  refine WA.aload_n dX5_init_83 rfl (by decide) ?_
  refine WA.bipush dX5_init_84 ⟨by decide, by decide⟩ ?_
  refine WA.newarray2 (n2 := 70) (kc := 1) (ks := 72) (N := 72) (c := 70) (K := 0) rfl rfl rfl (by decide) dX5_init_86 (by decide) rfl (by decide) rfl (by decide) (by decide) (am_mem 43 (by decide +kernel) rfl) ?_
  obtain ⟨w21, qw21⟩ : ∃ z, z = wnew w20 70 := ⟨_, rfl⟩
  rw [← qw21]
  refine pfX5_43 rfl rfl rfl dX5_init_88 (by decide : am_obj 70 56 5 14) ?_
  obtain ⟨w22, qw22⟩ : ∃ z, z = wset w21 56 9 70 := ⟨_, rfl⟩
  rw [← qw22]
  refine WA.aload_n dX5_init_91 rfl (by decide) ?_
  refine WA.bipush dX5_init_92 ⟨by decide, by decide⟩ ?_
  refine WA.newarray2 (n2 := 71) (kc := 0) (ks := 0) (N := 72) (c := 71) (K := 0) rfl rfl rfl (by decide) dX5_init_94 (by decide) rfl (by decide) rfl (by decide) (by decide) (am_mem 43 (by decide +kernel) rfl) ?_
  obtain ⟨w23, qw23⟩ : ∃ z, z = wnew w22 71 := ⟨_, rfl⟩
  rw [← qw23]
  refine pfX5_46 rfl rfl rfl dX5_init_96 (by decide : am_obj 71 56 5 14) ?_
  obtain ⟨w24, qw24⟩ : ∃ z, z = wset w23 56 10 71 := ⟨_, rfl⟩
  rw [← qw24]
  refine WA.aload_n dX5_init_99 rfl (by decide) ?_
  refine WA.iconst dX5_init_100 ⟨by decide, by decide⟩ ?_
  refine pfX5_49 rfl dX5_init_101 (by decide : am_obj 71 56 5 14) (by decide) ?_
  obtain ⟨w25, qw25⟩ : ∃ z, z = wset w24 56 13 1 := ⟨_, rfl⟩
  rw [← qw25]
  refine WA.iconst dX5_init_104 ⟨by decide, by decide⟩ ?_
  refine WA.istore_n (als' := [some (.inr (.inr 56)), some (.inl 0)]) dX5_init_105 (Nat.le_of_ble_eq_true rfl) rfl ?_
  refine kl_56 (w0 := w25) (by simp [qw1, ow2, rw2, qw3, qw4, ow5, rw5, qw6, qw7, qw8, qw9, qw10, qw11, qw12, qw13, qw14, qw15, qw16, qw17, qw18, qw19, qw20, qw21, qw22, qw23, qw24, qw25, wset, wnew, w00, rowS, rowM, hz]) (by simp [qw1, ow2, rw2, qw3, qw4, ow5, rw5, qw6, qw7, qw8, qw9, qw10, qw11, qw12, qw13, qw14, qw15, qw16, qw17, qw18, qw19, qw20, qw21, qw22, qw23, qw24, qw25, wset, wnew, w00, rowS, rowM, hz]) (by simp [qw1, ow2, rw2, qw3, qw4, ow5, rw5, qw6, qw7, qw8, qw9, qw10, qw11, qw12, qw13, qw14, qw15, qw16, qw17, qw18, qw19, qw20, qw21, qw22, qw23, qw24, qw25, wset, wnew, w00, rowS, rowM, hz]) (fun w26 pw26 aw26 bw26 => ?_) 72 0 w25 rfl (fun c i _ _ => rfl) (fun i => by rw [if_neg (by omega)]) (fun i => by rw [if_neg (by omega)])
  refine h w26 ?_ ?_
  · intro c i hc
    rw [pw26 c i (by omega) (by omega)]
    rw [qw25, show wset w24 56 13 1 c i = w24 c i from if_neg (by omega)]
    rw [qw24, show wset w23 56 10 71 c i = w23 c i from if_neg (by omega)]
    rw [qw23, show wnew w22 71 c i = w22 c i from if_neg (by omega)]
    rw [qw22, show wset w21 56 9 70 c i = w21 c i from if_neg (by omega)]
    rw [qw21, show wnew w20 70 c i = w20 c i from if_neg (by omega)]
    rw [qw20, show wset w19 56 8 69 c i = w19 c i from if_neg (by omega)]
    rw [qw19, show wnew w18 69 c i = w18 c i from if_neg (by omega)]
    rw [qw18, show wset w17 56 7 68 c i = w17 c i from if_neg (by omega)]
    rw [qw17, show wnew w16 68 c i = w16 c i from if_neg (by omega)]
    rw [qw16, show wset w15 56 6 67 c i = w15 c i from if_neg (by omega)]
    rw [qw15, show wnew w14 67 c i = w14 c i from if_neg (by omega)]
    rw [qw14, show wset w13 56 5 66 c i = w13 c i from if_neg (by omega)]
    rw [qw13, show wnew w12 66 c i = w12 c i from if_neg (by omega)]
    rw [qw12, show wset w11 56 4 65 c i = w11 c i from if_neg (by omega)]
    rw [qw11, show wnew w10 65 c i = w10 c i from if_neg (by omega)]
    rw [qw10, show wset w9 56 3 64 c i = w9 c i from if_neg (by omega)]
    rw [qw9, show wnew w8 64 c i = w8 c i from if_neg (by omega)]
    rw [qw8, show wset w7 56 2 63 c i = w7 c i from if_neg (by omega)]
    rw [qw7, show wnew w6 63 c i = w6 c i from if_neg (by omega)]
    rw [qw6, show wset w5 56 1 60 c i = w5 c i from if_neg (by omega)]
    rw [ow5 c i (by omega)]
    rw [qw4, show wnew w3 60 c i = w3 c i from if_neg (by omega)]
    rw [qw3, show wset w2 56 0 57 c i = w2 c i from if_neg (by omega)]
    rw [ow2 c i (by omega)]
    rw [qw1, show wnew w 57 c i = w c i from if_neg (by omega)]
  · intro c i hc1 hc2
    have hc : (57 ≤ c ∧ c ≤ 59) ∨ (60 ≤ c ∧ c ≤ 61) ∨ c = 56 ∨ c = 62 ∨ c = 63 ∨ c = 64 ∨ c = 65 ∨ c = 66 ∨ c = 67 ∨ c = 68 ∨ c = 69 ∨ c = 70 ∨ c = 71 := by omega
    rcases hc with hc | hc | rfl | rfl | rfl | rfl | rfl | rfl | rfl | rfl | rfl | rfl | rfl
    · rw [pw26 c i (by omega) (by omega)]
      rw [qw25, show wset w24 56 13 1 c i = w24 c i from if_neg (by omega)]
      rw [qw24, show wset w23 56 10 71 c i = w23 c i from if_neg (by omega)]
      rw [qw23, show wnew w22 71 c i = w22 c i from if_neg (by omega)]
      rw [qw22, show wset w21 56 9 70 c i = w21 c i from if_neg (by omega)]
      rw [qw21, show wnew w20 70 c i = w20 c i from if_neg (by omega)]
      rw [qw20, show wset w19 56 8 69 c i = w19 c i from if_neg (by omega)]
      rw [qw19, show wnew w18 69 c i = w18 c i from if_neg (by omega)]
      rw [qw18, show wset w17 56 7 68 c i = w17 c i from if_neg (by omega)]
      rw [qw17, show wnew w16 68 c i = w16 c i from if_neg (by omega)]
      rw [qw16, show wset w15 56 6 67 c i = w15 c i from if_neg (by omega)]
      rw [qw15, show wnew w14 67 c i = w14 c i from if_neg (by omega)]
      rw [qw14, show wset w13 56 5 66 c i = w13 c i from if_neg (by omega)]
      rw [qw13, show wnew w12 66 c i = w12 c i from if_neg (by omega)]
      rw [qw12, show wset w11 56 4 65 c i = w11 c i from if_neg (by omega)]
      rw [qw11, show wnew w10 65 c i = w10 c i from if_neg (by omega)]
      rw [qw10, show wset w9 56 3 64 c i = w9 c i from if_neg (by omega)]
      rw [qw9, show wnew w8 64 c i = w8 c i from if_neg (by omega)]
      rw [qw8, show wset w7 56 2 63 c i = w7 c i from if_neg (by omega)]
      rw [qw7, show wnew w6 63 c i = w6 c i from if_neg (by omega)]
      rw [qw6, show wset w5 56 1 60 c i = w5 c i from if_neg (by omega)]
      rw [ow5 c i (by omega)]
      rw [qw4, show wnew w3 60 c i = w3 c i from if_neg (by omega)]
      rw [qw3, show wset w2 56 0 57 c i = w2 c i from if_neg (by omega)]
      exact rw2 c i (by omega) (by omega)
    · rw [pw26 c i (by omega) (by omega)]
      rw [qw25, show wset w24 56 13 1 c i = w24 c i from if_neg (by omega)]
      rw [qw24, show wset w23 56 10 71 c i = w23 c i from if_neg (by omega)]
      rw [qw23, show wnew w22 71 c i = w22 c i from if_neg (by omega)]
      rw [qw22, show wset w21 56 9 70 c i = w21 c i from if_neg (by omega)]
      rw [qw21, show wnew w20 70 c i = w20 c i from if_neg (by omega)]
      rw [qw20, show wset w19 56 8 69 c i = w19 c i from if_neg (by omega)]
      rw [qw19, show wnew w18 69 c i = w18 c i from if_neg (by omega)]
      rw [qw18, show wset w17 56 7 68 c i = w17 c i from if_neg (by omega)]
      rw [qw17, show wnew w16 68 c i = w16 c i from if_neg (by omega)]
      rw [qw16, show wset w15 56 6 67 c i = w15 c i from if_neg (by omega)]
      rw [qw15, show wnew w14 67 c i = w14 c i from if_neg (by omega)]
      rw [qw14, show wset w13 56 5 66 c i = w13 c i from if_neg (by omega)]
      rw [qw13, show wnew w12 66 c i = w12 c i from if_neg (by omega)]
      rw [qw12, show wset w11 56 4 65 c i = w11 c i from if_neg (by omega)]
      rw [qw11, show wnew w10 65 c i = w10 c i from if_neg (by omega)]
      rw [qw10, show wset w9 56 3 64 c i = w9 c i from if_neg (by omega)]
      rw [qw9, show wnew w8 64 c i = w8 c i from if_neg (by omega)]
      rw [qw8, show wset w7 56 2 63 c i = w7 c i from if_neg (by omega)]
      rw [qw7, show wnew w6 63 c i = w6 c i from if_neg (by omega)]
      rw [qw6, show wset w5 56 1 60 c i = w5 c i from if_neg (by omega)]
      exact (rw5 c i (by omega) (by omega)).trans (if_neg (by omega))
    · by_cases e0 : i = 0
      · subst e0
        simp [qw1, ow2, rw2, qw3, qw4, ow5, rw5, qw6, qw7, qw8, qw9, qw10, qw11, qw12, qw13, qw14, qw15, qw16, qw17, qw18, qw19, qw20, qw21, qw22, qw23, qw24, qw25, pw26, aw26, bw26, wset, wnew, w00, rowS, rowM, hz]
      by_cases e1 : i = 1
      · subst e1
        simp [qw1, ow2, rw2, qw3, qw4, ow5, rw5, qw6, qw7, qw8, qw9, qw10, qw11, qw12, qw13, qw14, qw15, qw16, qw17, qw18, qw19, qw20, qw21, qw22, qw23, qw24, qw25, pw26, aw26, bw26, wset, wnew, w00, rowS, rowM, hz]
      by_cases e2 : i = 2
      · subst e2
        simp [qw1, ow2, rw2, qw3, qw4, ow5, rw5, qw6, qw7, qw8, qw9, qw10, qw11, qw12, qw13, qw14, qw15, qw16, qw17, qw18, qw19, qw20, qw21, qw22, qw23, qw24, qw25, pw26, aw26, bw26, wset, wnew, w00, rowS, rowM, hz]
      by_cases e3 : i = 3
      · subst e3
        simp [qw1, ow2, rw2, qw3, qw4, ow5, rw5, qw6, qw7, qw8, qw9, qw10, qw11, qw12, qw13, qw14, qw15, qw16, qw17, qw18, qw19, qw20, qw21, qw22, qw23, qw24, qw25, pw26, aw26, bw26, wset, wnew, w00, rowS, rowM, hz]
      by_cases e4 : i = 4
      · subst e4
        simp [qw1, ow2, rw2, qw3, qw4, ow5, rw5, qw6, qw7, qw8, qw9, qw10, qw11, qw12, qw13, qw14, qw15, qw16, qw17, qw18, qw19, qw20, qw21, qw22, qw23, qw24, qw25, pw26, aw26, bw26, wset, wnew, w00, rowS, rowM, hz]
      by_cases e5 : i = 5
      · subst e5
        simp [qw1, ow2, rw2, qw3, qw4, ow5, rw5, qw6, qw7, qw8, qw9, qw10, qw11, qw12, qw13, qw14, qw15, qw16, qw17, qw18, qw19, qw20, qw21, qw22, qw23, qw24, qw25, pw26, aw26, bw26, wset, wnew, w00, rowS, rowM, hz]
      by_cases e6 : i = 6
      · subst e6
        simp [qw1, ow2, rw2, qw3, qw4, ow5, rw5, qw6, qw7, qw8, qw9, qw10, qw11, qw12, qw13, qw14, qw15, qw16, qw17, qw18, qw19, qw20, qw21, qw22, qw23, qw24, qw25, pw26, aw26, bw26, wset, wnew, w00, rowS, rowM, hz]
      by_cases e7 : i = 7
      · subst e7
        simp [qw1, ow2, rw2, qw3, qw4, ow5, rw5, qw6, qw7, qw8, qw9, qw10, qw11, qw12, qw13, qw14, qw15, qw16, qw17, qw18, qw19, qw20, qw21, qw22, qw23, qw24, qw25, pw26, aw26, bw26, wset, wnew, w00, rowS, rowM, hz]
      by_cases e8 : i = 8
      · subst e8
        simp [qw1, ow2, rw2, qw3, qw4, ow5, rw5, qw6, qw7, qw8, qw9, qw10, qw11, qw12, qw13, qw14, qw15, qw16, qw17, qw18, qw19, qw20, qw21, qw22, qw23, qw24, qw25, pw26, aw26, bw26, wset, wnew, w00, rowS, rowM, hz]
      by_cases e9 : i = 9
      · subst e9
        simp [qw1, ow2, rw2, qw3, qw4, ow5, rw5, qw6, qw7, qw8, qw9, qw10, qw11, qw12, qw13, qw14, qw15, qw16, qw17, qw18, qw19, qw20, qw21, qw22, qw23, qw24, qw25, pw26, aw26, bw26, wset, wnew, w00, rowS, rowM, hz]
      by_cases e10 : i = 10
      · subst e10
        simp [qw1, ow2, rw2, qw3, qw4, ow5, rw5, qw6, qw7, qw8, qw9, qw10, qw11, qw12, qw13, qw14, qw15, qw16, qw17, qw18, qw19, qw20, qw21, qw22, qw23, qw24, qw25, pw26, aw26, bw26, wset, wnew, w00, rowS, rowM, hz]
      by_cases e13 : i = 13
      · subst e13
        simp [qw1, ow2, rw2, qw3, qw4, ow5, rw5, qw6, qw7, qw8, qw9, qw10, qw11, qw12, qw13, qw14, qw15, qw16, qw17, qw18, qw19, qw20, qw21, qw22, qw23, qw24, qw25, pw26, aw26, bw26, wset, wnew, w00, rowS, rowM, hz]
      have g0 : ¬ (2 ≤ i ∧ i ≤ 10) := by omega
      simp [qw1, ow2, rw2, qw3, qw4, ow5, rw5, qw6, qw7, qw8, qw9, qw10, qw11, qw12, qw13, qw14, qw15, qw16, qw17, qw18, qw19, qw20, qw21, qw22, qw23, qw24, qw25, pw26, aw26, bw26, wset, wnew, w00, rowS, rowM, hz, g0, e0, e1, e2, e3, e4, e5, e6, e7, e8, e9, e10, e13]
    · simp [qw1, ow2, rw2, qw3, qw4, ow5, rw5, qw6, qw7, qw8, qw9, qw10, qw11, qw12, qw13, qw14, qw15, qw16, qw17, qw18, qw19, qw20, qw21, qw22, qw23, qw24, qw25, pw26, aw26, bw26, wset, wnew, w00, rowS, rowM, hz]
    · simp [qw1, ow2, rw2, qw3, qw4, ow5, rw5, qw6, qw7, qw8, qw9, qw10, qw11, qw12, qw13, qw14, qw15, qw16, qw17, qw18, qw19, qw20, qw21, qw22, qw23, qw24, qw25, pw26, aw26, bw26, wset, wnew, w00, rowS, rowM, hz]
    · simp [qw1, ow2, rw2, qw3, qw4, ow5, rw5, qw6, qw7, qw8, qw9, qw10, qw11, qw12, qw13, qw14, qw15, qw16, qw17, qw18, qw19, qw20, qw21, qw22, qw23, qw24, qw25, pw26, aw26, bw26, wset, wnew, w00, rowS, rowM, hz]
    · simp [qw1, ow2, rw2, qw3, qw4, ow5, rw5, qw6, qw7, qw8, qw9, qw10, qw11, qw12, qw13, qw14, qw15, qw16, qw17, qw18, qw19, qw20, qw21, qw22, qw23, qw24, qw25, pw26, aw26, bw26, wset, wnew, w00, rowS, rowM, hz]
    · simp [qw1, ow2, rw2, qw3, qw4, ow5, rw5, qw6, qw7, qw8, qw9, qw10, qw11, qw12, qw13, qw14, qw15, qw16, qw17, qw18, qw19, qw20, qw21, qw22, qw23, qw24, qw25, pw26, aw26, bw26, wset, wnew, w00, rowS, rowM, hz]
    · simp [qw1, ow2, rw2, qw3, qw4, ow5, rw5, qw6, qw7, qw8, qw9, qw10, qw11, qw12, qw13, qw14, qw15, qw16, qw17, qw18, qw19, qw20, qw21, qw22, qw23, qw24, qw25, pw26, aw26, bw26, wset, wnew, w00, rowS, rowM, hz]
    · simp [qw1, ow2, rw2, qw3, qw4, ow5, rw5, qw6, qw7, qw8, qw9, qw10, qw11, qw12, qw13, qw14, qw15, qw16, qw17, qw18, qw19, qw20, qw21, qw22, qw23, qw24, qw25, pw26, aw26, bw26, wset, wnew, w00, rowS, rowM, hz]
    · simp [qw1, ow2, rw2, qw3, qw4, ow5, rw5, qw6, qw7, qw8, qw9, qw10, qw11, qw12, qw13, qw14, qw15, qw16, qw17, qw18, qw19, qw20, qw21, qw22, qw23, qw24, qw25, pw26, aw26, bw26, wset, wnew, w00, rowS, rowM, hz]
    · simp [qw1, ow2, rw2, qw3, qw4, ow5, rw5, qw6, qw7, qw8, qw9, qw10, qw11, qw12, qw13, qw14, qw15, qw16, qw17, qw18, qw19, qw20, qw21, qw22, qw23, qw24, qw25, pw26, aw26, bw26, wset, wnew, w00, rowS, rowM, hz]
    · simp [qw1, ow2, rw2, qw3, qw4, ow5, rw5, qw6, qw7, qw8, qw9, qw10, qw11, qw12, qw13, qw14, qw15, qw16, qw17, qw18, qw19, qw20, qw21, qw22, qw23, qw24, qw25, pw26, aw26, bw26, wset, wnew, w00, rowS, rowM, hz]
theorem kl_72 {d : Nat} {w0 : Wd} {K : Wd → Prop} (h1 : w0 72 1 = 76) (h2 : w0 76 1 = 78) (h3 : w0 72 10 = 87) (h : ∀ w', (∀ c i, c ≠ 78 → c ≠ 87 → w' c i = w0 c i) → (∀ i, w' 78 i = if 0 ≤ i ∧ i < 72 then -1 else w0 78 i) → (∀ i, w' 87 i = if 0 ≤ i ∧ i < 72 then -1 else w0 87 i) → K w') :
    ∀ (t j : Nat) (w : Wd), t + j = 72 → (∀ c i, c ≠ 78 → c ≠ 87 → w c i = w0 c i) → (∀ i, w 78 i = if 0 ≤ i ∧ i < (j : Int) then -1 else w0 78 i) → (∀ i, w 87 i = if 0 ≤ i ∧ i < (j : Int) then -1 else w0 87 i) → WA false yX5_init cX5_init 2 none d 87 0 0 106 [some (.inr (.inr 72)), some (.inl (j : Int))] [] w (rV K) := by
  intro t
  induction t with
  | zero =>
    intro j w hj hp ha hb
    obtain rfl : j = 72 := by omega
    refine WA.iload_n dX5_init_106 rfl ?_
    refine WA.bipush dX5_init_107 ⟨by decide, by decide⟩ ?_
    refine WA.icmp_ge (tgt := 135) dX5_init_109 (by decide) (fun _ => ?_) (fun hc => absurd (by decide) hc)
    exact WA.vreturn dX5_init_135 ⟨rfl, h w hp ha hb⟩
  | succ t ih =>
    intro j w hj hp ha hb
    refine WA.iload_n dX5_init_106 rfl ?_
    refine WA.bipush dX5_init_107 ⟨by decide, by decide⟩ ?_
    refine WA.icmp_ge (tgt := 135) dX5_init_109 (by decide) (fun hc => absurd hc (by omega)) (fun _ => ?_)
    refine WA.aload_n dX5_init_112 rfl (by decide) ?_
    refine gfX5_18 rfl dX5_init_113 (by decide : am_obj 87 72 5 14) ?_
    refine WA.top (v2 := .inr (.inr 76)) (by rw [hp 72 1 (by decide) (by decide), h1]) ?_
    refine gfX5_53 rfl dX5_init_116 (by decide : am_obj 87 76 7 2) ?_
    refine WA.top (v2 := .inr (.inr 78)) (by rw [hp 76 1 (by decide) (by decide), h2]) ?_
    refine WA.iload_n dX5_init_119 rfl ?_
    refine WA.iconst dX5_init_120 ⟨by decide, by decide⟩ ?_
    refine WA.iastore dX5_init_121 (by decide : am_arr 87 78 0 72) (by omega) (by omega) ?_
    refine WA.aload_n dX5_init_122 rfl (by decide) ?_
    refine gfX5_46 rfl dX5_init_123 (by decide : am_obj 87 72 5 14) ?_
    refine WA.top (v2 := .inr (.inr 87)) (by rw [show wset w 78 (j : Int) (-1) 72 10 = w 72 10 from if_neg (by omega), hp 72 10 (by decide) (by decide), h3]) ?_
    refine WA.iload_n dX5_init_126 rfl ?_
    refine WA.iconst dX5_init_127 ⟨by decide, by decide⟩ ?_
    refine WA.iastore dX5_init_128 (by decide : am_arr 87 87 0 72) (by omega) (by omega) ?_
    refine WA.iinc (als' := [some (.inr (.inr 72)), some (.inl (((j + 1 : Nat)) : Int))]) dX5_init_129 rfl ⟨by omega, by omega⟩ rfl ?_
    refine WA.goto (tgt := 106) dX5_init_132 (by decide) ?_
    refine ih (j + 1) _ (by omega) (fun c i c1 c2 => ?_) (fun i => ?_) (fun i => ?_)
    · rw [show wset (wset w 78 (j : Int) (-1)) 87 (j : Int) (-1) c i = wset w 78 (j : Int) (-1) c i from if_neg (fun q => c2 q.1), show wset w 78 (j : Int) (-1) c i = w c i from if_neg (fun q => c1 q.1)]
      exact hp c i c1 c2
    · rw [show wset (wset w 78 (j : Int) (-1)) 87 (j : Int) (-1) 78 i = wset w 78 (j : Int) (-1) 78 i from if_neg (by omega)]
      unfold wset
      rw [ha i]
      by_cases e : i = (j : Int)
      · rw [if_pos ⟨rfl, e⟩, if_pos (by omega)]
      · rw [if_neg (fun q => e q.2)]
        by_cases e2 : 0 ≤ i ∧ i < (j : Int)
        · rw [if_pos e2, if_pos (by omega)]
        · rw [if_neg e2, if_neg (by omega)]
    · have e9 : ∀ i, wset w 78 (j : Int) (-1) 87 i = w 87 i := fun i => if_neg (by omega)
      show (if _ then _ else wset w 78 (j : Int) (-1) 87 i) = _
      rw [e9 i, hb i]
      by_cases e : i = (j : Int)
      · rw [if_pos ⟨rfl, e⟩, if_pos (by omega)]
      · rw [if_neg (fun q => e q.2)]
        by_cases e2 : 0 ≤ i ∧ i < (j : Int)
        · rw [if_pos e2, if_pos (by omega)]
        · rw [if_neg e2, if_neg (by omega)]
set_option maxRecDepth 10000 in
theorem kw_X5_72 {d : Nat} {w : Wd} {K : Wd → Prop} (hd : 2 ≤ d) (hz : ∀ i, w 72 i = 0) (h : ∀ w', (∀ c i, (c < 72 ∨ 87 < c) → w' c i = w c i) → (∀ c i, 72 ≤ c → c ≤ 87 → w' c i = w00 c i) → K w') : EvA false yX5_init cX5_init 2 none d 72 15 10228 [.inr (.inr 72)] w (rV K) := by
  refine EvA.of (by decide +kernel) (Nat.le_of_ble_eq_true rfl) ?_
  change WA false yX5_init cX5_init 2 none d 72 15 10228 0 [some (.inr (.inr 72)), none] [] w (rV K)
  refine WA.aload_n dX5_init_0 rfl (by decide) ?_
  refine WA.objInit dX5_init_1 (am_mem 49 (by decide +kernel) rfl) (am_mem 23 (by decide +kernel) rfl) (am_mem 24 (by decide +kernel) rfl) (by decide) (Nat.le_trans (by decide) hd) (Nat.le_of_ble_eq_true rfl) ?_
  refine WA.aload_n dX5_init_4 rfl (by decide) ?_
  refine WA.new2 (n2 := 73) (kc := 14) (ks := 10226) (N := 2) (ci := 7) (c := 73) rfl rfl rfl (by decide) dX5_init_5 (by decide) (by decide) rfl gin_X7 tyX7_ok (by decide) ⟨am_mem 50 (by decide +kernel) rfl, am_mem 51 (by decide +kernel) rfl, am_mem 4 (by decide +kernel) rfl⟩ ?_
  obtain ⟨w1, qw1⟩ : ∃ z, z = wnew w 73 := ⟨_, rfl⟩
  rw [← qw1]
  refine WA.dup dX5_init_8 rfl ?_
  refine WA.callIN0 (n2 := 75) (kc' := 2) (ks' := 2232) (kc := 12) (ks := 7994) (d' := 1) dX5_init_9 lkX5_11 rfl rfl rfl (by decide) (Nat.le_of_ble_eq_true rfl) (Nat.lt_of_lt_of_le (by decide) hd) (kw_X7_73 (K := (fun z : Wd => (∀ c i, (c < 73 ∨ 75 < c) → z c i = w1 c i) ∧ (∀ c i, 73 ≤ c → c ≤ 75 → z c i = w00 c i))) (Nat.le_refl _) (fun i => by simp [qw1, wset, wnew, w00, rowS, rowM, hz]) (fun _ o r => ⟨o, r⟩)) ?_
  rintro r w2 ⟨rfl, ow2, rw2⟩
  change WA _ _ _ _ _ _ _ _ _ _ _ [.inr (.inr 73), .inr (.inr 72)] _ _
  refine pfX5_12 rfl rfl rfl dX5_init_12 (by decide : am_obj 75 72 5 14) ?_
  obtain ⟨w3, qw3⟩ : ∃ z, z = wset w2 72 0 73 := ⟨_, rfl⟩
  rw [← qw3]
  refine WA.aload_n dX5_init_15 rfl (by decide) ?_
  refine WA.new2 (n2 := 76) (kc := 11) (ks := 7992) (N := 2) (ci := 7) (c := 76) rfl rfl rfl (by decide) dX5_init_16 (by decide) (by decide) rfl gin_X7 tyX7_ok (by decide) ⟨am_mem 50 (by decide +kernel) rfl, am_mem 51 (by decide +kernel) rfl, am_mem 4 (by decide +kernel) rfl⟩ ?_
  obtain ⟨w4, qw4⟩ : ∃ z, z = wnew w3 76 := ⟨_, rfl⟩
  rw [← qw4]
  refine WA.dup dX5_init_19 rfl ?_
  refine WA.callIN0 (n2 := 78) (kc' := 2) (ks' := 2232) (kc := 9) (ks := 5760) (d' := 1) dX5_init_20 lkX5_11 rfl rfl rfl (by decide) (Nat.le_of_ble_eq_true rfl) (Nat.lt_of_lt_of_le (by decide) hd) (kw_X7_76 (K := (fun z : Wd => (∀ c i, (c < 76 ∨ 78 < c) → z c i = w4 c i) ∧ (∀ c i, 76 ≤ c → c ≤ 78 → z c i = (if c = 78 then 0 else w00 c i)))) (Nat.le_refl _) (fun i => by simp [qw1, ow2, rw2, qw3, qw4, wset, wnew, w00, rowS, rowM, hz]) (fun _ o r => ⟨o, r⟩)) ?_
  rintro r w5 ⟨rfl, ow5, rw5⟩
  change WA _ _ _ _ _ _ _ _ _ _ _ [.inr (.inr 76), .inr (.inr 72)] _ _
  refine pfX5_18 rfl rfl rfl dX5_init_23 (by decide : am_obj 78 72 5 14) ?_
  obtain ⟨w6, qw6⟩ : ∃ z, z = wset w5 72 1 76 := ⟨_, rfl⟩
  rw [← qw6]
  refine WA.aload_n dX5_init_26 rfl (by decide) ?_
  refine WA.bipush dX5_init_27 ⟨by decide, by decide⟩ ?_
  refine WA.newarray2 (n2 := 79) (kc := 8) (ks := 5688) (N := 72) (c := 79) (K := 0) rfl rfl rfl (by decide) dX5_init_29 (by decide) rfl (by decide) rfl (by decide) (by decide) (am_mem 43 (by decide +kernel) rfl) ?_
  obtain ⟨w7, qw7⟩ : ∃ z, z = wnew w6 79 := ⟨_, rfl⟩
  rw [← qw7]
  refine pfX5_21 rfl rfl rfl dX5_init_31 (by decide : am_obj 79 72 5 14) ?_
  obtain ⟨w8, qw8⟩ : ∃ z, z = wset w7 72 2 79 := ⟨_, rfl⟩
  rw [← qw8]
  refine WA.aload_n dX5_init_34 rfl (by decide) ?_
  refine WA.bipush dX5_init_35 ⟨by decide, by decide⟩ ?_
  refine WA.newarray2 (n2 := 80) (kc := 7) (ks := 5616) (N := 72) (c := 80) (K := 0) rfl rfl rfl (by decide) dX5_init_37 (by decide) rfl (by decide) rfl (by decide) (by decide) (am_mem 43 (by decide +kernel) rfl) ?_
  obtain ⟨w9, qw9⟩ : ∃ z, z = wnew w8 80 := ⟨_, rfl⟩
  rw [← qw9]
  refine pfX5_25 rfl rfl rfl dX5_init_39 (by decide : am_obj 80 72 5 14) ?_
  obtain ⟨w10, qw10⟩ : ∃ z, z = wset w9 72 3 80 := ⟨_, rfl⟩
  rw [← qw10]
  refine WA.aload_n dX5_init_42 rfl (by decide) ?_
  refine WA.bipush dX5_init_43 ⟨by decide, by decide⟩ ?_
  refine WA.newarray2 (n2 := 81) (kc := 6) (ks := 5544) (N := 72) (c := 81) (K := 0) rfl rfl rfl (by decide) dX5_init_45 (by decide) rfl (by decide) rfl (by decide) (by decide) (am_mem 43 (by decide +kernel) rfl) ?_
  obtain ⟨w11, qw11⟩ : ∃ z, z = wnew w10 81 := ⟨_, rfl⟩
  rw [← qw11]
  refine pfX5_28 rfl rfl rfl dX5_init_47 (by decide : am_obj 81 72 5 14) ?_
  obtain ⟨w12, qw12⟩ : ∃ z, z = wset w11 72 4 81 := ⟨_, rfl⟩
  rw [← qw12]
  refine WA.aload_n dX5_init_50 rfl (by decide) ?_
  refine WA.bipush dX5_init_51 ⟨by decide, by decide⟩ ?_
  refine WA.newarray2 (n2 := 82) (kc := 5) (ks := 5472) (N := 72) (c := 82) (K := 0) rfl rfl rfl (by decide) dX5_init_53 (by decide) rfl (by decide) rfl (by decide) (by decide) (am_mem 43 (by decide +kernel) rfl) ?_
  obtain ⟨w13, qw13⟩ : ∃ z, z = wnew w12 82 := ⟨_, rfl⟩
  rw [← qw13]
  refine pfX5_31 rfl rfl rfl dX5_init_55 (by decide : am_obj 82 72 5 14) ?_
  obtain ⟨w14, qw14⟩ : ∃ z, z = wset w13 72 5 82 := ⟨_, rfl⟩
  rw [← qw14]
  refine WA.aload_n dX5_init_58 rfl (by decide) ?_
  refine WA.bipush dX5_init_59 ⟨by decide, by decide⟩ ?_
  refine WA.newarray2 (n2 := 83) (kc := 4) (ks := 5400) (N := 72) (c := 83) (K := 0) rfl rfl rfl (by decide) dX5_init_61 (by decide) rfl (by decide) rfl (by decide) (by decide) (am_mem 43 (by decide +kernel) rfl) ?_
  obtain ⟨w15, qw15⟩ : ∃ z, z = wnew w14 83 := ⟨_, rfl⟩
  rw [← qw15]
  refine pfX5_34 rfl rfl rfl dX5_init_63 (by decide : am_obj 83 72 5 14) ?_
  obtain ⟨w16, qw16⟩ : ∃ z, z = wset w15 72 6 83 := ⟨_, rfl⟩
  rw [← qw16]
  refine WA.aload_n dX5_init_66 rfl (by decide) ?_
  refine WA.sipush dX5_init_67 ⟨by decide, by decide⟩ ?_
  refine WA.newarray2 (n2 := 84) (kc := 3) (ks := 216) (N := 5184) (c := 84) (K := 0) rfl rfl rfl (by decide) dX5_init_70 (by decide) rfl (by decide) rfl (by decide) (by decide) (am_mem 43 (by decide +kernel) rfl) ?_
  obtain ⟨w17, qw17⟩ : ∃ z, z = wnew w16 84 := ⟨_, rfl⟩
  rw [← qw17]
  refine pfX5_37 rfl rfl rfl dX5_init_72 (by decide : am_obj 84 72 5 14) ?_
  obtain ⟨w18, qw18⟩ : ∃ z, z = wset w17 72 7 84 := ⟨_, rfl⟩
  rw [← qw18]
  refine WA.aload_n dX5_init_75 rfl (by decide) ?_
  refine WA.bipush dX5_init_76 ⟨by decide, by decide⟩ ?_
  refine WA.newarray2 (n2 := 85) (kc := 2) (ks := 144) (N := 72) (c := 85) (K := 0) rfl rfl rfl (by decide) dX5_init_78 (by decide) rfl (by decide) rfl (by decide) (by decide) (am_mem 43 (by decide +kernel) rfl) ?_
  obtain ⟨w19, qw19⟩ : ∃ z, z = wnew w18 85 := ⟨_, rfl⟩
  rw [← qw19]
  refine pfX5_40 rfl rfl rfl dX5_init_80 (by decide : am_obj 85 72 5 14) ?_
  obtain ⟨w20, qw20⟩ : ∃ z, z = wset w19 72 8 85 := ⟨_, rfl⟩
  rw [← qw20]
  refine WA.aload_n dX5_init_83 rfl (by decide) ?_
  refine WA.bipush dX5_init_84 ⟨by decide, by decide⟩ ?_
  refine WA.newarray2 (n2 := 86) (kc := 1) (ks := 72) (N := 72) (c := 86) (K := 0) rfl rfl rfl (by decide) dX5_init_86 (by decide) rfl (by decide) rfl (by decide) (by decide) (am_mem 43 (by decide +kernel) rfl) ?_
  obtain ⟨w21, qw21⟩ : ∃ z, z = wnew w20 86 := ⟨_, rfl⟩
  rw [← qw21]
  refine pfX5_43 rfl rfl rfl dX5_init_88 (by decide : am_obj 86 72 5 14) ?_
  obtain ⟨w22, qw22⟩ : ∃ z, z = wset w21 72 9 86 := ⟨_, rfl⟩
  rw [← qw22]
  refine WA.aload_n dX5_init_91 rfl (by decide) ?_
  refine WA.bipush dX5_init_92 ⟨by decide, by decide⟩ ?_
  refine WA.newarray2 (n2 := 87) (kc := 0) (ks := 0) (N := 72) (c := 87) (K := 0) rfl rfl rfl (by decide) dX5_init_94 (by decide) rfl (by decide) rfl (by decide) (by decide) (am_mem 43 (by decide +kernel) rfl) ?_
  obtain ⟨w23, qw23⟩ : ∃ z, z = wnew w22 87 := ⟨_, rfl⟩
  rw [← qw23]
  refine pfX5_46 rfl rfl rfl dX5_init_96 (by decide : am_obj 87 72 5 14) ?_
  obtain ⟨w24, qw24⟩ : ∃ z, z = wset w23 72 10 87 := ⟨_, rfl⟩
  rw [← qw24]
  refine WA.aload_n dX5_init_99 rfl (by decide) ?_
  refine WA.iconst dX5_init_100 ⟨by decide, by decide⟩ ?_
  refine pfX5_49 rfl dX5_init_101 (by decide : am_obj 87 72 5 14) (by decide) ?_
  obtain ⟨w25, qw25⟩ : ∃ z, z = wset w24 72 13 1 := ⟨_, rfl⟩
  rw [← qw25]
  refine WA.iconst dX5_init_104 ⟨by decide, by decide⟩ ?_
  refine WA.istore_n (als' := [some (.inr (.inr 72)), some (.inl 0)]) dX5_init_105 (Nat.le_of_ble_eq_true rfl) rfl ?_
  refine kl_72 (w0 := w25) (by simp [qw1, ow2, rw2, qw3, qw4, ow5, rw5, qw6, qw7, qw8, qw9, qw10, qw11, qw12, qw13, qw14, qw15, qw16, qw17, qw18, qw19, qw20, qw21, qw22, qw23, qw24, qw25, wset, wnew, w00, rowS, rowM, hz]) (by simp [qw1, ow2, rw2, qw3, qw4, ow5, rw5, qw6, qw7, qw8, qw9, qw10, qw11, qw12, qw13, qw14, qw15, qw16, qw17, qw18, qw19, qw20, qw21, qw22, qw23, qw24, qw25, wset, wnew, w00, rowS, rowM, hz]) (by simp [qw1, ow2, rw2, qw3, qw4, ow5, rw5, qw6, qw7, qw8, qw9, qw10, qw11, qw12, qw13, qw14, qw15, qw16, qw17, qw18, qw19, qw20, qw21, qw22, qw23, qw24, qw25, wset, wnew, w00, rowS, rowM, hz]) (fun w26 pw26 aw26 bw26 => ?_) 72 0 w25 rfl (fun c i _ _ => rfl) (fun i => by rw [if_neg (by omega)]) (fun i => by rw [if_neg (by omega)])
  refine h w26 ?_ ?_
  · intro c i hc
    rw [pw26 c i (by omega) (by omega)]
    rw [qw25, show wset w24 72 13 1 c i = w24 c i from if_neg (by omega)]
    rw [qw24, show wset w23 72 10 87 c i = w23 c i from if_neg (by omega)]
    rw [qw23, show wnew w22 87 c i = w22 c i from if_neg (by omega)]
    rw [qw22, show wset w21 72 9 86 c i = w21 c i from if_neg (by omega)]
    rw [qw21, show wnew w20 86 c i = w20 c i from if_neg (by omega)]
    rw [qw20, show wset w19 72 8 85 c i = w19 c i from if_neg (by omega)]
    rw [qw19, show wnew w18 85 c i = w18 c i from if_neg (by omega)]
    rw [qw18, show wset w17 72 7 84 c i = w17 c i from if_neg (by omega)]
    rw [qw17, show wnew w16 84 c i = w16 c i from if_neg (by omega)]
    rw [qw16, show wset w15 72 6 83 c i = w15 c i from if_neg (by omega)]
    rw [qw15, show wnew w14 83 c i = w14 c i from if_neg (by omega)]
    rw [qw14, show wset w13 72 5 82 c i = w13 c i from if_neg (by omega)]
    rw [qw13, show wnew w12 82 c i = w12 c i from if_neg (by omega)]
    rw [qw12, show wset w11 72 4 81 c i = w11 c i from if_neg (by omega)]
    rw [qw11, show wnew w10 81 c i = w10 c i from if_neg (by omega)]
    rw [qw10, show wset w9 72 3 80 c i = w9 c i from if_neg (by omega)]
    rw [qw9, show wnew w8 80 c i = w8 c i from if_neg (by omega)]
    rw [qw8, show wset w7 72 2 79 c i = w7 c i from if_neg (by omega)]
    rw [qw7, show wnew w6 79 c i = w6 c i from if_neg (by omega)]
    rw [qw6, show wset w5 72 1 76 c i = w5 c i from if_neg (by omega)]
    rw [ow5 c i (by omega)]
    rw [qw4, show wnew w3 76 c i = w3 c i from if_neg (by omega)]
    rw [qw3, show wset w2 72 0 73 c i = w2 c i from if_neg (by omega)]
    rw [ow2 c i (by omega)]
    rw [qw1, show wnew w 73 c i = w c i from if_neg (by omega)]
  · intro c i hc1 hc2
    have hc : (73 ≤ c ∧ c ≤ 75) ∨ (76 ≤ c ∧ c ≤ 77) ∨ c = 72 ∨ c = 78 ∨ c = 79 ∨ c = 80 ∨ c = 81 ∨ c = 82 ∨ c = 83 ∨ c = 84 ∨ c = 85 ∨ c = 86 ∨ c = 87 := by omega
    rcases hc with hc | hc | rfl | rfl | rfl | rfl | rfl | rfl | rfl | rfl | rfl | rfl | rfl
    · rw [pw26 c i (by omega) (by omega)]
      rw [qw25, show wset w24 72 13 1 c i = w24 c i from if_neg (by omega)]
      rw [qw24, show wset w23 72 10 87 c i = w23 c i from if_neg (by omega)]
      rw [qw23, show wnew w22 87 c i = w22 c i from if_neg (by omega)]
      rw [qw22, show wset w21 72 9 86 c i = w21 c i from if_neg (by omega)]
      rw [qw21, show wnew w20 86 c i = w20 c i from if_neg (by omega)]
      rw [qw20, show wset w19 72 8 85 c i = w19 c i from if_neg (by omega)]
      rw [qw19, show wnew w18 85 c i = w18 c i from if_neg (by omega)]
      rw [qw18, show wset w17 72 7 84 c i = w17 c i from if_neg (by omega)]
      rw [qw17, show wnew w16 84 c i = w16 c i from if_neg (by omega)]
      rw [qw16, show wset w15 72 6 83 c i = w15 c i from if_neg (by omega)]
      rw [qw15, show wnew w14 83 c i = w14 c i from if_neg (by omega)]
      rw [qw14, show wset w13 72 5 82 c i = w13 c i from if_neg (by omega)]
      rw [qw13, show wnew w12 82 c i = w12 c i from if_neg (by omega)]
      rw [qw12, show wset w11 72 4 81 c i = w11 c i from if_neg (by omega)]
      rw [qw11, show wnew w10 81 c i = w10 c i from if_neg (by omega)]
      rw [qw10, show wset w9 72 3 80 c i = w9 c i from if_neg (by omega)]
      rw [qw9, show wnew w8 80 c i = w8 c i from if_neg (by omega)]
      rw [qw8, show wset w7 72 2 79 c i = w7 c i from if_neg (by omega)]
      rw [qw7, show wnew w6 79 c i = w6 c i from if_neg (by omega)]
      rw [qw6, show wset w5 72 1 76 c i = w5 c i from if_neg (by omega)]
      rw [ow5 c i (by omega)]
      rw [qw4, show wnew w3 76 c i = w3 c i from if_neg (by omega)]
      rw [qw3, show wset w2 72 0 73 c i = w2 c i from if_neg (by omega)]
      exact rw2 c i (by omega) (by omega)
    · rw [pw26 c i (by omega) (by omega)]
      rw [qw25, show wset w24 72 13 1 c i = w24 c i from if_neg (by omega)]
      rw [qw24, show wset w23 72 10 87 c i = w23 c i from if_neg (by omega)]
      rw [qw23, show wnew w22 87 c i = w22 c i from if_neg (by omega)]
      rw [qw22, show wset w21 72 9 86 c i = w21 c i from if_neg (by omega)]
      rw [qw21, show wnew w20 86 c i = w20 c i from if_neg (by omega)]
      rw [qw20, show wset w19 72 8 85 c i = w19 c i from if_neg (by omega)]
      rw [qw19, show wnew w18 85 c i = w18 c i from if_neg (by omega)]
      rw [qw18, show wset w17 72 7 84 c i = w17 c i from if_neg (by omega)]
      rw [qw17, show wnew w16 84 c i = w16 c i from if_neg (by omega)]
      rw [qw16, show wset w15 72 6 83 c i = w15 c i from if_neg (by omega)]
      rw [qw15, show wnew w14 83 c i = w14 c i from if_neg (by omega)]
      rw [qw14, show wset w13 72 5 82 c i = w13 c i from if_neg (by omega)]
      rw [qw13, show wnew w12 82 c i = w12 c i from if_neg (by omega)]
      rw [qw12, show wset w11 72 4 81 c i = w11 c i from if_neg (by omega)]
      rw [qw11, show wnew w10 81 c i = w10 c i from if_neg (by omega)]
      rw [qw10, show wset w9 72 3 80 c i = w9 c i from if_neg (by omega)]
      rw [qw9, show wnew w8 80 c i = w8 c i from if_neg (by omega)]
      rw [qw8, show wset w7 72 2 79 c i = w7 c i from if_neg (by omega)]
      rw [qw7, show wnew w6 79 c i = w6 c i from if_neg (by omega)]
      rw [qw6, show wset w5 72 1 76 c i = w5 c i from if_neg (by omega)]
      exact (rw5 c i (by omega) (by omega)).trans (if_neg (by omega))
    · by_cases e0 : i = 0
      · subst e0
        simp [qw1, ow2, rw2, qw3, qw4, ow5, rw5, qw6, qw7, qw8, qw9, qw10, qw11, qw12, qw13, qw14, qw15, qw16, qw17, qw18, qw19, qw20, qw21, qw22, qw23, qw24, qw25, pw26, aw26, bw26, wset, wnew, w00, rowS, rowM, hz]
      by_cases e1 : i = 1
      · subst e1
        simp [qw1, ow2, rw2, qw3, qw4, ow5, rw5, qw6, qw7, qw8, qw9, qw10, qw11, qw12, qw13, qw14, qw15, qw16, qw17, qw18, qw19, qw20, qw21, qw22, qw23, qw24, qw25, pw26, aw26, bw26, wset, wnew, w00, rowS, rowM, hz]
      by_cases e2 : i = 2
      · subst e2
        simp [qw1, ow2, rw2, qw3, qw4, ow5, rw5, qw6, qw7, qw8, qw9, qw10, qw11, qw12, qw13, qw14, qw15, qw16, qw17, qw18, qw19, qw20, qw21, qw22, qw23, qw24, qw25, pw26, aw26, bw26, wset, wnew, w00, rowS, rowM, hz]
      by_cases e3 : i = 3
      · subst e3
        simp [qw1, ow2, rw2, qw3, qw4, ow5, rw5, qw6, qw7, qw8, qw9, qw10, qw11, qw12, qw13, qw14, qw15, qw16, qw17, qw18, qw19, qw20, qw21, qw22, qw23, qw24, qw25, pw26, aw26, bw26, wset, wnew, w00, rowS, rowM, hz]
      by_cases e4 : i = 4
      · subst e4
        simp [qw1, ow2, rw2, qw3, qw4, ow5, rw5, qw6, qw7, qw8, qw9, qw10, qw11, qw12, qw13, qw14, qw15, qw16, qw17, qw18, qw19, qw20, qw21, qw22, qw23, qw24, qw25, pw26, aw26, bw26, wset, wnew, w00, rowS, rowM, hz]
      by_cases e5 : i = 5
      · subst e5
        simp [qw1, ow2, rw2, qw3, qw4, ow5, rw5, qw6, qw7, qw8, qw9, qw10, qw11, qw12, qw13, qw14, qw15, qw16, qw17, qw18, qw19, qw20, qw21, qw22, qw23, qw24, qw25, pw26, aw26, bw26, wset, wnew, w00, rowS, rowM, hz]
      by_cases e6 : i = 6
      · subst e6
        simp [qw1, ow2, rw2, qw3, qw4, ow5, rw5, qw6, qw7, qw8, qw9, qw10, qw11, qw12, qw13, qw14, qw15, qw16, qw17, qw18, qw19, qw20, qw21, qw22, qw23, qw24, qw25, pw26, aw26, bw26, wset, wnew, w00, rowS, rowM, hz]
      by_cases e7 : i = 7
      · subst e7
        simp [qw1, ow2, rw2, qw3, qw4, ow5, rw5, qw6, qw7, qw8, qw9, qw10, qw11, qw12, qw13, qw14, qw15, qw16, qw17, qw18, qw19, qw20, qw21, qw22, qw23, qw24, qw25, pw26, aw26, bw26, wset, wnew, w00, rowS, rowM, hz]
      by_cases e8 : i = 8
      · subst e8
        simp [qw1, ow2, rw2, qw3, qw4, ow5, rw5, qw6, qw7, qw8, qw9, qw10, qw11, qw12, qw13, qw14, qw15, qw16, qw17, qw18, qw19, qw20, qw21, qw22, qw23, qw24, qw25, pw26, aw26, bw26, wset, wnew, w00, rowS, rowM, hz]
      by_cases e9 : i = 9
      · subst e9
        simp [qw1, ow2, rw2, qw3, qw4, ow5, rw5, qw6, qw7, qw8, qw9, qw10, qw11, qw12, qw13, qw14, qw15, qw16, qw17, qw18, qw19, qw20, qw21, qw22, qw23, qw24, qw25, pw26, aw26, bw26, wset, wnew, w00, rowS, rowM, hz]
      by_cases e10 : i = 10
      · subst e10
        simp [qw1, ow2, rw2, qw3, qw4, ow5, rw5, qw6, qw7, qw8, qw9, qw10, qw11, qw12, qw13, qw14, qw15, qw16, qw17, qw18, qw19, qw20, qw21, qw22, qw23, qw24, qw25, pw26, aw26, bw26, wset, wnew, w00, rowS, rowM, hz]
      by_cases e13 : i = 13
      · subst e13
        simp [qw1, ow2, rw2, qw3, qw4, ow5, rw5, qw6, qw7, qw8, qw9, qw10, qw11, qw12, qw13, qw14, qw15, qw16, qw17, qw18, qw19, qw20, qw21, qw22, qw23, qw24, qw25, pw26, aw26, bw26, wset, wnew, w00, rowS, rowM, hz]
      have g0 : ¬ (2 ≤ i ∧ i ≤ 10) := by omega
      simp [qw1, ow2, rw2, qw3, qw4, ow5, rw5, qw6, qw7, qw8, qw9, qw10, qw11, qw12, qw13, qw14, qw15, qw16, qw17, qw18, qw19, qw20, qw21, qw22, qw23, qw24, qw25, pw26, aw26, bw26, wset, wnew, w00, rowS, rowM, hz, g0, e0, e1, e2, e3, e4, e5, e6, e7, e8, e9, e10, e13]
    · simp [qw1, ow2, rw2, qw3, qw4, ow5, rw5, qw6, qw7, qw8, qw9, qw10, qw11, qw12, qw13, qw14, qw15, qw16, qw17, qw18, qw19, qw20, qw21, qw22, qw23, qw24, qw25, pw26, aw26, bw26, wset, wnew, w00, rowS, rowM, hz]
    · simp [qw1, ow2, rw2, qw3, qw4, ow5, rw5, qw6, qw7, qw8, qw9, qw10, qw11, qw12, qw13, qw14, qw15, qw16, qw17, qw18, qw19, qw20, qw21, qw22, qw23, qw24, qw25, pw26, aw26, bw26, wset, wnew, w00, rowS, rowM, hz]
    · simp [qw1, ow2, rw2, qw3, qw4, ow5, rw5, qw6, qw7, qw8, qw9, qw10, qw11, qw12, qw13, qw14, qw15, qw16, qw17, qw18, qw19, qw20, qw21, qw22, qw23, qw24, qw25, pw26, aw26, bw26, wset, wnew, w00, rowS, rowM, hz]
    · simp [qw1, ow2, rw2, qw3, qw4, ow5, rw5, qw6, qw7, qw8, qw9, qw10, qw11, qw12, qw13, qw14, qw15, qw16, qw17, qw18, qw19, qw20, qw21, qw22, qw23, qw24, qw25, pw26, aw26, bw26, wset, wnew, w00, rowS, rowM, hz]
    · simp [qw1, ow2, rw2, qw3, qw4, ow5, rw5, qw6, qw7, qw8, qw9, qw10, qw11, qw12, qw13, qw14, qw15, qw16, qw17, qw18, qw19, qw20, qw21, qw22, qw23, qw24, qw25, pw26, aw26, bw26, wset, wnew, w00, rowS, rowM, hz]
    · simp [qw1, ow2, rw2, qw3, qw4, ow5, rw5, qw6, qw7, qw8, qw9, qw10, qw11, qw12, qw13, qw14, qw15, qw16, qw17, qw18, qw19, qw20, qw21, qw22, qw23, qw24, qw25, pw26, aw26, bw26, wset, wnew, w00, rowS, rowM, hz]
    · simp [qw1, ow2, rw2, qw3, qw4, ow5, rw5, qw6, qw7, qw8, qw9, qw10, qw11, qw12, qw13, qw14, qw15, qw16, qw17, qw18, qw19, qw20, qw21, qw22, qw23, qw24, qw25, pw26, aw26, bw26, wset, wnew, w00, rowS, rowM, hz]
    · simp [qw1, ow2, rw2, qw3, qw4, ow5, rw5, qw6, qw7, qw8, qw9, qw10, qw11, qw12, qw13, qw14, qw15, qw16, qw17, qw18, qw19, qw20, qw21, qw22, qw23, qw24, qw25, pw26, aw26, bw26, wset, wnew, w00, rowS, rowM, hz]
    · simp [qw1, ow2, rw2, qw3, qw4, ow5, rw5, qw6, qw7, qw8, qw9, qw10, qw11, qw12, qw13, qw14, qw15, qw16, qw17, qw18, qw19, qw20, qw21, qw22, qw23, qw24, qw25, pw26, aw26, bw26, wset, wnew, w00, rowS, rowM, hz]
    · simp [qw1, ow2, rw2, qw3, qw4, ow5, rw5, qw6, qw7, qw8, qw9, qw10, qw11, qw12, qw13, qw14, qw15, qw16, qw17, qw18, qw19, qw20, qw21, qw22, qw23, qw24, qw25, pw26, aw26, bw26, wset, wnew, w00, rowS, rowM, hz]
theorem kl_88 {d : Nat} {w0 : Wd} {K : Wd → Prop} (h1 : w0 88 1 = 92) (h2 : w0 92 1 = 94) (h3 : w0 88 10 = 103) (h : ∀ w', (∀ c i, c ≠ 94 → c ≠ 103 → w' c i = w0 c i) → (∀ i, w' 94 i = if 0 ≤ i ∧ i < 72 then -1 else w0 94 i) → (∀ i, w' 103 i = if 0 ≤ i ∧ i < 72 then -1 else w0 103 i) → K w') :
    ∀ (t j : Nat) (w : Wd), t + j = 72 → (∀ c i, c ≠ 94 → c ≠ 103 → w c i = w0 c i) → (∀ i, w 94 i = if 0 ≤ i ∧ i < (j : Int) then -1 else w0 94 i) → (∀ i, w 103 i = if 0 ≤ i ∧ i < (j : Int) then -1 else w0 103 i) → WA false yX5_init cX5_init 2 none d 103 0 0 106 [some (.inr (.inr 88)), some (.inl (j : Int))] [] w (rV K) := by
  intro t
  induction t with
  | zero =>
    intro j w hj hp ha hb
    obtain rfl : j = 72 := by omega
    refine WA.iload_n dX5_init_106 rfl ?_
    refine WA.bipush dX5_init_107 ⟨by decide, by decide⟩ ?_
    refine WA.icmp_ge (tgt := 135) dX5_init_109 (by decide) (fun _ => ?_) (fun hc => absurd (by decide) hc)
    exact WA.vreturn dX5_init_135 ⟨rfl, h w hp ha hb⟩
  | succ t ih =>
    intro j w hj hp ha hb
    refine WA.iload_n dX5_init_106 rfl ?_
    refine WA.bipush dX5_init_107 ⟨by decide, by decide⟩ ?_
    refine WA.icmp_ge (tgt := 135) dX5_init_109 (by decide) (fun hc => absurd hc (by omega)) (fun _ => ?_)
    refine WA.aload_n dX5_init_112 rfl (by decide) ?_
    refine gfX5_18 rfl dX5_init_113 (by decide : am_obj 103 88 5 14) ?_
    refine WA.top (v2 := .inr (.inr 92)) (by rw [hp 88 1 (by decide) (by decide), h1]) ?_
    refine gfX5_53 rfl dX5_init_116 (by decide : am_obj 103 92 7 2) ?_
    refine WA.top (v2 := .inr (.inr 94)) (by rw [hp 92 1 (by decide) (by decide), h2]) ?_
    refine WA.iload_n dX5_init_119 rfl ?_
    refine WA.iconst dX5_init_120 ⟨by decide, by decide⟩ ?_
    refine WA.iastore dX5_init_121 (by decide : am_arr 103 94 0 72) (by omega) (by omega) ?_
    refine WA.aload_n dX5_init_122 rfl (by decide) ?_
    refine gfX5_46 rfl dX5_init_123 (by decide : am_obj 103 88 5 14) ?_
    refine WA.top (v2 := .inr (.inr 103)) (by rw [show wset w 94 (j : Int) (-1) 88 10 = w 88 10 from if_neg (by omega), hp 88 10 (by decide) (by decide), h3]) ?_
    refine WA.iload_n dX5_init_126 rfl ?_
    refine WA.iconst dX5_init_127 ⟨by decide, by decide⟩ ?_
    refine WA.iastore dX5_init_128 (by decide : am_arr 103 103 0 72) (by omega) (by omega) ?_
    refine WA.iinc (als' := [some (.inr (.inr 88)), some (.inl (((j + 1 : Nat)) : Int))]) dX5_init_129 rfl ⟨by omega, by omega⟩ rfl ?_
    refine WA.goto (tgt := 106) dX5_init_132 (by decide) ?_
    refine ih (j + 1) _ (by omega) (fun c i c1 c2 => ?_) (fun i => ?_) (fun i => ?_)
    · rw [show wset (wset w 94 (j : Int) (-1)) 103 (j : Int) (-1) c i = wset w 94 (j : Int) (-1) c i from if_neg (fun q => c2 q.1), show wset w 94 (j : Int) (-1) c i = w c i from if_neg (fun q => c1 q.1)]
      exact hp c i c1 c2
    · rw [show wset (wset w 94 (j : Int) (-1)) 103 (j : Int) (-1) 94 i = wset w 94 (j : Int) (-1) 94 i from if_neg (by omega)]
      unfold wset
      rw [ha i]
      by_cases e : i = (j : Int)
      · rw [if_pos ⟨rfl, e⟩, if_pos (by omega)]
      · rw [if_neg (fun q => e q.2)]
        by_cases e2 : 0 ≤ i ∧ i < (j : Int)
        · rw [if_pos e2, if_pos (by omega)]
        · rw [if_neg e2, if_neg (by omega)]
    · have e9 : ∀ i, wset w 94 (j : Int) (-1) 103 i = w 103 i := fun i => if_neg (by omega)
      show (if _ then _ else wset w 94 (j : Int) (-1) 103 i) = _
      rw [e9 i, hb i]
      by_cases e : i = (j : Int)
      · rw [if_pos ⟨rfl, e⟩, if_pos (by omega)]
      · rw [if_neg (fun q => e q.2)]
        by_cases e2 : 0 ≤ i ∧ i < (j : Int)
        · rw [if_pos e2, if_pos (by omega)]
        · rw [if_neg e2, if_neg (by omega)]
set_option maxRecDepth 10000 in
theorem kw_X5_88 {d : Nat} {w : Wd} {K : Wd → Prop} (hd : 2 ≤ d) (hz : ∀ i, w 88 i = 0) (h : ∀ w', (∀ c i, (c < 88 ∨ 103 < c) → w' c i = w c i) → (∀ c i, 88 ≤ c → c ≤ 103 → w' c i = w00 c i) → K w') : EvA false yX5_init cX5_init 2 none d 88 15 10228 [.inr (.inr 88)] w (rV K) := by
  refine EvA.of (by decide +kernel) (Nat.le_of_ble_eq_true rfl) ?_
  change WA false yX5_init cX5_init 2 none d 88 15 10228 0 [some (.inr (.inr 88)), none] [] w (rV K)
  refine WA.aload_n dX5_init_0 rfl (by decide) ?_
  refine WA.objInit dX5_init_1 (am_mem 49 (by decide +kernel) rfl) (am_mem 23 (by decide +kernel) rfl) (am_mem 24 (by decide +kernel) rfl) (by decide) (Nat.le_trans (by decide) hd) (Nat.le_of_ble_eq_true rfl) ?_
  refine WA.aload_n dX5_init_4 rfl (by decide) ?_
  refine WA.new2 (n2 := 89) (kc := 14) (ks := 10226) (N := 2) (ci := 7) (c := 89) rfl rfl rfl (by decide) dX5_init_5 (by decide) (by decide) rfl gin_X7 tyX7_ok (by decide) ⟨am_mem 50 (by decide +kernel) rfl, am_mem 51 (by decide +kernel) rfl, am_mem 4 (by decide +kernel) rfl⟩ ?_
  obtain ⟨w1, qw1⟩ : ∃ z, z = wnew w 89 := ⟨_, rfl⟩
  rw [← qw1]
  refine WA.dup dX5_init_8 rfl ?_
  refine WA.callIN0 (n2 := 91) (kc' := 2) (ks' := 2232) (kc := 12) (ks := 7994) (d' := 1) dX5_init_9 lkX5_11 rfl rfl rfl (by decide) (Nat.le_of_ble_eq_true rfl) (Nat.lt_of_lt_of_le (by decide) hd) (kw_X7_89 (K := (fun z : Wd => (∀ c i, (c < 89 ∨ 91 < c) → z c i = w1 c i) ∧ (∀ c i, 89 ≤ c → c ≤ 91 → z c i = w00 c i))) (Nat.le_refl _) (fun i => by simp [qw1, wset, wnew, w00, rowS, rowM, hz]) (fun _ o r => ⟨o, r⟩)) ?_
  rintro r w2 ⟨rfl, ow2, rw2⟩
  change WA _ _ _ _ _ _ _ _ _ _ _ [.inr (.inr 89), .inr (.inr 88)] _ _
  refine pfX5_12 rfl rfl rfl dX5_init_12 (by decide : am_obj 91 88 5 14) ?_
  obtain ⟨w3, qw3⟩ : ∃ z, z = wset w2 88 0 89 := ⟨_, rfl⟩
  rw [← qw3]
  refine WA.aload_n dX5_init_15 rfl (by decide) ?_
  refine WA.new2 (n2 := 92) (kc := 11) (ks := 7992) (N := 2) (ci := 7) (c := 92) rfl rfl rfl (by decide) dX5_init_16 (by decide) (by decide) rfl gin_X7 tyX7_ok (by decide) ⟨am_mem 50 (by decide +kernel) rfl, am_mem 51 (by decide +kernel) rfl, am_mem 4 (by decide +kernel) rfl⟩ ?_
  obtain ⟨w4, qw4⟩ : ∃ z, z = wnew w3 92 := ⟨_, rfl⟩
  rw [← qw4]
  refine WA.dup dX5_init_19 rfl ?_
  refine WA.callIN0 (n2 := 94) (kc' := 2) (ks' := 2232) (kc := 9) (ks := 5760) (d' := 1) dX5_init_20 lkX5_11 rfl rfl rfl (by decide) (Nat.le_of_ble_eq_true rfl) (Nat.lt_of_lt_of_le (by decide) hd) (kw_X7_92 (K := (fun z : Wd => (∀ c i, (c < 92 ∨ 94 < c) → z c i = w4 c i) ∧ (∀ c i, 92 ≤ c → c ≤ 94 → z c i = (if c = 94 then 0 else w00 c i)))) (Nat.le_refl _) (fun i => by simp [qw1, ow2, rw2, qw3, qw4, wset, wnew, w00, rowS, rowM, hz]) (fun _ o r => ⟨o, r⟩)) ?_
  rintro r w5 ⟨rfl, ow5, rw5⟩
  change WA _ _ _ _ _ _ _ _ _ _ _ [.inr (.inr 92), .inr (.inr 88)] _ _
  refine pfX5_18 rfl rfl rfl dX5_init_23 (by decide : am_obj 94 88 5 14) ?_
  obtain ⟨w6, qw6⟩ : ∃ z, z = wset w5 88 1 92 := ⟨_, rfl⟩
  rw [← qw6]
  refine WA.aload_n dX5_init_26 rfl (by decide) ?_
  refine WA.bipush dX5_init_27 ⟨by decide, by decide⟩ ?_
  refine WA.newarray2 (n2 := 95) (kc := 8) (ks := 5688) (N := 72) (c := 95) (K := 0) rfl rfl rfl (by decide) dX5_init_29 (by decide) rfl (by decide) rfl (by decide) (by decide) (am_mem 43 (by decide +kernel) rfl) ?_
  obtain ⟨w7, qw7⟩ : ∃ z, z = wnew w6 95 := ⟨_, rfl⟩
  rw [← qw7]
  refine pfX5_21 rfl rfl rfl dX5_init_31 (by decide : am_obj 95 88 5 14) ?_
  obtain ⟨w8, qw8⟩ : ∃ z, z = wset w7 88 2 95 := ⟨_, rfl⟩
  rw [← qw8]
  refine WA.aload_n dX5_init_34 rfl (by decide) ?_
  refine WA.bipush dX5_init_35 ⟨by decide, by decide⟩ ?_
  refine WA.newarray2 (n2 := 96) (kc := 7) (ks := 5616) (N := 72) (c := 96) (K := 0) rfl rfl rfl (by decide) dX5_init_37 (by decide) rfl (by decide) rfl (by decide) (by decide) (am_mem 43 (by decide +kernel) rfl) ?_
  obtain ⟨w9, qw9⟩ : ∃ z, z = wnew w8 96 := ⟨_, rfl⟩
  rw [← qw9]
  refine pfX5_25 rfl rfl rfl dX5_init_39 (by decide : am_obj 96 88 5 14) ?_
  obtain ⟨w10, qw10⟩ : ∃ z, z = wset w9 88 3 96 := ⟨_, rfl⟩
  rw [← qw10]
  refine WA.aload_n dX5_init_42 rfl (by decide) ?_
  refine WA.bipush dX5_init_43 ⟨by decide, by decide⟩ ?_
  refine WA.newarray2 (n2 := 97) (kc := 6) (ks := 5544) (N := 72) (c := 97) (K := 0) rfl rfl rfl (by decide) dX5_init_45 (by decide) rfl (by decide) rfl (by decide) (by decide) (am_mem 43 (by decide +kernel) rfl) ?_
  obtain ⟨w11, qw11⟩ : ∃ z, z = wnew w10 97 := ⟨_, rfl⟩
  rw [← qw11]
  refine pfX5_28 rfl rfl rfl dX5_init_47 (by decide : am_obj 97 88 5 14) ?_
  obtain ⟨w12, qw12⟩ : ∃ z, z = wset w11 88 4 97 := ⟨_, rfl⟩
  rw [← qw12]
  refine WA.aload_n dX5_init_50 rfl (by decide) ?_
  refine WA.bipush dX5_init_51 ⟨by decide, by decide⟩ ?_
  refine WA.newarray2 (n2 := 98) (kc := 5) (ks := 5472) (N := 72) (c := 98) (K := 0) rfl rfl rfl (by decide) dX5_init_53 (by decide) rfl (by decide) rfl (by decide) (by decide) (am_mem 43 (by decide +kernel) rfl) ?_
  obtain ⟨w13, qw13⟩ : ∃ z, z = wnew w12 98 := ⟨_, rfl⟩
  rw [← qw13]
  refine pfX5_31 rfl rfl rfl dX5_init_55 (by decide : am_obj 98 88 5 14) ?_
  obtain ⟨w14, qw14⟩ : ∃ z, z = wset w13 88 5 98 := ⟨_, rfl⟩
  rw [← qw14]
  refine WA.aload_n dX5_init_58 rfl (by decide) ?_
  refine WA.bipush dX5_init_59 ⟨by decide, by decide⟩ ?_
  refine WA.newarray2 (n2 := 99) (kc := 4) (ks := 5400) (N := 72) (c := 99) (K := 0) rfl rfl rfl (by decide) dX5_init_61 (by decide) rfl (by decide) rfl (by decide) (by decide) (am_mem 43 (by decide +kernel) rfl) ?_
  obtain ⟨w15, qw15⟩ : ∃ z, z = wnew w14 99 := ⟨_, rfl⟩
  rw [← qw15]
  refine pfX5_34 rfl rfl rfl dX5_init_63 (by decide : am_obj 99 88 5 14) ?_
  obtain ⟨w16, qw16⟩ : ∃ z, z = wset w15 88 6 99 := ⟨_, rfl⟩
  rw [← qw16]
  refine WA.aload_n dX5_init_66 rfl (by decide) ?_
  refine WA.sipush dX5_init_67 ⟨by decide, by decide⟩ ?_
  refine WA.newarray2 (n2 := 100) (kc := 3) (ks := 216) (N := 5184) (c := 100) (K := 0) rfl rfl rfl (by decide) dX5_init_70 (by decide) rfl (by decide) rfl (by decide) (by decide) (am_mem 43 (by decide +kernel) rfl) ?_
  obtain ⟨w17, qw17⟩ : ∃ z, z = wnew w16 100 := ⟨_, rfl⟩
  rw [← qw17]
  refine pfX5_37 rfl rfl rfl dX5_init_72 (by decide : am_obj 100 88 5 14) ?_
  obtain ⟨w18, qw18⟩ : ∃ z, z = wset w17 88 7 100 := ⟨_, rfl⟩
  rw [← qw18]
  refine WA.aload_n dX5_init_75 rfl (by decide) ?_
  refine WA.bipush dX5_init_76 ⟨by decide, by decide⟩ ?_
  refine WA.newarray2 (n2 := 101) (kc := 2) (ks := 144) (N := 72) (c := 101) (K := 0) rfl rfl rfl (by decide) dX5_init_78 (by decide) rfl (by decide) rfl (by decide) (by decide) (am_mem 43 (by decide +kernel) rfl) ?_
  obtain ⟨w19, qw19⟩ : ∃ z, z = wnew w18 101 := ⟨_, rfl⟩
  rw [← qw19]
  refine pfX5_40 rfl rfl rfl dX5_init_80 (by decide : am_obj 101 88 5 14) ?_
  obtain ⟨w20, qw20⟩ : ∃ z, z = wset w19 88 8 101 := ⟨_, rfl⟩
  rw [← qw20]
  refine WA.aload_n dX5_init_83 rfl (by decide) ?_
  refine WA.bipush dX5_init_84 ⟨by decide, by decide⟩ ?_
  refine WA.newarray2 (n2 := 102) (kc := 1) (ks := 72) (N := 72) (c := 102) (K := 0) rfl rfl rfl (by decide) dX5_init_86 (by decide) rfl (by decide) rfl (by decide) (by decide) (am_mem 43 (by decide +kernel) rfl) ?_
  obtain ⟨w21, qw21⟩ : ∃ z, z = wnew w20 102 := ⟨_, rfl⟩
  rw [← qw21]
  refine pfX5_43 rfl rfl rfl dX5_init_88 (by decide : am_obj 102 88 5 14) ?_
  obtain ⟨w22, qw22⟩ : ∃ z, z = wset w21 88 9 102 := ⟨_, rfl⟩
  rw [← qw22]
  refine WA.aload_n dX5_init_91 rfl (by decide) ?_
  refine WA.bipush dX5_init_92 ⟨by decide, by decide⟩ ?_
  refine WA.newarray2 (n2 := 103) (kc := 0) (ks := 0) (N := 72) (c := 103) (K := 0) rfl rfl rfl (by decide) dX5_init_94 (by decide) rfl (by decide) rfl (by decide) (by decide) (am_mem 43 (by decide +kernel) rfl) ?_
  obtain ⟨w23, qw23⟩ : ∃ z, z = wnew w22 103 := ⟨_, rfl⟩
  rw [← qw23]
  refine pfX5_46 rfl rfl rfl dX5_init_96 (by decide : am_obj 103 88 5 14) ?_
  obtain ⟨w24, qw24⟩ : ∃ z, z = wset w23 88 10 103 := ⟨_, rfl⟩
  rw [← qw24]
  refine WA.aload_n dX5_init_99 rfl (by decide) ?_
  refine WA.iconst dX5_init_100 ⟨by decide, by decide⟩ ?_
  refine pfX5_49 rfl dX5_init_101 (by decide : am_obj 103 88 5 14) (by decide) ?_
  obtain ⟨w25, qw25⟩ : ∃ z, z = wset w24 88 13 1 := ⟨_, rfl⟩
  rw [← qw25]
  refine WA.iconst dX5_init_104 ⟨by decide, by decide⟩ ?_
  refine WA.istore_n (als' := [some (.inr (.inr 88)), some (.inl 0)]) dX5_init_105 (Nat.le_of_ble_eq_true rfl) rfl ?_
  refine kl_88 (w0 := w25) (by simp [qw1, ow2, rw2, qw3, qw4, ow5, rw5, qw6, qw7, qw8, qw9, qw10, qw11, qw12, qw13, qw14, qw15, qw16, qw17, qw18, qw19, qw20, qw21, qw22, qw23, qw24, qw25, wset, wnew, w00, rowS, rowM, hz]) (by simp [qw1, ow2, rw2, qw3, qw4, ow5, rw5, qw6, qw7, qw8, qw9, qw10, qw11, qw12, qw13, qw14, qw15, qw16, qw17, qw18, qw19, qw20, qw21, qw22, qw23, qw24, qw25, wset, wnew, w00, rowS, rowM, hz]) (by simp [qw1, ow2, rw2, qw3, qw4, ow5, rw5, qw6, qw7, qw8, qw9, qw10, qw11, qw12, qw13, qw14, qw15, qw16, qw17, qw18, qw19, qw20, qw21, qw22, qw23, qw24, qw25, wset, wnew, w00, rowS, rowM, hz]) (fun w26 pw26 aw26 bw26 => ?_) 72 0 w25 rfl (fun c i _ _ => rfl) (fun i => by rw [if_neg (by omega)]) (fun i => by rw [if_neg (by omega)])
  refine h w26 ?_ ?_
  · intro c i hc
    rw [pw26 c i (by omega) (by omega)]
    rw [qw25, show wset w24 88 13 1 c i = w24 c i from if_neg (by omega)]
    rw [qw24, show wset w23 88 10 103 c i = w23 c i from if_neg (by omega)]
    rw [qw23, show wnew w22 103 c i = w22 c i from if_neg (by omega)]
    rw [qw22, show wset w21 88 9 102 c i = w21 c i from if_neg (by omega)]
    rw [qw21, show wnew w20 102 c i = w20 c i from if_neg (by omega)]
    rw [qw20, show wset w19 88 8 101 c i = w19 c i from if_neg (by omega)]
    rw [qw19, show wnew w18 101 c i = w18 c i from if_neg (by omega)]
    rw [qw18, show wset w17 88 7 100 c i = w17 c i from if_neg (by omega)]
    rw [qw17, show wnew w16 100 c i = w16 c i from if_neg (by omega)]
    rw [qw16, show wset w15 88 6 99 c i = w15 c i from if_neg (by omega)]
    rw [qw15, show wnew w14 99 c i = w14 c i from if_neg (by omega)]
    rw [qw14, show wset w13 88 5 98 c i = w13 c i from if_neg (by omega)]
    rw [qw13, show wnew w12 98 c i = w12 c i from if_neg (by omega)]
    rw [qw12, show wset w11 88 4 97 c i = w11 c i from if_neg (by omega)]
    rw [qw11, show wnew w10 97 c i = w10 c i from if_neg (by omega)]
    rw [qw10, show wset w9 88 3 96 c i = w9 c i from if_neg (by omega)]
    rw [qw9, show wnew w8 96 c i = w8 c i from if_neg (by omega)]
    rw [qw8, show wset w7 88 2 95 c i = w7 c i from if_neg (by omega)]
    rw [qw7, show wnew w6 95 c i = w6 c i from if_neg (by omega)]
    rw [qw6, show wset w5 88 1 92 c i = w5 c i from if_neg (by omega)]
    rw [ow5 c i (by omega)]
    rw [qw4, show wnew w3 92 c i = w3 c i from if_neg (by omega)]
    rw [qw3, show wset w2 88 0 89 c i = w2 c i from if_neg (by omega)]
    rw [ow2 c i (by omega)]
    rw [qw1, show wnew w 89 c i = w c i from if_neg (by omega)]
  · intro c i hc1 hc2
    have hc : (89 ≤ c ∧ c ≤ 91) ∨ (92 ≤ c ∧ c ≤ 93) ∨ c = 88 ∨ c = 94 ∨ c = 95 ∨ c = 96 ∨ c = 97 ∨ c = 98 ∨ c = 99 ∨ c = 100 ∨ c = 101 ∨ c = 102 ∨ c = 103 := by omega
    rcases hc with hc | hc | rfl | rfl | rfl | rfl | rfl | rfl | rfl | rfl | rfl | rfl | rfl
    · rw [pw26 c i (by omega) (by omega)]
      rw [qw25, show wset w24 88 13 1 c i = w24 c i from if_neg (by omega)]
      rw [qw24, show wset w23 88 10 103 c i = w23 c i from if_neg (by omega)]
      rw [qw23, show wnew w22 103 c i = w22 c i from if_neg (by omega)]
      rw [qw22, show wset w21 88 9 102 c i = w21 c i from if_neg (by omega)]
      rw [qw21, show wnew w20 102 c i = w20 c i from if_neg (by omega)]
      rw [qw20, show wset w19 88 8 101 c i = w19 c i from if_neg (by omega)]
      rw [qw19, show wnew w18 101 c i = w18 c i from if_neg (by omega)]
      rw [qw18, show wset w17 88 7 100 c i = w17 c i from if_neg (by omega)]
      rw [qw17, show wnew w16 100 c i = w16 c i from if_neg (by omega)]
      rw [qw16, show wset w15 88 6 99 c i = w15 c i from if_neg (by omega)]
      rw [qw15, show wnew w14 99 c i = w14 c i from if_neg (by omega)]
      rw [qw14, show wset w13 88 5 98 c i = w13 c i from if_neg (by omega)]
      rw [qw13, show wnew w12 98 c i = w12 c i from if_neg (by omega)]
      rw [qw12, show wset w11 88 4 97 c i = w11 c i from if_neg (by omega)]
      rw [qw11, show wnew w10 97 c i = w10 c i from if_neg (by omega)]
      rw [qw10, show wset w9 88 3 96 c i = w9 c i from if_neg (by omega)]
      rw [qw9, show wnew w8 96 c i = w8 c i from if_neg (by omega)]
      rw [qw8, show wset w7 88 2 95 c i = w7 c i from if_neg (by omega)]
      rw [qw7, show wnew w6 95 c i = w6 c i from if_neg (by omega)]
      rw [qw6, show wset w5 88 1 92 c i = w5 c i from if_neg (by omega)]
      rw [ow5 c i (by omega)]
      rw [qw4, show wnew w3 92 c i = w3 c i from if_neg (by omega)]
      rw [qw3, show wset w2 88 0 89 c i = w2 c i from if_neg (by omega)]
      exact rw2 c i (by omega) (by omega)
    · rw [pw26 c i (by omega) (by omega)]
      rw [qw25, show wset w24 88 13 1 c i = w24 c i from if_neg (by omega)]
      rw [qw24, show wset w23 88 10 103 c i = w23 c i from if_neg (by omega)]
      rw [qw23, show wnew w22 103 c i = w22 c i from if_neg (by omega)]
      rw [qw22, show wset w21 88 9 102 c i = w21 c i from if_neg (by omega)]
      rw [qw21, show wnew w20 102 c i = w20 c i from if_neg (by omega)]
      rw [qw20, show wset w19 88 8 101 c i = w19 c i from if_neg (by omega)]
      rw [qw19, show wnew w18 101 c i = w18 c i from if_neg (by omega)]
      rw [qw18, show wset w17 88 7 100 c i = w17 c i from if_neg (by omega)]
      rw [qw17, show wnew w16 100 c i = w16 c i from if_neg (by omega)]
      rw [qw16, show wset w15 88 6 99 c i = w15 c i from if_neg (by omega)]
      rw [qw15, show wnew w14 99 c i = w14 c i from if_neg (by omega)]
      rw [qw14, show wset w13 88 5 98 c i = w13 c i from if_neg (by omega)]
      rw [qw13, show wnew w12 98 c i = w12 c i from if_neg (by omega)]
      rw [qw12, show wset w11 88 4 97 c i = w11 c i from if_neg (by omega)]
      rw [qw11, show wnew w10 97 c i = w10 c i from if_neg (by omega)]
      rw [qw10, show wset w9 88 3 96 c i = w9 c i from if_neg (by omega)]
      rw [qw9, show wnew w8 96 c i = w8 c i from if_neg (by omega)]
      rw [qw8, show wset w7 88 2 95 c i = w7 c i from if_neg (by omega)]
      rw [qw7, show wnew w6 95 c i = w6 c i from if_neg (by omega)]
      rw [qw6, show wset w5 88 1 92 c i = w5 c i from if_neg (by omega)]
      exact (rw5 c i (by omega) (by omega)).trans (if_neg (by omega))
    · by_cases e0 : i = 0
      · subst e0
        simp [qw1, ow2, rw2, qw3, qw4, ow5, rw5, qw6, qw7, qw8, qw9, qw10, qw11, qw12, qw13, qw14, qw15, qw16, qw17, qw18, qw19, qw20, qw21, qw22, qw23, qw24, qw25, pw26, aw26, bw26, wset, wnew, w00, rowS, rowM, hz]
      by_cases e1 : i = 1
      · subst e1
        simp [qw1, ow2, rw2, qw3, qw4, ow5, rw5, qw6, qw7, qw8, qw9, qw10, qw11, qw12, qw13, qw14, qw15, qw16, qw17, qw18, qw19, qw20, qw21, qw22, qw23, qw24, qw25, pw26, aw26, bw26, wset, wnew, w00, rowS, rowM, hz]
      by_cases e2 : i = 2
      · subst e2
        simp [qw1, ow2, rw2, qw3, qw4, ow5, rw5, qw6, qw7, qw8, qw9, qw10, qw11, qw12, qw13, qw14, qw15, qw16, qw17, qw18, qw19, qw20, qw21, qw22, qw23, qw24, qw25, pw26, aw26, bw26, wset, wnew, w00, rowS, rowM, hz]
      by_cases e3 : i = 3
      · subst e3
        simp [qw1, ow2, rw2, qw3, qw4, ow5, rw5, qw6, qw7, qw8, qw9, qw10, qw11, qw12, qw13, qw14, qw15, qw16, qw17, qw18, qw19, qw20, qw21, qw22, qw23, qw24, qw25, pw26, aw26, bw26, wset, wnew, w00, rowS, rowM, hz]
      by_cases e4 : i = 4
      · subst e4
        simp [qw1, ow2, rw2, qw3, qw4, ow5, rw5, qw6, qw7, qw8, qw9, qw10, qw11, qw12, qw13, qw14, qw15, qw16, qw17, qw18, qw19, qw20, qw21, qw22, qw23, qw24, qw25, pw26, aw26, bw26, wset, wnew, w00, rowS, rowM, hz]
      by_cases e5 : i = 5
      · subst e5
        simp [qw1, ow2, rw2, qw3, qw4, ow5, rw5, qw6, qw7, qw8, qw9, qw10, qw11, qw12, qw13, qw14, qw15, qw16, qw17, qw18, qw19, qw20, qw21, qw22, qw23, qw24, qw25, pw26, aw26, bw26, wset, wnew, w00, rowS, rowM, hz]
      by_cases e6 : i = 6
      · subst e6
        simp [qw1, ow2, rw2, qw3, qw4, ow5, rw5, qw6, qw7, qw8, qw9, qw10, qw11, qw12, qw13, qw14, qw15, qw16, qw17, qw18, qw19, qw20, qw21, qw22, qw23, qw24, qw25, pw26, aw26, bw26, wset, wnew, w00, rowS, rowM, hz]
      by_cases e7 : i = 7
      · subst e7
        simp [qw1, ow2, rw2, qw3, qw4, ow5, rw5, qw6, qw7, qw8, qw9, qw10, qw11, qw12, qw13, qw14, qw15, qw16, qw17, qw18, qw19, qw20, qw21, qw22, qw23, qw24, qw25, pw26, aw26, bw26, wset, wnew, w00, rowS, rowM, hz]
      by_cases e8 : i = 8
      · subst e8
        simp [qw1, ow2, rw2, qw3, qw4, ow5, rw5, qw6, qw7, qw8, qw9, qw10, qw11, qw12, qw13, qw14, qw15, qw16, qw17, qw18, qw19, qw20, qw21, qw22, qw23, qw24, qw25, pw26, aw26, bw26, wset, wnew, w00, rowS, rowM, hz]
      by_cases e9 : i = 9
      · subst e9
        simp [qw1, ow2, rw2, qw3, qw4, ow5, rw5, qw6, qw7, qw8, qw9, qw10, qw11, qw12, qw13, qw14, qw15, qw16, qw17, qw18, qw19, qw20, qw21, qw22, qw23, qw24, qw25, pw26, aw26, bw26, wset, wnew, w00, rowS, rowM, hz]
      by_cases e10 : i = 10
      · subst e10
        simp [qw1, ow2, rw2, qw3, qw4, ow5, rw5, qw6, qw7, qw8, qw9, qw10, qw11, qw12, qw13, qw14, qw15, qw16, qw17, qw18, qw19, qw20, qw21, qw22, qw23, qw24, qw25, pw26, aw26, bw26, wset, wnew, w00, rowS, rowM, hz]
      by_cases e13 : i = 13
      · subst e13
        simp [qw1, ow2, rw2, qw3, qw4, ow5, rw5, qw6, qw7, qw8, qw9, qw10, qw11, qw12, qw13, qw14, qw15, qw16, qw17, qw18, qw19, qw20, qw21, qw22, qw23, qw24, qw25, pw26, aw26, bw26, wset, wnew, w00, rowS, rowM, hz]
      have g0 : ¬ (2 ≤ i ∧ i ≤ 10) := by omega
      simp [qw1, ow2, rw2, qw3, qw4, ow5, rw5, qw6, qw7, qw8, qw9, qw10, qw11, qw12, qw13, qw14, qw15, qw16, qw17, qw18, qw19, qw20, qw21, qw22, qw23, qw24, qw25, pw26, aw26, bw26, wset, wnew, w00, rowS, rowM, hz, g0, e0, e1, e2, e3, e4, e5, e6, e7, e8, e9, e10, e13]
    · simp [qw1, ow2, rw2, qw3, qw4, ow5, rw5, qw6, qw7, qw8, qw9, qw10, qw11, qw12, qw13, qw14, qw15, qw16, qw17, qw18, qw19, qw20, qw21, qw22, qw23, qw24, qw25, pw26, aw26, bw26, wset, wnew, w00, rowS, rowM, hz]
    · simp [qw1, ow2, rw2, qw3, qw4, ow5, rw5, qw6, qw7, qw8, qw9, qw10, qw11, qw12, qw13, qw14, qw15, qw16, qw17, qw18, qw19, qw20, qw21, qw22, qw23, qw24, qw25, pw26, aw26, bw26, wset, wnew, w00, rowS, rowM, hz]
    · simp [qw1, ow2, rw2, qw3, qw4, ow5, rw5, qw6, qw7, qw8, qw9, qw10, qw11, qw12, qw13, qw14, qw15, qw16, qw17, qw18, qw19, qw20, qw21, qw22, qw23, qw24, qw25, pw26, aw26, bw26, wset, wnew, w00, rowS, rowM, hz]
    · simp [qw1, ow2, rw2, qw3, qw4, ow5, rw5, qw6, qw7, qw8, qw9, qw10, qw11, qw12, qw13, qw14, qw15, qw16, qw17, qw18, qw19, qw20, qw21, qw22, qw23, qw24, qw25, pw26, aw26, bw26, wset, wnew, w00, rowS, rowM, hz]
    · simp [qw1, ow2, rw2, qw3, qw4, ow5, rw5, qw6, qw7, qw8, qw9, qw10, qw11, qw12, qw13, qw14, qw15, qw16, qw17, qw18, qw19, qw20, qw21, qw22, qw23, qw24, qw25, pw26, aw26, bw26, wset, wnew, w00, rowS, rowM, hz]
    · simp [qw1, ow2, rw2, qw3, qw4, ow5, rw5, qw6, qw7, qw8, qw9, qw10, qw11, qw12, qw13, qw14, qw15, qw16, qw17, qw18, qw19, qw20, qw21, qw22, qw23, qw24, qw25, pw26, aw26, bw26, wset, wnew, w00, rowS, rowM, hz]
    · simp [qw1, ow2, rw2, qw3, qw4, ow5, rw5, qw6, qw7, qw8, qw9, qw10, qw11, qw12, qw13, qw14, qw15, qw16, qw17, qw18, qw19, qw20, qw21, qw22, qw23, qw24, qw25, pw26, aw26, bw26, wset, wnew, w00, rowS, rowM, hz]
    · simp [qw1, ow2, rw2, qw3, qw4, ow5, rw5, qw6, qw7, qw8, qw9, qw10, qw11, qw12, qw13, qw14, qw15, qw16, qw17, qw18, qw19, qw20, qw21, qw22, qw23, qw24, qw25, pw26, aw26, bw26, wset, wnew, w00, rowS, rowM, hz]
    · simp [qw1, ow2, rw2, qw3, qw4, ow5, rw5, qw6, qw7, qw8, qw9, qw10, qw11, qw12, qw13, qw14, qw15, qw16, qw17, qw18, qw19, qw20, qw21, qw22, qw23, qw24, qw25, pw26, aw26, bw26, wset, wnew, w00, rowS, rowM, hz]
    · simp [qw1, ow2, rw2, qw3, qw4, ow5, rw5, qw6, qw7, qw8, qw9, qw10, qw11, qw12, qw13, qw14, qw15, qw16, qw17, qw18, qw19, qw20, qw21, qw22, qw23, qw24, qw25, pw26, aw26, bw26, wset, wnew, w00, rowS, rowM, hz]
set_option maxRecDepth 10000 in
theorem kw_X4_38 {d : Nat} {w : Wd} {K : Wd → Prop} (hd : 3 ≤ d) (hz : ∀ i, w 38 i = 0) (h : ∀ w', (∀ c i, (c < 38 ∨ 103 < c) → w' c i = w c i) → (∀ c i, 38 ≤ c → c ≤ 103 → w' c i = w00 c i) → K w') : EvA false yX4_init cX4_init 2 none d 38 65 40972 [.inr (.inr 38)] w (rV K) := by
  refine EvA.of (by decide +kernel) (Nat.le_of_ble_eq_true rfl) ?_
  change WA false yX4_init cX4_init 2 none d 38 65 40972 0 [some (.inr (.inr 38)), none] [] w (rV K)
  refine WA.aload_n dX4_init_0 rfl (by decide) ?_
  refine WA.objInit dX4_init_1 (am_mem 139 (by decide +kernel) rfl) (am_mem 23 (by decide +kernel) rfl) (am_mem 24 (by decide +kernel) rfl) (by decide) (Nat.le_trans (by decide) hd) (Nat.le_of_ble_eq_true rfl) ?_
  refine WA.aload_n dX4_init_4 rfl (by decide) ?_
  refine WA.iconst dX4_init_5 ⟨by decide, by decide⟩ ?_
  refine WA.anewarray2 (n2 := 39) (kc := 64) (ks := 40968) (N := 4) (c := 39) rfl rfl rfl (by decide) dX4_init_6 (by decide) rfl (by decide) (by decide) (am_mem 140 (by decide +kernel) rfl) ?_
  obtain ⟨w1, qw1⟩ : ∃ z, z = wnew w 39 := ⟨_, rfl⟩
  rw [← qw1]
  refine pfX4_11 rfl rfl rfl dX4_init_9 (by decide : am_obj 39 38 4 2) ?_
  obtain ⟨w2, qw2⟩ : ∃ z, z = wset w1 38 0 39 := ⟨_, rfl⟩
  rw [← qw2]
  refine WA.iconst dX4_init_12 ⟨by decide, by decide⟩ ?_
  refine WA.istore_n (als' := [some (.inr (.inr 38)), some (.inl 0)]) dX4_init_13 (Nat.le_of_ble_eq_true rfl) rfl ?_
  refine WA.iload_n dX4_init_14 rfl ?_
  refine WA.iconst dX4_init_15 ⟨by decide, by decide⟩ ?_
  refine WA.icmp_ge (tgt := 38) dX4_init_16 (by decide) (fun hc => absurd hc (by decide)) (fun _ => ?_)
  refine WA.aload_n dX4_init_19 rfl (by decide) ?_
  refine gfX4_11 rfl dX4_init_20 (by decide : am_obj 39 38 4 2) ?_
  refine WA.top (v2 := .inr (.inr 39)) (by rw [show w2 38 0 = 39 from (by simp [qw1, qw2, wset, wnew, w00, rowS, rowM, hz])]) ?_
  refine WA.iload_n dX4_init_23 rfl ?_
  refine WA.new2 (n2 := 40) (kc := 63) (ks := 40954) (N := 14) (ci := 5) (c := 40) rfl rfl rfl (by decide) dX4_init_24 (by decide) (by decide) rfl gin_X5 tyX5_ok (by decide) ⟨am_mem 140 (by decide +kernel) rfl, am_mem 45 (by decide +kernel) rfl, am_mem 3 (by decide +kernel) rfl⟩ ?_
  obtain ⟨w3, qw3⟩ : ∃ z, z = wnew w2 40 := ⟨_, rfl⟩
  rw [← qw3]
  refine WA.dup dX4_init_27 rfl ?_
  refine WA.callI0 (n2 := 55) (kc' := 15) (ks' := 10228) (kc := 48) (ks := 30726) (d' := 2) dX4_init_28 lkX4_17 rfl rfl rfl (by decide) (Nat.le_of_ble_eq_true rfl) (Nat.lt_of_lt_of_le (by decide) hd) (kw_X5_40 (K := (fun z : Wd => (∀ c i, (c < 40 ∨ 55 < c) → z c i = w3 c i) ∧ (∀ c i, 40 ≤ c → c ≤ 55 → z c i = w00 c i))) (Nat.le_refl _) (fun i => by simp [qw1, qw2, qw3, wset, wnew, w00, rowS, rowM, hz]) (fun _ o r => ⟨o, r⟩)) ?_
  rintro r w4 ⟨rfl, ow4, rw4⟩
  change WA _ _ _ _ _ _ _ _ _ _ _ [.inr (.inr 40), .inl 0, .inr (.inr 39)] _ _
  refine WA.aastore dX4_init_31 (by decide : am_arr 55 39 3 4) (by decide) (by decide) (by decide : am_obj 55 40 5 14) ?_
  obtain ⟨w5, qw5⟩ : ∃ z, z = wset w4 39 0 40 := ⟨_, rfl⟩
  rw [← qw5]
  refine WA.iinc (als' := [some (.inr (.inr 38)), some (.inl 1)]) dX4_init_32 rfl ⟨by decide, by decide⟩ rfl ?_
  refine WA.goto (tgt := 14) dX4_init_35 (by decide) ?_
  refine WA.iload_n dX4_init_14 rfl ?_
  refine WA.iconst dX4_init_15 ⟨by decide, by decide⟩ ?_
  refine WA.icmp_ge (tgt := 38) dX4_init_16 (by decide) (fun hc => absurd hc (by decide)) (fun _ => ?_)
  refine WA.aload_n dX4_init_19 rfl (by decide) ?_
  refine gfX4_11 rfl dX4_init_20 (by decide : am_obj 55 38 4 2) ?_
  refine WA.top (v2 := .inr (.inr 39)) (by rw [show w5 38 0 = 39 from (by simp [qw1, qw2, qw3, ow4, rw4, qw5, wset, wnew, w00, rowS, rowM, hz])]) ?_
  refine WA.iload_n dX4_init_23 rfl ?_
  refine WA.new2 (n2 := 56) (kc := 47) (ks := 30712) (N := 14) (ci := 5) (c := 56) rfl rfl rfl (by decide) dX4_init_24 (by decide) (by decide) rfl gin_X5 tyX5_ok (by decide) ⟨am_mem 140 (by decide +kernel) rfl, am_mem 45 (by decide +kernel) rfl, am_mem 3 (by decide +kernel) rfl⟩ ?_
  obtain ⟨w6, qw6⟩ : ∃ z, z = wnew w5 56 := ⟨_, rfl⟩
  rw [← qw6]
  refine WA.dup dX4_init_27 rfl ?_
  refine WA.callI0 (n2 := 71) (kc' := 15) (ks' := 10228) (kc := 32) (ks := 20484) (d' := 2) dX4_init_28 lkX4_17 rfl rfl rfl (by decide) (Nat.le_of_ble_eq_true rfl) (Nat.lt_of_lt_of_le (by decide) hd) (kw_X5_56 (K := (fun z : Wd => (∀ c i, (c < 56 ∨ 71 < c) → z c i = w6 c i) ∧ (∀ c i, 56 ≤ c → c ≤ 71 → z c i = w00 c i))) (Nat.le_refl _) (fun i => by simp [qw1, qw2, qw3, ow4, rw4, qw5, qw6, wset, wnew, w00, rowS, rowM, hz]) (fun _ o r => ⟨o, r⟩)) ?_
  rintro r w7 ⟨rfl, ow7, rw7⟩
  change WA _ _ _ _ _ _ _ _ _ _ _ [.inr (.inr 56), .inl 1, .inr (.inr 39)] _ _
  refine WA.aastore dX4_init_31 (by decide : am_arr 71 39 3 4) (by decide) (by decide) (by decide : am_obj 71 56 5 14) ?_
  obtain ⟨w8, qw8⟩ : ∃ z, z = wset w7 39 1 56 := ⟨_, rfl⟩
  rw [← qw8]
  refine WA.iinc (als' := [some (.inr (.inr 38)), some (.inl 2)]) dX4_init_32 rfl ⟨by decide, by decide⟩ rfl ?_
  refine WA.goto (tgt := 14) dX4_init_35 (by decide) ?_
  refine WA.iload_n dX4_init_14 rfl ?_
  refine WA.iconst dX4_init_15 ⟨by decide, by decide⟩ ?_
  refine WA.icmp_ge (tgt := 38) dX4_init_16 (by decide) (fun hc => absurd hc (by decide)) (fun _ => ?_)
  refine WA.aload_n dX4_init_19 rfl (by decide) ?_
  refine gfX4_11 rfl dX4_init_20 (by decide : am_obj 71 38 4 2) ?_
  refine WA.top (v2 := .inr (.inr 39)) (by rw [show w8 38 0 = 39 from (by simp [qw1, qw2, qw3, ow4, rw4, qw5, qw6, ow7, rw7, qw8, wset, wnew, w00, rowS, rowM, hz])]) ?_
  refine WA.iload_n dX4_init_23 rfl ?_
  refine WA.new2 (n2 := 72) (kc := 31) (ks := 20470) (N := 14) (ci := 5) (c := 72) rfl rfl rfl (by decide) dX4_init_24 (by decide) (by decide) rfl gin_X5 tyX5_ok (by decide) ⟨am_mem 140 (by decide +kernel) rfl, am_mem 45 (by decide +kernel) rfl, am_mem 3 (by decide +kernel) rfl⟩ ?_
  obtain ⟨w9, qw9⟩ : ∃ z, z = wnew w8 72 := ⟨_, rfl⟩
  rw [← qw9]
  refine WA.dup dX4_init_27 rfl ?_
  refine WA.callI0 (n2 := 87) (kc' := 15) (ks' := 10228) (kc := 16) (ks := 10242) (d' := 2) dX4_init_28 lkX4_17 rfl rfl rfl (by decide) (Nat.le_of_ble_eq_true rfl) (Nat.lt_of_lt_of_le (by decide) hd) (kw_X5_72 (K := (fun z : Wd => (∀ c i, (c < 72 ∨ 87 < c) → z c i = w9 c i) ∧ (∀ c i, 72 ≤ c → c ≤ 87 → z c i = w00 c i))) (Nat.le_refl _) (fun i => by simp [qw1, qw2, qw3, ow4, rw4, qw5, qw6, ow7, rw7, qw8, qw9, wset, wnew, w00, rowS, rowM, hz]) (fun _ o r => ⟨o, r⟩)) ?_
  rintro r w10 ⟨rfl, ow10, rw10⟩
  change WA _ _ _ _ _ _ _ _ _ _ _ [.inr (.inr 72), .inl 2, .inr (.inr 39)] _ _
  refine WA.aastore dX4_init_31 (by decide : am_arr 87 39 3 4) (by decide) (by decide) (by decide : am_obj 87 72 5 14) ?_
  obtain ⟨w11, qw11⟩ : ∃ z, z = wset w10 39 2 72 := ⟨_, rfl⟩
  rw [← qw11]
  refine WA.iinc (als' := [some (.inr (.inr 38)), some (.inl 3)]) dX4_init_32 rfl ⟨by decide, by decide⟩ rfl ?_
  refine WA.goto (tgt := 14) dX4_init_35 (by decide) ?_
  refine WA.iload_n dX4_init_14 rfl ?_
  refine WA.iconst dX4_init_15 ⟨by decide, by decide⟩ ?_
  refine WA.icmp_ge (tgt := 38) dX4_init_16 (by decide) (fun hc => absurd hc (by decide)) (fun _ => ?_)
  refine WA.aload_n dX4_init_19 rfl (by decide) ?_
  refine gfX4_11 rfl dX4_init_20 (by decide : am_obj 87 38 4 2) ?_
  refine WA.top (v2 := .inr (.inr 39)) (by rw [show w11 38 0 = 39 from (by simp [qw1, qw2, qw3, ow4, rw4, qw5, qw6, ow7, rw7, qw8, qw9, ow10, rw10, qw11, wset, wnew, w00, rowS, rowM, hz])]) ?_
  refine WA.iload_n dX4_init_23 rfl ?_
  refine WA.new2 (n2 := 88) (kc := 15) (ks := 10228) (N := 14) (ci := 5) (c := 88) rfl rfl rfl (by decide) dX4_init_24 (by decide) (by decide) rfl gin_X5 tyX5_ok (by decide) ⟨am_mem 140 (by decide +kernel) rfl, am_mem 45 (by decide +kernel) rfl, am_mem 3 (by decide +kernel) rfl⟩ ?_
  obtain ⟨w12, qw12⟩ : ∃ z, z = wnew w11 88 := ⟨_, rfl⟩
  rw [← qw12]
  refine WA.dup dX4_init_27 rfl ?_
  refine WA.callI0 (n2 := 103) (kc' := 15) (ks' := 10228) (kc := 0) (ks := 0) (d' := 2) dX4_init_28 lkX4_17 rfl rfl rfl (by decide) (Nat.le_of_ble_eq_true rfl) (Nat.lt_of_lt_of_le (by decide) hd) (kw_X5_88 (K := (fun z : Wd => (∀ c i, (c < 88 ∨ 103 < c) → z c i = w12 c i) ∧ (∀ c i, 88 ≤ c → c ≤ 103 → z c i = w00 c i))) (Nat.le_refl _) (fun i => by simp [qw1, qw2, qw3, ow4, rw4, qw5, qw6, ow7, rw7, qw8, qw9, ow10, rw10, qw11, qw12, wset, wnew, w00, rowS, rowM, hz]) (fun _ o r => ⟨o, r⟩)) ?_
  rintro r w13 ⟨rfl, ow13, rw13⟩
  change WA _ _ _ _ _ _ _ _ _ _ _ [.inr (.inr 88), .inl 3, .inr (.inr 39)] _ _
  refine WA.aastore dX4_init_31 (by decide : am_arr 103 39 3 4) (by decide) (by decide) (by decide : am_obj 103 88 5 14) ?_
  obtain ⟨w14, qw14⟩ : ∃ z, z = wset w13 39 3 88 := ⟨_, rfl⟩
  rw [← qw14]
  refine WA.iinc (als' := [some (.inr (.inr 38)), some (.inl 4)]) dX4_init_32 rfl ⟨by decide, by decide⟩ rfl ?_
  refine WA.goto (tgt := 14) dX4_init_35 (by decide) ?_
  refine WA.iload_n dX4_init_14 rfl ?_
  refine WA.iconst dX4_init_15 ⟨by decide, by decide⟩ ?_
  refine WA.icmp_ge (tgt := 38) dX4_init_16 (by decide) (fun _ => ?_) (fun hc => absurd hc (by decide))
  refine WA.vreturn dX4_init_38 ⟨rfl, ?_⟩
  refine h w14 ?_ ?_
  · intro c i hc
    rw [qw14, show wset w13 39 3 88 c i = w13 c i from if_neg (by omega)]
    rw [ow13 c i (by omega)]
    rw [qw12, show wnew w11 88 c i = w11 c i from if_neg (by omega)]
    rw [qw11, show wset w10 39 2 72 c i = w10 c i from if_neg (by omega)]
    rw [ow10 c i (by omega)]
    rw [qw9, show wnew w8 72 c i = w8 c i from if_neg (by omega)]
    rw [qw8, show wset w7 39 1 56 c i = w7 c i from if_neg (by omega)]
    rw [ow7 c i (by omega)]
    rw [qw6, show wnew w5 56 c i = w5 c i from if_neg (by omega)]
    rw [qw5, show wset w4 39 0 40 c i = w4 c i from if_neg (by omega)]
    rw [ow4 c i (by omega)]
    rw [qw3, show wnew w2 40 c i = w2 c i from if_neg (by omega)]
    rw [qw2, show wset w1 38 0 39 c i = w1 c i from if_neg (by omega)]
    rw [qw1, show wnew w 39 c i = w c i from if_neg (by omega)]
  · intro c i hc1 hc2
    have hc : (40 ≤ c ∧ c ≤ 55) ∨ (56 ≤ c ∧ c ≤ 71) ∨ (72 ≤ c ∧ c ≤ 87) ∨ (88 ≤ c ∧ c ≤ 103) ∨ c = 38 ∨ c = 39 := by omega
    rcases hc with hc | hc | hc | hc | rfl | rfl
    · rw [qw14, show wset w13 39 3 88 c i = w13 c i from if_neg (by omega)]
      rw [ow13 c i (by omega)]
      rw [qw12, show wnew w11 88 c i = w11 c i from if_neg (by omega)]
      rw [qw11, show wset w10 39 2 72 c i = w10 c i from if_neg (by omega)]
      rw [ow10 c i (by omega)]
      rw [qw9, show wnew w8 72 c i = w8 c i from if_neg (by omega)]
      rw [qw8, show wset w7 39 1 56 c i = w7 c i from if_neg (by omega)]
      rw [ow7 c i (by omega)]
      rw [qw6, show wnew w5 56 c i = w5 c i from if_neg (by omega)]
      rw [qw5, show wset w4 39 0 40 c i = w4 c i from if_neg (by omega)]
      exact rw4 c i (by omega) (by omega)
    · rw [qw14, show wset w13 39 3 88 c i = w13 c i from if_neg (by omega)]
      rw [ow13 c i (by omega)]
      rw [qw12, show wnew w11 88 c i = w11 c i from if_neg (by omega)]
      rw [qw11, show wset w10 39 2 72 c i = w10 c i from if_neg (by omega)]
      rw [ow10 c i (by omega)]
      rw [qw9, show wnew w8 72 c i = w8 c i from if_neg (by omega)]
      rw [qw8, show wset w7 39 1 56 c i = w7 c i from if_neg (by omega)]
      exact rw7 c i (by omega) (by omega)
    · rw [qw14, show wset w13 39 3 88 c i = w13 c i from if_neg (by omega)]
      rw [ow13 c i (by omega)]
      rw [qw12, show wnew w11 88 c i = w11 c i from if_neg (by omega)]
      rw [qw11, show wset w10 39 2 72 c i = w10 c i from if_neg (by omega)]
      exact rw10 c i (by omega) (by omega)
    · rw [qw14, show wset w13 39 3 88 c i = w13 c i from if_neg (by omega)]
      exact rw13 c i (by omega) (by omega)
    · by_cases e0 : i = 0
      · subst e0
        simp [qw1, qw2, qw3, ow4, rw4, qw5, qw6, ow7, rw7, qw8, qw9, ow10, rw10, qw11, qw12, ow13, rw13, qw14, wset, wnew, w00, rowS, rowM, hz]
      simp [qw1, qw2, qw3, ow4, rw4, qw5, qw6, ow7, rw7, qw8, qw9, ow10, rw10, qw11, qw12, ow13, rw13, qw14, wset, wnew, w00, rowS, rowM, hz, e0]
    · by_cases e0 : i = 0
      · subst e0
        simp [qw1, qw2, qw3, ow4, rw4, qw5, qw6, ow7, rw7, qw8, qw9, ow10, rw10, qw11, qw12, ow13, rw13, qw14, wset, wnew, w00, rowS, rowM, hz]
      by_cases e1 : i = 1
      · subst e1
        simp [qw1, qw2, qw3, ow4, rw4, qw5, qw6, ow7, rw7, qw8, qw9, ow10, rw10, qw11, qw12, ow13, rw13, qw14, wset, wnew, w00, rowS, rowM, hz]
      by_cases e2 : i = 2
      · subst e2
        simp [qw1, qw2, qw3, ow4, rw4, qw5, qw6, ow7, rw7, qw8, qw9, ow10, rw10, qw11, qw12, ow13, rw13, qw14, wset, wnew, w00, rowS, rowM, hz]
      by_cases e3 : i = 3
      · subst e3
        simp [qw1, qw2, qw3, ow4, rw4, qw5, qw6, ow7, rw7, qw8, qw9, ow10, rw10, qw11, qw12, ow13, rw13, qw14, wset, wnew, w00, rowS, rowM, hz]
      have g0 : ¬ (0 ≤ i ∧ i < 4) := by omega
      simp [qw1, qw2, qw3, ow4, rw4, qw5, qw6, ow7, rw7, qw8, qw9, ow10, rw10, qw11, qw12, ow13, rw13, qw14, wset, wnew, w00, rowS, rowM, hz, g0, e0, e1, e2, e3]
set_option maxRecDepth 10000 in
theorem kw_X2_105 {d : Nat} {w : Wd} {K : Wd → Prop} (hd : 1 ≤ d) (hz : ∀ i, w 105 i = 0) (h : ∀ w', (∀ c i, (c < 105 ∨ 106 < c) → w' c i = w c i) → (∀ c i, 105 ≤ c → c ≤ 106 → w' c i = w00 c i) → K w') : EvA false yX2_init cX2_init 1 none d 105 1 0 [.inr (.inr 105)] w (rV K) := by
  refine EvA.of (by decide +kernel) (Nat.le_of_ble_eq_true rfl) ?_
  change WA false yX2_init cX2_init 1 none d 105 1 0 0 [some (.inr (.inr 105))] [] w (rV K)
  refine WA.aload_n dX2_init_0 rfl (by decide) ?_
  refine WA.objInit dX2_init_1 (am_mem 162 (by decide +kernel) rfl) (am_mem 23 (by decide +kernel) rfl) (am_mem 24 (by decide +kernel) rfl) (by decide) (Nat.le_trans (by decide) hd) (Nat.le_of_ble_eq_true rfl) ?_
  refine WA.aload_n dX2_init_4 rfl (by decide) ?_
  refine WA.iconst dX2_init_5 ⟨by decide, by decide⟩ ?_
  refine WA.newarray2 (n2 := 106) (kc := 0) (ks := 0) (N := 0) (c := 106) (K := 0) rfl rfl rfl (by decide) dX2_init_6 (by decide) rfl (by decide) rfl (by decide) (by decide) (am_mem 43 (by decide +kernel) rfl) ?_
  obtain ⟨w1, qw1⟩ : ∃ z, z = wnew w 106 := ⟨_, rfl⟩
  rw [← qw1]
  refine pfX2_7 rfl dX2_init_8 (by decide : am_obj 106 105 2 4) ?_
  obtain ⟨w2, qw2⟩ : ∃ z, z = wset w1 105 0 106 := ⟨_, rfl⟩
  rw [← qw2]
  refine WA.vreturn dX2_init_11 ⟨rfl, ?_⟩
  refine h w2 ?_ ?_
  · intro c i hc
    rw [qw2, show wset w1 105 0 106 c i = w1 c i from if_neg (by omega)]
    rw [qw1, show wnew w 106 c i = w c i from if_neg (by omega)]
  · intro c i hc1 hc2
    have hc : c = 105 ∨ c = 106 := by omega
    rcases hc with rfl | rfl
    · by_cases e0 : i = 0
      · subst e0
        simp [qw1, qw2, wset, wnew, w00, rowS, rowM, hz]
      simp [qw1, qw2, wset, wnew, w00, rowS, rowM, hz, e0]
    · simp [qw1, qw2, wset, wnew, w00, rowS, rowM, hz]
set_option maxRecDepth 10000 in
theorem kw_X2_110 {d : Nat} {w : Wd} {K : Wd → Prop} (hd : 1 ≤ d) (hz : ∀ i, w 110 i = 0) (h : ∀ w', (∀ c i, (c < 110 ∨ 111 < c) → w' c i = w c i) → (∀ c i, 110 ≤ c → c ≤ 111 → w' c i = w00 c i) → K w') : EvA false yX2_init cX2_init 1 none d 110 1 0 [.inr (.inr 110)] w (rV K) := by
  refine EvA.of (by decide +kernel) (Nat.le_of_ble_eq_true rfl) ?_
  change WA false yX2_init cX2_init 1 none d 110 1 0 0 [some (.inr (.inr 110))] [] w (rV K)
  refine WA.aload_n dX2_init_0 rfl (by decide) ?_
  refine WA.objInit dX2_init_1 (am_mem 162 (by decide +kernel) rfl) (am_mem 23 (by decide +kernel) rfl) (am_mem 24 (by decide +kernel) rfl) (by decide) (Nat.le_trans (by decide) hd) (Nat.le_of_ble_eq_true rfl) ?_
  refine WA.aload_n dX2_init_4 rfl (by decide) ?_
  refine WA.iconst dX2_init_5 ⟨by decide, by decide⟩ ?_
  refine WA.newarray2 (n2 := 111) (kc := 0) (ks := 0) (N := 0) (c := 111) (K := 0) rfl rfl rfl (by decide) dX2_init_6 (by decide) rfl (by decide) rfl (by decide) (by decide) (am_mem 43 (by decide +kernel) rfl) ?_
  obtain ⟨w1, qw1⟩ : ∃ z, z = wnew w 111 := ⟨_, rfl⟩
  rw [← qw1]
  refine pfX2_7 rfl dX2_init_8 (by decide : am_obj 111 110 2 4) ?_
  obtain ⟨w2, qw2⟩ : ∃ z, z = wset w1 110 0 111 := ⟨_, rfl⟩
  rw [← qw2]
  refine WA.vreturn dX2_init_11 ⟨rfl, ?_⟩
  refine h w2 ?_ ?_
  · intro c i hc
    rw [qw2, show wset w1 110 0 111 c i = w1 c i from if_neg (by omega)]
    rw [qw1, show wnew w 111 c i = w c i from if_neg (by omega)]
  · intro c i hc1 hc2
    have hc : c = 110 ∨ c = 111 := by omega
    rcases hc with rfl | rfl
    · by_cases e0 : i = 0
      · subst e0
        simp [qw1, qw2, wset, wnew, w00, rowS, rowM, hz]
      simp [qw1, qw2, wset, wnew, w00, rowS, rowM, hz, e0]
    · simp [qw1, qw2, wset, wnew, w00, rowS, rowM, hz]
set_option maxRecDepth 10000 in
theorem kw_X1_104 {d : Nat} {w : Wd} {K : Wd → Prop} (hd : 2 ≤ d) (hz : ∀ i, w 104 i = 0) (h : ∀ w', (∀ c i, (c < 104 ∨ 106 < c) → w' c i = w c i) → (∀ c i, 104 ≤ c → c ≤ 106 → w' c i = w00 c i) → K w') : EvA false yX1_init cX1_init 1 none d 104 2 4 [.inr (.inr 104)] w (rV K) := by
  refine EvA.of (by decide +kernel) (Nat.le_of_ble_eq_true rfl) ?_
  change WA false yX1_init cX1_init 1 none d 104 2 4 0 [some (.inr (.inr 104))] [] w (rV K)
  refine WA.aload_n dX1_init_0 rfl (by decide) ?_
  refine WA.objInit dX1_init_1 (am_mem 156 (by decide +kernel) rfl) (am_mem 23 (by decide +kernel) rfl) (am_mem 24 (by decide +kernel) rfl) (by decide) (Nat.le_trans (by decide) hd) (Nat.le_of_ble_eq_true rfl) ?_
  refine WA.aload_n dX1_init_4 rfl (by decide) ?_
  refine WA.new2 (n2 := 105) (kc := 1) (ks := 0) (N := 4) (ci := 2) (c := 105) rfl rfl rfl (by decide) dX1_init_5 (by decide) (by decide) rfl gin_X2 tyX2_ok (by decide) ⟨am_mem 157 (by decide +kernel) rfl, am_mem 158 (by decide +kernel) rfl, am_mem 7 (by decide +kernel) rfl⟩ ?_
  obtain ⟨w1, qw1⟩ : ∃ z, z = wnew w 105 := ⟨_, rfl⟩
  rw [← qw1]
  refine WA.dup dX1_init_8 rfl ?_
  refine WA.callIN0 (n2 := 106) (kc' := 1) (ks' := 0) (kc := 0) (ks := 0) (d' := 1) dX1_init_9 lkX1_11 rfl rfl rfl (by decide) (Nat.le_of_ble_eq_true rfl) (Nat.lt_of_lt_of_le (by decide) hd) (kw_X2_105 (K := (fun z : Wd => (∀ c i, (c < 105 ∨ 106 < c) → z c i = w1 c i) ∧ (∀ c i, 105 ≤ c → c ≤ 106 → z c i = w00 c i))) (Nat.le_refl _) (fun i => by simp [qw1, wset, wnew, w00, rowS, rowM, hz]) (fun _ o r => ⟨o, r⟩)) ?_
  rintro r w2 ⟨rfl, ow2, rw2⟩
  change WA _ _ _ _ _ _ _ _ _ _ _ [.inr (.inr 105), .inr (.inr 104)] _ _
  refine pfX1_12 rfl rfl rfl dX1_init_12 (by decide : am_obj 106 104 1 1) ?_
  obtain ⟨w3, qw3⟩ : ∃ z, z = wset w2 104 0 105 := ⟨_, rfl⟩
  rw [← qw3]
  refine WA.vreturn dX1_init_15 ⟨rfl, ?_⟩
  refine h w3 ?_ ?_
  · intro c i hc
    rw [qw3, show wset w2 104 0 105 c i = w2 c i from if_neg (by omega)]
    rw [ow2 c i (by omega)]
    rw [qw1, show wnew w 105 c i = w c i from if_neg (by omega)]
  · intro c i hc1 hc2
    have hc : (105 ≤ c ∧ c ≤ 106) ∨ c = 104 := by omega
    rcases hc with hc | rfl
    · rw [qw3, show wset w2 104 0 105 c i = w2 c i from if_neg (by omega)]
      exact rw2 c i (by omega) (by omega)
    · by_cases e0 : i = 0
      · subst e0
        simp [qw1, ow2, rw2, qw3, wset, wnew, w00, rowS, rowM, hz]
      simp [qw1, ow2, rw2, qw3, wset, wnew, w00, rowS, rowM, hz, e0]
set_option maxRecDepth 10000 in
theorem kw_X3_109 {d : Nat} {w : Wd} {K : Wd → Prop} (hd : 2 ≤ d) (hz : ∀ i, w 109 i = 0) (h : ∀ w', (∀ c i, (c < 109 ∨ 113 < c) → w' c i = w c i) → (∀ c i, 109 ≤ c → c ≤ 113 → w' c i = w00 c i) → K w') : EvA false yX3_init cX3_init 2 none d 109 4 148 [.inr (.inr 109), .inr (.inr 22)] w (rV K) := by
  refine EvA.of (by decide +kernel) (Nat.le_of_ble_eq_true rfl) ?_
  change WA false yX3_init cX3_init 2 none d 109 4 148 0 [some (.inr (.inr 109)), some (.inr (.inr 22))] [] w (rV K)
  refine WA.aload_n dX3_init_0 rfl (by decide) ?_
  refine WA.objInit dX3_init_1 (am_mem 193 (by decide +kernel) rfl) (am_mem 23 (by decide +kernel) rfl) (am_mem 24 (by decide +kernel) rfl) (by decide) (Nat.le_trans (by decide) hd) (Nat.le_of_ble_eq_true rfl) ?_
  refine WA.aload_n dX3_init_4 rfl (by decide) ?_
  refine WA.new2 (n2 := 110) (kc := 3) (ks := 144) (N := 4) (ci := 2) (c := 110) rfl rfl rfl (by decide) dX3_init_5 (by decide) (by decide) rfl gin_X2 tyX2_ok (by decide) ⟨am_mem 194 (by decide +kernel) rfl, am_mem 158 (by decide +kernel) rfl, am_mem 7 (by decide +kernel) rfl⟩ ?_
  obtain ⟨w1, qw1⟩ : ∃ z, z = wnew w 110 := ⟨_, rfl⟩
  rw [← qw1]
  refine WA.dup dX3_init_8 rfl ?_
  refine WA.callIN0 (n2 := 111) (kc' := 1) (ks' := 0) (kc := 2) (ks := 144) (d' := 1) dX3_init_9 lkX3_11 rfl rfl rfl (by decide) (Nat.le_of_ble_eq_true rfl) (Nat.lt_of_lt_of_le (by decide) hd) (kw_X2_110 (K := (fun z : Wd => (∀ c i, (c < 110 ∨ 111 < c) → z c i = w1 c i) ∧ (∀ c i, 110 ≤ c → c ≤ 111 → z c i = w00 c i))) (Nat.le_refl _) (fun i => by simp [qw1, wset, wnew, w00, rowS, rowM, hz]) (fun _ o r => ⟨o, r⟩)) ?_
  rintro r w2 ⟨rfl, ow2, rw2⟩
  change WA _ _ _ _ _ _ _ _ _ _ _ [.inr (.inr 110), .inr (.inr 109)] _ _
  refine pfX3_12 rfl rfl rfl dX3_init_12 (by decide : am_obj 111 109 3 8) ?_
  obtain ⟨w3, qw3⟩ : ∃ z, z = wset w2 109 0 110 := ⟨_, rfl⟩
  rw [← qw3]
  refine WA.aload_n dX3_init_15 rfl (by decide) ?_
  refine WA.bipush dX3_init_16 ⟨by decide, by decide⟩ ?_
  refine WA.newarray2 (n2 := 112) (kc := 1) (ks := 72) (N := 72) (c := 112) (K := 0) rfl rfl rfl (by decide) dX3_init_18 (by decide) rfl (by decide) rfl (by decide) (by decide) (am_mem 43 (by decide +kernel) rfl) ?_
  obtain ⟨w4, qw4⟩ : ∃ z, z = wnew w3 112 := ⟨_, rfl⟩
  rw [← qw4]
  refine pfX3_18 rfl rfl rfl dX3_init_20 (by decide : am_obj 112 109 3 8) ?_
  obtain ⟨w5, qw5⟩ : ∃ z, z = wset w4 109 1 112 := ⟨_, rfl⟩
  rw [← qw5]
  refine WA.aload_n dX3_init_23 rfl (by decide) ?_
  refine WA.bipush dX3_init_24 ⟨by decide, by decide⟩ ?_
  refine WA.newarray2 (n2 := 113) (kc := 0) (ks := 0) (N := 72) (c := 113) (K := 0) rfl rfl rfl (by decide) dX3_init_26 (by decide) rfl (by decide) rfl (by decide) (by decide) (am_mem 43 (by decide +kernel) rfl) ?_
  obtain ⟨w6, qw6⟩ : ∃ z, z = wnew w5 113 := ⟨_, rfl⟩
  rw [← qw6]
  refine pfX3_22 rfl rfl rfl dX3_init_28 (by decide : am_obj 113 109 3 8) ?_
  obtain ⟨w7, qw7⟩ : ∃ z, z = wset w6 109 2 113 := ⟨_, rfl⟩
  rw [← qw7]
  refine WA.aload_n dX3_init_31 rfl (by decide) ?_
  refine WA.aload_n dX3_init_32 rfl (by decide) ?_
  refine pfX3_25 rfl dX3_init_33 (by decide : am_obj 113 109 3 8) ?_
  obtain ⟨w8, qw8⟩ : ∃ z, z = wset w7 109 4 22 := ⟨_, rfl⟩
  rw [← qw8]
  refine WA.vreturn dX3_init_36 ⟨rfl, ?_⟩
  refine h w8 ?_ ?_
  · intro c i hc
    rw [qw8, show wset w7 109 4 22 c i = w7 c i from if_neg (by omega)]
    rw [qw7, show wset w6 109 2 113 c i = w6 c i from if_neg (by omega)]
    rw [qw6, show wnew w5 113 c i = w5 c i from if_neg (by omega)]
    rw [qw5, show wset w4 109 1 112 c i = w4 c i from if_neg (by omega)]
    rw [qw4, show wnew w3 112 c i = w3 c i from if_neg (by omega)]
    rw [qw3, show wset w2 109 0 110 c i = w2 c i from if_neg (by omega)]
    rw [ow2 c i (by omega)]
    rw [qw1, show wnew w 110 c i = w c i from if_neg (by omega)]
  · intro c i hc1 hc2
    have hc : (110 ≤ c ∧ c ≤ 111) ∨ c = 109 ∨ c = 112 ∨ c = 113 := by omega
    rcases hc with hc | rfl | rfl | rfl
    · rw [qw8, show wset w7 109 4 22 c i = w7 c i from if_neg (by omega)]
      rw [qw7, show wset w6 109 2 113 c i = w6 c i from if_neg (by omega)]
      rw [qw6, show wnew w5 113 c i = w5 c i from if_neg (by omega)]
      rw [qw5, show wset w4 109 1 112 c i = w4 c i from if_neg (by omega)]
      rw [qw4, show wnew w3 112 c i = w3 c i from if_neg (by omega)]
      rw [qw3, show wset w2 109 0 110 c i = w2 c i from if_neg (by omega)]
      exact rw2 c i (by omega) (by omega)
    · by_cases e0 : i = 0
      · subst e0
        simp [qw1, ow2, rw2, qw3, qw4, qw5, qw6, qw7, qw8, wset, wnew, w00, rowS, rowM, hz]
      by_cases e1 : i = 1
      · subst e1
        simp [qw1, ow2, rw2, qw3, qw4, qw5, qw6, qw7, qw8, wset, wnew, w00, rowS, rowM, hz]
      by_cases e2 : i = 2
      · subst e2
        simp [qw1, ow2, rw2, qw3, qw4, qw5, qw6, qw7, qw8, wset, wnew, w00, rowS, rowM, hz]
      by_cases e4 : i = 4
      · subst e4
        simp [qw1, ow2, rw2, qw3, qw4, qw5, qw6, qw7, qw8, wset, wnew, w00, rowS, rowM, hz]
      simp [qw1, ow2, rw2, qw3, qw4, qw5, qw6, qw7, qw8, wset, wnew, w00, rowS, rowM, hz, e0, e1, e2, e4]
    · simp [qw1, ow2, rw2, qw3, qw4, qw5, qw6, qw7, qw8, wset, wnew, w00, rowS, rowM, hz]
    · simp [qw1, ow2, rw2, qw3, qw4, qw5, qw6, qw7, qw8, wset, wnew, w00, rowS, rowM, hz]
set_option maxRecDepth 10000 in
theorem kw_X0_107 {d : Nat} {w : Wd} {K : Wd → Prop} (hd : 3 ≤ d) (hz : ∀ i, w 107 i = 0) (h : ∀ w', (∀ c i, (c < 107 ∨ 113 < c) → w' c i = w c i) → (∀ c i, 107 ≤ c → c ≤ 113 → w' c i = w00 c i) → K w') : EvA false yX0_init cX0_init 2 none d 107 6 228 [.inr (.inr 107), .inr (.inr 22)] w (rV K) := by
  refine EvA.of (by decide +kernel) (Nat.le_of_ble_eq_true rfl) ?_
  change WA false yX0_init cX0_init 2 none d 107 6 228 0 [some (.inr (.inr 107)), some (.inr (.inr 22))] [] w (rV K)
  refine WA.aload_n dX0_init_0 rfl (by decide) ?_
  refine WA.objInit dX0_init_1 (am_mem 187 (by decide +kernel) rfl) (am_mem 23 (by decide +kernel) rfl) (am_mem 24 (by decide +kernel) rfl) (by decide) (Nat.le_trans (by decide) hd) (Nat.le_of_ble_eq_true rfl) ?_
  refine WA.aload_n dX0_init_4 rfl (by decide) ?_
  refine WA.bipush dX0_init_5 ⟨by decide, by decide⟩ ?_
  refine WA.newarray2 (n2 := 108) (kc := 5) (ks := 156) (N := 72) (c := 108) (K := 0) rfl rfl rfl (by decide) dX0_init_7 (by decide) rfl (by decide) rfl (by decide) (by decide) (am_mem 43 (by decide +kernel) rfl) ?_
  obtain ⟨w1, qw1⟩ : ∃ z, z = wnew w 108 := ⟨_, rfl⟩
  rw [← qw1]
  refine pfX0_9 rfl rfl rfl dX0_init_9 (by decide : am_obj 108 107 0 2) ?_
  obtain ⟨w2, qw2⟩ : ∃ z, z = wset w1 107 1 108 := ⟨_, rfl⟩
  rw [← qw2]
  refine WA.aload_n dX0_init_12 rfl (by decide) ?_
  refine WA.new2 (n2 := 109) (kc := 4) (ks := 148) (N := 8) (ci := 3) (c := 109) rfl rfl rfl (by decide) dX0_init_13 (by decide) (by decide) rfl gin_X3 tyX3_ok (by decide) ⟨am_mem 188 (by decide +kernel) rfl, am_mem 189 (by decide +kernel) rfl, am_mem 9 (by decide +kernel) rfl⟩ ?_
  obtain ⟨w3, qw3⟩ : ∃ z, z = wnew w2 109 := ⟨_, rfl⟩
  rw [← qw3]
  refine WA.dup dX0_init_16 rfl ?_
  refine WA.aload_n dX0_init_17 rfl (by decide) ?_
  refine WA.callI1 (n2 := 113) (kc' := 4) (ks' := 148) (kc := 0) (ks := 0) (d' := 2) dX0_init_18 lkX0_17 rfl rfl rfl (by decide) (Nat.le_of_ble_eq_true rfl) (Nat.lt_of_lt_of_le (by decide) hd) (kw_X3_109 (K := (fun z : Wd => (∀ c i, (c < 109 ∨ 113 < c) → z c i = w3 c i) ∧ (∀ c i, 109 ≤ c → c ≤ 113 → z c i = w00 c i))) (Nat.le_refl _) (fun i => by simp [qw1, qw2, qw3, wset, wnew, w00, rowS, rowM, hz]) (fun _ o r => ⟨o, r⟩)) ?_
  rintro r w4 ⟨rfl, ow4, rw4⟩
  change WA _ _ _ _ _ _ _ _ _ _ _ [.inr (.inr 109), .inr (.inr 107)] _ _
  refine pfX0_20 rfl rfl rfl dX0_init_21 (by decide : am_obj 113 107 0 2) ?_
  obtain ⟨w5, qw5⟩ : ∃ z, z = wset w4 107 0 109 := ⟨_, rfl⟩
  rw [← qw5]
  refine WA.vreturn dX0_init_24 ⟨rfl, ?_⟩
  refine h w5 ?_ ?_
  · intro c i hc
    rw [qw5, show wset w4 107 0 109 c i = w4 c i from if_neg (by omega)]
    rw [ow4 c i (by omega)]
    rw [qw3, show wnew w2 109 c i = w2 c i from if_neg (by omega)]
    rw [qw2, show wset w1 107 1 108 c i = w1 c i from if_neg (by omega)]
    rw [qw1, show wnew w 108 c i = w c i from if_neg (by omega)]
  · intro c i hc1 hc2
    have hc : (109 ≤ c ∧ c ≤ 113) ∨ c = 107 ∨ c = 108 := by omega
    rcases hc with hc | rfl | rfl
    · rw [qw5, show wset w4 107 0 109 c i = w4 c i from if_neg (by omega)]
      exact rw4 c i (by omega) (by omega)
    · by_cases e0 : i = 0
      · subst e0
        simp [qw1, qw2, qw3, ow4, rw4, qw5, wset, wnew, w00, rowS, rowM, hz]
      by_cases e1 : i = 1
      · subst e1
        simp [qw1, qw2, qw3, ow4, rw4, qw5, wset, wnew, w00, rowS, rowM, hz]
      simp [qw1, qw2, qw3, ow4, rw4, qw5, wset, wnew, w00, rowS, rowM, hz, e0, e1]
    · simp [qw1, qw2, qw3, ow4, rw4, qw5, wset, wnew, w00, rowS, rowM, hz]
set_option maxRecDepth 10000 in
theorem kw_X8_1 {d : Nat} {w : Wd} {K : Wd → Prop} (hd : 4 ≤ d) (hz : ∀ i, w 1 i = 0) (h : ∀ w', (∀ c i, (c < 1 ∨ 114 < c) → w' c i = w c i) → (∀ c i, 1 ≤ c → c ≤ 114 → w' c i = w00 c i) → K w') : EvA false yX8_init cX8_init 1 none d 1 113 61829 [.inr (.inr 1)] w (rV K) := by
  refine EvA.of (by decide +kernel) (Nat.le_of_ble_eq_true rfl) ?_
  change WA false yX8_init cX8_init 1 none d 1 113 61829 0 [some (.inr (.inr 1))] [] w (rV K)
  refine WA.aload_n dX8_init_0 rfl (by decide) ?_
  refine WA.objInit dX8_init_1 (am_mem 22 (by decide +kernel) rfl) (am_mem 23 (by decide +kernel) rfl) (am_mem 24 (by decide +kernel) rfl) (by decide) (Nat.le_trans (by decide) hd) (Nat.le_of_ble_eq_true rfl) ?_
  refine WA.aload_n dX8_init_4 rfl (by decide) ?_
  refine WA.new2 (n2 := 2) (kc := 112) (ks := 61827) (N := 2) (ci := 6) (c := 2) rfl rfl rfl (by decide) dX8_init_5 (by decide) (by decide) rfl gin_X6 tyX6_ok (by decide) ⟨am_mem 25 (by decide +kernel) rfl, am_mem 26 (by decide +kernel) rfl, am_mem 2 (by decide +kernel) rfl⟩ ?_
  obtain ⟨w1, qw1⟩ : ∃ z, z = wnew w 2 := ⟨_, rfl⟩
  rw [← qw1]
  refine WA.dup dX8_init_8 rfl ?_
  refine WA.callIN0 (n2 := 3) (kc' := 1) (ks' := 30) (kc := 111) (ks := 61797) (d' := 1) dX8_init_9 lkX8_9 rfl rfl rfl (by decide) (Nat.le_of_ble_eq_true rfl) (Nat.lt_of_lt_of_le (by decide) hd) (kw_X6_2 (K := (fun z : Wd => (∀ c i, (c < 2 ∨ 3 < c) → z c i = w1 c i) ∧ (∀ c i, 2 ≤ c → c ≤ 3 → z c i = w00 c i))) (Nat.le_refl _) (fun i => by simp [qw1, wset, wnew, w00, rowS, rowM, hz]) (fun _ o r => ⟨o, r⟩)) ?_
  rintro r w2 ⟨rfl, ow2, rw2⟩
  change WA _ _ _ _ _ _ _ _ _ _ _ [.inr (.inr 2), .inr (.inr 1)] _ _
  refine pfX8_10 rfl rfl rfl dX8_init_12 (by decide : am_obj 3 1 8 8) ?_
  obtain ⟨w3, qw3⟩ : ∃ z, z = wset w2 1 0 2 := ⟨_, rfl⟩
  rw [← qw3]
  refine WA.aload_n dX8_init_15 rfl (by decide) ?_
  refine WA.new2 (n2 := 4) (kc := 110) (ks := 61795) (N := 2) (ci := 6) (c := 4) rfl rfl rfl (by decide) dX8_init_16 (by decide) (by decide) rfl gin_X6 tyX6_ok (by decide) ⟨am_mem 25 (by decide +kernel) rfl, am_mem 26 (by decide +kernel) rfl, am_mem 2 (by decide +kernel) rfl⟩ ?_
  obtain ⟨w4, qw4⟩ : ∃ z, z = wnew w3 4 := ⟨_, rfl⟩
  rw [← qw4]
  refine WA.dup dX8_init_19 rfl ?_
  refine WA.callIN0 (n2 := 5) (kc' := 1) (ks' := 30) (kc := 109) (ks := 61765) (d' := 1) dX8_init_20 lkX8_9 rfl rfl rfl (by decide) (Nat.le_of_ble_eq_true rfl) (Nat.lt_of_lt_of_le (by decide) hd) (kw_X6_4 (K := (fun z : Wd => (∀ c i, (c < 4 ∨ 5 < c) → z c i = w4 c i) ∧ (∀ c i, 4 ≤ c → c ≤ 5 → z c i = w00 c i))) (Nat.le_refl _) (fun i => by simp [qw1, ow2, rw2, qw3, qw4, wset, wnew, w00, rowS, rowM, hz]) (fun _ o r => ⟨o, r⟩)) ?_
  rintro r w5 ⟨rfl, ow5, rw5⟩
  change WA _ _ _ _ _ _ _ _ _ _ _ [.inr (.inr 4), .inr (.inr 1)] _ _
  refine pfX8_16 rfl rfl rfl dX8_init_23 (by decide : am_obj 5 1 8 8) ?_
  obtain ⟨w6, qw6⟩ : ∃ z, z = wset w5 1 1 4 := ⟨_, rfl⟩
  rw [← qw6]
  refine WA.aload_n dX8_init_26 rfl (by decide) ?_
  refine WA.new2 (n2 := 6) (kc := 108) (ks := 61751) (N := 14) (ci := 5) (c := 6) rfl rfl rfl (by decide) dX8_init_27 (by decide) (by decide) rfl gin_X5 tyX5_ok (by decide) ⟨am_mem 44 (by decide +kernel) rfl, am_mem 45 (by decide +kernel) rfl, am_mem 3 (by decide +kernel) rfl⟩ ?_
  obtain ⟨w7, qw7⟩ : ∃ z, z = wnew w6 6 := ⟨_, rfl⟩
  rw [← qw7]
  refine WA.dup dX8_init_30 rfl ?_
  refine WA.callI0 (n2 := 21) (kc' := 15) (ks' := 10228) (kc := 93) (ks := 51523) (d' := 2) dX8_init_31 lkX8_21 rfl rfl rfl (by decide) (Nat.le_of_ble_eq_true rfl) (Nat.lt_of_lt_of_le (by decide) hd) (kw_X5_6 (K := (fun z : Wd => (∀ c i, (c < 6 ∨ 21 < c) → z c i = w7 c i) ∧ (∀ c i, 6 ≤ c → c ≤ 21 → z c i = w00 c i))) (Nat.le_refl _) (fun i => by simp [qw1, ow2, rw2, qw3, qw4, ow5, rw5, qw6, qw7, wset, wnew, w00, rowS, rowM, hz]) (fun _ o r => ⟨o, r⟩)) ?_
  rintro r w8 ⟨rfl, ow8, rw8⟩
  change WA _ _ _ _ _ _ _ _ _ _ _ [.inr (.inr 6), .inr (.inr 1)] _ _
  refine pfX8_22 rfl rfl rfl dX8_init_34 (by decide : am_obj 21 1 8 8) ?_
  obtain ⟨w9, qw9⟩ : ∃ z, z = wset w8 1 2 6 := ⟨_, rfl⟩
  rw [← qw9]
  refine WA.aload_n dX8_init_37 rfl (by decide) ?_
  refine WA.new2 (n2 := 22) (kc := 92) (ks := 51509) (N := 14) (ci := 5) (c := 22) rfl rfl rfl (by decide) dX8_init_38 (by decide) (by decide) rfl gin_X5 tyX5_ok (by decide) ⟨am_mem 44 (by decide +kernel) rfl, am_mem 45 (by decide +kernel) rfl, am_mem 3 (by decide +kernel) rfl⟩ ?_
  obtain ⟨w10, qw10⟩ : ∃ z, z = wnew w9 22 := ⟨_, rfl⟩
  rw [← qw10]
  refine WA.dup dX8_init_41 rfl ?_
  refine WA.callI0 (n2 := 37) (kc' := 15) (ks' := 10228) (kc := 77) (ks := 41281) (d' := 2) dX8_init_42 lkX8_21 rfl rfl rfl (by decide) (Nat.le_of_ble_eq_true rfl) (Nat.lt_of_lt_of_le (by decide) hd) (kw_X5_22 (K := (fun z : Wd => (∀ c i, (c < 22 ∨ 37 < c) → z c i = w10 c i) ∧ (∀ c i, 22 ≤ c → c ≤ 37 → z c i = w00 c i))) (Nat.le_refl _) (fun i => by simp [qw1, ow2, rw2, qw3, qw4, ow5, rw5, qw6, qw7, ow8, rw8, qw9, qw10, wset, wnew, w00, rowS, rowM, hz]) (fun _ o r => ⟨o, r⟩)) ?_
  rintro r w11 ⟨rfl, ow11, rw11⟩
  change WA _ _ _ _ _ _ _ _ _ _ _ [.inr (.inr 22), .inr (.inr 1)] _ _
  refine pfX8_26 rfl rfl rfl dX8_init_45 (by decide : am_obj 37 1 8 8) ?_
  obtain ⟨w12, qw12⟩ : ∃ z, z = wset w11 1 3 22 := ⟨_, rfl⟩
  rw [← qw12]
  refine WA.aload_n dX8_init_48 rfl (by decide) ?_
  refine WA.new2 (n2 := 38) (kc := 76) (ks := 41279) (N := 2) (ci := 4) (c := 38) rfl rfl rfl (by decide) dX8_init_49 (by decide) (by decide) rfl gin_X4 tyX4_ok (by decide) ⟨am_mem 134 (by decide +kernel) rfl, am_mem 135 (by decide +kernel) rfl, am_mem 5 (by decide +kernel) rfl⟩ ?_
  obtain ⟨w13, qw13⟩ : ∃ z, z = wnew w12 38 := ⟨_, rfl⟩
  rw [← qw13]
  refine WA.dup dX8_init_52 rfl ?_
  refine WA.callI0 (n2 := 103) (kc' := 65) (ks' := 40972) (kc := 11) (ks := 307) (d' := 3) dX8_init_53 lkX8_31 rfl rfl rfl (by decide) (Nat.le_of_ble_eq_true rfl) (Nat.lt_of_lt_of_le (by decide) hd) (kw_X4_38 (K := (fun z : Wd => (∀ c i, (c < 38 ∨ 103 < c) → z c i = w13 c i) ∧ (∀ c i, 38 ≤ c → c ≤ 103 → z c i = w00 c i))) (Nat.le_refl _) (fun i => by simp [qw1, ow2, rw2, qw3, qw4, ow5, rw5, qw6, qw7, ow8, rw8, qw9, qw10, ow11, rw11, qw12, qw13, wset, wnew, w00, rowS, rowM, hz]) (fun _ o r => ⟨o, r⟩)) ?_
  rintro r w14 ⟨rfl, ow14, rw14⟩
  change WA _ _ _ _ _ _ _ _ _ _ _ [.inr (.inr 38), .inr (.inr 1)] _ _
  refine pfX8_32 rfl rfl rfl dX8_init_56 (by decide : am_obj 103 1 8 8) ?_
  obtain ⟨w15, qw15⟩ : ∃ z, z = wset w14 1 4 38 := ⟨_, rfl⟩
  rw [← qw15]
  refine WA.aload_n dX8_init_59 rfl (by decide) ?_
  refine WA.new2 (n2 := 104) (kc := 10) (ks := 306) (N := 1) (ci := 1) (c := 104) rfl rfl rfl (by decide) dX8_init_60 (by decide) (by decide) rfl gin_X1 tyX1_ok (by decide) ⟨am_mem 151 (by decide +kernel) rfl, am_mem 152 (by decide +kernel) rfl, am_mem 6 (by decide +kernel) rfl⟩ ?_
  obtain ⟨w16, qw16⟩ : ∃ z, z = wnew w15 104 := ⟨_, rfl⟩
  rw [← qw16]
  refine WA.dup dX8_init_63 rfl ?_
  refine WA.callIN0 (n2 := 106) (kc' := 2) (ks' := 4) (kc := 8) (ks := 302) (d' := 2) dX8_init_64 lkX8_38 rfl rfl rfl (by decide) (Nat.le_of_ble_eq_true rfl) (Nat.lt_of_lt_of_le (by decide) hd) (kw_X1_104 (K := (fun z : Wd => (∀ c i, (c < 104 ∨ 106 < c) → z c i = w16 c i) ∧ (∀ c i, 104 ≤ c → c ≤ 106 → z c i = w00 c i))) (Nat.le_refl _) (fun i => by simp [qw1, ow2, rw2, qw3, qw4, ow5, rw5, qw6, qw7, ow8, rw8, qw9, qw10, ow11, rw11, qw12, qw13, ow14, rw14, qw15, qw16, wset, wnew, w00, rowS, rowM, hz]) (fun _ o r => ⟨o, r⟩)) ?_
  rintro r w17 ⟨rfl, ow17, rw17⟩
  change WA _ _ _ _ _ _ _ _ _ _ _ [.inr (.inr 104), .inr (.inr 1)] _ _
  refine pfX8_39 rfl rfl rfl dX8_init_67 (by decide : am_obj 106 1 8 8) ?_
  obtain ⟨w18, qw18⟩ : ∃ z, z = wset w17 1 5 104 := ⟨_, rfl⟩
  rw [← qw18]
  refine WA.aload_n dX8_init_70 rfl (by decide) ?_
  refine WA.new2 (n2 := 107) (kc := 7) (ks := 300) (N := 2) (ci := 0) (c := 107) rfl rfl rfl (by decide) dX8_init_71 (by decide) (by decide) rfl gin_X0 tyX0_ok (by decide) ⟨am_mem 182 (by decide +kernel) rfl, am_mem 183 (by decide +kernel) rfl, am_mem 8 (by decide +kernel) rfl⟩ ?_
  obtain ⟨w19, qw19⟩ : ∃ z, z = wnew w18 107 := ⟨_, rfl⟩
  rw [← qw19]
  refine WA.dup dX8_init_74 rfl ?_
  refine WA.aload_n dX8_init_75 rfl (by decide) ?_
  refine gfX8_26 rfl dX8_init_76 (by decide : am_obj 107 1 8 8) ?_
  refine WA.top (v2 := .inr (.inr 22)) (by rw [show w19 1 3 = 22 from (by simp [qw1, ow2, rw2, qw3, qw4, ow5, rw5, qw6, qw7, ow8, rw8, qw9, qw10, ow11, rw11, qw12, qw13, ow14, rw14, qw15, qw16, ow17, rw17, qw18, qw19, wset, wnew, w00, rowS, rowM, hz])]) ?_
  refine WA.callI1 (n2 := 113) (kc' := 6) (ks' := 228) (kc := 1) (ks := 72) (d' := 3) dX8_init_79 lkX8_45 rfl rfl rfl (by decide) (Nat.le_of_ble_eq_true rfl) (Nat.lt_of_lt_of_le (by decide) hd) (kw_X0_107 (K := (fun z : Wd => (∀ c i, (c < 107 ∨ 113 < c) → z c i = w19 c i) ∧ (∀ c i, 107 ≤ c → c ≤ 113 → z c i = w00 c i))) (Nat.le_refl _) (fun i => by simp [qw1, ow2, rw2, qw3, qw4, ow5, rw5, qw6, qw7, ow8, rw8, qw9, qw10, ow11, rw11, qw12, qw13, ow14, rw14, qw15, qw16, ow17, rw17, qw18, qw19, wset, wnew, w00, rowS, rowM, hz]) (fun _ o r => ⟨o, r⟩)) ?_
  rintro r w20 ⟨rfl, ow20, rw20⟩
  change WA _ _ _ _ _ _ _ _ _ _ _ [.inr (.inr 107), .inr (.inr 1)] _ _
  refine pfX8_48 rfl rfl rfl dX8_init_82 (by decide : am_obj 113 1 8 8) ?_
  obtain ⟨w21, qw21⟩ : ∃ z, z = wset w20 1 6 107 := ⟨_, rfl⟩
  rw [← qw21]
  refine WA.aload_n dX8_init_85 rfl (by decide) ?_
  refine WA.bipush dX8_init_86 ⟨by decide, by decide⟩ ?_
  refine WA.newarray2 (n2 := 114) (kc := 0) (ks := 0) (N := 72) (c := 114) (K := 0) rfl rfl rfl (by decide) dX8_init_88 (by decide) rfl (by decide) rfl (by decide) (by decide) (am_mem 43 (by decide +kernel) rfl) ?_
  obtain ⟨w22, qw22⟩ : ∃ z, z = wnew w21 114 := ⟨_, rfl⟩
  rw [← qw22]
  refine pfX8_52 rfl rfl rfl dX8_init_90 (by decide : am_obj 114 1 8 8) ?_
  obtain ⟨w23, qw23⟩ : ∃ z, z = wset w22 1 7 114 := ⟨_, rfl⟩
  rw [← qw23]
  refine WA.vreturn dX8_init_93 ⟨rfl, ?_⟩
  refine h w23 ?_ ?_
  · intro c i hc
    rw [qw23, show wset w22 1 7 114 c i = w22 c i from if_neg (by omega)]
    rw [qw22, show wnew w21 114 c i = w21 c i from if_neg (by omega)]
    rw [qw21, show wset w20 1 6 107 c i = w20 c i from if_neg (by omega)]
    rw [ow20 c i (by omega)]
    rw [qw19, show wnew w18 107 c i = w18 c i from if_neg (by omega)]
    rw [qw18, show wset w17 1 5 104 c i = w17 c i from if_neg (by omega)]
    rw [ow17 c i (by omega)]
    rw [qw16, show wnew w15 104 c i = w15 c i from if_neg (by omega)]
    rw [qw15, show wset w14 1 4 38 c i = w14 c i from if_neg (by omega)]
    rw [ow14 c i (by omega)]
    rw [qw13, show wnew w12 38 c i = w12 c i from if_neg (by omega)]
    rw [qw12, show wset w11 1 3 22 c i = w11 c i from if_neg (by omega)]
    rw [ow11 c i (by omega)]
    rw [qw10, show wnew w9 22 c i = w9 c i from if_neg (by omega)]
    rw [qw9, show wset w8 1 2 6 c i = w8 c i from if_neg (by omega)]
    rw [ow8 c i (by omega)]
    rw [qw7, show wnew w6 6 c i = w6 c i from if_neg (by omega)]
    rw [qw6, show wset w5 1 1 4 c i = w5 c i from if_neg (by omega)]
    rw [ow5 c i (by omega)]
    rw [qw4, show wnew w3 4 c i = w3 c i from if_neg (by omega)]
    rw [qw3, show wset w2 1 0 2 c i = w2 c i from if_neg (by omega)]
    rw [ow2 c i (by omega)]
    rw [qw1, show wnew w 2 c i = w c i from if_neg (by omega)]
  · intro c i hc1 hc2
    have hc : (2 ≤ c ∧ c ≤ 3) ∨ (4 ≤ c ∧ c ≤ 5) ∨ (6 ≤ c ∧ c ≤ 21) ∨ (22 ≤ c ∧ c ≤ 37) ∨ (38 ≤ c ∧ c ≤ 103) ∨ (104 ≤ c ∧ c ≤ 106) ∨ (107 ≤ c ∧ c ≤ 113) ∨ c = 1 ∨ c = 114 := by omega
    rcases hc with hc | hc | hc | hc | hc | hc | hc | rfl | rfl
    · rw [qw23, show wset w22 1 7 114 c i = w22 c i from if_neg (by omega)]
      rw [qw22, show wnew w21 114 c i = w21 c i from if_neg (by omega)]
      rw [qw21, show wset w20 1 6 107 c i = w20 c i from if_neg (by omega)]
      rw [ow20 c i (by omega)]
      rw [qw19, show wnew w18 107 c i = w18 c i from if_neg (by omega)]
      rw [qw18, show wset w17 1 5 104 c i = w17 c i from if_neg (by omega)]
      rw [ow17 c i (by omega)]
      rw [qw16, show wnew w15 104 c i = w15 c i from if_neg (by omega)]
      rw [qw15, show wset w14 1 4 38 c i = w14 c i from if_neg (by omega)]
      rw [ow14 c i (by omega)]
      rw [qw13, show wnew w12 38 c i = w12 c i from if_neg (by omega)]
      rw [qw12, show wset w11 1 3 22 c i = w11 c i from if_neg (by omega)]
      rw [ow11 c i (by omega)]
      rw [qw10, show wnew w9 22 c i = w9 c i from if_neg (by omega)]
      rw [qw9, show wset w8 1 2 6 c i = w8 c i from if_neg (by omega)]
      rw [ow8 c i (by omega)]
      rw [qw7, show wnew w6 6 c i = w6 c i from if_neg (by omega)]
      rw [qw6, show wset w5 1 1 4 c i = w5 c i from if_neg (by omega)]
      rw [ow5 c i (by omega)]
      rw [qw4, show wnew w3 4 c i = w3 c i from if_neg (by omega)]
      rw [qw3, show wset w2 1 0 2 c i = w2 c i from if_neg (by omega)]
      exact rw2 c i (by omega) (by omega)
    · rw [qw23, show wset w22 1 7 114 c i = w22 c i from if_neg (by omega)]
      rw [qw22, show wnew w21 114 c i = w21 c i from if_neg (by omega)]
      rw [qw21, show wset w20 1 6 107 c i = w20 c i from if_neg (by omega)]
      rw [ow20 c i (by omega)]
      rw [qw19, show wnew w18 107 c i = w18 c i from if_neg (by omega)]
      rw [qw18, show wset w17 1 5 104 c i = w17 c i from if_neg (by omega)]
      rw [ow17 c i (by omega)]
      rw [qw16, show wnew w15 104 c i = w15 c i from if_neg (by omega)]
      rw [qw15, show wset w14 1 4 38 c i = w14 c i from if_neg (by omega)]
      rw [ow14 c i (by omega)]
      rw [qw13, show wnew w12 38 c i = w12 c i from if_neg (by omega)]
      rw [qw12, show wset w11 1 3 22 c i = w11 c i from if_neg (by omega)]
      rw [ow11 c i (by omega)]
      rw [qw10, show wnew w9 22 c i = w9 c i from if_neg (by omega)]
      rw [qw9, show wset w8 1 2 6 c i = w8 c i from if_neg (by omega)]
      rw [ow8 c i (by omega)]
      rw [qw7, show wnew w6 6 c i = w6 c i from if_neg (by omega)]
      rw [qw6, show wset w5 1 1 4 c i = w5 c i from if_neg (by omega)]
      exact rw5 c i (by omega) (by omega)
    · rw [qw23, show wset w22 1 7 114 c i = w22 c i from if_neg (by omega)]
      rw [qw22, show wnew w21 114 c i = w21 c i from if_neg (by omega)]
      rw [qw21, show wset w20 1 6 107 c i = w20 c i from if_neg (by omega)]
      rw [ow20 c i (by omega)]
      rw [qw19, show wnew w18 107 c i = w18 c i from if_neg (by omega)]
      rw [qw18, show wset w17 1 5 104 c i = w17 c i from if_neg (by omega)]
      rw [ow17 c i (by omega)]
      rw [qw16, show wnew w15 104 c i = w15 c i from if_neg (by omega)]
      rw [qw15, show wset w14 1 4 38 c i = w14 c i from if_neg (by omega)]
      rw [ow14 c i (by omega)]
      rw [qw13, show wnew w12 38 c i = w12 c i from if_neg (by omega)]
      rw [qw12, show wset w11 1 3 22 c i = w11 c i from if_neg (by omega)]
      rw [ow11 c i (by omega)]
      rw [qw10, show wnew w9 22 c i = w9 c i from if_neg (by omega)]
      rw [qw9, show wset w8 1 2 6 c i = w8 c i from if_neg (by omega)]
      exact rw8 c i (by omega) (by omega)
    · rw [qw23, show wset w22 1 7 114 c i = w22 c i from if_neg (by omega)]
      rw [qw22, show wnew w21 114 c i = w21 c i from if_neg (by omega)]
      rw [qw21, show wset w20 1 6 107 c i = w20 c i from if_neg (by omega)]
      rw [ow20 c i (by omega)]
      rw [qw19, show wnew w18 107 c i = w18 c i from if_neg (by omega)]
      rw [qw18, show wset w17 1 5 104 c i = w17 c i from if_neg (by omega)]
      rw [ow17 c i (by omega)]
      rw [qw16, show wnew w15 104 c i = w15 c i from if_neg (by omega)]
      rw [qw15, show wset w14 1 4 38 c i = w14 c i from if_neg (by omega)]
      rw [ow14 c i (by omega)]
      rw [qw13, show wnew w12 38 c i = w12 c i from if_neg (by omega)]
      rw [qw12, show wset w11 1 3 22 c i = w11 c i from if_neg (by omega)]
      exact rw11 c i (by omega) (by omega)
    · rw [qw23, show wset w22 1 7 114 c i = w22 c i from if_neg (by omega)]
      rw [qw22, show wnew w21 114 c i = w21 c i from if_neg (by omega)]
      rw [qw21, show wset w20 1 6 107 c i = w20 c i from if_neg (by omega)]
      rw [ow20 c i (by omega)]
      rw [qw19, show wnew w18 107 c i = w18 c i from if_neg (by omega)]
      rw [qw18, show wset w17 1 5 104 c i = w17 c i from if_neg (by omega)]
      rw [ow17 c i (by omega)]
      rw [qw16, show wnew w15 104 c i = w15 c i from if_neg (by omega)]
      rw [qw15, show wset w14 1 4 38 c i = w14 c i from if_neg (by omega)]
      exact rw14 c i (by omega) (by omega)
    · rw [qw23, show wset w22 1 7 114 c i = w22 c i from if_neg (by omega)]
      rw [qw22, show wnew w21 114 c i = w21 c i from if_neg (by omega)]
      rw [qw21, show wset w20 1 6 107 c i = w20 c i from if_neg (by omega)]
      rw [ow20 c i (by omega)]
      rw [qw19, show wnew w18 107 c i = w18 c i from if_neg (by omega)]
      rw [qw18, show wset w17 1 5 104 c i = w17 c i from if_neg (by omega)]
      exact rw17 c i (by omega) (by omega)
    · rw [qw23, show wset w22 1 7 114 c i = w22 c i from if_neg (by omega)]
      rw [qw22, show wnew w21 114 c i = w21 c i from if_neg (by omega)]
      rw [qw21, show wset w20 1 6 107 c i = w20 c i from if_neg (by omega)]
      exact rw20 c i (by omega) (by omega)
    · by_cases e0 : i = 0
      · subst e0
        simp [qw1, ow2, rw2, qw3, qw4, ow5, rw5, qw6, qw7, ow8, rw8, qw9, qw10, ow11, rw11, qw12, qw13, ow14, rw14, qw15, qw16, ow17, rw17, qw18, qw19, ow20, rw20, qw21, qw22, qw23, wset, wnew, w00, rowS, rowM, hz]
      by_cases e1 : i = 1
      · subst e1
        simp [qw1, ow2, rw2, qw3, qw4, ow5, rw5, qw6, qw7, ow8, rw8, qw9, qw10, ow11, rw11, qw12, qw13, ow14, rw14, qw15, qw16, ow17, rw17, qw18, qw19, ow20, rw20, qw21, qw22, qw23, wset, wnew, w00, rowS, rowM, hz]
      by_cases e2 : i = 2
      · subst e2
        simp [qw1, ow2, rw2, qw3, qw4, ow5, rw5, qw6, qw7, ow8, rw8, qw9, qw10, ow11, rw11, qw12, qw13, ow14, rw14, qw15, qw16, ow17, rw17, qw18, qw19, ow20, rw20, qw21, qw22, qw23, wset, wnew, w00, rowS, rowM, hz]
      by_cases e3 : i = 3
      · subst e3
        simp [qw1, ow2, rw2, qw3, qw4, ow5, rw5, qw6, qw7, ow8, rw8, qw9, qw10, ow11, rw11, qw12, qw13, ow14, rw14, qw15, qw16, ow17, rw17, qw18, qw19, ow20, rw20, qw21, qw22, qw23, wset, wnew, w00, rowS, rowM, hz]
      by_cases e4 : i = 4
      · subst e4
        simp [qw1, ow2, rw2, qw3, qw4, ow5, rw5, qw6, qw7, ow8, rw8, qw9, qw10, ow11, rw11, qw12, qw13, ow14, rw14, qw15, qw16, ow17, rw17, qw18, qw19, ow20, rw20, qw21, qw22, qw23, wset, wnew, w00, rowS, rowM, hz]
      by_cases e5 : i = 5
      · subst e5
        simp [qw1, ow2, rw2, qw3, qw4, ow5, rw5, qw6, qw7, ow8, rw8, qw9, qw10, ow11, rw11, qw12, qw13, ow14, rw14, qw15, qw16, ow17, rw17, qw18, qw19, ow20, rw20, qw21, qw22, qw23, wset, wnew, w00, rowS, rowM, hz]
      by_cases e6 : i = 6
      · subst e6
        simp [qw1, ow2, rw2, qw3, qw4, ow5, rw5, qw6, qw7, ow8, rw8, qw9, qw10, ow11, rw11, qw12, qw13, ow14, rw14, qw15, qw16, ow17, rw17, qw18, qw19, ow20, rw20, qw21, qw22, qw23, wset, wnew, w00, rowS, rowM, hz]
      by_cases e7 : i = 7
      · subst e7
        simp [qw1, ow2, rw2, qw3, qw4, ow5, rw5, qw6, qw7, ow8, rw8, qw9, qw10, ow11, rw11, qw12, qw13, ow14, rw14, qw15, qw16, ow17, rw17, qw18, qw19, ow20, rw20, qw21, qw22, qw23, wset, wnew, w00, rowS, rowM, hz]
      simp [qw1, ow2, rw2, qw3, qw4, ow5, rw5, qw6, qw7, ow8, rw8, qw9, qw10, ow11, rw11, qw12, qw13, ow14, rw14, qw15, qw16, ow17, rw17, qw18, qw19, ow20, rw20, qw21, qw22, qw23, wset, wnew, w00, rowS, rowM, hz, e0, e1, e2, e3, e4, e5, e6, e7]
    · simp [qw1, ow2, rw2, qw3, qw4, ow5, rw5, qw6, qw7, ow8, rw8, qw9, qw10, ow11, rw11, qw12, qw13, ow14, rw14, qw15, qw16, ow17, rw17, qw18, qw19, ow20, rw20, qw21, qw22, qw23, wset, wnew, w00, rowS, rowM, hz]
set_option maxRecDepth 10000 in
theorem kw_X9_115 {d : Nat} {w : Wd} {K : Wd → Prop} (hd : 1 ≤ d) (hz : ∀ i, w 115 i = 0) (h : ∀ w', (∀ c i, (c < 115 ∨ 143 < c) → w' c i = w c i) → (∀ c i, 115 ≤ c → c ≤ 143 → w' c i = w00 c i) → K w') : EvA false yX9_init cX9_init 1 none d 115 28 25624 [.inr (.inr 115)] w (rV K) := by
  refine EvA.of (by decide +kernel) (Nat.le_of_ble_eq_true rfl) ?_
  change WA false yX9_init cX9_init 1 none d 115 28 25624 0 [some (.inr (.inr 115))] [] w (rV K)
  refine WA.aload_n dX9_init_0 rfl (by decide) ?_
  refine WA.objInit dX9_init_1 (am_mem 756 (by decide +kernel) rfl) (am_mem 23 (by decide +kernel) rfl) (am_mem 24 (by decide +kernel) rfl) (by decide) (Nat.le_trans (by decide) hd) (Nat.le_of_ble_eq_true rfl) ?_
  refine WA.aload_n dX9_init_4 rfl (by decide) ?_
  refine WA.sipush dX9_init_5 ⟨by decide, by decide⟩ ?_
  refine WA.newarray2 (n2 := 116) (kc := 27) (ks := 22846) (N := 2778) (c := 116) (K := 0) rfl rfl rfl (by decide) dX9_init_8 (by decide) rfl (by decide) rfl (by decide) (by decide) (am_mem 43 (by decide +kernel) rfl) ?_
  obtain ⟨w1, qw1⟩ : ∃ z, z = wnew w 116 := ⟨_, rfl⟩
  rw [← qw1]
  refine pfX9_7 rfl rfl rfl dX9_init_10 (by decide : am_obj 116 115 9 45) ?_
  obtain ⟨w2, qw2⟩ : ∃ z, z = wset w1 115 0 116 := ⟨_, rfl⟩
  rw [← qw2]
  refine WA.aload_n dX9_init_13 rfl (by decide) ?_
  refine WA.sipush dX9_init_14 ⟨by decide, by decide⟩ ?_
  refine WA.newarray2 (n2 := 117) (kc := 26) (ks := 11734) (N := 11112) (c := 117) (K := 0) rfl rfl rfl (by decide) dX9_init_17 (by decide) rfl (by decide) rfl (by decide) (by decide) (am_mem 43 (by decide +kernel) rfl) ?_
  obtain ⟨w3, qw3⟩ : ∃ z, z = wnew w2 117 := ⟨_, rfl⟩
  rw [← qw3]
  refine pfX9_13 rfl rfl rfl dX9_init_19 (by decide : am_obj 117 115 9 45) ?_
  obtain ⟨w4, qw4⟩ : ∃ z, z = wset w3 115 1 117 := ⟨_, rfl⟩
  rw [← qw4]
  refine WA.aload_n dX9_init_22 rfl (by decide) ?_
  refine WA.bipush dX9_init_23 ⟨by decide, by decide⟩ ?_
  refine WA.newarray2 (n2 := 118) (kc := 25) (ks := 11704) (N := 30) (c := 118) (K := 0) rfl rfl rfl (by decide) dX9_init_25 (by decide) rfl (by decide) rfl (by decide) (by decide) (am_mem 43 (by decide +kernel) rfl) ?_
  obtain ⟨w5, qw5⟩ : ∃ z, z = wnew w4 118 := ⟨_, rfl⟩
  rw [← qw5]
  refine pfX9_16 rfl rfl rfl dX9_init_27 (by decide : am_obj 118 115 9 45) ?_
  obtain ⟨w6, qw6⟩ : ∃ z, z = wset w5 115 3 118 := ⟨_, rfl⟩
  rw [← qw6]
  refine WA.aload_n dX9_init_30 rfl (by decide) ?_
  refine WA.bipush dX9_init_31 ⟨by decide, by decide⟩ ?_
  refine WA.newarray2 (n2 := 119) (kc := 24) (ks := 11632) (N := 72) (c := 119) (K := 0) rfl rfl rfl (by decide) dX9_init_33 (by decide) rfl (by decide) rfl (by decide) (by decide) (am_mem 43 (by decide +kernel) rfl) ?_
  obtain ⟨w7, qw7⟩ : ∃ z, z = wnew w6 119 := ⟨_, rfl⟩
  rw [← qw7]
  refine pfX9_19 rfl rfl rfl dX9_init_35 (by decide : am_obj 119 115 9 45) ?_
  obtain ⟨w8, qw8⟩ : ∃ z, z = wset w7 115 5 119 := ⟨_, rfl⟩
  rw [← qw8]
  refine WA.aload_n dX9_init_38 rfl (by decide) ?_
  refine WA.bipush dX9_init_39 ⟨by decide, by decide⟩ ?_
  refine WA.newarray2 (n2 := 120) (kc := 23) (ks := 11560) (N := 72) (c := 120) (K := 0) rfl rfl rfl (by decide) dX9_init_41 (by decide) rfl (by decide) rfl (by decide) (by decide) (am_mem 43 (by decide +kernel) rfl) ?_
  obtain ⟨w9, qw9⟩ : ∃ z, z = wnew w8 120 := ⟨_, rfl⟩
  rw [← qw9]
  refine pfX9_22 rfl rfl rfl dX9_init_43 (by decide : am_obj 120 115 9 45) ?_
  obtain ⟨w10, qw10⟩ : ∃ z, z = wset w9 115 6 120 := ⟨_, rfl⟩
  rw [← qw10]
  refine WA.aload_n dX9_init_46 rfl (by decide) ?_
  refine WA.bipush dX9_init_47 ⟨by decide, by decide⟩ ?_
  refine WA.newarray2 (n2 := 121) (kc := 22) (ks := 11488) (N := 72) (c := 121) (K := 1) rfl rfl rfl (by decide) dX9_init_49 (by decide) rfl (by decide) rfl (by decide) (by decide) (am_mem 893 (by decide +kernel) rfl) ?_
  obtain ⟨w11, qw11⟩ : ∃ z, z = wnew w10 121 := ⟨_, rfl⟩
  rw [← qw11]
  refine pfX9_25 rfl rfl rfl dX9_init_51 (by decide : am_obj 121 115 9 45) ?_
  obtain ⟨w12, qw12⟩ : ∃ z, z = wset w11 115 7 121 := ⟨_, rfl⟩
  rw [← qw12]
  refine WA.aload_n dX9_init_54 rfl (by decide) ?_
  refine WA.bipush dX9_init_55 ⟨by decide, by decide⟩ ?_
  refine WA.newarray2 (n2 := 122) (kc := 21) (ks := 11416) (N := 72) (c := 122) (K := 0) rfl rfl rfl (by decide) dX9_init_57 (by decide) rfl (by decide) rfl (by decide) (by decide) (am_mem 43 (by decide +kernel) rfl) ?_
  obtain ⟨w13, qw13⟩ : ∃ z, z = wnew w12 122 := ⟨_, rfl⟩
  rw [← qw13]
  refine pfX9_29 rfl rfl rfl dX9_init_59 (by decide : am_obj 122 115 9 45) ?_
  obtain ⟨w14, qw14⟩ : ∃ z, z = wset w13 115 8 122 := ⟨_, rfl⟩
  rw [← qw14]
  refine WA.aload_n dX9_init_62 rfl (by decide) ?_
  refine WA.bipush dX9_init_63 ⟨by decide, by decide⟩ ?_
  refine WA.newarray2 (n2 := 123) (kc := 20) (ks := 11344) (N := 72) (c := 123) (K := 0) rfl rfl rfl (by decide) dX9_init_65 (by decide) rfl (by decide) rfl (by decide) (by decide) (am_mem 43 (by decide +kernel) rfl) ?_
  obtain ⟨w15, qw15⟩ : ∃ z, z = wnew w14 123 := ⟨_, rfl⟩
  rw [← qw15]
  refine pfX9_32 rfl rfl rfl dX9_init_67 (by decide : am_obj 123 115 9 45) ?_
  obtain ⟨w16, qw16⟩ : ∃ z, z = wset w15 115 9 123 := ⟨_, rfl⟩
  rw [← qw16]
  refine WA.aload_n dX9_init_70 rfl (by decide) ?_
  refine WA.sipush dX9_init_71 ⟨by decide, by decide⟩ ?_
  refine WA.newarray2 (n2 := 124) (kc := 19) (ks := 6160) (N := 5184) (c := 124) (K := 0) rfl rfl rfl (by decide) dX9_init_74 (by decide) rfl (by decide) rfl (by decide) (by decide) (am_mem 43 (by decide +kernel) rfl) ?_
  obtain ⟨w17, qw17⟩ : ∃ z, z = wnew w16 124 := ⟨_, rfl⟩
  rw [← qw17]
  refine pfX9_35 rfl rfl rfl dX9_init_76 (by decide : am_obj 124 115 9 45) ?_
  obtain ⟨w18, qw18⟩ : ∃ z, z = wset w17 115 10 124 := ⟨_, rfl⟩
  rw [← qw18]
  refine WA.aload_n dX9_init_79 rfl (by decide) ?_
  refine WA.bipush dX9_init_80 ⟨by decide, by decide⟩ ?_
  refine WA.newarray2 (n2 := 125) (kc := 18) (ks := 6088) (N := 72) (c := 125) (K := 0) rfl rfl rfl (by decide) dX9_init_82 (by decide) rfl (by decide) rfl (by decide) (by decide) (am_mem 43 (by decide +kernel) rfl) ?_
  obtain ⟨w19, qw19⟩ : ∃ z, z = wnew w18 125 := ⟨_, rfl⟩
  rw [← qw19]
  refine pfX9_38 rfl rfl rfl dX9_init_84 (by decide : am_obj 125 115 9 45) ?_
  obtain ⟨w20, qw20⟩ : ∃ z, z = wset w19 115 11 125 := ⟨_, rfl⟩
  rw [← qw20]
  refine WA.aload_n dX9_init_87 rfl (by decide) ?_
  refine WA.bipush dX9_init_88 ⟨by decide, by decide⟩ ?_
  refine WA.newarray2 (n2 := 126) (kc := 17) (ks := 6016) (N := 72) (c := 126) (K := 0) rfl rfl rfl (by decide) dX9_init_90 (by decide) rfl (by decide) rfl (by decide) (by decide) (am_mem 43 (by decide +kernel) rfl) ?_
  obtain ⟨w21, qw21⟩ : ∃ z, z = wnew w20 126 := ⟨_, rfl⟩
  rw [← qw21]
  refine pfX9_41 rfl rfl rfl dX9_init_92 (by decide : am_obj 126 115 9 45) ?_
  obtain ⟨w22, qw22⟩ : ∃ z, z = wset w21 115 12 126 := ⟨_, rfl⟩
  rw [← qw22]
  refine WA.aload_n dX9_init_95 rfl (by decide) ?_
  refine WA.bipush dX9_init_96 ⟨by decide, by decide⟩ ?_
  refine WA.newarray2 (n2 := 127) (kc := 16) (ks := 5944) (N := 72) (c := 127) (K := 1) rfl rfl rfl (by decide) dX9_init_98 (by decide) rfl (by decide) rfl (by decide) (by decide) (am_mem 893 (by decide +kernel) rfl) ?_
  obtain ⟨w23, qw23⟩ : ∃ z, z = wnew w22 127 := ⟨_, rfl⟩
  rw [← qw23]
  refine pfX9_44 rfl rfl rfl dX9_init_100 (by decide : am_obj 127 115 9 45) ?_
  obtain ⟨w24, qw24⟩ : ∃ z, z = wset w23 115 13 127 := ⟨_, rfl⟩
  rw [← qw24]
  refine WA.aload_n dX9_init_103 rfl (by decide) ?_
  refine WA.bipush dX9_init_104 ⟨by decide, by decide⟩ ?_
  refine WA.newarray2 (n2 := 128) (kc := 15) (ks := 5872) (N := 72) (c := 128) (K := 1) rfl rfl rfl (by decide) dX9_init_106 (by decide) rfl (by decide) rfl (by decide) (by decide) (am_mem 893 (by decide +kernel) rfl) ?_
  obtain ⟨w25, qw25⟩ : ∃ z, z = wnew w24 128 := ⟨_, rfl⟩
  rw [← qw25]
  refine pfX9_47 rfl rfl rfl dX9_init_108 (by decide : am_obj 128 115 9 45) ?_
  obtain ⟨w26, qw26⟩ : ∃ z, z = wset w25 115 14 128 := ⟨_, rfl⟩
  rw [← qw26]
  refine WA.aload_n dX9_init_111 rfl (by decide) ?_
  refine WA.bipush dX9_init_112 ⟨by decide, by decide⟩ ?_
  refine WA.newarray2 (n2 := 129) (kc := 14) (ks := 5800) (N := 72) (c := 129) (K := 0) rfl rfl rfl (by decide) dX9_init_114 (by decide) rfl (by decide) rfl (by decide) (by decide) (am_mem 43 (by decide +kernel) rfl) ?_
  obtain ⟨w27, qw27⟩ : ∃ z, z = wnew w26 129 := ⟨_, rfl⟩
  rw [← qw27]
  refine pfX9_50 rfl rfl rfl dX9_init_116 (by decide : am_obj 129 115 9 45) ?_
  obtain ⟨w28, qw28⟩ : ∃ z, z = wset w27 115 15 129 := ⟨_, rfl⟩
  rw [← qw28]
  refine WA.aload_n dX9_init_119 rfl (by decide) ?_
  refine WA.sipush dX9_init_120 ⟨by decide, by decide⟩ ?_
  refine WA.newarray2 (n2 := 130) (kc := 13) (ks := 616) (N := 5184) (c := 130) (K := 0) rfl rfl rfl (by decide) dX9_init_123 (by decide) rfl (by decide) rfl (by decide) (by decide) (am_mem 43 (by decide +kernel) rfl) ?_
  obtain ⟨w29, qw29⟩ : ∃ z, z = wnew w28 130 := ⟨_, rfl⟩
  rw [← qw29]
  refine pfX9_53 rfl rfl rfl dX9_init_125 (by decide : am_obj 130 115 9 45) ?_
  obtain ⟨w30, qw30⟩ : ∃ z, z = wset w29 115 16 130 := ⟨_, rfl⟩
  rw [← qw30]
  refine WA.aload_n dX9_init_128 rfl (by decide) ?_
  refine WA.bipush dX9_init_129 ⟨by decide, by decide⟩ ?_
  refine WA.newarray2 (n2 := 131) (kc := 12) (ks := 544) (N := 72) (c := 131) (K := 1) rfl rfl rfl (by decide) dX9_init_131 (by decide) rfl (by decide) rfl (by decide) (by decide) (am_mem 893 (by decide +kernel) rfl) ?_
  obtain ⟨w31, qw31⟩ : ∃ z, z = wnew w30 131 := ⟨_, rfl⟩
  rw [← qw31]
  refine pfX9_56 rfl rfl rfl dX9_init_133 (by decide : am_obj 131 115 9 45) ?_
  obtain ⟨w32, qw32⟩ : ∃ z, z = wset w31 115 17 131 := ⟨_, rfl⟩
  rw [← qw32]
  refine WA.aload_n dX9_init_136 rfl (by decide) ?_
  refine WA.bipush dX9_init_137 ⟨by decide, by decide⟩ ?_
  refine WA.newarray2 (n2 := 132) (kc := 11) (ks := 472) (N := 72) (c := 132) (K := 1) rfl rfl rfl (by decide) dX9_init_139 (by decide) rfl (by decide) rfl (by decide) (by decide) (am_mem 893 (by decide +kernel) rfl) ?_
  obtain ⟨w33, qw33⟩ : ∃ z, z = wnew w32 132 := ⟨_, rfl⟩
  rw [← qw33]
  refine pfX9_59 rfl rfl rfl dX9_init_141 (by decide : am_obj 132 115 9 45) ?_
  obtain ⟨w34, qw34⟩ : ∃ z, z = wset w33 115 18 132 := ⟨_, rfl⟩
  rw [← qw34]
  refine WA.aload_n dX9_init_144 rfl (by decide) ?_
  refine WA.iconst dX9_init_145 ⟨by decide, by decide⟩ ?_
  refine pfX9_62 rfl dX9_init_146 (by decide : am_obj 132 115 9 45) (by decide) ?_
  obtain ⟨w35, qw35⟩ : ∃ z, z = wset w34 115 20 1 := ⟨_, rfl⟩
  rw [← qw35]
  refine WA.aload_n dX9_init_149 rfl (by decide) ?_
  refine WA.bipush dX9_init_150 ⟨by decide, by decide⟩ ?_
  refine WA.newarray2 (n2 := 133) (kc := 10) (ks := 432) (N := 40) (c := 133) (K := 0) rfl rfl rfl (by decide) dX9_init_152 (by decide) rfl (by decide) rfl (by decide) (by decide) (am_mem 43 (by decide +kernel) rfl) ?_
  obtain ⟨w36, qw36⟩ : ∃ z, z = wnew w35 133 := ⟨_, rfl⟩
  rw [← qw36]
  refine pfX9_66 rfl rfl rfl dX9_init_154 (by decide : am_obj 133 115 9 45) ?_
  obtain ⟨w37, qw37⟩ : ∃ z, z = wset w36 115 21 133 := ⟨_, rfl⟩
  rw [← qw37]
  refine WA.aload_n dX9_init_157 rfl (by decide) ?_
  refine WA.bipush dX9_init_158 ⟨by decide, by decide⟩ ?_
  refine WA.newarray2 (n2 := 134) (kc := 9) (ks := 392) (N := 40) (c := 134) (K := 0) rfl rfl rfl (by decide) dX9_init_160 (by decide) rfl (by decide) rfl (by decide) (by decide) (am_mem 43 (by decide +kernel) rfl) ?_
  obtain ⟨w38, qw38⟩ : ∃ z, z = wnew w37 134 := ⟨_, rfl⟩
  rw [← qw38]
  refine pfX9_69 rfl rfl rfl dX9_init_162 (by decide : am_obj 134 115 9 45) ?_
  obtain ⟨w39, qw39⟩ : ∃ z, z = wset w38 115 22 134 := ⟨_, rfl⟩
  rw [← qw39]
  refine WA.aload_n dX9_init_165 rfl (by decide) ?_
  refine WA.bipush dX9_init_166 ⟨by decide, by decide⟩ ?_
  refine WA.newarray2 (n2 := 135) (kc := 8) (ks := 352) (N := 40) (c := 135) (K := 1) rfl rfl rfl (by decide) dX9_init_168 (by decide) rfl (by decide) rfl (by decide) (by decide) (am_mem 893 (by decide +kernel) rfl) ?_
  obtain ⟨w40, qw40⟩ : ∃ z, z = wnew w39 135 := ⟨_, rfl⟩
  rw [← qw40]
  refine pfX9_72 rfl rfl rfl dX9_init_170 (by decide : am_obj 135 115 9 45) ?_
  obtain ⟨w41, qw41⟩ : ∃ z, z = wset w40 115 28 135 := ⟨_, rfl⟩
  rw [← qw41]
  refine WA.aload_n dX9_init_173 rfl (by decide) ?_
  refine WA.bipush dX9_init_174 ⟨by decide, by decide⟩ ?_
  refine WA.newarray2 (n2 := 136) (kc := 7) (ks := 312) (N := 40) (c := 136) (K := 1) rfl rfl rfl (by decide) dX9_init_176 (by decide) rfl (by decide) rfl (by decide) (by decide) (am_mem 893 (by decide +kernel) rfl) ?_
  obtain ⟨w42, qw42⟩ : ∃ z, z = wnew w41 136 := ⟨_, rfl⟩
  rw [← qw42]
  refine pfX9_75 rfl rfl rfl dX9_init_178 (by decide : am_obj 136 115 9 45) ?_
  obtain ⟨w43, qw43⟩ : ∃ z, z = wset w42 115 29 136 := ⟨_, rfl⟩
  rw [← qw43]
  refine WA.aload_n dX9_init_181 rfl (by decide) ?_
  refine WA.bipush dX9_init_182 ⟨by decide, by decide⟩ ?_
  refine WA.newarray2 (n2 := 137) (kc := 6) (ks := 272) (N := 40) (c := 137) (K := 2) rfl rfl rfl (by decide) dX9_init_184 (by decide) rfl (by decide) rfl (by decide) (by decide) (am_mem 894 (by decide +kernel) rfl) ?_
  obtain ⟨w44, qw44⟩ : ∃ z, z = wnew w43 137 := ⟨_, rfl⟩
  rw [← qw44]
  refine pfX9_78 rfl rfl rfl dX9_init_186 (by decide : am_obj 137 115 9 45) ?_
  obtain ⟨w45, qw45⟩ : ∃ z, z = wset w44 115 30 137 := ⟨_, rfl⟩
  rw [← qw45]
  refine WA.aload_n dX9_init_189 rfl (by decide) ?_
  refine WA.bipush dX9_init_190 ⟨by decide, by decide⟩ ?_
  refine WA.newarray2 (n2 := 138) (kc := 5) (ks := 232) (N := 40) (c := 138) (K := 2) rfl rfl rfl (by decide) dX9_init_192 (by decide) rfl (by decide) rfl (by decide) (by decide) (am_mem 894 (by decide +kernel) rfl) ?_
  obtain ⟨w46, qw46⟩ : ∃ z, z = wnew w45 138 := ⟨_, rfl⟩
  rw [← qw46]
  refine pfX9_82 rfl rfl rfl dX9_init_194 (by decide : am_obj 138 115 9 45) ?_
  obtain ⟨w47, qw47⟩ : ∃ z, z = wset w46 115 31 138 := ⟨_, rfl⟩
  rw [← qw47]
  refine WA.aload_n dX9_init_197 rfl (by decide) ?_
  refine WA.bipush dX9_init_198 ⟨by decide, by decide⟩ ?_
  refine WA.newarray2 (n2 := 139) (kc := 4) (ks := 192) (N := 40) (c := 139) (K := 0) rfl rfl rfl (by decide) dX9_init_200 (by decide) rfl (by decide) rfl (by decide) (by decide) (am_mem 43 (by decide +kernel) rfl) ?_
  obtain ⟨w48, qw48⟩ : ∃ z, z = wnew w47 139 := ⟨_, rfl⟩
  rw [← qw48]
  refine pfX9_85 rfl rfl rfl dX9_init_202 (by decide : am_obj 139 115 9 45) ?_
  obtain ⟨w49, qw49⟩ : ∃ z, z = wset w48 115 32 139 := ⟨_, rfl⟩
  rw [← qw49]
  refine WA.aload_n dX9_init_205 rfl (by decide) ?_
  refine WA.bipush dX9_init_206 ⟨by decide, by decide⟩ ?_
  refine WA.newarray2 (n2 := 140) (kc := 3) (ks := 152) (N := 40) (c := 140) (K := 2) rfl rfl rfl (by decide) dX9_init_208 (by decide) rfl (by decide) rfl (by decide) (by decide) (am_mem 894 (by decide +kernel) rfl) ?_
  obtain ⟨w50, qw50⟩ : ∃ z, z = wnew w49 140 := ⟨_, rfl⟩
  rw [← qw50]
  refine pfX9_88 rfl rfl rfl dX9_init_210 (by decide : am_obj 140 115 9 45) ?_
  obtain ⟨w51, qw51⟩ : ∃ z, z = wset w50 115 33 140 := ⟨_, rfl⟩
  rw [← qw51]
  refine WA.aload_n dX9_init_213 rfl (by decide) ?_
  refine WA.bipush dX9_init_214 ⟨by decide, by decide⟩ ?_
  refine WA.newarray2 (n2 := 141) (kc := 2) (ks := 112) (N := 40) (c := 141) (K := 1) rfl rfl rfl (by decide) dX9_init_216 (by decide) rfl (by decide) rfl (by decide) (by decide) (am_mem 893 (by decide +kernel) rfl) ?_
  obtain ⟨w52, qw52⟩ : ∃ z, z = wnew w51 141 := ⟨_, rfl⟩
  rw [← qw52]
  refine pfX9_91 rfl rfl rfl dX9_init_218 (by decide : am_obj 141 115 9 45) ?_
  obtain ⟨w53, qw53⟩ : ∃ z, z = wset w52 115 34 141 := ⟨_, rfl⟩
  rw [← qw53]
  refine WA.aload_n dX9_init_221 rfl (by decide) ?_
  refine WA.bipush dX9_init_222 ⟨by decide, by decide⟩ ?_
  refine WA.newarray2 (n2 := 142) (kc := 1) (ks := 72) (N := 40) (c := 142) (K := 2) rfl rfl rfl (by decide) dX9_init_224 (by decide) rfl (by decide) rfl (by decide) (by decide) (am_mem 894 (by decide +kernel) rfl) ?_
  obtain ⟨w54, qw54⟩ : ∃ z, z = wnew w53 142 := ⟨_, rfl⟩
  rw [← qw54]
  refine pfX9_94 rfl rfl rfl dX9_init_226 (by decide : am_obj 142 115 9 45) ?_
  obtain ⟨w55, qw55⟩ : ∃ z, z = wset w54 115 35 142 := ⟨_, rfl⟩
  rw [← qw55]
  refine WA.aload_n dX9_init_229 rfl (by decide) ?_
  refine WA.iconst dX9_init_230 ⟨by decide, by decide⟩ ?_
  refine pfX9_97 rfl dX9_init_231 (by decide : am_obj 142 115 9 45) ?_
  obtain ⟨w56, qw56⟩ : ∃ z, z = wset w55 115 42 (-1) := ⟨_, rfl⟩
  rw [← qw56]
  refine WA.aload_n dX9_init_234 rfl (by decide) ?_
  refine WA.bipush dX9_init_235 ⟨by decide, by decide⟩ ?_
  refine WA.newarray2 (n2 := 143) (kc := 0) (ks := 0) (N := 72) (c := 143) (K := 1) rfl rfl rfl (by decide) dX9_init_237 (by decide) rfl (by decide) rfl (by decide) (by decide) (am_mem 893 (by decide +kernel) rfl) ?_
  obtain ⟨w57, qw57⟩ : ∃ z, z = wnew w56 143 := ⟨_, rfl⟩
  rw [← qw57]
  refine pfX9_101 rfl rfl rfl dX9_init_239 (by decide : am_obj 143 115 9 45) ?_
  obtain ⟨w58, qw58⟩ : ∃ z, z = wset w57 115 44 143 := ⟨_, rfl⟩
  rw [← qw58]
  refine WA.vreturn dX9_init_242 ⟨rfl, ?_⟩
  refine h w58 ?_ ?_
  · intro c i hc
    rw [qw58, show wset w57 115 44 143 c i = w57 c i from if_neg (by omega)]
    rw [qw57, show wnew w56 143 c i = w56 c i from if_neg (by omega)]
    rw [qw56, show wset w55 115 42 (-1) c i = w55 c i from if_neg (by omega)]
    rw [qw55, show wset w54 115 35 142 c i = w54 c i from if_neg (by omega)]
    rw [qw54, show wnew w53 142 c i = w53 c i from if_neg (by omega)]
    rw [qw53, show wset w52 115 34 141 c i = w52 c i from if_neg (by omega)]
    rw [qw52, show wnew w51 141 c i = w51 c i from if_neg (by omega)]
    rw [qw51, show wset w50 115 33 140 c i = w50 c i from if_neg (by omega)]
    rw [qw50, show wnew w49 140 c i = w49 c i from if_neg (by omega)]
    rw [qw49, show wset w48 115 32 139 c i = w48 c i from if_neg (by omega)]
    rw [qw48, show wnew w47 139 c i = w47 c i from if_neg (by omega)]
    rw [qw47, show wset w46 115 31 138 c i = w46 c i from if_neg (by omega)]
    rw [qw46, show wnew w45 138 c i = w45 c i from if_neg (by omega)]
    rw [qw45, show wset w44 115 30 137 c i = w44 c i from if_neg (by omega)]
    rw [qw44, show wnew w43 137 c i = w43 c i from if_neg (by omega)]
    rw [qw43, show wset w42 115 29 136 c i = w42 c i from if_neg (by omega)]
    rw [qw42, show wnew w41 136 c i = w41 c i from if_neg (by omega)]
    rw [qw41, show wset w40 115 28 135 c i = w40 c i from if_neg (by omega)]
    rw [qw40, show wnew w39 135 c i = w39 c i from if_neg (by omega)]
    rw [qw39, show wset w38 115 22 134 c i = w38 c i from if_neg (by omega)]
    rw [qw38, show wnew w37 134 c i = w37 c i from if_neg (by omega)]
    rw [qw37, show wset w36 115 21 133 c i = w36 c i from if_neg (by omega)]
    rw [qw36, show wnew w35 133 c i = w35 c i from if_neg (by omega)]
    rw [qw35, show wset w34 115 20 1 c i = w34 c i from if_neg (by omega)]
    rw [qw34, show wset w33 115 18 132 c i = w33 c i from if_neg (by omega)]
    rw [qw33, show wnew w32 132 c i = w32 c i from if_neg (by omega)]
    rw [qw32, show wset w31 115 17 131 c i = w31 c i from if_neg (by omega)]
    rw [qw31, show wnew w30 131 c i = w30 c i from if_neg (by omega)]
    rw [qw30, show wset w29 115 16 130 c i = w29 c i from if_neg (by omega)]
    rw [qw29, show wnew w28 130 c i = w28 c i from if_neg (by omega)]
    rw [qw28, show wset w27 115 15 129 c i = w27 c i from if_neg (by omega)]
    rw [qw27, show wnew w26 129 c i = w26 c i from if_neg (by omega)]
    rw [qw26, show wset w25 115 14 128 c i = w25 c i from if_neg (by omega)]
    rw [qw25, show wnew w24 128 c i = w24 c i from if_neg (by omega)]
    rw [qw24, show wset w23 115 13 127 c i = w23 c i from if_neg (by omega)]
    rw [qw23, show wnew w22 127 c i = w22 c i from if_neg (by omega)]
    rw [qw22, show wset w21 115 12 126 c i = w21 c i from if_neg (by omega)]
    rw [qw21, show wnew w20 126 c i = w20 c i from if_neg (by omega)]
    rw [qw20, show wset w19 115 11 125 c i = w19 c i from if_neg (by omega)]
    rw [qw19, show wnew w18 125 c i = w18 c i from if_neg (by omega)]
    rw [qw18, show wset w17 115 10 124 c i = w17 c i from if_neg (by omega)]
    rw [qw17, show wnew w16 124 c i = w16 c i from if_neg (by omega)]
    rw [qw16, show wset w15 115 9 123 c i = w15 c i from if_neg (by omega)]
    rw [qw15, show wnew w14 123 c i = w14 c i from if_neg (by omega)]
    rw [qw14, show wset w13 115 8 122 c i = w13 c i from if_neg (by omega)]
    rw [qw13, show wnew w12 122 c i = w12 c i from if_neg (by omega)]
    rw [qw12, show wset w11 115 7 121 c i = w11 c i from if_neg (by omega)]
    rw [qw11, show wnew w10 121 c i = w10 c i from if_neg (by omega)]
    rw [qw10, show wset w9 115 6 120 c i = w9 c i from if_neg (by omega)]
    rw [qw9, show wnew w8 120 c i = w8 c i from if_neg (by omega)]
    rw [qw8, show wset w7 115 5 119 c i = w7 c i from if_neg (by omega)]
    rw [qw7, show wnew w6 119 c i = w6 c i from if_neg (by omega)]
    rw [qw6, show wset w5 115 3 118 c i = w5 c i from if_neg (by omega)]
    rw [qw5, show wnew w4 118 c i = w4 c i from if_neg (by omega)]
    rw [qw4, show wset w3 115 1 117 c i = w3 c i from if_neg (by omega)]
    rw [qw3, show wnew w2 117 c i = w2 c i from if_neg (by omega)]
    rw [qw2, show wset w1 115 0 116 c i = w1 c i from if_neg (by omega)]
    rw [qw1, show wnew w 116 c i = w c i from if_neg (by omega)]
  · intro c i hc1 hc2
    have hc : c = 115 ∨ c = 116 ∨ c = 117 ∨ c = 118 ∨ c = 119 ∨ c = 120 ∨ c = 121 ∨ c = 122 ∨ c = 123 ∨ c = 124 ∨ c = 125 ∨ c = 126 ∨ c = 127 ∨ c = 128 ∨ c = 129 ∨ c = 130 ∨ c = 131 ∨ c = 132 ∨ c = 133 ∨ c = 134 ∨ c = 135 ∨ c = 136 ∨ c = 137 ∨ c = 138 ∨ c = 139 ∨ c = 140 ∨ c = 141 ∨ c = 142 ∨ c = 143 := by omega
    rcases hc with rfl | rfl | rfl | rfl | rfl | rfl | rfl | rfl | rfl | rfl | rfl | rfl | rfl | rfl | rfl | rfl | rfl | rfl | rfl | rfl | rfl | rfl | rfl | rfl | rfl | rfl | rfl | rfl | rfl
    · by_cases e0 : i = 0
      · subst e0
        simp [qw1, qw2, qw3, qw4, qw5, qw6, qw7, qw8, qw9, qw10, qw11, qw12, qw13, qw14, qw15, qw16, qw17, qw18, qw19, qw20, qw21, qw22, qw23, qw24, qw25, qw26, qw27, qw28, qw29, qw30, qw31, qw32, qw33, qw34, qw35, qw36, qw37, qw38, qw39, qw40, qw41, qw42, qw43, qw44, qw45, qw46, qw47, qw48, qw49, qw50, qw51, qw52, qw53, qw54, qw55, qw56, qw57, qw58, wset, wnew, w00, rowS, rowM, hz]
      by_cases e1 : i = 1
      · subst e1
        simp [qw1, qw2, qw3, qw4, qw5, qw6, qw7, qw8, qw9, qw10, qw11, qw12, qw13, qw14, qw15, qw16, qw17, qw18, qw19, qw20, qw21, qw22, qw23, qw24, qw25, qw26, qw27, qw28, qw29, qw30, qw31, qw32, qw33, qw34, qw35, qw36, qw37, qw38, qw39, qw40, qw41, qw42, qw43, qw44, qw45, qw46, qw47, qw48, qw49, qw50, qw51, qw52, qw53, qw54, qw55, qw56, qw57, qw58, wset, wnew, w00, rowS, rowM, hz]
      by_cases e3 : i = 3
      · subst e3
        simp [qw1, qw2, qw3, qw4, qw5, qw6, qw7, qw8, qw9, qw10, qw11, qw12, qw13, qw14, qw15, qw16, qw17, qw18, qw19, qw20, qw21, qw22, qw23, qw24, qw25, qw26, qw27, qw28, qw29, qw30, qw31, qw32, qw33, qw34, qw35, qw36, qw37, qw38, qw39, qw40, qw41, qw42, qw43, qw44, qw45, qw46, qw47, qw48, qw49, qw50, qw51, qw52, qw53, qw54, qw55, qw56, qw57, qw58, wset, wnew, w00, rowS, rowM, hz]
      by_cases e5 : i = 5
      · subst e5
        simp [qw1, qw2, qw3, qw4, qw5, qw6, qw7, qw8, qw9, qw10, qw11, qw12, qw13, qw14, qw15, qw16, qw17, qw18, qw19, qw20, qw21, qw22, qw23, qw24, qw25, qw26, qw27, qw28, qw29, qw30, qw31, qw32, qw33, qw34, qw35, qw36, qw37, qw38, qw39, qw40, qw41, qw42, qw43, qw44, qw45, qw46, qw47, qw48, qw49, qw50, qw51, qw52, qw53, qw54, qw55, qw56, qw57, qw58, wset, wnew, w00, rowS, rowM, hz]
      by_cases e6 : i = 6
      · subst e6
        simp [qw1, qw2, qw3, qw4, qw5, qw6, qw7, qw8, qw9, qw10, qw11, qw12, qw13, qw14, qw15, qw16, qw17, qw18, qw19, qw20, qw21, qw22, qw23, qw24, qw25, qw26, qw27, qw28, qw29, qw30, qw31, qw32, qw33, qw34, qw35, qw36, qw37, qw38, qw39, qw40, qw41, qw42, qw43, qw44, qw45, qw46, qw47, qw48, qw49, qw50, qw51, qw52, qw53, qw54, qw55, qw56, qw57, qw58, wset, wnew, w00, rowS, rowM, hz]
      by_cases e7 : i = 7
      · subst e7
        simp [qw1, qw2, qw3, qw4, qw5, qw6, qw7, qw8, qw9, qw10, qw11, qw12, qw13, qw14, qw15, qw16, qw17, qw18, qw19, qw20, qw21, qw22, qw23, qw24, qw25, qw26, qw27, qw28, qw29, qw30, qw31, qw32, qw33, qw34, qw35, qw36, qw37, qw38, qw39, qw40, qw41, qw42, qw43, qw44, qw45, qw46, qw47, qw48, qw49, qw50, qw51, qw52, qw53, qw54, qw55, qw56, qw57, qw58, wset, wnew, w00, rowS, rowM, hz]
      by_cases e8 : i = 8
      · subst e8
        simp [qw1, qw2, qw3, qw4, qw5, qw6, qw7, qw8, qw9, qw10, qw11, qw12, qw13, qw14, qw15, qw16, qw17, qw18, qw19, qw20, qw21, qw22, qw23, qw24, qw25, qw26, qw27, qw28, qw29, qw30, qw31, qw32, qw33, qw34, qw35, qw36, qw37, qw38, qw39, qw40, qw41, qw42, qw43, qw44, qw45, qw46, qw47, qw48, qw49, qw50, qw51, qw52, qw53, qw54, qw55, qw56, qw57, qw58, wset, wnew, w00, rowS, rowM, hz]
      by_cases e9 : i = 9
      · subst e9
        simp [qw1, qw2, qw3, qw4, qw5, qw6, qw7, qw8, qw9, qw10, qw11, qw12, qw13, qw14, qw15, qw16, qw17, qw18, qw19, qw20, qw21, qw22, qw23, qw24, qw25, qw26, qw27, qw28, qw29, qw30, qw31, qw32, qw33, qw34, qw35, qw36, qw37, qw38, qw39, qw40, qw41, qw42, qw43, qw44, qw45, qw46, qw47, qw48, qw49, qw50, qw51, qw52, qw53, qw54, qw55, qw56, qw57, qw58, wset, wnew, w00, rowS, rowM, hz]
      by_cases e10 : i = 10
      · subst e10
        simp [qw1, qw2, qw3, qw4, qw5, qw6, qw7, qw8, qw9, qw10, qw11, qw12, qw13, qw14, qw15, qw16, qw17, qw18, qw19, qw20, qw21, qw22, qw23, qw24, qw25, qw26, qw27, qw28, qw29, qw30, qw31, qw32, qw33, qw34, qw35, qw36, qw37, qw38, qw39, qw40, qw41, qw42, qw43, qw44, qw45, qw46, qw47, qw48, qw49, qw50, qw51, qw52, qw53, qw54, qw55, qw56, qw57, qw58, wset, wnew, w00, rowS, rowM, hz]
      by_cases e11 : i = 11
      · subst e11
        simp [qw1, qw2, qw3, qw4, qw5, qw6, qw7, qw8, qw9, qw10, qw11, qw12, qw13, qw14, qw15, qw16, qw17, qw18, qw19, qw20, qw21, qw22, qw23, qw24, qw25, qw26, qw27, qw28, qw29, qw30, qw31, qw32, qw33, qw34, qw35, qw36, qw37, qw38, qw39, qw40, qw41, qw42, qw43, qw44, qw45, qw46, qw47, qw48, qw49, qw50, qw51, qw52, qw53, qw54, qw55, qw56, qw57, qw58, wset, wnew, w00, rowS, rowM, hz]
      by_cases e12 : i = 12
      · subst e12
        simp [qw1, qw2, qw3, qw4, qw5, qw6, qw7, qw8, qw9, qw10, qw11, qw12, qw13, qw14, qw15, qw16, qw17, qw18, qw19, qw20, qw21, qw22, qw23, qw24, qw25, qw26, qw27, qw28, qw29, qw30, qw31, qw32, qw33, qw34, qw35, qw36, qw37, qw38, qw39, qw40, qw41, qw42, qw43, qw44, qw45, qw46, qw47, qw48, qw49, qw50, qw51, qw52, qw53, qw54, qw55, qw56, qw57, qw58, wset, wnew, w00, rowS, rowM, hz]
      by_cases e13 : i = 13
      · subst e13
        simp [qw1, qw2, qw3, qw4, qw5, qw6, qw7, qw8, qw9, qw10, qw11, qw12, qw13, qw14, qw15, qw16, qw17, qw18, qw19, qw20, qw21, qw22, qw23, qw24, qw25, qw26, qw27, qw28, qw29, qw30, qw31, qw32, qw33, qw34, qw35, qw36, qw37, qw38, qw39, qw40, qw41, qw42, qw43, qw44, qw45, qw46, qw47, qw48, qw49, qw50, qw51, qw52, qw53, qw54, qw55, qw56, qw57, qw58, wset, wnew, w00, rowS, rowM, hz]
      by_cases e14 : i = 14
      · subst e14
        simp [qw1, qw2, qw3, qw4, qw5, qw6, qw7, qw8, qw9, qw10, qw11, qw12, qw13, qw14, qw15, qw16, qw17, qw18, qw19, qw20, qw21, qw22, qw23, qw24, qw25, qw26, qw27, qw28, qw29, qw30, qw31, qw32, qw33, qw34, qw35, qw36, qw37, qw38, qw39, qw40, qw41, qw42, qw43, qw44, qw45, qw46, qw47, qw48, qw49, qw50, qw51, qw52, qw53, qw54, qw55, qw56, qw57, qw58, wset, wnew, w00, rowS, rowM, hz]
      by_cases e15 : i = 15
      · subst e15
        simp [qw1, qw2, qw3, qw4, qw5, qw6, qw7, qw8, qw9, qw10, qw11, qw12, qw13, qw14, qw15, qw16, qw17, qw18, qw19, qw20, qw21, qw22, qw23, qw24, qw25, qw26, qw27, qw28, qw29, qw30, qw31, qw32, qw33, qw34, qw35, qw36, qw37, qw38, qw39, qw40, qw41, qw42, qw43, qw44, qw45, qw46, qw47, qw48, qw49, qw50, qw51, qw52, qw53, qw54, qw55, qw56, qw57, qw58, wset, wnew, w00, rowS, rowM, hz]
      by_cases e16 : i = 16
      · subst e16
        simp [qw1, qw2, qw3, qw4, qw5, qw6, qw7, qw8, qw9, qw10, qw11, qw12, qw13, qw14, qw15, qw16, qw17, qw18, qw19, qw20, qw21, qw22, qw23, qw24, qw25, qw26, qw27, qw28, qw29, qw30, qw31, qw32, qw33, qw34, qw35, qw36, qw37, qw38, qw39, qw40, qw41, qw42, qw43, qw44, qw45, qw46, qw47, qw48, qw49, qw50, qw51, qw52, qw53, qw54, qw55, qw56, qw57, qw58, wset, wnew, w00, rowS, rowM, hz]
      by_cases e17 : i = 17
      · subst e17
        simp [qw1, qw2, qw3, qw4, qw5, qw6, qw7, qw8, qw9, qw10, qw11, qw12, qw13, qw14, qw15, qw16, qw17, qw18, qw19, qw20, qw21, qw22, qw23, qw24, qw25, qw26, qw27, qw28, qw29, qw30, qw31, qw32, qw33, qw34, qw35, qw36, qw37, qw38, qw39, qw40, qw41, qw42, qw43, qw44, qw45, qw46, qw47, qw48, qw49, qw50, qw51, qw52, qw53, qw54, qw55, qw56, qw57, qw58, wset, wnew, w00, rowS, rowM, hz]
      by_cases e18 : i = 18
      · subst e18
        simp [qw1, qw2, qw3, qw4, qw5, qw6, qw7, qw8, qw9, qw10, qw11, qw12, qw13, qw14, qw15, qw16, qw17, qw18, qw19, qw20, qw21, qw22, qw23, qw24, qw25, qw26, qw27, qw28, qw29, qw30, qw31, qw32, qw33, qw34, qw35, qw36, qw37, qw38, qw39, qw40, qw41, qw42, qw43, qw44, qw45, qw46, qw47, qw48, qw49, qw50, qw51, qw52, qw53, qw54, qw55, qw56, qw57, qw58, wset, wnew, w00, rowS, rowM, hz]
      by_cases e20 : i = 20
      · subst e20
        simp [qw1, qw2, qw3, qw4, qw5, qw6, qw7, qw8, qw9, qw10, qw11, qw12, qw13, qw14, qw15, qw16, qw17, qw18, qw19, qw20, qw21, qw22, qw23, qw24, qw25, qw26, qw27, qw28, qw29, qw30, qw31, qw32, qw33, qw34, qw35, qw36, qw37, qw38, qw39, qw40, qw41, qw42, qw43, qw44, qw45, qw46, qw47, qw48, qw49, qw50, qw51, qw52, qw53, qw54, qw55, qw56, qw57, qw58, wset, wnew, w00, rowS, rowM, hz]
      by_cases e21 : i = 21
      · subst e21
        simp [qw1, qw2, qw3, qw4, qw5, qw6, qw7, qw8, qw9, qw10, qw11, qw12, qw13, qw14, qw15, qw16, qw17, qw18, qw19, qw20, qw21, qw22, qw23, qw24, qw25, qw26, qw27, qw28, qw29, qw30, qw31, qw32, qw33, qw34, qw35, qw36, qw37, qw38, qw39, qw40, qw41, qw42, qw43, qw44, qw45, qw46, qw47, qw48, qw49, qw50, qw51, qw52, qw53, qw54, qw55, qw56, qw57, qw58, wset, wnew, w00, rowS, rowM, hz]
      by_cases e22 : i = 22
      · subst e22
        simp [qw1, qw2, qw3, qw4, qw5, qw6, qw7, qw8, qw9, qw10, qw11, qw12, qw13, qw14, qw15, qw16, qw17, qw18, qw19, qw20, qw21, qw22, qw23, qw24, qw25, qw26, qw27, qw28, qw29, qw30, qw31, qw32, qw33, qw34, qw35, qw36, qw37, qw38, qw39, qw40, qw41, qw42, qw43, qw44, qw45, qw46, qw47, qw48, qw49, qw50, qw51, qw52, qw53, qw54, qw55, qw56, qw57, qw58, wset, wnew, w00, rowS, rowM, hz]
      by_cases e28 : i = 28
      · subst e28
        simp [qw1, qw2, qw3, qw4, qw5, qw6, qw7, qw8, qw9, qw10, qw11, qw12, qw13, qw14, qw15, qw16, qw17, qw18, qw19, qw20, qw21, qw22, qw23, qw24, qw25, qw26, qw27, qw28, qw29, qw30, qw31, qw32, qw33, qw34, qw35, qw36, qw37, qw38, qw39, qw40, qw41, qw42, qw43, qw44, qw45, qw46, qw47, qw48, qw49, qw50, qw51, qw52, qw53, qw54, qw55, qw56, qw57, qw58, wset, wnew, w00, rowS, rowM, hz]
      by_cases e29 : i = 29
      · subst e29
        simp [qw1, qw2, qw3, qw4, qw5, qw6, qw7, qw8, qw9, qw10, qw11, qw12, qw13, qw14, qw15, qw16, qw17, qw18, qw19, qw20, qw21, qw22, qw23, qw24, qw25, qw26, qw27, qw28, qw29, qw30, qw31, qw32, qw33, qw34, qw35, qw36, qw37, qw38, qw39, qw40, qw41, qw42, qw43, qw44, qw45, qw46, qw47, qw48, qw49, qw50, qw51, qw52, qw53, qw54, qw55, qw56, qw57, qw58, wset, wnew, w00, rowS, rowM, hz]
      by_cases e30 : i = 30
      · subst e30
        simp [qw1, qw2, qw3, qw4, qw5, qw6, qw7, qw8, qw9, qw10, qw11, qw12, qw13, qw14, qw15, qw16, qw17, qw18, qw19, qw20, qw21, qw22, qw23, qw24, qw25, qw26, qw27, qw28, qw29, qw30, qw31, qw32, qw33, qw34, qw35, qw36, qw37, qw38, qw39, qw40, qw41, qw42, qw43, qw44, qw45, qw46, qw47, qw48, qw49, qw50, qw51, qw52, qw53, qw54, qw55, qw56, qw57, qw58, wset, wnew, w00, rowS, rowM, hz]
      by_cases e31 : i = 31
      · subst e31
        simp [qw1, qw2, qw3, qw4, qw5, qw6, qw7, qw8, qw9, qw10, qw11, qw12, qw13, qw14, qw15, qw16, qw17, qw18, qw19, qw20, qw21, qw22, qw23, qw24, qw25, qw26, qw27, qw28, qw29, qw30, qw31, qw32, qw33, qw34, qw35, qw36, qw37, qw38, qw39, qw40, qw41, qw42, qw43, qw44, qw45, qw46, qw47, qw48, qw49, qw50, qw51, qw52, qw53, qw54, qw55, qw56, qw57, qw58, wset, wnew, w00, rowS, rowM, hz]
      by_cases e32 : i = 32
      · subst e32
        simp [qw1, qw2, qw3, qw4, qw5, qw6, qw7, qw8, qw9, qw10, qw11, qw12, qw13, qw14, qw15, qw16, qw17, qw18, qw19, qw20, qw21, qw22, qw23, qw24, qw25, qw26, qw27, qw28, qw29, qw30, qw31, qw32, qw33, qw34, qw35, qw36, qw37, qw38, qw39, qw40, qw41, qw42, qw43, qw44, qw45, qw46, qw47, qw48, qw49, qw50, qw51, qw52, qw53, qw54, qw55, qw56, qw57, qw58, wset, wnew, w00, rowS, rowM, hz]
      by_cases e33 : i = 33
      · subst e33
        simp [qw1, qw2, qw3, qw4, qw5, qw6, qw7, qw8, qw9, qw10, qw11, qw12, qw13, qw14, qw15, qw16, qw17, qw18, qw19, qw20, qw21, qw22, qw23, qw24, qw25, qw26, qw27, qw28, qw29, qw30, qw31, qw32, qw33, qw34, qw35, qw36, qw37, qw38, qw39, qw40, qw41, qw42, qw43, qw44, qw45, qw46, qw47, qw48, qw49, qw50, qw51, qw52, qw53, qw54, qw55, qw56, qw57, qw58, wset, wnew, w00, rowS, rowM, hz]
      by_cases e34 : i = 34
      · subst e34
        simp [qw1, qw2, qw3, qw4, qw5, qw6, qw7, qw8, qw9, qw10, qw11, qw12, qw13, qw14, qw15, qw16, qw17, qw18, qw19, qw20, qw21, qw22, qw23, qw24, qw25, qw26, qw27, qw28, qw29, qw30, qw31, qw32, qw33, qw34, qw35, qw36, qw37, qw38, qw39, qw40, qw41, qw42, qw43, qw44, qw45, qw46, qw47, qw48, qw49, qw50, qw51, qw52, qw53, qw54, qw55, qw56, qw57, qw58, wset, wnew, w00, rowS, rowM, hz]
      by_cases e35 : i = 35
      · subst e35
        simp [qw1, qw2, qw3, qw4, qw5, qw6, qw7, qw8, qw9, qw10, qw11, qw12, qw13, qw14, qw15, qw16, qw17, qw18, qw19, qw20, qw21, qw22, qw23, qw24, qw25, qw26, qw27, qw28, qw29, qw30, qw31, qw32, qw33, qw34, qw35, qw36, qw37, qw38, qw39, qw40, qw41, qw42, qw43, qw44, qw45, qw46, qw47, qw48, qw49, qw50, qw51, qw52, qw53, qw54, qw55, qw56, qw57, qw58, wset, wnew, w00, rowS, rowM, hz]
      by_cases e42 : i = 42
      · subst e42
        simp [qw1, qw2, qw3, qw4, qw5, qw6, qw7, qw8, qw9, qw10, qw11, qw12, qw13, qw14, qw15, qw16, qw17, qw18, qw19, qw20, qw21, qw22, qw23, qw24, qw25, qw26, qw27, qw28, qw29, qw30, qw31, qw32, qw33, qw34, qw35, qw36, qw37, qw38, qw39, qw40, qw41, qw42, qw43, qw44, qw45, qw46, qw47, qw48, qw49, qw50, qw51, qw52, qw53, qw54, qw55, qw56, qw57, qw58, wset, wnew, w00, rowS, rowM, hz]
      by_cases e44 : i = 44
      · subst e44
        simp [qw1, qw2, qw3, qw4, qw5, qw6, qw7, qw8, qw9, qw10, qw11, qw12, qw13, qw14, qw15, qw16, qw17, qw18, qw19, qw20, qw21, qw22, qw23, qw24, qw25, qw26, qw27, qw28, qw29, qw30, qw31, qw32, qw33, qw34, qw35, qw36, qw37, qw38, qw39, qw40, qw41, qw42, qw43, qw44, qw45, qw46, qw47, qw48, qw49, qw50, qw51, qw52, qw53, qw54, qw55, qw56, qw57, qw58, wset, wnew, w00, rowS, rowM, hz]
      have g0 : ¬ (5 ≤ i ∧ i ≤ 18) := by omega
      have g1 : ¬ (28 ≤ i ∧ i ≤ 35) := by omega
      simp [qw1, qw2, qw3, qw4, qw5, qw6, qw7, qw8, qw9, qw10, qw11, qw12, qw13, qw14, qw15, qw16, qw17, qw18, qw19, qw20, qw21, qw22, qw23, qw24, qw25, qw26, qw27, qw28, qw29, qw30, qw31, qw32, qw33, qw34, qw35, qw36, qw37, qw38, qw39, qw40, qw41, qw42, qw43, qw44, qw45, qw46, qw47, qw48, qw49, qw50, qw51, qw52, qw53, qw54, qw55, qw56, qw57, qw58, wset, wnew, w00, rowS, rowM, hz, g0, g1, e0, e1, e3, e5, e6, e7, e8, e9, e10, e11, e12, e13, e14, e15, e16, e17, e18, e20, e21, e22, e28, e29, e30, e31, e32, e33, e34, e35, e42, e44]
    · simp [qw1, qw2, qw3, qw4, qw5, qw6, qw7, qw8, qw9, qw10, qw11, qw12, qw13, qw14, qw15, qw16, qw17, qw18, qw19, qw20, qw21, qw22, qw23, qw24, qw25, qw26, qw27, qw28, qw29, qw30, qw31, qw32, qw33, qw34, qw35, qw36, qw37, qw38, qw39, qw40, qw41, qw42, qw43, qw44, qw45, qw46, qw47, qw48, qw49, qw50, qw51, qw52, qw53, qw54, qw55, qw56, qw57, qw58, wset, wnew, w00, rowS, rowM, hz]
    · simp [qw1, qw2, qw3, qw4, qw5, qw6, qw7, qw8, qw9, qw10, qw11, qw12, qw13, qw14, qw15, qw16, qw17, qw18, qw19, qw20, qw21, qw22, qw23, qw24, qw25, qw26, qw27, qw28, qw29, qw30, qw31, qw32, qw33, qw34, qw35, qw36, qw37, qw38, qw39, qw40, qw41, qw42, qw43, qw44, qw45, qw46, qw47, qw48, qw49, qw50, qw51, qw52, qw53, qw54, qw55, qw56, qw57, qw58, wset, wnew, w00, rowS, rowM, hz]
    · simp [qw1, qw2, qw3, qw4, qw5, qw6, qw7, qw8, qw9, qw10, qw11, qw12, qw13, qw14, qw15, qw16, qw17, qw18, qw19, qw20, qw21, qw22, qw23, qw24, qw25, qw26, qw27, qw28, qw29, qw30, qw31, qw32, qw33, qw34, qw35, qw36, qw37, qw38, qw39, qw40, qw41, qw42, qw43, qw44, qw45, qw46, qw47, qw48, qw49, qw50, qw51, qw52, qw53, qw54, qw55, qw56, qw57, qw58, wset, wnew, w00, rowS, rowM, hz]
    · simp [qw1, qw2, qw3, qw4, qw5, qw6, qw7, qw8, qw9, qw10, qw11, qw12, qw13, qw14, qw15, qw16, qw17, qw18, qw19, qw20, qw21, qw22, qw23, qw24, qw25, qw26, qw27, qw28, qw29, qw30, qw31, qw32, qw33, qw34, qw35, qw36, qw37, qw38, qw39, qw40, qw41, qw42, qw43, qw44, qw45, qw46, qw47, qw48, qw49, qw50, qw51, qw52, qw53, qw54, qw55, qw56, qw57, qw58, wset, wnew, w00, rowS, rowM, hz]
    · simp [qw1, qw2, qw3, qw4, qw5, qw6, qw7, qw8, qw9, qw10, qw11, qw12, qw13, qw14, qw15, qw16, qw17, qw18, qw19, qw20, qw21, qw22, qw23, qw24, qw25, qw26, qw27, qw28, qw29, qw30, qw31, qw32, qw33, qw34, qw35, qw36, qw37, qw38, qw39, qw40, qw41, qw42, qw43, qw44, qw45, qw46, qw47, qw48, qw49, qw50, qw51, qw52, qw53, qw54, qw55, qw56, qw57, qw58, wset, wnew, w00, rowS, rowM, hz]
    · simp [qw1, qw2, qw3, qw4, qw5, qw6, qw7, qw8, qw9, qw10, qw11, qw12, qw13, qw14, qw15, qw16, qw17, qw18, qw19, qw20, qw21, qw22, qw23, qw24, qw25, qw26, qw27, qw28, qw29, qw30, qw31, qw32, qw33, qw34, qw35, qw36, qw37, qw38, qw39, qw40, qw41, qw42, qw43, qw44, qw45, qw46, qw47, qw48, qw49, qw50, qw51, qw52, qw53, qw54, qw55, qw56, qw57, qw58, wset, wnew, w00, rowS, rowM, hz]
    · simp [qw1, qw2, qw3, qw4, qw5, qw6, qw7, qw8, qw9, qw10, qw11, qw12, qw13, qw14, qw15, qw16, qw17, qw18, qw19, qw20, qw21, qw22, qw23, qw24, qw25, qw26, qw27, qw28, qw29, qw30, qw31, qw32, qw33, qw34, qw35, qw36, qw37, qw38, qw39, qw40, qw41, qw42, qw43, qw44, qw45, qw46, qw47, qw48, qw49, qw50, qw51, qw52, qw53, qw54, qw55, qw56, qw57, qw58, wset, wnew, w00, rowS, rowM, hz]
    · simp [qw1, qw2, qw3, qw4, qw5, qw6, qw7, qw8, qw9, qw10, qw11, qw12, qw13, qw14, qw15, qw16, qw17, qw18, qw19, qw20, qw21, qw22, qw23, qw24, qw25, qw26, qw27, qw28, qw29, qw30, qw31, qw32, qw33, qw34, qw35, qw36, qw37, qw38, qw39, qw40, qw41, qw42, qw43, qw44, qw45, qw46, qw47, qw48, qw49, qw50, qw51, qw52, qw53, qw54, qw55, qw56, qw57, qw58, wset, wnew, w00, rowS, rowM, hz]
    · simp [qw1, qw2, qw3, qw4, qw5, qw6, qw7, qw8, qw9, qw10, qw11, qw12, qw13, qw14, qw15, qw16, qw17, qw18, qw19, qw20, qw21, qw22, qw23, qw24, qw25, qw26, qw27, qw28, qw29, qw30, qw31, qw32, qw33, qw34, qw35, qw36, qw37, qw38, qw39, qw40, qw41, qw42, qw43, qw44, qw45, qw46, qw47, qw48, qw49, qw50, qw51, qw52, qw53, qw54, qw55, qw56, qw57, qw58, wset, wnew, w00, rowS, rowM, hz]
    · simp [qw1, qw2, qw3, qw4, qw5, qw6, qw7, qw8, qw9, qw10, qw11, qw12, qw13, qw14, qw15, qw16, qw17, qw18, qw19, qw20, qw21, qw22, qw23, qw24, qw25, qw26, qw27, qw28, qw29, qw30, qw31, qw32, qw33, qw34, qw35, qw36, qw37, qw38, qw39, qw40, qw41, qw42, qw43, qw44, qw45, qw46, qw47, qw48, qw49, qw50, qw51, qw52, qw53, qw54, qw55, qw56, qw57, qw58, wset, wnew, w00, rowS, rowM, hz]
    · simp [qw1, qw2, qw3, qw4, qw5, qw6, qw7, qw8, qw9, qw10, qw11, qw12, qw13, qw14, qw15, qw16, qw17, qw18, qw19, qw20, qw21, qw22, qw23, qw24, qw25, qw26, qw27, qw28, qw29, qw30, qw31, qw32, qw33, qw34, qw35, qw36, qw37, qw38, qw39, qw40, qw41, qw42, qw43, qw44, qw45, qw46, qw47, qw48, qw49, qw50, qw51, qw52, qw53, qw54, qw55, qw56, qw57, qw58, wset, wnew, w00, rowS, rowM, hz]
    · simp [qw1, qw2, qw3, qw4, qw5, qw6, qw7, qw8, qw9, qw10, qw11, qw12, qw13, qw14, qw15, qw16, qw17, qw18, qw19, qw20, qw21, qw22, qw23, qw24, qw25, qw26, qw27, qw28, qw29, qw30, qw31, qw32, qw33, qw34, qw35, qw36, qw37, qw38, qw39, qw40, qw41, qw42, qw43, qw44, qw45, qw46, qw47, qw48, qw49, qw50, qw51, qw52, qw53, qw54, qw55, qw56, qw57, qw58, wset, wnew, w00, rowS, rowM, hz]
    · simp [qw1, qw2, qw3, qw4, qw5, qw6, qw7, qw8, qw9, qw10, qw11, qw12, qw13, qw14, qw15, qw16, qw17, qw18, qw19, qw20, qw21, qw22, qw23, qw24, qw25, qw26, qw27, qw28, qw29, qw30, qw31, qw32, qw33, qw34, qw35, qw36, qw37, qw38, qw39, qw40, qw41, qw42, qw43, qw44, qw45, qw46, qw47, qw48, qw49, qw50, qw51, qw52, qw53, qw54, qw55, qw56, qw57, qw58, wset, wnew, w00, rowS, rowM, hz]
    · simp [qw1, qw2, qw3, qw4, qw5, qw6, qw7, qw8, qw9, qw10, qw11, qw12, qw13, qw14, qw15, qw16, qw17, qw18, qw19, qw20, qw21, qw22, qw23, qw24, qw25, qw26, qw27, qw28, qw29, qw30, qw31, qw32, qw33, qw34, qw35, qw36, qw37, qw38, qw39, qw40, qw41, qw42, qw43, qw44, qw45, qw46, qw47, qw48, qw49, qw50, qw51, qw52, qw53, qw54, qw55, qw56, qw57, qw58, wset, wnew, w00, rowS, rowM, hz]
    · simp [qw1, qw2, qw3, qw4, qw5, qw6, qw7, qw8, qw9, qw10, qw11, qw12, qw13, qw14, qw15, qw16, qw17, qw18, qw19, qw20, qw21, qw22, qw23, qw24, qw25, qw26, qw27, qw28, qw29, qw30, qw31, qw32, qw33, qw34, qw35, qw36, qw37, qw38, qw39, qw40, qw41, qw42, qw43, qw44, qw45, qw46, qw47, qw48, qw49, qw50, qw51, qw52, qw53, qw54, qw55, qw56, qw57, qw58, wset, wnew, w00, rowS, rowM, hz]
    · simp [qw1, qw2, qw3, qw4, qw5, qw6, qw7, qw8, qw9, qw10, qw11, qw12, qw13, qw14, qw15, qw16, qw17, qw18, qw19, qw20, qw21, qw22, qw23, qw24, qw25, qw26, qw27, qw28, qw29, qw30, qw31, qw32, qw33, qw34, qw35, qw36, qw37, qw38, qw39, qw40, qw41, qw42, qw43, qw44, qw45, qw46, qw47, qw48, qw49, qw50, qw51, qw52, qw53, qw54, qw55, qw56, qw57, qw58, wset, wnew, w00, rowS, rowM, hz]
    · simp [qw1, qw2, qw3, qw4, qw5, qw6, qw7, qw8, qw9, qw10, qw11, qw12, qw13, qw14, qw15, qw16, qw17, qw18, qw19, qw20, qw21, qw22, qw23, qw24, qw25, qw26, qw27, qw28, qw29, qw30, qw31, qw32, qw33, qw34, qw35, qw36, qw37, qw38, qw39, qw40, qw41, qw42, qw43, qw44, qw45, qw46, qw47, qw48, qw49, qw50, qw51, qw52, qw53, qw54, qw55, qw56, qw57, qw58, wset, wnew, w00, rowS, rowM, hz]
    · simp [qw1, qw2, qw3, qw4, qw5, qw6, qw7, qw8, qw9, qw10, qw11, qw12, qw13, qw14, qw15, qw16, qw17, qw18, qw19, qw20, qw21, qw22, qw23, qw24, qw25, qw26, qw27, qw28, qw29, qw30, qw31, qw32, qw33, qw34, qw35, qw36, qw37, qw38, qw39, qw40, qw41, qw42, qw43, qw44, qw45, qw46, qw47, qw48, qw49, qw50, qw51, qw52, qw53, qw54, qw55, qw56, qw57, qw58, wset, wnew, w00, rowS, rowM, hz]
    · simp [qw1, qw2, qw3, qw4, qw5, qw6, qw7, qw8, qw9, qw10, qw11, qw12, qw13, qw14, qw15, qw16, qw17, qw18, qw19, qw20, qw21, qw22, qw23, qw24, qw25, qw26, qw27, qw28, qw29, qw30, qw31, qw32, qw33, qw34, qw35, qw36, qw37, qw38, qw39, qw40, qw41, qw42, qw43, qw44, qw45, qw46, qw47, qw48, qw49, qw50, qw51, qw52, qw53, qw54, qw55, qw56, qw57, qw58, wset, wnew, w00, rowS, rowM, hz]
    · simp [qw1, qw2, qw3, qw4, qw5, qw6, qw7, qw8, qw9, qw10, qw11, qw12, qw13, qw14, qw15, qw16, qw17, qw18, qw19, qw20, qw21, qw22, qw23, qw24, qw25, qw26, qw27, qw28, qw29, qw30, qw31, qw32, qw33, qw34, qw35, qw36, qw37, qw38, qw39, qw40, qw41, qw42, qw43, qw44, qw45, qw46, qw47, qw48, qw49, qw50, qw51, qw52, qw53, qw54, qw55, qw56, qw57, qw58, wset, wnew, w00, rowS, rowM, hz]
    · simp [qw1, qw2, qw3, qw4, qw5, qw6, qw7, qw8, qw9, qw10, qw11, qw12, qw13, qw14, qw15, qw16, qw17, qw18, qw19, qw20, qw21, qw22, qw23, qw24, qw25, qw26, qw27, qw28, qw29, qw30, qw31, qw32, qw33, qw34, qw35, qw36, qw37, qw38, qw39, qw40, qw41, qw42, qw43, qw44, qw45, qw46, qw47, qw48, qw49, qw50, qw51, qw52, qw53, qw54, qw55, qw56, qw57, qw58, wset, wnew, w00, rowS, rowM, hz]
    · simp [qw1, qw2, qw3, qw4, qw5, qw6, qw7, qw8, qw9, qw10, qw11, qw12, qw13, qw14, qw15, qw16, qw17, qw18, qw19, qw20, qw21, qw22, qw23, qw24, qw25, qw26, qw27, qw28, qw29, qw30, qw31, qw32, qw33, qw34, qw35, qw36, qw37, qw38, qw39, qw40, qw41, qw42, qw43, qw44, qw45, qw46, qw47, qw48, qw49, qw50, qw51, qw52, qw53, qw54, qw55, qw56, qw57, qw58, wset, wnew, w00, rowS, rowM, hz]
    · simp [qw1, qw2, qw3, qw4, qw5, qw6, qw7, qw8, qw9, qw10, qw11, qw12, qw13, qw14, qw15, qw16, qw17, qw18, qw19, qw20, qw21, qw22, qw23, qw24, qw25, qw26, qw27, qw28, qw29, qw30, qw31, qw32, qw33, qw34, qw35, qw36, qw37, qw38, qw39, qw40, qw41, qw42, qw43, qw44, qw45, qw46, qw47, qw48, qw49, qw50, qw51, qw52, qw53, qw54, qw55, qw56, qw57, qw58, wset, wnew, w00, rowS, rowM, hz]
    · simp [qw1, qw2, qw3, qw4, qw5, qw6, qw7, qw8, qw9, qw10, qw11, qw12, qw13, qw14, qw15, qw16, qw17, qw18, qw19, qw20, qw21, qw22, qw23, qw24, qw25, qw26, qw27, qw28, qw29, qw30, qw31, qw32, qw33, qw34, qw35, qw36, qw37, qw38, qw39, qw40, qw41, qw42, qw43, qw44, qw45, qw46, qw47, qw48, qw49, qw50, qw51, qw52, qw53, qw54, qw55, qw56, qw57, qw58, wset, wnew, w00, rowS, rowM, hz]
    · simp [qw1, qw2, qw3, qw4, qw5, qw6, qw7, qw8, qw9, qw10, qw11, qw12, qw13, qw14, qw15, qw16, qw17, qw18, qw19, qw20, qw21, qw22, qw23, qw24, qw25, qw26, qw27, qw28, qw29, qw30, qw31, qw32, qw33, qw34, qw35, qw36, qw37, qw38, qw39, qw40, qw41, qw42, qw43, qw44, qw45, qw46, qw47, qw48, qw49, qw50, qw51, qw52, qw53, qw54, qw55, qw56, qw57, qw58, wset, wnew, w00, rowS, rowM, hz]
    · simp [qw1, qw2, qw3, qw4, qw5, qw6, qw7, qw8, qw9, qw10, qw11, qw12, qw13, qw14, qw15, qw16, qw17, qw18, qw19, qw20, qw21, qw22, qw23, qw24, qw25, qw26, qw27, qw28, qw29, qw30, qw31, qw32, qw33, qw34, qw35, qw36, qw37, qw38, qw39, qw40, qw41, qw42, qw43, qw44, qw45, qw46, qw47, qw48, qw49, qw50, qw51, qw52, qw53, qw54, qw55, qw56, qw57, qw58, wset, wnew, w00, rowS, rowM, hz]
    · simp [qw1, qw2, qw3, qw4, qw5, qw6, qw7, qw8, qw9, qw10, qw11, qw12, qw13, qw14, qw15, qw16, qw17, qw18, qw19, qw20, qw21, qw22, qw23, qw24, qw25, qw26, qw27, qw28, qw29, qw30, qw31, qw32, qw33, qw34, qw35, qw36, qw37, qw38, qw39, qw40, qw41, qw42, qw43, qw44, qw45, qw46, qw47, qw48, qw49, qw50, qw51, qw52, qw53, qw54, qw55, qw56, qw57, qw58, wset, wnew, w00, rowS, rowM, hz]
    · simp [qw1, qw2, qw3, qw4, qw5, qw6, qw7, qw8, qw9, qw10, qw11, qw12, qw13, qw14, qw15, qw16, qw17, qw18, qw19, qw20, qw21, qw22, qw23, qw24, qw25, qw26, qw27, qw28, qw29, qw30, qw31, qw32, qw33, qw34, qw35, qw36, qw37, qw38, qw39, qw40, qw41, qw42, qw43, qw44, qw45, qw46, qw47, qw48, qw49, qw50, qw51, qw52, qw53, qw54, qw55, qw56, qw57, qw58, wset, wnew, w00, rowS, rowM, hz]
