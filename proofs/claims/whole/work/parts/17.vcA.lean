abbrev W_X8_isCell (d pc : Nat) (als : List (Option AV)) (st : List AV) (w : Wd) (K : Int → Wd → Prop) : Prop := WA true yX8_isCell cX8_isCell 1 (some .boolean) d 143 0 0 pc als st w (rI K)
abbrev E_X8_isCell (d : Nat) (as : List AV) (w : Wd) (K : Int → Wd → Prop) : Prop := EvA true yX8_isCell cX8_isCell 1 (some .boolean) d 143 0 0 as w (rI K)
abbrev C_X8_isCell (d : Nat) (as : List AV) (w : Wd) (K : Int → Wd → Prop) : Prop := ∃ d', d' < d ∧ E_X8_isCell d' as w K
abbrev W_X8_isColumnLetter (d pc : Nat) (als : List (Option AV)) (st : List AV) (w : Wd) (K : Int → Wd → Prop) : Prop := WA true yX8_isColumnLetter cX8_isColumnLetter 1 (some .boolean) d 143 0 0 pc als st w (rI K)
abbrev E_X8_isColumnLetter (d : Nat) (as : List AV) (w : Wd) (K : Int → Wd → Prop) : Prop := EvA true yX8_isColumnLetter cX8_isColumnLetter 1 (some .boolean) d 143 0 0 as w (rI K)
abbrev C_X8_isColumnLetter (d : Nat) (as : List AV) (w : Wd) (K : Int → Wd → Prop) : Prop := ∃ d', d' < d ∧ E_X8_isColumnLetter d' as w K
abbrev W_X8_isRowDigit (d pc : Nat) (als : List (Option AV)) (st : List AV) (w : Wd) (K : Int → Wd → Prop) : Prop := WA true yX8_isRowDigit cX8_isRowDigit 1 (some .boolean) d 143 0 0 pc als st w (rI K)
abbrev E_X8_isRowDigit (d : Nat) (as : List AV) (w : Wd) (K : Int → Wd → Prop) : Prop := EvA true yX8_isRowDigit cX8_isRowDigit 1 (some .boolean) d 143 0 0 as w (rI K)
abbrev C_X8_isRowDigit (d : Nat) (as : List AV) (w : Wd) (K : Int → Wd → Prop) : Prop := ∃ d', d' < d ∧ E_X8_isRowDigit d' as w K
abbrev W_X8_isDigit (d pc : Nat) (als : List (Option AV)) (st : List AV) (w : Wd) (K : Int → Wd → Prop) : Prop := WA true yX8_isDigit cX8_isDigit 1 (some .boolean) d 143 0 0 pc als st w (rI K)
abbrev E_X8_isDigit (d : Nat) (as : List AV) (w : Wd) (K : Int → Wd → Prop) : Prop := EvA true yX8_isDigit cX8_isDigit 1 (some .boolean) d 143 0 0 as w (rI K)
abbrev C_X8_isDigit (d : Nat) (as : List AV) (w : Wd) (K : Int → Wd → Prop) : Prop := ∃ d', d' < d ∧ E_X8_isDigit d' as w K
abbrev W_X8_nameOf (d pc : Nat) (als : List (Option AV)) (st : List AV) (w : Wd) (K : Int → Wd → Prop) : Prop := WA true yX8_nameOf cX8_nameOf 1 (some (.object "java/lang/String")) d 143 0 0 pc als st w (rR K)
abbrev E_X8_nameOf (d : Nat) (as : List AV) (w : Wd) (K : Int → Wd → Prop) : Prop := EvA true yX8_nameOf cX8_nameOf 1 (some (.object "java/lang/String")) d 143 0 0 as w (rR K)
abbrev C_X8_nameOf (d : Nat) (as : List AV) (w : Wd) (K : Int → Wd → Prop) : Prop := ∃ d', d' < d ∧ E_X8_nameOf d' as w K
abbrev W_J9_floorDiv_f86c9 (d pc : Nat) (als : List (Option AV)) (st : List AV) (w : Wd) (K : Int → Wd → Prop) : Prop := WA true yJ9_floorDiv_f86c9 cJ9_floorDiv_f86c9 6 (some .long) d 143 0 0 pc als st w (rJ K)
abbrev E_J9_floorDiv_f86c9 (d : Nat) (as : List AV) (w : Wd) (K : Int → Wd → Prop) : Prop := EvA true yJ9_floorDiv_f86c9 cJ9_floorDiv_f86c9 6 (some .long) d 143 0 0 as w (rJ K)
abbrev C_J9_floorDiv_f86c9 (d : Nat) (as : List AV) (w : Wd) (K : Int → Wd → Prop) : Prop := ∃ d', d' < d ∧ E_J9_floorDiv_f86c9 d' as w K
abbrev W_J9_floorMod_f86c9 (d pc : Nat) (als : List (Option AV)) (st : List AV) (w : Wd) (K : Int → Wd → Prop) : Prop := WA true yJ9_floorMod_f86c9 cJ9_floorMod_f86c9 6 (some .long) d 143 0 0 pc als st w (rJ K)
abbrev E_J9_floorMod_f86c9 (d : Nat) (as : List AV) (w : Wd) (K : Int → Wd → Prop) : Prop := EvA true yJ9_floorMod_f86c9 cJ9_floorMod_f86c9 6 (some .long) d 143 0 0 as w (rJ K)
abbrev C_J9_floorMod_f86c9 (d : Nat) (as : List AV) (w : Wd) (K : Int → Wd → Prop) : Prop := ∃ d', d' < d ∧ E_J9_floorMod_f86c9 d' as w K
abbrev W_J0_coder_7d493 (d pc : Nat) (als : List (Option AV)) (st : List AV) (w : Wd) (K : Int → Wd → Prop) : Prop := WA true yJ0_coder_7d493 cJ0_coder_7d493 1 (some .byte) d 143 0 0 pc als st w (rI K)
abbrev E_J0_coder_7d493 (d : Nat) (as : List AV) (w : Wd) (K : Int → Wd → Prop) : Prop := EvA true yJ0_coder_7d493 cJ0_coder_7d493 1 (some .byte) d 143 0 0 as w (rI K)
abbrev C_J0_coder_7d493 (d : Nat) (as : List AV) (w : Wd) (K : Int → Wd → Prop) : Prop := ∃ d', d' < d ∧ E_J0_coder_7d493 d' as w K
abbrev W_J0_isLatin1_aae02 (d pc : Nat) (als : List (Option AV)) (st : List AV) (w : Wd) (K : Int → Wd → Prop) : Prop := WA true yJ0_isLatin1_aae02 cJ0_isLatin1_aae02 1 (some .boolean) d 143 0 0 pc als st w (rI K)
abbrev E_J0_isLatin1_aae02 (d : Nat) (as : List AV) (w : Wd) (K : Int → Wd → Prop) : Prop := EvA true yJ0_isLatin1_aae02 cJ0_isLatin1_aae02 1 (some .boolean) d 143 0 0 as w (rI K)
abbrev C_J0_isLatin1_aae02 (d : Nat) (as : List AV) (w : Wd) (K : Int → Wd → Prop) : Prop := ∃ d', d' < d ∧ E_J0_isLatin1_aae02 d' as w K
abbrev W_J0_length_8abf5 (d pc : Nat) (als : List (Option AV)) (st : List AV) (w : Wd) (K : Int → Wd → Prop) : Prop := WA true yJ0_length_8abf5 cJ0_length_8abf5 1 (some .int) d 143 0 0 pc als st w (rI K)
abbrev E_J0_length_8abf5 (d : Nat) (as : List AV) (w : Wd) (K : Int → Wd → Prop) : Prop := EvA true yJ0_length_8abf5 cJ0_length_8abf5 1 (some .int) d 143 0 0 as w (rI K)
abbrev C_J0_length_8abf5 (d : Nat) (as : List AV) (w : Wd) (K : Int → Wd → Prop) : Prop := ∃ d', d' < d ∧ E_J0_length_8abf5 d' as w K
abbrev W_J3_checkIndex_8e157 (d pc : Nat) (als : List (Option AV)) (st : List AV) (w : Wd) (K : Int → Wd → Prop) : Prop := WA true yJ3_checkIndex_8e157 cJ3_checkIndex_8e157 3 (some .int) d 143 0 0 pc als st w (rI K)
abbrev E_J3_checkIndex_8e157 (d : Nat) (as : List AV) (w : Wd) (K : Int → Wd → Prop) : Prop := EvA true yJ3_checkIndex_8e157 cJ3_checkIndex_8e157 3 (some .int) d 143 0 0 as w (rI K)
abbrev C_J3_checkIndex_8e157 (d : Nat) (as : List AV) (w : Wd) (K : Int → Wd → Prop) : Prop := ∃ d', d' < d ∧ E_J3_checkIndex_8e157 d' as w K
abbrev W_J0_checkIndex_df160 (d pc : Nat) (als : List (Option AV)) (st : List AV) (w : Wd) (K : Wd → Prop) : Prop := WA true yJ0_checkIndex_df160 cJ0_checkIndex_df160 2 none d 143 0 0 pc als st w (rV K)
abbrev E_J0_checkIndex_df160 (d : Nat) (as : List AV) (w : Wd) (K : Wd → Prop) : Prop := EvA true yJ0_checkIndex_df160 cJ0_checkIndex_df160 2 none d 143 0 0 as w (rV K)
abbrev C_J0_checkIndex_df160 (d : Nat) (as : List AV) (w : Wd) (K : Wd → Prop) : Prop := ∃ d', d' < d ∧ E_J0_checkIndex_df160 d' as w K
abbrev W_J1_charAt_3b067 (d pc : Nat) (als : List (Option AV)) (st : List AV) (w : Wd) (K : Int → Wd → Prop) : Prop := WA true yJ1_charAt_3b067 cJ1_charAt_3b067 2 (some .char) d 143 0 0 pc als st w (rI K)
abbrev E_J1_charAt_3b067 (d : Nat) (as : List AV) (w : Wd) (K : Int → Wd → Prop) : Prop := EvA true yJ1_charAt_3b067 cJ1_charAt_3b067 2 (some .char) d 143 0 0 as w (rI K)
abbrev C_J1_charAt_3b067 (d : Nat) (as : List AV) (w : Wd) (K : Int → Wd → Prop) : Prop := ∃ d', d' < d ∧ E_J1_charAt_3b067 d' as w K
abbrev W_J0_charAt_5068e (d pc : Nat) (als : List (Option AV)) (st : List AV) (w : Wd) (K : Int → Wd → Prop) : Prop := WA true yJ0_charAt_5068e cJ0_charAt_5068e 2 (some .char) d 143 0 0 pc als st w (rI K)
abbrev E_J0_charAt_5068e (d : Nat) (as : List AV) (w : Wd) (K : Int → Wd → Prop) : Prop := EvA true yJ0_charAt_5068e cJ0_charAt_5068e 2 (some .char) d 143 0 0 as w (rI K)
abbrev C_J0_charAt_5068e (d : Nat) (as : List AV) (w : Wd) (K : Int → Wd → Prop) : Prop := ∃ d', d' < d ∧ E_J0_charAt_5068e d' as w K
set_option maxRecDepth 10000 in
theorem e_X8_isCell {d : Nat} {w : Wd} {K : Int → Wd → Prop} {a1 : Int}  
    (h : ((a1 < 0 → K 0 w) ∧ (¬ (a1 < 0) → ((72 ≤ a1 → K 0 w) ∧ (¬ (72 ≤ a1) → K 1 w))))) :
    E_X8_isCell d [.inl a1] w K := by
  refine EvA.of (by decide +kernel) (Nat.le_of_ble_eq_true rfl) ?_
  change W_X8_isCell d 0 [some (.inl a1)] [] w K
  refine WA.iload_n dX8_isCell_0 rfl ?_
  refine WA.if_lt (tgt := 14) dX8_isCell_1 (by decide) (fun hc => ?_) (fun hc => ?_)
  · have h := h.1 hc
    refine WA.iconst dX8_isCell_14 ⟨by decide, by decide⟩ ?_
    exact WA.zreturn dX8_isCell_15 (by decide) ⟨_, rfl, h⟩
  · have h := h.2 hc
    refine WA.iload_n dX8_isCell_4 rfl ?_
    refine WA.bipush dX8_isCell_5 ⟨by decide, by decide⟩ ?_
    refine WA.icmp_ge (tgt := 14) dX8_isCell_7 (by decide) (fun hc => ?_) (fun hc => ?_)
    · have h := h.1 hc
      refine WA.iconst dX8_isCell_14 ⟨by decide, by decide⟩ ?_
      exact WA.zreturn dX8_isCell_15 (by decide) ⟨_, rfl, h⟩
    · have h := h.2 hc
      refine WA.iconst dX8_isCell_10 ⟨by decide, by decide⟩ ?_
      refine WA.goto (tgt := 15) dX8_isCell_11 (by decide) ?_
      exact WA.zreturn dX8_isCell_15 (by decide) ⟨_, rfl, h⟩
set_option maxRecDepth 10000 in
theorem e_X8_isColumnLetter {d : Nat} {w : Wd} {K : Int → Wd → Prop} {a1 : Int}  
    (h : ((a1 < 97 → K 0 w) ∧ (¬ (a1 < 97) → ((104 < a1 → K 0 w) ∧ (¬ (104 < a1) → K 1 w))))) :
    E_X8_isColumnLetter d [.inl a1] w K := by
  refine EvA.of (by decide +kernel) (Nat.le_of_ble_eq_true rfl) ?_
  change W_X8_isColumnLetter d 0 [some (.inl a1)] [] w K
  refine WA.iload_n dX8_isColumnLetter_0 rfl ?_
  refine WA.bipush dX8_isColumnLetter_1 ⟨by decide, by decide⟩ ?_
  refine WA.icmp_lt (tgt := 16) dX8_isColumnLetter_3 (by decide) (fun hc => ?_) (fun hc => ?_)
  · have h := h.1 hc
    refine WA.iconst dX8_isColumnLetter_16 ⟨by decide, by decide⟩ ?_
    exact WA.zreturn dX8_isColumnLetter_17 (by decide) ⟨_, rfl, h⟩
  · have h := h.2 hc
    refine WA.iload_n dX8_isColumnLetter_6 rfl ?_
    refine WA.bipush dX8_isColumnLetter_7 ⟨by decide, by decide⟩ ?_
    refine WA.icmp_gt (tgt := 16) dX8_isColumnLetter_9 (by decide) (fun hc => ?_) (fun hc => ?_)
    · have h := h.1 hc
      refine WA.iconst dX8_isColumnLetter_16 ⟨by decide, by decide⟩ ?_
      exact WA.zreturn dX8_isColumnLetter_17 (by decide) ⟨_, rfl, h⟩
    · have h := h.2 hc
      refine WA.iconst dX8_isColumnLetter_12 ⟨by decide, by decide⟩ ?_
      refine WA.goto (tgt := 17) dX8_isColumnLetter_13 (by decide) ?_
      exact WA.zreturn dX8_isColumnLetter_17 (by decide) ⟨_, rfl, h⟩
set_option maxRecDepth 10000 in
theorem e_X8_isRowDigit {d : Nat} {w : Wd} {K : Int → Wd → Prop} {a1 : Int}  
    (h : ((a1 < 49 → K 0 w) ∧ (¬ (a1 < 49) → ((57 < a1 → K 0 w) ∧ (¬ (57 < a1) → K 1 w))))) :
    E_X8_isRowDigit d [.inl a1] w K := by
  refine EvA.of (by decide +kernel) (Nat.le_of_ble_eq_true rfl) ?_
  change W_X8_isRowDigit d 0 [some (.inl a1)] [] w K
  refine WA.iload_n dX8_isRowDigit_0 rfl ?_
  refine WA.bipush dX8_isRowDigit_1 ⟨by decide, by decide⟩ ?_
  refine WA.icmp_lt (tgt := 16) dX8_isRowDigit_3 (by decide) (fun hc => ?_) (fun hc => ?_)
  · have h := h.1 hc
    refine WA.iconst dX8_isRowDigit_16 ⟨by decide, by decide⟩ ?_
    exact WA.zreturn dX8_isRowDigit_17 (by decide) ⟨_, rfl, h⟩
  · have h := h.2 hc
    refine WA.iload_n dX8_isRowDigit_6 rfl ?_
    refine WA.bipush dX8_isRowDigit_7 ⟨by decide, by decide⟩ ?_
    refine WA.icmp_gt (tgt := 16) dX8_isRowDigit_9 (by decide) (fun hc => ?_) (fun hc => ?_)
    · have h := h.1 hc
      refine WA.iconst dX8_isRowDigit_16 ⟨by decide, by decide⟩ ?_
      exact WA.zreturn dX8_isRowDigit_17 (by decide) ⟨_, rfl, h⟩
    · have h := h.2 hc
      refine WA.iconst dX8_isRowDigit_12 ⟨by decide, by decide⟩ ?_
      refine WA.goto (tgt := 17) dX8_isRowDigit_13 (by decide) ?_
      exact WA.zreturn dX8_isRowDigit_17 (by decide) ⟨_, rfl, h⟩
set_option maxRecDepth 10000 in
theorem e_X8_isDigit {d : Nat} {w : Wd} {K : Int → Wd → Prop} {a1 : Int}  
    (h : ((a1 < 48 → K 0 w) ∧ (¬ (a1 < 48) → ((57 < a1 → K 0 w) ∧ (¬ (57 < a1) → K 1 w))))) :
    E_X8_isDigit d [.inl a1] w K := by
  refine EvA.of (by decide +kernel) (Nat.le_of_ble_eq_true rfl) ?_
  change W_X8_isDigit d 0 [some (.inl a1)] [] w K
  refine WA.iload_n dX8_isDigit_0 rfl ?_
  refine WA.bipush dX8_isDigit_1 ⟨by decide, by decide⟩ ?_
  refine WA.icmp_lt (tgt := 16) dX8_isDigit_3 (by decide) (fun hc => ?_) (fun hc => ?_)
  · have h := h.1 hc
    refine WA.iconst dX8_isDigit_16 ⟨by decide, by decide⟩ ?_
    exact WA.zreturn dX8_isDigit_17 (by decide) ⟨_, rfl, h⟩
  · have h := h.2 hc
    refine WA.iload_n dX8_isDigit_6 rfl ?_
    refine WA.bipush dX8_isDigit_7 ⟨by decide, by decide⟩ ?_
    refine WA.icmp_gt (tgt := 16) dX8_isDigit_9 (by decide) (fun hc => ?_) (fun hc => ?_)
    · have h := h.1 hc
      refine WA.iconst dX8_isDigit_16 ⟨by decide, by decide⟩ ?_
      exact WA.zreturn dX8_isDigit_17 (by decide) ⟨_, rfl, h⟩
    · have h := h.2 hc
      refine WA.iconst dX8_isDigit_12 ⟨by decide, by decide⟩ ?_
      refine WA.goto (tgt := 17) dX8_isDigit_13 (by decide) ?_
      exact WA.zreturn dX8_isDigit_17 (by decide) ⟨_, rfl, h⟩
set_option maxRecDepth 10000 in
theorem e_X8_nameOf {d : Nat} {w : Wd} {K : Int → Wd → Prop} {a1 : Int}  
    (h : ((a1 = 0 → K (-3) w) ∧ ((a1 = 1 → K (-4) w) ∧ ((a1 = 2 → K (-5) w) ∧ ((a1 = 3 → K (-6) w) ∧ ((a1 = 4 → K (-7) w) ∧ ((a1 = 5 → K (-8) w) ∧ ((a1 = 6 → K (-9) w) ∧ ((a1 = 7 → K (-10) w) ∧ (a1 < 0 ∨ 7 < a1 → K (-11) w)))))))))) :
    E_X8_nameOf d [.inl a1] w K := by
  refine EvA.of (by decide +kernel) (Nat.le_of_ble_eq_true rfl) ?_
  change W_X8_nameOf d 0 [some (.inl a1)] [] w K
  refine WA.iload_n dX8_nameOf_0 rfl ?_
  by_cases hc : a1 = 0
  · have h := h.1 hc
    refine WA.tableIn (tgt := 48) dX8_nameOf_1 (by rw [hc]; decide) (by rw [hc]; decide) (by rw [hc]; rfl) (by decide) ?_
    refine WA.ldcS (j := 0) (x := -3) rfl (by decide) (by decide) dX8_nameOf_48 ?_
    exact WA.areturn dX8_nameOf_50 (Or.inl ⟨_, rfl⟩) ⟨_, rfl, h⟩
  · have h := h.2
    have n0 := hc
    by_cases hc : a1 = 1
    · have h := h.1 hc
      refine WA.tableIn (tgt := 51) dX8_nameOf_1 (by rw [hc]; decide) (by rw [hc]; decide) (by rw [hc]; rfl) (by decide) ?_
      refine WA.ldcS (j := 1) (x := -4) rfl (by decide) (by decide) dX8_nameOf_51 ?_
      exact WA.areturn dX8_nameOf_53 (Or.inl ⟨_, rfl⟩) ⟨_, rfl, h⟩
    · have h := h.2
      have n1 := hc
      by_cases hc : a1 = 2
      · have h := h.1 hc
        refine WA.tableIn (tgt := 54) dX8_nameOf_1 (by rw [hc]; decide) (by rw [hc]; decide) (by rw [hc]; rfl) (by decide) ?_
        refine WA.ldcS (j := 2) (x := -5) rfl (by decide) (by decide) dX8_nameOf_54 ?_
        exact WA.areturn dX8_nameOf_56 (Or.inl ⟨_, rfl⟩) ⟨_, rfl, h⟩
      · have h := h.2
        have n2 := hc
        by_cases hc : a1 = 3
        · have h := h.1 hc
          refine WA.tableIn (tgt := 57) dX8_nameOf_1 (by rw [hc]; decide) (by rw [hc]; decide) (by rw [hc]; rfl) (by decide) ?_
          refine WA.ldcS (j := 3) (x := -6) rfl (by decide) (by decide) dX8_nameOf_57 ?_
          exact WA.areturn dX8_nameOf_59 (Or.inl ⟨_, rfl⟩) ⟨_, rfl, h⟩
        · have h := h.2
          have n3 := hc
          by_cases hc : a1 = 4
          · have h := h.1 hc
            refine WA.tableIn (tgt := 60) dX8_nameOf_1 (by rw [hc]; decide) (by rw [hc]; decide) (by rw [hc]; rfl) (by decide) ?_
            refine WA.ldcS (j := 4) (x := -7) rfl (by decide) (by decide) dX8_nameOf_60 ?_
            exact WA.areturn dX8_nameOf_62 (Or.inl ⟨_, rfl⟩) ⟨_, rfl, h⟩
          · have h := h.2
            have n4 := hc
            by_cases hc : a1 = 5
            · have h := h.1 hc
              refine WA.tableIn (tgt := 63) dX8_nameOf_1 (by rw [hc]; decide) (by rw [hc]; decide) (by rw [hc]; rfl) (by decide) ?_
              refine WA.ldcS (j := 5) (x := -8) rfl (by decide) (by decide) dX8_nameOf_63 ?_
              exact WA.areturn dX8_nameOf_65 (Or.inl ⟨_, rfl⟩) ⟨_, rfl, h⟩
            · have h := h.2
              have n5 := hc
              by_cases hc : a1 = 6
              · have h := h.1 hc
                refine WA.tableIn (tgt := 66) dX8_nameOf_1 (by rw [hc]; decide) (by rw [hc]; decide) (by rw [hc]; rfl) (by decide) ?_
                refine WA.ldcS (j := 6) (x := -9) rfl (by decide) (by decide) dX8_nameOf_66 ?_
                exact WA.areturn dX8_nameOf_68 (Or.inl ⟨_, rfl⟩) ⟨_, rfl, h⟩
              · have h := h.2
                have n6 := hc
                by_cases hc : a1 = 7
                · have h := h.1 hc
                  refine WA.tableIn (tgt := 69) dX8_nameOf_1 (by rw [hc]; decide) (by rw [hc]; decide) (by rw [hc]; rfl) (by decide) ?_
                  refine WA.ldcS (j := 7) (x := -10) rfl (by decide) (by decide) dX8_nameOf_69 ?_
                  exact WA.areturn dX8_nameOf_71 (Or.inl ⟨_, rfl⟩) ⟨_, rfl, h⟩
                · have h := h.2
                  have n7 := hc
                  have ho : a1 < 0 ∨ 7 < a1 := by
                    rcases Int.lt_or_le a1 0 with q | q
                    · exact Or.inl q
                    · have q : 1 ≤ a1 := am_bump q n0
                      have q : 2 ≤ a1 := am_bump q n1
                      have q : 3 ≤ a1 := am_bump q n2
                      have q : 4 ≤ a1 := am_bump q n3
                      have q : 5 ≤ a1 := am_bump q n4
                      have q : 6 ≤ a1 := am_bump q n5
                      have q : 7 ≤ a1 := am_bump q n6
                      have q : 8 ≤ a1 := am_bump q n7
                      exact Or.inr q
                  have h := h ho
                  refine WA.tableOut (tgt := 72) dX8_nameOf_1 ho (by decide) ?_
                  refine WA.ldcS (j := 8) (x := -11) rfl (by decide) (by decide) dX8_nameOf_72 ?_
                  exact WA.areturn dX8_nameOf_74 (Or.inl ⟨_, rfl⟩) ⟨_, rfl, h⟩
set_option maxRecDepth 10000 in
theorem e_J9_floorDiv_f86c9 {d : Nat} {w : Wd} {K : Int → Wd → Prop} {a1 a2 : Int}  
    (h : (a2 ≠ 0 ∧ (-9223372036854775808 ≤ (Int.tdiv a1 a2) ∧ (Int.tdiv a1 a2) ≤ 9223372036854775807)) ∧ (∀ x1 : Int, (-9223372036854775808 ≤ x1 ∧ x1 ≤ 9223372036854775807) → (x1 < 0 ↔ ¬ (a1 < 0 ↔ a2 < 0)) → ((0 ≤ x1 → K (Int.tdiv a1 a2) w) ∧ (¬ (0 ≤ x1) → (-9223372036854775808 ≤ ((Int.tdiv a1 a2) * a2) ∧ ((Int.tdiv a1 a2) * a2) ≤ 9223372036854775807) ∧ ((((Int.tdiv a1 a2) * a2) = a1 → K (Int.tdiv a1 a2) w) ∧ (¬ ((Int.tdiv a1 a2) * a2) = a1 → (-9223372036854775808 ≤ ((Int.tdiv a1 a2) - 1) ∧ ((Int.tdiv a1 a2) - 1) ≤ 9223372036854775807) ∧ K ((Int.tdiv a1 a2) - 1) w)))))) :
    E_J9_floorDiv_f86c9 d [.inr (.inl a1), .inr (.inl a2)] w K := by
  refine EvA.ofF (by decide +kernel) (Nat.le_of_ble_eq_true rfl) ?_
  change W_J9_floorDiv_f86c9 d 0 [some (.inr (.inl a1)), none, some (.inr (.inl a2)), none, none, none] [] w K
  refine WA.lload_n dJ9_floorDiv_f86c9_0 rfl ?_
  refine WA.lload_n dJ9_floorDiv_f86c9_1 rfl ?_
  obtain ⟨s1, h⟩ := h
  refine WA.ldiv dJ9_floorDiv_f86c9_2 s1.1 s1.2 ?_
  refine WA.lstore (als' := [some (.inr (.inl a1)), none, some (.inr (.inl a2)), none, some (.inr (.inl (Int.tdiv a1 a2))), none]) dJ9_floorDiv_f86c9_3 (Nat.le_of_ble_eq_true rfl) rfl ?_
  refine WA.lload_n dJ9_floorDiv_f86c9_5 rfl ?_
  refine WA.lload_n dJ9_floorDiv_f86c9_6 rfl ?_
  refine WA.lxor dJ9_floorDiv_f86c9_7 (fun x1 s2 es2 => ?_)
  have h := h x1 s2 es2
  refine WA.lconst (x := 0) dJ9_floorDiv_f86c9_8 rfl ?_
  refine WA.lcmp_ge (tgt := 27) dJ9_floorDiv_f86c9_9 dJ9_floorDiv_f86c9_10 (by decide) (fun hc => ?_) (fun hc => ?_)
  · have h := h.1 hc
    refine WA.lload dJ9_floorDiv_f86c9_27 rfl ?_
    exact WA.lreturn dJ9_floorDiv_f86c9_29 ⟨_, rfl, h⟩
  · have h := h.2 hc
    refine WA.lload dJ9_floorDiv_f86c9_13 rfl ?_
    refine WA.lload_n dJ9_floorDiv_f86c9_15 rfl ?_
    obtain ⟨s3, h⟩ := h
    refine WA.lmul dJ9_floorDiv_f86c9_16 s3 ?_
    refine WA.lload_n dJ9_floorDiv_f86c9_17 rfl ?_
    refine WA.lcmp_eq (tgt := 27) dJ9_floorDiv_f86c9_18 dJ9_floorDiv_f86c9_19 (by decide) (fun hc => ?_) (fun hc => ?_)
    · have h := h.1 hc
      refine WA.lload dJ9_floorDiv_f86c9_27 rfl ?_
      exact WA.lreturn dJ9_floorDiv_f86c9_29 ⟨_, rfl, h⟩
    · have h := h.2 hc
      refine WA.lload dJ9_floorDiv_f86c9_22 rfl ?_
      refine WA.lconst (x := 1) dJ9_floorDiv_f86c9_24 rfl ?_
      obtain ⟨s4, h⟩ := h
      refine WA.lsub dJ9_floorDiv_f86c9_25 s4 ?_
      exact WA.lreturn dJ9_floorDiv_f86c9_26 ⟨_, rfl, h⟩
set_option maxRecDepth 10000 in
theorem e_J9_floorMod_f86c9 {d : Nat} {w : Wd} {K : Int → Wd → Prop} {a1 a2 : Int}  
    (h : (a2 ≠ 0 ∧ (-9223372036854775808 ≤ (Int.tmod a1 a2) ∧ (Int.tmod a1 a2) ≤ 9223372036854775807)) ∧ (∀ x1 : Int, (-9223372036854775808 ≤ x1 ∧ x1 ≤ 9223372036854775807) → (x1 < 0 ↔ ¬ (a1 < 0 ↔ a2 < 0)) → ((0 ≤ x1 → K (Int.tmod a1 a2) w) ∧ (¬ (0 ≤ x1) → (((Int.tmod a1 a2) = 0 → K (Int.tmod a1 a2) w) ∧ (¬ (Int.tmod a1 a2) = 0 → (-9223372036854775808 ≤ ((Int.tmod a1 a2) + a2) ∧ ((Int.tmod a1 a2) + a2) ≤ 9223372036854775807) ∧ K ((Int.tmod a1 a2) + a2) w)))))) :
    E_J9_floorMod_f86c9 d [.inr (.inl a1), .inr (.inl a2)] w K := by
  refine EvA.ofF (by decide +kernel) (Nat.le_of_ble_eq_true rfl) ?_
  change W_J9_floorMod_f86c9 d 0 [some (.inr (.inl a1)), none, some (.inr (.inl a2)), none, none, none] [] w K
  refine WA.lload_n dJ9_floorMod_f86c9_0 rfl ?_
  refine WA.lload_n dJ9_floorMod_f86c9_1 rfl ?_
  obtain ⟨s1, h⟩ := h
  refine WA.lrem dJ9_floorMod_f86c9_2 s1.1 s1.2 ?_
  refine WA.lstore (als' := [some (.inr (.inl a1)), none, some (.inr (.inl a2)), none, some (.inr (.inl (Int.tmod a1 a2))), none]) dJ9_floorMod_f86c9_3 (Nat.le_of_ble_eq_true rfl) rfl ?_
  refine WA.lload_n dJ9_floorMod_f86c9_5 rfl ?_
  refine WA.lload_n dJ9_floorMod_f86c9_6 rfl ?_
  refine WA.lxor dJ9_floorMod_f86c9_7 (fun x1 s2 es2 => ?_)
  have h := h x1 s2 es2
  refine WA.lconst (x := 0) dJ9_floorMod_f86c9_8 rfl ?_
  refine WA.lcmp_ge (tgt := 25) dJ9_floorMod_f86c9_9 dJ9_floorMod_f86c9_10 (by decide) (fun hc => ?_) (fun hc => ?_)
  · have h := h.1 hc
    refine WA.lload dJ9_floorMod_f86c9_25 rfl ?_
    exact WA.lreturn dJ9_floorMod_f86c9_27 ⟨_, rfl, h⟩
  · have h := h.2 hc
    refine WA.lload dJ9_floorMod_f86c9_13 rfl ?_
    refine WA.lconst (x := 0) dJ9_floorMod_f86c9_15 rfl ?_
    refine WA.lcmp_eq (tgt := 25) dJ9_floorMod_f86c9_16 dJ9_floorMod_f86c9_17 (by decide) (fun hc => ?_) (fun hc => ?_)
    · have h := h.1 hc
      refine WA.lload dJ9_floorMod_f86c9_25 rfl ?_
      exact WA.lreturn dJ9_floorMod_f86c9_27 ⟨_, rfl, h⟩
    · have h := h.2 hc
      refine WA.lload dJ9_floorMod_f86c9_20 rfl ?_
      refine WA.lload_n dJ9_floorMod_f86c9_22 rfl ?_
      obtain ⟨s3, h⟩ := h
      refine WA.ladd dJ9_floorMod_f86c9_23 s3 ?_
      exact WA.lreturn dJ9_floorMod_f86c9_24 ⟨_, rfl, h⟩
set_option maxRecDepth 10000 in
theorem e_J0_coder_7d493 {d : Nat} {w : Wd} {K : Int → Wd → Prop} {j : Nat} (hj : j < 9) 
    (h : K 0 w) :
    E_J0_coder_7d493 d [.inr (.inr (-3 - (j : Int)))] w K := by
  refine EvA.of (by decide +kernel) (Nat.le_of_ble_eq_true rfl) ?_
  change W_J0_coder_7d493 d 0 [some (.inr (.inr (-3 - (j : Int))))] [] w K
  refine WA.getcompact dJ0_coder_7d493_0 (am_mem 349 (by decide +kernel) rfl) ?_
  refine WA.if_eq (tgt := 13) dJ0_coder_7d493_3 (by decide) (fun hc => absurd hc (by decide)) (fun _ => ?_)
  refine WA.aload_n dJ0_coder_7d493_6 rfl am_S_ne ?_
  refine WA.strcoder hj dJ0_coder_7d493_7 (am_mem 1260 (by decide +kernel) rfl) ?_
  refine WA.goto (tgt := 14) dJ0_coder_7d493_10 (by decide) ?_
  exact WA.nreturn dJ0_coder_7d493_14 rfl ⟨_, rfl, h⟩
set_option maxRecDepth 10000 in
theorem e_J0_isLatin1_aae02 {d : Nat} {w : Wd} {K : Int → Wd → Prop} {j : Nat} (hj : j < 9) 
    (h : K 1 w) :
    E_J0_isLatin1_aae02 d [.inr (.inr (-3 - (j : Int)))] w K := by
  refine EvA.of (by decide +kernel) (Nat.le_of_ble_eq_true rfl) ?_
  change W_J0_isLatin1_aae02 d 0 [some (.inr (.inr (-3 - (j : Int))))] [] w K
  refine WA.getcompact dJ0_isLatin1_aae02_0 (am_mem 349 (by decide +kernel) rfl) ?_
  refine WA.if_eq (tgt := 17) dJ0_isLatin1_aae02_3 (by decide) (fun hc => absurd hc (by decide)) (fun _ => ?_)
  refine WA.aload_n dJ0_isLatin1_aae02_6 rfl am_S_ne ?_
  refine WA.strcoder hj dJ0_isLatin1_aae02_7 (am_mem 1260 (by decide +kernel) rfl) ?_
  refine WA.if_ne (tgt := 17) dJ0_isLatin1_aae02_10 (by decide) (fun hc => absurd hc (by decide)) (fun _ => ?_)
  refine WA.iconst dJ0_isLatin1_aae02_13 ⟨by decide, by decide⟩ ?_
  refine WA.goto (tgt := 18) dJ0_isLatin1_aae02_14 (by decide) ?_
  exact WA.zreturn dJ0_isLatin1_aae02_18 (by decide) ⟨_, rfl, h⟩
set_option maxRecDepth 10000 in
theorem e_J0_length_8abf5 {d : Nat} {w : Wd} {K : Int → Wd → Prop} {j : Nat} (hj : j < 9) 
    (h : C_J0_coder_7d493 d [.inr (.inr (-3 - (j : Int)))] w (fun x1 w1 => x1 = 0 ∧ K ((am_slen.getD j 0 : Nat) : Int) w1)) :
    E_J0_length_8abf5 d [.inr (.inr (-3 - (j : Int)))] w K := by
  refine EvA.of (by decide +kernel) (Nat.le_of_ble_eq_true rfl) ?_
  change W_J0_length_8abf5 d 0 [some (.inr (.inr (-3 - (j : Int))))] [] w K
  refine WA.aload_n dJ0_length_8abf5_0 rfl am_S_ne ?_
  refine WA.strval hj dJ0_length_8abf5_1 (am_mem 1259 (by decide +kernel) rfl) ?_
  refine WA.strlen0 hj dJ0_length_8abf5_4 ?_
  refine WA.aload_n dJ0_length_8abf5_5 rfl am_S_ne ?_
  obtain ⟨d1, hd1, h⟩ := h
  refine WA.callStr (As := []) (kc := 0) (ks := 0) (kc' := 0) (ks' := 0) hj dJ0_length_8abf5_6 lkJ0_335 rfl hd1 (Nat.le_of_ble_eq_true rfl) h (fun r w1 hK => ?_)
  obtain ⟨x1, rfl, h⟩ := hK
  change WA _ _ _ _ _ _ _ _ _ _ _ [.inl x1, .inl ((am_slen.getD j 0 : Nat) : Int)] _ _
  obtain ⟨s1, h⟩ := h
  refine WA.top (v2 := .inl 0) (by rw [s1]) ?_
  refine WA.ishr0 dJ0_length_8abf5_9 ?_
  exact WA.ireturn dJ0_length_8abf5_10 ⟨_, rfl, h⟩
set_option maxRecDepth 10000 in
theorem e_J3_checkIndex_8e157 {d : Nat} {w : Wd} {K : Int → Wd → Prop} {a1 a2 a3 : Int}  
    (h : ((a1 < 0 → False) ∧ (¬ (a1 < 0) → ((a1 < a2 → K a1 w) ∧ (¬ (a1 < a2) → False))))) :
    E_J3_checkIndex_8e157 d [.inl a1, .inl a2, .inr (.inr a3)] w K := by
  refine EvA.of (by decide +kernel) (Nat.le_of_ble_eq_true rfl) ?_
  change W_J3_checkIndex_8e157 d 0 [some (.inl a1), some (.inl a2), some (.inr (.inr a3))] [] w K
  refine WA.iload_n dJ3_checkIndex_8e157_0 rfl ?_
  refine WA.if_lt (tgt := 9) dJ3_checkIndex_8e157_1 (by decide) (fun hc => ?_) (fun hc => ?_)
  · have h := h.1 hc
    exact h.elim
  · have h := h.2 hc
    refine WA.iload_n dJ3_checkIndex_8e157_4 rfl ?_
    refine WA.iload_n dJ3_checkIndex_8e157_5 rfl ?_
    refine WA.icmp_lt (tgt := 16) dJ3_checkIndex_8e157_6 (by decide) (fun hc => ?_) (fun hc => ?_)
    · have h := h.1 hc
      refine WA.iload_n dJ3_checkIndex_8e157_16 rfl ?_
      exact WA.ireturn dJ3_checkIndex_8e157_17 ⟨_, rfl, h⟩
    · have h := h.2 hc
      exact h.elim
set_option maxRecDepth 10000 in
theorem e_J0_checkIndex_df160 {d : Nat} {w : Wd} {K : Wd → Prop} {a1 a2 : Int}  
    (h : (C_J3_checkIndex_8e157 d [.inl a1, .inl a2, .inr (.inr (-21))] w (fun x1 w1 => K w1) ∧ C_J3_checkIndex_8e157 d [.inl a1, .inl a2, .inr (.inr 0)] w (fun x2 w2 => K w2))) :
    E_J0_checkIndex_df160 d [.inl a1, .inl a2] w K := by
  refine EvA.of (by decide +kernel) (Nat.le_of_ble_eq_true rfl) ?_
  change W_J0_checkIndex_df160 d 0 [some (.inl a1), some (.inl a2)] [] w K
  refine WA.iload_n dJ0_checkIndex_df160_0 rfl ?_
  refine WA.iload_n dJ0_checkIndex_df160_1 rfl ?_
  refine WA.getsioobe dJ0_checkIndex_df160_2 (am_mem 365 (by decide +kernel) rfl) ?_ ?_
  · have h := h.1
    obtain ⟨d1, hd1, h⟩ := h
    refine WA.callS3 (kc := 0) (ks := 0) (kc' := 0) (ks' := 0) dJ0_checkIndex_df160_5 lkJ0_1059 rfl rfl rfl (Nat.le_of_ble_eq_true rfl) hd1 h (fun r w1 hK => ?_)
    obtain ⟨x1, rfl, h⟩ := hK
    change WA _ _ _ _ _ _ _ _ _ _ _ [.inl x1] _ _
    refine WA.pop dJ0_checkIndex_df160_8 rfl ?_
    exact WA.vreturn dJ0_checkIndex_df160_9 ⟨rfl, h⟩
  · have h := h.2
    obtain ⟨d1, hd1, h⟩ := h
    refine WA.callS3 (kc := 0) (ks := 0) (kc' := 0) (ks' := 0) dJ0_checkIndex_df160_5 lkJ0_1059 rfl rfl rfl (Nat.le_of_ble_eq_true rfl) hd1 h (fun r w2 hK => ?_)
    obtain ⟨x2, rfl, h⟩ := hK
    change WA _ _ _ _ _ _ _ _ _ _ _ [.inl x2] _ _
    refine WA.pop dJ0_checkIndex_df160_8 rfl ?_
    exact WA.vreturn dJ0_checkIndex_df160_9 ⟨rfl, h⟩
set_option maxRecDepth 10000 in
theorem e_J1_charAt_3b067 {d : Nat} {w : Wd} {K : Int → Wd → Prop} {a2 : Int} {j1 : Nat} (hj1 : j1 < 9) 
    (h : C_J0_checkIndex_df160 d [.inl a2, .inl ((am_slen.getD j1 0 : Nat) : Int)] w (fun w1 => (0 ≤ a2 ∧ a2 < ((am_slen.getD j1 0 : Nat) : Int)) ∧ (0 ≤ ((((am_sbyt.getD j1 []).getD a2.toNat 0).toInt) % 256) ∧ ((((am_sbyt.getD j1 []).getD a2.toNat 0).toInt) % 256) < 65536) ∧ (narrow .char (.int (Int32.ofInt ((((am_sbyt.getD j1 []).getD a2.toNat 0).toInt) % 256))) = .int (Int32.ofInt ((((am_sbyt.getD j1 []).getD a2.toNat 0).toInt) % 256))) ∧ K ((((am_sbyt.getD j1 []).getD a2.toNat 0).toInt) % 256) w1)) :
    E_J1_charAt_3b067 d [.inr (.inr (-12 - (j1 : Int))), .inl a2] w K := by
  refine EvA.of (by decide +kernel) (Nat.le_of_ble_eq_true rfl) ?_
  change W_J1_charAt_3b067 d 0 [some (.inr (.inr (-12 - (j1 : Int)))), some (.inl a2)] [] w K
  refine WA.iload_n dJ1_charAt_3b067_0 rfl ?_
  refine WA.aload_n dJ1_charAt_3b067_1 rfl am_B_ne ?_
  refine WA.strlen0 hj1 dJ1_charAt_3b067_2 ?_
  obtain ⟨d1, hd1, h⟩ := h
  refine WA.callS2 (kc := 0) (ks := 0) (kc' := 0) (ks' := 0) dJ1_charAt_3b067_3 lkJ1_9 rfl rfl rfl (Nat.le_of_ble_eq_true rfl) hd1 h (fun r w1 hK => ?_)
  obtain ⟨rfl, h⟩ := hK
  change WA _ _ _ _ _ _ _ _ _ _ _ [] _ _
  refine WA.aload_n dJ1_charAt_3b067_6 rfl am_B_ne ?_
  refine WA.iload_n dJ1_charAt_3b067_7 rfl ?_
  obtain ⟨s1, h⟩ := h
  refine WA.strbyte hj1 dJ1_charAt_3b067_8 s1.1 s1.2 ?_
  refine WA.sipush dJ1_charAt_3b067_9 ⟨by decide, by decide⟩ ?_
  refine WA.iand255 dJ1_charAt_3b067_12 ?_
  obtain ⟨s2, h⟩ := h
  refine WA.i2c dJ1_charAt_3b067_13 s2.1 s2.2 ?_
  obtain ⟨s3, h⟩ := h
  exact WA.nreturn dJ1_charAt_3b067_14 s3 ⟨_, rfl, h⟩
set_option maxRecDepth 10000 in
theorem e_J0_charAt_5068e {d : Nat} {w : Wd} {K : Int → Wd → Prop} {a1 : Int} {j : Nat} (hj : j < 9) 
    (h : C_J0_isLatin1_aae02 d [.inr (.inr (-3 - (j : Int)))] w (fun x1 w1 => ((x1 = 0 → False) ∧ (¬ x1 = 0 → C_J1_charAt_3b067 d [.inr (.inr (-12 - (j : Int))), .inl a1] w1 (fun x2 w2 => (narrow .char (.int (Int32.ofInt x2)) = .int (Int32.ofInt x2)) ∧ K x2 w2))))) :
    E_J0_charAt_5068e d [.inr (.inr (-3 - (j : Int))), .inl a1] w K := by
  refine EvA.of (by decide +kernel) (Nat.le_of_ble_eq_true rfl) ?_
  change W_J0_charAt_5068e d 0 [some (.inr (.inr (-3 - (j : Int)))), some (.inl a1)] [] w K
  refine WA.aload_n dJ0_charAt_5068e_0 rfl am_S_ne ?_
  obtain ⟨d1, hd1, h⟩ := h
  refine WA.callStr (As := []) (kc := 0) (ks := 0) (kc' := 0) (ks' := 0) hj dJ0_charAt_5068e_1 lkJ0_492 rfl hd1 (Nat.le_of_ble_eq_true rfl) h (fun r w1 hK => ?_)
  obtain ⟨x1, rfl, h⟩ := hK
  change WA _ _ _ _ _ _ _ _ _ _ _ [.inl x1] _ _
  refine WA.if_eq (tgt := 16) dJ0_charAt_5068e_4 (by decide) (fun hc => ?_) (fun hc => ?_)
  · have h := h.1 hc
    refine WA.aload_n dJ0_charAt_5068e_16 rfl am_S_ne ?_
    refine WA.strval hj dJ0_charAt_5068e_17 (am_mem 1259 (by decide +kernel) rfl) ?_
    refine WA.iload_n dJ0_charAt_5068e_20 rfl ?_
    exact h.elim
  · have h := h.2 hc
    refine WA.aload_n dJ0_charAt_5068e_7 rfl am_S_ne ?_
    refine WA.strval hj dJ0_charAt_5068e_8 (am_mem 1259 (by decide +kernel) rfl) ?_
    refine WA.iload_n dJ0_charAt_5068e_11 rfl ?_
    obtain ⟨d1, hd1, h⟩ := h
    refine WA.callS2 (kc := 0) (ks := 0) (kc' := 0) (ks' := 0) dJ0_charAt_5068e_12 lkJ0_495 rfl rfl rfl (Nat.le_of_ble_eq_true rfl) hd1 h (fun r w2 hK => ?_)
    obtain ⟨x2, rfl, h⟩ := hK
    change WA _ _ _ _ _ _ _ _ _ _ _ [.inl x2] _ _
    obtain ⟨s1, h⟩ := h
    exact WA.nreturn dJ0_charAt_5068e_15 s1 ⟨_, rfl, h⟩
