abbrev W_X2_enter (d pc : Nat) (als : List (Option AV)) (st : List AV) (w : Wd) (K : Wd → Prop) : Prop := WA true yX2_enter cX2_enter 4 none d 143 0 0 pc als st w (rV K)
abbrev E_X2_enter (d : Nat) (as : List AV) (w : Wd) (K : Wd → Prop) : Prop := EvA true yX2_enter cX2_enter 4 none d 143 0 0 as w (rV K)
abbrev C_X2_enter (d : Nat) (as : List AV) (w : Wd) (K : Wd → Prop) : Prop := ∃ d', d' < d ∧ E_X2_enter d' as w K
abbrev W_X2_look (d pc : Nat) (als : List (Option AV)) (st : List AV) (w : Wd) (K : Int → Wd → Prop) : Prop := WA true yX2_look cX2_look 3 (some .int) d 143 0 0 pc als st w (rI K)
abbrev E_X2_look (d : Nat) (as : List AV) (w : Wd) (K : Int → Wd → Prop) : Prop := EvA true yX2_look cX2_look 3 (some .int) d 143 0 0 as w (rI K)
abbrev C_X2_look (d : Nat) (as : List AV) (w : Wd) (K : Int → Wd → Prop) : Prop := ∃ d', d' < d ∧ E_X2_look d' as w K
abbrev W_X2_isAtEnd (d pc : Nat) (als : List (Option AV)) (st : List AV) (w : Wd) (K : Int → Wd → Prop) : Prop := WA true yX2_isAtEnd cX2_isAtEnd 1 (some .boolean) d 143 0 0 pc als st w (rI K)
abbrev E_X2_isAtEnd (d : Nat) (as : List AV) (w : Wd) (K : Int → Wd → Prop) : Prop := EvA true yX2_isAtEnd cX2_isAtEnd 1 (some .boolean) d 143 0 0 as w (rI K)
abbrev C_X2_isAtEnd (d : Nat) (as : List AV) (w : Wd) (K : Int → Wd → Prop) : Prop := ∃ d', d' < d ∧ E_X2_isAtEnd d' as w K
abbrev W_X2_pass (d pc : Nat) (als : List (Option AV)) (st : List AV) (w : Wd) (K : Int → Wd → Prop) : Prop := WA true yX2_pass cX2_pass 3 (some .boolean) d 143 0 0 pc als st w (rI K)
abbrev E_X2_pass (d : Nat) (as : List AV) (w : Wd) (K : Int → Wd → Prop) : Prop := EvA true yX2_pass cX2_pass 3 (some .boolean) d 143 0 0 as w (rI K)
abbrev C_X2_pass (d : Nat) (as : List AV) (w : Wd) (K : Int → Wd → Prop) : Prop := ∃ d', d' < d ∧ E_X2_pass d' as w K
abbrev W_X2_isAtCell (d pc : Nat) (als : List (Option AV)) (st : List AV) (w : Wd) (K : Int → Wd → Prop) : Prop := WA true yX2_isAtCell cX2_isAtCell 1 (some .boolean) d 143 0 0 pc als st w (rI K)
abbrev E_X2_isAtCell (d : Nat) (as : List AV) (w : Wd) (K : Int → Wd → Prop) : Prop := EvA true yX2_isAtCell cX2_isAtCell 1 (some .boolean) d 143 0 0 as w (rI K)
abbrev C_X2_isAtCell (d : Nat) (as : List AV) (w : Wd) (K : Int → Wd → Prop) : Prop := ∃ d', d' < d ∧ E_X2_isAtCell d' as w K
abbrev W_X2_matching (d pc : Nat) (als : List (Option AV)) (st : List AV) (w : Wd) (K : Int → Wd → Prop) : Prop := WA true yX2_matching cX2_matching 3 (some .int) d 143 0 0 pc als st w (rI K)
abbrev E_X2_matching (d : Nat) (as : List AV) (w : Wd) (K : Int → Wd → Prop) : Prop := EvA true yX2_matching cX2_matching 3 (some .int) d 143 0 0 as w (rI K)
abbrev C_X2_matching (d : Nat) (as : List AV) (w : Wd) (K : Int → Wd → Prop) : Prop := ∃ d', d' < d ∧ E_X2_matching d' as w K
abbrev W_X4_keep (d pc : Nat) (als : List (Option AV)) (st : List AV) (w : Wd) (K : Int → Wd → Prop) : Prop := WA true yX4_keep cX4_keep 3 (some (.object "CutoffSheet$State")) d 143 0 0 pc als st w (rR K)
abbrev E_X4_keep (d : Nat) (as : List AV) (w : Wd) (K : Int → Wd → Prop) : Prop := EvA true yX4_keep cX4_keep 3 (some (.object "CutoffSheet$State")) d 143 0 0 as w (rR K)
abbrev C_X4_keep (d : Nat) (as : List AV) (w : Wd) (K : Int → Wd → Prop) : Prop := ∃ d', d' < d ∧ E_X4_keep d' as w K
abbrev W_X4_giveBack (d pc : Nat) (als : List (Option AV)) (st : List AV) (w : Wd) (K : Wd → Prop) : Prop := WA true yX4_giveBack cX4_giveBack 2 none d 143 0 0 pc als st w (rV K)
abbrev E_X4_giveBack (d : Nat) (as : List AV) (w : Wd) (K : Wd → Prop) : Prop := EvA true yX4_giveBack cX4_giveBack 2 none d 143 0 0 as w (rV K)
abbrev C_X4_giveBack (d : Nat) (as : List AV) (w : Wd) (K : Wd → Prop) : Prop := ∃ d', d' < d ∧ E_X4_giveBack d' as w K
abbrev W_X4_dropOldest (d pc : Nat) (als : List (Option AV)) (st : List AV) (w : Wd) (K : Wd → Prop) : Prop := WA true yX4_dropOldest cX4_dropOldest 3 none d 143 0 0 pc als st w (rV K)
abbrev E_X4_dropOldest (d : Nat) (as : List AV) (w : Wd) (K : Wd → Prop) : Prop := EvA true yX4_dropOldest cX4_dropOldest 3 none d 143 0 0 as w (rV K)
abbrev C_X4_dropOldest (d : Nat) (as : List AV) (w : Wd) (K : Wd → Prop) : Prop := ∃ d', d' < d ∧ E_X4_dropOldest d' as w K
abbrev W_X5_takeAll (d pc : Nat) (als : List (Option AV)) (st : List AV) (w : Wd) (K : Wd → Prop) : Prop := WA true yX5_takeAll cX5_takeAll 2 none d 143 0 0 pc als st w (rV K)
abbrev E_X5_takeAll (d : Nat) (as : List AV) (w : Wd) (K : Wd → Prop) : Prop := EvA true yX5_takeAll cX5_takeAll 2 none d 143 0 0 as w (rV K)
abbrev C_X5_takeAll (d : Nat) (as : List AV) (w : Wd) (K : Wd → Prop) : Prop := ∃ d', d' < d ∧ E_X5_takeAll d' as w K
abbrev W_X5_isEmpty (d pc : Nat) (als : List (Option AV)) (st : List AV) (w : Wd) (K : Int → Wd → Prop) : Prop := WA true yX5_isEmpty cX5_isEmpty 2 (some .boolean) d 143 0 0 pc als st w (rI K)
abbrev E_X5_isEmpty (d : Nat) (as : List AV) (w : Wd) (K : Int → Wd → Prop) : Prop := EvA true yX5_isEmpty cX5_isEmpty 2 (some .boolean) d 143 0 0 as w (rI K)
abbrev C_X5_isEmpty (d : Nat) (as : List AV) (w : Wd) (K : Int → Wd → Prop) : Prop := ∃ d', d' < d ∧ E_X5_isEmpty d' as w K
abbrev W_X5_waits (d pc : Nat) (als : List (Option AV)) (st : List AV) (w : Wd) (K : Int → Wd → Prop) : Prop := WA true yX5_waits cX5_waits 2 (some .boolean) d 143 0 0 pc als st w (rI K)
abbrev E_X5_waits (d : Nat) (as : List AV) (w : Wd) (K : Int → Wd → Prop) : Prop := EvA true yX5_waits cX5_waits 2 (some .boolean) d 143 0 0 as w (rI K)
abbrev C_X5_waits (d : Nat) (as : List AV) (w : Wd) (K : Int → Wd → Prop) : Prop := ∃ d', d' < d ∧ E_X5_waits d' as w K
abbrev W_X5_waitingEdits (d pc : Nat) (als : List (Option AV)) (st : List AV) (w : Wd) (K : Int → Wd → Prop) : Prop := WA true yX5_waitingEdits cX5_waitingEdits 3 (some .int) d 143 0 0 pc als st w (rI K)
abbrev E_X5_waitingEdits (d : Nat) (as : List AV) (w : Wd) (K : Int → Wd → Prop) : Prop := EvA true yX5_waitingEdits cX5_waitingEdits 3 (some .int) d 143 0 0 as w (rI K)
abbrev C_X5_waitingEdits (d : Nat) (as : List AV) (w : Wd) (K : Int → Wd → Prop) : Prop := ∃ d', d' < d ∧ E_X5_waitingEdits d' as w K
abbrev W_X5_readOf (d pc : Nat) (als : List (Option AV)) (st : List AV) (w : Wd) (K : Int → Wd → Prop) : Prop := WA true yX5_readOf cX5_readOf 3 (some .int) d 143 0 0 pc als st w (rI K)
abbrev E_X5_readOf (d : Nat) (as : List AV) (w : Wd) (K : Int → Wd → Prop) : Prop := EvA true yX5_readOf cX5_readOf 3 (some .int) d 143 0 0 as w (rI K)
abbrev C_X5_readOf (d : Nat) (as : List AV) (w : Wd) (K : Int → Wd → Prop) : Prop := ∃ d', d' < d ∧ E_X5_readOf d' as w K
abbrev W_X5_hasRead (d pc : Nat) (als : List (Option AV)) (st : List AV) (w : Wd) (K : Int → Wd → Prop) : Prop := WA true yX5_hasRead cX5_hasRead 4 (some .boolean) d 143 0 0 pc als st w (rI K)
abbrev E_X5_hasRead (d : Nat) (as : List AV) (w : Wd) (K : Int → Wd → Prop) : Prop := EvA true yX5_hasRead cX5_hasRead 4 (some .boolean) d 143 0 0 as w (rI K)
abbrev C_X5_hasRead (d : Nat) (as : List AV) (w : Wd) (K : Int → Wd → Prop) : Prop := ∃ d', d' < d ∧ E_X5_hasRead d' as w K
abbrev W_X5_fact (d pc : Nat) (als : List (Option AV)) (st : List AV) (w : Wd) (K : Int → Wd → Prop) : Prop := WA true yX5_fact cX5_fact 3 (some .int) d 143 0 0 pc als st w (rI K)
abbrev E_X5_fact (d : Nat) (as : List AV) (w : Wd) (K : Int → Wd → Prop) : Prop := EvA true yX5_fact cX5_fact 3 (some .int) d 143 0 0 as w (rI K)
abbrev C_X5_fact (d : Nat) (as : List AV) (w : Wd) (K : Int → Wd → Prop) : Prop := ∃ d', d' < d ∧ E_X5_fact d' as w K
abbrev W_X5_cellsWithErrors (d pc : Nat) (als : List (Option AV)) (st : List AV) (w : Wd) (K : Int → Wd → Prop) : Prop := WA true yX5_cellsWithErrors cX5_cellsWithErrors 3 (some .int) d 143 0 0 pc als st w (rI K)
abbrev E_X5_cellsWithErrors (d : Nat) (as : List AV) (w : Wd) (K : Int → Wd → Prop) : Prop := EvA true yX5_cellsWithErrors cX5_cellsWithErrors 3 (some .int) d 143 0 0 as w (rI K)
abbrev C_X5_cellsWithErrors (d : Nat) (as : List AV) (w : Wd) (K : Int → Wd → Prop) : Prop := ∃ d', d' < d ∧ E_X5_cellsWithErrors d' as w K
abbrev W_X5_greatestHeight (d pc : Nat) (als : List (Option AV)) (st : List AV) (w : Wd) (K : Int → Wd → Prop) : Prop := WA true yX5_greatestHeight cX5_greatestHeight 3 (some .int) d 143 0 0 pc als st w (rI K)
abbrev E_X5_greatestHeight (d : Nat) (as : List AV) (w : Wd) (K : Int → Wd → Prop) : Prop := EvA true yX5_greatestHeight cX5_greatestHeight 3 (some .int) d 143 0 0 as w (rI K)
abbrev C_X5_greatestHeight (d : Nat) (as : List AV) (w : Wd) (K : Int → Wd → Prop) : Prop := ∃ d', d' < d ∧ E_X5_greatestHeight d' as w K
abbrev W_X5_rankOf (d pc : Nat) (als : List (Option AV)) (st : List AV) (w : Wd) (K : Int → Wd → Prop) : Prop := WA true yX5_rankOf cX5_rankOf 2 (some .int) d 143 0 0 pc als st w (rI K)
abbrev E_X5_rankOf (d : Nat) (as : List AV) (w : Wd) (K : Int → Wd → Prop) : Prop := EvA true yX5_rankOf cX5_rankOf 2 (some .int) d 143 0 0 as w (rI K)
abbrev C_X5_rankOf (d : Nat) (as : List AV) (w : Wd) (K : Int → Wd → Prop) : Prop := ∃ d', d' < d ∧ E_X5_rankOf d' as w K
abbrev W_X5_markChanges (d pc : Nat) (als : List (Option AV)) (st : List AV) (w : Wd) (K : Wd → Prop) : Prop := WA true yX5_markChanges cX5_markChanges 4 none d 143 0 0 pc als st w (rV K)
abbrev E_X5_markChanges (d : Nat) (as : List AV) (w : Wd) (K : Wd → Prop) : Prop := EvA true yX5_markChanges cX5_markChanges 4 none d 143 0 0 as w (rV K)
abbrev C_X5_markChanges (d : Nat) (as : List AV) (w : Wd) (K : Wd → Prop) : Prop := ∃ d', d' < d ∧ E_X5_markChanges d' as w K
abbrev W_X5_causeOf (d pc : Nat) (als : List (Option AV)) (st : List AV) (w : Wd) (K : Int → Wd → Prop) : Prop := WA true yX5_causeOf cX5_causeOf 6 (some .int) d 143 0 0 pc als st w (rI K)
abbrev E_X5_causeOf (d : Nat) (as : List AV) (w : Wd) (K : Int → Wd → Prop) : Prop := EvA true yX5_causeOf cX5_causeOf 6 (some .int) d 143 0 0 as w (rI K)
abbrev C_X5_causeOf (d : Nat) (as : List AV) (w : Wd) (K : Int → Wd → Prop) : Prop := ∃ d', d' < d ∧ E_X5_causeOf d' as w K
abbrev W_X6_add (d pc : Nat) (als : List (Option AV)) (st : List AV) (w : Wd) (K : Wd → Prop) : Prop := WA true yX6_add cX6_add 2 none d 143 0 0 pc als st w (rV K)
abbrev E_X6_add (d : Nat) (as : List AV) (w : Wd) (K : Wd → Prop) : Prop := EvA true yX6_add cX6_add 2 none d 143 0 0 as w (rV K)
abbrev C_X6_add (d : Nat) (as : List AV) (w : Wd) (K : Wd → Prop) : Prop := ∃ d', d' < d ∧ E_X6_add d' as w K
abbrev W_X7_letter (d pc : Nat) (als : List (Option AV)) (st : List AV) (w : Wd) (K : Int → Wd → Prop) : Prop := WA true yX7_letter cX7_letter 3 (some .int) d 143 0 0 pc als st w (rI K)
abbrev E_X7_letter (d : Nat) (as : List AV) (w : Wd) (K : Int → Wd → Prop) : Prop := EvA true yX7_letter cX7_letter 3 (some .int) d 143 0 0 as w (rI K)
abbrev C_X7_letter (d : Nat) (as : List AV) (w : Wd) (K : Int → Wd → Prop) : Prop := ∃ d', d' < d ∧ E_X7_letter d' as w K
abbrev W_X7_take (d pc : Nat) (als : List (Option AV)) (st : List AV) (w : Wd) (K : Wd → Prop) : Prop := WA true yX7_take cX7_take 3 none d 143 0 0 pc als st w (rV K)
abbrev E_X7_take (d : Nat) (as : List AV) (w : Wd) (K : Wd → Prop) : Prop := EvA true yX7_take cX7_take 3 none d 143 0 0 as w (rV K)
abbrev C_X7_take (d : Nat) (as : List AV) (w : Wd) (K : Wd → Prop) : Prop := ∃ d', d' < d ∧ E_X7_take d' as w K
abbrev W_X7_takeSame (d pc : Nat) (als : List (Option AV)) (st : List AV) (w : Wd) (K : Wd → Prop) : Prop := WA true yX7_takeSame cX7_takeSame 4 none d 143 0 0 pc als st w (rV K)
abbrev E_X7_takeSame (d : Nat) (as : List AV) (w : Wd) (K : Wd → Prop) : Prop := EvA true yX7_takeSame cX7_takeSame 4 none d 143 0 0 as w (rV K)
abbrev C_X7_takeSame (d : Nat) (as : List AV) (w : Wd) (K : Wd → Prop) : Prop := ∃ d', d' < d ∧ E_X7_takeSame d' as w K
abbrev W_X7_takeAll (d pc : Nat) (als : List (Option AV)) (st : List AV) (w : Wd) (K : Wd → Prop) : Prop := WA true yX7_takeAll cX7_takeAll 2 none d 143 0 0 pc als st w (rV K)
abbrev E_X7_takeAll (d : Nat) (as : List AV) (w : Wd) (K : Wd → Prop) : Prop := EvA true yX7_takeAll cX7_takeAll 2 none d 143 0 0 as w (rV K)
abbrev C_X7_takeAll (d : Nat) (as : List AV) (w : Wd) (K : Wd → Prop) : Prop := ∃ d', d' < d ∧ E_X7_takeAll d' as w K
abbrev W_X7_clearAll (d pc : Nat) (als : List (Option AV)) (st : List AV) (w : Wd) (K : Wd → Prop) : Prop := WA true yX7_clearAll cX7_clearAll 3 none d 143 0 0 pc als st w (rV K)
abbrev E_X7_clearAll (d : Nat) (as : List AV) (w : Wd) (K : Wd → Prop) : Prop := EvA true yX7_clearAll cX7_clearAll 3 none d 143 0 0 as w (rV K)
abbrev C_X7_clearAll (d : Nat) (as : List AV) (w : Wd) (K : Wd → Prop) : Prop := ∃ d', d' < d ∧ E_X7_clearAll d' as w K
set_option maxRecDepth 10000 in
theorem e_X2_enter {d : Nat} {w : Wd} {K : Wd → Prop} {s a1 a2 a3 : Int} (hs : am_Cu s) 
    (h : a1 ≠ 0 ∧ (∀ w1, w1 = wset w s 0 a1 → (∀ w2, w2 = wset w1 s 1 a2 → (∀ w3, w3 = wset w2 s 2 a3 → (∀ w4, w4 = wset w3 s 3 0 → K w4))))) :
    E_X2_enter d [.inr (.inr s), .inr (.inr a1), .inl a2, .inl a3] w K := by
  refine EvA.of (by decide +kernel) (Nat.le_of_ble_eq_true rfl) ?_
  change W_X2_enter d 0 [some (.inr (.inr s)), some (.inr (.inr a1)), some (.inl a2), some (.inl a3)] [] w K
  refine WA.aload_n dX2_enter_0 rfl (am_Cu_ne hs) ?_
  obtain ⟨s1, h⟩ := h
  refine WA.aload_n dX2_enter_1 rfl s1 ?_
  obtain ⟨w1, qw1⟩ : ∃ z, z = wset w s 0 a1 := ⟨_, rfl⟩
  have h := h w1 qw1
  refine pfX2_7 rfl dX2_enter_2 (am_Cu_obj hs) ?_
  rw [← qw1]
  refine WA.aload_n dX2_enter_5 rfl (am_Cu_ne hs) ?_
  refine WA.iload_n dX2_enter_6 rfl ?_
  obtain ⟨w2, qw2⟩ : ∃ z, z = wset w1 s 1 a2 := ⟨_, rfl⟩
  have h := h w2 qw2
  refine pfX2_13 rfl dX2_enter_7 (am_Cu_obj hs) ?_
  rw [← qw2]
  refine WA.aload_n dX2_enter_10 rfl (am_Cu_ne hs) ?_
  refine WA.iload_n dX2_enter_11 rfl ?_
  obtain ⟨w3, qw3⟩ : ∃ z, z = wset w2 s 2 a3 := ⟨_, rfl⟩
  have h := h w3 qw3
  refine pfX2_17 rfl dX2_enter_12 (am_Cu_obj hs) ?_
  rw [← qw3]
  refine WA.aload_n dX2_enter_15 rfl (am_Cu_ne hs) ?_
  refine WA.iconst dX2_enter_16 ⟨by decide, by decide⟩ ?_
  obtain ⟨w4, qw4⟩ : ∃ z, z = wset w3 s 3 0 := ⟨_, rfl⟩
  have h := h w4 qw4
  refine pfX2_20 rfl dX2_enter_17 (am_Cu_obj hs) ?_
  rw [← qw4]
  exact WA.vreturn dX2_enter_20 ⟨rfl, h⟩
set_option maxRecDepth 10000 in
theorem e_X2_look {d : Nat} {w : Wd} {K : Int → Wd → Prop} {s a1 : Int} (hs : am_Cu s) 
    (h : (-2147483648 ≤ ((w s 3) + a1) ∧ ((w s 3) + a1) ≤ 2147483647) ∧ ((((w s 3) + a1) < 0 → K 0 w) ∧ (¬ (((w s 3) + a1) < 0) → (((w s 2) ≤ ((w s 3) + a1) → K 0 w) ∧ (¬ ((w s 2) ≤ ((w s 3) + a1)) → (-2147483648 ≤ ((w s 1) + ((w s 3) + a1)) ∧ ((w s 1) + ((w s 3) + a1)) ≤ 2147483647) ∧ (∃ N, am_arr 143 (w s 0) 0 N ∧ 0 ≤ ((w s 1) + ((w s 3) + a1)) ∧ ((w s 1) + ((w s 3) + a1)) < (N : Int)) ∧ K (w (w s 0) ((w s 1) + ((w s 3) + a1))) w))))) :
    E_X2_look d [.inr (.inr s), .inl a1] w K := by
  refine EvA.of (by decide +kernel) (Nat.le_of_ble_eq_true rfl) ?_
  change W_X2_look d 0 [some (.inr (.inr s)), some (.inl a1), none] [] w K
  refine WA.aload_n dX2_look_0 rfl (am_Cu_ne hs) ?_
  refine gfX2_20 rfl dX2_look_1 (am_Cu_obj hs) ?_
  refine WA.iload_n dX2_look_4 rfl ?_
  obtain ⟨s1, h⟩ := h
  refine WA.iadd dX2_look_5 s1 ?_
  refine WA.istore_n (als' := [some (.inr (.inr s)), some (.inl a1), some (.inl ((w s 3) + a1))]) dX2_look_6 (Nat.le_of_ble_eq_true rfl) rfl ?_
  refine WA.iload_n dX2_look_7 rfl ?_
  refine WA.if_lt (tgt := 33) dX2_look_8 (by decide) (fun hc => ?_) (fun hc => ?_)
  · have h := h.1 hc
    refine WA.iconst dX2_look_33 ⟨by decide, by decide⟩ ?_
    exact WA.ireturn dX2_look_34 ⟨_, rfl, h⟩
  · have h := h.2 hc
    refine WA.iload_n dX2_look_11 rfl ?_
    refine WA.aload_n dX2_look_12 rfl (am_Cu_ne hs) ?_
    refine gfX2_17 rfl dX2_look_13 (am_Cu_obj hs) ?_
    refine WA.icmp_ge (tgt := 33) dX2_look_16 (by decide) (fun hc => ?_) (fun hc => ?_)
    · have h := h.1 hc
      refine WA.iconst dX2_look_33 ⟨by decide, by decide⟩ ?_
      exact WA.ireturn dX2_look_34 ⟨_, rfl, h⟩
    · have h := h.2 hc
      refine WA.aload_n dX2_look_19 rfl (am_Cu_ne hs) ?_
      refine gfX2_7 rfl dX2_look_20 (am_Cu_obj hs) ?_
      refine WA.aload_n dX2_look_23 rfl (am_Cu_ne hs) ?_
      refine gfX2_13 rfl dX2_look_24 (am_Cu_obj hs) ?_
      refine WA.iload_n dX2_look_27 rfl ?_
      obtain ⟨s2, h⟩ := h
      refine WA.iadd dX2_look_28 s2 ?_
      obtain ⟨⟨Ns3, s3, s3a, s3b⟩, h⟩ := h
      refine WA.iaload dX2_look_29 s3 s3a s3b ?_
      refine WA.goto (tgt := 34) dX2_look_30 (by decide) ?_
      exact WA.ireturn dX2_look_34 ⟨_, rfl, h⟩
set_option maxRecDepth 10000 in
theorem e_X2_isAtEnd {d : Nat} {w : Wd} {K : Int → Wd → Prop} {s : Int} (hs : am_Cu s) 
    (h : (((w s 3) < (w s 2) → K 0 w) ∧ (¬ ((w s 3) < (w s 2)) → K 1 w))) :
    E_X2_isAtEnd d [.inr (.inr s)] w K := by
  refine EvA.of (by decide +kernel) (Nat.le_of_ble_eq_true rfl) ?_
  change W_X2_isAtEnd d 0 [some (.inr (.inr s))] [] w K
  refine WA.aload_n dX2_isAtEnd_0 rfl (am_Cu_ne hs) ?_
  refine gfX2_20 rfl dX2_isAtEnd_1 (am_Cu_obj hs) ?_
  refine WA.aload_n dX2_isAtEnd_4 rfl (am_Cu_ne hs) ?_
  refine gfX2_17 rfl dX2_isAtEnd_5 (am_Cu_obj hs) ?_
  refine WA.icmp_lt (tgt := 15) dX2_isAtEnd_8 (by decide) (fun hc => ?_) (fun hc => ?_)
  · have h := h.1 hc
    refine WA.iconst dX2_isAtEnd_15 ⟨by decide, by decide⟩ ?_
    exact WA.zreturn dX2_isAtEnd_16 (by decide) ⟨_, rfl, h⟩
  · have h := h.2 hc
    refine WA.iconst dX2_isAtEnd_11 ⟨by decide, by decide⟩ ?_
    refine WA.goto (tgt := 16) dX2_isAtEnd_12 (by decide) ?_
    exact WA.zreturn dX2_isAtEnd_16 (by decide) ⟨_, rfl, h⟩
set_option maxRecDepth 10000 in
theorem e_X2_pass {d : Nat} {w : Wd} {K : Int → Wd → Prop} {s a1 : Int} (hs : am_Cu s) 
    (h : C_X2_look d [.inr (.inr s), .inl 0] w (fun x1 w1 => ((¬ x1 = a1 → K 0 w1) ∧ (x1 = a1 → (-2147483648 ≤ ((w1 s 3) + 1) ∧ ((w1 s 3) + 1) ≤ 2147483647) ∧ (∀ w2, w2 = wset w1 s 3 ((w1 s 3) + 1) → K 1 w2))))) :
    E_X2_pass d [.inr (.inr s), .inl a1] w K := by
  refine EvA.of (by decide +kernel) (Nat.le_of_ble_eq_true rfl) ?_
  change W_X2_pass d 0 [some (.inr (.inr s)), some (.inl a1), none] [] w K
  refine WA.aload_n dX2_pass_0 rfl (am_Cu_ne hs) ?_
  refine WA.iconst dX2_pass_1 ⟨by decide, by decide⟩ ?_
  obtain ⟨d1, hd1, h⟩ := h
  refine WA.callV1 (kc := 0) (ks := 0) (kc' := 0) (ks' := 0) dX2_pass_2 lkX2_23 rfl rfl rfl (am_Cu_obj hs) rfl (Nat.le_of_ble_eq_true rfl) hd1 h (fun r w1 hK => ?_)
  obtain ⟨x1, rfl, h⟩ := hK
  change WA _ _ _ _ _ _ _ _ _ _ _ [.inl x1] _ _
  refine WA.iload_n dX2_pass_5 rfl ?_
  refine WA.icmp_ne (tgt := 13) dX2_pass_6 (by decide) (fun hc => ?_) (fun hc => ?_)
  · have h := h.1 hc
    refine WA.iconst dX2_pass_13 ⟨by decide, by decide⟩ ?_
    refine WA.istore_n (als' := [some (.inr (.inr s)), some (.inl a1), some (.inl 0)]) dX2_pass_14 (Nat.le_of_ble_eq_true rfl) rfl ?_
    refine WA.iload_n dX2_pass_15 rfl ?_
    refine WA.if_eq (tgt := 29) dX2_pass_16 (by decide) (fun _ => ?_) (fun hc => absurd hc (by decide))
    refine WA.iload_n dX2_pass_29 rfl ?_
    exact WA.zreturn dX2_pass_30 (by decide) ⟨_, rfl, h⟩
  · have h := h.2 hc
    refine WA.iconst dX2_pass_9 ⟨by decide, by decide⟩ ?_
    refine WA.goto (tgt := 14) dX2_pass_10 (by decide) ?_
    refine WA.istore_n (als' := [some (.inr (.inr s)), some (.inl a1), some (.inl 1)]) dX2_pass_14 (Nat.le_of_ble_eq_true rfl) rfl ?_
    refine WA.iload_n dX2_pass_15 rfl ?_
    refine WA.if_eq (tgt := 29) dX2_pass_16 (by decide) (fun hc => absurd hc (by decide)) (fun _ => ?_)
    refine WA.aload_n dX2_pass_19 rfl (am_Cu_ne hs) ?_
    refine WA.dup dX2_pass_20 rfl ?_
    refine gfX2_20 rfl dX2_pass_21 (am_Cu_obj hs) ?_
    refine WA.iconst dX2_pass_24 ⟨by decide, by decide⟩ ?_
    obtain ⟨s1, h⟩ := h
    refine WA.iadd dX2_pass_25 s1 ?_
    obtain ⟨w2, qw2⟩ : ∃ z, z = wset w1 s 3 ((w1 s 3) + 1) := ⟨_, rfl⟩
    have h := h w2 qw2
    refine pfX2_20 rfl dX2_pass_26 (am_Cu_obj hs) ?_
    rw [← qw2]
    refine WA.iload_n dX2_pass_29 rfl ?_
    exact WA.zreturn dX2_pass_30 (by decide) ⟨_, rfl, h⟩
set_option maxRecDepth 10000 in
theorem e_X2_isAtCell {d : Nat} {w : Wd} {K : Int → Wd → Prop} {s : Int} (hs : am_Cu s) 
    (h : C_X2_look d [.inr (.inr s), .inl 0] w (fun x1 w1 => C_X8_isColumnLetter d [.inl x1] w1 (fun x2 w2 => ((x2 = 0 → K 0 w2) ∧ (¬ x2 = 0 → C_X2_look d [.inr (.inr s), .inl 1] w2 (fun x3 w3 => C_X8_isRowDigit d [.inl x3] w3 (fun x4 w4 => ((x4 = 0 → K 0 w4) ∧ (¬ x4 = 0 → K 1 w4))))))))) :
    E_X2_isAtCell d [.inr (.inr s)] w K := by
  refine EvA.of (by decide +kernel) (Nat.le_of_ble_eq_true rfl) ?_
  change W_X2_isAtCell d 0 [some (.inr (.inr s))] [] w K
  refine WA.aload_n dX2_isAtCell_0 rfl (am_Cu_ne hs) ?_
  refine WA.iconst dX2_isAtCell_1 ⟨by decide, by decide⟩ ?_
  obtain ⟨d1, hd1, h⟩ := h
  refine WA.callV1 (kc := 0) (ks := 0) (kc' := 0) (ks' := 0) dX2_isAtCell_2 lkX2_23 rfl rfl rfl (am_Cu_obj hs) rfl (Nat.le_of_ble_eq_true rfl) hd1 h (fun r w1 hK => ?_)
  obtain ⟨x1, rfl, h⟩ := hK
  change WA _ _ _ _ _ _ _ _ _ _ _ [.inl x1] _ _
  obtain ⟨d1, hd1, h⟩ := h
  refine WA.callSN1 (kc := 0) (ks := 0) (kc' := 0) (ks' := 0) dX2_isAtCell_5 lkX2_27 rfl rfl rfl (Nat.le_of_ble_eq_true rfl) hd1 h (fun r w2 hK => ?_)
  obtain ⟨x2, rfl, h⟩ := hK
  change WA _ _ _ _ _ _ _ _ _ _ _ [.inl x2] _ _
  refine WA.if_eq (tgt := 26) dX2_isAtCell_8 (by decide) (fun hc => ?_) (fun hc => ?_)
  · have h := h.1 hc
    refine WA.iconst dX2_isAtCell_26 ⟨by decide, by decide⟩ ?_
    exact WA.zreturn dX2_isAtCell_27 (by decide) ⟨_, rfl, h⟩
  · have h := h.2 hc
    refine WA.aload_n dX2_isAtCell_11 rfl (am_Cu_ne hs) ?_
    refine WA.iconst dX2_isAtCell_12 ⟨by decide, by decide⟩ ?_
    obtain ⟨d1, hd1, h⟩ := h
    refine WA.callV1 (kc := 0) (ks := 0) (kc' := 0) (ks' := 0) dX2_isAtCell_13 lkX2_23 rfl rfl rfl (am_Cu_obj hs) rfl (Nat.le_of_ble_eq_true rfl) hd1 h (fun r w3 hK => ?_)
    obtain ⟨x3, rfl, h⟩ := hK
    change WA _ _ _ _ _ _ _ _ _ _ _ [.inl x3] _ _
    obtain ⟨d1, hd1, h⟩ := h
    refine WA.callSN1 (kc := 0) (ks := 0) (kc' := 0) (ks' := 0) dX2_isAtCell_16 lkX2_33 rfl rfl rfl (Nat.le_of_ble_eq_true rfl) hd1 h (fun r w4 hK => ?_)
    obtain ⟨x4, rfl, h⟩ := hK
    change WA _ _ _ _ _ _ _ _ _ _ _ [.inl x4] _ _
    refine WA.if_eq (tgt := 26) dX2_isAtCell_19 (by decide) (fun hc => ?_) (fun hc => ?_)
    · have h := h.1 hc
      refine WA.iconst dX2_isAtCell_26 ⟨by decide, by decide⟩ ?_
      exact WA.zreturn dX2_isAtCell_27 (by decide) ⟨_, rfl, h⟩
    · have h := h.2 hc
      refine WA.iconst dX2_isAtCell_22 ⟨by decide, by decide⟩ ?_
      refine WA.goto (tgt := 27) dX2_isAtCell_23 (by decide) ?_
      exact WA.zreturn dX2_isAtCell_27 (by decide) ⟨_, rfl, h⟩
set_option maxRecDepth 10000 in
theorem v_X2_matching_2 {d : Nat} {w : Wd} {K : Int → Wd → Prop} {s v2 : Int} (hs : am_Cu s) {j1 : Nat} (hj1 : j1 < 9) 
    (h : C_J0_length_8abf5 d [.inr (.inr (-3 - (j1 : Int)))] w (fun x1 w1 => ((x1 ≤ v2 → C_J0_length_8abf5 d [.inr (.inr (-3 - (j1 : Int)))] w1 (fun x2 w2 => K x2 w2)) ∧ (¬ (x1 ≤ v2) → C_X2_look d [.inr (.inr s), .inl v2] w1 (fun x3 w3 => C_J0_charAt_5068e d [.inr (.inr (-3 - (j1 : Int))), .inl v2] w3 (fun x4 w4 => ((x3 = x4 → (-2147483648 ≤ (v2 + 1) ∧ (v2 + 1) ≤ 2147483647) ∧ W_X2_matching d 2 [some (.inr (.inr s)), some (.inr (.inr (-3 - (j1 : Int)))), some (.inl (v2 + 1))] [] w4 K) ∧ (¬ x3 = x4 → K v2 w4)))))))) :
    W_X2_matching d 2 [some (.inr (.inr s)), some (.inr (.inr (-3 - (j1 : Int)))), some (.inl v2)] [] w K := by
  refine WA.iload_n dX2_matching_2 rfl ?_
  refine WA.aload_n dX2_matching_3 rfl am_S_ne ?_
  obtain ⟨d1, hd1, h⟩ := h
  refine WA.callStr (As := []) (kc := 0) (ks := 0) (kc' := 0) (ks' := 0) hj1 dX2_matching_4 lkX2_36 rfl hd1 (Nat.le_of_ble_eq_true rfl) h (fun r w1 hK => ?_)
  obtain ⟨x1, rfl, h⟩ := hK
  change WA _ _ _ _ _ _ _ _ _ _ _ [.inl x1, .inl v2] _ _
  refine WA.icmp_ge (tgt := 31) dX2_matching_7 (by decide) (fun hc => ?_) (fun hc => ?_)
  · have h := h.1 hc
    refine WA.aload_n dX2_matching_31 rfl am_S_ne ?_
    obtain ⟨d1, hd1, h⟩ := h
    refine WA.callStr (As := []) (kc := 0) (ks := 0) (kc' := 0) (ks' := 0) hj1 dX2_matching_32 lkX2_36 rfl hd1 (Nat.le_of_ble_eq_true rfl) h (fun r w2 hK => ?_)
    obtain ⟨x2, rfl, h⟩ := hK
    change WA _ _ _ _ _ _ _ _ _ _ _ [.inl x2] _ _
    exact WA.ireturn dX2_matching_35 ⟨_, rfl, h⟩
  · have h := h.2 hc
    refine WA.aload_n dX2_matching_10 rfl (am_Cu_ne hs) ?_
    refine WA.iload_n dX2_matching_11 rfl ?_
    obtain ⟨d1, hd1, h⟩ := h
    refine WA.callV1 (kc := 0) (ks := 0) (kc' := 0) (ks' := 0) dX2_matching_12 lkX2_23 rfl rfl rfl (am_Cu_obj hs) rfl (Nat.le_of_ble_eq_true rfl) hd1 h (fun r w3 hK => ?_)
    obtain ⟨x3, rfl, h⟩ := hK
    change WA _ _ _ _ _ _ _ _ _ _ _ [.inl x3] _ _
    refine WA.aload_n dX2_matching_15 rfl am_S_ne ?_
    refine WA.iload_n dX2_matching_16 rfl ?_
    obtain ⟨d1, hd1, h⟩ := h
    refine WA.callStr (As := [.inl v2]) (kc := 0) (ks := 0) (kc' := 0) (ks' := 0) hj1 dX2_matching_17 lkX2_41 rfl hd1 (Nat.le_of_ble_eq_true rfl) h (fun r w4 hK => ?_)
    obtain ⟨x4, rfl, h⟩ := hK
    change WA _ _ _ _ _ _ _ _ _ _ _ [.inl x4, .inl x3] _ _
    refine WA.icmp_eq (tgt := 25) dX2_matching_20 (by decide) (fun hc => ?_) (fun hc => ?_)
    · have h := h.1 hc
      obtain ⟨s1, h⟩ := h
      refine WA.iinc (als' := [some (.inr (.inr s)), some (.inr (.inr (-3 - (j1 : Int)))), some (.inl (v2 + 1))]) dX2_matching_25 rfl s1 rfl ?_
      refine WA.goto (tgt := 2) dX2_matching_28 (by decide) ?_
      exact h
    · have h := h.2 hc
      refine WA.iload_n dX2_matching_23 rfl ?_
      exact WA.ireturn dX2_matching_24 ⟨_, rfl, h⟩
set_option maxRecDepth 10000 in
theorem e_X2_matching {d : Nat} {w : Wd} {K : Int → Wd → Prop} {s : Int} (hs : am_Cu s) {j1 : Nat} (hj1 : j1 < 9) 
    (h : W_X2_matching d 2 [some (.inr (.inr s)), some (.inr (.inr (-3 - (j1 : Int)))), some (.inl 0)] [] w K) :
    E_X2_matching d [.inr (.inr s), .inr (.inr (-3 - (j1 : Int)))] w K := by
  refine EvA.of (by decide +kernel) (Nat.le_of_ble_eq_true rfl) ?_
  change W_X2_matching d 0 [some (.inr (.inr s)), some (.inr (.inr (-3 - (j1 : Int)))), none] [] w K
  refine WA.iconst dX2_matching_0 ⟨by decide, by decide⟩ ?_
  refine WA.istore_n (als' := [some (.inr (.inr s)), some (.inr (.inr (-3 - (j1 : Int)))), some (.inl 0)]) dX2_matching_1 (Nat.le_of_ble_eq_true rfl) rfl ?_
  exact h
set_option maxRecDepth 10000 in
theorem e_X4_keep {d : Nat} {w : Wd} {K : Int → Wd → Prop} {a1 : Int} (ha1 : am_St a1) 
    (h : (((w 38 1) < 4 → (0 ≤ (w 38 1) ∧ (w 38 1) < 4) ∧ am_St (w 39 (w 38 1)) ∧ C_X5_takeAll d [.inr (.inr (w 39 (w 38 1))), .inr (.inr a1)] w (fun w1 => (-2147483648 ≤ ((w1 38 1) + 1) ∧ ((w1 38 1) + 1) ≤ 2147483647) ∧ (∀ w2, w2 = wset w1 38 1 ((w1 38 1) + 1) → K (w 39 (w 38 1)) w2))) ∧ (¬ ((w 38 1) < 4) → C_X4_dropOldest d [.inr (.inr 38)] w (fun w3 => (0 ≤ (w3 38 1) ∧ (w3 38 1) < 4) ∧ am_St (w3 39 (w3 38 1)) ∧ C_X5_takeAll d [.inr (.inr (w3 39 (w3 38 1))), .inr (.inr a1)] w3 (fun w4 => (-2147483648 ≤ ((w4 38 1) + 1) ∧ ((w4 38 1) + 1) ≤ 2147483647) ∧ (∀ w5, w5 = wset w4 38 1 ((w4 38 1) + 1) → K (w3 39 (w3 38 1)) w5)))))) :
    E_X4_keep d [.inr (.inr 38), .inr (.inr a1)] w K := by
  refine EvA.of (by decide +kernel) (Nat.le_of_ble_eq_true rfl) ?_
  change W_X4_keep d 0 [some (.inr (.inr 38)), some (.inr (.inr a1)), none] [] w K
  refine WA.aload_n dX4_keep_0 rfl (by decide) ?_
  refine gfX4_18 rfl dX4_keep_1 ob_38 ?_
  refine WA.iconst dX4_keep_4 ⟨by decide, by decide⟩ ?_
  refine WA.icmp_lt (tgt := 12) dX4_keep_5 (by decide) (fun hc => ?_) (fun hc => ?_)
  · have h := h.1 hc
    refine WA.aload_n dX4_keep_12 rfl (by decide) ?_
    refine gxX4_11 rfl rfl dX4_keep_13 ob_38 ?_
    refine WA.aload_n dX4_keep_16 rfl (by decide) ?_
    refine gfX4_18 rfl dX4_keep_17 ob_38 ?_
    obtain ⟨s1, h⟩ := h
    refine WA.aaload dX4_keep_20 ob_39 s1.1 s1.2 ?_
    obtain ⟨s2, h⟩ := h
    refine WA.astore_n (als' := [some (.inr (.inr 38)), some (.inr (.inr a1)), some (.inr (.inr (w 39 (w 38 1))))]) dX4_keep_21 (am_obj0 (am_St_obj s2)) (Nat.le_of_ble_eq_true rfl) rfl ?_
    refine WA.aload_n dX4_keep_22 rfl (am_St_ne s2) ?_
    refine WA.aload_n dX4_keep_23 rfl (am_St_ne ha1) ?_
    obtain ⟨d1, hd1, h⟩ := h
    refine WA.callV1 (kc := 0) (ks := 0) (kc' := 0) (ks' := 0) dX4_keep_24 lkX4_25 rfl rfl rfl (am_St_obj s2) rfl (Nat.le_of_ble_eq_true rfl) hd1 h (fun r w1 hK => ?_)
    obtain ⟨rfl, h⟩ := hK
    change WA _ _ _ _ _ _ _ _ _ _ _ [] _ _
    refine WA.aload_n dX4_keep_27 rfl (by decide) ?_
    refine WA.dup dX4_keep_28 rfl ?_
    refine gfX4_18 rfl dX4_keep_29 ob_38 ?_
    refine WA.iconst dX4_keep_32 ⟨by decide, by decide⟩ ?_
    obtain ⟨s3, h⟩ := h
    refine WA.iadd dX4_keep_33 s3 ?_
    obtain ⟨w2, qw2⟩ : ∃ z, z = wset w1 38 1 ((w1 38 1) + 1) := ⟨_, rfl⟩
    have h := h w2 qw2
    refine pfX4_18 rfl dX4_keep_34 ob_38 ?_
    rw [← qw2]
    refine WA.aload_n dX4_keep_37 rfl (am_St_ne s2) ?_
    exact WA.areturn dX4_keep_38 (Or.inl ⟨_, rfl⟩) ⟨_, rfl, h⟩
  · have h := h.2 hc
    refine WA.aload_n dX4_keep_8 rfl (by decide) ?_
    obtain ⟨d1, hd1, h⟩ := h
    refine WA.callV0 (kc := 0) (ks := 0) (kc' := 0) (ks' := 0) dX4_keep_9 lkX4_22 rfl rfl rfl ob_38 rfl (Nat.le_of_ble_eq_true rfl) hd1 h (fun r w3 hK => ?_)
    obtain ⟨rfl, h⟩ := hK
    change WA _ _ _ _ _ _ _ _ _ _ _ [] _ _
    refine WA.aload_n dX4_keep_12 rfl (by decide) ?_
    refine gxX4_11 rfl rfl dX4_keep_13 ob_38 ?_
    refine WA.aload_n dX4_keep_16 rfl (by decide) ?_
    refine gfX4_18 rfl dX4_keep_17 ob_38 ?_
    obtain ⟨s4, h⟩ := h
    refine WA.aaload dX4_keep_20 ob_39 s4.1 s4.2 ?_
    obtain ⟨s5, h⟩ := h
    refine WA.astore_n (als' := [some (.inr (.inr 38)), some (.inr (.inr a1)), some (.inr (.inr (w3 39 (w3 38 1))))]) dX4_keep_21 (am_obj0 (am_St_obj s5)) (Nat.le_of_ble_eq_true rfl) rfl ?_
    refine WA.aload_n dX4_keep_22 rfl (am_St_ne s5) ?_
    refine WA.aload_n dX4_keep_23 rfl (am_St_ne ha1) ?_
    obtain ⟨d1, hd1, h⟩ := h
    refine WA.callV1 (kc := 0) (ks := 0) (kc' := 0) (ks' := 0) dX4_keep_24 lkX4_25 rfl rfl rfl (am_St_obj s5) rfl (Nat.le_of_ble_eq_true rfl) hd1 h (fun r w4 hK => ?_)
    obtain ⟨rfl, h⟩ := hK
    change WA _ _ _ _ _ _ _ _ _ _ _ [] _ _
    refine WA.aload_n dX4_keep_27 rfl (by decide) ?_
    refine WA.dup dX4_keep_28 rfl ?_
    refine gfX4_18 rfl dX4_keep_29 ob_38 ?_
    refine WA.iconst dX4_keep_32 ⟨by decide, by decide⟩ ?_
    obtain ⟨s6, h⟩ := h
    refine WA.iadd dX4_keep_33 s6 ?_
    obtain ⟨w5, qw5⟩ : ∃ z, z = wset w4 38 1 ((w4 38 1) + 1) := ⟨_, rfl⟩
    have h := h w5 qw5
    refine pfX4_18 rfl dX4_keep_34 ob_38 ?_
    rw [← qw5]
    refine WA.aload_n dX4_keep_37 rfl (am_St_ne s5) ?_
    exact WA.areturn dX4_keep_38 (Or.inl ⟨_, rfl⟩) ⟨_, rfl, h⟩
set_option maxRecDepth 10000 in
theorem e_X4_giveBack {d : Nat} {w : Wd} {K : Wd → Prop} {a1 : Int} (ha1 : am_St a1) 
    (h : (((w 38 1) ≤ 0 → K w) ∧ (¬ ((w 38 1) ≤ 0) → (-2147483648 ≤ ((w 38 1) - 1) ∧ ((w 38 1) - 1) ≤ 2147483647) ∧ (∀ w1, w1 = wset w 38 1 ((w 38 1) - 1) → (0 ≤ (w1 38 1) ∧ (w1 38 1) < 4) ∧ C_X5_takeAll d [.inr (.inr a1), .inr (.inr (w1 39 (w1 38 1)))] w1 (fun w2 => K w2))))) :
    E_X4_giveBack d [.inr (.inr 38), .inr (.inr a1)] w K := by
  refine EvA.of (by decide +kernel) (Nat.le_of_ble_eq_true rfl) ?_
  change W_X4_giveBack d 0 [some (.inr (.inr 38)), some (.inr (.inr a1))] [] w K
  refine WA.aload_n dX4_giveBack_0 rfl (by decide) ?_
  refine gfX4_18 rfl dX4_giveBack_1 ob_38 ?_
  refine WA.if_le (tgt := 30) dX4_giveBack_4 (by decide) (fun hc => ?_) (fun hc => ?_)
  · have h := h.1 hc
    exact WA.vreturn dX4_giveBack_30 ⟨rfl, h⟩
  · have h := h.2 hc
    refine WA.aload_n dX4_giveBack_7 rfl (by decide) ?_
    refine WA.dup dX4_giveBack_8 rfl ?_
    refine gfX4_18 rfl dX4_giveBack_9 ob_38 ?_
    refine WA.iconst dX4_giveBack_12 ⟨by decide, by decide⟩ ?_
    obtain ⟨s1, h⟩ := h
    refine WA.isub dX4_giveBack_13 s1 ?_
    obtain ⟨w1, qw1⟩ : ∃ z, z = wset w 38 1 ((w 38 1) - 1) := ⟨_, rfl⟩
    have h := h w1 qw1
    refine pfX4_18 rfl dX4_giveBack_14 ob_38 ?_
    rw [← qw1]
    refine WA.aload_n dX4_giveBack_17 rfl (am_St_ne ha1) ?_
    refine WA.aload_n dX4_giveBack_18 rfl (by decide) ?_
    refine gxX4_11 rfl rfl dX4_giveBack_19 ob_38 ?_
    refine WA.aload_n dX4_giveBack_22 rfl (by decide) ?_
    refine gfX4_18 rfl dX4_giveBack_23 ob_38 ?_
    obtain ⟨s2, h⟩ := h
    refine WA.aaload dX4_giveBack_26 ob_39 s2.1 s2.2 ?_
    obtain ⟨d1, hd1, h⟩ := h
    refine WA.callV1 (kc := 0) (ks := 0) (kc' := 0) (ks' := 0) dX4_giveBack_27 lkX4_25 rfl rfl rfl (am_St_obj ha1) rfl (Nat.le_of_ble_eq_true rfl) hd1 h (fun r w2 hK => ?_)
    obtain ⟨rfl, h⟩ := hK
    change WA _ _ _ _ _ _ _ _ _ _ _ [] _ _
    exact WA.vreturn dX4_giveBack_30 ⟨rfl, h⟩
set_option maxRecDepth 10000 in
theorem v_X4_dropOldest_9 {d : Nat} {w : Wd} {K : Wd → Prop} {v1 v2 : Int} (hv1 : am_St v1) 
    (h : ((4 ≤ v2 → (∀ w1, w1 = wset w 39 3 v1 → (∀ w2, w2 = wset w1 38 1 3 → K w2))) ∧ (¬ (4 ≤ v2) → (-2147483648 ≤ (v2 - 1) ∧ (v2 - 1) ≤ 2147483647) ∧ (0 ≤ v2 ∧ v2 < 4) ∧ (0 ≤ (v2 - 1) ∧ (v2 - 1) < 4) ∧ am_St (w 39 v2) ∧ (∀ w3, w3 = wset w 39 (v2 - 1) (w 39 v2) → (-2147483648 ≤ (v2 + 1) ∧ (v2 + 1) ≤ 2147483647) ∧ W_X4_dropOldest d 9 [some (.inr (.inr 38)), some (.inr (.inr v1)), some (.inl (v2 + 1))] [] w3 K)))) :
    W_X4_dropOldest d 9 [some (.inr (.inr 38)), some (.inr (.inr v1)), some (.inl v2)] [] w K := by
  refine WA.iload_n dX4_dropOldest_9 rfl ?_
  refine WA.iconst dX4_dropOldest_10 ⟨by decide, by decide⟩ ?_
  refine WA.icmp_ge (tgt := 34) dX4_dropOldest_11 (by decide) (fun hc => ?_) (fun hc => ?_)
  · have h := h.1 hc
    refine WA.aload_n dX4_dropOldest_34 rfl (by decide) ?_
    refine gxX4_11 rfl rfl dX4_dropOldest_35 ob_38 ?_
    refine WA.iconst dX4_dropOldest_38 ⟨by decide, by decide⟩ ?_
    refine WA.aload_n dX4_dropOldest_39 rfl (am_St_ne hv1) ?_
    obtain ⟨w1, qw1⟩ : ∃ z, z = wset w 39 3 v1 := ⟨_, rfl⟩
    have h := h w1 qw1
    refine WA.aastore dX4_dropOldest_40 ob_39 (by decide) (by decide) (am_St_obj hv1) ?_
    rw [← qw1]
    refine WA.aload_n dX4_dropOldest_41 rfl (by decide) ?_
    refine WA.iconst dX4_dropOldest_42 ⟨by decide, by decide⟩ ?_
    obtain ⟨w2, qw2⟩ : ∃ z, z = wset w1 38 1 3 := ⟨_, rfl⟩
    have h := h w2 qw2
    refine pfX4_18 rfl dX4_dropOldest_43 ob_38 ?_
    rw [← qw2]
    exact WA.vreturn dX4_dropOldest_46 ⟨rfl, h⟩
  · have h := h.2 hc
    refine WA.aload_n dX4_dropOldest_14 rfl (by decide) ?_
    refine gxX4_11 rfl rfl dX4_dropOldest_15 ob_38 ?_
    refine WA.iload_n dX4_dropOldest_18 rfl ?_
    refine WA.iconst dX4_dropOldest_19 ⟨by decide, by decide⟩ ?_
    obtain ⟨s1, h⟩ := h
    refine WA.isub dX4_dropOldest_20 s1 ?_
    refine WA.aload_n dX4_dropOldest_21 rfl (by decide) ?_
    refine gxX4_11 rfl rfl dX4_dropOldest_22 ob_38 ?_
    refine WA.iload_n dX4_dropOldest_25 rfl ?_
    obtain ⟨s2, h⟩ := h
    refine WA.aaload dX4_dropOldest_26 ob_39 s2.1 s2.2 ?_
    obtain ⟨s3, h⟩ := h
    obtain ⟨s4, h⟩ := h
    obtain ⟨w3, qw3⟩ : ∃ z, z = wset w 39 (v2 - 1) (w 39 v2) := ⟨_, rfl⟩
    have h := h w3 qw3
    refine WA.aastore dX4_dropOldest_27 ob_39 s3.1 s3.2 (am_St_obj s4) ?_
    rw [← qw3]
    obtain ⟨s5, h⟩ := h
    refine WA.iinc (als' := [some (.inr (.inr 38)), some (.inr (.inr v1)), some (.inl (v2 + 1))]) dX4_dropOldest_28 rfl s5 rfl ?_
    refine WA.goto (tgt := 9) dX4_dropOldest_31 (by decide) ?_
    exact h
set_option maxRecDepth 10000 in
theorem e_X4_dropOldest {d : Nat} {w : Wd} {K : Wd → Prop}  
    (h : am_St (w 39 0) ∧ W_X4_dropOldest d 9 [some (.inr (.inr 38)), some (.inr (.inr (w 39 0))), some (.inl 1)] [] w K) :
    E_X4_dropOldest d [.inr (.inr 38)] w K := by
  refine EvA.of (by decide +kernel) (Nat.le_of_ble_eq_true rfl) ?_
  change W_X4_dropOldest d 0 [some (.inr (.inr 38)), none, none] [] w K
  refine WA.aload_n dX4_dropOldest_0 rfl (by decide) ?_
  refine gxX4_11 rfl rfl dX4_dropOldest_1 ob_38 ?_
  refine WA.iconst dX4_dropOldest_4 ⟨by decide, by decide⟩ ?_
  refine WA.aaload dX4_dropOldest_5 ob_39 (by decide) (by decide) ?_
  obtain ⟨s1, h⟩ := h
  refine WA.astore_n (als' := [some (.inr (.inr 38)), some (.inr (.inr (w 39 0))), none]) dX4_dropOldest_6 (am_obj0 (am_St_obj s1)) (Nat.le_of_ble_eq_true rfl) rfl ?_
  refine WA.iconst dX4_dropOldest_7 ⟨by decide, by decide⟩ ?_
  refine WA.istore_n (als' := [some (.inr (.inr 38)), some (.inr (.inr (w 39 0))), some (.inl 1)]) dX4_dropOldest_8 (Nat.le_of_ble_eq_true rfl) rfl ?_
  exact h
set_option maxRecDepth 10000 in
theorem e_X5_takeAll {d : Nat} {w : Wd} {K : Wd → Prop} {s a1 : Int} (hs : am_St s) (ha1 : am_St a1) (hd : 2 ≤ d) 
    (h : C_X7_takeAll d [.inr (.inr (s + 1)), .inr (.inr (a1 + 1))] w (fun w1 => C_X7_takeAll d [.inr (.inr (s + 4)), .inr (.inr (a1 + 4))] w1 (fun w2 => (∀ w3, w3 = wcopy w2 (a1 + 7) 0 (s + 7) 0 72 → (∀ w4, w4 = wcopy w3 (a1 + 8) 0 (s + 8) 0 72 → (∀ w5, w5 = wcopy w4 (a1 + 9) 0 (s + 9) 0 72 → (∀ w6, w6 = wcopy w5 (a1 + 10) 0 (s + 10) 0 72 → (∀ w7, w7 = wcopy w6 (a1 + 11) 0 (s + 11) 0 72 → (∀ w8, w8 = wcopy w7 (a1 + 12) 0 (s + 12) 0 5184 → (∀ w9, w9 = wcopy w8 (a1 + 13) 0 (s + 13) 0 72 → (∀ w10, w10 = wcopy w9 (a1 + 14) 0 (s + 14) 0 72 → (∀ w11, w11 = wcopy w10 (a1 + 15) 0 (s + 15) 0 72 → (∀ w12, w12 = wset w11 s 11 (w11 a1 11) → (∀ w13, w13 = wset w12 s 12 (w12 a1 12) → ((w13 a1 13) = 0 ∨ (w13 a1 13) = 1) ∧ (∀ w14, w14 = wset w13 s 13 (w13 a1 13) → K w14))))))))))))))) :
    E_X5_takeAll d [.inr (.inr s), .inr (.inr a1)] w K := by
  refine EvA.of (by decide +kernel) (Nat.le_of_ble_eq_true rfl) ?_
  change W_X5_takeAll d 0 [some (.inr (.inr s)), some (.inr (.inr a1))] [] w K
  refine WA.aload_n dX5_takeAll_0 rfl (am_St_ne hs) ?_
  refine gxX5_12 rfl rfl dX5_takeAll_1 (am_St_obj hs) ?_
  refine WA.aload_n dX5_takeAll_4 rfl (am_St_ne ha1) ?_
  refine gxX5_12 rfl rfl dX5_takeAll_5 (am_St_obj ha1) ?_
  obtain ⟨d1, hd1, h⟩ := h
  refine WA.callV1 (kc := 0) (ks := 0) (kc' := 0) (ks' := 0) dX5_takeAll_8 lkX5_56 rfl rfl rfl (am_Tx_obj (am_St_1 hs)) rfl (Nat.le_of_ble_eq_true rfl) hd1 h (fun r w1 hK => ?_)
  obtain ⟨rfl, h⟩ := hK
  change WA _ _ _ _ _ _ _ _ _ _ _ [] _ _
  refine WA.aload_n dX5_takeAll_11 rfl (am_St_ne hs) ?_
  refine gxX5_18 rfl rfl dX5_takeAll_12 (am_St_obj hs) ?_
  refine WA.aload_n dX5_takeAll_15 rfl (am_St_ne ha1) ?_
  refine gxX5_18 rfl rfl dX5_takeAll_16 (am_St_obj ha1) ?_
  obtain ⟨d1, hd1, h⟩ := h
  refine WA.callV1 (kc := 0) (ks := 0) (kc' := 0) (ks' := 0) dX5_takeAll_19 lkX5_56 rfl rfl rfl (am_Tx_obj (am_St_4 hs)) rfl (Nat.le_of_ble_eq_true rfl) hd1 h (fun r w2 hK => ?_)
  obtain ⟨rfl, h⟩ := hK
  change WA _ _ _ _ _ _ _ _ _ _ _ [] _ _
  refine WA.aload_n dX5_takeAll_22 rfl (am_St_ne ha1) ?_
  refine gxX5_21 rfl rfl dX5_takeAll_23 (am_St_obj ha1) ?_
  refine WA.iconst dX5_takeAll_26 ⟨by decide, by decide⟩ ?_
  refine WA.aload_n dX5_takeAll_27 rfl (am_St_ne hs) ?_
  refine gxX5_21 rfl rfl dX5_takeAll_28 (am_St_obj hs) ?_
  refine WA.iconst dX5_takeAll_31 ⟨by decide, by decide⟩ ?_
  refine WA.bipush dX5_takeAll_32 ⟨by decide, by decide⟩ ?_
  obtain ⟨w3, qw3⟩ : ∃ z, z = wcopy w2 (a1 + 7) 0 (s + 7) 0 72 := ⟨_, rfl⟩
  have h := h w3 qw3
  refine WA.arraycopy dX5_takeAll_34 (am_mem 460 (by decide +kernel) rfl) (am_mem 459 (by decide +kernel) rfl) (am_mem 458 (by decide +kernel) rfl) (am_mem 16 (by decide +kernel) rfl) (Nat.le_trans (by decide) hd) (Nat.le_of_ble_eq_true rfl) (am_St_7 ha1) (am_St_7 hs) (by decide) (by decide) (by decide) (by decide) (by decide) ?_
  rw [← qw3]
  refine WA.aload_n dX5_takeAll_37 rfl (am_St_ne ha1) ?_
  refine gxX5_25 rfl rfl dX5_takeAll_38 (am_St_obj ha1) ?_
  refine WA.iconst dX5_takeAll_41 ⟨by decide, by decide⟩ ?_
  refine WA.aload_n dX5_takeAll_42 rfl (am_St_ne hs) ?_
  refine gxX5_25 rfl rfl dX5_takeAll_43 (am_St_obj hs) ?_
  refine WA.iconst dX5_takeAll_46 ⟨by decide, by decide⟩ ?_
  refine WA.bipush dX5_takeAll_47 ⟨by decide, by decide⟩ ?_
  obtain ⟨w4, qw4⟩ : ∃ z, z = wcopy w3 (a1 + 8) 0 (s + 8) 0 72 := ⟨_, rfl⟩
  have h := h w4 qw4
  refine WA.arraycopy dX5_takeAll_49 (am_mem 460 (by decide +kernel) rfl) (am_mem 459 (by decide +kernel) rfl) (am_mem 458 (by decide +kernel) rfl) (am_mem 16 (by decide +kernel) rfl) (Nat.le_trans (by decide) hd) (Nat.le_of_ble_eq_true rfl) (am_St_8 ha1) (am_St_8 hs) (by decide) (by decide) (by decide) (by decide) (by decide) ?_
  rw [← qw4]
  refine WA.aload_n dX5_takeAll_52 rfl (am_St_ne ha1) ?_
  refine gxX5_28 rfl rfl dX5_takeAll_53 (am_St_obj ha1) ?_
  refine WA.iconst dX5_takeAll_56 ⟨by decide, by decide⟩ ?_
  refine WA.aload_n dX5_takeAll_57 rfl (am_St_ne hs) ?_
  refine gxX5_28 rfl rfl dX5_takeAll_58 (am_St_obj hs) ?_
  refine WA.iconst dX5_takeAll_61 ⟨by decide, by decide⟩ ?_
  refine WA.bipush dX5_takeAll_62 ⟨by decide, by decide⟩ ?_
  obtain ⟨w5, qw5⟩ : ∃ z, z = wcopy w4 (a1 + 9) 0 (s + 9) 0 72 := ⟨_, rfl⟩
  have h := h w5 qw5
  refine WA.arraycopy dX5_takeAll_64 (am_mem 460 (by decide +kernel) rfl) (am_mem 459 (by decide +kernel) rfl) (am_mem 458 (by decide +kernel) rfl) (am_mem 16 (by decide +kernel) rfl) (Nat.le_trans (by decide) hd) (Nat.le_of_ble_eq_true rfl) (am_St_9 ha1) (am_St_9 hs) (by decide) (by decide) (by decide) (by decide) (by decide) ?_
  rw [← qw5]
  refine WA.aload_n dX5_takeAll_67 rfl (am_St_ne ha1) ?_
  refine gxX5_31 rfl rfl dX5_takeAll_68 (am_St_obj ha1) ?_
  refine WA.iconst dX5_takeAll_71 ⟨by decide, by decide⟩ ?_
  refine WA.aload_n dX5_takeAll_72 rfl (am_St_ne hs) ?_
  refine gxX5_31 rfl rfl dX5_takeAll_73 (am_St_obj hs) ?_
  refine WA.iconst dX5_takeAll_76 ⟨by decide, by decide⟩ ?_
  refine WA.bipush dX5_takeAll_77 ⟨by decide, by decide⟩ ?_
  obtain ⟨w6, qw6⟩ : ∃ z, z = wcopy w5 (a1 + 10) 0 (s + 10) 0 72 := ⟨_, rfl⟩
  have h := h w6 qw6
  refine WA.arraycopy dX5_takeAll_79 (am_mem 460 (by decide +kernel) rfl) (am_mem 459 (by decide +kernel) rfl) (am_mem 458 (by decide +kernel) rfl) (am_mem 16 (by decide +kernel) rfl) (Nat.le_trans (by decide) hd) (Nat.le_of_ble_eq_true rfl) (am_St_10 ha1) (am_St_10 hs) (by decide) (by decide) (by decide) (by decide) (by decide) ?_
  rw [← qw6]
  refine WA.aload_n dX5_takeAll_82 rfl (am_St_ne ha1) ?_
  refine gxX5_34 rfl rfl dX5_takeAll_83 (am_St_obj ha1) ?_
  refine WA.iconst dX5_takeAll_86 ⟨by decide, by decide⟩ ?_
  refine WA.aload_n dX5_takeAll_87 rfl (am_St_ne hs) ?_
  refine gxX5_34 rfl rfl dX5_takeAll_88 (am_St_obj hs) ?_
  refine WA.iconst dX5_takeAll_91 ⟨by decide, by decide⟩ ?_
  refine WA.bipush dX5_takeAll_92 ⟨by decide, by decide⟩ ?_
  obtain ⟨w7, qw7⟩ : ∃ z, z = wcopy w6 (a1 + 11) 0 (s + 11) 0 72 := ⟨_, rfl⟩
  have h := h w7 qw7
  refine WA.arraycopy dX5_takeAll_94 (am_mem 460 (by decide +kernel) rfl) (am_mem 459 (by decide +kernel) rfl) (am_mem 458 (by decide +kernel) rfl) (am_mem 16 (by decide +kernel) rfl) (Nat.le_trans (by decide) hd) (Nat.le_of_ble_eq_true rfl) (am_St_11 ha1) (am_St_11 hs) (by decide) (by decide) (by decide) (by decide) (by decide) ?_
  rw [← qw7]
  refine WA.aload_n dX5_takeAll_97 rfl (am_St_ne ha1) ?_
  refine gxX5_37 rfl rfl dX5_takeAll_98 (am_St_obj ha1) ?_
  refine WA.iconst dX5_takeAll_101 ⟨by decide, by decide⟩ ?_
  refine WA.aload_n dX5_takeAll_102 rfl (am_St_ne hs) ?_
  refine gxX5_37 rfl rfl dX5_takeAll_103 (am_St_obj hs) ?_
  refine WA.iconst dX5_takeAll_106 ⟨by decide, by decide⟩ ?_
  refine WA.sipush dX5_takeAll_107 ⟨by decide, by decide⟩ ?_
  obtain ⟨w8, qw8⟩ : ∃ z, z = wcopy w7 (a1 + 12) 0 (s + 12) 0 5184 := ⟨_, rfl⟩
  have h := h w8 qw8
  refine WA.arraycopy dX5_takeAll_110 (am_mem 460 (by decide +kernel) rfl) (am_mem 459 (by decide +kernel) rfl) (am_mem 458 (by decide +kernel) rfl) (am_mem 16 (by decide +kernel) rfl) (Nat.le_trans (by decide) hd) (Nat.le_of_ble_eq_true rfl) (am_St_12 ha1) (am_St_12 hs) (by decide) (by decide) (by decide) (by decide) (by decide) ?_
  rw [← qw8]
  refine WA.aload_n dX5_takeAll_113 rfl (am_St_ne ha1) ?_
  refine gxX5_40 rfl rfl dX5_takeAll_114 (am_St_obj ha1) ?_
  refine WA.iconst dX5_takeAll_117 ⟨by decide, by decide⟩ ?_
  refine WA.aload_n dX5_takeAll_118 rfl (am_St_ne hs) ?_
  refine gxX5_40 rfl rfl dX5_takeAll_119 (am_St_obj hs) ?_
  refine WA.iconst dX5_takeAll_122 ⟨by decide, by decide⟩ ?_
  refine WA.bipush dX5_takeAll_123 ⟨by decide, by decide⟩ ?_
  obtain ⟨w9, qw9⟩ : ∃ z, z = wcopy w8 (a1 + 13) 0 (s + 13) 0 72 := ⟨_, rfl⟩
  have h := h w9 qw9
  refine WA.arraycopy dX5_takeAll_125 (am_mem 460 (by decide +kernel) rfl) (am_mem 459 (by decide +kernel) rfl) (am_mem 458 (by decide +kernel) rfl) (am_mem 16 (by decide +kernel) rfl) (Nat.le_trans (by decide) hd) (Nat.le_of_ble_eq_true rfl) (am_St_13 ha1) (am_St_13 hs) (by decide) (by decide) (by decide) (by decide) (by decide) ?_
  rw [← qw9]
  refine WA.aload_n dX5_takeAll_128 rfl (am_St_ne ha1) ?_
  refine gxX5_43 rfl rfl dX5_takeAll_129 (am_St_obj ha1) ?_
  refine WA.iconst dX5_takeAll_132 ⟨by decide, by decide⟩ ?_
  refine WA.aload_n dX5_takeAll_133 rfl (am_St_ne hs) ?_
  refine gxX5_43 rfl rfl dX5_takeAll_134 (am_St_obj hs) ?_
  refine WA.iconst dX5_takeAll_137 ⟨by decide, by decide⟩ ?_
  refine WA.bipush dX5_takeAll_138 ⟨by decide, by decide⟩ ?_
  obtain ⟨w10, qw10⟩ : ∃ z, z = wcopy w9 (a1 + 14) 0 (s + 14) 0 72 := ⟨_, rfl⟩
  have h := h w10 qw10
  refine WA.arraycopy dX5_takeAll_140 (am_mem 460 (by decide +kernel) rfl) (am_mem 459 (by decide +kernel) rfl) (am_mem 458 (by decide +kernel) rfl) (am_mem 16 (by decide +kernel) rfl) (Nat.le_trans (by decide) hd) (Nat.le_of_ble_eq_true rfl) (am_St_14 ha1) (am_St_14 hs) (by decide) (by decide) (by decide) (by decide) (by decide) ?_
  rw [← qw10]
  refine WA.aload_n dX5_takeAll_143 rfl (am_St_ne ha1) ?_
  refine gxX5_46 rfl rfl dX5_takeAll_144 (am_St_obj ha1) ?_
  refine WA.iconst dX5_takeAll_147 ⟨by decide, by decide⟩ ?_
  refine WA.aload_n dX5_takeAll_148 rfl (am_St_ne hs) ?_
  refine gxX5_46 rfl rfl dX5_takeAll_149 (am_St_obj hs) ?_
  refine WA.iconst dX5_takeAll_152 ⟨by decide, by decide⟩ ?_
  refine WA.bipush dX5_takeAll_153 ⟨by decide, by decide⟩ ?_
  obtain ⟨w11, qw11⟩ : ∃ z, z = wcopy w10 (a1 + 15) 0 (s + 15) 0 72 := ⟨_, rfl⟩
  have h := h w11 qw11
  refine WA.arraycopy dX5_takeAll_155 (am_mem 460 (by decide +kernel) rfl) (am_mem 459 (by decide +kernel) rfl) (am_mem 458 (by decide +kernel) rfl) (am_mem 16 (by decide +kernel) rfl) (Nat.le_trans (by decide) hd) (Nat.le_of_ble_eq_true rfl) (am_St_15 ha1) (am_St_15 hs) (by decide) (by decide) (by decide) (by decide) (by decide) ?_
  rw [← qw11]
  refine WA.aload_n dX5_takeAll_158 rfl (am_St_ne hs) ?_
  refine WA.aload_n dX5_takeAll_159 rfl (am_St_ne ha1) ?_
  refine gfX5_66 rfl dX5_takeAll_160 (am_St_obj ha1) ?_
  obtain ⟨w12, qw12⟩ : ∃ z, z = wset w11 s 11 (w11 a1 11) := ⟨_, rfl⟩
  have h := h w12 qw12
  refine pfX5_66 rfl dX5_takeAll_163 (am_St_obj hs) ?_
  rw [← qw12]
  refine WA.aload_n dX5_takeAll_166 rfl (am_St_ne hs) ?_
  refine WA.aload_n dX5_takeAll_167 rfl (am_St_ne ha1) ?_
  refine gfX5_70 rfl dX5_takeAll_168 (am_St_obj ha1) ?_
  obtain ⟨w13, qw13⟩ : ∃ z, z = wset w12 s 12 (w12 a1 12) := ⟨_, rfl⟩
  have h := h w13 qw13
  refine pfX5_70 rfl dX5_takeAll_171 (am_St_obj hs) ?_
  rw [← qw13]
  refine WA.aload_n dX5_takeAll_174 rfl (am_St_ne hs) ?_
  refine WA.aload_n dX5_takeAll_175 rfl (am_St_ne ha1) ?_
  refine gfX5_49 rfl dX5_takeAll_176 (am_St_obj ha1) ?_
  obtain ⟨s1, h⟩ := h
  obtain ⟨w14, qw14⟩ : ∃ z, z = wset w13 s 13 (w13 a1 13) := ⟨_, rfl⟩
  have h := h w14 qw14
  refine pfX5_49 rfl dX5_takeAll_179 (am_St_obj hs) s1 ?_
  rw [← qw14]
  exact WA.vreturn dX5_takeAll_182 ⟨rfl, h⟩
set_option maxRecDepth 10000 in
theorem e_X5_isEmpty {d : Nat} {w : Wd} {K : Int → Wd → Prop} {s a1 : Int} (hs : am_St s) 
    (h : (0 ≤ a1 ∧ a1 < 72) ∧ ((¬ (w ((s + 1) + 2) a1) = 0 → K 0 w) ∧ ((w ((s + 1) + 2) a1) = 0 → K 1 w))) :
    E_X5_isEmpty d [.inr (.inr s), .inl a1] w K := by
  refine EvA.of (by decide +kernel) (Nat.le_of_ble_eq_true rfl) ?_
  change W_X5_isEmpty d 0 [some (.inr (.inr s)), some (.inl a1)] [] w K
  refine WA.aload_n dX5_isEmpty_0 rfl (am_St_ne hs) ?_
  refine gxX5_12 rfl rfl dX5_isEmpty_1 (am_St_obj hs) ?_
  refine gxX5_53 rfl rfl dX5_isEmpty_4 (am_Tx_obj (am_St_1 hs)) ?_
  refine WA.iload_n dX5_isEmpty_7 rfl ?_
  obtain ⟨s1, h⟩ := h
  refine WA.iaload dX5_isEmpty_8 (am_Tx_2 (am_St_1 hs)) s1.1 s1.2 ?_
  refine WA.if_ne (tgt := 16) dX5_isEmpty_9 (by decide) (fun hc => ?_) (fun hc => ?_)
  · have h := h.1 hc
    refine WA.iconst dX5_isEmpty_16 ⟨by decide, by decide⟩ ?_
    exact WA.zreturn dX5_isEmpty_17 (by decide) ⟨_, rfl, h⟩
  · have h := h.2 hc
    refine WA.iconst dX5_isEmpty_12 ⟨by decide, by decide⟩ ?_
    refine WA.goto (tgt := 17) dX5_isEmpty_13 (by decide) ?_
    exact WA.zreturn dX5_isEmpty_17 (by decide) ⟨_, rfl, h⟩
set_option maxRecDepth 10000 in
theorem e_X5_waits {d : Nat} {w : Wd} {K : Int → Wd → Prop} {s a1 : Int} (hs : am_St s) 
    (h : (0 ≤ a1 ∧ a1 < 72) ∧ (((w ((s + 4) + 2) a1) = (-1) → K 0 w) ∧ (¬ (w ((s + 4) + 2) a1) = (-1) → K 1 w))) :
    E_X5_waits d [.inr (.inr s), .inl a1] w K := by
  refine EvA.of (by decide +kernel) (Nat.le_of_ble_eq_true rfl) ?_
  change W_X5_waits d 0 [some (.inr (.inr s)), some (.inl a1)] [] w K
  refine WA.aload_n dX5_waits_0 rfl (am_St_ne hs) ?_
  refine gxX5_18 rfl rfl dX5_waits_1 (am_St_obj hs) ?_
  refine gxX5_53 rfl rfl dX5_waits_4 (am_Tx_obj (am_St_4 hs)) ?_
  refine WA.iload_n dX5_waits_7 rfl ?_
  obtain ⟨s1, h⟩ := h
  refine WA.iaload dX5_waits_8 (am_Tx_2 (am_St_4 hs)) s1.1 s1.2 ?_
  refine WA.iconst dX5_waits_9 ⟨by decide, by decide⟩ ?_
  refine WA.icmp_eq (tgt := 17) dX5_waits_10 (by decide) (fun hc => ?_) (fun hc => ?_)
  · have h := h.1 hc
    refine WA.iconst dX5_waits_17 ⟨by decide, by decide⟩ ?_
    exact WA.zreturn dX5_waits_18 (by decide) ⟨_, rfl, h⟩
  · have h := h.2 hc
    refine WA.iconst dX5_waits_13 ⟨by decide, by decide⟩ ?_
    refine WA.goto (tgt := 18) dX5_waits_14 (by decide) ?_
    exact WA.zreturn dX5_waits_18 (by decide) ⟨_, rfl, h⟩
set_option maxRecDepth 10000 in
theorem v_X5_waitingEdits_4 {d : Nat} {w : Wd} {K : Int → Wd → Prop} {s v1 v2 : Int} (hs : am_St s) 
    (h : ((72 ≤ v2 → K v1 w) ∧ (¬ (72 ≤ v2) → C_X5_waits d [.inr (.inr s), .inl v2] w (fun x1 w1 => ((x1 = 0 → (-2147483648 ≤ (v2 + 1) ∧ (v2 + 1) ≤ 2147483647) ∧ W_X5_waitingEdits d 4 [some (.inr (.inr s)), some (.inl v1), some (.inl (v2 + 1))] [] w1 K) ∧ (¬ x1 = 0 → (-2147483648 ≤ (v1 + 1) ∧ (v1 + 1) ≤ 2147483647) ∧ (-2147483648 ≤ (v2 + 1) ∧ (v2 + 1) ≤ 2147483647) ∧ W_X5_waitingEdits d 4 [some (.inr (.inr s)), some (.inl (v1 + 1)), some (.inl (v2 + 1))] [] w1 K)))))) :
    W_X5_waitingEdits d 4 [some (.inr (.inr s)), some (.inl v1), some (.inl v2)] [] w K := by
  refine WA.iload_n dX5_waitingEdits_4 rfl ?_
  refine WA.bipush dX5_waitingEdits_5 ⟨by decide, by decide⟩ ?_
  refine WA.icmp_ge (tgt := 27) dX5_waitingEdits_7 (by decide) (fun hc => ?_) (fun hc => ?_)
  · have h := h.1 hc
    refine WA.iload_n dX5_waitingEdits_27 rfl ?_
    exact WA.ireturn dX5_waitingEdits_28 ⟨_, rfl, h⟩
  · have h := h.2 hc
    refine WA.aload_n dX5_waitingEdits_10 rfl (am_St_ne hs) ?_
    refine WA.iload_n dX5_waitingEdits_11 rfl ?_
    obtain ⟨d1, hd1, h⟩ := h
    refine WA.callV1 (kc := 0) (ks := 0) (kc' := 0) (ks' := 0) dX5_waitingEdits_12 lkX5_73 rfl rfl rfl (am_St_obj hs) rfl (Nat.le_of_ble_eq_true rfl) hd1 h (fun r w1 hK => ?_)
    obtain ⟨x1, rfl, h⟩ := hK
    change WA _ _ _ _ _ _ _ _ _ _ _ [.inl x1] _ _
    refine WA.if_eq (tgt := 21) dX5_waitingEdits_15 (by decide) (fun hc => ?_) (fun hc => ?_)
    · have h := h.1 hc
      obtain ⟨s1, h⟩ := h
      refine WA.iinc (als' := [some (.inr (.inr s)), some (.inl v1), some (.inl (v2 + 1))]) dX5_waitingEdits_21 rfl s1 rfl ?_
      refine WA.goto (tgt := 4) dX5_waitingEdits_24 (by decide) ?_
      exact h
    · have h := h.2 hc
      obtain ⟨s2, h⟩ := h
      refine WA.iinc (als' := [some (.inr (.inr s)), some (.inl (v1 + 1)), some (.inl v2)]) dX5_waitingEdits_18 rfl s2 rfl ?_
      obtain ⟨s3, h⟩ := h
      refine WA.iinc (als' := [some (.inr (.inr s)), some (.inl (v1 + 1)), some (.inl (v2 + 1))]) dX5_waitingEdits_21 rfl s3 rfl ?_
      refine WA.goto (tgt := 4) dX5_waitingEdits_24 (by decide) ?_
      exact h
set_option maxRecDepth 10000 in
theorem e_X5_waitingEdits {d : Nat} {w : Wd} {K : Int → Wd → Prop} {s : Int} (hs : am_St s) 
    (h : W_X5_waitingEdits d 4 [some (.inr (.inr s)), some (.inl 0), some (.inl 0)] [] w K) :
    E_X5_waitingEdits d [.inr (.inr s)] w K := by
  refine EvA.of (by decide +kernel) (Nat.le_of_ble_eq_true rfl) ?_
  change W_X5_waitingEdits d 0 [some (.inr (.inr s)), none, none] [] w K
  refine WA.iconst dX5_waitingEdits_0 ⟨by decide, by decide⟩ ?_
  refine WA.istore_n (als' := [some (.inr (.inr s)), some (.inl 0), none]) dX5_waitingEdits_1 (Nat.le_of_ble_eq_true rfl) rfl ?_
  refine WA.iconst dX5_waitingEdits_2 ⟨by decide, by decide⟩ ?_
  refine WA.istore_n (als' := [some (.inr (.inr s)), some (.inl 0), some (.inl 0)]) dX5_waitingEdits_3 (Nat.le_of_ble_eq_true rfl) rfl ?_
  exact h
set_option maxRecDepth 10000 in
theorem e_X5_readOf {d : Nat} {w : Wd} {K : Int → Wd → Prop} {s a1 a2 : Int} (hs : am_St s) 
    (h : (-2147483648 ≤ (a1 * 72) ∧ (a1 * 72) ≤ 2147483647) ∧ (-2147483648 ≤ ((a1 * 72) + a2) ∧ ((a1 * 72) + a2) ≤ 2147483647) ∧ (0 ≤ ((a1 * 72) + a2) ∧ ((a1 * 72) + a2) < 5184) ∧ K (w (s + 12) ((a1 * 72) + a2)) w) :
    E_X5_readOf d [.inr (.inr s), .inl a1, .inl a2] w K := by
  refine EvA.of (by decide +kernel) (Nat.le_of_ble_eq_true rfl) ?_
  change W_X5_readOf d 0 [some (.inr (.inr s)), some (.inl a1), some (.inl a2)] [] w K
  refine WA.aload_n dX5_readOf_0 rfl (am_St_ne hs) ?_
  refine gxX5_37 rfl rfl dX5_readOf_1 (am_St_obj hs) ?_
  refine WA.iload_n dX5_readOf_4 rfl ?_
  refine WA.bipush dX5_readOf_5 ⟨by decide, by decide⟩ ?_
  obtain ⟨s1, h⟩ := h
  refine WA.imul dX5_readOf_7 s1 ?_
  refine WA.iload_n dX5_readOf_8 rfl ?_
  obtain ⟨s2, h⟩ := h
  refine WA.iadd dX5_readOf_9 s2 ?_
  obtain ⟨s3, h⟩ := h
  refine WA.iaload dX5_readOf_10 (am_St_12 hs) s3.1 s3.2 ?_
  exact WA.ireturn dX5_readOf_11 ⟨_, rfl, h⟩
set_option maxRecDepth 10000 in
theorem v_X5_hasRead_2 {d : Nat} {w : Wd} {K : Int → Wd → Prop} {s a1 a2 v3 : Int} (hs : am_St s) 
    (h : (0 ≤ a1 ∧ a1 < 72) ∧ (((w (s + 11) a1) ≤ v3 → K 0 w) ∧ (¬ ((w (s + 11) a1) ≤ v3) → C_X5_readOf d [.inr (.inr s), .inl a1, .inl v3] w (fun x1 w1 => ((¬ x1 = a2 → (-2147483648 ≤ (v3 + 1) ∧ (v3 + 1) ≤ 2147483647) ∧ W_X5_hasRead d 2 [some (.inr (.inr s)), some (.inl a1), some (.inl a2), some (.inl (v3 + 1))] [] w1 K) ∧ (x1 = a2 → K 1 w1)))))) :
    W_X5_hasRead d 2 [some (.inr (.inr s)), some (.inl a1), some (.inl a2), some (.inl v3)] [] w K := by
  refine WA.iload_n dX5_hasRead_2 rfl ?_
  refine WA.aload_n dX5_hasRead_3 rfl (am_St_ne hs) ?_
  refine gxX5_34 rfl rfl dX5_hasRead_4 (am_St_obj hs) ?_
  refine WA.iload_n dX5_hasRead_7 rfl ?_
  obtain ⟨s1, h⟩ := h
  refine WA.iaload dX5_hasRead_8 (am_St_11 hs) s1.1 s1.2 ?_
  refine WA.icmp_ge (tgt := 30) dX5_hasRead_9 (by decide) (fun hc => ?_) (fun hc => ?_)
  · have h := h.1 hc
    refine WA.iconst dX5_hasRead_30 ⟨by decide, by decide⟩ ?_
    exact WA.zreturn dX5_hasRead_31 (by decide) ⟨_, rfl, h⟩
  · have h := h.2 hc
    refine WA.aload_n dX5_hasRead_12 rfl (am_St_ne hs) ?_
    refine WA.iload_n dX5_hasRead_13 rfl ?_
    refine WA.iload_n dX5_hasRead_14 rfl ?_
    obtain ⟨d1, hd1, h⟩ := h
    refine WA.callV2 (kc := 0) (ks := 0) (kc' := 0) (ks' := 0) dX5_hasRead_15 lkX5_77 rfl rfl rfl (am_St_obj hs) rfl (Nat.le_of_ble_eq_true rfl) hd1 h (fun r w1 hK => ?_)
    obtain ⟨x1, rfl, h⟩ := hK
    change WA _ _ _ _ _ _ _ _ _ _ _ [.inl x1] _ _
    refine WA.iload_n dX5_hasRead_18 rfl ?_
    refine WA.icmp_ne (tgt := 24) dX5_hasRead_19 (by decide) (fun hc => ?_) (fun hc => ?_)
    · have h := h.1 hc
      obtain ⟨s2, h⟩ := h
      refine WA.iinc (als' := [some (.inr (.inr s)), some (.inl a1), some (.inl a2), some (.inl (v3 + 1))]) dX5_hasRead_24 rfl s2 rfl ?_
      refine WA.goto (tgt := 2) dX5_hasRead_27 (by decide) ?_
      exact h
    · have h := h.2 hc
      refine WA.iconst dX5_hasRead_22 ⟨by decide, by decide⟩ ?_
      exact WA.zreturn dX5_hasRead_23 (by decide) ⟨_, rfl, h⟩
set_option maxRecDepth 10000 in
theorem e_X5_hasRead {d : Nat} {w : Wd} {K : Int → Wd → Prop} {s a1 a2 : Int} (hs : am_St s) 
    (h : W_X5_hasRead d 2 [some (.inr (.inr s)), some (.inl a1), some (.inl a2), some (.inl 0)] [] w K) :
    E_X5_hasRead d [.inr (.inr s), .inl a1, .inl a2] w K := by
  refine EvA.of (by decide +kernel) (Nat.le_of_ble_eq_true rfl) ?_
  change W_X5_hasRead d 0 [some (.inr (.inr s)), some (.inl a1), some (.inl a2), none] [] w K
  refine WA.iconst dX5_hasRead_0 ⟨by decide, by decide⟩ ?_
  refine WA.istore_n (als' := [some (.inr (.inr s)), some (.inl a1), some (.inl a2), some (.inl 0)]) dX5_hasRead_1 (Nat.le_of_ble_eq_true rfl) rfl ?_
  exact h
set_option maxRecDepth 10000 in
theorem e_X5_fact {d : Nat} {w : Wd} {K : Int → Wd → Prop} {s a1 a2 : Int} (hs : am_St s) 
    (h : ((a2 = 0 → (0 ≤ a1 ∧ a1 < 72) ∧ K (w (s + 8) a1) w) ∧ ((a2 = 1 → (0 ≤ a1 ∧ a1 < 72) ∧ ((¬ (w (s + 10) a1) = 1 → (0 ≤ a1 ∧ a1 < 72) ∧ K (w (s + 9) a1) w) ∧ ((w (s + 10) a1) = 1 → K (-2000000004) w))) ∧ ((a2 = 2 → (0 ≤ a1 ∧ a1 < 72) ∧ K (w (s + 11) a1) w) ∧ ((a2 = 3 → C_X5_isEmpty d [.inr (.inr s), .inl a1] w (fun x1 w1 => ((x1 = 0 → K 0 w1) ∧ (¬ x1 = 0 → K 1 w1)))) ∧ ((a2 = 4 → (0 ≤ a1 ∧ a1 < 72) ∧ K (w (s + 13) a1) w) ∧ ((a2 = 5 → (0 ≤ a1 ∧ a1 < 72) ∧ ((¬ (w (s + 15) a1) = (-1) → K 1 w) ∧ ((w (s + 15) a1) = (-1) → K 0 w))) ∧ ((a2 = 6 → (0 ≤ a1 ∧ a1 < 72) ∧ K (w (s + 14) a1) w) ∧ ((a2 = 7 → (0 ≤ a1 ∧ a1 < 72) ∧ K (w (s + 10) a1) w) ∧ (a2 < 0 ∨ 7 < a2 → (0 ≤ a1 ∧ a1 < 72) ∧ K (w ((s + 1) + 2) a1) w)))))))))) :
    E_X5_fact d [.inr (.inr s), .inl a1, .inl a2] w K := by
  refine EvA.of (by decide +kernel) (Nat.le_of_ble_eq_true rfl) ?_
  change W_X5_fact d 0 [some (.inr (.inr s)), some (.inl a1), some (.inl a2)] [] w K
  refine WA.iload_n dX5_fact_0 rfl ?_
  by_cases hc : a2 = 0
  · have h := h.1 hc
    refine WA.tableIn (tgt := 48) dX5_fact_1 (by rw [hc]; decide) (by rw [hc]; decide) (by rw [hc]; rfl) (by decide) ?_
    refine WA.aload_n dX5_fact_48 rfl (am_St_ne hs) ?_
    refine gxX5_25 rfl rfl dX5_fact_49 (am_St_obj hs) ?_
    refine WA.iload_n dX5_fact_52 rfl ?_
    obtain ⟨s1, h⟩ := h
    refine WA.iaload dX5_fact_53 (am_St_8 hs) s1.1 s1.2 ?_
    exact WA.ireturn dX5_fact_54 ⟨_, rfl, h⟩
  · have h := h.2
    have n0 := hc
    by_cases hc : a2 = 1
    · have h := h.1 hc
      refine WA.tableIn (tgt := 55) dX5_fact_1 (by rw [hc]; decide) (by rw [hc]; decide) (by rw [hc]; rfl) (by decide) ?_
      refine WA.aload_n dX5_fact_55 rfl (am_St_ne hs) ?_
      refine gxX5_31 rfl rfl dX5_fact_56 (am_St_obj hs) ?_
      refine WA.iload_n dX5_fact_59 rfl ?_
      obtain ⟨s2, h⟩ := h
      refine WA.iaload dX5_fact_60 (am_St_10 hs) s2.1 s2.2 ?_
      refine WA.iconst dX5_fact_61 ⟨by decide, by decide⟩ ?_
      refine WA.icmp_ne (tgt := 70) dX5_fact_62 (by decide) (fun hc => ?_) (fun hc => ?_)
      · have h := h.1 hc
        refine WA.aload_n dX5_fact_70 rfl (am_St_ne hs) ?_
        refine gxX5_28 rfl rfl dX5_fact_71 (am_St_obj hs) ?_
        refine WA.iload_n dX5_fact_74 rfl ?_
        obtain ⟨s3, h⟩ := h
        refine WA.iaload dX5_fact_75 (am_St_9 hs) s3.1 s3.2 ?_
        exact WA.ireturn dX5_fact_76 ⟨_, rfl, h⟩
      · have h := h.2 hc
        refine WA.ldc (v := (-2000000004)) (x := (-2000000004)) dX5_fact_65 (am_mem 669 (by decide +kernel) rfl) (by decide) ?_
        refine WA.goto (tgt := 76) dX5_fact_67 (by decide) ?_
        exact WA.ireturn dX5_fact_76 ⟨_, rfl, h⟩
    · have h := h.2
      have n1 := hc
      by_cases hc : a2 = 2
      · have h := h.1 hc
        refine WA.tableIn (tgt := 77) dX5_fact_1 (by rw [hc]; decide) (by rw [hc]; decide) (by rw [hc]; rfl) (by decide) ?_
        refine WA.aload_n dX5_fact_77 rfl (am_St_ne hs) ?_
        refine gxX5_34 rfl rfl dX5_fact_78 (am_St_obj hs) ?_
        refine WA.iload_n dX5_fact_81 rfl ?_
        obtain ⟨s4, h⟩ := h
        refine WA.iaload dX5_fact_82 (am_St_11 hs) s4.1 s4.2 ?_
        exact WA.ireturn dX5_fact_83 ⟨_, rfl, h⟩
      · have h := h.2
        have n2 := hc
        by_cases hc : a2 = 3
        · have h := h.1 hc
          refine WA.tableIn (tgt := 84) dX5_fact_1 (by rw [hc]; decide) (by rw [hc]; decide) (by rw [hc]; rfl) (by decide) ?_
          refine WA.aload_n dX5_fact_84 rfl (am_St_ne hs) ?_
          refine WA.iload_n dX5_fact_85 rfl ?_
          obtain ⟨d1, hd1, h⟩ := h
          refine WA.callV1 (kc := 0) (ks := 0) (kc' := 0) (ks' := 0) dX5_fact_86 lkX5_82 rfl rfl rfl (am_St_obj hs) rfl (Nat.le_of_ble_eq_true rfl) hd1 h (fun r w1 hK => ?_)
          obtain ⟨x1, rfl, h⟩ := hK
          change WA _ _ _ _ _ _ _ _ _ _ _ [.inl x1] _ _
          refine WA.if_eq (tgt := 96) dX5_fact_89 (by decide) (fun hc => ?_) (fun hc => ?_)
          · have h := h.1 hc
            refine WA.iconst dX5_fact_96 ⟨by decide, by decide⟩ ?_
            exact WA.ireturn dX5_fact_97 ⟨_, rfl, h⟩
          · have h := h.2 hc
            refine WA.iconst dX5_fact_92 ⟨by decide, by decide⟩ ?_
            refine WA.goto (tgt := 97) dX5_fact_93 (by decide) ?_
            exact WA.ireturn dX5_fact_97 ⟨_, rfl, h⟩
        · have h := h.2
          have n3 := hc
          by_cases hc : a2 = 4
          · have h := h.1 hc
            refine WA.tableIn (tgt := 98) dX5_fact_1 (by rw [hc]; decide) (by rw [hc]; decide) (by rw [hc]; rfl) (by decide) ?_
            refine WA.aload_n dX5_fact_98 rfl (am_St_ne hs) ?_
            refine gxX5_40 rfl rfl dX5_fact_99 (am_St_obj hs) ?_
            refine WA.iload_n dX5_fact_102 rfl ?_
            obtain ⟨s5, h⟩ := h
            refine WA.iaload dX5_fact_103 (am_St_13 hs) s5.1 s5.2 ?_
            exact WA.ireturn dX5_fact_104 ⟨_, rfl, h⟩
          · have h := h.2
            have n4 := hc
            by_cases hc : a2 = 5
            · have h := h.1 hc
              refine WA.tableIn (tgt := 105) dX5_fact_1 (by rw [hc]; decide) (by rw [hc]; decide) (by rw [hc]; rfl) (by decide) ?_
              refine WA.aload_n dX5_fact_105 rfl (am_St_ne hs) ?_
              refine gxX5_46 rfl rfl dX5_fact_106 (am_St_obj hs) ?_
              refine WA.iload_n dX5_fact_109 rfl ?_
              obtain ⟨s6, h⟩ := h
              refine WA.iaload dX5_fact_110 (am_St_15 hs) s6.1 s6.2 ?_
              refine WA.iconst dX5_fact_111 ⟨by decide, by decide⟩ ?_
              refine WA.icmp_ne (tgt := 119) dX5_fact_112 (by decide) (fun hc => ?_) (fun hc => ?_)
              · have h := h.1 hc
                refine WA.iconst dX5_fact_119 ⟨by decide, by decide⟩ ?_
                exact WA.ireturn dX5_fact_120 ⟨_, rfl, h⟩
              · have h := h.2 hc
                refine WA.iconst dX5_fact_115 ⟨by decide, by decide⟩ ?_
                refine WA.goto (tgt := 120) dX5_fact_116 (by decide) ?_
                exact WA.ireturn dX5_fact_120 ⟨_, rfl, h⟩
            · have h := h.2
              have n5 := hc
              by_cases hc : a2 = 6
              · have h := h.1 hc
                refine WA.tableIn (tgt := 121) dX5_fact_1 (by rw [hc]; decide) (by rw [hc]; decide) (by rw [hc]; rfl) (by decide) ?_
                refine WA.aload_n dX5_fact_121 rfl (am_St_ne hs) ?_
                refine gxX5_43 rfl rfl dX5_fact_122 (am_St_obj hs) ?_
                refine WA.iload_n dX5_fact_125 rfl ?_
                obtain ⟨s7, h⟩ := h
                refine WA.iaload dX5_fact_126 (am_St_14 hs) s7.1 s7.2 ?_
                exact WA.ireturn dX5_fact_127 ⟨_, rfl, h⟩
              · have h := h.2
                have n6 := hc
                by_cases hc : a2 = 7
                · have h := h.1 hc
                  refine WA.tableIn (tgt := 128) dX5_fact_1 (by rw [hc]; decide) (by rw [hc]; decide) (by rw [hc]; rfl) (by decide) ?_
                  refine WA.aload_n dX5_fact_128 rfl (am_St_ne hs) ?_
                  refine gxX5_31 rfl rfl dX5_fact_129 (am_St_obj hs) ?_
                  refine WA.iload_n dX5_fact_132 rfl ?_
                  obtain ⟨s8, h⟩ := h
                  refine WA.iaload dX5_fact_133 (am_St_10 hs) s8.1 s8.2 ?_
                  exact WA.ireturn dX5_fact_134 ⟨_, rfl, h⟩
                · have h := h.2
                  have n7 := hc
                  have ho : a2 < 0 ∨ 7 < a2 := by
                    rcases Int.lt_or_le a2 0 with q | q
                    · exact Or.inl q
                    · have q : 1 ≤ a2 := am_bump q n0
                      have q : 2 ≤ a2 := am_bump q n1
                      have q : 3 ≤ a2 := am_bump q n2
                      have q : 4 ≤ a2 := am_bump q n3
                      have q : 5 ≤ a2 := am_bump q n4
                      have q : 6 ≤ a2 := am_bump q n5
                      have q : 7 ≤ a2 := am_bump q n6
                      have q : 8 ≤ a2 := am_bump q n7
                      exact Or.inr q
                  have h := h ho
                  refine WA.tableOut (tgt := 135) dX5_fact_1 ho (by decide) ?_
                  refine WA.aload_n dX5_fact_135 rfl (am_St_ne hs) ?_
                  refine gxX5_12 rfl rfl dX5_fact_136 (am_St_obj hs) ?_
                  refine gxX5_53 rfl rfl dX5_fact_139 (am_Tx_obj (am_St_1 hs)) ?_
                  refine WA.iload_n dX5_fact_142 rfl ?_
                  obtain ⟨s9, h⟩ := h
                  refine WA.iaload dX5_fact_143 (am_Tx_2 (am_St_1 hs)) s9.1 s9.2 ?_
                  exact WA.ireturn dX5_fact_144 ⟨_, rfl, h⟩
set_option maxRecDepth 10000 in
theorem v_X5_cellsWithErrors_4 {d : Nat} {w : Wd} {K : Int → Wd → Prop} {s v1 v2 : Int} (hs : am_St s) 
    (h : ((72 ≤ v2 → K v1 w) ∧ (¬ (72 ≤ v2) → (0 ≤ v2 ∧ v2 < 72) ∧ (((w (s + 8) v2) = 0 → (-2147483648 ≤ (v2 + 1) ∧ (v2 + 1) ≤ 2147483647) ∧ W_X5_cellsWithErrors d 4 [some (.inr (.inr s)), some (.inl v1), some (.inl (v2 + 1))] [] w K) ∧ (¬ (w (s + 8) v2) = 0 → (-2147483648 ≤ (v1 + 1) ∧ (v1 + 1) ≤ 2147483647) ∧ (-2147483648 ≤ (v2 + 1) ∧ (v2 + 1) ≤ 2147483647) ∧ W_X5_cellsWithErrors d 4 [some (.inr (.inr s)), some (.inl (v1 + 1)), some (.inl (v2 + 1))] [] w K))))) :
    W_X5_cellsWithErrors d 4 [some (.inr (.inr s)), some (.inl v1), some (.inl v2)] [] w K := by
  refine WA.iload_n dX5_cellsWithErrors_4 rfl ?_
  refine WA.bipush dX5_cellsWithErrors_5 ⟨by decide, by decide⟩ ?_
  refine WA.icmp_ge (tgt := 28) dX5_cellsWithErrors_7 (by decide) (fun hc => ?_) (fun hc => ?_)
  · have h := h.1 hc
    refine WA.iload_n dX5_cellsWithErrors_28 rfl ?_
    exact WA.ireturn dX5_cellsWithErrors_29 ⟨_, rfl, h⟩
  · have h := h.2 hc
    refine WA.aload_n dX5_cellsWithErrors_10 rfl (am_St_ne hs) ?_
    refine gxX5_25 rfl rfl dX5_cellsWithErrors_11 (am_St_obj hs) ?_
    refine WA.iload_n dX5_cellsWithErrors_14 rfl ?_
    obtain ⟨s1, h⟩ := h
    refine WA.iaload dX5_cellsWithErrors_15 (am_St_8 hs) s1.1 s1.2 ?_
    refine WA.if_eq (tgt := 22) dX5_cellsWithErrors_16 (by decide) (fun hc => ?_) (fun hc => ?_)
    · have h := h.1 hc
      obtain ⟨s2, h⟩ := h
      refine WA.iinc (als' := [some (.inr (.inr s)), some (.inl v1), some (.inl (v2 + 1))]) dX5_cellsWithErrors_22 rfl s2 rfl ?_
      refine WA.goto (tgt := 4) dX5_cellsWithErrors_25 (by decide) ?_
      exact h
    · have h := h.2 hc
      obtain ⟨s3, h⟩ := h
      refine WA.iinc (als' := [some (.inr (.inr s)), some (.inl (v1 + 1)), some (.inl v2)]) dX5_cellsWithErrors_19 rfl s3 rfl ?_
      obtain ⟨s4, h⟩ := h
      refine WA.iinc (als' := [some (.inr (.inr s)), some (.inl (v1 + 1)), some (.inl (v2 + 1))]) dX5_cellsWithErrors_22 rfl s4 rfl ?_
      refine WA.goto (tgt := 4) dX5_cellsWithErrors_25 (by decide) ?_
      exact h
set_option maxRecDepth 10000 in
theorem e_X5_cellsWithErrors {d : Nat} {w : Wd} {K : Int → Wd → Prop} {s : Int} (hs : am_St s) 
    (h : W_X5_cellsWithErrors d 4 [some (.inr (.inr s)), some (.inl 0), some (.inl 0)] [] w K) :
    E_X5_cellsWithErrors d [.inr (.inr s)] w K := by
  refine EvA.of (by decide +kernel) (Nat.le_of_ble_eq_true rfl) ?_
  change W_X5_cellsWithErrors d 0 [some (.inr (.inr s)), none, none] [] w K
  refine WA.iconst dX5_cellsWithErrors_0 ⟨by decide, by decide⟩ ?_
  refine WA.istore_n (als' := [some (.inr (.inr s)), some (.inl 0), none]) dX5_cellsWithErrors_1 (Nat.le_of_ble_eq_true rfl) rfl ?_
  refine WA.iconst dX5_cellsWithErrors_2 ⟨by decide, by decide⟩ ?_
  refine WA.istore_n (als' := [some (.inr (.inr s)), some (.inl 0), some (.inl 0)]) dX5_cellsWithErrors_3 (Nat.le_of_ble_eq_true rfl) rfl ?_
  exact h
set_option maxRecDepth 10000 in
theorem v_X5_greatestHeight_4 {d : Nat} {w : Wd} {K : Int → Wd → Prop} {s v1 v2 : Int} (hs : am_St s) (hd : 2 ≤ d) 
    (h : ((72 ≤ v2 → K v1 w) ∧ (¬ (72 ≤ v2) → (0 ≤ v2 ∧ v2 < 72) ∧ ((¬ (w (s + 10) v2) = 0 → (-2147483648 ≤ (v2 + 1) ∧ (v2 + 1) ≤ 2147483647) ∧ W_X5_greatestHeight d 4 [some (.inr (.inr s)), some (.inl v1), some (.inl (v2 + 1))] [] w K) ∧ ((w (s + 10) v2) = 0 → (0 ≤ v2 ∧ v2 < 72) ∧ (-2147483648 ≤ (v2 + 1) ∧ (v2 + 1) ≤ 2147483647) ∧ W_X5_greatestHeight d 4 [some (.inr (.inr s)), some (.inl (max v1 (w (s + 9) v2))), some (.inl (v2 + 1))] [] w K))))) :
    W_X5_greatestHeight d 4 [some (.inr (.inr s)), some (.inl v1), some (.inl v2)] [] w K := by
  refine WA.iload_n dX5_greatestHeight_4 rfl ?_
  refine WA.bipush dX5_greatestHeight_5 ⟨by decide, by decide⟩ ?_
  refine WA.icmp_ge (tgt := 36) dX5_greatestHeight_7 (by decide) (fun hc => ?_) (fun hc => ?_)
  · have h := h.1 hc
    refine WA.iload_n dX5_greatestHeight_36 rfl ?_
    exact WA.ireturn dX5_greatestHeight_37 ⟨_, rfl, h⟩
  · have h := h.2 hc
    refine WA.aload_n dX5_greatestHeight_10 rfl (am_St_ne hs) ?_
    refine gxX5_31 rfl rfl dX5_greatestHeight_11 (am_St_obj hs) ?_
    refine WA.iload_n dX5_greatestHeight_14 rfl ?_
    obtain ⟨s1, h⟩ := h
    refine WA.iaload dX5_greatestHeight_15 (am_St_10 hs) s1.1 s1.2 ?_
    refine WA.if_ne (tgt := 30) dX5_greatestHeight_16 (by decide) (fun hc => ?_) (fun hc => ?_)
    · have h := h.1 hc
      obtain ⟨s2, h⟩ := h
      refine WA.iinc (als' := [some (.inr (.inr s)), some (.inl v1), some (.inl (v2 + 1))]) dX5_greatestHeight_30 rfl s2 rfl ?_
      refine WA.goto (tgt := 4) dX5_greatestHeight_33 (by decide) ?_
      exact h
    · have h := h.2 hc
      refine WA.iload_n dX5_greatestHeight_19 rfl ?_
      refine WA.aload_n dX5_greatestHeight_20 rfl (am_St_ne hs) ?_
      refine gxX5_28 rfl rfl dX5_greatestHeight_21 (am_St_obj hs) ?_
      refine WA.iload_n dX5_greatestHeight_24 rfl ?_
      obtain ⟨s3, h⟩ := h
      refine WA.iaload dX5_greatestHeight_25 (am_St_9 hs) s3.1 s3.2 ?_
      refine WA.mathmax dX5_greatestHeight_26 (am_mem 742 (by decide +kernel) rfl) (am_mem 412 (by decide +kernel) rfl) (am_mem 15 (by decide +kernel) rfl) (am_mem 413 (by decide +kernel) rfl) (Nat.le_trans (by decide) hd) (Nat.le_of_ble_eq_true rfl) ?_
      refine WA.istore_n (als' := [some (.inr (.inr s)), some (.inl (max v1 (w (s + 9) v2))), some (.inl v2)]) dX5_greatestHeight_29 (Nat.le_of_ble_eq_true rfl) rfl ?_
      obtain ⟨s4, h⟩ := h
      refine WA.iinc (als' := [some (.inr (.inr s)), some (.inl (max v1 (w (s + 9) v2))), some (.inl (v2 + 1))]) dX5_greatestHeight_30 rfl s4 rfl ?_
      refine WA.goto (tgt := 4) dX5_greatestHeight_33 (by decide) ?_
      exact h
set_option maxRecDepth 10000 in
theorem e_X5_greatestHeight {d : Nat} {w : Wd} {K : Int → Wd → Prop} {s : Int} (hs : am_St s) 
    (h : W_X5_greatestHeight d 4 [some (.inr (.inr s)), some (.inl 0), some (.inl 0)] [] w K) :
    E_X5_greatestHeight d [.inr (.inr s)] w K := by
  refine EvA.of (by decide +kernel) (Nat.le_of_ble_eq_true rfl) ?_
  change W_X5_greatestHeight d 0 [some (.inr (.inr s)), none, none] [] w K
  refine WA.iconst dX5_greatestHeight_0 ⟨by decide, by decide⟩ ?_
  refine WA.istore_n (als' := [some (.inr (.inr s)), some (.inl 0), none]) dX5_greatestHeight_1 (Nat.le_of_ble_eq_true rfl) rfl ?_
  refine WA.iconst dX5_greatestHeight_2 ⟨by decide, by decide⟩ ?_
  refine WA.istore_n (als' := [some (.inr (.inr s)), some (.inl 0), some (.inl 0)]) dX5_greatestHeight_3 (Nat.le_of_ble_eq_true rfl) rfl ?_
  exact h
set_option maxRecDepth 10000 in
theorem e_X5_rankOf {d : Nat} {w : Wd} {K : Int → Wd → Prop} {s a1 : Int} (hs : am_St s) 
    (h : (0 ≤ a1 ∧ a1 < 72) ∧ ((¬ (w (s + 10) a1) = 1 → (0 ≤ a1 ∧ a1 < 72) ∧ K (w (s + 9) a1) w) ∧ ((w (s + 10) a1) = 1 → K 72 w))) :
    E_X5_rankOf d [.inr (.inr s), .inl a1] w K := by
  refine EvA.of (by decide +kernel) (Nat.le_of_ble_eq_true rfl) ?_
  change W_X5_rankOf d 0 [some (.inr (.inr s)), some (.inl a1)] [] w K
  refine WA.aload_n dX5_rankOf_0 rfl (am_St_ne hs) ?_
  refine gxX5_31 rfl rfl dX5_rankOf_1 (am_St_obj hs) ?_
  refine WA.iload_n dX5_rankOf_4 rfl ?_
  obtain ⟨s1, h⟩ := h
  refine WA.iaload dX5_rankOf_5 (am_St_10 hs) s1.1 s1.2 ?_
  refine WA.iconst dX5_rankOf_6 ⟨by decide, by decide⟩ ?_
  refine WA.icmp_ne (tgt := 15) dX5_rankOf_7 (by decide) (fun hc => ?_) (fun hc => ?_)
  · have h := h.1 hc
    refine WA.aload_n dX5_rankOf_15 rfl (am_St_ne hs) ?_
    refine gxX5_28 rfl rfl dX5_rankOf_16 (am_St_obj hs) ?_
    refine WA.iload_n dX5_rankOf_19 rfl ?_
    obtain ⟨s2, h⟩ := h
    refine WA.iaload dX5_rankOf_20 (am_St_9 hs) s2.1 s2.2 ?_
    exact WA.ireturn dX5_rankOf_21 ⟨_, rfl, h⟩
  · have h := h.2 hc
    refine WA.bipush dX5_rankOf_10 ⟨by decide, by decide⟩ ?_
    refine WA.goto (tgt := 21) dX5_rankOf_12 (by decide) ?_
    exact WA.ireturn dX5_rankOf_21 ⟨_, rfl, h⟩
set_option maxRecDepth 10000 in
theorem v_X5_markChanges_2 {d : Nat} {w : Wd} {K : Wd → Prop} {s a1 v2 : Int} (hs : am_St s) (ha1 : am_St a1) 
    (h : ((72 ≤ v2 → K w) ∧ (¬ (72 ≤ v2) → (0 ≤ v2 ∧ v2 < 72) ∧ (0 ≤ v2 ∧ v2 < 72) ∧ ((¬ (w (s + 7) v2) = (w (a1 + 7) v2) → (0 ≤ v2 ∧ v2 < 72) ∧ (∀ w1, w1 = wset w (s + 14) v2 1 → (-2147483648 ≤ (v2 + 1) ∧ (v2 + 1) ≤ 2147483647) ∧ W_X5_markChanges d 2 [some (.inr (.inr s)), some (.inr (.inr a1)), some (.inl (v2 + 1)), none] [] w1 K)) ∧ ((w (s + 7) v2) = (w (a1 + 7) v2) → (0 ≤ v2 ∧ v2 < 72) ∧ (0 ≤ v2 ∧ v2 < 72) ∧ ((¬ (w (s + 8) v2) = (w (a1 + 8) v2) → (0 ≤ v2 ∧ v2 < 72) ∧ (∀ w2, w2 = wset w (s + 14) v2 1 → (-2147483648 ≤ (v2 + 1) ∧ (v2 + 1) ≤ 2147483647) ∧ W_X5_markChanges d 2 [some (.inr (.inr s)), some (.inr (.inr a1)), some (.inl (v2 + 1)), none] [] w2 K)) ∧ ((w (s + 8) v2) = (w (a1 + 8) v2) → C_X5_isEmpty d [.inr (.inr s), .inl v2] w (fun x1 w3 => C_X5_isEmpty d [.inr (.inr a1), .inl v2] w3 (fun x2 w4 => ((¬ x1 = x2 → (0 ≤ v2 ∧ v2 < 72) ∧ (∀ w5, w5 = wset w4 (s + 14) v2 1 → (-2147483648 ≤ (v2 + 1) ∧ (v2 + 1) ≤ 2147483647) ∧ W_X5_markChanges d 2 [some (.inr (.inr s)), some (.inr (.inr a1)), some (.inl (v2 + 1)), none] [] w5 K)) ∧ (x1 = x2 → (0 ≤ v2 ∧ v2 < 72) ∧ (∀ w6, w6 = wset w4 (s + 14) v2 0 → (-2147483648 ≤ (v2 + 1) ∧ (v2 + 1) ≤ 2147483647) ∧ W_X5_markChanges d 2 [some (.inr (.inr s)), some (.inr (.inr a1)), some (.inl (v2 + 1)), none] [] w6 K)))))))))))) :
    W_X5_markChanges d 2 [some (.inr (.inr s)), some (.inr (.inr a1)), some (.inl v2), none] [] w K := by
  refine WA.iload_n dX5_markChanges_2 rfl ?_
  refine WA.bipush dX5_markChanges_3 ⟨by decide, by decide⟩ ?_
  refine WA.icmp_ge (tgt := 78) dX5_markChanges_5 (by decide) (fun hc => ?_) (fun hc => ?_)
  · have h := h.1 hc
    exact WA.vreturn dX5_markChanges_78 ⟨rfl, h⟩
  · have h := h.2 hc
    refine WA.aload_n dX5_markChanges_8 rfl (am_St_ne hs) ?_
    refine gxX5_21 rfl rfl dX5_markChanges_9 (am_St_obj hs) ?_
    refine WA.iload_n dX5_markChanges_12 rfl ?_
    obtain ⟨s1, h⟩ := h
    refine WA.iaload dX5_markChanges_13 (am_St_7 hs) s1.1 s1.2 ?_
    refine WA.aload_n dX5_markChanges_14 rfl (am_St_ne ha1) ?_
    refine gxX5_21 rfl rfl dX5_markChanges_15 (am_St_obj ha1) ?_
    refine WA.iload_n dX5_markChanges_18 rfl ?_
    obtain ⟨s2, h⟩ := h
    refine WA.iaload dX5_markChanges_19 (am_St_7 ha1) s2.1 s2.2 ?_
    refine WA.icmp_ne (tgt := 55) dX5_markChanges_20 (by decide) (fun hc => ?_) (fun hc => ?_)
    · have h := h.1 hc
      refine WA.iconst dX5_markChanges_55 ⟨by decide, by decide⟩ ?_
      refine WA.istore_n (als' := [some (.inr (.inr s)), some (.inr (.inr a1)), some (.inl v2), some (.inl 0)]) dX5_markChanges_56 (Nat.le_of_ble_eq_true rfl) rfl ?_
      refine WA.aload_n dX5_markChanges_57 rfl (am_St_ne hs) ?_
      refine gxX5_43 rfl rfl dX5_markChanges_58 (am_St_obj hs) ?_
      refine WA.iload_n dX5_markChanges_61 rfl ?_
      refine WA.iload_n dX5_markChanges_62 rfl ?_
      refine WA.if_eq (tgt := 70) dX5_markChanges_63 (by decide) (fun _ => ?_) (fun hc => absurd hc (by decide))
      refine WA.iconst dX5_markChanges_70 ⟨by decide, by decide⟩ ?_
      obtain ⟨s3, h⟩ := h
      obtain ⟨w1, qw1⟩ : ∃ z, z = wset w (s + 14) v2 1 := ⟨_, rfl⟩
      have h := h w1 qw1
      refine WA.iastore dX5_markChanges_71 (am_St_14 hs) s3.1 s3.2 ?_
      rw [← qw1]
      obtain ⟨s4, h⟩ := h
      refine WA.iinc (als' := [some (.inr (.inr s)), some (.inr (.inr a1)), some (.inl (v2 + 1)), some (.inl 0)]) dX5_markChanges_72 rfl s4 rfl ?_
      refine WA.goto (tgt := 2) dX5_markChanges_75 (by decide) ?_
      exact WA.sub (als' := [some (.inr (.inr s)), some (.inr (.inr a1)), some (.inl (v2 + 1)), none]) (by simp only [am_sub, and_self]) rfl h
    · have h := h.2 hc
      refine WA.aload_n dX5_markChanges_23 rfl (am_St_ne hs) ?_
      refine gxX5_25 rfl rfl dX5_markChanges_24 (am_St_obj hs) ?_
      refine WA.iload_n dX5_markChanges_27 rfl ?_
      obtain ⟨s5, h⟩ := h
      refine WA.iaload dX5_markChanges_28 (am_St_8 hs) s5.1 s5.2 ?_
      refine WA.aload_n dX5_markChanges_29 rfl (am_St_ne ha1) ?_
      refine gxX5_25 rfl rfl dX5_markChanges_30 (am_St_obj ha1) ?_
      refine WA.iload_n dX5_markChanges_33 rfl ?_
      obtain ⟨s6, h⟩ := h
      refine WA.iaload dX5_markChanges_34 (am_St_8 ha1) s6.1 s6.2 ?_
      refine WA.icmp_ne (tgt := 55) dX5_markChanges_35 (by decide) (fun hc => ?_) (fun hc => ?_)
      · have h := h.1 hc
        refine WA.iconst dX5_markChanges_55 ⟨by decide, by decide⟩ ?_
        refine WA.istore_n (als' := [some (.inr (.inr s)), some (.inr (.inr a1)), some (.inl v2), some (.inl 0)]) dX5_markChanges_56 (Nat.le_of_ble_eq_true rfl) rfl ?_
        refine WA.aload_n dX5_markChanges_57 rfl (am_St_ne hs) ?_
        refine gxX5_43 rfl rfl dX5_markChanges_58 (am_St_obj hs) ?_
        refine WA.iload_n dX5_markChanges_61 rfl ?_
        refine WA.iload_n dX5_markChanges_62 rfl ?_
        refine WA.if_eq (tgt := 70) dX5_markChanges_63 (by decide) (fun _ => ?_) (fun hc => absurd hc (by decide))
        refine WA.iconst dX5_markChanges_70 ⟨by decide, by decide⟩ ?_
        obtain ⟨s7, h⟩ := h
        obtain ⟨w2, qw2⟩ : ∃ z, z = wset w (s + 14) v2 1 := ⟨_, rfl⟩
        have h := h w2 qw2
        refine WA.iastore dX5_markChanges_71 (am_St_14 hs) s7.1 s7.2 ?_
        rw [← qw2]
        obtain ⟨s8, h⟩ := h
        refine WA.iinc (als' := [some (.inr (.inr s)), some (.inr (.inr a1)), some (.inl (v2 + 1)), some (.inl 0)]) dX5_markChanges_72 rfl s8 rfl ?_
        refine WA.goto (tgt := 2) dX5_markChanges_75 (by decide) ?_
        exact WA.sub (als' := [some (.inr (.inr s)), some (.inr (.inr a1)), some (.inl (v2 + 1)), none]) (by simp only [am_sub, and_self]) rfl h
      · have h := h.2 hc
        refine WA.aload_n dX5_markChanges_38 rfl (am_St_ne hs) ?_
        refine WA.iload_n dX5_markChanges_39 rfl ?_
        obtain ⟨d1, hd1, h⟩ := h
        refine WA.callV1 (kc := 0) (ks := 0) (kc' := 0) (ks' := 0) dX5_markChanges_40 lkX5_82 rfl rfl rfl (am_St_obj hs) rfl (Nat.le_of_ble_eq_true rfl) hd1 h (fun r w3 hK => ?_)
        obtain ⟨x1, rfl, h⟩ := hK
        change WA _ _ _ _ _ _ _ _ _ _ _ [.inl x1] _ _
        refine WA.aload_n dX5_markChanges_43 rfl (am_St_ne ha1) ?_
        refine WA.iload_n dX5_markChanges_44 rfl ?_
        obtain ⟨d1, hd1, h⟩ := h
        refine WA.callV1 (kc := 0) (ks := 0) (kc' := 0) (ks' := 0) dX5_markChanges_45 lkX5_82 rfl rfl rfl (am_St_obj ha1) rfl (Nat.le_of_ble_eq_true rfl) hd1 h (fun r w4 hK => ?_)
        obtain ⟨x2, rfl, h⟩ := hK
        change WA _ _ _ _ _ _ _ _ _ _ _ [.inl x2, .inl x1] _ _
        refine WA.icmp_ne (tgt := 55) dX5_markChanges_48 (by decide) (fun hc => ?_) (fun hc => ?_)
        · have h := h.1 hc
          refine WA.iconst dX5_markChanges_55 ⟨by decide, by decide⟩ ?_
          refine WA.istore_n (als' := [some (.inr (.inr s)), some (.inr (.inr a1)), some (.inl v2), some (.inl 0)]) dX5_markChanges_56 (Nat.le_of_ble_eq_true rfl) rfl ?_
          refine WA.aload_n dX5_markChanges_57 rfl (am_St_ne hs) ?_
          refine gxX5_43 rfl rfl dX5_markChanges_58 (am_St_obj hs) ?_
          refine WA.iload_n dX5_markChanges_61 rfl ?_
          refine WA.iload_n dX5_markChanges_62 rfl ?_
          refine WA.if_eq (tgt := 70) dX5_markChanges_63 (by decide) (fun _ => ?_) (fun hc => absurd hc (by decide))
          refine WA.iconst dX5_markChanges_70 ⟨by decide, by decide⟩ ?_
          obtain ⟨s9, h⟩ := h
          obtain ⟨w5, qw5⟩ : ∃ z, z = wset w4 (s + 14) v2 1 := ⟨_, rfl⟩
          have h := h w5 qw5
          refine WA.iastore dX5_markChanges_71 (am_St_14 hs) s9.1 s9.2 ?_
          rw [← qw5]
          obtain ⟨s10, h⟩ := h
          refine WA.iinc (als' := [some (.inr (.inr s)), some (.inr (.inr a1)), some (.inl (v2 + 1)), some (.inl 0)]) dX5_markChanges_72 rfl s10 rfl ?_
          refine WA.goto (tgt := 2) dX5_markChanges_75 (by decide) ?_
          exact WA.sub (als' := [some (.inr (.inr s)), some (.inr (.inr a1)), some (.inl (v2 + 1)), none]) (by simp only [am_sub, and_self]) rfl h
        · have h := h.2 hc
          refine WA.iconst dX5_markChanges_51 ⟨by decide, by decide⟩ ?_
          refine WA.goto (tgt := 56) dX5_markChanges_52 (by decide) ?_
          refine WA.istore_n (als' := [some (.inr (.inr s)), some (.inr (.inr a1)), some (.inl v2), some (.inl 1)]) dX5_markChanges_56 (Nat.le_of_ble_eq_true rfl) rfl ?_
          refine WA.aload_n dX5_markChanges_57 rfl (am_St_ne hs) ?_
          refine gxX5_43 rfl rfl dX5_markChanges_58 (am_St_obj hs) ?_
          refine WA.iload_n dX5_markChanges_61 rfl ?_
          refine WA.iload_n dX5_markChanges_62 rfl ?_
          refine WA.if_eq (tgt := 70) dX5_markChanges_63 (by decide) (fun hc => absurd hc (by decide)) (fun _ => ?_)
          refine WA.iconst dX5_markChanges_66 ⟨by decide, by decide⟩ ?_
          refine WA.goto (tgt := 71) dX5_markChanges_67 (by decide) ?_
          obtain ⟨s11, h⟩ := h
          obtain ⟨w6, qw6⟩ : ∃ z, z = wset w4 (s + 14) v2 0 := ⟨_, rfl⟩
          have h := h w6 qw6
          refine WA.iastore dX5_markChanges_71 (am_St_14 hs) s11.1 s11.2 ?_
          rw [← qw6]
          obtain ⟨s12, h⟩ := h
          refine WA.iinc (als' := [some (.inr (.inr s)), some (.inr (.inr a1)), some (.inl (v2 + 1)), some (.inl 1)]) dX5_markChanges_72 rfl s12 rfl ?_
          refine WA.goto (tgt := 2) dX5_markChanges_75 (by decide) ?_
          exact WA.sub (als' := [some (.inr (.inr s)), some (.inr (.inr a1)), some (.inl (v2 + 1)), none]) (by simp only [am_sub, and_self]) rfl h
set_option maxRecDepth 10000 in
theorem e_X5_markChanges {d : Nat} {w : Wd} {K : Wd → Prop} {s a1 : Int} (hs : am_St s) (ha1 : am_St a1) 
    (h : W_X5_markChanges d 2 [some (.inr (.inr s)), some (.inr (.inr a1)), some (.inl 0), none] [] w K) :
    E_X5_markChanges d [.inr (.inr s), .inr (.inr a1)] w K := by
  refine EvA.of (by decide +kernel) (Nat.le_of_ble_eq_true rfl) ?_
  change W_X5_markChanges d 0 [some (.inr (.inr s)), some (.inr (.inr a1)), none, none] [] w K
  refine WA.iconst dX5_markChanges_0 ⟨by decide, by decide⟩ ?_
  refine WA.istore_n (als' := [some (.inr (.inr s)), some (.inr (.inr a1)), some (.inl 0), none]) dX5_markChanges_1 (Nat.le_of_ble_eq_true rfl) rfl ?_
  exact h
set_option maxRecDepth 10000 in
theorem v_X5_causeOf_9 {d : Nat} {w : Wd} {K : Int → Wd → Prop} {s a1 a2 a3 v4 : Int} (hs : am_St s) (ha2 : am_St a2) 
    (h : (0 ≤ a1 ∧ a1 < 72) ∧ (((w (a2 + 11) a1) ≤ v4 → (0 ≤ a1 ∧ a1 < 72) ∧ (((w (s + 10) a1) = 1 → K a1 w) ∧ (¬ (w (s + 10) a1) = 1 → (0 ≤ a1 ∧ a1 < 72) ∧ ((¬ (w (a2 + 10) a1) = 1 → K (-1) w) ∧ ((w (a2 + 10) a1) = 1 → K a1 w))))) ∧ (¬ ((w (a2 + 11) a1) ≤ v4) → C_X5_readOf d [.inr (.inr a2), .inl a1, .inl v4] w (fun x1 w1 => (0 ≤ x1 ∧ x1 < 72) ∧ ((¬ (w1 (s + 14) x1) = 1 → (-2147483648 ≤ (v4 + 1) ∧ (v4 + 1) ≤ 2147483647) ∧ W_X5_causeOf d 9 [some (.inr (.inr s)), some (.inl a1), some (.inr (.inr a2)), some (.inl a3), some (.inl (v4 + 1)), none] [] w1 K) ∧ ((w1 (s + 14) x1) = 1 → K x1 w1)))))) :
    W_X5_causeOf d 9 [some (.inr (.inr s)), some (.inl a1), some (.inr (.inr a2)), some (.inl a3), some (.inl v4), none] [] w K := by
  refine WA.iload dX5_causeOf_9 rfl ?_
  refine WA.aload_n dX5_causeOf_11 rfl (am_St_ne ha2) ?_
  refine gxX5_34 rfl rfl dX5_causeOf_12 (am_St_obj ha2) ?_
  refine WA.iload_n dX5_causeOf_15 rfl ?_
  obtain ⟨s1, h⟩ := h
  refine WA.iaload dX5_causeOf_16 (am_St_11 ha2) s1.1 s1.2 ?_
  refine WA.icmp_ge (tgt := 49) dX5_causeOf_17 (by decide) (fun hc => ?_) (fun hc => ?_)
  · have h := h.1 hc
    refine WA.aload_n dX5_causeOf_49 rfl (am_St_ne hs) ?_
    refine gxX5_31 rfl rfl dX5_causeOf_50 (am_St_obj hs) ?_
    refine WA.iload_n dX5_causeOf_53 rfl ?_
    obtain ⟨s2, h⟩ := h
    refine WA.iaload dX5_causeOf_54 (am_St_10 hs) s2.1 s2.2 ?_
    refine WA.iconst dX5_causeOf_55 ⟨by decide, by decide⟩ ?_
    refine WA.icmp_eq (tgt := 69) dX5_causeOf_56 (by decide) (fun hc => ?_) (fun hc => ?_)
    · have h := h.1 hc
      refine WA.iload_n dX5_causeOf_69 rfl ?_
      refine WA.goto (tgt := 74) dX5_causeOf_70 (by decide) ?_
      exact WA.ireturn dX5_causeOf_74 ⟨_, rfl, h⟩
    · have h := h.2 hc
      refine WA.aload_n dX5_causeOf_59 rfl (am_St_ne ha2) ?_
      refine gxX5_31 rfl rfl dX5_causeOf_60 (am_St_obj ha2) ?_
      refine WA.iload_n dX5_causeOf_63 rfl ?_
      obtain ⟨s3, h⟩ := h
      refine WA.iaload dX5_causeOf_64 (am_St_10 ha2) s3.1 s3.2 ?_
      refine WA.iconst dX5_causeOf_65 ⟨by decide, by decide⟩ ?_
      refine WA.icmp_ne (tgt := 73) dX5_causeOf_66 (by decide) (fun hc => ?_) (fun hc => ?_)
      · have h := h.1 hc
        refine WA.iconst dX5_causeOf_73 ⟨by decide, by decide⟩ ?_
        exact WA.ireturn dX5_causeOf_74 ⟨_, rfl, h⟩
      · have h := h.2 hc
        refine WA.iload_n dX5_causeOf_69 rfl ?_
        refine WA.goto (tgt := 74) dX5_causeOf_70 (by decide) ?_
        exact WA.ireturn dX5_causeOf_74 ⟨_, rfl, h⟩
  · have h := h.2 hc
    refine WA.aload_n dX5_causeOf_20 rfl (am_St_ne ha2) ?_
    refine WA.iload_n dX5_causeOf_21 rfl ?_
    refine WA.iload dX5_causeOf_22 rfl ?_
    obtain ⟨d1, hd1, h⟩ := h
    refine WA.callV2 (kc := 0) (ks := 0) (kc' := 0) (ks' := 0) dX5_causeOf_24 lkX5_77 rfl rfl rfl (am_St_obj ha2) rfl (Nat.le_of_ble_eq_true rfl) hd1 h (fun r w1 hK => ?_)
    obtain ⟨x1, rfl, h⟩ := hK
    change WA _ _ _ _ _ _ _ _ _ _ _ [.inl x1] _ _
    refine WA.istore (als' := [some (.inr (.inr s)), some (.inl a1), some (.inr (.inr a2)), some (.inl a3), some (.inl v4), some (.inl x1)]) dX5_causeOf_27 (Nat.le_of_ble_eq_true rfl) rfl ?_
    refine WA.aload_n dX5_causeOf_29 rfl (am_St_ne hs) ?_
    refine gxX5_43 rfl rfl dX5_causeOf_30 (am_St_obj hs) ?_
    refine WA.iload dX5_causeOf_33 rfl ?_
    obtain ⟨s4, h⟩ := h
    refine WA.iaload dX5_causeOf_35 (am_St_14 hs) s4.1 s4.2 ?_
    refine WA.iconst dX5_causeOf_36 ⟨by decide, by decide⟩ ?_
    refine WA.icmp_ne (tgt := 43) dX5_causeOf_37 (by decide) (fun hc => ?_) (fun hc => ?_)
    · have h := h.1 hc
      obtain ⟨s5, h⟩ := h
      refine WA.iinc (als' := [some (.inr (.inr s)), some (.inl a1), some (.inr (.inr a2)), some (.inl a3), some (.inl (v4 + 1)), some (.inl x1)]) dX5_causeOf_43 rfl s5 rfl ?_
      refine WA.goto (tgt := 9) dX5_causeOf_46 (by decide) ?_
      exact WA.sub (als' := [some (.inr (.inr s)), some (.inl a1), some (.inr (.inr a2)), some (.inl a3), some (.inl (v4 + 1)), none]) (by simp only [am_sub, and_self]) rfl h
    · have h := h.2 hc
      refine WA.iload dX5_causeOf_40 rfl ?_
      exact WA.ireturn dX5_causeOf_42 ⟨_, rfl, h⟩
set_option maxRecDepth 10000 in
theorem e_X5_causeOf {d : Nat} {w : Wd} {K : Int → Wd → Prop} {s a1 a2 a3 : Int} (hs : am_St s) (ha2 : am_St a2) 
    (h : ((a3 = 0 → W_X5_causeOf d 9 [some (.inr (.inr s)), some (.inl a1), some (.inr (.inr a2)), some (.inl a3), some (.inl 0), none] [] w K) ∧ (¬ a3 = 0 → K a1 w))) :
    E_X5_causeOf d [.inr (.inr s), .inl a1, .inr (.inr a2), .inl a3] w K := by
  refine EvA.of (by decide +kernel) (Nat.le_of_ble_eq_true rfl) ?_
  change W_X5_causeOf d 0 [some (.inr (.inr s)), some (.inl a1), some (.inr (.inr a2)), some (.inl a3), none, none] [] w K
  refine WA.iload_n dX5_causeOf_0 rfl ?_
  refine WA.if_eq (tgt := 6) dX5_causeOf_1 (by decide) (fun hc => ?_) (fun hc => ?_)
  · have h := h.1 hc
    refine WA.iconst dX5_causeOf_6 ⟨by decide, by decide⟩ ?_
    refine WA.istore (als' := [some (.inr (.inr s)), some (.inl a1), some (.inr (.inr a2)), some (.inl a3), some (.inl 0), none]) dX5_causeOf_7 (Nat.le_of_ble_eq_true rfl) rfl ?_
    exact h
  · have h := h.2 hc
    refine WA.iload_n dX5_causeOf_4 rfl ?_
    exact WA.ireturn dX5_causeOf_5 ⟨_, rfl, h⟩
set_option maxRecDepth 10000 in
theorem e_X6_add {d : Nat} {w : Wd} {K : Wd → Prop} {s a1 : Int} (hs : am_Te s) 
    (h : (((w s 1) < 0 → K w) ∧ (¬ ((w s 1) < 0) → ((30 ≤ (w s 1) → K w) ∧ (¬ (30 ≤ (w s 1)) → (0 ≤ (w s 1) ∧ (w s 1) < 30) ∧ (∀ w1, w1 = wset w (s + 1) (w s 1) a1 → (-2147483648 ≤ ((w1 s 1) + 1) ∧ ((w1 s 1) + 1) ≤ 2147483647) ∧ (∀ w2, w2 = wset w1 s 1 ((w1 s 1) + 1) → K w2))))))) :
    E_X6_add d [.inr (.inr s), .inl a1] w K := by
  refine EvA.of (by decide +kernel) (Nat.le_of_ble_eq_true rfl) ?_
  change W_X6_add d 0 [some (.inr (.inr s)), some (.inl a1)] [] w K
  refine WA.aload_n dX6_add_0 rfl (am_Te_ne hs) ?_
  refine gfX6_15 rfl dX6_add_1 (am_Te_obj hs) ?_
  refine WA.if_lt (tgt := 36) dX6_add_4 (by decide) (fun hc => ?_) (fun hc => ?_)
  · have h := h.1 hc
    exact WA.vreturn dX6_add_36 ⟨rfl, h⟩
  · have h := h.2 hc
    refine WA.aload_n dX6_add_7 rfl (am_Te_ne hs) ?_
    refine gfX6_15 rfl dX6_add_8 (am_Te_obj hs) ?_
    refine WA.bipush dX6_add_11 ⟨by decide, by decide⟩ ?_
    refine WA.icmp_ge (tgt := 36) dX6_add_13 (by decide) (fun hc => ?_) (fun hc => ?_)
    · have h := h.1 hc
      exact WA.vreturn dX6_add_36 ⟨rfl, h⟩
    · have h := h.2 hc
      refine WA.aload_n dX6_add_16 rfl (am_Te_ne hs) ?_
      refine gxX6_9 rfl rfl dX6_add_17 (am_Te_obj hs) ?_
      refine WA.aload_n dX6_add_20 rfl (am_Te_ne hs) ?_
      refine gfX6_15 rfl dX6_add_21 (am_Te_obj hs) ?_
      refine WA.iload_n dX6_add_24 rfl ?_
      obtain ⟨s1, h⟩ := h
      obtain ⟨w1, qw1⟩ : ∃ z, z = wset w (s + 1) (w s 1) a1 := ⟨_, rfl⟩
      have h := h w1 qw1
      refine WA.iastore dX6_add_25 (am_Te_1 hs) s1.1 s1.2 ?_
      rw [← qw1]
      refine WA.aload_n dX6_add_26 rfl (am_Te_ne hs) ?_
      refine WA.dup dX6_add_27 rfl ?_
      refine gfX6_15 rfl dX6_add_28 (am_Te_obj hs) ?_
      refine WA.iconst dX6_add_31 ⟨by decide, by decide⟩ ?_
      obtain ⟨s2, h⟩ := h
      refine WA.iadd dX6_add_32 s2 ?_
      obtain ⟨w2, qw2⟩ : ∃ z, z = wset w1 s 1 ((w1 s 1) + 1) := ⟨_, rfl⟩
      have h := h w2 qw2
      refine pfX6_15 rfl dX6_add_33 (am_Te_obj hs) ?_
      rw [← qw2]
      exact WA.vreturn dX6_add_36 ⟨rfl, h⟩
set_option maxRecDepth 10000 in
theorem e_X7_letter {d : Nat} {w : Wd} {K : Int → Wd → Prop} {s a1 a2 : Int} (hs : am_Tx s) 
    (h : ((a2 < 0 → K 0 w) ∧ (¬ (a2 < 0) → (0 ≤ a1 ∧ a1 < 72) ∧ (((w (s + 2) a1) ≤ a2 → K 0 w) ∧ (¬ ((w (s + 2) a1) ≤ a2) → (-2147483648 ≤ (a1 * 30) ∧ (a1 * 30) ≤ 2147483647) ∧ (-2147483648 ≤ ((a1 * 30) + a2) ∧ ((a1 * 30) + a2) ≤ 2147483647) ∧ (0 ≤ ((a1 * 30) + a2) ∧ ((a1 * 30) + a2) < 2160) ∧ K (w (s + 1) ((a1 * 30) + a2)) w))))) :
    E_X7_letter d [.inr (.inr s), .inl a1, .inl a2] w K := by
  refine EvA.of (by decide +kernel) (Nat.le_of_ble_eq_true rfl) ?_
  change W_X7_letter d 0 [some (.inr (.inr s)), some (.inl a1), some (.inl a2)] [] w K
  refine WA.iload_n dX7_letter_0 rfl ?_
  refine WA.if_lt (tgt := 28) dX7_letter_1 (by decide) (fun hc => ?_) (fun hc => ?_)
  · have h := h.1 hc
    refine WA.iconst dX7_letter_28 ⟨by decide, by decide⟩ ?_
    exact WA.ireturn dX7_letter_29 ⟨_, rfl, h⟩
  · have h := h.2 hc
    refine WA.iload_n dX7_letter_4 rfl ?_
    refine WA.aload_n dX7_letter_5 rfl (am_Tx_ne hs) ?_
    refine gxX7_15 rfl rfl dX7_letter_6 (am_Tx_obj hs) ?_
    refine WA.iload_n dX7_letter_9 rfl ?_
    obtain ⟨s1, h⟩ := h
    refine WA.iaload dX7_letter_10 (am_Tx_2 hs) s1.1 s1.2 ?_
    refine WA.icmp_ge (tgt := 28) dX7_letter_11 (by decide) (fun hc => ?_) (fun hc => ?_)
    · have h := h.1 hc
      refine WA.iconst dX7_letter_28 ⟨by decide, by decide⟩ ?_
      exact WA.ireturn dX7_letter_29 ⟨_, rfl, h⟩
    · have h := h.2 hc
      refine WA.aload_n dX7_letter_14 rfl (am_Tx_ne hs) ?_
      refine gxX7_9 rfl rfl dX7_letter_15 (am_Tx_obj hs) ?_
      refine WA.iload_n dX7_letter_18 rfl ?_
      refine WA.bipush dX7_letter_19 ⟨by decide, by decide⟩ ?_
      obtain ⟨s2, h⟩ := h
      refine WA.imul dX7_letter_21 s2 ?_
      refine WA.iload_n dX7_letter_22 rfl ?_
      obtain ⟨s3, h⟩ := h
      refine WA.iadd dX7_letter_23 s3 ?_
      obtain ⟨s4, h⟩ := h
      refine WA.iaload dX7_letter_24 (am_Tx_1 hs) s4.1 s4.2 ?_
      refine WA.goto (tgt := 29) dX7_letter_25 (by decide) ?_
      exact WA.ireturn dX7_letter_29 ⟨_, rfl, h⟩
set_option maxRecDepth 10000 in
theorem e_X7_take {d : Nat} {w : Wd} {K : Wd → Prop} {s a1 a2 : Int} (hs : am_Tx s) (ha2 : am_Te a2) (hd : 2 ≤ d) 
    (h : (-2147483648 ≤ (a1 * 30) ∧ (a1 * 30) ≤ 2147483647) ∧ (((0 : Int) ≤ 0 ∧ (0 : Int) ≤ (a1 * 30)) ∧ (0 : Int) ≤ 30 ∧ (0 + 30 : Int) ≤ 30 ∧ ((a1 * 30) + 30 : Int) ≤ 2160) ∧ (∀ w1, w1 = wcopy w (a2 + 1) 0 (s + 1) (a1 * 30) 30 → (0 ≤ a1 ∧ a1 < 72) ∧ (∀ w2, w2 = wset w1 (s + 2) a1 (w1 a2 1) → K w2))) :
    E_X7_take d [.inr (.inr s), .inl a1, .inr (.inr a2)] w K := by
  refine EvA.of (by decide +kernel) (Nat.le_of_ble_eq_true rfl) ?_
  change W_X7_take d 0 [some (.inr (.inr s)), some (.inl a1), some (.inr (.inr a2))] [] w K
  refine WA.aload_n dX7_take_0 rfl (am_Te_ne ha2) ?_
  refine gxX7_18 rfl rfl dX7_take_1 (am_Te_obj ha2) ?_
  refine WA.iconst dX7_take_4 ⟨by decide, by decide⟩ ?_
  refine WA.aload_n dX7_take_5 rfl (am_Tx_ne hs) ?_
  refine gxX7_9 rfl rfl dX7_take_6 (am_Tx_obj hs) ?_
  refine WA.iload_n dX7_take_9 rfl ?_
  refine WA.bipush dX7_take_10 ⟨by decide, by decide⟩ ?_
  obtain ⟨s1, h⟩ := h
  refine WA.imul dX7_take_12 s1 ?_
  refine WA.bipush dX7_take_13 ⟨by decide, by decide⟩ ?_
  obtain ⟨s2, h⟩ := h
  obtain ⟨w1, qw1⟩ : ∃ z, z = wcopy w (a2 + 1) 0 (s + 1) (a1 * 30) 30 := ⟨_, rfl⟩
  have h := h w1 qw1
  refine WA.arraycopy dX7_take_15 (am_mem 457 (by decide +kernel) rfl) (am_mem 459 (by decide +kernel) rfl) (am_mem 458 (by decide +kernel) rfl) (am_mem 16 (by decide +kernel) rfl) (Nat.le_trans (by decide) hd) (Nat.le_of_ble_eq_true rfl) (am_Te_1 ha2) (am_Tx_1 hs) s2.1.1 s2.1.2 s2.2.1 s2.2.2.1 s2.2.2.2 ?_
  rw [← qw1]
  refine WA.aload_n dX7_take_18 rfl (am_Tx_ne hs) ?_
  refine gxX7_15 rfl rfl dX7_take_19 (am_Tx_obj hs) ?_
  refine WA.iload_n dX7_take_22 rfl ?_
  refine WA.aload_n dX7_take_23 rfl (am_Te_ne ha2) ?_
  refine gfX7_27 rfl dX7_take_24 (am_Te_obj ha2) ?_
  obtain ⟨s3, h⟩ := h
  obtain ⟨w2, qw2⟩ : ∃ z, z = wset w1 (s + 2) a1 (w1 a2 1) := ⟨_, rfl⟩
  have h := h w2 qw2
  refine WA.iastore dX7_take_27 (am_Tx_2 hs) s3.1 s3.2 ?_
  rw [← qw2]
  exact WA.vreturn dX7_take_28 ⟨rfl, h⟩
set_option maxRecDepth 10000 in
theorem e_X7_takeSame {d : Nat} {w : Wd} {K : Wd → Prop} {s a1 a2 : Int} (hs : am_Tx s) (ha2 : am_Tx a2) (hd : 2 ≤ d) 
    (h : (-2147483648 ≤ (a1 * 30) ∧ (a1 * 30) ≤ 2147483647) ∧ (((0 : Int) ≤ (a1 * 30) ∧ (0 : Int) ≤ (a1 * 30)) ∧ (0 : Int) ≤ 30 ∧ ((a1 * 30) + 30 : Int) ≤ 2160 ∧ ((a1 * 30) + 30 : Int) ≤ 2160) ∧ (∀ w1, w1 = wcopy w (a2 + 1) (a1 * 30) (s + 1) (a1 * 30) 30 → (0 ≤ a1 ∧ a1 < 72) ∧ (0 ≤ a1 ∧ a1 < 72) ∧ (∀ w2, w2 = wset w1 (s + 2) a1 (w1 (a2 + 2) a1) → K w2))) :
    E_X7_takeSame d [.inr (.inr s), .inl a1, .inr (.inr a2)] w K := by
  refine EvA.of (by decide +kernel) (Nat.le_of_ble_eq_true rfl) ?_
  change W_X7_takeSame d 0 [some (.inr (.inr s)), some (.inl a1), some (.inr (.inr a2)), none] [] w K
  refine WA.iload_n dX7_takeSame_0 rfl ?_
  refine WA.bipush dX7_takeSame_1 ⟨by decide, by decide⟩ ?_
  obtain ⟨s1, h⟩ := h
  refine WA.imul dX7_takeSame_3 s1 ?_
  refine WA.istore_n (als' := [some (.inr (.inr s)), some (.inl a1), some (.inr (.inr a2)), some (.inl (a1 * 30))]) dX7_takeSame_4 (Nat.le_of_ble_eq_true rfl) rfl ?_
  refine WA.aload_n dX7_takeSame_5 rfl (am_Tx_ne ha2) ?_
  refine gxX7_9 rfl rfl dX7_takeSame_6 (am_Tx_obj ha2) ?_
  refine WA.iload_n dX7_takeSame_9 rfl ?_
  refine WA.aload_n dX7_takeSame_10 rfl (am_Tx_ne hs) ?_
  refine gxX7_9 rfl rfl dX7_takeSame_11 (am_Tx_obj hs) ?_
  refine WA.iload_n dX7_takeSame_14 rfl ?_
  refine WA.bipush dX7_takeSame_15 ⟨by decide, by decide⟩ ?_
  obtain ⟨s2, h⟩ := h
  obtain ⟨w1, qw1⟩ : ∃ z, z = wcopy w (a2 + 1) (a1 * 30) (s + 1) (a1 * 30) 30 := ⟨_, rfl⟩
  have h := h w1 qw1
  refine WA.arraycopy dX7_takeSame_17 (am_mem 457 (by decide +kernel) rfl) (am_mem 459 (by decide +kernel) rfl) (am_mem 458 (by decide +kernel) rfl) (am_mem 16 (by decide +kernel) rfl) (Nat.le_trans (by decide) hd) (Nat.le_of_ble_eq_true rfl) (am_Tx_1 ha2) (am_Tx_1 hs) s2.1.1 s2.1.2 s2.2.1 s2.2.2.1 s2.2.2.2 ?_
  rw [← qw1]
  refine WA.aload_n dX7_takeSame_20 rfl (am_Tx_ne hs) ?_
  refine gxX7_15 rfl rfl dX7_takeSame_21 (am_Tx_obj hs) ?_
  refine WA.iload_n dX7_takeSame_24 rfl ?_
  refine WA.aload_n dX7_takeSame_25 rfl (am_Tx_ne ha2) ?_
  refine gxX7_15 rfl rfl dX7_takeSame_26 (am_Tx_obj ha2) ?_
  refine WA.iload_n dX7_takeSame_29 rfl ?_
  obtain ⟨s3, h⟩ := h
  refine WA.iaload dX7_takeSame_30 (am_Tx_2 ha2) s3.1 s3.2 ?_
  obtain ⟨s4, h⟩ := h
  obtain ⟨w2, qw2⟩ : ∃ z, z = wset w1 (s + 2) a1 (w1 (a2 + 2) a1) := ⟨_, rfl⟩
  have h := h w2 qw2
  refine WA.iastore dX7_takeSame_31 (am_Tx_2 hs) s4.1 s4.2 ?_
  rw [← qw2]
  exact WA.vreturn dX7_takeSame_32 ⟨rfl, h⟩
set_option maxRecDepth 10000 in
theorem e_X7_takeAll {d : Nat} {w : Wd} {K : Wd → Prop} {s a1 : Int} (hs : am_Tx s) (ha1 : am_Tx a1) (hd : 2 ≤ d) 
    (h : (∀ w1, w1 = wcopy w (a1 + 1) 0 (s + 1) 0 2160 → (∀ w2, w2 = wcopy w1 (a1 + 2) 0 (s + 2) 0 72 → K w2))) :
    E_X7_takeAll d [.inr (.inr s), .inr (.inr a1)] w K := by
  refine EvA.of (by decide +kernel) (Nat.le_of_ble_eq_true rfl) ?_
  change W_X7_takeAll d 0 [some (.inr (.inr s)), some (.inr (.inr a1))] [] w K
  refine WA.aload_n dX7_takeAll_0 rfl (am_Tx_ne ha1) ?_
  refine gxX7_9 rfl rfl dX7_takeAll_1 (am_Tx_obj ha1) ?_
  refine WA.iconst dX7_takeAll_4 ⟨by decide, by decide⟩ ?_
  refine WA.aload_n dX7_takeAll_5 rfl (am_Tx_ne hs) ?_
  refine gxX7_9 rfl rfl dX7_takeAll_6 (am_Tx_obj hs) ?_
  refine WA.iconst dX7_takeAll_9 ⟨by decide, by decide⟩ ?_
  refine WA.sipush dX7_takeAll_10 ⟨by decide, by decide⟩ ?_
  obtain ⟨w1, qw1⟩ : ∃ z, z = wcopy w (a1 + 1) 0 (s + 1) 0 2160 := ⟨_, rfl⟩
  have h := h w1 qw1
  refine WA.arraycopy dX7_takeAll_13 (am_mem 457 (by decide +kernel) rfl) (am_mem 459 (by decide +kernel) rfl) (am_mem 458 (by decide +kernel) rfl) (am_mem 16 (by decide +kernel) rfl) (Nat.le_trans (by decide) hd) (Nat.le_of_ble_eq_true rfl) (am_Tx_1 ha1) (am_Tx_1 hs) (by decide) (by decide) (by decide) (by decide) (by decide) ?_
  rw [← qw1]
  refine WA.aload_n dX7_takeAll_16 rfl (am_Tx_ne ha1) ?_
  refine gxX7_15 rfl rfl dX7_takeAll_17 (am_Tx_obj ha1) ?_
  refine WA.iconst dX7_takeAll_20 ⟨by decide, by decide⟩ ?_
  refine WA.aload_n dX7_takeAll_21 rfl (am_Tx_ne hs) ?_
  refine gxX7_15 rfl rfl dX7_takeAll_22 (am_Tx_obj hs) ?_
  refine WA.iconst dX7_takeAll_25 ⟨by decide, by decide⟩ ?_
  refine WA.bipush dX7_takeAll_26 ⟨by decide, by decide⟩ ?_
  obtain ⟨w2, qw2⟩ : ∃ z, z = wcopy w1 (a1 + 2) 0 (s + 2) 0 72 := ⟨_, rfl⟩
  have h := h w2 qw2
  refine WA.arraycopy dX7_takeAll_28 (am_mem 457 (by decide +kernel) rfl) (am_mem 459 (by decide +kernel) rfl) (am_mem 458 (by decide +kernel) rfl) (am_mem 16 (by decide +kernel) rfl) (Nat.le_trans (by decide) hd) (Nat.le_of_ble_eq_true rfl) (am_Tx_2 ha1) (am_Tx_2 hs) (by decide) (by decide) (by decide) (by decide) (by decide) ?_
  rw [← qw2]
  exact WA.vreturn dX7_takeAll_31 ⟨rfl, h⟩
set_option maxRecDepth 10000 in
theorem v_X7_clearAll_2 {d : Nat} {w : Wd} {K : Wd → Prop} {s a1 v2 : Int} (hs : am_Tx s) 
    (h : ((72 ≤ v2 → K w) ∧ (¬ (72 ≤ v2) → (0 ≤ v2 ∧ v2 < 72) ∧ (∀ w1, w1 = wset w (s + 2) v2 a1 → (-2147483648 ≤ (v2 + 1) ∧ (v2 + 1) ≤ 2147483647) ∧ W_X7_clearAll d 2 [some (.inr (.inr s)), some (.inl a1), some (.inl (v2 + 1))] [] w1 K)))) :
    W_X7_clearAll d 2 [some (.inr (.inr s)), some (.inl a1), some (.inl v2)] [] w K := by
  refine WA.iload_n dX7_clearAll_2 rfl ?_
  refine WA.bipush dX7_clearAll_3 ⟨by decide, by decide⟩ ?_
  refine WA.icmp_ge (tgt := 21) dX7_clearAll_5 (by decide) (fun hc => ?_) (fun hc => ?_)
  · have h := h.1 hc
    exact WA.vreturn dX7_clearAll_21 ⟨rfl, h⟩
  · have h := h.2 hc
    refine WA.aload_n dX7_clearAll_8 rfl (am_Tx_ne hs) ?_
    refine gxX7_15 rfl rfl dX7_clearAll_9 (am_Tx_obj hs) ?_
    refine WA.iload_n dX7_clearAll_12 rfl ?_
    refine WA.iload_n dX7_clearAll_13 rfl ?_
    obtain ⟨s1, h⟩ := h
    obtain ⟨w1, qw1⟩ : ∃ z, z = wset w (s + 2) v2 a1 := ⟨_, rfl⟩
    have h := h w1 qw1
    refine WA.iastore dX7_clearAll_14 (am_Tx_2 hs) s1.1 s1.2 ?_
    rw [← qw1]
    obtain ⟨s2, h⟩ := h
    refine WA.iinc (als' := [some (.inr (.inr s)), some (.inl a1), some (.inl (v2 + 1))]) dX7_clearAll_15 rfl s2 rfl ?_
    refine WA.goto (tgt := 2) dX7_clearAll_18 (by decide) ?_
    exact h
set_option maxRecDepth 10000 in
theorem e_X7_clearAll {d : Nat} {w : Wd} {K : Wd → Prop} {s a1 : Int} (hs : am_Tx s) 
    (h : W_X7_clearAll d 2 [some (.inr (.inr s)), some (.inl a1), some (.inl 0)] [] w K) :
    E_X7_clearAll d [.inr (.inr s), .inl a1] w K := by
  refine EvA.of (by decide +kernel) (Nat.le_of_ble_eq_true rfl) ?_
  change W_X7_clearAll d 0 [some (.inr (.inr s)), some (.inl a1), none] [] w K
  refine WA.iconst dX7_clearAll_0 ⟨by decide, by decide⟩ ?_
  refine WA.istore_n (als' := [some (.inr (.inr s)), some (.inl a1), some (.inl 0)]) dX7_clearAll_1 (Nat.le_of_ble_eq_true rfl) rfl ?_
  exact h
