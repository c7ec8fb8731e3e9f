abbrev W_X0_workOut (d pc : Nat) (als : List (Option AV)) (st : List AV) (w : Wd) (K : Wd → Prop) : Prop := WA true yX0_workOut cX0_workOut 7 none d 143 0 0 pc als st w (rV K)
abbrev E_X0_workOut (d : Nat) (as : List AV) (w : Wd) (K : Wd → Prop) : Prop := EvA true yX0_workOut cX0_workOut 7 none d 143 0 0 as w (rV K)
abbrev C_X0_workOut (d : Nat) (as : List AV) (w : Wd) (K : Wd → Prop) : Prop := ∃ d', d' < d ∧ E_X0_workOut d' as w K
abbrev W_X0_goOver (d pc : Nat) (als : List (Option AV)) (st : List AV) (w : Wd) (K : Wd → Prop) : Prop := WA true yX0_goOver cX0_goOver 7 none d 143 0 0 pc als st w (rV K)
abbrev E_X0_goOver (d : Nat) (as : List AV) (w : Wd) (K : Wd → Prop) : Prop := EvA true yX0_goOver cX0_goOver 7 none d 143 0 0 as w (rV K)
abbrev C_X0_goOver (d : Nat) (as : List AV) (w : Wd) (K : Wd → Prop) : Prop := ∃ d', d' < d ∧ E_X0_goOver d' as w K
abbrev W_X0_isStill (d pc : Nat) (als : List (Option AV)) (st : List AV) (w : Wd) (K : Int → Wd → Prop) : Prop := WA true yX0_isStill cX0_isStill 4 (some .boolean) d 143 0 0 pc als st w (rI K)
abbrev E_X0_isStill (d : Nat) (as : List AV) (w : Wd) (K : Int → Wd → Prop) : Prop := EvA true yX0_isStill cX0_isStill 4 (some .boolean) d 143 0 0 as w (rI K)
abbrev C_X0_isStill (d : Nat) (as : List AV) (w : Wd) (K : Int → Wd → Prop) : Prop := ∃ d', d' < d ∧ E_X0_isStill d' as w K
abbrev W_X0_forget (d pc : Nat) (als : List (Option AV)) (st : List AV) (w : Wd) (K : Wd → Prop) : Prop := WA true yX0_forget cX0_forget 3 none d 143 0 0 pc als st w (rV K)
abbrev E_X0_forget (d : Nat) (as : List AV) (w : Wd) (K : Wd → Prop) : Prop := EvA true yX0_forget cX0_forget 3 none d 143 0 0 as w (rV K)
abbrev C_X0_forget (d : Nat) (as : List AV) (w : Wd) (K : Wd → Prop) : Prop := ∃ d', d' < d ∧ E_X0_forget d' as w K
abbrev W_X0_opened (d pc : Nat) (als : List (Option AV)) (st : List AV) (w : Wd) (K : Int → Wd → Prop) : Prop := WA true yX0_opened cX0_opened 3 (some .int) d 143 0 0 pc als st w (rI K)
abbrev E_X0_opened (d : Nat) (as : List AV) (w : Wd) (K : Int → Wd → Prop) : Prop := EvA true yX0_opened cX0_opened 3 (some .int) d 143 0 0 as w (rI K)
abbrev C_X0_opened (d : Nat) (as : List AV) (w : Wd) (K : Int → Wd → Prop) : Prop := ∃ d', d' < d ∧ E_X0_opened d' as w K
abbrev W_X0_learn (d pc : Nat) (als : List (Option AV)) (st : List AV) (w : Wd) (K : Wd → Prop) : Prop := WA true yX0_learn cX0_learn 6 none d 143 0 0 pc als st w (rV K)
abbrev E_X0_learn (d : Nat) (as : List AV) (w : Wd) (K : Wd → Prop) : Prop := EvA true yX0_learn cX0_learn 6 none d 143 0 0 as w (rV K)
abbrev C_X0_learn (d : Nat) (as : List AV) (w : Wd) (K : Wd → Prop) : Prop := ∃ d', d' < d ∧ E_X0_learn d' as w K
abbrev W_X0_markCycle (d pc : Nat) (als : List (Option AV)) (st : List AV) (w : Wd) (K : Wd → Prop) : Prop := WA true yX0_markCycle cX0_markCycle 4 none d 143 0 0 pc als st w (rV K)
abbrev E_X0_markCycle (d : Nat) (as : List AV) (w : Wd) (K : Wd → Prop) : Prop := EvA true yX0_markCycle cX0_markCycle 4 none d 143 0 0 as w (rV K)
abbrev C_X0_markCycle (d : Nat) (as : List AV) (w : Wd) (K : Wd → Prop) : Prop := ∃ d', d' < d ∧ E_X0_markCycle d' as w K
abbrev W_X3_evaluate (d pc : Nat) (als : List (Option AV)) (st : List AV) (w : Wd) (K : Int → Wd → Prop) : Prop := WA true yX3_evaluate cX3_evaluate 5 (some .int) d 143 0 0 pc als st w (rI K)
abbrev E_X3_evaluate (d : Nat) (as : List AV) (w : Wd) (K : Int → Wd → Prop) : Prop := EvA true yX3_evaluate cX3_evaluate 5 (some .int) d 143 0 0 as w (rI K)
abbrev C_X3_evaluate (d : Nat) (as : List AV) (w : Wd) (K : Int → Wd → Prop) : Prop := ∃ d', d' < d ∧ E_X3_evaluate d' as w K
abbrev W_X3_formula (d pc : Nat) (als : List (Option AV)) (st : List AV) (w : Wd) (K : Int → Wd → Prop) : Prop := WA true yX3_formula cX3_formula 5 (some .long) d 143 0 0 pc als st w (rJ K)
abbrev E_X3_formula (d : Nat) (as : List AV) (w : Wd) (K : Int → Wd → Prop) : Prop := EvA true yX3_formula cX3_formula 5 (some .long) d 143 0 0 as w (rJ K)
abbrev C_X3_formula (d : Nat) (as : List AV) (w : Wd) (K : Int → Wd → Prop) : Prop := ∃ d', d' < d ∧ E_X3_formula d' as w K
abbrev W_X3_product (d pc : Nat) (als : List (Option AV)) (st : List AV) (w : Wd) (K : Int → Wd → Prop) : Prop := WA true yX3_product cX3_product 5 (some .long) d 143 0 0 pc als st w (rJ K)
abbrev E_X3_product (d : Nat) (as : List AV) (w : Wd) (K : Int → Wd → Prop) : Prop := EvA true yX3_product cX3_product 5 (some .long) d 143 0 0 as w (rJ K)
abbrev C_X3_product (d : Nat) (as : List AV) (w : Wd) (K : Int → Wd → Prop) : Prop := ∃ d', d' < d ∧ E_X3_product d' as w K
abbrev W_X3_bounded (d pc : Nat) (als : List (Option AV)) (st : List AV) (w : Wd) (K : Int → Wd → Prop) : Prop := WA true yX3_bounded cX3_bounded 3 (some .long) d 143 0 0 pc als st w (rJ K)
abbrev E_X3_bounded (d : Nat) (as : List AV) (w : Wd) (K : Int → Wd → Prop) : Prop := EvA true yX3_bounded cX3_bounded 3 (some .long) d 143 0 0 as w (rJ K)
abbrev C_X3_bounded (d : Nat) (as : List AV) (w : Wd) (K : Int → Wd → Prop) : Prop := ∃ d', d' < d ∧ E_X3_bounded d' as w K
abbrev W_X3_fail (d pc : Nat) (als : List (Option AV)) (st : List AV) (w : Wd) (K : Int → Wd → Prop) : Prop := WA true yX3_fail cX3_fail 2 (some .long) d 143 0 0 pc als st w (rJ K)
abbrev E_X3_fail (d : Nat) (as : List AV) (w : Wd) (K : Int → Wd → Prop) : Prop := EvA true yX3_fail cX3_fail 2 (some .long) d 143 0 0 as w (rJ K)
abbrev C_X3_fail (d : Nat) (as : List AV) (w : Wd) (K : Int → Wd → Prop) : Prop := ∃ d', d' < d ∧ E_X3_fail d' as w K
abbrev W_X3_factor (d pc : Nat) (als : List (Option AV)) (st : List AV) (w : Wd) (K : Int → Wd → Prop) : Prop := WA true yX3_factor cX3_factor 4 (some .long) d 143 0 0 pc als st w (rJ K)
abbrev E_X3_factor (d : Nat) (as : List AV) (w : Wd) (K : Int → Wd → Prop) : Prop := EvA true yX3_factor cX3_factor 4 (some .long) d 143 0 0 as w (rJ K)
abbrev C_X3_factor (d : Nat) (as : List AV) (w : Wd) (K : Int → Wd → Prop) : Prop := ∃ d', d' < d ∧ E_X3_factor d' as w K
abbrev W_X3_passNumber (d pc : Nat) (als : List (Option AV)) (st : List AV) (w : Wd) (K : Int → Wd → Prop) : Prop := WA true yX3_passNumber cX3_passNumber 4 (some .long) d 143 0 0 pc als st w (rJ K)
abbrev E_X3_passNumber (d : Nat) (as : List AV) (w : Wd) (K : Int → Wd → Prop) : Prop := EvA true yX3_passNumber cX3_passNumber 4 (some .long) d 143 0 0 as w (rJ K)
abbrev C_X3_passNumber (d : Nat) (as : List AV) (w : Wd) (K : Int → Wd → Prop) : Prop := ∃ d', d' < d ∧ E_X3_passNumber d' as w K
abbrev W_X3_passCell (d pc : Nat) (als : List (Option AV)) (st : List AV) (w : Wd) (K : Int → Wd → Prop) : Prop := WA true yX3_passCell cX3_passCell 2 (some .int) d 143 0 0 pc als st w (rI K)
abbrev E_X3_passCell (d : Nat) (as : List AV) (w : Wd) (K : Int → Wd → Prop) : Prop := EvA true yX3_passCell cX3_passCell 2 (some .int) d 143 0 0 as w (rI K)
abbrev C_X3_passCell (d : Nat) (as : List AV) (w : Wd) (K : Int → Wd → Prop) : Prop := ∃ d', d' < d ∧ E_X3_passCell d' as w K
abbrev W_X3_readCell (d pc : Nat) (als : List (Option AV)) (st : List AV) (w : Wd) (K : Int → Wd → Prop) : Prop := WA true yX3_readCell cX3_readCell 2 (some .long) d 143 0 0 pc als st w (rJ K)
abbrev E_X3_readCell (d : Nat) (as : List AV) (w : Wd) (K : Int → Wd → Prop) : Prop := EvA true yX3_readCell cX3_readCell 2 (some .long) d 143 0 0 as w (rJ K)
abbrev C_X3_readCell (d : Nat) (as : List AV) (w : Wd) (K : Int → Wd → Prop) : Prop := ∃ d', d' < d ∧ E_X3_readCell d' as w K
abbrev W_X3_call (d pc : Nat) (als : List (Option AV)) (st : List AV) (w : Wd) (K : Int → Wd → Prop) : Prop := WA true yX3_call cX3_call 4 (some .long) d 143 0 0 pc als st w (rJ K)
abbrev E_X3_call (d : Nat) (as : List AV) (w : Wd) (K : Int → Wd → Prop) : Prop := EvA true yX3_call cX3_call 4 (some .long) d 143 0 0 as w (rJ K)
abbrev C_X3_call (d : Nat) (as : List AV) (w : Wd) (K : Int → Wd → Prop) : Prop := ∃ d', d' < d ∧ E_X3_call d' as w K
abbrev W_X3_choose (d pc : Nat) (als : List (Option AV)) (st : List AV) (w : Wd) (K : Int → Wd → Prop) : Prop := WA true yX3_choose cX3_choose 8 (some .long) d 143 0 0 pc als st w (rJ K)
abbrev E_X3_choose (d : Nat) (as : List AV) (w : Wd) (K : Int → Wd → Prop) : Prop := EvA true yX3_choose cX3_choose 8 (some .long) d 143 0 0 as w (rJ K)
abbrev C_X3_choose (d : Nat) (as : List AV) (w : Wd) (K : Int → Wd → Prop) : Prop := ∃ d', d' < d ∧ E_X3_choose d' as w K
abbrev W_X3_skipPart (d pc : Nat) (als : List (Option AV)) (st : List AV) (w : Wd) (K : Wd → Prop) : Prop := WA true yX3_skipPart cX3_skipPart 4 none d 143 0 0 pc als st w (rV K)
abbrev E_X3_skipPart (d : Nat) (as : List AV) (w : Wd) (K : Wd → Prop) : Prop := EvA true yX3_skipPart cX3_skipPart 4 none d 143 0 0 as w (rV K)
abbrev C_X3_skipPart (d : Nat) (as : List AV) (w : Wd) (K : Wd → Prop) : Prop := ∃ d', d' < d ∧ E_X3_skipPart d' as w K
abbrev W_X3_combine (d pc : Nat) (als : List (Option AV)) (st : List AV) (w : Wd) (K : Int → Wd → Prop) : Prop := WA true yX3_combine cX3_combine 8 (some .long) d 143 0 0 pc als st w (rJ K)
abbrev E_X3_combine (d : Nat) (as : List AV) (w : Wd) (K : Int → Wd → Prop) : Prop := EvA true yX3_combine cX3_combine 8 (some .long) d 143 0 0 as w (rJ K)
abbrev C_X3_combine (d : Nat) (as : List AV) (w : Wd) (K : Int → Wd → Prop) : Prop := ∃ d', d' < d ∧ E_X3_combine d' as w K
abbrev W_X3_gather (d pc : Nat) (als : List (Option AV)) (st : List AV) (w : Wd) (K : Int → Wd → Prop) : Prop := WA true yX3_gather cX3_gather 7 (some .long) d 143 0 0 pc als st w (rJ K)
abbrev E_X3_gather (d : Nat) (as : List AV) (w : Wd) (K : Int → Wd → Prop) : Prop := EvA true yX3_gather cX3_gather 7 (some .long) d 143 0 0 as w (rJ K)
abbrev C_X3_gather (d : Nat) (as : List AV) (w : Wd) (K : Int → Wd → Prop) : Prop := ∃ d', d' < d ∧ E_X3_gather d' as w K
abbrev W_X3_isAtArea (d pc : Nat) (als : List (Option AV)) (st : List AV) (w : Wd) (K : Int → Wd → Prop) : Prop := WA true yX3_isAtArea cX3_isAtArea 2 (some .boolean) d 143 0 0 pc als st w (rI K)
abbrev E_X3_isAtArea (d : Nat) (as : List AV) (w : Wd) (K : Int → Wd → Prop) : Prop := EvA true yX3_isAtArea cX3_isAtArea 2 (some .boolean) d 143 0 0 as w (rI K)
abbrev C_X3_isAtArea (d : Nat) (as : List AV) (w : Wd) (K : Int → Wd → Prop) : Prop := ∃ d', d' < d ∧ E_X3_isAtArea d' as w K
abbrev W_X3_gatherArea (d pc : Nat) (als : List (Option AV)) (st : List AV) (w : Wd) (K : Int → Wd → Prop) : Prop := WA true yX3_gatherArea cX3_gatherArea 13 (some .long) d 143 0 0 pc als st w (rJ K)
abbrev E_X3_gatherArea (d : Nat) (as : List AV) (w : Wd) (K : Int → Wd → Prop) : Prop := EvA true yX3_gatherArea cX3_gatherArea 13 (some .long) d 143 0 0 as w (rJ K)
abbrev C_X3_gatherArea (d : Nat) (as : List AV) (w : Wd) (K : Int → Wd → Prop) : Prop := ∃ d', d' < d ∧ E_X3_gatherArea d' as w K
abbrev W_X3_joined (d pc : Nat) (als : List (Option AV)) (st : List AV) (w : Wd) (K : Int → Wd → Prop) : Prop := WA true yX3_joined cX3_joined 6 (some .long) d 143 0 0 pc als st w (rJ K)
abbrev E_X3_joined (d : Nat) (as : List AV) (w : Wd) (K : Int → Wd → Prop) : Prop := EvA true yX3_joined cX3_joined 6 (some .long) d 143 0 0 as w (rJ K)
abbrev C_X3_joined (d : Nat) (as : List AV) (w : Wd) (K : Int → Wd → Prop) : Prop := ∃ d', d' < d ∧ E_X3_joined d' as w K
set_option maxRecDepth 10000 in
theorem v_X0_workOut_7 {d : Nat} {w : Wd} {K : Wd → Prop} {a1 v2 : Int} (ha1 : am_St a1) 
    (h : ((72 ≤ v2 → K w) ∧ (¬ (72 ≤ v2) → (0 ≤ v2 ∧ v2 < 72) ∧ ((¬ (w 112 v2) = 1 → W_X0_workOut d 40 [some (.inr (.inr 107)), some (.inr (.inr a1)), some (.inl v2), some (.inl 0), some (.inl 0), none, none] [] w K) ∧ ((w 112 v2) = 1 → C_X0_opened d [.inr (.inr 107), .inl 0, .inl v2] w (fun x1 w1 => W_X0_workOut d 40 [some (.inr (.inr 107)), some (.inr (.inr a1)), some (.inl v2), some (.inl x1), some (.inl 0), none, none] [] w1 K)))))) :
    W_X0_workOut d 7 [some (.inr (.inr 107)), some (.inr (.inr a1)), some (.inl v2), none, none, none, none] [] w K := by
  refine WA.iload_n dX0_workOut_7 rfl ?_
  refine WA.bipush dX0_workOut_8 ⟨by decide, by decide⟩ ?_
  refine WA.icmp_ge (tgt := 155) dX0_workOut_10 (by decide) (fun hc => ?_) (fun hc => ?_)
  · have h := h.1 hc
    exact WA.vreturn dX0_workOut_155 ⟨rfl, h⟩
  · have h := h.2 hc
    refine WA.aload_n dX0_workOut_13 rfl (by decide) ?_
    refine gxX0_20 rfl rfl dX0_workOut_14 ob_107 ?_
    refine gxX0_27 rfl rfl dX0_workOut_17 ob_109 ?_
    refine WA.iload_n dX0_workOut_20 rfl ?_
    obtain ⟨s1, h⟩ := h
    refine WA.iaload dX0_workOut_21 ob_112 s1.1 s1.2 ?_
    refine WA.iconst dX0_workOut_22 ⟨by decide, by decide⟩ ?_
    refine WA.icmp_ne (tgt := 35) dX0_workOut_23 (by decide) (fun hc => ?_) (fun hc => ?_)
    · have h := h.1 hc
      refine WA.iconst dX0_workOut_35 ⟨by decide, by decide⟩ ?_
      refine WA.istore_n (als' := [some (.inr (.inr 107)), some (.inr (.inr a1)), some (.inl v2), some (.inl 0), none, none, none]) dX0_workOut_36 (Nat.le_of_ble_eq_true rfl) rfl ?_
      refine WA.iconst dX0_workOut_37 ⟨by decide, by decide⟩ ?_
      refine WA.istore (als' := [some (.inr (.inr 107)), some (.inr (.inr a1)), some (.inl v2), some (.inl 0), some (.inl 0), none, none]) dX0_workOut_38 (Nat.le_of_ble_eq_true rfl) rfl ?_
      exact h
    · have h := h.2 hc
      refine WA.aload_n dX0_workOut_26 rfl (by decide) ?_
      refine WA.iconst dX0_workOut_27 ⟨by decide, by decide⟩ ?_
      refine WA.iload_n dX0_workOut_28 rfl ?_
      obtain ⟨d1, hd1, h⟩ := h
      refine WA.callV2 (kc := 0) (ks := 0) (kc' := 0) (ks' := 0) dX0_workOut_29 lkX0_30 rfl rfl rfl ob_107 rfl (Nat.le_of_ble_eq_true rfl) hd1 h (fun r w1 hK => ?_)
      obtain ⟨x1, rfl, h⟩ := hK
      change WA _ _ _ _ _ _ _ _ _ _ _ [.inl x1] _ _
      refine WA.goto (tgt := 36) dX0_workOut_32 (by decide) ?_
      refine WA.istore_n (als' := [some (.inr (.inr 107)), some (.inr (.inr a1)), some (.inl v2), some (.inl x1), none, none, none]) dX0_workOut_36 (Nat.le_of_ble_eq_true rfl) rfl ?_
      refine WA.iconst dX0_workOut_37 ⟨by decide, by decide⟩ ?_
      refine WA.istore (als' := [some (.inr (.inr 107)), some (.inr (.inr a1)), some (.inl v2), some (.inl x1), some (.inl 0), none, none]) dX0_workOut_38 (Nat.le_of_ble_eq_true rfl) rfl ?_
      exact h
set_option maxRecDepth 10000 in
theorem v_X0_workOut_40 {d : Nat} {w : Wd} {K : Wd → Prop} {a1 v2 v3 v4 : Int} (ha1 : am_St a1) 
    (h : ((1000 ≤ v4 → (-2147483648 ≤ (v2 + 1) ∧ (v2 + 1) ≤ 2147483647) ∧ W_X0_workOut d 7 [some (.inr (.inr 107)), some (.inr (.inr a1)), some (.inl (v2 + 1)), none, none, none, none] [] w K) ∧ (¬ (1000 ≤ v4) → ((v3 ≤ 0 → (-2147483648 ≤ (v2 + 1) ∧ (v2 + 1) ≤ 2147483647) ∧ W_X0_workOut d 7 [some (.inr (.inr 107)), some (.inr (.inr a1)), some (.inl (v2 + 1)), none, none, none, none] [] w K) ∧ (¬ (v3 ≤ 0) → (-2147483648 ≤ (v3 - 1) ∧ (v3 - 1) ≤ 2147483647) ∧ (0 ≤ (v3 - 1) ∧ (v3 - 1) < 72) ∧ C_X3_evaluate d [.inr (.inr 109), .inr (.inr a1), .inl (w 108 (v3 - 1))] w (fun x1 w1 => ((¬ (w1 109 7) = (-1) → (0 ≤ (w1 109 7) ∧ (w1 109 7) < 72) ∧ ((¬ (w1 112 (w1 109 7)) = 1 → C_X0_markCycle d [.inr (.inr 107), .inr (.inr a1), .inl v3] w1 (fun w2 => (-2147483648 ≤ (v4 + 1) ∧ (v4 + 1) ≤ 2147483647) ∧ W_X0_workOut d 40 [some (.inr (.inr 107)), some (.inr (.inr a1)), some (.inl v2), some (.inl 0), some (.inl (v4 + 1)), none, none] [] w2 K)) ∧ ((w1 112 (w1 109 7)) = 1 → C_X0_opened d [.inr (.inr 107), .inl v3, .inl (w1 109 7)] w1 (fun x2 w3 => (-2147483648 ≤ (v4 + 1) ∧ (v4 + 1) ≤ 2147483647) ∧ W_X0_workOut d 40 [some (.inr (.inr 107)), some (.inr (.inr a1)), some (.inl v2), some (.inl x2), some (.inl (v4 + 1)), none, none] [] w3 K)))) ∧ ((w1 109 7) = (-1) → C_X0_learn d [.inr (.inr 107), .inr (.inr a1), .inl (w 108 (v3 - 1)), .inl x1] w1 (fun w4 => (-2147483648 ≤ (v3 + (-1)) ∧ (v3 + (-1)) ≤ 2147483647) ∧ (-2147483648 ≤ (v4 + 1) ∧ (v4 + 1) ≤ 2147483647) ∧ W_X0_workOut d 40 [some (.inr (.inr 107)), some (.inr (.inr a1)), some (.inl v2), some (.inl (v3 + (-1))), some (.inl (v4 + 1)), none, none] [] w4 K))))))))) :
    W_X0_workOut d 40 [some (.inr (.inr 107)), some (.inr (.inr a1)), some (.inl v2), some (.inl v3), some (.inl v4), none, none] [] w K := by
  refine WA.iload dX0_workOut_40 rfl ?_
  refine WA.sipush dX0_workOut_42 ⟨by decide, by decide⟩ ?_
  refine WA.icmp_ge (tgt := 149) dX0_workOut_45 (by decide) (fun hc => ?_) (fun hc => ?_)
  · have h := h.1 hc
    obtain ⟨s1, h⟩ := h
    refine WA.iinc (als' := [some (.inr (.inr 107)), some (.inr (.inr a1)), some (.inl (v2 + 1)), some (.inl v3), some (.inl v4), none, none]) dX0_workOut_149 rfl s1 rfl ?_
    refine WA.goto (tgt := 7) dX0_workOut_152 (by decide) ?_
    exact WA.sub (als' := [some (.inr (.inr 107)), some (.inr (.inr a1)), some (.inl (v2 + 1)), none, none, none, none]) (by simp only [am_sub, and_self]) rfl h
  · have h := h.2 hc
    refine WA.iload_n dX0_workOut_48 rfl ?_
    refine WA.if_le (tgt := 149) dX0_workOut_49 (by decide) (fun hc => ?_) (fun hc => ?_)
    · have h := h.1 hc
      obtain ⟨s2, h⟩ := h
      refine WA.iinc (als' := [some (.inr (.inr 107)), some (.inr (.inr a1)), some (.inl (v2 + 1)), some (.inl v3), some (.inl v4), none, none]) dX0_workOut_149 rfl s2 rfl ?_
      refine WA.goto (tgt := 7) dX0_workOut_152 (by decide) ?_
      exact WA.sub (als' := [some (.inr (.inr 107)), some (.inr (.inr a1)), some (.inl (v2 + 1)), none, none, none, none]) (by simp only [am_sub, and_self]) rfl h
    · have h := h.2 hc
      refine WA.aload_n dX0_workOut_52 rfl (by decide) ?_
      refine gxX0_9 rfl rfl dX0_workOut_53 ob_107 ?_
      refine WA.iload_n dX0_workOut_56 rfl ?_
      refine WA.iconst dX0_workOut_57 ⟨by decide, by decide⟩ ?_
      obtain ⟨s3, h⟩ := h
      refine WA.isub dX0_workOut_58 s3 ?_
      obtain ⟨s4, h⟩ := h
      refine WA.iaload dX0_workOut_59 ob_108 s4.1 s4.2 ?_
      refine WA.istore (als' := [some (.inr (.inr 107)), some (.inr (.inr a1)), some (.inl v2), some (.inl v3), some (.inl v4), some (.inl (w 108 (v3 - 1))), none]) dX0_workOut_60 (Nat.le_of_ble_eq_true rfl) rfl ?_
      refine WA.aload_n dX0_workOut_62 rfl (by decide) ?_
      refine gxX0_20 rfl rfl dX0_workOut_63 ob_107 ?_
      refine WA.aload_n dX0_workOut_66 rfl (am_St_ne ha1) ?_
      refine WA.iload dX0_workOut_67 rfl ?_
      obtain ⟨d1, hd1, h⟩ := h
      refine WA.callV2 (kc := 0) (ks := 0) (kc' := 0) (ks' := 0) dX0_workOut_69 lkX0_34 rfl rfl rfl ob_109 rfl (Nat.le_of_ble_eq_true rfl) hd1 h (fun r w1 hK => ?_)
      obtain ⟨x1, rfl, h⟩ := hK
      change WA _ _ _ _ _ _ _ _ _ _ _ [.inl x1] _ _
      refine WA.istore (als' := [some (.inr (.inr 107)), some (.inr (.inr a1)), some (.inl v2), some (.inl v3), some (.inl v4), some (.inl (w 108 (v3 - 1))), some (.inl x1)]) dX0_workOut_72 (Nat.le_of_ble_eq_true rfl) rfl ?_
      refine WA.aload_n dX0_workOut_74 rfl (by decide) ?_
      refine gxX0_20 rfl rfl dX0_workOut_75 ob_107 ?_
      refine gfX0_38 rfl dX0_workOut_78 ob_109 ?_
      refine WA.iconst dX0_workOut_81 ⟨by decide, by decide⟩ ?_
      refine WA.icmp_ne (tgt := 100) dX0_workOut_82 (by decide) (fun hc => ?_) (fun hc => ?_)
      · have h := h.1 hc
        refine WA.aload_n dX0_workOut_100 rfl (by decide) ?_
        refine gxX0_20 rfl rfl dX0_workOut_101 ob_107 ?_
        refine gxX0_27 rfl rfl dX0_workOut_104 ob_109 ?_
        refine WA.aload_n dX0_workOut_107 rfl (by decide) ?_
        refine gxX0_20 rfl rfl dX0_workOut_108 ob_107 ?_
        refine gfX0_38 rfl dX0_workOut_111 ob_109 ?_
        obtain ⟨s5, h⟩ := h
        refine WA.iaload dX0_workOut_114 ob_112 s5.1 s5.2 ?_
        refine WA.iconst dX0_workOut_115 ⟨by decide, by decide⟩ ?_
        refine WA.icmp_ne (tgt := 135) dX0_workOut_116 (by decide) (fun hc => ?_) (fun hc => ?_)
        · have h := h.1 hc
          refine WA.aload_n dX0_workOut_135 rfl (by decide) ?_
          refine WA.aload_n dX0_workOut_136 rfl (am_St_ne ha1) ?_
          refine WA.iload_n dX0_workOut_137 rfl ?_
          obtain ⟨d1, hd1, h⟩ := h
          refine WA.callV2 (kc := 0) (ks := 0) (kc' := 0) (ks' := 0) dX0_workOut_138 lkX0_46 rfl rfl rfl ob_107 rfl (Nat.le_of_ble_eq_true rfl) hd1 h (fun r w2 hK => ?_)
          obtain ⟨rfl, h⟩ := hK
          change WA _ _ _ _ _ _ _ _ _ _ _ [] _ _
          refine WA.iconst dX0_workOut_141 ⟨by decide, by decide⟩ ?_
          refine WA.istore_n (als' := [some (.inr (.inr 107)), some (.inr (.inr a1)), some (.inl v2), some (.inl 0), some (.inl v4), some (.inl (w 108 (v3 - 1))), some (.inl x1)]) dX0_workOut_142 (Nat.le_of_ble_eq_true rfl) rfl ?_
          obtain ⟨s6, h⟩ := h
          refine WA.iinc (als' := [some (.inr (.inr 107)), some (.inr (.inr a1)), some (.inl v2), some (.inl 0), some (.inl (v4 + 1)), some (.inl (w 108 (v3 - 1))), some (.inl x1)]) dX0_workOut_143 rfl s6 rfl ?_
          refine WA.goto (tgt := 40) dX0_workOut_146 (by decide) ?_
          exact WA.sub (als' := [some (.inr (.inr 107)), some (.inr (.inr a1)), some (.inl v2), some (.inl 0), some (.inl (v4 + 1)), none, none]) (by simp only [am_sub, and_self]) rfl h
        · have h := h.2 hc
          refine WA.aload_n dX0_workOut_119 rfl (by decide) ?_
          refine WA.iload_n dX0_workOut_120 rfl ?_
          refine WA.aload_n dX0_workOut_121 rfl (by decide) ?_
          refine gxX0_20 rfl rfl dX0_workOut_122 ob_107 ?_
          refine gfX0_38 rfl dX0_workOut_125 ob_109 ?_
          obtain ⟨d1, hd1, h⟩ := h
          refine WA.callV2 (kc := 0) (ks := 0) (kc' := 0) (ks' := 0) dX0_workOut_128 lkX0_30 rfl rfl rfl ob_107 rfl (Nat.le_of_ble_eq_true rfl) hd1 h (fun r w3 hK => ?_)
          obtain ⟨x2, rfl, h⟩ := hK
          change WA _ _ _ _ _ _ _ _ _ _ _ [.inl x2] _ _
          refine WA.istore_n (als' := [some (.inr (.inr 107)), some (.inr (.inr a1)), some (.inl v2), some (.inl x2), some (.inl v4), some (.inl (w 108 (v3 - 1))), some (.inl x1)]) dX0_workOut_131 (Nat.le_of_ble_eq_true rfl) rfl ?_
          refine WA.goto (tgt := 143) dX0_workOut_132 (by decide) ?_
          obtain ⟨s7, h⟩ := h
          refine WA.iinc (als' := [some (.inr (.inr 107)), some (.inr (.inr a1)), some (.inl v2), some (.inl x2), some (.inl (v4 + 1)), some (.inl (w 108 (v3 - 1))), some (.inl x1)]) dX0_workOut_143 rfl s7 rfl ?_
          refine WA.goto (tgt := 40) dX0_workOut_146 (by decide) ?_
          exact WA.sub (als' := [some (.inr (.inr 107)), some (.inr (.inr a1)), some (.inl v2), some (.inl x2), some (.inl (v4 + 1)), none, none]) (by simp only [am_sub, and_self]) rfl h
      · have h := h.2 hc
        refine WA.aload_n dX0_workOut_85 rfl (by decide) ?_
        refine WA.aload_n dX0_workOut_86 rfl (am_St_ne ha1) ?_
        refine WA.iload dX0_workOut_87 rfl ?_
        refine WA.iload dX0_workOut_89 rfl ?_
        obtain ⟨d1, hd1, h⟩ := h
        refine WA.callV3 (kc := 0) (ks := 0) (kc' := 0) (ks' := 0) dX0_workOut_91 lkX0_42 rfl rfl rfl ob_107 rfl (Nat.le_of_ble_eq_true rfl) hd1 h (fun r w4 hK => ?_)
        obtain ⟨rfl, h⟩ := hK
        change WA _ _ _ _ _ _ _ _ _ _ _ [] _ _
        obtain ⟨s8, h⟩ := h
        refine WA.iinc (als' := [some (.inr (.inr 107)), some (.inr (.inr a1)), some (.inl v2), some (.inl (v3 + (-1))), some (.inl v4), some (.inl (w 108 (v3 - 1))), some (.inl x1)]) dX0_workOut_94 rfl s8 rfl ?_
        refine WA.goto (tgt := 143) dX0_workOut_97 (by decide) ?_
        obtain ⟨s9, h⟩ := h
        refine WA.iinc (als' := [some (.inr (.inr 107)), some (.inr (.inr a1)), some (.inl v2), some (.inl (v3 + (-1))), some (.inl (v4 + 1)), some (.inl (w 108 (v3 - 1))), some (.inl x1)]) dX0_workOut_143 rfl s9 rfl ?_
        refine WA.goto (tgt := 40) dX0_workOut_146 (by decide) ?_
        exact WA.sub (als' := [some (.inr (.inr 107)), some (.inr (.inr a1)), some (.inl v2), some (.inl (v3 + (-1))), some (.inl (v4 + 1)), none, none]) (by simp only [am_sub, and_self]) rfl h
set_option maxRecDepth 10000 in
theorem e_X0_workOut {d : Nat} {w : Wd} {K : Wd → Prop} {a1 : Int} (ha1 : am_St a1) 
    (h : C_X0_forget d [.inr (.inr 107), .inr (.inr a1)] w (fun w1 => W_X0_workOut d 7 [some (.inr (.inr 107)), some (.inr (.inr a1)), some (.inl 0), none, none, none, none] [] w1 K)) :
    E_X0_workOut d [.inr (.inr 107), .inr (.inr a1)] w K := by
  refine EvA.of (by decide +kernel) (Nat.le_of_ble_eq_true rfl) ?_
  change W_X0_workOut d 0 [some (.inr (.inr 107)), some (.inr (.inr a1)), none, none, none, none, none] [] w K
  refine WA.aload_n dX0_workOut_0 rfl (by decide) ?_
  refine WA.aload_n dX0_workOut_1 rfl (am_St_ne ha1) ?_
  obtain ⟨d1, hd1, h⟩ := h
  refine WA.callV1 (kc := 0) (ks := 0) (kc' := 0) (ks' := 0) dX0_workOut_2 lkX0_24 rfl rfl rfl ob_107 rfl (Nat.le_of_ble_eq_true rfl) hd1 h (fun r w1 hK => ?_)
  obtain ⟨rfl, h⟩ := hK
  change WA _ _ _ _ _ _ _ _ _ _ _ [] _ _
  refine WA.iconst dX0_workOut_5 ⟨by decide, by decide⟩ ?_
  refine WA.istore_n (als' := [some (.inr (.inr 107)), some (.inr (.inr a1)), some (.inl 0), none, none, none, none]) dX0_workOut_6 (Nat.le_of_ble_eq_true rfl) rfl ?_
  exact h
set_option maxRecDepth 10000 in
theorem v_X0_goOver_4 {d : Nat} {w : Wd} {K : Wd → Prop} {a1 v2 v3 : Int} (ha1 : am_St a1) 
    (h : ((72 ≤ v3 → (∀ w1, w1 = wset w a1 12 0 → ((¬ v2 = 0 → (∀ w2, w2 = wset w1 a1 13 0 → W_X0_goOver d 76 [some (.inr (.inr 107)), some (.inr (.inr a1)), some (.inl v2), some (.inl 0), none, none, none] [] w2 K)) ∧ (v2 = 0 → (∀ w3, w3 = wset w1 a1 13 1 → W_X0_goOver d 76 [some (.inr (.inr 107)), some (.inr (.inr a1)), some (.inl v2), some (.inl 0), none, none, none] [] w3 K))))) ∧ (¬ (72 ≤ v3) → (0 ≤ v3 ∧ v3 < 72) ∧ ((¬ (w (a1 + 10) v3) = 1 → (-2147483648 ≤ (v3 + 1) ∧ (v3 + 1) ≤ 2147483647) ∧ W_X0_goOver d 4 [some (.inr (.inr 107)), some (.inr (.inr a1)), some (.inl v2), some (.inl (v3 + 1)), none, none, none] [] w K) ∧ ((w (a1 + 10) v3) = 1 → ((¬ (w a1 11) = 0 → (0 ≤ v3 ∧ v3 < 72) ∧ (∀ w4, w4 = wset w (a1 + 8) v3 0 → (0 ≤ v3 ∧ v3 < 72) ∧ (∀ w5, w5 = wset w4 112 v3 0 → (-2147483648 ≤ (v3 + 1) ∧ (v3 + 1) ≤ 2147483647) ∧ W_X0_goOver d 4 [some (.inr (.inr 107)), some (.inr (.inr a1)), some (.inl 1), some (.inl (v3 + 1)), none, none, none] [] w5 K))) ∧ ((w a1 11) = 0 → (0 ≤ v3 ∧ v3 < 72) ∧ (∀ w6, w6 = wset w (a1 + 8) v3 4 → (0 ≤ v3 ∧ v3 < 72) ∧ (∀ w7, w7 = wset w6 112 v3 0 → (-2147483648 ≤ (v3 + 1) ∧ (v3 + 1) ≤ 2147483647) ∧ W_X0_goOver d 4 [some (.inr (.inr 107)), some (.inr (.inr a1)), some (.inl 1), some (.inl (v3 + 1)), none, none, none] [] w7 K))))))))) :
    W_X0_goOver d 4 [some (.inr (.inr 107)), some (.inr (.inr a1)), some (.inl v2), some (.inl v3), none, none, none] [] w K := by
  refine WA.iload_n dX0_goOver_4 rfl ?_
  refine WA.bipush dX0_goOver_5 ⟨by decide, by decide⟩ ?_
  refine WA.icmp_ge (tgt := 56) dX0_goOver_7 (by decide) (fun hc => ?_) (fun hc => ?_)
  · have h := h.1 hc
    refine WA.aload_n dX0_goOver_56 rfl (am_St_ne ha1) ?_
    refine WA.iconst dX0_goOver_57 ⟨by decide, by decide⟩ ?_
    obtain ⟨w1, qw1⟩ : ∃ z, z = wset w a1 12 0 := ⟨_, rfl⟩
    have h := h w1 qw1
    refine pfX0_61 rfl dX0_goOver_58 (am_St_obj ha1) ?_
    rw [← qw1]
    refine WA.aload_n dX0_goOver_61 rfl (am_St_ne ha1) ?_
    refine WA.iload_n dX0_goOver_62 rfl ?_
    refine WA.if_ne (tgt := 70) dX0_goOver_63 (by decide) (fun hc => ?_) (fun hc => ?_)
    · have h := h.1 hc
      refine WA.iconst dX0_goOver_70 ⟨by decide, by decide⟩ ?_
      obtain ⟨w2, qw2⟩ : ∃ z, z = wset w1 a1 13 0 := ⟨_, rfl⟩
      have h := h w2 qw2
      refine pfX0_64 rfl dX0_goOver_71 (am_St_obj ha1) (by decide) ?_
      rw [← qw2]
      refine WA.iconst dX0_goOver_74 ⟨by decide, by decide⟩ ?_
      refine WA.istore_n (als' := [some (.inr (.inr 107)), some (.inr (.inr a1)), some (.inl v2), some (.inl 0), none, none, none]) dX0_goOver_75 (Nat.le_of_ble_eq_true rfl) rfl ?_
      exact h
    · have h := h.2 hc
      refine WA.iconst dX0_goOver_66 ⟨by decide, by decide⟩ ?_
      refine WA.goto (tgt := 71) dX0_goOver_67 (by decide) ?_
      obtain ⟨w3, qw3⟩ : ∃ z, z = wset w1 a1 13 1 := ⟨_, rfl⟩
      have h := h w3 qw3
      refine pfX0_64 rfl dX0_goOver_71 (am_St_obj ha1) (by decide) ?_
      rw [← qw3]
      refine WA.iconst dX0_goOver_74 ⟨by decide, by decide⟩ ?_
      refine WA.istore_n (als' := [some (.inr (.inr 107)), some (.inr (.inr a1)), some (.inl v2), some (.inl 0), none, none, none]) dX0_goOver_75 (Nat.le_of_ble_eq_true rfl) rfl ?_
      exact h
  · have h := h.2 hc
    refine WA.aload_n dX0_goOver_10 rfl (am_St_ne ha1) ?_
    refine gxX0_50 rfl rfl dX0_goOver_11 (am_St_obj ha1) ?_
    refine WA.iload_n dX0_goOver_14 rfl ?_
    obtain ⟨s1, h⟩ := h
    refine WA.iaload dX0_goOver_15 (am_St_10 ha1) s1.1 s1.2 ?_
    refine WA.iconst dX0_goOver_16 ⟨by decide, by decide⟩ ?_
    refine WA.icmp_ne (tgt := 50) dX0_goOver_17 (by decide) (fun hc => ?_) (fun hc => ?_)
    · have h := h.1 hc
      obtain ⟨s2, h⟩ := h
      refine WA.iinc (als' := [some (.inr (.inr 107)), some (.inr (.inr a1)), some (.inl v2), some (.inl (v3 + 1)), none, none, none]) dX0_goOver_50 rfl s2 rfl ?_
      refine WA.goto (tgt := 4) dX0_goOver_53 (by decide) ?_
      exact h
    · have h := h.2 hc
      refine WA.iconst dX0_goOver_20 ⟨by decide, by decide⟩ ?_
      refine WA.istore_n (als' := [some (.inr (.inr 107)), some (.inr (.inr a1)), some (.inl 1), some (.inl v3), none, none, none]) dX0_goOver_21 (Nat.le_of_ble_eq_true rfl) rfl ?_
      refine WA.aload_n dX0_goOver_22 rfl (am_St_ne ha1) ?_
      refine gxX0_55 rfl rfl dX0_goOver_23 (am_St_obj ha1) ?_
      refine WA.iload_n dX0_goOver_26 rfl ?_
      refine WA.aload_n dX0_goOver_27 rfl (am_St_ne ha1) ?_
      refine gfX0_58 rfl dX0_goOver_28 (am_St_obj ha1) ?_
      refine WA.if_ne (tgt := 38) dX0_goOver_31 (by decide) (fun hc => ?_) (fun hc => ?_)
      · have h := h.1 hc
        refine WA.iconst dX0_goOver_38 ⟨by decide, by decide⟩ ?_
        obtain ⟨s3, h⟩ := h
        obtain ⟨w4, qw4⟩ : ∃ z, z = wset w (a1 + 8) v3 0 := ⟨_, rfl⟩
        have h := h w4 qw4
        refine WA.iastore dX0_goOver_39 (am_St_8 ha1) s3.1 s3.2 ?_
        rw [← qw4]
        refine WA.aload_n dX0_goOver_40 rfl (by decide) ?_
        refine gxX0_20 rfl rfl dX0_goOver_41 ob_107 ?_
        refine gxX0_27 rfl rfl dX0_goOver_44 ob_109 ?_
        refine WA.iload_n dX0_goOver_47 rfl ?_
        refine WA.iconst dX0_goOver_48 ⟨by decide, by decide⟩ ?_
        obtain ⟨s4, h⟩ := h
        obtain ⟨w5, qw5⟩ : ∃ z, z = wset w4 112 v3 0 := ⟨_, rfl⟩
        have h := h w5 qw5
        refine WA.iastore dX0_goOver_49 ob_112 s4.1 s4.2 ?_
        rw [← qw5]
        obtain ⟨s5, h⟩ := h
        refine WA.iinc (als' := [some (.inr (.inr 107)), some (.inr (.inr a1)), some (.inl 1), some (.inl (v3 + 1)), none, none, none]) dX0_goOver_50 rfl s5 rfl ?_
        refine WA.goto (tgt := 4) dX0_goOver_53 (by decide) ?_
        exact h
      · have h := h.2 hc
        refine WA.iconst dX0_goOver_34 ⟨by decide, by decide⟩ ?_
        refine WA.goto (tgt := 39) dX0_goOver_35 (by decide) ?_
        obtain ⟨s6, h⟩ := h
        obtain ⟨w6, qw6⟩ : ∃ z, z = wset w (a1 + 8) v3 4 := ⟨_, rfl⟩
        have h := h w6 qw6
        refine WA.iastore dX0_goOver_39 (am_St_8 ha1) s6.1 s6.2 ?_
        rw [← qw6]
        refine WA.aload_n dX0_goOver_40 rfl (by decide) ?_
        refine gxX0_20 rfl rfl dX0_goOver_41 ob_107 ?_
        refine gxX0_27 rfl rfl dX0_goOver_44 ob_109 ?_
        refine WA.iload_n dX0_goOver_47 rfl ?_
        refine WA.iconst dX0_goOver_48 ⟨by decide, by decide⟩ ?_
        obtain ⟨s7, h⟩ := h
        obtain ⟨w7, qw7⟩ : ∃ z, z = wset w6 112 v3 0 := ⟨_, rfl⟩
        have h := h w7 qw7
        refine WA.iastore dX0_goOver_49 ob_112 s7.1 s7.2 ?_
        rw [← qw7]
        obtain ⟨s8, h⟩ := h
        refine WA.iinc (als' := [some (.inr (.inr 107)), some (.inr (.inr a1)), some (.inl 1), some (.inl (v3 + 1)), none, none, none]) dX0_goOver_50 rfl s8 rfl ?_
        refine WA.goto (tgt := 4) dX0_goOver_53 (by decide) ?_
        exact h
set_option maxRecDepth 10000 in
theorem v_X0_goOver_76 {d : Nat} {w : Wd} {K : Wd → Prop} {a1 v2 v3 : Int} (ha1 : am_St a1) 
    (h : (((w a1 11) ≤ v3 → K w) ∧ (¬ ((w a1 11) ≤ v3) → ((¬ (w a1 13) = 0 → K w) ∧ ((w a1 13) = 0 → W_X0_goOver d 97 [some (.inr (.inr 107)), some (.inr (.inr a1)), some (.inl v2), some (.inl v3), some (.inl 1), some (.inl 0), none] [] w K))))) :
    W_X0_goOver d 76 [some (.inr (.inr 107)), some (.inr (.inr a1)), some (.inl v2), some (.inl v3), none, none, none] [] w K := by
  refine WA.iload_n dX0_goOver_76 rfl ?_
  refine WA.aload_n dX0_goOver_77 rfl (am_St_ne ha1) ?_
  refine gfX0_58 rfl dX0_goOver_78 (am_St_obj ha1) ?_
  refine WA.icmp_ge (tgt := 202) dX0_goOver_81 (by decide) (fun hc => ?_) (fun hc => ?_)
  · have h := h.1 hc
    exact WA.vreturn dX0_goOver_202 ⟨rfl, h⟩
  · have h := h.2 hc
    refine WA.aload_n dX0_goOver_84 rfl (am_St_ne ha1) ?_
    refine gfX0_64 rfl dX0_goOver_85 (am_St_obj ha1) ?_
    refine WA.if_ne (tgt := 202) dX0_goOver_88 (by decide) (fun hc => ?_) (fun hc => ?_)
    · have h := h.1 hc
      exact WA.vreturn dX0_goOver_202 ⟨rfl, h⟩
    · have h := h.2 hc
      refine WA.iconst dX0_goOver_91 ⟨by decide, by decide⟩ ?_
      refine WA.istore (als' := [some (.inr (.inr 107)), some (.inr (.inr a1)), some (.inl v2), some (.inl v3), some (.inl 1), none, none]) dX0_goOver_92 (Nat.le_of_ble_eq_true rfl) rfl ?_
      refine WA.iconst dX0_goOver_94 ⟨by decide, by decide⟩ ?_
      refine WA.istore (als' := [some (.inr (.inr 107)), some (.inr (.inr a1)), some (.inl v2), some (.inl v3), some (.inl 1), some (.inl 0), none]) dX0_goOver_95 (Nat.le_of_ble_eq_true rfl) rfl ?_
      exact h
set_option maxRecDepth 10000 in
theorem v_X0_goOver_97 {d : Nat} {w : Wd} {K : Wd → Prop} {a1 v2 v3 v4 v5 : Int} (ha1 : am_St a1) 
    (h : ((72 ≤ v5 → (v4 = 0 ∨ v4 = 1) ∧ (∀ w1, w1 = wset w a1 13 v4 → (-2147483648 ≤ ((w1 a1 12) + 1) ∧ ((w1 a1 12) + 1) ≤ 2147483647) ∧ (∀ w2, w2 = wset w1 a1 12 ((w1 a1 12) + 1) → (-2147483648 ≤ (v3 + 1) ∧ (v3 + 1) ≤ 2147483647) ∧ W_X0_goOver d 76 [some (.inr (.inr 107)), some (.inr (.inr a1)), some (.inl v2), some (.inl (v3 + 1)), none, none, none] [] w2 K))) ∧ (¬ (72 ≤ v5) → (0 ≤ v5 ∧ v5 < 72) ∧ ((¬ (w (a1 + 10) v5) = 1 → (-2147483648 ≤ (v5 + 1) ∧ (v5 + 1) ≤ 2147483647) ∧ W_X0_goOver d 97 [some (.inr (.inr 107)), some (.inr (.inr a1)), some (.inl v2), some (.inl v3), some (.inl v4), some (.inl (v5 + 1)), none] [] w K) ∧ ((w (a1 + 10) v5) = 1 → C_X3_evaluate d [.inr (.inr 109), .inr (.inr a1), .inl v5] w (fun x1 w3 => ((v4 = 0 → (0 ≤ v5 ∧ v5 < 72) ∧ (∀ w4, w4 = wset w3 (a1 + 7) v5 x1 → (0 ≤ v5 ∧ v5 < 72) ∧ (∀ w5, w5 = wset w4 (a1 + 8) v5 (w4 109 6) → (-2147483648 ≤ (v5 + 1) ∧ (v5 + 1) ≤ 2147483647) ∧ W_X0_goOver d 97 [some (.inr (.inr 107)), some (.inr (.inr a1)), some (.inl v2), some (.inl v3), some (.inl 0), some (.inl (v5 + 1)), none] [] w5 K))) ∧ (¬ v4 = 0 → C_X0_isStill d [.inr (.inr 107), .inr (.inr a1), .inl v5, .inl x1] w3 (fun x2 w6 => ((x2 = 0 → (0 ≤ v5 ∧ v5 < 72) ∧ (∀ w7, w7 = wset w6 (a1 + 7) v5 x1 → (0 ≤ v5 ∧ v5 < 72) ∧ (∀ w8, w8 = wset w7 (a1 + 8) v5 (w7 109 6) → (-2147483648 ≤ (v5 + 1) ∧ (v5 + 1) ≤ 2147483647) ∧ W_X0_goOver d 97 [some (.inr (.inr 107)), some (.inr (.inr a1)), some (.inl v2), some (.inl v3), some (.inl 0), some (.inl (v5 + 1)), none] [] w8 K))) ∧ (¬ x2 = 0 → (0 ≤ v5 ∧ v5 < 72) ∧ (∀ w9, w9 = wset w6 (a1 + 7) v5 x1 → (0 ≤ v5 ∧ v5 < 72) ∧ (∀ w10, w10 = wset w9 (a1 + 8) v5 (w9 109 6) → (-2147483648 ≤ (v5 + 1) ∧ (v5 + 1) ≤ 2147483647) ∧ W_X0_goOver d 97 [some (.inr (.inr 107)), some (.inr (.inr a1)), some (.inl v2), some (.inl v3), some (.inl 1), some (.inl (v5 + 1)), none] [] w10 K))))))))))))) :
    W_X0_goOver d 97 [some (.inr (.inr 107)), some (.inr (.inr a1)), some (.inl v2), some (.inl v3), some (.inl v4), some (.inl v5), none] [] w K := by
  refine WA.iload dX0_goOver_97 rfl ?_
  refine WA.bipush dX0_goOver_99 ⟨by decide, by decide⟩ ?_
  refine WA.icmp_ge (tgt := 180) dX0_goOver_101 (by decide) (fun hc => ?_) (fun hc => ?_)
  · have h := h.1 hc
    refine WA.aload_n dX0_goOver_180 rfl (am_St_ne ha1) ?_
    refine WA.iload dX0_goOver_181 rfl ?_
    obtain ⟨s1, h⟩ := h
    obtain ⟨w1, qw1⟩ : ∃ z, z = wset w a1 13 v4 := ⟨_, rfl⟩
    have h := h w1 qw1
    refine pfX0_64 rfl dX0_goOver_183 (am_St_obj ha1) s1 ?_
    rw [← qw1]
    refine WA.aload_n dX0_goOver_186 rfl (am_St_ne ha1) ?_
    refine WA.dup dX0_goOver_187 rfl ?_
    refine gfX0_61 rfl dX0_goOver_188 (am_St_obj ha1) ?_
    refine WA.iconst dX0_goOver_191 ⟨by decide, by decide⟩ ?_
    obtain ⟨s2, h⟩ := h
    refine WA.iadd dX0_goOver_192 s2 ?_
    obtain ⟨w2, qw2⟩ : ∃ z, z = wset w1 a1 12 ((w1 a1 12) + 1) := ⟨_, rfl⟩
    have h := h w2 qw2
    refine pfX0_61 rfl dX0_goOver_193 (am_St_obj ha1) ?_
    rw [← qw2]
    obtain ⟨s3, h⟩ := h
    refine WA.iinc (als' := [some (.inr (.inr 107)), some (.inr (.inr a1)), some (.inl v2), some (.inl (v3 + 1)), some (.inl v4), some (.inl v5), none]) dX0_goOver_196 rfl s3 rfl ?_
    refine WA.goto (tgt := 76) dX0_goOver_199 (by decide) ?_
    exact WA.sub (als' := [some (.inr (.inr 107)), some (.inr (.inr a1)), some (.inl v2), some (.inl (v3 + 1)), none, none, none]) (by simp only [am_sub, and_self]) rfl h
  · have h := h.2 hc
    refine WA.aload_n dX0_goOver_104 rfl (am_St_ne ha1) ?_
    refine gxX0_50 rfl rfl dX0_goOver_105 (am_St_obj ha1) ?_
    refine WA.iload dX0_goOver_108 rfl ?_
    obtain ⟨s4, h⟩ := h
    refine WA.iaload dX0_goOver_110 (am_St_10 ha1) s4.1 s4.2 ?_
    refine WA.iconst dX0_goOver_111 ⟨by decide, by decide⟩ ?_
    refine WA.icmp_ne (tgt := 174) dX0_goOver_112 (by decide) (fun hc => ?_) (fun hc => ?_)
    · have h := h.1 hc
      obtain ⟨s5, h⟩ := h
      refine WA.iinc (als' := [some (.inr (.inr 107)), some (.inr (.inr a1)), some (.inl v2), some (.inl v3), some (.inl v4), some (.inl (v5 + 1)), none]) dX0_goOver_174 rfl s5 rfl ?_
      refine WA.goto (tgt := 97) dX0_goOver_177 (by decide) ?_
      exact h
    · have h := h.2 hc
      refine WA.aload_n dX0_goOver_115 rfl (by decide) ?_
      refine gxX0_20 rfl rfl dX0_goOver_116 ob_107 ?_
      refine WA.aload_n dX0_goOver_119 rfl (am_St_ne ha1) ?_
      refine WA.iload dX0_goOver_120 rfl ?_
      obtain ⟨d1, hd1, h⟩ := h
      refine WA.callV2 (kc := 0) (ks := 0) (kc' := 0) (ks' := 0) dX0_goOver_122 lkX0_34 rfl rfl rfl ob_109 rfl (Nat.le_of_ble_eq_true rfl) hd1 h (fun r w3 hK => ?_)
      obtain ⟨x1, rfl, h⟩ := hK
      change WA _ _ _ _ _ _ _ _ _ _ _ [.inl x1] _ _
      refine WA.istore (als' := [some (.inr (.inr 107)), some (.inr (.inr a1)), some (.inl v2), some (.inl v3), some (.inl v4), some (.inl v5), some (.inl x1)]) dX0_goOver_125 (Nat.le_of_ble_eq_true rfl) rfl ?_
      refine WA.iload dX0_goOver_127 rfl ?_
      refine WA.if_eq (tgt := 148) dX0_goOver_129 (by decide) (fun hc => ?_) (fun hc => ?_)
      · have h := h.1 hc
        refine WA.iconst dX0_goOver_148 ⟨by decide, by decide⟩ ?_
        refine WA.istore (als' := [some (.inr (.inr 107)), some (.inr (.inr a1)), some (.inl v2), some (.inl v3), some (.inl 0), some (.inl v5), some (.inl x1)]) dX0_goOver_149 (Nat.le_of_ble_eq_true rfl) rfl ?_
        refine WA.aload_n dX0_goOver_151 rfl (am_St_ne ha1) ?_
        refine gxX0_72 rfl rfl dX0_goOver_152 (am_St_obj ha1) ?_
        refine WA.iload dX0_goOver_155 rfl ?_
        refine WA.iload dX0_goOver_157 rfl ?_
        obtain ⟨s6, h⟩ := h
        obtain ⟨w4, qw4⟩ : ∃ z, z = wset w3 (a1 + 7) v5 x1 := ⟨_, rfl⟩
        have h := h w4 qw4
        refine WA.iastore dX0_goOver_159 (am_St_7 ha1) s6.1 s6.2 ?_
        rw [← qw4]
        refine WA.aload_n dX0_goOver_160 rfl (am_St_ne ha1) ?_
        refine gxX0_55 rfl rfl dX0_goOver_161 (am_St_obj ha1) ?_
        refine WA.iload dX0_goOver_164 rfl ?_
        refine WA.aload_n dX0_goOver_166 rfl (by decide) ?_
        refine gxX0_20 rfl rfl dX0_goOver_167 ob_107 ?_
        refine gfX0_75 rfl dX0_goOver_170 ob_109 ?_
        obtain ⟨s7, h⟩ := h
        obtain ⟨w5, qw5⟩ : ∃ z, z = wset w4 (a1 + 8) v5 (w4 109 6) := ⟨_, rfl⟩
        have h := h w5 qw5
        refine WA.iastore dX0_goOver_173 (am_St_8 ha1) s7.1 s7.2 ?_
        rw [← qw5]
        obtain ⟨s8, h⟩ := h
        refine WA.iinc (als' := [some (.inr (.inr 107)), some (.inr (.inr a1)), some (.inl v2), some (.inl v3), some (.inl 0), some (.inl (v5 + 1)), some (.inl x1)]) dX0_goOver_174 rfl s8 rfl ?_
        refine WA.goto (tgt := 97) dX0_goOver_177 (by decide) ?_
        exact WA.sub (als' := [some (.inr (.inr 107)), some (.inr (.inr a1)), some (.inl v2), some (.inl v3), some (.inl 0), some (.inl (v5 + 1)), none]) (by simp only [am_sub, and_self]) rfl h
      · have h := h.2 hc
        refine WA.aload_n dX0_goOver_132 rfl (by decide) ?_
        refine WA.aload_n dX0_goOver_133 rfl (am_St_ne ha1) ?_
        refine WA.iload dX0_goOver_134 rfl ?_
        refine WA.iload dX0_goOver_136 rfl ?_
        obtain ⟨d1, hd1, h⟩ := h
        refine WA.callV3 (kc := 0) (ks := 0) (kc' := 0) (ks' := 0) dX0_goOver_138 lkX0_68 rfl rfl rfl ob_107 rfl (Nat.le_of_ble_eq_true rfl) hd1 h (fun r w6 hK => ?_)
        obtain ⟨x2, rfl, h⟩ := hK
        change WA _ _ _ _ _ _ _ _ _ _ _ [.inl x2] _ _
        refine WA.if_eq (tgt := 148) dX0_goOver_141 (by decide) (fun hc => ?_) (fun hc => ?_)
        · have h := h.1 hc
          refine WA.iconst dX0_goOver_148 ⟨by decide, by decide⟩ ?_
          refine WA.istore (als' := [some (.inr (.inr 107)), some (.inr (.inr a1)), some (.inl v2), some (.inl v3), some (.inl 0), some (.inl v5), some (.inl x1)]) dX0_goOver_149 (Nat.le_of_ble_eq_true rfl) rfl ?_
          refine WA.aload_n dX0_goOver_151 rfl (am_St_ne ha1) ?_
          refine gxX0_72 rfl rfl dX0_goOver_152 (am_St_obj ha1) ?_
          refine WA.iload dX0_goOver_155 rfl ?_
          refine WA.iload dX0_goOver_157 rfl ?_
          obtain ⟨s9, h⟩ := h
          obtain ⟨w7, qw7⟩ : ∃ z, z = wset w6 (a1 + 7) v5 x1 := ⟨_, rfl⟩
          have h := h w7 qw7
          refine WA.iastore dX0_goOver_159 (am_St_7 ha1) s9.1 s9.2 ?_
          rw [← qw7]
          refine WA.aload_n dX0_goOver_160 rfl (am_St_ne ha1) ?_
          refine gxX0_55 rfl rfl dX0_goOver_161 (am_St_obj ha1) ?_
          refine WA.iload dX0_goOver_164 rfl ?_
          refine WA.aload_n dX0_goOver_166 rfl (by decide) ?_
          refine gxX0_20 rfl rfl dX0_goOver_167 ob_107 ?_
          refine gfX0_75 rfl dX0_goOver_170 ob_109 ?_
          obtain ⟨s10, h⟩ := h
          obtain ⟨w8, qw8⟩ : ∃ z, z = wset w7 (a1 + 8) v5 (w7 109 6) := ⟨_, rfl⟩
          have h := h w8 qw8
          refine WA.iastore dX0_goOver_173 (am_St_8 ha1) s10.1 s10.2 ?_
          rw [← qw8]
          obtain ⟨s11, h⟩ := h
          refine WA.iinc (als' := [some (.inr (.inr 107)), some (.inr (.inr a1)), some (.inl v2), some (.inl v3), some (.inl 0), some (.inl (v5 + 1)), some (.inl x1)]) dX0_goOver_174 rfl s11 rfl ?_
          refine WA.goto (tgt := 97) dX0_goOver_177 (by decide) ?_
          exact WA.sub (als' := [some (.inr (.inr 107)), some (.inr (.inr a1)), some (.inl v2), some (.inl v3), some (.inl 0), some (.inl (v5 + 1)), none]) (by simp only [am_sub, and_self]) rfl h
        · have h := h.2 hc
          refine WA.iconst dX0_goOver_144 ⟨by decide, by decide⟩ ?_
          refine WA.goto (tgt := 149) dX0_goOver_145 (by decide) ?_
          refine WA.istore (als' := [some (.inr (.inr 107)), some (.inr (.inr a1)), some (.inl v2), some (.inl v3), some (.inl 1), some (.inl v5), some (.inl x1)]) dX0_goOver_149 (Nat.le_of_ble_eq_true rfl) rfl ?_
          refine WA.aload_n dX0_goOver_151 rfl (am_St_ne ha1) ?_
          refine gxX0_72 rfl rfl dX0_goOver_152 (am_St_obj ha1) ?_
          refine WA.iload dX0_goOver_155 rfl ?_
          refine WA.iload dX0_goOver_157 rfl ?_
          obtain ⟨s12, h⟩ := h
          obtain ⟨w9, qw9⟩ : ∃ z, z = wset w6 (a1 + 7) v5 x1 := ⟨_, rfl⟩
          have h := h w9 qw9
          refine WA.iastore dX0_goOver_159 (am_St_7 ha1) s12.1 s12.2 ?_
          rw [← qw9]
          refine WA.aload_n dX0_goOver_160 rfl (am_St_ne ha1) ?_
          refine gxX0_55 rfl rfl dX0_goOver_161 (am_St_obj ha1) ?_
          refine WA.iload dX0_goOver_164 rfl ?_
          refine WA.aload_n dX0_goOver_166 rfl (by decide) ?_
          refine gxX0_20 rfl rfl dX0_goOver_167 ob_107 ?_
          refine gfX0_75 rfl dX0_goOver_170 ob_109 ?_
          obtain ⟨s13, h⟩ := h
          obtain ⟨w10, qw10⟩ : ∃ z, z = wset w9 (a1 + 8) v5 (w9 109 6) := ⟨_, rfl⟩
          have h := h w10 qw10
          refine WA.iastore dX0_goOver_173 (am_St_8 ha1) s13.1 s13.2 ?_
          rw [← qw10]
          obtain ⟨s14, h⟩ := h
          refine WA.iinc (als' := [some (.inr (.inr 107)), some (.inr (.inr a1)), some (.inl v2), some (.inl v3), some (.inl 1), some (.inl (v5 + 1)), some (.inl x1)]) dX0_goOver_174 rfl s14 rfl ?_
          refine WA.goto (tgt := 97) dX0_goOver_177 (by decide) ?_
          exact WA.sub (als' := [some (.inr (.inr 107)), some (.inr (.inr a1)), some (.inl v2), some (.inl v3), some (.inl 1), some (.inl (v5 + 1)), none]) (by simp only [am_sub, and_self]) rfl h
set_option maxRecDepth 10000 in
theorem e_X0_goOver {d : Nat} {w : Wd} {K : Wd → Prop} {a1 : Int} (ha1 : am_St a1) 
    (h : W_X0_goOver d 4 [some (.inr (.inr 107)), some (.inr (.inr a1)), some (.inl 0), some (.inl 0), none, none, none] [] w K) :
    E_X0_goOver d [.inr (.inr 107), .inr (.inr a1)] w K := by
  refine EvA.of (by decide +kernel) (Nat.le_of_ble_eq_true rfl) ?_
  change W_X0_goOver d 0 [some (.inr (.inr 107)), some (.inr (.inr a1)), none, none, none, none, none] [] w K
  refine WA.iconst dX0_goOver_0 ⟨by decide, by decide⟩ ?_
  refine WA.istore_n (als' := [some (.inr (.inr 107)), some (.inr (.inr a1)), some (.inl 0), none, none, none, none]) dX0_goOver_1 (Nat.le_of_ble_eq_true rfl) rfl ?_
  refine WA.iconst dX0_goOver_2 ⟨by decide, by decide⟩ ?_
  refine WA.istore_n (als' := [some (.inr (.inr 107)), some (.inr (.inr a1)), some (.inl 0), some (.inl 0), none, none, none]) dX0_goOver_3 (Nat.le_of_ble_eq_true rfl) rfl ?_
  exact h
set_option maxRecDepth 10000 in
theorem e_X0_isStill {d : Nat} {w : Wd} {K : Int → Wd → Prop} {a1 a2 a3 : Int} (ha1 : am_St a1) 
    (h : (0 ≤ a2 ∧ a2 < 72) ∧ ((¬ (w (a1 + 7) a2) = a3 → K 0 w) ∧ ((w (a1 + 7) a2) = a3 → (0 ≤ a2 ∧ a2 < 72) ∧ ((¬ (w (a1 + 8) a2) = (w 109 6) → K 0 w) ∧ ((w (a1 + 8) a2) = (w 109 6) → K 1 w))))) :
    E_X0_isStill d [.inr (.inr 107), .inr (.inr a1), .inl a2, .inl a3] w K := by
  refine EvA.of (by decide +kernel) (Nat.le_of_ble_eq_true rfl) ?_
  change W_X0_isStill d 0 [some (.inr (.inr 107)), some (.inr (.inr a1)), some (.inl a2), some (.inl a3)] [] w K
  refine WA.aload_n dX0_isStill_0 rfl (am_St_ne ha1) ?_
  refine gxX0_72 rfl rfl dX0_isStill_1 (am_St_obj ha1) ?_
  refine WA.iload_n dX0_isStill_4 rfl ?_
  obtain ⟨s1, h⟩ := h
  refine WA.iaload dX0_isStill_5 (am_St_7 ha1) s1.1 s1.2 ?_
  refine WA.iload_n dX0_isStill_6 rfl ?_
  refine WA.icmp_ne (tgt := 30) dX0_isStill_7 (by decide) (fun hc => ?_) (fun hc => ?_)
  · have h := h.1 hc
    refine WA.iconst dX0_isStill_30 ⟨by decide, by decide⟩ ?_
    exact WA.zreturn dX0_isStill_31 (by decide) ⟨_, rfl, h⟩
  · have h := h.2 hc
    refine WA.aload_n dX0_isStill_10 rfl (am_St_ne ha1) ?_
    refine gxX0_55 rfl rfl dX0_isStill_11 (am_St_obj ha1) ?_
    refine WA.iload_n dX0_isStill_14 rfl ?_
    obtain ⟨s2, h⟩ := h
    refine WA.iaload dX0_isStill_15 (am_St_8 ha1) s2.1 s2.2 ?_
    refine WA.aload_n dX0_isStill_16 rfl (by decide) ?_
    refine gxX0_20 rfl rfl dX0_isStill_17 ob_107 ?_
    refine gfX0_75 rfl dX0_isStill_20 ob_109 ?_
    refine WA.icmp_ne (tgt := 30) dX0_isStill_23 (by decide) (fun hc => ?_) (fun hc => ?_)
    · have h := h.1 hc
      refine WA.iconst dX0_isStill_30 ⟨by decide, by decide⟩ ?_
      exact WA.zreturn dX0_isStill_31 (by decide) ⟨_, rfl, h⟩
    · have h := h.2 hc
      refine WA.iconst dX0_isStill_26 ⟨by decide, by decide⟩ ?_
      refine WA.goto (tgt := 31) dX0_isStill_27 (by decide) ?_
      exact WA.zreturn dX0_isStill_31 (by decide) ⟨_, rfl, h⟩
set_option maxRecDepth 10000 in
theorem v_X0_forget_2 {d : Nat} {w : Wd} {K : Wd → Prop} {a1 v2 : Int} (ha1 : am_St a1) 
    (h : ((72 ≤ v2 → K w) ∧ (¬ (72 ≤ v2) → (0 ≤ v2 ∧ v2 < 72) ∧ (∀ w1, w1 = wset w (a1 + 7) v2 0 → (0 ≤ v2 ∧ v2 < 72) ∧ (∀ w2, w2 = wset w1 (a1 + 8) v2 0 → (0 ≤ v2 ∧ v2 < 72) ∧ (∀ w3, w3 = wset w2 (a1 + 9) v2 0 → (0 ≤ v2 ∧ v2 < 72) ∧ (∀ w4, w4 = wset w3 (a1 + 10) v2 0 → (0 ≤ v2 ∧ v2 < 72) ∧ (∀ w5, w5 = wset w4 (a1 + 11) v2 0 → C_X5_isEmpty d [.inr (.inr a1), .inl v2] w5 (fun x1 w6 => ((x1 = 0 → (0 ≤ v2 ∧ v2 < 72) ∧ (∀ w7, w7 = wset w6 112 v2 1 → (-2147483648 ≤ (v2 + 1) ∧ (v2 + 1) ≤ 2147483647) ∧ W_X0_forget d 2 [some (.inr (.inr 107)), some (.inr (.inr a1)), some (.inl (v2 + 1))] [] w7 K)) ∧ (¬ x1 = 0 → (0 ≤ v2 ∧ v2 < 72) ∧ (∀ w8, w8 = wset w6 112 v2 0 → (-2147483648 ≤ (v2 + 1) ∧ (v2 + 1) ≤ 2147483647) ∧ W_X0_forget d 2 [some (.inr (.inr 107)), some (.inr (.inr a1)), some (.inl (v2 + 1))] [] w8 K)))))))))))) :
    W_X0_forget d 2 [some (.inr (.inr 107)), some (.inr (.inr a1)), some (.inl v2)] [] w K := by
  refine WA.iload_n dX0_forget_2 rfl ?_
  refine WA.bipush dX0_forget_3 ⟨by decide, by decide⟩ ?_
  refine WA.icmp_ge (tgt := 71) dX0_forget_5 (by decide) (fun hc => ?_) (fun hc => ?_)
  · have h := h.1 hc
    exact WA.vreturn dX0_forget_71 ⟨rfl, h⟩
  · have h := h.2 hc
    refine WA.aload_n dX0_forget_8 rfl (am_St_ne ha1) ?_
    refine gxX0_72 rfl rfl dX0_forget_9 (am_St_obj ha1) ?_
    refine WA.iload_n dX0_forget_12 rfl ?_
    refine WA.iconst dX0_forget_13 ⟨by decide, by decide⟩ ?_
    obtain ⟨s1, h⟩ := h
    obtain ⟨w1, qw1⟩ : ∃ z, z = wset w (a1 + 7) v2 0 := ⟨_, rfl⟩
    have h := h w1 qw1
    refine WA.iastore dX0_forget_14 (am_St_7 ha1) s1.1 s1.2 ?_
    rw [← qw1]
    refine WA.aload_n dX0_forget_15 rfl (am_St_ne ha1) ?_
    refine gxX0_55 rfl rfl dX0_forget_16 (am_St_obj ha1) ?_
    refine WA.iload_n dX0_forget_19 rfl ?_
    refine WA.iconst dX0_forget_20 ⟨by decide, by decide⟩ ?_
    obtain ⟨s2, h⟩ := h
    obtain ⟨w2, qw2⟩ : ∃ z, z = wset w1 (a1 + 8) v2 0 := ⟨_, rfl⟩
    have h := h w2 qw2
    refine WA.iastore dX0_forget_21 (am_St_8 ha1) s2.1 s2.2 ?_
    rw [← qw2]
    refine WA.aload_n dX0_forget_22 rfl (am_St_ne ha1) ?_
    refine gxX0_78 rfl rfl dX0_forget_23 (am_St_obj ha1) ?_
    refine WA.iload_n dX0_forget_26 rfl ?_
    refine WA.iconst dX0_forget_27 ⟨by decide, by decide⟩ ?_
    obtain ⟨s3, h⟩ := h
    obtain ⟨w3, qw3⟩ : ∃ z, z = wset w2 (a1 + 9) v2 0 := ⟨_, rfl⟩
    have h := h w3 qw3
    refine WA.iastore dX0_forget_28 (am_St_9 ha1) s3.1 s3.2 ?_
    rw [← qw3]
    refine WA.aload_n dX0_forget_29 rfl (am_St_ne ha1) ?_
    refine gxX0_50 rfl rfl dX0_forget_30 (am_St_obj ha1) ?_
    refine WA.iload_n dX0_forget_33 rfl ?_
    refine WA.iconst dX0_forget_34 ⟨by decide, by decide⟩ ?_
    obtain ⟨s4, h⟩ := h
    obtain ⟨w4, qw4⟩ : ∃ z, z = wset w3 (a1 + 10) v2 0 := ⟨_, rfl⟩
    have h := h w4 qw4
    refine WA.iastore dX0_forget_35 (am_St_10 ha1) s4.1 s4.2 ?_
    rw [← qw4]
    refine WA.aload_n dX0_forget_36 rfl (am_St_ne ha1) ?_
    refine gxX0_81 rfl rfl dX0_forget_37 (am_St_obj ha1) ?_
    refine WA.iload_n dX0_forget_40 rfl ?_
    refine WA.iconst dX0_forget_41 ⟨by decide, by decide⟩ ?_
    obtain ⟨s5, h⟩ := h
    obtain ⟨w5, qw5⟩ : ∃ z, z = wset w4 (a1 + 11) v2 0 := ⟨_, rfl⟩
    have h := h w5 qw5
    refine WA.iastore dX0_forget_42 (am_St_11 ha1) s5.1 s5.2 ?_
    rw [← qw5]
    refine WA.aload_n dX0_forget_43 rfl (by decide) ?_
    refine gxX0_20 rfl rfl dX0_forget_44 ob_107 ?_
    refine gxX0_27 rfl rfl dX0_forget_47 ob_109 ?_
    refine WA.iload_n dX0_forget_50 rfl ?_
    refine WA.aload_n dX0_forget_51 rfl (am_St_ne ha1) ?_
    refine WA.iload_n dX0_forget_52 rfl ?_
    obtain ⟨d1, hd1, h⟩ := h
    refine WA.callV1 (kc := 0) (ks := 0) (kc' := 0) (ks' := 0) dX0_forget_53 lkX0_84 rfl rfl rfl (am_St_obj ha1) rfl (Nat.le_of_ble_eq_true rfl) hd1 h (fun r w6 hK => ?_)
    obtain ⟨x1, rfl, h⟩ := hK
    change WA _ _ _ _ _ _ _ _ _ _ _ [.inl x1, .inl v2, .inr (.inr 112)] _ _
    refine WA.if_eq (tgt := 63) dX0_forget_56 (by decide) (fun hc => ?_) (fun hc => ?_)
    · have h := h.1 hc
      refine WA.iconst dX0_forget_63 ⟨by decide, by decide⟩ ?_
      obtain ⟨s6, h⟩ := h
      obtain ⟨w7, qw7⟩ : ∃ z, z = wset w6 112 v2 1 := ⟨_, rfl⟩
      have h := h w7 qw7
      refine WA.iastore dX0_forget_64 ob_112 s6.1 s6.2 ?_
      rw [← qw7]
      obtain ⟨s7, h⟩ := h
      refine WA.iinc (als' := [some (.inr (.inr 107)), some (.inr (.inr a1)), some (.inl (v2 + 1))]) dX0_forget_65 rfl s7 rfl ?_
      refine WA.goto (tgt := 2) dX0_forget_68 (by decide) ?_
      exact h
    · have h := h.2 hc
      refine WA.iconst dX0_forget_59 ⟨by decide, by decide⟩ ?_
      refine WA.goto (tgt := 64) dX0_forget_60 (by decide) ?_
      obtain ⟨s8, h⟩ := h
      obtain ⟨w8, qw8⟩ : ∃ z, z = wset w6 112 v2 0 := ⟨_, rfl⟩
      have h := h w8 qw8
      refine WA.iastore dX0_forget_64 ob_112 s8.1 s8.2 ?_
      rw [← qw8]
      obtain ⟨s9, h⟩ := h
      refine WA.iinc (als' := [some (.inr (.inr 107)), some (.inr (.inr a1)), some (.inl (v2 + 1))]) dX0_forget_65 rfl s9 rfl ?_
      refine WA.goto (tgt := 2) dX0_forget_68 (by decide) ?_
      exact h
set_option maxRecDepth 10000 in
theorem e_X0_forget {d : Nat} {w : Wd} {K : Wd → Prop} {a1 : Int} (ha1 : am_St a1) 
    (h : W_X0_forget d 2 [some (.inr (.inr 107)), some (.inr (.inr a1)), some (.inl 0)] [] w K) :
    E_X0_forget d [.inr (.inr 107), .inr (.inr a1)] w K := by
  refine EvA.of (by decide +kernel) (Nat.le_of_ble_eq_true rfl) ?_
  change W_X0_forget d 0 [some (.inr (.inr 107)), some (.inr (.inr a1)), none] [] w K
  refine WA.iconst dX0_forget_0 ⟨by decide, by decide⟩ ?_
  refine WA.istore_n (als' := [some (.inr (.inr 107)), some (.inr (.inr a1)), some (.inl 0)]) dX0_forget_1 (Nat.le_of_ble_eq_true rfl) rfl ?_
  exact h
set_option maxRecDepth 10000 in
theorem e_X0_opened {d : Nat} {w : Wd} {K : Int → Wd → Prop} {a1 a2 : Int}  
    (h : ((a1 < 72 → (0 ≤ a2 ∧ a2 < 72) ∧ (∀ w1, w1 = wset w 112 a2 2 → (0 ≤ a1 ∧ a1 < 72) ∧ (∀ w2, w2 = wset w1 108 a1 a2 → (-2147483648 ≤ (a1 + 1) ∧ (a1 + 1) ≤ 2147483647) ∧ K (a1 + 1) w2))) ∧ (¬ (a1 < 72) → K a1 w))) :
    E_X0_opened d [.inr (.inr 107), .inl a1, .inl a2] w K := by
  refine EvA.of (by decide +kernel) (Nat.le_of_ble_eq_true rfl) ?_
  change W_X0_opened d 0 [some (.inr (.inr 107)), some (.inl a1), some (.inl a2)] [] w K
  refine WA.iload_n dX0_opened_0 rfl ?_
  refine WA.bipush dX0_opened_1 ⟨by decide, by decide⟩ ?_
  refine WA.icmp_lt (tgt := 8) dX0_opened_3 (by decide) (fun hc => ?_) (fun hc => ?_)
  · have h := h.1 hc
    refine WA.aload_n dX0_opened_8 rfl (by decide) ?_
    refine gxX0_20 rfl rfl dX0_opened_9 ob_107 ?_
    refine gxX0_27 rfl rfl dX0_opened_12 ob_109 ?_
    refine WA.iload_n dX0_opened_15 rfl ?_
    refine WA.iconst dX0_opened_16 ⟨by decide, by decide⟩ ?_
    obtain ⟨s1, h⟩ := h
    obtain ⟨w1, qw1⟩ : ∃ z, z = wset w 112 a2 2 := ⟨_, rfl⟩
    have h := h w1 qw1
    refine WA.iastore dX0_opened_17 ob_112 s1.1 s1.2 ?_
    rw [← qw1]
    refine WA.aload_n dX0_opened_18 rfl (by decide) ?_
    refine gxX0_9 rfl rfl dX0_opened_19 ob_107 ?_
    refine WA.iload_n dX0_opened_22 rfl ?_
    refine WA.iload_n dX0_opened_23 rfl ?_
    obtain ⟨s2, h⟩ := h
    obtain ⟨w2, qw2⟩ : ∃ z, z = wset w1 108 a1 a2 := ⟨_, rfl⟩
    have h := h w2 qw2
    refine WA.iastore dX0_opened_24 ob_108 s2.1 s2.2 ?_
    rw [← qw2]
    refine WA.iload_n dX0_opened_25 rfl ?_
    refine WA.iconst dX0_opened_26 ⟨by decide, by decide⟩ ?_
    obtain ⟨s3, h⟩ := h
    refine WA.iadd dX0_opened_27 s3 ?_
    exact WA.ireturn dX0_opened_28 ⟨_, rfl, h⟩
  · have h := h.2 hc
    refine WA.iload_n dX0_opened_6 rfl ?_
    exact WA.ireturn dX0_opened_7 ⟨_, rfl, h⟩
set_option maxRecDepth 10000 in
theorem v_X0_learn_26 {d : Nat} {w : Wd} {K : Wd → Prop} {a1 a2 a3 v4 v5 : Int} (ha1 : am_St a1) (hd : 2 ≤ d) 
    (h : (0 ≤ a2 ∧ a2 < 72) ∧ (((w (a1 + 11) a2) ≤ v5 → (0 ≤ a2 ∧ a2 < 72) ∧ (∀ w1, w1 = wset w (a1 + 9) a2 v4 → (0 ≤ a2 ∧ a2 < 72) ∧ (∀ w2, w2 = wset w1 112 a2 0 → K w2))) ∧ (¬ ((w (a1 + 11) a2) ≤ v5) → C_X5_readOf d [.inr (.inr a1), .inl a2, .inl v5] w (fun x1 w3 => (0 ≤ x1 ∧ x1 < 72) ∧ (-2147483648 ≤ ((w3 (a1 + 9) x1) + 1) ∧ ((w3 (a1 + 9) x1) + 1) ≤ 2147483647) ∧ (-2147483648 ≤ (v5 + 1) ∧ (v5 + 1) ≤ 2147483647) ∧ W_X0_learn d 26 [some (.inr (.inr 107)), some (.inr (.inr a1)), some (.inl a2), some (.inl a3), some (.inl (max v4 ((w3 (a1 + 9) x1) + 1))), some (.inl (v5 + 1))] [] w3 K)))) :
    W_X0_learn d 26 [some (.inr (.inr 107)), some (.inr (.inr a1)), some (.inl a2), some (.inl a3), some (.inl v4), some (.inl v5)] [] w K := by
  refine WA.iload dX0_learn_26 rfl ?_
  refine WA.aload_n dX0_learn_28 rfl (am_St_ne ha1) ?_
  refine gxX0_81 rfl rfl dX0_learn_29 (am_St_obj ha1) ?_
  refine WA.iload_n dX0_learn_32 rfl ?_
  obtain ⟨s1, h⟩ := h
  refine WA.iaload dX0_learn_33 (am_St_11 ha1) s1.1 s1.2 ?_
  refine WA.icmp_ge (tgt := 64) dX0_learn_34 (by decide) (fun hc => ?_) (fun hc => ?_)
  · have h := h.1 hc
    refine WA.aload_n dX0_learn_64 rfl (am_St_ne ha1) ?_
    refine gxX0_78 rfl rfl dX0_learn_65 (am_St_obj ha1) ?_
    refine WA.iload_n dX0_learn_68 rfl ?_
    refine WA.iload dX0_learn_69 rfl ?_
    obtain ⟨s2, h⟩ := h
    obtain ⟨w1, qw1⟩ : ∃ z, z = wset w (a1 + 9) a2 v4 := ⟨_, rfl⟩
    have h := h w1 qw1
    refine WA.iastore dX0_learn_71 (am_St_9 ha1) s2.1 s2.2 ?_
    rw [← qw1]
    refine WA.aload_n dX0_learn_72 rfl (by decide) ?_
    refine gxX0_20 rfl rfl dX0_learn_73 ob_107 ?_
    refine gxX0_27 rfl rfl dX0_learn_76 ob_109 ?_
    refine WA.iload_n dX0_learn_79 rfl ?_
    refine WA.iconst dX0_learn_80 ⟨by decide, by decide⟩ ?_
    obtain ⟨s3, h⟩ := h
    obtain ⟨w2, qw2⟩ : ∃ z, z = wset w1 112 a2 0 := ⟨_, rfl⟩
    have h := h w2 qw2
    refine WA.iastore dX0_learn_81 ob_112 s3.1 s3.2 ?_
    rw [← qw2]
    exact WA.vreturn dX0_learn_82 ⟨rfl, h⟩
  · have h := h.2 hc
    refine WA.iload dX0_learn_37 rfl ?_
    refine WA.aload_n dX0_learn_39 rfl (am_St_ne ha1) ?_
    refine gxX0_78 rfl rfl dX0_learn_40 (am_St_obj ha1) ?_
    refine WA.aload_n dX0_learn_43 rfl (am_St_ne ha1) ?_
    refine WA.iload_n dX0_learn_44 rfl ?_
    refine WA.iload dX0_learn_45 rfl ?_
    obtain ⟨d1, hd1, h⟩ := h
    refine WA.callV2 (kc := 0) (ks := 0) (kc' := 0) (ks' := 0) dX0_learn_47 lkX0_88 rfl rfl rfl (am_St_obj ha1) rfl (Nat.le_of_ble_eq_true rfl) hd1 h (fun r w3 hK => ?_)
    obtain ⟨x1, rfl, h⟩ := hK
    change WA _ _ _ _ _ _ _ _ _ _ _ [.inl x1, .inr (.inr (a1 + 9)), .inl v4] _ _
    obtain ⟨s4, h⟩ := h
    refine WA.iaload dX0_learn_50 (am_St_9 ha1) s4.1 s4.2 ?_
    refine WA.iconst dX0_learn_51 ⟨by decide, by decide⟩ ?_
    obtain ⟨s5, h⟩ := h
    refine WA.iadd dX0_learn_52 s5 ?_
    refine WA.mathmax dX0_learn_53 (am_mem 630 (by decide +kernel) rfl) (am_mem 412 (by decide +kernel) rfl) (am_mem 15 (by decide +kernel) rfl) (am_mem 413 (by decide +kernel) rfl) (Nat.le_trans (by decide) hd) (Nat.le_of_ble_eq_true rfl) ?_
    refine WA.istore (als' := [some (.inr (.inr 107)), some (.inr (.inr a1)), some (.inl a2), some (.inl a3), some (.inl (max v4 ((w3 (a1 + 9) x1) + 1))), some (.inl v5)]) dX0_learn_56 (Nat.le_of_ble_eq_true rfl) rfl ?_
    obtain ⟨s6, h⟩ := h
    refine WA.iinc (als' := [some (.inr (.inr 107)), some (.inr (.inr a1)), some (.inl a2), some (.inl a3), some (.inl (max v4 ((w3 (a1 + 9) x1) + 1))), some (.inl (v5 + 1))]) dX0_learn_58 rfl s6 rfl ?_
    refine WA.goto (tgt := 26) dX0_learn_61 (by decide) ?_
    exact h
set_option maxRecDepth 10000 in
theorem e_X0_learn {d : Nat} {w : Wd} {K : Wd → Prop} {a1 a2 a3 : Int} (ha1 : am_St a1) 
    (h : (0 ≤ a2 ∧ a2 < 72) ∧ (∀ w1, w1 = wset w (a1 + 7) a2 a3 → (0 ≤ a2 ∧ a2 < 72) ∧ (∀ w2, w2 = wset w1 (a1 + 8) a2 (w1 109 6) → W_X0_learn d 26 [some (.inr (.inr 107)), some (.inr (.inr a1)), some (.inl a2), some (.inl a3), some (.inl 0), some (.inl 0)] [] w2 K))) :
    E_X0_learn d [.inr (.inr 107), .inr (.inr a1), .inl a2, .inl a3] w K := by
  refine EvA.of (by decide +kernel) (Nat.le_of_ble_eq_true rfl) ?_
  change W_X0_learn d 0 [some (.inr (.inr 107)), some (.inr (.inr a1)), some (.inl a2), some (.inl a3), none, none] [] w K
  refine WA.aload_n dX0_learn_0 rfl (am_St_ne ha1) ?_
  refine gxX0_72 rfl rfl dX0_learn_1 (am_St_obj ha1) ?_
  refine WA.iload_n dX0_learn_4 rfl ?_
  refine WA.iload_n dX0_learn_5 rfl ?_
  obtain ⟨s1, h⟩ := h
  obtain ⟨w1, qw1⟩ : ∃ z, z = wset w (a1 + 7) a2 a3 := ⟨_, rfl⟩
  have h := h w1 qw1
  refine WA.iastore dX0_learn_6 (am_St_7 ha1) s1.1 s1.2 ?_
  rw [← qw1]
  refine WA.aload_n dX0_learn_7 rfl (am_St_ne ha1) ?_
  refine gxX0_55 rfl rfl dX0_learn_8 (am_St_obj ha1) ?_
  refine WA.iload_n dX0_learn_11 rfl ?_
  refine WA.aload_n dX0_learn_12 rfl (by decide) ?_
  refine gxX0_20 rfl rfl dX0_learn_13 ob_107 ?_
  refine gfX0_75 rfl dX0_learn_16 ob_109 ?_
  obtain ⟨s2, h⟩ := h
  obtain ⟨w2, qw2⟩ : ∃ z, z = wset w1 (a1 + 8) a2 (w1 109 6) := ⟨_, rfl⟩
  have h := h w2 qw2
  refine WA.iastore dX0_learn_19 (am_St_8 ha1) s2.1 s2.2 ?_
  rw [← qw2]
  refine WA.iconst dX0_learn_20 ⟨by decide, by decide⟩ ?_
  refine WA.istore (als' := [some (.inr (.inr 107)), some (.inr (.inr a1)), some (.inl a2), some (.inl a3), some (.inl 0), none]) dX0_learn_21 (Nat.le_of_ble_eq_true rfl) rfl ?_
  refine WA.iconst dX0_learn_23 ⟨by decide, by decide⟩ ?_
  refine WA.istore (als' := [some (.inr (.inr 107)), some (.inr (.inr a1)), some (.inl a2), some (.inl a3), some (.inl 0), some (.inl 0)]) dX0_learn_24 (Nat.le_of_ble_eq_true rfl) rfl ?_
  exact h
set_option maxRecDepth 10000 in
theorem v_X0_markCycle_2 {d : Nat} {w : Wd} {K : Wd → Prop} {a1 a2 v3 : Int} (ha1 : am_St a1) 
    (h : ((a2 ≤ v3 → K w) ∧ (¬ (a2 ≤ v3) → (0 ≤ v3 ∧ v3 < 72) ∧ (0 ≤ (w 108 v3) ∧ (w 108 v3) < 72) ∧ (∀ w1, w1 = wset w (a1 + 10) (w 108 v3) 1 → (-2147483648 ≤ (v3 + 1) ∧ (v3 + 1) ≤ 2147483647) ∧ W_X0_markCycle d 2 [some (.inr (.inr 107)), some (.inr (.inr a1)), some (.inl a2), some (.inl (v3 + 1))] [] w1 K)))) :
    W_X0_markCycle d 2 [some (.inr (.inr 107)), some (.inr (.inr a1)), some (.inl a2), some (.inl v3)] [] w K := by
  refine WA.iload_n dX0_markCycle_2 rfl ?_
  refine WA.iload_n dX0_markCycle_3 rfl ?_
  refine WA.icmp_ge (tgt := 25) dX0_markCycle_4 (by decide) (fun hc => ?_) (fun hc => ?_)
  · have h := h.1 hc
    exact WA.vreturn dX0_markCycle_25 ⟨rfl, h⟩
  · have h := h.2 hc
    refine WA.aload_n dX0_markCycle_7 rfl (am_St_ne ha1) ?_
    refine gxX0_50 rfl rfl dX0_markCycle_8 (am_St_obj ha1) ?_
    refine WA.aload_n dX0_markCycle_11 rfl (by decide) ?_
    refine gxX0_9 rfl rfl dX0_markCycle_12 ob_107 ?_
    refine WA.iload_n dX0_markCycle_15 rfl ?_
    obtain ⟨s1, h⟩ := h
    refine WA.iaload dX0_markCycle_16 ob_108 s1.1 s1.2 ?_
    refine WA.iconst dX0_markCycle_17 ⟨by decide, by decide⟩ ?_
    obtain ⟨s2, h⟩ := h
    obtain ⟨w1, qw1⟩ : ∃ z, z = wset w (a1 + 10) (w 108 v3) 1 := ⟨_, rfl⟩
    have h := h w1 qw1
    refine WA.iastore dX0_markCycle_18 (am_St_10 ha1) s2.1 s2.2 ?_
    rw [← qw1]
    obtain ⟨s3, h⟩ := h
    refine WA.iinc (als' := [some (.inr (.inr 107)), some (.inr (.inr a1)), some (.inl a2), some (.inl (v3 + 1))]) dX0_markCycle_19 rfl s3 rfl ?_
    refine WA.goto (tgt := 2) dX0_markCycle_22 (by decide) ?_
    exact h
set_option maxRecDepth 10000 in
theorem e_X0_markCycle {d : Nat} {w : Wd} {K : Wd → Prop} {a1 a2 : Int} (ha1 : am_St a1) 
    (h : W_X0_markCycle d 2 [some (.inr (.inr 107)), some (.inr (.inr a1)), some (.inl a2), some (.inl 0)] [] w K) :
    E_X0_markCycle d [.inr (.inr 107), .inr (.inr a1), .inl a2] w K := by
  refine EvA.of (by decide +kernel) (Nat.le_of_ble_eq_true rfl) ?_
  change W_X0_markCycle d 0 [some (.inr (.inr 107)), some (.inr (.inr a1)), some (.inl a2), none] [] w K
  refine WA.iconst dX0_markCycle_0 ⟨by decide, by decide⟩ ?_
  refine WA.istore_n (als' := [some (.inr (.inr 107)), some (.inr (.inr a1)), some (.inl a2), some (.inl 0)]) dX0_markCycle_1 (Nat.le_of_ble_eq_true rfl) rfl ?_
  exact h
set_option maxRecDepth 10000 in
theorem e_X3_evaluate {d : Nat} {w : Wd} {K : Int → Wd → Prop} {a1 a2 : Int} (ha1 : am_St a1) 
    (h : (∀ w1, w1 = wset w 109 4 a1 → (∀ w2, w2 = wset w1 109 5 a2 → (∀ w3, w3 = wset w2 109 6 0 → (∀ w4, w4 = wset w3 109 7 (-1) → (-2147483648 ≤ ((w4 109 3) + 1) ∧ ((w4 109 3) + 1) ≤ 2147483647) ∧ (∀ w5, w5 = wset w4 109 3 ((w4 109 3) + 1) → (0 ≤ a2 ∧ a2 < 72) ∧ (∀ w6, w6 = wset w5 (a1 + 11) a2 0 → (-2147483648 ≤ (a2 * 30) ∧ (a2 * 30) ≤ 2147483647) ∧ (0 ≤ a2 ∧ a2 < 72) ∧ C_X2_enter d [.inr (.inr 110), .inr (.inr ((a1 + 1) + 1)), .inl (a2 * 30), .inl (w6 ((a1 + 1) + 2) a2)] w6 (fun w7 => C_X3_formula d [.inr (.inr 109), .inl 0] w7 (fun x1 w8 => ((¬ (w8 109 6) = 0 → K 0 w8) ∧ ((w8 109 6) = 0 → (-2147483648 ≤ x1 ∧ x1 ≤ 2147483647) ∧ K x1 w8))))))))))) :
    E_X3_evaluate d [.inr (.inr 109), .inr (.inr a1), .inl a2] w K := by
  refine EvA.of (by decide +kernel) (Nat.le_of_ble_eq_true rfl) ?_
  change W_X3_evaluate d 0 [some (.inr (.inr 109)), some (.inr (.inr a1)), some (.inl a2), none, none] [] w K
  refine WA.aload_n dX3_evaluate_0 rfl (by decide) ?_
  refine WA.aload_n dX3_evaluate_1 rfl (am_St_ne ha1) ?_
  obtain ⟨w1, qw1⟩ : ∃ z, z = wset w 109 4 a1 := ⟨_, rfl⟩
  have h := h w1 qw1
  refine pfX3_25 rfl dX3_evaluate_2 ob_109 ?_
  rw [← qw1]
  refine WA.aload_n dX3_evaluate_5 rfl (by decide) ?_
  refine WA.iload_n dX3_evaluate_6 rfl ?_
  obtain ⟨w2, qw2⟩ : ∃ z, z = wset w1 109 5 a2 := ⟨_, rfl⟩
  have h := h w2 qw2
  refine pfX3_29 rfl dX3_evaluate_7 ob_109 ?_
  rw [← qw2]
  refine WA.aload_n dX3_evaluate_10 rfl (by decide) ?_
  refine WA.iconst dX3_evaluate_11 ⟨by decide, by decide⟩ ?_
  obtain ⟨w3, qw3⟩ : ∃ z, z = wset w2 109 6 0 := ⟨_, rfl⟩
  have h := h w3 qw3
  refine pfX3_33 rfl dX3_evaluate_12 ob_109 ?_
  rw [← qw3]
  refine WA.aload_n dX3_evaluate_15 rfl (by decide) ?_
  refine WA.iconst dX3_evaluate_16 ⟨by decide, by decide⟩ ?_
  obtain ⟨w4, qw4⟩ : ∃ z, z = wset w3 109 7 (-1) := ⟨_, rfl⟩
  have h := h w4 qw4
  refine pfX3_36 rfl dX3_evaluate_17 ob_109 ?_
  rw [← qw4]
  refine WA.aload_n dX3_evaluate_20 rfl (by decide) ?_
  refine WA.dup dX3_evaluate_21 rfl ?_
  refine gfX3_39 rfl dX3_evaluate_22 ob_109 ?_
  refine WA.iconst dX3_evaluate_25 ⟨by decide, by decide⟩ ?_
  obtain ⟨s1, h⟩ := h
  refine WA.iadd dX3_evaluate_26 s1 ?_
  obtain ⟨w5, qw5⟩ : ∃ z, z = wset w4 109 3 ((w4 109 3) + 1) := ⟨_, rfl⟩
  have h := h w5 qw5
  refine pfX3_39 rfl dX3_evaluate_27 ob_109 ?_
  rw [← qw5]
  refine WA.aload_n dX3_evaluate_30 rfl (am_St_ne ha1) ?_
  refine gxX3_42 rfl rfl dX3_evaluate_31 (am_St_obj ha1) ?_
  refine WA.iload_n dX3_evaluate_34 rfl ?_
  refine WA.iconst dX3_evaluate_35 ⟨by decide, by decide⟩ ?_
  obtain ⟨s2, h⟩ := h
  obtain ⟨w6, qw6⟩ : ∃ z, z = wset w5 (a1 + 11) a2 0 := ⟨_, rfl⟩
  have h := h w6 qw6
  refine WA.iastore dX3_evaluate_36 (am_St_11 ha1) s2.1 s2.2 ?_
  rw [← qw6]
  refine WA.aload_n dX3_evaluate_37 rfl (by decide) ?_
  refine gxX3_12 rfl rfl dX3_evaluate_38 ob_109 ?_
  refine WA.aload_n dX3_evaluate_41 rfl (am_St_ne ha1) ?_
  refine gxX3_47 rfl rfl dX3_evaluate_42 (am_St_obj ha1) ?_
  refine gxX3_51 rfl rfl dX3_evaluate_45 (am_Tx_obj (am_St_1 ha1)) ?_
  refine WA.iload_n dX3_evaluate_48 rfl ?_
  refine WA.bipush dX3_evaluate_49 ⟨by decide, by decide⟩ ?_
  obtain ⟨s3, h⟩ := h
  refine WA.imul dX3_evaluate_51 s3 ?_
  refine WA.aload_n dX3_evaluate_52 rfl (am_St_ne ha1) ?_
  refine gxX3_47 rfl rfl dX3_evaluate_53 (am_St_obj ha1) ?_
  refine gxX3_56 rfl rfl dX3_evaluate_56 (am_Tx_obj (am_St_1 ha1)) ?_
  refine WA.iload_n dX3_evaluate_59 rfl ?_
  obtain ⟨s4, h⟩ := h
  refine WA.iaload dX3_evaluate_60 (am_Tx_2 (am_St_1 ha1)) s4.1 s4.2 ?_
  obtain ⟨d1, hd1, h⟩ := h
  refine WA.callV3 (kc := 0) (ks := 0) (kc' := 0) (ks' := 0) dX3_evaluate_61 lkX3_59 rfl rfl rfl ob_110 rfl (Nat.le_of_ble_eq_true rfl) hd1 h (fun r w7 hK => ?_)
  obtain ⟨rfl, h⟩ := hK
  change WA _ _ _ _ _ _ _ _ _ _ _ [] _ _
  refine WA.aload_n dX3_evaluate_64 rfl (by decide) ?_
  refine WA.iconst dX3_evaluate_65 ⟨by decide, by decide⟩ ?_
  obtain ⟨d1, hd1, h⟩ := h
  refine WA.callV1 (kc := 0) (ks := 0) (kc' := 0) (ks' := 0) dX3_evaluate_66 lkX3_63 rfl rfl rfl ob_109 rfl (Nat.le_of_ble_eq_true rfl) hd1 h (fun r w8 hK => ?_)
  obtain ⟨x1, rfl, h⟩ := hK
  change WA _ _ _ _ _ _ _ _ _ _ _ [.inr (.inl x1)] _ _
  refine WA.lstore_n (als' := [some (.inr (.inr 109)), some (.inr (.inr a1)), some (.inl a2), some (.inr (.inl x1)), none]) dX3_evaluate_69 (Nat.le_of_ble_eq_true rfl) rfl ?_
  refine WA.aload_n dX3_evaluate_70 rfl (by decide) ?_
  refine gfX3_33 rfl dX3_evaluate_71 ob_109 ?_
  refine WA.if_ne (tgt := 82) dX3_evaluate_74 (by decide) (fun hc => ?_) (fun hc => ?_)
  · have h := h.1 hc
    refine WA.iconst dX3_evaluate_82 ⟨by decide, by decide⟩ ?_
    exact WA.ireturn dX3_evaluate_83 ⟨_, rfl, h⟩
  · have h := h.2 hc
    refine WA.lload_n dX3_evaluate_77 rfl ?_
    obtain ⟨s5, h⟩ := h
    refine WA.l2i dX3_evaluate_78 s5 ?_
    refine WA.goto (tgt := 83) dX3_evaluate_79 (by decide) ?_
    exact WA.ireturn dX3_evaluate_83 ⟨_, rfl, h⟩
set_option maxRecDepth 10000 in
theorem v_X3_formula_9 {d : Nat} {w : Wd} {K : Int → Wd → Prop} {a1 v2 v4 : Int}  
    (h : ((30 ≤ v4 → K v2 w) ∧ (¬ (30 ≤ v4) → ((¬ (w 109 6) = 0 → K v2 w) ∧ ((w 109 6) = 0 → C_X2_pass d [.inr (.inr 110), .inl 43] w (fun x1 w1 => ((x1 = 0 → C_X2_pass d [.inr (.inr 110), .inl 45] w1 (fun x2 w2 => ((x2 = 0 → K v2 w2) ∧ (¬ x2 = 0 → C_X3_product d [.inr (.inr 109), .inl a1] w2 (fun x3 w3 => (-9223372036854775808 ≤ (v2 - x3) ∧ (v2 - x3) ≤ 9223372036854775807) ∧ C_X3_bounded d [.inr (.inr 109), .inr (.inl (v2 - x3))] w3 (fun x4 w4 => (-2147483648 ≤ (v4 + 1) ∧ (v4 + 1) ≤ 2147483647) ∧ W_X3_formula d 9 [some (.inr (.inr 109)), some (.inl a1), some (.inr (.inl x4)), none, some (.inl (v4 + 1))] [] w4 K)))))) ∧ (¬ x1 = 0 → C_X3_product d [.inr (.inr 109), .inl a1] w1 (fun x5 w5 => (-9223372036854775808 ≤ (v2 + x5) ∧ (v2 + x5) ≤ 9223372036854775807) ∧ C_X3_bounded d [.inr (.inr 109), .inr (.inl (v2 + x5))] w5 (fun x6 w6 => (-2147483648 ≤ (v4 + 1) ∧ (v4 + 1) ≤ 2147483647) ∧ W_X3_formula d 9 [some (.inr (.inr 109)), some (.inl a1), some (.inr (.inl x6)), none, some (.inl (v4 + 1))] [] w6 K)))))))))) :
    W_X3_formula d 9 [some (.inr (.inr 109)), some (.inl a1), some (.inr (.inl v2)), none, some (.inl v4)] [] w K := by
  refine WA.iload dX3_formula_9 rfl ?_
  refine WA.bipush dX3_formula_11 ⟨by decide, by decide⟩ ?_
  refine WA.icmp_ge (tgt := 85) dX3_formula_13 (by decide) (fun hc => ?_) (fun hc => ?_)
  · have h := h.1 hc
    refine WA.lload_n dX3_formula_85 rfl ?_
    exact WA.lreturn dX3_formula_86 ⟨_, rfl, h⟩
  · have h := h.2 hc
    refine WA.aload_n dX3_formula_16 rfl (by decide) ?_
    refine gfX3_33 rfl dX3_formula_17 ob_109 ?_
    refine WA.if_ne (tgt := 85) dX3_formula_20 (by decide) (fun hc => ?_) (fun hc => ?_)
    · have h := h.1 hc
      refine WA.lload_n dX3_formula_85 rfl ?_
      exact WA.lreturn dX3_formula_86 ⟨_, rfl, h⟩
    · have h := h.2 hc
      refine WA.aload_n dX3_formula_23 rfl (by decide) ?_
      refine gxX3_12 rfl rfl dX3_formula_24 ob_109 ?_
      refine WA.bipush dX3_formula_27 ⟨by decide, by decide⟩ ?_
      obtain ⟨d1, hd1, h⟩ := h
      refine WA.callV1 (kc := 0) (ks := 0) (kc' := 0) (ks' := 0) dX3_formula_29 lkX3_70 rfl rfl rfl ob_110 rfl (Nat.le_of_ble_eq_true rfl) hd1 h (fun r w1 hK => ?_)
      obtain ⟨x1, rfl, h⟩ := hK
      change WA _ _ _ _ _ _ _ _ _ _ _ [.inl x1] _ _
      refine WA.if_eq (tgt := 50) dX3_formula_32 (by decide) (fun hc => ?_) (fun hc => ?_)
      · have h := h.1 hc
        refine WA.aload_n dX3_formula_50 rfl (by decide) ?_
        refine gxX3_12 rfl rfl dX3_formula_51 ob_109 ?_
        refine WA.bipush dX3_formula_54 ⟨by decide, by decide⟩ ?_
        obtain ⟨d1, hd1, h⟩ := h
        refine WA.callV1 (kc := 0) (ks := 0) (kc' := 0) (ks' := 0) dX3_formula_56 lkX3_70 rfl rfl rfl ob_110 rfl (Nat.le_of_ble_eq_true rfl) hd1 h (fun r w2 hK => ?_)
        obtain ⟨x2, rfl, h⟩ := hK
        change WA _ _ _ _ _ _ _ _ _ _ _ [.inl x2] _ _
        refine WA.if_eq (tgt := 77) dX3_formula_59 (by decide) (fun hc => ?_) (fun hc => ?_)
        · have h := h.1 hc
          refine WA.lload_n dX3_formula_77 rfl ?_
          exact WA.lreturn dX3_formula_78 ⟨_, rfl, h⟩
        · have h := h.2 hc
          refine WA.aload_n dX3_formula_62 rfl (by decide) ?_
          refine WA.lload_n dX3_formula_63 rfl ?_
          refine WA.aload_n dX3_formula_64 rfl (by decide) ?_
          refine WA.iload_n dX3_formula_65 rfl ?_
          obtain ⟨d1, hd1, h⟩ := h
          refine WA.callV1 (kc := 0) (ks := 0) (kc' := 0) (ks' := 0) dX3_formula_66 lkX3_67 rfl rfl rfl ob_109 rfl (Nat.le_of_ble_eq_true rfl) hd1 h (fun r w3 hK => ?_)
          obtain ⟨x3, rfl, h⟩ := hK
          change WA _ _ _ _ _ _ _ _ _ _ _ [.inr (.inl x3), .inr (.inl v2), .inr (.inr 109)] _ _
          obtain ⟨s1, h⟩ := h
          refine WA.lsub dX3_formula_69 s1 ?_
          obtain ⟨d1, hd1, h⟩ := h
          refine WA.callV1 (kc := 0) (ks := 0) (kc' := 0) (ks' := 0) dX3_formula_70 lkX3_74 rfl rfl rfl ob_109 rfl (Nat.le_of_ble_eq_true rfl) hd1 h (fun r w4 hK => ?_)
          obtain ⟨x4, rfl, h⟩ := hK
          change WA _ _ _ _ _ _ _ _ _ _ _ [.inr (.inl x4)] _ _
          refine WA.lstore_n (als' := [some (.inr (.inr 109)), some (.inl a1), some (.inr (.inl x4)), none, some (.inl v4)]) dX3_formula_73 (Nat.le_of_ble_eq_true rfl) rfl ?_
          refine WA.goto (tgt := 79) dX3_formula_74 (by decide) ?_
          obtain ⟨s2, h⟩ := h
          refine WA.iinc (als' := [some (.inr (.inr 109)), some (.inl a1), some (.inr (.inl x4)), none, some (.inl (v4 + 1))]) dX3_formula_79 rfl s2 rfl ?_
          refine WA.goto (tgt := 9) dX3_formula_82 (by decide) ?_
          exact h
      · have h := h.2 hc
        refine WA.aload_n dX3_formula_35 rfl (by decide) ?_
        refine WA.lload_n dX3_formula_36 rfl ?_
        refine WA.aload_n dX3_formula_37 rfl (by decide) ?_
        refine WA.iload_n dX3_formula_38 rfl ?_
        obtain ⟨d1, hd1, h⟩ := h
        refine WA.callV1 (kc := 0) (ks := 0) (kc' := 0) (ks' := 0) dX3_formula_39 lkX3_67 rfl rfl rfl ob_109 rfl (Nat.le_of_ble_eq_true rfl) hd1 h (fun r w5 hK => ?_)
        obtain ⟨x5, rfl, h⟩ := hK
        change WA _ _ _ _ _ _ _ _ _ _ _ [.inr (.inl x5), .inr (.inl v2), .inr (.inr 109)] _ _
        obtain ⟨s3, h⟩ := h
        refine WA.ladd dX3_formula_42 s3 ?_
        obtain ⟨d1, hd1, h⟩ := h
        refine WA.callV1 (kc := 0) (ks := 0) (kc' := 0) (ks' := 0) dX3_formula_43 lkX3_74 rfl rfl rfl ob_109 rfl (Nat.le_of_ble_eq_true rfl) hd1 h (fun r w6 hK => ?_)
        obtain ⟨x6, rfl, h⟩ := hK
        change WA _ _ _ _ _ _ _ _ _ _ _ [.inr (.inl x6)] _ _
        refine WA.lstore_n (als' := [some (.inr (.inr 109)), some (.inl a1), some (.inr (.inl x6)), none, some (.inl v4)]) dX3_formula_46 (Nat.le_of_ble_eq_true rfl) rfl ?_
        refine WA.goto (tgt := 79) dX3_formula_47 (by decide) ?_
        obtain ⟨s4, h⟩ := h
        refine WA.iinc (als' := [some (.inr (.inr 109)), some (.inl a1), some (.inr (.inl x6)), none, some (.inl (v4 + 1))]) dX3_formula_79 rfl s4 rfl ?_
        refine WA.goto (tgt := 9) dX3_formula_82 (by decide) ?_
        exact h
set_option maxRecDepth 10000 in
theorem e_X3_formula {d : Nat} {w : Wd} {K : Int → Wd → Prop} {a1 : Int}  
    (h : C_X3_product d [.inr (.inr 109), .inl a1] w (fun x1 w1 => W_X3_formula d 9 [some (.inr (.inr 109)), some (.inl a1), some (.inr (.inl x1)), none, some (.inl 0)] [] w1 K)) :
    E_X3_formula d [.inr (.inr 109), .inl a1] w K := by
  refine EvA.of (by decide +kernel) (Nat.le_of_ble_eq_true rfl) ?_
  change W_X3_formula d 0 [some (.inr (.inr 109)), some (.inl a1), none, none, none] [] w K
  refine WA.aload_n dX3_formula_0 rfl (by decide) ?_
  refine WA.iload_n dX3_formula_1 rfl ?_
  obtain ⟨d1, hd1, h⟩ := h
  refine WA.callV1 (kc := 0) (ks := 0) (kc' := 0) (ks' := 0) dX3_formula_2 lkX3_67 rfl rfl rfl ob_109 rfl (Nat.le_of_ble_eq_true rfl) hd1 h (fun r w1 hK => ?_)
  obtain ⟨x1, rfl, h⟩ := hK
  change WA _ _ _ _ _ _ _ _ _ _ _ [.inr (.inl x1)] _ _
  refine WA.lstore_n (als' := [some (.inr (.inr 109)), some (.inl a1), some (.inr (.inl x1)), none, none]) dX3_formula_5 (Nat.le_of_ble_eq_true rfl) rfl ?_
  refine WA.iconst dX3_formula_6 ⟨by decide, by decide⟩ ?_
  refine WA.istore (als' := [some (.inr (.inr 109)), some (.inl a1), some (.inr (.inl x1)), none, some (.inl 0)]) dX3_formula_7 (Nat.le_of_ble_eq_true rfl) rfl ?_
  exact h
set_option maxRecDepth 10000 in
theorem v_X3_product_9 {d : Nat} {w : Wd} {K : Int → Wd → Prop} {a1 v2 v4 : Int}  
    (h : ((30 ≤ v4 → K v2 w) ∧ (¬ (30 ≤ v4) → ((¬ (w 109 6) = 0 → K v2 w) ∧ ((w 109 6) = 0 → C_X2_pass d [.inr (.inr 110), .inl 42] w (fun x1 w1 => ((¬ x1 = 0 → C_X3_factor d [.inr (.inr 109), .inl a1] w1 (fun x2 w2 => (-9223372036854775808 ≤ (v2 * x2) ∧ (v2 * x2) ≤ 9223372036854775807) ∧ C_X3_bounded d [.inr (.inr 109), .inr (.inl (v2 * x2))] w2 (fun x3 w3 => (-2147483648 ≤ (v4 + 1) ∧ (v4 + 1) ≤ 2147483647) ∧ W_X3_product d 9 [some (.inr (.inr 109)), some (.inl a1), some (.inr (.inl x3)), none, some (.inl (v4 + 1))] [] w3 K))) ∧ (x1 = 0 → K v2 w1)))))))) :
    W_X3_product d 9 [some (.inr (.inr 109)), some (.inl a1), some (.inr (.inl v2)), none, some (.inl v4)] [] w K := by
  refine WA.iload dX3_product_9 rfl ?_
  refine WA.bipush dX3_product_11 ⟨by decide, by decide⟩ ?_
  refine WA.icmp_ge (tgt := 55) dX3_product_13 (by decide) (fun hc => ?_) (fun hc => ?_)
  · have h := h.1 hc
    refine WA.lload_n dX3_product_55 rfl ?_
    exact WA.lreturn dX3_product_56 ⟨_, rfl, h⟩
  · have h := h.2 hc
    refine WA.aload_n dX3_product_16 rfl (by decide) ?_
    refine gfX3_33 rfl dX3_product_17 ob_109 ?_
    refine WA.if_ne (tgt := 55) dX3_product_20 (by decide) (fun hc => ?_) (fun hc => ?_)
    · have h := h.1 hc
      refine WA.lload_n dX3_product_55 rfl ?_
      exact WA.lreturn dX3_product_56 ⟨_, rfl, h⟩
    · have h := h.2 hc
      refine WA.aload_n dX3_product_23 rfl (by decide) ?_
      refine gxX3_12 rfl rfl dX3_product_24 ob_109 ?_
      refine WA.bipush dX3_product_27 ⟨by decide, by decide⟩ ?_
      obtain ⟨d1, hd1, h⟩ := h
      refine WA.callV1 (kc := 0) (ks := 0) (kc' := 0) (ks' := 0) dX3_product_29 lkX3_70 rfl rfl rfl ob_110 rfl (Nat.le_of_ble_eq_true rfl) hd1 h (fun r w1 hK => ?_)
      obtain ⟨x1, rfl, h⟩ := hK
      change WA _ _ _ _ _ _ _ _ _ _ _ [.inl x1] _ _
      refine WA.if_ne (tgt := 37) dX3_product_32 (by decide) (fun hc => ?_) (fun hc => ?_)
      · have h := h.1 hc
        refine WA.aload_n dX3_product_37 rfl (by decide) ?_
        refine WA.lload_n dX3_product_38 rfl ?_
        refine WA.aload_n dX3_product_39 rfl (by decide) ?_
        refine WA.iload_n dX3_product_40 rfl ?_
        obtain ⟨d1, hd1, h⟩ := h
        refine WA.callV1 (kc := 0) (ks := 0) (kc' := 0) (ks' := 0) dX3_product_41 lkX3_78 rfl rfl rfl ob_109 rfl (Nat.le_of_ble_eq_true rfl) hd1 h (fun r w2 hK => ?_)
        obtain ⟨x2, rfl, h⟩ := hK
        change WA _ _ _ _ _ _ _ _ _ _ _ [.inr (.inl x2), .inr (.inl v2), .inr (.inr 109)] _ _
        obtain ⟨s1, h⟩ := h
        refine WA.lmul dX3_product_44 s1 ?_
        obtain ⟨d1, hd1, h⟩ := h
        refine WA.callV1 (kc := 0) (ks := 0) (kc' := 0) (ks' := 0) dX3_product_45 lkX3_74 rfl rfl rfl ob_109 rfl (Nat.le_of_ble_eq_true rfl) hd1 h (fun r w3 hK => ?_)
        obtain ⟨x3, rfl, h⟩ := hK
        change WA _ _ _ _ _ _ _ _ _ _ _ [.inr (.inl x3)] _ _
        refine WA.lstore_n (als' := [some (.inr (.inr 109)), some (.inl a1), some (.inr (.inl x3)), none, some (.inl v4)]) dX3_product_48 (Nat.le_of_ble_eq_true rfl) rfl ?_
        obtain ⟨s2, h⟩ := h
        refine WA.iinc (als' := [some (.inr (.inr 109)), some (.inl a1), some (.inr (.inl x3)), none, some (.inl (v4 + 1))]) dX3_product_49 rfl s2 rfl ?_
        refine WA.goto (tgt := 9) dX3_product_52 (by decide) ?_
        exact h
      · have h := h.2 hc
        refine WA.lload_n dX3_product_35 rfl ?_
        exact WA.lreturn dX3_product_36 ⟨_, rfl, h⟩
set_option maxRecDepth 10000 in
theorem e_X3_product {d : Nat} {w : Wd} {K : Int → Wd → Prop} {a1 : Int}  
    (h : C_X3_factor d [.inr (.inr 109), .inl a1] w (fun x1 w1 => W_X3_product d 9 [some (.inr (.inr 109)), some (.inl a1), some (.inr (.inl x1)), none, some (.inl 0)] [] w1 K)) :
    E_X3_product d [.inr (.inr 109), .inl a1] w K := by
  refine EvA.of (by decide +kernel) (Nat.le_of_ble_eq_true rfl) ?_
  change W_X3_product d 0 [some (.inr (.inr 109)), some (.inl a1), none, none, none] [] w K
  refine WA.aload_n dX3_product_0 rfl (by decide) ?_
  refine WA.iload_n dX3_product_1 rfl ?_
  obtain ⟨d1, hd1, h⟩ := h
  refine WA.callV1 (kc := 0) (ks := 0) (kc' := 0) (ks' := 0) dX3_product_2 lkX3_78 rfl rfl rfl ob_109 rfl (Nat.le_of_ble_eq_true rfl) hd1 h (fun r w1 hK => ?_)
  obtain ⟨x1, rfl, h⟩ := hK
  change WA _ _ _ _ _ _ _ _ _ _ _ [.inr (.inl x1)] _ _
  refine WA.lstore_n (als' := [some (.inr (.inr 109)), some (.inl a1), some (.inr (.inl x1)), none, none]) dX3_product_5 (Nat.le_of_ble_eq_true rfl) rfl ?_
  refine WA.iconst dX3_product_6 ⟨by decide, by decide⟩ ?_
  refine WA.istore (als' := [some (.inr (.inr 109)), some (.inl a1), some (.inr (.inl x1)), none, some (.inl 0)]) dX3_product_7 (Nat.le_of_ble_eq_true rfl) rfl ?_
  exact h
set_option maxRecDepth 10000 in
theorem e_X3_bounded {d : Nat} {w : Wd} {K : Int → Wd → Prop} {a1 : Int}  
    (h : (((w 109 6) = 0 → ((a1 < (-1000000000) → (∀ w1, w1 = wset w 109 6 1 → K 0 w1)) ∧ (¬ (a1 < (-1000000000)) → ((a1 ≤ 1000000000 → K a1 w) ∧ (¬ (a1 ≤ 1000000000) → (∀ w2, w2 = wset w 109 6 1 → K 0 w2)))))) ∧ (¬ (w 109 6) = 0 → K 0 w))) :
    E_X3_bounded d [.inr (.inr 109), .inr (.inl a1)] w K := by
  refine EvA.of (by decide +kernel) (Nat.le_of_ble_eq_true rfl) ?_
  change W_X3_bounded d 0 [some (.inr (.inr 109)), some (.inr (.inl a1)), none] [] w K
  refine WA.aload_n dX3_bounded_0 rfl (by decide) ?_
  refine gfX3_33 rfl dX3_bounded_1 ob_109 ?_
  refine WA.if_eq (tgt := 9) dX3_bounded_4 (by decide) (fun hc => ?_) (fun hc => ?_)
  · have h := h.1 hc
    refine WA.lload_n dX3_bounded_9 rfl ?_
    refine WA.ldc2 (v := (-1000000000)) (x := (-1000000000)) dX3_bounded_10 (am_mem 620 (by decide +kernel) rfl) (by decide) ?_
    refine WA.lcmp_lt (tgt := 25) dX3_bounded_13 dX3_bounded_14 (by decide) (fun hc => ?_) (fun hc => ?_)
    · have h := h.1 hc
      refine WA.aload_n dX3_bounded_25 rfl (by decide) ?_
      refine WA.iconst dX3_bounded_26 ⟨by decide, by decide⟩ ?_
      obtain ⟨w1, qw1⟩ : ∃ z, z = wset w 109 6 1 := ⟨_, rfl⟩
      have h := h w1 qw1
      refine pfX3_33 rfl dX3_bounded_27 ob_109 ?_
      rw [← qw1]
      refine WA.lconst (x := 0) dX3_bounded_30 rfl ?_
      exact WA.lreturn dX3_bounded_31 ⟨_, rfl, h⟩
    · have h := h.2 hc
      refine WA.lload_n dX3_bounded_17 rfl ?_
      refine WA.ldc2 (v := 1000000000) (x := 1000000000) dX3_bounded_18 (am_mem 621 (by decide +kernel) rfl) (by decide) ?_
      refine WA.lcmp_le (tgt := 32) dX3_bounded_21 dX3_bounded_22 (by decide) (fun hc => ?_) (fun hc => ?_)
      · have h := h.1 hc
        refine WA.lload_n dX3_bounded_32 rfl ?_
        exact WA.lreturn dX3_bounded_33 ⟨_, rfl, h⟩
      · have h := h.2 hc
        refine WA.aload_n dX3_bounded_25 rfl (by decide) ?_
        refine WA.iconst dX3_bounded_26 ⟨by decide, by decide⟩ ?_
        obtain ⟨w2, qw2⟩ : ∃ z, z = wset w 109 6 1 := ⟨_, rfl⟩
        have h := h w2 qw2
        refine pfX3_33 rfl dX3_bounded_27 ob_109 ?_
        rw [← qw2]
        refine WA.lconst (x := 0) dX3_bounded_30 rfl ?_
        exact WA.lreturn dX3_bounded_31 ⟨_, rfl, h⟩
  · have h := h.2 hc
    refine WA.lconst (x := 0) dX3_bounded_7 rfl ?_
    exact WA.lreturn dX3_bounded_8 ⟨_, rfl, h⟩
set_option maxRecDepth 10000 in
theorem e_X3_fail {d : Nat} {w : Wd} {K : Int → Wd → Prop} {a1 : Int}  
    (h : (∀ w1, w1 = wset w 109 6 a1 → K 0 w1)) :
    E_X3_fail d [.inr (.inr 109), .inl a1] w K := by
  refine EvA.of (by decide +kernel) (Nat.le_of_ble_eq_true rfl) ?_
  change W_X3_fail d 0 [some (.inr (.inr 109)), some (.inl a1)] [] w K
  refine WA.aload_n dX3_fail_0 rfl (by decide) ?_
  refine WA.iload_n dX3_fail_1 rfl ?_
  obtain ⟨w1, qw1⟩ : ∃ z, z = wset w 109 6 a1 := ⟨_, rfl⟩
  have h := h w1 qw1
  refine pfX3_33 rfl dX3_fail_2 ob_109 ?_
  rw [← qw1]
  refine WA.lconst (x := 0) dX3_fail_5 rfl ?_
  exact WA.lreturn dX3_fail_6 ⟨_, rfl, h⟩
set_option maxRecDepth 10000 in
theorem e_X3_factor {d : Nat} {w : Wd} {K : Int → Wd → Prop} {a1 : Int}  
    (h : ((a1 ≤ 40 → C_X2_pass d [.inr (.inr 110), .inl 45] w (fun x1 w1 => ((x1 = 0 → C_X2_pass d [.inr (.inr 110), .inl 40] w1 (fun x2 w2 => ((x2 = 0 → C_X2_look d [.inr (.inr 110), .inl 0] w2 (fun x3 w3 => C_X8_isDigit d [.inl x3] w3 (fun x4 w4 => ((x4 = 0 → C_X2_isAtCell d [.inr (.inr 110)] w4 (fun x5 w5 => ((x5 = 0 → (-2147483648 ≤ (a1 + 1) ∧ (a1 + 1) ≤ 2147483647) ∧ C_X3_call d [.inr (.inr 109), .inl (a1 + 1)] w5 (fun x6 w6 => K x6 w6)) ∧ (¬ x5 = 0 → C_X3_passCell d [.inr (.inr 109)] w5 (fun x7 w7 => C_X3_readCell d [.inr (.inr 109), .inl x7] w7 (fun x8 w8 => K x8 w8)))))) ∧ (¬ x4 = 0 → C_X3_passNumber d [.inr (.inr 109)] w4 (fun x9 w9 => K x9 w9)))))) ∧ (¬ x2 = 0 → (-2147483648 ≤ (a1 + 1) ∧ (a1 + 1) ≤ 2147483647) ∧ C_X3_formula d [.inr (.inr 109), .inl (a1 + 1)] w2 (fun x10 w10 => (-2147483648 ≤ ((w10 110 3) + 1) ∧ ((w10 110 3) + 1) ≤ 2147483647) ∧ (∀ w11, w11 = wset w10 110 3 ((w10 110 3) + 1) → K x10 w11)))))) ∧ (¬ x1 = 0 → (-2147483648 ≤ (a1 + 1) ∧ (a1 + 1) ≤ 2147483647) ∧ C_X3_factor d [.inr (.inr 109), .inl (a1 + 1)] w1 (fun x11 w12 => (-9223372036854775808 ≤ (-x11) ∧ (-x11) ≤ 9223372036854775807) ∧ K (-x11) w12))))) ∧ (¬ (a1 ≤ 40) → C_X3_fail d [.inr (.inr 109), .inl 1] w (fun x12 w13 => K x12 w13)))) :
    E_X3_factor d [.inr (.inr 109), .inl a1] w K := by
  refine EvA.of (by decide +kernel) (Nat.le_of_ble_eq_true rfl) ?_
  change W_X3_factor d 0 [some (.inr (.inr 109)), some (.inl a1), none, none] [] w K
  refine WA.iload_n dX3_factor_0 rfl ?_
  refine WA.bipush dX3_factor_1 ⟨by decide, by decide⟩ ?_
  refine WA.icmp_le (tgt := 12) dX3_factor_3 (by decide) (fun hc => ?_) (fun hc => ?_)
  · have h := h.1 hc
    refine WA.aload_n dX3_factor_12 rfl (by decide) ?_
    refine gxX3_12 rfl rfl dX3_factor_13 ob_109 ?_
    refine WA.bipush dX3_factor_16 ⟨by decide, by decide⟩ ?_
    obtain ⟨d1, hd1, h⟩ := h
    refine WA.callV1 (kc := 0) (ks := 0) (kc' := 0) (ks' := 0) dX3_factor_18 lkX3_70 rfl rfl rfl ob_110 rfl (Nat.le_of_ble_eq_true rfl) hd1 h (fun r w1 hK => ?_)
    obtain ⟨x1, rfl, h⟩ := hK
    change WA _ _ _ _ _ _ _ _ _ _ _ [.inl x1] _ _
    refine WA.if_eq (tgt := 33) dX3_factor_21 (by decide) (fun hc => ?_) (fun hc => ?_)
    · have h := h.1 hc
      refine WA.aload_n dX3_factor_33 rfl (by decide) ?_
      refine gxX3_12 rfl rfl dX3_factor_34 ob_109 ?_
      refine WA.bipush dX3_factor_37 ⟨by decide, by decide⟩ ?_
      obtain ⟨d1, hd1, h⟩ := h
      refine WA.callV1 (kc := 0) (ks := 0) (kc' := 0) (ks' := 0) dX3_factor_39 lkX3_70 rfl rfl rfl ob_110 rfl (Nat.le_of_ble_eq_true rfl) hd1 h (fun r w2 hK => ?_)
      obtain ⟨x2, rfl, h⟩ := hK
      change WA _ _ _ _ _ _ _ _ _ _ _ [.inl x2] _ _
      refine WA.if_eq (tgt := 68) dX3_factor_42 (by decide) (fun hc => ?_) (fun hc => ?_)
      · have h := h.1 hc
        refine WA.aload_n dX3_factor_68 rfl (by decide) ?_
        refine gxX3_12 rfl rfl dX3_factor_69 ob_109 ?_
        refine WA.iconst dX3_factor_72 ⟨by decide, by decide⟩ ?_
        obtain ⟨d1, hd1, h⟩ := h
        refine WA.callV1 (kc := 0) (ks := 0) (kc' := 0) (ks' := 0) dX3_factor_73 lkX3_91 rfl rfl rfl ob_110 rfl (Nat.le_of_ble_eq_true rfl) hd1 h (fun r w3 hK => ?_)
        obtain ⟨x3, rfl, h⟩ := hK
        change WA _ _ _ _ _ _ _ _ _ _ _ [.inl x3] _ _
        obtain ⟨d1, hd1, h⟩ := h
        refine WA.callSN1 (kc := 0) (ks := 0) (kc' := 0) (ks' := 0) dX3_factor_76 lkX3_95 rfl rfl rfl (Nat.le_of_ble_eq_true rfl) hd1 h (fun r w4 hK => ?_)
        obtain ⟨x4, rfl, h⟩ := hK
        change WA _ _ _ _ _ _ _ _ _ _ _ [.inl x4] _ _
        refine WA.if_eq (tgt := 87) dX3_factor_79 (by decide) (fun hc => ?_) (fun hc => ?_)
        · have h := h.1 hc
          refine WA.aload_n dX3_factor_87 rfl (by decide) ?_
          refine gxX3_12 rfl rfl dX3_factor_88 ob_109 ?_
          obtain ⟨d1, hd1, h⟩ := h
          refine WA.callV0 (kc := 0) (ks := 0) (kc' := 0) (ks' := 0) dX3_factor_91 lkX3_102 rfl rfl rfl ob_110 rfl (Nat.le_of_ble_eq_true rfl) hd1 h (fun r w5 hK => ?_)
          obtain ⟨x5, rfl, h⟩ := hK
          change WA _ _ _ _ _ _ _ _ _ _ _ [.inl x5] _ _
          refine WA.if_eq (tgt := 106) dX3_factor_94 (by decide) (fun hc => ?_) (fun hc => ?_)
          · have h := h.1 hc
            refine WA.aload_n dX3_factor_106 rfl (by decide) ?_
            refine WA.iload_n dX3_factor_107 rfl ?_
            refine WA.iconst dX3_factor_108 ⟨by decide, by decide⟩ ?_
            obtain ⟨s1, h⟩ := h
            refine WA.iadd dX3_factor_109 s1 ?_
            obtain ⟨d1, hd1, h⟩ := h
            refine WA.callV1 (kc := 0) (ks := 0) (kc' := 0) (ks' := 0) dX3_factor_110 lkX3_113 rfl rfl rfl ob_109 rfl (Nat.le_of_ble_eq_true rfl) hd1 h (fun r w6 hK => ?_)
            obtain ⟨x6, rfl, h⟩ := hK
            change WA _ _ _ _ _ _ _ _ _ _ _ [.inr (.inl x6)] _ _
            exact WA.lreturn dX3_factor_113 ⟨_, rfl, h⟩
          · have h := h.2 hc
            refine WA.aload_n dX3_factor_97 rfl (by decide) ?_
            refine WA.aload_n dX3_factor_98 rfl (by decide) ?_
            obtain ⟨d1, hd1, h⟩ := h
            refine WA.callV0 (kc := 0) (ks := 0) (kc' := 0) (ks' := 0) dX3_factor_99 lkX3_106 rfl rfl rfl ob_109 rfl (Nat.le_of_ble_eq_true rfl) hd1 h (fun r w7 hK => ?_)
            obtain ⟨x7, rfl, h⟩ := hK
            change WA _ _ _ _ _ _ _ _ _ _ _ [.inl x7, .inr (.inr 109)] _ _
            obtain ⟨d1, hd1, h⟩ := h
            refine WA.callV1 (kc := 0) (ks := 0) (kc' := 0) (ks' := 0) dX3_factor_102 lkX3_110 rfl rfl rfl ob_109 rfl (Nat.le_of_ble_eq_true rfl) hd1 h (fun r w8 hK => ?_)
            obtain ⟨x8, rfl, h⟩ := hK
            change WA _ _ _ _ _ _ _ _ _ _ _ [.inr (.inl x8)] _ _
            exact WA.lreturn dX3_factor_105 ⟨_, rfl, h⟩
        · have h := h.2 hc
          refine WA.aload_n dX3_factor_82 rfl (by decide) ?_
          obtain ⟨d1, hd1, h⟩ := h
          refine WA.callV0 (kc := 0) (ks := 0) (kc' := 0) (ks' := 0) dX3_factor_83 lkX3_98 rfl rfl rfl ob_109 rfl (Nat.le_of_ble_eq_true rfl) hd1 h (fun r w9 hK => ?_)
          obtain ⟨x9, rfl, h⟩ := hK
          change WA _ _ _ _ _ _ _ _ _ _ _ [.inr (.inl x9)] _ _
          exact WA.lreturn dX3_factor_86 ⟨_, rfl, h⟩
      · have h := h.2 hc
        refine WA.aload_n dX3_factor_45 rfl (by decide) ?_
        refine WA.iload_n dX3_factor_46 rfl ?_
        refine WA.iconst dX3_factor_47 ⟨by decide, by decide⟩ ?_
        obtain ⟨s2, h⟩ := h
        refine WA.iadd dX3_factor_48 s2 ?_
        obtain ⟨d1, hd1, h⟩ := h
        refine WA.callV1 (kc := 0) (ks := 0) (kc' := 0) (ks' := 0) dX3_factor_49 lkX3_63 rfl rfl rfl ob_109 rfl (Nat.le_of_ble_eq_true rfl) hd1 h (fun r w10 hK => ?_)
        obtain ⟨x10, rfl, h⟩ := hK
        change WA _ _ _ _ _ _ _ _ _ _ _ [.inr (.inl x10)] _ _
        refine WA.lstore_n (als' := [some (.inr (.inr 109)), some (.inl a1), some (.inr (.inl x10)), none]) dX3_factor_52 (Nat.le_of_ble_eq_true rfl) rfl ?_
        refine WA.aload_n dX3_factor_53 rfl (by decide) ?_
        refine gxX3_12 rfl rfl dX3_factor_54 ob_109 ?_
        refine WA.dup dX3_factor_57 rfl ?_
        refine gfX3_88 rfl dX3_factor_58 ob_110 ?_
        refine WA.iconst dX3_factor_61 ⟨by decide, by decide⟩ ?_
        obtain ⟨s3, h⟩ := h
        refine WA.iadd dX3_factor_62 s3 ?_
        obtain ⟨w11, qw11⟩ : ∃ z, z = wset w10 110 3 ((w10 110 3) + 1) := ⟨_, rfl⟩
        have h := h w11 qw11
        refine pfX3_88 rfl dX3_factor_63 ob_110 ?_
        rw [← qw11]
        refine WA.lload_n dX3_factor_66 rfl ?_
        exact WA.lreturn dX3_factor_67 ⟨_, rfl, h⟩
    · have h := h.2 hc
      refine WA.aload_n dX3_factor_24 rfl (by decide) ?_
      refine WA.iload_n dX3_factor_25 rfl ?_
      refine WA.iconst dX3_factor_26 ⟨by decide, by decide⟩ ?_
      obtain ⟨s4, h⟩ := h
      refine WA.iadd dX3_factor_27 s4 ?_
      obtain ⟨d1, hd1, h⟩ := h
      refine WA.callV1 (kc := 0) (ks := 0) (kc' := 0) (ks' := 0) dX3_factor_28 lkX3_78 rfl rfl rfl ob_109 rfl (Nat.le_of_ble_eq_true rfl) hd1 h (fun r w12 hK => ?_)
      obtain ⟨x11, rfl, h⟩ := hK
      change WA _ _ _ _ _ _ _ _ _ _ _ [.inr (.inl x11)] _ _
      obtain ⟨s5, h⟩ := h
      refine WA.lneg dX3_factor_31 s5 ?_
      exact WA.lreturn dX3_factor_32 ⟨_, rfl, h⟩
  · have h := h.2 hc
    refine WA.aload_n dX3_factor_6 rfl (by decide) ?_
    refine WA.iconst dX3_factor_7 ⟨by decide, by decide⟩ ?_
    obtain ⟨d1, hd1, h⟩ := h
    refine WA.callV1 (kc := 0) (ks := 0) (kc' := 0) (ks' := 0) dX3_factor_8 lkX3_85 rfl rfl rfl ob_109 rfl (Nat.le_of_ble_eq_true rfl) hd1 h (fun r w13 hK => ?_)
    obtain ⟨x12, rfl, h⟩ := hK
    change WA _ _ _ _ _ _ _ _ _ _ _ [.inr (.inl x12)] _ _
    exact WA.lreturn dX3_factor_11 ⟨_, rfl, h⟩
set_option maxRecDepth 10000 in
theorem v_X3_passNumber_4 {d : Nat} {w : Wd} {K : Int → Wd → Prop} {v1 v3 : Int}  
    (h : ((6 ≤ v3 → K v1 w) ∧ (¬ (6 ≤ v3) → C_X2_look d [.inr (.inr 110), .inl 0] w (fun x1 w1 => C_X8_isDigit d [.inl x1] w1 (fun x2 w2 => ((x2 = 0 → K v1 w2) ∧ (¬ x2 = 0 → (-9223372036854775808 ≤ (v1 * 10) ∧ (v1 * 10) ≤ 9223372036854775807) ∧ C_X2_look d [.inr (.inr 110), .inl 0] w2 (fun x3 w3 => (-9223372036854775808 ≤ ((v1 * 10) + x3) ∧ ((v1 * 10) + x3) ≤ 9223372036854775807) ∧ (-9223372036854775808 ≤ (((v1 * 10) + x3) - 48) ∧ (((v1 * 10) + x3) - 48) ≤ 9223372036854775807) ∧ (-2147483648 ≤ ((w3 110 3) + 1) ∧ ((w3 110 3) + 1) ≤ 2147483647) ∧ (∀ w4, w4 = wset w3 110 3 ((w3 110 3) + 1) → (-2147483648 ≤ (v3 + 1) ∧ (v3 + 1) ≤ 2147483647) ∧ W_X3_passNumber d 4 [some (.inr (.inr 109)), some (.inr (.inl (((v1 * 10) + x3) - 48))), none, some (.inl (v3 + 1))] [] w4 K))))))))) :
    W_X3_passNumber d 4 [some (.inr (.inr 109)), some (.inr (.inl v1)), none, some (.inl v3)] [] w K := by
  refine WA.iload_n dX3_passNumber_4 rfl ?_
  refine WA.bipush dX3_passNumber_5 ⟨by decide, by decide⟩ ?_
  refine WA.icmp_ge (tgt := 63) dX3_passNumber_7 (by decide) (fun hc => ?_) (fun hc => ?_)
  · have h := h.1 hc
    refine WA.lload_n dX3_passNumber_63 rfl ?_
    exact WA.lreturn dX3_passNumber_64 ⟨_, rfl, h⟩
  · have h := h.2 hc
    refine WA.aload_n dX3_passNumber_10 rfl (by decide) ?_
    refine gxX3_12 rfl rfl dX3_passNumber_11 ob_109 ?_
    refine WA.iconst dX3_passNumber_14 ⟨by decide, by decide⟩ ?_
    obtain ⟨d1, hd1, h⟩ := h
    refine WA.callV1 (kc := 0) (ks := 0) (kc' := 0) (ks' := 0) dX3_passNumber_15 lkX3_91 rfl rfl rfl ob_110 rfl (Nat.le_of_ble_eq_true rfl) hd1 h (fun r w1 hK => ?_)
    obtain ⟨x1, rfl, h⟩ := hK
    change WA _ _ _ _ _ _ _ _ _ _ _ [.inl x1] _ _
    obtain ⟨d1, hd1, h⟩ := h
    refine WA.callSN1 (kc := 0) (ks := 0) (kc' := 0) (ks' := 0) dX3_passNumber_18 lkX3_95 rfl rfl rfl (Nat.le_of_ble_eq_true rfl) hd1 h (fun r w2 hK => ?_)
    obtain ⟨x2, rfl, h⟩ := hK
    change WA _ _ _ _ _ _ _ _ _ _ _ [.inl x2] _ _
    refine WA.if_eq (tgt := 63) dX3_passNumber_21 (by decide) (fun hc => ?_) (fun hc => ?_)
    · have h := h.1 hc
      refine WA.lload_n dX3_passNumber_63 rfl ?_
      exact WA.lreturn dX3_passNumber_64 ⟨_, rfl, h⟩
    · have h := h.2 hc
      refine WA.lload_n dX3_passNumber_24 rfl ?_
      refine WA.ldc2 (v := 10) (x := 10) dX3_passNumber_25 (am_mem 551 (by decide +kernel) rfl) (by decide) ?_
      obtain ⟨s1, h⟩ := h
      refine WA.lmul dX3_passNumber_28 s1 ?_
      refine WA.aload_n dX3_passNumber_29 rfl (by decide) ?_
      refine gxX3_12 rfl rfl dX3_passNumber_30 ob_109 ?_
      refine WA.iconst dX3_passNumber_33 ⟨by decide, by decide⟩ ?_
      obtain ⟨d1, hd1, h⟩ := h
      refine WA.callV1 (kc := 0) (ks := 0) (kc' := 0) (ks' := 0) dX3_passNumber_34 lkX3_91 rfl rfl rfl ob_110 rfl (Nat.le_of_ble_eq_true rfl) hd1 h (fun r w3 hK => ?_)
      obtain ⟨x3, rfl, h⟩ := hK
      change WA _ _ _ _ _ _ _ _ _ _ _ [.inl x3, .inr (.inl (v1 * 10))] _ _
      refine WA.i2l dX3_passNumber_37 ?_
      obtain ⟨s2, h⟩ := h
      refine WA.ladd dX3_passNumber_38 s2 ?_
      refine WA.ldc2 (v := 48) (x := 48) dX3_passNumber_39 (am_mem 552 (by decide +kernel) rfl) (by decide) ?_
      obtain ⟨s3, h⟩ := h
      refine WA.lsub dX3_passNumber_42 s3 ?_
      refine WA.lstore_n (als' := [some (.inr (.inr 109)), some (.inr (.inl (((v1 * 10) + x3) - 48))), none, some (.inl v3)]) dX3_passNumber_43 (Nat.le_of_ble_eq_true rfl) rfl ?_
      refine WA.aload_n dX3_passNumber_44 rfl (by decide) ?_
      refine gxX3_12 rfl rfl dX3_passNumber_45 ob_109 ?_
      refine WA.dup dX3_passNumber_48 rfl ?_
      refine gfX3_88 rfl dX3_passNumber_49 ob_110 ?_
      refine WA.iconst dX3_passNumber_52 ⟨by decide, by decide⟩ ?_
      obtain ⟨s4, h⟩ := h
      refine WA.iadd dX3_passNumber_53 s4 ?_
      obtain ⟨w4, qw4⟩ : ∃ z, z = wset w3 110 3 ((w3 110 3) + 1) := ⟨_, rfl⟩
      have h := h w4 qw4
      refine pfX3_88 rfl dX3_passNumber_54 ob_110 ?_
      rw [← qw4]
      obtain ⟨s5, h⟩ := h
      refine WA.iinc (als' := [some (.inr (.inr 109)), some (.inr (.inl (((v1 * 10) + x3) - 48))), none, some (.inl (v3 + 1))]) dX3_passNumber_57 rfl s5 rfl ?_
      refine WA.goto (tgt := 4) dX3_passNumber_60 (by decide) ?_
      exact h
set_option maxRecDepth 10000 in
theorem e_X3_passNumber {d : Nat} {w : Wd} {K : Int → Wd → Prop}  
    (h : W_X3_passNumber d 4 [some (.inr (.inr 109)), some (.inr (.inl 0)), none, some (.inl 0)] [] w K) :
    E_X3_passNumber d [.inr (.inr 109)] w K := by
  refine EvA.of (by decide +kernel) (Nat.le_of_ble_eq_true rfl) ?_
  change W_X3_passNumber d 0 [some (.inr (.inr 109)), none, none, none] [] w K
  refine WA.lconst (x := 0) dX3_passNumber_0 rfl ?_
  refine WA.lstore_n (als' := [some (.inr (.inr 109)), some (.inr (.inl 0)), none, none]) dX3_passNumber_1 (Nat.le_of_ble_eq_true rfl) rfl ?_
  refine WA.iconst dX3_passNumber_2 ⟨by decide, by decide⟩ ?_
  refine WA.istore_n (als' := [some (.inr (.inr 109)), some (.inr (.inl 0)), none, some (.inl 0)]) dX3_passNumber_3 (Nat.le_of_ble_eq_true rfl) rfl ?_
  exact h
set_option maxRecDepth 10000 in
theorem e_X3_passCell {d : Nat} {w : Wd} {K : Int → Wd → Prop}  
    (h : C_X2_look d [.inr (.inr 110), .inl 1] w (fun x1 w1 => (-2147483648 ≤ (x1 - 49) ∧ (x1 - 49) ≤ 2147483647) ∧ (-2147483648 ≤ ((x1 - 49) * 8) ∧ ((x1 - 49) * 8) ≤ 2147483647) ∧ C_X2_look d [.inr (.inr 110), .inl 0] w1 (fun x2 w2 => (-2147483648 ≤ (((x1 - 49) * 8) + x2) ∧ (((x1 - 49) * 8) + x2) ≤ 2147483647) ∧ (-2147483648 ≤ ((((x1 - 49) * 8) + x2) - 97) ∧ ((((x1 - 49) * 8) + x2) - 97) ≤ 2147483647) ∧ (-2147483648 ≤ ((w2 110 3) + 2) ∧ ((w2 110 3) + 2) ≤ 2147483647) ∧ (∀ w3, w3 = wset w2 110 3 ((w2 110 3) + 2) → K ((((x1 - 49) * 8) + x2) - 97) w3)))) :
    E_X3_passCell d [.inr (.inr 109)] w K := by
  refine EvA.of (by decide +kernel) (Nat.le_of_ble_eq_true rfl) ?_
  change W_X3_passCell d 0 [some (.inr (.inr 109)), none] [] w K
  refine WA.aload_n dX3_passCell_0 rfl (by decide) ?_
  refine gxX3_12 rfl rfl dX3_passCell_1 ob_109 ?_
  refine WA.iconst dX3_passCell_4 ⟨by decide, by decide⟩ ?_
  obtain ⟨d1, hd1, h⟩ := h
  refine WA.callV1 (kc := 0) (ks := 0) (kc' := 0) (ks' := 0) dX3_passCell_5 lkX3_91 rfl rfl rfl ob_110 rfl (Nat.le_of_ble_eq_true rfl) hd1 h (fun r w1 hK => ?_)
  obtain ⟨x1, rfl, h⟩ := hK
  change WA _ _ _ _ _ _ _ _ _ _ _ [.inl x1] _ _
  refine WA.bipush dX3_passCell_8 ⟨by decide, by decide⟩ ?_
  obtain ⟨s1, h⟩ := h
  refine WA.isub dX3_passCell_10 s1 ?_
  refine WA.bipush dX3_passCell_11 ⟨by decide, by decide⟩ ?_
  obtain ⟨s2, h⟩ := h
  refine WA.imul dX3_passCell_13 s2 ?_
  refine WA.aload_n dX3_passCell_14 rfl (by decide) ?_
  refine gxX3_12 rfl rfl dX3_passCell_15 ob_109 ?_
  refine WA.iconst dX3_passCell_18 ⟨by decide, by decide⟩ ?_
  obtain ⟨d1, hd1, h⟩ := h
  refine WA.callV1 (kc := 0) (ks := 0) (kc' := 0) (ks' := 0) dX3_passCell_19 lkX3_91 rfl rfl rfl ob_110 rfl (Nat.le_of_ble_eq_true rfl) hd1 h (fun r w2 hK => ?_)
  obtain ⟨x2, rfl, h⟩ := hK
  change WA _ _ _ _ _ _ _ _ _ _ _ [.inl x2, .inl ((x1 - 49) * 8)] _ _
  obtain ⟨s3, h⟩ := h
  refine WA.iadd dX3_passCell_22 s3 ?_
  refine WA.bipush dX3_passCell_23 ⟨by decide, by decide⟩ ?_
  obtain ⟨s4, h⟩ := h
  refine WA.isub dX3_passCell_25 s4 ?_
  refine WA.istore_n (als' := [some (.inr (.inr 109)), some (.inl ((((x1 - 49) * 8) + x2) - 97))]) dX3_passCell_26 (Nat.le_of_ble_eq_true rfl) rfl ?_
  refine WA.aload_n dX3_passCell_27 rfl (by decide) ?_
  refine gxX3_12 rfl rfl dX3_passCell_28 ob_109 ?_
  refine WA.dup dX3_passCell_31 rfl ?_
  refine gfX3_88 rfl dX3_passCell_32 ob_110 ?_
  refine WA.iconst dX3_passCell_35 ⟨by decide, by decide⟩ ?_
  obtain ⟨s5, h⟩ := h
  refine WA.iadd dX3_passCell_36 s5 ?_
  obtain ⟨w3, qw3⟩ : ∃ z, z = wset w2 110 3 ((w2 110 3) + 2) := ⟨_, rfl⟩
  have h := h w3 qw3
  refine pfX3_88 rfl dX3_passCell_37 ob_110 ?_
  rw [← qw3]
  refine WA.iload_n dX3_passCell_40 rfl ?_
  exact WA.ireturn dX3_passCell_41 ⟨_, rfl, h⟩
set_option maxRecDepth 10000 in
theorem e_X3_readCell {d : Nat} {w : Wd} {K : Int → Wd → Prop} {a1 : Int}  
    (h : C_X8_isCell d [.inl a1] w (fun x1 w1 => ((¬ x1 = 0 → (0 ≤ a1 ∧ a1 < 72) ∧ (((w1 113 a1) = (w1 109 3) → (0 ≤ a1 ∧ a1 < 72) ∧ (((w1 112 a1) = 0 → am_St (w1 109 4) ∧ (0 ≤ a1 ∧ a1 < 72) ∧ (∀ w2, w2 = wset w1 109 6 (w1 ((w1 109 4) + 8) a1) → am_St (w2 109 4) ∧ (0 ≤ a1 ∧ a1 < 72) ∧ K (w2 ((w2 109 4) + 7) a1) w2)) ∧ (¬ (w1 112 a1) = 0 → (∀ w3, w3 = wset w1 109 7 a1 → C_X3_fail d [.inr (.inr 109), .inl 4] w3 (fun x2 w4 => K x2 w4))))) ∧ (¬ (w1 113 a1) = (w1 109 3) → am_St (w1 109 4) ∧ (0 ≤ (w1 109 5) ∧ (w1 109 5) < 72) ∧ ((72 ≤ (w1 ((w1 109 4) + 11) (w1 109 5)) → (0 ≤ a1 ∧ a1 < 72) ∧ (((w1 112 a1) = 0 → am_St (w1 109 4) ∧ (0 ≤ a1 ∧ a1 < 72) ∧ (∀ w5, w5 = wset w1 109 6 (w1 ((w1 109 4) + 8) a1) → am_St (w5 109 4) ∧ (0 ≤ a1 ∧ a1 < 72) ∧ K (w5 ((w5 109 4) + 7) a1) w5)) ∧ (¬ (w1 112 a1) = 0 → (∀ w6, w6 = wset w1 109 7 a1 → C_X3_fail d [.inr (.inr 109), .inl 4] w6 (fun x3 w7 => K x3 w7))))) ∧ (¬ (72 ≤ (w1 ((w1 109 4) + 11) (w1 109 5))) → (0 ≤ a1 ∧ a1 < 72) ∧ (∀ w8, w8 = wset w1 113 a1 (w1 109 3) → am_St (w8 109 4) ∧ (-2147483648 ≤ ((w8 109 5) * 72) ∧ ((w8 109 5) * 72) ≤ 2147483647) ∧ am_St (w8 109 4) ∧ (0 ≤ (w8 109 5) ∧ (w8 109 5) < 72) ∧ (-2147483648 ≤ (((w8 109 5) * 72) + (w8 ((w8 109 4) + 11) (w8 109 5))) ∧ (((w8 109 5) * 72) + (w8 ((w8 109 4) + 11) (w8 109 5))) ≤ 2147483647) ∧ (0 ≤ (((w8 109 5) * 72) + (w8 ((w8 109 4) + 11) (w8 109 5))) ∧ (((w8 109 5) * 72) + (w8 ((w8 109 4) + 11) (w8 109 5))) < 5184) ∧ (∀ w9, w9 = wset w8 ((w8 109 4) + 12) (((w8 109 5) * 72) + (w8 ((w8 109 4) + 11) (w8 109 5))) a1 → am_St (w9 109 4) ∧ (0 ≤ (w9 109 5) ∧ (w9 109 5) < 72) ∧ (-2147483648 ≤ ((w9 ((w9 109 4) + 11) (w9 109 5)) + 1) ∧ ((w9 ((w9 109 4) + 11) (w9 109 5)) + 1) ≤ 2147483647) ∧ (0 ≤ (w9 109 5) ∧ (w9 109 5) < 72) ∧ (∀ w10, w10 = wset w9 ((w9 109 4) + 11) (w9 109 5) ((w9 ((w9 109 4) + 11) (w9 109 5)) + 1) → (0 ≤ a1 ∧ a1 < 72) ∧ (((w10 112 a1) = 0 → am_St (w10 109 4) ∧ (0 ≤ a1 ∧ a1 < 72) ∧ (∀ w11, w11 = wset w10 109 6 (w10 ((w10 109 4) + 8) a1) → am_St (w11 109 4) ∧ (0 ≤ a1 ∧ a1 < 72) ∧ K (w11 ((w11 109 4) + 7) a1) w11)) ∧ (¬ (w10 112 a1) = 0 → (∀ w12, w12 = wset w10 109 7 a1 → C_X3_fail d [.inr (.inr 109), .inl 4] w12 (fun x4 w13 => K x4 w13)))))))))))) ∧ (x1 = 0 → C_X3_fail d [.inr (.inr 109), .inl 3] w1 (fun x5 w14 => K x5 w14))))) :
    E_X3_readCell d [.inr (.inr 109), .inl a1] w K := by
  refine EvA.of (by decide +kernel) (Nat.le_of_ble_eq_true rfl) ?_
  change W_X3_readCell d 0 [some (.inr (.inr 109)), some (.inl a1)] [] w K
  refine WA.iload_n dX3_readCell_0 rfl ?_
  obtain ⟨d1, hd1, h⟩ := h
  refine WA.callSN1 (kc := 0) (ks := 0) (kc' := 0) (ks' := 0) dX3_readCell_1 lkX3_120 rfl rfl rfl (Nat.le_of_ble_eq_true rfl) hd1 h (fun r w1 hK => ?_)
  obtain ⟨x1, rfl, h⟩ := hK
  change WA _ _ _ _ _ _ _ _ _ _ _ [.inl x1] _ _
  refine WA.if_ne (tgt := 13) dX3_readCell_4 (by decide) (fun hc => ?_) (fun hc => ?_)
  · have h := h.1 hc
    refine WA.aload_n dX3_readCell_13 rfl (by decide) ?_
    refine gxX3_22 rfl rfl dX3_readCell_14 ob_109 ?_
    refine WA.iload_n dX3_readCell_17 rfl ?_
    obtain ⟨s1, h⟩ := h
    refine WA.iaload dX3_readCell_18 ob_113 s1.1 s1.2 ?_
    refine WA.aload_n dX3_readCell_19 rfl (by decide) ?_
    refine gfX3_39 rfl dX3_readCell_20 ob_109 ?_
    refine WA.icmp_eq (tgt := 98) dX3_readCell_23 (by decide) (fun hc => ?_) (fun hc => ?_)
    · have h := h.1 hc
      refine WA.aload_n dX3_readCell_98 rfl (by decide) ?_
      refine gxX3_18 rfl rfl dX3_readCell_99 ob_109 ?_
      refine WA.iload_n dX3_readCell_102 rfl ?_
      obtain ⟨s2, h⟩ := h
      refine WA.iaload dX3_readCell_103 ob_112 s2.1 s2.2 ?_
      refine WA.if_eq (tgt := 118) dX3_readCell_104 (by decide) (fun hc => ?_) (fun hc => ?_)
      · have h := h.1 hc
        refine WA.aload_n dX3_readCell_118 rfl (by decide) ?_
        refine WA.aload_n dX3_readCell_119 rfl (by decide) ?_
        refine gfX3_25 rfl dX3_readCell_120 ob_109 ?_
        obtain ⟨s3, h⟩ := h
        refine gxX3_126 rfl rfl dX3_readCell_123 (am_St_obj s3) ?_
        refine WA.iload_n dX3_readCell_126 rfl ?_
        obtain ⟨s4, h⟩ := h
        refine WA.iaload dX3_readCell_127 (am_St_8 s3) s4.1 s4.2 ?_
        obtain ⟨w2, qw2⟩ : ∃ z, z = wset w1 109 6 (w1 ((w1 109 4) + 8) a1) := ⟨_, rfl⟩
        have h := h w2 qw2
        refine pfX3_33 rfl dX3_readCell_128 ob_109 ?_
        rw [← qw2]
        refine WA.aload_n dX3_readCell_131 rfl (by decide) ?_
        refine gfX3_25 rfl dX3_readCell_132 ob_109 ?_
        obtain ⟨s5, h⟩ := h
        refine gxX3_129 rfl rfl dX3_readCell_135 (am_St_obj s5) ?_
        refine WA.iload_n dX3_readCell_138 rfl ?_
        obtain ⟨s6, h⟩ := h
        refine WA.iaload dX3_readCell_139 (am_St_7 s5) s6.1 s6.2 ?_
        refine WA.i2l dX3_readCell_140 ?_
        exact WA.lreturn dX3_readCell_141 ⟨_, rfl, h⟩
      · have h := h.2 hc
        refine WA.aload_n dX3_readCell_107 rfl (by decide) ?_
        refine WA.iload_n dX3_readCell_108 rfl ?_
        obtain ⟨w3, qw3⟩ : ∃ z, z = wset w1 109 7 a1 := ⟨_, rfl⟩
        have h := h w3 qw3
        refine pfX3_36 rfl dX3_readCell_109 ob_109 ?_
        rw [← qw3]
        refine WA.aload_n dX3_readCell_112 rfl (by decide) ?_
        refine WA.iconst dX3_readCell_113 ⟨by decide, by decide⟩ ?_
        obtain ⟨d1, hd1, h⟩ := h
        refine WA.callV1 (kc := 0) (ks := 0) (kc' := 0) (ks' := 0) dX3_readCell_114 lkX3_85 rfl rfl rfl ob_109 rfl (Nat.le_of_ble_eq_true rfl) hd1 h (fun r w4 hK => ?_)
        obtain ⟨x2, rfl, h⟩ := hK
        change WA _ _ _ _ _ _ _ _ _ _ _ [.inr (.inl x2)] _ _
        exact WA.lreturn dX3_readCell_117 ⟨_, rfl, h⟩
    · have h := h.2 hc
      refine WA.aload_n dX3_readCell_26 rfl (by decide) ?_
      refine gfX3_25 rfl dX3_readCell_27 ob_109 ?_
      obtain ⟨s7, h⟩ := h
      refine gxX3_42 rfl rfl dX3_readCell_30 (am_St_obj s7) ?_
      refine WA.aload_n dX3_readCell_33 rfl (by decide) ?_
      refine gfX3_29 rfl dX3_readCell_34 ob_109 ?_
      obtain ⟨s8, h⟩ := h
      refine WA.iaload dX3_readCell_37 (am_St_11 s7) s8.1 s8.2 ?_
      refine WA.bipush dX3_readCell_38 ⟨by decide, by decide⟩ ?_
      refine WA.icmp_ge (tgt := 98) dX3_readCell_40 (by decide) (fun hc => ?_) (fun hc => ?_)
      · have h := h.1 hc
        refine WA.aload_n dX3_readCell_98 rfl (by decide) ?_
        refine gxX3_18 rfl rfl dX3_readCell_99 ob_109 ?_
        refine WA.iload_n dX3_readCell_102 rfl ?_
        obtain ⟨s9, h⟩ := h
        refine WA.iaload dX3_readCell_103 ob_112 s9.1 s9.2 ?_
        refine WA.if_eq (tgt := 118) dX3_readCell_104 (by decide) (fun hc => ?_) (fun hc => ?_)
        · have h := h.1 hc
          refine WA.aload_n dX3_readCell_118 rfl (by decide) ?_
          refine WA.aload_n dX3_readCell_119 rfl (by decide) ?_
          refine gfX3_25 rfl dX3_readCell_120 ob_109 ?_
          obtain ⟨s10, h⟩ := h
          refine gxX3_126 rfl rfl dX3_readCell_123 (am_St_obj s10) ?_
          refine WA.iload_n dX3_readCell_126 rfl ?_
          obtain ⟨s11, h⟩ := h
          refine WA.iaload dX3_readCell_127 (am_St_8 s10) s11.1 s11.2 ?_
          obtain ⟨w5, qw5⟩ : ∃ z, z = wset w1 109 6 (w1 ((w1 109 4) + 8) a1) := ⟨_, rfl⟩
          have h := h w5 qw5
          refine pfX3_33 rfl dX3_readCell_128 ob_109 ?_
          rw [← qw5]
          refine WA.aload_n dX3_readCell_131 rfl (by decide) ?_
          refine gfX3_25 rfl dX3_readCell_132 ob_109 ?_
          obtain ⟨s12, h⟩ := h
          refine gxX3_129 rfl rfl dX3_readCell_135 (am_St_obj s12) ?_
          refine WA.iload_n dX3_readCell_138 rfl ?_
          obtain ⟨s13, h⟩ := h
          refine WA.iaload dX3_readCell_139 (am_St_7 s12) s13.1 s13.2 ?_
          refine WA.i2l dX3_readCell_140 ?_
          exact WA.lreturn dX3_readCell_141 ⟨_, rfl, h⟩
        · have h := h.2 hc
          refine WA.aload_n dX3_readCell_107 rfl (by decide) ?_
          refine WA.iload_n dX3_readCell_108 rfl ?_
          obtain ⟨w6, qw6⟩ : ∃ z, z = wset w1 109 7 a1 := ⟨_, rfl⟩
          have h := h w6 qw6
          refine pfX3_36 rfl dX3_readCell_109 ob_109 ?_
          rw [← qw6]
          refine WA.aload_n dX3_readCell_112 rfl (by decide) ?_
          refine WA.iconst dX3_readCell_113 ⟨by decide, by decide⟩ ?_
          obtain ⟨d1, hd1, h⟩ := h
          refine WA.callV1 (kc := 0) (ks := 0) (kc' := 0) (ks' := 0) dX3_readCell_114 lkX3_85 rfl rfl rfl ob_109 rfl (Nat.le_of_ble_eq_true rfl) hd1 h (fun r w7 hK => ?_)
          obtain ⟨x3, rfl, h⟩ := hK
          change WA _ _ _ _ _ _ _ _ _ _ _ [.inr (.inl x3)] _ _
          exact WA.lreturn dX3_readCell_117 ⟨_, rfl, h⟩
      · have h := h.2 hc
        refine WA.aload_n dX3_readCell_43 rfl (by decide) ?_
        refine gxX3_22 rfl rfl dX3_readCell_44 ob_109 ?_
        refine WA.iload_n dX3_readCell_47 rfl ?_
        refine WA.aload_n dX3_readCell_48 rfl (by decide) ?_
        refine gfX3_39 rfl dX3_readCell_49 ob_109 ?_
        obtain ⟨s14, h⟩ := h
        obtain ⟨w8, qw8⟩ : ∃ z, z = wset w1 113 a1 (w1 109 3) := ⟨_, rfl⟩
        have h := h w8 qw8
        refine WA.iastore dX3_readCell_52 ob_113 s14.1 s14.2 ?_
        rw [← qw8]
        refine WA.aload_n dX3_readCell_53 rfl (by decide) ?_
        refine gfX3_25 rfl dX3_readCell_54 ob_109 ?_
        obtain ⟨s15, h⟩ := h
        refine gxX3_123 rfl rfl dX3_readCell_57 (am_St_obj s15) ?_
        refine WA.aload_n dX3_readCell_60 rfl (by decide) ?_
        refine gfX3_29 rfl dX3_readCell_61 ob_109 ?_
        refine WA.bipush dX3_readCell_64 ⟨by decide, by decide⟩ ?_
        obtain ⟨s16, h⟩ := h
        refine WA.imul dX3_readCell_66 s16 ?_
        refine WA.aload_n dX3_readCell_67 rfl (by decide) ?_
        refine gfX3_25 rfl dX3_readCell_68 ob_109 ?_
        obtain ⟨s17, h⟩ := h
        refine gxX3_42 rfl rfl dX3_readCell_71 (am_St_obj s17) ?_
        refine WA.aload_n dX3_readCell_74 rfl (by decide) ?_
        refine gfX3_29 rfl dX3_readCell_75 ob_109 ?_
        obtain ⟨s18, h⟩ := h
        refine WA.iaload dX3_readCell_78 (am_St_11 s17) s18.1 s18.2 ?_
        obtain ⟨s19, h⟩ := h
        refine WA.iadd dX3_readCell_79 s19 ?_
        refine WA.iload_n dX3_readCell_80 rfl ?_
        obtain ⟨s20, h⟩ := h
        obtain ⟨w9, qw9⟩ : ∃ z, z = wset w8 ((w8 109 4) + 12) (((w8 109 5) * 72) + (w8 ((w8 109 4) + 11) (w8 109 5))) a1 := ⟨_, rfl⟩
        have h := h w9 qw9
        refine WA.iastore dX3_readCell_81 (am_St_12 s15) s20.1 s20.2 ?_
        rw [← qw9]
        refine WA.aload_n dX3_readCell_82 rfl (by decide) ?_
        refine gfX3_25 rfl dX3_readCell_83 ob_109 ?_
        obtain ⟨s21, h⟩ := h
        refine gxX3_42 rfl rfl dX3_readCell_86 (am_St_obj s21) ?_
        refine WA.aload_n dX3_readCell_89 rfl (by decide) ?_
        refine gfX3_29 rfl dX3_readCell_90 ob_109 ?_
        refine WA.dup2 dX3_readCell_93 rfl rfl ?_
        obtain ⟨s22, h⟩ := h
        refine WA.iaload dX3_readCell_94 (am_St_11 s21) s22.1 s22.2 ?_
        refine WA.iconst dX3_readCell_95 ⟨by decide, by decide⟩ ?_
        obtain ⟨s23, h⟩ := h
        refine WA.iadd dX3_readCell_96 s23 ?_
        obtain ⟨s24, h⟩ := h
        obtain ⟨w10, qw10⟩ : ∃ z, z = wset w9 ((w9 109 4) + 11) (w9 109 5) ((w9 ((w9 109 4) + 11) (w9 109 5)) + 1) := ⟨_, rfl⟩
        have h := h w10 qw10
        refine WA.iastore dX3_readCell_97 (am_St_11 s21) s24.1 s24.2 ?_
        rw [← qw10]
        refine WA.aload_n dX3_readCell_98 rfl (by decide) ?_
        refine gxX3_18 rfl rfl dX3_readCell_99 ob_109 ?_
        refine WA.iload_n dX3_readCell_102 rfl ?_
        obtain ⟨s25, h⟩ := h
        refine WA.iaload dX3_readCell_103 ob_112 s25.1 s25.2 ?_
        refine WA.if_eq (tgt := 118) dX3_readCell_104 (by decide) (fun hc => ?_) (fun hc => ?_)
        · have h := h.1 hc
          refine WA.aload_n dX3_readCell_118 rfl (by decide) ?_
          refine WA.aload_n dX3_readCell_119 rfl (by decide) ?_
          refine gfX3_25 rfl dX3_readCell_120 ob_109 ?_
          obtain ⟨s26, h⟩ := h
          refine gxX3_126 rfl rfl dX3_readCell_123 (am_St_obj s26) ?_
          refine WA.iload_n dX3_readCell_126 rfl ?_
          obtain ⟨s27, h⟩ := h
          refine WA.iaload dX3_readCell_127 (am_St_8 s26) s27.1 s27.2 ?_
          obtain ⟨w11, qw11⟩ : ∃ z, z = wset w10 109 6 (w10 ((w10 109 4) + 8) a1) := ⟨_, rfl⟩
          have h := h w11 qw11
          refine pfX3_33 rfl dX3_readCell_128 ob_109 ?_
          rw [← qw11]
          refine WA.aload_n dX3_readCell_131 rfl (by decide) ?_
          refine gfX3_25 rfl dX3_readCell_132 ob_109 ?_
          obtain ⟨s28, h⟩ := h
          refine gxX3_129 rfl rfl dX3_readCell_135 (am_St_obj s28) ?_
          refine WA.iload_n dX3_readCell_138 rfl ?_
          obtain ⟨s29, h⟩ := h
          refine WA.iaload dX3_readCell_139 (am_St_7 s28) s29.1 s29.2 ?_
          refine WA.i2l dX3_readCell_140 ?_
          exact WA.lreturn dX3_readCell_141 ⟨_, rfl, h⟩
        · have h := h.2 hc
          refine WA.aload_n dX3_readCell_107 rfl (by decide) ?_
          refine WA.iload_n dX3_readCell_108 rfl ?_
          obtain ⟨w12, qw12⟩ : ∃ z, z = wset w10 109 7 a1 := ⟨_, rfl⟩
          have h := h w12 qw12
          refine pfX3_36 rfl dX3_readCell_109 ob_109 ?_
          rw [← qw12]
          refine WA.aload_n dX3_readCell_112 rfl (by decide) ?_
          refine WA.iconst dX3_readCell_113 ⟨by decide, by decide⟩ ?_
          obtain ⟨d1, hd1, h⟩ := h
          refine WA.callV1 (kc := 0) (ks := 0) (kc' := 0) (ks' := 0) dX3_readCell_114 lkX3_85 rfl rfl rfl ob_109 rfl (Nat.le_of_ble_eq_true rfl) hd1 h (fun r w13 hK => ?_)
          obtain ⟨x4, rfl, h⟩ := hK
          change WA _ _ _ _ _ _ _ _ _ _ _ [.inr (.inl x4)] _ _
          exact WA.lreturn dX3_readCell_117 ⟨_, rfl, h⟩
  · have h := h.2 hc
    refine WA.aload_n dX3_readCell_7 rfl (by decide) ?_
    refine WA.iconst dX3_readCell_8 ⟨by decide, by decide⟩ ?_
    obtain ⟨d1, hd1, h⟩ := h
    refine WA.callV1 (kc := 0) (ks := 0) (kc' := 0) (ks' := 0) dX3_readCell_9 lkX3_85 rfl rfl rfl ob_109 rfl (Nat.le_of_ble_eq_true rfl) hd1 h (fun r w14 hK => ?_)
    obtain ⟨x5, rfl, h⟩ := hK
    change WA _ _ _ _ _ _ _ _ _ _ _ [.inr (.inl x5)] _ _
    exact WA.lreturn dX3_readCell_12 ⟨_, rfl, h⟩
set_option maxRecDepth 10000 in
theorem v_X3_call_2 {d : Nat} {w : Wd} {K : Int → Wd → Prop} {a1 v2 : Int}  
    (h : ((9 ≤ v2 → C_X3_fail d [.inr (.inr 109), .inl 3] w (fun x1 w1 => K x1 w1)) ∧ (¬ (9 ≤ v2) → C_X8_nameOf d [.inl v2] w (fun x2 w2 => (∃ j1 : Nat, j1 < 9 ∧ x2 = -3 - (j1 : Int) ∧ C_X2_matching d [.inr (.inr 110), .inr (.inr (-3 - (j1 : Int)))] w2 (fun x3 w3 => C_J0_length_8abf5 d [.inr (.inr (-3 - (j1 : Int)))] w3 (fun x4 w4 => ((¬ x3 = x4 → (-2147483648 ≤ (v2 + 1) ∧ (v2 + 1) ≤ 2147483647) ∧ W_X3_call d 2 [some (.inr (.inr 109)), some (.inl a1), some (.inl (v2 + 1)), none] [] w4 K) ∧ (x3 = x4 → C_J0_length_8abf5 d [.inr (.inr (-3 - (j1 : Int)))] w4 (fun x5 w5 => (-2147483648 ≤ ((w4 110 3) + x5) ∧ ((w4 110 3) + x5) ≤ 2147483647) ∧ (∀ w6, w6 = wset w5 110 3 ((w4 110 3) + x5) → ((v2 = 0 → C_X3_choose d [.inr (.inr 109), .inl v2, .inl a1] w6 (fun x6 w7 => K x6 w7)) ∧ ((v2 = 1 → C_X3_choose d [.inr (.inr 109), .inl v2, .inl a1] w6 (fun x7 w8 => K x7 w8)) ∧ ((v2 = 2 → C_X3_combine d [.inr (.inr 109), .inl v2, .inl a1] w6 (fun x8 w9 => K x8 w9)) ∧ ((v2 = 3 → C_X3_combine d [.inr (.inr 109), .inl v2, .inl a1] w6 (fun x9 w10 => K x9 w10)) ∧ ((v2 = 4 → C_X3_combine d [.inr (.inr 109), .inl v2, .inl a1] w6 (fun x10 w11 => K x10 w11)) ∧ (v2 < 0 ∨ 4 < v2 → C_X3_gather d [.inr (.inr 109), .inl v2, .inl a1] w6 (fun x11 w12 => K x11 w12)))))))))))))))))) :
    W_X3_call d 2 [some (.inr (.inr 109)), some (.inl a1), some (.inl v2), none] [] w K := by
  refine WA.iload_n dX3_call_2 rfl ?_
  refine WA.bipush dX3_call_3 ⟨by decide, by decide⟩ ?_
  refine WA.icmp_ge (tgt := 107) dX3_call_5 (by decide) (fun hc => ?_) (fun hc => ?_)
  · have h := h.1 hc
    refine WA.aload_n dX3_call_107 rfl (by decide) ?_
    refine WA.iconst dX3_call_108 ⟨by decide, by decide⟩ ?_
    obtain ⟨d1, hd1, h⟩ := h
    refine WA.callV1 (kc := 0) (ks := 0) (kc' := 0) (ks' := 0) dX3_call_109 lkX3_85 rfl rfl rfl ob_109 rfl (Nat.le_of_ble_eq_true rfl) hd1 h (fun r w1 hK => ?_)
    obtain ⟨x1, rfl, h⟩ := hK
    change WA _ _ _ _ _ _ _ _ _ _ _ [.inr (.inl x1)] _ _
    exact WA.lreturn dX3_call_112 ⟨_, rfl, h⟩
  · have h := h.2 hc
    refine WA.iload_n dX3_call_8 rfl ?_
    obtain ⟨d1, hd1, h⟩ := h
    refine WA.callSN1 (kc := 0) (ks := 0) (kc' := 0) (ks' := 0) dX3_call_9 lkX3_132 rfl rfl rfl (Nat.le_of_ble_eq_true rfl) hd1 h (fun r w2 hK => ?_)
    obtain ⟨x2, rfl, h⟩ := hK
    change WA _ _ _ _ _ _ _ _ _ _ _ [.inr (.inr x2)] _ _
    obtain ⟨j1, s1, es1, h⟩ := h
    refine WA.top (v2 := .inr (.inr (-3 - (j1 : Int)))) (by rw [es1]) ?_
    refine WA.astore_n (als' := [some (.inr (.inr 109)), some (.inl a1), some (.inl v2), some (.inr (.inr (-3 - (j1 : Int))))]) dX3_call_12 am_S_ne (Nat.le_of_ble_eq_true rfl) rfl ?_
    refine WA.aload_n dX3_call_13 rfl (by decide) ?_
    refine gxX3_12 rfl rfl dX3_call_14 ob_109 ?_
    refine WA.aload_n dX3_call_17 rfl am_S_ne ?_
    obtain ⟨d1, hd1, h⟩ := h
    refine WA.callV1 (kc := 0) (ks := 0) (kc' := 0) (ks' := 0) dX3_call_18 lkX3_136 rfl rfl rfl ob_110 rfl (Nat.le_of_ble_eq_true rfl) hd1 h (fun r w3 hK => ?_)
    obtain ⟨x3, rfl, h⟩ := hK
    change WA _ _ _ _ _ _ _ _ _ _ _ [.inl x3] _ _
    refine WA.aload_n dX3_call_21 rfl am_S_ne ?_
    obtain ⟨d1, hd1, h⟩ := h
    refine WA.callStr (As := []) (kc := 0) (ks := 0) (kc' := 0) (ks' := 0) s1 dX3_call_22 lkX3_140 rfl hd1 (Nat.le_of_ble_eq_true rfl) h (fun r w4 hK => ?_)
    obtain ⟨x4, rfl, h⟩ := hK
    change WA _ _ _ _ _ _ _ _ _ _ _ [.inl x4, .inl x3] _ _
    refine WA.icmp_ne (tgt := 101) dX3_call_25 (by decide) (fun hc => ?_) (fun hc => ?_)
    · have h := h.1 hc
      obtain ⟨s2, h⟩ := h
      refine WA.iinc (als' := [some (.inr (.inr 109)), some (.inl a1), some (.inl (v2 + 1)), some (.inr (.inr (-3 - (j1 : Int))))]) dX3_call_101 rfl s2 rfl ?_
      refine WA.goto (tgt := 2) dX3_call_104 (by decide) ?_
      exact WA.sub (als' := [some (.inr (.inr 109)), some (.inl a1), some (.inl (v2 + 1)), none]) (by simp only [am_sub, and_self]) rfl h
    · have h := h.2 hc
      refine WA.aload_n dX3_call_28 rfl (by decide) ?_
      refine gxX3_12 rfl rfl dX3_call_29 ob_109 ?_
      refine WA.dup dX3_call_32 rfl ?_
      refine gfX3_88 rfl dX3_call_33 ob_110 ?_
      refine WA.aload_n dX3_call_36 rfl am_S_ne ?_
      obtain ⟨d1, hd1, h⟩ := h
      refine WA.callStr (As := []) (kc := 0) (ks := 0) (kc' := 0) (ks' := 0) s1 dX3_call_37 lkX3_140 rfl hd1 (Nat.le_of_ble_eq_true rfl) h (fun r w5 hK => ?_)
      obtain ⟨x5, rfl, h⟩ := hK
      change WA _ _ _ _ _ _ _ _ _ _ _ [.inl x5, .inl (w4 110 3), .inr (.inr 110)] _ _
      obtain ⟨s3, h⟩ := h
      refine WA.iadd dX3_call_40 s3 ?_
      obtain ⟨w6, qw6⟩ : ∃ z, z = wset w5 110 3 ((w4 110 3) + x5) := ⟨_, rfl⟩
      have h := h w6 qw6
      refine pfX3_88 rfl dX3_call_41 ob_110 ?_
      rw [← qw6]
      refine WA.iload_n dX3_call_44 rfl ?_
      by_cases hc : v2 = 0
      · have h := h.1 hc
        refine WA.tableIn (tgt := 80) dX3_call_45 (by rw [hc]; decide) (by rw [hc]; decide) (by rw [hc]; rfl) (by decide) ?_
        refine WA.aload_n dX3_call_80 rfl (by decide) ?_
        refine WA.iload_n dX3_call_81 rfl ?_
        refine WA.iload_n dX3_call_82 rfl ?_
        obtain ⟨d1, hd1, h⟩ := h
        refine WA.callV2 (kc := 0) (ks := 0) (kc' := 0) (ks' := 0) dX3_call_83 lkX3_145 rfl rfl rfl ob_109 rfl (Nat.le_of_ble_eq_true rfl) hd1 h (fun r w7 hK => ?_)
        obtain ⟨x6, rfl, h⟩ := hK
        change WA _ _ _ _ _ _ _ _ _ _ _ [.inr (.inl x6)] _ _
        exact WA.lreturn dX3_call_86 ⟨_, rfl, h⟩
      · have h := h.2
        have n0 := hc
        by_cases hc : v2 = 1
        · have h := h.1 hc
          refine WA.tableIn (tgt := 80) dX3_call_45 (by rw [hc]; decide) (by rw [hc]; decide) (by rw [hc]; rfl) (by decide) ?_
          refine WA.aload_n dX3_call_80 rfl (by decide) ?_
          refine WA.iload_n dX3_call_81 rfl ?_
          refine WA.iload_n dX3_call_82 rfl ?_
          obtain ⟨d1, hd1, h⟩ := h
          refine WA.callV2 (kc := 0) (ks := 0) (kc' := 0) (ks' := 0) dX3_call_83 lkX3_145 rfl rfl rfl ob_109 rfl (Nat.le_of_ble_eq_true rfl) hd1 h (fun r w8 hK => ?_)
          obtain ⟨x7, rfl, h⟩ := hK
          change WA _ _ _ _ _ _ _ _ _ _ _ [.inr (.inl x7)] _ _
          exact WA.lreturn dX3_call_86 ⟨_, rfl, h⟩
        · have h := h.2
          have n1 := hc
          by_cases hc : v2 = 2
          · have h := h.1 hc
            refine WA.tableIn (tgt := 87) dX3_call_45 (by rw [hc]; decide) (by rw [hc]; decide) (by rw [hc]; rfl) (by decide) ?_
            refine WA.aload_n dX3_call_87 rfl (by decide) ?_
            refine WA.iload_n dX3_call_88 rfl ?_
            refine WA.iload_n dX3_call_89 rfl ?_
            obtain ⟨d1, hd1, h⟩ := h
            refine WA.callV2 (kc := 0) (ks := 0) (kc' := 0) (ks' := 0) dX3_call_90 lkX3_149 rfl rfl rfl ob_109 rfl (Nat.le_of_ble_eq_true rfl) hd1 h (fun r w9 hK => ?_)
            obtain ⟨x8, rfl, h⟩ := hK
            change WA _ _ _ _ _ _ _ _ _ _ _ [.inr (.inl x8)] _ _
            exact WA.lreturn dX3_call_93 ⟨_, rfl, h⟩
          · have h := h.2
            have n2 := hc
            by_cases hc : v2 = 3
            · have h := h.1 hc
              refine WA.tableIn (tgt := 87) dX3_call_45 (by rw [hc]; decide) (by rw [hc]; decide) (by rw [hc]; rfl) (by decide) ?_
              refine WA.aload_n dX3_call_87 rfl (by decide) ?_
              refine WA.iload_n dX3_call_88 rfl ?_
              refine WA.iload_n dX3_call_89 rfl ?_
              obtain ⟨d1, hd1, h⟩ := h
              refine WA.callV2 (kc := 0) (ks := 0) (kc' := 0) (ks' := 0) dX3_call_90 lkX3_149 rfl rfl rfl ob_109 rfl (Nat.le_of_ble_eq_true rfl) hd1 h (fun r w10 hK => ?_)
              obtain ⟨x9, rfl, h⟩ := hK
              change WA _ _ _ _ _ _ _ _ _ _ _ [.inr (.inl x9)] _ _
              exact WA.lreturn dX3_call_93 ⟨_, rfl, h⟩
            · have h := h.2
              have n3 := hc
              by_cases hc : v2 = 4
              · have h := h.1 hc
                refine WA.tableIn (tgt := 87) dX3_call_45 (by rw [hc]; decide) (by rw [hc]; decide) (by rw [hc]; rfl) (by decide) ?_
                refine WA.aload_n dX3_call_87 rfl (by decide) ?_
                refine WA.iload_n dX3_call_88 rfl ?_
                refine WA.iload_n dX3_call_89 rfl ?_
                obtain ⟨d1, hd1, h⟩ := h
                refine WA.callV2 (kc := 0) (ks := 0) (kc' := 0) (ks' := 0) dX3_call_90 lkX3_149 rfl rfl rfl ob_109 rfl (Nat.le_of_ble_eq_true rfl) hd1 h (fun r w11 hK => ?_)
                obtain ⟨x10, rfl, h⟩ := hK
                change WA _ _ _ _ _ _ _ _ _ _ _ [.inr (.inl x10)] _ _
                exact WA.lreturn dX3_call_93 ⟨_, rfl, h⟩
              · have h := h.2
                have n4 := hc
                have ho : v2 < 0 ∨ 4 < v2 := by
                  rcases Int.lt_or_le v2 0 with q | q
                  · exact Or.inl q
                  · have q : 1 ≤ v2 := am_bump q n0
                    have q : 2 ≤ v2 := am_bump q n1
                    have q : 3 ≤ v2 := am_bump q n2
                    have q : 4 ≤ v2 := am_bump q n3
                    have q : 5 ≤ v2 := am_bump q n4
                    exact Or.inr q
                have h := h ho
                refine WA.tableOut (tgt := 94) dX3_call_45 ho (by decide) ?_
                refine WA.aload_n dX3_call_94 rfl (by decide) ?_
                refine WA.iload_n dX3_call_95 rfl ?_
                refine WA.iload_n dX3_call_96 rfl ?_
                obtain ⟨d1, hd1, h⟩ := h
                refine WA.callV2 (kc := 0) (ks := 0) (kc' := 0) (ks' := 0) dX3_call_97 lkX3_152 rfl rfl rfl ob_109 rfl (Nat.le_of_ble_eq_true rfl) hd1 h (fun r w12 hK => ?_)
                obtain ⟨x11, rfl, h⟩ := hK
                change WA _ _ _ _ _ _ _ _ _ _ _ [.inr (.inl x11)] _ _
                exact WA.lreturn dX3_call_100 ⟨_, rfl, h⟩
set_option maxRecDepth 10000 in
theorem e_X3_call {d : Nat} {w : Wd} {K : Int → Wd → Prop} {a1 : Int}  
    (h : W_X3_call d 2 [some (.inr (.inr 109)), some (.inl a1), some (.inl 0), none] [] w K) :
    E_X3_call d [.inr (.inr 109), .inl a1] w K := by
  refine EvA.of (by decide +kernel) (Nat.le_of_ble_eq_true rfl) ?_
  change W_X3_call d 0 [some (.inr (.inr 109)), some (.inl a1), none, none] [] w K
  refine WA.iconst dX3_call_0 ⟨by decide, by decide⟩ ?_
  refine WA.istore_n (als' := [some (.inr (.inr 109)), some (.inl a1), some (.inl 0), none]) dX3_call_1 (Nat.le_of_ble_eq_true rfl) rfl ?_
  exact h
set_option maxRecDepth 10000 in
theorem v_X3_choose_59 {d : Nat} {w : Wd} {K : Int → Wd → Prop} {a1 a2 v3 v5 : Int}  
    (h : ((v3 ≤ v5 → C_X2_pass d [.inr (.inr 110), .inl 44] w (fun x1 w1 => ((¬ x1 = 0 → C_X3_formula d [.inr (.inr 109), .inl a2] w1 (fun x2 w2 => W_X3_choose d 117 [some (.inr (.inr 109)), some (.inl a1), some (.inl a2), some (.inr (.inl v3)), none, some (.inr (.inl x2)), none, some (.inl 0)] [] w2 K)) ∧ (x1 = 0 → C_X3_fail d [.inr (.inr 109), .inl 3] w1 (fun x3 w3 => K x3 w3))))) ∧ (¬ (v3 ≤ v5) → C_X2_pass d [.inr (.inr 110), .inl 44] w (fun x4 w4 => ((x4 = 0 → C_X2_pass d [.inr (.inr 110), .inl 44] w4 (fun x5 w5 => ((¬ x5 = 0 → C_X3_formula d [.inr (.inr 109), .inl a2] w5 (fun x6 w6 => W_X3_choose d 117 [some (.inr (.inr 109)), some (.inl a1), some (.inl a2), some (.inr (.inl v3)), none, some (.inr (.inl x6)), none, some (.inl 0)] [] w6 K)) ∧ (x5 = 0 → C_X3_fail d [.inr (.inr 109), .inl 3] w5 (fun x7 w7 => K x7 w7))))) ∧ (¬ x4 = 0 → C_X3_skipPart d [.inr (.inr 109)] w4 (fun w8 => (-2147483648 ≤ (v5 + 1) ∧ (v5 + 1) ≤ 2147483647) ∧ W_X3_choose d 59 [some (.inr (.inr 109)), some (.inl a1), some (.inl a2), some (.inr (.inl v3)), none, some (.inl (v5 + 1)), none, none] [] w8 K))))))) :
    W_X3_choose d 59 [some (.inr (.inr 109)), some (.inl a1), some (.inl a2), some (.inr (.inl v3)), none, some (.inl v5), none, none] [] w K := by
  refine WA.iload dX3_choose_59 rfl ?_
  refine WA.i2l dX3_choose_61 ?_
  refine WA.lload_n dX3_choose_62 rfl ?_
  refine WA.lcmp_ge (tgt := 89) dX3_choose_63 dX3_choose_64 (by decide) (fun hc => ?_) (fun hc => ?_)
  · have h := h.1 hc
    refine WA.aload_n dX3_choose_89 rfl (by decide) ?_
    refine gxX3_12 rfl rfl dX3_choose_90 ob_109 ?_
    refine WA.bipush dX3_choose_93 ⟨by decide, by decide⟩ ?_
    obtain ⟨d1, hd1, h⟩ := h
    refine WA.callV1 (kc := 0) (ks := 0) (kc' := 0) (ks' := 0) dX3_choose_95 lkX3_70 rfl rfl rfl ob_110 rfl (Nat.le_of_ble_eq_true rfl) hd1 h (fun r w1 hK => ?_)
    obtain ⟨x1, rfl, h⟩ := hK
    change WA _ _ _ _ _ _ _ _ _ _ _ [.inl x1] _ _
    refine WA.if_ne (tgt := 107) dX3_choose_98 (by decide) (fun hc => ?_) (fun hc => ?_)
    · have h := h.1 hc
      refine WA.aload_n dX3_choose_107 rfl (by decide) ?_
      refine WA.iload_n dX3_choose_108 rfl ?_
      obtain ⟨d1, hd1, h⟩ := h
      refine WA.callV1 (kc := 0) (ks := 0) (kc' := 0) (ks' := 0) dX3_choose_109 lkX3_63 rfl rfl rfl ob_109 rfl (Nat.le_of_ble_eq_true rfl) hd1 h (fun r w2 hK => ?_)
      obtain ⟨x2, rfl, h⟩ := hK
      change WA _ _ _ _ _ _ _ _ _ _ _ [.inr (.inl x2)] _ _
      refine WA.lstore (als' := [some (.inr (.inr 109)), some (.inl a1), some (.inl a2), some (.inr (.inl v3)), none, some (.inr (.inl x2)), none, none]) dX3_choose_112 (Nat.le_of_ble_eq_true rfl) rfl ?_
      refine WA.iconst dX3_choose_114 ⟨by decide, by decide⟩ ?_
      refine WA.istore (als' := [some (.inr (.inr 109)), some (.inl a1), some (.inl a2), some (.inr (.inl v3)), none, some (.inr (.inl x2)), none, some (.inl 0)]) dX3_choose_115 (Nat.le_of_ble_eq_true rfl) rfl ?_
      exact h
    · have h := h.2 hc
      refine WA.aload_n dX3_choose_101 rfl (by decide) ?_
      refine WA.iconst dX3_choose_102 ⟨by decide, by decide⟩ ?_
      obtain ⟨d1, hd1, h⟩ := h
      refine WA.callV1 (kc := 0) (ks := 0) (kc' := 0) (ks' := 0) dX3_choose_103 lkX3_85 rfl rfl rfl ob_109 rfl (Nat.le_of_ble_eq_true rfl) hd1 h (fun r w3 hK => ?_)
      obtain ⟨x3, rfl, h⟩ := hK
      change WA _ _ _ _ _ _ _ _ _ _ _ [.inr (.inl x3)] _ _
      exact WA.lreturn dX3_choose_106 ⟨_, rfl, h⟩
  · have h := h.2 hc
    refine WA.aload_n dX3_choose_67 rfl (by decide) ?_
    refine gxX3_12 rfl rfl dX3_choose_68 ob_109 ?_
    refine WA.bipush dX3_choose_71 ⟨by decide, by decide⟩ ?_
    obtain ⟨d1, hd1, h⟩ := h
    refine WA.callV1 (kc := 0) (ks := 0) (kc' := 0) (ks' := 0) dX3_choose_73 lkX3_70 rfl rfl rfl ob_110 rfl (Nat.le_of_ble_eq_true rfl) hd1 h (fun r w4 hK => ?_)
    obtain ⟨x4, rfl, h⟩ := hK
    change WA _ _ _ _ _ _ _ _ _ _ _ [.inl x4] _ _
    refine WA.if_eq (tgt := 89) dX3_choose_76 (by decide) (fun hc => ?_) (fun hc => ?_)
    · have h := h.1 hc
      refine WA.aload_n dX3_choose_89 rfl (by decide) ?_
      refine gxX3_12 rfl rfl dX3_choose_90 ob_109 ?_
      refine WA.bipush dX3_choose_93 ⟨by decide, by decide⟩ ?_
      obtain ⟨d1, hd1, h⟩ := h
      refine WA.callV1 (kc := 0) (ks := 0) (kc' := 0) (ks' := 0) dX3_choose_95 lkX3_70 rfl rfl rfl ob_110 rfl (Nat.le_of_ble_eq_true rfl) hd1 h (fun r w5 hK => ?_)
      obtain ⟨x5, rfl, h⟩ := hK
      change WA _ _ _ _ _ _ _ _ _ _ _ [.inl x5] _ _
      refine WA.if_ne (tgt := 107) dX3_choose_98 (by decide) (fun hc => ?_) (fun hc => ?_)
      · have h := h.1 hc
        refine WA.aload_n dX3_choose_107 rfl (by decide) ?_
        refine WA.iload_n dX3_choose_108 rfl ?_
        obtain ⟨d1, hd1, h⟩ := h
        refine WA.callV1 (kc := 0) (ks := 0) (kc' := 0) (ks' := 0) dX3_choose_109 lkX3_63 rfl rfl rfl ob_109 rfl (Nat.le_of_ble_eq_true rfl) hd1 h (fun r w6 hK => ?_)
        obtain ⟨x6, rfl, h⟩ := hK
        change WA _ _ _ _ _ _ _ _ _ _ _ [.inr (.inl x6)] _ _
        refine WA.lstore (als' := [some (.inr (.inr 109)), some (.inl a1), some (.inl a2), some (.inr (.inl v3)), none, some (.inr (.inl x6)), none, none]) dX3_choose_112 (Nat.le_of_ble_eq_true rfl) rfl ?_
        refine WA.iconst dX3_choose_114 ⟨by decide, by decide⟩ ?_
        refine WA.istore (als' := [some (.inr (.inr 109)), some (.inl a1), some (.inl a2), some (.inr (.inl v3)), none, some (.inr (.inl x6)), none, some (.inl 0)]) dX3_choose_115 (Nat.le_of_ble_eq_true rfl) rfl ?_
        exact h
      · have h := h.2 hc
        refine WA.aload_n dX3_choose_101 rfl (by decide) ?_
        refine WA.iconst dX3_choose_102 ⟨by decide, by decide⟩ ?_
        obtain ⟨d1, hd1, h⟩ := h
        refine WA.callV1 (kc := 0) (ks := 0) (kc' := 0) (ks' := 0) dX3_choose_103 lkX3_85 rfl rfl rfl ob_109 rfl (Nat.le_of_ble_eq_true rfl) hd1 h (fun r w7 hK => ?_)
        obtain ⟨x7, rfl, h⟩ := hK
        change WA _ _ _ _ _ _ _ _ _ _ _ [.inr (.inl x7)] _ _
        exact WA.lreturn dX3_choose_106 ⟨_, rfl, h⟩
    · have h := h.2 hc
      refine WA.aload_n dX3_choose_79 rfl (by decide) ?_
      obtain ⟨d1, hd1, h⟩ := h
      refine WA.callV0 (kc := 0) (ks := 0) (kc' := 0) (ks' := 0) dX3_choose_80 lkX3_160 rfl rfl rfl ob_109 rfl (Nat.le_of_ble_eq_true rfl) hd1 h (fun r w8 hK => ?_)
      obtain ⟨rfl, h⟩ := hK
      change WA _ _ _ _ _ _ _ _ _ _ _ [] _ _
      obtain ⟨s1, h⟩ := h
      refine WA.iinc (als' := [some (.inr (.inr 109)), some (.inl a1), some (.inl a2), some (.inr (.inl v3)), none, some (.inl (v5 + 1)), none, none]) dX3_choose_83 rfl s1 rfl ?_
      refine WA.goto (tgt := 59) dX3_choose_86 (by decide) ?_
      exact h
set_option maxRecDepth 10000 in
theorem v_X3_choose_117 {d : Nat} {w : Wd} {K : Int → Wd → Prop} {a1 a2 v3 v5 v7 : Int}  
    (h : (0 ≤ a1 ∧ a1 < 9) ∧ (((am_most.getD a1.toNat 0) ≤ v7 → (-2147483648 ≤ ((w 110 3) + 1) ∧ ((w 110 3) + 1) ≤ 2147483647) ∧ (∀ w1, w1 = wset w 110 3 ((w 110 3) + 1) → K v5 w1)) ∧ (¬ ((am_most.getD a1.toNat 0) ≤ v7) → C_X2_pass d [.inr (.inr 110), .inl 44] w (fun x1 w2 => ((x1 = 0 → (-2147483648 ≤ ((w2 110 3) + 1) ∧ ((w2 110 3) + 1) ≤ 2147483647) ∧ (∀ w3, w3 = wset w2 110 3 ((w2 110 3) + 1) → K v5 w3)) ∧ (¬ x1 = 0 → C_X3_skipPart d [.inr (.inr 109)] w2 (fun w4 => (-2147483648 ≤ (v7 + 1) ∧ (v7 + 1) ≤ 2147483647) ∧ W_X3_choose d 117 [some (.inr (.inr 109)), some (.inl a1), some (.inl a2), some (.inr (.inl v3)), none, some (.inr (.inl v5)), none, some (.inl (v7 + 1))] [] w4 K))))))) :
    W_X3_choose d 117 [some (.inr (.inr 109)), some (.inl a1), some (.inl a2), some (.inr (.inl v3)), none, some (.inr (.inl v5)), none, some (.inl v7)] [] w K := by
  refine WA.iload dX3_choose_117 rfl ?_
  refine WA.getmost dX3_choose_119 (am_memN 575 (by decide +kernel) rfl) ?_
  refine WA.iload_n dX3_choose_122 rfl ?_
  obtain ⟨s1, h⟩ := h
  refine WA.most dX3_choose_123 s1.1 s1.2 ?_
  refine WA.icmp_ge (tgt := 149) dX3_choose_124 (by decide) (fun hc => ?_) (fun hc => ?_)
  · have h := h.1 hc
    refine WA.aload_n dX3_choose_149 rfl (by decide) ?_
    refine gxX3_12 rfl rfl dX3_choose_150 ob_109 ?_
    refine WA.dup dX3_choose_153 rfl ?_
    refine gfX3_88 rfl dX3_choose_154 ob_110 ?_
    refine WA.iconst dX3_choose_157 ⟨by decide, by decide⟩ ?_
    obtain ⟨s2, h⟩ := h
    refine WA.iadd dX3_choose_158 s2 ?_
    obtain ⟨w1, qw1⟩ : ∃ z, z = wset w 110 3 ((w 110 3) + 1) := ⟨_, rfl⟩
    have h := h w1 qw1
    refine pfX3_88 rfl dX3_choose_159 ob_110 ?_
    rw [← qw1]
    refine WA.lload dX3_choose_162 rfl ?_
    exact WA.lreturn dX3_choose_164 ⟨_, rfl, h⟩
  · have h := h.2 hc
    refine WA.aload_n dX3_choose_127 rfl (by decide) ?_
    refine gxX3_12 rfl rfl dX3_choose_128 ob_109 ?_
    refine WA.bipush dX3_choose_131 ⟨by decide, by decide⟩ ?_
    obtain ⟨d1, hd1, h⟩ := h
    refine WA.callV1 (kc := 0) (ks := 0) (kc' := 0) (ks' := 0) dX3_choose_133 lkX3_70 rfl rfl rfl ob_110 rfl (Nat.le_of_ble_eq_true rfl) hd1 h (fun r w2 hK => ?_)
    obtain ⟨x1, rfl, h⟩ := hK
    change WA _ _ _ _ _ _ _ _ _ _ _ [.inl x1] _ _
    refine WA.if_eq (tgt := 149) dX3_choose_136 (by decide) (fun hc => ?_) (fun hc => ?_)
    · have h := h.1 hc
      refine WA.aload_n dX3_choose_149 rfl (by decide) ?_
      refine gxX3_12 rfl rfl dX3_choose_150 ob_109 ?_
      refine WA.dup dX3_choose_153 rfl ?_
      refine gfX3_88 rfl dX3_choose_154 ob_110 ?_
      refine WA.iconst dX3_choose_157 ⟨by decide, by decide⟩ ?_
      obtain ⟨s3, h⟩ := h
      refine WA.iadd dX3_choose_158 s3 ?_
      obtain ⟨w3, qw3⟩ : ∃ z, z = wset w2 110 3 ((w2 110 3) + 1) := ⟨_, rfl⟩
      have h := h w3 qw3
      refine pfX3_88 rfl dX3_choose_159 ob_110 ?_
      rw [← qw3]
      refine WA.lload dX3_choose_162 rfl ?_
      exact WA.lreturn dX3_choose_164 ⟨_, rfl, h⟩
    · have h := h.2 hc
      refine WA.aload_n dX3_choose_139 rfl (by decide) ?_
      obtain ⟨d1, hd1, h⟩ := h
      refine WA.callV0 (kc := 0) (ks := 0) (kc' := 0) (ks' := 0) dX3_choose_140 lkX3_160 rfl rfl rfl ob_109 rfl (Nat.le_of_ble_eq_true rfl) hd1 h (fun r w4 hK => ?_)
      obtain ⟨rfl, h⟩ := hK
      change WA _ _ _ _ _ _ _ _ _ _ _ [] _ _
      obtain ⟨s4, h⟩ := h
      refine WA.iinc (als' := [some (.inr (.inr 109)), some (.inl a1), some (.inl a2), some (.inr (.inl v3)), none, some (.inr (.inl v5)), none, some (.inl (v7 + 1))]) dX3_choose_143 rfl s4 rfl ?_
      refine WA.goto (tgt := 117) dX3_choose_146 (by decide) ?_
      exact h
set_option maxRecDepth 10000 in
theorem e_X3_choose {d : Nat} {w : Wd} {K : Int → Wd → Prop} {a1 a2 : Int}  
    (h : C_X3_formula d [.inr (.inr 109), .inl a2] w (fun x1 w1 => (((w1 109 6) = 0 → ((¬ a1 = 0 → ((x1 < 1 → C_X3_fail d [.inr (.inr 109), .inl 3] w1 (fun x2 w2 => K x2 w2)) ∧ (¬ (x1 < 1) → (0 ≤ a1 ∧ a1 < 9) ∧ ((x1 < (am_most.getD a1.toNat 0) → W_X3_choose d 59 [some (.inr (.inr 109)), some (.inl a1), some (.inl a2), some (.inr (.inl x1)), none, some (.inl 1), none, none] [] w1 K) ∧ (¬ (x1 < (am_most.getD a1.toNat 0)) → C_X3_fail d [.inr (.inr 109), .inl 3] w1 (fun x3 w3 => K x3 w3)))))) ∧ (a1 = 0 → ((¬ x1 = 0 → (0 ≤ a1 ∧ a1 < 9) ∧ ((1 < (am_most.getD a1.toNat 0) → W_X3_choose d 59 [some (.inr (.inr 109)), some (.inl a1), some (.inl a2), some (.inr (.inl 1)), none, some (.inl 1), none, none] [] w1 K) ∧ (¬ (1 < (am_most.getD a1.toNat 0)) → C_X3_fail d [.inr (.inr 109), .inl 3] w1 (fun x4 w4 => K x4 w4)))) ∧ (x1 = 0 → (0 ≤ a1 ∧ a1 < 9) ∧ ((2 < (am_most.getD a1.toNat 0) → W_X3_choose d 59 [some (.inr (.inr 109)), some (.inl a1), some (.inl a2), some (.inr (.inl 2)), none, some (.inl 1), none, none] [] w1 K) ∧ (¬ (2 < (am_most.getD a1.toNat 0)) → C_X3_fail d [.inr (.inr 109), .inl 3] w1 (fun x5 w5 => K x5 w5)))))))) ∧ (¬ (w1 109 6) = 0 → K 0 w1)))) :
    E_X3_choose d [.inr (.inr 109), .inl a1, .inl a2] w K := by
  refine EvA.of (by decide +kernel) (Nat.le_of_ble_eq_true rfl) ?_
  change W_X3_choose d 0 [some (.inr (.inr 109)), some (.inl a1), some (.inl a2), none, none, none, none, none] [] w K
  refine WA.aload_n dX3_choose_0 rfl (by decide) ?_
  refine WA.iload_n dX3_choose_1 rfl ?_
  obtain ⟨d1, hd1, h⟩ := h
  refine WA.callV1 (kc := 0) (ks := 0) (kc' := 0) (ks' := 0) dX3_choose_2 lkX3_63 rfl rfl rfl ob_109 rfl (Nat.le_of_ble_eq_true rfl) hd1 h (fun r w1 hK => ?_)
  obtain ⟨x1, rfl, h⟩ := hK
  change WA _ _ _ _ _ _ _ _ _ _ _ [.inr (.inl x1)] _ _
  refine WA.lstore_n (als' := [some (.inr (.inr 109)), some (.inl a1), some (.inl a2), some (.inr (.inl x1)), none, none, none, none]) dX3_choose_5 (Nat.le_of_ble_eq_true rfl) rfl ?_
  refine WA.aload_n dX3_choose_6 rfl (by decide) ?_
  refine gfX3_33 rfl dX3_choose_7 ob_109 ?_
  refine WA.if_eq (tgt := 15) dX3_choose_10 (by decide) (fun hc => ?_) (fun hc => ?_)
  · have h := h.1 hc
    refine WA.iload_n dX3_choose_15 rfl ?_
    refine WA.if_ne (tgt := 33) dX3_choose_16 (by decide) (fun hc => ?_) (fun hc => ?_)
    · have h := h.1 hc
      refine WA.lload_n dX3_choose_33 rfl ?_
      refine WA.lconst (x := 1) dX3_choose_34 rfl ?_
      refine WA.lcmp_lt (tgt := 50) dX3_choose_35 dX3_choose_36 (by decide) (fun hc => ?_) (fun hc => ?_)
      · have h := h.1 hc
        refine WA.aload_n dX3_choose_50 rfl (by decide) ?_
        refine WA.iconst dX3_choose_51 ⟨by decide, by decide⟩ ?_
        obtain ⟨d1, hd1, h⟩ := h
        refine WA.callV1 (kc := 0) (ks := 0) (kc' := 0) (ks' := 0) dX3_choose_52 lkX3_85 rfl rfl rfl ob_109 rfl (Nat.le_of_ble_eq_true rfl) hd1 h (fun r w2 hK => ?_)
        obtain ⟨x2, rfl, h⟩ := hK
        change WA _ _ _ _ _ _ _ _ _ _ _ [.inr (.inl x2)] _ _
        exact WA.lreturn dX3_choose_55 ⟨_, rfl, h⟩
      · have h := h.2 hc
        refine WA.lload_n dX3_choose_39 rfl ?_
        refine WA.getmost dX3_choose_40 (am_memN 575 (by decide +kernel) rfl) ?_
        refine WA.iload_n dX3_choose_43 rfl ?_
        obtain ⟨s1, h⟩ := h
        refine WA.most dX3_choose_44 s1.1 s1.2 ?_
        refine WA.i2l dX3_choose_45 ?_
        refine WA.lcmp_lt (tgt := 56) dX3_choose_46 dX3_choose_47 (by decide) (fun hc => ?_) (fun hc => ?_)
        · have h := h.1 hc
          refine WA.iconst dX3_choose_56 ⟨by decide, by decide⟩ ?_
          refine WA.istore (als' := [some (.inr (.inr 109)), some (.inl a1), some (.inl a2), some (.inr (.inl x1)), none, some (.inl 1), none, none]) dX3_choose_57 (Nat.le_of_ble_eq_true rfl) rfl ?_
          exact h
        · have h := h.2 hc
          refine WA.aload_n dX3_choose_50 rfl (by decide) ?_
          refine WA.iconst dX3_choose_51 ⟨by decide, by decide⟩ ?_
          obtain ⟨d1, hd1, h⟩ := h
          refine WA.callV1 (kc := 0) (ks := 0) (kc' := 0) (ks' := 0) dX3_choose_52 lkX3_85 rfl rfl rfl ob_109 rfl (Nat.le_of_ble_eq_true rfl) hd1 h (fun r w3 hK => ?_)
          obtain ⟨x3, rfl, h⟩ := hK
          change WA _ _ _ _ _ _ _ _ _ _ _ [.inr (.inl x3)] _ _
          exact WA.lreturn dX3_choose_55 ⟨_, rfl, h⟩
    · have h := h.2 hc
      refine WA.lload_n dX3_choose_19 rfl ?_
      refine WA.lconst (x := 0) dX3_choose_20 rfl ?_
      refine WA.lcmp_ne (tgt := 31) dX3_choose_21 dX3_choose_22 (by decide) (fun hc => ?_) (fun hc => ?_)
      · have h := h.1 hc
        refine WA.lconst (x := 1) dX3_choose_31 rfl ?_
        refine WA.lstore_n (als' := [some (.inr (.inr 109)), some (.inl a1), some (.inl a2), some (.inr (.inl 1)), none, none, none, none]) dX3_choose_32 (Nat.le_of_ble_eq_true rfl) rfl ?_
        refine WA.lload_n dX3_choose_33 rfl ?_
        refine WA.lconst (x := 1) dX3_choose_34 rfl ?_
        refine WA.lcmp_lt (tgt := 50) dX3_choose_35 dX3_choose_36 (by decide) (fun hc => absurd hc (by decide)) (fun _ => ?_)
        refine WA.lload_n dX3_choose_39 rfl ?_
        refine WA.getmost dX3_choose_40 (am_memN 575 (by decide +kernel) rfl) ?_
        refine WA.iload_n dX3_choose_43 rfl ?_
        obtain ⟨s2, h⟩ := h
        refine WA.most dX3_choose_44 s2.1 s2.2 ?_
        refine WA.i2l dX3_choose_45 ?_
        refine WA.lcmp_lt (tgt := 56) dX3_choose_46 dX3_choose_47 (by decide) (fun hc => ?_) (fun hc => ?_)
        · have h := h.1 hc
          refine WA.iconst dX3_choose_56 ⟨by decide, by decide⟩ ?_
          refine WA.istore (als' := [some (.inr (.inr 109)), some (.inl a1), some (.inl a2), some (.inr (.inl 1)), none, some (.inl 1), none, none]) dX3_choose_57 (Nat.le_of_ble_eq_true rfl) rfl ?_
          exact h
        · have h := h.2 hc
          refine WA.aload_n dX3_choose_50 rfl (by decide) ?_
          refine WA.iconst dX3_choose_51 ⟨by decide, by decide⟩ ?_
          obtain ⟨d1, hd1, h⟩ := h
          refine WA.callV1 (kc := 0) (ks := 0) (kc' := 0) (ks' := 0) dX3_choose_52 lkX3_85 rfl rfl rfl ob_109 rfl (Nat.le_of_ble_eq_true rfl) hd1 h (fun r w4 hK => ?_)
          obtain ⟨x4, rfl, h⟩ := hK
          change WA _ _ _ _ _ _ _ _ _ _ _ [.inr (.inl x4)] _ _
          exact WA.lreturn dX3_choose_55 ⟨_, rfl, h⟩
      · have h := h.2 hc
        refine WA.ldc2 (v := 2) (x := 2) dX3_choose_25 (am_mem 574 (by decide +kernel) rfl) (by decide) ?_
        refine WA.goto (tgt := 32) dX3_choose_28 (by decide) ?_
        refine WA.lstore_n (als' := [some (.inr (.inr 109)), some (.inl a1), some (.inl a2), some (.inr (.inl 2)), none, none, none, none]) dX3_choose_32 (Nat.le_of_ble_eq_true rfl) rfl ?_
        refine WA.lload_n dX3_choose_33 rfl ?_
        refine WA.lconst (x := 1) dX3_choose_34 rfl ?_
        refine WA.lcmp_lt (tgt := 50) dX3_choose_35 dX3_choose_36 (by decide) (fun hc => absurd hc (by decide)) (fun _ => ?_)
        refine WA.lload_n dX3_choose_39 rfl ?_
        refine WA.getmost dX3_choose_40 (am_memN 575 (by decide +kernel) rfl) ?_
        refine WA.iload_n dX3_choose_43 rfl ?_
        obtain ⟨s3, h⟩ := h
        refine WA.most dX3_choose_44 s3.1 s3.2 ?_
        refine WA.i2l dX3_choose_45 ?_
        refine WA.lcmp_lt (tgt := 56) dX3_choose_46 dX3_choose_47 (by decide) (fun hc => ?_) (fun hc => ?_)
        · have h := h.1 hc
          refine WA.iconst dX3_choose_56 ⟨by decide, by decide⟩ ?_
          refine WA.istore (als' := [some (.inr (.inr 109)), some (.inl a1), some (.inl a2), some (.inr (.inl 2)), none, some (.inl 1), none, none]) dX3_choose_57 (Nat.le_of_ble_eq_true rfl) rfl ?_
          exact h
        · have h := h.2 hc
          refine WA.aload_n dX3_choose_50 rfl (by decide) ?_
          refine WA.iconst dX3_choose_51 ⟨by decide, by decide⟩ ?_
          obtain ⟨d1, hd1, h⟩ := h
          refine WA.callV1 (kc := 0) (ks := 0) (kc' := 0) (ks' := 0) dX3_choose_52 lkX3_85 rfl rfl rfl ob_109 rfl (Nat.le_of_ble_eq_true rfl) hd1 h (fun r w5 hK => ?_)
          obtain ⟨x5, rfl, h⟩ := hK
          change WA _ _ _ _ _ _ _ _ _ _ _ [.inr (.inl x5)] _ _
          exact WA.lreturn dX3_choose_55 ⟨_, rfl, h⟩
  · have h := h.2 hc
    refine WA.lconst (x := 0) dX3_choose_13 rfl ?_
    exact WA.lreturn dX3_choose_14 ⟨_, rfl, h⟩
set_option maxRecDepth 10000 in
theorem v_X3_skipPart_4 {d : Nat} {w : Wd} {K : Wd → Prop} {v1 v2 : Int}  
    (h : ((30 ≤ v2 → K w) ∧ (¬ (30 ≤ v2) → C_X2_look d [.inr (.inr 110), .inl 0] w (fun x1 w1 => ((¬ v1 = 0 → ((¬ x1 = 40 → ((¬ x1 = 41 → (-2147483648 ≤ ((w1 110 3) + 1) ∧ ((w1 110 3) + 1) ≤ 2147483647) ∧ (∀ w2, w2 = wset w1 110 3 ((w1 110 3) + 1) → (-2147483648 ≤ (v2 + 1) ∧ (v2 + 1) ≤ 2147483647) ∧ W_X3_skipPart d 4 [some (.inr (.inr 109)), some (.inl v1), some (.inl (v2 + 1)), none] [] w2 K)) ∧ (x1 = 41 → (-2147483648 ≤ (v1 + (-1)) ∧ (v1 + (-1)) ≤ 2147483647) ∧ (-2147483648 ≤ ((w1 110 3) + 1) ∧ ((w1 110 3) + 1) ≤ 2147483647) ∧ (∀ w3, w3 = wset w1 110 3 ((w1 110 3) + 1) → (-2147483648 ≤ (v2 + 1) ∧ (v2 + 1) ≤ 2147483647) ∧ W_X3_skipPart d 4 [some (.inr (.inr 109)), some (.inl (v1 + (-1))), some (.inl (v2 + 1)), none] [] w3 K)))) ∧ (x1 = 40 → (-2147483648 ≤ (v1 + 1) ∧ (v1 + 1) ≤ 2147483647) ∧ (-2147483648 ≤ ((w1 110 3) + 1) ∧ ((w1 110 3) + 1) ≤ 2147483647) ∧ (∀ w4, w4 = wset w1 110 3 ((w1 110 3) + 1) → (-2147483648 ≤ (v2 + 1) ∧ (v2 + 1) ≤ 2147483647) ∧ W_X3_skipPart d 4 [some (.inr (.inr 109)), some (.inl (v1 + 1)), some (.inl (v2 + 1)), none] [] w4 K)))) ∧ (v1 = 0 → ((x1 = 44 → K w1) ∧ (¬ x1 = 44 → ((¬ x1 = 41 → ((¬ x1 = 40 → ((¬ x1 = 41 → (-2147483648 ≤ ((w1 110 3) + 1) ∧ ((w1 110 3) + 1) ≤ 2147483647) ∧ (∀ w5, w5 = wset w1 110 3 ((w1 110 3) + 1) → (-2147483648 ≤ (v2 + 1) ∧ (v2 + 1) ≤ 2147483647) ∧ W_X3_skipPart d 4 [some (.inr (.inr 109)), some (.inl v1), some (.inl (v2 + 1)), none] [] w5 K)) ∧ (x1 = 41 → (-2147483648 ≤ (v1 + (-1)) ∧ (v1 + (-1)) ≤ 2147483647) ∧ (-2147483648 ≤ ((w1 110 3) + 1) ∧ ((w1 110 3) + 1) ≤ 2147483647) ∧ (∀ w6, w6 = wset w1 110 3 ((w1 110 3) + 1) → (-2147483648 ≤ (v2 + 1) ∧ (v2 + 1) ≤ 2147483647) ∧ W_X3_skipPart d 4 [some (.inr (.inr 109)), some (.inl (v1 + (-1))), some (.inl (v2 + 1)), none] [] w6 K)))) ∧ (x1 = 40 → (-2147483648 ≤ (v1 + 1) ∧ (v1 + 1) ≤ 2147483647) ∧ (-2147483648 ≤ ((w1 110 3) + 1) ∧ ((w1 110 3) + 1) ≤ 2147483647) ∧ (∀ w7, w7 = wset w1 110 3 ((w1 110 3) + 1) → (-2147483648 ≤ (v2 + 1) ∧ (v2 + 1) ≤ 2147483647) ∧ W_X3_skipPart d 4 [some (.inr (.inr 109)), some (.inl (v1 + 1)), some (.inl (v2 + 1)), none] [] w7 K)))) ∧ (x1 = 41 → K w1)))))))))) :
    W_X3_skipPart d 4 [some (.inr (.inr 109)), some (.inl v1), some (.inl v2), none] [] w K := by
  refine WA.iload_n dX3_skipPart_4 rfl ?_
  refine WA.bipush dX3_skipPart_5 ⟨by decide, by decide⟩ ?_
  refine WA.icmp_ge (tgt := 76) dX3_skipPart_7 (by decide) (fun hc => ?_) (fun hc => ?_)
  · have h := h.1 hc
    exact WA.vreturn dX3_skipPart_76 ⟨rfl, h⟩
  · have h := h.2 hc
    refine WA.aload_n dX3_skipPart_10 rfl (by decide) ?_
    refine gxX3_12 rfl rfl dX3_skipPart_11 ob_109 ?_
    refine WA.iconst dX3_skipPart_14 ⟨by decide, by decide⟩ ?_
    obtain ⟨d1, hd1, h⟩ := h
    refine WA.callV1 (kc := 0) (ks := 0) (kc' := 0) (ks' := 0) dX3_skipPart_15 lkX3_91 rfl rfl rfl ob_110 rfl (Nat.le_of_ble_eq_true rfl) hd1 h (fun r w1 hK => ?_)
    obtain ⟨x1, rfl, h⟩ := hK
    change WA _ _ _ _ _ _ _ _ _ _ _ [.inl x1] _ _
    refine WA.istore_n (als' := [some (.inr (.inr 109)), some (.inl v1), some (.inl v2), some (.inl x1)]) dX3_skipPart_18 (Nat.le_of_ble_eq_true rfl) rfl ?_
    refine WA.iload_n dX3_skipPart_19 rfl ?_
    refine WA.if_ne (tgt := 36) dX3_skipPart_20 (by decide) (fun hc => ?_) (fun hc => ?_)
    · have h := h.1 hc
      refine WA.iload_n dX3_skipPart_36 rfl ?_
      refine WA.bipush dX3_skipPart_37 ⟨by decide, by decide⟩ ?_
      refine WA.icmp_ne (tgt := 48) dX3_skipPart_39 (by decide) (fun hc => ?_) (fun hc => ?_)
      · have h := h.1 hc
        refine WA.iload_n dX3_skipPart_48 rfl ?_
        refine WA.bipush dX3_skipPart_49 ⟨by decide, by decide⟩ ?_
        refine WA.icmp_ne (tgt := 57) dX3_skipPart_51 (by decide) (fun hc => ?_) (fun hc => ?_)
        · have h := h.1 hc
          refine WA.aload_n dX3_skipPart_57 rfl (by decide) ?_
          refine gxX3_12 rfl rfl dX3_skipPart_58 ob_109 ?_
          refine WA.dup dX3_skipPart_61 rfl ?_
          refine gfX3_88 rfl dX3_skipPart_62 ob_110 ?_
          refine WA.iconst dX3_skipPart_65 ⟨by decide, by decide⟩ ?_
          obtain ⟨s1, h⟩ := h
          refine WA.iadd dX3_skipPart_66 s1 ?_
          obtain ⟨w2, qw2⟩ : ∃ z, z = wset w1 110 3 ((w1 110 3) + 1) := ⟨_, rfl⟩
          have h := h w2 qw2
          refine pfX3_88 rfl dX3_skipPart_67 ob_110 ?_
          rw [← qw2]
          obtain ⟨s2, h⟩ := h
          refine WA.iinc (als' := [some (.inr (.inr 109)), some (.inl v1), some (.inl (v2 + 1)), some (.inl x1)]) dX3_skipPart_70 rfl s2 rfl ?_
          refine WA.goto (tgt := 4) dX3_skipPart_73 (by decide) ?_
          exact WA.sub (als' := [some (.inr (.inr 109)), some (.inl v1), some (.inl (v2 + 1)), none]) (by simp only [am_sub, and_self]) rfl h
        · have h := h.2 hc
          obtain ⟨s3, h⟩ := h
          refine WA.iinc (als' := [some (.inr (.inr 109)), some (.inl (v1 + (-1))), some (.inl v2), some (.inl x1)]) dX3_skipPart_54 rfl s3 rfl ?_
          refine WA.aload_n dX3_skipPart_57 rfl (by decide) ?_
          refine gxX3_12 rfl rfl dX3_skipPart_58 ob_109 ?_
          refine WA.dup dX3_skipPart_61 rfl ?_
          refine gfX3_88 rfl dX3_skipPart_62 ob_110 ?_
          refine WA.iconst dX3_skipPart_65 ⟨by decide, by decide⟩ ?_
          obtain ⟨s4, h⟩ := h
          refine WA.iadd dX3_skipPart_66 s4 ?_
          obtain ⟨w3, qw3⟩ : ∃ z, z = wset w1 110 3 ((w1 110 3) + 1) := ⟨_, rfl⟩
          have h := h w3 qw3
          refine pfX3_88 rfl dX3_skipPart_67 ob_110 ?_
          rw [← qw3]
          obtain ⟨s5, h⟩ := h
          refine WA.iinc (als' := [some (.inr (.inr 109)), some (.inl (v1 + (-1))), some (.inl (v2 + 1)), some (.inl x1)]) dX3_skipPart_70 rfl s5 rfl ?_
          refine WA.goto (tgt := 4) dX3_skipPart_73 (by decide) ?_
          exact WA.sub (als' := [some (.inr (.inr 109)), some (.inl (v1 + (-1))), some (.inl (v2 + 1)), none]) (by simp only [am_sub, and_self]) rfl h
      · have h := h.2 hc
        obtain ⟨s6, h⟩ := h
        refine WA.iinc (als' := [some (.inr (.inr 109)), some (.inl (v1 + 1)), some (.inl v2), some (.inl x1)]) dX3_skipPart_42 rfl s6 rfl ?_
        refine WA.goto (tgt := 57) dX3_skipPart_45 (by decide) ?_
        refine WA.aload_n dX3_skipPart_57 rfl (by decide) ?_
        refine gxX3_12 rfl rfl dX3_skipPart_58 ob_109 ?_
        refine WA.dup dX3_skipPart_61 rfl ?_
        refine gfX3_88 rfl dX3_skipPart_62 ob_110 ?_
        refine WA.iconst dX3_skipPart_65 ⟨by decide, by decide⟩ ?_
        obtain ⟨s7, h⟩ := h
        refine WA.iadd dX3_skipPart_66 s7 ?_
        obtain ⟨w4, qw4⟩ : ∃ z, z = wset w1 110 3 ((w1 110 3) + 1) := ⟨_, rfl⟩
        have h := h w4 qw4
        refine pfX3_88 rfl dX3_skipPart_67 ob_110 ?_
        rw [← qw4]
        obtain ⟨s8, h⟩ := h
        refine WA.iinc (als' := [some (.inr (.inr 109)), some (.inl (v1 + 1)), some (.inl (v2 + 1)), some (.inl x1)]) dX3_skipPart_70 rfl s8 rfl ?_
        refine WA.goto (tgt := 4) dX3_skipPart_73 (by decide) ?_
        exact WA.sub (als' := [some (.inr (.inr 109)), some (.inl (v1 + 1)), some (.inl (v2 + 1)), none]) (by simp only [am_sub, and_self]) rfl h
    · have h := h.2 hc
      refine WA.iload_n dX3_skipPart_23 rfl ?_
      refine WA.bipush dX3_skipPart_24 ⟨by decide, by decide⟩ ?_
      refine WA.icmp_eq (tgt := 35) dX3_skipPart_26 (by decide) (fun hc => ?_) (fun hc => ?_)
      · have h := h.1 hc
        exact WA.vreturn dX3_skipPart_35 ⟨rfl, h⟩
      · have h := h.2 hc
        refine WA.iload_n dX3_skipPart_29 rfl ?_
        refine WA.bipush dX3_skipPart_30 ⟨by decide, by decide⟩ ?_
        refine WA.icmp_ne (tgt := 36) dX3_skipPart_32 (by decide) (fun hc => ?_) (fun hc => ?_)
        · have h := h.1 hc
          refine WA.iload_n dX3_skipPart_36 rfl ?_
          refine WA.bipush dX3_skipPart_37 ⟨by decide, by decide⟩ ?_
          refine WA.icmp_ne (tgt := 48) dX3_skipPart_39 (by decide) (fun hc => ?_) (fun hc => ?_)
          · have h := h.1 hc
            refine WA.iload_n dX3_skipPart_48 rfl ?_
            refine WA.bipush dX3_skipPart_49 ⟨by decide, by decide⟩ ?_
            refine WA.icmp_ne (tgt := 57) dX3_skipPart_51 (by decide) (fun hc => ?_) (fun hc => ?_)
            · have h := h.1 hc
              refine WA.aload_n dX3_skipPart_57 rfl (by decide) ?_
              refine gxX3_12 rfl rfl dX3_skipPart_58 ob_109 ?_
              refine WA.dup dX3_skipPart_61 rfl ?_
              refine gfX3_88 rfl dX3_skipPart_62 ob_110 ?_
              refine WA.iconst dX3_skipPart_65 ⟨by decide, by decide⟩ ?_
              obtain ⟨s9, h⟩ := h
              refine WA.iadd dX3_skipPart_66 s9 ?_
              obtain ⟨w5, qw5⟩ : ∃ z, z = wset w1 110 3 ((w1 110 3) + 1) := ⟨_, rfl⟩
              have h := h w5 qw5
              refine pfX3_88 rfl dX3_skipPart_67 ob_110 ?_
              rw [← qw5]
              obtain ⟨s10, h⟩ := h
              refine WA.iinc (als' := [some (.inr (.inr 109)), some (.inl v1), some (.inl (v2 + 1)), some (.inl x1)]) dX3_skipPart_70 rfl s10 rfl ?_
              refine WA.goto (tgt := 4) dX3_skipPart_73 (by decide) ?_
              exact WA.sub (als' := [some (.inr (.inr 109)), some (.inl v1), some (.inl (v2 + 1)), none]) (by simp only [am_sub, and_self]) rfl h
            · have h := h.2 hc
              obtain ⟨s11, h⟩ := h
              refine WA.iinc (als' := [some (.inr (.inr 109)), some (.inl (v1 + (-1))), some (.inl v2), some (.inl x1)]) dX3_skipPart_54 rfl s11 rfl ?_
              refine WA.aload_n dX3_skipPart_57 rfl (by decide) ?_
              refine gxX3_12 rfl rfl dX3_skipPart_58 ob_109 ?_
              refine WA.dup dX3_skipPart_61 rfl ?_
              refine gfX3_88 rfl dX3_skipPart_62 ob_110 ?_
              refine WA.iconst dX3_skipPart_65 ⟨by decide, by decide⟩ ?_
              obtain ⟨s12, h⟩ := h
              refine WA.iadd dX3_skipPart_66 s12 ?_
              obtain ⟨w6, qw6⟩ : ∃ z, z = wset w1 110 3 ((w1 110 3) + 1) := ⟨_, rfl⟩
              have h := h w6 qw6
              refine pfX3_88 rfl dX3_skipPart_67 ob_110 ?_
              rw [← qw6]
              obtain ⟨s13, h⟩ := h
              refine WA.iinc (als' := [some (.inr (.inr 109)), some (.inl (v1 + (-1))), some (.inl (v2 + 1)), some (.inl x1)]) dX3_skipPart_70 rfl s13 rfl ?_
              refine WA.goto (tgt := 4) dX3_skipPart_73 (by decide) ?_
              exact WA.sub (als' := [some (.inr (.inr 109)), some (.inl (v1 + (-1))), some (.inl (v2 + 1)), none]) (by simp only [am_sub, and_self]) rfl h
          · have h := h.2 hc
            obtain ⟨s14, h⟩ := h
            refine WA.iinc (als' := [some (.inr (.inr 109)), some (.inl (v1 + 1)), some (.inl v2), some (.inl x1)]) dX3_skipPart_42 rfl s14 rfl ?_
            refine WA.goto (tgt := 57) dX3_skipPart_45 (by decide) ?_
            refine WA.aload_n dX3_skipPart_57 rfl (by decide) ?_
            refine gxX3_12 rfl rfl dX3_skipPart_58 ob_109 ?_
            refine WA.dup dX3_skipPart_61 rfl ?_
            refine gfX3_88 rfl dX3_skipPart_62 ob_110 ?_
            refine WA.iconst dX3_skipPart_65 ⟨by decide, by decide⟩ ?_
            obtain ⟨s15, h⟩ := h
            refine WA.iadd dX3_skipPart_66 s15 ?_
            obtain ⟨w7, qw7⟩ : ∃ z, z = wset w1 110 3 ((w1 110 3) + 1) := ⟨_, rfl⟩
            have h := h w7 qw7
            refine pfX3_88 rfl dX3_skipPart_67 ob_110 ?_
            rw [← qw7]
            obtain ⟨s16, h⟩ := h
            refine WA.iinc (als' := [some (.inr (.inr 109)), some (.inl (v1 + 1)), some (.inl (v2 + 1)), some (.inl x1)]) dX3_skipPart_70 rfl s16 rfl ?_
            refine WA.goto (tgt := 4) dX3_skipPart_73 (by decide) ?_
            exact WA.sub (als' := [some (.inr (.inr 109)), some (.inl (v1 + 1)), some (.inl (v2 + 1)), none]) (by simp only [am_sub, and_self]) rfl h
        · have h := h.2 hc
          exact WA.vreturn dX3_skipPart_35 ⟨rfl, h⟩
set_option maxRecDepth 10000 in
theorem e_X3_skipPart {d : Nat} {w : Wd} {K : Wd → Prop}  
    (h : W_X3_skipPart d 4 [some (.inr (.inr 109)), some (.inl 0), some (.inl 0), none] [] w K) :
    E_X3_skipPart d [.inr (.inr 109)] w K := by
  refine EvA.of (by decide +kernel) (Nat.le_of_ble_eq_true rfl) ?_
  change W_X3_skipPart d 0 [some (.inr (.inr 109)), none, none, none] [] w K
  refine WA.iconst dX3_skipPart_0 ⟨by decide, by decide⟩ ?_
  refine WA.istore_n (als' := [some (.inr (.inr 109)), some (.inl 0), none, none]) dX3_skipPart_1 (Nat.le_of_ble_eq_true rfl) rfl ?_
  refine WA.iconst dX3_skipPart_2 ⟨by decide, by decide⟩ ?_
  refine WA.istore_n (als' := [some (.inr (.inr 109)), some (.inl 0), some (.inl 0), none]) dX3_skipPart_3 (Nat.le_of_ble_eq_true rfl) rfl ?_
  exact h
set_option maxRecDepth 10000 in
theorem e_X3_combine {d : Nat} {w : Wd} {K : Int → Wd → Prop} {a1 a2 : Int}  
    (h : C_X3_formula d [.inr (.inr 109), .inl a2] w (fun x1 w1 => (-2147483648 ≤ ((w1 110 3) + 1) ∧ ((w1 110 3) + 1) ≤ 2147483647) ∧ (∀ w2, w2 = wset w1 110 3 ((w1 110 3) + 1) → ((¬ (w2 109 6) = 0 → (-2147483648 ≤ ((w2 110 3) + 1) ∧ ((w2 110 3) + 1) ≤ 2147483647) ∧ (∀ w3, w3 = wset w2 110 3 ((w2 110 3) + 1) → (((w3 109 6) = 0 → ((¬ a1 = 4 → C_X3_fail d [.inr (.inr 109), .inl 2] w3 (fun x2 w4 => K x2 w4)) ∧ (a1 = 4 → ((x1 < 0 → C_X3_fail d [.inr (.inr 109), .inl 3] w3 (fun x3 w5 => K x3 w5)) ∧ (¬ (x1 < 0) → ((8 ≤ x1 → C_X3_fail d [.inr (.inr 109), .inl 3] w3 (fun x4 w6 => K x4 w6)) ∧ (¬ (8 ≤ x1) → (-9223372036854775808 ≤ (0 + x1) ∧ (0 + x1) ≤ 9223372036854775807) ∧ (-2147483648 ≤ (0 + x1) ∧ (0 + x1) ≤ 2147483647) ∧ C_X3_readCell d [.inr (.inr 109), .inl (0 + x1)] w3 (fun x5 w7 => K x5 w7)))))))) ∧ (¬ (w3 109 6) = 0 → K 0 w3)))) ∧ ((w2 109 6) = 0 → C_X3_formula d [.inr (.inr 109), .inl a2] w2 (fun x6 w8 => (-2147483648 ≤ ((w8 110 3) + 1) ∧ ((w8 110 3) + 1) ≤ 2147483647) ∧ (∀ w9, w9 = wset w8 110 3 ((w8 110 3) + 1) → (((w9 109 6) = 0 → ((¬ a1 = 4 → ((¬ x6 = 0 → ((¬ a1 = 2 → C_J9_floorMod_f86c9 d [.inr (.inl x1), .inr (.inl x6)] w9 (fun x7 w10 => K x7 w10)) ∧ (a1 = 2 → C_J9_floorDiv_f86c9 d [.inr (.inl x1), .inr (.inl x6)] w9 (fun x8 w11 => K x8 w11)))) ∧ (x6 = 0 → C_X3_fail d [.inr (.inr 109), .inl 2] w9 (fun x9 w12 => K x9 w12)))) ∧ (a1 = 4 → ((x1 < 0 → C_X3_fail d [.inr (.inr 109), .inl 3] w9 (fun x10 w13 => K x10 w13)) ∧ (¬ (x1 < 0) → ((8 ≤ x1 → C_X3_fail d [.inr (.inr 109), .inl 3] w9 (fun x11 w14 => K x11 w14)) ∧ (¬ (8 ≤ x1) → ((x6 < 0 → C_X3_fail d [.inr (.inr 109), .inl 3] w9 (fun x12 w15 => K x12 w15)) ∧ (¬ (x6 < 0) → ((9 ≤ x6 → C_X3_fail d [.inr (.inr 109), .inl 3] w9 (fun x13 w16 => K x13 w16)) ∧ (¬ (9 ≤ x6) → (-9223372036854775808 ≤ (x6 * 8) ∧ (x6 * 8) ≤ 9223372036854775807) ∧ (-9223372036854775808 ≤ ((x6 * 8) + x1) ∧ ((x6 * 8) + x1) ≤ 9223372036854775807) ∧ (-2147483648 ≤ ((x6 * 8) + x1) ∧ ((x6 * 8) + x1) ≤ 2147483647) ∧ C_X3_readCell d [.inr (.inr 109), .inl ((x6 * 8) + x1)] w9 (fun x14 w17 => K x14 w17)))))))))))) ∧ (¬ (w9 109 6) = 0 → K 0 w9))))))))) :
    E_X3_combine d [.inr (.inr 109), .inl a1, .inl a2] w K := by
  refine EvA.of (by decide +kernel) (Nat.le_of_ble_eq_true rfl) ?_
  change W_X3_combine d 0 [some (.inr (.inr 109)), some (.inl a1), some (.inl a2), none, none, none, none, none] [] w K
  refine WA.aload_n dX3_combine_0 rfl (by decide) ?_
  refine WA.iload_n dX3_combine_1 rfl ?_
  obtain ⟨d1, hd1, h⟩ := h
  refine WA.callV1 (kc := 0) (ks := 0) (kc' := 0) (ks' := 0) dX3_combine_2 lkX3_63 rfl rfl rfl ob_109 rfl (Nat.le_of_ble_eq_true rfl) hd1 h (fun r w1 hK => ?_)
  obtain ⟨x1, rfl, h⟩ := hK
  change WA _ _ _ _ _ _ _ _ _ _ _ [.inr (.inl x1)] _ _
  refine WA.lstore_n (als' := [some (.inr (.inr 109)), some (.inl a1), some (.inl a2), some (.inr (.inl x1)), none, none, none, none]) dX3_combine_5 (Nat.le_of_ble_eq_true rfl) rfl ?_
  refine WA.aload_n dX3_combine_6 rfl (by decide) ?_
  refine gxX3_12 rfl rfl dX3_combine_7 ob_109 ?_
  refine WA.dup dX3_combine_10 rfl ?_
  refine gfX3_88 rfl dX3_combine_11 ob_110 ?_
  refine WA.iconst dX3_combine_14 ⟨by decide, by decide⟩ ?_
  obtain ⟨s1, h⟩ := h
  refine WA.iadd dX3_combine_15 s1 ?_
  obtain ⟨w2, qw2⟩ : ∃ z, z = wset w1 110 3 ((w1 110 3) + 1) := ⟨_, rfl⟩
  have h := h w2 qw2
  refine pfX3_88 rfl dX3_combine_16 ob_110 ?_
  rw [← qw2]
  refine WA.aload_n dX3_combine_19 rfl (by decide) ?_
  refine gfX3_33 rfl dX3_combine_20 ob_109 ?_
  refine WA.if_ne (tgt := 34) dX3_combine_23 (by decide) (fun hc => ?_) (fun hc => ?_)
  · have h := h.1 hc
    refine WA.lconst (x := 0) dX3_combine_34 rfl ?_
    refine WA.lstore (als' := [some (.inr (.inr 109)), some (.inl a1), some (.inl a2), some (.inr (.inl x1)), none, some (.inr (.inl 0)), none, none]) dX3_combine_35 (Nat.le_of_ble_eq_true rfl) rfl ?_
    refine WA.aload_n dX3_combine_37 rfl (by decide) ?_
    refine gxX3_12 rfl rfl dX3_combine_38 ob_109 ?_
    refine WA.dup dX3_combine_41 rfl ?_
    refine gfX3_88 rfl dX3_combine_42 ob_110 ?_
    refine WA.iconst dX3_combine_45 ⟨by decide, by decide⟩ ?_
    obtain ⟨s2, h⟩ := h
    refine WA.iadd dX3_combine_46 s2 ?_
    obtain ⟨w3, qw3⟩ : ∃ z, z = wset w2 110 3 ((w2 110 3) + 1) := ⟨_, rfl⟩
    have h := h w3 qw3
    refine pfX3_88 rfl dX3_combine_47 ob_110 ?_
    rw [← qw3]
    refine WA.aload_n dX3_combine_50 rfl (by decide) ?_
    refine gfX3_33 rfl dX3_combine_51 ob_109 ?_
    refine WA.if_eq (tgt := 59) dX3_combine_54 (by decide) (fun hc => ?_) (fun hc => ?_)
    · have h := h.1 hc
      refine WA.iload_n dX3_combine_59 rfl ?_
      refine WA.iconst dX3_combine_60 ⟨by decide, by decide⟩ ?_
      refine WA.icmp_ne (tgt := 128) dX3_combine_61 (by decide) (fun hc => ?_) (fun hc => ?_)
      · have h := h.1 hc
        refine WA.lload dX3_combine_128 rfl ?_
        refine WA.lconst (x := 0) dX3_combine_130 rfl ?_
        refine WA.lcmp_ne (tgt := 141) dX3_combine_131 dX3_combine_132 (by decide) (fun hc => absurd hc (by decide)) (fun _ => ?_)
        refine WA.aload_n dX3_combine_135 rfl (by decide) ?_
        refine WA.iconst dX3_combine_136 ⟨by decide, by decide⟩ ?_
        obtain ⟨d1, hd1, h⟩ := h
        refine WA.callV1 (kc := 0) (ks := 0) (kc' := 0) (ks' := 0) dX3_combine_137 lkX3_85 rfl rfl rfl ob_109 rfl (Nat.le_of_ble_eq_true rfl) hd1 h (fun r w4 hK => ?_)
        obtain ⟨x2, rfl, h⟩ := hK
        change WA _ _ _ _ _ _ _ _ _ _ _ [.inr (.inl x2)] _ _
        exact WA.lreturn dX3_combine_140 ⟨_, rfl, h⟩
      · have h := h.2 hc
        refine WA.lload_n dX3_combine_64 rfl ?_
        refine WA.lconst (x := 0) dX3_combine_65 rfl ?_
        refine WA.lcmp_lt (tgt := 98) dX3_combine_66 dX3_combine_67 (by decide) (fun hc => ?_) (fun hc => ?_)
        · have h := h.1 hc
          refine WA.iconst dX3_combine_98 ⟨by decide, by decide⟩ ?_
          refine WA.istore (als' := [some (.inr (.inr 109)), some (.inl a1), some (.inl a2), some (.inr (.inl x1)), none, some (.inr (.inl 0)), none, some (.inl 0)]) dX3_combine_99 (Nat.le_of_ble_eq_true rfl) rfl ?_
          refine WA.iload dX3_combine_101 rfl ?_
          refine WA.if_eq (tgt := 122) dX3_combine_103 (by decide) (fun _ => ?_) (fun hc => absurd hc (by decide))
          refine WA.aload_n dX3_combine_122 rfl (by decide) ?_
          refine WA.iconst dX3_combine_123 ⟨by decide, by decide⟩ ?_
          obtain ⟨d1, hd1, h⟩ := h
          refine WA.callV1 (kc := 0) (ks := 0) (kc' := 0) (ks' := 0) dX3_combine_124 lkX3_85 rfl rfl rfl ob_109 rfl (Nat.le_of_ble_eq_true rfl) hd1 h (fun r w5 hK => ?_)
          obtain ⟨x3, rfl, h⟩ := hK
          change WA _ _ _ _ _ _ _ _ _ _ _ [.inr (.inl x3)] _ _
          exact WA.lreturn dX3_combine_127 ⟨_, rfl, h⟩
        · have h := h.2 hc
          refine WA.lload_n dX3_combine_70 rfl ?_
          refine WA.ldc2 (v := 8) (x := 8) dX3_combine_71 (am_mem 584 (by decide +kernel) rfl) (by decide) ?_
          refine WA.lcmp_ge (tgt := 98) dX3_combine_74 dX3_combine_75 (by decide) (fun hc => ?_) (fun hc => ?_)
          · have h := h.1 hc
            refine WA.iconst dX3_combine_98 ⟨by decide, by decide⟩ ?_
            refine WA.istore (als' := [some (.inr (.inr 109)), some (.inl a1), some (.inl a2), some (.inr (.inl x1)), none, some (.inr (.inl 0)), none, some (.inl 0)]) dX3_combine_99 (Nat.le_of_ble_eq_true rfl) rfl ?_
            refine WA.iload dX3_combine_101 rfl ?_
            refine WA.if_eq (tgt := 122) dX3_combine_103 (by decide) (fun _ => ?_) (fun hc => absurd hc (by decide))
            refine WA.aload_n dX3_combine_122 rfl (by decide) ?_
            refine WA.iconst dX3_combine_123 ⟨by decide, by decide⟩ ?_
            obtain ⟨d1, hd1, h⟩ := h
            refine WA.callV1 (kc := 0) (ks := 0) (kc' := 0) (ks' := 0) dX3_combine_124 lkX3_85 rfl rfl rfl ob_109 rfl (Nat.le_of_ble_eq_true rfl) hd1 h (fun r w6 hK => ?_)
            obtain ⟨x4, rfl, h⟩ := hK
            change WA _ _ _ _ _ _ _ _ _ _ _ [.inr (.inl x4)] _ _
            exact WA.lreturn dX3_combine_127 ⟨_, rfl, h⟩
          · have h := h.2 hc
            refine WA.lload dX3_combine_78 rfl ?_
            refine WA.lconst (x := 0) dX3_combine_80 rfl ?_
            refine WA.lcmp_lt (tgt := 98) dX3_combine_81 dX3_combine_82 (by decide) (fun hc => absurd hc (by decide)) (fun _ => ?_)
            refine WA.lload dX3_combine_85 rfl ?_
            refine WA.ldc2 (v := 9) (x := 9) dX3_combine_87 (am_mem 585 (by decide +kernel) rfl) (by decide) ?_
            refine WA.lcmp_ge (tgt := 98) dX3_combine_90 dX3_combine_91 (by decide) (fun hc => absurd hc (by decide)) (fun _ => ?_)
            refine WA.iconst dX3_combine_94 ⟨by decide, by decide⟩ ?_
            refine WA.goto (tgt := 99) dX3_combine_95 (by decide) ?_
            refine WA.istore (als' := [some (.inr (.inr 109)), some (.inl a1), some (.inl a2), some (.inr (.inl x1)), none, some (.inr (.inl 0)), none, some (.inl 1)]) dX3_combine_99 (Nat.le_of_ble_eq_true rfl) rfl ?_
            refine WA.iload dX3_combine_101 rfl ?_
            refine WA.if_eq (tgt := 122) dX3_combine_103 (by decide) (fun hc => absurd hc (by decide)) (fun _ => ?_)
            refine WA.aload_n dX3_combine_106 rfl (by decide) ?_
            refine WA.lload dX3_combine_107 rfl ?_
            refine WA.ldc2 (v := 8) (x := 8) dX3_combine_109 (am_mem 584 (by decide +kernel) rfl) (by decide) ?_
            refine WA.lmul dX3_combine_112 ⟨by decide, by decide⟩ ?_
            refine WA.top (v2 := .inr (.inl 0)) rfl ?_
            refine WA.lload_n dX3_combine_113 rfl ?_
            obtain ⟨s3, h⟩ := h
            refine WA.ladd dX3_combine_114 s3 ?_
            obtain ⟨s4, h⟩ := h
            refine WA.l2i dX3_combine_115 s4 ?_
            obtain ⟨d1, hd1, h⟩ := h
            refine WA.callV1 (kc := 0) (ks := 0) (kc' := 0) (ks' := 0) dX3_combine_116 lkX3_110 rfl rfl rfl ob_109 rfl (Nat.le_of_ble_eq_true rfl) hd1 h (fun r w7 hK => ?_)
            obtain ⟨x5, rfl, h⟩ := hK
            change WA _ _ _ _ _ _ _ _ _ _ _ [.inr (.inl x5)] _ _
            refine WA.goto (tgt := 127) dX3_combine_119 (by decide) ?_
            exact WA.lreturn dX3_combine_127 ⟨_, rfl, h⟩
    · have h := h.2 hc
      refine WA.lconst (x := 0) dX3_combine_57 rfl ?_
      exact WA.lreturn dX3_combine_58 ⟨_, rfl, h⟩
  · have h := h.2 hc
    refine WA.aload_n dX3_combine_26 rfl (by decide) ?_
    refine WA.iload_n dX3_combine_27 rfl ?_
    obtain ⟨d1, hd1, h⟩ := h
    refine WA.callV1 (kc := 0) (ks := 0) (kc' := 0) (ks' := 0) dX3_combine_28 lkX3_63 rfl rfl rfl ob_109 rfl (Nat.le_of_ble_eq_true rfl) hd1 h (fun r w8 hK => ?_)
    obtain ⟨x6, rfl, h⟩ := hK
    change WA _ _ _ _ _ _ _ _ _ _ _ [.inr (.inl x6)] _ _
    refine WA.goto (tgt := 35) dX3_combine_31 (by decide) ?_
    refine WA.lstore (als' := [some (.inr (.inr 109)), some (.inl a1), some (.inl a2), some (.inr (.inl x1)), none, some (.inr (.inl x6)), none, none]) dX3_combine_35 (Nat.le_of_ble_eq_true rfl) rfl ?_
    refine WA.aload_n dX3_combine_37 rfl (by decide) ?_
    refine gxX3_12 rfl rfl dX3_combine_38 ob_109 ?_
    refine WA.dup dX3_combine_41 rfl ?_
    refine gfX3_88 rfl dX3_combine_42 ob_110 ?_
    refine WA.iconst dX3_combine_45 ⟨by decide, by decide⟩ ?_
    obtain ⟨s5, h⟩ := h
    refine WA.iadd dX3_combine_46 s5 ?_
    obtain ⟨w9, qw9⟩ : ∃ z, z = wset w8 110 3 ((w8 110 3) + 1) := ⟨_, rfl⟩
    have h := h w9 qw9
    refine pfX3_88 rfl dX3_combine_47 ob_110 ?_
    rw [← qw9]
    refine WA.aload_n dX3_combine_50 rfl (by decide) ?_
    refine gfX3_33 rfl dX3_combine_51 ob_109 ?_
    refine WA.if_eq (tgt := 59) dX3_combine_54 (by decide) (fun hc => ?_) (fun hc => ?_)
    · have h := h.1 hc
      refine WA.iload_n dX3_combine_59 rfl ?_
      refine WA.iconst dX3_combine_60 ⟨by decide, by decide⟩ ?_
      refine WA.icmp_ne (tgt := 128) dX3_combine_61 (by decide) (fun hc => ?_) (fun hc => ?_)
      · have h := h.1 hc
        refine WA.lload dX3_combine_128 rfl ?_
        refine WA.lconst (x := 0) dX3_combine_130 rfl ?_
        refine WA.lcmp_ne (tgt := 141) dX3_combine_131 dX3_combine_132 (by decide) (fun hc => ?_) (fun hc => ?_)
        · have h := h.1 hc
          refine WA.iload_n dX3_combine_141 rfl ?_
          refine WA.iconst dX3_combine_142 ⟨by decide, by decide⟩ ?_
          refine WA.icmp_ne (tgt := 155) dX3_combine_143 (by decide) (fun hc => ?_) (fun hc => ?_)
          · have h := h.1 hc
            refine WA.lload_n dX3_combine_155 rfl ?_
            refine WA.lload dX3_combine_156 rfl ?_
            obtain ⟨d1, hd1, h⟩ := h
            refine WA.callS2 (kc := 0) (ks := 0) (kc' := 0) (ks' := 0) dX3_combine_158 lkX3_173 rfl rfl rfl (Nat.le_of_ble_eq_true rfl) hd1 h (fun r w10 hK => ?_)
            obtain ⟨x7, rfl, h⟩ := hK
            change WA _ _ _ _ _ _ _ _ _ _ _ [.inr (.inl x7)] _ _
            exact WA.lreturn dX3_combine_161 ⟨_, rfl, h⟩
          · have h := h.2 hc
            refine WA.lload_n dX3_combine_146 rfl ?_
            refine WA.lload dX3_combine_147 rfl ?_
            obtain ⟨d1, hd1, h⟩ := h
            refine WA.callS2 (kc := 0) (ks := 0) (kc' := 0) (ks' := 0) dX3_combine_149 lkX3_167 rfl rfl rfl (Nat.le_of_ble_eq_true rfl) hd1 h (fun r w11 hK => ?_)
            obtain ⟨x8, rfl, h⟩ := hK
            change WA _ _ _ _ _ _ _ _ _ _ _ [.inr (.inl x8)] _ _
            refine WA.goto (tgt := 161) dX3_combine_152 (by decide) ?_
            exact WA.lreturn dX3_combine_161 ⟨_, rfl, h⟩
        · have h := h.2 hc
          refine WA.aload_n dX3_combine_135 rfl (by decide) ?_
          refine WA.iconst dX3_combine_136 ⟨by decide, by decide⟩ ?_
          obtain ⟨d1, hd1, h⟩ := h
          refine WA.callV1 (kc := 0) (ks := 0) (kc' := 0) (ks' := 0) dX3_combine_137 lkX3_85 rfl rfl rfl ob_109 rfl (Nat.le_of_ble_eq_true rfl) hd1 h (fun r w12 hK => ?_)
          obtain ⟨x9, rfl, h⟩ := hK
          change WA _ _ _ _ _ _ _ _ _ _ _ [.inr (.inl x9)] _ _
          exact WA.lreturn dX3_combine_140 ⟨_, rfl, h⟩
      · have h := h.2 hc
        refine WA.lload_n dX3_combine_64 rfl ?_
        refine WA.lconst (x := 0) dX3_combine_65 rfl ?_
        refine WA.lcmp_lt (tgt := 98) dX3_combine_66 dX3_combine_67 (by decide) (fun hc => ?_) (fun hc => ?_)
        · have h := h.1 hc
          refine WA.iconst dX3_combine_98 ⟨by decide, by decide⟩ ?_
          refine WA.istore (als' := [some (.inr (.inr 109)), some (.inl a1), some (.inl a2), some (.inr (.inl x1)), none, some (.inr (.inl x6)), none, some (.inl 0)]) dX3_combine_99 (Nat.le_of_ble_eq_true rfl) rfl ?_
          refine WA.iload dX3_combine_101 rfl ?_
          refine WA.if_eq (tgt := 122) dX3_combine_103 (by decide) (fun _ => ?_) (fun hc => absurd hc (by decide))
          refine WA.aload_n dX3_combine_122 rfl (by decide) ?_
          refine WA.iconst dX3_combine_123 ⟨by decide, by decide⟩ ?_
          obtain ⟨d1, hd1, h⟩ := h
          refine WA.callV1 (kc := 0) (ks := 0) (kc' := 0) (ks' := 0) dX3_combine_124 lkX3_85 rfl rfl rfl ob_109 rfl (Nat.le_of_ble_eq_true rfl) hd1 h (fun r w13 hK => ?_)
          obtain ⟨x10, rfl, h⟩ := hK
          change WA _ _ _ _ _ _ _ _ _ _ _ [.inr (.inl x10)] _ _
          exact WA.lreturn dX3_combine_127 ⟨_, rfl, h⟩
        · have h := h.2 hc
          refine WA.lload_n dX3_combine_70 rfl ?_
          refine WA.ldc2 (v := 8) (x := 8) dX3_combine_71 (am_mem 584 (by decide +kernel) rfl) (by decide) ?_
          refine WA.lcmp_ge (tgt := 98) dX3_combine_74 dX3_combine_75 (by decide) (fun hc => ?_) (fun hc => ?_)
          · have h := h.1 hc
            refine WA.iconst dX3_combine_98 ⟨by decide, by decide⟩ ?_
            refine WA.istore (als' := [some (.inr (.inr 109)), some (.inl a1), some (.inl a2), some (.inr (.inl x1)), none, some (.inr (.inl x6)), none, some (.inl 0)]) dX3_combine_99 (Nat.le_of_ble_eq_true rfl) rfl ?_
            refine WA.iload dX3_combine_101 rfl ?_
            refine WA.if_eq (tgt := 122) dX3_combine_103 (by decide) (fun _ => ?_) (fun hc => absurd hc (by decide))
            refine WA.aload_n dX3_combine_122 rfl (by decide) ?_
            refine WA.iconst dX3_combine_123 ⟨by decide, by decide⟩ ?_
            obtain ⟨d1, hd1, h⟩ := h
            refine WA.callV1 (kc := 0) (ks := 0) (kc' := 0) (ks' := 0) dX3_combine_124 lkX3_85 rfl rfl rfl ob_109 rfl (Nat.le_of_ble_eq_true rfl) hd1 h (fun r w14 hK => ?_)
            obtain ⟨x11, rfl, h⟩ := hK
            change WA _ _ _ _ _ _ _ _ _ _ _ [.inr (.inl x11)] _ _
            exact WA.lreturn dX3_combine_127 ⟨_, rfl, h⟩
          · have h := h.2 hc
            refine WA.lload dX3_combine_78 rfl ?_
            refine WA.lconst (x := 0) dX3_combine_80 rfl ?_
            refine WA.lcmp_lt (tgt := 98) dX3_combine_81 dX3_combine_82 (by decide) (fun hc => ?_) (fun hc => ?_)
            · have h := h.1 hc
              refine WA.iconst dX3_combine_98 ⟨by decide, by decide⟩ ?_
              refine WA.istore (als' := [some (.inr (.inr 109)), some (.inl a1), some (.inl a2), some (.inr (.inl x1)), none, some (.inr (.inl x6)), none, some (.inl 0)]) dX3_combine_99 (Nat.le_of_ble_eq_true rfl) rfl ?_
              refine WA.iload dX3_combine_101 rfl ?_
              refine WA.if_eq (tgt := 122) dX3_combine_103 (by decide) (fun _ => ?_) (fun hc => absurd hc (by decide))
              refine WA.aload_n dX3_combine_122 rfl (by decide) ?_
              refine WA.iconst dX3_combine_123 ⟨by decide, by decide⟩ ?_
              obtain ⟨d1, hd1, h⟩ := h
              refine WA.callV1 (kc := 0) (ks := 0) (kc' := 0) (ks' := 0) dX3_combine_124 lkX3_85 rfl rfl rfl ob_109 rfl (Nat.le_of_ble_eq_true rfl) hd1 h (fun r w15 hK => ?_)
              obtain ⟨x12, rfl, h⟩ := hK
              change WA _ _ _ _ _ _ _ _ _ _ _ [.inr (.inl x12)] _ _
              exact WA.lreturn dX3_combine_127 ⟨_, rfl, h⟩
            · have h := h.2 hc
              refine WA.lload dX3_combine_85 rfl ?_
              refine WA.ldc2 (v := 9) (x := 9) dX3_combine_87 (am_mem 585 (by decide +kernel) rfl) (by decide) ?_
              refine WA.lcmp_ge (tgt := 98) dX3_combine_90 dX3_combine_91 (by decide) (fun hc => ?_) (fun hc => ?_)
              · have h := h.1 hc
                refine WA.iconst dX3_combine_98 ⟨by decide, by decide⟩ ?_
                refine WA.istore (als' := [some (.inr (.inr 109)), some (.inl a1), some (.inl a2), some (.inr (.inl x1)), none, some (.inr (.inl x6)), none, some (.inl 0)]) dX3_combine_99 (Nat.le_of_ble_eq_true rfl) rfl ?_
                refine WA.iload dX3_combine_101 rfl ?_
                refine WA.if_eq (tgt := 122) dX3_combine_103 (by decide) (fun _ => ?_) (fun hc => absurd hc (by decide))
                refine WA.aload_n dX3_combine_122 rfl (by decide) ?_
                refine WA.iconst dX3_combine_123 ⟨by decide, by decide⟩ ?_
                obtain ⟨d1, hd1, h⟩ := h
                refine WA.callV1 (kc := 0) (ks := 0) (kc' := 0) (ks' := 0) dX3_combine_124 lkX3_85 rfl rfl rfl ob_109 rfl (Nat.le_of_ble_eq_true rfl) hd1 h (fun r w16 hK => ?_)
                obtain ⟨x13, rfl, h⟩ := hK
                change WA _ _ _ _ _ _ _ _ _ _ _ [.inr (.inl x13)] _ _
                exact WA.lreturn dX3_combine_127 ⟨_, rfl, h⟩
              · have h := h.2 hc
                refine WA.iconst dX3_combine_94 ⟨by decide, by decide⟩ ?_
                refine WA.goto (tgt := 99) dX3_combine_95 (by decide) ?_
                refine WA.istore (als' := [some (.inr (.inr 109)), some (.inl a1), some (.inl a2), some (.inr (.inl x1)), none, some (.inr (.inl x6)), none, some (.inl 1)]) dX3_combine_99 (Nat.le_of_ble_eq_true rfl) rfl ?_
                refine WA.iload dX3_combine_101 rfl ?_
                refine WA.if_eq (tgt := 122) dX3_combine_103 (by decide) (fun hc => absurd hc (by decide)) (fun _ => ?_)
                refine WA.aload_n dX3_combine_106 rfl (by decide) ?_
                refine WA.lload dX3_combine_107 rfl ?_
                refine WA.ldc2 (v := 8) (x := 8) dX3_combine_109 (am_mem 584 (by decide +kernel) rfl) (by decide) ?_
                obtain ⟨s6, h⟩ := h
                refine WA.lmul dX3_combine_112 s6 ?_
                refine WA.lload_n dX3_combine_113 rfl ?_
                obtain ⟨s7, h⟩ := h
                refine WA.ladd dX3_combine_114 s7 ?_
                obtain ⟨s8, h⟩ := h
                refine WA.l2i dX3_combine_115 s8 ?_
                obtain ⟨d1, hd1, h⟩ := h
                refine WA.callV1 (kc := 0) (ks := 0) (kc' := 0) (ks' := 0) dX3_combine_116 lkX3_110 rfl rfl rfl ob_109 rfl (Nat.le_of_ble_eq_true rfl) hd1 h (fun r w17 hK => ?_)
                obtain ⟨x14, rfl, h⟩ := hK
                change WA _ _ _ _ _ _ _ _ _ _ _ [.inr (.inl x14)] _ _
                refine WA.goto (tgt := 127) dX3_combine_119 (by decide) ?_
                exact WA.lreturn dX3_combine_127 ⟨_, rfl, h⟩
    · have h := h.2 hc
      refine WA.lconst (x := 0) dX3_combine_57 rfl ?_
      exact WA.lreturn dX3_combine_58 ⟨_, rfl, h⟩
set_option maxRecDepth 10000 in
theorem v_X3_gather_10 {d : Nat} {w : Wd} {K : Int → Wd → Prop} {a1 a2 v3 v5 v6 : Int}  
    (h : (0 ≤ a1 ∧ a1 < 9) ∧ (((am_most.getD a1.toNat 0) ≤ v6 → ((¬ v3 = (-2000000000) → K v3 w) ∧ (v3 = (-2000000000) → K 0 w))) ∧ (¬ ((am_most.getD a1.toNat 0) ≤ v6) → ((v5 = 0 → ((¬ v3 = (-2000000000) → K v3 w) ∧ (v3 = (-2000000000) → K 0 w))) ∧ (¬ v5 = 0 → C_X3_isAtArea d [.inr (.inr 109)] w (fun x1 w1 => ((x1 = 0 → C_X3_formula d [.inr (.inr 109), .inl a2] w1 (fun x2 w2 => C_X3_joined d [.inr (.inr 109), .inl a1, .inr (.inl v3), .inr (.inl x2)] w2 (fun x3 w3 => ((¬ (w3 109 6) = 0 → (-2147483648 ≤ ((w3 110 3) + 1) ∧ ((w3 110 3) + 1) ≤ 2147483647) ∧ (∀ w4, w4 = wset w3 110 3 ((w3 110 3) + 1) → (-2147483648 ≤ (v6 + 1) ∧ (v6 + 1) ≤ 2147483647) ∧ W_X3_gather d 10 [some (.inr (.inr 109)), some (.inl a1), some (.inl a2), some (.inr (.inl x3)), none, some (.inl 0), some (.inl (v6 + 1))] [] w4 K)) ∧ ((w3 109 6) = 0 → C_X2_look d [.inr (.inr 110), .inl 0] w3 (fun x4 w5 => ((¬ x4 = 44 → (-2147483648 ≤ ((w5 110 3) + 1) ∧ ((w5 110 3) + 1) ≤ 2147483647) ∧ (∀ w6, w6 = wset w5 110 3 ((w5 110 3) + 1) → (-2147483648 ≤ (v6 + 1) ∧ (v6 + 1) ≤ 2147483647) ∧ W_X3_gather d 10 [some (.inr (.inr 109)), some (.inl a1), some (.inl a2), some (.inr (.inl x3)), none, some (.inl 0), some (.inl (v6 + 1))] [] w6 K)) ∧ (x4 = 44 → (-2147483648 ≤ ((w5 110 3) + 1) ∧ ((w5 110 3) + 1) ≤ 2147483647) ∧ (∀ w7, w7 = wset w5 110 3 ((w5 110 3) + 1) → (-2147483648 ≤ (v6 + 1) ∧ (v6 + 1) ≤ 2147483647) ∧ W_X3_gather d 10 [some (.inr (.inr 109)), some (.inl a1), some (.inl a2), some (.inr (.inl x3)), none, some (.inl 1), some (.inl (v6 + 1))] [] w7 K))))))))) ∧ (¬ x1 = 0 → C_X3_gatherArea d [.inr (.inr 109), .inl a1, .inr (.inl v3)] w1 (fun x5 w8 => ((¬ (w8 109 6) = 0 → (-2147483648 ≤ ((w8 110 3) + 1) ∧ ((w8 110 3) + 1) ≤ 2147483647) ∧ (∀ w9, w9 = wset w8 110 3 ((w8 110 3) + 1) → (-2147483648 ≤ (v6 + 1) ∧ (v6 + 1) ≤ 2147483647) ∧ W_X3_gather d 10 [some (.inr (.inr 109)), some (.inl a1), some (.inl a2), some (.inr (.inl x5)), none, some (.inl 0), some (.inl (v6 + 1))] [] w9 K)) ∧ ((w8 109 6) = 0 → C_X2_look d [.inr (.inr 110), .inl 0] w8 (fun x6 w10 => ((¬ x6 = 44 → (-2147483648 ≤ ((w10 110 3) + 1) ∧ ((w10 110 3) + 1) ≤ 2147483647) ∧ (∀ w11, w11 = wset w10 110 3 ((w10 110 3) + 1) → (-2147483648 ≤ (v6 + 1) ∧ (v6 + 1) ≤ 2147483647) ∧ W_X3_gather d 10 [some (.inr (.inr 109)), some (.inl a1), some (.inl a2), some (.inr (.inl x5)), none, some (.inl 0), some (.inl (v6 + 1))] [] w11 K)) ∧ (x6 = 44 → (-2147483648 ≤ ((w10 110 3) + 1) ∧ ((w10 110 3) + 1) ≤ 2147483647) ∧ (∀ w12, w12 = wset w10 110 3 ((w10 110 3) + 1) → (-2147483648 ≤ (v6 + 1) ∧ (v6 + 1) ≤ 2147483647) ∧ W_X3_gather d 10 [some (.inr (.inr 109)), some (.inl a1), some (.inl a2), some (.inr (.inl x5)), none, some (.inl 1), some (.inl (v6 + 1))] [] w12 K))))))))))))))) :
    W_X3_gather d 10 [some (.inr (.inr 109)), some (.inl a1), some (.inl a2), some (.inr (.inl v3)), none, some (.inl v5), some (.inl v6)] [] w K := by
  refine WA.iload dX3_gather_10 rfl ?_
  refine WA.getmost dX3_gather_12 (am_memN 575 (by decide +kernel) rfl) ?_
  refine WA.iload_n dX3_gather_15 rfl ?_
  obtain ⟨s1, h⟩ := h
  refine WA.most dX3_gather_16 s1.1 s1.2 ?_
  refine WA.icmp_ge (tgt := 100) dX3_gather_17 (by decide) (fun hc => ?_) (fun hc => ?_)
  · have h := h.1 hc
    refine WA.lload_n dX3_gather_100 rfl ?_
    refine WA.ldc2 (v := (-2000000000)) (x := (-2000000000)) dX3_gather_101 (am_mem 596 (by decide +kernel) rfl) (by decide) ?_
    refine WA.lcmp_ne (tgt := 112) dX3_gather_104 dX3_gather_105 (by decide) (fun hc => ?_) (fun hc => ?_)
    · have h := h.1 hc
      refine WA.lload_n dX3_gather_112 rfl ?_
      exact WA.lreturn dX3_gather_113 ⟨_, rfl, h⟩
    · have h := h.2 hc
      refine WA.lconst (x := 0) dX3_gather_108 rfl ?_
      refine WA.goto (tgt := 113) dX3_gather_109 (by decide) ?_
      exact WA.lreturn dX3_gather_113 ⟨_, rfl, h⟩
  · have h := h.2 hc
    refine WA.iload dX3_gather_20 rfl ?_
    refine WA.if_eq (tgt := 100) dX3_gather_22 (by decide) (fun hc => ?_) (fun hc => ?_)
    · have h := h.1 hc
      refine WA.lload_n dX3_gather_100 rfl ?_
      refine WA.ldc2 (v := (-2000000000)) (x := (-2000000000)) dX3_gather_101 (am_mem 596 (by decide +kernel) rfl) (by decide) ?_
      refine WA.lcmp_ne (tgt := 112) dX3_gather_104 dX3_gather_105 (by decide) (fun hc => ?_) (fun hc => ?_)
      · have h := h.1 hc
        refine WA.lload_n dX3_gather_112 rfl ?_
        exact WA.lreturn dX3_gather_113 ⟨_, rfl, h⟩
      · have h := h.2 hc
        refine WA.lconst (x := 0) dX3_gather_108 rfl ?_
        refine WA.goto (tgt := 113) dX3_gather_109 (by decide) ?_
        exact WA.lreturn dX3_gather_113 ⟨_, rfl, h⟩
    · have h := h.2 hc
      refine WA.aload_n dX3_gather_25 rfl (by decide) ?_
      obtain ⟨d1, hd1, h⟩ := h
      refine WA.callV0 (kc := 0) (ks := 0) (kc' := 0) (ks' := 0) dX3_gather_26 lkX3_178 rfl rfl rfl ob_109 rfl (Nat.le_of_ble_eq_true rfl) hd1 h (fun r w1 hK => ?_)
      obtain ⟨x1, rfl, h⟩ := hK
      change WA _ _ _ _ _ _ _ _ _ _ _ [.inl x1] _ _
      refine WA.if_eq (tgt := 42) dX3_gather_29 (by decide) (fun hc => ?_) (fun hc => ?_)
      · have h := h.1 hc
        refine WA.aload_n dX3_gather_42 rfl (by decide) ?_
        refine WA.iload_n dX3_gather_43 rfl ?_
        refine WA.lload_n dX3_gather_44 rfl ?_
        refine WA.aload_n dX3_gather_45 rfl (by decide) ?_
        refine WA.iload_n dX3_gather_46 rfl ?_
        obtain ⟨d1, hd1, h⟩ := h
        refine WA.callV1 (kc := 0) (ks := 0) (kc' := 0) (ks' := 0) dX3_gather_47 lkX3_63 rfl rfl rfl ob_109 rfl (Nat.le_of_ble_eq_true rfl) hd1 h (fun r w2 hK => ?_)
        obtain ⟨x2, rfl, h⟩ := hK
        change WA _ _ _ _ _ _ _ _ _ _ _ [.inr (.inl x2), .inr (.inl v3), .inl a1, .inr (.inr 109)] _ _
        obtain ⟨d1, hd1, h⟩ := h
        refine WA.callV3 (kc := 0) (ks := 0) (kc' := 0) (ks' := 0) dX3_gather_50 lkX3_185 rfl rfl rfl ob_109 rfl (Nat.le_of_ble_eq_true rfl) hd1 h (fun r w3 hK => ?_)
        obtain ⟨x3, rfl, h⟩ := hK
        change WA _ _ _ _ _ _ _ _ _ _ _ [.inr (.inl x3)] _ _
        refine WA.lstore_n (als' := [some (.inr (.inr 109)), some (.inl a1), some (.inl a2), some (.inr (.inl x3)), none, some (.inl v5), some (.inl v6)]) dX3_gather_53 (Nat.le_of_ble_eq_true rfl) rfl ?_
        refine WA.aload_n dX3_gather_54 rfl (by decide) ?_
        refine gfX3_33 rfl dX3_gather_55 ob_109 ?_
        refine WA.if_ne (tgt := 78) dX3_gather_58 (by decide) (fun hc => ?_) (fun hc => ?_)
        · have h := h.1 hc
          refine WA.iconst dX3_gather_78 ⟨by decide, by decide⟩ ?_
          refine WA.istore (als' := [some (.inr (.inr 109)), some (.inl a1), some (.inl a2), some (.inr (.inl x3)), none, some (.inl 0), some (.inl v6)]) dX3_gather_79 (Nat.le_of_ble_eq_true rfl) rfl ?_
          refine WA.aload_n dX3_gather_81 rfl (by decide) ?_
          refine gxX3_12 rfl rfl dX3_gather_82 ob_109 ?_
          refine WA.dup dX3_gather_85 rfl ?_
          refine gfX3_88 rfl dX3_gather_86 ob_110 ?_
          refine WA.iconst dX3_gather_89 ⟨by decide, by decide⟩ ?_
          obtain ⟨s2, h⟩ := h
          refine WA.iadd dX3_gather_90 s2 ?_
          obtain ⟨w4, qw4⟩ : ∃ z, z = wset w3 110 3 ((w3 110 3) + 1) := ⟨_, rfl⟩
          have h := h w4 qw4
          refine pfX3_88 rfl dX3_gather_91 ob_110 ?_
          rw [← qw4]
          obtain ⟨s3, h⟩ := h
          refine WA.iinc (als' := [some (.inr (.inr 109)), some (.inl a1), some (.inl a2), some (.inr (.inl x3)), none, some (.inl 0), some (.inl (v6 + 1))]) dX3_gather_94 rfl s3 rfl ?_
          refine WA.goto (tgt := 10) dX3_gather_97 (by decide) ?_
          exact h
        · have h := h.2 hc
          refine WA.aload_n dX3_gather_61 rfl (by decide) ?_
          refine gxX3_12 rfl rfl dX3_gather_62 ob_109 ?_
          refine WA.iconst dX3_gather_65 ⟨by decide, by decide⟩ ?_
          obtain ⟨d1, hd1, h⟩ := h
          refine WA.callV1 (kc := 0) (ks := 0) (kc' := 0) (ks' := 0) dX3_gather_66 lkX3_91 rfl rfl rfl ob_110 rfl (Nat.le_of_ble_eq_true rfl) hd1 h (fun r w5 hK => ?_)
          obtain ⟨x4, rfl, h⟩ := hK
          change WA _ _ _ _ _ _ _ _ _ _ _ [.inl x4] _ _
          refine WA.bipush dX3_gather_69 ⟨by decide, by decide⟩ ?_
          refine WA.icmp_ne (tgt := 78) dX3_gather_71 (by decide) (fun hc => ?_) (fun hc => ?_)
          · have h := h.1 hc
            refine WA.iconst dX3_gather_78 ⟨by decide, by decide⟩ ?_
            refine WA.istore (als' := [some (.inr (.inr 109)), some (.inl a1), some (.inl a2), some (.inr (.inl x3)), none, some (.inl 0), some (.inl v6)]) dX3_gather_79 (Nat.le_of_ble_eq_true rfl) rfl ?_
            refine WA.aload_n dX3_gather_81 rfl (by decide) ?_
            refine gxX3_12 rfl rfl dX3_gather_82 ob_109 ?_
            refine WA.dup dX3_gather_85 rfl ?_
            refine gfX3_88 rfl dX3_gather_86 ob_110 ?_
            refine WA.iconst dX3_gather_89 ⟨by decide, by decide⟩ ?_
            obtain ⟨s4, h⟩ := h
            refine WA.iadd dX3_gather_90 s4 ?_
            obtain ⟨w6, qw6⟩ : ∃ z, z = wset w5 110 3 ((w5 110 3) + 1) := ⟨_, rfl⟩
            have h := h w6 qw6
            refine pfX3_88 rfl dX3_gather_91 ob_110 ?_
            rw [← qw6]
            obtain ⟨s5, h⟩ := h
            refine WA.iinc (als' := [some (.inr (.inr 109)), some (.inl a1), some (.inl a2), some (.inr (.inl x3)), none, some (.inl 0), some (.inl (v6 + 1))]) dX3_gather_94 rfl s5 rfl ?_
            refine WA.goto (tgt := 10) dX3_gather_97 (by decide) ?_
            exact h
          · have h := h.2 hc
            refine WA.iconst dX3_gather_74 ⟨by decide, by decide⟩ ?_
            refine WA.goto (tgt := 79) dX3_gather_75 (by decide) ?_
            refine WA.istore (als' := [some (.inr (.inr 109)), some (.inl a1), some (.inl a2), some (.inr (.inl x3)), none, some (.inl 1), some (.inl v6)]) dX3_gather_79 (Nat.le_of_ble_eq_true rfl) rfl ?_
            refine WA.aload_n dX3_gather_81 rfl (by decide) ?_
            refine gxX3_12 rfl rfl dX3_gather_82 ob_109 ?_
            refine WA.dup dX3_gather_85 rfl ?_
            refine gfX3_88 rfl dX3_gather_86 ob_110 ?_
            refine WA.iconst dX3_gather_89 ⟨by decide, by decide⟩ ?_
            obtain ⟨s6, h⟩ := h
            refine WA.iadd dX3_gather_90 s6 ?_
            obtain ⟨w7, qw7⟩ : ∃ z, z = wset w5 110 3 ((w5 110 3) + 1) := ⟨_, rfl⟩
            have h := h w7 qw7
            refine pfX3_88 rfl dX3_gather_91 ob_110 ?_
            rw [← qw7]
            obtain ⟨s7, h⟩ := h
            refine WA.iinc (als' := [some (.inr (.inr 109)), some (.inl a1), some (.inl a2), some (.inr (.inl x3)), none, some (.inl 1), some (.inl (v6 + 1))]) dX3_gather_94 rfl s7 rfl ?_
            refine WA.goto (tgt := 10) dX3_gather_97 (by decide) ?_
            exact h
      · have h := h.2 hc
        refine WA.aload_n dX3_gather_32 rfl (by decide) ?_
        refine WA.iload_n dX3_gather_33 rfl ?_
        refine WA.lload_n dX3_gather_34 rfl ?_
        obtain ⟨d1, hd1, h⟩ := h
        refine WA.callV2 (kc := 0) (ks := 0) (kc' := 0) (ks' := 0) dX3_gather_35 lkX3_181 rfl rfl rfl ob_109 rfl (Nat.le_of_ble_eq_true rfl) hd1 h (fun r w8 hK => ?_)
        obtain ⟨x5, rfl, h⟩ := hK
        change WA _ _ _ _ _ _ _ _ _ _ _ [.inr (.inl x5)] _ _
        refine WA.lstore_n (als' := [some (.inr (.inr 109)), some (.inl a1), some (.inl a2), some (.inr (.inl x5)), none, some (.inl v5), some (.inl v6)]) dX3_gather_38 (Nat.le_of_ble_eq_true rfl) rfl ?_
        refine WA.goto (tgt := 54) dX3_gather_39 (by decide) ?_
        refine WA.aload_n dX3_gather_54 rfl (by decide) ?_
        refine gfX3_33 rfl dX3_gather_55 ob_109 ?_
        refine WA.if_ne (tgt := 78) dX3_gather_58 (by decide) (fun hc => ?_) (fun hc => ?_)
        · have h := h.1 hc
          refine WA.iconst dX3_gather_78 ⟨by decide, by decide⟩ ?_
          refine WA.istore (als' := [some (.inr (.inr 109)), some (.inl a1), some (.inl a2), some (.inr (.inl x5)), none, some (.inl 0), some (.inl v6)]) dX3_gather_79 (Nat.le_of_ble_eq_true rfl) rfl ?_
          refine WA.aload_n dX3_gather_81 rfl (by decide) ?_
          refine gxX3_12 rfl rfl dX3_gather_82 ob_109 ?_
          refine WA.dup dX3_gather_85 rfl ?_
          refine gfX3_88 rfl dX3_gather_86 ob_110 ?_
          refine WA.iconst dX3_gather_89 ⟨by decide, by decide⟩ ?_
          obtain ⟨s8, h⟩ := h
          refine WA.iadd dX3_gather_90 s8 ?_
          obtain ⟨w9, qw9⟩ : ∃ z, z = wset w8 110 3 ((w8 110 3) + 1) := ⟨_, rfl⟩
          have h := h w9 qw9
          refine pfX3_88 rfl dX3_gather_91 ob_110 ?_
          rw [← qw9]
          obtain ⟨s9, h⟩ := h
          refine WA.iinc (als' := [some (.inr (.inr 109)), some (.inl a1), some (.inl a2), some (.inr (.inl x5)), none, some (.inl 0), some (.inl (v6 + 1))]) dX3_gather_94 rfl s9 rfl ?_
          refine WA.goto (tgt := 10) dX3_gather_97 (by decide) ?_
          exact h
        · have h := h.2 hc
          refine WA.aload_n dX3_gather_61 rfl (by decide) ?_
          refine gxX3_12 rfl rfl dX3_gather_62 ob_109 ?_
          refine WA.iconst dX3_gather_65 ⟨by decide, by decide⟩ ?_
          obtain ⟨d1, hd1, h⟩ := h
          refine WA.callV1 (kc := 0) (ks := 0) (kc' := 0) (ks' := 0) dX3_gather_66 lkX3_91 rfl rfl rfl ob_110 rfl (Nat.le_of_ble_eq_true rfl) hd1 h (fun r w10 hK => ?_)
          obtain ⟨x6, rfl, h⟩ := hK
          change WA _ _ _ _ _ _ _ _ _ _ _ [.inl x6] _ _
          refine WA.bipush dX3_gather_69 ⟨by decide, by decide⟩ ?_
          refine WA.icmp_ne (tgt := 78) dX3_gather_71 (by decide) (fun hc => ?_) (fun hc => ?_)
          · have h := h.1 hc
            refine WA.iconst dX3_gather_78 ⟨by decide, by decide⟩ ?_
            refine WA.istore (als' := [some (.inr (.inr 109)), some (.inl a1), some (.inl a2), some (.inr (.inl x5)), none, some (.inl 0), some (.inl v6)]) dX3_gather_79 (Nat.le_of_ble_eq_true rfl) rfl ?_
            refine WA.aload_n dX3_gather_81 rfl (by decide) ?_
            refine gxX3_12 rfl rfl dX3_gather_82 ob_109 ?_
            refine WA.dup dX3_gather_85 rfl ?_
            refine gfX3_88 rfl dX3_gather_86 ob_110 ?_
            refine WA.iconst dX3_gather_89 ⟨by decide, by decide⟩ ?_
            obtain ⟨s10, h⟩ := h
            refine WA.iadd dX3_gather_90 s10 ?_
            obtain ⟨w11, qw11⟩ : ∃ z, z = wset w10 110 3 ((w10 110 3) + 1) := ⟨_, rfl⟩
            have h := h w11 qw11
            refine pfX3_88 rfl dX3_gather_91 ob_110 ?_
            rw [← qw11]
            obtain ⟨s11, h⟩ := h
            refine WA.iinc (als' := [some (.inr (.inr 109)), some (.inl a1), some (.inl a2), some (.inr (.inl x5)), none, some (.inl 0), some (.inl (v6 + 1))]) dX3_gather_94 rfl s11 rfl ?_
            refine WA.goto (tgt := 10) dX3_gather_97 (by decide) ?_
            exact h
          · have h := h.2 hc
            refine WA.iconst dX3_gather_74 ⟨by decide, by decide⟩ ?_
            refine WA.goto (tgt := 79) dX3_gather_75 (by decide) ?_
            refine WA.istore (als' := [some (.inr (.inr 109)), some (.inl a1), some (.inl a2), some (.inr (.inl x5)), none, some (.inl 1), some (.inl v6)]) dX3_gather_79 (Nat.le_of_ble_eq_true rfl) rfl ?_
            refine WA.aload_n dX3_gather_81 rfl (by decide) ?_
            refine gxX3_12 rfl rfl dX3_gather_82 ob_109 ?_
            refine WA.dup dX3_gather_85 rfl ?_
            refine gfX3_88 rfl dX3_gather_86 ob_110 ?_
            refine WA.iconst dX3_gather_89 ⟨by decide, by decide⟩ ?_
            obtain ⟨s12, h⟩ := h
            refine WA.iadd dX3_gather_90 s12 ?_
            obtain ⟨w12, qw12⟩ : ∃ z, z = wset w10 110 3 ((w10 110 3) + 1) := ⟨_, rfl⟩
            have h := h w12 qw12
            refine pfX3_88 rfl dX3_gather_91 ob_110 ?_
            rw [← qw12]
            obtain ⟨s13, h⟩ := h
            refine WA.iinc (als' := [some (.inr (.inr 109)), some (.inl a1), some (.inl a2), some (.inr (.inl x5)), none, some (.inl 1), some (.inl (v6 + 1))]) dX3_gather_94 rfl s13 rfl ?_
            refine WA.goto (tgt := 10) dX3_gather_97 (by decide) ?_
            exact h
set_option maxRecDepth 10000 in
theorem e_X3_gather {d : Nat} {w : Wd} {K : Int → Wd → Prop} {a1 a2 : Int}  
    (h : W_X3_gather d 10 [some (.inr (.inr 109)), some (.inl a1), some (.inl a2), some (.inr (.inl (-2000000000))), none, some (.inl 1), some (.inl 0)] [] w K) :
    E_X3_gather d [.inr (.inr 109), .inl a1, .inl a2] w K := by
  refine EvA.of (by decide +kernel) (Nat.le_of_ble_eq_true rfl) ?_
  change W_X3_gather d 0 [some (.inr (.inr 109)), some (.inl a1), some (.inl a2), none, none, none, none] [] w K
  refine WA.ldc2 (v := (-2000000000)) (x := (-2000000000)) dX3_gather_0 (am_mem 596 (by decide +kernel) rfl) (by decide) ?_
  refine WA.lstore_n (als' := [some (.inr (.inr 109)), some (.inl a1), some (.inl a2), some (.inr (.inl (-2000000000))), none, none, none]) dX3_gather_3 (Nat.le_of_ble_eq_true rfl) rfl ?_
  refine WA.iconst dX3_gather_4 ⟨by decide, by decide⟩ ?_
  refine WA.istore (als' := [some (.inr (.inr 109)), some (.inl a1), some (.inl a2), some (.inr (.inl (-2000000000))), none, some (.inl 1), none]) dX3_gather_5 (Nat.le_of_ble_eq_true rfl) rfl ?_
  refine WA.iconst dX3_gather_7 ⟨by decide, by decide⟩ ?_
  refine WA.istore (als' := [some (.inr (.inr 109)), some (.inl a1), some (.inl a2), some (.inr (.inl (-2000000000))), none, some (.inl 1), some (.inl 0)]) dX3_gather_8 (Nat.le_of_ble_eq_true rfl) rfl ?_
  exact h
set_option maxRecDepth 10000 in
theorem e_X3_isAtArea {d : Nat} {w : Wd} {K : Int → Wd → Prop}  
    (h : C_X2_look d [.inr (.inr 110), .inl 2] w (fun x1 w1 => C_X2_isAtCell d [.inr (.inr 110)] w1 (fun x2 w2 => ((x2 = 0 → K 0 w2) ∧ (¬ x2 = 0 → ((x1 = 58 → K 1 w2) ∧ (¬ x1 = 58 → ((x1 = 44 → K 1 w2) ∧ (¬ x1 = 44 → ((¬ x1 = 41 → K 0 w2) ∧ (x1 = 41 → K 1 w2))))))))))) :
    E_X3_isAtArea d [.inr (.inr 109)] w K := by
  refine EvA.of (by decide +kernel) (Nat.le_of_ble_eq_true rfl) ?_
  change W_X3_isAtArea d 0 [some (.inr (.inr 109)), none] [] w K
  refine WA.aload_n dX3_isAtArea_0 rfl (by decide) ?_
  refine gxX3_12 rfl rfl dX3_isAtArea_1 ob_109 ?_
  refine WA.iconst dX3_isAtArea_4 ⟨by decide, by decide⟩ ?_
  obtain ⟨d1, hd1, h⟩ := h
  refine WA.callV1 (kc := 0) (ks := 0) (kc' := 0) (ks' := 0) dX3_isAtArea_5 lkX3_91 rfl rfl rfl ob_110 rfl (Nat.le_of_ble_eq_true rfl) hd1 h (fun r w1 hK => ?_)
  obtain ⟨x1, rfl, h⟩ := hK
  change WA _ _ _ _ _ _ _ _ _ _ _ [.inl x1] _ _
  refine WA.istore_n (als' := [some (.inr (.inr 109)), some (.inl x1)]) dX3_isAtArea_8 (Nat.le_of_ble_eq_true rfl) rfl ?_
  refine WA.aload_n dX3_isAtArea_9 rfl (by decide) ?_
  refine gxX3_12 rfl rfl dX3_isAtArea_10 ob_109 ?_
  obtain ⟨d1, hd1, h⟩ := h
  refine WA.callV0 (kc := 0) (ks := 0) (kc' := 0) (ks' := 0) dX3_isAtArea_13 lkX3_102 rfl rfl rfl ob_110 rfl (Nat.le_of_ble_eq_true rfl) hd1 h (fun r w2 hK => ?_)
  obtain ⟨x2, rfl, h⟩ := hK
  change WA _ _ _ _ _ _ _ _ _ _ _ [.inl x2] _ _
  refine WA.if_eq (tgt := 41) dX3_isAtArea_16 (by decide) (fun hc => ?_) (fun hc => ?_)
  · have h := h.1 hc
    refine WA.iconst dX3_isAtArea_41 ⟨by decide, by decide⟩ ?_
    exact WA.zreturn dX3_isAtArea_42 (by decide) ⟨_, rfl, h⟩
  · have h := h.2 hc
    refine WA.iload_n dX3_isAtArea_19 rfl ?_
    refine WA.bipush dX3_isAtArea_20 ⟨by decide, by decide⟩ ?_
    refine WA.icmp_eq (tgt := 37) dX3_isAtArea_22 (by decide) (fun hc => ?_) (fun hc => ?_)
    · have h := h.1 hc
      refine WA.iconst dX3_isAtArea_37 ⟨by decide, by decide⟩ ?_
      refine WA.goto (tgt := 42) dX3_isAtArea_38 (by decide) ?_
      exact WA.zreturn dX3_isAtArea_42 (by decide) ⟨_, rfl, h⟩
    · have h := h.2 hc
      refine WA.iload_n dX3_isAtArea_25 rfl ?_
      refine WA.bipush dX3_isAtArea_26 ⟨by decide, by decide⟩ ?_
      refine WA.icmp_eq (tgt := 37) dX3_isAtArea_28 (by decide) (fun hc => ?_) (fun hc => ?_)
      · have h := h.1 hc
        refine WA.iconst dX3_isAtArea_37 ⟨by decide, by decide⟩ ?_
        refine WA.goto (tgt := 42) dX3_isAtArea_38 (by decide) ?_
        exact WA.zreturn dX3_isAtArea_42 (by decide) ⟨_, rfl, h⟩
      · have h := h.2 hc
        refine WA.iload_n dX3_isAtArea_31 rfl ?_
        refine WA.bipush dX3_isAtArea_32 ⟨by decide, by decide⟩ ?_
        refine WA.icmp_ne (tgt := 41) dX3_isAtArea_34 (by decide) (fun hc => ?_) (fun hc => ?_)
        · have h := h.1 hc
          refine WA.iconst dX3_isAtArea_41 ⟨by decide, by decide⟩ ?_
          exact WA.zreturn dX3_isAtArea_42 (by decide) ⟨_, rfl, h⟩
        · have h := h.2 hc
          refine WA.iconst dX3_isAtArea_37 ⟨by decide, by decide⟩ ?_
          refine WA.goto (tgt := 42) dX3_isAtArea_38 (by decide) ?_
          exact WA.zreturn dX3_isAtArea_42 (by decide) ⟨_, rfl, h⟩
set_option maxRecDepth 10000 in
theorem v_X3_gatherArea_39 {d : Nat} {w : Wd} {K : Int → Wd → Prop} {a1 a2 v4 v5 v6 v8 : Int}  
    (h : 0 ≤ v5 ∧ (((v5 / 8) < v8 → K v6 w) ∧ (¬ ((v5 / 8) < v8) → 0 ≤ v4 ∧ W_X3_gatherArea d 56 [some (.inr (.inr 109)), some (.inl a1), some (.inr (.inl a2)), none, some (.inl v4), some (.inl v5), some (.inr (.inl v6)), none, some (.inl v8), some (.inl (v4 % 8)), none, none, none] [] w K))) :
    W_X3_gatherArea d 39 [some (.inr (.inr 109)), some (.inl a1), some (.inr (.inl a2)), none, some (.inl v4), some (.inl v5), some (.inr (.inl v6)), none, some (.inl v8), none, none, none, none] [] w K := by
  refine WA.iload dX3_gatherArea_39 rfl ?_
  refine WA.iload dX3_gatherArea_41 rfl ?_
  refine WA.bipush dX3_gatherArea_43 ⟨by decide, by decide⟩ ?_
  obtain ⟨s1, h⟩ := h
  refine WA.idiv dX3_gatherArea_45 s1 (by decide) ?_
  refine WA.icmp_gt (tgt := 135) dX3_gatherArea_46 (by decide) (fun hc => ?_) (fun hc => ?_)
  · have h := h.1 hc
    refine WA.lload dX3_gatherArea_135 rfl ?_
    exact WA.lreturn dX3_gatherArea_137 ⟨_, rfl, h⟩
  · have h := h.2 hc
    refine WA.iload dX3_gatherArea_49 rfl ?_
    refine WA.bipush dX3_gatherArea_51 ⟨by decide, by decide⟩ ?_
    obtain ⟨s2, h⟩ := h
    refine WA.irem dX3_gatherArea_53 s2 (by decide) ?_
    refine WA.istore (als' := [some (.inr (.inr 109)), some (.inl a1), some (.inr (.inl a2)), none, some (.inl v4), some (.inl v5), some (.inr (.inl v6)), none, some (.inl v8), some (.inl (v4 % 8)), none, none, none]) dX3_gatherArea_54 (Nat.le_of_ble_eq_true rfl) rfl ?_
    exact h
set_option maxRecDepth 10000 in
theorem v_X3_gatherArea_56 {d : Nat} {w : Wd} {K : Int → Wd → Prop} {a1 a2 v4 v5 v6 v8 v9 : Int}  
    (h : 0 ≤ v5 ∧ (((v5 % 8) < v9 → (-2147483648 ≤ (v8 + 1) ∧ (v8 + 1) ≤ 2147483647) ∧ W_X3_gatherArea d 39 [some (.inr (.inr 109)), some (.inl a1), some (.inr (.inl a2)), none, some (.inl v4), some (.inl v5), some (.inr (.inl v6)), none, some (.inl (v8 + 1)), none, none, none, none] [] w K) ∧ (¬ ((v5 % 8) < v9) → (-2147483648 ≤ (v8 * 8) ∧ (v8 * 8) ≤ 2147483647) ∧ (-2147483648 ≤ ((v8 * 8) + v9) ∧ ((v8 * 8) + v9) ≤ 2147483647) ∧ C_X3_readCell d [.inr (.inr 109), .inl ((v8 * 8) + v9)] w (fun x1 w1 => ((¬ (w1 109 6) = 0 → (((w1 109 6) = 0 → (-2147483648 ≤ (v9 + 1) ∧ (v9 + 1) ≤ 2147483647) ∧ W_X3_gatherArea d 56 [some (.inr (.inr 109)), some (.inl a1), some (.inr (.inl a2)), none, some (.inl v4), some (.inl v5), some (.inr (.inl v6)), none, some (.inl v8), some (.inl (v9 + 1)), none, none, none] [] w1 K) ∧ (¬ (w1 109 6) = 0 → K 0 w1))) ∧ ((w1 109 6) = 0 → am_St (w1 109 4) ∧ C_X5_isEmpty d [.inr (.inr (w1 109 4)), .inl ((v8 * 8) + v9)] w1 (fun x2 w2 => ((¬ x2 = 0 → (((w2 109 6) = 0 → (-2147483648 ≤ (v9 + 1) ∧ (v9 + 1) ≤ 2147483647) ∧ W_X3_gatherArea d 56 [some (.inr (.inr 109)), some (.inl a1), some (.inr (.inl a2)), none, some (.inl v4), some (.inl v5), some (.inr (.inl v6)), none, some (.inl v8), some (.inl (v9 + 1)), none, none, none] [] w2 K) ∧ (¬ (w2 109 6) = 0 → K 0 w2))) ∧ (x2 = 0 → C_X3_joined d [.inr (.inr 109), .inl a1, .inr (.inl v6), .inr (.inl x1)] w2 (fun x3 w3 => (((w3 109 6) = 0 → (-2147483648 ≤ (v9 + 1) ∧ (v9 + 1) ≤ 2147483647) ∧ W_X3_gatherArea d 56 [some (.inr (.inr 109)), some (.inl a1), some (.inr (.inl a2)), none, some (.inl v4), some (.inl v5), some (.inr (.inl x3)), none, some (.inl v8), some (.inl (v9 + 1)), none, none, none] [] w3 K) ∧ (¬ (w3 109 6) = 0 → K 0 w3)))))))))))) :
    W_X3_gatherArea d 56 [some (.inr (.inr 109)), some (.inl a1), some (.inr (.inl a2)), none, some (.inl v4), some (.inl v5), some (.inr (.inl v6)), none, some (.inl v8), some (.inl v9), none, none, none] [] w K := by
  refine WA.iload dX3_gatherArea_56 rfl ?_
  refine WA.iload dX3_gatherArea_58 rfl ?_
  refine WA.bipush dX3_gatherArea_60 ⟨by decide, by decide⟩ ?_
  obtain ⟨s1, h⟩ := h
  refine WA.irem dX3_gatherArea_62 s1 (by decide) ?_
  refine WA.icmp_gt (tgt := 129) dX3_gatherArea_63 (by decide) (fun hc => ?_) (fun hc => ?_)
  · have h := h.1 hc
    obtain ⟨s2, h⟩ := h
    refine WA.iinc (als' := [some (.inr (.inr 109)), some (.inl a1), some (.inr (.inl a2)), none, some (.inl v4), some (.inl v5), some (.inr (.inl v6)), none, some (.inl (v8 + 1)), some (.inl v9), none, none, none]) dX3_gatherArea_129 rfl s2 rfl ?_
    refine WA.goto (tgt := 39) dX3_gatherArea_132 (by decide) ?_
    exact WA.sub (als' := [some (.inr (.inr 109)), some (.inl a1), some (.inr (.inl a2)), none, some (.inl v4), some (.inl v5), some (.inr (.inl v6)), none, some (.inl (v8 + 1)), none, none, none, none]) (by simp only [am_sub, and_self]) rfl h
  · have h := h.2 hc
    refine WA.iload dX3_gatherArea_66 rfl ?_
    refine WA.bipush dX3_gatherArea_68 ⟨by decide, by decide⟩ ?_
    obtain ⟨s3, h⟩ := h
    refine WA.imul dX3_gatherArea_70 s3 ?_
    refine WA.iload dX3_gatherArea_71 rfl ?_
    obtain ⟨s4, h⟩ := h
    refine WA.iadd dX3_gatherArea_73 s4 ?_
    refine WA.istore (als' := [some (.inr (.inr 109)), some (.inl a1), some (.inr (.inl a2)), none, some (.inl v4), some (.inl v5), some (.inr (.inl v6)), none, some (.inl v8), some (.inl v9), some (.inl ((v8 * 8) + v9)), none, none]) dX3_gatherArea_74 (Nat.le_of_ble_eq_true rfl) rfl ?_
    refine WA.aload_n dX3_gatherArea_76 rfl (by decide) ?_
    refine WA.iload dX3_gatherArea_77 rfl ?_
    obtain ⟨d1, hd1, h⟩ := h
    refine WA.callV1 (kc := 0) (ks := 0) (kc' := 0) (ks' := 0) dX3_gatherArea_79 lkX3_110 rfl rfl rfl ob_109 rfl (Nat.le_of_ble_eq_true rfl) hd1 h (fun r w1 hK => ?_)
    obtain ⟨x1, rfl, h⟩ := hK
    change WA _ _ _ _ _ _ _ _ _ _ _ [.inr (.inl x1)] _ _
    refine WA.lstore (als' := [some (.inr (.inr 109)), some (.inl a1), some (.inr (.inl a2)), none, some (.inl v4), some (.inl v5), some (.inr (.inl v6)), none, some (.inl v8), some (.inl v9), some (.inl ((v8 * 8) + v9)), some (.inr (.inl x1)), none]) dX3_gatherArea_82 (Nat.le_of_ble_eq_true rfl) rfl ?_
    refine WA.aload_n dX3_gatherArea_84 rfl (by decide) ?_
    refine gfX3_33 rfl dX3_gatherArea_85 ob_109 ?_
    refine WA.if_ne (tgt := 114) dX3_gatherArea_88 (by decide) (fun hc => ?_) (fun hc => ?_)
    · have h := h.1 hc
      refine WA.aload_n dX3_gatherArea_114 rfl (by decide) ?_
      refine gfX3_33 rfl dX3_gatherArea_115 ob_109 ?_
      refine WA.if_eq (tgt := 123) dX3_gatherArea_118 (by decide) (fun hc => ?_) (fun hc => ?_)
      · have h := h.1 hc
        obtain ⟨s5, h⟩ := h
        refine WA.iinc (als' := [some (.inr (.inr 109)), some (.inl a1), some (.inr (.inl a2)), none, some (.inl v4), some (.inl v5), some (.inr (.inl v6)), none, some (.inl v8), some (.inl (v9 + 1)), some (.inl ((v8 * 8) + v9)), some (.inr (.inl x1)), none]) dX3_gatherArea_123 rfl s5 rfl ?_
        refine WA.goto (tgt := 56) dX3_gatherArea_126 (by decide) ?_
        exact WA.sub (als' := [some (.inr (.inr 109)), some (.inl a1), some (.inr (.inl a2)), none, some (.inl v4), some (.inl v5), some (.inr (.inl v6)), none, some (.inl v8), some (.inl (v9 + 1)), none, none, none]) (by simp only [am_sub, and_self]) rfl h
      · have h := h.2 hc
        refine WA.lconst (x := 0) dX3_gatherArea_121 rfl ?_
        exact WA.lreturn dX3_gatherArea_122 ⟨_, rfl, h⟩
    · have h := h.2 hc
      refine WA.aload_n dX3_gatherArea_91 rfl (by decide) ?_
      refine gfX3_25 rfl dX3_gatherArea_92 ob_109 ?_
      refine WA.iload dX3_gatherArea_95 rfl ?_
      obtain ⟨s6, h⟩ := h
      obtain ⟨d1, hd1, h⟩ := h
      refine WA.callV1 (kc := 0) (ks := 0) (kc' := 0) (ks' := 0) dX3_gatherArea_97 lkX3_189 rfl rfl rfl (am_St_obj s6) rfl (Nat.le_of_ble_eq_true rfl) hd1 h (fun r w2 hK => ?_)
      obtain ⟨x2, rfl, h⟩ := hK
      change WA _ _ _ _ _ _ _ _ _ _ _ [.inl x2] _ _
      refine WA.if_ne (tgt := 114) dX3_gatherArea_100 (by decide) (fun hc => ?_) (fun hc => ?_)
      · have h := h.1 hc
        refine WA.aload_n dX3_gatherArea_114 rfl (by decide) ?_
        refine gfX3_33 rfl dX3_gatherArea_115 ob_109 ?_
        refine WA.if_eq (tgt := 123) dX3_gatherArea_118 (by decide) (fun hc => ?_) (fun hc => ?_)
        · have h := h.1 hc
          obtain ⟨s7, h⟩ := h
          refine WA.iinc (als' := [some (.inr (.inr 109)), some (.inl a1), some (.inr (.inl a2)), none, some (.inl v4), some (.inl v5), some (.inr (.inl v6)), none, some (.inl v8), some (.inl (v9 + 1)), some (.inl ((v8 * 8) + v9)), some (.inr (.inl x1)), none]) dX3_gatherArea_123 rfl s7 rfl ?_
          refine WA.goto (tgt := 56) dX3_gatherArea_126 (by decide) ?_
          exact WA.sub (als' := [some (.inr (.inr 109)), some (.inl a1), some (.inr (.inl a2)), none, some (.inl v4), some (.inl v5), some (.inr (.inl v6)), none, some (.inl v8), some (.inl (v9 + 1)), none, none, none]) (by simp only [am_sub, and_self]) rfl h
        · have h := h.2 hc
          refine WA.lconst (x := 0) dX3_gatherArea_121 rfl ?_
          exact WA.lreturn dX3_gatherArea_122 ⟨_, rfl, h⟩
      · have h := h.2 hc
        refine WA.aload_n dX3_gatherArea_103 rfl (by decide) ?_
        refine WA.iload_n dX3_gatherArea_104 rfl ?_
        refine WA.lload dX3_gatherArea_105 rfl ?_
        refine WA.lload dX3_gatherArea_107 rfl ?_
        obtain ⟨d1, hd1, h⟩ := h
        refine WA.callV3 (kc := 0) (ks := 0) (kc' := 0) (ks' := 0) dX3_gatherArea_109 lkX3_185 rfl rfl rfl ob_109 rfl (Nat.le_of_ble_eq_true rfl) hd1 h (fun r w3 hK => ?_)
        obtain ⟨x3, rfl, h⟩ := hK
        change WA _ _ _ _ _ _ _ _ _ _ _ [.inr (.inl x3)] _ _
        refine WA.lstore (als' := [some (.inr (.inr 109)), some (.inl a1), some (.inr (.inl a2)), none, some (.inl v4), some (.inl v5), some (.inr (.inl x3)), none, some (.inl v8), some (.inl v9), some (.inl ((v8 * 8) + v9)), some (.inr (.inl x1)), none]) dX3_gatherArea_112 (Nat.le_of_ble_eq_true rfl) rfl ?_
        refine WA.aload_n dX3_gatherArea_114 rfl (by decide) ?_
        refine gfX3_33 rfl dX3_gatherArea_115 ob_109 ?_
        refine WA.if_eq (tgt := 123) dX3_gatherArea_118 (by decide) (fun hc => ?_) (fun hc => ?_)
        · have h := h.1 hc
          obtain ⟨s8, h⟩ := h
          refine WA.iinc (als' := [some (.inr (.inr 109)), some (.inl a1), some (.inr (.inl a2)), none, some (.inl v4), some (.inl v5), some (.inr (.inl x3)), none, some (.inl v8), some (.inl (v9 + 1)), some (.inl ((v8 * 8) + v9)), some (.inr (.inl x1)), none]) dX3_gatherArea_123 rfl s8 rfl ?_
          refine WA.goto (tgt := 56) dX3_gatherArea_126 (by decide) ?_
          exact WA.sub (als' := [some (.inr (.inr 109)), some (.inl a1), some (.inr (.inl a2)), none, some (.inl v4), some (.inl v5), some (.inr (.inl x3)), none, some (.inl v8), some (.inl (v9 + 1)), none, none, none]) (by simp only [am_sub, and_self]) rfl h
        · have h := h.2 hc
          refine WA.lconst (x := 0) dX3_gatherArea_121 rfl ?_
          exact WA.lreturn dX3_gatherArea_122 ⟨_, rfl, h⟩
set_option maxRecDepth 10000 in
theorem e_X3_gatherArea {d : Nat} {w : Wd} {K : Int → Wd → Prop} {a1 a2 : Int}  
    (h : C_X3_passCell d [.inr (.inr 109)] w (fun x1 w1 => C_X2_pass d [.inr (.inr 110), .inl 58] w1 (fun x2 w2 => ((x2 = 0 → 0 ≤ x1 ∧ W_X3_gatherArea d 39 [some (.inr (.inr 109)), some (.inl a1), some (.inr (.inl a2)), none, some (.inl x1), some (.inl x1), some (.inr (.inl a2)), none, some (.inl (x1 / 8)), none, none, none, none] [] w2 K) ∧ (¬ x2 = 0 → C_X3_passCell d [.inr (.inr 109)] w2 (fun x3 w3 => 0 ≤ x1 ∧ W_X3_gatherArea d 39 [some (.inr (.inr 109)), some (.inl a1), some (.inr (.inl a2)), none, some (.inl x1), some (.inl x3), some (.inr (.inl a2)), none, some (.inl (x1 / 8)), none, none, none, none] [] w3 K)))))) :
    E_X3_gatherArea d [.inr (.inr 109), .inl a1, .inr (.inl a2)] w K := by
  refine EvA.of (by decide +kernel) (Nat.le_of_ble_eq_true rfl) ?_
  change W_X3_gatherArea d 0 [some (.inr (.inr 109)), some (.inl a1), some (.inr (.inl a2)), none, none, none, none, none, none, none, none, none, none] [] w K
  refine WA.aload_n dX3_gatherArea_0 rfl (by decide) ?_
  obtain ⟨d1, hd1, h⟩ := h
  refine WA.callV0 (kc := 0) (ks := 0) (kc' := 0) (ks' := 0) dX3_gatherArea_1 lkX3_106 rfl rfl rfl ob_109 rfl (Nat.le_of_ble_eq_true rfl) hd1 h (fun r w1 hK => ?_)
  obtain ⟨x1, rfl, h⟩ := hK
  change WA _ _ _ _ _ _ _ _ _ _ _ [.inl x1] _ _
  refine WA.istore (als' := [some (.inr (.inr 109)), some (.inl a1), some (.inr (.inl a2)), none, some (.inl x1), none, none, none, none, none, none, none, none]) dX3_gatherArea_4 (Nat.le_of_ble_eq_true rfl) rfl ?_
  refine WA.aload_n dX3_gatherArea_6 rfl (by decide) ?_
  refine gxX3_12 rfl rfl dX3_gatherArea_7 ob_109 ?_
  refine WA.bipush dX3_gatherArea_10 ⟨by decide, by decide⟩ ?_
  obtain ⟨d1, hd1, h⟩ := h
  refine WA.callV1 (kc := 0) (ks := 0) (kc' := 0) (ks' := 0) dX3_gatherArea_12 lkX3_70 rfl rfl rfl ob_110 rfl (Nat.le_of_ble_eq_true rfl) hd1 h (fun r w2 hK => ?_)
  obtain ⟨x2, rfl, h⟩ := hK
  change WA _ _ _ _ _ _ _ _ _ _ _ [.inl x2] _ _
  refine WA.if_eq (tgt := 25) dX3_gatherArea_15 (by decide) (fun hc => ?_) (fun hc => ?_)
  · have h := h.1 hc
    refine WA.iload dX3_gatherArea_25 rfl ?_
    refine WA.istore (als' := [some (.inr (.inr 109)), some (.inl a1), some (.inr (.inl a2)), none, some (.inl x1), some (.inl x1), none, none, none, none, none, none, none]) dX3_gatherArea_27 (Nat.le_of_ble_eq_true rfl) rfl ?_
    refine WA.lload_n dX3_gatherArea_29 rfl ?_
    refine WA.lstore (als' := [some (.inr (.inr 109)), some (.inl a1), some (.inr (.inl a2)), none, some (.inl x1), some (.inl x1), some (.inr (.inl a2)), none, none, none, none, none, none]) dX3_gatherArea_30 (Nat.le_of_ble_eq_true rfl) rfl ?_
    refine WA.iload dX3_gatherArea_32 rfl ?_
    refine WA.bipush dX3_gatherArea_34 ⟨by decide, by decide⟩ ?_
    obtain ⟨s1, h⟩ := h
    refine WA.idiv dX3_gatherArea_36 s1 (by decide) ?_
    refine WA.istore (als' := [some (.inr (.inr 109)), some (.inl a1), some (.inr (.inl a2)), none, some (.inl x1), some (.inl x1), some (.inr (.inl a2)), none, some (.inl (x1 / 8)), none, none, none, none]) dX3_gatherArea_37 (Nat.le_of_ble_eq_true rfl) rfl ?_
    exact h
  · have h := h.2 hc
    refine WA.aload_n dX3_gatherArea_18 rfl (by decide) ?_
    obtain ⟨d1, hd1, h⟩ := h
    refine WA.callV0 (kc := 0) (ks := 0) (kc' := 0) (ks' := 0) dX3_gatherArea_19 lkX3_106 rfl rfl rfl ob_109 rfl (Nat.le_of_ble_eq_true rfl) hd1 h (fun r w3 hK => ?_)
    obtain ⟨x3, rfl, h⟩ := hK
    change WA _ _ _ _ _ _ _ _ _ _ _ [.inl x3] _ _
    refine WA.goto (tgt := 27) dX3_gatherArea_22 (by decide) ?_
    refine WA.istore (als' := [some (.inr (.inr 109)), some (.inl a1), some (.inr (.inl a2)), none, some (.inl x1), some (.inl x3), none, none, none, none, none, none, none]) dX3_gatherArea_27 (Nat.le_of_ble_eq_true rfl) rfl ?_
    refine WA.lload_n dX3_gatherArea_29 rfl ?_
    refine WA.lstore (als' := [some (.inr (.inr 109)), some (.inl a1), some (.inr (.inl a2)), none, some (.inl x1), some (.inl x3), some (.inr (.inl a2)), none, none, none, none, none, none]) dX3_gatherArea_30 (Nat.le_of_ble_eq_true rfl) rfl ?_
    refine WA.iload dX3_gatherArea_32 rfl ?_
    refine WA.bipush dX3_gatherArea_34 ⟨by decide, by decide⟩ ?_
    obtain ⟨s2, h⟩ := h
    refine WA.idiv dX3_gatherArea_36 s2 (by decide) ?_
    refine WA.istore (als' := [some (.inr (.inr 109)), some (.inl a1), some (.inr (.inl a2)), none, some (.inl x1), some (.inl x3), some (.inr (.inl a2)), none, some (.inl (x1 / 8)), none, none, none, none]) dX3_gatherArea_37 (Nat.le_of_ble_eq_true rfl) rfl ?_
    exact h
set_option maxRecDepth 10000 in
theorem e_X3_joined {d : Nat} {w : Wd} {K : Int → Wd → Prop} {a1 a2 a3 : Int}  (hd : 2 ≤ d) 
    (h : (((w 109 6) = 0 → ((¬ a1 = 8 → ((¬ a2 = (-2000000000) → ((a1 = 5 → K (min a2 a3) w) ∧ ((a1 = 6 → K (max a2 a3) w) ∧ (¬ a1 = 5 ∧ ¬ a1 = 6 → (-9223372036854775808 ≤ (a2 + a3) ∧ (a2 + a3) ≤ 9223372036854775807) ∧ C_X3_bounded d [.inr (.inr 109), .inr (.inl (a2 + a3))] w (fun x1 w1 => K x1 w1))))) ∧ (a2 = (-2000000000) → K a3 w))) ∧ (a1 = 8 → ((¬ a2 = (-2000000000) → (-9223372036854775808 ≤ (a2 + 1) ∧ (a2 + 1) ≤ 9223372036854775807) ∧ K (a2 + 1) w) ∧ (a2 = (-2000000000) → K 1 w))))) ∧ (¬ (w 109 6) = 0 → K 0 w))) :
    E_X3_joined d [.inr (.inr 109), .inl a1, .inr (.inl a2), .inr (.inl a3)] w K := by
  refine EvA.of (by decide +kernel) (Nat.le_of_ble_eq_true rfl) ?_
  change W_X3_joined d 0 [some (.inr (.inr 109)), some (.inl a1), some (.inr (.inl a2)), none, some (.inr (.inl a3)), none] [] w K
  refine WA.aload_n dX3_joined_0 rfl (by decide) ?_
  refine gfX3_33 rfl dX3_joined_1 ob_109 ?_
  refine WA.if_eq (tgt := 9) dX3_joined_4 (by decide) (fun hc => ?_) (fun hc => ?_)
  · have h := h.1 hc
    refine WA.iload_n dX3_joined_9 rfl ?_
    refine WA.bipush dX3_joined_10 ⟨by decide, by decide⟩ ?_
    refine WA.icmp_ne (tgt := 31) dX3_joined_12 (by decide) (fun hc => ?_) (fun hc => ?_)
    · have h := h.1 hc
      refine WA.lload_n dX3_joined_31 rfl ?_
      refine WA.ldc2 (v := (-2000000000)) (x := (-2000000000)) dX3_joined_32 (am_mem 596 (by decide +kernel) rfl) (by decide) ?_
      refine WA.lcmp_ne (tgt := 42) dX3_joined_35 dX3_joined_36 (by decide) (fun hc => ?_) (fun hc => ?_)
      · have h := h.1 hc
        refine WA.iload_n dX3_joined_42 rfl ?_
        by_cases hc : a1 = 5
        · have h := h.1 hc
          refine WA.lookup (tgt := 68) dX3_joined_43 rfl (by rw [hc]; first | done | rfl) (by decide) ?_
          refine WA.lload_n dX3_joined_68 rfl ?_
          refine WA.lload dX3_joined_69 rfl ?_
          refine WA.minl dX3_joined_71 (am_mem 610 (by decide +kernel) rfl) (am_mem 611 (by decide +kernel) rfl) (am_mem 15 (by decide +kernel) rfl) (am_mem 612 (by decide +kernel) rfl) (Nat.le_trans (by decide) hd) (Nat.le_of_ble_eq_true rfl) ?_
          exact WA.lreturn dX3_joined_74 ⟨_, rfl, h⟩
        · have h := h.2
          have n5 := hc
          by_cases hc : a1 = 6
          · have h := h.1 hc
            refine WA.lookup (tgt := 75) dX3_joined_43 rfl (by rw [hc]; first | done | rfl) (by decide) ?_
            refine WA.lload_n dX3_joined_75 rfl ?_
            refine WA.lload dX3_joined_76 rfl ?_
            refine WA.maxl dX3_joined_78 (am_mem 613 (by decide +kernel) rfl) (am_mem 614 (by decide +kernel) rfl) (am_mem 15 (by decide +kernel) rfl) (am_mem 615 (by decide +kernel) rfl) (Nat.le_trans (by decide) hd) (Nat.le_of_ble_eq_true rfl) ?_
            exact WA.lreturn dX3_joined_81 ⟨_, rfl, h⟩
          · have h := h.2
            have n6 := hc
            have h := h ⟨n5, n6⟩
            refine WA.lookup (off := 39) (tgt := 82) dX3_joined_43 rfl (by simp [Op.lookupswitch.offset, n5, Ne.symm n5, n6, Ne.symm n6]) (by decide) ?_
            refine WA.aload_n dX3_joined_82 rfl (by decide) ?_
            refine WA.lload_n dX3_joined_83 rfl ?_
            refine WA.lload dX3_joined_84 rfl ?_
            obtain ⟨s1, h⟩ := h
            refine WA.ladd dX3_joined_86 s1 ?_
            obtain ⟨d1, hd1, h⟩ := h
            refine WA.callV1 (kc := 0) (ks := 0) (kc' := 0) (ks' := 0) dX3_joined_87 lkX3_74 rfl rfl rfl ob_109 rfl (Nat.le_of_ble_eq_true rfl) hd1 h (fun r w1 hK => ?_)
            obtain ⟨x1, rfl, h⟩ := hK
            change WA _ _ _ _ _ _ _ _ _ _ _ [.inr (.inl x1)] _ _
            exact WA.lreturn dX3_joined_90 ⟨_, rfl, h⟩
      · have h := h.2 hc
        refine WA.lload dX3_joined_39 rfl ?_
        exact WA.lreturn dX3_joined_41 ⟨_, rfl, h⟩
    · have h := h.2 hc
      refine WA.lload_n dX3_joined_15 rfl ?_
      refine WA.ldc2 (v := (-2000000000)) (x := (-2000000000)) dX3_joined_16 (am_mem 596 (by decide +kernel) rfl) (by decide) ?_
      refine WA.lcmp_ne (tgt := 27) dX3_joined_19 dX3_joined_20 (by decide) (fun hc => ?_) (fun hc => ?_)
      · have h := h.1 hc
        refine WA.lload_n dX3_joined_27 rfl ?_
        refine WA.lconst (x := 1) dX3_joined_28 rfl ?_
        obtain ⟨s2, h⟩ := h
        refine WA.ladd dX3_joined_29 s2 ?_
        exact WA.lreturn dX3_joined_30 ⟨_, rfl, h⟩
      · have h := h.2 hc
        refine WA.lconst (x := 1) dX3_joined_23 rfl ?_
        refine WA.goto (tgt := 30) dX3_joined_24 (by decide) ?_
        exact WA.lreturn dX3_joined_30 ⟨_, rfl, h⟩
  · have h := h.2 hc
    refine WA.lconst (x := 0) dX3_joined_7 rfl ?_
    exact WA.lreturn dX3_joined_8 ⟨_, rfl, h⟩
