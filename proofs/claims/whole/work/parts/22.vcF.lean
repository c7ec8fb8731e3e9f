abbrev W_X9_cellHere (d pc : Nat) (als : List (Option AV)) (st : List AV) (w : Wd) (K : Int → Wd → Prop) : Prop := WA true yX9_cellHere cX9_cellHere 1 (some .int) d 143 0 0 pc als st w (rI K)
abbrev E_X9_cellHere (d : Nat) (as : List AV) (w : Wd) (K : Int → Wd → Prop) : Prop := EvA true yX9_cellHere cX9_cellHere 1 (some .int) d 143 0 0 as w (rI K)
abbrev C_X9_cellHere (d : Nat) (as : List AV) (w : Wd) (K : Int → Wd → Prop) : Prop := ∃ d', d' < d ∧ E_X9_cellHere d' as w K
abbrev W_X9_isAreaHere (d pc : Nat) (als : List (Option AV)) (st : List AV) (w : Wd) (K : Int → Wd → Prop) : Prop := WA true yX9_isAreaHere cX9_isAreaHere 2 (some .boolean) d 143 0 0 pc als st w (rI K)
abbrev E_X9_isAreaHere (d : Nat) (as : List AV) (w : Wd) (K : Int → Wd → Prop) : Prop := EvA true yX9_isAreaHere cX9_isAreaHere 2 (some .boolean) d 143 0 0 as w (rI K)
abbrev C_X9_isAreaHere (d : Nat) (as : List AV) (w : Wd) (K : Int → Wd → Prop) : Prop := ∃ d', d' < d ∧ E_X9_isAreaHere d' as w K
abbrev W_X9_takes (d pc : Nat) (als : List (Option AV)) (st : List AV) (w : Wd) (K : Wd → Prop) : Prop := WA true yX9_takes cX9_takes 7 none d 143 0 0 pc als st w (rV K)
abbrev E_X9_takes (d : Nat) (as : List AV) (w : Wd) (K : Wd → Prop) : Prop := EvA true yX9_takes cX9_takes 7 none d 143 0 0 as w (rV K)
abbrev C_X9_takes (d : Nat) (as : List AV) (w : Wd) (K : Wd → Prop) : Prop := ∃ d', d' < d ∧ E_X9_takes d' as w K
abbrev W_X9_nextPart (d pc : Nat) (als : List (Option AV)) (st : List AV) (w : Wd) (K : Wd → Prop) : Prop := WA true yX9_nextPart cX9_nextPart 1 none d 143 0 0 pc als st w (rV K)
abbrev E_X9_nextPart (d : Nat) (as : List AV) (w : Wd) (K : Wd → Prop) : Prop := EvA true yX9_nextPart cX9_nextPart 1 none d 143 0 0 as w (rV K)
abbrev C_X9_nextPart (d : Nat) (as : List AV) (w : Wd) (K : Wd → Prop) : Prop := ∃ d', d' < d ∧ E_X9_nextPart d' as w K
abbrev W_X9_readsArea (d pc : Nat) (als : List (Option AV)) (st : List AV) (w : Wd) (K : Wd → Prop) : Prop := WA true yX9_readsArea cX9_readsArea 8 none d 143 0 0 pc als st w (rV K)
abbrev E_X9_readsArea (d : Nat) (as : List AV) (w : Wd) (K : Wd → Prop) : Prop := EvA true yX9_readsArea cX9_readsArea 8 none d 143 0 0 as w (rV K)
abbrev C_X9_readsArea (d : Nat) (as : List AV) (w : Wd) (K : Wd → Prop) : Prop := ∃ d', d' < d ∧ E_X9_readsArea d' as w K
abbrev W_X9_function (d pc : Nat) (als : List (Option AV)) (st : List AV) (w : Wd) (K : Int → Wd → Prop) : Prop := WA true yX9_function cX9_function 3 (some .int) d 143 0 0 pc als st w (rI K)
abbrev E_X9_function (d : Nat) (as : List AV) (w : Wd) (K : Int → Wd → Prop) : Prop := EvA true yX9_function cX9_function 3 (some .int) d 143 0 0 as w (rI K)
abbrev C_X9_function (d : Nat) (as : List AV) (w : Wd) (K : Int → Wd → Prop) : Prop := ∃ d', d' < d ∧ E_X9_function d' as w K
abbrev W_X9_factor (d pc : Nat) (als : List (Option AV)) (st : List AV) (w : Wd) (K : Wd → Prop) : Prop := WA true yX9_factor cX9_factor 6 none d 143 0 0 pc als st w (rV K)
abbrev E_X9_factor (d : Nat) (as : List AV) (w : Wd) (K : Wd → Prop) : Prop := EvA true yX9_factor cX9_factor 6 none d 143 0 0 as w (rV K)
abbrev C_X9_factor (d : Nat) (as : List AV) (w : Wd) (K : Wd → Prop) : Prop := ∃ d', d' < d ∧ E_X9_factor d' as w K
abbrev W_X9_skip (d pc : Nat) (als : List (Option AV)) (st : List AV) (w : Wd) (K : Wd → Prop) : Prop := WA true yX9_skip cX9_skip 2 none d 143 0 0 pc als st w (rV K)
abbrev E_X9_skip (d : Nat) (as : List AV) (w : Wd) (K : Wd → Prop) : Prop := EvA true yX9_skip cX9_skip 2 none d 143 0 0 as w (rV K)
abbrev C_X9_skip (d : Nat) (as : List AV) (w : Wd) (K : Wd → Prop) : Prop := ∃ d', d' < d ∧ E_X9_skip d' as w K
abbrev W_X9_ifs (d pc : Nat) (als : List (Option AV)) (st : List AV) (w : Wd) (K : Wd → Prop) : Prop := WA true yX9_ifs cX9_ifs 3 none d 143 0 0 pc als st w (rV K)
abbrev E_X9_ifs (d : Nat) (as : List AV) (w : Wd) (K : Wd → Prop) : Prop := EvA true yX9_ifs cX9_ifs 3 none d 143 0 0 as w (rV K)
abbrev C_X9_ifs (d : Nat) (as : List AV) (w : Wd) (K : Wd → Prop) : Prop := ∃ d', d' < d ∧ E_X9_ifs d' as w K
abbrev W_X9_others (d pc : Nat) (als : List (Option AV)) (st : List AV) (w : Wd) (K : Int → Wd → Prop) : Prop := WA true yX9_others cX9_others 3 (some .int) d 143 0 0 pc als st w (rI K)
abbrev E_X9_others (d : Nat) (as : List AV) (w : Wd) (K : Int → Wd → Prop) : Prop := EvA true yX9_others cX9_others 3 (some .int) d 143 0 0 as w (rI K)
abbrev C_X9_others (d : Nat) (as : List AV) (w : Wd) (K : Int → Wd → Prop) : Prop := ∃ d', d' < d ∧ E_X9_others d' as w K
abbrev W_X9_picks (d pc : Nat) (als : List (Option AV)) (st : List AV) (w : Wd) (K : Wd → Prop) : Prop := WA true yX9_picks cX9_picks 5 none d 143 0 0 pc als st w (rV K)
abbrev E_X9_picks (d : Nat) (as : List AV) (w : Wd) (K : Wd → Prop) : Prop := EvA true yX9_picks cX9_picks 5 none d 143 0 0 as w (rV K)
abbrev C_X9_picks (d : Nat) (as : List AV) (w : Wd) (K : Wd → Prop) : Prop := ∃ d', d' < d ∧ E_X9_picks d' as w K
abbrev W_X9_floor (d pc : Nat) (als : List (Option AV)) (st : List AV) (w : Wd) (K : Int → Wd → Prop) : Prop := WA true yX9_floor cX9_floor 6 (some .long) d 143 0 0 pc als st w (rJ K)
abbrev E_X9_floor (d : Nat) (as : List AV) (w : Wd) (K : Int → Wd → Prop) : Prop := EvA true yX9_floor cX9_floor 6 (some .long) d 143 0 0 as w (rJ K)
abbrev C_X9_floor (d : Nat) (as : List AV) (w : Wd) (K : Int → Wd → Prop) : Prop := ∃ d', d' < d ∧ E_X9_floor d' as w K
abbrev W_X9_twos (d pc : Nat) (als : List (Option AV)) (st : List AV) (w : Wd) (K : Wd → Prop) : Prop := WA true yX9_twos cX9_twos 7 none d 143 0 0 pc als st w (rV K)
abbrev E_X9_twos (d : Nat) (as : List AV) (w : Wd) (K : Wd → Prop) : Prop := EvA true yX9_twos cX9_twos 7 none d 143 0 0 as w (rV K)
abbrev C_X9_twos (d : Nat) (as : List AV) (w : Wd) (K : Wd → Prop) : Prop := ∃ d', d' < d ∧ E_X9_twos d' as w K
abbrev W_X9_closes (d pc : Nat) (als : List (Option AV)) (st : List AV) (w : Wd) (K : Wd → Prop) : Prop := WA true yX9_closes cX9_closes 4 none d 143 0 0 pc als st w (rV K)
abbrev E_X9_closes (d : Nat) (as : List AV) (w : Wd) (K : Wd → Prop) : Prop := EvA true yX9_closes cX9_closes 4 none d 143 0 0 as w (rV K)
abbrev C_X9_closes (d : Nat) (as : List AV) (w : Wd) (K : Wd → Prop) : Prop := ∃ d', d' < d ∧ E_X9_closes d' as w K
abbrev W_X9_works (d pc : Nat) (als : List (Option AV)) (st : List AV) (w : Wd) (K : Wd → Prop) : Prop := WA true yX9_works cX9_works 2 none d 143 0 0 pc als st w (rV K)
abbrev E_X9_works (d : Nat) (as : List AV) (w : Wd) (K : Wd → Prop) : Prop := EvA true yX9_works cX9_works 2 none d 143 0 0 as w (rV K)
abbrev C_X9_works (d : Nat) (as : List AV) (w : Wd) (K : Wd → Prop) : Prop := ∃ d', d' < d ∧ E_X9_works d' as w K
abbrev W_X9_lays (d pc : Nat) (als : List (Option AV)) (st : List AV) (w : Wd) (K : Wd → Prop) : Prop := WA true yX9_lays cX9_lays 2 none d 143 0 0 pc als st w (rV K)
abbrev E_X9_lays (d : Nat) (as : List AV) (w : Wd) (K : Wd → Prop) : Prop := EvA true yX9_lays cX9_lays 2 none d 143 0 0 as w (rV K)
abbrev C_X9_lays (d : Nat) (as : List AV) (w : Wd) (K : Wd → Prop) : Prop := ∃ d', d' < d ∧ E_X9_lays d' as w K
abbrev W_X9_heightOf (d pc : Nat) (als : List (Option AV)) (st : List AV) (w : Wd) (K : Int → Wd → Prop) : Prop := WA true yX9_heightOf cX9_heightOf 5 (some .int) d 143 0 0 pc als st w (rI K)
abbrev E_X9_heightOf (d : Nat) (as : List AV) (w : Wd) (K : Int → Wd → Prop) : Prop := EvA true yX9_heightOf cX9_heightOf 5 (some .int) d 143 0 0 as w (rI K)
abbrev C_X9_heightOf (d : Nat) (as : List AV) (w : Wd) (K : Int → Wd → Prop) : Prop := ∃ d', d' < d ∧ E_X9_heightOf d' as w K
abbrev W_X9_passes (d pc : Nat) (als : List (Option AV)) (st : List AV) (w : Wd) (K : Wd → Prop) : Prop := WA true yX9_passes cX9_passes 3 none d 143 0 0 pc als st w (rV K)
abbrev E_X9_passes (d : Nat) (as : List AV) (w : Wd) (K : Wd → Prop) : Prop := EvA true yX9_passes cX9_passes 3 none d 143 0 0 as w (rV K)
abbrev C_X9_passes (d : Nat) (as : List AV) (w : Wd) (K : Wd → Prop) : Prop := ∃ d', d' < d ∧ E_X9_passes d' as w K
abbrev W_X9_cyclic (d pc : Nat) (als : List (Option AV)) (st : List AV) (w : Wd) (K : Int → Wd → Prop) : Prop := WA true yX9_cyclic cX9_cyclic 3 (some .int) d 143 0 0 pc als st w (rI K)
abbrev E_X9_cyclic (d : Nat) (as : List AV) (w : Wd) (K : Int → Wd → Prop) : Prop := EvA true yX9_cyclic cX9_cyclic 3 (some .int) d 143 0 0 as w (rI K)
abbrev C_X9_cyclic (d : Nat) (as : List AV) (w : Wd) (K : Int → Wd → Prop) : Prop := ∃ d', d' < d ∧ E_X9_cyclic d' as w K
abbrev W_X9_round (d pc : Nat) (als : List (Option AV)) (st : List AV) (w : Wd) (K : Int → Wd → Prop) : Prop := WA true yX9_round cX9_round 5 (some .boolean) d 143 0 0 pc als st w (rI K)
abbrev E_X9_round (d : Nat) (as : List AV) (w : Wd) (K : Int → Wd → Prop) : Prop := EvA true yX9_round cX9_round 5 (some .boolean) d 143 0 0 as w (rI K)
abbrev C_X9_round (d : Nat) (as : List AV) (w : Wd) (K : Int → Wd → Prop) : Prop := ∃ d', d' < d ∧ E_X9_round d' as w K
abbrev W_X9_settles (d pc : Nat) (als : List (Option AV)) (st : List AV) (w : Wd) (K : Wd → Prop) : Prop := WA true yX9_settles cX9_settles 2 none d 143 0 0 pc als st w (rV K)
abbrev E_X9_settles (d : Nat) (as : List AV) (w : Wd) (K : Wd → Prop) : Prop := EvA true yX9_settles cX9_settles 2 none d 143 0 0 as w (rV K)
abbrev C_X9_settles (d : Nat) (as : List AV) (w : Wd) (K : Wd → Prop) : Prop := ∃ d', d' < d ∧ E_X9_settles d' as w K
abbrev W_X9_remembers (d pc : Nat) (als : List (Option AV)) (st : List AV) (w : Wd) (K : Wd → Prop) : Prop := WA true yX9_remembers cX9_remembers 2 none d 143 0 0 pc als st w (rV K)
abbrev E_X9_remembers (d : Nat) (as : List AV) (w : Wd) (K : Wd → Prop) : Prop := EvA true yX9_remembers cX9_remembers 2 none d 143 0 0 as w (rV K)
abbrev C_X9_remembers (d : Nat) (as : List AV) (w : Wd) (K : Wd → Prop) : Prop := ∃ d', d' < d ∧ E_X9_remembers d' as w K
abbrev W_X9_changedRead (d pc : Nat) (als : List (Option AV)) (st : List AV) (w : Wd) (K : Int → Wd → Prop) : Prop := WA true yX9_changedRead cX9_changedRead 3 (some .int) d 143 0 0 pc als st w (rI K)
abbrev E_X9_changedRead (d : Nat) (as : List AV) (w : Wd) (K : Int → Wd → Prop) : Prop := EvA true yX9_changedRead cX9_changedRead 3 (some .int) d 143 0 0 as w (rI K)
abbrev C_X9_changedRead (d : Nat) (as : List AV) (w : Wd) (K : Int → Wd → Prop) : Prop := ∃ d', d' < d ∧ E_X9_changedRead d' as w K
abbrev W_X9_bringsUp (d pc : Nat) (als : List (Option AV)) (st : List AV) (w : Wd) (K : Int → Wd → Prop) : Prop := WA true yX9_bringsUp cX9_bringsUp 5 (some .int) d 143 0 0 pc als st w (rI K)
abbrev E_X9_bringsUp (d : Nat) (as : List AV) (w : Wd) (K : Int → Wd → Prop) : Prop := EvA true yX9_bringsUp cX9_bringsUp 5 (some .int) d 143 0 0 as w (rI K)
abbrev C_X9_bringsUp (d : Nat) (as : List AV) (w : Wd) (K : Int → Wd → Prop) : Prop := ∃ d', d' < d ∧ E_X9_bringsUp d' as w K
abbrev W_X9_update (d pc : Nat) (als : List (Option AV)) (st : List AV) (w : Wd) (K : Int → Wd → Prop) : Prop := WA true yX9_update cX9_update 5 (some .int) d 143 0 0 pc als st w (rI K)
abbrev E_X9_update (d : Nat) (as : List AV) (w : Wd) (K : Int → Wd → Prop) : Prop := EvA true yX9_update cX9_update 5 (some .int) d 143 0 0 as w (rI K)
abbrev C_X9_update (d : Nat) (as : List AV) (w : Wd) (K : Int → Wd → Prop) : Prop := ∃ d', d' < d ∧ E_X9_update d' as w K
abbrev W_X9_rounds (d pc : Nat) (als : List (Option AV)) (st : List AV) (w : Wd) (K : Int → Wd → Prop) : Prop := WA true yX9_rounds cX9_rounds 4 (some .int) d 143 0 0 pc als st w (rI K)
abbrev E_X9_rounds (d : Nat) (as : List AV) (w : Wd) (K : Int → Wd → Prop) : Prop := EvA true yX9_rounds cX9_rounds 4 (some .int) d 143 0 0 as w (rI K)
abbrev C_X9_rounds (d : Nat) (as : List AV) (w : Wd) (K : Int → Wd → Prop) : Prop := ∃ d', d' < d ∧ E_X9_rounds d' as w K
abbrev W_X9_value (d pc : Nat) (als : List (Option AV)) (st : List AV) (w : Wd) (K : Int → Wd → Prop) : Prop := WA true yX9_value cX9_value 2 (some .int) d 143 0 0 pc als st w (rI K)
abbrev E_X9_value (d : Nat) (as : List AV) (w : Wd) (K : Int → Wd → Prop) : Prop := EvA true yX9_value cX9_value 2 (some .int) d 143 0 0 as w (rI K)
abbrev C_X9_value (d : Nat) (as : List AV) (w : Wd) (K : Int → Wd → Prop) : Prop := ∃ d', d' < d ∧ E_X9_value d' as w K
abbrev W_X9_cellOf (d pc : Nat) (als : List (Option AV)) (st : List AV) (w : Wd) (K : Int → Wd → Prop) : Prop := WA true yX9_cellOf cX9_cellOf 3 (some .int) d 143 0 0 pc als st w (rI K)
abbrev E_X9_cellOf (d : Nat) (as : List AV) (w : Wd) (K : Int → Wd → Prop) : Prop := EvA true yX9_cellOf cX9_cellOf 3 (some .int) d 143 0 0 as w (rI K)
abbrev C_X9_cellOf (d : Nat) (as : List AV) (w : Wd) (K : Int → Wd → Prop) : Prop := ∃ d', d' < d ∧ E_X9_cellOf d' as w K
abbrev W_X9_letterAt (d pc : Nat) (als : List (Option AV)) (st : List AV) (w : Wd) (K : Int → Wd → Prop) : Prop := WA true yX9_letterAt cX9_letterAt 3 (some .int) d 143 0 0 pc als st w (rI K)
abbrev E_X9_letterAt (d : Nat) (as : List AV) (w : Wd) (K : Int → Wd → Prop) : Prop := EvA true yX9_letterAt cX9_letterAt 3 (some .int) d 143 0 0 as w (rI K)
abbrev C_X9_letterAt (d : Nat) (as : List AV) (w : Wd) (K : Int → Wd → Prop) : Prop := ∃ d', d' < d ∧ E_X9_letterAt d' as w K
abbrev W_X9_readAt (d pc : Nat) (als : List (Option AV)) (st : List AV) (w : Wd) (K : Int → Wd → Prop) : Prop := WA true yX9_readAt cX9_readAt 3 (some .int) d 143 0 0 pc als st w (rI K)
abbrev E_X9_readAt (d : Nat) (as : List AV) (w : Wd) (K : Int → Wd → Prop) : Prop := EvA true yX9_readAt cX9_readAt 3 (some .int) d 143 0 0 as w (rI K)
abbrev C_X9_readAt (d : Nat) (as : List AV) (w : Wd) (K : Int → Wd → Prop) : Prop := ∃ d', d' < d ∧ E_X9_readAt d' as w K
abbrev W_X9_doesRead (d pc : Nat) (als : List (Option AV)) (st : List AV) (w : Wd) (K : Int → Wd → Prop) : Prop := WA true yX9_doesRead cX9_doesRead 5 (some .boolean) d 143 0 0 pc als st w (rI K)
abbrev E_X9_doesRead (d : Nat) (as : List AV) (w : Wd) (K : Int → Wd → Prop) : Prop := EvA true yX9_doesRead cX9_doesRead 5 (some .boolean) d 143 0 0 as w (rI K)
abbrev C_X9_doesRead (d : Nat) (as : List AV) (w : Wd) (K : Int → Wd → Prop) : Prop := ∃ d', d' < d ∧ E_X9_doesRead d' as w K
abbrev W_X9_readerAt (d pc : Nat) (als : List (Option AV)) (st : List AV) (w : Wd) (K : Int → Wd → Prop) : Prop := WA true yX9_readerAt cX9_readerAt 5 (some .int) d 143 0 0 pc als st w (rI K)
abbrev E_X9_readerAt (d : Nat) (as : List AV) (w : Wd) (K : Int → Wd → Prop) : Prop := EvA true yX9_readerAt cX9_readerAt 5 (some .int) d 143 0 0 as w (rI K)
abbrev C_X9_readerAt (d : Nat) (as : List AV) (w : Wd) (K : Int → Wd → Prop) : Prop := ∃ d', d' < d ∧ E_X9_readerAt d' as w K
abbrev W_X9_rank (d pc : Nat) (als : List (Option AV)) (st : List AV) (w : Wd) (K : Int → Wd → Prop) : Prop := WA true yX9_rank cX9_rank 2 (some .int) d 143 0 0 pc als st w (rI K)
abbrev E_X9_rank (d : Nat) (as : List AV) (w : Wd) (K : Int → Wd → Prop) : Prop := EvA true yX9_rank cX9_rank 2 (some .int) d 143 0 0 as w (rI K)
abbrev C_X9_rank (d : Nat) (as : List AV) (w : Wd) (K : Int → Wd → Prop) : Prop := ∃ d', d' < d ∧ E_X9_rank d' as w K
abbrev W_X9_ranAt (d pc : Nat) (als : List (Option AV)) (st : List AV) (w : Wd) (K : Int → Wd → Prop) : Prop := WA true yX9_ranAt cX9_ranAt 5 (some .int) d 143 0 0 pc als st w (rI K)
abbrev E_X9_ranAt (d : Nat) (as : List AV) (w : Wd) (K : Int → Wd → Prop) : Prop := EvA true yX9_ranAt cX9_ranAt 5 (some .int) d 143 0 0 as w (rI K)
abbrev C_X9_ranAt (d : Nat) (as : List AV) (w : Wd) (K : Int → Wd → Prop) : Prop := ∃ d', d' < d ∧ E_X9_ranAt d' as w K
abbrev W_X9_changedAt (d pc : Nat) (als : List (Option AV)) (st : List AV) (w : Wd) (K : Int → Wd → Prop) : Prop := WA true yX9_changedAt cX9_changedAt 4 (some .int) d 143 0 0 pc als st w (rI K)
abbrev E_X9_changedAt (d : Nat) (as : List AV) (w : Wd) (K : Int → Wd → Prop) : Prop := EvA true yX9_changedAt cX9_changedAt 4 (some .int) d 143 0 0 as w (rI K)
abbrev C_X9_changedAt (d : Nat) (as : List AV) (w : Wd) (K : Int → Wd → Prop) : Prop := ∃ d', d' < d ∧ E_X9_changedAt d' as w K
abbrev W_X9_cause (d pc : Nat) (als : List (Option AV)) (st : List AV) (w : Wd) (K : Int → Wd → Prop) : Prop := WA true yX9_cause cX9_cause 2 (some .int) d 143 0 0 pc als st w (rI K)
abbrev E_X9_cause (d : Nat) (as : List AV) (w : Wd) (K : Int → Wd → Prop) : Prop := EvA true yX9_cause cX9_cause 2 (some .int) d 143 0 0 as w (rI K)
abbrev C_X9_cause (d : Nat) (as : List AV) (w : Wd) (K : Int → Wd → Prop) : Prop := ∃ d', d' < d ∧ E_X9_cause d' as w K
abbrev W_X9_chainAt (d pc : Nat) (als : List (Option AV)) (st : List AV) (w : Wd) (K : Int → Wd → Prop) : Prop := WA true yX9_chainAt cX9_chainAt 5 (some .int) d 143 0 0 pc als st w (rI K)
abbrev E_X9_chainAt (d : Nat) (as : List AV) (w : Wd) (K : Int → Wd → Prop) : Prop := EvA true yX9_chainAt cX9_chainAt 5 (some .int) d 143 0 0 as w (rI K)
abbrev C_X9_chainAt (d : Nat) (as : List AV) (w : Wd) (K : Int → Wd → Prop) : Prop := ∃ d', d' < d ∧ E_X9_chainAt d' as w K
abbrev W_X9_whatIf (d pc : Nat) (als : List (Option AV)) (st : List AV) (w : Wd) (K : Int → Wd → Prop) : Prop := WA true yX9_whatIf cX9_whatIf 5 (some .int) d 143 0 0 pc als st w (rI K)
abbrev E_X9_whatIf (d : Nat) (as : List AV) (w : Wd) (K : Int → Wd → Prop) : Prop := EvA true yX9_whatIf cX9_whatIf 5 (some .int) d 143 0 0 as w (rI K)
abbrev C_X9_whatIf (d : Nat) (as : List AV) (w : Wd) (K : Int → Wd → Prop) : Prop := ∃ d', d' < d ∧ E_X9_whatIf d' as w K
abbrev W_X9_inAll (d pc : Nat) (als : List (Option AV)) (st : List AV) (w : Wd) (K : Int → Wd → Prop) : Prop := WA true yX9_inAll cX9_inAll 4 (some .int) d 143 0 0 pc als st w (rI K)
abbrev E_X9_inAll (d : Nat) (as : List AV) (w : Wd) (K : Int → Wd → Prop) : Prop := EvA true yX9_inAll cX9_inAll 4 (some .int) d 143 0 0 as w (rI K)
abbrev C_X9_inAll (d : Nat) (as : List AV) (w : Wd) (K : Int → Wd → Prop) : Prop := ∃ d', d' < d ∧ E_X9_inAll d' as w K
abbrev W_X9_formulas (d pc : Nat) (als : List (Option AV)) (st : List AV) (w : Wd) (K : Int → Wd → Prop) : Prop := WA true yX9_formulas cX9_formulas 3 (some .int) d 143 0 0 pc als st w (rI K)
abbrev E_X9_formulas (d : Nat) (as : List AV) (w : Wd) (K : Int → Wd → Prop) : Prop := EvA true yX9_formulas cX9_formulas 3 (some .int) d 143 0 0 as w (rI K)
abbrev C_X9_formulas (d : Nat) (as : List AV) (w : Wd) (K : Int → Wd → Prop) : Prop := ∃ d', d' < d ∧ E_X9_formulas d' as w K
abbrev W_X9_errors (d pc : Nat) (als : List (Option AV)) (st : List AV) (w : Wd) (K : Int → Wd → Prop) : Prop := WA true yX9_errors cX9_errors 3 (some .int) d 143 0 0 pc als st w (rI K)
abbrev E_X9_errors (d : Nat) (as : List AV) (w : Wd) (K : Int → Wd → Prop) : Prop := EvA true yX9_errors cX9_errors 3 (some .int) d 143 0 0 as w (rI K)
abbrev C_X9_errors (d : Nat) (as : List AV) (w : Wd) (K : Int → Wd → Prop) : Prop := ∃ d', d' < d ∧ E_X9_errors d' as w K
abbrev W_X9_highest (d pc : Nat) (als : List (Option AV)) (st : List AV) (w : Wd) (K : Int → Wd → Prop) : Prop := WA true yX9_highest cX9_highest 3 (some .int) d 143 0 0 pc als st w (rI K)
abbrev E_X9_highest (d : Nat) (as : List AV) (w : Wd) (K : Int → Wd → Prop) : Prop := EvA true yX9_highest cX9_highest 3 (some .int) d 143 0 0 as w (rI K)
abbrev C_X9_highest (d : Nat) (as : List AV) (w : Wd) (K : Int → Wd → Prop) : Prop := ∃ d', d' < d ∧ E_X9_highest d' as w K
abbrev W_X9_count (d pc : Nat) (als : List (Option AV)) (st : List AV) (w : Wd) (K : Int → Wd → Prop) : Prop := WA true yX9_count cX9_count 2 (some .int) d 143 0 0 pc als st w (rI K)
abbrev E_X9_count (d : Nat) (as : List AV) (w : Wd) (K : Int → Wd → Prop) : Prop := EvA true yX9_count cX9_count 2 (some .int) d 143 0 0 as w (rI K)
abbrev C_X9_count (d : Nat) (as : List AV) (w : Wd) (K : Int → Wd → Prop) : Prop := ∃ d', d' < d ∧ E_X9_count d' as w K
abbrev W_X9_undo (d pc : Nat) (als : List (Option AV)) (st : List AV) (w : Wd) (K : Int → Wd → Prop) : Prop := WA true yX9_undo cX9_undo 2 (some .int) d 143 0 0 pc als st w (rI K)
abbrev E_X9_undo (d : Nat) (as : List AV) (w : Wd) (K : Int → Wd → Prop) : Prop := EvA true yX9_undo cX9_undo 2 (some .int) d 143 0 0 as w (rI K)
abbrev C_X9_undo (d : Nat) (as : List AV) (w : Wd) (K : Int → Wd → Prop) : Prop := ∃ d', d' < d ∧ E_X9_undo d' as w K
set_option maxRecDepth 10000 in
theorem e_X9_cellHere {d : Nat} {w : Wd} {K : Int → Wd → Prop}  
    (h : C_X9_behind d [.inr (.inr 115), .inl 1] w (fun x1 w1 => (-2147483648 ≤ (x1 - 49) ∧ (x1 - 49) ≤ 2147483647) ∧ (-2147483648 ≤ (8 * (x1 - 49)) ∧ (8 * (x1 - 49)) ≤ 2147483647) ∧ C_X9_sign d [.inr (.inr 115)] w1 (fun x2 w2 => (-2147483648 ≤ ((8 * (x1 - 49)) + x2) ∧ ((8 * (x1 - 49)) + x2) ≤ 2147483647) ∧ (-2147483648 ≤ (((8 * (x1 - 49)) + x2) - 97) ∧ (((8 * (x1 - 49)) + x2) - 97) ≤ 2147483647) ∧ K (((8 * (x1 - 49)) + x2) - 97) w2))) :
    E_X9_cellHere d [.inr (.inr 115)] w K := by
  refine EvA.of (by decide +kernel) (Nat.le_of_ble_eq_true rfl) ?_
  change W_X9_cellHere d 0 [some (.inr (.inr 115))] [] w K
  refine WA.bipush dX9_cellHere_0 ⟨by decide, by decide⟩ ?_
  refine WA.aload_n dX9_cellHere_2 rfl (by decide) ?_
  refine WA.iconst dX9_cellHere_3 ⟨by decide, by decide⟩ ?_
  obtain ⟨d1, hd1, h⟩ := h
  refine WA.callV1 (kc := 0) (ks := 0) (kc' := 0) (ks' := 0) dX9_cellHere_4 lkX9_263 rfl rfl rfl ob_115 rfl (Nat.le_of_ble_eq_true rfl) hd1 h (fun r w1 hK => ?_)
  obtain ⟨x1, rfl, h⟩ := hK
  change WA _ _ _ _ _ _ _ _ _ _ _ [.inl x1, .inl 8] _ _
  refine WA.bipush dX9_cellHere_7 ⟨by decide, by decide⟩ ?_
  obtain ⟨s1, h⟩ := h
  refine WA.isub dX9_cellHere_9 s1 ?_
  obtain ⟨s2, h⟩ := h
  refine WA.imul dX9_cellHere_10 s2 ?_
  refine WA.aload_n dX9_cellHere_11 rfl (by decide) ?_
  obtain ⟨d1, hd1, h⟩ := h
  refine WA.callV0 (kc := 0) (ks := 0) (kc' := 0) (ks' := 0) dX9_cellHere_12 lkX9_266 rfl rfl rfl ob_115 rfl (Nat.le_of_ble_eq_true rfl) hd1 h (fun r w2 hK => ?_)
  obtain ⟨x2, rfl, h⟩ := hK
  change WA _ _ _ _ _ _ _ _ _ _ _ [.inl x2, .inl (8 * (x1 - 49))] _ _
  obtain ⟨s3, h⟩ := h
  refine WA.iadd dX9_cellHere_15 s3 ?_
  refine WA.bipush dX9_cellHere_16 ⟨by decide, by decide⟩ ?_
  obtain ⟨s4, h⟩ := h
  refine WA.isub dX9_cellHere_18 s4 ?_
  exact WA.ireturn dX9_cellHere_19 ⟨_, rfl, h⟩
set_option maxRecDepth 10000 in
theorem e_X9_isAreaHere {d : Nat} {w : Wd} {K : Int → Wd → Prop}  
    (h : C_X9_behind d [.inr (.inr 115), .inl 2] w (fun x1 w1 => C_X9_sign d [.inr (.inr 115)] w1 (fun x2 w2 => C_X9_isColumn d [.inl x2] w2 (fun x3 w3 => ((x3 = 0 → K 0 w3) ∧ (¬ x3 = 0 → C_X9_behind d [.inr (.inr 115), .inl 1] w3 (fun x4 w4 => C_X9_isFigure d [.inl x4] w4 (fun x5 w5 => ((x5 = 0 → K 0 w5) ∧ (¬ x5 = 0 → ((x1 = 58 → K 1 w5) ∧ (¬ x1 = 58 → ((x1 = 44 → K 1 w5) ∧ (¬ x1 = 44 → ((¬ x1 = 41 → K 0 w5) ∧ (x1 = 41 → K 1 w5)))))))))))))))) :
    E_X9_isAreaHere d [.inr (.inr 115)] w K := by
  refine EvA.of (by decide +kernel) (Nat.le_of_ble_eq_true rfl) ?_
  change W_X9_isAreaHere d 0 [some (.inr (.inr 115)), none] [] w K
  refine WA.aload_n dX9_isAreaHere_0 rfl (by decide) ?_
  refine WA.iconst dX9_isAreaHere_1 ⟨by decide, by decide⟩ ?_
  obtain ⟨d1, hd1, h⟩ := h
  refine WA.callV1 (kc := 0) (ks := 0) (kc' := 0) (ks' := 0) dX9_isAreaHere_2 lkX9_263 rfl rfl rfl ob_115 rfl (Nat.le_of_ble_eq_true rfl) hd1 h (fun r w1 hK => ?_)
  obtain ⟨x1, rfl, h⟩ := hK
  change WA _ _ _ _ _ _ _ _ _ _ _ [.inl x1] _ _
  refine WA.istore_n (als' := [some (.inr (.inr 115)), some (.inl x1)]) dX9_isAreaHere_5 (Nat.le_of_ble_eq_true rfl) rfl ?_
  refine WA.aload_n dX9_isAreaHere_6 rfl (by decide) ?_
  obtain ⟨d1, hd1, h⟩ := h
  refine WA.callV0 (kc := 0) (ks := 0) (kc' := 0) (ks' := 0) dX9_isAreaHere_7 lkX9_266 rfl rfl rfl ob_115 rfl (Nat.le_of_ble_eq_true rfl) hd1 h (fun r w2 hK => ?_)
  obtain ⟨x2, rfl, h⟩ := hK
  change WA _ _ _ _ _ _ _ _ _ _ _ [.inl x2] _ _
  obtain ⟨d1, hd1, h⟩ := h
  refine WA.callS1 (kc := 0) (ks := 0) (kc' := 0) (ks' := 0) dX9_isAreaHere_10 lkX9_161 rfl rfl rfl (Nat.le_of_ble_eq_true rfl) hd1 h (fun r w3 hK => ?_)
  obtain ⟨x3, rfl, h⟩ := hK
  change WA _ _ _ _ _ _ _ _ _ _ _ [.inl x3] _ _
  refine WA.if_eq (tgt := 49) dX9_isAreaHere_13 (by decide) (fun hc => ?_) (fun hc => ?_)
  · have h := h.1 hc
    refine WA.iconst dX9_isAreaHere_49 ⟨by decide, by decide⟩ ?_
    exact WA.zreturn dX9_isAreaHere_50 (by decide) ⟨_, rfl, h⟩
  · have h := h.2 hc
    refine WA.aload_n dX9_isAreaHere_16 rfl (by decide) ?_
    refine WA.iconst dX9_isAreaHere_17 ⟨by decide, by decide⟩ ?_
    obtain ⟨d1, hd1, h⟩ := h
    refine WA.callV1 (kc := 0) (ks := 0) (kc' := 0) (ks' := 0) dX9_isAreaHere_18 lkX9_263 rfl rfl rfl ob_115 rfl (Nat.le_of_ble_eq_true rfl) hd1 h (fun r w4 hK => ?_)
    obtain ⟨x4, rfl, h⟩ := hK
    change WA _ _ _ _ _ _ _ _ _ _ _ [.inl x4] _ _
    obtain ⟨d1, hd1, h⟩ := h
    refine WA.callS1 (kc := 0) (ks := 0) (kc' := 0) (ks' := 0) dX9_isAreaHere_21 lkX9_185 rfl rfl rfl (Nat.le_of_ble_eq_true rfl) hd1 h (fun r w5 hK => ?_)
    obtain ⟨x5, rfl, h⟩ := hK
    change WA _ _ _ _ _ _ _ _ _ _ _ [.inl x5] _ _
    refine WA.if_eq (tgt := 49) dX9_isAreaHere_24 (by decide) (fun hc => ?_) (fun hc => ?_)
    · have h := h.1 hc
      refine WA.iconst dX9_isAreaHere_49 ⟨by decide, by decide⟩ ?_
      exact WA.zreturn dX9_isAreaHere_50 (by decide) ⟨_, rfl, h⟩
    · have h := h.2 hc
      refine WA.iload_n dX9_isAreaHere_27 rfl ?_
      refine WA.bipush dX9_isAreaHere_28 ⟨by decide, by decide⟩ ?_
      refine WA.icmp_eq (tgt := 45) dX9_isAreaHere_30 (by decide) (fun hc => ?_) (fun hc => ?_)
      · have h := h.1 hc
        refine WA.iconst dX9_isAreaHere_45 ⟨by decide, by decide⟩ ?_
        refine WA.goto (tgt := 50) dX9_isAreaHere_46 (by decide) ?_
        exact WA.zreturn dX9_isAreaHere_50 (by decide) ⟨_, rfl, h⟩
      · have h := h.2 hc
        refine WA.iload_n dX9_isAreaHere_33 rfl ?_
        refine WA.bipush dX9_isAreaHere_34 ⟨by decide, by decide⟩ ?_
        refine WA.icmp_eq (tgt := 45) dX9_isAreaHere_36 (by decide) (fun hc => ?_) (fun hc => ?_)
        · have h := h.1 hc
          refine WA.iconst dX9_isAreaHere_45 ⟨by decide, by decide⟩ ?_
          refine WA.goto (tgt := 50) dX9_isAreaHere_46 (by decide) ?_
          exact WA.zreturn dX9_isAreaHere_50 (by decide) ⟨_, rfl, h⟩
        · have h := h.2 hc
          refine WA.iload_n dX9_isAreaHere_39 rfl ?_
          refine WA.bipush dX9_isAreaHere_40 ⟨by decide, by decide⟩ ?_
          refine WA.icmp_ne (tgt := 49) dX9_isAreaHere_42 (by decide) (fun hc => ?_) (fun hc => ?_)
          · have h := h.1 hc
            refine WA.iconst dX9_isAreaHere_49 ⟨by decide, by decide⟩ ?_
            exact WA.zreturn dX9_isAreaHere_50 (by decide) ⟨_, rfl, h⟩
          · have h := h.2 hc
            refine WA.iconst dX9_isAreaHere_45 ⟨by decide, by decide⟩ ?_
            refine WA.goto (tgt := 50) dX9_isAreaHere_46 (by decide) ?_
            exact WA.zreturn dX9_isAreaHere_50 (by decide) ⟨_, rfl, h⟩
set_option maxRecDepth 10000 in
theorem e_X9_takes {d : Nat} {w : Wd} {K : Wd → Prop} {a1 : Int}  
    (h : (0 ≤ (w 115 23) ∧ (w 115 23) < 40) ∧ (0 ≤ (w 115 23) ∧ (w 115 23) < 40) ∧ ((¬ (w 133 (w 115 23)) = 10 → ((¬ (w 133 (w 115 23)) = 9 → (0 ≤ (w 115 23) ∧ (w 115 23) < 40) ∧ (((w 141 (w 115 23)) = 0 → (0 ≤ (w 115 23) ∧ (w 115 23) < 40) ∧ (∀ w1, w1 = wset w 142 (w 115 23) a1 → (0 ≤ (w1 115 23) ∧ (w1 115 23) < 40) ∧ (∀ w2, w2 = wset w1 141 (w1 115 23) 1 → K w2))) ∧ (¬ (w 141 (w 115 23)) = 0 → ((¬ (w 133 (w 115 23)) = 7 → ((a1 ≤ (w 142 (w 115 23)) → (0 ≤ (w 115 23) ∧ (w 115 23) < 40) ∧ (∀ w3, w3 = wset w 142 (w 115 23) (w 142 (w 115 23)) → (0 ≤ (w3 115 23) ∧ (w3 115 23) < 40) ∧ (∀ w4, w4 = wset w3 141 (w3 115 23) 1 → K w4))) ∧ (¬ (a1 ≤ (w 142 (w 115 23))) → (0 ≤ (w 115 23) ∧ (w 115 23) < 40) ∧ (∀ w5, w5 = wset w 142 (w 115 23) a1 → (0 ≤ (w5 115 23) ∧ (w5 115 23) < 40) ∧ (∀ w6, w6 = wset w5 141 (w5 115 23) 1 → K w6))))) ∧ ((w 133 (w 115 23)) = 7 → (((w 142 (w 115 23)) ≤ a1 → (0 ≤ (w 115 23) ∧ (w 115 23) < 40) ∧ (∀ w7, w7 = wset w 142 (w 115 23) (w 142 (w 115 23)) → (0 ≤ (w7 115 23) ∧ (w7 115 23) < 40) ∧ (∀ w8, w8 = wset w7 141 (w7 115 23) 1 → K w8))) ∧ (¬ ((w 142 (w 115 23)) ≤ a1) → (0 ≤ (w 115 23) ∧ (w 115 23) < 40) ∧ (∀ w9, w9 = wset w 142 (w 115 23) a1 → (0 ≤ (w9 115 23) ∧ (w9 115 23) < 40) ∧ (∀ w10, w10 = wset w9 141 (w9 115 23) 1 → K w10))))))))) ∧ ((w 133 (w 115 23)) = 9 → (-9223372036854775808 ≤ ((w 142 (w 115 23)) + a1) ∧ ((w 142 (w 115 23)) + a1) ≤ 9223372036854775807) ∧ C_X9_bound d [.inr (.inr 115), .inr (.inl ((w 142 (w 115 23)) + a1))] w (fun x1 w11 => (0 ≤ (w 115 23) ∧ (w 115 23) < 40) ∧ (∀ w12, w12 = wset w11 142 (w 115 23) x1 → (0 ≤ (w12 115 23) ∧ (w12 115 23) < 40) ∧ (∀ w13, w13 = wset w12 141 (w12 115 23) 1 → K w13)))))) ∧ ((w 133 (w 115 23)) = 10 → (-9223372036854775808 ≤ ((w 142 (w 115 23)) + 1) ∧ ((w 142 (w 115 23)) + 1) ≤ 9223372036854775807) ∧ (0 ≤ (w 115 23) ∧ (w 115 23) < 40) ∧ (∀ w14, w14 = wset w 142 (w 115 23) ((w 142 (w 115 23)) + 1) → (0 ≤ (w14 115 23) ∧ (w14 115 23) < 40) ∧ (∀ w15, w15 = wset w14 141 (w14 115 23) 1 → K w15))))) :
    E_X9_takes d [.inr (.inr 115), .inr (.inl a1)] w K := by
  refine EvA.of (by decide +kernel) (Nat.le_of_ble_eq_true rfl) ?_
  change W_X9_takes d 0 [some (.inr (.inr 115)), some (.inr (.inl a1)), none, none, none, none, none] [] w K
  refine WA.aload_n dX9_takes_0 rfl (by decide) ?_
  refine gxX9_94 rfl rfl dX9_takes_1 ob_115 ?_
  refine WA.aload_n dX9_takes_4 rfl (by decide) ?_
  refine gfX9_119 rfl dX9_takes_5 ob_115 ?_
  obtain ⟨s1, h⟩ := h
  refine WA.laload dX9_takes_8 ob_142 s1.1 s1.2 ?_
  refine WA.lstore_n (als' := [some (.inr (.inr 115)), some (.inr (.inl a1)), none, some (.inr (.inl (w 142 (w 115 23)))), none, none, none]) dX9_takes_9 (Nat.le_of_ble_eq_true rfl) rfl ?_
  refine WA.aload_n dX9_takes_10 rfl (by decide) ?_
  refine gxX9_66 rfl rfl dX9_takes_11 ob_115 ?_
  refine WA.aload_n dX9_takes_14 rfl (by decide) ?_
  refine gfX9_119 rfl dX9_takes_15 ob_115 ?_
  obtain ⟨s2, h⟩ := h
  refine WA.iaload dX9_takes_18 ob_133 s2.1 s2.2 ?_
  refine WA.istore (als' := [some (.inr (.inr 115)), some (.inr (.inl a1)), none, some (.inr (.inl (w 142 (w 115 23)))), none, some (.inl (w 133 (w 115 23))), none]) dX9_takes_19 (Nat.le_of_ble_eq_true rfl) rfl ?_
  refine WA.iload dX9_takes_21 rfl ?_
  refine WA.bipush dX9_takes_23 ⟨by decide, by decide⟩ ?_
  refine WA.icmp_ne (tgt := 43) dX9_takes_25 (by decide) (fun hc => ?_) (fun hc => ?_)
  · have h := h.1 hc
    refine WA.iload dX9_takes_43 rfl ?_
    refine WA.bipush dX9_takes_45 ⟨by decide, by decide⟩ ?_
    refine WA.icmp_ne (tgt := 69) dX9_takes_47 (by decide) (fun hc => ?_) (fun hc => ?_)
    · have h := h.1 hc
      refine WA.aload_n dX9_takes_69 rfl (by decide) ?_
      refine gxX9_91 rfl rfl dX9_takes_70 ob_115 ?_
      refine WA.aload_n dX9_takes_73 rfl (by decide) ?_
      refine gfX9_119 rfl dX9_takes_74 ob_115 ?_
      obtain ⟨s3, h⟩ := h
      refine WA.zaload dX9_takes_77 ob_141 s3.1 s3.2 ?_
      refine WA.if_eq (tgt := 103) dX9_takes_78 (by decide) (fun hc => ?_) (fun hc => ?_)
      · have h := h.1 hc
        refine WA.iconst dX9_takes_103 ⟨by decide, by decide⟩ ?_
        refine WA.goto (tgt := 108) dX9_takes_104 (by decide) ?_
        refine WA.istore (als' := [some (.inr (.inr 115)), some (.inr (.inl a1)), none, some (.inr (.inl (w 142 (w 115 23)))), none, some (.inl (w 133 (w 115 23))), some (.inl 1)]) dX9_takes_108 (Nat.le_of_ble_eq_true rfl) rfl ?_
        refine WA.aload_n dX9_takes_110 rfl (by decide) ?_
        refine gxX9_94 rfl rfl dX9_takes_111 ob_115 ?_
        refine WA.aload_n dX9_takes_114 rfl (by decide) ?_
        refine gfX9_119 rfl dX9_takes_115 ob_115 ?_
        refine WA.iload dX9_takes_118 rfl ?_
        refine WA.if_eq (tgt := 127) dX9_takes_120 (by decide) (fun hc => absurd hc (by decide)) (fun _ => ?_)
        refine WA.lload_n dX9_takes_123 rfl ?_
        refine WA.goto (tgt := 128) dX9_takes_124 (by decide) ?_
        obtain ⟨s4, h⟩ := h
        obtain ⟨w1, qw1⟩ : ∃ z, z = wset w 142 (w 115 23) a1 := ⟨_, rfl⟩
        have h := h w1 qw1
        refine WA.lastore dX9_takes_128 ob_142 s4.1 s4.2 ?_
        rw [← qw1]
        refine WA.aload_n dX9_takes_129 rfl (by decide) ?_
        refine gxX9_91 rfl rfl dX9_takes_130 ob_115 ?_
        refine WA.aload_n dX9_takes_133 rfl (by decide) ?_
        refine gfX9_119 rfl dX9_takes_134 ob_115 ?_
        refine WA.iconst dX9_takes_137 ⟨by decide, by decide⟩ ?_
        obtain ⟨s5, h⟩ := h
        obtain ⟨w2, qw2⟩ : ∃ z, z = wset w1 141 (w1 115 23) 1 := ⟨_, rfl⟩
        have h := h w2 qw2
        refine WA.zastore dX9_takes_138 ob_141 s5.1 s5.2 (by decide) ?_
        rw [← qw2]
        exact WA.vreturn dX9_takes_139 ⟨rfl, h⟩
      · have h := h.2 hc
        refine WA.iload dX9_takes_81 rfl ?_
        refine WA.bipush dX9_takes_83 ⟨by decide, by decide⟩ ?_
        refine WA.icmp_ne (tgt := 97) dX9_takes_85 (by decide) (fun hc => ?_) (fun hc => ?_)
        · have h := h.1 hc
          refine WA.lload_n dX9_takes_97 rfl ?_
          refine WA.lload_n dX9_takes_98 rfl ?_
          refine WA.lcmp_le (tgt := 107) dX9_takes_99 dX9_takes_100 (by decide) (fun hc => ?_) (fun hc => ?_)
          · have h := h.1 hc
            refine WA.iconst dX9_takes_107 ⟨by decide, by decide⟩ ?_
            refine WA.istore (als' := [some (.inr (.inr 115)), some (.inr (.inl a1)), none, some (.inr (.inl (w 142 (w 115 23)))), none, some (.inl (w 133 (w 115 23))), some (.inl 0)]) dX9_takes_108 (Nat.le_of_ble_eq_true rfl) rfl ?_
            refine WA.aload_n dX9_takes_110 rfl (by decide) ?_
            refine gxX9_94 rfl rfl dX9_takes_111 ob_115 ?_
            refine WA.aload_n dX9_takes_114 rfl (by decide) ?_
            refine gfX9_119 rfl dX9_takes_115 ob_115 ?_
            refine WA.iload dX9_takes_118 rfl ?_
            refine WA.if_eq (tgt := 127) dX9_takes_120 (by decide) (fun _ => ?_) (fun hc => absurd hc (by decide))
            refine WA.lload_n dX9_takes_127 rfl ?_
            obtain ⟨s6, h⟩ := h
            obtain ⟨w3, qw3⟩ : ∃ z, z = wset w 142 (w 115 23) (w 142 (w 115 23)) := ⟨_, rfl⟩
            have h := h w3 qw3
            refine WA.lastore dX9_takes_128 ob_142 s6.1 s6.2 ?_
            rw [← qw3]
            refine WA.aload_n dX9_takes_129 rfl (by decide) ?_
            refine gxX9_91 rfl rfl dX9_takes_130 ob_115 ?_
            refine WA.aload_n dX9_takes_133 rfl (by decide) ?_
            refine gfX9_119 rfl dX9_takes_134 ob_115 ?_
            refine WA.iconst dX9_takes_137 ⟨by decide, by decide⟩ ?_
            obtain ⟨s7, h⟩ := h
            obtain ⟨w4, qw4⟩ : ∃ z, z = wset w3 141 (w3 115 23) 1 := ⟨_, rfl⟩
            have h := h w4 qw4
            refine WA.zastore dX9_takes_138 ob_141 s7.1 s7.2 (by decide) ?_
            rw [← qw4]
            exact WA.vreturn dX9_takes_139 ⟨rfl, h⟩
          · have h := h.2 hc
            refine WA.iconst dX9_takes_103 ⟨by decide, by decide⟩ ?_
            refine WA.goto (tgt := 108) dX9_takes_104 (by decide) ?_
            refine WA.istore (als' := [some (.inr (.inr 115)), some (.inr (.inl a1)), none, some (.inr (.inl (w 142 (w 115 23)))), none, some (.inl (w 133 (w 115 23))), some (.inl 1)]) dX9_takes_108 (Nat.le_of_ble_eq_true rfl) rfl ?_
            refine WA.aload_n dX9_takes_110 rfl (by decide) ?_
            refine gxX9_94 rfl rfl dX9_takes_111 ob_115 ?_
            refine WA.aload_n dX9_takes_114 rfl (by decide) ?_
            refine gfX9_119 rfl dX9_takes_115 ob_115 ?_
            refine WA.iload dX9_takes_118 rfl ?_
            refine WA.if_eq (tgt := 127) dX9_takes_120 (by decide) (fun hc => absurd hc (by decide)) (fun _ => ?_)
            refine WA.lload_n dX9_takes_123 rfl ?_
            refine WA.goto (tgt := 128) dX9_takes_124 (by decide) ?_
            obtain ⟨s8, h⟩ := h
            obtain ⟨w5, qw5⟩ : ∃ z, z = wset w 142 (w 115 23) a1 := ⟨_, rfl⟩
            have h := h w5 qw5
            refine WA.lastore dX9_takes_128 ob_142 s8.1 s8.2 ?_
            rw [← qw5]
            refine WA.aload_n dX9_takes_129 rfl (by decide) ?_
            refine gxX9_91 rfl rfl dX9_takes_130 ob_115 ?_
            refine WA.aload_n dX9_takes_133 rfl (by decide) ?_
            refine gfX9_119 rfl dX9_takes_134 ob_115 ?_
            refine WA.iconst dX9_takes_137 ⟨by decide, by decide⟩ ?_
            obtain ⟨s9, h⟩ := h
            obtain ⟨w6, qw6⟩ : ∃ z, z = wset w5 141 (w5 115 23) 1 := ⟨_, rfl⟩
            have h := h w6 qw6
            refine WA.zastore dX9_takes_138 ob_141 s9.1 s9.2 (by decide) ?_
            rw [← qw6]
            exact WA.vreturn dX9_takes_139 ⟨rfl, h⟩
        · have h := h.2 hc
          refine WA.lload_n dX9_takes_88 rfl ?_
          refine WA.lload_n dX9_takes_89 rfl ?_
          refine WA.lcmp_ge (tgt := 107) dX9_takes_90 dX9_takes_91 (by decide) (fun hc => ?_) (fun hc => ?_)
          · have h := h.1 hc
            refine WA.iconst dX9_takes_107 ⟨by decide, by decide⟩ ?_
            refine WA.istore (als' := [some (.inr (.inr 115)), some (.inr (.inl a1)), none, some (.inr (.inl (w 142 (w 115 23)))), none, some (.inl (w 133 (w 115 23))), some (.inl 0)]) dX9_takes_108 (Nat.le_of_ble_eq_true rfl) rfl ?_
            refine WA.aload_n dX9_takes_110 rfl (by decide) ?_
            refine gxX9_94 rfl rfl dX9_takes_111 ob_115 ?_
            refine WA.aload_n dX9_takes_114 rfl (by decide) ?_
            refine gfX9_119 rfl dX9_takes_115 ob_115 ?_
            refine WA.iload dX9_takes_118 rfl ?_
            refine WA.if_eq (tgt := 127) dX9_takes_120 (by decide) (fun _ => ?_) (fun hc => absurd hc (by decide))
            refine WA.lload_n dX9_takes_127 rfl ?_
            obtain ⟨s10, h⟩ := h
            obtain ⟨w7, qw7⟩ : ∃ z, z = wset w 142 (w 115 23) (w 142 (w 115 23)) := ⟨_, rfl⟩
            have h := h w7 qw7
            refine WA.lastore dX9_takes_128 ob_142 s10.1 s10.2 ?_
            rw [← qw7]
            refine WA.aload_n dX9_takes_129 rfl (by decide) ?_
            refine gxX9_91 rfl rfl dX9_takes_130 ob_115 ?_
            refine WA.aload_n dX9_takes_133 rfl (by decide) ?_
            refine gfX9_119 rfl dX9_takes_134 ob_115 ?_
            refine WA.iconst dX9_takes_137 ⟨by decide, by decide⟩ ?_
            obtain ⟨s11, h⟩ := h
            obtain ⟨w8, qw8⟩ : ∃ z, z = wset w7 141 (w7 115 23) 1 := ⟨_, rfl⟩
            have h := h w8 qw8
            refine WA.zastore dX9_takes_138 ob_141 s11.1 s11.2 (by decide) ?_
            rw [← qw8]
            exact WA.vreturn dX9_takes_139 ⟨rfl, h⟩
          · have h := h.2 hc
            refine WA.goto (tgt := 103) dX9_takes_94 (by decide) ?_
            refine WA.iconst dX9_takes_103 ⟨by decide, by decide⟩ ?_
            refine WA.goto (tgt := 108) dX9_takes_104 (by decide) ?_
            refine WA.istore (als' := [some (.inr (.inr 115)), some (.inr (.inl a1)), none, some (.inr (.inl (w 142 (w 115 23)))), none, some (.inl (w 133 (w 115 23))), some (.inl 1)]) dX9_takes_108 (Nat.le_of_ble_eq_true rfl) rfl ?_
            refine WA.aload_n dX9_takes_110 rfl (by decide) ?_
            refine gxX9_94 rfl rfl dX9_takes_111 ob_115 ?_
            refine WA.aload_n dX9_takes_114 rfl (by decide) ?_
            refine gfX9_119 rfl dX9_takes_115 ob_115 ?_
            refine WA.iload dX9_takes_118 rfl ?_
            refine WA.if_eq (tgt := 127) dX9_takes_120 (by decide) (fun hc => absurd hc (by decide)) (fun _ => ?_)
            refine WA.lload_n dX9_takes_123 rfl ?_
            refine WA.goto (tgt := 128) dX9_takes_124 (by decide) ?_
            obtain ⟨s12, h⟩ := h
            obtain ⟨w9, qw9⟩ : ∃ z, z = wset w 142 (w 115 23) a1 := ⟨_, rfl⟩
            have h := h w9 qw9
            refine WA.lastore dX9_takes_128 ob_142 s12.1 s12.2 ?_
            rw [← qw9]
            refine WA.aload_n dX9_takes_129 rfl (by decide) ?_
            refine gxX9_91 rfl rfl dX9_takes_130 ob_115 ?_
            refine WA.aload_n dX9_takes_133 rfl (by decide) ?_
            refine gfX9_119 rfl dX9_takes_134 ob_115 ?_
            refine WA.iconst dX9_takes_137 ⟨by decide, by decide⟩ ?_
            obtain ⟨s13, h⟩ := h
            obtain ⟨w10, qw10⟩ : ∃ z, z = wset w9 141 (w9 115 23) 1 := ⟨_, rfl⟩
            have h := h w10 qw10
            refine WA.zastore dX9_takes_138 ob_141 s13.1 s13.2 (by decide) ?_
            rw [← qw10]
            exact WA.vreturn dX9_takes_139 ⟨rfl, h⟩
    · have h := h.2 hc
      refine WA.aload_n dX9_takes_50 rfl (by decide) ?_
      refine gxX9_94 rfl rfl dX9_takes_51 ob_115 ?_
      refine WA.aload_n dX9_takes_54 rfl (by decide) ?_
      refine gfX9_119 rfl dX9_takes_55 ob_115 ?_
      refine WA.aload_n dX9_takes_58 rfl (by decide) ?_
      refine WA.lload_n dX9_takes_59 rfl ?_
      refine WA.lload_n dX9_takes_60 rfl ?_
      obtain ⟨s14, h⟩ := h
      refine WA.ladd dX9_takes_61 s14 ?_
      obtain ⟨d1, hd1, h⟩ := h
      refine WA.callV1 (kc := 0) (ks := 0) (kc' := 0) (ks' := 0) dX9_takes_62 lkX9_255 rfl rfl rfl ob_115 rfl (Nat.le_of_ble_eq_true rfl) hd1 h (fun r w11 hK => ?_)
      obtain ⟨x1, rfl, h⟩ := hK
      change WA _ _ _ _ _ _ _ _ _ _ _ [.inr (.inl x1), .inl (w 115 23), .inr (.inr 142)] _ _
      obtain ⟨s15, h⟩ := h
      obtain ⟨w12, qw12⟩ : ∃ z, z = wset w11 142 (w 115 23) x1 := ⟨_, rfl⟩
      have h := h w12 qw12
      refine WA.lastore dX9_takes_65 ob_142 s15.1 s15.2 ?_
      rw [← qw12]
      refine WA.goto (tgt := 129) dX9_takes_66 (by decide) ?_
      refine WA.aload_n dX9_takes_129 rfl (by decide) ?_
      refine gxX9_91 rfl rfl dX9_takes_130 ob_115 ?_
      refine WA.aload_n dX9_takes_133 rfl (by decide) ?_
      refine gfX9_119 rfl dX9_takes_134 ob_115 ?_
      refine WA.iconst dX9_takes_137 ⟨by decide, by decide⟩ ?_
      obtain ⟨s16, h⟩ := h
      obtain ⟨w13, qw13⟩ : ∃ z, z = wset w12 141 (w12 115 23) 1 := ⟨_, rfl⟩
      have h := h w13 qw13
      refine WA.zastore dX9_takes_138 ob_141 s16.1 s16.2 (by decide) ?_
      rw [← qw13]
      exact WA.vreturn dX9_takes_139 ⟨rfl, h⟩
  · have h := h.2 hc
    refine WA.aload_n dX9_takes_28 rfl (by decide) ?_
    refine gxX9_94 rfl rfl dX9_takes_29 ob_115 ?_
    refine WA.aload_n dX9_takes_32 rfl (by decide) ?_
    refine gfX9_119 rfl dX9_takes_33 ob_115 ?_
    refine WA.lload_n dX9_takes_36 rfl ?_
    refine WA.lconst (x := 1) dX9_takes_37 rfl ?_
    obtain ⟨s17, h⟩ := h
    refine WA.ladd dX9_takes_38 s17 ?_
    obtain ⟨s18, h⟩ := h
    obtain ⟨w14, qw14⟩ : ∃ z, z = wset w 142 (w 115 23) ((w 142 (w 115 23)) + 1) := ⟨_, rfl⟩
    have h := h w14 qw14
    refine WA.lastore dX9_takes_39 ob_142 s18.1 s18.2 ?_
    rw [← qw14]
    refine WA.goto (tgt := 129) dX9_takes_40 (by decide) ?_
    refine WA.aload_n dX9_takes_129 rfl (by decide) ?_
    refine gxX9_91 rfl rfl dX9_takes_130 ob_115 ?_
    refine WA.aload_n dX9_takes_133 rfl (by decide) ?_
    refine gfX9_119 rfl dX9_takes_134 ob_115 ?_
    refine WA.iconst dX9_takes_137 ⟨by decide, by decide⟩ ?_
    obtain ⟨s19, h⟩ := h
    obtain ⟨w15, qw15⟩ : ∃ z, z = wset w14 141 (w14 115 23) 1 := ⟨_, rfl⟩
    have h := h w15 qw15
    refine WA.zastore dX9_takes_138 ob_141 s19.1 s19.2 (by decide) ?_
    rw [← qw15]
    exact WA.vreturn dX9_takes_139 ⟨rfl, h⟩
set_option maxRecDepth 10000 in
theorem e_X9_nextPart {d : Nat} {w : Wd} {K : Wd → Prop}  
    (h : C_X9_sign d [.inr (.inr 115)] w (fun x1 w1 => ((¬ x1 = 44 → (0 ≤ (w1 115 23) ∧ (w1 115 23) < 40) ∧ C_X9_leaves d [.inr (.inr 115), .inr (.inl (w1 142 (w1 115 23)))] w1 (fun w2 => K w2)) ∧ (x1 = 44 → (-2147483648 ≤ ((w1 115 24) + 1) ∧ ((w1 115 24) + 1) ≤ 2147483647) ∧ (∀ w3, w3 = wset w1 115 24 ((w1 115 24) + 1) → C_X9_frame d [.inr (.inr 115)] w3 (fun w4 => K w4)))))) :
    E_X9_nextPart d [.inr (.inr 115)] w K := by
  refine EvA.of (by decide +kernel) (Nat.le_of_ble_eq_true rfl) ?_
  change W_X9_nextPart d 0 [some (.inr (.inr 115))] [] w K
  refine WA.aload_n dX9_nextPart_0 rfl (by decide) ?_
  obtain ⟨d1, hd1, h⟩ := h
  refine WA.callV0 (kc := 0) (ks := 0) (kc' := 0) (ks' := 0) dX9_nextPart_1 lkX9_266 rfl rfl rfl ob_115 rfl (Nat.le_of_ble_eq_true rfl) hd1 h (fun r w1 hK => ?_)
  obtain ⟨x1, rfl, h⟩ := hK
  change WA _ _ _ _ _ _ _ _ _ _ _ [.inl x1] _ _
  refine WA.bipush dX9_nextPart_4 ⟨by decide, by decide⟩ ?_
  refine WA.icmp_ne (tgt := 26) dX9_nextPart_6 (by decide) (fun hc => ?_) (fun hc => ?_)
  · have h := h.1 hc
    refine WA.aload_n dX9_nextPart_26 rfl (by decide) ?_
    refine WA.aload_n dX9_nextPart_27 rfl (by decide) ?_
    refine gxX9_94 rfl rfl dX9_nextPart_28 ob_115 ?_
    refine WA.aload_n dX9_nextPart_31 rfl (by decide) ?_
    refine gfX9_119 rfl dX9_nextPart_32 ob_115 ?_
    obtain ⟨s1, h⟩ := h
    refine WA.laload dX9_nextPart_35 ob_142 s1.1 s1.2 ?_
    obtain ⟨d1, hd1, h⟩ := h
    refine WA.callV1 (kc := 0) (ks := 0) (kc' := 0) (ks' := 0) dX9_nextPart_36 lkX9_269 rfl rfl rfl ob_115 rfl (Nat.le_of_ble_eq_true rfl) hd1 h (fun r w2 hK => ?_)
    obtain ⟨rfl, h⟩ := hK
    change WA _ _ _ _ _ _ _ _ _ _ _ [] _ _
    exact WA.vreturn dX9_nextPart_39 ⟨rfl, h⟩
  · have h := h.2 hc
    refine WA.aload_n dX9_nextPart_9 rfl (by decide) ?_
    refine WA.dup dX9_nextPart_10 rfl ?_
    refine gfX9_116 rfl dX9_nextPart_11 ob_115 ?_
    refine WA.iconst dX9_nextPart_14 ⟨by decide, by decide⟩ ?_
    obtain ⟨s2, h⟩ := h
    refine WA.iadd dX9_nextPart_15 s2 ?_
    obtain ⟨w3, qw3⟩ : ∃ z, z = wset w1 115 24 ((w1 115 24) + 1) := ⟨_, rfl⟩
    have h := h w3 qw3
    refine pfX9_116 rfl dX9_nextPart_16 ob_115 ?_
    rw [← qw3]
    refine WA.aload_n dX9_nextPart_19 rfl (by decide) ?_
    obtain ⟨d1, hd1, h⟩ := h
    refine WA.callV0 (kc := 0) (ks := 0) (kc' := 0) (ks' := 0) dX9_nextPart_20 lkX9_249 rfl rfl rfl ob_115 rfl (Nat.le_of_ble_eq_true rfl) hd1 h (fun r w4 hK => ?_)
    obtain ⟨rfl, h⟩ := hK
    change WA _ _ _ _ _ _ _ _ _ _ _ [] _ _
    refine WA.goto (tgt := 39) dX9_nextPart_23 (by decide) ?_
    exact WA.vreturn dX9_nextPart_39 ⟨rfl, h⟩
set_option maxRecDepth 10000 in
theorem v_X9_readsArea_56 {d : Nat} {w : Wd} {K : Wd → Prop} {v1 v2 v3 : Int}  
    (h : 0 ≤ v2 ∧ (((v2 / 8) < v3 → C_X9_goesOn d [.inr (.inr 115)] w (fun x1 w1 => ((x1 = 0 → K w1) ∧ (¬ x1 = 0 → C_X9_nextPart d [.inr (.inr 115)] w1 (fun w2 => K w2))))) ∧ (¬ ((v2 / 8) < v3) → C_X9_goesOn d [.inr (.inr 115)] w (fun x2 w3 => ((x2 = 0 → C_X9_goesOn d [.inr (.inr 115)] w3 (fun x3 w4 => ((x3 = 0 → K w4) ∧ (¬ x3 = 0 → C_X9_nextPart d [.inr (.inr 115)] w4 (fun w5 => K w5))))) ∧ (¬ x2 = 0 → 0 ≤ v1 ∧ W_X9_readsArea d 77 [some (.inr (.inr 115)), some (.inl v1), some (.inl v2), some (.inl v3), some (.inl (v1 % 8)), none, none, none] [] w3 K)))))) :
    W_X9_readsArea d 56 [some (.inr (.inr 115)), some (.inl v1), some (.inl v2), some (.inl v3), none, none, none, none] [] w K := by
  refine WA.iload_n dX9_readsArea_56 rfl ?_
  refine WA.iload_n dX9_readsArea_57 rfl ?_
  refine WA.bipush dX9_readsArea_58 ⟨by decide, by decide⟩ ?_
  obtain ⟨s1, h⟩ := h
  refine WA.idiv dX9_readsArea_60 s1 (by decide) ?_
  refine WA.icmp_gt (tgt := 144) dX9_readsArea_61 (by decide) (fun hc => ?_) (fun hc => ?_)
  · have h := h.1 hc
    refine WA.aload_n dX9_readsArea_144 rfl (by decide) ?_
    obtain ⟨d1, hd1, h⟩ := h
    refine WA.callV0 (kc := 0) (ks := 0) (kc' := 0) (ks' := 0) dX9_readsArea_145 lkX9_275 rfl rfl rfl ob_115 rfl (Nat.le_of_ble_eq_true rfl) hd1 h (fun r w1 hK => ?_)
    obtain ⟨x1, rfl, h⟩ := hK
    change WA _ _ _ _ _ _ _ _ _ _ _ [.inl x1] _ _
    refine WA.if_eq (tgt := 155) dX9_readsArea_148 (by decide) (fun hc => ?_) (fun hc => ?_)
    · have h := h.1 hc
      exact WA.vreturn dX9_readsArea_155 ⟨rfl, h⟩
    · have h := h.2 hc
      refine WA.aload_n dX9_readsArea_151 rfl (by decide) ?_
      obtain ⟨d1, hd1, h⟩ := h
      refine WA.callV0 (kc := 0) (ks := 0) (kc' := 0) (ks' := 0) dX9_readsArea_152 lkX9_287 rfl rfl rfl ob_115 rfl (Nat.le_of_ble_eq_true rfl) hd1 h (fun r w2 hK => ?_)
      obtain ⟨rfl, h⟩ := hK
      change WA _ _ _ _ _ _ _ _ _ _ _ [] _ _
      exact WA.vreturn dX9_readsArea_155 ⟨rfl, h⟩
  · have h := h.2 hc
    refine WA.aload_n dX9_readsArea_64 rfl (by decide) ?_
    obtain ⟨d1, hd1, h⟩ := h
    refine WA.callV0 (kc := 0) (ks := 0) (kc' := 0) (ks' := 0) dX9_readsArea_65 lkX9_275 rfl rfl rfl ob_115 rfl (Nat.le_of_ble_eq_true rfl) hd1 h (fun r w3 hK => ?_)
    obtain ⟨x2, rfl, h⟩ := hK
    change WA _ _ _ _ _ _ _ _ _ _ _ [.inl x2] _ _
    refine WA.if_eq (tgt := 144) dX9_readsArea_68 (by decide) (fun hc => ?_) (fun hc => ?_)
    · have h := h.1 hc
      refine WA.aload_n dX9_readsArea_144 rfl (by decide) ?_
      obtain ⟨d1, hd1, h⟩ := h
      refine WA.callV0 (kc := 0) (ks := 0) (kc' := 0) (ks' := 0) dX9_readsArea_145 lkX9_275 rfl rfl rfl ob_115 rfl (Nat.le_of_ble_eq_true rfl) hd1 h (fun r w4 hK => ?_)
      obtain ⟨x3, rfl, h⟩ := hK
      change WA _ _ _ _ _ _ _ _ _ _ _ [.inl x3] _ _
      refine WA.if_eq (tgt := 155) dX9_readsArea_148 (by decide) (fun hc => ?_) (fun hc => ?_)
      · have h := h.1 hc
        exact WA.vreturn dX9_readsArea_155 ⟨rfl, h⟩
      · have h := h.2 hc
        refine WA.aload_n dX9_readsArea_151 rfl (by decide) ?_
        obtain ⟨d1, hd1, h⟩ := h
        refine WA.callV0 (kc := 0) (ks := 0) (kc' := 0) (ks' := 0) dX9_readsArea_152 lkX9_287 rfl rfl rfl ob_115 rfl (Nat.le_of_ble_eq_true rfl) hd1 h (fun r w5 hK => ?_)
        obtain ⟨rfl, h⟩ := hK
        change WA _ _ _ _ _ _ _ _ _ _ _ [] _ _
        exact WA.vreturn dX9_readsArea_155 ⟨rfl, h⟩
    · have h := h.2 hc
      refine WA.iload_n dX9_readsArea_71 rfl ?_
      refine WA.bipush dX9_readsArea_72 ⟨by decide, by decide⟩ ?_
      obtain ⟨s2, h⟩ := h
      refine WA.irem dX9_readsArea_74 s2 (by decide) ?_
      refine WA.istore (als' := [some (.inr (.inr 115)), some (.inl v1), some (.inl v2), some (.inl v3), some (.inl (v1 % 8)), none, none, none]) dX9_readsArea_75 (Nat.le_of_ble_eq_true rfl) rfl ?_
      exact h
set_option maxRecDepth 10000 in
theorem v_X9_readsArea_77 {d : Nat} {w : Wd} {K : Wd → Prop} {v1 v2 v3 v4 : Int}  
    (h : 0 ≤ v2 ∧ (((v2 % 8) < v4 → (-2147483648 ≤ (v3 + 1) ∧ (v3 + 1) ≤ 2147483647) ∧ W_X9_readsArea d 56 [some (.inr (.inr 115)), some (.inl v1), some (.inl v2), some (.inl (v3 + 1)), none, none, none, none] [] w K) ∧ (¬ ((v2 % 8) < v4) → C_X9_goesOn d [.inr (.inr 115)] w (fun x1 w1 => ((x1 = 0 → (-2147483648 ≤ (v3 + 1) ∧ (v3 + 1) ≤ 2147483647) ∧ W_X9_readsArea d 56 [some (.inr (.inr 115)), some (.inl v1), some (.inl v2), some (.inl (v3 + 1)), none, none, none, none] [] w1 K) ∧ (¬ x1 = 0 → (-2147483648 ≤ (8 * v3) ∧ (8 * v3) ≤ 2147483647) ∧ (-2147483648 ≤ ((8 * v3) + v4) ∧ ((8 * v3) + v4) ≤ 2147483647) ∧ C_X9_reading d [.inr (.inr 115), .inl ((8 * v3) + v4)] w1 (fun x2 w2 => C_X9_goesOn d [.inr (.inr 115)] w2 (fun x3 w3 => ((x3 = 0 → (-2147483648 ≤ (v4 + 1) ∧ (v4 + 1) ≤ 2147483647) ∧ W_X9_readsArea d 77 [some (.inr (.inr 115)), some (.inl v1), some (.inl v2), some (.inl v3), some (.inl (v4 + 1)), none, none, none] [] w3 K) ∧ (¬ x3 = 0 → C_X9_isEmpty d [.inr (.inr 115), .inl ((8 * v3) + v4)] w3 (fun x4 w4 => ((¬ x4 = 0 → (-2147483648 ≤ (v4 + 1) ∧ (v4 + 1) ≤ 2147483647) ∧ W_X9_readsArea d 77 [some (.inr (.inr 115)), some (.inl v1), some (.inl v2), some (.inl v3), some (.inl (v4 + 1)), none, none, none] [] w4 K) ∧ (x4 = 0 → C_X9_takes d [.inr (.inr 115), .inr (.inl x2)] w4 (fun w5 => (-2147483648 ≤ (v4 + 1) ∧ (v4 + 1) ≤ 2147483647) ∧ W_X9_readsArea d 77 [some (.inr (.inr 115)), some (.inl v1), some (.inl v2), some (.inl v3), some (.inl (v4 + 1)), none, none, none] [] w5 K)))))))))))))) :
    W_X9_readsArea d 77 [some (.inr (.inr 115)), some (.inl v1), some (.inl v2), some (.inl v3), some (.inl v4), none, none, none] [] w K := by
  refine WA.iload dX9_readsArea_77 rfl ?_
  refine WA.iload_n dX9_readsArea_79 rfl ?_
  refine WA.bipush dX9_readsArea_80 ⟨by decide, by decide⟩ ?_
  obtain ⟨s1, h⟩ := h
  refine WA.irem dX9_readsArea_82 s1 (by decide) ?_
  refine WA.icmp_gt (tgt := 138) dX9_readsArea_83 (by decide) (fun hc => ?_) (fun hc => ?_)
  · have h := h.1 hc
    obtain ⟨s2, h⟩ := h
    refine WA.iinc (als' := [some (.inr (.inr 115)), some (.inl v1), some (.inl v2), some (.inl (v3 + 1)), some (.inl v4), none, none, none]) dX9_readsArea_138 rfl s2 rfl ?_
    refine WA.goto (tgt := 56) dX9_readsArea_141 (by decide) ?_
    exact WA.sub (als' := [some (.inr (.inr 115)), some (.inl v1), some (.inl v2), some (.inl (v3 + 1)), none, none, none, none]) (by simp only [am_sub, and_self]) rfl h
  · have h := h.2 hc
    refine WA.aload_n dX9_readsArea_86 rfl (by decide) ?_
    obtain ⟨d1, hd1, h⟩ := h
    refine WA.callV0 (kc := 0) (ks := 0) (kc' := 0) (ks' := 0) dX9_readsArea_87 lkX9_275 rfl rfl rfl ob_115 rfl (Nat.le_of_ble_eq_true rfl) hd1 h (fun r w1 hK => ?_)
    obtain ⟨x1, rfl, h⟩ := hK
    change WA _ _ _ _ _ _ _ _ _ _ _ [.inl x1] _ _
    refine WA.if_eq (tgt := 138) dX9_readsArea_90 (by decide) (fun hc => ?_) (fun hc => ?_)
    · have h := h.1 hc
      obtain ⟨s3, h⟩ := h
      refine WA.iinc (als' := [some (.inr (.inr 115)), some (.inl v1), some (.inl v2), some (.inl (v3 + 1)), some (.inl v4), none, none, none]) dX9_readsArea_138 rfl s3 rfl ?_
      refine WA.goto (tgt := 56) dX9_readsArea_141 (by decide) ?_
      exact WA.sub (als' := [some (.inr (.inr 115)), some (.inl v1), some (.inl v2), some (.inl (v3 + 1)), none, none, none, none]) (by simp only [am_sub, and_self]) rfl h
    · have h := h.2 hc
      refine WA.bipush dX9_readsArea_93 ⟨by decide, by decide⟩ ?_
      refine WA.iload_n dX9_readsArea_95 rfl ?_
      obtain ⟨s4, h⟩ := h
      refine WA.imul dX9_readsArea_96 s4 ?_
      refine WA.iload dX9_readsArea_97 rfl ?_
      obtain ⟨s5, h⟩ := h
      refine WA.iadd dX9_readsArea_99 s5 ?_
      refine WA.istore (als' := [some (.inr (.inr 115)), some (.inl v1), some (.inl v2), some (.inl v3), some (.inl v4), some (.inl ((8 * v3) + v4)), none, none]) dX9_readsArea_100 (Nat.le_of_ble_eq_true rfl) rfl ?_
      refine WA.aload_n dX9_readsArea_102 rfl (by decide) ?_
      refine WA.iload dX9_readsArea_103 rfl ?_
      obtain ⟨d1, hd1, h⟩ := h
      refine WA.callV1 (kc := 0) (ks := 0) (kc' := 0) (ks' := 0) dX9_readsArea_105 lkX9_278 rfl rfl rfl ob_115 rfl (Nat.le_of_ble_eq_true rfl) hd1 h (fun r w2 hK => ?_)
      obtain ⟨x2, rfl, h⟩ := hK
      change WA _ _ _ _ _ _ _ _ _ _ _ [.inr (.inl x2)] _ _
      refine WA.lstore (als' := [some (.inr (.inr 115)), some (.inl v1), some (.inl v2), some (.inl v3), some (.inl v4), some (.inl ((8 * v3) + v4)), some (.inr (.inl x2)), none]) dX9_readsArea_108 (Nat.le_of_ble_eq_true rfl) rfl ?_
      refine WA.aload_n dX9_readsArea_110 rfl (by decide) ?_
      obtain ⟨d1, hd1, h⟩ := h
      refine WA.callV0 (kc := 0) (ks := 0) (kc' := 0) (ks' := 0) dX9_readsArea_111 lkX9_275 rfl rfl rfl ob_115 rfl (Nat.le_of_ble_eq_true rfl) hd1 h (fun r w3 hK => ?_)
      obtain ⟨x3, rfl, h⟩ := hK
      change WA _ _ _ _ _ _ _ _ _ _ _ [.inl x3] _ _
      refine WA.if_eq (tgt := 132) dX9_readsArea_114 (by decide) (fun hc => ?_) (fun hc => ?_)
      · have h := h.1 hc
        obtain ⟨s6, h⟩ := h
        refine WA.iinc (als' := [some (.inr (.inr 115)), some (.inl v1), some (.inl v2), some (.inl v3), some (.inl (v4 + 1)), some (.inl ((8 * v3) + v4)), some (.inr (.inl x2)), none]) dX9_readsArea_132 rfl s6 rfl ?_
        refine WA.goto (tgt := 77) dX9_readsArea_135 (by decide) ?_
        exact WA.sub (als' := [some (.inr (.inr 115)), some (.inl v1), some (.inl v2), some (.inl v3), some (.inl (v4 + 1)), none, none, none]) (by simp only [am_sub, and_self]) rfl h
      · have h := h.2 hc
        refine WA.aload_n dX9_readsArea_117 rfl (by decide) ?_
        refine WA.iload dX9_readsArea_118 rfl ?_
        obtain ⟨d1, hd1, h⟩ := h
        refine WA.callV1 (kc := 0) (ks := 0) (kc' := 0) (ks' := 0) dX9_readsArea_120 lkX9_281 rfl rfl rfl ob_115 rfl (Nat.le_of_ble_eq_true rfl) hd1 h (fun r w4 hK => ?_)
        obtain ⟨x4, rfl, h⟩ := hK
        change WA _ _ _ _ _ _ _ _ _ _ _ [.inl x4] _ _
        refine WA.if_ne (tgt := 132) dX9_readsArea_123 (by decide) (fun hc => ?_) (fun hc => ?_)
        · have h := h.1 hc
          obtain ⟨s7, h⟩ := h
          refine WA.iinc (als' := [some (.inr (.inr 115)), some (.inl v1), some (.inl v2), some (.inl v3), some (.inl (v4 + 1)), some (.inl ((8 * v3) + v4)), some (.inr (.inl x2)), none]) dX9_readsArea_132 rfl s7 rfl ?_
          refine WA.goto (tgt := 77) dX9_readsArea_135 (by decide) ?_
          exact WA.sub (als' := [some (.inr (.inr 115)), some (.inl v1), some (.inl v2), some (.inl v3), some (.inl (v4 + 1)), none, none, none]) (by simp only [am_sub, and_self]) rfl h
        · have h := h.2 hc
          refine WA.aload_n dX9_readsArea_126 rfl (by decide) ?_
          refine WA.lload dX9_readsArea_127 rfl ?_
          obtain ⟨d1, hd1, h⟩ := h
          refine WA.callV1 (kc := 0) (ks := 0) (kc' := 0) (ks' := 0) dX9_readsArea_129 lkX9_284 rfl rfl rfl ob_115 rfl (Nat.le_of_ble_eq_true rfl) hd1 h (fun r w5 hK => ?_)
          obtain ⟨rfl, h⟩ := hK
          change WA _ _ _ _ _ _ _ _ _ _ _ [] _ _
          obtain ⟨s8, h⟩ := h
          refine WA.iinc (als' := [some (.inr (.inr 115)), some (.inl v1), some (.inl v2), some (.inl v3), some (.inl (v4 + 1)), some (.inl ((8 * v3) + v4)), some (.inr (.inl x2)), none]) dX9_readsArea_132 rfl s8 rfl ?_
          refine WA.goto (tgt := 77) dX9_readsArea_135 (by decide) ?_
          exact WA.sub (als' := [some (.inr (.inr 115)), some (.inl v1), some (.inl v2), some (.inl v3), some (.inl (v4 + 1)), none, none, none]) (by simp only [am_sub, and_self]) rfl h
set_option maxRecDepth 10000 in
theorem e_X9_readsArea {d : Nat} {w : Wd} {K : Wd → Prop}  
    (h : C_X9_cellHere d [.inr (.inr 115)] w (fun x1 w1 => (-2147483648 ≤ ((w1 115 24) + 2) ∧ ((w1 115 24) + 2) ≤ 2147483647) ∧ (∀ w2, w2 = wset w1 115 24 ((w1 115 24) + 2) → C_X9_sign d [.inr (.inr 115)] w2 (fun x2 w3 => ((¬ x2 = 58 → 0 ≤ x1 ∧ W_X9_readsArea d 56 [some (.inr (.inr 115)), some (.inl x1), some (.inl x1), some (.inl (x1 / 8)), none, none, none, none] [] w3 K) ∧ (x2 = 58 → (-2147483648 ≤ ((w3 115 24) + 1) ∧ ((w3 115 24) + 1) ≤ 2147483647) ∧ (∀ w4, w4 = wset w3 115 24 ((w3 115 24) + 1) → C_X9_cellHere d [.inr (.inr 115)] w4 (fun x3 w5 => (-2147483648 ≤ ((w5 115 24) + 2) ∧ ((w5 115 24) + 2) ≤ 2147483647) ∧ (∀ w6, w6 = wset w5 115 24 ((w5 115 24) + 2) → 0 ≤ x1 ∧ W_X9_readsArea d 56 [some (.inr (.inr 115)), some (.inl x1), some (.inl x3), some (.inl (x1 / 8)), none, none, none, none] [] w6 K))))))))) :
    E_X9_readsArea d [.inr (.inr 115)] w K := by
  refine EvA.of (by decide +kernel) (Nat.le_of_ble_eq_true rfl) ?_
  change W_X9_readsArea d 0 [some (.inr (.inr 115)), none, none, none, none, none, none, none] [] w K
  refine WA.aload_n dX9_readsArea_0 rfl (by decide) ?_
  obtain ⟨d1, hd1, h⟩ := h
  refine WA.callV0 (kc := 0) (ks := 0) (kc' := 0) (ks' := 0) dX9_readsArea_1 lkX9_272 rfl rfl rfl ob_115 rfl (Nat.le_of_ble_eq_true rfl) hd1 h (fun r w1 hK => ?_)
  obtain ⟨x1, rfl, h⟩ := hK
  change WA _ _ _ _ _ _ _ _ _ _ _ [.inl x1] _ _
  refine WA.istore_n (als' := [some (.inr (.inr 115)), some (.inl x1), none, none, none, none, none, none]) dX9_readsArea_4 (Nat.le_of_ble_eq_true rfl) rfl ?_
  refine WA.aload_n dX9_readsArea_5 rfl (by decide) ?_
  refine WA.dup dX9_readsArea_6 rfl ?_
  refine gfX9_116 rfl dX9_readsArea_7 ob_115 ?_
  refine WA.iconst dX9_readsArea_10 ⟨by decide, by decide⟩ ?_
  obtain ⟨s1, h⟩ := h
  refine WA.iadd dX9_readsArea_11 s1 ?_
  obtain ⟨w2, qw2⟩ : ∃ z, z = wset w1 115 24 ((w1 115 24) + 2) := ⟨_, rfl⟩
  have h := h w2 qw2
  refine pfX9_116 rfl dX9_readsArea_12 ob_115 ?_
  rw [← qw2]
  refine WA.iload_n dX9_readsArea_15 rfl ?_
  refine WA.istore_n (als' := [some (.inr (.inr 115)), some (.inl x1), some (.inl x1), none, none, none, none, none]) dX9_readsArea_16 (Nat.le_of_ble_eq_true rfl) rfl ?_
  refine WA.aload_n dX9_readsArea_17 rfl (by decide) ?_
  obtain ⟨d1, hd1, h⟩ := h
  refine WA.callV0 (kc := 0) (ks := 0) (kc' := 0) (ks' := 0) dX9_readsArea_18 lkX9_266 rfl rfl rfl ob_115 rfl (Nat.le_of_ble_eq_true rfl) hd1 h (fun r w3 hK => ?_)
  obtain ⟨x2, rfl, h⟩ := hK
  change WA _ _ _ _ _ _ _ _ _ _ _ [.inl x2] _ _
  refine WA.bipush dX9_readsArea_21 ⟨by decide, by decide⟩ ?_
  refine WA.icmp_ne (tgt := 51) dX9_readsArea_23 (by decide) (fun hc => ?_) (fun hc => ?_)
  · have h := h.1 hc
    refine WA.iload_n dX9_readsArea_51 rfl ?_
    refine WA.bipush dX9_readsArea_52 ⟨by decide, by decide⟩ ?_
    obtain ⟨s2, h⟩ := h
    refine WA.idiv dX9_readsArea_54 s2 (by decide) ?_
    refine WA.istore_n (als' := [some (.inr (.inr 115)), some (.inl x1), some (.inl x1), some (.inl (x1 / 8)), none, none, none, none]) dX9_readsArea_55 (Nat.le_of_ble_eq_true rfl) rfl ?_
    exact h
  · have h := h.2 hc
    refine WA.aload_n dX9_readsArea_26 rfl (by decide) ?_
    refine WA.dup dX9_readsArea_27 rfl ?_
    refine gfX9_116 rfl dX9_readsArea_28 ob_115 ?_
    refine WA.iconst dX9_readsArea_31 ⟨by decide, by decide⟩ ?_
    obtain ⟨s3, h⟩ := h
    refine WA.iadd dX9_readsArea_32 s3 ?_
    obtain ⟨w4, qw4⟩ : ∃ z, z = wset w3 115 24 ((w3 115 24) + 1) := ⟨_, rfl⟩
    have h := h w4 qw4
    refine pfX9_116 rfl dX9_readsArea_33 ob_115 ?_
    rw [← qw4]
    refine WA.aload_n dX9_readsArea_36 rfl (by decide) ?_
    obtain ⟨d1, hd1, h⟩ := h
    refine WA.callV0 (kc := 0) (ks := 0) (kc' := 0) (ks' := 0) dX9_readsArea_37 lkX9_272 rfl rfl rfl ob_115 rfl (Nat.le_of_ble_eq_true rfl) hd1 h (fun r w5 hK => ?_)
    obtain ⟨x3, rfl, h⟩ := hK
    change WA _ _ _ _ _ _ _ _ _ _ _ [.inl x3] _ _
    refine WA.istore_n (als' := [some (.inr (.inr 115)), some (.inl x1), some (.inl x3), none, none, none, none, none]) dX9_readsArea_40 (Nat.le_of_ble_eq_true rfl) rfl ?_
    refine WA.aload_n dX9_readsArea_41 rfl (by decide) ?_
    refine WA.dup dX9_readsArea_42 rfl ?_
    refine gfX9_116 rfl dX9_readsArea_43 ob_115 ?_
    refine WA.iconst dX9_readsArea_46 ⟨by decide, by decide⟩ ?_
    obtain ⟨s4, h⟩ := h
    refine WA.iadd dX9_readsArea_47 s4 ?_
    obtain ⟨w6, qw6⟩ : ∃ z, z = wset w5 115 24 ((w5 115 24) + 2) := ⟨_, rfl⟩
    have h := h w6 qw6
    refine pfX9_116 rfl dX9_readsArea_48 ob_115 ?_
    rw [← qw6]
    refine WA.iload_n dX9_readsArea_51 rfl ?_
    refine WA.bipush dX9_readsArea_52 ⟨by decide, by decide⟩ ?_
    obtain ⟨s5, h⟩ := h
    refine WA.idiv dX9_readsArea_54 s5 (by decide) ?_
    refine WA.istore_n (als' := [some (.inr (.inr 115)), some (.inl x1), some (.inl x3), some (.inl (x1 / 8)), none, none, none, none]) dX9_readsArea_55 (Nat.le_of_ble_eq_true rfl) rfl ?_
    exact h
set_option maxRecDepth 10000 in
theorem e_X9_function {d : Nat} {w : Wd} {K : Int → Wd → Prop}  
    (h : C_X9_sign d [.inr (.inr 115)] w (fun x1 w1 => C_X9_behind d [.inr (.inr 115), .inl 1] w1 (fun x2 w2 => ((¬ x1 = 109 → ((¬ x1 = 105 → ((¬ x1 = 112 → ((¬ x1 = 100 → ((¬ x1 = 97 → ((¬ x1 = 115 → K 10 w2) ∧ (x1 = 115 → K 9 w2))) ∧ (x1 = 97 → K 6 w2))) ∧ (x1 = 100 → K 4 w2))) ∧ (x1 = 112 → K 3 w2))) ∧ (x1 = 105 → K 2 w2))) ∧ (x1 = 109 → ((¬ x2 = 111 → ((¬ x2 = 105 → K 8 w2) ∧ (x2 = 105 → K 7 w2))) ∧ (x2 = 111 → K 5 w2))))))) :
    E_X9_function d [.inr (.inr 115)] w K := by
  refine EvA.of (by decide +kernel) (Nat.le_of_ble_eq_true rfl) ?_
  change W_X9_function d 0 [some (.inr (.inr 115)), none, none] [] w K
  refine WA.aload_n dX9_function_0 rfl (by decide) ?_
  obtain ⟨d1, hd1, h⟩ := h
  refine WA.callV0 (kc := 0) (ks := 0) (kc' := 0) (ks' := 0) dX9_function_1 lkX9_266 rfl rfl rfl ob_115 rfl (Nat.le_of_ble_eq_true rfl) hd1 h (fun r w1 hK => ?_)
  obtain ⟨x1, rfl, h⟩ := hK
  change WA _ _ _ _ _ _ _ _ _ _ _ [.inl x1] _ _
  refine WA.istore_n (als' := [some (.inr (.inr 115)), some (.inl x1), none]) dX9_function_4 (Nat.le_of_ble_eq_true rfl) rfl ?_
  refine WA.aload_n dX9_function_5 rfl (by decide) ?_
  refine WA.iconst dX9_function_6 ⟨by decide, by decide⟩ ?_
  obtain ⟨d1, hd1, h⟩ := h
  refine WA.callV1 (kc := 0) (ks := 0) (kc' := 0) (ks' := 0) dX9_function_7 lkX9_263 rfl rfl rfl ob_115 rfl (Nat.le_of_ble_eq_true rfl) hd1 h (fun r w2 hK => ?_)
  obtain ⟨x2, rfl, h⟩ := hK
  change WA _ _ _ _ _ _ _ _ _ _ _ [.inl x2] _ _
  refine WA.istore_n (als' := [some (.inr (.inr 115)), some (.inl x1), some (.inl x2)]) dX9_function_10 (Nat.le_of_ble_eq_true rfl) rfl ?_
  refine WA.iload_n dX9_function_11 rfl ?_
  refine WA.bipush dX9_function_12 ⟨by decide, by decide⟩ ?_
  refine WA.icmp_ne (tgt := 41) dX9_function_14 (by decide) (fun hc => ?_) (fun hc => ?_)
  · have h := h.1 hc
    refine WA.iload_n dX9_function_41 rfl ?_
    refine WA.bipush dX9_function_42 ⟨by decide, by decide⟩ ?_
    refine WA.icmp_ne (tgt := 51) dX9_function_44 (by decide) (fun hc => ?_) (fun hc => ?_)
    · have h := h.1 hc
      refine WA.iload_n dX9_function_51 rfl ?_
      refine WA.bipush dX9_function_52 ⟨by decide, by decide⟩ ?_
      refine WA.icmp_ne (tgt := 61) dX9_function_54 (by decide) (fun hc => ?_) (fun hc => ?_)
      · have h := h.1 hc
        refine WA.iload_n dX9_function_61 rfl ?_
        refine WA.bipush dX9_function_62 ⟨by decide, by decide⟩ ?_
        refine WA.icmp_ne (tgt := 71) dX9_function_64 (by decide) (fun hc => ?_) (fun hc => ?_)
        · have h := h.1 hc
          refine WA.iload_n dX9_function_71 rfl ?_
          refine WA.bipush dX9_function_72 ⟨by decide, by decide⟩ ?_
          refine WA.icmp_ne (tgt := 82) dX9_function_74 (by decide) (fun hc => ?_) (fun hc => ?_)
          · have h := h.1 hc
            refine WA.iload_n dX9_function_82 rfl ?_
            refine WA.bipush dX9_function_83 ⟨by decide, by decide⟩ ?_
            refine WA.icmp_ne (tgt := 93) dX9_function_85 (by decide) (fun hc => ?_) (fun hc => ?_)
            · have h := h.1 hc
              refine WA.bipush dX9_function_93 ⟨by decide, by decide⟩ ?_
              exact WA.ireturn dX9_function_95 ⟨_, rfl, h⟩
            · have h := h.2 hc
              refine WA.bipush dX9_function_88 ⟨by decide, by decide⟩ ?_
              refine WA.goto (tgt := 95) dX9_function_90 (by decide) ?_
              exact WA.ireturn dX9_function_95 ⟨_, rfl, h⟩
          · have h := h.2 hc
            refine WA.bipush dX9_function_77 ⟨by decide, by decide⟩ ?_
            refine WA.goto (tgt := 95) dX9_function_79 (by decide) ?_
            exact WA.ireturn dX9_function_95 ⟨_, rfl, h⟩
        · have h := h.2 hc
          refine WA.iconst dX9_function_67 ⟨by decide, by decide⟩ ?_
          refine WA.goto (tgt := 95) dX9_function_68 (by decide) ?_
          exact WA.ireturn dX9_function_95 ⟨_, rfl, h⟩
      · have h := h.2 hc
        refine WA.iconst dX9_function_57 ⟨by decide, by decide⟩ ?_
        refine WA.goto (tgt := 95) dX9_function_58 (by decide) ?_
        exact WA.ireturn dX9_function_95 ⟨_, rfl, h⟩
    · have h := h.2 hc
      refine WA.iconst dX9_function_47 ⟨by decide, by decide⟩ ?_
      refine WA.goto (tgt := 95) dX9_function_48 (by decide) ?_
      exact WA.ireturn dX9_function_95 ⟨_, rfl, h⟩
  · have h := h.2 hc
    refine WA.iload_n dX9_function_17 rfl ?_
    refine WA.bipush dX9_function_18 ⟨by decide, by decide⟩ ?_
    refine WA.icmp_ne (tgt := 27) dX9_function_20 (by decide) (fun hc => ?_) (fun hc => ?_)
    · have h := h.1 hc
      refine WA.iload_n dX9_function_27 rfl ?_
      refine WA.bipush dX9_function_28 ⟨by decide, by decide⟩ ?_
      refine WA.icmp_ne (tgt := 38) dX9_function_30 (by decide) (fun hc => ?_) (fun hc => ?_)
      · have h := h.1 hc
        refine WA.bipush dX9_function_38 ⟨by decide, by decide⟩ ?_
        exact WA.ireturn dX9_function_40 ⟨_, rfl, h⟩
      · have h := h.2 hc
        refine WA.bipush dX9_function_33 ⟨by decide, by decide⟩ ?_
        refine WA.goto (tgt := 40) dX9_function_35 (by decide) ?_
        exact WA.ireturn dX9_function_40 ⟨_, rfl, h⟩
    · have h := h.2 hc
      refine WA.iconst dX9_function_23 ⟨by decide, by decide⟩ ?_
      refine WA.goto (tgt := 40) dX9_function_24 (by decide) ?_
      exact WA.ireturn dX9_function_40 ⟨_, rfl, h⟩
set_option maxRecDepth 10000 in
theorem v_X9_factor_87 {d : Nat} {w : Wd} {K : Wd → Prop} {v1 v2 v3 : Int}  
    (h : C_X9_sign d [.inr (.inr 115)] w (fun x1 w1 => C_X9_isFigure d [.inl x1] w1 (fun x2 w2 => ((x2 = 0 → C_X9_gives d [.inr (.inr 115), .inr (.inl v3)] w2 (fun w3 => K w3)) ∧ (¬ x2 = 0 → (-9223372036854775808 ≤ (10 * v3) ∧ (10 * v3) ≤ 9223372036854775807) ∧ C_X9_sign d [.inr (.inr 115)] w2 (fun x3 w4 => (-9223372036854775808 ≤ ((10 * v3) + x3) ∧ ((10 * v3) + x3) ≤ 9223372036854775807) ∧ (-9223372036854775808 ≤ (((10 * v3) + x3) - 48) ∧ (((10 * v3) + x3) - 48) ≤ 9223372036854775807) ∧ (-2147483648 ≤ ((w4 115 24) + 1) ∧ ((w4 115 24) + 1) ≤ 2147483647) ∧ (∀ w5, w5 = wset w4 115 24 ((w4 115 24) + 1) → W_X9_factor d 87 [some (.inr (.inr 115)), some (.inl v1), some (.inl v2), some (.inr (.inl (((10 * v3) + x3) - 48))), none, none] [] w5 K))))))) :
    W_X9_factor d 87 [some (.inr (.inr 115)), some (.inl v1), some (.inl v2), some (.inr (.inl v3)), none, none] [] w K := by
  refine WA.aload_n dX9_factor_87 rfl (by decide) ?_
  obtain ⟨d1, hd1, h⟩ := h
  refine WA.callV0 (kc := 0) (ks := 0) (kc' := 0) (ks' := 0) dX9_factor_88 lkX9_266 rfl rfl rfl ob_115 rfl (Nat.le_of_ble_eq_true rfl) hd1 h (fun r w1 hK => ?_)
  obtain ⟨x1, rfl, h⟩ := hK
  change WA _ _ _ _ _ _ _ _ _ _ _ [.inl x1] _ _
  obtain ⟨d1, hd1, h⟩ := h
  refine WA.callS1 (kc := 0) (ks := 0) (kc' := 0) (ks' := 0) dX9_factor_91 lkX9_185 rfl rfl rfl (Nat.le_of_ble_eq_true rfl) hd1 h (fun r w2 hK => ?_)
  obtain ⟨x2, rfl, h⟩ := hK
  change WA _ _ _ _ _ _ _ _ _ _ _ [.inl x2] _ _
  refine WA.if_eq (tgt := 126) dX9_factor_94 (by decide) (fun hc => ?_) (fun hc => ?_)
  · have h := h.1 hc
    refine WA.aload_n dX9_factor_126 rfl (by decide) ?_
    refine WA.lload_n dX9_factor_127 rfl ?_
    obtain ⟨d1, hd1, h⟩ := h
    refine WA.callV1 (kc := 0) (ks := 0) (kc' := 0) (ks' := 0) dX9_factor_128 lkX9_259 rfl rfl rfl ob_115 rfl (Nat.le_of_ble_eq_true rfl) hd1 h (fun r w3 hK => ?_)
    obtain ⟨rfl, h⟩ := hK
    change WA _ _ _ _ _ _ _ _ _ _ _ [] _ _
    refine WA.goto (tgt := 237) dX9_factor_131 (by decide) ?_
    exact WA.vreturn dX9_factor_237 ⟨rfl, h⟩
  · have h := h.2 hc
    refine WA.ldc2 (v := 10) (x := 10) dX9_factor_97 (am_mem 1118 (by decide +kernel) rfl) (by decide) ?_
    refine WA.lload_n dX9_factor_100 rfl ?_
    obtain ⟨s1, h⟩ := h
    refine WA.lmul dX9_factor_101 s1 ?_
    refine WA.aload_n dX9_factor_102 rfl (by decide) ?_
    obtain ⟨d1, hd1, h⟩ := h
    refine WA.callV0 (kc := 0) (ks := 0) (kc' := 0) (ks' := 0) dX9_factor_103 lkX9_266 rfl rfl rfl ob_115 rfl (Nat.le_of_ble_eq_true rfl) hd1 h (fun r w4 hK => ?_)
    obtain ⟨x3, rfl, h⟩ := hK
    change WA _ _ _ _ _ _ _ _ _ _ _ [.inl x3, .inr (.inl (10 * v3))] _ _
    refine WA.i2l dX9_factor_106 ?_
    obtain ⟨s2, h⟩ := h
    refine WA.ladd dX9_factor_107 s2 ?_
    refine WA.ldc2 (v := 48) (x := 48) dX9_factor_108 (am_mem 1119 (by decide +kernel) rfl) (by decide) ?_
    obtain ⟨s3, h⟩ := h
    refine WA.lsub dX9_factor_111 s3 ?_
    refine WA.lstore_n (als' := [some (.inr (.inr 115)), some (.inl v1), some (.inl v2), some (.inr (.inl (((10 * v3) + x3) - 48))), none, none]) dX9_factor_112 (Nat.le_of_ble_eq_true rfl) rfl ?_
    refine WA.aload_n dX9_factor_113 rfl (by decide) ?_
    refine WA.dup dX9_factor_114 rfl ?_
    refine gfX9_116 rfl dX9_factor_115 ob_115 ?_
    refine WA.iconst dX9_factor_118 ⟨by decide, by decide⟩ ?_
    obtain ⟨s4, h⟩ := h
    refine WA.iadd dX9_factor_119 s4 ?_
    obtain ⟨w5, qw5⟩ : ∃ z, z = wset w4 115 24 ((w4 115 24) + 1) := ⟨_, rfl⟩
    have h := h w5 qw5
    refine pfX9_116 rfl dX9_factor_120 ob_115 ?_
    rw [← qw5]
    refine WA.goto (tgt := 87) dX9_factor_123 (by decide) ?_
    exact h
set_option maxRecDepth 10000 in
theorem e_X9_factor {d : Nat} {w : Wd} {K : Wd → Prop}  
    (h : C_X9_sign d [.inr (.inr 115)] w (fun x1 w1 => (∀ w2, w2 = wset w1 115 27 0 → (((w 115 27) = 0 → ((¬ x1 = 45 → C_X9_isFigure d [.inl x1] w2 (fun x2 w3 => ((x2 = 0 → ((¬ x1 = 40 → C_X9_isColumn d [.inl x1] w3 (fun x3 w4 => ((x3 = 0 → C_X9_function d [.inr (.inr 115)] w4 (fun x4 w5 => C_X9_sizeOf d [.inl x4] w5 (fun x5 w6 => (-2147483648 ≤ ((w5 115 24) + x5) ∧ ((w5 115 24) + x5) ≤ 2147483647) ∧ (∀ w7, w7 = wset w6 115 24 ((w5 115 24) + x5) → C_X9_enters d [.inr (.inr 115), .inl x4] w7 (fun w8 => K w8))))) ∧ (¬ x3 = 0 → C_X9_behind d [.inr (.inr 115), .inl 1] w4 (fun x6 w9 => C_X9_isFigure d [.inl x6] w9 (fun x7 w10 => ((x7 = 0 → C_X9_function d [.inr (.inr 115)] w10 (fun x8 w11 => C_X9_sizeOf d [.inl x8] w11 (fun x9 w12 => (-2147483648 ≤ ((w11 115 24) + x9) ∧ ((w11 115 24) + x9) ≤ 2147483647) ∧ (∀ w13, w13 = wset w12 115 24 ((w11 115 24) + x9) → C_X9_enters d [.inr (.inr 115), .inl x8] w13 (fun w14 => K w14))))) ∧ (¬ x7 = 0 → C_X9_cellHere d [.inr (.inr 115)] w10 (fun x10 w15 => (-2147483648 ≤ ((w15 115 24) + 2) ∧ ((w15 115 24) + 2) ≤ 2147483647) ∧ (∀ w16, w16 = wset w15 115 24 ((w15 115 24) + 2) → C_X9_reading d [.inr (.inr 115), .inl x10] w16 (fun x11 w17 => C_X9_goesOn d [.inr (.inr 115)] w17 (fun x12 w18 => ((x12 = 0 → K w18) ∧ (¬ x12 = 0 → C_X9_gives d [.inr (.inr 115), .inr (.inl x11)] w18 (fun w19 => K w19))))))))))))))) ∧ (x1 = 40 → (-2147483648 ≤ ((w3 115 24) + 1) ∧ ((w3 115 24) + 1) ≤ 2147483647) ∧ (∀ w20, w20 = wset w3 115 24 ((w3 115 24) + 1) → C_X9_enters d [.inr (.inr 115), .inl 1] w20 (fun w21 => K w21))))) ∧ (¬ x2 = 0 → W_X9_factor d 87 [some (.inr (.inr 115)), some (.inl (w 115 27)), some (.inl x1), some (.inr (.inl 0)), none, none] [] w3 K)))) ∧ (x1 = 45 → (0 ≤ (w2 115 23) ∧ (w2 115 23) < 40) ∧ ((¬ (w2 135 (w2 115 23)) = 0 → (0 ≤ (w2 115 23) ∧ (w2 115 23) < 40) ∧ (∀ w22, w22 = wset w2 135 (w2 115 23) 0 → (-2147483648 ≤ ((w22 115 24) + 1) ∧ ((w22 115 24) + 1) ≤ 2147483647) ∧ (∀ w23, w23 = wset w22 115 24 ((w22 115 24) + 1) → K w23))) ∧ ((w2 135 (w2 115 23)) = 0 → (0 ≤ (w2 115 23) ∧ (w2 115 23) < 40) ∧ (∀ w24, w24 = wset w2 135 (w2 115 23) 1 → (-2147483648 ≤ ((w24 115 24) + 1) ∧ ((w24 115 24) + 1) ≤ 2147483647) ∧ (∀ w25, w25 = wset w24 115 24 ((w24 115 24) + 1) → K w25))))))) ∧ (¬ (w 115 27) = 0 → C_X9_isAreaHere d [.inr (.inr 115)] w2 (fun x13 w26 => ((x13 = 0 → ((¬ x1 = 45 → C_X9_isFigure d [.inl x1] w26 (fun x14 w27 => ((x14 = 0 → ((¬ x1 = 40 → C_X9_isColumn d [.inl x1] w27 (fun x15 w28 => ((x15 = 0 → C_X9_function d [.inr (.inr 115)] w28 (fun x16 w29 => C_X9_sizeOf d [.inl x16] w29 (fun x17 w30 => (-2147483648 ≤ ((w29 115 24) + x17) ∧ ((w29 115 24) + x17) ≤ 2147483647) ∧ (∀ w31, w31 = wset w30 115 24 ((w29 115 24) + x17) → C_X9_enters d [.inr (.inr 115), .inl x16] w31 (fun w32 => K w32))))) ∧ (¬ x15 = 0 → C_X9_behind d [.inr (.inr 115), .inl 1] w28 (fun x18 w33 => C_X9_isFigure d [.inl x18] w33 (fun x19 w34 => ((x19 = 0 → C_X9_function d [.inr (.inr 115)] w34 (fun x20 w35 => C_X9_sizeOf d [.inl x20] w35 (fun x21 w36 => (-2147483648 ≤ ((w35 115 24) + x21) ∧ ((w35 115 24) + x21) ≤ 2147483647) ∧ (∀ w37, w37 = wset w36 115 24 ((w35 115 24) + x21) → C_X9_enters d [.inr (.inr 115), .inl x20] w37 (fun w38 => K w38))))) ∧ (¬ x19 = 0 → C_X9_cellHere d [.inr (.inr 115)] w34 (fun x22 w39 => (-2147483648 ≤ ((w39 115 24) + 2) ∧ ((w39 115 24) + 2) ≤ 2147483647) ∧ (∀ w40, w40 = wset w39 115 24 ((w39 115 24) + 2) → C_X9_reading d [.inr (.inr 115), .inl x22] w40 (fun x23 w41 => C_X9_goesOn d [.inr (.inr 115)] w41 (fun x24 w42 => ((x24 = 0 → K w42) ∧ (¬ x24 = 0 → C_X9_gives d [.inr (.inr 115), .inr (.inl x23)] w42 (fun w43 => K w43))))))))))))))) ∧ (x1 = 40 → (-2147483648 ≤ ((w27 115 24) + 1) ∧ ((w27 115 24) + 1) ≤ 2147483647) ∧ (∀ w44, w44 = wset w27 115 24 ((w27 115 24) + 1) → C_X9_enters d [.inr (.inr 115), .inl 1] w44 (fun w45 => K w45))))) ∧ (¬ x14 = 0 → W_X9_factor d 87 [some (.inr (.inr 115)), some (.inl (w 115 27)), some (.inl x1), some (.inr (.inl 0)), none, none] [] w27 K)))) ∧ (x1 = 45 → (0 ≤ (w26 115 23) ∧ (w26 115 23) < 40) ∧ ((¬ (w26 135 (w26 115 23)) = 0 → (0 ≤ (w26 115 23) ∧ (w26 115 23) < 40) ∧ (∀ w46, w46 = wset w26 135 (w26 115 23) 0 → (-2147483648 ≤ ((w46 115 24) + 1) ∧ ((w46 115 24) + 1) ≤ 2147483647) ∧ (∀ w47, w47 = wset w46 115 24 ((w46 115 24) + 1) → K w47))) ∧ ((w26 135 (w26 115 23)) = 0 → (0 ≤ (w26 115 23) ∧ (w26 115 23) < 40) ∧ (∀ w48, w48 = wset w26 135 (w26 115 23) 1 → (-2147483648 ≤ ((w48 115 24) + 1) ∧ ((w48 115 24) + 1) ≤ 2147483647) ∧ (∀ w49, w49 = wset w48 115 24 ((w48 115 24) + 1) → K w49))))))) ∧ (¬ x13 = 0 → C_X9_readsArea d [.inr (.inr 115)] w26 (fun w50 => K w50))))))))) :
    E_X9_factor d [.inr (.inr 115)] w K := by
  refine EvA.of (by decide +kernel) (Nat.le_of_ble_eq_true rfl) ?_
  change W_X9_factor d 0 [some (.inr (.inr 115)), none, none, none, none, none] [] w K
  refine WA.aload_n dX9_factor_0 rfl (by decide) ?_
  refine gfX9_175 rfl dX9_factor_1 ob_115 ?_
  refine WA.istore_n (als' := [some (.inr (.inr 115)), some (.inl (w 115 27)), none, none, none, none]) dX9_factor_4 (Nat.le_of_ble_eq_true rfl) rfl ?_
  refine WA.aload_n dX9_factor_5 rfl (by decide) ?_
  obtain ⟨d1, hd1, h⟩ := h
  refine WA.callV0 (kc := 0) (ks := 0) (kc' := 0) (ks' := 0) dX9_factor_6 lkX9_266 rfl rfl rfl ob_115 rfl (Nat.le_of_ble_eq_true rfl) hd1 h (fun r w1 hK => ?_)
  obtain ⟨x1, rfl, h⟩ := hK
  change WA _ _ _ _ _ _ _ _ _ _ _ [.inl x1] _ _
  refine WA.istore_n (als' := [some (.inr (.inr 115)), some (.inl (w 115 27)), some (.inl x1), none, none, none]) dX9_factor_9 (Nat.le_of_ble_eq_true rfl) rfl ?_
  refine WA.aload_n dX9_factor_10 rfl (by decide) ?_
  refine WA.iconst dX9_factor_11 ⟨by decide, by decide⟩ ?_
  obtain ⟨w2, qw2⟩ : ∃ z, z = wset w1 115 27 0 := ⟨_, rfl⟩
  have h := h w2 qw2
  refine pfX9_175 rfl dX9_factor_12 ob_115 (by decide) ?_
  rw [← qw2]
  refine WA.iload_n dX9_factor_15 rfl ?_
  refine WA.if_eq (tgt := 33) dX9_factor_16 (by decide) (fun hc => ?_) (fun hc => ?_)
  · have h := h.1 hc
    refine WA.iload_n dX9_factor_33 rfl ?_
    refine WA.bipush dX9_factor_34 ⟨by decide, by decide⟩ ?_
    refine WA.icmp_ne (tgt := 78) dX9_factor_36 (by decide) (fun hc => ?_) (fun hc => ?_)
    · have h := h.1 hc
      refine WA.iload_n dX9_factor_78 rfl ?_
      obtain ⟨d1, hd1, h⟩ := h
      refine WA.callS1 (kc := 0) (ks := 0) (kc' := 0) (ks' := 0) dX9_factor_79 lkX9_185 rfl rfl rfl (Nat.le_of_ble_eq_true rfl) hd1 h (fun r w3 hK => ?_)
      obtain ⟨x2, rfl, h⟩ := hK
      change WA _ _ _ _ _ _ _ _ _ _ _ [.inl x2] _ _
      refine WA.if_eq (tgt := 134) dX9_factor_82 (by decide) (fun hc => ?_) (fun hc => ?_)
      · have h := h.1 hc
        refine WA.iload_n dX9_factor_134 rfl ?_
        refine WA.bipush dX9_factor_135 ⟨by decide, by decide⟩ ?_
        refine WA.icmp_ne (tgt := 158) dX9_factor_137 (by decide) (fun hc => ?_) (fun hc => ?_)
        · have h := h.1 hc
          refine WA.iload_n dX9_factor_158 rfl ?_
          obtain ⟨d1, hd1, h⟩ := h
          refine WA.callS1 (kc := 0) (ks := 0) (kc' := 0) (ks' := 0) dX9_factor_159 lkX9_161 rfl rfl rfl (Nat.le_of_ble_eq_true rfl) hd1 h (fun r w4 hK => ?_)
          obtain ⟨x3, rfl, h⟩ := hK
          change WA _ _ _ _ _ _ _ _ _ _ _ [.inl x3] _ _
          refine WA.if_eq (tgt := 214) dX9_factor_162 (by decide) (fun hc => ?_) (fun hc => ?_)
          · have h := h.1 hc
            refine WA.aload_n dX9_factor_214 rfl (by decide) ?_
            obtain ⟨d1, hd1, h⟩ := h
            refine WA.callV0 (kc := 0) (ks := 0) (kc' := 0) (ks' := 0) dX9_factor_215 lkX9_303 rfl rfl rfl ob_115 rfl (Nat.le_of_ble_eq_true rfl) hd1 h (fun r w5 hK => ?_)
            obtain ⟨x4, rfl, h⟩ := hK
            change WA _ _ _ _ _ _ _ _ _ _ _ [.inl x4] _ _
            refine WA.istore_n (als' := [some (.inr (.inr 115)), some (.inl (w 115 27)), some (.inl x1), some (.inl x4), none, none]) dX9_factor_218 (Nat.le_of_ble_eq_true rfl) rfl ?_
            refine WA.aload_n dX9_factor_219 rfl (by decide) ?_
            refine WA.dup dX9_factor_220 rfl ?_
            refine gfX9_116 rfl dX9_factor_221 ob_115 ?_
            refine WA.iload_n dX9_factor_224 rfl ?_
            obtain ⟨d1, hd1, h⟩ := h
            refine WA.callS1 (kc := 0) (ks := 0) (kc' := 0) (ks' := 0) dX9_factor_225 lkX9_151 rfl rfl rfl (Nat.le_of_ble_eq_true rfl) hd1 h (fun r w6 hK => ?_)
            obtain ⟨x5, rfl, h⟩ := hK
            change WA _ _ _ _ _ _ _ _ _ _ _ [.inl x5, .inl (w5 115 24), .inr (.inr 115)] _ _
            obtain ⟨s1, h⟩ := h
            refine WA.iadd dX9_factor_228 s1 ?_
            obtain ⟨w7, qw7⟩ : ∃ z, z = wset w6 115 24 ((w5 115 24) + x5) := ⟨_, rfl⟩
            have h := h w7 qw7
            refine pfX9_116 rfl dX9_factor_229 ob_115 ?_
            rw [← qw7]
            refine WA.aload_n dX9_factor_232 rfl (by decide) ?_
            refine WA.iload_n dX9_factor_233 rfl ?_
            obtain ⟨d1, hd1, h⟩ := h
            refine WA.callV1 (kc := 0) (ks := 0) (kc' := 0) (ks' := 0) dX9_factor_234 lkX9_300 rfl rfl rfl ob_115 rfl (Nat.le_of_ble_eq_true rfl) hd1 h (fun r w8 hK => ?_)
            obtain ⟨rfl, h⟩ := hK
            change WA _ _ _ _ _ _ _ _ _ _ _ [] _ _
            exact WA.vreturn dX9_factor_237 ⟨rfl, h⟩
          · have h := h.2 hc
            refine WA.aload_n dX9_factor_165 rfl (by decide) ?_
            refine WA.iconst dX9_factor_166 ⟨by decide, by decide⟩ ?_
            obtain ⟨d1, hd1, h⟩ := h
            refine WA.callV1 (kc := 0) (ks := 0) (kc' := 0) (ks' := 0) dX9_factor_167 lkX9_263 rfl rfl rfl ob_115 rfl (Nat.le_of_ble_eq_true rfl) hd1 h (fun r w9 hK => ?_)
            obtain ⟨x6, rfl, h⟩ := hK
            change WA _ _ _ _ _ _ _ _ _ _ _ [.inl x6] _ _
            obtain ⟨d1, hd1, h⟩ := h
            refine WA.callS1 (kc := 0) (ks := 0) (kc' := 0) (ks' := 0) dX9_factor_170 lkX9_185 rfl rfl rfl (Nat.le_of_ble_eq_true rfl) hd1 h (fun r w10 hK => ?_)
            obtain ⟨x7, rfl, h⟩ := hK
            change WA _ _ _ _ _ _ _ _ _ _ _ [.inl x7] _ _
            refine WA.if_eq (tgt := 214) dX9_factor_173 (by decide) (fun hc => ?_) (fun hc => ?_)
            · have h := h.1 hc
              refine WA.aload_n dX9_factor_214 rfl (by decide) ?_
              obtain ⟨d1, hd1, h⟩ := h
              refine WA.callV0 (kc := 0) (ks := 0) (kc' := 0) (ks' := 0) dX9_factor_215 lkX9_303 rfl rfl rfl ob_115 rfl (Nat.le_of_ble_eq_true rfl) hd1 h (fun r w11 hK => ?_)
              obtain ⟨x8, rfl, h⟩ := hK
              change WA _ _ _ _ _ _ _ _ _ _ _ [.inl x8] _ _
              refine WA.istore_n (als' := [some (.inr (.inr 115)), some (.inl (w 115 27)), some (.inl x1), some (.inl x8), none, none]) dX9_factor_218 (Nat.le_of_ble_eq_true rfl) rfl ?_
              refine WA.aload_n dX9_factor_219 rfl (by decide) ?_
              refine WA.dup dX9_factor_220 rfl ?_
              refine gfX9_116 rfl dX9_factor_221 ob_115 ?_
              refine WA.iload_n dX9_factor_224 rfl ?_
              obtain ⟨d1, hd1, h⟩ := h
              refine WA.callS1 (kc := 0) (ks := 0) (kc' := 0) (ks' := 0) dX9_factor_225 lkX9_151 rfl rfl rfl (Nat.le_of_ble_eq_true rfl) hd1 h (fun r w12 hK => ?_)
              obtain ⟨x9, rfl, h⟩ := hK
              change WA _ _ _ _ _ _ _ _ _ _ _ [.inl x9, .inl (w11 115 24), .inr (.inr 115)] _ _
              obtain ⟨s2, h⟩ := h
              refine WA.iadd dX9_factor_228 s2 ?_
              obtain ⟨w13, qw13⟩ : ∃ z, z = wset w12 115 24 ((w11 115 24) + x9) := ⟨_, rfl⟩
              have h := h w13 qw13
              refine pfX9_116 rfl dX9_factor_229 ob_115 ?_
              rw [← qw13]
              refine WA.aload_n dX9_factor_232 rfl (by decide) ?_
              refine WA.iload_n dX9_factor_233 rfl ?_
              obtain ⟨d1, hd1, h⟩ := h
              refine WA.callV1 (kc := 0) (ks := 0) (kc' := 0) (ks' := 0) dX9_factor_234 lkX9_300 rfl rfl rfl ob_115 rfl (Nat.le_of_ble_eq_true rfl) hd1 h (fun r w14 hK => ?_)
              obtain ⟨rfl, h⟩ := hK
              change WA _ _ _ _ _ _ _ _ _ _ _ [] _ _
              exact WA.vreturn dX9_factor_237 ⟨rfl, h⟩
            · have h := h.2 hc
              refine WA.aload_n dX9_factor_176 rfl (by decide) ?_
              obtain ⟨d1, hd1, h⟩ := h
              refine WA.callV0 (kc := 0) (ks := 0) (kc' := 0) (ks' := 0) dX9_factor_177 lkX9_272 rfl rfl rfl ob_115 rfl (Nat.le_of_ble_eq_true rfl) hd1 h (fun r w15 hK => ?_)
              obtain ⟨x10, rfl, h⟩ := hK
              change WA _ _ _ _ _ _ _ _ _ _ _ [.inl x10] _ _
              refine WA.istore_n (als' := [some (.inr (.inr 115)), some (.inl (w 115 27)), some (.inl x1), some (.inl x10), none, none]) dX9_factor_180 (Nat.le_of_ble_eq_true rfl) rfl ?_
              refine WA.aload_n dX9_factor_181 rfl (by decide) ?_
              refine WA.dup dX9_factor_182 rfl ?_
              refine gfX9_116 rfl dX9_factor_183 ob_115 ?_
              refine WA.iconst dX9_factor_186 ⟨by decide, by decide⟩ ?_
              obtain ⟨s3, h⟩ := h
              refine WA.iadd dX9_factor_187 s3 ?_
              obtain ⟨w16, qw16⟩ : ∃ z, z = wset w15 115 24 ((w15 115 24) + 2) := ⟨_, rfl⟩
              have h := h w16 qw16
              refine pfX9_116 rfl dX9_factor_188 ob_115 ?_
              rw [← qw16]
              refine WA.aload_n dX9_factor_191 rfl (by decide) ?_
              refine WA.iload_n dX9_factor_192 rfl ?_
              obtain ⟨d1, hd1, h⟩ := h
              refine WA.callV1 (kc := 0) (ks := 0) (kc' := 0) (ks' := 0) dX9_factor_193 lkX9_278 rfl rfl rfl ob_115 rfl (Nat.le_of_ble_eq_true rfl) hd1 h (fun r w17 hK => ?_)
              obtain ⟨x11, rfl, h⟩ := hK
              change WA _ _ _ _ _ _ _ _ _ _ _ [.inr (.inl x11)] _ _
              refine WA.lstore (als' := [some (.inr (.inr 115)), some (.inl (w 115 27)), some (.inl x1), some (.inl x10), some (.inr (.inl x11)), none]) dX9_factor_196 (Nat.le_of_ble_eq_true rfl) rfl ?_
              refine WA.aload_n dX9_factor_198 rfl (by decide) ?_
              obtain ⟨d1, hd1, h⟩ := h
              refine WA.callV0 (kc := 0) (ks := 0) (kc' := 0) (ks' := 0) dX9_factor_199 lkX9_275 rfl rfl rfl ob_115 rfl (Nat.le_of_ble_eq_true rfl) hd1 h (fun r w18 hK => ?_)
              obtain ⟨x12, rfl, h⟩ := hK
              change WA _ _ _ _ _ _ _ _ _ _ _ [.inl x12] _ _
              refine WA.if_eq (tgt := 211) dX9_factor_202 (by decide) (fun hc => ?_) (fun hc => ?_)
              · have h := h.1 hc
                refine WA.goto (tgt := 237) dX9_factor_211 (by decide) ?_
                exact WA.vreturn dX9_factor_237 ⟨rfl, h⟩
              · have h := h.2 hc
                refine WA.aload_n dX9_factor_205 rfl (by decide) ?_
                refine WA.lload dX9_factor_206 rfl ?_
                obtain ⟨d1, hd1, h⟩ := h
                refine WA.callV1 (kc := 0) (ks := 0) (kc' := 0) (ks' := 0) dX9_factor_208 lkX9_259 rfl rfl rfl ob_115 rfl (Nat.le_of_ble_eq_true rfl) hd1 h (fun r w19 hK => ?_)
                obtain ⟨rfl, h⟩ := hK
                change WA _ _ _ _ _ _ _ _ _ _ _ [] _ _
                refine WA.goto (tgt := 237) dX9_factor_211 (by decide) ?_
                exact WA.vreturn dX9_factor_237 ⟨rfl, h⟩
        · have h := h.2 hc
          refine WA.aload_n dX9_factor_140 rfl (by decide) ?_
          refine WA.dup dX9_factor_141 rfl ?_
          refine gfX9_116 rfl dX9_factor_142 ob_115 ?_
          refine WA.iconst dX9_factor_145 ⟨by decide, by decide⟩ ?_
          obtain ⟨s4, h⟩ := h
          refine WA.iadd dX9_factor_146 s4 ?_
          obtain ⟨w20, qw20⟩ : ∃ z, z = wset w3 115 24 ((w3 115 24) + 1) := ⟨_, rfl⟩
          have h := h w20 qw20
          refine pfX9_116 rfl dX9_factor_147 ob_115 ?_
          rw [← qw20]
          refine WA.aload_n dX9_factor_150 rfl (by decide) ?_
          refine WA.iconst dX9_factor_151 ⟨by decide, by decide⟩ ?_
          obtain ⟨d1, hd1, h⟩ := h
          refine WA.callV1 (kc := 0) (ks := 0) (kc' := 0) (ks' := 0) dX9_factor_152 lkX9_300 rfl rfl rfl ob_115 rfl (Nat.le_of_ble_eq_true rfl) hd1 h (fun r w21 hK => ?_)
          obtain ⟨rfl, h⟩ := hK
          change WA _ _ _ _ _ _ _ _ _ _ _ [] _ _
          refine WA.goto (tgt := 237) dX9_factor_155 (by decide) ?_
          exact WA.vreturn dX9_factor_237 ⟨rfl, h⟩
      · have h := h.2 hc
        refine WA.lconst (x := 0) dX9_factor_85 rfl ?_
        refine WA.lstore_n (als' := [some (.inr (.inr 115)), some (.inl (w 115 27)), some (.inl x1), some (.inr (.inl 0)), none, none]) dX9_factor_86 (Nat.le_of_ble_eq_true rfl) rfl ?_
        exact h
    · have h := h.2 hc
      refine WA.aload_n dX9_factor_39 rfl (by decide) ?_
      refine gxX9_72 rfl rfl dX9_factor_40 ob_115 ?_
      refine WA.aload_n dX9_factor_43 rfl (by decide) ?_
      refine gfX9_119 rfl dX9_factor_44 ob_115 ?_
      refine WA.aload_n dX9_factor_47 rfl (by decide) ?_
      refine gxX9_72 rfl rfl dX9_factor_48 ob_115 ?_
      refine WA.aload_n dX9_factor_51 rfl (by decide) ?_
      refine gfX9_119 rfl dX9_factor_52 ob_115 ?_
      obtain ⟨s5, h⟩ := h
      refine WA.zaload dX9_factor_55 ob_135 s5.1 s5.2 ?_
      refine WA.if_ne (tgt := 63) dX9_factor_56 (by decide) (fun hc => ?_) (fun hc => ?_)
      · have h := h.1 hc
        refine WA.iconst dX9_factor_63 ⟨by decide, by decide⟩ ?_
        obtain ⟨s6, h⟩ := h
        obtain ⟨w22, qw22⟩ : ∃ z, z = wset w2 135 (w2 115 23) 0 := ⟨_, rfl⟩
        have h := h w22 qw22
        refine WA.zastore dX9_factor_64 ob_135 s6.1 s6.2 (by decide) ?_
        rw [← qw22]
        refine WA.aload_n dX9_factor_65 rfl (by decide) ?_
        refine WA.dup dX9_factor_66 rfl ?_
        refine gfX9_116 rfl dX9_factor_67 ob_115 ?_
        refine WA.iconst dX9_factor_70 ⟨by decide, by decide⟩ ?_
        obtain ⟨s7, h⟩ := h
        refine WA.iadd dX9_factor_71 s7 ?_
        obtain ⟨w23, qw23⟩ : ∃ z, z = wset w22 115 24 ((w22 115 24) + 1) := ⟨_, rfl⟩
        have h := h w23 qw23
        refine pfX9_116 rfl dX9_factor_72 ob_115 ?_
        rw [← qw23]
        refine WA.goto (tgt := 237) dX9_factor_75 (by decide) ?_
        exact WA.vreturn dX9_factor_237 ⟨rfl, h⟩
      · have h := h.2 hc
        refine WA.iconst dX9_factor_59 ⟨by decide, by decide⟩ ?_
        refine WA.goto (tgt := 64) dX9_factor_60 (by decide) ?_
        obtain ⟨s8, h⟩ := h
        obtain ⟨w24, qw24⟩ : ∃ z, z = wset w2 135 (w2 115 23) 1 := ⟨_, rfl⟩
        have h := h w24 qw24
        refine WA.zastore dX9_factor_64 ob_135 s8.1 s8.2 (by decide) ?_
        rw [← qw24]
        refine WA.aload_n dX9_factor_65 rfl (by decide) ?_
        refine WA.dup dX9_factor_66 rfl ?_
        refine gfX9_116 rfl dX9_factor_67 ob_115 ?_
        refine WA.iconst dX9_factor_70 ⟨by decide, by decide⟩ ?_
        obtain ⟨s9, h⟩ := h
        refine WA.iadd dX9_factor_71 s9 ?_
        obtain ⟨w25, qw25⟩ : ∃ z, z = wset w24 115 24 ((w24 115 24) + 1) := ⟨_, rfl⟩
        have h := h w25 qw25
        refine pfX9_116 rfl dX9_factor_72 ob_115 ?_
        rw [← qw25]
        refine WA.goto (tgt := 237) dX9_factor_75 (by decide) ?_
        exact WA.vreturn dX9_factor_237 ⟨rfl, h⟩
  · have h := h.2 hc
    refine WA.aload_n dX9_factor_19 rfl (by decide) ?_
    obtain ⟨d1, hd1, h⟩ := h
    refine WA.callV0 (kc := 0) (ks := 0) (kc' := 0) (ks' := 0) dX9_factor_20 lkX9_290 rfl rfl rfl ob_115 rfl (Nat.le_of_ble_eq_true rfl) hd1 h (fun r w26 hK => ?_)
    obtain ⟨x13, rfl, h⟩ := hK
    change WA _ _ _ _ _ _ _ _ _ _ _ [.inl x13] _ _
    refine WA.if_eq (tgt := 33) dX9_factor_23 (by decide) (fun hc => ?_) (fun hc => ?_)
    · have h := h.1 hc
      refine WA.iload_n dX9_factor_33 rfl ?_
      refine WA.bipush dX9_factor_34 ⟨by decide, by decide⟩ ?_
      refine WA.icmp_ne (tgt := 78) dX9_factor_36 (by decide) (fun hc => ?_) (fun hc => ?_)
      · have h := h.1 hc
        refine WA.iload_n dX9_factor_78 rfl ?_
        obtain ⟨d1, hd1, h⟩ := h
        refine WA.callS1 (kc := 0) (ks := 0) (kc' := 0) (ks' := 0) dX9_factor_79 lkX9_185 rfl rfl rfl (Nat.le_of_ble_eq_true rfl) hd1 h (fun r w27 hK => ?_)
        obtain ⟨x14, rfl, h⟩ := hK
        change WA _ _ _ _ _ _ _ _ _ _ _ [.inl x14] _ _
        refine WA.if_eq (tgt := 134) dX9_factor_82 (by decide) (fun hc => ?_) (fun hc => ?_)
        · have h := h.1 hc
          refine WA.iload_n dX9_factor_134 rfl ?_
          refine WA.bipush dX9_factor_135 ⟨by decide, by decide⟩ ?_
          refine WA.icmp_ne (tgt := 158) dX9_factor_137 (by decide) (fun hc => ?_) (fun hc => ?_)
          · have h := h.1 hc
            refine WA.iload_n dX9_factor_158 rfl ?_
            obtain ⟨d1, hd1, h⟩ := h
            refine WA.callS1 (kc := 0) (ks := 0) (kc' := 0) (ks' := 0) dX9_factor_159 lkX9_161 rfl rfl rfl (Nat.le_of_ble_eq_true rfl) hd1 h (fun r w28 hK => ?_)
            obtain ⟨x15, rfl, h⟩ := hK
            change WA _ _ _ _ _ _ _ _ _ _ _ [.inl x15] _ _
            refine WA.if_eq (tgt := 214) dX9_factor_162 (by decide) (fun hc => ?_) (fun hc => ?_)
            · have h := h.1 hc
              refine WA.aload_n dX9_factor_214 rfl (by decide) ?_
              obtain ⟨d1, hd1, h⟩ := h
              refine WA.callV0 (kc := 0) (ks := 0) (kc' := 0) (ks' := 0) dX9_factor_215 lkX9_303 rfl rfl rfl ob_115 rfl (Nat.le_of_ble_eq_true rfl) hd1 h (fun r w29 hK => ?_)
              obtain ⟨x16, rfl, h⟩ := hK
              change WA _ _ _ _ _ _ _ _ _ _ _ [.inl x16] _ _
              refine WA.istore_n (als' := [some (.inr (.inr 115)), some (.inl (w 115 27)), some (.inl x1), some (.inl x16), none, none]) dX9_factor_218 (Nat.le_of_ble_eq_true rfl) rfl ?_
              refine WA.aload_n dX9_factor_219 rfl (by decide) ?_
              refine WA.dup dX9_factor_220 rfl ?_
              refine gfX9_116 rfl dX9_factor_221 ob_115 ?_
              refine WA.iload_n dX9_factor_224 rfl ?_
              obtain ⟨d1, hd1, h⟩ := h
              refine WA.callS1 (kc := 0) (ks := 0) (kc' := 0) (ks' := 0) dX9_factor_225 lkX9_151 rfl rfl rfl (Nat.le_of_ble_eq_true rfl) hd1 h (fun r w30 hK => ?_)
              obtain ⟨x17, rfl, h⟩ := hK
              change WA _ _ _ _ _ _ _ _ _ _ _ [.inl x17, .inl (w29 115 24), .inr (.inr 115)] _ _
              obtain ⟨s10, h⟩ := h
              refine WA.iadd dX9_factor_228 s10 ?_
              obtain ⟨w31, qw31⟩ : ∃ z, z = wset w30 115 24 ((w29 115 24) + x17) := ⟨_, rfl⟩
              have h := h w31 qw31
              refine pfX9_116 rfl dX9_factor_229 ob_115 ?_
              rw [← qw31]
              refine WA.aload_n dX9_factor_232 rfl (by decide) ?_
              refine WA.iload_n dX9_factor_233 rfl ?_
              obtain ⟨d1, hd1, h⟩ := h
              refine WA.callV1 (kc := 0) (ks := 0) (kc' := 0) (ks' := 0) dX9_factor_234 lkX9_300 rfl rfl rfl ob_115 rfl (Nat.le_of_ble_eq_true rfl) hd1 h (fun r w32 hK => ?_)
              obtain ⟨rfl, h⟩ := hK
              change WA _ _ _ _ _ _ _ _ _ _ _ [] _ _
              exact WA.vreturn dX9_factor_237 ⟨rfl, h⟩
            · have h := h.2 hc
              refine WA.aload_n dX9_factor_165 rfl (by decide) ?_
              refine WA.iconst dX9_factor_166 ⟨by decide, by decide⟩ ?_
              obtain ⟨d1, hd1, h⟩ := h
              refine WA.callV1 (kc := 0) (ks := 0) (kc' := 0) (ks' := 0) dX9_factor_167 lkX9_263 rfl rfl rfl ob_115 rfl (Nat.le_of_ble_eq_true rfl) hd1 h (fun r w33 hK => ?_)
              obtain ⟨x18, rfl, h⟩ := hK
              change WA _ _ _ _ _ _ _ _ _ _ _ [.inl x18] _ _
              obtain ⟨d1, hd1, h⟩ := h
              refine WA.callS1 (kc := 0) (ks := 0) (kc' := 0) (ks' := 0) dX9_factor_170 lkX9_185 rfl rfl rfl (Nat.le_of_ble_eq_true rfl) hd1 h (fun r w34 hK => ?_)
              obtain ⟨x19, rfl, h⟩ := hK
              change WA _ _ _ _ _ _ _ _ _ _ _ [.inl x19] _ _
              refine WA.if_eq (tgt := 214) dX9_factor_173 (by decide) (fun hc => ?_) (fun hc => ?_)
              · have h := h.1 hc
                refine WA.aload_n dX9_factor_214 rfl (by decide) ?_
                obtain ⟨d1, hd1, h⟩ := h
                refine WA.callV0 (kc := 0) (ks := 0) (kc' := 0) (ks' := 0) dX9_factor_215 lkX9_303 rfl rfl rfl ob_115 rfl (Nat.le_of_ble_eq_true rfl) hd1 h (fun r w35 hK => ?_)
                obtain ⟨x20, rfl, h⟩ := hK
                change WA _ _ _ _ _ _ _ _ _ _ _ [.inl x20] _ _
                refine WA.istore_n (als' := [some (.inr (.inr 115)), some (.inl (w 115 27)), some (.inl x1), some (.inl x20), none, none]) dX9_factor_218 (Nat.le_of_ble_eq_true rfl) rfl ?_
                refine WA.aload_n dX9_factor_219 rfl (by decide) ?_
                refine WA.dup dX9_factor_220 rfl ?_
                refine gfX9_116 rfl dX9_factor_221 ob_115 ?_
                refine WA.iload_n dX9_factor_224 rfl ?_
                obtain ⟨d1, hd1, h⟩ := h
                refine WA.callS1 (kc := 0) (ks := 0) (kc' := 0) (ks' := 0) dX9_factor_225 lkX9_151 rfl rfl rfl (Nat.le_of_ble_eq_true rfl) hd1 h (fun r w36 hK => ?_)
                obtain ⟨x21, rfl, h⟩ := hK
                change WA _ _ _ _ _ _ _ _ _ _ _ [.inl x21, .inl (w35 115 24), .inr (.inr 115)] _ _
                obtain ⟨s11, h⟩ := h
                refine WA.iadd dX9_factor_228 s11 ?_
                obtain ⟨w37, qw37⟩ : ∃ z, z = wset w36 115 24 ((w35 115 24) + x21) := ⟨_, rfl⟩
                have h := h w37 qw37
                refine pfX9_116 rfl dX9_factor_229 ob_115 ?_
                rw [← qw37]
                refine WA.aload_n dX9_factor_232 rfl (by decide) ?_
                refine WA.iload_n dX9_factor_233 rfl ?_
                obtain ⟨d1, hd1, h⟩ := h
                refine WA.callV1 (kc := 0) (ks := 0) (kc' := 0) (ks' := 0) dX9_factor_234 lkX9_300 rfl rfl rfl ob_115 rfl (Nat.le_of_ble_eq_true rfl) hd1 h (fun r w38 hK => ?_)
                obtain ⟨rfl, h⟩ := hK
                change WA _ _ _ _ _ _ _ _ _ _ _ [] _ _
                exact WA.vreturn dX9_factor_237 ⟨rfl, h⟩
              · have h := h.2 hc
                refine WA.aload_n dX9_factor_176 rfl (by decide) ?_
                obtain ⟨d1, hd1, h⟩ := h
                refine WA.callV0 (kc := 0) (ks := 0) (kc' := 0) (ks' := 0) dX9_factor_177 lkX9_272 rfl rfl rfl ob_115 rfl (Nat.le_of_ble_eq_true rfl) hd1 h (fun r w39 hK => ?_)
                obtain ⟨x22, rfl, h⟩ := hK
                change WA _ _ _ _ _ _ _ _ _ _ _ [.inl x22] _ _
                refine WA.istore_n (als' := [some (.inr (.inr 115)), some (.inl (w 115 27)), some (.inl x1), some (.inl x22), none, none]) dX9_factor_180 (Nat.le_of_ble_eq_true rfl) rfl ?_
                refine WA.aload_n dX9_factor_181 rfl (by decide) ?_
                refine WA.dup dX9_factor_182 rfl ?_
                refine gfX9_116 rfl dX9_factor_183 ob_115 ?_
                refine WA.iconst dX9_factor_186 ⟨by decide, by decide⟩ ?_
                obtain ⟨s12, h⟩ := h
                refine WA.iadd dX9_factor_187 s12 ?_
                obtain ⟨w40, qw40⟩ : ∃ z, z = wset w39 115 24 ((w39 115 24) + 2) := ⟨_, rfl⟩
                have h := h w40 qw40
                refine pfX9_116 rfl dX9_factor_188 ob_115 ?_
                rw [← qw40]
                refine WA.aload_n dX9_factor_191 rfl (by decide) ?_
                refine WA.iload_n dX9_factor_192 rfl ?_
                obtain ⟨d1, hd1, h⟩ := h
                refine WA.callV1 (kc := 0) (ks := 0) (kc' := 0) (ks' := 0) dX9_factor_193 lkX9_278 rfl rfl rfl ob_115 rfl (Nat.le_of_ble_eq_true rfl) hd1 h (fun r w41 hK => ?_)
                obtain ⟨x23, rfl, h⟩ := hK
                change WA _ _ _ _ _ _ _ _ _ _ _ [.inr (.inl x23)] _ _
                refine WA.lstore (als' := [some (.inr (.inr 115)), some (.inl (w 115 27)), some (.inl x1), some (.inl x22), some (.inr (.inl x23)), none]) dX9_factor_196 (Nat.le_of_ble_eq_true rfl) rfl ?_
                refine WA.aload_n dX9_factor_198 rfl (by decide) ?_
                obtain ⟨d1, hd1, h⟩ := h
                refine WA.callV0 (kc := 0) (ks := 0) (kc' := 0) (ks' := 0) dX9_factor_199 lkX9_275 rfl rfl rfl ob_115 rfl (Nat.le_of_ble_eq_true rfl) hd1 h (fun r w42 hK => ?_)
                obtain ⟨x24, rfl, h⟩ := hK
                change WA _ _ _ _ _ _ _ _ _ _ _ [.inl x24] _ _
                refine WA.if_eq (tgt := 211) dX9_factor_202 (by decide) (fun hc => ?_) (fun hc => ?_)
                · have h := h.1 hc
                  refine WA.goto (tgt := 237) dX9_factor_211 (by decide) ?_
                  exact WA.vreturn dX9_factor_237 ⟨rfl, h⟩
                · have h := h.2 hc
                  refine WA.aload_n dX9_factor_205 rfl (by decide) ?_
                  refine WA.lload dX9_factor_206 rfl ?_
                  obtain ⟨d1, hd1, h⟩ := h
                  refine WA.callV1 (kc := 0) (ks := 0) (kc' := 0) (ks' := 0) dX9_factor_208 lkX9_259 rfl rfl rfl ob_115 rfl (Nat.le_of_ble_eq_true rfl) hd1 h (fun r w43 hK => ?_)
                  obtain ⟨rfl, h⟩ := hK
                  change WA _ _ _ _ _ _ _ _ _ _ _ [] _ _
                  refine WA.goto (tgt := 237) dX9_factor_211 (by decide) ?_
                  exact WA.vreturn dX9_factor_237 ⟨rfl, h⟩
          · have h := h.2 hc
            refine WA.aload_n dX9_factor_140 rfl (by decide) ?_
            refine WA.dup dX9_factor_141 rfl ?_
            refine gfX9_116 rfl dX9_factor_142 ob_115 ?_
            refine WA.iconst dX9_factor_145 ⟨by decide, by decide⟩ ?_
            obtain ⟨s13, h⟩ := h
            refine WA.iadd dX9_factor_146 s13 ?_
            obtain ⟨w44, qw44⟩ : ∃ z, z = wset w27 115 24 ((w27 115 24) + 1) := ⟨_, rfl⟩
            have h := h w44 qw44
            refine pfX9_116 rfl dX9_factor_147 ob_115 ?_
            rw [← qw44]
            refine WA.aload_n dX9_factor_150 rfl (by decide) ?_
            refine WA.iconst dX9_factor_151 ⟨by decide, by decide⟩ ?_
            obtain ⟨d1, hd1, h⟩ := h
            refine WA.callV1 (kc := 0) (ks := 0) (kc' := 0) (ks' := 0) dX9_factor_152 lkX9_300 rfl rfl rfl ob_115 rfl (Nat.le_of_ble_eq_true rfl) hd1 h (fun r w45 hK => ?_)
            obtain ⟨rfl, h⟩ := hK
            change WA _ _ _ _ _ _ _ _ _ _ _ [] _ _
            refine WA.goto (tgt := 237) dX9_factor_155 (by decide) ?_
            exact WA.vreturn dX9_factor_237 ⟨rfl, h⟩
        · have h := h.2 hc
          refine WA.lconst (x := 0) dX9_factor_85 rfl ?_
          refine WA.lstore_n (als' := [some (.inr (.inr 115)), some (.inl (w 115 27)), some (.inl x1), some (.inr (.inl 0)), none, none]) dX9_factor_86 (Nat.le_of_ble_eq_true rfl) rfl ?_
          exact h
      · have h := h.2 hc
        refine WA.aload_n dX9_factor_39 rfl (by decide) ?_
        refine gxX9_72 rfl rfl dX9_factor_40 ob_115 ?_
        refine WA.aload_n dX9_factor_43 rfl (by decide) ?_
        refine gfX9_119 rfl dX9_factor_44 ob_115 ?_
        refine WA.aload_n dX9_factor_47 rfl (by decide) ?_
        refine gxX9_72 rfl rfl dX9_factor_48 ob_115 ?_
        refine WA.aload_n dX9_factor_51 rfl (by decide) ?_
        refine gfX9_119 rfl dX9_factor_52 ob_115 ?_
        obtain ⟨s14, h⟩ := h
        refine WA.zaload dX9_factor_55 ob_135 s14.1 s14.2 ?_
        refine WA.if_ne (tgt := 63) dX9_factor_56 (by decide) (fun hc => ?_) (fun hc => ?_)
        · have h := h.1 hc
          refine WA.iconst dX9_factor_63 ⟨by decide, by decide⟩ ?_
          obtain ⟨s15, h⟩ := h
          obtain ⟨w46, qw46⟩ : ∃ z, z = wset w26 135 (w26 115 23) 0 := ⟨_, rfl⟩
          have h := h w46 qw46
          refine WA.zastore dX9_factor_64 ob_135 s15.1 s15.2 (by decide) ?_
          rw [← qw46]
          refine WA.aload_n dX9_factor_65 rfl (by decide) ?_
          refine WA.dup dX9_factor_66 rfl ?_
          refine gfX9_116 rfl dX9_factor_67 ob_115 ?_
          refine WA.iconst dX9_factor_70 ⟨by decide, by decide⟩ ?_
          obtain ⟨s16, h⟩ := h
          refine WA.iadd dX9_factor_71 s16 ?_
          obtain ⟨w47, qw47⟩ : ∃ z, z = wset w46 115 24 ((w46 115 24) + 1) := ⟨_, rfl⟩
          have h := h w47 qw47
          refine pfX9_116 rfl dX9_factor_72 ob_115 ?_
          rw [← qw47]
          refine WA.goto (tgt := 237) dX9_factor_75 (by decide) ?_
          exact WA.vreturn dX9_factor_237 ⟨rfl, h⟩
        · have h := h.2 hc
          refine WA.iconst dX9_factor_59 ⟨by decide, by decide⟩ ?_
          refine WA.goto (tgt := 64) dX9_factor_60 (by decide) ?_
          obtain ⟨s17, h⟩ := h
          obtain ⟨w48, qw48⟩ : ∃ z, z = wset w26 135 (w26 115 23) 1 := ⟨_, rfl⟩
          have h := h w48 qw48
          refine WA.zastore dX9_factor_64 ob_135 s17.1 s17.2 (by decide) ?_
          rw [← qw48]
          refine WA.aload_n dX9_factor_65 rfl (by decide) ?_
          refine WA.dup dX9_factor_66 rfl ?_
          refine gfX9_116 rfl dX9_factor_67 ob_115 ?_
          refine WA.iconst dX9_factor_70 ⟨by decide, by decide⟩ ?_
          obtain ⟨s18, h⟩ := h
          refine WA.iadd dX9_factor_71 s18 ?_
          obtain ⟨w49, qw49⟩ : ∃ z, z = wset w48 115 24 ((w48 115 24) + 1) := ⟨_, rfl⟩
          have h := h w49 qw49
          refine pfX9_116 rfl dX9_factor_72 ob_115 ?_
          rw [← qw49]
          refine WA.goto (tgt := 237) dX9_factor_75 (by decide) ?_
          exact WA.vreturn dX9_factor_237 ⟨rfl, h⟩
    · have h := h.2 hc
      refine WA.aload_n dX9_factor_26 rfl (by decide) ?_
      obtain ⟨d1, hd1, h⟩ := h
      refine WA.callV0 (kc := 0) (ks := 0) (kc' := 0) (ks' := 0) dX9_factor_27 lkX9_293 rfl rfl rfl ob_115 rfl (Nat.le_of_ble_eq_true rfl) hd1 h (fun r w50 hK => ?_)
      obtain ⟨rfl, h⟩ := hK
      change WA _ _ _ _ _ _ _ _ _ _ _ [] _ _
      refine WA.goto (tgt := 237) dX9_factor_30 (by decide) ?_
      exact WA.vreturn dX9_factor_237 ⟨rfl, h⟩
set_option maxRecDepth 10000 in
theorem v_X9_skip_2 {d : Nat} {w : Wd} {K : Wd → Prop} {v1 : Int}  
    (h : ((0 < v1 → C_X9_sign d [.inr (.inr 115)] w (fun x1 w1 => ((¬ x1 = 40 → C_X9_sign d [.inr (.inr 115)] w1 (fun x2 w2 => ((¬ x2 = 41 → (-2147483648 ≤ (v1 + 0) ∧ (v1 + 0) ≤ 2147483647) ∧ (-2147483648 ≤ ((w2 115 24) + 1) ∧ ((w2 115 24) + 1) ≤ 2147483647) ∧ (∀ w3, w3 = wset w2 115 24 ((w2 115 24) + 1) → W_X9_skip d 2 [some (.inr (.inr 115)), some (.inl (v1 + 0))] [] w3 K)) ∧ (x2 = 41 → (-2147483648 ≤ (v1 + (-1)) ∧ (v1 + (-1)) ≤ 2147483647) ∧ (-2147483648 ≤ ((w2 115 24) + 1) ∧ ((w2 115 24) + 1) ≤ 2147483647) ∧ (∀ w4, w4 = wset w2 115 24 ((w2 115 24) + 1) → W_X9_skip d 2 [some (.inr (.inr 115)), some (.inl (v1 + (-1)))] [] w4 K))))) ∧ (x1 = 40 → (-2147483648 ≤ (v1 + 1) ∧ (v1 + 1) ≤ 2147483647) ∧ (-2147483648 ≤ ((w1 115 24) + 1) ∧ ((w1 115 24) + 1) ≤ 2147483647) ∧ (∀ w5, w5 = wset w1 115 24 ((w1 115 24) + 1) → W_X9_skip d 2 [some (.inr (.inr 115)), some (.inl (v1 + 1))] [] w5 K))))) ∧ (¬ (0 < v1) → C_X9_sign d [.inr (.inr 115)] w (fun x3 w6 => ((x3 = 44 → K w6) ∧ (¬ x3 = 44 → C_X9_sign d [.inr (.inr 115)] w6 (fun x4 w7 => ((x4 = 41 → K w7) ∧ (¬ x4 = 41 → C_X9_sign d [.inr (.inr 115)] w7 (fun x5 w8 => ((¬ x5 = 40 → C_X9_sign d [.inr (.inr 115)] w8 (fun x6 w9 => ((¬ x6 = 41 → (-2147483648 ≤ (v1 + 0) ∧ (v1 + 0) ≤ 2147483647) ∧ (-2147483648 ≤ ((w9 115 24) + 1) ∧ ((w9 115 24) + 1) ≤ 2147483647) ∧ (∀ w10, w10 = wset w9 115 24 ((w9 115 24) + 1) → W_X9_skip d 2 [some (.inr (.inr 115)), some (.inl (v1 + 0))] [] w10 K)) ∧ (x6 = 41 → (-2147483648 ≤ (v1 + (-1)) ∧ (v1 + (-1)) ≤ 2147483647) ∧ (-2147483648 ≤ ((w9 115 24) + 1) ∧ ((w9 115 24) + 1) ≤ 2147483647) ∧ (∀ w11, w11 = wset w9 115 24 ((w9 115 24) + 1) → W_X9_skip d 2 [some (.inr (.inr 115)), some (.inl (v1 + (-1)))] [] w11 K))))) ∧ (x5 = 40 → (-2147483648 ≤ (v1 + 1) ∧ (v1 + 1) ≤ 2147483647) ∧ (-2147483648 ≤ ((w8 115 24) + 1) ∧ ((w8 115 24) + 1) ≤ 2147483647) ∧ (∀ w12, w12 = wset w8 115 24 ((w8 115 24) + 1) → W_X9_skip d 2 [some (.inr (.inr 115)), some (.inl (v1 + 1))] [] w12 K))))))))))))) :
    W_X9_skip d 2 [some (.inr (.inr 115)), some (.inl v1)] [] w K := by
  refine WA.iload_n dX9_skip_2 rfl ?_
  refine WA.if_gt (tgt := 24) dX9_skip_3 (by decide) (fun hc => ?_) (fun hc => ?_)
  · have h := h.1 hc
    refine WA.iload_n dX9_skip_24 rfl ?_
    refine WA.aload_n dX9_skip_25 rfl (by decide) ?_
    obtain ⟨d1, hd1, h⟩ := h
    refine WA.callV0 (kc := 0) (ks := 0) (kc' := 0) (ks' := 0) dX9_skip_26 lkX9_266 rfl rfl rfl ob_115 rfl (Nat.le_of_ble_eq_true rfl) hd1 h (fun r w1 hK => ?_)
    obtain ⟨x1, rfl, h⟩ := hK
    change WA _ _ _ _ _ _ _ _ _ _ _ [.inl x1, .inl v1] _ _
    refine WA.bipush dX9_skip_29 ⟨by decide, by decide⟩ ?_
    refine WA.icmp_ne (tgt := 38) dX9_skip_31 (by decide) (fun hc => ?_) (fun hc => ?_)
    · have h := h.1 hc
      refine WA.aload_n dX9_skip_38 rfl (by decide) ?_
      obtain ⟨d1, hd1, h⟩ := h
      refine WA.callV0 (kc := 0) (ks := 0) (kc' := 0) (ks' := 0) dX9_skip_39 lkX9_266 rfl rfl rfl ob_115 rfl (Nat.le_of_ble_eq_true rfl) hd1 h (fun r w2 hK => ?_)
      obtain ⟨x2, rfl, h⟩ := hK
      change WA _ _ _ _ _ _ _ _ _ _ _ [.inl x2, .inl v1] _ _
      refine WA.bipush dX9_skip_42 ⟨by decide, by decide⟩ ?_
      refine WA.icmp_ne (tgt := 51) dX9_skip_44 (by decide) (fun hc => ?_) (fun hc => ?_)
      · have h := h.1 hc
        refine WA.iconst dX9_skip_51 ⟨by decide, by decide⟩ ?_
        obtain ⟨s1, h⟩ := h
        refine WA.iadd dX9_skip_52 s1 ?_
        refine WA.istore_n (als' := [some (.inr (.inr 115)), some (.inl (v1 + 0))]) dX9_skip_53 (Nat.le_of_ble_eq_true rfl) rfl ?_
        refine WA.aload_n dX9_skip_54 rfl (by decide) ?_
        refine WA.dup dX9_skip_55 rfl ?_
        refine gfX9_116 rfl dX9_skip_56 ob_115 ?_
        refine WA.iconst dX9_skip_59 ⟨by decide, by decide⟩ ?_
        obtain ⟨s2, h⟩ := h
        refine WA.iadd dX9_skip_60 s2 ?_
        obtain ⟨w3, qw3⟩ : ∃ z, z = wset w2 115 24 ((w2 115 24) + 1) := ⟨_, rfl⟩
        have h := h w3 qw3
        refine pfX9_116 rfl dX9_skip_61 ob_115 ?_
        rw [← qw3]
        refine WA.goto (tgt := 2) dX9_skip_64 (by decide) ?_
        exact h
      · have h := h.2 hc
        refine WA.iconst dX9_skip_47 ⟨by decide, by decide⟩ ?_
        refine WA.goto (tgt := 52) dX9_skip_48 (by decide) ?_
        obtain ⟨s3, h⟩ := h
        refine WA.iadd dX9_skip_52 s3 ?_
        refine WA.istore_n (als' := [some (.inr (.inr 115)), some (.inl (v1 + (-1)))]) dX9_skip_53 (Nat.le_of_ble_eq_true rfl) rfl ?_
        refine WA.aload_n dX9_skip_54 rfl (by decide) ?_
        refine WA.dup dX9_skip_55 rfl ?_
        refine gfX9_116 rfl dX9_skip_56 ob_115 ?_
        refine WA.iconst dX9_skip_59 ⟨by decide, by decide⟩ ?_
        obtain ⟨s4, h⟩ := h
        refine WA.iadd dX9_skip_60 s4 ?_
        obtain ⟨w4, qw4⟩ : ∃ z, z = wset w2 115 24 ((w2 115 24) + 1) := ⟨_, rfl⟩
        have h := h w4 qw4
        refine pfX9_116 rfl dX9_skip_61 ob_115 ?_
        rw [← qw4]
        refine WA.goto (tgt := 2) dX9_skip_64 (by decide) ?_
        exact h
    · have h := h.2 hc
      refine WA.iconst dX9_skip_34 ⟨by decide, by decide⟩ ?_
      refine WA.goto (tgt := 52) dX9_skip_35 (by decide) ?_
      obtain ⟨s5, h⟩ := h
      refine WA.iadd dX9_skip_52 s5 ?_
      refine WA.istore_n (als' := [some (.inr (.inr 115)), some (.inl (v1 + 1))]) dX9_skip_53 (Nat.le_of_ble_eq_true rfl) rfl ?_
      refine WA.aload_n dX9_skip_54 rfl (by decide) ?_
      refine WA.dup dX9_skip_55 rfl ?_
      refine gfX9_116 rfl dX9_skip_56 ob_115 ?_
      refine WA.iconst dX9_skip_59 ⟨by decide, by decide⟩ ?_
      obtain ⟨s6, h⟩ := h
      refine WA.iadd dX9_skip_60 s6 ?_
      obtain ⟨w5, qw5⟩ : ∃ z, z = wset w1 115 24 ((w1 115 24) + 1) := ⟨_, rfl⟩
      have h := h w5 qw5
      refine pfX9_116 rfl dX9_skip_61 ob_115 ?_
      rw [← qw5]
      refine WA.goto (tgt := 2) dX9_skip_64 (by decide) ?_
      exact h
  · have h := h.2 hc
    refine WA.aload_n dX9_skip_6 rfl (by decide) ?_
    obtain ⟨d1, hd1, h⟩ := h
    refine WA.callV0 (kc := 0) (ks := 0) (kc' := 0) (ks' := 0) dX9_skip_7 lkX9_266 rfl rfl rfl ob_115 rfl (Nat.le_of_ble_eq_true rfl) hd1 h (fun r w6 hK => ?_)
    obtain ⟨x3, rfl, h⟩ := hK
    change WA _ _ _ _ _ _ _ _ _ _ _ [.inl x3] _ _
    refine WA.bipush dX9_skip_10 ⟨by decide, by decide⟩ ?_
    refine WA.icmp_eq (tgt := 67) dX9_skip_12 (by decide) (fun hc => ?_) (fun hc => ?_)
    · have h := h.1 hc
      exact WA.vreturn dX9_skip_67 ⟨rfl, h⟩
    · have h := h.2 hc
      refine WA.aload_n dX9_skip_15 rfl (by decide) ?_
      obtain ⟨d1, hd1, h⟩ := h
      refine WA.callV0 (kc := 0) (ks := 0) (kc' := 0) (ks' := 0) dX9_skip_16 lkX9_266 rfl rfl rfl ob_115 rfl (Nat.le_of_ble_eq_true rfl) hd1 h (fun r w7 hK => ?_)
      obtain ⟨x4, rfl, h⟩ := hK
      change WA _ _ _ _ _ _ _ _ _ _ _ [.inl x4] _ _
      refine WA.bipush dX9_skip_19 ⟨by decide, by decide⟩ ?_
      refine WA.icmp_eq (tgt := 67) dX9_skip_21 (by decide) (fun hc => ?_) (fun hc => ?_)
      · have h := h.1 hc
        exact WA.vreturn dX9_skip_67 ⟨rfl, h⟩
      · have h := h.2 hc
        refine WA.iload_n dX9_skip_24 rfl ?_
        refine WA.aload_n dX9_skip_25 rfl (by decide) ?_
        obtain ⟨d1, hd1, h⟩ := h
        refine WA.callV0 (kc := 0) (ks := 0) (kc' := 0) (ks' := 0) dX9_skip_26 lkX9_266 rfl rfl rfl ob_115 rfl (Nat.le_of_ble_eq_true rfl) hd1 h (fun r w8 hK => ?_)
        obtain ⟨x5, rfl, h⟩ := hK
        change WA _ _ _ _ _ _ _ _ _ _ _ [.inl x5, .inl v1] _ _
        refine WA.bipush dX9_skip_29 ⟨by decide, by decide⟩ ?_
        refine WA.icmp_ne (tgt := 38) dX9_skip_31 (by decide) (fun hc => ?_) (fun hc => ?_)
        · have h := h.1 hc
          refine WA.aload_n dX9_skip_38 rfl (by decide) ?_
          obtain ⟨d1, hd1, h⟩ := h
          refine WA.callV0 (kc := 0) (ks := 0) (kc' := 0) (ks' := 0) dX9_skip_39 lkX9_266 rfl rfl rfl ob_115 rfl (Nat.le_of_ble_eq_true rfl) hd1 h (fun r w9 hK => ?_)
          obtain ⟨x6, rfl, h⟩ := hK
          change WA _ _ _ _ _ _ _ _ _ _ _ [.inl x6, .inl v1] _ _
          refine WA.bipush dX9_skip_42 ⟨by decide, by decide⟩ ?_
          refine WA.icmp_ne (tgt := 51) dX9_skip_44 (by decide) (fun hc => ?_) (fun hc => ?_)
          · have h := h.1 hc
            refine WA.iconst dX9_skip_51 ⟨by decide, by decide⟩ ?_
            obtain ⟨s7, h⟩ := h
            refine WA.iadd dX9_skip_52 s7 ?_
            refine WA.istore_n (als' := [some (.inr (.inr 115)), some (.inl (v1 + 0))]) dX9_skip_53 (Nat.le_of_ble_eq_true rfl) rfl ?_
            refine WA.aload_n dX9_skip_54 rfl (by decide) ?_
            refine WA.dup dX9_skip_55 rfl ?_
            refine gfX9_116 rfl dX9_skip_56 ob_115 ?_
            refine WA.iconst dX9_skip_59 ⟨by decide, by decide⟩ ?_
            obtain ⟨s8, h⟩ := h
            refine WA.iadd dX9_skip_60 s8 ?_
            obtain ⟨w10, qw10⟩ : ∃ z, z = wset w9 115 24 ((w9 115 24) + 1) := ⟨_, rfl⟩
            have h := h w10 qw10
            refine pfX9_116 rfl dX9_skip_61 ob_115 ?_
            rw [← qw10]
            refine WA.goto (tgt := 2) dX9_skip_64 (by decide) ?_
            exact h
          · have h := h.2 hc
            refine WA.iconst dX9_skip_47 ⟨by decide, by decide⟩ ?_
            refine WA.goto (tgt := 52) dX9_skip_48 (by decide) ?_
            obtain ⟨s9, h⟩ := h
            refine WA.iadd dX9_skip_52 s9 ?_
            refine WA.istore_n (als' := [some (.inr (.inr 115)), some (.inl (v1 + (-1)))]) dX9_skip_53 (Nat.le_of_ble_eq_true rfl) rfl ?_
            refine WA.aload_n dX9_skip_54 rfl (by decide) ?_
            refine WA.dup dX9_skip_55 rfl ?_
            refine gfX9_116 rfl dX9_skip_56 ob_115 ?_
            refine WA.iconst dX9_skip_59 ⟨by decide, by decide⟩ ?_
            obtain ⟨s10, h⟩ := h
            refine WA.iadd dX9_skip_60 s10 ?_
            obtain ⟨w11, qw11⟩ : ∃ z, z = wset w9 115 24 ((w9 115 24) + 1) := ⟨_, rfl⟩
            have h := h w11 qw11
            refine pfX9_116 rfl dX9_skip_61 ob_115 ?_
            rw [← qw11]
            refine WA.goto (tgt := 2) dX9_skip_64 (by decide) ?_
            exact h
        · have h := h.2 hc
          refine WA.iconst dX9_skip_34 ⟨by decide, by decide⟩ ?_
          refine WA.goto (tgt := 52) dX9_skip_35 (by decide) ?_
          obtain ⟨s11, h⟩ := h
          refine WA.iadd dX9_skip_52 s11 ?_
          refine WA.istore_n (als' := [some (.inr (.inr 115)), some (.inl (v1 + 1))]) dX9_skip_53 (Nat.le_of_ble_eq_true rfl) rfl ?_
          refine WA.aload_n dX9_skip_54 rfl (by decide) ?_
          refine WA.dup dX9_skip_55 rfl ?_
          refine gfX9_116 rfl dX9_skip_56 ob_115 ?_
          refine WA.iconst dX9_skip_59 ⟨by decide, by decide⟩ ?_
          obtain ⟨s12, h⟩ := h
          refine WA.iadd dX9_skip_60 s12 ?_
          obtain ⟨w12, qw12⟩ : ∃ z, z = wset w8 115 24 ((w8 115 24) + 1) := ⟨_, rfl⟩
          have h := h w12 qw12
          refine pfX9_116 rfl dX9_skip_61 ob_115 ?_
          rw [← qw12]
          refine WA.goto (tgt := 2) dX9_skip_64 (by decide) ?_
          exact h
set_option maxRecDepth 10000 in
theorem e_X9_skip {d : Nat} {w : Wd} {K : Wd → Prop}  
    (h : W_X9_skip d 2 [some (.inr (.inr 115)), some (.inl 0)] [] w K) :
    E_X9_skip d [.inr (.inr 115)] w K := by
  refine EvA.of (by decide +kernel) (Nat.le_of_ble_eq_true rfl) ?_
  change W_X9_skip d 0 [some (.inr (.inr 115)), none] [] w K
  refine WA.iconst dX9_skip_0 ⟨by decide, by decide⟩ ?_
  refine WA.istore_n (als' := [some (.inr (.inr 115)), some (.inl 0)]) dX9_skip_1 (Nat.le_of_ble_eq_true rfl) rfl ?_
  exact h
set_option maxRecDepth 10000 in
theorem e_X9_ifs {d : Nat} {w : Wd} {K : Wd → Prop} {a1 : Int}  
    (h : (0 ≤ (w 115 23) ∧ (w 115 23) < 40) ∧ (((w 134 (w 115 23)) ≤ 0 → (-2147483648 ≤ ((w 115 24) + 1) ∧ ((w 115 24) + 1) ≤ 2147483647) ∧ (∀ w1, w1 = wset w 115 24 ((w 115 24) + 1) → ((¬ a1 = 0 → ((¬ a1 = 0 → (0 ≤ (w1 115 23) ∧ (w1 115 23) < 40) ∧ (∀ w2, w2 = wset w1 134 (w1 115 23) 1 → C_X9_frame d [.inr (.inr 115)] w2 (fun w3 => K w3))) ∧ (a1 = 0 → (0 ≤ (w1 115 23) ∧ (w1 115 23) < 40) ∧ (∀ w4, w4 = wset w1 134 (w1 115 23) 2 → C_X9_frame d [.inr (.inr 115)] w4 (fun w5 => K w5))))) ∧ (a1 = 0 → C_X9_skip d [.inr (.inr 115)] w1 (fun w6 => (-2147483648 ≤ ((w6 115 24) + 1) ∧ ((w6 115 24) + 1) ≤ 2147483647) ∧ (∀ w7, w7 = wset w6 115 24 ((w6 115 24) + 1) → ((¬ a1 = 0 → (0 ≤ (w7 115 23) ∧ (w7 115 23) < 40) ∧ (∀ w8, w8 = wset w7 134 (w7 115 23) 1 → C_X9_frame d [.inr (.inr 115)] w8 (fun w9 => K w9))) ∧ (a1 = 0 → (0 ≤ (w7 115 23) ∧ (w7 115 23) < 40) ∧ (∀ w10, w10 = wset w7 134 (w7 115 23) 2 → C_X9_frame d [.inr (.inr 115)] w10 (fun w11 => K w11)))))))))) ∧ (¬ ((w 134 (w 115 23)) ≤ 0) → (0 ≤ (w 115 23) ∧ (w 115 23) < 40) ∧ ((¬ (w 134 (w 115 23)) = 1 → C_X9_leaves d [.inr (.inr 115), .inr (.inl a1)] w (fun w12 => K w12)) ∧ ((w 134 (w 115 23)) = 1 → (-2147483648 ≤ ((w 115 24) + 1) ∧ ((w 115 24) + 1) ≤ 2147483647) ∧ (∀ w13, w13 = wset w 115 24 ((w 115 24) + 1) → C_X9_skip d [.inr (.inr 115)] w13 (fun w14 => C_X9_leaves d [.inr (.inr 115), .inr (.inl a1)] w14 (fun w15 => K w15)))))))) :
    E_X9_ifs d [.inr (.inr 115), .inr (.inl a1)] w K := by
  refine EvA.of (by decide +kernel) (Nat.le_of_ble_eq_true rfl) ?_
  change W_X9_ifs d 0 [some (.inr (.inr 115)), some (.inr (.inl a1)), none] [] w K
  refine WA.aload_n dX9_ifs_0 rfl (by decide) ?_
  refine gxX9_69 rfl rfl dX9_ifs_1 ob_115 ?_
  refine WA.aload_n dX9_ifs_4 rfl (by decide) ?_
  refine gfX9_119 rfl dX9_ifs_5 ob_115 ?_
  obtain ⟨s1, h⟩ := h
  refine WA.iaload dX9_ifs_8 ob_134 s1.1 s1.2 ?_
  refine WA.if_le (tgt := 45) dX9_ifs_9 (by decide) (fun hc => ?_) (fun hc => ?_)
  · have h := h.1 hc
    refine WA.aload_n dX9_ifs_45 rfl (by decide) ?_
    refine WA.dup dX9_ifs_46 rfl ?_
    refine gfX9_116 rfl dX9_ifs_47 ob_115 ?_
    refine WA.iconst dX9_ifs_50 ⟨by decide, by decide⟩ ?_
    obtain ⟨s2, h⟩ := h
    refine WA.iadd dX9_ifs_51 s2 ?_
    obtain ⟨w1, qw1⟩ : ∃ z, z = wset w 115 24 ((w 115 24) + 1) := ⟨_, rfl⟩
    have h := h w1 qw1
    refine pfX9_116 rfl dX9_ifs_52 ob_115 ?_
    rw [← qw1]
    refine WA.lload_n dX9_ifs_55 rfl ?_
    refine WA.lconst (x := 0) dX9_ifs_56 rfl ?_
    refine WA.lcmp_ne (tgt := 75) dX9_ifs_57 dX9_ifs_58 (by decide) (fun hc => ?_) (fun hc => ?_)
    · have h := h.1 hc
      refine WA.aload_n dX9_ifs_75 rfl (by decide) ?_
      refine gxX9_69 rfl rfl dX9_ifs_76 ob_115 ?_
      refine WA.aload_n dX9_ifs_79 rfl (by decide) ?_
      refine gfX9_119 rfl dX9_ifs_80 ob_115 ?_
      refine WA.lload_n dX9_ifs_83 rfl ?_
      refine WA.lconst (x := 0) dX9_ifs_84 rfl ?_
      refine WA.lcmp_ne (tgt := 93) dX9_ifs_85 dX9_ifs_86 (by decide) (fun hc => ?_) (fun hc => ?_)
      · have h := h.1 hc
        refine WA.iconst dX9_ifs_93 ⟨by decide, by decide⟩ ?_
        obtain ⟨s3, h⟩ := h
        obtain ⟨w2, qw2⟩ : ∃ z, z = wset w1 134 (w1 115 23) 1 := ⟨_, rfl⟩
        have h := h w2 qw2
        refine WA.iastore dX9_ifs_94 ob_134 s3.1 s3.2 ?_
        rw [← qw2]
        refine WA.aload_n dX9_ifs_95 rfl (by decide) ?_
        obtain ⟨d1, hd1, h⟩ := h
        refine WA.callV0 (kc := 0) (ks := 0) (kc' := 0) (ks' := 0) dX9_ifs_96 lkX9_249 rfl rfl rfl ob_115 rfl (Nat.le_of_ble_eq_true rfl) hd1 h (fun r w3 hK => ?_)
        obtain ⟨rfl, h⟩ := hK
        change WA _ _ _ _ _ _ _ _ _ _ _ [] _ _
        exact WA.vreturn dX9_ifs_99 ⟨rfl, h⟩
      · have h := h.2 hc
        refine WA.iconst dX9_ifs_89 ⟨by decide, by decide⟩ ?_
        refine WA.goto (tgt := 94) dX9_ifs_90 (by decide) ?_
        obtain ⟨s4, h⟩ := h
        obtain ⟨w4, qw4⟩ : ∃ z, z = wset w1 134 (w1 115 23) 2 := ⟨_, rfl⟩
        have h := h w4 qw4
        refine WA.iastore dX9_ifs_94 ob_134 s4.1 s4.2 ?_
        rw [← qw4]
        refine WA.aload_n dX9_ifs_95 rfl (by decide) ?_
        obtain ⟨d1, hd1, h⟩ := h
        refine WA.callV0 (kc := 0) (ks := 0) (kc' := 0) (ks' := 0) dX9_ifs_96 lkX9_249 rfl rfl rfl ob_115 rfl (Nat.le_of_ble_eq_true rfl) hd1 h (fun r w5 hK => ?_)
        obtain ⟨rfl, h⟩ := hK
        change WA _ _ _ _ _ _ _ _ _ _ _ [] _ _
        exact WA.vreturn dX9_ifs_99 ⟨rfl, h⟩
    · have h := h.2 hc
      refine WA.aload_n dX9_ifs_61 rfl (by decide) ?_
      obtain ⟨d1, hd1, h⟩ := h
      refine WA.callV0 (kc := 0) (ks := 0) (kc' := 0) (ks' := 0) dX9_ifs_62 lkX9_306 rfl rfl rfl ob_115 rfl (Nat.le_of_ble_eq_true rfl) hd1 h (fun r w6 hK => ?_)
      obtain ⟨rfl, h⟩ := hK
      change WA _ _ _ _ _ _ _ _ _ _ _ [] _ _
      refine WA.aload_n dX9_ifs_65 rfl (by decide) ?_
      refine WA.dup dX9_ifs_66 rfl ?_
      refine gfX9_116 rfl dX9_ifs_67 ob_115 ?_
      refine WA.iconst dX9_ifs_70 ⟨by decide, by decide⟩ ?_
      obtain ⟨s5, h⟩ := h
      refine WA.iadd dX9_ifs_71 s5 ?_
      obtain ⟨w7, qw7⟩ : ∃ z, z = wset w6 115 24 ((w6 115 24) + 1) := ⟨_, rfl⟩
      have h := h w7 qw7
      refine pfX9_116 rfl dX9_ifs_72 ob_115 ?_
      rw [← qw7]
      refine WA.aload_n dX9_ifs_75 rfl (by decide) ?_
      refine gxX9_69 rfl rfl dX9_ifs_76 ob_115 ?_
      refine WA.aload_n dX9_ifs_79 rfl (by decide) ?_
      refine gfX9_119 rfl dX9_ifs_80 ob_115 ?_
      refine WA.lload_n dX9_ifs_83 rfl ?_
      refine WA.lconst (x := 0) dX9_ifs_84 rfl ?_
      refine WA.lcmp_ne (tgt := 93) dX9_ifs_85 dX9_ifs_86 (by decide) (fun hc => ?_) (fun hc => ?_)
      · have h := h.1 hc
        refine WA.iconst dX9_ifs_93 ⟨by decide, by decide⟩ ?_
        obtain ⟨s6, h⟩ := h
        obtain ⟨w8, qw8⟩ : ∃ z, z = wset w7 134 (w7 115 23) 1 := ⟨_, rfl⟩
        have h := h w8 qw8
        refine WA.iastore dX9_ifs_94 ob_134 s6.1 s6.2 ?_
        rw [← qw8]
        refine WA.aload_n dX9_ifs_95 rfl (by decide) ?_
        obtain ⟨d1, hd1, h⟩ := h
        refine WA.callV0 (kc := 0) (ks := 0) (kc' := 0) (ks' := 0) dX9_ifs_96 lkX9_249 rfl rfl rfl ob_115 rfl (Nat.le_of_ble_eq_true rfl) hd1 h (fun r w9 hK => ?_)
        obtain ⟨rfl, h⟩ := hK
        change WA _ _ _ _ _ _ _ _ _ _ _ [] _ _
        exact WA.vreturn dX9_ifs_99 ⟨rfl, h⟩
      · have h := h.2 hc
        refine WA.iconst dX9_ifs_89 ⟨by decide, by decide⟩ ?_
        refine WA.goto (tgt := 94) dX9_ifs_90 (by decide) ?_
        obtain ⟨s7, h⟩ := h
        obtain ⟨w10, qw10⟩ : ∃ z, z = wset w7 134 (w7 115 23) 2 := ⟨_, rfl⟩
        have h := h w10 qw10
        refine WA.iastore dX9_ifs_94 ob_134 s7.1 s7.2 ?_
        rw [← qw10]
        refine WA.aload_n dX9_ifs_95 rfl (by decide) ?_
        obtain ⟨d1, hd1, h⟩ := h
        refine WA.callV0 (kc := 0) (ks := 0) (kc' := 0) (ks' := 0) dX9_ifs_96 lkX9_249 rfl rfl rfl ob_115 rfl (Nat.le_of_ble_eq_true rfl) hd1 h (fun r w11 hK => ?_)
        obtain ⟨rfl, h⟩ := hK
        change WA _ _ _ _ _ _ _ _ _ _ _ [] _ _
        exact WA.vreturn dX9_ifs_99 ⟨rfl, h⟩
  · have h := h.2 hc
    refine WA.aload_n dX9_ifs_12 rfl (by decide) ?_
    refine gxX9_69 rfl rfl dX9_ifs_13 ob_115 ?_
    refine WA.aload_n dX9_ifs_16 rfl (by decide) ?_
    refine gfX9_119 rfl dX9_ifs_17 ob_115 ?_
    obtain ⟨s8, h⟩ := h
    refine WA.iaload dX9_ifs_20 ob_134 s8.1 s8.2 ?_
    refine WA.iconst dX9_ifs_21 ⟨by decide, by decide⟩ ?_
    refine WA.icmp_ne (tgt := 39) dX9_ifs_22 (by decide) (fun hc => ?_) (fun hc => ?_)
    · have h := h.1 hc
      refine WA.aload_n dX9_ifs_39 rfl (by decide) ?_
      refine WA.lload_n dX9_ifs_40 rfl ?_
      obtain ⟨d1, hd1, h⟩ := h
      refine WA.callV1 (kc := 0) (ks := 0) (kc' := 0) (ks' := 0) dX9_ifs_41 lkX9_269 rfl rfl rfl ob_115 rfl (Nat.le_of_ble_eq_true rfl) hd1 h (fun r w12 hK => ?_)
      obtain ⟨rfl, h⟩ := hK
      change WA _ _ _ _ _ _ _ _ _ _ _ [] _ _
      exact WA.vreturn dX9_ifs_44 ⟨rfl, h⟩
    · have h := h.2 hc
      refine WA.aload_n dX9_ifs_25 rfl (by decide) ?_
      refine WA.dup dX9_ifs_26 rfl ?_
      refine gfX9_116 rfl dX9_ifs_27 ob_115 ?_
      refine WA.iconst dX9_ifs_30 ⟨by decide, by decide⟩ ?_
      obtain ⟨s9, h⟩ := h
      refine WA.iadd dX9_ifs_31 s9 ?_
      obtain ⟨w13, qw13⟩ : ∃ z, z = wset w 115 24 ((w 115 24) + 1) := ⟨_, rfl⟩
      have h := h w13 qw13
      refine pfX9_116 rfl dX9_ifs_32 ob_115 ?_
      rw [← qw13]
      refine WA.aload_n dX9_ifs_35 rfl (by decide) ?_
      obtain ⟨d1, hd1, h⟩ := h
      refine WA.callV0 (kc := 0) (ks := 0) (kc' := 0) (ks' := 0) dX9_ifs_36 lkX9_306 rfl rfl rfl ob_115 rfl (Nat.le_of_ble_eq_true rfl) hd1 h (fun r w14 hK => ?_)
      obtain ⟨rfl, h⟩ := hK
      change WA _ _ _ _ _ _ _ _ _ _ _ [] _ _
      refine WA.aload_n dX9_ifs_39 rfl (by decide) ?_
      refine WA.lload_n dX9_ifs_40 rfl ?_
      obtain ⟨d1, hd1, h⟩ := h
      refine WA.callV1 (kc := 0) (ks := 0) (kc' := 0) (ks' := 0) dX9_ifs_41 lkX9_269 rfl rfl rfl ob_115 rfl (Nat.le_of_ble_eq_true rfl) hd1 h (fun r w15 hK => ?_)
      obtain ⟨rfl, h⟩ := hK
      change WA _ _ _ _ _ _ _ _ _ _ _ [] _ _
      exact WA.vreturn dX9_ifs_44 ⟨rfl, h⟩
set_option maxRecDepth 10000 in
theorem v_X9_others_7 {d : Nat} {w : Wd} {K : Int → Wd → Prop} {v1 v2 : Int}  
    (h : C_X9_sign d [.inr (.inr 115)] w (fun x1 w1 => ((¬ x1 = 44 → (∀ w2, w2 = wset w1 115 24 v1 → K v2 w2)) ∧ (x1 = 44 → (-2147483648 ≤ (v2 + 1) ∧ (v2 + 1) ≤ 2147483647) ∧ (-2147483648 ≤ ((w1 115 24) + 1) ∧ ((w1 115 24) + 1) ≤ 2147483647) ∧ (∀ w3, w3 = wset w1 115 24 ((w1 115 24) + 1) → C_X9_skip d [.inr (.inr 115)] w3 (fun w4 => W_X9_others d 7 [some (.inr (.inr 115)), some (.inl v1), some (.inl (v2 + 1))] [] w4 K)))))) :
    W_X9_others d 7 [some (.inr (.inr 115)), some (.inl v1), some (.inl v2)] [] w K := by
  refine WA.aload_n dX9_others_7 rfl (by decide) ?_
  obtain ⟨d1, hd1, h⟩ := h
  refine WA.callV0 (kc := 0) (ks := 0) (kc' := 0) (ks' := 0) dX9_others_8 lkX9_266 rfl rfl rfl ob_115 rfl (Nat.le_of_ble_eq_true rfl) hd1 h (fun r w1 hK => ?_)
  obtain ⟨x1, rfl, h⟩ := hK
  change WA _ _ _ _ _ _ _ _ _ _ _ [.inl x1] _ _
  refine WA.bipush dX9_others_11 ⟨by decide, by decide⟩ ?_
  refine WA.icmp_ne (tgt := 36) dX9_others_13 (by decide) (fun hc => ?_) (fun hc => ?_)
  · have h := h.1 hc
    refine WA.aload_n dX9_others_36 rfl (by decide) ?_
    refine WA.iload_n dX9_others_37 rfl ?_
    obtain ⟨w2, qw2⟩ : ∃ z, z = wset w1 115 24 v1 := ⟨_, rfl⟩
    have h := h w2 qw2
    refine pfX9_116 rfl dX9_others_38 ob_115 ?_
    rw [← qw2]
    refine WA.iload_n dX9_others_41 rfl ?_
    exact WA.ireturn dX9_others_42 ⟨_, rfl, h⟩
  · have h := h.2 hc
    obtain ⟨s1, h⟩ := h
    refine WA.iinc (als' := [some (.inr (.inr 115)), some (.inl v1), some (.inl (v2 + 1))]) dX9_others_16 rfl s1 rfl ?_
    refine WA.aload_n dX9_others_19 rfl (by decide) ?_
    refine WA.dup dX9_others_20 rfl ?_
    refine gfX9_116 rfl dX9_others_21 ob_115 ?_
    refine WA.iconst dX9_others_24 ⟨by decide, by decide⟩ ?_
    obtain ⟨s2, h⟩ := h
    refine WA.iadd dX9_others_25 s2 ?_
    obtain ⟨w3, qw3⟩ : ∃ z, z = wset w1 115 24 ((w1 115 24) + 1) := ⟨_, rfl⟩
    have h := h w3 qw3
    refine pfX9_116 rfl dX9_others_26 ob_115 ?_
    rw [← qw3]
    refine WA.aload_n dX9_others_29 rfl (by decide) ?_
    obtain ⟨d1, hd1, h⟩ := h
    refine WA.callV0 (kc := 0) (ks := 0) (kc' := 0) (ks' := 0) dX9_others_30 lkX9_306 rfl rfl rfl ob_115 rfl (Nat.le_of_ble_eq_true rfl) hd1 h (fun r w4 hK => ?_)
    obtain ⟨rfl, h⟩ := hK
    change WA _ _ _ _ _ _ _ _ _ _ _ [] _ _
    refine WA.goto (tgt := 7) dX9_others_33 (by decide) ?_
    exact h
set_option maxRecDepth 10000 in
theorem e_X9_others {d : Nat} {w : Wd} {K : Int → Wd → Prop}  
    (h : W_X9_others d 7 [some (.inr (.inr 115)), some (.inl (w 115 24)), some (.inl 0)] [] w K) :
    E_X9_others d [.inr (.inr 115)] w K := by
  refine EvA.of (by decide +kernel) (Nat.le_of_ble_eq_true rfl) ?_
  change W_X9_others d 0 [some (.inr (.inr 115)), none, none] [] w K
  refine WA.aload_n dX9_others_0 rfl (by decide) ?_
  refine gfX9_116 rfl dX9_others_1 ob_115 ?_
  refine WA.istore_n (als' := [some (.inr (.inr 115)), some (.inl (w 115 24)), none]) dX9_others_4 (Nat.le_of_ble_eq_true rfl) rfl ?_
  refine WA.iconst dX9_others_5 ⟨by decide, by decide⟩ ?_
  refine WA.istore_n (als' := [some (.inr (.inr 115)), some (.inl (w 115 24)), some (.inl 0)]) dX9_others_6 (Nat.le_of_ble_eq_true rfl) rfl ?_
  exact h
set_option maxRecDepth 10000 in
theorem v_X9_picks_12 {d : Nat} {w : Wd} {K : Wd → Prop} {a1 : Int}  
    (h : C_X9_sign d [.inr (.inr 115)] w (fun x1 w1 => ((¬ x1 = 44 → C_X9_leaves d [.inr (.inr 115), .inr (.inl a1)] w1 (fun w2 => K w2)) ∧ (x1 = 44 → (-2147483648 ≤ ((w1 115 24) + 1) ∧ ((w1 115 24) + 1) ≤ 2147483647) ∧ (∀ w3, w3 = wset w1 115 24 ((w1 115 24) + 1) → C_X9_skip d [.inr (.inr 115)] w3 (fun w4 => W_X9_picks d 12 [some (.inr (.inr 115)), some (.inr (.inl a1)), none, none, none] [] w4 K)))))) :
    W_X9_picks d 12 [some (.inr (.inr 115)), some (.inr (.inl a1)), none, none, none] [] w K := by
  refine WA.aload_n dX9_picks_12 rfl (by decide) ?_
  obtain ⟨d1, hd1, h⟩ := h
  refine WA.callV0 (kc := 0) (ks := 0) (kc' := 0) (ks' := 0) dX9_picks_13 lkX9_266 rfl rfl rfl ob_115 rfl (Nat.le_of_ble_eq_true rfl) hd1 h (fun r w1 hK => ?_)
  obtain ⟨x1, rfl, h⟩ := hK
  change WA _ _ _ _ _ _ _ _ _ _ _ [.inl x1] _ _
  refine WA.bipush dX9_picks_16 ⟨by decide, by decide⟩ ?_
  refine WA.icmp_ne (tgt := 38) dX9_picks_18 (by decide) (fun hc => ?_) (fun hc => ?_)
  · have h := h.1 hc
    refine WA.aload_n dX9_picks_38 rfl (by decide) ?_
    refine WA.lload_n dX9_picks_39 rfl ?_
    obtain ⟨d1, hd1, h⟩ := h
    refine WA.callV1 (kc := 0) (ks := 0) (kc' := 0) (ks' := 0) dX9_picks_40 lkX9_269 rfl rfl rfl ob_115 rfl (Nat.le_of_ble_eq_true rfl) hd1 h (fun r w2 hK => ?_)
    obtain ⟨rfl, h⟩ := hK
    change WA _ _ _ _ _ _ _ _ _ _ _ [] _ _
    exact WA.vreturn dX9_picks_43 ⟨rfl, h⟩
  · have h := h.2 hc
    refine WA.aload_n dX9_picks_21 rfl (by decide) ?_
    refine WA.dup dX9_picks_22 rfl ?_
    refine gfX9_116 rfl dX9_picks_23 ob_115 ?_
    refine WA.iconst dX9_picks_26 ⟨by decide, by decide⟩ ?_
    obtain ⟨s1, h⟩ := h
    refine WA.iadd dX9_picks_27 s1 ?_
    obtain ⟨w3, qw3⟩ : ∃ z, z = wset w1 115 24 ((w1 115 24) + 1) := ⟨_, rfl⟩
    have h := h w3 qw3
    refine pfX9_116 rfl dX9_picks_28 ob_115 ?_
    rw [← qw3]
    refine WA.aload_n dX9_picks_31 rfl (by decide) ?_
    obtain ⟨d1, hd1, h⟩ := h
    refine WA.callV0 (kc := 0) (ks := 0) (kc' := 0) (ks' := 0) dX9_picks_32 lkX9_306 rfl rfl rfl ob_115 rfl (Nat.le_of_ble_eq_true rfl) hd1 h (fun r w4 hK => ?_)
    obtain ⟨rfl, h⟩ := hK
    change WA _ _ _ _ _ _ _ _ _ _ _ [] _ _
    refine WA.goto (tgt := 12) dX9_picks_35 (by decide) ?_
    exact h
set_option maxRecDepth 10000 in
theorem v_X9_picks_78 {d : Nat} {w : Wd} {K : Wd → Prop} {a1 v3 : Int}  
    (h : ((a1 ≤ v3 → (0 ≤ (w 115 23) ∧ (w 115 23) < 40) ∧ (∀ w1, w1 = wset w 134 (w 115 23) 1 → C_X9_frame d [.inr (.inr 115)] w1 (fun w2 => K w2))) ∧ (¬ (a1 ≤ v3) → C_X9_skip d [.inr (.inr 115)] w (fun w3 => (-2147483648 ≤ ((w3 115 24) + 1) ∧ ((w3 115 24) + 1) ≤ 2147483647) ∧ (∀ w4, w4 = wset w3 115 24 ((w3 115 24) + 1) → (-9223372036854775808 ≤ (v3 + 1) ∧ (v3 + 1) ≤ 9223372036854775807) ∧ W_X9_picks d 78 [some (.inr (.inr 115)), some (.inr (.inl a1)), none, some (.inr (.inl (v3 + 1))), none] [] w4 K))))) :
    W_X9_picks d 78 [some (.inr (.inr 115)), some (.inr (.inl a1)), none, some (.inr (.inl v3)), none] [] w K := by
  refine WA.lload_n dX9_picks_78 rfl ?_
  refine WA.lload_n dX9_picks_79 rfl ?_
  refine WA.lcmp_ge (tgt := 105) dX9_picks_80 dX9_picks_81 (by decide) (fun hc => ?_) (fun hc => ?_)
  · have h := h.1 hc
    refine WA.aload_n dX9_picks_105 rfl (by decide) ?_
    refine gxX9_69 rfl rfl dX9_picks_106 ob_115 ?_
    refine WA.aload_n dX9_picks_109 rfl (by decide) ?_
    refine gfX9_119 rfl dX9_picks_110 ob_115 ?_
    refine WA.iconst dX9_picks_113 ⟨by decide, by decide⟩ ?_
    obtain ⟨s1, h⟩ := h
    obtain ⟨w1, qw1⟩ : ∃ z, z = wset w 134 (w 115 23) 1 := ⟨_, rfl⟩
    have h := h w1 qw1
    refine WA.iastore dX9_picks_114 ob_134 s1.1 s1.2 ?_
    rw [← qw1]
    refine WA.aload_n dX9_picks_115 rfl (by decide) ?_
    obtain ⟨d1, hd1, h⟩ := h
    refine WA.callV0 (kc := 0) (ks := 0) (kc' := 0) (ks' := 0) dX9_picks_116 lkX9_249 rfl rfl rfl ob_115 rfl (Nat.le_of_ble_eq_true rfl) hd1 h (fun r w2 hK => ?_)
    obtain ⟨rfl, h⟩ := hK
    change WA _ _ _ _ _ _ _ _ _ _ _ [] _ _
    exact WA.vreturn dX9_picks_119 ⟨rfl, h⟩
  · have h := h.2 hc
    refine WA.aload_n dX9_picks_84 rfl (by decide) ?_
    obtain ⟨d1, hd1, h⟩ := h
    refine WA.callV0 (kc := 0) (ks := 0) (kc' := 0) (ks' := 0) dX9_picks_85 lkX9_306 rfl rfl rfl ob_115 rfl (Nat.le_of_ble_eq_true rfl) hd1 h (fun r w3 hK => ?_)
    obtain ⟨rfl, h⟩ := hK
    change WA _ _ _ _ _ _ _ _ _ _ _ [] _ _
    refine WA.aload_n dX9_picks_88 rfl (by decide) ?_
    refine WA.dup dX9_picks_89 rfl ?_
    refine gfX9_116 rfl dX9_picks_90 ob_115 ?_
    refine WA.iconst dX9_picks_93 ⟨by decide, by decide⟩ ?_
    obtain ⟨s2, h⟩ := h
    refine WA.iadd dX9_picks_94 s2 ?_
    obtain ⟨w4, qw4⟩ : ∃ z, z = wset w3 115 24 ((w3 115 24) + 1) := ⟨_, rfl⟩
    have h := h w4 qw4
    refine pfX9_116 rfl dX9_picks_95 ob_115 ?_
    rw [← qw4]
    refine WA.lload_n dX9_picks_98 rfl ?_
    refine WA.lconst (x := 1) dX9_picks_99 rfl ?_
    obtain ⟨s3, h⟩ := h
    refine WA.ladd dX9_picks_100 s3 ?_
    refine WA.lstore_n (als' := [some (.inr (.inr 115)), some (.inr (.inl a1)), none, some (.inr (.inl (v3 + 1))), none]) dX9_picks_101 (Nat.le_of_ble_eq_true rfl) rfl ?_
    refine WA.goto (tgt := 78) dX9_picks_102 (by decide) ?_
    exact h
set_option maxRecDepth 10000 in
theorem e_X9_picks {d : Nat} {w : Wd} {K : Wd → Prop} {a1 : Int}  
    (h : (0 ≤ (w 115 23) ∧ (w 115 23) < 40) ∧ (((w 134 (w 115 23)) ≤ 0 → ((a1 < 1 → C_X9_fails d [.inr (.inr 115), .inl 3] w (fun w1 => K w1)) ∧ (¬ (a1 < 1) → C_X9_others d [.inr (.inr 115)] w (fun x1 w2 => ((a1 ≤ x1 → (-2147483648 ≤ ((w2 115 24) + 1) ∧ ((w2 115 24) + 1) ≤ 2147483647) ∧ (∀ w3, w3 = wset w2 115 24 ((w2 115 24) + 1) → W_X9_picks d 78 [some (.inr (.inr 115)), some (.inr (.inl a1)), none, some (.inr (.inl 1)), none] [] w3 K)) ∧ (¬ (a1 ≤ x1) → C_X9_fails d [.inr (.inr 115), .inl 3] w2 (fun w4 => K w4))))))) ∧ (¬ ((w 134 (w 115 23)) ≤ 0) → W_X9_picks d 12 [some (.inr (.inr 115)), some (.inr (.inl a1)), none, none, none] [] w K))) :
    E_X9_picks d [.inr (.inr 115), .inr (.inl a1)] w K := by
  refine EvA.of (by decide +kernel) (Nat.le_of_ble_eq_true rfl) ?_
  change W_X9_picks d 0 [some (.inr (.inr 115)), some (.inr (.inl a1)), none, none, none] [] w K
  refine WA.aload_n dX9_picks_0 rfl (by decide) ?_
  refine gxX9_69 rfl rfl dX9_picks_1 ob_115 ?_
  refine WA.aload_n dX9_picks_4 rfl (by decide) ?_
  refine gfX9_119 rfl dX9_picks_5 ob_115 ?_
  obtain ⟨s1, h⟩ := h
  refine WA.iaload dX9_picks_8 ob_134 s1.1 s1.2 ?_
  refine WA.if_le (tgt := 44) dX9_picks_9 (by decide) (fun hc => ?_) (fun hc => ?_)
  · have h := h.1 hc
    refine WA.lload_n dX9_picks_44 rfl ?_
    refine WA.lconst (x := 1) dX9_picks_45 rfl ?_
    refine WA.lcmp_lt (tgt := 60) dX9_picks_46 dX9_picks_47 (by decide) (fun hc => ?_) (fun hc => ?_)
    · have h := h.1 hc
      refine WA.aload_n dX9_picks_60 rfl (by decide) ?_
      refine WA.iconst dX9_picks_61 ⟨by decide, by decide⟩ ?_
      obtain ⟨d1, hd1, h⟩ := h
      refine WA.callV1 (kc := 0) (ks := 0) (kc' := 0) (ks' := 0) dX9_picks_62 lkX9_246 rfl rfl rfl ob_115 rfl (Nat.le_of_ble_eq_true rfl) hd1 h (fun r w1 hK => ?_)
      obtain ⟨rfl, h⟩ := hK
      change WA _ _ _ _ _ _ _ _ _ _ _ [] _ _
      exact WA.vreturn dX9_picks_65 ⟨rfl, h⟩
    · have h := h.2 hc
      refine WA.lload_n dX9_picks_50 rfl ?_
      refine WA.aload_n dX9_picks_51 rfl (by decide) ?_
      obtain ⟨d1, hd1, h⟩ := h
      refine WA.callV0 (kc := 0) (ks := 0) (kc' := 0) (ks' := 0) dX9_picks_52 lkX9_309 rfl rfl rfl ob_115 rfl (Nat.le_of_ble_eq_true rfl) hd1 h (fun r w2 hK => ?_)
      obtain ⟨x1, rfl, h⟩ := hK
      change WA _ _ _ _ _ _ _ _ _ _ _ [.inl x1, .inr (.inl a1)] _ _
      refine WA.i2l dX9_picks_55 ?_
      refine WA.lcmp_le (tgt := 66) dX9_picks_56 dX9_picks_57 (by decide) (fun hc => ?_) (fun hc => ?_)
      · have h := h.1 hc
        refine WA.aload_n dX9_picks_66 rfl (by decide) ?_
        refine WA.dup dX9_picks_67 rfl ?_
        refine gfX9_116 rfl dX9_picks_68 ob_115 ?_
        refine WA.iconst dX9_picks_71 ⟨by decide, by decide⟩ ?_
        obtain ⟨s2, h⟩ := h
        refine WA.iadd dX9_picks_72 s2 ?_
        obtain ⟨w3, qw3⟩ : ∃ z, z = wset w2 115 24 ((w2 115 24) + 1) := ⟨_, rfl⟩
        have h := h w3 qw3
        refine pfX9_116 rfl dX9_picks_73 ob_115 ?_
        rw [← qw3]
        refine WA.lconst (x := 1) dX9_picks_76 rfl ?_
        refine WA.lstore_n (als' := [some (.inr (.inr 115)), some (.inr (.inl a1)), none, some (.inr (.inl 1)), none]) dX9_picks_77 (Nat.le_of_ble_eq_true rfl) rfl ?_
        exact h
      · have h := h.2 hc
        refine WA.aload_n dX9_picks_60 rfl (by decide) ?_
        refine WA.iconst dX9_picks_61 ⟨by decide, by decide⟩ ?_
        obtain ⟨d1, hd1, h⟩ := h
        refine WA.callV1 (kc := 0) (ks := 0) (kc' := 0) (ks' := 0) dX9_picks_62 lkX9_246 rfl rfl rfl ob_115 rfl (Nat.le_of_ble_eq_true rfl) hd1 h (fun r w4 hK => ?_)
        obtain ⟨rfl, h⟩ := hK
        change WA _ _ _ _ _ _ _ _ _ _ _ [] _ _
        exact WA.vreturn dX9_picks_65 ⟨rfl, h⟩
  · have h := h.2 hc
    exact h
set_option maxRecDepth 10000 in
theorem e_X9_floor {d : Nat} {w : Wd} {K : Int → Wd → Prop} {a1 a2 : Int}  
    (h : (a2 ≠ 0 ∧ (-9223372036854775808 ≤ (Int.tdiv a1 a2) ∧ (Int.tdiv a1 a2) ≤ 9223372036854775807)) ∧ (a2 ≠ 0 ∧ (-9223372036854775808 ≤ (Int.tmod a1 a2) ∧ (Int.tmod a1 a2) ≤ 9223372036854775807)) ∧ (((Int.tmod a1 a2) = 0 → K (Int.tdiv a1 a2) w) ∧ (¬ (Int.tmod a1 a2) = 0 → ((0 ≤ a1 → ((0 ≤ a2 → K (Int.tdiv a1 a2) w) ∧ (¬ (0 ≤ a2) → (-9223372036854775808 ≤ ((Int.tdiv a1 a2) - 1) ∧ ((Int.tdiv a1 a2) - 1) ≤ 9223372036854775807) ∧ K ((Int.tdiv a1 a2) - 1) w))) ∧ (¬ (0 ≤ a1) → ((0 ≤ a2 → (-9223372036854775808 ≤ ((Int.tdiv a1 a2) - 1) ∧ ((Int.tdiv a1 a2) - 1) ≤ 9223372036854775807) ∧ K ((Int.tdiv a1 a2) - 1) w) ∧ (¬ (0 ≤ a2) → K (Int.tdiv a1 a2) w))))))) :
    E_X9_floor d [.inr (.inl a1), .inr (.inl a2)] w K := by
  refine EvA.of (by decide +kernel) (Nat.le_of_ble_eq_true rfl) ?_
  change W_X9_floor d 0 [some (.inr (.inl a1)), none, some (.inr (.inl a2)), none, none, none] [] w K
  refine WA.lload_n dX9_floor_0 rfl ?_
  refine WA.lload_n dX9_floor_1 rfl ?_
  obtain ⟨s1, h⟩ := h
  refine WA.ldiv dX9_floor_2 s1.1 s1.2 ?_
  refine WA.lstore (als' := [some (.inr (.inl a1)), none, some (.inr (.inl a2)), none, some (.inr (.inl (Int.tdiv a1 a2))), none]) dX9_floor_3 (Nat.le_of_ble_eq_true rfl) rfl ?_
  refine WA.lload_n dX9_floor_5 rfl ?_
  refine WA.lload_n dX9_floor_6 rfl ?_
  obtain ⟨s2, h⟩ := h
  refine WA.lrem dX9_floor_7 s2.1 s2.2 ?_
  refine WA.lconst (x := 0) dX9_floor_8 rfl ?_
  refine WA.lcmp_eq (tgt := 45) dX9_floor_9 dX9_floor_10 (by decide) (fun hc => ?_) (fun hc => ?_)
  · have h := h.1 hc
    refine WA.lload dX9_floor_45 rfl ?_
    exact WA.lreturn dX9_floor_47 ⟨_, rfl, h⟩
  · have h := h.2 hc
    refine WA.lload_n dX9_floor_13 rfl ?_
    refine WA.lconst (x := 0) dX9_floor_14 rfl ?_
    refine WA.lcmp_ge (tgt := 23) dX9_floor_15 dX9_floor_16 (by decide) (fun hc => ?_) (fun hc => ?_)
    · have h := h.1 hc
      refine WA.iconst dX9_floor_23 ⟨by decide, by decide⟩ ?_
      refine WA.lload_n dX9_floor_24 rfl ?_
      refine WA.lconst (x := 0) dX9_floor_25 rfl ?_
      refine WA.lcmp_ge (tgt := 34) dX9_floor_26 dX9_floor_27 (by decide) (fun hc => ?_) (fun hc => ?_)
      · have h := h.1 hc
        refine WA.iconst dX9_floor_34 ⟨by decide, by decide⟩ ?_
        refine WA.icmp_eq (tgt := 45) dX9_floor_35 (by decide) (fun _ => ?_) (fun hc => absurd hc (by decide))
        refine WA.lload dX9_floor_45 rfl ?_
        exact WA.lreturn dX9_floor_47 ⟨_, rfl, h⟩
      · have h := h.2 hc
        refine WA.iconst dX9_floor_30 ⟨by decide, by decide⟩ ?_
        refine WA.goto (tgt := 35) dX9_floor_31 (by decide) ?_
        refine WA.icmp_eq (tgt := 45) dX9_floor_35 (by decide) (fun hc => absurd hc (by decide)) (fun _ => ?_)
        refine WA.lload dX9_floor_38 rfl ?_
        refine WA.lconst (x := 1) dX9_floor_40 rfl ?_
        obtain ⟨s3, h⟩ := h
        refine WA.lsub dX9_floor_41 s3 ?_
        refine WA.goto (tgt := 47) dX9_floor_42 (by decide) ?_
        exact WA.lreturn dX9_floor_47 ⟨_, rfl, h⟩
    · have h := h.2 hc
      refine WA.iconst dX9_floor_19 ⟨by decide, by decide⟩ ?_
      refine WA.goto (tgt := 24) dX9_floor_20 (by decide) ?_
      refine WA.lload_n dX9_floor_24 rfl ?_
      refine WA.lconst (x := 0) dX9_floor_25 rfl ?_
      refine WA.lcmp_ge (tgt := 34) dX9_floor_26 dX9_floor_27 (by decide) (fun hc => ?_) (fun hc => ?_)
      · have h := h.1 hc
        refine WA.iconst dX9_floor_34 ⟨by decide, by decide⟩ ?_
        refine WA.icmp_eq (tgt := 45) dX9_floor_35 (by decide) (fun hc => absurd hc (by decide)) (fun _ => ?_)
        refine WA.lload dX9_floor_38 rfl ?_
        refine WA.lconst (x := 1) dX9_floor_40 rfl ?_
        obtain ⟨s4, h⟩ := h
        refine WA.lsub dX9_floor_41 s4 ?_
        refine WA.goto (tgt := 47) dX9_floor_42 (by decide) ?_
        exact WA.lreturn dX9_floor_47 ⟨_, rfl, h⟩
      · have h := h.2 hc
        refine WA.iconst dX9_floor_30 ⟨by decide, by decide⟩ ?_
        refine WA.goto (tgt := 35) dX9_floor_31 (by decide) ?_
        refine WA.icmp_eq (tgt := 45) dX9_floor_35 (by decide) (fun _ => ?_) (fun hc => absurd hc (by decide))
        refine WA.lload dX9_floor_45 rfl ?_
        exact WA.lreturn dX9_floor_47 ⟨_, rfl, h⟩
set_option maxRecDepth 10000 in
theorem e_X9_twos {d : Nat} {w : Wd} {K : Wd → Prop} {a1 : Int}  
    (h : (0 ≤ (w 115 23) ∧ (w 115 23) < 40) ∧ ((¬ (w 134 (w 115 23)) = 0 → (0 ≤ (w 115 23) ∧ (w 115 23) < 40) ∧ (0 ≤ (w 115 23) ∧ (w 115 23) < 40) ∧ ((¬ (w 133 (w 115 23)) = 6 → ((¬ a1 = 0 → (0 ≤ (w 115 23) ∧ (w 115 23) < 40) ∧ ((¬ (w 133 (w 115 23)) = 4 → C_X9_floor d [.inr (.inl (w 140 (w 115 23))), .inr (.inl a1)] w (fun x1 w1 => (-9223372036854775808 ≤ (a1 * x1) ∧ (a1 * x1) ≤ 9223372036854775807) ∧ (-9223372036854775808 ≤ ((w 140 (w 115 23)) - (a1 * x1)) ∧ ((w 140 (w 115 23)) - (a1 * x1)) ≤ 9223372036854775807) ∧ C_X9_leaves d [.inr (.inr 115), .inr (.inl ((w 140 (w 115 23)) - (a1 * x1)))] w1 (fun w2 => K w2))) ∧ ((w 133 (w 115 23)) = 4 → C_X9_floor d [.inr (.inl (w 140 (w 115 23))), .inr (.inl a1)] w (fun x2 w3 => C_X9_leaves d [.inr (.inr 115), .inr (.inl x2)] w3 (fun w4 => K w4))))) ∧ (a1 = 0 → C_X9_fails d [.inr (.inr 115), .inl 2] w (fun w5 => K w5)))) ∧ ((w 133 (w 115 23)) = 6 → (((w 140 (w 115 23)) < 0 → C_X9_fails d [.inr (.inr 115), .inl 3] w (fun w6 => K w6)) ∧ (¬ ((w 140 (w 115 23)) < 0) → ((7 < (w 140 (w 115 23)) → C_X9_fails d [.inr (.inr 115), .inl 3] w (fun w7 => K w7)) ∧ (¬ (7 < (w 140 (w 115 23))) → ((a1 < 0 → C_X9_fails d [.inr (.inr 115), .inl 3] w (fun w8 => K w8)) ∧ (¬ (a1 < 0) → ((a1 ≤ 8 → (-9223372036854775808 ≤ (8 * a1) ∧ (8 * a1) ≤ 9223372036854775807) ∧ (-9223372036854775808 ≤ ((8 * a1) + (w 140 (w 115 23))) ∧ ((8 * a1) + (w 140 (w 115 23))) ≤ 9223372036854775807) ∧ (-2147483648 ≤ ((8 * a1) + (w 140 (w 115 23))) ∧ ((8 * a1) + (w 140 (w 115 23))) ≤ 2147483647) ∧ C_X9_reading d [.inr (.inr 115), .inl ((8 * a1) + (w 140 (w 115 23)))] w (fun x3 w9 => C_X9_goesOn d [.inr (.inr 115)] w9 (fun x4 w10 => ((x4 = 0 → K w10) ∧ (¬ x4 = 0 → C_X9_leaves d [.inr (.inr 115), .inr (.inl x3)] w10 (fun w11 => K w11)))))) ∧ (¬ (a1 ≤ 8) → C_X9_fails d [.inr (.inr 115), .inl 3] w (fun w12 => K w12)))))))))))) ∧ ((w 134 (w 115 23)) = 0 → (0 ≤ (w 115 23) ∧ (w 115 23) < 40) ∧ (∀ w13, w13 = wset w 140 (w 115 23) a1 → (0 ≤ (w13 115 23) ∧ (w13 115 23) < 40) ∧ (∀ w14, w14 = wset w13 134 (w13 115 23) 1 → (-2147483648 ≤ ((w14 115 24) + 1) ∧ ((w14 115 24) + 1) ≤ 2147483647) ∧ (∀ w15, w15 = wset w14 115 24 ((w14 115 24) + 1) → C_X9_frame d [.inr (.inr 115)] w15 (fun w16 => K w16))))))) :
    E_X9_twos d [.inr (.inr 115), .inr (.inl a1)] w K := by
  refine EvA.of (by decide +kernel) (Nat.le_of_ble_eq_true rfl) ?_
  change W_X9_twos d 0 [some (.inr (.inr 115)), some (.inr (.inl a1)), none, none, none, none, none] [] w K
  refine WA.aload_n dX9_twos_0 rfl (by decide) ?_
  refine gxX9_69 rfl rfl dX9_twos_1 ob_115 ?_
  refine WA.aload_n dX9_twos_4 rfl (by decide) ?_
  refine gfX9_119 rfl dX9_twos_5 ob_115 ?_
  obtain ⟨s1, h⟩ := h
  refine WA.iaload dX9_twos_8 ob_134 s1.1 s1.2 ?_
  refine WA.if_ne (tgt := 47) dX9_twos_9 (by decide) (fun hc => ?_) (fun hc => ?_)
  · have h := h.1 hc
    refine WA.aload_n dX9_twos_47 rfl (by decide) ?_
    refine gxX9_88 rfl rfl dX9_twos_48 ob_115 ?_
    refine WA.aload_n dX9_twos_51 rfl (by decide) ?_
    refine gfX9_119 rfl dX9_twos_52 ob_115 ?_
    obtain ⟨s2, h⟩ := h
    refine WA.laload dX9_twos_55 ob_140 s2.1 s2.2 ?_
    refine WA.lstore_n (als' := [some (.inr (.inr 115)), some (.inr (.inl a1)), none, some (.inr (.inl (w 140 (w 115 23)))), none, none, none]) dX9_twos_56 (Nat.le_of_ble_eq_true rfl) rfl ?_
    refine WA.aload_n dX9_twos_57 rfl (by decide) ?_
    refine gxX9_66 rfl rfl dX9_twos_58 ob_115 ?_
    refine WA.aload_n dX9_twos_61 rfl (by decide) ?_
    refine gfX9_119 rfl dX9_twos_62 ob_115 ?_
    obtain ⟨s3, h⟩ := h
    refine WA.iaload dX9_twos_65 ob_133 s3.1 s3.2 ?_
    refine WA.bipush dX9_twos_66 ⟨by decide, by decide⟩ ?_
    refine WA.icmp_ne (tgt := 133) dX9_twos_68 (by decide) (fun hc => ?_) (fun hc => ?_)
    · have h := h.1 hc
      refine WA.lload_n dX9_twos_133 rfl ?_
      refine WA.lconst (x := 0) dX9_twos_134 rfl ?_
      refine WA.lcmp_ne (tgt := 145) dX9_twos_135 dX9_twos_136 (by decide) (fun hc => ?_) (fun hc => ?_)
      · have h := h.1 hc
        refine WA.aload_n dX9_twos_145 rfl (by decide) ?_
        refine WA.aload_n dX9_twos_146 rfl (by decide) ?_
        refine gxX9_66 rfl rfl dX9_twos_147 ob_115 ?_
        refine WA.aload_n dX9_twos_150 rfl (by decide) ?_
        refine gfX9_119 rfl dX9_twos_151 ob_115 ?_
        obtain ⟨s4, h⟩ := h
        refine WA.iaload dX9_twos_154 ob_133 s4.1 s4.2 ?_
        refine WA.iconst dX9_twos_155 ⟨by decide, by decide⟩ ?_
        refine WA.icmp_ne (tgt := 167) dX9_twos_156 (by decide) (fun hc => ?_) (fun hc => ?_)
        · have h := h.1 hc
          refine WA.lload_n dX9_twos_167 rfl ?_
          refine WA.lload_n dX9_twos_168 rfl ?_
          refine WA.lload_n dX9_twos_169 rfl ?_
          refine WA.lload_n dX9_twos_170 rfl ?_
          obtain ⟨d1, hd1, h⟩ := h
          refine WA.callS2 (kc := 0) (ks := 0) (kc' := 0) (ks' := 0) dX9_twos_171 lkX9_316 rfl rfl rfl (Nat.le_of_ble_eq_true rfl) hd1 h (fun r w1 hK => ?_)
          obtain ⟨x1, rfl, h⟩ := hK
          change WA _ _ _ _ _ _ _ _ _ _ _ [.inr (.inl x1), .inr (.inl a1), .inr (.inl (w 140 (w 115 23))), .inr (.inr 115)] _ _
          obtain ⟨s5, h⟩ := h
          refine WA.lmul dX9_twos_174 s5 ?_
          obtain ⟨s6, h⟩ := h
          refine WA.lsub dX9_twos_175 s6 ?_
          obtain ⟨d1, hd1, h⟩ := h
          refine WA.callV1 (kc := 0) (ks := 0) (kc' := 0) (ks' := 0) dX9_twos_176 lkX9_269 rfl rfl rfl ob_115 rfl (Nat.le_of_ble_eq_true rfl) hd1 h (fun r w2 hK => ?_)
          obtain ⟨rfl, h⟩ := hK
          change WA _ _ _ _ _ _ _ _ _ _ _ [] _ _
          exact WA.vreturn dX9_twos_179 ⟨rfl, h⟩
        · have h := h.2 hc
          refine WA.lload_n dX9_twos_159 rfl ?_
          refine WA.lload_n dX9_twos_160 rfl ?_
          obtain ⟨d1, hd1, h⟩ := h
          refine WA.callS2 (kc := 0) (ks := 0) (kc' := 0) (ks' := 0) dX9_twos_161 lkX9_316 rfl rfl rfl (Nat.le_of_ble_eq_true rfl) hd1 h (fun r w3 hK => ?_)
          obtain ⟨x2, rfl, h⟩ := hK
          change WA _ _ _ _ _ _ _ _ _ _ _ [.inr (.inl x2), .inr (.inr 115)] _ _
          refine WA.goto (tgt := 176) dX9_twos_164 (by decide) ?_
          obtain ⟨d1, hd1, h⟩ := h
          refine WA.callV1 (kc := 0) (ks := 0) (kc' := 0) (ks' := 0) dX9_twos_176 lkX9_269 rfl rfl rfl ob_115 rfl (Nat.le_of_ble_eq_true rfl) hd1 h (fun r w4 hK => ?_)
          obtain ⟨rfl, h⟩ := hK
          change WA _ _ _ _ _ _ _ _ _ _ _ [] _ _
          exact WA.vreturn dX9_twos_179 ⟨rfl, h⟩
      · have h := h.2 hc
        refine WA.aload_n dX9_twos_139 rfl (by decide) ?_
        refine WA.iconst dX9_twos_140 ⟨by decide, by decide⟩ ?_
        obtain ⟨d1, hd1, h⟩ := h
        refine WA.callV1 (kc := 0) (ks := 0) (kc' := 0) (ks' := 0) dX9_twos_141 lkX9_246 rfl rfl rfl ob_115 rfl (Nat.le_of_ble_eq_true rfl) hd1 h (fun r w5 hK => ?_)
        obtain ⟨rfl, h⟩ := hK
        change WA _ _ _ _ _ _ _ _ _ _ _ [] _ _
        exact WA.vreturn dX9_twos_144 ⟨rfl, h⟩
    · have h := h.2 hc
      refine WA.lload_n dX9_twos_71 rfl ?_
      refine WA.lconst (x := 0) dX9_twos_72 rfl ?_
      refine WA.lcmp_lt (tgt := 99) dX9_twos_73 dX9_twos_74 (by decide) (fun hc => ?_) (fun hc => ?_)
      · have h := h.1 hc
        refine WA.aload_n dX9_twos_99 rfl (by decide) ?_
        refine WA.iconst dX9_twos_100 ⟨by decide, by decide⟩ ?_
        obtain ⟨d1, hd1, h⟩ := h
        refine WA.callV1 (kc := 0) (ks := 0) (kc' := 0) (ks' := 0) dX9_twos_101 lkX9_246 rfl rfl rfl ob_115 rfl (Nat.le_of_ble_eq_true rfl) hd1 h (fun r w6 hK => ?_)
        obtain ⟨rfl, h⟩ := hK
        change WA _ _ _ _ _ _ _ _ _ _ _ [] _ _
        exact WA.vreturn dX9_twos_104 ⟨rfl, h⟩
      · have h := h.2 hc
        refine WA.lload_n dX9_twos_77 rfl ?_
        refine WA.ldc2 (v := 7) (x := 7) dX9_twos_78 (am_mem 1156 (by decide +kernel) rfl) (by decide) ?_
        refine WA.lcmp_gt (tgt := 99) dX9_twos_81 dX9_twos_82 (by decide) (fun hc => ?_) (fun hc => ?_)
        · have h := h.1 hc
          refine WA.aload_n dX9_twos_99 rfl (by decide) ?_
          refine WA.iconst dX9_twos_100 ⟨by decide, by decide⟩ ?_
          obtain ⟨d1, hd1, h⟩ := h
          refine WA.callV1 (kc := 0) (ks := 0) (kc' := 0) (ks' := 0) dX9_twos_101 lkX9_246 rfl rfl rfl ob_115 rfl (Nat.le_of_ble_eq_true rfl) hd1 h (fun r w7 hK => ?_)
          obtain ⟨rfl, h⟩ := hK
          change WA _ _ _ _ _ _ _ _ _ _ _ [] _ _
          exact WA.vreturn dX9_twos_104 ⟨rfl, h⟩
        · have h := h.2 hc
          refine WA.lload_n dX9_twos_85 rfl ?_
          refine WA.lconst (x := 0) dX9_twos_86 rfl ?_
          refine WA.lcmp_lt (tgt := 99) dX9_twos_87 dX9_twos_88 (by decide) (fun hc => ?_) (fun hc => ?_)
          · have h := h.1 hc
            refine WA.aload_n dX9_twos_99 rfl (by decide) ?_
            refine WA.iconst dX9_twos_100 ⟨by decide, by decide⟩ ?_
            obtain ⟨d1, hd1, h⟩ := h
            refine WA.callV1 (kc := 0) (ks := 0) (kc' := 0) (ks' := 0) dX9_twos_101 lkX9_246 rfl rfl rfl ob_115 rfl (Nat.le_of_ble_eq_true rfl) hd1 h (fun r w8 hK => ?_)
            obtain ⟨rfl, h⟩ := hK
            change WA _ _ _ _ _ _ _ _ _ _ _ [] _ _
            exact WA.vreturn dX9_twos_104 ⟨rfl, h⟩
          · have h := h.2 hc
            refine WA.lload_n dX9_twos_91 rfl ?_
            refine WA.ldc2 (v := 8) (x := 8) dX9_twos_92 (am_mem 1157 (by decide +kernel) rfl) (by decide) ?_
            refine WA.lcmp_le (tgt := 105) dX9_twos_95 dX9_twos_96 (by decide) (fun hc => ?_) (fun hc => ?_)
            · have h := h.1 hc
              refine WA.aload_n dX9_twos_105 rfl (by decide) ?_
              refine WA.ldc2 (v := 8) (x := 8) dX9_twos_106 (am_mem 1157 (by decide +kernel) rfl) (by decide) ?_
              refine WA.lload_n dX9_twos_109 rfl ?_
              obtain ⟨s7, h⟩ := h
              refine WA.lmul dX9_twos_110 s7 ?_
              refine WA.lload_n dX9_twos_111 rfl ?_
              obtain ⟨s8, h⟩ := h
              refine WA.ladd dX9_twos_112 s8 ?_
              obtain ⟨s9, h⟩ := h
              refine WA.l2i dX9_twos_113 s9 ?_
              obtain ⟨d1, hd1, h⟩ := h
              refine WA.callV1 (kc := 0) (ks := 0) (kc' := 0) (ks' := 0) dX9_twos_114 lkX9_278 rfl rfl rfl ob_115 rfl (Nat.le_of_ble_eq_true rfl) hd1 h (fun r w9 hK => ?_)
              obtain ⟨x3, rfl, h⟩ := hK
              change WA _ _ _ _ _ _ _ _ _ _ _ [.inr (.inl x3)] _ _
              refine WA.lstore (als' := [some (.inr (.inr 115)), some (.inr (.inl a1)), none, some (.inr (.inl (w 140 (w 115 23)))), none, some (.inr (.inl x3)), none]) dX9_twos_117 (Nat.le_of_ble_eq_true rfl) rfl ?_
              refine WA.aload_n dX9_twos_119 rfl (by decide) ?_
              obtain ⟨d1, hd1, h⟩ := h
              refine WA.callV0 (kc := 0) (ks := 0) (kc' := 0) (ks' := 0) dX9_twos_120 lkX9_275 rfl rfl rfl ob_115 rfl (Nat.le_of_ble_eq_true rfl) hd1 h (fun r w10 hK => ?_)
              obtain ⟨x4, rfl, h⟩ := hK
              change WA _ _ _ _ _ _ _ _ _ _ _ [.inl x4] _ _
              refine WA.if_eq (tgt := 132) dX9_twos_123 (by decide) (fun hc => ?_) (fun hc => ?_)
              · have h := h.1 hc
                exact WA.vreturn dX9_twos_132 ⟨rfl, h⟩
              · have h := h.2 hc
                refine WA.aload_n dX9_twos_126 rfl (by decide) ?_
                refine WA.lload dX9_twos_127 rfl ?_
                obtain ⟨d1, hd1, h⟩ := h
                refine WA.callV1 (kc := 0) (ks := 0) (kc' := 0) (ks' := 0) dX9_twos_129 lkX9_269 rfl rfl rfl ob_115 rfl (Nat.le_of_ble_eq_true rfl) hd1 h (fun r w11 hK => ?_)
                obtain ⟨rfl, h⟩ := hK
                change WA _ _ _ _ _ _ _ _ _ _ _ [] _ _
                exact WA.vreturn dX9_twos_132 ⟨rfl, h⟩
            · have h := h.2 hc
              refine WA.aload_n dX9_twos_99 rfl (by decide) ?_
              refine WA.iconst dX9_twos_100 ⟨by decide, by decide⟩ ?_
              obtain ⟨d1, hd1, h⟩ := h
              refine WA.callV1 (kc := 0) (ks := 0) (kc' := 0) (ks' := 0) dX9_twos_101 lkX9_246 rfl rfl rfl ob_115 rfl (Nat.le_of_ble_eq_true rfl) hd1 h (fun r w12 hK => ?_)
              obtain ⟨rfl, h⟩ := hK
              change WA _ _ _ _ _ _ _ _ _ _ _ [] _ _
              exact WA.vreturn dX9_twos_104 ⟨rfl, h⟩
  · have h := h.2 hc
    refine WA.aload_n dX9_twos_12 rfl (by decide) ?_
    refine gxX9_88 rfl rfl dX9_twos_13 ob_115 ?_
    refine WA.aload_n dX9_twos_16 rfl (by decide) ?_
    refine gfX9_119 rfl dX9_twos_17 ob_115 ?_
    refine WA.lload_n dX9_twos_20 rfl ?_
    obtain ⟨s10, h⟩ := h
    obtain ⟨w13, qw13⟩ : ∃ z, z = wset w 140 (w 115 23) a1 := ⟨_, rfl⟩
    have h := h w13 qw13
    refine WA.lastore dX9_twos_21 ob_140 s10.1 s10.2 ?_
    rw [← qw13]
    refine WA.aload_n dX9_twos_22 rfl (by decide) ?_
    refine gxX9_69 rfl rfl dX9_twos_23 ob_115 ?_
    refine WA.aload_n dX9_twos_26 rfl (by decide) ?_
    refine gfX9_119 rfl dX9_twos_27 ob_115 ?_
    refine WA.iconst dX9_twos_30 ⟨by decide, by decide⟩ ?_
    obtain ⟨s11, h⟩ := h
    obtain ⟨w14, qw14⟩ : ∃ z, z = wset w13 134 (w13 115 23) 1 := ⟨_, rfl⟩
    have h := h w14 qw14
    refine WA.iastore dX9_twos_31 ob_134 s11.1 s11.2 ?_
    rw [← qw14]
    refine WA.aload_n dX9_twos_32 rfl (by decide) ?_
    refine WA.dup dX9_twos_33 rfl ?_
    refine gfX9_116 rfl dX9_twos_34 ob_115 ?_
    refine WA.iconst dX9_twos_37 ⟨by decide, by decide⟩ ?_
    obtain ⟨s12, h⟩ := h
    refine WA.iadd dX9_twos_38 s12 ?_
    obtain ⟨w15, qw15⟩ : ∃ z, z = wset w14 115 24 ((w14 115 24) + 1) := ⟨_, rfl⟩
    have h := h w15 qw15
    refine pfX9_116 rfl dX9_twos_39 ob_115 ?_
    rw [← qw15]
    refine WA.aload_n dX9_twos_42 rfl (by decide) ?_
    obtain ⟨d1, hd1, h⟩ := h
    refine WA.callV0 (kc := 0) (ks := 0) (kc' := 0) (ks' := 0) dX9_twos_43 lkX9_249 rfl rfl rfl ob_115 rfl (Nat.le_of_ble_eq_true rfl) hd1 h (fun r w16 hK => ?_)
    obtain ⟨rfl, h⟩ := hK
    change WA _ _ _ _ _ _ _ _ _ _ _ [] _ _
    exact WA.vreturn dX9_twos_46 ⟨rfl, h⟩
set_option maxRecDepth 10000 in
theorem e_X9_closes {d : Nat} {w : Wd} {K : Wd → Prop}  
    (h : C_X9_sign d [.inr (.inr 115)] w (fun x1 w1 => ((¬ x1 = 42 → C_X9_folds d [.inr (.inr 115)] w1 (fun w2 => (((w2 115 40) ≤ 0 → ((x1 = 43 → ((¬ x1 = 43 → (0 ≤ (w2 115 23) ∧ (w2 115 23) < 40) ∧ (∀ w3, w3 = wset w2 139 (w2 115 23) (-1) → (-2147483648 ≤ ((w3 115 24) + 1) ∧ ((w3 115 24) + 1) ≤ 2147483647) ∧ (∀ w4, w4 = wset w3 115 24 ((w3 115 24) + 1) → (∀ w5, w5 = wset w4 115 26 1 → K w5)))) ∧ (x1 = 43 → (0 ≤ (w2 115 23) ∧ (w2 115 23) < 40) ∧ (∀ w6, w6 = wset w2 139 (w2 115 23) 1 → (-2147483648 ≤ ((w6 115 24) + 1) ∧ ((w6 115 24) + 1) ≤ 2147483647) ∧ (∀ w7, w7 = wset w6 115 24 ((w6 115 24) + 1) → (∀ w8, w8 = wset w7 115 26 1 → K w8)))))) ∧ (¬ x1 = 43 → ((¬ x1 = 45 → (0 ≤ (w2 115 23) ∧ (w2 115 23) < 40) ∧ (0 ≤ (w2 115 23) ∧ (w2 115 23) < 40) ∧ (((w2 133 (w2 115 23)) = 0 → (∀ w9, w9 = wset w2 115 41 (w2 138 (w2 115 23)) → (∀ w10, w10 = wset w9 115 38 1 → K w10))) ∧ (((w2 133 (w2 115 23)) = 1 → C_X9_leaves d [.inr (.inr 115), .inr (.inl (w2 138 (w2 115 23)))] w2 (fun w11 => K w11)) ∧ (((w2 133 (w2 115 23)) = 2 → C_X9_ifs d [.inr (.inr 115), .inr (.inl (w2 138 (w2 115 23)))] w2 (fun w12 => K w12)) ∧ (((w2 133 (w2 115 23)) = 3 → C_X9_picks d [.inr (.inr 115), .inr (.inl (w2 138 (w2 115 23)))] w2 (fun w13 => K w13)) ∧ (((w2 133 (w2 115 23)) = 4 → C_X9_twos d [.inr (.inr 115), .inr (.inl (w2 138 (w2 115 23)))] w2 (fun w14 => K w14)) ∧ (((w2 133 (w2 115 23)) = 5 → C_X9_twos d [.inr (.inr 115), .inr (.inl (w2 138 (w2 115 23)))] w2 (fun w15 => K w15)) ∧ (((w2 133 (w2 115 23)) = 6 → C_X9_twos d [.inr (.inr 115), .inr (.inl (w2 138 (w2 115 23)))] w2 (fun w16 => K w16)) ∧ ((w2 133 (w2 115 23)) < 0 ∨ 6 < (w2 133 (w2 115 23)) → C_X9_takes d [.inr (.inr 115), .inr (.inl (w2 138 (w2 115 23)))] w2 (fun w17 => C_X9_goesOn d [.inr (.inr 115)] w17 (fun x2 w18 => ((x2 = 0 → K w18) ∧ (¬ x2 = 0 → C_X9_nextPart d [.inr (.inr 115)] w18 (fun w19 => K w19)))))))))))))) ∧ (x1 = 45 → ((¬ x1 = 43 → (0 ≤ (w2 115 23) ∧ (w2 115 23) < 40) ∧ (∀ w20, w20 = wset w2 139 (w2 115 23) (-1) → (-2147483648 ≤ ((w20 115 24) + 1) ∧ ((w20 115 24) + 1) ≤ 2147483647) ∧ (∀ w21, w21 = wset w20 115 24 ((w20 115 24) + 1) → (∀ w22, w22 = wset w21 115 26 1 → K w22)))) ∧ (x1 = 43 → (0 ≤ (w2 115 23) ∧ (w2 115 23) < 40) ∧ (∀ w23, w23 = wset w2 139 (w2 115 23) 1 → (-2147483648 ≤ ((w23 115 24) + 1) ∧ ((w23 115 24) + 1) ≤ 2147483647) ∧ (∀ w24, w24 = wset w23 115 24 ((w23 115 24) + 1) → (∀ w25, w25 = wset w24 115 26 1 → K w25)))))))))) ∧ (¬ ((w2 115 40) ≤ 0) → K w2)))) ∧ (x1 = 42 → (-2147483648 ≤ ((w1 115 24) + 1) ∧ ((w1 115 24) + 1) ≤ 2147483647) ∧ (∀ w26, w26 = wset w1 115 24 ((w1 115 24) + 1) → (∀ w27, w27 = wset w26 115 26 1 → K w27)))))) :
    E_X9_closes d [.inr (.inr 115)] w K := by
  refine EvA.of (by decide +kernel) (Nat.le_of_ble_eq_true rfl) ?_
  change W_X9_closes d 0 [some (.inr (.inr 115)), none, none, none] [] w K
  refine WA.aload_n dX9_closes_0 rfl (by decide) ?_
  obtain ⟨d1, hd1, h⟩ := h
  refine WA.callV0 (kc := 0) (ks := 0) (kc' := 0) (ks' := 0) dX9_closes_1 lkX9_266 rfl rfl rfl ob_115 rfl (Nat.le_of_ble_eq_true rfl) hd1 h (fun r w1 hK => ?_)
  obtain ⟨x1, rfl, h⟩ := hK
  change WA _ _ _ _ _ _ _ _ _ _ _ [.inl x1] _ _
  refine WA.istore_n (als' := [some (.inr (.inr 115)), some (.inl x1), none, none]) dX9_closes_4 (Nat.le_of_ble_eq_true rfl) rfl ?_
  refine WA.iload_n dX9_closes_5 rfl ?_
  refine WA.bipush dX9_closes_6 ⟨by decide, by decide⟩ ?_
  refine WA.icmp_ne (tgt := 27) dX9_closes_8 (by decide) (fun hc => ?_) (fun hc => ?_)
  · have h := h.1 hc
    refine WA.aload_n dX9_closes_27 rfl (by decide) ?_
    obtain ⟨d1, hd1, h⟩ := h
    refine WA.callV0 (kc := 0) (ks := 0) (kc' := 0) (ks' := 0) dX9_closes_28 lkX9_320 rfl rfl rfl ob_115 rfl (Nat.le_of_ble_eq_true rfl) hd1 h (fun r w2 hK => ?_)
    obtain ⟨rfl, h⟩ := hK
    change WA _ _ _ _ _ _ _ _ _ _ _ [] _ _
    refine WA.aload_n dX9_closes_31 rfl (by decide) ?_
    refine gfX9_239 rfl dX9_closes_32 ob_115 ?_
    refine WA.if_le (tgt := 39) dX9_closes_35 (by decide) (fun hc => ?_) (fun hc => ?_)
    · have h := h.1 hc
      refine WA.iload_n dX9_closes_39 rfl ?_
      refine WA.bipush dX9_closes_40 ⟨by decide, by decide⟩ ?_
      refine WA.icmp_eq (tgt := 51) dX9_closes_42 (by decide) (fun hc => ?_) (fun hc => ?_)
      · have h := h.1 hc
        refine WA.aload_n dX9_closes_51 rfl (by decide) ?_
        refine gxX9_85 rfl rfl dX9_closes_52 ob_115 ?_
        refine WA.aload_n dX9_closes_55 rfl (by decide) ?_
        refine gfX9_119 rfl dX9_closes_56 ob_115 ?_
        refine WA.iload_n dX9_closes_59 rfl ?_
        refine WA.bipush dX9_closes_60 ⟨by decide, by decide⟩ ?_
        refine WA.icmp_ne (tgt := 69) dX9_closes_62 (by decide) (fun hc => ?_) (fun hc => ?_)
        · have h := h.1 hc
          refine WA.iconst dX9_closes_69 ⟨by decide, by decide⟩ ?_
          obtain ⟨s1, h⟩ := h
          obtain ⟨w3, qw3⟩ : ∃ z, z = wset w2 139 (w2 115 23) (-1) := ⟨_, rfl⟩
          have h := h w3 qw3
          refine WA.iastore dX9_closes_70 ob_139 s1.1 s1.2 ?_
          rw [← qw3]
          refine WA.aload_n dX9_closes_71 rfl (by decide) ?_
          refine WA.dup dX9_closes_72 rfl ?_
          refine gfX9_116 rfl dX9_closes_73 ob_115 ?_
          refine WA.iconst dX9_closes_76 ⟨by decide, by decide⟩ ?_
          obtain ⟨s2, h⟩ := h
          refine WA.iadd dX9_closes_77 s2 ?_
          obtain ⟨w4, qw4⟩ : ∃ z, z = wset w3 115 24 ((w3 115 24) + 1) := ⟨_, rfl⟩
          have h := h w4 qw4
          refine pfX9_116 rfl dX9_closes_78 ob_115 ?_
          rw [← qw4]
          refine WA.aload_n dX9_closes_81 rfl (by decide) ?_
          refine WA.iconst dX9_closes_82 ⟨by decide, by decide⟩ ?_
          obtain ⟨w5, qw5⟩ : ∃ z, z = wset w4 115 26 1 := ⟨_, rfl⟩
          have h := h w5 qw5
          refine pfX9_182 rfl dX9_closes_83 ob_115 (by decide) ?_
          rw [← qw5]
          exact WA.vreturn dX9_closes_86 ⟨rfl, h⟩
        · have h := h.2 hc
          refine WA.iconst dX9_closes_65 ⟨by decide, by decide⟩ ?_
          refine WA.goto (tgt := 70) dX9_closes_66 (by decide) ?_
          obtain ⟨s3, h⟩ := h
          obtain ⟨w6, qw6⟩ : ∃ z, z = wset w2 139 (w2 115 23) 1 := ⟨_, rfl⟩
          have h := h w6 qw6
          refine WA.iastore dX9_closes_70 ob_139 s3.1 s3.2 ?_
          rw [← qw6]
          refine WA.aload_n dX9_closes_71 rfl (by decide) ?_
          refine WA.dup dX9_closes_72 rfl ?_
          refine gfX9_116 rfl dX9_closes_73 ob_115 ?_
          refine WA.iconst dX9_closes_76 ⟨by decide, by decide⟩ ?_
          obtain ⟨s4, h⟩ := h
          refine WA.iadd dX9_closes_77 s4 ?_
          obtain ⟨w7, qw7⟩ : ∃ z, z = wset w6 115 24 ((w6 115 24) + 1) := ⟨_, rfl⟩
          have h := h w7 qw7
          refine pfX9_116 rfl dX9_closes_78 ob_115 ?_
          rw [← qw7]
          refine WA.aload_n dX9_closes_81 rfl (by decide) ?_
          refine WA.iconst dX9_closes_82 ⟨by decide, by decide⟩ ?_
          obtain ⟨w8, qw8⟩ : ∃ z, z = wset w7 115 26 1 := ⟨_, rfl⟩
          have h := h w8 qw8
          refine pfX9_182 rfl dX9_closes_83 ob_115 (by decide) ?_
          rw [← qw8]
          exact WA.vreturn dX9_closes_86 ⟨rfl, h⟩
      · have h := h.2 hc
        refine WA.iload_n dX9_closes_45 rfl ?_
        refine WA.bipush dX9_closes_46 ⟨by decide, by decide⟩ ?_
        refine WA.icmp_ne (tgt := 87) dX9_closes_48 (by decide) (fun hc => ?_) (fun hc => ?_)
        · have h := h.1 hc
          refine WA.aload_n dX9_closes_87 rfl (by decide) ?_
          refine gxX9_82 rfl rfl dX9_closes_88 ob_115 ?_
          refine WA.aload_n dX9_closes_91 rfl (by decide) ?_
          refine gfX9_119 rfl dX9_closes_92 ob_115 ?_
          obtain ⟨s5, h⟩ := h
          refine WA.laload dX9_closes_95 ob_138 s5.1 s5.2 ?_
          refine WA.lstore_n (als' := [some (.inr (.inr 115)), some (.inl x1), some (.inr (.inl (w2 138 (w2 115 23)))), none]) dX9_closes_96 (Nat.le_of_ble_eq_true rfl) rfl ?_
          refine WA.aload_n dX9_closes_97 rfl (by decide) ?_
          refine gxX9_66 rfl rfl dX9_closes_98 ob_115 ?_
          refine WA.aload_n dX9_closes_101 rfl (by decide) ?_
          refine gfX9_119 rfl dX9_closes_102 ob_115 ?_
          obtain ⟨s6, h⟩ := h
          refine WA.iaload dX9_closes_105 ob_133 s6.1 s6.2 ?_
          by_cases hc : (w2 133 (w2 115 23)) = 0
          · have h := h.1 hc
            refine WA.tableIn (tgt := 148) dX9_closes_106 (by rw [hc]; decide) (by rw [hc]; decide) (by rw [hc]; rfl) (by decide) ?_
            refine WA.aload_n dX9_closes_148 rfl (by decide) ?_
            refine WA.lload_n dX9_closes_149 rfl ?_
            obtain ⟨w9, qw9⟩ : ∃ z, z = wset w2 115 41 (w2 138 (w2 115 23)) := ⟨_, rfl⟩
            have h := h w9 qw9
            refine pfX9_323 rfl dX9_closes_150 ob_115 ?_
            rw [← qw9]
            refine WA.aload_n dX9_closes_153 rfl (by decide) ?_
            refine WA.iconst dX9_closes_154 ⟨by decide, by decide⟩ ?_
            obtain ⟨w10, qw10⟩ : ∃ z, z = wset w9 115 38 1 := ⟨_, rfl⟩
            have h := h w10 qw10
            refine pfX9_327 rfl dX9_closes_155 ob_115 (by decide) ?_
            rw [← qw10]
            refine WA.goto (tgt := 209) dX9_closes_158 (by decide) ?_
            exact WA.vreturn dX9_closes_209 ⟨rfl, h⟩
          · have h := h.2
            have n0 := hc
            by_cases hc : (w2 133 (w2 115 23)) = 1
            · have h := h.1 hc
              refine WA.tableIn (tgt := 161) dX9_closes_106 (by rw [hc]; decide) (by rw [hc]; decide) (by rw [hc]; rfl) (by decide) ?_
              refine WA.aload_n dX9_closes_161 rfl (by decide) ?_
              refine WA.lload_n dX9_closes_162 rfl ?_
              obtain ⟨d1, hd1, h⟩ := h
              refine WA.callV1 (kc := 0) (ks := 0) (kc' := 0) (ks' := 0) dX9_closes_163 lkX9_269 rfl rfl rfl ob_115 rfl (Nat.le_of_ble_eq_true rfl) hd1 h (fun r w11 hK => ?_)
              obtain ⟨rfl, h⟩ := hK
              change WA _ _ _ _ _ _ _ _ _ _ _ [] _ _
              refine WA.goto (tgt := 209) dX9_closes_166 (by decide) ?_
              exact WA.vreturn dX9_closes_209 ⟨rfl, h⟩
            · have h := h.2
              have n1 := hc
              by_cases hc : (w2 133 (w2 115 23)) = 2
              · have h := h.1 hc
                refine WA.tableIn (tgt := 169) dX9_closes_106 (by rw [hc]; decide) (by rw [hc]; decide) (by rw [hc]; rfl) (by decide) ?_
                refine WA.aload_n dX9_closes_169 rfl (by decide) ?_
                refine WA.lload_n dX9_closes_170 rfl ?_
                obtain ⟨d1, hd1, h⟩ := h
                refine WA.callV1 (kc := 0) (ks := 0) (kc' := 0) (ks' := 0) dX9_closes_171 lkX9_330 rfl rfl rfl ob_115 rfl (Nat.le_of_ble_eq_true rfl) hd1 h (fun r w12 hK => ?_)
                obtain ⟨rfl, h⟩ := hK
                change WA _ _ _ _ _ _ _ _ _ _ _ [] _ _
                refine WA.goto (tgt := 209) dX9_closes_174 (by decide) ?_
                exact WA.vreturn dX9_closes_209 ⟨rfl, h⟩
              · have h := h.2
                have n2 := hc
                by_cases hc : (w2 133 (w2 115 23)) = 3
                · have h := h.1 hc
                  refine WA.tableIn (tgt := 177) dX9_closes_106 (by rw [hc]; decide) (by rw [hc]; decide) (by rw [hc]; rfl) (by decide) ?_
                  refine WA.aload_n dX9_closes_177 rfl (by decide) ?_
                  refine WA.lload_n dX9_closes_178 rfl ?_
                  obtain ⟨d1, hd1, h⟩ := h
                  refine WA.callV1 (kc := 0) (ks := 0) (kc' := 0) (ks' := 0) dX9_closes_179 lkX9_333 rfl rfl rfl ob_115 rfl (Nat.le_of_ble_eq_true rfl) hd1 h (fun r w13 hK => ?_)
                  obtain ⟨rfl, h⟩ := hK
                  change WA _ _ _ _ _ _ _ _ _ _ _ [] _ _
                  refine WA.goto (tgt := 209) dX9_closes_182 (by decide) ?_
                  exact WA.vreturn dX9_closes_209 ⟨rfl, h⟩
                · have h := h.2
                  have n3 := hc
                  by_cases hc : (w2 133 (w2 115 23)) = 4
                  · have h := h.1 hc
                    refine WA.tableIn (tgt := 185) dX9_closes_106 (by rw [hc]; decide) (by rw [hc]; decide) (by rw [hc]; rfl) (by decide) ?_
                    refine WA.aload_n dX9_closes_185 rfl (by decide) ?_
                    refine WA.lload_n dX9_closes_186 rfl ?_
                    obtain ⟨d1, hd1, h⟩ := h
                    refine WA.callV1 (kc := 0) (ks := 0) (kc' := 0) (ks' := 0) dX9_closes_187 lkX9_336 rfl rfl rfl ob_115 rfl (Nat.le_of_ble_eq_true rfl) hd1 h (fun r w14 hK => ?_)
                    obtain ⟨rfl, h⟩ := hK
                    change WA _ _ _ _ _ _ _ _ _ _ _ [] _ _
                    refine WA.goto (tgt := 209) dX9_closes_190 (by decide) ?_
                    exact WA.vreturn dX9_closes_209 ⟨rfl, h⟩
                  · have h := h.2
                    have n4 := hc
                    by_cases hc : (w2 133 (w2 115 23)) = 5
                    · have h := h.1 hc
                      refine WA.tableIn (tgt := 185) dX9_closes_106 (by rw [hc]; decide) (by rw [hc]; decide) (by rw [hc]; rfl) (by decide) ?_
                      refine WA.aload_n dX9_closes_185 rfl (by decide) ?_
                      refine WA.lload_n dX9_closes_186 rfl ?_
                      obtain ⟨d1, hd1, h⟩ := h
                      refine WA.callV1 (kc := 0) (ks := 0) (kc' := 0) (ks' := 0) dX9_closes_187 lkX9_336 rfl rfl rfl ob_115 rfl (Nat.le_of_ble_eq_true rfl) hd1 h (fun r w15 hK => ?_)
                      obtain ⟨rfl, h⟩ := hK
                      change WA _ _ _ _ _ _ _ _ _ _ _ [] _ _
                      refine WA.goto (tgt := 209) dX9_closes_190 (by decide) ?_
                      exact WA.vreturn dX9_closes_209 ⟨rfl, h⟩
                    · have h := h.2
                      have n5 := hc
                      by_cases hc : (w2 133 (w2 115 23)) = 6
                      · have h := h.1 hc
                        refine WA.tableIn (tgt := 185) dX9_closes_106 (by rw [hc]; decide) (by rw [hc]; decide) (by rw [hc]; rfl) (by decide) ?_
                        refine WA.aload_n dX9_closes_185 rfl (by decide) ?_
                        refine WA.lload_n dX9_closes_186 rfl ?_
                        obtain ⟨d1, hd1, h⟩ := h
                        refine WA.callV1 (kc := 0) (ks := 0) (kc' := 0) (ks' := 0) dX9_closes_187 lkX9_336 rfl rfl rfl ob_115 rfl (Nat.le_of_ble_eq_true rfl) hd1 h (fun r w16 hK => ?_)
                        obtain ⟨rfl, h⟩ := hK
                        change WA _ _ _ _ _ _ _ _ _ _ _ [] _ _
                        refine WA.goto (tgt := 209) dX9_closes_190 (by decide) ?_
                        exact WA.vreturn dX9_closes_209 ⟨rfl, h⟩
                      · have h := h.2
                        have n6 := hc
                        have ho : (w2 133 (w2 115 23)) < 0 ∨ 6 < (w2 133 (w2 115 23)) := by
                          rcases Int.lt_or_le (w2 133 (w2 115 23)) 0 with q | q
                          · exact Or.inl q
                          · have q : 1 ≤ (w2 133 (w2 115 23)) := am_bump q n0
                            have q : 2 ≤ (w2 133 (w2 115 23)) := am_bump q n1
                            have q : 3 ≤ (w2 133 (w2 115 23)) := am_bump q n2
                            have q : 4 ≤ (w2 133 (w2 115 23)) := am_bump q n3
                            have q : 5 ≤ (w2 133 (w2 115 23)) := am_bump q n4
                            have q : 6 ≤ (w2 133 (w2 115 23)) := am_bump q n5
                            have q : 7 ≤ (w2 133 (w2 115 23)) := am_bump q n6
                            exact Or.inr q
                        have h := h ho
                        refine WA.tableOut (tgt := 193) dX9_closes_106 ho (by decide) ?_
                        refine WA.aload_n dX9_closes_193 rfl (by decide) ?_
                        refine WA.lload_n dX9_closes_194 rfl ?_
                        obtain ⟨d1, hd1, h⟩ := h
                        refine WA.callV1 (kc := 0) (ks := 0) (kc' := 0) (ks' := 0) dX9_closes_195 lkX9_284 rfl rfl rfl ob_115 rfl (Nat.le_of_ble_eq_true rfl) hd1 h (fun r w17 hK => ?_)
                        obtain ⟨rfl, h⟩ := hK
                        change WA _ _ _ _ _ _ _ _ _ _ _ [] _ _
                        refine WA.aload_n dX9_closes_198 rfl (by decide) ?_
                        obtain ⟨d1, hd1, h⟩ := h
                        refine WA.callV0 (kc := 0) (ks := 0) (kc' := 0) (ks' := 0) dX9_closes_199 lkX9_275 rfl rfl rfl ob_115 rfl (Nat.le_of_ble_eq_true rfl) hd1 h (fun r w18 hK => ?_)
                        obtain ⟨x2, rfl, h⟩ := hK
                        change WA _ _ _ _ _ _ _ _ _ _ _ [.inl x2] _ _
                        refine WA.if_eq (tgt := 209) dX9_closes_202 (by decide) (fun hc => ?_) (fun hc => ?_)
                        · have h := h.1 hc
                          exact WA.vreturn dX9_closes_209 ⟨rfl, h⟩
                        · have h := h.2 hc
                          refine WA.aload_n dX9_closes_205 rfl (by decide) ?_
                          obtain ⟨d1, hd1, h⟩ := h
                          refine WA.callV0 (kc := 0) (ks := 0) (kc' := 0) (ks' := 0) dX9_closes_206 lkX9_287 rfl rfl rfl ob_115 rfl (Nat.le_of_ble_eq_true rfl) hd1 h (fun r w19 hK => ?_)
                          obtain ⟨rfl, h⟩ := hK
                          change WA _ _ _ _ _ _ _ _ _ _ _ [] _ _
                          exact WA.vreturn dX9_closes_209 ⟨rfl, h⟩
        · have h := h.2 hc
          refine WA.aload_n dX9_closes_51 rfl (by decide) ?_
          refine gxX9_85 rfl rfl dX9_closes_52 ob_115 ?_
          refine WA.aload_n dX9_closes_55 rfl (by decide) ?_
          refine gfX9_119 rfl dX9_closes_56 ob_115 ?_
          refine WA.iload_n dX9_closes_59 rfl ?_
          refine WA.bipush dX9_closes_60 ⟨by decide, by decide⟩ ?_
          refine WA.icmp_ne (tgt := 69) dX9_closes_62 (by decide) (fun hc => ?_) (fun hc => ?_)
          · have h := h.1 hc
            refine WA.iconst dX9_closes_69 ⟨by decide, by decide⟩ ?_
            obtain ⟨s7, h⟩ := h
            obtain ⟨w20, qw20⟩ : ∃ z, z = wset w2 139 (w2 115 23) (-1) := ⟨_, rfl⟩
            have h := h w20 qw20
            refine WA.iastore dX9_closes_70 ob_139 s7.1 s7.2 ?_
            rw [← qw20]
            refine WA.aload_n dX9_closes_71 rfl (by decide) ?_
            refine WA.dup dX9_closes_72 rfl ?_
            refine gfX9_116 rfl dX9_closes_73 ob_115 ?_
            refine WA.iconst dX9_closes_76 ⟨by decide, by decide⟩ ?_
            obtain ⟨s8, h⟩ := h
            refine WA.iadd dX9_closes_77 s8 ?_
            obtain ⟨w21, qw21⟩ : ∃ z, z = wset w20 115 24 ((w20 115 24) + 1) := ⟨_, rfl⟩
            have h := h w21 qw21
            refine pfX9_116 rfl dX9_closes_78 ob_115 ?_
            rw [← qw21]
            refine WA.aload_n dX9_closes_81 rfl (by decide) ?_
            refine WA.iconst dX9_closes_82 ⟨by decide, by decide⟩ ?_
            obtain ⟨w22, qw22⟩ : ∃ z, z = wset w21 115 26 1 := ⟨_, rfl⟩
            have h := h w22 qw22
            refine pfX9_182 rfl dX9_closes_83 ob_115 (by decide) ?_
            rw [← qw22]
            exact WA.vreturn dX9_closes_86 ⟨rfl, h⟩
          · have h := h.2 hc
            refine WA.iconst dX9_closes_65 ⟨by decide, by decide⟩ ?_
            refine WA.goto (tgt := 70) dX9_closes_66 (by decide) ?_
            obtain ⟨s9, h⟩ := h
            obtain ⟨w23, qw23⟩ : ∃ z, z = wset w2 139 (w2 115 23) 1 := ⟨_, rfl⟩
            have h := h w23 qw23
            refine WA.iastore dX9_closes_70 ob_139 s9.1 s9.2 ?_
            rw [← qw23]
            refine WA.aload_n dX9_closes_71 rfl (by decide) ?_
            refine WA.dup dX9_closes_72 rfl ?_
            refine gfX9_116 rfl dX9_closes_73 ob_115 ?_
            refine WA.iconst dX9_closes_76 ⟨by decide, by decide⟩ ?_
            obtain ⟨s10, h⟩ := h
            refine WA.iadd dX9_closes_77 s10 ?_
            obtain ⟨w24, qw24⟩ : ∃ z, z = wset w23 115 24 ((w23 115 24) + 1) := ⟨_, rfl⟩
            have h := h w24 qw24
            refine pfX9_116 rfl dX9_closes_78 ob_115 ?_
            rw [← qw24]
            refine WA.aload_n dX9_closes_81 rfl (by decide) ?_
            refine WA.iconst dX9_closes_82 ⟨by decide, by decide⟩ ?_
            obtain ⟨w25, qw25⟩ : ∃ z, z = wset w24 115 26 1 := ⟨_, rfl⟩
            have h := h w25 qw25
            refine pfX9_182 rfl dX9_closes_83 ob_115 (by decide) ?_
            rw [← qw25]
            exact WA.vreturn dX9_closes_86 ⟨rfl, h⟩
    · have h := h.2 hc
      exact WA.vreturn dX9_closes_38 ⟨rfl, h⟩
  · have h := h.2 hc
    refine WA.aload_n dX9_closes_11 rfl (by decide) ?_
    refine WA.dup dX9_closes_12 rfl ?_
    refine gfX9_116 rfl dX9_closes_13 ob_115 ?_
    refine WA.iconst dX9_closes_16 ⟨by decide, by decide⟩ ?_
    obtain ⟨s11, h⟩ := h
    refine WA.iadd dX9_closes_17 s11 ?_
    obtain ⟨w26, qw26⟩ : ∃ z, z = wset w1 115 24 ((w1 115 24) + 1) := ⟨_, rfl⟩
    have h := h w26 qw26
    refine pfX9_116 rfl dX9_closes_18 ob_115 ?_
    rw [← qw26]
    refine WA.aload_n dX9_closes_21 rfl (by decide) ?_
    refine WA.iconst dX9_closes_22 ⟨by decide, by decide⟩ ?_
    obtain ⟨w27, qw27⟩ : ∃ z, z = wset w26 115 26 1 := ⟨_, rfl⟩
    have h := h w27 qw27
    refine pfX9_182 rfl dX9_closes_23 ob_115 (by decide) ?_
    rw [← qw27]
    exact WA.vreturn dX9_closes_26 ⟨rfl, h⟩
set_option maxRecDepth 10000 in
theorem v_X9_works_88 {d : Nat} {w : Wd} {K : Wd → Prop} {a1 : Int}  
    (h : ((¬ (w 115 38) = 0 → K w) ∧ ((w 115 38) = 0 → C_X9_goesOn d [.inr (.inr 115)] w (fun x1 w1 => ((x1 = 0 → K w1) ∧ (¬ x1 = 0 → (((w1 115 26) = 0 → C_X9_closes d [.inr (.inr 115)] w1 (fun w2 => W_X9_works d 88 [some (.inr (.inr 115)), some (.inl a1)] [] w2 K)) ∧ (¬ (w1 115 26) = 0 → C_X9_factor d [.inr (.inr 115)] w1 (fun w3 => W_X9_works d 88 [some (.inr (.inr 115)), some (.inl a1)] [] w3 K))))))))) :
    W_X9_works d 88 [some (.inr (.inr 115)), some (.inl a1)] [] w K := by
  refine WA.aload_n dX9_works_88 rfl (by decide) ?_
  refine gfX9_327 rfl dX9_works_89 ob_115 ?_
  refine WA.if_ne (tgt := 123) dX9_works_92 (by decide) (fun hc => ?_) (fun hc => ?_)
  · have h := h.1 hc
    exact WA.vreturn dX9_works_123 ⟨rfl, h⟩
  · have h := h.2 hc
    refine WA.aload_n dX9_works_95 rfl (by decide) ?_
    obtain ⟨d1, hd1, h⟩ := h
    refine WA.callV0 (kc := 0) (ks := 0) (kc' := 0) (ks' := 0) dX9_works_96 lkX9_275 rfl rfl rfl ob_115 rfl (Nat.le_of_ble_eq_true rfl) hd1 h (fun r w1 hK => ?_)
    obtain ⟨x1, rfl, h⟩ := hK
    change WA _ _ _ _ _ _ _ _ _ _ _ [.inl x1] _ _
    refine WA.if_eq (tgt := 123) dX9_works_99 (by decide) (fun hc => ?_) (fun hc => ?_)
    · have h := h.1 hc
      exact WA.vreturn dX9_works_123 ⟨rfl, h⟩
    · have h := h.2 hc
      refine WA.aload_n dX9_works_102 rfl (by decide) ?_
      refine gfX9_182 rfl dX9_works_103 ob_115 ?_
      refine WA.if_eq (tgt := 116) dX9_works_106 (by decide) (fun hc => ?_) (fun hc => ?_)
      · have h := h.1 hc
        refine WA.aload_n dX9_works_116 rfl (by decide) ?_
        obtain ⟨d1, hd1, h⟩ := h
        refine WA.callV0 (kc := 0) (ks := 0) (kc' := 0) (ks' := 0) dX9_works_117 lkX9_345 rfl rfl rfl ob_115 rfl (Nat.le_of_ble_eq_true rfl) hd1 h (fun r w2 hK => ?_)
        obtain ⟨rfl, h⟩ := hK
        change WA _ _ _ _ _ _ _ _ _ _ _ [] _ _
        refine WA.goto (tgt := 88) dX9_works_120 (by decide) ?_
        exact h
      · have h := h.2 hc
        refine WA.aload_n dX9_works_109 rfl (by decide) ?_
        obtain ⟨d1, hd1, h⟩ := h
        refine WA.callV0 (kc := 0) (ks := 0) (kc' := 0) (ks' := 0) dX9_works_110 lkX9_342 rfl rfl rfl ob_115 rfl (Nat.le_of_ble_eq_true rfl) hd1 h (fun r w3 hK => ?_)
        obtain ⟨rfl, h⟩ := hK
        change WA _ _ _ _ _ _ _ _ _ _ _ [] _ _
        refine WA.goto (tgt := 88) dX9_works_113 (by decide) ?_
        exact h
set_option maxRecDepth 10000 in
theorem e_X9_works {d : Nat} {w : Wd} {K : Wd → Prop} {a1 : Int}  
    (h : (0 ≤ a1 ∧ a1 < 72) ∧ (∀ w1, w1 = wset w 123 a1 0 → (∀ w2, w2 = wset w1 115 40 0 → (∀ w3, w3 = wset w2 115 39 0 → ((¬ a1 = (w3 115 42) → (∀ w4, w4 = wset w3 115 38 0 → (∀ w5, w5 = wset w4 115 41 (w4 115 43) → (∀ w6, w6 = wset w5 115 36 a1 → (-2147483648 ≤ (0 + a1) ∧ (0 + a1) ≤ 2147483647) ∧ (0 ≤ (0 + a1) ∧ (0 + a1) < 2778) ∧ (∀ w7, w7 = wset w6 115 37 (w6 116 (0 + a1)) → (∀ w8, w8 = wset w7 115 24 0 → (∀ w9, w9 = wset w8 115 23 0 → (∀ w10, w10 = wset w9 133 0 0 → (∀ w11, w11 = wset w10 134 0 0 → C_X9_frame d [.inr (.inr 115)] w11 (fun w12 => W_X9_works d 88 [some (.inr (.inr 115)), some (.inl a1)] [] w12 K)))))))))) ∧ (a1 = (w3 115 42) → (∀ w13, w13 = wset w3 115 38 1 → (∀ w14, w14 = wset w13 115 41 (w13 115 43) → (∀ w15, w15 = wset w14 115 36 a1 → (-2147483648 ≤ (0 + a1) ∧ (0 + a1) ≤ 2147483647) ∧ (0 ≤ (0 + a1) ∧ (0 + a1) < 2778) ∧ (∀ w16, w16 = wset w15 115 37 (w15 116 (0 + a1)) → (∀ w17, w17 = wset w16 115 24 0 → (∀ w18, w18 = wset w17 115 23 0 → (∀ w19, w19 = wset w18 133 0 0 → (∀ w20, w20 = wset w19 134 0 0 → C_X9_frame d [.inr (.inr 115)] w20 (fun w21 => W_X9_works d 88 [some (.inr (.inr 115)), some (.inl a1)] [] w21 K))))))))))))))) :
    E_X9_works d [.inr (.inr 115), .inl a1] w K := by
  refine EvA.of (by decide +kernel) (Nat.le_of_ble_eq_true rfl) ?_
  change W_X9_works d 0 [some (.inr (.inr 115)), some (.inl a1)] [] w K
  refine WA.aload_n dX9_works_0 rfl (by decide) ?_
  refine gxX9_32 rfl rfl dX9_works_1 ob_115 ?_
  refine WA.iload_n dX9_works_4 rfl ?_
  refine WA.iconst dX9_works_5 ⟨by decide, by decide⟩ ?_
  obtain ⟨s1, h⟩ := h
  obtain ⟨w1, qw1⟩ : ∃ z, z = wset w 123 a1 0 := ⟨_, rfl⟩
  have h := h w1 qw1
  refine WA.iastore dX9_works_6 ob_123 s1.1 s1.2 ?_
  rw [← qw1]
  refine WA.aload_n dX9_works_7 rfl (by decide) ?_
  refine WA.iconst dX9_works_8 ⟨by decide, by decide⟩ ?_
  obtain ⟨w2, qw2⟩ : ∃ z, z = wset w1 115 40 0 := ⟨_, rfl⟩
  have h := h w2 qw2
  refine pfX9_239 rfl dX9_works_9 ob_115 ?_
  rw [← qw2]
  refine WA.aload_n dX9_works_12 rfl (by decide) ?_
  refine WA.iconst dX9_works_13 ⟨by decide, by decide⟩ ?_
  obtain ⟨w3, qw3⟩ : ∃ z, z = wset w2 115 39 0 := ⟨_, rfl⟩
  have h := h w3 qw3
  refine pfX9_252 rfl dX9_works_14 ob_115 (by decide) ?_
  rw [← qw3]
  refine WA.aload_n dX9_works_17 rfl (by decide) ?_
  refine WA.iload_n dX9_works_18 rfl ?_
  refine WA.aload_n dX9_works_19 rfl (by decide) ?_
  refine gfX9_97 rfl dX9_works_20 ob_115 ?_
  refine WA.icmp_ne (tgt := 30) dX9_works_23 (by decide) (fun hc => ?_) (fun hc => ?_)
  · have h := h.1 hc
    refine WA.iconst dX9_works_30 ⟨by decide, by decide⟩ ?_
    obtain ⟨w4, qw4⟩ : ∃ z, z = wset w3 115 38 0 := ⟨_, rfl⟩
    have h := h w4 qw4
    refine pfX9_327 rfl dX9_works_31 ob_115 (by decide) ?_
    rw [← qw4]
    refine WA.aload_n dX9_works_34 rfl (by decide) ?_
    refine WA.aload_n dX9_works_35 rfl (by decide) ?_
    refine gfX9_339 rfl dX9_works_36 ob_115 ?_
    refine WA.i2l dX9_works_39 ?_
    obtain ⟨w5, qw5⟩ : ∃ z, z = wset w4 115 41 (w4 115 43) := ⟨_, rfl⟩
    have h := h w5 qw5
    refine pfX9_323 rfl dX9_works_40 ob_115 ?_
    rw [← qw5]
    refine WA.aload_n dX9_works_43 rfl (by decide) ?_
    refine WA.iload_n dX9_works_44 rfl ?_
    obtain ⟨w6, qw6⟩ : ∃ z, z = wset w5 115 36 a1 := ⟨_, rfl⟩
    have h := h w6 qw6
    refine pfX9_236 rfl dX9_works_45 ob_115 ?_
    rw [← qw6]
    refine WA.aload_n dX9_works_48 rfl (by decide) ?_
    refine WA.aload_n dX9_works_49 rfl (by decide) ?_
    refine gxX9_7 rfl rfl dX9_works_50 ob_115 ?_
    refine WA.iconst dX9_works_53 ⟨by decide, by decide⟩ ?_
    refine WA.iload_n dX9_works_54 rfl ?_
    obtain ⟨s2, h⟩ := h
    refine WA.iadd dX9_works_55 s2 ?_
    obtain ⟨s3, h⟩ := h
    refine WA.iaload dX9_works_56 ob_116 s3.1 s3.2 ?_
    obtain ⟨w7, qw7⟩ : ∃ z, z = wset w6 115 37 (w6 116 (0 + a1)) := ⟨_, rfl⟩
    have h := h w7 qw7
    refine pfX9_233 rfl dX9_works_57 ob_115 ?_
    rw [← qw7]
    refine WA.aload_n dX9_works_60 rfl (by decide) ?_
    refine WA.iconst dX9_works_61 ⟨by decide, by decide⟩ ?_
    obtain ⟨w8, qw8⟩ : ∃ z, z = wset w7 115 24 0 := ⟨_, rfl⟩
    have h := h w8 qw8
    refine pfX9_116 rfl dX9_works_62 ob_115 ?_
    rw [← qw8]
    refine WA.aload_n dX9_works_65 rfl (by decide) ?_
    refine WA.iconst dX9_works_66 ⟨by decide, by decide⟩ ?_
    obtain ⟨w9, qw9⟩ : ∃ z, z = wset w8 115 23 0 := ⟨_, rfl⟩
    have h := h w9 qw9
    refine pfX9_119 rfl dX9_works_67 ob_115 ?_
    rw [← qw9]
    refine WA.aload_n dX9_works_70 rfl (by decide) ?_
    refine gxX9_66 rfl rfl dX9_works_71 ob_115 ?_
    refine WA.iconst dX9_works_74 ⟨by decide, by decide⟩ ?_
    refine WA.iconst dX9_works_75 ⟨by decide, by decide⟩ ?_
    obtain ⟨w10, qw10⟩ : ∃ z, z = wset w9 133 0 0 := ⟨_, rfl⟩
    have h := h w10 qw10
    refine WA.iastore dX9_works_76 ob_133 (by decide) (by decide) ?_
    rw [← qw10]
    refine WA.aload_n dX9_works_77 rfl (by decide) ?_
    refine gxX9_69 rfl rfl dX9_works_78 ob_115 ?_
    refine WA.iconst dX9_works_81 ⟨by decide, by decide⟩ ?_
    refine WA.iconst dX9_works_82 ⟨by decide, by decide⟩ ?_
    obtain ⟨w11, qw11⟩ : ∃ z, z = wset w10 134 0 0 := ⟨_, rfl⟩
    have h := h w11 qw11
    refine WA.iastore dX9_works_83 ob_134 (by decide) (by decide) ?_
    rw [← qw11]
    refine WA.aload_n dX9_works_84 rfl (by decide) ?_
    obtain ⟨d1, hd1, h⟩ := h
    refine WA.callV0 (kc := 0) (ks := 0) (kc' := 0) (ks' := 0) dX9_works_85 lkX9_249 rfl rfl rfl ob_115 rfl (Nat.le_of_ble_eq_true rfl) hd1 h (fun r w12 hK => ?_)
    obtain ⟨rfl, h⟩ := hK
    change WA _ _ _ _ _ _ _ _ _ _ _ [] _ _
    exact h
  · have h := h.2 hc
    refine WA.iconst dX9_works_26 ⟨by decide, by decide⟩ ?_
    refine WA.goto (tgt := 31) dX9_works_27 (by decide) ?_
    obtain ⟨w13, qw13⟩ : ∃ z, z = wset w3 115 38 1 := ⟨_, rfl⟩
    have h := h w13 qw13
    refine pfX9_327 rfl dX9_works_31 ob_115 (by decide) ?_
    rw [← qw13]
    refine WA.aload_n dX9_works_34 rfl (by decide) ?_
    refine WA.aload_n dX9_works_35 rfl (by decide) ?_
    refine gfX9_339 rfl dX9_works_36 ob_115 ?_
    refine WA.i2l dX9_works_39 ?_
    obtain ⟨w14, qw14⟩ : ∃ z, z = wset w13 115 41 (w13 115 43) := ⟨_, rfl⟩
    have h := h w14 qw14
    refine pfX9_323 rfl dX9_works_40 ob_115 ?_
    rw [← qw14]
    refine WA.aload_n dX9_works_43 rfl (by decide) ?_
    refine WA.iload_n dX9_works_44 rfl ?_
    obtain ⟨w15, qw15⟩ : ∃ z, z = wset w14 115 36 a1 := ⟨_, rfl⟩
    have h := h w15 qw15
    refine pfX9_236 rfl dX9_works_45 ob_115 ?_
    rw [← qw15]
    refine WA.aload_n dX9_works_48 rfl (by decide) ?_
    refine WA.aload_n dX9_works_49 rfl (by decide) ?_
    refine gxX9_7 rfl rfl dX9_works_50 ob_115 ?_
    refine WA.iconst dX9_works_53 ⟨by decide, by decide⟩ ?_
    refine WA.iload_n dX9_works_54 rfl ?_
    obtain ⟨s4, h⟩ := h
    refine WA.iadd dX9_works_55 s4 ?_
    obtain ⟨s5, h⟩ := h
    refine WA.iaload dX9_works_56 ob_116 s5.1 s5.2 ?_
    obtain ⟨w16, qw16⟩ : ∃ z, z = wset w15 115 37 (w15 116 (0 + a1)) := ⟨_, rfl⟩
    have h := h w16 qw16
    refine pfX9_233 rfl dX9_works_57 ob_115 ?_
    rw [← qw16]
    refine WA.aload_n dX9_works_60 rfl (by decide) ?_
    refine WA.iconst dX9_works_61 ⟨by decide, by decide⟩ ?_
    obtain ⟨w17, qw17⟩ : ∃ z, z = wset w16 115 24 0 := ⟨_, rfl⟩
    have h := h w17 qw17
    refine pfX9_116 rfl dX9_works_62 ob_115 ?_
    rw [← qw17]
    refine WA.aload_n dX9_works_65 rfl (by decide) ?_
    refine WA.iconst dX9_works_66 ⟨by decide, by decide⟩ ?_
    obtain ⟨w18, qw18⟩ : ∃ z, z = wset w17 115 23 0 := ⟨_, rfl⟩
    have h := h w18 qw18
    refine pfX9_119 rfl dX9_works_67 ob_115 ?_
    rw [← qw18]
    refine WA.aload_n dX9_works_70 rfl (by decide) ?_
    refine gxX9_66 rfl rfl dX9_works_71 ob_115 ?_
    refine WA.iconst dX9_works_74 ⟨by decide, by decide⟩ ?_
    refine WA.iconst dX9_works_75 ⟨by decide, by decide⟩ ?_
    obtain ⟨w19, qw19⟩ : ∃ z, z = wset w18 133 0 0 := ⟨_, rfl⟩
    have h := h w19 qw19
    refine WA.iastore dX9_works_76 ob_133 (by decide) (by decide) ?_
    rw [← qw19]
    refine WA.aload_n dX9_works_77 rfl (by decide) ?_
    refine gxX9_69 rfl rfl dX9_works_78 ob_115 ?_
    refine WA.iconst dX9_works_81 ⟨by decide, by decide⟩ ?_
    refine WA.iconst dX9_works_82 ⟨by decide, by decide⟩ ?_
    obtain ⟨w20, qw20⟩ : ∃ z, z = wset w19 134 0 0 := ⟨_, rfl⟩
    have h := h w20 qw20
    refine WA.iastore dX9_works_83 ob_134 (by decide) (by decide) ?_
    rw [← qw20]
    refine WA.aload_n dX9_works_84 rfl (by decide) ?_
    obtain ⟨d1, hd1, h⟩ := h
    refine WA.callV0 (kc := 0) (ks := 0) (kc' := 0) (ks' := 0) dX9_works_85 lkX9_249 rfl rfl rfl ob_115 rfl (Nat.le_of_ble_eq_true rfl) hd1 h (fun r w21 hK => ?_)
    obtain ⟨rfl, h⟩ := hK
    change WA _ _ _ _ _ _ _ _ _ _ _ [] _ _
    exact h
set_option maxRecDepth 10000 in
theorem e_X9_lays {d : Nat} {w : Wd} {K : Wd → Prop} {a1 : Int}  
    (h : (0 ≤ a1 ∧ a1 < 72) ∧ (∀ w1, w1 = wset w 120 a1 (w 115 40) → (((w1 115 40) ≤ 0 → (-2147483648 ≤ (w1 115 41) ∧ (w1 115 41) ≤ 2147483647) ∧ (0 ≤ a1 ∧ a1 < 72) ∧ (∀ w2, w2 = wset w1 119 a1 (w1 115 41) → K w2)) ∧ (¬ ((w1 115 40) ≤ 0) → (0 ≤ a1 ∧ a1 < 72) ∧ (∀ w3, w3 = wset w1 119 a1 0 → K w3))))) :
    E_X9_lays d [.inr (.inr 115), .inl a1] w K := by
  refine EvA.of (by decide +kernel) (Nat.le_of_ble_eq_true rfl) ?_
  change W_X9_lays d 0 [some (.inr (.inr 115)), some (.inl a1)] [] w K
  refine WA.aload_n dX9_lays_0 rfl (by decide) ?_
  refine gxX9_22 rfl rfl dX9_lays_1 ob_115 ?_
  refine WA.iload_n dX9_lays_4 rfl ?_
  refine WA.aload_n dX9_lays_5 rfl (by decide) ?_
  refine gfX9_239 rfl dX9_lays_6 ob_115 ?_
  obtain ⟨s1, h⟩ := h
  obtain ⟨w1, qw1⟩ : ∃ z, z = wset w 120 a1 (w 115 40) := ⟨_, rfl⟩
  have h := h w1 qw1
  refine WA.iastore dX9_lays_9 ob_120 s1.1 s1.2 ?_
  rw [← qw1]
  refine WA.aload_n dX9_lays_10 rfl (by decide) ?_
  refine gxX9_19 rfl rfl dX9_lays_11 ob_115 ?_
  refine WA.iload_n dX9_lays_14 rfl ?_
  refine WA.aload_n dX9_lays_15 rfl (by decide) ?_
  refine gfX9_239 rfl dX9_lays_16 ob_115 ?_
  refine WA.if_le (tgt := 26) dX9_lays_19 (by decide) (fun hc => ?_) (fun hc => ?_)
  · have h := h.1 hc
    refine WA.aload_n dX9_lays_26 rfl (by decide) ?_
    refine gfX9_323 rfl dX9_lays_27 ob_115 ?_
    obtain ⟨s2, h⟩ := h
    refine WA.l2i dX9_lays_30 s2 ?_
    obtain ⟨s3, h⟩ := h
    obtain ⟨w2, qw2⟩ : ∃ z, z = wset w1 119 a1 (w1 115 41) := ⟨_, rfl⟩
    have h := h w2 qw2
    refine WA.iastore dX9_lays_31 ob_119 s3.1 s3.2 ?_
    rw [← qw2]
    exact WA.vreturn dX9_lays_32 ⟨rfl, h⟩
  · have h := h.2 hc
    refine WA.iconst dX9_lays_22 ⟨by decide, by decide⟩ ?_
    refine WA.goto (tgt := 31) dX9_lays_23 (by decide) ?_
    obtain ⟨s4, h⟩ := h
    obtain ⟨w3, qw3⟩ : ∃ z, z = wset w1 119 a1 0 := ⟨_, rfl⟩
    have h := h w3 qw3
    refine WA.iastore dX9_lays_31 ob_119 s4.1 s4.2 ?_
    rw [← qw3]
    exact WA.vreturn dX9_lays_32 ⟨rfl, h⟩
set_option maxRecDepth 10000 in
theorem v_X9_heightOf_4 {d : Nat} {w : Wd} {K : Int → Wd → Prop} {a1 v2 v3 : Int}  
    (h : (0 ≤ a1 ∧ a1 < 72) ∧ (((w 123 a1) ≤ v3 → (-2147483648 ≤ (v2 + 1) ∧ (v2 + 1) ≤ 2147483647) ∧ K (v2 + 1) w) ∧ (¬ ((w 123 a1) ≤ v3) → (-2147483648 ≤ (72 * a1) ∧ (72 * a1) ≤ 2147483647) ∧ (-2147483648 ≤ ((72 * a1) + v3) ∧ ((72 * a1) + v3) ≤ 2147483647) ∧ (0 ≤ ((72 * a1) + v3) ∧ ((72 * a1) + v3) < 5184) ∧ (0 ≤ (w 124 ((72 * a1) + v3)) ∧ (w 124 ((72 * a1) + v3)) < 72) ∧ (((w 122 (w 124 ((72 * a1) + v3))) ≤ v2 → (-2147483648 ≤ (v3 + 1) ∧ (v3 + 1) ≤ 2147483647) ∧ W_X9_heightOf d 4 [some (.inr (.inr 115)), some (.inl a1), some (.inl v2), some (.inl (v3 + 1)), none] [] w K) ∧ (¬ ((w 122 (w 124 ((72 * a1) + v3))) ≤ v2) → (0 ≤ (w 124 ((72 * a1) + v3)) ∧ (w 124 ((72 * a1) + v3)) < 72) ∧ (-2147483648 ≤ (v3 + 1) ∧ (v3 + 1) ≤ 2147483647) ∧ W_X9_heightOf d 4 [some (.inr (.inr 115)), some (.inl a1), some (.inl (w 122 (w 124 ((72 * a1) + v3)))), some (.inl (v3 + 1)), none] [] w K))))) :
    W_X9_heightOf d 4 [some (.inr (.inr 115)), some (.inl a1), some (.inl v2), some (.inl v3), none] [] w K := by
  refine WA.iload_n dX9_heightOf_4 rfl ?_
  refine WA.aload_n dX9_heightOf_5 rfl (by decide) ?_
  refine gxX9_32 rfl rfl dX9_heightOf_6 ob_115 ?_
  refine WA.iload_n dX9_heightOf_9 rfl ?_
  obtain ⟨s1, h⟩ := h
  refine WA.iaload dX9_heightOf_10 ob_123 s1.1 s1.2 ?_
  refine WA.icmp_ge (tgt := 56) dX9_heightOf_11 (by decide) (fun hc => ?_) (fun hc => ?_)
  · have h := h.1 hc
    refine WA.iload_n dX9_heightOf_56 rfl ?_
    refine WA.iconst dX9_heightOf_57 ⟨by decide, by decide⟩ ?_
    obtain ⟨s2, h⟩ := h
    refine WA.iadd dX9_heightOf_58 s2 ?_
    exact WA.ireturn dX9_heightOf_59 ⟨_, rfl, h⟩
  · have h := h.2 hc
    refine WA.aload_n dX9_heightOf_14 rfl (by decide) ?_
    refine gxX9_35 rfl rfl dX9_heightOf_15 ob_115 ?_
    refine WA.bipush dX9_heightOf_18 ⟨by decide, by decide⟩ ?_
    refine WA.iload_n dX9_heightOf_20 rfl ?_
    obtain ⟨s3, h⟩ := h
    refine WA.imul dX9_heightOf_21 s3 ?_
    refine WA.iload_n dX9_heightOf_22 rfl ?_
    obtain ⟨s4, h⟩ := h
    refine WA.iadd dX9_heightOf_23 s4 ?_
    obtain ⟨s5, h⟩ := h
    refine WA.iaload dX9_heightOf_24 ob_124 s5.1 s5.2 ?_
    refine WA.istore (als' := [some (.inr (.inr 115)), some (.inl a1), some (.inl v2), some (.inl v3), some (.inl (w 124 ((72 * a1) + v3)))]) dX9_heightOf_25 (Nat.le_of_ble_eq_true rfl) rfl ?_
    refine WA.aload_n dX9_heightOf_27 rfl (by decide) ?_
    refine gxX9_29 rfl rfl dX9_heightOf_28 ob_115 ?_
    refine WA.iload dX9_heightOf_31 rfl ?_
    obtain ⟨s6, h⟩ := h
    refine WA.iaload dX9_heightOf_33 ob_122 s6.1 s6.2 ?_
    refine WA.iload_n dX9_heightOf_34 rfl ?_
    refine WA.icmp_le (tgt := 48) dX9_heightOf_35 (by decide) (fun hc => ?_) (fun hc => ?_)
    · have h := h.1 hc
      refine WA.iload_n dX9_heightOf_48 rfl ?_
      refine WA.istore_n (als' := [some (.inr (.inr 115)), some (.inl a1), some (.inl v2), some (.inl v3), some (.inl (w 124 ((72 * a1) + v3)))]) dX9_heightOf_49 (Nat.le_of_ble_eq_true rfl) rfl ?_
      obtain ⟨s7, h⟩ := h
      refine WA.iinc (als' := [some (.inr (.inr 115)), some (.inl a1), some (.inl v2), some (.inl (v3 + 1)), some (.inl (w 124 ((72 * a1) + v3)))]) dX9_heightOf_50 rfl s7 rfl ?_
      refine WA.goto (tgt := 4) dX9_heightOf_53 (by decide) ?_
      exact WA.sub (als' := [some (.inr (.inr 115)), some (.inl a1), some (.inl v2), some (.inl (v3 + 1)), none]) (by simp only [am_sub, and_self]) rfl h
    · have h := h.2 hc
      refine WA.aload_n dX9_heightOf_38 rfl (by decide) ?_
      refine gxX9_29 rfl rfl dX9_heightOf_39 ob_115 ?_
      refine WA.iload dX9_heightOf_42 rfl ?_
      obtain ⟨s8, h⟩ := h
      refine WA.iaload dX9_heightOf_44 ob_122 s8.1 s8.2 ?_
      refine WA.goto (tgt := 49) dX9_heightOf_45 (by decide) ?_
      refine WA.istore_n (als' := [some (.inr (.inr 115)), some (.inl a1), some (.inl (w 122 (w 124 ((72 * a1) + v3)))), some (.inl v3), some (.inl (w 124 ((72 * a1) + v3)))]) dX9_heightOf_49 (Nat.le_of_ble_eq_true rfl) rfl ?_
      obtain ⟨s9, h⟩ := h
      refine WA.iinc (als' := [some (.inr (.inr 115)), some (.inl a1), some (.inl (w 122 (w 124 ((72 * a1) + v3)))), some (.inl (v3 + 1)), some (.inl (w 124 ((72 * a1) + v3)))]) dX9_heightOf_50 rfl s9 rfl ?_
      refine WA.goto (tgt := 4) dX9_heightOf_53 (by decide) ?_
      exact WA.sub (als' := [some (.inr (.inr 115)), some (.inl a1), some (.inl (w 122 (w 124 ((72 * a1) + v3)))), some (.inl (v3 + 1)), none]) (by simp only [am_sub, and_self]) rfl h
set_option maxRecDepth 10000 in
theorem e_X9_heightOf {d : Nat} {w : Wd} {K : Int → Wd → Prop} {a1 : Int}  
    (h : W_X9_heightOf d 4 [some (.inr (.inr 115)), some (.inl a1), some (.inl (-1)), some (.inl 0), none] [] w K) :
    E_X9_heightOf d [.inr (.inr 115), .inl a1] w K := by
  refine EvA.of (by decide +kernel) (Nat.le_of_ble_eq_true rfl) ?_
  change W_X9_heightOf d 0 [some (.inr (.inr 115)), some (.inl a1), none, none, none] [] w K
  refine WA.iconst dX9_heightOf_0 ⟨by decide, by decide⟩ ?_
  refine WA.istore_n (als' := [some (.inr (.inr 115)), some (.inl a1), some (.inl (-1)), none, none]) dX9_heightOf_1 (Nat.le_of_ble_eq_true rfl) rfl ?_
  refine WA.iconst dX9_heightOf_2 ⟨by decide, by decide⟩ ?_
  refine WA.istore_n (als' := [some (.inr (.inr 115)), some (.inl a1), some (.inl (-1)), some (.inl 0), none]) dX9_heightOf_3 (Nat.le_of_ble_eq_true rfl) rfl ?_
  exact h
set_option maxRecDepth 10000 in
theorem v_X9_passes_2 {d : Nat} {w : Wd} {K : Wd → Prop} {v1 : Int}  
    (h : ((72 ≤ v1 → W_X9_passes d 62 [some (.inr (.inr 115)), some (.inl 1), none] [] w K) ∧ (¬ (72 ≤ v1) → C_X9_isEmpty d [.inr (.inr 115), .inl v1] w (fun x1 w1 => (0 ≤ v1 ∧ v1 < 72) ∧ (x1 = 0 ∨ x1 = 1) ∧ (∀ w2, w2 = wset w1 131 v1 x1 → (0 ≤ v1 ∧ v1 < 72) ∧ (∀ w3, w3 = wset w2 121 v1 0 → (0 ≤ v1 ∧ v1 < 72) ∧ (∀ w4, w4 = wset w3 119 v1 0 → (0 ≤ v1 ∧ v1 < 72) ∧ (∀ w5, w5 = wset w4 120 v1 0 → (0 ≤ v1 ∧ v1 < 72) ∧ (∀ w6, w6 = wset w5 122 v1 0 → (0 ≤ v1 ∧ v1 < 72) ∧ (∀ w7, w7 = wset w6 123 v1 0 → (-2147483648 ≤ (v1 + 1) ∧ (v1 + 1) ≤ 2147483647) ∧ W_X9_passes d 2 [some (.inr (.inr 115)), some (.inl (v1 + 1)), none] [] w7 K)))))))))) :
    W_X9_passes d 2 [some (.inr (.inr 115)), some (.inl v1), none] [] w K := by
  refine WA.iload_n dX9_passes_2 rfl ?_
  refine WA.bipush dX9_passes_3 ⟨by decide, by decide⟩ ?_
  refine WA.icmp_ge (tgt := 60) dX9_passes_5 (by decide) (fun hc => ?_) (fun hc => ?_)
  · have h := h.1 hc
    refine WA.iconst dX9_passes_60 ⟨by decide, by decide⟩ ?_
    refine WA.istore_n (als' := [some (.inr (.inr 115)), some (.inl 1), none]) dX9_passes_61 (Nat.le_of_ble_eq_true rfl) rfl ?_
    exact h
  · have h := h.2 hc
    refine WA.aload_n dX9_passes_8 rfl (by decide) ?_
    refine gxX9_56 rfl rfl dX9_passes_9 ob_115 ?_
    refine WA.iload_n dX9_passes_12 rfl ?_
    refine WA.aload_n dX9_passes_13 rfl (by decide) ?_
    refine WA.iload_n dX9_passes_14 rfl ?_
    obtain ⟨d1, hd1, h⟩ := h
    refine WA.callV1 (kc := 0) (ks := 0) (kc' := 0) (ks' := 0) dX9_passes_15 lkX9_281 rfl rfl rfl ob_115 rfl (Nat.le_of_ble_eq_true rfl) hd1 h (fun r w1 hK => ?_)
    obtain ⟨x1, rfl, h⟩ := hK
    change WA _ _ _ _ _ _ _ _ _ _ _ [.inl x1, .inl v1, .inr (.inr 131)] _ _
    obtain ⟨s1, h⟩ := h
    obtain ⟨s2, h⟩ := h
    obtain ⟨w2, qw2⟩ : ∃ z, z = wset w1 131 v1 x1 := ⟨_, rfl⟩
    have h := h w2 qw2
    refine WA.zastore dX9_passes_18 ob_131 s1.1 s1.2 s2 ?_
    rw [← qw2]
    refine WA.aload_n dX9_passes_19 rfl (by decide) ?_
    refine gxX9_25 rfl rfl dX9_passes_20 ob_115 ?_
    refine WA.iload_n dX9_passes_23 rfl ?_
    refine WA.iconst dX9_passes_24 ⟨by decide, by decide⟩ ?_
    obtain ⟨s3, h⟩ := h
    obtain ⟨w3, qw3⟩ : ∃ z, z = wset w2 121 v1 0 := ⟨_, rfl⟩
    have h := h w3 qw3
    refine WA.zastore dX9_passes_25 ob_121 s3.1 s3.2 (by decide) ?_
    rw [← qw3]
    refine WA.aload_n dX9_passes_26 rfl (by decide) ?_
    refine gxX9_19 rfl rfl dX9_passes_27 ob_115 ?_
    refine WA.iload_n dX9_passes_30 rfl ?_
    refine WA.iconst dX9_passes_31 ⟨by decide, by decide⟩ ?_
    obtain ⟨s4, h⟩ := h
    obtain ⟨w4, qw4⟩ : ∃ z, z = wset w3 119 v1 0 := ⟨_, rfl⟩
    have h := h w4 qw4
    refine WA.iastore dX9_passes_32 ob_119 s4.1 s4.2 ?_
    rw [← qw4]
    refine WA.aload_n dX9_passes_33 rfl (by decide) ?_
    refine gxX9_22 rfl rfl dX9_passes_34 ob_115 ?_
    refine WA.iload_n dX9_passes_37 rfl ?_
    refine WA.iconst dX9_passes_38 ⟨by decide, by decide⟩ ?_
    obtain ⟨s5, h⟩ := h
    obtain ⟨w5, qw5⟩ : ∃ z, z = wset w4 120 v1 0 := ⟨_, rfl⟩
    have h := h w5 qw5
    refine WA.iastore dX9_passes_39 ob_120 s5.1 s5.2 ?_
    rw [← qw5]
    refine WA.aload_n dX9_passes_40 rfl (by decide) ?_
    refine gxX9_29 rfl rfl dX9_passes_41 ob_115 ?_
    refine WA.iload_n dX9_passes_44 rfl ?_
    refine WA.iconst dX9_passes_45 ⟨by decide, by decide⟩ ?_
    obtain ⟨s6, h⟩ := h
    obtain ⟨w6, qw6⟩ : ∃ z, z = wset w5 122 v1 0 := ⟨_, rfl⟩
    have h := h w6 qw6
    refine WA.iastore dX9_passes_46 ob_122 s6.1 s6.2 ?_
    rw [← qw6]
    refine WA.aload_n dX9_passes_47 rfl (by decide) ?_
    refine gxX9_32 rfl rfl dX9_passes_48 ob_115 ?_
    refine WA.iload_n dX9_passes_51 rfl ?_
    refine WA.iconst dX9_passes_52 ⟨by decide, by decide⟩ ?_
    obtain ⟨s7, h⟩ := h
    obtain ⟨w7, qw7⟩ : ∃ z, z = wset w6 123 v1 0 := ⟨_, rfl⟩
    have h := h w7 qw7
    refine WA.iastore dX9_passes_53 ob_123 s7.1 s7.2 ?_
    rw [← qw7]
    obtain ⟨s8, h⟩ := h
    refine WA.iinc (als' := [some (.inr (.inr 115)), some (.inl (v1 + 1)), none]) dX9_passes_54 rfl s8 rfl ?_
    refine WA.goto (tgt := 2) dX9_passes_57 (by decide) ?_
    exact h
set_option maxRecDepth 10000 in
theorem v_X9_passes_62 {d : Nat} {w : Wd} {K : Wd → Prop} {v1 : Int}  
    (h : ((v1 = 0 → K w) ∧ (¬ v1 = 0 → W_X9_passes d 70 [some (.inr (.inr 115)), some (.inl 0), some (.inl 0)] [] w K))) :
    W_X9_passes d 62 [some (.inr (.inr 115)), some (.inl v1), none] [] w K := by
  refine WA.iload_n dX9_passes_62 rfl ?_
  refine WA.if_eq (tgt := 131) dX9_passes_63 (by decide) (fun hc => ?_) (fun hc => ?_)
  · have h := h.1 hc
    exact WA.vreturn dX9_passes_131 ⟨rfl, h⟩
  · have h := h.2 hc
    refine WA.iconst dX9_passes_66 ⟨by decide, by decide⟩ ?_
    refine WA.istore_n (als' := [some (.inr (.inr 115)), some (.inl 0), none]) dX9_passes_67 (Nat.le_of_ble_eq_true rfl) rfl ?_
    refine WA.iconst dX9_passes_68 ⟨by decide, by decide⟩ ?_
    refine WA.istore_n (als' := [some (.inr (.inr 115)), some (.inl 0), some (.inl 0)]) dX9_passes_69 (Nat.le_of_ble_eq_true rfl) rfl ?_
    exact h
set_option maxRecDepth 10000 in
theorem v_X9_passes_70 {d : Nat} {w : Wd} {K : Wd → Prop} {v1 v2 : Int}  
    (h : ((72 ≤ v2 → W_X9_passes d 62 [some (.inr (.inr 115)), some (.inl v1), none] [] w K) ∧ (¬ (72 ≤ v2) → (0 ≤ v2 ∧ v2 < 72) ∧ ((¬ (w 131 v2) = 0 → (-2147483648 ≤ (v2 + 1) ∧ (v2 + 1) ≤ 2147483647) ∧ W_X9_passes d 70 [some (.inr (.inr 115)), some (.inl v1), some (.inl (v2 + 1))] [] w K) ∧ ((w 131 v2) = 0 → C_X9_works d [.inr (.inr 115), .inl v2] w (fun w1 => ((¬ (w1 115 39) = 0 → (-2147483648 ≤ (v2 + 1) ∧ (v2 + 1) ≤ 2147483647) ∧ W_X9_passes d 70 [some (.inr (.inr 115)), some (.inl v1), some (.inl (v2 + 1))] [] w1 K) ∧ ((w1 115 39) = 0 → C_X9_lays d [.inr (.inr 115), .inl v2] w1 (fun w2 => C_X9_heightOf d [.inr (.inr 115), .inl v2] w2 (fun x1 w3 => (0 ≤ v2 ∧ v2 < 72) ∧ (∀ w4, w4 = wset w3 122 v2 x1 → (0 ≤ v2 ∧ v2 < 72) ∧ (∀ w5, w5 = wset w4 131 v2 1 → (-2147483648 ≤ (v2 + 1) ∧ (v2 + 1) ≤ 2147483647) ∧ W_X9_passes d 70 [some (.inr (.inr 115)), some (.inl 1), some (.inl (v2 + 1))] [] w5 K)))))))))))) :
    W_X9_passes d 70 [some (.inr (.inr 115)), some (.inl v1), some (.inl v2)] [] w K := by
  refine WA.iload_n dX9_passes_70 rfl ?_
  refine WA.bipush dX9_passes_71 ⟨by decide, by decide⟩ ?_
  refine WA.icmp_ge (tgt := 128) dX9_passes_73 (by decide) (fun hc => ?_) (fun hc => ?_)
  · have h := h.1 hc
    refine WA.goto (tgt := 62) dX9_passes_128 (by decide) ?_
    exact WA.sub (als' := [some (.inr (.inr 115)), some (.inl v1), none]) (by simp only [am_sub, and_self]) rfl h
  · have h := h.2 hc
    refine WA.aload_n dX9_passes_76 rfl (by decide) ?_
    refine gxX9_56 rfl rfl dX9_passes_77 ob_115 ?_
    refine WA.iload_n dX9_passes_80 rfl ?_
    obtain ⟨s1, h⟩ := h
    refine WA.zaload dX9_passes_81 ob_131 s1.1 s1.2 ?_
    refine WA.if_ne (tgt := 122) dX9_passes_82 (by decide) (fun hc => ?_) (fun hc => ?_)
    · have h := h.1 hc
      obtain ⟨s2, h⟩ := h
      refine WA.iinc (als' := [some (.inr (.inr 115)), some (.inl v1), some (.inl (v2 + 1))]) dX9_passes_122 rfl s2 rfl ?_
      refine WA.goto (tgt := 70) dX9_passes_125 (by decide) ?_
      exact h
    · have h := h.2 hc
      refine WA.aload_n dX9_passes_85 rfl (by decide) ?_
      refine WA.iload_n dX9_passes_86 rfl ?_
      obtain ⟨d1, hd1, h⟩ := h
      refine WA.callV1 (kc := 0) (ks := 0) (kc' := 0) (ks' := 0) dX9_passes_87 lkX9_348 rfl rfl rfl ob_115 rfl (Nat.le_of_ble_eq_true rfl) hd1 h (fun r w1 hK => ?_)
      obtain ⟨rfl, h⟩ := hK
      change WA _ _ _ _ _ _ _ _ _ _ _ [] _ _
      refine WA.aload_n dX9_passes_90 rfl (by decide) ?_
      refine gfX9_252 rfl dX9_passes_91 ob_115 ?_
      refine WA.if_ne (tgt := 122) dX9_passes_94 (by decide) (fun hc => ?_) (fun hc => ?_)
      · have h := h.1 hc
        obtain ⟨s3, h⟩ := h
        refine WA.iinc (als' := [some (.inr (.inr 115)), some (.inl v1), some (.inl (v2 + 1))]) dX9_passes_122 rfl s3 rfl ?_
        refine WA.goto (tgt := 70) dX9_passes_125 (by decide) ?_
        exact h
      · have h := h.2 hc
        refine WA.aload_n dX9_passes_97 rfl (by decide) ?_
        refine WA.iload_n dX9_passes_98 rfl ?_
        obtain ⟨d1, hd1, h⟩ := h
        refine WA.callV1 (kc := 0) (ks := 0) (kc' := 0) (ks' := 0) dX9_passes_99 lkX9_351 rfl rfl rfl ob_115 rfl (Nat.le_of_ble_eq_true rfl) hd1 h (fun r w2 hK => ?_)
        obtain ⟨rfl, h⟩ := hK
        change WA _ _ _ _ _ _ _ _ _ _ _ [] _ _
        refine WA.aload_n dX9_passes_102 rfl (by decide) ?_
        refine gxX9_29 rfl rfl dX9_passes_103 ob_115 ?_
        refine WA.iload_n dX9_passes_106 rfl ?_
        refine WA.aload_n dX9_passes_107 rfl (by decide) ?_
        refine WA.iload_n dX9_passes_108 rfl ?_
        obtain ⟨d1, hd1, h⟩ := h
        refine WA.callV1 (kc := 0) (ks := 0) (kc' := 0) (ks' := 0) dX9_passes_109 lkX9_354 rfl rfl rfl ob_115 rfl (Nat.le_of_ble_eq_true rfl) hd1 h (fun r w3 hK => ?_)
        obtain ⟨x1, rfl, h⟩ := hK
        change WA _ _ _ _ _ _ _ _ _ _ _ [.inl x1, .inl v2, .inr (.inr 122)] _ _
        obtain ⟨s4, h⟩ := h
        obtain ⟨w4, qw4⟩ : ∃ z, z = wset w3 122 v2 x1 := ⟨_, rfl⟩
        have h := h w4 qw4
        refine WA.iastore dX9_passes_112 ob_122 s4.1 s4.2 ?_
        rw [← qw4]
        refine WA.aload_n dX9_passes_113 rfl (by decide) ?_
        refine gxX9_56 rfl rfl dX9_passes_114 ob_115 ?_
        refine WA.iload_n dX9_passes_117 rfl ?_
        refine WA.iconst dX9_passes_118 ⟨by decide, by decide⟩ ?_
        obtain ⟨s5, h⟩ := h
        obtain ⟨w5, qw5⟩ : ∃ z, z = wset w4 131 v2 1 := ⟨_, rfl⟩
        have h := h w5 qw5
        refine WA.zastore dX9_passes_119 ob_131 s5.1 s5.2 (by decide) ?_
        rw [← qw5]
        refine WA.iconst dX9_passes_120 ⟨by decide, by decide⟩ ?_
        refine WA.istore_n (als' := [some (.inr (.inr 115)), some (.inl 1), some (.inl v2)]) dX9_passes_121 (Nat.le_of_ble_eq_true rfl) rfl ?_
        obtain ⟨s6, h⟩ := h
        refine WA.iinc (als' := [some (.inr (.inr 115)), some (.inl 1), some (.inl (v2 + 1))]) dX9_passes_122 rfl s6 rfl ?_
        refine WA.goto (tgt := 70) dX9_passes_125 (by decide) ?_
        exact h
set_option maxRecDepth 10000 in
theorem e_X9_passes {d : Nat} {w : Wd} {K : Wd → Prop}  
    (h : W_X9_passes d 2 [some (.inr (.inr 115)), some (.inl 0), none] [] w K) :
    E_X9_passes d [.inr (.inr 115)] w K := by
  refine EvA.of (by decide +kernel) (Nat.le_of_ble_eq_true rfl) ?_
  change W_X9_passes d 0 [some (.inr (.inr 115)), none, none] [] w K
  refine WA.iconst dX9_passes_0 ⟨by decide, by decide⟩ ?_
  refine WA.istore_n (als' := [some (.inr (.inr 115)), some (.inl 0), none]) dX9_passes_1 (Nat.le_of_ble_eq_true rfl) rfl ?_
  exact h
set_option maxRecDepth 10000 in
theorem v_X9_cyclic_4 {d : Nat} {w : Wd} {K : Int → Wd → Prop} {v1 v2 : Int}  
    (h : ((72 ≤ v2 → K v1 w) ∧ (¬ (72 ≤ v2) → (0 ≤ v2 ∧ v2 < 72) ∧ (((w 121 v2) = 0 → (-2147483648 ≤ (v1 + 0) ∧ (v1 + 0) ≤ 2147483647) ∧ (-2147483648 ≤ (v2 + 1) ∧ (v2 + 1) ≤ 2147483647) ∧ W_X9_cyclic d 4 [some (.inr (.inr 115)), some (.inl (v1 + 0)), some (.inl (v2 + 1))] [] w K) ∧ (¬ (w 121 v2) = 0 → (-2147483648 ≤ (v1 + 1) ∧ (v1 + 1) ≤ 2147483647) ∧ (-2147483648 ≤ (v2 + 1) ∧ (v2 + 1) ≤ 2147483647) ∧ W_X9_cyclic d 4 [some (.inr (.inr 115)), some (.inl (v1 + 1)), some (.inl (v2 + 1))] [] w K))))) :
    W_X9_cyclic d 4 [some (.inr (.inr 115)), some (.inl v1), some (.inl v2)] [] w K := by
  refine WA.iload_n dX9_cyclic_4 rfl ?_
  refine WA.bipush dX9_cyclic_5 ⟨by decide, by decide⟩ ?_
  refine WA.icmp_ge (tgt := 33) dX9_cyclic_7 (by decide) (fun hc => ?_) (fun hc => ?_)
  · have h := h.1 hc
    refine WA.iload_n dX9_cyclic_33 rfl ?_
    exact WA.ireturn dX9_cyclic_34 ⟨_, rfl, h⟩
  · have h := h.2 hc
    refine WA.iload_n dX9_cyclic_10 rfl ?_
    refine WA.aload_n dX9_cyclic_11 rfl (by decide) ?_
    refine gxX9_25 rfl rfl dX9_cyclic_12 ob_115 ?_
    refine WA.iload_n dX9_cyclic_15 rfl ?_
    obtain ⟨s1, h⟩ := h
    refine WA.zaload dX9_cyclic_16 ob_121 s1.1 s1.2 ?_
    refine WA.if_eq (tgt := 24) dX9_cyclic_17 (by decide) (fun hc => ?_) (fun hc => ?_)
    · have h := h.1 hc
      refine WA.iconst dX9_cyclic_24 ⟨by decide, by decide⟩ ?_
      obtain ⟨s2, h⟩ := h
      refine WA.iadd dX9_cyclic_25 s2 ?_
      refine WA.istore_n (als' := [some (.inr (.inr 115)), some (.inl (v1 + 0)), some (.inl v2)]) dX9_cyclic_26 (Nat.le_of_ble_eq_true rfl) rfl ?_
      obtain ⟨s3, h⟩ := h
      refine WA.iinc (als' := [some (.inr (.inr 115)), some (.inl (v1 + 0)), some (.inl (v2 + 1))]) dX9_cyclic_27 rfl s3 rfl ?_
      refine WA.goto (tgt := 4) dX9_cyclic_30 (by decide) ?_
      exact h
    · have h := h.2 hc
      refine WA.iconst dX9_cyclic_20 ⟨by decide, by decide⟩ ?_
      refine WA.goto (tgt := 25) dX9_cyclic_21 (by decide) ?_
      obtain ⟨s4, h⟩ := h
      refine WA.iadd dX9_cyclic_25 s4 ?_
      refine WA.istore_n (als' := [some (.inr (.inr 115)), some (.inl (v1 + 1)), some (.inl v2)]) dX9_cyclic_26 (Nat.le_of_ble_eq_true rfl) rfl ?_
      obtain ⟨s5, h⟩ := h
      refine WA.iinc (als' := [some (.inr (.inr 115)), some (.inl (v1 + 1)), some (.inl (v2 + 1))]) dX9_cyclic_27 rfl s5 rfl ?_
      refine WA.goto (tgt := 4) dX9_cyclic_30 (by decide) ?_
      exact h
set_option maxRecDepth 10000 in
theorem e_X9_cyclic {d : Nat} {w : Wd} {K : Int → Wd → Prop}  
    (h : W_X9_cyclic d 4 [some (.inr (.inr 115)), some (.inl 0), some (.inl 0)] [] w K) :
    E_X9_cyclic d [.inr (.inr 115)] w K := by
  refine EvA.of (by decide +kernel) (Nat.le_of_ble_eq_true rfl) ?_
  change W_X9_cyclic d 0 [some (.inr (.inr 115)), none, none] [] w K
  refine WA.iconst dX9_cyclic_0 ⟨by decide, by decide⟩ ?_
  refine WA.istore_n (als' := [some (.inr (.inr 115)), some (.inl 0), none]) dX9_cyclic_1 (Nat.le_of_ble_eq_true rfl) rfl ?_
  refine WA.iconst dX9_cyclic_2 ⟨by decide, by decide⟩ ?_
  refine WA.istore_n (als' := [some (.inr (.inr 115)), some (.inl 0), some (.inl 0)]) dX9_cyclic_3 (Nat.le_of_ble_eq_true rfl) rfl ?_
  exact h
set_option maxRecDepth 10000 in
theorem v_X9_round_4 {d : Nat} {w : Wd} {K : Int → Wd → Prop} {v1 v2 : Int}  
    (h : ((72 ≤ v2 → (v1 = 0 ∨ v1 = 1) ∧ K v1 w) ∧ (¬ (72 ≤ v2) → (0 ≤ v2 ∧ v2 < 72) ∧ (((w 121 v2) = 0 → (-2147483648 ≤ (v2 + 1) ∧ (v2 + 1) ≤ 2147483647) ∧ W_X9_round d 4 [some (.inr (.inr 115)), some (.inl v1), some (.inl (v2 + 1)), none, none] [] w K) ∧ (¬ (w 121 v2) = 0 → (0 ≤ v2 ∧ v2 < 72) ∧ (0 ≤ v2 ∧ v2 < 72) ∧ C_X9_works d [.inr (.inr 115), .inl v2] w (fun w1 => C_X9_lays d [.inr (.inr 115), .inl v2] w1 (fun w2 => ((¬ v1 = 0 → (-2147483648 ≤ (v2 + 1) ∧ (v2 + 1) ≤ 2147483647) ∧ W_X9_round d 4 [some (.inr (.inr 115)), some (.inl 1), some (.inl (v2 + 1)), none, none] [] w2 K) ∧ (v1 = 0 → (0 ≤ v2 ∧ v2 < 72) ∧ ((¬ (w2 119 v2) = (w 119 v2) → (-2147483648 ≤ (v2 + 1) ∧ (v2 + 1) ≤ 2147483647) ∧ W_X9_round d 4 [some (.inr (.inr 115)), some (.inl 1), some (.inl (v2 + 1)), none, none] [] w2 K) ∧ ((w2 119 v2) = (w 119 v2) → (0 ≤ v2 ∧ v2 < 72) ∧ (((w2 120 v2) = (w 120 v2) → (-2147483648 ≤ (v2 + 1) ∧ (v2 + 1) ≤ 2147483647) ∧ W_X9_round d 4 [some (.inr (.inr 115)), some (.inl 0), some (.inl (v2 + 1)), none, none] [] w2 K) ∧ (¬ (w2 120 v2) = (w 120 v2) → (-2147483648 ≤ (v2 + 1) ∧ (v2 + 1) ≤ 2147483647) ∧ W_X9_round d 4 [some (.inr (.inr 115)), some (.inl 1), some (.inl (v2 + 1)), none, none] [] w2 K))))))))))))) :
    W_X9_round d 4 [some (.inr (.inr 115)), some (.inl v1), some (.inl v2), none, none] [] w K := by
  refine WA.iload_n dX9_round_4 rfl ?_
  refine WA.bipush dX9_round_5 ⟨by decide, by decide⟩ ?_
  refine WA.icmp_ge (tgt := 81) dX9_round_7 (by decide) (fun hc => ?_) (fun hc => ?_)
  · have h := h.1 hc
    refine WA.iload_n dX9_round_81 rfl ?_
    obtain ⟨s1, h⟩ := h
    exact WA.zreturn dX9_round_82 s1 ⟨_, rfl, h⟩
  · have h := h.2 hc
    refine WA.aload_n dX9_round_10 rfl (by decide) ?_
    refine gxX9_25 rfl rfl dX9_round_11 ob_115 ?_
    refine WA.iload_n dX9_round_14 rfl ?_
    obtain ⟨s2, h⟩ := h
    refine WA.zaload dX9_round_15 ob_121 s2.1 s2.2 ?_
    refine WA.if_eq (tgt := 75) dX9_round_16 (by decide) (fun hc => ?_) (fun hc => ?_)
    · have h := h.1 hc
      obtain ⟨s3, h⟩ := h
      refine WA.iinc (als' := [some (.inr (.inr 115)), some (.inl v1), some (.inl (v2 + 1)), none, none]) dX9_round_75 rfl s3 rfl ?_
      refine WA.goto (tgt := 4) dX9_round_78 (by decide) ?_
      exact h
    · have h := h.2 hc
      refine WA.aload_n dX9_round_19 rfl (by decide) ?_
      refine gxX9_19 rfl rfl dX9_round_20 ob_115 ?_
      refine WA.iload_n dX9_round_23 rfl ?_
      obtain ⟨s4, h⟩ := h
      refine WA.iaload dX9_round_24 ob_119 s4.1 s4.2 ?_
      refine WA.istore_n (als' := [some (.inr (.inr 115)), some (.inl v1), some (.inl v2), some (.inl (w 119 v2)), none]) dX9_round_25 (Nat.le_of_ble_eq_true rfl) rfl ?_
      refine WA.aload_n dX9_round_26 rfl (by decide) ?_
      refine gxX9_22 rfl rfl dX9_round_27 ob_115 ?_
      refine WA.iload_n dX9_round_30 rfl ?_
      obtain ⟨s5, h⟩ := h
      refine WA.iaload dX9_round_31 ob_120 s5.1 s5.2 ?_
      refine WA.istore (als' := [some (.inr (.inr 115)), some (.inl v1), some (.inl v2), some (.inl (w 119 v2)), some (.inl (w 120 v2))]) dX9_round_32 (Nat.le_of_ble_eq_true rfl) rfl ?_
      refine WA.aload_n dX9_round_34 rfl (by decide) ?_
      refine WA.iload_n dX9_round_35 rfl ?_
      obtain ⟨d1, hd1, h⟩ := h
      refine WA.callV1 (kc := 0) (ks := 0) (kc' := 0) (ks' := 0) dX9_round_36 lkX9_348 rfl rfl rfl ob_115 rfl (Nat.le_of_ble_eq_true rfl) hd1 h (fun r w1 hK => ?_)
      obtain ⟨rfl, h⟩ := hK
      change WA _ _ _ _ _ _ _ _ _ _ _ [] _ _
      refine WA.aload_n dX9_round_39 rfl (by decide) ?_
      refine WA.iload_n dX9_round_40 rfl ?_
      obtain ⟨d1, hd1, h⟩ := h
      refine WA.callV1 (kc := 0) (ks := 0) (kc' := 0) (ks' := 0) dX9_round_41 lkX9_351 rfl rfl rfl ob_115 rfl (Nat.le_of_ble_eq_true rfl) hd1 h (fun r w2 hK => ?_)
      obtain ⟨rfl, h⟩ := hK
      change WA _ _ _ _ _ _ _ _ _ _ _ [] _ _
      refine WA.iload_n dX9_round_44 rfl ?_
      refine WA.if_ne (tgt := 69) dX9_round_45 (by decide) (fun hc => ?_) (fun hc => ?_)
      · have h := h.1 hc
        refine WA.iconst dX9_round_69 ⟨by decide, by decide⟩ ?_
        refine WA.goto (tgt := 74) dX9_round_70 (by decide) ?_
        refine WA.istore_n (als' := [some (.inr (.inr 115)), some (.inl 1), some (.inl v2), some (.inl (w 119 v2)), some (.inl (w 120 v2))]) dX9_round_74 (Nat.le_of_ble_eq_true rfl) rfl ?_
        obtain ⟨s6, h⟩ := h
        refine WA.iinc (als' := [some (.inr (.inr 115)), some (.inl 1), some (.inl (v2 + 1)), some (.inl (w 119 v2)), some (.inl (w 120 v2))]) dX9_round_75 rfl s6 rfl ?_
        refine WA.goto (tgt := 4) dX9_round_78 (by decide) ?_
        exact WA.sub (als' := [some (.inr (.inr 115)), some (.inl 1), some (.inl (v2 + 1)), none, none]) (by simp only [am_sub, and_self]) rfl h
      · have h := h.2 hc
        refine WA.aload_n dX9_round_48 rfl (by decide) ?_
        refine gxX9_19 rfl rfl dX9_round_49 ob_115 ?_
        refine WA.iload_n dX9_round_52 rfl ?_
        obtain ⟨s7, h⟩ := h
        refine WA.iaload dX9_round_53 ob_119 s7.1 s7.2 ?_
        refine WA.iload_n dX9_round_54 rfl ?_
        refine WA.icmp_ne (tgt := 69) dX9_round_55 (by decide) (fun hc => ?_) (fun hc => ?_)
        · have h := h.1 hc
          refine WA.iconst dX9_round_69 ⟨by decide, by decide⟩ ?_
          refine WA.goto (tgt := 74) dX9_round_70 (by decide) ?_
          refine WA.istore_n (als' := [some (.inr (.inr 115)), some (.inl 1), some (.inl v2), some (.inl (w 119 v2)), some (.inl (w 120 v2))]) dX9_round_74 (Nat.le_of_ble_eq_true rfl) rfl ?_
          obtain ⟨s8, h⟩ := h
          refine WA.iinc (als' := [some (.inr (.inr 115)), some (.inl 1), some (.inl (v2 + 1)), some (.inl (w 119 v2)), some (.inl (w 120 v2))]) dX9_round_75 rfl s8 rfl ?_
          refine WA.goto (tgt := 4) dX9_round_78 (by decide) ?_
          exact WA.sub (als' := [some (.inr (.inr 115)), some (.inl 1), some (.inl (v2 + 1)), none, none]) (by simp only [am_sub, and_self]) rfl h
        · have h := h.2 hc
          refine WA.aload_n dX9_round_58 rfl (by decide) ?_
          refine gxX9_22 rfl rfl dX9_round_59 ob_115 ?_
          refine WA.iload_n dX9_round_62 rfl ?_
          obtain ⟨s9, h⟩ := h
          refine WA.iaload dX9_round_63 ob_120 s9.1 s9.2 ?_
          refine WA.iload dX9_round_64 rfl ?_
          refine WA.icmp_eq (tgt := 73) dX9_round_66 (by decide) (fun hc => ?_) (fun hc => ?_)
          · have h := h.1 hc
            refine WA.iconst dX9_round_73 ⟨by decide, by decide⟩ ?_
            refine WA.istore_n (als' := [some (.inr (.inr 115)), some (.inl 0), some (.inl v2), some (.inl (w 119 v2)), some (.inl (w 120 v2))]) dX9_round_74 (Nat.le_of_ble_eq_true rfl) rfl ?_
            obtain ⟨s10, h⟩ := h
            refine WA.iinc (als' := [some (.inr (.inr 115)), some (.inl 0), some (.inl (v2 + 1)), some (.inl (w 119 v2)), some (.inl (w 120 v2))]) dX9_round_75 rfl s10 rfl ?_
            refine WA.goto (tgt := 4) dX9_round_78 (by decide) ?_
            exact WA.sub (als' := [some (.inr (.inr 115)), some (.inl 0), some (.inl (v2 + 1)), none, none]) (by simp only [am_sub, and_self]) rfl h
          · have h := h.2 hc
            refine WA.iconst dX9_round_69 ⟨by decide, by decide⟩ ?_
            refine WA.goto (tgt := 74) dX9_round_70 (by decide) ?_
            refine WA.istore_n (als' := [some (.inr (.inr 115)), some (.inl 1), some (.inl v2), some (.inl (w 119 v2)), some (.inl (w 120 v2))]) dX9_round_74 (Nat.le_of_ble_eq_true rfl) rfl ?_
            obtain ⟨s11, h⟩ := h
            refine WA.iinc (als' := [some (.inr (.inr 115)), some (.inl 1), some (.inl (v2 + 1)), some (.inl (w 119 v2)), some (.inl (w 120 v2))]) dX9_round_75 rfl s11 rfl ?_
            refine WA.goto (tgt := 4) dX9_round_78 (by decide) ?_
            exact WA.sub (als' := [some (.inr (.inr 115)), some (.inl 1), some (.inl (v2 + 1)), none, none]) (by simp only [am_sub, and_self]) rfl h
set_option maxRecDepth 10000 in
theorem e_X9_round {d : Nat} {w : Wd} {K : Int → Wd → Prop}  
    (h : W_X9_round d 4 [some (.inr (.inr 115)), some (.inl 0), some (.inl 0), none, none] [] w K) :
    E_X9_round d [.inr (.inr 115)] w K := by
  refine EvA.of (by decide +kernel) (Nat.le_of_ble_eq_true rfl) ?_
  change W_X9_round d 0 [some (.inr (.inr 115)), none, none, none, none] [] w K
  refine WA.iconst dX9_round_0 ⟨by decide, by decide⟩ ?_
  refine WA.istore_n (als' := [some (.inr (.inr 115)), some (.inl 0), none, none, none]) dX9_round_1 (Nat.le_of_ble_eq_true rfl) rfl ?_
  refine WA.iconst dX9_round_2 ⟨by decide, by decide⟩ ?_
  refine WA.istore_n (als' := [some (.inr (.inr 115)), some (.inl 0), some (.inl 0), none, none]) dX9_round_3 (Nat.le_of_ble_eq_true rfl) rfl ?_
  exact h
set_option maxRecDepth 10000 in
theorem v_X9_settles_6 {d : Nat} {w : Wd} {K : Wd → Prop} {v1 : Int}  
    (h : ((72 ≤ v1 → W_X9_settles d 76 [some (.inr (.inr 115)), some (.inl 0)] [] w K) ∧ (¬ (72 ≤ v1) → (0 ≤ v1 ∧ v1 < 72) ∧ ((¬ (w 131 v1) = 0 → (0 ≤ v1 ∧ v1 < 72) ∧ (∀ w1, w1 = wset w 121 v1 0 → (0 ≤ v1 ∧ v1 < 72) ∧ (((w1 121 v1) = 0 → (0 ≤ v1 ∧ v1 < 72) ∧ (0 ≤ v1 ∧ v1 < 72) ∧ (∀ w2, w2 = wset w1 120 v1 (w1 120 v1) → (-2147483648 ≤ (v1 + 1) ∧ (v1 + 1) ≤ 2147483647) ∧ W_X9_settles d 6 [some (.inr (.inr 115)), some (.inl (v1 + 1))] [] w2 K)) ∧ (¬ (w1 121 v1) = 0 → ((¬ (w1 116 2520) = 0 → (0 ≤ v1 ∧ v1 < 72) ∧ (0 ≤ v1 ∧ v1 < 72) ∧ (∀ w3, w3 = wset w1 120 v1 (w1 120 v1) → (-2147483648 ≤ (v1 + 1) ∧ (v1 + 1) ≤ 2147483647) ∧ W_X9_settles d 6 [some (.inr (.inr 115)), some (.inl (v1 + 1))] [] w3 K)) ∧ ((w1 116 2520) = 0 → (0 ≤ v1 ∧ v1 < 72) ∧ (∀ w4, w4 = wset w1 120 v1 4 → (-2147483648 ≤ (v1 + 1) ∧ (v1 + 1) ≤ 2147483647) ∧ W_X9_settles d 6 [some (.inr (.inr 115)), some (.inl (v1 + 1))] [] w4 K))))))) ∧ ((w 131 v1) = 0 → (0 ≤ v1 ∧ v1 < 72) ∧ (∀ w5, w5 = wset w 121 v1 1 → (0 ≤ v1 ∧ v1 < 72) ∧ (((w5 121 v1) = 0 → (0 ≤ v1 ∧ v1 < 72) ∧ (0 ≤ v1 ∧ v1 < 72) ∧ (∀ w6, w6 = wset w5 120 v1 (w5 120 v1) → (-2147483648 ≤ (v1 + 1) ∧ (v1 + 1) ≤ 2147483647) ∧ W_X9_settles d 6 [some (.inr (.inr 115)), some (.inl (v1 + 1))] [] w6 K)) ∧ (¬ (w5 121 v1) = 0 → ((¬ (w5 116 2520) = 0 → (0 ≤ v1 ∧ v1 < 72) ∧ (0 ≤ v1 ∧ v1 < 72) ∧ (∀ w7, w7 = wset w5 120 v1 (w5 120 v1) → (-2147483648 ≤ (v1 + 1) ∧ (v1 + 1) ≤ 2147483647) ∧ W_X9_settles d 6 [some (.inr (.inr 115)), some (.inl (v1 + 1))] [] w7 K)) ∧ ((w5 116 2520) = 0 → (0 ≤ v1 ∧ v1 < 72) ∧ (∀ w8, w8 = wset w5 120 v1 4 → (-2147483648 ≤ (v1 + 1) ∧ (v1 + 1) ≤ 2147483647) ∧ W_X9_settles d 6 [some (.inr (.inr 115)), some (.inl (v1 + 1))] [] w8 K))))))))))) :
    W_X9_settles d 6 [some (.inr (.inr 115)), some (.inl v1)] [] w K := by
  refine WA.iload_n dX9_settles_6 rfl ?_
  refine WA.bipush dX9_settles_7 ⟨by decide, by decide⟩ ?_
  refine WA.icmp_ge (tgt := 74) dX9_settles_9 (by decide) (fun hc => ?_) (fun hc => ?_)
  · have h := h.1 hc
    refine WA.iconst dX9_settles_74 ⟨by decide, by decide⟩ ?_
    refine WA.istore_n (als' := [some (.inr (.inr 115)), some (.inl 0)]) dX9_settles_75 (Nat.le_of_ble_eq_true rfl) rfl ?_
    exact h
  · have h := h.2 hc
    refine WA.aload_n dX9_settles_12 rfl (by decide) ?_
    refine gxX9_25 rfl rfl dX9_settles_13 ob_115 ?_
    refine WA.iload_n dX9_settles_16 rfl ?_
    refine WA.aload_n dX9_settles_17 rfl (by decide) ?_
    refine gxX9_56 rfl rfl dX9_settles_18 ob_115 ?_
    refine WA.iload_n dX9_settles_21 rfl ?_
    obtain ⟨s1, h⟩ := h
    refine WA.zaload dX9_settles_22 ob_131 s1.1 s1.2 ?_
    refine WA.if_ne (tgt := 30) dX9_settles_23 (by decide) (fun hc => ?_) (fun hc => ?_)
    · have h := h.1 hc
      refine WA.iconst dX9_settles_30 ⟨by decide, by decide⟩ ?_
      obtain ⟨s2, h⟩ := h
      obtain ⟨w1, qw1⟩ : ∃ z, z = wset w 121 v1 0 := ⟨_, rfl⟩
      have h := h w1 qw1
      refine WA.zastore dX9_settles_31 ob_121 s2.1 s2.2 (by decide) ?_
      rw [← qw1]
      refine WA.aload_n dX9_settles_32 rfl (by decide) ?_
      refine gxX9_22 rfl rfl dX9_settles_33 ob_115 ?_
      refine WA.iload_n dX9_settles_36 rfl ?_
      refine WA.aload_n dX9_settles_37 rfl (by decide) ?_
      refine gxX9_25 rfl rfl dX9_settles_38 ob_115 ?_
      refine WA.iload_n dX9_settles_41 rfl ?_
      obtain ⟨s3, h⟩ := h
      refine WA.zaload dX9_settles_42 ob_121 s3.1 s3.2 ?_
      refine WA.if_eq (tgt := 61) dX9_settles_43 (by decide) (fun hc => ?_) (fun hc => ?_)
      · have h := h.1 hc
        refine WA.aload_n dX9_settles_61 rfl (by decide) ?_
        refine gxX9_22 rfl rfl dX9_settles_62 ob_115 ?_
        refine WA.iload_n dX9_settles_65 rfl ?_
        obtain ⟨s4, h⟩ := h
        refine WA.iaload dX9_settles_66 ob_120 s4.1 s4.2 ?_
        obtain ⟨s5, h⟩ := h
        obtain ⟨w2, qw2⟩ : ∃ z, z = wset w1 120 v1 (w1 120 v1) := ⟨_, rfl⟩
        have h := h w2 qw2
        refine WA.iastore dX9_settles_67 ob_120 s5.1 s5.2 ?_
        rw [← qw2]
        obtain ⟨s6, h⟩ := h
        refine WA.iinc (als' := [some (.inr (.inr 115)), some (.inl (v1 + 1))]) dX9_settles_68 rfl s6 rfl ?_
        refine WA.goto (tgt := 6) dX9_settles_71 (by decide) ?_
        exact h
      · have h := h.2 hc
        refine WA.aload_n dX9_settles_46 rfl (by decide) ?_
        refine gxX9_7 rfl rfl dX9_settles_47 ob_115 ?_
        refine WA.sipush dX9_settles_50 ⟨by decide, by decide⟩ ?_
        refine WA.iaload dX9_settles_53 ob_116 (by decide) (by decide) ?_
        refine WA.if_ne (tgt := 61) dX9_settles_54 (by decide) (fun hc => ?_) (fun hc => ?_)
        · have h := h.1 hc
          refine WA.aload_n dX9_settles_61 rfl (by decide) ?_
          refine gxX9_22 rfl rfl dX9_settles_62 ob_115 ?_
          refine WA.iload_n dX9_settles_65 rfl ?_
          obtain ⟨s7, h⟩ := h
          refine WA.iaload dX9_settles_66 ob_120 s7.1 s7.2 ?_
          obtain ⟨s8, h⟩ := h
          obtain ⟨w3, qw3⟩ : ∃ z, z = wset w1 120 v1 (w1 120 v1) := ⟨_, rfl⟩
          have h := h w3 qw3
          refine WA.iastore dX9_settles_67 ob_120 s8.1 s8.2 ?_
          rw [← qw3]
          obtain ⟨s9, h⟩ := h
          refine WA.iinc (als' := [some (.inr (.inr 115)), some (.inl (v1 + 1))]) dX9_settles_68 rfl s9 rfl ?_
          refine WA.goto (tgt := 6) dX9_settles_71 (by decide) ?_
          exact h
        · have h := h.2 hc
          refine WA.iconst dX9_settles_57 ⟨by decide, by decide⟩ ?_
          refine WA.goto (tgt := 67) dX9_settles_58 (by decide) ?_
          obtain ⟨s10, h⟩ := h
          obtain ⟨w4, qw4⟩ : ∃ z, z = wset w1 120 v1 4 := ⟨_, rfl⟩
          have h := h w4 qw4
          refine WA.iastore dX9_settles_67 ob_120 s10.1 s10.2 ?_
          rw [← qw4]
          obtain ⟨s11, h⟩ := h
          refine WA.iinc (als' := [some (.inr (.inr 115)), some (.inl (v1 + 1))]) dX9_settles_68 rfl s11 rfl ?_
          refine WA.goto (tgt := 6) dX9_settles_71 (by decide) ?_
          exact h
    · have h := h.2 hc
      refine WA.iconst dX9_settles_26 ⟨by decide, by decide⟩ ?_
      refine WA.goto (tgt := 31) dX9_settles_27 (by decide) ?_
      obtain ⟨s12, h⟩ := h
      obtain ⟨w5, qw5⟩ : ∃ z, z = wset w 121 v1 1 := ⟨_, rfl⟩
      have h := h w5 qw5
      refine WA.zastore dX9_settles_31 ob_121 s12.1 s12.2 (by decide) ?_
      rw [← qw5]
      refine WA.aload_n dX9_settles_32 rfl (by decide) ?_
      refine gxX9_22 rfl rfl dX9_settles_33 ob_115 ?_
      refine WA.iload_n dX9_settles_36 rfl ?_
      refine WA.aload_n dX9_settles_37 rfl (by decide) ?_
      refine gxX9_25 rfl rfl dX9_settles_38 ob_115 ?_
      refine WA.iload_n dX9_settles_41 rfl ?_
      obtain ⟨s13, h⟩ := h
      refine WA.zaload dX9_settles_42 ob_121 s13.1 s13.2 ?_
      refine WA.if_eq (tgt := 61) dX9_settles_43 (by decide) (fun hc => ?_) (fun hc => ?_)
      · have h := h.1 hc
        refine WA.aload_n dX9_settles_61 rfl (by decide) ?_
        refine gxX9_22 rfl rfl dX9_settles_62 ob_115 ?_
        refine WA.iload_n dX9_settles_65 rfl ?_
        obtain ⟨s14, h⟩ := h
        refine WA.iaload dX9_settles_66 ob_120 s14.1 s14.2 ?_
        obtain ⟨s15, h⟩ := h
        obtain ⟨w6, qw6⟩ : ∃ z, z = wset w5 120 v1 (w5 120 v1) := ⟨_, rfl⟩
        have h := h w6 qw6
        refine WA.iastore dX9_settles_67 ob_120 s15.1 s15.2 ?_
        rw [← qw6]
        obtain ⟨s16, h⟩ := h
        refine WA.iinc (als' := [some (.inr (.inr 115)), some (.inl (v1 + 1))]) dX9_settles_68 rfl s16 rfl ?_
        refine WA.goto (tgt := 6) dX9_settles_71 (by decide) ?_
        exact h
      · have h := h.2 hc
        refine WA.aload_n dX9_settles_46 rfl (by decide) ?_
        refine gxX9_7 rfl rfl dX9_settles_47 ob_115 ?_
        refine WA.sipush dX9_settles_50 ⟨by decide, by decide⟩ ?_
        refine WA.iaload dX9_settles_53 ob_116 (by decide) (by decide) ?_
        refine WA.if_ne (tgt := 61) dX9_settles_54 (by decide) (fun hc => ?_) (fun hc => ?_)
        · have h := h.1 hc
          refine WA.aload_n dX9_settles_61 rfl (by decide) ?_
          refine gxX9_22 rfl rfl dX9_settles_62 ob_115 ?_
          refine WA.iload_n dX9_settles_65 rfl ?_
          obtain ⟨s17, h⟩ := h
          refine WA.iaload dX9_settles_66 ob_120 s17.1 s17.2 ?_
          obtain ⟨s18, h⟩ := h
          obtain ⟨w7, qw7⟩ : ∃ z, z = wset w5 120 v1 (w5 120 v1) := ⟨_, rfl⟩
          have h := h w7 qw7
          refine WA.iastore dX9_settles_67 ob_120 s18.1 s18.2 ?_
          rw [← qw7]
          obtain ⟨s19, h⟩ := h
          refine WA.iinc (als' := [some (.inr (.inr 115)), some (.inl (v1 + 1))]) dX9_settles_68 rfl s19 rfl ?_
          refine WA.goto (tgt := 6) dX9_settles_71 (by decide) ?_
          exact h
        · have h := h.2 hc
          refine WA.iconst dX9_settles_57 ⟨by decide, by decide⟩ ?_
          refine WA.goto (tgt := 67) dX9_settles_58 (by decide) ?_
          obtain ⟨s20, h⟩ := h
          obtain ⟨w8, qw8⟩ : ∃ z, z = wset w5 120 v1 4 := ⟨_, rfl⟩
          have h := h w8 qw8
          refine WA.iastore dX9_settles_67 ob_120 s20.1 s20.2 ?_
          rw [← qw8]
          obtain ⟨s21, h⟩ := h
          refine WA.iinc (als' := [some (.inr (.inr 115)), some (.inl (v1 + 1))]) dX9_settles_68 rfl s21 rfl ?_
          refine WA.goto (tgt := 6) dX9_settles_71 (by decide) ?_
          exact h
set_option maxRecDepth 10000 in
theorem v_X9_settles_76 {d : Nat} {w : Wd} {K : Wd → Prop} {v1 : Int}  
    (h : ((72 ≤ v1 → (∀ w1, w1 = wset w 115 19 0 → C_X9_cyclic d [.inr (.inr 115)] w1 (fun x1 w2 => ((¬ x1 = 0 → (∀ w3, w3 = wset w2 115 20 0 → C_X9_cyclic d [.inr (.inr 115)] w3 (fun x2 w4 => ((x2 ≤ 0 → ((¬ (w4 116 2520) = 0 → W_X9_settles d 159 [some (.inr (.inr 115)), some (.inl 0)] [] w4 K) ∧ ((w4 116 2520) = 0 → W_X9_settles d 159 [some (.inr (.inr 115)), some (.inl 0)] [] w4 K))) ∧ (¬ (x2 ≤ 0) → ((¬ (w4 116 2520) = 0 → W_X9_settles d 159 [some (.inr (.inr 115)), some (.inl 1)] [] w4 K) ∧ ((w4 116 2520) = 0 → C_X9_round d [.inr (.inr 115)] w4 (fun x3 w5 => ((x3 = 0 → W_X9_settles d 159 [some (.inr (.inr 115)), some (.inl 0)] [] w5 K) ∧ (¬ x3 = 0 → W_X9_settles d 159 [some (.inr (.inr 115)), some (.inl 0)] [] w5 K)))))))))) ∧ (x1 = 0 → (∀ w6, w6 = wset w2 115 20 1 → C_X9_cyclic d [.inr (.inr 115)] w6 (fun x4 w7 => ((x4 ≤ 0 → ((¬ (w7 116 2520) = 0 → W_X9_settles d 159 [some (.inr (.inr 115)), some (.inl 0)] [] w7 K) ∧ ((w7 116 2520) = 0 → W_X9_settles d 159 [some (.inr (.inr 115)), some (.inl 0)] [] w7 K))) ∧ (¬ (x4 ≤ 0) → ((¬ (w7 116 2520) = 0 → W_X9_settles d 159 [some (.inr (.inr 115)), some (.inl 1)] [] w7 K) ∧ ((w7 116 2520) = 0 → C_X9_round d [.inr (.inr 115)] w7 (fun x5 w8 => ((x5 = 0 → W_X9_settles d 159 [some (.inr (.inr 115)), some (.inl 0)] [] w8 K) ∧ (¬ x5 = 0 → W_X9_settles d 159 [some (.inr (.inr 115)), some (.inl 0)] [] w8 K)))))))))))))) ∧ (¬ (72 ≤ v1) → (0 ≤ v1 ∧ v1 < 72) ∧ (∀ w9, w9 = wset w 131 v1 1 → (-2147483648 ≤ (v1 + 1) ∧ (v1 + 1) ≤ 2147483647) ∧ W_X9_settles d 76 [some (.inr (.inr 115)), some (.inl (v1 + 1))] [] w9 K)))) :
    W_X9_settles d 76 [some (.inr (.inr 115)), some (.inl v1)] [] w K := by
  refine WA.iload_n dX9_settles_76 rfl ?_
  refine WA.bipush dX9_settles_77 ⟨by decide, by decide⟩ ?_
  refine WA.icmp_ge (tgt := 95) dX9_settles_79 (by decide) (fun hc => ?_) (fun hc => ?_)
  · have h := h.1 hc
    refine WA.aload_n dX9_settles_95 rfl (by decide) ?_
    refine WA.iconst dX9_settles_96 ⟨by decide, by decide⟩ ?_
    obtain ⟨w1, qw1⟩ : ∃ z, z = wset w 115 19 0 := ⟨_, rfl⟩
    have h := h w1 qw1
    refine pfX9_360 rfl dX9_settles_97 ob_115 ?_
    rw [← qw1]
    refine WA.aload_n dX9_settles_100 rfl (by decide) ?_
    refine WA.aload_n dX9_settles_101 rfl (by decide) ?_
    obtain ⟨d1, hd1, h⟩ := h
    refine WA.callV0 (kc := 0) (ks := 0) (kc' := 0) (ks' := 0) dX9_settles_102 lkX9_363 rfl rfl rfl ob_115 rfl (Nat.le_of_ble_eq_true rfl) hd1 h (fun r w2 hK => ?_)
    obtain ⟨x1, rfl, h⟩ := hK
    change WA _ _ _ _ _ _ _ _ _ _ _ [.inl x1, .inr (.inr 115)] _ _
    refine WA.if_ne (tgt := 112) dX9_settles_105 (by decide) (fun hc => ?_) (fun hc => ?_)
    · have h := h.1 hc
      refine WA.iconst dX9_settles_112 ⟨by decide, by decide⟩ ?_
      obtain ⟨w3, qw3⟩ : ∃ z, z = wset w2 115 20 0 := ⟨_, rfl⟩
      have h := h w3 qw3
      refine pfX9_62 rfl dX9_settles_113 ob_115 (by decide) ?_
      rw [← qw3]
      refine WA.aload_n dX9_settles_116 rfl (by decide) ?_
      obtain ⟨d1, hd1, h⟩ := h
      refine WA.callV0 (kc := 0) (ks := 0) (kc' := 0) (ks' := 0) dX9_settles_117 lkX9_363 rfl rfl rfl ob_115 rfl (Nat.le_of_ble_eq_true rfl) hd1 h (fun r w4 hK => ?_)
      obtain ⟨x2, rfl, h⟩ := hK
      change WA _ _ _ _ _ _ _ _ _ _ _ [.inl x2] _ _
      refine WA.if_le (tgt := 127) dX9_settles_120 (by decide) (fun hc => ?_) (fun hc => ?_)
      · have h := h.1 hc
        refine WA.iconst dX9_settles_127 ⟨by decide, by decide⟩ ?_
        refine WA.istore_n (als' := [some (.inr (.inr 115)), some (.inl 0)]) dX9_settles_128 (Nat.le_of_ble_eq_true rfl) rfl ?_
        refine WA.aload_n dX9_settles_129 rfl (by decide) ?_
        refine gxX9_7 rfl rfl dX9_settles_130 ob_115 ?_
        refine WA.sipush dX9_settles_133 ⟨by decide, by decide⟩ ?_
        refine WA.iaload dX9_settles_136 ob_116 (by decide) (by decide) ?_
        refine WA.if_ne (tgt := 159) dX9_settles_137 (by decide) (fun hc => ?_) (fun hc => ?_)
        · have h := h.1 hc
          exact h
        · have h := h.2 hc
          refine WA.iload_n dX9_settles_140 rfl ?_
          refine WA.if_eq (tgt := 155) dX9_settles_141 (by decide) (fun _ => ?_) (fun hc => absurd hc (by decide))
          refine WA.iconst dX9_settles_155 ⟨by decide, by decide⟩ ?_
          refine WA.istore_n (als' := [some (.inr (.inr 115)), some (.inl 0)]) dX9_settles_156 (Nat.le_of_ble_eq_true rfl) rfl ?_
          refine WA.iconst dX9_settles_157 ⟨by decide, by decide⟩ ?_
          refine WA.istore_n (als' := [some (.inr (.inr 115)), some (.inl 0)]) dX9_settles_158 (Nat.le_of_ble_eq_true rfl) rfl ?_
          exact h
      · have h := h.2 hc
        refine WA.iconst dX9_settles_123 ⟨by decide, by decide⟩ ?_
        refine WA.goto (tgt := 128) dX9_settles_124 (by decide) ?_
        refine WA.istore_n (als' := [some (.inr (.inr 115)), some (.inl 1)]) dX9_settles_128 (Nat.le_of_ble_eq_true rfl) rfl ?_
        refine WA.aload_n dX9_settles_129 rfl (by decide) ?_
        refine gxX9_7 rfl rfl dX9_settles_130 ob_115 ?_
        refine WA.sipush dX9_settles_133 ⟨by decide, by decide⟩ ?_
        refine WA.iaload dX9_settles_136 ob_116 (by decide) (by decide) ?_
        refine WA.if_ne (tgt := 159) dX9_settles_137 (by decide) (fun hc => ?_) (fun hc => ?_)
        · have h := h.1 hc
          exact h
        · have h := h.2 hc
          refine WA.iload_n dX9_settles_140 rfl ?_
          refine WA.if_eq (tgt := 155) dX9_settles_141 (by decide) (fun hc => absurd hc (by decide)) (fun _ => ?_)
          refine WA.aload_n dX9_settles_144 rfl (by decide) ?_
          obtain ⟨d1, hd1, h⟩ := h
          refine WA.callV0 (kc := 0) (ks := 0) (kc' := 0) (ks' := 0) dX9_settles_145 lkX9_366 rfl rfl rfl ob_115 rfl (Nat.le_of_ble_eq_true rfl) hd1 h (fun r w5 hK => ?_)
          obtain ⟨x3, rfl, h⟩ := hK
          change WA _ _ _ _ _ _ _ _ _ _ _ [.inl x3] _ _
          refine WA.if_eq (tgt := 155) dX9_settles_148 (by decide) (fun hc => ?_) (fun hc => ?_)
          · have h := h.1 hc
            refine WA.iconst dX9_settles_155 ⟨by decide, by decide⟩ ?_
            refine WA.istore_n (als' := [some (.inr (.inr 115)), some (.inl 0)]) dX9_settles_156 (Nat.le_of_ble_eq_true rfl) rfl ?_
            refine WA.iconst dX9_settles_157 ⟨by decide, by decide⟩ ?_
            refine WA.istore_n (als' := [some (.inr (.inr 115)), some (.inl 0)]) dX9_settles_158 (Nat.le_of_ble_eq_true rfl) rfl ?_
            exact h
          · have h := h.2 hc
            refine WA.iconst dX9_settles_151 ⟨by decide, by decide⟩ ?_
            refine WA.goto (tgt := 156) dX9_settles_152 (by decide) ?_
            refine WA.istore_n (als' := [some (.inr (.inr 115)), some (.inl 1)]) dX9_settles_156 (Nat.le_of_ble_eq_true rfl) rfl ?_
            refine WA.iconst dX9_settles_157 ⟨by decide, by decide⟩ ?_
            refine WA.istore_n (als' := [some (.inr (.inr 115)), some (.inl 0)]) dX9_settles_158 (Nat.le_of_ble_eq_true rfl) rfl ?_
            exact h
    · have h := h.2 hc
      refine WA.iconst dX9_settles_108 ⟨by decide, by decide⟩ ?_
      refine WA.goto (tgt := 113) dX9_settles_109 (by decide) ?_
      obtain ⟨w6, qw6⟩ : ∃ z, z = wset w2 115 20 1 := ⟨_, rfl⟩
      have h := h w6 qw6
      refine pfX9_62 rfl dX9_settles_113 ob_115 (by decide) ?_
      rw [← qw6]
      refine WA.aload_n dX9_settles_116 rfl (by decide) ?_
      obtain ⟨d1, hd1, h⟩ := h
      refine WA.callV0 (kc := 0) (ks := 0) (kc' := 0) (ks' := 0) dX9_settles_117 lkX9_363 rfl rfl rfl ob_115 rfl (Nat.le_of_ble_eq_true rfl) hd1 h (fun r w7 hK => ?_)
      obtain ⟨x4, rfl, h⟩ := hK
      change WA _ _ _ _ _ _ _ _ _ _ _ [.inl x4] _ _
      refine WA.if_le (tgt := 127) dX9_settles_120 (by decide) (fun hc => ?_) (fun hc => ?_)
      · have h := h.1 hc
        refine WA.iconst dX9_settles_127 ⟨by decide, by decide⟩ ?_
        refine WA.istore_n (als' := [some (.inr (.inr 115)), some (.inl 0)]) dX9_settles_128 (Nat.le_of_ble_eq_true rfl) rfl ?_
        refine WA.aload_n dX9_settles_129 rfl (by decide) ?_
        refine gxX9_7 rfl rfl dX9_settles_130 ob_115 ?_
        refine WA.sipush dX9_settles_133 ⟨by decide, by decide⟩ ?_
        refine WA.iaload dX9_settles_136 ob_116 (by decide) (by decide) ?_
        refine WA.if_ne (tgt := 159) dX9_settles_137 (by decide) (fun hc => ?_) (fun hc => ?_)
        · have h := h.1 hc
          exact h
        · have h := h.2 hc
          refine WA.iload_n dX9_settles_140 rfl ?_
          refine WA.if_eq (tgt := 155) dX9_settles_141 (by decide) (fun _ => ?_) (fun hc => absurd hc (by decide))
          refine WA.iconst dX9_settles_155 ⟨by decide, by decide⟩ ?_
          refine WA.istore_n (als' := [some (.inr (.inr 115)), some (.inl 0)]) dX9_settles_156 (Nat.le_of_ble_eq_true rfl) rfl ?_
          refine WA.iconst dX9_settles_157 ⟨by decide, by decide⟩ ?_
          refine WA.istore_n (als' := [some (.inr (.inr 115)), some (.inl 0)]) dX9_settles_158 (Nat.le_of_ble_eq_true rfl) rfl ?_
          exact h
      · have h := h.2 hc
        refine WA.iconst dX9_settles_123 ⟨by decide, by decide⟩ ?_
        refine WA.goto (tgt := 128) dX9_settles_124 (by decide) ?_
        refine WA.istore_n (als' := [some (.inr (.inr 115)), some (.inl 1)]) dX9_settles_128 (Nat.le_of_ble_eq_true rfl) rfl ?_
        refine WA.aload_n dX9_settles_129 rfl (by decide) ?_
        refine gxX9_7 rfl rfl dX9_settles_130 ob_115 ?_
        refine WA.sipush dX9_settles_133 ⟨by decide, by decide⟩ ?_
        refine WA.iaload dX9_settles_136 ob_116 (by decide) (by decide) ?_
        refine WA.if_ne (tgt := 159) dX9_settles_137 (by decide) (fun hc => ?_) (fun hc => ?_)
        · have h := h.1 hc
          exact h
        · have h := h.2 hc
          refine WA.iload_n dX9_settles_140 rfl ?_
          refine WA.if_eq (tgt := 155) dX9_settles_141 (by decide) (fun hc => absurd hc (by decide)) (fun _ => ?_)
          refine WA.aload_n dX9_settles_144 rfl (by decide) ?_
          obtain ⟨d1, hd1, h⟩ := h
          refine WA.callV0 (kc := 0) (ks := 0) (kc' := 0) (ks' := 0) dX9_settles_145 lkX9_366 rfl rfl rfl ob_115 rfl (Nat.le_of_ble_eq_true rfl) hd1 h (fun r w8 hK => ?_)
          obtain ⟨x5, rfl, h⟩ := hK
          change WA _ _ _ _ _ _ _ _ _ _ _ [.inl x5] _ _
          refine WA.if_eq (tgt := 155) dX9_settles_148 (by decide) (fun hc => ?_) (fun hc => ?_)
          · have h := h.1 hc
            refine WA.iconst dX9_settles_155 ⟨by decide, by decide⟩ ?_
            refine WA.istore_n (als' := [some (.inr (.inr 115)), some (.inl 0)]) dX9_settles_156 (Nat.le_of_ble_eq_true rfl) rfl ?_
            refine WA.iconst dX9_settles_157 ⟨by decide, by decide⟩ ?_
            refine WA.istore_n (als' := [some (.inr (.inr 115)), some (.inl 0)]) dX9_settles_158 (Nat.le_of_ble_eq_true rfl) rfl ?_
            exact h
          · have h := h.2 hc
            refine WA.iconst dX9_settles_151 ⟨by decide, by decide⟩ ?_
            refine WA.goto (tgt := 156) dX9_settles_152 (by decide) ?_
            refine WA.istore_n (als' := [some (.inr (.inr 115)), some (.inl 1)]) dX9_settles_156 (Nat.le_of_ble_eq_true rfl) rfl ?_
            refine WA.iconst dX9_settles_157 ⟨by decide, by decide⟩ ?_
            refine WA.istore_n (als' := [some (.inr (.inr 115)), some (.inl 0)]) dX9_settles_158 (Nat.le_of_ble_eq_true rfl) rfl ?_
            exact h
  · have h := h.2 hc
    refine WA.aload_n dX9_settles_82 rfl (by decide) ?_
    refine gxX9_56 rfl rfl dX9_settles_83 ob_115 ?_
    refine WA.iload_n dX9_settles_86 rfl ?_
    refine WA.iconst dX9_settles_87 ⟨by decide, by decide⟩ ?_
    obtain ⟨s1, h⟩ := h
    obtain ⟨w9, qw9⟩ : ∃ z, z = wset w 131 v1 1 := ⟨_, rfl⟩
    have h := h w9 qw9
    refine WA.zastore dX9_settles_88 ob_131 s1.1 s1.2 (by decide) ?_
    rw [← qw9]
    obtain ⟨s2, h⟩ := h
    refine WA.iinc (als' := [some (.inr (.inr 115)), some (.inl (v1 + 1))]) dX9_settles_89 rfl s2 rfl ?_
    refine WA.goto (tgt := 76) dX9_settles_92 (by decide) ?_
    exact h
set_option maxRecDepth 10000 in
theorem v_X9_settles_159 {d : Nat} {w : Wd} {K : Wd → Prop} {v1 : Int}  
    (h : ((v1 = 0 → K w) ∧ (¬ v1 = 0 → (((w 116 2520) ≤ (w 115 19) → K w) ∧ (¬ ((w 116 2520) ≤ (w 115 19)) → C_X9_round d [.inr (.inr 115)] w (fun x1 w1 => (-2147483648 ≤ ((w1 115 19) + 1) ∧ ((w1 115 19) + 1) ≤ 2147483647) ∧ (∀ w2, w2 = wset w1 115 19 ((w1 115 19) + 1) → ((¬ x1 = 0 → (∀ w3, w3 = wset w2 115 20 0 → W_X9_settles d 159 [some (.inr (.inr 115)), some (.inl x1)] [] w3 K)) ∧ (x1 = 0 → (∀ w4, w4 = wset w2 115 20 1 → W_X9_settles d 159 [some (.inr (.inr 115)), some (.inl x1)] [] w4 K)))))))))) :
    W_X9_settles d 159 [some (.inr (.inr 115)), some (.inl v1)] [] w K := by
  refine WA.iload_n dX9_settles_159 rfl ?_
  refine WA.if_eq (tgt := 209) dX9_settles_160 (by decide) (fun hc => ?_) (fun hc => ?_)
  · have h := h.1 hc
    exact WA.vreturn dX9_settles_209 ⟨rfl, h⟩
  · have h := h.2 hc
    refine WA.aload_n dX9_settles_163 rfl (by decide) ?_
    refine gfX9_360 rfl dX9_settles_164 ob_115 ?_
    refine WA.aload_n dX9_settles_167 rfl (by decide) ?_
    refine gxX9_7 rfl rfl dX9_settles_168 ob_115 ?_
    refine WA.sipush dX9_settles_171 ⟨by decide, by decide⟩ ?_
    refine WA.iaload dX9_settles_174 ob_116 (by decide) (by decide) ?_
    refine WA.icmp_ge (tgt := 209) dX9_settles_175 (by decide) (fun hc => ?_) (fun hc => ?_)
    · have h := h.1 hc
      exact WA.vreturn dX9_settles_209 ⟨rfl, h⟩
    · have h := h.2 hc
      refine WA.aload_n dX9_settles_178 rfl (by decide) ?_
      obtain ⟨d1, hd1, h⟩ := h
      refine WA.callV0 (kc := 0) (ks := 0) (kc' := 0) (ks' := 0) dX9_settles_179 lkX9_366 rfl rfl rfl ob_115 rfl (Nat.le_of_ble_eq_true rfl) hd1 h (fun r w1 hK => ?_)
      obtain ⟨x1, rfl, h⟩ := hK
      change WA _ _ _ _ _ _ _ _ _ _ _ [.inl x1] _ _
      refine WA.istore_n (als' := [some (.inr (.inr 115)), some (.inl x1)]) dX9_settles_182 (Nat.le_of_ble_eq_true rfl) rfl ?_
      refine WA.aload_n dX9_settles_183 rfl (by decide) ?_
      refine WA.dup dX9_settles_184 rfl ?_
      refine gfX9_360 rfl dX9_settles_185 ob_115 ?_
      refine WA.iconst dX9_settles_188 ⟨by decide, by decide⟩ ?_
      obtain ⟨s1, h⟩ := h
      refine WA.iadd dX9_settles_189 s1 ?_
      obtain ⟨w2, qw2⟩ : ∃ z, z = wset w1 115 19 ((w1 115 19) + 1) := ⟨_, rfl⟩
      have h := h w2 qw2
      refine pfX9_360 rfl dX9_settles_190 ob_115 ?_
      rw [← qw2]
      refine WA.aload_n dX9_settles_193 rfl (by decide) ?_
      refine WA.iload_n dX9_settles_194 rfl ?_
      refine WA.if_ne (tgt := 202) dX9_settles_195 (by decide) (fun hc => ?_) (fun hc => ?_)
      · have h := h.1 hc
        refine WA.iconst dX9_settles_202 ⟨by decide, by decide⟩ ?_
        obtain ⟨w3, qw3⟩ : ∃ z, z = wset w2 115 20 0 := ⟨_, rfl⟩
        have h := h w3 qw3
        refine pfX9_62 rfl dX9_settles_203 ob_115 (by decide) ?_
        rw [← qw3]
        refine WA.goto (tgt := 159) dX9_settles_206 (by decide) ?_
        exact h
      · have h := h.2 hc
        refine WA.iconst dX9_settles_198 ⟨by decide, by decide⟩ ?_
        refine WA.goto (tgt := 203) dX9_settles_199 (by decide) ?_
        obtain ⟨w4, qw4⟩ : ∃ z, z = wset w2 115 20 1 := ⟨_, rfl⟩
        have h := h w4 qw4
        refine pfX9_62 rfl dX9_settles_203 ob_115 (by decide) ?_
        rw [← qw4]
        refine WA.goto (tgt := 159) dX9_settles_206 (by decide) ?_
        exact h
set_option maxRecDepth 10000 in
theorem e_X9_settles {d : Nat} {w : Wd} {K : Wd → Prop}  
    (h : C_X9_passes d [.inr (.inr 115)] w (fun w1 => W_X9_settles d 6 [some (.inr (.inr 115)), some (.inl 0)] [] w1 K)) :
    E_X9_settles d [.inr (.inr 115)] w K := by
  refine EvA.of (by decide +kernel) (Nat.le_of_ble_eq_true rfl) ?_
  change W_X9_settles d 0 [some (.inr (.inr 115)), none] [] w K
  refine WA.aload_n dX9_settles_0 rfl (by decide) ?_
  obtain ⟨d1, hd1, h⟩ := h
  refine WA.callV0 (kc := 0) (ks := 0) (kc' := 0) (ks' := 0) dX9_settles_1 lkX9_357 rfl rfl rfl ob_115 rfl (Nat.le_of_ble_eq_true rfl) hd1 h (fun r w1 hK => ?_)
  obtain ⟨rfl, h⟩ := hK
  change WA _ _ _ _ _ _ _ _ _ _ _ [] _ _
  refine WA.iconst dX9_settles_4 ⟨by decide, by decide⟩ ?_
  refine WA.istore_n (als' := [some (.inr (.inr 115)), some (.inl 0)]) dX9_settles_5 (Nat.le_of_ble_eq_true rfl) rfl ?_
  exact h
set_option maxRecDepth 10000 in
theorem v_X9_remembers_2 {d : Nat} {w : Wd} {K : Wd → Prop} {v1 : Int}  
    (h : ((72 ≤ v1 → W_X9_remembers d 82 [some (.inr (.inr 115)), some (.inl 0)] [] w K) ∧ (¬ (72 ≤ v1) → (0 ≤ v1 ∧ v1 < 72) ∧ (0 ≤ v1 ∧ v1 < 72) ∧ (∀ w1, w1 = wset w 125 v1 (w 119 v1) → (0 ≤ v1 ∧ v1 < 72) ∧ (0 ≤ v1 ∧ v1 < 72) ∧ (∀ w2, w2 = wset w1 126 v1 (w1 120 v1) → (0 ≤ v1 ∧ v1 < 72) ∧ (0 ≤ v1 ∧ v1 < 72) ∧ ((w2 121 v1) = 0 ∨ (w2 121 v1) = 1) ∧ (∀ w3, w3 = wset w2 127 v1 (w2 121 v1) → C_X9_isEmpty d [.inr (.inr 115), .inl v1] w3 (fun x1 w4 => (0 ≤ v1 ∧ v1 < 72) ∧ (x1 = 0 ∨ x1 = 1) ∧ (∀ w5, w5 = wset w4 128 v1 x1 → (0 ≤ v1 ∧ v1 < 72) ∧ (0 ≤ v1 ∧ v1 < 72) ∧ (∀ w6, w6 = wset w5 129 v1 (w5 123 v1) → (0 ≤ v1 ∧ v1 < 72) ∧ (∀ w7, w7 = wset w6 132 v1 0 → (-2147483648 ≤ (v1 + 1) ∧ (v1 + 1) ≤ 2147483647) ∧ W_X9_remembers d 2 [some (.inr (.inr 115)), some (.inl (v1 + 1))] [] w7 K)))))))))) :
    W_X9_remembers d 2 [some (.inr (.inr 115)), some (.inl v1)] [] w K := by
  refine WA.iload_n dX9_remembers_2 rfl ?_
  refine WA.bipush dX9_remembers_3 ⟨by decide, by decide⟩ ?_
  refine WA.icmp_ge (tgt := 80) dX9_remembers_5 (by decide) (fun hc => ?_) (fun hc => ?_)
  · have h := h.1 hc
    refine WA.iconst dX9_remembers_80 ⟨by decide, by decide⟩ ?_
    refine WA.istore_n (als' := [some (.inr (.inr 115)), some (.inl 0)]) dX9_remembers_81 (Nat.le_of_ble_eq_true rfl) rfl ?_
    exact h
  · have h := h.2 hc
    refine WA.aload_n dX9_remembers_8 rfl (by decide) ?_
    refine gxX9_38 rfl rfl dX9_remembers_9 ob_115 ?_
    refine WA.iload_n dX9_remembers_12 rfl ?_
    refine WA.aload_n dX9_remembers_13 rfl (by decide) ?_
    refine gxX9_19 rfl rfl dX9_remembers_14 ob_115 ?_
    refine WA.iload_n dX9_remembers_17 rfl ?_
    obtain ⟨s1, h⟩ := h
    refine WA.iaload dX9_remembers_18 ob_119 s1.1 s1.2 ?_
    obtain ⟨s2, h⟩ := h
    obtain ⟨w1, qw1⟩ : ∃ z, z = wset w 125 v1 (w 119 v1) := ⟨_, rfl⟩
    have h := h w1 qw1
    refine WA.iastore dX9_remembers_19 ob_125 s2.1 s2.2 ?_
    rw [← qw1]
    refine WA.aload_n dX9_remembers_20 rfl (by decide) ?_
    refine gxX9_41 rfl rfl dX9_remembers_21 ob_115 ?_
    refine WA.iload_n dX9_remembers_24 rfl ?_
    refine WA.aload_n dX9_remembers_25 rfl (by decide) ?_
    refine gxX9_22 rfl rfl dX9_remembers_26 ob_115 ?_
    refine WA.iload_n dX9_remembers_29 rfl ?_
    obtain ⟨s3, h⟩ := h
    refine WA.iaload dX9_remembers_30 ob_120 s3.1 s3.2 ?_
    obtain ⟨s4, h⟩ := h
    obtain ⟨w2, qw2⟩ : ∃ z, z = wset w1 126 v1 (w1 120 v1) := ⟨_, rfl⟩
    have h := h w2 qw2
    refine WA.iastore dX9_remembers_31 ob_126 s4.1 s4.2 ?_
    rw [← qw2]
    refine WA.aload_n dX9_remembers_32 rfl (by decide) ?_
    refine gxX9_44 rfl rfl dX9_remembers_33 ob_115 ?_
    refine WA.iload_n dX9_remembers_36 rfl ?_
    refine WA.aload_n dX9_remembers_37 rfl (by decide) ?_
    refine gxX9_25 rfl rfl dX9_remembers_38 ob_115 ?_
    refine WA.iload_n dX9_remembers_41 rfl ?_
    obtain ⟨s5, h⟩ := h
    refine WA.zaload dX9_remembers_42 ob_121 s5.1 s5.2 ?_
    obtain ⟨s6, h⟩ := h
    obtain ⟨s7, h⟩ := h
    obtain ⟨w3, qw3⟩ : ∃ z, z = wset w2 127 v1 (w2 121 v1) := ⟨_, rfl⟩
    have h := h w3 qw3
    refine WA.zastore dX9_remembers_43 ob_127 s6.1 s6.2 s7 ?_
    rw [← qw3]
    refine WA.aload_n dX9_remembers_44 rfl (by decide) ?_
    refine gxX9_47 rfl rfl dX9_remembers_45 ob_115 ?_
    refine WA.iload_n dX9_remembers_48 rfl ?_
    refine WA.aload_n dX9_remembers_49 rfl (by decide) ?_
    refine WA.iload_n dX9_remembers_50 rfl ?_
    obtain ⟨d1, hd1, h⟩ := h
    refine WA.callV1 (kc := 0) (ks := 0) (kc' := 0) (ks' := 0) dX9_remembers_51 lkX9_281 rfl rfl rfl ob_115 rfl (Nat.le_of_ble_eq_true rfl) hd1 h (fun r w4 hK => ?_)
    obtain ⟨x1, rfl, h⟩ := hK
    change WA _ _ _ _ _ _ _ _ _ _ _ [.inl x1, .inl v1, .inr (.inr 128)] _ _
    obtain ⟨s8, h⟩ := h
    obtain ⟨s9, h⟩ := h
    obtain ⟨w5, qw5⟩ : ∃ z, z = wset w4 128 v1 x1 := ⟨_, rfl⟩
    have h := h w5 qw5
    refine WA.zastore dX9_remembers_54 ob_128 s8.1 s8.2 s9 ?_
    rw [← qw5]
    refine WA.aload_n dX9_remembers_55 rfl (by decide) ?_
    refine gxX9_50 rfl rfl dX9_remembers_56 ob_115 ?_
    refine WA.iload_n dX9_remembers_59 rfl ?_
    refine WA.aload_n dX9_remembers_60 rfl (by decide) ?_
    refine gxX9_32 rfl rfl dX9_remembers_61 ob_115 ?_
    refine WA.iload_n dX9_remembers_64 rfl ?_
    obtain ⟨s10, h⟩ := h
    refine WA.iaload dX9_remembers_65 ob_123 s10.1 s10.2 ?_
    obtain ⟨s11, h⟩ := h
    obtain ⟨w6, qw6⟩ : ∃ z, z = wset w5 129 v1 (w5 123 v1) := ⟨_, rfl⟩
    have h := h w6 qw6
    refine WA.iastore dX9_remembers_66 ob_129 s11.1 s11.2 ?_
    rw [← qw6]
    refine WA.aload_n dX9_remembers_67 rfl (by decide) ?_
    refine gxX9_59 rfl rfl dX9_remembers_68 ob_115 ?_
    refine WA.iload_n dX9_remembers_71 rfl ?_
    refine WA.iconst dX9_remembers_72 ⟨by decide, by decide⟩ ?_
    obtain ⟨s12, h⟩ := h
    obtain ⟨w7, qw7⟩ : ∃ z, z = wset w6 132 v1 0 := ⟨_, rfl⟩
    have h := h w7 qw7
    refine WA.zastore dX9_remembers_73 ob_132 s12.1 s12.2 (by decide) ?_
    rw [← qw7]
    obtain ⟨s13, h⟩ := h
    refine WA.iinc (als' := [some (.inr (.inr 115)), some (.inl (v1 + 1))]) dX9_remembers_74 rfl s13 rfl ?_
    refine WA.goto (tgt := 2) dX9_remembers_77 (by decide) ?_
    exact h
set_option maxRecDepth 10000 in
theorem v_X9_remembers_82 {d : Nat} {w : Wd} {K : Wd → Prop} {v1 : Int}  
    (h : ((5184 ≤ v1 → K w) ∧ (¬ (5184 ≤ v1) → (0 ≤ v1 ∧ v1 < 5184) ∧ (0 ≤ v1 ∧ v1 < 5184) ∧ (∀ w1, w1 = wset w 130 v1 (w 124 v1) → (-2147483648 ≤ (v1 + 1) ∧ (v1 + 1) ≤ 2147483647) ∧ W_X9_remembers d 82 [some (.inr (.inr 115)), some (.inl (v1 + 1))] [] w1 K)))) :
    W_X9_remembers d 82 [some (.inr (.inr 115)), some (.inl v1)] [] w K := by
  refine WA.iload_n dX9_remembers_82 rfl ?_
  refine WA.sipush dX9_remembers_83 ⟨by decide, by decide⟩ ?_
  refine WA.icmp_ge (tgt := 107) dX9_remembers_86 (by decide) (fun hc => ?_) (fun hc => ?_)
  · have h := h.1 hc
    exact WA.vreturn dX9_remembers_107 ⟨rfl, h⟩
  · have h := h.2 hc
    refine WA.aload_n dX9_remembers_89 rfl (by decide) ?_
    refine gxX9_53 rfl rfl dX9_remembers_90 ob_115 ?_
    refine WA.iload_n dX9_remembers_93 rfl ?_
    refine WA.aload_n dX9_remembers_94 rfl (by decide) ?_
    refine gxX9_35 rfl rfl dX9_remembers_95 ob_115 ?_
    refine WA.iload_n dX9_remembers_98 rfl ?_
    obtain ⟨s1, h⟩ := h
    refine WA.iaload dX9_remembers_99 ob_124 s1.1 s1.2 ?_
    obtain ⟨s2, h⟩ := h
    obtain ⟨w1, qw1⟩ : ∃ z, z = wset w 130 v1 (w 124 v1) := ⟨_, rfl⟩
    have h := h w1 qw1
    refine WA.iastore dX9_remembers_100 ob_130 s2.1 s2.2 ?_
    rw [← qw1]
    obtain ⟨s3, h⟩ := h
    refine WA.iinc (als' := [some (.inr (.inr 115)), some (.inl (v1 + 1))]) dX9_remembers_101 rfl s3 rfl ?_
    refine WA.goto (tgt := 82) dX9_remembers_104 (by decide) ?_
    exact h
set_option maxRecDepth 10000 in
theorem e_X9_remembers {d : Nat} {w : Wd} {K : Wd → Prop}  
    (h : W_X9_remembers d 2 [some (.inr (.inr 115)), some (.inl 0)] [] w K) :
    E_X9_remembers d [.inr (.inr 115)] w K := by
  refine EvA.of (by decide +kernel) (Nat.le_of_ble_eq_true rfl) ?_
  change W_X9_remembers d 0 [some (.inr (.inr 115)), none] [] w K
  refine WA.iconst dX9_remembers_0 ⟨by decide, by decide⟩ ?_
  refine WA.istore_n (als' := [some (.inr (.inr 115)), some (.inl 0)]) dX9_remembers_1 (Nat.le_of_ble_eq_true rfl) rfl ?_
  exact h
set_option maxRecDepth 10000 in
theorem v_X9_changedRead_2 {d : Nat} {w : Wd} {K : Int → Wd → Prop} {a1 v2 : Int}  
    (h : (0 ≤ a1 ∧ a1 < 72) ∧ (((w 129 a1) ≤ v2 → K (-1) w) ∧ (¬ ((w 129 a1) ≤ v2) → (-2147483648 ≤ (72 * a1) ∧ (72 * a1) ≤ 2147483647) ∧ (-2147483648 ≤ ((72 * a1) + v2) ∧ ((72 * a1) + v2) ≤ 2147483647) ∧ (0 ≤ ((72 * a1) + v2) ∧ ((72 * a1) + v2) < 5184) ∧ (-2147483648 ≤ (2376 + (w 130 ((72 * a1) + v2))) ∧ (2376 + (w 130 ((72 * a1) + v2))) ≤ 2147483647) ∧ (0 ≤ (2376 + (w 130 ((72 * a1) + v2))) ∧ (2376 + (w 130 ((72 * a1) + v2))) < 2778) ∧ ((¬ (w 116 (2376 + (w 130 ((72 * a1) + v2)))) = 1 → (-2147483648 ≤ (v2 + 1) ∧ (v2 + 1) ≤ 2147483647) ∧ W_X9_changedRead d 2 [some (.inr (.inr 115)), some (.inl a1), some (.inl (v2 + 1))] [] w K) ∧ ((w 116 (2376 + (w 130 ((72 * a1) + v2)))) = 1 → (-2147483648 ≤ (72 * a1) ∧ (72 * a1) ≤ 2147483647) ∧ (-2147483648 ≤ ((72 * a1) + v2) ∧ ((72 * a1) + v2) ≤ 2147483647) ∧ (0 ≤ ((72 * a1) + v2) ∧ ((72 * a1) + v2) < 5184) ∧ K (w 130 ((72 * a1) + v2)) w))))) :
    W_X9_changedRead d 2 [some (.inr (.inr 115)), some (.inl a1), some (.inl v2)] [] w K := by
  refine WA.iload_n dX9_changedRead_2 rfl ?_
  refine WA.aload_n dX9_changedRead_3 rfl (by decide) ?_
  refine gxX9_50 rfl rfl dX9_changedRead_4 ob_115 ?_
  refine WA.iload_n dX9_changedRead_7 rfl ?_
  obtain ⟨s1, h⟩ := h
  refine WA.iaload dX9_changedRead_8 ob_129 s1.1 s1.2 ?_
  refine WA.icmp_ge (tgt := 54) dX9_changedRead_9 (by decide) (fun hc => ?_) (fun hc => ?_)
  · have h := h.1 hc
    refine WA.iconst dX9_changedRead_54 ⟨by decide, by decide⟩ ?_
    exact WA.ireturn dX9_changedRead_55 ⟨_, rfl, h⟩
  · have h := h.2 hc
    refine WA.aload_n dX9_changedRead_12 rfl (by decide) ?_
    refine gxX9_7 rfl rfl dX9_changedRead_13 ob_115 ?_
    refine WA.sipush dX9_changedRead_16 ⟨by decide, by decide⟩ ?_
    refine WA.aload_n dX9_changedRead_19 rfl (by decide) ?_
    refine gxX9_53 rfl rfl dX9_changedRead_20 ob_115 ?_
    refine WA.bipush dX9_changedRead_23 ⟨by decide, by decide⟩ ?_
    refine WA.iload_n dX9_changedRead_25 rfl ?_
    obtain ⟨s2, h⟩ := h
    refine WA.imul dX9_changedRead_26 s2 ?_
    refine WA.iload_n dX9_changedRead_27 rfl ?_
    obtain ⟨s3, h⟩ := h
    refine WA.iadd dX9_changedRead_28 s3 ?_
    obtain ⟨s4, h⟩ := h
    refine WA.iaload dX9_changedRead_29 ob_130 s4.1 s4.2 ?_
    obtain ⟨s5, h⟩ := h
    refine WA.iadd dX9_changedRead_30 s5 ?_
    obtain ⟨s6, h⟩ := h
    refine WA.iaload dX9_changedRead_31 ob_116 s6.1 s6.2 ?_
    refine WA.iconst dX9_changedRead_32 ⟨by decide, by decide⟩ ?_
    refine WA.icmp_ne (tgt := 48) dX9_changedRead_33 (by decide) (fun hc => ?_) (fun hc => ?_)
    · have h := h.1 hc
      obtain ⟨s7, h⟩ := h
      refine WA.iinc (als' := [some (.inr (.inr 115)), some (.inl a1), some (.inl (v2 + 1))]) dX9_changedRead_48 rfl s7 rfl ?_
      refine WA.goto (tgt := 2) dX9_changedRead_51 (by decide) ?_
      exact h
    · have h := h.2 hc
      refine WA.aload_n dX9_changedRead_36 rfl (by decide) ?_
      refine gxX9_53 rfl rfl dX9_changedRead_37 ob_115 ?_
      refine WA.bipush dX9_changedRead_40 ⟨by decide, by decide⟩ ?_
      refine WA.iload_n dX9_changedRead_42 rfl ?_
      obtain ⟨s8, h⟩ := h
      refine WA.imul dX9_changedRead_43 s8 ?_
      refine WA.iload_n dX9_changedRead_44 rfl ?_
      obtain ⟨s9, h⟩ := h
      refine WA.iadd dX9_changedRead_45 s9 ?_
      obtain ⟨s10, h⟩ := h
      refine WA.iaload dX9_changedRead_46 ob_130 s10.1 s10.2 ?_
      exact WA.ireturn dX9_changedRead_47 ⟨_, rfl, h⟩
set_option maxRecDepth 10000 in
theorem e_X9_changedRead {d : Nat} {w : Wd} {K : Int → Wd → Prop} {a1 : Int}  
    (h : W_X9_changedRead d 2 [some (.inr (.inr 115)), some (.inl a1), some (.inl 0)] [] w K) :
    E_X9_changedRead d [.inr (.inr 115), .inl a1] w K := by
  refine EvA.of (by decide +kernel) (Nat.le_of_ble_eq_true rfl) ?_
  change W_X9_changedRead d 0 [some (.inr (.inr 115)), some (.inl a1), none] [] w K
  refine WA.iconst dX9_changedRead_0 ⟨by decide, by decide⟩ ?_
  refine WA.istore_n (als' := [some (.inr (.inr 115)), some (.inl a1), some (.inl 0)]) dX9_changedRead_1 (Nat.le_of_ble_eq_true rfl) rfl ?_
  exact h
set_option maxRecDepth 10000 in
theorem v_X9_bringsUp_6 {d : Nat} {w : Wd} {K : Int → Wd → Prop} {v1 : Int}  
    (h : ((72 ≤ v1 → W_X9_bringsUp d 91 [some (.inr (.inr 115)), some (.inl 0), some (.inl 0), none, none] [] w K) ∧ (¬ (72 ≤ v1) → (0 ≤ v1 ∧ v1 < 72) ∧ (0 ≤ v1 ∧ v1 < 72) ∧ ((¬ (w 119 v1) = (w 125 v1) → (-2147483648 ≤ (2376 + v1) ∧ (2376 + v1) ≤ 2147483647) ∧ (0 ≤ (2376 + v1) ∧ (2376 + v1) < 2778) ∧ (∀ w1, w1 = wset w 116 (2376 + v1) 1 → (-2147483648 ≤ (v1 + 1) ∧ (v1 + 1) ≤ 2147483647) ∧ W_X9_bringsUp d 6 [some (.inr (.inr 115)), some (.inl (v1 + 1)), none, none, none] [] w1 K)) ∧ ((w 119 v1) = (w 125 v1) → (0 ≤ v1 ∧ v1 < 72) ∧ (0 ≤ v1 ∧ v1 < 72) ∧ ((¬ (w 120 v1) = (w 126 v1) → (-2147483648 ≤ (2376 + v1) ∧ (2376 + v1) ≤ 2147483647) ∧ (0 ≤ (2376 + v1) ∧ (2376 + v1) < 2778) ∧ (∀ w2, w2 = wset w 116 (2376 + v1) 1 → (-2147483648 ≤ (v1 + 1) ∧ (v1 + 1) ≤ 2147483647) ∧ W_X9_bringsUp d 6 [some (.inr (.inr 115)), some (.inl (v1 + 1)), none, none, none] [] w2 K)) ∧ ((w 120 v1) = (w 126 v1) → C_X9_isEmpty d [.inr (.inr 115), .inl v1] w (fun x1 w3 => (0 ≤ v1 ∧ v1 < 72) ∧ ((x1 = (w3 128 v1) → (-2147483648 ≤ (2376 + v1) ∧ (2376 + v1) ≤ 2147483647) ∧ (0 ≤ (2376 + v1) ∧ (2376 + v1) < 2778) ∧ (∀ w4, w4 = wset w3 116 (2376 + v1) 0 → (-2147483648 ≤ (v1 + 1) ∧ (v1 + 1) ≤ 2147483647) ∧ W_X9_bringsUp d 6 [some (.inr (.inr 115)), some (.inl (v1 + 1)), none, none, none] [] w4 K)) ∧ (¬ x1 = (w3 128 v1) → (-2147483648 ≤ (2376 + v1) ∧ (2376 + v1) ≤ 2147483647) ∧ (0 ≤ (2376 + v1) ∧ (2376 + v1) < 2778) ∧ (∀ w5, w5 = wset w3 116 (2376 + v1) 1 → (-2147483648 ≤ (v1 + 1) ∧ (v1 + 1) ≤ 2147483647) ∧ W_X9_bringsUp d 6 [some (.inr (.inr 115)), some (.inl (v1 + 1)), none, none, none] [] w5 K))))))))))) :
    W_X9_bringsUp d 6 [some (.inr (.inr 115)), some (.inl v1), none, none, none] [] w K := by
  refine WA.iload_n dX9_bringsUp_6 rfl ?_
  refine WA.bipush dX9_bringsUp_7 ⟨by decide, by decide⟩ ?_
  refine WA.icmp_ge (tgt := 87) dX9_bringsUp_9 (by decide) (fun hc => ?_) (fun hc => ?_)
  · have h := h.1 hc
    refine WA.iconst dX9_bringsUp_87 ⟨by decide, by decide⟩ ?_
    refine WA.istore_n (als' := [some (.inr (.inr 115)), some (.inl 0), none, none, none]) dX9_bringsUp_88 (Nat.le_of_ble_eq_true rfl) rfl ?_
    refine WA.iconst dX9_bringsUp_89 ⟨by decide, by decide⟩ ?_
    refine WA.istore_n (als' := [some (.inr (.inr 115)), some (.inl 0), some (.inl 0), none, none]) dX9_bringsUp_90 (Nat.le_of_ble_eq_true rfl) rfl ?_
    exact h
  · have h := h.2 hc
    refine WA.aload_n dX9_bringsUp_12 rfl (by decide) ?_
    refine gxX9_19 rfl rfl dX9_bringsUp_13 ob_115 ?_
    refine WA.iload_n dX9_bringsUp_16 rfl ?_
    obtain ⟨s1, h⟩ := h
    refine WA.iaload dX9_bringsUp_17 ob_119 s1.1 s1.2 ?_
    refine WA.aload_n dX9_bringsUp_18 rfl (by decide) ?_
    refine gxX9_38 rfl rfl dX9_bringsUp_19 ob_115 ?_
    refine WA.iload_n dX9_bringsUp_22 rfl ?_
    obtain ⟨s2, h⟩ := h
    refine WA.iaload dX9_bringsUp_23 ob_125 s2.1 s2.2 ?_
    refine WA.icmp_ne (tgt := 56) dX9_bringsUp_24 (by decide) (fun hc => ?_) (fun hc => ?_)
    · have h := h.1 hc
      refine WA.iconst dX9_bringsUp_56 ⟨by decide, by decide⟩ ?_
      refine WA.goto (tgt := 61) dX9_bringsUp_57 (by decide) ?_
      refine WA.istore_n (als' := [some (.inr (.inr 115)), some (.inl v1), some (.inl 1), none, none]) dX9_bringsUp_61 (Nat.le_of_ble_eq_true rfl) rfl ?_
      refine WA.aload_n dX9_bringsUp_62 rfl (by decide) ?_
      refine gxX9_7 rfl rfl dX9_bringsUp_63 ob_115 ?_
      refine WA.sipush dX9_bringsUp_66 ⟨by decide, by decide⟩ ?_
      refine WA.iload_n dX9_bringsUp_69 rfl ?_
      obtain ⟨s3, h⟩ := h
      refine WA.iadd dX9_bringsUp_70 s3 ?_
      refine WA.iload_n dX9_bringsUp_71 rfl ?_
      refine WA.if_eq (tgt := 79) dX9_bringsUp_72 (by decide) (fun hc => absurd hc (by decide)) (fun _ => ?_)
      refine WA.iconst dX9_bringsUp_75 ⟨by decide, by decide⟩ ?_
      refine WA.goto (tgt := 80) dX9_bringsUp_76 (by decide) ?_
      obtain ⟨s4, h⟩ := h
      obtain ⟨w1, qw1⟩ : ∃ z, z = wset w 116 (2376 + v1) 1 := ⟨_, rfl⟩
      have h := h w1 qw1
      refine WA.iastore dX9_bringsUp_80 ob_116 s4.1 s4.2 ?_
      rw [← qw1]
      obtain ⟨s5, h⟩ := h
      refine WA.iinc (als' := [some (.inr (.inr 115)), some (.inl (v1 + 1)), some (.inl 1), none, none]) dX9_bringsUp_81 rfl s5 rfl ?_
      refine WA.goto (tgt := 6) dX9_bringsUp_84 (by decide) ?_
      exact WA.sub (als' := [some (.inr (.inr 115)), some (.inl (v1 + 1)), none, none, none]) (by simp only [am_sub, and_self]) rfl h
    · have h := h.2 hc
      refine WA.aload_n dX9_bringsUp_27 rfl (by decide) ?_
      refine gxX9_22 rfl rfl dX9_bringsUp_28 ob_115 ?_
      refine WA.iload_n dX9_bringsUp_31 rfl ?_
      obtain ⟨s6, h⟩ := h
      refine WA.iaload dX9_bringsUp_32 ob_120 s6.1 s6.2 ?_
      refine WA.aload_n dX9_bringsUp_33 rfl (by decide) ?_
      refine gxX9_41 rfl rfl dX9_bringsUp_34 ob_115 ?_
      refine WA.iload_n dX9_bringsUp_37 rfl ?_
      obtain ⟨s7, h⟩ := h
      refine WA.iaload dX9_bringsUp_38 ob_126 s7.1 s7.2 ?_
      refine WA.icmp_ne (tgt := 56) dX9_bringsUp_39 (by decide) (fun hc => ?_) (fun hc => ?_)
      · have h := h.1 hc
        refine WA.iconst dX9_bringsUp_56 ⟨by decide, by decide⟩ ?_
        refine WA.goto (tgt := 61) dX9_bringsUp_57 (by decide) ?_
        refine WA.istore_n (als' := [some (.inr (.inr 115)), some (.inl v1), some (.inl 1), none, none]) dX9_bringsUp_61 (Nat.le_of_ble_eq_true rfl) rfl ?_
        refine WA.aload_n dX9_bringsUp_62 rfl (by decide) ?_
        refine gxX9_7 rfl rfl dX9_bringsUp_63 ob_115 ?_
        refine WA.sipush dX9_bringsUp_66 ⟨by decide, by decide⟩ ?_
        refine WA.iload_n dX9_bringsUp_69 rfl ?_
        obtain ⟨s8, h⟩ := h
        refine WA.iadd dX9_bringsUp_70 s8 ?_
        refine WA.iload_n dX9_bringsUp_71 rfl ?_
        refine WA.if_eq (tgt := 79) dX9_bringsUp_72 (by decide) (fun hc => absurd hc (by decide)) (fun _ => ?_)
        refine WA.iconst dX9_bringsUp_75 ⟨by decide, by decide⟩ ?_
        refine WA.goto (tgt := 80) dX9_bringsUp_76 (by decide) ?_
        obtain ⟨s9, h⟩ := h
        obtain ⟨w2, qw2⟩ : ∃ z, z = wset w 116 (2376 + v1) 1 := ⟨_, rfl⟩
        have h := h w2 qw2
        refine WA.iastore dX9_bringsUp_80 ob_116 s9.1 s9.2 ?_
        rw [← qw2]
        obtain ⟨s10, h⟩ := h
        refine WA.iinc (als' := [some (.inr (.inr 115)), some (.inl (v1 + 1)), some (.inl 1), none, none]) dX9_bringsUp_81 rfl s10 rfl ?_
        refine WA.goto (tgt := 6) dX9_bringsUp_84 (by decide) ?_
        exact WA.sub (als' := [some (.inr (.inr 115)), some (.inl (v1 + 1)), none, none, none]) (by simp only [am_sub, and_self]) rfl h
      · have h := h.2 hc
        refine WA.aload_n dX9_bringsUp_42 rfl (by decide) ?_
        refine WA.iload_n dX9_bringsUp_43 rfl ?_
        obtain ⟨d1, hd1, h⟩ := h
        refine WA.callV1 (kc := 0) (ks := 0) (kc' := 0) (ks' := 0) dX9_bringsUp_44 lkX9_281 rfl rfl rfl ob_115 rfl (Nat.le_of_ble_eq_true rfl) hd1 h (fun r w3 hK => ?_)
        obtain ⟨x1, rfl, h⟩ := hK
        change WA _ _ _ _ _ _ _ _ _ _ _ [.inl x1] _ _
        refine WA.aload_n dX9_bringsUp_47 rfl (by decide) ?_
        refine gxX9_47 rfl rfl dX9_bringsUp_48 ob_115 ?_
        refine WA.iload_n dX9_bringsUp_51 rfl ?_
        obtain ⟨s11, h⟩ := h
        refine WA.zaload dX9_bringsUp_52 ob_128 s11.1 s11.2 ?_
        refine WA.icmp_eq (tgt := 60) dX9_bringsUp_53 (by decide) (fun hc => ?_) (fun hc => ?_)
        · have h := h.1 hc
          refine WA.iconst dX9_bringsUp_60 ⟨by decide, by decide⟩ ?_
          refine WA.istore_n (als' := [some (.inr (.inr 115)), some (.inl v1), some (.inl 0), none, none]) dX9_bringsUp_61 (Nat.le_of_ble_eq_true rfl) rfl ?_
          refine WA.aload_n dX9_bringsUp_62 rfl (by decide) ?_
          refine gxX9_7 rfl rfl dX9_bringsUp_63 ob_115 ?_
          refine WA.sipush dX9_bringsUp_66 ⟨by decide, by decide⟩ ?_
          refine WA.iload_n dX9_bringsUp_69 rfl ?_
          obtain ⟨s12, h⟩ := h
          refine WA.iadd dX9_bringsUp_70 s12 ?_
          refine WA.iload_n dX9_bringsUp_71 rfl ?_
          refine WA.if_eq (tgt := 79) dX9_bringsUp_72 (by decide) (fun _ => ?_) (fun hc => absurd hc (by decide))
          refine WA.iconst dX9_bringsUp_79 ⟨by decide, by decide⟩ ?_
          obtain ⟨s13, h⟩ := h
          obtain ⟨w4, qw4⟩ : ∃ z, z = wset w3 116 (2376 + v1) 0 := ⟨_, rfl⟩
          have h := h w4 qw4
          refine WA.iastore dX9_bringsUp_80 ob_116 s13.1 s13.2 ?_
          rw [← qw4]
          obtain ⟨s14, h⟩ := h
          refine WA.iinc (als' := [some (.inr (.inr 115)), some (.inl (v1 + 1)), some (.inl 0), none, none]) dX9_bringsUp_81 rfl s14 rfl ?_
          refine WA.goto (tgt := 6) dX9_bringsUp_84 (by decide) ?_
          exact WA.sub (als' := [some (.inr (.inr 115)), some (.inl (v1 + 1)), none, none, none]) (by simp only [am_sub, and_self]) rfl h
        · have h := h.2 hc
          refine WA.iconst dX9_bringsUp_56 ⟨by decide, by decide⟩ ?_
          refine WA.goto (tgt := 61) dX9_bringsUp_57 (by decide) ?_
          refine WA.istore_n (als' := [some (.inr (.inr 115)), some (.inl v1), some (.inl 1), none, none]) dX9_bringsUp_61 (Nat.le_of_ble_eq_true rfl) rfl ?_
          refine WA.aload_n dX9_bringsUp_62 rfl (by decide) ?_
          refine gxX9_7 rfl rfl dX9_bringsUp_63 ob_115 ?_
          refine WA.sipush dX9_bringsUp_66 ⟨by decide, by decide⟩ ?_
          refine WA.iload_n dX9_bringsUp_69 rfl ?_
          obtain ⟨s15, h⟩ := h
          refine WA.iadd dX9_bringsUp_70 s15 ?_
          refine WA.iload_n dX9_bringsUp_71 rfl ?_
          refine WA.if_eq (tgt := 79) dX9_bringsUp_72 (by decide) (fun hc => absurd hc (by decide)) (fun _ => ?_)
          refine WA.iconst dX9_bringsUp_75 ⟨by decide, by decide⟩ ?_
          refine WA.goto (tgt := 80) dX9_bringsUp_76 (by decide) ?_
          obtain ⟨s16, h⟩ := h
          obtain ⟨w5, qw5⟩ : ∃ z, z = wset w3 116 (2376 + v1) 1 := ⟨_, rfl⟩
          have h := h w5 qw5
          refine WA.iastore dX9_bringsUp_80 ob_116 s16.1 s16.2 ?_
          rw [← qw5]
          obtain ⟨s17, h⟩ := h
          refine WA.iinc (als' := [some (.inr (.inr 115)), some (.inl (v1 + 1)), some (.inl 1), none, none]) dX9_bringsUp_81 rfl s17 rfl ?_
          refine WA.goto (tgt := 6) dX9_bringsUp_84 (by decide) ?_
          exact WA.sub (als' := [some (.inr (.inr 115)), some (.inl (v1 + 1)), none, none, none]) (by simp only [am_sub, and_self]) rfl h
set_option maxRecDepth 10000 in
theorem v_X9_bringsUp_91 {d : Nat} {w : Wd} {K : Int → Wd → Prop} {v1 v2 : Int}  
    (h : ((72 ≤ v2 → K v1 w) ∧ (¬ (72 ≤ v2) → (0 ≤ v2 ∧ v2 < 72) ∧ (((w 132 v2) = 0 → C_X9_changedRead d [.inr (.inr 115), .inl v2] w (fun x1 w1 => (0 ≤ v2 ∧ v2 < 72) ∧ ((¬ (w1 132 v2) = 0 → (-2147483648 ≤ (2304 + v2) ∧ (2304 + v2) ≤ 2147483647) ∧ (0 ≤ (2304 + v2) ∧ (2304 + v2) < 2778) ∧ (∀ w2, w2 = wset w1 116 (2304 + v2) 1 → (-2147483648 ≤ (2232 + v2) ∧ (2232 + v2) ≤ 2147483647) ∧ (0 ≤ (2232 + v2) ∧ (2232 + v2) < 2778) ∧ (-2147483648 ≤ (2304 + v2) ∧ (2304 + v2) ≤ 2147483647) ∧ (0 ≤ (2304 + v2) ∧ (2304 + v2) < 2778) ∧ (-2147483648 ≤ ((w2 116 (2232 + v2)) + (w2 116 (2304 + v2))) ∧ ((w2 116 (2232 + v2)) + (w2 116 (2304 + v2))) ≤ 2147483647) ∧ (0 ≤ (2232 + v2) ∧ (2232 + v2) < 2778) ∧ (∀ w3, w3 = wset w2 116 (2232 + v2) ((w2 116 (2232 + v2)) + (w2 116 (2304 + v2))) → (-2147483648 ≤ (2448 + v2) ∧ (2448 + v2) ≤ 2147483647) ∧ ((x1 < 0 → (0 ≤ (2448 + v2) ∧ (2448 + v2) < 2778) ∧ (∀ w4, w4 = wset w3 116 (2448 + v2) v2 → (-2147483648 ≤ (2304 + v2) ∧ (2304 + v2) ≤ 2147483647) ∧ (0 ≤ (2304 + v2) ∧ (2304 + v2) < 2778) ∧ (-2147483648 ≤ (v1 + (w4 116 (2304 + v2))) ∧ (v1 + (w4 116 (2304 + v2))) ≤ 2147483647) ∧ (-2147483648 ≤ (v2 + 1) ∧ (v2 + 1) ≤ 2147483647) ∧ W_X9_bringsUp d 91 [some (.inr (.inr 115)), some (.inl (v1 + (w4 116 (2304 + v2)))), some (.inl (v2 + 1)), none, none] [] w4 K)) ∧ (¬ (x1 < 0) → (0 ≤ (2448 + v2) ∧ (2448 + v2) < 2778) ∧ (∀ w5, w5 = wset w3 116 (2448 + v2) x1 → (-2147483648 ≤ (2304 + v2) ∧ (2304 + v2) ≤ 2147483647) ∧ (0 ≤ (2304 + v2) ∧ (2304 + v2) < 2778) ∧ (-2147483648 ≤ (v1 + (w5 116 (2304 + v2))) ∧ (v1 + (w5 116 (2304 + v2))) ≤ 2147483647) ∧ (-2147483648 ≤ (v2 + 1) ∧ (v2 + 1) ≤ 2147483647) ∧ W_X9_bringsUp d 91 [some (.inr (.inr 115)), some (.inl (v1 + (w5 116 (2304 + v2)))), some (.inl (v2 + 1)), none, none] [] w5 K)))))) ∧ ((w1 132 v2) = 0 → (0 ≤ v2 ∧ v2 < 72) ∧ ((¬ (w1 121 v2) = 0 → (-2147483648 ≤ (2304 + v2) ∧ (2304 + v2) ≤ 2147483647) ∧ (0 ≤ (2304 + v2) ∧ (2304 + v2) < 2778) ∧ (∀ w6, w6 = wset w1 116 (2304 + v2) 1 → (-2147483648 ≤ (2232 + v2) ∧ (2232 + v2) ≤ 2147483647) ∧ (0 ≤ (2232 + v2) ∧ (2232 + v2) < 2778) ∧ (-2147483648 ≤ (2304 + v2) ∧ (2304 + v2) ≤ 2147483647) ∧ (0 ≤ (2304 + v2) ∧ (2304 + v2) < 2778) ∧ (-2147483648 ≤ ((w6 116 (2232 + v2)) + (w6 116 (2304 + v2))) ∧ ((w6 116 (2232 + v2)) + (w6 116 (2304 + v2))) ≤ 2147483647) ∧ (0 ≤ (2232 + v2) ∧ (2232 + v2) < 2778) ∧ (∀ w7, w7 = wset w6 116 (2232 + v2) ((w6 116 (2232 + v2)) + (w6 116 (2304 + v2))) → (-2147483648 ≤ (2448 + v2) ∧ (2448 + v2) ≤ 2147483647) ∧ ((x1 < 0 → (0 ≤ (2448 + v2) ∧ (2448 + v2) < 2778) ∧ (∀ w8, w8 = wset w7 116 (2448 + v2) v2 → (-2147483648 ≤ (2304 + v2) ∧ (2304 + v2) ≤ 2147483647) ∧ (0 ≤ (2304 + v2) ∧ (2304 + v2) < 2778) ∧ (-2147483648 ≤ (v1 + (w8 116 (2304 + v2))) ∧ (v1 + (w8 116 (2304 + v2))) ≤ 2147483647) ∧ (-2147483648 ≤ (v2 + 1) ∧ (v2 + 1) ≤ 2147483647) ∧ W_X9_bringsUp d 91 [some (.inr (.inr 115)), some (.inl (v1 + (w8 116 (2304 + v2)))), some (.inl (v2 + 1)), none, none] [] w8 K)) ∧ (¬ (x1 < 0) → (0 ≤ (2448 + v2) ∧ (2448 + v2) < 2778) ∧ (∀ w9, w9 = wset w7 116 (2448 + v2) x1 → (-2147483648 ≤ (2304 + v2) ∧ (2304 + v2) ≤ 2147483647) ∧ (0 ≤ (2304 + v2) ∧ (2304 + v2) < 2778) ∧ (-2147483648 ≤ (v1 + (w9 116 (2304 + v2))) ∧ (v1 + (w9 116 (2304 + v2))) ≤ 2147483647) ∧ (-2147483648 ≤ (v2 + 1) ∧ (v2 + 1) ≤ 2147483647) ∧ W_X9_bringsUp d 91 [some (.inr (.inr 115)), some (.inl (v1 + (w9 116 (2304 + v2)))), some (.inl (v2 + 1)), none, none] [] w9 K)))))) ∧ ((w1 121 v2) = 0 → (0 ≤ v2 ∧ v2 < 72) ∧ ((¬ (w1 127 v2) = 0 → (-2147483648 ≤ (2304 + v2) ∧ (2304 + v2) ≤ 2147483647) ∧ (0 ≤ (2304 + v2) ∧ (2304 + v2) < 2778) ∧ (∀ w10, w10 = wset w1 116 (2304 + v2) 1 → (-2147483648 ≤ (2232 + v2) ∧ (2232 + v2) ≤ 2147483647) ∧ (0 ≤ (2232 + v2) ∧ (2232 + v2) < 2778) ∧ (-2147483648 ≤ (2304 + v2) ∧ (2304 + v2) ≤ 2147483647) ∧ (0 ≤ (2304 + v2) ∧ (2304 + v2) < 2778) ∧ (-2147483648 ≤ ((w10 116 (2232 + v2)) + (w10 116 (2304 + v2))) ∧ ((w10 116 (2232 + v2)) + (w10 116 (2304 + v2))) ≤ 2147483647) ∧ (0 ≤ (2232 + v2) ∧ (2232 + v2) < 2778) ∧ (∀ w11, w11 = wset w10 116 (2232 + v2) ((w10 116 (2232 + v2)) + (w10 116 (2304 + v2))) → (-2147483648 ≤ (2448 + v2) ∧ (2448 + v2) ≤ 2147483647) ∧ ((x1 < 0 → (0 ≤ (2448 + v2) ∧ (2448 + v2) < 2778) ∧ (∀ w12, w12 = wset w11 116 (2448 + v2) v2 → (-2147483648 ≤ (2304 + v2) ∧ (2304 + v2) ≤ 2147483647) ∧ (0 ≤ (2304 + v2) ∧ (2304 + v2) < 2778) ∧ (-2147483648 ≤ (v1 + (w12 116 (2304 + v2))) ∧ (v1 + (w12 116 (2304 + v2))) ≤ 2147483647) ∧ (-2147483648 ≤ (v2 + 1) ∧ (v2 + 1) ≤ 2147483647) ∧ W_X9_bringsUp d 91 [some (.inr (.inr 115)), some (.inl (v1 + (w12 116 (2304 + v2)))), some (.inl (v2 + 1)), none, none] [] w12 K)) ∧ (¬ (x1 < 0) → (0 ≤ (2448 + v2) ∧ (2448 + v2) < 2778) ∧ (∀ w13, w13 = wset w11 116 (2448 + v2) x1 → (-2147483648 ≤ (2304 + v2) ∧ (2304 + v2) ≤ 2147483647) ∧ (0 ≤ (2304 + v2) ∧ (2304 + v2) < 2778) ∧ (-2147483648 ≤ (v1 + (w13 116 (2304 + v2))) ∧ (v1 + (w13 116 (2304 + v2))) ≤ 2147483647) ∧ (-2147483648 ≤ (v2 + 1) ∧ (v2 + 1) ≤ 2147483647) ∧ W_X9_bringsUp d 91 [some (.inr (.inr 115)), some (.inl (v1 + (w13 116 (2304 + v2)))), some (.inl (v2 + 1)), none, none] [] w13 K)))))) ∧ ((w1 127 v2) = 0 → ((x1 < 0 → (-2147483648 ≤ (2304 + v2) ∧ (2304 + v2) ≤ 2147483647) ∧ (0 ≤ (2304 + v2) ∧ (2304 + v2) < 2778) ∧ (∀ w14, w14 = wset w1 116 (2304 + v2) 0 → (-2147483648 ≤ (2232 + v2) ∧ (2232 + v2) ≤ 2147483647) ∧ (0 ≤ (2232 + v2) ∧ (2232 + v2) < 2778) ∧ (-2147483648 ≤ (2304 + v2) ∧ (2304 + v2) ≤ 2147483647) ∧ (0 ≤ (2304 + v2) ∧ (2304 + v2) < 2778) ∧ (-2147483648 ≤ ((w14 116 (2232 + v2)) + (w14 116 (2304 + v2))) ∧ ((w14 116 (2232 + v2)) + (w14 116 (2304 + v2))) ≤ 2147483647) ∧ (0 ≤ (2232 + v2) ∧ (2232 + v2) < 2778) ∧ (∀ w15, w15 = wset w14 116 (2232 + v2) ((w14 116 (2232 + v2)) + (w14 116 (2304 + v2))) → (-2147483648 ≤ (2448 + v2) ∧ (2448 + v2) ≤ 2147483647) ∧ ((x1 < 0 → (0 ≤ (2448 + v2) ∧ (2448 + v2) < 2778) ∧ (∀ w16, w16 = wset w15 116 (2448 + v2) v2 → (-2147483648 ≤ (2304 + v2) ∧ (2304 + v2) ≤ 2147483647) ∧ (0 ≤ (2304 + v2) ∧ (2304 + v2) < 2778) ∧ (-2147483648 ≤ (v1 + (w16 116 (2304 + v2))) ∧ (v1 + (w16 116 (2304 + v2))) ≤ 2147483647) ∧ (-2147483648 ≤ (v2 + 1) ∧ (v2 + 1) ≤ 2147483647) ∧ W_X9_bringsUp d 91 [some (.inr (.inr 115)), some (.inl (v1 + (w16 116 (2304 + v2)))), some (.inl (v2 + 1)), none, none] [] w16 K)) ∧ (¬ (x1 < 0) → (0 ≤ (2448 + v2) ∧ (2448 + v2) < 2778) ∧ (∀ w17, w17 = wset w15 116 (2448 + v2) x1 → (-2147483648 ≤ (2304 + v2) ∧ (2304 + v2) ≤ 2147483647) ∧ (0 ≤ (2304 + v2) ∧ (2304 + v2) < 2778) ∧ (-2147483648 ≤ (v1 + (w17 116 (2304 + v2))) ∧ (v1 + (w17 116 (2304 + v2))) ≤ 2147483647) ∧ (-2147483648 ≤ (v2 + 1) ∧ (v2 + 1) ≤ 2147483647) ∧ W_X9_bringsUp d 91 [some (.inr (.inr 115)), some (.inl (v1 + (w17 116 (2304 + v2)))), some (.inl (v2 + 1)), none, none] [] w17 K)))))) ∧ (¬ (x1 < 0) → (-2147483648 ≤ (2304 + v2) ∧ (2304 + v2) ≤ 2147483647) ∧ (0 ≤ (2304 + v2) ∧ (2304 + v2) < 2778) ∧ (∀ w18, w18 = wset w1 116 (2304 + v2) 1 → (-2147483648 ≤ (2232 + v2) ∧ (2232 + v2) ≤ 2147483647) ∧ (0 ≤ (2232 + v2) ∧ (2232 + v2) < 2778) ∧ (-2147483648 ≤ (2304 + v2) ∧ (2304 + v2) ≤ 2147483647) ∧ (0 ≤ (2304 + v2) ∧ (2304 + v2) < 2778) ∧ (-2147483648 ≤ ((w18 116 (2232 + v2)) + (w18 116 (2304 + v2))) ∧ ((w18 116 (2232 + v2)) + (w18 116 (2304 + v2))) ≤ 2147483647) ∧ (0 ≤ (2232 + v2) ∧ (2232 + v2) < 2778) ∧ (∀ w19, w19 = wset w18 116 (2232 + v2) ((w18 116 (2232 + v2)) + (w18 116 (2304 + v2))) → (-2147483648 ≤ (2448 + v2) ∧ (2448 + v2) ≤ 2147483647) ∧ ((x1 < 0 → (0 ≤ (2448 + v2) ∧ (2448 + v2) < 2778) ∧ (∀ w20, w20 = wset w19 116 (2448 + v2) v2 → (-2147483648 ≤ (2304 + v2) ∧ (2304 + v2) ≤ 2147483647) ∧ (0 ≤ (2304 + v2) ∧ (2304 + v2) < 2778) ∧ (-2147483648 ≤ (v1 + (w20 116 (2304 + v2))) ∧ (v1 + (w20 116 (2304 + v2))) ≤ 2147483647) ∧ (-2147483648 ≤ (v2 + 1) ∧ (v2 + 1) ≤ 2147483647) ∧ W_X9_bringsUp d 91 [some (.inr (.inr 115)), some (.inl (v1 + (w20 116 (2304 + v2)))), some (.inl (v2 + 1)), none, none] [] w20 K)) ∧ (¬ (x1 < 0) → (0 ≤ (2448 + v2) ∧ (2448 + v2) < 2778) ∧ (∀ w21, w21 = wset w19 116 (2448 + v2) x1 → (-2147483648 ≤ (2304 + v2) ∧ (2304 + v2) ≤ 2147483647) ∧ (0 ≤ (2304 + v2) ∧ (2304 + v2) < 2778) ∧ (-2147483648 ≤ (v1 + (w21 116 (2304 + v2))) ∧ (v1 + (w21 116 (2304 + v2))) ≤ 2147483647) ∧ (-2147483648 ≤ (v2 + 1) ∧ (v2 + 1) ≤ 2147483647) ∧ W_X9_bringsUp d 91 [some (.inr (.inr 115)), some (.inl (v1 + (w21 116 (2304 + v2)))), some (.inl (v2 + 1)), none, none] [] w21 K))))))))))))))) ∧ (¬ (w 132 v2) = 0 → (0 ≤ v2 ∧ v2 < 72) ∧ ((¬ (w 132 v2) = 0 → (-2147483648 ≤ (2304 + v2) ∧ (2304 + v2) ≤ 2147483647) ∧ (0 ≤ (2304 + v2) ∧ (2304 + v2) < 2778) ∧ (∀ w22, w22 = wset w 116 (2304 + v2) 1 → (-2147483648 ≤ (2232 + v2) ∧ (2232 + v2) ≤ 2147483647) ∧ (0 ≤ (2232 + v2) ∧ (2232 + v2) < 2778) ∧ (-2147483648 ≤ (2304 + v2) ∧ (2304 + v2) ≤ 2147483647) ∧ (0 ≤ (2304 + v2) ∧ (2304 + v2) < 2778) ∧ (-2147483648 ≤ ((w22 116 (2232 + v2)) + (w22 116 (2304 + v2))) ∧ ((w22 116 (2232 + v2)) + (w22 116 (2304 + v2))) ≤ 2147483647) ∧ (0 ≤ (2232 + v2) ∧ (2232 + v2) < 2778) ∧ (∀ w23, w23 = wset w22 116 (2232 + v2) ((w22 116 (2232 + v2)) + (w22 116 (2304 + v2))) → (-2147483648 ≤ (2448 + v2) ∧ (2448 + v2) ≤ 2147483647) ∧ ((v2 < 0 → (0 ≤ (2448 + v2) ∧ (2448 + v2) < 2778) ∧ (∀ w24, w24 = wset w23 116 (2448 + v2) v2 → (-2147483648 ≤ (2304 + v2) ∧ (2304 + v2) ≤ 2147483647) ∧ (0 ≤ (2304 + v2) ∧ (2304 + v2) < 2778) ∧ (-2147483648 ≤ (v1 + (w24 116 (2304 + v2))) ∧ (v1 + (w24 116 (2304 + v2))) ≤ 2147483647) ∧ (-2147483648 ≤ (v2 + 1) ∧ (v2 + 1) ≤ 2147483647) ∧ W_X9_bringsUp d 91 [some (.inr (.inr 115)), some (.inl (v1 + (w24 116 (2304 + v2)))), some (.inl (v2 + 1)), none, none] [] w24 K)) ∧ (¬ (v2 < 0) → (0 ≤ (2448 + v2) ∧ (2448 + v2) < 2778) ∧ (∀ w25, w25 = wset w23 116 (2448 + v2) v2 → (-2147483648 ≤ (2304 + v2) ∧ (2304 + v2) ≤ 2147483647) ∧ (0 ≤ (2304 + v2) ∧ (2304 + v2) < 2778) ∧ (-2147483648 ≤ (v1 + (w25 116 (2304 + v2))) ∧ (v1 + (w25 116 (2304 + v2))) ≤ 2147483647) ∧ (-2147483648 ≤ (v2 + 1) ∧ (v2 + 1) ≤ 2147483647) ∧ W_X9_bringsUp d 91 [some (.inr (.inr 115)), some (.inl (v1 + (w25 116 (2304 + v2)))), some (.inl (v2 + 1)), none, none] [] w25 K)))))) ∧ ((w 132 v2) = 0 → (0 ≤ v2 ∧ v2 < 72) ∧ ((¬ (w 121 v2) = 0 → (-2147483648 ≤ (2304 + v2) ∧ (2304 + v2) ≤ 2147483647) ∧ (0 ≤ (2304 + v2) ∧ (2304 + v2) < 2778) ∧ (∀ w26, w26 = wset w 116 (2304 + v2) 1 → (-2147483648 ≤ (2232 + v2) ∧ (2232 + v2) ≤ 2147483647) ∧ (0 ≤ (2232 + v2) ∧ (2232 + v2) < 2778) ∧ (-2147483648 ≤ (2304 + v2) ∧ (2304 + v2) ≤ 2147483647) ∧ (0 ≤ (2304 + v2) ∧ (2304 + v2) < 2778) ∧ (-2147483648 ≤ ((w26 116 (2232 + v2)) + (w26 116 (2304 + v2))) ∧ ((w26 116 (2232 + v2)) + (w26 116 (2304 + v2))) ≤ 2147483647) ∧ (0 ≤ (2232 + v2) ∧ (2232 + v2) < 2778) ∧ (∀ w27, w27 = wset w26 116 (2232 + v2) ((w26 116 (2232 + v2)) + (w26 116 (2304 + v2))) → (-2147483648 ≤ (2448 + v2) ∧ (2448 + v2) ≤ 2147483647) ∧ ((v2 < 0 → (0 ≤ (2448 + v2) ∧ (2448 + v2) < 2778) ∧ (∀ w28, w28 = wset w27 116 (2448 + v2) v2 → (-2147483648 ≤ (2304 + v2) ∧ (2304 + v2) ≤ 2147483647) ∧ (0 ≤ (2304 + v2) ∧ (2304 + v2) < 2778) ∧ (-2147483648 ≤ (v1 + (w28 116 (2304 + v2))) ∧ (v1 + (w28 116 (2304 + v2))) ≤ 2147483647) ∧ (-2147483648 ≤ (v2 + 1) ∧ (v2 + 1) ≤ 2147483647) ∧ W_X9_bringsUp d 91 [some (.inr (.inr 115)), some (.inl (v1 + (w28 116 (2304 + v2)))), some (.inl (v2 + 1)), none, none] [] w28 K)) ∧ (¬ (v2 < 0) → (0 ≤ (2448 + v2) ∧ (2448 + v2) < 2778) ∧ (∀ w29, w29 = wset w27 116 (2448 + v2) v2 → (-2147483648 ≤ (2304 + v2) ∧ (2304 + v2) ≤ 2147483647) ∧ (0 ≤ (2304 + v2) ∧ (2304 + v2) < 2778) ∧ (-2147483648 ≤ (v1 + (w29 116 (2304 + v2))) ∧ (v1 + (w29 116 (2304 + v2))) ≤ 2147483647) ∧ (-2147483648 ≤ (v2 + 1) ∧ (v2 + 1) ≤ 2147483647) ∧ W_X9_bringsUp d 91 [some (.inr (.inr 115)), some (.inl (v1 + (w29 116 (2304 + v2)))), some (.inl (v2 + 1)), none, none] [] w29 K)))))) ∧ ((w 121 v2) = 0 → (0 ≤ v2 ∧ v2 < 72) ∧ ((¬ (w 127 v2) = 0 → (-2147483648 ≤ (2304 + v2) ∧ (2304 + v2) ≤ 2147483647) ∧ (0 ≤ (2304 + v2) ∧ (2304 + v2) < 2778) ∧ (∀ w30, w30 = wset w 116 (2304 + v2) 1 → (-2147483648 ≤ (2232 + v2) ∧ (2232 + v2) ≤ 2147483647) ∧ (0 ≤ (2232 + v2) ∧ (2232 + v2) < 2778) ∧ (-2147483648 ≤ (2304 + v2) ∧ (2304 + v2) ≤ 2147483647) ∧ (0 ≤ (2304 + v2) ∧ (2304 + v2) < 2778) ∧ (-2147483648 ≤ ((w30 116 (2232 + v2)) + (w30 116 (2304 + v2))) ∧ ((w30 116 (2232 + v2)) + (w30 116 (2304 + v2))) ≤ 2147483647) ∧ (0 ≤ (2232 + v2) ∧ (2232 + v2) < 2778) ∧ (∀ w31, w31 = wset w30 116 (2232 + v2) ((w30 116 (2232 + v2)) + (w30 116 (2304 + v2))) → (-2147483648 ≤ (2448 + v2) ∧ (2448 + v2) ≤ 2147483647) ∧ ((v2 < 0 → (0 ≤ (2448 + v2) ∧ (2448 + v2) < 2778) ∧ (∀ w32, w32 = wset w31 116 (2448 + v2) v2 → (-2147483648 ≤ (2304 + v2) ∧ (2304 + v2) ≤ 2147483647) ∧ (0 ≤ (2304 + v2) ∧ (2304 + v2) < 2778) ∧ (-2147483648 ≤ (v1 + (w32 116 (2304 + v2))) ∧ (v1 + (w32 116 (2304 + v2))) ≤ 2147483647) ∧ (-2147483648 ≤ (v2 + 1) ∧ (v2 + 1) ≤ 2147483647) ∧ W_X9_bringsUp d 91 [some (.inr (.inr 115)), some (.inl (v1 + (w32 116 (2304 + v2)))), some (.inl (v2 + 1)), none, none] [] w32 K)) ∧ (¬ (v2 < 0) → (0 ≤ (2448 + v2) ∧ (2448 + v2) < 2778) ∧ (∀ w33, w33 = wset w31 116 (2448 + v2) v2 → (-2147483648 ≤ (2304 + v2) ∧ (2304 + v2) ≤ 2147483647) ∧ (0 ≤ (2304 + v2) ∧ (2304 + v2) < 2778) ∧ (-2147483648 ≤ (v1 + (w33 116 (2304 + v2))) ∧ (v1 + (w33 116 (2304 + v2))) ≤ 2147483647) ∧ (-2147483648 ≤ (v2 + 1) ∧ (v2 + 1) ≤ 2147483647) ∧ W_X9_bringsUp d 91 [some (.inr (.inr 115)), some (.inl (v1 + (w33 116 (2304 + v2)))), some (.inl (v2 + 1)), none, none] [] w33 K)))))) ∧ ((w 127 v2) = 0 → ((v2 < 0 → (-2147483648 ≤ (2304 + v2) ∧ (2304 + v2) ≤ 2147483647) ∧ (0 ≤ (2304 + v2) ∧ (2304 + v2) < 2778) ∧ (∀ w34, w34 = wset w 116 (2304 + v2) 0 → (-2147483648 ≤ (2232 + v2) ∧ (2232 + v2) ≤ 2147483647) ∧ (0 ≤ (2232 + v2) ∧ (2232 + v2) < 2778) ∧ (-2147483648 ≤ (2304 + v2) ∧ (2304 + v2) ≤ 2147483647) ∧ (0 ≤ (2304 + v2) ∧ (2304 + v2) < 2778) ∧ (-2147483648 ≤ ((w34 116 (2232 + v2)) + (w34 116 (2304 + v2))) ∧ ((w34 116 (2232 + v2)) + (w34 116 (2304 + v2))) ≤ 2147483647) ∧ (0 ≤ (2232 + v2) ∧ (2232 + v2) < 2778) ∧ (∀ w35, w35 = wset w34 116 (2232 + v2) ((w34 116 (2232 + v2)) + (w34 116 (2304 + v2))) → (-2147483648 ≤ (2448 + v2) ∧ (2448 + v2) ≤ 2147483647) ∧ ((v2 < 0 → (0 ≤ (2448 + v2) ∧ (2448 + v2) < 2778) ∧ (∀ w36, w36 = wset w35 116 (2448 + v2) v2 → (-2147483648 ≤ (2304 + v2) ∧ (2304 + v2) ≤ 2147483647) ∧ (0 ≤ (2304 + v2) ∧ (2304 + v2) < 2778) ∧ (-2147483648 ≤ (v1 + (w36 116 (2304 + v2))) ∧ (v1 + (w36 116 (2304 + v2))) ≤ 2147483647) ∧ (-2147483648 ≤ (v2 + 1) ∧ (v2 + 1) ≤ 2147483647) ∧ W_X9_bringsUp d 91 [some (.inr (.inr 115)), some (.inl (v1 + (w36 116 (2304 + v2)))), some (.inl (v2 + 1)), none, none] [] w36 K)) ∧ (¬ (v2 < 0) → (0 ≤ (2448 + v2) ∧ (2448 + v2) < 2778) ∧ (∀ w37, w37 = wset w35 116 (2448 + v2) v2 → (-2147483648 ≤ (2304 + v2) ∧ (2304 + v2) ≤ 2147483647) ∧ (0 ≤ (2304 + v2) ∧ (2304 + v2) < 2778) ∧ (-2147483648 ≤ (v1 + (w37 116 (2304 + v2))) ∧ (v1 + (w37 116 (2304 + v2))) ≤ 2147483647) ∧ (-2147483648 ≤ (v2 + 1) ∧ (v2 + 1) ≤ 2147483647) ∧ W_X9_bringsUp d 91 [some (.inr (.inr 115)), some (.inl (v1 + (w37 116 (2304 + v2)))), some (.inl (v2 + 1)), none, none] [] w37 K)))))) ∧ (¬ (v2 < 0) → (-2147483648 ≤ (2304 + v2) ∧ (2304 + v2) ≤ 2147483647) ∧ (0 ≤ (2304 + v2) ∧ (2304 + v2) < 2778) ∧ (∀ w38, w38 = wset w 116 (2304 + v2) 1 → (-2147483648 ≤ (2232 + v2) ∧ (2232 + v2) ≤ 2147483647) ∧ (0 ≤ (2232 + v2) ∧ (2232 + v2) < 2778) ∧ (-2147483648 ≤ (2304 + v2) ∧ (2304 + v2) ≤ 2147483647) ∧ (0 ≤ (2304 + v2) ∧ (2304 + v2) < 2778) ∧ (-2147483648 ≤ ((w38 116 (2232 + v2)) + (w38 116 (2304 + v2))) ∧ ((w38 116 (2232 + v2)) + (w38 116 (2304 + v2))) ≤ 2147483647) ∧ (0 ≤ (2232 + v2) ∧ (2232 + v2) < 2778) ∧ (∀ w39, w39 = wset w38 116 (2232 + v2) ((w38 116 (2232 + v2)) + (w38 116 (2304 + v2))) → (-2147483648 ≤ (2448 + v2) ∧ (2448 + v2) ≤ 2147483647) ∧ ((v2 < 0 → (0 ≤ (2448 + v2) ∧ (2448 + v2) < 2778) ∧ (∀ w40, w40 = wset w39 116 (2448 + v2) v2 → (-2147483648 ≤ (2304 + v2) ∧ (2304 + v2) ≤ 2147483647) ∧ (0 ≤ (2304 + v2) ∧ (2304 + v2) < 2778) ∧ (-2147483648 ≤ (v1 + (w40 116 (2304 + v2))) ∧ (v1 + (w40 116 (2304 + v2))) ≤ 2147483647) ∧ (-2147483648 ≤ (v2 + 1) ∧ (v2 + 1) ≤ 2147483647) ∧ W_X9_bringsUp d 91 [some (.inr (.inr 115)), some (.inl (v1 + (w40 116 (2304 + v2)))), some (.inl (v2 + 1)), none, none] [] w40 K)) ∧ (¬ (v2 < 0) → (0 ≤ (2448 + v2) ∧ (2448 + v2) < 2778) ∧ (∀ w41, w41 = wset w39 116 (2448 + v2) v2 → (-2147483648 ≤ (2304 + v2) ∧ (2304 + v2) ≤ 2147483647) ∧ (0 ≤ (2304 + v2) ∧ (2304 + v2) < 2778) ∧ (-2147483648 ≤ (v1 + (w41 116 (2304 + v2))) ∧ (v1 + (w41 116 (2304 + v2))) ≤ 2147483647) ∧ (-2147483648 ≤ (v2 + 1) ∧ (v2 + 1) ≤ 2147483647) ∧ W_X9_bringsUp d 91 [some (.inr (.inr 115)), some (.inl (v1 + (w41 116 (2304 + v2)))), some (.inl (v2 + 1)), none, none] [] w41 K)))))))))))))))))) :
    W_X9_bringsUp d 91 [some (.inr (.inr 115)), some (.inl v1), some (.inl v2), none, none] [] w K := by
  refine WA.iload_n dX9_bringsUp_91 rfl ?_
  refine WA.bipush dX9_bringsUp_92 ⟨by decide, by decide⟩ ?_
  refine WA.icmp_ge (tgt := 235) dX9_bringsUp_94 (by decide) (fun hc => ?_) (fun hc => ?_)
  · have h := h.1 hc
    refine WA.iload_n dX9_bringsUp_235 rfl ?_
    exact WA.ireturn dX9_bringsUp_236 ⟨_, rfl, h⟩
  · have h := h.2 hc
    refine WA.aload_n dX9_bringsUp_97 rfl (by decide) ?_
    refine gxX9_59 rfl rfl dX9_bringsUp_98 ob_115 ?_
    refine WA.iload_n dX9_bringsUp_101 rfl ?_
    obtain ⟨s1, h⟩ := h
    refine WA.zaload dX9_bringsUp_102 ob_132 s1.1 s1.2 ?_
    refine WA.if_eq (tgt := 110) dX9_bringsUp_103 (by decide) (fun hc => ?_) (fun hc => ?_)
    · have h := h.1 hc
      refine WA.aload_n dX9_bringsUp_110 rfl (by decide) ?_
      refine WA.iload_n dX9_bringsUp_111 rfl ?_
      obtain ⟨d1, hd1, h⟩ := h
      refine WA.callV1 (kc := 0) (ks := 0) (kc' := 0) (ks' := 0) dX9_bringsUp_112 lkX9_372 rfl rfl rfl ob_115 rfl (Nat.le_of_ble_eq_true rfl) hd1 h (fun r w1 hK => ?_)
      obtain ⟨x1, rfl, h⟩ := hK
      change WA _ _ _ _ _ _ _ _ _ _ _ [.inl x1] _ _
      refine WA.istore_n (als' := [some (.inr (.inr 115)), some (.inl v1), some (.inl v2), some (.inl x1), none]) dX9_bringsUp_115 (Nat.le_of_ble_eq_true rfl) rfl ?_
      refine WA.aload_n dX9_bringsUp_116 rfl (by decide) ?_
      refine gxX9_59 rfl rfl dX9_bringsUp_117 ob_115 ?_
      refine WA.iload_n dX9_bringsUp_120 rfl ?_
      obtain ⟨s2, h⟩ := h
      refine WA.zaload dX9_bringsUp_121 ob_132 s2.1 s2.2 ?_
      refine WA.if_ne (tgt := 147) dX9_bringsUp_122 (by decide) (fun hc => ?_) (fun hc => ?_)
      · have h := h.1 hc
        refine WA.iconst dX9_bringsUp_147 ⟨by decide, by decide⟩ ?_
        refine WA.goto (tgt := 152) dX9_bringsUp_148 (by decide) ?_
        refine WA.istore (als' := [some (.inr (.inr 115)), some (.inl v1), some (.inl v2), some (.inl x1), some (.inl 1)]) dX9_bringsUp_152 (Nat.le_of_ble_eq_true rfl) rfl ?_
        refine WA.aload_n dX9_bringsUp_154 rfl (by decide) ?_
        refine gxX9_7 rfl rfl dX9_bringsUp_155 ob_115 ?_
        refine WA.sipush dX9_bringsUp_158 ⟨by decide, by decide⟩ ?_
        refine WA.iload_n dX9_bringsUp_161 rfl ?_
        obtain ⟨s3, h⟩ := h
        refine WA.iadd dX9_bringsUp_162 s3 ?_
        refine WA.iload dX9_bringsUp_163 rfl ?_
        refine WA.if_eq (tgt := 172) dX9_bringsUp_165 (by decide) (fun hc => absurd hc (by decide)) (fun _ => ?_)
        refine WA.iconst dX9_bringsUp_168 ⟨by decide, by decide⟩ ?_
        refine WA.goto (tgt := 173) dX9_bringsUp_169 (by decide) ?_
        obtain ⟨s4, h⟩ := h
        obtain ⟨w2, qw2⟩ : ∃ z, z = wset w1 116 (2304 + v2) 1 := ⟨_, rfl⟩
        have h := h w2 qw2
        refine WA.iastore dX9_bringsUp_173 ob_116 s4.1 s4.2 ?_
        rw [← qw2]
        refine WA.aload_n dX9_bringsUp_174 rfl (by decide) ?_
        refine gxX9_7 rfl rfl dX9_bringsUp_175 ob_115 ?_
        refine WA.sipush dX9_bringsUp_178 ⟨by decide, by decide⟩ ?_
        refine WA.iload_n dX9_bringsUp_181 rfl ?_
        obtain ⟨s5, h⟩ := h
        refine WA.iadd dX9_bringsUp_182 s5 ?_
        refine WA.dup2 dX9_bringsUp_183 rfl rfl ?_
        obtain ⟨s6, h⟩ := h
        refine WA.iaload dX9_bringsUp_184 ob_116 s6.1 s6.2 ?_
        refine WA.aload_n dX9_bringsUp_185 rfl (by decide) ?_
        refine gxX9_7 rfl rfl dX9_bringsUp_186 ob_115 ?_
        refine WA.sipush dX9_bringsUp_189 ⟨by decide, by decide⟩ ?_
        refine WA.iload_n dX9_bringsUp_192 rfl ?_
        obtain ⟨s7, h⟩ := h
        refine WA.iadd dX9_bringsUp_193 s7 ?_
        obtain ⟨s8, h⟩ := h
        refine WA.iaload dX9_bringsUp_194 ob_116 s8.1 s8.2 ?_
        obtain ⟨s9, h⟩ := h
        refine WA.iadd dX9_bringsUp_195 s9 ?_
        obtain ⟨s10, h⟩ := h
        obtain ⟨w3, qw3⟩ : ∃ z, z = wset w2 116 (2232 + v2) ((w2 116 (2232 + v2)) + (w2 116 (2304 + v2))) := ⟨_, rfl⟩
        have h := h w3 qw3
        refine WA.iastore dX9_bringsUp_196 ob_116 s10.1 s10.2 ?_
        rw [← qw3]
        refine WA.aload_n dX9_bringsUp_197 rfl (by decide) ?_
        refine gxX9_7 rfl rfl dX9_bringsUp_198 ob_115 ?_
        refine WA.sipush dX9_bringsUp_201 ⟨by decide, by decide⟩ ?_
        refine WA.iload_n dX9_bringsUp_204 rfl ?_
        obtain ⟨s11, h⟩ := h
        refine WA.iadd dX9_bringsUp_205 s11 ?_
        refine WA.iload_n dX9_bringsUp_206 rfl ?_
        refine WA.if_lt (tgt := 214) dX9_bringsUp_207 (by decide) (fun hc => ?_) (fun hc => ?_)
        · have h := h.1 hc
          refine WA.iload_n dX9_bringsUp_214 rfl ?_
          obtain ⟨s12, h⟩ := h
          obtain ⟨w4, qw4⟩ : ∃ z, z = wset w3 116 (2448 + v2) v2 := ⟨_, rfl⟩
          have h := h w4 qw4
          refine WA.iastore dX9_bringsUp_215 ob_116 s12.1 s12.2 ?_
          rw [← qw4]
          refine WA.iload_n dX9_bringsUp_216 rfl ?_
          refine WA.aload_n dX9_bringsUp_217 rfl (by decide) ?_
          refine gxX9_7 rfl rfl dX9_bringsUp_218 ob_115 ?_
          refine WA.sipush dX9_bringsUp_221 ⟨by decide, by decide⟩ ?_
          refine WA.iload_n dX9_bringsUp_224 rfl ?_
          obtain ⟨s13, h⟩ := h
          refine WA.iadd dX9_bringsUp_225 s13 ?_
          obtain ⟨s14, h⟩ := h
          refine WA.iaload dX9_bringsUp_226 ob_116 s14.1 s14.2 ?_
          obtain ⟨s15, h⟩ := h
          refine WA.iadd dX9_bringsUp_227 s15 ?_
          refine WA.istore_n (als' := [some (.inr (.inr 115)), some (.inl (v1 + (w4 116 (2304 + v2)))), some (.inl v2), some (.inl x1), some (.inl 1)]) dX9_bringsUp_228 (Nat.le_of_ble_eq_true rfl) rfl ?_
          obtain ⟨s16, h⟩ := h
          refine WA.iinc (als' := [some (.inr (.inr 115)), some (.inl (v1 + (w4 116 (2304 + v2)))), some (.inl (v2 + 1)), some (.inl x1), some (.inl 1)]) dX9_bringsUp_229 rfl s16 rfl ?_
          refine WA.goto (tgt := 91) dX9_bringsUp_232 (by decide) ?_
          exact WA.sub (als' := [some (.inr (.inr 115)), some (.inl (v1 + (w4 116 (2304 + v2)))), some (.inl (v2 + 1)), none, none]) (by simp only [am_sub, and_self]) rfl h
        · have h := h.2 hc
          refine WA.iload_n dX9_bringsUp_210 rfl ?_
          refine WA.goto (tgt := 215) dX9_bringsUp_211 (by decide) ?_
          obtain ⟨s17, h⟩ := h
          obtain ⟨w5, qw5⟩ : ∃ z, z = wset w3 116 (2448 + v2) x1 := ⟨_, rfl⟩
          have h := h w5 qw5
          refine WA.iastore dX9_bringsUp_215 ob_116 s17.1 s17.2 ?_
          rw [← qw5]
          refine WA.iload_n dX9_bringsUp_216 rfl ?_
          refine WA.aload_n dX9_bringsUp_217 rfl (by decide) ?_
          refine gxX9_7 rfl rfl dX9_bringsUp_218 ob_115 ?_
          refine WA.sipush dX9_bringsUp_221 ⟨by decide, by decide⟩ ?_
          refine WA.iload_n dX9_bringsUp_224 rfl ?_
          obtain ⟨s18, h⟩ := h
          refine WA.iadd dX9_bringsUp_225 s18 ?_
          obtain ⟨s19, h⟩ := h
          refine WA.iaload dX9_bringsUp_226 ob_116 s19.1 s19.2 ?_
          obtain ⟨s20, h⟩ := h
          refine WA.iadd dX9_bringsUp_227 s20 ?_
          refine WA.istore_n (als' := [some (.inr (.inr 115)), some (.inl (v1 + (w5 116 (2304 + v2)))), some (.inl v2), some (.inl x1), some (.inl 1)]) dX9_bringsUp_228 (Nat.le_of_ble_eq_true rfl) rfl ?_
          obtain ⟨s21, h⟩ := h
          refine WA.iinc (als' := [some (.inr (.inr 115)), some (.inl (v1 + (w5 116 (2304 + v2)))), some (.inl (v2 + 1)), some (.inl x1), some (.inl 1)]) dX9_bringsUp_229 rfl s21 rfl ?_
          refine WA.goto (tgt := 91) dX9_bringsUp_232 (by decide) ?_
          exact WA.sub (als' := [some (.inr (.inr 115)), some (.inl (v1 + (w5 116 (2304 + v2)))), some (.inl (v2 + 1)), none, none]) (by simp only [am_sub, and_self]) rfl h
      · have h := h.2 hc
        refine WA.aload_n dX9_bringsUp_125 rfl (by decide) ?_
        refine gxX9_25 rfl rfl dX9_bringsUp_126 ob_115 ?_
        refine WA.iload_n dX9_bringsUp_129 rfl ?_
        obtain ⟨s22, h⟩ := h
        refine WA.zaload dX9_bringsUp_130 ob_121 s22.1 s22.2 ?_
        refine WA.if_ne (tgt := 147) dX9_bringsUp_131 (by decide) (fun hc => ?_) (fun hc => ?_)
        · have h := h.1 hc
          refine WA.iconst dX9_bringsUp_147 ⟨by decide, by decide⟩ ?_
          refine WA.goto (tgt := 152) dX9_bringsUp_148 (by decide) ?_
          refine WA.istore (als' := [some (.inr (.inr 115)), some (.inl v1), some (.inl v2), some (.inl x1), some (.inl 1)]) dX9_bringsUp_152 (Nat.le_of_ble_eq_true rfl) rfl ?_
          refine WA.aload_n dX9_bringsUp_154 rfl (by decide) ?_
          refine gxX9_7 rfl rfl dX9_bringsUp_155 ob_115 ?_
          refine WA.sipush dX9_bringsUp_158 ⟨by decide, by decide⟩ ?_
          refine WA.iload_n dX9_bringsUp_161 rfl ?_
          obtain ⟨s23, h⟩ := h
          refine WA.iadd dX9_bringsUp_162 s23 ?_
          refine WA.iload dX9_bringsUp_163 rfl ?_
          refine WA.if_eq (tgt := 172) dX9_bringsUp_165 (by decide) (fun hc => absurd hc (by decide)) (fun _ => ?_)
          refine WA.iconst dX9_bringsUp_168 ⟨by decide, by decide⟩ ?_
          refine WA.goto (tgt := 173) dX9_bringsUp_169 (by decide) ?_
          obtain ⟨s24, h⟩ := h
          obtain ⟨w6, qw6⟩ : ∃ z, z = wset w1 116 (2304 + v2) 1 := ⟨_, rfl⟩
          have h := h w6 qw6
          refine WA.iastore dX9_bringsUp_173 ob_116 s24.1 s24.2 ?_
          rw [← qw6]
          refine WA.aload_n dX9_bringsUp_174 rfl (by decide) ?_
          refine gxX9_7 rfl rfl dX9_bringsUp_175 ob_115 ?_
          refine WA.sipush dX9_bringsUp_178 ⟨by decide, by decide⟩ ?_
          refine WA.iload_n dX9_bringsUp_181 rfl ?_
          obtain ⟨s25, h⟩ := h
          refine WA.iadd dX9_bringsUp_182 s25 ?_
          refine WA.dup2 dX9_bringsUp_183 rfl rfl ?_
          obtain ⟨s26, h⟩ := h
          refine WA.iaload dX9_bringsUp_184 ob_116 s26.1 s26.2 ?_
          refine WA.aload_n dX9_bringsUp_185 rfl (by decide) ?_
          refine gxX9_7 rfl rfl dX9_bringsUp_186 ob_115 ?_
          refine WA.sipush dX9_bringsUp_189 ⟨by decide, by decide⟩ ?_
          refine WA.iload_n dX9_bringsUp_192 rfl ?_
          obtain ⟨s27, h⟩ := h
          refine WA.iadd dX9_bringsUp_193 s27 ?_
          obtain ⟨s28, h⟩ := h
          refine WA.iaload dX9_bringsUp_194 ob_116 s28.1 s28.2 ?_
          obtain ⟨s29, h⟩ := h
          refine WA.iadd dX9_bringsUp_195 s29 ?_
          obtain ⟨s30, h⟩ := h
          obtain ⟨w7, qw7⟩ : ∃ z, z = wset w6 116 (2232 + v2) ((w6 116 (2232 + v2)) + (w6 116 (2304 + v2))) := ⟨_, rfl⟩
          have h := h w7 qw7
          refine WA.iastore dX9_bringsUp_196 ob_116 s30.1 s30.2 ?_
          rw [← qw7]
          refine WA.aload_n dX9_bringsUp_197 rfl (by decide) ?_
          refine gxX9_7 rfl rfl dX9_bringsUp_198 ob_115 ?_
          refine WA.sipush dX9_bringsUp_201 ⟨by decide, by decide⟩ ?_
          refine WA.iload_n dX9_bringsUp_204 rfl ?_
          obtain ⟨s31, h⟩ := h
          refine WA.iadd dX9_bringsUp_205 s31 ?_
          refine WA.iload_n dX9_bringsUp_206 rfl ?_
          refine WA.if_lt (tgt := 214) dX9_bringsUp_207 (by decide) (fun hc => ?_) (fun hc => ?_)
          · have h := h.1 hc
            refine WA.iload_n dX9_bringsUp_214 rfl ?_
            obtain ⟨s32, h⟩ := h
            obtain ⟨w8, qw8⟩ : ∃ z, z = wset w7 116 (2448 + v2) v2 := ⟨_, rfl⟩
            have h := h w8 qw8
            refine WA.iastore dX9_bringsUp_215 ob_116 s32.1 s32.2 ?_
            rw [← qw8]
            refine WA.iload_n dX9_bringsUp_216 rfl ?_
            refine WA.aload_n dX9_bringsUp_217 rfl (by decide) ?_
            refine gxX9_7 rfl rfl dX9_bringsUp_218 ob_115 ?_
            refine WA.sipush dX9_bringsUp_221 ⟨by decide, by decide⟩ ?_
            refine WA.iload_n dX9_bringsUp_224 rfl ?_
            obtain ⟨s33, h⟩ := h
            refine WA.iadd dX9_bringsUp_225 s33 ?_
            obtain ⟨s34, h⟩ := h
            refine WA.iaload dX9_bringsUp_226 ob_116 s34.1 s34.2 ?_
            obtain ⟨s35, h⟩ := h
            refine WA.iadd dX9_bringsUp_227 s35 ?_
            refine WA.istore_n (als' := [some (.inr (.inr 115)), some (.inl (v1 + (w8 116 (2304 + v2)))), some (.inl v2), some (.inl x1), some (.inl 1)]) dX9_bringsUp_228 (Nat.le_of_ble_eq_true rfl) rfl ?_
            obtain ⟨s36, h⟩ := h
            refine WA.iinc (als' := [some (.inr (.inr 115)), some (.inl (v1 + (w8 116 (2304 + v2)))), some (.inl (v2 + 1)), some (.inl x1), some (.inl 1)]) dX9_bringsUp_229 rfl s36 rfl ?_
            refine WA.goto (tgt := 91) dX9_bringsUp_232 (by decide) ?_
            exact WA.sub (als' := [some (.inr (.inr 115)), some (.inl (v1 + (w8 116 (2304 + v2)))), some (.inl (v2 + 1)), none, none]) (by simp only [am_sub, and_self]) rfl h
          · have h := h.2 hc
            refine WA.iload_n dX9_bringsUp_210 rfl ?_
            refine WA.goto (tgt := 215) dX9_bringsUp_211 (by decide) ?_
            obtain ⟨s37, h⟩ := h
            obtain ⟨w9, qw9⟩ : ∃ z, z = wset w7 116 (2448 + v2) x1 := ⟨_, rfl⟩
            have h := h w9 qw9
            refine WA.iastore dX9_bringsUp_215 ob_116 s37.1 s37.2 ?_
            rw [← qw9]
            refine WA.iload_n dX9_bringsUp_216 rfl ?_
            refine WA.aload_n dX9_bringsUp_217 rfl (by decide) ?_
            refine gxX9_7 rfl rfl dX9_bringsUp_218 ob_115 ?_
            refine WA.sipush dX9_bringsUp_221 ⟨by decide, by decide⟩ ?_
            refine WA.iload_n dX9_bringsUp_224 rfl ?_
            obtain ⟨s38, h⟩ := h
            refine WA.iadd dX9_bringsUp_225 s38 ?_
            obtain ⟨s39, h⟩ := h
            refine WA.iaload dX9_bringsUp_226 ob_116 s39.1 s39.2 ?_
            obtain ⟨s40, h⟩ := h
            refine WA.iadd dX9_bringsUp_227 s40 ?_
            refine WA.istore_n (als' := [some (.inr (.inr 115)), some (.inl (v1 + (w9 116 (2304 + v2)))), some (.inl v2), some (.inl x1), some (.inl 1)]) dX9_bringsUp_228 (Nat.le_of_ble_eq_true rfl) rfl ?_
            obtain ⟨s41, h⟩ := h
            refine WA.iinc (als' := [some (.inr (.inr 115)), some (.inl (v1 + (w9 116 (2304 + v2)))), some (.inl (v2 + 1)), some (.inl x1), some (.inl 1)]) dX9_bringsUp_229 rfl s41 rfl ?_
            refine WA.goto (tgt := 91) dX9_bringsUp_232 (by decide) ?_
            exact WA.sub (als' := [some (.inr (.inr 115)), some (.inl (v1 + (w9 116 (2304 + v2)))), some (.inl (v2 + 1)), none, none]) (by simp only [am_sub, and_self]) rfl h
        · have h := h.2 hc
          refine WA.aload_n dX9_bringsUp_134 rfl (by decide) ?_
          refine gxX9_44 rfl rfl dX9_bringsUp_135 ob_115 ?_
          refine WA.iload_n dX9_bringsUp_138 rfl ?_
          obtain ⟨s42, h⟩ := h
          refine WA.zaload dX9_bringsUp_139 ob_127 s42.1 s42.2 ?_
          refine WA.if_ne (tgt := 147) dX9_bringsUp_140 (by decide) (fun hc => ?_) (fun hc => ?_)
          · have h := h.1 hc
            refine WA.iconst dX9_bringsUp_147 ⟨by decide, by decide⟩ ?_
            refine WA.goto (tgt := 152) dX9_bringsUp_148 (by decide) ?_
            refine WA.istore (als' := [some (.inr (.inr 115)), some (.inl v1), some (.inl v2), some (.inl x1), some (.inl 1)]) dX9_bringsUp_152 (Nat.le_of_ble_eq_true rfl) rfl ?_
            refine WA.aload_n dX9_bringsUp_154 rfl (by decide) ?_
            refine gxX9_7 rfl rfl dX9_bringsUp_155 ob_115 ?_
            refine WA.sipush dX9_bringsUp_158 ⟨by decide, by decide⟩ ?_
            refine WA.iload_n dX9_bringsUp_161 rfl ?_
            obtain ⟨s43, h⟩ := h
            refine WA.iadd dX9_bringsUp_162 s43 ?_
            refine WA.iload dX9_bringsUp_163 rfl ?_
            refine WA.if_eq (tgt := 172) dX9_bringsUp_165 (by decide) (fun hc => absurd hc (by decide)) (fun _ => ?_)
            refine WA.iconst dX9_bringsUp_168 ⟨by decide, by decide⟩ ?_
            refine WA.goto (tgt := 173) dX9_bringsUp_169 (by decide) ?_
            obtain ⟨s44, h⟩ := h
            obtain ⟨w10, qw10⟩ : ∃ z, z = wset w1 116 (2304 + v2) 1 := ⟨_, rfl⟩
            have h := h w10 qw10
            refine WA.iastore dX9_bringsUp_173 ob_116 s44.1 s44.2 ?_
            rw [← qw10]
            refine WA.aload_n dX9_bringsUp_174 rfl (by decide) ?_
            refine gxX9_7 rfl rfl dX9_bringsUp_175 ob_115 ?_
            refine WA.sipush dX9_bringsUp_178 ⟨by decide, by decide⟩ ?_
            refine WA.iload_n dX9_bringsUp_181 rfl ?_
            obtain ⟨s45, h⟩ := h
            refine WA.iadd dX9_bringsUp_182 s45 ?_
            refine WA.dup2 dX9_bringsUp_183 rfl rfl ?_
            obtain ⟨s46, h⟩ := h
            refine WA.iaload dX9_bringsUp_184 ob_116 s46.1 s46.2 ?_
            refine WA.aload_n dX9_bringsUp_185 rfl (by decide) ?_
            refine gxX9_7 rfl rfl dX9_bringsUp_186 ob_115 ?_
            refine WA.sipush dX9_bringsUp_189 ⟨by decide, by decide⟩ ?_
            refine WA.iload_n dX9_bringsUp_192 rfl ?_
            obtain ⟨s47, h⟩ := h
            refine WA.iadd dX9_bringsUp_193 s47 ?_
            obtain ⟨s48, h⟩ := h
            refine WA.iaload dX9_bringsUp_194 ob_116 s48.1 s48.2 ?_
            obtain ⟨s49, h⟩ := h
            refine WA.iadd dX9_bringsUp_195 s49 ?_
            obtain ⟨s50, h⟩ := h
            obtain ⟨w11, qw11⟩ : ∃ z, z = wset w10 116 (2232 + v2) ((w10 116 (2232 + v2)) + (w10 116 (2304 + v2))) := ⟨_, rfl⟩
            have h := h w11 qw11
            refine WA.iastore dX9_bringsUp_196 ob_116 s50.1 s50.2 ?_
            rw [← qw11]
            refine WA.aload_n dX9_bringsUp_197 rfl (by decide) ?_
            refine gxX9_7 rfl rfl dX9_bringsUp_198 ob_115 ?_
            refine WA.sipush dX9_bringsUp_201 ⟨by decide, by decide⟩ ?_
            refine WA.iload_n dX9_bringsUp_204 rfl ?_
            obtain ⟨s51, h⟩ := h
            refine WA.iadd dX9_bringsUp_205 s51 ?_
            refine WA.iload_n dX9_bringsUp_206 rfl ?_
            refine WA.if_lt (tgt := 214) dX9_bringsUp_207 (by decide) (fun hc => ?_) (fun hc => ?_)
            · have h := h.1 hc
              refine WA.iload_n dX9_bringsUp_214 rfl ?_
              obtain ⟨s52, h⟩ := h
              obtain ⟨w12, qw12⟩ : ∃ z, z = wset w11 116 (2448 + v2) v2 := ⟨_, rfl⟩
              have h := h w12 qw12
              refine WA.iastore dX9_bringsUp_215 ob_116 s52.1 s52.2 ?_
              rw [← qw12]
              refine WA.iload_n dX9_bringsUp_216 rfl ?_
              refine WA.aload_n dX9_bringsUp_217 rfl (by decide) ?_
              refine gxX9_7 rfl rfl dX9_bringsUp_218 ob_115 ?_
              refine WA.sipush dX9_bringsUp_221 ⟨by decide, by decide⟩ ?_
              refine WA.iload_n dX9_bringsUp_224 rfl ?_
              obtain ⟨s53, h⟩ := h
              refine WA.iadd dX9_bringsUp_225 s53 ?_
              obtain ⟨s54, h⟩ := h
              refine WA.iaload dX9_bringsUp_226 ob_116 s54.1 s54.2 ?_
              obtain ⟨s55, h⟩ := h
              refine WA.iadd dX9_bringsUp_227 s55 ?_
              refine WA.istore_n (als' := [some (.inr (.inr 115)), some (.inl (v1 + (w12 116 (2304 + v2)))), some (.inl v2), some (.inl x1), some (.inl 1)]) dX9_bringsUp_228 (Nat.le_of_ble_eq_true rfl) rfl ?_
              obtain ⟨s56, h⟩ := h
              refine WA.iinc (als' := [some (.inr (.inr 115)), some (.inl (v1 + (w12 116 (2304 + v2)))), some (.inl (v2 + 1)), some (.inl x1), some (.inl 1)]) dX9_bringsUp_229 rfl s56 rfl ?_
              refine WA.goto (tgt := 91) dX9_bringsUp_232 (by decide) ?_
              exact WA.sub (als' := [some (.inr (.inr 115)), some (.inl (v1 + (w12 116 (2304 + v2)))), some (.inl (v2 + 1)), none, none]) (by simp only [am_sub, and_self]) rfl h
            · have h := h.2 hc
              refine WA.iload_n dX9_bringsUp_210 rfl ?_
              refine WA.goto (tgt := 215) dX9_bringsUp_211 (by decide) ?_
              obtain ⟨s57, h⟩ := h
              obtain ⟨w13, qw13⟩ : ∃ z, z = wset w11 116 (2448 + v2) x1 := ⟨_, rfl⟩
              have h := h w13 qw13
              refine WA.iastore dX9_bringsUp_215 ob_116 s57.1 s57.2 ?_
              rw [← qw13]
              refine WA.iload_n dX9_bringsUp_216 rfl ?_
              refine WA.aload_n dX9_bringsUp_217 rfl (by decide) ?_
              refine gxX9_7 rfl rfl dX9_bringsUp_218 ob_115 ?_
              refine WA.sipush dX9_bringsUp_221 ⟨by decide, by decide⟩ ?_
              refine WA.iload_n dX9_bringsUp_224 rfl ?_
              obtain ⟨s58, h⟩ := h
              refine WA.iadd dX9_bringsUp_225 s58 ?_
              obtain ⟨s59, h⟩ := h
              refine WA.iaload dX9_bringsUp_226 ob_116 s59.1 s59.2 ?_
              obtain ⟨s60, h⟩ := h
              refine WA.iadd dX9_bringsUp_227 s60 ?_
              refine WA.istore_n (als' := [some (.inr (.inr 115)), some (.inl (v1 + (w13 116 (2304 + v2)))), some (.inl v2), some (.inl x1), some (.inl 1)]) dX9_bringsUp_228 (Nat.le_of_ble_eq_true rfl) rfl ?_
              obtain ⟨s61, h⟩ := h
              refine WA.iinc (als' := [some (.inr (.inr 115)), some (.inl (v1 + (w13 116 (2304 + v2)))), some (.inl (v2 + 1)), some (.inl x1), some (.inl 1)]) dX9_bringsUp_229 rfl s61 rfl ?_
              refine WA.goto (tgt := 91) dX9_bringsUp_232 (by decide) ?_
              exact WA.sub (als' := [some (.inr (.inr 115)), some (.inl (v1 + (w13 116 (2304 + v2)))), some (.inl (v2 + 1)), none, none]) (by simp only [am_sub, and_self]) rfl h
          · have h := h.2 hc
            refine WA.iload_n dX9_bringsUp_143 rfl ?_
            refine WA.if_lt (tgt := 151) dX9_bringsUp_144 (by decide) (fun hc => ?_) (fun hc => ?_)
            · have h := h.1 hc
              refine WA.iconst dX9_bringsUp_151 ⟨by decide, by decide⟩ ?_
              refine WA.istore (als' := [some (.inr (.inr 115)), some (.inl v1), some (.inl v2), some (.inl x1), some (.inl 0)]) dX9_bringsUp_152 (Nat.le_of_ble_eq_true rfl) rfl ?_
              refine WA.aload_n dX9_bringsUp_154 rfl (by decide) ?_
              refine gxX9_7 rfl rfl dX9_bringsUp_155 ob_115 ?_
              refine WA.sipush dX9_bringsUp_158 ⟨by decide, by decide⟩ ?_
              refine WA.iload_n dX9_bringsUp_161 rfl ?_
              obtain ⟨s62, h⟩ := h
              refine WA.iadd dX9_bringsUp_162 s62 ?_
              refine WA.iload dX9_bringsUp_163 rfl ?_
              refine WA.if_eq (tgt := 172) dX9_bringsUp_165 (by decide) (fun _ => ?_) (fun hc => absurd hc (by decide))
              refine WA.iconst dX9_bringsUp_172 ⟨by decide, by decide⟩ ?_
              obtain ⟨s63, h⟩ := h
              obtain ⟨w14, qw14⟩ : ∃ z, z = wset w1 116 (2304 + v2) 0 := ⟨_, rfl⟩
              have h := h w14 qw14
              refine WA.iastore dX9_bringsUp_173 ob_116 s63.1 s63.2 ?_
              rw [← qw14]
              refine WA.aload_n dX9_bringsUp_174 rfl (by decide) ?_
              refine gxX9_7 rfl rfl dX9_bringsUp_175 ob_115 ?_
              refine WA.sipush dX9_bringsUp_178 ⟨by decide, by decide⟩ ?_
              refine WA.iload_n dX9_bringsUp_181 rfl ?_
              obtain ⟨s64, h⟩ := h
              refine WA.iadd dX9_bringsUp_182 s64 ?_
              refine WA.dup2 dX9_bringsUp_183 rfl rfl ?_
              obtain ⟨s65, h⟩ := h
              refine WA.iaload dX9_bringsUp_184 ob_116 s65.1 s65.2 ?_
              refine WA.aload_n dX9_bringsUp_185 rfl (by decide) ?_
              refine gxX9_7 rfl rfl dX9_bringsUp_186 ob_115 ?_
              refine WA.sipush dX9_bringsUp_189 ⟨by decide, by decide⟩ ?_
              refine WA.iload_n dX9_bringsUp_192 rfl ?_
              obtain ⟨s66, h⟩ := h
              refine WA.iadd dX9_bringsUp_193 s66 ?_
              obtain ⟨s67, h⟩ := h
              refine WA.iaload dX9_bringsUp_194 ob_116 s67.1 s67.2 ?_
              obtain ⟨s68, h⟩ := h
              refine WA.iadd dX9_bringsUp_195 s68 ?_
              obtain ⟨s69, h⟩ := h
              obtain ⟨w15, qw15⟩ : ∃ z, z = wset w14 116 (2232 + v2) ((w14 116 (2232 + v2)) + (w14 116 (2304 + v2))) := ⟨_, rfl⟩
              have h := h w15 qw15
              refine WA.iastore dX9_bringsUp_196 ob_116 s69.1 s69.2 ?_
              rw [← qw15]
              refine WA.aload_n dX9_bringsUp_197 rfl (by decide) ?_
              refine gxX9_7 rfl rfl dX9_bringsUp_198 ob_115 ?_
              refine WA.sipush dX9_bringsUp_201 ⟨by decide, by decide⟩ ?_
              refine WA.iload_n dX9_bringsUp_204 rfl ?_
              obtain ⟨s70, h⟩ := h
              refine WA.iadd dX9_bringsUp_205 s70 ?_
              refine WA.iload_n dX9_bringsUp_206 rfl ?_
              refine WA.if_lt (tgt := 214) dX9_bringsUp_207 (by decide) (fun hc => ?_) (fun hc => ?_)
              · have h := h.1 hc
                refine WA.iload_n dX9_bringsUp_214 rfl ?_
                obtain ⟨s71, h⟩ := h
                obtain ⟨w16, qw16⟩ : ∃ z, z = wset w15 116 (2448 + v2) v2 := ⟨_, rfl⟩
                have h := h w16 qw16
                refine WA.iastore dX9_bringsUp_215 ob_116 s71.1 s71.2 ?_
                rw [← qw16]
                refine WA.iload_n dX9_bringsUp_216 rfl ?_
                refine WA.aload_n dX9_bringsUp_217 rfl (by decide) ?_
                refine gxX9_7 rfl rfl dX9_bringsUp_218 ob_115 ?_
                refine WA.sipush dX9_bringsUp_221 ⟨by decide, by decide⟩ ?_
                refine WA.iload_n dX9_bringsUp_224 rfl ?_
                obtain ⟨s72, h⟩ := h
                refine WA.iadd dX9_bringsUp_225 s72 ?_
                obtain ⟨s73, h⟩ := h
                refine WA.iaload dX9_bringsUp_226 ob_116 s73.1 s73.2 ?_
                obtain ⟨s74, h⟩ := h
                refine WA.iadd dX9_bringsUp_227 s74 ?_
                refine WA.istore_n (als' := [some (.inr (.inr 115)), some (.inl (v1 + (w16 116 (2304 + v2)))), some (.inl v2), some (.inl x1), some (.inl 0)]) dX9_bringsUp_228 (Nat.le_of_ble_eq_true rfl) rfl ?_
                obtain ⟨s75, h⟩ := h
                refine WA.iinc (als' := [some (.inr (.inr 115)), some (.inl (v1 + (w16 116 (2304 + v2)))), some (.inl (v2 + 1)), some (.inl x1), some (.inl 0)]) dX9_bringsUp_229 rfl s75 rfl ?_
                refine WA.goto (tgt := 91) dX9_bringsUp_232 (by decide) ?_
                exact WA.sub (als' := [some (.inr (.inr 115)), some (.inl (v1 + (w16 116 (2304 + v2)))), some (.inl (v2 + 1)), none, none]) (by simp only [am_sub, and_self]) rfl h
              · have h := h.2 hc
                refine WA.iload_n dX9_bringsUp_210 rfl ?_
                refine WA.goto (tgt := 215) dX9_bringsUp_211 (by decide) ?_
                obtain ⟨s76, h⟩ := h
                obtain ⟨w17, qw17⟩ : ∃ z, z = wset w15 116 (2448 + v2) x1 := ⟨_, rfl⟩
                have h := h w17 qw17
                refine WA.iastore dX9_bringsUp_215 ob_116 s76.1 s76.2 ?_
                rw [← qw17]
                refine WA.iload_n dX9_bringsUp_216 rfl ?_
                refine WA.aload_n dX9_bringsUp_217 rfl (by decide) ?_
                refine gxX9_7 rfl rfl dX9_bringsUp_218 ob_115 ?_
                refine WA.sipush dX9_bringsUp_221 ⟨by decide, by decide⟩ ?_
                refine WA.iload_n dX9_bringsUp_224 rfl ?_
                obtain ⟨s77, h⟩ := h
                refine WA.iadd dX9_bringsUp_225 s77 ?_
                obtain ⟨s78, h⟩ := h
                refine WA.iaload dX9_bringsUp_226 ob_116 s78.1 s78.2 ?_
                obtain ⟨s79, h⟩ := h
                refine WA.iadd dX9_bringsUp_227 s79 ?_
                refine WA.istore_n (als' := [some (.inr (.inr 115)), some (.inl (v1 + (w17 116 (2304 + v2)))), some (.inl v2), some (.inl x1), some (.inl 0)]) dX9_bringsUp_228 (Nat.le_of_ble_eq_true rfl) rfl ?_
                obtain ⟨s80, h⟩ := h
                refine WA.iinc (als' := [some (.inr (.inr 115)), some (.inl (v1 + (w17 116 (2304 + v2)))), some (.inl (v2 + 1)), some (.inl x1), some (.inl 0)]) dX9_bringsUp_229 rfl s80 rfl ?_
                refine WA.goto (tgt := 91) dX9_bringsUp_232 (by decide) ?_
                exact WA.sub (als' := [some (.inr (.inr 115)), some (.inl (v1 + (w17 116 (2304 + v2)))), some (.inl (v2 + 1)), none, none]) (by simp only [am_sub, and_self]) rfl h
            · have h := h.2 hc
              refine WA.iconst dX9_bringsUp_147 ⟨by decide, by decide⟩ ?_
              refine WA.goto (tgt := 152) dX9_bringsUp_148 (by decide) ?_
              refine WA.istore (als' := [some (.inr (.inr 115)), some (.inl v1), some (.inl v2), some (.inl x1), some (.inl 1)]) dX9_bringsUp_152 (Nat.le_of_ble_eq_true rfl) rfl ?_
              refine WA.aload_n dX9_bringsUp_154 rfl (by decide) ?_
              refine gxX9_7 rfl rfl dX9_bringsUp_155 ob_115 ?_
              refine WA.sipush dX9_bringsUp_158 ⟨by decide, by decide⟩ ?_
              refine WA.iload_n dX9_bringsUp_161 rfl ?_
              obtain ⟨s81, h⟩ := h
              refine WA.iadd dX9_bringsUp_162 s81 ?_
              refine WA.iload dX9_bringsUp_163 rfl ?_
              refine WA.if_eq (tgt := 172) dX9_bringsUp_165 (by decide) (fun hc => absurd hc (by decide)) (fun _ => ?_)
              refine WA.iconst dX9_bringsUp_168 ⟨by decide, by decide⟩ ?_
              refine WA.goto (tgt := 173) dX9_bringsUp_169 (by decide) ?_
              obtain ⟨s82, h⟩ := h
              obtain ⟨w18, qw18⟩ : ∃ z, z = wset w1 116 (2304 + v2) 1 := ⟨_, rfl⟩
              have h := h w18 qw18
              refine WA.iastore dX9_bringsUp_173 ob_116 s82.1 s82.2 ?_
              rw [← qw18]
              refine WA.aload_n dX9_bringsUp_174 rfl (by decide) ?_
              refine gxX9_7 rfl rfl dX9_bringsUp_175 ob_115 ?_
              refine WA.sipush dX9_bringsUp_178 ⟨by decide, by decide⟩ ?_
              refine WA.iload_n dX9_bringsUp_181 rfl ?_
              obtain ⟨s83, h⟩ := h
              refine WA.iadd dX9_bringsUp_182 s83 ?_
              refine WA.dup2 dX9_bringsUp_183 rfl rfl ?_
              obtain ⟨s84, h⟩ := h
              refine WA.iaload dX9_bringsUp_184 ob_116 s84.1 s84.2 ?_
              refine WA.aload_n dX9_bringsUp_185 rfl (by decide) ?_
              refine gxX9_7 rfl rfl dX9_bringsUp_186 ob_115 ?_
              refine WA.sipush dX9_bringsUp_189 ⟨by decide, by decide⟩ ?_
              refine WA.iload_n dX9_bringsUp_192 rfl ?_
              obtain ⟨s85, h⟩ := h
              refine WA.iadd dX9_bringsUp_193 s85 ?_
              obtain ⟨s86, h⟩ := h
              refine WA.iaload dX9_bringsUp_194 ob_116 s86.1 s86.2 ?_
              obtain ⟨s87, h⟩ := h
              refine WA.iadd dX9_bringsUp_195 s87 ?_
              obtain ⟨s88, h⟩ := h
              obtain ⟨w19, qw19⟩ : ∃ z, z = wset w18 116 (2232 + v2) ((w18 116 (2232 + v2)) + (w18 116 (2304 + v2))) := ⟨_, rfl⟩
              have h := h w19 qw19
              refine WA.iastore dX9_bringsUp_196 ob_116 s88.1 s88.2 ?_
              rw [← qw19]
              refine WA.aload_n dX9_bringsUp_197 rfl (by decide) ?_
              refine gxX9_7 rfl rfl dX9_bringsUp_198 ob_115 ?_
              refine WA.sipush dX9_bringsUp_201 ⟨by decide, by decide⟩ ?_
              refine WA.iload_n dX9_bringsUp_204 rfl ?_
              obtain ⟨s89, h⟩ := h
              refine WA.iadd dX9_bringsUp_205 s89 ?_
              refine WA.iload_n dX9_bringsUp_206 rfl ?_
              refine WA.if_lt (tgt := 214) dX9_bringsUp_207 (by decide) (fun hc => ?_) (fun hc => ?_)
              · have h := h.1 hc
                refine WA.iload_n dX9_bringsUp_214 rfl ?_
                obtain ⟨s90, h⟩ := h
                obtain ⟨w20, qw20⟩ : ∃ z, z = wset w19 116 (2448 + v2) v2 := ⟨_, rfl⟩
                have h := h w20 qw20
                refine WA.iastore dX9_bringsUp_215 ob_116 s90.1 s90.2 ?_
                rw [← qw20]
                refine WA.iload_n dX9_bringsUp_216 rfl ?_
                refine WA.aload_n dX9_bringsUp_217 rfl (by decide) ?_
                refine gxX9_7 rfl rfl dX9_bringsUp_218 ob_115 ?_
                refine WA.sipush dX9_bringsUp_221 ⟨by decide, by decide⟩ ?_
                refine WA.iload_n dX9_bringsUp_224 rfl ?_
                obtain ⟨s91, h⟩ := h
                refine WA.iadd dX9_bringsUp_225 s91 ?_
                obtain ⟨s92, h⟩ := h
                refine WA.iaload dX9_bringsUp_226 ob_116 s92.1 s92.2 ?_
                obtain ⟨s93, h⟩ := h
                refine WA.iadd dX9_bringsUp_227 s93 ?_
                refine WA.istore_n (als' := [some (.inr (.inr 115)), some (.inl (v1 + (w20 116 (2304 + v2)))), some (.inl v2), some (.inl x1), some (.inl 1)]) dX9_bringsUp_228 (Nat.le_of_ble_eq_true rfl) rfl ?_
                obtain ⟨s94, h⟩ := h
                refine WA.iinc (als' := [some (.inr (.inr 115)), some (.inl (v1 + (w20 116 (2304 + v2)))), some (.inl (v2 + 1)), some (.inl x1), some (.inl 1)]) dX9_bringsUp_229 rfl s94 rfl ?_
                refine WA.goto (tgt := 91) dX9_bringsUp_232 (by decide) ?_
                exact WA.sub (als' := [some (.inr (.inr 115)), some (.inl (v1 + (w20 116 (2304 + v2)))), some (.inl (v2 + 1)), none, none]) (by simp only [am_sub, and_self]) rfl h
              · have h := h.2 hc
                refine WA.iload_n dX9_bringsUp_210 rfl ?_
                refine WA.goto (tgt := 215) dX9_bringsUp_211 (by decide) ?_
                obtain ⟨s95, h⟩ := h
                obtain ⟨w21, qw21⟩ : ∃ z, z = wset w19 116 (2448 + v2) x1 := ⟨_, rfl⟩
                have h := h w21 qw21
                refine WA.iastore dX9_bringsUp_215 ob_116 s95.1 s95.2 ?_
                rw [← qw21]
                refine WA.iload_n dX9_bringsUp_216 rfl ?_
                refine WA.aload_n dX9_bringsUp_217 rfl (by decide) ?_
                refine gxX9_7 rfl rfl dX9_bringsUp_218 ob_115 ?_
                refine WA.sipush dX9_bringsUp_221 ⟨by decide, by decide⟩ ?_
                refine WA.iload_n dX9_bringsUp_224 rfl ?_
                obtain ⟨s96, h⟩ := h
                refine WA.iadd dX9_bringsUp_225 s96 ?_
                obtain ⟨s97, h⟩ := h
                refine WA.iaload dX9_bringsUp_226 ob_116 s97.1 s97.2 ?_
                obtain ⟨s98, h⟩ := h
                refine WA.iadd dX9_bringsUp_227 s98 ?_
                refine WA.istore_n (als' := [some (.inr (.inr 115)), some (.inl (v1 + (w21 116 (2304 + v2)))), some (.inl v2), some (.inl x1), some (.inl 1)]) dX9_bringsUp_228 (Nat.le_of_ble_eq_true rfl) rfl ?_
                obtain ⟨s99, h⟩ := h
                refine WA.iinc (als' := [some (.inr (.inr 115)), some (.inl (v1 + (w21 116 (2304 + v2)))), some (.inl (v2 + 1)), some (.inl x1), some (.inl 1)]) dX9_bringsUp_229 rfl s99 rfl ?_
                refine WA.goto (tgt := 91) dX9_bringsUp_232 (by decide) ?_
                exact WA.sub (als' := [some (.inr (.inr 115)), some (.inl (v1 + (w21 116 (2304 + v2)))), some (.inl (v2 + 1)), none, none]) (by simp only [am_sub, and_self]) rfl h
    · have h := h.2 hc
      refine WA.iload_n dX9_bringsUp_106 rfl ?_
      refine WA.goto (tgt := 115) dX9_bringsUp_107 (by decide) ?_
      refine WA.istore_n (als' := [some (.inr (.inr 115)), some (.inl v1), some (.inl v2), some (.inl v2), none]) dX9_bringsUp_115 (Nat.le_of_ble_eq_true rfl) rfl ?_
      refine WA.aload_n dX9_bringsUp_116 rfl (by decide) ?_
      refine gxX9_59 rfl rfl dX9_bringsUp_117 ob_115 ?_
      refine WA.iload_n dX9_bringsUp_120 rfl ?_
      obtain ⟨s100, h⟩ := h
      refine WA.zaload dX9_bringsUp_121 ob_132 s100.1 s100.2 ?_
      refine WA.if_ne (tgt := 147) dX9_bringsUp_122 (by decide) (fun hc => ?_) (fun hc => ?_)
      · have h := h.1 hc
        refine WA.iconst dX9_bringsUp_147 ⟨by decide, by decide⟩ ?_
        refine WA.goto (tgt := 152) dX9_bringsUp_148 (by decide) ?_
        refine WA.istore (als' := [some (.inr (.inr 115)), some (.inl v1), some (.inl v2), some (.inl v2), some (.inl 1)]) dX9_bringsUp_152 (Nat.le_of_ble_eq_true rfl) rfl ?_
        refine WA.aload_n dX9_bringsUp_154 rfl (by decide) ?_
        refine gxX9_7 rfl rfl dX9_bringsUp_155 ob_115 ?_
        refine WA.sipush dX9_bringsUp_158 ⟨by decide, by decide⟩ ?_
        refine WA.iload_n dX9_bringsUp_161 rfl ?_
        obtain ⟨s101, h⟩ := h
        refine WA.iadd dX9_bringsUp_162 s101 ?_
        refine WA.iload dX9_bringsUp_163 rfl ?_
        refine WA.if_eq (tgt := 172) dX9_bringsUp_165 (by decide) (fun hc => absurd hc (by decide)) (fun _ => ?_)
        refine WA.iconst dX9_bringsUp_168 ⟨by decide, by decide⟩ ?_
        refine WA.goto (tgt := 173) dX9_bringsUp_169 (by decide) ?_
        obtain ⟨s102, h⟩ := h
        obtain ⟨w22, qw22⟩ : ∃ z, z = wset w 116 (2304 + v2) 1 := ⟨_, rfl⟩
        have h := h w22 qw22
        refine WA.iastore dX9_bringsUp_173 ob_116 s102.1 s102.2 ?_
        rw [← qw22]
        refine WA.aload_n dX9_bringsUp_174 rfl (by decide) ?_
        refine gxX9_7 rfl rfl dX9_bringsUp_175 ob_115 ?_
        refine WA.sipush dX9_bringsUp_178 ⟨by decide, by decide⟩ ?_
        refine WA.iload_n dX9_bringsUp_181 rfl ?_
        obtain ⟨s103, h⟩ := h
        refine WA.iadd dX9_bringsUp_182 s103 ?_
        refine WA.dup2 dX9_bringsUp_183 rfl rfl ?_
        obtain ⟨s104, h⟩ := h
        refine WA.iaload dX9_bringsUp_184 ob_116 s104.1 s104.2 ?_
        refine WA.aload_n dX9_bringsUp_185 rfl (by decide) ?_
        refine gxX9_7 rfl rfl dX9_bringsUp_186 ob_115 ?_
        refine WA.sipush dX9_bringsUp_189 ⟨by decide, by decide⟩ ?_
        refine WA.iload_n dX9_bringsUp_192 rfl ?_
        obtain ⟨s105, h⟩ := h
        refine WA.iadd dX9_bringsUp_193 s105 ?_
        obtain ⟨s106, h⟩ := h
        refine WA.iaload dX9_bringsUp_194 ob_116 s106.1 s106.2 ?_
        obtain ⟨s107, h⟩ := h
        refine WA.iadd dX9_bringsUp_195 s107 ?_
        obtain ⟨s108, h⟩ := h
        obtain ⟨w23, qw23⟩ : ∃ z, z = wset w22 116 (2232 + v2) ((w22 116 (2232 + v2)) + (w22 116 (2304 + v2))) := ⟨_, rfl⟩
        have h := h w23 qw23
        refine WA.iastore dX9_bringsUp_196 ob_116 s108.1 s108.2 ?_
        rw [← qw23]
        refine WA.aload_n dX9_bringsUp_197 rfl (by decide) ?_
        refine gxX9_7 rfl rfl dX9_bringsUp_198 ob_115 ?_
        refine WA.sipush dX9_bringsUp_201 ⟨by decide, by decide⟩ ?_
        refine WA.iload_n dX9_bringsUp_204 rfl ?_
        obtain ⟨s109, h⟩ := h
        refine WA.iadd dX9_bringsUp_205 s109 ?_
        refine WA.iload_n dX9_bringsUp_206 rfl ?_
        refine WA.if_lt (tgt := 214) dX9_bringsUp_207 (by decide) (fun hc => ?_) (fun hc => ?_)
        · have h := h.1 hc
          refine WA.iload_n dX9_bringsUp_214 rfl ?_
          obtain ⟨s110, h⟩ := h
          obtain ⟨w24, qw24⟩ : ∃ z, z = wset w23 116 (2448 + v2) v2 := ⟨_, rfl⟩
          have h := h w24 qw24
          refine WA.iastore dX9_bringsUp_215 ob_116 s110.1 s110.2 ?_
          rw [← qw24]
          refine WA.iload_n dX9_bringsUp_216 rfl ?_
          refine WA.aload_n dX9_bringsUp_217 rfl (by decide) ?_
          refine gxX9_7 rfl rfl dX9_bringsUp_218 ob_115 ?_
          refine WA.sipush dX9_bringsUp_221 ⟨by decide, by decide⟩ ?_
          refine WA.iload_n dX9_bringsUp_224 rfl ?_
          obtain ⟨s111, h⟩ := h
          refine WA.iadd dX9_bringsUp_225 s111 ?_
          obtain ⟨s112, h⟩ := h
          refine WA.iaload dX9_bringsUp_226 ob_116 s112.1 s112.2 ?_
          obtain ⟨s113, h⟩ := h
          refine WA.iadd dX9_bringsUp_227 s113 ?_
          refine WA.istore_n (als' := [some (.inr (.inr 115)), some (.inl (v1 + (w24 116 (2304 + v2)))), some (.inl v2), some (.inl v2), some (.inl 1)]) dX9_bringsUp_228 (Nat.le_of_ble_eq_true rfl) rfl ?_
          obtain ⟨s114, h⟩ := h
          refine WA.iinc (als' := [some (.inr (.inr 115)), some (.inl (v1 + (w24 116 (2304 + v2)))), some (.inl (v2 + 1)), some (.inl v2), some (.inl 1)]) dX9_bringsUp_229 rfl s114 rfl ?_
          refine WA.goto (tgt := 91) dX9_bringsUp_232 (by decide) ?_
          exact WA.sub (als' := [some (.inr (.inr 115)), some (.inl (v1 + (w24 116 (2304 + v2)))), some (.inl (v2 + 1)), none, none]) (by simp only [am_sub, and_self]) rfl h
        · have h := h.2 hc
          refine WA.iload_n dX9_bringsUp_210 rfl ?_
          refine WA.goto (tgt := 215) dX9_bringsUp_211 (by decide) ?_
          obtain ⟨s115, h⟩ := h
          obtain ⟨w25, qw25⟩ : ∃ z, z = wset w23 116 (2448 + v2) v2 := ⟨_, rfl⟩
          have h := h w25 qw25
          refine WA.iastore dX9_bringsUp_215 ob_116 s115.1 s115.2 ?_
          rw [← qw25]
          refine WA.iload_n dX9_bringsUp_216 rfl ?_
          refine WA.aload_n dX9_bringsUp_217 rfl (by decide) ?_
          refine gxX9_7 rfl rfl dX9_bringsUp_218 ob_115 ?_
          refine WA.sipush dX9_bringsUp_221 ⟨by decide, by decide⟩ ?_
          refine WA.iload_n dX9_bringsUp_224 rfl ?_
          obtain ⟨s116, h⟩ := h
          refine WA.iadd dX9_bringsUp_225 s116 ?_
          obtain ⟨s117, h⟩ := h
          refine WA.iaload dX9_bringsUp_226 ob_116 s117.1 s117.2 ?_
          obtain ⟨s118, h⟩ := h
          refine WA.iadd dX9_bringsUp_227 s118 ?_
          refine WA.istore_n (als' := [some (.inr (.inr 115)), some (.inl (v1 + (w25 116 (2304 + v2)))), some (.inl v2), some (.inl v2), some (.inl 1)]) dX9_bringsUp_228 (Nat.le_of_ble_eq_true rfl) rfl ?_
          obtain ⟨s119, h⟩ := h
          refine WA.iinc (als' := [some (.inr (.inr 115)), some (.inl (v1 + (w25 116 (2304 + v2)))), some (.inl (v2 + 1)), some (.inl v2), some (.inl 1)]) dX9_bringsUp_229 rfl s119 rfl ?_
          refine WA.goto (tgt := 91) dX9_bringsUp_232 (by decide) ?_
          exact WA.sub (als' := [some (.inr (.inr 115)), some (.inl (v1 + (w25 116 (2304 + v2)))), some (.inl (v2 + 1)), none, none]) (by simp only [am_sub, and_self]) rfl h
      · have h := h.2 hc
        refine WA.aload_n dX9_bringsUp_125 rfl (by decide) ?_
        refine gxX9_25 rfl rfl dX9_bringsUp_126 ob_115 ?_
        refine WA.iload_n dX9_bringsUp_129 rfl ?_
        obtain ⟨s120, h⟩ := h
        refine WA.zaload dX9_bringsUp_130 ob_121 s120.1 s120.2 ?_
        refine WA.if_ne (tgt := 147) dX9_bringsUp_131 (by decide) (fun hc => ?_) (fun hc => ?_)
        · have h := h.1 hc
          refine WA.iconst dX9_bringsUp_147 ⟨by decide, by decide⟩ ?_
          refine WA.goto (tgt := 152) dX9_bringsUp_148 (by decide) ?_
          refine WA.istore (als' := [some (.inr (.inr 115)), some (.inl v1), some (.inl v2), some (.inl v2), some (.inl 1)]) dX9_bringsUp_152 (Nat.le_of_ble_eq_true rfl) rfl ?_
          refine WA.aload_n dX9_bringsUp_154 rfl (by decide) ?_
          refine gxX9_7 rfl rfl dX9_bringsUp_155 ob_115 ?_
          refine WA.sipush dX9_bringsUp_158 ⟨by decide, by decide⟩ ?_
          refine WA.iload_n dX9_bringsUp_161 rfl ?_
          obtain ⟨s121, h⟩ := h
          refine WA.iadd dX9_bringsUp_162 s121 ?_
          refine WA.iload dX9_bringsUp_163 rfl ?_
          refine WA.if_eq (tgt := 172) dX9_bringsUp_165 (by decide) (fun hc => absurd hc (by decide)) (fun _ => ?_)
          refine WA.iconst dX9_bringsUp_168 ⟨by decide, by decide⟩ ?_
          refine WA.goto (tgt := 173) dX9_bringsUp_169 (by decide) ?_
          obtain ⟨s122, h⟩ := h
          obtain ⟨w26, qw26⟩ : ∃ z, z = wset w 116 (2304 + v2) 1 := ⟨_, rfl⟩
          have h := h w26 qw26
          refine WA.iastore dX9_bringsUp_173 ob_116 s122.1 s122.2 ?_
          rw [← qw26]
          refine WA.aload_n dX9_bringsUp_174 rfl (by decide) ?_
          refine gxX9_7 rfl rfl dX9_bringsUp_175 ob_115 ?_
          refine WA.sipush dX9_bringsUp_178 ⟨by decide, by decide⟩ ?_
          refine WA.iload_n dX9_bringsUp_181 rfl ?_
          obtain ⟨s123, h⟩ := h
          refine WA.iadd dX9_bringsUp_182 s123 ?_
          refine WA.dup2 dX9_bringsUp_183 rfl rfl ?_
          obtain ⟨s124, h⟩ := h
          refine WA.iaload dX9_bringsUp_184 ob_116 s124.1 s124.2 ?_
          refine WA.aload_n dX9_bringsUp_185 rfl (by decide) ?_
          refine gxX9_7 rfl rfl dX9_bringsUp_186 ob_115 ?_
          refine WA.sipush dX9_bringsUp_189 ⟨by decide, by decide⟩ ?_
          refine WA.iload_n dX9_bringsUp_192 rfl ?_
          obtain ⟨s125, h⟩ := h
          refine WA.iadd dX9_bringsUp_193 s125 ?_
          obtain ⟨s126, h⟩ := h
          refine WA.iaload dX9_bringsUp_194 ob_116 s126.1 s126.2 ?_
          obtain ⟨s127, h⟩ := h
          refine WA.iadd dX9_bringsUp_195 s127 ?_
          obtain ⟨s128, h⟩ := h
          obtain ⟨w27, qw27⟩ : ∃ z, z = wset w26 116 (2232 + v2) ((w26 116 (2232 + v2)) + (w26 116 (2304 + v2))) := ⟨_, rfl⟩
          have h := h w27 qw27
          refine WA.iastore dX9_bringsUp_196 ob_116 s128.1 s128.2 ?_
          rw [← qw27]
          refine WA.aload_n dX9_bringsUp_197 rfl (by decide) ?_
          refine gxX9_7 rfl rfl dX9_bringsUp_198 ob_115 ?_
          refine WA.sipush dX9_bringsUp_201 ⟨by decide, by decide⟩ ?_
          refine WA.iload_n dX9_bringsUp_204 rfl ?_
          obtain ⟨s129, h⟩ := h
          refine WA.iadd dX9_bringsUp_205 s129 ?_
          refine WA.iload_n dX9_bringsUp_206 rfl ?_
          refine WA.if_lt (tgt := 214) dX9_bringsUp_207 (by decide) (fun hc => ?_) (fun hc => ?_)
          · have h := h.1 hc
            refine WA.iload_n dX9_bringsUp_214 rfl ?_
            obtain ⟨s130, h⟩ := h
            obtain ⟨w28, qw28⟩ : ∃ z, z = wset w27 116 (2448 + v2) v2 := ⟨_, rfl⟩
            have h := h w28 qw28
            refine WA.iastore dX9_bringsUp_215 ob_116 s130.1 s130.2 ?_
            rw [← qw28]
            refine WA.iload_n dX9_bringsUp_216 rfl ?_
            refine WA.aload_n dX9_bringsUp_217 rfl (by decide) ?_
            refine gxX9_7 rfl rfl dX9_bringsUp_218 ob_115 ?_
            refine WA.sipush dX9_bringsUp_221 ⟨by decide, by decide⟩ ?_
            refine WA.iload_n dX9_bringsUp_224 rfl ?_
            obtain ⟨s131, h⟩ := h
            refine WA.iadd dX9_bringsUp_225 s131 ?_
            obtain ⟨s132, h⟩ := h
            refine WA.iaload dX9_bringsUp_226 ob_116 s132.1 s132.2 ?_
            obtain ⟨s133, h⟩ := h
            refine WA.iadd dX9_bringsUp_227 s133 ?_
            refine WA.istore_n (als' := [some (.inr (.inr 115)), some (.inl (v1 + (w28 116 (2304 + v2)))), some (.inl v2), some (.inl v2), some (.inl 1)]) dX9_bringsUp_228 (Nat.le_of_ble_eq_true rfl) rfl ?_
            obtain ⟨s134, h⟩ := h
            refine WA.iinc (als' := [some (.inr (.inr 115)), some (.inl (v1 + (w28 116 (2304 + v2)))), some (.inl (v2 + 1)), some (.inl v2), some (.inl 1)]) dX9_bringsUp_229 rfl s134 rfl ?_
            refine WA.goto (tgt := 91) dX9_bringsUp_232 (by decide) ?_
            exact WA.sub (als' := [some (.inr (.inr 115)), some (.inl (v1 + (w28 116 (2304 + v2)))), some (.inl (v2 + 1)), none, none]) (by simp only [am_sub, and_self]) rfl h
          · have h := h.2 hc
            refine WA.iload_n dX9_bringsUp_210 rfl ?_
            refine WA.goto (tgt := 215) dX9_bringsUp_211 (by decide) ?_
            obtain ⟨s135, h⟩ := h
            obtain ⟨w29, qw29⟩ : ∃ z, z = wset w27 116 (2448 + v2) v2 := ⟨_, rfl⟩
            have h := h w29 qw29
            refine WA.iastore dX9_bringsUp_215 ob_116 s135.1 s135.2 ?_
            rw [← qw29]
            refine WA.iload_n dX9_bringsUp_216 rfl ?_
            refine WA.aload_n dX9_bringsUp_217 rfl (by decide) ?_
            refine gxX9_7 rfl rfl dX9_bringsUp_218 ob_115 ?_
            refine WA.sipush dX9_bringsUp_221 ⟨by decide, by decide⟩ ?_
            refine WA.iload_n dX9_bringsUp_224 rfl ?_
            obtain ⟨s136, h⟩ := h
            refine WA.iadd dX9_bringsUp_225 s136 ?_
            obtain ⟨s137, h⟩ := h
            refine WA.iaload dX9_bringsUp_226 ob_116 s137.1 s137.2 ?_
            obtain ⟨s138, h⟩ := h
            refine WA.iadd dX9_bringsUp_227 s138 ?_
            refine WA.istore_n (als' := [some (.inr (.inr 115)), some (.inl (v1 + (w29 116 (2304 + v2)))), some (.inl v2), some (.inl v2), some (.inl 1)]) dX9_bringsUp_228 (Nat.le_of_ble_eq_true rfl) rfl ?_
            obtain ⟨s139, h⟩ := h
            refine WA.iinc (als' := [some (.inr (.inr 115)), some (.inl (v1 + (w29 116 (2304 + v2)))), some (.inl (v2 + 1)), some (.inl v2), some (.inl 1)]) dX9_bringsUp_229 rfl s139 rfl ?_
            refine WA.goto (tgt := 91) dX9_bringsUp_232 (by decide) ?_
            exact WA.sub (als' := [some (.inr (.inr 115)), some (.inl (v1 + (w29 116 (2304 + v2)))), some (.inl (v2 + 1)), none, none]) (by simp only [am_sub, and_self]) rfl h
        · have h := h.2 hc
          refine WA.aload_n dX9_bringsUp_134 rfl (by decide) ?_
          refine gxX9_44 rfl rfl dX9_bringsUp_135 ob_115 ?_
          refine WA.iload_n dX9_bringsUp_138 rfl ?_
          obtain ⟨s140, h⟩ := h
          refine WA.zaload dX9_bringsUp_139 ob_127 s140.1 s140.2 ?_
          refine WA.if_ne (tgt := 147) dX9_bringsUp_140 (by decide) (fun hc => ?_) (fun hc => ?_)
          · have h := h.1 hc
            refine WA.iconst dX9_bringsUp_147 ⟨by decide, by decide⟩ ?_
            refine WA.goto (tgt := 152) dX9_bringsUp_148 (by decide) ?_
            refine WA.istore (als' := [some (.inr (.inr 115)), some (.inl v1), some (.inl v2), some (.inl v2), some (.inl 1)]) dX9_bringsUp_152 (Nat.le_of_ble_eq_true rfl) rfl ?_
            refine WA.aload_n dX9_bringsUp_154 rfl (by decide) ?_
            refine gxX9_7 rfl rfl dX9_bringsUp_155 ob_115 ?_
            refine WA.sipush dX9_bringsUp_158 ⟨by decide, by decide⟩ ?_
            refine WA.iload_n dX9_bringsUp_161 rfl ?_
            obtain ⟨s141, h⟩ := h
            refine WA.iadd dX9_bringsUp_162 s141 ?_
            refine WA.iload dX9_bringsUp_163 rfl ?_
            refine WA.if_eq (tgt := 172) dX9_bringsUp_165 (by decide) (fun hc => absurd hc (by decide)) (fun _ => ?_)
            refine WA.iconst dX9_bringsUp_168 ⟨by decide, by decide⟩ ?_
            refine WA.goto (tgt := 173) dX9_bringsUp_169 (by decide) ?_
            obtain ⟨s142, h⟩ := h
            obtain ⟨w30, qw30⟩ : ∃ z, z = wset w 116 (2304 + v2) 1 := ⟨_, rfl⟩
            have h := h w30 qw30
            refine WA.iastore dX9_bringsUp_173 ob_116 s142.1 s142.2 ?_
            rw [← qw30]
            refine WA.aload_n dX9_bringsUp_174 rfl (by decide) ?_
            refine gxX9_7 rfl rfl dX9_bringsUp_175 ob_115 ?_
            refine WA.sipush dX9_bringsUp_178 ⟨by decide, by decide⟩ ?_
            refine WA.iload_n dX9_bringsUp_181 rfl ?_
            obtain ⟨s143, h⟩ := h
            refine WA.iadd dX9_bringsUp_182 s143 ?_
            refine WA.dup2 dX9_bringsUp_183 rfl rfl ?_
            obtain ⟨s144, h⟩ := h
            refine WA.iaload dX9_bringsUp_184 ob_116 s144.1 s144.2 ?_
            refine WA.aload_n dX9_bringsUp_185 rfl (by decide) ?_
            refine gxX9_7 rfl rfl dX9_bringsUp_186 ob_115 ?_
            refine WA.sipush dX9_bringsUp_189 ⟨by decide, by decide⟩ ?_
            refine WA.iload_n dX9_bringsUp_192 rfl ?_
            obtain ⟨s145, h⟩ := h
            refine WA.iadd dX9_bringsUp_193 s145 ?_
            obtain ⟨s146, h⟩ := h
            refine WA.iaload dX9_bringsUp_194 ob_116 s146.1 s146.2 ?_
            obtain ⟨s147, h⟩ := h
            refine WA.iadd dX9_bringsUp_195 s147 ?_
            obtain ⟨s148, h⟩ := h
            obtain ⟨w31, qw31⟩ : ∃ z, z = wset w30 116 (2232 + v2) ((w30 116 (2232 + v2)) + (w30 116 (2304 + v2))) := ⟨_, rfl⟩
            have h := h w31 qw31
            refine WA.iastore dX9_bringsUp_196 ob_116 s148.1 s148.2 ?_
            rw [← qw31]
            refine WA.aload_n dX9_bringsUp_197 rfl (by decide) ?_
            refine gxX9_7 rfl rfl dX9_bringsUp_198 ob_115 ?_
            refine WA.sipush dX9_bringsUp_201 ⟨by decide, by decide⟩ ?_
            refine WA.iload_n dX9_bringsUp_204 rfl ?_
            obtain ⟨s149, h⟩ := h
            refine WA.iadd dX9_bringsUp_205 s149 ?_
            refine WA.iload_n dX9_bringsUp_206 rfl ?_
            refine WA.if_lt (tgt := 214) dX9_bringsUp_207 (by decide) (fun hc => ?_) (fun hc => ?_)
            · have h := h.1 hc
              refine WA.iload_n dX9_bringsUp_214 rfl ?_
              obtain ⟨s150, h⟩ := h
              obtain ⟨w32, qw32⟩ : ∃ z, z = wset w31 116 (2448 + v2) v2 := ⟨_, rfl⟩
              have h := h w32 qw32
              refine WA.iastore dX9_bringsUp_215 ob_116 s150.1 s150.2 ?_
              rw [← qw32]
              refine WA.iload_n dX9_bringsUp_216 rfl ?_
              refine WA.aload_n dX9_bringsUp_217 rfl (by decide) ?_
              refine gxX9_7 rfl rfl dX9_bringsUp_218 ob_115 ?_
              refine WA.sipush dX9_bringsUp_221 ⟨by decide, by decide⟩ ?_
              refine WA.iload_n dX9_bringsUp_224 rfl ?_
              obtain ⟨s151, h⟩ := h
              refine WA.iadd dX9_bringsUp_225 s151 ?_
              obtain ⟨s152, h⟩ := h
              refine WA.iaload dX9_bringsUp_226 ob_116 s152.1 s152.2 ?_
              obtain ⟨s153, h⟩ := h
              refine WA.iadd dX9_bringsUp_227 s153 ?_
              refine WA.istore_n (als' := [some (.inr (.inr 115)), some (.inl (v1 + (w32 116 (2304 + v2)))), some (.inl v2), some (.inl v2), some (.inl 1)]) dX9_bringsUp_228 (Nat.le_of_ble_eq_true rfl) rfl ?_
              obtain ⟨s154, h⟩ := h
              refine WA.iinc (als' := [some (.inr (.inr 115)), some (.inl (v1 + (w32 116 (2304 + v2)))), some (.inl (v2 + 1)), some (.inl v2), some (.inl 1)]) dX9_bringsUp_229 rfl s154 rfl ?_
              refine WA.goto (tgt := 91) dX9_bringsUp_232 (by decide) ?_
              exact WA.sub (als' := [some (.inr (.inr 115)), some (.inl (v1 + (w32 116 (2304 + v2)))), some (.inl (v2 + 1)), none, none]) (by simp only [am_sub, and_self]) rfl h
            · have h := h.2 hc
              refine WA.iload_n dX9_bringsUp_210 rfl ?_
              refine WA.goto (tgt := 215) dX9_bringsUp_211 (by decide) ?_
              obtain ⟨s155, h⟩ := h
              obtain ⟨w33, qw33⟩ : ∃ z, z = wset w31 116 (2448 + v2) v2 := ⟨_, rfl⟩
              have h := h w33 qw33
              refine WA.iastore dX9_bringsUp_215 ob_116 s155.1 s155.2 ?_
              rw [← qw33]
              refine WA.iload_n dX9_bringsUp_216 rfl ?_
              refine WA.aload_n dX9_bringsUp_217 rfl (by decide) ?_
              refine gxX9_7 rfl rfl dX9_bringsUp_218 ob_115 ?_
              refine WA.sipush dX9_bringsUp_221 ⟨by decide, by decide⟩ ?_
              refine WA.iload_n dX9_bringsUp_224 rfl ?_
              obtain ⟨s156, h⟩ := h
              refine WA.iadd dX9_bringsUp_225 s156 ?_
              obtain ⟨s157, h⟩ := h
              refine WA.iaload dX9_bringsUp_226 ob_116 s157.1 s157.2 ?_
              obtain ⟨s158, h⟩ := h
              refine WA.iadd dX9_bringsUp_227 s158 ?_
              refine WA.istore_n (als' := [some (.inr (.inr 115)), some (.inl (v1 + (w33 116 (2304 + v2)))), some (.inl v2), some (.inl v2), some (.inl 1)]) dX9_bringsUp_228 (Nat.le_of_ble_eq_true rfl) rfl ?_
              obtain ⟨s159, h⟩ := h
              refine WA.iinc (als' := [some (.inr (.inr 115)), some (.inl (v1 + (w33 116 (2304 + v2)))), some (.inl (v2 + 1)), some (.inl v2), some (.inl 1)]) dX9_bringsUp_229 rfl s159 rfl ?_
              refine WA.goto (tgt := 91) dX9_bringsUp_232 (by decide) ?_
              exact WA.sub (als' := [some (.inr (.inr 115)), some (.inl (v1 + (w33 116 (2304 + v2)))), some (.inl (v2 + 1)), none, none]) (by simp only [am_sub, and_self]) rfl h
          · have h := h.2 hc
            refine WA.iload_n dX9_bringsUp_143 rfl ?_
            refine WA.if_lt (tgt := 151) dX9_bringsUp_144 (by decide) (fun hc => ?_) (fun hc => ?_)
            · have h := h.1 hc
              refine WA.iconst dX9_bringsUp_151 ⟨by decide, by decide⟩ ?_
              refine WA.istore (als' := [some (.inr (.inr 115)), some (.inl v1), some (.inl v2), some (.inl v2), some (.inl 0)]) dX9_bringsUp_152 (Nat.le_of_ble_eq_true rfl) rfl ?_
              refine WA.aload_n dX9_bringsUp_154 rfl (by decide) ?_
              refine gxX9_7 rfl rfl dX9_bringsUp_155 ob_115 ?_
              refine WA.sipush dX9_bringsUp_158 ⟨by decide, by decide⟩ ?_
              refine WA.iload_n dX9_bringsUp_161 rfl ?_
              obtain ⟨s160, h⟩ := h
              refine WA.iadd dX9_bringsUp_162 s160 ?_
              refine WA.iload dX9_bringsUp_163 rfl ?_
              refine WA.if_eq (tgt := 172) dX9_bringsUp_165 (by decide) (fun _ => ?_) (fun hc => absurd hc (by decide))
              refine WA.iconst dX9_bringsUp_172 ⟨by decide, by decide⟩ ?_
              obtain ⟨s161, h⟩ := h
              obtain ⟨w34, qw34⟩ : ∃ z, z = wset w 116 (2304 + v2) 0 := ⟨_, rfl⟩
              have h := h w34 qw34
              refine WA.iastore dX9_bringsUp_173 ob_116 s161.1 s161.2 ?_
              rw [← qw34]
              refine WA.aload_n dX9_bringsUp_174 rfl (by decide) ?_
              refine gxX9_7 rfl rfl dX9_bringsUp_175 ob_115 ?_
              refine WA.sipush dX9_bringsUp_178 ⟨by decide, by decide⟩ ?_
              refine WA.iload_n dX9_bringsUp_181 rfl ?_
              obtain ⟨s162, h⟩ := h
              refine WA.iadd dX9_bringsUp_182 s162 ?_
              refine WA.dup2 dX9_bringsUp_183 rfl rfl ?_
              obtain ⟨s163, h⟩ := h
              refine WA.iaload dX9_bringsUp_184 ob_116 s163.1 s163.2 ?_
              refine WA.aload_n dX9_bringsUp_185 rfl (by decide) ?_
              refine gxX9_7 rfl rfl dX9_bringsUp_186 ob_115 ?_
              refine WA.sipush dX9_bringsUp_189 ⟨by decide, by decide⟩ ?_
              refine WA.iload_n dX9_bringsUp_192 rfl ?_
              obtain ⟨s164, h⟩ := h
              refine WA.iadd dX9_bringsUp_193 s164 ?_
              obtain ⟨s165, h⟩ := h
              refine WA.iaload dX9_bringsUp_194 ob_116 s165.1 s165.2 ?_
              obtain ⟨s166, h⟩ := h
              refine WA.iadd dX9_bringsUp_195 s166 ?_
              obtain ⟨s167, h⟩ := h
              obtain ⟨w35, qw35⟩ : ∃ z, z = wset w34 116 (2232 + v2) ((w34 116 (2232 + v2)) + (w34 116 (2304 + v2))) := ⟨_, rfl⟩
              have h := h w35 qw35
              refine WA.iastore dX9_bringsUp_196 ob_116 s167.1 s167.2 ?_
              rw [← qw35]
              refine WA.aload_n dX9_bringsUp_197 rfl (by decide) ?_
              refine gxX9_7 rfl rfl dX9_bringsUp_198 ob_115 ?_
              refine WA.sipush dX9_bringsUp_201 ⟨by decide, by decide⟩ ?_
              refine WA.iload_n dX9_bringsUp_204 rfl ?_
              obtain ⟨s168, h⟩ := h
              refine WA.iadd dX9_bringsUp_205 s168 ?_
              refine WA.iload_n dX9_bringsUp_206 rfl ?_
              refine WA.if_lt (tgt := 214) dX9_bringsUp_207 (by decide) (fun hc => ?_) (fun hc => ?_)
              · have h := h.1 hc
                refine WA.iload_n dX9_bringsUp_214 rfl ?_
                obtain ⟨s169, h⟩ := h
                obtain ⟨w36, qw36⟩ : ∃ z, z = wset w35 116 (2448 + v2) v2 := ⟨_, rfl⟩
                have h := h w36 qw36
                refine WA.iastore dX9_bringsUp_215 ob_116 s169.1 s169.2 ?_
                rw [← qw36]
                refine WA.iload_n dX9_bringsUp_216 rfl ?_
                refine WA.aload_n dX9_bringsUp_217 rfl (by decide) ?_
                refine gxX9_7 rfl rfl dX9_bringsUp_218 ob_115 ?_
                refine WA.sipush dX9_bringsUp_221 ⟨by decide, by decide⟩ ?_
                refine WA.iload_n dX9_bringsUp_224 rfl ?_
                obtain ⟨s170, h⟩ := h
                refine WA.iadd dX9_bringsUp_225 s170 ?_
                obtain ⟨s171, h⟩ := h
                refine WA.iaload dX9_bringsUp_226 ob_116 s171.1 s171.2 ?_
                obtain ⟨s172, h⟩ := h
                refine WA.iadd dX9_bringsUp_227 s172 ?_
                refine WA.istore_n (als' := [some (.inr (.inr 115)), some (.inl (v1 + (w36 116 (2304 + v2)))), some (.inl v2), some (.inl v2), some (.inl 0)]) dX9_bringsUp_228 (Nat.le_of_ble_eq_true rfl) rfl ?_
                obtain ⟨s173, h⟩ := h
                refine WA.iinc (als' := [some (.inr (.inr 115)), some (.inl (v1 + (w36 116 (2304 + v2)))), some (.inl (v2 + 1)), some (.inl v2), some (.inl 0)]) dX9_bringsUp_229 rfl s173 rfl ?_
                refine WA.goto (tgt := 91) dX9_bringsUp_232 (by decide) ?_
                exact WA.sub (als' := [some (.inr (.inr 115)), some (.inl (v1 + (w36 116 (2304 + v2)))), some (.inl (v2 + 1)), none, none]) (by simp only [am_sub, and_self]) rfl h
              · have h := h.2 hc
                refine WA.iload_n dX9_bringsUp_210 rfl ?_
                refine WA.goto (tgt := 215) dX9_bringsUp_211 (by decide) ?_
                obtain ⟨s174, h⟩ := h
                obtain ⟨w37, qw37⟩ : ∃ z, z = wset w35 116 (2448 + v2) v2 := ⟨_, rfl⟩
                have h := h w37 qw37
                refine WA.iastore dX9_bringsUp_215 ob_116 s174.1 s174.2 ?_
                rw [← qw37]
                refine WA.iload_n dX9_bringsUp_216 rfl ?_
                refine WA.aload_n dX9_bringsUp_217 rfl (by decide) ?_
                refine gxX9_7 rfl rfl dX9_bringsUp_218 ob_115 ?_
                refine WA.sipush dX9_bringsUp_221 ⟨by decide, by decide⟩ ?_
                refine WA.iload_n dX9_bringsUp_224 rfl ?_
                obtain ⟨s175, h⟩ := h
                refine WA.iadd dX9_bringsUp_225 s175 ?_
                obtain ⟨s176, h⟩ := h
                refine WA.iaload dX9_bringsUp_226 ob_116 s176.1 s176.2 ?_
                obtain ⟨s177, h⟩ := h
                refine WA.iadd dX9_bringsUp_227 s177 ?_
                refine WA.istore_n (als' := [some (.inr (.inr 115)), some (.inl (v1 + (w37 116 (2304 + v2)))), some (.inl v2), some (.inl v2), some (.inl 0)]) dX9_bringsUp_228 (Nat.le_of_ble_eq_true rfl) rfl ?_
                obtain ⟨s178, h⟩ := h
                refine WA.iinc (als' := [some (.inr (.inr 115)), some (.inl (v1 + (w37 116 (2304 + v2)))), some (.inl (v2 + 1)), some (.inl v2), some (.inl 0)]) dX9_bringsUp_229 rfl s178 rfl ?_
                refine WA.goto (tgt := 91) dX9_bringsUp_232 (by decide) ?_
                exact WA.sub (als' := [some (.inr (.inr 115)), some (.inl (v1 + (w37 116 (2304 + v2)))), some (.inl (v2 + 1)), none, none]) (by simp only [am_sub, and_self]) rfl h
            · have h := h.2 hc
              refine WA.iconst dX9_bringsUp_147 ⟨by decide, by decide⟩ ?_
              refine WA.goto (tgt := 152) dX9_bringsUp_148 (by decide) ?_
              refine WA.istore (als' := [some (.inr (.inr 115)), some (.inl v1), some (.inl v2), some (.inl v2), some (.inl 1)]) dX9_bringsUp_152 (Nat.le_of_ble_eq_true rfl) rfl ?_
              refine WA.aload_n dX9_bringsUp_154 rfl (by decide) ?_
              refine gxX9_7 rfl rfl dX9_bringsUp_155 ob_115 ?_
              refine WA.sipush dX9_bringsUp_158 ⟨by decide, by decide⟩ ?_
              refine WA.iload_n dX9_bringsUp_161 rfl ?_
              obtain ⟨s179, h⟩ := h
              refine WA.iadd dX9_bringsUp_162 s179 ?_
              refine WA.iload dX9_bringsUp_163 rfl ?_
              refine WA.if_eq (tgt := 172) dX9_bringsUp_165 (by decide) (fun hc => absurd hc (by decide)) (fun _ => ?_)
              refine WA.iconst dX9_bringsUp_168 ⟨by decide, by decide⟩ ?_
              refine WA.goto (tgt := 173) dX9_bringsUp_169 (by decide) ?_
              obtain ⟨s180, h⟩ := h
              obtain ⟨w38, qw38⟩ : ∃ z, z = wset w 116 (2304 + v2) 1 := ⟨_, rfl⟩
              have h := h w38 qw38
              refine WA.iastore dX9_bringsUp_173 ob_116 s180.1 s180.2 ?_
              rw [← qw38]
              refine WA.aload_n dX9_bringsUp_174 rfl (by decide) ?_
              refine gxX9_7 rfl rfl dX9_bringsUp_175 ob_115 ?_
              refine WA.sipush dX9_bringsUp_178 ⟨by decide, by decide⟩ ?_
              refine WA.iload_n dX9_bringsUp_181 rfl ?_
              obtain ⟨s181, h⟩ := h
              refine WA.iadd dX9_bringsUp_182 s181 ?_
              refine WA.dup2 dX9_bringsUp_183 rfl rfl ?_
              obtain ⟨s182, h⟩ := h
              refine WA.iaload dX9_bringsUp_184 ob_116 s182.1 s182.2 ?_
              refine WA.aload_n dX9_bringsUp_185 rfl (by decide) ?_
              refine gxX9_7 rfl rfl dX9_bringsUp_186 ob_115 ?_
              refine WA.sipush dX9_bringsUp_189 ⟨by decide, by decide⟩ ?_
              refine WA.iload_n dX9_bringsUp_192 rfl ?_
              obtain ⟨s183, h⟩ := h
              refine WA.iadd dX9_bringsUp_193 s183 ?_
              obtain ⟨s184, h⟩ := h
              refine WA.iaload dX9_bringsUp_194 ob_116 s184.1 s184.2 ?_
              obtain ⟨s185, h⟩ := h
              refine WA.iadd dX9_bringsUp_195 s185 ?_
              obtain ⟨s186, h⟩ := h
              obtain ⟨w39, qw39⟩ : ∃ z, z = wset w38 116 (2232 + v2) ((w38 116 (2232 + v2)) + (w38 116 (2304 + v2))) := ⟨_, rfl⟩
              have h := h w39 qw39
              refine WA.iastore dX9_bringsUp_196 ob_116 s186.1 s186.2 ?_
              rw [← qw39]
              refine WA.aload_n dX9_bringsUp_197 rfl (by decide) ?_
              refine gxX9_7 rfl rfl dX9_bringsUp_198 ob_115 ?_
              refine WA.sipush dX9_bringsUp_201 ⟨by decide, by decide⟩ ?_
              refine WA.iload_n dX9_bringsUp_204 rfl ?_
              obtain ⟨s187, h⟩ := h
              refine WA.iadd dX9_bringsUp_205 s187 ?_
              refine WA.iload_n dX9_bringsUp_206 rfl ?_
              refine WA.if_lt (tgt := 214) dX9_bringsUp_207 (by decide) (fun hc => ?_) (fun hc => ?_)
              · have h := h.1 hc
                refine WA.iload_n dX9_bringsUp_214 rfl ?_
                obtain ⟨s188, h⟩ := h
                obtain ⟨w40, qw40⟩ : ∃ z, z = wset w39 116 (2448 + v2) v2 := ⟨_, rfl⟩
                have h := h w40 qw40
                refine WA.iastore dX9_bringsUp_215 ob_116 s188.1 s188.2 ?_
                rw [← qw40]
                refine WA.iload_n dX9_bringsUp_216 rfl ?_
                refine WA.aload_n dX9_bringsUp_217 rfl (by decide) ?_
                refine gxX9_7 rfl rfl dX9_bringsUp_218 ob_115 ?_
                refine WA.sipush dX9_bringsUp_221 ⟨by decide, by decide⟩ ?_
                refine WA.iload_n dX9_bringsUp_224 rfl ?_
                obtain ⟨s189, h⟩ := h
                refine WA.iadd dX9_bringsUp_225 s189 ?_
                obtain ⟨s190, h⟩ := h
                refine WA.iaload dX9_bringsUp_226 ob_116 s190.1 s190.2 ?_
                obtain ⟨s191, h⟩ := h
                refine WA.iadd dX9_bringsUp_227 s191 ?_
                refine WA.istore_n (als' := [some (.inr (.inr 115)), some (.inl (v1 + (w40 116 (2304 + v2)))), some (.inl v2), some (.inl v2), some (.inl 1)]) dX9_bringsUp_228 (Nat.le_of_ble_eq_true rfl) rfl ?_
                obtain ⟨s192, h⟩ := h
                refine WA.iinc (als' := [some (.inr (.inr 115)), some (.inl (v1 + (w40 116 (2304 + v2)))), some (.inl (v2 + 1)), some (.inl v2), some (.inl 1)]) dX9_bringsUp_229 rfl s192 rfl ?_
                refine WA.goto (tgt := 91) dX9_bringsUp_232 (by decide) ?_
                exact WA.sub (als' := [some (.inr (.inr 115)), some (.inl (v1 + (w40 116 (2304 + v2)))), some (.inl (v2 + 1)), none, none]) (by simp only [am_sub, and_self]) rfl h
              · have h := h.2 hc
                refine WA.iload_n dX9_bringsUp_210 rfl ?_
                refine WA.goto (tgt := 215) dX9_bringsUp_211 (by decide) ?_
                obtain ⟨s193, h⟩ := h
                obtain ⟨w41, qw41⟩ : ∃ z, z = wset w39 116 (2448 + v2) v2 := ⟨_, rfl⟩
                have h := h w41 qw41
                refine WA.iastore dX9_bringsUp_215 ob_116 s193.1 s193.2 ?_
                rw [← qw41]
                refine WA.iload_n dX9_bringsUp_216 rfl ?_
                refine WA.aload_n dX9_bringsUp_217 rfl (by decide) ?_
                refine gxX9_7 rfl rfl dX9_bringsUp_218 ob_115 ?_
                refine WA.sipush dX9_bringsUp_221 ⟨by decide, by decide⟩ ?_
                refine WA.iload_n dX9_bringsUp_224 rfl ?_
                obtain ⟨s194, h⟩ := h
                refine WA.iadd dX9_bringsUp_225 s194 ?_
                obtain ⟨s195, h⟩ := h
                refine WA.iaload dX9_bringsUp_226 ob_116 s195.1 s195.2 ?_
                obtain ⟨s196, h⟩ := h
                refine WA.iadd dX9_bringsUp_227 s196 ?_
                refine WA.istore_n (als' := [some (.inr (.inr 115)), some (.inl (v1 + (w41 116 (2304 + v2)))), some (.inl v2), some (.inl v2), some (.inl 1)]) dX9_bringsUp_228 (Nat.le_of_ble_eq_true rfl) rfl ?_
                obtain ⟨s197, h⟩ := h
                refine WA.iinc (als' := [some (.inr (.inr 115)), some (.inl (v1 + (w41 116 (2304 + v2)))), some (.inl (v2 + 1)), some (.inl v2), some (.inl 1)]) dX9_bringsUp_229 rfl s197 rfl ?_
                refine WA.goto (tgt := 91) dX9_bringsUp_232 (by decide) ?_
                exact WA.sub (als' := [some (.inr (.inr 115)), some (.inl (v1 + (w41 116 (2304 + v2)))), some (.inl (v2 + 1)), none, none]) (by simp only [am_sub, and_self]) rfl h
set_option maxRecDepth 10000 in
theorem e_X9_bringsUp {d : Nat} {w : Wd} {K : Int → Wd → Prop}  
    (h : C_X9_settles d [.inr (.inr 115)] w (fun w1 => W_X9_bringsUp d 6 [some (.inr (.inr 115)), some (.inl 0), none, none, none] [] w1 K)) :
    E_X9_bringsUp d [.inr (.inr 115)] w K := by
  refine EvA.of (by decide +kernel) (Nat.le_of_ble_eq_true rfl) ?_
  change W_X9_bringsUp d 0 [some (.inr (.inr 115)), none, none, none, none] [] w K
  refine WA.aload_n dX9_bringsUp_0 rfl (by decide) ?_
  obtain ⟨d1, hd1, h⟩ := h
  refine WA.callV0 (kc := 0) (ks := 0) (kc' := 0) (ks' := 0) dX9_bringsUp_1 lkX9_369 rfl rfl rfl ob_115 rfl (Nat.le_of_ble_eq_true rfl) hd1 h (fun r w1 hK => ?_)
  obtain ⟨rfl, h⟩ := hK
  change WA _ _ _ _ _ _ _ _ _ _ _ [] _ _
  refine WA.iconst dX9_bringsUp_4 ⟨by decide, by decide⟩ ?_
  refine WA.istore_n (als' := [some (.inr (.inr 115)), some (.inl 0), none, none, none]) dX9_bringsUp_5 (Nat.le_of_ble_eq_true rfl) rfl ?_
  exact h
set_option maxRecDepth 10000 in
theorem v_X9_update_24 {d : Nat} {w : Wd} {K : Int → Wd → Prop} {v1 : Int}  
    (h : (((w 116 2521) ≤ v1 → (∀ w1, w1 = wset w 116 2521 0 → C_X9_bringsUp d [.inr (.inr 115)] w1 (fun x1 w2 => K x1 w2))) ∧ (¬ ((w 116 2521) ≤ v1) → (-2147483648 ≤ (32 * v1) ∧ (32 * v1) ≤ 2147483647) ∧ (-2147483648 ≤ (2522 + (32 * v1)) ∧ (2522 + (32 * v1)) ≤ 2147483647) ∧ (0 ≤ (2522 + (32 * v1)) ∧ (2522 + (32 * v1)) < 2778) ∧ (0 ≤ (w 116 (2522 + (32 * v1))) ∧ (w 116 (2522 + (32 * v1))) < 72) ∧ (∀ w3, w3 = wset w 132 (w 116 (2522 + (32 * v1))) 1 → (-2147483648 ≤ (0 + (w 116 (2522 + (32 * v1)))) ∧ (0 + (w 116 (2522 + (32 * v1)))) ≤ 2147483647) ∧ (-2147483648 ≤ ((2522 + (32 * v1)) + 1) ∧ ((2522 + (32 * v1)) + 1) ≤ 2147483647) ∧ (0 ≤ ((2522 + (32 * v1)) + 1) ∧ ((2522 + (32 * v1)) + 1) < 2778) ∧ (0 ≤ (0 + (w 116 (2522 + (32 * v1)))) ∧ (0 + (w 116 (2522 + (32 * v1)))) < 2778) ∧ (∀ w4, w4 = wset w3 116 (0 + (w 116 (2522 + (32 * v1)))) (w3 116 ((2522 + (32 * v1)) + 1)) → W_X9_update d 78 [some (.inr (.inr 115)), some (.inl v1), some (.inl (2522 + (32 * v1))), some (.inl (w 116 (2522 + (32 * v1)))), some (.inl 0)] [] w4 K))))) :
    W_X9_update d 24 [some (.inr (.inr 115)), some (.inl v1), none, none, none] [] w K := by
  refine WA.iload_n dX9_update_24 rfl ?_
  refine WA.aload_n dX9_update_25 rfl (by decide) ?_
  refine gxX9_7 rfl rfl dX9_update_26 ob_115 ?_
  refine WA.sipush dX9_update_29 ⟨by decide, by decide⟩ ?_
  refine WA.iaload dX9_update_32 ob_116 (by decide) (by decide) ?_
  refine WA.icmp_ge (tgt := 123) dX9_update_33 (by decide) (fun hc => ?_) (fun hc => ?_)
  · have h := h.1 hc
    refine WA.aload_n dX9_update_123 rfl (by decide) ?_
    refine gxX9_7 rfl rfl dX9_update_124 ob_115 ?_
    refine WA.sipush dX9_update_127 ⟨by decide, by decide⟩ ?_
    refine WA.iconst dX9_update_130 ⟨by decide, by decide⟩ ?_
    obtain ⟨w1, qw1⟩ : ∃ z, z = wset w 116 2521 0 := ⟨_, rfl⟩
    have h := h w1 qw1
    refine WA.iastore dX9_update_131 ob_116 (by decide) (by decide) ?_
    rw [← qw1]
    refine WA.aload_n dX9_update_132 rfl (by decide) ?_
    obtain ⟨d1, hd1, h⟩ := h
    refine WA.callV0 (kc := 0) (ks := 0) (kc' := 0) (ks' := 0) dX9_update_133 lkX9_378 rfl rfl rfl ob_115 rfl (Nat.le_of_ble_eq_true rfl) hd1 h (fun r w2 hK => ?_)
    obtain ⟨x1, rfl, h⟩ := hK
    change WA _ _ _ _ _ _ _ _ _ _ _ [.inl x1] _ _
    exact WA.ireturn dX9_update_136 ⟨_, rfl, h⟩
  · have h := h.2 hc
    refine WA.sipush dX9_update_36 ⟨by decide, by decide⟩ ?_
    refine WA.bipush dX9_update_39 ⟨by decide, by decide⟩ ?_
    refine WA.iload_n dX9_update_41 rfl ?_
    obtain ⟨s1, h⟩ := h
    refine WA.imul dX9_update_42 s1 ?_
    obtain ⟨s2, h⟩ := h
    refine WA.iadd dX9_update_43 s2 ?_
    refine WA.istore_n (als' := [some (.inr (.inr 115)), some (.inl v1), some (.inl (2522 + (32 * v1))), none, none]) dX9_update_44 (Nat.le_of_ble_eq_true rfl) rfl ?_
    refine WA.aload_n dX9_update_45 rfl (by decide) ?_
    refine gxX9_7 rfl rfl dX9_update_46 ob_115 ?_
    refine WA.iload_n dX9_update_49 rfl ?_
    obtain ⟨s3, h⟩ := h
    refine WA.iaload dX9_update_50 ob_116 s3.1 s3.2 ?_
    refine WA.istore_n (als' := [some (.inr (.inr 115)), some (.inl v1), some (.inl (2522 + (32 * v1))), some (.inl (w 116 (2522 + (32 * v1)))), none]) dX9_update_51 (Nat.le_of_ble_eq_true rfl) rfl ?_
    refine WA.aload_n dX9_update_52 rfl (by decide) ?_
    refine gxX9_59 rfl rfl dX9_update_53 ob_115 ?_
    refine WA.iload_n dX9_update_56 rfl ?_
    refine WA.iconst dX9_update_57 ⟨by decide, by decide⟩ ?_
    obtain ⟨s4, h⟩ := h
    obtain ⟨w3, qw3⟩ : ∃ z, z = wset w 132 (w 116 (2522 + (32 * v1))) 1 := ⟨_, rfl⟩
    have h := h w3 qw3
    refine WA.zastore dX9_update_58 ob_132 s4.1 s4.2 (by decide) ?_
    rw [← qw3]
    refine WA.aload_n dX9_update_59 rfl (by decide) ?_
    refine gxX9_7 rfl rfl dX9_update_60 ob_115 ?_
    refine WA.iconst dX9_update_63 ⟨by decide, by decide⟩ ?_
    refine WA.iload_n dX9_update_64 rfl ?_
    obtain ⟨s5, h⟩ := h
    refine WA.iadd dX9_update_65 s5 ?_
    refine WA.aload_n dX9_update_66 rfl (by decide) ?_
    refine gxX9_7 rfl rfl dX9_update_67 ob_115 ?_
    refine WA.iload_n dX9_update_70 rfl ?_
    refine WA.iconst dX9_update_71 ⟨by decide, by decide⟩ ?_
    obtain ⟨s6, h⟩ := h
    refine WA.iadd dX9_update_72 s6 ?_
    obtain ⟨s7, h⟩ := h
    refine WA.iaload dX9_update_73 ob_116 s7.1 s7.2 ?_
    obtain ⟨s8, h⟩ := h
    obtain ⟨w4, qw4⟩ : ∃ z, z = wset w3 116 (0 + (w 116 (2522 + (32 * v1)))) (w3 116 ((2522 + (32 * v1)) + 1)) := ⟨_, rfl⟩
    have h := h w4 qw4
    refine WA.iastore dX9_update_74 ob_116 s8.1 s8.2 ?_
    rw [← qw4]
    refine WA.iconst dX9_update_75 ⟨by decide, by decide⟩ ?_
    refine WA.istore (als' := [some (.inr (.inr 115)), some (.inl v1), some (.inl (2522 + (32 * v1))), some (.inl (w 116 (2522 + (32 * v1)))), some (.inl 0)]) dX9_update_76 (Nat.le_of_ble_eq_true rfl) rfl ?_
    exact h
set_option maxRecDepth 10000 in
theorem v_X9_update_78 {d : Nat} {w : Wd} {K : Int → Wd → Prop} {v1 v2 v3 v4 : Int}  
    (h : ((30 ≤ v4 → (-2147483648 ≤ (v1 + 1) ∧ (v1 + 1) ≤ 2147483647) ∧ W_X9_update d 24 [some (.inr (.inr 115)), some (.inl (v1 + 1)), none, none, none] [] w K) ∧ (¬ (30 ≤ v4) → (-2147483648 ≤ (30 * v3) ∧ (30 * v3) ≤ 2147483647) ∧ (-2147483648 ≤ (72 + (30 * v3)) ∧ (72 + (30 * v3)) ≤ 2147483647) ∧ (-2147483648 ≤ ((72 + (30 * v3)) + v4) ∧ ((72 + (30 * v3)) + v4) ≤ 2147483647) ∧ (-2147483648 ≤ (v2 + 2) ∧ (v2 + 2) ≤ 2147483647) ∧ (-2147483648 ≤ ((v2 + 2) + v4) ∧ ((v2 + 2) + v4) ≤ 2147483647) ∧ (0 ≤ ((v2 + 2) + v4) ∧ ((v2 + 2) + v4) < 2778) ∧ (0 ≤ ((72 + (30 * v3)) + v4) ∧ ((72 + (30 * v3)) + v4) < 2778) ∧ (∀ w1, w1 = wset w 116 ((72 + (30 * v3)) + v4) (w 116 ((v2 + 2) + v4)) → (-2147483648 ≤ (v4 + 1) ∧ (v4 + 1) ≤ 2147483647) ∧ W_X9_update d 78 [some (.inr (.inr 115)), some (.inl v1), some (.inl v2), some (.inl v3), some (.inl (v4 + 1))] [] w1 K)))) :
    W_X9_update d 78 [some (.inr (.inr 115)), some (.inl v1), some (.inl v2), some (.inl v3), some (.inl v4)] [] w K := by
  refine WA.iload dX9_update_78 rfl ?_
  refine WA.bipush dX9_update_80 ⟨by decide, by decide⟩ ?_
  refine WA.icmp_ge (tgt := 117) dX9_update_82 (by decide) (fun hc => ?_) (fun hc => ?_)
  · have h := h.1 hc
    obtain ⟨s1, h⟩ := h
    refine WA.iinc (als' := [some (.inr (.inr 115)), some (.inl (v1 + 1)), some (.inl v2), some (.inl v3), some (.inl v4)]) dX9_update_117 rfl s1 rfl ?_
    refine WA.goto (tgt := 24) dX9_update_120 (by decide) ?_
    exact WA.sub (als' := [some (.inr (.inr 115)), some (.inl (v1 + 1)), none, none, none]) (by simp only [am_sub, and_self]) rfl h
  · have h := h.2 hc
    refine WA.aload_n dX9_update_85 rfl (by decide) ?_
    refine gxX9_7 rfl rfl dX9_update_86 ob_115 ?_
    refine WA.bipush dX9_update_89 ⟨by decide, by decide⟩ ?_
    refine WA.bipush dX9_update_91 ⟨by decide, by decide⟩ ?_
    refine WA.iload_n dX9_update_93 rfl ?_
    obtain ⟨s2, h⟩ := h
    refine WA.imul dX9_update_94 s2 ?_
    obtain ⟨s3, h⟩ := h
    refine WA.iadd dX9_update_95 s3 ?_
    refine WA.iload dX9_update_96 rfl ?_
    obtain ⟨s4, h⟩ := h
    refine WA.iadd dX9_update_98 s4 ?_
    refine WA.aload_n dX9_update_99 rfl (by decide) ?_
    refine gxX9_7 rfl rfl dX9_update_100 ob_115 ?_
    refine WA.iload_n dX9_update_103 rfl ?_
    refine WA.iconst dX9_update_104 ⟨by decide, by decide⟩ ?_
    obtain ⟨s5, h⟩ := h
    refine WA.iadd dX9_update_105 s5 ?_
    refine WA.iload dX9_update_106 rfl ?_
    obtain ⟨s6, h⟩ := h
    refine WA.iadd dX9_update_108 s6 ?_
    obtain ⟨s7, h⟩ := h
    refine WA.iaload dX9_update_109 ob_116 s7.1 s7.2 ?_
    obtain ⟨s8, h⟩ := h
    obtain ⟨w1, qw1⟩ : ∃ z, z = wset w 116 ((72 + (30 * v3)) + v4) (w 116 ((v2 + 2) + v4)) := ⟨_, rfl⟩
    have h := h w1 qw1
    refine WA.iastore dX9_update_110 ob_116 s8.1 s8.2 ?_
    rw [← qw1]
    obtain ⟨s9, h⟩ := h
    refine WA.iinc (als' := [some (.inr (.inr 115)), some (.inl v1), some (.inl v2), some (.inl v3), some (.inl (v4 + 1))]) dX9_update_111 rfl s9 rfl ?_
    refine WA.goto (tgt := 78) dX9_update_114 (by decide) ?_
    exact h
set_option maxRecDepth 10000 in
theorem e_X9_update {d : Nat} {w : Wd} {K : Int → Wd → Prop}  
    (h : ((¬ (w 116 2521) = 0 → C_X9_save d [.inr (.inr 115)] w (fun w1 => C_X9_remembers d [.inr (.inr 115)] w1 (fun w2 => W_X9_update d 24 [some (.inr (.inr 115)), some (.inl 0), none, none, none] [] w2 K))) ∧ ((w 116 2521) = 0 → K (-2000000002) w))) :
    E_X9_update d [.inr (.inr 115)] w K := by
  refine EvA.of (by decide +kernel) (Nat.le_of_ble_eq_true rfl) ?_
  change W_X9_update d 0 [some (.inr (.inr 115)), none, none, none, none] [] w K
  refine WA.aload_n dX9_update_0 rfl (by decide) ?_
  refine gxX9_7 rfl rfl dX9_update_1 ob_115 ?_
  refine WA.sipush dX9_update_4 ⟨by decide, by decide⟩ ?_
  refine WA.iaload dX9_update_7 ob_116 (by decide) (by decide) ?_
  refine WA.if_ne (tgt := 14) dX9_update_8 (by decide) (fun hc => ?_) (fun hc => ?_)
  · have h := h.1 hc
    refine WA.aload_n dX9_update_14 rfl (by decide) ?_
    obtain ⟨d1, hd1, h⟩ := h
    refine WA.callV0 (kc := 0) (ks := 0) (kc' := 0) (ks' := 0) dX9_update_15 lkX9_217 rfl rfl rfl ob_115 rfl (Nat.le_of_ble_eq_true rfl) hd1 h (fun r w1 hK => ?_)
    obtain ⟨rfl, h⟩ := hK
    change WA _ _ _ _ _ _ _ _ _ _ _ [] _ _
    refine WA.aload_n dX9_update_18 rfl (by decide) ?_
    obtain ⟨d1, hd1, h⟩ := h
    refine WA.callV0 (kc := 0) (ks := 0) (kc' := 0) (ks' := 0) dX9_update_19 lkX9_375 rfl rfl rfl ob_115 rfl (Nat.le_of_ble_eq_true rfl) hd1 h (fun r w2 hK => ?_)
    obtain ⟨rfl, h⟩ := hK
    change WA _ _ _ _ _ _ _ _ _ _ _ [] _ _
    refine WA.iconst dX9_update_22 ⟨by decide, by decide⟩ ?_
    refine WA.istore_n (als' := [some (.inr (.inr 115)), some (.inl 0), none, none, none]) dX9_update_23 (Nat.le_of_ble_eq_true rfl) rfl ?_
    exact h
  · have h := h.2 hc
    refine WA.ldc (v := (-2000000002)) (x := (-2000000002)) dX9_update_11 (am_mem 987 (by decide +kernel) rfl) (by decide) ?_
    exact WA.ireturn dX9_update_13 ⟨_, rfl, h⟩
set_option maxRecDepth 10000 in
theorem e_X9_rounds {d : Nat} {w : Wd} {K : Int → Wd → Prop} {a1 : Int}  
    (h : C_X9_in d [.inl a1, .inl 0, .inl 40] w (fun x1 w1 => ((¬ x1 = 0 → C_X9_save d [.inr (.inr 115)] w1 (fun w2 => C_X9_remembers d [.inr (.inr 115)] w2 (fun w3 => (∀ w4, w4 = wset w3 116 2520 a1 → C_X9_bringsUp d [.inr (.inr 115)] w4 (fun x2 w5 => K (w3 116 2520) w5))))) ∧ (x1 = 0 → K (-2000000001) w1)))) :
    E_X9_rounds d [.inr (.inr 115), .inl a1] w K := by
  refine EvA.of (by decide +kernel) (Nat.le_of_ble_eq_true rfl) ?_
  change W_X9_rounds d 0 [some (.inr (.inr 115)), some (.inl a1), none, none] [] w K
  refine WA.iload_n dX9_rounds_0 rfl ?_
  refine WA.iconst dX9_rounds_1 ⟨by decide, by decide⟩ ?_
  refine WA.bipush dX9_rounds_2 ⟨by decide, by decide⟩ ?_
  obtain ⟨d1, hd1, h⟩ := h
  refine WA.callS3 (kc := 0) (ks := 0) (kc' := 0) (ks' := 0) dX9_rounds_4 lkX9_104 rfl rfl rfl (Nat.le_of_ble_eq_true rfl) hd1 h (fun r w1 hK => ?_)
  obtain ⟨x1, rfl, h⟩ := hK
  change WA _ _ _ _ _ _ _ _ _ _ _ [.inl x1] _ _
  refine WA.if_ne (tgt := 13) dX9_rounds_7 (by decide) (fun hc => ?_) (fun hc => ?_)
  · have h := h.1 hc
    refine WA.aload_n dX9_rounds_13 rfl (by decide) ?_
    obtain ⟨d1, hd1, h⟩ := h
    refine WA.callV0 (kc := 0) (ks := 0) (kc' := 0) (ks' := 0) dX9_rounds_14 lkX9_217 rfl rfl rfl ob_115 rfl (Nat.le_of_ble_eq_true rfl) hd1 h (fun r w2 hK => ?_)
    obtain ⟨rfl, h⟩ := hK
    change WA _ _ _ _ _ _ _ _ _ _ _ [] _ _
    refine WA.aload_n dX9_rounds_17 rfl (by decide) ?_
    obtain ⟨d1, hd1, h⟩ := h
    refine WA.callV0 (kc := 0) (ks := 0) (kc' := 0) (ks' := 0) dX9_rounds_18 lkX9_375 rfl rfl rfl ob_115 rfl (Nat.le_of_ble_eq_true rfl) hd1 h (fun r w3 hK => ?_)
    obtain ⟨rfl, h⟩ := hK
    change WA _ _ _ _ _ _ _ _ _ _ _ [] _ _
    refine WA.aload_n dX9_rounds_21 rfl (by decide) ?_
    refine gxX9_7 rfl rfl dX9_rounds_22 ob_115 ?_
    refine WA.sipush dX9_rounds_25 ⟨by decide, by decide⟩ ?_
    refine WA.iaload dX9_rounds_28 ob_116 (by decide) (by decide) ?_
    refine WA.istore_n (als' := [some (.inr (.inr 115)), some (.inl a1), some (.inl (w3 116 2520)), none]) dX9_rounds_29 (Nat.le_of_ble_eq_true rfl) rfl ?_
    refine WA.aload_n dX9_rounds_30 rfl (by decide) ?_
    refine gxX9_7 rfl rfl dX9_rounds_31 ob_115 ?_
    refine WA.sipush dX9_rounds_34 ⟨by decide, by decide⟩ ?_
    refine WA.iload_n dX9_rounds_37 rfl ?_
    obtain ⟨w4, qw4⟩ : ∃ z, z = wset w3 116 2520 a1 := ⟨_, rfl⟩
    have h := h w4 qw4
    refine WA.iastore dX9_rounds_38 ob_116 (by decide) (by decide) ?_
    rw [← qw4]
    refine WA.aload_n dX9_rounds_39 rfl (by decide) ?_
    obtain ⟨d1, hd1, h⟩ := h
    refine WA.callV0 (kc := 0) (ks := 0) (kc' := 0) (ks' := 0) dX9_rounds_40 lkX9_378 rfl rfl rfl ob_115 rfl (Nat.le_of_ble_eq_true rfl) hd1 h (fun r w5 hK => ?_)
    obtain ⟨x2, rfl, h⟩ := hK
    change WA _ _ _ _ _ _ _ _ _ _ _ [.inl x2] _ _
    refine WA.istore_n (als' := [some (.inr (.inr 115)), some (.inl a1), some (.inl (w3 116 2520)), some (.inl x2)]) dX9_rounds_43 (Nat.le_of_ble_eq_true rfl) rfl ?_
    refine WA.iload_n dX9_rounds_44 rfl ?_
    exact WA.ireturn dX9_rounds_45 ⟨_, rfl, h⟩
  · have h := h.2 hc
    refine WA.ldc (v := (-2000000001)) (x := (-2000000001)) dX9_rounds_10 (am_mem 902 (by decide +kernel) rfl) (by decide) ?_
    exact WA.ireturn dX9_rounds_12 ⟨_, rfl, h⟩
set_option maxRecDepth 10000 in
theorem e_X9_value {d : Nat} {w : Wd} {K : Int → Wd → Prop} {a1 : Int}  
    (h : C_X9_isCell d [.inl a1] w (fun x1 w1 => ((¬ x1 = 0 → (0 ≤ a1 ∧ a1 < 72) ∧ (((w1 120 a1) ≤ 0 → (0 ≤ a1 ∧ a1 < 72) ∧ K (w1 119 a1) w1) ∧ (¬ ((w1 120 a1) ≤ 0) → K (-2000000004) w1))) ∧ (x1 = 0 → K (-2000000001) w1)))) :
    E_X9_value d [.inr (.inr 115), .inl a1] w K := by
  refine EvA.of (by decide +kernel) (Nat.le_of_ble_eq_true rfl) ?_
  change W_X9_value d 0 [some (.inr (.inr 115)), some (.inl a1)] [] w K
  refine WA.iload_n dX9_value_0 rfl ?_
  obtain ⟨d1, hd1, h⟩ := h
  refine WA.callS1 (kc := 0) (ks := 0) (kc' := 0) (ks' := 0) dX9_value_1 lkX9_210 rfl rfl rfl (Nat.le_of_ble_eq_true rfl) hd1 h (fun r w1 hK => ?_)
  obtain ⟨x1, rfl, h⟩ := hK
  change WA _ _ _ _ _ _ _ _ _ _ _ [.inl x1] _ _
  refine WA.if_ne (tgt := 12) dX9_value_4 (by decide) (fun hc => ?_) (fun hc => ?_)
  · have h := h.1 hc
    refine WA.aload_n dX9_value_12 rfl (by decide) ?_
    refine gxX9_22 rfl rfl dX9_value_13 ob_115 ?_
    refine WA.iload_n dX9_value_16 rfl ?_
    obtain ⟨s1, h⟩ := h
    refine WA.iaload dX9_value_17 ob_120 s1.1 s1.2 ?_
    refine WA.if_le (tgt := 26) dX9_value_18 (by decide) (fun hc => ?_) (fun hc => ?_)
    · have h := h.1 hc
      refine WA.aload_n dX9_value_26 rfl (by decide) ?_
      refine gxX9_19 rfl rfl dX9_value_27 ob_115 ?_
      refine WA.iload_n dX9_value_30 rfl ?_
      obtain ⟨s2, h⟩ := h
      refine WA.iaload dX9_value_31 ob_119 s2.1 s2.2 ?_
      exact WA.ireturn dX9_value_32 ⟨_, rfl, h⟩
    · have h := h.2 hc
      refine WA.ldc (v := (-2000000004)) (x := (-2000000004)) dX9_value_21 (am_mem 979 (by decide +kernel) rfl) (by decide) ?_
      refine WA.goto (tgt := 32) dX9_value_23 (by decide) ?_
      exact WA.ireturn dX9_value_32 ⟨_, rfl, h⟩
  · have h := h.2 hc
    refine WA.ldc (v := (-2000000001)) (x := (-2000000001)) dX9_value_7 (am_mem 902 (by decide +kernel) rfl) (by decide) ?_
    refine WA.goto (tgt := 32) dX9_value_9 (by decide) ?_
    exact WA.ireturn dX9_value_32 ⟨_, rfl, h⟩
set_option maxRecDepth 10000 in
theorem e_X9_cellOf {d : Nat} {w : Wd} {K : Int → Wd → Prop} {a1 a2 : Int}  
    (h : C_X9_isCell d [.inl a1] w (fun x1 w1 => ((x1 = 0 → K (-2000000001) w1) ∧ (¬ x1 = 0 → C_X9_in d [.inl a2, .inl 0, .inl 8] w1 (fun x2 w2 => ((¬ x2 = 0 → ((a2 = 0 → (0 ≤ a1 ∧ a1 < 72) ∧ K (w2 120 a1) w2) ∧ ((a2 = 1 → (0 ≤ a1 ∧ a1 < 72) ∧ (((w2 121 a1) = 0 → (0 ≤ a1 ∧ a1 < 72) ∧ K (w2 122 a1) w2) ∧ (¬ (w2 121 a1) = 0 → K (-2000000004) w2))) ∧ ((a2 = 2 → (0 ≤ a1 ∧ a1 < 72) ∧ K (w2 123 a1) w2) ∧ ((a2 = 3 → C_X9_isEmpty d [.inr (.inr 115), .inl a1] w2 (fun x3 w3 => ((x3 = 0 → K 0 w3) ∧ (¬ x3 = 0 → K 1 w3)))) ∧ ((a2 = 4 → (-2147483648 ≤ (2232 + a1) ∧ (2232 + a1) ≤ 2147483647) ∧ (0 ≤ (2232 + a1) ∧ (2232 + a1) < 2778) ∧ K (w2 116 (2232 + a1)) w2) ∧ ((a2 = 5 → (-2147483648 ≤ (2304 + a1) ∧ (2304 + a1) ≤ 2147483647) ∧ (0 ≤ (2304 + a1) ∧ (2304 + a1) < 2778) ∧ K (w2 116 (2304 + a1)) w2) ∧ ((a2 = 6 → (-2147483648 ≤ (2376 + a1) ∧ (2376 + a1) ≤ 2147483647) ∧ (0 ≤ (2376 + a1) ∧ (2376 + a1) < 2778) ∧ K (w2 116 (2376 + a1)) w2) ∧ ((a2 = 7 → (0 ≤ a1 ∧ a1 < 72) ∧ (((w2 121 a1) = 0 → K 0 w2) ∧ (¬ (w2 121 a1) = 0 → K 1 w2))) ∧ (a2 < 0 ∨ 7 < a2 → (-2147483648 ≤ (0 + a1) ∧ (0 + a1) ≤ 2147483647) ∧ (0 ≤ (0 + a1) ∧ (0 + a1) < 2778) ∧ K (w2 116 (0 + a1)) w2)))))))))) ∧ (x2 = 0 → K (-2000000001) w2))))))) :
    E_X9_cellOf d [.inr (.inr 115), .inl a1, .inl a2] w K := by
  refine EvA.of (by decide +kernel) (Nat.le_of_ble_eq_true rfl) ?_
  change W_X9_cellOf d 0 [some (.inr (.inr 115)), some (.inl a1), some (.inl a2)] [] w K
  refine WA.iload_n dX9_cellOf_0 rfl ?_
  obtain ⟨d1, hd1, h⟩ := h
  refine WA.callS1 (kc := 0) (ks := 0) (kc' := 0) (ks' := 0) dX9_cellOf_1 lkX9_210 rfl rfl rfl (Nat.le_of_ble_eq_true rfl) hd1 h (fun r w1 hK => ?_)
  obtain ⟨x1, rfl, h⟩ := hK
  change WA _ _ _ _ _ _ _ _ _ _ _ [.inl x1] _ _
  refine WA.if_eq (tgt := 17) dX9_cellOf_4 (by decide) (fun hc => ?_) (fun hc => ?_)
  · have h := h.1 hc
    refine WA.ldc (v := (-2000000001)) (x := (-2000000001)) dX9_cellOf_17 (am_mem 902 (by decide +kernel) rfl) (by decide) ?_
    exact WA.ireturn dX9_cellOf_19 ⟨_, rfl, h⟩
  · have h := h.2 hc
    refine WA.iload_n dX9_cellOf_7 rfl ?_
    refine WA.iconst dX9_cellOf_8 ⟨by decide, by decide⟩ ?_
    refine WA.bipush dX9_cellOf_9 ⟨by decide, by decide⟩ ?_
    obtain ⟨d1, hd1, h⟩ := h
    refine WA.callS3 (kc := 0) (ks := 0) (kc' := 0) (ks' := 0) dX9_cellOf_11 lkX9_104 rfl rfl rfl (Nat.le_of_ble_eq_true rfl) hd1 h (fun r w2 hK => ?_)
    obtain ⟨x2, rfl, h⟩ := hK
    change WA _ _ _ _ _ _ _ _ _ _ _ [.inl x2] _ _
    refine WA.if_ne (tgt := 20) dX9_cellOf_14 (by decide) (fun hc => ?_) (fun hc => ?_)
    · have h := h.1 hc
      refine WA.iload_n dX9_cellOf_20 rfl ?_
      by_cases hc : a2 = 0
      · have h := h.1 hc
        refine WA.tableIn (tgt := 68) dX9_cellOf_21 (by rw [hc]; decide) (by rw [hc]; decide) (by rw [hc]; rfl) (by decide) ?_
        refine WA.aload_n dX9_cellOf_68 rfl (by decide) ?_
        refine gxX9_22 rfl rfl dX9_cellOf_69 ob_115 ?_
        refine WA.iload_n dX9_cellOf_72 rfl ?_
        obtain ⟨s1, h⟩ := h
        refine WA.iaload dX9_cellOf_73 ob_120 s1.1 s1.2 ?_
        exact WA.ireturn dX9_cellOf_74 ⟨_, rfl, h⟩
      · have h := h.2
        have n0 := hc
        by_cases hc : a2 = 1
        · have h := h.1 hc
          refine WA.tableIn (tgt := 75) dX9_cellOf_21 (by rw [hc]; decide) (by rw [hc]; decide) (by rw [hc]; rfl) (by decide) ?_
          refine WA.aload_n dX9_cellOf_75 rfl (by decide) ?_
          refine gxX9_25 rfl rfl dX9_cellOf_76 ob_115 ?_
          refine WA.iload_n dX9_cellOf_79 rfl ?_
          obtain ⟨s2, h⟩ := h
          refine WA.zaload dX9_cellOf_80 ob_121 s2.1 s2.2 ?_
          refine WA.if_eq (tgt := 89) dX9_cellOf_81 (by decide) (fun hc => ?_) (fun hc => ?_)
          · have h := h.1 hc
            refine WA.aload_n dX9_cellOf_89 rfl (by decide) ?_
            refine gxX9_29 rfl rfl dX9_cellOf_90 ob_115 ?_
            refine WA.iload_n dX9_cellOf_93 rfl ?_
            obtain ⟨s3, h⟩ := h
            refine WA.iaload dX9_cellOf_94 ob_122 s3.1 s3.2 ?_
            exact WA.ireturn dX9_cellOf_95 ⟨_, rfl, h⟩
          · have h := h.2 hc
            refine WA.ldc (v := (-2000000004)) (x := (-2000000004)) dX9_cellOf_84 (am_mem 979 (by decide +kernel) rfl) (by decide) ?_
            refine WA.goto (tgt := 95) dX9_cellOf_86 (by decide) ?_
            exact WA.ireturn dX9_cellOf_95 ⟨_, rfl, h⟩
        · have h := h.2
          have n1 := hc
          by_cases hc : a2 = 2
          · have h := h.1 hc
            refine WA.tableIn (tgt := 96) dX9_cellOf_21 (by rw [hc]; decide) (by rw [hc]; decide) (by rw [hc]; rfl) (by decide) ?_
            refine WA.aload_n dX9_cellOf_96 rfl (by decide) ?_
            refine gxX9_32 rfl rfl dX9_cellOf_97 ob_115 ?_
            refine WA.iload_n dX9_cellOf_100 rfl ?_
            obtain ⟨s4, h⟩ := h
            refine WA.iaload dX9_cellOf_101 ob_123 s4.1 s4.2 ?_
            exact WA.ireturn dX9_cellOf_102 ⟨_, rfl, h⟩
          · have h := h.2
            have n2 := hc
            by_cases hc : a2 = 3
            · have h := h.1 hc
              refine WA.tableIn (tgt := 103) dX9_cellOf_21 (by rw [hc]; decide) (by rw [hc]; decide) (by rw [hc]; rfl) (by decide) ?_
              refine WA.aload_n dX9_cellOf_103 rfl (by decide) ?_
              refine WA.iload_n dX9_cellOf_104 rfl ?_
              obtain ⟨d1, hd1, h⟩ := h
              refine WA.callV1 (kc := 0) (ks := 0) (kc' := 0) (ks' := 0) dX9_cellOf_105 lkX9_281 rfl rfl rfl ob_115 rfl (Nat.le_of_ble_eq_true rfl) hd1 h (fun r w3 hK => ?_)
              obtain ⟨x3, rfl, h⟩ := hK
              change WA _ _ _ _ _ _ _ _ _ _ _ [.inl x3] _ _
              refine WA.if_eq (tgt := 115) dX9_cellOf_108 (by decide) (fun hc => ?_) (fun hc => ?_)
              · have h := h.1 hc
                refine WA.iconst dX9_cellOf_115 ⟨by decide, by decide⟩ ?_
                exact WA.ireturn dX9_cellOf_116 ⟨_, rfl, h⟩
              · have h := h.2 hc
                refine WA.iconst dX9_cellOf_111 ⟨by decide, by decide⟩ ?_
                refine WA.goto (tgt := 116) dX9_cellOf_112 (by decide) ?_
                exact WA.ireturn dX9_cellOf_116 ⟨_, rfl, h⟩
            · have h := h.2
              have n3 := hc
              by_cases hc : a2 = 4
              · have h := h.1 hc
                refine WA.tableIn (tgt := 117) dX9_cellOf_21 (by rw [hc]; decide) (by rw [hc]; decide) (by rw [hc]; rfl) (by decide) ?_
                refine WA.aload_n dX9_cellOf_117 rfl (by decide) ?_
                refine gxX9_7 rfl rfl dX9_cellOf_118 ob_115 ?_
                refine WA.sipush dX9_cellOf_121 ⟨by decide, by decide⟩ ?_
                refine WA.iload_n dX9_cellOf_124 rfl ?_
                obtain ⟨s5, h⟩ := h
                refine WA.iadd dX9_cellOf_125 s5 ?_
                obtain ⟨s6, h⟩ := h
                refine WA.iaload dX9_cellOf_126 ob_116 s6.1 s6.2 ?_
                exact WA.ireturn dX9_cellOf_127 ⟨_, rfl, h⟩
              · have h := h.2
                have n4 := hc
                by_cases hc : a2 = 5
                · have h := h.1 hc
                  refine WA.tableIn (tgt := 128) dX9_cellOf_21 (by rw [hc]; decide) (by rw [hc]; decide) (by rw [hc]; rfl) (by decide) ?_
                  refine WA.aload_n dX9_cellOf_128 rfl (by decide) ?_
                  refine gxX9_7 rfl rfl dX9_cellOf_129 ob_115 ?_
                  refine WA.sipush dX9_cellOf_132 ⟨by decide, by decide⟩ ?_
                  refine WA.iload_n dX9_cellOf_135 rfl ?_
                  obtain ⟨s7, h⟩ := h
                  refine WA.iadd dX9_cellOf_136 s7 ?_
                  obtain ⟨s8, h⟩ := h
                  refine WA.iaload dX9_cellOf_137 ob_116 s8.1 s8.2 ?_
                  exact WA.ireturn dX9_cellOf_138 ⟨_, rfl, h⟩
                · have h := h.2
                  have n5 := hc
                  by_cases hc : a2 = 6
                  · have h := h.1 hc
                    refine WA.tableIn (tgt := 139) dX9_cellOf_21 (by rw [hc]; decide) (by rw [hc]; decide) (by rw [hc]; rfl) (by decide) ?_
                    refine WA.aload_n dX9_cellOf_139 rfl (by decide) ?_
                    refine gxX9_7 rfl rfl dX9_cellOf_140 ob_115 ?_
                    refine WA.sipush dX9_cellOf_143 ⟨by decide, by decide⟩ ?_
                    refine WA.iload_n dX9_cellOf_146 rfl ?_
                    obtain ⟨s9, h⟩ := h
                    refine WA.iadd dX9_cellOf_147 s9 ?_
                    obtain ⟨s10, h⟩ := h
                    refine WA.iaload dX9_cellOf_148 ob_116 s10.1 s10.2 ?_
                    exact WA.ireturn dX9_cellOf_149 ⟨_, rfl, h⟩
                  · have h := h.2
                    have n6 := hc
                    by_cases hc : a2 = 7
                    · have h := h.1 hc
                      refine WA.tableIn (tgt := 150) dX9_cellOf_21 (by rw [hc]; decide) (by rw [hc]; decide) (by rw [hc]; rfl) (by decide) ?_
                      refine WA.aload_n dX9_cellOf_150 rfl (by decide) ?_
                      refine gxX9_25 rfl rfl dX9_cellOf_151 ob_115 ?_
                      refine WA.iload_n dX9_cellOf_154 rfl ?_
                      obtain ⟨s11, h⟩ := h
                      refine WA.zaload dX9_cellOf_155 ob_121 s11.1 s11.2 ?_
                      refine WA.if_eq (tgt := 163) dX9_cellOf_156 (by decide) (fun hc => ?_) (fun hc => ?_)
                      · have h := h.1 hc
                        refine WA.iconst dX9_cellOf_163 ⟨by decide, by decide⟩ ?_
                        exact WA.ireturn dX9_cellOf_164 ⟨_, rfl, h⟩
                      · have h := h.2 hc
                        refine WA.iconst dX9_cellOf_159 ⟨by decide, by decide⟩ ?_
                        refine WA.goto (tgt := 164) dX9_cellOf_160 (by decide) ?_
                        exact WA.ireturn dX9_cellOf_164 ⟨_, rfl, h⟩
                    · have h := h.2
                      have n7 := hc
                      have ho : a2 < 0 ∨ 7 < a2 := by
                        rcases Int.lt_or_le a2 0 with q | q
                        · exact Or.inl q
                        · have q : 1 ≤ a2 := am_bump q n0
                          have q : 2 ≤ a2 := am_bump q n1
                          have q : 3 ≤ a2 := am_bump q n2
                          have q : 4 ≤ a2 := am_bump q n3
                          have q : 5 ≤ a2 := am_bump q n4
                          have q : 6 ≤ a2 := am_bump q n5
                          have q : 7 ≤ a2 := am_bump q n6
                          have q : 8 ≤ a2 := am_bump q n7
                          exact Or.inr q
                      have h := h ho
                      refine WA.tableOut (tgt := 165) dX9_cellOf_21 ho (by decide) ?_
                      refine WA.aload_n dX9_cellOf_165 rfl (by decide) ?_
                      refine gxX9_7 rfl rfl dX9_cellOf_166 ob_115 ?_
                      refine WA.iconst dX9_cellOf_169 ⟨by decide, by decide⟩ ?_
                      refine WA.iload_n dX9_cellOf_170 rfl ?_
                      obtain ⟨s12, h⟩ := h
                      refine WA.iadd dX9_cellOf_171 s12 ?_
                      obtain ⟨s13, h⟩ := h
                      refine WA.iaload dX9_cellOf_172 ob_116 s13.1 s13.2 ?_
                      exact WA.ireturn dX9_cellOf_173 ⟨_, rfl, h⟩
    · have h := h.2 hc
      refine WA.ldc (v := (-2000000001)) (x := (-2000000001)) dX9_cellOf_17 (am_mem 902 (by decide +kernel) rfl) (by decide) ?_
      exact WA.ireturn dX9_cellOf_19 ⟨_, rfl, h⟩
set_option maxRecDepth 10000 in
theorem e_X9_letterAt {d : Nat} {w : Wd} {K : Int → Wd → Prop} {a1 a2 : Int}  
    (h : C_X9_isCell d [.inl a1] w (fun x1 w1 => ((x1 = 0 → K (-2000000001) w1) ∧ (¬ x1 = 0 → ((0 ≤ a2 → (-2147483648 ≤ (0 + a1) ∧ (0 + a1) ≤ 2147483647) ∧ (0 ≤ (0 + a1) ∧ (0 + a1) < 2778) ∧ (((w1 116 (0 + a1)) ≤ a2 → K (-2000000004) w1) ∧ (¬ ((w1 116 (0 + a1)) ≤ a2) → C_X9_letter d [.inr (.inr 115), .inl a1, .inl a2] w1 (fun x2 w2 => K x2 w2)))) ∧ (¬ (0 ≤ a2) → K (-2000000001) w1)))))) :
    E_X9_letterAt d [.inr (.inr 115), .inl a1, .inl a2] w K := by
  refine EvA.of (by decide +kernel) (Nat.le_of_ble_eq_true rfl) ?_
  change W_X9_letterAt d 0 [some (.inr (.inr 115)), some (.inl a1), some (.inl a2)] [] w K
  refine WA.iload_n dX9_letterAt_0 rfl ?_
  obtain ⟨d1, hd1, h⟩ := h
  refine WA.callS1 (kc := 0) (ks := 0) (kc' := 0) (ks' := 0) dX9_letterAt_1 lkX9_210 rfl rfl rfl (Nat.le_of_ble_eq_true rfl) hd1 h (fun r w1 hK => ?_)
  obtain ⟨x1, rfl, h⟩ := hK
  change WA _ _ _ _ _ _ _ _ _ _ _ [.inl x1] _ _
  refine WA.if_eq (tgt := 11) dX9_letterAt_4 (by decide) (fun hc => ?_) (fun hc => ?_)
  · have h := h.1 hc
    refine WA.ldc (v := (-2000000001)) (x := (-2000000001)) dX9_letterAt_11 (am_mem 902 (by decide +kernel) rfl) (by decide) ?_
    exact WA.ireturn dX9_letterAt_13 ⟨_, rfl, h⟩
  · have h := h.2 hc
    refine WA.iload_n dX9_letterAt_7 rfl ?_
    refine WA.if_ge (tgt := 14) dX9_letterAt_8 (by decide) (fun hc => ?_) (fun hc => ?_)
    · have h := h.1 hc
      refine WA.iload_n dX9_letterAt_14 rfl ?_
      refine WA.aload_n dX9_letterAt_15 rfl (by decide) ?_
      refine gxX9_7 rfl rfl dX9_letterAt_16 ob_115 ?_
      refine WA.iconst dX9_letterAt_19 ⟨by decide, by decide⟩ ?_
      refine WA.iload_n dX9_letterAt_20 rfl ?_
      obtain ⟨s1, h⟩ := h
      refine WA.iadd dX9_letterAt_21 s1 ?_
      obtain ⟨s2, h⟩ := h
      refine WA.iaload dX9_letterAt_22 ob_116 s2.1 s2.2 ?_
      refine WA.icmp_ge (tgt := 35) dX9_letterAt_23 (by decide) (fun hc => ?_) (fun hc => ?_)
      · have h := h.1 hc
        refine WA.ldc (v := (-2000000004)) (x := (-2000000004)) dX9_letterAt_35 (am_mem 979 (by decide +kernel) rfl) (by decide) ?_
        exact WA.ireturn dX9_letterAt_37 ⟨_, rfl, h⟩
      · have h := h.2 hc
        refine WA.aload_n dX9_letterAt_26 rfl (by decide) ?_
        refine WA.iload_n dX9_letterAt_27 rfl ?_
        refine WA.iload_n dX9_letterAt_28 rfl ?_
        obtain ⟨d1, hd1, h⟩ := h
        refine WA.callV2 (kc := 0) (ks := 0) (kc' := 0) (ks' := 0) dX9_letterAt_29 lkX9_224 rfl rfl rfl ob_115 rfl (Nat.le_of_ble_eq_true rfl) hd1 h (fun r w2 hK => ?_)
        obtain ⟨x2, rfl, h⟩ := hK
        change WA _ _ _ _ _ _ _ _ _ _ _ [.inl x2] _ _
        refine WA.goto (tgt := 37) dX9_letterAt_32 (by decide) ?_
        exact WA.ireturn dX9_letterAt_37 ⟨_, rfl, h⟩
    · have h := h.2 hc
      refine WA.ldc (v := (-2000000001)) (x := (-2000000001)) dX9_letterAt_11 (am_mem 902 (by decide +kernel) rfl) (by decide) ?_
      exact WA.ireturn dX9_letterAt_13 ⟨_, rfl, h⟩
set_option maxRecDepth 10000 in
theorem e_X9_readAt {d : Nat} {w : Wd} {K : Int → Wd → Prop} {a1 a2 : Int}  
    (h : C_X9_isCell d [.inl a1] w (fun x1 w1 => ((x1 = 0 → K (-2000000001) w1) ∧ (¬ x1 = 0 → ((0 ≤ a2 → (0 ≤ a1 ∧ a1 < 72) ∧ (((w1 123 a1) ≤ a2 → K (-2000000004) w1) ∧ (¬ ((w1 123 a1) ≤ a2) → (-2147483648 ≤ (72 * a1) ∧ (72 * a1) ≤ 2147483647) ∧ (-2147483648 ≤ ((72 * a1) + a2) ∧ ((72 * a1) + a2) ≤ 2147483647) ∧ (0 ≤ ((72 * a1) + a2) ∧ ((72 * a1) + a2) < 5184) ∧ K (w1 124 ((72 * a1) + a2)) w1))) ∧ (¬ (0 ≤ a2) → K (-2000000001) w1)))))) :
    E_X9_readAt d [.inr (.inr 115), .inl a1, .inl a2] w K := by
  refine EvA.of (by decide +kernel) (Nat.le_of_ble_eq_true rfl) ?_
  change W_X9_readAt d 0 [some (.inr (.inr 115)), some (.inl a1), some (.inl a2)] [] w K
  refine WA.iload_n dX9_readAt_0 rfl ?_
  obtain ⟨d1, hd1, h⟩ := h
  refine WA.callS1 (kc := 0) (ks := 0) (kc' := 0) (ks' := 0) dX9_readAt_1 lkX9_210 rfl rfl rfl (Nat.le_of_ble_eq_true rfl) hd1 h (fun r w1 hK => ?_)
  obtain ⟨x1, rfl, h⟩ := hK
  change WA _ _ _ _ _ _ _ _ _ _ _ [.inl x1] _ _
  refine WA.if_eq (tgt := 11) dX9_readAt_4 (by decide) (fun hc => ?_) (fun hc => ?_)
  · have h := h.1 hc
    refine WA.ldc (v := (-2000000001)) (x := (-2000000001)) dX9_readAt_11 (am_mem 902 (by decide +kernel) rfl) (by decide) ?_
    exact WA.ireturn dX9_readAt_13 ⟨_, rfl, h⟩
  · have h := h.2 hc
    refine WA.iload_n dX9_readAt_7 rfl ?_
    refine WA.if_ge (tgt := 14) dX9_readAt_8 (by decide) (fun hc => ?_) (fun hc => ?_)
    · have h := h.1 hc
      refine WA.iload_n dX9_readAt_14 rfl ?_
      refine WA.aload_n dX9_readAt_15 rfl (by decide) ?_
      refine gxX9_32 rfl rfl dX9_readAt_16 ob_115 ?_
      refine WA.iload_n dX9_readAt_19 rfl ?_
      obtain ⟨s1, h⟩ := h
      refine WA.iaload dX9_readAt_20 ob_123 s1.1 s1.2 ?_
      refine WA.icmp_ge (tgt := 38) dX9_readAt_21 (by decide) (fun hc => ?_) (fun hc => ?_)
      · have h := h.1 hc
        refine WA.ldc (v := (-2000000004)) (x := (-2000000004)) dX9_readAt_38 (am_mem 979 (by decide +kernel) rfl) (by decide) ?_
        exact WA.ireturn dX9_readAt_40 ⟨_, rfl, h⟩
      · have h := h.2 hc
        refine WA.aload_n dX9_readAt_24 rfl (by decide) ?_
        refine gxX9_35 rfl rfl dX9_readAt_25 ob_115 ?_
        refine WA.bipush dX9_readAt_28 ⟨by decide, by decide⟩ ?_
        refine WA.iload_n dX9_readAt_30 rfl ?_
        obtain ⟨s2, h⟩ := h
        refine WA.imul dX9_readAt_31 s2 ?_
        refine WA.iload_n dX9_readAt_32 rfl ?_
        obtain ⟨s3, h⟩ := h
        refine WA.iadd dX9_readAt_33 s3 ?_
        obtain ⟨s4, h⟩ := h
        refine WA.iaload dX9_readAt_34 ob_124 s4.1 s4.2 ?_
        refine WA.goto (tgt := 40) dX9_readAt_35 (by decide) ?_
        exact WA.ireturn dX9_readAt_40 ⟨_, rfl, h⟩
    · have h := h.2 hc
      refine WA.ldc (v := (-2000000001)) (x := (-2000000001)) dX9_readAt_11 (am_mem 902 (by decide +kernel) rfl) (by decide) ?_
      exact WA.ireturn dX9_readAt_13 ⟨_, rfl, h⟩
set_option maxRecDepth 10000 in
theorem v_X9_doesRead_5 {d : Nat} {w : Wd} {K : Int → Wd → Prop} {a1 a2 v3 v4 : Int}  
    (h : (0 ≤ a1 ∧ a1 < 72) ∧ (((w 123 a1) ≤ v4 → (v3 = 0 ∨ v3 = 1) ∧ K v3 w) ∧ (¬ ((w 123 a1) ≤ v4) → ((¬ v3 = 0 → (-2147483648 ≤ (v4 + 1) ∧ (v4 + 1) ≤ 2147483647) ∧ W_X9_doesRead d 5 [some (.inr (.inr 115)), some (.inl a1), some (.inl a2), some (.inl 1), some (.inl (v4 + 1))] [] w K) ∧ (v3 = 0 → (-2147483648 ≤ (72 * a1) ∧ (72 * a1) ≤ 2147483647) ∧ (-2147483648 ≤ ((72 * a1) + v4) ∧ ((72 * a1) + v4) ≤ 2147483647) ∧ (0 ≤ ((72 * a1) + v4) ∧ ((72 * a1) + v4) < 5184) ∧ ((¬ (w 124 ((72 * a1) + v4)) = a2 → (-2147483648 ≤ (v4 + 1) ∧ (v4 + 1) ≤ 2147483647) ∧ W_X9_doesRead d 5 [some (.inr (.inr 115)), some (.inl a1), some (.inl a2), some (.inl 0), some (.inl (v4 + 1))] [] w K) ∧ ((w 124 ((72 * a1) + v4)) = a2 → (-2147483648 ≤ (v4 + 1) ∧ (v4 + 1) ≤ 2147483647) ∧ W_X9_doesRead d 5 [some (.inr (.inr 115)), some (.inl a1), some (.inl a2), some (.inl 1), some (.inl (v4 + 1))] [] w K))))))) :
    W_X9_doesRead d 5 [some (.inr (.inr 115)), some (.inl a1), some (.inl a2), some (.inl v3), some (.inl v4)] [] w K := by
  refine WA.iload dX9_doesRead_5 rfl ?_
  refine WA.aload_n dX9_doesRead_7 rfl (by decide) ?_
  refine gxX9_32 rfl rfl dX9_doesRead_8 ob_115 ?_
  refine WA.iload_n dX9_doesRead_11 rfl ?_
  obtain ⟨s1, h⟩ := h
  refine WA.iaload dX9_doesRead_12 ob_123 s1.1 s1.2 ?_
  refine WA.icmp_ge (tgt := 48) dX9_doesRead_13 (by decide) (fun hc => ?_) (fun hc => ?_)
  · have h := h.1 hc
    refine WA.iload_n dX9_doesRead_48 rfl ?_
    obtain ⟨s2, h⟩ := h
    exact WA.zreturn dX9_doesRead_49 s2 ⟨_, rfl, h⟩
  · have h := h.2 hc
    refine WA.iload_n dX9_doesRead_16 rfl ?_
    refine WA.if_ne (tgt := 36) dX9_doesRead_17 (by decide) (fun hc => ?_) (fun hc => ?_)
    · have h := h.1 hc
      refine WA.iconst dX9_doesRead_36 ⟨by decide, by decide⟩ ?_
      refine WA.goto (tgt := 41) dX9_doesRead_37 (by decide) ?_
      refine WA.istore_n (als' := [some (.inr (.inr 115)), some (.inl a1), some (.inl a2), some (.inl 1), some (.inl v4)]) dX9_doesRead_41 (Nat.le_of_ble_eq_true rfl) rfl ?_
      obtain ⟨s3, h⟩ := h
      refine WA.iinc (als' := [some (.inr (.inr 115)), some (.inl a1), some (.inl a2), some (.inl 1), some (.inl (v4 + 1))]) dX9_doesRead_42 rfl s3 rfl ?_
      refine WA.goto (tgt := 5) dX9_doesRead_45 (by decide) ?_
      exact h
    · have h := h.2 hc
      refine WA.aload_n dX9_doesRead_20 rfl (by decide) ?_
      refine gxX9_35 rfl rfl dX9_doesRead_21 ob_115 ?_
      refine WA.bipush dX9_doesRead_24 ⟨by decide, by decide⟩ ?_
      refine WA.iload_n dX9_doesRead_26 rfl ?_
      obtain ⟨s4, h⟩ := h
      refine WA.imul dX9_doesRead_27 s4 ?_
      refine WA.iload dX9_doesRead_28 rfl ?_
      obtain ⟨s5, h⟩ := h
      refine WA.iadd dX9_doesRead_30 s5 ?_
      obtain ⟨s6, h⟩ := h
      refine WA.iaload dX9_doesRead_31 ob_124 s6.1 s6.2 ?_
      refine WA.iload_n dX9_doesRead_32 rfl ?_
      refine WA.icmp_ne (tgt := 40) dX9_doesRead_33 (by decide) (fun hc => ?_) (fun hc => ?_)
      · have h := h.1 hc
        refine WA.iconst dX9_doesRead_40 ⟨by decide, by decide⟩ ?_
        refine WA.istore_n (als' := [some (.inr (.inr 115)), some (.inl a1), some (.inl a2), some (.inl 0), some (.inl v4)]) dX9_doesRead_41 (Nat.le_of_ble_eq_true rfl) rfl ?_
        obtain ⟨s7, h⟩ := h
        refine WA.iinc (als' := [some (.inr (.inr 115)), some (.inl a1), some (.inl a2), some (.inl 0), some (.inl (v4 + 1))]) dX9_doesRead_42 rfl s7 rfl ?_
        refine WA.goto (tgt := 5) dX9_doesRead_45 (by decide) ?_
        exact h
      · have h := h.2 hc
        refine WA.iconst dX9_doesRead_36 ⟨by decide, by decide⟩ ?_
        refine WA.goto (tgt := 41) dX9_doesRead_37 (by decide) ?_
        refine WA.istore_n (als' := [some (.inr (.inr 115)), some (.inl a1), some (.inl a2), some (.inl 1), some (.inl v4)]) dX9_doesRead_41 (Nat.le_of_ble_eq_true rfl) rfl ?_
        obtain ⟨s8, h⟩ := h
        refine WA.iinc (als' := [some (.inr (.inr 115)), some (.inl a1), some (.inl a2), some (.inl 1), some (.inl (v4 + 1))]) dX9_doesRead_42 rfl s8 rfl ?_
        refine WA.goto (tgt := 5) dX9_doesRead_45 (by decide) ?_
        exact h
set_option maxRecDepth 10000 in
theorem e_X9_doesRead {d : Nat} {w : Wd} {K : Int → Wd → Prop} {a1 a2 : Int}  
    (h : W_X9_doesRead d 5 [some (.inr (.inr 115)), some (.inl a1), some (.inl a2), some (.inl 0), some (.inl 0)] [] w K) :
    E_X9_doesRead d [.inr (.inr 115), .inl a1, .inl a2] w K := by
  refine EvA.of (by decide +kernel) (Nat.le_of_ble_eq_true rfl) ?_
  change W_X9_doesRead d 0 [some (.inr (.inr 115)), some (.inl a1), some (.inl a2), none, none] [] w K
  refine WA.iconst dX9_doesRead_0 ⟨by decide, by decide⟩ ?_
  refine WA.istore_n (als' := [some (.inr (.inr 115)), some (.inl a1), some (.inl a2), some (.inl 0), none]) dX9_doesRead_1 (Nat.le_of_ble_eq_true rfl) rfl ?_
  refine WA.iconst dX9_doesRead_2 ⟨by decide, by decide⟩ ?_
  refine WA.istore (als' := [some (.inr (.inr 115)), some (.inl a1), some (.inl a2), some (.inl 0), some (.inl 0)]) dX9_doesRead_3 (Nat.le_of_ble_eq_true rfl) rfl ?_
  exact h
set_option maxRecDepth 10000 in
theorem v_X9_readerAt_19 {d : Nat} {w : Wd} {K : Int → Wd → Prop} {a1 a2 v3 v4 : Int}  
    (h : ((72 ≤ v4 → K (-2000000004) w) ∧ (¬ (72 ≤ v4) → C_X9_doesRead d [.inr (.inr 115), .inl v4, .inl a1] w (fun x1 w1 => ((x1 = 0 → (-2147483648 ≤ (v4 + 1) ∧ (v4 + 1) ≤ 2147483647) ∧ W_X9_readerAt d 19 [some (.inr (.inr 115)), some (.inl a1), some (.inl a2), some (.inl v3), some (.inl (v4 + 1))] [] w1 K) ∧ (¬ x1 = 0 → ((¬ v3 = a2 → (-2147483648 ≤ (v3 + 1) ∧ (v3 + 1) ≤ 2147483647) ∧ (-2147483648 ≤ (v4 + 1) ∧ (v4 + 1) ≤ 2147483647) ∧ W_X9_readerAt d 19 [some (.inr (.inr 115)), some (.inl a1), some (.inl a2), some (.inl (v3 + 1)), some (.inl (v4 + 1))] [] w1 K) ∧ (v3 = a2 → K v4 w1)))))))) :
    W_X9_readerAt d 19 [some (.inr (.inr 115)), some (.inl a1), some (.inl a2), some (.inl v3), some (.inl v4)] [] w K := by
  refine WA.iload dX9_readerAt_19 rfl ?_
  refine WA.bipush dX9_readerAt_21 ⟨by decide, by decide⟩ ?_
  refine WA.icmp_ge (tgt := 53) dX9_readerAt_23 (by decide) (fun hc => ?_) (fun hc => ?_)
  · have h := h.1 hc
    refine WA.ldc (v := (-2000000004)) (x := (-2000000004)) dX9_readerAt_53 (am_mem 979 (by decide +kernel) rfl) (by decide) ?_
    exact WA.ireturn dX9_readerAt_55 ⟨_, rfl, h⟩
  · have h := h.2 hc
    refine WA.aload_n dX9_readerAt_26 rfl (by decide) ?_
    refine WA.iload dX9_readerAt_27 rfl ?_
    refine WA.iload_n dX9_readerAt_29 rfl ?_
    obtain ⟨d1, hd1, h⟩ := h
    refine WA.callV2 (kc := 0) (ks := 0) (kc' := 0) (ks' := 0) dX9_readerAt_30 lkX9_381 rfl rfl rfl ob_115 rfl (Nat.le_of_ble_eq_true rfl) hd1 h (fun r w1 hK => ?_)
    obtain ⟨x1, rfl, h⟩ := hK
    change WA _ _ _ _ _ _ _ _ _ _ _ [.inl x1] _ _
    refine WA.if_eq (tgt := 47) dX9_readerAt_33 (by decide) (fun hc => ?_) (fun hc => ?_)
    · have h := h.1 hc
      obtain ⟨s1, h⟩ := h
      refine WA.iinc (als' := [some (.inr (.inr 115)), some (.inl a1), some (.inl a2), some (.inl v3), some (.inl (v4 + 1))]) dX9_readerAt_47 rfl s1 rfl ?_
      refine WA.goto (tgt := 19) dX9_readerAt_50 (by decide) ?_
      exact h
    · have h := h.2 hc
      refine WA.iload_n dX9_readerAt_36 rfl ?_
      refine WA.iload_n dX9_readerAt_37 rfl ?_
      refine WA.icmp_ne (tgt := 44) dX9_readerAt_38 (by decide) (fun hc => ?_) (fun hc => ?_)
      · have h := h.1 hc
        obtain ⟨s2, h⟩ := h
        refine WA.iinc (als' := [some (.inr (.inr 115)), some (.inl a1), some (.inl a2), some (.inl (v3 + 1)), some (.inl v4)]) dX9_readerAt_44 rfl s2 rfl ?_
        obtain ⟨s3, h⟩ := h
        refine WA.iinc (als' := [some (.inr (.inr 115)), some (.inl a1), some (.inl a2), some (.inl (v3 + 1)), some (.inl (v4 + 1))]) dX9_readerAt_47 rfl s3 rfl ?_
        refine WA.goto (tgt := 19) dX9_readerAt_50 (by decide) ?_
        exact h
      · have h := h.2 hc
        refine WA.iload dX9_readerAt_41 rfl ?_
        exact WA.ireturn dX9_readerAt_43 ⟨_, rfl, h⟩
set_option maxRecDepth 10000 in
theorem e_X9_readerAt {d : Nat} {w : Wd} {K : Int → Wd → Prop} {a1 a2 : Int}  
    (h : C_X9_isCell d [.inl a1] w (fun x1 w1 => ((x1 = 0 → K (-2000000001) w1) ∧ (¬ x1 = 0 → ((0 ≤ a2 → W_X9_readerAt d 19 [some (.inr (.inr 115)), some (.inl a1), some (.inl a2), some (.inl 0), some (.inl 0)] [] w1 K) ∧ (¬ (0 ≤ a2) → K (-2000000001) w1)))))) :
    E_X9_readerAt d [.inr (.inr 115), .inl a1, .inl a2] w K := by
  refine EvA.of (by decide +kernel) (Nat.le_of_ble_eq_true rfl) ?_
  change W_X9_readerAt d 0 [some (.inr (.inr 115)), some (.inl a1), some (.inl a2), none, none] [] w K
  refine WA.iload_n dX9_readerAt_0 rfl ?_
  obtain ⟨d1, hd1, h⟩ := h
  refine WA.callS1 (kc := 0) (ks := 0) (kc' := 0) (ks' := 0) dX9_readerAt_1 lkX9_210 rfl rfl rfl (Nat.le_of_ble_eq_true rfl) hd1 h (fun r w1 hK => ?_)
  obtain ⟨x1, rfl, h⟩ := hK
  change WA _ _ _ _ _ _ _ _ _ _ _ [.inl x1] _ _
  refine WA.if_eq (tgt := 11) dX9_readerAt_4 (by decide) (fun hc => ?_) (fun hc => ?_)
  · have h := h.1 hc
    refine WA.ldc (v := (-2000000001)) (x := (-2000000001)) dX9_readerAt_11 (am_mem 902 (by decide +kernel) rfl) (by decide) ?_
    exact WA.ireturn dX9_readerAt_13 ⟨_, rfl, h⟩
  · have h := h.2 hc
    refine WA.iload_n dX9_readerAt_7 rfl ?_
    refine WA.if_ge (tgt := 14) dX9_readerAt_8 (by decide) (fun hc => ?_) (fun hc => ?_)
    · have h := h.1 hc
      refine WA.iconst dX9_readerAt_14 ⟨by decide, by decide⟩ ?_
      refine WA.istore_n (als' := [some (.inr (.inr 115)), some (.inl a1), some (.inl a2), some (.inl 0), none]) dX9_readerAt_15 (Nat.le_of_ble_eq_true rfl) rfl ?_
      refine WA.iconst dX9_readerAt_16 ⟨by decide, by decide⟩ ?_
      refine WA.istore (als' := [some (.inr (.inr 115)), some (.inl a1), some (.inl a2), some (.inl 0), some (.inl 0)]) dX9_readerAt_17 (Nat.le_of_ble_eq_true rfl) rfl ?_
      exact h
    · have h := h.2 hc
      refine WA.ldc (v := (-2000000001)) (x := (-2000000001)) dX9_readerAt_11 (am_mem 902 (by decide +kernel) rfl) (by decide) ?_
      exact WA.ireturn dX9_readerAt_13 ⟨_, rfl, h⟩
set_option maxRecDepth 10000 in
theorem e_X9_rank {d : Nat} {w : Wd} {K : Int → Wd → Prop} {a1 : Int}  
    (h : (0 ≤ a1 ∧ a1 < 72) ∧ (((w 121 a1) = 0 → (0 ≤ a1 ∧ a1 < 72) ∧ (-2147483648 ≤ (72 * (w 122 a1)) ∧ (72 * (w 122 a1)) ≤ 2147483647) ∧ (-2147483648 ≤ ((72 * (w 122 a1)) + a1) ∧ ((72 * (w 122 a1)) + a1) ≤ 2147483647) ∧ K ((72 * (w 122 a1)) + a1) w) ∧ (¬ (w 121 a1) = 0 → (-2147483648 ≤ (5184 + a1) ∧ (5184 + a1) ≤ 2147483647) ∧ K (5184 + a1) w))) :
    E_X9_rank d [.inr (.inr 115), .inl a1] w K := by
  refine EvA.of (by decide +kernel) (Nat.le_of_ble_eq_true rfl) ?_
  change W_X9_rank d 0 [some (.inr (.inr 115)), some (.inl a1)] [] w K
  refine WA.aload_n dX9_rank_0 rfl (by decide) ?_
  refine gxX9_25 rfl rfl dX9_rank_1 ob_115 ?_
  refine WA.iload_n dX9_rank_4 rfl ?_
  obtain ⟨s1, h⟩ := h
  refine WA.zaload dX9_rank_5 ob_121 s1.1 s1.2 ?_
  refine WA.if_eq (tgt := 17) dX9_rank_6 (by decide) (fun hc => ?_) (fun hc => ?_)
  · have h := h.1 hc
    refine WA.bipush dX9_rank_17 ⟨by decide, by decide⟩ ?_
    refine WA.aload_n dX9_rank_19 rfl (by decide) ?_
    refine gxX9_29 rfl rfl dX9_rank_20 ob_115 ?_
    refine WA.iload_n dX9_rank_23 rfl ?_
    obtain ⟨s2, h⟩ := h
    refine WA.iaload dX9_rank_24 ob_122 s2.1 s2.2 ?_
    obtain ⟨s3, h⟩ := h
    refine WA.imul dX9_rank_25 s3 ?_
    refine WA.iload_n dX9_rank_26 rfl ?_
    obtain ⟨s4, h⟩ := h
    refine WA.iadd dX9_rank_27 s4 ?_
    exact WA.ireturn dX9_rank_28 ⟨_, rfl, h⟩
  · have h := h.2 hc
    refine WA.sipush dX9_rank_9 ⟨by decide, by decide⟩ ?_
    refine WA.iload_n dX9_rank_12 rfl ?_
    obtain ⟨s5, h⟩ := h
    refine WA.iadd dX9_rank_13 s5 ?_
    refine WA.goto (tgt := 28) dX9_rank_14 (by decide) ?_
    exact WA.ireturn dX9_rank_28 ⟨_, rfl, h⟩
set_option maxRecDepth 10000 in
theorem v_X9_ranAt_9 {d : Nat} {w : Wd} {K : Int → Wd → Prop} {a1 v2 : Int}  
    (h : ((72 ≤ v2 → K (-2000000004) w) ∧ (¬ (72 ≤ v2) → W_X9_ranAt d 20 [some (.inr (.inr 115)), some (.inl a1), some (.inl v2), some (.inl 0), some (.inl 0)] [] w K))) :
    W_X9_ranAt d 9 [some (.inr (.inr 115)), some (.inl a1), some (.inl v2), none, none] [] w K := by
  refine WA.iload_n dX9_ranAt_9 rfl ?_
  refine WA.bipush dX9_ranAt_10 ⟨by decide, by decide⟩ ?_
  refine WA.icmp_ge (tgt := 97) dX9_ranAt_12 (by decide) (fun hc => ?_) (fun hc => ?_)
  · have h := h.1 hc
    refine WA.ldc (v := (-2000000004)) (x := (-2000000004)) dX9_ranAt_97 (am_mem 979 (by decide +kernel) rfl) (by decide) ?_
    exact WA.ireturn dX9_ranAt_99 ⟨_, rfl, h⟩
  · have h := h.2 hc
    refine WA.iconst dX9_ranAt_15 ⟨by decide, by decide⟩ ?_
    refine WA.istore_n (als' := [some (.inr (.inr 115)), some (.inl a1), some (.inl v2), some (.inl 0), none]) dX9_ranAt_16 (Nat.le_of_ble_eq_true rfl) rfl ?_
    refine WA.iconst dX9_ranAt_17 ⟨by decide, by decide⟩ ?_
    refine WA.istore (als' := [some (.inr (.inr 115)), some (.inl a1), some (.inl v2), some (.inl 0), some (.inl 0)]) dX9_ranAt_18 (Nat.le_of_ble_eq_true rfl) rfl ?_
    exact h
set_option maxRecDepth 10000 in
theorem v_X9_ranAt_20 {d : Nat} {w : Wd} {K : Int → Wd → Prop} {a1 v2 v3 v4 : Int}  
    (h : ((72 ≤ v4 → (-2147483648 ≤ (2304 + v2) ∧ (2304 + v2) ≤ 2147483647) ∧ (0 ≤ (2304 + v2) ∧ (2304 + v2) < 2778) ∧ ((¬ (w 116 (2304 + v2)) = 1 → (-2147483648 ≤ (v2 + 1) ∧ (v2 + 1) ≤ 2147483647) ∧ W_X9_ranAt d 9 [some (.inr (.inr 115)), some (.inl a1), some (.inl (v2 + 1)), none, none] [] w K) ∧ ((w 116 (2304 + v2)) = 1 → ((¬ v3 = a1 → (-2147483648 ≤ (v2 + 1) ∧ (v2 + 1) ≤ 2147483647) ∧ W_X9_ranAt d 9 [some (.inr (.inr 115)), some (.inl a1), some (.inl (v2 + 1)), none, none] [] w K) ∧ (v3 = a1 → K v2 w))))) ∧ (¬ (72 ≤ v4) → (-2147483648 ≤ (2304 + v4) ∧ (2304 + v4) ≤ 2147483647) ∧ (0 ≤ (2304 + v4) ∧ (2304 + v4) < 2778) ∧ ((¬ (w 116 (2304 + v4)) = 1 → (-2147483648 ≤ (v3 + 0) ∧ (v3 + 0) ≤ 2147483647) ∧ (-2147483648 ≤ (v4 + 1) ∧ (v4 + 1) ≤ 2147483647) ∧ W_X9_ranAt d 20 [some (.inr (.inr 115)), some (.inl a1), some (.inl v2), some (.inl (v3 + 0)), some (.inl (v4 + 1))] [] w K) ∧ ((w 116 (2304 + v4)) = 1 → C_X9_rank d [.inr (.inr 115), .inl v4] w (fun x1 w1 => C_X9_rank d [.inr (.inr 115), .inl v2] w1 (fun x2 w2 => ((x2 ≤ x1 → (-2147483648 ≤ (v3 + 0) ∧ (v3 + 0) ≤ 2147483647) ∧ (-2147483648 ≤ (v4 + 1) ∧ (v4 + 1) ≤ 2147483647) ∧ W_X9_ranAt d 20 [some (.inr (.inr 115)), some (.inl a1), some (.inl v2), some (.inl (v3 + 0)), some (.inl (v4 + 1))] [] w2 K) ∧ (¬ (x2 ≤ x1) → (-2147483648 ≤ (v3 + 1) ∧ (v3 + 1) ≤ 2147483647) ∧ (-2147483648 ≤ (v4 + 1) ∧ (v4 + 1) ≤ 2147483647) ∧ W_X9_ranAt d 20 [some (.inr (.inr 115)), some (.inl a1), some (.inl v2), some (.inl (v3 + 1)), some (.inl (v4 + 1))] [] w2 K))))))))) :
    W_X9_ranAt d 20 [some (.inr (.inr 115)), some (.inl a1), some (.inl v2), some (.inl v3), some (.inl v4)] [] w K := by
  refine WA.iload dX9_ranAt_20 rfl ?_
  refine WA.bipush dX9_ranAt_22 ⟨by decide, by decide⟩ ?_
  refine WA.icmp_ge (tgt := 70) dX9_ranAt_24 (by decide) (fun hc => ?_) (fun hc => ?_)
  · have h := h.1 hc
    refine WA.aload_n dX9_ranAt_70 rfl (by decide) ?_
    refine gxX9_7 rfl rfl dX9_ranAt_71 ob_115 ?_
    refine WA.sipush dX9_ranAt_74 ⟨by decide, by decide⟩ ?_
    refine WA.iload_n dX9_ranAt_77 rfl ?_
    obtain ⟨s1, h⟩ := h
    refine WA.iadd dX9_ranAt_78 s1 ?_
    obtain ⟨s2, h⟩ := h
    refine WA.iaload dX9_ranAt_79 ob_116 s2.1 s2.2 ?_
    refine WA.iconst dX9_ranAt_80 ⟨by decide, by decide⟩ ?_
    refine WA.icmp_ne (tgt := 91) dX9_ranAt_81 (by decide) (fun hc => ?_) (fun hc => ?_)
    · have h := h.1 hc
      obtain ⟨s3, h⟩ := h
      refine WA.iinc (als' := [some (.inr (.inr 115)), some (.inl a1), some (.inl (v2 + 1)), some (.inl v3), some (.inl v4)]) dX9_ranAt_91 rfl s3 rfl ?_
      refine WA.goto (tgt := 9) dX9_ranAt_94 (by decide) ?_
      exact WA.sub (als' := [some (.inr (.inr 115)), some (.inl a1), some (.inl (v2 + 1)), none, none]) (by simp only [am_sub, and_self]) rfl h
    · have h := h.2 hc
      refine WA.iload_n dX9_ranAt_84 rfl ?_
      refine WA.iload_n dX9_ranAt_85 rfl ?_
      refine WA.icmp_ne (tgt := 91) dX9_ranAt_86 (by decide) (fun hc => ?_) (fun hc => ?_)
      · have h := h.1 hc
        obtain ⟨s4, h⟩ := h
        refine WA.iinc (als' := [some (.inr (.inr 115)), some (.inl a1), some (.inl (v2 + 1)), some (.inl v3), some (.inl v4)]) dX9_ranAt_91 rfl s4 rfl ?_
        refine WA.goto (tgt := 9) dX9_ranAt_94 (by decide) ?_
        exact WA.sub (als' := [some (.inr (.inr 115)), some (.inl a1), some (.inl (v2 + 1)), none, none]) (by simp only [am_sub, and_self]) rfl h
      · have h := h.2 hc
        refine WA.iload_n dX9_ranAt_89 rfl ?_
        exact WA.ireturn dX9_ranAt_90 ⟨_, rfl, h⟩
  · have h := h.2 hc
    refine WA.iload_n dX9_ranAt_27 rfl ?_
    refine WA.aload_n dX9_ranAt_28 rfl (by decide) ?_
    refine gxX9_7 rfl rfl dX9_ranAt_29 ob_115 ?_
    refine WA.sipush dX9_ranAt_32 ⟨by decide, by decide⟩ ?_
    refine WA.iload dX9_ranAt_35 rfl ?_
    obtain ⟨s5, h⟩ := h
    refine WA.iadd dX9_ranAt_37 s5 ?_
    obtain ⟨s6, h⟩ := h
    refine WA.iaload dX9_ranAt_38 ob_116 s6.1 s6.2 ?_
    refine WA.iconst dX9_ranAt_39 ⟨by decide, by decide⟩ ?_
    refine WA.icmp_ne (tgt := 61) dX9_ranAt_40 (by decide) (fun hc => ?_) (fun hc => ?_)
    · have h := h.1 hc
      refine WA.iconst dX9_ranAt_61 ⟨by decide, by decide⟩ ?_
      obtain ⟨s7, h⟩ := h
      refine WA.iadd dX9_ranAt_62 s7 ?_
      refine WA.istore_n (als' := [some (.inr (.inr 115)), some (.inl a1), some (.inl v2), some (.inl (v3 + 0)), some (.inl v4)]) dX9_ranAt_63 (Nat.le_of_ble_eq_true rfl) rfl ?_
      obtain ⟨s8, h⟩ := h
      refine WA.iinc (als' := [some (.inr (.inr 115)), some (.inl a1), some (.inl v2), some (.inl (v3 + 0)), some (.inl (v4 + 1))]) dX9_ranAt_64 rfl s8 rfl ?_
      refine WA.goto (tgt := 20) dX9_ranAt_67 (by decide) ?_
      exact h
    · have h := h.2 hc
      refine WA.aload_n dX9_ranAt_43 rfl (by decide) ?_
      refine WA.iload dX9_ranAt_44 rfl ?_
      obtain ⟨d1, hd1, h⟩ := h
      refine WA.callV1 (kc := 0) (ks := 0) (kc' := 0) (ks' := 0) dX9_ranAt_46 lkX9_384 rfl rfl rfl ob_115 rfl (Nat.le_of_ble_eq_true rfl) hd1 h (fun r w1 hK => ?_)
      obtain ⟨x1, rfl, h⟩ := hK
      change WA _ _ _ _ _ _ _ _ _ _ _ [.inl x1, .inl v3] _ _
      refine WA.aload_n dX9_ranAt_49 rfl (by decide) ?_
      refine WA.iload_n dX9_ranAt_50 rfl ?_
      obtain ⟨d1, hd1, h⟩ := h
      refine WA.callV1 (kc := 0) (ks := 0) (kc' := 0) (ks' := 0) dX9_ranAt_51 lkX9_384 rfl rfl rfl ob_115 rfl (Nat.le_of_ble_eq_true rfl) hd1 h (fun r w2 hK => ?_)
      obtain ⟨x2, rfl, h⟩ := hK
      change WA _ _ _ _ _ _ _ _ _ _ _ [.inl x2, .inl x1, .inl v3] _ _
      refine WA.icmp_ge (tgt := 61) dX9_ranAt_54 (by decide) (fun hc => ?_) (fun hc => ?_)
      · have h := h.1 hc
        refine WA.iconst dX9_ranAt_61 ⟨by decide, by decide⟩ ?_
        obtain ⟨s9, h⟩ := h
        refine WA.iadd dX9_ranAt_62 s9 ?_
        refine WA.istore_n (als' := [some (.inr (.inr 115)), some (.inl a1), some (.inl v2), some (.inl (v3 + 0)), some (.inl v4)]) dX9_ranAt_63 (Nat.le_of_ble_eq_true rfl) rfl ?_
        obtain ⟨s10, h⟩ := h
        refine WA.iinc (als' := [some (.inr (.inr 115)), some (.inl a1), some (.inl v2), some (.inl (v3 + 0)), some (.inl (v4 + 1))]) dX9_ranAt_64 rfl s10 rfl ?_
        refine WA.goto (tgt := 20) dX9_ranAt_67 (by decide) ?_
        exact h
      · have h := h.2 hc
        refine WA.iconst dX9_ranAt_57 ⟨by decide, by decide⟩ ?_
        refine WA.goto (tgt := 62) dX9_ranAt_58 (by decide) ?_
        obtain ⟨s11, h⟩ := h
        refine WA.iadd dX9_ranAt_62 s11 ?_
        refine WA.istore_n (als' := [some (.inr (.inr 115)), some (.inl a1), some (.inl v2), some (.inl (v3 + 1)), some (.inl v4)]) dX9_ranAt_63 (Nat.le_of_ble_eq_true rfl) rfl ?_
        obtain ⟨s12, h⟩ := h
        refine WA.iinc (als' := [some (.inr (.inr 115)), some (.inl a1), some (.inl v2), some (.inl (v3 + 1)), some (.inl (v4 + 1))]) dX9_ranAt_64 rfl s12 rfl ?_
        refine WA.goto (tgt := 20) dX9_ranAt_67 (by decide) ?_
        exact h
set_option maxRecDepth 10000 in
theorem e_X9_ranAt {d : Nat} {w : Wd} {K : Int → Wd → Prop} {a1 : Int}  
    (h : ((0 ≤ a1 → W_X9_ranAt d 9 [some (.inr (.inr 115)), some (.inl a1), some (.inl 0), none, none] [] w K) ∧ (¬ (0 ≤ a1) → K (-2000000001) w))) :
    E_X9_ranAt d [.inr (.inr 115), .inl a1] w K := by
  refine EvA.of (by decide +kernel) (Nat.le_of_ble_eq_true rfl) ?_
  change W_X9_ranAt d 0 [some (.inr (.inr 115)), some (.inl a1), none, none, none] [] w K
  refine WA.iload_n dX9_ranAt_0 rfl ?_
  refine WA.if_ge (tgt := 7) dX9_ranAt_1 (by decide) (fun hc => ?_) (fun hc => ?_)
  · have h := h.1 hc
    refine WA.iconst dX9_ranAt_7 ⟨by decide, by decide⟩ ?_
    refine WA.istore_n (als' := [some (.inr (.inr 115)), some (.inl a1), some (.inl 0), none, none]) dX9_ranAt_8 (Nat.le_of_ble_eq_true rfl) rfl ?_
    exact h
  · have h := h.2 hc
    refine WA.ldc (v := (-2000000001)) (x := (-2000000001)) dX9_ranAt_4 (am_mem 902 (by decide +kernel) rfl) (by decide) ?_
    exact WA.ireturn dX9_ranAt_6 ⟨_, rfl, h⟩
set_option maxRecDepth 10000 in
theorem v_X9_changedAt_11 {d : Nat} {w : Wd} {K : Int → Wd → Prop} {a1 v2 v3 : Int}  
    (h : ((72 ≤ v3 → K (-2000000004) w) ∧ (¬ (72 ≤ v3) → (-2147483648 ≤ (2376 + v3) ∧ (2376 + v3) ≤ 2147483647) ∧ (0 ≤ (2376 + v3) ∧ (2376 + v3) < 2778) ∧ ((¬ (w 116 (2376 + v3)) = 1 → (-2147483648 ≤ (v3 + 1) ∧ (v3 + 1) ≤ 2147483647) ∧ W_X9_changedAt d 11 [some (.inr (.inr 115)), some (.inl a1), some (.inl v2), some (.inl (v3 + 1))] [] w K) ∧ ((w 116 (2376 + v3)) = 1 → ((¬ v2 = a1 → (-2147483648 ≤ (v2 + 1) ∧ (v2 + 1) ≤ 2147483647) ∧ (-2147483648 ≤ (v3 + 1) ∧ (v3 + 1) ≤ 2147483647) ∧ W_X9_changedAt d 11 [some (.inr (.inr 115)), some (.inl a1), some (.inl (v2 + 1)), some (.inl (v3 + 1))] [] w K) ∧ (v2 = a1 → K v3 w))))))) :
    W_X9_changedAt d 11 [some (.inr (.inr 115)), some (.inl a1), some (.inl v2), some (.inl v3)] [] w K := by
  refine WA.iload_n dX9_changedAt_11 rfl ?_
  refine WA.bipush dX9_changedAt_12 ⟨by decide, by decide⟩ ?_
  refine WA.icmp_ge (tgt := 47) dX9_changedAt_14 (by decide) (fun hc => ?_) (fun hc => ?_)
  · have h := h.1 hc
    refine WA.ldc (v := (-2000000004)) (x := (-2000000004)) dX9_changedAt_47 (am_mem 979 (by decide +kernel) rfl) (by decide) ?_
    exact WA.ireturn dX9_changedAt_49 ⟨_, rfl, h⟩
  · have h := h.2 hc
    refine WA.aload_n dX9_changedAt_17 rfl (by decide) ?_
    refine gxX9_7 rfl rfl dX9_changedAt_18 ob_115 ?_
    refine WA.sipush dX9_changedAt_21 ⟨by decide, by decide⟩ ?_
    refine WA.iload_n dX9_changedAt_24 rfl ?_
    obtain ⟨s1, h⟩ := h
    refine WA.iadd dX9_changedAt_25 s1 ?_
    obtain ⟨s2, h⟩ := h
    refine WA.iaload dX9_changedAt_26 ob_116 s2.1 s2.2 ?_
    refine WA.iconst dX9_changedAt_27 ⟨by decide, by decide⟩ ?_
    refine WA.icmp_ne (tgt := 41) dX9_changedAt_28 (by decide) (fun hc => ?_) (fun hc => ?_)
    · have h := h.1 hc
      obtain ⟨s3, h⟩ := h
      refine WA.iinc (als' := [some (.inr (.inr 115)), some (.inl a1), some (.inl v2), some (.inl (v3 + 1))]) dX9_changedAt_41 rfl s3 rfl ?_
      refine WA.goto (tgt := 11) dX9_changedAt_44 (by decide) ?_
      exact h
    · have h := h.2 hc
      refine WA.iload_n dX9_changedAt_31 rfl ?_
      refine WA.iload_n dX9_changedAt_32 rfl ?_
      refine WA.icmp_ne (tgt := 38) dX9_changedAt_33 (by decide) (fun hc => ?_) (fun hc => ?_)
      · have h := h.1 hc
        obtain ⟨s4, h⟩ := h
        refine WA.iinc (als' := [some (.inr (.inr 115)), some (.inl a1), some (.inl (v2 + 1)), some (.inl v3)]) dX9_changedAt_38 rfl s4 rfl ?_
        obtain ⟨s5, h⟩ := h
        refine WA.iinc (als' := [some (.inr (.inr 115)), some (.inl a1), some (.inl (v2 + 1)), some (.inl (v3 + 1))]) dX9_changedAt_41 rfl s5 rfl ?_
        refine WA.goto (tgt := 11) dX9_changedAt_44 (by decide) ?_
        exact h
      · have h := h.2 hc
        refine WA.iload_n dX9_changedAt_36 rfl ?_
        exact WA.ireturn dX9_changedAt_37 ⟨_, rfl, h⟩
set_option maxRecDepth 10000 in
theorem e_X9_changedAt {d : Nat} {w : Wd} {K : Int → Wd → Prop} {a1 : Int}  
    (h : ((0 ≤ a1 → W_X9_changedAt d 11 [some (.inr (.inr 115)), some (.inl a1), some (.inl 0), some (.inl 0)] [] w K) ∧ (¬ (0 ≤ a1) → K (-2000000001) w))) :
    E_X9_changedAt d [.inr (.inr 115), .inl a1] w K := by
  refine EvA.of (by decide +kernel) (Nat.le_of_ble_eq_true rfl) ?_
  change W_X9_changedAt d 0 [some (.inr (.inr 115)), some (.inl a1), none, none] [] w K
  refine WA.iload_n dX9_changedAt_0 rfl ?_
  refine WA.if_ge (tgt := 7) dX9_changedAt_1 (by decide) (fun hc => ?_) (fun hc => ?_)
  · have h := h.1 hc
    refine WA.iconst dX9_changedAt_7 ⟨by decide, by decide⟩ ?_
    refine WA.istore_n (als' := [some (.inr (.inr 115)), some (.inl a1), some (.inl 0), none]) dX9_changedAt_8 (Nat.le_of_ble_eq_true rfl) rfl ?_
    refine WA.iconst dX9_changedAt_9 ⟨by decide, by decide⟩ ?_
    refine WA.istore_n (als' := [some (.inr (.inr 115)), some (.inl a1), some (.inl 0), some (.inl 0)]) dX9_changedAt_10 (Nat.le_of_ble_eq_true rfl) rfl ?_
    exact h
  · have h := h.2 hc
    refine WA.ldc (v := (-2000000001)) (x := (-2000000001)) dX9_changedAt_4 (am_mem 902 (by decide +kernel) rfl) (by decide) ?_
    exact WA.ireturn dX9_changedAt_6 ⟨_, rfl, h⟩
set_option maxRecDepth 10000 in
theorem e_X9_cause {d : Nat} {w : Wd} {K : Int → Wd → Prop} {a1 : Int}  
    (h : C_X9_isCell d [.inl a1] w (fun x1 w1 => ((¬ x1 = 0 → (-2147483648 ≤ (2304 + a1) ∧ (2304 + a1) ≤ 2147483647) ∧ (0 ≤ (2304 + a1) ∧ (2304 + a1) < 2778) ∧ ((¬ (w1 116 (2304 + a1)) = 1 → K (-2000000004) w1) ∧ ((w1 116 (2304 + a1)) = 1 → (-2147483648 ≤ (2448 + a1) ∧ (2448 + a1) ≤ 2147483647) ∧ (0 ≤ (2448 + a1) ∧ (2448 + a1) < 2778) ∧ K (w1 116 (2448 + a1)) w1))) ∧ (x1 = 0 → K (-2000000001) w1)))) :
    E_X9_cause d [.inr (.inr 115), .inl a1] w K := by
  refine EvA.of (by decide +kernel) (Nat.le_of_ble_eq_true rfl) ?_
  change W_X9_cause d 0 [some (.inr (.inr 115)), some (.inl a1)] [] w K
  refine WA.iload_n dX9_cause_0 rfl ?_
  obtain ⟨d1, hd1, h⟩ := h
  refine WA.callS1 (kc := 0) (ks := 0) (kc' := 0) (ks' := 0) dX9_cause_1 lkX9_210 rfl rfl rfl (Nat.le_of_ble_eq_true rfl) hd1 h (fun r w1 hK => ?_)
  obtain ⟨x1, rfl, h⟩ := hK
  change WA _ _ _ _ _ _ _ _ _ _ _ [.inl x1] _ _
  refine WA.if_ne (tgt := 12) dX9_cause_4 (by decide) (fun hc => ?_) (fun hc => ?_)
  · have h := h.1 hc
    refine WA.aload_n dX9_cause_12 rfl (by decide) ?_
    refine gxX9_7 rfl rfl dX9_cause_13 ob_115 ?_
    refine WA.sipush dX9_cause_16 ⟨by decide, by decide⟩ ?_
    refine WA.iload_n dX9_cause_19 rfl ?_
    obtain ⟨s1, h⟩ := h
    refine WA.iadd dX9_cause_20 s1 ?_
    obtain ⟨s2, h⟩ := h
    refine WA.iaload dX9_cause_21 ob_116 s2.1 s2.2 ?_
    refine WA.iconst dX9_cause_22 ⟨by decide, by decide⟩ ?_
    refine WA.icmp_ne (tgt := 39) dX9_cause_23 (by decide) (fun hc => ?_) (fun hc => ?_)
    · have h := h.1 hc
      refine WA.ldc (v := (-2000000004)) (x := (-2000000004)) dX9_cause_39 (am_mem 979 (by decide +kernel) rfl) (by decide) ?_
      exact WA.ireturn dX9_cause_41 ⟨_, rfl, h⟩
    · have h := h.2 hc
      refine WA.aload_n dX9_cause_26 rfl (by decide) ?_
      refine gxX9_7 rfl rfl dX9_cause_27 ob_115 ?_
      refine WA.sipush dX9_cause_30 ⟨by decide, by decide⟩ ?_
      refine WA.iload_n dX9_cause_33 rfl ?_
      obtain ⟨s3, h⟩ := h
      refine WA.iadd dX9_cause_34 s3 ?_
      obtain ⟨s4, h⟩ := h
      refine WA.iaload dX9_cause_35 ob_116 s4.1 s4.2 ?_
      refine WA.goto (tgt := 41) dX9_cause_36 (by decide) ?_
      exact WA.ireturn dX9_cause_41 ⟨_, rfl, h⟩
  · have h := h.2 hc
    refine WA.ldc (v := (-2000000001)) (x := (-2000000001)) dX9_cause_7 (am_mem 902 (by decide +kernel) rfl) (by decide) ?_
    refine WA.goto (tgt := 41) dX9_cause_9 (by decide) ?_
    exact WA.ireturn dX9_cause_41 ⟨_, rfl, h⟩
set_option maxRecDepth 10000 in
theorem v_X9_chainAt_16 {d : Nat} {w : Wd} {K : Int → Wd → Prop} {a1 a2 v3 : Int}  
    (h : ((72 ≤ v3 → W_X9_chainAt d 57 [some (.inr (.inr 115)), some (.inl a1), some (.inl a2), some (.inl a1), some (.inl 0)] [] w K) ∧ (¬ (72 ≤ v3) → (-2147483648 ≤ (2304 + v3) ∧ (2304 + v3) ≤ 2147483647) ∧ (0 ≤ (2304 + v3) ∧ (2304 + v3) < 2778) ∧ ((¬ (w 116 (2304 + v3)) = 0 → (0 ≤ v3 ∧ v3 < 72) ∧ (∀ w1, w1 = wset w 143 v3 0 → (-2147483648 ≤ (v3 + 1) ∧ (v3 + 1) ≤ 2147483647) ∧ W_X9_chainAt d 16 [some (.inr (.inr 115)), some (.inl a1), some (.inl a2), some (.inl (v3 + 1)), none] [] w1 K)) ∧ ((w 116 (2304 + v3)) = 0 → (0 ≤ v3 ∧ v3 < 72) ∧ (∀ w2, w2 = wset w 143 v3 1 → (-2147483648 ≤ (v3 + 1) ∧ (v3 + 1) ≤ 2147483647) ∧ W_X9_chainAt d 16 [some (.inr (.inr 115)), some (.inl a1), some (.inl a2), some (.inl (v3 + 1)), none] [] w2 K)))))) :
    W_X9_chainAt d 16 [some (.inr (.inr 115)), some (.inl a1), some (.inl a2), some (.inl v3), none] [] w K := by
  refine WA.iload_n dX9_chainAt_16 rfl ?_
  refine WA.bipush dX9_chainAt_17 ⟨by decide, by decide⟩ ?_
  refine WA.icmp_ge (tgt := 52) dX9_chainAt_19 (by decide) (fun hc => ?_) (fun hc => ?_)
  · have h := h.1 hc
    refine WA.iload_n dX9_chainAt_52 rfl ?_
    refine WA.istore_n (als' := [some (.inr (.inr 115)), some (.inl a1), some (.inl a2), some (.inl a1), none]) dX9_chainAt_53 (Nat.le_of_ble_eq_true rfl) rfl ?_
    refine WA.iconst dX9_chainAt_54 ⟨by decide, by decide⟩ ?_
    refine WA.istore (als' := [some (.inr (.inr 115)), some (.inl a1), some (.inl a2), some (.inl a1), some (.inl 0)]) dX9_chainAt_55 (Nat.le_of_ble_eq_true rfl) rfl ?_
    exact h
  · have h := h.2 hc
    refine WA.aload_n dX9_chainAt_22 rfl (by decide) ?_
    refine gxX9_101 rfl rfl dX9_chainAt_23 ob_115 ?_
    refine WA.iload_n dX9_chainAt_26 rfl ?_
    refine WA.aload_n dX9_chainAt_27 rfl (by decide) ?_
    refine gxX9_7 rfl rfl dX9_chainAt_28 ob_115 ?_
    refine WA.sipush dX9_chainAt_31 ⟨by decide, by decide⟩ ?_
    refine WA.iload_n dX9_chainAt_34 rfl ?_
    obtain ⟨s1, h⟩ := h
    refine WA.iadd dX9_chainAt_35 s1 ?_
    obtain ⟨s2, h⟩ := h
    refine WA.iaload dX9_chainAt_36 ob_116 s2.1 s2.2 ?_
    refine WA.if_ne (tgt := 44) dX9_chainAt_37 (by decide) (fun hc => ?_) (fun hc => ?_)
    · have h := h.1 hc
      refine WA.iconst dX9_chainAt_44 ⟨by decide, by decide⟩ ?_
      obtain ⟨s3, h⟩ := h
      obtain ⟨w1, qw1⟩ : ∃ z, z = wset w 143 v3 0 := ⟨_, rfl⟩
      have h := h w1 qw1
      refine WA.zastore dX9_chainAt_45 ob_143 s3.1 s3.2 (by decide) ?_
      rw [← qw1]
      obtain ⟨s4, h⟩ := h
      refine WA.iinc (als' := [some (.inr (.inr 115)), some (.inl a1), some (.inl a2), some (.inl (v3 + 1)), none]) dX9_chainAt_46 rfl s4 rfl ?_
      refine WA.goto (tgt := 16) dX9_chainAt_49 (by decide) ?_
      exact h
    · have h := h.2 hc
      refine WA.iconst dX9_chainAt_40 ⟨by decide, by decide⟩ ?_
      refine WA.goto (tgt := 45) dX9_chainAt_41 (by decide) ?_
      obtain ⟨s5, h⟩ := h
      obtain ⟨w2, qw2⟩ : ∃ z, z = wset w 143 v3 1 := ⟨_, rfl⟩
      have h := h w2 qw2
      refine WA.zastore dX9_chainAt_45 ob_143 s5.1 s5.2 (by decide) ?_
      rw [← qw2]
      obtain ⟨s6, h⟩ := h
      refine WA.iinc (als' := [some (.inr (.inr 115)), some (.inl a1), some (.inl a2), some (.inl (v3 + 1)), none]) dX9_chainAt_46 rfl s6 rfl ?_
      refine WA.goto (tgt := 16) dX9_chainAt_49 (by decide) ?_
      exact h
set_option maxRecDepth 10000 in
theorem v_X9_chainAt_57 {d : Nat} {w : Wd} {K : Int → Wd → Prop} {a1 a2 v3 v4 : Int}  
    (h : (0 ≤ v3 ∧ v3 < 72) ∧ ((¬ (w 143 v3) = 0 → K (-2000000004) w) ∧ ((w 143 v3) = 0 → ((¬ v4 = a2 → (0 ≤ v3 ∧ v3 < 72) ∧ (∀ w1, w1 = wset w 143 v3 1 → (-2147483648 ≤ (2448 + v3) ∧ (2448 + v3) ≤ 2147483647) ∧ (0 ≤ (2448 + v3) ∧ (2448 + v3) < 2778) ∧ (-2147483648 ≤ (v4 + 1) ∧ (v4 + 1) ≤ 2147483647) ∧ W_X9_chainAt d 57 [some (.inr (.inr 115)), some (.inl a1), some (.inl a2), some (.inl (w1 116 (2448 + v3))), some (.inl (v4 + 1))] [] w1 K)) ∧ (v4 = a2 → K v3 w))))) :
    W_X9_chainAt d 57 [some (.inr (.inr 115)), some (.inl a1), some (.inl a2), some (.inl v3), some (.inl v4)] [] w K := by
  refine WA.aload_n dX9_chainAt_57 rfl (by decide) ?_
  refine gxX9_101 rfl rfl dX9_chainAt_58 ob_115 ?_
  refine WA.iload_n dX9_chainAt_61 rfl ?_
  obtain ⟨s1, h⟩ := h
  refine WA.zaload dX9_chainAt_62 ob_143 s1.1 s1.2 ?_
  refine WA.if_ne (tgt := 98) dX9_chainAt_63 (by decide) (fun hc => ?_) (fun hc => ?_)
  · have h := h.1 hc
    refine WA.ldc (v := (-2000000004)) (x := (-2000000004)) dX9_chainAt_98 (am_mem 979 (by decide +kernel) rfl) (by decide) ?_
    exact WA.ireturn dX9_chainAt_100 ⟨_, rfl, h⟩
  · have h := h.2 hc
    refine WA.iload dX9_chainAt_66 rfl ?_
    refine WA.iload_n dX9_chainAt_68 rfl ?_
    refine WA.icmp_ne (tgt := 74) dX9_chainAt_69 (by decide) (fun hc => ?_) (fun hc => ?_)
    · have h := h.1 hc
      refine WA.aload_n dX9_chainAt_74 rfl (by decide) ?_
      refine gxX9_101 rfl rfl dX9_chainAt_75 ob_115 ?_
      refine WA.iload_n dX9_chainAt_78 rfl ?_
      refine WA.iconst dX9_chainAt_79 ⟨by decide, by decide⟩ ?_
      obtain ⟨s2, h⟩ := h
      obtain ⟨w1, qw1⟩ : ∃ z, z = wset w 143 v3 1 := ⟨_, rfl⟩
      have h := h w1 qw1
      refine WA.zastore dX9_chainAt_80 ob_143 s2.1 s2.2 (by decide) ?_
      rw [← qw1]
      refine WA.aload_n dX9_chainAt_81 rfl (by decide) ?_
      refine gxX9_7 rfl rfl dX9_chainAt_82 ob_115 ?_
      refine WA.sipush dX9_chainAt_85 ⟨by decide, by decide⟩ ?_
      refine WA.iload_n dX9_chainAt_88 rfl ?_
      obtain ⟨s3, h⟩ := h
      refine WA.iadd dX9_chainAt_89 s3 ?_
      obtain ⟨s4, h⟩ := h
      refine WA.iaload dX9_chainAt_90 ob_116 s4.1 s4.2 ?_
      refine WA.istore_n (als' := [some (.inr (.inr 115)), some (.inl a1), some (.inl a2), some (.inl (w1 116 (2448 + v3))), some (.inl v4)]) dX9_chainAt_91 (Nat.le_of_ble_eq_true rfl) rfl ?_
      obtain ⟨s5, h⟩ := h
      refine WA.iinc (als' := [some (.inr (.inr 115)), some (.inl a1), some (.inl a2), some (.inl (w1 116 (2448 + v3))), some (.inl (v4 + 1))]) dX9_chainAt_92 rfl s5 rfl ?_
      refine WA.goto (tgt := 57) dX9_chainAt_95 (by decide) ?_
      exact h
    · have h := h.2 hc
      refine WA.iload_n dX9_chainAt_72 rfl ?_
      exact WA.ireturn dX9_chainAt_73 ⟨_, rfl, h⟩
set_option maxRecDepth 10000 in
theorem e_X9_chainAt {d : Nat} {w : Wd} {K : Int → Wd → Prop} {a1 a2 : Int}  
    (h : C_X9_isCell d [.inl a1] w (fun x1 w1 => ((x1 = 0 → K (-2000000001) w1) ∧ (¬ x1 = 0 → ((0 ≤ a2 → W_X9_chainAt d 16 [some (.inr (.inr 115)), some (.inl a1), some (.inl a2), some (.inl 0), none] [] w1 K) ∧ (¬ (0 ≤ a2) → K (-2000000001) w1)))))) :
    E_X9_chainAt d [.inr (.inr 115), .inl a1, .inl a2] w K := by
  refine EvA.of (by decide +kernel) (Nat.le_of_ble_eq_true rfl) ?_
  change W_X9_chainAt d 0 [some (.inr (.inr 115)), some (.inl a1), some (.inl a2), none, none] [] w K
  refine WA.iload_n dX9_chainAt_0 rfl ?_
  obtain ⟨d1, hd1, h⟩ := h
  refine WA.callS1 (kc := 0) (ks := 0) (kc' := 0) (ks' := 0) dX9_chainAt_1 lkX9_210 rfl rfl rfl (Nat.le_of_ble_eq_true rfl) hd1 h (fun r w1 hK => ?_)
  obtain ⟨x1, rfl, h⟩ := hK
  change WA _ _ _ _ _ _ _ _ _ _ _ [.inl x1] _ _
  refine WA.if_eq (tgt := 11) dX9_chainAt_4 (by decide) (fun hc => ?_) (fun hc => ?_)
  · have h := h.1 hc
    refine WA.ldc (v := (-2000000001)) (x := (-2000000001)) dX9_chainAt_11 (am_mem 902 (by decide +kernel) rfl) (by decide) ?_
    exact WA.ireturn dX9_chainAt_13 ⟨_, rfl, h⟩
  · have h := h.2 hc
    refine WA.iload_n dX9_chainAt_7 rfl ?_
    refine WA.if_ge (tgt := 14) dX9_chainAt_8 (by decide) (fun hc => ?_) (fun hc => ?_)
    · have h := h.1 hc
      refine WA.iconst dX9_chainAt_14 ⟨by decide, by decide⟩ ?_
      refine WA.istore_n (als' := [some (.inr (.inr 115)), some (.inl a1), some (.inl a2), some (.inl 0), none]) dX9_chainAt_15 (Nat.le_of_ble_eq_true rfl) rfl ?_
      exact h
    · have h := h.2 hc
      refine WA.ldc (v := (-2000000001)) (x := (-2000000001)) dX9_chainAt_11 (am_mem 902 (by decide +kernel) rfl) (by decide) ?_
      exact WA.ireturn dX9_chainAt_13 ⟨_, rfl, h⟩
set_option maxRecDepth 10000 in
theorem e_X9_whatIf {d : Nat} {w : Wd} {K : Int → Wd → Prop} {a1 a2 a3 : Int}  
    (h : C_X9_isCell d [.inl a1] w (fun x1 w1 => ((x1 = 0 → K (-2000000001) w1) ∧ (¬ x1 = 0 → C_X9_in d [.inl a2, .inl (-999999), .inl 999999] w1 (fun x2 w2 => ((x2 = 0 → K (-2000000001) w2) ∧ (¬ x2 = 0 → C_X9_isCell d [.inl a3] w2 (fun x3 w3 => ((¬ x3 = 0 → (∀ w4, w4 = wset w3 115 42 a1 → (∀ w5, w5 = wset w4 115 43 a2 → C_X9_settles d [.inr (.inr 115)] w5 (fun w6 => (0 ≤ a3 ∧ a3 < 72) ∧ (((w6 120 a3) ≤ 0 → (0 ≤ a3 ∧ a3 < 72) ∧ (∀ w7, w7 = wset w6 115 42 (-1) → C_X9_settles d [.inr (.inr 115)] w7 (fun w8 => K (w6 119 a3) w8))) ∧ (¬ ((w6 120 a3) ≤ 0) → (∀ w9, w9 = wset w6 115 42 (-1) → C_X9_settles d [.inr (.inr 115)] w9 (fun w10 => K (-2000000004) w10)))))))) ∧ (x3 = 0 → K (-2000000001) w3)))))))))) :
    E_X9_whatIf d [.inr (.inr 115), .inl a1, .inl a2, .inl a3] w K := by
  refine EvA.of (by decide +kernel) (Nat.le_of_ble_eq_true rfl) ?_
  change W_X9_whatIf d 0 [some (.inr (.inr 115)), some (.inl a1), some (.inl a2), some (.inl a3), none] [] w K
  refine WA.iload_n dX9_whatIf_0 rfl ?_
  obtain ⟨d1, hd1, h⟩ := h
  refine WA.callS1 (kc := 0) (ks := 0) (kc' := 0) (ks' := 0) dX9_whatIf_1 lkX9_210 rfl rfl rfl (Nat.le_of_ble_eq_true rfl) hd1 h (fun r w1 hK => ?_)
  obtain ⟨x1, rfl, h⟩ := hK
  change WA _ _ _ _ _ _ _ _ _ _ _ [.inl x1] _ _
  refine WA.if_eq (tgt := 27) dX9_whatIf_4 (by decide) (fun hc => ?_) (fun hc => ?_)
  · have h := h.1 hc
    refine WA.ldc (v := (-2000000001)) (x := (-2000000001)) dX9_whatIf_27 (am_mem 902 (by decide +kernel) rfl) (by decide) ?_
    exact WA.ireturn dX9_whatIf_29 ⟨_, rfl, h⟩
  · have h := h.2 hc
    refine WA.iload_n dX9_whatIf_7 rfl ?_
    refine WA.ldc_w (v := (-999999)) (x := (-999999)) dX9_whatIf_8 (am_mem 1233 (by decide +kernel) rfl) (by decide) ?_
    refine WA.ldc_w (v := 999999) (x := 999999) dX9_whatIf_11 (am_mem 1234 (by decide +kernel) rfl) (by decide) ?_
    obtain ⟨d1, hd1, h⟩ := h
    refine WA.callS3 (kc := 0) (ks := 0) (kc' := 0) (ks' := 0) dX9_whatIf_14 lkX9_104 rfl rfl rfl (Nat.le_of_ble_eq_true rfl) hd1 h (fun r w2 hK => ?_)
    obtain ⟨x2, rfl, h⟩ := hK
    change WA _ _ _ _ _ _ _ _ _ _ _ [.inl x2] _ _
    refine WA.if_eq (tgt := 27) dX9_whatIf_17 (by decide) (fun hc => ?_) (fun hc => ?_)
    · have h := h.1 hc
      refine WA.ldc (v := (-2000000001)) (x := (-2000000001)) dX9_whatIf_27 (am_mem 902 (by decide +kernel) rfl) (by decide) ?_
      exact WA.ireturn dX9_whatIf_29 ⟨_, rfl, h⟩
    · have h := h.2 hc
      refine WA.iload_n dX9_whatIf_20 rfl ?_
      obtain ⟨d1, hd1, h⟩ := h
      refine WA.callS1 (kc := 0) (ks := 0) (kc' := 0) (ks' := 0) dX9_whatIf_21 lkX9_210 rfl rfl rfl (Nat.le_of_ble_eq_true rfl) hd1 h (fun r w3 hK => ?_)
      obtain ⟨x3, rfl, h⟩ := hK
      change WA _ _ _ _ _ _ _ _ _ _ _ [.inl x3] _ _
      refine WA.if_ne (tgt := 30) dX9_whatIf_24 (by decide) (fun hc => ?_) (fun hc => ?_)
      · have h := h.1 hc
        refine WA.aload_n dX9_whatIf_30 rfl (by decide) ?_
        refine WA.iload_n dX9_whatIf_31 rfl ?_
        obtain ⟨w4, qw4⟩ : ∃ z, z = wset w3 115 42 a1 := ⟨_, rfl⟩
        have h := h w4 qw4
        refine pfX9_97 rfl dX9_whatIf_32 ob_115 ?_
        rw [← qw4]
        refine WA.aload_n dX9_whatIf_35 rfl (by decide) ?_
        refine WA.iload_n dX9_whatIf_36 rfl ?_
        obtain ⟨w5, qw5⟩ : ∃ z, z = wset w4 115 43 a2 := ⟨_, rfl⟩
        have h := h w5 qw5
        refine pfX9_339 rfl dX9_whatIf_37 ob_115 ?_
        rw [← qw5]
        refine WA.aload_n dX9_whatIf_40 rfl (by decide) ?_
        obtain ⟨d1, hd1, h⟩ := h
        refine WA.callV0 (kc := 0) (ks := 0) (kc' := 0) (ks' := 0) dX9_whatIf_41 lkX9_369 rfl rfl rfl ob_115 rfl (Nat.le_of_ble_eq_true rfl) hd1 h (fun r w6 hK => ?_)
        obtain ⟨rfl, h⟩ := hK
        change WA _ _ _ _ _ _ _ _ _ _ _ [] _ _
        refine WA.aload_n dX9_whatIf_44 rfl (by decide) ?_
        refine gxX9_22 rfl rfl dX9_whatIf_45 ob_115 ?_
        refine WA.iload_n dX9_whatIf_48 rfl ?_
        obtain ⟨s1, h⟩ := h
        refine WA.iaload dX9_whatIf_49 ob_120 s1.1 s1.2 ?_
        refine WA.if_le (tgt := 58) dX9_whatIf_50 (by decide) (fun hc => ?_) (fun hc => ?_)
        · have h := h.1 hc
          refine WA.aload_n dX9_whatIf_58 rfl (by decide) ?_
          refine gxX9_19 rfl rfl dX9_whatIf_59 ob_115 ?_
          refine WA.iload_n dX9_whatIf_62 rfl ?_
          obtain ⟨s2, h⟩ := h
          refine WA.iaload dX9_whatIf_63 ob_119 s2.1 s2.2 ?_
          refine WA.istore (als' := [some (.inr (.inr 115)), some (.inl a1), some (.inl a2), some (.inl a3), some (.inl (w6 119 a3))]) dX9_whatIf_64 (Nat.le_of_ble_eq_true rfl) rfl ?_
          refine WA.aload_n dX9_whatIf_66 rfl (by decide) ?_
          refine WA.iconst dX9_whatIf_67 ⟨by decide, by decide⟩ ?_
          obtain ⟨w7, qw7⟩ : ∃ z, z = wset w6 115 42 (-1) := ⟨_, rfl⟩
          have h := h w7 qw7
          refine pfX9_97 rfl dX9_whatIf_68 ob_115 ?_
          rw [← qw7]
          refine WA.aload_n dX9_whatIf_71 rfl (by decide) ?_
          obtain ⟨d1, hd1, h⟩ := h
          refine WA.callV0 (kc := 0) (ks := 0) (kc' := 0) (ks' := 0) dX9_whatIf_72 lkX9_369 rfl rfl rfl ob_115 rfl (Nat.le_of_ble_eq_true rfl) hd1 h (fun r w8 hK => ?_)
          obtain ⟨rfl, h⟩ := hK
          change WA _ _ _ _ _ _ _ _ _ _ _ [] _ _
          refine WA.iload dX9_whatIf_75 rfl ?_
          exact WA.ireturn dX9_whatIf_77 ⟨_, rfl, h⟩
        · have h := h.2 hc
          refine WA.ldc (v := (-2000000004)) (x := (-2000000004)) dX9_whatIf_53 (am_mem 979 (by decide +kernel) rfl) (by decide) ?_
          refine WA.goto (tgt := 64) dX9_whatIf_55 (by decide) ?_
          refine WA.istore (als' := [some (.inr (.inr 115)), some (.inl a1), some (.inl a2), some (.inl a3), some (.inl (-2000000004))]) dX9_whatIf_64 (Nat.le_of_ble_eq_true rfl) rfl ?_
          refine WA.aload_n dX9_whatIf_66 rfl (by decide) ?_
          refine WA.iconst dX9_whatIf_67 ⟨by decide, by decide⟩ ?_
          obtain ⟨w9, qw9⟩ : ∃ z, z = wset w6 115 42 (-1) := ⟨_, rfl⟩
          have h := h w9 qw9
          refine pfX9_97 rfl dX9_whatIf_68 ob_115 ?_
          rw [← qw9]
          refine WA.aload_n dX9_whatIf_71 rfl (by decide) ?_
          obtain ⟨d1, hd1, h⟩ := h
          refine WA.callV0 (kc := 0) (ks := 0) (kc' := 0) (ks' := 0) dX9_whatIf_72 lkX9_369 rfl rfl rfl ob_115 rfl (Nat.le_of_ble_eq_true rfl) hd1 h (fun r w10 hK => ?_)
          obtain ⟨rfl, h⟩ := hK
          change WA _ _ _ _ _ _ _ _ _ _ _ [] _ _
          refine WA.iload dX9_whatIf_75 rfl ?_
          exact WA.ireturn dX9_whatIf_77 ⟨_, rfl, h⟩
      · have h := h.2 hc
        refine WA.ldc (v := (-2000000001)) (x := (-2000000001)) dX9_whatIf_27 (am_mem 902 (by decide +kernel) rfl) (by decide) ?_
        exact WA.ireturn dX9_whatIf_29 ⟨_, rfl, h⟩
set_option maxRecDepth 10000 in
theorem v_X9_inAll_4 {d : Nat} {w : Wd} {K : Int → Wd → Prop} {a1 v2 v3 : Int}  
    (h : ((72 ≤ v3 → K v2 w) ∧ (¬ (72 ≤ v3) → (-2147483648 ≤ (a1 + v3) ∧ (a1 + v3) ≤ 2147483647) ∧ (0 ≤ (a1 + v3) ∧ (a1 + v3) < 2778) ∧ (-2147483648 ≤ (v2 + (w 116 (a1 + v3))) ∧ (v2 + (w 116 (a1 + v3))) ≤ 2147483647) ∧ (-2147483648 ≤ (v3 + 1) ∧ (v3 + 1) ≤ 2147483647) ∧ W_X9_inAll d 4 [some (.inr (.inr 115)), some (.inl a1), some (.inl (v2 + (w 116 (a1 + v3)))), some (.inl (v3 + 1))] [] w K))) :
    W_X9_inAll d 4 [some (.inr (.inr 115)), some (.inl a1), some (.inl v2), some (.inl v3)] [] w K := by
  refine WA.iload_n dX9_inAll_4 rfl ?_
  refine WA.bipush dX9_inAll_5 ⟨by decide, by decide⟩ ?_
  refine WA.icmp_ge (tgt := 27) dX9_inAll_7 (by decide) (fun hc => ?_) (fun hc => ?_)
  · have h := h.1 hc
    refine WA.iload_n dX9_inAll_27 rfl ?_
    exact WA.ireturn dX9_inAll_28 ⟨_, rfl, h⟩
  · have h := h.2 hc
    refine WA.iload_n dX9_inAll_10 rfl ?_
    refine WA.aload_n dX9_inAll_11 rfl (by decide) ?_
    refine gxX9_7 rfl rfl dX9_inAll_12 ob_115 ?_
    refine WA.iload_n dX9_inAll_15 rfl ?_
    refine WA.iload_n dX9_inAll_16 rfl ?_
    obtain ⟨s1, h⟩ := h
    refine WA.iadd dX9_inAll_17 s1 ?_
    obtain ⟨s2, h⟩ := h
    refine WA.iaload dX9_inAll_18 ob_116 s2.1 s2.2 ?_
    obtain ⟨s3, h⟩ := h
    refine WA.iadd dX9_inAll_19 s3 ?_
    refine WA.istore_n (als' := [some (.inr (.inr 115)), some (.inl a1), some (.inl (v2 + (w 116 (a1 + v3)))), some (.inl v3)]) dX9_inAll_20 (Nat.le_of_ble_eq_true rfl) rfl ?_
    obtain ⟨s4, h⟩ := h
    refine WA.iinc (als' := [some (.inr (.inr 115)), some (.inl a1), some (.inl (v2 + (w 116 (a1 + v3)))), some (.inl (v3 + 1))]) dX9_inAll_21 rfl s4 rfl ?_
    refine WA.goto (tgt := 4) dX9_inAll_24 (by decide) ?_
    exact h
set_option maxRecDepth 10000 in
theorem e_X9_inAll {d : Nat} {w : Wd} {K : Int → Wd → Prop} {a1 : Int}  
    (h : W_X9_inAll d 4 [some (.inr (.inr 115)), some (.inl a1), some (.inl 0), some (.inl 0)] [] w K) :
    E_X9_inAll d [.inr (.inr 115), .inl a1] w K := by
  refine EvA.of (by decide +kernel) (Nat.le_of_ble_eq_true rfl) ?_
  change W_X9_inAll d 0 [some (.inr (.inr 115)), some (.inl a1), none, none] [] w K
  refine WA.iconst dX9_inAll_0 ⟨by decide, by decide⟩ ?_
  refine WA.istore_n (als' := [some (.inr (.inr 115)), some (.inl a1), some (.inl 0), none]) dX9_inAll_1 (Nat.le_of_ble_eq_true rfl) rfl ?_
  refine WA.iconst dX9_inAll_2 ⟨by decide, by decide⟩ ?_
  refine WA.istore_n (als' := [some (.inr (.inr 115)), some (.inl a1), some (.inl 0), some (.inl 0)]) dX9_inAll_3 (Nat.le_of_ble_eq_true rfl) rfl ?_
  exact h
set_option maxRecDepth 10000 in
theorem v_X9_formulas_4 {d : Nat} {w : Wd} {K : Int → Wd → Prop} {v1 v2 : Int}  
    (h : ((72 ≤ v2 → K v1 w) ∧ (¬ (72 ≤ v2) → C_X9_isEmpty d [.inr (.inr 115), .inl v2] w (fun x1 w1 => ((x1 = 0 → (-2147483648 ≤ (v1 + 1) ∧ (v1 + 1) ≤ 2147483647) ∧ (-2147483648 ≤ (v2 + 1) ∧ (v2 + 1) ≤ 2147483647) ∧ W_X9_formulas d 4 [some (.inr (.inr 115)), some (.inl (v1 + 1)), some (.inl (v2 + 1))] [] w1 K) ∧ (¬ x1 = 0 → (-2147483648 ≤ (v1 + 0) ∧ (v1 + 0) ≤ 2147483647) ∧ (-2147483648 ≤ (v2 + 1) ∧ (v2 + 1) ≤ 2147483647) ∧ W_X9_formulas d 4 [some (.inr (.inr 115)), some (.inl (v1 + 0)), some (.inl (v2 + 1))] [] w1 K)))))) :
    W_X9_formulas d 4 [some (.inr (.inr 115)), some (.inl v1), some (.inl v2)] [] w K := by
  refine WA.iload_n dX9_formulas_4 rfl ?_
  refine WA.bipush dX9_formulas_5 ⟨by decide, by decide⟩ ?_
  refine WA.icmp_ge (tgt := 32) dX9_formulas_7 (by decide) (fun hc => ?_) (fun hc => ?_)
  · have h := h.1 hc
    refine WA.iload_n dX9_formulas_32 rfl ?_
    exact WA.ireturn dX9_formulas_33 ⟨_, rfl, h⟩
  · have h := h.2 hc
    refine WA.iload_n dX9_formulas_10 rfl ?_
    refine WA.aload_n dX9_formulas_11 rfl (by decide) ?_
    refine WA.iload_n dX9_formulas_12 rfl ?_
    obtain ⟨d1, hd1, h⟩ := h
    refine WA.callV1 (kc := 0) (ks := 0) (kc' := 0) (ks' := 0) dX9_formulas_13 lkX9_281 rfl rfl rfl ob_115 rfl (Nat.le_of_ble_eq_true rfl) hd1 h (fun r w1 hK => ?_)
    obtain ⟨x1, rfl, h⟩ := hK
    change WA _ _ _ _ _ _ _ _ _ _ _ [.inl x1, .inl v1] _ _
    refine WA.if_eq (tgt := 23) dX9_formulas_16 (by decide) (fun hc => ?_) (fun hc => ?_)
    · have h := h.1 hc
      refine WA.iconst dX9_formulas_23 ⟨by decide, by decide⟩ ?_
      obtain ⟨s1, h⟩ := h
      refine WA.iadd dX9_formulas_24 s1 ?_
      refine WA.istore_n (als' := [some (.inr (.inr 115)), some (.inl (v1 + 1)), some (.inl v2)]) dX9_formulas_25 (Nat.le_of_ble_eq_true rfl) rfl ?_
      obtain ⟨s2, h⟩ := h
      refine WA.iinc (als' := [some (.inr (.inr 115)), some (.inl (v1 + 1)), some (.inl (v2 + 1))]) dX9_formulas_26 rfl s2 rfl ?_
      refine WA.goto (tgt := 4) dX9_formulas_29 (by decide) ?_
      exact h
    · have h := h.2 hc
      refine WA.iconst dX9_formulas_19 ⟨by decide, by decide⟩ ?_
      refine WA.goto (tgt := 24) dX9_formulas_20 (by decide) ?_
      obtain ⟨s3, h⟩ := h
      refine WA.iadd dX9_formulas_24 s3 ?_
      refine WA.istore_n (als' := [some (.inr (.inr 115)), some (.inl (v1 + 0)), some (.inl v2)]) dX9_formulas_25 (Nat.le_of_ble_eq_true rfl) rfl ?_
      obtain ⟨s4, h⟩ := h
      refine WA.iinc (als' := [some (.inr (.inr 115)), some (.inl (v1 + 0)), some (.inl (v2 + 1))]) dX9_formulas_26 rfl s4 rfl ?_
      refine WA.goto (tgt := 4) dX9_formulas_29 (by decide) ?_
      exact h
set_option maxRecDepth 10000 in
theorem e_X9_formulas {d : Nat} {w : Wd} {K : Int → Wd → Prop}  
    (h : W_X9_formulas d 4 [some (.inr (.inr 115)), some (.inl 0), some (.inl 0)] [] w K) :
    E_X9_formulas d [.inr (.inr 115)] w K := by
  refine EvA.of (by decide +kernel) (Nat.le_of_ble_eq_true rfl) ?_
  change W_X9_formulas d 0 [some (.inr (.inr 115)), none, none] [] w K
  refine WA.iconst dX9_formulas_0 ⟨by decide, by decide⟩ ?_
  refine WA.istore_n (als' := [some (.inr (.inr 115)), some (.inl 0), none]) dX9_formulas_1 (Nat.le_of_ble_eq_true rfl) rfl ?_
  refine WA.iconst dX9_formulas_2 ⟨by decide, by decide⟩ ?_
  refine WA.istore_n (als' := [some (.inr (.inr 115)), some (.inl 0), some (.inl 0)]) dX9_formulas_3 (Nat.le_of_ble_eq_true rfl) rfl ?_
  exact h
set_option maxRecDepth 10000 in
theorem v_X9_errors_4 {d : Nat} {w : Wd} {K : Int → Wd → Prop} {v1 v2 : Int}  
    (h : ((72 ≤ v2 → K v1 w) ∧ (¬ (72 ≤ v2) → (0 ≤ v2 ∧ v2 < 72) ∧ (((w 120 v2) ≤ 0 → (-2147483648 ≤ (v1 + 0) ∧ (v1 + 0) ≤ 2147483647) ∧ (-2147483648 ≤ (v2 + 1) ∧ (v2 + 1) ≤ 2147483647) ∧ W_X9_errors d 4 [some (.inr (.inr 115)), some (.inl (v1 + 0)), some (.inl (v2 + 1))] [] w K) ∧ (¬ ((w 120 v2) ≤ 0) → (-2147483648 ≤ (v1 + 1) ∧ (v1 + 1) ≤ 2147483647) ∧ (-2147483648 ≤ (v2 + 1) ∧ (v2 + 1) ≤ 2147483647) ∧ W_X9_errors d 4 [some (.inr (.inr 115)), some (.inl (v1 + 1)), some (.inl (v2 + 1))] [] w K))))) :
    W_X9_errors d 4 [some (.inr (.inr 115)), some (.inl v1), some (.inl v2)] [] w K := by
  refine WA.iload_n dX9_errors_4 rfl ?_
  refine WA.bipush dX9_errors_5 ⟨by decide, by decide⟩ ?_
  refine WA.icmp_ge (tgt := 33) dX9_errors_7 (by decide) (fun hc => ?_) (fun hc => ?_)
  · have h := h.1 hc
    refine WA.iload_n dX9_errors_33 rfl ?_
    exact WA.ireturn dX9_errors_34 ⟨_, rfl, h⟩
  · have h := h.2 hc
    refine WA.iload_n dX9_errors_10 rfl ?_
    refine WA.aload_n dX9_errors_11 rfl (by decide) ?_
    refine gxX9_22 rfl rfl dX9_errors_12 ob_115 ?_
    refine WA.iload_n dX9_errors_15 rfl ?_
    obtain ⟨s1, h⟩ := h
    refine WA.iaload dX9_errors_16 ob_120 s1.1 s1.2 ?_
    refine WA.if_le (tgt := 24) dX9_errors_17 (by decide) (fun hc => ?_) (fun hc => ?_)
    · have h := h.1 hc
      refine WA.iconst dX9_errors_24 ⟨by decide, by decide⟩ ?_
      obtain ⟨s2, h⟩ := h
      refine WA.iadd dX9_errors_25 s2 ?_
      refine WA.istore_n (als' := [some (.inr (.inr 115)), some (.inl (v1 + 0)), some (.inl v2)]) dX9_errors_26 (Nat.le_of_ble_eq_true rfl) rfl ?_
      obtain ⟨s3, h⟩ := h
      refine WA.iinc (als' := [some (.inr (.inr 115)), some (.inl (v1 + 0)), some (.inl (v2 + 1))]) dX9_errors_27 rfl s3 rfl ?_
      refine WA.goto (tgt := 4) dX9_errors_30 (by decide) ?_
      exact h
    · have h := h.2 hc
      refine WA.iconst dX9_errors_20 ⟨by decide, by decide⟩ ?_
      refine WA.goto (tgt := 25) dX9_errors_21 (by decide) ?_
      obtain ⟨s4, h⟩ := h
      refine WA.iadd dX9_errors_25 s4 ?_
      refine WA.istore_n (als' := [some (.inr (.inr 115)), some (.inl (v1 + 1)), some (.inl v2)]) dX9_errors_26 (Nat.le_of_ble_eq_true rfl) rfl ?_
      obtain ⟨s5, h⟩ := h
      refine WA.iinc (als' := [some (.inr (.inr 115)), some (.inl (v1 + 1)), some (.inl (v2 + 1))]) dX9_errors_27 rfl s5 rfl ?_
      refine WA.goto (tgt := 4) dX9_errors_30 (by decide) ?_
      exact h
set_option maxRecDepth 10000 in
theorem e_X9_errors {d : Nat} {w : Wd} {K : Int → Wd → Prop}  
    (h : W_X9_errors d 4 [some (.inr (.inr 115)), some (.inl 0), some (.inl 0)] [] w K) :
    E_X9_errors d [.inr (.inr 115)] w K := by
  refine EvA.of (by decide +kernel) (Nat.le_of_ble_eq_true rfl) ?_
  change W_X9_errors d 0 [some (.inr (.inr 115)), none, none] [] w K
  refine WA.iconst dX9_errors_0 ⟨by decide, by decide⟩ ?_
  refine WA.istore_n (als' := [some (.inr (.inr 115)), some (.inl 0), none]) dX9_errors_1 (Nat.le_of_ble_eq_true rfl) rfl ?_
  refine WA.iconst dX9_errors_2 ⟨by decide, by decide⟩ ?_
  refine WA.istore_n (als' := [some (.inr (.inr 115)), some (.inl 0), some (.inl 0)]) dX9_errors_3 (Nat.le_of_ble_eq_true rfl) rfl ?_
  exact h
set_option maxRecDepth 10000 in
theorem v_X9_highest_4 {d : Nat} {w : Wd} {K : Int → Wd → Prop} {v1 v2 : Int}  
    (h : ((72 ≤ v2 → K v1 w) ∧ (¬ (72 ≤ v2) → (0 ≤ v2 ∧ v2 < 72) ∧ ((¬ (w 121 v2) = 0 → (-2147483648 ≤ (v2 + 1) ∧ (v2 + 1) ≤ 2147483647) ∧ W_X9_highest d 4 [some (.inr (.inr 115)), some (.inl v1), some (.inl (v2 + 1))] [] w K) ∧ ((w 121 v2) = 0 → (0 ≤ v2 ∧ v2 < 72) ∧ (((w 122 v2) ≤ v1 → (-2147483648 ≤ (v2 + 1) ∧ (v2 + 1) ≤ 2147483647) ∧ W_X9_highest d 4 [some (.inr (.inr 115)), some (.inl v1), some (.inl (v2 + 1))] [] w K) ∧ (¬ ((w 122 v2) ≤ v1) → (0 ≤ v2 ∧ v2 < 72) ∧ (-2147483648 ≤ (v2 + 1) ∧ (v2 + 1) ≤ 2147483647) ∧ W_X9_highest d 4 [some (.inr (.inr 115)), some (.inl (w 122 v2)), some (.inl (v2 + 1))] [] w K))))))) :
    W_X9_highest d 4 [some (.inr (.inr 115)), some (.inl v1), some (.inl v2)] [] w K := by
  refine WA.iload_n dX9_highest_4 rfl ?_
  refine WA.bipush dX9_highest_5 ⟨by decide, by decide⟩ ?_
  refine WA.icmp_ge (tgt := 46) dX9_highest_7 (by decide) (fun hc => ?_) (fun hc => ?_)
  · have h := h.1 hc
    refine WA.iload_n dX9_highest_46 rfl ?_
    exact WA.ireturn dX9_highest_47 ⟨_, rfl, h⟩
  · have h := h.2 hc
    refine WA.aload_n dX9_highest_10 rfl (by decide) ?_
    refine gxX9_25 rfl rfl dX9_highest_11 ob_115 ?_
    refine WA.iload_n dX9_highest_14 rfl ?_
    obtain ⟨s1, h⟩ := h
    refine WA.zaload dX9_highest_15 ob_121 s1.1 s1.2 ?_
    refine WA.if_ne (tgt := 38) dX9_highest_16 (by decide) (fun hc => ?_) (fun hc => ?_)
    · have h := h.1 hc
      refine WA.iload_n dX9_highest_38 rfl ?_
      refine WA.istore_n (als' := [some (.inr (.inr 115)), some (.inl v1), some (.inl v2)]) dX9_highest_39 (Nat.le_of_ble_eq_true rfl) rfl ?_
      obtain ⟨s2, h⟩ := h
      refine WA.iinc (als' := [some (.inr (.inr 115)), some (.inl v1), some (.inl (v2 + 1))]) dX9_highest_40 rfl s2 rfl ?_
      refine WA.goto (tgt := 4) dX9_highest_43 (by decide) ?_
      exact h
    · have h := h.2 hc
      refine WA.aload_n dX9_highest_19 rfl (by decide) ?_
      refine gxX9_29 rfl rfl dX9_highest_20 ob_115 ?_
      refine WA.iload_n dX9_highest_23 rfl ?_
      obtain ⟨s3, h⟩ := h
      refine WA.iaload dX9_highest_24 ob_122 s3.1 s3.2 ?_
      refine WA.iload_n dX9_highest_25 rfl ?_
      refine WA.icmp_le (tgt := 38) dX9_highest_26 (by decide) (fun hc => ?_) (fun hc => ?_)
      · have h := h.1 hc
        refine WA.iload_n dX9_highest_38 rfl ?_
        refine WA.istore_n (als' := [some (.inr (.inr 115)), some (.inl v1), some (.inl v2)]) dX9_highest_39 (Nat.le_of_ble_eq_true rfl) rfl ?_
        obtain ⟨s4, h⟩ := h
        refine WA.iinc (als' := [some (.inr (.inr 115)), some (.inl v1), some (.inl (v2 + 1))]) dX9_highest_40 rfl s4 rfl ?_
        refine WA.goto (tgt := 4) dX9_highest_43 (by decide) ?_
        exact h
      · have h := h.2 hc
        refine WA.aload_n dX9_highest_29 rfl (by decide) ?_
        refine gxX9_29 rfl rfl dX9_highest_30 ob_115 ?_
        refine WA.iload_n dX9_highest_33 rfl ?_
        obtain ⟨s5, h⟩ := h
        refine WA.iaload dX9_highest_34 ob_122 s5.1 s5.2 ?_
        refine WA.goto (tgt := 39) dX9_highest_35 (by decide) ?_
        refine WA.istore_n (als' := [some (.inr (.inr 115)), some (.inl (w 122 v2)), some (.inl v2)]) dX9_highest_39 (Nat.le_of_ble_eq_true rfl) rfl ?_
        obtain ⟨s6, h⟩ := h
        refine WA.iinc (als' := [some (.inr (.inr 115)), some (.inl (w 122 v2)), some (.inl (v2 + 1))]) dX9_highest_40 rfl s6 rfl ?_
        refine WA.goto (tgt := 4) dX9_highest_43 (by decide) ?_
        exact h
set_option maxRecDepth 10000 in
theorem e_X9_highest {d : Nat} {w : Wd} {K : Int → Wd → Prop}  
    (h : W_X9_highest d 4 [some (.inr (.inr 115)), some (.inl 0), some (.inl 0)] [] w K) :
    E_X9_highest d [.inr (.inr 115)] w K := by
  refine EvA.of (by decide +kernel) (Nat.le_of_ble_eq_true rfl) ?_
  change W_X9_highest d 0 [some (.inr (.inr 115)), none, none] [] w K
  refine WA.iconst dX9_highest_0 ⟨by decide, by decide⟩ ?_
  refine WA.istore_n (als' := [some (.inr (.inr 115)), some (.inl 0), none]) dX9_highest_1 (Nat.le_of_ble_eq_true rfl) rfl ?_
  refine WA.iconst dX9_highest_2 ⟨by decide, by decide⟩ ?_
  refine WA.istore_n (als' := [some (.inr (.inr 115)), some (.inl 0), some (.inl 0)]) dX9_highest_3 (Nat.le_of_ble_eq_true rfl) rfl ?_
  exact h
set_option maxRecDepth 10000 in
theorem e_X9_count {d : Nat} {w : Wd} {K : Int → Wd → Prop} {a1 : Int}  
    (h : ((a1 = 0 → C_X9_formulas d [.inr (.inr 115)] w (fun x1 w1 => K x1 w1)) ∧ ((a1 = 1 → K (w 116 2521) w) ∧ ((a1 = 2 → C_X9_inAll d [.inr (.inr 115), .inl 2304] w (fun x2 w2 => K x2 w2)) ∧ ((a1 = 3 → C_X9_inAll d [.inr (.inr 115), .inl 2376] w (fun x3 w3 => K x3 w3)) ∧ ((a1 = 4 → K (w 115 19) w) ∧ ((a1 = 5 → (((w 115 20) = 0 → K 0 w) ∧ (¬ (w 115 20) = 0 → K 1 w))) ∧ ((a1 = 6 → C_X9_cyclic d [.inr (.inr 115)] w (fun x4 w4 => K x4 w4)) ∧ ((a1 = 7 → C_X9_errors d [.inr (.inr 115)] w (fun x5 w5 => K x5 w5)) ∧ ((a1 = 8 → C_X9_highest d [.inr (.inr 115)] w (fun x6 w6 => K x6 w6)) ∧ ((a1 = 9 → K (w 116 2520) w) ∧ ((a1 = 10 → K (w 115 2) w) ∧ ((a1 = 11 → K (w 115 4) w) ∧ ((a1 = 12 → C_X9_inAll d [.inr (.inr 115), .inl 2232] w (fun x7 w7 => K x7 w7)) ∧ (a1 < 0 ∨ 12 < a1 → K (-2000000001) w))))))))))))))) :
    E_X9_count d [.inr (.inr 115), .inl a1] w K := by
  refine EvA.of (by decide +kernel) (Nat.le_of_ble_eq_true rfl) ?_
  change W_X9_count d 0 [some (.inr (.inr 115)), some (.inl a1)] [] w K
  refine WA.iload_n dX9_count_0 rfl ?_
  by_cases hc : a1 = 0
  · have h := h.1 hc
    refine WA.tableIn (tgt := 68) dX9_count_1 (by rw [hc]; decide) (by rw [hc]; decide) (by rw [hc]; rfl) (by decide) ?_
    refine WA.aload_n dX9_count_68 rfl (by decide) ?_
    obtain ⟨d1, hd1, h⟩ := h
    refine WA.callV0 (kc := 0) (ks := 0) (kc' := 0) (ks' := 0) dX9_count_69 lkX9_389 rfl rfl rfl ob_115 rfl (Nat.le_of_ble_eq_true rfl) hd1 h (fun r w1 hK => ?_)
    obtain ⟨x1, rfl, h⟩ := hK
    change WA _ _ _ _ _ _ _ _ _ _ _ [.inl x1] _ _
    exact WA.ireturn dX9_count_72 ⟨_, rfl, h⟩
  · have h := h.2
    have n0 := hc
    by_cases hc : a1 = 1
    · have h := h.1 hc
      refine WA.tableIn (tgt := 73) dX9_count_1 (by rw [hc]; decide) (by rw [hc]; decide) (by rw [hc]; rfl) (by decide) ?_
      refine WA.aload_n dX9_count_73 rfl (by decide) ?_
      refine gxX9_7 rfl rfl dX9_count_74 ob_115 ?_
      refine WA.sipush dX9_count_77 ⟨by decide, by decide⟩ ?_
      refine WA.iaload dX9_count_80 ob_116 (by decide) (by decide) ?_
      exact WA.ireturn dX9_count_81 ⟨_, rfl, h⟩
    · have h := h.2
      have n1 := hc
      by_cases hc : a1 = 2
      · have h := h.1 hc
        refine WA.tableIn (tgt := 82) dX9_count_1 (by rw [hc]; decide) (by rw [hc]; decide) (by rw [hc]; rfl) (by decide) ?_
        refine WA.aload_n dX9_count_82 rfl (by decide) ?_
        refine WA.sipush dX9_count_83 ⟨by decide, by decide⟩ ?_
        obtain ⟨d1, hd1, h⟩ := h
        refine WA.callV1 (kc := 0) (ks := 0) (kc' := 0) (ks' := 0) dX9_count_86 lkX9_392 rfl rfl rfl ob_115 rfl (Nat.le_of_ble_eq_true rfl) hd1 h (fun r w2 hK => ?_)
        obtain ⟨x2, rfl, h⟩ := hK
        change WA _ _ _ _ _ _ _ _ _ _ _ [.inl x2] _ _
        exact WA.ireturn dX9_count_89 ⟨_, rfl, h⟩
      · have h := h.2
        have n2 := hc
        by_cases hc : a1 = 3
        · have h := h.1 hc
          refine WA.tableIn (tgt := 90) dX9_count_1 (by rw [hc]; decide) (by rw [hc]; decide) (by rw [hc]; rfl) (by decide) ?_
          refine WA.aload_n dX9_count_90 rfl (by decide) ?_
          refine WA.sipush dX9_count_91 ⟨by decide, by decide⟩ ?_
          obtain ⟨d1, hd1, h⟩ := h
          refine WA.callV1 (kc := 0) (ks := 0) (kc' := 0) (ks' := 0) dX9_count_94 lkX9_392 rfl rfl rfl ob_115 rfl (Nat.le_of_ble_eq_true rfl) hd1 h (fun r w3 hK => ?_)
          obtain ⟨x3, rfl, h⟩ := hK
          change WA _ _ _ _ _ _ _ _ _ _ _ [.inl x3] _ _
          exact WA.ireturn dX9_count_97 ⟨_, rfl, h⟩
        · have h := h.2
          have n3 := hc
          by_cases hc : a1 = 4
          · have h := h.1 hc
            refine WA.tableIn (tgt := 98) dX9_count_1 (by rw [hc]; decide) (by rw [hc]; decide) (by rw [hc]; rfl) (by decide) ?_
            refine WA.aload_n dX9_count_98 rfl (by decide) ?_
            refine gfX9_360 rfl dX9_count_99 ob_115 ?_
            exact WA.ireturn dX9_count_102 ⟨_, rfl, h⟩
          · have h := h.2
            have n4 := hc
            by_cases hc : a1 = 5
            · have h := h.1 hc
              refine WA.tableIn (tgt := 103) dX9_count_1 (by rw [hc]; decide) (by rw [hc]; decide) (by rw [hc]; rfl) (by decide) ?_
              refine WA.aload_n dX9_count_103 rfl (by decide) ?_
              refine gfX9_62 rfl dX9_count_104 ob_115 ?_
              refine WA.if_eq (tgt := 114) dX9_count_107 (by decide) (fun hc => ?_) (fun hc => ?_)
              · have h := h.1 hc
                refine WA.iconst dX9_count_114 ⟨by decide, by decide⟩ ?_
                exact WA.ireturn dX9_count_115 ⟨_, rfl, h⟩
              · have h := h.2 hc
                refine WA.iconst dX9_count_110 ⟨by decide, by decide⟩ ?_
                refine WA.goto (tgt := 115) dX9_count_111 (by decide) ?_
                exact WA.ireturn dX9_count_115 ⟨_, rfl, h⟩
            · have h := h.2
              have n5 := hc
              by_cases hc : a1 = 6
              · have h := h.1 hc
                refine WA.tableIn (tgt := 116) dX9_count_1 (by rw [hc]; decide) (by rw [hc]; decide) (by rw [hc]; rfl) (by decide) ?_
                refine WA.aload_n dX9_count_116 rfl (by decide) ?_
                obtain ⟨d1, hd1, h⟩ := h
                refine WA.callV0 (kc := 0) (ks := 0) (kc' := 0) (ks' := 0) dX9_count_117 lkX9_363 rfl rfl rfl ob_115 rfl (Nat.le_of_ble_eq_true rfl) hd1 h (fun r w4 hK => ?_)
                obtain ⟨x4, rfl, h⟩ := hK
                change WA _ _ _ _ _ _ _ _ _ _ _ [.inl x4] _ _
                exact WA.ireturn dX9_count_120 ⟨_, rfl, h⟩
              · have h := h.2
                have n6 := hc
                by_cases hc : a1 = 7
                · have h := h.1 hc
                  refine WA.tableIn (tgt := 121) dX9_count_1 (by rw [hc]; decide) (by rw [hc]; decide) (by rw [hc]; rfl) (by decide) ?_
                  refine WA.aload_n dX9_count_121 rfl (by decide) ?_
                  obtain ⟨d1, hd1, h⟩ := h
                  refine WA.callV0 (kc := 0) (ks := 0) (kc' := 0) (ks' := 0) dX9_count_122 lkX9_395 rfl rfl rfl ob_115 rfl (Nat.le_of_ble_eq_true rfl) hd1 h (fun r w5 hK => ?_)
                  obtain ⟨x5, rfl, h⟩ := hK
                  change WA _ _ _ _ _ _ _ _ _ _ _ [.inl x5] _ _
                  exact WA.ireturn dX9_count_125 ⟨_, rfl, h⟩
                · have h := h.2
                  have n7 := hc
                  by_cases hc : a1 = 8
                  · have h := h.1 hc
                    refine WA.tableIn (tgt := 126) dX9_count_1 (by rw [hc]; decide) (by rw [hc]; decide) (by rw [hc]; rfl) (by decide) ?_
                    refine WA.aload_n dX9_count_126 rfl (by decide) ?_
                    obtain ⟨d1, hd1, h⟩ := h
                    refine WA.callV0 (kc := 0) (ks := 0) (kc' := 0) (ks' := 0) dX9_count_127 lkX9_398 rfl rfl rfl ob_115 rfl (Nat.le_of_ble_eq_true rfl) hd1 h (fun r w6 hK => ?_)
                    obtain ⟨x6, rfl, h⟩ := hK
                    change WA _ _ _ _ _ _ _ _ _ _ _ [.inl x6] _ _
                    exact WA.ireturn dX9_count_130 ⟨_, rfl, h⟩
                  · have h := h.2
                    have n8 := hc
                    by_cases hc : a1 = 9
                    · have h := h.1 hc
                      refine WA.tableIn (tgt := 131) dX9_count_1 (by rw [hc]; decide) (by rw [hc]; decide) (by rw [hc]; rfl) (by decide) ?_
                      refine WA.aload_n dX9_count_131 rfl (by decide) ?_
                      refine gxX9_7 rfl rfl dX9_count_132 ob_115 ?_
                      refine WA.sipush dX9_count_135 ⟨by decide, by decide⟩ ?_
                      refine WA.iaload dX9_count_138 ob_116 (by decide) (by decide) ?_
                      exact WA.ireturn dX9_count_139 ⟨_, rfl, h⟩
                    · have h := h.2
                      have n9 := hc
                      by_cases hc : a1 = 10
                      · have h := h.1 hc
                        refine WA.tableIn (tgt := 140) dX9_count_1 (by rw [hc]; decide) (by rw [hc]; decide) (by rw [hc]; rfl) (by decide) ?_
                        refine WA.aload_n dX9_count_140 rfl (by decide) ?_
                        refine gfX9_108 rfl dX9_count_141 ob_115 ?_
                        exact WA.ireturn dX9_count_144 ⟨_, rfl, h⟩
                      · have h := h.2
                        have n10 := hc
                        by_cases hc : a1 = 11
                        · have h := h.1 hc
                          refine WA.tableIn (tgt := 145) dX9_count_1 (by rw [hc]; decide) (by rw [hc]; decide) (by rw [hc]; rfl) (by decide) ?_
                          refine WA.aload_n dX9_count_145 rfl (by decide) ?_
                          refine gfX9_112 rfl dX9_count_146 ob_115 ?_
                          exact WA.ireturn dX9_count_149 ⟨_, rfl, h⟩
                        · have h := h.2
                          have n11 := hc
                          by_cases hc : a1 = 12
                          · have h := h.1 hc
                            refine WA.tableIn (tgt := 150) dX9_count_1 (by rw [hc]; decide) (by rw [hc]; decide) (by rw [hc]; rfl) (by decide) ?_
                            refine WA.aload_n dX9_count_150 rfl (by decide) ?_
                            refine WA.sipush dX9_count_151 ⟨by decide, by decide⟩ ?_
                            obtain ⟨d1, hd1, h⟩ := h
                            refine WA.callV1 (kc := 0) (ks := 0) (kc' := 0) (ks' := 0) dX9_count_154 lkX9_392 rfl rfl rfl ob_115 rfl (Nat.le_of_ble_eq_true rfl) hd1 h (fun r w7 hK => ?_)
                            obtain ⟨x7, rfl, h⟩ := hK
                            change WA _ _ _ _ _ _ _ _ _ _ _ [.inl x7] _ _
                            exact WA.ireturn dX9_count_157 ⟨_, rfl, h⟩
                          · have h := h.2
                            have n12 := hc
                            have ho : a1 < 0 ∨ 12 < a1 := by
                              rcases Int.lt_or_le a1 0 with q | q
                              · exact Or.inl q
                              · have q : 1 ≤ a1 := am_bump q n0
                                have q : 2 ≤ a1 := am_bump q n1
                                have q : 3 ≤ a1 := am_bump q n2
                                have q : 4 ≤ a1 := am_bump q n3
                                have q : 5 ≤ a1 := am_bump q n4
                                have q : 6 ≤ a1 := am_bump q n5
                                have q : 7 ≤ a1 := am_bump q n6
                                have q : 8 ≤ a1 := am_bump q n7
                                have q : 9 ≤ a1 := am_bump q n8
                                have q : 10 ≤ a1 := am_bump q n9
                                have q : 11 ≤ a1 := am_bump q n10
                                have q : 12 ≤ a1 := am_bump q n11
                                have q : 13 ≤ a1 := am_bump q n12
                                exact Or.inr q
                            have h := h ho
                            refine WA.tableOut (tgt := 158) dX9_count_1 ho (by decide) ?_
                            refine WA.ldc (v := (-2000000001)) (x := (-2000000001)) dX9_count_158 (am_mem 902 (by decide +kernel) rfl) (by decide) ?_
                            exact WA.ireturn dX9_count_160 ⟨_, rfl, h⟩
set_option maxRecDepth 10000 in
theorem v_X9_undo_22 {d : Nat} {w : Wd} {K : Int → Wd → Prop} {v1 : Int}  
    (h : ((2778 ≤ v1 → C_X9_settles d [.inr (.inr 115)] w (fun w1 => K (w1 115 2) w1)) ∧ (¬ (2778 ≤ v1) → (-2147483648 ≤ (2778 * (w 115 2)) ∧ (2778 * (w 115 2)) ≤ 2147483647) ∧ (-2147483648 ≤ ((2778 * (w 115 2)) + v1) ∧ ((2778 * (w 115 2)) + v1) ≤ 2147483647) ∧ (0 ≤ ((2778 * (w 115 2)) + v1) ∧ ((2778 * (w 115 2)) + v1) < 11112) ∧ (0 ≤ v1 ∧ v1 < 2778) ∧ (∀ w2, w2 = wset w 116 v1 (w 117 ((2778 * (w 115 2)) + v1)) → (-2147483648 ≤ (v1 + 1) ∧ (v1 + 1) ≤ 2147483647) ∧ W_X9_undo d 22 [some (.inr (.inr 115)), some (.inl (v1 + 1))] [] w2 K)))) :
    W_X9_undo d 22 [some (.inr (.inr 115)), some (.inl v1)] [] w K := by
  refine WA.iload_n dX9_undo_22 rfl ?_
  refine WA.sipush dX9_undo_23 ⟨by decide, by decide⟩ ?_
  refine WA.icmp_ge (tgt := 56) dX9_undo_26 (by decide) (fun hc => ?_) (fun hc => ?_)
  · have h := h.1 hc
    refine WA.aload_n dX9_undo_56 rfl (by decide) ?_
    obtain ⟨d1, hd1, h⟩ := h
    refine WA.callV0 (kc := 0) (ks := 0) (kc' := 0) (ks' := 0) dX9_undo_57 lkX9_369 rfl rfl rfl ob_115 rfl (Nat.le_of_ble_eq_true rfl) hd1 h (fun r w1 hK => ?_)
    obtain ⟨rfl, h⟩ := hK
    change WA _ _ _ _ _ _ _ _ _ _ _ [] _ _
    refine WA.aload_n dX9_undo_60 rfl (by decide) ?_
    refine gfX9_108 rfl dX9_undo_61 ob_115 ?_
    exact WA.ireturn dX9_undo_64 ⟨_, rfl, h⟩
  · have h := h.2 hc
    refine WA.aload_n dX9_undo_29 rfl (by decide) ?_
    refine gxX9_7 rfl rfl dX9_undo_30 ob_115 ?_
    refine WA.iload_n dX9_undo_33 rfl ?_
    refine WA.aload_n dX9_undo_34 rfl (by decide) ?_
    refine gxX9_13 rfl rfl dX9_undo_35 ob_115 ?_
    refine WA.sipush dX9_undo_38 ⟨by decide, by decide⟩ ?_
    refine WA.aload_n dX9_undo_41 rfl (by decide) ?_
    refine gfX9_108 rfl dX9_undo_42 ob_115 ?_
    obtain ⟨s1, h⟩ := h
    refine WA.imul dX9_undo_45 s1 ?_
    refine WA.iload_n dX9_undo_46 rfl ?_
    obtain ⟨s2, h⟩ := h
    refine WA.iadd dX9_undo_47 s2 ?_
    obtain ⟨s3, h⟩ := h
    refine WA.iaload dX9_undo_48 ob_117 s3.1 s3.2 ?_
    obtain ⟨s4, h⟩ := h
    obtain ⟨w2, qw2⟩ : ∃ z, z = wset w 116 v1 (w 117 ((2778 * (w 115 2)) + v1)) := ⟨_, rfl⟩
    have h := h w2 qw2
    refine WA.iastore dX9_undo_49 ob_116 s4.1 s4.2 ?_
    rw [← qw2]
    obtain ⟨s5, h⟩ := h
    refine WA.iinc (als' := [some (.inr (.inr 115)), some (.inl (v1 + 1))]) dX9_undo_50 rfl s5 rfl ?_
    refine WA.goto (tgt := 22) dX9_undo_53 (by decide) ?_
    exact h
set_option maxRecDepth 10000 in
theorem e_X9_undo {d : Nat} {w : Wd} {K : Int → Wd → Prop}  
    (h : ((¬ (w 115 2) = 0 → (-2147483648 ≤ ((w 115 2) - 1) ∧ ((w 115 2) - 1) ≤ 2147483647) ∧ (∀ w1, w1 = wset w 115 2 ((w 115 2) - 1) → W_X9_undo d 22 [some (.inr (.inr 115)), some (.inl 0)] [] w1 K)) ∧ ((w 115 2) = 0 → K (-2000000002) w))) :
    E_X9_undo d [.inr (.inr 115)] w K := by
  refine EvA.of (by decide +kernel) (Nat.le_of_ble_eq_true rfl) ?_
  change W_X9_undo d 0 [some (.inr (.inr 115)), none] [] w K
  refine WA.aload_n dX9_undo_0 rfl (by decide) ?_
  refine gfX9_108 rfl dX9_undo_1 ob_115 ?_
  refine WA.if_ne (tgt := 10) dX9_undo_4 (by decide) (fun hc => ?_) (fun hc => ?_)
  · have h := h.1 hc
    refine WA.aload_n dX9_undo_10 rfl (by decide) ?_
    refine WA.dup dX9_undo_11 rfl ?_
    refine gfX9_108 rfl dX9_undo_12 ob_115 ?_
    refine WA.iconst dX9_undo_15 ⟨by decide, by decide⟩ ?_
    obtain ⟨s1, h⟩ := h
    refine WA.isub dX9_undo_16 s1 ?_
    obtain ⟨w1, qw1⟩ : ∃ z, z = wset w 115 2 ((w 115 2) - 1) := ⟨_, rfl⟩
    have h := h w1 qw1
    refine pfX9_108 rfl dX9_undo_17 ob_115 ?_
    rw [← qw1]
    refine WA.iconst dX9_undo_20 ⟨by decide, by decide⟩ ?_
    refine WA.istore_n (als' := [some (.inr (.inr 115)), some (.inl 0)]) dX9_undo_21 (Nat.le_of_ble_eq_true rfl) rfl ?_
    exact h
  · have h := h.2 hc
    refine WA.ldc (v := (-2000000002)) (x := (-2000000002)) dX9_undo_7 (am_mem 987 (by decide +kernel) rfl) (by decide) ?_
    exact WA.ireturn dX9_undo_9 ⟨_, rfl, h⟩
