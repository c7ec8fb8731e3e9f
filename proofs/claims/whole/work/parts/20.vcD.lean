abbrev W_X1_firstFault (d pc : Nat) (als : List (Option AV)) (st : List AV) (w : Wd) (K : Int → Wd → Prop) : Prop := WA true yX1_firstFault cX1_firstFault 2 (some .int) d 143 0 0 pc als st w (rI K)
abbrev E_X1_firstFault (d : Nat) (as : List AV) (w : Wd) (K : Int → Wd → Prop) : Prop := EvA true yX1_firstFault cX1_firstFault 2 (some .int) d 143 0 0 as w (rI K)
abbrev C_X1_firstFault (d : Nat) (as : List AV) (w : Wd) (K : Int → Wd → Prop) : Prop := ∃ d', d' < d ∧ E_X1_firstFault d' as w K
abbrev W_X1_formula (d pc : Nat) (als : List (Option AV)) (st : List AV) (w : Wd) (K : Int → Wd → Prop) : Prop := WA true yX1_formula cX1_formula 4 (some .boolean) d 143 0 0 pc als st w (rI K)
abbrev E_X1_formula (d : Nat) (as : List AV) (w : Wd) (K : Int → Wd → Prop) : Prop := EvA true yX1_formula cX1_formula 4 (some .boolean) d 143 0 0 as w (rI K)
abbrev C_X1_formula (d : Nat) (as : List AV) (w : Wd) (K : Int → Wd → Prop) : Prop := ∃ d', d' < d ∧ E_X1_formula d' as w K
abbrev W_X1_product (d pc : Nat) (als : List (Option AV)) (st : List AV) (w : Wd) (K : Int → Wd → Prop) : Prop := WA true yX1_product cX1_product 4 (some .boolean) d 143 0 0 pc als st w (rI K)
abbrev E_X1_product (d : Nat) (as : List AV) (w : Wd) (K : Int → Wd → Prop) : Prop := EvA true yX1_product cX1_product 4 (some .boolean) d 143 0 0 as w (rI K)
abbrev C_X1_product (d : Nat) (as : List AV) (w : Wd) (K : Int → Wd → Prop) : Prop := ∃ d', d' < d ∧ E_X1_product d' as w K
abbrev W_X1_factor (d pc : Nat) (als : List (Option AV)) (st : List AV) (w : Wd) (K : Int → Wd → Prop) : Prop := WA true yX1_factor cX1_factor 2 (some .boolean) d 143 0 0 pc als st w (rI K)
abbrev E_X1_factor (d : Nat) (as : List AV) (w : Wd) (K : Int → Wd → Prop) : Prop := EvA true yX1_factor cX1_factor 2 (some .boolean) d 143 0 0 as w (rI K)
abbrev C_X1_factor (d : Nat) (as : List AV) (w : Wd) (K : Int → Wd → Prop) : Prop := ∃ d', d' < d ∧ E_X1_factor d' as w K
abbrev W_X1_passNumber (d pc : Nat) (als : List (Option AV)) (st : List AV) (w : Wd) (K : Wd → Prop) : Prop := WA true yX1_passNumber cX1_passNumber 2 none d 143 0 0 pc als st w (rV K)
abbrev E_X1_passNumber (d : Nat) (as : List AV) (w : Wd) (K : Wd → Prop) : Prop := EvA true yX1_passNumber cX1_passNumber 2 none d 143 0 0 as w (rV K)
abbrev C_X1_passNumber (d : Nat) (as : List AV) (w : Wd) (K : Wd → Prop) : Prop := ∃ d', d' < d ∧ E_X1_passNumber d' as w K
abbrev W_X1_call (d pc : Nat) (als : List (Option AV)) (st : List AV) (w : Wd) (K : Int → Wd → Prop) : Prop := WA true yX1_call cX1_call 5 (some .boolean) d 143 0 0 pc als st w (rI K)
abbrev E_X1_call (d : Nat) (as : List AV) (w : Wd) (K : Int → Wd → Prop) : Prop := EvA true yX1_call cX1_call 5 (some .boolean) d 143 0 0 as w (rI K)
abbrev C_X1_call (d : Nat) (as : List AV) (w : Wd) (K : Int → Wd → Prop) : Prop := ∃ d', d' < d ∧ E_X1_call d' as w K
abbrev W_X1_parts (d pc : Nat) (als : List (Option AV)) (st : List AV) (w : Wd) (K : Int → Wd → Prop) : Prop := WA true yX1_parts cX1_parts 5 (some .boolean) d 143 0 0 pc als st w (rI K)
abbrev E_X1_parts (d : Nat) (as : List AV) (w : Wd) (K : Int → Wd → Prop) : Prop := EvA true yX1_parts cX1_parts 5 (some .boolean) d 143 0 0 as w (rI K)
abbrev C_X1_parts (d : Nat) (as : List AV) (w : Wd) (K : Int → Wd → Prop) : Prop := ∃ d', d' < d ∧ E_X1_parts d' as w K
abbrev W_X1_isAtArea (d pc : Nat) (als : List (Option AV)) (st : List AV) (w : Wd) (K : Int → Wd → Prop) : Prop := WA true yX1_isAtArea cX1_isAtArea 3 (some .boolean) d 143 0 0 pc als st w (rI K)
abbrev E_X1_isAtArea (d : Nat) (as : List AV) (w : Wd) (K : Int → Wd → Prop) : Prop := EvA true yX1_isAtArea cX1_isAtArea 3 (some .boolean) d 143 0 0 as w (rI K)
abbrev C_X1_isAtArea (d : Nat) (as : List AV) (w : Wd) (K : Int → Wd → Prop) : Prop := ∃ d', d' < d ∧ E_X1_isAtArea d' as w K
abbrev W_X1_area (d pc : Nat) (als : List (Option AV)) (st : List AV) (w : Wd) (K : Int → Wd → Prop) : Prop := WA true yX1_area cX1_area 3 (some .boolean) d 143 0 0 pc als st w (rI K)
abbrev E_X1_area (d : Nat) (as : List AV) (w : Wd) (K : Int → Wd → Prop) : Prop := EvA true yX1_area cX1_area 3 (some .boolean) d 143 0 0 as w (rI K)
abbrev C_X1_area (d : Nat) (as : List AV) (w : Wd) (K : Int → Wd → Prop) : Prop := ∃ d', d' < d ∧ E_X1_area d' as w K
abbrev W_X1_passCell (d pc : Nat) (als : List (Option AV)) (st : List AV) (w : Wd) (K : Int → Wd → Prop) : Prop := WA true yX1_passCell cX1_passCell 3 (some .boolean) d 143 0 0 pc als st w (rI K)
abbrev E_X1_passCell (d : Nat) (as : List AV) (w : Wd) (K : Int → Wd → Prop) : Prop := EvA true yX1_passCell cX1_passCell 3 (some .boolean) d 143 0 0 as w (rI K)
abbrev C_X1_passCell (d : Nat) (as : List AV) (w : Wd) (K : Int → Wd → Prop) : Prop := ∃ d', d' < d ∧ E_X1_passCell d' as w K
abbrev W_X8_type (d pc : Nat) (als : List (Option AV)) (st : List AV) (w : Wd) (K : Int → Wd → Prop) : Prop := WA true yX8_type cX8_type 2 (some .int) d 143 0 0 pc als st w (rI K)
abbrev E_X8_type (d : Nat) (as : List AV) (w : Wd) (K : Int → Wd → Prop) : Prop := EvA true yX8_type cX8_type 2 (some .int) d 143 0 0 as w (rI K)
abbrev C_X8_type (d : Nat) (as : List AV) (w : Wd) (K : Int → Wd → Prop) : Prop := ∃ d', d' < d ∧ E_X8_type d' as w K
abbrev W_X8_clearText (d pc : Nat) (als : List (Option AV)) (st : List AV) (w : Wd) (K : Int → Wd → Prop) : Prop := WA true yX8_clearText cX8_clearText 2 (some .int) d 143 0 0 pc als st w (rI K)
abbrev E_X8_clearText (d : Nat) (as : List AV) (w : Wd) (K : Int → Wd → Prop) : Prop := EvA true yX8_clearText cX8_clearText 2 (some .int) d 143 0 0 as w (rI K)
abbrev C_X8_clearText (d : Nat) (as : List AV) (w : Wd) (K : Int → Wd → Prop) : Prop := ∃ d', d' < d ∧ E_X8_clearText d' as w K
abbrev W_X8_fault (d pc : Nat) (als : List (Option AV)) (st : List AV) (w : Wd) (K : Int → Wd → Prop) : Prop := WA true yX8_fault cX8_fault 2 (some .int) d 143 0 0 pc als st w (rI K)
abbrev E_X8_fault (d : Nat) (as : List AV) (w : Wd) (K : Int → Wd → Prop) : Prop := EvA true yX8_fault cX8_fault 2 (some .int) d 143 0 0 as w (rI K)
abbrev C_X8_fault (d : Nat) (as : List AV) (w : Wd) (K : Int → Wd → Prop) : Prop := ∃ d', d' < d ∧ E_X8_fault d' as w K
abbrev W_X8_put (d pc : Nat) (als : List (Option AV)) (st : List AV) (w : Wd) (K : Int → Wd → Prop) : Prop := WA true yX8_put cX8_put 2 (some .int) d 143 0 0 pc als st w (rI K)
abbrev E_X8_put (d : Nat) (as : List AV) (w : Wd) (K : Int → Wd → Prop) : Prop := EvA true yX8_put cX8_put 2 (some .int) d 143 0 0 as w (rI K)
abbrev C_X8_put (d : Nat) (as : List AV) (w : Wd) (K : Int → Wd → Prop) : Prop := ∃ d', d' < d ∧ E_X8_put d' as w K
abbrev W_X8_copy (d pc : Nat) (als : List (Option AV)) (st : List AV) (w : Wd) (K : Int → Wd → Prop) : Prop := WA true yX8_copy cX8_copy 5 (some .int) d 143 0 0 pc als st w (rI K)
abbrev E_X8_copy (d : Nat) (as : List AV) (w : Wd) (K : Int → Wd → Prop) : Prop := EvA true yX8_copy cX8_copy 5 (some .int) d 143 0 0 as w (rI K)
abbrev C_X8_copy (d : Nat) (as : List AV) (w : Wd) (K : Int → Wd → Prop) : Prop := ∃ d', d' < d ∧ E_X8_copy d' as w K
abbrev W_X8_drop (d pc : Nat) (als : List (Option AV)) (st : List AV) (w : Wd) (K : Int → Wd → Prop) : Prop := WA true yX8_drop cX8_drop 2 (some .int) d 143 0 0 pc als st w (rI K)
abbrev E_X8_drop (d : Nat) (as : List AV) (w : Wd) (K : Int → Wd → Prop) : Prop := EvA true yX8_drop cX8_drop 2 (some .int) d 143 0 0 as w (rI K)
abbrev C_X8_drop (d : Nat) (as : List AV) (w : Wd) (K : Int → Wd → Prop) : Prop := ∃ d', d' < d ∧ E_X8_drop d' as w K
abbrev W_X8_waitingAt (d pc : Nat) (als : List (Option AV)) (st : List AV) (w : Wd) (K : Int → Wd → Prop) : Prop := WA true yX8_waitingAt cX8_waitingAt 4 (some .int) d 143 0 0 pc als st w (rI K)
abbrev E_X8_waitingAt (d : Nat) (as : List AV) (w : Wd) (K : Int → Wd → Prop) : Prop := EvA true yX8_waitingAt cX8_waitingAt 4 (some .int) d 143 0 0 as w (rI K)
abbrev C_X8_waitingAt (d : Nat) (as : List AV) (w : Wd) (K : Int → Wd → Prop) : Prop := ∃ d', d' < d ∧ E_X8_waitingAt d' as w K
abbrev W_X8_update (d pc : Nat) (als : List (Option AV)) (st : List AV) (w : Wd) (K : Int → Wd → Prop) : Prop := WA true yX8_update cX8_update 3 (some .int) d 143 0 0 pc als st w (rI K)
abbrev E_X8_update (d : Nat) (as : List AV) (w : Wd) (K : Int → Wd → Prop) : Prop := EvA true yX8_update cX8_update 3 (some .int) d 143 0 0 as w (rI K)
abbrev C_X8_update (d : Nat) (as : List AV) (w : Wd) (K : Int → Wd → Prop) : Prop := ∃ d', d' < d ∧ E_X8_update d' as w K
abbrev W_X8_rounds (d pc : Nat) (als : List (Option AV)) (st : List AV) (w : Wd) (K : Int → Wd → Prop) : Prop := WA true yX8_rounds cX8_rounds 3 (some .int) d 143 0 0 pc als st w (rI K)
abbrev E_X8_rounds (d : Nat) (as : List AV) (w : Wd) (K : Int → Wd → Prop) : Prop := EvA true yX8_rounds cX8_rounds 3 (some .int) d 143 0 0 as w (rI K)
abbrev C_X8_rounds (d : Nat) (as : List AV) (w : Wd) (K : Int → Wd → Prop) : Prop := ∃ d', d' < d ∧ E_X8_rounds d' as w K
abbrev W_X8_value (d pc : Nat) (als : List (Option AV)) (st : List AV) (w : Wd) (K : Int → Wd → Prop) : Prop := WA true yX8_value cX8_value 2 (some .int) d 143 0 0 pc als st w (rI K)
abbrev E_X8_value (d : Nat) (as : List AV) (w : Wd) (K : Int → Wd → Prop) : Prop := EvA true yX8_value cX8_value 2 (some .int) d 143 0 0 as w (rI K)
abbrev C_X8_value (d : Nat) (as : List AV) (w : Wd) (K : Int → Wd → Prop) : Prop := ∃ d', d' < d ∧ E_X8_value d' as w K
abbrev W_X8_cellOf (d pc : Nat) (als : List (Option AV)) (st : List AV) (w : Wd) (K : Int → Wd → Prop) : Prop := WA true yX8_cellOf cX8_cellOf 3 (some .int) d 143 0 0 pc als st w (rI K)
abbrev E_X8_cellOf (d : Nat) (as : List AV) (w : Wd) (K : Int → Wd → Prop) : Prop := EvA true yX8_cellOf cX8_cellOf 3 (some .int) d 143 0 0 as w (rI K)
abbrev C_X8_cellOf (d : Nat) (as : List AV) (w : Wd) (K : Int → Wd → Prop) : Prop := ∃ d', d' < d ∧ E_X8_cellOf d' as w K
abbrev W_X8_letterAt (d pc : Nat) (als : List (Option AV)) (st : List AV) (w : Wd) (K : Int → Wd → Prop) : Prop := WA true yX8_letterAt cX8_letterAt 3 (some .int) d 143 0 0 pc als st w (rI K)
abbrev E_X8_letterAt (d : Nat) (as : List AV) (w : Wd) (K : Int → Wd → Prop) : Prop := EvA true yX8_letterAt cX8_letterAt 3 (some .int) d 143 0 0 as w (rI K)
abbrev C_X8_letterAt (d : Nat) (as : List AV) (w : Wd) (K : Int → Wd → Prop) : Prop := ∃ d', d' < d ∧ E_X8_letterAt d' as w K
abbrev W_X8_readAt (d pc : Nat) (als : List (Option AV)) (st : List AV) (w : Wd) (K : Int → Wd → Prop) : Prop := WA true yX8_readAt cX8_readAt 3 (some .int) d 143 0 0 pc als st w (rI K)
abbrev E_X8_readAt (d : Nat) (as : List AV) (w : Wd) (K : Int → Wd → Prop) : Prop := EvA true yX8_readAt cX8_readAt 3 (some .int) d 143 0 0 as w (rI K)
abbrev C_X8_readAt (d : Nat) (as : List AV) (w : Wd) (K : Int → Wd → Prop) : Prop := ∃ d', d' < d ∧ E_X8_readAt d' as w K
abbrev W_X8_readerAt (d pc : Nat) (als : List (Option AV)) (st : List AV) (w : Wd) (K : Int → Wd → Prop) : Prop := WA true yX8_readerAt cX8_readerAt 5 (some .int) d 143 0 0 pc als st w (rI K)
abbrev E_X8_readerAt (d : Nat) (as : List AV) (w : Wd) (K : Int → Wd → Prop) : Prop := EvA true yX8_readerAt cX8_readerAt 5 (some .int) d 143 0 0 as w (rI K)
abbrev C_X8_readerAt (d : Nat) (as : List AV) (w : Wd) (K : Int → Wd → Prop) : Prop := ∃ d', d' < d ∧ E_X8_readerAt d' as w K
abbrev W_X8_ranAt (d pc : Nat) (als : List (Option AV)) (st : List AV) (w : Wd) (K : Int → Wd → Prop) : Prop := WA true yX8_ranAt cX8_ranAt 5 (some .int) d 143 0 0 pc als st w (rI K)
abbrev E_X8_ranAt (d : Nat) (as : List AV) (w : Wd) (K : Int → Wd → Prop) : Prop := EvA true yX8_ranAt cX8_ranAt 5 (some .int) d 143 0 0 as w (rI K)
abbrev C_X8_ranAt (d : Nat) (as : List AV) (w : Wd) (K : Int → Wd → Prop) : Prop := ∃ d', d' < d ∧ E_X8_ranAt d' as w K
abbrev W_X8_changedAt (d pc : Nat) (als : List (Option AV)) (st : List AV) (w : Wd) (K : Int → Wd → Prop) : Prop := WA true yX8_changedAt cX8_changedAt 4 (some .int) d 143 0 0 pc als st w (rI K)
abbrev E_X8_changedAt (d : Nat) (as : List AV) (w : Wd) (K : Int → Wd → Prop) : Prop := EvA true yX8_changedAt cX8_changedAt 4 (some .int) d 143 0 0 as w (rI K)
abbrev C_X8_changedAt (d : Nat) (as : List AV) (w : Wd) (K : Int → Wd → Prop) : Prop := ∃ d', d' < d ∧ E_X8_changedAt d' as w K
abbrev W_X8_cause (d pc : Nat) (als : List (Option AV)) (st : List AV) (w : Wd) (K : Int → Wd → Prop) : Prop := WA true yX8_cause cX8_cause 2 (some .int) d 143 0 0 pc als st w (rI K)
abbrev E_X8_cause (d : Nat) (as : List AV) (w : Wd) (K : Int → Wd → Prop) : Prop := EvA true yX8_cause cX8_cause 2 (some .int) d 143 0 0 as w (rI K)
abbrev C_X8_cause (d : Nat) (as : List AV) (w : Wd) (K : Int → Wd → Prop) : Prop := ∃ d', d' < d ∧ E_X8_cause d' as w K
abbrev W_X8_chainAt (d pc : Nat) (als : List (Option AV)) (st : List AV) (w : Wd) (K : Int → Wd → Prop) : Prop := WA true yX8_chainAt cX8_chainAt 4 (some .int) d 143 0 0 pc als st w (rI K)
abbrev E_X8_chainAt (d : Nat) (as : List AV) (w : Wd) (K : Int → Wd → Prop) : Prop := EvA true yX8_chainAt cX8_chainAt 4 (some .int) d 143 0 0 as w (rI K)
abbrev C_X8_chainAt (d : Nat) (as : List AV) (w : Wd) (K : Int → Wd → Prop) : Prop := ∃ d', d' < d ∧ E_X8_chainAt d' as w K
abbrev W_X8_whatIf (d pc : Nat) (als : List (Option AV)) (st : List AV) (w : Wd) (K : Int → Wd → Prop) : Prop := WA true yX8_whatIf cX8_whatIf 4 (some .int) d 143 0 0 pc als st w (rI K)
abbrev E_X8_whatIf (d : Nat) (as : List AV) (w : Wd) (K : Int → Wd → Prop) : Prop := EvA true yX8_whatIf cX8_whatIf 4 (some .int) d 143 0 0 as w (rI K)
abbrev C_X8_whatIf (d : Nat) (as : List AV) (w : Wd) (K : Int → Wd → Prop) : Prop := ∃ d', d' < d ∧ E_X8_whatIf d' as w K
abbrev W_X8_count (d pc : Nat) (als : List (Option AV)) (st : List AV) (w : Wd) (K : Int → Wd → Prop) : Prop := WA true yX8_count cX8_count 2 (some .int) d 143 0 0 pc als st w (rI K)
abbrev E_X8_count (d : Nat) (as : List AV) (w : Wd) (K : Int → Wd → Prop) : Prop := EvA true yX8_count cX8_count 2 (some .int) d 143 0 0 as w (rI K)
abbrev C_X8_count (d : Nat) (as : List AV) (w : Wd) (K : Int → Wd → Prop) : Prop := ∃ d', d' < d ∧ E_X8_count d' as w K
abbrev W_X8_undo (d pc : Nat) (als : List (Option AV)) (st : List AV) (w : Wd) (K : Int → Wd → Prop) : Prop := WA true yX8_undo cX8_undo 1 (some .int) d 143 0 0 pc als st w (rI K)
abbrev E_X8_undo (d : Nat) (as : List AV) (w : Wd) (K : Int → Wd → Prop) : Prop := EvA true yX8_undo cX8_undo 1 (some .int) d 143 0 0 as w (rI K)
abbrev C_X8_undo (d : Nat) (as : List AV) (w : Wd) (K : Int → Wd → Prop) : Prop := ∃ d', d' < d ∧ E_X8_undo d' as w K
abbrev W_X8_letWait (d pc : Nat) (als : List (Option AV)) (st : List AV) (w : Wd) (K : Int → Wd → Prop) : Prop := WA true yX8_letWait cX8_letWait 3 (some .int) d 143 0 0 pc als st w (rI K)
abbrev E_X8_letWait (d : Nat) (as : List AV) (w : Wd) (K : Int → Wd → Prop) : Prop := EvA true yX8_letWait cX8_letWait 3 (some .int) d 143 0 0 as w (rI K)
abbrev C_X8_letWait (d : Nat) (as : List AV) (w : Wd) (K : Int → Wd → Prop) : Prop := ∃ d', d' < d ∧ E_X8_letWait d' as w K
abbrev W_X8_draftShifted (d pc : Nat) (als : List (Option AV)) (st : List AV) (w : Wd) (K : Int → Wd → Prop) : Prop := WA true yX8_draftShifted cX8_draftShifted 6 (some .boolean) d 143 0 0 pc als st w (rI K)
abbrev E_X8_draftShifted (d : Nat) (as : List AV) (w : Wd) (K : Int → Wd → Prop) : Prop := EvA true yX8_draftShifted cX8_draftShifted 6 (some .boolean) d 143 0 0 as w (rI K)
abbrev C_X8_draftShifted (d : Nat) (as : List AV) (w : Wd) (K : Int → Wd → Prop) : Prop := ∃ d', d' < d ∧ E_X8_draftShifted d' as w K
abbrev W_X8_shiftedLetter (d pc : Nat) (als : List (Option AV)) (st : List AV) (w : Wd) (K : Int → Wd → Prop) : Prop := WA true yX8_shiftedLetter cX8_shiftedLetter 6 (some .int) d 143 0 0 pc als st w (rI K)
abbrev E_X8_shiftedLetter (d : Nat) (as : List AV) (w : Wd) (K : Int → Wd → Prop) : Prop := EvA true yX8_shiftedLetter cX8_shiftedLetter 6 (some .int) d 143 0 0 as w (rI K)
abbrev C_X8_shiftedLetter (d : Nat) (as : List AV) (w : Wd) (K : Int → Wd → Prop) : Prop := ∃ d', d' < d ∧ E_X8_shiftedLetter d' as w K
abbrev W_X8_draftNumber (d pc : Nat) (als : List (Option AV)) (st : List AV) (w : Wd) (K : Wd → Prop) : Prop := WA true yX8_draftNumber cX8_draftNumber 4 none d 143 0 0 pc als st w (rV K)
abbrev E_X8_draftNumber (d : Nat) (as : List AV) (w : Wd) (K : Wd → Prop) : Prop := EvA true yX8_draftNumber cX8_draftNumber 4 none d 143 0 0 as w (rV K)
abbrev C_X8_draftNumber (d : Nat) (as : List AV) (w : Wd) (K : Wd → Prop) : Prop := ∃ d', d' < d ∧ E_X8_draftNumber d' as w K
abbrev W_X8_bringUpToDate (d pc : Nat) (als : List (Option AV)) (st : List AV) (w : Wd) (K : Int → Wd → Prop) : Prop := WA true yX8_bringUpToDate cX8_bringUpToDate 6 (some .int) d 143 0 0 pc als st w (rI K)
abbrev E_X8_bringUpToDate (d : Nat) (as : List AV) (w : Wd) (K : Int → Wd → Prop) : Prop := EvA true yX8_bringUpToDate cX8_bringUpToDate 6 (some .int) d 143 0 0 as w (rI K)
abbrev C_X8_bringUpToDate (d : Nat) (as : List AV) (w : Wd) (K : Int → Wd → Prop) : Prop := ∃ d', d' < d ∧ E_X8_bringUpToDate d' as w K
abbrev W_X8_followCauses (d pc : Nat) (als : List (Option AV)) (st : List AV) (w : Wd) (K : Int → Wd → Prop) : Prop := WA true yX8_followCauses cX8_followCauses 6 (some .int) d 143 0 0 pc als st w (rI K)
abbrev E_X8_followCauses (d : Nat) (as : List AV) (w : Wd) (K : Int → Wd → Prop) : Prop := EvA true yX8_followCauses cX8_followCauses 6 (some .int) d 143 0 0 as w (rI K)
abbrev C_X8_followCauses (d : Nat) (as : List AV) (w : Wd) (K : Int → Wd → Prop) : Prop := ∃ d', d' < d ∧ E_X8_followCauses d' as w K
abbrev W_X8_sumOfFacts (d pc : Nat) (als : List (Option AV)) (st : List AV) (w : Wd) (K : Int → Wd → Prop) : Prop := WA true yX8_sumOfFacts cX8_sumOfFacts 4 (some .int) d 143 0 0 pc als st w (rI K)
abbrev E_X8_sumOfFacts (d : Nat) (as : List AV) (w : Wd) (K : Int → Wd → Prop) : Prop := EvA true yX8_sumOfFacts cX8_sumOfFacts 4 (some .int) d 143 0 0 as w (rI K)
abbrev C_X8_sumOfFacts (d : Nat) (as : List AV) (w : Wd) (K : Int → Wd → Prop) : Prop := ∃ d', d' < d ∧ E_X8_sumOfFacts d' as w K
set_option maxRecDepth 10000 in
theorem e_X1_firstFault {d : Nat} {w : Wd} {K : Int → Wd → Prop} {a1 : Int} (ha1 : am_Te a1) 
    (h : ((¬ (w a1 1) = 0 → C_X2_enter d [.inr (.inr 105), .inr (.inr (a1 + 1)), .inl 0, .inl (w a1 1)] w (fun w1 => C_X1_formula d [.inr (.inr 104), .inl 0] w1 (fun x1 w2 => ((x1 = 0 → K (w2 105 3) w2) ∧ (¬ x1 = 0 → C_X2_isAtEnd d [.inr (.inr 105)] w2 (fun x2 w3 => ((x2 = 0 → K (w3 105 3) w3) ∧ (¬ x2 = 0 → K (-1) w3)))))))) ∧ ((w a1 1) = 0 → K (-1) w))) :
    E_X1_firstFault d [.inr (.inr 104), .inr (.inr a1)] w K := by
  refine EvA.of (by decide +kernel) (Nat.le_of_ble_eq_true rfl) ?_
  change W_X1_firstFault d 0 [some (.inr (.inr 104)), some (.inr (.inr a1))] [] w K
  refine WA.aload_n dX1_firstFault_0 rfl (am_Te_ne ha1) ?_
  refine gfX1_18 rfl dX1_firstFault_1 (am_Te_obj ha1) ?_
  refine WA.if_ne (tgt := 9) dX1_firstFault_4 (by decide) (fun hc => ?_) (fun hc => ?_)
  · have h := h.1 hc
    refine WA.aload_n dX1_firstFault_9 rfl (by decide) ?_
    refine gxX1_12 rfl rfl dX1_firstFault_10 ob_104 ?_
    refine WA.aload_n dX1_firstFault_13 rfl (am_Te_ne ha1) ?_
    refine gxX1_24 rfl rfl dX1_firstFault_14 (am_Te_obj ha1) ?_
    refine WA.iconst dX1_firstFault_17 ⟨by decide, by decide⟩ ?_
    refine WA.aload_n dX1_firstFault_18 rfl (am_Te_ne ha1) ?_
    refine gfX1_18 rfl dX1_firstFault_19 (am_Te_obj ha1) ?_
    obtain ⟨d1, hd1, h⟩ := h
    refine WA.callV3 (kc := 0) (ks := 0) (kc' := 0) (ks' := 0) dX1_firstFault_22 lkX1_28 rfl rfl rfl ob_105 rfl (Nat.le_of_ble_eq_true rfl) hd1 h (fun r w1 hK => ?_)
    obtain ⟨rfl, h⟩ := hK
    change WA _ _ _ _ _ _ _ _ _ _ _ [] _ _
    refine WA.aload_n dX1_firstFault_25 rfl (by decide) ?_
    refine WA.iconst dX1_firstFault_26 ⟨by decide, by decide⟩ ?_
    obtain ⟨d1, hd1, h⟩ := h
    refine WA.callV1 (kc := 0) (ks := 0) (kc' := 0) (ks' := 0) dX1_firstFault_27 lkX1_32 rfl rfl rfl ob_104 rfl (Nat.le_of_ble_eq_true rfl) hd1 h (fun r w2 hK => ?_)
    obtain ⟨x1, rfl, h⟩ := hK
    change WA _ _ _ _ _ _ _ _ _ _ _ [.inl x1] _ _
    refine WA.if_eq (tgt := 47) dX1_firstFault_30 (by decide) (fun hc => ?_) (fun hc => ?_)
    · have h := h.1 hc
      refine WA.aload_n dX1_firstFault_47 rfl (by decide) ?_
      refine gxX1_12 rfl rfl dX1_firstFault_48 ob_104 ?_
      refine gfX1_40 rfl dX1_firstFault_51 ob_105 ?_
      exact WA.ireturn dX1_firstFault_54 ⟨_, rfl, h⟩
    · have h := h.2 hc
      refine WA.aload_n dX1_firstFault_33 rfl (by decide) ?_
      refine gxX1_12 rfl rfl dX1_firstFault_34 ob_104 ?_
      obtain ⟨d1, hd1, h⟩ := h
      refine WA.callV0 (kc := 0) (ks := 0) (kc' := 0) (ks' := 0) dX1_firstFault_37 lkX1_36 rfl rfl rfl ob_105 rfl (Nat.le_of_ble_eq_true rfl) hd1 h (fun r w3 hK => ?_)
      obtain ⟨x2, rfl, h⟩ := hK
      change WA _ _ _ _ _ _ _ _ _ _ _ [.inl x2] _ _
      refine WA.if_eq (tgt := 47) dX1_firstFault_40 (by decide) (fun hc => ?_) (fun hc => ?_)
      · have h := h.1 hc
        refine WA.aload_n dX1_firstFault_47 rfl (by decide) ?_
        refine gxX1_12 rfl rfl dX1_firstFault_48 ob_104 ?_
        refine gfX1_40 rfl dX1_firstFault_51 ob_105 ?_
        exact WA.ireturn dX1_firstFault_54 ⟨_, rfl, h⟩
      · have h := h.2 hc
        refine WA.iconst dX1_firstFault_43 ⟨by decide, by decide⟩ ?_
        refine WA.goto (tgt := 54) dX1_firstFault_44 (by decide) ?_
        exact WA.ireturn dX1_firstFault_54 ⟨_, rfl, h⟩
  · have h := h.2 hc
    refine WA.iconst dX1_firstFault_7 ⟨by decide, by decide⟩ ?_
    exact WA.ireturn dX1_firstFault_8 ⟨_, rfl, h⟩
set_option maxRecDepth 10000 in
theorem v_X1_formula_4 {d : Nat} {w : Wd} {K : Int → Wd → Prop} {a1 v2 v3 : Int}  
    (h : ((30 ≤ v3 → K 1 w) ∧ (¬ (30 ≤ v3) → ((v2 = 0 → K 1 w) ∧ (¬ v2 = 0 → C_X1_product d [.inr (.inr 104), .inl a1] w (fun x1 w1 => ((¬ x1 = 0 → C_X2_pass d [.inr (.inr 105), .inl 43] w1 (fun x2 w2 => ((¬ x2 = 0 → (-2147483648 ≤ (v3 + 1) ∧ (v3 + 1) ≤ 2147483647) ∧ W_X1_formula d 4 [some (.inr (.inr 104)), some (.inl a1), some (.inl 1), some (.inl (v3 + 1))] [] w2 K) ∧ (x2 = 0 → C_X2_pass d [.inr (.inr 105), .inl 45] w2 (fun x3 w3 => ((x3 = 0 → (-2147483648 ≤ (v3 + 1) ∧ (v3 + 1) ≤ 2147483647) ∧ W_X1_formula d 4 [some (.inr (.inr 104)), some (.inl a1), some (.inl 0), some (.inl (v3 + 1))] [] w3 K) ∧ (¬ x3 = 0 → (-2147483648 ≤ (v3 + 1) ∧ (v3 + 1) ≤ 2147483647) ∧ W_X1_formula d 4 [some (.inr (.inr 104)), some (.inl a1), some (.inl 1), some (.inl (v3 + 1))] [] w3 K))))))) ∧ (x1 = 0 → K 0 w1)))))))) :
    W_X1_formula d 4 [some (.inr (.inr 104)), some (.inl a1), some (.inl v2), some (.inl v3)] [] w K := by
  refine WA.iload_n dX1_formula_4 rfl ?_
  refine WA.bipush dX1_formula_5 ⟨by decide, by decide⟩ ?_
  refine WA.icmp_ge (tgt := 60) dX1_formula_7 (by decide) (fun hc => ?_) (fun hc => ?_)
  · have h := h.1 hc
    refine WA.iconst dX1_formula_60 ⟨by decide, by decide⟩ ?_
    exact WA.zreturn dX1_formula_61 (by decide) ⟨_, rfl, h⟩
  · have h := h.2 hc
    refine WA.iload_n dX1_formula_10 rfl ?_
    refine WA.if_eq (tgt := 60) dX1_formula_11 (by decide) (fun hc => ?_) (fun hc => ?_)
    · have h := h.1 hc
      refine WA.iconst dX1_formula_60 ⟨by decide, by decide⟩ ?_
      exact WA.zreturn dX1_formula_61 (by decide) ⟨_, rfl, h⟩
    · have h := h.2 hc
      refine WA.aload_n dX1_formula_14 rfl (by decide) ?_
      refine WA.iload_n dX1_formula_15 rfl ?_
      obtain ⟨d1, hd1, h⟩ := h
      refine WA.callV1 (kc := 0) (ks := 0) (kc' := 0) (ks' := 0) dX1_formula_16 lkX1_43 rfl rfl rfl ob_104 rfl (Nat.le_of_ble_eq_true rfl) hd1 h (fun r w1 hK => ?_)
      obtain ⟨x1, rfl, h⟩ := hK
      change WA _ _ _ _ _ _ _ _ _ _ _ [.inl x1] _ _
      refine WA.if_ne (tgt := 24) dX1_formula_19 (by decide) (fun hc => ?_) (fun hc => ?_)
      · have h := h.1 hc
        refine WA.aload_n dX1_formula_24 rfl (by decide) ?_
        refine gxX1_12 rfl rfl dX1_formula_25 ob_104 ?_
        refine WA.bipush dX1_formula_28 ⟨by decide, by decide⟩ ?_
        obtain ⟨d1, hd1, h⟩ := h
        refine WA.callV1 (kc := 0) (ks := 0) (kc' := 0) (ks' := 0) dX1_formula_30 lkX1_46 rfl rfl rfl ob_105 rfl (Nat.le_of_ble_eq_true rfl) hd1 h (fun r w2 hK => ?_)
        obtain ⟨x2, rfl, h⟩ := hK
        change WA _ _ _ _ _ _ _ _ _ _ _ [.inl x2] _ _
        refine WA.if_ne (tgt := 48) dX1_formula_33 (by decide) (fun hc => ?_) (fun hc => ?_)
        · have h := h.1 hc
          refine WA.iconst dX1_formula_48 ⟨by decide, by decide⟩ ?_
          refine WA.goto (tgt := 53) dX1_formula_49 (by decide) ?_
          refine WA.istore_n (als' := [some (.inr (.inr 104)), some (.inl a1), some (.inl 1), some (.inl v3)]) dX1_formula_53 (Nat.le_of_ble_eq_true rfl) rfl ?_
          obtain ⟨s1, h⟩ := h
          refine WA.iinc (als' := [some (.inr (.inr 104)), some (.inl a1), some (.inl 1), some (.inl (v3 + 1))]) dX1_formula_54 rfl s1 rfl ?_
          refine WA.goto (tgt := 4) dX1_formula_57 (by decide) ?_
          exact h
        · have h := h.2 hc
          refine WA.aload_n dX1_formula_36 rfl (by decide) ?_
          refine gxX1_12 rfl rfl dX1_formula_37 ob_104 ?_
          refine WA.bipush dX1_formula_40 ⟨by decide, by decide⟩ ?_
          obtain ⟨d1, hd1, h⟩ := h
          refine WA.callV1 (kc := 0) (ks := 0) (kc' := 0) (ks' := 0) dX1_formula_42 lkX1_46 rfl rfl rfl ob_105 rfl (Nat.le_of_ble_eq_true rfl) hd1 h (fun r w3 hK => ?_)
          obtain ⟨x3, rfl, h⟩ := hK
          change WA _ _ _ _ _ _ _ _ _ _ _ [.inl x3] _ _
          refine WA.if_eq (tgt := 52) dX1_formula_45 (by decide) (fun hc => ?_) (fun hc => ?_)
          · have h := h.1 hc
            refine WA.iconst dX1_formula_52 ⟨by decide, by decide⟩ ?_
            refine WA.istore_n (als' := [some (.inr (.inr 104)), some (.inl a1), some (.inl 0), some (.inl v3)]) dX1_formula_53 (Nat.le_of_ble_eq_true rfl) rfl ?_
            obtain ⟨s2, h⟩ := h
            refine WA.iinc (als' := [some (.inr (.inr 104)), some (.inl a1), some (.inl 0), some (.inl (v3 + 1))]) dX1_formula_54 rfl s2 rfl ?_
            refine WA.goto (tgt := 4) dX1_formula_57 (by decide) ?_
            exact h
          · have h := h.2 hc
            refine WA.iconst dX1_formula_48 ⟨by decide, by decide⟩ ?_
            refine WA.goto (tgt := 53) dX1_formula_49 (by decide) ?_
            refine WA.istore_n (als' := [some (.inr (.inr 104)), some (.inl a1), some (.inl 1), some (.inl v3)]) dX1_formula_53 (Nat.le_of_ble_eq_true rfl) rfl ?_
            obtain ⟨s3, h⟩ := h
            refine WA.iinc (als' := [some (.inr (.inr 104)), some (.inl a1), some (.inl 1), some (.inl (v3 + 1))]) dX1_formula_54 rfl s3 rfl ?_
            refine WA.goto (tgt := 4) dX1_formula_57 (by decide) ?_
            exact h
      · have h := h.2 hc
        refine WA.iconst dX1_formula_22 ⟨by decide, by decide⟩ ?_
        exact WA.zreturn dX1_formula_23 (by decide) ⟨_, rfl, h⟩
set_option maxRecDepth 10000 in
theorem e_X1_formula {d : Nat} {w : Wd} {K : Int → Wd → Prop} {a1 : Int}  
    (h : W_X1_formula d 4 [some (.inr (.inr 104)), some (.inl a1), some (.inl 1), some (.inl 0)] [] w K) :
    E_X1_formula d [.inr (.inr 104), .inl a1] w K := by
  refine EvA.of (by decide +kernel) (Nat.le_of_ble_eq_true rfl) ?_
  change W_X1_formula d 0 [some (.inr (.inr 104)), some (.inl a1), none, none] [] w K
  refine WA.iconst dX1_formula_0 ⟨by decide, by decide⟩ ?_
  refine WA.istore_n (als' := [some (.inr (.inr 104)), some (.inl a1), some (.inl 1), none]) dX1_formula_1 (Nat.le_of_ble_eq_true rfl) rfl ?_
  refine WA.iconst dX1_formula_2 ⟨by decide, by decide⟩ ?_
  refine WA.istore_n (als' := [some (.inr (.inr 104)), some (.inl a1), some (.inl 1), some (.inl 0)]) dX1_formula_3 (Nat.le_of_ble_eq_true rfl) rfl ?_
  exact h
set_option maxRecDepth 10000 in
theorem v_X1_product_4 {d : Nat} {w : Wd} {K : Int → Wd → Prop} {a1 v2 v3 : Int}  
    (h : ((30 ≤ v3 → K 1 w) ∧ (¬ (30 ≤ v3) → ((v2 = 0 → K 1 w) ∧ (¬ v2 = 0 → C_X1_factor d [.inr (.inr 104), .inl a1] w (fun x1 w1 => ((¬ x1 = 0 → C_X2_pass d [.inr (.inr 105), .inl 42] w1 (fun x2 w2 => (-2147483648 ≤ (v3 + 1) ∧ (v3 + 1) ≤ 2147483647) ∧ W_X1_product d 4 [some (.inr (.inr 104)), some (.inl a1), some (.inl x2), some (.inl (v3 + 1))] [] w2 K)) ∧ (x1 = 0 → K 0 w1)))))))) :
    W_X1_product d 4 [some (.inr (.inr 104)), some (.inl a1), some (.inl v2), some (.inl v3)] [] w K := by
  refine WA.iload_n dX1_product_4 rfl ?_
  refine WA.bipush dX1_product_5 ⟨by decide, by decide⟩ ?_
  refine WA.icmp_ge (tgt := 40) dX1_product_7 (by decide) (fun hc => ?_) (fun hc => ?_)
  · have h := h.1 hc
    refine WA.iconst dX1_product_40 ⟨by decide, by decide⟩ ?_
    exact WA.zreturn dX1_product_41 (by decide) ⟨_, rfl, h⟩
  · have h := h.2 hc
    refine WA.iload_n dX1_product_10 rfl ?_
    refine WA.if_eq (tgt := 40) dX1_product_11 (by decide) (fun hc => ?_) (fun hc => ?_)
    · have h := h.1 hc
      refine WA.iconst dX1_product_40 ⟨by decide, by decide⟩ ?_
      exact WA.zreturn dX1_product_41 (by decide) ⟨_, rfl, h⟩
    · have h := h.2 hc
      refine WA.aload_n dX1_product_14 rfl (by decide) ?_
      refine WA.iload_n dX1_product_15 rfl ?_
      obtain ⟨d1, hd1, h⟩ := h
      refine WA.callV1 (kc := 0) (ks := 0) (kc' := 0) (ks' := 0) dX1_product_16 lkX1_49 rfl rfl rfl ob_104 rfl (Nat.le_of_ble_eq_true rfl) hd1 h (fun r w1 hK => ?_)
      obtain ⟨x1, rfl, h⟩ := hK
      change WA _ _ _ _ _ _ _ _ _ _ _ [.inl x1] _ _
      refine WA.if_ne (tgt := 24) dX1_product_19 (by decide) (fun hc => ?_) (fun hc => ?_)
      · have h := h.1 hc
        refine WA.aload_n dX1_product_24 rfl (by decide) ?_
        refine gxX1_12 rfl rfl dX1_product_25 ob_104 ?_
        refine WA.bipush dX1_product_28 ⟨by decide, by decide⟩ ?_
        obtain ⟨d1, hd1, h⟩ := h
        refine WA.callV1 (kc := 0) (ks := 0) (kc' := 0) (ks' := 0) dX1_product_30 lkX1_46 rfl rfl rfl ob_105 rfl (Nat.le_of_ble_eq_true rfl) hd1 h (fun r w2 hK => ?_)
        obtain ⟨x2, rfl, h⟩ := hK
        change WA _ _ _ _ _ _ _ _ _ _ _ [.inl x2] _ _
        refine WA.istore_n (als' := [some (.inr (.inr 104)), some (.inl a1), some (.inl x2), some (.inl v3)]) dX1_product_33 (Nat.le_of_ble_eq_true rfl) rfl ?_
        obtain ⟨s1, h⟩ := h
        refine WA.iinc (als' := [some (.inr (.inr 104)), some (.inl a1), some (.inl x2), some (.inl (v3 + 1))]) dX1_product_34 rfl s1 rfl ?_
        refine WA.goto (tgt := 4) dX1_product_37 (by decide) ?_
        exact h
      · have h := h.2 hc
        refine WA.iconst dX1_product_22 ⟨by decide, by decide⟩ ?_
        exact WA.zreturn dX1_product_23 (by decide) ⟨_, rfl, h⟩
set_option maxRecDepth 10000 in
theorem e_X1_product {d : Nat} {w : Wd} {K : Int → Wd → Prop} {a1 : Int}  
    (h : W_X1_product d 4 [some (.inr (.inr 104)), some (.inl a1), some (.inl 1), some (.inl 0)] [] w K) :
    E_X1_product d [.inr (.inr 104), .inl a1] w K := by
  refine EvA.of (by decide +kernel) (Nat.le_of_ble_eq_true rfl) ?_
  change W_X1_product d 0 [some (.inr (.inr 104)), some (.inl a1), none, none] [] w K
  refine WA.iconst dX1_product_0 ⟨by decide, by decide⟩ ?_
  refine WA.istore_n (als' := [some (.inr (.inr 104)), some (.inl a1), some (.inl 1), none]) dX1_product_1 (Nat.le_of_ble_eq_true rfl) rfl ?_
  refine WA.iconst dX1_product_2 ⟨by decide, by decide⟩ ?_
  refine WA.istore_n (als' := [some (.inr (.inr 104)), some (.inl a1), some (.inl 1), some (.inl 0)]) dX1_product_3 (Nat.le_of_ble_eq_true rfl) rfl ?_
  exact h
set_option maxRecDepth 10000 in
theorem e_X1_factor {d : Nat} {w : Wd} {K : Int → Wd → Prop} {a1 : Int}  
    (h : ((a1 ≤ 40 → C_X2_pass d [.inr (.inr 105), .inl 45] w (fun x1 w1 => ((x1 = 0 → C_X2_pass d [.inr (.inr 105), .inl 40] w1 (fun x2 w2 => ((x2 = 0 → C_X2_look d [.inr (.inr 105), .inl 0] w2 (fun x3 w3 => C_X8_isDigit d [.inl x3] w3 (fun x4 w4 => ((x4 = 0 → C_X2_isAtCell d [.inr (.inr 105)] w4 (fun x5 w5 => ((x5 = 0 → (-2147483648 ≤ (a1 + 1) ∧ (a1 + 1) ≤ 2147483647) ∧ C_X1_call d [.inr (.inr 104), .inl (a1 + 1)] w5 (fun x6 w6 => (x6 = 0 ∨ x6 = 1) ∧ K x6 w6)) ∧ (¬ x5 = 0 → (-2147483648 ≤ ((w5 105 3) + 2) ∧ ((w5 105 3) + 2) ≤ 2147483647) ∧ (∀ w7, w7 = wset w5 105 3 ((w5 105 3) + 2) → K 1 w7))))) ∧ (¬ x4 = 0 → C_X1_passNumber d [.inr (.inr 104)] w4 (fun w8 => K 1 w8)))))) ∧ (¬ x2 = 0 → (-2147483648 ≤ (a1 + 1) ∧ (a1 + 1) ≤ 2147483647) ∧ C_X1_formula d [.inr (.inr 104), .inl (a1 + 1)] w2 (fun x7 w9 => ((x7 = 0 → K 0 w9) ∧ (¬ x7 = 0 → C_X2_pass d [.inr (.inr 105), .inl 41] w9 (fun x8 w10 => ((x8 = 0 → K 0 w10) ∧ (¬ x8 = 0 → K 1 w10)))))))))) ∧ (¬ x1 = 0 → (-2147483648 ≤ (a1 + 1) ∧ (a1 + 1) ≤ 2147483647) ∧ C_X1_factor d [.inr (.inr 104), .inl (a1 + 1)] w1 (fun x9 w11 => (x9 = 0 ∨ x9 = 1) ∧ K x9 w11))))) ∧ (¬ (a1 ≤ 40) → K 0 w))) :
    E_X1_factor d [.inr (.inr 104), .inl a1] w K := by
  refine EvA.of (by decide +kernel) (Nat.le_of_ble_eq_true rfl) ?_
  change W_X1_factor d 0 [some (.inr (.inr 104)), some (.inl a1)] [] w K
  refine WA.iload_n dX1_factor_0 rfl ?_
  refine WA.bipush dX1_factor_1 ⟨by decide, by decide⟩ ?_
  refine WA.icmp_le (tgt := 8) dX1_factor_3 (by decide) (fun hc => ?_) (fun hc => ?_)
  · have h := h.1 hc
    refine WA.aload_n dX1_factor_8 rfl (by decide) ?_
    refine gxX1_12 rfl rfl dX1_factor_9 ob_104 ?_
    refine WA.bipush dX1_factor_12 ⟨by decide, by decide⟩ ?_
    obtain ⟨d1, hd1, h⟩ := h
    refine WA.callV1 (kc := 0) (ks := 0) (kc' := 0) (ks' := 0) dX1_factor_14 lkX1_46 rfl rfl rfl ob_105 rfl (Nat.le_of_ble_eq_true rfl) hd1 h (fun r w1 hK => ?_)
    obtain ⟨x1, rfl, h⟩ := hK
    change WA _ _ _ _ _ _ _ _ _ _ _ [.inl x1] _ _
    refine WA.if_eq (tgt := 28) dX1_factor_17 (by decide) (fun hc => ?_) (fun hc => ?_)
    · have h := h.1 hc
      refine WA.aload_n dX1_factor_28 rfl (by decide) ?_
      refine gxX1_12 rfl rfl dX1_factor_29 ob_104 ?_
      refine WA.bipush dX1_factor_32 ⟨by decide, by decide⟩ ?_
      obtain ⟨d1, hd1, h⟩ := h
      refine WA.callV1 (kc := 0) (ks := 0) (kc' := 0) (ks' := 0) dX1_factor_34 lkX1_46 rfl rfl rfl ob_105 rfl (Nat.le_of_ble_eq_true rfl) hd1 h (fun r w2 hK => ?_)
      obtain ⟨x2, rfl, h⟩ := hK
      change WA _ _ _ _ _ _ _ _ _ _ _ [.inl x2] _ _
      refine WA.if_eq (tgt := 68) dX1_factor_37 (by decide) (fun hc => ?_) (fun hc => ?_)
      · have h := h.1 hc
        refine WA.aload_n dX1_factor_68 rfl (by decide) ?_
        refine gxX1_12 rfl rfl dX1_factor_69 ob_104 ?_
        refine WA.iconst dX1_factor_72 ⟨by decide, by decide⟩ ?_
        obtain ⟨d1, hd1, h⟩ := h
        refine WA.callV1 (kc := 0) (ks := 0) (kc' := 0) (ks' := 0) dX1_factor_73 lkX1_52 rfl rfl rfl ob_105 rfl (Nat.le_of_ble_eq_true rfl) hd1 h (fun r w3 hK => ?_)
        obtain ⟨x3, rfl, h⟩ := hK
        change WA _ _ _ _ _ _ _ _ _ _ _ [.inl x3] _ _
        obtain ⟨d1, hd1, h⟩ := h
        refine WA.callSN1 (kc := 0) (ks := 0) (kc' := 0) (ks' := 0) dX1_factor_76 lkX1_56 rfl rfl rfl (Nat.le_of_ble_eq_true rfl) hd1 h (fun r w4 hK => ?_)
        obtain ⟨x4, rfl, h⟩ := hK
        change WA _ _ _ _ _ _ _ _ _ _ _ [.inl x4] _ _
        refine WA.if_eq (tgt := 88) dX1_factor_79 (by decide) (fun hc => ?_) (fun hc => ?_)
        · have h := h.1 hc
          refine WA.aload_n dX1_factor_88 rfl (by decide) ?_
          refine gxX1_12 rfl rfl dX1_factor_89 ob_104 ?_
          obtain ⟨d1, hd1, h⟩ := h
          refine WA.callV0 (kc := 0) (ks := 0) (kc' := 0) (ks' := 0) dX1_factor_92 lkX1_62 rfl rfl rfl ob_105 rfl (Nat.le_of_ble_eq_true rfl) hd1 h (fun r w5 hK => ?_)
          obtain ⟨x5, rfl, h⟩ := hK
          change WA _ _ _ _ _ _ _ _ _ _ _ [.inl x5] _ _
          refine WA.if_eq (tgt := 113) dX1_factor_95 (by decide) (fun hc => ?_) (fun hc => ?_)
          · have h := h.1 hc
            refine WA.aload_n dX1_factor_113 rfl (by decide) ?_
            refine WA.iload_n dX1_factor_114 rfl ?_
            refine WA.iconst dX1_factor_115 ⟨by decide, by decide⟩ ?_
            obtain ⟨s1, h⟩ := h
            refine WA.iadd dX1_factor_116 s1 ?_
            obtain ⟨d1, hd1, h⟩ := h
            refine WA.callV1 (kc := 0) (ks := 0) (kc' := 0) (ks' := 0) dX1_factor_117 lkX1_65 rfl rfl rfl ob_104 rfl (Nat.le_of_ble_eq_true rfl) hd1 h (fun r w6 hK => ?_)
            obtain ⟨x6, rfl, h⟩ := hK
            change WA _ _ _ _ _ _ _ _ _ _ _ [.inl x6] _ _
            obtain ⟨s2, h⟩ := h
            exact WA.zreturn dX1_factor_120 s2 ⟨_, rfl, h⟩
          · have h := h.2 hc
            refine WA.aload_n dX1_factor_98 rfl (by decide) ?_
            refine gxX1_12 rfl rfl dX1_factor_99 ob_104 ?_
            refine WA.dup dX1_factor_102 rfl ?_
            refine gfX1_40 rfl dX1_factor_103 ob_105 ?_
            refine WA.iconst dX1_factor_106 ⟨by decide, by decide⟩ ?_
            obtain ⟨s3, h⟩ := h
            refine WA.iadd dX1_factor_107 s3 ?_
            obtain ⟨w7, qw7⟩ : ∃ z, z = wset w5 105 3 ((w5 105 3) + 2) := ⟨_, rfl⟩
            have h := h w7 qw7
            refine pfX1_40 rfl dX1_factor_108 ob_105 ?_
            rw [← qw7]
            refine WA.iconst dX1_factor_111 ⟨by decide, by decide⟩ ?_
            exact WA.zreturn dX1_factor_112 (by decide) ⟨_, rfl, h⟩
        · have h := h.2 hc
          refine WA.aload_n dX1_factor_82 rfl (by decide) ?_
          obtain ⟨d1, hd1, h⟩ := h
          refine WA.callV0 (kc := 0) (ks := 0) (kc' := 0) (ks' := 0) dX1_factor_83 lkX1_59 rfl rfl rfl ob_104 rfl (Nat.le_of_ble_eq_true rfl) hd1 h (fun r w8 hK => ?_)
          obtain ⟨rfl, h⟩ := hK
          change WA _ _ _ _ _ _ _ _ _ _ _ [] _ _
          refine WA.iconst dX1_factor_86 ⟨by decide, by decide⟩ ?_
          exact WA.zreturn dX1_factor_87 (by decide) ⟨_, rfl, h⟩
      · have h := h.2 hc
        refine WA.aload_n dX1_factor_40 rfl (by decide) ?_
        refine WA.iload_n dX1_factor_41 rfl ?_
        refine WA.iconst dX1_factor_42 ⟨by decide, by decide⟩ ?_
        obtain ⟨s4, h⟩ := h
        refine WA.iadd dX1_factor_43 s4 ?_
        obtain ⟨d1, hd1, h⟩ := h
        refine WA.callV1 (kc := 0) (ks := 0) (kc' := 0) (ks' := 0) dX1_factor_44 lkX1_32 rfl rfl rfl ob_104 rfl (Nat.le_of_ble_eq_true rfl) hd1 h (fun r w9 hK => ?_)
        obtain ⟨x7, rfl, h⟩ := hK
        change WA _ _ _ _ _ _ _ _ _ _ _ [.inl x7] _ _
        refine WA.if_eq (tgt := 66) dX1_factor_47 (by decide) (fun hc => ?_) (fun hc => ?_)
        · have h := h.1 hc
          refine WA.iconst dX1_factor_66 ⟨by decide, by decide⟩ ?_
          exact WA.zreturn dX1_factor_67 (by decide) ⟨_, rfl, h⟩
        · have h := h.2 hc
          refine WA.aload_n dX1_factor_50 rfl (by decide) ?_
          refine gxX1_12 rfl rfl dX1_factor_51 ob_104 ?_
          refine WA.bipush dX1_factor_54 ⟨by decide, by decide⟩ ?_
          obtain ⟨d1, hd1, h⟩ := h
          refine WA.callV1 (kc := 0) (ks := 0) (kc' := 0) (ks' := 0) dX1_factor_56 lkX1_46 rfl rfl rfl ob_105 rfl (Nat.le_of_ble_eq_true rfl) hd1 h (fun r w10 hK => ?_)
          obtain ⟨x8, rfl, h⟩ := hK
          change WA _ _ _ _ _ _ _ _ _ _ _ [.inl x8] _ _
          refine WA.if_eq (tgt := 66) dX1_factor_59 (by decide) (fun hc => ?_) (fun hc => ?_)
          · have h := h.1 hc
            refine WA.iconst dX1_factor_66 ⟨by decide, by decide⟩ ?_
            exact WA.zreturn dX1_factor_67 (by decide) ⟨_, rfl, h⟩
          · have h := h.2 hc
            refine WA.iconst dX1_factor_62 ⟨by decide, by decide⟩ ?_
            refine WA.goto (tgt := 67) dX1_factor_63 (by decide) ?_
            exact WA.zreturn dX1_factor_67 (by decide) ⟨_, rfl, h⟩
    · have h := h.2 hc
      refine WA.aload_n dX1_factor_20 rfl (by decide) ?_
      refine WA.iload_n dX1_factor_21 rfl ?_
      refine WA.iconst dX1_factor_22 ⟨by decide, by decide⟩ ?_
      obtain ⟨s5, h⟩ := h
      refine WA.iadd dX1_factor_23 s5 ?_
      obtain ⟨d1, hd1, h⟩ := h
      refine WA.callV1 (kc := 0) (ks := 0) (kc' := 0) (ks' := 0) dX1_factor_24 lkX1_49 rfl rfl rfl ob_104 rfl (Nat.le_of_ble_eq_true rfl) hd1 h (fun r w11 hK => ?_)
      obtain ⟨x9, rfl, h⟩ := hK
      change WA _ _ _ _ _ _ _ _ _ _ _ [.inl x9] _ _
      obtain ⟨s6, h⟩ := h
      exact WA.zreturn dX1_factor_27 s6 ⟨_, rfl, h⟩
  · have h := h.2 hc
    refine WA.iconst dX1_factor_6 ⟨by decide, by decide⟩ ?_
    exact WA.zreturn dX1_factor_7 (by decide) ⟨_, rfl, h⟩
set_option maxRecDepth 10000 in
theorem v_X1_passNumber_2 {d : Nat} {w : Wd} {K : Wd → Prop} {v1 : Int}  
    (h : ((6 ≤ v1 → K w) ∧ (¬ (6 ≤ v1) → C_X2_look d [.inr (.inr 105), .inl 0] w (fun x1 w1 => C_X8_isDigit d [.inl x1] w1 (fun x2 w2 => ((x2 = 0 → K w2) ∧ (¬ x2 = 0 → (-2147483648 ≤ ((w2 105 3) + 1) ∧ ((w2 105 3) + 1) ≤ 2147483647) ∧ (∀ w3, w3 = wset w2 105 3 ((w2 105 3) + 1) → (-2147483648 ≤ (v1 + 1) ∧ (v1 + 1) ≤ 2147483647) ∧ W_X1_passNumber d 2 [some (.inr (.inr 104)), some (.inl (v1 + 1))] [] w3 K)))))))) :
    W_X1_passNumber d 2 [some (.inr (.inr 104)), some (.inl v1)] [] w K := by
  refine WA.iload_n dX1_passNumber_2 rfl ?_
  refine WA.bipush dX1_passNumber_3 ⟨by decide, by decide⟩ ?_
  refine WA.icmp_ge (tgt := 41) dX1_passNumber_5 (by decide) (fun hc => ?_) (fun hc => ?_)
  · have h := h.1 hc
    exact WA.vreturn dX1_passNumber_41 ⟨rfl, h⟩
  · have h := h.2 hc
    refine WA.aload_n dX1_passNumber_8 rfl (by decide) ?_
    refine gxX1_12 rfl rfl dX1_passNumber_9 ob_104 ?_
    refine WA.iconst dX1_passNumber_12 ⟨by decide, by decide⟩ ?_
    obtain ⟨d1, hd1, h⟩ := h
    refine WA.callV1 (kc := 0) (ks := 0) (kc' := 0) (ks' := 0) dX1_passNumber_13 lkX1_52 rfl rfl rfl ob_105 rfl (Nat.le_of_ble_eq_true rfl) hd1 h (fun r w1 hK => ?_)
    obtain ⟨x1, rfl, h⟩ := hK
    change WA _ _ _ _ _ _ _ _ _ _ _ [.inl x1] _ _
    obtain ⟨d1, hd1, h⟩ := h
    refine WA.callSN1 (kc := 0) (ks := 0) (kc' := 0) (ks' := 0) dX1_passNumber_16 lkX1_56 rfl rfl rfl (Nat.le_of_ble_eq_true rfl) hd1 h (fun r w2 hK => ?_)
    obtain ⟨x2, rfl, h⟩ := hK
    change WA _ _ _ _ _ _ _ _ _ _ _ [.inl x2] _ _
    refine WA.if_eq (tgt := 41) dX1_passNumber_19 (by decide) (fun hc => ?_) (fun hc => ?_)
    · have h := h.1 hc
      exact WA.vreturn dX1_passNumber_41 ⟨rfl, h⟩
    · have h := h.2 hc
      refine WA.aload_n dX1_passNumber_22 rfl (by decide) ?_
      refine gxX1_12 rfl rfl dX1_passNumber_23 ob_104 ?_
      refine WA.dup dX1_passNumber_26 rfl ?_
      refine gfX1_40 rfl dX1_passNumber_27 ob_105 ?_
      refine WA.iconst dX1_passNumber_30 ⟨by decide, by decide⟩ ?_
      obtain ⟨s1, h⟩ := h
      refine WA.iadd dX1_passNumber_31 s1 ?_
      obtain ⟨w3, qw3⟩ : ∃ z, z = wset w2 105 3 ((w2 105 3) + 1) := ⟨_, rfl⟩
      have h := h w3 qw3
      refine pfX1_40 rfl dX1_passNumber_32 ob_105 ?_
      rw [← qw3]
      obtain ⟨s2, h⟩ := h
      refine WA.iinc (als' := [some (.inr (.inr 104)), some (.inl (v1 + 1))]) dX1_passNumber_35 rfl s2 rfl ?_
      refine WA.goto (tgt := 2) dX1_passNumber_38 (by decide) ?_
      exact h
set_option maxRecDepth 10000 in
theorem e_X1_passNumber {d : Nat} {w : Wd} {K : Wd → Prop}  
    (h : W_X1_passNumber d 2 [some (.inr (.inr 104)), some (.inl 0)] [] w K) :
    E_X1_passNumber d [.inr (.inr 104)] w K := by
  refine EvA.of (by decide +kernel) (Nat.le_of_ble_eq_true rfl) ?_
  change W_X1_passNumber d 0 [some (.inr (.inr 104)), none] [] w K
  refine WA.iconst dX1_passNumber_0 ⟨by decide, by decide⟩ ?_
  refine WA.istore_n (als' := [some (.inr (.inr 104)), some (.inl 0)]) dX1_passNumber_1 (Nat.le_of_ble_eq_true rfl) rfl ?_
  exact h
set_option maxRecDepth 10000 in
theorem v_X1_call_22 {d : Nat} {w : Wd} {K : Int → Wd → Prop} {a1 v2 v3 : Int}  (hd : 2 ≤ d) 
    (h : ((9 ≤ v3 → (-2147483648 ≤ ((w 105 3) + v2) ∧ ((w 105 3) + v2) ≤ 2147483647) ∧ (∀ w1, w1 = wset w 105 3 ((w 105 3) + v2) → K 0 w1)) ∧ (¬ (9 ≤ v3) → C_X8_nameOf d [.inl v3] w (fun x1 w2 => C_X2_matching d [.inr (.inr 105), .inr (.inr x1)] w2 (fun x2 w3 => C_X8_nameOf d [.inl v3] w3 (fun x3 w4 => (∃ j1 : Nat, j1 < 9 ∧ x3 = -3 - (j1 : Int) ∧ C_J0_length_8abf5 d [.inr (.inr (-3 - (j1 : Int)))] w4 (fun x4 w5 => ((¬ x2 = x4 → (-2147483648 ≤ (v3 + 1) ∧ (v3 + 1) ≤ 2147483647) ∧ W_X1_call d 22 [some (.inr (.inr 104)), some (.inl a1), some (.inl (max v2 x2)), some (.inl (v3 + 1)), none] [] w5 K) ∧ (x2 = x4 → (-2147483648 ≤ ((w5 105 3) + x2) ∧ ((w5 105 3) + x2) ≤ 2147483647) ∧ (∀ w6, w6 = wset w5 105 3 ((w5 105 3) + x2) → C_X1_parts d [.inr (.inr 104), .inl v3, .inl a1] w6 (fun x5 w7 => (x5 = 0 ∨ x5 = 1) ∧ K x5 w7)))))))))))) :
    W_X1_call d 22 [some (.inr (.inr 104)), some (.inl a1), some (.inl v2), some (.inl v3), none] [] w K := by
  refine WA.iload_n dX1_call_22 rfl ?_
  refine WA.bipush dX1_call_23 ⟨by decide, by decide⟩ ?_
  refine WA.icmp_ge (tgt := 87) dX1_call_25 (by decide) (fun hc => ?_) (fun hc => ?_)
  · have h := h.1 hc
    refine WA.aload_n dX1_call_87 rfl (by decide) ?_
    refine gxX1_12 rfl rfl dX1_call_88 ob_104 ?_
    refine WA.dup dX1_call_91 rfl ?_
    refine gfX1_40 rfl dX1_call_92 ob_105 ?_
    refine WA.iload_n dX1_call_95 rfl ?_
    obtain ⟨s1, h⟩ := h
    refine WA.iadd dX1_call_96 s1 ?_
    obtain ⟨w1, qw1⟩ : ∃ z, z = wset w 105 3 ((w 105 3) + v2) := ⟨_, rfl⟩
    have h := h w1 qw1
    refine pfX1_40 rfl dX1_call_97 ob_105 ?_
    rw [← qw1]
    refine WA.iconst dX1_call_100 ⟨by decide, by decide⟩ ?_
    exact WA.zreturn dX1_call_101 (by decide) ⟨_, rfl, h⟩
  · have h := h.2 hc
    refine WA.aload_n dX1_call_28 rfl (by decide) ?_
    refine gxX1_12 rfl rfl dX1_call_29 ob_104 ?_
    refine WA.iload_n dX1_call_32 rfl ?_
    obtain ⟨d1, hd1, h⟩ := h
    refine WA.callSN1 (kc := 0) (ks := 0) (kc' := 0) (ks' := 0) dX1_call_33 lkX1_71 rfl rfl rfl (Nat.le_of_ble_eq_true rfl) hd1 h (fun r w2 hK => ?_)
    obtain ⟨x1, rfl, h⟩ := hK
    change WA _ _ _ _ _ _ _ _ _ _ _ [.inr (.inr x1), .inr (.inr 105)] _ _
    obtain ⟨d1, hd1, h⟩ := h
    refine WA.callV1 (kc := 0) (ks := 0) (kc' := 0) (ks' := 0) dX1_call_36 lkX1_75 rfl rfl rfl ob_105 rfl (Nat.le_of_ble_eq_true rfl) hd1 h (fun r w3 hK => ?_)
    obtain ⟨x2, rfl, h⟩ := hK
    change WA _ _ _ _ _ _ _ _ _ _ _ [.inl x2] _ _
    refine WA.istore (als' := [some (.inr (.inr 104)), some (.inl a1), some (.inl v2), some (.inl v3), some (.inl x2)]) dX1_call_39 (Nat.le_of_ble_eq_true rfl) rfl ?_
    refine WA.iload dX1_call_41 rfl ?_
    refine WA.iload_n dX1_call_43 rfl ?_
    obtain ⟨d1, hd1, h⟩ := h
    refine WA.callSN1 (kc := 0) (ks := 0) (kc' := 0) (ks' := 0) dX1_call_44 lkX1_71 rfl rfl rfl (Nat.le_of_ble_eq_true rfl) hd1 h (fun r w4 hK => ?_)
    obtain ⟨x3, rfl, h⟩ := hK
    change WA _ _ _ _ _ _ _ _ _ _ _ [.inr (.inr x3), .inl x2] _ _
    obtain ⟨j1, s2, es2, h⟩ := h
    refine WA.top (v2 := .inr (.inr (-3 - (j1 : Int)))) (by rw [es2]) ?_
    obtain ⟨d1, hd1, h⟩ := h
    refine WA.callStr (As := []) (kc := 0) (ks := 0) (kc' := 0) (ks' := 0) s2 dX1_call_47 lkX1_79 rfl hd1 (Nat.le_of_ble_eq_true rfl) h (fun r w5 hK => ?_)
    obtain ⟨x4, rfl, h⟩ := hK
    change WA _ _ _ _ _ _ _ _ _ _ _ [.inl x4, .inl x2] _ _
    refine WA.icmp_ne (tgt := 74) dX1_call_50 (by decide) (fun hc => ?_) (fun hc => ?_)
    · have h := h.1 hc
      refine WA.iload_n dX1_call_74 rfl ?_
      refine WA.iload dX1_call_75 rfl ?_
      refine WA.mathmax dX1_call_77 (am_mem 411 (by decide +kernel) rfl) (am_mem 412 (by decide +kernel) rfl) (am_mem 15 (by decide +kernel) rfl) (am_mem 413 (by decide +kernel) rfl) (Nat.le_trans (by decide) hd) (Nat.le_of_ble_eq_true rfl) ?_
      refine WA.istore_n (als' := [some (.inr (.inr 104)), some (.inl a1), some (.inl (max v2 x2)), some (.inl v3), some (.inl x2)]) dX1_call_80 (Nat.le_of_ble_eq_true rfl) rfl ?_
      obtain ⟨s3, h⟩ := h
      refine WA.iinc (als' := [some (.inr (.inr 104)), some (.inl a1), some (.inl (max v2 x2)), some (.inl (v3 + 1)), some (.inl x2)]) dX1_call_81 rfl s3 rfl ?_
      refine WA.goto (tgt := 22) dX1_call_84 (by decide) ?_
      exact WA.sub (als' := [some (.inr (.inr 104)), some (.inl a1), some (.inl (max v2 x2)), some (.inl (v3 + 1)), none]) (by simp only [am_sub, and_self]) rfl h
    · have h := h.2 hc
      refine WA.aload_n dX1_call_53 rfl (by decide) ?_
      refine gxX1_12 rfl rfl dX1_call_54 ob_104 ?_
      refine WA.dup dX1_call_57 rfl ?_
      refine gfX1_40 rfl dX1_call_58 ob_105 ?_
      refine WA.iload dX1_call_61 rfl ?_
      obtain ⟨s4, h⟩ := h
      refine WA.iadd dX1_call_63 s4 ?_
      obtain ⟨w6, qw6⟩ : ∃ z, z = wset w5 105 3 ((w5 105 3) + x2) := ⟨_, rfl⟩
      have h := h w6 qw6
      refine pfX1_40 rfl dX1_call_64 ob_105 ?_
      rw [← qw6]
      refine WA.aload_n dX1_call_67 rfl (by decide) ?_
      refine WA.iload_n dX1_call_68 rfl ?_
      refine WA.iload_n dX1_call_69 rfl ?_
      obtain ⟨d1, hd1, h⟩ := h
      refine WA.callV2 (kc := 0) (ks := 0) (kc' := 0) (ks' := 0) dX1_call_70 lkX1_84 rfl rfl rfl ob_104 rfl (Nat.le_of_ble_eq_true rfl) hd1 h (fun r w7 hK => ?_)
      obtain ⟨x5, rfl, h⟩ := hK
      change WA _ _ _ _ _ _ _ _ _ _ _ [.inl x5] _ _
      obtain ⟨s5, h⟩ := h
      exact WA.zreturn dX1_call_73 s5 ⟨_, rfl, h⟩
set_option maxRecDepth 10000 in
theorem e_X1_call {d : Nat} {w : Wd} {K : Int → Wd → Prop} {a1 : Int}  
    (h : C_X2_look d [.inr (.inr 105), .inl 0] w (fun x1 w1 => C_X8_isColumnLetter d [.inl x1] w1 (fun x2 w2 => ((x2 = 0 → W_X1_call d 22 [some (.inr (.inr 104)), some (.inl a1), some (.inl 0), some (.inl 0), none] [] w2 K) ∧ (¬ x2 = 0 → W_X1_call d 22 [some (.inr (.inr 104)), some (.inl a1), some (.inl 1), some (.inl 0), none] [] w2 K))))) :
    E_X1_call d [.inr (.inr 104), .inl a1] w K := by
  refine EvA.of (by decide +kernel) (Nat.le_of_ble_eq_true rfl) ?_
  change W_X1_call d 0 [some (.inr (.inr 104)), some (.inl a1), none, none, none] [] w K
  refine WA.aload_n dX1_call_0 rfl (by decide) ?_
  refine gxX1_12 rfl rfl dX1_call_1 ob_104 ?_
  refine WA.iconst dX1_call_4 ⟨by decide, by decide⟩ ?_
  obtain ⟨d1, hd1, h⟩ := h
  refine WA.callV1 (kc := 0) (ks := 0) (kc' := 0) (ks' := 0) dX1_call_5 lkX1_52 rfl rfl rfl ob_105 rfl (Nat.le_of_ble_eq_true rfl) hd1 h (fun r w1 hK => ?_)
  obtain ⟨x1, rfl, h⟩ := hK
  change WA _ _ _ _ _ _ _ _ _ _ _ [.inl x1] _ _
  obtain ⟨d1, hd1, h⟩ := h
  refine WA.callSN1 (kc := 0) (ks := 0) (kc' := 0) (ks' := 0) dX1_call_8 lkX1_68 rfl rfl rfl (Nat.le_of_ble_eq_true rfl) hd1 h (fun r w2 hK => ?_)
  obtain ⟨x2, rfl, h⟩ := hK
  change WA _ _ _ _ _ _ _ _ _ _ _ [.inl x2] _ _
  refine WA.if_eq (tgt := 18) dX1_call_11 (by decide) (fun hc => ?_) (fun hc => ?_)
  · have h := h.1 hc
    refine WA.iconst dX1_call_18 ⟨by decide, by decide⟩ ?_
    refine WA.istore_n (als' := [some (.inr (.inr 104)), some (.inl a1), some (.inl 0), none, none]) dX1_call_19 (Nat.le_of_ble_eq_true rfl) rfl ?_
    refine WA.iconst dX1_call_20 ⟨by decide, by decide⟩ ?_
    refine WA.istore_n (als' := [some (.inr (.inr 104)), some (.inl a1), some (.inl 0), some (.inl 0), none]) dX1_call_21 (Nat.le_of_ble_eq_true rfl) rfl ?_
    exact h
  · have h := h.2 hc
    refine WA.iconst dX1_call_14 ⟨by decide, by decide⟩ ?_
    refine WA.goto (tgt := 19) dX1_call_15 (by decide) ?_
    refine WA.istore_n (als' := [some (.inr (.inr 104)), some (.inl a1), some (.inl 1), none, none]) dX1_call_19 (Nat.le_of_ble_eq_true rfl) rfl ?_
    refine WA.iconst dX1_call_20 ⟨by decide, by decide⟩ ?_
    refine WA.istore_n (als' := [some (.inr (.inr 104)), some (.inl a1), some (.inl 1), some (.inl 0), none]) dX1_call_21 (Nat.le_of_ble_eq_true rfl) rfl ?_
    exact h
set_option maxRecDepth 10000 in
theorem v_X1_parts_2 {d : Nat} {w : Wd} {K : Int → Wd → Prop} {a1 a2 v3 : Int}  
    (h : (0 ≤ a1 ∧ a1 < 9) ∧ (((am_most.getD a1.toNat 0) < v3 → K 0 w) ∧ (¬ ((am_most.getD a1.toNat 0) < v3) → C_X1_isAtArea d [.inr (.inr 104), .inl a1] w (fun x1 w1 => ((x1 = 0 → C_X1_formula d [.inr (.inr 104), .inl a2] w1 (fun x2 w2 => ((¬ x2 = 0 → (0 ≤ a1 ∧ a1 < 9) ∧ ((v3 < (am_least.getD a1.toNat 0) → (0 ≤ a1 ∧ a1 < 9) ∧ ((v3 = (am_most.getD a1.toNat 0) → K 0 w2) ∧ (¬ v3 = (am_most.getD a1.toNat 0) → C_X2_pass d [.inr (.inr 105), .inl 44] w2 (fun x3 w3 => ((¬ x3 = 0 → (-2147483648 ≤ (v3 + 1) ∧ (v3 + 1) ≤ 2147483647) ∧ W_X1_parts d 2 [some (.inr (.inr 104)), some (.inl a1), some (.inl a2), some (.inl (v3 + 1)), none] [] w3 K) ∧ (x3 = 0 → K 0 w3)))))) ∧ (¬ (v3 < (am_least.getD a1.toNat 0)) → C_X2_pass d [.inr (.inr 105), .inl 41] w2 (fun x4 w4 => ((x4 = 0 → (0 ≤ a1 ∧ a1 < 9) ∧ ((v3 = (am_most.getD a1.toNat 0) → K 0 w4) ∧ (¬ v3 = (am_most.getD a1.toNat 0) → C_X2_pass d [.inr (.inr 105), .inl 44] w4 (fun x5 w5 => ((¬ x5 = 0 → (-2147483648 ≤ (v3 + 1) ∧ (v3 + 1) ≤ 2147483647) ∧ W_X1_parts d 2 [some (.inr (.inr 104)), some (.inl a1), some (.inl a2), some (.inl (v3 + 1)), none] [] w5 K) ∧ (x5 = 0 → K 0 w5)))))) ∧ (¬ x4 = 0 → K 1 w4)))))) ∧ (x2 = 0 → K 0 w2)))) ∧ (¬ x1 = 0 → C_X1_area d [.inr (.inr 104)] w1 (fun x6 w6 => ((¬ x6 = 0 → (0 ≤ a1 ∧ a1 < 9) ∧ ((v3 < (am_least.getD a1.toNat 0) → (0 ≤ a1 ∧ a1 < 9) ∧ ((v3 = (am_most.getD a1.toNat 0) → K 0 w6) ∧ (¬ v3 = (am_most.getD a1.toNat 0) → C_X2_pass d [.inr (.inr 105), .inl 44] w6 (fun x7 w7 => ((¬ x7 = 0 → (-2147483648 ≤ (v3 + 1) ∧ (v3 + 1) ≤ 2147483647) ∧ W_X1_parts d 2 [some (.inr (.inr 104)), some (.inl a1), some (.inl a2), some (.inl (v3 + 1)), none] [] w7 K) ∧ (x7 = 0 → K 0 w7)))))) ∧ (¬ (v3 < (am_least.getD a1.toNat 0)) → C_X2_pass d [.inr (.inr 105), .inl 41] w6 (fun x8 w8 => ((x8 = 0 → (0 ≤ a1 ∧ a1 < 9) ∧ ((v3 = (am_most.getD a1.toNat 0) → K 0 w8) ∧ (¬ v3 = (am_most.getD a1.toNat 0) → C_X2_pass d [.inr (.inr 105), .inl 44] w8 (fun x9 w9 => ((¬ x9 = 0 → (-2147483648 ≤ (v3 + 1) ∧ (v3 + 1) ≤ 2147483647) ∧ W_X1_parts d 2 [some (.inr (.inr 104)), some (.inl a1), some (.inl a2), some (.inl (v3 + 1)), none] [] w9 K) ∧ (x9 = 0 → K 0 w9)))))) ∧ (¬ x8 = 0 → K 1 w8)))))) ∧ (x6 = 0 → K 0 w6))))))))) :
    W_X1_parts d 2 [some (.inr (.inr 104)), some (.inl a1), some (.inl a2), some (.inl v3), none] [] w K := by
  refine WA.iload_n dX1_parts_2 rfl ?_
  refine WA.getmost dX1_parts_3 (am_memN 394 (by decide +kernel) rfl) ?_
  refine WA.iload_n dX1_parts_6 rfl ?_
  obtain ⟨s1, h⟩ := h
  refine WA.most dX1_parts_7 s1.1 s1.2 ?_
  refine WA.icmp_gt (tgt := 92) dX1_parts_8 (by decide) (fun hc => ?_) (fun hc => ?_)
  · have h := h.1 hc
    refine WA.iconst dX1_parts_92 ⟨by decide, by decide⟩ ?_
    exact WA.zreturn dX1_parts_93 (by decide) ⟨_, rfl, h⟩
  · have h := h.2 hc
    refine WA.aload_n dX1_parts_11 rfl (by decide) ?_
    refine WA.iload_n dX1_parts_12 rfl ?_
    obtain ⟨d1, hd1, h⟩ := h
    refine WA.callV1 (kc := 0) (ks := 0) (kc' := 0) (ks' := 0) dX1_parts_13 lkX1_97 rfl rfl rfl ob_104 rfl (Nat.le_of_ble_eq_true rfl) hd1 h (fun r w1 hK => ?_)
    obtain ⟨x1, rfl, h⟩ := hK
    change WA _ _ _ _ _ _ _ _ _ _ _ [.inl x1] _ _
    refine WA.if_eq (tgt := 26) dX1_parts_16 (by decide) (fun hc => ?_) (fun hc => ?_)
    · have h := h.1 hc
      refine WA.aload_n dX1_parts_26 rfl (by decide) ?_
      refine WA.iload_n dX1_parts_27 rfl ?_
      obtain ⟨d1, hd1, h⟩ := h
      refine WA.callV1 (kc := 0) (ks := 0) (kc' := 0) (ks' := 0) dX1_parts_28 lkX1_32 rfl rfl rfl ob_104 rfl (Nat.le_of_ble_eq_true rfl) hd1 h (fun r w2 hK => ?_)
      obtain ⟨x2, rfl, h⟩ := hK
      change WA _ _ _ _ _ _ _ _ _ _ _ [.inl x2] _ _
      refine WA.istore (als' := [some (.inr (.inr 104)), some (.inl a1), some (.inl a2), some (.inl v3), some (.inl x2)]) dX1_parts_31 (Nat.le_of_ble_eq_true rfl) rfl ?_
      refine WA.iload dX1_parts_33 rfl ?_
      refine WA.if_ne (tgt := 40) dX1_parts_35 (by decide) (fun hc => ?_) (fun hc => ?_)
      · have h := h.1 hc
        refine WA.iload_n dX1_parts_40 rfl ?_
        refine WA.getleast dX1_parts_41 (am_memN 409 (by decide +kernel) rfl) ?_
        refine WA.iload_n dX1_parts_44 rfl ?_
        obtain ⟨s2, h⟩ := h
        refine WA.least dX1_parts_45 s2.1 s2.2 ?_
        refine WA.icmp_lt (tgt := 63) dX1_parts_46 (by decide) (fun hc => ?_) (fun hc => ?_)
        · have h := h.1 hc
          refine WA.iload_n dX1_parts_63 rfl ?_
          refine WA.getmost dX1_parts_64 (am_memN 394 (by decide +kernel) rfl) ?_
          refine WA.iload_n dX1_parts_67 rfl ?_
          obtain ⟨s3, h⟩ := h
          refine WA.most dX1_parts_68 s3.1 s3.2 ?_
          refine WA.icmp_eq (tgt := 84) dX1_parts_69 (by decide) (fun hc => ?_) (fun hc => ?_)
          · have h := h.1 hc
            refine WA.iconst dX1_parts_84 ⟨by decide, by decide⟩ ?_
            exact WA.zreturn dX1_parts_85 (by decide) ⟨_, rfl, h⟩
          · have h := h.2 hc
            refine WA.aload_n dX1_parts_72 rfl (by decide) ?_
            refine gxX1_12 rfl rfl dX1_parts_73 ob_104 ?_
            refine WA.bipush dX1_parts_76 ⟨by decide, by decide⟩ ?_
            obtain ⟨d1, hd1, h⟩ := h
            refine WA.callV1 (kc := 0) (ks := 0) (kc' := 0) (ks' := 0) dX1_parts_78 lkX1_46 rfl rfl rfl ob_105 rfl (Nat.le_of_ble_eq_true rfl) hd1 h (fun r w3 hK => ?_)
            obtain ⟨x3, rfl, h⟩ := hK
            change WA _ _ _ _ _ _ _ _ _ _ _ [.inl x3] _ _
            refine WA.if_ne (tgt := 86) dX1_parts_81 (by decide) (fun hc => ?_) (fun hc => ?_)
            · have h := h.1 hc
              obtain ⟨s4, h⟩ := h
              refine WA.iinc (als' := [some (.inr (.inr 104)), some (.inl a1), some (.inl a2), some (.inl (v3 + 1)), some (.inl x2)]) dX1_parts_86 rfl s4 rfl ?_
              refine WA.goto (tgt := 2) dX1_parts_89 (by decide) ?_
              exact WA.sub (als' := [some (.inr (.inr 104)), some (.inl a1), some (.inl a2), some (.inl (v3 + 1)), none]) (by simp only [am_sub, and_self]) rfl h
            · have h := h.2 hc
              refine WA.iconst dX1_parts_84 ⟨by decide, by decide⟩ ?_
              exact WA.zreturn dX1_parts_85 (by decide) ⟨_, rfl, h⟩
        · have h := h.2 hc
          refine WA.aload_n dX1_parts_49 rfl (by decide) ?_
          refine gxX1_12 rfl rfl dX1_parts_50 ob_104 ?_
          refine WA.bipush dX1_parts_53 ⟨by decide, by decide⟩ ?_
          obtain ⟨d1, hd1, h⟩ := h
          refine WA.callV1 (kc := 0) (ks := 0) (kc' := 0) (ks' := 0) dX1_parts_55 lkX1_46 rfl rfl rfl ob_105 rfl (Nat.le_of_ble_eq_true rfl) hd1 h (fun r w4 hK => ?_)
          obtain ⟨x4, rfl, h⟩ := hK
          change WA _ _ _ _ _ _ _ _ _ _ _ [.inl x4] _ _
          refine WA.if_eq (tgt := 63) dX1_parts_58 (by decide) (fun hc => ?_) (fun hc => ?_)
          · have h := h.1 hc
            refine WA.iload_n dX1_parts_63 rfl ?_
            refine WA.getmost dX1_parts_64 (am_memN 394 (by decide +kernel) rfl) ?_
            refine WA.iload_n dX1_parts_67 rfl ?_
            obtain ⟨s5, h⟩ := h
            refine WA.most dX1_parts_68 s5.1 s5.2 ?_
            refine WA.icmp_eq (tgt := 84) dX1_parts_69 (by decide) (fun hc => ?_) (fun hc => ?_)
            · have h := h.1 hc
              refine WA.iconst dX1_parts_84 ⟨by decide, by decide⟩ ?_
              exact WA.zreturn dX1_parts_85 (by decide) ⟨_, rfl, h⟩
            · have h := h.2 hc
              refine WA.aload_n dX1_parts_72 rfl (by decide) ?_
              refine gxX1_12 rfl rfl dX1_parts_73 ob_104 ?_
              refine WA.bipush dX1_parts_76 ⟨by decide, by decide⟩ ?_
              obtain ⟨d1, hd1, h⟩ := h
              refine WA.callV1 (kc := 0) (ks := 0) (kc' := 0) (ks' := 0) dX1_parts_78 lkX1_46 rfl rfl rfl ob_105 rfl (Nat.le_of_ble_eq_true rfl) hd1 h (fun r w5 hK => ?_)
              obtain ⟨x5, rfl, h⟩ := hK
              change WA _ _ _ _ _ _ _ _ _ _ _ [.inl x5] _ _
              refine WA.if_ne (tgt := 86) dX1_parts_81 (by decide) (fun hc => ?_) (fun hc => ?_)
              · have h := h.1 hc
                obtain ⟨s6, h⟩ := h
                refine WA.iinc (als' := [some (.inr (.inr 104)), some (.inl a1), some (.inl a2), some (.inl (v3 + 1)), some (.inl x2)]) dX1_parts_86 rfl s6 rfl ?_
                refine WA.goto (tgt := 2) dX1_parts_89 (by decide) ?_
                exact WA.sub (als' := [some (.inr (.inr 104)), some (.inl a1), some (.inl a2), some (.inl (v3 + 1)), none]) (by simp only [am_sub, and_self]) rfl h
              · have h := h.2 hc
                refine WA.iconst dX1_parts_84 ⟨by decide, by decide⟩ ?_
                exact WA.zreturn dX1_parts_85 (by decide) ⟨_, rfl, h⟩
          · have h := h.2 hc
            refine WA.iconst dX1_parts_61 ⟨by decide, by decide⟩ ?_
            exact WA.zreturn dX1_parts_62 (by decide) ⟨_, rfl, h⟩
      · have h := h.2 hc
        refine WA.iconst dX1_parts_38 ⟨by decide, by decide⟩ ?_
        exact WA.zreturn dX1_parts_39 (by decide) ⟨_, rfl, h⟩
    · have h := h.2 hc
      refine WA.aload_n dX1_parts_19 rfl (by decide) ?_
      obtain ⟨d1, hd1, h⟩ := h
      refine WA.callV0 (kc := 0) (ks := 0) (kc' := 0) (ks' := 0) dX1_parts_20 lkX1_100 rfl rfl rfl ob_104 rfl (Nat.le_of_ble_eq_true rfl) hd1 h (fun r w6 hK => ?_)
      obtain ⟨x6, rfl, h⟩ := hK
      change WA _ _ _ _ _ _ _ _ _ _ _ [.inl x6] _ _
      refine WA.goto (tgt := 31) dX1_parts_23 (by decide) ?_
      refine WA.istore (als' := [some (.inr (.inr 104)), some (.inl a1), some (.inl a2), some (.inl v3), some (.inl x6)]) dX1_parts_31 (Nat.le_of_ble_eq_true rfl) rfl ?_
      refine WA.iload dX1_parts_33 rfl ?_
      refine WA.if_ne (tgt := 40) dX1_parts_35 (by decide) (fun hc => ?_) (fun hc => ?_)
      · have h := h.1 hc
        refine WA.iload_n dX1_parts_40 rfl ?_
        refine WA.getleast dX1_parts_41 (am_memN 409 (by decide +kernel) rfl) ?_
        refine WA.iload_n dX1_parts_44 rfl ?_
        obtain ⟨s7, h⟩ := h
        refine WA.least dX1_parts_45 s7.1 s7.2 ?_
        refine WA.icmp_lt (tgt := 63) dX1_parts_46 (by decide) (fun hc => ?_) (fun hc => ?_)
        · have h := h.1 hc
          refine WA.iload_n dX1_parts_63 rfl ?_
          refine WA.getmost dX1_parts_64 (am_memN 394 (by decide +kernel) rfl) ?_
          refine WA.iload_n dX1_parts_67 rfl ?_
          obtain ⟨s8, h⟩ := h
          refine WA.most dX1_parts_68 s8.1 s8.2 ?_
          refine WA.icmp_eq (tgt := 84) dX1_parts_69 (by decide) (fun hc => ?_) (fun hc => ?_)
          · have h := h.1 hc
            refine WA.iconst dX1_parts_84 ⟨by decide, by decide⟩ ?_
            exact WA.zreturn dX1_parts_85 (by decide) ⟨_, rfl, h⟩
          · have h := h.2 hc
            refine WA.aload_n dX1_parts_72 rfl (by decide) ?_
            refine gxX1_12 rfl rfl dX1_parts_73 ob_104 ?_
            refine WA.bipush dX1_parts_76 ⟨by decide, by decide⟩ ?_
            obtain ⟨d1, hd1, h⟩ := h
            refine WA.callV1 (kc := 0) (ks := 0) (kc' := 0) (ks' := 0) dX1_parts_78 lkX1_46 rfl rfl rfl ob_105 rfl (Nat.le_of_ble_eq_true rfl) hd1 h (fun r w7 hK => ?_)
            obtain ⟨x7, rfl, h⟩ := hK
            change WA _ _ _ _ _ _ _ _ _ _ _ [.inl x7] _ _
            refine WA.if_ne (tgt := 86) dX1_parts_81 (by decide) (fun hc => ?_) (fun hc => ?_)
            · have h := h.1 hc
              obtain ⟨s9, h⟩ := h
              refine WA.iinc (als' := [some (.inr (.inr 104)), some (.inl a1), some (.inl a2), some (.inl (v3 + 1)), some (.inl x6)]) dX1_parts_86 rfl s9 rfl ?_
              refine WA.goto (tgt := 2) dX1_parts_89 (by decide) ?_
              exact WA.sub (als' := [some (.inr (.inr 104)), some (.inl a1), some (.inl a2), some (.inl (v3 + 1)), none]) (by simp only [am_sub, and_self]) rfl h
            · have h := h.2 hc
              refine WA.iconst dX1_parts_84 ⟨by decide, by decide⟩ ?_
              exact WA.zreturn dX1_parts_85 (by decide) ⟨_, rfl, h⟩
        · have h := h.2 hc
          refine WA.aload_n dX1_parts_49 rfl (by decide) ?_
          refine gxX1_12 rfl rfl dX1_parts_50 ob_104 ?_
          refine WA.bipush dX1_parts_53 ⟨by decide, by decide⟩ ?_
          obtain ⟨d1, hd1, h⟩ := h
          refine WA.callV1 (kc := 0) (ks := 0) (kc' := 0) (ks' := 0) dX1_parts_55 lkX1_46 rfl rfl rfl ob_105 rfl (Nat.le_of_ble_eq_true rfl) hd1 h (fun r w8 hK => ?_)
          obtain ⟨x8, rfl, h⟩ := hK
          change WA _ _ _ _ _ _ _ _ _ _ _ [.inl x8] _ _
          refine WA.if_eq (tgt := 63) dX1_parts_58 (by decide) (fun hc => ?_) (fun hc => ?_)
          · have h := h.1 hc
            refine WA.iload_n dX1_parts_63 rfl ?_
            refine WA.getmost dX1_parts_64 (am_memN 394 (by decide +kernel) rfl) ?_
            refine WA.iload_n dX1_parts_67 rfl ?_
            obtain ⟨s10, h⟩ := h
            refine WA.most dX1_parts_68 s10.1 s10.2 ?_
            refine WA.icmp_eq (tgt := 84) dX1_parts_69 (by decide) (fun hc => ?_) (fun hc => ?_)
            · have h := h.1 hc
              refine WA.iconst dX1_parts_84 ⟨by decide, by decide⟩ ?_
              exact WA.zreturn dX1_parts_85 (by decide) ⟨_, rfl, h⟩
            · have h := h.2 hc
              refine WA.aload_n dX1_parts_72 rfl (by decide) ?_
              refine gxX1_12 rfl rfl dX1_parts_73 ob_104 ?_
              refine WA.bipush dX1_parts_76 ⟨by decide, by decide⟩ ?_
              obtain ⟨d1, hd1, h⟩ := h
              refine WA.callV1 (kc := 0) (ks := 0) (kc' := 0) (ks' := 0) dX1_parts_78 lkX1_46 rfl rfl rfl ob_105 rfl (Nat.le_of_ble_eq_true rfl) hd1 h (fun r w9 hK => ?_)
              obtain ⟨x9, rfl, h⟩ := hK
              change WA _ _ _ _ _ _ _ _ _ _ _ [.inl x9] _ _
              refine WA.if_ne (tgt := 86) dX1_parts_81 (by decide) (fun hc => ?_) (fun hc => ?_)
              · have h := h.1 hc
                obtain ⟨s11, h⟩ := h
                refine WA.iinc (als' := [some (.inr (.inr 104)), some (.inl a1), some (.inl a2), some (.inl (v3 + 1)), some (.inl x6)]) dX1_parts_86 rfl s11 rfl ?_
                refine WA.goto (tgt := 2) dX1_parts_89 (by decide) ?_
                exact WA.sub (als' := [some (.inr (.inr 104)), some (.inl a1), some (.inl a2), some (.inl (v3 + 1)), none]) (by simp only [am_sub, and_self]) rfl h
              · have h := h.2 hc
                refine WA.iconst dX1_parts_84 ⟨by decide, by decide⟩ ?_
                exact WA.zreturn dX1_parts_85 (by decide) ⟨_, rfl, h⟩
          · have h := h.2 hc
            refine WA.iconst dX1_parts_61 ⟨by decide, by decide⟩ ?_
            exact WA.zreturn dX1_parts_62 (by decide) ⟨_, rfl, h⟩
      · have h := h.2 hc
        refine WA.iconst dX1_parts_38 ⟨by decide, by decide⟩ ?_
        exact WA.zreturn dX1_parts_39 (by decide) ⟨_, rfl, h⟩
set_option maxRecDepth 10000 in
theorem e_X1_parts {d : Nat} {w : Wd} {K : Int → Wd → Prop} {a1 a2 : Int}  
    (h : W_X1_parts d 2 [some (.inr (.inr 104)), some (.inl a1), some (.inl a2), some (.inl 1), none] [] w K) :
    E_X1_parts d [.inr (.inr 104), .inl a1, .inl a2] w K := by
  refine EvA.of (by decide +kernel) (Nat.le_of_ble_eq_true rfl) ?_
  change W_X1_parts d 0 [some (.inr (.inr 104)), some (.inl a1), some (.inl a2), none, none] [] w K
  refine WA.iconst dX1_parts_0 ⟨by decide, by decide⟩ ?_
  refine WA.istore_n (als' := [some (.inr (.inr 104)), some (.inl a1), some (.inl a2), some (.inl 1), none]) dX1_parts_1 (Nat.le_of_ble_eq_true rfl) rfl ?_
  exact h
set_option maxRecDepth 10000 in
theorem e_X1_isAtArea {d : Nat} {w : Wd} {K : Int → Wd → Prop} {a1 : Int}  
    (h : C_X2_isAtCell d [.inr (.inr 105)] w (fun x1 w1 => ((x1 = 0 → ((a1 = 8 → K 1 w1) ∧ (¬ a1 = 8 → ((a1 < 5 → K 0 w1) ∧ (¬ (a1 < 5) → K 0 w1))))) ∧ (¬ x1 = 0 → C_X2_look d [.inr (.inr 105), .inl 2] w1 (fun x2 w2 => ((¬ x2 = 58 → ((a1 = 8 → K 1 w2) ∧ (¬ a1 = 8 → ((a1 < 5 → K 0 w2) ∧ (¬ (a1 < 5) → K 0 w2))))) ∧ (x2 = 58 → ((a1 = 8 → K 1 w2) ∧ (¬ a1 = 8 → ((a1 < 5 → K 0 w2) ∧ (¬ (a1 < 5) → K 1 w2))))))))))) :
    E_X1_isAtArea d [.inr (.inr 104), .inl a1] w K := by
  refine EvA.of (by decide +kernel) (Nat.le_of_ble_eq_true rfl) ?_
  change W_X1_isAtArea d 0 [some (.inr (.inr 104)), some (.inl a1), none] [] w K
  refine WA.aload_n dX1_isAtArea_0 rfl (by decide) ?_
  refine gxX1_12 rfl rfl dX1_isAtArea_1 ob_104 ?_
  obtain ⟨d1, hd1, h⟩ := h
  refine WA.callV0 (kc := 0) (ks := 0) (kc' := 0) (ks' := 0) dX1_isAtArea_4 lkX1_62 rfl rfl rfl ob_105 rfl (Nat.le_of_ble_eq_true rfl) hd1 h (fun r w1 hK => ?_)
  obtain ⟨x1, rfl, h⟩ := hK
  change WA _ _ _ _ _ _ _ _ _ _ _ [.inl x1] _ _
  refine WA.if_eq (tgt := 27) dX1_isAtArea_7 (by decide) (fun hc => ?_) (fun hc => ?_)
  · have h := h.1 hc
    refine WA.iconst dX1_isAtArea_27 ⟨by decide, by decide⟩ ?_
    refine WA.istore_n (als' := [some (.inr (.inr 104)), some (.inl a1), some (.inl 0)]) dX1_isAtArea_28 (Nat.le_of_ble_eq_true rfl) rfl ?_
    refine WA.iload_n dX1_isAtArea_29 rfl ?_
    refine WA.bipush dX1_isAtArea_30 ⟨by decide, by decide⟩ ?_
    refine WA.icmp_eq (tgt := 44) dX1_isAtArea_32 (by decide) (fun hc => ?_) (fun hc => ?_)
    · have h := h.1 hc
      refine WA.iconst dX1_isAtArea_44 ⟨by decide, by decide⟩ ?_
      refine WA.goto (tgt := 49) dX1_isAtArea_45 (by decide) ?_
      exact WA.zreturn dX1_isAtArea_49 (by decide) ⟨_, rfl, h⟩
    · have h := h.2 hc
      refine WA.iload_n dX1_isAtArea_35 rfl ?_
      refine WA.iconst dX1_isAtArea_36 ⟨by decide, by decide⟩ ?_
      refine WA.icmp_lt (tgt := 48) dX1_isAtArea_37 (by decide) (fun hc => ?_) (fun hc => ?_)
      · have h := h.1 hc
        refine WA.iconst dX1_isAtArea_48 ⟨by decide, by decide⟩ ?_
        exact WA.zreturn dX1_isAtArea_49 (by decide) ⟨_, rfl, h⟩
      · have h := h.2 hc
        refine WA.iload_n dX1_isAtArea_40 rfl ?_
        refine WA.if_eq (tgt := 48) dX1_isAtArea_41 (by decide) (fun _ => ?_) (fun hc => absurd hc (by decide))
        refine WA.iconst dX1_isAtArea_48 ⟨by decide, by decide⟩ ?_
        exact WA.zreturn dX1_isAtArea_49 (by decide) ⟨_, rfl, h⟩
  · have h := h.2 hc
    refine WA.aload_n dX1_isAtArea_10 rfl (by decide) ?_
    refine gxX1_12 rfl rfl dX1_isAtArea_11 ob_104 ?_
    refine WA.iconst dX1_isAtArea_14 ⟨by decide, by decide⟩ ?_
    obtain ⟨d1, hd1, h⟩ := h
    refine WA.callV1 (kc := 0) (ks := 0) (kc' := 0) (ks' := 0) dX1_isAtArea_15 lkX1_52 rfl rfl rfl ob_105 rfl (Nat.le_of_ble_eq_true rfl) hd1 h (fun r w2 hK => ?_)
    obtain ⟨x2, rfl, h⟩ := hK
    change WA _ _ _ _ _ _ _ _ _ _ _ [.inl x2] _ _
    refine WA.bipush dX1_isAtArea_18 ⟨by decide, by decide⟩ ?_
    refine WA.icmp_ne (tgt := 27) dX1_isAtArea_20 (by decide) (fun hc => ?_) (fun hc => ?_)
    · have h := h.1 hc
      refine WA.iconst dX1_isAtArea_27 ⟨by decide, by decide⟩ ?_
      refine WA.istore_n (als' := [some (.inr (.inr 104)), some (.inl a1), some (.inl 0)]) dX1_isAtArea_28 (Nat.le_of_ble_eq_true rfl) rfl ?_
      refine WA.iload_n dX1_isAtArea_29 rfl ?_
      refine WA.bipush dX1_isAtArea_30 ⟨by decide, by decide⟩ ?_
      refine WA.icmp_eq (tgt := 44) dX1_isAtArea_32 (by decide) (fun hc => ?_) (fun hc => ?_)
      · have h := h.1 hc
        refine WA.iconst dX1_isAtArea_44 ⟨by decide, by decide⟩ ?_
        refine WA.goto (tgt := 49) dX1_isAtArea_45 (by decide) ?_
        exact WA.zreturn dX1_isAtArea_49 (by decide) ⟨_, rfl, h⟩
      · have h := h.2 hc
        refine WA.iload_n dX1_isAtArea_35 rfl ?_
        refine WA.iconst dX1_isAtArea_36 ⟨by decide, by decide⟩ ?_
        refine WA.icmp_lt (tgt := 48) dX1_isAtArea_37 (by decide) (fun hc => ?_) (fun hc => ?_)
        · have h := h.1 hc
          refine WA.iconst dX1_isAtArea_48 ⟨by decide, by decide⟩ ?_
          exact WA.zreturn dX1_isAtArea_49 (by decide) ⟨_, rfl, h⟩
        · have h := h.2 hc
          refine WA.iload_n dX1_isAtArea_40 rfl ?_
          refine WA.if_eq (tgt := 48) dX1_isAtArea_41 (by decide) (fun _ => ?_) (fun hc => absurd hc (by decide))
          refine WA.iconst dX1_isAtArea_48 ⟨by decide, by decide⟩ ?_
          exact WA.zreturn dX1_isAtArea_49 (by decide) ⟨_, rfl, h⟩
    · have h := h.2 hc
      refine WA.iconst dX1_isAtArea_23 ⟨by decide, by decide⟩ ?_
      refine WA.goto (tgt := 28) dX1_isAtArea_24 (by decide) ?_
      refine WA.istore_n (als' := [some (.inr (.inr 104)), some (.inl a1), some (.inl 1)]) dX1_isAtArea_28 (Nat.le_of_ble_eq_true rfl) rfl ?_
      refine WA.iload_n dX1_isAtArea_29 rfl ?_
      refine WA.bipush dX1_isAtArea_30 ⟨by decide, by decide⟩ ?_
      refine WA.icmp_eq (tgt := 44) dX1_isAtArea_32 (by decide) (fun hc => ?_) (fun hc => ?_)
      · have h := h.1 hc
        refine WA.iconst dX1_isAtArea_44 ⟨by decide, by decide⟩ ?_
        refine WA.goto (tgt := 49) dX1_isAtArea_45 (by decide) ?_
        exact WA.zreturn dX1_isAtArea_49 (by decide) ⟨_, rfl, h⟩
      · have h := h.2 hc
        refine WA.iload_n dX1_isAtArea_35 rfl ?_
        refine WA.iconst dX1_isAtArea_36 ⟨by decide, by decide⟩ ?_
        refine WA.icmp_lt (tgt := 48) dX1_isAtArea_37 (by decide) (fun hc => ?_) (fun hc => ?_)
        · have h := h.1 hc
          refine WA.iconst dX1_isAtArea_48 ⟨by decide, by decide⟩ ?_
          exact WA.zreturn dX1_isAtArea_49 (by decide) ⟨_, rfl, h⟩
        · have h := h.2 hc
          refine WA.iload_n dX1_isAtArea_40 rfl ?_
          refine WA.if_eq (tgt := 48) dX1_isAtArea_41 (by decide) (fun hc => absurd hc (by decide)) (fun _ => ?_)
          refine WA.iconst dX1_isAtArea_44 ⟨by decide, by decide⟩ ?_
          refine WA.goto (tgt := 49) dX1_isAtArea_45 (by decide) ?_
          exact WA.zreturn dX1_isAtArea_49 (by decide) ⟨_, rfl, h⟩
set_option maxRecDepth 10000 in
theorem e_X1_area {d : Nat} {w : Wd} {K : Int → Wd → Prop}  
    (h : C_X2_look d [.inr (.inr 105), .inl 0] w (fun x1 w1 => C_X2_look d [.inr (.inr 105), .inl 1] w1 (fun x2 w2 => C_X1_passCell d [.inr (.inr 104), .inl 97, .inl 49] w2 (fun x3 w3 => ((¬ x3 = 0 → C_X2_pass d [.inr (.inr 105), .inl 58] w3 (fun x4 w4 => ((x4 = 0 → K 1 w4) ∧ (¬ x4 = 0 → C_X1_passCell d [.inr (.inr 104), .inl x1, .inl x2] w4 (fun x5 w5 => ((x5 = 0 → K 0 w5) ∧ (¬ x5 = 0 → K 1 w5))))))) ∧ (x3 = 0 → K 0 w3)))))) :
    E_X1_area d [.inr (.inr 104)] w K := by
  refine EvA.of (by decide +kernel) (Nat.le_of_ble_eq_true rfl) ?_
  change W_X1_area d 0 [some (.inr (.inr 104)), none, none] [] w K
  refine WA.aload_n dX1_area_0 rfl (by decide) ?_
  refine gxX1_12 rfl rfl dX1_area_1 ob_104 ?_
  refine WA.iconst dX1_area_4 ⟨by decide, by decide⟩ ?_
  obtain ⟨d1, hd1, h⟩ := h
  refine WA.callV1 (kc := 0) (ks := 0) (kc' := 0) (ks' := 0) dX1_area_5 lkX1_52 rfl rfl rfl ob_105 rfl (Nat.le_of_ble_eq_true rfl) hd1 h (fun r w1 hK => ?_)
  obtain ⟨x1, rfl, h⟩ := hK
  change WA _ _ _ _ _ _ _ _ _ _ _ [.inl x1] _ _
  refine WA.istore_n (als' := [some (.inr (.inr 104)), some (.inl x1), none]) dX1_area_8 (Nat.le_of_ble_eq_true rfl) rfl ?_
  refine WA.aload_n dX1_area_9 rfl (by decide) ?_
  refine gxX1_12 rfl rfl dX1_area_10 ob_104 ?_
  refine WA.iconst dX1_area_13 ⟨by decide, by decide⟩ ?_
  obtain ⟨d1, hd1, h⟩ := h
  refine WA.callV1 (kc := 0) (ks := 0) (kc' := 0) (ks' := 0) dX1_area_14 lkX1_52 rfl rfl rfl ob_105 rfl (Nat.le_of_ble_eq_true rfl) hd1 h (fun r w2 hK => ?_)
  obtain ⟨x2, rfl, h⟩ := hK
  change WA _ _ _ _ _ _ _ _ _ _ _ [.inl x2] _ _
  refine WA.istore_n (als' := [some (.inr (.inr 104)), some (.inl x1), some (.inl x2)]) dX1_area_17 (Nat.le_of_ble_eq_true rfl) rfl ?_
  refine WA.aload_n dX1_area_18 rfl (by decide) ?_
  refine WA.bipush dX1_area_19 ⟨by decide, by decide⟩ ?_
  refine WA.bipush dX1_area_21 ⟨by decide, by decide⟩ ?_
  obtain ⟨d1, hd1, h⟩ := h
  refine WA.callV2 (kc := 0) (ks := 0) (kc' := 0) (ks' := 0) dX1_area_23 lkX1_106 rfl rfl rfl ob_104 rfl (Nat.le_of_ble_eq_true rfl) hd1 h (fun r w3 hK => ?_)
  obtain ⟨x3, rfl, h⟩ := hK
  change WA _ _ _ _ _ _ _ _ _ _ _ [.inl x3] _ _
  refine WA.if_ne (tgt := 31) dX1_area_26 (by decide) (fun hc => ?_) (fun hc => ?_)
  · have h := h.1 hc
    refine WA.aload_n dX1_area_31 rfl (by decide) ?_
    refine gxX1_12 rfl rfl dX1_area_32 ob_104 ?_
    refine WA.bipush dX1_area_35 ⟨by decide, by decide⟩ ?_
    obtain ⟨d1, hd1, h⟩ := h
    refine WA.callV1 (kc := 0) (ks := 0) (kc' := 0) (ks' := 0) dX1_area_37 lkX1_46 rfl rfl rfl ob_105 rfl (Nat.le_of_ble_eq_true rfl) hd1 h (fun r w4 hK => ?_)
    obtain ⟨x4, rfl, h⟩ := hK
    change WA _ _ _ _ _ _ _ _ _ _ _ [.inl x4] _ _
    refine WA.if_eq (tgt := 52) dX1_area_40 (by decide) (fun hc => ?_) (fun hc => ?_)
    · have h := h.1 hc
      refine WA.iconst dX1_area_52 ⟨by decide, by decide⟩ ?_
      refine WA.goto (tgt := 57) dX1_area_53 (by decide) ?_
      exact WA.zreturn dX1_area_57 (by decide) ⟨_, rfl, h⟩
    · have h := h.2 hc
      refine WA.aload_n dX1_area_43 rfl (by decide) ?_
      refine WA.iload_n dX1_area_44 rfl ?_
      refine WA.iload_n dX1_area_45 rfl ?_
      obtain ⟨d1, hd1, h⟩ := h
      refine WA.callV2 (kc := 0) (ks := 0) (kc' := 0) (ks' := 0) dX1_area_46 lkX1_106 rfl rfl rfl ob_104 rfl (Nat.le_of_ble_eq_true rfl) hd1 h (fun r w5 hK => ?_)
      obtain ⟨x5, rfl, h⟩ := hK
      change WA _ _ _ _ _ _ _ _ _ _ _ [.inl x5] _ _
      refine WA.if_eq (tgt := 56) dX1_area_49 (by decide) (fun hc => ?_) (fun hc => ?_)
      · have h := h.1 hc
        refine WA.iconst dX1_area_56 ⟨by decide, by decide⟩ ?_
        exact WA.zreturn dX1_area_57 (by decide) ⟨_, rfl, h⟩
      · have h := h.2 hc
        refine WA.iconst dX1_area_52 ⟨by decide, by decide⟩ ?_
        refine WA.goto (tgt := 57) dX1_area_53 (by decide) ?_
        exact WA.zreturn dX1_area_57 (by decide) ⟨_, rfl, h⟩
  · have h := h.2 hc
    refine WA.iconst dX1_area_29 ⟨by decide, by decide⟩ ?_
    exact WA.zreturn dX1_area_30 (by decide) ⟨_, rfl, h⟩
set_option maxRecDepth 10000 in
theorem e_X1_passCell {d : Nat} {w : Wd} {K : Int → Wd → Prop} {a1 a2 : Int}  
    (h : C_X2_look d [.inr (.inr 105), .inl 0] w (fun x1 w1 => ((x1 < a1 → K 0 w1) ∧ (¬ (x1 < a1) → C_X2_look d [.inr (.inr 105), .inl 0] w1 (fun x2 w2 => C_X8_isColumnLetter d [.inl x2] w2 (fun x3 w3 => ((¬ x3 = 0 → (-2147483648 ≤ ((w3 105 3) + 1) ∧ ((w3 105 3) + 1) ≤ 2147483647) ∧ (∀ w4, w4 = wset w3 105 3 ((w3 105 3) + 1) → C_X2_look d [.inr (.inr 105), .inl 0] w4 (fun x4 w5 => ((x4 < a2 → K 0 w5) ∧ (¬ (x4 < a2) → C_X2_look d [.inr (.inr 105), .inl 0] w5 (fun x5 w6 => C_X8_isRowDigit d [.inl x5] w6 (fun x6 w7 => ((¬ x6 = 0 → (-2147483648 ≤ ((w7 105 3) + 1) ∧ ((w7 105 3) + 1) ≤ 2147483647) ∧ (∀ w8, w8 = wset w7 105 3 ((w7 105 3) + 1) → K 1 w8)) ∧ (x6 = 0 → K 0 w7))))))))) ∧ (x3 = 0 → K 0 w3)))))))) :
    E_X1_passCell d [.inr (.inr 104), .inl a1, .inl a2] w K := by
  refine EvA.of (by decide +kernel) (Nat.le_of_ble_eq_true rfl) ?_
  change W_X1_passCell d 0 [some (.inr (.inr 104)), some (.inl a1), some (.inl a2)] [] w K
  refine WA.aload_n dX1_passCell_0 rfl (by decide) ?_
  refine gxX1_12 rfl rfl dX1_passCell_1 ob_104 ?_
  refine WA.iconst dX1_passCell_4 ⟨by decide, by decide⟩ ?_
  obtain ⟨d1, hd1, h⟩ := h
  refine WA.callV1 (kc := 0) (ks := 0) (kc' := 0) (ks' := 0) dX1_passCell_5 lkX1_52 rfl rfl rfl ob_105 rfl (Nat.le_of_ble_eq_true rfl) hd1 h (fun r w1 hK => ?_)
  obtain ⟨x1, rfl, h⟩ := hK
  change WA _ _ _ _ _ _ _ _ _ _ _ [.inl x1] _ _
  refine WA.iload_n dX1_passCell_8 rfl ?_
  refine WA.icmp_lt (tgt := 26) dX1_passCell_9 (by decide) (fun hc => ?_) (fun hc => ?_)
  · have h := h.1 hc
    refine WA.iconst dX1_passCell_26 ⟨by decide, by decide⟩ ?_
    exact WA.zreturn dX1_passCell_27 (by decide) ⟨_, rfl, h⟩
  · have h := h.2 hc
    refine WA.aload_n dX1_passCell_12 rfl (by decide) ?_
    refine gxX1_12 rfl rfl dX1_passCell_13 ob_104 ?_
    refine WA.iconst dX1_passCell_16 ⟨by decide, by decide⟩ ?_
    obtain ⟨d1, hd1, h⟩ := h
    refine WA.callV1 (kc := 0) (ks := 0) (kc' := 0) (ks' := 0) dX1_passCell_17 lkX1_52 rfl rfl rfl ob_105 rfl (Nat.le_of_ble_eq_true rfl) hd1 h (fun r w2 hK => ?_)
    obtain ⟨x2, rfl, h⟩ := hK
    change WA _ _ _ _ _ _ _ _ _ _ _ [.inl x2] _ _
    obtain ⟨d1, hd1, h⟩ := h
    refine WA.callSN1 (kc := 0) (ks := 0) (kc' := 0) (ks' := 0) dX1_passCell_20 lkX1_68 rfl rfl rfl (Nat.le_of_ble_eq_true rfl) hd1 h (fun r w3 hK => ?_)
    obtain ⟨x3, rfl, h⟩ := hK
    change WA _ _ _ _ _ _ _ _ _ _ _ [.inl x3] _ _
    refine WA.if_ne (tgt := 28) dX1_passCell_23 (by decide) (fun hc => ?_) (fun hc => ?_)
    · have h := h.1 hc
      refine WA.aload_n dX1_passCell_28 rfl (by decide) ?_
      refine gxX1_12 rfl rfl dX1_passCell_29 ob_104 ?_
      refine WA.dup dX1_passCell_32 rfl ?_
      refine gfX1_40 rfl dX1_passCell_33 ob_105 ?_
      refine WA.iconst dX1_passCell_36 ⟨by decide, by decide⟩ ?_
      obtain ⟨s1, h⟩ := h
      refine WA.iadd dX1_passCell_37 s1 ?_
      obtain ⟨w4, qw4⟩ : ∃ z, z = wset w3 105 3 ((w3 105 3) + 1) := ⟨_, rfl⟩
      have h := h w4 qw4
      refine pfX1_40 rfl dX1_passCell_38 ob_105 ?_
      rw [← qw4]
      refine WA.aload_n dX1_passCell_41 rfl (by decide) ?_
      refine gxX1_12 rfl rfl dX1_passCell_42 ob_104 ?_
      refine WA.iconst dX1_passCell_45 ⟨by decide, by decide⟩ ?_
      obtain ⟨d1, hd1, h⟩ := h
      refine WA.callV1 (kc := 0) (ks := 0) (kc' := 0) (ks' := 0) dX1_passCell_46 lkX1_52 rfl rfl rfl ob_105 rfl (Nat.le_of_ble_eq_true rfl) hd1 h (fun r w5 hK => ?_)
      obtain ⟨x4, rfl, h⟩ := hK
      change WA _ _ _ _ _ _ _ _ _ _ _ [.inl x4] _ _
      refine WA.iload_n dX1_passCell_49 rfl ?_
      refine WA.icmp_lt (tgt := 67) dX1_passCell_50 (by decide) (fun hc => ?_) (fun hc => ?_)
      · have h := h.1 hc
        refine WA.iconst dX1_passCell_67 ⟨by decide, by decide⟩ ?_
        exact WA.zreturn dX1_passCell_68 (by decide) ⟨_, rfl, h⟩
      · have h := h.2 hc
        refine WA.aload_n dX1_passCell_53 rfl (by decide) ?_
        refine gxX1_12 rfl rfl dX1_passCell_54 ob_104 ?_
        refine WA.iconst dX1_passCell_57 ⟨by decide, by decide⟩ ?_
        obtain ⟨d1, hd1, h⟩ := h
        refine WA.callV1 (kc := 0) (ks := 0) (kc' := 0) (ks' := 0) dX1_passCell_58 lkX1_52 rfl rfl rfl ob_105 rfl (Nat.le_of_ble_eq_true rfl) hd1 h (fun r w6 hK => ?_)
        obtain ⟨x5, rfl, h⟩ := hK
        change WA _ _ _ _ _ _ _ _ _ _ _ [.inl x5] _ _
        obtain ⟨d1, hd1, h⟩ := h
        refine WA.callSN1 (kc := 0) (ks := 0) (kc' := 0) (ks' := 0) dX1_passCell_61 lkX1_109 rfl rfl rfl (Nat.le_of_ble_eq_true rfl) hd1 h (fun r w7 hK => ?_)
        obtain ⟨x6, rfl, h⟩ := hK
        change WA _ _ _ _ _ _ _ _ _ _ _ [.inl x6] _ _
        refine WA.if_ne (tgt := 69) dX1_passCell_64 (by decide) (fun hc => ?_) (fun hc => ?_)
        · have h := h.1 hc
          refine WA.aload_n dX1_passCell_69 rfl (by decide) ?_
          refine gxX1_12 rfl rfl dX1_passCell_70 ob_104 ?_
          refine WA.dup dX1_passCell_73 rfl ?_
          refine gfX1_40 rfl dX1_passCell_74 ob_105 ?_
          refine WA.iconst dX1_passCell_77 ⟨by decide, by decide⟩ ?_
          obtain ⟨s2, h⟩ := h
          refine WA.iadd dX1_passCell_78 s2 ?_
          obtain ⟨w8, qw8⟩ : ∃ z, z = wset w7 105 3 ((w7 105 3) + 1) := ⟨_, rfl⟩
          have h := h w8 qw8
          refine pfX1_40 rfl dX1_passCell_79 ob_105 ?_
          rw [← qw8]
          refine WA.iconst dX1_passCell_82 ⟨by decide, by decide⟩ ?_
          exact WA.zreturn dX1_passCell_83 (by decide) ⟨_, rfl, h⟩
        · have h := h.2 hc
          refine WA.iconst dX1_passCell_67 ⟨by decide, by decide⟩ ?_
          exact WA.zreturn dX1_passCell_68 (by decide) ⟨_, rfl, h⟩
    · have h := h.2 hc
      refine WA.iconst dX1_passCell_26 ⟨by decide, by decide⟩ ?_
      exact WA.zreturn dX1_passCell_27 (by decide) ⟨_, rfl, h⟩
set_option maxRecDepth 10000 in
theorem e_X8_type {d : Nat} {w : Wd} {K : Int → Wd → Prop} {a1 : Int}  
    (h : ((a1 < 32 → K (-2000000001) w) ∧ (¬ (a1 < 32) → ((a1 ≤ 126 → (((w 2 1) < 30 → C_X6_add d [.inr (.inr 2), .inl a1] w (fun w1 => K (w1 2 1) w1)) ∧ (¬ ((w 2 1) < 30) → K (-2000000003) w))) ∧ (¬ (a1 ≤ 126) → K (-2000000001) w))))) :
    E_X8_type d [.inr (.inr 1), .inl a1] w K := by
  refine EvA.of (by decide +kernel) (Nat.le_of_ble_eq_true rfl) ?_
  change W_X8_type d 0 [some (.inr (.inr 1)), some (.inl a1)] [] w K
  refine WA.iload_n dX8_type_0 rfl ?_
  refine WA.bipush dX8_type_1 ⟨by decide, by decide⟩ ?_
  refine WA.icmp_lt (tgt := 12) dX8_type_3 (by decide) (fun hc => ?_) (fun hc => ?_)
  · have h := h.1 hc
    refine WA.ldc (v := (-2000000001)) (x := (-2000000001)) dX8_type_12 (am_mem 260 (by decide +kernel) rfl) (by decide) ?_
    exact WA.ireturn dX8_type_14 ⟨_, rfl, h⟩
  · have h := h.2 hc
    refine WA.iload_n dX8_type_6 rfl ?_
    refine WA.bipush dX8_type_7 ⟨by decide, by decide⟩ ?_
    refine WA.icmp_le (tgt := 15) dX8_type_9 (by decide) (fun hc => ?_) (fun hc => ?_)
    · have h := h.1 hc
      refine WA.aload_n dX8_type_15 rfl (by decide) ?_
      refine gxX8_10 rfl rfl dX8_type_16 ob_1 ?_
      refine gfX8_57 rfl dX8_type_19 ob_2 ?_
      refine WA.bipush dX8_type_22 ⟨by decide, by decide⟩ ?_
      refine WA.icmp_lt (tgt := 30) dX8_type_24 (by decide) (fun hc => ?_) (fun hc => ?_)
      · have h := h.1 hc
        refine WA.aload_n dX8_type_30 rfl (by decide) ?_
        refine gxX8_10 rfl rfl dX8_type_31 ob_1 ?_
        refine WA.iload_n dX8_type_34 rfl ?_
        obtain ⟨d1, hd1, h⟩ := h
        refine WA.callV1 (kc := 0) (ks := 0) (kc' := 0) (ks' := 0) dX8_type_35 lkX8_62 rfl rfl rfl ob_2 rfl (Nat.le_of_ble_eq_true rfl) hd1 h (fun r w1 hK => ?_)
        obtain ⟨rfl, h⟩ := hK
        change WA _ _ _ _ _ _ _ _ _ _ _ [] _ _
        refine WA.aload_n dX8_type_38 rfl (by decide) ?_
        refine gxX8_10 rfl rfl dX8_type_39 ob_1 ?_
        refine gfX8_57 rfl dX8_type_42 ob_2 ?_
        exact WA.ireturn dX8_type_45 ⟨_, rfl, h⟩
      · have h := h.2 hc
        refine WA.ldc (v := (-2000000003)) (x := (-2000000003)) dX8_type_27 (am_mem 261 (by decide +kernel) rfl) (by decide) ?_
        exact WA.ireturn dX8_type_29 ⟨_, rfl, h⟩
    · have h := h.2 hc
      refine WA.ldc (v := (-2000000001)) (x := (-2000000001)) dX8_type_12 (am_mem 260 (by decide +kernel) rfl) (by decide) ?_
      exact WA.ireturn dX8_type_14 ⟨_, rfl, h⟩
set_option maxRecDepth 10000 in
theorem e_X8_clearText {d : Nat} {w : Wd} {K : Int → Wd → Prop}  
    (h : (∀ w1, w1 = wset w 2 1 0 → K (w 2 1) w1)) :
    E_X8_clearText d [.inr (.inr 1)] w K := by
  refine EvA.of (by decide +kernel) (Nat.le_of_ble_eq_true rfl) ?_
  change W_X8_clearText d 0 [some (.inr (.inr 1)), none] [] w K
  refine WA.aload_n dX8_clearText_0 rfl (by decide) ?_
  refine gxX8_10 rfl rfl dX8_clearText_1 ob_1 ?_
  refine gfX8_57 rfl dX8_clearText_4 ob_2 ?_
  refine WA.istore_n (als' := [some (.inr (.inr 1)), some (.inl (w 2 1))]) dX8_clearText_7 (Nat.le_of_ble_eq_true rfl) rfl ?_
  refine WA.aload_n dX8_clearText_8 rfl (by decide) ?_
  refine gxX8_10 rfl rfl dX8_clearText_9 ob_1 ?_
  refine WA.iconst dX8_clearText_12 ⟨by decide, by decide⟩ ?_
  obtain ⟨w1, qw1⟩ : ∃ z, z = wset w 2 1 0 := ⟨_, rfl⟩
  have h := h w1 qw1
  refine pfX8_57 rfl dX8_clearText_13 ob_2 ?_
  rw [← qw1]
  refine WA.iload_n dX8_clearText_16 rfl ?_
  exact WA.ireturn dX8_clearText_17 ⟨_, rfl, h⟩
set_option maxRecDepth 10000 in
theorem e_X8_fault {d : Nat} {w : Wd} {K : Int → Wd → Prop}  
    (h : C_X1_firstFault d [.inr (.inr 104), .inr (.inr 2)] w (fun x1 w1 => ((¬ x1 = (-1) → K x1 w1) ∧ (x1 = (-1) → K (-2000000004) w1)))) :
    E_X8_fault d [.inr (.inr 1)] w K := by
  refine EvA.of (by decide +kernel) (Nat.le_of_ble_eq_true rfl) ?_
  change W_X8_fault d 0 [some (.inr (.inr 1)), none] [] w K
  refine WA.aload_n dX8_fault_0 rfl (by decide) ?_
  refine gxX8_39 rfl rfl dX8_fault_1 ob_1 ?_
  refine WA.aload_n dX8_fault_4 rfl (by decide) ?_
  refine gxX8_10 rfl rfl dX8_fault_5 ob_1 ?_
  obtain ⟨d1, hd1, h⟩ := h
  refine WA.callV1 (kc := 0) (ks := 0) (kc' := 0) (ks' := 0) dX8_fault_8 lkX8_66 rfl rfl rfl ob_104 rfl (Nat.le_of_ble_eq_true rfl) hd1 h (fun r w1 hK => ?_)
  obtain ⟨x1, rfl, h⟩ := hK
  change WA _ _ _ _ _ _ _ _ _ _ _ [.inl x1] _ _
  refine WA.istore_n (als' := [some (.inr (.inr 1)), some (.inl x1)]) dX8_fault_11 (Nat.le_of_ble_eq_true rfl) rfl ?_
  refine WA.iload_n dX8_fault_12 rfl ?_
  refine WA.iconst dX8_fault_13 ⟨by decide, by decide⟩ ?_
  refine WA.icmp_ne (tgt := 22) dX8_fault_14 (by decide) (fun hc => ?_) (fun hc => ?_)
  · have h := h.1 hc
    refine WA.iload_n dX8_fault_22 rfl ?_
    exact WA.ireturn dX8_fault_23 ⟨_, rfl, h⟩
  · have h := h.2 hc
    refine WA.ldc (v := (-2000000004)) (x := (-2000000004)) dX8_fault_17 (am_mem 418 (by decide +kernel) rfl) (by decide) ?_
    refine WA.goto (tgt := 23) dX8_fault_19 (by decide) ?_
    exact WA.ireturn dX8_fault_23 ⟨_, rfl, h⟩
set_option maxRecDepth 10000 in
theorem e_X8_put {d : Nat} {w : Wd} {K : Int → Wd → Prop} {a1 : Int}  
    (h : C_X8_isCell d [.inl a1] w (fun x1 w1 => ((¬ x1 = 0 → C_X1_firstFault d [.inr (.inr 104), .inr (.inr 2)] w1 (fun x2 w2 => ((x2 = (-1) → C_X8_letWait d [.inr (.inr 1), .inl a1, .inr (.inr 2)] w2 (fun x3 w3 => K x3 w3)) ∧ (¬ x2 = (-1) → K (-2000000002) w2)))) ∧ (x1 = 0 → K (-2000000001) w1)))) :
    E_X8_put d [.inr (.inr 1), .inl a1] w K := by
  refine EvA.of (by decide +kernel) (Nat.le_of_ble_eq_true rfl) ?_
  change W_X8_put d 0 [some (.inr (.inr 1)), some (.inl a1)] [] w K
  refine WA.iload_n dX8_put_0 rfl ?_
  obtain ⟨d1, hd1, h⟩ := h
  refine WA.callS1 (kc := 0) (ks := 0) (kc' := 0) (ks' := 0) dX8_put_1 lkX8_71 rfl rfl rfl (Nat.le_of_ble_eq_true rfl) hd1 h (fun r w1 hK => ?_)
  obtain ⟨x1, rfl, h⟩ := hK
  change WA _ _ _ _ _ _ _ _ _ _ _ [.inl x1] _ _
  refine WA.if_ne (tgt := 10) dX8_put_4 (by decide) (fun hc => ?_) (fun hc => ?_)
  · have h := h.1 hc
    refine WA.aload_n dX8_put_10 rfl (by decide) ?_
    refine gxX8_39 rfl rfl dX8_put_11 ob_1 ?_
    refine WA.aload_n dX8_put_14 rfl (by decide) ?_
    refine gxX8_10 rfl rfl dX8_put_15 ob_1 ?_
    obtain ⟨d1, hd1, h⟩ := h
    refine WA.callV1 (kc := 0) (ks := 0) (kc' := 0) (ks' := 0) dX8_put_18 lkX8_66 rfl rfl rfl ob_104 rfl (Nat.le_of_ble_eq_true rfl) hd1 h (fun r w2 hK => ?_)
    obtain ⟨x2, rfl, h⟩ := hK
    change WA _ _ _ _ _ _ _ _ _ _ _ [.inl x2] _ _
    refine WA.iconst dX8_put_21 ⟨by decide, by decide⟩ ?_
    refine WA.icmp_eq (tgt := 28) dX8_put_22 (by decide) (fun hc => ?_) (fun hc => ?_)
    · have h := h.1 hc
      refine WA.aload_n dX8_put_28 rfl (by decide) ?_
      refine WA.iload_n dX8_put_29 rfl ?_
      refine WA.aload_n dX8_put_30 rfl (by decide) ?_
      refine gxX8_10 rfl rfl dX8_put_31 ob_1 ?_
      obtain ⟨d1, hd1, h⟩ := h
      refine WA.callV2 (kc := 0) (ks := 0) (kc' := 0) (ks' := 0) dX8_put_34 lkX8_76 rfl rfl rfl ob_1 rfl (Nat.le_of_ble_eq_true rfl) hd1 h (fun r w3 hK => ?_)
      obtain ⟨x3, rfl, h⟩ := hK
      change WA _ _ _ _ _ _ _ _ _ _ _ [.inl x3] _ _
      exact WA.ireturn dX8_put_37 ⟨_, rfl, h⟩
    · have h := h.2 hc
      refine WA.ldc (v := (-2000000002)) (x := (-2000000002)) dX8_put_25 (am_mem 427 (by decide +kernel) rfl) (by decide) ?_
      exact WA.ireturn dX8_put_27 ⟨_, rfl, h⟩
  · have h := h.2 hc
    refine WA.ldc (v := (-2000000001)) (x := (-2000000001)) dX8_put_7 (am_mem 260 (by decide +kernel) rfl) (by decide) ?_
    exact WA.ireturn dX8_put_9 ⟨_, rfl, h⟩
set_option maxRecDepth 10000 in
theorem e_X8_copy {d : Nat} {w : Wd} {K : Int → Wd → Prop} {a1 a2 : Int}  
    (h : C_X8_isCell d [.inl a1] w (fun x1 w1 => ((x1 = 0 → K (-2000000001) w1) ∧ (¬ x1 = 0 → C_X8_isCell d [.inl a2] w1 (fun x2 w2 => ((¬ x2 = 0 → 0 ≤ a2 ∧ 0 ≤ a1 ∧ (-2147483648 ≤ ((a2 % 8) - (a1 % 8)) ∧ ((a2 % 8) - (a1 % 8)) ≤ 2147483647) ∧ 0 ≤ a2 ∧ 0 ≤ a1 ∧ (-2147483648 ≤ ((a2 / 8) - (a1 / 8)) ∧ ((a2 / 8) - (a1 / 8)) ≤ 2147483647) ∧ C_X8_draftShifted d [.inr (.inr 1), .inl a1, .inl ((a2 % 8) - (a1 % 8)), .inl ((a2 / 8) - (a1 / 8))] w2 (fun x3 w3 => ((¬ x3 = 0 → C_X8_letWait d [.inr (.inr 1), .inl a2, .inr (.inr 4)] w3 (fun x4 w4 => K x4 w4)) ∧ (x3 = 0 → K (-2000000002) w3)))) ∧ (x2 = 0 → K (-2000000001) w2))))))) :
    E_X8_copy d [.inr (.inr 1), .inl a1, .inl a2] w K := by
  refine EvA.of (by decide +kernel) (Nat.le_of_ble_eq_true rfl) ?_
  change W_X8_copy d 0 [some (.inr (.inr 1)), some (.inl a1), some (.inl a2), none, none] [] w K
  refine WA.iload_n dX8_copy_0 rfl ?_
  obtain ⟨d1, hd1, h⟩ := h
  refine WA.callS1 (kc := 0) (ks := 0) (kc' := 0) (ks' := 0) dX8_copy_1 lkX8_71 rfl rfl rfl (Nat.le_of_ble_eq_true rfl) hd1 h (fun r w1 hK => ?_)
  obtain ⟨x1, rfl, h⟩ := hK
  change WA _ _ _ _ _ _ _ _ _ _ _ [.inl x1] _ _
  refine WA.if_eq (tgt := 14) dX8_copy_4 (by decide) (fun hc => ?_) (fun hc => ?_)
  · have h := h.1 hc
    refine WA.ldc (v := (-2000000001)) (x := (-2000000001)) dX8_copy_14 (am_mem 260 (by decide +kernel) rfl) (by decide) ?_
    exact WA.ireturn dX8_copy_16 ⟨_, rfl, h⟩
  · have h := h.2 hc
    refine WA.iload_n dX8_copy_7 rfl ?_
    obtain ⟨d1, hd1, h⟩ := h
    refine WA.callS1 (kc := 0) (ks := 0) (kc' := 0) (ks' := 0) dX8_copy_8 lkX8_71 rfl rfl rfl (Nat.le_of_ble_eq_true rfl) hd1 h (fun r w2 hK => ?_)
    obtain ⟨x2, rfl, h⟩ := hK
    change WA _ _ _ _ _ _ _ _ _ _ _ [.inl x2] _ _
    refine WA.if_ne (tgt := 17) dX8_copy_11 (by decide) (fun hc => ?_) (fun hc => ?_)
    · have h := h.1 hc
      refine WA.iload_n dX8_copy_17 rfl ?_
      refine WA.bipush dX8_copy_18 ⟨by decide, by decide⟩ ?_
      obtain ⟨s1, h⟩ := h
      refine WA.irem dX8_copy_20 s1 (by decide) ?_
      refine WA.iload_n dX8_copy_21 rfl ?_
      refine WA.bipush dX8_copy_22 ⟨by decide, by decide⟩ ?_
      obtain ⟨s2, h⟩ := h
      refine WA.irem dX8_copy_24 s2 (by decide) ?_
      obtain ⟨s3, h⟩ := h
      refine WA.isub dX8_copy_25 s3 ?_
      refine WA.istore_n (als' := [some (.inr (.inr 1)), some (.inl a1), some (.inl a2), some (.inl ((a2 % 8) - (a1 % 8))), none]) dX8_copy_26 (Nat.le_of_ble_eq_true rfl) rfl ?_
      refine WA.iload_n dX8_copy_27 rfl ?_
      refine WA.bipush dX8_copy_28 ⟨by decide, by decide⟩ ?_
      obtain ⟨s4, h⟩ := h
      refine WA.idiv dX8_copy_30 s4 (by decide) ?_
      refine WA.iload_n dX8_copy_31 rfl ?_
      refine WA.bipush dX8_copy_32 ⟨by decide, by decide⟩ ?_
      obtain ⟨s5, h⟩ := h
      refine WA.idiv dX8_copy_34 s5 (by decide) ?_
      obtain ⟨s6, h⟩ := h
      refine WA.isub dX8_copy_35 s6 ?_
      refine WA.istore (als' := [some (.inr (.inr 1)), some (.inl a1), some (.inl a2), some (.inl ((a2 % 8) - (a1 % 8))), some (.inl ((a2 / 8) - (a1 / 8)))]) dX8_copy_36 (Nat.le_of_ble_eq_true rfl) rfl ?_
      refine WA.aload_n dX8_copy_38 rfl (by decide) ?_
      refine WA.iload_n dX8_copy_39 rfl ?_
      refine WA.iload_n dX8_copy_40 rfl ?_
      refine WA.iload dX8_copy_41 rfl ?_
      obtain ⟨d1, hd1, h⟩ := h
      refine WA.callV3 (kc := 0) (ks := 0) (kc' := 0) (ks' := 0) dX8_copy_43 lkX8_80 rfl rfl rfl ob_1 rfl (Nat.le_of_ble_eq_true rfl) hd1 h (fun r w3 hK => ?_)
      obtain ⟨x3, rfl, h⟩ := hK
      change WA _ _ _ _ _ _ _ _ _ _ _ [.inl x3] _ _
      refine WA.if_ne (tgt := 52) dX8_copy_46 (by decide) (fun hc => ?_) (fun hc => ?_)
      · have h := h.1 hc
        refine WA.aload_n dX8_copy_52 rfl (by decide) ?_
        refine WA.iload_n dX8_copy_53 rfl ?_
        refine WA.aload_n dX8_copy_54 rfl (by decide) ?_
        refine gxX8_16 rfl rfl dX8_copy_55 ob_1 ?_
        obtain ⟨d1, hd1, h⟩ := h
        refine WA.callV2 (kc := 0) (ks := 0) (kc' := 0) (ks' := 0) dX8_copy_58 lkX8_76 rfl rfl rfl ob_1 rfl (Nat.le_of_ble_eq_true rfl) hd1 h (fun r w4 hK => ?_)
        obtain ⟨x4, rfl, h⟩ := hK
        change WA _ _ _ _ _ _ _ _ _ _ _ [.inl x4] _ _
        exact WA.ireturn dX8_copy_61 ⟨_, rfl, h⟩
      · have h := h.2 hc
        refine WA.ldc (v := (-2000000002)) (x := (-2000000002)) dX8_copy_49 (am_mem 427 (by decide +kernel) rfl) (by decide) ?_
        exact WA.ireturn dX8_copy_51 ⟨_, rfl, h⟩
    · have h := h.2 hc
      refine WA.ldc (v := (-2000000001)) (x := (-2000000001)) dX8_copy_14 (am_mem 260 (by decide +kernel) rfl) (by decide) ?_
      exact WA.ireturn dX8_copy_16 ⟨_, rfl, h⟩
set_option maxRecDepth 10000 in
theorem e_X8_drop {d : Nat} {w : Wd} {K : Int → Wd → Prop}  
    (h : C_X5_waitingEdits d [.inr (.inr 6)] w (fun x1 w1 => ((¬ x1 = 0 → C_X4_keep d [.inr (.inr 38), .inr (.inr 6)] w1 (fun x2 w2 => C_X7_clearAll d [.inr (.inr 10), .inl (-1)] w2 (fun w3 => K x1 w3))) ∧ (x1 = 0 → K (-2000000002) w1)))) :
    E_X8_drop d [.inr (.inr 1)] w K := by
  refine EvA.of (by decide +kernel) (Nat.le_of_ble_eq_true rfl) ?_
  change W_X8_drop d 0 [some (.inr (.inr 1)), none] [] w K
  refine WA.aload_n dX8_drop_0 rfl (by decide) ?_
  refine gxX8_22 rfl rfl dX8_drop_1 ob_1 ?_
  obtain ⟨d1, hd1, h⟩ := h
  refine WA.callV0 (kc := 0) (ks := 0) (kc' := 0) (ks' := 0) dX8_drop_4 lkX8_84 rfl rfl rfl ob_6 rfl (Nat.le_of_ble_eq_true rfl) hd1 h (fun r w1 hK => ?_)
  obtain ⟨x1, rfl, h⟩ := hK
  change WA _ _ _ _ _ _ _ _ _ _ _ [.inl x1] _ _
  refine WA.istore_n (als' := [some (.inr (.inr 1)), some (.inl x1)]) dX8_drop_7 (Nat.le_of_ble_eq_true rfl) rfl ?_
  refine WA.iload_n dX8_drop_8 rfl ?_
  refine WA.if_ne (tgt := 15) dX8_drop_9 (by decide) (fun hc => ?_) (fun hc => ?_)
  · have h := h.1 hc
    refine WA.aload_n dX8_drop_15 rfl (by decide) ?_
    refine gxX8_32 rfl rfl dX8_drop_16 ob_1 ?_
    refine WA.aload_n dX8_drop_19 rfl (by decide) ?_
    refine gxX8_22 rfl rfl dX8_drop_20 ob_1 ?_
    obtain ⟨d1, hd1, h⟩ := h
    refine WA.callV1 (kc := 0) (ks := 0) (kc' := 0) (ks' := 0) dX8_drop_23 lkX8_88 rfl rfl rfl ob_38 rfl (Nat.le_of_ble_eq_true rfl) hd1 h (fun r w2 hK => ?_)
    obtain ⟨x2, rfl, h⟩ := hK
    change WA _ _ _ _ _ _ _ _ _ _ _ [.inr (.inr x2)] _ _
    refine WA.pop dX8_drop_26 rfl ?_
    refine WA.aload_n dX8_drop_27 rfl (by decide) ?_
    refine gxX8_22 rfl rfl dX8_drop_28 ob_1 ?_
    refine gxX8_92 rfl rfl dX8_drop_31 ob_6 ?_
    refine WA.top (v2 := .inr (.inr 10)) rfl ?_
    refine WA.iconst dX8_drop_34 ⟨by decide, by decide⟩ ?_
    obtain ⟨d1, hd1, h⟩ := h
    refine WA.callV1 (kc := 0) (ks := 0) (kc' := 0) (ks' := 0) dX8_drop_35 lkX8_96 rfl rfl rfl ob_10 rfl (Nat.le_of_ble_eq_true rfl) hd1 h (fun r w3 hK => ?_)
    obtain ⟨rfl, h⟩ := hK
    change WA _ _ _ _ _ _ _ _ _ _ _ [] _ _
    refine WA.iload_n dX8_drop_38 rfl ?_
    exact WA.ireturn dX8_drop_39 ⟨_, rfl, h⟩
  · have h := h.2 hc
    refine WA.ldc (v := (-2000000002)) (x := (-2000000002)) dX8_drop_12 (am_mem 427 (by decide +kernel) rfl) (by decide) ?_
    exact WA.ireturn dX8_drop_14 ⟨_, rfl, h⟩
set_option maxRecDepth 10000 in
theorem v_X8_waitingAt_11 {d : Nat} {w : Wd} {K : Int → Wd → Prop} {a1 v2 v3 : Int}  
    (h : ((72 ≤ v3 → K (-2000000004) w) ∧ (¬ (72 ≤ v3) → C_X5_waits d [.inr (.inr 6), .inl v3] w (fun x1 w1 => ((x1 = 0 → (-2147483648 ≤ (v3 + 1) ∧ (v3 + 1) ≤ 2147483647) ∧ W_X8_waitingAt d 11 [some (.inr (.inr 1)), some (.inl a1), some (.inl v2), some (.inl (v3 + 1))] [] w1 K) ∧ (¬ x1 = 0 → ((¬ v2 = 0 → (-2147483648 ≤ (v2 + (-1)) ∧ (v2 + (-1)) ≤ 2147483647) ∧ (-2147483648 ≤ (v3 + 1) ∧ (v3 + 1) ≤ 2147483647) ∧ W_X8_waitingAt d 11 [some (.inr (.inr 1)), some (.inl a1), some (.inl (v2 + (-1))), some (.inl (v3 + 1))] [] w1 K) ∧ (v2 = 0 → K v3 w1)))))))) :
    W_X8_waitingAt d 11 [some (.inr (.inr 1)), some (.inl a1), some (.inl v2), some (.inl v3)] [] w K := by
  refine WA.iload_n dX8_waitingAt_11 rfl ?_
  refine WA.bipush dX8_waitingAt_12 ⟨by decide, by decide⟩ ?_
  refine WA.icmp_ge (tgt := 43) dX8_waitingAt_14 (by decide) (fun hc => ?_) (fun hc => ?_)
  · have h := h.1 hc
    refine WA.ldc (v := (-2000000004)) (x := (-2000000004)) dX8_waitingAt_43 (am_mem 418 (by decide +kernel) rfl) (by decide) ?_
    exact WA.ireturn dX8_waitingAt_45 ⟨_, rfl, h⟩
  · have h := h.2 hc
    refine WA.aload_n dX8_waitingAt_17 rfl (by decide) ?_
    refine gxX8_22 rfl rfl dX8_waitingAt_18 ob_1 ?_
    refine WA.iload_n dX8_waitingAt_21 rfl ?_
    obtain ⟨d1, hd1, h⟩ := h
    refine WA.callV1 (kc := 0) (ks := 0) (kc' := 0) (ks' := 0) dX8_waitingAt_22 lkX8_101 rfl rfl rfl ob_6 rfl (Nat.le_of_ble_eq_true rfl) hd1 h (fun r w1 hK => ?_)
    obtain ⟨x1, rfl, h⟩ := hK
    change WA _ _ _ _ _ _ _ _ _ _ _ [.inl x1] _ _
    refine WA.if_eq (tgt := 37) dX8_waitingAt_25 (by decide) (fun hc => ?_) (fun hc => ?_)
    · have h := h.1 hc
      obtain ⟨s1, h⟩ := h
      refine WA.iinc (als' := [some (.inr (.inr 1)), some (.inl a1), some (.inl v2), some (.inl (v3 + 1))]) dX8_waitingAt_37 rfl s1 rfl ?_
      refine WA.goto (tgt := 11) dX8_waitingAt_40 (by decide) ?_
      exact h
    · have h := h.2 hc
      refine WA.iload_n dX8_waitingAt_28 rfl ?_
      refine WA.if_ne (tgt := 34) dX8_waitingAt_29 (by decide) (fun hc => ?_) (fun hc => ?_)
      · have h := h.1 hc
        obtain ⟨s2, h⟩ := h
        refine WA.iinc (als' := [some (.inr (.inr 1)), some (.inl a1), some (.inl (v2 + (-1))), some (.inl v3)]) dX8_waitingAt_34 rfl s2 rfl ?_
        obtain ⟨s3, h⟩ := h
        refine WA.iinc (als' := [some (.inr (.inr 1)), some (.inl a1), some (.inl (v2 + (-1))), some (.inl (v3 + 1))]) dX8_waitingAt_37 rfl s3 rfl ?_
        refine WA.goto (tgt := 11) dX8_waitingAt_40 (by decide) ?_
        exact h
      · have h := h.2 hc
        refine WA.iload_n dX8_waitingAt_32 rfl ?_
        exact WA.ireturn dX8_waitingAt_33 ⟨_, rfl, h⟩
set_option maxRecDepth 10000 in
theorem e_X8_waitingAt {d : Nat} {w : Wd} {K : Int → Wd → Prop} {a1 : Int}  
    (h : ((0 ≤ a1 → W_X8_waitingAt d 11 [some (.inr (.inr 1)), some (.inl a1), some (.inl a1), some (.inl 0)] [] w K) ∧ (¬ (0 ≤ a1) → K (-2000000001) w))) :
    E_X8_waitingAt d [.inr (.inr 1), .inl a1] w K := by
  refine EvA.of (by decide +kernel) (Nat.le_of_ble_eq_true rfl) ?_
  change W_X8_waitingAt d 0 [some (.inr (.inr 1)), some (.inl a1), none, none] [] w K
  refine WA.iload_n dX8_waitingAt_0 rfl ?_
  refine WA.if_ge (tgt := 7) dX8_waitingAt_1 (by decide) (fun hc => ?_) (fun hc => ?_)
  · have h := h.1 hc
    refine WA.iload_n dX8_waitingAt_7 rfl ?_
    refine WA.istore_n (als' := [some (.inr (.inr 1)), some (.inl a1), some (.inl a1), none]) dX8_waitingAt_8 (Nat.le_of_ble_eq_true rfl) rfl ?_
    refine WA.iconst dX8_waitingAt_9 ⟨by decide, by decide⟩ ?_
    refine WA.istore_n (als' := [some (.inr (.inr 1)), some (.inl a1), some (.inl a1), some (.inl 0)]) dX8_waitingAt_10 (Nat.le_of_ble_eq_true rfl) rfl ?_
    exact h
  · have h := h.2 hc
    refine WA.ldc (v := (-2000000001)) (x := (-2000000001)) dX8_waitingAt_4 (am_mem 260 (by decide +kernel) rfl) (by decide) ?_
    exact WA.ireturn dX8_waitingAt_6 ⟨_, rfl, h⟩
set_option maxRecDepth 10000 in
theorem v_X8_update_27 {d : Nat} {w : Wd} {K : Int → Wd → Prop} {v1 v2 : Int} (hv1 : am_St v1) 
    (h : ((72 ≤ v2 → C_X7_clearAll d [.inr (.inr 10), .inl (-1)] w (fun w1 => C_X8_bringUpToDate d [.inr (.inr 1), .inr (.inr v1), .inl 1] w1 (fun x1 w2 => K x1 w2))) ∧ (¬ (72 ≤ v2) → C_X5_waits d [.inr (.inr 6), .inl v2] w (fun x2 w3 => ((x2 = 0 → (-2147483648 ≤ (v2 + 1) ∧ (v2 + 1) ≤ 2147483647) ∧ W_X8_update d 27 [some (.inr (.inr 1)), some (.inr (.inr v1)), some (.inl (v2 + 1))] [] w3 K) ∧ (¬ x2 = 0 → C_X7_takeSame d [.inr (.inr 7), .inl v2, .inr (.inr 10)] w3 (fun w4 => (-2147483648 ≤ (v2 + 1) ∧ (v2 + 1) ≤ 2147483647) ∧ W_X8_update d 27 [some (.inr (.inr 1)), some (.inr (.inr v1)), some (.inl (v2 + 1))] [] w4 K))))))) :
    W_X8_update d 27 [some (.inr (.inr 1)), some (.inr (.inr v1)), some (.inl v2)] [] w K := by
  refine WA.iload_n dX8_update_27 rfl ?_
  refine WA.bipush dX8_update_28 ⟨by decide, by decide⟩ ?_
  refine WA.icmp_ge (tgt := 68) dX8_update_30 (by decide) (fun hc => ?_) (fun hc => ?_)
  · have h := h.1 hc
    refine WA.aload_n dX8_update_68 rfl (by decide) ?_
    refine gxX8_22 rfl rfl dX8_update_69 ob_1 ?_
    refine gxX8_92 rfl rfl dX8_update_72 ob_6 ?_
    refine WA.top (v2 := .inr (.inr 10)) rfl ?_
    refine WA.iconst dX8_update_75 ⟨by decide, by decide⟩ ?_
    obtain ⟨d1, hd1, h⟩ := h
    refine WA.callV1 (kc := 0) (ks := 0) (kc' := 0) (ks' := 0) dX8_update_76 lkX8_96 rfl rfl rfl ob_10 rfl (Nat.le_of_ble_eq_true rfl) hd1 h (fun r w1 hK => ?_)
    obtain ⟨rfl, h⟩ := hK
    change WA _ _ _ _ _ _ _ _ _ _ _ [] _ _
    refine WA.aload_n dX8_update_79 rfl (by decide) ?_
    refine WA.aload_n dX8_update_80 rfl (am_St_ne hv1) ?_
    refine WA.iconst dX8_update_81 ⟨by decide, by decide⟩ ?_
    obtain ⟨d1, hd1, h⟩ := h
    refine WA.callV2 (kc := 0) (ks := 0) (kc' := 0) (ks' := 0) dX8_update_82 lkX8_111 rfl rfl rfl ob_1 rfl (Nat.le_of_ble_eq_true rfl) hd1 h (fun r w2 hK => ?_)
    obtain ⟨x1, rfl, h⟩ := hK
    change WA _ _ _ _ _ _ _ _ _ _ _ [.inl x1] _ _
    exact WA.ireturn dX8_update_85 ⟨_, rfl, h⟩
  · have h := h.2 hc
    refine WA.aload_n dX8_update_33 rfl (by decide) ?_
    refine gxX8_22 rfl rfl dX8_update_34 ob_1 ?_
    refine WA.iload_n dX8_update_37 rfl ?_
    obtain ⟨d1, hd1, h⟩ := h
    refine WA.callV1 (kc := 0) (ks := 0) (kc' := 0) (ks' := 0) dX8_update_38 lkX8_101 rfl rfl rfl ob_6 rfl (Nat.le_of_ble_eq_true rfl) hd1 h (fun r w3 hK => ?_)
    obtain ⟨x2, rfl, h⟩ := hK
    change WA _ _ _ _ _ _ _ _ _ _ _ [.inl x2] _ _
    refine WA.if_eq (tgt := 62) dX8_update_41 (by decide) (fun hc => ?_) (fun hc => ?_)
    · have h := h.1 hc
      obtain ⟨s1, h⟩ := h
      refine WA.iinc (als' := [some (.inr (.inr 1)), some (.inr (.inr v1)), some (.inl (v2 + 1))]) dX8_update_62 rfl s1 rfl ?_
      refine WA.goto (tgt := 27) dX8_update_65 (by decide) ?_
      exact h
    · have h := h.2 hc
      refine WA.aload_n dX8_update_44 rfl (by decide) ?_
      refine gxX8_22 rfl rfl dX8_update_45 ob_1 ?_
      refine gxX8_104 rfl rfl dX8_update_48 ob_6 ?_
      refine WA.top (v2 := .inr (.inr 7)) rfl ?_
      refine WA.iload_n dX8_update_51 rfl ?_
      refine WA.aload_n dX8_update_52 rfl (by decide) ?_
      refine gxX8_22 rfl rfl dX8_update_53 ob_1 ?_
      refine gxX8_92 rfl rfl dX8_update_56 ob_6 ?_
      refine WA.top (v2 := .inr (.inr 10)) rfl ?_
      obtain ⟨d1, hd1, h⟩ := h
      refine WA.callV2 (kc := 0) (ks := 0) (kc' := 0) (ks' := 0) dX8_update_59 lkX8_107 rfl rfl rfl ob_7 rfl (Nat.le_of_ble_eq_true rfl) hd1 h (fun r w4 hK => ?_)
      obtain ⟨rfl, h⟩ := hK
      change WA _ _ _ _ _ _ _ _ _ _ _ [] _ _
      obtain ⟨s2, h⟩ := h
      refine WA.iinc (als' := [some (.inr (.inr 1)), some (.inr (.inr v1)), some (.inl (v2 + 1))]) dX8_update_62 rfl s2 rfl ?_
      refine WA.goto (tgt := 27) dX8_update_65 (by decide) ?_
      exact h
set_option maxRecDepth 10000 in
theorem e_X8_update {d : Nat} {w : Wd} {K : Int → Wd → Prop}  
    (h : C_X5_waitingEdits d [.inr (.inr 6)] w (fun x1 w1 => ((¬ x1 = 0 → C_X4_keep d [.inr (.inr 38), .inr (.inr 6)] w1 (fun x2 w2 => am_St x2 ∧ W_X8_update d 27 [some (.inr (.inr 1)), some (.inr (.inr x2)), some (.inl 0)] [] w2 K)) ∧ (x1 = 0 → K (-2000000002) w1)))) :
    E_X8_update d [.inr (.inr 1)] w K := by
  refine EvA.of (by decide +kernel) (Nat.le_of_ble_eq_true rfl) ?_
  change W_X8_update d 0 [some (.inr (.inr 1)), none, none] [] w K
  refine WA.aload_n dX8_update_0 rfl (by decide) ?_
  refine gxX8_22 rfl rfl dX8_update_1 ob_1 ?_
  obtain ⟨d1, hd1, h⟩ := h
  refine WA.callV0 (kc := 0) (ks := 0) (kc' := 0) (ks' := 0) dX8_update_4 lkX8_84 rfl rfl rfl ob_6 rfl (Nat.le_of_ble_eq_true rfl) hd1 h (fun r w1 hK => ?_)
  obtain ⟨x1, rfl, h⟩ := hK
  change WA _ _ _ _ _ _ _ _ _ _ _ [.inl x1] _ _
  refine WA.if_ne (tgt := 13) dX8_update_7 (by decide) (fun hc => ?_) (fun hc => ?_)
  · have h := h.1 hc
    refine WA.aload_n dX8_update_13 rfl (by decide) ?_
    refine gxX8_32 rfl rfl dX8_update_14 ob_1 ?_
    refine WA.aload_n dX8_update_17 rfl (by decide) ?_
    refine gxX8_22 rfl rfl dX8_update_18 ob_1 ?_
    obtain ⟨d1, hd1, h⟩ := h
    refine WA.callV1 (kc := 0) (ks := 0) (kc' := 0) (ks' := 0) dX8_update_21 lkX8_88 rfl rfl rfl ob_38 rfl (Nat.le_of_ble_eq_true rfl) hd1 h (fun r w2 hK => ?_)
    obtain ⟨x2, rfl, h⟩ := hK
    change WA _ _ _ _ _ _ _ _ _ _ _ [.inr (.inr x2)] _ _
    obtain ⟨s1, h⟩ := h
    refine WA.astore_n (als' := [some (.inr (.inr 1)), some (.inr (.inr x2)), none]) dX8_update_24 (am_obj0 (am_St_obj s1)) (Nat.le_of_ble_eq_true rfl) rfl ?_
    refine WA.iconst dX8_update_25 ⟨by decide, by decide⟩ ?_
    refine WA.istore_n (als' := [some (.inr (.inr 1)), some (.inr (.inr x2)), some (.inl 0)]) dX8_update_26 (Nat.le_of_ble_eq_true rfl) rfl ?_
    exact h
  · have h := h.2 hc
    refine WA.ldc (v := (-2000000002)) (x := (-2000000002)) dX8_update_10 (am_mem 427 (by decide +kernel) rfl) (by decide) ?_
    exact WA.ireturn dX8_update_12 ⟨_, rfl, h⟩
set_option maxRecDepth 10000 in
theorem e_X8_rounds {d : Nat} {w : Wd} {K : Int → Wd → Prop} {a1 : Int}  
    (h : ((a1 < 0 → K (-2000000001) w) ∧ (¬ (a1 < 0) → ((a1 ≤ 40 → C_X4_keep d [.inr (.inr 38), .inr (.inr 6)] w (fun x1 w1 => am_St x1 ∧ (∀ w2, w2 = wset w1 6 11 a1 → C_X8_bringUpToDate d [.inr (.inr 1), .inr (.inr x1), .inl 0] w2 (fun x2 w3 => K (w3 x1 11) w3)))) ∧ (¬ (a1 ≤ 40) → K (-2000000001) w))))) :
    E_X8_rounds d [.inr (.inr 1), .inl a1] w K := by
  refine EvA.of (by decide +kernel) (Nat.le_of_ble_eq_true rfl) ?_
  change W_X8_rounds d 0 [some (.inr (.inr 1)), some (.inl a1), none] [] w K
  refine WA.iload_n dX8_rounds_0 rfl ?_
  refine WA.if_lt (tgt := 10) dX8_rounds_1 (by decide) (fun hc => ?_) (fun hc => ?_)
  · have h := h.1 hc
    refine WA.ldc (v := (-2000000001)) (x := (-2000000001)) dX8_rounds_10 (am_mem 260 (by decide +kernel) rfl) (by decide) ?_
    exact WA.ireturn dX8_rounds_12 ⟨_, rfl, h⟩
  · have h := h.2 hc
    refine WA.iload_n dX8_rounds_4 rfl ?_
    refine WA.bipush dX8_rounds_5 ⟨by decide, by decide⟩ ?_
    refine WA.icmp_le (tgt := 13) dX8_rounds_7 (by decide) (fun hc => ?_) (fun hc => ?_)
    · have h := h.1 hc
      refine WA.aload_n dX8_rounds_13 rfl (by decide) ?_
      refine gxX8_32 rfl rfl dX8_rounds_14 ob_1 ?_
      refine WA.aload_n dX8_rounds_17 rfl (by decide) ?_
      refine gxX8_22 rfl rfl dX8_rounds_18 ob_1 ?_
      obtain ⟨d1, hd1, h⟩ := h
      refine WA.callV1 (kc := 0) (ks := 0) (kc' := 0) (ks' := 0) dX8_rounds_21 lkX8_88 rfl rfl rfl ob_38 rfl (Nat.le_of_ble_eq_true rfl) hd1 h (fun r w1 hK => ?_)
      obtain ⟨x1, rfl, h⟩ := hK
      change WA _ _ _ _ _ _ _ _ _ _ _ [.inr (.inr x1)] _ _
      obtain ⟨s1, h⟩ := h
      refine WA.astore_n (als' := [some (.inr (.inr 1)), some (.inl a1), some (.inr (.inr x1))]) dX8_rounds_24 (am_obj0 (am_St_obj s1)) (Nat.le_of_ble_eq_true rfl) rfl ?_
      refine WA.aload_n dX8_rounds_25 rfl (by decide) ?_
      refine gxX8_22 rfl rfl dX8_rounds_26 ob_1 ?_
      refine WA.iload_n dX8_rounds_29 rfl ?_
      obtain ⟨w2, qw2⟩ : ∃ z, z = wset w1 6 11 a1 := ⟨_, rfl⟩
      have h := h w2 qw2
      refine pfX8_115 rfl dX8_rounds_30 ob_6 ?_
      rw [← qw2]
      refine WA.aload_n dX8_rounds_33 rfl (by decide) ?_
      refine WA.aload_n dX8_rounds_34 rfl (am_St_ne s1) ?_
      refine WA.iconst dX8_rounds_35 ⟨by decide, by decide⟩ ?_
      obtain ⟨d1, hd1, h⟩ := h
      refine WA.callV2 (kc := 0) (ks := 0) (kc' := 0) (ks' := 0) dX8_rounds_36 lkX8_111 rfl rfl rfl ob_1 rfl (Nat.le_of_ble_eq_true rfl) hd1 h (fun r w3 hK => ?_)
      obtain ⟨x2, rfl, h⟩ := hK
      change WA _ _ _ _ _ _ _ _ _ _ _ [.inl x2] _ _
      refine WA.pop dX8_rounds_39 rfl ?_
      refine WA.aload_n dX8_rounds_40 rfl (am_St_ne s1) ?_
      refine gfX8_115 rfl dX8_rounds_41 (am_St_obj s1) ?_
      exact WA.ireturn dX8_rounds_44 ⟨_, rfl, h⟩
    · have h := h.2 hc
      refine WA.ldc (v := (-2000000001)) (x := (-2000000001)) dX8_rounds_10 (am_mem 260 (by decide +kernel) rfl) (by decide) ?_
      exact WA.ireturn dX8_rounds_12 ⟨_, rfl, h⟩
set_option maxRecDepth 10000 in
theorem e_X8_value {d : Nat} {w : Wd} {K : Int → Wd → Prop} {a1 : Int}  
    (h : C_X8_isCell d [.inl a1] w (fun x1 w1 => ((¬ x1 = 0 → (0 ≤ a1 ∧ a1 < 72) ∧ ((¬ (w1 14 a1) = 0 → K (-2000000004) w1) ∧ ((w1 14 a1) = 0 → (0 ≤ a1 ∧ a1 < 72) ∧ K (w1 13 a1) w1))) ∧ (x1 = 0 → K (-2000000001) w1)))) :
    E_X8_value d [.inr (.inr 1), .inl a1] w K := by
  refine EvA.of (by decide +kernel) (Nat.le_of_ble_eq_true rfl) ?_
  change W_X8_value d 0 [some (.inr (.inr 1)), some (.inl a1)] [] w K
  refine WA.iload_n dX8_value_0 rfl ?_
  obtain ⟨d1, hd1, h⟩ := h
  refine WA.callS1 (kc := 0) (ks := 0) (kc' := 0) (ks' := 0) dX8_value_1 lkX8_71 rfl rfl rfl (Nat.le_of_ble_eq_true rfl) hd1 h (fun r w1 hK => ?_)
  obtain ⟨x1, rfl, h⟩ := hK
  change WA _ _ _ _ _ _ _ _ _ _ _ [.inl x1] _ _
  refine WA.if_ne (tgt := 10) dX8_value_4 (by decide) (fun hc => ?_) (fun hc => ?_)
  · have h := h.1 hc
    refine WA.aload_n dX8_value_10 rfl (by decide) ?_
    refine gxX8_22 rfl rfl dX8_value_11 ob_1 ?_
    refine gxX8_118 rfl rfl dX8_value_14 ob_6 ?_
    refine WA.top (v2 := .inr (.inr 14)) rfl ?_
    refine WA.iload_n dX8_value_17 rfl ?_
    obtain ⟨s1, h⟩ := h
    refine WA.iaload dX8_value_18 ob_14 s1.1 s1.2 ?_
    refine WA.if_ne (tgt := 34) dX8_value_19 (by decide) (fun hc => ?_) (fun hc => ?_)
    · have h := h.1 hc
      refine WA.ldc (v := (-2000000004)) (x := (-2000000004)) dX8_value_34 (am_mem 418 (by decide +kernel) rfl) (by decide) ?_
      exact WA.ireturn dX8_value_36 ⟨_, rfl, h⟩
    · have h := h.2 hc
      refine WA.aload_n dX8_value_22 rfl (by decide) ?_
      refine gxX8_22 rfl rfl dX8_value_23 ob_1 ?_
      refine gxX8_121 rfl rfl dX8_value_26 ob_6 ?_
      refine WA.top (v2 := .inr (.inr 13)) rfl ?_
      refine WA.iload_n dX8_value_29 rfl ?_
      obtain ⟨s2, h⟩ := h
      refine WA.iaload dX8_value_30 ob_13 s2.1 s2.2 ?_
      refine WA.goto (tgt := 36) dX8_value_31 (by decide) ?_
      exact WA.ireturn dX8_value_36 ⟨_, rfl, h⟩
  · have h := h.2 hc
    refine WA.ldc (v := (-2000000001)) (x := (-2000000001)) dX8_value_7 (am_mem 260 (by decide +kernel) rfl) (by decide) ?_
    exact WA.ireturn dX8_value_9 ⟨_, rfl, h⟩
set_option maxRecDepth 10000 in
theorem e_X8_cellOf {d : Nat} {w : Wd} {K : Int → Wd → Prop} {a1 a2 : Int}  
    (h : C_X8_isCell d [.inl a1] w (fun x1 w1 => ((x1 = 0 → K (-2000000001) w1) ∧ (¬ x1 = 0 → ((a2 < 0 → K (-2000000001) w1) ∧ (¬ (a2 < 0) → ((a2 ≤ 8 → C_X5_fact d [.inr (.inr 6), .inl a1, .inl a2] w1 (fun x2 w2 => K x2 w2)) ∧ (¬ (a2 ≤ 8) → K (-2000000001) w1)))))))) :
    E_X8_cellOf d [.inr (.inr 1), .inl a1, .inl a2] w K := by
  refine EvA.of (by decide +kernel) (Nat.le_of_ble_eq_true rfl) ?_
  change W_X8_cellOf d 0 [some (.inr (.inr 1)), some (.inl a1), some (.inl a2)] [] w K
  refine WA.iload_n dX8_cellOf_0 rfl ?_
  obtain ⟨d1, hd1, h⟩ := h
  refine WA.callS1 (kc := 0) (ks := 0) (kc' := 0) (ks' := 0) dX8_cellOf_1 lkX8_71 rfl rfl rfl (Nat.le_of_ble_eq_true rfl) hd1 h (fun r w1 hK => ?_)
  obtain ⟨x1, rfl, h⟩ := hK
  change WA _ _ _ _ _ _ _ _ _ _ _ [.inl x1] _ _
  refine WA.if_eq (tgt := 17) dX8_cellOf_4 (by decide) (fun hc => ?_) (fun hc => ?_)
  · have h := h.1 hc
    refine WA.ldc (v := (-2000000001)) (x := (-2000000001)) dX8_cellOf_17 (am_mem 260 (by decide +kernel) rfl) (by decide) ?_
    exact WA.ireturn dX8_cellOf_19 ⟨_, rfl, h⟩
  · have h := h.2 hc
    refine WA.iload_n dX8_cellOf_7 rfl ?_
    refine WA.if_lt (tgt := 17) dX8_cellOf_8 (by decide) (fun hc => ?_) (fun hc => ?_)
    · have h := h.1 hc
      refine WA.ldc (v := (-2000000001)) (x := (-2000000001)) dX8_cellOf_17 (am_mem 260 (by decide +kernel) rfl) (by decide) ?_
      exact WA.ireturn dX8_cellOf_19 ⟨_, rfl, h⟩
    · have h := h.2 hc
      refine WA.iload_n dX8_cellOf_11 rfl ?_
      refine WA.bipush dX8_cellOf_12 ⟨by decide, by decide⟩ ?_
      refine WA.icmp_le (tgt := 20) dX8_cellOf_14 (by decide) (fun hc => ?_) (fun hc => ?_)
      · have h := h.1 hc
        refine WA.aload_n dX8_cellOf_20 rfl (by decide) ?_
        refine gxX8_22 rfl rfl dX8_cellOf_21 ob_1 ?_
        refine WA.iload_n dX8_cellOf_24 rfl ?_
        refine WA.iload_n dX8_cellOf_25 rfl ?_
        obtain ⟨d1, hd1, h⟩ := h
        refine WA.callV2 (kc := 0) (ks := 0) (kc' := 0) (ks' := 0) dX8_cellOf_26 lkX8_124 rfl rfl rfl ob_6 rfl (Nat.le_of_ble_eq_true rfl) hd1 h (fun r w2 hK => ?_)
        obtain ⟨x2, rfl, h⟩ := hK
        change WA _ _ _ _ _ _ _ _ _ _ _ [.inl x2] _ _
        exact WA.ireturn dX8_cellOf_29 ⟨_, rfl, h⟩
      · have h := h.2 hc
        refine WA.ldc (v := (-2000000001)) (x := (-2000000001)) dX8_cellOf_17 (am_mem 260 (by decide +kernel) rfl) (by decide) ?_
        exact WA.ireturn dX8_cellOf_19 ⟨_, rfl, h⟩
set_option maxRecDepth 10000 in
theorem e_X8_letterAt {d : Nat} {w : Wd} {K : Int → Wd → Prop} {a1 a2 : Int}  
    (h : C_X8_isCell d [.inl a1] w (fun x1 w1 => ((x1 = 0 → K (-2000000001) w1) ∧ (¬ x1 = 0 → ((0 ≤ a2 → (0 ≤ a1 ∧ a1 < 72) ∧ ((a2 < (w1 9 a1) → C_X7_letter d [.inr (.inr 7), .inl a1, .inl a2] w1 (fun x2 w2 => K x2 w2)) ∧ (¬ (a2 < (w1 9 a1)) → K (-2000000004) w1))) ∧ (¬ (0 ≤ a2) → K (-2000000001) w1)))))) :
    E_X8_letterAt d [.inr (.inr 1), .inl a1, .inl a2] w K := by
  refine EvA.of (by decide +kernel) (Nat.le_of_ble_eq_true rfl) ?_
  change W_X8_letterAt d 0 [some (.inr (.inr 1)), some (.inl a1), some (.inl a2)] [] w K
  refine WA.iload_n dX8_letterAt_0 rfl ?_
  obtain ⟨d1, hd1, h⟩ := h
  refine WA.callS1 (kc := 0) (ks := 0) (kc' := 0) (ks' := 0) dX8_letterAt_1 lkX8_71 rfl rfl rfl (Nat.le_of_ble_eq_true rfl) hd1 h (fun r w1 hK => ?_)
  obtain ⟨x1, rfl, h⟩ := hK
  change WA _ _ _ _ _ _ _ _ _ _ _ [.inl x1] _ _
  refine WA.if_eq (tgt := 11) dX8_letterAt_4 (by decide) (fun hc => ?_) (fun hc => ?_)
  · have h := h.1 hc
    refine WA.ldc (v := (-2000000001)) (x := (-2000000001)) dX8_letterAt_11 (am_mem 260 (by decide +kernel) rfl) (by decide) ?_
    exact WA.ireturn dX8_letterAt_13 ⟨_, rfl, h⟩
  · have h := h.2 hc
    refine WA.iload_n dX8_letterAt_7 rfl ?_
    refine WA.if_ge (tgt := 14) dX8_letterAt_8 (by decide) (fun hc => ?_) (fun hc => ?_)
    · have h := h.1 hc
      refine WA.iload_n dX8_letterAt_14 rfl ?_
      refine WA.aload_n dX8_letterAt_15 rfl (by decide) ?_
      refine gxX8_22 rfl rfl dX8_letterAt_16 ob_1 ?_
      refine gxX8_104 rfl rfl dX8_letterAt_19 ob_6 ?_
      refine WA.top (v2 := .inr (.inr 7)) rfl ?_
      refine gxX8_128 rfl rfl dX8_letterAt_22 ob_7 ?_
      refine WA.top (v2 := .inr (.inr 9)) rfl ?_
      refine WA.iload_n dX8_letterAt_25 rfl ?_
      obtain ⟨s1, h⟩ := h
      refine WA.iaload dX8_letterAt_26 ob_9 s1.1 s1.2 ?_
      refine WA.icmp_lt (tgt := 33) dX8_letterAt_27 (by decide) (fun hc => ?_) (fun hc => ?_)
      · have h := h.1 hc
        refine WA.aload_n dX8_letterAt_33 rfl (by decide) ?_
        refine gxX8_22 rfl rfl dX8_letterAt_34 ob_1 ?_
        refine gxX8_104 rfl rfl dX8_letterAt_37 ob_6 ?_
        refine WA.top (v2 := .inr (.inr 7)) rfl ?_
        refine WA.iload_n dX8_letterAt_40 rfl ?_
        refine WA.iload_n dX8_letterAt_41 rfl ?_
        obtain ⟨d1, hd1, h⟩ := h
        refine WA.callV2 (kc := 0) (ks := 0) (kc' := 0) (ks' := 0) dX8_letterAt_42 lkX8_131 rfl rfl rfl ob_7 rfl (Nat.le_of_ble_eq_true rfl) hd1 h (fun r w2 hK => ?_)
        obtain ⟨x2, rfl, h⟩ := hK
        change WA _ _ _ _ _ _ _ _ _ _ _ [.inl x2] _ _
        exact WA.ireturn dX8_letterAt_45 ⟨_, rfl, h⟩
      · have h := h.2 hc
        refine WA.ldc (v := (-2000000004)) (x := (-2000000004)) dX8_letterAt_30 (am_mem 418 (by decide +kernel) rfl) (by decide) ?_
        exact WA.ireturn dX8_letterAt_32 ⟨_, rfl, h⟩
    · have h := h.2 hc
      refine WA.ldc (v := (-2000000001)) (x := (-2000000001)) dX8_letterAt_11 (am_mem 260 (by decide +kernel) rfl) (by decide) ?_
      exact WA.ireturn dX8_letterAt_13 ⟨_, rfl, h⟩
set_option maxRecDepth 10000 in
theorem e_X8_readAt {d : Nat} {w : Wd} {K : Int → Wd → Prop} {a1 a2 : Int}  
    (h : C_X8_isCell d [.inl a1] w (fun x1 w1 => ((x1 = 0 → K (-2000000001) w1) ∧ (¬ x1 = 0 → ((0 ≤ a2 → (0 ≤ a1 ∧ a1 < 72) ∧ (((w1 17 a1) ≤ a2 → K (-2000000004) w1) ∧ (¬ ((w1 17 a1) ≤ a2) → C_X5_readOf d [.inr (.inr 6), .inl a1, .inl a2] w1 (fun x2 w2 => K x2 w2)))) ∧ (¬ (0 ≤ a2) → K (-2000000001) w1)))))) :
    E_X8_readAt d [.inr (.inr 1), .inl a1, .inl a2] w K := by
  refine EvA.of (by decide +kernel) (Nat.le_of_ble_eq_true rfl) ?_
  change W_X8_readAt d 0 [some (.inr (.inr 1)), some (.inl a1), some (.inl a2)] [] w K
  refine WA.iload_n dX8_readAt_0 rfl ?_
  obtain ⟨d1, hd1, h⟩ := h
  refine WA.callS1 (kc := 0) (ks := 0) (kc' := 0) (ks' := 0) dX8_readAt_1 lkX8_71 rfl rfl rfl (Nat.le_of_ble_eq_true rfl) hd1 h (fun r w1 hK => ?_)
  obtain ⟨x1, rfl, h⟩ := hK
  change WA _ _ _ _ _ _ _ _ _ _ _ [.inl x1] _ _
  refine WA.if_eq (tgt := 11) dX8_readAt_4 (by decide) (fun hc => ?_) (fun hc => ?_)
  · have h := h.1 hc
    refine WA.ldc (v := (-2000000001)) (x := (-2000000001)) dX8_readAt_11 (am_mem 260 (by decide +kernel) rfl) (by decide) ?_
    exact WA.ireturn dX8_readAt_13 ⟨_, rfl, h⟩
  · have h := h.2 hc
    refine WA.iload_n dX8_readAt_7 rfl ?_
    refine WA.if_ge (tgt := 14) dX8_readAt_8 (by decide) (fun hc => ?_) (fun hc => ?_)
    · have h := h.1 hc
      refine WA.iload_n dX8_readAt_14 rfl ?_
      refine WA.aload_n dX8_readAt_15 rfl (by decide) ?_
      refine gxX8_22 rfl rfl dX8_readAt_16 ob_1 ?_
      refine gxX8_134 rfl rfl dX8_readAt_19 ob_6 ?_
      refine WA.top (v2 := .inr (.inr 17)) rfl ?_
      refine WA.iload_n dX8_readAt_22 rfl ?_
      obtain ⟨s1, h⟩ := h
      refine WA.iaload dX8_readAt_23 ob_17 s1.1 s1.2 ?_
      refine WA.icmp_ge (tgt := 39) dX8_readAt_24 (by decide) (fun hc => ?_) (fun hc => ?_)
      · have h := h.1 hc
        refine WA.ldc (v := (-2000000004)) (x := (-2000000004)) dX8_readAt_39 (am_mem 418 (by decide +kernel) rfl) (by decide) ?_
        exact WA.ireturn dX8_readAt_41 ⟨_, rfl, h⟩
      · have h := h.2 hc
        refine WA.aload_n dX8_readAt_27 rfl (by decide) ?_
        refine gxX8_22 rfl rfl dX8_readAt_28 ob_1 ?_
        refine WA.iload_n dX8_readAt_31 rfl ?_
        refine WA.iload_n dX8_readAt_32 rfl ?_
        obtain ⟨d1, hd1, h⟩ := h
        refine WA.callV2 (kc := 0) (ks := 0) (kc' := 0) (ks' := 0) dX8_readAt_33 lkX8_137 rfl rfl rfl ob_6 rfl (Nat.le_of_ble_eq_true rfl) hd1 h (fun r w2 hK => ?_)
        obtain ⟨x2, rfl, h⟩ := hK
        change WA _ _ _ _ _ _ _ _ _ _ _ [.inl x2] _ _
        refine WA.goto (tgt := 41) dX8_readAt_36 (by decide) ?_
        exact WA.ireturn dX8_readAt_41 ⟨_, rfl, h⟩
    · have h := h.2 hc
      refine WA.ldc (v := (-2000000001)) (x := (-2000000001)) dX8_readAt_11 (am_mem 260 (by decide +kernel) rfl) (by decide) ?_
      exact WA.ireturn dX8_readAt_13 ⟨_, rfl, h⟩
set_option maxRecDepth 10000 in
theorem v_X8_readerAt_19 {d : Nat} {w : Wd} {K : Int → Wd → Prop} {a1 a2 v3 v4 : Int}  
    (h : ((72 ≤ v4 → K (-2000000004) w) ∧ (¬ (72 ≤ v4) → C_X5_hasRead d [.inr (.inr 6), .inl v4, .inl a1] w (fun x1 w1 => ((x1 = 0 → (-2147483648 ≤ (v4 + 1) ∧ (v4 + 1) ≤ 2147483647) ∧ W_X8_readerAt d 19 [some (.inr (.inr 1)), some (.inl a1), some (.inl a2), some (.inl v3), some (.inl (v4 + 1))] [] w1 K) ∧ (¬ x1 = 0 → ((¬ v3 = 0 → (-2147483648 ≤ (v3 + (-1)) ∧ (v3 + (-1)) ≤ 2147483647) ∧ (-2147483648 ≤ (v4 + 1) ∧ (v4 + 1) ≤ 2147483647) ∧ W_X8_readerAt d 19 [some (.inr (.inr 1)), some (.inl a1), some (.inl a2), some (.inl (v3 + (-1))), some (.inl (v4 + 1))] [] w1 K) ∧ (v3 = 0 → K v4 w1)))))))) :
    W_X8_readerAt d 19 [some (.inr (.inr 1)), some (.inl a1), some (.inl a2), some (.inl v3), some (.inl v4)] [] w K := by
  refine WA.iload dX8_readerAt_19 rfl ?_
  refine WA.bipush dX8_readerAt_21 ⟨by decide, by decide⟩ ?_
  refine WA.icmp_ge (tgt := 55) dX8_readerAt_23 (by decide) (fun hc => ?_) (fun hc => ?_)
  · have h := h.1 hc
    refine WA.ldc (v := (-2000000004)) (x := (-2000000004)) dX8_readerAt_55 (am_mem 418 (by decide +kernel) rfl) (by decide) ?_
    exact WA.ireturn dX8_readerAt_57 ⟨_, rfl, h⟩
  · have h := h.2 hc
    refine WA.aload_n dX8_readerAt_26 rfl (by decide) ?_
    refine gxX8_22 rfl rfl dX8_readerAt_27 ob_1 ?_
    refine WA.iload dX8_readerAt_30 rfl ?_
    refine WA.iload_n dX8_readerAt_32 rfl ?_
    obtain ⟨d1, hd1, h⟩ := h
    refine WA.callV2 (kc := 0) (ks := 0) (kc' := 0) (ks' := 0) dX8_readerAt_33 lkX8_140 rfl rfl rfl ob_6 rfl (Nat.le_of_ble_eq_true rfl) hd1 h (fun r w1 hK => ?_)
    obtain ⟨x1, rfl, h⟩ := hK
    change WA _ _ _ _ _ _ _ _ _ _ _ [.inl x1] _ _
    refine WA.if_eq (tgt := 49) dX8_readerAt_36 (by decide) (fun hc => ?_) (fun hc => ?_)
    · have h := h.1 hc
      obtain ⟨s1, h⟩ := h
      refine WA.iinc (als' := [some (.inr (.inr 1)), some (.inl a1), some (.inl a2), some (.inl v3), some (.inl (v4 + 1))]) dX8_readerAt_49 rfl s1 rfl ?_
      refine WA.goto (tgt := 19) dX8_readerAt_52 (by decide) ?_
      exact h
    · have h := h.2 hc
      refine WA.iload_n dX8_readerAt_39 rfl ?_
      refine WA.if_ne (tgt := 46) dX8_readerAt_40 (by decide) (fun hc => ?_) (fun hc => ?_)
      · have h := h.1 hc
        obtain ⟨s2, h⟩ := h
        refine WA.iinc (als' := [some (.inr (.inr 1)), some (.inl a1), some (.inl a2), some (.inl (v3 + (-1))), some (.inl v4)]) dX8_readerAt_46 rfl s2 rfl ?_
        obtain ⟨s3, h⟩ := h
        refine WA.iinc (als' := [some (.inr (.inr 1)), some (.inl a1), some (.inl a2), some (.inl (v3 + (-1))), some (.inl (v4 + 1))]) dX8_readerAt_49 rfl s3 rfl ?_
        refine WA.goto (tgt := 19) dX8_readerAt_52 (by decide) ?_
        exact h
      · have h := h.2 hc
        refine WA.iload dX8_readerAt_43 rfl ?_
        exact WA.ireturn dX8_readerAt_45 ⟨_, rfl, h⟩
set_option maxRecDepth 10000 in
theorem e_X8_readerAt {d : Nat} {w : Wd} {K : Int → Wd → Prop} {a1 a2 : Int}  
    (h : C_X8_isCell d [.inl a1] w (fun x1 w1 => ((x1 = 0 → K (-2000000001) w1) ∧ (¬ x1 = 0 → ((0 ≤ a2 → W_X8_readerAt d 19 [some (.inr (.inr 1)), some (.inl a1), some (.inl a2), some (.inl a2), some (.inl 0)] [] w1 K) ∧ (¬ (0 ≤ a2) → K (-2000000001) w1)))))) :
    E_X8_readerAt d [.inr (.inr 1), .inl a1, .inl a2] w K := by
  refine EvA.of (by decide +kernel) (Nat.le_of_ble_eq_true rfl) ?_
  change W_X8_readerAt d 0 [some (.inr (.inr 1)), some (.inl a1), some (.inl a2), none, none] [] w K
  refine WA.iload_n dX8_readerAt_0 rfl ?_
  obtain ⟨d1, hd1, h⟩ := h
  refine WA.callS1 (kc := 0) (ks := 0) (kc' := 0) (ks' := 0) dX8_readerAt_1 lkX8_71 rfl rfl rfl (Nat.le_of_ble_eq_true rfl) hd1 h (fun r w1 hK => ?_)
  obtain ⟨x1, rfl, h⟩ := hK
  change WA _ _ _ _ _ _ _ _ _ _ _ [.inl x1] _ _
  refine WA.if_eq (tgt := 11) dX8_readerAt_4 (by decide) (fun hc => ?_) (fun hc => ?_)
  · have h := h.1 hc
    refine WA.ldc (v := (-2000000001)) (x := (-2000000001)) dX8_readerAt_11 (am_mem 260 (by decide +kernel) rfl) (by decide) ?_
    exact WA.ireturn dX8_readerAt_13 ⟨_, rfl, h⟩
  · have h := h.2 hc
    refine WA.iload_n dX8_readerAt_7 rfl ?_
    refine WA.if_ge (tgt := 14) dX8_readerAt_8 (by decide) (fun hc => ?_) (fun hc => ?_)
    · have h := h.1 hc
      refine WA.iload_n dX8_readerAt_14 rfl ?_
      refine WA.istore_n (als' := [some (.inr (.inr 1)), some (.inl a1), some (.inl a2), some (.inl a2), none]) dX8_readerAt_15 (Nat.le_of_ble_eq_true rfl) rfl ?_
      refine WA.iconst dX8_readerAt_16 ⟨by decide, by decide⟩ ?_
      refine WA.istore (als' := [some (.inr (.inr 1)), some (.inl a1), some (.inl a2), some (.inl a2), some (.inl 0)]) dX8_readerAt_17 (Nat.le_of_ble_eq_true rfl) rfl ?_
      exact h
    · have h := h.2 hc
      refine WA.ldc (v := (-2000000001)) (x := (-2000000001)) dX8_readerAt_11 (am_mem 260 (by decide +kernel) rfl) (by decide) ?_
      exact WA.ireturn dX8_readerAt_13 ⟨_, rfl, h⟩
set_option maxRecDepth 10000 in
theorem v_X8_ranAt_11 {d : Nat} {w : Wd} {K : Int → Wd → Prop} {a1 v2 v3 : Int}  
    (h : ((72 < v3 → K (-2000000004) w) ∧ (¬ (72 < v3) → W_X8_ranAt d 20 [some (.inr (.inr 1)), some (.inl a1), some (.inl v2), some (.inl v3), some (.inl 0)] [] w K))) :
    W_X8_ranAt d 11 [some (.inr (.inr 1)), some (.inl a1), some (.inl v2), some (.inl v3), none] [] w K := by
  refine WA.iload_n dX8_ranAt_11 rfl ?_
  refine WA.bipush dX8_ranAt_12 ⟨by decide, by decide⟩ ?_
  refine WA.icmp_gt (tgt := 76) dX8_ranAt_14 (by decide) (fun hc => ?_) (fun hc => ?_)
  · have h := h.1 hc
    refine WA.ldc (v := (-2000000004)) (x := (-2000000004)) dX8_ranAt_76 (am_mem 418 (by decide +kernel) rfl) (by decide) ?_
    exact WA.ireturn dX8_ranAt_78 ⟨_, rfl, h⟩
  · have h := h.2 hc
    refine WA.iconst dX8_ranAt_17 ⟨by decide, by decide⟩ ?_
    refine WA.istore (als' := [some (.inr (.inr 1)), some (.inl a1), some (.inl v2), some (.inl v3), some (.inl 0)]) dX8_ranAt_18 (Nat.le_of_ble_eq_true rfl) rfl ?_
    exact h
set_option maxRecDepth 10000 in
theorem v_X8_ranAt_20 {d : Nat} {w : Wd} {K : Int → Wd → Prop} {a1 v2 v3 v4 : Int}  
    (h : ((72 ≤ v4 → (-2147483648 ≤ (v3 + 1) ∧ (v3 + 1) ≤ 2147483647) ∧ W_X8_ranAt d 11 [some (.inr (.inr 1)), some (.inl a1), some (.inl v2), some (.inl (v3 + 1)), none] [] w K) ∧ (¬ (72 ≤ v4) → (0 ≤ v4 ∧ v4 < 72) ∧ (((w 21 v4) = (-1) → (-2147483648 ≤ (v4 + 1) ∧ (v4 + 1) ≤ 2147483647) ∧ W_X8_ranAt d 20 [some (.inr (.inr 1)), some (.inl a1), some (.inl v2), some (.inl v3), some (.inl (v4 + 1))] [] w K) ∧ (¬ (w 21 v4) = (-1) → C_X5_rankOf d [.inr (.inr 6), .inl v4] w (fun x1 w1 => ((¬ x1 = v3 → (-2147483648 ≤ (v4 + 1) ∧ (v4 + 1) ≤ 2147483647) ∧ W_X8_ranAt d 20 [some (.inr (.inr 1)), some (.inl a1), some (.inl v2), some (.inl v3), some (.inl (v4 + 1))] [] w1 K) ∧ (x1 = v3 → ((¬ v2 = 0 → (-2147483648 ≤ (v2 + (-1)) ∧ (v2 + (-1)) ≤ 2147483647) ∧ (-2147483648 ≤ (v4 + 1) ∧ (v4 + 1) ≤ 2147483647) ∧ W_X8_ranAt d 20 [some (.inr (.inr 1)), some (.inl a1), some (.inl (v2 + (-1))), some (.inl v3), some (.inl (v4 + 1))] [] w1 K) ∧ (v2 = 0 → K v4 w1)))))))))) :
    W_X8_ranAt d 20 [some (.inr (.inr 1)), some (.inl a1), some (.inl v2), some (.inl v3), some (.inl v4)] [] w K := by
  refine WA.iload dX8_ranAt_20 rfl ?_
  refine WA.bipush dX8_ranAt_22 ⟨by decide, by decide⟩ ?_
  refine WA.icmp_ge (tgt := 70) dX8_ranAt_24 (by decide) (fun hc => ?_) (fun hc => ?_)
  · have h := h.1 hc
    obtain ⟨s1, h⟩ := h
    refine WA.iinc (als' := [some (.inr (.inr 1)), some (.inl a1), some (.inl v2), some (.inl (v3 + 1)), some (.inl v4)]) dX8_ranAt_70 rfl s1 rfl ?_
    refine WA.goto (tgt := 11) dX8_ranAt_73 (by decide) ?_
    exact WA.sub (als' := [some (.inr (.inr 1)), some (.inl a1), some (.inl v2), some (.inl (v3 + 1)), none]) (by simp only [am_sub, and_self]) rfl h
  · have h := h.2 hc
    refine WA.aload_n dX8_ranAt_27 rfl (by decide) ?_
    refine gxX8_22 rfl rfl dX8_ranAt_28 ob_1 ?_
    refine gxX8_144 rfl rfl dX8_ranAt_31 ob_6 ?_
    refine WA.top (v2 := .inr (.inr 21)) rfl ?_
    refine WA.iload dX8_ranAt_34 rfl ?_
    obtain ⟨s2, h⟩ := h
    refine WA.iaload dX8_ranAt_36 ob_21 s2.1 s2.2 ?_
    refine WA.iconst dX8_ranAt_37 ⟨by decide, by decide⟩ ?_
    refine WA.icmp_eq (tgt := 64) dX8_ranAt_38 (by decide) (fun hc => ?_) (fun hc => ?_)
    · have h := h.1 hc
      obtain ⟨s3, h⟩ := h
      refine WA.iinc (als' := [some (.inr (.inr 1)), some (.inl a1), some (.inl v2), some (.inl v3), some (.inl (v4 + 1))]) dX8_ranAt_64 rfl s3 rfl ?_
      refine WA.goto (tgt := 20) dX8_ranAt_67 (by decide) ?_
      exact h
    · have h := h.2 hc
      refine WA.aload_n dX8_ranAt_41 rfl (by decide) ?_
      refine gxX8_22 rfl rfl dX8_ranAt_42 ob_1 ?_
      refine WA.iload dX8_ranAt_45 rfl ?_
      obtain ⟨d1, hd1, h⟩ := h
      refine WA.callV1 (kc := 0) (ks := 0) (kc' := 0) (ks' := 0) dX8_ranAt_47 lkX8_147 rfl rfl rfl ob_6 rfl (Nat.le_of_ble_eq_true rfl) hd1 h (fun r w1 hK => ?_)
      obtain ⟨x1, rfl, h⟩ := hK
      change WA _ _ _ _ _ _ _ _ _ _ _ [.inl x1] _ _
      refine WA.iload_n dX8_ranAt_50 rfl ?_
      refine WA.icmp_ne (tgt := 64) dX8_ranAt_51 (by decide) (fun hc => ?_) (fun hc => ?_)
      · have h := h.1 hc
        obtain ⟨s4, h⟩ := h
        refine WA.iinc (als' := [some (.inr (.inr 1)), some (.inl a1), some (.inl v2), some (.inl v3), some (.inl (v4 + 1))]) dX8_ranAt_64 rfl s4 rfl ?_
        refine WA.goto (tgt := 20) dX8_ranAt_67 (by decide) ?_
        exact h
      · have h := h.2 hc
        refine WA.iload_n dX8_ranAt_54 rfl ?_
        refine WA.if_ne (tgt := 61) dX8_ranAt_55 (by decide) (fun hc => ?_) (fun hc => ?_)
        · have h := h.1 hc
          obtain ⟨s5, h⟩ := h
          refine WA.iinc (als' := [some (.inr (.inr 1)), some (.inl a1), some (.inl (v2 + (-1))), some (.inl v3), some (.inl v4)]) dX8_ranAt_61 rfl s5 rfl ?_
          obtain ⟨s6, h⟩ := h
          refine WA.iinc (als' := [some (.inr (.inr 1)), some (.inl a1), some (.inl (v2 + (-1))), some (.inl v3), some (.inl (v4 + 1))]) dX8_ranAt_64 rfl s6 rfl ?_
          refine WA.goto (tgt := 20) dX8_ranAt_67 (by decide) ?_
          exact h
        · have h := h.2 hc
          refine WA.iload dX8_ranAt_58 rfl ?_
          exact WA.ireturn dX8_ranAt_60 ⟨_, rfl, h⟩
set_option maxRecDepth 10000 in
theorem e_X8_ranAt {d : Nat} {w : Wd} {K : Int → Wd → Prop} {a1 : Int}  
    (h : ((0 ≤ a1 → W_X8_ranAt d 11 [some (.inr (.inr 1)), some (.inl a1), some (.inl a1), some (.inl 0), none] [] w K) ∧ (¬ (0 ≤ a1) → K (-2000000001) w))) :
    E_X8_ranAt d [.inr (.inr 1), .inl a1] w K := by
  refine EvA.of (by decide +kernel) (Nat.le_of_ble_eq_true rfl) ?_
  change W_X8_ranAt d 0 [some (.inr (.inr 1)), some (.inl a1), none, none, none] [] w K
  refine WA.iload_n dX8_ranAt_0 rfl ?_
  refine WA.if_ge (tgt := 7) dX8_ranAt_1 (by decide) (fun hc => ?_) (fun hc => ?_)
  · have h := h.1 hc
    refine WA.iload_n dX8_ranAt_7 rfl ?_
    refine WA.istore_n (als' := [some (.inr (.inr 1)), some (.inl a1), some (.inl a1), none, none]) dX8_ranAt_8 (Nat.le_of_ble_eq_true rfl) rfl ?_
    refine WA.iconst dX8_ranAt_9 ⟨by decide, by decide⟩ ?_
    refine WA.istore_n (als' := [some (.inr (.inr 1)), some (.inl a1), some (.inl a1), some (.inl 0), none]) dX8_ranAt_10 (Nat.le_of_ble_eq_true rfl) rfl ?_
    exact h
  · have h := h.2 hc
    refine WA.ldc (v := (-2000000001)) (x := (-2000000001)) dX8_ranAt_4 (am_mem 260 (by decide +kernel) rfl) (by decide) ?_
    exact WA.ireturn dX8_ranAt_6 ⟨_, rfl, h⟩
set_option maxRecDepth 10000 in
theorem v_X8_changedAt_11 {d : Nat} {w : Wd} {K : Int → Wd → Prop} {a1 v2 v3 : Int}  
    (h : ((72 ≤ v3 → K (-2000000004) w) ∧ (¬ (72 ≤ v3) → (0 ≤ v3 ∧ v3 < 72) ∧ ((¬ (w 20 v3) = 1 → (-2147483648 ≤ (v3 + 1) ∧ (v3 + 1) ≤ 2147483647) ∧ W_X8_changedAt d 11 [some (.inr (.inr 1)), some (.inl a1), some (.inl v2), some (.inl (v3 + 1))] [] w K) ∧ ((w 20 v3) = 1 → ((¬ v2 = 0 → (-2147483648 ≤ (v2 + (-1)) ∧ (v2 + (-1)) ≤ 2147483647) ∧ (-2147483648 ≤ (v3 + 1) ∧ (v3 + 1) ≤ 2147483647) ∧ W_X8_changedAt d 11 [some (.inr (.inr 1)), some (.inl a1), some (.inl (v2 + (-1))), some (.inl (v3 + 1))] [] w K) ∧ (v2 = 0 → K v3 w))))))) :
    W_X8_changedAt d 11 [some (.inr (.inr 1)), some (.inl a1), some (.inl v2), some (.inl v3)] [] w K := by
  refine WA.iload_n dX8_changedAt_11 rfl ?_
  refine WA.bipush dX8_changedAt_12 ⟨by decide, by decide⟩ ?_
  refine WA.icmp_ge (tgt := 45) dX8_changedAt_14 (by decide) (fun hc => ?_) (fun hc => ?_)
  · have h := h.1 hc
    refine WA.ldc (v := (-2000000004)) (x := (-2000000004)) dX8_changedAt_45 (am_mem 418 (by decide +kernel) rfl) (by decide) ?_
    exact WA.ireturn dX8_changedAt_47 ⟨_, rfl, h⟩
  · have h := h.2 hc
    refine WA.aload_n dX8_changedAt_17 rfl (by decide) ?_
    refine gxX8_22 rfl rfl dX8_changedAt_18 ob_1 ?_
    refine gxX8_151 rfl rfl dX8_changedAt_21 ob_6 ?_
    refine WA.top (v2 := .inr (.inr 20)) rfl ?_
    refine WA.iload_n dX8_changedAt_24 rfl ?_
    obtain ⟨s1, h⟩ := h
    refine WA.iaload dX8_changedAt_25 ob_20 s1.1 s1.2 ?_
    refine WA.iconst dX8_changedAt_26 ⟨by decide, by decide⟩ ?_
    refine WA.icmp_ne (tgt := 39) dX8_changedAt_27 (by decide) (fun hc => ?_) (fun hc => ?_)
    · have h := h.1 hc
      obtain ⟨s2, h⟩ := h
      refine WA.iinc (als' := [some (.inr (.inr 1)), some (.inl a1), some (.inl v2), some (.inl (v3 + 1))]) dX8_changedAt_39 rfl s2 rfl ?_
      refine WA.goto (tgt := 11) dX8_changedAt_42 (by decide) ?_
      exact h
    · have h := h.2 hc
      refine WA.iload_n dX8_changedAt_30 rfl ?_
      refine WA.if_ne (tgt := 36) dX8_changedAt_31 (by decide) (fun hc => ?_) (fun hc => ?_)
      · have h := h.1 hc
        obtain ⟨s3, h⟩ := h
        refine WA.iinc (als' := [some (.inr (.inr 1)), some (.inl a1), some (.inl (v2 + (-1))), some (.inl v3)]) dX8_changedAt_36 rfl s3 rfl ?_
        obtain ⟨s4, h⟩ := h
        refine WA.iinc (als' := [some (.inr (.inr 1)), some (.inl a1), some (.inl (v2 + (-1))), some (.inl (v3 + 1))]) dX8_changedAt_39 rfl s4 rfl ?_
        refine WA.goto (tgt := 11) dX8_changedAt_42 (by decide) ?_
        exact h
      · have h := h.2 hc
        refine WA.iload_n dX8_changedAt_34 rfl ?_
        exact WA.ireturn dX8_changedAt_35 ⟨_, rfl, h⟩
set_option maxRecDepth 10000 in
theorem e_X8_changedAt {d : Nat} {w : Wd} {K : Int → Wd → Prop} {a1 : Int}  
    (h : ((0 ≤ a1 → W_X8_changedAt d 11 [some (.inr (.inr 1)), some (.inl a1), some (.inl a1), some (.inl 0)] [] w K) ∧ (¬ (0 ≤ a1) → K (-2000000001) w))) :
    E_X8_changedAt d [.inr (.inr 1), .inl a1] w K := by
  refine EvA.of (by decide +kernel) (Nat.le_of_ble_eq_true rfl) ?_
  change W_X8_changedAt d 0 [some (.inr (.inr 1)), some (.inl a1), none, none] [] w K
  refine WA.iload_n dX8_changedAt_0 rfl ?_
  refine WA.if_ge (tgt := 7) dX8_changedAt_1 (by decide) (fun hc => ?_) (fun hc => ?_)
  · have h := h.1 hc
    refine WA.iload_n dX8_changedAt_7 rfl ?_
    refine WA.istore_n (als' := [some (.inr (.inr 1)), some (.inl a1), some (.inl a1), none]) dX8_changedAt_8 (Nat.le_of_ble_eq_true rfl) rfl ?_
    refine WA.iconst dX8_changedAt_9 ⟨by decide, by decide⟩ ?_
    refine WA.istore_n (als' := [some (.inr (.inr 1)), some (.inl a1), some (.inl a1), some (.inl 0)]) dX8_changedAt_10 (Nat.le_of_ble_eq_true rfl) rfl ?_
    exact h
  · have h := h.2 hc
    refine WA.ldc (v := (-2000000001)) (x := (-2000000001)) dX8_changedAt_4 (am_mem 260 (by decide +kernel) rfl) (by decide) ?_
    exact WA.ireturn dX8_changedAt_6 ⟨_, rfl, h⟩
set_option maxRecDepth 10000 in
theorem e_X8_cause {d : Nat} {w : Wd} {K : Int → Wd → Prop} {a1 : Int}  
    (h : C_X8_isCell d [.inl a1] w (fun x1 w1 => ((¬ x1 = 0 → (0 ≤ a1 ∧ a1 < 72) ∧ ((¬ (w1 21 a1) = (-1) → (0 ≤ a1 ∧ a1 < 72) ∧ K (w1 21 a1) w1) ∧ ((w1 21 a1) = (-1) → K (-2000000004) w1))) ∧ (x1 = 0 → K (-2000000001) w1)))) :
    E_X8_cause d [.inr (.inr 1), .inl a1] w K := by
  refine EvA.of (by decide +kernel) (Nat.le_of_ble_eq_true rfl) ?_
  change W_X8_cause d 0 [some (.inr (.inr 1)), some (.inl a1)] [] w K
  refine WA.iload_n dX8_cause_0 rfl ?_
  obtain ⟨d1, hd1, h⟩ := h
  refine WA.callS1 (kc := 0) (ks := 0) (kc' := 0) (ks' := 0) dX8_cause_1 lkX8_71 rfl rfl rfl (Nat.le_of_ble_eq_true rfl) hd1 h (fun r w1 hK => ?_)
  obtain ⟨x1, rfl, h⟩ := hK
  change WA _ _ _ _ _ _ _ _ _ _ _ [.inl x1] _ _
  refine WA.if_ne (tgt := 10) dX8_cause_4 (by decide) (fun hc => ?_) (fun hc => ?_)
  · have h := h.1 hc
    refine WA.aload_n dX8_cause_10 rfl (by decide) ?_
    refine gxX8_22 rfl rfl dX8_cause_11 ob_1 ?_
    refine gxX8_144 rfl rfl dX8_cause_14 ob_6 ?_
    refine WA.top (v2 := .inr (.inr 21)) rfl ?_
    refine WA.iload_n dX8_cause_17 rfl ?_
    obtain ⟨s1, h⟩ := h
    refine WA.iaload dX8_cause_18 ob_21 s1.1 s1.2 ?_
    refine WA.iconst dX8_cause_19 ⟨by decide, by decide⟩ ?_
    refine WA.icmp_ne (tgt := 28) dX8_cause_20 (by decide) (fun hc => ?_) (fun hc => ?_)
    · have h := h.1 hc
      refine WA.aload_n dX8_cause_28 rfl (by decide) ?_
      refine gxX8_22 rfl rfl dX8_cause_29 ob_1 ?_
      refine gxX8_144 rfl rfl dX8_cause_32 ob_6 ?_
      refine WA.top (v2 := .inr (.inr 21)) rfl ?_
      refine WA.iload_n dX8_cause_35 rfl ?_
      obtain ⟨s2, h⟩ := h
      refine WA.iaload dX8_cause_36 ob_21 s2.1 s2.2 ?_
      exact WA.ireturn dX8_cause_37 ⟨_, rfl, h⟩
    · have h := h.2 hc
      refine WA.ldc (v := (-2000000004)) (x := (-2000000004)) dX8_cause_23 (am_mem 418 (by decide +kernel) rfl) (by decide) ?_
      refine WA.goto (tgt := 37) dX8_cause_25 (by decide) ?_
      exact WA.ireturn dX8_cause_37 ⟨_, rfl, h⟩
  · have h := h.2 hc
    refine WA.ldc (v := (-2000000001)) (x := (-2000000001)) dX8_cause_7 (am_mem 260 (by decide +kernel) rfl) (by decide) ?_
    exact WA.ireturn dX8_cause_9 ⟨_, rfl, h⟩
set_option maxRecDepth 10000 in
theorem e_X8_chainAt {d : Nat} {w : Wd} {K : Int → Wd → Prop} {a1 a2 : Int}  
    (h : C_X8_isCell d [.inl a1] w (fun x1 w1 => ((x1 = 0 → K (-2000000001) w1) ∧ (¬ x1 = 0 → ((0 ≤ a2 → C_X8_followCauses d [.inr (.inr 1), .inl a1] w1 (fun x2 w2 => ((x2 ≤ a2 → K (-2000000004) w2) ∧ (¬ (x2 ≤ a2) → (0 ≤ a2 ∧ a2 < 72) ∧ K (w2 114 a2) w2)))) ∧ (¬ (0 ≤ a2) → K (-2000000001) w1)))))) :
    E_X8_chainAt d [.inr (.inr 1), .inl a1, .inl a2] w K := by
  refine EvA.of (by decide +kernel) (Nat.le_of_ble_eq_true rfl) ?_
  change W_X8_chainAt d 0 [some (.inr (.inr 1)), some (.inl a1), some (.inl a2), none] [] w K
  refine WA.iload_n dX8_chainAt_0 rfl ?_
  obtain ⟨d1, hd1, h⟩ := h
  refine WA.callS1 (kc := 0) (ks := 0) (kc' := 0) (ks' := 0) dX8_chainAt_1 lkX8_71 rfl rfl rfl (Nat.le_of_ble_eq_true rfl) hd1 h (fun r w1 hK => ?_)
  obtain ⟨x1, rfl, h⟩ := hK
  change WA _ _ _ _ _ _ _ _ _ _ _ [.inl x1] _ _
  refine WA.if_eq (tgt := 11) dX8_chainAt_4 (by decide) (fun hc => ?_) (fun hc => ?_)
  · have h := h.1 hc
    refine WA.ldc (v := (-2000000001)) (x := (-2000000001)) dX8_chainAt_11 (am_mem 260 (by decide +kernel) rfl) (by decide) ?_
    exact WA.ireturn dX8_chainAt_13 ⟨_, rfl, h⟩
  · have h := h.2 hc
    refine WA.iload_n dX8_chainAt_7 rfl ?_
    refine WA.if_ge (tgt := 14) dX8_chainAt_8 (by decide) (fun hc => ?_) (fun hc => ?_)
    · have h := h.1 hc
      refine WA.aload_n dX8_chainAt_14 rfl (by decide) ?_
      refine WA.iload_n dX8_chainAt_15 rfl ?_
      obtain ⟨d1, hd1, h⟩ := h
      refine WA.callV1 (kc := 0) (ks := 0) (kc' := 0) (ks' := 0) dX8_chainAt_16 lkX8_154 rfl rfl rfl ob_1 rfl (Nat.le_of_ble_eq_true rfl) hd1 h (fun r w2 hK => ?_)
      obtain ⟨x2, rfl, h⟩ := hK
      change WA _ _ _ _ _ _ _ _ _ _ _ [.inl x2] _ _
      refine WA.istore_n (als' := [some (.inr (.inr 1)), some (.inl a1), some (.inl a2), some (.inl x2)]) dX8_chainAt_19 (Nat.le_of_ble_eq_true rfl) rfl ?_
      refine WA.iload_n dX8_chainAt_20 rfl ?_
      refine WA.iload_n dX8_chainAt_21 rfl ?_
      refine WA.icmp_ge (tgt := 34) dX8_chainAt_22 (by decide) (fun hc => ?_) (fun hc => ?_)
      · have h := h.1 hc
        refine WA.ldc (v := (-2000000004)) (x := (-2000000004)) dX8_chainAt_34 (am_mem 418 (by decide +kernel) rfl) (by decide) ?_
        exact WA.ireturn dX8_chainAt_36 ⟨_, rfl, h⟩
      · have h := h.2 hc
        refine WA.aload_n dX8_chainAt_25 rfl (by decide) ?_
        refine gxX8_52 rfl rfl dX8_chainAt_26 ob_1 ?_
        refine WA.iload_n dX8_chainAt_29 rfl ?_
        obtain ⟨s1, h⟩ := h
        refine WA.iaload dX8_chainAt_30 ob_114 s1.1 s1.2 ?_
        refine WA.goto (tgt := 36) dX8_chainAt_31 (by decide) ?_
        exact WA.ireturn dX8_chainAt_36 ⟨_, rfl, h⟩
    · have h := h.2 hc
      refine WA.ldc (v := (-2000000001)) (x := (-2000000001)) dX8_chainAt_11 (am_mem 260 (by decide +kernel) rfl) (by decide) ?_
      exact WA.ireturn dX8_chainAt_13 ⟨_, rfl, h⟩
set_option maxRecDepth 10000 in
theorem e_X8_whatIf {d : Nat} {w : Wd} {K : Int → Wd → Prop} {a1 a2 a3 : Int}  
    (h : C_X8_isCell d [.inl a1] w (fun x1 w1 => ((x1 = 0 → K (-2000000001) w1) ∧ (¬ x1 = 0 → C_X8_isCell d [.inl a3] w1 (fun x2 w2 => ((x2 = 0 → K (-2000000001) w2) ∧ (¬ x2 = 0 → ((a2 < (-999999) → K (-2000000001) w2) ∧ (¬ (a2 < (-999999)) → ((a2 ≤ 999999 → C_X8_draftNumber d [.inr (.inr 1), .inl a2] w2 (fun w3 => C_X7_takeAll d [.inr (.inr 23), .inr (.inr 7)] w3 (fun w4 => C_X7_take d [.inr (.inr 23), .inl a1, .inr (.inr 4)] w4 (fun w5 => (∀ w6, w6 = wset w5 22 11 (w5 6 11) → C_X0_workOut d [.inr (.inr 107), .inr (.inr 22)] w6 (fun w7 => C_X0_goOver d [.inr (.inr 107), .inr (.inr 22)] w7 (fun w8 => (0 ≤ a3 ∧ a3 < 72) ∧ ((¬ (w8 30 a3) = 0 → K (-2000000004) w8) ∧ ((w8 30 a3) = 0 → (0 ≤ a3 ∧ a3 < 72) ∧ K (w8 29 a3) w8))))))))) ∧ (¬ (a2 ≤ 999999) → K (-2000000001) w2))))))))))) :
    E_X8_whatIf d [.inr (.inr 1), .inl a1, .inl a2, .inl a3] w K := by
  refine EvA.of (by decide +kernel) (Nat.le_of_ble_eq_true rfl) ?_
  change W_X8_whatIf d 0 [some (.inr (.inr 1)), some (.inl a1), some (.inl a2), some (.inl a3)] [] w K
  refine WA.iload_n dX8_whatIf_0 rfl ?_
  obtain ⟨d1, hd1, h⟩ := h
  refine WA.callS1 (kc := 0) (ks := 0) (kc' := 0) (ks' := 0) dX8_whatIf_1 lkX8_71 rfl rfl rfl (Nat.le_of_ble_eq_true rfl) hd1 h (fun r w1 hK => ?_)
  obtain ⟨x1, rfl, h⟩ := hK
  change WA _ _ _ _ _ _ _ _ _ _ _ [.inl x1] _ _
  refine WA.if_eq (tgt := 26) dX8_whatIf_4 (by decide) (fun hc => ?_) (fun hc => ?_)
  · have h := h.1 hc
    refine WA.ldc (v := (-2000000001)) (x := (-2000000001)) dX8_whatIf_26 (am_mem 260 (by decide +kernel) rfl) (by decide) ?_
    exact WA.ireturn dX8_whatIf_28 ⟨_, rfl, h⟩
  · have h := h.2 hc
    refine WA.iload_n dX8_whatIf_7 rfl ?_
    obtain ⟨d1, hd1, h⟩ := h
    refine WA.callS1 (kc := 0) (ks := 0) (kc' := 0) (ks' := 0) dX8_whatIf_8 lkX8_71 rfl rfl rfl (Nat.le_of_ble_eq_true rfl) hd1 h (fun r w2 hK => ?_)
    obtain ⟨x2, rfl, h⟩ := hK
    change WA _ _ _ _ _ _ _ _ _ _ _ [.inl x2] _ _
    refine WA.if_eq (tgt := 26) dX8_whatIf_11 (by decide) (fun hc => ?_) (fun hc => ?_)
    · have h := h.1 hc
      refine WA.ldc (v := (-2000000001)) (x := (-2000000001)) dX8_whatIf_26 (am_mem 260 (by decide +kernel) rfl) (by decide) ?_
      exact WA.ireturn dX8_whatIf_28 ⟨_, rfl, h⟩
    · have h := h.2 hc
      refine WA.iload_n dX8_whatIf_14 rfl ?_
      refine WA.ldc (v := (-999999)) (x := (-999999)) dX8_whatIf_15 (am_mem 715 (by decide +kernel) rfl) (by decide) ?_
      refine WA.icmp_lt (tgt := 26) dX8_whatIf_17 (by decide) (fun hc => ?_) (fun hc => ?_)
      · have h := h.1 hc
        refine WA.ldc (v := (-2000000001)) (x := (-2000000001)) dX8_whatIf_26 (am_mem 260 (by decide +kernel) rfl) (by decide) ?_
        exact WA.ireturn dX8_whatIf_28 ⟨_, rfl, h⟩
      · have h := h.2 hc
        refine WA.iload_n dX8_whatIf_20 rfl ?_
        refine WA.ldc (v := 999999) (x := 999999) dX8_whatIf_21 (am_mem 716 (by decide +kernel) rfl) (by decide) ?_
        refine WA.icmp_le (tgt := 29) dX8_whatIf_23 (by decide) (fun hc => ?_) (fun hc => ?_)
        · have h := h.1 hc
          refine WA.aload_n dX8_whatIf_29 rfl (by decide) ?_
          refine WA.iload_n dX8_whatIf_30 rfl ?_
          obtain ⟨d1, hd1, h⟩ := h
          refine WA.callV1 (kc := 0) (ks := 0) (kc' := 0) (ks' := 0) dX8_whatIf_31 lkX8_159 rfl rfl rfl ob_1 rfl (Nat.le_of_ble_eq_true rfl) hd1 h (fun r w3 hK => ?_)
          obtain ⟨rfl, h⟩ := hK
          change WA _ _ _ _ _ _ _ _ _ _ _ [] _ _
          refine WA.aload_n dX8_whatIf_34 rfl (by decide) ?_
          refine gxX8_26 rfl rfl dX8_whatIf_35 ob_1 ?_
          refine gxX8_104 rfl rfl dX8_whatIf_38 ob_22 ?_
          refine WA.top (v2 := .inr (.inr 23)) rfl ?_
          refine WA.aload_n dX8_whatIf_41 rfl (by decide) ?_
          refine gxX8_22 rfl rfl dX8_whatIf_42 ob_1 ?_
          refine gxX8_104 rfl rfl dX8_whatIf_45 ob_6 ?_
          refine WA.top (v2 := .inr (.inr 7)) rfl ?_
          obtain ⟨d1, hd1, h⟩ := h
          refine WA.callV1 (kc := 0) (ks := 0) (kc' := 0) (ks' := 0) dX8_whatIf_48 lkX8_162 rfl rfl rfl ob_23 rfl (Nat.le_of_ble_eq_true rfl) hd1 h (fun r w4 hK => ?_)
          obtain ⟨rfl, h⟩ := hK
          change WA _ _ _ _ _ _ _ _ _ _ _ [] _ _
          refine WA.aload_n dX8_whatIf_51 rfl (by decide) ?_
          refine gxX8_26 rfl rfl dX8_whatIf_52 ob_1 ?_
          refine gxX8_104 rfl rfl dX8_whatIf_55 ob_22 ?_
          refine WA.top (v2 := .inr (.inr 23)) rfl ?_
          refine WA.iload_n dX8_whatIf_58 rfl ?_
          refine WA.aload_n dX8_whatIf_59 rfl (by decide) ?_
          refine gxX8_16 rfl rfl dX8_whatIf_60 ob_1 ?_
          obtain ⟨d1, hd1, h⟩ := h
          refine WA.callV2 (kc := 0) (ks := 0) (kc' := 0) (ks' := 0) dX8_whatIf_63 lkX8_166 rfl rfl rfl ob_23 rfl (Nat.le_of_ble_eq_true rfl) hd1 h (fun r w5 hK => ?_)
          obtain ⟨rfl, h⟩ := hK
          change WA _ _ _ _ _ _ _ _ _ _ _ [] _ _
          refine WA.aload_n dX8_whatIf_66 rfl (by decide) ?_
          refine gxX8_26 rfl rfl dX8_whatIf_67 ob_1 ?_
          refine WA.aload_n dX8_whatIf_70 rfl (by decide) ?_
          refine gxX8_22 rfl rfl dX8_whatIf_71 ob_1 ?_
          refine gfX8_115 rfl dX8_whatIf_74 ob_6 ?_
          obtain ⟨w6, qw6⟩ : ∃ z, z = wset w5 22 11 (w5 6 11) := ⟨_, rfl⟩
          have h := h w6 qw6
          refine pfX8_115 rfl dX8_whatIf_77 ob_22 ?_
          rw [← qw6]
          refine WA.aload_n dX8_whatIf_80 rfl (by decide) ?_
          refine gxX8_48 rfl rfl dX8_whatIf_81 ob_1 ?_
          refine WA.aload_n dX8_whatIf_84 rfl (by decide) ?_
          refine gxX8_26 rfl rfl dX8_whatIf_85 ob_1 ?_
          obtain ⟨d1, hd1, h⟩ := h
          refine WA.callV1 (kc := 0) (ks := 0) (kc' := 0) (ks' := 0) dX8_whatIf_88 lkX8_170 rfl rfl rfl ob_107 rfl (Nat.le_of_ble_eq_true rfl) hd1 h (fun r w7 hK => ?_)
          obtain ⟨rfl, h⟩ := hK
          change WA _ _ _ _ _ _ _ _ _ _ _ [] _ _
          refine WA.aload_n dX8_whatIf_91 rfl (by decide) ?_
          refine gxX8_48 rfl rfl dX8_whatIf_92 ob_1 ?_
          refine WA.aload_n dX8_whatIf_95 rfl (by decide) ?_
          refine gxX8_26 rfl rfl dX8_whatIf_96 ob_1 ?_
          obtain ⟨d1, hd1, h⟩ := h
          refine WA.callV1 (kc := 0) (ks := 0) (kc' := 0) (ks' := 0) dX8_whatIf_99 lkX8_173 rfl rfl rfl ob_107 rfl (Nat.le_of_ble_eq_true rfl) hd1 h (fun r w8 hK => ?_)
          obtain ⟨rfl, h⟩ := hK
          change WA _ _ _ _ _ _ _ _ _ _ _ [] _ _
          refine WA.aload_n dX8_whatIf_102 rfl (by decide) ?_
          refine gxX8_26 rfl rfl dX8_whatIf_103 ob_1 ?_
          refine gxX8_118 rfl rfl dX8_whatIf_106 ob_22 ?_
          refine WA.top (v2 := .inr (.inr 30)) rfl ?_
          refine WA.iload_n dX8_whatIf_109 rfl ?_
          obtain ⟨s1, h⟩ := h
          refine WA.iaload dX8_whatIf_110 ob_30 s1.1 s1.2 ?_
          refine WA.if_ne (tgt := 126) dX8_whatIf_111 (by decide) (fun hc => ?_) (fun hc => ?_)
          · have h := h.1 hc
            refine WA.ldc (v := (-2000000004)) (x := (-2000000004)) dX8_whatIf_126 (am_mem 418 (by decide +kernel) rfl) (by decide) ?_
            exact WA.ireturn dX8_whatIf_128 ⟨_, rfl, h⟩
          · have h := h.2 hc
            refine WA.aload_n dX8_whatIf_114 rfl (by decide) ?_
            refine gxX8_26 rfl rfl dX8_whatIf_115 ob_1 ?_
            refine gxX8_121 rfl rfl dX8_whatIf_118 ob_22 ?_
            refine WA.top (v2 := .inr (.inr 29)) rfl ?_
            refine WA.iload_n dX8_whatIf_121 rfl ?_
            obtain ⟨s2, h⟩ := h
            refine WA.iaload dX8_whatIf_122 ob_29 s2.1 s2.2 ?_
            refine WA.goto (tgt := 128) dX8_whatIf_123 (by decide) ?_
            exact WA.ireturn dX8_whatIf_128 ⟨_, rfl, h⟩
        · have h := h.2 hc
          refine WA.ldc (v := (-2000000001)) (x := (-2000000001)) dX8_whatIf_26 (am_mem 260 (by decide +kernel) rfl) (by decide) ?_
          exact WA.ireturn dX8_whatIf_28 ⟨_, rfl, h⟩
set_option maxRecDepth 10000 in
theorem e_X8_count {d : Nat} {w : Wd} {K : Int → Wd → Prop} {a1 : Int}  
    (h : ((a1 = 0 → C_X8_sumOfFacts d [.inr (.inr 1), .inl 3] w (fun x1 w1 => (-2147483648 ≤ (72 - x1) ∧ (72 - x1) ≤ 2147483647) ∧ K (72 - x1) w1)) ∧ ((a1 = 1 → C_X5_waitingEdits d [.inr (.inr 6)] w (fun x2 w2 => K x2 w2)) ∧ ((a1 = 2 → C_X8_sumOfFacts d [.inr (.inr 1), .inl 5] w (fun x3 w3 => K x3 w3)) ∧ ((a1 = 3 → C_X8_sumOfFacts d [.inr (.inr 1), .inl 6] w (fun x4 w4 => K x4 w4)) ∧ ((a1 = 4 → K (w 6 12) w) ∧ ((a1 = 5 → (((w 6 13) = 0 → K 0 w) ∧ (¬ (w 6 13) = 0 → K 1 w))) ∧ ((a1 = 6 → C_X8_sumOfFacts d [.inr (.inr 1), .inl 7] w (fun x5 w5 => K x5 w5)) ∧ ((a1 = 7 → C_X5_cellsWithErrors d [.inr (.inr 6)] w (fun x6 w6 => K x6 w6)) ∧ ((a1 = 8 → C_X5_greatestHeight d [.inr (.inr 6)] w (fun x7 w7 => K x7 w7)) ∧ ((a1 = 9 → K (w 6 11) w) ∧ ((a1 = 10 → K (w 38 1) w) ∧ ((a1 = 11 → K (w 2 1) w) ∧ ((a1 = 12 → C_X8_sumOfFacts d [.inr (.inr 1), .inl 4] w (fun x8 w8 => K x8 w8)) ∧ (a1 < 0 ∨ 12 < a1 → K (-2000000001) w))))))))))))))) :
    E_X8_count d [.inr (.inr 1), .inl a1] w K := by
  refine EvA.of (by decide +kernel) (Nat.le_of_ble_eq_true rfl) ?_
  change W_X8_count d 0 [some (.inr (.inr 1)), some (.inl a1)] [] w K
  refine WA.iload_n dX8_count_0 rfl ?_
  by_cases hc : a1 = 0
  · have h := h.1 hc
    refine WA.tableIn (tgt := 68) dX8_count_1 (by rw [hc]; decide) (by rw [hc]; decide) (by rw [hc]; rfl) (by decide) ?_
    refine WA.bipush dX8_count_68 ⟨by decide, by decide⟩ ?_
    refine WA.aload_n dX8_count_70 rfl (by decide) ?_
    refine WA.iconst dX8_count_71 ⟨by decide, by decide⟩ ?_
    obtain ⟨d1, hd1, h⟩ := h
    refine WA.callV1 (kc := 0) (ks := 0) (kc' := 0) (ks' := 0) dX8_count_72 lkX8_176 rfl rfl rfl ob_1 rfl (Nat.le_of_ble_eq_true rfl) hd1 h (fun r w1 hK => ?_)
    obtain ⟨x1, rfl, h⟩ := hK
    change WA _ _ _ _ _ _ _ _ _ _ _ [.inl x1, .inl 72] _ _
    obtain ⟨s1, h⟩ := h
    refine WA.isub dX8_count_75 s1 ?_
    exact WA.ireturn dX8_count_76 ⟨_, rfl, h⟩
  · have h := h.2
    have n0 := hc
    by_cases hc : a1 = 1
    · have h := h.1 hc
      refine WA.tableIn (tgt := 77) dX8_count_1 (by rw [hc]; decide) (by rw [hc]; decide) (by rw [hc]; rfl) (by decide) ?_
      refine WA.aload_n dX8_count_77 rfl (by decide) ?_
      refine gxX8_22 rfl rfl dX8_count_78 ob_1 ?_
      obtain ⟨d1, hd1, h⟩ := h
      refine WA.callV0 (kc := 0) (ks := 0) (kc' := 0) (ks' := 0) dX8_count_81 lkX8_84 rfl rfl rfl ob_6 rfl (Nat.le_of_ble_eq_true rfl) hd1 h (fun r w2 hK => ?_)
      obtain ⟨x2, rfl, h⟩ := hK
      change WA _ _ _ _ _ _ _ _ _ _ _ [.inl x2] _ _
      exact WA.ireturn dX8_count_84 ⟨_, rfl, h⟩
    · have h := h.2
      have n1 := hc
      by_cases hc : a1 = 2
      · have h := h.1 hc
        refine WA.tableIn (tgt := 85) dX8_count_1 (by rw [hc]; decide) (by rw [hc]; decide) (by rw [hc]; rfl) (by decide) ?_
        refine WA.aload_n dX8_count_85 rfl (by decide) ?_
        refine WA.iconst dX8_count_86 ⟨by decide, by decide⟩ ?_
        obtain ⟨d1, hd1, h⟩ := h
        refine WA.callV1 (kc := 0) (ks := 0) (kc' := 0) (ks' := 0) dX8_count_87 lkX8_176 rfl rfl rfl ob_1 rfl (Nat.le_of_ble_eq_true rfl) hd1 h (fun r w3 hK => ?_)
        obtain ⟨x3, rfl, h⟩ := hK
        change WA _ _ _ _ _ _ _ _ _ _ _ [.inl x3] _ _
        exact WA.ireturn dX8_count_90 ⟨_, rfl, h⟩
      · have h := h.2
        have n2 := hc
        by_cases hc : a1 = 3
        · have h := h.1 hc
          refine WA.tableIn (tgt := 91) dX8_count_1 (by rw [hc]; decide) (by rw [hc]; decide) (by rw [hc]; rfl) (by decide) ?_
          refine WA.aload_n dX8_count_91 rfl (by decide) ?_
          refine WA.bipush dX8_count_92 ⟨by decide, by decide⟩ ?_
          obtain ⟨d1, hd1, h⟩ := h
          refine WA.callV1 (kc := 0) (ks := 0) (kc' := 0) (ks' := 0) dX8_count_94 lkX8_176 rfl rfl rfl ob_1 rfl (Nat.le_of_ble_eq_true rfl) hd1 h (fun r w4 hK => ?_)
          obtain ⟨x4, rfl, h⟩ := hK
          change WA _ _ _ _ _ _ _ _ _ _ _ [.inl x4] _ _
          exact WA.ireturn dX8_count_97 ⟨_, rfl, h⟩
        · have h := h.2
          have n3 := hc
          by_cases hc : a1 = 4
          · have h := h.1 hc
            refine WA.tableIn (tgt := 98) dX8_count_1 (by rw [hc]; decide) (by rw [hc]; decide) (by rw [hc]; rfl) (by decide) ?_
            refine WA.aload_n dX8_count_98 rfl (by decide) ?_
            refine gxX8_22 rfl rfl dX8_count_99 ob_1 ?_
            refine gfX8_179 rfl dX8_count_102 ob_6 ?_
            exact WA.ireturn dX8_count_105 ⟨_, rfl, h⟩
          · have h := h.2
            have n4 := hc
            by_cases hc : a1 = 5
            · have h := h.1 hc
              refine WA.tableIn (tgt := 106) dX8_count_1 (by rw [hc]; decide) (by rw [hc]; decide) (by rw [hc]; rfl) (by decide) ?_
              refine WA.aload_n dX8_count_106 rfl (by decide) ?_
              refine gxX8_22 rfl rfl dX8_count_107 ob_1 ?_
              refine gfX8_182 rfl dX8_count_110 ob_6 ?_
              refine WA.if_eq (tgt := 120) dX8_count_113 (by decide) (fun hc => ?_) (fun hc => ?_)
              · have h := h.1 hc
                refine WA.iconst dX8_count_120 ⟨by decide, by decide⟩ ?_
                exact WA.ireturn dX8_count_121 ⟨_, rfl, h⟩
              · have h := h.2 hc
                refine WA.iconst dX8_count_116 ⟨by decide, by decide⟩ ?_
                refine WA.goto (tgt := 121) dX8_count_117 (by decide) ?_
                exact WA.ireturn dX8_count_121 ⟨_, rfl, h⟩
            · have h := h.2
              have n5 := hc
              by_cases hc : a1 = 6
              · have h := h.1 hc
                refine WA.tableIn (tgt := 122) dX8_count_1 (by rw [hc]; decide) (by rw [hc]; decide) (by rw [hc]; rfl) (by decide) ?_
                refine WA.aload_n dX8_count_122 rfl (by decide) ?_
                refine WA.bipush dX8_count_123 ⟨by decide, by decide⟩ ?_
                obtain ⟨d1, hd1, h⟩ := h
                refine WA.callV1 (kc := 0) (ks := 0) (kc' := 0) (ks' := 0) dX8_count_125 lkX8_176 rfl rfl rfl ob_1 rfl (Nat.le_of_ble_eq_true rfl) hd1 h (fun r w5 hK => ?_)
                obtain ⟨x5, rfl, h⟩ := hK
                change WA _ _ _ _ _ _ _ _ _ _ _ [.inl x5] _ _
                exact WA.ireturn dX8_count_128 ⟨_, rfl, h⟩
              · have h := h.2
                have n6 := hc
                by_cases hc : a1 = 7
                · have h := h.1 hc
                  refine WA.tableIn (tgt := 129) dX8_count_1 (by rw [hc]; decide) (by rw [hc]; decide) (by rw [hc]; rfl) (by decide) ?_
                  refine WA.aload_n dX8_count_129 rfl (by decide) ?_
                  refine gxX8_22 rfl rfl dX8_count_130 ob_1 ?_
                  obtain ⟨d1, hd1, h⟩ := h
                  refine WA.callV0 (kc := 0) (ks := 0) (kc' := 0) (ks' := 0) dX8_count_133 lkX8_186 rfl rfl rfl ob_6 rfl (Nat.le_of_ble_eq_true rfl) hd1 h (fun r w6 hK => ?_)
                  obtain ⟨x6, rfl, h⟩ := hK
                  change WA _ _ _ _ _ _ _ _ _ _ _ [.inl x6] _ _
                  exact WA.ireturn dX8_count_136 ⟨_, rfl, h⟩
                · have h := h.2
                  have n7 := hc
                  by_cases hc : a1 = 8
                  · have h := h.1 hc
                    refine WA.tableIn (tgt := 137) dX8_count_1 (by rw [hc]; decide) (by rw [hc]; decide) (by rw [hc]; rfl) (by decide) ?_
                    refine WA.aload_n dX8_count_137 rfl (by decide) ?_
                    refine gxX8_22 rfl rfl dX8_count_138 ob_1 ?_
                    obtain ⟨d1, hd1, h⟩ := h
                    refine WA.callV0 (kc := 0) (ks := 0) (kc' := 0) (ks' := 0) dX8_count_141 lkX8_189 rfl rfl rfl ob_6 rfl (Nat.le_of_ble_eq_true rfl) hd1 h (fun r w7 hK => ?_)
                    obtain ⟨x7, rfl, h⟩ := hK
                    change WA _ _ _ _ _ _ _ _ _ _ _ [.inl x7] _ _
                    exact WA.ireturn dX8_count_144 ⟨_, rfl, h⟩
                  · have h := h.2
                    have n8 := hc
                    by_cases hc : a1 = 9
                    · have h := h.1 hc
                      refine WA.tableIn (tgt := 145) dX8_count_1 (by rw [hc]; decide) (by rw [hc]; decide) (by rw [hc]; rfl) (by decide) ?_
                      refine WA.aload_n dX8_count_145 rfl (by decide) ?_
                      refine gxX8_22 rfl rfl dX8_count_146 ob_1 ?_
                      refine gfX8_115 rfl dX8_count_149 ob_6 ?_
                      exact WA.ireturn dX8_count_152 ⟨_, rfl, h⟩
                    · have h := h.2
                      have n9 := hc
                      by_cases hc : a1 = 10
                      · have h := h.1 hc
                        refine WA.tableIn (tgt := 153) dX8_count_1 (by rw [hc]; decide) (by rw [hc]; decide) (by rw [hc]; rfl) (by decide) ?_
                        refine WA.aload_n dX8_count_153 rfl (by decide) ?_
                        refine gxX8_32 rfl rfl dX8_count_154 ob_1 ?_
                        refine gfX8_192 rfl dX8_count_157 ob_38 ?_
                        exact WA.ireturn dX8_count_160 ⟨_, rfl, h⟩
                      · have h := h.2
                        have n10 := hc
                        by_cases hc : a1 = 11
                        · have h := h.1 hc
                          refine WA.tableIn (tgt := 161) dX8_count_1 (by rw [hc]; decide) (by rw [hc]; decide) (by rw [hc]; rfl) (by decide) ?_
                          refine WA.aload_n dX8_count_161 rfl (by decide) ?_
                          refine gxX8_10 rfl rfl dX8_count_162 ob_1 ?_
                          refine gfX8_57 rfl dX8_count_165 ob_2 ?_
                          exact WA.ireturn dX8_count_168 ⟨_, rfl, h⟩
                        · have h := h.2
                          have n11 := hc
                          by_cases hc : a1 = 12
                          · have h := h.1 hc
                            refine WA.tableIn (tgt := 169) dX8_count_1 (by rw [hc]; decide) (by rw [hc]; decide) (by rw [hc]; rfl) (by decide) ?_
                            refine WA.aload_n dX8_count_169 rfl (by decide) ?_
                            refine WA.iconst dX8_count_170 ⟨by decide, by decide⟩ ?_
                            obtain ⟨d1, hd1, h⟩ := h
                            refine WA.callV1 (kc := 0) (ks := 0) (kc' := 0) (ks' := 0) dX8_count_171 lkX8_176 rfl rfl rfl ob_1 rfl (Nat.le_of_ble_eq_true rfl) hd1 h (fun r w8 hK => ?_)
                            obtain ⟨x8, rfl, h⟩ := hK
                            change WA _ _ _ _ _ _ _ _ _ _ _ [.inl x8] _ _
                            exact WA.ireturn dX8_count_174 ⟨_, rfl, h⟩
                          · have h := h.2
                            have n12 := hc
                            have ho : a1 < 0 ∨ 12 < a1 := by
                              rcases Int.lt_or_le a1 0 with q | q
                              · exact Or.inl q
                              · have q : 1 ≤ a1 := am_bump q n0
                                have q : 2 ≤ a1 := am_bump q n1
                                have q : 3 ≤ a1 := am_bump q n2
                                have q : 4 ≤ a1 := am_bump q n3
                                have q : 5 ≤ a1 := am_bump q n4
                                have q : 6 ≤ a1 := am_bump q n5
                                have q : 7 ≤ a1 := am_bump q n6
                                have q : 8 ≤ a1 := am_bump q n7
                                have q : 9 ≤ a1 := am_bump q n8
                                have q : 10 ≤ a1 := am_bump q n9
                                have q : 11 ≤ a1 := am_bump q n10
                                have q : 12 ≤ a1 := am_bump q n11
                                have q : 13 ≤ a1 := am_bump q n12
                                exact Or.inr q
                            have h := h ho
                            refine WA.tableOut (tgt := 175) dX8_count_1 ho (by decide) ?_
                            refine WA.ldc (v := (-2000000001)) (x := (-2000000001)) dX8_count_175 (am_mem 260 (by decide +kernel) rfl) (by decide) ?_
                            exact WA.ireturn dX8_count_177 ⟨_, rfl, h⟩
set_option maxRecDepth 10000 in
theorem e_X8_undo {d : Nat} {w : Wd} {K : Int → Wd → Prop}  
    (h : ((¬ (w 38 1) = 0 → C_X4_giveBack d [.inr (.inr 38), .inr (.inr 6)] w (fun w1 => K (w1 38 1) w1)) ∧ ((w 38 1) = 0 → K (-2000000002) w))) :
    E_X8_undo d [.inr (.inr 1)] w K := by
  refine EvA.of (by decide +kernel) (Nat.le_of_ble_eq_true rfl) ?_
  change W_X8_undo d 0 [some (.inr (.inr 1))] [] w K
  refine WA.aload_n dX8_undo_0 rfl (by decide) ?_
  refine gxX8_32 rfl rfl dX8_undo_1 ob_1 ?_
  refine gfX8_192 rfl dX8_undo_4 ob_38 ?_
  refine WA.if_ne (tgt := 13) dX8_undo_7 (by decide) (fun hc => ?_) (fun hc => ?_)
  · have h := h.1 hc
    refine WA.aload_n dX8_undo_13 rfl (by decide) ?_
    refine gxX8_32 rfl rfl dX8_undo_14 ob_1 ?_
    refine WA.aload_n dX8_undo_17 rfl (by decide) ?_
    refine gxX8_22 rfl rfl dX8_undo_18 ob_1 ?_
    obtain ⟨d1, hd1, h⟩ := h
    refine WA.callV1 (kc := 0) (ks := 0) (kc' := 0) (ks' := 0) dX8_undo_21 lkX8_195 rfl rfl rfl ob_38 rfl (Nat.le_of_ble_eq_true rfl) hd1 h (fun r w1 hK => ?_)
    obtain ⟨rfl, h⟩ := hK
    change WA _ _ _ _ _ _ _ _ _ _ _ [] _ _
    refine WA.aload_n dX8_undo_24 rfl (by decide) ?_
    refine gxX8_32 rfl rfl dX8_undo_25 ob_1 ?_
    refine gfX8_192 rfl dX8_undo_28 ob_38 ?_
    exact WA.ireturn dX8_undo_31 ⟨_, rfl, h⟩
  · have h := h.2 hc
    refine WA.ldc (v := (-2000000002)) (x := (-2000000002)) dX8_undo_10 (am_mem 427 (by decide +kernel) rfl) (by decide) ?_
    exact WA.ireturn dX8_undo_12 ⟨_, rfl, h⟩
set_option maxRecDepth 10000 in
theorem e_X8_letWait {d : Nat} {w : Wd} {K : Int → Wd → Prop} {a1 a2 : Int} (ha2 : am_Te a2) 
    (h : C_X5_waits d [.inr (.inr 6), .inl a1] w (fun x1 w1 => ((¬ x1 = 0 → C_X4_keep d [.inr (.inr 38), .inr (.inr 6)] w1 (fun x2 w2 => C_X7_take d [.inr (.inr 10), .inl a1, .inr (.inr a2)] w2 (fun w3 => C_X5_waitingEdits d [.inr (.inr 6)] w3 (fun x3 w4 => K x3 w4)))) ∧ (x1 = 0 → C_X5_waitingEdits d [.inr (.inr 6)] w1 (fun x4 w5 => ((x4 < 8 → C_X4_keep d [.inr (.inr 38), .inr (.inr 6)] w5 (fun x5 w6 => C_X7_take d [.inr (.inr 10), .inl a1, .inr (.inr a2)] w6 (fun w7 => C_X5_waitingEdits d [.inr (.inr 6)] w7 (fun x6 w8 => K x6 w8)))) ∧ (¬ (x4 < 8) → K (-2000000003) w5))))))) :
    E_X8_letWait d [.inr (.inr 1), .inl a1, .inr (.inr a2)] w K := by
  refine EvA.of (by decide +kernel) (Nat.le_of_ble_eq_true rfl) ?_
  change W_X8_letWait d 0 [some (.inr (.inr 1)), some (.inl a1), some (.inr (.inr a2))] [] w K
  refine WA.aload_n dX8_letWait_0 rfl (by decide) ?_
  refine gxX8_22 rfl rfl dX8_letWait_1 ob_1 ?_
  refine WA.iload_n dX8_letWait_4 rfl ?_
  obtain ⟨d1, hd1, h⟩ := h
  refine WA.callV1 (kc := 0) (ks := 0) (kc' := 0) (ks' := 0) dX8_letWait_5 lkX8_101 rfl rfl rfl ob_6 rfl (Nat.le_of_ble_eq_true rfl) hd1 h (fun r w1 hK => ?_)
  obtain ⟨x1, rfl, h⟩ := hK
  change WA _ _ _ _ _ _ _ _ _ _ _ [.inl x1] _ _
  refine WA.if_ne (tgt := 26) dX8_letWait_8 (by decide) (fun hc => ?_) (fun hc => ?_)
  · have h := h.1 hc
    refine WA.aload_n dX8_letWait_26 rfl (by decide) ?_
    refine gxX8_32 rfl rfl dX8_letWait_27 ob_1 ?_
    refine WA.aload_n dX8_letWait_30 rfl (by decide) ?_
    refine gxX8_22 rfl rfl dX8_letWait_31 ob_1 ?_
    obtain ⟨d1, hd1, h⟩ := h
    refine WA.callV1 (kc := 0) (ks := 0) (kc' := 0) (ks' := 0) dX8_letWait_34 lkX8_88 rfl rfl rfl ob_38 rfl (Nat.le_of_ble_eq_true rfl) hd1 h (fun r w2 hK => ?_)
    obtain ⟨x2, rfl, h⟩ := hK
    change WA _ _ _ _ _ _ _ _ _ _ _ [.inr (.inr x2)] _ _
    refine WA.pop dX8_letWait_37 rfl ?_
    refine WA.aload_n dX8_letWait_38 rfl (by decide) ?_
    refine gxX8_22 rfl rfl dX8_letWait_39 ob_1 ?_
    refine gxX8_92 rfl rfl dX8_letWait_42 ob_6 ?_
    refine WA.top (v2 := .inr (.inr 10)) rfl ?_
    refine WA.iload_n dX8_letWait_45 rfl ?_
    refine WA.aload_n dX8_letWait_46 rfl (am_Te_ne ha2) ?_
    obtain ⟨d1, hd1, h⟩ := h
    refine WA.callV2 (kc := 0) (ks := 0) (kc' := 0) (ks' := 0) dX8_letWait_47 lkX8_166 rfl rfl rfl ob_10 rfl (Nat.le_of_ble_eq_true rfl) hd1 h (fun r w3 hK => ?_)
    obtain ⟨rfl, h⟩ := hK
    change WA _ _ _ _ _ _ _ _ _ _ _ [] _ _
    refine WA.aload_n dX8_letWait_50 rfl (by decide) ?_
    refine gxX8_22 rfl rfl dX8_letWait_51 ob_1 ?_
    obtain ⟨d1, hd1, h⟩ := h
    refine WA.callV0 (kc := 0) (ks := 0) (kc' := 0) (ks' := 0) dX8_letWait_54 lkX8_84 rfl rfl rfl ob_6 rfl (Nat.le_of_ble_eq_true rfl) hd1 h (fun r w4 hK => ?_)
    obtain ⟨x3, rfl, h⟩ := hK
    change WA _ _ _ _ _ _ _ _ _ _ _ [.inl x3] _ _
    exact WA.ireturn dX8_letWait_57 ⟨_, rfl, h⟩
  · have h := h.2 hc
    refine WA.aload_n dX8_letWait_11 rfl (by decide) ?_
    refine gxX8_22 rfl rfl dX8_letWait_12 ob_1 ?_
    obtain ⟨d1, hd1, h⟩ := h
    refine WA.callV0 (kc := 0) (ks := 0) (kc' := 0) (ks' := 0) dX8_letWait_15 lkX8_84 rfl rfl rfl ob_6 rfl (Nat.le_of_ble_eq_true rfl) hd1 h (fun r w5 hK => ?_)
    obtain ⟨x4, rfl, h⟩ := hK
    change WA _ _ _ _ _ _ _ _ _ _ _ [.inl x4] _ _
    refine WA.bipush dX8_letWait_18 ⟨by decide, by decide⟩ ?_
    refine WA.icmp_lt (tgt := 26) dX8_letWait_20 (by decide) (fun hc => ?_) (fun hc => ?_)
    · have h := h.1 hc
      refine WA.aload_n dX8_letWait_26 rfl (by decide) ?_
      refine gxX8_32 rfl rfl dX8_letWait_27 ob_1 ?_
      refine WA.aload_n dX8_letWait_30 rfl (by decide) ?_
      refine gxX8_22 rfl rfl dX8_letWait_31 ob_1 ?_
      obtain ⟨d1, hd1, h⟩ := h
      refine WA.callV1 (kc := 0) (ks := 0) (kc' := 0) (ks' := 0) dX8_letWait_34 lkX8_88 rfl rfl rfl ob_38 rfl (Nat.le_of_ble_eq_true rfl) hd1 h (fun r w6 hK => ?_)
      obtain ⟨x5, rfl, h⟩ := hK
      change WA _ _ _ _ _ _ _ _ _ _ _ [.inr (.inr x5)] _ _
      refine WA.pop dX8_letWait_37 rfl ?_
      refine WA.aload_n dX8_letWait_38 rfl (by decide) ?_
      refine gxX8_22 rfl rfl dX8_letWait_39 ob_1 ?_
      refine gxX8_92 rfl rfl dX8_letWait_42 ob_6 ?_
      refine WA.top (v2 := .inr (.inr 10)) rfl ?_
      refine WA.iload_n dX8_letWait_45 rfl ?_
      refine WA.aload_n dX8_letWait_46 rfl (am_Te_ne ha2) ?_
      obtain ⟨d1, hd1, h⟩ := h
      refine WA.callV2 (kc := 0) (ks := 0) (kc' := 0) (ks' := 0) dX8_letWait_47 lkX8_166 rfl rfl rfl ob_10 rfl (Nat.le_of_ble_eq_true rfl) hd1 h (fun r w7 hK => ?_)
      obtain ⟨rfl, h⟩ := hK
      change WA _ _ _ _ _ _ _ _ _ _ _ [] _ _
      refine WA.aload_n dX8_letWait_50 rfl (by decide) ?_
      refine gxX8_22 rfl rfl dX8_letWait_51 ob_1 ?_
      obtain ⟨d1, hd1, h⟩ := h
      refine WA.callV0 (kc := 0) (ks := 0) (kc' := 0) (ks' := 0) dX8_letWait_54 lkX8_84 rfl rfl rfl ob_6 rfl (Nat.le_of_ble_eq_true rfl) hd1 h (fun r w8 hK => ?_)
      obtain ⟨x6, rfl, h⟩ := hK
      change WA _ _ _ _ _ _ _ _ _ _ _ [.inl x6] _ _
      exact WA.ireturn dX8_letWait_57 ⟨_, rfl, h⟩
    · have h := h.2 hc
      refine WA.ldc (v := (-2000000003)) (x := (-2000000003)) dX8_letWait_23 (am_mem 261 (by decide +kernel) rfl) (by decide) ?_
      exact WA.ireturn dX8_letWait_25 ⟨_, rfl, h⟩
set_option maxRecDepth 10000 in
theorem v_X8_draftShifted_11 {d : Nat} {w : Wd} {K : Int → Wd → Prop} {a1 a2 a3 v4 : Int}  
    (h : (0 ≤ a1 ∧ a1 < 72) ∧ (((w 9 a1) ≤ v4 → K 1 w) ∧ (¬ ((w 9 a1) ≤ v4) → C_X8_shiftedLetter d [.inr (.inr 1), .inl a1, .inl v4, .inl a2, .inl a3] w (fun x1 w1 => ((¬ x1 = (-1) → C_X6_add d [.inr (.inr 4), .inl x1] w1 (fun w2 => (-2147483648 ≤ (v4 + 1) ∧ (v4 + 1) ≤ 2147483647) ∧ W_X8_draftShifted d 11 [some (.inr (.inr 1)), some (.inl a1), some (.inl a2), some (.inl a3), some (.inl (v4 + 1)), none] [] w2 K)) ∧ (x1 = (-1) → K 0 w1)))))) :
    W_X8_draftShifted d 11 [some (.inr (.inr 1)), some (.inl a1), some (.inl a2), some (.inl a3), some (.inl v4), none] [] w K := by
  refine WA.iload dX8_draftShifted_11 rfl ?_
  refine WA.aload_n dX8_draftShifted_13 rfl (by decide) ?_
  refine gxX8_22 rfl rfl dX8_draftShifted_14 ob_1 ?_
  refine gxX8_104 rfl rfl dX8_draftShifted_17 ob_6 ?_
  refine WA.top (v2 := .inr (.inr 7)) rfl ?_
  refine gxX8_128 rfl rfl dX8_draftShifted_20 ob_7 ?_
  refine WA.top (v2 := .inr (.inr 9)) rfl ?_
  refine WA.iload_n dX8_draftShifted_23 rfl ?_
  obtain ⟨s1, h⟩ := h
  refine WA.iaload dX8_draftShifted_24 ob_9 s1.1 s1.2 ?_
  refine WA.icmp_ge (tgt := 62) dX8_draftShifted_25 (by decide) (fun hc => ?_) (fun hc => ?_)
  · have h := h.1 hc
    refine WA.iconst dX8_draftShifted_62 ⟨by decide, by decide⟩ ?_
    exact WA.zreturn dX8_draftShifted_63 (by decide) ⟨_, rfl, h⟩
  · have h := h.2 hc
    refine WA.aload_n dX8_draftShifted_28 rfl (by decide) ?_
    refine WA.iload_n dX8_draftShifted_29 rfl ?_
    refine WA.iload dX8_draftShifted_30 rfl ?_
    refine WA.iload_n dX8_draftShifted_32 rfl ?_
    refine WA.iload_n dX8_draftShifted_33 rfl ?_
    obtain ⟨d1, hd1, h⟩ := h
    refine WA.callV4 (kc := 0) (ks := 0) (kc' := 0) (ks' := 0) dX8_draftShifted_34 lkX8_198 rfl rfl rfl ob_1 rfl (Nat.le_of_ble_eq_true rfl) hd1 h (fun r w1 hK => ?_)
    obtain ⟨x1, rfl, h⟩ := hK
    change WA _ _ _ _ _ _ _ _ _ _ _ [.inl x1] _ _
    refine WA.istore (als' := [some (.inr (.inr 1)), some (.inl a1), some (.inl a2), some (.inl a3), some (.inl v4), some (.inl x1)]) dX8_draftShifted_37 (Nat.le_of_ble_eq_true rfl) rfl ?_
    refine WA.iload dX8_draftShifted_39 rfl ?_
    refine WA.iconst dX8_draftShifted_41 ⟨by decide, by decide⟩ ?_
    refine WA.icmp_ne (tgt := 47) dX8_draftShifted_42 (by decide) (fun hc => ?_) (fun hc => ?_)
    · have h := h.1 hc
      refine WA.aload_n dX8_draftShifted_47 rfl (by decide) ?_
      refine gxX8_16 rfl rfl dX8_draftShifted_48 ob_1 ?_
      refine WA.iload dX8_draftShifted_51 rfl ?_
      obtain ⟨d1, hd1, h⟩ := h
      refine WA.callV1 (kc := 0) (ks := 0) (kc' := 0) (ks' := 0) dX8_draftShifted_53 lkX8_62 rfl rfl rfl ob_4 rfl (Nat.le_of_ble_eq_true rfl) hd1 h (fun r w2 hK => ?_)
      obtain ⟨rfl, h⟩ := hK
      change WA _ _ _ _ _ _ _ _ _ _ _ [] _ _
      obtain ⟨s2, h⟩ := h
      refine WA.iinc (als' := [some (.inr (.inr 1)), some (.inl a1), some (.inl a2), some (.inl a3), some (.inl (v4 + 1)), some (.inl x1)]) dX8_draftShifted_56 rfl s2 rfl ?_
      refine WA.goto (tgt := 11) dX8_draftShifted_59 (by decide) ?_
      exact WA.sub (als' := [some (.inr (.inr 1)), some (.inl a1), some (.inl a2), some (.inl a3), some (.inl (v4 + 1)), none]) (by simp only [am_sub, and_self]) rfl h
    · have h := h.2 hc
      refine WA.iconst dX8_draftShifted_45 ⟨by decide, by decide⟩ ?_
      exact WA.zreturn dX8_draftShifted_46 (by decide) ⟨_, rfl, h⟩
set_option maxRecDepth 10000 in
theorem e_X8_draftShifted {d : Nat} {w : Wd} {K : Int → Wd → Prop} {a1 a2 a3 : Int}  
    (h : (∀ w1, w1 = wset w 4 1 0 → W_X8_draftShifted d 11 [some (.inr (.inr 1)), some (.inl a1), some (.inl a2), some (.inl a3), some (.inl 0), none] [] w1 K)) :
    E_X8_draftShifted d [.inr (.inr 1), .inl a1, .inl a2, .inl a3] w K := by
  refine EvA.of (by decide +kernel) (Nat.le_of_ble_eq_true rfl) ?_
  change W_X8_draftShifted d 0 [some (.inr (.inr 1)), some (.inl a1), some (.inl a2), some (.inl a3), none, none] [] w K
  refine WA.aload_n dX8_draftShifted_0 rfl (by decide) ?_
  refine gxX8_16 rfl rfl dX8_draftShifted_1 ob_1 ?_
  refine WA.iconst dX8_draftShifted_4 ⟨by decide, by decide⟩ ?_
  obtain ⟨w1, qw1⟩ : ∃ z, z = wset w 4 1 0 := ⟨_, rfl⟩
  have h := h w1 qw1
  refine pfX8_57 rfl dX8_draftShifted_5 ob_4 ?_
  rw [← qw1]
  refine WA.iconst dX8_draftShifted_8 ⟨by decide, by decide⟩ ?_
  refine WA.istore (als' := [some (.inr (.inr 1)), some (.inl a1), some (.inl a2), some (.inl a3), some (.inl 0), none]) dX8_draftShifted_9 (Nat.le_of_ble_eq_true rfl) rfl ?_
  exact h
set_option maxRecDepth 10000 in
theorem e_X8_shiftedLetter {d : Nat} {w : Wd} {K : Int → Wd → Prop} {a1 a2 a3 a4 : Int}  
    (h : C_X7_letter d [.inr (.inr 7), .inl a1, .inl a2] w (fun x1 w1 => C_X8_isColumnLetter d [.inl x1] w1 (fun x2 w2 => ((x2 = 0 → C_X8_isRowDigit d [.inl x1] w2 (fun x3 w3 => ((x3 = 0 → K x1 w3) ∧ (¬ x3 = 0 → (-2147483648 ≤ (a2 - 1) ∧ (a2 - 1) ≤ 2147483647) ∧ C_X7_letter d [.inr (.inr 7), .inl a1, .inl (a2 - 1)] w3 (fun x4 w4 => C_X8_isColumnLetter d [.inl x4] w4 (fun x5 w5 => ((x5 = 0 → K x1 w5) ∧ (¬ x5 = 0 → (-2147483648 ≤ (x1 + a4) ∧ (x1 + a4) ≤ 2147483647) ∧ C_X8_isRowDigit d [.inl (x1 + a4)] w5 (fun x6 w6 => ((x6 = 0 → K (-1) w6) ∧ (¬ x6 = 0 → (-2147483648 ≤ (x1 + a4) ∧ (x1 + a4) ≤ 2147483647) ∧ K (x1 + a4) w6))))))))))) ∧ (¬ x2 = 0 → (-2147483648 ≤ (a2 + 1) ∧ (a2 + 1) ≤ 2147483647) ∧ C_X7_letter d [.inr (.inr 7), .inl a1, .inl (a2 + 1)] w2 (fun x7 w7 => C_X8_isRowDigit d [.inl x7] w7 (fun x8 w8 => ((x8 = 0 → C_X8_isRowDigit d [.inl x1] w8 (fun x9 w9 => ((x9 = 0 → K x1 w9) ∧ (¬ x9 = 0 → (-2147483648 ≤ (a2 - 1) ∧ (a2 - 1) ≤ 2147483647) ∧ C_X7_letter d [.inr (.inr 7), .inl a1, .inl (a2 - 1)] w9 (fun x10 w10 => C_X8_isColumnLetter d [.inl x10] w10 (fun x11 w11 => ((x11 = 0 → K x1 w11) ∧ (¬ x11 = 0 → (-2147483648 ≤ (x1 + a4) ∧ (x1 + a4) ≤ 2147483647) ∧ C_X8_isRowDigit d [.inl (x1 + a4)] w11 (fun x12 w12 => ((x12 = 0 → K (-1) w12) ∧ (¬ x12 = 0 → (-2147483648 ≤ (x1 + a4) ∧ (x1 + a4) ≤ 2147483647) ∧ K (x1 + a4) w12))))))))))) ∧ (¬ x8 = 0 → (-2147483648 ≤ (x1 + a3) ∧ (x1 + a3) ≤ 2147483647) ∧ C_X8_isColumnLetter d [.inl (x1 + a3)] w8 (fun x13 w13 => ((x13 = 0 → K (-1) w13) ∧ (¬ x13 = 0 → (-2147483648 ≤ (x1 + a3) ∧ (x1 + a3) ≤ 2147483647) ∧ K (x1 + a3) w13)))))))))))) :
    E_X8_shiftedLetter d [.inr (.inr 1), .inl a1, .inl a2, .inl a3, .inl a4] w K := by
  refine EvA.of (by decide +kernel) (Nat.le_of_ble_eq_true rfl) ?_
  change W_X8_shiftedLetter d 0 [some (.inr (.inr 1)), some (.inl a1), some (.inl a2), some (.inl a3), some (.inl a4), none] [] w K
  refine WA.aload_n dX8_shiftedLetter_0 rfl (by decide) ?_
  refine gxX8_22 rfl rfl dX8_shiftedLetter_1 ob_1 ?_
  refine gxX8_104 rfl rfl dX8_shiftedLetter_4 ob_6 ?_
  refine WA.top (v2 := .inr (.inr 7)) rfl ?_
  refine WA.iload_n dX8_shiftedLetter_7 rfl ?_
  refine WA.iload_n dX8_shiftedLetter_8 rfl ?_
  obtain ⟨d1, hd1, h⟩ := h
  refine WA.callV2 (kc := 0) (ks := 0) (kc' := 0) (ks' := 0) dX8_shiftedLetter_9 lkX8_131 rfl rfl rfl ob_7 rfl (Nat.le_of_ble_eq_true rfl) hd1 h (fun r w1 hK => ?_)
  obtain ⟨x1, rfl, h⟩ := hK
  change WA _ _ _ _ _ _ _ _ _ _ _ [.inl x1] _ _
  refine WA.istore (als' := [some (.inr (.inr 1)), some (.inl a1), some (.inl a2), some (.inl a3), some (.inl a4), some (.inl x1)]) dX8_shiftedLetter_12 (Nat.le_of_ble_eq_true rfl) rfl ?_
  refine WA.iload dX8_shiftedLetter_14 rfl ?_
  obtain ⟨d1, hd1, h⟩ := h
  refine WA.callS1 (kc := 0) (ks := 0) (kc' := 0) (ks' := 0) dX8_shiftedLetter_16 lkX8_202 rfl rfl rfl (Nat.le_of_ble_eq_true rfl) hd1 h (fun r w2 hK => ?_)
  obtain ⟨x2, rfl, h⟩ := hK
  change WA _ _ _ _ _ _ _ _ _ _ _ [.inl x2] _ _
  refine WA.if_eq (tgt := 61) dX8_shiftedLetter_19 (by decide) (fun hc => ?_) (fun hc => ?_)
  · have h := h.1 hc
    refine WA.iload dX8_shiftedLetter_61 rfl ?_
    obtain ⟨d1, hd1, h⟩ := h
    refine WA.callS1 (kc := 0) (ks := 0) (kc' := 0) (ks' := 0) dX8_shiftedLetter_63 lkX8_205 rfl rfl rfl (Nat.le_of_ble_eq_true rfl) hd1 h (fun r w3 hK => ?_)
    obtain ⟨x3, rfl, h⟩ := hK
    change WA _ _ _ _ _ _ _ _ _ _ _ [.inl x3] _ _
    refine WA.if_eq (tgt := 110) dX8_shiftedLetter_66 (by decide) (fun hc => ?_) (fun hc => ?_)
    · have h := h.1 hc
      refine WA.iload dX8_shiftedLetter_110 rfl ?_
      exact WA.ireturn dX8_shiftedLetter_112 ⟨_, rfl, h⟩
    · have h := h.2 hc
      refine WA.aload_n dX8_shiftedLetter_69 rfl (by decide) ?_
      refine gxX8_22 rfl rfl dX8_shiftedLetter_70 ob_1 ?_
      refine gxX8_104 rfl rfl dX8_shiftedLetter_73 ob_6 ?_
      refine WA.top (v2 := .inr (.inr 7)) rfl ?_
      refine WA.iload_n dX8_shiftedLetter_76 rfl ?_
      refine WA.iload_n dX8_shiftedLetter_77 rfl ?_
      refine WA.iconst dX8_shiftedLetter_78 ⟨by decide, by decide⟩ ?_
      obtain ⟨s1, h⟩ := h
      refine WA.isub dX8_shiftedLetter_79 s1 ?_
      obtain ⟨d1, hd1, h⟩ := h
      refine WA.callV2 (kc := 0) (ks := 0) (kc' := 0) (ks' := 0) dX8_shiftedLetter_80 lkX8_131 rfl rfl rfl ob_7 rfl (Nat.le_of_ble_eq_true rfl) hd1 h (fun r w4 hK => ?_)
      obtain ⟨x4, rfl, h⟩ := hK
      change WA _ _ _ _ _ _ _ _ _ _ _ [.inl x4] _ _
      obtain ⟨d1, hd1, h⟩ := h
      refine WA.callS1 (kc := 0) (ks := 0) (kc' := 0) (ks' := 0) dX8_shiftedLetter_83 lkX8_202 rfl rfl rfl (Nat.le_of_ble_eq_true rfl) hd1 h (fun r w5 hK => ?_)
      obtain ⟨x5, rfl, h⟩ := hK
      change WA _ _ _ _ _ _ _ _ _ _ _ [.inl x5] _ _
      refine WA.if_eq (tgt := 110) dX8_shiftedLetter_86 (by decide) (fun hc => ?_) (fun hc => ?_)
      · have h := h.1 hc
        refine WA.iload dX8_shiftedLetter_110 rfl ?_
        exact WA.ireturn dX8_shiftedLetter_112 ⟨_, rfl, h⟩
      · have h := h.2 hc
        refine WA.iload dX8_shiftedLetter_89 rfl ?_
        refine WA.iload dX8_shiftedLetter_91 rfl ?_
        obtain ⟨s2, h⟩ := h
        refine WA.iadd dX8_shiftedLetter_93 s2 ?_
        obtain ⟨d1, hd1, h⟩ := h
        refine WA.callS1 (kc := 0) (ks := 0) (kc' := 0) (ks' := 0) dX8_shiftedLetter_94 lkX8_205 rfl rfl rfl (Nat.le_of_ble_eq_true rfl) hd1 h (fun r w6 hK => ?_)
        obtain ⟨x6, rfl, h⟩ := hK
        change WA _ _ _ _ _ _ _ _ _ _ _ [.inl x6] _ _
        refine WA.if_eq (tgt := 108) dX8_shiftedLetter_97 (by decide) (fun hc => ?_) (fun hc => ?_)
        · have h := h.1 hc
          refine WA.iconst dX8_shiftedLetter_108 ⟨by decide, by decide⟩ ?_
          exact WA.ireturn dX8_shiftedLetter_109 ⟨_, rfl, h⟩
        · have h := h.2 hc
          refine WA.iload dX8_shiftedLetter_100 rfl ?_
          refine WA.iload dX8_shiftedLetter_102 rfl ?_
          obtain ⟨s3, h⟩ := h
          refine WA.iadd dX8_shiftedLetter_104 s3 ?_
          refine WA.goto (tgt := 109) dX8_shiftedLetter_105 (by decide) ?_
          exact WA.ireturn dX8_shiftedLetter_109 ⟨_, rfl, h⟩
  · have h := h.2 hc
    refine WA.aload_n dX8_shiftedLetter_22 rfl (by decide) ?_
    refine gxX8_22 rfl rfl dX8_shiftedLetter_23 ob_1 ?_
    refine gxX8_104 rfl rfl dX8_shiftedLetter_26 ob_6 ?_
    refine WA.top (v2 := .inr (.inr 7)) rfl ?_
    refine WA.iload_n dX8_shiftedLetter_29 rfl ?_
    refine WA.iload_n dX8_shiftedLetter_30 rfl ?_
    refine WA.iconst dX8_shiftedLetter_31 ⟨by decide, by decide⟩ ?_
    obtain ⟨s4, h⟩ := h
    refine WA.iadd dX8_shiftedLetter_32 s4 ?_
    obtain ⟨d1, hd1, h⟩ := h
    refine WA.callV2 (kc := 0) (ks := 0) (kc' := 0) (ks' := 0) dX8_shiftedLetter_33 lkX8_131 rfl rfl rfl ob_7 rfl (Nat.le_of_ble_eq_true rfl) hd1 h (fun r w7 hK => ?_)
    obtain ⟨x7, rfl, h⟩ := hK
    change WA _ _ _ _ _ _ _ _ _ _ _ [.inl x7] _ _
    obtain ⟨d1, hd1, h⟩ := h
    refine WA.callS1 (kc := 0) (ks := 0) (kc' := 0) (ks' := 0) dX8_shiftedLetter_36 lkX8_205 rfl rfl rfl (Nat.le_of_ble_eq_true rfl) hd1 h (fun r w8 hK => ?_)
    obtain ⟨x8, rfl, h⟩ := hK
    change WA _ _ _ _ _ _ _ _ _ _ _ [.inl x8] _ _
    refine WA.if_eq (tgt := 61) dX8_shiftedLetter_39 (by decide) (fun hc => ?_) (fun hc => ?_)
    · have h := h.1 hc
      refine WA.iload dX8_shiftedLetter_61 rfl ?_
      obtain ⟨d1, hd1, h⟩ := h
      refine WA.callS1 (kc := 0) (ks := 0) (kc' := 0) (ks' := 0) dX8_shiftedLetter_63 lkX8_205 rfl rfl rfl (Nat.le_of_ble_eq_true rfl) hd1 h (fun r w9 hK => ?_)
      obtain ⟨x9, rfl, h⟩ := hK
      change WA _ _ _ _ _ _ _ _ _ _ _ [.inl x9] _ _
      refine WA.if_eq (tgt := 110) dX8_shiftedLetter_66 (by decide) (fun hc => ?_) (fun hc => ?_)
      · have h := h.1 hc
        refine WA.iload dX8_shiftedLetter_110 rfl ?_
        exact WA.ireturn dX8_shiftedLetter_112 ⟨_, rfl, h⟩
      · have h := h.2 hc
        refine WA.aload_n dX8_shiftedLetter_69 rfl (by decide) ?_
        refine gxX8_22 rfl rfl dX8_shiftedLetter_70 ob_1 ?_
        refine gxX8_104 rfl rfl dX8_shiftedLetter_73 ob_6 ?_
        refine WA.top (v2 := .inr (.inr 7)) rfl ?_
        refine WA.iload_n dX8_shiftedLetter_76 rfl ?_
        refine WA.iload_n dX8_shiftedLetter_77 rfl ?_
        refine WA.iconst dX8_shiftedLetter_78 ⟨by decide, by decide⟩ ?_
        obtain ⟨s5, h⟩ := h
        refine WA.isub dX8_shiftedLetter_79 s5 ?_
        obtain ⟨d1, hd1, h⟩ := h
        refine WA.callV2 (kc := 0) (ks := 0) (kc' := 0) (ks' := 0) dX8_shiftedLetter_80 lkX8_131 rfl rfl rfl ob_7 rfl (Nat.le_of_ble_eq_true rfl) hd1 h (fun r w10 hK => ?_)
        obtain ⟨x10, rfl, h⟩ := hK
        change WA _ _ _ _ _ _ _ _ _ _ _ [.inl x10] _ _
        obtain ⟨d1, hd1, h⟩ := h
        refine WA.callS1 (kc := 0) (ks := 0) (kc' := 0) (ks' := 0) dX8_shiftedLetter_83 lkX8_202 rfl rfl rfl (Nat.le_of_ble_eq_true rfl) hd1 h (fun r w11 hK => ?_)
        obtain ⟨x11, rfl, h⟩ := hK
        change WA _ _ _ _ _ _ _ _ _ _ _ [.inl x11] _ _
        refine WA.if_eq (tgt := 110) dX8_shiftedLetter_86 (by decide) (fun hc => ?_) (fun hc => ?_)
        · have h := h.1 hc
          refine WA.iload dX8_shiftedLetter_110 rfl ?_
          exact WA.ireturn dX8_shiftedLetter_112 ⟨_, rfl, h⟩
        · have h := h.2 hc
          refine WA.iload dX8_shiftedLetter_89 rfl ?_
          refine WA.iload dX8_shiftedLetter_91 rfl ?_
          obtain ⟨s6, h⟩ := h
          refine WA.iadd dX8_shiftedLetter_93 s6 ?_
          obtain ⟨d1, hd1, h⟩ := h
          refine WA.callS1 (kc := 0) (ks := 0) (kc' := 0) (ks' := 0) dX8_shiftedLetter_94 lkX8_205 rfl rfl rfl (Nat.le_of_ble_eq_true rfl) hd1 h (fun r w12 hK => ?_)
          obtain ⟨x12, rfl, h⟩ := hK
          change WA _ _ _ _ _ _ _ _ _ _ _ [.inl x12] _ _
          refine WA.if_eq (tgt := 108) dX8_shiftedLetter_97 (by decide) (fun hc => ?_) (fun hc => ?_)
          · have h := h.1 hc
            refine WA.iconst dX8_shiftedLetter_108 ⟨by decide, by decide⟩ ?_
            exact WA.ireturn dX8_shiftedLetter_109 ⟨_, rfl, h⟩
          · have h := h.2 hc
            refine WA.iload dX8_shiftedLetter_100 rfl ?_
            refine WA.iload dX8_shiftedLetter_102 rfl ?_
            obtain ⟨s7, h⟩ := h
            refine WA.iadd dX8_shiftedLetter_104 s7 ?_
            refine WA.goto (tgt := 109) dX8_shiftedLetter_105 (by decide) ?_
            exact WA.ireturn dX8_shiftedLetter_109 ⟨_, rfl, h⟩
    · have h := h.2 hc
      refine WA.iload dX8_shiftedLetter_42 rfl ?_
      refine WA.iload_n dX8_shiftedLetter_44 rfl ?_
      obtain ⟨s8, h⟩ := h
      refine WA.iadd dX8_shiftedLetter_45 s8 ?_
      obtain ⟨d1, hd1, h⟩ := h
      refine WA.callS1 (kc := 0) (ks := 0) (kc' := 0) (ks' := 0) dX8_shiftedLetter_46 lkX8_202 rfl rfl rfl (Nat.le_of_ble_eq_true rfl) hd1 h (fun r w13 hK => ?_)
      obtain ⟨x13, rfl, h⟩ := hK
      change WA _ _ _ _ _ _ _ _ _ _ _ [.inl x13] _ _
      refine WA.if_eq (tgt := 59) dX8_shiftedLetter_49 (by decide) (fun hc => ?_) (fun hc => ?_)
      · have h := h.1 hc
        refine WA.iconst dX8_shiftedLetter_59 ⟨by decide, by decide⟩ ?_
        exact WA.ireturn dX8_shiftedLetter_60 ⟨_, rfl, h⟩
      · have h := h.2 hc
        refine WA.iload dX8_shiftedLetter_52 rfl ?_
        refine WA.iload_n dX8_shiftedLetter_54 rfl ?_
        obtain ⟨s9, h⟩ := h
        refine WA.iadd dX8_shiftedLetter_55 s9 ?_
        refine WA.goto (tgt := 60) dX8_shiftedLetter_56 (by decide) ?_
        exact WA.ireturn dX8_shiftedLetter_60 ⟨_, rfl, h⟩
set_option maxRecDepth 10000 in
theorem v_X8_draftNumber_29 {d : Nat} {w : Wd} {K : Wd → Prop} {a1 v2 v3 : Int}  
    (h : ((v3 ≤ 0 → K w) ∧ (¬ (v3 ≤ 0) → (0 ≤ v2 ∧ 0 < v3) ∧ 0 ≤ (v2 / v3) ∧ (-2147483648 ≤ (48 + ((v2 / v3) % 10)) ∧ (48 + ((v2 / v3) % 10)) ≤ 2147483647) ∧ C_X6_add d [.inr (.inr 4), .inl (48 + ((v2 / v3) % 10))] w (fun w1 => 0 ≤ v3 ∧ W_X8_draftNumber d 29 [some (.inr (.inr 1)), some (.inl a1), some (.inl v2), some (.inl (v3 / 10))] [] w1 K)))) :
    W_X8_draftNumber d 29 [some (.inr (.inr 1)), some (.inl a1), some (.inl v2), some (.inl v3)] [] w K := by
  refine WA.iload_n dX8_draftNumber_29 rfl ?_
  refine WA.if_le (tgt := 57) dX8_draftNumber_30 (by decide) (fun hc => ?_) (fun hc => ?_)
  · have h := h.1 hc
    exact WA.vreturn dX8_draftNumber_57 ⟨rfl, h⟩
  · have h := h.2 hc
    refine WA.aload_n dX8_draftNumber_33 rfl (by decide) ?_
    refine gxX8_16 rfl rfl dX8_draftNumber_34 ob_1 ?_
    refine WA.bipush dX8_draftNumber_37 ⟨by decide, by decide⟩ ?_
    refine WA.iload_n dX8_draftNumber_39 rfl ?_
    refine WA.iload_n dX8_draftNumber_40 rfl ?_
    obtain ⟨s1, h⟩ := h
    refine WA.idiv dX8_draftNumber_41 s1.1 s1.2 ?_
    refine WA.bipush dX8_draftNumber_42 ⟨by decide, by decide⟩ ?_
    obtain ⟨s2, h⟩ := h
    refine WA.irem dX8_draftNumber_44 s2 (by decide) ?_
    obtain ⟨s3, h⟩ := h
    refine WA.iadd dX8_draftNumber_45 s3 ?_
    obtain ⟨d1, hd1, h⟩ := h
    refine WA.callV1 (kc := 0) (ks := 0) (kc' := 0) (ks' := 0) dX8_draftNumber_46 lkX8_62 rfl rfl rfl ob_4 rfl (Nat.le_of_ble_eq_true rfl) hd1 h (fun r w1 hK => ?_)
    obtain ⟨rfl, h⟩ := hK
    change WA _ _ _ _ _ _ _ _ _ _ _ [] _ _
    refine WA.iload_n dX8_draftNumber_49 rfl ?_
    refine WA.bipush dX8_draftNumber_50 ⟨by decide, by decide⟩ ?_
    obtain ⟨s4, h⟩ := h
    refine WA.idiv dX8_draftNumber_52 s4 (by decide) ?_
    refine WA.istore_n (als' := [some (.inr (.inr 1)), some (.inl a1), some (.inl v2), some (.inl (v3 / 10))]) dX8_draftNumber_53 (Nat.le_of_ble_eq_true rfl) rfl ?_
    refine WA.goto (tgt := 29) dX8_draftNumber_54 (by decide) ?_
    exact h
set_option maxRecDepth 10000 in
theorem e_X8_draftNumber {d : Nat} {w : Wd} {K : Wd → Prop} {a1 : Int}  (hd : 2 ≤ d) 
    (h : (∀ w1, w1 = wset w 4 1 0 → ((0 ≤ a1 → -2147483648 < a1 ∧ W_X8_draftNumber d 29 [some (.inr (.inr 1)), some (.inl a1), some (.inl (am_abs a1)), some (.inl 100000)] [] w1 K) ∧ (¬ (0 ≤ a1) → C_X6_add d [.inr (.inr 4), .inl 45] w1 (fun w2 => -2147483648 < a1 ∧ W_X8_draftNumber d 29 [some (.inr (.inr 1)), some (.inl a1), some (.inl (am_abs a1)), some (.inl 100000)] [] w2 K))))) :
    E_X8_draftNumber d [.inr (.inr 1), .inl a1] w K := by
  refine EvA.of (by decide +kernel) (Nat.le_of_ble_eq_true rfl) ?_
  change W_X8_draftNumber d 0 [some (.inr (.inr 1)), some (.inl a1), none, none] [] w K
  refine WA.aload_n dX8_draftNumber_0 rfl (by decide) ?_
  refine gxX8_16 rfl rfl dX8_draftNumber_1 ob_1 ?_
  refine WA.iconst dX8_draftNumber_4 ⟨by decide, by decide⟩ ?_
  obtain ⟨w1, qw1⟩ : ∃ z, z = wset w 4 1 0 := ⟨_, rfl⟩
  have h := h w1 qw1
  refine pfX8_57 rfl dX8_draftNumber_5 ob_4 ?_
  rw [← qw1]
  refine WA.iload_n dX8_draftNumber_8 rfl ?_
  refine WA.if_ge (tgt := 21) dX8_draftNumber_9 (by decide) (fun hc => ?_) (fun hc => ?_)
  · have h := h.1 hc
    refine WA.iload_n dX8_draftNumber_21 rfl ?_
    obtain ⟨s1, h⟩ := h
    refine WA.mathabs dX8_draftNumber_22 (am_mem 721 (by decide +kernel) rfl) (am_mem 722 (by decide +kernel) rfl) (am_mem 15 (by decide +kernel) rfl) (am_mem 723 (by decide +kernel) rfl) (Nat.le_trans (by decide) hd) (Nat.le_of_ble_eq_true rfl) s1 ?_
    refine WA.istore_n (als' := [some (.inr (.inr 1)), some (.inl a1), some (.inl (am_abs a1)), none]) dX8_draftNumber_25 (Nat.le_of_ble_eq_true rfl) rfl ?_
    refine WA.ldc (v := 100000) (x := 100000) dX8_draftNumber_26 (am_mem 724 (by decide +kernel) rfl) (by decide) ?_
    refine WA.istore_n (als' := [some (.inr (.inr 1)), some (.inl a1), some (.inl (am_abs a1)), some (.inl 100000)]) dX8_draftNumber_28 (Nat.le_of_ble_eq_true rfl) rfl ?_
    exact h
  · have h := h.2 hc
    refine WA.aload_n dX8_draftNumber_12 rfl (by decide) ?_
    refine gxX8_16 rfl rfl dX8_draftNumber_13 ob_1 ?_
    refine WA.bipush dX8_draftNumber_16 ⟨by decide, by decide⟩ ?_
    obtain ⟨d1, hd1, h⟩ := h
    refine WA.callV1 (kc := 0) (ks := 0) (kc' := 0) (ks' := 0) dX8_draftNumber_18 lkX8_62 rfl rfl rfl ob_4 rfl (Nat.le_of_ble_eq_true rfl) hd1 h (fun r w2 hK => ?_)
    obtain ⟨rfl, h⟩ := hK
    change WA _ _ _ _ _ _ _ _ _ _ _ [] _ _
    refine WA.iload_n dX8_draftNumber_21 rfl ?_
    obtain ⟨s2, h⟩ := h
    refine WA.mathabs dX8_draftNumber_22 (am_mem 721 (by decide +kernel) rfl) (am_mem 722 (by decide +kernel) rfl) (am_mem 15 (by decide +kernel) rfl) (am_mem 723 (by decide +kernel) rfl) (Nat.le_trans (by decide) hd) (Nat.le_of_ble_eq_true rfl) s2 ?_
    refine WA.istore_n (als' := [some (.inr (.inr 1)), some (.inl a1), some (.inl (am_abs a1)), none]) dX8_draftNumber_25 (Nat.le_of_ble_eq_true rfl) rfl ?_
    refine WA.ldc (v := 100000) (x := 100000) dX8_draftNumber_26 (am_mem 724 (by decide +kernel) rfl) (by decide) ?_
    refine WA.istore_n (als' := [some (.inr (.inr 1)), some (.inl a1), some (.inl (am_abs a1)), some (.inl 100000)]) dX8_draftNumber_28 (Nat.le_of_ble_eq_true rfl) rfl ?_
    exact h
set_option maxRecDepth 10000 in
theorem v_X8_bringUpToDate_35 {d : Nat} {w : Wd} {K : Int → Wd → Prop} {a1 a2 v3 v4 : Int} (ha1 : am_St a1) 
    (h : ((72 ≤ v4 → K v3 w) ∧ (¬ (72 ≤ v4) → ((a2 = 0 → C_X5_causeOf d [.inr (.inr 6), .inl v4, .inr (.inr a1), .inl 0] w (fun x1 w1 => (0 ≤ v4 ∧ v4 < 72) ∧ (∀ w2, w2 = wset w1 21 v4 x1 → (0 ≤ v4 ∧ v4 < 72) ∧ (((w2 21 v4) = (-1) → (-2147483648 ≤ (v4 + 1) ∧ (v4 + 1) ≤ 2147483647) ∧ W_X8_bringUpToDate d 35 [some (.inr (.inr 1)), some (.inr (.inr a1)), some (.inl a2), some (.inl v3), some (.inl (v4 + 1)), none] [] w2 K) ∧ (¬ (w2 21 v4) = (-1) → (0 ≤ v4 ∧ v4 < 72) ∧ (-2147483648 ≤ ((w2 19 v4) + 1) ∧ ((w2 19 v4) + 1) ≤ 2147483647) ∧ (0 ≤ v4 ∧ v4 < 72) ∧ (∀ w3, w3 = wset w2 19 v4 ((w2 19 v4) + 1) → (-2147483648 ≤ (v3 + 1) ∧ (v3 + 1) ≤ 2147483647) ∧ (-2147483648 ≤ (v4 + 1) ∧ (v4 + 1) ≤ 2147483647) ∧ W_X8_bringUpToDate d 35 [some (.inr (.inr 1)), some (.inr (.inr a1)), some (.inl a2), some (.inl (v3 + 1)), some (.inl (v4 + 1)), none] [] w3 K)))))) ∧ (¬ a2 = 0 → C_X5_waits d [.inr (.inr a1), .inl v4] w (fun x2 w4 => ((x2 = 0 → C_X5_causeOf d [.inr (.inr 6), .inl v4, .inr (.inr a1), .inl 0] w4 (fun x3 w5 => (0 ≤ v4 ∧ v4 < 72) ∧ (∀ w6, w6 = wset w5 21 v4 x3 → (0 ≤ v4 ∧ v4 < 72) ∧ (((w6 21 v4) = (-1) → (-2147483648 ≤ (v4 + 1) ∧ (v4 + 1) ≤ 2147483647) ∧ W_X8_bringUpToDate d 35 [some (.inr (.inr 1)), some (.inr (.inr a1)), some (.inl a2), some (.inl v3), some (.inl (v4 + 1)), none] [] w6 K) ∧ (¬ (w6 21 v4) = (-1) → (0 ≤ v4 ∧ v4 < 72) ∧ (-2147483648 ≤ ((w6 19 v4) + 1) ∧ ((w6 19 v4) + 1) ≤ 2147483647) ∧ (0 ≤ v4 ∧ v4 < 72) ∧ (∀ w7, w7 = wset w6 19 v4 ((w6 19 v4) + 1) → (-2147483648 ≤ (v3 + 1) ∧ (v3 + 1) ≤ 2147483647) ∧ (-2147483648 ≤ (v4 + 1) ∧ (v4 + 1) ≤ 2147483647) ∧ W_X8_bringUpToDate d 35 [some (.inr (.inr 1)), some (.inr (.inr a1)), some (.inl a2), some (.inl (v3 + 1)), some (.inl (v4 + 1)), none] [] w7 K)))))) ∧ (¬ x2 = 0 → C_X5_causeOf d [.inr (.inr 6), .inl v4, .inr (.inr a1), .inl 1] w4 (fun x4 w8 => (0 ≤ v4 ∧ v4 < 72) ∧ (∀ w9, w9 = wset w8 21 v4 x4 → (0 ≤ v4 ∧ v4 < 72) ∧ (((w9 21 v4) = (-1) → (-2147483648 ≤ (v4 + 1) ∧ (v4 + 1) ≤ 2147483647) ∧ W_X8_bringUpToDate d 35 [some (.inr (.inr 1)), some (.inr (.inr a1)), some (.inl a2), some (.inl v3), some (.inl (v4 + 1)), none] [] w9 K) ∧ (¬ (w9 21 v4) = (-1) → (0 ≤ v4 ∧ v4 < 72) ∧ (-2147483648 ≤ ((w9 19 v4) + 1) ∧ ((w9 19 v4) + 1) ≤ 2147483647) ∧ (0 ≤ v4 ∧ v4 < 72) ∧ (∀ w10, w10 = wset w9 19 v4 ((w9 19 v4) + 1) → (-2147483648 ≤ (v3 + 1) ∧ (v3 + 1) ≤ 2147483647) ∧ (-2147483648 ≤ (v4 + 1) ∧ (v4 + 1) ≤ 2147483647) ∧ W_X8_bringUpToDate d 35 [some (.inr (.inr 1)), some (.inr (.inr a1)), some (.inl a2), some (.inl (v3 + 1)), some (.inl (v4 + 1)), none] [] w10 K))))))))))))) :
    W_X8_bringUpToDate d 35 [some (.inr (.inr 1)), some (.inr (.inr a1)), some (.inl a2), some (.inl v3), some (.inl v4), none] [] w K := by
  refine WA.iload dX8_bringUpToDate_35 rfl ?_
  refine WA.bipush dX8_bringUpToDate_37 ⟨by decide, by decide⟩ ?_
  refine WA.icmp_ge (tgt := 121) dX8_bringUpToDate_39 (by decide) (fun hc => ?_) (fun hc => ?_)
  · have h := h.1 hc
    refine WA.iload_n dX8_bringUpToDate_121 rfl ?_
    exact WA.ireturn dX8_bringUpToDate_122 ⟨_, rfl, h⟩
  · have h := h.2 hc
    refine WA.iload_n dX8_bringUpToDate_42 rfl ?_
    refine WA.if_eq (tgt := 59) dX8_bringUpToDate_43 (by decide) (fun hc => ?_) (fun hc => ?_)
    · have h := h.1 hc
      refine WA.iconst dX8_bringUpToDate_59 ⟨by decide, by decide⟩ ?_
      refine WA.istore (als' := [some (.inr (.inr 1)), some (.inr (.inr a1)), some (.inl a2), some (.inl v3), some (.inl v4), some (.inl 0)]) dX8_bringUpToDate_60 (Nat.le_of_ble_eq_true rfl) rfl ?_
      refine WA.aload_n dX8_bringUpToDate_62 rfl (by decide) ?_
      refine gxX8_22 rfl rfl dX8_bringUpToDate_63 ob_1 ?_
      refine gxX8_144 rfl rfl dX8_bringUpToDate_66 ob_6 ?_
      refine WA.top (v2 := .inr (.inr 21)) rfl ?_
      refine WA.iload dX8_bringUpToDate_69 rfl ?_
      refine WA.aload_n dX8_bringUpToDate_71 rfl (by decide) ?_
      refine gxX8_22 rfl rfl dX8_bringUpToDate_72 ob_1 ?_
      refine WA.iload dX8_bringUpToDate_75 rfl ?_
      refine WA.aload_n dX8_bringUpToDate_77 rfl (am_St_ne ha1) ?_
      refine WA.iload dX8_bringUpToDate_78 rfl ?_
      obtain ⟨d1, hd1, h⟩ := h
      refine WA.callV3 (kc := 0) (ks := 0) (kc' := 0) (ks' := 0) dX8_bringUpToDate_80 lkX8_217 rfl rfl rfl ob_6 rfl (Nat.le_of_ble_eq_true rfl) hd1 h (fun r w1 hK => ?_)
      obtain ⟨x1, rfl, h⟩ := hK
      change WA _ _ _ _ _ _ _ _ _ _ _ [.inl x1, .inl v4, .inr (.inr 21)] _ _
      obtain ⟨s1, h⟩ := h
      obtain ⟨w2, qw2⟩ : ∃ z, z = wset w1 21 v4 x1 := ⟨_, rfl⟩
      have h := h w2 qw2
      refine WA.iastore dX8_bringUpToDate_83 ob_21 s1.1 s1.2 ?_
      rw [← qw2]
      refine WA.aload_n dX8_bringUpToDate_84 rfl (by decide) ?_
      refine gxX8_22 rfl rfl dX8_bringUpToDate_85 ob_1 ?_
      refine gxX8_144 rfl rfl dX8_bringUpToDate_88 ob_6 ?_
      refine WA.top (v2 := .inr (.inr 21)) rfl ?_
      refine WA.iload dX8_bringUpToDate_91 rfl ?_
      obtain ⟨s2, h⟩ := h
      refine WA.iaload dX8_bringUpToDate_93 ob_21 s2.1 s2.2 ?_
      refine WA.iconst dX8_bringUpToDate_94 ⟨by decide, by decide⟩ ?_
      refine WA.icmp_eq (tgt := 115) dX8_bringUpToDate_95 (by decide) (fun hc => ?_) (fun hc => ?_)
      · have h := h.1 hc
        obtain ⟨s3, h⟩ := h
        refine WA.iinc (als' := [some (.inr (.inr 1)), some (.inr (.inr a1)), some (.inl a2), some (.inl v3), some (.inl (v4 + 1)), some (.inl 0)]) dX8_bringUpToDate_115 rfl s3 rfl ?_
        refine WA.goto (tgt := 35) dX8_bringUpToDate_118 (by decide) ?_
        exact WA.sub (als' := [some (.inr (.inr 1)), some (.inr (.inr a1)), some (.inl a2), some (.inl v3), some (.inl (v4 + 1)), none]) (by simp only [am_sub, and_self]) rfl h
      · have h := h.2 hc
        refine WA.aload_n dX8_bringUpToDate_98 rfl (by decide) ?_
        refine gxX8_22 rfl rfl dX8_bringUpToDate_99 ob_1 ?_
        refine gxX8_221 rfl rfl dX8_bringUpToDate_102 ob_6 ?_
        refine WA.top (v2 := .inr (.inr 19)) rfl ?_
        refine WA.iload dX8_bringUpToDate_105 rfl ?_
        refine WA.dup2 dX8_bringUpToDate_107 rfl rfl ?_
        obtain ⟨s4, h⟩ := h
        refine WA.iaload dX8_bringUpToDate_108 ob_19 s4.1 s4.2 ?_
        refine WA.iconst dX8_bringUpToDate_109 ⟨by decide, by decide⟩ ?_
        obtain ⟨s5, h⟩ := h
        refine WA.iadd dX8_bringUpToDate_110 s5 ?_
        obtain ⟨s6, h⟩ := h
        obtain ⟨w3, qw3⟩ : ∃ z, z = wset w2 19 v4 ((w2 19 v4) + 1) := ⟨_, rfl⟩
        have h := h w3 qw3
        refine WA.iastore dX8_bringUpToDate_111 ob_19 s6.1 s6.2 ?_
        rw [← qw3]
        obtain ⟨s7, h⟩ := h
        refine WA.iinc (als' := [some (.inr (.inr 1)), some (.inr (.inr a1)), some (.inl a2), some (.inl (v3 + 1)), some (.inl v4), some (.inl 0)]) dX8_bringUpToDate_112 rfl s7 rfl ?_
        obtain ⟨s8, h⟩ := h
        refine WA.iinc (als' := [some (.inr (.inr 1)), some (.inr (.inr a1)), some (.inl a2), some (.inl (v3 + 1)), some (.inl (v4 + 1)), some (.inl 0)]) dX8_bringUpToDate_115 rfl s8 rfl ?_
        refine WA.goto (tgt := 35) dX8_bringUpToDate_118 (by decide) ?_
        exact WA.sub (als' := [some (.inr (.inr 1)), some (.inr (.inr a1)), some (.inl a2), some (.inl (v3 + 1)), some (.inl (v4 + 1)), none]) (by simp only [am_sub, and_self]) rfl h
    · have h := h.2 hc
      refine WA.aload_n dX8_bringUpToDate_46 rfl (am_St_ne ha1) ?_
      refine WA.iload dX8_bringUpToDate_47 rfl ?_
      obtain ⟨d1, hd1, h⟩ := h
      refine WA.callV1 (kc := 0) (ks := 0) (kc' := 0) (ks' := 0) dX8_bringUpToDate_49 lkX8_101 rfl rfl rfl (am_St_obj ha1) rfl (Nat.le_of_ble_eq_true rfl) hd1 h (fun r w4 hK => ?_)
      obtain ⟨x2, rfl, h⟩ := hK
      change WA _ _ _ _ _ _ _ _ _ _ _ [.inl x2] _ _
      refine WA.if_eq (tgt := 59) dX8_bringUpToDate_52 (by decide) (fun hc => ?_) (fun hc => ?_)
      · have h := h.1 hc
        refine WA.iconst dX8_bringUpToDate_59 ⟨by decide, by decide⟩ ?_
        refine WA.istore (als' := [some (.inr (.inr 1)), some (.inr (.inr a1)), some (.inl a2), some (.inl v3), some (.inl v4), some (.inl 0)]) dX8_bringUpToDate_60 (Nat.le_of_ble_eq_true rfl) rfl ?_
        refine WA.aload_n dX8_bringUpToDate_62 rfl (by decide) ?_
        refine gxX8_22 rfl rfl dX8_bringUpToDate_63 ob_1 ?_
        refine gxX8_144 rfl rfl dX8_bringUpToDate_66 ob_6 ?_
        refine WA.top (v2 := .inr (.inr 21)) rfl ?_
        refine WA.iload dX8_bringUpToDate_69 rfl ?_
        refine WA.aload_n dX8_bringUpToDate_71 rfl (by decide) ?_
        refine gxX8_22 rfl rfl dX8_bringUpToDate_72 ob_1 ?_
        refine WA.iload dX8_bringUpToDate_75 rfl ?_
        refine WA.aload_n dX8_bringUpToDate_77 rfl (am_St_ne ha1) ?_
        refine WA.iload dX8_bringUpToDate_78 rfl ?_
        obtain ⟨d1, hd1, h⟩ := h
        refine WA.callV3 (kc := 0) (ks := 0) (kc' := 0) (ks' := 0) dX8_bringUpToDate_80 lkX8_217 rfl rfl rfl ob_6 rfl (Nat.le_of_ble_eq_true rfl) hd1 h (fun r w5 hK => ?_)
        obtain ⟨x3, rfl, h⟩ := hK
        change WA _ _ _ _ _ _ _ _ _ _ _ [.inl x3, .inl v4, .inr (.inr 21)] _ _
        obtain ⟨s9, h⟩ := h
        obtain ⟨w6, qw6⟩ : ∃ z, z = wset w5 21 v4 x3 := ⟨_, rfl⟩
        have h := h w6 qw6
        refine WA.iastore dX8_bringUpToDate_83 ob_21 s9.1 s9.2 ?_
        rw [← qw6]
        refine WA.aload_n dX8_bringUpToDate_84 rfl (by decide) ?_
        refine gxX8_22 rfl rfl dX8_bringUpToDate_85 ob_1 ?_
        refine gxX8_144 rfl rfl dX8_bringUpToDate_88 ob_6 ?_
        refine WA.top (v2 := .inr (.inr 21)) rfl ?_
        refine WA.iload dX8_bringUpToDate_91 rfl ?_
        obtain ⟨s10, h⟩ := h
        refine WA.iaload dX8_bringUpToDate_93 ob_21 s10.1 s10.2 ?_
        refine WA.iconst dX8_bringUpToDate_94 ⟨by decide, by decide⟩ ?_
        refine WA.icmp_eq (tgt := 115) dX8_bringUpToDate_95 (by decide) (fun hc => ?_) (fun hc => ?_)
        · have h := h.1 hc
          obtain ⟨s11, h⟩ := h
          refine WA.iinc (als' := [some (.inr (.inr 1)), some (.inr (.inr a1)), some (.inl a2), some (.inl v3), some (.inl (v4 + 1)), some (.inl 0)]) dX8_bringUpToDate_115 rfl s11 rfl ?_
          refine WA.goto (tgt := 35) dX8_bringUpToDate_118 (by decide) ?_
          exact WA.sub (als' := [some (.inr (.inr 1)), some (.inr (.inr a1)), some (.inl a2), some (.inl v3), some (.inl (v4 + 1)), none]) (by simp only [am_sub, and_self]) rfl h
        · have h := h.2 hc
          refine WA.aload_n dX8_bringUpToDate_98 rfl (by decide) ?_
          refine gxX8_22 rfl rfl dX8_bringUpToDate_99 ob_1 ?_
          refine gxX8_221 rfl rfl dX8_bringUpToDate_102 ob_6 ?_
          refine WA.top (v2 := .inr (.inr 19)) rfl ?_
          refine WA.iload dX8_bringUpToDate_105 rfl ?_
          refine WA.dup2 dX8_bringUpToDate_107 rfl rfl ?_
          obtain ⟨s12, h⟩ := h
          refine WA.iaload dX8_bringUpToDate_108 ob_19 s12.1 s12.2 ?_
          refine WA.iconst dX8_bringUpToDate_109 ⟨by decide, by decide⟩ ?_
          obtain ⟨s13, h⟩ := h
          refine WA.iadd dX8_bringUpToDate_110 s13 ?_
          obtain ⟨s14, h⟩ := h
          obtain ⟨w7, qw7⟩ : ∃ z, z = wset w6 19 v4 ((w6 19 v4) + 1) := ⟨_, rfl⟩
          have h := h w7 qw7
          refine WA.iastore dX8_bringUpToDate_111 ob_19 s14.1 s14.2 ?_
          rw [← qw7]
          obtain ⟨s15, h⟩ := h
          refine WA.iinc (als' := [some (.inr (.inr 1)), some (.inr (.inr a1)), some (.inl a2), some (.inl (v3 + 1)), some (.inl v4), some (.inl 0)]) dX8_bringUpToDate_112 rfl s15 rfl ?_
          obtain ⟨s16, h⟩ := h
          refine WA.iinc (als' := [some (.inr (.inr 1)), some (.inr (.inr a1)), some (.inl a2), some (.inl (v3 + 1)), some (.inl (v4 + 1)), some (.inl 0)]) dX8_bringUpToDate_115 rfl s16 rfl ?_
          refine WA.goto (tgt := 35) dX8_bringUpToDate_118 (by decide) ?_
          exact WA.sub (als' := [some (.inr (.inr 1)), some (.inr (.inr a1)), some (.inl a2), some (.inl (v3 + 1)), some (.inl (v4 + 1)), none]) (by simp only [am_sub, and_self]) rfl h
      · have h := h.2 hc
        refine WA.iconst dX8_bringUpToDate_55 ⟨by decide, by decide⟩ ?_
        refine WA.goto (tgt := 60) dX8_bringUpToDate_56 (by decide) ?_
        refine WA.istore (als' := [some (.inr (.inr 1)), some (.inr (.inr a1)), some (.inl a2), some (.inl v3), some (.inl v4), some (.inl 1)]) dX8_bringUpToDate_60 (Nat.le_of_ble_eq_true rfl) rfl ?_
        refine WA.aload_n dX8_bringUpToDate_62 rfl (by decide) ?_
        refine gxX8_22 rfl rfl dX8_bringUpToDate_63 ob_1 ?_
        refine gxX8_144 rfl rfl dX8_bringUpToDate_66 ob_6 ?_
        refine WA.top (v2 := .inr (.inr 21)) rfl ?_
        refine WA.iload dX8_bringUpToDate_69 rfl ?_
        refine WA.aload_n dX8_bringUpToDate_71 rfl (by decide) ?_
        refine gxX8_22 rfl rfl dX8_bringUpToDate_72 ob_1 ?_
        refine WA.iload dX8_bringUpToDate_75 rfl ?_
        refine WA.aload_n dX8_bringUpToDate_77 rfl (am_St_ne ha1) ?_
        refine WA.iload dX8_bringUpToDate_78 rfl ?_
        obtain ⟨d1, hd1, h⟩ := h
        refine WA.callV3 (kc := 0) (ks := 0) (kc' := 0) (ks' := 0) dX8_bringUpToDate_80 lkX8_217 rfl rfl rfl ob_6 rfl (Nat.le_of_ble_eq_true rfl) hd1 h (fun r w8 hK => ?_)
        obtain ⟨x4, rfl, h⟩ := hK
        change WA _ _ _ _ _ _ _ _ _ _ _ [.inl x4, .inl v4, .inr (.inr 21)] _ _
        obtain ⟨s17, h⟩ := h
        obtain ⟨w9, qw9⟩ : ∃ z, z = wset w8 21 v4 x4 := ⟨_, rfl⟩
        have h := h w9 qw9
        refine WA.iastore dX8_bringUpToDate_83 ob_21 s17.1 s17.2 ?_
        rw [← qw9]
        refine WA.aload_n dX8_bringUpToDate_84 rfl (by decide) ?_
        refine gxX8_22 rfl rfl dX8_bringUpToDate_85 ob_1 ?_
        refine gxX8_144 rfl rfl dX8_bringUpToDate_88 ob_6 ?_
        refine WA.top (v2 := .inr (.inr 21)) rfl ?_
        refine WA.iload dX8_bringUpToDate_91 rfl ?_
        obtain ⟨s18, h⟩ := h
        refine WA.iaload dX8_bringUpToDate_93 ob_21 s18.1 s18.2 ?_
        refine WA.iconst dX8_bringUpToDate_94 ⟨by decide, by decide⟩ ?_
        refine WA.icmp_eq (tgt := 115) dX8_bringUpToDate_95 (by decide) (fun hc => ?_) (fun hc => ?_)
        · have h := h.1 hc
          obtain ⟨s19, h⟩ := h
          refine WA.iinc (als' := [some (.inr (.inr 1)), some (.inr (.inr a1)), some (.inl a2), some (.inl v3), some (.inl (v4 + 1)), some (.inl 1)]) dX8_bringUpToDate_115 rfl s19 rfl ?_
          refine WA.goto (tgt := 35) dX8_bringUpToDate_118 (by decide) ?_
          exact WA.sub (als' := [some (.inr (.inr 1)), some (.inr (.inr a1)), some (.inl a2), some (.inl v3), some (.inl (v4 + 1)), none]) (by simp only [am_sub, and_self]) rfl h
        · have h := h.2 hc
          refine WA.aload_n dX8_bringUpToDate_98 rfl (by decide) ?_
          refine gxX8_22 rfl rfl dX8_bringUpToDate_99 ob_1 ?_
          refine gxX8_221 rfl rfl dX8_bringUpToDate_102 ob_6 ?_
          refine WA.top (v2 := .inr (.inr 19)) rfl ?_
          refine WA.iload dX8_bringUpToDate_105 rfl ?_
          refine WA.dup2 dX8_bringUpToDate_107 rfl rfl ?_
          obtain ⟨s20, h⟩ := h
          refine WA.iaload dX8_bringUpToDate_108 ob_19 s20.1 s20.2 ?_
          refine WA.iconst dX8_bringUpToDate_109 ⟨by decide, by decide⟩ ?_
          obtain ⟨s21, h⟩ := h
          refine WA.iadd dX8_bringUpToDate_110 s21 ?_
          obtain ⟨s22, h⟩ := h
          obtain ⟨w10, qw10⟩ : ∃ z, z = wset w9 19 v4 ((w9 19 v4) + 1) := ⟨_, rfl⟩
          have h := h w10 qw10
          refine WA.iastore dX8_bringUpToDate_111 ob_19 s22.1 s22.2 ?_
          rw [← qw10]
          obtain ⟨s23, h⟩ := h
          refine WA.iinc (als' := [some (.inr (.inr 1)), some (.inr (.inr a1)), some (.inl a2), some (.inl (v3 + 1)), some (.inl v4), some (.inl 1)]) dX8_bringUpToDate_112 rfl s23 rfl ?_
          obtain ⟨s24, h⟩ := h
          refine WA.iinc (als' := [some (.inr (.inr 1)), some (.inr (.inr a1)), some (.inl a2), some (.inl (v3 + 1)), some (.inl (v4 + 1)), some (.inl 1)]) dX8_bringUpToDate_115 rfl s24 rfl ?_
          refine WA.goto (tgt := 35) dX8_bringUpToDate_118 (by decide) ?_
          exact WA.sub (als' := [some (.inr (.inr 1)), some (.inr (.inr a1)), some (.inl a2), some (.inl (v3 + 1)), some (.inl (v4 + 1)), none]) (by simp only [am_sub, and_self]) rfl h
set_option maxRecDepth 10000 in
theorem e_X8_bringUpToDate {d : Nat} {w : Wd} {K : Int → Wd → Prop} {a1 a2 : Int} (ha1 : am_St a1) 
    (h : C_X0_workOut d [.inr (.inr 107), .inr (.inr 6)] w (fun w1 => C_X0_goOver d [.inr (.inr 107), .inr (.inr 6)] w1 (fun w2 => C_X5_markChanges d [.inr (.inr 6), .inr (.inr a1)] w2 (fun w3 => W_X8_bringUpToDate d 35 [some (.inr (.inr 1)), some (.inr (.inr a1)), some (.inl a2), some (.inl 0), some (.inl 0), none] [] w3 K)))) :
    E_X8_bringUpToDate d [.inr (.inr 1), .inr (.inr a1), .inl a2] w K := by
  refine EvA.of (by decide +kernel) (Nat.le_of_ble_eq_true rfl) ?_
  change W_X8_bringUpToDate d 0 [some (.inr (.inr 1)), some (.inr (.inr a1)), some (.inl a2), none, none, none] [] w K
  refine WA.aload_n dX8_bringUpToDate_0 rfl (by decide) ?_
  refine gxX8_48 rfl rfl dX8_bringUpToDate_1 ob_1 ?_
  refine WA.aload_n dX8_bringUpToDate_4 rfl (by decide) ?_
  refine gxX8_22 rfl rfl dX8_bringUpToDate_5 ob_1 ?_
  obtain ⟨d1, hd1, h⟩ := h
  refine WA.callV1 (kc := 0) (ks := 0) (kc' := 0) (ks' := 0) dX8_bringUpToDate_8 lkX8_170 rfl rfl rfl ob_107 rfl (Nat.le_of_ble_eq_true rfl) hd1 h (fun r w1 hK => ?_)
  obtain ⟨rfl, h⟩ := hK
  change WA _ _ _ _ _ _ _ _ _ _ _ [] _ _
  refine WA.aload_n dX8_bringUpToDate_11 rfl (by decide) ?_
  refine gxX8_48 rfl rfl dX8_bringUpToDate_12 ob_1 ?_
  refine WA.aload_n dX8_bringUpToDate_15 rfl (by decide) ?_
  refine gxX8_22 rfl rfl dX8_bringUpToDate_16 ob_1 ?_
  obtain ⟨d1, hd1, h⟩ := h
  refine WA.callV1 (kc := 0) (ks := 0) (kc' := 0) (ks' := 0) dX8_bringUpToDate_19 lkX8_173 rfl rfl rfl ob_107 rfl (Nat.le_of_ble_eq_true rfl) hd1 h (fun r w2 hK => ?_)
  obtain ⟨rfl, h⟩ := hK
  change WA _ _ _ _ _ _ _ _ _ _ _ [] _ _
  refine WA.aload_n dX8_bringUpToDate_22 rfl (by decide) ?_
  refine gxX8_22 rfl rfl dX8_bringUpToDate_23 ob_1 ?_
  refine WA.aload_n dX8_bringUpToDate_26 rfl (am_St_ne ha1) ?_
  obtain ⟨d1, hd1, h⟩ := h
  refine WA.callV1 (kc := 0) (ks := 0) (kc' := 0) (ks' := 0) dX8_bringUpToDate_27 lkX8_214 rfl rfl rfl ob_6 rfl (Nat.le_of_ble_eq_true rfl) hd1 h (fun r w3 hK => ?_)
  obtain ⟨rfl, h⟩ := hK
  change WA _ _ _ _ _ _ _ _ _ _ _ [] _ _
  refine WA.iconst dX8_bringUpToDate_30 ⟨by decide, by decide⟩ ?_
  refine WA.istore_n (als' := [some (.inr (.inr 1)), some (.inr (.inr a1)), some (.inl a2), some (.inl 0), none, none]) dX8_bringUpToDate_31 (Nat.le_of_ble_eq_true rfl) rfl ?_
  refine WA.iconst dX8_bringUpToDate_32 ⟨by decide, by decide⟩ ?_
  refine WA.istore (als' := [some (.inr (.inr 1)), some (.inr (.inr a1)), some (.inl a2), some (.inl 0), some (.inl 0), none]) dX8_bringUpToDate_33 (Nat.le_of_ble_eq_true rfl) rfl ?_
  exact h
set_option maxRecDepth 10000 in
theorem v_X8_followCauses_24 {d : Nat} {w : Wd} {K : Int → Wd → Prop} {a1 v2 v3 v4 : Int}  
    (h : ((72 ≤ v4 → K v3 w) ∧ (¬ (72 ≤ v4) → ((v2 = (-1) → K v3 w) ∧ (¬ v2 = (-1) → (0 ≤ v3 ∧ v3 < 72) ∧ (∀ w1, w1 = wset w 114 v3 v2 → (-2147483648 ≤ (v3 + 1) ∧ (v3 + 1) ≤ 2147483647) ∧ (0 ≤ v2 ∧ v2 < 72) ∧ W_X8_followCauses d 59 [some (.inr (.inr 1)), some (.inl a1), some (.inl (w1 21 v2)), some (.inl (v3 + 1)), some (.inl v4), some (.inl 0)] [] w1 K)))))) :
    W_X8_followCauses d 24 [some (.inr (.inr 1)), some (.inl a1), some (.inl v2), some (.inl v3), some (.inl v4), none] [] w K := by
  refine WA.iload dX8_followCauses_24 rfl ?_
  refine WA.bipush dX8_followCauses_26 ⟨by decide, by decide⟩ ?_
  refine WA.icmp_ge (tgt := 90) dX8_followCauses_28 (by decide) (fun hc => ?_) (fun hc => ?_)
  · have h := h.1 hc
    refine WA.iload_n dX8_followCauses_90 rfl ?_
    exact WA.ireturn dX8_followCauses_91 ⟨_, rfl, h⟩
  · have h := h.2 hc
    refine WA.iload_n dX8_followCauses_31 rfl ?_
    refine WA.iconst dX8_followCauses_32 ⟨by decide, by decide⟩ ?_
    refine WA.icmp_eq (tgt := 90) dX8_followCauses_33 (by decide) (fun hc => ?_) (fun hc => ?_)
    · have h := h.1 hc
      refine WA.iload_n dX8_followCauses_90 rfl ?_
      exact WA.ireturn dX8_followCauses_91 ⟨_, rfl, h⟩
    · have h := h.2 hc
      refine WA.aload_n dX8_followCauses_36 rfl (by decide) ?_
      refine gxX8_52 rfl rfl dX8_followCauses_37 ob_1 ?_
      refine WA.iload_n dX8_followCauses_40 rfl ?_
      refine WA.iload_n dX8_followCauses_41 rfl ?_
      obtain ⟨s1, h⟩ := h
      obtain ⟨w1, qw1⟩ : ∃ z, z = wset w 114 v3 v2 := ⟨_, rfl⟩
      have h := h w1 qw1
      refine WA.iastore dX8_followCauses_42 ob_114 s1.1 s1.2 ?_
      rw [← qw1]
      obtain ⟨s2, h⟩ := h
      refine WA.iinc (als' := [some (.inr (.inr 1)), some (.inl a1), some (.inl v2), some (.inl (v3 + 1)), some (.inl v4), none]) dX8_followCauses_43 rfl s2 rfl ?_
      refine WA.aload_n dX8_followCauses_46 rfl (by decide) ?_
      refine gxX8_22 rfl rfl dX8_followCauses_47 ob_1 ?_
      refine gxX8_144 rfl rfl dX8_followCauses_50 ob_6 ?_
      refine WA.top (v2 := .inr (.inr 21)) rfl ?_
      refine WA.iload_n dX8_followCauses_53 rfl ?_
      obtain ⟨s3, h⟩ := h
      refine WA.iaload dX8_followCauses_54 ob_21 s3.1 s3.2 ?_
      refine WA.istore_n (als' := [some (.inr (.inr 1)), some (.inl a1), some (.inl (w1 21 v2)), some (.inl (v3 + 1)), some (.inl v4), none]) dX8_followCauses_55 (Nat.le_of_ble_eq_true rfl) rfl ?_
      refine WA.iconst dX8_followCauses_56 ⟨by decide, by decide⟩ ?_
      refine WA.istore (als' := [some (.inr (.inr 1)), some (.inl a1), some (.inl (w1 21 v2)), some (.inl (v3 + 1)), some (.inl v4), some (.inl 0)]) dX8_followCauses_57 (Nat.le_of_ble_eq_true rfl) rfl ?_
      exact h
set_option maxRecDepth 10000 in
theorem v_X8_followCauses_59 {d : Nat} {w : Wd} {K : Int → Wd → Prop} {a1 v2 v3 v4 v5 : Int}  
    (h : ((v3 ≤ v5 → (-2147483648 ≤ (v4 + 1) ∧ (v4 + 1) ≤ 2147483647) ∧ W_X8_followCauses d 24 [some (.inr (.inr 1)), some (.inl a1), some (.inl v2), some (.inl v3), some (.inl (v4 + 1)), none] [] w K) ∧ (¬ (v3 ≤ v5) → (0 ≤ v5 ∧ v5 < 72) ∧ ((¬ (w 114 v5) = v2 → (-2147483648 ≤ (v5 + 1) ∧ (v5 + 1) ≤ 2147483647) ∧ W_X8_followCauses d 59 [some (.inr (.inr 1)), some (.inl a1), some (.inl v2), some (.inl v3), some (.inl v4), some (.inl (v5 + 1))] [] w K) ∧ ((w 114 v5) = v2 → K v3 w))))) :
    W_X8_followCauses d 59 [some (.inr (.inr 1)), some (.inl a1), some (.inl v2), some (.inl v3), some (.inl v4), some (.inl v5)] [] w K := by
  refine WA.iload dX8_followCauses_59 rfl ?_
  refine WA.iload_n dX8_followCauses_61 rfl ?_
  refine WA.icmp_ge (tgt := 84) dX8_followCauses_62 (by decide) (fun hc => ?_) (fun hc => ?_)
  · have h := h.1 hc
    obtain ⟨s1, h⟩ := h
    refine WA.iinc (als' := [some (.inr (.inr 1)), some (.inl a1), some (.inl v2), some (.inl v3), some (.inl (v4 + 1)), some (.inl v5)]) dX8_followCauses_84 rfl s1 rfl ?_
    refine WA.goto (tgt := 24) dX8_followCauses_87 (by decide) ?_
    exact WA.sub (als' := [some (.inr (.inr 1)), some (.inl a1), some (.inl v2), some (.inl v3), some (.inl (v4 + 1)), none]) (by simp only [am_sub, and_self]) rfl h
  · have h := h.2 hc
    refine WA.aload_n dX8_followCauses_65 rfl (by decide) ?_
    refine gxX8_52 rfl rfl dX8_followCauses_66 ob_1 ?_
    refine WA.iload dX8_followCauses_69 rfl ?_
    obtain ⟨s2, h⟩ := h
    refine WA.iaload dX8_followCauses_71 ob_114 s2.1 s2.2 ?_
    refine WA.iload_n dX8_followCauses_72 rfl ?_
    refine WA.icmp_ne (tgt := 78) dX8_followCauses_73 (by decide) (fun hc => ?_) (fun hc => ?_)
    · have h := h.1 hc
      obtain ⟨s3, h⟩ := h
      refine WA.iinc (als' := [some (.inr (.inr 1)), some (.inl a1), some (.inl v2), some (.inl v3), some (.inl v4), some (.inl (v5 + 1))]) dX8_followCauses_78 rfl s3 rfl ?_
      refine WA.goto (tgt := 59) dX8_followCauses_81 (by decide) ?_
      exact h
    · have h := h.2 hc
      refine WA.iload_n dX8_followCauses_76 rfl ?_
      exact WA.ireturn dX8_followCauses_77 ⟨_, rfl, h⟩
set_option maxRecDepth 10000 in
theorem e_X8_followCauses {d : Nat} {w : Wd} {K : Int → Wd → Prop} {a1 : Int}  
    (h : (0 ≤ a1 ∧ a1 < 72) ∧ ((¬ (w 21 a1) = (-1) → W_X8_followCauses d 24 [some (.inr (.inr 1)), some (.inl a1), some (.inl a1), some (.inl 0), some (.inl 0), none] [] w K) ∧ ((w 21 a1) = (-1) → W_X8_followCauses d 24 [some (.inr (.inr 1)), some (.inl a1), some (.inl (-1)), some (.inl 0), some (.inl 0), none] [] w K))) :
    E_X8_followCauses d [.inr (.inr 1), .inl a1] w K := by
  refine EvA.of (by decide +kernel) (Nat.le_of_ble_eq_true rfl) ?_
  change W_X8_followCauses d 0 [some (.inr (.inr 1)), some (.inl a1), none, none, none, none] [] w K
  refine WA.aload_n dX8_followCauses_0 rfl (by decide) ?_
  refine gxX8_22 rfl rfl dX8_followCauses_1 ob_1 ?_
  refine gxX8_144 rfl rfl dX8_followCauses_4 ob_6 ?_
  refine WA.top (v2 := .inr (.inr 21)) rfl ?_
  refine WA.iload_n dX8_followCauses_7 rfl ?_
  obtain ⟨s1, h⟩ := h
  refine WA.iaload dX8_followCauses_8 ob_21 s1.1 s1.2 ?_
  refine WA.iconst dX8_followCauses_9 ⟨by decide, by decide⟩ ?_
  refine WA.icmp_ne (tgt := 17) dX8_followCauses_10 (by decide) (fun hc => ?_) (fun hc => ?_)
  · have h := h.1 hc
    refine WA.iload_n dX8_followCauses_17 rfl ?_
    refine WA.istore_n (als' := [some (.inr (.inr 1)), some (.inl a1), some (.inl a1), none, none, none]) dX8_followCauses_18 (Nat.le_of_ble_eq_true rfl) rfl ?_
    refine WA.iconst dX8_followCauses_19 ⟨by decide, by decide⟩ ?_
    refine WA.istore_n (als' := [some (.inr (.inr 1)), some (.inl a1), some (.inl a1), some (.inl 0), none, none]) dX8_followCauses_20 (Nat.le_of_ble_eq_true rfl) rfl ?_
    refine WA.iconst dX8_followCauses_21 ⟨by decide, by decide⟩ ?_
    refine WA.istore (als' := [some (.inr (.inr 1)), some (.inl a1), some (.inl a1), some (.inl 0), some (.inl 0), none]) dX8_followCauses_22 (Nat.le_of_ble_eq_true rfl) rfl ?_
    exact h
  · have h := h.2 hc
    refine WA.iconst dX8_followCauses_13 ⟨by decide, by decide⟩ ?_
    refine WA.goto (tgt := 18) dX8_followCauses_14 (by decide) ?_
    refine WA.istore_n (als' := [some (.inr (.inr 1)), some (.inl a1), some (.inl (-1)), none, none, none]) dX8_followCauses_18 (Nat.le_of_ble_eq_true rfl) rfl ?_
    refine WA.iconst dX8_followCauses_19 ⟨by decide, by decide⟩ ?_
    refine WA.istore_n (als' := [some (.inr (.inr 1)), some (.inl a1), some (.inl (-1)), some (.inl 0), none, none]) dX8_followCauses_20 (Nat.le_of_ble_eq_true rfl) rfl ?_
    refine WA.iconst dX8_followCauses_21 ⟨by decide, by decide⟩ ?_
    refine WA.istore (als' := [some (.inr (.inr 1)), some (.inl a1), some (.inl (-1)), some (.inl 0), some (.inl 0), none]) dX8_followCauses_22 (Nat.le_of_ble_eq_true rfl) rfl ?_
    exact h
set_option maxRecDepth 10000 in
theorem v_X8_sumOfFacts_4 {d : Nat} {w : Wd} {K : Int → Wd → Prop} {a1 v2 v3 : Int}  
    (h : ((72 ≤ v3 → K v2 w) ∧ (¬ (72 ≤ v3) → C_X5_fact d [.inr (.inr 6), .inl v3, .inl a1] w (fun x1 w1 => (-2147483648 ≤ (v2 + x1) ∧ (v2 + x1) ≤ 2147483647) ∧ (-2147483648 ≤ (v3 + 1) ∧ (v3 + 1) ≤ 2147483647) ∧ W_X8_sumOfFacts d 4 [some (.inr (.inr 1)), some (.inl a1), some (.inl (v2 + x1)), some (.inl (v3 + 1))] [] w1 K)))) :
    W_X8_sumOfFacts d 4 [some (.inr (.inr 1)), some (.inl a1), some (.inl v2), some (.inl v3)] [] w K := by
  refine WA.iload_n dX8_sumOfFacts_4 rfl ?_
  refine WA.bipush dX8_sumOfFacts_5 ⟨by decide, by decide⟩ ?_
  refine WA.icmp_ge (tgt := 28) dX8_sumOfFacts_7 (by decide) (fun hc => ?_) (fun hc => ?_)
  · have h := h.1 hc
    refine WA.iload_n dX8_sumOfFacts_28 rfl ?_
    exact WA.ireturn dX8_sumOfFacts_29 ⟨_, rfl, h⟩
  · have h := h.2 hc
    refine WA.iload_n dX8_sumOfFacts_10 rfl ?_
    refine WA.aload_n dX8_sumOfFacts_11 rfl (by decide) ?_
    refine gxX8_22 rfl rfl dX8_sumOfFacts_12 ob_1 ?_
    refine WA.iload_n dX8_sumOfFacts_15 rfl ?_
    refine WA.iload_n dX8_sumOfFacts_16 rfl ?_
    obtain ⟨d1, hd1, h⟩ := h
    refine WA.callV2 (kc := 0) (ks := 0) (kc' := 0) (ks' := 0) dX8_sumOfFacts_17 lkX8_124 rfl rfl rfl ob_6 rfl (Nat.le_of_ble_eq_true rfl) hd1 h (fun r w1 hK => ?_)
    obtain ⟨x1, rfl, h⟩ := hK
    change WA _ _ _ _ _ _ _ _ _ _ _ [.inl x1, .inl v2] _ _
    obtain ⟨s1, h⟩ := h
    refine WA.iadd dX8_sumOfFacts_20 s1 ?_
    refine WA.istore_n (als' := [some (.inr (.inr 1)), some (.inl a1), some (.inl (v2 + x1)), some (.inl v3)]) dX8_sumOfFacts_21 (Nat.le_of_ble_eq_true rfl) rfl ?_
    obtain ⟨s2, h⟩ := h
    refine WA.iinc (als' := [some (.inr (.inr 1)), some (.inl a1), some (.inl (v2 + x1)), some (.inl (v3 + 1))]) dX8_sumOfFacts_22 rfl s2 rfl ?_
    refine WA.goto (tgt := 4) dX8_sumOfFacts_25 (by decide) ?_
    exact h
set_option maxRecDepth 10000 in
theorem e_X8_sumOfFacts {d : Nat} {w : Wd} {K : Int → Wd → Prop} {a1 : Int}  
    (h : W_X8_sumOfFacts d 4 [some (.inr (.inr 1)), some (.inl a1), some (.inl 0), some (.inl 0)] [] w K) :
    E_X8_sumOfFacts d [.inr (.inr 1), .inl a1] w K := by
  refine EvA.of (by decide +kernel) (Nat.le_of_ble_eq_true rfl) ?_
  change W_X8_sumOfFacts d 0 [some (.inr (.inr 1)), some (.inl a1), none, none] [] w K
  refine WA.iconst dX8_sumOfFacts_0 ⟨by decide, by decide⟩ ?_
  refine WA.istore_n (als' := [some (.inr (.inr 1)), some (.inl a1), some (.inl 0), none]) dX8_sumOfFacts_1 (Nat.le_of_ble_eq_true rfl) rfl ?_
  refine WA.iconst dX8_sumOfFacts_2 ⟨by decide, by decide⟩ ?_
  refine WA.istore_n (als' := [some (.inr (.inr 1)), some (.inl a1), some (.inl 0), some (.inl 0)]) dX8_sumOfFacts_3 (Nat.le_of_ble_eq_true rfl) rfl ?_
  exact h
