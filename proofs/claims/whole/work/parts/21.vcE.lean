abbrev W_X9_in (d pc : Nat) (als : List (Option AV)) (st : List AV) (w : Wd) (K : Int → Wd → Prop) : Prop := WA true yX9_in cX9_in 3 (some .boolean) d 143 0 0 pc als st w (rI K)
abbrev E_X9_in (d : Nat) (as : List AV) (w : Wd) (K : Int → Wd → Prop) : Prop := EvA true yX9_in cX9_in 3 (some .boolean) d 143 0 0 as w (rI K)
abbrev C_X9_in (d : Nat) (as : List AV) (w : Wd) (K : Int → Wd → Prop) : Prop := ∃ d', d' < d ∧ E_X9_in d' as w K
abbrev W_X9_isCell (d pc : Nat) (als : List (Option AV)) (st : List AV) (w : Wd) (K : Int → Wd → Prop) : Prop := WA true yX9_isCell cX9_isCell 1 (some .boolean) d 143 0 0 pc als st w (rI K)
abbrev E_X9_isCell (d : Nat) (as : List AV) (w : Wd) (K : Int → Wd → Prop) : Prop := EvA true yX9_isCell cX9_isCell 1 (some .boolean) d 143 0 0 as w (rI K)
abbrev C_X9_isCell (d : Nat) (as : List AV) (w : Wd) (K : Int → Wd → Prop) : Prop := ∃ d', d' < d ∧ E_X9_isCell d' as w K
abbrev W_X9_isFigure (d pc : Nat) (als : List (Option AV)) (st : List AV) (w : Wd) (K : Int → Wd → Prop) : Prop := WA true yX9_isFigure cX9_isFigure 1 (some .boolean) d 143 0 0 pc als st w (rI K)
abbrev E_X9_isFigure (d : Nat) (as : List AV) (w : Wd) (K : Int → Wd → Prop) : Prop := EvA true yX9_isFigure cX9_isFigure 1 (some .boolean) d 143 0 0 as w (rI K)
abbrev C_X9_isFigure (d : Nat) (as : List AV) (w : Wd) (K : Int → Wd → Prop) : Prop := ∃ d', d' < d ∧ E_X9_isFigure d' as w K
abbrev W_X9_isColumn (d pc : Nat) (als : List (Option AV)) (st : List AV) (w : Wd) (K : Int → Wd → Prop) : Prop := WA true yX9_isColumn cX9_isColumn 1 (some .boolean) d 143 0 0 pc als st w (rI K)
abbrev E_X9_isColumn (d : Nat) (as : List AV) (w : Wd) (K : Int → Wd → Prop) : Prop := EvA true yX9_isColumn cX9_isColumn 1 (some .boolean) d 143 0 0 as w (rI K)
abbrev C_X9_isColumn (d : Nat) (as : List AV) (w : Wd) (K : Int → Wd → Prop) : Prop := ∃ d', d' < d ∧ E_X9_isColumn d' as w K
abbrev W_X9_save (d pc : Nat) (als : List (Option AV)) (st : List AV) (w : Wd) (K : Wd → Prop) : Prop := WA true yX9_save cX9_save 2 none d 143 0 0 pc als st w (rV K)
abbrev E_X9_save (d : Nat) (as : List AV) (w : Wd) (K : Wd → Prop) : Prop := EvA true yX9_save cX9_save 2 none d 143 0 0 as w (rV K)
abbrev C_X9_save (d : Nat) (as : List AV) (w : Wd) (K : Wd → Prop) : Prop := ∃ d', d' < d ∧ E_X9_save d' as w K
abbrev W_X9_type (d pc : Nat) (als : List (Option AV)) (st : List AV) (w : Wd) (K : Int → Wd → Prop) : Prop := WA true yX9_type cX9_type 2 (some .int) d 143 0 0 pc als st w (rI K)
abbrev E_X9_type (d : Nat) (as : List AV) (w : Wd) (K : Int → Wd → Prop) : Prop := EvA true yX9_type cX9_type 2 (some .int) d 143 0 0 as w (rI K)
abbrev C_X9_type (d : Nat) (as : List AV) (w : Wd) (K : Int → Wd → Prop) : Prop := ∃ d', d' < d ∧ E_X9_type d' as w K
abbrev W_X9_clearText (d pc : Nat) (als : List (Option AV)) (st : List AV) (w : Wd) (K : Int → Wd → Prop) : Prop := WA true yX9_clearText cX9_clearText 2 (some .int) d 143 0 0 pc als st w (rI K)
abbrev E_X9_clearText (d : Nat) (as : List AV) (w : Wd) (K : Int → Wd → Prop) : Prop := EvA true yX9_clearText cX9_clearText 2 (some .int) d 143 0 0 as w (rI K)
abbrev C_X9_clearText (d : Nat) (as : List AV) (w : Wd) (K : Int → Wd → Prop) : Prop := ∃ d', d' < d ∧ E_X9_clearText d' as w K
abbrev W_X9_here (d pc : Nat) (als : List (Option AV)) (st : List AV) (w : Wd) (K : Int → Wd → Prop) : Prop := WA true yX9_here cX9_here 1 (some .int) d 143 0 0 pc als st w (rI K)
abbrev E_X9_here (d : Nat) (as : List AV) (w : Wd) (K : Int → Wd → Prop) : Prop := EvA true yX9_here cX9_here 1 (some .int) d 143 0 0 as w (rI K)
abbrev C_X9_here (d : Nat) (as : List AV) (w : Wd) (K : Int → Wd → Prop) : Prop := ∃ d', d' < d ∧ E_X9_here d' as w K
abbrev W_X9_opens (d pc : Nat) (als : List (Option AV)) (st : List AV) (w : Wd) (K : Wd → Prop) : Prop := WA true yX9_opens cX9_opens 2 none d 143 0 0 pc als st w (rV K)
abbrev E_X9_opens (d : Nat) (as : List AV) (w : Wd) (K : Wd → Prop) : Prop := EvA true yX9_opens cX9_opens 2 none d 143 0 0 as w (rV K)
abbrev C_X9_opens (d : Nat) (as : List AV) (w : Wd) (K : Wd → Prop) : Prop := ∃ d', d' < d ∧ E_X9_opens d' as w K
abbrev W_X9_hasParts (d pc : Nat) (als : List (Option AV)) (st : List AV) (w : Wd) (K : Int → Wd → Prop) : Prop := WA true yX9_hasParts cX9_hasParts 1 (some .boolean) d 143 0 0 pc als st w (rI K)
abbrev E_X9_hasParts (d : Nat) (as : List AV) (w : Wd) (K : Int → Wd → Prop) : Prop := EvA true yX9_hasParts cX9_hasParts 1 (some .boolean) d 143 0 0 as w (rI K)
abbrev C_X9_hasParts (d : Nat) (as : List AV) (w : Wd) (K : Int → Wd → Prop) : Prop := ∃ d', d' < d ∧ E_X9_hasParts d' as w K
abbrev W_X9_readCell (d pc : Nat) (als : List (Option AV)) (st : List AV) (w : Wd) (K : Int → Wd → Prop) : Prop := WA true yX9_readCell cX9_readCell 3 (some .boolean) d 143 0 0 pc als st w (rI K)
abbrev E_X9_readCell (d : Nat) (as : List AV) (w : Wd) (K : Int → Wd → Prop) : Prop := EvA true yX9_readCell cX9_readCell 3 (some .boolean) d 143 0 0 as w (rI K)
abbrev C_X9_readCell (d : Nat) (as : List AV) (w : Wd) (K : Int → Wd → Prop) : Prop := ∃ d', d' < d ∧ E_X9_readCell d' as w K
abbrev W_X9_readArea (d pc : Nat) (als : List (Option AV)) (st : List AV) (w : Wd) (K : Int → Wd → Prop) : Prop := WA true yX9_readArea cX9_readArea 3 (some .boolean) d 143 0 0 pc als st w (rI K)
abbrev E_X9_readArea (d : Nat) (as : List AV) (w : Wd) (K : Int → Wd → Prop) : Prop := EvA true yX9_readArea cX9_readArea 3 (some .boolean) d 143 0 0 as w (rI K)
abbrev C_X9_readArea (d : Nat) (as : List AV) (w : Wd) (K : Int → Wd → Prop) : Prop := ∃ d', d' < d ∧ E_X9_readArea d' as w K
abbrev W_X9_nameOf (d pc : Nat) (als : List (Option AV)) (st : List AV) (w : Wd) (K : Int → Wd → Prop) : Prop := WA true yX9_nameOf cX9_nameOf 1 (some .long) d 143 0 0 pc als st w (rJ K)
abbrev E_X9_nameOf (d : Nat) (as : List AV) (w : Wd) (K : Int → Wd → Prop) : Prop := EvA true yX9_nameOf cX9_nameOf 1 (some .long) d 143 0 0 as w (rJ K)
abbrev C_X9_nameOf (d : Nat) (as : List AV) (w : Wd) (K : Int → Wd → Prop) : Prop := ∃ d', d' < d ∧ E_X9_nameOf d' as w K
abbrev W_X9_sizeOf (d pc : Nat) (als : List (Option AV)) (st : List AV) (w : Wd) (K : Int → Wd → Prop) : Prop := WA true yX9_sizeOf cX9_sizeOf 1 (some .int) d 143 0 0 pc als st w (rI K)
abbrev E_X9_sizeOf (d : Nat) (as : List AV) (w : Wd) (K : Int → Wd → Prop) : Prop := EvA true yX9_sizeOf cX9_sizeOf 1 (some .int) d 143 0 0 as w (rI K)
abbrev C_X9_sizeOf (d : Nat) (as : List AV) (w : Wd) (K : Int → Wd → Prop) : Prop := ∃ d', d' < d ∧ E_X9_sizeOf d' as w K
abbrev W_X9_matches (d pc : Nat) (als : List (Option AV)) (st : List AV) (w : Wd) (K : Int → Wd → Prop) : Prop := WA true yX9_matches cX9_matches 4 (some .int) d 143 0 0 pc als st w (rI K)
abbrev E_X9_matches (d : Nat) (as : List AV) (w : Wd) (K : Int → Wd → Prop) : Prop := EvA true yX9_matches cX9_matches 4 (some .int) d 143 0 0 as w (rI K)
abbrev C_X9_matches (d : Nat) (as : List AV) (w : Wd) (K : Int → Wd → Prop) : Prop := ∃ d', d' < d ∧ E_X9_matches d' as w K
abbrev W_X9_readName (d pc : Nat) (als : List (Option AV)) (st : List AV) (w : Wd) (K : Int → Wd → Prop) : Prop := WA true yX9_readName cX9_readName 4 (some .boolean) d 143 0 0 pc als st w (rI K)
abbrev E_X9_readName (d : Nat) (as : List AV) (w : Wd) (K : Int → Wd → Prop) : Prop := EvA true yX9_readName cX9_readName 4 (some .boolean) d 143 0 0 as w (rI K)
abbrev C_X9_readName (d : Nat) (as : List AV) (w : Wd) (K : Int → Wd → Prop) : Prop := ∃ d', d' < d ∧ E_X9_readName d' as w K
abbrev W_X9_readFactor (d pc : Nat) (als : List (Option AV)) (st : List AV) (w : Wd) (K : Int → Wd → Prop) : Prop := WA true yX9_readFactor cX9_readFactor 4 (some .boolean) d 143 0 0 pc als st w (rI K)
abbrev E_X9_readFactor (d : Nat) (as : List AV) (w : Wd) (K : Int → Wd → Prop) : Prop := EvA true yX9_readFactor cX9_readFactor 4 (some .boolean) d 143 0 0 as w (rI K)
abbrev C_X9_readFactor (d : Nat) (as : List AV) (w : Wd) (K : Int → Wd → Prop) : Prop := ∃ d', d' < d ∧ E_X9_readFactor d' as w K
abbrev W_X9_mostParts (d pc : Nat) (als : List (Option AV)) (st : List AV) (w : Wd) (K : Int → Wd → Prop) : Prop := WA true yX9_mostParts cX9_mostParts 1 (some .int) d 143 0 0 pc als st w (rI K)
abbrev E_X9_mostParts (d : Nat) (as : List AV) (w : Wd) (K : Int → Wd → Prop) : Prop := EvA true yX9_mostParts cX9_mostParts 1 (some .int) d 143 0 0 as w (rI K)
abbrev C_X9_mostParts (d : Nat) (as : List AV) (w : Wd) (K : Int → Wd → Prop) : Prop := ∃ d', d' < d ∧ E_X9_mostParts d' as w K
abbrev W_X9_mayClose (d pc : Nat) (als : List (Option AV)) (st : List AV) (w : Wd) (K : Int → Wd → Prop) : Prop := WA true yX9_mayClose cX9_mayClose 2 (some .boolean) d 143 0 0 pc als st w (rI K)
abbrev E_X9_mayClose (d : Nat) (as : List AV) (w : Wd) (K : Int → Wd → Prop) : Prop := EvA true yX9_mayClose cX9_mayClose 2 (some .boolean) d 143 0 0 as w (rI K)
abbrev C_X9_mayClose (d : Nat) (as : List AV) (w : Wd) (K : Int → Wd → Prop) : Prop := ∃ d', d' < d ∧ E_X9_mayClose d' as w K
abbrev W_X9_readBehind (d pc : Nat) (als : List (Option AV)) (st : List AV) (w : Wd) (K : Int → Wd → Prop) : Prop := WA true yX9_readBehind cX9_readBehind 3 (some .boolean) d 143 0 0 pc als st w (rI K)
abbrev E_X9_readBehind (d : Nat) (as : List AV) (w : Wd) (K : Int → Wd → Prop) : Prop := EvA true yX9_readBehind cX9_readBehind 3 (some .boolean) d 143 0 0 as w (rI K)
abbrev C_X9_readBehind (d : Nat) (as : List AV) (w : Wd) (K : Int → Wd → Prop) : Prop := ∃ d', d' < d ∧ E_X9_readBehind d' as w K
abbrev W_X9_faultOf (d pc : Nat) (als : List (Option AV)) (st : List AV) (w : Wd) (K : Int → Wd → Prop) : Prop := WA true yX9_faultOf cX9_faultOf 2 (some .int) d 143 0 0 pc als st w (rI K)
abbrev E_X9_faultOf (d : Nat) (as : List AV) (w : Wd) (K : Int → Wd → Prop) : Prop := EvA true yX9_faultOf cX9_faultOf 2 (some .int) d 143 0 0 as w (rI K)
abbrev C_X9_faultOf (d : Nat) (as : List AV) (w : Wd) (K : Int → Wd → Prop) : Prop := ∃ d', d' < d ∧ E_X9_faultOf d' as w K
abbrev W_X9_fault (d pc : Nat) (als : List (Option AV)) (st : List AV) (w : Wd) (K : Int → Wd → Prop) : Prop := WA true yX9_fault cX9_fault 2 (some .int) d 143 0 0 pc als st w (rI K)
abbrev E_X9_fault (d : Nat) (as : List AV) (w : Wd) (K : Int → Wd → Prop) : Prop := EvA true yX9_fault cX9_fault 2 (some .int) d 143 0 0 as w (rI K)
abbrev C_X9_fault (d : Nat) (as : List AV) (w : Wd) (K : Int → Wd → Prop) : Prop := ∃ d', d' < d ∧ E_X9_fault d' as w K
abbrev W_X9_slotOf (d pc : Nat) (als : List (Option AV)) (st : List AV) (w : Wd) (K : Int → Wd → Prop) : Prop := WA true yX9_slotOf cX9_slotOf 3 (some .int) d 143 0 0 pc als st w (rI K)
abbrev E_X9_slotOf (d : Nat) (as : List AV) (w : Wd) (K : Int → Wd → Prop) : Prop := EvA true yX9_slotOf cX9_slotOf 3 (some .int) d 143 0 0 as w (rI K)
abbrev C_X9_slotOf (d : Nat) (as : List AV) (w : Wd) (K : Int → Wd → Prop) : Prop := ∃ d', d' < d ∧ E_X9_slotOf d' as w K
abbrev W_X9_isFull (d pc : Nat) (als : List (Option AV)) (st : List AV) (w : Wd) (K : Int → Wd → Prop) : Prop := WA true yX9_isFull cX9_isFull 2 (some .boolean) d 143 0 0 pc als st w (rI K)
abbrev E_X9_isFull (d : Nat) (as : List AV) (w : Wd) (K : Int → Wd → Prop) : Prop := EvA true yX9_isFull cX9_isFull 2 (some .boolean) d 143 0 0 as w (rI K)
abbrev C_X9_isFull (d : Nat) (as : List AV) (w : Wd) (K : Int → Wd → Prop) : Prop := ∃ d', d' < d ∧ E_X9_isFull d' as w K
abbrev W_X9_waits (d pc : Nat) (als : List (Option AV)) (st : List AV) (w : Wd) (K : Int → Wd → Prop) : Prop := WA true yX9_waits cX9_waits 4 (some .int) d 143 0 0 pc als st w (rI K)
abbrev E_X9_waits (d : Nat) (as : List AV) (w : Wd) (K : Int → Wd → Prop) : Prop := EvA true yX9_waits cX9_waits 4 (some .int) d 143 0 0 as w (rI K)
abbrev C_X9_waits (d : Nat) (as : List AV) (w : Wd) (K : Int → Wd → Prop) : Prop := ∃ d', d' < d ∧ E_X9_waits d' as w K
abbrev W_X9_put (d pc : Nat) (als : List (Option AV)) (st : List AV) (w : Wd) (K : Int → Wd → Prop) : Prop := WA true yX9_put cX9_put 4 (some .int) d 143 0 0 pc als st w (rI K)
abbrev E_X9_put (d : Nat) (as : List AV) (w : Wd) (K : Int → Wd → Prop) : Prop := EvA true yX9_put cX9_put 4 (some .int) d 143 0 0 as w (rI K)
abbrev C_X9_put (d : Nat) (as : List AV) (w : Wd) (K : Int → Wd → Prop) : Prop := ∃ d', d' < d ∧ E_X9_put d' as w K
abbrev W_X9_letter (d pc : Nat) (als : List (Option AV)) (st : List AV) (w : Wd) (K : Int → Wd → Prop) : Prop := WA true yX9_letter cX9_letter 3 (some .int) d 143 0 0 pc als st w (rI K)
abbrev E_X9_letter (d : Nat) (as : List AV) (w : Wd) (K : Int → Wd → Prop) : Prop := EvA true yX9_letter cX9_letter 3 (some .int) d 143 0 0 as w (rI K)
abbrev C_X9_letter (d : Nat) (as : List AV) (w : Wd) (K : Int → Wd → Prop) : Prop := ∃ d', d' < d ∧ E_X9_letter d' as w K
abbrev W_X9_isName (d pc : Nat) (als : List (Option AV)) (st : List AV) (w : Wd) (K : Int → Wd → Prop) : Prop := WA true yX9_isName cX9_isName 3 (some .boolean) d 143 0 0 pc als st w (rI K)
abbrev E_X9_isName (d : Nat) (as : List AV) (w : Wd) (K : Int → Wd → Prop) : Prop := EvA true yX9_isName cX9_isName 3 (some .boolean) d 143 0 0 as w (rI K)
abbrev C_X9_isName (d : Nat) (as : List AV) (w : Wd) (K : Int → Wd → Prop) : Prop := ∃ d', d' < d ∧ E_X9_isName d' as w K
abbrev W_X9_canShift (d pc : Nat) (als : List (Option AV)) (st : List AV) (w : Wd) (K : Int → Wd → Prop) : Prop := WA true yX9_canShift cX9_canShift 6 (some .boolean) d 143 0 0 pc als st w (rI K)
abbrev E_X9_canShift (d : Nat) (as : List AV) (w : Wd) (K : Int → Wd → Prop) : Prop := EvA true yX9_canShift cX9_canShift 6 (some .boolean) d 143 0 0 as w (rI K)
abbrev C_X9_canShift (d : Nat) (as : List AV) (w : Wd) (K : Int → Wd → Prop) : Prop := ∃ d', d' < d ∧ E_X9_canShift d' as w K
abbrev W_X9_copy (d pc : Nat) (als : List (Option AV)) (st : List AV) (w : Wd) (K : Int → Wd → Prop) : Prop := WA true yX9_copy cX9_copy 8 (some .int) d 143 0 0 pc als st w (rI K)
abbrev E_X9_copy (d : Nat) (as : List AV) (w : Wd) (K : Int → Wd → Prop) : Prop := EvA true yX9_copy cX9_copy 8 (some .int) d 143 0 0 as w (rI K)
abbrev C_X9_copy (d : Nat) (as : List AV) (w : Wd) (K : Int → Wd → Prop) : Prop := ∃ d', d' < d ∧ E_X9_copy d' as w K
abbrev W_X9_drop (d pc : Nat) (als : List (Option AV)) (st : List AV) (w : Wd) (K : Int → Wd → Prop) : Prop := WA true yX9_drop cX9_drop 2 (some .int) d 143 0 0 pc als st w (rI K)
abbrev E_X9_drop (d : Nat) (as : List AV) (w : Wd) (K : Int → Wd → Prop) : Prop := EvA true yX9_drop cX9_drop 2 (some .int) d 143 0 0 as w (rI K)
abbrev C_X9_drop (d : Nat) (as : List AV) (w : Wd) (K : Int → Wd → Prop) : Prop := ∃ d', d' < d ∧ E_X9_drop d' as w K
abbrev W_X9_waitingAt (d pc : Nat) (als : List (Option AV)) (st : List AV) (w : Wd) (K : Int → Wd → Prop) : Prop := WA true yX9_waitingAt cX9_waitingAt 4 (some .int) d 143 0 0 pc als st w (rI K)
abbrev E_X9_waitingAt (d : Nat) (as : List AV) (w : Wd) (K : Int → Wd → Prop) : Prop := EvA true yX9_waitingAt cX9_waitingAt 4 (some .int) d 143 0 0 as w (rI K)
abbrev C_X9_waitingAt (d : Nat) (as : List AV) (w : Wd) (K : Int → Wd → Prop) : Prop := ∃ d', d' < d ∧ E_X9_waitingAt d' as w K
abbrev W_X9_sign (d pc : Nat) (als : List (Option AV)) (st : List AV) (w : Wd) (K : Int → Wd → Prop) : Prop := WA true yX9_sign cX9_sign 1 (some .int) d 143 0 0 pc als st w (rI K)
abbrev E_X9_sign (d : Nat) (as : List AV) (w : Wd) (K : Int → Wd → Prop) : Prop := EvA true yX9_sign cX9_sign 1 (some .int) d 143 0 0 as w (rI K)
abbrev C_X9_sign (d : Nat) (as : List AV) (w : Wd) (K : Int → Wd → Prop) : Prop := ∃ d', d' < d ∧ E_X9_sign d' as w K
abbrev W_X9_behind (d pc : Nat) (als : List (Option AV)) (st : List AV) (w : Wd) (K : Int → Wd → Prop) : Prop := WA true yX9_behind cX9_behind 2 (some .int) d 143 0 0 pc als st w (rI K)
abbrev E_X9_behind (d : Nat) (as : List AV) (w : Wd) (K : Int → Wd → Prop) : Prop := EvA true yX9_behind cX9_behind 2 (some .int) d 143 0 0 as w (rI K)
abbrev C_X9_behind (d : Nat) (as : List AV) (w : Wd) (K : Int → Wd → Prop) : Prop := ∃ d', d' < d ∧ E_X9_behind d' as w K
abbrev W_X9_fails (d pc : Nat) (als : List (Option AV)) (st : List AV) (w : Wd) (K : Wd → Prop) : Prop := WA true yX9_fails cX9_fails 2 none d 143 0 0 pc als st w (rV K)
abbrev E_X9_fails (d : Nat) (as : List AV) (w : Wd) (K : Wd → Prop) : Prop := EvA true yX9_fails cX9_fails 2 none d 143 0 0 as w (rV K)
abbrev C_X9_fails (d : Nat) (as : List AV) (w : Wd) (K : Wd → Prop) : Prop := ∃ d', d' < d ∧ E_X9_fails d' as w K
abbrev W_X9_bound (d pc : Nat) (als : List (Option AV)) (st : List AV) (w : Wd) (K : Int → Wd → Prop) : Prop := WA true yX9_bound cX9_bound 3 (some .long) d 143 0 0 pc als st w (rJ K)
abbrev E_X9_bound (d : Nat) (as : List AV) (w : Wd) (K : Int → Wd → Prop) : Prop := EvA true yX9_bound cX9_bound 3 (some .long) d 143 0 0 as w (rJ K)
abbrev C_X9_bound (d : Nat) (as : List AV) (w : Wd) (K : Int → Wd → Prop) : Prop := ∃ d', d' < d ∧ E_X9_bound d' as w K
abbrev W_X9_frame (d pc : Nat) (als : List (Option AV)) (st : List AV) (w : Wd) (K : Wd → Prop) : Prop := WA true yX9_frame cX9_frame 1 none d 143 0 0 pc als st w (rV K)
abbrev E_X9_frame (d : Nat) (as : List AV) (w : Wd) (K : Wd → Prop) : Prop := EvA true yX9_frame cX9_frame 1 none d 143 0 0 as w (rV K)
abbrev C_X9_frame (d : Nat) (as : List AV) (w : Wd) (K : Wd → Prop) : Prop := ∃ d', d' < d ∧ E_X9_frame d' as w K
abbrev W_X9_enters (d pc : Nat) (als : List (Option AV)) (st : List AV) (w : Wd) (K : Wd → Prop) : Prop := WA true yX9_enters cX9_enters 2 none d 143 0 0 pc als st w (rV K)
abbrev E_X9_enters (d : Nat) (as : List AV) (w : Wd) (K : Wd → Prop) : Prop := EvA true yX9_enters cX9_enters 2 none d 143 0 0 as w (rV K)
abbrev C_X9_enters (d : Nat) (as : List AV) (w : Wd) (K : Wd → Prop) : Prop := ∃ d', d' < d ∧ E_X9_enters d' as w K
abbrev W_X9_isEmpty (d pc : Nat) (als : List (Option AV)) (st : List AV) (w : Wd) (K : Int → Wd → Prop) : Prop := WA true yX9_isEmpty cX9_isEmpty 2 (some .boolean) d 143 0 0 pc als st w (rI K)
abbrev E_X9_isEmpty (d : Nat) (as : List AV) (w : Wd) (K : Int → Wd → Prop) : Prop := EvA true yX9_isEmpty cX9_isEmpty 2 (some .boolean) d 143 0 0 as w (rI K)
abbrev C_X9_isEmpty (d : Nat) (as : List AV) (w : Wd) (K : Int → Wd → Prop) : Prop := ∃ d', d' < d ∧ E_X9_isEmpty d' as w K
abbrev W_X9_reading (d pc : Nat) (als : List (Option AV)) (st : List AV) (w : Wd) (K : Int → Wd → Prop) : Prop := WA true yX9_reading cX9_reading 4 (some .long) d 143 0 0 pc als st w (rJ K)
abbrev E_X9_reading (d : Nat) (as : List AV) (w : Wd) (K : Int → Wd → Prop) : Prop := EvA true yX9_reading cX9_reading 4 (some .long) d 143 0 0 as w (rJ K)
abbrev C_X9_reading (d : Nat) (as : List AV) (w : Wd) (K : Int → Wd → Prop) : Prop := ∃ d', d' < d ∧ E_X9_reading d' as w K
abbrev W_X9_goesOn (d pc : Nat) (als : List (Option AV)) (st : List AV) (w : Wd) (K : Int → Wd → Prop) : Prop := WA true yX9_goesOn cX9_goesOn 1 (some .boolean) d 143 0 0 pc als st w (rI K)
abbrev E_X9_goesOn (d : Nat) (as : List AV) (w : Wd) (K : Int → Wd → Prop) : Prop := EvA true yX9_goesOn cX9_goesOn 1 (some .boolean) d 143 0 0 as w (rI K)
abbrev C_X9_goesOn (d : Nat) (as : List AV) (w : Wd) (K : Int → Wd → Prop) : Prop := ∃ d', d' < d ∧ E_X9_goesOn d' as w K
abbrev W_X9_gives (d pc : Nat) (als : List (Option AV)) (st : List AV) (w : Wd) (K : Wd → Prop) : Prop := WA true yX9_gives cX9_gives 5 none d 143 0 0 pc als st w (rV K)
abbrev E_X9_gives (d : Nat) (as : List AV) (w : Wd) (K : Wd → Prop) : Prop := EvA true yX9_gives cX9_gives 5 none d 143 0 0 as w (rV K)
abbrev C_X9_gives (d : Nat) (as : List AV) (w : Wd) (K : Wd → Prop) : Prop := ∃ d', d' < d ∧ E_X9_gives d' as w K
abbrev W_X9_leaves (d pc : Nat) (als : List (Option AV)) (st : List AV) (w : Wd) (K : Wd → Prop) : Prop := WA true yX9_leaves cX9_leaves 3 none d 143 0 0 pc als st w (rV K)
abbrev E_X9_leaves (d : Nat) (as : List AV) (w : Wd) (K : Wd → Prop) : Prop := EvA true yX9_leaves cX9_leaves 3 none d 143 0 0 as w (rV K)
abbrev C_X9_leaves (d : Nat) (as : List AV) (w : Wd) (K : Wd → Prop) : Prop := ∃ d', d' < d ∧ E_X9_leaves d' as w K
abbrev W_X9_folds (d pc : Nat) (als : List (Option AV)) (st : List AV) (w : Wd) (K : Wd → Prop) : Prop := WA true yX9_folds cX9_folds 3 none d 143 0 0 pc als st w (rV K)
abbrev E_X9_folds (d : Nat) (as : List AV) (w : Wd) (K : Wd → Prop) : Prop := EvA true yX9_folds cX9_folds 3 none d 143 0 0 as w (rV K)
abbrev C_X9_folds (d : Nat) (as : List AV) (w : Wd) (K : Wd → Prop) : Prop := ∃ d', d' < d ∧ E_X9_folds d' as w K
set_option maxRecDepth 10000 in
theorem e_X9_in {d : Nat} {w : Wd} {K : Int → Wd → Prop} {a1 a2 a3 : Int}  
    (h : ((a1 < a2 → K 0 w) ∧ (¬ (a1 < a2) → ((a3 < a1 → K 0 w) ∧ (¬ (a3 < a1) → K 1 w))))) :
    E_X9_in d [.inl a1, .inl a2, .inl a3] w K := by
  refine EvA.of (by decide +kernel) (Nat.le_of_ble_eq_true rfl) ?_
  change W_X9_in d 0 [some (.inl a1), some (.inl a2), some (.inl a3)] [] w K
  refine WA.iload_n dX9_in_0 rfl ?_
  refine WA.iload_n dX9_in_1 rfl ?_
  refine WA.icmp_lt (tgt := 14) dX9_in_2 (by decide) (fun hc => ?_) (fun hc => ?_)
  · have h := h.1 hc
    refine WA.iconst dX9_in_14 ⟨by decide, by decide⟩ ?_
    exact WA.zreturn dX9_in_15 (by decide) ⟨_, rfl, h⟩
  · have h := h.2 hc
    refine WA.iload_n dX9_in_5 rfl ?_
    refine WA.iload_n dX9_in_6 rfl ?_
    refine WA.icmp_gt (tgt := 14) dX9_in_7 (by decide) (fun hc => ?_) (fun hc => ?_)
    · have h := h.1 hc
      refine WA.iconst dX9_in_14 ⟨by decide, by decide⟩ ?_
      exact WA.zreturn dX9_in_15 (by decide) ⟨_, rfl, h⟩
    · have h := h.2 hc
      refine WA.iconst dX9_in_10 ⟨by decide, by decide⟩ ?_
      refine WA.goto (tgt := 15) dX9_in_11 (by decide) ?_
      exact WA.zreturn dX9_in_15 (by decide) ⟨_, rfl, h⟩
set_option maxRecDepth 10000 in
theorem e_X9_isCell {d : Nat} {w : Wd} {K : Int → Wd → Prop} {a1 : Int}  
    (h : C_X9_in d [.inl a1, .inl 0, .inl 71] w (fun x1 w1 => (x1 = 0 ∨ x1 = 1) ∧ K x1 w1)) :
    E_X9_isCell d [.inl a1] w K := by
  refine EvA.of (by decide +kernel) (Nat.le_of_ble_eq_true rfl) ?_
  change W_X9_isCell d 0 [some (.inl a1)] [] w K
  refine WA.iload_n dX9_isCell_0 rfl ?_
  refine WA.iconst dX9_isCell_1 ⟨by decide, by decide⟩ ?_
  refine WA.bipush dX9_isCell_2 ⟨by decide, by decide⟩ ?_
  obtain ⟨d1, hd1, h⟩ := h
  refine WA.callS3 (kc := 0) (ks := 0) (kc' := 0) (ks' := 0) dX9_isCell_4 lkX9_104 rfl rfl rfl (Nat.le_of_ble_eq_true rfl) hd1 h (fun r w1 hK => ?_)
  obtain ⟨x1, rfl, h⟩ := hK
  change WA _ _ _ _ _ _ _ _ _ _ _ [.inl x1] _ _
  obtain ⟨s1, h⟩ := h
  exact WA.zreturn dX9_isCell_7 s1 ⟨_, rfl, h⟩
set_option maxRecDepth 10000 in
theorem e_X9_isFigure {d : Nat} {w : Wd} {K : Int → Wd → Prop} {a1 : Int}  
    (h : C_X9_in d [.inl a1, .inl 48, .inl 57] w (fun x1 w1 => (x1 = 0 ∨ x1 = 1) ∧ K x1 w1)) :
    E_X9_isFigure d [.inl a1] w K := by
  refine EvA.of (by decide +kernel) (Nat.le_of_ble_eq_true rfl) ?_
  change W_X9_isFigure d 0 [some (.inl a1)] [] w K
  refine WA.iload_n dX9_isFigure_0 rfl ?_
  refine WA.bipush dX9_isFigure_1 ⟨by decide, by decide⟩ ?_
  refine WA.bipush dX9_isFigure_3 ⟨by decide, by decide⟩ ?_
  obtain ⟨d1, hd1, h⟩ := h
  refine WA.callS3 (kc := 0) (ks := 0) (kc' := 0) (ks' := 0) dX9_isFigure_5 lkX9_104 rfl rfl rfl (Nat.le_of_ble_eq_true rfl) hd1 h (fun r w1 hK => ?_)
  obtain ⟨x1, rfl, h⟩ := hK
  change WA _ _ _ _ _ _ _ _ _ _ _ [.inl x1] _ _
  obtain ⟨s1, h⟩ := h
  exact WA.zreturn dX9_isFigure_8 s1 ⟨_, rfl, h⟩
set_option maxRecDepth 10000 in
theorem e_X9_isColumn {d : Nat} {w : Wd} {K : Int → Wd → Prop} {a1 : Int}  
    (h : C_X9_in d [.inl a1, .inl 97, .inl 104] w (fun x1 w1 => (x1 = 0 ∨ x1 = 1) ∧ K x1 w1)) :
    E_X9_isColumn d [.inl a1] w K := by
  refine EvA.of (by decide +kernel) (Nat.le_of_ble_eq_true rfl) ?_
  change W_X9_isColumn d 0 [some (.inl a1)] [] w K
  refine WA.iload_n dX9_isColumn_0 rfl ?_
  refine WA.bipush dX9_isColumn_1 ⟨by decide, by decide⟩ ?_
  refine WA.bipush dX9_isColumn_3 ⟨by decide, by decide⟩ ?_
  obtain ⟨d1, hd1, h⟩ := h
  refine WA.callS3 (kc := 0) (ks := 0) (kc' := 0) (ks' := 0) dX9_isColumn_5 lkX9_104 rfl rfl rfl (Nat.le_of_ble_eq_true rfl) hd1 h (fun r w1 hK => ?_)
  obtain ⟨x1, rfl, h⟩ := hK
  change WA _ _ _ _ _ _ _ _ _ _ _ [.inl x1] _ _
  obtain ⟨s1, h⟩ := h
  exact WA.zreturn dX9_isColumn_8 s1 ⟨_, rfl, h⟩
set_option maxRecDepth 10000 in
theorem v_X9_save_10 {d : Nat} {w : Wd} {K : Wd → Prop} {v1 : Int}  
    (h : ((8334 ≤ v1 → (-2147483648 ≤ ((w 115 2) - 1) ∧ ((w 115 2) - 1) ≤ 2147483647) ∧ (∀ w1, w1 = wset w 115 2 ((w 115 2) - 1) → W_X9_save d 51 [some (.inr (.inr 115)), some (.inl 0)] [] w1 K)) ∧ (¬ (8334 ≤ v1) → (-2147483648 ≤ (v1 + 2778) ∧ (v1 + 2778) ≤ 2147483647) ∧ (0 ≤ (v1 + 2778) ∧ (v1 + 2778) < 11112) ∧ (0 ≤ v1 ∧ v1 < 11112) ∧ (∀ w2, w2 = wset w 117 v1 (w 117 (v1 + 2778)) → (-2147483648 ≤ (v1 + 1) ∧ (v1 + 1) ≤ 2147483647) ∧ W_X9_save d 10 [some (.inr (.inr 115)), some (.inl (v1 + 1))] [] w2 K)))) :
    W_X9_save d 10 [some (.inr (.inr 115)), some (.inl v1)] [] w K := by
  refine WA.iload_n dX9_save_10 rfl ?_
  refine WA.sipush dX9_save_11 ⟨by decide, by decide⟩ ?_
  refine WA.icmp_ge (tgt := 39) dX9_save_14 (by decide) (fun hc => ?_) (fun hc => ?_)
  · have h := h.1 hc
    refine WA.aload_n dX9_save_39 rfl (by decide) ?_
    refine WA.dup dX9_save_40 rfl ?_
    refine gfX9_108 rfl dX9_save_41 ob_115 ?_
    refine WA.iconst dX9_save_44 ⟨by decide, by decide⟩ ?_
    obtain ⟨s1, h⟩ := h
    refine WA.isub dX9_save_45 s1 ?_
    obtain ⟨w1, qw1⟩ : ∃ z, z = wset w 115 2 ((w 115 2) - 1) := ⟨_, rfl⟩
    have h := h w1 qw1
    refine pfX9_108 rfl dX9_save_46 ob_115 ?_
    rw [← qw1]
    refine WA.iconst dX9_save_49 ⟨by decide, by decide⟩ ?_
    refine WA.istore_n (als' := [some (.inr (.inr 115)), some (.inl 0)]) dX9_save_50 (Nat.le_of_ble_eq_true rfl) rfl ?_
    exact h
  · have h := h.2 hc
    refine WA.aload_n dX9_save_17 rfl (by decide) ?_
    refine gxX9_13 rfl rfl dX9_save_18 ob_115 ?_
    refine WA.iload_n dX9_save_21 rfl ?_
    refine WA.aload_n dX9_save_22 rfl (by decide) ?_
    refine gxX9_13 rfl rfl dX9_save_23 ob_115 ?_
    refine WA.iload_n dX9_save_26 rfl ?_
    refine WA.sipush dX9_save_27 ⟨by decide, by decide⟩ ?_
    obtain ⟨s2, h⟩ := h
    refine WA.iadd dX9_save_30 s2 ?_
    obtain ⟨s3, h⟩ := h
    refine WA.iaload dX9_save_31 ob_117 s3.1 s3.2 ?_
    obtain ⟨s4, h⟩ := h
    obtain ⟨w2, qw2⟩ : ∃ z, z = wset w 117 v1 (w 117 (v1 + 2778)) := ⟨_, rfl⟩
    have h := h w2 qw2
    refine WA.iastore dX9_save_32 ob_117 s4.1 s4.2 ?_
    rw [← qw2]
    obtain ⟨s5, h⟩ := h
    refine WA.iinc (als' := [some (.inr (.inr 115)), some (.inl (v1 + 1))]) dX9_save_33 rfl s5 rfl ?_
    refine WA.goto (tgt := 10) dX9_save_36 (by decide) ?_
    exact h
set_option maxRecDepth 10000 in
theorem v_X9_save_51 {d : Nat} {w : Wd} {K : Wd → Prop} {v1 : Int}  
    (h : ((2778 ≤ v1 → (-2147483648 ≤ ((w 115 2) + 1) ∧ ((w 115 2) + 1) ≤ 2147483647) ∧ (∀ w1, w1 = wset w 115 2 ((w 115 2) + 1) → K w1)) ∧ (¬ (2778 ≤ v1) → (-2147483648 ≤ (2778 * (w 115 2)) ∧ (2778 * (w 115 2)) ≤ 2147483647) ∧ (-2147483648 ≤ ((2778 * (w 115 2)) + v1) ∧ ((2778 * (w 115 2)) + v1) ≤ 2147483647) ∧ (0 ≤ v1 ∧ v1 < 2778) ∧ (0 ≤ ((2778 * (w 115 2)) + v1) ∧ ((2778 * (w 115 2)) + v1) < 11112) ∧ (∀ w2, w2 = wset w 117 ((2778 * (w 115 2)) + v1) (w 116 v1) → (-2147483648 ≤ (v1 + 1) ∧ (v1 + 1) ≤ 2147483647) ∧ W_X9_save d 51 [some (.inr (.inr 115)), some (.inl (v1 + 1))] [] w2 K)))) :
    W_X9_save d 51 [some (.inr (.inr 115)), some (.inl v1)] [] w K := by
  refine WA.iload_n dX9_save_51 rfl ?_
  refine WA.sipush dX9_save_52 ⟨by decide, by decide⟩ ?_
  refine WA.icmp_ge (tgt := 85) dX9_save_55 (by decide) (fun hc => ?_) (fun hc => ?_)
  · have h := h.1 hc
    refine WA.aload_n dX9_save_85 rfl (by decide) ?_
    refine WA.dup dX9_save_86 rfl ?_
    refine gfX9_108 rfl dX9_save_87 ob_115 ?_
    refine WA.iconst dX9_save_90 ⟨by decide, by decide⟩ ?_
    obtain ⟨s1, h⟩ := h
    refine WA.iadd dX9_save_91 s1 ?_
    obtain ⟨w1, qw1⟩ : ∃ z, z = wset w 115 2 ((w 115 2) + 1) := ⟨_, rfl⟩
    have h := h w1 qw1
    refine pfX9_108 rfl dX9_save_92 ob_115 ?_
    rw [← qw1]
    exact WA.vreturn dX9_save_95 ⟨rfl, h⟩
  · have h := h.2 hc
    refine WA.aload_n dX9_save_58 rfl (by decide) ?_
    refine gxX9_13 rfl rfl dX9_save_59 ob_115 ?_
    refine WA.sipush dX9_save_62 ⟨by decide, by decide⟩ ?_
    refine WA.aload_n dX9_save_65 rfl (by decide) ?_
    refine gfX9_108 rfl dX9_save_66 ob_115 ?_
    obtain ⟨s2, h⟩ := h
    refine WA.imul dX9_save_69 s2 ?_
    refine WA.iload_n dX9_save_70 rfl ?_
    obtain ⟨s3, h⟩ := h
    refine WA.iadd dX9_save_71 s3 ?_
    refine WA.aload_n dX9_save_72 rfl (by decide) ?_
    refine gxX9_7 rfl rfl dX9_save_73 ob_115 ?_
    refine WA.iload_n dX9_save_76 rfl ?_
    obtain ⟨s4, h⟩ := h
    refine WA.iaload dX9_save_77 ob_116 s4.1 s4.2 ?_
    obtain ⟨s5, h⟩ := h
    obtain ⟨w2, qw2⟩ : ∃ z, z = wset w 117 ((2778 * (w 115 2)) + v1) (w 116 v1) := ⟨_, rfl⟩
    have h := h w2 qw2
    refine WA.iastore dX9_save_78 ob_117 s5.1 s5.2 ?_
    rw [← qw2]
    obtain ⟨s6, h⟩ := h
    refine WA.iinc (als' := [some (.inr (.inr 115)), some (.inl (v1 + 1))]) dX9_save_79 rfl s6 rfl ?_
    refine WA.goto (tgt := 51) dX9_save_82 (by decide) ?_
    exact h
set_option maxRecDepth 10000 in
theorem e_X9_save {d : Nat} {w : Wd} {K : Wd → Prop}  
    (h : ((¬ (w 115 2) = 4 → W_X9_save d 51 [some (.inr (.inr 115)), some (.inl 0)] [] w K) ∧ ((w 115 2) = 4 → W_X9_save d 10 [some (.inr (.inr 115)), some (.inl 0)] [] w K))) :
    E_X9_save d [.inr (.inr 115)] w K := by
  refine EvA.of (by decide +kernel) (Nat.le_of_ble_eq_true rfl) ?_
  change W_X9_save d 0 [some (.inr (.inr 115)), none] [] w K
  refine WA.aload_n dX9_save_0 rfl (by decide) ?_
  refine gfX9_108 rfl dX9_save_1 ob_115 ?_
  refine WA.iconst dX9_save_4 ⟨by decide, by decide⟩ ?_
  refine WA.icmp_ne (tgt := 49) dX9_save_5 (by decide) (fun hc => ?_) (fun hc => ?_)
  · have h := h.1 hc
    refine WA.iconst dX9_save_49 ⟨by decide, by decide⟩ ?_
    refine WA.istore_n (als' := [some (.inr (.inr 115)), some (.inl 0)]) dX9_save_50 (Nat.le_of_ble_eq_true rfl) rfl ?_
    exact h
  · have h := h.2 hc
    refine WA.iconst dX9_save_8 ⟨by decide, by decide⟩ ?_
    refine WA.istore_n (als' := [some (.inr (.inr 115)), some (.inl 0)]) dX9_save_9 (Nat.le_of_ble_eq_true rfl) rfl ?_
    exact h
set_option maxRecDepth 10000 in
theorem e_X9_type {d : Nat} {w : Wd} {K : Int → Wd → Prop} {a1 : Int}  
    (h : C_X9_in d [.inl a1, .inl 32, .inl 126] w (fun x1 w1 => ((¬ x1 = 0 → ((¬ (w1 115 4) = 30 → (0 ≤ (w1 115 4) ∧ (w1 115 4) < 30) ∧ (∀ w2, w2 = wset w1 118 (w1 115 4) a1 → (-2147483648 ≤ ((w2 115 4) + 1) ∧ ((w2 115 4) + 1) ≤ 2147483647) ∧ (∀ w3, w3 = wset w2 115 4 ((w2 115 4) + 1) → K (w3 115 4) w3))) ∧ ((w1 115 4) = 30 → K (-2000000003) w1))) ∧ (x1 = 0 → K (-2000000001) w1)))) :
    E_X9_type d [.inr (.inr 115), .inl a1] w K := by
  refine EvA.of (by decide +kernel) (Nat.le_of_ble_eq_true rfl) ?_
  change W_X9_type d 0 [some (.inr (.inr 115)), some (.inl a1)] [] w K
  refine WA.iload_n dX9_type_0 rfl ?_
  refine WA.bipush dX9_type_1 ⟨by decide, by decide⟩ ?_
  refine WA.bipush dX9_type_3 ⟨by decide, by decide⟩ ?_
  obtain ⟨d1, hd1, h⟩ := h
  refine WA.callS3 (kc := 0) (ks := 0) (kc' := 0) (ks' := 0) dX9_type_5 lkX9_104 rfl rfl rfl (Nat.le_of_ble_eq_true rfl) hd1 h (fun r w1 hK => ?_)
  obtain ⟨x1, rfl, h⟩ := hK
  change WA _ _ _ _ _ _ _ _ _ _ _ [.inl x1] _ _
  refine WA.if_ne (tgt := 14) dX9_type_8 (by decide) (fun hc => ?_) (fun hc => ?_)
  · have h := h.1 hc
    refine WA.aload_n dX9_type_14 rfl (by decide) ?_
    refine gfX9_112 rfl dX9_type_15 ob_115 ?_
    refine WA.bipush dX9_type_18 ⟨by decide, by decide⟩ ?_
    refine WA.icmp_ne (tgt := 26) dX9_type_20 (by decide) (fun hc => ?_) (fun hc => ?_)
    · have h := h.1 hc
      refine WA.aload_n dX9_type_26 rfl (by decide) ?_
      refine gxX9_16 rfl rfl dX9_type_27 ob_115 ?_
      refine WA.aload_n dX9_type_30 rfl (by decide) ?_
      refine gfX9_112 rfl dX9_type_31 ob_115 ?_
      refine WA.iload_n dX9_type_34 rfl ?_
      obtain ⟨s1, h⟩ := h
      obtain ⟨w2, qw2⟩ : ∃ z, z = wset w1 118 (w1 115 4) a1 := ⟨_, rfl⟩
      have h := h w2 qw2
      refine WA.iastore dX9_type_35 ob_118 s1.1 s1.2 ?_
      rw [← qw2]
      refine WA.aload_n dX9_type_36 rfl (by decide) ?_
      refine WA.dup dX9_type_37 rfl ?_
      refine gfX9_112 rfl dX9_type_38 ob_115 ?_
      refine WA.iconst dX9_type_41 ⟨by decide, by decide⟩ ?_
      obtain ⟨s2, h⟩ := h
      refine WA.iadd dX9_type_42 s2 ?_
      obtain ⟨w3, qw3⟩ : ∃ z, z = wset w2 115 4 ((w2 115 4) + 1) := ⟨_, rfl⟩
      have h := h w3 qw3
      refine pfX9_112 rfl dX9_type_43 ob_115 ?_
      rw [← qw3]
      refine WA.aload_n dX9_type_46 rfl (by decide) ?_
      refine gfX9_112 rfl dX9_type_47 ob_115 ?_
      exact WA.ireturn dX9_type_50 ⟨_, rfl, h⟩
    · have h := h.2 hc
      refine WA.ldc (v := (-2000000003)) (x := (-2000000003)) dX9_type_23 (am_mem 903 (by decide +kernel) rfl) (by decide) ?_
      exact WA.ireturn dX9_type_25 ⟨_, rfl, h⟩
  · have h := h.2 hc
    refine WA.ldc (v := (-2000000001)) (x := (-2000000001)) dX9_type_11 (am_mem 902 (by decide +kernel) rfl) (by decide) ?_
    exact WA.ireturn dX9_type_13 ⟨_, rfl, h⟩
set_option maxRecDepth 10000 in
theorem e_X9_clearText {d : Nat} {w : Wd} {K : Int → Wd → Prop}  
    (h : (∀ w1, w1 = wset w 115 4 0 → K (w 115 4) w1)) :
    E_X9_clearText d [.inr (.inr 115)] w K := by
  refine EvA.of (by decide +kernel) (Nat.le_of_ble_eq_true rfl) ?_
  change W_X9_clearText d 0 [some (.inr (.inr 115)), none] [] w K
  refine WA.aload_n dX9_clearText_0 rfl (by decide) ?_
  refine gfX9_112 rfl dX9_clearText_1 ob_115 ?_
  refine WA.istore_n (als' := [some (.inr (.inr 115)), some (.inl (w 115 4))]) dX9_clearText_4 (Nat.le_of_ble_eq_true rfl) rfl ?_
  refine WA.aload_n dX9_clearText_5 rfl (by decide) ?_
  refine WA.iconst dX9_clearText_6 ⟨by decide, by decide⟩ ?_
  obtain ⟨w1, qw1⟩ : ∃ z, z = wset w 115 4 0 := ⟨_, rfl⟩
  have h := h w1 qw1
  refine pfX9_112 rfl dX9_clearText_7 ob_115 ?_
  rw [← qw1]
  refine WA.iload_n dX9_clearText_10 rfl ?_
  exact WA.ireturn dX9_clearText_11 ⟨_, rfl, h⟩
set_option maxRecDepth 10000 in
theorem e_X9_here {d : Nat} {w : Wd} {K : Int → Wd → Prop}  
    (h : (((w 115 4) ≤ (w 115 24) → K (-1) w) ∧ (¬ ((w 115 4) ≤ (w 115 24)) → (0 ≤ (w 115 24) ∧ (w 115 24) < 30) ∧ K (w 118 (w 115 24)) w))) :
    E_X9_here d [.inr (.inr 115)] w K := by
  refine EvA.of (by decide +kernel) (Nat.le_of_ble_eq_true rfl) ?_
  change W_X9_here d 0 [some (.inr (.inr 115))] [] w K
  refine WA.aload_n dX9_here_0 rfl (by decide) ?_
  refine gfX9_116 rfl dX9_here_1 ob_115 ?_
  refine WA.aload_n dX9_here_4 rfl (by decide) ?_
  refine gfX9_112 rfl dX9_here_5 ob_115 ?_
  refine WA.icmp_ge (tgt := 23) dX9_here_8 (by decide) (fun hc => ?_) (fun hc => ?_)
  · have h := h.1 hc
    refine WA.iconst dX9_here_23 ⟨by decide, by decide⟩ ?_
    exact WA.ireturn dX9_here_24 ⟨_, rfl, h⟩
  · have h := h.2 hc
    refine WA.aload_n dX9_here_11 rfl (by decide) ?_
    refine gxX9_16 rfl rfl dX9_here_12 ob_115 ?_
    refine WA.aload_n dX9_here_15 rfl (by decide) ?_
    refine gfX9_116 rfl dX9_here_16 ob_115 ?_
    obtain ⟨s1, h⟩ := h
    refine WA.iaload dX9_here_19 ob_118 s1.1 s1.2 ?_
    refine WA.goto (tgt := 24) dX9_here_20 (by decide) ?_
    exact WA.ireturn dX9_here_24 ⟨_, rfl, h⟩
set_option maxRecDepth 10000 in
theorem e_X9_opens {d : Nat} {w : Wd} {K : Wd → Prop} {a1 : Int}  
    (h : (-2147483648 ≤ ((w 115 23) + 1) ∧ ((w 115 23) + 1) ≤ 2147483647) ∧ (∀ w1, w1 = wset w 115 23 ((w 115 23) + 1) → (0 ≤ (w1 115 23) ∧ (w1 115 23) < 40) ∧ (∀ w2, w2 = wset w1 133 (w1 115 23) a1 → (0 ≤ (w2 115 23) ∧ (w2 115 23) < 40) ∧ (∀ w3, w3 = wset w2 134 (w2 115 23) 0 → K w3)))) :
    E_X9_opens d [.inr (.inr 115), .inl a1] w K := by
  refine EvA.of (by decide +kernel) (Nat.le_of_ble_eq_true rfl) ?_
  change W_X9_opens d 0 [some (.inr (.inr 115)), some (.inl a1)] [] w K
  refine WA.aload_n dX9_opens_0 rfl (by decide) ?_
  refine WA.dup dX9_opens_1 rfl ?_
  refine gfX9_119 rfl dX9_opens_2 ob_115 ?_
  refine WA.iconst dX9_opens_5 ⟨by decide, by decide⟩ ?_
  obtain ⟨s1, h⟩ := h
  refine WA.iadd dX9_opens_6 s1 ?_
  obtain ⟨w1, qw1⟩ : ∃ z, z = wset w 115 23 ((w 115 23) + 1) := ⟨_, rfl⟩
  have h := h w1 qw1
  refine pfX9_119 rfl dX9_opens_7 ob_115 ?_
  rw [← qw1]
  refine WA.aload_n dX9_opens_10 rfl (by decide) ?_
  refine gxX9_66 rfl rfl dX9_opens_11 ob_115 ?_
  refine WA.aload_n dX9_opens_14 rfl (by decide) ?_
  refine gfX9_119 rfl dX9_opens_15 ob_115 ?_
  refine WA.iload_n dX9_opens_18 rfl ?_
  obtain ⟨s2, h⟩ := h
  obtain ⟨w2, qw2⟩ : ∃ z, z = wset w1 133 (w1 115 23) a1 := ⟨_, rfl⟩
  have h := h w2 qw2
  refine WA.iastore dX9_opens_19 ob_133 s2.1 s2.2 ?_
  rw [← qw2]
  refine WA.aload_n dX9_opens_20 rfl (by decide) ?_
  refine gxX9_69 rfl rfl dX9_opens_21 ob_115 ?_
  refine WA.aload_n dX9_opens_24 rfl (by decide) ?_
  refine gfX9_119 rfl dX9_opens_25 ob_115 ?_
  refine WA.iconst dX9_opens_28 ⟨by decide, by decide⟩ ?_
  obtain ⟨s3, h⟩ := h
  obtain ⟨w3, qw3⟩ : ∃ z, z = wset w2 134 (w2 115 23) 0 := ⟨_, rfl⟩
  have h := h w3 qw3
  refine WA.iastore dX9_opens_29 ob_134 s3.1 s3.2 ?_
  rw [← qw3]
  exact WA.vreturn dX9_opens_30 ⟨rfl, h⟩
set_option maxRecDepth 10000 in
theorem e_X9_hasParts {d : Nat} {w : Wd} {K : Int → Wd → Prop} {a1 : Int}  
    (h : C_X9_in d [.inl a1, .inl 7, .inl 10] w (fun x1 w1 => (x1 = 0 ∨ x1 = 1) ∧ K x1 w1)) :
    E_X9_hasParts d [.inl a1] w K := by
  refine EvA.of (by decide +kernel) (Nat.le_of_ble_eq_true rfl) ?_
  change W_X9_hasParts d 0 [some (.inl a1)] [] w K
  refine WA.iload_n dX9_hasParts_0 rfl ?_
  refine WA.bipush dX9_hasParts_1 ⟨by decide, by decide⟩ ?_
  refine WA.bipush dX9_hasParts_3 ⟨by decide, by decide⟩ ?_
  obtain ⟨d1, hd1, h⟩ := h
  refine WA.callS3 (kc := 0) (ks := 0) (kc' := 0) (ks' := 0) dX9_hasParts_5 lkX9_104 rfl rfl rfl (Nat.le_of_ble_eq_true rfl) hd1 h (fun r w1 hK => ?_)
  obtain ⟨x1, rfl, h⟩ := hK
  change WA _ _ _ _ _ _ _ _ _ _ _ [.inl x1] _ _
  obtain ⟨s1, h⟩ := h
  exact WA.zreturn dX9_hasParts_8 s1 ⟨_, rfl, h⟩
set_option maxRecDepth 10000 in
theorem e_X9_readCell {d : Nat} {w : Wd} {K : Int → Wd → Prop} {a1 a2 : Int}  
    (h : C_X9_here d [.inr (.inr 115)] w (fun x1 w1 => C_X9_in d [.inl x1, .inl a1, .inl 104] w1 (fun x2 w2 => ((¬ x2 = 0 → (-2147483648 ≤ ((w2 115 24) + 1) ∧ ((w2 115 24) + 1) ≤ 2147483647) ∧ (∀ w3, w3 = wset w2 115 24 ((w2 115 24) + 1) → C_X9_here d [.inr (.inr 115)] w3 (fun x3 w4 => C_X9_in d [.inl x3, .inl a2, .inl 57] w4 (fun x4 w5 => ((¬ x4 = 0 → (-2147483648 ≤ ((w5 115 24) + 1) ∧ ((w5 115 24) + 1) ≤ 2147483647) ∧ (∀ w6, w6 = wset w5 115 24 ((w5 115 24) + 1) → K 1 w6)) ∧ (x4 = 0 → K 0 w5)))))) ∧ (x2 = 0 → K 0 w2))))) :
    E_X9_readCell d [.inr (.inr 115), .inl a1, .inl a2] w K := by
  refine EvA.of (by decide +kernel) (Nat.le_of_ble_eq_true rfl) ?_
  change W_X9_readCell d 0 [some (.inr (.inr 115)), some (.inl a1), some (.inl a2)] [] w K
  refine WA.aload_n dX9_readCell_0 rfl (by decide) ?_
  obtain ⟨d1, hd1, h⟩ := h
  refine WA.callV0 (kc := 0) (ks := 0) (kc' := 0) (ks' := 0) dX9_readCell_1 lkX9_122 rfl rfl rfl ob_115 rfl (Nat.le_of_ble_eq_true rfl) hd1 h (fun r w1 hK => ?_)
  obtain ⟨x1, rfl, h⟩ := hK
  change WA _ _ _ _ _ _ _ _ _ _ _ [.inl x1] _ _
  refine WA.iload_n dX9_readCell_4 rfl ?_
  refine WA.bipush dX9_readCell_5 ⟨by decide, by decide⟩ ?_
  obtain ⟨d1, hd1, h⟩ := h
  refine WA.callS3 (kc := 0) (ks := 0) (kc' := 0) (ks' := 0) dX9_readCell_7 lkX9_104 rfl rfl rfl (Nat.le_of_ble_eq_true rfl) hd1 h (fun r w2 hK => ?_)
  obtain ⟨x2, rfl, h⟩ := hK
  change WA _ _ _ _ _ _ _ _ _ _ _ [.inl x2] _ _
  refine WA.if_ne (tgt := 15) dX9_readCell_10 (by decide) (fun hc => ?_) (fun hc => ?_)
  · have h := h.1 hc
    refine WA.aload_n dX9_readCell_15 rfl (by decide) ?_
    refine WA.dup dX9_readCell_16 rfl ?_
    refine gfX9_116 rfl dX9_readCell_17 ob_115 ?_
    refine WA.iconst dX9_readCell_20 ⟨by decide, by decide⟩ ?_
    obtain ⟨s1, h⟩ := h
    refine WA.iadd dX9_readCell_21 s1 ?_
    obtain ⟨w3, qw3⟩ : ∃ z, z = wset w2 115 24 ((w2 115 24) + 1) := ⟨_, rfl⟩
    have h := h w3 qw3
    refine pfX9_116 rfl dX9_readCell_22 ob_115 ?_
    rw [← qw3]
    refine WA.aload_n dX9_readCell_25 rfl (by decide) ?_
    obtain ⟨d1, hd1, h⟩ := h
    refine WA.callV0 (kc := 0) (ks := 0) (kc' := 0) (ks' := 0) dX9_readCell_26 lkX9_122 rfl rfl rfl ob_115 rfl (Nat.le_of_ble_eq_true rfl) hd1 h (fun r w4 hK => ?_)
    obtain ⟨x3, rfl, h⟩ := hK
    change WA _ _ _ _ _ _ _ _ _ _ _ [.inl x3] _ _
    refine WA.iload_n dX9_readCell_29 rfl ?_
    refine WA.bipush dX9_readCell_30 ⟨by decide, by decide⟩ ?_
    obtain ⟨d1, hd1, h⟩ := h
    refine WA.callS3 (kc := 0) (ks := 0) (kc' := 0) (ks' := 0) dX9_readCell_32 lkX9_104 rfl rfl rfl (Nat.le_of_ble_eq_true rfl) hd1 h (fun r w5 hK => ?_)
    obtain ⟨x4, rfl, h⟩ := hK
    change WA _ _ _ _ _ _ _ _ _ _ _ [.inl x4] _ _
    refine WA.if_ne (tgt := 40) dX9_readCell_35 (by decide) (fun hc => ?_) (fun hc => ?_)
    · have h := h.1 hc
      refine WA.aload_n dX9_readCell_40 rfl (by decide) ?_
      refine WA.dup dX9_readCell_41 rfl ?_
      refine gfX9_116 rfl dX9_readCell_42 ob_115 ?_
      refine WA.iconst dX9_readCell_45 ⟨by decide, by decide⟩ ?_
      obtain ⟨s2, h⟩ := h
      refine WA.iadd dX9_readCell_46 s2 ?_
      obtain ⟨w6, qw6⟩ : ∃ z, z = wset w5 115 24 ((w5 115 24) + 1) := ⟨_, rfl⟩
      have h := h w6 qw6
      refine pfX9_116 rfl dX9_readCell_47 ob_115 ?_
      rw [← qw6]
      refine WA.iconst dX9_readCell_50 ⟨by decide, by decide⟩ ?_
      exact WA.zreturn dX9_readCell_51 (by decide) ⟨_, rfl, h⟩
    · have h := h.2 hc
      refine WA.iconst dX9_readCell_38 ⟨by decide, by decide⟩ ?_
      exact WA.zreturn dX9_readCell_39 (by decide) ⟨_, rfl, h⟩
  · have h := h.2 hc
    refine WA.iconst dX9_readCell_13 ⟨by decide, by decide⟩ ?_
    exact WA.zreturn dX9_readCell_14 (by decide) ⟨_, rfl, h⟩
set_option maxRecDepth 10000 in
theorem e_X9_readArea {d : Nat} {w : Wd} {K : Int → Wd → Prop}  
    (h : C_X9_here d [.inr (.inr 115)] w (fun x1 w1 => C_X9_readCell d [.inr (.inr 115), .inl 97, .inl 49] w1 (fun x2 w2 => ((¬ x2 = 0 → (-2147483648 ≤ ((w2 115 24) - 1) ∧ ((w2 115 24) - 1) ≤ 2147483647) ∧ (0 ≤ ((w2 115 24) - 1) ∧ ((w2 115 24) - 1) < 30) ∧ C_X9_here d [.inr (.inr 115)] w2 (fun x3 w3 => ((¬ x3 = 58 → (∀ w4, w4 = wset w3 115 25 0 → (((w4 115 25) = 0 → (-2147483648 ≤ ((w4 115 24) + 0) ∧ ((w4 115 24) + 0) ≤ 2147483647) ∧ (∀ w5, w5 = wset w4 115 24 ((w4 115 24) + 0) → (((w5 115 25) = 0 → K 1 w5) ∧ (¬ (w5 115 25) = 0 → C_X9_readCell d [.inr (.inr 115), .inl x1, .inl (w2 118 ((w2 115 24) - 1))] w5 (fun x4 w6 => ((x4 = 0 → K 0 w6) ∧ (¬ x4 = 0 → K 1 w6))))))) ∧ (¬ (w4 115 25) = 0 → (-2147483648 ≤ ((w4 115 24) + 1) ∧ ((w4 115 24) + 1) ≤ 2147483647) ∧ (∀ w7, w7 = wset w4 115 24 ((w4 115 24) + 1) → (((w7 115 25) = 0 → K 1 w7) ∧ (¬ (w7 115 25) = 0 → C_X9_readCell d [.inr (.inr 115), .inl x1, .inl (w2 118 ((w2 115 24) - 1))] w7 (fun x5 w8 => ((x5 = 0 → K 0 w8) ∧ (¬ x5 = 0 → K 1 w8)))))))))) ∧ (x3 = 58 → (∀ w9, w9 = wset w3 115 25 1 → (((w9 115 25) = 0 → (-2147483648 ≤ ((w9 115 24) + 0) ∧ ((w9 115 24) + 0) ≤ 2147483647) ∧ (∀ w10, w10 = wset w9 115 24 ((w9 115 24) + 0) → (((w10 115 25) = 0 → K 1 w10) ∧ (¬ (w10 115 25) = 0 → C_X9_readCell d [.inr (.inr 115), .inl x1, .inl (w2 118 ((w2 115 24) - 1))] w10 (fun x6 w11 => ((x6 = 0 → K 0 w11) ∧ (¬ x6 = 0 → K 1 w11))))))) ∧ (¬ (w9 115 25) = 0 → (-2147483648 ≤ ((w9 115 24) + 1) ∧ ((w9 115 24) + 1) ≤ 2147483647) ∧ (∀ w12, w12 = wset w9 115 24 ((w9 115 24) + 1) → (((w12 115 25) = 0 → K 1 w12) ∧ (¬ (w12 115 25) = 0 → C_X9_readCell d [.inr (.inr 115), .inl x1, .inl (w2 118 ((w2 115 24) - 1))] w12 (fun x7 w13 => ((x7 = 0 → K 0 w13) ∧ (¬ x7 = 0 → K 1 w13))))))))))))) ∧ (x2 = 0 → K 0 w2))))) :
    E_X9_readArea d [.inr (.inr 115)] w K := by
  refine EvA.of (by decide +kernel) (Nat.le_of_ble_eq_true rfl) ?_
  change W_X9_readArea d 0 [some (.inr (.inr 115)), none, none] [] w K
  refine WA.aload_n dX9_readArea_0 rfl (by decide) ?_
  obtain ⟨d1, hd1, h⟩ := h
  refine WA.callV0 (kc := 0) (ks := 0) (kc' := 0) (ks' := 0) dX9_readArea_1 lkX9_122 rfl rfl rfl ob_115 rfl (Nat.le_of_ble_eq_true rfl) hd1 h (fun r w1 hK => ?_)
  obtain ⟨x1, rfl, h⟩ := hK
  change WA _ _ _ _ _ _ _ _ _ _ _ [.inl x1] _ _
  refine WA.istore_n (als' := [some (.inr (.inr 115)), some (.inl x1), none]) dX9_readArea_4 (Nat.le_of_ble_eq_true rfl) rfl ?_
  refine WA.aload_n dX9_readArea_5 rfl (by decide) ?_
  refine WA.bipush dX9_readArea_6 ⟨by decide, by decide⟩ ?_
  refine WA.bipush dX9_readArea_8 ⟨by decide, by decide⟩ ?_
  obtain ⟨d1, hd1, h⟩ := h
  refine WA.callV2 (kc := 0) (ks := 0) (kc' := 0) (ks' := 0) dX9_readArea_10 lkX9_126 rfl rfl rfl ob_115 rfl (Nat.le_of_ble_eq_true rfl) hd1 h (fun r w2 hK => ?_)
  obtain ⟨x2, rfl, h⟩ := hK
  change WA _ _ _ _ _ _ _ _ _ _ _ [.inl x2] _ _
  refine WA.if_ne (tgt := 18) dX9_readArea_13 (by decide) (fun hc => ?_) (fun hc => ?_)
  · have h := h.1 hc
    refine WA.aload_n dX9_readArea_18 rfl (by decide) ?_
    refine gxX9_16 rfl rfl dX9_readArea_19 ob_115 ?_
    refine WA.aload_n dX9_readArea_22 rfl (by decide) ?_
    refine gfX9_116 rfl dX9_readArea_23 ob_115 ?_
    refine WA.iconst dX9_readArea_26 ⟨by decide, by decide⟩ ?_
    obtain ⟨s1, h⟩ := h
    refine WA.isub dX9_readArea_27 s1 ?_
    obtain ⟨s2, h⟩ := h
    refine WA.iaload dX9_readArea_28 ob_118 s2.1 s2.2 ?_
    refine WA.istore_n (als' := [some (.inr (.inr 115)), some (.inl x1), some (.inl (w2 118 ((w2 115 24) - 1)))]) dX9_readArea_29 (Nat.le_of_ble_eq_true rfl) rfl ?_
    refine WA.aload_n dX9_readArea_30 rfl (by decide) ?_
    refine WA.aload_n dX9_readArea_31 rfl (by decide) ?_
    obtain ⟨d1, hd1, h⟩ := h
    refine WA.callV0 (kc := 0) (ks := 0) (kc' := 0) (ks' := 0) dX9_readArea_32 lkX9_122 rfl rfl rfl ob_115 rfl (Nat.le_of_ble_eq_true rfl) hd1 h (fun r w3 hK => ?_)
    obtain ⟨x3, rfl, h⟩ := hK
    change WA _ _ _ _ _ _ _ _ _ _ _ [.inl x3, .inr (.inr 115)] _ _
    refine WA.bipush dX9_readArea_35 ⟨by decide, by decide⟩ ?_
    refine WA.icmp_ne (tgt := 44) dX9_readArea_37 (by decide) (fun hc => ?_) (fun hc => ?_)
    · have h := h.1 hc
      refine WA.iconst dX9_readArea_44 ⟨by decide, by decide⟩ ?_
      obtain ⟨w4, qw4⟩ : ∃ z, z = wset w3 115 25 0 := ⟨_, rfl⟩
      have h := h w4 qw4
      refine pfX9_130 rfl dX9_readArea_45 ob_115 (by decide) ?_
      rw [← qw4]
      refine WA.aload_n dX9_readArea_48 rfl (by decide) ?_
      refine WA.dup dX9_readArea_49 rfl ?_
      refine gfX9_116 rfl dX9_readArea_50 ob_115 ?_
      refine WA.aload_n dX9_readArea_53 rfl (by decide) ?_
      refine gfX9_130 rfl dX9_readArea_54 ob_115 ?_
      refine WA.if_eq (tgt := 64) dX9_readArea_57 (by decide) (fun hc => ?_) (fun hc => ?_)
      · have h := h.1 hc
        refine WA.iconst dX9_readArea_64 ⟨by decide, by decide⟩ ?_
        obtain ⟨s3, h⟩ := h
        refine WA.iadd dX9_readArea_65 s3 ?_
        obtain ⟨w5, qw5⟩ : ∃ z, z = wset w4 115 24 ((w4 115 24) + 0) := ⟨_, rfl⟩
        have h := h w5 qw5
        refine pfX9_116 rfl dX9_readArea_66 ob_115 ?_
        rw [← qw5]
        refine WA.aload_n dX9_readArea_69 rfl (by decide) ?_
        refine gfX9_130 rfl dX9_readArea_70 ob_115 ?_
        refine WA.if_eq (tgt := 85) dX9_readArea_73 (by decide) (fun hc => ?_) (fun hc => ?_)
        · have h := h.1 hc
          refine WA.iconst dX9_readArea_85 ⟨by decide, by decide⟩ ?_
          refine WA.goto (tgt := 90) dX9_readArea_86 (by decide) ?_
          exact WA.zreturn dX9_readArea_90 (by decide) ⟨_, rfl, h⟩
        · have h := h.2 hc
          refine WA.aload_n dX9_readArea_76 rfl (by decide) ?_
          refine WA.iload_n dX9_readArea_77 rfl ?_
          refine WA.iload_n dX9_readArea_78 rfl ?_
          obtain ⟨d1, hd1, h⟩ := h
          refine WA.callV2 (kc := 0) (ks := 0) (kc' := 0) (ks' := 0) dX9_readArea_79 lkX9_126 rfl rfl rfl ob_115 rfl (Nat.le_of_ble_eq_true rfl) hd1 h (fun r w6 hK => ?_)
          obtain ⟨x4, rfl, h⟩ := hK
          change WA _ _ _ _ _ _ _ _ _ _ _ [.inl x4] _ _
          refine WA.if_eq (tgt := 89) dX9_readArea_82 (by decide) (fun hc => ?_) (fun hc => ?_)
          · have h := h.1 hc
            refine WA.iconst dX9_readArea_89 ⟨by decide, by decide⟩ ?_
            exact WA.zreturn dX9_readArea_90 (by decide) ⟨_, rfl, h⟩
          · have h := h.2 hc
            refine WA.iconst dX9_readArea_85 ⟨by decide, by decide⟩ ?_
            refine WA.goto (tgt := 90) dX9_readArea_86 (by decide) ?_
            exact WA.zreturn dX9_readArea_90 (by decide) ⟨_, rfl, h⟩
      · have h := h.2 hc
        refine WA.iconst dX9_readArea_60 ⟨by decide, by decide⟩ ?_
        refine WA.goto (tgt := 65) dX9_readArea_61 (by decide) ?_
        obtain ⟨s4, h⟩ := h
        refine WA.iadd dX9_readArea_65 s4 ?_
        obtain ⟨w7, qw7⟩ : ∃ z, z = wset w4 115 24 ((w4 115 24) + 1) := ⟨_, rfl⟩
        have h := h w7 qw7
        refine pfX9_116 rfl dX9_readArea_66 ob_115 ?_
        rw [← qw7]
        refine WA.aload_n dX9_readArea_69 rfl (by decide) ?_
        refine gfX9_130 rfl dX9_readArea_70 ob_115 ?_
        refine WA.if_eq (tgt := 85) dX9_readArea_73 (by decide) (fun hc => ?_) (fun hc => ?_)
        · have h := h.1 hc
          refine WA.iconst dX9_readArea_85 ⟨by decide, by decide⟩ ?_
          refine WA.goto (tgt := 90) dX9_readArea_86 (by decide) ?_
          exact WA.zreturn dX9_readArea_90 (by decide) ⟨_, rfl, h⟩
        · have h := h.2 hc
          refine WA.aload_n dX9_readArea_76 rfl (by decide) ?_
          refine WA.iload_n dX9_readArea_77 rfl ?_
          refine WA.iload_n dX9_readArea_78 rfl ?_
          obtain ⟨d1, hd1, h⟩ := h
          refine WA.callV2 (kc := 0) (ks := 0) (kc' := 0) (ks' := 0) dX9_readArea_79 lkX9_126 rfl rfl rfl ob_115 rfl (Nat.le_of_ble_eq_true rfl) hd1 h (fun r w8 hK => ?_)
          obtain ⟨x5, rfl, h⟩ := hK
          change WA _ _ _ _ _ _ _ _ _ _ _ [.inl x5] _ _
          refine WA.if_eq (tgt := 89) dX9_readArea_82 (by decide) (fun hc => ?_) (fun hc => ?_)
          · have h := h.1 hc
            refine WA.iconst dX9_readArea_89 ⟨by decide, by decide⟩ ?_
            exact WA.zreturn dX9_readArea_90 (by decide) ⟨_, rfl, h⟩
          · have h := h.2 hc
            refine WA.iconst dX9_readArea_85 ⟨by decide, by decide⟩ ?_
            refine WA.goto (tgt := 90) dX9_readArea_86 (by decide) ?_
            exact WA.zreturn dX9_readArea_90 (by decide) ⟨_, rfl, h⟩
    · have h := h.2 hc
      refine WA.iconst dX9_readArea_40 ⟨by decide, by decide⟩ ?_
      refine WA.goto (tgt := 45) dX9_readArea_41 (by decide) ?_
      obtain ⟨w9, qw9⟩ : ∃ z, z = wset w3 115 25 1 := ⟨_, rfl⟩
      have h := h w9 qw9
      refine pfX9_130 rfl dX9_readArea_45 ob_115 (by decide) ?_
      rw [← qw9]
      refine WA.aload_n dX9_readArea_48 rfl (by decide) ?_
      refine WA.dup dX9_readArea_49 rfl ?_
      refine gfX9_116 rfl dX9_readArea_50 ob_115 ?_
      refine WA.aload_n dX9_readArea_53 rfl (by decide) ?_
      refine gfX9_130 rfl dX9_readArea_54 ob_115 ?_
      refine WA.if_eq (tgt := 64) dX9_readArea_57 (by decide) (fun hc => ?_) (fun hc => ?_)
      · have h := h.1 hc
        refine WA.iconst dX9_readArea_64 ⟨by decide, by decide⟩ ?_
        obtain ⟨s5, h⟩ := h
        refine WA.iadd dX9_readArea_65 s5 ?_
        obtain ⟨w10, qw10⟩ : ∃ z, z = wset w9 115 24 ((w9 115 24) + 0) := ⟨_, rfl⟩
        have h := h w10 qw10
        refine pfX9_116 rfl dX9_readArea_66 ob_115 ?_
        rw [← qw10]
        refine WA.aload_n dX9_readArea_69 rfl (by decide) ?_
        refine gfX9_130 rfl dX9_readArea_70 ob_115 ?_
        refine WA.if_eq (tgt := 85) dX9_readArea_73 (by decide) (fun hc => ?_) (fun hc => ?_)
        · have h := h.1 hc
          refine WA.iconst dX9_readArea_85 ⟨by decide, by decide⟩ ?_
          refine WA.goto (tgt := 90) dX9_readArea_86 (by decide) ?_
          exact WA.zreturn dX9_readArea_90 (by decide) ⟨_, rfl, h⟩
        · have h := h.2 hc
          refine WA.aload_n dX9_readArea_76 rfl (by decide) ?_
          refine WA.iload_n dX9_readArea_77 rfl ?_
          refine WA.iload_n dX9_readArea_78 rfl ?_
          obtain ⟨d1, hd1, h⟩ := h
          refine WA.callV2 (kc := 0) (ks := 0) (kc' := 0) (ks' := 0) dX9_readArea_79 lkX9_126 rfl rfl rfl ob_115 rfl (Nat.le_of_ble_eq_true rfl) hd1 h (fun r w11 hK => ?_)
          obtain ⟨x6, rfl, h⟩ := hK
          change WA _ _ _ _ _ _ _ _ _ _ _ [.inl x6] _ _
          refine WA.if_eq (tgt := 89) dX9_readArea_82 (by decide) (fun hc => ?_) (fun hc => ?_)
          · have h := h.1 hc
            refine WA.iconst dX9_readArea_89 ⟨by decide, by decide⟩ ?_
            exact WA.zreturn dX9_readArea_90 (by decide) ⟨_, rfl, h⟩
          · have h := h.2 hc
            refine WA.iconst dX9_readArea_85 ⟨by decide, by decide⟩ ?_
            refine WA.goto (tgt := 90) dX9_readArea_86 (by decide) ?_
            exact WA.zreturn dX9_readArea_90 (by decide) ⟨_, rfl, h⟩
      · have h := h.2 hc
        refine WA.iconst dX9_readArea_60 ⟨by decide, by decide⟩ ?_
        refine WA.goto (tgt := 65) dX9_readArea_61 (by decide) ?_
        obtain ⟨s6, h⟩ := h
        refine WA.iadd dX9_readArea_65 s6 ?_
        obtain ⟨w12, qw12⟩ : ∃ z, z = wset w9 115 24 ((w9 115 24) + 1) := ⟨_, rfl⟩
        have h := h w12 qw12
        refine pfX9_116 rfl dX9_readArea_66 ob_115 ?_
        rw [← qw12]
        refine WA.aload_n dX9_readArea_69 rfl (by decide) ?_
        refine gfX9_130 rfl dX9_readArea_70 ob_115 ?_
        refine WA.if_eq (tgt := 85) dX9_readArea_73 (by decide) (fun hc => ?_) (fun hc => ?_)
        · have h := h.1 hc
          refine WA.iconst dX9_readArea_85 ⟨by decide, by decide⟩ ?_
          refine WA.goto (tgt := 90) dX9_readArea_86 (by decide) ?_
          exact WA.zreturn dX9_readArea_90 (by decide) ⟨_, rfl, h⟩
        · have h := h.2 hc
          refine WA.aload_n dX9_readArea_76 rfl (by decide) ?_
          refine WA.iload_n dX9_readArea_77 rfl ?_
          refine WA.iload_n dX9_readArea_78 rfl ?_
          obtain ⟨d1, hd1, h⟩ := h
          refine WA.callV2 (kc := 0) (ks := 0) (kc' := 0) (ks' := 0) dX9_readArea_79 lkX9_126 rfl rfl rfl ob_115 rfl (Nat.le_of_ble_eq_true rfl) hd1 h (fun r w13 hK => ?_)
          obtain ⟨x7, rfl, h⟩ := hK
          change WA _ _ _ _ _ _ _ _ _ _ _ [.inl x7] _ _
          refine WA.if_eq (tgt := 89) dX9_readArea_82 (by decide) (fun hc => ?_) (fun hc => ?_)
          · have h := h.1 hc
            refine WA.iconst dX9_readArea_89 ⟨by decide, by decide⟩ ?_
            exact WA.zreturn dX9_readArea_90 (by decide) ⟨_, rfl, h⟩
          · have h := h.2 hc
            refine WA.iconst dX9_readArea_85 ⟨by decide, by decide⟩ ?_
            refine WA.goto (tgt := 90) dX9_readArea_86 (by decide) ?_
            exact WA.zreturn dX9_readArea_90 (by decide) ⟨_, rfl, h⟩
  · have h := h.2 hc
    refine WA.iconst dX9_readArea_16 ⟨by decide, by decide⟩ ?_
    exact WA.zreturn dX9_readArea_17 (by decide) ⟨_, rfl, h⟩
set_option maxRecDepth 10000 in
theorem e_X9_nameOf {d : Nat} {w : Wd} {K : Int → Wd → Prop} {a1 : Int}  
    (h : ((a1 = 2 → K 6907432 w) ∧ ((a1 = 3 → K 482804460328 w) ∧ ((a1 = 4 → K 1684633128 w) ∧ ((a1 = 5 → K 1836016680 w) ∧ ((a1 = 6 → K 6386728 w) ∧ ((a1 = 7 → K 1835626024 w) ∧ ((a1 = 8 → K 1835104296 w) ∧ ((a1 = 9 → K 1937075496 w) ∧ (a1 < 2 ∨ 9 < a1 → K 109330362692648 w)))))))))) :
    E_X9_nameOf d [.inl a1] w K := by
  refine EvA.of (by decide +kernel) (Nat.le_of_ble_eq_true rfl) ?_
  change W_X9_nameOf d 0 [some (.inl a1)] [] w K
  refine WA.iload_n dX9_nameOf_0 rfl ?_
  by_cases hc : a1 = 2
  · have h := h.1 hc
    refine WA.tableIn (tgt := 48) dX9_nameOf_1 (by rw [hc]; decide) (by rw [hc]; decide) (by rw [hc]; rfl) (by decide) ?_
    refine WA.ldc2 (v := 6907432) (x := 6907432) dX9_nameOf_48 (am_mem 956 (by decide +kernel) rfl) (by decide) ?_
    exact WA.lreturn dX9_nameOf_51 ⟨_, rfl, h⟩
  · have h := h.2
    have n0 := hc
    by_cases hc : a1 = 3
    · have h := h.1 hc
      refine WA.tableIn (tgt := 52) dX9_nameOf_1 (by rw [hc]; decide) (by rw [hc]; decide) (by rw [hc]; rfl) (by decide) ?_
      refine WA.ldc2 (v := 482804460328) (x := 482804460328) dX9_nameOf_52 (am_mem 957 (by decide +kernel) rfl) (by decide) ?_
      exact WA.lreturn dX9_nameOf_55 ⟨_, rfl, h⟩
    · have h := h.2
      have n1 := hc
      by_cases hc : a1 = 4
      · have h := h.1 hc
        refine WA.tableIn (tgt := 56) dX9_nameOf_1 (by rw [hc]; decide) (by rw [hc]; decide) (by rw [hc]; rfl) (by decide) ?_
        refine WA.ldc2 (v := 1684633128) (x := 1684633128) dX9_nameOf_56 (am_mem 958 (by decide +kernel) rfl) (by decide) ?_
        exact WA.lreturn dX9_nameOf_59 ⟨_, rfl, h⟩
      · have h := h.2
        have n2 := hc
        by_cases hc : a1 = 5
        · have h := h.1 hc
          refine WA.tableIn (tgt := 60) dX9_nameOf_1 (by rw [hc]; decide) (by rw [hc]; decide) (by rw [hc]; rfl) (by decide) ?_
          refine WA.ldc2 (v := 1836016680) (x := 1836016680) dX9_nameOf_60 (am_mem 959 (by decide +kernel) rfl) (by decide) ?_
          exact WA.lreturn dX9_nameOf_63 ⟨_, rfl, h⟩
        · have h := h.2
          have n3 := hc
          by_cases hc : a1 = 6
          · have h := h.1 hc
            refine WA.tableIn (tgt := 64) dX9_nameOf_1 (by rw [hc]; decide) (by rw [hc]; decide) (by rw [hc]; rfl) (by decide) ?_
            refine WA.ldc2 (v := 6386728) (x := 6386728) dX9_nameOf_64 (am_mem 960 (by decide +kernel) rfl) (by decide) ?_
            exact WA.lreturn dX9_nameOf_67 ⟨_, rfl, h⟩
          · have h := h.2
            have n4 := hc
            by_cases hc : a1 = 7
            · have h := h.1 hc
              refine WA.tableIn (tgt := 68) dX9_nameOf_1 (by rw [hc]; decide) (by rw [hc]; decide) (by rw [hc]; rfl) (by decide) ?_
              refine WA.ldc2 (v := 1835626024) (x := 1835626024) dX9_nameOf_68 (am_mem 961 (by decide +kernel) rfl) (by decide) ?_
              exact WA.lreturn dX9_nameOf_71 ⟨_, rfl, h⟩
            · have h := h.2
              have n5 := hc
              by_cases hc : a1 = 8
              · have h := h.1 hc
                refine WA.tableIn (tgt := 72) dX9_nameOf_1 (by rw [hc]; decide) (by rw [hc]; decide) (by rw [hc]; rfl) (by decide) ?_
                refine WA.ldc2 (v := 1835104296) (x := 1835104296) dX9_nameOf_72 (am_mem 962 (by decide +kernel) rfl) (by decide) ?_
                exact WA.lreturn dX9_nameOf_75 ⟨_, rfl, h⟩
              · have h := h.2
                have n6 := hc
                by_cases hc : a1 = 9
                · have h := h.1 hc
                  refine WA.tableIn (tgt := 76) dX9_nameOf_1 (by rw [hc]; decide) (by rw [hc]; decide) (by rw [hc]; rfl) (by decide) ?_
                  refine WA.ldc2 (v := 1937075496) (x := 1937075496) dX9_nameOf_76 (am_mem 963 (by decide +kernel) rfl) (by decide) ?_
                  exact WA.lreturn dX9_nameOf_79 ⟨_, rfl, h⟩
                · have h := h.2
                  have n7 := hc
                  have ho : a1 < 2 ∨ 9 < a1 := by
                    rcases Int.lt_or_le a1 2 with q | q
                    · exact Or.inl q
                    · have q : 3 ≤ a1 := am_bump q n0
                      have q : 4 ≤ a1 := am_bump q n1
                      have q : 5 ≤ a1 := am_bump q n2
                      have q : 6 ≤ a1 := am_bump q n3
                      have q : 7 ≤ a1 := am_bump q n4
                      have q : 8 ≤ a1 := am_bump q n5
                      have q : 9 ≤ a1 := am_bump q n6
                      have q : 10 ≤ a1 := am_bump q n7
                      exact Or.inr q
                  have h := h ho
                  refine WA.tableOut (tgt := 80) dX9_nameOf_1 ho (by decide) ?_
                  refine WA.ldc2 (v := 109330362692648) (x := 109330362692648) dX9_nameOf_80 (am_mem 964 (by decide +kernel) rfl) (by decide) ?_
                  exact WA.lreturn dX9_nameOf_83 ⟨_, rfl, h⟩
set_option maxRecDepth 10000 in
theorem e_X9_sizeOf {d : Nat} {w : Wd} {K : Int → Wd → Prop} {a1 : Int}  
    (h : ((a1 = 2 → K 3 w) ∧ (¬ a1 = 2 → ((¬ a1 = 6 → ((¬ a1 = 3 → ((¬ a1 = 10 → K 4 w) ∧ (a1 = 10 → K 6 w))) ∧ (a1 = 3 → K 5 w))) ∧ (a1 = 6 → K 3 w))))) :
    E_X9_sizeOf d [.inl a1] w K := by
  refine EvA.of (by decide +kernel) (Nat.le_of_ble_eq_true rfl) ?_
  change W_X9_sizeOf d 0 [some (.inl a1)] [] w K
  refine WA.iload_n dX9_sizeOf_0 rfl ?_
  refine WA.iconst dX9_sizeOf_1 ⟨by decide, by decide⟩ ?_
  refine WA.icmp_eq (tgt := 11) dX9_sizeOf_2 (by decide) (fun hc => ?_) (fun hc => ?_)
  · have h := h.1 hc
    refine WA.iconst dX9_sizeOf_11 ⟨by decide, by decide⟩ ?_
    refine WA.goto (tgt := 36) dX9_sizeOf_12 (by decide) ?_
    exact WA.ireturn dX9_sizeOf_36 ⟨_, rfl, h⟩
  · have h := h.2 hc
    refine WA.iload_n dX9_sizeOf_5 rfl ?_
    refine WA.bipush dX9_sizeOf_6 ⟨by decide, by decide⟩ ?_
    refine WA.icmp_ne (tgt := 15) dX9_sizeOf_8 (by decide) (fun hc => ?_) (fun hc => ?_)
    · have h := h.1 hc
      refine WA.iload_n dX9_sizeOf_15 rfl ?_
      refine WA.iconst dX9_sizeOf_16 ⟨by decide, by decide⟩ ?_
      refine WA.icmp_ne (tgt := 24) dX9_sizeOf_17 (by decide) (fun hc => ?_) (fun hc => ?_)
      · have h := h.1 hc
        refine WA.iload_n dX9_sizeOf_24 rfl ?_
        refine WA.bipush dX9_sizeOf_25 ⟨by decide, by decide⟩ ?_
        refine WA.icmp_ne (tgt := 35) dX9_sizeOf_27 (by decide) (fun hc => ?_) (fun hc => ?_)
        · have h := h.1 hc
          refine WA.iconst dX9_sizeOf_35 ⟨by decide, by decide⟩ ?_
          exact WA.ireturn dX9_sizeOf_36 ⟨_, rfl, h⟩
        · have h := h.2 hc
          refine WA.bipush dX9_sizeOf_30 ⟨by decide, by decide⟩ ?_
          refine WA.goto (tgt := 36) dX9_sizeOf_32 (by decide) ?_
          exact WA.ireturn dX9_sizeOf_36 ⟨_, rfl, h⟩
      · have h := h.2 hc
        refine WA.iconst dX9_sizeOf_20 ⟨by decide, by decide⟩ ?_
        refine WA.goto (tgt := 36) dX9_sizeOf_21 (by decide) ?_
        exact WA.ireturn dX9_sizeOf_36 ⟨_, rfl, h⟩
    · have h := h.2 hc
      refine WA.iconst dX9_sizeOf_11 ⟨by decide, by decide⟩ ?_
      refine WA.goto (tgt := 36) dX9_sizeOf_12 (by decide) ?_
      exact WA.ireturn dX9_sizeOf_36 ⟨_, rfl, h⟩
set_option maxRecDepth 10000 in
theorem v_X9_matches_7 {d : Nat} {w : Wd} {K : Int → Wd → Prop} {a1 v2 v3 : Int}  
    (h : ((v2 ≤ v3 → K v3 w) ∧ (¬ (v2 ≤ v3) → (-2147483648 ≤ ((w 115 24) + v3) ∧ ((w 115 24) + v3) ≤ 2147483647) ∧ (((w 115 4) ≤ ((w 115 24) + v3) → K v3 w) ∧ (¬ ((w 115 4) ≤ ((w 115 24) + v3)) → (-2147483648 ≤ ((w 115 24) + v3) ∧ ((w 115 24) + v3) ≤ 2147483647) ∧ (0 ≤ ((w 115 24) + v3) ∧ ((w 115 24) + v3) < 30) ∧ C_X9_nameOf d [.inl a1] w (fun x1 w1 => (-2147483648 ≤ (v2 - 1) ∧ (v2 - 1) ≤ 2147483647) ∧ (-2147483648 ≤ ((v2 - 1) - v3) ∧ ((v2 - 1) - v3) ≤ 2147483647) ∧ (-2147483648 ≤ (8 * ((v2 - 1) - v3)) ∧ (8 * ((v2 - 1) - v3)) ≤ 2147483647) ∧ (∃ k1 : Nat, ((8 * ((v2 - 1) - v3)) = (k1 : Int) ∧ (((Int32.ofInt (8 * ((v2 - 1) - v3))).toInt64 &&& 63).toBitVec.smod 64).toNat = k1) ∧ (-2147483648 ≤ ((x1 >>> k1) % 256) ∧ ((x1 >>> k1) % 256) ≤ 2147483647) ∧ ((¬ (w 118 ((w 115 24) + v3)) = ((x1 >>> k1) % 256) → K v3 w1) ∧ ((w 118 ((w 115 24) + v3)) = ((x1 >>> k1) % 256) → (-2147483648 ≤ (v3 + 1) ∧ (v3 + 1) ≤ 2147483647) ∧ W_X9_matches d 7 [some (.inr (.inr 115)), some (.inl a1), some (.inl v2), some (.inl (v3 + 1))] [] w1 K))))))))) :
    W_X9_matches d 7 [some (.inr (.inr 115)), some (.inl a1), some (.inl v2), some (.inl v3)] [] w K := by
  refine WA.iload_n dX9_matches_7 rfl ?_
  refine WA.iload_n dX9_matches_8 rfl ?_
  refine WA.icmp_ge (tgt := 63) dX9_matches_9 (by decide) (fun hc => ?_) (fun hc => ?_)
  · have h := h.1 hc
    refine WA.iload_n dX9_matches_63 rfl ?_
    exact WA.ireturn dX9_matches_64 ⟨_, rfl, h⟩
  · have h := h.2 hc
    refine WA.aload_n dX9_matches_12 rfl (by decide) ?_
    refine gfX9_116 rfl dX9_matches_13 ob_115 ?_
    refine WA.iload_n dX9_matches_16 rfl ?_
    obtain ⟨s1, h⟩ := h
    refine WA.iadd dX9_matches_17 s1 ?_
    refine WA.aload_n dX9_matches_18 rfl (by decide) ?_
    refine gfX9_112 rfl dX9_matches_19 ob_115 ?_
    refine WA.icmp_ge (tgt := 63) dX9_matches_22 (by decide) (fun hc => ?_) (fun hc => ?_)
    · have h := h.1 hc
      refine WA.iload_n dX9_matches_63 rfl ?_
      exact WA.ireturn dX9_matches_64 ⟨_, rfl, h⟩
    · have h := h.2 hc
      refine WA.aload_n dX9_matches_25 rfl (by decide) ?_
      refine gxX9_16 rfl rfl dX9_matches_26 ob_115 ?_
      refine WA.aload_n dX9_matches_29 rfl (by decide) ?_
      refine gfX9_116 rfl dX9_matches_30 ob_115 ?_
      refine WA.iload_n dX9_matches_33 rfl ?_
      obtain ⟨s2, h⟩ := h
      refine WA.iadd dX9_matches_34 s2 ?_
      obtain ⟨s3, h⟩ := h
      refine WA.iaload dX9_matches_35 ob_118 s3.1 s3.2 ?_
      refine WA.iload_n dX9_matches_36 rfl ?_
      obtain ⟨d1, hd1, h⟩ := h
      refine WA.callS1 (kc := 0) (ks := 0) (kc' := 0) (ks' := 0) dX9_matches_37 lkX9_155 rfl rfl rfl (Nat.le_of_ble_eq_true rfl) hd1 h (fun r w1 hK => ?_)
      obtain ⟨x1, rfl, h⟩ := hK
      change WA _ _ _ _ _ _ _ _ _ _ _ [.inr (.inl x1), .inl (w 118 ((w 115 24) + v3))] _ _
      refine WA.bipush dX9_matches_40 ⟨by decide, by decide⟩ ?_
      refine WA.iload_n dX9_matches_42 rfl ?_
      refine WA.iconst dX9_matches_43 ⟨by decide, by decide⟩ ?_
      obtain ⟨s4, h⟩ := h
      refine WA.isub dX9_matches_44 s4 ?_
      refine WA.iload_n dX9_matches_45 rfl ?_
      obtain ⟨s5, h⟩ := h
      refine WA.isub dX9_matches_46 s5 ?_
      obtain ⟨s6, h⟩ := h
      refine WA.imul dX9_matches_47 s6 ?_
      obtain ⟨k1, s7, h⟩ := h
      refine WA.lshr dX9_matches_48 s7.1 s7.2 (fun _ => ?_)
      refine WA.ldc2 (v := 255) (x := 255) dX9_matches_49 (am_mem 965 (by decide +kernel) rfl) (by decide) ?_
      refine WA.land255 dX9_matches_52 ?_
      obtain ⟨s8, h⟩ := h
      refine WA.l2i dX9_matches_53 s8 ?_
      refine WA.icmp_ne (tgt := 63) dX9_matches_54 (by decide) (fun hc => ?_) (fun hc => ?_)
      · have h := h.1 hc
        refine WA.iload_n dX9_matches_63 rfl ?_
        exact WA.ireturn dX9_matches_64 ⟨_, rfl, h⟩
      · have h := h.2 hc
        obtain ⟨s9, h⟩ := h
        refine WA.iinc (als' := [some (.inr (.inr 115)), some (.inl a1), some (.inl v2), some (.inl (v3 + 1))]) dX9_matches_57 rfl s9 rfl ?_
        refine WA.goto (tgt := 7) dX9_matches_60 (by decide) ?_
        exact h
set_option maxRecDepth 10000 in
theorem e_X9_matches {d : Nat} {w : Wd} {K : Int → Wd → Prop} {a1 : Int}  
    (h : C_X9_sizeOf d [.inl a1] w (fun x1 w1 => W_X9_matches d 7 [some (.inr (.inr 115)), some (.inl a1), some (.inl x1), some (.inl 0)] [] w1 K)) :
    E_X9_matches d [.inr (.inr 115), .inl a1] w K := by
  refine EvA.of (by decide +kernel) (Nat.le_of_ble_eq_true rfl) ?_
  change W_X9_matches d 0 [some (.inr (.inr 115)), some (.inl a1), none, none] [] w K
  refine WA.iload_n dX9_matches_0 rfl ?_
  obtain ⟨d1, hd1, h⟩ := h
  refine WA.callS1 (kc := 0) (ks := 0) (kc' := 0) (ks' := 0) dX9_matches_1 lkX9_151 rfl rfl rfl (Nat.le_of_ble_eq_true rfl) hd1 h (fun r w1 hK => ?_)
  obtain ⟨x1, rfl, h⟩ := hK
  change WA _ _ _ _ _ _ _ _ _ _ _ [.inl x1] _ _
  refine WA.istore_n (als' := [some (.inr (.inr 115)), some (.inl a1), some (.inl x1), none]) dX9_matches_4 (Nat.le_of_ble_eq_true rfl) rfl ?_
  refine WA.iconst dX9_matches_5 ⟨by decide, by decide⟩ ?_
  refine WA.istore_n (als' := [some (.inr (.inr 115)), some (.inl a1), some (.inl x1), some (.inl 0)]) dX9_matches_6 (Nat.le_of_ble_eq_true rfl) rfl ?_
  exact h
set_option maxRecDepth 10000 in
theorem v_X9_readName_18 {d : Nat} {w : Wd} {K : Int → Wd → Prop} {v1 v2 : Int}  
    (h : ((10 < v2 → (-2147483648 ≤ ((w 115 24) + v1) ∧ ((w 115 24) + v1) ≤ 2147483647) ∧ (∀ w1, w1 = wset w 115 24 ((w 115 24) + v1) → K 0 w1)) ∧ (¬ (10 < v2) → C_X9_matches d [.inr (.inr 115), .inl v2] w (fun x1 w2 => C_X9_sizeOf d [.inl v2] w2 (fun x2 w3 => ((¬ x1 = x2 → ((x1 ≤ v1 → (-2147483648 ≤ (v2 + 1) ∧ (v2 + 1) ≤ 2147483647) ∧ W_X9_readName d 18 [some (.inr (.inr 115)), some (.inl v1), some (.inl (v2 + 1)), none] [] w3 K) ∧ (¬ (x1 ≤ v1) → (-2147483648 ≤ (v2 + 1) ∧ (v2 + 1) ≤ 2147483647) ∧ W_X9_readName d 18 [some (.inr (.inr 115)), some (.inl x1), some (.inl (v2 + 1)), none] [] w3 K))) ∧ (x1 = x2 → (-2147483648 ≤ ((w3 115 24) + x1) ∧ ((w3 115 24) + x1) ≤ 2147483647) ∧ (∀ w4, w4 = wset w3 115 24 ((w3 115 24) + x1) → C_X9_opens d [.inr (.inr 115), .inl v2] w4 (fun w5 => C_X9_hasParts d [.inl v2] w5 (fun x3 w6 => (x3 = 0 ∨ x3 = 1) ∧ (∀ w7, w7 = wset w6 115 27 x3 → K 1 w7))))))))))) :
    W_X9_readName d 18 [some (.inr (.inr 115)), some (.inl v1), some (.inl v2), none] [] w K := by
  refine WA.iload_n dX9_readName_18 rfl ?_
  refine WA.bipush dX9_readName_19 ⟨by decide, by decide⟩ ?_
  refine WA.icmp_gt (tgt := 80) dX9_readName_21 (by decide) (fun hc => ?_) (fun hc => ?_)
  · have h := h.1 hc
    refine WA.aload_n dX9_readName_80 rfl (by decide) ?_
    refine WA.dup dX9_readName_81 rfl ?_
    refine gfX9_116 rfl dX9_readName_82 ob_115 ?_
    refine WA.iload_n dX9_readName_85 rfl ?_
    obtain ⟨s1, h⟩ := h
    refine WA.iadd dX9_readName_86 s1 ?_
    obtain ⟨w1, qw1⟩ : ∃ z, z = wset w 115 24 ((w 115 24) + v1) := ⟨_, rfl⟩
    have h := h w1 qw1
    refine pfX9_116 rfl dX9_readName_87 ob_115 ?_
    rw [← qw1]
    refine WA.iconst dX9_readName_90 ⟨by decide, by decide⟩ ?_
    exact WA.zreturn dX9_readName_91 (by decide) ⟨_, rfl, h⟩
  · have h := h.2 hc
    refine WA.aload_n dX9_readName_24 rfl (by decide) ?_
    refine WA.iload_n dX9_readName_25 rfl ?_
    obtain ⟨d1, hd1, h⟩ := h
    refine WA.callV1 (kc := 0) (ks := 0) (kc' := 0) (ks' := 0) dX9_readName_26 lkX9_165 rfl rfl rfl ob_115 rfl (Nat.le_of_ble_eq_true rfl) hd1 h (fun r w2 hK => ?_)
    obtain ⟨x1, rfl, h⟩ := hK
    change WA _ _ _ _ _ _ _ _ _ _ _ [.inl x1] _ _
    refine WA.istore_n (als' := [some (.inr (.inr 115)), some (.inl v1), some (.inl v2), some (.inl x1)]) dX9_readName_29 (Nat.le_of_ble_eq_true rfl) rfl ?_
    refine WA.iload_n dX9_readName_30 rfl ?_
    refine WA.iload_n dX9_readName_31 rfl ?_
    obtain ⟨d1, hd1, h⟩ := h
    refine WA.callS1 (kc := 0) (ks := 0) (kc' := 0) (ks' := 0) dX9_readName_32 lkX9_151 rfl rfl rfl (Nat.le_of_ble_eq_true rfl) hd1 h (fun r w3 hK => ?_)
    obtain ⟨x2, rfl, h⟩ := hK
    change WA _ _ _ _ _ _ _ _ _ _ _ [.inl x2, .inl x1] _ _
    refine WA.icmp_ne (tgt := 63) dX9_readName_35 (by decide) (fun hc => ?_) (fun hc => ?_)
    · have h := h.1 hc
      refine WA.iload_n dX9_readName_63 rfl ?_
      refine WA.iload_n dX9_readName_64 rfl ?_
      refine WA.icmp_le (tgt := 72) dX9_readName_65 (by decide) (fun hc => ?_) (fun hc => ?_)
      · have h := h.1 hc
        refine WA.iload_n dX9_readName_72 rfl ?_
        refine WA.istore_n (als' := [some (.inr (.inr 115)), some (.inl v1), some (.inl v2), some (.inl x1)]) dX9_readName_73 (Nat.le_of_ble_eq_true rfl) rfl ?_
        obtain ⟨s2, h⟩ := h
        refine WA.iinc (als' := [some (.inr (.inr 115)), some (.inl v1), some (.inl (v2 + 1)), some (.inl x1)]) dX9_readName_74 rfl s2 rfl ?_
        refine WA.goto (tgt := 18) dX9_readName_77 (by decide) ?_
        exact WA.sub (als' := [some (.inr (.inr 115)), some (.inl v1), some (.inl (v2 + 1)), none]) (by simp only [am_sub, and_self]) rfl h
      · have h := h.2 hc
        refine WA.iload_n dX9_readName_68 rfl ?_
        refine WA.goto (tgt := 73) dX9_readName_69 (by decide) ?_
        refine WA.istore_n (als' := [some (.inr (.inr 115)), some (.inl x1), some (.inl v2), some (.inl x1)]) dX9_readName_73 (Nat.le_of_ble_eq_true rfl) rfl ?_
        obtain ⟨s3, h⟩ := h
        refine WA.iinc (als' := [some (.inr (.inr 115)), some (.inl x1), some (.inl (v2 + 1)), some (.inl x1)]) dX9_readName_74 rfl s3 rfl ?_
        refine WA.goto (tgt := 18) dX9_readName_77 (by decide) ?_
        exact WA.sub (als' := [some (.inr (.inr 115)), some (.inl x1), some (.inl (v2 + 1)), none]) (by simp only [am_sub, and_self]) rfl h
    · have h := h.2 hc
      refine WA.aload_n dX9_readName_38 rfl (by decide) ?_
      refine WA.dup dX9_readName_39 rfl ?_
      refine gfX9_116 rfl dX9_readName_40 ob_115 ?_
      refine WA.iload_n dX9_readName_43 rfl ?_
      obtain ⟨s4, h⟩ := h
      refine WA.iadd dX9_readName_44 s4 ?_
      obtain ⟨w4, qw4⟩ : ∃ z, z = wset w3 115 24 ((w3 115 24) + x1) := ⟨_, rfl⟩
      have h := h w4 qw4
      refine pfX9_116 rfl dX9_readName_45 ob_115 ?_
      rw [← qw4]
      refine WA.aload_n dX9_readName_48 rfl (by decide) ?_
      refine WA.iload_n dX9_readName_49 rfl ?_
      obtain ⟨d1, hd1, h⟩ := h
      refine WA.callV1 (kc := 0) (ks := 0) (kc' := 0) (ks' := 0) dX9_readName_50 lkX9_168 rfl rfl rfl ob_115 rfl (Nat.le_of_ble_eq_true rfl) hd1 h (fun r w5 hK => ?_)
      obtain ⟨rfl, h⟩ := hK
      change WA _ _ _ _ _ _ _ _ _ _ _ [] _ _
      refine WA.aload_n dX9_readName_53 rfl (by decide) ?_
      refine WA.iload_n dX9_readName_54 rfl ?_
      obtain ⟨d1, hd1, h⟩ := h
      refine WA.callS1 (kc := 0) (ks := 0) (kc' := 0) (ks' := 0) dX9_readName_55 lkX9_172 rfl rfl rfl (Nat.le_of_ble_eq_true rfl) hd1 h (fun r w6 hK => ?_)
      obtain ⟨x3, rfl, h⟩ := hK
      change WA _ _ _ _ _ _ _ _ _ _ _ [.inl x3, .inr (.inr 115)] _ _
      obtain ⟨s5, h⟩ := h
      obtain ⟨w7, qw7⟩ : ∃ z, z = wset w6 115 27 x3 := ⟨_, rfl⟩
      have h := h w7 qw7
      refine pfX9_175 rfl dX9_readName_58 ob_115 s5 ?_
      rw [← qw7]
      refine WA.iconst dX9_readName_61 ⟨by decide, by decide⟩ ?_
      exact WA.zreturn dX9_readName_62 (by decide) ⟨_, rfl, h⟩
set_option maxRecDepth 10000 in
theorem e_X9_readName {d : Nat} {w : Wd} {K : Int → Wd → Prop}  
    (h : C_X9_here d [.inr (.inr 115)] w (fun x1 w1 => C_X9_isColumn d [.inl x1] w1 (fun x2 w2 => ((x2 = 0 → W_X9_readName d 18 [some (.inr (.inr 115)), some (.inl 0), some (.inl 2), none] [] w2 K) ∧ (¬ x2 = 0 → W_X9_readName d 18 [some (.inr (.inr 115)), some (.inl 1), some (.inl 2), none] [] w2 K))))) :
    E_X9_readName d [.inr (.inr 115)] w K := by
  refine EvA.of (by decide +kernel) (Nat.le_of_ble_eq_true rfl) ?_
  change W_X9_readName d 0 [some (.inr (.inr 115)), none, none, none] [] w K
  refine WA.aload_n dX9_readName_0 rfl (by decide) ?_
  obtain ⟨d1, hd1, h⟩ := h
  refine WA.callV0 (kc := 0) (ks := 0) (kc' := 0) (ks' := 0) dX9_readName_1 lkX9_122 rfl rfl rfl ob_115 rfl (Nat.le_of_ble_eq_true rfl) hd1 h (fun r w1 hK => ?_)
  obtain ⟨x1, rfl, h⟩ := hK
  change WA _ _ _ _ _ _ _ _ _ _ _ [.inl x1] _ _
  obtain ⟨d1, hd1, h⟩ := h
  refine WA.callS1 (kc := 0) (ks := 0) (kc' := 0) (ks' := 0) dX9_readName_4 lkX9_161 rfl rfl rfl (Nat.le_of_ble_eq_true rfl) hd1 h (fun r w2 hK => ?_)
  obtain ⟨x2, rfl, h⟩ := hK
  change WA _ _ _ _ _ _ _ _ _ _ _ [.inl x2] _ _
  refine WA.if_eq (tgt := 14) dX9_readName_7 (by decide) (fun hc => ?_) (fun hc => ?_)
  · have h := h.1 hc
    refine WA.iconst dX9_readName_14 ⟨by decide, by decide⟩ ?_
    refine WA.istore_n (als' := [some (.inr (.inr 115)), some (.inl 0), none, none]) dX9_readName_15 (Nat.le_of_ble_eq_true rfl) rfl ?_
    refine WA.iconst dX9_readName_16 ⟨by decide, by decide⟩ ?_
    refine WA.istore_n (als' := [some (.inr (.inr 115)), some (.inl 0), some (.inl 2), none]) dX9_readName_17 (Nat.le_of_ble_eq_true rfl) rfl ?_
    exact h
  · have h := h.2 hc
    refine WA.iconst dX9_readName_10 ⟨by decide, by decide⟩ ?_
    refine WA.goto (tgt := 15) dX9_readName_11 (by decide) ?_
    refine WA.istore_n (als' := [some (.inr (.inr 115)), some (.inl 1), none, none]) dX9_readName_15 (Nat.le_of_ble_eq_true rfl) rfl ?_
    refine WA.iconst dX9_readName_16 ⟨by decide, by decide⟩ ?_
    refine WA.istore_n (als' := [some (.inr (.inr 115)), some (.inl 1), some (.inl 2), none]) dX9_readName_17 (Nat.le_of_ble_eq_true rfl) rfl ?_
    exact h
set_option maxRecDepth 10000 in
theorem v_X9_readFactor_153 {d : Nat} {w : Wd} {K : Int → Wd → Prop} {v1 v2 v3 : Int}  
    (h : C_X9_here d [.inr (.inr 115)] w (fun x1 w1 => C_X9_isFigure d [.inl x1] w1 (fun x2 w2 => ((x2 = 0 → (∀ w3, w3 = wset w2 115 26 0 → K 1 w3)) ∧ (¬ x2 = 0 → (-2147483648 ≤ (v3 + 6) ∧ (v3 + 6) ≤ 2147483647) ∧ (((v3 + 6) ≤ (w2 115 24) → (∀ w4, w4 = wset w2 115 26 0 → K 1 w4)) ∧ (¬ ((v3 + 6) ≤ (w2 115 24)) → (-2147483648 ≤ ((w2 115 24) + 1) ∧ ((w2 115 24) + 1) ≤ 2147483647) ∧ (∀ w5, w5 = wset w2 115 24 ((w2 115 24) + 1) → W_X9_readFactor d 153 [some (.inr (.inr 115)), some (.inl v1), some (.inl v2), some (.inl v3)] [] w5 K)))))))) :
    W_X9_readFactor d 153 [some (.inr (.inr 115)), some (.inl v1), some (.inl v2), some (.inl v3)] [] w K := by
  refine WA.aload_n dX9_readFactor_153 rfl (by decide) ?_
  obtain ⟨d1, hd1, h⟩ := h
  refine WA.callV0 (kc := 0) (ks := 0) (kc' := 0) (ks' := 0) dX9_readFactor_154 lkX9_122 rfl rfl rfl ob_115 rfl (Nat.le_of_ble_eq_true rfl) hd1 h (fun r w1 hK => ?_)
  obtain ⟨x1, rfl, h⟩ := hK
  change WA _ _ _ _ _ _ _ _ _ _ _ [.inl x1] _ _
  obtain ⟨d1, hd1, h⟩ := h
  refine WA.callS1 (kc := 0) (ks := 0) (kc' := 0) (ks' := 0) dX9_readFactor_157 lkX9_185 rfl rfl rfl (Nat.le_of_ble_eq_true rfl) hd1 h (fun r w2 hK => ?_)
  obtain ⟨x2, rfl, h⟩ := hK
  change WA _ _ _ _ _ _ _ _ _ _ _ [.inl x2] _ _
  refine WA.if_eq (tgt := 187) dX9_readFactor_160 (by decide) (fun hc => ?_) (fun hc => ?_)
  · have h := h.1 hc
    refine WA.aload_n dX9_readFactor_187 rfl (by decide) ?_
    refine WA.iconst dX9_readFactor_188 ⟨by decide, by decide⟩ ?_
    obtain ⟨w3, qw3⟩ : ∃ z, z = wset w2 115 26 0 := ⟨_, rfl⟩
    have h := h w3 qw3
    refine pfX9_182 rfl dX9_readFactor_189 ob_115 (by decide) ?_
    rw [← qw3]
    refine WA.iconst dX9_readFactor_192 ⟨by decide, by decide⟩ ?_
    exact WA.zreturn dX9_readFactor_193 (by decide) ⟨_, rfl, h⟩
  · have h := h.2 hc
    refine WA.aload_n dX9_readFactor_163 rfl (by decide) ?_
    refine gfX9_116 rfl dX9_readFactor_164 ob_115 ?_
    refine WA.iload_n dX9_readFactor_167 rfl ?_
    refine WA.bipush dX9_readFactor_168 ⟨by decide, by decide⟩ ?_
    obtain ⟨s1, h⟩ := h
    refine WA.iadd dX9_readFactor_170 s1 ?_
    refine WA.icmp_ge (tgt := 187) dX9_readFactor_171 (by decide) (fun hc => ?_) (fun hc => ?_)
    · have h := h.1 hc
      refine WA.aload_n dX9_readFactor_187 rfl (by decide) ?_
      refine WA.iconst dX9_readFactor_188 ⟨by decide, by decide⟩ ?_
      obtain ⟨w4, qw4⟩ : ∃ z, z = wset w2 115 26 0 := ⟨_, rfl⟩
      have h := h w4 qw4
      refine pfX9_182 rfl dX9_readFactor_189 ob_115 (by decide) ?_
      rw [← qw4]
      refine WA.iconst dX9_readFactor_192 ⟨by decide, by decide⟩ ?_
      exact WA.zreturn dX9_readFactor_193 (by decide) ⟨_, rfl, h⟩
    · have h := h.2 hc
      refine WA.aload_n dX9_readFactor_174 rfl (by decide) ?_
      refine WA.dup dX9_readFactor_175 rfl ?_
      refine gfX9_116 rfl dX9_readFactor_176 ob_115 ?_
      refine WA.iconst dX9_readFactor_179 ⟨by decide, by decide⟩ ?_
      obtain ⟨s2, h⟩ := h
      refine WA.iadd dX9_readFactor_180 s2 ?_
      obtain ⟨w5, qw5⟩ : ∃ z, z = wset w2 115 24 ((w2 115 24) + 1) := ⟨_, rfl⟩
      have h := h w5 qw5
      refine pfX9_116 rfl dX9_readFactor_181 ob_115 ?_
      rw [← qw5]
      refine WA.goto (tgt := 153) dX9_readFactor_184 (by decide) ?_
      exact h
set_option maxRecDepth 10000 in
theorem e_X9_readFactor {d : Nat} {w : Wd} {K : Int → Wd → Prop}  
    (h : (0 ≤ (w 115 23) ∧ (w 115 23) < 40) ∧ ((¬ (w 133 (w 115 23)) = 10 → C_X9_here d [.inr (.inr 115)] w (fun x1 w1 => (∀ w2, w2 = wset w1 115 27 0 → (∀ w3, w3 = wset w2 115 25 0 → C_X9_isColumn d [.inl x1] w3 (fun x2 w4 => ((x2 = 0 → ((¬ x1 = 45 → C_X9_isFigure d [.inl x1] w4 (fun x3 w5 => ((x3 = 0 → ((¬ x1 = 40 → C_X9_readName d [.inr (.inr 115)] w5 (fun x4 w6 => (x4 = 0 ∨ x4 = 1) ∧ K x4 w6)) ∧ (x1 = 40 → (-2147483648 ≤ ((w5 115 24) + 1) ∧ ((w5 115 24) + 1) ≤ 2147483647) ∧ (∀ w7, w7 = wset w5 115 24 ((w5 115 24) + 1) → C_X9_opens d [.inr (.inr 115), .inl 1] w7 (fun w8 => K 1 w8))))) ∧ (¬ x3 = 0 → W_X9_readFactor d 153 [some (.inr (.inr 115)), some (.inl (w 115 27)), some (.inl x1), some (.inl (w5 115 24))] [] w5 K)))) ∧ (x1 = 45 → (-2147483648 ≤ ((w4 115 24) + 1) ∧ ((w4 115 24) + 1) ≤ 2147483647) ∧ (∀ w9, w9 = wset w4 115 24 ((w4 115 24) + 1) → K 1 w9)))) ∧ (¬ x2 = 0 → (-2147483648 ≤ ((w4 115 24) + 1) ∧ ((w4 115 24) + 1) ≤ 2147483647) ∧ (((w4 115 4) ≤ ((w4 115 24) + 1) → ((¬ x1 = 45 → C_X9_isFigure d [.inl x1] w4 (fun x5 w10 => ((x5 = 0 → ((¬ x1 = 40 → C_X9_readName d [.inr (.inr 115)] w10 (fun x6 w11 => (x6 = 0 ∨ x6 = 1) ∧ K x6 w11)) ∧ (x1 = 40 → (-2147483648 ≤ ((w10 115 24) + 1) ∧ ((w10 115 24) + 1) ≤ 2147483647) ∧ (∀ w12, w12 = wset w10 115 24 ((w10 115 24) + 1) → C_X9_opens d [.inr (.inr 115), .inl 1] w12 (fun w13 => K 1 w13))))) ∧ (¬ x5 = 0 → W_X9_readFactor d 153 [some (.inr (.inr 115)), some (.inl (w 115 27)), some (.inl x1), some (.inl (w10 115 24))] [] w10 K)))) ∧ (x1 = 45 → (-2147483648 ≤ ((w4 115 24) + 1) ∧ ((w4 115 24) + 1) ≤ 2147483647) ∧ (∀ w14, w14 = wset w4 115 24 ((w4 115 24) + 1) → K 1 w14)))) ∧ (¬ ((w4 115 4) ≤ ((w4 115 24) + 1)) → (-2147483648 ≤ ((w4 115 24) + 1) ∧ ((w4 115 24) + 1) ≤ 2147483647) ∧ (0 ≤ ((w4 115 24) + 1) ∧ ((w4 115 24) + 1) < 30) ∧ C_X9_in d [.inl (w4 118 ((w4 115 24) + 1)), .inl 49, .inl 57] w4 (fun x7 w15 => ((x7 = 0 → ((¬ x1 = 45 → C_X9_isFigure d [.inl x1] w15 (fun x8 w16 => ((x8 = 0 → ((¬ x1 = 40 → C_X9_readName d [.inr (.inr 115)] w16 (fun x9 w17 => (x9 = 0 ∨ x9 = 1) ∧ K x9 w17)) ∧ (x1 = 40 → (-2147483648 ≤ ((w16 115 24) + 1) ∧ ((w16 115 24) + 1) ≤ 2147483647) ∧ (∀ w18, w18 = wset w16 115 24 ((w16 115 24) + 1) → C_X9_opens d [.inr (.inr 115), .inl 1] w18 (fun w19 => K 1 w19))))) ∧ (¬ x8 = 0 → W_X9_readFactor d 153 [some (.inr (.inr 115)), some (.inl (w 115 27)), some (.inl x1), some (.inl (w16 115 24))] [] w16 K)))) ∧ (x1 = 45 → (-2147483648 ≤ ((w15 115 24) + 1) ∧ ((w15 115 24) + 1) ≤ 2147483647) ∧ (∀ w20, w20 = wset w15 115 24 ((w15 115 24) + 1) → K 1 w20)))) ∧ (¬ x7 = 0 → (∀ w21, w21 = wset w15 115 26 0 → (((w 115 27) = 0 → (-2147483648 ≤ ((w21 115 24) + 2) ∧ ((w21 115 24) + 2) ≤ 2147483647) ∧ (∀ w22, w22 = wset w21 115 24 ((w21 115 24) + 2) → K 1 w22)) ∧ (¬ (w 115 27) = 0 → C_X9_readArea d [.inr (.inr 115)] w21 (fun x10 w23 => (x10 = 0 ∨ x10 = 1) ∧ K x10 w23)))))))))))))))) ∧ ((w 133 (w 115 23)) = 10 → C_X9_readArea d [.inr (.inr 115)] w (fun x11 w24 => (∀ w25, w25 = wset w24 115 25 1 → (∀ w26, w26 = wset w25 115 27 0 → (∀ w27, w27 = wset w26 115 26 0 → (x11 = 0 ∨ x11 = 1) ∧ K x11 w27))))))) :
    E_X9_readFactor d [.inr (.inr 115)] w K := by
  refine EvA.of (by decide +kernel) (Nat.le_of_ble_eq_true rfl) ?_
  change W_X9_readFactor d 0 [some (.inr (.inr 115)), none, none, none] [] w K
  refine WA.aload_n dX9_readFactor_0 rfl (by decide) ?_
  refine gxX9_66 rfl rfl dX9_readFactor_1 ob_115 ?_
  refine WA.aload_n dX9_readFactor_4 rfl (by decide) ?_
  refine gfX9_119 rfl dX9_readFactor_5 ob_115 ?_
  obtain ⟨s1, h⟩ := h
  refine WA.iaload dX9_readFactor_8 ob_133 s1.1 s1.2 ?_
  refine WA.bipush dX9_readFactor_9 ⟨by decide, by decide⟩ ?_
  refine WA.icmp_ne (tgt := 36) dX9_readFactor_11 (by decide) (fun hc => ?_) (fun hc => ?_)
  · have h := h.1 hc
    refine WA.aload_n dX9_readFactor_36 rfl (by decide) ?_
    refine gfX9_175 rfl dX9_readFactor_37 ob_115 ?_
    refine WA.istore_n (als' := [some (.inr (.inr 115)), some (.inl (w 115 27)), none, none]) dX9_readFactor_40 (Nat.le_of_ble_eq_true rfl) rfl ?_
    refine WA.aload_n dX9_readFactor_41 rfl (by decide) ?_
    obtain ⟨d1, hd1, h⟩ := h
    refine WA.callV0 (kc := 0) (ks := 0) (kc' := 0) (ks' := 0) dX9_readFactor_42 lkX9_122 rfl rfl rfl ob_115 rfl (Nat.le_of_ble_eq_true rfl) hd1 h (fun r w1 hK => ?_)
    obtain ⟨x1, rfl, h⟩ := hK
    change WA _ _ _ _ _ _ _ _ _ _ _ [.inl x1] _ _
    refine WA.istore_n (als' := [some (.inr (.inr 115)), some (.inl (w 115 27)), some (.inl x1), none]) dX9_readFactor_45 (Nat.le_of_ble_eq_true rfl) rfl ?_
    refine WA.aload_n dX9_readFactor_46 rfl (by decide) ?_
    refine WA.iconst dX9_readFactor_47 ⟨by decide, by decide⟩ ?_
    obtain ⟨w2, qw2⟩ : ∃ z, z = wset w1 115 27 0 := ⟨_, rfl⟩
    have h := h w2 qw2
    refine pfX9_175 rfl dX9_readFactor_48 ob_115 (by decide) ?_
    rw [← qw2]
    refine WA.aload_n dX9_readFactor_51 rfl (by decide) ?_
    refine WA.iconst dX9_readFactor_52 ⟨by decide, by decide⟩ ?_
    obtain ⟨w3, qw3⟩ : ∃ z, z = wset w2 115 25 0 := ⟨_, rfl⟩
    have h := h w3 qw3
    refine pfX9_130 rfl dX9_readFactor_53 ob_115 (by decide) ?_
    rw [← qw3]
    refine WA.iload_n dX9_readFactor_56 rfl ?_
    obtain ⟨d1, hd1, h⟩ := h
    refine WA.callS1 (kc := 0) (ks := 0) (kc' := 0) (ks' := 0) dX9_readFactor_57 lkX9_161 rfl rfl rfl (Nat.le_of_ble_eq_true rfl) hd1 h (fun r w4 hK => ?_)
    obtain ⟨x2, rfl, h⟩ := hK
    change WA _ _ _ _ _ _ _ _ _ _ _ [.inl x2] _ _
    refine WA.if_eq (tgt := 123) dX9_readFactor_60 (by decide) (fun hc => ?_) (fun hc => ?_)
    · have h := h.1 hc
      refine WA.iload_n dX9_readFactor_123 rfl ?_
      refine WA.bipush dX9_readFactor_124 ⟨by decide, by decide⟩ ?_
      refine WA.icmp_ne (tgt := 141) dX9_readFactor_126 (by decide) (fun hc => ?_) (fun hc => ?_)
      · have h := h.1 hc
        refine WA.iload_n dX9_readFactor_141 rfl ?_
        obtain ⟨d1, hd1, h⟩ := h
        refine WA.callS1 (kc := 0) (ks := 0) (kc' := 0) (ks' := 0) dX9_readFactor_142 lkX9_185 rfl rfl rfl (Nat.le_of_ble_eq_true rfl) hd1 h (fun r w5 hK => ?_)
        obtain ⟨x3, rfl, h⟩ := hK
        change WA _ _ _ _ _ _ _ _ _ _ _ [.inl x3] _ _
        refine WA.if_eq (tgt := 194) dX9_readFactor_145 (by decide) (fun hc => ?_) (fun hc => ?_)
        · have h := h.1 hc
          refine WA.iload_n dX9_readFactor_194 rfl ?_
          refine WA.bipush dX9_readFactor_195 ⟨by decide, by decide⟩ ?_
          refine WA.icmp_ne (tgt := 217) dX9_readFactor_197 (by decide) (fun hc => ?_) (fun hc => ?_)
          · have h := h.1 hc
            refine WA.aload_n dX9_readFactor_217 rfl (by decide) ?_
            obtain ⟨d1, hd1, h⟩ := h
            refine WA.callV0 (kc := 0) (ks := 0) (kc' := 0) (ks' := 0) dX9_readFactor_218 lkX9_188 rfl rfl rfl ob_115 rfl (Nat.le_of_ble_eq_true rfl) hd1 h (fun r w6 hK => ?_)
            obtain ⟨x4, rfl, h⟩ := hK
            change WA _ _ _ _ _ _ _ _ _ _ _ [.inl x4] _ _
            obtain ⟨s2, h⟩ := h
            exact WA.zreturn dX9_readFactor_221 s2 ⟨_, rfl, h⟩
          · have h := h.2 hc
            refine WA.aload_n dX9_readFactor_200 rfl (by decide) ?_
            refine WA.dup dX9_readFactor_201 rfl ?_
            refine gfX9_116 rfl dX9_readFactor_202 ob_115 ?_
            refine WA.iconst dX9_readFactor_205 ⟨by decide, by decide⟩ ?_
            obtain ⟨s3, h⟩ := h
            refine WA.iadd dX9_readFactor_206 s3 ?_
            obtain ⟨w7, qw7⟩ : ∃ z, z = wset w5 115 24 ((w5 115 24) + 1) := ⟨_, rfl⟩
            have h := h w7 qw7
            refine pfX9_116 rfl dX9_readFactor_207 ob_115 ?_
            rw [← qw7]
            refine WA.aload_n dX9_readFactor_210 rfl (by decide) ?_
            refine WA.iconst dX9_readFactor_211 ⟨by decide, by decide⟩ ?_
            obtain ⟨d1, hd1, h⟩ := h
            refine WA.callV1 (kc := 0) (ks := 0) (kc' := 0) (ks' := 0) dX9_readFactor_212 lkX9_168 rfl rfl rfl ob_115 rfl (Nat.le_of_ble_eq_true rfl) hd1 h (fun r w8 hK => ?_)
            obtain ⟨rfl, h⟩ := hK
            change WA _ _ _ _ _ _ _ _ _ _ _ [] _ _
            refine WA.iconst dX9_readFactor_215 ⟨by decide, by decide⟩ ?_
            exact WA.zreturn dX9_readFactor_216 (by decide) ⟨_, rfl, h⟩
        · have h := h.2 hc
          refine WA.aload_n dX9_readFactor_148 rfl (by decide) ?_
          refine gfX9_116 rfl dX9_readFactor_149 ob_115 ?_
          refine WA.istore_n (als' := [some (.inr (.inr 115)), some (.inl (w 115 27)), some (.inl x1), some (.inl (w5 115 24))]) dX9_readFactor_152 (Nat.le_of_ble_eq_true rfl) rfl ?_
          exact h
      · have h := h.2 hc
        refine WA.aload_n dX9_readFactor_129 rfl (by decide) ?_
        refine WA.dup dX9_readFactor_130 rfl ?_
        refine gfX9_116 rfl dX9_readFactor_131 ob_115 ?_
        refine WA.iconst dX9_readFactor_134 ⟨by decide, by decide⟩ ?_
        obtain ⟨s4, h⟩ := h
        refine WA.iadd dX9_readFactor_135 s4 ?_
        obtain ⟨w9, qw9⟩ : ∃ z, z = wset w4 115 24 ((w4 115 24) + 1) := ⟨_, rfl⟩
        have h := h w9 qw9
        refine pfX9_116 rfl dX9_readFactor_136 ob_115 ?_
        rw [← qw9]
        refine WA.iconst dX9_readFactor_139 ⟨by decide, by decide⟩ ?_
        exact WA.zreturn dX9_readFactor_140 (by decide) ⟨_, rfl, h⟩
    · have h := h.2 hc
      refine WA.aload_n dX9_readFactor_63 rfl (by decide) ?_
      refine gfX9_116 rfl dX9_readFactor_64 ob_115 ?_
      refine WA.iconst dX9_readFactor_67 ⟨by decide, by decide⟩ ?_
      obtain ⟨s5, h⟩ := h
      refine WA.iadd dX9_readFactor_68 s5 ?_
      refine WA.aload_n dX9_readFactor_69 rfl (by decide) ?_
      refine gfX9_112 rfl dX9_readFactor_70 ob_115 ?_
      refine WA.icmp_ge (tgt := 123) dX9_readFactor_73 (by decide) (fun hc => ?_) (fun hc => ?_)
      · have h := h.1 hc
        refine WA.iload_n dX9_readFactor_123 rfl ?_
        refine WA.bipush dX9_readFactor_124 ⟨by decide, by decide⟩ ?_
        refine WA.icmp_ne (tgt := 141) dX9_readFactor_126 (by decide) (fun hc => ?_) (fun hc => ?_)
        · have h := h.1 hc
          refine WA.iload_n dX9_readFactor_141 rfl ?_
          obtain ⟨d1, hd1, h⟩ := h
          refine WA.callS1 (kc := 0) (ks := 0) (kc' := 0) (ks' := 0) dX9_readFactor_142 lkX9_185 rfl rfl rfl (Nat.le_of_ble_eq_true rfl) hd1 h (fun r w10 hK => ?_)
          obtain ⟨x5, rfl, h⟩ := hK
          change WA _ _ _ _ _ _ _ _ _ _ _ [.inl x5] _ _
          refine WA.if_eq (tgt := 194) dX9_readFactor_145 (by decide) (fun hc => ?_) (fun hc => ?_)
          · have h := h.1 hc
            refine WA.iload_n dX9_readFactor_194 rfl ?_
            refine WA.bipush dX9_readFactor_195 ⟨by decide, by decide⟩ ?_
            refine WA.icmp_ne (tgt := 217) dX9_readFactor_197 (by decide) (fun hc => ?_) (fun hc => ?_)
            · have h := h.1 hc
              refine WA.aload_n dX9_readFactor_217 rfl (by decide) ?_
              obtain ⟨d1, hd1, h⟩ := h
              refine WA.callV0 (kc := 0) (ks := 0) (kc' := 0) (ks' := 0) dX9_readFactor_218 lkX9_188 rfl rfl rfl ob_115 rfl (Nat.le_of_ble_eq_true rfl) hd1 h (fun r w11 hK => ?_)
              obtain ⟨x6, rfl, h⟩ := hK
              change WA _ _ _ _ _ _ _ _ _ _ _ [.inl x6] _ _
              obtain ⟨s6, h⟩ := h
              exact WA.zreturn dX9_readFactor_221 s6 ⟨_, rfl, h⟩
            · have h := h.2 hc
              refine WA.aload_n dX9_readFactor_200 rfl (by decide) ?_
              refine WA.dup dX9_readFactor_201 rfl ?_
              refine gfX9_116 rfl dX9_readFactor_202 ob_115 ?_
              refine WA.iconst dX9_readFactor_205 ⟨by decide, by decide⟩ ?_
              obtain ⟨s7, h⟩ := h
              refine WA.iadd dX9_readFactor_206 s7 ?_
              obtain ⟨w12, qw12⟩ : ∃ z, z = wset w10 115 24 ((w10 115 24) + 1) := ⟨_, rfl⟩
              have h := h w12 qw12
              refine pfX9_116 rfl dX9_readFactor_207 ob_115 ?_
              rw [← qw12]
              refine WA.aload_n dX9_readFactor_210 rfl (by decide) ?_
              refine WA.iconst dX9_readFactor_211 ⟨by decide, by decide⟩ ?_
              obtain ⟨d1, hd1, h⟩ := h
              refine WA.callV1 (kc := 0) (ks := 0) (kc' := 0) (ks' := 0) dX9_readFactor_212 lkX9_168 rfl rfl rfl ob_115 rfl (Nat.le_of_ble_eq_true rfl) hd1 h (fun r w13 hK => ?_)
              obtain ⟨rfl, h⟩ := hK
              change WA _ _ _ _ _ _ _ _ _ _ _ [] _ _
              refine WA.iconst dX9_readFactor_215 ⟨by decide, by decide⟩ ?_
              exact WA.zreturn dX9_readFactor_216 (by decide) ⟨_, rfl, h⟩
          · have h := h.2 hc
            refine WA.aload_n dX9_readFactor_148 rfl (by decide) ?_
            refine gfX9_116 rfl dX9_readFactor_149 ob_115 ?_
            refine WA.istore_n (als' := [some (.inr (.inr 115)), some (.inl (w 115 27)), some (.inl x1), some (.inl (w10 115 24))]) dX9_readFactor_152 (Nat.le_of_ble_eq_true rfl) rfl ?_
            exact h
        · have h := h.2 hc
          refine WA.aload_n dX9_readFactor_129 rfl (by decide) ?_
          refine WA.dup dX9_readFactor_130 rfl ?_
          refine gfX9_116 rfl dX9_readFactor_131 ob_115 ?_
          refine WA.iconst dX9_readFactor_134 ⟨by decide, by decide⟩ ?_
          obtain ⟨s8, h⟩ := h
          refine WA.iadd dX9_readFactor_135 s8 ?_
          obtain ⟨w14, qw14⟩ : ∃ z, z = wset w4 115 24 ((w4 115 24) + 1) := ⟨_, rfl⟩
          have h := h w14 qw14
          refine pfX9_116 rfl dX9_readFactor_136 ob_115 ?_
          rw [← qw14]
          refine WA.iconst dX9_readFactor_139 ⟨by decide, by decide⟩ ?_
          exact WA.zreturn dX9_readFactor_140 (by decide) ⟨_, rfl, h⟩
      · have h := h.2 hc
        refine WA.aload_n dX9_readFactor_76 rfl (by decide) ?_
        refine gxX9_16 rfl rfl dX9_readFactor_77 ob_115 ?_
        refine WA.aload_n dX9_readFactor_80 rfl (by decide) ?_
        refine gfX9_116 rfl dX9_readFactor_81 ob_115 ?_
        refine WA.iconst dX9_readFactor_84 ⟨by decide, by decide⟩ ?_
        obtain ⟨s9, h⟩ := h
        refine WA.iadd dX9_readFactor_85 s9 ?_
        obtain ⟨s10, h⟩ := h
        refine WA.iaload dX9_readFactor_86 ob_118 s10.1 s10.2 ?_
        refine WA.bipush dX9_readFactor_87 ⟨by decide, by decide⟩ ?_
        refine WA.bipush dX9_readFactor_89 ⟨by decide, by decide⟩ ?_
        obtain ⟨d1, hd1, h⟩ := h
        refine WA.callS3 (kc := 0) (ks := 0) (kc' := 0) (ks' := 0) dX9_readFactor_91 lkX9_104 rfl rfl rfl (Nat.le_of_ble_eq_true rfl) hd1 h (fun r w15 hK => ?_)
        obtain ⟨x7, rfl, h⟩ := hK
        change WA _ _ _ _ _ _ _ _ _ _ _ [.inl x7] _ _
        refine WA.if_eq (tgt := 123) dX9_readFactor_94 (by decide) (fun hc => ?_) (fun hc => ?_)
        · have h := h.1 hc
          refine WA.iload_n dX9_readFactor_123 rfl ?_
          refine WA.bipush dX9_readFactor_124 ⟨by decide, by decide⟩ ?_
          refine WA.icmp_ne (tgt := 141) dX9_readFactor_126 (by decide) (fun hc => ?_) (fun hc => ?_)
          · have h := h.1 hc
            refine WA.iload_n dX9_readFactor_141 rfl ?_
            obtain ⟨d1, hd1, h⟩ := h
            refine WA.callS1 (kc := 0) (ks := 0) (kc' := 0) (ks' := 0) dX9_readFactor_142 lkX9_185 rfl rfl rfl (Nat.le_of_ble_eq_true rfl) hd1 h (fun r w16 hK => ?_)
            obtain ⟨x8, rfl, h⟩ := hK
            change WA _ _ _ _ _ _ _ _ _ _ _ [.inl x8] _ _
            refine WA.if_eq (tgt := 194) dX9_readFactor_145 (by decide) (fun hc => ?_) (fun hc => ?_)
            · have h := h.1 hc
              refine WA.iload_n dX9_readFactor_194 rfl ?_
              refine WA.bipush dX9_readFactor_195 ⟨by decide, by decide⟩ ?_
              refine WA.icmp_ne (tgt := 217) dX9_readFactor_197 (by decide) (fun hc => ?_) (fun hc => ?_)
              · have h := h.1 hc
                refine WA.aload_n dX9_readFactor_217 rfl (by decide) ?_
                obtain ⟨d1, hd1, h⟩ := h
                refine WA.callV0 (kc := 0) (ks := 0) (kc' := 0) (ks' := 0) dX9_readFactor_218 lkX9_188 rfl rfl rfl ob_115 rfl (Nat.le_of_ble_eq_true rfl) hd1 h (fun r w17 hK => ?_)
                obtain ⟨x9, rfl, h⟩ := hK
                change WA _ _ _ _ _ _ _ _ _ _ _ [.inl x9] _ _
                obtain ⟨s11, h⟩ := h
                exact WA.zreturn dX9_readFactor_221 s11 ⟨_, rfl, h⟩
              · have h := h.2 hc
                refine WA.aload_n dX9_readFactor_200 rfl (by decide) ?_
                refine WA.dup dX9_readFactor_201 rfl ?_
                refine gfX9_116 rfl dX9_readFactor_202 ob_115 ?_
                refine WA.iconst dX9_readFactor_205 ⟨by decide, by decide⟩ ?_
                obtain ⟨s12, h⟩ := h
                refine WA.iadd dX9_readFactor_206 s12 ?_
                obtain ⟨w18, qw18⟩ : ∃ z, z = wset w16 115 24 ((w16 115 24) + 1) := ⟨_, rfl⟩
                have h := h w18 qw18
                refine pfX9_116 rfl dX9_readFactor_207 ob_115 ?_
                rw [← qw18]
                refine WA.aload_n dX9_readFactor_210 rfl (by decide) ?_
                refine WA.iconst dX9_readFactor_211 ⟨by decide, by decide⟩ ?_
                obtain ⟨d1, hd1, h⟩ := h
                refine WA.callV1 (kc := 0) (ks := 0) (kc' := 0) (ks' := 0) dX9_readFactor_212 lkX9_168 rfl rfl rfl ob_115 rfl (Nat.le_of_ble_eq_true rfl) hd1 h (fun r w19 hK => ?_)
                obtain ⟨rfl, h⟩ := hK
                change WA _ _ _ _ _ _ _ _ _ _ _ [] _ _
                refine WA.iconst dX9_readFactor_215 ⟨by decide, by decide⟩ ?_
                exact WA.zreturn dX9_readFactor_216 (by decide) ⟨_, rfl, h⟩
            · have h := h.2 hc
              refine WA.aload_n dX9_readFactor_148 rfl (by decide) ?_
              refine gfX9_116 rfl dX9_readFactor_149 ob_115 ?_
              refine WA.istore_n (als' := [some (.inr (.inr 115)), some (.inl (w 115 27)), some (.inl x1), some (.inl (w16 115 24))]) dX9_readFactor_152 (Nat.le_of_ble_eq_true rfl) rfl ?_
              exact h
          · have h := h.2 hc
            refine WA.aload_n dX9_readFactor_129 rfl (by decide) ?_
            refine WA.dup dX9_readFactor_130 rfl ?_
            refine gfX9_116 rfl dX9_readFactor_131 ob_115 ?_
            refine WA.iconst dX9_readFactor_134 ⟨by decide, by decide⟩ ?_
            obtain ⟨s13, h⟩ := h
            refine WA.iadd dX9_readFactor_135 s13 ?_
            obtain ⟨w20, qw20⟩ : ∃ z, z = wset w15 115 24 ((w15 115 24) + 1) := ⟨_, rfl⟩
            have h := h w20 qw20
            refine pfX9_116 rfl dX9_readFactor_136 ob_115 ?_
            rw [← qw20]
            refine WA.iconst dX9_readFactor_139 ⟨by decide, by decide⟩ ?_
            exact WA.zreturn dX9_readFactor_140 (by decide) ⟨_, rfl, h⟩
        · have h := h.2 hc
          refine WA.aload_n dX9_readFactor_97 rfl (by decide) ?_
          refine WA.iconst dX9_readFactor_98 ⟨by decide, by decide⟩ ?_
          obtain ⟨w21, qw21⟩ : ∃ z, z = wset w15 115 26 0 := ⟨_, rfl⟩
          have h := h w21 qw21
          refine pfX9_182 rfl dX9_readFactor_99 ob_115 (by decide) ?_
          rw [← qw21]
          refine WA.iload_n dX9_readFactor_102 rfl ?_
          refine WA.if_eq (tgt := 111) dX9_readFactor_103 (by decide) (fun hc => ?_) (fun hc => ?_)
          · have h := h.1 hc
            refine WA.aload_n dX9_readFactor_111 rfl (by decide) ?_
            refine WA.dup dX9_readFactor_112 rfl ?_
            refine gfX9_116 rfl dX9_readFactor_113 ob_115 ?_
            refine WA.iconst dX9_readFactor_116 ⟨by decide, by decide⟩ ?_
            obtain ⟨s14, h⟩ := h
            refine WA.iadd dX9_readFactor_117 s14 ?_
            obtain ⟨w22, qw22⟩ : ∃ z, z = wset w21 115 24 ((w21 115 24) + 2) := ⟨_, rfl⟩
            have h := h w22 qw22
            refine pfX9_116 rfl dX9_readFactor_118 ob_115 ?_
            rw [← qw22]
            refine WA.iconst dX9_readFactor_121 ⟨by decide, by decide⟩ ?_
            exact WA.zreturn dX9_readFactor_122 (by decide) ⟨_, rfl, h⟩
          · have h := h.2 hc
            refine WA.aload_n dX9_readFactor_106 rfl (by decide) ?_
            obtain ⟨d1, hd1, h⟩ := h
            refine WA.callV0 (kc := 0) (ks := 0) (kc' := 0) (ks' := 0) dX9_readFactor_107 lkX9_178 rfl rfl rfl ob_115 rfl (Nat.le_of_ble_eq_true rfl) hd1 h (fun r w23 hK => ?_)
            obtain ⟨x10, rfl, h⟩ := hK
            change WA _ _ _ _ _ _ _ _ _ _ _ [.inl x10] _ _
            obtain ⟨s15, h⟩ := h
            exact WA.zreturn dX9_readFactor_110 s15 ⟨_, rfl, h⟩
  · have h := h.2 hc
    refine WA.aload_n dX9_readFactor_14 rfl (by decide) ?_
    obtain ⟨d1, hd1, h⟩ := h
    refine WA.callV0 (kc := 0) (ks := 0) (kc' := 0) (ks' := 0) dX9_readFactor_15 lkX9_178 rfl rfl rfl ob_115 rfl (Nat.le_of_ble_eq_true rfl) hd1 h (fun r w24 hK => ?_)
    obtain ⟨x11, rfl, h⟩ := hK
    change WA _ _ _ _ _ _ _ _ _ _ _ [.inl x11] _ _
    refine WA.istore_n (als' := [some (.inr (.inr 115)), some (.inl x11), none, none]) dX9_readFactor_18 (Nat.le_of_ble_eq_true rfl) rfl ?_
    refine WA.aload_n dX9_readFactor_19 rfl (by decide) ?_
    refine WA.iconst dX9_readFactor_20 ⟨by decide, by decide⟩ ?_
    obtain ⟨w25, qw25⟩ : ∃ z, z = wset w24 115 25 1 := ⟨_, rfl⟩
    have h := h w25 qw25
    refine pfX9_130 rfl dX9_readFactor_21 ob_115 (by decide) ?_
    rw [← qw25]
    refine WA.aload_n dX9_readFactor_24 rfl (by decide) ?_
    refine WA.iconst dX9_readFactor_25 ⟨by decide, by decide⟩ ?_
    obtain ⟨w26, qw26⟩ : ∃ z, z = wset w25 115 27 0 := ⟨_, rfl⟩
    have h := h w26 qw26
    refine pfX9_175 rfl dX9_readFactor_26 ob_115 (by decide) ?_
    rw [← qw26]
    refine WA.aload_n dX9_readFactor_29 rfl (by decide) ?_
    refine WA.iconst dX9_readFactor_30 ⟨by decide, by decide⟩ ?_
    obtain ⟨w27, qw27⟩ : ∃ z, z = wset w26 115 26 0 := ⟨_, rfl⟩
    have h := h w27 qw27
    refine pfX9_182 rfl dX9_readFactor_31 ob_115 (by decide) ?_
    rw [← qw27]
    refine WA.iload_n dX9_readFactor_34 rfl ?_
    obtain ⟨s16, h⟩ := h
    exact WA.zreturn dX9_readFactor_35 s16 ⟨_, rfl, h⟩
set_option maxRecDepth 10000 in
theorem e_X9_mostParts {d : Nat} {w : Wd} {K : Int → Wd → Prop} {a1 : Int}  
    (h : ((¬ a1 = 2 → ((¬ a1 = 3 → C_X9_in d [.inl a1, .inl 4, .inl 6] w (fun x1 w1 => ((x1 = 0 → C_X9_hasParts d [.inl a1] w1 (fun x2 w2 => ((x2 = 0 → K 0 w2) ∧ (¬ x2 = 0 → K 3 w2)))) ∧ (¬ x1 = 0 → K 1 w1)))) ∧ (a1 = 3 → K 4 w))) ∧ (a1 = 2 → K 2 w))) :
    E_X9_mostParts d [.inl a1] w K := by
  refine EvA.of (by decide +kernel) (Nat.le_of_ble_eq_true rfl) ?_
  change W_X9_mostParts d 0 [some (.inl a1)] [] w K
  refine WA.iload_n dX9_mostParts_0 rfl ?_
  refine WA.iconst dX9_mostParts_1 ⟨by decide, by decide⟩ ?_
  refine WA.icmp_ne (tgt := 9) dX9_mostParts_2 (by decide) (fun hc => ?_) (fun hc => ?_)
  · have h := h.1 hc
    refine WA.iload_n dX9_mostParts_9 rfl ?_
    refine WA.iconst dX9_mostParts_10 ⟨by decide, by decide⟩ ?_
    refine WA.icmp_ne (tgt := 18) dX9_mostParts_11 (by decide) (fun hc => ?_) (fun hc => ?_)
    · have h := h.1 hc
      refine WA.iload_n dX9_mostParts_18 rfl ?_
      refine WA.iconst dX9_mostParts_19 ⟨by decide, by decide⟩ ?_
      refine WA.bipush dX9_mostParts_20 ⟨by decide, by decide⟩ ?_
      obtain ⟨d1, hd1, h⟩ := h
      refine WA.callS3 (kc := 0) (ks := 0) (kc' := 0) (ks' := 0) dX9_mostParts_22 lkX9_104 rfl rfl rfl (Nat.le_of_ble_eq_true rfl) hd1 h (fun r w1 hK => ?_)
      obtain ⟨x1, rfl, h⟩ := hK
      change WA _ _ _ _ _ _ _ _ _ _ _ [.inl x1] _ _
      refine WA.if_eq (tgt := 32) dX9_mostParts_25 (by decide) (fun hc => ?_) (fun hc => ?_)
      · have h := h.1 hc
        refine WA.iload_n dX9_mostParts_32 rfl ?_
        obtain ⟨d1, hd1, h⟩ := h
        refine WA.callS1 (kc := 0) (ks := 0) (kc' := 0) (ks' := 0) dX9_mostParts_33 lkX9_172 rfl rfl rfl (Nat.le_of_ble_eq_true rfl) hd1 h (fun r w2 hK => ?_)
        obtain ⟨x2, rfl, h⟩ := hK
        change WA _ _ _ _ _ _ _ _ _ _ _ [.inl x2] _ _
        refine WA.if_eq (tgt := 43) dX9_mostParts_36 (by decide) (fun hc => ?_) (fun hc => ?_)
        · have h := h.1 hc
          refine WA.iconst dX9_mostParts_43 ⟨by decide, by decide⟩ ?_
          exact WA.ireturn dX9_mostParts_44 ⟨_, rfl, h⟩
        · have h := h.2 hc
          refine WA.iconst dX9_mostParts_39 ⟨by decide, by decide⟩ ?_
          refine WA.goto (tgt := 44) dX9_mostParts_40 (by decide) ?_
          exact WA.ireturn dX9_mostParts_44 ⟨_, rfl, h⟩
      · have h := h.2 hc
        refine WA.iconst dX9_mostParts_28 ⟨by decide, by decide⟩ ?_
        refine WA.goto (tgt := 44) dX9_mostParts_29 (by decide) ?_
        exact WA.ireturn dX9_mostParts_44 ⟨_, rfl, h⟩
    · have h := h.2 hc
      refine WA.iconst dX9_mostParts_14 ⟨by decide, by decide⟩ ?_
      refine WA.goto (tgt := 44) dX9_mostParts_15 (by decide) ?_
      exact WA.ireturn dX9_mostParts_44 ⟨_, rfl, h⟩
  · have h := h.2 hc
    refine WA.iconst dX9_mostParts_5 ⟨by decide, by decide⟩ ?_
    refine WA.goto (tgt := 44) dX9_mostParts_6 (by decide) ?_
    exact WA.ireturn dX9_mostParts_44 ⟨_, rfl, h⟩
set_option maxRecDepth 10000 in
theorem e_X9_mayClose {d : Nat} {w : Wd} {K : Int → Wd → Prop} {a1 a2 : Int}  
    (h : ((a1 = 1 → K 1 w) ∧ (¬ a1 = 1 → C_X9_hasParts d [.inl a1] w (fun x1 w1 => ((¬ x1 = 0 → K 1 w1) ∧ (x1 = 0 → ((¬ a1 = 2 → ((¬ a1 = 3 → C_X9_in d [.inl a1, .inl 4, .inl 6] w1 (fun x2 w2 => ((x2 = 0 → K 0 w2) ∧ (¬ x2 = 0 → ((¬ a2 = 1 → K 0 w2) ∧ (a2 = 1 → K 1 w2)))))) ∧ (a1 = 3 → ((0 < a2 → K 1 w1) ∧ (¬ (0 < a2) → C_X9_in d [.inl a1, .inl 4, .inl 6] w1 (fun x3 w3 => ((x3 = 0 → K 0 w3) ∧ (¬ x3 = 0 → ((¬ a2 = 1 → K 0 w3) ∧ (a2 = 1 → K 1 w3)))))))))) ∧ (a1 = 2 → ((a2 = 2 → K 1 w1) ∧ (¬ a2 = 2 → ((¬ a1 = 3 → C_X9_in d [.inl a1, .inl 4, .inl 6] w1 (fun x4 w4 => ((x4 = 0 → K 0 w4) ∧ (¬ x4 = 0 → ((¬ a2 = 1 → K 0 w4) ∧ (a2 = 1 → K 1 w4)))))) ∧ (a1 = 3 → ((0 < a2 → K 1 w1) ∧ (¬ (0 < a2) → C_X9_in d [.inl a1, .inl 4, .inl 6] w1 (fun x5 w5 => ((x5 = 0 → K 0 w5) ∧ (¬ x5 = 0 → ((¬ a2 = 1 → K 0 w5) ∧ (a2 = 1 → K 1 w5))))))))))))))))))) :
    E_X9_mayClose d [.inl a1, .inl a2] w K := by
  refine EvA.of (by decide +kernel) (Nat.le_of_ble_eq_true rfl) ?_
  change W_X9_mayClose d 0 [some (.inl a1), some (.inl a2)] [] w K
  refine WA.iload_n dX9_mayClose_0 rfl ?_
  refine WA.iconst dX9_mayClose_1 ⟨by decide, by decide⟩ ?_
  refine WA.icmp_eq (tgt := 46) dX9_mayClose_2 (by decide) (fun hc => ?_) (fun hc => ?_)
  · have h := h.1 hc
    refine WA.iconst dX9_mayClose_46 ⟨by decide, by decide⟩ ?_
    refine WA.goto (tgt := 51) dX9_mayClose_47 (by decide) ?_
    exact WA.zreturn dX9_mayClose_51 (by decide) ⟨_, rfl, h⟩
  · have h := h.2 hc
    refine WA.iload_n dX9_mayClose_5 rfl ?_
    obtain ⟨d1, hd1, h⟩ := h
    refine WA.callS1 (kc := 0) (ks := 0) (kc' := 0) (ks' := 0) dX9_mayClose_6 lkX9_172 rfl rfl rfl (Nat.le_of_ble_eq_true rfl) hd1 h (fun r w1 hK => ?_)
    obtain ⟨x1, rfl, h⟩ := hK
    change WA _ _ _ _ _ _ _ _ _ _ _ [.inl x1] _ _
    refine WA.if_ne (tgt := 46) dX9_mayClose_9 (by decide) (fun hc => ?_) (fun hc => ?_)
    · have h := h.1 hc
      refine WA.iconst dX9_mayClose_46 ⟨by decide, by decide⟩ ?_
      refine WA.goto (tgt := 51) dX9_mayClose_47 (by decide) ?_
      exact WA.zreturn dX9_mayClose_51 (by decide) ⟨_, rfl, h⟩
    · have h := h.2 hc
      refine WA.iload_n dX9_mayClose_12 rfl ?_
      refine WA.iconst dX9_mayClose_13 ⟨by decide, by decide⟩ ?_
      refine WA.icmp_ne (tgt := 22) dX9_mayClose_14 (by decide) (fun hc => ?_) (fun hc => ?_)
      · have h := h.1 hc
        refine WA.iload_n dX9_mayClose_22 rfl ?_
        refine WA.iconst dX9_mayClose_23 ⟨by decide, by decide⟩ ?_
        refine WA.icmp_ne (tgt := 31) dX9_mayClose_24 (by decide) (fun hc => ?_) (fun hc => ?_)
        · have h := h.1 hc
          refine WA.iload_n dX9_mayClose_31 rfl ?_
          refine WA.iconst dX9_mayClose_32 ⟨by decide, by decide⟩ ?_
          refine WA.bipush dX9_mayClose_33 ⟨by decide, by decide⟩ ?_
          obtain ⟨d1, hd1, h⟩ := h
          refine WA.callS3 (kc := 0) (ks := 0) (kc' := 0) (ks' := 0) dX9_mayClose_35 lkX9_104 rfl rfl rfl (Nat.le_of_ble_eq_true rfl) hd1 h (fun r w2 hK => ?_)
          obtain ⟨x2, rfl, h⟩ := hK
          change WA _ _ _ _ _ _ _ _ _ _ _ [.inl x2] _ _
          refine WA.if_eq (tgt := 50) dX9_mayClose_38 (by decide) (fun hc => ?_) (fun hc => ?_)
          · have h := h.1 hc
            refine WA.iconst dX9_mayClose_50 ⟨by decide, by decide⟩ ?_
            exact WA.zreturn dX9_mayClose_51 (by decide) ⟨_, rfl, h⟩
          · have h := h.2 hc
            refine WA.iload_n dX9_mayClose_41 rfl ?_
            refine WA.iconst dX9_mayClose_42 ⟨by decide, by decide⟩ ?_
            refine WA.icmp_ne (tgt := 50) dX9_mayClose_43 (by decide) (fun hc => ?_) (fun hc => ?_)
            · have h := h.1 hc
              refine WA.iconst dX9_mayClose_50 ⟨by decide, by decide⟩ ?_
              exact WA.zreturn dX9_mayClose_51 (by decide) ⟨_, rfl, h⟩
            · have h := h.2 hc
              refine WA.iconst dX9_mayClose_46 ⟨by decide, by decide⟩ ?_
              refine WA.goto (tgt := 51) dX9_mayClose_47 (by decide) ?_
              exact WA.zreturn dX9_mayClose_51 (by decide) ⟨_, rfl, h⟩
        · have h := h.2 hc
          refine WA.iload_n dX9_mayClose_27 rfl ?_
          refine WA.if_gt (tgt := 46) dX9_mayClose_28 (by decide) (fun hc => ?_) (fun hc => ?_)
          · have h := h.1 hc
            refine WA.iconst dX9_mayClose_46 ⟨by decide, by decide⟩ ?_
            refine WA.goto (tgt := 51) dX9_mayClose_47 (by decide) ?_
            exact WA.zreturn dX9_mayClose_51 (by decide) ⟨_, rfl, h⟩
          · have h := h.2 hc
            refine WA.iload_n dX9_mayClose_31 rfl ?_
            refine WA.iconst dX9_mayClose_32 ⟨by decide, by decide⟩ ?_
            refine WA.bipush dX9_mayClose_33 ⟨by decide, by decide⟩ ?_
            obtain ⟨d1, hd1, h⟩ := h
            refine WA.callS3 (kc := 0) (ks := 0) (kc' := 0) (ks' := 0) dX9_mayClose_35 lkX9_104 rfl rfl rfl (Nat.le_of_ble_eq_true rfl) hd1 h (fun r w3 hK => ?_)
            obtain ⟨x3, rfl, h⟩ := hK
            change WA _ _ _ _ _ _ _ _ _ _ _ [.inl x3] _ _
            refine WA.if_eq (tgt := 50) dX9_mayClose_38 (by decide) (fun hc => ?_) (fun hc => ?_)
            · have h := h.1 hc
              refine WA.iconst dX9_mayClose_50 ⟨by decide, by decide⟩ ?_
              exact WA.zreturn dX9_mayClose_51 (by decide) ⟨_, rfl, h⟩
            · have h := h.2 hc
              refine WA.iload_n dX9_mayClose_41 rfl ?_
              refine WA.iconst dX9_mayClose_42 ⟨by decide, by decide⟩ ?_
              refine WA.icmp_ne (tgt := 50) dX9_mayClose_43 (by decide) (fun hc => ?_) (fun hc => ?_)
              · have h := h.1 hc
                refine WA.iconst dX9_mayClose_50 ⟨by decide, by decide⟩ ?_
                exact WA.zreturn dX9_mayClose_51 (by decide) ⟨_, rfl, h⟩
              · have h := h.2 hc
                refine WA.iconst dX9_mayClose_46 ⟨by decide, by decide⟩ ?_
                refine WA.goto (tgt := 51) dX9_mayClose_47 (by decide) ?_
                exact WA.zreturn dX9_mayClose_51 (by decide) ⟨_, rfl, h⟩
      · have h := h.2 hc
        refine WA.iload_n dX9_mayClose_17 rfl ?_
        refine WA.iconst dX9_mayClose_18 ⟨by decide, by decide⟩ ?_
        refine WA.icmp_eq (tgt := 46) dX9_mayClose_19 (by decide) (fun hc => ?_) (fun hc => ?_)
        · have h := h.1 hc
          refine WA.iconst dX9_mayClose_46 ⟨by decide, by decide⟩ ?_
          refine WA.goto (tgt := 51) dX9_mayClose_47 (by decide) ?_
          exact WA.zreturn dX9_mayClose_51 (by decide) ⟨_, rfl, h⟩
        · have h := h.2 hc
          refine WA.iload_n dX9_mayClose_22 rfl ?_
          refine WA.iconst dX9_mayClose_23 ⟨by decide, by decide⟩ ?_
          refine WA.icmp_ne (tgt := 31) dX9_mayClose_24 (by decide) (fun hc => ?_) (fun hc => ?_)
          · have h := h.1 hc
            refine WA.iload_n dX9_mayClose_31 rfl ?_
            refine WA.iconst dX9_mayClose_32 ⟨by decide, by decide⟩ ?_
            refine WA.bipush dX9_mayClose_33 ⟨by decide, by decide⟩ ?_
            obtain ⟨d1, hd1, h⟩ := h
            refine WA.callS3 (kc := 0) (ks := 0) (kc' := 0) (ks' := 0) dX9_mayClose_35 lkX9_104 rfl rfl rfl (Nat.le_of_ble_eq_true rfl) hd1 h (fun r w4 hK => ?_)
            obtain ⟨x4, rfl, h⟩ := hK
            change WA _ _ _ _ _ _ _ _ _ _ _ [.inl x4] _ _
            refine WA.if_eq (tgt := 50) dX9_mayClose_38 (by decide) (fun hc => ?_) (fun hc => ?_)
            · have h := h.1 hc
              refine WA.iconst dX9_mayClose_50 ⟨by decide, by decide⟩ ?_
              exact WA.zreturn dX9_mayClose_51 (by decide) ⟨_, rfl, h⟩
            · have h := h.2 hc
              refine WA.iload_n dX9_mayClose_41 rfl ?_
              refine WA.iconst dX9_mayClose_42 ⟨by decide, by decide⟩ ?_
              refine WA.icmp_ne (tgt := 50) dX9_mayClose_43 (by decide) (fun hc => ?_) (fun hc => ?_)
              · have h := h.1 hc
                refine WA.iconst dX9_mayClose_50 ⟨by decide, by decide⟩ ?_
                exact WA.zreturn dX9_mayClose_51 (by decide) ⟨_, rfl, h⟩
              · have h := h.2 hc
                refine WA.iconst dX9_mayClose_46 ⟨by decide, by decide⟩ ?_
                refine WA.goto (tgt := 51) dX9_mayClose_47 (by decide) ?_
                exact WA.zreturn dX9_mayClose_51 (by decide) ⟨_, rfl, h⟩
          · have h := h.2 hc
            refine WA.iload_n dX9_mayClose_27 rfl ?_
            refine WA.if_gt (tgt := 46) dX9_mayClose_28 (by decide) (fun hc => ?_) (fun hc => ?_)
            · have h := h.1 hc
              refine WA.iconst dX9_mayClose_46 ⟨by decide, by decide⟩ ?_
              refine WA.goto (tgt := 51) dX9_mayClose_47 (by decide) ?_
              exact WA.zreturn dX9_mayClose_51 (by decide) ⟨_, rfl, h⟩
            · have h := h.2 hc
              refine WA.iload_n dX9_mayClose_31 rfl ?_
              refine WA.iconst dX9_mayClose_32 ⟨by decide, by decide⟩ ?_
              refine WA.bipush dX9_mayClose_33 ⟨by decide, by decide⟩ ?_
              obtain ⟨d1, hd1, h⟩ := h
              refine WA.callS3 (kc := 0) (ks := 0) (kc' := 0) (ks' := 0) dX9_mayClose_35 lkX9_104 rfl rfl rfl (Nat.le_of_ble_eq_true rfl) hd1 h (fun r w5 hK => ?_)
              obtain ⟨x5, rfl, h⟩ := hK
              change WA _ _ _ _ _ _ _ _ _ _ _ [.inl x5] _ _
              refine WA.if_eq (tgt := 50) dX9_mayClose_38 (by decide) (fun hc => ?_) (fun hc => ?_)
              · have h := h.1 hc
                refine WA.iconst dX9_mayClose_50 ⟨by decide, by decide⟩ ?_
                exact WA.zreturn dX9_mayClose_51 (by decide) ⟨_, rfl, h⟩
              · have h := h.2 hc
                refine WA.iload_n dX9_mayClose_41 rfl ?_
                refine WA.iconst dX9_mayClose_42 ⟨by decide, by decide⟩ ?_
                refine WA.icmp_ne (tgt := 50) dX9_mayClose_43 (by decide) (fun hc => ?_) (fun hc => ?_)
                · have h := h.1 hc
                  refine WA.iconst dX9_mayClose_50 ⟨by decide, by decide⟩ ?_
                  exact WA.zreturn dX9_mayClose_51 (by decide) ⟨_, rfl, h⟩
                · have h := h.2 hc
                  refine WA.iconst dX9_mayClose_46 ⟨by decide, by decide⟩ ?_
                  refine WA.goto (tgt := 51) dX9_mayClose_47 (by decide) ?_
                  exact WA.zreturn dX9_mayClose_51 (by decide) ⟨_, rfl, h⟩
set_option maxRecDepth 10000 in
theorem e_X9_readBehind {d : Nat} {w : Wd} {K : Int → Wd → Prop}  
    (h : C_X9_here d [.inr (.inr 115)] w (fun x1 w1 => (0 ≤ (w1 115 23) ∧ (w1 115 23) < 40) ∧ ((x1 = 42 → (((w1 115 25) = 0 → (-2147483648 ≤ ((w1 115 24) + 1) ∧ ((w1 115 24) + 1) ≤ 2147483647) ∧ (∀ w2, w2 = wset w1 115 24 ((w1 115 24) + 1) → (∀ w3, w3 = wset w2 115 26 1 → K 1 w3))) ∧ (¬ (w1 115 25) = 0 → K 0 w1))) ∧ (¬ x1 = 42 → ((x1 = 43 → (((w1 115 25) = 0 → (-2147483648 ≤ ((w1 115 24) + 1) ∧ ((w1 115 24) + 1) ≤ 2147483647) ∧ (∀ w4, w4 = wset w1 115 24 ((w1 115 24) + 1) → (∀ w5, w5 = wset w4 115 26 1 → K 1 w5))) ∧ (¬ (w1 115 25) = 0 → K 0 w1))) ∧ (¬ x1 = 43 → ((¬ x1 = 45 → ((¬ x1 = 44 → ((¬ x1 = 41 → K 0 w1) ∧ (x1 = 41 → (0 ≤ (w1 115 23) ∧ (w1 115 23) < 40) ∧ C_X9_mayClose d [.inl (w1 133 (w1 115 23)), .inl (w1 134 (w1 115 23))] w1 (fun x2 w6 => ((x2 = 0 → K 0 w6) ∧ (¬ x2 = 0 → (-2147483648 ≤ ((w6 115 24) + 1) ∧ ((w6 115 24) + 1) ≤ 2147483647) ∧ (∀ w7, w7 = wset w6 115 24 ((w6 115 24) + 1) → (-2147483648 ≤ ((w7 115 23) - 1) ∧ ((w7 115 23) - 1) ≤ 2147483647) ∧ (∀ w8, w8 = wset w7 115 23 ((w7 115 23) - 1) → (∀ w9, w9 = wset w8 115 25 0 → K 1 w9))))))))) ∧ (x1 = 44 → (0 ≤ (w1 115 23) ∧ (w1 115 23) < 40) ∧ C_X9_mostParts d [.inl (w1 133 (w1 115 23))] w1 (fun x3 w10 => ((x3 ≤ (w1 134 (w1 115 23)) → ((¬ x1 = 41 → K 0 w10) ∧ (x1 = 41 → (0 ≤ (w10 115 23) ∧ (w10 115 23) < 40) ∧ C_X9_mayClose d [.inl (w1 133 (w1 115 23)), .inl (w10 134 (w10 115 23))] w10 (fun x4 w11 => ((x4 = 0 → K 0 w11) ∧ (¬ x4 = 0 → (-2147483648 ≤ ((w11 115 24) + 1) ∧ ((w11 115 24) + 1) ≤ 2147483647) ∧ (∀ w12, w12 = wset w11 115 24 ((w11 115 24) + 1) → (-2147483648 ≤ ((w12 115 23) - 1) ∧ ((w12 115 23) - 1) ≤ 2147483647) ∧ (∀ w13, w13 = wset w12 115 23 ((w12 115 23) - 1) → (∀ w14, w14 = wset w13 115 25 0 → K 1 w14))))))))) ∧ (¬ (x3 ≤ (w1 134 (w1 115 23))) → (-2147483648 ≤ ((w10 115 24) + 1) ∧ ((w10 115 24) + 1) ≤ 2147483647) ∧ (∀ w15, w15 = wset w10 115 24 ((w10 115 24) + 1) → (0 ≤ (w15 115 23) ∧ (w15 115 23) < 40) ∧ (-2147483648 ≤ ((w15 134 (w15 115 23)) + 1) ∧ ((w15 134 (w15 115 23)) + 1) ≤ 2147483647) ∧ (0 ≤ (w15 115 23) ∧ (w15 115 23) < 40) ∧ (∀ w16, w16 = wset w15 134 (w15 115 23) ((w15 134 (w15 115 23)) + 1) → (∀ w17, w17 = wset w16 115 26 1 → C_X9_hasParts d [.inl (w1 133 (w1 115 23))] w17 (fun x5 w18 => (x5 = 0 ∨ x5 = 1) ∧ (∀ w19, w19 = wset w18 115 27 x5 → (∀ w20, w20 = wset w19 115 25 0 → K 1 w20)))))))))))) ∧ (x1 = 45 → (((w1 115 25) = 0 → (-2147483648 ≤ ((w1 115 24) + 1) ∧ ((w1 115 24) + 1) ≤ 2147483647) ∧ (∀ w21, w21 = wset w1 115 24 ((w1 115 24) + 1) → (∀ w22, w22 = wset w21 115 26 1 → K 1 w22))) ∧ (¬ (w1 115 25) = 0 → K 0 w1)))))))))) :
    E_X9_readBehind d [.inr (.inr 115)] w K := by
  refine EvA.of (by decide +kernel) (Nat.le_of_ble_eq_true rfl) ?_
  change W_X9_readBehind d 0 [some (.inr (.inr 115)), none, none] [] w K
  refine WA.aload_n dX9_readBehind_0 rfl (by decide) ?_
  obtain ⟨d1, hd1, h⟩ := h
  refine WA.callV0 (kc := 0) (ks := 0) (kc' := 0) (ks' := 0) dX9_readBehind_1 lkX9_122 rfl rfl rfl ob_115 rfl (Nat.le_of_ble_eq_true rfl) hd1 h (fun r w1 hK => ?_)
  obtain ⟨x1, rfl, h⟩ := hK
  change WA _ _ _ _ _ _ _ _ _ _ _ [.inl x1] _ _
  refine WA.istore_n (als' := [some (.inr (.inr 115)), some (.inl x1), none]) dX9_readBehind_4 (Nat.le_of_ble_eq_true rfl) rfl ?_
  refine WA.aload_n dX9_readBehind_5 rfl (by decide) ?_
  refine gxX9_66 rfl rfl dX9_readBehind_6 ob_115 ?_
  refine WA.aload_n dX9_readBehind_9 rfl (by decide) ?_
  refine gfX9_119 rfl dX9_readBehind_10 ob_115 ?_
  obtain ⟨s1, h⟩ := h
  refine WA.iaload dX9_readBehind_13 ob_133 s1.1 s1.2 ?_
  refine WA.istore_n (als' := [some (.inr (.inr 115)), some (.inl x1), some (.inl (w1 133 (w1 115 23)))]) dX9_readBehind_14 (Nat.le_of_ble_eq_true rfl) rfl ?_
  refine WA.iload_n dX9_readBehind_15 rfl ?_
  refine WA.bipush dX9_readBehind_16 ⟨by decide, by decide⟩ ?_
  refine WA.icmp_eq (tgt := 33) dX9_readBehind_18 (by decide) (fun hc => ?_) (fun hc => ?_)
  · have h := h.1 hc
    refine WA.aload_n dX9_readBehind_33 rfl (by decide) ?_
    refine gfX9_130 rfl dX9_readBehind_34 ob_115 ?_
    refine WA.if_eq (tgt := 42) dX9_readBehind_37 (by decide) (fun hc => ?_) (fun hc => ?_)
    · have h := h.1 hc
      refine WA.aload_n dX9_readBehind_42 rfl (by decide) ?_
      refine WA.dup dX9_readBehind_43 rfl ?_
      refine gfX9_116 rfl dX9_readBehind_44 ob_115 ?_
      refine WA.iconst dX9_readBehind_47 ⟨by decide, by decide⟩ ?_
      obtain ⟨s2, h⟩ := h
      refine WA.iadd dX9_readBehind_48 s2 ?_
      obtain ⟨w2, qw2⟩ : ∃ z, z = wset w1 115 24 ((w1 115 24) + 1) := ⟨_, rfl⟩
      have h := h w2 qw2
      refine pfX9_116 rfl dX9_readBehind_49 ob_115 ?_
      rw [← qw2]
      refine WA.aload_n dX9_readBehind_52 rfl (by decide) ?_
      refine WA.iconst dX9_readBehind_53 ⟨by decide, by decide⟩ ?_
      obtain ⟨w3, qw3⟩ : ∃ z, z = wset w2 115 26 1 := ⟨_, rfl⟩
      have h := h w3 qw3
      refine pfX9_182 rfl dX9_readBehind_54 ob_115 (by decide) ?_
      rw [← qw3]
      refine WA.iconst dX9_readBehind_57 ⟨by decide, by decide⟩ ?_
      exact WA.zreturn dX9_readBehind_58 (by decide) ⟨_, rfl, h⟩
    · have h := h.2 hc
      refine WA.iconst dX9_readBehind_40 ⟨by decide, by decide⟩ ?_
      exact WA.zreturn dX9_readBehind_41 (by decide) ⟨_, rfl, h⟩
  · have h := h.2 hc
    refine WA.iload_n dX9_readBehind_21 rfl ?_
    refine WA.bipush dX9_readBehind_22 ⟨by decide, by decide⟩ ?_
    refine WA.icmp_eq (tgt := 33) dX9_readBehind_24 (by decide) (fun hc => ?_) (fun hc => ?_)
    · have h := h.1 hc
      refine WA.aload_n dX9_readBehind_33 rfl (by decide) ?_
      refine gfX9_130 rfl dX9_readBehind_34 ob_115 ?_
      refine WA.if_eq (tgt := 42) dX9_readBehind_37 (by decide) (fun hc => ?_) (fun hc => ?_)
      · have h := h.1 hc
        refine WA.aload_n dX9_readBehind_42 rfl (by decide) ?_
        refine WA.dup dX9_readBehind_43 rfl ?_
        refine gfX9_116 rfl dX9_readBehind_44 ob_115 ?_
        refine WA.iconst dX9_readBehind_47 ⟨by decide, by decide⟩ ?_
        obtain ⟨s3, h⟩ := h
        refine WA.iadd dX9_readBehind_48 s3 ?_
        obtain ⟨w4, qw4⟩ : ∃ z, z = wset w1 115 24 ((w1 115 24) + 1) := ⟨_, rfl⟩
        have h := h w4 qw4
        refine pfX9_116 rfl dX9_readBehind_49 ob_115 ?_
        rw [← qw4]
        refine WA.aload_n dX9_readBehind_52 rfl (by decide) ?_
        refine WA.iconst dX9_readBehind_53 ⟨by decide, by decide⟩ ?_
        obtain ⟨w5, qw5⟩ : ∃ z, z = wset w4 115 26 1 := ⟨_, rfl⟩
        have h := h w5 qw5
        refine pfX9_182 rfl dX9_readBehind_54 ob_115 (by decide) ?_
        rw [← qw5]
        refine WA.iconst dX9_readBehind_57 ⟨by decide, by decide⟩ ?_
        exact WA.zreturn dX9_readBehind_58 (by decide) ⟨_, rfl, h⟩
      · have h := h.2 hc
        refine WA.iconst dX9_readBehind_40 ⟨by decide, by decide⟩ ?_
        exact WA.zreturn dX9_readBehind_41 (by decide) ⟨_, rfl, h⟩
    · have h := h.2 hc
      refine WA.iload_n dX9_readBehind_27 rfl ?_
      refine WA.bipush dX9_readBehind_28 ⟨by decide, by decide⟩ ?_
      refine WA.icmp_ne (tgt := 59) dX9_readBehind_30 (by decide) (fun hc => ?_) (fun hc => ?_)
      · have h := h.1 hc
        refine WA.iload_n dX9_readBehind_59 rfl ?_
        refine WA.bipush dX9_readBehind_60 ⟨by decide, by decide⟩ ?_
        refine WA.icmp_ne (tgt := 124) dX9_readBehind_62 (by decide) (fun hc => ?_) (fun hc => ?_)
        · have h := h.1 hc
          refine WA.iload_n dX9_readBehind_124 rfl ?_
          refine WA.bipush dX9_readBehind_125 ⟨by decide, by decide⟩ ?_
          refine WA.icmp_ne (tgt := 173) dX9_readBehind_127 (by decide) (fun hc => ?_) (fun hc => ?_)
          · have h := h.1 hc
            refine WA.iconst dX9_readBehind_173 ⟨by decide, by decide⟩ ?_
            exact WA.zreturn dX9_readBehind_174 (by decide) ⟨_, rfl, h⟩
          · have h := h.2 hc
            refine WA.iload_n dX9_readBehind_130 rfl ?_
            refine WA.aload_n dX9_readBehind_131 rfl (by decide) ?_
            refine gxX9_69 rfl rfl dX9_readBehind_132 ob_115 ?_
            refine WA.aload_n dX9_readBehind_135 rfl (by decide) ?_
            refine gfX9_119 rfl dX9_readBehind_136 ob_115 ?_
            obtain ⟨s4, h⟩ := h
            refine WA.iaload dX9_readBehind_139 ob_134 s4.1 s4.2 ?_
            obtain ⟨d1, hd1, h⟩ := h
            refine WA.callS2 (kc := 0) (ks := 0) (kc' := 0) (ks' := 0) dX9_readBehind_140 lkX9_194 rfl rfl rfl (Nat.le_of_ble_eq_true rfl) hd1 h (fun r w6 hK => ?_)
            obtain ⟨x2, rfl, h⟩ := hK
            change WA _ _ _ _ _ _ _ _ _ _ _ [.inl x2] _ _
            refine WA.if_eq (tgt := 173) dX9_readBehind_143 (by decide) (fun hc => ?_) (fun hc => ?_)
            · have h := h.1 hc
              refine WA.iconst dX9_readBehind_173 ⟨by decide, by decide⟩ ?_
              exact WA.zreturn dX9_readBehind_174 (by decide) ⟨_, rfl, h⟩
            · have h := h.2 hc
              refine WA.aload_n dX9_readBehind_146 rfl (by decide) ?_
              refine WA.dup dX9_readBehind_147 rfl ?_
              refine gfX9_116 rfl dX9_readBehind_148 ob_115 ?_
              refine WA.iconst dX9_readBehind_151 ⟨by decide, by decide⟩ ?_
              obtain ⟨s5, h⟩ := h
              refine WA.iadd dX9_readBehind_152 s5 ?_
              obtain ⟨w7, qw7⟩ : ∃ z, z = wset w6 115 24 ((w6 115 24) + 1) := ⟨_, rfl⟩
              have h := h w7 qw7
              refine pfX9_116 rfl dX9_readBehind_153 ob_115 ?_
              rw [← qw7]
              refine WA.aload_n dX9_readBehind_156 rfl (by decide) ?_
              refine WA.dup dX9_readBehind_157 rfl ?_
              refine gfX9_119 rfl dX9_readBehind_158 ob_115 ?_
              refine WA.iconst dX9_readBehind_161 ⟨by decide, by decide⟩ ?_
              obtain ⟨s6, h⟩ := h
              refine WA.isub dX9_readBehind_162 s6 ?_
              obtain ⟨w8, qw8⟩ : ∃ z, z = wset w7 115 23 ((w7 115 23) - 1) := ⟨_, rfl⟩
              have h := h w8 qw8
              refine pfX9_119 rfl dX9_readBehind_163 ob_115 ?_
              rw [← qw8]
              refine WA.aload_n dX9_readBehind_166 rfl (by decide) ?_
              refine WA.iconst dX9_readBehind_167 ⟨by decide, by decide⟩ ?_
              obtain ⟨w9, qw9⟩ : ∃ z, z = wset w8 115 25 0 := ⟨_, rfl⟩
              have h := h w9 qw9
              refine pfX9_130 rfl dX9_readBehind_168 ob_115 (by decide) ?_
              rw [← qw9]
              refine WA.iconst dX9_readBehind_171 ⟨by decide, by decide⟩ ?_
              exact WA.zreturn dX9_readBehind_172 (by decide) ⟨_, rfl, h⟩
        · have h := h.2 hc
          refine WA.aload_n dX9_readBehind_65 rfl (by decide) ?_
          refine gxX9_69 rfl rfl dX9_readBehind_66 ob_115 ?_
          refine WA.aload_n dX9_readBehind_69 rfl (by decide) ?_
          refine gfX9_119 rfl dX9_readBehind_70 ob_115 ?_
          obtain ⟨s7, h⟩ := h
          refine WA.iaload dX9_readBehind_73 ob_134 s7.1 s7.2 ?_
          refine WA.iload_n dX9_readBehind_74 rfl ?_
          obtain ⟨d1, hd1, h⟩ := h
          refine WA.callS1 (kc := 0) (ks := 0) (kc' := 0) (ks' := 0) dX9_readBehind_75 lkX9_191 rfl rfl rfl (Nat.le_of_ble_eq_true rfl) hd1 h (fun r w10 hK => ?_)
          obtain ⟨x3, rfl, h⟩ := hK
          change WA _ _ _ _ _ _ _ _ _ _ _ [.inl x3, .inl (w1 134 (w1 115 23))] _ _
          refine WA.icmp_ge (tgt := 124) dX9_readBehind_78 (by decide) (fun hc => ?_) (fun hc => ?_)
          · have h := h.1 hc
            refine WA.iload_n dX9_readBehind_124 rfl ?_
            refine WA.bipush dX9_readBehind_125 ⟨by decide, by decide⟩ ?_
            refine WA.icmp_ne (tgt := 173) dX9_readBehind_127 (by decide) (fun hc => ?_) (fun hc => ?_)
            · have h := h.1 hc
              refine WA.iconst dX9_readBehind_173 ⟨by decide, by decide⟩ ?_
              exact WA.zreturn dX9_readBehind_174 (by decide) ⟨_, rfl, h⟩
            · have h := h.2 hc
              refine WA.iload_n dX9_readBehind_130 rfl ?_
              refine WA.aload_n dX9_readBehind_131 rfl (by decide) ?_
              refine gxX9_69 rfl rfl dX9_readBehind_132 ob_115 ?_
              refine WA.aload_n dX9_readBehind_135 rfl (by decide) ?_
              refine gfX9_119 rfl dX9_readBehind_136 ob_115 ?_
              obtain ⟨s8, h⟩ := h
              refine WA.iaload dX9_readBehind_139 ob_134 s8.1 s8.2 ?_
              obtain ⟨d1, hd1, h⟩ := h
              refine WA.callS2 (kc := 0) (ks := 0) (kc' := 0) (ks' := 0) dX9_readBehind_140 lkX9_194 rfl rfl rfl (Nat.le_of_ble_eq_true rfl) hd1 h (fun r w11 hK => ?_)
              obtain ⟨x4, rfl, h⟩ := hK
              change WA _ _ _ _ _ _ _ _ _ _ _ [.inl x4] _ _
              refine WA.if_eq (tgt := 173) dX9_readBehind_143 (by decide) (fun hc => ?_) (fun hc => ?_)
              · have h := h.1 hc
                refine WA.iconst dX9_readBehind_173 ⟨by decide, by decide⟩ ?_
                exact WA.zreturn dX9_readBehind_174 (by decide) ⟨_, rfl, h⟩
              · have h := h.2 hc
                refine WA.aload_n dX9_readBehind_146 rfl (by decide) ?_
                refine WA.dup dX9_readBehind_147 rfl ?_
                refine gfX9_116 rfl dX9_readBehind_148 ob_115 ?_
                refine WA.iconst dX9_readBehind_151 ⟨by decide, by decide⟩ ?_
                obtain ⟨s9, h⟩ := h
                refine WA.iadd dX9_readBehind_152 s9 ?_
                obtain ⟨w12, qw12⟩ : ∃ z, z = wset w11 115 24 ((w11 115 24) + 1) := ⟨_, rfl⟩
                have h := h w12 qw12
                refine pfX9_116 rfl dX9_readBehind_153 ob_115 ?_
                rw [← qw12]
                refine WA.aload_n dX9_readBehind_156 rfl (by decide) ?_
                refine WA.dup dX9_readBehind_157 rfl ?_
                refine gfX9_119 rfl dX9_readBehind_158 ob_115 ?_
                refine WA.iconst dX9_readBehind_161 ⟨by decide, by decide⟩ ?_
                obtain ⟨s10, h⟩ := h
                refine WA.isub dX9_readBehind_162 s10 ?_
                obtain ⟨w13, qw13⟩ : ∃ z, z = wset w12 115 23 ((w12 115 23) - 1) := ⟨_, rfl⟩
                have h := h w13 qw13
                refine pfX9_119 rfl dX9_readBehind_163 ob_115 ?_
                rw [← qw13]
                refine WA.aload_n dX9_readBehind_166 rfl (by decide) ?_
                refine WA.iconst dX9_readBehind_167 ⟨by decide, by decide⟩ ?_
                obtain ⟨w14, qw14⟩ : ∃ z, z = wset w13 115 25 0 := ⟨_, rfl⟩
                have h := h w14 qw14
                refine pfX9_130 rfl dX9_readBehind_168 ob_115 (by decide) ?_
                rw [← qw14]
                refine WA.iconst dX9_readBehind_171 ⟨by decide, by decide⟩ ?_
                exact WA.zreturn dX9_readBehind_172 (by decide) ⟨_, rfl, h⟩
          · have h := h.2 hc
            refine WA.aload_n dX9_readBehind_81 rfl (by decide) ?_
            refine WA.dup dX9_readBehind_82 rfl ?_
            refine gfX9_116 rfl dX9_readBehind_83 ob_115 ?_
            refine WA.iconst dX9_readBehind_86 ⟨by decide, by decide⟩ ?_
            obtain ⟨s11, h⟩ := h
            refine WA.iadd dX9_readBehind_87 s11 ?_
            obtain ⟨w15, qw15⟩ : ∃ z, z = wset w10 115 24 ((w10 115 24) + 1) := ⟨_, rfl⟩
            have h := h w15 qw15
            refine pfX9_116 rfl dX9_readBehind_88 ob_115 ?_
            rw [← qw15]
            refine WA.aload_n dX9_readBehind_91 rfl (by decide) ?_
            refine gxX9_69 rfl rfl dX9_readBehind_92 ob_115 ?_
            refine WA.aload_n dX9_readBehind_95 rfl (by decide) ?_
            refine gfX9_119 rfl dX9_readBehind_96 ob_115 ?_
            refine WA.dup2 dX9_readBehind_99 rfl rfl ?_
            obtain ⟨s12, h⟩ := h
            refine WA.iaload dX9_readBehind_100 ob_134 s12.1 s12.2 ?_
            refine WA.iconst dX9_readBehind_101 ⟨by decide, by decide⟩ ?_
            obtain ⟨s13, h⟩ := h
            refine WA.iadd dX9_readBehind_102 s13 ?_
            obtain ⟨s14, h⟩ := h
            obtain ⟨w16, qw16⟩ : ∃ z, z = wset w15 134 (w15 115 23) ((w15 134 (w15 115 23)) + 1) := ⟨_, rfl⟩
            have h := h w16 qw16
            refine WA.iastore dX9_readBehind_103 ob_134 s14.1 s14.2 ?_
            rw [← qw16]
            refine WA.aload_n dX9_readBehind_104 rfl (by decide) ?_
            refine WA.iconst dX9_readBehind_105 ⟨by decide, by decide⟩ ?_
            obtain ⟨w17, qw17⟩ : ∃ z, z = wset w16 115 26 1 := ⟨_, rfl⟩
            have h := h w17 qw17
            refine pfX9_182 rfl dX9_readBehind_106 ob_115 (by decide) ?_
            rw [← qw17]
            refine WA.aload_n dX9_readBehind_109 rfl (by decide) ?_
            refine WA.iload_n dX9_readBehind_110 rfl ?_
            obtain ⟨d1, hd1, h⟩ := h
            refine WA.callS1 (kc := 0) (ks := 0) (kc' := 0) (ks' := 0) dX9_readBehind_111 lkX9_172 rfl rfl rfl (Nat.le_of_ble_eq_true rfl) hd1 h (fun r w18 hK => ?_)
            obtain ⟨x5, rfl, h⟩ := hK
            change WA _ _ _ _ _ _ _ _ _ _ _ [.inl x5, .inr (.inr 115)] _ _
            obtain ⟨s15, h⟩ := h
            obtain ⟨w19, qw19⟩ : ∃ z, z = wset w18 115 27 x5 := ⟨_, rfl⟩
            have h := h w19 qw19
            refine pfX9_175 rfl dX9_readBehind_114 ob_115 s15 ?_
            rw [← qw19]
            refine WA.aload_n dX9_readBehind_117 rfl (by decide) ?_
            refine WA.iconst dX9_readBehind_118 ⟨by decide, by decide⟩ ?_
            obtain ⟨w20, qw20⟩ : ∃ z, z = wset w19 115 25 0 := ⟨_, rfl⟩
            have h := h w20 qw20
            refine pfX9_130 rfl dX9_readBehind_119 ob_115 (by decide) ?_
            rw [← qw20]
            refine WA.iconst dX9_readBehind_122 ⟨by decide, by decide⟩ ?_
            exact WA.zreturn dX9_readBehind_123 (by decide) ⟨_, rfl, h⟩
      · have h := h.2 hc
        refine WA.aload_n dX9_readBehind_33 rfl (by decide) ?_
        refine gfX9_130 rfl dX9_readBehind_34 ob_115 ?_
        refine WA.if_eq (tgt := 42) dX9_readBehind_37 (by decide) (fun hc => ?_) (fun hc => ?_)
        · have h := h.1 hc
          refine WA.aload_n dX9_readBehind_42 rfl (by decide) ?_
          refine WA.dup dX9_readBehind_43 rfl ?_
          refine gfX9_116 rfl dX9_readBehind_44 ob_115 ?_
          refine WA.iconst dX9_readBehind_47 ⟨by decide, by decide⟩ ?_
          obtain ⟨s16, h⟩ := h
          refine WA.iadd dX9_readBehind_48 s16 ?_
          obtain ⟨w21, qw21⟩ : ∃ z, z = wset w1 115 24 ((w1 115 24) + 1) := ⟨_, rfl⟩
          have h := h w21 qw21
          refine pfX9_116 rfl dX9_readBehind_49 ob_115 ?_
          rw [← qw21]
          refine WA.aload_n dX9_readBehind_52 rfl (by decide) ?_
          refine WA.iconst dX9_readBehind_53 ⟨by decide, by decide⟩ ?_
          obtain ⟨w22, qw22⟩ : ∃ z, z = wset w21 115 26 1 := ⟨_, rfl⟩
          have h := h w22 qw22
          refine pfX9_182 rfl dX9_readBehind_54 ob_115 (by decide) ?_
          rw [← qw22]
          refine WA.iconst dX9_readBehind_57 ⟨by decide, by decide⟩ ?_
          exact WA.zreturn dX9_readBehind_58 (by decide) ⟨_, rfl, h⟩
        · have h := h.2 hc
          refine WA.iconst dX9_readBehind_40 ⟨by decide, by decide⟩ ?_
          exact WA.zreturn dX9_readBehind_41 (by decide) ⟨_, rfl, h⟩
set_option maxRecDepth 10000 in
theorem v_X9_faultOf_52 {d : Nat} {w : Wd} {K : Int → Wd → Prop} {v1 : Int}  
    (h : ((v1 = 0 → (((w 115 4) = 0 → K (-1) w) ∧ (¬ (w 115 4) = 0 → ((¬ (w 115 26) = 0 → K (w 115 24) w) ∧ ((w 115 26) = 0 → ((¬ (w 115 24) = (w 115 4) → K (w 115 24) w) ∧ ((w 115 24) = (w 115 4) → ((¬ (w 115 23) = 0 → K (w 115 24) w) ∧ ((w 115 23) = 0 → K (-1) w))))))))) ∧ (¬ v1 = 0 → (((w 115 26) = 0 → (((w 115 4) ≤ (w 115 24) → W_X9_faultOf d 52 [some (.inr (.inr 115)), some (.inl 0)] [] w K) ∧ (¬ ((w 115 4) ≤ (w 115 24)) → C_X9_readBehind d [.inr (.inr 115)] w (fun x1 w1 => ((x1 = 0 → W_X9_faultOf d 52 [some (.inr (.inr 115)), some (.inl 0)] [] w1 K) ∧ (¬ x1 = 0 → W_X9_faultOf d 52 [some (.inr (.inr 115)), some (.inl 1)] [] w1 K)))))) ∧ (¬ (w 115 26) = 0 → C_X9_readFactor d [.inr (.inr 115)] w (fun x2 w2 => W_X9_faultOf d 52 [some (.inr (.inr 115)), some (.inl x2)] [] w2 K)))))) :
    W_X9_faultOf d 52 [some (.inr (.inr 115)), some (.inl v1)] [] w K := by
  refine WA.iload_n dX9_faultOf_52 rfl ?_
  refine WA.if_eq (tgt := 98) dX9_faultOf_53 (by decide) (fun hc => ?_) (fun hc => ?_)
  · have h := h.1 hc
    refine WA.aload_n dX9_faultOf_98 rfl (by decide) ?_
    refine gfX9_112 rfl dX9_faultOf_99 ob_115 ?_
    refine WA.if_eq (tgt := 130) dX9_faultOf_102 (by decide) (fun hc => ?_) (fun hc => ?_)
    · have h := h.1 hc
      refine WA.iconst dX9_faultOf_130 ⟨by decide, by decide⟩ ?_
      refine WA.goto (tgt := 138) dX9_faultOf_131 (by decide) ?_
      exact WA.ireturn dX9_faultOf_138 ⟨_, rfl, h⟩
    · have h := h.2 hc
      refine WA.aload_n dX9_faultOf_105 rfl (by decide) ?_
      refine gfX9_182 rfl dX9_faultOf_106 ob_115 ?_
      refine WA.if_ne (tgt := 134) dX9_faultOf_109 (by decide) (fun hc => ?_) (fun hc => ?_)
      · have h := h.1 hc
        refine WA.aload_n dX9_faultOf_134 rfl (by decide) ?_
        refine gfX9_116 rfl dX9_faultOf_135 ob_115 ?_
        exact WA.ireturn dX9_faultOf_138 ⟨_, rfl, h⟩
      · have h := h.2 hc
        refine WA.aload_n dX9_faultOf_112 rfl (by decide) ?_
        refine gfX9_116 rfl dX9_faultOf_113 ob_115 ?_
        refine WA.aload_n dX9_faultOf_116 rfl (by decide) ?_
        refine gfX9_112 rfl dX9_faultOf_117 ob_115 ?_
        refine WA.icmp_ne (tgt := 134) dX9_faultOf_120 (by decide) (fun hc => ?_) (fun hc => ?_)
        · have h := h.1 hc
          refine WA.aload_n dX9_faultOf_134 rfl (by decide) ?_
          refine gfX9_116 rfl dX9_faultOf_135 ob_115 ?_
          exact WA.ireturn dX9_faultOf_138 ⟨_, rfl, h⟩
        · have h := h.2 hc
          refine WA.aload_n dX9_faultOf_123 rfl (by decide) ?_
          refine gfX9_119 rfl dX9_faultOf_124 ob_115 ?_
          refine WA.if_ne (tgt := 134) dX9_faultOf_127 (by decide) (fun hc => ?_) (fun hc => ?_)
          · have h := h.1 hc
            refine WA.aload_n dX9_faultOf_134 rfl (by decide) ?_
            refine gfX9_116 rfl dX9_faultOf_135 ob_115 ?_
            exact WA.ireturn dX9_faultOf_138 ⟨_, rfl, h⟩
          · have h := h.2 hc
            refine WA.iconst dX9_faultOf_130 ⟨by decide, by decide⟩ ?_
            refine WA.goto (tgt := 138) dX9_faultOf_131 (by decide) ?_
            exact WA.ireturn dX9_faultOf_138 ⟨_, rfl, h⟩
  · have h := h.2 hc
    refine WA.aload_n dX9_faultOf_56 rfl (by decide) ?_
    refine gfX9_182 rfl dX9_faultOf_57 ob_115 ?_
    refine WA.if_eq (tgt := 71) dX9_faultOf_60 (by decide) (fun hc => ?_) (fun hc => ?_)
    · have h := h.1 hc
      refine WA.aload_n dX9_faultOf_71 rfl (by decide) ?_
      refine gfX9_116 rfl dX9_faultOf_72 ob_115 ?_
      refine WA.aload_n dX9_faultOf_75 rfl (by decide) ?_
      refine gfX9_112 rfl dX9_faultOf_76 ob_115 ?_
      refine WA.icmp_ge (tgt := 93) dX9_faultOf_79 (by decide) (fun hc => ?_) (fun hc => ?_)
      · have h := h.1 hc
        refine WA.iconst dX9_faultOf_93 ⟨by decide, by decide⟩ ?_
        refine WA.istore_n (als' := [some (.inr (.inr 115)), some (.inl 0)]) dX9_faultOf_94 (Nat.le_of_ble_eq_true rfl) rfl ?_
        refine WA.goto (tgt := 52) dX9_faultOf_95 (by decide) ?_
        exact h
      · have h := h.2 hc
        refine WA.aload_n dX9_faultOf_82 rfl (by decide) ?_
        obtain ⟨d1, hd1, h⟩ := h
        refine WA.callV0 (kc := 0) (ks := 0) (kc' := 0) (ks' := 0) dX9_faultOf_83 lkX9_200 rfl rfl rfl ob_115 rfl (Nat.le_of_ble_eq_true rfl) hd1 h (fun r w1 hK => ?_)
        obtain ⟨x1, rfl, h⟩ := hK
        change WA _ _ _ _ _ _ _ _ _ _ _ [.inl x1] _ _
        refine WA.if_eq (tgt := 93) dX9_faultOf_86 (by decide) (fun hc => ?_) (fun hc => ?_)
        · have h := h.1 hc
          refine WA.iconst dX9_faultOf_93 ⟨by decide, by decide⟩ ?_
          refine WA.istore_n (als' := [some (.inr (.inr 115)), some (.inl 0)]) dX9_faultOf_94 (Nat.le_of_ble_eq_true rfl) rfl ?_
          refine WA.goto (tgt := 52) dX9_faultOf_95 (by decide) ?_
          exact h
        · have h := h.2 hc
          refine WA.iconst dX9_faultOf_89 ⟨by decide, by decide⟩ ?_
          refine WA.goto (tgt := 94) dX9_faultOf_90 (by decide) ?_
          refine WA.istore_n (als' := [some (.inr (.inr 115)), some (.inl 1)]) dX9_faultOf_94 (Nat.le_of_ble_eq_true rfl) rfl ?_
          refine WA.goto (tgt := 52) dX9_faultOf_95 (by decide) ?_
          exact h
    · have h := h.2 hc
      refine WA.aload_n dX9_faultOf_63 rfl (by decide) ?_
      obtain ⟨d1, hd1, h⟩ := h
      refine WA.callV0 (kc := 0) (ks := 0) (kc' := 0) (ks' := 0) dX9_faultOf_64 lkX9_197 rfl rfl rfl ob_115 rfl (Nat.le_of_ble_eq_true rfl) hd1 h (fun r w2 hK => ?_)
      obtain ⟨x2, rfl, h⟩ := hK
      change WA _ _ _ _ _ _ _ _ _ _ _ [.inl x2] _ _
      refine WA.istore_n (als' := [some (.inr (.inr 115)), some (.inl x2)]) dX9_faultOf_67 (Nat.le_of_ble_eq_true rfl) rfl ?_
      refine WA.goto (tgt := 52) dX9_faultOf_68 (by decide) ?_
      exact h
set_option maxRecDepth 10000 in
theorem e_X9_faultOf {d : Nat} {w : Wd} {K : Int → Wd → Prop}  
    (h : (∀ w1, w1 = wset w 115 24 0 → (∀ w2, w2 = wset w1 115 23 0 → (∀ w3, w3 = wset w2 133 0 0 → (∀ w4, w4 = wset w3 134 0 0 → (∀ w5, w5 = wset w4 115 26 1 → (∀ w6, w6 = wset w5 115 27 0 → (∀ w7, w7 = wset w6 115 25 0 → (((w7 115 4) ≤ 0 → W_X9_faultOf d 52 [some (.inr (.inr 115)), some (.inl 0)] [] w7 K) ∧ (¬ ((w7 115 4) ≤ 0) → W_X9_faultOf d 52 [some (.inr (.inr 115)), some (.inl 1)] [] w7 K)))))))))) :
    E_X9_faultOf d [.inr (.inr 115)] w K := by
  refine EvA.of (by decide +kernel) (Nat.le_of_ble_eq_true rfl) ?_
  change W_X9_faultOf d 0 [some (.inr (.inr 115)), none] [] w K
  refine WA.aload_n dX9_faultOf_0 rfl (by decide) ?_
  refine WA.iconst dX9_faultOf_1 ⟨by decide, by decide⟩ ?_
  obtain ⟨w1, qw1⟩ : ∃ z, z = wset w 115 24 0 := ⟨_, rfl⟩
  have h := h w1 qw1
  refine pfX9_116 rfl dX9_faultOf_2 ob_115 ?_
  rw [← qw1]
  refine WA.aload_n dX9_faultOf_5 rfl (by decide) ?_
  refine WA.iconst dX9_faultOf_6 ⟨by decide, by decide⟩ ?_
  obtain ⟨w2, qw2⟩ : ∃ z, z = wset w1 115 23 0 := ⟨_, rfl⟩
  have h := h w2 qw2
  refine pfX9_119 rfl dX9_faultOf_7 ob_115 ?_
  rw [← qw2]
  refine WA.aload_n dX9_faultOf_10 rfl (by decide) ?_
  refine gxX9_66 rfl rfl dX9_faultOf_11 ob_115 ?_
  refine WA.iconst dX9_faultOf_14 ⟨by decide, by decide⟩ ?_
  refine WA.iconst dX9_faultOf_15 ⟨by decide, by decide⟩ ?_
  obtain ⟨w3, qw3⟩ : ∃ z, z = wset w2 133 0 0 := ⟨_, rfl⟩
  have h := h w3 qw3
  refine WA.iastore dX9_faultOf_16 ob_133 (by decide) (by decide) ?_
  rw [← qw3]
  refine WA.aload_n dX9_faultOf_17 rfl (by decide) ?_
  refine gxX9_69 rfl rfl dX9_faultOf_18 ob_115 ?_
  refine WA.iconst dX9_faultOf_21 ⟨by decide, by decide⟩ ?_
  refine WA.iconst dX9_faultOf_22 ⟨by decide, by decide⟩ ?_
  obtain ⟨w4, qw4⟩ : ∃ z, z = wset w3 134 0 0 := ⟨_, rfl⟩
  have h := h w4 qw4
  refine WA.iastore dX9_faultOf_23 ob_134 (by decide) (by decide) ?_
  rw [← qw4]
  refine WA.aload_n dX9_faultOf_24 rfl (by decide) ?_
  refine WA.iconst dX9_faultOf_25 ⟨by decide, by decide⟩ ?_
  obtain ⟨w5, qw5⟩ : ∃ z, z = wset w4 115 26 1 := ⟨_, rfl⟩
  have h := h w5 qw5
  refine pfX9_182 rfl dX9_faultOf_26 ob_115 (by decide) ?_
  rw [← qw5]
  refine WA.aload_n dX9_faultOf_29 rfl (by decide) ?_
  refine WA.iconst dX9_faultOf_30 ⟨by decide, by decide⟩ ?_
  obtain ⟨w6, qw6⟩ : ∃ z, z = wset w5 115 27 0 := ⟨_, rfl⟩
  have h := h w6 qw6
  refine pfX9_175 rfl dX9_faultOf_31 ob_115 (by decide) ?_
  rw [← qw6]
  refine WA.aload_n dX9_faultOf_34 rfl (by decide) ?_
  refine WA.iconst dX9_faultOf_35 ⟨by decide, by decide⟩ ?_
  obtain ⟨w7, qw7⟩ : ∃ z, z = wset w6 115 25 0 := ⟨_, rfl⟩
  have h := h w7 qw7
  refine pfX9_130 rfl dX9_faultOf_36 ob_115 (by decide) ?_
  rw [← qw7]
  refine WA.aload_n dX9_faultOf_39 rfl (by decide) ?_
  refine gfX9_112 rfl dX9_faultOf_40 ob_115 ?_
  refine WA.if_le (tgt := 50) dX9_faultOf_43 (by decide) (fun hc => ?_) (fun hc => ?_)
  · have h := h.1 hc
    refine WA.iconst dX9_faultOf_50 ⟨by decide, by decide⟩ ?_
    refine WA.istore_n (als' := [some (.inr (.inr 115)), some (.inl 0)]) dX9_faultOf_51 (Nat.le_of_ble_eq_true rfl) rfl ?_
    exact h
  · have h := h.2 hc
    refine WA.iconst dX9_faultOf_46 ⟨by decide, by decide⟩ ?_
    refine WA.goto (tgt := 51) dX9_faultOf_47 (by decide) ?_
    refine WA.istore_n (als' := [some (.inr (.inr 115)), some (.inl 1)]) dX9_faultOf_51 (Nat.le_of_ble_eq_true rfl) rfl ?_
    exact h
set_option maxRecDepth 10000 in
theorem e_X9_fault {d : Nat} {w : Wd} {K : Int → Wd → Prop}  
    (h : C_X9_faultOf d [.inr (.inr 115)] w (fun x1 w1 => ((0 ≤ x1 → K x1 w1) ∧ (¬ (0 ≤ x1) → K (-2000000004) w1)))) :
    E_X9_fault d [.inr (.inr 115)] w K := by
  refine EvA.of (by decide +kernel) (Nat.le_of_ble_eq_true rfl) ?_
  change W_X9_fault d 0 [some (.inr (.inr 115)), none] [] w K
  refine WA.aload_n dX9_fault_0 rfl (by decide) ?_
  obtain ⟨d1, hd1, h⟩ := h
  refine WA.callV0 (kc := 0) (ks := 0) (kc' := 0) (ks' := 0) dX9_fault_1 lkX9_203 rfl rfl rfl ob_115 rfl (Nat.le_of_ble_eq_true rfl) hd1 h (fun r w1 hK => ?_)
  obtain ⟨x1, rfl, h⟩ := hK
  change WA _ _ _ _ _ _ _ _ _ _ _ [.inl x1] _ _
  refine WA.istore_n (als' := [some (.inr (.inr 115)), some (.inl x1)]) dX9_fault_4 (Nat.le_of_ble_eq_true rfl) rfl ?_
  refine WA.iload_n dX9_fault_5 rfl ?_
  refine WA.if_ge (tgt := 14) dX9_fault_6 (by decide) (fun hc => ?_) (fun hc => ?_)
  · have h := h.1 hc
    refine WA.iload_n dX9_fault_14 rfl ?_
    exact WA.ireturn dX9_fault_15 ⟨_, rfl, h⟩
  · have h := h.2 hc
    refine WA.ldc (v := (-2000000004)) (x := (-2000000004)) dX9_fault_9 (am_mem 979 (by decide +kernel) rfl) (by decide) ?_
    refine WA.goto (tgt := 15) dX9_fault_11 (by decide) ?_
    exact WA.ireturn dX9_fault_15 ⟨_, rfl, h⟩
set_option maxRecDepth 10000 in
theorem v_X9_slotOf_2 {d : Nat} {w : Wd} {K : Int → Wd → Prop} {a1 v2 : Int}  
    (h : (((w 116 2521) ≤ v2 → K (-1) w) ∧ (¬ ((w 116 2521) ≤ v2) → (-2147483648 ≤ (32 * v2) ∧ (32 * v2) ≤ 2147483647) ∧ (-2147483648 ≤ (2522 + (32 * v2)) ∧ (2522 + (32 * v2)) ≤ 2147483647) ∧ (0 ≤ (2522 + (32 * v2)) ∧ (2522 + (32 * v2)) < 2778) ∧ ((¬ (w 116 (2522 + (32 * v2))) = a1 → (-2147483648 ≤ (v2 + 1) ∧ (v2 + 1) ≤ 2147483647) ∧ W_X9_slotOf d 2 [some (.inr (.inr 115)), some (.inl a1), some (.inl (v2 + 1))] [] w K) ∧ ((w 116 (2522 + (32 * v2))) = a1 → K v2 w))))) :
    W_X9_slotOf d 2 [some (.inr (.inr 115)), some (.inl a1), some (.inl v2)] [] w K := by
  refine WA.iload_n dX9_slotOf_2 rfl ?_
  refine WA.aload_n dX9_slotOf_3 rfl (by decide) ?_
  refine gxX9_7 rfl rfl dX9_slotOf_4 ob_115 ?_
  refine WA.sipush dX9_slotOf_7 ⟨by decide, by decide⟩ ?_
  refine WA.iaload dX9_slotOf_10 ob_116 (by decide) (by decide) ?_
  refine WA.icmp_ge (tgt := 39) dX9_slotOf_11 (by decide) (fun hc => ?_) (fun hc => ?_)
  · have h := h.1 hc
    refine WA.iconst dX9_slotOf_39 ⟨by decide, by decide⟩ ?_
    exact WA.ireturn dX9_slotOf_40 ⟨_, rfl, h⟩
  · have h := h.2 hc
    refine WA.aload_n dX9_slotOf_14 rfl (by decide) ?_
    refine gxX9_7 rfl rfl dX9_slotOf_15 ob_115 ?_
    refine WA.sipush dX9_slotOf_18 ⟨by decide, by decide⟩ ?_
    refine WA.bipush dX9_slotOf_21 ⟨by decide, by decide⟩ ?_
    refine WA.iload_n dX9_slotOf_23 rfl ?_
    obtain ⟨s1, h⟩ := h
    refine WA.imul dX9_slotOf_24 s1 ?_
    obtain ⟨s2, h⟩ := h
    refine WA.iadd dX9_slotOf_25 s2 ?_
    obtain ⟨s3, h⟩ := h
    refine WA.iaload dX9_slotOf_26 ob_116 s3.1 s3.2 ?_
    refine WA.iload_n dX9_slotOf_27 rfl ?_
    refine WA.icmp_ne (tgt := 33) dX9_slotOf_28 (by decide) (fun hc => ?_) (fun hc => ?_)
    · have h := h.1 hc
      obtain ⟨s4, h⟩ := h
      refine WA.iinc (als' := [some (.inr (.inr 115)), some (.inl a1), some (.inl (v2 + 1))]) dX9_slotOf_33 rfl s4 rfl ?_
      refine WA.goto (tgt := 2) dX9_slotOf_36 (by decide) ?_
      exact h
    · have h := h.2 hc
      refine WA.iload_n dX9_slotOf_31 rfl ?_
      exact WA.ireturn dX9_slotOf_32 ⟨_, rfl, h⟩
set_option maxRecDepth 10000 in
theorem e_X9_slotOf {d : Nat} {w : Wd} {K : Int → Wd → Prop} {a1 : Int}  
    (h : W_X9_slotOf d 2 [some (.inr (.inr 115)), some (.inl a1), some (.inl 0)] [] w K) :
    E_X9_slotOf d [.inr (.inr 115), .inl a1] w K := by
  refine EvA.of (by decide +kernel) (Nat.le_of_ble_eq_true rfl) ?_
  change W_X9_slotOf d 0 [some (.inr (.inr 115)), some (.inl a1), none] [] w K
  refine WA.iconst dX9_slotOf_0 ⟨by decide, by decide⟩ ?_
  refine WA.istore_n (als' := [some (.inr (.inr 115)), some (.inl a1), some (.inl 0)]) dX9_slotOf_1 (Nat.le_of_ble_eq_true rfl) rfl ?_
  exact h
set_option maxRecDepth 10000 in
theorem e_X9_isFull {d : Nat} {w : Wd} {K : Int → Wd → Prop} {a1 : Int}  
    (h : ((¬ (w 116 2521) = 8 → K 0 w) ∧ ((w 116 2521) = 8 → C_X9_slotOf d [.inr (.inr 115), .inl a1] w (fun x1 w1 => ((0 ≤ x1 → K 0 w1) ∧ (¬ (0 ≤ x1) → K 1 w1)))))) :
    E_X9_isFull d [.inr (.inr 115), .inl a1] w K := by
  refine EvA.of (by decide +kernel) (Nat.le_of_ble_eq_true rfl) ?_
  change W_X9_isFull d 0 [some (.inr (.inr 115)), some (.inl a1)] [] w K
  refine WA.aload_n dX9_isFull_0 rfl (by decide) ?_
  refine gxX9_7 rfl rfl dX9_isFull_1 ob_115 ?_
  refine WA.sipush dX9_isFull_4 ⟨by decide, by decide⟩ ?_
  refine WA.iaload dX9_isFull_7 ob_116 (by decide) (by decide) ?_
  refine WA.bipush dX9_isFull_8 ⟨by decide, by decide⟩ ?_
  refine WA.icmp_ne (tgt := 25) dX9_isFull_10 (by decide) (fun hc => ?_) (fun hc => ?_)
  · have h := h.1 hc
    refine WA.iconst dX9_isFull_25 ⟨by decide, by decide⟩ ?_
    exact WA.zreturn dX9_isFull_26 (by decide) ⟨_, rfl, h⟩
  · have h := h.2 hc
    refine WA.aload_n dX9_isFull_13 rfl (by decide) ?_
    refine WA.iload_n dX9_isFull_14 rfl ?_
    obtain ⟨d1, hd1, h⟩ := h
    refine WA.callV1 (kc := 0) (ks := 0) (kc' := 0) (ks' := 0) dX9_isFull_15 lkX9_207 rfl rfl rfl ob_115 rfl (Nat.le_of_ble_eq_true rfl) hd1 h (fun r w1 hK => ?_)
    obtain ⟨x1, rfl, h⟩ := hK
    change WA _ _ _ _ _ _ _ _ _ _ _ [.inl x1] _ _
    refine WA.if_ge (tgt := 25) dX9_isFull_18 (by decide) (fun hc => ?_) (fun hc => ?_)
    · have h := h.1 hc
      refine WA.iconst dX9_isFull_25 ⟨by decide, by decide⟩ ?_
      exact WA.zreturn dX9_isFull_26 (by decide) ⟨_, rfl, h⟩
    · have h := h.2 hc
      refine WA.iconst dX9_isFull_21 ⟨by decide, by decide⟩ ?_
      refine WA.goto (tgt := 26) dX9_isFull_22 (by decide) ?_
      exact WA.zreturn dX9_isFull_26 (by decide) ⟨_, rfl, h⟩
set_option maxRecDepth 10000 in
theorem e_X9_waits {d : Nat} {w : Wd} {K : Int → Wd → Prop} {a1 a2 : Int}  
    (h : C_X9_slotOf d [.inr (.inr 115), .inl a1] w (fun x1 w1 => ((0 ≤ x1 → (-2147483648 ≤ (32 * x1) ∧ (32 * x1) ≤ 2147483647) ∧ (-2147483648 ≤ (2522 + (32 * x1)) ∧ (2522 + (32 * x1)) ≤ 2147483647) ∧ (0 ≤ (2522 + (32 * x1)) ∧ (2522 + (32 * x1)) < 2778) ∧ (∀ w2, w2 = wset w1 116 (2522 + (32 * x1)) a1 → (-2147483648 ≤ (32 * x1) ∧ (32 * x1) ≤ 2147483647) ∧ (-2147483648 ≤ (2522 + (32 * x1)) ∧ (2522 + (32 * x1)) ≤ 2147483647) ∧ (-2147483648 ≤ ((2522 + (32 * x1)) + 1) ∧ ((2522 + (32 * x1)) + 1) ≤ 2147483647) ∧ (0 ≤ ((2522 + (32 * x1)) + 1) ∧ ((2522 + (32 * x1)) + 1) < 2778) ∧ (∀ w3, w3 = wset w2 116 ((2522 + (32 * x1)) + 1) a2 → (-2147483648 ≤ (32 * x1) ∧ (32 * x1) ≤ 2147483647) ∧ (-2147483648 ≤ (2522 + (32 * x1)) ∧ (2522 + (32 * x1)) ≤ 2147483647) ∧ (-2147483648 ≤ ((2522 + (32 * x1)) + 2) ∧ ((2522 + (32 * x1)) + 2) ≤ 2147483647) ∧ K ((2522 + (32 * x1)) + 2) w3))) ∧ (¬ (0 ≤ x1) → (-2147483648 ≤ ((w1 116 2521) + 1) ∧ ((w1 116 2521) + 1) ≤ 2147483647) ∧ (∀ w4, w4 = wset w1 116 2521 ((w1 116 2521) + 1) → (-2147483648 ≤ (32 * (w1 116 2521)) ∧ (32 * (w1 116 2521)) ≤ 2147483647) ∧ (-2147483648 ≤ (2522 + (32 * (w1 116 2521))) ∧ (2522 + (32 * (w1 116 2521))) ≤ 2147483647) ∧ (0 ≤ (2522 + (32 * (w1 116 2521))) ∧ (2522 + (32 * (w1 116 2521))) < 2778) ∧ (∀ w5, w5 = wset w4 116 (2522 + (32 * (w1 116 2521))) a1 → (-2147483648 ≤ (32 * (w1 116 2521)) ∧ (32 * (w1 116 2521)) ≤ 2147483647) ∧ (-2147483648 ≤ (2522 + (32 * (w1 116 2521))) ∧ (2522 + (32 * (w1 116 2521))) ≤ 2147483647) ∧ (-2147483648 ≤ ((2522 + (32 * (w1 116 2521))) + 1) ∧ ((2522 + (32 * (w1 116 2521))) + 1) ≤ 2147483647) ∧ (0 ≤ ((2522 + (32 * (w1 116 2521))) + 1) ∧ ((2522 + (32 * (w1 116 2521))) + 1) < 2778) ∧ (∀ w6, w6 = wset w5 116 ((2522 + (32 * (w1 116 2521))) + 1) a2 → (-2147483648 ≤ (32 * (w1 116 2521)) ∧ (32 * (w1 116 2521)) ≤ 2147483647) ∧ (-2147483648 ≤ (2522 + (32 * (w1 116 2521))) ∧ (2522 + (32 * (w1 116 2521))) ≤ 2147483647) ∧ (-2147483648 ≤ ((2522 + (32 * (w1 116 2521))) + 2) ∧ ((2522 + (32 * (w1 116 2521))) + 2) ≤ 2147483647) ∧ K ((2522 + (32 * (w1 116 2521))) + 2) w6))))))) :
    E_X9_waits d [.inr (.inr 115), .inl a1, .inl a2] w K := by
  refine EvA.of (by decide +kernel) (Nat.le_of_ble_eq_true rfl) ?_
  change W_X9_waits d 0 [some (.inr (.inr 115)), some (.inl a1), some (.inl a2), none] [] w K
  refine WA.aload_n dX9_waits_0 rfl (by decide) ?_
  refine WA.iload_n dX9_waits_1 rfl ?_
  obtain ⟨d1, hd1, h⟩ := h
  refine WA.callV1 (kc := 0) (ks := 0) (kc' := 0) (ks' := 0) dX9_waits_2 lkX9_207 rfl rfl rfl ob_115 rfl (Nat.le_of_ble_eq_true rfl) hd1 h (fun r w1 hK => ?_)
  obtain ⟨x1, rfl, h⟩ := hK
  change WA _ _ _ _ _ _ _ _ _ _ _ [.inl x1] _ _
  refine WA.istore_n (als' := [some (.inr (.inr 115)), some (.inl a1), some (.inl a2), some (.inl x1)]) dX9_waits_5 (Nat.le_of_ble_eq_true rfl) rfl ?_
  refine WA.iload_n dX9_waits_6 rfl ?_
  refine WA.if_ge (tgt := 31) dX9_waits_7 (by decide) (fun hc => ?_) (fun hc => ?_)
  · have h := h.1 hc
    refine WA.aload_n dX9_waits_31 rfl (by decide) ?_
    refine gxX9_7 rfl rfl dX9_waits_32 ob_115 ?_
    refine WA.sipush dX9_waits_35 ⟨by decide, by decide⟩ ?_
    refine WA.bipush dX9_waits_38 ⟨by decide, by decide⟩ ?_
    refine WA.iload_n dX9_waits_40 rfl ?_
    obtain ⟨s1, h⟩ := h
    refine WA.imul dX9_waits_41 s1 ?_
    obtain ⟨s2, h⟩ := h
    refine WA.iadd dX9_waits_42 s2 ?_
    refine WA.iload_n dX9_waits_43 rfl ?_
    obtain ⟨s3, h⟩ := h
    obtain ⟨w2, qw2⟩ : ∃ z, z = wset w1 116 (2522 + (32 * x1)) a1 := ⟨_, rfl⟩
    have h := h w2 qw2
    refine WA.iastore dX9_waits_44 ob_116 s3.1 s3.2 ?_
    rw [← qw2]
    refine WA.aload_n dX9_waits_45 rfl (by decide) ?_
    refine gxX9_7 rfl rfl dX9_waits_46 ob_115 ?_
    refine WA.sipush dX9_waits_49 ⟨by decide, by decide⟩ ?_
    refine WA.bipush dX9_waits_52 ⟨by decide, by decide⟩ ?_
    refine WA.iload_n dX9_waits_54 rfl ?_
    obtain ⟨s4, h⟩ := h
    refine WA.imul dX9_waits_55 s4 ?_
    obtain ⟨s5, h⟩ := h
    refine WA.iadd dX9_waits_56 s5 ?_
    refine WA.iconst dX9_waits_57 ⟨by decide, by decide⟩ ?_
    obtain ⟨s6, h⟩ := h
    refine WA.iadd dX9_waits_58 s6 ?_
    refine WA.iload_n dX9_waits_59 rfl ?_
    obtain ⟨s7, h⟩ := h
    obtain ⟨w3, qw3⟩ : ∃ z, z = wset w2 116 ((2522 + (32 * x1)) + 1) a2 := ⟨_, rfl⟩
    have h := h w3 qw3
    refine WA.iastore dX9_waits_60 ob_116 s7.1 s7.2 ?_
    rw [← qw3]
    refine WA.sipush dX9_waits_61 ⟨by decide, by decide⟩ ?_
    refine WA.bipush dX9_waits_64 ⟨by decide, by decide⟩ ?_
    refine WA.iload_n dX9_waits_66 rfl ?_
    obtain ⟨s8, h⟩ := h
    refine WA.imul dX9_waits_67 s8 ?_
    obtain ⟨s9, h⟩ := h
    refine WA.iadd dX9_waits_68 s9 ?_
    refine WA.iconst dX9_waits_69 ⟨by decide, by decide⟩ ?_
    obtain ⟨s10, h⟩ := h
    refine WA.iadd dX9_waits_70 s10 ?_
    exact WA.ireturn dX9_waits_71 ⟨_, rfl, h⟩
  · have h := h.2 hc
    refine WA.aload_n dX9_waits_10 rfl (by decide) ?_
    refine gxX9_7 rfl rfl dX9_waits_11 ob_115 ?_
    refine WA.sipush dX9_waits_14 ⟨by decide, by decide⟩ ?_
    refine WA.iaload dX9_waits_17 ob_116 (by decide) (by decide) ?_
    refine WA.istore_n (als' := [some (.inr (.inr 115)), some (.inl a1), some (.inl a2), some (.inl (w1 116 2521))]) dX9_waits_18 (Nat.le_of_ble_eq_true rfl) rfl ?_
    refine WA.aload_n dX9_waits_19 rfl (by decide) ?_
    refine gxX9_7 rfl rfl dX9_waits_20 ob_115 ?_
    refine WA.sipush dX9_waits_23 ⟨by decide, by decide⟩ ?_
    refine WA.dup2 dX9_waits_26 rfl rfl ?_
    refine WA.iaload dX9_waits_27 ob_116 (by decide) (by decide) ?_
    refine WA.iconst dX9_waits_28 ⟨by decide, by decide⟩ ?_
    obtain ⟨s11, h⟩ := h
    refine WA.iadd dX9_waits_29 s11 ?_
    obtain ⟨w4, qw4⟩ : ∃ z, z = wset w1 116 2521 ((w1 116 2521) + 1) := ⟨_, rfl⟩
    have h := h w4 qw4
    refine WA.iastore dX9_waits_30 ob_116 (by decide) (by decide) ?_
    rw [← qw4]
    refine WA.aload_n dX9_waits_31 rfl (by decide) ?_
    refine gxX9_7 rfl rfl dX9_waits_32 ob_115 ?_
    refine WA.sipush dX9_waits_35 ⟨by decide, by decide⟩ ?_
    refine WA.bipush dX9_waits_38 ⟨by decide, by decide⟩ ?_
    refine WA.iload_n dX9_waits_40 rfl ?_
    obtain ⟨s12, h⟩ := h
    refine WA.imul dX9_waits_41 s12 ?_
    obtain ⟨s13, h⟩ := h
    refine WA.iadd dX9_waits_42 s13 ?_
    refine WA.iload_n dX9_waits_43 rfl ?_
    obtain ⟨s14, h⟩ := h
    obtain ⟨w5, qw5⟩ : ∃ z, z = wset w4 116 (2522 + (32 * (w1 116 2521))) a1 := ⟨_, rfl⟩
    have h := h w5 qw5
    refine WA.iastore dX9_waits_44 ob_116 s14.1 s14.2 ?_
    rw [← qw5]
    refine WA.aload_n dX9_waits_45 rfl (by decide) ?_
    refine gxX9_7 rfl rfl dX9_waits_46 ob_115 ?_
    refine WA.sipush dX9_waits_49 ⟨by decide, by decide⟩ ?_
    refine WA.bipush dX9_waits_52 ⟨by decide, by decide⟩ ?_
    refine WA.iload_n dX9_waits_54 rfl ?_
    obtain ⟨s15, h⟩ := h
    refine WA.imul dX9_waits_55 s15 ?_
    obtain ⟨s16, h⟩ := h
    refine WA.iadd dX9_waits_56 s16 ?_
    refine WA.iconst dX9_waits_57 ⟨by decide, by decide⟩ ?_
    obtain ⟨s17, h⟩ := h
    refine WA.iadd dX9_waits_58 s17 ?_
    refine WA.iload_n dX9_waits_59 rfl ?_
    obtain ⟨s18, h⟩ := h
    obtain ⟨w6, qw6⟩ : ∃ z, z = wset w5 116 ((2522 + (32 * (w1 116 2521))) + 1) a2 := ⟨_, rfl⟩
    have h := h w6 qw6
    refine WA.iastore dX9_waits_60 ob_116 s18.1 s18.2 ?_
    rw [← qw6]
    refine WA.sipush dX9_waits_61 ⟨by decide, by decide⟩ ?_
    refine WA.bipush dX9_waits_64 ⟨by decide, by decide⟩ ?_
    refine WA.iload_n dX9_waits_66 rfl ?_
    obtain ⟨s19, h⟩ := h
    refine WA.imul dX9_waits_67 s19 ?_
    obtain ⟨s20, h⟩ := h
    refine WA.iadd dX9_waits_68 s20 ?_
    refine WA.iconst dX9_waits_69 ⟨by decide, by decide⟩ ?_
    obtain ⟨s21, h⟩ := h
    refine WA.iadd dX9_waits_70 s21 ?_
    exact WA.ireturn dX9_waits_71 ⟨_, rfl, h⟩
set_option maxRecDepth 10000 in
theorem v_X9_put_47 {d : Nat} {w : Wd} {K : Int → Wd → Prop} {a1 v2 v3 : Int}  
    (h : (((w 115 4) ≤ v3 → K (w 116 2521) w) ∧ (¬ ((w 115 4) ≤ v3) → (-2147483648 ≤ (v2 + v3) ∧ (v2 + v3) ≤ 2147483647) ∧ (0 ≤ v3 ∧ v3 < 30) ∧ (0 ≤ (v2 + v3) ∧ (v2 + v3) < 2778) ∧ (∀ w1, w1 = wset w 116 (v2 + v3) (w 118 v3) → (-2147483648 ≤ (v3 + 1) ∧ (v3 + 1) ≤ 2147483647) ∧ W_X9_put d 47 [some (.inr (.inr 115)), some (.inl a1), some (.inl v2), some (.inl (v3 + 1))] [] w1 K)))) :
    W_X9_put d 47 [some (.inr (.inr 115)), some (.inl a1), some (.inl v2), some (.inl v3)] [] w K := by
  refine WA.iload_n dX9_put_47 rfl ?_
  refine WA.aload_n dX9_put_48 rfl (by decide) ?_
  refine gfX9_112 rfl dX9_put_49 ob_115 ?_
  refine WA.icmp_ge (tgt := 75) dX9_put_52 (by decide) (fun hc => ?_) (fun hc => ?_)
  · have h := h.1 hc
    refine WA.aload_n dX9_put_75 rfl (by decide) ?_
    refine gxX9_7 rfl rfl dX9_put_76 ob_115 ?_
    refine WA.sipush dX9_put_79 ⟨by decide, by decide⟩ ?_
    refine WA.iaload dX9_put_82 ob_116 (by decide) (by decide) ?_
    exact WA.ireturn dX9_put_83 ⟨_, rfl, h⟩
  · have h := h.2 hc
    refine WA.aload_n dX9_put_55 rfl (by decide) ?_
    refine gxX9_7 rfl rfl dX9_put_56 ob_115 ?_
    refine WA.iload_n dX9_put_59 rfl ?_
    refine WA.iload_n dX9_put_60 rfl ?_
    obtain ⟨s1, h⟩ := h
    refine WA.iadd dX9_put_61 s1 ?_
    refine WA.aload_n dX9_put_62 rfl (by decide) ?_
    refine gxX9_16 rfl rfl dX9_put_63 ob_115 ?_
    refine WA.iload_n dX9_put_66 rfl ?_
    obtain ⟨s2, h⟩ := h
    refine WA.iaload dX9_put_67 ob_118 s2.1 s2.2 ?_
    obtain ⟨s3, h⟩ := h
    obtain ⟨w1, qw1⟩ : ∃ z, z = wset w 116 (v2 + v3) (w 118 v3) := ⟨_, rfl⟩
    have h := h w1 qw1
    refine WA.iastore dX9_put_68 ob_116 s3.1 s3.2 ?_
    rw [← qw1]
    obtain ⟨s4, h⟩ := h
    refine WA.iinc (als' := [some (.inr (.inr 115)), some (.inl a1), some (.inl v2), some (.inl (v3 + 1))]) dX9_put_69 rfl s4 rfl ?_
    refine WA.goto (tgt := 47) dX9_put_72 (by decide) ?_
    exact h
set_option maxRecDepth 10000 in
theorem e_X9_put {d : Nat} {w : Wd} {K : Int → Wd → Prop} {a1 : Int}  
    (h : C_X9_isCell d [.inl a1] w (fun x1 w1 => ((¬ x1 = 0 → C_X9_faultOf d [.inr (.inr 115)] w1 (fun x2 w2 => ((x2 < 0 → C_X9_isFull d [.inr (.inr 115), .inl a1] w2 (fun x3 w3 => ((x3 = 0 → C_X9_save d [.inr (.inr 115)] w3 (fun w4 => C_X9_waits d [.inr (.inr 115), .inl a1, .inl (w4 115 4)] w4 (fun x4 w5 => W_X9_put d 47 [some (.inr (.inr 115)), some (.inl a1), some (.inl x4), some (.inl 0)] [] w5 K))) ∧ (¬ x3 = 0 → K (-2000000003) w3)))) ∧ (¬ (x2 < 0) → K (-2000000002) w2)))) ∧ (x1 = 0 → K (-2000000001) w1)))) :
    E_X9_put d [.inr (.inr 115), .inl a1] w K := by
  refine EvA.of (by decide +kernel) (Nat.le_of_ble_eq_true rfl) ?_
  change W_X9_put d 0 [some (.inr (.inr 115)), some (.inl a1), none, none] [] w K
  refine WA.iload_n dX9_put_0 rfl ?_
  obtain ⟨d1, hd1, h⟩ := h
  refine WA.callS1 (kc := 0) (ks := 0) (kc' := 0) (ks' := 0) dX9_put_1 lkX9_210 rfl rfl rfl (Nat.le_of_ble_eq_true rfl) hd1 h (fun r w1 hK => ?_)
  obtain ⟨x1, rfl, h⟩ := hK
  change WA _ _ _ _ _ _ _ _ _ _ _ [.inl x1] _ _
  refine WA.if_ne (tgt := 10) dX9_put_4 (by decide) (fun hc => ?_) (fun hc => ?_)
  · have h := h.1 hc
    refine WA.aload_n dX9_put_10 rfl (by decide) ?_
    obtain ⟨d1, hd1, h⟩ := h
    refine WA.callV0 (kc := 0) (ks := 0) (kc' := 0) (ks' := 0) dX9_put_11 lkX9_203 rfl rfl rfl ob_115 rfl (Nat.le_of_ble_eq_true rfl) hd1 h (fun r w2 hK => ?_)
    obtain ⟨x2, rfl, h⟩ := hK
    change WA _ _ _ _ _ _ _ _ _ _ _ [.inl x2] _ _
    refine WA.if_lt (tgt := 20) dX9_put_14 (by decide) (fun hc => ?_) (fun hc => ?_)
    · have h := h.1 hc
      refine WA.aload_n dX9_put_20 rfl (by decide) ?_
      refine WA.iload_n dX9_put_21 rfl ?_
      obtain ⟨d1, hd1, h⟩ := h
      refine WA.callV1 (kc := 0) (ks := 0) (kc' := 0) (ks' := 0) dX9_put_22 lkX9_214 rfl rfl rfl ob_115 rfl (Nat.le_of_ble_eq_true rfl) hd1 h (fun r w3 hK => ?_)
      obtain ⟨x3, rfl, h⟩ := hK
      change WA _ _ _ _ _ _ _ _ _ _ _ [.inl x3] _ _
      refine WA.if_eq (tgt := 31) dX9_put_25 (by decide) (fun hc => ?_) (fun hc => ?_)
      · have h := h.1 hc
        refine WA.aload_n dX9_put_31 rfl (by decide) ?_
        obtain ⟨d1, hd1, h⟩ := h
        refine WA.callV0 (kc := 0) (ks := 0) (kc' := 0) (ks' := 0) dX9_put_32 lkX9_217 rfl rfl rfl ob_115 rfl (Nat.le_of_ble_eq_true rfl) hd1 h (fun r w4 hK => ?_)
        obtain ⟨rfl, h⟩ := hK
        change WA _ _ _ _ _ _ _ _ _ _ _ [] _ _
        refine WA.aload_n dX9_put_35 rfl (by decide) ?_
        refine WA.iload_n dX9_put_36 rfl ?_
        refine WA.aload_n dX9_put_37 rfl (by decide) ?_
        refine gfX9_112 rfl dX9_put_38 ob_115 ?_
        obtain ⟨d1, hd1, h⟩ := h
        refine WA.callV2 (kc := 0) (ks := 0) (kc' := 0) (ks' := 0) dX9_put_41 lkX9_220 rfl rfl rfl ob_115 rfl (Nat.le_of_ble_eq_true rfl) hd1 h (fun r w5 hK => ?_)
        obtain ⟨x4, rfl, h⟩ := hK
        change WA _ _ _ _ _ _ _ _ _ _ _ [.inl x4] _ _
        refine WA.istore_n (als' := [some (.inr (.inr 115)), some (.inl a1), some (.inl x4), none]) dX9_put_44 (Nat.le_of_ble_eq_true rfl) rfl ?_
        refine WA.iconst dX9_put_45 ⟨by decide, by decide⟩ ?_
        refine WA.istore_n (als' := [some (.inr (.inr 115)), some (.inl a1), some (.inl x4), some (.inl 0)]) dX9_put_46 (Nat.le_of_ble_eq_true rfl) rfl ?_
        exact h
      · have h := h.2 hc
        refine WA.ldc (v := (-2000000003)) (x := (-2000000003)) dX9_put_28 (am_mem 903 (by decide +kernel) rfl) (by decide) ?_
        exact WA.ireturn dX9_put_30 ⟨_, rfl, h⟩
    · have h := h.2 hc
      refine WA.ldc (v := (-2000000002)) (x := (-2000000002)) dX9_put_17 (am_mem 987 (by decide +kernel) rfl) (by decide) ?_
      exact WA.ireturn dX9_put_19 ⟨_, rfl, h⟩
  · have h := h.2 hc
    refine WA.ldc (v := (-2000000001)) (x := (-2000000001)) dX9_put_7 (am_mem 902 (by decide +kernel) rfl) (by decide) ?_
    exact WA.ireturn dX9_put_9 ⟨_, rfl, h⟩
set_option maxRecDepth 10000 in
theorem e_X9_letter {d : Nat} {w : Wd} {K : Int → Wd → Prop} {a1 a2 : Int}  
    (h : (-2147483648 ≤ (30 * a1) ∧ (30 * a1) ≤ 2147483647) ∧ (-2147483648 ≤ (72 + (30 * a1)) ∧ (72 + (30 * a1)) ≤ 2147483647) ∧ (-2147483648 ≤ ((72 + (30 * a1)) + a2) ∧ ((72 + (30 * a1)) + a2) ≤ 2147483647) ∧ (0 ≤ ((72 + (30 * a1)) + a2) ∧ ((72 + (30 * a1)) + a2) < 2778) ∧ K (w 116 ((72 + (30 * a1)) + a2)) w) :
    E_X9_letter d [.inr (.inr 115), .inl a1, .inl a2] w K := by
  refine EvA.of (by decide +kernel) (Nat.le_of_ble_eq_true rfl) ?_
  change W_X9_letter d 0 [some (.inr (.inr 115)), some (.inl a1), some (.inl a2)] [] w K
  refine WA.aload_n dX9_letter_0 rfl (by decide) ?_
  refine gxX9_7 rfl rfl dX9_letter_1 ob_115 ?_
  refine WA.bipush dX9_letter_4 ⟨by decide, by decide⟩ ?_
  refine WA.bipush dX9_letter_6 ⟨by decide, by decide⟩ ?_
  refine WA.iload_n dX9_letter_8 rfl ?_
  obtain ⟨s1, h⟩ := h
  refine WA.imul dX9_letter_9 s1 ?_
  obtain ⟨s2, h⟩ := h
  refine WA.iadd dX9_letter_10 s2 ?_
  refine WA.iload_n dX9_letter_11 rfl ?_
  obtain ⟨s3, h⟩ := h
  refine WA.iadd dX9_letter_12 s3 ?_
  obtain ⟨s4, h⟩ := h
  refine WA.iaload dX9_letter_13 ob_116 s4.1 s4.2 ?_
  exact WA.ireturn dX9_letter_14 ⟨_, rfl, h⟩
set_option maxRecDepth 10000 in
theorem e_X9_isName {d : Nat} {w : Wd} {K : Int → Wd → Prop} {a1 a2 : Int}  
    (h : (-2147483648 ≤ (a2 + 1) ∧ (a2 + 1) ≤ 2147483647) ∧ (-2147483648 ≤ (0 + a1) ∧ (0 + a1) ≤ 2147483647) ∧ (0 ≤ (0 + a1) ∧ (0 + a1) < 2778) ∧ (((w 116 (0 + a1)) ≤ (a2 + 1) → K 0 w) ∧ (¬ ((w 116 (0 + a1)) ≤ (a2 + 1)) → C_X9_letter d [.inr (.inr 115), .inl a1, .inl a2] w (fun x1 w1 => C_X9_isColumn d [.inl x1] w1 (fun x2 w2 => ((x2 = 0 → K 0 w2) ∧ (¬ x2 = 0 → (-2147483648 ≤ (a2 + 1) ∧ (a2 + 1) ≤ 2147483647) ∧ C_X9_letter d [.inr (.inr 115), .inl a1, .inl (a2 + 1)] w2 (fun x3 w3 => C_X9_isFigure d [.inl x3] w3 (fun x4 w4 => ((x4 = 0 → K 0 w4) ∧ (¬ x4 = 0 → K 1 w4))))))))))) :
    E_X9_isName d [.inr (.inr 115), .inl a1, .inl a2] w K := by
  refine EvA.of (by decide +kernel) (Nat.le_of_ble_eq_true rfl) ?_
  change W_X9_isName d 0 [some (.inr (.inr 115)), some (.inl a1), some (.inl a2)] [] w K
  refine WA.iload_n dX9_isName_0 rfl ?_
  refine WA.iconst dX9_isName_1 ⟨by decide, by decide⟩ ?_
  obtain ⟨s1, h⟩ := h
  refine WA.iadd dX9_isName_2 s1 ?_
  refine WA.aload_n dX9_isName_3 rfl (by decide) ?_
  refine gxX9_7 rfl rfl dX9_isName_4 ob_115 ?_
  refine WA.iconst dX9_isName_7 ⟨by decide, by decide⟩ ?_
  refine WA.iload_n dX9_isName_8 rfl ?_
  obtain ⟨s2, h⟩ := h
  refine WA.iadd dX9_isName_9 s2 ?_
  obtain ⟨s3, h⟩ := h
  refine WA.iaload dX9_isName_10 ob_116 s3.1 s3.2 ?_
  refine WA.icmp_ge (tgt := 44) dX9_isName_11 (by decide) (fun hc => ?_) (fun hc => ?_)
  · have h := h.1 hc
    refine WA.iconst dX9_isName_44 ⟨by decide, by decide⟩ ?_
    exact WA.zreturn dX9_isName_45 (by decide) ⟨_, rfl, h⟩
  · have h := h.2 hc
    refine WA.aload_n dX9_isName_14 rfl (by decide) ?_
    refine WA.iload_n dX9_isName_15 rfl ?_
    refine WA.iload_n dX9_isName_16 rfl ?_
    obtain ⟨d1, hd1, h⟩ := h
    refine WA.callV2 (kc := 0) (ks := 0) (kc' := 0) (ks' := 0) dX9_isName_17 lkX9_224 rfl rfl rfl ob_115 rfl (Nat.le_of_ble_eq_true rfl) hd1 h (fun r w1 hK => ?_)
    obtain ⟨x1, rfl, h⟩ := hK
    change WA _ _ _ _ _ _ _ _ _ _ _ [.inl x1] _ _
    obtain ⟨d1, hd1, h⟩ := h
    refine WA.callS1 (kc := 0) (ks := 0) (kc' := 0) (ks' := 0) dX9_isName_20 lkX9_161 rfl rfl rfl (Nat.le_of_ble_eq_true rfl) hd1 h (fun r w2 hK => ?_)
    obtain ⟨x2, rfl, h⟩ := hK
    change WA _ _ _ _ _ _ _ _ _ _ _ [.inl x2] _ _
    refine WA.if_eq (tgt := 44) dX9_isName_23 (by decide) (fun hc => ?_) (fun hc => ?_)
    · have h := h.1 hc
      refine WA.iconst dX9_isName_44 ⟨by decide, by decide⟩ ?_
      exact WA.zreturn dX9_isName_45 (by decide) ⟨_, rfl, h⟩
    · have h := h.2 hc
      refine WA.aload_n dX9_isName_26 rfl (by decide) ?_
      refine WA.iload_n dX9_isName_27 rfl ?_
      refine WA.iload_n dX9_isName_28 rfl ?_
      refine WA.iconst dX9_isName_29 ⟨by decide, by decide⟩ ?_
      obtain ⟨s4, h⟩ := h
      refine WA.iadd dX9_isName_30 s4 ?_
      obtain ⟨d1, hd1, h⟩ := h
      refine WA.callV2 (kc := 0) (ks := 0) (kc' := 0) (ks' := 0) dX9_isName_31 lkX9_224 rfl rfl rfl ob_115 rfl (Nat.le_of_ble_eq_true rfl) hd1 h (fun r w3 hK => ?_)
      obtain ⟨x3, rfl, h⟩ := hK
      change WA _ _ _ _ _ _ _ _ _ _ _ [.inl x3] _ _
      obtain ⟨d1, hd1, h⟩ := h
      refine WA.callS1 (kc := 0) (ks := 0) (kc' := 0) (ks' := 0) dX9_isName_34 lkX9_185 rfl rfl rfl (Nat.le_of_ble_eq_true rfl) hd1 h (fun r w4 hK => ?_)
      obtain ⟨x4, rfl, h⟩ := hK
      change WA _ _ _ _ _ _ _ _ _ _ _ [.inl x4] _ _
      refine WA.if_eq (tgt := 44) dX9_isName_37 (by decide) (fun hc => ?_) (fun hc => ?_)
      · have h := h.1 hc
        refine WA.iconst dX9_isName_44 ⟨by decide, by decide⟩ ?_
        exact WA.zreturn dX9_isName_45 (by decide) ⟨_, rfl, h⟩
      · have h := h.2 hc
        refine WA.iconst dX9_isName_40 ⟨by decide, by decide⟩ ?_
        refine WA.goto (tgt := 45) dX9_isName_41 (by decide) ?_
        exact WA.zreturn dX9_isName_45 (by decide) ⟨_, rfl, h⟩
set_option maxRecDepth 10000 in
theorem v_X9_canShift_6 {d : Nat} {w : Wd} {K : Int → Wd → Prop} {a1 a2 a3 v4 v5 : Int}  
    (h : (-2147483648 ≤ (0 + a1) ∧ (0 + a1) ≤ 2147483647) ∧ (0 ≤ (0 + a1) ∧ (0 + a1) < 2778) ∧ (((w 116 (0 + a1)) ≤ v5 → (v4 = 0 ∨ v4 = 1) ∧ K v4 w) ∧ (¬ ((w 116 (0 + a1)) ≤ v5) → ((v4 = 0 → (-2147483648 ≤ (v5 + 1) ∧ (v5 + 1) ≤ 2147483647) ∧ W_X9_canShift d 6 [some (.inr (.inr 115)), some (.inl a1), some (.inl a2), some (.inl a3), some (.inl 0), some (.inl (v5 + 1))] [] w K) ∧ (¬ v4 = 0 → C_X9_isName d [.inr (.inr 115), .inl a1, .inl v5] w (fun x1 w1 => ((x1 = 0 → (-2147483648 ≤ (v5 + 1) ∧ (v5 + 1) ≤ 2147483647) ∧ W_X9_canShift d 6 [some (.inr (.inr 115)), some (.inl a1), some (.inl a2), some (.inl a3), some (.inl 1), some (.inl (v5 + 1))] [] w1 K) ∧ (¬ x1 = 0 → C_X9_letter d [.inr (.inr 115), .inl a1, .inl v5] w1 (fun x2 w2 => (-2147483648 ≤ (x2 + a2) ∧ (x2 + a2) ≤ 2147483647) ∧ C_X9_isColumn d [.inl (x2 + a2)] w2 (fun x3 w3 => ((x3 = 0 → (-2147483648 ≤ (v5 + 1) ∧ (v5 + 1) ≤ 2147483647) ∧ W_X9_canShift d 6 [some (.inr (.inr 115)), some (.inl a1), some (.inl a2), some (.inl a3), some (.inl 0), some (.inl (v5 + 1))] [] w3 K) ∧ (¬ x3 = 0 → (-2147483648 ≤ (v5 + 1) ∧ (v5 + 1) ≤ 2147483647) ∧ C_X9_letter d [.inr (.inr 115), .inl a1, .inl (v5 + 1)] w3 (fun x4 w4 => (-2147483648 ≤ (x4 + a3) ∧ (x4 + a3) ≤ 2147483647) ∧ C_X9_in d [.inl (x4 + a3), .inl 49, .inl 57] w4 (fun x5 w5 => ((x5 = 0 → (-2147483648 ≤ (v5 + 1) ∧ (v5 + 1) ≤ 2147483647) ∧ W_X9_canShift d 6 [some (.inr (.inr 115)), some (.inl a1), some (.inl a2), some (.inl a3), some (.inl 0), some (.inl (v5 + 1))] [] w5 K) ∧ (¬ x5 = 0 → (-2147483648 ≤ (v5 + 1) ∧ (v5 + 1) ≤ 2147483647) ∧ W_X9_canShift d 6 [some (.inr (.inr 115)), some (.inl a1), some (.inl a2), some (.inl a3), some (.inl 1), some (.inl (v5 + 1))] [] w5 K)))))))))))))))) :
    W_X9_canShift d 6 [some (.inr (.inr 115)), some (.inl a1), some (.inl a2), some (.inl a3), some (.inl v4), some (.inl v5)] [] w K := by
  refine WA.iload dX9_canShift_6 rfl ?_
  refine WA.aload_n dX9_canShift_8 rfl (by decide) ?_
  refine gxX9_7 rfl rfl dX9_canShift_9 ob_115 ?_
  refine WA.iconst dX9_canShift_12 ⟨by decide, by decide⟩ ?_
  refine WA.iload_n dX9_canShift_13 rfl ?_
  obtain ⟨s1, h⟩ := h
  refine WA.iadd dX9_canShift_14 s1 ?_
  obtain ⟨s2, h⟩ := h
  refine WA.iaload dX9_canShift_15 ob_116 s2.1 s2.2 ?_
  refine WA.icmp_ge (tgt := 83) dX9_canShift_16 (by decide) (fun hc => ?_) (fun hc => ?_)
  · have h := h.1 hc
    refine WA.iload dX9_canShift_83 rfl ?_
    obtain ⟨s3, h⟩ := h
    exact WA.zreturn dX9_canShift_85 s3 ⟨_, rfl, h⟩
  · have h := h.2 hc
    refine WA.iload dX9_canShift_19 rfl ?_
    refine WA.if_eq (tgt := 74) dX9_canShift_21 (by decide) (fun hc => ?_) (fun hc => ?_)
    · have h := h.1 hc
      refine WA.iconst dX9_canShift_74 ⟨by decide, by decide⟩ ?_
      refine WA.istore (als' := [some (.inr (.inr 115)), some (.inl a1), some (.inl a2), some (.inl a3), some (.inl 0), some (.inl v5)]) dX9_canShift_75 (Nat.le_of_ble_eq_true rfl) rfl ?_
      obtain ⟨s4, h⟩ := h
      refine WA.iinc (als' := [some (.inr (.inr 115)), some (.inl a1), some (.inl a2), some (.inl a3), some (.inl 0), some (.inl (v5 + 1))]) dX9_canShift_77 rfl s4 rfl ?_
      refine WA.goto (tgt := 6) dX9_canShift_80 (by decide) ?_
      exact h
    · have h := h.2 hc
      refine WA.aload_n dX9_canShift_24 rfl (by decide) ?_
      refine WA.iload_n dX9_canShift_25 rfl ?_
      refine WA.iload dX9_canShift_26 rfl ?_
      obtain ⟨d1, hd1, h⟩ := h
      refine WA.callV2 (kc := 0) (ks := 0) (kc' := 0) (ks' := 0) dX9_canShift_28 lkX9_227 rfl rfl rfl ob_115 rfl (Nat.le_of_ble_eq_true rfl) hd1 h (fun r w1 hK => ?_)
      obtain ⟨x1, rfl, h⟩ := hK
      change WA _ _ _ _ _ _ _ _ _ _ _ [.inl x1] _ _
      refine WA.if_eq (tgt := 70) dX9_canShift_31 (by decide) (fun hc => ?_) (fun hc => ?_)
      · have h := h.1 hc
        refine WA.iconst dX9_canShift_70 ⟨by decide, by decide⟩ ?_
        refine WA.goto (tgt := 75) dX9_canShift_71 (by decide) ?_
        refine WA.istore (als' := [some (.inr (.inr 115)), some (.inl a1), some (.inl a2), some (.inl a3), some (.inl 1), some (.inl v5)]) dX9_canShift_75 (Nat.le_of_ble_eq_true rfl) rfl ?_
        obtain ⟨s5, h⟩ := h
        refine WA.iinc (als' := [some (.inr (.inr 115)), some (.inl a1), some (.inl a2), some (.inl a3), some (.inl 1), some (.inl (v5 + 1))]) dX9_canShift_77 rfl s5 rfl ?_
        refine WA.goto (tgt := 6) dX9_canShift_80 (by decide) ?_
        exact h
      · have h := h.2 hc
        refine WA.aload_n dX9_canShift_34 rfl (by decide) ?_
        refine WA.iload_n dX9_canShift_35 rfl ?_
        refine WA.iload dX9_canShift_36 rfl ?_
        obtain ⟨d1, hd1, h⟩ := h
        refine WA.callV2 (kc := 0) (ks := 0) (kc' := 0) (ks' := 0) dX9_canShift_38 lkX9_224 rfl rfl rfl ob_115 rfl (Nat.le_of_ble_eq_true rfl) hd1 h (fun r w2 hK => ?_)
        obtain ⟨x2, rfl, h⟩ := hK
        change WA _ _ _ _ _ _ _ _ _ _ _ [.inl x2] _ _
        refine WA.iload_n dX9_canShift_41 rfl ?_
        obtain ⟨s6, h⟩ := h
        refine WA.iadd dX9_canShift_42 s6 ?_
        obtain ⟨d1, hd1, h⟩ := h
        refine WA.callS1 (kc := 0) (ks := 0) (kc' := 0) (ks' := 0) dX9_canShift_43 lkX9_161 rfl rfl rfl (Nat.le_of_ble_eq_true rfl) hd1 h (fun r w3 hK => ?_)
        obtain ⟨x3, rfl, h⟩ := hK
        change WA _ _ _ _ _ _ _ _ _ _ _ [.inl x3] _ _
        refine WA.if_eq (tgt := 74) dX9_canShift_46 (by decide) (fun hc => ?_) (fun hc => ?_)
        · have h := h.1 hc
          refine WA.iconst dX9_canShift_74 ⟨by decide, by decide⟩ ?_
          refine WA.istore (als' := [some (.inr (.inr 115)), some (.inl a1), some (.inl a2), some (.inl a3), some (.inl 0), some (.inl v5)]) dX9_canShift_75 (Nat.le_of_ble_eq_true rfl) rfl ?_
          obtain ⟨s7, h⟩ := h
          refine WA.iinc (als' := [some (.inr (.inr 115)), some (.inl a1), some (.inl a2), some (.inl a3), some (.inl 0), some (.inl (v5 + 1))]) dX9_canShift_77 rfl s7 rfl ?_
          refine WA.goto (tgt := 6) dX9_canShift_80 (by decide) ?_
          exact h
        · have h := h.2 hc
          refine WA.aload_n dX9_canShift_49 rfl (by decide) ?_
          refine WA.iload_n dX9_canShift_50 rfl ?_
          refine WA.iload dX9_canShift_51 rfl ?_
          refine WA.iconst dX9_canShift_53 ⟨by decide, by decide⟩ ?_
          obtain ⟨s8, h⟩ := h
          refine WA.iadd dX9_canShift_54 s8 ?_
          obtain ⟨d1, hd1, h⟩ := h
          refine WA.callV2 (kc := 0) (ks := 0) (kc' := 0) (ks' := 0) dX9_canShift_55 lkX9_224 rfl rfl rfl ob_115 rfl (Nat.le_of_ble_eq_true rfl) hd1 h (fun r w4 hK => ?_)
          obtain ⟨x4, rfl, h⟩ := hK
          change WA _ _ _ _ _ _ _ _ _ _ _ [.inl x4] _ _
          refine WA.iload_n dX9_canShift_58 rfl ?_
          obtain ⟨s9, h⟩ := h
          refine WA.iadd dX9_canShift_59 s9 ?_
          refine WA.bipush dX9_canShift_60 ⟨by decide, by decide⟩ ?_
          refine WA.bipush dX9_canShift_62 ⟨by decide, by decide⟩ ?_
          obtain ⟨d1, hd1, h⟩ := h
          refine WA.callS3 (kc := 0) (ks := 0) (kc' := 0) (ks' := 0) dX9_canShift_64 lkX9_104 rfl rfl rfl (Nat.le_of_ble_eq_true rfl) hd1 h (fun r w5 hK => ?_)
          obtain ⟨x5, rfl, h⟩ := hK
          change WA _ _ _ _ _ _ _ _ _ _ _ [.inl x5] _ _
          refine WA.if_eq (tgt := 74) dX9_canShift_67 (by decide) (fun hc => ?_) (fun hc => ?_)
          · have h := h.1 hc
            refine WA.iconst dX9_canShift_74 ⟨by decide, by decide⟩ ?_
            refine WA.istore (als' := [some (.inr (.inr 115)), some (.inl a1), some (.inl a2), some (.inl a3), some (.inl 0), some (.inl v5)]) dX9_canShift_75 (Nat.le_of_ble_eq_true rfl) rfl ?_
            obtain ⟨s10, h⟩ := h
            refine WA.iinc (als' := [some (.inr (.inr 115)), some (.inl a1), some (.inl a2), some (.inl a3), some (.inl 0), some (.inl (v5 + 1))]) dX9_canShift_77 rfl s10 rfl ?_
            refine WA.goto (tgt := 6) dX9_canShift_80 (by decide) ?_
            exact h
          · have h := h.2 hc
            refine WA.iconst dX9_canShift_70 ⟨by decide, by decide⟩ ?_
            refine WA.goto (tgt := 75) dX9_canShift_71 (by decide) ?_
            refine WA.istore (als' := [some (.inr (.inr 115)), some (.inl a1), some (.inl a2), some (.inl a3), some (.inl 1), some (.inl v5)]) dX9_canShift_75 (Nat.le_of_ble_eq_true rfl) rfl ?_
            obtain ⟨s11, h⟩ := h
            refine WA.iinc (als' := [some (.inr (.inr 115)), some (.inl a1), some (.inl a2), some (.inl a3), some (.inl 1), some (.inl (v5 + 1))]) dX9_canShift_77 rfl s11 rfl ?_
            refine WA.goto (tgt := 6) dX9_canShift_80 (by decide) ?_
            exact h
set_option maxRecDepth 10000 in
theorem e_X9_canShift {d : Nat} {w : Wd} {K : Int → Wd → Prop} {a1 a2 a3 : Int}  
    (h : W_X9_canShift d 6 [some (.inr (.inr 115)), some (.inl a1), some (.inl a2), some (.inl a3), some (.inl 1), some (.inl 0)] [] w K) :
    E_X9_canShift d [.inr (.inr 115), .inl a1, .inl a2, .inl a3] w K := by
  refine EvA.of (by decide +kernel) (Nat.le_of_ble_eq_true rfl) ?_
  change W_X9_canShift d 0 [some (.inr (.inr 115)), some (.inl a1), some (.inl a2), some (.inl a3), none, none] [] w K
  refine WA.iconst dX9_canShift_0 ⟨by decide, by decide⟩ ?_
  refine WA.istore (als' := [some (.inr (.inr 115)), some (.inl a1), some (.inl a2), some (.inl a3), some (.inl 1), none]) dX9_canShift_1 (Nat.le_of_ble_eq_true rfl) rfl ?_
  refine WA.iconst dX9_canShift_3 ⟨by decide, by decide⟩ ?_
  refine WA.istore (als' := [some (.inr (.inr 115)), some (.inl a1), some (.inl a2), some (.inl a3), some (.inl 1), some (.inl 0)]) dX9_canShift_4 (Nat.le_of_ble_eq_true rfl) rfl ?_
  exact h
set_option maxRecDepth 10000 in
theorem v_X9_copy_85 {d : Nat} {w : Wd} {K : Int → Wd → Prop} {a1 a2 v3 v4 v5 v6 : Int}  
    (h : (-2147483648 ≤ (0 + a1) ∧ (0 + a1) ≤ 2147483647) ∧ (0 ≤ (0 + a1) ∧ (0 + a1) < 2778) ∧ (((w 116 (0 + a1)) ≤ v6 → K (w 116 2521) w) ∧ (¬ ((w 116 (0 + a1)) ≤ v6) → ((v6 ≤ 0 → (-2147483648 ≤ (v5 + v6) ∧ (v5 + v6) ≤ 2147483647) ∧ C_X9_letter d [.inr (.inr 115), .inl a1, .inl v6] w (fun x1 w1 => C_X9_isName d [.inr (.inr 115), .inl a1, .inl v6] w1 (fun x2 w2 => ((x2 = 0 → (-2147483648 ≤ (x1 + 0) ∧ (x1 + 0) ≤ 2147483647) ∧ (0 ≤ (v5 + v6) ∧ (v5 + v6) < 2778) ∧ (∀ w3, w3 = wset w2 116 (v5 + v6) (x1 + 0) → (-2147483648 ≤ (v6 + 1) ∧ (v6 + 1) ≤ 2147483647) ∧ W_X9_copy d 85 [some (.inr (.inr 115)), some (.inl a1), some (.inl a2), some (.inl v3), some (.inl v4), some (.inl v5), some (.inl (v6 + 1)), none] [] w3 K)) ∧ (¬ x2 = 0 → (-2147483648 ≤ (x1 + v3) ∧ (x1 + v3) ≤ 2147483647) ∧ (0 ≤ (v5 + v6) ∧ (v5 + v6) < 2778) ∧ (∀ w4, w4 = wset w2 116 (v5 + v6) (x1 + v3) → (-2147483648 ≤ (v6 + 1) ∧ (v6 + 1) ≤ 2147483647) ∧ W_X9_copy d 85 [some (.inr (.inr 115)), some (.inl a1), some (.inl a2), some (.inl v3), some (.inl v4), some (.inl v5), some (.inl (v6 + 1)), none] [] w4 K)))))) ∧ (¬ (v6 ≤ 0) → (-2147483648 ≤ (v6 - 1) ∧ (v6 - 1) ≤ 2147483647) ∧ C_X9_isName d [.inr (.inr 115), .inl a1, .inl (v6 - 1)] w (fun x3 w5 => ((x3 = 0 → (-2147483648 ≤ (v5 + v6) ∧ (v5 + v6) ≤ 2147483647) ∧ C_X9_letter d [.inr (.inr 115), .inl a1, .inl v6] w5 (fun x4 w6 => C_X9_isName d [.inr (.inr 115), .inl a1, .inl v6] w6 (fun x5 w7 => ((x5 = 0 → (-2147483648 ≤ (x4 + 0) ∧ (x4 + 0) ≤ 2147483647) ∧ (0 ≤ (v5 + v6) ∧ (v5 + v6) < 2778) ∧ (∀ w8, w8 = wset w7 116 (v5 + v6) (x4 + 0) → (-2147483648 ≤ (v6 + 1) ∧ (v6 + 1) ≤ 2147483647) ∧ W_X9_copy d 85 [some (.inr (.inr 115)), some (.inl a1), some (.inl a2), some (.inl v3), some (.inl v4), some (.inl v5), some (.inl (v6 + 1)), none] [] w8 K)) ∧ (¬ x5 = 0 → (-2147483648 ≤ (x4 + v3) ∧ (x4 + v3) ≤ 2147483647) ∧ (0 ≤ (v5 + v6) ∧ (v5 + v6) < 2778) ∧ (∀ w9, w9 = wset w7 116 (v5 + v6) (x4 + v3) → (-2147483648 ≤ (v6 + 1) ∧ (v6 + 1) ≤ 2147483647) ∧ W_X9_copy d 85 [some (.inr (.inr 115)), some (.inl a1), some (.inl a2), some (.inl v3), some (.inl v4), some (.inl v5), some (.inl (v6 + 1)), none] [] w9 K)))))) ∧ (¬ x3 = 0 → (-2147483648 ≤ (v5 + v6) ∧ (v5 + v6) ≤ 2147483647) ∧ C_X9_letter d [.inr (.inr 115), .inl a1, .inl v6] w5 (fun x6 w10 => C_X9_isName d [.inr (.inr 115), .inl a1, .inl v6] w10 (fun x7 w11 => ((x7 = 0 → (-2147483648 ≤ (x6 + v4) ∧ (x6 + v4) ≤ 2147483647) ∧ (0 ≤ (v5 + v6) ∧ (v5 + v6) < 2778) ∧ (∀ w12, w12 = wset w11 116 (v5 + v6) (x6 + v4) → (-2147483648 ≤ (v6 + 1) ∧ (v6 + 1) ≤ 2147483647) ∧ W_X9_copy d 85 [some (.inr (.inr 115)), some (.inl a1), some (.inl a2), some (.inl v3), some (.inl v4), some (.inl v5), some (.inl (v6 + 1)), none] [] w12 K)) ∧ (¬ x7 = 0 → (-2147483648 ≤ (x6 + v3) ∧ (x6 + v3) ≤ 2147483647) ∧ (0 ≤ (v5 + v6) ∧ (v5 + v6) < 2778) ∧ (∀ w13, w13 = wset w11 116 (v5 + v6) (x6 + v3) → (-2147483648 ≤ (v6 + 1) ∧ (v6 + 1) ≤ 2147483647) ∧ W_X9_copy d 85 [some (.inr (.inr 115)), some (.inl a1), some (.inl a2), some (.inl v3), some (.inl v4), some (.inl v5), some (.inl (v6 + 1)), none] [] w13 K))))))))))))) :
    W_X9_copy d 85 [some (.inr (.inr 115)), some (.inl a1), some (.inl a2), some (.inl v3), some (.inl v4), some (.inl v5), some (.inl v6), none] [] w K := by
  refine WA.iload dX9_copy_85 rfl ?_
  refine WA.aload_n dX9_copy_87 rfl (by decide) ?_
  refine gxX9_7 rfl rfl dX9_copy_88 ob_115 ?_
  refine WA.iconst dX9_copy_91 ⟨by decide, by decide⟩ ?_
  refine WA.iload_n dX9_copy_92 rfl ?_
  obtain ⟨s1, h⟩ := h
  refine WA.iadd dX9_copy_93 s1 ?_
  obtain ⟨s2, h⟩ := h
  refine WA.iaload dX9_copy_94 ob_116 s2.1 s2.2 ?_
  refine WA.icmp_ge (tgt := 171) dX9_copy_95 (by decide) (fun hc => ?_) (fun hc => ?_)
  · have h := h.1 hc
    refine WA.aload_n dX9_copy_171 rfl (by decide) ?_
    refine gxX9_7 rfl rfl dX9_copy_172 ob_115 ?_
    refine WA.sipush dX9_copy_175 ⟨by decide, by decide⟩ ?_
    refine WA.iaload dX9_copy_178 ob_116 (by decide) (by decide) ?_
    exact WA.ireturn dX9_copy_179 ⟨_, rfl, h⟩
  · have h := h.2 hc
    refine WA.iload dX9_copy_98 rfl ?_
    refine WA.if_le (tgt := 119) dX9_copy_100 (by decide) (fun hc => ?_) (fun hc => ?_)
    · have h := h.1 hc
      refine WA.iconst dX9_copy_119 ⟨by decide, by decide⟩ ?_
      refine WA.istore (als' := [some (.inr (.inr 115)), some (.inl a1), some (.inl a2), some (.inl v3), some (.inl v4), some (.inl v5), some (.inl v6), some (.inl 0)]) dX9_copy_120 (Nat.le_of_ble_eq_true rfl) rfl ?_
      refine WA.aload_n dX9_copy_122 rfl (by decide) ?_
      refine gxX9_7 rfl rfl dX9_copy_123 ob_115 ?_
      refine WA.iload dX9_copy_126 rfl ?_
      refine WA.iload dX9_copy_128 rfl ?_
      obtain ⟨s3, h⟩ := h
      refine WA.iadd dX9_copy_130 s3 ?_
      refine WA.aload_n dX9_copy_131 rfl (by decide) ?_
      refine WA.iload_n dX9_copy_132 rfl ?_
      refine WA.iload dX9_copy_133 rfl ?_
      obtain ⟨d1, hd1, h⟩ := h
      refine WA.callV2 (kc := 0) (ks := 0) (kc' := 0) (ks' := 0) dX9_copy_135 lkX9_224 rfl rfl rfl ob_115 rfl (Nat.le_of_ble_eq_true rfl) hd1 h (fun r w1 hK => ?_)
      obtain ⟨x1, rfl, h⟩ := hK
      change WA _ _ _ _ _ _ _ _ _ _ _ [.inl x1, .inl (v5 + v6), .inr (.inr 116)] _ _
      refine WA.aload_n dX9_copy_138 rfl (by decide) ?_
      refine WA.iload_n dX9_copy_139 rfl ?_
      refine WA.iload dX9_copy_140 rfl ?_
      obtain ⟨d1, hd1, h⟩ := h
      refine WA.callV2 (kc := 0) (ks := 0) (kc' := 0) (ks' := 0) dX9_copy_142 lkX9_227 rfl rfl rfl ob_115 rfl (Nat.le_of_ble_eq_true rfl) hd1 h (fun r w2 hK => ?_)
      obtain ⟨x2, rfl, h⟩ := hK
      change WA _ _ _ _ _ _ _ _ _ _ _ [.inl x2, .inl x1, .inl (v5 + v6), .inr (.inr 116)] _ _
      refine WA.if_eq (tgt := 152) dX9_copy_145 (by decide) (fun hc => ?_) (fun hc => ?_)
      · have h := h.1 hc
        refine WA.iload dX9_copy_152 rfl ?_
        refine WA.if_eq (tgt := 162) dX9_copy_154 (by decide) (fun _ => ?_) (fun hc => absurd hc (by decide))
        refine WA.iconst dX9_copy_162 ⟨by decide, by decide⟩ ?_
        obtain ⟨s4, h⟩ := h
        refine WA.iadd dX9_copy_163 s4 ?_
        obtain ⟨s5, h⟩ := h
        obtain ⟨w3, qw3⟩ : ∃ z, z = wset w2 116 (v5 + v6) (x1 + 0) := ⟨_, rfl⟩
        have h := h w3 qw3
        refine WA.iastore dX9_copy_164 ob_116 s5.1 s5.2 ?_
        rw [← qw3]
        obtain ⟨s6, h⟩ := h
        refine WA.iinc (als' := [some (.inr (.inr 115)), some (.inl a1), some (.inl a2), some (.inl v3), some (.inl v4), some (.inl v5), some (.inl (v6 + 1)), some (.inl 0)]) dX9_copy_165 rfl s6 rfl ?_
        refine WA.goto (tgt := 85) dX9_copy_168 (by decide) ?_
        exact WA.sub (als' := [some (.inr (.inr 115)), some (.inl a1), some (.inl a2), some (.inl v3), some (.inl v4), some (.inl v5), some (.inl (v6 + 1)), none]) (by simp only [am_sub, and_self]) rfl h
      · have h := h.2 hc
        refine WA.iload_n dX9_copy_148 rfl ?_
        refine WA.goto (tgt := 163) dX9_copy_149 (by decide) ?_
        obtain ⟨s7, h⟩ := h
        refine WA.iadd dX9_copy_163 s7 ?_
        obtain ⟨s8, h⟩ := h
        obtain ⟨w4, qw4⟩ : ∃ z, z = wset w2 116 (v5 + v6) (x1 + v3) := ⟨_, rfl⟩
        have h := h w4 qw4
        refine WA.iastore dX9_copy_164 ob_116 s8.1 s8.2 ?_
        rw [← qw4]
        obtain ⟨s9, h⟩ := h
        refine WA.iinc (als' := [some (.inr (.inr 115)), some (.inl a1), some (.inl a2), some (.inl v3), some (.inl v4), some (.inl v5), some (.inl (v6 + 1)), some (.inl 0)]) dX9_copy_165 rfl s9 rfl ?_
        refine WA.goto (tgt := 85) dX9_copy_168 (by decide) ?_
        exact WA.sub (als' := [some (.inr (.inr 115)), some (.inl a1), some (.inl a2), some (.inl v3), some (.inl v4), some (.inl v5), some (.inl (v6 + 1)), none]) (by simp only [am_sub, and_self]) rfl h
    · have h := h.2 hc
      refine WA.aload_n dX9_copy_103 rfl (by decide) ?_
      refine WA.iload_n dX9_copy_104 rfl ?_
      refine WA.iload dX9_copy_105 rfl ?_
      refine WA.iconst dX9_copy_107 ⟨by decide, by decide⟩ ?_
      obtain ⟨s10, h⟩ := h
      refine WA.isub dX9_copy_108 s10 ?_
      obtain ⟨d1, hd1, h⟩ := h
      refine WA.callV2 (kc := 0) (ks := 0) (kc' := 0) (ks' := 0) dX9_copy_109 lkX9_227 rfl rfl rfl ob_115 rfl (Nat.le_of_ble_eq_true rfl) hd1 h (fun r w5 hK => ?_)
      obtain ⟨x3, rfl, h⟩ := hK
      change WA _ _ _ _ _ _ _ _ _ _ _ [.inl x3] _ _
      refine WA.if_eq (tgt := 119) dX9_copy_112 (by decide) (fun hc => ?_) (fun hc => ?_)
      · have h := h.1 hc
        refine WA.iconst dX9_copy_119 ⟨by decide, by decide⟩ ?_
        refine WA.istore (als' := [some (.inr (.inr 115)), some (.inl a1), some (.inl a2), some (.inl v3), some (.inl v4), some (.inl v5), some (.inl v6), some (.inl 0)]) dX9_copy_120 (Nat.le_of_ble_eq_true rfl) rfl ?_
        refine WA.aload_n dX9_copy_122 rfl (by decide) ?_
        refine gxX9_7 rfl rfl dX9_copy_123 ob_115 ?_
        refine WA.iload dX9_copy_126 rfl ?_
        refine WA.iload dX9_copy_128 rfl ?_
        obtain ⟨s11, h⟩ := h
        refine WA.iadd dX9_copy_130 s11 ?_
        refine WA.aload_n dX9_copy_131 rfl (by decide) ?_
        refine WA.iload_n dX9_copy_132 rfl ?_
        refine WA.iload dX9_copy_133 rfl ?_
        obtain ⟨d1, hd1, h⟩ := h
        refine WA.callV2 (kc := 0) (ks := 0) (kc' := 0) (ks' := 0) dX9_copy_135 lkX9_224 rfl rfl rfl ob_115 rfl (Nat.le_of_ble_eq_true rfl) hd1 h (fun r w6 hK => ?_)
        obtain ⟨x4, rfl, h⟩ := hK
        change WA _ _ _ _ _ _ _ _ _ _ _ [.inl x4, .inl (v5 + v6), .inr (.inr 116)] _ _
        refine WA.aload_n dX9_copy_138 rfl (by decide) ?_
        refine WA.iload_n dX9_copy_139 rfl ?_
        refine WA.iload dX9_copy_140 rfl ?_
        obtain ⟨d1, hd1, h⟩ := h
        refine WA.callV2 (kc := 0) (ks := 0) (kc' := 0) (ks' := 0) dX9_copy_142 lkX9_227 rfl rfl rfl ob_115 rfl (Nat.le_of_ble_eq_true rfl) hd1 h (fun r w7 hK => ?_)
        obtain ⟨x5, rfl, h⟩ := hK
        change WA _ _ _ _ _ _ _ _ _ _ _ [.inl x5, .inl x4, .inl (v5 + v6), .inr (.inr 116)] _ _
        refine WA.if_eq (tgt := 152) dX9_copy_145 (by decide) (fun hc => ?_) (fun hc => ?_)
        · have h := h.1 hc
          refine WA.iload dX9_copy_152 rfl ?_
          refine WA.if_eq (tgt := 162) dX9_copy_154 (by decide) (fun _ => ?_) (fun hc => absurd hc (by decide))
          refine WA.iconst dX9_copy_162 ⟨by decide, by decide⟩ ?_
          obtain ⟨s12, h⟩ := h
          refine WA.iadd dX9_copy_163 s12 ?_
          obtain ⟨s13, h⟩ := h
          obtain ⟨w8, qw8⟩ : ∃ z, z = wset w7 116 (v5 + v6) (x4 + 0) := ⟨_, rfl⟩
          have h := h w8 qw8
          refine WA.iastore dX9_copy_164 ob_116 s13.1 s13.2 ?_
          rw [← qw8]
          obtain ⟨s14, h⟩ := h
          refine WA.iinc (als' := [some (.inr (.inr 115)), some (.inl a1), some (.inl a2), some (.inl v3), some (.inl v4), some (.inl v5), some (.inl (v6 + 1)), some (.inl 0)]) dX9_copy_165 rfl s14 rfl ?_
          refine WA.goto (tgt := 85) dX9_copy_168 (by decide) ?_
          exact WA.sub (als' := [some (.inr (.inr 115)), some (.inl a1), some (.inl a2), some (.inl v3), some (.inl v4), some (.inl v5), some (.inl (v6 + 1)), none]) (by simp only [am_sub, and_self]) rfl h
        · have h := h.2 hc
          refine WA.iload_n dX9_copy_148 rfl ?_
          refine WA.goto (tgt := 163) dX9_copy_149 (by decide) ?_
          obtain ⟨s15, h⟩ := h
          refine WA.iadd dX9_copy_163 s15 ?_
          obtain ⟨s16, h⟩ := h
          obtain ⟨w9, qw9⟩ : ∃ z, z = wset w7 116 (v5 + v6) (x4 + v3) := ⟨_, rfl⟩
          have h := h w9 qw9
          refine WA.iastore dX9_copy_164 ob_116 s16.1 s16.2 ?_
          rw [← qw9]
          obtain ⟨s17, h⟩ := h
          refine WA.iinc (als' := [some (.inr (.inr 115)), some (.inl a1), some (.inl a2), some (.inl v3), some (.inl v4), some (.inl v5), some (.inl (v6 + 1)), some (.inl 0)]) dX9_copy_165 rfl s17 rfl ?_
          refine WA.goto (tgt := 85) dX9_copy_168 (by decide) ?_
          exact WA.sub (als' := [some (.inr (.inr 115)), some (.inl a1), some (.inl a2), some (.inl v3), some (.inl v4), some (.inl v5), some (.inl (v6 + 1)), none]) (by simp only [am_sub, and_self]) rfl h
      · have h := h.2 hc
        refine WA.iconst dX9_copy_115 ⟨by decide, by decide⟩ ?_
        refine WA.goto (tgt := 120) dX9_copy_116 (by decide) ?_
        refine WA.istore (als' := [some (.inr (.inr 115)), some (.inl a1), some (.inl a2), some (.inl v3), some (.inl v4), some (.inl v5), some (.inl v6), some (.inl 1)]) dX9_copy_120 (Nat.le_of_ble_eq_true rfl) rfl ?_
        refine WA.aload_n dX9_copy_122 rfl (by decide) ?_
        refine gxX9_7 rfl rfl dX9_copy_123 ob_115 ?_
        refine WA.iload dX9_copy_126 rfl ?_
        refine WA.iload dX9_copy_128 rfl ?_
        obtain ⟨s18, h⟩ := h
        refine WA.iadd dX9_copy_130 s18 ?_
        refine WA.aload_n dX9_copy_131 rfl (by decide) ?_
        refine WA.iload_n dX9_copy_132 rfl ?_
        refine WA.iload dX9_copy_133 rfl ?_
        obtain ⟨d1, hd1, h⟩ := h
        refine WA.callV2 (kc := 0) (ks := 0) (kc' := 0) (ks' := 0) dX9_copy_135 lkX9_224 rfl rfl rfl ob_115 rfl (Nat.le_of_ble_eq_true rfl) hd1 h (fun r w10 hK => ?_)
        obtain ⟨x6, rfl, h⟩ := hK
        change WA _ _ _ _ _ _ _ _ _ _ _ [.inl x6, .inl (v5 + v6), .inr (.inr 116)] _ _
        refine WA.aload_n dX9_copy_138 rfl (by decide) ?_
        refine WA.iload_n dX9_copy_139 rfl ?_
        refine WA.iload dX9_copy_140 rfl ?_
        obtain ⟨d1, hd1, h⟩ := h
        refine WA.callV2 (kc := 0) (ks := 0) (kc' := 0) (ks' := 0) dX9_copy_142 lkX9_227 rfl rfl rfl ob_115 rfl (Nat.le_of_ble_eq_true rfl) hd1 h (fun r w11 hK => ?_)
        obtain ⟨x7, rfl, h⟩ := hK
        change WA _ _ _ _ _ _ _ _ _ _ _ [.inl x7, .inl x6, .inl (v5 + v6), .inr (.inr 116)] _ _
        refine WA.if_eq (tgt := 152) dX9_copy_145 (by decide) (fun hc => ?_) (fun hc => ?_)
        · have h := h.1 hc
          refine WA.iload dX9_copy_152 rfl ?_
          refine WA.if_eq (tgt := 162) dX9_copy_154 (by decide) (fun hc => absurd hc (by decide)) (fun _ => ?_)
          refine WA.iload dX9_copy_157 rfl ?_
          refine WA.goto (tgt := 163) dX9_copy_159 (by decide) ?_
          obtain ⟨s19, h⟩ := h
          refine WA.iadd dX9_copy_163 s19 ?_
          obtain ⟨s20, h⟩ := h
          obtain ⟨w12, qw12⟩ : ∃ z, z = wset w11 116 (v5 + v6) (x6 + v4) := ⟨_, rfl⟩
          have h := h w12 qw12
          refine WA.iastore dX9_copy_164 ob_116 s20.1 s20.2 ?_
          rw [← qw12]
          obtain ⟨s21, h⟩ := h
          refine WA.iinc (als' := [some (.inr (.inr 115)), some (.inl a1), some (.inl a2), some (.inl v3), some (.inl v4), some (.inl v5), some (.inl (v6 + 1)), some (.inl 1)]) dX9_copy_165 rfl s21 rfl ?_
          refine WA.goto (tgt := 85) dX9_copy_168 (by decide) ?_
          exact WA.sub (als' := [some (.inr (.inr 115)), some (.inl a1), some (.inl a2), some (.inl v3), some (.inl v4), some (.inl v5), some (.inl (v6 + 1)), none]) (by simp only [am_sub, and_self]) rfl h
        · have h := h.2 hc
          refine WA.iload_n dX9_copy_148 rfl ?_
          refine WA.goto (tgt := 163) dX9_copy_149 (by decide) ?_
          obtain ⟨s22, h⟩ := h
          refine WA.iadd dX9_copy_163 s22 ?_
          obtain ⟨s23, h⟩ := h
          obtain ⟨w13, qw13⟩ : ∃ z, z = wset w11 116 (v5 + v6) (x6 + v3) := ⟨_, rfl⟩
          have h := h w13 qw13
          refine WA.iastore dX9_copy_164 ob_116 s23.1 s23.2 ?_
          rw [← qw13]
          obtain ⟨s24, h⟩ := h
          refine WA.iinc (als' := [some (.inr (.inr 115)), some (.inl a1), some (.inl a2), some (.inl v3), some (.inl v4), some (.inl v5), some (.inl (v6 + 1)), some (.inl 1)]) dX9_copy_165 rfl s24 rfl ?_
          refine WA.goto (tgt := 85) dX9_copy_168 (by decide) ?_
          exact WA.sub (als' := [some (.inr (.inr 115)), some (.inl a1), some (.inl a2), some (.inl v3), some (.inl v4), some (.inl v5), some (.inl (v6 + 1)), none]) (by simp only [am_sub, and_self]) rfl h
set_option maxRecDepth 10000 in
theorem e_X9_copy {d : Nat} {w : Wd} {K : Int → Wd → Prop} {a1 a2 : Int}  
    (h : C_X9_isCell d [.inl a1] w (fun x1 w1 => ((x1 = 0 → K (-2000000001) w1) ∧ (¬ x1 = 0 → C_X9_isCell d [.inl a2] w1 (fun x2 w2 => ((¬ x2 = 0 → 0 ≤ a2 ∧ 0 ≤ a1 ∧ (-2147483648 ≤ ((a2 % 8) - (a1 % 8)) ∧ ((a2 % 8) - (a1 % 8)) ≤ 2147483647) ∧ 0 ≤ a2 ∧ 0 ≤ a1 ∧ (-2147483648 ≤ ((a2 / 8) - (a1 / 8)) ∧ ((a2 / 8) - (a1 / 8)) ≤ 2147483647) ∧ C_X9_canShift d [.inr (.inr 115), .inl a1, .inl ((a2 % 8) - (a1 % 8)), .inl ((a2 / 8) - (a1 / 8))] w2 (fun x3 w3 => ((¬ x3 = 0 → C_X9_isFull d [.inr (.inr 115), .inl a2] w3 (fun x4 w4 => ((x4 = 0 → C_X9_save d [.inr (.inr 115)] w4 (fun w5 => (-2147483648 ≤ (0 + a1) ∧ (0 + a1) ≤ 2147483647) ∧ (0 ≤ (0 + a1) ∧ (0 + a1) < 2778) ∧ C_X9_waits d [.inr (.inr 115), .inl a2, .inl (w5 116 (0 + a1))] w5 (fun x5 w6 => W_X9_copy d 85 [some (.inr (.inr 115)), some (.inl a1), some (.inl a2), some (.inl ((a2 % 8) - (a1 % 8))), some (.inl ((a2 / 8) - (a1 / 8))), some (.inl x5), some (.inl 0), none] [] w6 K))) ∧ (¬ x4 = 0 → K (-2000000003) w4)))) ∧ (x3 = 0 → K (-2000000002) w3)))) ∧ (x2 = 0 → K (-2000000001) w2))))))) :
    E_X9_copy d [.inr (.inr 115), .inl a1, .inl a2] w K := by
  refine EvA.of (by decide +kernel) (Nat.le_of_ble_eq_true rfl) ?_
  change W_X9_copy d 0 [some (.inr (.inr 115)), some (.inl a1), some (.inl a2), none, none, none, none, none] [] w K
  refine WA.iload_n dX9_copy_0 rfl ?_
  obtain ⟨d1, hd1, h⟩ := h
  refine WA.callS1 (kc := 0) (ks := 0) (kc' := 0) (ks' := 0) dX9_copy_1 lkX9_210 rfl rfl rfl (Nat.le_of_ble_eq_true rfl) hd1 h (fun r w1 hK => ?_)
  obtain ⟨x1, rfl, h⟩ := hK
  change WA _ _ _ _ _ _ _ _ _ _ _ [.inl x1] _ _
  refine WA.if_eq (tgt := 14) dX9_copy_4 (by decide) (fun hc => ?_) (fun hc => ?_)
  · have h := h.1 hc
    refine WA.ldc (v := (-2000000001)) (x := (-2000000001)) dX9_copy_14 (am_mem 902 (by decide +kernel) rfl) (by decide) ?_
    exact WA.ireturn dX9_copy_16 ⟨_, rfl, h⟩
  · have h := h.2 hc
    refine WA.iload_n dX9_copy_7 rfl ?_
    obtain ⟨d1, hd1, h⟩ := h
    refine WA.callS1 (kc := 0) (ks := 0) (kc' := 0) (ks' := 0) dX9_copy_8 lkX9_210 rfl rfl rfl (Nat.le_of_ble_eq_true rfl) hd1 h (fun r w2 hK => ?_)
    obtain ⟨x2, rfl, h⟩ := hK
    change WA _ _ _ _ _ _ _ _ _ _ _ [.inl x2] _ _
    refine WA.if_ne (tgt := 17) dX9_copy_11 (by decide) (fun hc => ?_) (fun hc => ?_)
    · have h := h.1 hc
      refine WA.iload_n dX9_copy_17 rfl ?_
      refine WA.bipush dX9_copy_18 ⟨by decide, by decide⟩ ?_
      obtain ⟨s1, h⟩ := h
      refine WA.irem dX9_copy_20 s1 (by decide) ?_
      refine WA.iload_n dX9_copy_21 rfl ?_
      refine WA.bipush dX9_copy_22 ⟨by decide, by decide⟩ ?_
      obtain ⟨s2, h⟩ := h
      refine WA.irem dX9_copy_24 s2 (by decide) ?_
      obtain ⟨s3, h⟩ := h
      refine WA.isub dX9_copy_25 s3 ?_
      refine WA.istore_n (als' := [some (.inr (.inr 115)), some (.inl a1), some (.inl a2), some (.inl ((a2 % 8) - (a1 % 8))), none, none, none, none]) dX9_copy_26 (Nat.le_of_ble_eq_true rfl) rfl ?_
      refine WA.iload_n dX9_copy_27 rfl ?_
      refine WA.bipush dX9_copy_28 ⟨by decide, by decide⟩ ?_
      obtain ⟨s4, h⟩ := h
      refine WA.idiv dX9_copy_30 s4 (by decide) ?_
      refine WA.iload_n dX9_copy_31 rfl ?_
      refine WA.bipush dX9_copy_32 ⟨by decide, by decide⟩ ?_
      obtain ⟨s5, h⟩ := h
      refine WA.idiv dX9_copy_34 s5 (by decide) ?_
      obtain ⟨s6, h⟩ := h
      refine WA.isub dX9_copy_35 s6 ?_
      refine WA.istore (als' := [some (.inr (.inr 115)), some (.inl a1), some (.inl a2), some (.inl ((a2 % 8) - (a1 % 8))), some (.inl ((a2 / 8) - (a1 / 8))), none, none, none]) dX9_copy_36 (Nat.le_of_ble_eq_true rfl) rfl ?_
      refine WA.aload_n dX9_copy_38 rfl (by decide) ?_
      refine WA.iload_n dX9_copy_39 rfl ?_
      refine WA.iload_n dX9_copy_40 rfl ?_
      refine WA.iload dX9_copy_41 rfl ?_
      obtain ⟨d1, hd1, h⟩ := h
      refine WA.callV3 (kc := 0) (ks := 0) (kc' := 0) (ks' := 0) dX9_copy_43 lkX9_230 rfl rfl rfl ob_115 rfl (Nat.le_of_ble_eq_true rfl) hd1 h (fun r w3 hK => ?_)
      obtain ⟨x3, rfl, h⟩ := hK
      change WA _ _ _ _ _ _ _ _ _ _ _ [.inl x3] _ _
      refine WA.if_ne (tgt := 52) dX9_copy_46 (by decide) (fun hc => ?_) (fun hc => ?_)
      · have h := h.1 hc
        refine WA.aload_n dX9_copy_52 rfl (by decide) ?_
        refine WA.iload_n dX9_copy_53 rfl ?_
        obtain ⟨d1, hd1, h⟩ := h
        refine WA.callV1 (kc := 0) (ks := 0) (kc' := 0) (ks' := 0) dX9_copy_54 lkX9_214 rfl rfl rfl ob_115 rfl (Nat.le_of_ble_eq_true rfl) hd1 h (fun r w4 hK => ?_)
        obtain ⟨x4, rfl, h⟩ := hK
        change WA _ _ _ _ _ _ _ _ _ _ _ [.inl x4] _ _
        refine WA.if_eq (tgt := 63) dX9_copy_57 (by decide) (fun hc => ?_) (fun hc => ?_)
        · have h := h.1 hc
          refine WA.aload_n dX9_copy_63 rfl (by decide) ?_
          obtain ⟨d1, hd1, h⟩ := h
          refine WA.callV0 (kc := 0) (ks := 0) (kc' := 0) (ks' := 0) dX9_copy_64 lkX9_217 rfl rfl rfl ob_115 rfl (Nat.le_of_ble_eq_true rfl) hd1 h (fun r w5 hK => ?_)
          obtain ⟨rfl, h⟩ := hK
          change WA _ _ _ _ _ _ _ _ _ _ _ [] _ _
          refine WA.aload_n dX9_copy_67 rfl (by decide) ?_
          refine WA.iload_n dX9_copy_68 rfl ?_
          refine WA.aload_n dX9_copy_69 rfl (by decide) ?_
          refine gxX9_7 rfl rfl dX9_copy_70 ob_115 ?_
          refine WA.iconst dX9_copy_73 ⟨by decide, by decide⟩ ?_
          refine WA.iload_n dX9_copy_74 rfl ?_
          obtain ⟨s7, h⟩ := h
          refine WA.iadd dX9_copy_75 s7 ?_
          obtain ⟨s8, h⟩ := h
          refine WA.iaload dX9_copy_76 ob_116 s8.1 s8.2 ?_
          obtain ⟨d1, hd1, h⟩ := h
          refine WA.callV2 (kc := 0) (ks := 0) (kc' := 0) (ks' := 0) dX9_copy_77 lkX9_220 rfl rfl rfl ob_115 rfl (Nat.le_of_ble_eq_true rfl) hd1 h (fun r w6 hK => ?_)
          obtain ⟨x5, rfl, h⟩ := hK
          change WA _ _ _ _ _ _ _ _ _ _ _ [.inl x5] _ _
          refine WA.istore (als' := [some (.inr (.inr 115)), some (.inl a1), some (.inl a2), some (.inl ((a2 % 8) - (a1 % 8))), some (.inl ((a2 / 8) - (a1 / 8))), some (.inl x5), none, none]) dX9_copy_80 (Nat.le_of_ble_eq_true rfl) rfl ?_
          refine WA.iconst dX9_copy_82 ⟨by decide, by decide⟩ ?_
          refine WA.istore (als' := [some (.inr (.inr 115)), some (.inl a1), some (.inl a2), some (.inl ((a2 % 8) - (a1 % 8))), some (.inl ((a2 / 8) - (a1 / 8))), some (.inl x5), some (.inl 0), none]) dX9_copy_83 (Nat.le_of_ble_eq_true rfl) rfl ?_
          exact h
        · have h := h.2 hc
          refine WA.ldc (v := (-2000000003)) (x := (-2000000003)) dX9_copy_60 (am_mem 903 (by decide +kernel) rfl) (by decide) ?_
          exact WA.ireturn dX9_copy_62 ⟨_, rfl, h⟩
      · have h := h.2 hc
        refine WA.ldc (v := (-2000000002)) (x := (-2000000002)) dX9_copy_49 (am_mem 987 (by decide +kernel) rfl) (by decide) ?_
        exact WA.ireturn dX9_copy_51 ⟨_, rfl, h⟩
    · have h := h.2 hc
      refine WA.ldc (v := (-2000000001)) (x := (-2000000001)) dX9_copy_14 (am_mem 902 (by decide +kernel) rfl) (by decide) ?_
      exact WA.ireturn dX9_copy_16 ⟨_, rfl, h⟩
set_option maxRecDepth 10000 in
theorem e_X9_drop {d : Nat} {w : Wd} {K : Int → Wd → Prop}  
    (h : ((¬ (w 116 2521) = 0 → C_X9_save d [.inr (.inr 115)] w (fun w1 => (∀ w2, w2 = wset w1 116 2521 0 → K (w1 116 2521) w2))) ∧ ((w 116 2521) = 0 → K (-2000000002) w))) :
    E_X9_drop d [.inr (.inr 115)] w K := by
  refine EvA.of (by decide +kernel) (Nat.le_of_ble_eq_true rfl) ?_
  change W_X9_drop d 0 [some (.inr (.inr 115)), none] [] w K
  refine WA.aload_n dX9_drop_0 rfl (by decide) ?_
  refine gxX9_7 rfl rfl dX9_drop_1 ob_115 ?_
  refine WA.sipush dX9_drop_4 ⟨by decide, by decide⟩ ?_
  refine WA.iaload dX9_drop_7 ob_116 (by decide) (by decide) ?_
  refine WA.if_ne (tgt := 14) dX9_drop_8 (by decide) (fun hc => ?_) (fun hc => ?_)
  · have h := h.1 hc
    refine WA.aload_n dX9_drop_14 rfl (by decide) ?_
    obtain ⟨d1, hd1, h⟩ := h
    refine WA.callV0 (kc := 0) (ks := 0) (kc' := 0) (ks' := 0) dX9_drop_15 lkX9_217 rfl rfl rfl ob_115 rfl (Nat.le_of_ble_eq_true rfl) hd1 h (fun r w1 hK => ?_)
    obtain ⟨rfl, h⟩ := hK
    change WA _ _ _ _ _ _ _ _ _ _ _ [] _ _
    refine WA.aload_n dX9_drop_18 rfl (by decide) ?_
    refine gxX9_7 rfl rfl dX9_drop_19 ob_115 ?_
    refine WA.sipush dX9_drop_22 ⟨by decide, by decide⟩ ?_
    refine WA.iaload dX9_drop_25 ob_116 (by decide) (by decide) ?_
    refine WA.istore_n (als' := [some (.inr (.inr 115)), some (.inl (w1 116 2521))]) dX9_drop_26 (Nat.le_of_ble_eq_true rfl) rfl ?_
    refine WA.aload_n dX9_drop_27 rfl (by decide) ?_
    refine gxX9_7 rfl rfl dX9_drop_28 ob_115 ?_
    refine WA.sipush dX9_drop_31 ⟨by decide, by decide⟩ ?_
    refine WA.iconst dX9_drop_34 ⟨by decide, by decide⟩ ?_
    obtain ⟨w2, qw2⟩ : ∃ z, z = wset w1 116 2521 0 := ⟨_, rfl⟩
    have h := h w2 qw2
    refine WA.iastore dX9_drop_35 ob_116 (by decide) (by decide) ?_
    rw [← qw2]
    refine WA.iload_n dX9_drop_36 rfl ?_
    exact WA.ireturn dX9_drop_37 ⟨_, rfl, h⟩
  · have h := h.2 hc
    refine WA.ldc (v := (-2000000002)) (x := (-2000000002)) dX9_drop_11 (am_mem 987 (by decide +kernel) rfl) (by decide) ?_
    exact WA.ireturn dX9_drop_13 ⟨_, rfl, h⟩
set_option maxRecDepth 10000 in
theorem v_X9_waitingAt_11 {d : Nat} {w : Wd} {K : Int → Wd → Prop} {a1 v2 v3 : Int}  
    (h : ((72 ≤ v3 → K (-2000000004) w) ∧ (¬ (72 ≤ v3) → C_X9_slotOf d [.inr (.inr 115), .inl v3] w (fun x1 w1 => ((x1 < 0 → (-2147483648 ≤ (v3 + 1) ∧ (v3 + 1) ≤ 2147483647) ∧ W_X9_waitingAt d 11 [some (.inr (.inr 115)), some (.inl a1), some (.inl v2), some (.inl (v3 + 1))] [] w1 K) ∧ (¬ (x1 < 0) → ((¬ v2 = a1 → (-2147483648 ≤ (v2 + 1) ∧ (v2 + 1) ≤ 2147483647) ∧ (-2147483648 ≤ (v3 + 1) ∧ (v3 + 1) ≤ 2147483647) ∧ W_X9_waitingAt d 11 [some (.inr (.inr 115)), some (.inl a1), some (.inl (v2 + 1)), some (.inl (v3 + 1))] [] w1 K) ∧ (v2 = a1 → K v3 w1)))))))) :
    W_X9_waitingAt d 11 [some (.inr (.inr 115)), some (.inl a1), some (.inl v2), some (.inl v3)] [] w K := by
  refine WA.iload_n dX9_waitingAt_11 rfl ?_
  refine WA.bipush dX9_waitingAt_12 ⟨by decide, by decide⟩ ?_
  refine WA.icmp_ge (tgt := 41) dX9_waitingAt_14 (by decide) (fun hc => ?_) (fun hc => ?_)
  · have h := h.1 hc
    refine WA.ldc (v := (-2000000004)) (x := (-2000000004)) dX9_waitingAt_41 (am_mem 979 (by decide +kernel) rfl) (by decide) ?_
    exact WA.ireturn dX9_waitingAt_43 ⟨_, rfl, h⟩
  · have h := h.2 hc
    refine WA.aload_n dX9_waitingAt_17 rfl (by decide) ?_
    refine WA.iload_n dX9_waitingAt_18 rfl ?_
    obtain ⟨d1, hd1, h⟩ := h
    refine WA.callV1 (kc := 0) (ks := 0) (kc' := 0) (ks' := 0) dX9_waitingAt_19 lkX9_207 rfl rfl rfl ob_115 rfl (Nat.le_of_ble_eq_true rfl) hd1 h (fun r w1 hK => ?_)
    obtain ⟨x1, rfl, h⟩ := hK
    change WA _ _ _ _ _ _ _ _ _ _ _ [.inl x1] _ _
    refine WA.if_lt (tgt := 35) dX9_waitingAt_22 (by decide) (fun hc => ?_) (fun hc => ?_)
    · have h := h.1 hc
      obtain ⟨s1, h⟩ := h
      refine WA.iinc (als' := [some (.inr (.inr 115)), some (.inl a1), some (.inl v2), some (.inl (v3 + 1))]) dX9_waitingAt_35 rfl s1 rfl ?_
      refine WA.goto (tgt := 11) dX9_waitingAt_38 (by decide) ?_
      exact h
    · have h := h.2 hc
      refine WA.iload_n dX9_waitingAt_25 rfl ?_
      refine WA.iload_n dX9_waitingAt_26 rfl ?_
      refine WA.icmp_ne (tgt := 32) dX9_waitingAt_27 (by decide) (fun hc => ?_) (fun hc => ?_)
      · have h := h.1 hc
        obtain ⟨s2, h⟩ := h
        refine WA.iinc (als' := [some (.inr (.inr 115)), some (.inl a1), some (.inl (v2 + 1)), some (.inl v3)]) dX9_waitingAt_32 rfl s2 rfl ?_
        obtain ⟨s3, h⟩ := h
        refine WA.iinc (als' := [some (.inr (.inr 115)), some (.inl a1), some (.inl (v2 + 1)), some (.inl (v3 + 1))]) dX9_waitingAt_35 rfl s3 rfl ?_
        refine WA.goto (tgt := 11) dX9_waitingAt_38 (by decide) ?_
        exact h
      · have h := h.2 hc
        refine WA.iload_n dX9_waitingAt_30 rfl ?_
        exact WA.ireturn dX9_waitingAt_31 ⟨_, rfl, h⟩
set_option maxRecDepth 10000 in
theorem e_X9_waitingAt {d : Nat} {w : Wd} {K : Int → Wd → Prop} {a1 : Int}  
    (h : ((0 ≤ a1 → W_X9_waitingAt d 11 [some (.inr (.inr 115)), some (.inl a1), some (.inl 0), some (.inl 0)] [] w K) ∧ (¬ (0 ≤ a1) → K (-2000000001) w))) :
    E_X9_waitingAt d [.inr (.inr 115), .inl a1] w K := by
  refine EvA.of (by decide +kernel) (Nat.le_of_ble_eq_true rfl) ?_
  change W_X9_waitingAt d 0 [some (.inr (.inr 115)), some (.inl a1), none, none] [] w K
  refine WA.iload_n dX9_waitingAt_0 rfl ?_
  refine WA.if_ge (tgt := 7) dX9_waitingAt_1 (by decide) (fun hc => ?_) (fun hc => ?_)
  · have h := h.1 hc
    refine WA.iconst dX9_waitingAt_7 ⟨by decide, by decide⟩ ?_
    refine WA.istore_n (als' := [some (.inr (.inr 115)), some (.inl a1), some (.inl 0), none]) dX9_waitingAt_8 (Nat.le_of_ble_eq_true rfl) rfl ?_
    refine WA.iconst dX9_waitingAt_9 ⟨by decide, by decide⟩ ?_
    refine WA.istore_n (als' := [some (.inr (.inr 115)), some (.inl a1), some (.inl 0), some (.inl 0)]) dX9_waitingAt_10 (Nat.le_of_ble_eq_true rfl) rfl ?_
    exact h
  · have h := h.2 hc
    refine WA.ldc (v := (-2000000001)) (x := (-2000000001)) dX9_waitingAt_4 (am_mem 902 (by decide +kernel) rfl) (by decide) ?_
    exact WA.ireturn dX9_waitingAt_6 ⟨_, rfl, h⟩
set_option maxRecDepth 10000 in
theorem e_X9_sign {d : Nat} {w : Wd} {K : Int → Wd → Prop}  
    (h : (((w 115 37) ≤ (w 115 24) → K (-1) w) ∧ (¬ ((w 115 37) ≤ (w 115 24)) → C_X9_letter d [.inr (.inr 115), .inl (w 115 36), .inl (w 115 24)] w (fun x1 w1 => K x1 w1)))) :
    E_X9_sign d [.inr (.inr 115)] w K := by
  refine EvA.of (by decide +kernel) (Nat.le_of_ble_eq_true rfl) ?_
  change W_X9_sign d 0 [some (.inr (.inr 115))] [] w K
  refine WA.aload_n dX9_sign_0 rfl (by decide) ?_
  refine gfX9_116 rfl dX9_sign_1 ob_115 ?_
  refine WA.aload_n dX9_sign_4 rfl (by decide) ?_
  refine gfX9_233 rfl dX9_sign_5 ob_115 ?_
  refine WA.icmp_ge (tgt := 26) dX9_sign_8 (by decide) (fun hc => ?_) (fun hc => ?_)
  · have h := h.1 hc
    refine WA.iconst dX9_sign_26 ⟨by decide, by decide⟩ ?_
    exact WA.ireturn dX9_sign_27 ⟨_, rfl, h⟩
  · have h := h.2 hc
    refine WA.aload_n dX9_sign_11 rfl (by decide) ?_
    refine WA.aload_n dX9_sign_12 rfl (by decide) ?_
    refine gfX9_236 rfl dX9_sign_13 ob_115 ?_
    refine WA.aload_n dX9_sign_16 rfl (by decide) ?_
    refine gfX9_116 rfl dX9_sign_17 ob_115 ?_
    obtain ⟨d1, hd1, h⟩ := h
    refine WA.callV2 (kc := 0) (ks := 0) (kc' := 0) (ks' := 0) dX9_sign_20 lkX9_224 rfl rfl rfl ob_115 rfl (Nat.le_of_ble_eq_true rfl) hd1 h (fun r w1 hK => ?_)
    obtain ⟨x1, rfl, h⟩ := hK
    change WA _ _ _ _ _ _ _ _ _ _ _ [.inl x1] _ _
    refine WA.goto (tgt := 27) dX9_sign_23 (by decide) ?_
    exact WA.ireturn dX9_sign_27 ⟨_, rfl, h⟩
set_option maxRecDepth 10000 in
theorem e_X9_behind {d : Nat} {w : Wd} {K : Int → Wd → Prop} {a1 : Int}  
    (h : (-2147483648 ≤ ((w 115 24) + a1) ∧ ((w 115 24) + a1) ≤ 2147483647) ∧ (((w 115 37) ≤ ((w 115 24) + a1) → K (-1) w) ∧ (¬ ((w 115 37) ≤ ((w 115 24) + a1)) → (-2147483648 ≤ ((w 115 24) + a1) ∧ ((w 115 24) + a1) ≤ 2147483647) ∧ C_X9_letter d [.inr (.inr 115), .inl (w 115 36), .inl ((w 115 24) + a1)] w (fun x1 w1 => K x1 w1)))) :
    E_X9_behind d [.inr (.inr 115), .inl a1] w K := by
  refine EvA.of (by decide +kernel) (Nat.le_of_ble_eq_true rfl) ?_
  change W_X9_behind d 0 [some (.inr (.inr 115)), some (.inl a1)] [] w K
  refine WA.aload_n dX9_behind_0 rfl (by decide) ?_
  refine gfX9_116 rfl dX9_behind_1 ob_115 ?_
  refine WA.iload_n dX9_behind_4 rfl ?_
  obtain ⟨s1, h⟩ := h
  refine WA.iadd dX9_behind_5 s1 ?_
  refine WA.aload_n dX9_behind_6 rfl (by decide) ?_
  refine gfX9_233 rfl dX9_behind_7 ob_115 ?_
  refine WA.icmp_ge (tgt := 30) dX9_behind_10 (by decide) (fun hc => ?_) (fun hc => ?_)
  · have h := h.1 hc
    refine WA.iconst dX9_behind_30 ⟨by decide, by decide⟩ ?_
    exact WA.ireturn dX9_behind_31 ⟨_, rfl, h⟩
  · have h := h.2 hc
    refine WA.aload_n dX9_behind_13 rfl (by decide) ?_
    refine WA.aload_n dX9_behind_14 rfl (by decide) ?_
    refine gfX9_236 rfl dX9_behind_15 ob_115 ?_
    refine WA.aload_n dX9_behind_18 rfl (by decide) ?_
    refine gfX9_116 rfl dX9_behind_19 ob_115 ?_
    refine WA.iload_n dX9_behind_22 rfl ?_
    obtain ⟨s2, h⟩ := h
    refine WA.iadd dX9_behind_23 s2 ?_
    obtain ⟨d1, hd1, h⟩ := h
    refine WA.callV2 (kc := 0) (ks := 0) (kc' := 0) (ks' := 0) dX9_behind_24 lkX9_224 rfl rfl rfl ob_115 rfl (Nat.le_of_ble_eq_true rfl) hd1 h (fun r w1 hK => ?_)
    obtain ⟨x1, rfl, h⟩ := hK
    change WA _ _ _ _ _ _ _ _ _ _ _ [.inl x1] _ _
    refine WA.goto (tgt := 31) dX9_behind_27 (by decide) ?_
    exact WA.ireturn dX9_behind_31 ⟨_, rfl, h⟩
set_option maxRecDepth 10000 in
theorem e_X9_fails {d : Nat} {w : Wd} {K : Wd → Prop} {a1 : Int}  
    (h : ((¬ (w 115 40) = 0 → (∀ w1, w1 = wset w 115 40 (w 115 40) → K w1)) ∧ ((w 115 40) = 0 → (∀ w2, w2 = wset w 115 40 a1 → K w2)))) :
    E_X9_fails d [.inr (.inr 115), .inl a1] w K := by
  refine EvA.of (by decide +kernel) (Nat.le_of_ble_eq_true rfl) ?_
  change W_X9_fails d 0 [some (.inr (.inr 115)), some (.inl a1)] [] w K
  refine WA.aload_n dX9_fails_0 rfl (by decide) ?_
  refine WA.aload_n dX9_fails_1 rfl (by decide) ?_
  refine gfX9_239 rfl dX9_fails_2 ob_115 ?_
  refine WA.if_ne (tgt := 12) dX9_fails_5 (by decide) (fun hc => ?_) (fun hc => ?_)
  · have h := h.1 hc
    refine WA.aload_n dX9_fails_12 rfl (by decide) ?_
    refine gfX9_239 rfl dX9_fails_13 ob_115 ?_
    obtain ⟨w1, qw1⟩ : ∃ z, z = wset w 115 40 (w 115 40) := ⟨_, rfl⟩
    have h := h w1 qw1
    refine pfX9_239 rfl dX9_fails_16 ob_115 ?_
    rw [← qw1]
    exact WA.vreturn dX9_fails_19 ⟨rfl, h⟩
  · have h := h.2 hc
    refine WA.iload_n dX9_fails_8 rfl ?_
    refine WA.goto (tgt := 16) dX9_fails_9 (by decide) ?_
    obtain ⟨w2, qw2⟩ : ∃ z, z = wset w 115 40 a1 := ⟨_, rfl⟩
    have h := h w2 qw2
    refine pfX9_239 rfl dX9_fails_16 ob_115 ?_
    rw [← qw2]
    exact WA.vreturn dX9_fails_19 ⟨rfl, h⟩
set_option maxRecDepth 10000 in
theorem e_X9_bound {d : Nat} {w : Wd} {K : Int → Wd → Prop} {a1 : Int}  
    (h : ((1000000000 < a1 → C_X9_fails d [.inr (.inr 115), .inl 1] w (fun w1 => K a1 w1)) ∧ (¬ (1000000000 < a1) → (((-1000000000) ≤ a1 → K a1 w) ∧ (¬ ((-1000000000) ≤ a1) → C_X9_fails d [.inr (.inr 115), .inl 1] w (fun w2 => K a1 w2)))))) :
    E_X9_bound d [.inr (.inr 115), .inr (.inl a1)] w K := by
  refine EvA.of (by decide +kernel) (Nat.le_of_ble_eq_true rfl) ?_
  change W_X9_bound d 0 [some (.inr (.inr 115)), some (.inr (.inl a1)), none] [] w K
  refine WA.lload_n dX9_bound_0 rfl ?_
  refine WA.ldc2 (v := 1000000000) (x := 1000000000) dX9_bound_1 (am_mem 1104 (by decide +kernel) rfl) (by decide) ?_
  refine WA.lcmp_gt (tgt := 16) dX9_bound_4 dX9_bound_5 (by decide) (fun hc => ?_) (fun hc => ?_)
  · have h := h.1 hc
    refine WA.aload_n dX9_bound_16 rfl (by decide) ?_
    refine WA.iconst dX9_bound_17 ⟨by decide, by decide⟩ ?_
    obtain ⟨d1, hd1, h⟩ := h
    refine WA.callV1 (kc := 0) (ks := 0) (kc' := 0) (ks' := 0) dX9_bound_18 lkX9_246 rfl rfl rfl ob_115 rfl (Nat.le_of_ble_eq_true rfl) hd1 h (fun r w1 hK => ?_)
    obtain ⟨rfl, h⟩ := hK
    change WA _ _ _ _ _ _ _ _ _ _ _ [] _ _
    refine WA.lload_n dX9_bound_21 rfl ?_
    exact WA.lreturn dX9_bound_22 ⟨_, rfl, h⟩
  · have h := h.2 hc
    refine WA.lload_n dX9_bound_8 rfl ?_
    refine WA.ldc2 (v := (-1000000000)) (x := (-1000000000)) dX9_bound_9 (am_mem 1105 (by decide +kernel) rfl) (by decide) ?_
    refine WA.lcmp_ge (tgt := 21) dX9_bound_12 dX9_bound_13 (by decide) (fun hc => ?_) (fun hc => ?_)
    · have h := h.1 hc
      refine WA.lload_n dX9_bound_21 rfl ?_
      exact WA.lreturn dX9_bound_22 ⟨_, rfl, h⟩
    · have h := h.2 hc
      refine WA.aload_n dX9_bound_16 rfl (by decide) ?_
      refine WA.iconst dX9_bound_17 ⟨by decide, by decide⟩ ?_
      obtain ⟨d1, hd1, h⟩ := h
      refine WA.callV1 (kc := 0) (ks := 0) (kc' := 0) (ks' := 0) dX9_bound_18 lkX9_246 rfl rfl rfl ob_115 rfl (Nat.le_of_ble_eq_true rfl) hd1 h (fun r w2 hK => ?_)
      obtain ⟨rfl, h⟩ := hK
      change WA _ _ _ _ _ _ _ _ _ _ _ [] _ _
      refine WA.lload_n dX9_bound_21 rfl ?_
      exact WA.lreturn dX9_bound_22 ⟨_, rfl, h⟩
set_option maxRecDepth 10000 in
theorem e_X9_frame {d : Nat} {w : Wd} {K : Wd → Prop}  
    (h : (0 ≤ (w 115 23) ∧ (w 115 23) < 40) ∧ (∀ w1, w1 = wset w 135 (w 115 23) 0 → (0 ≤ (w1 115 23) ∧ (w1 115 23) < 40) ∧ (∀ w2, w2 = wset w1 136 (w1 115 23) 0 → (0 ≤ (w2 115 23) ∧ (w2 115 23) < 40) ∧ (∀ w3, w3 = wset w2 139 (w2 115 23) 0 → (0 ≤ (w3 115 23) ∧ (w3 115 23) < 40) ∧ (∀ w4, w4 = wset w3 138 (w3 115 23) 0 → (∀ w5, w5 = wset w4 115 26 1 → (0 ≤ (w5 115 23) ∧ (w5 115 23) < 40) ∧ C_X9_hasParts d [.inl (w5 133 (w5 115 23))] w5 (fun x1 w6 => (x1 = 0 ∨ x1 = 1) ∧ (∀ w7, w7 = wset w6 115 27 x1 → K w7)))))))) :
    E_X9_frame d [.inr (.inr 115)] w K := by
  refine EvA.of (by decide +kernel) (Nat.le_of_ble_eq_true rfl) ?_
  change W_X9_frame d 0 [some (.inr (.inr 115))] [] w K
  refine WA.aload_n dX9_frame_0 rfl (by decide) ?_
  refine gxX9_72 rfl rfl dX9_frame_1 ob_115 ?_
  refine WA.aload_n dX9_frame_4 rfl (by decide) ?_
  refine gfX9_119 rfl dX9_frame_5 ob_115 ?_
  refine WA.iconst dX9_frame_8 ⟨by decide, by decide⟩ ?_
  obtain ⟨s1, h⟩ := h
  obtain ⟨w1, qw1⟩ : ∃ z, z = wset w 135 (w 115 23) 0 := ⟨_, rfl⟩
  have h := h w1 qw1
  refine WA.zastore dX9_frame_9 ob_135 s1.1 s1.2 (by decide) ?_
  rw [← qw1]
  refine WA.aload_n dX9_frame_10 rfl (by decide) ?_
  refine gxX9_75 rfl rfl dX9_frame_11 ob_115 ?_
  refine WA.aload_n dX9_frame_14 rfl (by decide) ?_
  refine gfX9_119 rfl dX9_frame_15 ob_115 ?_
  refine WA.iconst dX9_frame_18 ⟨by decide, by decide⟩ ?_
  obtain ⟨s2, h⟩ := h
  obtain ⟨w2, qw2⟩ : ∃ z, z = wset w1 136 (w1 115 23) 0 := ⟨_, rfl⟩
  have h := h w2 qw2
  refine WA.zastore dX9_frame_19 ob_136 s2.1 s2.2 (by decide) ?_
  rw [← qw2]
  refine WA.aload_n dX9_frame_20 rfl (by decide) ?_
  refine gxX9_85 rfl rfl dX9_frame_21 ob_115 ?_
  refine WA.aload_n dX9_frame_24 rfl (by decide) ?_
  refine gfX9_119 rfl dX9_frame_25 ob_115 ?_
  refine WA.iconst dX9_frame_28 ⟨by decide, by decide⟩ ?_
  obtain ⟨s3, h⟩ := h
  obtain ⟨w3, qw3⟩ : ∃ z, z = wset w2 139 (w2 115 23) 0 := ⟨_, rfl⟩
  have h := h w3 qw3
  refine WA.iastore dX9_frame_29 ob_139 s3.1 s3.2 ?_
  rw [← qw3]
  refine WA.aload_n dX9_frame_30 rfl (by decide) ?_
  refine gxX9_82 rfl rfl dX9_frame_31 ob_115 ?_
  refine WA.aload_n dX9_frame_34 rfl (by decide) ?_
  refine gfX9_119 rfl dX9_frame_35 ob_115 ?_
  refine WA.lconst (x := 0) dX9_frame_38 rfl ?_
  obtain ⟨s4, h⟩ := h
  obtain ⟨w4, qw4⟩ : ∃ z, z = wset w3 138 (w3 115 23) 0 := ⟨_, rfl⟩
  have h := h w4 qw4
  refine WA.lastore dX9_frame_39 ob_138 s4.1 s4.2 ?_
  rw [← qw4]
  refine WA.aload_n dX9_frame_40 rfl (by decide) ?_
  refine WA.iconst dX9_frame_41 ⟨by decide, by decide⟩ ?_
  obtain ⟨w5, qw5⟩ : ∃ z, z = wset w4 115 26 1 := ⟨_, rfl⟩
  have h := h w5 qw5
  refine pfX9_182 rfl dX9_frame_42 ob_115 (by decide) ?_
  rw [← qw5]
  refine WA.aload_n dX9_frame_45 rfl (by decide) ?_
  refine WA.aload_n dX9_frame_46 rfl (by decide) ?_
  refine gxX9_66 rfl rfl dX9_frame_47 ob_115 ?_
  refine WA.aload_n dX9_frame_50 rfl (by decide) ?_
  refine gfX9_119 rfl dX9_frame_51 ob_115 ?_
  obtain ⟨s5, h⟩ := h
  refine WA.iaload dX9_frame_54 ob_133 s5.1 s5.2 ?_
  obtain ⟨d1, hd1, h⟩ := h
  refine WA.callS1 (kc := 0) (ks := 0) (kc' := 0) (ks' := 0) dX9_frame_55 lkX9_172 rfl rfl rfl (Nat.le_of_ble_eq_true rfl) hd1 h (fun r w6 hK => ?_)
  obtain ⟨x1, rfl, h⟩ := hK
  change WA _ _ _ _ _ _ _ _ _ _ _ [.inl x1, .inr (.inr 115)] _ _
  obtain ⟨s6, h⟩ := h
  obtain ⟨w7, qw7⟩ : ∃ z, z = wset w6 115 27 x1 := ⟨_, rfl⟩
  have h := h w7 qw7
  refine pfX9_175 rfl dX9_frame_58 ob_115 s6 ?_
  rw [← qw7]
  exact WA.vreturn dX9_frame_61 ⟨rfl, h⟩
set_option maxRecDepth 10000 in
theorem e_X9_enters {d : Nat} {w : Wd} {K : Wd → Prop} {a1 : Int}  
    (h : (-2147483648 ≤ ((w 115 23) + 1) ∧ ((w 115 23) + 1) ≤ 2147483647) ∧ (∀ w1, w1 = wset w 115 23 ((w 115 23) + 1) → (0 ≤ (w1 115 23) ∧ (w1 115 23) < 40) ∧ (∀ w2, w2 = wset w1 133 (w1 115 23) a1 → (0 ≤ (w2 115 23) ∧ (w2 115 23) < 40) ∧ (∀ w3, w3 = wset w2 134 (w2 115 23) 0 → (0 ≤ (w3 115 23) ∧ (w3 115 23) < 40) ∧ (∀ w4, w4 = wset w3 141 (w3 115 23) 0 → (0 ≤ (w4 115 23) ∧ (w4 115 23) < 40) ∧ (∀ w5, w5 = wset w4 142 (w4 115 23) 0 → C_X9_frame d [.inr (.inr 115)] w5 (fun w6 => K w6))))))) :
    E_X9_enters d [.inr (.inr 115), .inl a1] w K := by
  refine EvA.of (by decide +kernel) (Nat.le_of_ble_eq_true rfl) ?_
  change W_X9_enters d 0 [some (.inr (.inr 115)), some (.inl a1)] [] w K
  refine WA.aload_n dX9_enters_0 rfl (by decide) ?_
  refine WA.dup dX9_enters_1 rfl ?_
  refine gfX9_119 rfl dX9_enters_2 ob_115 ?_
  refine WA.iconst dX9_enters_5 ⟨by decide, by decide⟩ ?_
  obtain ⟨s1, h⟩ := h
  refine WA.iadd dX9_enters_6 s1 ?_
  obtain ⟨w1, qw1⟩ : ∃ z, z = wset w 115 23 ((w 115 23) + 1) := ⟨_, rfl⟩
  have h := h w1 qw1
  refine pfX9_119 rfl dX9_enters_7 ob_115 ?_
  rw [← qw1]
  refine WA.aload_n dX9_enters_10 rfl (by decide) ?_
  refine gxX9_66 rfl rfl dX9_enters_11 ob_115 ?_
  refine WA.aload_n dX9_enters_14 rfl (by decide) ?_
  refine gfX9_119 rfl dX9_enters_15 ob_115 ?_
  refine WA.iload_n dX9_enters_18 rfl ?_
  obtain ⟨s2, h⟩ := h
  obtain ⟨w2, qw2⟩ : ∃ z, z = wset w1 133 (w1 115 23) a1 := ⟨_, rfl⟩
  have h := h w2 qw2
  refine WA.iastore dX9_enters_19 ob_133 s2.1 s2.2 ?_
  rw [← qw2]
  refine WA.aload_n dX9_enters_20 rfl (by decide) ?_
  refine gxX9_69 rfl rfl dX9_enters_21 ob_115 ?_
  refine WA.aload_n dX9_enters_24 rfl (by decide) ?_
  refine gfX9_119 rfl dX9_enters_25 ob_115 ?_
  refine WA.iconst dX9_enters_28 ⟨by decide, by decide⟩ ?_
  obtain ⟨s3, h⟩ := h
  obtain ⟨w3, qw3⟩ : ∃ z, z = wset w2 134 (w2 115 23) 0 := ⟨_, rfl⟩
  have h := h w3 qw3
  refine WA.iastore dX9_enters_29 ob_134 s3.1 s3.2 ?_
  rw [← qw3]
  refine WA.aload_n dX9_enters_30 rfl (by decide) ?_
  refine gxX9_91 rfl rfl dX9_enters_31 ob_115 ?_
  refine WA.aload_n dX9_enters_34 rfl (by decide) ?_
  refine gfX9_119 rfl dX9_enters_35 ob_115 ?_
  refine WA.iconst dX9_enters_38 ⟨by decide, by decide⟩ ?_
  obtain ⟨s4, h⟩ := h
  obtain ⟨w4, qw4⟩ : ∃ z, z = wset w3 141 (w3 115 23) 0 := ⟨_, rfl⟩
  have h := h w4 qw4
  refine WA.zastore dX9_enters_39 ob_141 s4.1 s4.2 (by decide) ?_
  rw [← qw4]
  refine WA.aload_n dX9_enters_40 rfl (by decide) ?_
  refine gxX9_94 rfl rfl dX9_enters_41 ob_115 ?_
  refine WA.aload_n dX9_enters_44 rfl (by decide) ?_
  refine gfX9_119 rfl dX9_enters_45 ob_115 ?_
  refine WA.lconst (x := 0) dX9_enters_48 rfl ?_
  obtain ⟨s5, h⟩ := h
  obtain ⟨w5, qw5⟩ : ∃ z, z = wset w4 142 (w4 115 23) 0 := ⟨_, rfl⟩
  have h := h w5 qw5
  refine WA.lastore dX9_enters_49 ob_142 s5.1 s5.2 ?_
  rw [← qw5]
  refine WA.aload_n dX9_enters_50 rfl (by decide) ?_
  obtain ⟨d1, hd1, h⟩ := h
  refine WA.callV0 (kc := 0) (ks := 0) (kc' := 0) (ks' := 0) dX9_enters_51 lkX9_249 rfl rfl rfl ob_115 rfl (Nat.le_of_ble_eq_true rfl) hd1 h (fun r w6 hK => ?_)
  obtain ⟨rfl, h⟩ := hK
  change WA _ _ _ _ _ _ _ _ _ _ _ [] _ _
  exact WA.vreturn dX9_enters_54 ⟨rfl, h⟩
set_option maxRecDepth 10000 in
theorem e_X9_isEmpty {d : Nat} {w : Wd} {K : Int → Wd → Prop} {a1 : Int}  
    (h : (-2147483648 ≤ (0 + a1) ∧ (0 + a1) ≤ 2147483647) ∧ (0 ≤ (0 + a1) ∧ (0 + a1) < 2778) ∧ ((¬ (w 116 (0 + a1)) = 0 → K 0 w) ∧ ((w 116 (0 + a1)) = 0 → ((a1 = (w 115 42) → K 0 w) ∧ (¬ a1 = (w 115 42) → K 1 w))))) :
    E_X9_isEmpty d [.inr (.inr 115), .inl a1] w K := by
  refine EvA.of (by decide +kernel) (Nat.le_of_ble_eq_true rfl) ?_
  change W_X9_isEmpty d 0 [some (.inr (.inr 115)), some (.inl a1)] [] w K
  refine WA.aload_n dX9_isEmpty_0 rfl (by decide) ?_
  refine gxX9_7 rfl rfl dX9_isEmpty_1 ob_115 ?_
  refine WA.iconst dX9_isEmpty_4 ⟨by decide, by decide⟩ ?_
  refine WA.iload_n dX9_isEmpty_5 rfl ?_
  obtain ⟨s1, h⟩ := h
  refine WA.iadd dX9_isEmpty_6 s1 ?_
  obtain ⟨s2, h⟩ := h
  refine WA.iaload dX9_isEmpty_7 ob_116 s2.1 s2.2 ?_
  refine WA.if_ne (tgt := 23) dX9_isEmpty_8 (by decide) (fun hc => ?_) (fun hc => ?_)
  · have h := h.1 hc
    refine WA.iconst dX9_isEmpty_23 ⟨by decide, by decide⟩ ?_
    exact WA.zreturn dX9_isEmpty_24 (by decide) ⟨_, rfl, h⟩
  · have h := h.2 hc
    refine WA.iload_n dX9_isEmpty_11 rfl ?_
    refine WA.aload_n dX9_isEmpty_12 rfl (by decide) ?_
    refine gfX9_97 rfl dX9_isEmpty_13 ob_115 ?_
    refine WA.icmp_eq (tgt := 23) dX9_isEmpty_16 (by decide) (fun hc => ?_) (fun hc => ?_)
    · have h := h.1 hc
      refine WA.iconst dX9_isEmpty_23 ⟨by decide, by decide⟩ ?_
      exact WA.zreturn dX9_isEmpty_24 (by decide) ⟨_, rfl, h⟩
    · have h := h.2 hc
      refine WA.iconst dX9_isEmpty_19 ⟨by decide, by decide⟩ ?_
      refine WA.goto (tgt := 24) dX9_isEmpty_20 (by decide) ?_
      exact WA.zreturn dX9_isEmpty_24 (by decide) ⟨_, rfl, h⟩
set_option maxRecDepth 10000 in
theorem v_X9_reading_4 {d : Nat} {w : Wd} {K : Int → Wd → Prop} {a1 v2 v3 : Int}  
    (h : (0 ≤ (w 115 36) ∧ (w 115 36) < 72) ∧ (((w 123 (w 115 36)) ≤ v3 → ((¬ v2 = 0 → (0 ≤ a1 ∧ a1 < 72) ∧ ((¬ (w 131 a1) = 0 → (∀ w1, w1 = wset w 115 39 0 → ((¬ (w1 115 39) = 0 → (0 ≤ a1 ∧ a1 < 72) ∧ K (w1 119 a1) w1) ∧ ((w1 115 39) = 0 → (0 ≤ a1 ∧ a1 < 72) ∧ (((w1 120 a1) ≤ 0 → (0 ≤ a1 ∧ a1 < 72) ∧ K (w1 119 a1) w1) ∧ (¬ ((w1 120 a1) ≤ 0) → (0 ≤ a1 ∧ a1 < 72) ∧ C_X9_fails d [.inr (.inr 115), .inl (w1 120 a1)] w1 (fun w2 => (0 ≤ a1 ∧ a1 < 72) ∧ K (w2 119 a1) w2))))))) ∧ ((w 131 a1) = 0 → (∀ w3, w3 = wset w 115 39 1 → ((¬ (w3 115 39) = 0 → (0 ≤ a1 ∧ a1 < 72) ∧ K (w3 119 a1) w3) ∧ ((w3 115 39) = 0 → (0 ≤ a1 ∧ a1 < 72) ∧ (((w3 120 a1) ≤ 0 → (0 ≤ a1 ∧ a1 < 72) ∧ K (w3 119 a1) w3) ∧ (¬ ((w3 120 a1) ≤ 0) → (0 ≤ a1 ∧ a1 < 72) ∧ C_X9_fails d [.inr (.inr 115), .inl (w3 120 a1)] w3 (fun w4 => (0 ≤ a1 ∧ a1 < 72) ∧ K (w4 119 a1) w4))))))))) ∧ (v2 = 0 → (-2147483648 ≤ (72 * (w 115 36)) ∧ (72 * (w 115 36)) ≤ 2147483647) ∧ (0 ≤ (w 115 36) ∧ (w 115 36) < 72) ∧ (-2147483648 ≤ ((72 * (w 115 36)) + (w 123 (w 115 36))) ∧ ((72 * (w 115 36)) + (w 123 (w 115 36))) ≤ 2147483647) ∧ (0 ≤ ((72 * (w 115 36)) + (w 123 (w 115 36))) ∧ ((72 * (w 115 36)) + (w 123 (w 115 36))) < 5184) ∧ (∀ w5, w5 = wset w 124 ((72 * (w 115 36)) + (w 123 (w 115 36))) a1 → (0 ≤ (w5 115 36) ∧ (w5 115 36) < 72) ∧ (-2147483648 ≤ ((w5 123 (w5 115 36)) + 1) ∧ ((w5 123 (w5 115 36)) + 1) ≤ 2147483647) ∧ (0 ≤ (w5 115 36) ∧ (w5 115 36) < 72) ∧ (∀ w6, w6 = wset w5 123 (w5 115 36) ((w5 123 (w5 115 36)) + 1) → (0 ≤ a1 ∧ a1 < 72) ∧ ((¬ (w6 131 a1) = 0 → (∀ w7, w7 = wset w6 115 39 0 → ((¬ (w7 115 39) = 0 → (0 ≤ a1 ∧ a1 < 72) ∧ K (w7 119 a1) w7) ∧ ((w7 115 39) = 0 → (0 ≤ a1 ∧ a1 < 72) ∧ (((w7 120 a1) ≤ 0 → (0 ≤ a1 ∧ a1 < 72) ∧ K (w7 119 a1) w7) ∧ (¬ ((w7 120 a1) ≤ 0) → (0 ≤ a1 ∧ a1 < 72) ∧ C_X9_fails d [.inr (.inr 115), .inl (w7 120 a1)] w7 (fun w8 => (0 ≤ a1 ∧ a1 < 72) ∧ K (w8 119 a1) w8))))))) ∧ ((w6 131 a1) = 0 → (∀ w9, w9 = wset w6 115 39 1 → ((¬ (w9 115 39) = 0 → (0 ≤ a1 ∧ a1 < 72) ∧ K (w9 119 a1) w9) ∧ ((w9 115 39) = 0 → (0 ≤ a1 ∧ a1 < 72) ∧ (((w9 120 a1) ≤ 0 → (0 ≤ a1 ∧ a1 < 72) ∧ K (w9 119 a1) w9) ∧ (¬ ((w9 120 a1) ≤ 0) → (0 ≤ a1 ∧ a1 < 72) ∧ C_X9_fails d [.inr (.inr 115), .inl (w9 120 a1)] w9 (fun w10 => (0 ≤ a1 ∧ a1 < 72) ∧ K (w10 119 a1) w10))))))))))))) ∧ (¬ ((w 123 (w 115 36)) ≤ v3) → ((¬ v2 = 0 → (-2147483648 ≤ (v3 + 1) ∧ (v3 + 1) ≤ 2147483647) ∧ W_X9_reading d 4 [some (.inr (.inr 115)), some (.inl a1), some (.inl 1), some (.inl (v3 + 1))] [] w K) ∧ (v2 = 0 → (-2147483648 ≤ (72 * (w 115 36)) ∧ (72 * (w 115 36)) ≤ 2147483647) ∧ (-2147483648 ≤ ((72 * (w 115 36)) + v3) ∧ ((72 * (w 115 36)) + v3) ≤ 2147483647) ∧ (0 ≤ ((72 * (w 115 36)) + v3) ∧ ((72 * (w 115 36)) + v3) < 5184) ∧ ((¬ (w 124 ((72 * (w 115 36)) + v3)) = a1 → (-2147483648 ≤ (v3 + 1) ∧ (v3 + 1) ≤ 2147483647) ∧ W_X9_reading d 4 [some (.inr (.inr 115)), some (.inl a1), some (.inl 0), some (.inl (v3 + 1))] [] w K) ∧ ((w 124 ((72 * (w 115 36)) + v3)) = a1 → (-2147483648 ≤ (v3 + 1) ∧ (v3 + 1) ≤ 2147483647) ∧ W_X9_reading d 4 [some (.inr (.inr 115)), some (.inl a1), some (.inl 1), some (.inl (v3 + 1))] [] w K))))))) :
    W_X9_reading d 4 [some (.inr (.inr 115)), some (.inl a1), some (.inl v2), some (.inl v3)] [] w K := by
  refine WA.iload_n dX9_reading_4 rfl ?_
  refine WA.aload_n dX9_reading_5 rfl (by decide) ?_
  refine gxX9_32 rfl rfl dX9_reading_6 ob_115 ?_
  refine WA.aload_n dX9_reading_9 rfl (by decide) ?_
  refine gfX9_236 rfl dX9_reading_10 ob_115 ?_
  obtain ⟨s1, h⟩ := h
  refine WA.iaload dX9_reading_13 ob_123 s1.1 s1.2 ?_
  refine WA.icmp_ge (tgt := 51) dX9_reading_14 (by decide) (fun hc => ?_) (fun hc => ?_)
  · have h := h.1 hc
    refine WA.iload_n dX9_reading_51 rfl ?_
    refine WA.if_ne (tgt := 91) dX9_reading_52 (by decide) (fun hc => ?_) (fun hc => ?_)
    · have h := h.1 hc
      refine WA.aload_n dX9_reading_91 rfl (by decide) ?_
      refine WA.aload_n dX9_reading_92 rfl (by decide) ?_
      refine gxX9_56 rfl rfl dX9_reading_93 ob_115 ?_
      refine WA.iload_n dX9_reading_96 rfl ?_
      obtain ⟨s2, h⟩ := h
      refine WA.zaload dX9_reading_97 ob_131 s2.1 s2.2 ?_
      refine WA.if_ne (tgt := 105) dX9_reading_98 (by decide) (fun hc => ?_) (fun hc => ?_)
      · have h := h.1 hc
        refine WA.iconst dX9_reading_105 ⟨by decide, by decide⟩ ?_
        obtain ⟨w1, qw1⟩ : ∃ z, z = wset w 115 39 0 := ⟨_, rfl⟩
        have h := h w1 qw1
        refine pfX9_252 rfl dX9_reading_106 ob_115 (by decide) ?_
        rw [← qw1]
        refine WA.aload_n dX9_reading_109 rfl (by decide) ?_
        refine gfX9_252 rfl dX9_reading_110 ob_115 ?_
        refine WA.if_ne (tgt := 135) dX9_reading_113 (by decide) (fun hc => ?_) (fun hc => ?_)
        · have h := h.1 hc
          refine WA.aload_n dX9_reading_135 rfl (by decide) ?_
          refine gxX9_19 rfl rfl dX9_reading_136 ob_115 ?_
          refine WA.iload_n dX9_reading_139 rfl ?_
          obtain ⟨s3, h⟩ := h
          refine WA.iaload dX9_reading_140 ob_119 s3.1 s3.2 ?_
          refine WA.i2l dX9_reading_141 ?_
          exact WA.lreturn dX9_reading_142 ⟨_, rfl, h⟩
        · have h := h.2 hc
          refine WA.aload_n dX9_reading_116 rfl (by decide) ?_
          refine gxX9_22 rfl rfl dX9_reading_117 ob_115 ?_
          refine WA.iload_n dX9_reading_120 rfl ?_
          obtain ⟨s4, h⟩ := h
          refine WA.iaload dX9_reading_121 ob_120 s4.1 s4.2 ?_
          refine WA.if_le (tgt := 135) dX9_reading_122 (by decide) (fun hc => ?_) (fun hc => ?_)
          · have h := h.1 hc
            refine WA.aload_n dX9_reading_135 rfl (by decide) ?_
            refine gxX9_19 rfl rfl dX9_reading_136 ob_115 ?_
            refine WA.iload_n dX9_reading_139 rfl ?_
            obtain ⟨s5, h⟩ := h
            refine WA.iaload dX9_reading_140 ob_119 s5.1 s5.2 ?_
            refine WA.i2l dX9_reading_141 ?_
            exact WA.lreturn dX9_reading_142 ⟨_, rfl, h⟩
          · have h := h.2 hc
            refine WA.aload_n dX9_reading_125 rfl (by decide) ?_
            refine WA.aload_n dX9_reading_126 rfl (by decide) ?_
            refine gxX9_22 rfl rfl dX9_reading_127 ob_115 ?_
            refine WA.iload_n dX9_reading_130 rfl ?_
            obtain ⟨s6, h⟩ := h
            refine WA.iaload dX9_reading_131 ob_120 s6.1 s6.2 ?_
            obtain ⟨d1, hd1, h⟩ := h
            refine WA.callV1 (kc := 0) (ks := 0) (kc' := 0) (ks' := 0) dX9_reading_132 lkX9_246 rfl rfl rfl ob_115 rfl (Nat.le_of_ble_eq_true rfl) hd1 h (fun r w2 hK => ?_)
            obtain ⟨rfl, h⟩ := hK
            change WA _ _ _ _ _ _ _ _ _ _ _ [] _ _
            refine WA.aload_n dX9_reading_135 rfl (by decide) ?_
            refine gxX9_19 rfl rfl dX9_reading_136 ob_115 ?_
            refine WA.iload_n dX9_reading_139 rfl ?_
            obtain ⟨s7, h⟩ := h
            refine WA.iaload dX9_reading_140 ob_119 s7.1 s7.2 ?_
            refine WA.i2l dX9_reading_141 ?_
            exact WA.lreturn dX9_reading_142 ⟨_, rfl, h⟩
      · have h := h.2 hc
        refine WA.iconst dX9_reading_101 ⟨by decide, by decide⟩ ?_
        refine WA.goto (tgt := 106) dX9_reading_102 (by decide) ?_
        obtain ⟨w3, qw3⟩ : ∃ z, z = wset w 115 39 1 := ⟨_, rfl⟩
        have h := h w3 qw3
        refine pfX9_252 rfl dX9_reading_106 ob_115 (by decide) ?_
        rw [← qw3]
        refine WA.aload_n dX9_reading_109 rfl (by decide) ?_
        refine gfX9_252 rfl dX9_reading_110 ob_115 ?_
        refine WA.if_ne (tgt := 135) dX9_reading_113 (by decide) (fun hc => ?_) (fun hc => ?_)
        · have h := h.1 hc
          refine WA.aload_n dX9_reading_135 rfl (by decide) ?_
          refine gxX9_19 rfl rfl dX9_reading_136 ob_115 ?_
          refine WA.iload_n dX9_reading_139 rfl ?_
          obtain ⟨s8, h⟩ := h
          refine WA.iaload dX9_reading_140 ob_119 s8.1 s8.2 ?_
          refine WA.i2l dX9_reading_141 ?_
          exact WA.lreturn dX9_reading_142 ⟨_, rfl, h⟩
        · have h := h.2 hc
          refine WA.aload_n dX9_reading_116 rfl (by decide) ?_
          refine gxX9_22 rfl rfl dX9_reading_117 ob_115 ?_
          refine WA.iload_n dX9_reading_120 rfl ?_
          obtain ⟨s9, h⟩ := h
          refine WA.iaload dX9_reading_121 ob_120 s9.1 s9.2 ?_
          refine WA.if_le (tgt := 135) dX9_reading_122 (by decide) (fun hc => ?_) (fun hc => ?_)
          · have h := h.1 hc
            refine WA.aload_n dX9_reading_135 rfl (by decide) ?_
            refine gxX9_19 rfl rfl dX9_reading_136 ob_115 ?_
            refine WA.iload_n dX9_reading_139 rfl ?_
            obtain ⟨s10, h⟩ := h
            refine WA.iaload dX9_reading_140 ob_119 s10.1 s10.2 ?_
            refine WA.i2l dX9_reading_141 ?_
            exact WA.lreturn dX9_reading_142 ⟨_, rfl, h⟩
          · have h := h.2 hc
            refine WA.aload_n dX9_reading_125 rfl (by decide) ?_
            refine WA.aload_n dX9_reading_126 rfl (by decide) ?_
            refine gxX9_22 rfl rfl dX9_reading_127 ob_115 ?_
            refine WA.iload_n dX9_reading_130 rfl ?_
            obtain ⟨s11, h⟩ := h
            refine WA.iaload dX9_reading_131 ob_120 s11.1 s11.2 ?_
            obtain ⟨d1, hd1, h⟩ := h
            refine WA.callV1 (kc := 0) (ks := 0) (kc' := 0) (ks' := 0) dX9_reading_132 lkX9_246 rfl rfl rfl ob_115 rfl (Nat.le_of_ble_eq_true rfl) hd1 h (fun r w4 hK => ?_)
            obtain ⟨rfl, h⟩ := hK
            change WA _ _ _ _ _ _ _ _ _ _ _ [] _ _
            refine WA.aload_n dX9_reading_135 rfl (by decide) ?_
            refine gxX9_19 rfl rfl dX9_reading_136 ob_115 ?_
            refine WA.iload_n dX9_reading_139 rfl ?_
            obtain ⟨s12, h⟩ := h
            refine WA.iaload dX9_reading_140 ob_119 s12.1 s12.2 ?_
            refine WA.i2l dX9_reading_141 ?_
            exact WA.lreturn dX9_reading_142 ⟨_, rfl, h⟩
    · have h := h.2 hc
      refine WA.aload_n dX9_reading_55 rfl (by decide) ?_
      refine gxX9_35 rfl rfl dX9_reading_56 ob_115 ?_
      refine WA.bipush dX9_reading_59 ⟨by decide, by decide⟩ ?_
      refine WA.aload_n dX9_reading_61 rfl (by decide) ?_
      refine gfX9_236 rfl dX9_reading_62 ob_115 ?_
      obtain ⟨s13, h⟩ := h
      refine WA.imul dX9_reading_65 s13 ?_
      refine WA.aload_n dX9_reading_66 rfl (by decide) ?_
      refine gxX9_32 rfl rfl dX9_reading_67 ob_115 ?_
      refine WA.aload_n dX9_reading_70 rfl (by decide) ?_
      refine gfX9_236 rfl dX9_reading_71 ob_115 ?_
      obtain ⟨s14, h⟩ := h
      refine WA.iaload dX9_reading_74 ob_123 s14.1 s14.2 ?_
      obtain ⟨s15, h⟩ := h
      refine WA.iadd dX9_reading_75 s15 ?_
      refine WA.iload_n dX9_reading_76 rfl ?_
      obtain ⟨s16, h⟩ := h
      obtain ⟨w5, qw5⟩ : ∃ z, z = wset w 124 ((72 * (w 115 36)) + (w 123 (w 115 36))) a1 := ⟨_, rfl⟩
      have h := h w5 qw5
      refine WA.iastore dX9_reading_77 ob_124 s16.1 s16.2 ?_
      rw [← qw5]
      refine WA.aload_n dX9_reading_78 rfl (by decide) ?_
      refine gxX9_32 rfl rfl dX9_reading_79 ob_115 ?_
      refine WA.aload_n dX9_reading_82 rfl (by decide) ?_
      refine gfX9_236 rfl dX9_reading_83 ob_115 ?_
      refine WA.dup2 dX9_reading_86 rfl rfl ?_
      obtain ⟨s17, h⟩ := h
      refine WA.iaload dX9_reading_87 ob_123 s17.1 s17.2 ?_
      refine WA.iconst dX9_reading_88 ⟨by decide, by decide⟩ ?_
      obtain ⟨s18, h⟩ := h
      refine WA.iadd dX9_reading_89 s18 ?_
      obtain ⟨s19, h⟩ := h
      obtain ⟨w6, qw6⟩ : ∃ z, z = wset w5 123 (w5 115 36) ((w5 123 (w5 115 36)) + 1) := ⟨_, rfl⟩
      have h := h w6 qw6
      refine WA.iastore dX9_reading_90 ob_123 s19.1 s19.2 ?_
      rw [← qw6]
      refine WA.aload_n dX9_reading_91 rfl (by decide) ?_
      refine WA.aload_n dX9_reading_92 rfl (by decide) ?_
      refine gxX9_56 rfl rfl dX9_reading_93 ob_115 ?_
      refine WA.iload_n dX9_reading_96 rfl ?_
      obtain ⟨s20, h⟩ := h
      refine WA.zaload dX9_reading_97 ob_131 s20.1 s20.2 ?_
      refine WA.if_ne (tgt := 105) dX9_reading_98 (by decide) (fun hc => ?_) (fun hc => ?_)
      · have h := h.1 hc
        refine WA.iconst dX9_reading_105 ⟨by decide, by decide⟩ ?_
        obtain ⟨w7, qw7⟩ : ∃ z, z = wset w6 115 39 0 := ⟨_, rfl⟩
        have h := h w7 qw7
        refine pfX9_252 rfl dX9_reading_106 ob_115 (by decide) ?_
        rw [← qw7]
        refine WA.aload_n dX9_reading_109 rfl (by decide) ?_
        refine gfX9_252 rfl dX9_reading_110 ob_115 ?_
        refine WA.if_ne (tgt := 135) dX9_reading_113 (by decide) (fun hc => ?_) (fun hc => ?_)
        · have h := h.1 hc
          refine WA.aload_n dX9_reading_135 rfl (by decide) ?_
          refine gxX9_19 rfl rfl dX9_reading_136 ob_115 ?_
          refine WA.iload_n dX9_reading_139 rfl ?_
          obtain ⟨s21, h⟩ := h
          refine WA.iaload dX9_reading_140 ob_119 s21.1 s21.2 ?_
          refine WA.i2l dX9_reading_141 ?_
          exact WA.lreturn dX9_reading_142 ⟨_, rfl, h⟩
        · have h := h.2 hc
          refine WA.aload_n dX9_reading_116 rfl (by decide) ?_
          refine gxX9_22 rfl rfl dX9_reading_117 ob_115 ?_
          refine WA.iload_n dX9_reading_120 rfl ?_
          obtain ⟨s22, h⟩ := h
          refine WA.iaload dX9_reading_121 ob_120 s22.1 s22.2 ?_
          refine WA.if_le (tgt := 135) dX9_reading_122 (by decide) (fun hc => ?_) (fun hc => ?_)
          · have h := h.1 hc
            refine WA.aload_n dX9_reading_135 rfl (by decide) ?_
            refine gxX9_19 rfl rfl dX9_reading_136 ob_115 ?_
            refine WA.iload_n dX9_reading_139 rfl ?_
            obtain ⟨s23, h⟩ := h
            refine WA.iaload dX9_reading_140 ob_119 s23.1 s23.2 ?_
            refine WA.i2l dX9_reading_141 ?_
            exact WA.lreturn dX9_reading_142 ⟨_, rfl, h⟩
          · have h := h.2 hc
            refine WA.aload_n dX9_reading_125 rfl (by decide) ?_
            refine WA.aload_n dX9_reading_126 rfl (by decide) ?_
            refine gxX9_22 rfl rfl dX9_reading_127 ob_115 ?_
            refine WA.iload_n dX9_reading_130 rfl ?_
            obtain ⟨s24, h⟩ := h
            refine WA.iaload dX9_reading_131 ob_120 s24.1 s24.2 ?_
            obtain ⟨d1, hd1, h⟩ := h
            refine WA.callV1 (kc := 0) (ks := 0) (kc' := 0) (ks' := 0) dX9_reading_132 lkX9_246 rfl rfl rfl ob_115 rfl (Nat.le_of_ble_eq_true rfl) hd1 h (fun r w8 hK => ?_)
            obtain ⟨rfl, h⟩ := hK
            change WA _ _ _ _ _ _ _ _ _ _ _ [] _ _
            refine WA.aload_n dX9_reading_135 rfl (by decide) ?_
            refine gxX9_19 rfl rfl dX9_reading_136 ob_115 ?_
            refine WA.iload_n dX9_reading_139 rfl ?_
            obtain ⟨s25, h⟩ := h
            refine WA.iaload dX9_reading_140 ob_119 s25.1 s25.2 ?_
            refine WA.i2l dX9_reading_141 ?_
            exact WA.lreturn dX9_reading_142 ⟨_, rfl, h⟩
      · have h := h.2 hc
        refine WA.iconst dX9_reading_101 ⟨by decide, by decide⟩ ?_
        refine WA.goto (tgt := 106) dX9_reading_102 (by decide) ?_
        obtain ⟨w9, qw9⟩ : ∃ z, z = wset w6 115 39 1 := ⟨_, rfl⟩
        have h := h w9 qw9
        refine pfX9_252 rfl dX9_reading_106 ob_115 (by decide) ?_
        rw [← qw9]
        refine WA.aload_n dX9_reading_109 rfl (by decide) ?_
        refine gfX9_252 rfl dX9_reading_110 ob_115 ?_
        refine WA.if_ne (tgt := 135) dX9_reading_113 (by decide) (fun hc => ?_) (fun hc => ?_)
        · have h := h.1 hc
          refine WA.aload_n dX9_reading_135 rfl (by decide) ?_
          refine gxX9_19 rfl rfl dX9_reading_136 ob_115 ?_
          refine WA.iload_n dX9_reading_139 rfl ?_
          obtain ⟨s26, h⟩ := h
          refine WA.iaload dX9_reading_140 ob_119 s26.1 s26.2 ?_
          refine WA.i2l dX9_reading_141 ?_
          exact WA.lreturn dX9_reading_142 ⟨_, rfl, h⟩
        · have h := h.2 hc
          refine WA.aload_n dX9_reading_116 rfl (by decide) ?_
          refine gxX9_22 rfl rfl dX9_reading_117 ob_115 ?_
          refine WA.iload_n dX9_reading_120 rfl ?_
          obtain ⟨s27, h⟩ := h
          refine WA.iaload dX9_reading_121 ob_120 s27.1 s27.2 ?_
          refine WA.if_le (tgt := 135) dX9_reading_122 (by decide) (fun hc => ?_) (fun hc => ?_)
          · have h := h.1 hc
            refine WA.aload_n dX9_reading_135 rfl (by decide) ?_
            refine gxX9_19 rfl rfl dX9_reading_136 ob_115 ?_
            refine WA.iload_n dX9_reading_139 rfl ?_
            obtain ⟨s28, h⟩ := h
            refine WA.iaload dX9_reading_140 ob_119 s28.1 s28.2 ?_
            refine WA.i2l dX9_reading_141 ?_
            exact WA.lreturn dX9_reading_142 ⟨_, rfl, h⟩
          · have h := h.2 hc
            refine WA.aload_n dX9_reading_125 rfl (by decide) ?_
            refine WA.aload_n dX9_reading_126 rfl (by decide) ?_
            refine gxX9_22 rfl rfl dX9_reading_127 ob_115 ?_
            refine WA.iload_n dX9_reading_130 rfl ?_
            obtain ⟨s29, h⟩ := h
            refine WA.iaload dX9_reading_131 ob_120 s29.1 s29.2 ?_
            obtain ⟨d1, hd1, h⟩ := h
            refine WA.callV1 (kc := 0) (ks := 0) (kc' := 0) (ks' := 0) dX9_reading_132 lkX9_246 rfl rfl rfl ob_115 rfl (Nat.le_of_ble_eq_true rfl) hd1 h (fun r w10 hK => ?_)
            obtain ⟨rfl, h⟩ := hK
            change WA _ _ _ _ _ _ _ _ _ _ _ [] _ _
            refine WA.aload_n dX9_reading_135 rfl (by decide) ?_
            refine gxX9_19 rfl rfl dX9_reading_136 ob_115 ?_
            refine WA.iload_n dX9_reading_139 rfl ?_
            obtain ⟨s30, h⟩ := h
            refine WA.iaload dX9_reading_140 ob_119 s30.1 s30.2 ?_
            refine WA.i2l dX9_reading_141 ?_
            exact WA.lreturn dX9_reading_142 ⟨_, rfl, h⟩
  · have h := h.2 hc
    refine WA.iload_n dX9_reading_17 rfl ?_
    refine WA.if_ne (tgt := 39) dX9_reading_18 (by decide) (fun hc => ?_) (fun hc => ?_)
    · have h := h.1 hc
      refine WA.iconst dX9_reading_39 ⟨by decide, by decide⟩ ?_
      refine WA.goto (tgt := 44) dX9_reading_40 (by decide) ?_
      refine WA.istore_n (als' := [some (.inr (.inr 115)), some (.inl a1), some (.inl 1), some (.inl v3)]) dX9_reading_44 (Nat.le_of_ble_eq_true rfl) rfl ?_
      obtain ⟨s31, h⟩ := h
      refine WA.iinc (als' := [some (.inr (.inr 115)), some (.inl a1), some (.inl 1), some (.inl (v3 + 1))]) dX9_reading_45 rfl s31 rfl ?_
      refine WA.goto (tgt := 4) dX9_reading_48 (by decide) ?_
      exact h
    · have h := h.2 hc
      refine WA.aload_n dX9_reading_21 rfl (by decide) ?_
      refine gxX9_35 rfl rfl dX9_reading_22 ob_115 ?_
      refine WA.bipush dX9_reading_25 ⟨by decide, by decide⟩ ?_
      refine WA.aload_n dX9_reading_27 rfl (by decide) ?_
      refine gfX9_236 rfl dX9_reading_28 ob_115 ?_
      obtain ⟨s32, h⟩ := h
      refine WA.imul dX9_reading_31 s32 ?_
      refine WA.iload_n dX9_reading_32 rfl ?_
      obtain ⟨s33, h⟩ := h
      refine WA.iadd dX9_reading_33 s33 ?_
      obtain ⟨s34, h⟩ := h
      refine WA.iaload dX9_reading_34 ob_124 s34.1 s34.2 ?_
      refine WA.iload_n dX9_reading_35 rfl ?_
      refine WA.icmp_ne (tgt := 43) dX9_reading_36 (by decide) (fun hc => ?_) (fun hc => ?_)
      · have h := h.1 hc
        refine WA.iconst dX9_reading_43 ⟨by decide, by decide⟩ ?_
        refine WA.istore_n (als' := [some (.inr (.inr 115)), some (.inl a1), some (.inl 0), some (.inl v3)]) dX9_reading_44 (Nat.le_of_ble_eq_true rfl) rfl ?_
        obtain ⟨s35, h⟩ := h
        refine WA.iinc (als' := [some (.inr (.inr 115)), some (.inl a1), some (.inl 0), some (.inl (v3 + 1))]) dX9_reading_45 rfl s35 rfl ?_
        refine WA.goto (tgt := 4) dX9_reading_48 (by decide) ?_
        exact h
      · have h := h.2 hc
        refine WA.iconst dX9_reading_39 ⟨by decide, by decide⟩ ?_
        refine WA.goto (tgt := 44) dX9_reading_40 (by decide) ?_
        refine WA.istore_n (als' := [some (.inr (.inr 115)), some (.inl a1), some (.inl 1), some (.inl v3)]) dX9_reading_44 (Nat.le_of_ble_eq_true rfl) rfl ?_
        obtain ⟨s36, h⟩ := h
        refine WA.iinc (als' := [some (.inr (.inr 115)), some (.inl a1), some (.inl 1), some (.inl (v3 + 1))]) dX9_reading_45 rfl s36 rfl ?_
        refine WA.goto (tgt := 4) dX9_reading_48 (by decide) ?_
        exact h
set_option maxRecDepth 10000 in
theorem e_X9_reading {d : Nat} {w : Wd} {K : Int → Wd → Prop} {a1 : Int}  
    (h : W_X9_reading d 4 [some (.inr (.inr 115)), some (.inl a1), some (.inl 0), some (.inl 0)] [] w K) :
    E_X9_reading d [.inr (.inr 115), .inl a1] w K := by
  refine EvA.of (by decide +kernel) (Nat.le_of_ble_eq_true rfl) ?_
  change W_X9_reading d 0 [some (.inr (.inr 115)), some (.inl a1), none, none] [] w K
  refine WA.iconst dX9_reading_0 ⟨by decide, by decide⟩ ?_
  refine WA.istore_n (als' := [some (.inr (.inr 115)), some (.inl a1), some (.inl 0), none]) dX9_reading_1 (Nat.le_of_ble_eq_true rfl) rfl ?_
  refine WA.iconst dX9_reading_2 ⟨by decide, by decide⟩ ?_
  refine WA.istore_n (als' := [some (.inr (.inr 115)), some (.inl a1), some (.inl 0), some (.inl 0)]) dX9_reading_3 (Nat.le_of_ble_eq_true rfl) rfl ?_
  exact h
set_option maxRecDepth 10000 in
theorem e_X9_goesOn {d : Nat} {w : Wd} {K : Int → Wd → Prop}  
    (h : ((¬ (w 115 40) = 0 → K 0 w) ∧ ((w 115 40) = 0 → ((¬ (w 115 39) = 0 → K 0 w) ∧ ((w 115 39) = 0 → K 1 w))))) :
    E_X9_goesOn d [.inr (.inr 115)] w K := by
  refine EvA.of (by decide +kernel) (Nat.le_of_ble_eq_true rfl) ?_
  change W_X9_goesOn d 0 [some (.inr (.inr 115))] [] w K
  refine WA.aload_n dX9_goesOn_0 rfl (by decide) ?_
  refine gfX9_239 rfl dX9_goesOn_1 ob_115 ?_
  refine WA.if_ne (tgt := 18) dX9_goesOn_4 (by decide) (fun hc => ?_) (fun hc => ?_)
  · have h := h.1 hc
    refine WA.iconst dX9_goesOn_18 ⟨by decide, by decide⟩ ?_
    exact WA.zreturn dX9_goesOn_19 (by decide) ⟨_, rfl, h⟩
  · have h := h.2 hc
    refine WA.aload_n dX9_goesOn_7 rfl (by decide) ?_
    refine gfX9_252 rfl dX9_goesOn_8 ob_115 ?_
    refine WA.if_ne (tgt := 18) dX9_goesOn_11 (by decide) (fun hc => ?_) (fun hc => ?_)
    · have h := h.1 hc
      refine WA.iconst dX9_goesOn_18 ⟨by decide, by decide⟩ ?_
      exact WA.zreturn dX9_goesOn_19 (by decide) ⟨_, rfl, h⟩
    · have h := h.2 hc
      refine WA.iconst dX9_goesOn_14 ⟨by decide, by decide⟩ ?_
      refine WA.goto (tgt := 19) dX9_goesOn_15 (by decide) ?_
      exact WA.zreturn dX9_goesOn_19 (by decide) ⟨_, rfl, h⟩
set_option maxRecDepth 10000 in
theorem e_X9_gives {d : Nat} {w : Wd} {K : Wd → Prop} {a1 : Int}  
    (h : (0 ≤ (w 115 23) ∧ (w 115 23) < 40) ∧ (((w 135 (w 115 23)) = 0 → (0 ≤ (w 115 23) ∧ (w 115 23) < 40) ∧ (∀ w1, w1 = wset w 135 (w 115 23) 0 → (0 ≤ (w1 115 23) ∧ (w1 115 23) < 40) ∧ (((w1 136 (w1 115 23)) = 0 → (0 ≤ (w1 115 23) ∧ (w1 115 23) < 40) ∧ (∀ w2, w2 = wset w1 137 (w1 115 23) a1 → (0 ≤ (w2 115 23) ∧ (w2 115 23) < 40) ∧ (∀ w3, w3 = wset w2 136 (w2 115 23) 1 → (∀ w4, w4 = wset w3 115 26 0 → K w4)))) ∧ (¬ (w1 136 (w1 115 23)) = 0 → ((¬ (w1 115 40) = 0 → (0 ≤ (w1 115 23) ∧ (w1 115 23) < 40) ∧ (∀ w5, w5 = wset w1 137 (w1 115 23) a1 → (0 ≤ (w5 115 23) ∧ (w5 115 23) < 40) ∧ (∀ w6, w6 = wset w5 136 (w5 115 23) 1 → (∀ w7, w7 = wset w6 115 26 0 → K w7)))) ∧ ((w1 115 40) = 0 → (0 ≤ (w1 115 23) ∧ (w1 115 23) < 40) ∧ (-9223372036854775808 ≤ ((w1 137 (w1 115 23)) * a1) ∧ ((w1 137 (w1 115 23)) * a1) ≤ 9223372036854775807) ∧ C_X9_bound d [.inr (.inr 115), .inr (.inl ((w1 137 (w1 115 23)) * a1))] w1 (fun x1 w8 => (0 ≤ (w1 115 23) ∧ (w1 115 23) < 40) ∧ (∀ w9, w9 = wset w8 137 (w1 115 23) x1 → (0 ≤ (w9 115 23) ∧ (w9 115 23) < 40) ∧ (∀ w10, w10 = wset w9 136 (w9 115 23) 1 → (∀ w11, w11 = wset w10 115 26 0 → K w11)))))))))) ∧ (¬ (w 135 (w 115 23)) = 0 → (-9223372036854775808 ≤ (-a1) ∧ (-a1) ≤ 9223372036854775807) ∧ (0 ≤ (w 115 23) ∧ (w 115 23) < 40) ∧ (∀ w12, w12 = wset w 135 (w 115 23) 0 → (0 ≤ (w12 115 23) ∧ (w12 115 23) < 40) ∧ (((w12 136 (w12 115 23)) = 0 → (0 ≤ (w12 115 23) ∧ (w12 115 23) < 40) ∧ (∀ w13, w13 = wset w12 137 (w12 115 23) (-a1) → (0 ≤ (w13 115 23) ∧ (w13 115 23) < 40) ∧ (∀ w14, w14 = wset w13 136 (w13 115 23) 1 → (∀ w15, w15 = wset w14 115 26 0 → K w15)))) ∧ (¬ (w12 136 (w12 115 23)) = 0 → ((¬ (w12 115 40) = 0 → (0 ≤ (w12 115 23) ∧ (w12 115 23) < 40) ∧ (∀ w16, w16 = wset w12 137 (w12 115 23) (-a1) → (0 ≤ (w16 115 23) ∧ (w16 115 23) < 40) ∧ (∀ w17, w17 = wset w16 136 (w16 115 23) 1 → (∀ w18, w18 = wset w17 115 26 0 → K w18)))) ∧ ((w12 115 40) = 0 → (0 ≤ (w12 115 23) ∧ (w12 115 23) < 40) ∧ (-9223372036854775808 ≤ ((w12 137 (w12 115 23)) * (-a1)) ∧ ((w12 137 (w12 115 23)) * (-a1)) ≤ 9223372036854775807) ∧ C_X9_bound d [.inr (.inr 115), .inr (.inl ((w12 137 (w12 115 23)) * (-a1)))] w12 (fun x2 w19 => (0 ≤ (w12 115 23) ∧ (w12 115 23) < 40) ∧ (∀ w20, w20 = wset w19 137 (w12 115 23) x2 → (0 ≤ (w20 115 23) ∧ (w20 115 23) < 40) ∧ (∀ w21, w21 = wset w20 136 (w20 115 23) 1 → (∀ w22, w22 = wset w21 115 26 0 → K w22)))))))))))) :
    E_X9_gives d [.inr (.inr 115), .inr (.inl a1)] w K := by
  refine EvA.of (by decide +kernel) (Nat.le_of_ble_eq_true rfl) ?_
  change W_X9_gives d 0 [some (.inr (.inr 115)), some (.inr (.inl a1)), none, none, none] [] w K
  refine WA.aload_n dX9_gives_0 rfl (by decide) ?_
  refine gxX9_72 rfl rfl dX9_gives_1 ob_115 ?_
  refine WA.aload_n dX9_gives_4 rfl (by decide) ?_
  refine gfX9_119 rfl dX9_gives_5 ob_115 ?_
  obtain ⟨s1, h⟩ := h
  refine WA.zaload dX9_gives_8 ob_135 s1.1 s1.2 ?_
  refine WA.if_eq (tgt := 17) dX9_gives_9 (by decide) (fun hc => ?_) (fun hc => ?_)
  · have h := h.1 hc
    refine WA.lload_n dX9_gives_17 rfl ?_
    refine WA.lstore_n (als' := [some (.inr (.inr 115)), some (.inr (.inl a1)), none, some (.inr (.inl a1)), none]) dX9_gives_18 (Nat.le_of_ble_eq_true rfl) rfl ?_
    refine WA.aload_n dX9_gives_19 rfl (by decide) ?_
    refine gxX9_72 rfl rfl dX9_gives_20 ob_115 ?_
    refine WA.aload_n dX9_gives_23 rfl (by decide) ?_
    refine gfX9_119 rfl dX9_gives_24 ob_115 ?_
    refine WA.iconst dX9_gives_27 ⟨by decide, by decide⟩ ?_
    obtain ⟨s2, h⟩ := h
    obtain ⟨w1, qw1⟩ : ∃ z, z = wset w 135 (w 115 23) 0 := ⟨_, rfl⟩
    have h := h w1 qw1
    refine WA.zastore dX9_gives_28 ob_135 s2.1 s2.2 (by decide) ?_
    rw [← qw1]
    refine WA.aload_n dX9_gives_29 rfl (by decide) ?_
    refine gxX9_78 rfl rfl dX9_gives_30 ob_115 ?_
    refine WA.aload_n dX9_gives_33 rfl (by decide) ?_
    refine gfX9_119 rfl dX9_gives_34 ob_115 ?_
    refine WA.aload_n dX9_gives_37 rfl (by decide) ?_
    refine gxX9_75 rfl rfl dX9_gives_38 ob_115 ?_
    refine WA.aload_n dX9_gives_41 rfl (by decide) ?_
    refine gfX9_119 rfl dX9_gives_42 ob_115 ?_
    obtain ⟨s3, h⟩ := h
    refine WA.zaload dX9_gives_45 ob_136 s3.1 s3.2 ?_
    refine WA.if_eq (tgt := 74) dX9_gives_46 (by decide) (fun hc => ?_) (fun hc => ?_)
    · have h := h.1 hc
      refine WA.lload_n dX9_gives_74 rfl ?_
      obtain ⟨s4, h⟩ := h
      obtain ⟨w2, qw2⟩ : ∃ z, z = wset w1 137 (w1 115 23) a1 := ⟨_, rfl⟩
      have h := h w2 qw2
      refine WA.lastore dX9_gives_75 ob_137 s4.1 s4.2 ?_
      rw [← qw2]
      refine WA.aload_n dX9_gives_76 rfl (by decide) ?_
      refine gxX9_75 rfl rfl dX9_gives_77 ob_115 ?_
      refine WA.aload_n dX9_gives_80 rfl (by decide) ?_
      refine gfX9_119 rfl dX9_gives_81 ob_115 ?_
      refine WA.iconst dX9_gives_84 ⟨by decide, by decide⟩ ?_
      obtain ⟨s5, h⟩ := h
      obtain ⟨w3, qw3⟩ : ∃ z, z = wset w2 136 (w2 115 23) 1 := ⟨_, rfl⟩
      have h := h w3 qw3
      refine WA.zastore dX9_gives_85 ob_136 s5.1 s5.2 (by decide) ?_
      rw [← qw3]
      refine WA.aload_n dX9_gives_86 rfl (by decide) ?_
      refine WA.iconst dX9_gives_87 ⟨by decide, by decide⟩ ?_
      obtain ⟨w4, qw4⟩ : ∃ z, z = wset w3 115 26 0 := ⟨_, rfl⟩
      have h := h w4 qw4
      refine pfX9_182 rfl dX9_gives_88 ob_115 (by decide) ?_
      rw [← qw4]
      exact WA.vreturn dX9_gives_91 ⟨rfl, h⟩
    · have h := h.2 hc
      refine WA.aload_n dX9_gives_49 rfl (by decide) ?_
      refine gfX9_239 rfl dX9_gives_50 ob_115 ?_
      refine WA.if_ne (tgt := 74) dX9_gives_53 (by decide) (fun hc => ?_) (fun hc => ?_)
      · have h := h.1 hc
        refine WA.lload_n dX9_gives_74 rfl ?_
        obtain ⟨s6, h⟩ := h
        obtain ⟨w5, qw5⟩ : ∃ z, z = wset w1 137 (w1 115 23) a1 := ⟨_, rfl⟩
        have h := h w5 qw5
        refine WA.lastore dX9_gives_75 ob_137 s6.1 s6.2 ?_
        rw [← qw5]
        refine WA.aload_n dX9_gives_76 rfl (by decide) ?_
        refine gxX9_75 rfl rfl dX9_gives_77 ob_115 ?_
        refine WA.aload_n dX9_gives_80 rfl (by decide) ?_
        refine gfX9_119 rfl dX9_gives_81 ob_115 ?_
        refine WA.iconst dX9_gives_84 ⟨by decide, by decide⟩ ?_
        obtain ⟨s7, h⟩ := h
        obtain ⟨w6, qw6⟩ : ∃ z, z = wset w5 136 (w5 115 23) 1 := ⟨_, rfl⟩
        have h := h w6 qw6
        refine WA.zastore dX9_gives_85 ob_136 s7.1 s7.2 (by decide) ?_
        rw [← qw6]
        refine WA.aload_n dX9_gives_86 rfl (by decide) ?_
        refine WA.iconst dX9_gives_87 ⟨by decide, by decide⟩ ?_
        obtain ⟨w7, qw7⟩ : ∃ z, z = wset w6 115 26 0 := ⟨_, rfl⟩
        have h := h w7 qw7
        refine pfX9_182 rfl dX9_gives_88 ob_115 (by decide) ?_
        rw [← qw7]
        exact WA.vreturn dX9_gives_91 ⟨rfl, h⟩
      · have h := h.2 hc
        refine WA.aload_n dX9_gives_56 rfl (by decide) ?_
        refine WA.aload_n dX9_gives_57 rfl (by decide) ?_
        refine gxX9_78 rfl rfl dX9_gives_58 ob_115 ?_
        refine WA.aload_n dX9_gives_61 rfl (by decide) ?_
        refine gfX9_119 rfl dX9_gives_62 ob_115 ?_
        obtain ⟨s8, h⟩ := h
        refine WA.laload dX9_gives_65 ob_137 s8.1 s8.2 ?_
        refine WA.lload_n dX9_gives_66 rfl ?_
        obtain ⟨s9, h⟩ := h
        refine WA.lmul dX9_gives_67 s9 ?_
        obtain ⟨d1, hd1, h⟩ := h
        refine WA.callV1 (kc := 0) (ks := 0) (kc' := 0) (ks' := 0) dX9_gives_68 lkX9_255 rfl rfl rfl ob_115 rfl (Nat.le_of_ble_eq_true rfl) hd1 h (fun r w8 hK => ?_)
        obtain ⟨x1, rfl, h⟩ := hK
        change WA _ _ _ _ _ _ _ _ _ _ _ [.inr (.inl x1), .inl (w1 115 23), .inr (.inr 137)] _ _
        refine WA.goto (tgt := 75) dX9_gives_71 (by decide) ?_
        obtain ⟨s10, h⟩ := h
        obtain ⟨w9, qw9⟩ : ∃ z, z = wset w8 137 (w1 115 23) x1 := ⟨_, rfl⟩
        have h := h w9 qw9
        refine WA.lastore dX9_gives_75 ob_137 s10.1 s10.2 ?_
        rw [← qw9]
        refine WA.aload_n dX9_gives_76 rfl (by decide) ?_
        refine gxX9_75 rfl rfl dX9_gives_77 ob_115 ?_
        refine WA.aload_n dX9_gives_80 rfl (by decide) ?_
        refine gfX9_119 rfl dX9_gives_81 ob_115 ?_
        refine WA.iconst dX9_gives_84 ⟨by decide, by decide⟩ ?_
        obtain ⟨s11, h⟩ := h
        obtain ⟨w10, qw10⟩ : ∃ z, z = wset w9 136 (w9 115 23) 1 := ⟨_, rfl⟩
        have h := h w10 qw10
        refine WA.zastore dX9_gives_85 ob_136 s11.1 s11.2 (by decide) ?_
        rw [← qw10]
        refine WA.aload_n dX9_gives_86 rfl (by decide) ?_
        refine WA.iconst dX9_gives_87 ⟨by decide, by decide⟩ ?_
        obtain ⟨w11, qw11⟩ : ∃ z, z = wset w10 115 26 0 := ⟨_, rfl⟩
        have h := h w11 qw11
        refine pfX9_182 rfl dX9_gives_88 ob_115 (by decide) ?_
        rw [← qw11]
        exact WA.vreturn dX9_gives_91 ⟨rfl, h⟩
  · have h := h.2 hc
    refine WA.lload_n dX9_gives_12 rfl ?_
    obtain ⟨s12, h⟩ := h
    refine WA.lneg dX9_gives_13 s12 ?_
    refine WA.goto (tgt := 18) dX9_gives_14 (by decide) ?_
    refine WA.lstore_n (als' := [some (.inr (.inr 115)), some (.inr (.inl a1)), none, some (.inr (.inl (-a1))), none]) dX9_gives_18 (Nat.le_of_ble_eq_true rfl) rfl ?_
    refine WA.aload_n dX9_gives_19 rfl (by decide) ?_
    refine gxX9_72 rfl rfl dX9_gives_20 ob_115 ?_
    refine WA.aload_n dX9_gives_23 rfl (by decide) ?_
    refine gfX9_119 rfl dX9_gives_24 ob_115 ?_
    refine WA.iconst dX9_gives_27 ⟨by decide, by decide⟩ ?_
    obtain ⟨s13, h⟩ := h
    obtain ⟨w12, qw12⟩ : ∃ z, z = wset w 135 (w 115 23) 0 := ⟨_, rfl⟩
    have h := h w12 qw12
    refine WA.zastore dX9_gives_28 ob_135 s13.1 s13.2 (by decide) ?_
    rw [← qw12]
    refine WA.aload_n dX9_gives_29 rfl (by decide) ?_
    refine gxX9_78 rfl rfl dX9_gives_30 ob_115 ?_
    refine WA.aload_n dX9_gives_33 rfl (by decide) ?_
    refine gfX9_119 rfl dX9_gives_34 ob_115 ?_
    refine WA.aload_n dX9_gives_37 rfl (by decide) ?_
    refine gxX9_75 rfl rfl dX9_gives_38 ob_115 ?_
    refine WA.aload_n dX9_gives_41 rfl (by decide) ?_
    refine gfX9_119 rfl dX9_gives_42 ob_115 ?_
    obtain ⟨s14, h⟩ := h
    refine WA.zaload dX9_gives_45 ob_136 s14.1 s14.2 ?_
    refine WA.if_eq (tgt := 74) dX9_gives_46 (by decide) (fun hc => ?_) (fun hc => ?_)
    · have h := h.1 hc
      refine WA.lload_n dX9_gives_74 rfl ?_
      obtain ⟨s15, h⟩ := h
      obtain ⟨w13, qw13⟩ : ∃ z, z = wset w12 137 (w12 115 23) (-a1) := ⟨_, rfl⟩
      have h := h w13 qw13
      refine WA.lastore dX9_gives_75 ob_137 s15.1 s15.2 ?_
      rw [← qw13]
      refine WA.aload_n dX9_gives_76 rfl (by decide) ?_
      refine gxX9_75 rfl rfl dX9_gives_77 ob_115 ?_
      refine WA.aload_n dX9_gives_80 rfl (by decide) ?_
      refine gfX9_119 rfl dX9_gives_81 ob_115 ?_
      refine WA.iconst dX9_gives_84 ⟨by decide, by decide⟩ ?_
      obtain ⟨s16, h⟩ := h
      obtain ⟨w14, qw14⟩ : ∃ z, z = wset w13 136 (w13 115 23) 1 := ⟨_, rfl⟩
      have h := h w14 qw14
      refine WA.zastore dX9_gives_85 ob_136 s16.1 s16.2 (by decide) ?_
      rw [← qw14]
      refine WA.aload_n dX9_gives_86 rfl (by decide) ?_
      refine WA.iconst dX9_gives_87 ⟨by decide, by decide⟩ ?_
      obtain ⟨w15, qw15⟩ : ∃ z, z = wset w14 115 26 0 := ⟨_, rfl⟩
      have h := h w15 qw15
      refine pfX9_182 rfl dX9_gives_88 ob_115 (by decide) ?_
      rw [← qw15]
      exact WA.vreturn dX9_gives_91 ⟨rfl, h⟩
    · have h := h.2 hc
      refine WA.aload_n dX9_gives_49 rfl (by decide) ?_
      refine gfX9_239 rfl dX9_gives_50 ob_115 ?_
      refine WA.if_ne (tgt := 74) dX9_gives_53 (by decide) (fun hc => ?_) (fun hc => ?_)
      · have h := h.1 hc
        refine WA.lload_n dX9_gives_74 rfl ?_
        obtain ⟨s17, h⟩ := h
        obtain ⟨w16, qw16⟩ : ∃ z, z = wset w12 137 (w12 115 23) (-a1) := ⟨_, rfl⟩
        have h := h w16 qw16
        refine WA.lastore dX9_gives_75 ob_137 s17.1 s17.2 ?_
        rw [← qw16]
        refine WA.aload_n dX9_gives_76 rfl (by decide) ?_
        refine gxX9_75 rfl rfl dX9_gives_77 ob_115 ?_
        refine WA.aload_n dX9_gives_80 rfl (by decide) ?_
        refine gfX9_119 rfl dX9_gives_81 ob_115 ?_
        refine WA.iconst dX9_gives_84 ⟨by decide, by decide⟩ ?_
        obtain ⟨s18, h⟩ := h
        obtain ⟨w17, qw17⟩ : ∃ z, z = wset w16 136 (w16 115 23) 1 := ⟨_, rfl⟩
        have h := h w17 qw17
        refine WA.zastore dX9_gives_85 ob_136 s18.1 s18.2 (by decide) ?_
        rw [← qw17]
        refine WA.aload_n dX9_gives_86 rfl (by decide) ?_
        refine WA.iconst dX9_gives_87 ⟨by decide, by decide⟩ ?_
        obtain ⟨w18, qw18⟩ : ∃ z, z = wset w17 115 26 0 := ⟨_, rfl⟩
        have h := h w18 qw18
        refine pfX9_182 rfl dX9_gives_88 ob_115 (by decide) ?_
        rw [← qw18]
        exact WA.vreturn dX9_gives_91 ⟨rfl, h⟩
      · have h := h.2 hc
        refine WA.aload_n dX9_gives_56 rfl (by decide) ?_
        refine WA.aload_n dX9_gives_57 rfl (by decide) ?_
        refine gxX9_78 rfl rfl dX9_gives_58 ob_115 ?_
        refine WA.aload_n dX9_gives_61 rfl (by decide) ?_
        refine gfX9_119 rfl dX9_gives_62 ob_115 ?_
        obtain ⟨s19, h⟩ := h
        refine WA.laload dX9_gives_65 ob_137 s19.1 s19.2 ?_
        refine WA.lload_n dX9_gives_66 rfl ?_
        obtain ⟨s20, h⟩ := h
        refine WA.lmul dX9_gives_67 s20 ?_
        obtain ⟨d1, hd1, h⟩ := h
        refine WA.callV1 (kc := 0) (ks := 0) (kc' := 0) (ks' := 0) dX9_gives_68 lkX9_255 rfl rfl rfl ob_115 rfl (Nat.le_of_ble_eq_true rfl) hd1 h (fun r w19 hK => ?_)
        obtain ⟨x2, rfl, h⟩ := hK
        change WA _ _ _ _ _ _ _ _ _ _ _ [.inr (.inl x2), .inl (w12 115 23), .inr (.inr 137)] _ _
        refine WA.goto (tgt := 75) dX9_gives_71 (by decide) ?_
        obtain ⟨s21, h⟩ := h
        obtain ⟨w20, qw20⟩ : ∃ z, z = wset w19 137 (w12 115 23) x2 := ⟨_, rfl⟩
        have h := h w20 qw20
        refine WA.lastore dX9_gives_75 ob_137 s21.1 s21.2 ?_
        rw [← qw20]
        refine WA.aload_n dX9_gives_76 rfl (by decide) ?_
        refine gxX9_75 rfl rfl dX9_gives_77 ob_115 ?_
        refine WA.aload_n dX9_gives_80 rfl (by decide) ?_
        refine gfX9_119 rfl dX9_gives_81 ob_115 ?_
        refine WA.iconst dX9_gives_84 ⟨by decide, by decide⟩ ?_
        obtain ⟨s22, h⟩ := h
        obtain ⟨w21, qw21⟩ : ∃ z, z = wset w20 136 (w20 115 23) 1 := ⟨_, rfl⟩
        have h := h w21 qw21
        refine WA.zastore dX9_gives_85 ob_136 s22.1 s22.2 (by decide) ?_
        rw [← qw21]
        refine WA.aload_n dX9_gives_86 rfl (by decide) ?_
        refine WA.iconst dX9_gives_87 ⟨by decide, by decide⟩ ?_
        obtain ⟨w22, qw22⟩ : ∃ z, z = wset w21 115 26 0 := ⟨_, rfl⟩
        have h := h w22 qw22
        refine pfX9_182 rfl dX9_gives_88 ob_115 (by decide) ?_
        rw [← qw22]
        exact WA.vreturn dX9_gives_91 ⟨rfl, h⟩
set_option maxRecDepth 10000 in
theorem e_X9_leaves {d : Nat} {w : Wd} {K : Wd → Prop} {a1 : Int}  
    (h : (-2147483648 ≤ ((w 115 24) + 1) ∧ ((w 115 24) + 1) ≤ 2147483647) ∧ (∀ w1, w1 = wset w 115 24 ((w 115 24) + 1) → (-2147483648 ≤ ((w1 115 23) - 1) ∧ ((w1 115 23) - 1) ≤ 2147483647) ∧ (∀ w2, w2 = wset w1 115 23 ((w1 115 23) - 1) → C_X9_gives d [.inr (.inr 115), .inr (.inl a1)] w2 (fun w3 => K w3)))) :
    E_X9_leaves d [.inr (.inr 115), .inr (.inl a1)] w K := by
  refine EvA.of (by decide +kernel) (Nat.le_of_ble_eq_true rfl) ?_
  change W_X9_leaves d 0 [some (.inr (.inr 115)), some (.inr (.inl a1)), none] [] w K
  refine WA.aload_n dX9_leaves_0 rfl (by decide) ?_
  refine WA.dup dX9_leaves_1 rfl ?_
  refine gfX9_116 rfl dX9_leaves_2 ob_115 ?_
  refine WA.iconst dX9_leaves_5 ⟨by decide, by decide⟩ ?_
  obtain ⟨s1, h⟩ := h
  refine WA.iadd dX9_leaves_6 s1 ?_
  obtain ⟨w1, qw1⟩ : ∃ z, z = wset w 115 24 ((w 115 24) + 1) := ⟨_, rfl⟩
  have h := h w1 qw1
  refine pfX9_116 rfl dX9_leaves_7 ob_115 ?_
  rw [← qw1]
  refine WA.aload_n dX9_leaves_10 rfl (by decide) ?_
  refine WA.dup dX9_leaves_11 rfl ?_
  refine gfX9_119 rfl dX9_leaves_12 ob_115 ?_
  refine WA.iconst dX9_leaves_15 ⟨by decide, by decide⟩ ?_
  obtain ⟨s2, h⟩ := h
  refine WA.isub dX9_leaves_16 s2 ?_
  obtain ⟨w2, qw2⟩ : ∃ z, z = wset w1 115 23 ((w1 115 23) - 1) := ⟨_, rfl⟩
  have h := h w2 qw2
  refine pfX9_119 rfl dX9_leaves_17 ob_115 ?_
  rw [← qw2]
  refine WA.aload_n dX9_leaves_20 rfl (by decide) ?_
  refine WA.lload_n dX9_leaves_21 rfl ?_
  obtain ⟨d1, hd1, h⟩ := h
  refine WA.callV1 (kc := 0) (ks := 0) (kc' := 0) (ks' := 0) dX9_leaves_22 lkX9_259 rfl rfl rfl ob_115 rfl (Nat.le_of_ble_eq_true rfl) hd1 h (fun r w3 hK => ?_)
  obtain ⟨rfl, h⟩ := hK
  change WA _ _ _ _ _ _ _ _ _ _ _ [] _ _
  exact WA.vreturn dX9_leaves_25 ⟨rfl, h⟩
set_option maxRecDepth 10000 in
theorem e_X9_folds {d : Nat} {w : Wd} {K : Wd → Prop}  
    (h : (0 ≤ (w 115 23) ∧ (w 115 23) < 40) ∧ (0 ≤ (w 115 23) ∧ (w 115 23) < 40) ∧ ((¬ (w 139 (w 115 23)) = 0 → (0 ≤ (w 115 23) ∧ (w 115 23) < 40) ∧ (((w 139 (w 115 23)) ≤ 0 → (0 ≤ (w 115 23) ∧ (w 115 23) < 40) ∧ (-9223372036854775808 ≤ ((w 138 (w 115 23)) - (w 137 (w 115 23))) ∧ ((w 138 (w 115 23)) - (w 137 (w 115 23))) ≤ 9223372036854775807) ∧ C_X9_bound d [.inr (.inr 115), .inr (.inl ((w 138 (w 115 23)) - (w 137 (w 115 23))))] w (fun x1 w1 => (0 ≤ (w 115 23) ∧ (w 115 23) < 40) ∧ (∀ w2, w2 = wset w1 138 (w 115 23) x1 → (0 ≤ (w2 115 23) ∧ (w2 115 23) < 40) ∧ (∀ w3, w3 = wset w2 136 (w2 115 23) 0 → K w3)))) ∧ (¬ ((w 139 (w 115 23)) ≤ 0) → (0 ≤ (w 115 23) ∧ (w 115 23) < 40) ∧ (-9223372036854775808 ≤ ((w 138 (w 115 23)) + (w 137 (w 115 23))) ∧ ((w 138 (w 115 23)) + (w 137 (w 115 23))) ≤ 9223372036854775807) ∧ C_X9_bound d [.inr (.inr 115), .inr (.inl ((w 138 (w 115 23)) + (w 137 (w 115 23))))] w (fun x2 w4 => (0 ≤ (w 115 23) ∧ (w 115 23) < 40) ∧ (∀ w5, w5 = wset w4 138 (w 115 23) x2 → (0 ≤ (w5 115 23) ∧ (w5 115 23) < 40) ∧ (∀ w6, w6 = wset w5 136 (w5 115 23) 0 → K w6)))))) ∧ ((w 139 (w 115 23)) = 0 → C_X9_bound d [.inr (.inr 115), .inr (.inl (w 137 (w 115 23)))] w (fun x3 w7 => (0 ≤ (w 115 23) ∧ (w 115 23) < 40) ∧ (∀ w8, w8 = wset w7 138 (w 115 23) x3 → (0 ≤ (w8 115 23) ∧ (w8 115 23) < 40) ∧ (∀ w9, w9 = wset w8 136 (w8 115 23) 0 → K w9)))))) :
    E_X9_folds d [.inr (.inr 115)] w K := by
  refine EvA.of (by decide +kernel) (Nat.le_of_ble_eq_true rfl) ?_
  change W_X9_folds d 0 [some (.inr (.inr 115)), none, none] [] w K
  refine WA.aload_n dX9_folds_0 rfl (by decide) ?_
  refine gxX9_78 rfl rfl dX9_folds_1 ob_115 ?_
  refine WA.aload_n dX9_folds_4 rfl (by decide) ?_
  refine gfX9_119 rfl dX9_folds_5 ob_115 ?_
  obtain ⟨s1, h⟩ := h
  refine WA.laload dX9_folds_8 ob_137 s1.1 s1.2 ?_
  refine WA.lstore_n (als' := [some (.inr (.inr 115)), some (.inr (.inl (w 137 (w 115 23)))), none]) dX9_folds_9 (Nat.le_of_ble_eq_true rfl) rfl ?_
  refine WA.aload_n dX9_folds_10 rfl (by decide) ?_
  refine gxX9_82 rfl rfl dX9_folds_11 ob_115 ?_
  refine WA.aload_n dX9_folds_14 rfl (by decide) ?_
  refine gfX9_119 rfl dX9_folds_15 ob_115 ?_
  refine WA.aload_n dX9_folds_18 rfl (by decide) ?_
  refine WA.aload_n dX9_folds_19 rfl (by decide) ?_
  refine gxX9_85 rfl rfl dX9_folds_20 ob_115 ?_
  refine WA.aload_n dX9_folds_23 rfl (by decide) ?_
  refine gfX9_119 rfl dX9_folds_24 ob_115 ?_
  obtain ⟨s2, h⟩ := h
  refine WA.iaload dX9_folds_27 ob_139 s2.1 s2.2 ?_
  refine WA.if_ne (tgt := 35) dX9_folds_28 (by decide) (fun hc => ?_) (fun hc => ?_)
  · have h := h.1 hc
    refine WA.aload_n dX9_folds_35 rfl (by decide) ?_
    refine gxX9_85 rfl rfl dX9_folds_36 ob_115 ?_
    refine WA.aload_n dX9_folds_39 rfl (by decide) ?_
    refine gfX9_119 rfl dX9_folds_40 ob_115 ?_
    obtain ⟨s3, h⟩ := h
    refine WA.iaload dX9_folds_43 ob_139 s3.1 s3.2 ?_
    refine WA.if_le (tgt := 61) dX9_folds_44 (by decide) (fun hc => ?_) (fun hc => ?_)
    · have h := h.1 hc
      refine WA.aload_n dX9_folds_61 rfl (by decide) ?_
      refine gxX9_82 rfl rfl dX9_folds_62 ob_115 ?_
      refine WA.aload_n dX9_folds_65 rfl (by decide) ?_
      refine gfX9_119 rfl dX9_folds_66 ob_115 ?_
      obtain ⟨s4, h⟩ := h
      refine WA.laload dX9_folds_69 ob_138 s4.1 s4.2 ?_
      refine WA.lload_n dX9_folds_70 rfl ?_
      obtain ⟨s5, h⟩ := h
      refine WA.lsub dX9_folds_71 s5 ?_
      obtain ⟨d1, hd1, h⟩ := h
      refine WA.callV1 (kc := 0) (ks := 0) (kc' := 0) (ks' := 0) dX9_folds_72 lkX9_255 rfl rfl rfl ob_115 rfl (Nat.le_of_ble_eq_true rfl) hd1 h (fun r w1 hK => ?_)
      obtain ⟨x1, rfl, h⟩ := hK
      change WA _ _ _ _ _ _ _ _ _ _ _ [.inr (.inl x1), .inl (w 115 23), .inr (.inr 138)] _ _
      obtain ⟨s6, h⟩ := h
      obtain ⟨w2, qw2⟩ : ∃ z, z = wset w1 138 (w 115 23) x1 := ⟨_, rfl⟩
      have h := h w2 qw2
      refine WA.lastore dX9_folds_75 ob_138 s6.1 s6.2 ?_
      rw [← qw2]
      refine WA.aload_n dX9_folds_76 rfl (by decide) ?_
      refine gxX9_75 rfl rfl dX9_folds_77 ob_115 ?_
      refine WA.aload_n dX9_folds_80 rfl (by decide) ?_
      refine gfX9_119 rfl dX9_folds_81 ob_115 ?_
      refine WA.iconst dX9_folds_84 ⟨by decide, by decide⟩ ?_
      obtain ⟨s7, h⟩ := h
      obtain ⟨w3, qw3⟩ : ∃ z, z = wset w2 136 (w2 115 23) 0 := ⟨_, rfl⟩
      have h := h w3 qw3
      refine WA.zastore dX9_folds_85 ob_136 s7.1 s7.2 (by decide) ?_
      rw [← qw3]
      exact WA.vreturn dX9_folds_86 ⟨rfl, h⟩
    · have h := h.2 hc
      refine WA.aload_n dX9_folds_47 rfl (by decide) ?_
      refine gxX9_82 rfl rfl dX9_folds_48 ob_115 ?_
      refine WA.aload_n dX9_folds_51 rfl (by decide) ?_
      refine gfX9_119 rfl dX9_folds_52 ob_115 ?_
      obtain ⟨s8, h⟩ := h
      refine WA.laload dX9_folds_55 ob_138 s8.1 s8.2 ?_
      refine WA.lload_n dX9_folds_56 rfl ?_
      obtain ⟨s9, h⟩ := h
      refine WA.ladd dX9_folds_57 s9 ?_
      refine WA.goto (tgt := 72) dX9_folds_58 (by decide) ?_
      obtain ⟨d1, hd1, h⟩ := h
      refine WA.callV1 (kc := 0) (ks := 0) (kc' := 0) (ks' := 0) dX9_folds_72 lkX9_255 rfl rfl rfl ob_115 rfl (Nat.le_of_ble_eq_true rfl) hd1 h (fun r w4 hK => ?_)
      obtain ⟨x2, rfl, h⟩ := hK
      change WA _ _ _ _ _ _ _ _ _ _ _ [.inr (.inl x2), .inl (w 115 23), .inr (.inr 138)] _ _
      obtain ⟨s10, h⟩ := h
      obtain ⟨w5, qw5⟩ : ∃ z, z = wset w4 138 (w 115 23) x2 := ⟨_, rfl⟩
      have h := h w5 qw5
      refine WA.lastore dX9_folds_75 ob_138 s10.1 s10.2 ?_
      rw [← qw5]
      refine WA.aload_n dX9_folds_76 rfl (by decide) ?_
      refine gxX9_75 rfl rfl dX9_folds_77 ob_115 ?_
      refine WA.aload_n dX9_folds_80 rfl (by decide) ?_
      refine gfX9_119 rfl dX9_folds_81 ob_115 ?_
      refine WA.iconst dX9_folds_84 ⟨by decide, by decide⟩ ?_
      obtain ⟨s11, h⟩ := h
      obtain ⟨w6, qw6⟩ : ∃ z, z = wset w5 136 (w5 115 23) 0 := ⟨_, rfl⟩
      have h := h w6 qw6
      refine WA.zastore dX9_folds_85 ob_136 s11.1 s11.2 (by decide) ?_
      rw [← qw6]
      exact WA.vreturn dX9_folds_86 ⟨rfl, h⟩
  · have h := h.2 hc
    refine WA.lload_n dX9_folds_31 rfl ?_
    refine WA.goto (tgt := 72) dX9_folds_32 (by decide) ?_
    obtain ⟨d1, hd1, h⟩ := h
    refine WA.callV1 (kc := 0) (ks := 0) (kc' := 0) (ks' := 0) dX9_folds_72 lkX9_255 rfl rfl rfl ob_115 rfl (Nat.le_of_ble_eq_true rfl) hd1 h (fun r w7 hK => ?_)
    obtain ⟨x3, rfl, h⟩ := hK
    change WA _ _ _ _ _ _ _ _ _ _ _ [.inr (.inl x3), .inl (w 115 23), .inr (.inr 138)] _ _
    obtain ⟨s12, h⟩ := h
    obtain ⟨w8, qw8⟩ : ∃ z, z = wset w7 138 (w 115 23) x3 := ⟨_, rfl⟩
    have h := h w8 qw8
    refine WA.lastore dX9_folds_75 ob_138 s12.1 s12.2 ?_
    rw [← qw8]
    refine WA.aload_n dX9_folds_76 rfl (by decide) ?_
    refine gxX9_75 rfl rfl dX9_folds_77 ob_115 ?_
    refine WA.aload_n dX9_folds_80 rfl (by decide) ?_
    refine gfX9_119 rfl dX9_folds_81 ob_115 ?_
    refine WA.iconst dX9_folds_84 ⟨by decide, by decide⟩ ?_
    obtain ⟨s13, h⟩ := h
    obtain ⟨w9, qw9⟩ : ∃ z, z = wset w8 136 (w8 115 23) 0 := ⟨_, rfl⟩
    have h := h w9 qw9
    refine WA.zastore dX9_folds_85 ob_136 s13.1 s13.2 (by decide) ?_
    rw [← qw9]
    exact WA.vreturn dX9_folds_86 ⟨rfl, h⟩
