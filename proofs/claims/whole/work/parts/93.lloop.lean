/-! ===== the law: its loop, its beginning ===== -/
section LLP
variable {L : Nat} {xs : Nat → Int32}
theorem lw_loop (hL : L ≤ 2048) : ∀ (t : Nat) (i n : Int) (w : Wd), (L : Int) ≤ i + 4 * t + 3 → 0 ≤ i → 4 * n ≤ i → Inv n w → LWs L xs i 18 [] w := by
  intro t
  induction t with
  | zero =>
    intro i n w ht h0 hn hI
    refine WP.iload_n dL_18 rfl ?_
    refine WP.aload_n dL_19 rfl (by decide) ?_
    refine WP.slen dL_20 (by omega) ?_
    refine WP.iconst dL_21 ⟨by decide, by decide⟩ ?_
    refine WP.isub dL_22 ⟨by omega, by omega⟩ ?_
    refine WP.icmp_gt (tgt := 651) dL_23 (by decide) (fun hc => ?_) (fun hc => absurd (by omega) hc)
    refine WP.iconst dL_651 ⟨by decide, by decide⟩ ?_
    exact WP.ret1 dL_652
  | succ t ih =>
    intro i n w ht h0 hn hI
    refine WP.iload_n dL_18 rfl ?_
    refine WP.aload_n dL_19 rfl (by decide) ?_
    refine WP.slen dL_20 (by omega) ?_
    refine WP.iconst dL_21 ⟨by decide, by decide⟩ ?_
    refine WP.isub dL_22 ⟨by omega, by omega⟩ ?_
    refine WP.icmp_gt (tgt := 651) dL_23 (by decide) (fun hc => ?_) (fun hc => ?_)
    · refine WP.iconst dL_651 ⟨by decide, by decide⟩ ?_
      exact WP.ret1 dL_652
    · have H : ∀ w', Inv (n + 1) w' → LWs L xs i 645 [] w' := fun w' hI' => by
        refine WP.iinc (als' := [some (.inr (.inr (-22))), some (.inr (.inr 1)), some (.inr (.inr 115)), some (.inl (i + 4))]) dL_645 rfl ⟨by omega, by omega⟩ rfl ?_
        refine WP.goto (tgt := 18) dL_648 (by decide) ?_
        exact ih (i + 4) (n + 1) w' (by omega) (by omega) (by omega) hI'
      refine WP.aload_n dL_26 rfl (by decide) ?_
      refine WP.iload_n dL_27 rfl ?_
      refine WP.sld (v := lwV xs i) dL_28 h0 (by omega) rfl ?_
      refine WP.bipush dL_29 ⟨by decide, by decide⟩ ?_
      refine WP.iand31 dL_31 ?_
      by_cases e0 : lwV xs i % 32 = 0
      · refine WP.tableIn (tgt := 132) dL_32 (by rw [e0]; decide) (by rw [e0]; decide) (by rw [e0]; rfl) (by decide) ?_
        exact lc_0 h0 (by omega) hL hI H
      by_cases e1 : lwV xs i % 32 = 1
      · refine WP.tableIn (tgt := 155) dL_32 (by rw [e1]; decide) (by rw [e1]; decide) (by rw [e1]; rfl) (by decide) ?_
        exact lc_1 h0 (by omega) hL hI H
      by_cases e2 : lwV xs i % 32 = 2
      · refine WP.tableIn (tgt := 168) dL_32 (by rw [e2]; decide) (by rw [e2]; decide) (by rw [e2]; rfl) (by decide) ?_
        exact lc_2 h0 (by omega) hL hI H
      by_cases e3 : lwV xs i % 32 = 3
      · refine WP.tableIn (tgt := 181) dL_32 (by rw [e3]; decide) (by rw [e3]; decide) (by rw [e3]; rfl) (by decide) ?_
        exact lc_3 h0 (by omega) hL hI H
      by_cases e4 : lwV xs i % 32 = 4
      · refine WP.tableIn (tgt := 204) dL_32 (by rw [e4]; decide) (by rw [e4]; decide) (by rw [e4]; rfl) (by decide) ?_
        exact lc_4 h0 (by omega) hL hI H
      by_cases e5 : lwV xs i % 32 = 5
      · refine WP.tableIn (tgt := 237) dL_32 (by rw [e5]; decide) (by rw [e5]; decide) (by rw [e5]; rfl) (by decide) ?_
        exact lc_5 h0 (by omega) hL hI H
      by_cases e6 : lwV xs i % 32 = 6
      · refine WP.tableIn (tgt := 250) dL_32 (by rw [e6]; decide) (by rw [e6]; decide) (by rw [e6]; rfl) (by decide) ?_
        exact lc_6 h0 (by omega) hL hI H
      by_cases e7 : lwV xs i % 32 = 7
      · refine WP.tableIn (tgt := 273) dL_32 (by rw [e7]; decide) (by rw [e7]; decide) (by rw [e7]; rfl) (by decide) ?_
        exact lc_7 h0 (by omega) hL (by omega) hI H
      by_cases e8 : lwV xs i % 32 = 8
      · refine WP.tableIn (tgt := 286) dL_32 (by rw [e8]; decide) (by rw [e8]; decide) (by rw [e8]; rfl) (by decide) ?_
        exact lc_8 h0 (by omega) hL (by omega) hI H
      by_cases e9 : lwV xs i % 32 = 9
      · refine WP.tableIn (tgt := 309) dL_32 (by rw [e9]; decide) (by rw [e9]; decide) (by rw [e9]; rfl) (by decide) ?_
        exact lc_9 h0 (by omega) hL hI H
      by_cases e10 : lwV xs i % 32 = 10
      · refine WP.tableIn (tgt := 332) dL_32 (by rw [e10]; decide) (by rw [e10]; decide) (by rw [e10]; rfl) (by decide) ?_
        exact lc_10 h0 (by omega) hL hI H
      by_cases e11 : lwV xs i % 32 = 11
      · refine WP.tableIn (tgt := 365) dL_32 (by rw [e11]; decide) (by rw [e11]; decide) (by rw [e11]; rfl) (by decide) ?_
        exact lc_11 h0 (by omega) hL hI H
      by_cases e12 : lwV xs i % 32 = 12
      · refine WP.tableIn (tgt := 398) dL_32 (by rw [e12]; decide) (by rw [e12]; decide) (by rw [e12]; rfl) (by decide) ?_
        exact lc_12 h0 (by omega) hL hI H
      by_cases e13 : lwV xs i % 32 = 13
      · refine WP.tableIn (tgt := 431) dL_32 (by rw [e13]; decide) (by rw [e13]; decide) (by rw [e13]; rfl) (by decide) ?_
        exact lc_13 h0 (by omega) hL hI H
      by_cases e14 : lwV xs i % 32 = 14
      · refine WP.tableIn (tgt := 464) dL_32 (by rw [e14]; decide) (by rw [e14]; decide) (by rw [e14]; rfl) (by decide) ?_
        exact lc_14 h0 (by omega) hL hI H
      by_cases e15 : lwV xs i % 32 = 15
      · refine WP.tableIn (tgt := 487) dL_32 (by rw [e15]; decide) (by rw [e15]; decide) (by rw [e15]; rfl) (by decide) ?_
        exact lc_15 h0 (by omega) hL hI H
      by_cases e16 : lwV xs i % 32 = 16
      · refine WP.tableIn (tgt := 510) dL_32 (by rw [e16]; decide) (by rw [e16]; decide) (by rw [e16]; rfl) (by decide) ?_
        exact lc_16 h0 (by omega) hL hI H
      by_cases e17 : lwV xs i % 32 = 17
      · refine WP.tableIn (tgt := 533) dL_32 (by rw [e17]; decide) (by rw [e17]; decide) (by rw [e17]; rfl) (by decide) ?_
        exact lc_17 h0 (by omega) hL hI H
      by_cases e18 : lwV xs i % 32 = 18
      · refine WP.tableIn (tgt := 566) dL_32 (by rw [e18]; decide) (by rw [e18]; decide) (by rw [e18]; rfl) (by decide) ?_
        exact lc_18 h0 (by omega) hL (by omega) hI H
      by_cases e19 : lwV xs i % 32 = 19
      · refine WP.tableIn (tgt := 609) dL_32 (by rw [e19]; decide) (by rw [e19]; decide) (by rw [e19]; rfl) (by decide) ?_
        exact lc_19 h0 (by omega) hL (by omega) hI H
      by_cases e20 : lwV xs i % 32 = 20
      · refine WP.tableIn (tgt := 632) dL_32 (by rw [e20]; decide) (by rw [e20]; decide) (by rw [e20]; rfl) (by decide) ?_
        exact lc_20 h0 (by omega) hL hI H
      refine WP.tableOut (tgt := 645) dL_32 (by omega) (by decide) ?_
      exact H w hI.up
end LLP
