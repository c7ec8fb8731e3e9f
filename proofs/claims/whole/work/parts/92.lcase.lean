/-! ===== the law: each of its calls ===== -/
section LCS
variable {L : Nat} {xs : Nat → Int32} {w : Wd} {i n : Int}
def lwV (xs : Nat → Int32) (j : Int) : Int := (xs j.toNat).toInt
theorem lwV_le (xs : Nat → Int32) (j : Int) : lwV xs j ≤ 2147483647 := Int32.toInt_le _
abbrev LWs (L : Nat) (xs : Nat → Int32) (i : Int) (pc : Nat) (st : List AV) (w : Wd) : Prop := WP true L xs 143 87506 pc [some (.inr (.inr (-22))), some (.inr (.inr 1)), some (.inr (.inr 115)), some (.inl i)] st w
theorem lc_0 (h0 : 0 ≤ i) (h1 : i + 3 < (L : Int)) (h2 : L ≤ 2048) (hI : Inv n w) (H : ∀ w', Inv (n + 1) w' → LWs L xs i 645 [] w') : LWs L xs i 132 [] w := by
  have h := c_type (d := 600) (K2 := fun x y w2 => x = y ∧ Inv (n + 1) w2) (a := (lwV xs (i + 1))) (by decide) hI (fun x w' hi => ⟨rfl, hi.up⟩)
  refine WP.aload_n dL_132 rfl (by decide) ?_
  refine WP.aload_n dL_133 rfl (by decide) ?_
  refine WP.iload_n dL_134 rfl ?_
  refine WP.iconst dL_135 ⟨by decide, by decide⟩ ?_
  refine WP.iadd dL_136 ⟨by omega, by omega⟩ ?_
  refine WP.sld (v := lwV xs (i + 1)) dL_137 (by omega) (by omega) rfl ?_
  obtain ⟨d1, hd1, h⟩ := h
  refine WP.callV1 dL_138 lkL_13 (by decide) (by decide) ob_1 rfl (Nat.le_of_ble_eq_true rfl) hd1 h (fun r w1 hK => ?_)
  obtain ⟨x1, rfl, h⟩ := hK
  change LWs L xs i 141 [.inl x1] w1
  refine WP.aload_n dL_141 rfl (by decide) ?_
  refine WP.aload_n dL_142 rfl (by decide) ?_
  refine WP.iload_n dL_143 rfl ?_
  refine WP.iconst dL_144 ⟨by decide, by decide⟩ ?_
  refine WP.iadd dL_145 ⟨by omega, by omega⟩ ?_
  refine WP.sld (v := lwV xs (i + 1)) dL_146 (by omega) (by omega) rfl ?_
  obtain ⟨d2, hd2, h⟩ := h
  refine WP.callV1 dL_147 lkL_17 (by decide) (by decide) ob_115 rfl (Nat.le_of_ble_eq_true rfl) hd2 h (fun r w2 hK => ?_)
  obtain ⟨x2, rfl, h⟩ := hK
  change LWs L xs i 150 [.inl x2, .inl x1] w2
  exact WP.icmp_eq (tgt := 645) dL_150 (by decide) (fun _ => H w2 h.2) (fun hc => absurd h.1 hc)
theorem lc_1 (h0 : 0 ≤ i) (h1 : i + 3 < (L : Int)) (h2 : L ≤ 2048) (hI : Inv n w) (H : ∀ w', Inv (n + 1) w' → LWs L xs i 645 [] w') : LWs L xs i 155 [] w := by
  have h := c_clearText (d := 600) (K2 := fun x y w2 => x = y ∧ Inv (n + 1) w2)  (by decide) hI (fun x w' hi => ⟨rfl, hi.up⟩)
  refine WP.aload_n dL_155 rfl (by decide) ?_
  obtain ⟨d1, hd1, h⟩ := h
  refine WP.callV0 dL_156 lkL_18 (by decide) (by decide) ob_1 rfl (Nat.le_of_ble_eq_true rfl) hd1 h (fun r w1 hK => ?_)
  obtain ⟨x1, rfl, h⟩ := hK
  change LWs L xs i 159 [.inl x1] w1
  refine WP.aload_n dL_159 rfl (by decide) ?_
  obtain ⟨d2, hd2, h⟩ := h
  refine WP.callV0 dL_160 lkL_22 (by decide) (by decide) ob_115 rfl (Nat.le_of_ble_eq_true rfl) hd2 h (fun r w2 hK => ?_)
  obtain ⟨x2, rfl, h⟩ := hK
  change LWs L xs i 163 [.inl x2, .inl x1] w2
  exact WP.icmp_eq (tgt := 645) dL_163 (by decide) (fun _ => H w2 h.2) (fun hc => absurd h.1 hc)
theorem lc_2 (h0 : 0 ≤ i) (h1 : i + 3 < (L : Int)) (h2 : L ≤ 2048) (hI : Inv n w) (H : ∀ w', Inv (n + 1) w' → LWs L xs i 645 [] w') : LWs L xs i 168 [] w := by
  have h := c_fault (d := 600) (K2 := fun x y w2 => x = y ∧ Inv (n + 1) w2)  (by decide) hI (fun x w' hi => ⟨rfl, hi.up⟩)
  refine WP.aload_n dL_168 rfl (by decide) ?_
  obtain ⟨d1, hd1, h⟩ := h
  refine WP.callV0 dL_169 lkL_23 (by decide) (by decide) ob_1 rfl (Nat.le_of_ble_eq_true rfl) hd1 h (fun r w1 hK => ?_)
  obtain ⟨x1, rfl, h⟩ := hK
  change LWs L xs i 172 [.inl x1] w1
  refine WP.aload_n dL_172 rfl (by decide) ?_
  obtain ⟨d2, hd2, h⟩ := h
  refine WP.callV0 dL_173 lkL_26 (by decide) (by decide) ob_115 rfl (Nat.le_of_ble_eq_true rfl) hd2 h (fun r w2 hK => ?_)
  obtain ⟨x2, rfl, h⟩ := hK
  change LWs L xs i 176 [.inl x2, .inl x1] w2
  exact WP.icmp_eq (tgt := 645) dL_176 (by decide) (fun _ => H w2 h.2) (fun hc => absurd h.1 hc)
theorem lc_3 (h0 : 0 ≤ i) (h1 : i + 3 < (L : Int)) (h2 : L ≤ 2048) (hI : Inv n w) (H : ∀ w', Inv (n + 1) w' → LWs L xs i 645 [] w') : LWs L xs i 181 [] w := by
  have h := c_put (d := 600) (K2 := fun x y w2 => x = y ∧ Inv (n + 1) w2) (c := (lwV xs (i + 1))) (by decide) hI (fun x w' hi => ⟨rfl, hi⟩)
  refine WP.aload_n dL_181 rfl (by decide) ?_
  refine WP.aload_n dL_182 rfl (by decide) ?_
  refine WP.iload_n dL_183 rfl ?_
  refine WP.iconst dL_184 ⟨by decide, by decide⟩ ?_
  refine WP.iadd dL_185 ⟨by omega, by omega⟩ ?_
  refine WP.sld (v := lwV xs (i + 1)) dL_186 (by omega) (by omega) rfl ?_
  obtain ⟨d1, hd1, h⟩ := h
  refine WP.callV1 dL_187 lkL_27 (by decide) (by decide) ob_1 rfl (Nat.le_of_ble_eq_true rfl) hd1 h (fun r w1 hK => ?_)
  obtain ⟨x1, rfl, h⟩ := hK
  change LWs L xs i 190 [.inl x1] w1
  refine WP.aload_n dL_190 rfl (by decide) ?_
  refine WP.aload_n dL_191 rfl (by decide) ?_
  refine WP.iload_n dL_192 rfl ?_
  refine WP.iconst dL_193 ⟨by decide, by decide⟩ ?_
  refine WP.iadd dL_194 ⟨by omega, by omega⟩ ?_
  refine WP.sld (v := lwV xs (i + 1)) dL_195 (by omega) (by omega) rfl ?_
  obtain ⟨d2, hd2, h⟩ := h
  refine WP.callV1 dL_196 lkL_30 (by decide) (by decide) ob_115 rfl (Nat.le_of_ble_eq_true rfl) hd2 h (fun r w2 hK => ?_)
  obtain ⟨x2, rfl, h⟩ := hK
  change LWs L xs i 199 [.inl x2, .inl x1] w2
  exact WP.icmp_eq (tgt := 645) dL_199 (by decide) (fun _ => H w2 h.2) (fun hc => absurd h.1 hc)
theorem lc_4 (h0 : 0 ≤ i) (h1 : i + 3 < (L : Int)) (h2 : L ≤ 2048) (hI : Inv n w) (H : ∀ w', Inv (n + 1) w' → LWs L xs i 645 [] w') : LWs L xs i 204 [] w := by
  have h := c_copy (d := 600) (K2 := fun x y w2 => x = y ∧ Inv (n + 1) w2) (a := (lwV xs (i + 1))) (b := (lwV xs (i + 2))) (by decide) hI (fun x w' hi => ⟨rfl, hi⟩)
  refine WP.aload_n dL_204 rfl (by decide) ?_
  refine WP.aload_n dL_205 rfl (by decide) ?_
  refine WP.iload_n dL_206 rfl ?_
  refine WP.iconst dL_207 ⟨by decide, by decide⟩ ?_
  refine WP.iadd dL_208 ⟨by omega, by omega⟩ ?_
  refine WP.sld (v := lwV xs (i + 1)) dL_209 (by omega) (by omega) rfl ?_
  refine WP.aload_n dL_210 rfl (by decide) ?_
  refine WP.iload_n dL_211 rfl ?_
  refine WP.iconst dL_212 ⟨by decide, by decide⟩ ?_
  refine WP.iadd dL_213 ⟨by omega, by omega⟩ ?_
  refine WP.sld (v := lwV xs (i + 2)) dL_214 (by omega) (by omega) rfl ?_
  obtain ⟨d1, hd1, h⟩ := h
  refine WP.callV2 dL_215 lkL_31 (by decide) (by decide) ob_1 rfl (Nat.le_of_ble_eq_true rfl) hd1 h (fun r w1 hK => ?_)
  obtain ⟨x1, rfl, h⟩ := hK
  change LWs L xs i 218 [.inl x1] w1
  refine WP.aload_n dL_218 rfl (by decide) ?_
  refine WP.aload_n dL_219 rfl (by decide) ?_
  refine WP.iload_n dL_220 rfl ?_
  refine WP.iconst dL_221 ⟨by decide, by decide⟩ ?_
  refine WP.iadd dL_222 ⟨by omega, by omega⟩ ?_
  refine WP.sld (v := lwV xs (i + 1)) dL_223 (by omega) (by omega) rfl ?_
  refine WP.aload_n dL_224 rfl (by decide) ?_
  refine WP.iload_n dL_225 rfl ?_
  refine WP.iconst dL_226 ⟨by decide, by decide⟩ ?_
  refine WP.iadd dL_227 ⟨by omega, by omega⟩ ?_
  refine WP.sld (v := lwV xs (i + 2)) dL_228 (by omega) (by omega) rfl ?_
  obtain ⟨d2, hd2, h⟩ := h
  refine WP.callV2 dL_229 lkL_35 (by decide) (by decide) ob_115 rfl (Nat.le_of_ble_eq_true rfl) hd2 h (fun r w2 hK => ?_)
  obtain ⟨x2, rfl, h⟩ := hK
  change LWs L xs i 232 [.inl x2, .inl x1] w2
  exact WP.icmp_eq (tgt := 645) dL_232 (by decide) (fun _ => H w2 h.2) (fun hc => absurd h.1 hc)
theorem lc_5 (h0 : 0 ≤ i) (h1 : i + 3 < (L : Int)) (h2 : L ≤ 2048) (hI : Inv n w) (H : ∀ w', Inv (n + 1) w' → LWs L xs i 645 [] w') : LWs L xs i 237 [] w := by
  have h := c_drop (d := 600) (K2 := fun x y w2 => x = y ∧ Inv (n + 1) w2)  (by decide) hI (fun x w' hi => ⟨rfl, hi⟩)
  refine WP.aload_n dL_237 rfl (by decide) ?_
  obtain ⟨d1, hd1, h⟩ := h
  refine WP.callV0 dL_238 lkL_36 (by decide) (by decide) ob_1 rfl (Nat.le_of_ble_eq_true rfl) hd1 h (fun r w1 hK => ?_)
  obtain ⟨x1, rfl, h⟩ := hK
  change LWs L xs i 241 [.inl x1] w1
  refine WP.aload_n dL_241 rfl (by decide) ?_
  obtain ⟨d2, hd2, h⟩ := h
  refine WP.callV0 dL_242 lkL_39 (by decide) (by decide) ob_115 rfl (Nat.le_of_ble_eq_true rfl) hd2 h (fun r w2 hK => ?_)
  obtain ⟨x2, rfl, h⟩ := hK
  change LWs L xs i 245 [.inl x2, .inl x1] w2
  exact WP.icmp_eq (tgt := 645) dL_245 (by decide) (fun _ => H w2 h.2) (fun hc => absurd h.1 hc)
theorem lc_6 (h0 : 0 ≤ i) (h1 : i + 3 < (L : Int)) (h2 : L ≤ 2048) (hI : Inv n w) (H : ∀ w', Inv (n + 1) w' → LWs L xs i 645 [] w') : LWs L xs i 250 [] w := by
  have h := c_waitingAt (d := 600) (K2 := fun x y w2 => x = y ∧ Inv (n + 1) w2) (a := (lwV xs (i + 1))) (by decide) (lwV_le _ _) hI (fun x => ⟨rfl, hI.up⟩)
  refine WP.aload_n dL_250 rfl (by decide) ?_
  refine WP.aload_n dL_251 rfl (by decide) ?_
  refine WP.iload_n dL_252 rfl ?_
  refine WP.iconst dL_253 ⟨by decide, by decide⟩ ?_
  refine WP.iadd dL_254 ⟨by omega, by omega⟩ ?_
  refine WP.sld (v := lwV xs (i + 1)) dL_255 (by omega) (by omega) rfl ?_
  obtain ⟨d1, hd1, h⟩ := h
  refine WP.callV1 dL_256 lkL_40 (by decide) (by decide) ob_1 rfl (Nat.le_of_ble_eq_true rfl) hd1 h (fun r w1 hK => ?_)
  obtain ⟨x1, rfl, h⟩ := hK
  change LWs L xs i 259 [.inl x1] w1
  refine WP.aload_n dL_259 rfl (by decide) ?_
  refine WP.aload_n dL_260 rfl (by decide) ?_
  refine WP.iload_n dL_261 rfl ?_
  refine WP.iconst dL_262 ⟨by decide, by decide⟩ ?_
  refine WP.iadd dL_263 ⟨by omega, by omega⟩ ?_
  refine WP.sld (v := lwV xs (i + 1)) dL_264 (by omega) (by omega) rfl ?_
  obtain ⟨d2, hd2, h⟩ := h
  refine WP.callV1 dL_265 lkL_43 (by decide) (by decide) ob_115 rfl (Nat.le_of_ble_eq_true rfl) hd2 h (fun r w2 hK => ?_)
  obtain ⟨x2, rfl, h⟩ := hK
  change LWs L xs i 268 [.inl x2, .inl x1] w2
  exact WP.icmp_eq (tgt := 645) dL_268 (by decide) (fun _ => H w2 h.2) (fun hc => absurd h.1 hc)
theorem lc_7 (h0 : 0 ≤ i) (h1 : i + 3 < (L : Int)) (h2 : L ≤ 2048) (hn : n ≤ 20000) (hI : Inv n w) (H : ∀ w', Inv (n + 1) w' → LWs L xs i 645 [] w') : LWs L xs i 273 [] w := by
  have h := c_update (d := 600) (K2 := fun x y w2 => x = y ∧ Inv (n + 1) w2)  (by decide) hn hI (fun x w' hi => ⟨rfl, hi⟩)
  refine WP.aload_n dL_273 rfl (by decide) ?_
  obtain ⟨d1, hd1, h⟩ := h
  refine WP.callV0 dL_274 lkL_44 (by decide) (by decide) ob_1 rfl (Nat.le_of_ble_eq_true rfl) hd1 h (fun r w1 hK => ?_)
  obtain ⟨x1, rfl, h⟩ := hK
  change LWs L xs i 277 [.inl x1] w1
  refine WP.aload_n dL_277 rfl (by decide) ?_
  obtain ⟨d2, hd2, h⟩ := h
  refine WP.callV0 dL_278 lkL_47 (by decide) (by decide) ob_115 rfl (Nat.le_of_ble_eq_true rfl) hd2 h (fun r w2 hK => ?_)
  obtain ⟨x2, rfl, h⟩ := hK
  change LWs L xs i 281 [.inl x2, .inl x1] w2
  exact WP.icmp_eq (tgt := 645) dL_281 (by decide) (fun _ => H w2 h.2) (fun hc => absurd h.1 hc)
theorem lc_8 (h0 : 0 ≤ i) (h1 : i + 3 < (L : Int)) (h2 : L ≤ 2048) (hn : n ≤ 20000) (hI : Inv n w) (H : ∀ w', Inv (n + 1) w' → LWs L xs i 645 [] w') : LWs L xs i 286 [] w := by
  have h := c_rounds (d := 600) (K2 := fun x y w2 => x = y ∧ Inv (n + 1) w2) (a := (lwV xs (i + 1))) (by decide) hn hI (fun x w' hi => ⟨rfl, hi⟩)
  refine WP.aload_n dL_286 rfl (by decide) ?_
  refine WP.aload_n dL_287 rfl (by decide) ?_
  refine WP.iload_n dL_288 rfl ?_
  refine WP.iconst dL_289 ⟨by decide, by decide⟩ ?_
  refine WP.iadd dL_290 ⟨by omega, by omega⟩ ?_
  refine WP.sld (v := lwV xs (i + 1)) dL_291 (by omega) (by omega) rfl ?_
  obtain ⟨d1, hd1, h⟩ := h
  refine WP.callV1 dL_292 lkL_48 (by decide) (by decide) ob_1 rfl (Nat.le_of_ble_eq_true rfl) hd1 h (fun r w1 hK => ?_)
  obtain ⟨x1, rfl, h⟩ := hK
  change LWs L xs i 295 [.inl x1] w1
  refine WP.aload_n dL_295 rfl (by decide) ?_
  refine WP.aload_n dL_296 rfl (by decide) ?_
  refine WP.iload_n dL_297 rfl ?_
  refine WP.iconst dL_298 ⟨by decide, by decide⟩ ?_
  refine WP.iadd dL_299 ⟨by omega, by omega⟩ ?_
  refine WP.sld (v := lwV xs (i + 1)) dL_300 (by omega) (by omega) rfl ?_
  obtain ⟨d2, hd2, h⟩ := h
  refine WP.callV1 dL_301 lkL_51 (by decide) (by decide) ob_115 rfl (Nat.le_of_ble_eq_true rfl) hd2 h (fun r w2 hK => ?_)
  obtain ⟨x2, rfl, h⟩ := hK
  change LWs L xs i 304 [.inl x2, .inl x1] w2
  exact WP.icmp_eq (tgt := 645) dL_304 (by decide) (fun _ => H w2 h.2) (fun hc => absurd h.1 hc)
theorem lc_9 (h0 : 0 ≤ i) (h1 : i + 3 < (L : Int)) (h2 : L ≤ 2048) (hI : Inv n w) (H : ∀ w', Inv (n + 1) w' → LWs L xs i 645 [] w') : LWs L xs i 309 [] w := by
  have h := c_value (d := 600) (K2 := fun x y w2 => x = y ∧ Inv (n + 1) w2) (a := (lwV xs (i + 1))) (by decide) hI (fun x => ⟨rfl, hI.up⟩)
  refine WP.aload_n dL_309 rfl (by decide) ?_
  refine WP.aload_n dL_310 rfl (by decide) ?_
  refine WP.iload_n dL_311 rfl ?_
  refine WP.iconst dL_312 ⟨by decide, by decide⟩ ?_
  refine WP.iadd dL_313 ⟨by omega, by omega⟩ ?_
  refine WP.sld (v := lwV xs (i + 1)) dL_314 (by omega) (by omega) rfl ?_
  obtain ⟨d1, hd1, h⟩ := h
  refine WP.callV1 dL_315 lkL_52 (by decide) (by decide) ob_1 rfl (Nat.le_of_ble_eq_true rfl) hd1 h (fun r w1 hK => ?_)
  obtain ⟨x1, rfl, h⟩ := hK
  change LWs L xs i 318 [.inl x1] w1
  refine WP.aload_n dL_318 rfl (by decide) ?_
  refine WP.aload_n dL_319 rfl (by decide) ?_
  refine WP.iload_n dL_320 rfl ?_
  refine WP.iconst dL_321 ⟨by decide, by decide⟩ ?_
  refine WP.iadd dL_322 ⟨by omega, by omega⟩ ?_
  refine WP.sld (v := lwV xs (i + 1)) dL_323 (by omega) (by omega) rfl ?_
  obtain ⟨d2, hd2, h⟩ := h
  refine WP.callV1 dL_324 lkL_55 (by decide) (by decide) ob_115 rfl (Nat.le_of_ble_eq_true rfl) hd2 h (fun r w2 hK => ?_)
  obtain ⟨x2, rfl, h⟩ := hK
  change LWs L xs i 327 [.inl x2, .inl x1] w2
  exact WP.icmp_eq (tgt := 645) dL_327 (by decide) (fun _ => H w2 h.2) (fun hc => absurd h.1 hc)
theorem lc_10 (h0 : 0 ≤ i) (h1 : i + 3 < (L : Int)) (h2 : L ≤ 2048) (hI : Inv n w) (H : ∀ w', Inv (n + 1) w' → LWs L xs i 645 [] w') : LWs L xs i 332 [] w := by
  have h := c_cellOf (d := 600) (K2 := fun x y w2 => x = y ∧ Inv (n + 1) w2) (a := (lwV xs (i + 1))) (b := (lwV xs (i + 2))) (by decide) hI (fun x => ⟨rfl, hI.up⟩)
  refine WP.aload_n dL_332 rfl (by decide) ?_
  refine WP.aload_n dL_333 rfl (by decide) ?_
  refine WP.iload_n dL_334 rfl ?_
  refine WP.iconst dL_335 ⟨by decide, by decide⟩ ?_
  refine WP.iadd dL_336 ⟨by omega, by omega⟩ ?_
  refine WP.sld (v := lwV xs (i + 1)) dL_337 (by omega) (by omega) rfl ?_
  refine WP.aload_n dL_338 rfl (by decide) ?_
  refine WP.iload_n dL_339 rfl ?_
  refine WP.iconst dL_340 ⟨by decide, by decide⟩ ?_
  refine WP.iadd dL_341 ⟨by omega, by omega⟩ ?_
  refine WP.sld (v := lwV xs (i + 2)) dL_342 (by omega) (by omega) rfl ?_
  obtain ⟨d1, hd1, h⟩ := h
  refine WP.callV2 dL_343 lkL_56 (by decide) (by decide) ob_1 rfl (Nat.le_of_ble_eq_true rfl) hd1 h (fun r w1 hK => ?_)
  obtain ⟨x1, rfl, h⟩ := hK
  change LWs L xs i 346 [.inl x1] w1
  refine WP.aload_n dL_346 rfl (by decide) ?_
  refine WP.aload_n dL_347 rfl (by decide) ?_
  refine WP.iload_n dL_348 rfl ?_
  refine WP.iconst dL_349 ⟨by decide, by decide⟩ ?_
  refine WP.iadd dL_350 ⟨by omega, by omega⟩ ?_
  refine WP.sld (v := lwV xs (i + 1)) dL_351 (by omega) (by omega) rfl ?_
  refine WP.aload_n dL_352 rfl (by decide) ?_
  refine WP.iload_n dL_353 rfl ?_
  refine WP.iconst dL_354 ⟨by decide, by decide⟩ ?_
  refine WP.iadd dL_355 ⟨by omega, by omega⟩ ?_
  refine WP.sld (v := lwV xs (i + 2)) dL_356 (by omega) (by omega) rfl ?_
  obtain ⟨d2, hd2, h⟩ := h
  refine WP.callV2 dL_357 lkL_59 (by decide) (by decide) ob_115 rfl (Nat.le_of_ble_eq_true rfl) hd2 h (fun r w2 hK => ?_)
  obtain ⟨x2, rfl, h⟩ := hK
  change LWs L xs i 360 [.inl x2, .inl x1] w2
  exact WP.icmp_eq (tgt := 645) dL_360 (by decide) (fun _ => H w2 h.2) (fun hc => absurd h.1 hc)
theorem lc_11 (h0 : 0 ≤ i) (h1 : i + 3 < (L : Int)) (h2 : L ≤ 2048) (hI : Inv n w) (H : ∀ w', Inv (n + 1) w' → LWs L xs i 645 [] w') : LWs L xs i 365 [] w := by
  have h := c_letterAt (d := 600) (K2 := fun x y w2 => x = y ∧ Inv (n + 1) w2) (a := (lwV xs (i + 1))) (b := (lwV xs (i + 2))) (by decide) hI (fun x => ⟨rfl, hI.up⟩)
  refine WP.aload_n dL_365 rfl (by decide) ?_
  refine WP.aload_n dL_366 rfl (by decide) ?_
  refine WP.iload_n dL_367 rfl ?_
  refine WP.iconst dL_368 ⟨by decide, by decide⟩ ?_
  refine WP.iadd dL_369 ⟨by omega, by omega⟩ ?_
  refine WP.sld (v := lwV xs (i + 1)) dL_370 (by omega) (by omega) rfl ?_
  refine WP.aload_n dL_371 rfl (by decide) ?_
  refine WP.iload_n dL_372 rfl ?_
  refine WP.iconst dL_373 ⟨by decide, by decide⟩ ?_
  refine WP.iadd dL_374 ⟨by omega, by omega⟩ ?_
  refine WP.sld (v := lwV xs (i + 2)) dL_375 (by omega) (by omega) rfl ?_
  obtain ⟨d1, hd1, h⟩ := h
  refine WP.callV2 dL_376 lkL_60 (by decide) (by decide) ob_1 rfl (Nat.le_of_ble_eq_true rfl) hd1 h (fun r w1 hK => ?_)
  obtain ⟨x1, rfl, h⟩ := hK
  change LWs L xs i 379 [.inl x1] w1
  refine WP.aload_n dL_379 rfl (by decide) ?_
  refine WP.aload_n dL_380 rfl (by decide) ?_
  refine WP.iload_n dL_381 rfl ?_
  refine WP.iconst dL_382 ⟨by decide, by decide⟩ ?_
  refine WP.iadd dL_383 ⟨by omega, by omega⟩ ?_
  refine WP.sld (v := lwV xs (i + 1)) dL_384 (by omega) (by omega) rfl ?_
  refine WP.aload_n dL_385 rfl (by decide) ?_
  refine WP.iload_n dL_386 rfl ?_
  refine WP.iconst dL_387 ⟨by decide, by decide⟩ ?_
  refine WP.iadd dL_388 ⟨by omega, by omega⟩ ?_
  refine WP.sld (v := lwV xs (i + 2)) dL_389 (by omega) (by omega) rfl ?_
  obtain ⟨d2, hd2, h⟩ := h
  refine WP.callV2 dL_390 lkL_63 (by decide) (by decide) ob_115 rfl (Nat.le_of_ble_eq_true rfl) hd2 h (fun r w2 hK => ?_)
  obtain ⟨x2, rfl, h⟩ := hK
  change LWs L xs i 393 [.inl x2, .inl x1] w2
  exact WP.icmp_eq (tgt := 645) dL_393 (by decide) (fun _ => H w2 h.2) (fun hc => absurd h.1 hc)
theorem lc_12 (h0 : 0 ≤ i) (h1 : i + 3 < (L : Int)) (h2 : L ≤ 2048) (hI : Inv n w) (H : ∀ w', Inv (n + 1) w' → LWs L xs i 645 [] w') : LWs L xs i 398 [] w := by
  have h := c_readAt (d := 600) (K2 := fun x y w2 => x = y ∧ Inv (n + 1) w2) (a := (lwV xs (i + 1))) (b := (lwV xs (i + 2))) (by decide) hI (fun x => ⟨rfl, hI.up⟩)
  refine WP.aload_n dL_398 rfl (by decide) ?_
  refine WP.aload_n dL_399 rfl (by decide) ?_
  refine WP.iload_n dL_400 rfl ?_
  refine WP.iconst dL_401 ⟨by decide, by decide⟩ ?_
  refine WP.iadd dL_402 ⟨by omega, by omega⟩ ?_
  refine WP.sld (v := lwV xs (i + 1)) dL_403 (by omega) (by omega) rfl ?_
  refine WP.aload_n dL_404 rfl (by decide) ?_
  refine WP.iload_n dL_405 rfl ?_
  refine WP.iconst dL_406 ⟨by decide, by decide⟩ ?_
  refine WP.iadd dL_407 ⟨by omega, by omega⟩ ?_
  refine WP.sld (v := lwV xs (i + 2)) dL_408 (by omega) (by omega) rfl ?_
  obtain ⟨d1, hd1, h⟩ := h
  refine WP.callV2 dL_409 lkL_64 (by decide) (by decide) ob_1 rfl (Nat.le_of_ble_eq_true rfl) hd1 h (fun r w1 hK => ?_)
  obtain ⟨x1, rfl, h⟩ := hK
  change LWs L xs i 412 [.inl x1] w1
  refine WP.aload_n dL_412 rfl (by decide) ?_
  refine WP.aload_n dL_413 rfl (by decide) ?_
  refine WP.iload_n dL_414 rfl ?_
  refine WP.iconst dL_415 ⟨by decide, by decide⟩ ?_
  refine WP.iadd dL_416 ⟨by omega, by omega⟩ ?_
  refine WP.sld (v := lwV xs (i + 1)) dL_417 (by omega) (by omega) rfl ?_
  refine WP.aload_n dL_418 rfl (by decide) ?_
  refine WP.iload_n dL_419 rfl ?_
  refine WP.iconst dL_420 ⟨by decide, by decide⟩ ?_
  refine WP.iadd dL_421 ⟨by omega, by omega⟩ ?_
  refine WP.sld (v := lwV xs (i + 2)) dL_422 (by omega) (by omega) rfl ?_
  obtain ⟨d2, hd2, h⟩ := h
  refine WP.callV2 dL_423 lkL_67 (by decide) (by decide) ob_115 rfl (Nat.le_of_ble_eq_true rfl) hd2 h (fun r w2 hK => ?_)
  obtain ⟨x2, rfl, h⟩ := hK
  change LWs L xs i 426 [.inl x2, .inl x1] w2
  exact WP.icmp_eq (tgt := 645) dL_426 (by decide) (fun _ => H w2 h.2) (fun hc => absurd h.1 hc)
theorem lc_13 (h0 : 0 ≤ i) (h1 : i + 3 < (L : Int)) (h2 : L ≤ 2048) (hI : Inv n w) (H : ∀ w', Inv (n + 1) w' → LWs L xs i 645 [] w') : LWs L xs i 431 [] w := by
  have h := c_readerAt (d := 600) (K2 := fun x y w2 => x = y ∧ Inv (n + 1) w2) (a := (lwV xs (i + 1))) (b := (lwV xs (i + 2))) (by decide) (lwV_le _ _) hI (fun x => ⟨rfl, hI.up⟩)
  refine WP.aload_n dL_431 rfl (by decide) ?_
  refine WP.aload_n dL_432 rfl (by decide) ?_
  refine WP.iload_n dL_433 rfl ?_
  refine WP.iconst dL_434 ⟨by decide, by decide⟩ ?_
  refine WP.iadd dL_435 ⟨by omega, by omega⟩ ?_
  refine WP.sld (v := lwV xs (i + 1)) dL_436 (by omega) (by omega) rfl ?_
  refine WP.aload_n dL_437 rfl (by decide) ?_
  refine WP.iload_n dL_438 rfl ?_
  refine WP.iconst dL_439 ⟨by decide, by decide⟩ ?_
  refine WP.iadd dL_440 ⟨by omega, by omega⟩ ?_
  refine WP.sld (v := lwV xs (i + 2)) dL_441 (by omega) (by omega) rfl ?_
  obtain ⟨d1, hd1, h⟩ := h
  refine WP.callV2 dL_442 lkL_68 (by decide) (by decide) ob_1 rfl (Nat.le_of_ble_eq_true rfl) hd1 h (fun r w1 hK => ?_)
  obtain ⟨x1, rfl, h⟩ := hK
  change LWs L xs i 445 [.inl x1] w1
  refine WP.aload_n dL_445 rfl (by decide) ?_
  refine WP.aload_n dL_446 rfl (by decide) ?_
  refine WP.iload_n dL_447 rfl ?_
  refine WP.iconst dL_448 ⟨by decide, by decide⟩ ?_
  refine WP.iadd dL_449 ⟨by omega, by omega⟩ ?_
  refine WP.sld (v := lwV xs (i + 1)) dL_450 (by omega) (by omega) rfl ?_
  refine WP.aload_n dL_451 rfl (by decide) ?_
  refine WP.iload_n dL_452 rfl ?_
  refine WP.iconst dL_453 ⟨by decide, by decide⟩ ?_
  refine WP.iadd dL_454 ⟨by omega, by omega⟩ ?_
  refine WP.sld (v := lwV xs (i + 2)) dL_455 (by omega) (by omega) rfl ?_
  obtain ⟨d2, hd2, h⟩ := h
  refine WP.callV2 dL_456 lkL_71 (by decide) (by decide) ob_115 rfl (Nat.le_of_ble_eq_true rfl) hd2 h (fun r w2 hK => ?_)
  obtain ⟨x2, rfl, h⟩ := hK
  change LWs L xs i 459 [.inl x2, .inl x1] w2
  exact WP.icmp_eq (tgt := 645) dL_459 (by decide) (fun _ => H w2 h.2) (fun hc => absurd h.1 hc)
theorem lc_14 (h0 : 0 ≤ i) (h1 : i + 3 < (L : Int)) (h2 : L ≤ 2048) (hI : Inv n w) (H : ∀ w', Inv (n + 1) w' → LWs L xs i 645 [] w') : LWs L xs i 464 [] w := by
  have h := c_ranAt (d := 600) (K2 := fun x y w2 => x = y ∧ Inv (n + 1) w2) (a := (lwV xs (i + 1))) (by decide) (lwV_le _ _) hI (fun x => ⟨rfl, hI.up⟩)
  refine WP.aload_n dL_464 rfl (by decide) ?_
  refine WP.aload_n dL_465 rfl (by decide) ?_
  refine WP.iload_n dL_466 rfl ?_
  refine WP.iconst dL_467 ⟨by decide, by decide⟩ ?_
  refine WP.iadd dL_468 ⟨by omega, by omega⟩ ?_
  refine WP.sld (v := lwV xs (i + 1)) dL_469 (by omega) (by omega) rfl ?_
  obtain ⟨d1, hd1, h⟩ := h
  refine WP.callV1 dL_470 lkL_72 (by decide) (by decide) ob_1 rfl (Nat.le_of_ble_eq_true rfl) hd1 h (fun r w1 hK => ?_)
  obtain ⟨x1, rfl, h⟩ := hK
  change LWs L xs i 473 [.inl x1] w1
  refine WP.aload_n dL_473 rfl (by decide) ?_
  refine WP.aload_n dL_474 rfl (by decide) ?_
  refine WP.iload_n dL_475 rfl ?_
  refine WP.iconst dL_476 ⟨by decide, by decide⟩ ?_
  refine WP.iadd dL_477 ⟨by omega, by omega⟩ ?_
  refine WP.sld (v := lwV xs (i + 1)) dL_478 (by omega) (by omega) rfl ?_
  obtain ⟨d2, hd2, h⟩ := h
  refine WP.callV1 dL_479 lkL_75 (by decide) (by decide) ob_115 rfl (Nat.le_of_ble_eq_true rfl) hd2 h (fun r w2 hK => ?_)
  obtain ⟨x2, rfl, h⟩ := hK
  change LWs L xs i 482 [.inl x2, .inl x1] w2
  exact WP.icmp_eq (tgt := 645) dL_482 (by decide) (fun _ => H w2 h.2) (fun hc => absurd h.1 hc)
theorem lc_15 (h0 : 0 ≤ i) (h1 : i + 3 < (L : Int)) (h2 : L ≤ 2048) (hI : Inv n w) (H : ∀ w', Inv (n + 1) w' → LWs L xs i 645 [] w') : LWs L xs i 487 [] w := by
  have h := c_changedAt (d := 600) (K2 := fun x y w2 => x = y ∧ Inv (n + 1) w2) (a := (lwV xs (i + 1))) (by decide) (lwV_le _ _) hI (fun x => ⟨rfl, hI.up⟩)
  refine WP.aload_n dL_487 rfl (by decide) ?_
  refine WP.aload_n dL_488 rfl (by decide) ?_
  refine WP.iload_n dL_489 rfl ?_
  refine WP.iconst dL_490 ⟨by decide, by decide⟩ ?_
  refine WP.iadd dL_491 ⟨by omega, by omega⟩ ?_
  refine WP.sld (v := lwV xs (i + 1)) dL_492 (by omega) (by omega) rfl ?_
  obtain ⟨d1, hd1, h⟩ := h
  refine WP.callV1 dL_493 lkL_76 (by decide) (by decide) ob_1 rfl (Nat.le_of_ble_eq_true rfl) hd1 h (fun r w1 hK => ?_)
  obtain ⟨x1, rfl, h⟩ := hK
  change LWs L xs i 496 [.inl x1] w1
  refine WP.aload_n dL_496 rfl (by decide) ?_
  refine WP.aload_n dL_497 rfl (by decide) ?_
  refine WP.iload_n dL_498 rfl ?_
  refine WP.iconst dL_499 ⟨by decide, by decide⟩ ?_
  refine WP.iadd dL_500 ⟨by omega, by omega⟩ ?_
  refine WP.sld (v := lwV xs (i + 1)) dL_501 (by omega) (by omega) rfl ?_
  obtain ⟨d2, hd2, h⟩ := h
  refine WP.callV1 dL_502 lkL_79 (by decide) (by decide) ob_115 rfl (Nat.le_of_ble_eq_true rfl) hd2 h (fun r w2 hK => ?_)
  obtain ⟨x2, rfl, h⟩ := hK
  change LWs L xs i 505 [.inl x2, .inl x1] w2
  exact WP.icmp_eq (tgt := 645) dL_505 (by decide) (fun _ => H w2 h.2) (fun hc => absurd h.1 hc)
theorem lc_16 (h0 : 0 ≤ i) (h1 : i + 3 < (L : Int)) (h2 : L ≤ 2048) (hI : Inv n w) (H : ∀ w', Inv (n + 1) w' → LWs L xs i 645 [] w') : LWs L xs i 510 [] w := by
  have h := c_cause (d := 600) (K2 := fun x y w2 => x = y ∧ Inv (n + 1) w2) (a := (lwV xs (i + 1))) (by decide) hI (fun x => ⟨rfl, hI.up⟩)
  refine WP.aload_n dL_510 rfl (by decide) ?_
  refine WP.aload_n dL_511 rfl (by decide) ?_
  refine WP.iload_n dL_512 rfl ?_
  refine WP.iconst dL_513 ⟨by decide, by decide⟩ ?_
  refine WP.iadd dL_514 ⟨by omega, by omega⟩ ?_
  refine WP.sld (v := lwV xs (i + 1)) dL_515 (by omega) (by omega) rfl ?_
  obtain ⟨d1, hd1, h⟩ := h
  refine WP.callV1 dL_516 lkL_80 (by decide) (by decide) ob_1 rfl (Nat.le_of_ble_eq_true rfl) hd1 h (fun r w1 hK => ?_)
  obtain ⟨x1, rfl, h⟩ := hK
  change LWs L xs i 519 [.inl x1] w1
  refine WP.aload_n dL_519 rfl (by decide) ?_
  refine WP.aload_n dL_520 rfl (by decide) ?_
  refine WP.iload_n dL_521 rfl ?_
  refine WP.iconst dL_522 ⟨by decide, by decide⟩ ?_
  refine WP.iadd dL_523 ⟨by omega, by omega⟩ ?_
  refine WP.sld (v := lwV xs (i + 1)) dL_524 (by omega) (by omega) rfl ?_
  obtain ⟨d2, hd2, h⟩ := h
  refine WP.callV1 dL_525 lkL_83 (by decide) (by decide) ob_115 rfl (Nat.le_of_ble_eq_true rfl) hd2 h (fun r w2 hK => ?_)
  obtain ⟨x2, rfl, h⟩ := hK
  change LWs L xs i 528 [.inl x2, .inl x1] w2
  exact WP.icmp_eq (tgt := 645) dL_528 (by decide) (fun _ => H w2 h.2) (fun hc => absurd h.1 hc)
theorem lc_17 (h0 : 0 ≤ i) (h1 : i + 3 < (L : Int)) (h2 : L ≤ 2048) (hI : Inv n w) (H : ∀ w', Inv (n + 1) w' → LWs L xs i 645 [] w') : LWs L xs i 533 [] w := by
  have h := c_chainAt (d := 600) (K2 := fun x y w2 => x = y ∧ Inv (n + 1) w2) (a := (lwV xs (i + 1))) (b := (lwV xs (i + 2))) (by decide) hI (fun x w' hi => ⟨rfl, hi.up⟩)
  refine WP.aload_n dL_533 rfl (by decide) ?_
  refine WP.aload_n dL_534 rfl (by decide) ?_
  refine WP.iload_n dL_535 rfl ?_
  refine WP.iconst dL_536 ⟨by decide, by decide⟩ ?_
  refine WP.iadd dL_537 ⟨by omega, by omega⟩ ?_
  refine WP.sld (v := lwV xs (i + 1)) dL_538 (by omega) (by omega) rfl ?_
  refine WP.aload_n dL_539 rfl (by decide) ?_
  refine WP.iload_n dL_540 rfl ?_
  refine WP.iconst dL_541 ⟨by decide, by decide⟩ ?_
  refine WP.iadd dL_542 ⟨by omega, by omega⟩ ?_
  refine WP.sld (v := lwV xs (i + 2)) dL_543 (by omega) (by omega) rfl ?_
  obtain ⟨d1, hd1, h⟩ := h
  refine WP.callV2 dL_544 lkL_84 (by decide) (by decide) ob_1 rfl (Nat.le_of_ble_eq_true rfl) hd1 h (fun r w1 hK => ?_)
  obtain ⟨x1, rfl, h⟩ := hK
  change LWs L xs i 547 [.inl x1] w1
  refine WP.aload_n dL_547 rfl (by decide) ?_
  refine WP.aload_n dL_548 rfl (by decide) ?_
  refine WP.iload_n dL_549 rfl ?_
  refine WP.iconst dL_550 ⟨by decide, by decide⟩ ?_
  refine WP.iadd dL_551 ⟨by omega, by omega⟩ ?_
  refine WP.sld (v := lwV xs (i + 1)) dL_552 (by omega) (by omega) rfl ?_
  refine WP.aload_n dL_553 rfl (by decide) ?_
  refine WP.iload_n dL_554 rfl ?_
  refine WP.iconst dL_555 ⟨by decide, by decide⟩ ?_
  refine WP.iadd dL_556 ⟨by omega, by omega⟩ ?_
  refine WP.sld (v := lwV xs (i + 2)) dL_557 (by omega) (by omega) rfl ?_
  obtain ⟨d2, hd2, h⟩ := h
  refine WP.callV2 dL_558 lkL_87 (by decide) (by decide) ob_115 rfl (Nat.le_of_ble_eq_true rfl) hd2 h (fun r w2 hK => ?_)
  obtain ⟨x2, rfl, h⟩ := hK
  change LWs L xs i 561 [.inl x2, .inl x1] w2
  exact WP.icmp_eq (tgt := 645) dL_561 (by decide) (fun _ => H w2 h.2) (fun hc => absurd h.1 hc)
theorem lc_18 (h0 : 0 ≤ i) (h1 : i + 3 < (L : Int)) (h2 : L ≤ 2048) (hn : n ≤ 20000) (hI : Inv n w) (H : ∀ w', Inv (n + 1) w' → LWs L xs i 645 [] w') : LWs L xs i 566 [] w := by
  have h := c_whatIf (d := 600) (K2 := fun x y w2 => x = y ∧ Inv (n + 1) w2) (c := (lwV xs (i + 1))) (x := (lwV xs (i + 2))) (o := (lwV xs (i + 3))) (by decide) hn hI (fun x w' hi => ⟨rfl, hi⟩)
  refine WP.aload_n dL_566 rfl (by decide) ?_
  refine WP.aload_n dL_567 rfl (by decide) ?_
  refine WP.iload_n dL_568 rfl ?_
  refine WP.iconst dL_569 ⟨by decide, by decide⟩ ?_
  refine WP.iadd dL_570 ⟨by omega, by omega⟩ ?_
  refine WP.sld (v := lwV xs (i + 1)) dL_571 (by omega) (by omega) rfl ?_
  refine WP.aload_n dL_572 rfl (by decide) ?_
  refine WP.iload_n dL_573 rfl ?_
  refine WP.iconst dL_574 ⟨by decide, by decide⟩ ?_
  refine WP.iadd dL_575 ⟨by omega, by omega⟩ ?_
  refine WP.sld (v := lwV xs (i + 2)) dL_576 (by omega) (by omega) rfl ?_
  refine WP.aload_n dL_577 rfl (by decide) ?_
  refine WP.iload_n dL_578 rfl ?_
  refine WP.iconst dL_579 ⟨by decide, by decide⟩ ?_
  refine WP.iadd dL_580 ⟨by omega, by omega⟩ ?_
  refine WP.sld (v := lwV xs (i + 3)) dL_581 (by omega) (by omega) rfl ?_
  obtain ⟨d1, hd1, h⟩ := h
  refine WP.callV3 dL_582 lkL_88 (by decide) (by decide) ob_1 rfl (Nat.le_of_ble_eq_true rfl) hd1 h (fun r w1 hK => ?_)
  obtain ⟨x1, rfl, h⟩ := hK
  change LWs L xs i 585 [.inl x1] w1
  refine WP.aload_n dL_585 rfl (by decide) ?_
  refine WP.aload_n dL_586 rfl (by decide) ?_
  refine WP.iload_n dL_587 rfl ?_
  refine WP.iconst dL_588 ⟨by decide, by decide⟩ ?_
  refine WP.iadd dL_589 ⟨by omega, by omega⟩ ?_
  refine WP.sld (v := lwV xs (i + 1)) dL_590 (by omega) (by omega) rfl ?_
  refine WP.aload_n dL_591 rfl (by decide) ?_
  refine WP.iload_n dL_592 rfl ?_
  refine WP.iconst dL_593 ⟨by decide, by decide⟩ ?_
  refine WP.iadd dL_594 ⟨by omega, by omega⟩ ?_
  refine WP.sld (v := lwV xs (i + 2)) dL_595 (by omega) (by omega) rfl ?_
  refine WP.aload_n dL_596 rfl (by decide) ?_
  refine WP.iload_n dL_597 rfl ?_
  refine WP.iconst dL_598 ⟨by decide, by decide⟩ ?_
  refine WP.iadd dL_599 ⟨by omega, by omega⟩ ?_
  refine WP.sld (v := lwV xs (i + 3)) dL_600 (by omega) (by omega) rfl ?_
  obtain ⟨d2, hd2, h⟩ := h
  refine WP.callV3 dL_601 lkL_92 (by decide) (by decide) ob_115 rfl (Nat.le_of_ble_eq_true rfl) hd2 h (fun r w2 hK => ?_)
  obtain ⟨x2, rfl, h⟩ := hK
  change LWs L xs i 604 [.inl x2, .inl x1] w2
  exact WP.icmp_eq (tgt := 645) dL_604 (by decide) (fun _ => H w2 h.2) (fun hc => absurd h.1 hc)
theorem lc_19 (h0 : 0 ≤ i) (h1 : i + 3 < (L : Int)) (h2 : L ≤ 2048) (hn : n ≤ 20000) (hI : Inv n w) (H : ∀ w', Inv (n + 1) w' → LWs L xs i 645 [] w') : LWs L xs i 609 [] w := by
  have h := c_count (d := 600) (K2 := fun x y w2 => x = y ∧ Inv (n + 1) w2) (a := (lwV xs (i + 1))) (by decide) hn hI (fun x => ⟨rfl, hI.up⟩)
  refine WP.aload_n dL_609 rfl (by decide) ?_
  refine WP.aload_n dL_610 rfl (by decide) ?_
  refine WP.iload_n dL_611 rfl ?_
  refine WP.iconst dL_612 ⟨by decide, by decide⟩ ?_
  refine WP.iadd dL_613 ⟨by omega, by omega⟩ ?_
  refine WP.sld (v := lwV xs (i + 1)) dL_614 (by omega) (by omega) rfl ?_
  obtain ⟨d1, hd1, h⟩ := h
  refine WP.callV1 dL_615 lkL_93 (by decide) (by decide) ob_1 rfl (Nat.le_of_ble_eq_true rfl) hd1 h (fun r w1 hK => ?_)
  obtain ⟨x1, rfl, h⟩ := hK
  change LWs L xs i 618 [.inl x1] w1
  refine WP.aload_n dL_618 rfl (by decide) ?_
  refine WP.aload_n dL_619 rfl (by decide) ?_
  refine WP.iload_n dL_620 rfl ?_
  refine WP.iconst dL_621 ⟨by decide, by decide⟩ ?_
  refine WP.iadd dL_622 ⟨by omega, by omega⟩ ?_
  refine WP.sld (v := lwV xs (i + 1)) dL_623 (by omega) (by omega) rfl ?_
  obtain ⟨d2, hd2, h⟩ := h
  refine WP.callV1 dL_624 lkL_96 (by decide) (by decide) ob_115 rfl (Nat.le_of_ble_eq_true rfl) hd2 h (fun r w2 hK => ?_)
  obtain ⟨x2, rfl, h⟩ := hK
  change LWs L xs i 627 [.inl x2, .inl x1] w2
  exact WP.icmp_eq (tgt := 645) dL_627 (by decide) (fun _ => H w2 h.2) (fun hc => absurd h.1 hc)
theorem lc_20 (h0 : 0 ≤ i) (h1 : i + 3 < (L : Int)) (h2 : L ≤ 2048) (hI : Inv n w) (H : ∀ w', Inv (n + 1) w' → LWs L xs i 645 [] w') : LWs L xs i 632 [] w := by
  have h := c_undo (d := 600) (K2 := fun x y w2 => x = y ∧ Inv (n + 1) w2)  (by decide) hI (fun x w' hi => ⟨rfl, hi⟩)
  refine WP.aload_n dL_632 rfl (by decide) ?_
  obtain ⟨d1, hd1, h⟩ := h
  refine WP.callV0 dL_633 lkL_97 (by decide) (by decide) ob_1 rfl (Nat.le_of_ble_eq_true rfl) hd1 h (fun r w1 hK => ?_)
  obtain ⟨x1, rfl, h⟩ := hK
  change LWs L xs i 636 [.inl x1] w1
  refine WP.aload_n dL_636 rfl (by decide) ?_
  obtain ⟨d2, hd2, h⟩ := h
  refine WP.callV0 dL_637 lkL_100 (by decide) (by decide) ob_115 rfl (Nat.le_of_ble_eq_true rfl) hd2 h (fun r w2 hK => ?_)
  obtain ⟨x2, rfl, h⟩ := hK
  change LWs L xs i 640 [.inl x2, .inl x1] w2
  exact WP.icmp_eq (tgt := 645) dL_640 (by decide) (fun _ => H w2 h.2) (fun hc => absurd h.1 hc)
end LCS
