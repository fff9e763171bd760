/-! the law's cases, each out of what class and model answer; by wip/whole/gen61.py, rows laid by wip/whole/walk.py -/
/-- class and model answer alike -/
def AgrP (M D : Nat) (as : List Value) (Ks : Nat → Nat → Prop) (hs : amH) (q : Nat → Nat) (g : Nat → Nat → Nat) : Prop := (∃ v q' g', ClO M (.ref 1 :: as) hs (.inl (some (.int v))) q' g' ∧ ∀ hs1 l, MS hs1 q g l → CrQ D (.ref 39 :: as) hs1 (some (.int v)) (MP hs1 q' g' 0)) ∨ ∃ E kk w, 0 < kk ∧ kk < 4 ∧ Ks E kk ∧ ClO M (.ref 1 :: as) hs (.inr E) q g ∧ ∀ hs1 l, MS hs1 q g l → CrQ D (.ref 39 :: as) hs1 (some (.int w)) (MP hs1 q g kk)
def AgrV (M D : Nat) (as : List Value) (Ks : Nat → Nat → Prop) (hs : amH) (q : Nat → Nat) (g : Nat → Nat → Nat) : Prop := (∃ q' g', ClO M (.ref 1 :: as) hs (.inl none) q' g' ∧ ∀ hs1 l, MS hs1 q g l → CrQ D (.ref 39 :: as) hs1 none (MP hs1 q' g' 0)) ∨ ∃ E kk, 0 < kk ∧ kk < 4 ∧ Ks E kk ∧ ClO M (.ref 1 :: as) hs (.inr E) q g ∧ ∀ hs1 l, MS hs1 q g l → CrQ D (.ref 39 :: as) hs1 none (MP hs1 q g kk)
/-- the helper's call and the model's -/
def Out3 (H D : Nat) (as hx : List Value) (f : Int32 → Int64) (X : amC) (hs : amH) : Prop := ∃ dc ds kk hs1 w hs2 q' g' ov', dc ≤ 1 ∧ ds ≤ 6 ∧ kk < 4 ∧ Ca H hx hs (.inl (some (.int (nI kk))), hs1, dc, ds) ∧ Cr D (.ref 39 :: as) hs1 (some (.int w)) hs2 ∧ (∃ fs, hs1[39]? = some (.inr (4, fs))) ∧ hs1[0]? = some X ∧ LW X q' g' q' g' kk ov' hs2 ∧ (kk = 0 → ov' = f w)
def Out3V (H D : Nat) (as hx : List Value) (X : amC) (hs : amH) : Prop := ∃ dc ds kk hs1 hs2 q' g' ov', dc ≤ 1 ∧ ds ≤ 6 ∧ kk < 4 ∧ Ca H hx hs (.inl (some (.int (nI kk))), hs1, dc, ds) ∧ Cr D (.ref 39 :: as) hs1 none hs2 ∧ (∃ fs, hs1[39]? = some (.inr (4, fs))) ∧ hs1[0]? = some X ∧ LW X q' g' q' g' kk ov' hs2
section LC
variable {X : amC} {hs : amH} {q : Nat → Nat} {g : Nat → Nat → Nat} {l c s L i : Nat} {ov : Int64} {Q : amOut → Prop} {xs : Nat → Int32}
theorem out3 {H M D : Nat} {as hx : List Value} {f : Int32 → Int64} {Ks : Nat → Nat → Prop} (A : AgrP M D as Ks hs q g) (h1 : ∀ v q' g', ClO M (.ref 1 :: as) hs (.inl (some (.int v))) q' g' → ∃ hs', Ca H hx hs (.inl (some (.int (nI 0))), hs', 0, 0) ∧ LW X q' g' q g l (f v) hs') (h2 : ∀ E kk, Ks E kk → ClO M (.ref 1 :: as) hs (.inr E) q g → ∃ hs', Ca H hx hs (.inl (some (.int (nI kk))), hs', 1, 6) ∧ LW X q g q g l ov hs') : Out3 H D as hx f X hs := by
  rcases A with ⟨v, q', g', a1, a2⟩ | ⟨E, kk, w, e0, e4, eK, a1, a2⟩
  · obtain ⟨hs1, k1, W1⟩ := h1 v q' g' a1
    obtain ⟨hs2, k2, W2⟩ := W1.mod (a2 hs1 l W1.2.2.1)
    exact ⟨0, 0, 0, hs1, v, hs2, q', g', f v, by omega, by omega, by omega, k1, k2, ⟨_, W1.2.2.1.1⟩, W1.1, W2, fun _ => rfl⟩
  · obtain ⟨hs1, k1, W1⟩ := h2 E kk eK a1
    obtain ⟨hs2, k2, W2⟩ := W1.mod (a2 hs1 l W1.2.2.1)
    exact ⟨1, 6, kk, hs1, w, hs2, q, g, ov, by omega, by omega, e4, k1, k2, ⟨_, W1.2.2.1.1⟩, W1.1, W2, fun w9 => by omega⟩
theorem out3v {H M D : Nat} {as hx : List Value} {Ks : Nat → Nat → Prop} (A : AgrV M D as Ks hs q g) (h1 : ∀ q' g', ClO M (.ref 1 :: as) hs (.inl none) q' g' → ∃ hs', Ca H hx hs (.inl (some (.int (nI 0))), hs', 0, 0) ∧ LW X q' g' q g l ov hs') (h2 : ∀ E kk, Ks E kk → ClO M (.ref 1 :: as) hs (.inr E) q g → ∃ hs', Ca H hx hs (.inl (some (.int (nI kk))), hs', 1, 6) ∧ LW X q g q g l ov hs') : Out3V H D as hx X hs := by
  rcases A with ⟨q', g', a1, a2⟩ | ⟨E, kk, e0, e4, eK, a1, a2⟩
  · obtain ⟨hs1, k1, W1⟩ := h1 q' g' a1
    obtain ⟨hs2, k2, W2⟩ := W1.mod (a2 hs1 l W1.2.2.1)
    exact ⟨0, 0, 0, hs1, hs2, q', g', ov, by omega, by omega, by omega, k1, k2, ⟨_, W1.2.2.1.1⟩, W1.1, W2⟩
  · obtain ⟨hs1, k1, W1⟩ := h2 E kk eK a1
    obtain ⟨hs2, k2, W2⟩ := W1.mod (a2 hs1 l W1.2.2.1)
    exact ⟨1, 6, kk, hs1, hs2, q, g, ov, by omega, by omega, e4, k1, k2, ⟨_, W1.2.2.1.1⟩, W1.1, W2⟩
/-- the law's locals at a turn -/
abbrev lwL (i : Nat) (w5 w6 : Option Value) : amL := [some (.ref 0), some (.ref 1), some (.ref 39), some (.ref 47), some (.int (nI i)), w5, w6]
/-- how a turn goes on -/
def LwK (X : amC) (i c s : Nat) (Q : amOut → Prop) : Prop := ∀ hs' q' g' l' ov' c' s' w5 w6, LW X q' g' q' g' l' ov' hs' → c' ≤ c + 1 → s' ≤ s + 6 → EvQ 154 2112 (lwL i w5 w6) [] hs' c' s' Q
theorem g1 (W : LW X q g q g l ov hs) (hX : X = .inl (.int, L, .inl xs)) (hi : i + 3 < L) (hL : L ≤ 2048) (A : AgrP 38 95 [.int (xs (i + 1)), .int (xs (i + 2))] K12 hs q g) (w5 w6 : Option Value) (kk : LwK X i c s Q) : EvQ 154 197 (lwL i w5 w6) [] hs c s Q := by
  obtain ⟨dc, ds, k, hs1, w, hs2, q', g', ov', b1, b2, b3, k1, k2, ⟨fs, y1⟩, y0, W2, hf⟩ := out3 (X := X) (l := l) (ov := ov) (f := Int32.toInt64) A (fun _ _ _ a => h125 W a) (fun _ _ e a => h125x W e a)
  have y2 := W.1
  rw [hX] at y0 y2
  refine eq_ (fun _ k => ev_aload_n f154_197 rfl k) ?_
  refine eq_ (fun _ k => ev_aload_n f154_198 rfl k) ?_
  refine eq_ (fun _ k => ev_iload f154_199 rfl k) ?_
  refine eq_ (fun _ k => ev_iconstN (n := 1) f154_201 k) ?_
  first | refine eq_ (fun _ k => ev_iaddN f154_202 k) ?_ | refine eq_ (fun _ k => ev_iadd f154_202 k) ?_
  refine eq_ (fun _ k => ev_iald f154_203 (by assumption) (by omega) (by omega) k) ?_
  refine eq_ (fun _ k => ev_aload_n f154_204 rfl k) ?_
  refine eq_ (fun _ k => ev_iload f154_205 rfl k) ?_
  refine eq_ (fun _ k => ev_iconstN (n := 2) f154_207 k) ?_
  first | refine eq_ (fun _ k => ev_iaddN f154_208 k) ?_ | refine eq_ (fun _ k => ev_iadd f154_208 k) ?_
  refine eq_ (fun _ k => ev_iald f154_209 (by assumption) (by omega) (by omega) k) ?_
  refine eq_ (fun _ k => ev_aload_n f154_210 rfl k) ?_
  refine eq_ (fun _ k => ev_sc [.ref 1, .int (xs (i + 1)), .int (xs (i + 2)), .ref 47] f154_211 (Or.inl rfl) ow125 rfl rfl (catL rfl) (Nat.le_of_ble_eq_true rfl) k1 k) ?_
  refine eq_ (fun _ k => ev_istore f154_214 k) ?_
  refine eq_ (fun _ k => ev_aload_n f154_216 rfl k) ?_
  refine eq_ (fun _ k => ev_aload_n f154_217 rfl k) ?_
  refine eq_ (fun _ k => ev_iload f154_218 rfl k) ?_
  refine eq_ (fun _ k => ev_iconstN (n := 1) f154_220 k) ?_
  first | refine eq_ (fun _ k => ev_iaddN f154_221 k) ?_ | refine eq_ (fun _ k => ev_iadd f154_221 k) ?_
  refine eq_ (fun _ k => ev_iald f154_222 (by assumption) (by omega) (by omega) k) ?_
  refine eq_ (fun _ k => ev_aload_n f154_223 rfl k) ?_
  refine eq_ (fun _ k => ev_iload f154_224 rfl k) ?_
  refine eq_ (fun _ k => ev_iconstN (n := 2) f154_226 k) ?_
  first | refine eq_ (fun _ k => ev_iaddN f154_227 k) ?_ | refine eq_ (fun _ k => ev_iadd f154_227 k) ?_
  refine eq_ (fun _ k => ev_iald f154_228 (by assumption) (by omega) (by omega) k) ?_
  refine eq_ (fun _ k => ev_v2 f154_229 ow95 (by assumption) rfl rfl (Nat.le_of_ble_eq_true rfl) (k2) k) ?_
  refine eq_ (fun _ k => ev_istore f154_232 k) ?_
  clear y0 y1 y2 k1 k2
  have WW := W2
  obtain ⟨-, -, n2, F, n3, n4⟩ := WW
  have n1 := n2.1
  by_cases hk : k = 0
  · have hf2 : F 0 = Int32.toInt64 w := n4.trans (hf hk)
    refine eq_ (fun _ k => ev_aload_n f154_234 rfl k) ?_
    refine eq_ (fun _ k => ev_v0 f154_235 ow78 (by assumption) (Nat.le_of_ble_eq_true rfl) (c78 n2) k) ?_
    refine eq_ (fun _ k => ev_iload f154_238 rfl k) ?_
    refine eq_icN (by omega) (by omega) (tgt := 245) f154_240 rfl (fun _ => ?_) (fun h9 => absurd rfl h9)
    refine eq_ (fun _ k => ev_iload f154_245 rfl k) ?_
    refine eq_ifN (by omega) (tgt := 262) f154_247 rfl (fun h9 => absurd h9 (fun h => h hk)) (fun _ => ?_)
    refine eq_ (fun _ k => ev_aload_n f154_250 rfl k) ?_
    refine eq_ (fun _ k => ev_iconstN (n := 0) f154_251 k) ?_
    refine eq_ (fun _ k => ev_lald f154_252 (by assumption) (by omega) (by omega) k) ?_
    refine eq_ (fun _ k => ev_iload f154_253 rfl k) ?_
    refine eq_ (fun _ k => ev_i2l f154_255 k) ?_
    refine eq_ (fun _ k => ev_lcmp f154_256 k) ?_
    refine eq_if (tgt := 262) f154_257 rfl (fun _ => ?_) (fun hc => absurd ((lg_cmp_eq _ _).mpr hf2) hc)
    refine eq_ (fun _ k => ev_goto (tgt := 2112) f154_262 rfl k) ?_
    exact kk _ _ _ _ _ _ _ _ _ W2 (by omega) (by omega)
  · refine eq_ (fun _ k => ev_aload_n f154_234 rfl k) ?_
    refine eq_ (fun _ k => ev_v0 f154_235 ow78 (by assumption) (Nat.le_of_ble_eq_true rfl) (c78 n2) k) ?_
    refine eq_ (fun _ k => ev_iload f154_238 rfl k) ?_
    refine eq_icN (by omega) (by omega) (tgt := 245) f154_240 rfl (fun _ => ?_) (fun h9 => absurd rfl h9)
    refine eq_ (fun _ k => ev_iload f154_245 rfl k) ?_
    refine eq_ifN (by omega) (tgt := 262) f154_247 rfl (fun _ => ?_) (fun h9 => absurd hk h9)
    refine eq_ (fun _ k => ev_goto (tgt := 2112) f154_262 rfl k) ?_
    exact kk _ _ _ _ _ _ _ _ _ W2 (by omega) (by omega)
theorem g2 (W : LW X q g q g l ov hs) (hX : X = .inl (.int, L, .inl xs)) (hi : i + 3 < L) (hL : L ≤ 2048) (A : AgrP 39 96 [.int (xs (i + 1)), .int (xs (i + 2))] K1 hs q g) (w5 w6 : Option Value) (kk : LwK X i c s Q) : EvQ 154 265 (lwL i w5 w6) [] hs c s Q := by
  obtain ⟨dc, ds, k, hs1, w, hs2, q', g', ov', b1, b2, b3, k1, k2, ⟨fs, y1⟩, y0, W2, hf⟩ := out3 (X := X) (l := l) (ov := ov) (f := blN) A (fun _ _ _ a => h126 W a) (fun _ _ e a => h126x W e a)
  have y2 := W.1
  rw [hX] at y0 y2
  refine eq_ (fun _ k => ev_aload_n f154_265 rfl k) ?_
  refine eq_ (fun _ k => ev_aload_n f154_266 rfl k) ?_
  refine eq_ (fun _ k => ev_iload f154_267 rfl k) ?_
  refine eq_ (fun _ k => ev_iconstN (n := 1) f154_269 k) ?_
  first | refine eq_ (fun _ k => ev_iaddN f154_270 k) ?_ | refine eq_ (fun _ k => ev_iadd f154_270 k) ?_
  refine eq_ (fun _ k => ev_iald f154_271 (by assumption) (by omega) (by omega) k) ?_
  refine eq_ (fun _ k => ev_aload_n f154_272 rfl k) ?_
  refine eq_ (fun _ k => ev_iload f154_273 rfl k) ?_
  refine eq_ (fun _ k => ev_iconstN (n := 2) f154_275 k) ?_
  first | refine eq_ (fun _ k => ev_iaddN f154_276 k) ?_ | refine eq_ (fun _ k => ev_iadd f154_276 k) ?_
  refine eq_ (fun _ k => ev_iald f154_277 (by assumption) (by omega) (by omega) k) ?_
  refine eq_ (fun _ k => ev_aload_n f154_278 rfl k) ?_
  refine eq_ (fun _ k => ev_sc [.ref 1, .int (xs (i + 1)), .int (xs (i + 2)), .ref 47] f154_279 (Or.inl rfl) ow126 rfl rfl (catL rfl) (Nat.le_of_ble_eq_true rfl) k1 k) ?_
  refine eq_ (fun _ k => ev_istore f154_282 k) ?_
  refine eq_ (fun _ k => ev_aload_n f154_284 rfl k) ?_
  refine eq_ (fun _ k => ev_aload_n f154_285 rfl k) ?_
  refine eq_ (fun _ k => ev_iload f154_286 rfl k) ?_
  refine eq_ (fun _ k => ev_iconstN (n := 1) f154_288 k) ?_
  first | refine eq_ (fun _ k => ev_iaddN f154_289 k) ?_ | refine eq_ (fun _ k => ev_iadd f154_289 k) ?_
  refine eq_ (fun _ k => ev_iald f154_290 (by assumption) (by omega) (by omega) k) ?_
  refine eq_ (fun _ k => ev_aload_n f154_291 rfl k) ?_
  refine eq_ (fun _ k => ev_iload f154_292 rfl k) ?_
  refine eq_ (fun _ k => ev_iconstN (n := 2) f154_294 k) ?_
  first | refine eq_ (fun _ k => ev_iaddN f154_295 k) ?_ | refine eq_ (fun _ k => ev_iadd f154_295 k) ?_
  refine eq_ (fun _ k => ev_iald f154_296 (by assumption) (by omega) (by omega) k) ?_
  refine eq_ (fun _ k => ev_v2 f154_297 ow96 (by assumption) rfl rfl (Nat.le_of_ble_eq_true rfl) (k2) k) ?_
  refine eq_ (fun _ k => ev_istore f154_300 k) ?_
  clear y0 y1 y2 k1 k2
  have WW := W2
  obtain ⟨-, -, n2, F, n3, n4⟩ := WW
  have n1 := n2.1
  by_cases hk : k = 0
  · have hf2 : F 0 = blN w := n4.trans (hf hk)
    refine eq_ (fun _ k => ev_aload_n f154_302 rfl k) ?_
    refine eq_ (fun _ k => ev_v0 f154_303 ow78 (by assumption) (Nat.le_of_ble_eq_true rfl) (c78 n2) k) ?_
    refine eq_ (fun _ k => ev_iload f154_306 rfl k) ?_
    refine eq_icN (by omega) (by omega) (tgt := 313) f154_308 rfl (fun _ => ?_) (fun h9 => absurd rfl h9)
    refine eq_ (fun _ k => ev_iload f154_313 rfl k) ?_
    refine eq_ifN (by omega) (tgt := 337) f154_315 rfl (fun h9 => absurd h9 (fun h => h hk)) (fun _ => ?_)
    refine eq_ (fun _ k => ev_aload_n f154_318 rfl k) ?_
    refine eq_ (fun _ k => ev_iconstN (n := 0) f154_319 k) ?_
    refine eq_ (fun _ k => ev_lald f154_320 (by assumption) (by omega) (by omega) k) ?_
    refine eq_ (fun _ k => ev_iload f154_321 rfl k) ?_
    refine eq_if (tgt := 330) f154_323 rfl (fun hc => ?_) (fun hc => ?_)
    · have hc2 : w = 0 := hc
      have hf3 : F 0 = Int64.ofNat 0 := hf2.trans (if_pos hc2)
      refine eq_ (fun _ k => ev_lconst f154_330 k) ?_
      refine eq_ (fun _ k => ev_lcmp f154_331 k) ?_
      refine eq_if (tgt := 337) f154_332 rfl (fun _ => ?_) (fun hc => absurd ((lg_cmp_eq _ _).mpr hf3) hc)
      refine eq_ (fun _ k => ev_goto (tgt := 2112) f154_337 rfl k) ?_
      exact kk _ _ _ _ _ _ _ _ _ W2 (by omega) (by omega)
    · have hc2 : ¬ w = 0 := hc
      have hf3 : F 0 = Int64.ofNat 1 := hf2.trans (if_neg hc2)
      refine eq_ (fun _ k => ev_lconst f154_326 k) ?_
      refine eq_ (fun _ k => ev_goto (tgt := 331) f154_327 rfl k) ?_
      refine eq_ (fun _ k => ev_lcmp f154_331 k) ?_
      refine eq_if (tgt := 337) f154_332 rfl (fun _ => ?_) (fun hc => absurd ((lg_cmp_eq _ _).mpr hf3) hc)
      refine eq_ (fun _ k => ev_goto (tgt := 2112) f154_337 rfl k) ?_
      exact kk _ _ _ _ _ _ _ _ _ W2 (by omega) (by omega)
  · refine eq_ (fun _ k => ev_aload_n f154_302 rfl k) ?_
    refine eq_ (fun _ k => ev_v0 f154_303 ow78 (by assumption) (Nat.le_of_ble_eq_true rfl) (c78 n2) k) ?_
    refine eq_ (fun _ k => ev_iload f154_306 rfl k) ?_
    refine eq_icN (by omega) (by omega) (tgt := 313) f154_308 rfl (fun _ => ?_) (fun h9 => absurd rfl h9)
    refine eq_ (fun _ k => ev_iload f154_313 rfl k) ?_
    refine eq_ifN (by omega) (tgt := 337) f154_315 rfl (fun _ => ?_) (fun h9 => absurd hk h9)
    refine eq_ (fun _ k => ev_goto (tgt := 2112) f154_337 rfl k) ?_
    exact kk _ _ _ _ _ _ _ _ _ W2 (by omega) (by omega)
theorem g3 (W : LW X q g q g l ov hs) (hX : X = .inl (.int, L, .inl xs)) (hi : i + 3 < L) (hL : L ≤ 2048) (A : AgrP 40 97 [.int (xs (i + 1)), .int (xs (i + 2))] K1 hs q g) (w5 w6 : Option Value) (kk : LwK X i c s Q) : EvQ 154 340 (lwL i w5 w6) [] hs c s Q := by
  obtain ⟨dc, ds, k, hs1, w, hs2, q', g', ov', b1, b2, b3, k1, k2, ⟨fs, y1⟩, y0, W2, hf⟩ := out3 (X := X) (l := l) (ov := ov) (f := Int32.toInt64) A (fun _ _ _ a => h127 W a) (fun _ _ e a => h127x W e a)
  have y2 := W.1
  rw [hX] at y0 y2
  refine eq_ (fun _ k => ev_aload_n f154_340 rfl k) ?_
  refine eq_ (fun _ k => ev_aload_n f154_341 rfl k) ?_
  refine eq_ (fun _ k => ev_iload f154_342 rfl k) ?_
  refine eq_ (fun _ k => ev_iconstN (n := 1) f154_344 k) ?_
  first | refine eq_ (fun _ k => ev_iaddN f154_345 k) ?_ | refine eq_ (fun _ k => ev_iadd f154_345 k) ?_
  refine eq_ (fun _ k => ev_iald f154_346 (by assumption) (by omega) (by omega) k) ?_
  refine eq_ (fun _ k => ev_aload_n f154_347 rfl k) ?_
  refine eq_ (fun _ k => ev_iload f154_348 rfl k) ?_
  refine eq_ (fun _ k => ev_iconstN (n := 2) f154_350 k) ?_
  first | refine eq_ (fun _ k => ev_iaddN f154_351 k) ?_ | refine eq_ (fun _ k => ev_iadd f154_351 k) ?_
  refine eq_ (fun _ k => ev_iald f154_352 (by assumption) (by omega) (by omega) k) ?_
  refine eq_ (fun _ k => ev_aload_n f154_353 rfl k) ?_
  refine eq_ (fun _ k => ev_sc [.ref 1, .int (xs (i + 1)), .int (xs (i + 2)), .ref 47] f154_354 (Or.inl rfl) ow127 rfl rfl (catL rfl) (Nat.le_of_ble_eq_true rfl) k1 k) ?_
  refine eq_ (fun _ k => ev_istore f154_357 k) ?_
  refine eq_ (fun _ k => ev_aload_n f154_359 rfl k) ?_
  refine eq_ (fun _ k => ev_aload_n f154_360 rfl k) ?_
  refine eq_ (fun _ k => ev_iload f154_361 rfl k) ?_
  refine eq_ (fun _ k => ev_iconstN (n := 1) f154_363 k) ?_
  first | refine eq_ (fun _ k => ev_iaddN f154_364 k) ?_ | refine eq_ (fun _ k => ev_iadd f154_364 k) ?_
  refine eq_ (fun _ k => ev_iald f154_365 (by assumption) (by omega) (by omega) k) ?_
  refine eq_ (fun _ k => ev_aload_n f154_366 rfl k) ?_
  refine eq_ (fun _ k => ev_iload f154_367 rfl k) ?_
  refine eq_ (fun _ k => ev_iconstN (n := 2) f154_369 k) ?_
  first | refine eq_ (fun _ k => ev_iaddN f154_370 k) ?_ | refine eq_ (fun _ k => ev_iadd f154_370 k) ?_
  refine eq_ (fun _ k => ev_iald f154_371 (by assumption) (by omega) (by omega) k) ?_
  refine eq_ (fun _ k => ev_v2 f154_372 ow97 (by assumption) rfl rfl (Nat.le_of_ble_eq_true rfl) (k2) k) ?_
  refine eq_ (fun _ k => ev_istore f154_375 k) ?_
  clear y0 y1 y2 k1 k2
  have WW := W2
  obtain ⟨-, -, n2, F, n3, n4⟩ := WW
  have n1 := n2.1
  by_cases hk : k = 0
  · have hf2 : F 0 = Int32.toInt64 w := n4.trans (hf hk)
    refine eq_ (fun _ k => ev_aload_n f154_377 rfl k) ?_
    refine eq_ (fun _ k => ev_v0 f154_378 ow78 (by assumption) (Nat.le_of_ble_eq_true rfl) (c78 n2) k) ?_
    refine eq_ (fun _ k => ev_iload f154_381 rfl k) ?_
    refine eq_icN (by omega) (by omega) (tgt := 388) f154_383 rfl (fun _ => ?_) (fun h9 => absurd rfl h9)
    refine eq_ (fun _ k => ev_iload f154_388 rfl k) ?_
    refine eq_ifN (by omega) (tgt := 405) f154_390 rfl (fun h9 => absurd h9 (fun h => h hk)) (fun _ => ?_)
    refine eq_ (fun _ k => ev_aload_n f154_393 rfl k) ?_
    refine eq_ (fun _ k => ev_iconstN (n := 0) f154_394 k) ?_
    refine eq_ (fun _ k => ev_lald f154_395 (by assumption) (by omega) (by omega) k) ?_
    refine eq_ (fun _ k => ev_iload f154_396 rfl k) ?_
    refine eq_ (fun _ k => ev_i2l f154_398 k) ?_
    refine eq_ (fun _ k => ev_lcmp f154_399 k) ?_
    refine eq_if (tgt := 405) f154_400 rfl (fun _ => ?_) (fun hc => absurd ((lg_cmp_eq _ _).mpr hf2) hc)
    refine eq_ (fun _ k => ev_goto (tgt := 2112) f154_405 rfl k) ?_
    exact kk _ _ _ _ _ _ _ _ _ W2 (by omega) (by omega)
  · refine eq_ (fun _ k => ev_aload_n f154_377 rfl k) ?_
    refine eq_ (fun _ k => ev_v0 f154_378 ow78 (by assumption) (Nat.le_of_ble_eq_true rfl) (c78 n2) k) ?_
    refine eq_ (fun _ k => ev_iload f154_381 rfl k) ?_
    refine eq_icN (by omega) (by omega) (tgt := 388) f154_383 rfl (fun _ => ?_) (fun h9 => absurd rfl h9)
    refine eq_ (fun _ k => ev_iload f154_388 rfl k) ?_
    refine eq_ifN (by omega) (tgt := 405) f154_390 rfl (fun _ => ?_) (fun h9 => absurd hk h9)
    refine eq_ (fun _ k => ev_goto (tgt := 2112) f154_405 rfl k) ?_
    exact kk _ _ _ _ _ _ _ _ _ W2 (by omega) (by omega)
theorem g4 (W : LW X q g q g l ov hs) (hX : X = .inl (.int, L, .inl xs)) (hi : i + 3 < L) (hL : L ≤ 2048) (A : AgrP 41 98 [.int (xs (i + 1)), .int (xs (i + 2)), .int (xs (i + 3))] K132 hs q g) (w5 w6 : Option Value) (kk : LwK X i c s Q) : EvQ 154 408 (lwL i w5 w6) [] hs c s Q := by
  obtain ⟨dc, ds, k, hs1, w, hs2, q', g', ov', b1, b2, b3, k1, k2, ⟨fs, y1⟩, y0, W2, hf⟩ := out3 (X := X) (l := l) (ov := ov) (f := Int32.toInt64) A (fun _ _ _ a => h128 W a) (fun _ _ e a => h128x W e a)
  have y2 := W.1
  rw [hX] at y0 y2
  refine eq_ (fun _ k => ev_aload_n f154_408 rfl k) ?_
  refine eq_ (fun _ k => ev_aload_n f154_409 rfl k) ?_
  refine eq_ (fun _ k => ev_iload f154_410 rfl k) ?_
  refine eq_ (fun _ k => ev_iconstN (n := 1) f154_412 k) ?_
  first | refine eq_ (fun _ k => ev_iaddN f154_413 k) ?_ | refine eq_ (fun _ k => ev_iadd f154_413 k) ?_
  refine eq_ (fun _ k => ev_iald f154_414 (by assumption) (by omega) (by omega) k) ?_
  refine eq_ (fun _ k => ev_aload_n f154_415 rfl k) ?_
  refine eq_ (fun _ k => ev_iload f154_416 rfl k) ?_
  refine eq_ (fun _ k => ev_iconstN (n := 2) f154_418 k) ?_
  first | refine eq_ (fun _ k => ev_iaddN f154_419 k) ?_ | refine eq_ (fun _ k => ev_iadd f154_419 k) ?_
  refine eq_ (fun _ k => ev_iald f154_420 (by assumption) (by omega) (by omega) k) ?_
  refine eq_ (fun _ k => ev_aload_n f154_421 rfl k) ?_
  refine eq_ (fun _ k => ev_iload f154_422 rfl k) ?_
  refine eq_ (fun _ k => ev_iconstN (n := 3) f154_424 k) ?_
  first | refine eq_ (fun _ k => ev_iaddN f154_425 k) ?_ | refine eq_ (fun _ k => ev_iadd f154_425 k) ?_
  refine eq_ (fun _ k => ev_iald f154_426 (by assumption) (by omega) (by omega) k) ?_
  refine eq_ (fun _ k => ev_aload_n f154_427 rfl k) ?_
  refine eq_ (fun _ k => ev_sc [.ref 1, .int (xs (i + 1)), .int (xs (i + 2)), .int (xs (i + 3)), .ref 47] f154_428 (Or.inl rfl) ow128 rfl rfl (catL rfl) (Nat.le_of_ble_eq_true rfl) k1 k) ?_
  refine eq_ (fun _ k => ev_istore f154_431 k) ?_
  refine eq_ (fun _ k => ev_aload_n f154_433 rfl k) ?_
  refine eq_ (fun _ k => ev_aload_n f154_434 rfl k) ?_
  refine eq_ (fun _ k => ev_iload f154_435 rfl k) ?_
  refine eq_ (fun _ k => ev_iconstN (n := 1) f154_437 k) ?_
  first | refine eq_ (fun _ k => ev_iaddN f154_438 k) ?_ | refine eq_ (fun _ k => ev_iadd f154_438 k) ?_
  refine eq_ (fun _ k => ev_iald f154_439 (by assumption) (by omega) (by omega) k) ?_
  refine eq_ (fun _ k => ev_aload_n f154_440 rfl k) ?_
  refine eq_ (fun _ k => ev_iload f154_441 rfl k) ?_
  refine eq_ (fun _ k => ev_iconstN (n := 2) f154_443 k) ?_
  first | refine eq_ (fun _ k => ev_iaddN f154_444 k) ?_ | refine eq_ (fun _ k => ev_iadd f154_444 k) ?_
  refine eq_ (fun _ k => ev_iald f154_445 (by assumption) (by omega) (by omega) k) ?_
  refine eq_ (fun _ k => ev_aload_n f154_446 rfl k) ?_
  refine eq_ (fun _ k => ev_iload f154_447 rfl k) ?_
  refine eq_ (fun _ k => ev_iconstN (n := 3) f154_449 k) ?_
  first | refine eq_ (fun _ k => ev_iaddN f154_450 k) ?_ | refine eq_ (fun _ k => ev_iadd f154_450 k) ?_
  refine eq_ (fun _ k => ev_iald f154_451 (by assumption) (by omega) (by omega) k) ?_
  refine eq_ (fun _ k => ev_v3 f154_452 ow98 (by assumption) rfl rfl rfl (Nat.le_of_ble_eq_true rfl) (k2) k) ?_
  refine eq_ (fun _ k => ev_istore f154_455 k) ?_
  clear y0 y1 y2 k1 k2
  have WW := W2
  obtain ⟨-, -, n2, F, n3, n4⟩ := WW
  have n1 := n2.1
  by_cases hk : k = 0
  · have hf2 : F 0 = Int32.toInt64 w := n4.trans (hf hk)
    refine eq_ (fun _ k => ev_aload_n f154_457 rfl k) ?_
    refine eq_ (fun _ k => ev_v0 f154_458 ow78 (by assumption) (Nat.le_of_ble_eq_true rfl) (c78 n2) k) ?_
    refine eq_ (fun _ k => ev_iload f154_461 rfl k) ?_
    refine eq_icN (by omega) (by omega) (tgt := 468) f154_463 rfl (fun _ => ?_) (fun h9 => absurd rfl h9)
    refine eq_ (fun _ k => ev_iload f154_468 rfl k) ?_
    refine eq_ifN (by omega) (tgt := 485) f154_470 rfl (fun h9 => absurd h9 (fun h => h hk)) (fun _ => ?_)
    refine eq_ (fun _ k => ev_aload_n f154_473 rfl k) ?_
    refine eq_ (fun _ k => ev_iconstN (n := 0) f154_474 k) ?_
    refine eq_ (fun _ k => ev_lald f154_475 (by assumption) (by omega) (by omega) k) ?_
    refine eq_ (fun _ k => ev_iload f154_476 rfl k) ?_
    refine eq_ (fun _ k => ev_i2l f154_478 k) ?_
    refine eq_ (fun _ k => ev_lcmp f154_479 k) ?_
    refine eq_if (tgt := 485) f154_480 rfl (fun _ => ?_) (fun hc => absurd ((lg_cmp_eq _ _).mpr hf2) hc)
    refine eq_ (fun _ k => ev_goto (tgt := 2112) f154_485 rfl k) ?_
    exact kk _ _ _ _ _ _ _ _ _ W2 (by omega) (by omega)
  · refine eq_ (fun _ k => ev_aload_n f154_457 rfl k) ?_
    refine eq_ (fun _ k => ev_v0 f154_458 ow78 (by assumption) (Nat.le_of_ble_eq_true rfl) (c78 n2) k) ?_
    refine eq_ (fun _ k => ev_iload f154_461 rfl k) ?_
    refine eq_icN (by omega) (by omega) (tgt := 468) f154_463 rfl (fun _ => ?_) (fun h9 => absurd rfl h9)
    refine eq_ (fun _ k => ev_iload f154_468 rfl k) ?_
    refine eq_ifN (by omega) (tgt := 485) f154_470 rfl (fun _ => ?_) (fun h9 => absurd hk h9)
    refine eq_ (fun _ k => ev_goto (tgt := 2112) f154_485 rfl k) ?_
    exact kk _ _ _ _ _ _ _ _ _ W2 (by omega) (by omega)
theorem g5 (W : LW X q g q g l ov hs) (hX : X = .inl (.int, L, .inl xs)) (hi : i + 3 < L) (hL : L ≤ 2048) (A : AgrP 42 99 [.int (xs (i + 1)), .int (xs (i + 2)), .int (xs (i + 3))] K13 hs q g) (w5 w6 : Option Value) (kk : LwK X i c s Q) : EvQ 154 488 (lwL i w5 w6) [] hs c s Q := by
  obtain ⟨dc, ds, k, hs1, w, hs2, q', g', ov', b1, b2, b3, k1, k2, ⟨fs, y1⟩, y0, W2, hf⟩ := out3 (X := X) (l := l) (ov := ov) (f := Int32.toInt64) A (fun _ _ _ a => h129 W a) (fun _ _ e a => h129x W e a)
  have y2 := W.1
  rw [hX] at y0 y2
  refine eq_ (fun _ k => ev_aload_n f154_488 rfl k) ?_
  refine eq_ (fun _ k => ev_aload_n f154_489 rfl k) ?_
  refine eq_ (fun _ k => ev_iload f154_490 rfl k) ?_
  refine eq_ (fun _ k => ev_iconstN (n := 1) f154_492 k) ?_
  first | refine eq_ (fun _ k => ev_iaddN f154_493 k) ?_ | refine eq_ (fun _ k => ev_iadd f154_493 k) ?_
  refine eq_ (fun _ k => ev_iald f154_494 (by assumption) (by omega) (by omega) k) ?_
  refine eq_ (fun _ k => ev_aload_n f154_495 rfl k) ?_
  refine eq_ (fun _ k => ev_iload f154_496 rfl k) ?_
  refine eq_ (fun _ k => ev_iconstN (n := 2) f154_498 k) ?_
  first | refine eq_ (fun _ k => ev_iaddN f154_499 k) ?_ | refine eq_ (fun _ k => ev_iadd f154_499 k) ?_
  refine eq_ (fun _ k => ev_iald f154_500 (by assumption) (by omega) (by omega) k) ?_
  refine eq_ (fun _ k => ev_aload_n f154_501 rfl k) ?_
  refine eq_ (fun _ k => ev_iload f154_502 rfl k) ?_
  refine eq_ (fun _ k => ev_iconstN (n := 3) f154_504 k) ?_
  first | refine eq_ (fun _ k => ev_iaddN f154_505 k) ?_ | refine eq_ (fun _ k => ev_iadd f154_505 k) ?_
  refine eq_ (fun _ k => ev_iald f154_506 (by assumption) (by omega) (by omega) k) ?_
  refine eq_ (fun _ k => ev_aload_n f154_507 rfl k) ?_
  refine eq_ (fun _ k => ev_sc [.ref 1, .int (xs (i + 1)), .int (xs (i + 2)), .int (xs (i + 3)), .ref 47] f154_508 (Or.inl rfl) ow129 rfl rfl (catL rfl) (Nat.le_of_ble_eq_true rfl) k1 k) ?_
  refine eq_ (fun _ k => ev_istore f154_511 k) ?_
  refine eq_ (fun _ k => ev_aload_n f154_513 rfl k) ?_
  refine eq_ (fun _ k => ev_aload_n f154_514 rfl k) ?_
  refine eq_ (fun _ k => ev_iload f154_515 rfl k) ?_
  refine eq_ (fun _ k => ev_iconstN (n := 1) f154_517 k) ?_
  first | refine eq_ (fun _ k => ev_iaddN f154_518 k) ?_ | refine eq_ (fun _ k => ev_iadd f154_518 k) ?_
  refine eq_ (fun _ k => ev_iald f154_519 (by assumption) (by omega) (by omega) k) ?_
  refine eq_ (fun _ k => ev_aload_n f154_520 rfl k) ?_
  refine eq_ (fun _ k => ev_iload f154_521 rfl k) ?_
  refine eq_ (fun _ k => ev_iconstN (n := 2) f154_523 k) ?_
  first | refine eq_ (fun _ k => ev_iaddN f154_524 k) ?_ | refine eq_ (fun _ k => ev_iadd f154_524 k) ?_
  refine eq_ (fun _ k => ev_iald f154_525 (by assumption) (by omega) (by omega) k) ?_
  refine eq_ (fun _ k => ev_aload_n f154_526 rfl k) ?_
  refine eq_ (fun _ k => ev_iload f154_527 rfl k) ?_
  refine eq_ (fun _ k => ev_iconstN (n := 3) f154_529 k) ?_
  first | refine eq_ (fun _ k => ev_iaddN f154_530 k) ?_ | refine eq_ (fun _ k => ev_iadd f154_530 k) ?_
  refine eq_ (fun _ k => ev_iald f154_531 (by assumption) (by omega) (by omega) k) ?_
  refine eq_ (fun _ k => ev_v3 f154_532 ow99 (by assumption) rfl rfl rfl (Nat.le_of_ble_eq_true rfl) (k2) k) ?_
  refine eq_ (fun _ k => ev_istore f154_535 k) ?_
  clear y0 y1 y2 k1 k2
  have WW := W2
  obtain ⟨-, -, n2, F, n3, n4⟩ := WW
  have n1 := n2.1
  by_cases hk : k = 0
  · have hf2 : F 0 = Int32.toInt64 w := n4.trans (hf hk)
    refine eq_ (fun _ k => ev_aload_n f154_537 rfl k) ?_
    refine eq_ (fun _ k => ev_v0 f154_538 ow78 (by assumption) (Nat.le_of_ble_eq_true rfl) (c78 n2) k) ?_
    refine eq_ (fun _ k => ev_iload f154_541 rfl k) ?_
    refine eq_icN (by omega) (by omega) (tgt := 548) f154_543 rfl (fun _ => ?_) (fun h9 => absurd rfl h9)
    refine eq_ (fun _ k => ev_iload f154_548 rfl k) ?_
    refine eq_ifN (by omega) (tgt := 565) f154_550 rfl (fun h9 => absurd h9 (fun h => h hk)) (fun _ => ?_)
    refine eq_ (fun _ k => ev_aload_n f154_553 rfl k) ?_
    refine eq_ (fun _ k => ev_iconstN (n := 0) f154_554 k) ?_
    refine eq_ (fun _ k => ev_lald f154_555 (by assumption) (by omega) (by omega) k) ?_
    refine eq_ (fun _ k => ev_iload f154_556 rfl k) ?_
    refine eq_ (fun _ k => ev_i2l f154_558 k) ?_
    refine eq_ (fun _ k => ev_lcmp f154_559 k) ?_
    refine eq_if (tgt := 565) f154_560 rfl (fun _ => ?_) (fun hc => absurd ((lg_cmp_eq _ _).mpr hf2) hc)
    refine eq_ (fun _ k => ev_goto (tgt := 2112) f154_565 rfl k) ?_
    exact kk _ _ _ _ _ _ _ _ _ W2 (by omega) (by omega)
  · refine eq_ (fun _ k => ev_aload_n f154_537 rfl k) ?_
    refine eq_ (fun _ k => ev_v0 f154_538 ow78 (by assumption) (Nat.le_of_ble_eq_true rfl) (c78 n2) k) ?_
    refine eq_ (fun _ k => ev_iload f154_541 rfl k) ?_
    refine eq_icN (by omega) (by omega) (tgt := 548) f154_543 rfl (fun _ => ?_) (fun h9 => absurd rfl h9)
    refine eq_ (fun _ k => ev_iload f154_548 rfl k) ?_
    refine eq_ifN (by omega) (tgt := 565) f154_550 rfl (fun _ => ?_) (fun h9 => absurd hk h9)
    refine eq_ (fun _ k => ev_goto (tgt := 2112) f154_565 rfl k) ?_
    exact kk _ _ _ _ _ _ _ _ _ W2 (by omega) (by omega)
theorem g6 (W : LW X q g q g l ov hs) (hX : X = .inl (.int, L, .inl xs)) (hi : i + 3 < L) (hL : L ≤ 2048) (A : AgrP 43 100 [.int (xs (i + 1)), .int (xs (i + 2))] K13 hs q g) (w5 w6 : Option Value) (kk : LwK X i c s Q) : EvQ 154 568 (lwL i w5 w6) [] hs c s Q := by
  obtain ⟨dc, ds, k, hs1, w, hs2, q', g', ov', b1, b2, b3, k1, k2, ⟨fs, y1⟩, y0, W2, hf⟩ := out3 (X := X) (l := l) (ov := ov) (f := Int32.toInt64) A (fun _ _ _ a => h130 W a) (fun _ _ e a => h130x W e a)
  have y2 := W.1
  rw [hX] at y0 y2
  refine eq_ (fun _ k => ev_aload_n f154_568 rfl k) ?_
  refine eq_ (fun _ k => ev_aload_n f154_569 rfl k) ?_
  refine eq_ (fun _ k => ev_iload f154_570 rfl k) ?_
  refine eq_ (fun _ k => ev_iconstN (n := 1) f154_572 k) ?_
  first | refine eq_ (fun _ k => ev_iaddN f154_573 k) ?_ | refine eq_ (fun _ k => ev_iadd f154_573 k) ?_
  refine eq_ (fun _ k => ev_iald f154_574 (by assumption) (by omega) (by omega) k) ?_
  refine eq_ (fun _ k => ev_aload_n f154_575 rfl k) ?_
  refine eq_ (fun _ k => ev_iload f154_576 rfl k) ?_
  refine eq_ (fun _ k => ev_iconstN (n := 2) f154_578 k) ?_
  first | refine eq_ (fun _ k => ev_iaddN f154_579 k) ?_ | refine eq_ (fun _ k => ev_iadd f154_579 k) ?_
  refine eq_ (fun _ k => ev_iald f154_580 (by assumption) (by omega) (by omega) k) ?_
  refine eq_ (fun _ k => ev_aload_n f154_581 rfl k) ?_
  refine eq_ (fun _ k => ev_sc [.ref 1, .int (xs (i + 1)), .int (xs (i + 2)), .ref 47] f154_582 (Or.inl rfl) ow130 rfl rfl (catL rfl) (Nat.le_of_ble_eq_true rfl) k1 k) ?_
  refine eq_ (fun _ k => ev_istore f154_585 k) ?_
  refine eq_ (fun _ k => ev_aload_n f154_587 rfl k) ?_
  refine eq_ (fun _ k => ev_aload_n f154_588 rfl k) ?_
  refine eq_ (fun _ k => ev_iload f154_589 rfl k) ?_
  refine eq_ (fun _ k => ev_iconstN (n := 1) f154_591 k) ?_
  first | refine eq_ (fun _ k => ev_iaddN f154_592 k) ?_ | refine eq_ (fun _ k => ev_iadd f154_592 k) ?_
  refine eq_ (fun _ k => ev_iald f154_593 (by assumption) (by omega) (by omega) k) ?_
  refine eq_ (fun _ k => ev_aload_n f154_594 rfl k) ?_
  refine eq_ (fun _ k => ev_iload f154_595 rfl k) ?_
  refine eq_ (fun _ k => ev_iconstN (n := 2) f154_597 k) ?_
  first | refine eq_ (fun _ k => ev_iaddN f154_598 k) ?_ | refine eq_ (fun _ k => ev_iadd f154_598 k) ?_
  refine eq_ (fun _ k => ev_iald f154_599 (by assumption) (by omega) (by omega) k) ?_
  refine eq_ (fun _ k => ev_v2 f154_600 ow100 (by assumption) rfl rfl (Nat.le_of_ble_eq_true rfl) (k2) k) ?_
  refine eq_ (fun _ k => ev_istore f154_603 k) ?_
  clear y0 y1 y2 k1 k2
  have WW := W2
  obtain ⟨-, -, n2, F, n3, n4⟩ := WW
  have n1 := n2.1
  by_cases hk : k = 0
  · have hf2 : F 0 = Int32.toInt64 w := n4.trans (hf hk)
    refine eq_ (fun _ k => ev_aload_n f154_605 rfl k) ?_
    refine eq_ (fun _ k => ev_v0 f154_606 ow78 (by assumption) (Nat.le_of_ble_eq_true rfl) (c78 n2) k) ?_
    refine eq_ (fun _ k => ev_iload f154_609 rfl k) ?_
    refine eq_icN (by omega) (by omega) (tgt := 616) f154_611 rfl (fun _ => ?_) (fun h9 => absurd rfl h9)
    refine eq_ (fun _ k => ev_iload f154_616 rfl k) ?_
    refine eq_ifN (by omega) (tgt := 633) f154_618 rfl (fun h9 => absurd h9 (fun h => h hk)) (fun _ => ?_)
    refine eq_ (fun _ k => ev_aload_n f154_621 rfl k) ?_
    refine eq_ (fun _ k => ev_iconstN (n := 0) f154_622 k) ?_
    refine eq_ (fun _ k => ev_lald f154_623 (by assumption) (by omega) (by omega) k) ?_
    refine eq_ (fun _ k => ev_iload f154_624 rfl k) ?_
    refine eq_ (fun _ k => ev_i2l f154_626 k) ?_
    refine eq_ (fun _ k => ev_lcmp f154_627 k) ?_
    refine eq_if (tgt := 633) f154_628 rfl (fun _ => ?_) (fun hc => absurd ((lg_cmp_eq _ _).mpr hf2) hc)
    refine eq_ (fun _ k => ev_goto (tgt := 2112) f154_633 rfl k) ?_
    exact kk _ _ _ _ _ _ _ _ _ W2 (by omega) (by omega)
  · refine eq_ (fun _ k => ev_aload_n f154_605 rfl k) ?_
    refine eq_ (fun _ k => ev_v0 f154_606 ow78 (by assumption) (Nat.le_of_ble_eq_true rfl) (c78 n2) k) ?_
    refine eq_ (fun _ k => ev_iload f154_609 rfl k) ?_
    refine eq_icN (by omega) (by omega) (tgt := 616) f154_611 rfl (fun _ => ?_) (fun h9 => absurd rfl h9)
    refine eq_ (fun _ k => ev_iload f154_616 rfl k) ?_
    refine eq_ifN (by omega) (tgt := 633) f154_618 rfl (fun _ => ?_) (fun h9 => absurd hk h9)
    refine eq_ (fun _ k => ev_goto (tgt := 2112) f154_633 rfl k) ?_
    exact kk _ _ _ _ _ _ _ _ _ W2 (by omega) (by omega)
theorem g7 (W : LW X q g q g l ov hs) (hX : X = .inl (.int, L, .inl xs)) (hi : i + 3 < L) (hL : L ≤ 2048) (A : AgrP 44 101 [.int (xs (i + 1)), .int (xs (i + 2))] K13 hs q g) (w5 w6 : Option Value) (kk : LwK X i c s Q) : EvQ 154 636 (lwL i w5 w6) [] hs c s Q := by
  obtain ⟨dc, ds, k, hs1, w, hs2, q', g', ov', b1, b2, b3, k1, k2, ⟨fs, y1⟩, y0, W2, hf⟩ := out3 (X := X) (l := l) (ov := ov) (f := Int32.toInt64) A (fun _ _ _ a => h131 W a) (fun _ _ e a => h131x W e a)
  have y2 := W.1
  rw [hX] at y0 y2
  refine eq_ (fun _ k => ev_aload_n f154_636 rfl k) ?_
  refine eq_ (fun _ k => ev_aload_n f154_637 rfl k) ?_
  refine eq_ (fun _ k => ev_iload f154_638 rfl k) ?_
  refine eq_ (fun _ k => ev_iconstN (n := 1) f154_640 k) ?_
  first | refine eq_ (fun _ k => ev_iaddN f154_641 k) ?_ | refine eq_ (fun _ k => ev_iadd f154_641 k) ?_
  refine eq_ (fun _ k => ev_iald f154_642 (by assumption) (by omega) (by omega) k) ?_
  refine eq_ (fun _ k => ev_aload_n f154_643 rfl k) ?_
  refine eq_ (fun _ k => ev_iload f154_644 rfl k) ?_
  refine eq_ (fun _ k => ev_iconstN (n := 2) f154_646 k) ?_
  first | refine eq_ (fun _ k => ev_iaddN f154_647 k) ?_ | refine eq_ (fun _ k => ev_iadd f154_647 k) ?_
  refine eq_ (fun _ k => ev_iald f154_648 (by assumption) (by omega) (by omega) k) ?_
  refine eq_ (fun _ k => ev_aload_n f154_649 rfl k) ?_
  refine eq_ (fun _ k => ev_sc [.ref 1, .int (xs (i + 1)), .int (xs (i + 2)), .ref 47] f154_650 (Or.inl rfl) ow131 rfl rfl (catL rfl) (Nat.le_of_ble_eq_true rfl) k1 k) ?_
  refine eq_ (fun _ k => ev_istore f154_653 k) ?_
  refine eq_ (fun _ k => ev_aload_n f154_655 rfl k) ?_
  refine eq_ (fun _ k => ev_aload_n f154_656 rfl k) ?_
  refine eq_ (fun _ k => ev_iload f154_657 rfl k) ?_
  refine eq_ (fun _ k => ev_iconstN (n := 1) f154_659 k) ?_
  first | refine eq_ (fun _ k => ev_iaddN f154_660 k) ?_ | refine eq_ (fun _ k => ev_iadd f154_660 k) ?_
  refine eq_ (fun _ k => ev_iald f154_661 (by assumption) (by omega) (by omega) k) ?_
  refine eq_ (fun _ k => ev_aload_n f154_662 rfl k) ?_
  refine eq_ (fun _ k => ev_iload f154_663 rfl k) ?_
  refine eq_ (fun _ k => ev_iconstN (n := 2) f154_665 k) ?_
  first | refine eq_ (fun _ k => ev_iaddN f154_666 k) ?_ | refine eq_ (fun _ k => ev_iadd f154_666 k) ?_
  refine eq_ (fun _ k => ev_iald f154_667 (by assumption) (by omega) (by omega) k) ?_
  refine eq_ (fun _ k => ev_v2 f154_668 ow101 (by assumption) rfl rfl (Nat.le_of_ble_eq_true rfl) (k2) k) ?_
  refine eq_ (fun _ k => ev_istore f154_671 k) ?_
  clear y0 y1 y2 k1 k2
  have WW := W2
  obtain ⟨-, -, n2, F, n3, n4⟩ := WW
  have n1 := n2.1
  by_cases hk : k = 0
  · have hf2 : F 0 = Int32.toInt64 w := n4.trans (hf hk)
    refine eq_ (fun _ k => ev_aload_n f154_673 rfl k) ?_
    refine eq_ (fun _ k => ev_v0 f154_674 ow78 (by assumption) (Nat.le_of_ble_eq_true rfl) (c78 n2) k) ?_
    refine eq_ (fun _ k => ev_iload f154_677 rfl k) ?_
    refine eq_icN (by omega) (by omega) (tgt := 684) f154_679 rfl (fun _ => ?_) (fun h9 => absurd rfl h9)
    refine eq_ (fun _ k => ev_iload f154_684 rfl k) ?_
    refine eq_ifN (by omega) (tgt := 701) f154_686 rfl (fun h9 => absurd h9 (fun h => h hk)) (fun _ => ?_)
    refine eq_ (fun _ k => ev_aload_n f154_689 rfl k) ?_
    refine eq_ (fun _ k => ev_iconstN (n := 0) f154_690 k) ?_
    refine eq_ (fun _ k => ev_lald f154_691 (by assumption) (by omega) (by omega) k) ?_
    refine eq_ (fun _ k => ev_iload f154_692 rfl k) ?_
    refine eq_ (fun _ k => ev_i2l f154_694 k) ?_
    refine eq_ (fun _ k => ev_lcmp f154_695 k) ?_
    refine eq_if (tgt := 701) f154_696 rfl (fun _ => ?_) (fun hc => absurd ((lg_cmp_eq _ _).mpr hf2) hc)
    refine eq_ (fun _ k => ev_goto (tgt := 2112) f154_701 rfl k) ?_
    exact kk _ _ _ _ _ _ _ _ _ W2 (by omega) (by omega)
  · refine eq_ (fun _ k => ev_aload_n f154_673 rfl k) ?_
    refine eq_ (fun _ k => ev_v0 f154_674 ow78 (by assumption) (Nat.le_of_ble_eq_true rfl) (c78 n2) k) ?_
    refine eq_ (fun _ k => ev_iload f154_677 rfl k) ?_
    refine eq_icN (by omega) (by omega) (tgt := 684) f154_679 rfl (fun _ => ?_) (fun h9 => absurd rfl h9)
    refine eq_ (fun _ k => ev_iload f154_684 rfl k) ?_
    refine eq_ifN (by omega) (tgt := 701) f154_686 rfl (fun _ => ?_) (fun h9 => absurd hk h9)
    refine eq_ (fun _ k => ev_goto (tgt := 2112) f154_701 rfl k) ?_
    exact kk _ _ _ _ _ _ _ _ _ W2 (by omega) (by omega)
theorem g8 (W : LW X q g q g l ov hs) (hX : X = .inl (.int, L, .inl xs)) (hi : i + 3 < L) (hL : L ≤ 2048) (A : AgrP 45 102 [.int (xs (i + 1)), .int (xs (i + 2))] K13 hs q g) (w5 w6 : Option Value) (kk : LwK X i c s Q) : EvQ 154 704 (lwL i w5 w6) [] hs c s Q := by
  obtain ⟨dc, ds, k, hs1, w, hs2, q', g', ov', b1, b2, b3, k1, k2, ⟨fs, y1⟩, y0, W2, hf⟩ := out3 (X := X) (l := l) (ov := ov) (f := Int32.toInt64) A (fun _ _ _ a => h132 W a) (fun _ _ e a => h132x W e a)
  have y2 := W.1
  rw [hX] at y0 y2
  refine eq_ (fun _ k => ev_aload_n f154_704 rfl k) ?_
  refine eq_ (fun _ k => ev_aload_n f154_705 rfl k) ?_
  refine eq_ (fun _ k => ev_iload f154_706 rfl k) ?_
  refine eq_ (fun _ k => ev_iconstN (n := 1) f154_708 k) ?_
  first | refine eq_ (fun _ k => ev_iaddN f154_709 k) ?_ | refine eq_ (fun _ k => ev_iadd f154_709 k) ?_
  refine eq_ (fun _ k => ev_iald f154_710 (by assumption) (by omega) (by omega) k) ?_
  refine eq_ (fun _ k => ev_aload_n f154_711 rfl k) ?_
  refine eq_ (fun _ k => ev_iload f154_712 rfl k) ?_
  refine eq_ (fun _ k => ev_iconstN (n := 2) f154_714 k) ?_
  first | refine eq_ (fun _ k => ev_iaddN f154_715 k) ?_ | refine eq_ (fun _ k => ev_iadd f154_715 k) ?_
  refine eq_ (fun _ k => ev_iald f154_716 (by assumption) (by omega) (by omega) k) ?_
  refine eq_ (fun _ k => ev_aload_n f154_717 rfl k) ?_
  refine eq_ (fun _ k => ev_sc [.ref 1, .int (xs (i + 1)), .int (xs (i + 2)), .ref 47] f154_718 (Or.inl rfl) ow132 rfl rfl (catL rfl) (Nat.le_of_ble_eq_true rfl) k1 k) ?_
  refine eq_ (fun _ k => ev_istore f154_721 k) ?_
  refine eq_ (fun _ k => ev_aload_n f154_723 rfl k) ?_
  refine eq_ (fun _ k => ev_aload_n f154_724 rfl k) ?_
  refine eq_ (fun _ k => ev_iload f154_725 rfl k) ?_
  refine eq_ (fun _ k => ev_iconstN (n := 1) f154_727 k) ?_
  first | refine eq_ (fun _ k => ev_iaddN f154_728 k) ?_ | refine eq_ (fun _ k => ev_iadd f154_728 k) ?_
  refine eq_ (fun _ k => ev_iald f154_729 (by assumption) (by omega) (by omega) k) ?_
  refine eq_ (fun _ k => ev_aload_n f154_730 rfl k) ?_
  refine eq_ (fun _ k => ev_iload f154_731 rfl k) ?_
  refine eq_ (fun _ k => ev_iconstN (n := 2) f154_733 k) ?_
  first | refine eq_ (fun _ k => ev_iaddN f154_734 k) ?_ | refine eq_ (fun _ k => ev_iadd f154_734 k) ?_
  refine eq_ (fun _ k => ev_iald f154_735 (by assumption) (by omega) (by omega) k) ?_
  refine eq_ (fun _ k => ev_v2 f154_736 ow102 (by assumption) rfl rfl (Nat.le_of_ble_eq_true rfl) (k2) k) ?_
  refine eq_ (fun _ k => ev_istore f154_739 k) ?_
  clear y0 y1 y2 k1 k2
  have WW := W2
  obtain ⟨-, -, n2, F, n3, n4⟩ := WW
  have n1 := n2.1
  by_cases hk : k = 0
  · have hf2 : F 0 = Int32.toInt64 w := n4.trans (hf hk)
    refine eq_ (fun _ k => ev_aload_n f154_741 rfl k) ?_
    refine eq_ (fun _ k => ev_v0 f154_742 ow78 (by assumption) (Nat.le_of_ble_eq_true rfl) (c78 n2) k) ?_
    refine eq_ (fun _ k => ev_iload f154_745 rfl k) ?_
    refine eq_icN (by omega) (by omega) (tgt := 752) f154_747 rfl (fun _ => ?_) (fun h9 => absurd rfl h9)
    refine eq_ (fun _ k => ev_iload f154_752 rfl k) ?_
    refine eq_ifN (by omega) (tgt := 769) f154_754 rfl (fun h9 => absurd h9 (fun h => h hk)) (fun _ => ?_)
    refine eq_ (fun _ k => ev_aload_n f154_757 rfl k) ?_
    refine eq_ (fun _ k => ev_iconstN (n := 0) f154_758 k) ?_
    refine eq_ (fun _ k => ev_lald f154_759 (by assumption) (by omega) (by omega) k) ?_
    refine eq_ (fun _ k => ev_iload f154_760 rfl k) ?_
    refine eq_ (fun _ k => ev_i2l f154_762 k) ?_
    refine eq_ (fun _ k => ev_lcmp f154_763 k) ?_
    refine eq_if (tgt := 769) f154_764 rfl (fun _ => ?_) (fun hc => absurd ((lg_cmp_eq _ _).mpr hf2) hc)
    refine eq_ (fun _ k => ev_goto (tgt := 2112) f154_769 rfl k) ?_
    exact kk _ _ _ _ _ _ _ _ _ W2 (by omega) (by omega)
  · refine eq_ (fun _ k => ev_aload_n f154_741 rfl k) ?_
    refine eq_ (fun _ k => ev_v0 f154_742 ow78 (by assumption) (Nat.le_of_ble_eq_true rfl) (c78 n2) k) ?_
    refine eq_ (fun _ k => ev_iload f154_745 rfl k) ?_
    refine eq_icN (by omega) (by omega) (tgt := 752) f154_747 rfl (fun _ => ?_) (fun h9 => absurd rfl h9)
    refine eq_ (fun _ k => ev_iload f154_752 rfl k) ?_
    refine eq_ifN (by omega) (tgt := 769) f154_754 rfl (fun _ => ?_) (fun h9 => absurd hk h9)
    refine eq_ (fun _ k => ev_goto (tgt := 2112) f154_769 rfl k) ?_
    exact kk _ _ _ _ _ _ _ _ _ W2 (by omega) (by omega)
theorem g9 (W : LW X q g q g l ov hs) (hX : X = .inl (.int, L, .inl xs)) (hi : i + 3 < L) (hL : L ≤ 2048) (A : AgrV 46 103 [.int (xs (i + 1))] K1 hs q g) (w5 w6 : Option Value) (kk : LwK X i c s Q) : EvQ 154 772 (lwL i w5 w6) [] hs c s Q := by
  obtain ⟨dc, ds, k, hs1, hs2, q', g', ov', b1, b2, b3, k1, k2, ⟨fs, y1⟩, y0, W2⟩ := out3v (X := X) (l := l) (ov := ov) A (fun _ _ a => h133 W a) (fun _ _ e a => h133x W e a)
  have y2 := W.1
  rw [hX] at y0 y2
  refine eq_ (fun _ k => ev_aload_n f154_772 rfl k) ?_
  refine eq_ (fun _ k => ev_aload_n f154_773 rfl k) ?_
  refine eq_ (fun _ k => ev_iload f154_774 rfl k) ?_
  refine eq_ (fun _ k => ev_iconstN (n := 1) f154_776 k) ?_
  first | refine eq_ (fun _ k => ev_iaddN f154_777 k) ?_ | refine eq_ (fun _ k => ev_iadd f154_777 k) ?_
  refine eq_ (fun _ k => ev_iald f154_778 (by assumption) (by omega) (by omega) k) ?_
  refine eq_ (fun _ k => ev_sc [.ref 1, .int (xs (i + 1))] f154_779 (Or.inl rfl) ow133 rfl rfl (catL rfl) (Nat.le_of_ble_eq_true rfl) k1 k) ?_
  refine eq_ (fun _ k => ev_istore f154_782 k) ?_
  refine eq_ (fun _ k => ev_aload_n f154_784 rfl k) ?_
  refine eq_ (fun _ k => ev_aload_n f154_785 rfl k) ?_
  refine eq_ (fun _ k => ev_iload f154_786 rfl k) ?_
  refine eq_ (fun _ k => ev_iconstN (n := 1) f154_788 k) ?_
  first | refine eq_ (fun _ k => ev_iaddN f154_789 k) ?_ | refine eq_ (fun _ k => ev_iadd f154_789 k) ?_
  refine eq_ (fun _ k => ev_iald f154_790 (by assumption) (by omega) (by omega) k) ?_
  refine eq_ (fun _ k => ev_v1 f154_791 ow103 (by assumption) rfl (Nat.le_of_ble_eq_true rfl) (k2) k) ?_
  clear y0 y1 y2 k1 k2
  have WW := W2
  obtain ⟨-, -, n2, F, n3, n4⟩ := WW
  have n1 := n2.1
  refine eq_ (fun _ k => ev_aload_n f154_794 rfl k) ?_
  refine eq_ (fun _ k => ev_v0 f154_795 ow78 (by assumption) (Nat.le_of_ble_eq_true rfl) (c78 n2) k) ?_
  refine eq_ (fun _ k => ev_iload f154_798 rfl k) ?_
  refine eq_icN (by omega) (by omega) (tgt := 805) f154_800 rfl (fun _ => ?_) (fun h9 => absurd rfl h9)
  refine eq_ (fun _ k => ev_goto (tgt := 2112) f154_805 rfl k) ?_
  exact kk _ _ _ _ _ _ _ _ _ W2 (by omega) (by omega)
theorem g10 (W : LW X q g q g l ov hs) (hX : X = .inl (.int, L, .inl xs)) (hi : i + 3 < L) (hL : L ≤ 2048) (A : AgrP 47 104 [.int (xs (i + 1))] K12 hs q g) (w5 w6 : Option Value) (kk : LwK X i c s Q) : EvQ 154 808 (lwL i w5 w6) [] hs c s Q := by
  obtain ⟨dc, ds, k, hs1, w, hs2, q', g', ov', b1, b2, b3, k1, k2, ⟨fs, y1⟩, y0, W2, hf⟩ := out3 (X := X) (l := l) (ov := ov) (f := Int32.toInt64) A (fun _ _ _ a => h134 W a) (fun _ _ e a => h134x W e a)
  have y2 := W.1
  rw [hX] at y0 y2
  refine eq_ (fun _ k => ev_aload_n f154_808 rfl k) ?_
  refine eq_ (fun _ k => ev_aload_n f154_809 rfl k) ?_
  refine eq_ (fun _ k => ev_iload f154_810 rfl k) ?_
  refine eq_ (fun _ k => ev_iconstN (n := 1) f154_812 k) ?_
  first | refine eq_ (fun _ k => ev_iaddN f154_813 k) ?_ | refine eq_ (fun _ k => ev_iadd f154_813 k) ?_
  refine eq_ (fun _ k => ev_iald f154_814 (by assumption) (by omega) (by omega) k) ?_
  refine eq_ (fun _ k => ev_aload_n f154_815 rfl k) ?_
  refine eq_ (fun _ k => ev_sc [.ref 1, .int (xs (i + 1)), .ref 47] f154_816 (Or.inl rfl) ow134 rfl rfl (catL rfl) (Nat.le_of_ble_eq_true rfl) k1 k) ?_
  refine eq_ (fun _ k => ev_istore f154_819 k) ?_
  refine eq_ (fun _ k => ev_aload_n f154_821 rfl k) ?_
  refine eq_ (fun _ k => ev_aload_n f154_822 rfl k) ?_
  refine eq_ (fun _ k => ev_iload f154_823 rfl k) ?_
  refine eq_ (fun _ k => ev_iconstN (n := 1) f154_825 k) ?_
  first | refine eq_ (fun _ k => ev_iaddN f154_826 k) ?_ | refine eq_ (fun _ k => ev_iadd f154_826 k) ?_
  refine eq_ (fun _ k => ev_iald f154_827 (by assumption) (by omega) (by omega) k) ?_
  refine eq_ (fun _ k => ev_v1 f154_828 ow104 (by assumption) rfl (Nat.le_of_ble_eq_true rfl) (k2) k) ?_
  refine eq_ (fun _ k => ev_istore f154_831 k) ?_
  clear y0 y1 y2 k1 k2
  have WW := W2
  obtain ⟨-, -, n2, F, n3, n4⟩ := WW
  have n1 := n2.1
  by_cases hk : k = 0
  · have hf2 : F 0 = Int32.toInt64 w := n4.trans (hf hk)
    refine eq_ (fun _ k => ev_aload_n f154_833 rfl k) ?_
    refine eq_ (fun _ k => ev_v0 f154_834 ow78 (by assumption) (Nat.le_of_ble_eq_true rfl) (c78 n2) k) ?_
    refine eq_ (fun _ k => ev_iload f154_837 rfl k) ?_
    refine eq_icN (by omega) (by omega) (tgt := 844) f154_839 rfl (fun _ => ?_) (fun h9 => absurd rfl h9)
    refine eq_ (fun _ k => ev_iload f154_844 rfl k) ?_
    refine eq_ifN (by omega) (tgt := 861) f154_846 rfl (fun h9 => absurd h9 (fun h => h hk)) (fun _ => ?_)
    refine eq_ (fun _ k => ev_aload_n f154_849 rfl k) ?_
    refine eq_ (fun _ k => ev_iconstN (n := 0) f154_850 k) ?_
    refine eq_ (fun _ k => ev_lald f154_851 (by assumption) (by omega) (by omega) k) ?_
    refine eq_ (fun _ k => ev_iload f154_852 rfl k) ?_
    refine eq_ (fun _ k => ev_i2l f154_854 k) ?_
    refine eq_ (fun _ k => ev_lcmp f154_855 k) ?_
    refine eq_if (tgt := 861) f154_856 rfl (fun _ => ?_) (fun hc => absurd ((lg_cmp_eq _ _).mpr hf2) hc)
    refine eq_ (fun _ k => ev_goto (tgt := 2112) f154_861 rfl k) ?_
    exact kk _ _ _ _ _ _ _ _ _ W2 (by omega) (by omega)
  · refine eq_ (fun _ k => ev_aload_n f154_833 rfl k) ?_
    refine eq_ (fun _ k => ev_v0 f154_834 ow78 (by assumption) (Nat.le_of_ble_eq_true rfl) (c78 n2) k) ?_
    refine eq_ (fun _ k => ev_iload f154_837 rfl k) ?_
    refine eq_icN (by omega) (by omega) (tgt := 844) f154_839 rfl (fun _ => ?_) (fun h9 => absurd rfl h9)
    refine eq_ (fun _ k => ev_iload f154_844 rfl k) ?_
    refine eq_ifN (by omega) (tgt := 861) f154_846 rfl (fun _ => ?_) (fun h9 => absurd hk h9)
    refine eq_ (fun _ k => ev_goto (tgt := 2112) f154_861 rfl k) ?_
    exact kk _ _ _ _ _ _ _ _ _ W2 (by omega) (by omega)
theorem g11 (W : LW X q g q g l ov hs) (hX : X = .inl (.int, L, .inl xs)) (hi : i + 3 < L) (hL : L ≤ 2048) (A : AgrP 48 105 [.int (xs (i + 1))] K12 hs q g) (w5 w6 : Option Value) (kk : LwK X i c s Q) : EvQ 154 864 (lwL i w5 w6) [] hs c s Q := by
  obtain ⟨dc, ds, k, hs1, w, hs2, q', g', ov', b1, b2, b3, k1, k2, ⟨fs, y1⟩, y0, W2, hf⟩ := out3 (X := X) (l := l) (ov := ov) (f := Int32.toInt64) A (fun _ _ _ a => h135 W a) (fun _ _ e a => h135x W e a)
  have y2 := W.1
  rw [hX] at y0 y2
  refine eq_ (fun _ k => ev_aload_n f154_864 rfl k) ?_
  refine eq_ (fun _ k => ev_aload_n f154_865 rfl k) ?_
  refine eq_ (fun _ k => ev_iload f154_866 rfl k) ?_
  refine eq_ (fun _ k => ev_iconstN (n := 1) f154_868 k) ?_
  first | refine eq_ (fun _ k => ev_iaddN f154_869 k) ?_ | refine eq_ (fun _ k => ev_iadd f154_869 k) ?_
  refine eq_ (fun _ k => ev_iald f154_870 (by assumption) (by omega) (by omega) k) ?_
  refine eq_ (fun _ k => ev_aload_n f154_871 rfl k) ?_
  refine eq_ (fun _ k => ev_sc [.ref 1, .int (xs (i + 1)), .ref 47] f154_872 (Or.inl rfl) ow135 rfl rfl (catL rfl) (Nat.le_of_ble_eq_true rfl) k1 k) ?_
  refine eq_ (fun _ k => ev_istore f154_875 k) ?_
  refine eq_ (fun _ k => ev_aload_n f154_877 rfl k) ?_
  refine eq_ (fun _ k => ev_aload_n f154_878 rfl k) ?_
  refine eq_ (fun _ k => ev_iload f154_879 rfl k) ?_
  refine eq_ (fun _ k => ev_iconstN (n := 1) f154_881 k) ?_
  first | refine eq_ (fun _ k => ev_iaddN f154_882 k) ?_ | refine eq_ (fun _ k => ev_iadd f154_882 k) ?_
  refine eq_ (fun _ k => ev_iald f154_883 (by assumption) (by omega) (by omega) k) ?_
  refine eq_ (fun _ k => ev_v1 f154_884 ow105 (by assumption) rfl (Nat.le_of_ble_eq_true rfl) (k2) k) ?_
  refine eq_ (fun _ k => ev_istore f154_887 k) ?_
  clear y0 y1 y2 k1 k2
  have WW := W2
  obtain ⟨-, -, n2, F, n3, n4⟩ := WW
  have n1 := n2.1
  by_cases hk : k = 0
  · have hf2 : F 0 = Int32.toInt64 w := n4.trans (hf hk)
    refine eq_ (fun _ k => ev_aload_n f154_889 rfl k) ?_
    refine eq_ (fun _ k => ev_v0 f154_890 ow78 (by assumption) (Nat.le_of_ble_eq_true rfl) (c78 n2) k) ?_
    refine eq_ (fun _ k => ev_iload f154_893 rfl k) ?_
    refine eq_icN (by omega) (by omega) (tgt := 900) f154_895 rfl (fun _ => ?_) (fun h9 => absurd rfl h9)
    refine eq_ (fun _ k => ev_iload f154_900 rfl k) ?_
    refine eq_ifN (by omega) (tgt := 917) f154_902 rfl (fun h9 => absurd h9 (fun h => h hk)) (fun _ => ?_)
    refine eq_ (fun _ k => ev_aload_n f154_905 rfl k) ?_
    refine eq_ (fun _ k => ev_iconstN (n := 0) f154_906 k) ?_
    refine eq_ (fun _ k => ev_lald f154_907 (by assumption) (by omega) (by omega) k) ?_
    refine eq_ (fun _ k => ev_iload f154_908 rfl k) ?_
    refine eq_ (fun _ k => ev_i2l f154_910 k) ?_
    refine eq_ (fun _ k => ev_lcmp f154_911 k) ?_
    refine eq_if (tgt := 917) f154_912 rfl (fun _ => ?_) (fun hc => absurd ((lg_cmp_eq _ _).mpr hf2) hc)
    refine eq_ (fun _ k => ev_goto (tgt := 2112) f154_917 rfl k) ?_
    exact kk _ _ _ _ _ _ _ _ _ W2 (by omega) (by omega)
  · refine eq_ (fun _ k => ev_aload_n f154_889 rfl k) ?_
    refine eq_ (fun _ k => ev_v0 f154_890 ow78 (by assumption) (Nat.le_of_ble_eq_true rfl) (c78 n2) k) ?_
    refine eq_ (fun _ k => ev_iload f154_893 rfl k) ?_
    refine eq_icN (by omega) (by omega) (tgt := 900) f154_895 rfl (fun _ => ?_) (fun h9 => absurd rfl h9)
    refine eq_ (fun _ k => ev_iload f154_900 rfl k) ?_
    refine eq_ifN (by omega) (tgt := 917) f154_902 rfl (fun _ => ?_) (fun h9 => absurd hk h9)
    refine eq_ (fun _ k => ev_goto (tgt := 2112) f154_917 rfl k) ?_
    exact kk _ _ _ _ _ _ _ _ _ W2 (by omega) (by omega)
theorem g12 (W : LW X q g q g l ov hs) (hX : X = .inl (.int, L, .inl xs)) (hi : i + 3 < L) (hL : L ≤ 2048) (A : AgrP 49 106 [.int (xs (i + 1)), .int (xs (i + 2))] K12 hs q g) (w5 w6 : Option Value) (kk : LwK X i c s Q) : EvQ 154 920 (lwL i w5 w6) [] hs c s Q := by
  obtain ⟨dc, ds, k, hs1, w, hs2, q', g', ov', b1, b2, b3, k1, k2, ⟨fs, y1⟩, y0, W2, hf⟩ := out3 (X := X) (l := l) (ov := ov) (f := Int32.toInt64) A (fun _ _ _ a => h136 W a) (fun _ _ e a => h136x W e a)
  have y2 := W.1
  rw [hX] at y0 y2
  refine eq_ (fun _ k => ev_aload_n f154_920 rfl k) ?_
  refine eq_ (fun _ k => ev_aload_n f154_921 rfl k) ?_
  refine eq_ (fun _ k => ev_iload f154_922 rfl k) ?_
  refine eq_ (fun _ k => ev_iconstN (n := 1) f154_924 k) ?_
  first | refine eq_ (fun _ k => ev_iaddN f154_925 k) ?_ | refine eq_ (fun _ k => ev_iadd f154_925 k) ?_
  refine eq_ (fun _ k => ev_iald f154_926 (by assumption) (by omega) (by omega) k) ?_
  refine eq_ (fun _ k => ev_aload_n f154_927 rfl k) ?_
  refine eq_ (fun _ k => ev_iload f154_928 rfl k) ?_
  refine eq_ (fun _ k => ev_iconstN (n := 2) f154_930 k) ?_
  first | refine eq_ (fun _ k => ev_iaddN f154_931 k) ?_ | refine eq_ (fun _ k => ev_iadd f154_931 k) ?_
  refine eq_ (fun _ k => ev_iald f154_932 (by assumption) (by omega) (by omega) k) ?_
  refine eq_ (fun _ k => ev_aload_n f154_933 rfl k) ?_
  refine eq_ (fun _ k => ev_sc [.ref 1, .int (xs (i + 1)), .int (xs (i + 2)), .ref 47] f154_934 (Or.inl rfl) ow136 rfl rfl (catL rfl) (Nat.le_of_ble_eq_true rfl) k1 k) ?_
  refine eq_ (fun _ k => ev_istore f154_937 k) ?_
  refine eq_ (fun _ k => ev_aload_n f154_939 rfl k) ?_
  refine eq_ (fun _ k => ev_aload_n f154_940 rfl k) ?_
  refine eq_ (fun _ k => ev_iload f154_941 rfl k) ?_
  refine eq_ (fun _ k => ev_iconstN (n := 1) f154_943 k) ?_
  first | refine eq_ (fun _ k => ev_iaddN f154_944 k) ?_ | refine eq_ (fun _ k => ev_iadd f154_944 k) ?_
  refine eq_ (fun _ k => ev_iald f154_945 (by assumption) (by omega) (by omega) k) ?_
  refine eq_ (fun _ k => ev_aload_n f154_946 rfl k) ?_
  refine eq_ (fun _ k => ev_iload f154_947 rfl k) ?_
  refine eq_ (fun _ k => ev_iconstN (n := 2) f154_949 k) ?_
  first | refine eq_ (fun _ k => ev_iaddN f154_950 k) ?_ | refine eq_ (fun _ k => ev_iadd f154_950 k) ?_
  refine eq_ (fun _ k => ev_iald f154_951 (by assumption) (by omega) (by omega) k) ?_
  refine eq_ (fun _ k => ev_v2 f154_952 ow106 (by assumption) rfl rfl (Nat.le_of_ble_eq_true rfl) (k2) k) ?_
  refine eq_ (fun _ k => ev_istore f154_955 k) ?_
  clear y0 y1 y2 k1 k2
  have WW := W2
  obtain ⟨-, -, n2, F, n3, n4⟩ := WW
  have n1 := n2.1
  by_cases hk : k = 0
  · have hf2 : F 0 = Int32.toInt64 w := n4.trans (hf hk)
    refine eq_ (fun _ k => ev_aload_n f154_957 rfl k) ?_
    refine eq_ (fun _ k => ev_v0 f154_958 ow78 (by assumption) (Nat.le_of_ble_eq_true rfl) (c78 n2) k) ?_
    refine eq_ (fun _ k => ev_iload f154_961 rfl k) ?_
    refine eq_icN (by omega) (by omega) (tgt := 968) f154_963 rfl (fun _ => ?_) (fun h9 => absurd rfl h9)
    refine eq_ (fun _ k => ev_iload f154_968 rfl k) ?_
    refine eq_ifN (by omega) (tgt := 985) f154_970 rfl (fun h9 => absurd h9 (fun h => h hk)) (fun _ => ?_)
    refine eq_ (fun _ k => ev_aload_n f154_973 rfl k) ?_
    refine eq_ (fun _ k => ev_iconstN (n := 0) f154_974 k) ?_
    refine eq_ (fun _ k => ev_lald f154_975 (by assumption) (by omega) (by omega) k) ?_
    refine eq_ (fun _ k => ev_iload f154_976 rfl k) ?_
    refine eq_ (fun _ k => ev_i2l f154_978 k) ?_
    refine eq_ (fun _ k => ev_lcmp f154_979 k) ?_
    refine eq_if (tgt := 985) f154_980 rfl (fun _ => ?_) (fun hc => absurd ((lg_cmp_eq _ _).mpr hf2) hc)
    refine eq_ (fun _ k => ev_goto (tgt := 2112) f154_985 rfl k) ?_
    exact kk _ _ _ _ _ _ _ _ _ W2 (by omega) (by omega)
  · refine eq_ (fun _ k => ev_aload_n f154_957 rfl k) ?_
    refine eq_ (fun _ k => ev_v0 f154_958 ow78 (by assumption) (Nat.le_of_ble_eq_true rfl) (c78 n2) k) ?_
    refine eq_ (fun _ k => ev_iload f154_961 rfl k) ?_
    refine eq_icN (by omega) (by omega) (tgt := 968) f154_963 rfl (fun _ => ?_) (fun h9 => absurd rfl h9)
    refine eq_ (fun _ k => ev_iload f154_968 rfl k) ?_
    refine eq_ifN (by omega) (tgt := 985) f154_970 rfl (fun _ => ?_) (fun h9 => absurd hk h9)
    refine eq_ (fun _ k => ev_goto (tgt := 2112) f154_985 rfl k) ?_
    exact kk _ _ _ _ _ _ _ _ _ W2 (by omega) (by omega)
theorem g13 (W : LW X q g q g l ov hs) (hX : X = .inl (.int, L, .inl xs)) (hi : i + 3 < L) (hL : L ≤ 2048) (A : AgrP 50 107 [.int (xs (i + 1)), .int (xs (i + 2))] K1 hs q g) (w5 w6 : Option Value) (kk : LwK X i c s Q) : EvQ 154 988 (lwL i w5 w6) [] hs c s Q := by
  obtain ⟨dc, ds, k, hs1, w, hs2, q', g', ov', b1, b2, b3, k1, k2, ⟨fs, y1⟩, y0, W2, hf⟩ := out3 (X := X) (l := l) (ov := ov) (f := Int32.toInt64) A (fun _ _ _ a => h137 W a) (fun _ _ e a => h137x W e a)
  have y2 := W.1
  rw [hX] at y0 y2
  refine eq_ (fun _ k => ev_aload_n f154_988 rfl k) ?_
  refine eq_ (fun _ k => ev_aload_n f154_989 rfl k) ?_
  refine eq_ (fun _ k => ev_iload f154_990 rfl k) ?_
  refine eq_ (fun _ k => ev_iconstN (n := 1) f154_992 k) ?_
  first | refine eq_ (fun _ k => ev_iaddN f154_993 k) ?_ | refine eq_ (fun _ k => ev_iadd f154_993 k) ?_
  refine eq_ (fun _ k => ev_iald f154_994 (by assumption) (by omega) (by omega) k) ?_
  refine eq_ (fun _ k => ev_aload_n f154_995 rfl k) ?_
  refine eq_ (fun _ k => ev_iload f154_996 rfl k) ?_
  refine eq_ (fun _ k => ev_iconstN (n := 2) f154_998 k) ?_
  first | refine eq_ (fun _ k => ev_iaddN f154_999 k) ?_ | refine eq_ (fun _ k => ev_iadd f154_999 k) ?_
  refine eq_ (fun _ k => ev_iald f154_1000 (by assumption) (by omega) (by omega) k) ?_
  refine eq_ (fun _ k => ev_aload_n f154_1001 rfl k) ?_
  refine eq_ (fun _ k => ev_sc [.ref 1, .int (xs (i + 1)), .int (xs (i + 2)), .ref 47] f154_1002 (Or.inl rfl) ow137 rfl rfl (catL rfl) (Nat.le_of_ble_eq_true rfl) k1 k) ?_
  refine eq_ (fun _ k => ev_istore f154_1005 k) ?_
  refine eq_ (fun _ k => ev_aload_n f154_1007 rfl k) ?_
  refine eq_ (fun _ k => ev_aload_n f154_1008 rfl k) ?_
  refine eq_ (fun _ k => ev_iload f154_1009 rfl k) ?_
  refine eq_ (fun _ k => ev_iconstN (n := 1) f154_1011 k) ?_
  first | refine eq_ (fun _ k => ev_iaddN f154_1012 k) ?_ | refine eq_ (fun _ k => ev_iadd f154_1012 k) ?_
  refine eq_ (fun _ k => ev_iald f154_1013 (by assumption) (by omega) (by omega) k) ?_
  refine eq_ (fun _ k => ev_aload_n f154_1014 rfl k) ?_
  refine eq_ (fun _ k => ev_iload f154_1015 rfl k) ?_
  refine eq_ (fun _ k => ev_iconstN (n := 2) f154_1017 k) ?_
  first | refine eq_ (fun _ k => ev_iaddN f154_1018 k) ?_ | refine eq_ (fun _ k => ev_iadd f154_1018 k) ?_
  refine eq_ (fun _ k => ev_iald f154_1019 (by assumption) (by omega) (by omega) k) ?_
  refine eq_ (fun _ k => ev_v2 f154_1020 ow107 (by assumption) rfl rfl (Nat.le_of_ble_eq_true rfl) (k2) k) ?_
  refine eq_ (fun _ k => ev_istore f154_1023 k) ?_
  clear y0 y1 y2 k1 k2
  have WW := W2
  obtain ⟨-, -, n2, F, n3, n4⟩ := WW
  have n1 := n2.1
  by_cases hk : k = 0
  · have hf2 : F 0 = Int32.toInt64 w := n4.trans (hf hk)
    refine eq_ (fun _ k => ev_aload_n f154_1025 rfl k) ?_
    refine eq_ (fun _ k => ev_v0 f154_1026 ow78 (by assumption) (Nat.le_of_ble_eq_true rfl) (c78 n2) k) ?_
    refine eq_ (fun _ k => ev_iload f154_1029 rfl k) ?_
    refine eq_icN (by omega) (by omega) (tgt := 1036) f154_1031 rfl (fun _ => ?_) (fun h9 => absurd rfl h9)
    refine eq_ (fun _ k => ev_iload f154_1036 rfl k) ?_
    refine eq_ifN (by omega) (tgt := 1053) f154_1038 rfl (fun h9 => absurd h9 (fun h => h hk)) (fun _ => ?_)
    refine eq_ (fun _ k => ev_aload_n f154_1041 rfl k) ?_
    refine eq_ (fun _ k => ev_iconstN (n := 0) f154_1042 k) ?_
    refine eq_ (fun _ k => ev_lald f154_1043 (by assumption) (by omega) (by omega) k) ?_
    refine eq_ (fun _ k => ev_iload f154_1044 rfl k) ?_
    refine eq_ (fun _ k => ev_i2l f154_1046 k) ?_
    refine eq_ (fun _ k => ev_lcmp f154_1047 k) ?_
    refine eq_if (tgt := 1053) f154_1048 rfl (fun _ => ?_) (fun hc => absurd ((lg_cmp_eq _ _).mpr hf2) hc)
    refine eq_ (fun _ k => ev_goto (tgt := 2112) f154_1053 rfl k) ?_
    exact kk _ _ _ _ _ _ _ _ _ W2 (by omega) (by omega)
  · refine eq_ (fun _ k => ev_aload_n f154_1025 rfl k) ?_
    refine eq_ (fun _ k => ev_v0 f154_1026 ow78 (by assumption) (Nat.le_of_ble_eq_true rfl) (c78 n2) k) ?_
    refine eq_ (fun _ k => ev_iload f154_1029 rfl k) ?_
    refine eq_icN (by omega) (by omega) (tgt := 1036) f154_1031 rfl (fun _ => ?_) (fun h9 => absurd rfl h9)
    refine eq_ (fun _ k => ev_iload f154_1036 rfl k) ?_
    refine eq_ifN (by omega) (tgt := 1053) f154_1038 rfl (fun _ => ?_) (fun h9 => absurd hk h9)
    refine eq_ (fun _ k => ev_goto (tgt := 2112) f154_1053 rfl k) ?_
    exact kk _ _ _ _ _ _ _ _ _ W2 (by omega) (by omega)
theorem g14 (W : LW X q g q g l ov hs) (hX : X = .inl (.int, L, .inl xs)) (hi : i + 3 < L) (hL : L ≤ 2048) (A : AgrP 51 108 [.int (xs (i + 1)), .int (xs (i + 2))] K1 hs q g) (w5 w6 : Option Value) (kk : LwK X i c s Q) : EvQ 154 1056 (lwL i w5 w6) [] hs c s Q := by
  obtain ⟨dc, ds, k, hs1, w, hs2, q', g', ov', b1, b2, b3, k1, k2, ⟨fs, y1⟩, y0, W2, hf⟩ := out3 (X := X) (l := l) (ov := ov) (f := blN) A (fun _ _ _ a => h138 W a) (fun _ _ e a => h138x W e a)
  have y2 := W.1
  rw [hX] at y0 y2
  refine eq_ (fun _ k => ev_aload_n f154_1056 rfl k) ?_
  refine eq_ (fun _ k => ev_aload_n f154_1057 rfl k) ?_
  refine eq_ (fun _ k => ev_iload f154_1058 rfl k) ?_
  refine eq_ (fun _ k => ev_iconstN (n := 1) f154_1060 k) ?_
  first | refine eq_ (fun _ k => ev_iaddN f154_1061 k) ?_ | refine eq_ (fun _ k => ev_iadd f154_1061 k) ?_
  refine eq_ (fun _ k => ev_iald f154_1062 (by assumption) (by omega) (by omega) k) ?_
  refine eq_ (fun _ k => ev_aload_n f154_1063 rfl k) ?_
  refine eq_ (fun _ k => ev_iload f154_1064 rfl k) ?_
  refine eq_ (fun _ k => ev_iconstN (n := 2) f154_1066 k) ?_
  first | refine eq_ (fun _ k => ev_iaddN f154_1067 k) ?_ | refine eq_ (fun _ k => ev_iadd f154_1067 k) ?_
  refine eq_ (fun _ k => ev_iald f154_1068 (by assumption) (by omega) (by omega) k) ?_
  refine eq_ (fun _ k => ev_aload_n f154_1069 rfl k) ?_
  refine eq_ (fun _ k => ev_sc [.ref 1, .int (xs (i + 1)), .int (xs (i + 2)), .ref 47] f154_1070 (Or.inl rfl) ow138 rfl rfl (catL rfl) (Nat.le_of_ble_eq_true rfl) k1 k) ?_
  refine eq_ (fun _ k => ev_istore f154_1073 k) ?_
  refine eq_ (fun _ k => ev_aload_n f154_1075 rfl k) ?_
  refine eq_ (fun _ k => ev_aload_n f154_1076 rfl k) ?_
  refine eq_ (fun _ k => ev_iload f154_1077 rfl k) ?_
  refine eq_ (fun _ k => ev_iconstN (n := 1) f154_1079 k) ?_
  first | refine eq_ (fun _ k => ev_iaddN f154_1080 k) ?_ | refine eq_ (fun _ k => ev_iadd f154_1080 k) ?_
  refine eq_ (fun _ k => ev_iald f154_1081 (by assumption) (by omega) (by omega) k) ?_
  refine eq_ (fun _ k => ev_aload_n f154_1082 rfl k) ?_
  refine eq_ (fun _ k => ev_iload f154_1083 rfl k) ?_
  refine eq_ (fun _ k => ev_iconstN (n := 2) f154_1085 k) ?_
  first | refine eq_ (fun _ k => ev_iaddN f154_1086 k) ?_ | refine eq_ (fun _ k => ev_iadd f154_1086 k) ?_
  refine eq_ (fun _ k => ev_iald f154_1087 (by assumption) (by omega) (by omega) k) ?_
  refine eq_ (fun _ k => ev_v2 f154_1088 ow108 (by assumption) rfl rfl (Nat.le_of_ble_eq_true rfl) (k2) k) ?_
  refine eq_ (fun _ k => ev_istore f154_1091 k) ?_
  clear y0 y1 y2 k1 k2
  have WW := W2
  obtain ⟨-, -, n2, F, n3, n4⟩ := WW
  have n1 := n2.1
  by_cases hk : k = 0
  · have hf2 : F 0 = blN w := n4.trans (hf hk)
    refine eq_ (fun _ k => ev_aload_n f154_1093 rfl k) ?_
    refine eq_ (fun _ k => ev_v0 f154_1094 ow78 (by assumption) (Nat.le_of_ble_eq_true rfl) (c78 n2) k) ?_
    refine eq_ (fun _ k => ev_iload f154_1097 rfl k) ?_
    refine eq_icN (by omega) (by omega) (tgt := 1104) f154_1099 rfl (fun _ => ?_) (fun h9 => absurd rfl h9)
    refine eq_ (fun _ k => ev_iload f154_1104 rfl k) ?_
    refine eq_ifN (by omega) (tgt := 1128) f154_1106 rfl (fun h9 => absurd h9 (fun h => h hk)) (fun _ => ?_)
    refine eq_ (fun _ k => ev_aload_n f154_1109 rfl k) ?_
    refine eq_ (fun _ k => ev_iconstN (n := 0) f154_1110 k) ?_
    refine eq_ (fun _ k => ev_lald f154_1111 (by assumption) (by omega) (by omega) k) ?_
    refine eq_ (fun _ k => ev_iload f154_1112 rfl k) ?_
    refine eq_if (tgt := 1121) f154_1114 rfl (fun hc => ?_) (fun hc => ?_)
    · have hc2 : w = 0 := hc
      have hf3 : F 0 = Int64.ofNat 0 := hf2.trans (if_pos hc2)
      refine eq_ (fun _ k => ev_lconst f154_1121 k) ?_
      refine eq_ (fun _ k => ev_lcmp f154_1122 k) ?_
      refine eq_if (tgt := 1128) f154_1123 rfl (fun _ => ?_) (fun hc => absurd ((lg_cmp_eq _ _).mpr hf3) hc)
      refine eq_ (fun _ k => ev_goto (tgt := 2112) f154_1128 rfl k) ?_
      exact kk _ _ _ _ _ _ _ _ _ W2 (by omega) (by omega)
    · have hc2 : ¬ w = 0 := hc
      have hf3 : F 0 = Int64.ofNat 1 := hf2.trans (if_neg hc2)
      refine eq_ (fun _ k => ev_lconst f154_1117 k) ?_
      refine eq_ (fun _ k => ev_goto (tgt := 1122) f154_1118 rfl k) ?_
      refine eq_ (fun _ k => ev_lcmp f154_1122 k) ?_
      refine eq_if (tgt := 1128) f154_1123 rfl (fun _ => ?_) (fun hc => absurd ((lg_cmp_eq _ _).mpr hf3) hc)
      refine eq_ (fun _ k => ev_goto (tgt := 2112) f154_1128 rfl k) ?_
      exact kk _ _ _ _ _ _ _ _ _ W2 (by omega) (by omega)
  · refine eq_ (fun _ k => ev_aload_n f154_1093 rfl k) ?_
    refine eq_ (fun _ k => ev_v0 f154_1094 ow78 (by assumption) (Nat.le_of_ble_eq_true rfl) (c78 n2) k) ?_
    refine eq_ (fun _ k => ev_iload f154_1097 rfl k) ?_
    refine eq_icN (by omega) (by omega) (tgt := 1104) f154_1099 rfl (fun _ => ?_) (fun h9 => absurd rfl h9)
    refine eq_ (fun _ k => ev_iload f154_1104 rfl k) ?_
    refine eq_ifN (by omega) (tgt := 1128) f154_1106 rfl (fun _ => ?_) (fun h9 => absurd hk h9)
    refine eq_ (fun _ k => ev_goto (tgt := 2112) f154_1128 rfl k) ?_
    exact kk _ _ _ _ _ _ _ _ _ W2 (by omega) (by omega)
theorem g15 (W : LW X q g q g l ov hs) (hX : X = .inl (.int, L, .inl xs)) (hi : i + 3 < L) (hL : L ≤ 2048) (A : AgrP 52 109 [.int (xs (i + 1))] K1 hs q g) (w5 w6 : Option Value) (kk : LwK X i c s Q) : EvQ 154 1131 (lwL i w5 w6) [] hs c s Q := by
  obtain ⟨dc, ds, k, hs1, w, hs2, q', g', ov', b1, b2, b3, k1, k2, ⟨fs, y1⟩, y0, W2, hf⟩ := out3 (X := X) (l := l) (ov := ov) (f := Int32.toInt64) A (fun _ _ _ a => h139 W a) (fun _ _ e a => h139x W e a)
  have y2 := W.1
  rw [hX] at y0 y2
  refine eq_ (fun _ k => ev_aload_n f154_1131 rfl k) ?_
  refine eq_ (fun _ k => ev_aload_n f154_1132 rfl k) ?_
  refine eq_ (fun _ k => ev_iload f154_1133 rfl k) ?_
  refine eq_ (fun _ k => ev_iconstN (n := 1) f154_1135 k) ?_
  first | refine eq_ (fun _ k => ev_iaddN f154_1136 k) ?_ | refine eq_ (fun _ k => ev_iadd f154_1136 k) ?_
  refine eq_ (fun _ k => ev_iald f154_1137 (by assumption) (by omega) (by omega) k) ?_
  refine eq_ (fun _ k => ev_aload_n f154_1138 rfl k) ?_
  refine eq_ (fun _ k => ev_sc [.ref 1, .int (xs (i + 1)), .ref 47] f154_1139 (Or.inl rfl) ow139 rfl rfl (catL rfl) (Nat.le_of_ble_eq_true rfl) k1 k) ?_
  refine eq_ (fun _ k => ev_istore f154_1142 k) ?_
  refine eq_ (fun _ k => ev_aload_n f154_1144 rfl k) ?_
  refine eq_ (fun _ k => ev_aload_n f154_1145 rfl k) ?_
  refine eq_ (fun _ k => ev_iload f154_1146 rfl k) ?_
  refine eq_ (fun _ k => ev_iconstN (n := 1) f154_1148 k) ?_
  first | refine eq_ (fun _ k => ev_iaddN f154_1149 k) ?_ | refine eq_ (fun _ k => ev_iadd f154_1149 k) ?_
  refine eq_ (fun _ k => ev_iald f154_1150 (by assumption) (by omega) (by omega) k) ?_
  refine eq_ (fun _ k => ev_v1 f154_1151 ow109 (by assumption) rfl (Nat.le_of_ble_eq_true rfl) (k2) k) ?_
  refine eq_ (fun _ k => ev_istore f154_1154 k) ?_
  clear y0 y1 y2 k1 k2
  have WW := W2
  obtain ⟨-, -, n2, F, n3, n4⟩ := WW
  have n1 := n2.1
  by_cases hk : k = 0
  · have hf2 : F 0 = Int32.toInt64 w := n4.trans (hf hk)
    refine eq_ (fun _ k => ev_aload_n f154_1156 rfl k) ?_
    refine eq_ (fun _ k => ev_v0 f154_1157 ow78 (by assumption) (Nat.le_of_ble_eq_true rfl) (c78 n2) k) ?_
    refine eq_ (fun _ k => ev_iload f154_1160 rfl k) ?_
    refine eq_icN (by omega) (by omega) (tgt := 1167) f154_1162 rfl (fun _ => ?_) (fun h9 => absurd rfl h9)
    refine eq_ (fun _ k => ev_iload f154_1167 rfl k) ?_
    refine eq_ifN (by omega) (tgt := 1184) f154_1169 rfl (fun h9 => absurd h9 (fun h => h hk)) (fun _ => ?_)
    refine eq_ (fun _ k => ev_aload_n f154_1172 rfl k) ?_
    refine eq_ (fun _ k => ev_iconstN (n := 0) f154_1173 k) ?_
    refine eq_ (fun _ k => ev_lald f154_1174 (by assumption) (by omega) (by omega) k) ?_
    refine eq_ (fun _ k => ev_iload f154_1175 rfl k) ?_
    refine eq_ (fun _ k => ev_i2l f154_1177 k) ?_
    refine eq_ (fun _ k => ev_lcmp f154_1178 k) ?_
    refine eq_if (tgt := 1184) f154_1179 rfl (fun _ => ?_) (fun hc => absurd ((lg_cmp_eq _ _).mpr hf2) hc)
    refine eq_ (fun _ k => ev_goto (tgt := 2112) f154_1184 rfl k) ?_
    exact kk _ _ _ _ _ _ _ _ _ W2 (by omega) (by omega)
  · refine eq_ (fun _ k => ev_aload_n f154_1156 rfl k) ?_
    refine eq_ (fun _ k => ev_v0 f154_1157 ow78 (by assumption) (Nat.le_of_ble_eq_true rfl) (c78 n2) k) ?_
    refine eq_ (fun _ k => ev_iload f154_1160 rfl k) ?_
    refine eq_icN (by omega) (by omega) (tgt := 1167) f154_1162 rfl (fun _ => ?_) (fun h9 => absurd rfl h9)
    refine eq_ (fun _ k => ev_iload f154_1167 rfl k) ?_
    refine eq_ifN (by omega) (tgt := 1184) f154_1169 rfl (fun _ => ?_) (fun h9 => absurd hk h9)
    refine eq_ (fun _ k => ev_goto (tgt := 2112) f154_1184 rfl k) ?_
    exact kk _ _ _ _ _ _ _ _ _ W2 (by omega) (by omega)
theorem g16 (W : LW X q g q g l ov hs) (hX : X = .inl (.int, L, .inl xs)) (hi : i + 3 < L) (hL : L ≤ 2048) (A : AgrP 53 110 [.int (xs (i + 1))] K1 hs q g) (w5 w6 : Option Value) (kk : LwK X i c s Q) : EvQ 154 1187 (lwL i w5 w6) [] hs c s Q := by
  obtain ⟨dc, ds, k, hs1, w, hs2, q', g', ov', b1, b2, b3, k1, k2, ⟨fs, y1⟩, y0, W2, hf⟩ := out3 (X := X) (l := l) (ov := ov) (f := Int32.toInt64) A (fun _ _ _ a => h140 W a) (fun _ _ e a => h140x W e a)
  have y2 := W.1
  rw [hX] at y0 y2
  refine eq_ (fun _ k => ev_aload_n f154_1187 rfl k) ?_
  refine eq_ (fun _ k => ev_aload_n f154_1188 rfl k) ?_
  refine eq_ (fun _ k => ev_iload f154_1189 rfl k) ?_
  refine eq_ (fun _ k => ev_iconstN (n := 1) f154_1191 k) ?_
  first | refine eq_ (fun _ k => ev_iaddN f154_1192 k) ?_ | refine eq_ (fun _ k => ev_iadd f154_1192 k) ?_
  refine eq_ (fun _ k => ev_iald f154_1193 (by assumption) (by omega) (by omega) k) ?_
  refine eq_ (fun _ k => ev_aload_n f154_1194 rfl k) ?_
  refine eq_ (fun _ k => ev_sc [.ref 1, .int (xs (i + 1)), .ref 47] f154_1195 (Or.inl rfl) ow140 rfl rfl (catL rfl) (Nat.le_of_ble_eq_true rfl) k1 k) ?_
  refine eq_ (fun _ k => ev_istore f154_1198 k) ?_
  refine eq_ (fun _ k => ev_aload_n f154_1200 rfl k) ?_
  refine eq_ (fun _ k => ev_aload_n f154_1201 rfl k) ?_
  refine eq_ (fun _ k => ev_iload f154_1202 rfl k) ?_
  refine eq_ (fun _ k => ev_iconstN (n := 1) f154_1204 k) ?_
  first | refine eq_ (fun _ k => ev_iaddN f154_1205 k) ?_ | refine eq_ (fun _ k => ev_iadd f154_1205 k) ?_
  refine eq_ (fun _ k => ev_iald f154_1206 (by assumption) (by omega) (by omega) k) ?_
  refine eq_ (fun _ k => ev_v1 f154_1207 ow110 (by assumption) rfl (Nat.le_of_ble_eq_true rfl) (k2) k) ?_
  refine eq_ (fun _ k => ev_istore f154_1210 k) ?_
  clear y0 y1 y2 k1 k2
  have WW := W2
  obtain ⟨-, -, n2, F, n3, n4⟩ := WW
  have n1 := n2.1
  by_cases hk : k = 0
  · have hf2 : F 0 = Int32.toInt64 w := n4.trans (hf hk)
    refine eq_ (fun _ k => ev_aload_n f154_1212 rfl k) ?_
    refine eq_ (fun _ k => ev_v0 f154_1213 ow78 (by assumption) (Nat.le_of_ble_eq_true rfl) (c78 n2) k) ?_
    refine eq_ (fun _ k => ev_iload f154_1216 rfl k) ?_
    refine eq_icN (by omega) (by omega) (tgt := 1223) f154_1218 rfl (fun _ => ?_) (fun h9 => absurd rfl h9)
    refine eq_ (fun _ k => ev_iload f154_1223 rfl k) ?_
    refine eq_ifN (by omega) (tgt := 1240) f154_1225 rfl (fun h9 => absurd h9 (fun h => h hk)) (fun _ => ?_)
    refine eq_ (fun _ k => ev_aload_n f154_1228 rfl k) ?_
    refine eq_ (fun _ k => ev_iconstN (n := 0) f154_1229 k) ?_
    refine eq_ (fun _ k => ev_lald f154_1230 (by assumption) (by omega) (by omega) k) ?_
    refine eq_ (fun _ k => ev_iload f154_1231 rfl k) ?_
    refine eq_ (fun _ k => ev_i2l f154_1233 k) ?_
    refine eq_ (fun _ k => ev_lcmp f154_1234 k) ?_
    refine eq_if (tgt := 1240) f154_1235 rfl (fun _ => ?_) (fun hc => absurd ((lg_cmp_eq _ _).mpr hf2) hc)
    refine eq_ (fun _ k => ev_goto (tgt := 2112) f154_1240 rfl k) ?_
    exact kk _ _ _ _ _ _ _ _ _ W2 (by omega) (by omega)
  · refine eq_ (fun _ k => ev_aload_n f154_1212 rfl k) ?_
    refine eq_ (fun _ k => ev_v0 f154_1213 ow78 (by assumption) (Nat.le_of_ble_eq_true rfl) (c78 n2) k) ?_
    refine eq_ (fun _ k => ev_iload f154_1216 rfl k) ?_
    refine eq_icN (by omega) (by omega) (tgt := 1223) f154_1218 rfl (fun _ => ?_) (fun h9 => absurd rfl h9)
    refine eq_ (fun _ k => ev_iload f154_1223 rfl k) ?_
    refine eq_ifN (by omega) (tgt := 1240) f154_1225 rfl (fun _ => ?_) (fun h9 => absurd hk h9)
    refine eq_ (fun _ k => ev_goto (tgt := 2112) f154_1240 rfl k) ?_
    exact kk _ _ _ _ _ _ _ _ _ W2 (by omega) (by omega)
theorem g17 (W : LW X q g q g l ov hs) (hX : X = .inl (.int, L, .inl xs)) (hi : i + 3 < L) (hL : L ≤ 2048) (A : AgrP 54 111 [.int (xs (i + 1))] K1 hs q g) (w5 w6 : Option Value) (kk : LwK X i c s Q) : EvQ 154 1243 (lwL i w5 w6) [] hs c s Q := by
  obtain ⟨dc, ds, k, hs1, w, hs2, q', g', ov', b1, b2, b3, k1, k2, ⟨fs, y1⟩, y0, W2, hf⟩ := out3 (X := X) (l := l) (ov := ov) (f := Int32.toInt64) A (fun _ _ _ a => h141 W a) (fun _ _ e a => h141x W e a)
  have y2 := W.1
  rw [hX] at y0 y2
  refine eq_ (fun _ k => ev_aload_n f154_1243 rfl k) ?_
  refine eq_ (fun _ k => ev_aload_n f154_1244 rfl k) ?_
  refine eq_ (fun _ k => ev_iload f154_1245 rfl k) ?_
  refine eq_ (fun _ k => ev_iconstN (n := 1) f154_1247 k) ?_
  first | refine eq_ (fun _ k => ev_iaddN f154_1248 k) ?_ | refine eq_ (fun _ k => ev_iadd f154_1248 k) ?_
  refine eq_ (fun _ k => ev_iald f154_1249 (by assumption) (by omega) (by omega) k) ?_
  refine eq_ (fun _ k => ev_aload_n f154_1250 rfl k) ?_
  refine eq_ (fun _ k => ev_sc [.ref 1, .int (xs (i + 1)), .ref 47] f154_1251 (Or.inl rfl) ow141 rfl rfl (catL rfl) (Nat.le_of_ble_eq_true rfl) k1 k) ?_
  refine eq_ (fun _ k => ev_istore f154_1254 k) ?_
  refine eq_ (fun _ k => ev_aload_n f154_1256 rfl k) ?_
  refine eq_ (fun _ k => ev_aload_n f154_1257 rfl k) ?_
  refine eq_ (fun _ k => ev_iload f154_1258 rfl k) ?_
  refine eq_ (fun _ k => ev_iconstN (n := 1) f154_1260 k) ?_
  first | refine eq_ (fun _ k => ev_iaddN f154_1261 k) ?_ | refine eq_ (fun _ k => ev_iadd f154_1261 k) ?_
  refine eq_ (fun _ k => ev_iald f154_1262 (by assumption) (by omega) (by omega) k) ?_
  refine eq_ (fun _ k => ev_v1 f154_1263 ow111 (by assumption) rfl (Nat.le_of_ble_eq_true rfl) (k2) k) ?_
  refine eq_ (fun _ k => ev_istore f154_1266 k) ?_
  clear y0 y1 y2 k1 k2
  have WW := W2
  obtain ⟨-, -, n2, F, n3, n4⟩ := WW
  have n1 := n2.1
  by_cases hk : k = 0
  · have hf2 : F 0 = Int32.toInt64 w := n4.trans (hf hk)
    refine eq_ (fun _ k => ev_aload_n f154_1268 rfl k) ?_
    refine eq_ (fun _ k => ev_v0 f154_1269 ow78 (by assumption) (Nat.le_of_ble_eq_true rfl) (c78 n2) k) ?_
    refine eq_ (fun _ k => ev_iload f154_1272 rfl k) ?_
    refine eq_icN (by omega) (by omega) (tgt := 1279) f154_1274 rfl (fun _ => ?_) (fun h9 => absurd rfl h9)
    refine eq_ (fun _ k => ev_iload f154_1279 rfl k) ?_
    refine eq_ifN (by omega) (tgt := 1296) f154_1281 rfl (fun h9 => absurd h9 (fun h => h hk)) (fun _ => ?_)
    refine eq_ (fun _ k => ev_aload_n f154_1284 rfl k) ?_
    refine eq_ (fun _ k => ev_iconstN (n := 0) f154_1285 k) ?_
    refine eq_ (fun _ k => ev_lald f154_1286 (by assumption) (by omega) (by omega) k) ?_
    refine eq_ (fun _ k => ev_iload f154_1287 rfl k) ?_
    refine eq_ (fun _ k => ev_i2l f154_1289 k) ?_
    refine eq_ (fun _ k => ev_lcmp f154_1290 k) ?_
    refine eq_if (tgt := 1296) f154_1291 rfl (fun _ => ?_) (fun hc => absurd ((lg_cmp_eq _ _).mpr hf2) hc)
    refine eq_ (fun _ k => ev_goto (tgt := 2112) f154_1296 rfl k) ?_
    exact kk _ _ _ _ _ _ _ _ _ W2 (by omega) (by omega)
  · refine eq_ (fun _ k => ev_aload_n f154_1268 rfl k) ?_
    refine eq_ (fun _ k => ev_v0 f154_1269 ow78 (by assumption) (Nat.le_of_ble_eq_true rfl) (c78 n2) k) ?_
    refine eq_ (fun _ k => ev_iload f154_1272 rfl k) ?_
    refine eq_icN (by omega) (by omega) (tgt := 1279) f154_1274 rfl (fun _ => ?_) (fun h9 => absurd rfl h9)
    refine eq_ (fun _ k => ev_iload f154_1279 rfl k) ?_
    refine eq_ifN (by omega) (tgt := 1296) f154_1281 rfl (fun _ => ?_) (fun h9 => absurd hk h9)
    refine eq_ (fun _ k => ev_goto (tgt := 2112) f154_1296 rfl k) ?_
    exact kk _ _ _ _ _ _ _ _ _ W2 (by omega) (by omega)
theorem g18 (W : LW X q g q g l ov hs) (hX : X = .inl (.int, L, .inl xs)) (hi : i + 3 < L) (hL : L ≤ 2048) (A : AgrP 55 112 [.int (xs (i + 1))] K1 hs q g) (w5 w6 : Option Value) (kk : LwK X i c s Q) : EvQ 154 1299 (lwL i w5 w6) [] hs c s Q := by
  obtain ⟨dc, ds, k, hs1, w, hs2, q', g', ov', b1, b2, b3, k1, k2, ⟨fs, y1⟩, y0, W2, hf⟩ := out3 (X := X) (l := l) (ov := ov) (f := Int32.toInt64) A (fun _ _ _ a => h142 W a) (fun _ _ e a => h142x W e a)
  have y2 := W.1
  rw [hX] at y0 y2
  refine eq_ (fun _ k => ev_aload_n f154_1299 rfl k) ?_
  refine eq_ (fun _ k => ev_aload_n f154_1300 rfl k) ?_
  refine eq_ (fun _ k => ev_iload f154_1301 rfl k) ?_
  refine eq_ (fun _ k => ev_iconstN (n := 1) f154_1303 k) ?_
  first | refine eq_ (fun _ k => ev_iaddN f154_1304 k) ?_ | refine eq_ (fun _ k => ev_iadd f154_1304 k) ?_
  refine eq_ (fun _ k => ev_iald f154_1305 (by assumption) (by omega) (by omega) k) ?_
  refine eq_ (fun _ k => ev_aload_n f154_1306 rfl k) ?_
  refine eq_ (fun _ k => ev_sc [.ref 1, .int (xs (i + 1)), .ref 47] f154_1307 (Or.inl rfl) ow142 rfl rfl (catL rfl) (Nat.le_of_ble_eq_true rfl) k1 k) ?_
  refine eq_ (fun _ k => ev_istore f154_1310 k) ?_
  refine eq_ (fun _ k => ev_aload_n f154_1312 rfl k) ?_
  refine eq_ (fun _ k => ev_aload_n f154_1313 rfl k) ?_
  refine eq_ (fun _ k => ev_iload f154_1314 rfl k) ?_
  refine eq_ (fun _ k => ev_iconstN (n := 1) f154_1316 k) ?_
  first | refine eq_ (fun _ k => ev_iaddN f154_1317 k) ?_ | refine eq_ (fun _ k => ev_iadd f154_1317 k) ?_
  refine eq_ (fun _ k => ev_iald f154_1318 (by assumption) (by omega) (by omega) k) ?_
  refine eq_ (fun _ k => ev_v1 f154_1319 ow112 (by assumption) rfl (Nat.le_of_ble_eq_true rfl) (k2) k) ?_
  refine eq_ (fun _ k => ev_istore f154_1322 k) ?_
  clear y0 y1 y2 k1 k2
  have WW := W2
  obtain ⟨-, -, n2, F, n3, n4⟩ := WW
  have n1 := n2.1
  by_cases hk : k = 0
  · have hf2 : F 0 = Int32.toInt64 w := n4.trans (hf hk)
    refine eq_ (fun _ k => ev_aload_n f154_1324 rfl k) ?_
    refine eq_ (fun _ k => ev_v0 f154_1325 ow78 (by assumption) (Nat.le_of_ble_eq_true rfl) (c78 n2) k) ?_
    refine eq_ (fun _ k => ev_iload f154_1328 rfl k) ?_
    refine eq_icN (by omega) (by omega) (tgt := 1335) f154_1330 rfl (fun _ => ?_) (fun h9 => absurd rfl h9)
    refine eq_ (fun _ k => ev_iload f154_1335 rfl k) ?_
    refine eq_ifN (by omega) (tgt := 1352) f154_1337 rfl (fun h9 => absurd h9 (fun h => h hk)) (fun _ => ?_)
    refine eq_ (fun _ k => ev_aload_n f154_1340 rfl k) ?_
    refine eq_ (fun _ k => ev_iconstN (n := 0) f154_1341 k) ?_
    refine eq_ (fun _ k => ev_lald f154_1342 (by assumption) (by omega) (by omega) k) ?_
    refine eq_ (fun _ k => ev_iload f154_1343 rfl k) ?_
    refine eq_ (fun _ k => ev_i2l f154_1345 k) ?_
    refine eq_ (fun _ k => ev_lcmp f154_1346 k) ?_
    refine eq_if (tgt := 1352) f154_1347 rfl (fun _ => ?_) (fun hc => absurd ((lg_cmp_eq _ _).mpr hf2) hc)
    refine eq_ (fun _ k => ev_goto (tgt := 2112) f154_1352 rfl k) ?_
    exact kk _ _ _ _ _ _ _ _ _ W2 (by omega) (by omega)
  · refine eq_ (fun _ k => ev_aload_n f154_1324 rfl k) ?_
    refine eq_ (fun _ k => ev_v0 f154_1325 ow78 (by assumption) (Nat.le_of_ble_eq_true rfl) (c78 n2) k) ?_
    refine eq_ (fun _ k => ev_iload f154_1328 rfl k) ?_
    refine eq_icN (by omega) (by omega) (tgt := 1335) f154_1330 rfl (fun _ => ?_) (fun h9 => absurd rfl h9)
    refine eq_ (fun _ k => ev_iload f154_1335 rfl k) ?_
    refine eq_ifN (by omega) (tgt := 1352) f154_1337 rfl (fun _ => ?_) (fun h9 => absurd hk h9)
    refine eq_ (fun _ k => ev_goto (tgt := 2112) f154_1352 rfl k) ?_
    exact kk _ _ _ _ _ _ _ _ _ W2 (by omega) (by omega)
theorem g19 (W : LW X q g q g l ov hs) (hX : X = .inl (.int, L, .inl xs)) (hi : i + 3 < L) (hL : L ≤ 2048) (A : AgrP 56 113 [.int (xs (i + 1)), .int (xs (i + 2))] K1 hs q g) (w5 w6 : Option Value) (kk : LwK X i c s Q) : EvQ 154 1355 (lwL i w5 w6) [] hs c s Q := by
  obtain ⟨dc, ds, k, hs1, w, hs2, q', g', ov', b1, b2, b3, k1, k2, ⟨fs, y1⟩, y0, W2, hf⟩ := out3 (X := X) (l := l) (ov := ov) (f := Int32.toInt64) A (fun _ _ _ a => h143 W a) (fun _ _ e a => h143x W e a)
  have y2 := W.1
  rw [hX] at y0 y2
  refine eq_ (fun _ k => ev_aload_n f154_1355 rfl k) ?_
  refine eq_ (fun _ k => ev_aload_n f154_1356 rfl k) ?_
  refine eq_ (fun _ k => ev_iload f154_1357 rfl k) ?_
  refine eq_ (fun _ k => ev_iconstN (n := 1) f154_1359 k) ?_
  first | refine eq_ (fun _ k => ev_iaddN f154_1360 k) ?_ | refine eq_ (fun _ k => ev_iadd f154_1360 k) ?_
  refine eq_ (fun _ k => ev_iald f154_1361 (by assumption) (by omega) (by omega) k) ?_
  refine eq_ (fun _ k => ev_aload_n f154_1362 rfl k) ?_
  refine eq_ (fun _ k => ev_iload f154_1363 rfl k) ?_
  refine eq_ (fun _ k => ev_iconstN (n := 2) f154_1365 k) ?_
  first | refine eq_ (fun _ k => ev_iaddN f154_1366 k) ?_ | refine eq_ (fun _ k => ev_iadd f154_1366 k) ?_
  refine eq_ (fun _ k => ev_iald f154_1367 (by assumption) (by omega) (by omega) k) ?_
  refine eq_ (fun _ k => ev_aload_n f154_1368 rfl k) ?_
  refine eq_ (fun _ k => ev_sc [.ref 1, .int (xs (i + 1)), .int (xs (i + 2)), .ref 47] f154_1369 (Or.inl rfl) ow143 rfl rfl (catL rfl) (Nat.le_of_ble_eq_true rfl) k1 k) ?_
  refine eq_ (fun _ k => ev_istore f154_1372 k) ?_
  refine eq_ (fun _ k => ev_aload_n f154_1374 rfl k) ?_
  refine eq_ (fun _ k => ev_aload_n f154_1375 rfl k) ?_
  refine eq_ (fun _ k => ev_iload f154_1376 rfl k) ?_
  refine eq_ (fun _ k => ev_iconstN (n := 1) f154_1378 k) ?_
  first | refine eq_ (fun _ k => ev_iaddN f154_1379 k) ?_ | refine eq_ (fun _ k => ev_iadd f154_1379 k) ?_
  refine eq_ (fun _ k => ev_iald f154_1380 (by assumption) (by omega) (by omega) k) ?_
  refine eq_ (fun _ k => ev_aload_n f154_1381 rfl k) ?_
  refine eq_ (fun _ k => ev_iload f154_1382 rfl k) ?_
  refine eq_ (fun _ k => ev_iconstN (n := 2) f154_1384 k) ?_
  first | refine eq_ (fun _ k => ev_iaddN f154_1385 k) ?_ | refine eq_ (fun _ k => ev_iadd f154_1385 k) ?_
  refine eq_ (fun _ k => ev_iald f154_1386 (by assumption) (by omega) (by omega) k) ?_
  refine eq_ (fun _ k => ev_v2 f154_1387 ow113 (by assumption) rfl rfl (Nat.le_of_ble_eq_true rfl) (k2) k) ?_
  refine eq_ (fun _ k => ev_istore f154_1390 k) ?_
  clear y0 y1 y2 k1 k2
  have WW := W2
  obtain ⟨-, -, n2, F, n3, n4⟩ := WW
  have n1 := n2.1
  by_cases hk : k = 0
  · have hf2 : F 0 = Int32.toInt64 w := n4.trans (hf hk)
    refine eq_ (fun _ k => ev_aload_n f154_1392 rfl k) ?_
    refine eq_ (fun _ k => ev_v0 f154_1393 ow78 (by assumption) (Nat.le_of_ble_eq_true rfl) (c78 n2) k) ?_
    refine eq_ (fun _ k => ev_iload f154_1396 rfl k) ?_
    refine eq_icN (by omega) (by omega) (tgt := 1403) f154_1398 rfl (fun _ => ?_) (fun h9 => absurd rfl h9)
    refine eq_ (fun _ k => ev_iload f154_1403 rfl k) ?_
    refine eq_ifN (by omega) (tgt := 1420) f154_1405 rfl (fun h9 => absurd h9 (fun h => h hk)) (fun _ => ?_)
    refine eq_ (fun _ k => ev_aload_n f154_1408 rfl k) ?_
    refine eq_ (fun _ k => ev_iconstN (n := 0) f154_1409 k) ?_
    refine eq_ (fun _ k => ev_lald f154_1410 (by assumption) (by omega) (by omega) k) ?_
    refine eq_ (fun _ k => ev_iload f154_1411 rfl k) ?_
    refine eq_ (fun _ k => ev_i2l f154_1413 k) ?_
    refine eq_ (fun _ k => ev_lcmp f154_1414 k) ?_
    refine eq_if (tgt := 1420) f154_1415 rfl (fun _ => ?_) (fun hc => absurd ((lg_cmp_eq _ _).mpr hf2) hc)
    refine eq_ (fun _ k => ev_goto (tgt := 2112) f154_1420 rfl k) ?_
    exact kk _ _ _ _ _ _ _ _ _ W2 (by omega) (by omega)
  · refine eq_ (fun _ k => ev_aload_n f154_1392 rfl k) ?_
    refine eq_ (fun _ k => ev_v0 f154_1393 ow78 (by assumption) (Nat.le_of_ble_eq_true rfl) (c78 n2) k) ?_
    refine eq_ (fun _ k => ev_iload f154_1396 rfl k) ?_
    refine eq_icN (by omega) (by omega) (tgt := 1403) f154_1398 rfl (fun _ => ?_) (fun h9 => absurd rfl h9)
    refine eq_ (fun _ k => ev_iload f154_1403 rfl k) ?_
    refine eq_ifN (by omega) (tgt := 1420) f154_1405 rfl (fun _ => ?_) (fun h9 => absurd hk h9)
    refine eq_ (fun _ k => ev_goto (tgt := 2112) f154_1420 rfl k) ?_
    exact kk _ _ _ _ _ _ _ _ _ W2 (by omega) (by omega)
theorem g20 (W : LW X q g q g l ov hs) (hX : X = .inl (.int, L, .inl xs)) (hi : i + 3 < L) (hL : L ≤ 2048) (A : AgrP 57 115 [.int (xs (i + 1)), .int (xs (i + 2))] K1 hs q g) (w5 w6 : Option Value) (kk : LwK X i c s Q) : EvQ 154 1423 (lwL i w5 w6) [] hs c s Q := by
  obtain ⟨dc, ds, k, hs1, w, hs2, q', g', ov', b1, b2, b3, k1, k2, ⟨fs, y1⟩, y0, W2, hf⟩ := out3 (X := X) (l := l) (ov := ov) (f := Int32.toInt64) A (fun _ _ _ a => h144 W a) (fun _ _ e a => h144x W e a)
  have y2 := W.1
  rw [hX] at y0 y2
  refine eq_ (fun _ k => ev_aload_n f154_1423 rfl k) ?_
  refine eq_ (fun _ k => ev_aload_n f154_1424 rfl k) ?_
  refine eq_ (fun _ k => ev_iload f154_1425 rfl k) ?_
  refine eq_ (fun _ k => ev_iconstN (n := 1) f154_1427 k) ?_
  first | refine eq_ (fun _ k => ev_iaddN f154_1428 k) ?_ | refine eq_ (fun _ k => ev_iadd f154_1428 k) ?_
  refine eq_ (fun _ k => ev_iald f154_1429 (by assumption) (by omega) (by omega) k) ?_
  refine eq_ (fun _ k => ev_aload_n f154_1430 rfl k) ?_
  refine eq_ (fun _ k => ev_iload f154_1431 rfl k) ?_
  refine eq_ (fun _ k => ev_iconstN (n := 2) f154_1433 k) ?_
  first | refine eq_ (fun _ k => ev_iaddN f154_1434 k) ?_ | refine eq_ (fun _ k => ev_iadd f154_1434 k) ?_
  refine eq_ (fun _ k => ev_iald f154_1435 (by assumption) (by omega) (by omega) k) ?_
  refine eq_ (fun _ k => ev_aload_n f154_1436 rfl k) ?_
  refine eq_ (fun _ k => ev_sc [.ref 1, .int (xs (i + 1)), .int (xs (i + 2)), .ref 47] f154_1437 (Or.inl rfl) ow144 rfl rfl (catL rfl) (Nat.le_of_ble_eq_true rfl) k1 k) ?_
  refine eq_ (fun _ k => ev_istore f154_1440 k) ?_
  refine eq_ (fun _ k => ev_aload_n f154_1442 rfl k) ?_
  refine eq_ (fun _ k => ev_aload_n f154_1443 rfl k) ?_
  refine eq_ (fun _ k => ev_iload f154_1444 rfl k) ?_
  refine eq_ (fun _ k => ev_iconstN (n := 1) f154_1446 k) ?_
  first | refine eq_ (fun _ k => ev_iaddN f154_1447 k) ?_ | refine eq_ (fun _ k => ev_iadd f154_1447 k) ?_
  refine eq_ (fun _ k => ev_iald f154_1448 (by assumption) (by omega) (by omega) k) ?_
  refine eq_ (fun _ k => ev_aload_n f154_1449 rfl k) ?_
  refine eq_ (fun _ k => ev_iload f154_1450 rfl k) ?_
  refine eq_ (fun _ k => ev_iconstN (n := 2) f154_1452 k) ?_
  first | refine eq_ (fun _ k => ev_iaddN f154_1453 k) ?_ | refine eq_ (fun _ k => ev_iadd f154_1453 k) ?_
  refine eq_ (fun _ k => ev_iald f154_1454 (by assumption) (by omega) (by omega) k) ?_
  refine eq_ (fun _ k => ev_v2 f154_1455 ow115 (by assumption) rfl rfl (Nat.le_of_ble_eq_true rfl) (k2) k) ?_
  refine eq_ (fun _ k => ev_istore f154_1458 k) ?_
  clear y0 y1 y2 k1 k2
  have WW := W2
  obtain ⟨-, -, n2, F, n3, n4⟩ := WW
  have n1 := n2.1
  by_cases hk : k = 0
  · have hf2 : F 0 = Int32.toInt64 w := n4.trans (hf hk)
    refine eq_ (fun _ k => ev_aload_n f154_1460 rfl k) ?_
    refine eq_ (fun _ k => ev_v0 f154_1461 ow78 (by assumption) (Nat.le_of_ble_eq_true rfl) (c78 n2) k) ?_
    refine eq_ (fun _ k => ev_iload f154_1464 rfl k) ?_
    refine eq_icN (by omega) (by omega) (tgt := 1471) f154_1466 rfl (fun _ => ?_) (fun h9 => absurd rfl h9)
    refine eq_ (fun _ k => ev_iload f154_1471 rfl k) ?_
    refine eq_ifN (by omega) (tgt := 1488) f154_1473 rfl (fun h9 => absurd h9 (fun h => h hk)) (fun _ => ?_)
    refine eq_ (fun _ k => ev_aload_n f154_1476 rfl k) ?_
    refine eq_ (fun _ k => ev_iconstN (n := 0) f154_1477 k) ?_
    refine eq_ (fun _ k => ev_lald f154_1478 (by assumption) (by omega) (by omega) k) ?_
    refine eq_ (fun _ k => ev_iload f154_1479 rfl k) ?_
    refine eq_ (fun _ k => ev_i2l f154_1481 k) ?_
    refine eq_ (fun _ k => ev_lcmp f154_1482 k) ?_
    refine eq_if (tgt := 1488) f154_1483 rfl (fun _ => ?_) (fun hc => absurd ((lg_cmp_eq _ _).mpr hf2) hc)
    refine eq_ (fun _ k => ev_goto (tgt := 2112) f154_1488 rfl k) ?_
    exact kk _ _ _ _ _ _ _ _ _ W2 (by omega) (by omega)
  · refine eq_ (fun _ k => ev_aload_n f154_1460 rfl k) ?_
    refine eq_ (fun _ k => ev_v0 f154_1461 ow78 (by assumption) (Nat.le_of_ble_eq_true rfl) (c78 n2) k) ?_
    refine eq_ (fun _ k => ev_iload f154_1464 rfl k) ?_
    refine eq_icN (by omega) (by omega) (tgt := 1471) f154_1466 rfl (fun _ => ?_) (fun h9 => absurd rfl h9)
    refine eq_ (fun _ k => ev_iload f154_1471 rfl k) ?_
    refine eq_ifN (by omega) (tgt := 1488) f154_1473 rfl (fun _ => ?_) (fun h9 => absurd hk h9)
    refine eq_ (fun _ k => ev_goto (tgt := 2112) f154_1488 rfl k) ?_
    exact kk _ _ _ _ _ _ _ _ _ W2 (by omega) (by omega)
theorem g21 (W : LW X q g q g l ov hs) (hX : X = .inl (.int, L, .inl xs)) (hi : i + 3 < L) (hL : L ≤ 2048) (A : AgrP 58 116 [.int (xs (i + 1)), .int (xs (i + 2))] K1 hs q g) (w5 w6 : Option Value) (kk : LwK X i c s Q) : EvQ 154 1491 (lwL i w5 w6) [] hs c s Q := by
  obtain ⟨dc, ds, k, hs1, w, hs2, q', g', ov', b1, b2, b3, k1, k2, ⟨fs, y1⟩, y0, W2, hf⟩ := out3 (X := X) (l := l) (ov := ov) (f := Int32.toInt64) A (fun _ _ _ a => h145 W a) (fun _ _ e a => h145x W e a)
  have y2 := W.1
  rw [hX] at y0 y2
  refine eq_ (fun _ k => ev_aload_n f154_1491 rfl k) ?_
  refine eq_ (fun _ k => ev_aload_n f154_1492 rfl k) ?_
  refine eq_ (fun _ k => ev_iload f154_1493 rfl k) ?_
  refine eq_ (fun _ k => ev_iconstN (n := 1) f154_1495 k) ?_
  first | refine eq_ (fun _ k => ev_iaddN f154_1496 k) ?_ | refine eq_ (fun _ k => ev_iadd f154_1496 k) ?_
  refine eq_ (fun _ k => ev_iald f154_1497 (by assumption) (by omega) (by omega) k) ?_
  refine eq_ (fun _ k => ev_aload_n f154_1498 rfl k) ?_
  refine eq_ (fun _ k => ev_iload f154_1499 rfl k) ?_
  refine eq_ (fun _ k => ev_iconstN (n := 2) f154_1501 k) ?_
  first | refine eq_ (fun _ k => ev_iaddN f154_1502 k) ?_ | refine eq_ (fun _ k => ev_iadd f154_1502 k) ?_
  refine eq_ (fun _ k => ev_iald f154_1503 (by assumption) (by omega) (by omega) k) ?_
  refine eq_ (fun _ k => ev_aload_n f154_1504 rfl k) ?_
  refine eq_ (fun _ k => ev_sc [.ref 1, .int (xs (i + 1)), .int (xs (i + 2)), .ref 47] f154_1505 (Or.inl rfl) ow145 rfl rfl (catL rfl) (Nat.le_of_ble_eq_true rfl) k1 k) ?_
  refine eq_ (fun _ k => ev_istore f154_1508 k) ?_
  refine eq_ (fun _ k => ev_aload_n f154_1510 rfl k) ?_
  refine eq_ (fun _ k => ev_aload_n f154_1511 rfl k) ?_
  refine eq_ (fun _ k => ev_iload f154_1512 rfl k) ?_
  refine eq_ (fun _ k => ev_iconstN (n := 1) f154_1514 k) ?_
  first | refine eq_ (fun _ k => ev_iaddN f154_1515 k) ?_ | refine eq_ (fun _ k => ev_iadd f154_1515 k) ?_
  refine eq_ (fun _ k => ev_iald f154_1516 (by assumption) (by omega) (by omega) k) ?_
  refine eq_ (fun _ k => ev_aload_n f154_1517 rfl k) ?_
  refine eq_ (fun _ k => ev_iload f154_1518 rfl k) ?_
  refine eq_ (fun _ k => ev_iconstN (n := 2) f154_1520 k) ?_
  first | refine eq_ (fun _ k => ev_iaddN f154_1521 k) ?_ | refine eq_ (fun _ k => ev_iadd f154_1521 k) ?_
  refine eq_ (fun _ k => ev_iald f154_1522 (by assumption) (by omega) (by omega) k) ?_
  refine eq_ (fun _ k => ev_v2 f154_1523 ow116 (by assumption) rfl rfl (Nat.le_of_ble_eq_true rfl) (k2) k) ?_
  refine eq_ (fun _ k => ev_istore f154_1526 k) ?_
  clear y0 y1 y2 k1 k2
  have WW := W2
  obtain ⟨-, -, n2, F, n3, n4⟩ := WW
  have n1 := n2.1
  by_cases hk : k = 0
  · have hf2 : F 0 = Int32.toInt64 w := n4.trans (hf hk)
    refine eq_ (fun _ k => ev_aload_n f154_1528 rfl k) ?_
    refine eq_ (fun _ k => ev_v0 f154_1529 ow78 (by assumption) (Nat.le_of_ble_eq_true rfl) (c78 n2) k) ?_
    refine eq_ (fun _ k => ev_iload f154_1532 rfl k) ?_
    refine eq_icN (by omega) (by omega) (tgt := 1539) f154_1534 rfl (fun _ => ?_) (fun h9 => absurd rfl h9)
    refine eq_ (fun _ k => ev_iload f154_1539 rfl k) ?_
    refine eq_ifN (by omega) (tgt := 1556) f154_1541 rfl (fun h9 => absurd h9 (fun h => h hk)) (fun _ => ?_)
    refine eq_ (fun _ k => ev_aload_n f154_1544 rfl k) ?_
    refine eq_ (fun _ k => ev_iconstN (n := 0) f154_1545 k) ?_
    refine eq_ (fun _ k => ev_lald f154_1546 (by assumption) (by omega) (by omega) k) ?_
    refine eq_ (fun _ k => ev_iload f154_1547 rfl k) ?_
    refine eq_ (fun _ k => ev_i2l f154_1549 k) ?_
    refine eq_ (fun _ k => ev_lcmp f154_1550 k) ?_
    refine eq_if (tgt := 1556) f154_1551 rfl (fun _ => ?_) (fun hc => absurd ((lg_cmp_eq _ _).mpr hf2) hc)
    refine eq_ (fun _ k => ev_goto (tgt := 2112) f154_1556 rfl k) ?_
    exact kk _ _ _ _ _ _ _ _ _ W2 (by omega) (by omega)
  · refine eq_ (fun _ k => ev_aload_n f154_1528 rfl k) ?_
    refine eq_ (fun _ k => ev_v0 f154_1529 ow78 (by assumption) (Nat.le_of_ble_eq_true rfl) (c78 n2) k) ?_
    refine eq_ (fun _ k => ev_iload f154_1532 rfl k) ?_
    refine eq_icN (by omega) (by omega) (tgt := 1539) f154_1534 rfl (fun _ => ?_) (fun h9 => absurd rfl h9)
    refine eq_ (fun _ k => ev_iload f154_1539 rfl k) ?_
    refine eq_ifN (by omega) (tgt := 1556) f154_1541 rfl (fun _ => ?_) (fun h9 => absurd hk h9)
    refine eq_ (fun _ k => ev_goto (tgt := 2112) f154_1556 rfl k) ?_
    exact kk _ _ _ _ _ _ _ _ _ W2 (by omega) (by omega)
theorem g22 (W : LW X q g q g l ov hs) (hX : X = .inl (.int, L, .inl xs)) (hi : i + 3 < L) (hL : L ≤ 2048) (A : AgrP 59 117 [.int (xs (i + 1)), .int (xs (i + 2))] K1 hs q g) (w5 w6 : Option Value) (kk : LwK X i c s Q) : EvQ 154 1559 (lwL i w5 w6) [] hs c s Q := by
  obtain ⟨dc, ds, k, hs1, w, hs2, q', g', ov', b1, b2, b3, k1, k2, ⟨fs, y1⟩, y0, W2, hf⟩ := out3 (X := X) (l := l) (ov := ov) (f := Int32.toInt64) A (fun _ _ _ a => h146 W a) (fun _ _ e a => h146x W e a)
  have y2 := W.1
  rw [hX] at y0 y2
  refine eq_ (fun _ k => ev_aload_n f154_1559 rfl k) ?_
  refine eq_ (fun _ k => ev_aload_n f154_1560 rfl k) ?_
  refine eq_ (fun _ k => ev_iload f154_1561 rfl k) ?_
  refine eq_ (fun _ k => ev_iconstN (n := 1) f154_1563 k) ?_
  first | refine eq_ (fun _ k => ev_iaddN f154_1564 k) ?_ | refine eq_ (fun _ k => ev_iadd f154_1564 k) ?_
  refine eq_ (fun _ k => ev_iald f154_1565 (by assumption) (by omega) (by omega) k) ?_
  refine eq_ (fun _ k => ev_aload_n f154_1566 rfl k) ?_
  refine eq_ (fun _ k => ev_iload f154_1567 rfl k) ?_
  refine eq_ (fun _ k => ev_iconstN (n := 2) f154_1569 k) ?_
  first | refine eq_ (fun _ k => ev_iaddN f154_1570 k) ?_ | refine eq_ (fun _ k => ev_iadd f154_1570 k) ?_
  refine eq_ (fun _ k => ev_iald f154_1571 (by assumption) (by omega) (by omega) k) ?_
  refine eq_ (fun _ k => ev_aload_n f154_1572 rfl k) ?_
  refine eq_ (fun _ k => ev_sc [.ref 1, .int (xs (i + 1)), .int (xs (i + 2)), .ref 47] f154_1573 (Or.inl rfl) ow146 rfl rfl (catL rfl) (Nat.le_of_ble_eq_true rfl) k1 k) ?_
  refine eq_ (fun _ k => ev_istore f154_1576 k) ?_
  refine eq_ (fun _ k => ev_aload_n f154_1578 rfl k) ?_
  refine eq_ (fun _ k => ev_aload_n f154_1579 rfl k) ?_
  refine eq_ (fun _ k => ev_iload f154_1580 rfl k) ?_
  refine eq_ (fun _ k => ev_iconstN (n := 1) f154_1582 k) ?_
  first | refine eq_ (fun _ k => ev_iaddN f154_1583 k) ?_ | refine eq_ (fun _ k => ev_iadd f154_1583 k) ?_
  refine eq_ (fun _ k => ev_iald f154_1584 (by assumption) (by omega) (by omega) k) ?_
  refine eq_ (fun _ k => ev_aload_n f154_1585 rfl k) ?_
  refine eq_ (fun _ k => ev_iload f154_1586 rfl k) ?_
  refine eq_ (fun _ k => ev_iconstN (n := 2) f154_1588 k) ?_
  first | refine eq_ (fun _ k => ev_iaddN f154_1589 k) ?_ | refine eq_ (fun _ k => ev_iadd f154_1589 k) ?_
  refine eq_ (fun _ k => ev_iald f154_1590 (by assumption) (by omega) (by omega) k) ?_
  refine eq_ (fun _ k => ev_v2 f154_1591 ow117 (by assumption) rfl rfl (Nat.le_of_ble_eq_true rfl) (k2) k) ?_
  refine eq_ (fun _ k => ev_istore f154_1594 k) ?_
  clear y0 y1 y2 k1 k2
  have WW := W2
  obtain ⟨-, -, n2, F, n3, n4⟩ := WW
  have n1 := n2.1
  by_cases hk : k = 0
  · have hf2 : F 0 = Int32.toInt64 w := n4.trans (hf hk)
    refine eq_ (fun _ k => ev_aload_n f154_1596 rfl k) ?_
    refine eq_ (fun _ k => ev_v0 f154_1597 ow78 (by assumption) (Nat.le_of_ble_eq_true rfl) (c78 n2) k) ?_
    refine eq_ (fun _ k => ev_iload f154_1600 rfl k) ?_
    refine eq_icN (by omega) (by omega) (tgt := 1607) f154_1602 rfl (fun _ => ?_) (fun h9 => absurd rfl h9)
    refine eq_ (fun _ k => ev_iload f154_1607 rfl k) ?_
    refine eq_ifN (by omega) (tgt := 1624) f154_1609 rfl (fun h9 => absurd h9 (fun h => h hk)) (fun _ => ?_)
    refine eq_ (fun _ k => ev_aload_n f154_1612 rfl k) ?_
    refine eq_ (fun _ k => ev_iconstN (n := 0) f154_1613 k) ?_
    refine eq_ (fun _ k => ev_lald f154_1614 (by assumption) (by omega) (by omega) k) ?_
    refine eq_ (fun _ k => ev_iload f154_1615 rfl k) ?_
    refine eq_ (fun _ k => ev_i2l f154_1617 k) ?_
    refine eq_ (fun _ k => ev_lcmp f154_1618 k) ?_
    refine eq_if (tgt := 1624) f154_1619 rfl (fun _ => ?_) (fun hc => absurd ((lg_cmp_eq _ _).mpr hf2) hc)
    refine eq_ (fun _ k => ev_goto (tgt := 2112) f154_1624 rfl k) ?_
    exact kk _ _ _ _ _ _ _ _ _ W2 (by omega) (by omega)
  · refine eq_ (fun _ k => ev_aload_n f154_1596 rfl k) ?_
    refine eq_ (fun _ k => ev_v0 f154_1597 ow78 (by assumption) (Nat.le_of_ble_eq_true rfl) (c78 n2) k) ?_
    refine eq_ (fun _ k => ev_iload f154_1600 rfl k) ?_
    refine eq_icN (by omega) (by omega) (tgt := 1607) f154_1602 rfl (fun _ => ?_) (fun h9 => absurd rfl h9)
    refine eq_ (fun _ k => ev_iload f154_1607 rfl k) ?_
    refine eq_ifN (by omega) (tgt := 1624) f154_1609 rfl (fun _ => ?_) (fun h9 => absurd hk h9)
    refine eq_ (fun _ k => ev_goto (tgt := 2112) f154_1624 rfl k) ?_
    exact kk _ _ _ _ _ _ _ _ _ W2 (by omega) (by omega)
theorem g23 (W : LW X q g q g l ov hs) (hX : X = .inl (.int, L, .inl xs)) (hi : i + 3 < L) (hL : L ≤ 2048) (A : AgrP 60 118 [.int (xs (i + 1)), .int (xs (i + 2))] K1 hs q g) (w5 w6 : Option Value) (kk : LwK X i c s Q) : EvQ 154 1627 (lwL i w5 w6) [] hs c s Q := by
  obtain ⟨dc, ds, k, hs1, w, hs2, q', g', ov', b1, b2, b3, k1, k2, ⟨fs, y1⟩, y0, W2, hf⟩ := out3 (X := X) (l := l) (ov := ov) (f := blN) A (fun _ _ _ a => h147 W a) (fun _ _ e a => h147x W e a)
  have y2 := W.1
  rw [hX] at y0 y2
  refine eq_ (fun _ k => ev_aload_n f154_1627 rfl k) ?_
  refine eq_ (fun _ k => ev_aload_n f154_1628 rfl k) ?_
  refine eq_ (fun _ k => ev_iload f154_1629 rfl k) ?_
  refine eq_ (fun _ k => ev_iconstN (n := 1) f154_1631 k) ?_
  first | refine eq_ (fun _ k => ev_iaddN f154_1632 k) ?_ | refine eq_ (fun _ k => ev_iadd f154_1632 k) ?_
  refine eq_ (fun _ k => ev_iald f154_1633 (by assumption) (by omega) (by omega) k) ?_
  refine eq_ (fun _ k => ev_aload_n f154_1634 rfl k) ?_
  refine eq_ (fun _ k => ev_iload f154_1635 rfl k) ?_
  refine eq_ (fun _ k => ev_iconstN (n := 2) f154_1637 k) ?_
  first | refine eq_ (fun _ k => ev_iaddN f154_1638 k) ?_ | refine eq_ (fun _ k => ev_iadd f154_1638 k) ?_
  refine eq_ (fun _ k => ev_iald f154_1639 (by assumption) (by omega) (by omega) k) ?_
  refine eq_ (fun _ k => ev_aload_n f154_1640 rfl k) ?_
  refine eq_ (fun _ k => ev_sc [.ref 1, .int (xs (i + 1)), .int (xs (i + 2)), .ref 47] f154_1641 (Or.inl rfl) ow147 rfl rfl (catL rfl) (Nat.le_of_ble_eq_true rfl) k1 k) ?_
  refine eq_ (fun _ k => ev_istore f154_1644 k) ?_
  refine eq_ (fun _ k => ev_aload_n f154_1646 rfl k) ?_
  refine eq_ (fun _ k => ev_aload_n f154_1647 rfl k) ?_
  refine eq_ (fun _ k => ev_iload f154_1648 rfl k) ?_
  refine eq_ (fun _ k => ev_iconstN (n := 1) f154_1650 k) ?_
  first | refine eq_ (fun _ k => ev_iaddN f154_1651 k) ?_ | refine eq_ (fun _ k => ev_iadd f154_1651 k) ?_
  refine eq_ (fun _ k => ev_iald f154_1652 (by assumption) (by omega) (by omega) k) ?_
  refine eq_ (fun _ k => ev_aload_n f154_1653 rfl k) ?_
  refine eq_ (fun _ k => ev_iload f154_1654 rfl k) ?_
  refine eq_ (fun _ k => ev_iconstN (n := 2) f154_1656 k) ?_
  first | refine eq_ (fun _ k => ev_iaddN f154_1657 k) ?_ | refine eq_ (fun _ k => ev_iadd f154_1657 k) ?_
  refine eq_ (fun _ k => ev_iald f154_1658 (by assumption) (by omega) (by omega) k) ?_
  refine eq_ (fun _ k => ev_v2 f154_1659 ow118 (by assumption) rfl rfl (Nat.le_of_ble_eq_true rfl) (k2) k) ?_
  refine eq_ (fun _ k => ev_istore f154_1662 k) ?_
  clear y0 y1 y2 k1 k2
  have WW := W2
  obtain ⟨-, -, n2, F, n3, n4⟩ := WW
  have n1 := n2.1
  by_cases hk : k = 0
  · have hf2 : F 0 = blN w := n4.trans (hf hk)
    refine eq_ (fun _ k => ev_aload_n f154_1664 rfl k) ?_
    refine eq_ (fun _ k => ev_v0 f154_1665 ow78 (by assumption) (Nat.le_of_ble_eq_true rfl) (c78 n2) k) ?_
    refine eq_ (fun _ k => ev_iload f154_1668 rfl k) ?_
    refine eq_icN (by omega) (by omega) (tgt := 1675) f154_1670 rfl (fun _ => ?_) (fun h9 => absurd rfl h9)
    refine eq_ (fun _ k => ev_iload f154_1675 rfl k) ?_
    refine eq_ifN (by omega) (tgt := 1699) f154_1677 rfl (fun h9 => absurd h9 (fun h => h hk)) (fun _ => ?_)
    refine eq_ (fun _ k => ev_aload_n f154_1680 rfl k) ?_
    refine eq_ (fun _ k => ev_iconstN (n := 0) f154_1681 k) ?_
    refine eq_ (fun _ k => ev_lald f154_1682 (by assumption) (by omega) (by omega) k) ?_
    refine eq_ (fun _ k => ev_iload f154_1683 rfl k) ?_
    refine eq_if (tgt := 1692) f154_1685 rfl (fun hc => ?_) (fun hc => ?_)
    · have hc2 : w = 0 := hc
      have hf3 : F 0 = Int64.ofNat 0 := hf2.trans (if_pos hc2)
      refine eq_ (fun _ k => ev_lconst f154_1692 k) ?_
      refine eq_ (fun _ k => ev_lcmp f154_1693 k) ?_
      refine eq_if (tgt := 1699) f154_1694 rfl (fun _ => ?_) (fun hc => absurd ((lg_cmp_eq _ _).mpr hf3) hc)
      refine eq_ (fun _ k => ev_goto (tgt := 2112) f154_1699 rfl k) ?_
      exact kk _ _ _ _ _ _ _ _ _ W2 (by omega) (by omega)
    · have hc2 : ¬ w = 0 := hc
      have hf3 : F 0 = Int64.ofNat 1 := hf2.trans (if_neg hc2)
      refine eq_ (fun _ k => ev_lconst f154_1688 k) ?_
      refine eq_ (fun _ k => ev_goto (tgt := 1693) f154_1689 rfl k) ?_
      refine eq_ (fun _ k => ev_lcmp f154_1693 k) ?_
      refine eq_if (tgt := 1699) f154_1694 rfl (fun _ => ?_) (fun hc => absurd ((lg_cmp_eq _ _).mpr hf3) hc)
      refine eq_ (fun _ k => ev_goto (tgt := 2112) f154_1699 rfl k) ?_
      exact kk _ _ _ _ _ _ _ _ _ W2 (by omega) (by omega)
  · refine eq_ (fun _ k => ev_aload_n f154_1664 rfl k) ?_
    refine eq_ (fun _ k => ev_v0 f154_1665 ow78 (by assumption) (Nat.le_of_ble_eq_true rfl) (c78 n2) k) ?_
    refine eq_ (fun _ k => ev_iload f154_1668 rfl k) ?_
    refine eq_icN (by omega) (by omega) (tgt := 1675) f154_1670 rfl (fun _ => ?_) (fun h9 => absurd rfl h9)
    refine eq_ (fun _ k => ev_iload f154_1675 rfl k) ?_
    refine eq_ifN (by omega) (tgt := 1699) f154_1677 rfl (fun _ => ?_) (fun h9 => absurd hk h9)
    refine eq_ (fun _ k => ev_goto (tgt := 2112) f154_1699 rfl k) ?_
    exact kk _ _ _ _ _ _ _ _ _ W2 (by omega) (by omega)
theorem g24 (W : LW X q g q g l ov hs) (hX : X = .inl (.int, L, .inl xs)) (hi : i + 3 < L) (hL : L ≤ 2048) (A : AgrP 61 119 [.int (xs (i + 1)), .int (xs (i + 2))] K1 hs q g) (w5 w6 : Option Value) (kk : LwK X i c s Q) : EvQ 154 1702 (lwL i w5 w6) [] hs c s Q := by
  obtain ⟨dc, ds, k, hs1, w, hs2, q', g', ov', b1, b2, b3, k1, k2, ⟨fs, y1⟩, y0, W2, hf⟩ := out3 (X := X) (l := l) (ov := ov) (f := blN) A (fun _ _ _ a => h148 W a) (fun _ _ e a => h148x W e a)
  have y2 := W.1
  rw [hX] at y0 y2
  refine eq_ (fun _ k => ev_aload_n f154_1702 rfl k) ?_
  refine eq_ (fun _ k => ev_aload_n f154_1703 rfl k) ?_
  refine eq_ (fun _ k => ev_iload f154_1704 rfl k) ?_
  refine eq_ (fun _ k => ev_iconstN (n := 1) f154_1706 k) ?_
  first | refine eq_ (fun _ k => ev_iaddN f154_1707 k) ?_ | refine eq_ (fun _ k => ev_iadd f154_1707 k) ?_
  refine eq_ (fun _ k => ev_iald f154_1708 (by assumption) (by omega) (by omega) k) ?_
  refine eq_ (fun _ k => ev_aload_n f154_1709 rfl k) ?_
  refine eq_ (fun _ k => ev_iload f154_1710 rfl k) ?_
  refine eq_ (fun _ k => ev_iconstN (n := 2) f154_1712 k) ?_
  first | refine eq_ (fun _ k => ev_iaddN f154_1713 k) ?_ | refine eq_ (fun _ k => ev_iadd f154_1713 k) ?_
  refine eq_ (fun _ k => ev_iald f154_1714 (by assumption) (by omega) (by omega) k) ?_
  refine eq_ (fun _ k => ev_aload_n f154_1715 rfl k) ?_
  refine eq_ (fun _ k => ev_sc [.ref 1, .int (xs (i + 1)), .int (xs (i + 2)), .ref 47] f154_1716 (Or.inl rfl) ow148 rfl rfl (catL rfl) (Nat.le_of_ble_eq_true rfl) k1 k) ?_
  refine eq_ (fun _ k => ev_istore f154_1719 k) ?_
  refine eq_ (fun _ k => ev_aload_n f154_1721 rfl k) ?_
  refine eq_ (fun _ k => ev_aload_n f154_1722 rfl k) ?_
  refine eq_ (fun _ k => ev_iload f154_1723 rfl k) ?_
  refine eq_ (fun _ k => ev_iconstN (n := 1) f154_1725 k) ?_
  first | refine eq_ (fun _ k => ev_iaddN f154_1726 k) ?_ | refine eq_ (fun _ k => ev_iadd f154_1726 k) ?_
  refine eq_ (fun _ k => ev_iald f154_1727 (by assumption) (by omega) (by omega) k) ?_
  refine eq_ (fun _ k => ev_aload_n f154_1728 rfl k) ?_
  refine eq_ (fun _ k => ev_iload f154_1729 rfl k) ?_
  refine eq_ (fun _ k => ev_iconstN (n := 2) f154_1731 k) ?_
  first | refine eq_ (fun _ k => ev_iaddN f154_1732 k) ?_ | refine eq_ (fun _ k => ev_iadd f154_1732 k) ?_
  refine eq_ (fun _ k => ev_iald f154_1733 (by assumption) (by omega) (by omega) k) ?_
  refine eq_ (fun _ k => ev_v2 f154_1734 ow119 (by assumption) rfl rfl (Nat.le_of_ble_eq_true rfl) (k2) k) ?_
  refine eq_ (fun _ k => ev_istore f154_1737 k) ?_
  clear y0 y1 y2 k1 k2
  have WW := W2
  obtain ⟨-, -, n2, F, n3, n4⟩ := WW
  have n1 := n2.1
  by_cases hk : k = 0
  · have hf2 : F 0 = blN w := n4.trans (hf hk)
    refine eq_ (fun _ k => ev_aload_n f154_1739 rfl k) ?_
    refine eq_ (fun _ k => ev_v0 f154_1740 ow78 (by assumption) (Nat.le_of_ble_eq_true rfl) (c78 n2) k) ?_
    refine eq_ (fun _ k => ev_iload f154_1743 rfl k) ?_
    refine eq_icN (by omega) (by omega) (tgt := 1750) f154_1745 rfl (fun _ => ?_) (fun h9 => absurd rfl h9)
    refine eq_ (fun _ k => ev_iload f154_1750 rfl k) ?_
    refine eq_ifN (by omega) (tgt := 1774) f154_1752 rfl (fun h9 => absurd h9 (fun h => h hk)) (fun _ => ?_)
    refine eq_ (fun _ k => ev_aload_n f154_1755 rfl k) ?_
    refine eq_ (fun _ k => ev_iconstN (n := 0) f154_1756 k) ?_
    refine eq_ (fun _ k => ev_lald f154_1757 (by assumption) (by omega) (by omega) k) ?_
    refine eq_ (fun _ k => ev_iload f154_1758 rfl k) ?_
    refine eq_if (tgt := 1767) f154_1760 rfl (fun hc => ?_) (fun hc => ?_)
    · have hc2 : w = 0 := hc
      have hf3 : F 0 = Int64.ofNat 0 := hf2.trans (if_pos hc2)
      refine eq_ (fun _ k => ev_lconst f154_1767 k) ?_
      refine eq_ (fun _ k => ev_lcmp f154_1768 k) ?_
      refine eq_if (tgt := 1774) f154_1769 rfl (fun _ => ?_) (fun hc => absurd ((lg_cmp_eq _ _).mpr hf3) hc)
      refine eq_ (fun _ k => ev_goto (tgt := 2112) f154_1774 rfl k) ?_
      exact kk _ _ _ _ _ _ _ _ _ W2 (by omega) (by omega)
    · have hc2 : ¬ w = 0 := hc
      have hf3 : F 0 = Int64.ofNat 1 := hf2.trans (if_neg hc2)
      refine eq_ (fun _ k => ev_lconst f154_1763 k) ?_
      refine eq_ (fun _ k => ev_goto (tgt := 1768) f154_1764 rfl k) ?_
      refine eq_ (fun _ k => ev_lcmp f154_1768 k) ?_
      refine eq_if (tgt := 1774) f154_1769 rfl (fun _ => ?_) (fun hc => absurd ((lg_cmp_eq _ _).mpr hf3) hc)
      refine eq_ (fun _ k => ev_goto (tgt := 2112) f154_1774 rfl k) ?_
      exact kk _ _ _ _ _ _ _ _ _ W2 (by omega) (by omega)
  · refine eq_ (fun _ k => ev_aload_n f154_1739 rfl k) ?_
    refine eq_ (fun _ k => ev_v0 f154_1740 ow78 (by assumption) (Nat.le_of_ble_eq_true rfl) (c78 n2) k) ?_
    refine eq_ (fun _ k => ev_iload f154_1743 rfl k) ?_
    refine eq_icN (by omega) (by omega) (tgt := 1750) f154_1745 rfl (fun _ => ?_) (fun h9 => absurd rfl h9)
    refine eq_ (fun _ k => ev_iload f154_1750 rfl k) ?_
    refine eq_ifN (by omega) (tgt := 1774) f154_1752 rfl (fun _ => ?_) (fun h9 => absurd hk h9)
    refine eq_ (fun _ k => ev_goto (tgt := 2112) f154_1774 rfl k) ?_
    exact kk _ _ _ _ _ _ _ _ _ W2 (by omega) (by omega)
theorem g25 (W : LW X q g q g l ov hs) (hX : X = .inl (.int, L, .inl xs)) (hi : i + 3 < L) (hL : L ≤ 2048) (A : AgrP 62 120 [.int (xs (i + 1)), .int (xs (i + 2))] K1 hs q g) (w5 w6 : Option Value) (kk : LwK X i c s Q) : EvQ 154 1777 (lwL i w5 w6) [] hs c s Q := by
  obtain ⟨dc, ds, k, hs1, w, hs2, q', g', ov', b1, b2, b3, k1, k2, ⟨fs, y1⟩, y0, W2, hf⟩ := out3 (X := X) (l := l) (ov := ov) (f := blN) A (fun _ _ _ a => h149 W a) (fun _ _ e a => h149x W e a)
  have y2 := W.1
  rw [hX] at y0 y2
  refine eq_ (fun _ k => ev_aload_n f154_1777 rfl k) ?_
  refine eq_ (fun _ k => ev_aload_n f154_1778 rfl k) ?_
  refine eq_ (fun _ k => ev_iload f154_1779 rfl k) ?_
  refine eq_ (fun _ k => ev_iconstN (n := 1) f154_1781 k) ?_
  first | refine eq_ (fun _ k => ev_iaddN f154_1782 k) ?_ | refine eq_ (fun _ k => ev_iadd f154_1782 k) ?_
  refine eq_ (fun _ k => ev_iald f154_1783 (by assumption) (by omega) (by omega) k) ?_
  refine eq_ (fun _ k => ev_aload_n f154_1784 rfl k) ?_
  refine eq_ (fun _ k => ev_iload f154_1785 rfl k) ?_
  refine eq_ (fun _ k => ev_iconstN (n := 2) f154_1787 k) ?_
  first | refine eq_ (fun _ k => ev_iaddN f154_1788 k) ?_ | refine eq_ (fun _ k => ev_iadd f154_1788 k) ?_
  refine eq_ (fun _ k => ev_iald f154_1789 (by assumption) (by omega) (by omega) k) ?_
  refine eq_ (fun _ k => ev_aload_n f154_1790 rfl k) ?_
  refine eq_ (fun _ k => ev_sc [.ref 1, .int (xs (i + 1)), .int (xs (i + 2)), .ref 47] f154_1791 (Or.inl rfl) ow149 rfl rfl (catL rfl) (Nat.le_of_ble_eq_true rfl) k1 k) ?_
  refine eq_ (fun _ k => ev_istore f154_1794 k) ?_
  refine eq_ (fun _ k => ev_aload_n f154_1796 rfl k) ?_
  refine eq_ (fun _ k => ev_aload_n f154_1797 rfl k) ?_
  refine eq_ (fun _ k => ev_iload f154_1798 rfl k) ?_
  refine eq_ (fun _ k => ev_iconstN (n := 1) f154_1800 k) ?_
  first | refine eq_ (fun _ k => ev_iaddN f154_1801 k) ?_ | refine eq_ (fun _ k => ev_iadd f154_1801 k) ?_
  refine eq_ (fun _ k => ev_iald f154_1802 (by assumption) (by omega) (by omega) k) ?_
  refine eq_ (fun _ k => ev_aload_n f154_1803 rfl k) ?_
  refine eq_ (fun _ k => ev_iload f154_1804 rfl k) ?_
  refine eq_ (fun _ k => ev_iconstN (n := 2) f154_1806 k) ?_
  first | refine eq_ (fun _ k => ev_iaddN f154_1807 k) ?_ | refine eq_ (fun _ k => ev_iadd f154_1807 k) ?_
  refine eq_ (fun _ k => ev_iald f154_1808 (by assumption) (by omega) (by omega) k) ?_
  refine eq_ (fun _ k => ev_v2 f154_1809 ow120 (by assumption) rfl rfl (Nat.le_of_ble_eq_true rfl) (k2) k) ?_
  refine eq_ (fun _ k => ev_istore f154_1812 k) ?_
  clear y0 y1 y2 k1 k2
  have WW := W2
  obtain ⟨-, -, n2, F, n3, n4⟩ := WW
  have n1 := n2.1
  by_cases hk : k = 0
  · have hf2 : F 0 = blN w := n4.trans (hf hk)
    refine eq_ (fun _ k => ev_aload_n f154_1814 rfl k) ?_
    refine eq_ (fun _ k => ev_v0 f154_1815 ow78 (by assumption) (Nat.le_of_ble_eq_true rfl) (c78 n2) k) ?_
    refine eq_ (fun _ k => ev_iload f154_1818 rfl k) ?_
    refine eq_icN (by omega) (by omega) (tgt := 1825) f154_1820 rfl (fun _ => ?_) (fun h9 => absurd rfl h9)
    refine eq_ (fun _ k => ev_iload f154_1825 rfl k) ?_
    refine eq_ifN (by omega) (tgt := 1849) f154_1827 rfl (fun h9 => absurd h9 (fun h => h hk)) (fun _ => ?_)
    refine eq_ (fun _ k => ev_aload_n f154_1830 rfl k) ?_
    refine eq_ (fun _ k => ev_iconstN (n := 0) f154_1831 k) ?_
    refine eq_ (fun _ k => ev_lald f154_1832 (by assumption) (by omega) (by omega) k) ?_
    refine eq_ (fun _ k => ev_iload f154_1833 rfl k) ?_
    refine eq_if (tgt := 1842) f154_1835 rfl (fun hc => ?_) (fun hc => ?_)
    · have hc2 : w = 0 := hc
      have hf3 : F 0 = Int64.ofNat 0 := hf2.trans (if_pos hc2)
      refine eq_ (fun _ k => ev_lconst f154_1842 k) ?_
      refine eq_ (fun _ k => ev_lcmp f154_1843 k) ?_
      refine eq_if (tgt := 1849) f154_1844 rfl (fun _ => ?_) (fun hc => absurd ((lg_cmp_eq _ _).mpr hf3) hc)
      refine eq_ (fun _ k => ev_goto (tgt := 2112) f154_1849 rfl k) ?_
      exact kk _ _ _ _ _ _ _ _ _ W2 (by omega) (by omega)
    · have hc2 : ¬ w = 0 := hc
      have hf3 : F 0 = Int64.ofNat 1 := hf2.trans (if_neg hc2)
      refine eq_ (fun _ k => ev_lconst f154_1838 k) ?_
      refine eq_ (fun _ k => ev_goto (tgt := 1843) f154_1839 rfl k) ?_
      refine eq_ (fun _ k => ev_lcmp f154_1843 k) ?_
      refine eq_if (tgt := 1849) f154_1844 rfl (fun _ => ?_) (fun hc => absurd ((lg_cmp_eq _ _).mpr hf3) hc)
      refine eq_ (fun _ k => ev_goto (tgt := 2112) f154_1849 rfl k) ?_
      exact kk _ _ _ _ _ _ _ _ _ W2 (by omega) (by omega)
  · refine eq_ (fun _ k => ev_aload_n f154_1814 rfl k) ?_
    refine eq_ (fun _ k => ev_v0 f154_1815 ow78 (by assumption) (Nat.le_of_ble_eq_true rfl) (c78 n2) k) ?_
    refine eq_ (fun _ k => ev_iload f154_1818 rfl k) ?_
    refine eq_icN (by omega) (by omega) (tgt := 1825) f154_1820 rfl (fun _ => ?_) (fun h9 => absurd rfl h9)
    refine eq_ (fun _ k => ev_iload f154_1825 rfl k) ?_
    refine eq_ifN (by omega) (tgt := 1849) f154_1827 rfl (fun _ => ?_) (fun h9 => absurd hk h9)
    refine eq_ (fun _ k => ev_goto (tgt := 2112) f154_1849 rfl k) ?_
    exact kk _ _ _ _ _ _ _ _ _ W2 (by omega) (by omega)
theorem g26 (W : LW X q g q g l ov hs) (hX : X = .inl (.int, L, .inl xs)) (hi : i + 3 < L) (hL : L ≤ 2048) (A : AgrP 63 121 [.int (xs (i + 1)), .int (xs (i + 2))] K1 hs q g) (w5 w6 : Option Value) (kk : LwK X i c s Q) : EvQ 154 1852 (lwL i w5 w6) [] hs c s Q := by
  obtain ⟨dc, ds, k, hs1, w, hs2, q', g', ov', b1, b2, b3, k1, k2, ⟨fs, y1⟩, y0, W2, hf⟩ := out3 (X := X) (l := l) (ov := ov) (f := Int32.toInt64) A (fun _ _ _ a => h150 W a) (fun _ _ e a => h150x W e a)
  have y2 := W.1
  rw [hX] at y0 y2
  refine eq_ (fun _ k => ev_aload_n f154_1852 rfl k) ?_
  refine eq_ (fun _ k => ev_aload_n f154_1853 rfl k) ?_
  refine eq_ (fun _ k => ev_iload f154_1854 rfl k) ?_
  refine eq_ (fun _ k => ev_iconstN (n := 1) f154_1856 k) ?_
  first | refine eq_ (fun _ k => ev_iaddN f154_1857 k) ?_ | refine eq_ (fun _ k => ev_iadd f154_1857 k) ?_
  refine eq_ (fun _ k => ev_iald f154_1858 (by assumption) (by omega) (by omega) k) ?_
  refine eq_ (fun _ k => ev_aload_n f154_1859 rfl k) ?_
  refine eq_ (fun _ k => ev_iload f154_1860 rfl k) ?_
  refine eq_ (fun _ k => ev_iconstN (n := 2) f154_1862 k) ?_
  first | refine eq_ (fun _ k => ev_iaddN f154_1863 k) ?_ | refine eq_ (fun _ k => ev_iadd f154_1863 k) ?_
  refine eq_ (fun _ k => ev_iald f154_1864 (by assumption) (by omega) (by omega) k) ?_
  refine eq_ (fun _ k => ev_aload_n f154_1865 rfl k) ?_
  refine eq_ (fun _ k => ev_sc [.ref 1, .int (xs (i + 1)), .int (xs (i + 2)), .ref 47] f154_1866 (Or.inl rfl) ow150 rfl rfl (catL rfl) (Nat.le_of_ble_eq_true rfl) k1 k) ?_
  refine eq_ (fun _ k => ev_istore f154_1869 k) ?_
  refine eq_ (fun _ k => ev_aload_n f154_1871 rfl k) ?_
  refine eq_ (fun _ k => ev_aload_n f154_1872 rfl k) ?_
  refine eq_ (fun _ k => ev_iload f154_1873 rfl k) ?_
  refine eq_ (fun _ k => ev_iconstN (n := 1) f154_1875 k) ?_
  first | refine eq_ (fun _ k => ev_iaddN f154_1876 k) ?_ | refine eq_ (fun _ k => ev_iadd f154_1876 k) ?_
  refine eq_ (fun _ k => ev_iald f154_1877 (by assumption) (by omega) (by omega) k) ?_
  refine eq_ (fun _ k => ev_aload_n f154_1878 rfl k) ?_
  refine eq_ (fun _ k => ev_iload f154_1879 rfl k) ?_
  refine eq_ (fun _ k => ev_iconstN (n := 2) f154_1881 k) ?_
  first | refine eq_ (fun _ k => ev_iaddN f154_1882 k) ?_ | refine eq_ (fun _ k => ev_iadd f154_1882 k) ?_
  refine eq_ (fun _ k => ev_iald f154_1883 (by assumption) (by omega) (by omega) k) ?_
  refine eq_ (fun _ k => ev_v2 f154_1884 ow121 (by assumption) rfl rfl (Nat.le_of_ble_eq_true rfl) (k2) k) ?_
  refine eq_ (fun _ k => ev_istore f154_1887 k) ?_
  clear y0 y1 y2 k1 k2
  have WW := W2
  obtain ⟨-, -, n2, F, n3, n4⟩ := WW
  have n1 := n2.1
  by_cases hk : k = 0
  · have hf2 : F 0 = Int32.toInt64 w := n4.trans (hf hk)
    refine eq_ (fun _ k => ev_aload_n f154_1889 rfl k) ?_
    refine eq_ (fun _ k => ev_v0 f154_1890 ow78 (by assumption) (Nat.le_of_ble_eq_true rfl) (c78 n2) k) ?_
    refine eq_ (fun _ k => ev_iload f154_1893 rfl k) ?_
    refine eq_icN (by omega) (by omega) (tgt := 1900) f154_1895 rfl (fun _ => ?_) (fun h9 => absurd rfl h9)
    refine eq_ (fun _ k => ev_iload f154_1900 rfl k) ?_
    refine eq_ifN (by omega) (tgt := 1917) f154_1902 rfl (fun h9 => absurd h9 (fun h => h hk)) (fun _ => ?_)
    refine eq_ (fun _ k => ev_aload_n f154_1905 rfl k) ?_
    refine eq_ (fun _ k => ev_iconstN (n := 0) f154_1906 k) ?_
    refine eq_ (fun _ k => ev_lald f154_1907 (by assumption) (by omega) (by omega) k) ?_
    refine eq_ (fun _ k => ev_iload f154_1908 rfl k) ?_
    refine eq_ (fun _ k => ev_i2l f154_1910 k) ?_
    refine eq_ (fun _ k => ev_lcmp f154_1911 k) ?_
    refine eq_if (tgt := 1917) f154_1912 rfl (fun _ => ?_) (fun hc => absurd ((lg_cmp_eq _ _).mpr hf2) hc)
    refine eq_ (fun _ k => ev_goto (tgt := 2112) f154_1917 rfl k) ?_
    exact kk _ _ _ _ _ _ _ _ _ W2 (by omega) (by omega)
  · refine eq_ (fun _ k => ev_aload_n f154_1889 rfl k) ?_
    refine eq_ (fun _ k => ev_v0 f154_1890 ow78 (by assumption) (Nat.le_of_ble_eq_true rfl) (c78 n2) k) ?_
    refine eq_ (fun _ k => ev_iload f154_1893 rfl k) ?_
    refine eq_icN (by omega) (by omega) (tgt := 1900) f154_1895 rfl (fun _ => ?_) (fun h9 => absurd rfl h9)
    refine eq_ (fun _ k => ev_iload f154_1900 rfl k) ?_
    refine eq_ifN (by omega) (tgt := 1917) f154_1902 rfl (fun _ => ?_) (fun h9 => absurd hk h9)
    refine eq_ (fun _ k => ev_goto (tgt := 2112) f154_1917 rfl k) ?_
    exact kk _ _ _ _ _ _ _ _ _ W2 (by omega) (by omega)
theorem g27 (W : LW X q g q g l ov hs) (hX : X = .inl (.int, L, .inl xs)) (hi : i + 3 < L) (hL : L ≤ 2048) (A : AgrP 64 122 [.int (xs (i + 1)), .int (xs (i + 2))] K1 hs q g) (w5 w6 : Option Value) (kk : LwK X i c s Q) : EvQ 154 1920 (lwL i w5 w6) [] hs c s Q := by
  obtain ⟨dc, ds, k, hs1, w, hs2, q', g', ov', b1, b2, b3, k1, k2, ⟨fs, y1⟩, y0, W2, hf⟩ := out3 (X := X) (l := l) (ov := ov) (f := Int32.toInt64) A (fun _ _ _ a => h151 W a) (fun _ _ e a => h151x W e a)
  have y2 := W.1
  rw [hX] at y0 y2
  refine eq_ (fun _ k => ev_aload_n f154_1920 rfl k) ?_
  refine eq_ (fun _ k => ev_aload_n f154_1921 rfl k) ?_
  refine eq_ (fun _ k => ev_iload f154_1922 rfl k) ?_
  refine eq_ (fun _ k => ev_iconstN (n := 1) f154_1924 k) ?_
  first | refine eq_ (fun _ k => ev_iaddN f154_1925 k) ?_ | refine eq_ (fun _ k => ev_iadd f154_1925 k) ?_
  refine eq_ (fun _ k => ev_iald f154_1926 (by assumption) (by omega) (by omega) k) ?_
  refine eq_ (fun _ k => ev_aload_n f154_1927 rfl k) ?_
  refine eq_ (fun _ k => ev_iload f154_1928 rfl k) ?_
  refine eq_ (fun _ k => ev_iconstN (n := 2) f154_1930 k) ?_
  first | refine eq_ (fun _ k => ev_iaddN f154_1931 k) ?_ | refine eq_ (fun _ k => ev_iadd f154_1931 k) ?_
  refine eq_ (fun _ k => ev_iald f154_1932 (by assumption) (by omega) (by omega) k) ?_
  refine eq_ (fun _ k => ev_aload_n f154_1933 rfl k) ?_
  refine eq_ (fun _ k => ev_sc [.ref 1, .int (xs (i + 1)), .int (xs (i + 2)), .ref 47] f154_1934 (Or.inl rfl) ow151 rfl rfl (catL rfl) (Nat.le_of_ble_eq_true rfl) k1 k) ?_
  refine eq_ (fun _ k => ev_istore f154_1937 k) ?_
  refine eq_ (fun _ k => ev_aload_n f154_1939 rfl k) ?_
  refine eq_ (fun _ k => ev_aload_n f154_1940 rfl k) ?_
  refine eq_ (fun _ k => ev_iload f154_1941 rfl k) ?_
  refine eq_ (fun _ k => ev_iconstN (n := 1) f154_1943 k) ?_
  first | refine eq_ (fun _ k => ev_iaddN f154_1944 k) ?_ | refine eq_ (fun _ k => ev_iadd f154_1944 k) ?_
  refine eq_ (fun _ k => ev_iald f154_1945 (by assumption) (by omega) (by omega) k) ?_
  refine eq_ (fun _ k => ev_aload_n f154_1946 rfl k) ?_
  refine eq_ (fun _ k => ev_iload f154_1947 rfl k) ?_
  refine eq_ (fun _ k => ev_iconstN (n := 2) f154_1949 k) ?_
  first | refine eq_ (fun _ k => ev_iaddN f154_1950 k) ?_ | refine eq_ (fun _ k => ev_iadd f154_1950 k) ?_
  refine eq_ (fun _ k => ev_iald f154_1951 (by assumption) (by omega) (by omega) k) ?_
  refine eq_ (fun _ k => ev_v2 f154_1952 ow122 (by assumption) rfl rfl (Nat.le_of_ble_eq_true rfl) (k2) k) ?_
  refine eq_ (fun _ k => ev_istore f154_1955 k) ?_
  clear y0 y1 y2 k1 k2
  have WW := W2
  obtain ⟨-, -, n2, F, n3, n4⟩ := WW
  have n1 := n2.1
  by_cases hk : k = 0
  · have hf2 : F 0 = Int32.toInt64 w := n4.trans (hf hk)
    refine eq_ (fun _ k => ev_aload_n f154_1957 rfl k) ?_
    refine eq_ (fun _ k => ev_v0 f154_1958 ow78 (by assumption) (Nat.le_of_ble_eq_true rfl) (c78 n2) k) ?_
    refine eq_ (fun _ k => ev_iload f154_1961 rfl k) ?_
    refine eq_icN (by omega) (by omega) (tgt := 1968) f154_1963 rfl (fun _ => ?_) (fun h9 => absurd rfl h9)
    refine eq_ (fun _ k => ev_iload f154_1968 rfl k) ?_
    refine eq_ifN (by omega) (tgt := 1985) f154_1970 rfl (fun h9 => absurd h9 (fun h => h hk)) (fun _ => ?_)
    refine eq_ (fun _ k => ev_aload_n f154_1973 rfl k) ?_
    refine eq_ (fun _ k => ev_iconstN (n := 0) f154_1974 k) ?_
    refine eq_ (fun _ k => ev_lald f154_1975 (by assumption) (by omega) (by omega) k) ?_
    refine eq_ (fun _ k => ev_iload f154_1976 rfl k) ?_
    refine eq_ (fun _ k => ev_i2l f154_1978 k) ?_
    refine eq_ (fun _ k => ev_lcmp f154_1979 k) ?_
    refine eq_if (tgt := 1985) f154_1980 rfl (fun _ => ?_) (fun hc => absurd ((lg_cmp_eq _ _).mpr hf2) hc)
    refine eq_ (fun _ k => ev_goto (tgt := 2112) f154_1985 rfl k) ?_
    exact kk _ _ _ _ _ _ _ _ _ W2 (by omega) (by omega)
  · refine eq_ (fun _ k => ev_aload_n f154_1957 rfl k) ?_
    refine eq_ (fun _ k => ev_v0 f154_1958 ow78 (by assumption) (Nat.le_of_ble_eq_true rfl) (c78 n2) k) ?_
    refine eq_ (fun _ k => ev_iload f154_1961 rfl k) ?_
    refine eq_icN (by omega) (by omega) (tgt := 1968) f154_1963 rfl (fun _ => ?_) (fun h9 => absurd rfl h9)
    refine eq_ (fun _ k => ev_iload f154_1968 rfl k) ?_
    refine eq_ifN (by omega) (tgt := 1985) f154_1970 rfl (fun _ => ?_) (fun h9 => absurd hk h9)
    refine eq_ (fun _ k => ev_goto (tgt := 2112) f154_1985 rfl k) ?_
    exact kk _ _ _ _ _ _ _ _ _ W2 (by omega) (by omega)
theorem g28 (W : LW X q g q g l ov hs) (hX : X = .inl (.int, L, .inl xs)) (hi : i + 3 < L) (hL : L ≤ 2048) (A : AgrP 65 123 [.int (xs (i + 1)), .int (xs (i + 2))] K1 hs q g) (w5 w6 : Option Value) (kk : LwK X i c s Q) : EvQ 154 1988 (lwL i w5 w6) [] hs c s Q := by
  obtain ⟨dc, ds, k, hs1, w, hs2, q', g', ov', b1, b2, b3, k1, k2, ⟨fs, y1⟩, y0, W2, hf⟩ := out3 (X := X) (l := l) (ov := ov) (f := Int32.toInt64) A (fun _ _ _ a => h152 W a) (fun _ _ e a => h152x W e a)
  have y2 := W.1
  rw [hX] at y0 y2
  refine eq_ (fun _ k => ev_aload_n f154_1988 rfl k) ?_
  refine eq_ (fun _ k => ev_aload_n f154_1989 rfl k) ?_
  refine eq_ (fun _ k => ev_iload f154_1990 rfl k) ?_
  refine eq_ (fun _ k => ev_iconstN (n := 1) f154_1992 k) ?_
  first | refine eq_ (fun _ k => ev_iaddN f154_1993 k) ?_ | refine eq_ (fun _ k => ev_iadd f154_1993 k) ?_
  refine eq_ (fun _ k => ev_iald f154_1994 (by assumption) (by omega) (by omega) k) ?_
  refine eq_ (fun _ k => ev_aload_n f154_1995 rfl k) ?_
  refine eq_ (fun _ k => ev_iload f154_1996 rfl k) ?_
  refine eq_ (fun _ k => ev_iconstN (n := 2) f154_1998 k) ?_
  first | refine eq_ (fun _ k => ev_iaddN f154_1999 k) ?_ | refine eq_ (fun _ k => ev_iadd f154_1999 k) ?_
  refine eq_ (fun _ k => ev_iald f154_2000 (by assumption) (by omega) (by omega) k) ?_
  refine eq_ (fun _ k => ev_aload_n f154_2001 rfl k) ?_
  refine eq_ (fun _ k => ev_sc [.ref 1, .int (xs (i + 1)), .int (xs (i + 2)), .ref 47] f154_2002 (Or.inl rfl) ow152 rfl rfl (catL rfl) (Nat.le_of_ble_eq_true rfl) k1 k) ?_
  refine eq_ (fun _ k => ev_istore f154_2005 k) ?_
  refine eq_ (fun _ k => ev_aload_n f154_2007 rfl k) ?_
  refine eq_ (fun _ k => ev_aload_n f154_2008 rfl k) ?_
  refine eq_ (fun _ k => ev_iload f154_2009 rfl k) ?_
  refine eq_ (fun _ k => ev_iconstN (n := 1) f154_2011 k) ?_
  first | refine eq_ (fun _ k => ev_iaddN f154_2012 k) ?_ | refine eq_ (fun _ k => ev_iadd f154_2012 k) ?_
  refine eq_ (fun _ k => ev_iald f154_2013 (by assumption) (by omega) (by omega) k) ?_
  refine eq_ (fun _ k => ev_aload_n f154_2014 rfl k) ?_
  refine eq_ (fun _ k => ev_iload f154_2015 rfl k) ?_
  refine eq_ (fun _ k => ev_iconstN (n := 2) f154_2017 k) ?_
  first | refine eq_ (fun _ k => ev_iaddN f154_2018 k) ?_ | refine eq_ (fun _ k => ev_iadd f154_2018 k) ?_
  refine eq_ (fun _ k => ev_iald f154_2019 (by assumption) (by omega) (by omega) k) ?_
  refine eq_ (fun _ k => ev_v2 f154_2020 ow123 (by assumption) rfl rfl (Nat.le_of_ble_eq_true rfl) (k2) k) ?_
  refine eq_ (fun _ k => ev_istore f154_2023 k) ?_
  clear y0 y1 y2 k1 k2
  have WW := W2
  obtain ⟨-, -, n2, F, n3, n4⟩ := WW
  have n1 := n2.1
  by_cases hk : k = 0
  · have hf2 : F 0 = Int32.toInt64 w := n4.trans (hf hk)
    refine eq_ (fun _ k => ev_aload_n f154_2025 rfl k) ?_
    refine eq_ (fun _ k => ev_v0 f154_2026 ow78 (by assumption) (Nat.le_of_ble_eq_true rfl) (c78 n2) k) ?_
    refine eq_ (fun _ k => ev_iload f154_2029 rfl k) ?_
    refine eq_icN (by omega) (by omega) (tgt := 2036) f154_2031 rfl (fun _ => ?_) (fun h9 => absurd rfl h9)
    refine eq_ (fun _ k => ev_iload f154_2036 rfl k) ?_
    refine eq_ifN (by omega) (tgt := 2053) f154_2038 rfl (fun h9 => absurd h9 (fun h => h hk)) (fun _ => ?_)
    refine eq_ (fun _ k => ev_aload_n f154_2041 rfl k) ?_
    refine eq_ (fun _ k => ev_iconstN (n := 0) f154_2042 k) ?_
    refine eq_ (fun _ k => ev_lald f154_2043 (by assumption) (by omega) (by omega) k) ?_
    refine eq_ (fun _ k => ev_iload f154_2044 rfl k) ?_
    refine eq_ (fun _ k => ev_i2l f154_2046 k) ?_
    refine eq_ (fun _ k => ev_lcmp f154_2047 k) ?_
    refine eq_if (tgt := 2053) f154_2048 rfl (fun _ => ?_) (fun hc => absurd ((lg_cmp_eq _ _).mpr hf2) hc)
    refine eq_ (fun _ k => ev_goto (tgt := 2112) f154_2053 rfl k) ?_
    exact kk _ _ _ _ _ _ _ _ _ W2 (by omega) (by omega)
  · refine eq_ (fun _ k => ev_aload_n f154_2025 rfl k) ?_
    refine eq_ (fun _ k => ev_v0 f154_2026 ow78 (by assumption) (Nat.le_of_ble_eq_true rfl) (c78 n2) k) ?_
    refine eq_ (fun _ k => ev_iload f154_2029 rfl k) ?_
    refine eq_icN (by omega) (by omega) (tgt := 2036) f154_2031 rfl (fun _ => ?_) (fun h9 => absurd rfl h9)
    refine eq_ (fun _ k => ev_iload f154_2036 rfl k) ?_
    refine eq_ifN (by omega) (tgt := 2053) f154_2038 rfl (fun _ => ?_) (fun h9 => absurd hk h9)
    refine eq_ (fun _ k => ev_goto (tgt := 2112) f154_2053 rfl k) ?_
    exact kk _ _ _ _ _ _ _ _ _ W2 (by omega) (by omega)
theorem g29 (W : LW X q g q g l ov hs) (hX : X = .inl (.int, L, .inl xs)) (hi : i + 3 < L) (hL : L ≤ 2048) (A : AgrP 66 124 [.int (xs (i + 1))] K1 hs q g) (w5 w6 : Option Value) (kk : LwK X i c s Q) : EvQ 154 2056 (lwL i w5 w6) [] hs c s Q := by
  obtain ⟨dc, ds, k, hs1, w, hs2, q', g', ov', b1, b2, b3, k1, k2, ⟨fs, y1⟩, y0, W2, hf⟩ := out3 (X := X) (l := l) (ov := ov) (f := Int32.toInt64) A (fun _ _ _ a => h153 W a) (fun _ _ e a => h153x W e a)
  have y2 := W.1
  rw [hX] at y0 y2
  refine eq_ (fun _ k => ev_aload_n f154_2056 rfl k) ?_
  refine eq_ (fun _ k => ev_aload_n f154_2057 rfl k) ?_
  refine eq_ (fun _ k => ev_iload f154_2058 rfl k) ?_
  refine eq_ (fun _ k => ev_iconstN (n := 1) f154_2060 k) ?_
  first | refine eq_ (fun _ k => ev_iaddN f154_2061 k) ?_ | refine eq_ (fun _ k => ev_iadd f154_2061 k) ?_
  refine eq_ (fun _ k => ev_iald f154_2062 (by assumption) (by omega) (by omega) k) ?_
  refine eq_ (fun _ k => ev_aload_n f154_2063 rfl k) ?_
  refine eq_ (fun _ k => ev_sc [.ref 1, .int (xs (i + 1)), .ref 47] f154_2064 (Or.inl rfl) ow153 rfl rfl (catL rfl) (Nat.le_of_ble_eq_true rfl) k1 k) ?_
  refine eq_ (fun _ k => ev_istore f154_2067 k) ?_
  refine eq_ (fun _ k => ev_aload_n f154_2069 rfl k) ?_
  refine eq_ (fun _ k => ev_aload_n f154_2070 rfl k) ?_
  refine eq_ (fun _ k => ev_iload f154_2071 rfl k) ?_
  refine eq_ (fun _ k => ev_iconstN (n := 1) f154_2073 k) ?_
  first | refine eq_ (fun _ k => ev_iaddN f154_2074 k) ?_ | refine eq_ (fun _ k => ev_iadd f154_2074 k) ?_
  refine eq_ (fun _ k => ev_iald f154_2075 (by assumption) (by omega) (by omega) k) ?_
  refine eq_ (fun _ k => ev_v1 f154_2076 ow124 (by assumption) rfl (Nat.le_of_ble_eq_true rfl) (k2) k) ?_
  refine eq_ (fun _ k => ev_istore f154_2079 k) ?_
  clear y0 y1 y2 k1 k2
  have WW := W2
  obtain ⟨-, -, n2, F, n3, n4⟩ := WW
  have n1 := n2.1
  by_cases hk : k = 0
  · have hf2 : F 0 = Int32.toInt64 w := n4.trans (hf hk)
    refine eq_ (fun _ k => ev_aload_n f154_2081 rfl k) ?_
    refine eq_ (fun _ k => ev_v0 f154_2082 ow78 (by assumption) (Nat.le_of_ble_eq_true rfl) (c78 n2) k) ?_
    refine eq_ (fun _ k => ev_iload f154_2085 rfl k) ?_
    refine eq_icN (by omega) (by omega) (tgt := 2092) f154_2087 rfl (fun _ => ?_) (fun h9 => absurd rfl h9)
    refine eq_ (fun _ k => ev_iload f154_2092 rfl k) ?_
    refine eq_ifN (by omega) (tgt := 2109) f154_2094 rfl (fun h9 => absurd h9 (fun h => h hk)) (fun _ => ?_)
    refine eq_ (fun _ k => ev_aload_n f154_2097 rfl k) ?_
    refine eq_ (fun _ k => ev_iconstN (n := 0) f154_2098 k) ?_
    refine eq_ (fun _ k => ev_lald f154_2099 (by assumption) (by omega) (by omega) k) ?_
    refine eq_ (fun _ k => ev_iload f154_2100 rfl k) ?_
    refine eq_ (fun _ k => ev_i2l f154_2102 k) ?_
    refine eq_ (fun _ k => ev_lcmp f154_2103 k) ?_
    refine eq_if (tgt := 2109) f154_2104 rfl (fun _ => ?_) (fun hc => absurd ((lg_cmp_eq _ _).mpr hf2) hc)
    refine eq_ (fun _ k => ev_goto (tgt := 2112) f154_2109 rfl k) ?_
    exact kk _ _ _ _ _ _ _ _ _ W2 (by omega) (by omega)
  · refine eq_ (fun _ k => ev_aload_n f154_2081 rfl k) ?_
    refine eq_ (fun _ k => ev_v0 f154_2082 ow78 (by assumption) (Nat.le_of_ble_eq_true rfl) (c78 n2) k) ?_
    refine eq_ (fun _ k => ev_iload f154_2085 rfl k) ?_
    refine eq_icN (by omega) (by omega) (tgt := 2092) f154_2087 rfl (fun _ => ?_) (fun h9 => absurd rfl h9)
    refine eq_ (fun _ k => ev_iload f154_2092 rfl k) ?_
    refine eq_ifN (by omega) (tgt := 2109) f154_2094 rfl (fun _ => ?_) (fun h9 => absurd hk h9)
    refine eq_ (fun _ k => ev_goto (tgt := 2112) f154_2109 rfl k) ?_
    exact kk _ _ _ _ _ _ _ _ _ W2 (by omega) (by omega)
theorem g0 (W : LW X q g q g l ov hs) (hX : X = .inl (.int, L, .inl xs)) (hi : i + 3 < L) (hL : L ≤ 2048) (w5 w6 : Option Value) (kk : LwK X i c s Q) : EvQ 154 172 (lwL i w5 w6) [] hs c s Q := by
  obtain ⟨hs1, k1, W1⟩ := W.mod (c93 (key := xs (i + 1)) W.2.2.1)
  have y2 := W.1
  have y1 := W1.1
  rw [hX] at y1 y2
  have x1 := W.2.1.1
  have x2 := W.2.2.1.1
  have hp := prN_lt (xs (i + 1))
  refine eq_ (fun _ k => ev_aload_n f154_172 rfl k) ?_
  refine eq_ (fun _ k => ev_aload_n f154_173 rfl k) ?_
  refine eq_ (fun _ k => ev_iload f154_174 rfl k) ?_
  refine eq_ (fun _ k => ev_iconstN (n := 1) f154_176 k) ?_
  first | refine eq_ (fun _ k => ev_iaddN f154_177 k) ?_ | refine eq_ (fun _ k => ev_iadd f154_177 k) ?_
  refine eq_ (fun _ k => ev_iald f154_178 (by assumption) (by omega) (by omega) k) ?_
  refine eq_ (fun _ k => ev_v1 f154_179 ow37 (by assumption) rfl (Nat.le_of_ble_eq_true rfl) (c37 1 (xs (i + 1))) k) ?_
  refine eq_ (fun _ k => ev_aload_n f154_182 rfl k) ?_
  refine eq_ (fun _ k => ev_aload_n f154_183 rfl k) ?_
  refine eq_ (fun _ k => ev_iload f154_184 rfl k) ?_
  refine eq_ (fun _ k => ev_iconstN (n := 1) f154_186 k) ?_
  first | refine eq_ (fun _ k => ev_iaddN f154_187 k) ?_ | refine eq_ (fun _ k => ev_iadd f154_187 k) ?_
  refine eq_ (fun _ k => ev_iald f154_188 (by assumption) (by omega) (by omega) k) ?_
  refine eq_ (fun _ k => ev_v1 f154_189 ow93 (by assumption) rfl (Nat.le_of_ble_eq_true rfl) (k1) k) ?_
  refine eq_icN (by omega) (by omega) (tgt := 2112) f154_192 rfl (fun _ => ?_) (fun h9 => absurd rfl h9)
  exact kk _ _ _ _ _ _ _ _ _ W1 (by omega) (by omega)
end LC
