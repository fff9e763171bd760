/-! the law's holds, isHeld, law; rows laid by wip/p33/walk.py -/
def LQ : amOut → Prop := fun o => ∃ hs' c s, o = (.inl (some (.int (nI 1))), hs', c, s) ∧ c ≤ 600130 ∧ s ≤ 7301080
/-- what holds between two steps -/
def StQ (X : amC) (P : Nat → Nat) (hs : amH) : Prop := ∃ q g C, LW X q g P C q hs ∧ GI g P C ∧ (∀ j, C j < 2 ^ 20) ∧ 42 ≤ hs.length
theorem StP.q {X : amC} {P : Nat → Nat} {N : Nat} {hs : amH} (h : StP X P N hs) (hN : 42 ≤ N) : StQ X P hs := by
  obtain ⟨q, g, C, h1, h2, h3, h4⟩ := h
  exact ⟨q, g, C, h1, h2, h3, by omega⟩
def opZ (_ _ : Nat) : Nat := 0
abbrev hL (st fi b e : Nat) (w9 w10 w11 w12 w13 : Option Value) : amL := [some (.ref 0), some (.ref 1), some (.ref 39), some (.ref 40), some (.ref 41), some (.int (nI st)), some (.int (nI fi)), some (.int (nI b)), some (.int (nI e)), w9, w10, w11, w12, w13]
section HO
variable {L : Nat} {xs : Nat → Int32} {P : Nat → Nat} {st fi : Nat}
/-- the second half of a turn -/
theorem l96b {X : amC} {hs : amH} {c s e f : Nat} {w9 w11 w12 w13 : Option Value} {R : amOut → Prop} (hp : PI P) (S : StQ X P hs) (he : e < 120) (hf : f < 4) (kk : ∀ hs' c' s', StQ X P hs' → c' ≤ c + 1 → s' ≤ s + 32 → EvQ 96 170 (hL st fi 1 (e + 1) w9 (some (.int (nI f))) w11 w12 w13) [] hs' c' s' R) : EvQ 96 342 (hL st fi true.toNat e w9 (some (.int (nI f))) w11 w12 w13) [] hs c s R := by
  obtain ⟨q, g, C, W, G, hC, hl⟩ := S
  have same : ∀ hs1 c1 s1, LW X q g P C q hs1 → 42 ≤ hs1.length → c1 ≤ c + 1 → s1 ≤ s + 32 → EvQ 96 368 (hL st fi true.toNat e w9 (some (.int (nI f))) w11 w12 w13) [] hs1 c1 s1 R := by
    intro hs1 c1 s1 W1 l1 b1 b2
    by_cases w : e % 10 < 9
    · refine eq_ (fun _ k => ev_iload f96_368 rfl k) ?_
      refine eq_ (fun _ k => ev_bipushN (n := 10) (by omega) f96_370 k) ?_
      refine eq_ (fun _ k => ev_iremN (by omega) (by omega) (by omega) f96_372 k) ?_
      refine eq_ (fun _ k => ev_bipushN (n := 9) (by omega) f96_373 k) ?_
      refine eq_icN (by omega) (by omega) (tgt := 386) f96_375 rfl (fun _ => ?_) (fun h9 => absurd (by simp only [akN] at *; omega) h9)
      refine eq_ (fun _ k => ev_iconstN (n := 1) f96_386 k) ?_
      refine eq_ (fun _ k => ev_goto (tgt := 391) f96_387 rfl k) ?_
      refine eq_ (fun _ k => ev_istore f96_391 k) ?_
      refine eq_ (fun _ k => ev_iincN (d := 1) f96_393 rfl k) ?_
      refine eq_ (fun _ k => ev_goto (tgt := 170) f96_396 rfl k) ?_
      exact kk hs1 _ _ ⟨q, g, C, W1, G, hC, l1⟩ b1 b2
    · obtain ⟨hs2, k2, W2, F2⟩ := c86 W1 hC hp G
      refine eq_ (fun _ k => ev_iload f96_368 rfl k) ?_
      refine eq_ (fun _ k => ev_bipushN (n := 10) (by omega) f96_370 k) ?_
      refine eq_ (fun _ k => ev_iremN (by omega) (by omega) (by omega) f96_372 k) ?_
      refine eq_ (fun _ k => ev_bipushN (n := 9) (by omega) f96_373 k) ?_
      refine eq_icN (by omega) (by omega) (tgt := 386) f96_375 rfl (fun h9 => absurd h9 (by simp only [akN] at *; omega)) (fun _ => ?_)
      refine eq_ (fun _ k => ev_aload_n f96_378 rfl k) ?_
      refine eq_ (fun _ k => ev_aload_n f96_379 rfl k) ?_
      refine eq_ (fun _ k => ev_s2 f96_380 (by decide) ow86 rfl rfl (Nat.le_of_ble_eq_true rfl) (k2) k) ?_
      refine eq_ifeqB (tgt := 390) f96_383 rfl (fun h9 => Bool.noConfusion (h9.symm.trans (rfl))) (fun _ => ?_)
      refine eq_ (fun _ k => ev_iconstN (n := 1) f96_386 k) ?_
      refine eq_ (fun _ k => ev_goto (tgt := 391) f96_387 rfl k) ?_
      refine eq_ (fun _ k => ev_istore f96_391 k) ?_
      refine eq_ (fun _ k => ev_iincN (d := 1) f96_393 rfl k) ?_
      refine eq_ (fun _ k => ev_goto (tgt := 170) f96_396 rfl k) ?_
      exact kk hs2 _ _ ⟨q, g, C, W2, G, hC, by have := F2.1; omega⟩ b1 b2
  by_cases w : e % 3 < 2
  · refine eq_ (fun _ k => ev_iload f96_342 rfl k) ?_
    refine eq_ifeqB (tgt := 390) f96_344 rfl (fun h9 => Bool.noConfusion (h9.symm.trans (rfl))) (fun _ => ?_)
    refine eq_ (fun _ k => ev_iload f96_347 rfl k) ?_
    refine eq_ (fun _ k => ev_iconstN (n := 3) f96_349 k) ?_
    refine eq_ (fun _ k => ev_iremN (by omega) (by omega) (by omega) f96_350 k) ?_
    refine eq_ (fun _ k => ev_iconstN (n := 2) f96_351 k) ?_
    refine eq_icN (by omega) (by omega) (tgt := 368) f96_352 rfl (fun _ => ?_) (fun h9 => absurd (by simp only [akN] at *; omega) h9)
    exact same hs _ _ W hl (by omega) (by omega)
  · obtain ⟨hs1, dc, ds, k1, b1, b2, W1, l1⟩ := c85 W hl hC hp G hf
    refine eq_ (fun _ k => ev_iload f96_342 rfl k) ?_
    refine eq_ifeqB (tgt := 390) f96_344 rfl (fun h9 => Bool.noConfusion (h9.symm.trans (rfl))) (fun _ => ?_)
    refine eq_ (fun _ k => ev_iload f96_347 rfl k) ?_
    refine eq_ (fun _ k => ev_iconstN (n := 3) f96_349 k) ?_
    refine eq_ (fun _ k => ev_iremN (by omega) (by omega) (by omega) f96_350 k) ?_
    refine eq_ (fun _ k => ev_iconstN (n := 2) f96_351 k) ?_
    refine eq_icN (by omega) (by omega) (tgt := 368) f96_352 rfl (fun h9 => absurd h9 (by simp only [akN] at *; omega)) (fun _ => ?_)
    refine eq_ (fun _ k => ev_aload_n f96_355 rfl k) ?_
    refine eq_ (fun _ k => ev_aload_n f96_356 rfl k) ?_
    refine eq_ (fun _ k => ev_aload_n f96_357 rfl k) ?_
    refine eq_ (fun _ k => ev_aload f96_358 rfl k) ?_
    refine eq_ (fun _ k => ev_iload f96_360 rfl k) ?_
    refine eq_ (fun _ k => ev_s5c f96_362 (by decide) ow85 rfl rfl rfl rfl rfl (Nat.le_of_ble_eq_true rfl) (k1) k) ?_
    refine eq_ifeqB (tgt := 390) f96_365 rfl (fun h9 => Bool.noConfusion (h9.symm.trans (rfl))) (fun _ => ?_)
    exact same hs1 _ _ W1 l1 (by omega) (by omega)
theorem l96z {X : amC} {q : Nat → Nat} {g : Nat → Nat → Nat} {C : Nat → Nat} {c s e f N : Nat} {w9 w11 w12 : Option Value} {R : amOut → Prop} (hf : f < 4) (kk : ∀ hs w13, LW X q g P (upC C f f opZ 15) q hs → hs.length = N → EvQ 96 342 (hL st fi 1 e w9 (some (.int (nI f))) w11 w12 w13) [] hs c s R) : ∀ d i hs, i + d = 15 → LW X q g P (upC C f f opZ i) q hs → hs.length = N → EvQ 96 260 (hL st fi 1 e w9 (some (.int (nI f))) w11 w12 (some (.int (nI i)))) [] hs c s R := by
  intro d
  induction d with
  | zero =>
    intro i hs hi W hN
    have e1 : i = 15 := by omega
    subst e1
    refine eq_ (fun _ k => ev_iload f96_260 rfl k) ?_
    refine eq_ (fun _ k => ev_bipushN (n := 15) (by omega) f96_262 k) ?_
    refine eq_icN (by omega) (by omega) (tgt := 284) f96_264 rfl (fun _ => ?_) (fun h9 => absurd (by simp only [akN] at *; omega) h9)
    refine eq_ (fun _ k => ev_goto (tgt := 342) f96_284 rfl k) ?_
    exact kk hs _ W hN
  | succ d ih =>
    intro i hs hi W hN
    have w3 := W.2.2.2.1
    refine eq_ (fun _ k => ev_iload f96_260 rfl k) ?_
    refine eq_ (fun _ k => ev_bipushN (n := 15) (by omega) f96_262 k) ?_
    refine eq_icN (by omega) (by omega) (tgt := 284) f96_264 rfl (fun h9 => absurd h9 (by simp only [akN] at *; omega)) (fun _ => ?_)
    refine eq_ (fun _ k => ev_aload_n f96_267 rfl k) ?_
    refine eq_ (fun _ k => ev_bipushN (n := 16) (by omega) f96_268 k) ?_
    refine eq_ (fun _ k => ev_iload f96_270 rfl k) ?_
    first | refine eq_ (fun _ k => ev_imulN f96_272 k) ?_ | refine eq_ (fun _ k => ev_imul f96_272 k) ?_
    refine eq_ (fun _ k => ev_iload f96_273 rfl k) ?_
    first | refine eq_ (fun _ k => ev_iaddN f96_275 k) ?_ | refine eq_ (fun _ k => ev_iadd f96_275 k) ?_
    refine eq_ (fun _ k => ev_iconstN (n := 0) f96_276 k) ?_
    refine eq_iast f96_277 (by assumption) (by omega) (by omega) (by omega) (fun hs1 e1 => ?_)
    rw [upd_N] at e1
    have W1 : LW X q g P (upC C f f opZ (i + 1)) q hs1 := W.set40 e1
    have l1 : hs1.length = N := am_stl e1 hN
    have i2 := ih (i + 1) hs1 (by omega) W1 l1
    refine eq_ (fun _ k => ev_iincN (d := 1) f96_278 rfl k) ?_
    refine eq_ (fun _ k => ev_goto (tgt := 260) f96_281 rfl k) ?_
    exact i2
theorem l96 (hL2 : L ≤ 260) (hp : PI P) : ∀ d e hs c s w9 w10 w11 w12 w13, e + d = 120 → c + 2 * d ≤ 600130 → s + 38 * d ≤ 7301080 → StQ (.inl (.int, L, .inl xs)) P hs → EvQ 96 170 (hL st fi 1 e w9 w10 w11 w12 w13) [] hs c s LQ := by
  intro d
  induction d with
  | zero =>
    intro e hs c s w9 w10 w11 w12 w13 he hc hs2 S
    have e1 : e = 120 := by omega
    subst e1
    refine eq_ (fun _ k => ev_iload f96_170 rfl k) ?_
    refine eq_ (fun _ k => ev_bipushN (n := 120) (by omega) f96_172 k) ?_
    refine eq_icN (by omega) (by omega) (tgt := 399) f96_174 rfl (fun _ => ?_) (fun h9 => absurd (by simp only [akN] at *; omega) h9)
    refine eq_ (fun _ k => ev_iload f96_399 rfl k) ?_
    first | refine ⟨_, ev_iret f96_401 (rZ rfl true) rfl, ?_⟩ | refine ⟨_, ev_iret f96_401 (rZ rfl false) rfl, ?_⟩ | refine ⟨_, ev_iret f96_401 (rZ rfl _) rfl, ?_⟩
    exact ⟨hs, c, s, rfl, by omega, by omega⟩
  | succ d ih =>
    intro e hs c s w9 w10 w11 w12 w13 he hc hs2 S
    obtain ⟨q, g, C, W, G, hC, hl⟩ := S
    have h0 := W.1
    obtain ⟨way, a1, k1⟩ := c77 (k := 4 * e + 2) (b := 19) h0 hL2 (by omega) (by omega) (by omega)
    obtain ⟨f, a2, k2⟩ := c77 (k := 4 * e + 3) (b := 4) h0 hL2 (by omega) (by omega) (by omega)
    obtain ⟨i, a3, k3⟩ := c77 (k := 4 * e + 4) (b := 15) h0 hL2 (by omega) (by omega) (by omega)
    obtain ⟨z, a4, k4⟩ := c77 (k := 4 * e + 5) (b := 100000) h0 hL2 (by omega) (by omega) (by omega)
    have rest : ∀ hs2 c2 s2 w13, StQ (.inl (.int, L, .inl xs)) P hs2 → c2 ≤ c + 1 → s2 ≤ s + 6 → EvQ 96 342 (hL st fi true.toNat e (some (.int (nI way))) (some (.int (nI f))) (some (.int (nI i))) (some (.int (nI z))) w13) [] hs2 c2 s2 LQ := by
      intro hs2 c2 s2 w13 S2 b1 b2
      exact l96b hp S2 (by omega) a2 (fun hs' c' s' S' b3 b4 => ih (e + 1) hs' c' s' _ _ _ _ _ (by omega) (by omega) (by omega) S')
    refine eq_ (fun _ k => ev_iload f96_170 rfl k) ?_
    refine eq_ (fun _ k => ev_bipushN (n := 120) (by omega) f96_172 k) ?_
    refine eq_icN (by omega) (by omega) (tgt := 399) f96_174 rfl (fun h9 => absurd h9 (by simp only [akN] at *; omega)) (fun _ => ?_)
    refine eq_ (fun _ k => ev_iload f96_177 rfl k) ?_
    refine eq_ifN (by omega) (tgt := 399) f96_179 rfl (fun h9 => absurd h9 (by simp only [akN] at *; omega)) (fun _ => ?_)
    refine eq_ (fun _ k => ev_aload_n f96_182 rfl k) ?_
    refine eq_ (fun _ k => ev_iconstN (n := 4) f96_183 k) ?_
    refine eq_ (fun _ k => ev_iload f96_184 rfl k) ?_
    first | refine eq_ (fun _ k => ev_imulN f96_186 k) ?_ | refine eq_ (fun _ k => ev_imul f96_186 k) ?_
    refine eq_ (fun _ k => ev_iconstN (n := 2) f96_187 k) ?_
    first | refine eq_ (fun _ k => ev_iaddN f96_188 k) ?_ | refine eq_ (fun _ k => ev_iadd f96_188 k) ?_
    refine eq_ (fun _ k => ev_bipushN (n := 19) (by omega) f96_189 k) ?_
    refine eq_ (fun _ k => ev_s3 f96_191 (by decide) ow77 rfl rfl rfl (Nat.le_of_ble_eq_true rfl) (k1) k) ?_
    refine eq_ (fun _ k => ev_istore f96_194 k) ?_
    refine eq_ (fun _ k => ev_aload_n f96_196 rfl k) ?_
    refine eq_ (fun _ k => ev_iconstN (n := 4) f96_197 k) ?_
    refine eq_ (fun _ k => ev_iload f96_198 rfl k) ?_
    first | refine eq_ (fun _ k => ev_imulN f96_200 k) ?_ | refine eq_ (fun _ k => ev_imul f96_200 k) ?_
    refine eq_ (fun _ k => ev_iconstN (n := 3) f96_201 k) ?_
    first | refine eq_ (fun _ k => ev_iaddN f96_202 k) ?_ | refine eq_ (fun _ k => ev_iadd f96_202 k) ?_
    refine eq_ (fun _ k => ev_iconstN (n := 4) f96_203 k) ?_
    refine eq_ (fun _ k => ev_s3 f96_204 (by decide) ow77 rfl rfl rfl (Nat.le_of_ble_eq_true rfl) (k2) k) ?_
    refine eq_ (fun _ k => ev_istore f96_207 k) ?_
    refine eq_ (fun _ k => ev_aload_n f96_209 rfl k) ?_
    refine eq_ (fun _ k => ev_iconstN (n := 4) f96_210 k) ?_
    refine eq_ (fun _ k => ev_iload f96_211 rfl k) ?_
    first | refine eq_ (fun _ k => ev_imulN f96_213 k) ?_ | refine eq_ (fun _ k => ev_imul f96_213 k) ?_
    refine eq_ (fun _ k => ev_iconstN (n := 4) f96_214 k) ?_
    first | refine eq_ (fun _ k => ev_iaddN f96_215 k) ?_ | refine eq_ (fun _ k => ev_iadd f96_215 k) ?_
    refine eq_ (fun _ k => ev_bipushN (n := 15) (by omega) f96_216 k) ?_
    refine eq_ (fun _ k => ev_s3 f96_218 (by decide) ow77 rfl rfl rfl (Nat.le_of_ble_eq_true rfl) (k3) k) ?_
    refine eq_ (fun _ k => ev_istore f96_221 k) ?_
    refine eq_ (fun _ k => ev_aload_n f96_223 rfl k) ?_
    refine eq_ (fun _ k => ev_iconstN (n := 4) f96_224 k) ?_
    refine eq_ (fun _ k => ev_iload f96_225 rfl k) ?_
    first | refine eq_ (fun _ k => ev_imulN f96_227 k) ?_ | refine eq_ (fun _ k => ev_imul f96_227 k) ?_
    refine eq_ (fun _ k => ev_iconstN (n := 5) f96_228 k) ?_
    first | refine eq_ (fun _ k => ev_iaddN f96_229 k) ?_ | refine eq_ (fun _ k => ev_iadd f96_229 k) ?_
    refine eq_ (fun _ k => ev_ldc (v := nI 100000) rfl (by decide) f96_230 k) ?_
    refine eq_ (fun _ k => ev_s3 f96_232 (by decide) ow77 rfl rfl rfl (Nat.le_of_ble_eq_true rfl) (k4) k) ?_
    refine eq_ (fun _ k => ev_istore f96_235 k) ?_
    have cnt : ¬ (12 ≤ way ∧ way ≤ 15) → EvQ 96 321 (hL st fi 1 e (some (.int (nI way))) (some (.int (nI f))) (some (.int (nI i))) (some (.int (nI z))) w13) [] hs c s LQ := by
      intro _
      obtain ⟨hs3, dc, ds, k5, b1, b2, S3⟩ := c94 (way := way % 12) W hC hp G a2 a3 (by omega) a4
      refine eq_ (fun _ k => ev_aload_n f96_321 rfl k) ?_
      refine eq_ (fun _ k => ev_aload_n f96_322 rfl k) ?_
      refine eq_ (fun _ k => ev_aload_n f96_323 rfl k) ?_
      refine eq_ (fun _ k => ev_aload f96_324 rfl k) ?_
      refine eq_ (fun _ k => ev_iload f96_326 rfl k) ?_
      refine eq_ (fun _ k => ev_iload f96_328 rfl k) ?_
      refine eq_ (fun _ k => ev_iload f96_330 rfl k) ?_
      refine eq_ (fun _ k => ev_bipushN (n := 12) (by omega) f96_332 k) ?_
      refine eq_ (fun _ k => ev_iremN (by omega) (by omega) (by omega) f96_334 k) ?_
      refine eq_ (fun _ k => ev_iload f96_335 rfl k) ?_
      refine eq_ (fun _ k => ev_s8c f96_337 (by decide) ow94 rfl rfl rfl rfl rfl rfl rfl rfl (Nat.le_of_ble_eq_true rfl) (k5) k) ?_
      refine eq_ (fun _ k => ev_istore f96_340 k) ?_
      exact rest hs3 _ _ _ (S3.q hl) (by omega) (by omega)
    have whl : 12 ≤ way → way ≤ 15 → EvQ 96 301 (hL st fi 1 e (some (.int (nI way))) (some (.int (nI f))) (some (.int (nI i))) (some (.int (nI z))) w13) [] hs c s LQ := by
      intro g1 g2
      have k5 : CaB 95 [.ref 1, .ref 40, .ref 41, .int (nI f), .int (nI (z % 4)), .int (nI way)] hs (some (.int (nI true.toNat))) (StP (.inl (.int, L, .inl xs)) P hs.length) 1 6 := by
        have hz : z % 4 < 4 := by omega
        by_cases u1 : way = 12
        · rw [u1]
          exact c95g W hC hp G a2 hz
        · by_cases u2 : way = 13
          · rw [u2]
            exact c95s W hC hp G a2 hz
          · by_cases u3 : way = 14
            · rw [u3]
              exact c95m W hC hp G a2 hz
            · rw [show way = 15 by omega]
              exact c95i W hC hp G a2 hz
      obtain ⟨hs3, dc, ds, k5, b1, b2, S3⟩ := k5
      refine eq_ (fun _ k => ev_aload_n f96_301 rfl k) ?_
      refine eq_ (fun _ k => ev_aload_n f96_302 rfl k) ?_
      refine eq_ (fun _ k => ev_aload f96_303 rfl k) ?_
      refine eq_ (fun _ k => ev_iload f96_305 rfl k) ?_
      refine eq_ (fun _ k => ev_iload f96_307 rfl k) ?_
      refine eq_ (fun _ k => ev_iconstN (n := 4) f96_309 k) ?_
      refine eq_ (fun _ k => ev_iremN (by omega) (by omega) (by omega) f96_310 k) ?_
      refine eq_ (fun _ k => ev_iload f96_311 rfl k) ?_
      refine eq_ (fun _ k => ev_s6c f96_313 (by decide) ow95 rfl rfl rfl rfl rfl rfl (Nat.le_of_ble_eq_true rfl) (k5) k) ?_
      refine eq_ (fun _ k => ev_istore f96_316 k) ?_
      refine eq_ (fun _ k => ev_goto (tgt := 342) f96_318 rfl k) ?_
      exact rest hs3 _ _ _ (S3.q hl) (by omega) (by omega)
    have other : ¬ (way = 16 ∧ z % 3 = 0) → EvQ 96 287 (hL st fi 1 e (some (.int (nI way))) (some (.int (nI f))) (some (.int (nI i))) (some (.int (nI z))) w13) [] hs c s LQ := by
      intro _
      by_cases u1 : way ≤ 11
      · refine eq_ (fun _ k => ev_iload f96_287 rfl k) ?_
        refine eq_ (fun _ k => ev_bipushN (n := 11) (by omega) f96_289 k) ?_
        refine eq_icN (by omega) (by omega) (tgt := 321) f96_291 rfl (fun _ => ?_) (fun h9 => absurd (by simp only [akN] at *; omega) h9)
        exact cnt (by omega)
      · by_cases u2 : 16 ≤ way
        · refine eq_ (fun _ k => ev_iload f96_287 rfl k) ?_
          refine eq_ (fun _ k => ev_bipushN (n := 11) (by omega) f96_289 k) ?_
          refine eq_icN (by omega) (by omega) (tgt := 321) f96_291 rfl (fun h9 => absurd h9 (by simp only [akN] at *; omega)) (fun _ => ?_)
          refine eq_ (fun _ k => ev_iload f96_294 rfl k) ?_
          refine eq_ (fun _ k => ev_bipushN (n := 16) (by omega) f96_296 k) ?_
          refine eq_icN (by omega) (by omega) (tgt := 321) f96_298 rfl (fun _ => ?_) (fun h9 => absurd (by simp only [akN] at *; omega) h9)
          exact cnt (by omega)
        · refine eq_ (fun _ k => ev_iload f96_287 rfl k) ?_
          refine eq_ (fun _ k => ev_bipushN (n := 11) (by omega) f96_289 k) ?_
          refine eq_icN (by omega) (by omega) (tgt := 321) f96_291 rfl (fun h9 => absurd h9 (by simp only [akN] at *; omega)) (fun _ => ?_)
          refine eq_ (fun _ k => ev_iload f96_294 rfl k) ?_
          refine eq_ (fun _ k => ev_bipushN (n := 16) (by omega) f96_296 k) ?_
          refine eq_icN (by omega) (by omega) (tgt := 321) f96_298 rfl (fun h9 => absurd h9 (by simp only [akN] at *; omega)) (fun _ => ?_)
          exact whl (by omega) (by omega)
    by_cases v1 : way = 16
    · by_cases v2 : z % 3 = 0
      · obtain ⟨hs3, k5, W5, F5⟩ := W.cls (m46 W.2.1 a2)
        have x0 := W.2.1.1
        refine eq_ (fun _ k => ev_iload f96_237 rfl k) ?_
        refine eq_ (fun _ k => ev_bipushN (n := 16) (by omega) f96_239 k) ?_
        refine eq_icN (by omega) (by omega) (tgt := 287) f96_241 rfl (fun h9 => absurd h9 (fun w => w v1)) (fun _ => ?_)
        refine eq_ (fun _ k => ev_iload f96_244 rfl k) ?_
        refine eq_ (fun _ k => ev_iconstN (n := 3) f96_246 k) ?_
        refine eq_ (fun _ k => ev_iremN (by omega) (by omega) (by omega) f96_247 k) ?_
        refine eq_ifN (by omega) (tgt := 287) f96_248 rfl (fun h9 => absurd h9 (fun w => w v2)) (fun _ => ?_)
        refine eq_ (fun _ k => ev_aload_n f96_251 rfl k) ?_
        refine eq_ (fun _ k => ev_iload f96_252 rfl k) ?_
        refine eq_ (fun _ k => ev_v1 f96_254 ow46 (by assumption) rfl (Nat.le_of_ble_eq_true rfl) (k5) k) ?_
        refine eq_ (fun _ k => ev_iconstN (n := 0) f96_257 k) ?_
        refine eq_ (fun _ k => ev_istore f96_258 k) ?_
        refine l96z (N := hs.length) a2 (fun hs4 w13 W6 l6 => ?_) 15 0 hs3 rfl W5 F5.1
        refine rest hs4 _ _ _ ⟨q, _, _, W6, GI.all (op := opZ) G a2 a2 rfl (fun k => rfl), upC_cb (op := opZ) hC (fun j _ => (show 0 < 2 ^ 20 by omega)), by omega⟩ (by omega) (by omega)
      · refine eq_ (fun _ k => ev_iload f96_237 rfl k) ?_
        refine eq_ (fun _ k => ev_bipushN (n := 16) (by omega) f96_239 k) ?_
        refine eq_icN (by omega) (by omega) (tgt := 287) f96_241 rfl (fun h9 => absurd h9 (fun w => w v1)) (fun _ => ?_)
        refine eq_ (fun _ k => ev_iload f96_244 rfl k) ?_
        refine eq_ (fun _ k => ev_iconstN (n := 3) f96_246 k) ?_
        refine eq_ (fun _ k => ev_iremN (by omega) (by omega) (by omega) f96_247 k) ?_
        refine eq_ifN (by omega) (tgt := 287) f96_248 rfl (fun _ => ?_) (fun h9 => absurd v2 h9)
        exact other (fun w => v2 w.2)
    · refine eq_ (fun _ k => ev_iload f96_237 rfl k) ?_
      refine eq_ (fun _ k => ev_bipushN (n := 16) (by omega) f96_239 k) ?_
      refine eq_icN (by omega) (by omega) (tgt := 287) f96_241 rfl (fun _ => ?_) (fun h9 => absurd v1 h9)
      exact other (fun w => v1 w.1)
/-- the law's fingerprints, up to i of them -/
def pfN (st fi i : Nat) : Nat → Nat := fun j => if j < i then fi + st * j else 0
theorem pf_s (i : Nat) : updN (pfN st fi i) i (fi + st * i) = pfN st fi (i + 1) := by
  funext j
  unfold updN pfN
  by_cases e : j = i
  · rw [if_pos e, if_pos (by omega), e]
  · rw [if_neg e]
    by_cases w : j < i
    · rw [if_pos w, if_pos (by omega)]
    · rw [if_neg w, if_neg (by omega)]
theorem LW.set39 {X : amC} {q : Nat → Nat} {g : Nat → Nat → Nat} {C Q P' : Nat → Nat} {hs hs1 : amH} (W : LW X q g P C Q hs) (e : hs1 = hs.set 39 (.inl (.int, 16, .inl (fun j => nI (P' j))))) : LW X q g P' C Q hs1 := by
  have f0 : Fr hs hs1 39 40 := Fr.st e (by omega) (by omega)
  obtain ⟨w0, w1, w2, w3, w4⟩ := W
  refine ⟨(f0.2 _ (by omega)).trans w0, ?_, am_set e w2, (f0.2 _ (by omega)).trans w3, (f0.2 _ (by omega)).trans w4⟩
  obtain ⟨a1, ⟨TF, a2, a3⟩, a4, ⟨b5, a5⟩, ⟨b6, a6⟩, ⟨b7, a7⟩, F, Y, a8⟩ := w1
  exact ⟨(f0.2 _ (by omega)).trans a1, ⟨TF, (f0.2 _ (by omega)).trans a2, a3⟩, fun i hi => (a4 i hi).fr f0 (by omega), ⟨b5, a5.fr f0 (by omega)⟩, ⟨b6, a6.fr f0 (by omega)⟩, ⟨b7, a7.fr f0 (by omega)⟩, F, Y, a8.fr f0 (by omega)⟩
theorem l96p {X : amC} {q : Nat → Nat} {g : Nat → Nat → Nat} {C Q : Nat → Nat} {c s N : Nat} {R : amOut → Prop} (hb : fi + st * 14 < 4096) (kk : ∀ hs w9, LW X q g (pfN st fi 15) C Q hs → hs.length = N → EvQ 96 146 (hL st fi 1 15 w9 none none none none) [] hs c s R) : ∀ d i hs w9, i + d = 15 → LW X q g (pfN st fi i) C Q hs → hs.length = N → EvQ 96 57 (hL st fi 1 i w9 none none none none) [] hs c s R := by
  intro d
  induction d with
  | zero =>
    intro i hs w9 hi W hN
    have e1 : i = 15 := by omega
    subst e1
    refine eq_ (fun _ k => ev_iload f96_57 rfl k) ?_
    refine eq_ (fun _ k => ev_bipushN (n := 15) (by omega) f96_59 k) ?_
    refine eq_icN (by omega) (by omega) (tgt := 146) f96_61 rfl (fun _ => ?_) (fun h9 => absurd (by simp only [akN] at *; omega) h9)
    exact kk hs _ W hN
  | succ d ih =>
    intro i hs w9 hi W hN
    have w2 := W.2.2.1
    have hmul : st * i ≤ st * 14 := Nat.mul_le_mul_left st (by omega)
    have hv : fi + st * i < 4096 := by omega
    refine eq_ (fun _ k => ev_iload f96_57 rfl k) ?_
    refine eq_ (fun _ k => ev_bipushN (n := 15) (by omega) f96_59 k) ?_
    refine eq_icN (by omega) (by omega) (tgt := 146) f96_61 rfl (fun h9 => absurd h9 (by simp only [akN] at *; omega)) (fun _ => ?_)
    refine eq_ (fun _ k => ev_iload f96_64 rfl k) ?_
    refine eq_ifN (by omega) (tgt := 146) f96_66 rfl (fun h9 => absurd h9 (by simp only [akN] at *; omega)) (fun _ => ?_)
    refine eq_ (fun _ k => ev_aload_n f96_69 rfl k) ?_
    refine eq_ (fun _ k => ev_iload f96_70 rfl k) ?_
    refine eq_ (fun _ k => ev_iload f96_72 rfl k) ?_
    refine eq_ (fun _ k => ev_iload f96_74 rfl k) ?_
    refine eq_ (fun _ k => ev_iload f96_76 rfl k) ?_
    first | refine eq_ (fun _ k => ev_imulN f96_78 k) ?_ | refine eq_ (fun _ k => ev_imul f96_78 k) ?_
    first | refine eq_ (fun _ k => ev_iaddN f96_79 k) ?_ | refine eq_ (fun _ k => ev_iadd f96_79 k) ?_
    refine eq_iast f96_80 (by assumption) (by omega) (by omega) (by omega) (fun hs1 e1 => ?_)
    rw [upd_N, pf_s] at e1
    have W1 : LW X q g (pfN st fi (i + 1)) C Q hs1 := W.set39 e1
    have l1 : hs1.length = N := am_stl e1 hN
    have p1 := W1.2.2.1
    have x1 := W1.2.1.1
    have ev : pfN st fi (i + 1) i = fi + st * i := if_pos (Nat.lt_succ_self i)
    have i2 := fun w9 => ih (i + 1) hs1 w9 (by omega) W1 l1
    have k37 : Cr 37 [.ref 1, .int (kyN (fi + st * i) (nI (911 * i)))] hs1 (some (.int (nI (fi + st * i)))) hs1 := by
      have h := c37 (hs := hs1) 1 (kyN (fi + st * i) (nI (911 * i)))
      rw [pr_ky hv] at h
      exact h
    have lg : (((kyN (fi + st * i) (nI (911 * i))).toInt64 * 2654435769 &&& 4294967295) >>> ((nI 20).toInt64 &&& 63)).toInt32 = nI (fi + st * i) := by
      rw [pr_long, pr_ky hv]
    clear w2
    refine eq_ (fun _ k => ev_aload_n f96_81 rfl k) ?_
    refine eq_ (fun _ k => ev_iload f96_82 rfl k) ?_
    refine eq_ (fun _ k => ev_iald f96_84 (by assumption) (by omega) (by omega) k) ?_
    rw [ev]
    refine eq_ (fun _ k => ev_sipushN (n := 911) (by decide +kernel) f96_85 k) ?_
    refine eq_ (fun _ k => ev_iload f96_88 rfl k) ?_
    first | refine eq_ (fun _ k => ev_imulN f96_90 k) ?_ | refine eq_ (fun _ k => ev_imul f96_90 k) ?_
    refine eq_ (fun _ k => ev_s2 f96_91 (by decide) ow87 rfl rfl (Nat.le_of_ble_eq_true rfl) (c87) k) ?_
    refine eq_ (fun _ k => ev_istore f96_94 k) ?_
    refine eq_ (fun _ k => ev_aload_n f96_96 rfl k) ?_
    refine eq_ (fun _ k => ev_iload f96_97 rfl k) ?_
    refine eq_ (fun _ k => ev_v1 f96_99 ow37 (by assumption) rfl (Nat.le_of_ble_eq_true rfl) (k37) k) ?_
    refine eq_ (fun _ k => ev_aload_n f96_102 rfl k) ?_
    refine eq_ (fun _ k => ev_iload f96_103 rfl k) ?_
    refine eq_ (fun _ k => ev_iald f96_105 (by assumption) (by omega) (by omega) k) ?_
    rw [ev]
    refine eq_icN (by omega) (by omega) (tgt := 137) f96_106 rfl (fun h9 => absurd h9 (fun w => w rfl)) (fun _ => ?_)
    refine eq_ (fun _ k => ev_aload_n f96_109 rfl k) ?_
    refine eq_ (fun _ k => ev_iload f96_110 rfl k) ?_
    refine eq_ (fun _ k => ev_v1 f96_112 ow37 (by assumption) rfl (Nat.le_of_ble_eq_true rfl) (k37) k) ?_
    refine eq_ (fun _ k => ev_iload f96_115 rfl k) ?_
    refine eq_ (fun _ k => ev_i2l f96_117 k) ?_
    refine eq_ (fun _ k => ev_ldc2 (v := 2654435769) rfl (by decide) f96_118 k) ?_
    refine eq_ (fun _ k => ev_lmul f96_121 k) ?_
    refine eq_ (fun _ k => ev_ldc2 (v := 4294967295) rfl (by decide) f96_122 k) ?_
    refine eq_ (fun _ k => ev_land f96_125 k) ?_
    refine eq_ (fun _ k => ev_bipushN (n := 20) (by omega) f96_126 k) ?_
    refine eq_ (fun _ k => ev_lshr f96_128 k) ?_
    refine eq_ (fun _ k => ev_l2i f96_129 k) ?_
    rw [lg]
    refine eq_icN (by omega) (by omega) (tgt := 137) f96_130 rfl (fun h9 => absurd h9 (fun w => w rfl)) (fun _ => ?_)
    refine eq_ (fun _ k => ev_iconstN (n := 1) f96_133 k) ?_
    refine eq_ (fun _ k => ev_goto (tgt := 138) f96_134 rfl k) ?_
    refine eq_ (fun _ k => ev_istore f96_138 k) ?_
    refine eq_ (fun _ k => ev_iincN (d := 1) f96_140 rfl k) ?_
    refine eq_ (fun _ k => ev_goto (tgt := 57) f96_143 rfl k) ?_
    exact i2 _
/-- the law's bits, up to i of them 3 -/
def bt3 (i : Nat) : Nat → Nat := fun j => if j < i then 3 else 0
theorem bt3_s (i : Nat) : updN (bt3 i) i 3 = bt3 (i + 1) := by
  funext j
  unfold updN bt3
  by_cases e : j = i
  · rw [if_pos e, if_pos (by omega)]
  · rw [if_neg e]
    by_cases w : j < i
    · rw [if_pos w, if_pos (by omega)]
    · rw [if_neg w, if_neg (by omega)]
theorem l96q {X : amC} {q : Nat → Nat} {g : Nat → Nat → Nat} {C : Nat → Nat} {c s N : Nat} {w9 : Option Value} {R : amOut → Prop} (kk : ∀ hs, LW X q g P C (bt3 4) hs → hs.length = N → EvQ 96 167 (hL st fi 1 4 w9 none none none none) [] hs c s R) : ∀ d i hs, i + d = 4 → LW X q g P C (bt3 i) hs → hs.length = N → EvQ 96 149 (hL st fi 1 i w9 none none none none) [] hs c s R := by
  intro d
  induction d with
  | zero =>
    intro i hs hi W hN
    have e1 : i = 4 := by omega
    subst e1
    refine eq_ (fun _ k => ev_iload f96_149 rfl k) ?_
    refine eq_ (fun _ k => ev_iconstN (n := 4) f96_151 k) ?_
    refine eq_icN (by omega) (by omega) (tgt := 167) f96_152 rfl (fun _ => ?_) (fun h9 => absurd (by simp only [akN] at *; omega) h9)
    exact kk hs W hN
  | succ d ih =>
    intro i hs hi W hN
    have w4 := W.2.2.2.2
    refine eq_ (fun _ k => ev_iload f96_149 rfl k) ?_
    refine eq_ (fun _ k => ev_iconstN (n := 4) f96_151 k) ?_
    refine eq_icN (by omega) (by omega) (tgt := 167) f96_152 rfl (fun h9 => absurd h9 (by simp only [akN] at *; omega)) (fun _ => ?_)
    refine eq_ (fun _ k => ev_aload f96_155 rfl k) ?_
    refine eq_ (fun _ k => ev_iload f96_157 rfl k) ?_
    refine eq_ (fun _ k => ev_iconstN (n := 3) f96_159 k) ?_
    refine eq_iast f96_160 (by assumption) (by omega) (by omega) (by omega) (fun hs1 e1 => ?_)
    rw [upd_N, bt3_s] at e1
    have W1 : LW X q g P C (bt3 (i + 1)) hs1 := W.set41 e1
    have i2 := ih (i + 1) hs1 (by omega) W1 (am_stl e1 hN)
    refine eq_ (fun _ k => ev_iincN (d := 1) f96_161 rfl k) ?_
    refine eq_ (fun _ k => ev_goto (tgt := 149) f96_164 rfl k) ?_
    exact i2
theorem law_ev (hL2 : L ≤ 260) : EvQ 96 0 (amEntry [.ref 0] 14) [] [.inl (.int, L, .inl xs)] 0 0 LQ := by
  have l0 : ([.inl (.int, L, .inl xs)] : amH).length = 1 := rfl
  have y0 : ([.inl (.int, L, .inl xs)] : amH)[0]? = some (.inl (.int, L, .inl xs)) := rfl
  generalize ([.inl (.int, L, .inl xs)] : amH) = hs at *
  refine eq_new f96_0 (by assumption) (fun hs1 e1 => ?_)
  have l1 := am_apl e1 l0
  have x1 := am_apn e1 l0
  obtain ⟨hs2, k2, l2, z2, C2⟩ := c36 l1 (am_ap e1 y0) x1
  refine eq_ (fun _ k => ev_dup f96_3 rfl k) ?_
  refine eq_ (fun _ k => ev_ci f96_4 ow36 rfl (by assumption) (Nat.le_of_ble_eq_true rfl) (k2) k) ?_
  refine eq_ (fun _ k => ev_astore_n f96_7 k) ?_
  refine eq_ (fun _ k => ev_bipushN (n := 16) (by omega) f96_8 k) ?_
  refine eq_na_int (by omega) f96_10 (by assumption) (fun hs3 e3 => ?_)
  refine eq_ (fun _ k => ev_astore_n f96_12 k) ?_
  have l3 := am_apl e3 l2
  have x3 := am_apn e3 l2
  refine eq_ (fun _ k => ev_bipushN (n := 64) (by omega) f96_13 k) ?_
  refine eq_na_int (by omega) f96_15 (by assumption) (fun hs4 e4 => ?_)
  refine eq_ (fun _ k => ev_astore_n f96_17 k) ?_
  have l4 := am_apl e4 l3
  have x4 := am_apn e4 l3
  refine eq_ (fun _ k => ev_iconstN (n := 4) f96_18 k) ?_
  refine eq_na_int (by omega) f96_19 (by assumption) (fun hs5 e5 => ?_)
  refine eq_ (fun _ k => ev_astore f96_21 k) ?_
  have l5 := am_apl e5 l4
  have x5 := am_apn e5 l4
  have C3 := C2.cg (q2 := bt3 4) (fun i hi => (if_pos hi).symm)
  have W5 : LW (.inl (.int, L, .inl xs)) (bt3 4) (fun _ _ => 0) (pfN 0 0 0) (fun _ => 0) (bt3 0) hs5 := by
    have f3 : ∀ (j : Nat) (p : amC), hs2[j]? = some p → hs5[j]? = some p := fun j p h => am_ap e5 (am_ap e4 (am_ap e3 h))
    exact ⟨f3 _ _ z2, C3.ext f3, am_ap e5 (am_ap e4 x3), am_ap e5 x4, x5⟩
  have h0 := W5.1
  obtain ⟨r, r1, k6⟩ := c77 (k := 0) (b := 290) h0 hL2 (by omega) (by omega) (by omega)
  obtain ⟨r2, r3, k7⟩ := c77 (k := 1) (b := 4096 - 14 * (1 + r)) h0 hL2 (by omega) (by omega) (by omega)
  refine eq_ (fun _ k => ev_iconstN (n := 1) f96_23 k) ?_
  refine eq_ (fun _ k => ev_aload_n f96_24 rfl k) ?_
  refine eq_ (fun _ k => ev_iconstN (n := 0) f96_25 k) ?_
  refine eq_ (fun _ k => ev_sipushN (n := 290) (by decide +kernel) f96_26 k) ?_
  refine eq_ (fun _ k => ev_s3 f96_29 (by decide) ow77 rfl rfl rfl (Nat.le_of_ble_eq_true rfl) (k6) k) ?_
  first | refine eq_ (fun _ k => ev_iaddN f96_32 k) ?_ | refine eq_ (fun _ k => ev_iadd f96_32 k) ?_
  refine eq_ (fun _ k => ev_istore f96_33 k) ?_
  refine eq_ (fun _ k => ev_aload_n f96_35 rfl k) ?_
  refine eq_ (fun _ k => ev_iconstN (n := 1) f96_36 k) ?_
  refine eq_ (fun _ k => ev_sipushN (n := 4096) (by decide +kernel) f96_37 k) ?_
  refine eq_ (fun _ k => ev_bipushN (n := 14) (by omega) f96_40 k) ?_
  refine eq_ (fun _ k => ev_iload f96_42 rfl k) ?_
  first | refine eq_ (fun _ k => ev_imulN f96_44 k) ?_ | refine eq_ (fun _ k => ev_imul f96_44 k) ?_
  refine eq_ (fun _ k => ev_isubN (by omega) f96_45 k) ?_
  refine eq_ (fun _ k => ev_s3 f96_46 (by decide) ow77 rfl rfl rfl (Nat.le_of_ble_eq_true rfl) (k7) k) ?_
  refine eq_ (fun _ k => ev_istore f96_49 k) ?_
  refine eq_ (fun _ k => ev_iconstN (n := 1) f96_51 k) ?_
  refine eq_ (fun _ k => ev_istore f96_52 k) ?_
  refine eq_ (fun _ k => ev_iconstN (n := 0) f96_54 k) ?_
  refine eq_ (fun _ k => ev_istore f96_55 k) ?_
  have hb : r2 + (1 + r) * 14 < 4096 := by omega
  have hp : PI (pfN (1 + r) r2 15) := by
    refine ⟨fun i j h1 h2 => ?_, fun i hi => ?_⟩
    · have e1 : pfN (1 + r) r2 15 i = r2 + (1 + r) * i := if_pos (by omega)
      have e2 : pfN (1 + r) r2 15 j = r2 + (1 + r) * j := if_pos h2
      have h3 : (1 + r) * (i + 1) ≤ (1 + r) * j := Nat.mul_le_mul_left (1 + r) h1
      rw [Nat.mul_add] at h3
      omega
    · have e1 : pfN (1 + r) r2 15 i = r2 + (1 + r) * i := if_pos hi
      have h3 : (1 + r) * i ≤ (1 + r) * 14 := Nat.mul_le_mul_left (1 + r) (by omega)
      omega
  refine l96p (st := 1 + r) (fi := r2) (N := 42) hb (fun hs6 w9 W6 l6 => ?_) 15 0 hs5 none rfl W5 l5
  refine eq_ (fun _ k => ev_iconstN (n := 0) f96_146 k) ?_
  refine eq_ (fun _ k => ev_istore f96_147 k) ?_
  refine l96q (N := 42) (fun hs7 W7 l7 => ?_) 4 0 hs6 rfl W6 l6
  refine eq_ (fun _ k => ev_iconstN (n := 0) f96_167 k) ?_
  refine eq_ (fun _ k => ev_istore f96_168 k) ?_
  exact l96 hL2 hp 120 0 hs7 _ _ _ _ _ _ _ rfl (by decide) (by decide) ⟨bt3 4, fun _ _ => 0, fun _ => 0, W7, fun f hf => ⟨fun i hi => rfl, fun k hk => rfl⟩, fun j => (show 0 < 2 ^ 20 by omega), by omega⟩
theorem law_run (hL2 : L ≤ 260) : ∃ n hs' c s, amRun n 98 0 (amEntry [.ref 0] 1) [] [.inl (.int, L, .inl xs)] 0 0 = some (.inl (some (.int (nI 1))), hs', c, s) ∧ c ≤ 600130 ∧ s ≤ 7301080 := by
  obtain ⟨o, h1, hs', c, s, rfl, b1, b2⟩ := law_ev (xs := xs) hL2
  have k96 : Ca 96 [.ref 0] [.inl (.int, L, .inl xs)] (.inl (some (.int (nI 1))), hs', c, s) := ca_mk ow96 (Nat.le_of_ble_eq_true rfl) h1
  have k97 : Ca 97 [.ref 0] [.inl (.int, L, .inl xs)] (.inl (some (.int (nI 1))), hs', 0 + c, 0 + s) := by
    refine ca_mk ow97 (Nat.le_of_ble_eq_true rfl) ?_
    refine ev_aload_n f97_0 rfl ?_
    refine ev_s1c f97_1 (by decide) ow96 rfl (Nat.le_of_ble_eq_true rfl) (k96) ?_
    first | exact ev_iret f97_4 (rZ rfl true) rfl | exact ev_iret f97_4 (rZ rfl false) rfl | exact ev_iret f97_4 (rZ rfl _) rfl
  have k98 : Ev 98 0 (amEntry [.ref 0] 1) [] [.inl (.int, L, .inl xs)] 0 0 (.inl (some (.int (nI 1))), hs', 0 + (0 + c), 0 + (0 + s)) := by
    refine ev_aload_n f98_0 rfl ?_
    refine ev_s1c f98_1 (by decide) ow97 rfl (Nat.le_of_ble_eq_true rfl) (k97) ?_
    first | exact ev_iret f98_4 (rZ rfl true) rfl | exact ev_iret f98_4 (rZ rfl false) rfl | exact ev_iret f98_4 (rZ rfl _) rfl
  obtain ⟨n, hn⟩ := k98
  exact ⟨n, hs', _, _, hn, by omega, by omega⟩
end HO
