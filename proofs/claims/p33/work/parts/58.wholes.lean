/-! the law's wholes; rows laid by wip/p33/walk.py -/
def opA (a b : Nat) : Nat := a + b
def opM (a b : Nat) : Nat := min a b
/-- the law's counts of filter f, up to i of them taken together with those of filter o -/
def upC (C : Nat → Nat) (f o : Nat) (op : Nat → Nat → Nat) : Nat → Nat → Nat
  | 0 => C
  | i + 1 => updN (upC C f o op i) (16 * f + i) (op (C (16 * f + i)) (C (16 * o + i)))
theorem upC_out {C : Nat → Nat} {f o : Nat} {op : Nat → Nat → Nat} {j : Nat} : ∀ i, (∀ k, k < i → ¬ j = 16 * f + k) → upC C f o op i j = C j
  | 0, _ => rfl
  | i + 1, h => by
    show updN (upC C f o op i) (16 * f + i) _ j = C j
    rw [updN_ne _ _ (h i (Nat.lt_succ_self i))]
    exact upC_out i (fun k hk => h k (by omega))
theorem upC_in {C : Nat → Nat} {f o : Nat} {op : Nat → Nat → Nat} {k : Nat} : ∀ i, k < i → upC C f o op i (16 * f + k) = op (C (16 * f + k)) (C (16 * o + k))
  | 0, h => absurd h (Nat.not_lt_zero k)
  | i + 1, h => by
    show updN (upC C f o op i) (16 * f + i) _ (16 * f + k) = _
    by_cases e : k = i
    · subst e
      exact updN_at _ _ _
    · rw [updN_ne _ _ (by omega)]
      exact upC_in i (by omega)
theorem GI.all {g : Nat → Nat → Nat} {P C : Nat → Nat} {f o : Nat} {op : Nat → Nat → Nat} {h : Nat → Nat} (G : GI g P C) (hf : f < 4) (ho : o < 4) (h0 : op 0 0 = 0) (hh : ∀ k, h k = op (g f k) (g o k)) : GI (updG g f h) P (upC C f o op 15) := by
  intro f' hf'
  obtain ⟨G1, G2⟩ := G f' hf'
  by_cases e : f' = f
  · subst e
    have eg : updG g f' h f' = h := if_pos rfl
    rw [eg]
    refine ⟨fun j hj => ?_, fun k hk => ?_⟩
    · rw [upC_in 15 hj, hh, G1 j hj, (G o ho).1 j hj]
    · rw [hh, G2 k hk, (G o ho).2 k hk, h0]
  · have eg : updG g f h f' = g f' := if_neg e
    rw [eg]
    refine ⟨fun j hj => ?_, G2⟩
    rw [upC_out 15 (fun k hk => by omega)]
    exact G1 j hj
abbrev wL (f o way : Nat) (w6 w7 w8 w9 w10 : Option Value) : amL := [some (.ref 1), some (.ref 40), some (.ref 41), some (.int (nI f)), some (.int (nI o)), some (.int (nI way)), w6, w7, w8, w9, w10]
section WH
variable {X : amC} {q : Nat → Nat} {g : Nat → Nat → Nat} {P C : Nat → Nat} {f o way : Nat} {op : Nat → Nat → Nat} {R : amOut → Prop} {cc ss : Nat}
def opS (C : Nat → Nat) (f o : Nat) (op : Nat → Nat → Nat) : Nat → Nat := fun j => enN (op (C (16 * f + j)) (C (16 * o + j)))
theorem l95s {hs : amH} (hop : (way = 14 ∧ op = opA) ∨ (way = 15 ∧ op = opM)) (w3 : hs[40]? = some (.inl (.int, 64, .inl (fun j => nI (C j))))) (hC : ∀ j, C j < 2 ^ 20) (hf : f < 4) (ho : o < 4) (kk : ∀ w8 w9, EvQ 95 226 (wL f o way (some (.int (nI (smN (opS C f o op) 15)))) (some (.int (nI 15))) w8 w9 none) [] hs cc ss R) : ∀ d i w8 w9, i + d = 15 → EvQ 95 153 (wL f o way (some (.int (nI (smN (opS C f o op) i)))) (some (.int (nI i))) w8 w9 none) [] hs cc ss R := by
  intro d
  induction d with
  | zero =>
    intro i w8 w9 hi
    have e1 : i = 15 := by omega
    subst e1
    refine eq_ (fun _ k => ev_iload f95_153 rfl k) ?_
    refine eq_ (fun _ k => ev_bipushN (n := 15) (by omega) f95_155 k) ?_
    refine eq_icN (by omega) (by omega) (tgt := 226) f95_157 rfl (fun _ => ?_) (fun h9 => absurd (by simp only [akN] at *; omega) h9)
    exact kk _ _
  | succ d ih =>
    intro i w8 w9 hi
    have i2 := fun w8 w9 => ih (i + 1) w8 w9 (by omega)
    have hc1 := hC (16 * f + i)
    have hc2 := hC (16 * o + i)
    have s1 : smN (opS C f o op) (i + 1) = smN (opS C f o op) i + enN (op (C (16 * f + i)) (C (16 * o + i))) := rfl
    rw [s1] at i2
    rcases hop with ⟨rfl, rfl⟩ | ⟨rfl, rfl⟩
    · refine eq_ (fun _ k => ev_iload f95_153 rfl k) ?_
      refine eq_ (fun _ k => ev_bipushN (n := 15) (by omega) f95_155 k) ?_
      refine eq_icN (by omega) (by omega) (tgt := 226) f95_157 rfl (fun h9 => absurd h9 (by simp only [akN] at *; omega)) (fun _ => ?_)
      refine eq_ (fun _ k => ev_aload_n f95_160 rfl k) ?_
      refine eq_ (fun _ k => ev_bipushN (n := 16) (by omega) f95_161 k) ?_
      refine eq_ (fun _ k => ev_iload_n f95_163 rfl k) ?_
      first | refine eq_ (fun _ k => ev_imulN f95_164 k) ?_ | refine eq_ (fun _ k => ev_imul f95_164 k) ?_
      refine eq_ (fun _ k => ev_iload f95_165 rfl k) ?_
      first | refine eq_ (fun _ k => ev_iaddN f95_167 k) ?_ | refine eq_ (fun _ k => ev_iadd f95_167 k) ?_
      refine eq_ (fun _ k => ev_iald f95_168 (by assumption) (by omega) (by omega) k) ?_
      refine eq_ (fun _ k => ev_istore f95_169 k) ?_
      refine eq_ (fun _ k => ev_aload_n f95_171 rfl k) ?_
      refine eq_ (fun _ k => ev_bipushN (n := 16) (by omega) f95_172 k) ?_
      refine eq_ (fun _ k => ev_iload f95_174 rfl k) ?_
      first | refine eq_ (fun _ k => ev_imulN f95_176 k) ?_ | refine eq_ (fun _ k => ev_imul f95_176 k) ?_
      refine eq_ (fun _ k => ev_iload f95_177 rfl k) ?_
      first | refine eq_ (fun _ k => ev_iaddN f95_179 k) ?_ | refine eq_ (fun _ k => ev_iadd f95_179 k) ?_
      refine eq_ (fun _ k => ev_iald f95_180 (by assumption) (by omega) (by omega) k) ?_
      refine eq_ (fun _ k => ev_istore f95_181 k) ?_
      refine eq_ (fun _ k => ev_iload f95_183 rfl k) ?_
      refine eq_ (fun _ k => ev_iload f95_185 rfl k) ?_
      refine eq_ (fun _ k => ev_bipushN (n := 14) (by omega) f95_187 k) ?_
      refine eq_icN (by omega) (by omega) (tgt := 200) f95_189 rfl (fun h9 => absurd h9 (fun w => w rfl)) (fun _ => ?_)
      refine eq_ (fun _ k => ev_iload f95_192 rfl k) ?_
      refine eq_ (fun _ k => ev_iload f95_194 rfl k) ?_
      first | refine eq_ (fun _ k => ev_iaddN f95_196 k) ?_ | refine eq_ (fun _ k => ev_iadd f95_196 k) ?_
      refine eq_ (fun _ k => ev_goto (tgt := 214) f95_197 rfl k) ?_
      refine eq_ (fun _ k => ev_s1 f95_214 (by decide) ow78 rfl (Nat.le_of_ble_eq_true rfl) (c78 (by omega)) k) ?_
      first | refine eq_ (fun _ k => ev_iaddN f95_217 k) ?_ | refine eq_ (fun _ k => ev_iadd f95_217 k) ?_
      refine eq_ (fun _ k => ev_istore f95_218 k) ?_
      refine eq_ (fun _ k => ev_iincN (d := 1) f95_220 rfl k) ?_
      refine eq_ (fun _ k => ev_goto (tgt := 153) f95_223 rfl k) ?_
      exact i2 _ _
    · by_cases w : C (16 * f + i) < C (16 * o + i)
      · rw [show opM (C (16 * f + i)) (C (16 * o + i)) = C (16 * f + i) by unfold opM; omega] at i2
        refine eq_ (fun _ k => ev_iload f95_153 rfl k) ?_
        refine eq_ (fun _ k => ev_bipushN (n := 15) (by omega) f95_155 k) ?_
        refine eq_icN (by omega) (by omega) (tgt := 226) f95_157 rfl (fun h9 => absurd h9 (by simp only [akN] at *; omega)) (fun _ => ?_)
        refine eq_ (fun _ k => ev_aload_n f95_160 rfl k) ?_
        refine eq_ (fun _ k => ev_bipushN (n := 16) (by omega) f95_161 k) ?_
        refine eq_ (fun _ k => ev_iload_n f95_163 rfl k) ?_
        first | refine eq_ (fun _ k => ev_imulN f95_164 k) ?_ | refine eq_ (fun _ k => ev_imul f95_164 k) ?_
        refine eq_ (fun _ k => ev_iload f95_165 rfl k) ?_
        first | refine eq_ (fun _ k => ev_iaddN f95_167 k) ?_ | refine eq_ (fun _ k => ev_iadd f95_167 k) ?_
        refine eq_ (fun _ k => ev_iald f95_168 (by assumption) (by omega) (by omega) k) ?_
        refine eq_ (fun _ k => ev_istore f95_169 k) ?_
        refine eq_ (fun _ k => ev_aload_n f95_171 rfl k) ?_
        refine eq_ (fun _ k => ev_bipushN (n := 16) (by omega) f95_172 k) ?_
        refine eq_ (fun _ k => ev_iload f95_174 rfl k) ?_
        first | refine eq_ (fun _ k => ev_imulN f95_176 k) ?_ | refine eq_ (fun _ k => ev_imul f95_176 k) ?_
        refine eq_ (fun _ k => ev_iload f95_177 rfl k) ?_
        first | refine eq_ (fun _ k => ev_iaddN f95_179 k) ?_ | refine eq_ (fun _ k => ev_iadd f95_179 k) ?_
        refine eq_ (fun _ k => ev_iald f95_180 (by assumption) (by omega) (by omega) k) ?_
        refine eq_ (fun _ k => ev_istore f95_181 k) ?_
        refine eq_ (fun _ k => ev_iload f95_183 rfl k) ?_
        refine eq_ (fun _ k => ev_iload f95_185 rfl k) ?_
        refine eq_ (fun _ k => ev_bipushN (n := 14) (by omega) f95_187 k) ?_
        refine eq_icN (by omega) (by omega) (tgt := 200) f95_189 rfl (fun _ => ?_) (fun h9 => absurd (by simp only [akN] at *; omega) h9)
        refine eq_ (fun _ k => ev_iload f95_200 rfl k) ?_
        refine eq_ (fun _ k => ev_iload f95_202 rfl k) ?_
        refine eq_icN (by omega) (by omega) (tgt := 212) f95_204 rfl (fun h9 => absurd h9 (by simp only [akN] at *; omega)) (fun _ => ?_)
        refine eq_ (fun _ k => ev_iload f95_207 rfl k) ?_
        refine eq_ (fun _ k => ev_goto (tgt := 214) f95_209 rfl k) ?_
        refine eq_ (fun _ k => ev_s1 f95_214 (by decide) ow78 rfl (Nat.le_of_ble_eq_true rfl) (c78 (by omega)) k) ?_
        first | refine eq_ (fun _ k => ev_iaddN f95_217 k) ?_ | refine eq_ (fun _ k => ev_iadd f95_217 k) ?_
        refine eq_ (fun _ k => ev_istore f95_218 k) ?_
        refine eq_ (fun _ k => ev_iincN (d := 1) f95_220 rfl k) ?_
        refine eq_ (fun _ k => ev_goto (tgt := 153) f95_223 rfl k) ?_
        exact i2 _ _
      · rw [show opM (C (16 * f + i)) (C (16 * o + i)) = C (16 * o + i) by unfold opM; omega] at i2
        refine eq_ (fun _ k => ev_iload f95_153 rfl k) ?_
        refine eq_ (fun _ k => ev_bipushN (n := 15) (by omega) f95_155 k) ?_
        refine eq_icN (by omega) (by omega) (tgt := 226) f95_157 rfl (fun h9 => absurd h9 (by simp only [akN] at *; omega)) (fun _ => ?_)
        refine eq_ (fun _ k => ev_aload_n f95_160 rfl k) ?_
        refine eq_ (fun _ k => ev_bipushN (n := 16) (by omega) f95_161 k) ?_
        refine eq_ (fun _ k => ev_iload_n f95_163 rfl k) ?_
        first | refine eq_ (fun _ k => ev_imulN f95_164 k) ?_ | refine eq_ (fun _ k => ev_imul f95_164 k) ?_
        refine eq_ (fun _ k => ev_iload f95_165 rfl k) ?_
        first | refine eq_ (fun _ k => ev_iaddN f95_167 k) ?_ | refine eq_ (fun _ k => ev_iadd f95_167 k) ?_
        refine eq_ (fun _ k => ev_iald f95_168 (by assumption) (by omega) (by omega) k) ?_
        refine eq_ (fun _ k => ev_istore f95_169 k) ?_
        refine eq_ (fun _ k => ev_aload_n f95_171 rfl k) ?_
        refine eq_ (fun _ k => ev_bipushN (n := 16) (by omega) f95_172 k) ?_
        refine eq_ (fun _ k => ev_iload f95_174 rfl k) ?_
        first | refine eq_ (fun _ k => ev_imulN f95_176 k) ?_ | refine eq_ (fun _ k => ev_imul f95_176 k) ?_
        refine eq_ (fun _ k => ev_iload f95_177 rfl k) ?_
        first | refine eq_ (fun _ k => ev_iaddN f95_179 k) ?_ | refine eq_ (fun _ k => ev_iadd f95_179 k) ?_
        refine eq_ (fun _ k => ev_iald f95_180 (by assumption) (by omega) (by omega) k) ?_
        refine eq_ (fun _ k => ev_istore f95_181 k) ?_
        refine eq_ (fun _ k => ev_iload f95_183 rfl k) ?_
        refine eq_ (fun _ k => ev_iload f95_185 rfl k) ?_
        refine eq_ (fun _ k => ev_bipushN (n := 14) (by omega) f95_187 k) ?_
        refine eq_icN (by omega) (by omega) (tgt := 200) f95_189 rfl (fun _ => ?_) (fun h9 => absurd (by simp only [akN] at *; omega) h9)
        refine eq_ (fun _ k => ev_iload f95_200 rfl k) ?_
        refine eq_ (fun _ k => ev_iload f95_202 rfl k) ?_
        refine eq_icN (by omega) (by omega) (tgt := 212) f95_204 rfl (fun _ => ?_) (fun h9 => absurd (by simp only [akN] at *; omega) h9)
        refine eq_ (fun _ k => ev_iload f95_212 rfl k) ?_
        refine eq_ (fun _ k => ev_s1 f95_214 (by decide) ow78 rfl (Nat.le_of_ble_eq_true rfl) (c78 (by omega)) k) ?_
        first | refine eq_ (fun _ k => ev_iaddN f95_217 k) ?_ | refine eq_ (fun _ k => ev_iadd f95_217 k) ?_
        refine eq_ (fun _ k => ev_istore f95_218 k) ?_
        refine eq_ (fun _ k => ev_iincN (d := 1) f95_220 rfl k) ?_
        refine eq_ (fun _ k => ev_goto (tgt := 153) f95_223 rfl k) ?_
        exact i2 _ _
theorem l95u {n N : Nat} (hop : (way = 14 ∧ op = opA) ∨ (way = 15 ∧ op = opM)) (hC : ∀ j, C j < 2 ^ 20) (hf : f < 4) (ho : o < 4) (kk : ∀ hs w8 w9 w10, LW X q g P (upC C f o op 15) q hs → hs.length = N → EvQ 95 333 (wL f o way (some (.int (nI n))) (some (.int (nI 1))) w8 w9 w10) [] hs cc ss R) : ∀ d i hs w9 w10, i + d = 15 → LW X q g P (upC C f o op i) q hs → hs.length = N → EvQ 95 254 (wL f o way (some (.int (nI n))) (some (.int (nI 1))) (some (.int (nI i))) w9 w10) [] hs cc ss R := by
  intro d
  induction d with
  | zero =>
    intro i hs w9 w10 hi W hN
    have e1 : i = 15 := by omega
    subst e1
    refine eq_ (fun _ k => ev_iload f95_254 rfl k) ?_
    refine eq_ (fun _ k => ev_bipushN (n := 15) (by omega) f95_256 k) ?_
    refine eq_icN (by omega) (by omega) (tgt := 333) f95_258 rfl (fun _ => ?_) (fun h9 => absurd (by simp only [akN] at *; omega) h9)
    exact kk hs _ _ _ W hN
  | succ d ih =>
    intro i hs w9 w10 hi W hN
    have i2 := ih (i + 1)
    have w3 := W.2.2.2.1
    have hc1 := hC (16 * f + i)
    have hc2 := hC (16 * o + i)
    have e1 : upC C f o op i (16 * f + i) = C (16 * f + i) := upC_out i (fun k hk => by omega)
    have e2 : upC C f o op i (16 * o + i) = C (16 * o + i) := upC_out i (fun k hk => by omega)
    have rest : ∀ hs1 w9 w10, hs1 = hs.set 40 (.inl (.int, 64, .inl (upd (fun j => nI (upC C f o op i j)) (16 * f + i) (nI (op (C (16 * f + i)) (C (16 * o + i))))))) → EvQ 95 327 (wL f o way (some (.int (nI n))) (some (.int (nI 1))) (some (.int (nI i))) w9 w10) [] hs1 cc ss R := by
      intro hs1 w9 w10 e3
      rw [upd_N] at e3
      have W1 : LW X q g P (upC C f o op (i + 1)) q hs1 := W.set40 e3
      have l1 : hs1.length = N := am_stl e3 hN
      refine eq_ (fun _ k => ev_iincN (d := 1) f95_327 rfl k) ?_
      refine eq_ (fun _ k => ev_goto (tgt := 254) f95_330 rfl k) ?_
      exact i2 hs1 _ _ (by omega) W1 l1
    rcases hop with ⟨rfl, rfl⟩ | ⟨rfl, rfl⟩
    · refine eq_ (fun _ k => ev_iload f95_254 rfl k) ?_
      refine eq_ (fun _ k => ev_bipushN (n := 15) (by omega) f95_256 k) ?_
      refine eq_icN (by omega) (by omega) (tgt := 333) f95_258 rfl (fun h9 => absurd h9 (by simp only [akN] at *; omega)) (fun _ => ?_)
      refine eq_ (fun _ k => ev_iload f95_261 rfl k) ?_
      refine eq_ifN (by omega) (tgt := 333) f95_263 rfl (fun h9 => absurd h9 (by simp only [akN] at *; omega)) (fun _ => ?_)
      refine eq_ (fun _ k => ev_aload_n f95_266 rfl k) ?_
      refine eq_ (fun _ k => ev_bipushN (n := 16) (by omega) f95_267 k) ?_
      refine eq_ (fun _ k => ev_iload_n f95_269 rfl k) ?_
      first | refine eq_ (fun _ k => ev_imulN f95_270 k) ?_ | refine eq_ (fun _ k => ev_imul f95_270 k) ?_
      refine eq_ (fun _ k => ev_iload f95_271 rfl k) ?_
      first | refine eq_ (fun _ k => ev_iaddN f95_273 k) ?_ | refine eq_ (fun _ k => ev_iadd f95_273 k) ?_
      refine eq_ (fun _ k => ev_iald f95_274 (by assumption) (by omega) (by omega) k) ?_
      rw [e1]
      refine eq_ (fun _ k => ev_istore f95_275 k) ?_
      refine eq_ (fun _ k => ev_aload_n f95_277 rfl k) ?_
      refine eq_ (fun _ k => ev_bipushN (n := 16) (by omega) f95_278 k) ?_
      refine eq_ (fun _ k => ev_iload f95_280 rfl k) ?_
      first | refine eq_ (fun _ k => ev_imulN f95_282 k) ?_ | refine eq_ (fun _ k => ev_imul f95_282 k) ?_
      refine eq_ (fun _ k => ev_iload f95_283 rfl k) ?_
      first | refine eq_ (fun _ k => ev_iaddN f95_285 k) ?_ | refine eq_ (fun _ k => ev_iadd f95_285 k) ?_
      refine eq_ (fun _ k => ev_iald f95_286 (by assumption) (by omega) (by omega) k) ?_
      rw [e2]
      refine eq_ (fun _ k => ev_istore f95_287 k) ?_
      refine eq_ (fun _ k => ev_aload_n f95_289 rfl k) ?_
      refine eq_ (fun _ k => ev_bipushN (n := 16) (by omega) f95_290 k) ?_
      refine eq_ (fun _ k => ev_iload_n f95_292 rfl k) ?_
      first | refine eq_ (fun _ k => ev_imulN f95_293 k) ?_ | refine eq_ (fun _ k => ev_imul f95_293 k) ?_
      refine eq_ (fun _ k => ev_iload f95_294 rfl k) ?_
      first | refine eq_ (fun _ k => ev_iaddN f95_296 k) ?_ | refine eq_ (fun _ k => ev_iadd f95_296 k) ?_
      refine eq_ (fun _ k => ev_iload f95_297 rfl k) ?_
      refine eq_ (fun _ k => ev_bipushN (n := 14) (by omega) f95_299 k) ?_
      refine eq_icN (by omega) (by omega) (tgt := 312) f95_301 rfl (fun h9 => absurd h9 (fun w => w rfl)) (fun _ => ?_)
      refine eq_ (fun _ k => ev_iload f95_304 rfl k) ?_
      refine eq_ (fun _ k => ev_iload f95_306 rfl k) ?_
      first | refine eq_ (fun _ k => ev_iaddN f95_308 k) ?_ | refine eq_ (fun _ k => ev_iadd f95_308 k) ?_
      refine eq_ (fun _ k => ev_goto (tgt := 326) f95_309 rfl k) ?_
      refine eq_iast f95_326 (by assumption) (by omega) (by omega) (by omega) (fun hs1 e3 => ?_)
      exact rest hs1 _ _ e3
    · by_cases w : C (16 * f + i) < C (16 * o + i)
      · rw [show opM (C (16 * f + i)) (C (16 * o + i)) = C (16 * f + i) by unfold opM; omega] at rest
        refine eq_ (fun _ k => ev_iload f95_254 rfl k) ?_
        refine eq_ (fun _ k => ev_bipushN (n := 15) (by omega) f95_256 k) ?_
        refine eq_icN (by omega) (by omega) (tgt := 333) f95_258 rfl (fun h9 => absurd h9 (by simp only [akN] at *; omega)) (fun _ => ?_)
        refine eq_ (fun _ k => ev_iload f95_261 rfl k) ?_
        refine eq_ifN (by omega) (tgt := 333) f95_263 rfl (fun h9 => absurd h9 (by simp only [akN] at *; omega)) (fun _ => ?_)
        refine eq_ (fun _ k => ev_aload_n f95_266 rfl k) ?_
        refine eq_ (fun _ k => ev_bipushN (n := 16) (by omega) f95_267 k) ?_
        refine eq_ (fun _ k => ev_iload_n f95_269 rfl k) ?_
        first | refine eq_ (fun _ k => ev_imulN f95_270 k) ?_ | refine eq_ (fun _ k => ev_imul f95_270 k) ?_
        refine eq_ (fun _ k => ev_iload f95_271 rfl k) ?_
        first | refine eq_ (fun _ k => ev_iaddN f95_273 k) ?_ | refine eq_ (fun _ k => ev_iadd f95_273 k) ?_
        refine eq_ (fun _ k => ev_iald f95_274 (by assumption) (by omega) (by omega) k) ?_
        rw [e1]
        refine eq_ (fun _ k => ev_istore f95_275 k) ?_
        refine eq_ (fun _ k => ev_aload_n f95_277 rfl k) ?_
        refine eq_ (fun _ k => ev_bipushN (n := 16) (by omega) f95_278 k) ?_
        refine eq_ (fun _ k => ev_iload f95_280 rfl k) ?_
        first | refine eq_ (fun _ k => ev_imulN f95_282 k) ?_ | refine eq_ (fun _ k => ev_imul f95_282 k) ?_
        refine eq_ (fun _ k => ev_iload f95_283 rfl k) ?_
        first | refine eq_ (fun _ k => ev_iaddN f95_285 k) ?_ | refine eq_ (fun _ k => ev_iadd f95_285 k) ?_
        refine eq_ (fun _ k => ev_iald f95_286 (by assumption) (by omega) (by omega) k) ?_
        rw [e2]
        refine eq_ (fun _ k => ev_istore f95_287 k) ?_
        refine eq_ (fun _ k => ev_aload_n f95_289 rfl k) ?_
        refine eq_ (fun _ k => ev_bipushN (n := 16) (by omega) f95_290 k) ?_
        refine eq_ (fun _ k => ev_iload_n f95_292 rfl k) ?_
        first | refine eq_ (fun _ k => ev_imulN f95_293 k) ?_ | refine eq_ (fun _ k => ev_imul f95_293 k) ?_
        refine eq_ (fun _ k => ev_iload f95_294 rfl k) ?_
        first | refine eq_ (fun _ k => ev_iaddN f95_296 k) ?_ | refine eq_ (fun _ k => ev_iadd f95_296 k) ?_
        refine eq_ (fun _ k => ev_iload f95_297 rfl k) ?_
        refine eq_ (fun _ k => ev_bipushN (n := 14) (by omega) f95_299 k) ?_
        refine eq_icN (by omega) (by omega) (tgt := 312) f95_301 rfl (fun _ => ?_) (fun h9 => absurd (by simp only [akN] at *; omega) h9)
        refine eq_ (fun _ k => ev_iload f95_312 rfl k) ?_
        refine eq_ (fun _ k => ev_iload f95_314 rfl k) ?_
        refine eq_icN (by omega) (by omega) (tgt := 324) f95_316 rfl (fun h9 => absurd h9 (by simp only [akN] at *; omega)) (fun _ => ?_)
        refine eq_ (fun _ k => ev_iload f95_319 rfl k) ?_
        refine eq_ (fun _ k => ev_goto (tgt := 326) f95_321 rfl k) ?_
        refine eq_iast f95_326 (by assumption) (by omega) (by omega) (by omega) (fun hs1 e3 => ?_)
        exact rest hs1 _ _ e3
      · rw [show opM (C (16 * f + i)) (C (16 * o + i)) = C (16 * o + i) by unfold opM; omega] at rest
        refine eq_ (fun _ k => ev_iload f95_254 rfl k) ?_
        refine eq_ (fun _ k => ev_bipushN (n := 15) (by omega) f95_256 k) ?_
        refine eq_icN (by omega) (by omega) (tgt := 333) f95_258 rfl (fun h9 => absurd h9 (by simp only [akN] at *; omega)) (fun _ => ?_)
        refine eq_ (fun _ k => ev_iload f95_261 rfl k) ?_
        refine eq_ifN (by omega) (tgt := 333) f95_263 rfl (fun h9 => absurd h9 (by simp only [akN] at *; omega)) (fun _ => ?_)
        refine eq_ (fun _ k => ev_aload_n f95_266 rfl k) ?_
        refine eq_ (fun _ k => ev_bipushN (n := 16) (by omega) f95_267 k) ?_
        refine eq_ (fun _ k => ev_iload_n f95_269 rfl k) ?_
        first | refine eq_ (fun _ k => ev_imulN f95_270 k) ?_ | refine eq_ (fun _ k => ev_imul f95_270 k) ?_
        refine eq_ (fun _ k => ev_iload f95_271 rfl k) ?_
        first | refine eq_ (fun _ k => ev_iaddN f95_273 k) ?_ | refine eq_ (fun _ k => ev_iadd f95_273 k) ?_
        refine eq_ (fun _ k => ev_iald f95_274 (by assumption) (by omega) (by omega) k) ?_
        rw [e1]
        refine eq_ (fun _ k => ev_istore f95_275 k) ?_
        refine eq_ (fun _ k => ev_aload_n f95_277 rfl k) ?_
        refine eq_ (fun _ k => ev_bipushN (n := 16) (by omega) f95_278 k) ?_
        refine eq_ (fun _ k => ev_iload f95_280 rfl k) ?_
        first | refine eq_ (fun _ k => ev_imulN f95_282 k) ?_ | refine eq_ (fun _ k => ev_imul f95_282 k) ?_
        refine eq_ (fun _ k => ev_iload f95_283 rfl k) ?_
        first | refine eq_ (fun _ k => ev_iaddN f95_285 k) ?_ | refine eq_ (fun _ k => ev_iadd f95_285 k) ?_
        refine eq_ (fun _ k => ev_iald f95_286 (by assumption) (by omega) (by omega) k) ?_
        rw [e2]
        refine eq_ (fun _ k => ev_istore f95_287 k) ?_
        refine eq_ (fun _ k => ev_aload_n f95_289 rfl k) ?_
        refine eq_ (fun _ k => ev_bipushN (n := 16) (by omega) f95_290 k) ?_
        refine eq_ (fun _ k => ev_iload_n f95_292 rfl k) ?_
        first | refine eq_ (fun _ k => ev_imulN f95_293 k) ?_ | refine eq_ (fun _ k => ev_imul f95_293 k) ?_
        refine eq_ (fun _ k => ev_iload f95_294 rfl k) ?_
        first | refine eq_ (fun _ k => ev_iaddN f95_296 k) ?_ | refine eq_ (fun _ k => ev_iadd f95_296 k) ?_
        refine eq_ (fun _ k => ev_iload f95_297 rfl k) ?_
        refine eq_ (fun _ k => ev_bipushN (n := 14) (by omega) f95_299 k) ?_
        refine eq_icN (by omega) (by omega) (tgt := 312) f95_301 rfl (fun _ => ?_) (fun h9 => absurd (by simp only [akN] at *; omega) h9)
        refine eq_ (fun _ k => ev_iload f95_312 rfl k) ?_
        refine eq_ (fun _ k => ev_iload f95_314 rfl k) ?_
        refine eq_icN (by omega) (by omega) (tgt := 324) f95_316 rfl (fun _ => ?_) (fun h9 => absurd (by simp only [akN] at *; omega) h9)
        refine eq_ (fun _ k => ev_iload f95_324 rfl k) ?_
        refine eq_iast f95_326 (by assumption) (by omega) (by omega) (by omega) (fun hs1 e3 => ?_)
        exact rest hs1 _ _ e3
theorem opS_eq : smN (opS C f o op) 15 = smN (ceN (upC C f o op 15) f) 15 := by
  refine sm_cg 15 (fun j hj => ?_)
  show _ = enN (upC C f o op 15 (16 * f + j))
  rw [upC_in 15 hj]
  rfl
theorem upC_cb (hC : ∀ j, C j < 2 ^ 20) (h : ∀ j, j < 15 → op (C (16 * f + j)) (C (16 * o + j)) < 2 ^ 20) : ∀ j, upC C f o op 15 j < 2 ^ 20 := fun j => by
  by_cases w : ∃ k, k < 15 ∧ j = 16 * f + k
  · obtain ⟨k, hk, rfl⟩ := w
    rw [upC_in 15 hk]
    exact h k hk
  · rw [upC_out 15 (fun k hk e => w ⟨k, hk, e⟩)]
    exact hC j
theorem c95g {hs : amH} (W : LW X q g P C q hs) (hC : ∀ j, C j < 2 ^ 20) (hp : PI P) (G : GI g P C) (hf : f < 4) (ho : o < 4) : CaB 95 [.ref 1, .ref 40, .ref 41, .int (nI f), .int (nI o), .int (nI 12)] hs (some (.int (nI true.toNat))) (StP X P hs.length) 1 6 := by
  have F := W.2.1.2.2.1 f hf
  obtain ⟨h3, h8, -⟩ := F.obj
  have w4 := W.2.2.2.2
  refine cab_mk ow95 (Nat.le_of_ble_eq_true rfl) ?_
  by_cases can : q f < 8
  · refine eq_ (fun _ k => ev_iload f95_0 rfl k) ?_
    refine eq_ (fun _ k => ev_bipushN (n := 12) (by omega) f95_2 k) ?_
    refine eq_icN (by omega) (by omega) (tgt := 66) f95_4 rfl (fun h9 => absurd h9 (fun w => w rfl)) (fun _ => ?_)
    refine eq_ (fun _ k => ev_aload_n f95_7 rfl k) ?_
    refine eq_ (fun _ k => ev_iload_n f95_8 rfl k) ?_
    refine eq_ (fun _ k => ev_iald f95_9 (by assumption) (by omega) (by omega) k) ?_
    refine eq_ (fun _ k => ev_bipushN (n := 8) (by omega) f95_10 k) ?_
    refine eq_icN (by omega) (by omega) (tgt := 19) f95_12 rfl (fun h9 => absurd h9 (by simp only [akN] at *; omega)) (fun _ => ?_)
    refine eq_ (fun _ k => ev_iconstN (n := 1) f95_15 k) ?_
    refine eq_ (fun _ k => ev_goto (tgt := 20) f95_16 rfl k) ?_
    refine eq_ (fun _ k => ev_istore f95_20 k) ?_
    refine eq_ (fun _ k => ev_aload_n f95_22 rfl k) ?_
    refine eq_ (fun _ k => ev_iload_n f95_23 rfl k) ?_
    refine eq_ (fun _ k => ev_dup2 f95_24 rfl rfl k) ?_
    refine eq_ (fun _ k => ev_iald f95_25 (by assumption) (by omega) (by omega) k) ?_
    refine eq_ (fun _ k => ev_iload f95_26 rfl k) ?_
    refine eq_ifN (by omega) (tgt := 35) f95_28 rfl (fun h9 => absurd h9 (by simp only [akN] at *; omega)) (fun _ => ?_)
    refine eq_ (fun _ k => ev_iconstN (n := 1) f95_31 k) ?_
    refine eq_ (fun _ k => ev_goto (tgt := 36) f95_32 rfl k) ?_
    first | refine eq_ (fun _ k => ev_iaddN f95_36 k) ?_ | refine eq_ (fun _ k => ev_iadd f95_36 k) ?_
    refine eq_iast f95_37 (by assumption) (by omega) (by omega) (by omega) (fun hs1 e1 => ?_)
    rw [upd_N] at e1
    have W1 := W.set41 e1
    have l1 : hs1.length = hs.length := am_stl e1 rfl
    have k := m47 W1.2.1 hf
    rw [if_pos can, if_pos can] at k
    obtain ⟨hs2, k2, W2, F2⟩ := h90 W1 k
    have w5 := W2.2.2.2.2
    have hpow : 2 ^ (q f + 1) ≤ 2 ^ 8 := Nat.pow_le_pow_right (by omega) (by omega)
    clear w4
    refine eq_ (fun _ k => ev_aload_n f95_38 rfl k) ?_
    refine eq_ (fun _ k => ev_iload_n f95_39 rfl k) ?_
    refine eq_ (fun _ k => ev_s2c f95_40 (by decide) ow90 rfl rfl (Nat.le_of_ble_eq_true rfl) (k2) k) ?_
    refine eq_ (fun _ k => ev_iload f95_43 rfl k) ?_
    refine eq_ifN (by omega) (tgt := 56) f95_45 rfl (fun h9 => absurd h9 (by simp only [akN] at *; omega)) (fun _ => ?_)
    refine eq_ (fun _ k => ev_iconstN (n := 1) f95_48 k) ?_
    refine eq_ (fun _ k => ev_aload_n f95_49 rfl k) ?_
    refine eq_ (fun _ k => ev_iload_n f95_50 rfl k) ?_
    refine eq_ (fun _ k => ev_iald f95_51 (by assumption) (by omega) (by omega) k) ?_
    rw [updN_at]
    refine eq_ (fun _ k => ev_ishl f95_52 k) ?_
    rw [am_shl1 (by omega)]
    refine eq_ (fun _ k => ev_goto (tgt := 57) f95_53 rfl k) ?_
    refine eq_icN (by omega) (by omega) (tgt := 64) f95_57 rfl (fun h9 => absurd h9 (fun w => w rfl)) (fun _ => ?_)
    refine eq_ (fun _ k => ev_iconstN (n := 1) f95_60 k) ?_
    refine eq_ (fun _ k => ev_goto (tgt := 65) f95_61 rfl k) ?_
    first | refine ⟨_, ev_iret f95_65 (rZ rfl true) rfl, ?_⟩ | refine ⟨_, ev_iret f95_65 (rZ rfl false) rfl, ?_⟩ | refine ⟨_, ev_iret f95_65 (rZ rfl _) rfl, ?_⟩
    exact ⟨hs2, _, _, rfl, Nat.zero_le _, Nat.zero_le _, _, g, C, W2, G, hC, F2.1.trans l1⟩
  · refine eq_ (fun _ k => ev_iload f95_0 rfl k) ?_
    refine eq_ (fun _ k => ev_bipushN (n := 12) (by omega) f95_2 k) ?_
    refine eq_icN (by omega) (by omega) (tgt := 66) f95_4 rfl (fun h9 => absurd h9 (fun w => w rfl)) (fun _ => ?_)
    refine eq_ (fun _ k => ev_aload_n f95_7 rfl k) ?_
    refine eq_ (fun _ k => ev_iload_n f95_8 rfl k) ?_
    refine eq_ (fun _ k => ev_iald f95_9 (by assumption) (by omega) (by omega) k) ?_
    refine eq_ (fun _ k => ev_bipushN (n := 8) (by omega) f95_10 k) ?_
    refine eq_icN (by omega) (by omega) (tgt := 19) f95_12 rfl (fun _ => ?_) (fun h9 => absurd (by simp only [akN] at *; omega) h9)
    refine eq_ (fun _ k => ev_iconstN (n := 0) f95_19 k) ?_
    refine eq_ (fun _ k => ev_istore f95_20 k) ?_
    refine eq_ (fun _ k => ev_aload_n f95_22 rfl k) ?_
    refine eq_ (fun _ k => ev_iload_n f95_23 rfl k) ?_
    refine eq_ (fun _ k => ev_dup2 f95_24 rfl rfl k) ?_
    refine eq_ (fun _ k => ev_iald f95_25 (by assumption) (by omega) (by omega) k) ?_
    refine eq_ (fun _ k => ev_iload f95_26 rfl k) ?_
    refine eq_ifN (by omega) (tgt := 35) f95_28 rfl (fun _ => ?_) (fun h9 => absurd rfl h9)
    refine eq_ (fun _ k => ev_iconstN (n := 0) f95_35 k) ?_
    first | refine eq_ (fun _ k => ev_iaddN f95_36 k) ?_ | refine eq_ (fun _ k => ev_iadd f95_36 k) ?_
    refine eq_iast f95_37 (by assumption) (by omega) (by omega) (by omega) (fun hs1 e1 => ?_)
    rw [upd_N, Nat.add_zero, updN_same] at e1
    have W1 := W.set41 e1
    have l1 : hs1.length = hs.length := am_stl e1 rfl
    have k := m47 W1.2.1 hf
    rw [if_neg can, if_neg can] at k
    obtain ⟨hs2, k2, W2, F2⟩ := h90x W1 k
    refine eq_ (fun _ k => ev_aload_n f95_38 rfl k) ?_
    refine eq_ (fun _ k => ev_iload_n f95_39 rfl k) ?_
    refine eq_ (fun _ k => ev_s2c f95_40 (by decide) ow90 rfl rfl (Nat.le_of_ble_eq_true rfl) (k2) k) ?_
    refine eq_ (fun _ k => ev_iload f95_43 rfl k) ?_
    refine eq_ifN (by omega) (tgt := 56) f95_45 rfl (fun _ => ?_) (fun h9 => absurd rfl h9)
    refine eq_ (fun _ k => ev_iconst f95_56 k) ?_
    refine eq_ic (tgt := 64) f95_57 rfl (fun h9 => absurd h9 ((fun w => w rfl))) (fun _ => ?_)
    refine eq_ (fun _ k => ev_iconstN (n := 1) f95_60 k) ?_
    refine eq_ (fun _ k => ev_goto (tgt := 65) f95_61 rfl k) ?_
    first | refine ⟨_, ev_iret f95_65 (rZ rfl true) rfl, ?_⟩ | refine ⟨_, ev_iret f95_65 (rZ rfl false) rfl, ?_⟩ | refine ⟨_, ev_iret f95_65 (rZ rfl _) rfl, ?_⟩
    exact ⟨hs2, _, _, rfl, Nat.le_refl _, Nat.le_refl _, q, g, C, W2, G, hC, F2.1.trans l1⟩
theorem c95s {hs : amH} (W : LW X q g P C q hs) (hC : ∀ j, C j < 2 ^ 20) (hp : PI P) (G : GI g P C) (hf : f < 4) (ho : o < 4) : CaB 95 [.ref 1, .ref 40, .ref 41, .int (nI f), .int (nI o), .int (nI 13)] hs (some (.int (nI true.toNat))) (StP X P hs.length) 1 6 := by
  have F := W.2.1.2.2.1 f hf
  obtain ⟨h3, h8, -⟩ := F.obj
  obtain ⟨le1, -⟩ := F.le
  have w3 := W.2.2.2.1
  have w4 := W.2.2.2.2
  have eE := EE_all hp G hf
  refine cab_mk ow95 (Nat.le_of_ble_eq_true rfl) ?_
  have no : ¬ (3 < q f ∧ EE (g f) 4096 * 8 ≤ 7 * 2 ^ (q f - 1)) → EvQ 95 101 (wL f o 13 none none none none none) [.int (nI 0)] hs 0 0 (RtB (some (.int (nI true.toNat))) (StP X P hs.length) 1 6) := by
    intro can
    refine eq_ (fun _ k => ev_istore f95_101 k) ?_
    refine eq_ (fun _ k => ev_aload_n f95_103 rfl k) ?_
    refine eq_ (fun _ k => ev_iload_n f95_104 rfl k) ?_
    refine eq_ (fun _ k => ev_dup2 f95_105 rfl rfl k) ?_
    refine eq_ (fun _ k => ev_iald f95_106 (by assumption) (by omega) (by omega) k) ?_
    refine eq_ (fun _ k => ev_iload f95_107 rfl k) ?_
    refine eq_ifN (by omega) (tgt := 116) f95_109 rfl (fun _ => ?_) (fun h9 => absurd rfl h9)
    refine eq_ (fun _ k => ev_iconstN (n := 0) f95_116 k) ?_
    refine eq_ (fun _ k => ev_isubN (by omega) f95_117 k) ?_
    refine eq_iast f95_118 (by assumption) (by omega) (by omega) (by omega) (fun hs1 e1 => ?_)
    rw [Nat.sub_zero, upd_N, updN_same] at e1
    have W1 := W.set41 e1
    have l1 : hs1.length = hs.length := am_stl e1 rfl
    have k := m48 W1.2.1 hf
    rw [if_neg can, if_neg can] at k
    obtain ⟨hs2, k2, W2, F2⟩ := h91x W1 k
    refine eq_ (fun _ k => ev_aload_n f95_119 rfl k) ?_
    refine eq_ (fun _ k => ev_iload_n f95_120 rfl k) ?_
    refine eq_ (fun _ k => ev_s2c f95_121 (by decide) ow91 rfl rfl (Nat.le_of_ble_eq_true rfl) (k2) k) ?_
    refine eq_ (fun _ k => ev_iload f95_124 rfl k) ?_
    refine eq_ifN (by omega) (tgt := 137) f95_126 rfl (fun _ => ?_) (fun h9 => absurd rfl h9)
    refine eq_ (fun _ k => ev_iconst f95_137 k) ?_
    refine eq_ic (tgt := 145) f95_138 rfl (fun h9 => absurd h9 ((fun w => w rfl))) (fun _ => ?_)
    refine eq_ (fun _ k => ev_iconstN (n := 1) f95_141 k) ?_
    refine eq_ (fun _ k => ev_goto (tgt := 146) f95_142 rfl k) ?_
    first | refine ⟨_, ev_iret f95_146 (rZ rfl true) rfl, ?_⟩ | refine ⟨_, ev_iret f95_146 (rZ rfl false) rfl, ?_⟩ | refine ⟨_, ev_iret f95_146 (rZ rfl _) rfl, ?_⟩
    exact ⟨hs2, _, _, rfl, Nat.le_refl _, Nat.le_refl _, q, g, C, W2, G, hC, F2.1.trans l1⟩
  by_cases c3 : 3 < q f
  · have k93 : Cr 93 [.int (nI (smN (ceN C f) 15)), .int (nI (q f - 1))] hs (some (.int (nI (decide (8 * smN (ceN C f) 15 ≤ 7 * 2 ^ (q f - 1))).toNat))) hs := c93 (by omega) (by omega)
    by_cases cr : 8 * smN (ceN C f) 15 ≤ 7 * 2 ^ (q f - 1)
    · rw [decide_eq_true cr] at k93
      have can : 3 < q f ∧ EE (g f) 4096 * 8 ≤ 7 * 2 ^ (q f - 1) := ⟨c3, by omega⟩
      refine eq_ (fun _ k => ev_iload f95_0 rfl k) ?_
      refine eq_ (fun _ k => ev_bipushN (n := 12) (by omega) f95_2 k) ?_
      refine eq_icN (by omega) (by omega) (tgt := 66) f95_4 rfl (fun _ => ?_) (fun h9 => absurd (show ¬ (13 : Nat) = 12 by decide) h9)
      refine eq_ (fun _ k => ev_iload f95_66 rfl k) ?_
      refine eq_ (fun _ k => ev_bipushN (n := 13) (by omega) f95_68 k) ?_
      refine eq_icN (by omega) (by omega) (tgt := 147) f95_70 rfl (fun h9 => absurd h9 (fun w => w rfl)) (fun _ => ?_)
      refine eq_ (fun _ k => ev_aload_n f95_73 rfl k) ?_
      refine eq_ (fun _ k => ev_iload_n f95_74 rfl k) ?_
      refine eq_ (fun _ k => ev_iald f95_75 (by assumption) (by omega) (by omega) k) ?_
      refine eq_ (fun _ k => ev_iconstN (n := 3) f95_76 k) ?_
      refine eq_icN (by omega) (by omega) (tgt := 100) f95_77 rfl (fun h9 => absurd h9 (by simp only [akN] at *; omega)) (fun _ => ?_)
      refine eq_ (fun _ k => ev_aload_n f95_80 rfl k) ?_
      refine eq_ (fun _ k => ev_iload_n f95_81 rfl k) ?_
      refine eq_ (fun _ k => ev_s2 f95_82 (by decide) ow79 rfl rfl (Nat.le_of_ble_eq_true rfl) (c79 hf w3 hC) k) ?_
      refine eq_ (fun _ k => ev_aload_n f95_85 rfl k) ?_
      refine eq_ (fun _ k => ev_iload_n f95_86 rfl k) ?_
      refine eq_ (fun _ k => ev_iald f95_87 (by assumption) (by omega) (by omega) k) ?_
      refine eq_ (fun _ k => ev_iconstN (n := 1) f95_88 k) ?_
      refine eq_ (fun _ k => ev_isubN (by omega) f95_89 k) ?_
      refine eq_ (fun _ k => ev_s2 f95_90 (by decide) ow93 rfl rfl (Nat.le_of_ble_eq_true rfl) (k93) k) ?_
      refine eq_ifeqB (tgt := 100) f95_93 rfl (fun h9 => Bool.noConfusion (h9.symm.trans (rfl))) (fun _ => ?_)
      refine eq_ (fun _ k => ev_iconstN (n := 1) f95_96 k) ?_
      refine eq_ (fun _ k => ev_goto (tgt := 101) f95_97 rfl k) ?_
      refine eq_ (fun _ k => ev_istore f95_101 k) ?_
      refine eq_ (fun _ k => ev_aload_n f95_103 rfl k) ?_
      refine eq_ (fun _ k => ev_iload_n f95_104 rfl k) ?_
      refine eq_ (fun _ k => ev_dup2 f95_105 rfl rfl k) ?_
      refine eq_ (fun _ k => ev_iald f95_106 (by assumption) (by omega) (by omega) k) ?_
      refine eq_ (fun _ k => ev_iload f95_107 rfl k) ?_
      refine eq_ifN (by omega) (tgt := 116) f95_109 rfl (fun h9 => absurd h9 (by simp only [akN] at *; omega)) (fun _ => ?_)
      refine eq_ (fun _ k => ev_iconstN (n := 1) f95_112 k) ?_
      refine eq_ (fun _ k => ev_goto (tgt := 117) f95_113 rfl k) ?_
      refine eq_ (fun _ k => ev_isubN (by omega) f95_117 k) ?_
      refine eq_iast f95_118 (by assumption) (by omega) (by omega) (by omega) (fun hs1 e1 => ?_)
      rw [upd_N] at e1
      have W1 := W.set41 e1
      have l1 : hs1.length = hs.length := am_stl e1 rfl
      have k := m48 W1.2.1 hf
      rw [if_pos can, if_pos can] at k
      obtain ⟨hs2, k2, W2, F2⟩ := h91 W1 k
      have w5 := W2.2.2.2.2
      have hpow : 2 ^ (q f - 1) ≤ 2 ^ 8 := Nat.pow_le_pow_right (by omega) (by omega)
      clear w4 w3
      refine eq_ (fun _ k => ev_aload_n f95_119 rfl k) ?_
      refine eq_ (fun _ k => ev_iload_n f95_120 rfl k) ?_
      refine eq_ (fun _ k => ev_s2c f95_121 (by decide) ow91 rfl rfl (Nat.le_of_ble_eq_true rfl) (k2) k) ?_
      refine eq_ (fun _ k => ev_iload f95_124 rfl k) ?_
      refine eq_ifN (by omega) (tgt := 137) f95_126 rfl (fun h9 => absurd h9 (by simp only [akN] at *; omega)) (fun _ => ?_)
      refine eq_ (fun _ k => ev_iconstN (n := 1) f95_129 k) ?_
      refine eq_ (fun _ k => ev_aload_n f95_130 rfl k) ?_
      refine eq_ (fun _ k => ev_iload_n f95_131 rfl k) ?_
      refine eq_ (fun _ k => ev_iald f95_132 (by assumption) (by omega) (by omega) k) ?_
      rw [updN_at]
      refine eq_ (fun _ k => ev_ishl f95_133 k) ?_
      rw [am_shl1 (by omega)]
      refine eq_ (fun _ k => ev_goto (tgt := 138) f95_134 rfl k) ?_
      refine eq_icN (by omega) (by omega) (tgt := 145) f95_138 rfl (fun h9 => absurd h9 (fun w => w rfl)) (fun _ => ?_)
      refine eq_ (fun _ k => ev_iconstN (n := 1) f95_141 k) ?_
      refine eq_ (fun _ k => ev_goto (tgt := 146) f95_142 rfl k) ?_
      first | refine ⟨_, ev_iret f95_146 (rZ rfl true) rfl, ?_⟩ | refine ⟨_, ev_iret f95_146 (rZ rfl false) rfl, ?_⟩ | refine ⟨_, ev_iret f95_146 (rZ rfl _) rfl, ?_⟩
      exact ⟨hs2, _, _, rfl, Nat.zero_le _, Nat.zero_le _, _, g, C, W2, G, hC, F2.1.trans l1⟩
    · rw [decide_eq_false cr] at k93
      refine eq_ (fun _ k => ev_iload f95_0 rfl k) ?_
      refine eq_ (fun _ k => ev_bipushN (n := 12) (by omega) f95_2 k) ?_
      refine eq_icN (by omega) (by omega) (tgt := 66) f95_4 rfl (fun _ => ?_) (fun h9 => absurd (show ¬ (13 : Nat) = 12 by decide) h9)
      refine eq_ (fun _ k => ev_iload f95_66 rfl k) ?_
      refine eq_ (fun _ k => ev_bipushN (n := 13) (by omega) f95_68 k) ?_
      refine eq_icN (by omega) (by omega) (tgt := 147) f95_70 rfl (fun h9 => absurd h9 (fun w => w rfl)) (fun _ => ?_)
      refine eq_ (fun _ k => ev_aload_n f95_73 rfl k) ?_
      refine eq_ (fun _ k => ev_iload_n f95_74 rfl k) ?_
      refine eq_ (fun _ k => ev_iald f95_75 (by assumption) (by omega) (by omega) k) ?_
      refine eq_ (fun _ k => ev_iconstN (n := 3) f95_76 k) ?_
      refine eq_icN (by omega) (by omega) (tgt := 100) f95_77 rfl (fun h9 => absurd h9 (by simp only [akN] at *; omega)) (fun _ => ?_)
      refine eq_ (fun _ k => ev_aload_n f95_80 rfl k) ?_
      refine eq_ (fun _ k => ev_iload_n f95_81 rfl k) ?_
      refine eq_ (fun _ k => ev_s2 f95_82 (by decide) ow79 rfl rfl (Nat.le_of_ble_eq_true rfl) (c79 hf w3 hC) k) ?_
      refine eq_ (fun _ k => ev_aload_n f95_85 rfl k) ?_
      refine eq_ (fun _ k => ev_iload_n f95_86 rfl k) ?_
      refine eq_ (fun _ k => ev_iald f95_87 (by assumption) (by omega) (by omega) k) ?_
      refine eq_ (fun _ k => ev_iconstN (n := 1) f95_88 k) ?_
      refine eq_ (fun _ k => ev_isubN (by omega) f95_89 k) ?_
      refine eq_ (fun _ k => ev_s2 f95_90 (by decide) ow93 rfl rfl (Nat.le_of_ble_eq_true rfl) (k93) k) ?_
      refine eq_ifeqB (tgt := 100) f95_93 rfl (fun _ => ?_) (fun h9 => Bool.noConfusion (h9.symm.trans (rfl)))
      refine eq_ (fun _ k => ev_iconstN (n := 0) f95_100 k) ?_
      exact no (fun w => cr (by omega))
  · refine eq_ (fun _ k => ev_iload f95_0 rfl k) ?_
    refine eq_ (fun _ k => ev_bipushN (n := 12) (by omega) f95_2 k) ?_
    refine eq_icN (by omega) (by omega) (tgt := 66) f95_4 rfl (fun _ => ?_) (fun h9 => absurd (show ¬ (13 : Nat) = 12 by decide) h9)
    refine eq_ (fun _ k => ev_iload f95_66 rfl k) ?_
    refine eq_ (fun _ k => ev_bipushN (n := 13) (by omega) f95_68 k) ?_
    refine eq_icN (by omega) (by omega) (tgt := 147) f95_70 rfl (fun h9 => absurd h9 (fun w => w rfl)) (fun _ => ?_)
    refine eq_ (fun _ k => ev_aload_n f95_73 rfl k) ?_
    refine eq_ (fun _ k => ev_iload_n f95_74 rfl k) ?_
    refine eq_ (fun _ k => ev_iald f95_75 (by assumption) (by omega) (by omega) k) ?_
    refine eq_ (fun _ k => ev_iconstN (n := 3) f95_76 k) ?_
    refine eq_icN (by omega) (by omega) (tgt := 100) f95_77 rfl (fun _ => ?_) (fun h9 => absurd (by simp only [akN] at *; omega) h9)
    refine eq_ (fun _ k => ev_iconstN (n := 0) f95_100 k) ?_
    exact no (fun w => c3 w.1)
theorem c95m {hs : amH} (W : LW X q g P C q hs) (hC : ∀ j, C j < 2 ^ 20) (hp : PI P) (G : GI g P C) (hf : f < 4) (ho : o < 4) : CaB 95 [.ref 1, .ref 40, .ref 41, .int (nI f), .int (nI o), .int (nI 14)] hs (some (.int (nI true.toNat))) (StP X P hs.length) 1 6 := by
  have F := W.2.1.2.2.1 f hf
  obtain ⟨h3, h8, -⟩ := F.obj
  obtain ⟨-, -, le3, -⟩ := F.le
  obtain ⟨-, -, le4, -⟩ := (W.2.1.2.2.1 o ho).le
  have w3 := W.2.2.2.1
  have w4 := W.2.2.2.2
  have hv : ∀ j, j < 15 → C (16 * f + j) + C (16 * o + j) ≤ 3136 := fun j hj => by
    have h1 := le3 (P j)
    have h2 := le4 (P j)
    rw [(G f hf).1 j hj] at h1
    rw [(G o ho).1 j hj] at h2
    omega
  have hn : smN (opS C f o opA) 15 ≤ 15 * 449 := by
    have e9 : smN (opS C f o opA) 15 = smN (fun j => if j < 15 then opS C f o opA j else 0) 15 := sm_cg 15 (fun j hj => (if_pos hj).symm)
    rw [e9]
    refine smN_le (b := 449) (fun j => ?_) 15
    split
    · rename_i hj
      have h1 := hv j hj
      show enN (C (16 * f + j) + C (16 * o + j)) ≤ 449
      unfold enN
      omega
    · omega
  have G2 : GI (updG g f (suN (g f) (g o))) P (upC C f o opA 15) := GI.all G hf ho rfl (fun k => rfl)
  have hE : EE (suN (g f) (g o)) 4096 = smN (opS C f o opA) 15 := by
    rw [opS_eq, ← EE_all hp G2 hf]
    exact congrArg (fun z => EE z 4096) (show suN (g f) (g o) = updG g f (suN (g f) (g o)) f from (if_pos rfl).symm)
  have k93 : Cr 93 [.int (nI (smN (opS C f o opA) 15)), .int (nI (q f))] hs (some (.int (nI (decide (8 * smN (opS C f o opA) 15 ≤ 7 * 2 ^ q f)).toNat))) hs := c93 (by omega) h8
  refine cab_mk ow95 (Nat.le_of_ble_eq_true rfl) ?_
  refine eq_ (fun _ k => ev_iload f95_0 rfl k) ?_
  refine eq_ (fun _ k => ev_bipushN (n := 12) (by omega) f95_2 k) ?_
  refine eq_icN (by omega) (by omega) (tgt := 66) f95_4 rfl (fun _ => ?_) (fun h9 => absurd (show ¬ (14 : Nat) = 12 by decide) h9)
  refine eq_ (fun _ k => ev_iload f95_66 rfl k) ?_
  refine eq_ (fun _ k => ev_bipushN (n := 13) (by omega) f95_68 k) ?_
  refine eq_icN (by omega) (by omega) (tgt := 147) f95_70 rfl (fun _ => ?_) (fun h9 => absurd (show ¬ (14 : Nat) = 13 by decide) h9)
  refine eq_ (fun _ k => ev_iconstN (n := 0) f95_147 k) ?_
  refine eq_ (fun _ k => ev_istore f95_148 k) ?_
  refine eq_ (fun _ k => ev_iconstN (n := 0) f95_150 k) ?_
  refine eq_ (fun _ k => ev_istore f95_151 k) ?_
  refine l95s (op := opA) (Or.inl ⟨rfl, rfl⟩) w3 hC hf ho (fun w8 w9 => ?_) 15 0 none none rfl
  clear w3
  by_cases can : 8 * smN (opS C f o opA) 15 ≤ 7 * 2 ^ q f
  · rw [decide_eq_true can] at k93
    refine eq_ (fun _ k => ev_iload f95_226 rfl k) ?_
    refine eq_ (fun _ k => ev_bipushN (n := 14) (by omega) f95_228 k) ?_
    refine eq_icN (by omega) (by omega) (tgt := 244) f95_230 rfl (fun h9 => absurd h9 (Nat.lt_irrefl 14)) (fun _ => ?_)
    refine eq_ (fun _ k => ev_iload f95_233 rfl k) ?_
    refine eq_ (fun _ k => ev_aload_n f95_235 rfl k) ?_
    refine eq_ (fun _ k => ev_iload_n f95_236 rfl k) ?_
    refine eq_ (fun _ k => ev_iald f95_237 (by assumption) (by omega) (by omega) k) ?_
    refine eq_ (fun _ k => ev_s2 f95_238 (by decide) ow93 rfl rfl (Nat.le_of_ble_eq_true rfl) (k93) k) ?_
    refine eq_ifeqB (tgt := 248) f95_241 rfl (fun h9 => Bool.noConfusion (h9.symm.trans (rfl))) (fun _ => ?_)
    refine eq_ (fun _ k => ev_iconstN (n := 1) f95_244 k) ?_
    refine eq_ (fun _ k => ev_goto (tgt := 249) f95_245 rfl k) ?_
    refine eq_ (fun _ k => ev_istore f95_249 k) ?_
    refine eq_ (fun _ k => ev_iconstN (n := 0) f95_251 k) ?_
    refine eq_ (fun _ k => ev_istore f95_252 k) ?_
    refine l95u (N := hs.length) (Or.inl ⟨rfl, rfl⟩) hC hf ho (fun hs1 w8 w9 w10 W1 l1 => ?_) 15 0 hs _ _ rfl W rfl
    have k := m49 W1.2.1 hf ho
    rw [hE, if_pos (by omega), if_pos (by omega)] at k
    obtain ⟨hs2, k2, W2, F2⟩ := h92 W1 k
    refine eq_ (fun _ k => ev_iload f95_333 rfl k) ?_
    refine eq_ (fun _ k => ev_bipushN (n := 14) (by omega) f95_335 k) ?_
    refine eq_icN (by omega) (by omega) (tgt := 350) f95_337 rfl (fun h9 => absurd h9 (fun w => w rfl)) (fun _ => ?_)
    refine eq_ (fun _ k => ev_aload_n f95_340 rfl k) ?_
    refine eq_ (fun _ k => ev_iload_n f95_341 rfl k) ?_
    refine eq_ (fun _ k => ev_iload f95_342 rfl k) ?_
    refine eq_ (fun _ k => ev_s3c f95_344 (by decide) ow92 rfl rfl rfl (Nat.le_of_ble_eq_true rfl) (k2) k) ?_
    refine eq_ (fun _ k => ev_goto (tgt := 357) f95_347 rfl k) ?_
    refine eq_ (fun _ k => ev_iload f95_357 rfl k) ?_
    refine eq_ifN (by omega) (tgt := 367) f95_359 rfl (fun h9 => absurd h9 (by simp only [akN] at *; omega)) (fun _ => ?_)
    refine eq_ (fun _ k => ev_iload f95_362 rfl k) ?_
    refine eq_ (fun _ k => ev_goto (tgt := 368) f95_364 rfl k) ?_
    refine eq_icN (by omega) (by omega) (tgt := 375) f95_368 rfl (fun h9 => absurd h9 (fun w => w rfl)) (fun _ => ?_)
    refine eq_ (fun _ k => ev_iconstN (n := 1) f95_371 k) ?_
    refine eq_ (fun _ k => ev_goto (tgt := 376) f95_372 rfl k) ?_
    first | refine ⟨_, ev_iret f95_376 (rZ rfl true) rfl, ?_⟩ | refine ⟨_, ev_iret f95_376 (rZ rfl false) rfl, ?_⟩ | refine ⟨_, ev_iret f95_376 (rZ rfl _) rfl, ?_⟩
    exact ⟨hs2, _, _, rfl, Nat.zero_le _, Nat.zero_le _, q, _, _, W2, G2, upC_cb hC (fun j hj => by have := hv j hj; show C (16 * f + j) + C (16 * o + j) < 2 ^ 20; omega), F2.1.trans l1⟩
  · rw [decide_eq_false can] at k93
    have k := m49 W.2.1 hf ho
    rw [hE, if_neg (by omega), if_neg (by omega)] at k
    obtain ⟨hs2, k2, W2, F2⟩ := h92x W k
    refine eq_ (fun _ k => ev_iload f95_226 rfl k) ?_
    refine eq_ (fun _ k => ev_bipushN (n := 14) (by omega) f95_228 k) ?_
    refine eq_icN (by omega) (by omega) (tgt := 244) f95_230 rfl (fun h9 => absurd h9 (Nat.lt_irrefl 14)) (fun _ => ?_)
    refine eq_ (fun _ k => ev_iload f95_233 rfl k) ?_
    refine eq_ (fun _ k => ev_aload_n f95_235 rfl k) ?_
    refine eq_ (fun _ k => ev_iload_n f95_236 rfl k) ?_
    refine eq_ (fun _ k => ev_iald f95_237 (by assumption) (by omega) (by omega) k) ?_
    refine eq_ (fun _ k => ev_s2 f95_238 (by decide) ow93 rfl rfl (Nat.le_of_ble_eq_true rfl) (k93) k) ?_
    refine eq_ifeqB (tgt := 248) f95_241 rfl (fun _ => ?_) (fun h9 => Bool.noConfusion (h9.symm.trans (rfl)))
    refine eq_ (fun _ k => ev_iconstN (n := 0) f95_248 k) ?_
    refine eq_ (fun _ k => ev_istore f95_249 k) ?_
    refine eq_ (fun _ k => ev_iconstN (n := 0) f95_251 k) ?_
    refine eq_ (fun _ k => ev_istore f95_252 k) ?_
    refine eq_ (fun _ k => ev_iload f95_254 rfl k) ?_
    refine eq_ (fun _ k => ev_bipushN (n := 15) (by omega) f95_256 k) ?_
    refine eq_icN (by omega) (by omega) (tgt := 333) f95_258 rfl (fun h9 => absurd h9 (by simp only [akN] at *; omega)) (fun _ => ?_)
    refine eq_ (fun _ k => ev_iload f95_261 rfl k) ?_
    refine eq_ifN (by omega) (tgt := 333) f95_263 rfl (fun _ => ?_) (fun h9 => absurd rfl h9)
    refine eq_ (fun _ k => ev_iload f95_333 rfl k) ?_
    refine eq_ (fun _ k => ev_bipushN (n := 14) (by omega) f95_335 k) ?_
    refine eq_icN (by omega) (by omega) (tgt := 350) f95_337 rfl (fun h9 => absurd h9 (fun w => w rfl)) (fun _ => ?_)
    refine eq_ (fun _ k => ev_aload_n f95_340 rfl k) ?_
    refine eq_ (fun _ k => ev_iload_n f95_341 rfl k) ?_
    refine eq_ (fun _ k => ev_iload f95_342 rfl k) ?_
    refine eq_ (fun _ k => ev_s3c f95_344 (by decide) ow92 rfl rfl rfl (Nat.le_of_ble_eq_true rfl) (k2) k) ?_
    refine eq_ (fun _ k => ev_goto (tgt := 357) f95_347 rfl k) ?_
    refine eq_ (fun _ k => ev_iload f95_357 rfl k) ?_
    refine eq_ifN (by omega) (tgt := 367) f95_359 rfl (fun _ => ?_) (fun h9 => absurd rfl h9)
    refine eq_ (fun _ k => ev_iconst f95_367 k) ?_
    refine eq_ic (tgt := 375) f95_368 rfl (fun h9 => absurd h9 ((fun w => w rfl))) (fun _ => ?_)
    refine eq_ (fun _ k => ev_iconstN (n := 1) f95_371 k) ?_
    refine eq_ (fun _ k => ev_goto (tgt := 376) f95_372 rfl k) ?_
    first | refine ⟨_, ev_iret f95_376 (rZ rfl true) rfl, ?_⟩ | refine ⟨_, ev_iret f95_376 (rZ rfl false) rfl, ?_⟩ | refine ⟨_, ev_iret f95_376 (rZ rfl _) rfl, ?_⟩
    exact ⟨hs2, _, _, rfl, Nat.le_refl _, Nat.le_refl _, q, g, C, W2, G, hC, F2.1⟩
theorem c95i {hs : amH} (W : LW X q g P C q hs) (hC : ∀ j, C j < 2 ^ 20) (hp : PI P) (G : GI g P C) (hf : f < 4) (ho : o < 4) : CaB 95 [.ref 1, .ref 40, .ref 41, .int (nI f), .int (nI o), .int (nI 15)] hs (some (.int (nI true.toNat))) (StP X P hs.length) 1 6 := by
  have F := W.2.1.2.2.1 f hf
  obtain ⟨h3, h8, -⟩ := F.obj
  obtain ⟨le1, -⟩ := F.le
  have w3 := W.2.2.2.1
  have G2 : GI (updG g f (miN (g f) (g o))) P (upC C f o opM 15) := GI.all G hf ho rfl (fun k => rfl)
  have hE : EE (miN (g f) (g o)) 4096 = smN (opS C f o opM) 15 := by
    rw [opS_eq, ← EE_all hp G2 hf]
    exact congrArg (fun z => EE z 4096) (show miN (g f) (g o) = updG g f (miN (g f) (g o)) f from (if_pos rfl).symm)
  have hle : EE (miN (g f) (g o)) 4096 ≤ EE (g f) 4096 := EE_le (fun k => Nat.min_le_left _ _) 4096
  refine cab_mk ow95 (Nat.le_of_ble_eq_true rfl) ?_
  refine eq_ (fun _ k => ev_iload f95_0 rfl k) ?_
  refine eq_ (fun _ k => ev_bipushN (n := 12) (by omega) f95_2 k) ?_
  refine eq_icN (by omega) (by omega) (tgt := 66) f95_4 rfl (fun _ => ?_) (fun h9 => absurd (show ¬ (15 : Nat) = 12 by decide) h9)
  refine eq_ (fun _ k => ev_iload f95_66 rfl k) ?_
  refine eq_ (fun _ k => ev_bipushN (n := 13) (by omega) f95_68 k) ?_
  refine eq_icN (by omega) (by omega) (tgt := 147) f95_70 rfl (fun _ => ?_) (fun h9 => absurd (show ¬ (15 : Nat) = 13 by decide) h9)
  refine eq_ (fun _ k => ev_iconstN (n := 0) f95_147 k) ?_
  refine eq_ (fun _ k => ev_istore f95_148 k) ?_
  refine eq_ (fun _ k => ev_iconstN (n := 0) f95_150 k) ?_
  refine eq_ (fun _ k => ev_istore f95_151 k) ?_
  refine l95s (op := opM) (Or.inr ⟨rfl, rfl⟩) w3 hC hf ho (fun w8 w9 => ?_) 15 0 none none rfl
  clear w3
  refine eq_ (fun _ k => ev_iload f95_226 rfl k) ?_
  refine eq_ (fun _ k => ev_bipushN (n := 14) (by omega) f95_228 k) ?_
  refine eq_icN (by omega) (by omega) (tgt := 244) f95_230 rfl (fun _ => ?_) (fun h9 => absurd (show (14 : Nat) < 15 by decide) h9)
  refine eq_ (fun _ k => ev_iconstN (n := 1) f95_244 k) ?_
  refine eq_ (fun _ k => ev_goto (tgt := 249) f95_245 rfl k) ?_
  refine eq_ (fun _ k => ev_istore f95_249 k) ?_
  refine eq_ (fun _ k => ev_iconstN (n := 0) f95_251 k) ?_
  refine eq_ (fun _ k => ev_istore f95_252 k) ?_
  refine l95u (N := hs.length) (Or.inr ⟨rfl, rfl⟩) hC hf ho (fun hs1 w8 w9 w10 W1 l1 => ?_) 15 0 hs _ _ rfl W rfl
  have k := m50 W1.2.1 hf ho
  rw [hE] at k
  obtain ⟨hs2, k2, W2, F2⟩ := W1.cls k
  have x1 := W1.2.1.1
  refine eq_ (fun _ k => ev_iload f95_333 rfl k) ?_
  refine eq_ (fun _ k => ev_bipushN (n := 14) (by omega) f95_335 k) ?_
  refine eq_icN (by omega) (by omega) (tgt := 350) f95_337 rfl (fun _ => ?_) (fun h9 => absurd (show ¬ (15 : Nat) = 14 by decide) h9)
  refine eq_ (fun _ k => ev_aload_n f95_350 rfl k) ?_
  refine eq_ (fun _ k => ev_iload_n f95_351 rfl k) ?_
  refine eq_ (fun _ k => ev_iload f95_352 rfl k) ?_
  refine eq_ (fun _ k => ev_v2 f95_354 ow50 (by assumption) rfl rfl (Nat.le_of_ble_eq_true rfl) (k2) k) ?_
  refine eq_ (fun _ k => ev_iload f95_357 rfl k) ?_
  refine eq_ifN (by omega) (tgt := 367) f95_359 rfl (fun h9 => absurd h9 (by simp only [akN] at *; omega)) (fun _ => ?_)
  refine eq_ (fun _ k => ev_iload f95_362 rfl k) ?_
  refine eq_ (fun _ k => ev_goto (tgt := 368) f95_364 rfl k) ?_
  refine eq_icN (by omega) (by omega) (tgt := 375) f95_368 rfl (fun h9 => absurd h9 (fun w => w rfl)) (fun _ => ?_)
  refine eq_ (fun _ k => ev_iconstN (n := 1) f95_371 k) ?_
  refine eq_ (fun _ k => ev_goto (tgt := 376) f95_372 rfl k) ?_
  first | refine ⟨_, ev_iret f95_376 (rZ rfl true) rfl, ?_⟩ | refine ⟨_, ev_iret f95_376 (rZ rfl false) rfl, ?_⟩ | refine ⟨_, ev_iret f95_376 (rZ rfl _) rfl, ?_⟩
  exact ⟨hs2, _, _, rfl, Nat.zero_le _, Nat.zero_le _, q, _, _, W2, G2, upC_cb hC (fun j hj => by have := hC (16 * f + j); show min (C (16 * f + j)) (C (16 * o + j)) < 2 ^ 20; omega), F2.1.trans l1⟩
end WH
