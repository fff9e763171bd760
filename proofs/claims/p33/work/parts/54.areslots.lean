/-! the law's areSlots; rows laid by wip/p33/walk.py -/
theorem CS.ext {hs hs1 : amH} {q : Nat → Nat} {g : Nat → Nat → Nat} (h : CS hs q g) (f3 : ∀ (j : Nat) (p : amC), hs[j]? = some p → hs1[j]? = some p) : CS hs1 q g := by
  obtain ⟨a1, ⟨TF, a2, a3⟩, a4, ⟨b5, a5⟩, ⟨b6, a6⟩, ⟨b7, a7⟩, F, X, a8⟩ := h
  refine ⟨f3 _ _ a1, ⟨TF, f3 _ _ a2, a3⟩, fun i hi => ?_, ⟨b5, ?_⟩, ⟨b6, ?_⟩, ⟨b7, ?_⟩, F, X, ?_⟩
  · obtain ⟨T, ⟨h0, h3, h8, c0, c1, c2, c3, c4, c5, d1, d2⟩, h2⟩ := a4 i hi
    exact ⟨T, ⟨h0, h3, h8, f3 _ _ c0, f3 _ _ c1, f3 _ _ c2, f3 _ _ c3, f3 _ _ c4, f3 _ _ c5, d1, d2⟩, h2⟩
  · obtain ⟨F, C, z, ⟨h0, h1, c0, c1, c2⟩, h2⟩ := a5
    exact ⟨F, C, z, ⟨h0, h1, f3 _ _ c0, f3 _ _ c1, f3 _ _ c2⟩, h2⟩
  · obtain ⟨F, C, z, ⟨h0, h1, c0, c1, c2⟩, h2⟩ := a6
    exact ⟨F, C, z, ⟨h0, h1, f3 _ _ c0, f3 _ _ c1, f3 _ _ c2⟩, h2⟩
  · obtain ⟨F, C, z, ⟨h0, h1, c0, c1, c2⟩, h2⟩ := a7
    exact ⟨F, C, z, ⟨h0, h1, f3 _ _ c0, f3 _ _ c1, f3 _ _ c2⟩, h2⟩
  · obtain ⟨h0, c0, c1, c2⟩ := a8
    exact ⟨h0, f3 _ _ c0, f3 _ _ c1, f3 _ _ c2⟩
theorem LW.ext {X : amC} {hs hs1 : amH} {q : Nat → Nat} {g : Nat → Nat → Nat} {P C Q : Nat → Nat} (W : LW X q g P C Q hs) (f3 : ∀ (j : Nat) (p : amC), hs[j]? = some p → hs1[j]? = some p) : LW X q g P C Q hs1 := ⟨f3 _ _ W.1, W.2.1.ext f3, f3 _ _ W.2.2.1, f3 _ _ W.2.2.2.1, f3 _ _ W.2.2.2.2⟩
abbrev aL (a f q n e m gg b k : Nat) (w12 w13 w14 : Option Value) : amL := [some (.ref 1), some (.ref 39), some (.ref 40), some (.int (nI f)), some (.int (nI q)), some (.int (nI n)), some (.ref a), some (.int (nI e)), some (.int (nI m)), some (.int (nI gg)), some (.int (nI b)), some (.int (nI k)), w12, w13, w14]
section AS
variable {X : amC} {q : Nat → Nat} {g : Nat → Nat → Nat} {P C Q : Nat → Nat} {f a N : Nat} {R : amOut → Prop} {cc ss : Nat}
/-- the slot from which all runs have room -/
theorem l84e (hC : ∀ j, C j < 2 ^ 20) (hp : PI P) (G : GI g P C) (ha : 41 < a) (hf : f < 4) (h5 : q f ≤ 5) {e0 : Nat} (h0 : e0 < 2 ^ q f) (hP0 : PN (2 ^ q f) (2 ^ (12 - q f)) (g f) e0 = e0) (hL0 : LN (2 ^ q f) (2 ^ (12 - q f)) (g f) e0 = 0) (kk : ∀ hs e t, e < 2 ^ q f → PN (2 ^ q f) (2 ^ (12 - q f)) (g f) e = e → LN (2 ^ q f) (2 ^ (12 - q f)) (g f) e = 0 → TAL (2 ^ q f) (2 ^ (12 - q f)) P C (g f) f e t (e + 2 ^ q f) → LW X q g P C Q hs → hs.length = N → hs[a]? = some (.inl (.int, 32, .inl t)) → EvQ 84 36 [some (.ref 1), some (.ref 39), some (.ref 40), some (.int (nI f)), some (.int (nI (q f))), some (.int (nI (2 ^ q f))), some (.ref a), some (.int (nI e)), none, none, none, none, none, none, none] [] hs cc ss R) : ∀ d e hs t, e + d = e0 → LW X q g P C Q hs → hs.length = N → hs[a]? = some (.inl (.int, 32, .inl t)) → EvQ 84 15 [some (.ref 1), some (.ref 39), some (.ref 40), some (.int (nI f)), some (.int (nI (q f))), some (.int (nI (2 ^ q f))), some (.ref a), some (.int (nI e)), none, none, none, none, none, none, none] [] hs cc ss R := by
  intro d
  induction d with
  | zero =>
    intro e hs t he W hN ht
    have e1 : e = e0 := by omega
    subst e1
    obtain ⟨hs1, k1, t1, T1, T2⟩ := c82 W hC hp G ha hf h5 h0 ht
    rw [decide_eq_true ⟨hP0, hL0⟩] at k1
    refine eq_ (fun _ k => ev_aload_n f84_15 rfl k) ?_
    refine eq_ (fun _ k => ev_aload_n f84_16 rfl k) ?_
    refine eq_ (fun _ k => ev_iload_n f84_17 rfl k) ?_
    refine eq_ (fun _ k => ev_iload f84_18 rfl k) ?_
    refine eq_ (fun _ k => ev_iload f84_20 rfl k) ?_
    refine eq_ (fun _ k => ev_aload f84_22 rfl k) ?_
    refine eq_ (fun _ k => ev_s6 f84_24 (by decide) ow82 rfl rfl rfl rfl rfl rfl (Nat.le_of_ble_eq_true rfl) (k1) k) ?_
    refine eq_ifneB (tgt := 36) f84_27 rfl (fun _ => ?_) (fun h9 => Bool.noConfusion (h9.symm.trans (rfl)))
    exact kk hs1 e t1 h0 hP0 hL0 (T2 hP0 hL0) (W.fr T1.2 (by omega)) (T1.2.1.trans hN) T1.1
  | succ d ih =>
    intro e hs t he W hN ht
    have he2 : e < 2 ^ q f := by omega
    obtain ⟨hs1, k1, t1, T1, T2⟩ := c82 W hC hp G ha hf h5 he2 ht
    by_cases w : PN (2 ^ q f) (2 ^ (12 - q f)) (g f) e = e ∧ LN (2 ^ q f) (2 ^ (12 - q f)) (g f) e = 0
    · rw [decide_eq_true w] at k1
      refine eq_ (fun _ k => ev_aload_n f84_15 rfl k) ?_
      refine eq_ (fun _ k => ev_aload_n f84_16 rfl k) ?_
      refine eq_ (fun _ k => ev_iload_n f84_17 rfl k) ?_
      refine eq_ (fun _ k => ev_iload f84_18 rfl k) ?_
      refine eq_ (fun _ k => ev_iload f84_20 rfl k) ?_
      refine eq_ (fun _ k => ev_aload f84_22 rfl k) ?_
      refine eq_ (fun _ k => ev_s6 f84_24 (by decide) ow82 rfl rfl rfl rfl rfl rfl (Nat.le_of_ble_eq_true rfl) (k1) k) ?_
      refine eq_ifneB (tgt := 36) f84_27 rfl (fun _ => ?_) (fun h9 => Bool.noConfusion (h9.symm.trans (rfl)))
      exact kk hs1 e t1 he2 w.1 w.2 (T2 w.1 w.2) (W.fr T1.2 (by omega)) (T1.2.1.trans hN) T1.1
    · rw [decide_eq_false w] at k1
      refine eq_ (fun _ k => ev_aload_n f84_15 rfl k) ?_
      refine eq_ (fun _ k => ev_aload_n f84_16 rfl k) ?_
      refine eq_ (fun _ k => ev_iload_n f84_17 rfl k) ?_
      refine eq_ (fun _ k => ev_iload f84_18 rfl k) ?_
      refine eq_ (fun _ k => ev_iload f84_20 rfl k) ?_
      refine eq_ (fun _ k => ev_aload f84_22 rfl k) ?_
      refine eq_ (fun _ k => ev_s6 f84_24 (by decide) ow82 rfl rfl rfl rfl rfl rfl (Nat.le_of_ble_eq_true rfl) (k1) k) ?_
      refine eq_ifneB (tgt := 36) f84_27 rfl (fun h9 => Bool.noConfusion (h9.symm.trans (rfl))) (fun _ => ?_)
      refine eq_ (fun _ k => ev_iincN (d := 1) f84_30 rfl k) ?_
      refine eq_ (fun _ k => ev_goto (tgt := 15) f84_33 rfl k) ?_
      exact ih (e + 1) hs1 t1 (by omega) (W.fr T1.2 (by omega)) (T1.2.1.trans hN) T1.1
/-- a slot's checks, the second half of a turn -/
theorem l84b {hs : amH} {t : Nat → Int32} {e mm gg k s : Nat} {w13 w14 : Option Value} (W : LW X q g P C Q hs) (hN : hs.length = N) (hC : ∀ j, C j < 2 ^ 20) (hp : PI P) (G : GI g P C) (ha : 41 < a) (hf : f < 4) (h5 : q f ≤ 5) (hs2 : s < 2 ^ q f) (ht : hs[a]? = some (.inl (.int, 32, .inl t))) (V : TV (2 ^ q f) (2 ^ (12 - q f)) P C (g f) f t) (kk : ∀ hs' w12 w13 w14, LW X q g P C Q hs' → hs'.length = N → hs'[a]? = some (.inl (.int, 32, .inl t)) → EvQ 84 48 (aL a f (q f) (2 ^ q f) e mm gg 1 (k + 1) w12 w13 w14) [] hs' cc ss R) : EvQ 84 149 (aL a f (q f) (2 ^ q f) e mm gg 1 k (some (.int (nI s))) w13 w14) [] hs cc ss R := by
  have F := W.2.1.2.2.1 f hf
  obtain ⟨h3, h8, -⟩ := F.obj
  obtain ⟨T, t1, t2, hn0, hm0, hnm, hNN, hTL⟩ := F.tab
  have hn2 : 2 ^ q f ≤ 32 := by
    have := Nat.pow_le_pow_right (show 0 < 2 by omega) h5
    omega
  have hLn := LN_le hn0 hNN s
  rw [LN_lt hs2] at hLn
  have r : Cr 81 [.ref 39, .ref 40, .int (nI f), .int (nI (q f)), .int (nI s)] hs (some (.int (nI (lnN (2 ^ (12 - q f)) (g f) s)))) hs := by
    rw [ln_P hp G hf hm0]
    exact c81 hf W.2.2.1 W.2.2.2.1 hp.2 hC h8 (by omega)
  obtain ⟨hs1, k1, W1, F1⟩ := c83 W hp G hf h5 hs2 ha ht V
  obtain ⟨hsa, k2, W2, F2⟩ := W1.cls (m64 W1.2.1 hf hs2)
  obtain ⟨hs3, k3, W3, F3⟩ := W2.cls (m60 W2.2.1 hf hs2)
  obtain ⟨hs4, k4, W4, F4⟩ := W3.cls (m63 W3.2.1 hf hs2)
  have x1 := W1.2.1.1
  have x2 := W2.2.1.1
  have x3 := W3.2.1.1
  have f3 := (F1.tr F2).tr F3
  have f4 := f3.tr F4
  by_cases w : 0 < lnN (2 ^ (12 - q f)) (g f) s
  · rw [decide_eq_true w, show true.toNat = 1 from rfl] at k3
    refine eq_ (fun _ k => ev_aload_n f84_149 rfl k) ?_
    refine eq_ (fun _ k => ev_aload_n f84_150 rfl k) ?_
    refine eq_ (fun _ k => ev_iload_n f84_151 rfl k) ?_
    refine eq_ (fun _ k => ev_iload f84_152 rfl k) ?_
    refine eq_ (fun _ k => ev_iload f84_154 rfl k) ?_
    refine eq_ (fun _ k => ev_s5 f84_156 (by decide) ow81 rfl rfl rfl rfl rfl (Nat.le_of_ble_eq_true rfl) (r) k) ?_
    refine eq_ (fun _ k => ev_istore f84_159 k) ?_
    refine eq_ (fun _ k => ev_aload_n f84_161 rfl k) ?_
    refine eq_ (fun _ k => ev_aload_n f84_162 rfl k) ?_
    refine eq_ (fun _ k => ev_aload f84_163 rfl k) ?_
    refine eq_ (fun _ k => ev_iload_n f84_165 rfl k) ?_
    refine eq_ (fun _ k => ev_iload f84_166 rfl k) ?_
    refine eq_ (fun _ k => ev_iload f84_168 rfl k) ?_
    refine eq_ (fun _ k => ev_s6 f84_170 (by decide) ow83 rfl rfl rfl rfl rfl rfl (Nat.le_of_ble_eq_true rfl) (k1) k) ?_
    refine eq_ifeqB (tgt := 228) f84_173 rfl (fun h9 => Bool.noConfusion (h9.symm.trans (rfl))) (fun _ => ?_)
    refine eq_ (fun _ k => ev_aload_n f84_176 rfl k) ?_
    refine eq_ (fun _ k => ev_iload_n f84_177 rfl k) ?_
    refine eq_ (fun _ k => ev_iload f84_178 rfl k) ?_
    refine eq_ (fun _ k => ev_v2 f84_180 ow64 (by assumption) rfl rfl (Nat.le_of_ble_eq_true rfl) (k2) k) ?_
    refine eq_ (fun _ k => ev_iload f84_183 rfl k) ?_
    refine eq_icN (by omega) (by omega) (tgt := 228) f84_185 rfl (fun h9 => absurd h9 (fun w => w rfl)) (fun _ => ?_)
    refine eq_ (fun _ k => ev_aload_n f84_188 rfl k) ?_
    refine eq_ (fun _ k => ev_iload_n f84_189 rfl k) ?_
    refine eq_ (fun _ k => ev_iload f84_190 rfl k) ?_
    refine eq_ (fun _ k => ev_v2 f84_192 ow60 (by assumption) rfl rfl (Nat.le_of_ble_eq_true rfl) (k3) k) ?_
    refine eq_ (fun _ k => ev_iload f84_195 rfl k) ?_
    refine eq_ifN (by omega) (tgt := 204) f84_197 rfl (fun h9 => absurd h9 (by simp only [akN] at *; omega)) (fun _ => ?_)
    refine eq_ (fun _ k => ev_iconstN (n := 1) f84_200 k) ?_
    refine eq_ (fun _ k => ev_goto (tgt := 205) f84_201 rfl k) ?_
    refine eq_icN (by omega) (by omega) (tgt := 228) f84_205 rfl (fun h9 => absurd h9 (fun w => w rfl)) (fun _ => ?_)
    refine eq_ (fun _ k => ev_iload f84_208 rfl k) ?_
    refine eq_ifN (by omega) (tgt := 224) f84_210 rfl (fun _ => ?_) (fun h9 => absurd (by simp only [akN] at *; omega) h9)
    refine eq_ (fun _ k => ev_iconstN (n := 1) f84_224 k) ?_
    refine eq_ (fun _ k => ev_goto (tgt := 229) f84_225 rfl k) ?_
    refine eq_ (fun _ k => ev_istore f84_229 k) ?_
    refine eq_ (fun _ k => ev_iincN (d := 1) f84_231 rfl k) ?_
    refine eq_ (fun _ k => ev_goto (tgt := 48) f84_234 rfl k) ?_
    exact kk hs3 _ _ _ W3 (f3.1.trans hN) ((f3.2 a (by omega)).trans ht)
  · rw [decide_eq_false w, show false.toNat = 0 from rfl] at k3
    rw [if_neg w] at k4
    refine eq_ (fun _ k => ev_aload_n f84_149 rfl k) ?_
    refine eq_ (fun _ k => ev_aload_n f84_150 rfl k) ?_
    refine eq_ (fun _ k => ev_iload_n f84_151 rfl k) ?_
    refine eq_ (fun _ k => ev_iload f84_152 rfl k) ?_
    refine eq_ (fun _ k => ev_iload f84_154 rfl k) ?_
    refine eq_ (fun _ k => ev_s5 f84_156 (by decide) ow81 rfl rfl rfl rfl rfl (Nat.le_of_ble_eq_true rfl) (r) k) ?_
    refine eq_ (fun _ k => ev_istore f84_159 k) ?_
    refine eq_ (fun _ k => ev_aload_n f84_161 rfl k) ?_
    refine eq_ (fun _ k => ev_aload_n f84_162 rfl k) ?_
    refine eq_ (fun _ k => ev_aload f84_163 rfl k) ?_
    refine eq_ (fun _ k => ev_iload_n f84_165 rfl k) ?_
    refine eq_ (fun _ k => ev_iload f84_166 rfl k) ?_
    refine eq_ (fun _ k => ev_iload f84_168 rfl k) ?_
    refine eq_ (fun _ k => ev_s6 f84_170 (by decide) ow83 rfl rfl rfl rfl rfl rfl (Nat.le_of_ble_eq_true rfl) (k1) k) ?_
    refine eq_ifeqB (tgt := 228) f84_173 rfl (fun h9 => Bool.noConfusion (h9.symm.trans (rfl))) (fun _ => ?_)
    refine eq_ (fun _ k => ev_aload_n f84_176 rfl k) ?_
    refine eq_ (fun _ k => ev_iload_n f84_177 rfl k) ?_
    refine eq_ (fun _ k => ev_iload f84_178 rfl k) ?_
    refine eq_ (fun _ k => ev_v2 f84_180 ow64 (by assumption) rfl rfl (Nat.le_of_ble_eq_true rfl) (k2) k) ?_
    refine eq_ (fun _ k => ev_iload f84_183 rfl k) ?_
    refine eq_icN (by omega) (by omega) (tgt := 228) f84_185 rfl (fun h9 => absurd h9 (fun w => w rfl)) (fun _ => ?_)
    refine eq_ (fun _ k => ev_aload_n f84_188 rfl k) ?_
    refine eq_ (fun _ k => ev_iload_n f84_189 rfl k) ?_
    refine eq_ (fun _ k => ev_iload f84_190 rfl k) ?_
    refine eq_ (fun _ k => ev_v2 f84_192 ow60 (by assumption) rfl rfl (Nat.le_of_ble_eq_true rfl) (k3) k) ?_
    refine eq_ (fun _ k => ev_iload f84_195 rfl k) ?_
    refine eq_ifN (by omega) (tgt := 204) f84_197 rfl (fun _ => ?_) (fun h9 => absurd (by simp only [akN] at *; omega) h9)
    refine eq_ (fun _ k => ev_iconstN (n := 0) f84_204 k) ?_
    refine eq_icN (by omega) (by omega) (tgt := 228) f84_205 rfl (fun h9 => absurd h9 (fun w => w rfl)) (fun _ => ?_)
    refine eq_ (fun _ k => ev_iload f84_208 rfl k) ?_
    refine eq_ifN (by omega) (tgt := 224) f84_210 rfl (fun h9 => absurd h9 (by simp only [akN] at *; omega)) (fun _ => ?_)
    refine eq_ (fun _ k => ev_aload_n f84_213 rfl k) ?_
    refine eq_ (fun _ k => ev_iload_n f84_214 rfl k) ?_
    refine eq_ (fun _ k => ev_iload f84_215 rfl k) ?_
    refine eq_ (fun _ k => ev_v2 f84_217 ow63 (by assumption) rfl rfl (Nat.le_of_ble_eq_true rfl) (k4) k) ?_
    refine eq_ (fun _ k => ev_iconst f84_220 k) ?_
    refine eq_ic (tgt := 228) f84_221 rfl (fun h9 => absurd h9 ((fun w => w rfl))) (fun _ => ?_)
    refine eq_ (fun _ k => ev_iconstN (n := 1) f84_224 k) ?_
    refine eq_ (fun _ k => ev_goto (tgt := 229) f84_225 rfl k) ?_
    refine eq_ (fun _ k => ev_istore f84_229 k) ?_
    refine eq_ (fun _ k => ev_iincN (d := 1) f84_231 rfl k) ?_
    refine eq_ (fun _ k => ev_goto (tgt := 48) f84_234 rfl k) ?_
    exact kk hs4 _ _ _ W4 (f4.1.trans hN) ((f4.2 a (by omega)).trans ht)
/-- the longer one -/
theorem l84x {hs : amH} {e mm gg k : Nat} {w12 w13 w14 : Option Value} (hm : mm < 1000) (hg : gg < 1000) (kk : EvQ 84 149 (aL a f (q f) (2 ^ q f) e (max mm gg) gg 1 k w12 w13 w14) [] hs cc ss R) : EvQ 84 133 (aL a f (q f) (2 ^ q f) e mm gg 1 k w12 w13 w14) [] hs cc ss R := by
  by_cases w : gg ≤ mm
  · rw [show max mm gg = mm by omega] at kk
    refine eq_ (fun _ k => ev_iload f84_133 rfl k) ?_
    refine eq_ (fun _ k => ev_iload f84_135 rfl k) ?_
    refine eq_icN (by omega) (by omega) (tgt := 145) f84_137 rfl (fun _ => ?_) (fun h9 => absurd (by simp only [akN] at *; omega) h9)
    refine eq_ (fun _ k => ev_iload f84_145 rfl k) ?_
    refine eq_ (fun _ k => ev_istore f84_147 k) ?_
    exact kk
  · rw [show max mm gg = gg by omega] at kk
    refine eq_ (fun _ k => ev_iload f84_133 rfl k) ?_
    refine eq_ (fun _ k => ev_iload f84_135 rfl k) ?_
    refine eq_icN (by omega) (by omega) (tgt := 145) f84_137 rfl (fun h9 => absurd h9 (by simp only [akN] at *; omega)) (fun _ => ?_)
    refine eq_ (fun _ k => ev_iload f84_140 rfl k) ?_
    refine eq_ (fun _ k => ev_goto (tgt := 147) f84_142 rfl k) ?_
    refine eq_ (fun _ k => ev_istore f84_147 k) ?_
    exact kk
theorem l84 {t : Nat → Int32} {e : Nat} (hC : ∀ j, C j < 2 ^ 20) (hp : PI P) (G : GI g P C) (ha : 41 < a) (hf : f < 4) (h5 : q f ≤ 5) (he : e < 2 ^ q f) (hP : PN (2 ^ q f) (2 ^ (12 - q f)) (g f) e = e) (hL : LN (2 ^ q f) (2 ^ (12 - q f)) (g f) e = 0) (V : TV (2 ^ q f) (2 ^ (12 - q f)) P C (g f) f t) (kk : ∀ hs', LW X q g P C Q hs' → hs'.length = N → R (.inl (some (.int (nI true.toNat))), hs', cc, ss)) : ∀ d k mm gg hs w12 w13 w14, k + d = 2 ^ q f → mm ≤ k → gg ≤ k → LlI (2 ^ q f) (PN (2 ^ q f) (2 ^ (12 - q f)) (g f)) (LN (2 ^ q f) (2 ^ (12 - q f)) (g f)) e k mm gg → LW X q g P C Q hs → hs.length = N → hs[a]? = some (.inl (.int, 32, .inl t)) → EvQ 84 48 (aL a f (q f) (2 ^ q f) e mm gg 1 k w12 w13 w14) [] hs cc ss R := by
  have hn2 : 2 ^ q f ≤ 32 := by
    have := Nat.pow_le_pow_right (show 0 < 2 by omega) h5
    omega
  intro d
  induction d with
  | zero =>
    intro k mm gg hs w12 w13 w14 hk hm hg I W hN ht
    have e1 : k = 2 ^ q f := by omega
    subst e1
    have F := W.2.1.2.2.1 f hf
    obtain ⟨T, t1, t2, hn0, hm0, hnm, hNN, hTL⟩ := F.tab
    have hPn := hTL.1.2.2.1 e
    obtain ⟨T', la, k66⟩ := m66 W.2.1 hf
    have e2 := clm_uniq (ll_clm (lay_tab hn0 hm0 hNN la)) (ll_fin hTL.1 I (by omega))
    rw [e2] at k66
    obtain ⟨hs1, k1, W1, F1⟩ := W.cls k66
    have x0 := W.2.1.1
    refine eq_ (fun _ k => ev_iload f84_48 rfl k) ?_
    refine eq_ (fun _ k => ev_iload f84_50 rfl k) ?_
    refine eq_icN (by omega) (by omega) (tgt := 237) f84_52 rfl (fun _ => ?_) (fun h9 => absurd (by simp only [akN] at *; omega) h9)
    refine eq_ (fun _ k => ev_iload f84_237 rfl k) ?_
    refine eq_ifN (by omega) (tgt := 256) f84_239 rfl (fun h9 => absurd h9 (by simp only [akN] at *; omega)) (fun _ => ?_)
    refine eq_ (fun _ k => ev_aload_n f84_242 rfl k) ?_
    refine eq_ (fun _ k => ev_iload_n f84_243 rfl k) ?_
    refine eq_ (fun _ k => ev_v1 f84_244 ow66 (by assumption) rfl (Nat.le_of_ble_eq_true rfl) (k1) k) ?_
    refine eq_ (fun _ k => ev_iload f84_247 rfl k) ?_
    refine eq_icN (by omega) (by omega) (tgt := 256) f84_249 rfl (fun h9 => absurd h9 (fun w => w rfl)) (fun _ => ?_)
    refine eq_ (fun _ k => ev_iconstN (n := 1) f84_252 k) ?_
    refine eq_ (fun _ k => ev_goto (tgt := 257) f84_253 rfl k) ?_
    first | refine ⟨_, ev_iret f84_257 (rZ rfl true) rfl, ?_⟩ | refine ⟨_, ev_iret f84_257 (rZ rfl false) rfl, ?_⟩ | refine ⟨_, ev_iret f84_257 (rZ rfl _) rfl, ?_⟩
    exact kk hs1 W1 (F1.1.trans hN)
  | succ d ih =>
    intro k mm gg hs w12 w13 w14 hk hm hg I W hN ht
    have F := W.2.1.2.2.1 f hf
    obtain ⟨h3, h8, -⟩ := F.obj
    obtain ⟨T, t1, t2, hn0, hm0, hnm, hNN, hTL⟩ := F.tab
    have hl := hTL.1
    have hPn := hl.2.2.1 e
    have w2 := W.2.2.1
    have hat := Nat.mod_lt (e + k) hn0
    have eu : (e + 2 ^ q f + k) % 2 ^ q f = (e + k) % 2 ^ q f := by
      rw [show e + 2 ^ q f + k = e + k + 2 ^ q f by omega, Nat.add_mod_right]
    obtain ⟨y, y1, y2, y3⟩ := tv_val G hf V hat
    rcases y3 with ⟨j, i, hj, S, y4, y5⟩ | ⟨y4, rfl⟩
    · have S2 := S
      rw [← eu] at S2
      obtain ⟨sh1, sh2⟩ := slot_head hl hm0 hNN (by omega) S2
      rw [eu] at sh1
      have hpj := hp.2 j hj
      have hdl := Nat.div_le_self (P j) (2 ^ (12 - q f))
      have ej : y / 8 - 1 = j := by omega
      by_cases w : P j / 2 ^ (12 - q f) = (e + k) % 2 ^ q f
      · have I2 := ll_h I (sh1.mp w) (fun w9 => sh2 ⟨sh1.mp w, w9⟩)
        refine eq_ (fun _ k => ev_iload f84_48 rfl k) ?_
        refine eq_ (fun _ k => ev_iload f84_50 rfl k) ?_
        refine eq_icN (by omega) (by omega) (tgt := 237) f84_52 rfl (fun h9 => absurd h9 (by simp only [akN] at *; omega)) (fun _ => ?_)
        refine eq_ (fun _ k => ev_iload f84_55 rfl k) ?_
        refine eq_ifN (by omega) (tgt := 237) f84_57 rfl (fun h9 => absurd h9 (by simp only [akN] at *; omega)) (fun _ => ?_)
        refine eq_ (fun _ k => ev_iload f84_60 rfl k) ?_
        refine eq_ (fun _ k => ev_iload f84_62 rfl k) ?_
        first | refine eq_ (fun _ k => ev_iaddN f84_64 k) ?_ | refine eq_ (fun _ k => ev_iadd f84_64 k) ?_
        refine eq_ (fun _ k => ev_iload f84_65 rfl k) ?_
        refine eq_ (fun _ k => ev_iremN (by omega) (by omega) (by omega) f84_67 k) ?_
        refine eq_ (fun _ k => ev_istore f84_68 k) ?_
        refine eq_ (fun _ k => ev_aload f84_70 rfl k) ?_
        refine eq_ (fun _ k => ev_iload f84_72 rfl k) ?_
        refine eq_ (fun _ k => ev_iald f84_74 (by assumption) (by omega) (by omega) k) ?_
        rw [y2]
        refine eq_ifN (by omega) (tgt := 103) f84_75 rfl (fun h9 => absurd h9 (by simp only [akN] at *; omega)) (fun _ => ?_)
        refine eq_ (fun _ k => ev_aload_n f84_78 rfl k) ?_
        refine eq_ (fun _ k => ev_aload f84_79 rfl k) ?_
        refine eq_ (fun _ k => ev_iload f84_81 rfl k) ?_
        refine eq_ (fun _ k => ev_iald f84_83 (by assumption) (by omega) (by omega) k) ?_
        rw [y2]
        refine eq_ (fun _ k => ev_bipushN (n := 8) (by omega) f84_84 k) ?_
        refine eq_ (fun _ k => ev_idivN (by omega) (by omega) (by omega) f84_86 k) ?_
        refine eq_ (fun _ k => ev_iconstN (n := 1) f84_87 k) ?_
        refine eq_ (fun _ k => ev_isubN (by omega) f84_88 k) ?_
        rw [ej]
        refine eq_ (fun _ k => ev_iload f84_89 rfl k) ?_
        refine eq_ (fun _ k => ev_s3 f84_91 (by decide) ow80 rfl rfl rfl (Nat.le_of_ble_eq_true rfl) (c80 w2 (by omega) hpj h8) k) ?_
        refine eq_ (fun _ k => ev_iload f84_94 rfl k) ?_
        refine eq_icN (by omega) (by omega) (tgt := 103) f84_96 rfl (fun h9 => absurd h9 (fun w9 => w9 w)) (fun _ => ?_)
        refine eq_ (fun _ k => ev_iconstN (n := 1) f84_99 k) ?_
        refine eq_ (fun _ k => ev_goto (tgt := 104) f84_100 rfl k) ?_
        refine eq_ (fun _ k => ev_istore f84_104 k) ?_
        refine eq_ (fun _ k => ev_aload f84_106 rfl k) ?_
        refine eq_ (fun _ k => ev_iload f84_108 rfl k) ?_
        refine eq_ (fun _ k => ev_iald f84_110 (by assumption) (by omega) (by omega) k) ?_
        rw [y2]
        refine eq_ifN (by omega) (tgt := 118) f84_111 rfl (fun _ => ?_) (fun h9 => absurd (by simp only [akN] at *; omega) h9)
        refine eq_ (fun _ k => ev_iload f84_118 rfl k) ?_
        refine eq_ifN (by omega) (tgt := 127) f84_120 rfl (fun h9 => absurd h9 (by simp only [akN] at *; omega)) (fun _ => ?_)
        refine eq_ (fun _ k => ev_iconstN (n := 1) f84_123 k) ?_
        refine eq_ (fun _ k => ev_goto (tgt := 131) f84_124 rfl k) ?_
        refine eq_ (fun _ k => ev_istore f84_131 k) ?_
        refine l84x (by omega) (by omega) ?_
        exact l84b W hN hC hp G ha hf h5 hat ht V (fun hs' w12 w13 w14 W' hN' ht' => ih (k + 1) _ _ hs' w12 w13 w14 (by omega) (by omega) (by omega) I2 W' hN' ht')
      · have ge := hl.2.2.2.2.1 (e + 2 ^ q f + k)
        have mv : e + 2 ^ q f + k < PN (2 ^ q f) (2 ^ (12 - q f)) (g f) (e + 2 ^ q f + k) := Nat.lt_of_le_of_ne ge (fun w9 => w (sh1.mpr w9.symm))
        have I2 := ll_m hl I (by omega) mv
        refine eq_ (fun _ k => ev_iload f84_48 rfl k) ?_
        refine eq_ (fun _ k => ev_iload f84_50 rfl k) ?_
        refine eq_icN (by omega) (by omega) (tgt := 237) f84_52 rfl (fun h9 => absurd h9 (by simp only [akN] at *; omega)) (fun _ => ?_)
        refine eq_ (fun _ k => ev_iload f84_55 rfl k) ?_
        refine eq_ifN (by omega) (tgt := 237) f84_57 rfl (fun h9 => absurd h9 (by simp only [akN] at *; omega)) (fun _ => ?_)
        refine eq_ (fun _ k => ev_iload f84_60 rfl k) ?_
        refine eq_ (fun _ k => ev_iload f84_62 rfl k) ?_
        first | refine eq_ (fun _ k => ev_iaddN f84_64 k) ?_ | refine eq_ (fun _ k => ev_iadd f84_64 k) ?_
        refine eq_ (fun _ k => ev_iload f84_65 rfl k) ?_
        refine eq_ (fun _ k => ev_iremN (by omega) (by omega) (by omega) f84_67 k) ?_
        refine eq_ (fun _ k => ev_istore f84_68 k) ?_
        refine eq_ (fun _ k => ev_aload f84_70 rfl k) ?_
        refine eq_ (fun _ k => ev_iload f84_72 rfl k) ?_
        refine eq_ (fun _ k => ev_iald f84_74 (by assumption) (by omega) (by omega) k) ?_
        rw [y2]
        refine eq_ifN (by omega) (tgt := 103) f84_75 rfl (fun h9 => absurd h9 (by simp only [akN] at *; omega)) (fun _ => ?_)
        refine eq_ (fun _ k => ev_aload_n f84_78 rfl k) ?_
        refine eq_ (fun _ k => ev_aload f84_79 rfl k) ?_
        refine eq_ (fun _ k => ev_iload f84_81 rfl k) ?_
        refine eq_ (fun _ k => ev_iald f84_83 (by assumption) (by omega) (by omega) k) ?_
        rw [y2]
        refine eq_ (fun _ k => ev_bipushN (n := 8) (by omega) f84_84 k) ?_
        refine eq_ (fun _ k => ev_idivN (by omega) (by omega) (by omega) f84_86 k) ?_
        refine eq_ (fun _ k => ev_iconstN (n := 1) f84_87 k) ?_
        refine eq_ (fun _ k => ev_isubN (by omega) f84_88 k) ?_
        rw [ej]
        refine eq_ (fun _ k => ev_iload f84_89 rfl k) ?_
        refine eq_ (fun _ k => ev_s3 f84_91 (by decide) ow80 rfl rfl rfl (Nat.le_of_ble_eq_true rfl) (c80 w2 (by omega) hpj h8) k) ?_
        refine eq_ (fun _ k => ev_iload f84_94 rfl k) ?_
        refine eq_icN (by omega) (by omega) (tgt := 103) f84_96 rfl (fun _ => ?_) (fun h9 => absurd w h9)
        refine eq_ (fun _ k => ev_iconstN (n := 0) f84_103 k) ?_
        refine eq_ (fun _ k => ev_istore f84_104 k) ?_
        refine eq_ (fun _ k => ev_aload f84_106 rfl k) ?_
        refine eq_ (fun _ k => ev_iload f84_108 rfl k) ?_
        refine eq_ (fun _ k => ev_iald f84_110 (by assumption) (by omega) (by omega) k) ?_
        rw [y2]
        refine eq_ifN (by omega) (tgt := 118) f84_111 rfl (fun _ => ?_) (fun h9 => absurd (by simp only [akN] at *; omega) h9)
        refine eq_ (fun _ k => ev_iload f84_118 rfl k) ?_
        refine eq_ifN (by omega) (tgt := 127) f84_120 rfl (fun _ => ?_) (fun h9 => absurd rfl h9)
        refine eq_ (fun _ k => ev_iload f84_127 rfl k) ?_
        refine eq_ (fun _ k => ev_iconstN (n := 1) f84_129 k) ?_
        first | refine eq_ (fun _ k => ev_iaddN f84_130 k) ?_ | refine eq_ (fun _ k => ev_iadd f84_130 k) ?_
        refine eq_ (fun _ k => ev_istore f84_131 k) ?_
        refine l84x (by omega) (by omega) ?_
        exact l84b W hN hC hp G ha hf h5 hat ht V (fun hs' w12 w13 w14 W' hN' ht' => ih (k + 1) _ _ hs' w12 w13 w14 (by omega) (by omega) (by omega) I2 W' hN' ht')
    · have y6 := y4
      rw [← eu] at y6
      obtain ⟨n1, n2⟩ := slot_none hl hm0 (by omega) y6
      have I2 := ll_e I n1 n2
      refine eq_ (fun _ k => ev_iload f84_48 rfl k) ?_
      refine eq_ (fun _ k => ev_iload f84_50 rfl k) ?_
      refine eq_icN (by omega) (by omega) (tgt := 237) f84_52 rfl (fun h9 => absurd h9 (by simp only [akN] at *; omega)) (fun _ => ?_)
      refine eq_ (fun _ k => ev_iload f84_55 rfl k) ?_
      refine eq_ifN (by omega) (tgt := 237) f84_57 rfl (fun h9 => absurd h9 (by simp only [akN] at *; omega)) (fun _ => ?_)
      refine eq_ (fun _ k => ev_iload f84_60 rfl k) ?_
      refine eq_ (fun _ k => ev_iload f84_62 rfl k) ?_
      first | refine eq_ (fun _ k => ev_iaddN f84_64 k) ?_ | refine eq_ (fun _ k => ev_iadd f84_64 k) ?_
      refine eq_ (fun _ k => ev_iload f84_65 rfl k) ?_
      refine eq_ (fun _ k => ev_iremN (by omega) (by omega) (by omega) f84_67 k) ?_
      refine eq_ (fun _ k => ev_istore f84_68 k) ?_
      refine eq_ (fun _ k => ev_aload f84_70 rfl k) ?_
      refine eq_ (fun _ k => ev_iload f84_72 rfl k) ?_
      refine eq_ (fun _ k => ev_iald f84_74 (by assumption) (by omega) (by omega) k) ?_
      rw [y2]
      refine eq_ifN (by omega) (tgt := 103) f84_75 rfl (fun _ => ?_) (fun h9 => absurd (Nat.le_refl 0) h9)
      refine eq_ (fun _ k => ev_iconstN (n := 0) f84_103 k) ?_
      refine eq_ (fun _ k => ev_istore f84_104 k) ?_
      refine eq_ (fun _ k => ev_aload f84_106 rfl k) ?_
      refine eq_ (fun _ k => ev_iload f84_108 rfl k) ?_
      refine eq_ (fun _ k => ev_iald f84_110 (by assumption) (by omega) (by omega) k) ?_
      rw [y2]
      refine eq_ifN (by omega) (tgt := 118) f84_111 rfl (fun h9 => absurd h9 (fun w9 => w9 rfl)) (fun _ => ?_)
      refine eq_ (fun _ k => ev_iconstN (n := 0) f84_114 k) ?_
      refine eq_ (fun _ k => ev_goto (tgt := 131) f84_115 rfl k) ?_
      refine eq_ (fun _ k => ev_istore f84_131 k) ?_
      refine l84x (by omega) (by omega) ?_
      rw [show max mm 0 = mm by omega]
      exact l84b W hN hC hp G ha hf h5 hat ht V (fun hs' w12 w13 w14 W' hN' ht' => ih (k + 1) _ _ hs' w12 w13 w14 (by omega) (by omega) (by omega) I2 W' hN' ht')
theorem c84 {hs : amH} (W : LW X q g P C Q hs) (hlen : 42 ≤ hs.length) (hC : ∀ j, C j < 2 ^ 20) (hp : PI P) (G : GI g P C) (hf : f < 4) (h5 : q f ≤ 5) : ∃ hs', Ca 84 [.ref 1, .ref 39, .ref 40, .int (nI f), .int (nI (q f))] hs (.inl (some (.int (nI true.toNat))), hs', 1, 32) ∧ LW X q g P C Q hs' ∧ hs'.length = hs.length + 1 := by
  have F := W.2.1.2.2.1 f hf
  obtain ⟨h3, h8, -⟩ := F.obj
  obtain ⟨T, t1, t2, hn0, hm0, hnm, hNN, hTL⟩ := F.tab
  have hl := hTL.1
  obtain ⟨e0, p0, p1, p2⟩ := hl.2.2.2.2.2
  have hl0 : hs.length = hs.length := rfl
  refine caw_mk ow84 (Nat.le_of_ble_eq_true rfl) ?_
  refine eq_ (fun _ k => ev_iconstN (n := 1) f84_0 k) ?_
  refine eq_ (fun _ k => ev_iload f84_1 rfl k) ?_
  refine eq_ (fun _ k => ev_ishl f84_3 k) ?_
  rw [am_shl1 (by omega)]
  refine eq_ (fun _ k => ev_istore f84_4 k) ?_
  refine eq_ (fun _ k => ev_bipushN (n := 32) (by omega) f84_6 k) ?_
  refine eq_na_int (by omega) f84_8 (by assumption) (fun hs1 e1 => ?_)
  have W1 := W.ext (fun j p h => am_ap e1 h)
  have l1 := am_apl e1 hl0
  have c1 := am_apn e1 hl0
  refine eq_ (fun _ k => ev_astore f84_10 k) ?_
  refine eq_ (fun _ k => ev_iconstN (n := 0) f84_12 k) ?_
  refine eq_ (fun _ k => ev_istore f84_13 k) ?_
  refine l84e (N := hs.length + 1) hC hp G (by omega) hf h5 p0 p1 p2 (fun hs e t he hP hL A W' hN' ht' => ?_) e0 0 hs1 _ (Nat.zero_add e0) W1 l1 c1
  have V : TV (2 ^ q f) (2 ^ (12 - q f)) P C (g f) f t := ⟨fun s j i hj S => ta_slot hl hm0 G hf he hP hL A hj S, fun s hs2 h => ta_none hp G hf hnm A hs2 h⟩
  refine eq_ (fun _ k => ev_iconstN (n := 0) f84_36 k) ?_
  refine eq_ (fun _ k => ev_istore f84_37 k) ?_
  refine eq_ (fun _ k => ev_iconstN (n := 0) f84_39 k) ?_
  refine eq_ (fun _ k => ev_istore f84_40 k) ?_
  refine eq_ (fun _ k => ev_iconstN (n := 1) f84_42 k) ?_
  refine eq_ (fun _ k => ev_istore f84_43 k) ?_
  refine eq_ (fun _ k => ev_iconstN (n := 0) f84_45 k) ?_
  refine eq_ (fun _ k => ev_istore f84_46 k) ?_
  exact l84 hC hp G (by omega) hf h5 he hP hL V (fun hs' W9 hN9 => ⟨hs', rfl, W9, hN9⟩) (2 ^ q f) 0 0 0 hs _ _ _ (Nat.zero_add _) (Nat.le_refl _) (Nat.le_refl _) (ll_0 e) W' hN' ht'
end AS
