/-! the law's lay: its code; rows laid by wip/p33/walk.py -/
/-- a world that agrees with hs0 but for the row t at a -/
def TW (hs0 : amH) (a : Nat) (t : Nat → Int32) (hs : amH) : Prop := hs[a]? = some (.inl (.int, 32, .inl t)) ∧ Fr hs0 hs a (a + 1)
theorem TW.st {hs0 hs hs1 : amH} {a : Nat} {t t' : Nat → Int32} (h : TW hs0 a t hs) (e : hs1 = hs.set a (.inl (.int, 32, .inl t'))) : TW hs0 a t' hs1 := ⟨am_set e h.1, h.2.tr (Fr.st e (Nat.le_refl _) (Nat.lt_succ_self _))⟩
/-- lay's locals in its loops -/
abbrev lyL (a f q e n E b k : Nat) (w10 w11 : Option Value) : amL := [some (.ref 39), some (.ref 40), some (.int (nI f)), some (.int (nI q)), some (.int (nI e)), some (.ref a), some (.int (nI n)), some (.int (nI E)), some (.int (nI b)), some (.int (nI k)), w10, w11]
section LC
variable {hs0 : amH} {P C : Nat → Nat} {a f q e n k : Nat} {Q : amOut → Prop}
theorem l82w {j : Nat} (ha : 0 < a) (hn : 0 < n) (hn2 : n ≤ 32) (hj : j < 15) : ∀ (d E l : Nat) (t : Nat → Int32) (hs : amH), 0 < l → l < 2 ^ 20 → enN l = d → E + d < 2 ^ 30 → TW hs0 a t hs → (∀ hs' w, TW hs0 a (lyF n j d E l t) hs' → EvQ 82 223 (lyL a f q e n (E + d) 1 k (some (.int (nI j))) w) [] hs' 0 0 Q) → EvQ 82 184 (lyL a f q e n E 1 k (some (.int (nI j))) (some (.int (nI l)))) [] hs 0 0 Q := by
  intro d
  induction d with
  | zero =>
    intro E l t hs hl _ hd _ _ _
    unfold enN at hd
    omega
  | succ d ih =>
    intro E l t hs hl hl2 hd hE T kk
    have hm := Nat.mod_lt E hn
    have tc := T.1
    have rest : ∀ hs1, hs1 = hs.set a (.inl (.int, 32, .inl (upd t (E % n) (nI (8 * (j + 1) + min l 7))))) → EvQ 82 214 (lyL a f q e n E 1 k (some (.int (nI j))) (some (.int (nI l)))) [] hs1 0 0 Q := by
      intro hs1 e1
      have T1 := T.st e1
      clear tc
      refine eq_ (fun _ k => ev_iincN (d := 1) f82_214 rfl k) ?_
      refine eq_ (fun _ k => ev_iinc f82_217 rfl k) ?_
      refine eq_ (fun _ k => ev_goto (tgt := 179) f82_220 rfl k) ?_
      refine eq_ (fun _ k => ev_iload f82_179 rfl k) ?_
      by_cases h7 : l ≤ 7
      · have hd0 : d = 0 := by rw [enN_one hl h7] at hd; omega
        subst hd0
        refine eq_if (tgt := 223) f82_181 rfl (fun _ => ?_) (fun h9 => absurd (am_le7 h7) h9)
        exact kk hs1 _ T1
      · rw [am_i7, pk_sub (by omega)]
        refine eq_ifN (by omega) (tgt := 223) f82_181 rfl (fun h9 => absurd h9 (by simp only [akN] at *; omega)) (fun _ => ?_)
        refine ih (E + 1) (l - 7) _ hs1 (by omega) (by omega) (by rw [enN_big (by omega)] at hd; omega) (by omega) T1 (fun hs' w T' => ?_)
        have k2 := kk hs' w T'
        rw [show E + (d + 1) = E + 1 + d by omega] at k2
        exact k2
    by_cases h7 : l < 7
    · rw [show min l 7 = l by omega] at rest
      refine eq_ (fun _ k => ev_aload f82_184 rfl k) ?_
      refine eq_ (fun _ k => ev_iload f82_186 rfl k) ?_
      refine eq_ (fun _ k => ev_iload f82_188 rfl k) ?_
      refine eq_ (fun _ k => ev_iremN (by omega) (by omega) (by omega) f82_190 k) ?_
      refine eq_ (fun _ k => ev_bipushN (n := 8) (by omega) f82_191 k) ?_
      refine eq_ (fun _ k => ev_iload f82_193 rfl k) ?_
      refine eq_ (fun _ k => ev_iconstN (n := 1) f82_195 k) ?_
      first | refine eq_ (fun _ k => ev_iaddN f82_196 k) ?_ | refine eq_ (fun _ k => ev_iadd f82_196 k) ?_
      first | refine eq_ (fun _ k => ev_imulN f82_197 k) ?_ | refine eq_ (fun _ k => ev_imul f82_197 k) ?_
      refine eq_ (fun _ k => ev_iload f82_198 rfl k) ?_
      refine eq_ (fun _ k => ev_bipushN (n := 7) (by omega) f82_200 k) ?_
      refine eq_icN (by omega) (by omega) (tgt := 210) f82_202 rfl (fun h9 => absurd h9 (by simp only [akN] at *; omega)) (fun _ => ?_)
      refine eq_ (fun _ k => ev_iload f82_205 rfl k) ?_
      refine eq_ (fun _ k => ev_goto (tgt := 212) f82_207 rfl k) ?_
      first | refine eq_ (fun _ k => ev_iaddN f82_212 k) ?_ | refine eq_ (fun _ k => ev_iadd f82_212 k) ?_
      refine eq_iast f82_213 (by assumption) (by omega) (by omega) (by omega) (fun hs1 e1 => ?_)
      exact rest hs1 e1
    · rw [show min l 7 = 7 by omega] at rest
      refine eq_ (fun _ k => ev_aload f82_184 rfl k) ?_
      refine eq_ (fun _ k => ev_iload f82_186 rfl k) ?_
      refine eq_ (fun _ k => ev_iload f82_188 rfl k) ?_
      refine eq_ (fun _ k => ev_iremN (by omega) (by omega) (by omega) f82_190 k) ?_
      refine eq_ (fun _ k => ev_bipushN (n := 8) (by omega) f82_191 k) ?_
      refine eq_ (fun _ k => ev_iload f82_193 rfl k) ?_
      refine eq_ (fun _ k => ev_iconstN (n := 1) f82_195 k) ?_
      first | refine eq_ (fun _ k => ev_iaddN f82_196 k) ?_ | refine eq_ (fun _ k => ev_iadd f82_196 k) ?_
      first | refine eq_ (fun _ k => ev_imulN f82_197 k) ?_ | refine eq_ (fun _ k => ev_imul f82_197 k) ?_
      refine eq_ (fun _ k => ev_iload f82_198 rfl k) ?_
      refine eq_ (fun _ k => ev_bipushN (n := 7) (by omega) f82_200 k) ?_
      refine eq_icN (by omega) (by omega) (tgt := 210) f82_202 rfl (fun _ => ?_) (fun h9 => absurd (by simp only [akN] at *; omega) h9)
      refine eq_ (fun _ k => ev_bipushN (n := 7) (by omega) f82_210 k) ?_
      first | refine eq_ (fun _ k => ev_iaddN f82_212 k) ?_ | refine eq_ (fun _ k => ev_iadd f82_212 k) ?_
      refine eq_iast f82_213 (by assumption) (by omega) (by omega) (by omega) (fun hs1 e1 => ?_)
      exact rest hs1 e1
theorem enN_lt {c : Nat} (h : c < 2 ^ 20) : enN c ≤ 262144 := by
  unfold enN
  omega
theorem l82j {m : Nat} (hp : hs0[39]? = some (.inl (.int, 16, .inl (fun j => nI (P j))))) (h : hs0[40]? = some (.inl (.int, 64, .inl (fun j => nI (C j))))) (hP : ∀ j, j < 15 → P j < 4096) (hC : ∀ j, C j < 2 ^ 20) (ha : 41 < a) (hf : f < 4) (hq : q ≤ 8) (hm : m = 2 ^ (12 - q)) (hn : 0 < n) (hn2 : n ≤ 32) (hk : k < 1000) : ∀ (d j E : Nat) (t : Nat → Int32) (hs : amH) (w11 : Option Value), j + d = 15 → E + d * 262144 ≤ 268435456 → TW hs0 a t hs → (∀ hs' w10 w11, TW hs0 a (lyJ n m (k % n) P (cfN C f) d j E t).2 hs' → EvQ 82 229 (lyL a f q e n (lyJ n m (k % n) P (cfN C f) d j E t).1 1 k w10 w11) [] hs' 0 0 Q) → EvQ 82 137 (lyL a f q e n E 1 k (some (.int (nI j))) w11) [] hs 0 0 Q := by
  intro d
  induction d with
  | zero =>
    intro j E t hs w11 hj hE T kk
    have e1 : j = 15 := by omega
    subst e1
    refine eq_ (fun _ k => ev_iload f82_137 rfl k) ?_
    refine eq_ (fun _ k => ev_bipushN (n := 15) (by omega) f82_139 k) ?_
    refine eq_icN (by omega) (by omega) (tgt := 229) f82_141 rfl (fun _ => ?_) (fun h9 => absurd (by simp only [akN] at *; omega) h9)
    exact kk hs _ _ T
  | succ d ih =>
    intro j E t hs w11 hj hE T kk
    have hp1 := (T.2.2 39 (by omega)).trans hp
    have hc1 := (T.2.2 40 (by omega)).trans h
    have hpj := hP j (by omega)
    have hcj := hC (16 * f + j)
    have hdl := Nat.div_le_self (P j) (2 ^ (12 - q))
    have hmd := Nat.mod_lt k hn
    have hen := enN_lt hcj
    subst hm
    unfold lyJ at kk
    by_cases w : P j / 2 ^ (12 - q) = k % n
    · by_cases w0 : 0 < cfN C f j
      · rw [if_pos ⟨w, w0⟩] at kk
        have w1 : 0 < C (16 * f + j) := w0
        refine eq_ (fun _ k => ev_iload f82_137 rfl k) ?_
        refine eq_ (fun _ k => ev_bipushN (n := 15) (by omega) f82_139 k) ?_
        refine eq_icN (by omega) (by omega) (tgt := 229) f82_141 rfl (fun h9 => absurd h9 (by simp only [akN] at *; omega)) (fun _ => ?_)
        refine eq_ (fun _ k => ev_iload f82_144 rfl k) ?_
        refine eq_ifN (by omega) (tgt := 229) f82_146 rfl (fun h9 => absurd h9 (by simp only [akN] at *; omega)) (fun _ => ?_)
        refine eq_ (fun _ k => ev_aload_n f82_149 rfl k) ?_
        refine eq_ (fun _ k => ev_iload f82_150 rfl k) ?_
        refine eq_ (fun _ k => ev_iload_n f82_152 rfl k) ?_
        refine eq_ (fun _ k => ev_s3 f82_153 (by decide) ow80 rfl rfl rfl (Nat.le_of_ble_eq_true rfl) (c80 hp1 (by omega) hpj hq) k) ?_
        refine eq_ (fun _ k => ev_iload f82_156 rfl k) ?_
        refine eq_ (fun _ k => ev_iload f82_158 rfl k) ?_
        refine eq_ (fun _ k => ev_iremN (by omega) (by omega) (by omega) f82_160 k) ?_
        refine eq_icN (by omega) (by omega) (tgt := 176) f82_161 rfl (fun h9 => absurd h9 (fun w9 => w9 w)) (fun _ => ?_)
        refine eq_ (fun _ k => ev_aload_n f82_164 rfl k) ?_
        refine eq_ (fun _ k => ev_bipushN (n := 16) (by omega) f82_165 k) ?_
        refine eq_ (fun _ k => ev_iload_n f82_167 rfl k) ?_
        first | refine eq_ (fun _ k => ev_imulN f82_168 k) ?_ | refine eq_ (fun _ k => ev_imul f82_168 k) ?_
        refine eq_ (fun _ k => ev_iload f82_169 rfl k) ?_
        first | refine eq_ (fun _ k => ev_iaddN f82_171 k) ?_ | refine eq_ (fun _ k => ev_iadd f82_171 k) ?_
        refine eq_ (fun _ k => ev_iald f82_172 (by assumption) (by omega) (by omega) k) ?_
        refine eq_ (fun _ k => ev_goto (tgt := 177) f82_173 rfl k) ?_
        refine eq_ (fun _ k => ev_istore f82_177 k) ?_
        refine eq_ (fun _ k => ev_iload f82_179 rfl k) ?_
        refine eq_ifN (by omega) (tgt := 223) f82_181 rfl (fun h9 => absurd h9 (by simp only [akN] at *; omega)) (fun _ => ?_)
        refine l82w (by omega) hn hn2 (by omega) (enN (cfN C f j)) E (C (16 * f + j)) t hs w1 hcj rfl (show E + enN (C (16 * f + j)) < 2 ^ 30 by omega) T (fun hs' w T' => ?_)
        refine eq_ (fun _ k => ev_iincN (d := 1) f82_223 rfl k) ?_
        refine eq_ (fun _ k => ev_goto (tgt := 137) f82_226 rfl k) ?_
        exact ih (j + 1) _ _ hs' _ (by omega) (show E + enN (C (16 * f + j)) + d * 262144 ≤ 268435456 by omega) T' kk
      · rw [if_neg (fun w9 => w0 w9.2)] at kk
        have w1 : C (16 * f + j) = 0 := Nat.eq_zero_of_not_pos w0
        refine eq_ (fun _ k => ev_iload f82_137 rfl k) ?_
        refine eq_ (fun _ k => ev_bipushN (n := 15) (by omega) f82_139 k) ?_
        refine eq_icN (by omega) (by omega) (tgt := 229) f82_141 rfl (fun h9 => absurd h9 (by simp only [akN] at *; omega)) (fun _ => ?_)
        refine eq_ (fun _ k => ev_iload f82_144 rfl k) ?_
        refine eq_ifN (by omega) (tgt := 229) f82_146 rfl (fun h9 => absurd h9 (by simp only [akN] at *; omega)) (fun _ => ?_)
        refine eq_ (fun _ k => ev_aload_n f82_149 rfl k) ?_
        refine eq_ (fun _ k => ev_iload f82_150 rfl k) ?_
        refine eq_ (fun _ k => ev_iload_n f82_152 rfl k) ?_
        refine eq_ (fun _ k => ev_s3 f82_153 (by decide) ow80 rfl rfl rfl (Nat.le_of_ble_eq_true rfl) (c80 hp1 (by omega) hpj hq) k) ?_
        refine eq_ (fun _ k => ev_iload f82_156 rfl k) ?_
        refine eq_ (fun _ k => ev_iload f82_158 rfl k) ?_
        refine eq_ (fun _ k => ev_iremN (by omega) (by omega) (by omega) f82_160 k) ?_
        refine eq_icN (by omega) (by omega) (tgt := 176) f82_161 rfl (fun h9 => absurd h9 (fun w9 => w9 w)) (fun _ => ?_)
        refine eq_ (fun _ k => ev_aload_n f82_164 rfl k) ?_
        refine eq_ (fun _ k => ev_bipushN (n := 16) (by omega) f82_165 k) ?_
        refine eq_ (fun _ k => ev_iload_n f82_167 rfl k) ?_
        first | refine eq_ (fun _ k => ev_imulN f82_168 k) ?_ | refine eq_ (fun _ k => ev_imul f82_168 k) ?_
        refine eq_ (fun _ k => ev_iload f82_169 rfl k) ?_
        first | refine eq_ (fun _ k => ev_iaddN f82_171 k) ?_ | refine eq_ (fun _ k => ev_iadd f82_171 k) ?_
        refine eq_ (fun _ k => ev_iald f82_172 (by assumption) (by omega) (by omega) k) ?_
        refine eq_ (fun _ k => ev_goto (tgt := 177) f82_173 rfl k) ?_
        refine eq_ (fun _ k => ev_istore f82_177 k) ?_
        refine eq_ (fun _ k => ev_iload f82_179 rfl k) ?_
        refine eq_ifN (by omega) (tgt := 223) f82_181 rfl (fun _ => ?_) (fun h9 => absurd (by simp only [akN] at *; omega) h9)
        refine eq_ (fun _ k => ev_iincN (d := 1) f82_223 rfl k) ?_
        refine eq_ (fun _ k => ev_goto (tgt := 137) f82_226 rfl k) ?_
        have hE2 : E + d * 262144 ≤ 268435456 := Nat.le_trans (Nat.add_le_add_left (Nat.mul_le_mul_right 262144 (Nat.le_succ d)) E) hE
        exact ih (j + 1) E t hs _ (by omega) hE2 T kk
    · rw [if_neg (fun w9 => w w9.1)] at kk
      refine eq_ (fun _ k => ev_iload f82_137 rfl k) ?_
      refine eq_ (fun _ k => ev_bipushN (n := 15) (by omega) f82_139 k) ?_
      refine eq_icN (by omega) (by omega) (tgt := 229) f82_141 rfl (fun h9 => absurd h9 (by simp only [akN] at *; omega)) (fun _ => ?_)
      refine eq_ (fun _ k => ev_iload f82_144 rfl k) ?_
      refine eq_ifN (by omega) (tgt := 229) f82_146 rfl (fun h9 => absurd h9 (by simp only [akN] at *; omega)) (fun _ => ?_)
      refine eq_ (fun _ k => ev_aload_n f82_149 rfl k) ?_
      refine eq_ (fun _ k => ev_iload f82_150 rfl k) ?_
      refine eq_ (fun _ k => ev_iload_n f82_152 rfl k) ?_
      refine eq_ (fun _ k => ev_s3 f82_153 (by decide) ow80 rfl rfl rfl (Nat.le_of_ble_eq_true rfl) (c80 hp1 (by omega) hpj hq) k) ?_
      refine eq_ (fun _ k => ev_iload f82_156 rfl k) ?_
      refine eq_ (fun _ k => ev_iload f82_158 rfl k) ?_
      refine eq_ (fun _ k => ev_iremN (by omega) (by omega) (by omega) f82_160 k) ?_
      refine eq_icN (by omega) (by omega) (tgt := 176) f82_161 rfl (fun _ => ?_) (fun h9 => absurd w h9)
      refine eq_ (fun _ k => ev_iconstN (n := 0) f82_176 k) ?_
      refine eq_ (fun _ k => ev_istore f82_177 k) ?_
      refine eq_ (fun _ k => ev_iload f82_179 rfl k) ?_
      refine eq_ifN (by omega) (tgt := 223) f82_181 rfl (fun _ => ?_) (fun h9 => absurd (by simp only [akN] at *; omega) h9)
      refine eq_ (fun _ k => ev_iincN (d := 1) f82_223 rfl k) ?_
      refine eq_ (fun _ k => ev_goto (tgt := 137) f82_226 rfl k) ?_
      have hE2 : E + d * 262144 ≤ 268435456 := Nat.le_trans (Nat.add_le_add_left (Nat.mul_le_mul_right 262144 (Nat.le_succ d)) E) hE
      exact ih (j + 1) E t hs _ (by omega) hE2 T kk
/-- a turn of lay's outer loop -/
theorem l82s {m R E : Nat} {t : Nat → Int32} {hs : amH} {w10 w11 : Option Value} (hp : hs0[39]? = some (.inl (.int, 16, .inl (fun j => nI (P j))))) (h : hs0[40]? = some (.inl (.int, 64, .inl (fun j => nI (C j))))) (hP : ∀ j, j < 15 → P j < 4096) (hC : ∀ j, C j < 2 ^ 20) (ha : 41 < a) (hf : f < 4) (hq : q ≤ 8) (hm : m = 2 ^ (12 - q)) (hn : 0 < n) (hn2 : n ≤ 32) (he : e < n) (hk : k < e + n) (hE : E ≤ 1000) (hR : R = smN (rnN P C f m (k % n)) 15) (hR2 : R ≤ 1000) (T : TW hs0 a t hs) (k0 : R = 0 → ∀ w10 w11, EvQ 82 58 (lyL a f q e n E 1 (k + 1) w10 w11) [] hs 0 0 Q) (k1 : 0 < R → max E k + R ≤ e + n → ∀ hs' w10 w11, TW hs0 a (lyJ n m (k % n) P (cfN C f) 15 0 (max E k) t).2 hs' → EvQ 82 58 (lyL a f q e n (lyJ n m (k % n) P (cfN C f) 15 0 (max E k) t).1 1 (k + 1) w10 w11) [] hs' 0 0 Q) (k2 : 0 < R → e + n < max E k + R → ∀ w10 w11, EvQ 82 58 (lyL a f q e n (max E k) 0 (k + 1) w10 w11) [] hs 0 0 Q) : EvQ 82 58 (lyL a f q e n E 1 k w10 w11) [] hs 0 0 Q := by
  have hp1 := (T.2.2 39 (by omega)).trans hp
  have hc1 := (T.2.2 40 (by omega)).trans h
  have hmd := Nat.mod_lt k hn
  have r : Cr 81 [.ref 39, .ref 40, .int (nI f), .int (nI q), .int (nI (k % n))] hs (some (.int (nI R))) hs := by
    rw [hR, hm]
    exact c81 hf hp1 hc1 hP hC hq (by omega)
  by_cases z : R = 0
  · refine eq_ (fun _ k => ev_iload f82_58 rfl k) ?_
    refine eq_ (fun _ k => ev_iload f82_60 rfl k) ?_
    refine eq_ (fun _ k => ev_iload f82_62 rfl k) ?_
    first | refine eq_ (fun _ k => ev_iaddN f82_64 k) ?_ | refine eq_ (fun _ k => ev_iadd f82_64 k) ?_
    refine eq_icN (by omega) (by omega) (tgt := 235) f82_65 rfl (fun h9 => absurd h9 (by simp only [akN] at *; omega)) (fun _ => ?_)
    refine eq_ (fun _ k => ev_iload f82_68 rfl k) ?_
    refine eq_ifN (by omega) (tgt := 235) f82_70 rfl (fun h9 => absurd h9 (by simp only [akN] at *; omega)) (fun _ => ?_)
    refine eq_ (fun _ k => ev_aload_n f82_73 rfl k) ?_
    refine eq_ (fun _ k => ev_aload_n f82_74 rfl k) ?_
    refine eq_ (fun _ k => ev_iload_n f82_75 rfl k) ?_
    refine eq_ (fun _ k => ev_iload_n f82_76 rfl k) ?_
    refine eq_ (fun _ k => ev_iload f82_77 rfl k) ?_
    refine eq_ (fun _ k => ev_iload f82_79 rfl k) ?_
    refine eq_ (fun _ k => ev_iremN (by omega) (by omega) (by omega) f82_81 k) ?_
    refine eq_ (fun _ k => ev_s5 f82_82 (by decide) ow81 rfl rfl rfl rfl rfl (Nat.le_of_ble_eq_true rfl) (r) k) ?_
    refine eq_ifN (by omega) (tgt := 229) f82_85 rfl (fun _ => ?_) (fun h9 => absurd (by simp only [akN] at *; omega) h9)
    refine eq_ (fun _ k => ev_iincN (d := 1) f82_229 rfl k) ?_
    refine eq_ (fun _ k => ev_goto (tgt := 58) f82_232 rfl k) ?_
    exact k0 z _ _
  · have after : ∀ E', E' = max E k → EvQ 82 104 (lyL a f q e n E' 1 k w10 w11) [] hs 0 0 Q := by
      intro E' hE'
      by_cases w : E' + R ≤ e + n
      · refine eq_ (fun _ k => ev_iload f82_104 rfl k) ?_
        refine eq_ (fun _ k => ev_aload_n f82_106 rfl k) ?_
        refine eq_ (fun _ k => ev_aload_n f82_107 rfl k) ?_
        refine eq_ (fun _ k => ev_iload_n f82_108 rfl k) ?_
        refine eq_ (fun _ k => ev_iload_n f82_109 rfl k) ?_
        refine eq_ (fun _ k => ev_iload f82_110 rfl k) ?_
        refine eq_ (fun _ k => ev_iload f82_112 rfl k) ?_
        refine eq_ (fun _ k => ev_iremN (by omega) (by omega) (by omega) f82_114 k) ?_
        refine eq_ (fun _ k => ev_s5 f82_115 (by decide) ow81 rfl rfl rfl rfl rfl (Nat.le_of_ble_eq_true rfl) (r) k) ?_
        first | refine eq_ (fun _ k => ev_iaddN f82_118 k) ?_ | refine eq_ (fun _ k => ev_iadd f82_118 k) ?_
        refine eq_ (fun _ k => ev_iload f82_119 rfl k) ?_
        refine eq_ (fun _ k => ev_iload f82_121 rfl k) ?_
        first | refine eq_ (fun _ k => ev_iaddN f82_123 k) ?_ | refine eq_ (fun _ k => ev_iadd f82_123 k) ?_
        refine eq_icN (by omega) (by omega) (tgt := 131) f82_124 rfl (fun h9 => absurd h9 (by simp only [akN] at *; omega)) (fun _ => ?_)
        refine eq_ (fun _ k => ev_iconstN (n := 1) f82_127 k) ?_
        refine eq_ (fun _ k => ev_goto (tgt := 132) f82_128 rfl k) ?_
        refine eq_ (fun _ k => ev_istore f82_132 k) ?_
        refine eq_ (fun _ k => ev_iconstN (n := 0) f82_134 k) ?_
        refine eq_ (fun _ k => ev_istore f82_135 k) ?_
        refine l82j (m := m) hp h hP hC ha hf hq hm hn hn2 (by omega) 15 0 E' t hs _ rfl (by omega) T (fun hs' x10 x11 T' => ?_)
        refine eq_ (fun _ k => ev_iincN (d := 1) f82_229 rfl k) ?_
        refine eq_ (fun _ k => ev_goto (tgt := 58) f82_232 rfl k) ?_
        rw [hE'] at T' ⊢
        exact k1 (by omega) (by omega) hs' _ _ T'
      · refine eq_ (fun _ k => ev_iload f82_104 rfl k) ?_
        refine eq_ (fun _ k => ev_aload_n f82_106 rfl k) ?_
        refine eq_ (fun _ k => ev_aload_n f82_107 rfl k) ?_
        refine eq_ (fun _ k => ev_iload_n f82_108 rfl k) ?_
        refine eq_ (fun _ k => ev_iload_n f82_109 rfl k) ?_
        refine eq_ (fun _ k => ev_iload f82_110 rfl k) ?_
        refine eq_ (fun _ k => ev_iload f82_112 rfl k) ?_
        refine eq_ (fun _ k => ev_iremN (by omega) (by omega) (by omega) f82_114 k) ?_
        refine eq_ (fun _ k => ev_s5 f82_115 (by decide) ow81 rfl rfl rfl rfl rfl (Nat.le_of_ble_eq_true rfl) (r) k) ?_
        first | refine eq_ (fun _ k => ev_iaddN f82_118 k) ?_ | refine eq_ (fun _ k => ev_iadd f82_118 k) ?_
        refine eq_ (fun _ k => ev_iload f82_119 rfl k) ?_
        refine eq_ (fun _ k => ev_iload f82_121 rfl k) ?_
        first | refine eq_ (fun _ k => ev_iaddN f82_123 k) ?_ | refine eq_ (fun _ k => ev_iadd f82_123 k) ?_
        refine eq_icN (by omega) (by omega) (tgt := 131) f82_124 rfl (fun _ => ?_) (fun h9 => absurd (by simp only [akN] at *; omega) h9)
        refine eq_ (fun _ k => ev_iconstN (n := 0) f82_131 k) ?_
        refine eq_ (fun _ k => ev_istore f82_132 k) ?_
        refine eq_ (fun _ k => ev_iconstN (n := 0) f82_134 k) ?_
        refine eq_ (fun _ k => ev_istore f82_135 k) ?_
        refine eq_ (fun _ k => ev_iload f82_137 rfl k) ?_
        refine eq_ (fun _ k => ev_bipushN (n := 15) (by omega) f82_139 k) ?_
        refine eq_icN (by omega) (by omega) (tgt := 229) f82_141 rfl (fun h9 => absurd h9 (by simp only [akN] at *; omega)) (fun _ => ?_)
        refine eq_ (fun _ k => ev_iload f82_144 rfl k) ?_
        refine eq_ifN (by omega) (tgt := 229) f82_146 rfl (fun _ => ?_) (fun h9 => absurd rfl h9)
        refine eq_ (fun _ k => ev_iincN (d := 1) f82_229 rfl k) ?_
        refine eq_ (fun _ k => ev_goto (tgt := 58) f82_232 rfl k) ?_
        rw [hE']
        exact k2 (by omega) (by omega) _ _
    by_cases w : E < k
    · have a2 := after k (by omega)
      refine eq_ (fun _ k => ev_iload f82_58 rfl k) ?_
      refine eq_ (fun _ k => ev_iload f82_60 rfl k) ?_
      refine eq_ (fun _ k => ev_iload f82_62 rfl k) ?_
      first | refine eq_ (fun _ k => ev_iaddN f82_64 k) ?_ | refine eq_ (fun _ k => ev_iadd f82_64 k) ?_
      refine eq_icN (by omega) (by omega) (tgt := 235) f82_65 rfl (fun h9 => absurd h9 (by simp only [akN] at *; omega)) (fun _ => ?_)
      refine eq_ (fun _ k => ev_iload f82_68 rfl k) ?_
      refine eq_ifN (by omega) (tgt := 235) f82_70 rfl (fun h9 => absurd h9 (by simp only [akN] at *; omega)) (fun _ => ?_)
      refine eq_ (fun _ k => ev_aload_n f82_73 rfl k) ?_
      refine eq_ (fun _ k => ev_aload_n f82_74 rfl k) ?_
      refine eq_ (fun _ k => ev_iload_n f82_75 rfl k) ?_
      refine eq_ (fun _ k => ev_iload_n f82_76 rfl k) ?_
      refine eq_ (fun _ k => ev_iload f82_77 rfl k) ?_
      refine eq_ (fun _ k => ev_iload f82_79 rfl k) ?_
      refine eq_ (fun _ k => ev_iremN (by omega) (by omega) (by omega) f82_81 k) ?_
      refine eq_ (fun _ k => ev_s5 f82_82 (by decide) ow81 rfl rfl rfl rfl rfl (Nat.le_of_ble_eq_true rfl) (r) k) ?_
      refine eq_ifN (by omega) (tgt := 229) f82_85 rfl (fun h9 => absurd h9 (by simp only [akN] at *; omega)) (fun _ => ?_)
      refine eq_ (fun _ k => ev_iload f82_88 rfl k) ?_
      refine eq_ (fun _ k => ev_iload f82_90 rfl k) ?_
      refine eq_icN (by omega) (by omega) (tgt := 100) f82_92 rfl (fun h9 => absurd h9 (by simp only [akN] at *; omega)) (fun _ => ?_)
      refine eq_ (fun _ k => ev_iload f82_95 rfl k) ?_
      refine eq_ (fun _ k => ev_goto (tgt := 102) f82_97 rfl k) ?_
      refine eq_ (fun _ k => ev_istore f82_102 k) ?_
      exact a2
    · have a2 := after E (by omega)
      refine eq_ (fun _ k => ev_iload f82_58 rfl k) ?_
      refine eq_ (fun _ k => ev_iload f82_60 rfl k) ?_
      refine eq_ (fun _ k => ev_iload f82_62 rfl k) ?_
      first | refine eq_ (fun _ k => ev_iaddN f82_64 k) ?_ | refine eq_ (fun _ k => ev_iadd f82_64 k) ?_
      refine eq_icN (by omega) (by omega) (tgt := 235) f82_65 rfl (fun h9 => absurd h9 (by simp only [akN] at *; omega)) (fun _ => ?_)
      refine eq_ (fun _ k => ev_iload f82_68 rfl k) ?_
      refine eq_ifN (by omega) (tgt := 235) f82_70 rfl (fun h9 => absurd h9 (by simp only [akN] at *; omega)) (fun _ => ?_)
      refine eq_ (fun _ k => ev_aload_n f82_73 rfl k) ?_
      refine eq_ (fun _ k => ev_aload_n f82_74 rfl k) ?_
      refine eq_ (fun _ k => ev_iload_n f82_75 rfl k) ?_
      refine eq_ (fun _ k => ev_iload_n f82_76 rfl k) ?_
      refine eq_ (fun _ k => ev_iload f82_77 rfl k) ?_
      refine eq_ (fun _ k => ev_iload f82_79 rfl k) ?_
      refine eq_ (fun _ k => ev_iremN (by omega) (by omega) (by omega) f82_81 k) ?_
      refine eq_ (fun _ k => ev_s5 f82_82 (by decide) ow81 rfl rfl rfl rfl rfl (Nat.le_of_ble_eq_true rfl) (r) k) ?_
      refine eq_ifN (by omega) (tgt := 229) f82_85 rfl (fun h9 => absurd h9 (by simp only [akN] at *; omega)) (fun _ => ?_)
      refine eq_ (fun _ k => ev_iload f82_88 rfl k) ?_
      refine eq_ (fun _ k => ev_iload f82_90 rfl k) ?_
      refine eq_icN (by omega) (by omega) (tgt := 100) f82_92 rfl (fun _ => ?_) (fun h9 => absurd (by simp only [akN] at *; omega) h9)
      refine eq_ (fun _ k => ev_iload f82_100 rfl k) ?_
      refine eq_ (fun _ k => ev_istore f82_102 k) ?_
      exact a2
/-- behind a run that does not fit -/
theorem l82n {E : Nat} {hs : amH} {w10 w11 : Option Value} {P2 : amH → Prop} (he : e < n) (hn2 : n ≤ 32) (hk : k ≤ e + n) (h : P2 hs) : EvQ 82 58 (lyL a f q e n E 0 k w10 w11) [] hs 0 0 (Rt (some (.int (nI false.toNat))) P2) := by
  by_cases w : k < e + n
  · refine eq_ (fun _ k => ev_iload f82_58 rfl k) ?_
    refine eq_ (fun _ k => ev_iload f82_60 rfl k) ?_
    refine eq_ (fun _ k => ev_iload f82_62 rfl k) ?_
    first | refine eq_ (fun _ k => ev_iaddN f82_64 k) ?_ | refine eq_ (fun _ k => ev_iadd f82_64 k) ?_
    refine eq_icN (by omega) (by omega) (tgt := 235) f82_65 rfl (fun h9 => absurd h9 (by simp only [akN] at *; omega)) (fun _ => ?_)
    refine eq_ (fun _ k => ev_iload f82_68 rfl k) ?_
    refine eq_ifN (by omega) (tgt := 235) f82_70 rfl (fun _ => ?_) (fun h9 => absurd rfl h9)
    refine eq_ (fun _ k => ev_iload f82_235 rfl k) ?_
    first | refine ⟨_, ev_iret f82_237 (rZ rfl true) rfl, ?_⟩ | refine ⟨_, ev_iret f82_237 (rZ rfl false) rfl, ?_⟩ | refine ⟨_, ev_iret f82_237 (rZ rfl _) rfl, ?_⟩
    exact ⟨_, rfl, h⟩
  · refine eq_ (fun _ k => ev_iload f82_58 rfl k) ?_
    refine eq_ (fun _ k => ev_iload f82_60 rfl k) ?_
    refine eq_ (fun _ k => ev_iload f82_62 rfl k) ?_
    first | refine eq_ (fun _ k => ev_iaddN f82_64 k) ?_ | refine eq_ (fun _ k => ev_iadd f82_64 k) ?_
    refine eq_icN (by omega) (by omega) (tgt := 235) f82_65 rfl (fun _ => ?_) (fun h9 => absurd (by simp only [akN] at *; omega) h9)
    refine eq_ (fun _ k => ev_iload f82_235 rfl k) ?_
    first | refine ⟨_, ev_iret f82_237 (rZ rfl true) rfl, ?_⟩ | refine ⟨_, ev_iret f82_237 (rZ rfl false) rfl, ?_⟩ | refine ⟨_, ev_iret f82_237 (rZ rfl _) rfl, ?_⟩
    exact ⟨_, rfl, h⟩
theorem l82z {b : Nat} (ha : 41 < a) (hn : 0 < n) (hn2 : n ≤ 32) (he : e < n) (hfin : ∀ hs t, TW hs0 a t hs → (∀ s, s < n → t s = nI 0) → EvQ 82 58 (lyL a f q e n (e + 1) b (e + 1) none none) [] hs 0 0 Q) : ∀ (d i : Nat) (t : Nat → Int32) (hs : amH), i + d = n → TW hs0 a t hs → (∀ s, s < i → t s = nI 0) → EvQ 82 33 (lyL a f q e n (e + 1) b i none none) [] hs 0 0 Q := by
  intro d
  induction d with
  | zero =>
    intro i t hs hi T h
    have e1 : i = n := by omega
    subst e1
    refine eq_ (fun _ k => ev_iload f82_33 rfl k) ?_
    refine eq_ (fun _ k => ev_iload f82_35 rfl k) ?_
    refine eq_icN (by omega) (by omega) (tgt := 52) f82_37 rfl (fun _ => ?_) (fun h9 => absurd (by simp only [akN] at *; omega) h9)
    refine eq_ (fun _ k => ev_iload f82_52 rfl k) ?_
    refine eq_ (fun _ k => ev_iconstN (n := 1) f82_54 k) ?_
    first | refine eq_ (fun _ k => ev_iaddN f82_55 k) ?_ | refine eq_ (fun _ k => ev_iadd f82_55 k) ?_
    refine eq_ (fun _ k => ev_istore f82_56 k) ?_
    exact hfin hs t T h
  | succ d ih =>
    intro i t hs hi T h
    have tc := T.1
    refine eq_ (fun _ k => ev_iload f82_33 rfl k) ?_
    refine eq_ (fun _ k => ev_iload f82_35 rfl k) ?_
    refine eq_icN (by omega) (by omega) (tgt := 52) f82_37 rfl (fun h9 => absurd h9 (by simp only [akN] at *; omega)) (fun _ => ?_)
    refine eq_ (fun _ k => ev_aload f82_40 rfl k) ?_
    refine eq_ (fun _ k => ev_iload f82_42 rfl k) ?_
    refine eq_ (fun _ k => ev_iconstN (n := 0) f82_44 k) ?_
    refine eq_iast f82_45 (by assumption) (by omega) (by omega) (by omega) (fun hs1 e1 => ?_)
    refine eq_ (fun _ k => ev_iincN (d := 1) f82_46 rfl k) ?_
    refine eq_ (fun _ k => ev_goto (tgt := 33) f82_49 rfl k) ?_
    refine ih (i + 1) _ hs1 (by omega) (T.st e1) (fun s hs2 => ?_)
    unfold upd
    split
    · rfl
    · exact h s (by omega)
end LC
