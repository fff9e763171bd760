/-! the law's isSlot; rows laid by wip/p33/walk.py -/
/-- the law's table, as it should be -/
def TV (n m : Nat) (P C : Nat → Nat) (g : Nat → Nat) (f : Nat) (t : Nat → Int32) : Prop := (∀ s j i, j < 15 → SlotE n m g s (P j) i → t s = nI (8 * (j + 1) + min (cfN C f j - 7 * i) 7)) ∧ ∀ s, s < n → (∀ k i, ¬ SlotE n m g s k i) → t s = nI 0
theorem tv_val {n m f s : Nat} {g : Nat → Nat → Nat} {P C : Nat → Nat} {t : Nat → Int32} (G : GI g P C) (hf : f < 4) (V : TV n m P C (g f) f t) (hs : s < n) : ∃ y, y < 200 ∧ t s = nI y ∧ ((∃ j i, j < 15 ∧ SlotE n m (g f) s (P j) i ∧ y / 8 = j + 1 ∧ y % 8 = min (g f (P j) - 7 * i) 7) ∨ ((∀ k i, ¬ SlotE n m (g f) s k i) ∧ y = 0)) := by
  by_cases w : ∃ k i, SlotE n m (g f) s k i
  · obtain ⟨k, i, S⟩ := w
    obtain ⟨j, hj, rfl⟩ := slot_P G hf S
    have e1 : cfN C f j = g f (P j) := ((G f hf).1 j hj).symm
    have h1 := V.1 s j i hj S
    have h2 := S.2.1
    rw [e1] at h1
    unfold enN at h2
    exact ⟨_, by omega, h1, Or.inl ⟨j, i, hj, S, by omega, by omega⟩⟩
  · exact ⟨0, by omega, V.2 s hs (fun k i S => w ⟨k, i, S⟩), Or.inr ⟨fun k i S => w ⟨k, i, S⟩, rfl⟩⟩
section IS
variable {X : amC} {hs : amH} {q : Nat → Nat} {g : Nat → Nat → Nat} {P C Q : Nat → Nat} {f a s : Nat} {t : Nat → Int32}
theorem l83 {R : amOut → Prop} {w7 w8 w9 w10 w12 : Option Value} (hp1 : hs[39]? = some (.inl (.int, 16, .inl (fun j => nI (P j))))) (hp : PI P) (G : GI g P C) (hf : f < 4) (h5 : q f ≤ 5) (hNN : EE (g f) (2 ^ q f * 2 ^ (12 - q f)) < 2 ^ q f) (ht : hs[a]? = some (.inl (.int, 32, .inl t))) (V : TV (2 ^ q f) (2 ^ (12 - q f)) P C (g f) f t) {c u : Nat} (hu : u < 1000) (hcl : ∀ y, c ≤ y → y ≤ u → ∃ k' i', SlotE (2 ^ q f) (2 ^ (12 - q f)) (g f) (y % 2 ^ q f) k' i' ∧ (k' / 2 ^ (12 - q f) = y % 2 ^ q f ↔ y = c)) (kk : EvQ 83 184 [some (.ref 1), some (.ref 39), some (.ref a), some (.int (nI f)), some (.int (nI (q f))), some (.int (nI s)), some (.int (nI (2 ^ q f))), w7, w8, w9, w10, some (.int (nI (c % 2 ^ q f))), w12] [] hs 0 0 R) : ∀ d y, y = c + d → y ≤ u → EvQ 83 149 [some (.ref 1), some (.ref 39), some (.ref a), some (.int (nI f)), some (.int (nI (q f))), some (.int (nI s)), some (.int (nI (2 ^ q f))), w7, w8, w9, w10, some (.int (nI (y % 2 ^ q f))), w12] [] hs 0 0 R := by
  have hn2 : 2 ^ q f ≤ 32 := by
    have := Nat.pow_le_pow_right (show 0 < 2 by omega) h5
    omega
  have hn0 : 0 < 2 ^ q f := Nat.two_pow_pos _
  intro d
  induction d with
  | zero =>
    intro y hy hyu
    obtain ⟨k', i', S, e1⟩ := hcl y (by omega) hyu
    obtain ⟨j, hj, rfl⟩ := slot_P G hf S
    have hmy := Nat.mod_lt y hn0
    obtain ⟨v, v1, v2, v3⟩ := tv_val G hf V hmy
    have e2 := e1.mpr (by omega)
    rcases v3 with ⟨j', i2, hj', S', v4, v5⟩ | ⟨v4, v5⟩
    · obtain ⟨e3, -⟩ : P j' = P j ∧ i2 = i' := slot_uniq hn0 (Nat.two_pow_pos _) hNN S' S
      have e4 := hp.inj hj' hj e3
      subst e4
      have hpj := hp.2 j' hj
      have hdl := Nat.div_le_self (P j') (2 ^ (12 - q f))
      have ej : v / 8 - 1 = j' := by omega
      refine eq_ (fun _ k => ev_aload_n f83_149 rfl k) ?_
      refine eq_ (fun _ k => ev_aload_n f83_150 rfl k) ?_
      refine eq_ (fun _ k => ev_iload f83_151 rfl k) ?_
      refine eq_ (fun _ k => ev_iald f83_153 (by assumption) (by omega) (by omega) k) ?_
      rw [v2]
      refine eq_ (fun _ k => ev_bipushN (n := 8) (by omega) f83_154 k) ?_
      refine eq_ (fun _ k => ev_idivN (by omega) (by omega) (by omega) f83_156 k) ?_
      refine eq_ (fun _ k => ev_iconstN (n := 1) f83_157 k) ?_
      refine eq_ (fun _ k => ev_isubN (by omega) f83_158 k) ?_
      rw [ej]
      refine eq_ (fun _ k => ev_iload f83_159 rfl k) ?_
      refine eq_ (fun _ k => ev_s3 f83_161 (by decide) ow80 rfl rfl rfl (Nat.le_of_ble_eq_true rfl) (c80 hp1 (by omega) hpj (by omega)) k) ?_
      refine eq_ (fun _ k => ev_iload f83_164 rfl k) ?_
      refine eq_icN (by omega) (by omega) (tgt := 184) f83_166 rfl (fun _ => ?_) (fun h9 => absurd e2 h9)
      rw [show y = c by omega]
      exact kk
    · exact absurd S (v4 _ _)
  | succ d ih =>
    intro y hy hyu
    obtain ⟨k', i', S, e1⟩ := hcl y (by omega) hyu
    obtain ⟨j, hj, rfl⟩ := slot_P G hf S
    have hmy := Nat.mod_lt y hn0
    obtain ⟨v, v1, v2, v3⟩ := tv_val G hf V hmy
    have e2 : ¬ P j / 2 ^ (12 - q f) = y % 2 ^ q f := fun w => by
      have := e1.mp w
      omega
    rcases v3 with ⟨j', i2, hj', S', v4, v5⟩ | ⟨v4, v5⟩
    · obtain ⟨e3, -⟩ : P j' = P j ∧ i2 = i' := slot_uniq hn0 (Nat.two_pow_pos _) hNN S' S
      have e4 := hp.inj hj' hj e3
      subst e4
      have hpj := hp.2 j' hj
      have hdl := Nat.div_le_self (P j') (2 ^ (12 - q f))
      have ej : v / 8 - 1 = j' := by omega
      have i2 := ih (c + d) rfl (by omega)
      have em : (y % 2 ^ q f + 2 ^ q f - 1) % 2 ^ q f = (c + d) % 2 ^ q f := by
        rw [show y = c + d + 1 by omega, show (c + d + 1) % 2 ^ q f + 2 ^ q f - 1 = (c + d + 1) % 2 ^ q f + (2 ^ q f - 1) by omega]
        exact md_back hn0 (c + d)
      refine eq_ (fun _ k => ev_aload_n f83_149 rfl k) ?_
      refine eq_ (fun _ k => ev_aload_n f83_150 rfl k) ?_
      refine eq_ (fun _ k => ev_iload f83_151 rfl k) ?_
      refine eq_ (fun _ k => ev_iald f83_153 (by assumption) (by omega) (by omega) k) ?_
      rw [v2]
      refine eq_ (fun _ k => ev_bipushN (n := 8) (by omega) f83_154 k) ?_
      refine eq_ (fun _ k => ev_idivN (by omega) (by omega) (by omega) f83_156 k) ?_
      refine eq_ (fun _ k => ev_iconstN (n := 1) f83_157 k) ?_
      refine eq_ (fun _ k => ev_isubN (by omega) f83_158 k) ?_
      rw [ej]
      refine eq_ (fun _ k => ev_iload f83_159 rfl k) ?_
      refine eq_ (fun _ k => ev_s3 f83_161 (by decide) ow80 rfl rfl rfl (Nat.le_of_ble_eq_true rfl) (c80 hp1 (by omega) hpj (by omega)) k) ?_
      refine eq_ (fun _ k => ev_iload f83_164 rfl k) ?_
      refine eq_icN (by omega) (by omega) (tgt := 184) f83_166 rfl (fun h9 => absurd h9 e2) (fun _ => ?_)
      refine eq_ (fun _ k => ev_iload f83_169 rfl k) ?_
      refine eq_ (fun _ k => ev_iload f83_171 rfl k) ?_
      first | refine eq_ (fun _ k => ev_iaddN f83_173 k) ?_ | refine eq_ (fun _ k => ev_iadd f83_173 k) ?_
      refine eq_ (fun _ k => ev_iconstN (n := 1) f83_174 k) ?_
      refine eq_ (fun _ k => ev_isubN (by omega) f83_175 k) ?_
      refine eq_ (fun _ k => ev_iload f83_176 rfl k) ?_
      refine eq_ (fun _ k => ev_iremN (by omega) (by omega) (by omega) f83_178 k) ?_
      rw [em]
      refine eq_ (fun _ k => ev_istore f83_179 k) ?_
      refine eq_ (fun _ k => ev_goto (tgt := 149) f83_181 rfl k) ?_
      exact i2
    · exact absurd S (v4 _ _)
theorem c83 (W : LW X q g P C Q hs) (hp : PI P) (G : GI g P C) (hf : f < 4) (h5 : q f ≤ 5) (hs2 : s < 2 ^ q f) (ha : 41 < a) (ht : hs[a]? = some (.inl (.int, 32, .inl t))) (V : TV (2 ^ q f) (2 ^ (12 - q f)) P C (g f) f t) : CrQ 83 [.ref 1, .ref 39, .ref a, .int (nI f), .int (nI (q f)), .int (nI s)] hs (some (.int (nI true.toNat))) (fun hs' => LW X q g P C Q hs' ∧ Fr hs hs' 3 39) := by
  have F := W.2.1.2.2.1 f hf
  obtain ⟨h3, h8, -⟩ := F.obj
  obtain ⟨T, t1, t2, hn0, hm0, hnm, hN, hTL⟩ := F.tab
  have hl := hTL.1
  have hn2 : 2 ^ q f ≤ 32 := by
    have := Nat.pow_le_pow_right (show 0 < 2 by omega) h5
    omega
  have sh : nI 1 <<< (nI (q f) &&& 31) = nI (2 ^ q f) := am_shl1 (by omega)
  have x0 := W.2.1.1
  have w2 := W.2.2.1
  have hbs := Nat.mod_lt (s + 2 ^ q f - 1) hn0
  obtain ⟨y, y1, y2, y3⟩ := tv_val G hf V hs2
  obtain ⟨yb, b1, b2, b3⟩ := tv_val G hf V hbs
  refine crq_mk ow83 (Nat.le_of_ble_eq_true rfl) ?_
  rcases y3 with ⟨j, i, hj, S, y4, y5⟩ | ⟨y4, rfl⟩
  · have ej : y / 8 - 1 = j := by omega
    have hpj := hp.2 j hj
    have hdl := Nat.div_le_self (P j) (2 ^ (12 - q f))
    have e1 : g f (P j) = C (16 * f + j) := (G f hf).1 j hj
    -- the slot on the line
    have es : (s + 2 ^ q f + 2 ^ q f + 2 ^ q f) % 2 ^ q f = s := by
      rw [Nat.add_mod_right, Nat.add_mod_right, Nat.add_mod_right, Nat.mod_eq_of_lt hs2]
    have es2 : (s + 2 ^ q f + 2 ^ q f) % 2 ^ q f = s := by
      rw [Nat.add_mod_right, Nat.add_mod_right, Nat.mod_eq_of_lt hs2]
    have eb : (s + 2 ^ q f - 1) % 2 ^ q f = (s + 2 ^ q f + 2 ^ q f + 2 ^ q f - 1) % 2 ^ q f := by
      rw [show s + 2 ^ q f + 2 ^ q f + 2 ^ q f - 1 = s + 2 ^ q f - 1 + 2 ^ q f + 2 ^ q f by omega, Nat.add_mod_right, Nat.add_mod_right]
    have Sb : SlotE (2 ^ q f) (2 ^ (12 - q f)) (g f) ((s + 2 ^ q f + 2 ^ q f + 2 ^ q f) % 2 ^ q f) (P j) i := by
      rw [es]
      exact S
    have Sc : SlotE (2 ^ q f) (2 ^ (12 - q f)) (g f) ((s + 2 ^ q f + 2 ^ q f) % 2 ^ q f) (P j) i := by
      rw [es2]
      exact S
    obtain ⟨c, c1, c2, c3, c4, c5⟩ := clu_ent hl hm0 (by omega) Sc
    have hqn : P j / 2 ^ (12 - q f) < 2 ^ q f := Nat.div_lt_of_lt_mul (by rw [Nat.mul_comm]; exact S.1)
    have hin := ps_in (g := g f) hm0 (P j)
    have hi := S.2.1
    have k1 := m57 W.2.1 hf hs2 S
    obtain ⟨hs1, k1, W1, F1⟩ := W.cls k1
    obtain ⟨hsa, k2, W2, F2⟩ := W1.cls (m58 W1.2.1 hf hs2 S)
    obtain ⟨hs3, k3, W3, F3⟩ := W2.cls (m59 W2.2.1 hf hs2 S)
    obtain ⟨hs4, k4, W4, F4⟩ := W3.cls (m61 W3.2.1 hf hs2 S)
    obtain ⟨hs5, k5, W5, F5⟩ := W4.cls (m62 W4.2.1 hf hs2 S)
    obtain ⟨hs6, k6, W6, F6⟩ := W5.cls (m65 W5.2.1 hf hs2 S c1 c2 c3 c4)
    obtain ⟨hs7, k7, W7, F7⟩ := W6.cls (m63 W6.2.1 hf hqn)
    rw [if_pos (by omega)] at k7
    have x1 := W1.2.1.1
    have x2 := W2.2.1.1
    have x3 := W3.2.1.1
    have x4 := W4.2.1.1
    have x5 := W5.2.1.1
    have x6 := W6.2.1.1
    have p1 := W1.2.2.1
    have ta := (F2.2 a (by omega)).trans ((F1.2 a (by omega)).trans ht)
    generalize ho : EE (g f) (P j) - EE (g f) (P j / 2 ^ (12 - q f) * 2 ^ (12 - q f)) + i = o at *
    have hob : (decide (0 < o)).toNat ≤ 1 := Bool.toNat_le _
    have hpm := Nat.mod_lt (P j) hm0
    have hm4 : 2 ^ (12 - q f) ≤ 4096 := Nat.pow_le_pow_right (show 0 < 2 by omega) (show 12 - q f ≤ 12 by omega)
    have rest : ∀ w8, EvQ 83 145 [some (.ref 1), some (.ref 39), some (.ref a), some (.int (nI f)), some (.int (nI (q f))), some (.int (nI s)), some (.int (nI (2 ^ q f))), some (.int (nI j)), w8, some (.int (nI (P j / 2 ^ (12 - q f)))), some (.int (nI (decide (0 < o)).toNat)), none, none] [] hs 0 0 (Rt (some (.int (nI true.toNat))) (fun hs' => LW X q g P C Q hs' ∧ Fr hs hs' 3 39)) := by
      intro w8
      refine eq_ (fun _ k => ev_iload f83_145 rfl k) ?_
      refine eq_ (fun _ k => ev_istore f83_147 k) ?_
      have l := l83 (R := Rt (some (.int (nI true.toNat))) (fun hs' => LW X q g P C Q hs' ∧ Fr hs hs' 3 39)) (w7 := some (.int (nI j))) (w8 := w8) (w9 := some (.int (nI (P j / 2 ^ (12 - q f))))) (w10 := some (.int (nI (decide (0 < o)).toNat))) (w12 := none) (s := s) w2 hp G hf h5 hN ht V (show s + 2 ^ q f + 2 ^ q f < 1000 by omega) c5 ?_ (s + 2 ^ q f + 2 ^ q f - c) (s + 2 ^ q f + 2 ^ q f) (by omega) (Nat.le_refl _)
      · rw [es2] at l
        exact l
      clear ht w2
      have hc9 := Nat.mod_lt c hn0
      have ht9 : y % 8 = min (g f (P j) - 7 * i) 7 := y5
      refine eq_ (fun _ k => ev_aload_n f83_184 rfl k) ?_
      refine eq_ (fun _ k => ev_iload_n f83_185 rfl k) ?_
      refine eq_ (fun _ k => ev_iload f83_186 rfl k) ?_
      refine eq_ (fun _ k => ev_v2 f83_188 ow57 (by assumption) rfl rfl (Nat.le_of_ble_eq_true rfl) (k1) k) ?_
      refine eq_ (fun _ k => ev_aload_n f83_191 rfl k) ?_
      refine eq_ (fun _ k => ev_iload f83_192 rfl k) ?_
      refine eq_ (fun _ k => ev_iald f83_194 (by assumption) (by omega) (by omega) k) ?_
      refine eq_ (fun _ k => ev_iconstN (n := 1) f83_195 k) ?_
      refine eq_ (fun _ k => ev_bipushN (n := 12) (by omega) f83_196 k) ?_
      refine eq_ (fun _ k => ev_iload f83_198 rfl k) ?_
      refine eq_ (fun _ k => ev_isubN (by omega) f83_200 k) ?_
      refine eq_ (fun _ k => ev_ishl f83_201 k) ?_
      rw [am_shl1 (by omega)]
      refine eq_ (fun _ k => ev_iremN (by omega) (by omega) (by omega) f83_202 k) ?_
      refine eq_icN (by omega) (by omega) (tgt := 273) f83_203 rfl (fun h9 => absurd h9 (fun w => w rfl)) (fun _ => ?_)
      refine eq_ (fun _ k => ev_aload_n f83_206 rfl k) ?_
      refine eq_ (fun _ k => ev_iload_n f83_207 rfl k) ?_
      refine eq_ (fun _ k => ev_iload f83_208 rfl k) ?_
      refine eq_ (fun _ k => ev_v2 f83_210 ow58 (by assumption) rfl rfl (Nat.le_of_ble_eq_true rfl) (k2) k) ?_
      refine eq_ (fun _ k => ev_aload_n f83_213 rfl k) ?_
      refine eq_ (fun _ k => ev_iload f83_214 rfl k) ?_
      refine eq_ (fun _ k => ev_iald f83_216 (by assumption) (by omega) (by omega) k) ?_
      rw [y2]
      refine eq_ (fun _ k => ev_bipushN (n := 8) (by omega) f83_217 k) ?_
      refine eq_ (fun _ k => ev_iremN (by omega) (by omega) (by omega) f83_219 k) ?_
      refine eq_icN (by omega) (by omega) (tgt := 273) f83_220 rfl (fun h9 => absurd h9 (fun w => w ht9.symm)) (fun _ => ?_)
      refine eq_ (fun _ k => ev_aload_n f83_223 rfl k) ?_
      refine eq_ (fun _ k => ev_iload_n f83_224 rfl k) ?_
      refine eq_ (fun _ k => ev_iload f83_225 rfl k) ?_
      refine eq_ (fun _ k => ev_v2 f83_227 ow59 (by assumption) rfl rfl (Nat.le_of_ble_eq_true rfl) (k3) k) ?_
      refine eq_ (fun _ k => ev_iload f83_230 rfl k) ?_
      refine eq_icN (by omega) (by omega) (tgt := 273) f83_232 rfl (fun h9 => absurd h9 (fun w => w rfl)) (fun _ => ?_)
      refine eq_ (fun _ k => ev_aload_n f83_235 rfl k) ?_
      refine eq_ (fun _ k => ev_iload_n f83_236 rfl k) ?_
      refine eq_ (fun _ k => ev_iload f83_237 rfl k) ?_
      refine eq_ (fun _ k => ev_v2 f83_239 ow61 (by assumption) rfl rfl (Nat.le_of_ble_eq_true rfl) (k4) k) ?_
      refine eq_ (fun _ k => ev_iload f83_242 rfl k) ?_
      refine eq_icN (by omega) (by omega) (tgt := 273) f83_244 rfl (fun h9 => absurd h9 (fun w => w rfl)) (fun _ => ?_)
      refine eq_ (fun _ k => ev_aload_n f83_247 rfl k) ?_
      refine eq_ (fun _ k => ev_iload_n f83_248 rfl k) ?_
      have fin : ∀ (hsx : amH), LW X q g P C Q hsx → Fr hs hsx 3 39 → hsx = hs5 → EvQ 83 269 [some (.ref 1), some (.ref 39), some (.ref a), some (.int (nI f)), some (.int (nI (q f))), some (.int (nI s)), some (.int (nI (2 ^ q f))), some (.int (nI j)), w8, some (.int (nI (P j / 2 ^ (12 - q f)))), some (.int (nI (decide (0 < o)).toNat)), some (.int (nI (c % 2 ^ q f))), none] [] hsx 0 0 (Rt (some (.int (nI true.toNat))) (fun hs' => LW X q g P C Q hs' ∧ Fr hs hs' 3 39)) := by
        intro hsx _ _ ex
        subst ex
        refine eq_ (fun _ k => ev_iconstN (n := 1) f83_269 k) ?_
        refine eq_ (fun _ k => ev_goto (tgt := 274) f83_270 rfl k) ?_
        refine eq_ (fun _ k => ev_istore f83_274 k) ?_
        refine eq_ (fun _ k => ev_iload f83_276 rfl k) ?_
        refine eq_ifN (by omega) (tgt := 314) f83_278 rfl (fun h9 => absurd h9 (by simp only [akN] at *; omega)) (fun _ => ?_)
        refine eq_ (fun _ k => ev_aload_n f83_281 rfl k) ?_
        refine eq_ (fun _ k => ev_iload_n f83_282 rfl k) ?_
        refine eq_ (fun _ k => ev_iload f83_283 rfl k) ?_
        refine eq_ (fun _ k => ev_v2 f83_285 ow65 (by assumption) rfl rfl (Nat.le_of_ble_eq_true rfl) (k6) k) ?_
        refine eq_ (fun _ k => ev_iload f83_288 rfl k) ?_
        refine eq_icN (by omega) (by omega) (tgt := 314) f83_290 rfl (fun h9 => absurd h9 (fun w => w rfl)) (fun _ => ?_)
        by_cases h0 : 0 < o
        · refine eq_ (fun _ k => ev_iload f83_293 rfl k) ?_
          refine eq_ifneB (tgt := 310) f83_295 rfl (fun _ => ?_) (fun h9 => Bool.noConfusion (h9.symm.trans (decide_eq_true h0)))
          refine eq_ (fun _ k => ev_iconstN (n := 1) f83_310 k) ?_
          refine eq_ (fun _ k => ev_goto (tgt := 315) f83_311 rfl k) ?_
          first | refine ⟨_, ev_iret f83_315 (rZ rfl true) rfl, ?_⟩ | refine ⟨_, ev_iret f83_315 (rZ rfl false) rfl, ?_⟩ | refine ⟨_, ev_iret f83_315 (rZ rfl _) rfl, ?_⟩
          exact ⟨_, rfl, W6, ((((F1.tr F2).tr F3).tr F4).tr F5).tr F6⟩
        · have ers : PN (2 ^ q f) (2 ^ (12 - q f)) (g f) (P j / 2 ^ (12 - q f)) % 2 ^ q f = s := by
            have s3 := S.2.2
            have e9 : psN (2 ^ q f) (2 ^ (12 - q f)) (g f) (P j) = PN (2 ^ q f) (2 ^ (12 - q f)) (g f) (P j / 2 ^ (12 - q f)) + (EE (g f) (P j) - EE (g f) (P j / 2 ^ (12 - q f) * 2 ^ (12 - q f))) := rfl
            rw [show psN (2 ^ q f) (2 ^ (12 - q f)) (g f) (P j) + i = PN (2 ^ q f) (2 ^ (12 - q f)) (g f) (P j / 2 ^ (12 - q f)) by omega] at s3
            exact s3
          refine eq_ (fun _ k => ev_iload f83_293 rfl k) ?_
          refine eq_ifneB (tgt := 310) f83_295 rfl (fun h9 => Bool.noConfusion (h9.symm.trans (decide_eq_false h0))) (fun _ => ?_)
          refine eq_ (fun _ k => ev_aload_n f83_298 rfl k) ?_
          refine eq_ (fun _ k => ev_iload_n f83_299 rfl k) ?_
          refine eq_ (fun _ k => ev_iload f83_300 rfl k) ?_
          refine eq_ (fun _ k => ev_v2 f83_302 ow63 (by assumption) rfl rfl (Nat.le_of_ble_eq_true rfl) (k7) k) ?_
          refine eq_ (fun _ k => ev_iload f83_305 rfl k) ?_
          refine eq_icN (by omega) (by omega) (tgt := 314) f83_307 rfl (fun h9 => absurd h9 (fun w => w ers)) (fun _ => ?_)
          refine eq_ (fun _ k => ev_iconstN (n := 1) f83_310 k) ?_
          refine eq_ (fun _ k => ev_goto (tgt := 315) f83_311 rfl k) ?_
          first | refine ⟨_, ev_iret f83_315 (rZ rfl true) rfl, ?_⟩ | refine ⟨_, ev_iret f83_315 (rZ rfl false) rfl, ?_⟩ | refine ⟨_, ev_iret f83_315 (rZ rfl _) rfl, ?_⟩
          exact ⟨_, rfl, W7, (((((F1.tr F2).tr F3).tr F4).tr F5).tr F6).tr F7⟩
      by_cases e : P j / 2 ^ (12 - q f) = s
      · have eb2 : (!decide (s = P j / 2 ^ (12 - q f))) = false := by
          rw [decide_eq_true e.symm]
          rfl
        rw [eb2, show false.toNat = 0 from rfl] at k5
        refine eq_ (fun _ k => ev_iload f83_249 rfl k) ?_
        refine eq_ (fun _ k => ev_v2 f83_251 ow62 (by assumption) rfl rfl (Nat.le_of_ble_eq_true rfl) (k5) k) ?_
        refine eq_ (fun _ k => ev_iload f83_254 rfl k) ?_
        refine eq_ (fun _ k => ev_iload f83_256 rfl k) ?_
        refine eq_icN (by omega) (by omega) (tgt := 265) f83_258 rfl (fun _ => ?_) (fun h9 => absurd e h9)
        refine eq_ (fun _ k => ev_iconstN (n := 0) f83_265 k) ?_
        refine eq_icN (by omega) (by omega) (tgt := 273) f83_266 rfl (fun h9 => absurd h9 (fun w => w rfl)) (fun _ => ?_)
        exact fin hs5 W5 ((((F1.tr F2).tr F3).tr F4).tr F5) rfl
      · have eb2 : (!decide (s = P j / 2 ^ (12 - q f))) = true := by
          rw [decide_eq_false (fun w => e w.symm)]
          rfl
        rw [eb2, show true.toNat = 1 from rfl] at k5
        refine eq_ (fun _ k => ev_iload f83_249 rfl k) ?_
        refine eq_ (fun _ k => ev_v2 f83_251 ow62 (by assumption) rfl rfl (Nat.le_of_ble_eq_true rfl) (k5) k) ?_
        refine eq_ (fun _ k => ev_iload f83_254 rfl k) ?_
        refine eq_ (fun _ k => ev_iload f83_256 rfl k) ?_
        refine eq_icN (by omega) (by omega) (tgt := 265) f83_258 rfl (fun h9 => absurd h9 e) (fun _ => ?_)
        refine eq_ (fun _ k => ev_iconstN (n := 1) f83_261 k) ?_
        refine eq_ (fun _ k => ev_goto (tgt := 266) f83_262 rfl k) ?_
        refine eq_icN (by omega) (by omega) (tgt := 273) f83_266 rfl (fun h9 => absurd h9 (fun w => w rfl)) (fun _ => ?_)
        exact fin hs5 W5 ((((F1.tr F2).tr F3).tr F4).tr F5) rfl
    refine eq_ (fun _ k => ev_iconstN (n := 1) f83_0 k) ?_
    refine eq_ (fun _ k => ev_iload f83_1 rfl k) ?_
    refine eq_ (fun _ k => ev_ishl f83_3 k) ?_
    rw [sh]
    refine eq_ (fun _ k => ev_istore f83_4 k) ?_
    refine eq_ (fun _ k => ev_aload_n f83_6 rfl k) ?_
    refine eq_ (fun _ k => ev_iload f83_7 rfl k) ?_
    refine eq_ (fun _ k => ev_iald f83_9 (by assumption) (by omega) (by omega) k) ?_
    rw [y2]
    refine eq_ (fun _ k => ev_bipushN (n := 8) (by omega) f83_10 k) ?_
    refine eq_ (fun _ k => ev_idivN (by omega) (by omega) (by omega) f83_12 k) ?_
    refine eq_ (fun _ k => ev_iconstN (n := 1) f83_13 k) ?_
    refine eq_ (fun _ k => ev_isubN (by omega) f83_14 k) ?_
    refine eq_ (fun _ k => ev_istore f83_15 k) ?_
    refine eq_ (fun _ k => ev_aload_n f83_17 rfl k) ?_
    refine eq_ (fun _ k => ev_iload f83_18 rfl k) ?_
    refine eq_ (fun _ k => ev_iload f83_20 rfl k) ?_
    first | refine eq_ (fun _ k => ev_iaddN f83_22 k) ?_ | refine eq_ (fun _ k => ev_iadd f83_22 k) ?_
    refine eq_ (fun _ k => ev_iconstN (n := 1) f83_23 k) ?_
    refine eq_ (fun _ k => ev_isubN (by omega) f83_24 k) ?_
    refine eq_ (fun _ k => ev_iload f83_25 rfl k) ?_
    refine eq_ (fun _ k => ev_iremN (by omega) (by omega) (by omega) f83_27 k) ?_
    refine eq_ (fun _ k => ev_iald f83_28 (by assumption) (by omega) (by omega) k) ?_
    rw [b2]
    refine eq_ (fun _ k => ev_bipushN (n := 8) (by omega) f83_29 k) ?_
    refine eq_ (fun _ k => ev_idivN (by omega) (by omega) (by omega) f83_31 k) ?_
    refine eq_ (fun _ k => ev_iconstN (n := 1) f83_32 k) ?_
    refine eq_ (fun _ k => ev_isub f83_33 k) ?_
    refine eq_ (fun _ k => ev_istore f83_34 k) ?_
    rw [ej]
    refine eq_ (fun _ k => ev_iload f83_36 rfl k) ?_
    refine eq_ifN (by omega) (tgt := 110) f83_38 rfl (fun _ => ?_) (fun h9 => absurd (by simp only [akN] at *; omega) h9)
    refine eq_ (fun _ k => ev_aload_n f83_110 rfl k) ?_
    refine eq_ (fun _ k => ev_iload f83_111 rfl k) ?_
    refine eq_ (fun _ k => ev_iload f83_113 rfl k) ?_
    refine eq_ (fun _ k => ev_s3 f83_115 (by decide) ow80 rfl rfl rfl (Nat.le_of_ble_eq_true rfl) (c80 w2 (by omega) hpj h8) k) ?_
    refine eq_ (fun _ k => ev_istore f83_118 k) ?_
    rcases b3 with ⟨jb, ib, hjb, S', b4, b5⟩ | ⟨b4, rfl⟩
    · have ebj : nI (yb / 8) - nI 1 = nI jb := by
        rw [pk_sub (by omega)]
        exact congrArg nI (by omega)
      rw [ebj]
      rw [eb] at S'
      have hpb := hp.2 jb hjb
      have hdb := Nat.div_le_self (P jb) (2 ^ (12 - q f))
      have bi := bef_iff hl hm0 hN (by omega) Sb S'
      rw [ho] at bi
      by_cases w : P jb / 2 ^ (12 - q f) = P j / 2 ^ (12 - q f)
      · rw [decide_eq_true (bi.mp w)] at rest
        refine eq_ (fun _ k => ev_iload f83_120 rfl k) ?_
        refine eq_ifN (by omega) (tgt := 142) f83_122 rfl (fun h9 => absurd h9 (by simp only [akN] at *; omega)) (fun _ => ?_)
        refine eq_ (fun _ k => ev_aload_n f83_125 rfl k) ?_
        refine eq_ (fun _ k => ev_iload f83_126 rfl k) ?_
        refine eq_ (fun _ k => ev_iload f83_128 rfl k) ?_
        refine eq_ (fun _ k => ev_s3 f83_130 (by decide) ow80 rfl rfl rfl (Nat.le_of_ble_eq_true rfl) (c80 w2 (by omega) hpb h8) k) ?_
        refine eq_ (fun _ k => ev_iload f83_133 rfl k) ?_
        refine eq_icN (by omega) (by omega) (tgt := 142) f83_135 rfl (fun h9 => absurd h9 (fun w9 => w9 w)) (fun _ => ?_)
        refine eq_ (fun _ k => ev_iconstN (n := 1) f83_138 k) ?_
        refine eq_ (fun _ k => ev_goto (tgt := 143) f83_139 rfl k) ?_
        refine eq_ (fun _ k => ev_istore f83_143 k) ?_
        exact rest _
      · rw [decide_eq_false (fun w9 => w (bi.mpr w9))] at rest
        refine eq_ (fun _ k => ev_iload f83_120 rfl k) ?_
        refine eq_ifN (by omega) (tgt := 142) f83_122 rfl (fun h9 => absurd h9 (by simp only [akN] at *; omega)) (fun _ => ?_)
        refine eq_ (fun _ k => ev_aload_n f83_125 rfl k) ?_
        refine eq_ (fun _ k => ev_iload f83_126 rfl k) ?_
        refine eq_ (fun _ k => ev_iload f83_128 rfl k) ?_
        refine eq_ (fun _ k => ev_s3 f83_130 (by decide) ow80 rfl rfl rfl (Nat.le_of_ble_eq_true rfl) (c80 w2 (by omega) hpb h8) k) ?_
        refine eq_ (fun _ k => ev_iload f83_133 rfl k) ?_
        refine eq_icN (by omega) (by omega) (tgt := 142) f83_135 rfl (fun _ => ?_) (fun h9 => absurd w h9)
        refine eq_ (fun _ k => ev_iconstN (n := 0) f83_142 k) ?_
        refine eq_ (fun _ k => ev_istore f83_143 k) ?_
        exact rest _
    · rw [eb] at b4
      have bn := bef_no hl hm0 (by omega) Sb b4
      rw [ho] at bn
      rw [decide_eq_false bn] at rest
      refine eq_ (fun _ k => ev_iload f83_120 rfl k) ?_
      refine eq_if (tgt := 142) f83_122 rfl (fun _ => ?_) (fun h9 => absurd ((by simp only [ak0]; decide)) h9)
      refine eq_ (fun _ k => ev_iconstN (n := 0) f83_142 k) ?_
      refine eq_ (fun _ k => ev_istore f83_143 k) ?_
      exact rest _
  · obtain ⟨hs1, k1, W1, F1⟩ := W.cls (m57n W.2.1 hf hs2 y4)
    obtain ⟨hsa, k2, W2, F2⟩ := W1.cls (m58n W1.2.1 hf hs2 y4)
    obtain ⟨hs3, k3, W3, F3⟩ := W2.cls (m59n W2.2.1 hf hs2 y4)
    obtain ⟨hs4, k4, W4, F4⟩ := W3.cls (m61n W3.2.1 hf hs2 y4)
    obtain ⟨hs5, k5, W5, F5⟩ := W4.cls (m62n W4.2.1 hf hs2 y4)
    obtain ⟨hs6, k6, W6, F6⟩ := W5.cls (m65n W5.2.1 hf hs2 y4)
    have x1 := W1.2.1.1
    have x2 := W2.2.1.1
    have x3 := W3.2.1.1
    have x4 := W4.2.1.1
    have x5 := W5.2.1.1
    refine eq_ (fun _ k => ev_iconstN (n := 1) f83_0 k) ?_
    refine eq_ (fun _ k => ev_iload f83_1 rfl k) ?_
    refine eq_ (fun _ k => ev_ishl f83_3 k) ?_
    rw [sh]
    refine eq_ (fun _ k => ev_istore f83_4 k) ?_
    refine eq_ (fun _ k => ev_aload_n f83_6 rfl k) ?_
    refine eq_ (fun _ k => ev_iload f83_7 rfl k) ?_
    refine eq_ (fun _ k => ev_iald f83_9 (by assumption) (by omega) (by omega) k) ?_
    rw [y2]
    refine eq_ (fun _ k => ev_bipushN (n := 8) (by omega) f83_10 k) ?_
    refine eq_ (fun _ k => ev_idivN (by omega) (by omega) (by omega) f83_12 k) ?_
    refine eq_ (fun _ k => ev_iconstN (n := 1) f83_13 k) ?_
    refine eq_ (fun _ k => ev_isub f83_14 k) ?_
    refine eq_ (fun _ k => ev_istore f83_15 k) ?_
    refine eq_ (fun _ k => ev_aload_n f83_17 rfl k) ?_
    refine eq_ (fun _ k => ev_iload f83_18 rfl k) ?_
    refine eq_ (fun _ k => ev_iload f83_20 rfl k) ?_
    first | refine eq_ (fun _ k => ev_iaddN f83_22 k) ?_ | refine eq_ (fun _ k => ev_iadd f83_22 k) ?_
    refine eq_ (fun _ k => ev_iconstN (n := 1) f83_23 k) ?_
    refine eq_ (fun _ k => ev_isubN (by omega) f83_24 k) ?_
    refine eq_ (fun _ k => ev_iload f83_25 rfl k) ?_
    refine eq_ (fun _ k => ev_iremN (by omega) (by omega) (by omega) f83_27 k) ?_
    refine eq_ (fun _ k => ev_iald f83_28 (by assumption) (by omega) (by omega) k) ?_
    rw [b2]
    refine eq_ (fun _ k => ev_bipushN (n := 8) (by omega) f83_29 k) ?_
    refine eq_ (fun _ k => ev_idivN (by omega) (by omega) (by omega) f83_31 k) ?_
    refine eq_ (fun _ k => ev_iconstN (n := 1) f83_32 k) ?_
    refine eq_ (fun _ k => ev_isub f83_33 k) ?_
    refine eq_ (fun _ k => ev_istore f83_34 k) ?_
    refine eq_ (fun _ k => ev_iload f83_36 rfl k) ?_
    refine eq_if (tgt := 110) f83_38 rfl (fun h9 => absurd h9 ((by simp only [ak0]; decide))) (fun _ => ?_)
    refine eq_ (fun _ k => ev_aload_n f83_41 rfl k) ?_
    refine eq_ (fun _ k => ev_iload_n f83_42 rfl k) ?_
    refine eq_ (fun _ k => ev_iload f83_43 rfl k) ?_
    refine eq_ (fun _ k => ev_v2 f83_45 ow57 (by assumption) rfl rfl (Nat.le_of_ble_eq_true rfl) (k1) k) ?_
    refine eq_ (fun _ k => ev_iconst f83_48 k) ?_
    refine eq_ic (tgt := 108) f83_49 rfl (fun h9 => absurd h9 ((fun w => w rfl))) (fun _ => ?_)
    refine eq_ (fun _ k => ev_aload_n f83_52 rfl k) ?_
    refine eq_ (fun _ k => ev_iload_n f83_53 rfl k) ?_
    refine eq_ (fun _ k => ev_iload f83_54 rfl k) ?_
    refine eq_ (fun _ k => ev_v2 f83_56 ow58 (by assumption) rfl rfl (Nat.le_of_ble_eq_true rfl) (k2) k) ?_
    refine eq_ifN (by omega) (tgt := 108) f83_59 rfl (fun h9 => absurd h9 (fun w => w rfl)) (fun _ => ?_)
    refine eq_ (fun _ k => ev_aload_n f83_62 rfl k) ?_
    refine eq_ (fun _ k => ev_iload_n f83_63 rfl k) ?_
    refine eq_ (fun _ k => ev_iload f83_64 rfl k) ?_
    refine eq_ (fun _ k => ev_v2 f83_66 ow59 (by assumption) rfl rfl (Nat.le_of_ble_eq_true rfl) (k3) k) ?_
    refine eq_ (fun _ k => ev_iconst f83_69 k) ?_
    refine eq_ic (tgt := 108) f83_70 rfl (fun h9 => absurd h9 ((fun w => w rfl))) (fun _ => ?_)
    refine eq_ (fun _ k => ev_aload_n f83_73 rfl k) ?_
    refine eq_ (fun _ k => ev_iload_n f83_74 rfl k) ?_
    refine eq_ (fun _ k => ev_iload f83_75 rfl k) ?_
    refine eq_ (fun _ k => ev_v2 f83_77 ow61 (by assumption) rfl rfl (Nat.le_of_ble_eq_true rfl) (k4) k) ?_
    refine eq_ifneB (tgt := 108) f83_80 rfl (fun h9 => Bool.noConfusion (h9.symm.trans (rfl))) (fun _ => ?_)
    refine eq_ (fun _ k => ev_aload_n f83_83 rfl k) ?_
    refine eq_ (fun _ k => ev_iload_n f83_84 rfl k) ?_
    refine eq_ (fun _ k => ev_iload f83_85 rfl k) ?_
    refine eq_ (fun _ k => ev_v2 f83_87 ow62 (by assumption) rfl rfl (Nat.le_of_ble_eq_true rfl) (k5) k) ?_
    refine eq_ifneB (tgt := 108) f83_90 rfl (fun h9 => Bool.noConfusion (h9.symm.trans (rfl))) (fun _ => ?_)
    refine eq_ (fun _ k => ev_aload_n f83_93 rfl k) ?_
    refine eq_ (fun _ k => ev_iload_n f83_94 rfl k) ?_
    refine eq_ (fun _ k => ev_iload f83_95 rfl k) ?_
    refine eq_ (fun _ k => ev_v2 f83_97 ow65 (by assumption) rfl rfl (Nat.le_of_ble_eq_true rfl) (k6) k) ?_
    refine eq_ (fun _ k => ev_iconst f83_100 k) ?_
    refine eq_ic (tgt := 108) f83_101 rfl (fun h9 => absurd h9 ((fun w => w rfl))) (fun _ => ?_)
    refine eq_ (fun _ k => ev_iconstN (n := 1) f83_104 k) ?_
    refine eq_ (fun _ k => ev_goto (tgt := 109) f83_105 rfl k) ?_
    first | refine ⟨_, ev_iret f83_109 (rZ rfl true) rfl, ?_⟩ | refine ⟨_, ev_iret f83_109 (rZ rfl false) rfl, ?_⟩ | refine ⟨_, ev_iret f83_109 (rZ rfl _) rfl, ?_⟩
    exact ⟨_, rfl, W6, ((((F1.tr F2).tr F3).tr F4).tr F5).tr F6⟩
end IS
