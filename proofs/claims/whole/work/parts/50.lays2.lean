/-! the model's lays: entries; rows laid by wip/whole/walk.py -/
/-- the model's rows hold the entries before a place of the line -/
def LayM (n m : Nat) (g : Nat → Nat) (U : Nat) (A B : Nat → Nat) : Prop := (∀ k i, EntU n m g U k i → A ((psN n m g k + i) % n) = k + 1 ∧ B ((psN n m g k + i) % n) = min (g k - 7 * i) 7) ∧ ∀ s, s < n → (∀ k i, EntU n m g U k i → ¬ (psN n m g k + i) % n = s) → A s = 0 ∧ B s = 0
section LM
variable {n m : Nat} {g : Nat → Nat} {A B : Nat → Nat}
theorem laym_put (hn : 0 < n) (hm : 0 < m) (hN : EE g (n * m) < n) {U k i : Nat} (h : LayM n m g U A B) (hU : U = psN n m g k + i) (hk : k < n * m) (hi : i < enN (g k)) : LayM n m g (U + 1) (updN A (U % n) (k + 1)) (updN B (U % n) (min (g k - 7 * i) 7)) := by
  have hU1 := ps_lo hn hN (m := m) k
  have hU2 := ps_hi hn hm hN hk
  have ne : ∀ k' i', EntU n m g U k' i' → ¬ (psN n m g k' + i') % n = U % n := fun k' i' ⟨q1, q2, q3⟩ => lt_mod_ne q3 (by have := ps_lo hn hN (m := m) k'; omega)
  have sp : ∀ k' i', EntU n m g (U + 1) k' i' → EntU n m g U k' i' ∨ (k' = k ∧ i' = i) := by
    intro k' i' ⟨q1, q2, q3⟩
    by_cases e : psN n m g k' + i' = U
    · exact Or.inr (ps_uniq hn hm hN q1 hk q2 hi (by omega))
    · exact Or.inl ⟨q1, q2, by omega⟩
  have me : EntU n m g (U + 1) k i := ⟨hk, hi, by omega⟩
  have up : ∀ k' i', EntU n m g U k' i' → EntU n m g (U + 1) k' i' := fun k' i' ⟨q1, q2, q3⟩ => ⟨q1, q2, by omega⟩
  refine ⟨fun k' i' q => ?_, fun s hs q => ?_⟩
  · rcases sp k' i' q with q1 | ⟨rfl, rfl⟩
    · have h2 := ne k' i' q1
      rw [updN_ne _ _ h2, updN_ne _ _ h2]
      exact h.1 k' i' q1
    · rw [← hU, updN_at, updN_at]
      exact ⟨rfl, rfl⟩
  · have h2 : ¬ s = U % n := fun e => q k i me (by rw [← hU]; exact e.symm)
    rw [updN_ne _ _ h2, updN_ne _ _ h2]
    exact h.2 s hs (fun k' i' q1 => q k' i' (up k' i' q1))
theorem laym_skip {U U' : Nat} (h : LayM n m g U A B) (hU : U ≤ U') (hno : ∀ k i, k < n * m → i < enN (g k) → psN n m g k + i < U' → psN n m g k + i < U) : LayM n m g U' A B := by
  have a : ∀ k i, EntU n m g U' k i → EntU n m g U k i := fun k i ⟨q1, q2, q3⟩ => ⟨q1, q2, hno k i q1 q2 q3⟩
  have b : ∀ k i, EntU n m g U k i → EntU n m g U' k i := fun k i ⟨q1, q2, q3⟩ => ⟨q1, q2, by omega⟩
  exact ⟨fun k i q => h.1 k i (a k i q), fun s hs q => h.2 s hs (fun k i q1 => q k i (b k i q1))⟩
/-- from a fingerprint's last entry to the next fingerprint's first nothing lies -/
theorem ps_step (hn : 0 < n) (hm : 0 < m) (hN : EE g (n * m) < n) {k : Nat} (hk : k < n * m) : psN n m g k + enN (g k) ≤ psN n m g (k + 1) ∧ ∀ k' i, k' < n * m → i < enN (g k') → psN n m g k' + i < psN n m g (k + 1) → psN n m g k' + i < psN n m g k + enN (g k) := by
  refine ⟨ps_lt hn hm hN (by omega) (by omega), fun k' i q1 q2 q3 => ?_⟩
  rcases Nat.lt_trichotomy k' k with w | w | w
  · have := ps_lt hn hm hN w (by omega)
    omega
  · rw [w] at q2 ⊢
    omega
  · have := ps_le hn hm hN (show k + 1 ≤ k' from w) (by omega)
    omega
theorem laym_0 (hn : 0 < n) (hm : 0 < m) (hN : EE g (n * m) < n) (hz : ∀ s, s < n → A s = 0 ∧ B s = 0) : LayM n m g (psN n m g 0) A B := by
  refine ⟨fun k i ⟨q1, q2, q3⟩ => ?_, fun s hs _ => hz s hs⟩
  have := ps_le hn hm hN (Nat.zero_le k) (by omega)
  omega
end LM
section LA
variable {q : Nat → Nat} {g : Nat → Nat → Nat} {l f : Nat}
/-- the inner loop: the entries of one fingerprint -/
theorem l89c (hi : MI q g) (hf : f < 4) {k : Nat} (hk : k < 4096) {C D : Nat → Nat} (hD : ∀ t, t < 2 ^ q f → 0 < lnN (2 ^ (12 - q f)) (g f) t → D t = plN (2 ^ (12 - q f)) (g f) (ovN (2 ^ q f) (2 ^ (12 - q f)) (g f)) t) {Q : amOut → Prop} {hs0 : amH} (hfin : ∀ (hs : amH) (A B E : Nat → Nat) (w6 w7 : Option Value), MSx hs q g l A B C D E → Fr hs0 hs 39 47 → LayM (2 ^ q f) (2 ^ (12 - q f)) (g f) (psN (2 ^ q f) (2 ^ (12 - q f)) (g f) k + enN (g f k)) A B → (∀ t, t < 2 ^ q f → E t = ctqN (2 ^ (12 - q f)) (g f) (k + 1) t) → EvQ 89 218 [some (.ref 39), some (.int (nI f)), some (.int (nI (2 ^ q f))), some (.int (nI (12 - q f))), some (.int (nI k)), some (.int (nI (k / 2 ^ (12 - q f)))), w6, w7] [] hs 0 0 Q) : ∀ (d i : Nat) (hs : amH) (A B E : Nat → Nat) (w7 : Option Value), i + d = enN (g f k) → 0 < d → MSx hs q g l A B C D E → Fr hs0 hs 39 47 → LayM (2 ^ q f) (2 ^ (12 - q f)) (g f) (psN (2 ^ q f) (2 ^ (12 - q f)) (g f) k + i) A B → (∀ t, t < 2 ^ q f → E t = ctqN (2 ^ (12 - q f)) (g f) k t + (if t = k / 2 ^ (12 - q f) then i else 0)) → EvQ 89 150 [some (.ref 39), some (.int (nI f)), some (.int (nI (2 ^ q f))), some (.int (nI (12 - q f))), some (.int (nI k)), some (.int (nI (k / 2 ^ (12 - q f)))), some (.int (nI (g f k - 7 * i))), w7] [] hs 0 0 Q := by
  obtain ⟨o3, o8, o4, o5⟩ := hi f hf
  obtain ⟨l1, l2⟩ := hi.le hf
  obtain ⟨p1, p2⟩ := am_pow o3 o8
  have hn : 0 < 2 ^ q f := by omega
  have hm : 0 < 2 ^ (12 - q f) := Nat.two_pow_pos _
  have hnm := am_nm o8
  have hN : EE (g f) (2 ^ q f * 2 ^ (12 - q f)) < 2 ^ q f := by rw [hnm]; omega
  have hq := am_quo o3 o8 hk
  have hkm := am_md k (2 ^ (12 - q f))
  have hkl := Nat.mod_lt k hm
  have hin := ps_in (g := g f) hm k
  have hct : ctqN (2 ^ (12 - q f)) (g f) k (k / 2 ^ (12 - q f)) = EE (g f) k - EE (g f) (k / 2 ^ (12 - q f) * 2 ^ (12 - q f)) := by
    unfold ctqN
    rw [Nat.succ_mul, show min k (k / 2 ^ (12 - q f) * 2 ^ (12 - q f) + 2 ^ (12 - q f)) = k by omega, show min k (k / 2 ^ (12 - q f) * 2 ^ (12 - q f)) = k / 2 ^ (12 - q f) * 2 ^ (12 - q f) by omega]
  have hps : psN (2 ^ q f) (2 ^ (12 - q f)) (g f) k = plN (2 ^ (12 - q f)) (g f) (ovN (2 ^ q f) (2 ^ (12 - q f)) (g f)) (k / 2 ^ (12 - q f)) + (EE (g f) k - EE (g f) (k / 2 ^ (12 - q f) * 2 ^ (12 - q f))) := by
    unfold psN
    rw [PN_lt hq]
  have hhi := ps_hi hn hm hN (show k < 2 ^ q f * 2 ^ (12 - q f) by omega)
  have hov : ovN (2 ^ q f) (2 ^ (12 - q f)) (g f) ≤ 1024 := by
    have h5 := pl_le (m := 2 ^ (12 - q f)) (g := g f) (o := 0) (2 ^ q f)
    rw [hnm] at h5
    unfold ovN
    omega
  have l2k := l2 k
  intro d
  induction d with
  | zero => exact fun i hs A B E w7 _ h0 => absurd h0 (Nat.lt_irrefl 0)
  | succ d ih =>
    intro i hs A B E w7 hid _ h fr hL hE
    have h9 := h
    obtain ⟨a, b, c, d1, e1, e2, e3, e4⟩ := h
    have hDk := hD _ hq (by omega)
    have hEk := hE _ hq
    rw [if_pos rfl, hct] at hEk
    have hU : D (k / 2 ^ (12 - q f)) + E (k / 2 ^ (12 - q f)) = psN (2 ^ q f) (2 ^ (12 - q f)) (g f) k + i := by rw [hDk, hEk, hps]; omega
    have hsl : (D (k / 2 ^ (12 - q f)) + E (k / 2 ^ (12 - q f))) % 2 ^ q f < 2 ^ q f := Nat.mod_lt _ hn
    have hput := laym_put hn hm hN hL rfl (show k < 2 ^ q f * 2 ^ (12 - q f) by omega) (show i < enN (g f k) by omega)
    have hen : 7 * i < g f k := by
      have : i < enN (g f k) := by omega
      unfold enN at this
      omega
    -- after the counter is written
    have rest : ∀ (hs2 hs3 : amH) (v : Nat), v = min (g f k - 7 * i) 7 → MSx hs2 q g l (updN A ((psN (2 ^ q f) (2 ^ (12 - q f)) (g f) k + i) % 2 ^ q f) (k + 1)) B C D E → Fr hs hs2 39 47 → hs3 = hs2.set 43 (.inl (.int, 256, .inl (upd (fun j => nI (B j)) ((psN (2 ^ q f) (2 ^ (12 - q f)) (g f) k + i) % 2 ^ q f) (nI v)))) → EvQ 89 201 [some (.ref 39), some (.int (nI f)), some (.int (nI (2 ^ q f))), some (.int (nI (12 - q f))), some (.int (nI k)), some (.int (nI (k / 2 ^ (12 - q f)))), some (.int (nI (g f k - 7 * i))), some (.int (nI ((psN (2 ^ q f) (2 ^ (12 - q f)) (g f) k + i) % 2 ^ q f)))] [] hs3 0 0 Q := by
      intro hs2 hs3 v hv m2 f2 x3
      have m3 := m2.s43 x3
      rw [hv] at m3
      have mm := m3
      clear a b c d1 e1 e2 e3 e4
      obtain ⟨a, b, c, d1, e1, e2, e3, e4⟩ := mm
      refine eq_ (fun _ k => ev_aload_n f89_201 rfl k) ?_
      refine eq_ (fun _ k => ev_getf f89_202 (by assumption) rfl k) ?_
      refine eq_ (fun _ k => ev_iload f89_205 rfl k) ?_
      refine eq_ (fun _ k => ev_dup2 f89_207 rfl rfl k) ?_
      refine eq_ (fun _ k => ev_iald f89_208 (by assumption) (by omega) (by omega) k) ?_
      refine eq_ (fun _ k => ev_iconstN (n := 1) f89_209 k) ?_
      first | refine eq_ (fun _ k => ev_iaddN f89_210 k) ?_ | refine eq_ (fun _ k => ev_iadd f89_210 k) ?_
      refine eq_iast f89_211 (by assumption) (by omega) (by omega) (by omega) (fun hs4 x4 => ?_)
      have m4 := m3.s46 x4
      have f4 : Fr hs0 hs4 39 47 := ((fr.tr f2).tr (Fr.st x3 (by omega) (by omega))).tr (Fr.st x4 (by omega) (by omega))
      have hE4 : ∀ t, t < 2 ^ q f → updN E (k / 2 ^ (12 - q f)) (E (k / 2 ^ (12 - q f)) + 1) t = ctqN (2 ^ (12 - q f)) (g f) k t + (if t = k / 2 ^ (12 - q f) then i + 1 else 0) := by
        intro t ht
        by_cases w : t = k / 2 ^ (12 - q f)
        · rw [if_pos w, w, updN_at, hEk, hct]
          omega
        · rw [if_neg w, updN_ne _ _ w, hE t ht, if_neg w]
      refine eq_ (fun _ k => ev_iinc f89_212 rfl k) ?_
      refine eq_ (fun _ k => ev_goto (tgt := 145) f89_215 rfl k) ?_
      refine eq_ (fun _ k => ev_iload f89_145 rfl k) ?_
      by_cases h7 : g f k - 7 * i ≤ 7
      · have hd0 : d = 0 := by
          unfold enN at hid
          omega
        refine eq_if (tgt := 218) f89_147 rfl (fun _ => ?_) (fun w => absurd (am_le7 h7) w)
        refine hfin hs4 _ _ _ _ _ m4 f4 ?_ ?_
        · have e5 : psN (2 ^ q f) (2 ^ (12 - q f)) (g f) k + i + 1 = psN (2 ^ q f) (2 ^ (12 - q f)) (g f) k + enN (g f k) := by omega
          rw [← e5]
          exact hput
        · intro t ht
          rw [hE4 t ht, ctq_s hm]
          by_cases w : t = k / 2 ^ (12 - q f)
          · rw [if_pos w, if_pos w]
            omega
          · rw [if_neg w, if_neg w]
      · rw [am_i7, pk_sub (by omega), show g f k - 7 * i - 7 = g f k - 7 * (i + 1) by omega]
        refine eq_ifN (by omega) (tgt := 218) f89_147 rfl (fun h9 => absurd h9 (by simp only [akN] at *; omega)) (fun _ => ?_)
        exact ih (i + 1) hs4 _ _ _ _ (by omega) (by unfold enN at hid; omega) m4 f4 hput hE4
    refine eq_ (fun _ k => ev_aload_n f89_150 rfl k) ?_
    refine eq_ (fun _ k => ev_getf f89_151 (by assumption) rfl k) ?_
    refine eq_ (fun _ k => ev_iload f89_154 rfl k) ?_
    refine eq_ (fun _ k => ev_iald f89_156 (by assumption) (by omega) (by omega) k) ?_
    refine eq_ (fun _ k => ev_aload_n f89_157 rfl k) ?_
    refine eq_ (fun _ k => ev_getf f89_158 (by assumption) rfl k) ?_
    refine eq_ (fun _ k => ev_iload f89_161 rfl k) ?_
    refine eq_ (fun _ k => ev_iald f89_163 (by assumption) (by omega) (by omega) k) ?_
    first | refine eq_ (fun _ k => ev_iaddN f89_164 k) ?_ | refine eq_ (fun _ k => ev_iadd f89_164 k) ?_
    refine eq_ (fun _ k => ev_iload_n f89_165 rfl k) ?_
    refine eq_ (fun _ k => ev_iremN (by omega) (by omega) (by omega) f89_166 k) ?_
    refine eq_ (fun _ k => ev_istore f89_167 k) ?_
    rw [hU]
    refine eq_ (fun _ k => ev_aload_n f89_169 rfl k) ?_
    refine eq_ (fun _ k => ev_getf f89_170 (by assumption) rfl k) ?_
    refine eq_ (fun _ k => ev_iload f89_173 rfl k) ?_
    refine eq_ (fun _ k => ev_iload f89_175 rfl k) ?_
    refine eq_ (fun _ k => ev_iconstN (n := 1) f89_177 k) ?_
    first | refine eq_ (fun _ k => ev_iaddN f89_178 k) ?_ | refine eq_ (fun _ k => ev_iadd f89_178 k) ?_
    refine eq_iast f89_179 (by assumption) (by omega) (by omega) (by omega) (fun hs2 x2 => ?_)
    have m2 := MSx.s42 h9 x2
    have f2 : Fr hs hs2 39 47 := Fr.st x2 (by omega) (by omega)
    have mm := m2
    clear a b c d1 e1 e2 e3 e4
    obtain ⟨a, b, c, d1, e1, e2, e3, e4⟩ := mm
    rw [hU] at hsl
    by_cases h7 : g f k - 7 * i ≤ 7
    · refine eq_ (fun _ k => ev_aload_n f89_180 rfl k) ?_
      refine eq_ (fun _ k => ev_getf f89_181 (by assumption) rfl k) ?_
      refine eq_ (fun _ k => ev_iload f89_184 rfl k) ?_
      refine eq_ (fun _ k => ev_iload f89_186 rfl k) ?_
      refine eq_ (fun _ k => ev_bipushN (n := 7) (by omega) f89_188 k) ?_
      refine eq_icN (by omega) (by omega) (tgt := 198) f89_190 rfl (fun _ => ?_) (fun h9 => absurd (by simp only [akN] at *; omega) h9)
      refine eq_ (fun _ k => ev_iload f89_198 rfl k) ?_
      refine eq_iast f89_200 (by assumption) (by omega) (by omega) (by omega) (fun hs3 x3 => ?_)
      exact rest hs2 hs3 _ (by omega) m2 f2 x3
    · refine eq_ (fun _ k => ev_aload_n f89_180 rfl k) ?_
      refine eq_ (fun _ k => ev_getf f89_181 (by assumption) rfl k) ?_
      refine eq_ (fun _ k => ev_iload f89_184 rfl k) ?_
      refine eq_ (fun _ k => ev_iload f89_186 rfl k) ?_
      refine eq_ (fun _ k => ev_bipushN (n := 7) (by omega) f89_188 k) ?_
      refine eq_icN (by omega) (by omega) (tgt := 198) f89_190 rfl (fun h9 => absurd h9 (by simp only [akN] at *; omega)) (fun _ => ?_)
      refine eq_ (fun _ k => ev_bipushN (n := 7) (by omega) f89_193 k) ?_
      refine eq_ (fun _ k => ev_goto (tgt := 200) f89_195 rfl k) ?_
      refine eq_iast f89_200 (by assumption) (by omega) (by omega) (by omega) (fun hs3 x3 => ?_)
      exact rest hs2 hs3 _ (by omega) m2 f2 x3
end LA
