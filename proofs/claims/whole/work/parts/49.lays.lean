/-! the model's lays: lengths; rows laid by wip/whole/walk.py -/
section LA
variable {q : Nat → Nat} {g : Nat → Nat → Nat} {l f : Nat}
theorem l89a (hf : f < 4) (hq : q f ≤ 8) {Q : amOut → Prop} {hs0 : amH} {w5 w6 w7 : Option Value} (hfin : ∀ (hs : amH) (A B C D E : Nat → Nat), MSx hs q g l A B C D E → Fr hs0 hs 39 47 → (∀ t, t < 2 ^ q f → A t = 0 ∧ B t = 0 ∧ C t = 0 ∧ E t = 0) → EvQ 89 63 [some (.ref 39), some (.int (nI f)), some (.int (nI (2 ^ q f))), some (.int (nI (12 - q f))), some (.int (nI (2 ^ q f))), w5, w6, w7] [] hs 0 0 Q) : ∀ (d k : Nat) (hs : amH) (A B C D E : Nat → Nat), k + d = 2 ^ q f → MSx hs q g l A B C D E → Fr hs0 hs 39 47 → (∀ t, t < k → A t = 0 ∧ B t = 0 ∧ C t = 0 ∧ E t = 0) → EvQ 89 19 [some (.ref 39), some (.int (nI f)), some (.int (nI (2 ^ q f))), some (.int (nI (12 - q f))), some (.int (nI k)), w5, w6, w7] [] hs 0 0 Q := by
  have p2 : 2 ^ q f ≤ 2 ^ 8 := Nat.pow_le_pow_right (by omega) hq
  intro d
  induction d with
  | zero =>
    intro k hs A B C D E hk h fr hz
    have hk2 : k = 2 ^ q f := by omega
    subst hk2
    refine eq_ (fun _ k => ev_iload f89_19 rfl k) ?_
    refine eq_ (fun _ k => ev_iload_n f89_21 rfl k) ?_
    refine eq_icN (by omega) (by omega) (tgt := 63) f89_22 rfl (fun _ => ?_) (fun h9 => absurd (by simp only [akN] at *; omega) h9)
    exact hfin hs A B C D E h fr hz
  | succ d ih =>
    intro k hs A B C D E hk h fr hz
    have h9 := h
    obtain ⟨a, b, c, d1, e1, e2, e3, e4⟩ := h
    refine eq_ (fun _ k => ev_iload f89_19 rfl k) ?_
    refine eq_ (fun _ k => ev_iload_n f89_21 rfl k) ?_
    refine eq_icN (by omega) (by omega) (tgt := 63) f89_22 rfl (fun h9 => absurd h9 (by simp only [akN] at *; omega)) (fun _ => ?_)
    refine eq_ (fun _ k => ev_aload_n f89_25 rfl k) ?_
    refine eq_ (fun _ k => ev_getf f89_26 (by assumption) rfl k) ?_
    refine eq_ (fun _ k => ev_iload f89_29 rfl k) ?_
    refine eq_ (fun _ k => ev_iconstN (n := 0) f89_31 k) ?_
    refine eq_iast f89_32 (by assumption) (by omega) (by omega) (by omega) (fun hs1 x1 => ?_)
    have m1 := h9.s44 x1
    have mm := m1
    obtain ⟨a, b, c, d1, e1, e2, e3, e4⟩ := mm
    refine eq_ (fun _ k => ev_aload_n f89_33 rfl k) ?_
    refine eq_ (fun _ k => ev_getf f89_34 (by assumption) rfl k) ?_
    refine eq_ (fun _ k => ev_iload f89_37 rfl k) ?_
    refine eq_ (fun _ k => ev_iconstN (n := 0) f89_39 k) ?_
    refine eq_iast f89_40 (by assumption) (by omega) (by omega) (by omega) (fun hs2 x2 => ?_)
    have m2 := m1.s46 x2
    have mm := m2
    obtain ⟨a, b, c, d1, e1, e2, e3, e4⟩ := mm
    refine eq_ (fun _ k => ev_aload_n f89_41 rfl k) ?_
    refine eq_ (fun _ k => ev_getf f89_42 (by assumption) rfl k) ?_
    refine eq_ (fun _ k => ev_iload f89_45 rfl k) ?_
    refine eq_ (fun _ k => ev_iconstN (n := 0) f89_47 k) ?_
    refine eq_iast f89_48 (by assumption) (by omega) (by omega) (by omega) (fun hs3 x3 => ?_)
    have m3 := m2.s42 x3
    have mm := m3
    obtain ⟨a, b, c, d1, e1, e2, e3, e4⟩ := mm
    refine eq_ (fun _ k => ev_aload_n f89_49 rfl k) ?_
    refine eq_ (fun _ k => ev_getf f89_50 (by assumption) rfl k) ?_
    refine eq_ (fun _ k => ev_iload f89_53 rfl k) ?_
    refine eq_ (fun _ k => ev_iconstN (n := 0) f89_55 k) ?_
    refine eq_iast f89_56 (by assumption) (by omega) (by omega) (by omega) (fun hs4 x4 => ?_)
    have m4 := m3.s43 x4
    refine eq_ (fun _ k => ev_iincN (d := 1) f89_57 rfl k) ?_
    refine eq_ (fun _ k => ev_goto (tgt := 19) f89_60 rfl k) ?_
    refine ih (k + 1) hs4 _ _ _ _ _ (by omega) m4 (fr.tr ((((Fr.st x1 (by omega) (by omega)).tr (Fr.st x2 (by omega) (by omega))).tr (Fr.st x3 (by omega) (by omega))).tr (Fr.st x4 (by omega) (by omega)))) (fun t ht => ?_)
    by_cases w : t = k
    · rw [w, updN_at, updN_at, updN_at, updN_at]
      exact ⟨rfl, rfl, rfl, rfl⟩
    · rw [updN_ne _ _ w, updN_ne _ _ w, updN_ne _ _ w, updN_ne _ _ w]
      exact hz t (by omega)
/-- how many of the first k fingerprints' entries belong to a quotient -/
def ctqN (m : Nat) (g : Nat → Nat) (k t : Nat) : Nat := EE g (min k ((t + 1) * m)) - EE g (min k (t * m))
theorem ctq_0 (m : Nat) (g : Nat → Nat) (t : Nat) : ctqN m g 0 t = 0 := by
  unfold ctqN
  rw [Nat.zero_min, Nat.zero_min, Nat.sub_self]
theorem ctq_s {m : Nat} (hm : 0 < m) (g : Nat → Nat) (k t : Nat) : ctqN m g (k + 1) t = ctqN m g k t + (if t = k / m then enN (g k) else 0) := by
  have hkm := am_md k m
  have hkl := Nat.mod_lt k hm
  unfold ctqN
  by_cases h : t = k / m
  · rw [if_pos h, h]
    rw [Nat.succ_mul]
    rw [show min (k + 1) (k / m * m + m) = k + 1 by omega, show min (k + 1) (k / m * m) = k / m * m by omega, show min k (k / m * m + m) = k by omega, show min k (k / m * m) = k / m * m by omega, EE_s]
    have := EE_mono g (show k / m * m ≤ k by omega)
    omega
  · rw [if_neg h]
    rcases Nat.lt_or_gt_of_ne h with w | w
    · have h1 := Nat.mul_le_mul_right m (show t + 1 ≤ k / m from w)
      have h2 := Nat.mul_le_mul_right m (show t ≤ t + 1 by omega)
      rw [show min (k + 1) ((t + 1) * m) = (t + 1) * m by omega, show min (k + 1) (t * m) = t * m by omega, show min k ((t + 1) * m) = (t + 1) * m by omega, show min k (t * m) = t * m by omega]
      rfl
    · have h1 := Nat.mul_le_mul_right m (show k / m + 1 ≤ t from w)
      rw [Nat.succ_mul] at h1
      have h2 := Nat.mul_le_mul_right m (show t ≤ t + 1 by omega)
      rw [show min (k + 1) ((t + 1) * m) = k + 1 by omega, show min (k + 1) (t * m) = k + 1 by omega, show min k ((t + 1) * m) = k by omega, show min k (t * m) = k by omega]
      omega
theorem ctq_n {n m : Nat} {g : Nat → Nat} {t : Nat} (ht : t < n) : ctqN m g (n * m) t = lnN m g t := by
  have h1 := Nat.mul_le_mul_right m (show t + 1 ≤ n from ht)
  have h2 := Nat.mul_le_mul_right m (show t ≤ t + 1 by omega)
  unfold ctqN lnN
  rw [show min (n * m) ((t + 1) * m) = (t + 1) * m by omega, show min (n * m) (t * m) = t * m by omega]
theorem ctq_le (m : Nat) (g : Nat → Nat) (k t : Nat) (hk : k ≤ 4096) : ctqN m g k t ≤ EE g 4096 := by
  have := EE_mono g (show min k ((t + 1) * m) ≤ 4096 by omega)
  unfold ctqN
  omega
theorem l89b (hi : MI q g) (hf : f < 4) {Q : amOut → Prop} {hs0 : amH} {w5 w6 w7 : Option Value} (hfin : ∀ (hs : amH) (A B C D E : Nat → Nat), MSx hs q g l A B C D E → Fr hs0 hs 39 47 → (∀ t, t < 2 ^ q f → A t = 0 ∧ B t = 0 ∧ C t = ctqN (2 ^ (12 - q f)) (g f) 4096 t ∧ E t = 0) → EvQ 89 108 [some (.ref 39), some (.int (nI f)), some (.int (nI (2 ^ q f))), some (.int (nI (12 - q f))), some (.int (nI 4096)), w5, w6, w7] [] hs 0 0 Q) : ∀ (d k : Nat) (hs : amH) (A B C D E : Nat → Nat), k + d = 4096 → MSx hs q g l A B C D E → Fr hs0 hs 39 47 → (∀ t, t < 2 ^ q f → A t = 0 ∧ B t = 0 ∧ C t = ctqN (2 ^ (12 - q f)) (g f) k t ∧ E t = 0) → EvQ 89 66 [some (.ref 39), some (.int (nI f)), some (.int (nI (2 ^ q f))), some (.int (nI (12 - q f))), some (.int (nI k)), w5, w6, w7] [] hs 0 0 Q := by
  obtain ⟨o3, o8, o4, o5⟩ := hi f hf
  obtain ⟨l1, l2⟩ := hi.le hf
  obtain ⟨p1, p2⟩ := am_pow o3 o8
  have hm : 0 < 2 ^ (12 - q f) := Nat.two_pow_pos _
  intro d
  induction d with
  | zero =>
    intro k hs A B C D E hk h fr hz
    have hk2 : k = 4096 := by omega
    subst hk2
    refine eq_ (fun _ k => ev_iload f89_66 rfl k) ?_
    refine eq_ (fun _ k => ev_sipushN (n := 4096) (by decide +kernel) f89_68 k) ?_
    refine eq_icN (by omega) (by omega) (tgt := 108) f89_71 rfl (fun _ => ?_) (fun h9 => absurd (by simp only [akN] at *; omega) h9)
    exact hfin hs A B C D E h fr hz
  | succ d ih =>
    intro k hs A B C D E hk h fr hz
    have h9 := h
    obtain ⟨a, b, c, d1, e1, e2, e3, e4⟩ := h
    have hq := am_quo o3 o8 (show k < 4096 by omega)
    have ek := ct (g := g) (f := f) (show k < 4096 by omega)
    have b1 := l2 k
    rw [← ek] at b1
    obtain ⟨z1, z2, z3, z4⟩ := hz _ hq
    refine eq_ (fun _ k => ev_iload f89_66 rfl k) ?_
    refine eq_ (fun _ k => ev_sipushN (n := 4096) (by decide +kernel) f89_68 k) ?_
    refine eq_icN (by omega) (by omega) (tgt := 108) f89_71 rfl (fun h9 => absurd h9 (by simp only [akN] at *; omega)) (fun _ => ?_)
    refine eq_ (fun _ k => ev_aload_n f89_74 rfl k) ?_
    refine eq_ (fun _ k => ev_getf f89_75 (by assumption) rfl k) ?_
    refine eq_ (fun _ k => ev_iload f89_78 rfl k) ?_
    refine eq_ (fun _ k => ev_iload_n f89_80 rfl k) ?_
    refine eq_ (fun _ k => ev_ishr f89_81 k) ?_
    rw [pk_shrN (by omega) _ (12 - q f) (am_sh _ (by omega))]
    refine eq_ (fun _ k => ev_dup2 f89_82 rfl rfl k) ?_
    refine eq_ (fun _ k => ev_iald f89_83 (by assumption) (by omega) (by omega) k) ?_
    refine eq_ (fun _ k => ev_aload_n f89_84 rfl k) ?_
    refine eq_ (fun _ k => ev_getf f89_85 (by assumption) rfl k) ?_
    refine eq_ (fun _ k => ev_sipushN (n := 4096) (by decide +kernel) f89_88 k) ?_
    refine eq_ (fun _ k => ev_iload_n f89_91 rfl k) ?_
    first | refine eq_ (fun _ k => ev_imulN f89_92 k) ?_ | refine eq_ (fun _ k => ev_imul f89_92 k) ?_
    refine eq_ (fun _ k => ev_iload f89_93 rfl k) ?_
    first | refine eq_ (fun _ k => ev_iaddN f89_95 k) ?_ | refine eq_ (fun _ k => ev_iadd f89_95 k) ?_
    refine eq_ (fun _ k => ev_iald f89_96 (by assumption) (by omega) (by omega) k) ?_
    refine eq_ (fun _ k => ev_s1 f89_97 (by decide) ow84 rfl (Nat.le_of_ble_eq_true rfl) (c84 (by omega)) k) ?_
    first | refine eq_ (fun _ k => ev_iaddN f89_100 k) ?_ | refine eq_ (fun _ k => ev_iadd f89_100 k) ?_
    refine eq_iast f89_101 (by assumption) (by omega) (by omega) (by omega) (fun hs1 x1 => ?_)
    refine eq_ (fun _ k => ev_iincN (d := 1) f89_102 rfl k) ?_
    refine eq_ (fun _ k => ev_goto (tgt := 66) f89_105 rfl k) ?_
    have m1 := h9.s44 x1
    refine ih (k + 1) hs1 _ _ _ _ _ (by omega) m1 (fr.tr (Fr.st x1 (by omega) (by omega))) (fun t ht => ?_)
    obtain ⟨y1, y2, y3, y4⟩ := hz t ht
    refine ⟨y1, y2, ?_, y4⟩
    rw [ctq_s hm]
    by_cases w : t = k / 2 ^ (12 - q f)
    · rw [if_pos w, w, updN_at, z3, ek]
    · rw [if_neg w, updN_ne _ _ w, y3]
      rfl
end LA
